/-! ===== turned ===== -/
theorem shl_gen (n : Nat) {k : Nat} (hk : k < 32) : nI n <<< (nI k &&& 31) = nI (n * 2 ^ k) := by
  have h := pk_shl (nI n) (nI k &&& 31) k (s_l k hk)
  have e : ∀ m : Nat, (nI m).toBitVec.toNat = m % 2 ^ 32 := fun m => BitVec.toNat_ofNat m 32
  refine Int32.toBitVec_inj.mp (BitVec.eq_of_toNat_eq ?_)
  rw [h, e, e, Nat.mod_mul_mod]
/-- an order turned by k stones -/
def tn (n o k : Nat) : Nat := o % 4 ^ (n - k) * 4 ^ k + o / 4 ^ (n - k)
section TN
variable {n o k z : Nat}
theorem tn_lo (ho : o < 4 ^ n) (hk : k ≤ n) : o / 4 ^ (n - k) < 4 ^ k := by
  rw [Nat.div_lt_iff_lt_mul (Nat.pow_pos (by decide)), ← Nat.pow_add]
  rw [show k + (n - k) = n by omega]
  exact ho
theorem tn_lt (ho : o < 4 ^ n) (hk : k ≤ n) : tn n o k < 4 ^ n := by
  have h1 := tn_lo ho hk
  have h2 : o % 4 ^ (n - k) < 4 ^ (n - k) := Nat.mod_lt _ (Nat.pow_pos (by decide))
  have h3 : 4 ^ n = 4 ^ (n - k) * 4 ^ k := by rw [← Nat.pow_add]; congr 1; omega
  unfold tn
  have h4 : (o % 4 ^ (n - k) + 1) * 4 ^ k ≤ 4 ^ (n - k) * 4 ^ k := Nat.mul_le_mul_right _ h2
  rw [Nat.add_mul, Nat.one_mul] at h4
  omega
theorem turned_nI (hn : n ≤ 9) (ho : o < 4 ^ n) (hk : k < n) : fX6_turned (nI o) (nI k) (nI n) = nI (tn n o k) := by
  have ho2 := o31 hn ho
  unfold fX6_turned
  have e1 : (2 : Int32) * nI k = nI (2 * k) := pk_mul 2 k
  have e2 : (2 : Int32) * nI n = nI (2 * n) := pk_mul 2 n
  have e3 : (2 : Int32) * (nI n - nI k) = nI (2 * (n - k)) := by rw [pk_sub (by omega)]; exact pk_mul 2 _
  rw [e1, e2, e3, shl_gen o (by omega), pk_shrN ho2 _ (2 * (n - k)) (s_l _ (by omega)), ← p42, ← p42]
  rw [show (1 : Int32) = nI 1 from rfl, shl_gen 1 (by omega), ← p42, Nat.one_mul, pk_sub (Nat.pow_pos (by decide)), fa_or, p42 n, fa_mask, ← p42]
  congr 1
  have h1 := tn_lo ho (Nat.le_of_lt hk)
  have eor : o * 4 ^ k ||| o / 4 ^ (n - k) = o * 4 ^ k + o / 4 ^ (n - k) := by
    have := Nat.two_pow_add_eq_or_of_lt (i := 2 * k) (b := o / 4 ^ (n - k)) (by rw [← p42]; exact h1) o
    rw [← p42, Nat.mul_comm] at this
    exact this.symm
  rw [eor]
  have h3 : 4 ^ n = 4 ^ (n - k) * 4 ^ k := by rw [← Nat.pow_add]; congr 1; omega
  have h5 : o * 4 ^ k + o / 4 ^ (n - k) = 4 ^ n * (o / 4 ^ (n - k)) + tn n o k := by
    unfold tn
    conv => lhs; lhs; rw [← Nat.div_add_mod o (4 ^ (n - k))]
    rw [h3, Nat.add_mul]
    simp only [Nat.mul_assoc, Nat.mul_comm, Nat.mul_left_comm, Nat.add_assoc]
  rw [h5, Nat.mul_add_mod, Nat.mod_eq_of_lt (tn_lt ho (Nat.le_of_lt hk))]
/-- whence a stone's frog came -/
def src (n k x : Nat) : Nat := if k ≤ x then x - k else x + n - k
theorem kd_tn (ho : o < 4 ^ n) (hk : k < n) {x : Nat} (hx : x < n) : kd (tn n o k) x = kd o (src n k x) := by
  unfold tn src
  rw [kd_cat (tn_lo ho (Nat.le_of_lt hk))]
  by_cases c : x < k
  · rw [if_pos c, if_neg (by omega)]
    unfold kd
    rw [Nat.div_div_eq_div_mul, ← Nat.pow_add, show n - k + x = x + n - k by omega]
  · rw [if_neg c, if_pos (by omega), kd_mod (by omega)]
theorem turnedM_nI (hn : n ≤ 9) (ho : o < 4 ^ n) (hk : k < n) (hz : 20 < z) : fX10_turned z (nI o) (nI k) (nI n) = some (nI (tn n o k)) := by
  have ho2 := o31 hn ho
  unfold fX10_turned
  have main : ∃ e, lp (fun sg => fX10_turned_L5 z (nI o) (nI k) sg.1 sg.2 (nI n)) z (0, 0) = some e ∧ e = nI (tn n o k) := by
    refine lp_rel0 (fun (i : Nat) (t : Int32 × Int32) => t.2 = nI i ∧ ∃ v, t.1 = nI v ∧ v < 4 ^ n ∧ ∀ x, x < n → kd v x = if src n k x < i then kd o (src n k x) else 0) _ n ⟨rfl, 0, rfl, Nat.pow_pos (by decide), fun x _ => by rw [if_neg (by omega), kd_0]⟩ (fun i t hi hr => ?_) (fun t hr => ?_) (by omega)
    · obtain ⟨y, x⟩ := t
      obtain ⟨r1, v, r2, r3, r4⟩ := hr
      dsimp only at r1 r2
      subst r1 r2
      show ∃ s', fX10_turned_L5 z (nI o) (nI k) (nI v) (nI i) (nI n) = _ ∧ _
      unfold fX10_turned_L5
      have hm : (i + k) % n < n := Nat.mod_lt _ (by omega)
      have hme : (i + k) % n = if i + k < n then i + k else i + k - n := by
        by_cases c : i + k < n
        · rw [if_pos c, Nat.mod_eq_of_lt c]
        · rw [if_neg c, Nat.mod_eq_sub_mod (by omega), Nat.mod_eq_of_lt (by omega)]
      have h4 := kd_lt o i
      have h5 : kd o i * 4 ^ ((i + k) % n) ≤ 3 * 65536 := Nat.mul_le_mul (by omega) (p49 (by omega))
      rw [if_neg (nI_ge hi (by omega)), dgd_ne (nI_ne0 (by omega) (by omega)), nI_add, rem_nI (by omega) (by omega) (by omega), at_nI ho2 (by omega), shl_nI (by omega) (by omega), fa_or, nI_1]
      refine ⟨_, rfl, rfl, _, rfl, kd_lt_pow (fun x hx => ?_), fun x hx => ?_⟩
      · rw [kd_or, kd_one h4, kd_big r3 hx, if_neg (by omega)]; rfl
      · rw [kd_or, kd_one h4, r4 x hx]
        have hs : src n k x = i ↔ x = (i + k) % n := by
          rw [hme]
          unfold src
          split <;> split <;> omega
        by_cases c : x = (i + k) % n
        · rw [if_pos c, hs.mpr c, if_neg (by omega), if_pos (by omega)]
          exact Nat.zero_or _
        · rw [if_neg c, Nat.or_zero]
          have : src n k x ≠ i := fun e => c (hs.mp e)
          by_cases c2 : src n k x < i
          · rw [if_pos c2, if_pos (by omega)]
          · rw [if_neg c2, if_neg (by omega)]
    · obtain ⟨y, x⟩ := t
      obtain ⟨r1, v, r2, r3, r4⟩ := hr
      dsimp only at r1 r2
      subst r1 r2
      show ∃ e, fX10_turned_L5 z (nI o) (nI k) (nI v) (nI n) (nI n) = _ ∧ _
      unfold fX10_turned_L5
      rw [if_pos (nI_le (Nat.le_refl _) (by omega))]
      refine ⟨_, rfl, congrArg nI (kd_ext r3 (tn_lt ho (Nat.le_of_lt hk)) (fun x hx => ?_))⟩
      rw [r4 x hx, kd_tn ho hk hx, if_pos (by unfold src; split <;> omega)]
  obtain ⟨e, e1, e2⟩ := main
  rw [e1, e2]
  rfl
theorem tn_0 (ho : o < 4 ^ n) : tn n o 0 = o := by
  unfold tn
  rw [Nat.sub_zero, Nat.mod_eq_of_lt ho, Nat.div_eq_of_lt ho]
  simp
theorem ct_tn (ho : o < 4 ^ n) (hk : k ≤ n) (q : Nat) : ct q (tn n o k) n = ct q o n := by
  have h1 := ct_cat (hi := o % 4 ^ (n - k)) (lo := o / 4 ^ (n - k)) (tn_lo ho hk) q (n - k)
  have h2 := ct_cat (hi := o / 4 ^ (n - k)) (lo := o % 4 ^ (n - k)) (m := n - k) (Nat.mod_lt _ (Nat.pow_pos (by decide))) q k
  rw [Nat.mul_comm, Nat.div_add_mod, show n - k + k = n by omega] at h2
  rw [show k + (n - k) = n by omega] at h1
  show ct q (o % 4 ^ (n - k) * 4 ^ k + o / 4 ^ (n - k)) n = _
  rw [h1, h2, Nat.add_comm]
theorem tn_tn (ho : o < 4 ^ n) {j : Nat} (hj : j < n) (hk : k < n) : tn n (tn n o j) k = tn n o (if j + k < n then j + k else j + k - n) := by
  have h1 := tn_lt ho (Nat.le_of_lt hj)
  have hm : (if j + k < n then j + k else j + k - n) < n := by split <;> omega
  refine kd_ext (n := n) (tn_lt h1 (Nat.le_of_lt hk)) (tn_lt ho (Nat.le_of_lt hm)) (fun x hx => ?_)
  have hs : src n k x < n := by unfold src; split <;> omega
  rw [kd_tn h1 hk hx, kd_tn ho hj hs, kd_tn ho hm hx]
  congr 1
  unfold src
  (repeat' split) <;> omega
end TN
/-! ===== alike ===== -/
theorem alike_pair {n o z : Nat} {ha xa ma xr sort : Int32} {ring : Bool} (hn : n ≤ 9) (ho : o < 4 ^ n) (hz : 30 < z) (hA : AM n o ha xa ma) (hr : xr = b01 ring) (hs : 0 < n → (sort = 114 ↔ ring = true)) :
    ∃ r, fX9_alike z ha xr (nI n) (nI o) xa = some r ∧ fX10_alike z (nI n) ma sort (nI o) = some r := by
  unfold fX9_alike fX10_alike
  rcases hA with ⟨rfl, rfl⟩ | ⟨rfl, hn0, a, rfl, rfl, hV⟩
  · rw [if_pos rfl, noAim_m1, if_neg (show ¬ (1 : Int32) = 0 by decide)]
    exact ⟨_, rfl, rfl⟩
  · rw [if_neg (show ¬ (1 : Int32) = 0 by decide), noAim_a hn0 (by omega) (o31 hn hV.1), if_pos rfl]
    subst hr
    cases ring with
    | false =>
      rw [if_pos (show b01 false = 0 from rfl), if_neg (fun e => absurd ((hs hn0).mp e) (by decide))]
      exact ⟨_, rfl, rfl⟩
    | true =>
      rw [if_neg (show ¬ b01 true = 0 by decide), if_pos ((hs hn0).mpr rfl)]
      have ha2 := o31 hn hV.1
      have hle : fa_first (fun k => tn n o k == a) n ≤ n := fa_first_le _ _
      have s1 : ∀ k, k < fa_first (fun k => tn n o k == a) n → fX9_alike_L22 z (nI k) 1 (b01 true) (nI n) (nI o) (nI a) = some (.inl (nI (k + 1))) := by
        intro k hk
        have hno := fa_first_no _ n k hk
        have hne : ¬ tn n o k = a := by simpa using hno
        unfold fX9_alike_L22
        rw [if_neg (nI_ge (by omega) (by omega)), turned_nI hn ho (by omega), if_neg (nlit (o31 hn (tn_lt ho (by omega))) ha2 hne), nI_1]
      have s2 : ∀ k, k < fa_first (fun k => tn n o k == a) n → fX10_alike_L21 z (nI k) (nI n) (nI a) sort (nI o) = some (.inl (nI (k + 1))) := by
        intro k hk
        have hno := fa_first_no _ n k hk
        have hne : ¬ tn n o k = a := by simpa using hno
        unfold fX10_alike_L21
        rw [if_neg (nI_ge (by omega) (by omega)), turnedM_nI hn ho (by omega) (by omega), Option.bind_some, if_neg (nlit (o31 hn (tn_lt ho (by omega))) ha2 hne), nI_1]
      by_cases c : fa_first (fun k => tn n o k == a) n < n
      · have hyes := fa_first_yes _ n c
        have he : tn n o (fa_first (fun k => tn n o k == a) n) = a := eq_of_beq hyes
        rw [lp_0 (f := fun sg => fX9_alike_L22 z sg 1 (b01 true) (nI n) (nI o) (nI a)) (z := z) (s0 := 0) (N := fa_first (fun k => tn n o k == a) n) (e := .inr (nI (fa_first (fun k => tn n o k == a) n))) (fun k => nI k) rfl s1 (by
          show fX9_alike_L22 z (nI (fa_first (fun k => tn n o k == a) n)) 1 (b01 true) (nI n) (nI o) (nI a) = _
          unfold fX9_alike_L22
          rw [if_neg (nI_ge c (by omega)), turned_nI hn ho c, he, if_pos rfl]) (by omega)]
        rw [lp_0 (f := fun sg => fX10_alike_L21 z sg (nI n) (nI a) sort (nI o)) (z := z) (s0 := 0) (N := fa_first (fun k => tn n o k == a) n) (e := .inr (nI (fa_first (fun k => tn n o k == a) n))) (fun k => nI k) rfl s2 (by
          show fX10_alike_L21 z (nI (fa_first (fun k => tn n o k == a) n)) (nI n) (nI a) sort (nI o) = _
          unfold fX10_alike_L21
          rw [if_neg (nI_ge c (by omega)), turnedM_nI hn ho c (by omega), Option.bind_some, he, if_pos rfl]) (by omega)]
        exact ⟨_, rfl, rfl⟩
      · rw [lp_0 (f := fun sg => fX9_alike_L22 z sg 1 (b01 true) (nI n) (nI o) (nI a)) (z := z) (s0 := 0) (N := n) (e := .inl ()) (fun k => nI k) rfl (fun k hk => s1 k (by omega)) (by
          show fX9_alike_L22 z (nI n) 1 (b01 true) (nI n) (nI o) (nI a) = _
          unfold fX9_alike_L22
          rw [if_pos (nI_le (Nat.le_refl _) (by omega))]) (by omega)]
        rw [lp_0 (f := fun sg => fX10_alike_L21 z sg (nI n) (nI a) sort (nI o)) (z := z) (s0 := 0) (N := n) (e := .inl ()) (fun k => nI k) rfl (fun k hk => s2 k (by omega)) (by
          show fX10_alike_L21 z (nI n) (nI n) (nI a) sort (nI o) = _
          unfold fX10_alike_L21
          rw [if_pos (nI_le (Nat.le_refl _) (by omega))]) (by omega)]
        exact ⟨_, rfl, rfl⟩
