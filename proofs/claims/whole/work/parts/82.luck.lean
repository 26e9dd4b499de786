/-! ===== LUCK: the reference's, and what is shared ===== -/
theorem gcd_r (a b : Nat) : Nat.gcd a b = Nat.gcd b (a % b) := by rw [Nat.gcd_comm, Nat.gcd_rec, Nat.gcd_comm]
theorem half {b c k : Nat} (hb : b < 2 ^ (k + 1)) (hc : 0 < c) (hcb : c < b) : b % c < 2 ^ k := by
  have h1 := Nat.mod_lt b hc
  have h2 := Nat.div_add_mod b c
  have h3 : 1 ≤ b / c := Nat.div_pos (by omega) hc
  have h4 : c * 1 ≤ c * (b / c) := Nat.mul_le_mul_left c h3
  rw [Nat.pow_succ] at hb
  omega
theorem shared_lp : ∀ (k a b r y w : Nat), b < 2 ^ k → a < 2 ^ 31 → b < 2 ^ 31 → r + 2 * k < 64 → 2 * k + 1 < y →
    lp (fun sg => fX9_greatestShared_L7 w sg.1 sg.2.1 sg.2.2) y (nI a, nI b, nI r) = some (nI (Nat.gcd a b))
  | k, a, 0, r, y, w, _, ha, _, hr, hy => by
    obtain ⟨y, rfl⟩ : ∃ y', y = y' + 1 := ⟨y - 1, by omega⟩
    refine lp_out ?_
    show fX9_greatestShared_L7 w (nI a) (nI 0) (nI r) = _
    unfold fX9_greatestShared_L7
    rw [if_neg (show ¬ (64 : Int32) ≤ nI r from nI_ge (a := r) (b := 64) (by omega) (by decide)), if_pos (show nI 0 = 0 from rfl), Nat.gcd_zero_right]
  | 0, a, b + 1, r, y, w, hb, _, _, _, _ => by simp at hb
  | k + 1, a, b + 1, r, y, w, hb, ha, hb31, hr, hy => by
    obtain ⟨y, rfl⟩ : ∃ y', y = y' + 1 := ⟨y - 1, by omega⟩
    have hm := Nat.mod_lt a (show 0 < b + 1 by omega)
    rw [lp_in (s' := (nI (b + 1), nI (a % (b + 1)), nI (r + 1)))]
    · rw [gcd_r a (b + 1)]
      generalize a % (b + 1) = c at *
      cases c with
      | zero =>
        obtain ⟨y, rfl⟩ : ∃ y', y = y' + 1 := ⟨y - 1, by omega⟩
        refine lp_out ?_
        show fX9_greatestShared_L7 w (nI (b + 1)) (nI 0) (nI (r + 1)) = _
        unfold fX9_greatestShared_L7
        rw [if_neg (show ¬ (64 : Int32) ≤ nI (r + 1) from nI_ge (a := r + 1) (b := 64) (by omega) (by decide)), if_pos (show nI 0 = 0 from rfl), Nat.gcd_zero_right]
      | succ c =>
        obtain ⟨y, rfl⟩ : ∃ y', y = y' + 1 := ⟨y - 1, by omega⟩
        have hh := half hb (show 0 < c + 1 by omega) hm
        rw [lp_in (s' := (nI (c + 1), nI ((b + 1) % (c + 1)), nI (r + 2)))]
        · rw [gcd_r (b + 1) (c + 1)]
          exact shared_lp k (c + 1) ((b + 1) % (c + 1)) (r + 2) y w hh (by omega) (by have := Nat.mod_lt (b + 1) (show 0 < c + 1 by omega); omega) (by omega) (by omega)
        · show fX9_greatestShared_L7 w (nI (b + 1)) (nI (c + 1)) (nI (r + 1)) = _
          unfold fX9_greatestShared_L7
          rw [if_neg (show ¬ (64 : Int32) ≤ nI (r + 1) from nI_ge (a := r + 1) (b := 64) (by omega) (by decide)), if_neg (nI_ne0 (by omega) (by omega)), dgd_ne (nI_ne0 (by omega) (by omega)), rem_nI (by omega) (by omega) (by omega), nI_1]
    · show fX9_greatestShared_L7 w (nI a) (nI (b + 1)) (nI r) = _
      unfold fX9_greatestShared_L7
      rw [if_neg (show ¬ (64 : Int32) ≤ nI r from nI_ge (a := r) (b := 64) (by omega) (by decide)), if_neg (nI_ne0 (by omega) (by omega)), dgd_ne (nI_ne0 (by omega) (by omega)), rem_nI (by omega) (by omega) (by omega), nI_1]
theorem shared_nI {a b z : Nat} (ha : a ≤ 531441) (hb : b ≤ 531441) (hz : 100 < z) : fX9_greatestShared z (nI a) (nI b) = some (nI (Nat.gcd a b)) := by
  unfold fX9_greatestShared
  rw [show (nI a, nI b, (0 : Int32)) = (nI a, nI b, nI 0) from rfl, shared_lp 20 a b 0 z z (by omega) (by omega) (by omega) (by omega) (by omega), Option.bind_some]
  rfl
theorem common_lp : ∀ (k a b y w : Nat), a < 2 ^ k → a < 2 ^ 31 → b < 2 ^ 31 → 2 * k + 1 < y →
    lp (fun sg => fX10_common_L4 w sg.1 sg.2) y (nI a, nI b) = some (nI (Nat.gcd a b))
  | k, 0, b, y, w, _, _, hb, hy => by
    obtain ⟨y, rfl⟩ : ∃ y', y = y' + 1 := ⟨y - 1, by omega⟩
    refine lp_out ?_
    show fX10_common_L4 w (nI 0) (nI b) = _
    unfold fX10_common_L4
    rw [if_pos (show nI 0 = 0 from rfl), Nat.gcd_zero_left]
  | 0, a + 1, b, y, w, ha, _, _, _ => by simp at ha
  | k + 1, a + 1, b, y, w, ha, ha31, hb, hy => by
    obtain ⟨y, rfl⟩ : ∃ y', y = y' + 1 := ⟨y - 1, by omega⟩
    have hm := Nat.mod_lt b (show 0 < a + 1 by omega)
    rw [lp_in (s' := (nI (b % (a + 1)), nI (a + 1)))]
    · rw [Nat.gcd_rec (a + 1) b]
      generalize b % (a + 1) = c at *
      cases c with
      | zero =>
        obtain ⟨y, rfl⟩ : ∃ y', y = y' + 1 := ⟨y - 1, by omega⟩
        refine lp_out ?_
        show fX10_common_L4 w (nI 0) (nI (a + 1)) = _
        unfold fX10_common_L4
        rw [if_pos (show nI 0 = 0 from rfl), Nat.gcd_zero_left]
      | succ c =>
        obtain ⟨y, rfl⟩ : ∃ y', y = y' + 1 := ⟨y - 1, by omega⟩
        have hh := half ha (show 0 < c + 1 by omega) hm
        rw [lp_in (s' := (nI ((a + 1) % (c + 1)), nI (c + 1)))]
        · rw [Nat.gcd_rec (c + 1) (a + 1)]
          exact common_lp k ((a + 1) % (c + 1)) (c + 1) y w hh (by have := Nat.mod_lt (a + 1) (show 0 < c + 1 by omega); omega) (by omega) (by omega)
        · show fX10_common_L4 w (nI (c + 1)) (nI (a + 1)) = _
          unfold fX10_common_L4
          rw [if_neg (nI_ne0 (by omega) (by omega)), dgd_ne (nI_ne0 (by omega) (by omega)), rem_nI (by omega) (by omega) (by omega)]
    · show fX10_common_L4 w (nI (a + 1)) (nI b) = _
      unfold fX10_common_L4
      rw [if_neg (nI_ne0 (by omega) (by omega)), dgd_ne (nI_ne0 (by omega) (by omega)), rem_nI (by omega) (by omega) (by omega)]
theorem common_nI {a b z : Nat} (ha : a ≤ 531441) (hb : b ≤ 531441) (hz : 100 < z) : fX10_common z (nI a) (nI b) = some (nI (Nat.gcd a b)) := by
  unfold fX10_common
  rw [common_lp 20 a b z z (by omega) (by omega) (by omega) (by omega), Option.bind_some]
  rfl
theorem power_nI {F t z : Nat} (ht : t ≤ 6) (hz : 20 < z) : fX9_power z (nI F) (nI t) = some (nI (F ^ t)) := by
  unfold fX9_power
  rw [lp_0 (fun i => (nI (F ^ i), nI i)) (N := t) (e := nI (F ^ t)) (s0 := (1, 0)) rfl (fun i hi => ?_) ?_ (by omega)]
  · rfl
  · show fX9_power_L4 z (nI F) (nI t) (nI (F ^ t)) (nI t) = _
    unfold fX9_power_L4
    rw [if_pos (nI_le (Nat.le_refl _) (by omega))]
  · show fX9_power_L4 z (nI F) (nI t) (nI (F ^ i)) (nI i) = some (.inl (nI (F ^ (i + 1)), nI (i + 1)))
    unfold fX9_power_L4
    rw [if_neg (nI_ge hi (by omega)), pk_mul, nI_1, Nat.pow_succ]
theorem pow_9 {F t : Nat} (hF : F ≤ 9) (h0 : 0 < F) (ht : t ≤ 6) : F ^ t ≤ 531441 ∧ 0 < F ^ t := by
  have h1 : F ^ t ≤ 9 ^ t := Nat.pow_le_pow_left hF t
  have h2 : 9 ^ t ≤ 9 ^ 6 := Nat.pow_le_pow_right (by decide) ht
  have h5 : (9 : Nat) ^ 6 = 531441 := by decide
  exact ⟨by omega, Nat.pow_pos h0⟩
/-- the first k frogs' share -/
def lK (n : Nat) (c : Nat → Nat → Nat → Bool) (x q v k : Nat) : Nat := fb_sm (fun s => if fc x s < k then lS n c x q v s else 0) n
section LK
variable {n : Nat} {c : Nat → Nat → Nat → Bool} {x q v k : Nat}
theorem lK_0 : lK n c x q v 0 = 0 := by
  unfold lK
  rw [show fb_sm (fun s => if fc x s < 0 then lS n c x q v s else 0) n = fb_sm (fun _ => 0) n from fb_sm_cong (fun s _ => if_neg (by omega)), fb_sm_const, Nat.mul_zero]
theorem fc_one {i j : Nat} (hi : kd x i ≠ 0) (hj : kd x j ≠ 0) (e : fc x i = fc x j) : i = j := fb_ct_kth_one (p := fun i => kd x i != 0) (by simpa using hi) (by simpa using hj) e
theorem lK_s (hk : k < fr n x) : lK n c x q v (k + 1) = lK n c x q v k + (if aL n c x (sF n x k) = q then v else 0) := by
  obtain ⟨s1, s2, s3⟩ := sF_ok hk
  have e : fb_sm (fun s => if fc x s < k + 1 then lS n c x q v s else 0) n = fb_sm (fun s => if s = sF n x k then lS n c x q v (sF n x k) else (if fc x s < k then lS n c x q v s else 0)) n := fb_sm_cong (fun s hs => by
    by_cases g : s = sF n x k
    · rw [if_pos g, g, if_pos (by omega)]
    · rw [if_neg g]
      by_cases h1 : fc x s < k
      · rw [if_pos h1, if_pos (by omega)]
      · rw [if_neg h1]
        by_cases h2 : fc x s < k + 1
        · rw [if_pos h2]
          unfold lS
          rw [if_pos]
          refine Decidable.byContradiction (fun h3 => g (fc_one h3 s2 (by omega)))
        · rw [if_neg h2])
  have u := fb_sm_upd (fun s => if fc x s < k then lS n c x q v s else 0) (lS n c x q v (sF n x k)) s1
  rw [if_neg (show ¬ fc x (sF n x k) < k by omega), Nat.add_zero] at u
  show fb_sm (fun s => if fc x s < k + 1 then lS n c x q v s else 0) n = fb_sm (fun s => if fc x s < k then lS n c x q v s else 0) n + _
  rw [e, u]
  unfold lS
  rw [if_neg s2]
theorem lK_all : lK n c x q v (fr n x) = lX n c x q v n := fb_sm_cong (fun s hs => by
  by_cases g : kd x s = 0
  · unfold lS
    rw [if_pos g]
    split <;> rfl
  · have h1 := fc_succ x s
    rw [if_neg g] at h1
    have h2 : fc x (s + 1) ≤ fc x n := fb_ct_mono _ (show s + 1 ≤ n by omega)
    have h3 := fc_fr n x
    rw [if_pos (by omega)])
end LK
section LR2
variable {n : Nat} {bk : Nat → Nat} {par : Nat → Int32} {oth two : Bool} {o z : Nat} {sort : Int32} {S : BS} {pl row far mr nw nx : Nat → Int32} {wy : Nat → Int64} {x1 x2 x3 aI rI : Int32}
set_option maxHeartbeats 400000 in
theorem luck_136 (hp : PB n bk) (hB : BO n bk sort par) (hn0 : 0 < n) (ho : o < 4 ^ n) (hG : HG n (cg bk two oth) (VO n o)) (hBI : BI (VO n o) S) (hL : BL n (cg bk two oth) o S) (hR : RM S pl row far wy mr) (hz : 8000 < z) {w : Nat → Nat} (hw : ∀ x ∈ S.1, w x < 2 ^ 31) (hnw : ∀ p, p < S.1.length → nw p = nI (w (S.1.getD p 0))) {P : Nat} (hP : P < S.1.length) {x4 : Int32}
    (hnx : ∀ j, j < S.1.length → nx j = nI (lT n (cg bk two oth) S.1 w (S.1.getD j 0) P)) :
    ∃ e, lp (fun sg => fX10_luck_L136 z x1 x2 x3 x4 (nI P) sg.1 (nI n) aI (nI o) rI row pl far wy mr (b01 two) sort par (b01 oth) nw sg.2) z (0, nx) = some e ∧ ∀ j, j < S.1.length → e j = nI (lT n (cg bk two oth) S.1 w (S.1.getD j 0) (P + 1)) := by
  have h9 := hp.1
  have hl := hG.2.2 _ hBI
  have hx := getD_mem hP
  have vx := hBI.2.1 _ hx
  have hx9 := hG.1 _ vx
  have efr : fr n (S.1.getD P 0) = fr n o := VO_fr vx
  have frl := fr_le n o
  have wx := hw _ hx
  obtain ⟨a1, -⟩ := hR.1 P hP
  have eT : ∀ q, lT n (cg bk two oth) S.1 w q (P + 1) = lT n (cg bk two oth) S.1 w q P + lX n (cg bk two oth) (S.1.getD P 0) q (w (S.1.getD P 0)) n := fun q => rfl
  by_cases c : w (S.1.getD P 0) = 0
  · refine ⟨nx, ?_, fun j hj => by rw [hnx j hj, eT, c, lX_0, Nat.add_zero]⟩
    obtain ⟨y, rfl⟩ : ∃ y, z = y + 1 := ⟨z - 1, by omega⟩
    refine lp_out ?_
    show fX10_luck_L136 (y + 1) x1 x2 x3 x4 (nI P) 0 (nI n) aI (nI o) rI row pl far wy mr (b01 two) sort par (b01 oth) nw nx = _
    unfold fX10_luck_L136
    rw [frogs_nI h9 ho (by omega), Option.bind_some, agd_in (show P < 7560 by omega) (by decide), cl_nI (show P < 2 ^ 31 by omega), hnw P hP, c, if_pos (show nI 0 ≤ (0 : Int32) by decide)]
    split <;> rfl
  · refine lp_rel0 (fun (k : Nat) (y : Int32 × (Nat → Int32)) => y.1 = nI k ∧ ∀ j, j < S.1.length → y.2 j = nI (lT n (cg bk two oth) S.1 w (S.1.getD j 0) P + lK n (cg bk two oth) (S.1.getD P 0) (S.1.getD j 0) (w (S.1.getD P 0)) k)) _ (fr n o) ⟨rfl, fun j hj => by rw [lK_0, Nat.add_zero]; exact hnx j hj⟩ (fun k y hk hr => ?_) (fun y hr => ?_) (by omega)
    · obtain ⟨y1, gg⟩ := y
      obtain ⟨r1, r2⟩ := hr
      dsimp only at r1 r2
      subst r1
      show ∃ s', fX10_luck_L136 z x1 x2 x3 x4 (nI P) (nI k) (nI n) aI (nI o) rI row pl far wy mr (b01 two) sort par (b01 oth) nw gg = _ ∧ _
      unfold fX10_luck_L136
      have hk' : k < fr n (S.1.getD P 0) := by rw [efr]; exact hk
      obtain ⟨s1, s2, s3⟩ := sF_ok hk'
      have q1 := aL_in hn0 hL hx s1
      have q9 := hG.1 _ (hBI.2.1 _ q1)
      obtain ⟨pq, p1, p2, p3⟩ := pl_in hR q9 hl q1
      rw [frogs_nI h9 ho (by omega), Option.bind_some, if_neg (nI_ge hk (by omega)), agd_in (show P < 7560 by omega) (by decide), cl_nI (show P < 2 ^ 31 by omega), hnw P hP, if_neg (show ¬ nI (w (S.1.getD P 0)) ≤ (0 : Int32) from nI_nle (by omega) (by omega)), agd_in (show P < 7560 by omega) (by decide), a1, letGo_nI hp hB hx9 hk' (by omega), Option.bind_some, agd_in (show _ < 262144 from q9) (by decide), cl_nI (show aL n (cg bk two oth) (S.1.getD P 0) (sF n (S.1.getD P 0) k) < 2 ^ 31 from Nat.lt_of_lt_of_le q9 (by decide)), p3, agd_in (show pq < 7560 by omega) (by decide), agd_in (show P < 7560 by omega) (by decide), agd_in (show pq < 7560 by omega) (by decide), cl_nI (show pq < 2 ^ 31 by omega), r2 pq p1, nI_add, nI_1]
      refine ⟨_, rfl, rfl, fun j hj => ?_⟩
      show upd gg pq _ j = _
      rw [lK_s hk', ← p2]
      by_cases g : j = pq
      · subst g
        rw [pk_us, if_pos rfl, Nat.add_assoc]
      · rw [pk_un g, r2 j hj, if_neg (fun e => g (getD_inj hBI.1 p1 hj e).symm), Nat.add_zero]
    · obtain ⟨y1, gg⟩ := y
      obtain ⟨r1, r2⟩ := hr
      dsimp only at r1 r2
      subst r1
      show ∃ s', fX10_luck_L136 z x1 x2 x3 x4 (nI P) (nI (fr n o)) (nI n) aI (nI o) rI row pl far wy mr (b01 two) sort par (b01 oth) nw gg = _ ∧ _
      unfold fX10_luck_L136
      rw [frogs_nI h9 ho (by omega), Option.bind_some, if_pos (nI_le (Nat.le_refl _) (by omega))]
      refine ⟨_, rfl, fun j hj => ?_⟩
      rw [r2 j hj, eT, ← efr, lK_all]
set_option maxHeartbeats 400000 in
theorem luck_82 (hp : PB n bk) (hB : BO n bk sort par) (hn0 : 0 < n) (ho : o < 4 ^ n) (hG : HG n (cg bk two oth) (VO n o)) (hBI : BI (VO n o) S) (hL : BL n (cg bk two oth) o S) (hR : RM S pl row far wy mr) (hz : 8000 < z) {t : Nat} (ht : t ≤ 6) (hnw : ∀ p, p < S.1.length → nw p = nI (lW n (cg bk two oth) S.1 o 0 (S.1.getD p 0))) :
    ∃ e, lp (fun sg => fX10_luck_L82 z (nI t) x2 sg.1 sg.2.1 (nI n) aI (nI o) (nI S.1.length) row pl far wy mr (b01 two) sort par (b01 oth) sg.2.2.1 sg.2.2.2) z (1, 0, nw, nx) = some e ∧ e.1 = nI (fr n o ^ t) ∧ ∀ j, j < S.1.length → e.2.1 j = nI (lW n (cg bk two oth) S.1 o t (S.1.getD j 0)) := by
  have h9 := hp.1
  have hl := hG.2.2 _ hBI
  refine lp_rel0 (fun (i : Nat) (y : Int32 × Int32 × (Nat → Int32) × (Nat → Int32)) => y.1 = nI (fr n o ^ i) ∧ y.2.1 = nI i ∧ ∀ p, p < S.1.length → y.2.2.1 p = nI (lW n (cg bk two oth) S.1 o i (S.1.getD p 0))) _ t ⟨rfl, rfl, hnw⟩ (fun i y hi hr => ?_) (fun y hr => ?_) (by omega)
  · obtain ⟨y1, y2, nw, nx⟩ := y
    obtain ⟨r1, r2, r3⟩ := hr
    dsimp only at r1 r2 r3
    subst r1
    subst r2
    show ∃ s', fX10_luck_L82 z (nI t) x2 (nI (fr n o ^ i)) (nI i) (nI n) aI (nI o) (nI S.1.length) row pl far wy mr (b01 two) sort par (b01 oth) nw nx = _ ∧ _
    unfold fX10_luck_L82
    rw [if_neg (nI_ge hi (by omega)), frogs_nI h9 ho (by omega), Option.bind_some, pk_mul, ← Nat.pow_succ]
    have hw : ∀ x ∈ S.1, lW n (cg bk two oth) S.1 o i x < 2 ^ 31 := fun x hx => by
      have := lW_lt (c := cg bk two oth) (o := o) h9 hBI.1 (show i ≤ 6 by omega) hx
      omega
    have f98 : ∃ e, lp (fun sg => fX10_luck_L98 z (nI t) x2 (nI (fr n o ^ (i + 1))) (nI i) sg.1 (nI n) aI (nI o) (nI S.1.length) row pl far wy mr (b01 two) sort par (b01 oth) nw sg.2) z (0, nx) = some e ∧ ∀ p, p < S.1.length → e p = 0 := by
      refine lp_rel0 (fun (p : Nat) (y : Int32 × (Nat → Int32)) => y.1 = nI p ∧ ∀ j, j < p → y.2 j = 0) _ S.1.length ⟨rfl, fun j hj => by omega⟩ (fun p y hp' hr => ?_) (fun y hr => ?_) (by omega)
      · obtain ⟨y1, gg⟩ := y
        obtain ⟨r1, r2⟩ := hr
        dsimp only at r1 r2
        subst r1
        show ∃ s', fX10_luck_L98 z (nI t) x2 (nI (fr n o ^ (i + 1))) (nI i) (nI p) (nI n) aI (nI o) (nI S.1.length) row pl far wy mr (b01 two) sort par (b01 oth) nw gg = _ ∧ _
        unfold fX10_luck_L98
        rw [if_neg (nI_ge hp' (by omega)), agd_in (show p < 7560 by omega) (by decide), cl_nI (show p < 2 ^ 31 by omega), nI_1]
        refine ⟨_, rfl, rfl, fun j hj => ?_⟩
        show upd gg p 0 j = 0
        by_cases g : j = p
        · rw [g, pk_us]
        · rw [pk_un g]
          exact r2 j (by omega)
      · obtain ⟨y1, gg⟩ := y
        obtain ⟨r1, r2⟩ := hr
        dsimp only at r1 r2
        subst r1
        show ∃ s', fX10_luck_L98 z (nI t) x2 (nI (fr n o ^ (i + 1))) (nI i) (nI S.1.length) (nI n) aI (nI o) (nI S.1.length) row pl far wy mr (b01 two) sort par (b01 oth) nw gg = _ ∧ _
        unfold fX10_luck_L98
        rw [if_pos (nI_le (Nat.le_refl _) (by omega))]
        exact ⟨_, rfl, r2⟩
    obtain ⟨nx1, c1, c2⟩ := f98
    rw [c1, Option.bind_some]
    unfold fX10_luck_J121
    have f124 : ∃ e, lp (fun sg => fX10_luck_L124 z (nI t) x2 (nI (fr n o ^ (i + 1))) (nI i) sg.1 (nI n) aI (nI o) (nI S.1.length) row pl far wy mr (b01 two) sort par (b01 oth) nw sg.2) z (0, nx1) = some e ∧ ∀ j, j < S.1.length → e j = nI (lW n (cg bk two oth) S.1 o (i + 1) (S.1.getD j 0)) := by
      refine lp_rel0 (fun (p : Nat) (y : Int32 × (Nat → Int32)) => y.1 = nI p ∧ ∀ j, j < S.1.length → y.2 j = nI (lT n (cg bk two oth) S.1 (lW n (cg bk two oth) S.1 o i) (S.1.getD j 0) p)) _ S.1.length ⟨rfl, fun j hj => c2 j hj⟩ (fun p y hp' hr => ?_) (fun y hr => ?_) (by omega)
      · obtain ⟨y1, gg⟩ := y
        obtain ⟨r1, r2⟩ := hr
        dsimp only at r1 r2
        subst r1
        show ∃ s', fX10_luck_L124 z (nI t) x2 (nI (fr n o ^ (i + 1))) (nI i) (nI p) (nI n) aI (nI o) (nI S.1.length) row pl far wy mr (b01 two) sort par (b01 oth) nw gg = _ ∧ _
        unfold fX10_luck_L124
        obtain ⟨e, k1, k2⟩ := luck_136 (z := z) (x1 := nI t) (x2 := x2) (x3 := nI (fr n o ^ (i + 1))) (x4 := nI i) (aI := aI) (rI := nI S.1.length) hp hB hn0 ho hG hBI hL hR hz hw r3 hp' r2
        rw [if_neg (nI_ge hp' (by omega)), k1, Option.bind_some]
        unfold fX10_luck_J196
        exact ⟨_, rfl, nI_1 p, k2⟩
      · obtain ⟨y1, gg⟩ := y
        obtain ⟨r1, r2⟩ := hr
        dsimp only at r1 r2
        subst r1
        show ∃ s', fX10_luck_L124 z (nI t) x2 (nI (fr n o ^ (i + 1))) (nI i) (nI S.1.length) (nI n) aI (nI o) (nI S.1.length) row pl far wy mr (b01 two) sort par (b01 oth) nw gg = _ ∧ _
        unfold fX10_luck_L124
        rw [if_pos (nI_le (Nat.le_refl _) (by omega))]
        exact ⟨_, rfl, r2⟩
    obtain ⟨nx2, d1, d2⟩ := f124
    rw [d1, Option.bind_some]
    unfold fX10_luck_J202
    have f205 : ∃ e, lp (fun sg => fX10_luck_L205 z (nI t) x2 (nI (fr n o ^ (i + 1))) (nI i) sg.1 (nI n) aI (nI o) (nI S.1.length) row pl far wy mr (b01 two) sort par (b01 oth) sg.2 nx2) z (0, nw) = some e ∧ ∀ j, j < S.1.length → e j = nx2 j := by
      refine lp_rel0 (fun (p : Nat) (y : Int32 × (Nat → Int32)) => y.1 = nI p ∧ ∀ j, j < p → y.2 j = nx2 j) _ S.1.length ⟨rfl, fun j hj => by omega⟩ (fun p y hp' hr => ?_) (fun y hr => ?_) (by omega)
      · obtain ⟨y1, gg⟩ := y
        obtain ⟨r1, r2⟩ := hr
        dsimp only at r1 r2
        subst r1
        show ∃ s', fX10_luck_L205 z (nI t) x2 (nI (fr n o ^ (i + 1))) (nI i) (nI p) (nI n) aI (nI o) (nI S.1.length) row pl far wy mr (b01 two) sort par (b01 oth) gg nx2 = _ ∧ _
        unfold fX10_luck_L205
        rw [if_neg (nI_ge hp' (by omega)), agd_in (show p < 7560 by omega) (by decide), agd_in (show p < 7560 by omega) (by decide), cl_nI (show p < 2 ^ 31 by omega), nI_1]
        refine ⟨_, rfl, rfl, fun j hj => ?_⟩
        show upd gg p (nx2 p) j = _
        by_cases g : j = p
        · rw [g, pk_us]
        · rw [pk_un g]
          exact r2 j (by omega)
      · obtain ⟨y1, gg⟩ := y
        obtain ⟨r1, r2⟩ := hr
        dsimp only at r1 r2
        subst r1
        show ∃ s', fX10_luck_L205 z (nI t) x2 (nI (fr n o ^ (i + 1))) (nI i) (nI S.1.length) (nI n) aI (nI o) (nI S.1.length) row pl far wy mr (b01 two) sort par (b01 oth) gg nx2 = _ ∧ _
        unfold fX10_luck_L205
        rw [if_pos (nI_le (Nat.le_refl _) (by omega))]
        exact ⟨_, rfl, r2⟩
    obtain ⟨nw2, e1, e2⟩ := f205
    rw [e1, Option.bind_some]
    unfold fX10_luck_J234
    exact ⟨_, rfl, rfl, nI_1 i, fun p hp' => (e2 p hp').trans (d2 p hp')⟩
  · obtain ⟨y1, y2, nw, nx⟩ := y
    obtain ⟨r1, r2, r3⟩ := hr
    dsimp only at r1 r2 r3
    subst r1
    subst r2
    show ∃ s', fX10_luck_L82 z (nI t) x2 (nI (fr n o ^ t)) (nI t) (nI n) aI (nI o) (nI S.1.length) row pl far wy mr (b01 two) sort par (b01 oth) nw nx = _ ∧ _
    unfold fX10_luck_L82
    rw [if_pos (nI_le (Nat.le_refl _) (by omega))]
    exact ⟨_, rfl, rfl, r3⟩
set_option maxHeartbeats 400000 in
theorem luck_48 (hBI : BI (VO n o) S) (hL : BL n (cg bk two oth) o S) (hl : S.1.length ≤ 7560) (hpos : 0 < S.1.length) (hz : 8000 < z) :
    ∃ e, lp (fun sg => fX10_luck_L48 z x1 x2 sg.1 (nI n) aI (nI o) (nI S.1.length) row pl far wy mr (b01 two) sort par (b01 oth) sg.2 nx) z (0, nw) = some e ∧ ∀ p, p < S.1.length → e p = nI (lW n (cg bk two oth) S.1 o 0 (S.1.getD p 0)) := by
  have hw0 : ∀ p, p < S.1.length → lW n (cg bk two oth) S.1 o 0 (S.1.getD p 0) = if p = 0 then 1 else 0 := fun p hp => by
    show (if S.1.getD p 0 = o then 1 else 0) = _
    by_cases g : p = 0
    · rw [if_pos g, g, hL.1, if_pos rfl]
    · rw [if_neg g, if_neg (fun e => g (getD_inj hBI.1 hp hpos (by rw [e, hL.1])))]
  refine lp_rel0 (fun (p : Nat) (y : Int32 × (Nat → Int32)) => y.1 = nI p ∧ ∀ j, j < p → y.2 j = if j = 0 then 1 else 0) _ S.1.length ⟨rfl, fun j hj => by omega⟩ (fun p y hp' hr => ?_) (fun y hr => ?_) (by omega)
  · obtain ⟨y1, gg⟩ := y
    obtain ⟨r1, r2⟩ := hr
    dsimp only at r1 r2
    subst r1
    show ∃ s', fX10_luck_L48 z x1 x2 (nI p) (nI n) aI (nI o) (nI S.1.length) row pl far wy mr (b01 two) sort par (b01 oth) gg nx = _ ∧ _
    unfold fX10_luck_L48
    rw [if_neg (nI_ge hp' (by omega)), nI_1]
    by_cases e : p = 0
    · rw [if_pos (by rw [e]; rfl), agd_in (show p < 7560 by omega) (by decide), cl_nI (show p < 2 ^ 31 by omega)]
      refine ⟨_, rfl, rfl, fun j hj => ?_⟩
      show upd gg p 1 j = _
      rw [show j = p by omega, pk_us, if_pos e]
    · rw [if_neg (nI_ne0 (by omega) (by omega)), agd_in (show p < 7560 by omega) (by decide), cl_nI (show p < 2 ^ 31 by omega)]
      refine ⟨_, rfl, rfl, fun j hj => ?_⟩
      show upd gg p 0 j = _
      by_cases g : j = p
      · rw [g, pk_us, if_neg e]
      · rw [pk_un g]
        exact r2 j (by omega)
  · obtain ⟨y1, gg⟩ := y
    obtain ⟨r1, r2⟩ := hr
    dsimp only at r1 r2
    subst r1
    show ∃ s', fX10_luck_L48 z x1 x2 (nI S.1.length) (nI n) aI (nI o) (nI S.1.length) row pl far wy mr (b01 two) sort par (b01 oth) gg nx = _ ∧ _
    unfold fX10_luck_L48
    rw [if_pos (nI_le (Nat.le_refl _) (by omega))]
    refine ⟨_, rfl, fun p hp' => ?_⟩
    rw [r2 p hp', hw0 p hp']
    by_cases g : p = 0
    · rw [if_pos g, if_pos g]
      rfl
    · rw [if_neg g, if_neg g]
      rfl
end LR2
