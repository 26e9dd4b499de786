/-! ===== many, nth ===== -/
theorem bitC : ∀ a : Fin 512, fJ6_bitCount_0f7a4 (nI a.val) = nI (fb_ct (fun t => a.val.testBit t) 9) := by decide +kernel
section MN
variable {n o z : Nat} {bk : Nat → Nat} {two oth : Bool} {bh par T : Nat → Int32} {sort xl : Int32}
theorem onq_big (hp : PB n bk) {f : Nat} (hf : n ≤ f) : ∀ d a ps, a < n → onq bk oth o f d a ps = false
  | 0, _, _, _ => rfl
  | d + 1, a, ps, ha => by
    simp only [onq]
    rcases hp.2.2 a ha with q | q
    · have e : (bk a == f) = false := beq_eq_false_iff_ne.mpr (by omega)
      rw [onq_big hp hf d (bk a) _ q, e]
      simp
    · rw [q]; rfl
theorem mk_big (hp : PB n bk) {f : Nat} (hf : n ≤ f) : mk bk two oth o n f = 0 := by
  refine Nat.eq_of_testBit_eq (fun t => ?_)
  rw [Nat.zero_testBit]
  by_cases ht : t < 99
  · rw [mk_bit ht, decide_eq_false (show ¬ f < n by omega)]
    by_cases c : t < n
    · rw [onq_big hp hf _ _ _ c]; simp
    · rw [decide_eq_false c]; simp
  · exact Nat.testBit_lt_two_pow (Nat.lt_of_lt_of_le (mk_lt hp n (Nat.le_refl _) f) (show 2 ^ 9 ≤ 2 ^ t from Nat.pow_le_pow_right (by decide) (by omega)))
theorem mk_pop (hp : PB n bk) (ho : o < 4 ^ 9) {f : Nat} (hf : f < n) : fb_ct (fun t => (mk bk two oth o n f).testBit t) 9 = fb_ct (cg bk two oth o f) n := by
  have hn := hp.1
  rw [show (9 : Nat) = n + (9 - n) by omega, fb_ct_split]
  have e1 : fb_ct (fun k => (mk bk two oth o n f).testBit (n + k)) (9 - n) = 0 := fb_ct_zero.mpr (fun k hk => by
    rw [mk_bit (by omega), decide_eq_false (show ¬ n + k < n by omega)]
    have : decide (lnd bk oth o (kd o f) (lpN two) f = n + k) = false := decide_eq_false (fun e => by
      rcases lnd_lt (oth := oth) (o := o) (c := kd o f) hp (lpN two) f hf with q | q <;> omega)
    rw [this]
    simp)
  rw [e1, Nat.add_zero]
  exact fb_ct_cong (fun t ht => mk_cg hp ho hf ht)
theorem ck_rows (c : Nat → Nat → Nat → Bool) : ∀ f, ck n c o (f * n) = fb_sm (fun f => fb_ct (c o f) n) f
  | 0 => by rw [Nat.zero_mul]; rfl
  | f + 1 => by
    rw [fb_sm_succ, ← ck_rows c f]
    unfold ck
    rw [Nat.add_mul, Nat.one_mul, fb_ct_split]
    congr 1
    exact fb_ct_cong (fun t ht => by rw [(dm (f := f) ht).1, (dm (f := f) ht).2])
theorem total_nI (hp : PB n bk) (ho : o < 4 ^ 9) (hz : 9 < z) : fX3_total z (tf T (mk bk two oth o n)) = some (nI (ck n (cg bk two oth) o (n * n))) := by
  have hn := hp.1
  unfold fX3_total
  have e9 : fb_sm (fun f => fb_ct (fun t => (mk bk two oth o n f).testBit t) 9) 9 = ck n (cg bk two oth) o (n * n) := by
    rw [ck_rows, show (9 : Nat) = n + (9 - n) by omega, fb_sm_split]
    have e1 : fb_sm (fun k => fb_ct (fun t => (mk bk two oth o n (n + k)).testBit t) (n + (9 - n))) (9 - n) = 0 := by
      have : fb_sm (fun k => fb_ct (fun t => (mk bk two oth o n (n + k)).testBit t) (n + (9 - n))) (9 - n) ≤ (9 - n) * 0 := fb_sm_bound (fun k _ => by
        rw [mk_big hp (by omega), fb_ct_zero.mpr (fun t _ => Nat.zero_testBit t)]
        exact Nat.le_refl _)
      omega
    rw [e1, Nat.add_zero, show n + (9 - n) = 9 by omega]
    exact fb_sm_cong (fun f hf => mk_pop hp ho hf)
  refine (lp_b (fun i => (nI (fb_sm (fun f => fb_ct (fun t => (mk bk two oth o n f).testBit t) 9) i), nI i)) 9 (nI (fb_sm (fun f => fb_ct (fun t => (mk bk two oth o n f).testBit t) 9) 9)) rfl (fun i hi => ?_) ?_ hz).trans (by rw [e9]; rfl)
  · show fX3_total_L4 z _ (nI i) _ = _
    unfold fX3_total_L4
    rw [if_neg (nI9 hi), agd_in hi (by decide), cl_nI (by omega), tf_at hi, bitC ⟨_, mk_lt hp n (Nat.le_refl _) i⟩, nI_add, nI_1, fb_sm_succ]
  · show fX3_total_L4 z _ (nI 9) _ = _
    unfold fX3_total_L4
    rw [if_pos (by decide)]
theorem nn_81 (hn : n ≤ 9) : n * n ≤ 81 := Nat.mul_le_mul hn hn
theorem nnI : nI n * nI n = nI (n * n) := pk_mul n n
theorem ck_le (c : Nat → Nat → Nat → Bool) (k : Nat) : ck n c o k ≤ k := fb_ct_le _ k
theorem ck_succ (c : Nat → Nat → Nat → Bool) (k : Nat) : ck n c o (k + 1) = ck n c o k + (if c o (k / n) (k % n) then 1 else 0) := fb_ct_succ _ k
theorem manyOf_nI (hp : PB n bk) (hB : BO n bk sort par) (hn0 : 0 < n) (ho : o < 4 ^ 9) (hz : 90 < z) : fX10_manyOf z (nI o) (nI n) (b01 two) sort par (b01 oth) = some (nI (ck n (cg bk two oth) o (n * n))) := by
  have hn := hp.1
  have h81 := nn_81 hn
  unfold fX10_manyOf
  refine (lp_b (fun i => (nI (ck n (cg bk two oth) o i), nI i)) (n * n) (nI (ck n (cg bk two oth) o (n * n))) rfl (fun i hi => ?_) ?_ (by omega)).trans rfl
  · show fX10_manyOf_L4 z (nI o) (nI (ck n (cg bk two oth) o i)) (nI i) (nI n) (b01 two) sort par (b01 oth) = _
    unfold fX10_manyOf_L4
    have hd : i / n < n := Nat.div_lt_of_lt_mul hi
    have hm : i % n < n := Nat.mod_lt _ hn0
    rw [nnI, if_neg (nI_ge hi (by omega)), dgd_ne (nI_ne0 hn0 (by omega)), dgd_ne (nI_ne0 hn0 (by omega)), pk_div (by omega) hn0 (by omega), rem_nI (by omega) hn0 (by omega), canGo_nI hp hB ho hd hm (by omega), ck_succ, Option.bind_some]
    cases cg bk two oth o (i / n) (i % n) with
    | false =>
      rw [if_pos (show b01 false = 0 from rfl), nI_1, if_neg (by decide), show (0 : Int32) = nI 0 from rfl, nI_add]
    | true => rw [if_neg (show ¬ b01 true = 0 by decide), nI_1, nI_1, if_pos rfl]
  · show fX10_manyOf_L4 z (nI o) (nI (ck n (cg bk two oth) o (n * n))) (nI (n * n)) (nI n) (b01 two) sort par (b01 oth) = _
    unfold fX10_manyOf_L4
    rw [nnI, if_pos (nI_le (Nat.le_refl _) (by omega))]
theorem many_pair (hp : PB n bk) (hb : BH n bk bh) (hB : BO n bk sort par) (hl : 0 < n → xl = nI (lpN two)) (ho : o < 4 ^ n) (hz : 90 < z) :
    ∃ r T', fX9_many z (nI n) (nI o) T xl bh (b01 oth) = some (r, T') ∧ fX10_many z (nI n) (nI o) (b01 two) sort par (b01 oth) = some r := by
  have hn := hp.1
  unfold fX9_many fX10_many fX9_noStones fX10_lacks
  by_cases c : n = 0
  · subst c
    rw [if_pos (show nI 0 = 0 from rfl), if_neg (show ¬ (1 : Int32) = 0 by decide), if_neg (show ¬ (1 : Int32) = 0 by decide)]
    exact ⟨_, _, rfl, rfl⟩
  · rw [if_neg (nI_ne0 (by omega) (by omega)), if_pos rfl, if_pos rfl, hl (by omega), find_nI hp hb (o9 hn ho) (by omega), Option.bind_some, total_nI hp (o9 hn ho) (by omega), manyOf_nI hp hB (by omega) (o9 hn ho) hz]
    exact ⟨_, _, rfl, rfl⟩
/-- which move is the i-th -/
def np (n : Nat) (c : Nat → Nat → Nat → Bool) (o i k : Nat) : Bool := c o (k / n) (k % n) && ck n c o k == i
def nJ (n : Nat) (c : Nat → Nat → Nat → Bool) (o i : Nat) : Nat := fa_first (np n c o i) (n * n)
theorem told_18 (hp : PB n bk) (ho : o < 4 ^ 9) {i f : Nat} (hi : i ≤ 63) (hf : f < n) (hz : 90 < z) (hJ : f * n ≤ nJ n (cg bk two oth) o i) :
    lp (fun sg => fX3_told_L18 z (nI i) sg.1 (nI f) sg.2 (nI n) (tf T (mk bk two oth o n))) z (nI (ck n (cg bk two oth) o (f * n)), 0) = some (if nJ n (cg bk two oth) o i < f * n + n then .inr (nI (16 * (nJ n (cg bk two oth) o i / n) + nJ n (cg bk two oth) o i % n)) else .inl (nI (ck n (cg bk two oth) o (f * n + n)))) := by
  have hn := hp.1
  have h81 := nn_81 hn
  have hfn := fn_le hf
  have hm := mk_lt (two := two) (oth := oth) (o := o) hp n (Nat.le_refl _) f
  have step : ∀ t, t < n → f * n + t < nJ n (cg bk two oth) o i → fX3_told_L18 z (nI i) (nI (ck n (cg bk two oth) o (f * n + t))) (nI f) (nI t) (nI n) (tf T (mk bk two oth o n)) = some (.inl (nI (ck n (cg bk two oth) o (f * n + (t + 1))), nI (t + 1))) := by
    intro t ht hlt
    obtain ⟨d1, d2⟩ := dm (f := f) ht
    have hno := fa_first_no (np n (cg bk two oth) o i) (n * n) _ hlt
    have hck := ck_le (n := n) (o := o) (cg bk two oth) (f * n + t)
    unfold np at hno
    rw [d1, d2] at hno
    unfold fX3_told_L18
    rw [if_neg (nI_ge ht (by omega)), has_nI (by omega) (by omega) hm, mk_cg hp ho hf ht, Option.bind_some, ← Nat.add_assoc, ck_succ, d1, d2]
    cases hc : cg bk two oth o f t with
    | false => rw [if_pos (show b01 false = 0 from rfl), nI_1, if_neg (by decide)]; rfl
    | true =>
      rw [hc] at hno
      have hne : ¬ ck n (cg bk two oth) o (f * n + t) = i := by simpa using hno
      rw [if_neg (show ¬ b01 true = 0 by decide), if_neg (nlit (by omega) (by omega) hne), nI_1, nI_1, if_pos rfl]
  by_cases c : nJ n (cg bk two oth) o i < f * n + n
  · rw [if_pos c]
    obtain ⟨t, ht⟩ : ∃ t, nJ n (cg bk two oth) o i = f * n + t := ⟨nJ n (cg bk two oth) o i - f * n, by omega⟩
    have htn : t < n := by omega
    obtain ⟨d1, d2⟩ := dm (f := f) htn
    have hyes := fa_first_yes (np n (cg bk two oth) o i) (n * n) (by show nJ n (cg bk two oth) o i < n * n; omega)
    have hyes : np n (cg bk two oth) o i (nJ n (cg bk two oth) o i) = true := hyes
    rw [ht] at hyes
    unfold np at hyes
    rw [d1, d2] at hyes
    simp only [Bool.and_eq_true, beq_iff_eq] at hyes
    refine lp_0 (N := t) (fun t => (nI (ck n (cg bk two oth) o (f * n + t)), nI t)) rfl (fun t' ht' => step t' (by omega) (by omega)) ?_ (by omega)
    show fX3_told_L18 z (nI i) (nI (ck n (cg bk two oth) o (f * n + t))) (nI f) (nI t) (nI n) (tf T (mk bk two oth o n)) = _
    unfold fX3_told_L18
    rw [if_neg (nI_ge htn (by omega)), has_nI (by omega) (by omega) hm, mk_cg hp ho hf htn, Option.bind_some, hyes.1, if_neg (show ¬ b01 true = 0 by decide), hyes.2, if_pos rfl, ht, d1, d2, show (16 : Int32) * nI f = nI (16 * f) from pk_mul 16 f, nI_add]
  · rw [if_neg c]
    refine lp_0 (N := n) (fun t => (nI (ck n (cg bk two oth) o (f * n + t)), nI t)) rfl (fun t' ht' => step t' (by omega) (by omega)) ?_ (by omega)
    show fX3_told_L18 z (nI i) (nI (ck n (cg bk two oth) o (f * n + n))) (nI f) (nI n) (nI n) (tf T (mk bk two oth o n)) = _
    unfold fX3_told_L18
    rw [if_pos (nI_le (Nat.le_refl _) (by omega))]
theorem told_nI (hp : PB n bk) (hn0 : 0 < n) (ho : o < 4 ^ 9) {i : Nat} (hi : i ≤ 63) (hz : 90 < z) :
    fX3_told z (nI i) (nI n) (tf T (mk bk two oth o n)) = some (if nJ n (cg bk two oth) o i < n * n then nI (16 * (nJ n (cg bk two oth) o i / n) + nJ n (cg bk two oth) o i % n) else -1) := by
  have hn := hp.1
  have h81 := nn_81 hn
  have hJn : nJ n (cg bk two oth) o i ≤ n * n := fa_first_le _ _
  unfold fX3_told
  have step : ∀ f, f < n → f * n + n ≤ nJ n (cg bk two oth) o i → fX3_told_L4 z (nI i) (nI (ck n (cg bk two oth) o (f * n))) (nI f) (nI n) (tf T (mk bk two oth o n)) = some (.inl (nI (ck n (cg bk two oth) o ((f + 1) * n)), nI (f + 1))) := by
    intro f hf hle
    unfold fX3_told_L4
    rw [if_neg (nI_ge hf (by omega)), told_18 hp ho hi hf hz (by omega), if_neg (by omega), Option.bind_some, Nat.add_mul, Nat.one_mul]
    show some (Sum.inl (_, nI f + 1)) = _
    rw [nI_1]
  by_cases c : nJ n (cg bk two oth) o i < n * n
  · have hq : nJ n (cg bk two oth) o i / n < n := Nat.div_lt_of_lt_mul c
    have hq2 := Nat.div_add_mod (nJ n (cg bk two oth) o i) n
    have hq3 := Nat.mod_lt (nJ n (cg bk two oth) o i) hn0
    rw [Nat.mul_comm] at hq2
    have e := lp_0 (f := fun sg => fX3_told_L4 z (nI i) sg.1 sg.2 (nI n) (tf T (mk bk two oth o n))) (N := nJ n (cg bk two oth) o i / n) (z := z) (e := .inr (nI (16 * (nJ n (cg bk two oth) o i / n) + nJ n (cg bk two oth) o i % n))) (fun f => (nI (ck n (cg bk two oth) o (f * n)), nI f)) (s0 := (0, 0)) (by rw [Nat.zero_mul]; rfl) (fun f hf => step f (by omega) (by
        have : (f + 1) * n ≤ nJ n (cg bk two oth) o i / n * n := Nat.mul_le_mul_right _ (by omega)
        rw [Nat.add_mul, Nat.one_mul] at this
        omega)) (by
        show fX3_told_L4 z (nI i) (nI (ck n (cg bk two oth) o (nJ n (cg bk two oth) o i / n * n))) (nI (nJ n (cg bk two oth) o i / n)) (nI n) (tf T (mk bk two oth o n)) = _
        unfold fX3_told_L4
        rw [if_neg (nI_ge hq (by omega)), told_18 hp ho hi hq hz (by omega), if_pos (by omega), Option.bind_some]
        rfl) (by omega)
    rw [e, if_pos c]
    rfl
  · have e := lp_0 (f := fun sg => fX3_told_L4 z (nI i) sg.1 sg.2 (nI n) (tf T (mk bk two oth o n))) (N := n) (z := z) (e := .inl ()) (fun f => (nI (ck n (cg bk two oth) o (f * n)), nI f)) (s0 := (0, 0)) (by rw [Nat.zero_mul]; rfl) (fun f hf => step f hf (by have := fn_le hf; omega)) (by
        show fX3_told_L4 z (nI i) (nI (ck n (cg bk two oth) o (n * n))) (nI n) (nI n) (tf T (mk bk two oth o n)) = _
        unfold fX3_told_L4
        rw [if_pos (nI_le (Nat.le_refl _) (by omega))]) (by omega)
    rw [e, if_neg c]
    rfl
theorem nth_lp (hp : PB n bk) (hB : BO n bk sort par) (hn0 : 0 < n) (ho : o < 4 ^ 9) {i : Nat} (hi : i ≤ 63) (hz : 90 < z) :
    lp (fun sg => fX10_nth_L29 z (nI i) sg.1 sg.2 (nI n) (nI o) (b01 two) sort par (b01 oth)) z (0, 0) = some (if nJ n (cg bk two oth) o i < n * n then .inr (nI (16 * (nJ n (cg bk two oth) o i / n) + nJ n (cg bk two oth) o i % n)) else .inl ()) := by
  have hn := hp.1
  have h81 := nn_81 hn
  have hJn : nJ n (cg bk two oth) o i ≤ n * n := fa_first_le _ _
  have base : ∀ k, k < n * n → fX10_nth_L29 z (nI i) (nI (ck n (cg bk two oth) o k)) (nI k) (nI n) (nI o) (b01 two) sort par (b01 oth) = (if b01 (cg bk two oth o (k / n) (k % n)) = 0 then some (.inl (nI (ck n (cg bk two oth) o k), nI (k + 1))) else (if nI (ck n (cg bk two oth) o k) = nI i then some (.inr (.inr (nI (16 * (k / n) + k % n)))) else some (.inl (nI (ck n (cg bk two oth) o k + 1), nI (k + 1))))) := by
    intro k hk
    have hd : k / n < n := Nat.div_lt_of_lt_mul hk
    have hm : k % n < n := Nat.mod_lt _ hn0
    unfold fX10_nth_L29
    rw [nnI, if_neg (nI_ge hk (by omega)), dgd_ne (nI_ne0 hn0 (by omega)), dgd_ne (nI_ne0 hn0 (by omega)), dgd_ne (nI_ne0 hn0 (by omega)), dgd_ne (nI_ne0 hn0 (by omega)), pk_div (by omega) hn0 (by omega), rem_nI (by omega) hn0 (by omega), canGo_nI hp hB ho hd hm (by omega), Option.bind_some, show (16 : Int32) * nI (k / n) = nI (16 * (k / n)) from pk_mul 16 _, nI_add, nI_1, nI_1]
  have step : ∀ k, k < nJ n (cg bk two oth) o i → fX10_nth_L29 z (nI i) (nI (ck n (cg bk two oth) o k)) (nI k) (nI n) (nI o) (b01 two) sort par (b01 oth) = some (.inl (nI (ck n (cg bk two oth) o (k + 1)), nI (k + 1))) := by
    intro k hk
    have hno := fa_first_no (np n (cg bk two oth) o i) (n * n) _ hk
    have hck := ck_le (n := n) (o := o) (cg bk two oth) k
    unfold np at hno
    rw [base k (by omega), ck_succ]
    cases hc : cg bk two oth o (k / n) (k % n) with
    | false => rw [if_pos (show b01 false = 0 from rfl), if_neg (by decide)]; rfl
    | true =>
      rw [hc] at hno
      have hne : ¬ ck n (cg bk two oth) o k = i := by simpa using hno
      rw [if_neg (show ¬ b01 true = 0 by decide), if_neg (nlit (by omega) (by omega) hne), if_pos rfl]
  by_cases c : nJ n (cg bk two oth) o i < n * n
  · have hyes := fa_first_yes (np n (cg bk two oth) o i) (n * n) c
    have hyes : np n (cg bk two oth) o i (nJ n (cg bk two oth) o i) = true := hyes
    unfold np at hyes
    simp only [Bool.and_eq_true, beq_iff_eq] at hyes
    rw [if_pos c]
    refine lp_0 (N := nJ n (cg bk two oth) o i) (fun k => (nI (ck n (cg bk two oth) o k), nI k)) rfl step ?_ (by omega)
    refine (base _ c).trans ?_
    rw [hyes.1, hyes.2, if_neg (show ¬ b01 true = 0 by decide), if_pos rfl]
  · rw [if_neg c]
    have hJ : nJ n (cg bk two oth) o i = n * n := by omega
    refine lp_0 (N := n * n) (fun k => (nI (ck n (cg bk two oth) o k), nI k)) rfl (fun k hk => step k (by omega)) ?_ (by omega)
    show fX10_nth_L29 z (nI i) (nI (ck n (cg bk two oth) o (n * n))) (nI (n * n)) (nI n) (nI o) (b01 two) sort par (b01 oth) = _
    unfold fX10_nth_L29
    rw [nnI, if_pos (nI_le (Nat.le_refl _) (by omega))]
theorem nth_pair (hp : PB n bk) (hb : BH n bk bh) (hB : BO n bk sort par) (hl : 0 < n → xl = nI (lpN two)) (ho : o < 4 ^ n) (hz : 90 < z) (x1 : Int32) :
    ∃ r T', fX9_nth z x1 (nI n) (nI o) T xl bh (b01 oth) = some (r, T') ∧ fX10_nth z x1 (nI n) (nI o) (b01 two) sort par (b01 oth) = some r := by
  have hn := hp.1
  unfold fX9_nth fX10_nth fX9_noStones fX10_lacks
  by_cases c : n = 0
  · subst c
    rw [if_pos (show nI 0 = 0 from rfl), if_neg (show ¬ (1 : Int32) = 0 by decide), if_neg (show ¬ (1 : Int32) = 0 by decide)]
    exact ⟨_, _, rfl, rfl⟩
  · rw [if_neg (nI_ne0 (by omega) (by omega)), if_pos rfl, if_pos rfl, show (63 : Int64) = (nI 63).toInt64 from rfl]
    rcases in_cases x1 (K := 63) (by decide) with ⟨j, hj, rfl, h3⟩ | ⟨h3, h4⟩
    · rw [h3, if_neg (show ¬ (1 : Int32) = 0 by decide), if_neg (nI_pos (by omega)), if_pos (show nI j ≤ 63 from nI_le (b := 63) hj (by decide)), hl (by omega), find_nI hp hb (o9 hn ho) (by omega), Option.bind_some, told_nI hp (by omega) (o9 hn ho) hj hz, nth_lp hp hB (by omega) (o9 hn ho) hj hz]
      split
      · exact ⟨_, _, rfl, rfl⟩
      · exact ⟨_, _, rfl, rfl⟩
    · rw [h4, if_pos rfl]
      rcases h3 with h3 | h3
      · rw [if_pos h3]; exact ⟨_, _, rfl, rfl⟩
      · have : ¬ x1 < 0 := fun e => absurd (Int32.lt_trans h3 e) (by decide)
        rw [if_neg this, if_neg (fun e => absurd (Int32.lt_of_lt_of_le h3 e) (by decide))]
        exact ⟨_, _, rfl, rfl⟩
end MN
