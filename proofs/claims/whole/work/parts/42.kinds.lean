/-! ===== digits and bits ===== -/
theorem kd_sh (x i : Nat) : kd x i = (x >>> (2 * i)) % 2 ^ 2 := by rw [Nat.shiftRight_eq_div_pow, ← p42]; rfl
theorem kd_and (a b i : Nat) : kd (a &&& b) i = kd a i &&& kd b i := by rw [kd_sh, kd_sh, kd_sh, Nat.shiftRight_and_distrib, Nat.and_mod_two_pow]
theorem kd_or (a b i : Nat) : kd (a ||| b) i = kd a i ||| kd b i := by rw [kd_sh, kd_sh, kd_sh, Nat.shiftRight_or_distrib, Nat.or_mod_two_pow]
theorem kd_xor (a b i : Nat) : kd (a ^^^ b) i = kd a i ^^^ kd b i := by rw [kd_sh, kd_sh, kd_sh, Nat.shiftRight_xor_distrib, Nat.xor_mod_two_pow]
theorem kd_0 (i : Nat) : kd 0 i = 0 := by simp [kd]
theorem kd_one {k t : Nat} (hk : k < 4) (i : Nat) : kd (k * 4 ^ t) i = if i = t then k else 0 := by
  have h := kd_set (o := 0) (t := t) (k := k) (kd_0 t) hk i
  rw [Nat.zero_add, kd_0] at h
  exact h
theorem kd_full {i : Nat} (hi : i < 16) : kd 4294967295 i = 3 := by
  have h : ∀ j : Fin 16, kd 4294967295 j.val = 3 := by decide +kernel
  exact h ⟨i, hi⟩
theorem and3 {k : Nat} (h : k < 4) : k &&& 3 = k := by
  have h4 : ∀ j : Fin 4, j.val &&& 3 = j.val := by decide
  exact h4 ⟨k, h⟩
theorem clr_nat {o f : Nat} (ho : o < 4 ^ 9) (hf : f < 9) : o &&& ((3 * 4 ^ f) ^^^ 4294967295) = o - kd o f * 4 ^ f := by
  have h1 : o < 4 ^ 16 := Nat.lt_of_lt_of_le ho (by decide)
  refine kd_ext (n := 16) (Nat.lt_of_le_of_lt Nat.and_le_left h1) (by omega) (fun i hi => ?_)
  rw [kd_and, kd_xor, kd_one (by decide), kd_full hi, kd_clr]
  by_cases c : i = f
  · rw [if_pos c, if_pos c]; simp
  · rw [if_neg c, if_neg c]
    show kd o i &&& (0 ^^^ 3) = kd o i
    rw [Nat.zero_xor]
    exact and3 (kd_lt o i)
theorem moved_nI {o f t : Nat} (ho : o < 4 ^ 9) (hf : f < 9) (ht : t < 9) (hne : f ≠ t) (h0 : kd o t = 0) : fX10_moved (nI o) (nI f) (nI t) = nI (mvd o f t) := by
  unfold fX10_moved
  have ho2 : o < 2 ^ 18 := ho
  have h1 := p49 hf
  have h2 := p49 ht
  have h3 := kd_lt o f
  have h4 : kd o f * 4 ^ f ≤ 3 * 65536 := Nat.mul_le_mul (by omega) h1
  have h5 : kd o f * 4 ^ t ≤ 3 * 65536 := Nat.mul_le_mul (by omega) h2
  have e1 : (3 : Int32) <<< ((2 * nI f) &&& 31) = nI (3 * 4 ^ f) := shl_nI (k := 3) (by omega) (by omega)
  have e2 : (-1 : Int32) = nI 4294967295 := by decide
  rw [at_kd (by omega) (by omega), shl_nI (by omega) (by omega), e1, e2, fb_xorI, fa_and, clr_nat ho hf, fa_or]
  congr 1
  have hm := mvd_lt (n := 9) ho hf ht hne h0
  refine kd_ext (n := 16) (Nat.or_lt_two_pow (n := 32) (by omega) (by omega)) (Nat.lt_of_lt_of_le hm (by decide)) (fun i hi => ?_)
  rw [kd_or, kd_one h3, kd_clr, kd_mvd hne h0]
  by_cases c : i = t
  · subst c
    rw [if_pos rfl, if_pos rfl, if_neg (Ne.symm hne), h0]
    exact Nat.zero_or _
  · rw [if_neg c, if_neg c]
    exact Nat.or_zero _
/-! ===== how many of a kind ===== -/
def ct (k o n : Nat) : Nat := fb_ct (fun i => kd o i == k) n
theorem ct_succ (k o n : Nat) : ct k o (n + 1) = ct k o n + (if kd o n = k then 1 else 0) := by
  unfold ct
  rw [fb_ct_succ]
  by_cases c : kd o n = k <;> simp [c]
theorem ct_le (k o n : Nat) : ct k o n ≤ n := fb_ct_le _ n
theorem nI9 {i : Nat} (h : i < 9) : ¬ (9 : Int32) ≤ nI i := nI_ge (a := i) (b := 9) h (by decide)
theorem colouredOf_nI {z o k : Nat} (ho : o < 2 ^ 31) (hk : k < 2 ^ 31) (hz : 9 < z) : fX9_colouredOf z (nI o) (nI k) = some (nI (ct k o 9)) := by
  unfold fX9_colouredOf
  refine (lp_b (fun i => (nI (ct k o i), nI i)) 9 (nI (ct k o 9)) rfl (fun i hi => ?_) ?_ hz).trans rfl
  · show fX9_colouredOf_L4 z (nI o) (nI k) (nI (ct k o i)) (nI i) = _
    unfold fX9_colouredOf_L4
    rw [if_neg (nI9 hi), kindAt_nI ho (by omega), ct_succ]
    have h4 := kd_lt o i
    by_cases c : kd o i = k
    · rw [if_pos (by rw [c]), if_pos c, nI_1, nI_1]
    · rw [if_neg (fun e => c ((nI_eq (by omega) hk).mp e)), if_neg c, nI_1]
      rfl
  · show fX9_colouredOf_L4 z (nI o) (nI k) (nI (ct k o 9)) (nI 9) = _
    unfold fX9_colouredOf_L4
    rw [if_pos (by decide)]
theorem howMany_nI {z o k n : Nat} (ho : o < 2 ^ 31) (hk : k < 2 ^ 31) (hn : n ≤ 9) (hz : 9 < z) : fX10_howMany z (nI o) (nI k) (nI n) = some (nI (ct k o n)) := by
  unfold fX10_howMany
  refine (lp_b (fun i => (nI (ct k o i), nI i)) n (nI (ct k o n)) rfl (fun i hi => ?_) ?_ (by omega)).trans rfl
  · show fX10_howMany_L5 z (nI o) (nI k) (nI (ct k o i)) (nI i) (nI n) = _
    unfold fX10_howMany_L5
    rw [if_neg (nI_ge hi (by omega)), at_kd ho (by omega), ct_succ]
    have h4 := kd_lt o i
    by_cases c : kd o i = k
    · rw [if_pos (by rw [c]), if_pos c, nI_1, nI_1]
    · rw [if_neg (fun e => c ((nI_eq (by omega) hk).mp e)), if_neg c, nI_1]
      rw [show nI (ct k o i) + 0 = nI (ct k o i + 0) from nI_add _ 0]
  · show fX10_howMany_L5 z (nI o) (nI k) (nI (ct k o n)) (nI n) (nI n) = _
    unfold fX10_howMany_L5
    rw [if_pos (nI_le (Nat.le_refl n) (by omega))]
