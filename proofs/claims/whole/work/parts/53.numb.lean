/-! ===== numbers of ORDERS ===== -/
theorem kd_cat {hi lo m : Nat} (hl : lo < 4 ^ m) (i : Nat) : kd (hi * 4 ^ m + lo) i = if i < m then kd lo i else kd hi (i - m) := by
  by_cases c : i < m
  · rw [if_pos c, ← kd_mod (t := m) c]
    congr 1
    rw [Nat.mul_comm, Nat.mul_add_mod, Nat.mod_eq_of_lt hl]
  · rw [if_neg c]
    unfold kd
    have e : 4 ^ i = 4 ^ m * 4 ^ (i - m) := by rw [← Nat.pow_add]; congr 1; omega
    rw [e, ← Nat.div_div_eq_div_mul, Nat.mul_comm hi, Nat.mul_add_div (Nat.pow_pos (by decide)), Nat.div_eq_of_lt hl, Nat.add_zero]
theorem ct_cat {hi lo m : Nat} (hl : lo < 4 ^ m) (k h : Nat) : ct k (hi * 4 ^ m + lo) (m + h) = ct k lo m + ct k hi h := by
  unfold ct
  rw [fb_ct_split]
  congr 1
  · exact fb_ct_cong (fun i hi' => by rw [kd_cat hl, if_pos hi'])
  · refine fb_ct_cong (fun i hi' => ?_)
    rw [kd_cat hl, if_neg (by omega), Nat.add_sub_cancel_left]
theorem ct_9 {k x n : Nat} (hx : x < 4 ^ n) (hn : n ≤ 9) (hk : k ≠ 0) : ct k x 9 = ct k x n := by
  have h := fb_ct_split (fun i => kd x i == k) n (9 - n)
  rw [show n + (9 - n) = 9 by omega] at h
  have h2 : fb_ct (fun j => kd x (n + j) == k) (9 - n) = 0 := fb_ct_zero.mpr (fun i _ => by
    rw [kd_big hx (by omega)]
    simpa using Ne.symm hk)
  unfold ct
  rw [h, h2, Nat.add_zero]
def tl (o : Nat) : Nat := ct 1 o 9 + 256 * ct 2 o 9 + 65536 * ct 3 o 9
def tl4 (o i : Nat) : Nat := ct 0 o i + 256 * ct 1 o i + 65536 * ct 2 o i + 16777216 * ct 3 o i
theorem tally_nI {z o : Nat} (ho : o < 2 ^ 31) (hz : 9 < z) : fX4_tally z (nI o) = some (nI (tl o)) := by
  unfold fX4_tally
  refine (lp_b (fun i => (nI (tl4 o i), nI i)) 9 (nI (tl4 o 9)) rfl (fun i hi => ?_) ?_ hz).trans ?_
  · show fX4_tally_L4 z (nI o) (nI (tl4 o i)) (nI i) = _
    unfold fX4_tally_L4
    have k4 := kd_lt o i
    rw [if_neg (nI9 hi), kindAt_nI ho (by omega), show (8 : Int32) * nI (kd o i) = nI (8 * kd o i) from pk_mul 8 _, one_sh (by omega), nI_add, nI_1]
    have : tl4 o (i + 1) = tl4 o i + 2 ^ (8 * kd o i) := by
      unfold tl4
      rw [ct_succ, ct_succ, ct_succ, ct_succ]
      have : kd o i = 0 ∨ kd o i = 1 ∨ kd o i = 2 ∨ kd o i = 3 := by omega
      rcases this with e | e | e | e <;> rw [e] <;> simp <;> omega
    rw [this]
  · show fX4_tally_L4 z (nI o) (nI (tl4 o 9)) (nI 9) = _
    unfold fX4_tally_L4
    rw [if_pos (by decide)]
  · show fX4_tally_J29 z (nI (tl4 o 9)) = _
    unfold fX4_tally_J29
    have h0 := ct_sum o 9
    rw [pk_shrN (by unfold tl4; omega) _ 8 (by decide)]
    congr 2
    unfold tl4 tl
    omega
theorem byte_at {W j : Nat} (hW : W < 2 ^ 31) (hj : j < 4) : (nI W >>> (nI (8 * j) &&& 31)) &&& 255 = nI (W / 2 ^ (8 * j) % 256) := by
  rw [pk_shrN hW _ (8 * j) (s_l (8 * j) (by omega)), pk_andN (Nat.lt_of_le_of_lt (Nat.div_le_self _ _) (by omega)) 8 rfl]
theorem mix_step {z W T x j : Nat} (hW : W < 2 ^ 31) (hT : T < 2 ^ 31) (hj : j ≤ 2) (hx : x < 1000) :
    fX4_mixtureOf_L4 z (nI W) (nI T) (nI x) (nI (8 * j)) = if W / 2 ^ (8 * j) % 256 < T / 2 ^ (8 * j) % 256 then some (.inr (.inr (-1))) else if W / 2 ^ (8 * j) % 256 - T / 2 ^ (8 * j) % 256 ≤ 4 then some (.inl (nI (x * 5 + (W / 2 ^ (8 * j) % 256 - T / 2 ^ (8 * j) % 256)), nI (8 * (j + 1)))) else some (.inr (.inr (-1))) := by
  unfold fX4_mixtureOf_L4
  rw [if_neg (show ¬ (16 : Int32) < nI (8 * j) from nI_nlt (a := 16) (b := 8 * j) (by omega) (by decide)), byte_at hW (by omega), byte_at hT (by omega)]
  have w := Nat.mod_lt (W / 2 ^ (8 * j)) (show 0 < 256 by decide)
  have t := Nat.mod_lt (T / 2 ^ (8 * j)) (show 0 < 256 by decide)
  generalize W / 2 ^ (8 * j) % 256 = a at *
  generalize T / 2 ^ (8 * j) % 256 = b at *
  by_cases c : a < b
  · rw [if_pos (pk_sneg (by omega) c), if_pos c]
  · rw [pk_sub (by omega), if_neg (nI_pos (by omega)), if_neg c]
    by_cases c2 : a - b ≤ 4
    · rw [if_pos (show nI (a - b) ≤ 4 from nI_le (a := a - b) (b := 4) c2 (by decide)), if_pos c2, show nI x * 5 = nI (x * 5) from pk_mul x 5, nI_add, show nI (8 * j) + 8 = nI (8 * j + 8) from nI_add _ 8]
      rw [show 8 * (j + 1) = 8 * j + 8 by omega]
    · rw [if_neg (show ¬ nI (a - b) ≤ 4 from nI_ge (a := 4) (b := a - b) (by omega) (by omega)), if_neg c2]
/-- a mixture: 999 none -/
def mx (w1 w2 w3 t1 t2 t3 : Nat) : Nat := if (t1 ≤ w1 ∧ w1 - t1 ≤ 4) ∧ (t2 ≤ w2 ∧ w2 - t2 ≤ 4) ∧ (t3 ≤ w3 ∧ w3 - t3 ≤ 4) then 25 * (w1 - t1) + 5 * (w2 - t2) + (w3 - t3) else 999
def mI (m : Nat) : Int32 := if m = 999 then -1 else nI m
theorem mix_nI {z w1 w2 w3 t1 t2 t3 : Nat} (h1 : w1 < 100) (h2 : w2 < 100) (h3 : w3 < 100) (g1 : t1 < 100) (g2 : t2 < 100) (g3 : t3 < 100) (hz : 9 < z) : fX4_mixtureOf z (nI (w1 + 256 * w2 + 65536 * w3)) (nI (t1 + 256 * t2 + 65536 * t3)) = some (mI (mx w1 w2 w3 t1 t2 t3)) := by
  obtain ⟨z', rfl⟩ : ∃ z', z = z' + 4 := ⟨z - 4, by omega⟩
  unfold fX4_mixtureOf
  have s0 := fun x hx => mix_step (z := z' + 4) (W := w1 + 256 * w2 + 65536 * w3) (T := t1 + 256 * t2 + 65536 * t3) (x := x) (j := 0) (by omega) (by omega) (by omega) hx
  have s1 := fun x hx => mix_step (z := z' + 4) (W := w1 + 256 * w2 + 65536 * w3) (T := t1 + 256 * t2 + 65536 * t3) (x := x) (j := 1) (by omega) (by omega) (by omega) hx
  have s2 := fun x hx => mix_step (z := z' + 4) (W := w1 + 256 * w2 + 65536 * w3) (T := t1 + 256 * t2 + 65536 * t3) (x := x) (j := 2) (by omega) (by omega) (by omega) hx
  have a0 : (w1 + 256 * w2 + 65536 * w3) / 2 ^ (8 * 0) % 256 = w1 := by simp; omega
  have a1 : (w1 + 256 * w2 + 65536 * w3) / 2 ^ (8 * 1) % 256 = w2 := by simp; omega
  have a2 : (w1 + 256 * w2 + 65536 * w3) / 2 ^ (8 * 2) % 256 = w3 := by simp; omega
  have b0 : (t1 + 256 * t2 + 65536 * t3) / 2 ^ (8 * 0) % 256 = t1 := by simp; omega
  have b1 : (t1 + 256 * t2 + 65536 * t3) / 2 ^ (8 * 1) % 256 = t2 := by simp; omega
  have b2 : (t1 + 256 * t2 + 65536 * t3) / 2 ^ (8 * 2) % 256 = t3 := by simp; omega
  rw [a0, b0] at s0
  rw [a1, b1] at s1
  rw [a2, b2] at s2
  have fin : ∀ e : Int32 ⊕ Int32, lp (fun sg => fX4_mixtureOf_L4 (z' + 4) (nI (w1 + 256 * w2 + 65536 * w3)) (nI (t1 + 256 * t2 + 65536 * t3)) sg.1 sg.2) (z' + 4) (nI 0, nI (8 * 0)) = some e → e.elim (fun x => x) (fun x => x) = mI (mx w1 w2 w3 t1 t2 t3) → ((lp (fun sg => fX4_mixtureOf_L4 (z' + 4) (nI (w1 + 256 * w2 + 65536 * w3)) (nI (t1 + 256 * t2 + 65536 * t3)) sg.1 sg.2) (z' + 4) ((0 : Int32), (0 : Int32))).bind (fun ey => ey.elim (fun ex => fX4_mixtureOf_J53 (z' + 4) ex) (fun rr => some rr))) = some (mI (mx w1 w2 w3 t1 t2 t3)) := by
    intro e h1 h2
    rw [show ((0 : Int32), (0 : Int32)) = (nI 0, nI (8 * 0)) from rfl, h1]
    cases e with
    | inl x => exact congrArg some h2
    | inr x => exact congrArg some h2
  have bad : (¬ ((t1 ≤ w1 ∧ w1 - t1 ≤ 4) ∧ (t2 ≤ w2 ∧ w2 - t2 ≤ 4) ∧ (t3 ≤ w3 ∧ w3 - t3 ≤ 4))) → mI (mx w1 w2 w3 t1 t2 t3) = -1 := by
    intro h
    unfold mx
    rw [if_neg h]
    rfl
  by_cases c0 : t1 ≤ w1 ∧ w1 - t1 ≤ 4
  · have e0 := s0 0 (by omega)
    rw [if_neg (by omega), if_pos c0.2] at e0
    by_cases c1 : t2 ≤ w2 ∧ w2 - t2 ≤ 4
    · have e1 := s1 (0 * 5 + (w1 - t1)) (by omega)
      rw [if_neg (by omega), if_pos c1.2] at e1
      by_cases c2 : t3 ≤ w3 ∧ w3 - t3 ≤ 4
      · have e2 := s2 ((0 * 5 + (w1 - t1)) * 5 + (w2 - t2)) (by omega)
        rw [if_neg (by omega), if_pos c2.2] at e2
        refine fin (.inl (nI (((0 * 5 + (w1 - t1)) * 5 + (w2 - t2)) * 5 + (w3 - t3)))) ?_ ?_
        · rw [lp_in e0, lp_in e1, lp_in e2]
          refine lp_out ?_
          show fX4_mixtureOf_L4 (z' + 4) _ _ (nI (((0 * 5 + (w1 - t1)) * 5 + (w2 - t2)) * 5 + (w3 - t3))) (nI (8 * (2 + 1))) = _
          unfold fX4_mixtureOf_L4
          rw [if_pos (by decide)]
        · unfold mx
          rw [if_pos ⟨c0, c1, c2⟩]
          unfold mI
          rw [if_neg (by omega)]
          show nI _ = nI _
          congr 1
          omega
      · have e2 := s2 ((0 * 5 + (w1 - t1)) * 5 + (w2 - t2)) (by omega)
        refine fin (.inr (-1)) ?_ (bad (fun h => c2 h.2.2)).symm
        rw [lp_in e0, lp_in e1]
        refine lp_out (e2.trans ?_)
        by_cases g : w3 < t3
        · rw [if_pos g]
        · rw [if_neg g, if_neg (fun h => c2 ⟨by omega, h⟩)]
    · have e1 := s1 (0 * 5 + (w1 - t1)) (by omega)
      refine fin (.inr (-1)) ?_ (bad (fun h => c1 h.2.1)).symm
      rw [lp_in e0]
      refine lp_out (e1.trans ?_)
      by_cases g : w2 < t2
      · rw [if_pos g]
      · rw [if_neg g, if_neg (fun h => c1 ⟨by omega, h⟩)]
  · have e0 := s0 0 (by omega)
    refine fin (.inr (-1)) ?_ (bad (fun h => c0 h.1)).symm
    refine lp_out (e0.trans ?_)
    by_cases g : w1 < t1
    · rw [if_pos g]
    · rw [if_neg g, if_neg (fun h => c0 ⟨by omega, h⟩)]
