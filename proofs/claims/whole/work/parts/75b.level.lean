/-! ===== levels, reckoned ===== -/
section LR
variable {n : Nat} {bk : Nat → Nat} {o z : Nat} {dp par : Nat → Int32} {sort : Int32}
theorem depthX_nI {i : Nat} (hi : i < 9) : fX6_depthOf z (nI i) dp = some (dp i) := by
  unfold fX6_depthOf
  rw [if_neg (nI_pos (by omega)), if_neg (nI9 hi), agd_in hi (by decide), cl_nI (by omega)]
theorem i_max_nI {a b : Nat} (ha : a < 2 ^ 31) (hb : b < 2 ^ 31) : i_max (nI a) (nI b) = nI (max a b) := by
  unfold i_max
  by_cases c : a < b
  · rw [if_pos (nI_lt c hb), Nat.max_eq_right (by omega)]
  · rw [if_neg (nI_nlt (by omega) ha), Nat.max_eq_left (by omega)]
theorem levelOf_nI (h : ED n bk) (hd : ∀ i, i < n → dp i = nI (dd n bk i)) (ho : o < 4 ^ 9) (hz : 20 < z) : fX2_levelOf z (nI o) (nI n) dp = some (nI (lv n bk o)) := by
  have h9 := h.2.1
  have o31 : o < 2 ^ 31 := Nat.lt_of_lt_of_le ho (by decide)
  unfold fX2_levelOf
  rw [lp_b (fun i => (nI (72 + gP n bk o i - gM n bk o i), nI i)) n (nI (lv n bk o)) (s0 := (72, 0)) rfl (fun i hi => ?_) ?_ (by omega)]
  · unfold fX2_levelOf_J66
    have := lv_144 (o := o) h
    rw [show (144 : Int32) = nI 144 from rfl, i_min_nI (by omega) (by decide), Nat.min_eq_left this, show (0 : Int32) = nI 0 from rfl, i_max_nI (by decide) (by omega), Nat.max_eq_right (Nat.zero_le _)]
  · show fX2_levelOf_L5 z (nI o) (nI (72 + gP n bk o n - gM n bk o n)) (nI n) (nI n) dp = some (.inr (nI (lv n bk o)))
    unfold fX2_levelOf_L5
    rw [if_pos (nI_le (Nat.le_refl _) (by omega))]
    rfl
  · show fX2_levelOf_L5 z (nI o) (nI (72 + gP n bk o i - gM n bk o i)) (nI i) (nI n) dp = some (.inl (nI (72 + gP n bk o (i + 1) - gM n bk o (i + 1)), nI (i + 1)))
    have l1 := gM_le (o := o) h (show i ≤ n by omega)
    have l2 := gM_le (o := o) h (show i + 1 ≤ n by omega)
    have eP : gP n bk o (i + 1) = gP n bk o i + (if kd o i = 1 then dd n bk i else 0) := rfl
    have eM : gM n bk o (i + 1) = gM n bk o i + (if kd o i = 2 then dd n bk i else 0) := rfl
    unfold fX2_levelOf_L5
    rw [if_neg (nI_ge hi (by omega)), kindAt_nI o31 (by omega), nI_1, depthX_nI (by omega), hd i hi]
    have hk := kd_lt o i
    by_cases c1 : kd o i = 1
    · rw [if_pos (by rw [c1]; rfl), Option.bind_some, nI_add, eP, eM, if_pos c1, if_neg (by omega)]
      rw [show 72 + gP n bk o i - gM n bk o i + dd n bk i = 72 + (gP n bk o i + dd n bk i) - (gM n bk o i + 0) by omega]
    · rw [if_neg (show ¬ nI (kd o i) = 1 from fun e => c1 ((nI_eq (b := 1) (by omega) (by decide)).mp e))]
      by_cases c2 : kd o i = 2
      · rw [eM, if_pos c2] at l2
        rw [if_pos (by rw [c2]; rfl), Option.bind_some, pk_sub (by omega), eP, eM, if_neg c1, if_pos c2]
        rw [show 72 + gP n bk o i - gM n bk o i - dd n bk i = 72 + (gP n bk o i + 0) - (gM n bk o i + dd n bk i) by omega]
      · rw [if_neg (show ¬ nI (kd o i) = 2 from fun e => c2 ((nI_eq (b := 2) (by omega) (by decide)).mp e)), eP, eM, if_neg c1, if_neg c2]
        rfl
theorem depthM_lp (h : ED n bk) (hB : BO n bk sort par) : ∀ m j s y, j ≤ m → j < n → dd n bk j < y → lp (fun sg => fX10_depthOf_L4 z sg.1 sg.2 sort par (nI n)) y (nI s, nI j) = some (nI (s + dd n bk j))
  | m, j, s, 0, _, _, hy => by omega
  | m, j, s, y + 1, hm, hj, hy => by
    have h9 := h.2.1
    rcases Nat.eq_zero_or_pos j with e | e
    · subst e
      refine lp_out ?_
      show fX10_depthOf_L4 z (nI s) (nI 0) sort par (nI n) = _
      unfold fX10_depthOf_L4
      rw [hB z 0 hj, Option.bind_some, h.2.2.2.1, bI_99, if_pos rfl]
      rfl
    · have hlt := h.2.2.2.2 j e hj
      have ed := dd_s h e hj
      cases m with
      | zero => omega
      | succ m =>
        rw [lp_in (s' := (nI (s + 1), nI (bk j)))]
        · rw [depthM_lp h hB m (bk j) (s + 1) y (by omega) (by omega) (by omega), ed]
          rw [show s + 1 + dd n bk (bk j) = s + (dd n bk (bk j) + 1) by omega]
        · show fX10_depthOf_L4 z (nI s) (nI j) sort par (nI n) = _
          unfold fX10_depthOf_L4
          rw [hB z j hj, Option.bind_some, bI_ne (by omega), if_neg (nI_ne_m1 (by omega)), Option.bind_some, nI_1]
theorem depthM_nI (h : ED n bk) (hB : BO n bk sort par) {j : Nat} (hj : j < n) (hz : 20 < z) : fX10_depthOf z (nI j) sort par (nI n) = some (nI (dd n bk j)) := by
  have := dd_8 h hj
  unfold fX10_depthOf
  rw [show ((0 : Int32), nI j) = (nI 0, nI j) from rfl, depthM_lp h hB j j 0 z (Nat.le_refl _) hj (by omega), Option.bind_some, Nat.zero_add]
  rfl
theorem sub_add_r (a b d : Int32) : a - b + d = a + d - b := by
  rw [Int32.sub_eq_add_neg, Int32.sub_eq_add_neg, Int32.add_assoc, Int32.add_comm (-b) d, ← Int32.add_assoc]
theorem sub_add_n (a b d : Int32) : a - b + -d = a - (b + d) := by
  rw [Int32.sub_eq_add_neg, Int32.sub_eq_add_neg, Int32.neg_add, Int32.sub_eq_add_neg, Int32.add_assoc]
theorem went_lv {P M : Nat} (h : M ≤ 72) : nI P - nI M = nI (72 + P - M) - 72 := by
  rw [← pk_sub (show M ≤ 72 + P by omega), ← nI_add, show (72 : Int32) = nI 72 from rfl, Int32.sub_eq_add_neg, Int32.sub_eq_add_neg, Int32.sub_eq_add_neg, Int32.add_comm (nI 72) (nI P), Int32.add_assoc (nI P + nI 72), Int32.add_comm (-nI M) (-nI 72), ← Int32.add_assoc (nI P + nI 72), Int32.add_assoc (nI P) (nI 72), Int32.add_right_neg, Int32.add_zero]
theorem wentBy_nI (h : ED n bk) (hB : BO n bk sort par) (ho : o < 4 ^ 9) (hz : 20 < z) : fX10_wentBy z (nI o) (nI n) sort par = some (nI (lv n bk o) - 72) := by
  have h9 := h.2.1
  have o31 : o < 2 ^ 31 := Nat.lt_of_lt_of_le ho (by decide)
  unfold fX10_wentBy
  rw [lp_b (fun i => (nI (gP n bk o i) - nI (gM n bk o i), nI i)) n (nI (gP n bk o n) - nI (gM n bk o n)) (show _ = _ by show ((0 : Int32), (0 : Int32)) = (nI 0 - nI 0, nI 0); decide) (fun i hi => ?_) ?_ (by omega)]
  · unfold fX10_wentBy_J59
    rw [went_lv (gM_le h (Nat.le_refl _))]
    rfl
  · show fX10_wentBy_L4 z (nI o) (nI (gP n bk o n) - nI (gM n bk o n)) (nI n) (nI n) sort par = _
    unfold fX10_wentBy_L4
    rw [if_pos (nI_le (Nat.le_refl _) (by omega))]
  · show fX10_wentBy_L4 z (nI o) (nI (gP n bk o i) - nI (gM n bk o i)) (nI i) (nI n) sort par = some (.inl (nI (gP n bk o (i + 1)) - nI (gM n bk o (i + 1)), nI (i + 1)))
    have eP : gP n bk o (i + 1) = gP n bk o i + (if kd o i = 1 then dd n bk i else 0) := rfl
    have eM : gM n bk o (i + 1) = gM n bk o i + (if kd o i = 2 then dd n bk i else 0) := rfl
    unfold fX10_wentBy_L4
    rw [if_neg (nI_ge hi (by omega)), at_nI o31 (by omega), nI_1, depthM_nI h hB hi hz]
    have hk := kd_lt o i
    by_cases c1 : kd o i = 1
    · rw [if_pos (by rw [c1]; rfl), Option.bind_some, eP, eM, if_pos c1, if_neg (by omega), sub_add_r, nI_add]
      rfl
    · rw [if_neg (show ¬ nI (kd o i) = 1 from fun e => c1 ((nI_eq (b := 1) (by omega) (by decide)).mp e))]
      by_cases c2 : kd o i = 2
      · rw [if_pos (by rw [c2]; rfl), Option.bind_some, eP, eM, if_neg c1, if_pos c2, sub_add_n, nI_add]
        rfl
      · rw [if_neg (show ¬ nI (kd o i) = 2 from fun e => c2 ((nI_eq (b := 2) (by omega) (by decide)).mp e)), eP, eM, if_neg c1, if_neg c2, Int32.add_zero]
        rfl
end LR
