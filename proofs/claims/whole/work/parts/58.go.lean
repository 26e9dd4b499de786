/-! ===== the reference's reading ===== -/
theorem in_nI {a h : Nat} (ha : a < 2 ^ 31) (hh : h < 2 ^ 31) : fX10_in (nI a).toInt64 0 (nI h).toInt64 = b01 (decide (a ≤ h)) := by
  unfold fX10_in
  rw [nI_l ha, nI_l hh, if_neg (fun e => ?_)]
  · by_cases c : a ≤ h
    · rw [if_neg (fun e => ?_)]
      · simp [b01, c]
      · have := (lg_cmp_gt _ _).mp e
        rw [lN_lt hh ha] at this
        omega
    · rw [if_pos ((lg_cmp_gt _ _).mpr ((lN_lt hh ha).mpr (by omega)))]
      simp [b01, c]
  · have := (lg_cmp_lt _ _).mp e
    rw [show (0 : Int64) = lN 0 from rfl, lN_lt ha (by decide)] at this
    omega
theorem in_lo {x : Int32} {h : Int64} (hx : x < 0) : fX10_in x.toInt64 0 h = 0 := by
  unfold fX10_in
  rw [if_pos]
  rw [lg_cmp_lt, show (0 : Int64) = (0 : Int32).toInt64 from rfl, fa_wide_lt]
  exact hx
abbrev GT : Type := Int32 × Int32 × Int32 × Int32 × Int32 × Int32 × Int32 × (Nat → Int32)
def RT (s : Nat) (pm : Nat → Int32) (j : Nat) (t : GT) (e : Int32 × GT) : Prop := ∀ z w, 40 ≤ j + z →
  lp (fun sg => fX10_faultOf_L7 w sg.1 (nI s) pm sg.2.1 sg.2.2.1 sg.2.2.2.2.2.1 sg.2.2.2.2.2.2.2.1 sg.2.2.2.2.2.2.1 sg.2.2.2.2.2.2.2.2 sg.2.2.2.1 sg.2.2.2.2.1) z (nI j, t) = some e
section GO
variable {s : Nat} {pm : Nat → Int32}
theorem RT_step {j x : Nat} {st so ot tw mn pa od st' so' ot' tw' mn' pa' od' : Int32} {ro ro' : Nat → Int32} {e : Int32 × GT} (hj : j < s) (h24 : s ≤ 24) (hx : pm j = nI x) (hgo : ∀ w, fX10_go w (nI x) st so mn od pa ro ot tw = some (1, so', ot', tw', mn', pa', od', st', ro')) (hn : RT s pm (j + 1) (st', so', ot', tw', mn', pa', od', ro') e) : RT s pm j (st, so, ot, tw, mn, pa, od, ro) e := by
  intro z w hz
  obtain ⟨z', rfl⟩ : ∃ z', z = z' + 1 := ⟨z - 1, by omega⟩
  rw [lp_in (s' := (nI (j + 1), st', so', ot', tw', mn', pa', od', ro'))]
  · exact hn z' w (by omega)
  · show fX10_faultOf_L7 w (nI j) (nI s) pm st so mn od pa ro ot tw = _
    unfold fX10_faultOf_L7
    rw [if_neg (nI_ge hj (by omega)), agd_in (by omega) (by decide), cl_nI (by omega), hx, hgo w]
    show some (Sum.inl (nI j + 1, _)) = _
    rw [nI_1]
theorem RT_rej {j x : Nat} {st so ot tw mn pa od st' so' ot' tw' mn' pa' od' : Int32} {ro ro' : Nat → Int32} (hj : j < s) (h24 : s ≤ 24) (hx : pm j = nI x) (hgo : ∀ w, fX10_go w (nI x) st so mn od pa ro ot tw = some (0, so', ot', tw', mn', pa', od', st', ro')) : RT s pm j (st, so, ot, tw, mn, pa, od, ro) (nI j, st', so', ot', tw', mn', pa', od', ro') := by
  intro z w hz
  obtain ⟨z', rfl⟩ : ∃ z', z = z' + 1 := ⟨z - 1, by omega⟩
  refine lp_out ?_
  show fX10_faultOf_L7 w (nI j) (nI s) pm st so mn od pa ro ot tw = _
  unfold fX10_faultOf_L7
  rw [if_neg (nI_ge hj (by omega)), agd_in (by omega) (by decide), cl_nI (by omega), hx, hgo w]
  rfl
theorem RT_end {t : GT} (h24 : s ≤ 24) : RT s pm s t (nI s, t) := by
  intro z w hz
  obtain ⟨z', rfl⟩ : ∃ z', z = z' + 1 := ⟨z - 1, by omega⟩
  obtain ⟨st, so, ot, tw, mn, pa, od, ro⟩ := t
  refine lp_out ?_
  show fX10_faultOf_L7 w (nI s) (nI s) pm st so mn od pa ro ot tw = _
  unfold fX10_faultOf_L7
  rw [if_pos (nI_le (Nat.le_refl _) (by omega))]
end GO
section GG
variable {w x : Nat} {so ot tw mn pa od : Int32} {ro : Nat → Int32}
theorem nlit {x k : Nat} (hx : x < 2 ^ 31) (hk : k < 2 ^ 31) (h : x ≠ k) : ¬ nI x = nI k := fun e => h ((nI_eq hx hk).mp e)
theorem go_0 (hx : x < 200) : fX10_go w (nI x) 0 so mn od pa ro ot tw = some (b01 (x == 114 || x == 119 || x == 116), nI x, 0, 0, 0, 1, 0, 1, ro) := by
  have e : fX10_goSort (nI x) so ot tw mn pa od 0 = (b01 (x == 114 || x == 119 || x == 116), nI x, 0, 0, 0, 1, 0, 1) := by
    unfold fX10_goSort
    by_cases c1 : x = 114
    · subst c1; rfl
    · rw [if_neg (show ¬ nI x = 114 from nlit (k := 114) (by omega) (by decide) c1), beq_eq_false_iff_ne.mpr c1]
      by_cases c2 : x = 119
      · subst c2; rfl
      · rw [if_neg (show ¬ nI x = 119 from nlit (k := 119) (by omega) (by decide) c2), beq_eq_false_iff_ne.mpr c2]
        by_cases c3 : x = 116
        · subst c3; rfl
        · rw [if_neg (show ¬ nI x = 116 from nlit (k := 116) (by omega) (by decide) c3), beq_eq_false_iff_ne.mpr c3]
          rfl
  unfold fX10_go
  rw [if_pos rfl, e]
  exact b01_z
/-- a sign: what it answers, the states before and behind -/
theorem go_sgn {k : Nat} {r ot' st' tw' : Int32} (hk : 1 ≤ k) (hk3 : k ≤ 3) (hr : r = 0 ∨ r = 1) (h : fX10_goSign (nI x) (nI k) ot tw = (r, ot', st', tw')) : fX10_go w (nI x) (nI k) so mn od pa ro ot tw = some (r, so, ot', tw', mn, pa, od, st', ro) := by
  unfold fX10_go
  rw [if_neg (nI_ne0 (by omega) (by omega)), if_neg (show ¬ (4 : Int32) ≤ nI k from nI_ge (b := 4) (by omega) (by decide)), h]
  show zgd r _ = _
  rcases hr with e | e <;> subst e <;> rfl
theorem sgn_o : fX10_goSign (nI 111) (nI 1) ot tw = (1, 1, 2, tw) := rfl
theorem sgn_2 {k : Nat} (hk : k = 1 ∨ k = 2) : fX10_goSign (nI 50) (nI k) ot tw = (1, ot, 3, 1) := by rcases hk with e | e <;> subst e <;> rfl
theorem sgn_c {k : Nat} (hk : 1 ≤ k) (hk3 : k ≤ 3) : fX10_goSign (nI 58) (nI k) ot tw = (1, ot, 4, tw) := by
  have : k = 1 ∨ k = 2 ∨ k = 3 := by omega
  rcases this with e | e | e <;> subst e <;> rfl
theorem sgn_no {k : Nat} (hx : x < 200) (hk : 1 ≤ k) (hk3 : k ≤ 3) (h1 : k = 1 → x ≠ 111) (h2 : k ≤ 2 → x ≠ 50) (h3 : x ≠ 58) : fX10_goSign (nI x) (nI k) ot tw = (0, ot, 4, tw) := by
  have j52 : fX10_goSign_J52 (nI x) (nI k) ot tw = (0, ot, 4, tw) := by
    unfold fX10_goSign_J52
    rw [if_neg (show ¬ nI x = 58 from nlit (k := 58) (by omega) (by decide) h3)]
  have j26 : fX10_goSign_J26 (nI x) (nI k) ot tw = (0, ot, 4, tw) := by
    unfold fX10_goSign_J26
    by_cases c : x = 50
    · have k3 : k = 3 := by
        rcases Nat.lt_or_ge k 3 with q | q
        · exact absurd c (h2 (by omega))
        · omega
      subst k3
      rw [if_pos (by rw [c]; rfl), if_pos (by decide), j52]
    · rw [if_neg (show ¬ nI x = 50 from nlit (k := 50) (by omega) (by decide) c), j52]
  unfold fX10_goSign
  by_cases c : x = 111
  · have kn : k ≠ 1 := fun e => h1 e c
    rw [if_pos (by rw [c]; rfl), if_neg (show ¬ nI k = 1 from nlit (k := 1) (by omega) (by decide) kn), j26]
  · rw [if_neg (show ¬ nI x = 111 from nlit (k := 111) (by omega) (by decide) c), j26]
theorem go_4s {N c0 : Nat} (hN : N ≤ 9) (hc : c0 < 200) : fX10_go w (nI 47) 4 (nI c0) (nI N) od pa ro ot tw = some (b01 (c0 == 116 && decide (2 ≤ N)), nI c0, ot, tw, nI N, pa, od, 5, ro) := by
  unfold fX10_go
  rw [if_neg (by decide), if_pos (by decide), if_pos rfl, if_pos (show nI 47 = 47 from rfl)]
  by_cases c : c0 = 116
  · rw [if_pos (by rw [c]; rfl), c]
    by_cases c2 : 2 ≤ N
    · rw [if_neg (show ¬ nI N ≤ 1 from nI_ge (a := 1) (by omega) (by omega))]; simp [c2, b01]
    · rw [if_pos (show nI N ≤ 1 from nI_le (b := 1) (by omega) (by decide))]; simp [c2, b01]
  · rw [if_neg (show ¬ nI c0 = 116 from nlit (k := 116) (by omega) (by decide) c), beq_eq_false_iff_ne.mpr c]; rfl
theorem go_4k {N o : Nat} (hx : x < 200) (h47 : x ≠ 47) (hk : kl x ≠ 99) (hN : N < 9) (ho : o < 4 ^ N) : fX10_go w (nI x) 4 so (nI N) (nI o) pa ro ot tw = some (1, so, ot, tw, nI (N + 1), pa, nI (o + kl x * 4 ^ N), 4, ro) := by
  have hk3 : kl x ≤ 3 := by rcases kl_le x with a | a <;> omega
  have h4 : 4 ^ N ≤ 65536 := p49 hN
  unfold fX10_go fX10_go_J69 fX10_go_J99
  rw [if_neg (by decide), if_pos (by decide), if_pos rfl, if_neg (show ¬ nI x = 47 from nlit (k := 47) (by omega) (by decide) h47), if_pos rfl, kindOf_nI (by omega), if_neg (fun e => hk ((bI_m1 (by omega)).mp e)), if_neg (nI9 hN), if_neg (by decide), bI_ne hk]
  have h5 : kl x * 4 ^ N ≤ 3 * 65536 := Nat.mul_le_mul hk3 h4
  rw [shl_nI (by omega) (by omega), fa_or, nI_1]
  have eor : o ||| kl x * 4 ^ N = o + kl x * 4 ^ N := by
    have := Nat.two_pow_add_eq_or_of_lt (i := 2 * N) (b := o) (by rw [← p42]; exact ho) (kl x)
    rw [← p42, Nat.mul_comm] at this
    rw [Nat.or_comm, ← this, Nat.add_comm]
  rw [eor]
  rfl
theorem go_4r {N : Nat} {o : Int32} (hx : x < 200) (h47 : x ≠ 47) (hN9 : N ≤ 9) (h : kl x = 99 ∨ N = 9) : fX10_go w (nI x) 4 so (nI N) o pa ro ot tw = some (0, so, ot, tw, nI N, pa, o, 4, ro) := by
  have hkb : kl x < 2 ^ 31 := by rcases kl_le x with a | a <;> omega
  unfold fX10_go fX10_go_J69 fX10_go_J98 fX10_go_J99
  rw [if_neg (by decide), if_pos (by decide), if_pos rfl, if_neg (show ¬ nI x = 47 from nlit (k := 47) (by omega) (by decide) h47), if_pos rfl, kindOf_nI (by omega)]
  have e : ∀ {α : Type} (a b : α), (if bI (kl x) = -1 then a else (if (9 : Int32) ≤ nI N then a else b)) = a := by
    intro α a b
    by_cases k9 : kl x = 99
    · rw [if_pos ((bI_m1 hkb).mpr k9)]
    · rw [if_neg (fun q => k9 ((bI_m1 hkb).mp q)), if_pos (show (9 : Int32) ≤ nI N from nI_le (a := 9) (by have := h.resolve_left k9; omega) (by omega))]
  rw [e, if_pos rfl]
  exact zgd_0
theorem go_5k {N p : Nat} (h48 : 48 ≤ x) (hx : x < 200) (hp : x - 48 < p) (hpN : p < N) (hN : N ≤ 9) : fX10_go w (nI x) 5 so (nI N) od (nI p) ro ot tw = some (1, so, ot, tw, nI N, nI (p + 1), od, 5, upd ro p (nI (x - 48))) := by
  unfold fX10_go fX10_go_J69 fX10_go_J171
  rw [if_neg (by decide), if_pos (by decide), if_neg (by decide), if_neg (by decide), if_neg (nI_ge hpN (by omega))]
  rw [show nI x - 48 = nI (x - 48) from pk_sub (b := 48) h48, show nI p - 1 = nI (p - 1) from pk_sub (b := 1) (by omega), in_nI (by omega) (by omega)]
  have : decide (x - 48 ≤ p - 1) = true := by simp; omega
  rw [this, if_neg (by decide), if_neg (by decide), agd_in (by omega) (by decide), cl_nI (by omega), nI_1]
  exact zgd_1
theorem go_5r {N p : Nat} (hx : x < 200) (hp : p ≤ N) (h1 : 1 ≤ p) (hN : N ≤ 9) (h : p = N ∨ x < 48 ∨ p ≤ x - 48) : fX10_go w (nI x) 5 so (nI N) od (nI p) ro ot tw = some (0, so, ot, tw, nI N, nI p, od, 5, ro) := by
  unfold fX10_go fX10_go_J69 fX10_go_J170 fX10_go_J171
  rw [if_neg (by decide), if_pos (by decide), if_neg (by decide), if_neg (by decide)]
  by_cases c : p = N
  · rw [if_pos (nI_le (by omega) (by omega)), if_pos rfl]
    exact zgd_0
  · rw [if_neg (nI_ge (by omega) (by omega))]
    have ein : fX10_in ((nI x - 48).toInt64) 0 ((nI p - 1).toInt64) = 0 := by
      by_cases c48 : x < 48
      · exact in_lo (pk_sneg (a := x) (b := 48) (by decide) c48)
      · rw [show nI x - 48 = nI (x - 48) from pk_sub (b := 48) (by omega), show nI p - 1 = nI (p - 1) from pk_sub (b := 1) (by omega), in_nI (by omega) (by omega)]
        have : decide (x - 48 ≤ p - 1) = false := by simp; omega
        rw [this]
        rfl
    rw [ein, if_pos rfl, if_pos rfl]
    exact zgd_0
end GG
