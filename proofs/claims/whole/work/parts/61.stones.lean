/-! ===== STONES: laid ===== -/
section LY
variable {s : Nat} {px pm : Nat → Int32}
theorem lay_72 (h : PG s px pm) (hW : rW (chr s px) s = true) {z : Nat} (hz : 20 < z) {b0 d0 : Nat → Int32} {t2 a1 a2 a3 rg oo ll : Int32} (h2 : t2 = bI (bkr (chr s px) 0)) :
    ∃ b d, fX6_lay_J72 z 0 t2 a1 (nI (chr s px 0)) a2 a3 rg (nI (rN (chr s px))) b0 d0 (nI (rP3 (chr s px) + 1)) (nI s) px oo ll = some (nI (rN (chr s px)), rg, oo, ll, b, d) ∧
      BH (rN (chr s px)) (bkr (chr s px)) b ∧ ∀ i, i < rN (chr s px) → d i = nI (dpt (bkl (rN (chr s px)) (bkr (chr s px))) i) := by
  unfold fX6_lay_J72
  rw [agd_0 (by decide), agd_0 (by decide)]
  obtain ⟨e, g1, g2, g3⟩ := lay_loop (z := z) (b0 := upd b0 0 t2) (d0 := upd d0 0 0) (a1 := a1) (a2 := a2) (a3 := a3) (a4 := rg) (a5 := nI (rP3 (chr s px) + 1)) (a6 := 0) (a7 := oo) (a8 := ll) h hW hz (by rw [pk_us, h2]) (by rw [pk_us])
  show ∃ b d, (lp _ z (1, upd b0 0 t2, upd d0 0 0)).bind _ = _ ∧ _
  rw [g1]
  exact ⟨e.1, e.2, rfl, g2, g3⟩
theorem lay_nI (h : PG s px pm) (hW : rW (chr s px) s = true) {z : Nat} (hz : 20 < z) {b0 d0 : Nat → Int32} {rg sz0 oo ll : Int32} :
    ∃ b d, fX6_lay z (nI (rN (chr s px))) (nI (chr s px 0)) (b01 (rOb (chr s px))) (b01 (rTb (chr s px))) rg sz0 b0 d0 (nI (rP3 (chr s px) + 1)) (nI s) px oo ll = some (nI (rN (chr s px)), b01 (chr s px 0 == 114), b01 (rOb (chr s px)), nI (lpN (rTb (chr s px))), b, d) ∧
      BH (rN (chr s px)) (bkr (chr s px)) b ∧ ∀ i, i < rN (chr s px) → d i = nI (dpt (bkl (rN (chr s px)) (bkr (chr s px))) i) := by
  have hN := rN_le (chr s px)
  have hN2 := (rW_facts hW).2.2.1
  have hc0 := chr_le h 0
  have key : ∀ (rg : Bool) (ll : Int32), rg = (chr s px 0 == 114) → ∃ b d, fX6_lay_J47 z (nI (lpN (rTb (chr s px)))) (nI (rN (chr s px))) (nI (chr s px 0)) (b01 (rOb (chr s px))) (b01 (rTb (chr s px))) (b01 rg) (nI (rN (chr s px))) b0 d0 (nI (rP3 (chr s px) + 1)) (nI s) px (b01 (rOb (chr s px))) ll = some (nI (rN (chr s px)), b01 (chr s px 0 == 114), b01 (rOb (chr s px)), nI (lpN (rTb (chr s px))), b, d) ∧
      BH (rN (chr s px)) (bkr (chr s px)) b ∧ ∀ i, i < rN (chr s px) → d i = nI (dpt (bkl (rN (chr s px)) (bkr (chr s px))) i) := by
    intro rg ll hrg
    unfold fX6_lay_J47
    rw [← hrg]
    have e0 : bkr (chr s px) 0 = if chr s px 0 = 114 then rN (chr s px) - 1 else 99 := by
      unfold bkr
      rw [if_neg (by omega)]
      by_cases ht : chr s px 0 = 116
      · rw [if_pos ht, if_pos rfl, if_neg (by omega)]
      · rw [if_neg ht, if_pos rfl]
    cases rg with
    | false =>
      rw [if_pos (show b01 false = 0 from rfl)]
      refine lay_72 h hW hz ?_
      have : ¬ chr s px 0 = 114 := fun e => by rw [e] at hrg; exact absurd hrg (by decide)
      rw [e0, if_neg this]
      rfl
    | true =>
      rw [if_neg (show ¬ b01 true = 0 by decide)]
      refine lay_72 h hW hz ?_
      have : chr s px 0 = 114 := by simpa using hrg.symm
      rw [e0, if_pos this, bI_ne (by omega)]
      exact pk_sub (b := 1) (by omega)
  have key2 : ∀ (rb : Bool), rb = (chr s px 0 == 114) → ∃ b d, fX6_lay_J23 z (b01 rb) (nI (rN (chr s px))) (nI (chr s px 0)) (b01 (rOb (chr s px))) (b01 (rTb (chr s px))) rg (nI (rN (chr s px))) b0 d0 (nI (rP3 (chr s px) + 1)) (nI s) px oo ll = some (nI (rN (chr s px)), b01 (chr s px 0 == 114), b01 (rOb (chr s px)), nI (lpN (rTb (chr s px))), b, d) ∧
      BH (rN (chr s px)) (bkr (chr s px)) b ∧ ∀ i, i < rN (chr s px) → d i = nI (dpt (bkl (rN (chr s px)) (bkr (chr s px))) i) := by
    intro rb hrg
    have k := key rb ll hrg
    unfold fX6_lay_J23
    rw [b01_z, b01_z]
    cases hT : rTb (chr s px) with
    | false =>
      rw [hT] at k
      rw [if_pos (show b01 false = 0 from rfl)]
      exact k
    | true =>
      rw [hT] at k
      rw [if_neg (show ¬ b01 true = 0 by decide)]
      exact k
  unfold fX6_lay
  by_cases c : chr s px 0 = 114
  · rw [if_pos (show nI (chr s px 0) = 114 by rw [c]; rfl)]
    exact key2 true (by rw [c]; rfl)
  · rw [if_neg (show ¬ nI (chr s px 0) = 114 from nlit (k := 114) (by omega) (by decide) c)]
    exact key2 false (by symm; exact beq_eq_false_iff_ne.mpr c)
end LY
