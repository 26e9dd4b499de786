/-! ===== STONES: both sides ===== -/
/-- how the stones lie, in both -/
def ST (n : Nat) (bk : Nat → Nat) (two oth ring : Bool) (xr xo xl : Int32) (bh dp : Nat → Int32) (sort mo mt : Int32) (par : Nat → Int32) : Prop :=
  (n = 0 ∨ 2 ≤ n) ∧ PB n bk ∧ BH n bk bh ∧ BO n bk sort par ∧ xr = b01 ring ∧ (0 < n → (sort = 114 ↔ ring = true)) ∧ xo = b01 oth ∧ mo = b01 oth ∧ mt = b01 two ∧ (0 < n → xl = nI (lpN two)) ∧
  (ring = false → 0 < n → bk 0 = 99 ∧ ∀ i, 0 < i → i < n → bk i < i) ∧ (ring = false → ∀ i, i < n → dp i = nI (dpt (bkl n bk) i))
section SP
variable {s : Nat} {px pm : Nat → Int32}
theorem bkr_BO (h : PG s px pm) (hW : rW (chr s px) s = true) {par : Nat → Int32} (hp0 : par 0 = -1) (hp : chr s px 0 = 116 → ∀ t, 1 ≤ t → t < rN (chr s px) → par t = nI (chr s px (rP5 (chr s px) + t) - 48)) : BO (rN (chr s px)) (bkr (chr s px)) (nI (chr s px 0)) par := by
  have hN := rN_le (chr s px)
  have hN2 := (rW_facts hW).2.2.1
  have hc0 := chr_le h 0
  intro z i hi
  unfold fX10_backOf bkr
  rw [if_neg (show ¬ i = 99 by omega)]
  by_cases ht : chr s px 0 = 116
  · rw [if_pos (show nI (chr s px 0) = 116 by rw [ht]; rfl), if_pos ht, agd_in (by omega) (by decide), cl_nI (by omega)]
    by_cases c : i = 0
    · subst c; rw [hp0, if_pos rfl]; rfl
    · have := par_ok hW ht (i := i) (by omega) hi
      rw [if_neg c, hp ht i (by omega) hi, bI_ne (by omega)]
  · rw [if_neg (show ¬ nI (chr s px 0) = 116 from nlit (k := 116) (by omega) (by decide) ht), if_neg ht]
    by_cases c : i = 0
    · subst c
      rw [if_pos (by decide), if_pos rfl]
      by_cases c2 : chr s px 0 = 114
      · rw [if_pos (show nI (chr s px 0) = 114 by rw [c2]; rfl), if_pos c2, bI_ne (by omega)]
        exact congrArg some (pk_sub (b := 1) (by omega))
      · rw [if_neg (show ¬ nI (chr s px 0) = 114 from nlit (k := 114) (by omega) (by decide) c2), if_neg c2]
        rfl
    · rw [if_neg (nI_nle (by omega) (by omega)), if_neg c, bI_ne (by omega)]
      exact congrArg some (pk_sub (b := 1) (by omega))
theorem rW_ST (h : PG s px pm) (hW : rW (chr s px) s = true) {par bh dp : Nat → Int32} (hp0 : par 0 = -1) (hp : chr s px 0 = 116 → ∀ t, 1 ≤ t → t < rN (chr s px) → par t = nI (chr s px (rP5 (chr s px) + t) - 48)) (hb : BH (rN (chr s px)) (bkr (chr s px)) bh) (hd : ∀ i, i < rN (chr s px) → dp i = nI (dpt (bkl (rN (chr s px)) (bkr (chr s px))) i)) :
    ST (rN (chr s px)) (bkr (chr s px)) (rTb (chr s px)) (rOb (chr s px)) (chr s px 0 == 114) (b01 (chr s px 0 == 114)) (b01 (rOb (chr s px))) (nI (lpN (rTb (chr s px)))) bh dp (nI (chr s px 0)) (b01 (rOb (chr s px))) (b01 (rTb (chr s px))) par := by
  have hN2 := (rW_facts hW).2.2.1
  have hc0 := chr_le h 0
  refine ⟨Or.inr hN2, bkr_PB hW, hb, bkr_BO h hW hp0 hp, rfl, fun _ => ?_, rfl, rfl, rfl, fun _ => rfl, fun hr _ => ⟨?_, fun i h0 hi => bkr_lt hW h0 hi⟩, fun _ => hd⟩
  · rw [show (114 : Int32) = nI 114 from rfl, nI_eq (by omega) (by decide)]
    simp
  · have c : ¬ chr s px 0 = 114 := by simpa using hr
    unfold bkr
    rw [if_neg (by omega)]
    by_cases ht : chr s px 0 = 116
    · rw [if_pos ht, if_pos rfl]
    · rw [if_neg ht, if_pos rfl, if_neg c]
theorem rW_pl (hW : rW (chr s px) s = true) : rPl (chr s px) = s ∧ 0 < s := by
  obtain ⟨h1, h2, h3, h4, h5⟩ := rW_facts hW
  have hs : 0 < s := by
    refine chr_in (px := px) (fun e => ?_)
    unfold okf at h1
    rw [e] at h1
    exact absurd h1 (by decide)
  refine ⟨?_, hs⟩
  have hW' := hW
  unfold rW at hW'
  unfold rPl
  rw [if_neg (by rw [h1]; decide), if_neg (by rw [h2]; decide), if_neg (by omega)]
  by_cases ht : chr s px 0 = 116
  · rw [if_neg (fun e => e ht)]
    obtain ⟨q1, q2⟩ := h4 ht
    rw [if_pos ht] at hW'
    simp only [Bool.and_eq_true, beq_iff_eq] at hW'
    rw [if_neg (fun e => e hW'.2.1.1)]
    omega
  · rw [if_pos ht]
    exact h5 ht
/-- the reference's parents -/
theorem par_loop {z N : Nat} {g0 ro : Nat → Int32} (hN : N ≤ 9) (hz : 20 < z) {a1 a2 a3 a4 a5 a6 a7 a8 a9 a10 a11 a12 a13 a14 a15 : Int32} {pg : Nat → Int32} :
    ∃ e, lp (fun sg => fX10_stones_L130 z sg.1 a1 pg a2 a3 a4 a5 a6 ro a7 a8 (nI N) sg.2 a9 a10 a11 a12 a13 a14 a15) z (0, g0) = some e ∧ (e 0 = -1 ∧ ∀ t, 1 ≤ t → t < N → e t = ro t) := by
  refine lp_rel0 (fun (k : Nat) (t : Int32 × (Nat → Int32)) => t.1 = nI k ∧ (0 < k → t.2 0 = -1) ∧ ∀ i, 1 ≤ i → i < N → i < k → t.2 i = ro i) _ 9 ⟨rfl, fun h => by omega, fun i _ _ h => by omega⟩ (fun k t hk hr => ?_) (fun t hr => ?_) (by omega)
  · obtain ⟨x, g⟩ := t
    obtain ⟨r1, r2, r3⟩ := hr
    dsimp only at r1 r2 r3
    subst r1
    show ∃ s', fX10_stones_L130 z (nI k) a1 pg a2 a3 a4 a5 a6 ro a7 a8 (nI N) g a9 a10 a11 a12 a13 a14 a15 = _ ∧ _
    unfold fX10_stones_L130
    rw [if_neg (nI9 hk), agd_in hk (by decide), agd_in hk (by decide), agd_in hk (by decide), cl_nI (by omega), nI_1]
    by_cases c0 : k = 0
    · subst c0
      rw [if_pos (by decide)]
      exact ⟨_, rfl, rfl, fun _ => (show upd g 0 (-1) 0 = -1 from pk_us), fun i h1 _ h2 => by omega⟩
    · rw [if_neg (nI_nle (by omega) (by omega))]
      by_cases c1 : N ≤ k
      · rw [if_pos (nI_le c1 (by omega))]
        refine ⟨_, rfl, rfl, fun _ => ?_, fun i h1 h2 h3 => ?_⟩
        · show upd g k (-1) 0 = _
          rw [pk_un (by omega)]; exact r2 (by omega)
        · show upd g k (-1) i = _
          rw [pk_un (by omega)]; exact r3 i h1 h2 (by omega)
      · rw [if_neg (nI_ge (by omega) (by omega))]
        refine ⟨_, rfl, rfl, fun _ => ?_, fun i h1 h2 h3 => ?_⟩
        · show upd g k (ro k) 0 = _
          rw [pk_un (by omega)]; exact r2 (by omega)
        · show upd g k (ro k) i = _
          by_cases c : i = k
          · subst c; rw [pk_us]
          · rw [pk_un c]; exact r3 i h1 h2 (by omega)
  · obtain ⟨x, g⟩ := t
    obtain ⟨r1, r2, r3⟩ := hr
    dsimp only at r1 r2 r3
    subst r1
    show ∃ e, fX10_stones_L130 z (nI 9) a1 pg a2 a3 a4 a5 a6 ro a7 a8 (nI N) g a9 a10 a11 a12 a13 a14 a15 = _ ∧ _
    unfold fX10_stones_L130
    rw [if_pos (by decide)]
    exact ⟨_, rfl, r2 (by decide), fun t h1 h2 => r3 t h1 h2 (by omega)⟩
theorem stonesX_no (h : PG s px pm) {z : Nat} (hz : 2000 < z) (hW : rW (chr s px) s = false) {f1 f2 f3 f4 f5 f6 f7 xr n0 o0 lb rd xo xl mk0 al sd ks0 ha : Int32} {bh dp ms hn ls : Nat → Int32} :
    ∃ a1 a2 a3 a4 a5 a6 a7, fX9_stones z (nI s) px f1 f2 f3 f4 f5 f6 xr n0 bh dp f7 o0 ms hn lb ls rd xo xl mk0 al sd ks0 ha = some (-103, a1, a2, a3, a4, a5, a6, a7, n0, xr, xo, xl, bh, dp, mk0, o0, lb, ms, hn, ls, al, sd, ks0, ha, rd, nI s) := by
  unfold fX9_stones
  obtain ⟨r, e1, e2, e3, e4⟩ := read_nI (z := z) (f0 := f1) (p0 := f2) (s0 := f3) (w0 := f4) (i0 := f7) (o0 := f5) (t0 := f6) h (by omega)
  rw [e1]
  show ∃ a1 a2 a3 a4 a5 a6 a7, (if r.1 = 0 then _ else _) = _
  rw [e2, hW, if_pos (show b01 false = 0 from rfl)]
  exact ⟨_, _, _, _, _, _, _, rfl⟩
theorem stonesX_yes (h : PG s px pm) {z : Nat} (hz : 2000 < z) (hW : rW (chr s px) s = true) {f1 f2 f3 f4 f5 f6 f7 xr n0 o0 lb rd xo xl mk0 al sd ks0 ha : Int32} {bh dp ms hn ls : Nat → Int32} :
    ∃ a1 a2 a3 a4 a5 a6 a7 bh' dp' lb' ms' hn' ls' al' m hh, fX9_stones z (nI s) px f1 f2 f3 f4 f5 f6 xr n0 bh dp f7 o0 ms hn lb ls rd xo xl mk0 al sd ks0 ha = some (nI (rN (chr s px)), a1, a2, a3, a4, a5, a6, a7, nI (rN (chr s px)), b01 (chr s px 0 == 114), b01 (rOb (chr s px)), nI (lpN (rTb (chr s px))), bh', dp', 0, nI (odr (chr s px) (rP3 (chr s px) + 1) (rN (chr s px))), lb', ms', hn', ls', al', 0, 0, 0, rd + 1, 0) ∧
      BH (rN (chr s px)) (bkr (chr s px)) bh' ∧ (∀ i, i < rN (chr s px) → dp' i = nI (dpt (bkl (rN (chr s px)) (bkr (chr s px))) i)) ∧ m ≤ 5 ∧ hh ≤ 4 ∧ rN (chr s px) = m + hh ∧ TB m hh (odr (chr s px) (rP3 (chr s px) + 1) (rN (chr s px))) lb' ls' hn' al' := by
  have hN := rN_le (chr s px)
  have hk := (rN_lt h).1
  have hol := odr_lt hk
  unfold fX9_stones
  obtain ⟨r, e1, e2, e3, e4⟩ := read_nI (z := z) (f0 := f1) (p0 := f2) (s0 := f3) (w0 := f4) (i0 := f7) (o0 := f5) (t0 := f6) h (by omega)
  obtain ⟨g1, g2, g3, g4, g5⟩ := e4 hW
  obtain ⟨b, d, l1, l2, l3⟩ := lay_nI (z := z) (b0 := bh) (d0 := dp) (rg := xr) (sz0 := n0) (oo := xo) (ll := xl) h hW (by omega)
  obtain ⟨m, hh, q1, q2, q3⟩ : ∃ m hh, m ≤ 5 ∧ (hh = 4 ∨ (hh < 4 ∧ m = 0)) ∧ rN (chr s px) = m + hh := by
    by_cases c : 4 ≤ rN (chr s px)
    · exact ⟨rN (chr s px) - 4, 4, by omega, Or.inl rfl, by omega⟩
    · exact ⟨0, rN (chr s px), by omega, Or.inr ⟨by omega, rfl⟩, by omega⟩
  obtain ⟨p, p1, p2⟩ := prepare_nI (z := z) (ms := ms) (hn := hn) (ls := ls) (lb := lb) (al := al) (o := odr (chr s px) (rP3 (chr s px) + 1) (rN (chr s px))) q1 q2 (by rw [← q3]; exact hol) (by omega)
  rw [e1]
  show ∃ a1 a2 a3 a4 a5 a6 a7 bh' dp' lb' ms' hn' ls' al' m hh, (if r.1 = 0 then _ else _) = _ ∧ _
  rw [e2, hW, if_neg (show ¬ b01 true = 0 by decide), g1, g2, g3, g4, g5, l1]
  have p3 : rP3 (chr s px) ≤ 3 := by unfold rP3 rP2; (repeat' split) <;> omega
  show ∃ a1 a2 a3 a4 a5 a6 a7 bh' dp' lb' ms' hn' ls' al' m hh, (fX5_orderAt z (nI (rP3 (chr s px) + 1)) (nI (rN (chr s px))) (nI s) px).bind _ = _ ∧ _
  rw [orderAt_nI h (by omega) hN hk (by omega)]
  show ∃ a1 a2 a3 a4 a5 a6 a7 bh' dp' lb' ms' hn' ls' al' m hh, (fX4_prepare z (nI (odr (chr s px) (rP3 (chr s px) + 1) (rN (chr s px)))) (nI (rN (chr s px))) ms hn lb ls al).bind _ = _ ∧ _
  rw [show nI (rN (chr s px)) = nI (m + hh) from by rw [q3], p1]
  exact ⟨_, _, _, _, _, _, _, b, d, p.1, p.2.1, p.2.2.1, p.2.2.2.1, p.2.2.2.2, m, hh, rfl, l2, l3, q1, by omega, q3, p2⟩
theorem stonesM_no (h : PG s px pm) {z : Nat} (hz : 2000 < z) (hW : rW (chr s px) s = false) {f1 f2 f3 f4 f5 f6 f7 n0 sr so io it o0 am md : Int32} {ro par : Nat → Int32} :
    ∃ a1 a2 a3 a4 a5 a6 a7 a8, fX10_stones z (nI s) pm f1 f2 f3 f4 f5 ro f6 f7 n0 par sr so io it o0 am md = some (-103, a1, a2, a3, a4, a5, a6, a7, a8, so, n0, io, it, par, o0, am, md, sr, nI s) := by
  unfold fX10_stones
  obtain ⟨e, e1, e2, e3⟩ := faultOf_nI (z := z) (st := f1) (so := f2) (ot := f6) (tw := f7) (mn := f3) (pa := f5) (od := f4) (ro := ro) h (by omega)
  rw [e1]
  have j62 : ∀ (b1 b2 b3 b4 b5 b6 b7 : Int32) (r : Nat → Int32), fX10_stones_J62 z (nI s) pm b1 b2 b3 b4 b5 r b6 b7 n0 par sr so io it o0 am md = some (-103, b1, b2, b6, b7, b3, b5, b4, r, so, n0, io, it, par, o0, am, md, sr, nI s) := by
    intro b1 b2 b3 b4 b5 b6 b7 r
    unfold fX10_stones_J62 fX10_stones_J63
    rw [if_pos (show (0 : Int32) = 0 from rfl), ite_self]
  have j58 : s = 0 → ∀ (b1 b2 b3 b4 b5 b6 b7 : Int32) (r : Nat → Int32), fX10_stones_J58 z (nI s) pm b1 b2 b3 b4 b5 r b6 b7 n0 par sr so io it o0 am md = some (-103, b1, b2, b6, b7, b3, b5, b4, r, so, n0, io, it, par, o0, am, md, sr, nI s) := by
    intro h0 b1 b2 b3 b4 b5 b6 b7 r
    unfold fX10_stones_J58 fX10_stones_J63
    rw [if_pos (show nI s = 0 by rw [h0]; rfl)]
  obtain ⟨k, b1, b2, b6, b7, b3, b5, b4, r⟩ := e
  have e3 := e3.resolve_left (fun q => by rw [hW] at q; exact absurd q.1 (by decide))
  have e3 := e3.2
  dsimp only at e3
  show ∃ a1 a2 a3 a4 a5 a6 a7 a8, (if k = nI s then _ else _) = _
  refine ⟨b1, b2, b6, b7, b3, b5, b4, r, ?_⟩
  dsimp only
  rw [j62]
  split
  · rename_i c1
    split
    · rfl
    · rename_i c2
      split
      · rename_i c3
        split
        · rename_i c4
          split
          · rename_i c5
            rcases e3 with q | q | q | q | q
            · exact j58 q _ _ _ _ _ _ _ _
            · exact absurd c1 q
            · exact absurd q c2
            · rcases q.2 with w | w
              · exact absurd c4 w
              · exact absurd c5 w
            · exact absurd c3 q.1
          · rfl
        · rfl
      · rename_i c3
        split
        · rename_i c4
          rcases e3 with q | q | q | q | q
          · exact j58 q _ _ _ _ _ _ _ _
          · exact absurd c1 q
          · exact absurd q c2
          · exact absurd q.1 c3
          · exact absurd c4 q.2
        · rfl
  · rfl
theorem stonesM_yes (h : PG s px pm) {z : Nat} (hz : 2000 < z) (hW : rW (chr s px) s = true) {f1 f2 f3 f4 f5 f6 f7 n0 sr so io it o0 am md : Int32} {ro par : Nat → Int32} :
    ∃ a1 a2 a3 a4 a5 a6 a7 a8 par', fX10_stones z (nI s) pm f1 f2 f3 f4 f5 ro f6 f7 n0 par sr so io it o0 am md = some (nI (rN (chr s px)), a1, a2, a3, a4, a5, a6, a7, a8, nI (chr s px 0), nI (rN (chr s px)), b01 (rOb (chr s px)), b01 (rTb (chr s px)), par', nI (odr (chr s px) (rP3 (chr s px) + 1) (rN (chr s px))), -1, 0, sr + 1, 0) ∧
      par' 0 = -1 ∧ (chr s px 0 = 116 → ∀ t, 1 ≤ t → t < rN (chr s px) → par' t = nI (chr s px (rP5 (chr s px) + t) - 48)) := by
  have hN := rN_le (chr s px)
  have hN2 := (rW_facts hW).2.2.1
  have hc0 := chr_le h 0
  have hpl := rW_pl hW
  unfold fX10_stones
  obtain ⟨e, e1, e2, e3⟩ := faultOf_nI (z := z) (st := f1) (so := f2) (ot := f6) (tw := f7) (mn := f3) (pa := f5) (od := f4) (ro := ro) h (by omega)
  rw [e1]
  have e3 := e3.resolve_right (fun q => by rw [hW] at q; exact absurd q.1 (by decide))
  obtain ⟨-, g1, g2, g3, g4, g5, g6, g7⟩ := e3
  obtain ⟨k, b1, b2, b6, b7, b3, b5, b4, r⟩ := e
  dsimp only at e2 g1 g2 g3 g4 g5 g6 g7
  rw [hpl.1] at e2
  subst e2 g2 g3 g4 g5 g6
  have j58 : ∃ a1 a2 a3 a4 a5 a6 a7 a8 par', fX10_stones_J58 z (nI s) pm b1 (nI (chr s px 0)) (nI (rN (chr s px))) (nI (odr (chr s px) (rP3 (chr s px) + 1) (rN (chr s px)))) b5 r (b01 (rOb (chr s px))) (b01 (rTb (chr s px))) n0 par sr so io it o0 am md = some (nI (rN (chr s px)), a1, a2, a3, a4, a5, a6, a7, a8, nI (chr s px 0), nI (rN (chr s px)), b01 (rOb (chr s px)), b01 (rTb (chr s px)), par', nI (odr (chr s px) (rP3 (chr s px) + 1) (rN (chr s px))), -1, 0, sr + 1, 0) ∧
      par' 0 = -1 ∧ (chr s px 0 = 116 → ∀ t, 1 ≤ t → t < rN (chr s px) → par' t = nI (chr s px (rP5 (chr s px) + t) - 48)) := by
    have fin : ∀ e : Nat → Int32, (∀ t, 1 ≤ t → t < rN (chr s px) → e t = r t) → (chr s px 0 = 116 → ∀ t, 1 ≤ t → t < rN (chr s px) → e t = nI (chr s px (rP5 (chr s px) + t) - 48)) := by
      intro e he ht t h1 h2
      rw [he t h1 h2, (g7 ht).2 t h1 h2, show rP5 (chr s px) + 1 + (t - 1) = rP5 (chr s px) + t by omega]
    unfold fX10_stones_J58 fX10_stones_J63
    rw [if_neg (nI_ne0 (by omega) (by have := h.1; omega)), if_neg (show ¬ (1 : Int32) = 0 by decide)]
    have j108 : ∀ t1 : Int32, zgd t1 (some ()) = some () → ∃ a1 a2 a3 a4 a5 a6 a7 a8 par', fX10_stones_J108 z t1 (nI s) pm b1 (nI (chr s px 0)) (nI (rN (chr s px))) (nI (odr (chr s px) (rP3 (chr s px) + 1) (rN (chr s px)))) b5 r (b01 (rOb (chr s px))) (b01 (rTb (chr s px))) (nI (rN (chr s px))) par sr (nI (chr s px 0)) io it o0 am md = some (nI (rN (chr s px)), a1, a2, a3, a4, a5, a6, a7, a8, nI (chr s px 0), nI (rN (chr s px)), t1, b01 (rTb (chr s px)), par', nI (odr (chr s px) (rP3 (chr s px) + 1) (rN (chr s px))), -1, 0, sr + 1, 0) ∧
      par' 0 = -1 ∧ (chr s px 0 = 116 → ∀ t, 1 ≤ t → t < rN (chr s px) → par' t = nI (chr s px (rP5 (chr s px) + t) - 48)) := by
      intro t1 ht1
      have hzg : ∀ {β : Type} {k : Option β}, zgd t1 k = k := by
        intro β k
        unfold zgd at ht1 ⊢
        by_cases c : t1 = 0 ∨ t1 = 1
        · rw [if_pos c]
        · rw [if_neg c] at ht1; exact absurd ht1 (by simp)
      unfold fX10_stones_J108
      rw [hzg]
      cases hT : rTb (chr s px) with
      | false =>
        rw [if_neg (show ¬ b01 false = 1 by decide)]
        obtain ⟨e, w1, w2, w3⟩ := par_loop (z := z) (N := rN (chr s px)) (g0 := par) (ro := r) (a1 := nI s) (pg := pm) (a2 := b1) (a3 := nI (chr s px 0)) (a4 := nI (rN (chr s px))) (a5 := nI (odr (chr s px) (rP3 (chr s px) + 1) (rN (chr s px)))) (a6 := b5) (a7 := b01 (rOb (chr s px))) (a8 := b01 false) (a9 := sr) (a10 := nI (chr s px 0)) (a11 := t1) (a12 := 0) (a13 := o0) (a14 := am) (a15 := md) hN (by omega)
        rw [w1]
        exact ⟨_, _, _, _, _, _, _, _, e, rfl, w2, fin e w3⟩
      | true =>
        rw [if_pos (show b01 true = 1 from rfl)]
        obtain ⟨e, w1, w2, w3⟩ := par_loop (z := z) (N := rN (chr s px)) (g0 := par) (ro := r) (a1 := nI s) (pg := pm) (a2 := b1) (a3 := nI (chr s px 0)) (a4 := nI (rN (chr s px))) (a5 := nI (odr (chr s px) (rP3 (chr s px) + 1) (rN (chr s px)))) (a6 := b5) (a7 := b01 (rOb (chr s px))) (a8 := b01 true) (a9 := sr) (a10 := nI (chr s px 0)) (a11 := t1) (a12 := 1) (a13 := o0) (a14 := am) (a15 := md) hN (by omega)
        rw [w1]
        exact ⟨_, _, _, _, _, _, _, _, e, rfl, w2, fin e w3⟩
    cases hO : rOb (chr s px) with
    | false =>
      rw [hO] at j108
      rw [if_neg (show ¬ b01 false = 1 by decide)]
      exact j108 0 rfl
    | true =>
      rw [hO] at j108
      rw [if_pos (show b01 true = 1 from rfl)]
      exact j108 1 rfl
  show ∃ a1 a2 a3 a4 a5 a6 a7 a8 par', (if nI s = nI s then _ else _) = _ ∧ _
  rw [if_pos rfl]
  dsimp only
  rw [if_neg (show ¬ nI (rN (chr s px)) ≤ 1 from nI_ge (a := 1) (b := rN (chr s px)) (by omega) (by omega))]
  by_cases ht : chr s px 0 = 116
  · rw [if_pos ht] at g1
    subst g1
    rw [if_pos (show nI (chr s px 0) = 116 by rw [ht]; rfl), if_pos rfl, if_pos (g7 ht).1]
    exact j58
  · rw [if_neg ht] at g1
    subst g1
    rw [if_neg (show ¬ nI (chr s px 0) = 116 from nlit (k := 116) (by omega) (by decide) ht), if_pos rfl]
    exact j58
end SP
