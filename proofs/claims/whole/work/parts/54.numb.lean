/-! ===== the tables ===== -/
/-- the mixture of a few STONES -/
def HC (h : Nat) : Nat := 25 * ct 1 h 9 + 5 * ct 2 h 9 + ct 3 h 9
def sz (i c : Nat) : Nat := fb_ct (fun h => HC h == c) i
theorem sz_succ (i c : Nat) : sz (i + 1) c = sz i c + (if HC i = c then 1 else 0) := by
  unfold sz
  rw [fb_ct_succ]
  by_cases e : HC i = c <;> simp [e]
theorem ct4 {h k : Nat} (hh : h < 256) (hk : k ≠ 0) : ct k h 9 ≤ 4 := by
  rw [ct_9 (n := 4) hh (by decide) hk]
  exact ct_le k h 4
theorem ct4s {h : Nat} (hh : h < 256) : ct 1 h 9 + ct 2 h 9 + ct 3 h 9 ≤ 4 := by
  have e1 := ct_9 (k := 1) (n := 4) hh (by decide) (by decide)
  have e2 := ct_9 (k := 2) (n := 4) hh (by decide) (by decide)
  have e3 := ct_9 (k := 3) (n := 4) hh (by decide) (by decide)
  have := ct_sum h 4
  omega
theorem mix_high {z h : Nat} (hh : h < 256) (hz : 9 < z) : fX4_mixtureOf z (nI (tl h)) 0 = some (nI (HC h)) := by
  have h1 := ct4 (k := 1) hh (by decide)
  have h2 := ct4 (k := 2) hh (by decide)
  have h3 := ct4 (k := 3) hh (by decide)
  have e := mix_nI (z := z) (w1 := ct 1 h 9) (w2 := ct 2 h 9) (w3 := ct 3 h 9) (t1 := 0) (t2 := 0) (t3 := 0) (by omega) (by omega) (by omega) (by decide) (by decide) (by decide) hz
  refine e.trans ?_
  congr 1
  unfold mx
  rw [if_pos ⟨⟨by omega, by omega⟩, ⟨by omega, by omega⟩, by omega, by omega⟩]
  unfold mI
  rw [if_neg (by omega)]
  rfl
theorem HC_lt {h : Nat} (hh : h < 256) : HC h < 125 := by
  have := ct4s hh
  unfold HC
  omega
theorem highs_nI {z N : Nat} {ms hn : Nat → Int32} (hN : N ≤ 256) (hms : ∀ c, c < 125 → ms c = 0) (hz : 300 < z) :
    ∃ r, fX4_numberHighs z (nI N) ms hn = some r ∧ (∀ h, h < N → r.1 h = nI (sz h (HC h))) ∧ ∀ c, c < 125 → r.2 c = nI (sz N c) := by
  unfold fX4_numberHighs
  have main : ∃ e, lp (fun sg => fX4_numberHighs_L2 z (nI N) sg.1 sg.2.2 sg.2.1) z (0, hn, ms) = some e ∧ ((∀ h, h < N → e.1 h = nI (sz h (HC h))) ∧ ∀ c, c < 125 → e.2 c = nI (sz N c)) := by
    refine lp_rel0 (fun (i : Nat) (s : Int32 × (Nat → Int32) × (Nat → Int32)) => s.1 = nI i ∧ (∀ h, h < i → s.2.1 h = nI (sz h (HC h))) ∧ ∀ c, c < 125 → s.2.2 c = nI (sz i c)) _ N ⟨rfl, fun h hh => by omega, fun c hc => hms c hc⟩ (fun i s hi hr => ?_) (fun s hr => ?_) (by omega)
    · obtain ⟨x, a, b⟩ := s
      obtain ⟨r1, r2, r3⟩ := hr
      dsimp only at r1 r2 r3
      subst r1
      have hc := HC_lt (h := i) (by omega)
      show ∃ s', fX4_numberHighs_L2 z (nI N) (nI i) b a = _ ∧ _
      unfold fX4_numberHighs_L2
      rw [if_neg (nI_ge hi (by omega)), if_neg (show ¬ (256 : Int32) ≤ nI i from nI_ge (a := i) (b := 256) (by omega) (by decide)), tally_nI (by omega) (by omega)]
      show ∃ s', (fX4_mixtureOf z (nI (tl i)) 0).bind _ = _ ∧ _
      rw [mix_high (by omega) (by omega)]
      show ∃ s', (if nI (HC i) = -1 then _ else _) = _ ∧ _
      rw [if_neg (nI_ne_m1 (by omega)), agd_in hc (by decide), agd_in (by omega) (by decide), agd_in hc (by decide), agd_in hc (by decide), cl_nI (by omega), cl_nI (by omega), r3 _ hc, nI_1, nI_1]
      refine ⟨_, rfl, rfl, fun h hh => ?_, fun c hc' => ?_⟩
      · show upd a i (nI (sz i (HC i))) h = _
        by_cases e : h = i
        · subst e; rw [pk_us]
        · rw [pk_un e]; exact r2 h (by omega)
      · show upd b (HC i) (nI (sz i (HC i) + 1)) c = _
        rw [sz_succ]
        by_cases e : c = HC i
        · subst e; rw [pk_us, if_pos rfl]
        · rw [pk_un e, if_neg (fun h => e h.symm)]; exact r3 c hc'
    · obtain ⟨x, a, b⟩ := s
      obtain ⟨r1, r2, r3⟩ := hr
      dsimp only at r1 r2 r3
      subst r1
      show ∃ e, fX4_numberHighs_L2 z (nI N) (nI N) b a = _ ∧ _
      unfold fX4_numberHighs_L2
      rw [if_pos (nI_le (Nat.le_refl _) (by omega))]
      exact ⟨_, rfl, r2, r3⟩
  obtain ⟨e, m1, m2, m3⟩ := main
  rw [m1]
  exact ⟨_, rfl, m2, m3⟩
/-- how many ORDERS a low part has (N: how many high parts there are) -/
def gs (N o l : Nat) : Nat := if mx (ct 1 o 9) (ct 2 o 9) (ct 3 o 9) (ct 1 l 9) (ct 2 l 9) (ct 3 l 9) = 999 then 0 else sz N (mx (ct 1 o 9) (ct 2 o 9) (ct 3 o 9) (ct 1 l 9) (ct 2 l 9) (ct 3 l 9))
def bg (N o : Nat) : Nat → Nat := fb_sm (gs N o)
theorem mx_lt (w1 w2 w3 t1 t2 t3 : Nat) : mx w1 w2 w3 t1 t2 t3 = 999 ∨ mx w1 w2 w3 t1 t2 t3 < 125 := by
  unfold mx
  split
  · rename_i h
    right
    omega
  · exact Or.inl rfl
theorem lows_nI {z N L o : Nat} {ls ms : Nat → Int32} {al : Int32} (ho : o < 2 ^ 31) (hL : L ≤ 1024) (hms : ∀ c, c < 125 → ms c = nI (sz N c)) (hz : 1100 < z) :
    ∃ r, fX4_numberLows z (nI L) (nI o) ls ms al = some r ∧ (∀ l, l < L → r.1 l = nI (bg N o l)) ∧ r.2 = i_min (nI (bg N o L)) 7560 := by
  unfold fX4_numberLows
  rw [tally_nI ho (by omega)]
  show ∃ r, (lp _ z (0, 0, ls)).bind _ = some r ∧ _
  have c9 : ∀ k x, ct k x 9 < 100 := fun k x => Nat.lt_of_le_of_lt (ct_le k x 9) (by decide)
  have main : ∃ e, lp (fun sg => fX4_numberLows_L11 z (nI L) (nI (tl o)) sg.1 sg.2.1 sg.2.2 ms al) z (0, 0, ls) = some e ∧ ((∀ l, l < L → e.2 l = nI (bg N o l)) ∧ e.1 = nI (bg N o L)) := by
    refine lp_rel0 (fun (i : Nat) (s : Int32 × Int32 × (Nat → Int32)) => s.2.1 = nI i ∧ s.1 = nI (bg N o i) ∧ ∀ l, l < i → s.2.2 l = nI (bg N o l)) _ L ⟨rfl, rfl, fun h hh => by omega⟩ (fun i s hi hr => ?_) (fun s hr => ?_) (by omega)
    · obtain ⟨x, y, a⟩ := s
      obtain ⟨r1, r2, r3⟩ := hr
      dsimp only at r1 r2 r3
      subst r1
      subst r2
      show ∃ s', fX4_numberLows_L11 z (nI L) (nI (tl o)) (nI (bg N o i)) (nI i) a ms al = _ ∧ _
      unfold fX4_numberLows_L11
      rw [if_neg (nI_ge hi (by omega)), if_neg (show ¬ (1024 : Int32) ≤ nI i from nI_ge (a := i) (b := 1024) (by omega) (by decide)), agd_in (by omega) (by decide), tally_nI (by omega) (by omega)]
      show ∃ s', (fX4_mixtureOf z (nI (tl o)) (nI (tl i))).bind _ = _ ∧ _
      have em := mix_nI (z := z) (c9 1 o) (c9 2 o) (c9 3 o) (c9 1 i) (c9 2 i) (c9 3 i) (by omega)
      rw [show nI (tl o) = nI (ct 1 o 9 + 256 * ct 2 o 9 + 65536 * ct 3 o 9) from rfl, show nI (tl i) = nI (ct 1 i 9 + 256 * ct 2 i 9 + 65536 * ct 3 i 9) from rfl, em]
      show ∃ s', (if mI (mx (ct 1 o 9) (ct 2 o 9) (ct 3 o 9) (ct 1 i 9) (ct 2 i 9) (ct 3 i 9)) = -1 then _ else _) = _ ∧ _
      have lows : ∀ l, l < i + 1 → upd a (nI i).toNatClampNeg (nI (bg N o i)) l = nI (bg N o l) := by
        intro l hl
        rw [cl_nI (by omega)]
        by_cases e : l = i
        · subst e; rw [pk_us]
        · rw [pk_un e]; exact r3 l (by omega)
      have ebg : bg N o (i + 1) = bg N o i + gs N o i := rfl
      rcases mx_lt (ct 1 o 9) (ct 2 o 9) (ct 3 o 9) (ct 1 i 9) (ct 2 i 9) (ct 3 i 9) with c | c
      · have eg : gs N o i = 0 := by unfold gs; rw [if_pos c]
        rw [c, if_pos (show mI 999 = -1 from rfl), nI_1]
        refine ⟨_, rfl, rfl, ?_, lows⟩
        show nI (bg N o i) = _
        rw [ebg, eg, Nat.add_zero]
      · have c9' : ¬ mx (ct 1 o 9) (ct 2 o 9) (ct 3 o 9) (ct 1 i 9) (ct 2 i 9) (ct 3 i 9) = 999 := by omega
        have eg : gs N o i = sz N (mx (ct 1 o 9) (ct 2 o 9) (ct 3 o 9) (ct 1 i 9) (ct 2 i 9) (ct 3 i 9)) := by unfold gs; rw [if_neg c9']
        have eI : mI (mx (ct 1 o 9) (ct 2 o 9) (ct 3 o 9) (ct 1 i 9) (ct 2 i 9) (ct 3 i 9)) = nI (mx (ct 1 o 9) (ct 2 o 9) (ct 3 o 9) (ct 1 i 9) (ct 2 i 9) (ct 3 i 9)) := by unfold mI; rw [if_neg c9']
        rw [eI, if_neg (nI_ne_m1 (by omega)), agd_in c (by decide), cl_nI (n := mx (ct 1 o 9) (ct 2 o 9) (ct 3 o 9) (ct 1 i 9) (ct 2 i 9) (ct 3 i 9)) (by omega), hms _ c, nI_add, nI_1]
        refine ⟨_, rfl, rfl, ?_, lows⟩
        show nI _ = _
        rw [ebg, eg]
    · obtain ⟨x, y, a⟩ := s
      obtain ⟨r1, r2, r3⟩ := hr
      dsimp only at r1 r2 r3
      subst r1
      subst r2
      show ∃ e, fX4_numberLows_L11 z (nI L) (nI (tl o)) (nI (bg N o L)) (nI L) a ms al = _ ∧ _
      unfold fX4_numberLows_L11
      rw [if_pos (nI_le (Nat.le_refl _) (by omega))]
      exact ⟨_, rfl, r3, rfl⟩
  obtain ⟨e, m1, m2, m3⟩ := main
  rw [m1]
  refine ⟨_, rfl, m2, ?_⟩
  show i_min e.1 7560 = _
  rw [m3]
