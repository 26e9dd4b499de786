/-! ===== THE PAGE's letters, 0 behind the last ===== -/
def chr (s : Nat) (px : Nat → Int32) (j : Nat) : Nat := if j < s then (px j).toNatClampNeg else 0
theorem PG.ch {s : Nat} {px pm : Nat → Int32} (h : PG s px pm) {j : Nat} (hj : j < s) : px j = nI (chr s px j) ∧ pm j = nI (chr s px j) ∧ 1 ≤ chr s px j ∧ chr s px j ≤ 126 := by
  obtain ⟨e, c, h1, h2, h3⟩ := h.2 j hj
  have e2 : chr s px j = c := by
    unfold chr
    rw [if_pos hj, h3, cl_nI (by omega)]
  rw [e2]
  exact ⟨h3, by rw [← e]; exact h3, h1, h2⟩
theorem chr_le {s : Nat} {px pm : Nat → Int32} (h : PG s px pm) (j : Nat) : chr s px j ≤ 126 := by
  rcases Nat.lt_or_ge j s with q | q
  · exact (h.ch q).2.2.2
  · unfold chr
    rw [if_neg (by omega)]
    omega
theorem chr_0 {s : Nat} {px : Nat → Int32} {j : Nat} (h : s ≤ j) : chr s px j = 0 := if_neg (by omega)
theorem chr_in {s : Nat} {px : Nat → Int32} {j : Nat} (h : ¬ chr s px j = 0) : j < s := by
  rcases Nat.lt_or_ge j s with q | q
  · exact q
  · exact absurd (chr_0 q) h
theorem letterAt_nI {s z j : Nat} {px pm : Nat → Int32} (h : PG s px pm) (hj : j < 1000) : fX5_letterAt z (nI j) (nI s) px = some (nI (chr s px j)) := by
  have h24 := h.1
  unfold fX5_letterAt
  rw [if_neg (nI_pos (by omega))]
  rcases Nat.lt_or_ge j s with q | q
  · rw [if_neg (nI_ge q (by omega)), agd_in (by omega) (by decide), cl_nI (by omega), (h.ch q).1]
  · rw [if_pos (nI_le q (by omega)), chr_0 q]; rfl
/-- the KIND of a letter (99: none) -/
def kl (c : Nat) : Nat := if c = 46 then 0 else if c = 103 then 1 else if c = 98 then 2 else if c = 121 then 3 else 99
theorem kl_le (c : Nat) : kl c ≤ 3 ∨ kl c = 99 := by unfold kl; (repeat' split) <;> omega
theorem nI_lit_eq {c k : Nat} (hc : c < 2 ^ 31) (hk : k < 2 ^ 31) : nI c = nI k ↔ c = k := nI_eq hc hk
theorem kindOfLetter_nI {c : Nat} (hc : c < 2 ^ 31) : fX9_kindOfLetter (nI c) = bI (kl c) := by
  unfold fX9_kindOfLetter kl
  have e : ∀ k : Nat, k < 2 ^ 31 → (nI c = nI k ↔ c = k) := fun k hk => nI_eq hc hk
  by_cases c1 : c = 46
  · subst c1; rfl
  · rw [if_neg (show ¬ nI c = 46 from fun h => c1 ((e 46 (by decide)).mp h)), if_neg c1]
    by_cases c2 : c = 98
    · subst c2; rfl
    · rw [if_neg (show ¬ nI c = 98 from fun h => c2 ((e 98 (by decide)).mp h))]
      by_cases c3 : c = 103
      · subst c3; rfl
      · rw [if_neg (show ¬ nI c = 103 from fun h => c3 ((e 103 (by decide)).mp h)), if_neg c3, if_neg c2]
        by_cases c4 : c = 121
        · subst c4; rfl
        · rw [if_neg (show ¬ nI c = 121 from fun h => c4 ((e 121 (by decide)).mp h)), if_neg c4]; rfl
theorem kindOf_nI {c : Nat} (hc : c < 2 ^ 31) : fX10_kindOf (nI c) = bI (kl c) := by
  unfold fX10_kindOf kl
  have e : ∀ k : Nat, k < 2 ^ 31 → (nI c = nI k ↔ c = k) := fun k hk => nI_eq hc hk
  by_cases c1 : c = 46
  · subst c1; rfl
  · rw [if_neg (show ¬ nI c = 46 from fun h => c1 ((e 46 (by decide)).mp h)), if_neg c1]
    by_cases c3 : c = 103
    · subst c3; rfl
    · rw [if_neg (show ¬ nI c = 103 from fun h => c3 ((e 103 (by decide)).mp h)), if_neg c3]
      by_cases c2 : c = 98
      · subst c2; rfl
      · rw [if_neg (show ¬ nI c = 98 from fun h => c2 ((e 98 (by decide)).mp h)), if_neg c2]
        by_cases c4 : c = 121
        · subst c4; rfl
        · rw [if_neg (show ¬ nI c = 121 from fun h => c4 ((e 121 (by decide)).mp h)), if_neg c4]; rfl
/-! ===== what a text is, read as STONES ===== -/
def okf (ch : Nat → Nat) : Bool := ch 0 == 114 || ch 0 == 119 || ch 0 == 116
def rOb (ch : Nat → Nat) : Bool := ch 1 == 111
def rP2 (ch : Nat → Nat) : Nat := if rOb ch then 2 else 1
def rTb (ch : Nat → Nat) : Bool := ch (rP2 ch) == 50
def rP3 (ch : Nat → Nat) : Nat := if rTb ch then rP2 ch + 1 else rP2 ch
def rCb (ch : Nat → Nat) : Bool := ch (rP3 ch) == 58
def rN (ch : Nat → Nat) : Nat := fa_first (fun i => kl (ch (rP3 ch + 1 + i)) == 99) 9
def rP5 (ch : Nat → Nat) : Nat := rP3 ch + 1 + rN ch
/-- a parent that isn't one -/
def bad (ch : Nat → Nat) (p i : Nat) : Bool := !(decide (48 ≤ ch (p + i)) && decide (ch (p + i) - 48 < i + 1))
def rQ (ch : Nat → Nat) : Nat := fa_first (bad ch (rP5 ch + 1)) (rN ch - 1)
/-- how far it fits -/
def rPl (ch : Nat → Nat) : Nat :=
  if okf ch = false then 0 else if rCb ch = false then rP3 ch else if rN ch < 2 then rP5 ch else if ch 0 ≠ 116 then rP5 ch else if ch (rP5 ch) ≠ 47 then rP5 ch else rP5 ch + 1 + rQ ch
/-- whether it is whole -/
def rW (ch : Nat → Nat) (s : Nat) : Bool :=
  okf ch && rCb ch && decide (2 ≤ rN ch) && (if ch 0 = 116 then ch (rP5 ch) == 47 && rQ ch == rN ch - 1 && rP5 ch + 1 + rQ ch == s else rP5 ch == s)
section RD
variable {s z : Nat} {px pm : Nat → Int32}
theorem takes_nI (h : PG s px pm) {j k : Nat} (hj : j < 1000) (hk : k < 2 ^ 31) : fX7_takes z (nI k) (nI j) (nI s) px = some (b01 (chr s px j == k), nI (if chr s px j = k then j + 1 else j)) := by
  unfold fX7_takes
  rw [letterAt_nI h hj]
  have hc := chr_le h j
  show (if nI (chr s px j) = nI k then _ else _) = _
  by_cases c : chr s px j = k
  · rw [if_pos (by rw [c]), if_pos c, nI_1, c]; simp [b01]
  · rw [if_neg (fun e => c ((nI_eq (by omega) hk).mp e)), if_neg c]
    rw [beq_eq_false_iff_ne.mpr c]
    rfl
theorem readStones_nI (h : PG s px pm) {p : Nat} (hp : p < 100) (hz : 30 < z) : fX7_readStones z (nI p) 0 (nI s) px 0 = some (nI p, nI (fa_first (fun i => kl (chr s px (p + i)) == 99) 9), nI (p + fa_first (fun i => kl (chr s px (p + i)) == 99) 9)) := by
  unfold fX7_readStones
  have hle := fa_first_le (fun i => kl (chr s px (p + i)) == 99) 9
  refine (lp_b (fun i => (nI i, nI (p + i))) (fa_first (fun i => kl (chr s px (p + i)) == 99) 9) (nI (fa_first (fun i => kl (chr s px (p + i)) == 99) 9), nI (p + fa_first (fun i => kl (chr s px (p + i)) == 99) 9)) rfl (fun i hi => ?_) ?_ (by omega)).trans rfl
  · show fX7_readStones_L8 z (nI (p + i)) (nI i) (nI s) px (nI p) = _
    unfold fX7_readStones_L8
    have hno := fa_first_no (fun i => kl (chr s px (p + i)) == 99) 9 i hi
    have hc := chr_le h (p + i)
    have hne : kl (chr s px (p + i)) ≠ 99 := beq_eq_false_iff_ne.mp hno
    rw [if_neg (nI9 (by omega)), letterAt_nI h (by omega)]
    show (if fX9_kindOfLetter (nI (chr s px (p + i))) = -1 then _ else _) = _
    rw [kindOfLetter_nI (by omega), if_neg (fun e => hne ((bI_m1 (by rcases kl_le (chr s px (p + i)) with a | a <;> omega)).mp e)), nI_1, nI_1]
    rfl
  · show fX7_readStones_L8 z (nI (p + _)) (nI _) (nI s) px (nI p) = _
    unfold fX7_readStones_L8
    by_cases c9 : fa_first (fun i => kl (chr s px (p + i)) == 99) 9 = 9
    · rw [c9, if_pos (by decide)]
    · have hlt : fa_first (fun i => kl (chr s px (p + i)) == 99) 9 < 9 := by omega
      have hyes := fa_first_yes (fun i => kl (chr s px (p + i)) == 99) 9 hlt
      have hc := chr_le h (p + fa_first (fun i => kl (chr s px (p + i)) == 99) 9)
      rw [if_neg (nI9 hlt), letterAt_nI h (by omega)]
      show (if fX9_kindOfLetter (nI _) = -1 then _ else _) = _
      rw [kindOfLetter_nI (by omega), if_pos ((bI_m1 (by rcases kl_le (chr s px (p + fa_first (fun i => kl (chr s px (p + i)) == 99) 9)) with a | a <;> omega)).mpr (by simpa using hyes))]
theorem readParents_nI (h : PG s px pm) {p N : Nat} (hp : p < 100) (hN : 2 ≤ N) (hN9 : N ≤ 9) (hz : 30 < z) :
    fX7_readParents z (nI p) (nI s) px (nI N) = some (if chr s px p = 47 then (b01 (fa_first (bad (chr s px) (p + 1)) (N - 1) == N - 1), nI (p + 1 + fa_first (bad (chr s px) (p + 1)) (N - 1))) else (0, nI p)) := by
  unfold fX7_readParents
  rw [show (47 : Int32) = nI 47 from rfl, takes_nI h (by omega) (by decide)]
  by_cases c : chr s px p = 47
  · have e1 : b01 (chr s px p == 47) = 1 := by rw [c]; rfl
    rw [e1, if_pos c, if_pos c]
    simp only [Option.bind_some]
    rw [if_neg (show ¬ (1 : Int32) = 0 by decide)]
    have hle := fa_first_le (bad (chr s px) (p + 1)) (N - 1)
    generalize hF : fa_first (bad (chr s px) (p + 1)) (N - 1) = F at hle
    have step : ∀ i, i < F → fX7_readParents_L14 z (nI (1 + i)) (nI (p + 1 + i)) (nI s) px (nI N) = some (.inl (nI (1 + (i + 1)), nI (p + 1 + (i + 1)))) := by
      intro i hi
      have hno := fa_first_no (bad (chr s px) (p + 1)) (N - 1) i (by omega)
      have hc := chr_le h (p + 1 + i)
      unfold bad at hno
      simp only [Bool.not_eq_false', Bool.and_eq_true, decide_eq_true_eq] at hno
      unfold fX7_readParents_L14
      rw [if_neg (nI_ge (by omega) (by omega)), letterAt_nI h (by omega)]
      show (if nI (chr s px (p + 1 + i)) - 48 < 0 then _ else _) = _
      rw [show nI (chr s px (p + 1 + i)) - 48 = nI (chr s px (p + 1 + i) - 48) from pk_sub (b := 48) hno.1, if_neg (nI_pos (by omega)), if_pos (nI_lt (by omega) (by omega)), nI_1, nI_1]
      rw [show 1 + i + 1 = 1 + (i + 1) by omega, show p + 1 + i + 1 = p + 1 + (i + 1) by omega]
    by_cases cF : F = N - 1
    · have hx : fX7_readParents_L14 z (nI (1 + F)) (nI (p + 1 + F)) (nI s) px (nI N) = some (.inr (.inl (nI (p + 1 + F)))) := by
        unfold fX7_readParents_L14
        rw [if_pos (nI_le (by omega) (by omega))]
      refine (lp_b (fun i => (nI (1 + i), nI (p + 1 + i))) F (.inl (nI (p + 1 + F))) rfl step hx (by omega)).trans ?_
      show some ((1 : Int32), nI (p + 1 + F)) = _
      rw [cF]
      simp [b01]
    · have hlt : F < N - 1 := by omega
      have hyes := fa_first_yes (bad (chr s px) (p + 1)) (N - 1) (by omega)
      rw [hF] at hyes
      have hc := chr_le h (p + 1 + F)
      have hx : fX7_readParents_L14 z (nI (1 + F)) (nI (p + 1 + F)) (nI s) px (nI N) = some (.inr (.inr (0, nI (p + 1 + F)))) := by
        unfold fX7_readParents_L14
        rw [if_neg (nI_ge (by omega) (by omega)), letterAt_nI h (by omega)]
        show (if nI (chr s px (p + 1 + F)) - 48 < 0 then _ else _) = _
        by_cases c48 : 48 ≤ chr s px (p + 1 + F)
        · rw [show nI (chr s px (p + 1 + F)) - 48 = nI (chr s px (p + 1 + F) - 48) from pk_sub (b := 48) c48, if_neg (nI_pos (by omega))]
          unfold bad at hyes
          have hyes : ¬ chr s px (p + 1 + F) - 48 < F + 1 := by simpa [c48] using hyes
          rw [if_neg (nI_nlt (by omega) (by omega))]
        · rw [if_pos (show nI (chr s px (p + 1 + F)) - 48 < 0 from pk_sneg (a := chr s px (p + 1 + F)) (b := 48) (by decide) (by omega))]
      refine (lp_b (fun i => (nI (1 + i), nI (p + 1 + i))) F (.inr (0, nI (p + 1 + F))) rfl step hx (by omega)).trans ?_
      show some ((0 : Int32), nI (p + 1 + F)) = _
      rw [beq_eq_false_iff_ne.mpr cF]
      rfl
  · rw [beq_eq_false_iff_ne.mpr c, if_neg c, if_neg c]
    rfl
theorem rd_b {z : Nat} {px : Nat → Int32} {a c d e f g h i : Int32} (b : Bool) : (if b01 b = 0 then fX7_read_J102 z 0 a px c d e f g h i else fX7_read_J102 z 1 a px c d e f g h i) = fX7_read_J102 z (b01 b) a px c d e f g h i := by
  cases b with
  | false => rw [if_pos (show b01 false = 0 from rfl)]; rfl
  | true => rw [if_neg (show ¬ b01 true = 0 by decide)]; rfl
theorem rN_le (ch : Nat → Nat) : rN ch ≤ 9 := fa_first_le _ 9
theorem read_tail {s z N P5 Q P3 c0 c5 : Nat} {px : Nat → Int32} {ob tb : Bool} (hrs : fX7_readStones z (nI (P3 + 1)) 0 (nI s) px 0 = some (nI (P3 + 1), nI N, nI P5)) (hrp : 2 ≤ N → fX7_readParents z (nI P5) (nI s) px (nI N) = some (if c5 = 47 then (b01 (Q == N - 1), nI (P5 + 1 + Q)) else (0, nI P5))) (hN : N ≤ 9) (hs : s ≤ 24) (h5 : P5 ≤ 13) (hQ : Q ≤ N - 1) (h0 : c0 ≤ 126) :
    ∃ r, (fX7_readStones z (nI (P3 + 1)) 0 (nI s) px 0).bind (fun q5 => (if 2 ≤ q5.2.1 then (if nI c0 = 116 then (fX7_readParents z q5.2.2 (nI s) px q5.2.1).bind (fun q6 => (if q6.1 = 0 then fX7_read_J102 z 0 (nI s) px (nI c0) q6.2 q5.2.1 0 q5.1 (b01 ob) (b01 tb) else fX7_read_J97 z (nI s) px (nI c0) q6.2 q5.2.1 0 q5.1 (b01 ob) (b01 tb))) else fX7_read_J97 z (nI s) px (nI c0) q5.2.2 q5.2.1 0 q5.1 (b01 ob) (b01 tb)) else some (0, q5.1, q5.2.1, q5.2.2, nI c0, b01 ob, b01 tb))) = some r ∧
      r.1 = b01 (decide (2 ≤ N) && (if c0 = 116 then c5 == 47 && Q == N - 1 && P5 + 1 + Q == s else P5 == s)) ∧ r.2.2.2.1 = nI (if N < 2 then P5 else if c0 ≠ 116 then P5 else if c5 ≠ 47 then P5 else P5 + 1 + Q) ∧
      r.2.1 = nI (P3 + 1) ∧ r.2.2.1 = nI N ∧ r.2.2.2.2.1 = nI c0 ∧ r.2.2.2.2.2.1 = b01 ob ∧ r.2.2.2.2.2.2 = b01 tb := by
  have j102 : ∀ (b : Bool) (pl : Nat), pl < 1000 → fX7_read_J102 z (b01 b) (nI s) px (nI c0) (nI pl) (nI N) 0 (nI (P3 + 1)) (b01 ob) (b01 tb) = some (b01 (b && pl == s), nI (P3 + 1), nI N, nI pl, nI c0, b01 ob, b01 tb) := by
    intro b pl hpl
    unfold fX7_read_J102
    cases b with
    | false => rw [if_pos (show b01 false = 0 from rfl)]; rfl
    | true =>
      rw [if_neg (show ¬ b01 true = 0 by decide)]
      by_cases e : pl = s
      · rw [if_pos (by rw [e]), e]; simp [b01]
      · rw [if_neg (fun q => e ((nI_eq (by omega) (by omega)).mp q)), beq_eq_false_iff_ne.mpr e]; rfl
  rw [hrs]
  simp only [Option.bind_some]
  unfold fX7_read_J97
  by_cases c2 : 2 ≤ N
  · have d2 : decide (2 ≤ N) = true := by simp [c2]
    rw [if_pos (show (2 : Int32) ≤ nI N from nI_le (a := 2) c2 (by omega)), if_neg (show ¬ N < 2 by omega), d2]
    by_cases ct : c0 = 116
    · rw [if_pos (show nI c0 = 116 by rw [ct]; rfl), hrp c2, if_pos ct, if_neg (show ¬ c0 ≠ 116 by simp [ct])]
      by_cases c47 : c5 = 47
      · have e47 : (c5 == 47) = true := by simp [c47]
        rw [if_pos c47, if_neg (show ¬ c5 ≠ 47 by simp [c47]), e47]
        simp only [Option.bind_some]
        rw [rd_b, j102 _ _ (by omega)]
        exact ⟨_, rfl, rfl, rfl, rfl, rfl, rfl, rfl, rfl⟩
      · have e47 : (c5 == 47) = false := by simp [c47]
        rw [if_neg c47, if_pos c47, e47]
        simp only [Option.bind_some, if_true]
        rw [show (0 : Int32) = b01 false from rfl]
        have := j102 false P5 (by omega)
        rw [show (0 : Int32) = b01 false from rfl] at this
        rw [this]
        exact ⟨_, rfl, rfl, rfl, rfl, rfl, rfl, rfl, rfl⟩
    · rw [if_neg (show ¬ nI c0 = 116 from fun e => ct ((nI_eq (b := 116) (by omega) (by decide)).mp e)), if_neg ct, if_pos ct]
      rw [show (1 : Int32) = b01 true from rfl, j102 true _ (by omega)]
      exact ⟨_, rfl, rfl, rfl, rfl, rfl, rfl, rfl, rfl⟩
  · have d2 : decide (2 ≤ N) = false := by simp; omega
    rw [if_neg (show ¬ (2 : Int32) ≤ nI N from nI_ge (b := 2) (by omega) (by decide)), if_pos (show N < 2 by omega), d2]
    exact ⟨_, rfl, rfl, rfl, rfl, rfl, rfl, rfl, rfl⟩
set_option maxHeartbeats 400000 in
theorem read_nI (h : PG s px pm) (hz : 30 < z) {f0 p0 s0 w0 i0 o0 t0 : Int32} :
    ∃ r, fX7_read z (nI s) px f0 p0 s0 w0 i0 o0 t0 = some r ∧ r.1 = b01 (rW (chr s px) s) ∧ r.2.2.2.1 = nI (rPl (chr s px)) ∧
      (rW (chr s px) s = true → r.2.1 = nI (rP3 (chr s px) + 1) ∧ r.2.2.1 = nI (rN (chr s px)) ∧ r.2.2.2.2.1 = nI (chr s px 0) ∧ r.2.2.2.2.2.1 = b01 (rOb (chr s px)) ∧ r.2.2.2.2.2.2 = b01 (rTb (chr s px))) := by
  have hc := chr_le h
  have h24 := h.1
  unfold fX7_read fX7_readForm
  have e0 : fX5_letterAt z 0 (nI s) px = some (nI (chr s px 0)) := letterAt_nI (j := 0) h (by decide)
  rw [e0]
  have hc0 := hc 0
  have form : (if nI (chr s px 0) = 114 then some (nI (chr s px 0), (1 : Int32)) else (if nI (chr s px 0) = 119 then some (nI (chr s px 0), 1) else (if nI (chr s px 0) = 116 then some (nI (chr s px 0), 1) else some (nI (chr s px 0), 0)))) = some (nI (chr s px 0), b01 (okf (chr s px))) := by
    unfold okf
    by_cases c1 : chr s px 0 = 114
    · rw [c1]; rfl
    · rw [if_neg (show ¬ nI (chr s px 0) = 114 from fun e => c1 ((nI_eq (b := 114) (by omega) (by decide)).mp e)), beq_eq_false_iff_ne.mpr c1]
      by_cases c2 : chr s px 0 = 119
      · rw [c2]; rfl
      · rw [if_neg (show ¬ nI (chr s px 0) = 119 from fun e => c2 ((nI_eq (b := 119) (by omega) (by decide)).mp e)), beq_eq_false_iff_ne.mpr c2]
        by_cases c3 : chr s px 0 = 116
        · rw [c3]; rfl
        · rw [if_neg (show ¬ nI (chr s px 0) = 116 from fun e => c3 ((nI_eq (b := 116) (by omega) (by decide)).mp e)), beq_eq_false_iff_ne.mpr c3]
          rfl
  show ∃ r, ((if nI (chr s px 0) = 114 then some (nI (chr s px 0), (1 : Int32)) else (if nI (chr s px 0) = 119 then some (nI (chr s px 0), 1) else (if nI (chr s px 0) = 116 then some (nI (chr s px 0), 1) else some (nI (chr s px 0), 0)))).bind _) = some r ∧ _
  rw [form]
  show ∃ r, (if b01 (okf (chr s px)) = 0 then _ else _) = some r ∧ _
  cases ho : okf (chr s px) with
  | false =>
    rw [if_pos (show b01 false = 0 from rfl)]
    have eW : rW (chr s px) s = false := by unfold rW; rw [ho]; rfl
    have eP : rPl (chr s px) = 0 := by unfold rPl; rw [if_pos ho]
    rw [eW, eP]
    refine ⟨_, rfl, ?_, ?_, fun q => by cases q⟩ <;> rfl
  | true =>
    rw [if_neg (show ¬ b01 true = 0 by decide)]
    have t1 : fX7_takes z 111 (b01 true) (nI s) px = some (b01 (rOb (chr s px)), nI (rP2 (chr s px))) := by
      have := takes_nI (z := z) (j := 1) (k := 111) h (by decide) (by decide)
      refine this.trans ?_
      unfold rP2 rOb
      by_cases c : chr s px 1 = 111
      · rw [c]; rfl
      · rw [if_neg c, beq_eq_false_iff_ne.mpr c]; rfl
    have hp2 : rP2 (chr s px) ≤ 2 := by unfold rP2; split <;> omega
    have t2 : fX7_takes z 50 (nI (rP2 (chr s px))) (nI s) px = some (b01 (rTb (chr s px)), nI (rP3 (chr s px))) := by
      have := takes_nI (z := z) (j := rP2 (chr s px)) (k := 50) h (by omega) (by decide)
      refine this.trans ?_
      unfold rP3 rTb
      by_cases c : chr s px (rP2 (chr s px)) = 50
      · rw [c]; rfl
      · rw [if_neg c, beq_eq_false_iff_ne.mpr c]; rfl
    have hp3 : rP3 (chr s px) ≤ 3 := by unfold rP3; split <;> omega
    have t3 : fX7_takes z 58 (nI (rP3 (chr s px))) (nI s) px = some (b01 (rCb (chr s px)), nI (if chr s px (rP3 (chr s px)) = 58 then rP3 (chr s px) + 1 else rP3 (chr s px))) := takes_nI (z := z) (j := rP3 (chr s px)) (k := 58) h (by omega) (by decide)
    rw [t1]
    show ∃ r, zgd (b01 (rOb (chr s px))) _ = some r ∧ _
    rw [b01_z, t2]
    show ∃ r, zgd (b01 (rTb (chr s px))) _ = some r ∧ _
    rw [b01_z, t3]
    show ∃ r, (if b01 (rCb (chr s px)) = 0 then _ else _) = some r ∧ _
    cases hcb : rCb (chr s px) with
    | false =>
      rw [if_pos (show b01 false = 0 from rfl)]
      have hne : ¬ chr s px (rP3 (chr s px)) = 58 := beq_eq_false_iff_ne.mp hcb
      have eW : rW (chr s px) s = false := by unfold rW; rw [hcb]; simp
      have eP : rPl (chr s px) = rP3 (chr s px) := by unfold rPl; rw [if_neg (by simp [ho]), if_pos hcb]
      rw [eW, eP, if_neg hne]
      refine ⟨_, rfl, ?_, ?_, fun q => by cases q⟩ <;> rfl
    | true =>
      rw [if_neg (show ¬ b01 true = 0 by decide)]
      have hyes : chr s px (rP3 (chr s px)) = 58 := by simpa [rCb] using hcb
      rw [if_pos hyes]
      have hn9 := rN_le (chr s px)
      have hp5 : rP5 (chr s px) ≤ 13 := by unfold rP5; omega
      have hrs : fX7_readStones z (nI (rP3 (chr s px) + 1)) 0 (nI s) px 0 = some (nI (rP3 (chr s px) + 1), nI (rN (chr s px)), nI (rP5 (chr s px))) := readStones_nI h (by omega) hz
      have hrp : 2 ≤ rN (chr s px) → fX7_readParents z (nI (rP5 (chr s px))) (nI s) px (nI (rN (chr s px))) = some (if chr s px (rP5 (chr s px)) = 47 then (b01 (rQ (chr s px) == rN (chr s px) - 1), nI (rP5 (chr s px) + 1 + rQ (chr s px))) else (0, nI (rP5 (chr s px)))) := fun c2 => readParents_nI h (by omega) c2 hn9 hz
      obtain ⟨r, a1, a2, a3, a4⟩ := read_tail (ob := rOb (chr s px)) (tb := rTb (chr s px)) hrs hrp hn9 h24 hp5 (fa_first_le _ _) hc0
      refine ⟨r, a1, ?_, ?_, fun _ => a4⟩
      · rw [a2]
        unfold rW
        rw [ho, hcb]
        simp only [Bool.true_and]
      · rw [a3]
        unfold rPl
        rw [if_neg (show ¬ okf (chr s px) = false by simp [ho]), if_neg (show ¬ rCb (chr s px) = false by simp [hcb])]
end RD
