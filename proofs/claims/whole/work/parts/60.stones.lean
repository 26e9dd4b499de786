/-! ===== STONES ===== -/
/-- BACK, out of a text -/
def bkr (ch : Nat → Nat) (i : Nat) : Nat := if i = 99 then 99 else if ch 0 = 116 then (if i = 0 then 99 else ch (rP5 ch + i) - 48) else if i = 0 then (if ch 0 = 114 then rN ch - 1 else 99) else i - 1
def dpf (bk : Nat → Nat) : Nat → Nat → Nat
  | 0, _ => 0
  | k + 1, i => if i = 0 then 0 else dpf bk k (bk i) + 1
/-- how deep a STONE lies -/
def dpt (bk : Nat → Nat) (i : Nat) : Nat := dpf bk i i
theorem dpf_le {bk : Nat → Nat} (hb : ∀ i, 0 < i → i < 9 → bk i < i) : ∀ k i, i ≤ k → i < 9 → dpf bk k i = dpf bk i i
  | 0, i, hi, _ => by rw [show i = 0 by omega]
  | k + 1, i, hi, h9 => by
    cases i with
    | zero => rfl
    | succ j =>
      have hlt := hb (j + 1) (by omega) h9
      show (if j + 1 = 0 then 0 else dpf bk k (bk (j + 1)) + 1) = (if j + 1 = 0 then 0 else dpf bk j (bk (j + 1)) + 1)
      rw [if_neg (by omega), if_neg (by omega), dpf_le hb k (bk (j + 1)) (by omega) (by omega), dpf_le hb j (bk (j + 1)) (by omega) (by omega)]
theorem dpt_succ {bk : Nat → Nat} (hb : ∀ i, 0 < i → i < 9 → bk i < i) {i : Nat} (h0 : 0 < i) (h9 : i < 9) : dpt bk i = dpt bk (bk i) + 1 := by
  unfold dpt
  have hlt := hb i h0 h9
  cases i with
  | zero => omega
  | succ j =>
    show (if j + 1 = 0 then 0 else dpf bk j (bk (j + 1)) + 1) = _
    rw [if_neg (by omega), dpf_le hb j (bk (j + 1)) (by omega) (by omega)]
section SW
variable {s : Nat} {px pm : Nat → Int32}
/-- what a whole text has -/
theorem rW_facts (h : rW (chr s px) s = true) : okf (chr s px) = true ∧ rCb (chr s px) = true ∧ 2 ≤ rN (chr s px) ∧ (chr s px 0 = 116 → rQ (chr s px) = rN (chr s px) - 1 ∧ rP5 (chr s px) + rN (chr s px) = s) ∧ (chr s px 0 ≠ 116 → rP5 (chr s px) = s) := by
  unfold rW at h
  simp only [Bool.and_eq_true, decide_eq_true_eq] at h
  obtain ⟨⟨⟨h1, h2⟩, h3⟩, h4⟩ := h
  refine ⟨h1, h2, h3, fun q => ?_, fun q => ?_⟩
  · rw [if_pos q] at h4
    simp only [Bool.and_eq_true, beq_iff_eq] at h4
    refine ⟨h4.1.2, ?_⟩
    have := h4.2
    have := h4.1.2
    omega
  · rw [if_neg q] at h4
    simpa using h4
theorem par_ok (h : rW (chr s px) s = true) (ht : chr s px 0 = 116) {i : Nat} (h1 : 1 ≤ i) (hi : i < rN (chr s px)) : 48 ≤ chr s px (rP5 (chr s px) + i) ∧ chr s px (rP5 (chr s px) + i) - 48 < i := by
  obtain ⟨hQ, -⟩ := (rW_facts h).2.2.2.1 ht
  have hno := fa_first_no (bad (chr s px) (rP5 (chr s px) + 1)) (rN (chr s px) - 1) (i - 1) (by show i - 1 < rQ (chr s px); omega)
  unfold bad at hno
  simp only [Bool.not_eq_false', Bool.and_eq_true, decide_eq_true_eq] at hno
  rw [show rP5 (chr s px) + 1 + (i - 1) = rP5 (chr s px) + i by omega] at hno
  omega
theorem bkr_PB (h : rW (chr s px) s = true) : PB (rN (chr s px)) (bkr (chr s px)) := by
  have hN := rN_le (chr s px)
  refine ⟨hN, by unfold bkr; rw [if_pos rfl], fun i hi => ?_⟩
  unfold bkr
  rw [if_neg (by omega)]
  by_cases ht : chr s px 0 = 116
  · rw [if_pos ht]
    by_cases c : i = 0
    · rw [if_pos c]; exact Or.inr rfl
    · rw [if_neg c]
      have := par_ok h ht (i := i) (by omega) hi
      exact Or.inl (by omega)
  · rw [if_neg ht]
    by_cases c : i = 0
    · rw [if_pos c]
      by_cases c2 : chr s px 0 = 114
      · rw [if_pos c2]; exact Or.inl (by omega)
      · rw [if_neg c2]; exact Or.inr rfl
    · rw [if_neg c]; exact Or.inl (by omega)
theorem bkr_lt (h : rW (chr s px) s = true) {i : Nat} (h0 : 0 < i) (hi : i < rN (chr s px)) : bkr (chr s px) i < i := by
  have hN := rN_le (chr s px)
  unfold bkr
  rw [if_neg (by omega)]
  by_cases ht : chr s px 0 = 116
  · rw [if_pos ht, if_neg (by omega)]
    exact (par_ok h ht (by omega) hi).2
  · rw [if_neg ht, if_neg (by omega)]
    omega
/-- the same below n, and something lower above it: depths need no more -/
def bkl (n : Nat) (bk : Nat → Nat) (i : Nat) : Nat := if i < n then bk i else 0
theorem orderAt_nI (h : PG s px pm) {p N z : Nat} (hp : p < 100) (hN : N ≤ 9) (hk : ∀ i, i < N → kl (chr s px (p + i)) ≠ 99) (hz : 20 < z) : fX5_orderAt z (nI p) (nI N) (nI s) px = some (nI (odr (chr s px) p N)) := by
  unfold fX5_orderAt
  refine (lp_b (fun i => (nI (odr (chr s px) p i), nI i)) N (nI (odr (chr s px) p N)) rfl (fun i hi => ?_) ?_ (by omega)).trans rfl
  · show fX5_orderAt_L5 z (nI p) (nI N) (nI (odr (chr s px) p i)) (nI i) (nI s) px = _
    unfold fX5_orderAt_L5
    have hc := chr_le h (p + i)
    have hki := hk i hi
    have hk3 : kl (chr s px (p + i)) ≤ 3 := by rcases kl_le (chr s px (p + i)) with a | a <;> omega
    have hol := odr_lt (ch := chr s px) (p := p) (k := i) (fun j hj => hk j (by omega))
    have h4 : 4 ^ i ≤ 65536 := p49 (by omega)
    rw [if_neg (nI_ge hi (by omega)), nI_add, letterAt_nI h (by omega)]
    show (if fX9_kindOfLetter (nI (chr s px (p + i))) ≤ 0 then _ else _) = _
    rw [kindOfLetter_nI (by omega), bI_ne hki, nI_1]
    simp only [odr]
    by_cases c : kl (chr s px (p + i)) = 0
    · rw [if_pos (by rw [c]; decide), c, Nat.zero_mul]
      rfl
    · have h5 : kl (chr s px (p + i)) * 4 ^ i ≤ 3 * 65536 := Nat.mul_le_mul hk3 h4
      rw [if_neg (nI_nle (by omega) (by omega)), shl_nI (by omega) (by omega), fa_or]
      have eor : odr (chr s px) p i ||| kl (chr s px (p + i)) * 4 ^ i = odr (chr s px) p i + kl (chr s px (p + i)) * 4 ^ i := by
        have := Nat.two_pow_add_eq_or_of_lt (i := 2 * i) (b := odr (chr s px) p i) (by rw [← p42]; exact hol) (kl (chr s px (p + i)))
        rw [← p42, Nat.mul_comm] at this
        rw [Nat.or_comm, ← this, Nat.add_comm]
      rw [eor]
  · show fX5_orderAt_L5 z (nI p) (nI N) (nI (odr (chr s px) p N)) (nI N) (nI s) px = _
    unfold fX5_orderAt_L5
    rw [if_pos (nI_le (Nat.le_refl _) (by omega))]
theorem lay_loop (h : PG s px pm) (hW : rW (chr s px) s = true) {z : Nat} (hz : 20 < z) {b0 d0 : Nat → Int32} {a1 a2 a3 a4 a5 a6 a7 a8 : Int32} (hb0 : b0 0 = bI (bkr (chr s px) 0)) (hd0 : d0 0 = 0) :
    ∃ e, lp (fun sg => fX6_lay_L93 z (nI (rP3 (chr s px) + 1) + nI (rN (chr s px))) sg.1 a1 (nI (chr s px 0)) a2 a3 a4 (nI (rN (chr s px))) sg.2.1 sg.2.2 a5 (nI s) px a7 a8) z (1, b0, d0) = some e ∧ (BH (rN (chr s px)) (bkr (chr s px)) e.1 ∧ ∀ i, i < rN (chr s px) → e.2 i = nI (dpt (bkl (rN (chr s px)) (bkr (chr s px))) i)) := by
  have hN := rN_le (chr s px)
  have hN2 := (rW_facts hW).2.2.1
  have hlb : ∀ i, 0 < i → i < 9 → bkl (rN (chr s px)) (bkr (chr s px)) i < i := by
    intro i h0 h9
    unfold bkl
    split
    · rename_i q; exact bkr_lt hW h0 q
    · exact h0
  have hp5 : rP3 (chr s px) + 1 + rN (chr s px) = rP5 (chr s px) := rfl
  have hp513 : rP5 (chr s px) ≤ 13 := by
    have : rP3 (chr s px) ≤ 3 := by unfold rP3 rP2; (repeat' split) <;> omega
    omega
  have hc0 := chr_le h 0
  obtain ⟨M, hM⟩ : ∃ M, rN (chr s px) = M + 1 := ⟨rN (chr s px) - 1, by omega⟩
  refine lp_rel0 (fun (k : Nat) (t : Int32 × (Nat → Int32) × (Nat → Int32)) => t.1 = nI (k + 1) ∧ (∀ i, i < k + 1 → t.2.1 i = bI (bkr (chr s px) i)) ∧ ∀ i, i < k + 1 → t.2.2 i = nI (dpt (bkl (rN (chr s px)) (bkr (chr s px))) i)) _ M ⟨rfl, fun i hi => ?_, fun i hi => ?_⟩ (fun k t hk hr => ?_) (fun t hr => ?_) (by omega)
  · rw [show i = 0 by omega]; exact hb0
  · rw [show i = 0 by omega]; exact hd0
  · obtain ⟨x, b, d⟩ := t
    obtain ⟨r1, r2, r3⟩ := hr
    dsimp only at r1 r2 r3
    subst r1
    have hlt := bkr_lt hW (i := k + 1) (by omega) (by omega)
    have j136 : ∀ t0 : Int32, t0 = nI (bkr (chr s px) (k + 1)) → ∃ s', fX6_lay_J136 z (nI (rP3 (chr s px) + 1) + nI (rN (chr s px))) (nI (k + 1)) t0 a1 (nI (chr s px 0)) a2 a3 a4 (nI (rN (chr s px))) b d a5 (nI s) px a7 a8 = some (.inl s') ∧ (s'.1 = nI (k + 1 + 1) ∧ (∀ i, i < k + 1 + 1 → s'.2.1 i = bI (bkr (chr s px) i)) ∧ ∀ i, i < k + 1 + 1 → s'.2.2 i = nI (dpt (bkl (rN (chr s px)) (bkr (chr s px))) i)) := by
      intro t0 e0
      subst e0
      unfold fX6_lay_J136 fX6_depthOf
      rw [agd_in (by omega) (by decide), if_neg (nI_pos (by omega)), if_neg (nI9 (by omega)), agd_in (by omega) (by decide), cl_nI (by omega), r3 _ (by omega)]
      show ∃ s', agd 9 (nI (k + 1)) _ = _ ∧ _
      rw [agd_in (by omega) (by decide), cl_nI (by omega), nI_1, nI_1]
      refine ⟨_, rfl, rfl, fun i hi => ?_, fun i hi => ?_⟩
      · show upd b (k + 1) _ i = _
        by_cases c : i = k + 1
        · subst c; rw [pk_us, bI_ne (by omega)]
        · rw [pk_un c]; exact r2 i (by omega)
      · show upd d (k + 1) _ i = _
        by_cases c : i = k + 1
        · subst c
          have hsu := dpt_succ hlb (i := k + 1) (by omega) (by omega)
          have : bkl (rN (chr s px)) (bkr (chr s px)) (k + 1) = bkr (chr s px) (k + 1) := by unfold bkl; rw [if_pos (by omega)]
          rw [pk_us, hsu, this]
        · rw [pk_un c]; exact r3 i (by omega)
    show ∃ s', fX6_lay_L93 z (nI (rP3 (chr s px) + 1) + nI (rN (chr s px))) (nI (k + 1)) a1 (nI (chr s px 0)) a2 a3 a4 (nI (rN (chr s px))) b d a5 (nI s) px a7 a8 = _ ∧ _
    unfold fX6_lay_L93
    rw [if_neg (nI_ge (by omega) (by omega)), if_neg (nI9 (by omega))]
    by_cases ht : chr s px 0 = 116
    · rw [if_pos (show nI (chr s px 0) = 116 by rw [ht]; rfl)]
      have hpar := par_ok hW ht (i := k + 1) (by omega) (by omega)
      rw [nI_add, hp5, nI_add, letterAt_nI h (by omega)]
      rw [← hp5, ← nI_add]
      refine j136 _ ?_
      show nI (chr s px (rP3 (chr s px) + 1 + rN (chr s px) + (k + 1))) - 48 = _
      rw [hp5, show nI (chr s px (rP5 (chr s px) + (k + 1))) - 48 = nI (chr s px (rP5 (chr s px) + (k + 1)) - 48) from pk_sub (b := 48) hpar.1]
      unfold bkr
      rw [if_neg (by omega), if_pos ht, if_neg (by omega)]
    · rw [if_neg (show ¬ nI (chr s px 0) = 116 from nlit (k := 116) (by omega) (by decide) ht)]
      refine j136 _ ?_
      rw [show nI (k + 1) - 1 = nI (k + 1 - 1) from pk_sub (b := 1) (by omega)]
      unfold bkr
      rw [if_neg (by omega), if_neg ht, if_neg (by omega)]
  · obtain ⟨x, b, d⟩ := t
    obtain ⟨r1, r2, r3⟩ := hr
    dsimp only at r1 r2 r3
    subst r1
    show ∃ e, fX6_lay_L93 z (nI (rP3 (chr s px) + 1) + nI (rN (chr s px))) (nI (M + 1)) a1 (nI (chr s px 0)) a2 a3 a4 (nI (rN (chr s px))) b d a5 (nI s) px a7 a8 = _ ∧ _
    unfold fX6_lay_L93
    rw [if_pos (nI_le (by omega) (by omega))]
    exact ⟨_, rfl, fun i hi => r2 i (by omega), fun i hi => r3 i (by omega)⟩
end SW
