/-! ===== the reference's reading, all of it ===== -/
def odr (ch : Nat → Nat) (p : Nat) : Nat → Nat
  | 0 => 0
  | k + 1 => odr ch p k + kl (ch (p + k)) * 4 ^ k
theorem odr_lt {ch : Nat → Nat} {p : Nat} : ∀ {k}, (∀ i, i < k → kl (ch (p + i)) ≠ 99) → odr ch p k < 4 ^ k
  | 0, _ => by simp [odr]
  | k + 1, h => by
    have ih := odr_lt (ch := ch) (p := p) (k := k) (fun i hi => h i (by omega))
    have hk : kl (ch (p + k)) ≤ 3 := by
      rcases kl_le (ch (p + k)) with a | a
      · exact a
      · exact absurd a (h k (by omega))
    have : kl (ch (p + k)) * 4 ^ k ≤ 3 * 4 ^ k := Nat.mul_le_mul_right _ hk
    simp only [odr]
    rw [Nat.pow_succ]
    omega
section FL
variable {s : Nat} {px pm : Nat → Int32}
/-- behind the '/' -/
theorem run5 (h : PG s px pm) {P6 N : Nat} {so ot tw od : Int32} (hN2 : 2 ≤ N) (hN : N ≤ 9) {Q : Nat} (hQ : Q ≤ N - 1) (hgood : ∀ i, i < Q → bad (chr s px) P6 i = false) (hbad : Q < N - 1 → bad (chr s px) P6 Q = true) (hP : P6 ≤ s) :
    ∀ (d i : Nat) (ro : Nat → Int32), i + d = Q → (∀ t, 1 ≤ t → t < 1 + i → ro t = nI (chr s px (P6 + (t - 1)) - 48)) → P6 + i ≤ s →
      ∃ e, RT s pm (P6 + i) (5, so, ot, tw, nI N, nI (1 + i), od, ro) e ∧ e.1 = nI (P6 + Q) ∧ P6 + Q ≤ s ∧ e.2.1 = 5 ∧ e.2.2.1 = so ∧ e.2.2.2.1 = ot ∧ e.2.2.2.2.1 = tw ∧ e.2.2.2.2.2.1 = nI N ∧ e.2.2.2.2.2.2.1 = nI (1 + Q) ∧ e.2.2.2.2.2.2.2.1 = od ∧ ∀ t, 1 ≤ t → t < 1 + Q → e.2.2.2.2.2.2.2.2 t = nI (chr s px (P6 + (t - 1)) - 48)
  | 0, i, ro, hi, hro, hs => by
    have e : i = Q := by omega
    subst e
    have h24 := h.1
    rcases Nat.eq_or_lt_of_le hs with c | c
    · refine ⟨(nI s, 5, so, ot, tw, nI N, nI (1 + i), od, ro), ?_, ?_, hs, rfl, rfl, rfl, rfl, rfl, rfl, rfl, hro⟩
      · rw [c]; exact RT_end h24
      · rw [c]
    · obtain ⟨-, e2, e3, e4⟩ := h.ch c
      refine ⟨_, RT_rej c h24 e2 (fun w => go_5r (by omega) (by omega) (by omega) hN ?_), rfl, hs, rfl, rfl, rfl, rfl, rfl, rfl, rfl, hro⟩
      by_cases cq : i = N - 1
      · left; omega
      · right
        have hb := hbad (by omega)
        unfold bad at hb
        by_cases c48 : 48 ≤ chr s px (P6 + i)
        · right
          have : ¬ chr s px (P6 + i) - 48 < i + 1 := by simpa [c48] using hb
          omega
        · left; omega
  | d + 1, i, ro, hi, hro, hs => by
    have h24 := h.1
    have hg := hgood i (by omega)
    unfold bad at hg
    simp only [Bool.not_eq_false', Bool.and_eq_true, decide_eq_true_eq] at hg
    have c : P6 + i < s := chr_in (s := s) (px := px) (j := P6 + i) (by omega)
    obtain ⟨-, e2, e3, e4⟩ := h.ch c
    obtain ⟨e, r1, r2⟩ := run5 h (so := so) (ot := ot) (tw := tw) (od := od) hN2 hN hQ hgood hbad hP d (i + 1) (upd ro (1 + i) (nI (chr s px (P6 + i) - 48))) (by omega) (fun t h1 h2 => by
      by_cases ct : t = 1 + i
      · subst ct
        rw [pk_us, show 1 + i - 1 = i by omega]
      · rw [pk_un ct]; exact hro t h1 (by omega)) (by omega)
    refine ⟨e, RT_step c h24 e2 (fun w => go_5k hg.1 (by omega) (by omega) (by omega) hN) ?_, r2⟩
    rw [show 1 + i + 1 = 1 + (i + 1) by omega]
    exact r1
/-- the STONES; Q: how many parents are right -/
theorem run4 (h : PG s px pm) {p4 N c0 Q : Nat} {ot tw : Int32} {ro : Nat → Int32} (hc0 : c0 < 200) (hN : N ≤ 9) (hk : ∀ i, i < N → kl (chr s px (p4 + i)) ≠ 99) (hk9 : N < 9 → kl (chr s px (p4 + N)) = 99) (hQ : Q ≤ N - 1) (hgood : ∀ i, i < Q → bad (chr s px) (p4 + N + 1) i = false) (hbad : Q < N - 1 → bad (chr s px) (p4 + N + 1) Q = true) (hp : p4 + N ≤ s) :
    ∀ (d i : Nat), i + d = N →
      ∃ e, RT s pm (p4 + i) (4, nI c0, ot, tw, nI i, 1, nI (odr (chr s px) p4 i), ro) e ∧
        (((¬ (c0 = 116 ∧ 2 ≤ N) ∨ chr s px (p4 + N) ≠ 47) ∧ e.1 = nI (p4 + N) ∧ e.2.2.1 = nI c0 ∧ e.2.2.2.1 = ot ∧ e.2.2.2.2.1 = tw ∧ e.2.2.2.2.2.1 = nI N ∧ e.2.2.2.2.2.2.2.1 = nI (odr (chr s px) p4 N) ∧ (p4 + N = s → e.2.1 = 4)) ∨
         ((c0 = 116 ∧ 2 ≤ N) ∧ chr s px (p4 + N) = 47 ∧ e.1 = nI (p4 + N + 1 + Q) ∧ p4 + N + 1 + Q ≤ s ∧ e.2.1 = 5 ∧ e.2.2.1 = nI c0 ∧ e.2.2.2.1 = ot ∧ e.2.2.2.2.1 = tw ∧ e.2.2.2.2.2.1 = nI N ∧ e.2.2.2.2.2.2.1 = nI (1 + Q) ∧ e.2.2.2.2.2.2.2.1 = nI (odr (chr s px) p4 N) ∧ ∀ t, 1 ≤ t → t < 1 + Q → e.2.2.2.2.2.2.2.2 t = nI (chr s px (p4 + N + 1 + (t - 1)) - 48)))
  | 0, i, hi => by
    have e : i = N := by omega
    subst e
    have h24 := h.1
    rcases Nat.eq_or_lt_of_le hp with c | c
    · have z0 : chr s px (p4 + i) = 0 := chr_0 (by omega)
      refine ⟨(nI s, 4, nI c0, ot, tw, nI i, 1, nI (odr (chr s px) p4 i), ro), ?_, Or.inl ⟨Or.inr (by omega), ?_, rfl, rfl, rfl, rfl, rfl, fun _ => rfl⟩⟩
      · rw [c]; exact RT_end h24
      · rw [c]
    · obtain ⟨-, e2, e3, e4⟩ := h.ch c
      by_cases c47 : chr s px (p4 + i) = 47
      · rw [c47] at e2
        by_cases ct : c0 = 116 ∧ 2 ≤ i
        · obtain ⟨e, r1, r2, r3, r4, r5, r6, r7, r8, r9, r10, r11⟩ := run5 h (P6 := p4 + i + 1) (so := nI c0) (ot := ot) (tw := tw) (od := nI (odr (chr s px) p4 i)) ct.2 hN hQ hgood hbad (by omega) Q 0 ro (by omega) (fun t h1 h2 => by omega) (by omega)
          refine ⟨e, RT_step c h24 e2 (fun w => ?_) r1, Or.inr ⟨ct, c47, r2, r3, r4, r5, r6, r7, r8, r9, r10, r11⟩⟩
          rw [go_4s hN hc0]
          have : (c0 == 116 && decide (2 ≤ i)) = true := by simp [ct.1, ct.2]
          rw [this]
          rfl
        · have hgo : ∀ w, fX10_go w (nI 47) 4 (nI c0) (nI i) (nI (odr (chr s px) p4 i)) 1 ro ot tw = some (0, nI c0, ot, tw, nI i, 1, nI (odr (chr s px) p4 i), 5, ro) := by
            intro w
            rw [go_4s hN hc0]
            have : (c0 == 116 && decide (2 ≤ i)) = false := by
              by_cases q : c0 = 116
              · have : ¬ 2 ≤ i := fun q2 => ct ⟨q, q2⟩
                simp [this]
              · simp [q]
            rw [this]
            rfl
          exact ⟨_, RT_rej c h24 e2 hgo, Or.inl ⟨Or.inl ct, rfl, rfl, rfl, rfl, rfl, rfl, fun q => by omega⟩⟩
      · refine ⟨_, RT_rej c h24 e2 (fun w => go_4r (by omega) c47 hN ?_), Or.inl ⟨Or.inr c47, rfl, rfl, rfl, rfl, rfl, rfl, fun _ => rfl⟩⟩
        rcases Nat.lt_or_ge i 9 with q | q
        · exact Or.inl (hk9 q)
        · right; omega
  | d + 1, i, hi => by
    have h24 := h.1
    have c : p4 + i < s := by omega
    obtain ⟨-, e2, e3, e4⟩ := h.ch c
    have hki := hk i (by omega)
    have h47 : chr s px (p4 + i) ≠ 47 := by
      intro q
      rw [q] at hki
      exact hki (by decide)
    have hol := odr_lt (ch := chr s px) (p := p4) (k := i) (fun j hj => hk j (by omega))
    obtain ⟨e, r1, r2⟩ := run4 h (p4 := p4) (N := N) (c0 := c0) (Q := Q) (ot := ot) (tw := tw) (ro := ro) hc0 hN hk hk9 hQ hgood hbad hp d (i + 1) (by omega)
    exact ⟨e, RT_step c h24 e2 (fun w => go_4k (by omega) h47 hki (by omega) hol) r1, r2⟩
theorem rN_lt (h : PG s px pm) : (∀ i, i < rN (chr s px) → kl (chr s px (rP3 (chr s px) + 1 + i)) ≠ 99) ∧ (rN (chr s px) < 9 → kl (chr s px (rP3 (chr s px) + 1 + rN (chr s px))) = 99) := by
  refine ⟨fun i hi => ?_, fun hlt => ?_⟩
  · exact beq_eq_false_iff_ne.mp (fa_first_no (fun i => kl (chr s px (rP3 (chr s px) + 1 + i)) == 99) 9 i hi)
  · have := fa_first_yes (fun i => kl (chr s px (rP3 (chr s px) + 1 + i)) == 99) 9 hlt
    exact beq_iff_eq.mp this
theorem kl_0 : kl 0 = 99 := by decide
set_option maxHeartbeats 400000 in
/-- from the ':' on -/
theorem run34 (h : PG s px pm) {ot tw : Int32} {ro : Nat → Int32} {k : Nat} (hk1 : 1 ≤ k) (hk3 : k ≤ 3) (hno1 : k = 1 → chr s px (rP3 (chr s px)) ≠ 111) (hno2 : k ≤ 2 → chr s px (rP3 (chr s px)) ≠ 50) (hok : okf (chr s px) = true) (hle : rP3 (chr s px) ≤ s) (hs0 : 0 < s)
    (hot : ot = b01 (rOb (chr s px))) (htw : tw = b01 (rTb (chr s px))) :
    ∃ e, RT s pm (rP3 (chr s px)) (nI k, nI (chr s px 0), ot, tw, 0, 1, 0, ro) e ∧ e.1 = nI (rPl (chr s px)) ∧
      ((rW (chr s px) s = true ∧ e.2.1 = (if chr s px 0 = 116 then 5 else 4) ∧ e.2.2.1 = nI (chr s px 0) ∧ e.2.2.2.1 = b01 (rOb (chr s px)) ∧ e.2.2.2.2.1 = b01 (rTb (chr s px)) ∧ e.2.2.2.2.2.1 = nI (rN (chr s px)) ∧ e.2.2.2.2.2.2.2.1 = nI (odr (chr s px) (rP3 (chr s px) + 1) (rN (chr s px))) ∧ (chr s px 0 = 116 → e.2.2.2.2.2.2.1 = nI (rN (chr s px)) ∧ ∀ t, 1 ≤ t → t < rN (chr s px) → e.2.2.2.2.2.2.2.2 t = nI (chr s px (rP5 (chr s px) + 1 + (t - 1)) - 48))) ∨
       (rW (chr s px) s = false ∧ (¬ e.1 = nI s ∨ e.2.2.2.2.2.1 ≤ 1 ∨ (e.2.2.1 = 116 ∧ (¬ e.2.1 = 5 ∨ ¬ e.2.2.2.2.2.2.1 = e.2.2.2.2.2.1)) ∨ (¬ e.2.2.1 = 116 ∧ ¬ e.2.1 = 4)))) := by
  have h24 := h.1
  have hc := chr_le h
  have hc0 := hc 0
  have hp3 : rP3 (chr s px) ≤ 3 := by unfold rP3 rP2; (repeat' split) <;> omega
  by_cases ccb : rCb (chr s px) = true
  · have hyes : chr s px (rP3 (chr s px)) = 58 := by simpa [rCb] using ccb
    have c : rP3 (chr s px) < s := chr_in (s := s) (px := px) (j := rP3 (chr s px)) (by omega)
    obtain ⟨-, e2, e3, e4⟩ := h.ch c
    rw [hyes] at e2
    obtain ⟨hk, hk9⟩ := rN_lt h
    have hN := rN_le (chr s px)
    have hQ : rQ (chr s px) ≤ rN (chr s px) - 1 := fa_first_le _ _
    have hgood : ∀ i, i < rQ (chr s px) → bad (chr s px) (rP3 (chr s px) + 1 + rN (chr s px) + 1) i = false := fun i hi => fa_first_no _ _ i hi
    have hbad : rQ (chr s px) < rN (chr s px) - 1 → bad (chr s px) (rP3 (chr s px) + 1 + rN (chr s px) + 1) (rQ (chr s px)) = true := fun hi => fa_first_yes _ _ hi
    have hp : rP3 (chr s px) + 1 + rN (chr s px) ≤ s := by
      rcases Nat.lt_or_ge s (rP3 (chr s px) + 1 + rN (chr s px)) with q | q
      · exfalso
        have h1 := hk (s - (rP3 (chr s px) + 1)) (by omega)
        rw [show rP3 (chr s px) + 1 + (s - (rP3 (chr s px) + 1)) = s by omega, chr_0 (Nat.le_refl _)] at h1
        exact h1 kl_0
      · exact q
    obtain ⟨e, r1, r2⟩ := run4 h (p4 := rP3 (chr s px) + 1) (N := rN (chr s px)) (c0 := chr s px 0) (Q := rQ (chr s px)) (ot := ot) (tw := tw) (ro := ro) (by omega) hN hk hk9 hQ hgood hbad hp (rN (chr s px)) 0 (by omega)
    refine ⟨e, RT_step c h24 e2 (fun w => go_sgn hk1 hk3 (Or.inr rfl) (sgn_c hk1 hk3)) r1, ?_⟩
    have hP5 : rP5 (chr s px) = rP3 (chr s px) + 1 + rN (chr s px) := rfl
    rw [← hP5] at r2 hp
    rcases r2 with ⟨a0, a1, a2, a3, a4, a5, a6, a7⟩ | ⟨b0, b1, b2, b3, b4, b5, b6, b7, b8, b9, b10, b11⟩
    · have ePl : rPl (chr s px) = rP5 (chr s px) := by
        unfold rPl
        rw [if_neg (by simp [hok]), if_neg (by simp [ccb])]
        by_cases q2 : rN (chr s px) < 2
        · rw [if_pos q2]
        · rw [if_neg q2]
          by_cases q0 : chr s px 0 = 116
          · rw [if_neg (by simp [q0])]
            have : chr s px (rP5 (chr s px)) ≠ 47 := by
              rcases a0 with a | a
              · exact absurd ⟨q0, by omega⟩ a
              · exact a
            rw [if_pos this]
          · rw [if_pos q0]
      refine ⟨by rw [ePl]; exact a1, ?_⟩
      cases hW : rW (chr s px) s with
      | true =>
        left
        unfold rW at hW
        simp only [Bool.and_eq_true, decide_eq_true_eq] at hW
        obtain ⟨⟨-, w1⟩, w2⟩ := hW
        by_cases q0 : chr s px 0 = 116
        · rw [if_pos q0] at w2
          simp only [Bool.and_eq_true, beq_iff_eq] at w2
          rcases a0 with a | a
          · exact absurd ⟨q0, w1⟩ a
          · exact absurd w2.1.1 a
        · rw [if_neg q0] at w2
          have w2 : rP5 (chr s px) = s := by simpa using w2
          refine ⟨rfl, by rw [if_neg q0]; exact a7 w2, a2, by rw [a3, hot], by rw [a4, htw], a5, a6, fun q => absurd q q0⟩
      | false =>
        right
        refine ⟨rfl, ?_⟩
        by_cases qs : rP5 (chr s px) = s
        · by_cases q2 : rN (chr s px) < 2
          · right; left
            rw [a5]
            exact nI_le (b := 1) (by omega) (by decide)
          · right; right; left
            have q0 : chr s px 0 = 116 := by
              by_cases q0 : chr s px 0 = 116
              · exact q0
              · exfalso
                unfold rW at hW
                rw [hok, ccb, if_neg q0, qs] at hW
                have : decide (2 ≤ rN (chr s px)) = true := by simp; omega
                rw [this] at hW
                simp at hW
            refine ⟨by rw [a2, q0]; rfl, Or.inl ?_⟩
            rw [a7 qs]
            decide
        · left
          rw [a1]
          exact nlit (by omega) (by omega) qs
    · have ePl : rPl (chr s px) = rP5 (chr s px) + 1 + rQ (chr s px) := by
        unfold rPl
        rw [if_neg (by simp [hok]), if_neg (by simp [ccb]), if_neg (by omega), if_neg (by simp [b0.1]), if_neg (by simp [b1])]
      refine ⟨by rw [ePl]; exact b2, ?_⟩
      have eW : rW (chr s px) s = (rQ (chr s px) == rN (chr s px) - 1 && rP5 (chr s px) + 1 + rQ (chr s px) == s) := by
        unfold rW
        rw [hok, ccb, if_pos b0.1, b1]
        have : decide (2 ≤ rN (chr s px)) = true := by simp; omega
        rw [this]
        simp
      cases hW : rW (chr s px) s with
      | true =>
        left
        rw [eW] at hW
        simp only [Bool.and_eq_true, beq_iff_eq] at hW
        have hb0 := b0.2
        refine ⟨rfl, by rw [if_pos b0.1]; exact b4, b5, by rw [b6, hot], by rw [b7, htw], b8, b10, fun _ => ⟨?_, fun t h1 h2 => b11 t h1 (by omega)⟩⟩
        rw [b9, show 1 + rQ (chr s px) = rN (chr s px) by omega]
      | false =>
        right
        refine ⟨rfl, ?_⟩
        by_cases qs : rP5 (chr s px) + 1 + rQ (chr s px) = s
        · right; right; left
          have hb0 := b0.2
          refine ⟨by rw [b5, b0.1]; rfl, Or.inr ?_⟩
          rw [b9, b8]
          refine nlit (by omega) (by omega) (fun q => ?_)
          rw [eW, qs] at hW
          have : (rQ (chr s px) == rN (chr s px) - 1) = true := by simp; omega
          rw [this] at hW
          simp at hW
        · left
          rw [b2]
          exact nlit (by omega) (by omega) qs
  · have ccb : rCb (chr s px) = false := by simpa using ccb
    have hne : chr s px (rP3 (chr s px)) ≠ 58 := by simpa [rCb] using ccb
    have ePl : rPl (chr s px) = rP3 (chr s px) := by
      unfold rPl
      rw [if_neg (by simp [hok]), if_pos ccb]
    have eW : rW (chr s px) s = false := by unfold rW; rw [ccb]; simp
    rcases Nat.eq_or_lt_of_le hle with c | c
    · refine ⟨(nI s, nI k, nI (chr s px 0), ot, tw, 0, 1, 0, ro), ?_, by rw [ePl, c], Or.inr ⟨eW, Or.inr (Or.inl (show (0 : Int32) ≤ 1 by decide))⟩⟩
      rw [c]; exact RT_end h24
    · obtain ⟨-, e2, e3, e4⟩ := h.ch c
      refine ⟨_, RT_rej c h24 e2 (fun w => go_sgn hk1 hk3 (Or.inl rfl) (sgn_no (by omega) hk1 hk3 hno1 hno2 hne)), by rw [ePl], Or.inr ⟨eW, Or.inr (Or.inl (show (0 : Int32) ≤ 1 by decide))⟩⟩
/-- what a reading of the reference tells -/
def FE (s : Nat) (ch : Nat → Nat) (e : Int32 × GT) : Prop :=
  e.1 = nI (rPl ch) ∧
      ((rW ch s = true ∧ e.2.1 = (if ch 0 = 116 then 5 else 4) ∧ e.2.2.1 = nI (ch 0) ∧ e.2.2.2.1 = b01 (rOb ch) ∧ e.2.2.2.2.1 = b01 (rTb ch) ∧ e.2.2.2.2.2.1 = nI (rN ch) ∧ e.2.2.2.2.2.2.2.1 = nI (odr ch (rP3 ch + 1) (rN ch)) ∧ (ch 0 = 116 → e.2.2.2.2.2.2.1 = nI (rN ch) ∧ ∀ t, 1 ≤ t → t < rN ch → e.2.2.2.2.2.2.2.2 t = nI (ch (rP5 ch + 1 + (t - 1)) - 48))) ∨
       (rW ch s = false ∧ (s = 0 ∨ ¬ e.1 = nI s ∨ e.2.2.2.2.2.1 ≤ 1 ∨ (e.2.2.1 = 116 ∧ (¬ e.2.1 = 5 ∨ ¬ e.2.2.2.2.2.2.1 = e.2.2.2.2.2.1)) ∨ (¬ e.2.2.1 = 116 ∧ ¬ e.2.1 = 4))))
theorem run1 (h : PG s px pm) {so ot tw mn pa od : Int32} {ro : Nat → Int32} : ∃ e, RT s pm 0 (0, so, ot, tw, mn, pa, od, ro) e ∧ FE s (chr s px) e := by
  have h24 := h.1
  have hc := chr_le h
  have hc0 := hc 0
  by_cases hok : okf (chr s px) = true
  · have hcc : chr s px 0 = 114 ∨ chr s px 0 = 119 ∨ chr s px 0 = 116 := by
      unfold okf at hok
      simp only [Bool.or_eq_true, beq_iff_eq] at hok
      omega
    have hs0 : 0 < s := chr_in (s := s) (px := px) (j := 0) (by omega)
    have key : ∀ (k j : Nat), 1 ≤ k → k ≤ 3 → (k = 1 → chr s px (rP3 (chr s px)) ≠ 111) → (k ≤ 2 → chr s px (rP3 (chr s px)) ≠ 50) → rP3 (chr s px) = j → j ≤ s → ∃ e, RT s pm j (nI k, nI (chr s px 0), b01 (rOb (chr s px)), b01 (rTb (chr s px)), 0, 1, 0, ro) e ∧ FE s (chr s px) e := by
      intro k j k1 k3 n1 n2 ej hj
      subst ej
      obtain ⟨e, r1, r2, r3⟩ := run34 h (ot := b01 (rOb (chr s px))) (tw := b01 (rTb (chr s px))) (ro := ro) k1 k3 n1 n2 hok hj hs0 rfl rfl
      refine ⟨e, r1, r2, ?_⟩
      rcases r3 with a | ⟨a, b⟩
      · exact Or.inl a
      · exact Or.inr ⟨a, Or.inr b⟩
    have step0 : ∀ e, RT s pm 1 (1, nI (chr s px 0), 0, 0, 0, 1, 0, ro) e → RT s pm 0 (0, so, ot, tw, mn, pa, od, ro) e := by
      intro e he
      refine RT_step hs0 h24 (h.ch hs0).2.1 (fun w => ?_) he
      rw [go_0 (by omega)]
      have : (chr s px 0 == 114 || chr s px 0 == 119 || chr s px 0 == 116) = true := hok
      rw [this]
      rfl
    cases hob : rOb (chr s px) with
    | true =>
      have h1 : chr s px 1 = 111 := by simpa [rOb] using hob
      have s1 : 1 < s := chr_in (s := s) (px := px) (j := 1) (by omega)
      have e1 := (h.ch s1).2.1
      rw [h1] at e1
      have hp2 : rP2 (chr s px) = 2 := by unfold rP2; rw [if_pos hob]
      cases htb : rTb (chr s px) with
      | true =>
        have h2 : chr s px 2 = 50 := by
          have : chr s px (rP2 (chr s px)) = 50 := by simpa [rTb] using htb
          rw [hp2] at this
          exact this
        have s2 : 2 < s := chr_in (s := s) (px := px) (j := 2) (by omega)
        have e2 := (h.ch s2).2.1
        rw [h2] at e2
        have hp3 : rP3 (chr s px) = 3 := by unfold rP3; rw [if_pos htb, hp2]
        obtain ⟨e, r1, r2⟩ := key 3 3 (by decide) (by decide) (by omega) (by omega) hp3 (by omega)
        rw [hob, htb] at r1
        exact ⟨e, step0 e (RT_step s1 h24 e1 (fun w => go_sgn (k := 1) (by decide) (by decide) (Or.inr rfl) sgn_o) (RT_step s2 h24 e2 (fun w => go_sgn (k := 2) (by decide) (by decide) (Or.inr rfl) (sgn_2 (Or.inr rfl))) r1)), r2⟩
      | false =>
        have h2 : chr s px 2 ≠ 50 := by
          have : chr s px (rP2 (chr s px)) ≠ 50 := by simpa [rTb] using htb
          rw [hp2] at this
          exact this
        have hp3 : rP3 (chr s px) = 2 := by unfold rP3; rw [if_neg (by simp [htb]), hp2]
        obtain ⟨e, r1, r2⟩ := key 2 2 (by decide) (by decide) (by omega) (fun _ => by rw [hp3]; exact h2) hp3 (by omega)
        rw [hob, htb] at r1
        exact ⟨e, step0 e (RT_step s1 h24 e1 (fun w => go_sgn (k := 1) (by decide) (by decide) (Or.inr rfl) sgn_o) r1), r2⟩
    | false =>
      have h1 : chr s px 1 ≠ 111 := by simpa [rOb] using hob
      have hp2 : rP2 (chr s px) = 1 := by unfold rP2; rw [if_neg (by simp [hob])]
      cases htb : rTb (chr s px) with
      | true =>
        have h2 : chr s px 1 = 50 := by
          have : chr s px (rP2 (chr s px)) = 50 := by simpa [rTb] using htb
          rw [hp2] at this
          exact this
        have s1 : 1 < s := chr_in (s := s) (px := px) (j := 1) (by omega)
        have e1 := (h.ch s1).2.1
        rw [h2] at e1
        have hp3 : rP3 (chr s px) = 2 := by unfold rP3; rw [if_pos htb, hp2]
        obtain ⟨e, r1, r2⟩ := key 3 2 (by decide) (by decide) (by omega) (by omega) hp3 (by omega)
        rw [hob, htb] at r1
        exact ⟨e, step0 e (RT_step s1 h24 e1 (fun w => go_sgn (k := 1) (by decide) (by decide) (Or.inr rfl) (sgn_2 (Or.inl rfl))) r1), r2⟩
      | false =>
        have h2 : chr s px 1 ≠ 50 := by
          have : chr s px (rP2 (chr s px)) ≠ 50 := by simpa [rTb] using htb
          rw [hp2] at this
          exact this
        have hp3 : rP3 (chr s px) = 1 := by unfold rP3; rw [if_neg (by simp [htb]), hp2]
        obtain ⟨e, r1, r2⟩ := key 1 1 (by decide) (by decide) (fun _ => by rw [hp3]; exact h1) (fun _ => by rw [hp3]; exact h2) hp3 (by omega)
        rw [hob, htb] at r1
        exact ⟨e, step0 e r1, r2⟩
  · have hok : okf (chr s px) = false := by simpa using hok
    have ePl : rPl (chr s px) = 0 := by unfold rPl; rw [if_pos hok]
    have eW : rW (chr s px) s = false := by unfold rW; rw [hok]; rfl
    rcases Nat.eq_zero_or_pos s with c | c
    · refine ⟨(nI 0, 0, so, ot, tw, mn, pa, od, ro), ?_, by rw [ePl], Or.inr ⟨eW, Or.inl c⟩⟩
      have := RT_end (s := s) (pm := pm) (t := (0, so, ot, tw, mn, pa, od, ro)) h24
      rw [c] at this ⊢
      exact this
    · have hgo : ∀ w, fX10_go w (nI (chr s px 0)) 0 so mn od pa ro ot tw = some (0, nI (chr s px 0), 0, 0, 0, 1, 0, 1, ro) := by
        intro w
        rw [go_0 (by omega)]
        have : (chr s px 0 == 114 || chr s px 0 == 119 || chr s px 0 == 116) = false := hok
        rw [this]
        rfl
      exact ⟨_, RT_rej c h24 (h.ch c).2.1 hgo, by rw [ePl], Or.inr ⟨eW, Or.inr (Or.inl (nlit (by omega) (by omega) (by omega)))⟩⟩
theorem faultOf_nI (h : PG s px pm) {z : Nat} (hz : 40 ≤ z) {st so ot tw mn pa od : Int32} {ro : Nat → Int32} : ∃ e, fX10_faultOf z (nI s) pm st so mn od pa ro ot tw = some e ∧ FE s (chr s px) e := by
  obtain ⟨e, r1, r2⟩ := run1 h (so := so) (ot := ot) (tw := tw) (mn := mn) (pa := pa) (od := od) (ro := ro)
  unfold fX10_faultOf
  have := r1 z z (by omega)
  rw [show ((0 : Int32), (0 : Int32), so, ot, tw, mn, pa, od, ro) = (nI 0, 0, so, ot, tw, mn, pa, od, ro) from rfl, this]
  exact ⟨e, rfl, r2⟩
end FL
