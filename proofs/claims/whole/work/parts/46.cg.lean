/-! ===== the masks are the MOVES ===== -/
section FG
variable {n : Nat} {bk : Nat → Nat} {bh : Nat → Int32} {oth two : Bool} {o : Nat}
theorem onm_lt {to : Nat} (ht : to < 9) : ∀ (d a ps : Nat) (m : Nat → Nat) (f : Nat), (∀ j, m j < 512) → onm bk oth o to d a ps m f < 512
  | 0, a, ps, m, f, h => h f
  | d + 1, a, ps, m, f, h => by
    simp only [onm]
    have h2 : ∀ j, (if kd o (bk a) = 2 ∨ (oth = true ∧ ps.testBit (kd o (bk a)) = true) then m else updN m (bk a) (m (bk a) ||| 2 ^ to)) j < 512 := by
      intro j
      split
      · exact h j
      · unfold updN
        split
        · exact Nat.or_lt_two_pow (n := 9) (h _) (Nat.pow_lt_pow_right (by decide) ht)
        · exact h j
    split
    · exact h f
    · split
      · exact h f
      · exact onm_lt ht d _ _ _ f h2
theorem lnd_lt (hp : PB n bk) {c : Nat} : ∀ (d a : Nat), a < n → lnd bk oth o c d a < n ∨ lnd bk oth o c d a = 99
  | 0, a, _ => Or.inr rfl
  | d + 1, a, ha => by
    simp only [lnd]
    rcases hp.2.2 a ha with q | q
    · split
      · exact Or.inr rfl
      · split
        · exact Or.inl q
        · split
          · exact Or.inr rfl
          · exact lnd_lt hp d _ q
    · rw [if_pos q]; exact Or.inr rfl
theorem mk_lt (hp : PB n bk) : ∀ (i : Nat), i ≤ n → ∀ f, mk bk two oth o i f < 512
  | 0, _, f => by simp [mk]
  | i + 1, hi, f => by
    have h9 := hp.1
    have ih := mk_lt hp i (by omega)
    simp only [mk]
    split
    · exact onm_lt (by omega) _ _ _ _ _ ih
    · split
      · exact ih f
      · split
        · exact ih f
        · rename_i h
          unfold updN
          split
          · refine Nat.or_lt_two_pow (n := 9) (ih i) (Nat.pow_lt_pow_right (by decide) ?_)
            rcases lnd_lt (oth := oth) (o := o) (c := kd o i) hp (lpN two) i (by omega) with q | q
            · omega
            · exact absurd q h
          · exact ih f
theorem find_nI (hp : PB n bk) (hb : BH n bk bh) (ho : o < 4 ^ 9) {T : Nat → Int32} {z : Nat} (hz : 9 < z) : fX3_find z (nI o) T (nI n) (nI (lpN two)) bh (b01 oth) = some (tf T (mk bk two oth o n)) := by
  have h9 := hp.1
  have ho2 : o < 2 ^ 31 := Nat.lt_of_lt_of_le ho (by decide)
  unfold fX3_find
  rw [fill_nI (by decide) hz, tf_fill]
  show (lp _ z ((0 : Int32), tf T (fun _ => 0))).bind _ = _
  refine (lp_b (fun i => (nI i, tf T (mk bk two oth o i))) n (tf T (mk bk two oth o n)) rfl (fun i hi => ?_) ?_ (by omega)).trans rfl
  · show fX3_find_L10 z (nI o) (nI i) (tf T (mk bk two oth o i)) (nI n) (nI (lpN two)) bh (b01 oth) = _
    unfold fX3_find_L10
    have k4 := kd_lt o i
    rw [if_neg (nI_ge hi (by omega)), kindAt_nI ho2 (by omega)]
    by_cases c0 : kd o i = 0
    · rw [if_pos (by rw [c0]; rfl), findOnTo_nI hp hb ho hi hz]
      show some (Sum.inl (nI i + 1, _)) = _
      rw [nI_1]
      simp only [mk]
      rw [if_pos c0]
    · rw [if_neg (nI_ne0 (by omega) (by omega)), goesBack_nI k4]
      by_cases c1 : kd o i = 1
      · rw [if_pos (by rw [c1]; rfl), nI_1]
        simp only [mk]
        rw [if_neg c0, if_pos c1]
      · rw [if_neg (by rw [show decide (2 ≤ kd o i) = true by simp; omega]; decide), findBackFrom_nI hp hb ho hi k4 (mk_lt hp i (by omega) i) hz]
        show some (Sum.inl (nI i + 1, _)) = _
        rw [nI_1]
        simp only [mk]
        rw [if_neg c0, if_neg c1]
  · show fX3_find_L10 z (nI o) (nI n) (tf T (mk bk two oth o n)) (nI n) (nI (lpN two)) bh (b01 oth) = _
    unfold fX3_find_L10
    rw [if_pos (nI_le (Nat.le_refl n) (by omega))]
def onq (bk : Nat → Nat) (oth : Bool) (o f : Nat) : Nat → Nat → Nat → Bool
  | 0, _, _ => false
  | d + 1, a, ps => bk a != 99 && kd o (bk a) != 0 && ((bk a == f && !(kd o (bk a) == 2) && !(oth && ps.testBit (kd o (bk a)))) || onq bk oth o f d (bk a) (ps ||| 2 ^ (kd o (bk a))))
theorem updN_bit {m : Nat → Nat} {k to f t : Nat} : (updN m k (m k ||| 2 ^ to) f).testBit t = ((m f).testBit t || (decide (f = k) && decide (to = t))) := by
  unfold updN
  by_cases c : f = k
  · subst c
    rw [if_pos rfl, Nat.testBit_or, Nat.testBit_two_pow]
    simp
  · rw [if_neg c]
    simp [c]
theorem onm_bit {to f t : Nat} : ∀ (d a ps : Nat) (m : Nat → Nat), (onm bk oth o to d a ps m f).testBit t = ((m f).testBit t || (decide (to = t) && onq bk oth o f d a ps))
  | 0, a, ps, m => by simp [onm, onq]
  | d + 1, a, ps, m => by
    simp only [onm, onq]
    by_cases c9 : bk a = 99
    · rw [if_pos c9]; simp [c9]
    · rw [if_neg c9]
      by_cases c0 : kd o (bk a) = 0
      · rw [if_pos c0]; simp [c0]
      · rw [if_neg c0, onm_bit d]
        have n9 : (bk a != 99) = true := by simp [c9]
        have n0 : (kd o (bk a) != 0) = true := by simp [c0]
        rw [n9, n0]
        generalize hq : onq bk oth o f d (bk a) (ps ||| 2 ^ kd o (bk a)) = q
        by_cases c2 : kd o (bk a) = 2 ∨ (oth = true ∧ ps.testBit (kd o (bk a)) = true)
        · rw [if_pos c2]
          have : (bk a == f && !(kd o (bk a) == 2) && !(oth && ps.testBit (kd o (bk a)))) = false := by
            rcases c2 with q1 | ⟨q1, q2⟩
            · simp [q1]
            · simp [q1, q2]
          rw [this]
          simp
        · rw [if_neg c2, updN_bit]
          have : (!(kd o (bk a) == 2) && !(oth && ps.testBit (kd o (bk a)))) = true := by
            rw [not_or] at c2
            obtain ⟨q1, q2⟩ := c2
            simp [q1]
            cases oth with
            | false => exact Or.inl rfl
            | true =>
              refine Or.inr ?_
              cases hb9 : ps.testBit (kd o (bk a)) with
              | false => rfl
              | true => exact absurd ⟨rfl, hb9⟩ q2
          rw [Bool.and_assoc (bk a == f), this]
          have e : decide (f = bk a) = (bk a == f) := by
            by_cases c : f = bk a
            · simp [c]
            · simp [c, Ne.symm c]
          rw [e]
          generalize (bk a == f) = b1
          generalize decide (to = t) = b2
          generalize (m f).testBit t = b3
          cases b1 <;> cases b2 <;> cases b3 <;> cases q <;> rfl
theorem mk_bit {f t : Nat} (ht : t < 99) : ∀ i, (mk bk two oth o i f).testBit t = ((decide (t < i) && kd o t == 0 && onq bk oth o f (lpN two) t 0) || (decide (f < i) && decide (2 ≤ kd o f) && decide (lnd bk oth o (kd o f) (lpN two) f = t)))
  | 0 => by simp [mk]
  | i + 1 => by
    have ih := mk_bit (f := f) ht i
    have k4 := kd_lt o i
    have hti : decide (t < i + 1) = (decide (t < i) || decide (t = i)) := by
      by_cases a : t < i
      · simp [a]; omega
      · by_cases b : t = i
        · simp [b]
        · simp [a, b]; omega
    have hfi : decide (f < i + 1) = (decide (f < i) || decide (f = i)) := by
      by_cases a : f < i
      · simp [a]; omega
      · by_cases b : f = i
        · simp [b]
        · simp [a, b]; omega
    rw [hti, hfi]
    simp only [mk]
    by_cases c0 : kd o i = 0
    · rw [if_pos c0, onm_bit, ih]
      by_cases b : t = i
      · subst b
        have : decide (t < t) = false := by simp
        rw [this, c0]
        by_cases b2 : f = t
        · subst b2; simp [c0]
        · simp [b2]
          generalize onq bk oth o f (lpN two) t 0 = q1
          generalize decide (f < t) = q2
          generalize decide (2 ≤ kd o f) = q3
          generalize decide (lnd bk oth o (kd o f) (lpN two) f = t) = q4
          cases q1 <;> cases q2 <;> cases q3 <;> cases q4 <;> rfl
      · have : decide (i = t) = false := by simp; omega
        rw [this]
        by_cases b2 : f = i
        · subst b2; simp [c0, b]
        · simp [b, b2]
    · rw [if_neg c0]
      have tn : (decide (t = i) && kd o t == 0) = false := by
        by_cases b : t = i
        · subst b; simp [c0]
        · simp [b]
      by_cases c1 : kd o i = 1
      · rw [if_pos c1, ih]
        by_cases b2 : f = i
        · subst b2
          by_cases b : t = f
          · subst b; simp [c0, c1]
          · simp [b, c1]
        · by_cases b : t = i
          · subst b; simp [c0, b2]
          · simp [b, b2]
      · rw [if_neg c1]
        have h2 : 2 ≤ kd o i := by omega
        by_cases c9 : lnd bk oth o (kd o i) (lpN two) i = 99
        · rw [if_pos c9, ih]
          by_cases b2 : f = i
          · subst b2
            have : ¬ (99 = t) := by omega
            by_cases b : t = f
            · subst b; simp [c0, c9, this]
            · simp [b, c9, this]
          · by_cases b : t = i
            · subst b; simp [c0, b2]
            · simp [b, b2]
        · rw [if_neg c9, updN_bit, ih]
          by_cases b2 : f = i
          · subst b2
            by_cases b : t = f
            · subst b; simp [c0, h2]
            · simp [b, h2]
          · by_cases b : t = i
            · subst b; simp [c0, b2]
            · simp [b, b2]
theorem lnd_gob (ho : o < 4 ^ 9) {f t c : Nat} (ht : t < 99) (h0 : kd o t = 0) : (lnd bk oth o c (lpN two) f = t) ↔ gob bk two oth o c f t = true := by
  have k99 : kd o 99 = 0 := kd_big ho (by decide)
  cases two <;> cases oth <;> simp only [lpN, lnd, gob, okl, if_true, if_false, Bool.false_eq_true] <;> grind (splits := 30)
theorem onq_gob (ho : o < 4 ^ 9) {f t : Nat} (hf : f < 99) : onq bk oth o f (lpN two) t 0 = (kd o f != 0 && kd o f != 2 && gob bk two oth o (kd o f) t f) := by
  have k99 : kd o 99 = 0 := kd_big ho (by decide)
  cases two <;> simp only [lpN, onq, gob, okl, if_true, if_false, Bool.false_eq_true, Nat.zero_or, Nat.testBit_or, Nat.testBit_two_pow, Nat.zero_testBit] <;> grind
theorem mk_cg (hp : PB n bk) (ho : o < 4 ^ 9) {f t : Nat} (hf : f < n) (ht : t < n) : (mk bk two oth o n f).testBit t = cg bk two oth o f t := by
  have h9 := hp.1
  rw [mk_bit (by omega), onq_gob ho (by omega)]
  unfold cg
  have e1 : decide (t < n) = true := by simp [ht]
  have e2 : decide (f < n) = true := by simp [hf]
  rw [e1, e2]
  have k4 := kd_lt o f
  by_cases c0 : kd o t = 0
  · have e3 : decide (lnd bk oth o (kd o f) (lpN two) f = t) = gob bk two oth o (kd o f) f t := by
      rw [Bool.eq_iff_iff, decide_eq_true_iff]
      exact lnd_gob ho (by omega) c0
    rw [e3, c0]
    by_cases cf : kd o f = 0
    · simp [cf]
    · have hne : f ≠ t := fun e => cf (by rw [e]; exact c0)
      have n0 : (kd o f != 0) = true := by simp [cf]
      have n1 : (f != t) = true := by simp [hne]
      rw [n0, n1]
      have e4 : decide (2 ≤ kd o f) = (kd o f != 1) := by
        by_cases c : kd o f = 1
        · rw [c]; rfl
        · have : (kd o f != 1) = true := by simp [c]
          rw [this]
          simp
          omega
      rw [e4]
      generalize gob bk two oth o (kd o f) f t = g1
      generalize gob bk two oth o (kd o f) t f = g2
      generalize (kd o f != 1) = g3
      generalize (kd o f != 2) = g4
      cases g1 <;> cases g2 <;> cases g3 <;> cases g4 <;> rfl
  · have e3 : lnd bk oth o (kd o f) (lpN two) f ≠ t := by
      intro e
      have : ∀ d a, lnd bk oth o (kd o f) d a = t → kd o t = 0 := by
        intro d
        induction d with
        | zero => intro a h; simp [lnd] at h; omega
        | succ d ih =>
          intro a h
          simp only [lnd] at h
          split at h
          · omega
          · split at h
            · rename_i q
              rw [← h]; exact q
            · split at h
              · omega
              · exact ih _ h
      exact c0 (this _ _ e)
    have z0 : (kd o t == 0) = false := by simp [c0]
    rw [z0]
    simp [e3]
end FG
