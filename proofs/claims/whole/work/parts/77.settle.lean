/-! ===== ENDING: the class settles ===== -/
def wb (a b : Bool) : Nat := (if a then 1 else 0) + (if b then 2 else 0)
theorem wb_t (a b : Bool) {w : Nat} (hw : w < 2) : (wb a b).testBit w = if w = 0 then a else b := by
  rcases (show w = 0 ∨ w = 1 by omega) with rfl | rfl <;> cases a <;> cases b <;> rfl
theorem wv_bit {n : Nat} {c : Nat → Nat → Nat → Bool} {o w : Nat} (hw : w < 2) : (wv n c o).testBit w = wn n c o w := by
  have e : wv n c o = wb (wn n c o 0) (wn n c o 1) := rfl
  rw [e, wb_t _ _ hw]
  rcases (show w = 0 ∨ w = 1 by omega) with rfl | rfl <;> rfl
theorem wv_4 {n : Nat} {c : Nat → Nat → Nat → Bool} {o : Nat} : wv n c o < 4 := by
  have e : wv n c o = wb (wn n c o 0) (wn n c o 1) := rfl
  rw [e]
  cases wn n c o 0 <;> cases wn n c o 1 <;> decide
theorem first_s (p : Nat → Bool) (k : Nat) : decide (fa_first p (k + 1) < k + 1) = (decide (fa_first p k < k) || p k) := by
  have e : fa_first p (k + 1) = if fa_first p k < k then fa_first p k else if p k then k else k + 1 := rfl
  rw [e]
  by_cases h : fa_first p k < k
  · rw [if_pos h, decide_eq_true h, decide_eq_true (show fa_first p k < k + 1 by omega), Bool.true_or]
  · rw [if_neg h, decide_eq_false h, Bool.false_or]
    cases hp : p k
    · rw [if_neg (by decide)]
      exact decide_eq_false (by omega)
    · rw [if_pos rfl]
      exact decide_eq_true (by omega)
def wvk (n : Nat) (c : Nat → Nat → Nat → Bool) (o k : Nat) : Nat := wb (decide (fa_first (wnp n c (wn n c) o 0) k < k)) (decide (fa_first (wnp n c (wn n c) o 1) k < k))
section WK
variable {n : Nat} {c : Nat → Nat → Nat → Bool} {o k : Nat}
theorem wvk_no (h0 : wnp n c (wn n c) o 0 k = false) (h1 : wnp n c (wn n c) o 1 k = false) : wvk n c o (k + 1) = wvk n c o k := by
  unfold wvk
  rw [first_s, first_s, h0, h1, Bool.or_false, Bool.or_false]
theorem wvk_0 (h0 : wnp n c (wn n c) o 0 k = true) (h1 : wnp n c (wn n c) o 1 k = false) : wvk n c o (k + 1) = wvk n c o k ||| 1 := by
  unfold wvk
  rw [first_s, first_s, h0, h1, Bool.or_false, Bool.or_true]
  generalize decide (fa_first (wnp n c (wn n c) o 0) k < k) = a
  generalize decide (fa_first (wnp n c (wn n c) o 1) k < k) = b
  cases a <;> cases b <;> rfl
theorem wvk_1 (h0 : wnp n c (wn n c) o 0 k = false) (h1 : wnp n c (wn n c) o 1 k = true) : wvk n c o (k + 1) = wvk n c o k ||| 2 := by
  unfold wvk
  rw [first_s, first_s, h0, h1, Bool.or_false, Bool.or_true]
  generalize decide (fa_first (wnp n c (wn n c) o 0) k < k) = a
  generalize decide (fa_first (wnp n c (wn n c) o 1) k < k) = b
  cases a <;> cases b <;> rfl
end WK
/-- the other colour's bit -/
theorem other_nI {w : Nat} (hw : w < 2) : fX2_otherColour (nI (w + 1)) = nI (2 ^ (1 - w)) := by
  rcases (show w = 0 ∨ w = 1 by omega) with rfl | rfl <;> decide
section ST1
variable {n : Nat} {bk : Nat → Nat} {bh : Nat → Int32} {oth two : Bool} {o z : Nat} {num : Nat → Nat} {ls hn T mo wi : Nat → Int32} {lb al xl io : Int32} {V : Nat → Prop}
theorem hasPlace_nI {m : Nat} (h : m < 1680) : fX2_hasPlace (nI m) = 1 := by
  unfold fX2_hasPlace
  rw [if_neg (nI_pos (by omega)), if_neg (show ¬ (1680 : Int32) ≤ nI m from nI_ge (a := m) (b := 1680) h (by decide))]
theorem mosts_nI {q : Nat} (hN : NB V num lb ls hn al) (hq : V q) (h : num q < 1680) : fX2_mostMovesFrom z (nI q) lb ls hn al mo = some (mo (num q)) := by
  unfold fX2_mostMovesFrom
  rw [hN.2.2 z q hq, Option.bind_some, hasPlace_nI h, if_neg (show ¬ (1 : Int32) = 0 by decide), agd_in h (by decide), cl_nI (by omega)]
theorem wins_nI {q w : Nat} {c : Nat → Nat → Nat → Bool} (hN : NB V num lb ls hn al) (hq : V q) (h : num q < 1680) (hw : w < 2) (e : wi (num q) = nI (wv n c q)) : fX2_wins z (nI q) (nI (2 ^ w)) lb ls hn al wi = some (b01 (wn n c q w)) := by
  unfold fX2_wins
  rw [hN.2.2 z q hq, Option.bind_some, hasPlace_nI h, if_neg (show ¬ (1 : Int32) = 0 by decide), agd_in h (by decide), cl_nI (by omega), e]
  have hb := fa_bit (n := wv n c q) (j := w) (by omega)
  rw [wv_bit hw] at hb
  cases hc : wn n c q w with
  | false => rw [if_pos (hb.mpr hc)]; rfl
  | true => rw [if_neg (fun g => by rw [hb.mp g] at hc; cases hc)]; rfl
/-- what is settled already -/
def SO1 (n : Nat) (c : Nat → Nat → Nat → Bool) (num : Nat → Nat) (mo wi : Nat → Int32) (q : Nat) : Prop := mo (num q) = nI (lng n c q) ∧ wi (num q) = nI (wv n c q)
theorem lgs_s {c : Nat → Nat → Nat → Bool} {x k : Nat} : lgs n c x (k + 1) = max (lgs n c x k) (if c x (k / n) (k % n) then lng n c (mvd x (k / n) (k % n)) + 1 else 0) := by
  unfold lgs
  rw [mxs]
set_option maxHeartbeats 400000 in
theorem settle_st (hp : PB n bk) (hG : HG n (cg bk two oth) (VO n o)) (hN : NB (VO n o) num lb ls hn al) (h16 : ∀ q, VO n o q → num q < 1680) {x : Nat} (hx : VO n o x) (h3 : ct 3 x n = 0) {f t k : Nat} (hf : f < n) (ht : t < n) (d1 : k / n = f) (d2 : k % n = t)
    (hq : cg bk two oth x f t = true → SO1 n (cg bk two oth) num mo wi (mvd x f t)) :
    fX2_settle_L38 z (nI x) (nI (lgs n (cg bk two oth) x k)) (nI (wvk n (cg bk two oth) x k)) (nI f) (nI (kd x f)) (nI t) (tf T (mk bk two oth x n)) (nI n) xl bh io lb ls hn al mo wi = some (.inl (nI (lgs n (cg bk two oth) x (k + 1)), nI (wvk n (cg bk two oth) x (k + 1)), nI (t + 1))) := by
  have h9 := hp.1
  have hx9 := hG.1 _ hx
  have hm := mk_lt (two := two) (oth := oth) (o := x) hp n (Nat.le_refl _) f
  have elg := lgs_s (n := n) (c := cg bk two oth) (x := x) (k := k)
  rw [d1, d2] at elg
  unfold fX2_settle_L38
  rw [if_neg (nI_ge ht (by omega)), has_nI (by omega) (by omega) hm, mk_cg hp hx9 hf ht, Option.bind_some, elg, nI_1]
  cases hc : cg bk two oth x f t with
  | false =>
    have w0 : ∀ w, wnp n (cg bk two oth) (wn n (cg bk two oth)) x w k = false := fun w => by
      unfold wnp
      rw [d1, d2, hc, Bool.and_false, Bool.false_and]
    rw [if_pos (show b01 false = 0 from rfl), wvk_no (w0 0) (w0 1), if_neg (by decide), Nat.max_eq_left (Nat.zero_le _)]
  | true =>
    obtain ⟨f1, f2, f3⟩ := cg_facts hc
    have vq := (hG.2.1 _ _ _ hx hf ht hc).1
    have hq := hq hc
    have hq1 : mo (num (mvd x f t)) = nI (lng n (cg bk two oth) (mvd x f t)) := hq.1
    have hq2 : wi (num (mvd x f t)) = nI (wv n (cg bk two oth) (mvd x f t)) := hq.2
    have l1 := lng_le (n := n) (c := cg bk two oth) (o := mvd x f t)
    have l2 := lgs_le (n := n) (c := cg bk two oth) (o := x) k
    obtain ⟨w, hw, ek⟩ : ∃ w, w < 2 ∧ kd x f = w + 1 := by
      rcases kd_12 h3 hf f1 with e | e
      · exact ⟨0, by omega, e⟩
      · exact ⟨1, by omega, e⟩
    have wp : ∀ v, wnp n (cg bk two oth) (wn n (cg bk two oth)) x v k = (decide (w = v) && !(wn n (cg bk two oth) (mvd x f t) (1 - w))) := fun v => by
      unfold wnp
      rw [d1, d2, hc, ek, Bool.and_true]
      by_cases e : w = v
      · subst e
        rw [beq_self_eq_true, decide_eq_true rfl]
      · rw [decide_eq_false e, beq_eq_false_iff_ne.mpr (show w + 1 ≠ v + 1 by omega), Bool.false_and, Bool.false_and]
    rw [if_neg (show ¬ b01 true = 0 by decide), afterMove_nI hx9 (by omega) (by omega), mosts_nI hN vq (h16 _ vq), Option.bind_some, hq1, ek, other_nI hw, wins_nI hN vq (h16 _ vq) (show 1 - w < 2 by omega) hq2, Option.bind_some, nI_1, i_max_nI (by omega) (by omega), if_pos rfl]
    generalize max (lgs n (cg bk two oth) x k) (lng n (cg bk two oth) (mvd x f t) + 1) = M
    cases hv : wn n (cg bk two oth) (mvd x f t) (1 - w) with
    | true =>
      have w0 : ∀ v, wnp n (cg bk two oth) (wn n (cg bk two oth)) x v k = false := fun v => by rw [wp, hv, Bool.not_true, Bool.and_false]
      rw [if_neg (show ¬ b01 true = 0 by decide), wvk_no (w0 0) (w0 1)]
    | false =>
      have w1 : ∀ v, wnp n (cg bk two oth) (wn n (cg bk two oth)) x v k = decide (w = v) := fun v => by rw [wp, hv, Bool.not_false, Bool.and_true]
      rw [if_pos (show b01 false = 0 from rfl), fa_or]
      rcases (show w = 0 ∨ w = 1 by omega) with e | e
      · subst e
        rw [wvk_0 (w1 0) (w1 1)]
      · subst e
        rw [wvk_1 (w1 0) (w1 1)]
set_option maxHeartbeats 400000 in
theorem settle_38 (hp : PB n bk) (hG : HG n (cg bk two oth) (VO n o)) (hN : NB (VO n o) num lb ls hn al) (h16 : ∀ q, VO n o q → num q < 1680) (hn0 : 0 < n) {x : Nat} (hx : VO n o x) (h3 : ct 3 x n = 0)
    (hE : ∀ j, j < n * n → cg bk two oth x (j / n) (j % n) = true → SO1 n (cg bk two oth) num mo wi (mvd x (j / n) (j % n))) {f : Nat} (hf : f < n) (hz : 20 < z) :
    lp (fun sg => fX2_settle_L38 z (nI x) sg.1 sg.2.1 (nI f) (nI (kd x f)) sg.2.2 (tf T (mk bk two oth x n)) (nI n) xl bh io lb ls hn al mo wi) z (nI (lgs n (cg bk two oth) x (f * n)), nI (wvk n (cg bk two oth) x (f * n)), 0) = some (nI (lgs n (cg bk two oth) x (f * n + n)), nI (wvk n (cg bk two oth) x (f * n + n))) := by
  have h9 := hp.1
  have hfn := fn_le hf
  refine lp_0 (fun t => (nI (lgs n (cg bk two oth) x (f * n + t)), nI (wvk n (cg bk two oth) x (f * n + t)), nI t)) (N := n) (by rw [Nat.add_zero]; rfl) (fun t ht => ?_) ?_ (by omega)
  · obtain ⟨d1, d2⟩ := dm (f := f) ht
    have hq : cg bk two oth x f t = true → SO1 n (cg bk two oth) num mo wi (mvd x f t) := fun hc => by
      have := hE (f * n + t) (by omega) (by rw [d1, d2]; exact hc)
      rw [d1, d2] at this
      exact this
    rw [← Nat.add_assoc]
    exact settle_st hp hG hN h16 hx h3 hf ht d1 d2 hq
  · generalize nI (lgs n (cg bk two oth) x (f * n + n)) = p1
    generalize nI (wvk n (cg bk two oth) x (f * n + n)) = p2
    show fX2_settle_L38 z (nI x) p1 p2 (nI f) (nI (kd x f)) (nI n) (tf T (mk bk two oth x n)) (nI n) xl bh io lb ls hn al mo wi = _
    unfold fX2_settle_L38
    rw [if_pos (nI_le (Nat.le_refl _) (by omega))]
theorem wv_wvk (h : ED n bk) {x : Nat} (h3 : ct 3 x n = 0) : wvk n (cg bk two oth) x (n * n) = wv n (cg bk two oth) x := by
  have e : wv n (cg bk two oth) x = wb (wn n (cg bk two oth) x 0) (wn n (cg bk two oth) x 1) := rfl
  rw [e, wn_eq h h3 0, wn_eq h h3 1]
  rfl
set_option maxHeartbeats 400000 in
theorem settle_nI (h : ED n bk) (hp : PB n bk) (hb : BH n bk bh) (hG : HG n (cg bk two oth) (VO n o)) (hN : NB (VO n o) num lb ls hn al) (h16 : ∀ q, VO n o q → num q < 1680) (hn0 : 0 < n) {x : Nat} (hx : VO n o x) (h3 : ct 3 x n = 0)
    (hE : ∀ j, j < n * n → cg bk two oth x (j / n) (j % n) = true → SO1 n (cg bk two oth) num mo wi (mvd x (j / n) (j % n))) (hz : 20 < z) :
    fX2_settle z (nI x) T (nI n) (nI (lpN two)) bh (b01 oth) lb ls hn al mo wi = some (tf T (mk bk two oth x n), upd mo (num x) (nI (lng n (cg bk two oth) x)), upd wi (num x) (nI (wv n (cg bk two oth) x))) := by
  have h9 := hp.1
  have hx9 := hG.1 _ hx
  have hx31 : x < 2 ^ 31 := Nat.lt_of_lt_of_le hx9 (by decide)
  unfold fX2_settle
  rw [find_nI hp hb hx9 (by omega), Option.bind_some]
  rw [lp_b (fun f => (nI (lgs n (cg bk two oth) x (f * n)), nI (wvk n (cg bk two oth) x (f * n)), nI f)) n (nI (lgs n (cg bk two oth) x (n * n)), nI (wvk n (cg bk two oth) x (n * n))) (s0 := (0, 0, 0)) (by rw [Nat.zero_mul]; rfl) (fun f hf => ?_) ?_ (by omega)]
  · unfold fX2_settle_J118
    rw [hN.2.2 z x hx, Option.bind_some, hasPlace_nI (h16 _ hx), if_neg (show ¬ (1 : Int32) = 0 by decide), agd_in (h16 _ hx) (by decide), agd_in (h16 _ hx) (by decide), cl_nI (show num x < 2 ^ 31 by have := h16 _ hx; omega), wv_wvk h h3, lng_eq h h3]
  · show fX2_settle_L15 z (nI x) (nI (lgs n (cg bk two oth) x (n * n))) (nI (wvk n (cg bk two oth) x (n * n))) (nI n) (tf T (mk bk two oth x n)) (nI n) (nI (lpN two)) bh (b01 oth) lb ls hn al mo wi = _
    unfold fX2_settle_L15
    rw [if_pos (nI_le (Nat.le_refl _) (by omega))]
  · show fX2_settle_L15 z (nI x) (nI (lgs n (cg bk two oth) x (f * n))) (nI (wvk n (cg bk two oth) x (f * n))) (nI f) (tf T (mk bk two oth x n)) (nI n) (nI (lpN two)) bh (b01 oth) lb ls hn al mo wi = some (.inl (nI (lgs n (cg bk two oth) x ((f + 1) * n)), nI (wvk n (cg bk two oth) x ((f + 1) * n)), nI (f + 1)))
    unfold fX2_settle_L15
    rw [if_neg (nI_ge hf (by omega)), kindAt_nI hx31 (by omega), settle_38 hp hG hN h16 hn0 hx h3 hE hf hz, Option.bind_some, Nat.add_mul, Nat.one_mul]
    unfold fX2_settle_J112
    show some (Sum.inl (_, _, nI f + 1)) = _
    rw [nI_1]
end ST1
