/-! ===== the row's laws: where moves lead, nearer ones come first, the least first moves ===== -/
def mvk (n j : Nat) : Nat := 16 * (j / n) + j % n
def fE (n : Nat) (S : BS) (x j : Nat) : Int32 := if S.2.1 x = 0 then nI (mvk n j) else S.2.2.2 x
def FI (n : Nat) (c : Nat → Nat → Nat → Bool) (o0 : Nat) (S : BS) (p k : Nat) : Prop :=
  p < S.1.length ∧ S.1.getD 0 0 = o0 ∧ S.2.1 o0 = 0 ∧ S.2.2.2 o0 = -1 ∧
  (∀ i j, i ≤ j → j < S.1.length → S.2.1 (S.1.getD i 0) ≤ S.2.1 (S.1.getD j 0)) ∧
  (∀ j, j < S.1.length → S.2.1 (S.1.getD j 0) ≤ S.2.1 (S.1.getD p 0) + 1) ∧
  (∀ i j, (i < p ∨ i = p ∧ j < k) → j < n * n → c (S.1.getD i 0) (j / n) (j % n) = true → mvd (S.1.getD i 0) (j / n) (j % n) ∈ S.1 ∧ (S.2.1 (mvd (S.1.getD i 0) (j / n) (j % n)) = S.2.1 (S.1.getD i 0) + 1 → S.2.2.2 (mvd (S.1.getD i 0) (j / n) (j % n)) ≤ fE n S (S.1.getD i 0) j)) ∧
  (∀ q ∈ S.1, q ≠ o0 → ∃ i j, (i < p ∨ i = p ∧ j < k) ∧ j < n * n ∧ c (S.1.getD i 0) (j / n) (j % n) = true ∧ mvd (S.1.getD i 0) (j / n) (j % n) = q ∧ S.2.1 q = S.2.1 (S.1.getD i 0) + 1 ∧ S.2.2.2 q = fE n S (S.1.getD i 0) j)
theorem i_min_self (x : Int32) : i_min x x = x := by
  unfold i_min
  rw [if_neg Int32.lt_irrefl]
theorem i_min_or (x y : Int32) : i_min x y = x ∨ i_min x y = y := by
  unfold i_min
  split
  · exact Or.inr rfl
  · exact Or.inl rfl
theorem i_min_l (x y : Int32) : i_min x y ≤ x := by
  unfold i_min
  split
  · rename_i h
    exact Int32.le_of_lt h
  · exact Int32.le_refl x
theorem i_min_r (x y : Int32) : i_min x y ≤ y := by
  unfold i_min
  split
  · exact Int32.le_refl y
  · rename_i h
    exact fa_of_nlt h
theorem cm_far (S : BS) (o : Nat) (mv : Int32) (q x : Nat) : (cm S o mv q).2.1 x = if x = q ∧ q ∉ S.1 then S.2.1 o + 1 else S.2.1 x := by
  unfold cm
  rw [cm2_far]
  unfold cm1
  by_cases h : q ∈ S.1
  · rw [if_pos h, if_neg (fun e => e.2 h)]
  · rw [if_neg h]
    show va_up S.2.1 q (S.2.1 o + 1) x = _
    unfold va_up
    by_cases e : x = q
    · rw [if_pos e, if_pos ⟨e, h⟩]
    · rw [if_neg e, if_neg (fun h => e h.1)]
theorem cm_fst (S : BS) (o : Nat) (mv : Int32) (q x : Nat) (hqo : q ≠ o) : (cm S o mv q).2.2.2 x = if x = q then (if q ∈ S.1 then (if S.2.1 q = S.2.1 o + 1 then i_min (S.2.2.2 q) (cmF S o mv) else S.2.2.2 q) else cmF S o mv) else S.2.2.2 x := by
  unfold cm
  by_cases h : q ∈ S.1
  · have e1 : cm1 S o mv q = S := if_pos h
    rw [e1, if_pos h]
    unfold cm2
    by_cases g : S.2.1 q = S.2.1 o + 1
    · rw [if_pos g, if_pos g]
      show va_up S.2.2.2 q _ x = _
      unfold va_up
      rfl
    · rw [if_neg g, if_neg g]
      by_cases e : x = q
      · rw [if_pos e, e]
      · rw [if_neg e]
  · have e1 : cm1 S o mv q = (S.1 ++ [q], va_up S.2.1 q (S.2.1 o + 1), va_up S.2.2.1 q 0, va_up S.2.2.2 q (cmF S o mv)) := if_neg h
    rw [e1, if_neg h]
    have g : va_up S.2.1 q (S.2.1 o + 1) q = va_up S.2.1 q (S.2.1 o + 1) o + 1 := by
      unfold va_up
      rw [if_pos rfl, if_neg (fun e => hqo e.symm)]
    unfold cm2
    rw [if_pos g]
    show va_up (va_up S.2.2.2 q (cmF S o mv)) q (i_min (va_up S.2.2.2 q (cmF S o mv) q) (cmF S o mv)) x = _
    unfold va_up
    by_cases e : x = q
    · rw [if_pos e, if_pos e, if_pos rfl, i_min_self]
    · rw [if_neg e, if_neg e]
section FQ
variable {n : Nat} {c : Nat → Nat → Nat → Bool} {V : Nat → Prop} {o0 : Nat}
theorem FI_no {S : BS} {p k : Nat} (h : FI n c o0 S p k) (hc : c (S.1.getD p 0) (k / n) (k % n) = false) : FI n c o0 S p (k + 1) := by
  obtain ⟨h1, h2, h3, h4, h5, h6, h7, h8⟩ := h
  refine ⟨h1, h2, h3, h4, h5, h6, fun i j hij hj hcj => ?_, fun q hq hq0 => ?_⟩
  · refine h7 i j ?_ hj hcj
    rcases hij with a | ⟨a, b⟩
    · exact Or.inl a
    · refine Or.inr ⟨a, ?_⟩
      rcases Nat.lt_or_ge j k with g | g
      · exact g
      · have e : j = k := by omega
        subst e
        subst a
        rw [hc] at hcj
        cases hcj
  · obtain ⟨i, j, a, b⟩ := h8 q hq hq0
    refine ⟨i, j, ?_, b⟩
    rcases a with a | ⟨a, a'⟩
    · exact Or.inl a
    · exact Or.inr ⟨a, by omega⟩
theorem FI_yes {S : BS} {p k : Nat} (h : FI n c o0 S p k) (hk : k < n * n) (hc : c (S.1.getD p 0) (k / n) (k % n) = true) (hne : mvd (S.1.getD p 0) (k / n) (k % n) ≠ S.1.getD p 0) :
    FI n c o0 (cm S (S.1.getD p 0) (nI (mvk n k)) (mvd (S.1.getD p 0) (k / n) (k % n))) p (k + 1) := by
  obtain ⟨h1, h2, h3, h4, h5, h6, h7, h8⟩ := h
  have hop : S.1.getD p 0 ∈ S.1 := getD_mem h1
  generalize ho : S.1.getD p 0 = o at *
  generalize hq : mvd o (k / n) (k % n) = q at *
  generalize hmv : nI (mvk n k) = mv at *
  have hg : ∀ i, i < S.1.length → (cm S o mv q).1.getD i 0 = S.1.getD i 0 := fun i hi => cm_getD hi
  have hlen : S.1.length ≤ (cm S o mv q).1.length := cm_len
  have hfar : ∀ x, x ∈ S.1 → (cm S o mv q).2.1 x = S.2.1 x := fun x hx => by
    rw [cm_far, if_neg (fun e => e.2 (e.1 ▸ hx))]
  have hfst : ∀ i, i ≤ p → (cm S o mv q).2.2.2 (S.1.getD i 0) = S.2.2.2 (S.1.getD i 0) := fun i hi => by
    rw [cm_fst S o mv q _ hne]
    by_cases e : S.1.getD i 0 = q
    · have hin : q ∈ S.1 := e ▸ getD_mem (by omega)
      have := h5 i p hi h1
      rw [ho, e] at this
      rw [if_pos e, if_pos hin, if_neg (by omega), e]
    · rw [if_neg e]
  have hfE : ∀ i j, i ≤ p → fE n (cm S o mv q) (S.1.getD i 0) j = fE n S (S.1.getD i 0) j := fun i j hi => by
    unfold fE
    rw [hfst i hi, hfar _ (getD_mem (by omega))]
  have hcF : cmF S o mv = fE n S o k := by
    unfold cmF fE
    rw [hmv]
  have hfle : ∀ x, x ∈ S.1 → (cm S o mv q).2.2.2 x ≤ S.2.2.2 x := fun x hx => by
    rw [cm_fst S o mv q _ hne]
    by_cases e : x = q
    · rw [if_pos e, if_pos (e ▸ hx), e]
      split
      · exact i_min_l _ _
      · exact Int32.le_refl _
    · rw [if_neg e]
      exact Int32.le_refl _
  have hqin : q ∈ (cm S o mv q).1 := by
    rw [cm_row]
    split
    · assumption
    · simp
  have hcase : ∀ j, j < (cm S o mv q).1.length → (j < S.1.length ∧ (cm S o mv q).1.getD j 0 = S.1.getD j 0) ∨ (q ∉ S.1 ∧ j = S.1.length ∧ (cm S o mv q).1.getD j 0 = q) := fun j hj => by
    by_cases e : j < S.1.length
    · exact Or.inl ⟨e, hg j e⟩
    · by_cases hin : q ∈ S.1
      · rw [cm_row, if_pos hin] at hj
        exact absurd hj e
      · rw [cm_row, if_neg hin, List.length_append] at hj
        have hj : j < S.1.length + 1 := hj
        have ej : j = S.1.length := by omega
        refine Or.inr ⟨hin, ej, ?_⟩
        rw [cm_row, if_neg hin, ej, List.getD_eq_getElem?_getD, List.getElem?_append_right (Nat.le_refl _)]
        simp
  have hfq : q ∉ S.1 → (cm S o mv q).2.1 q = S.2.1 o + 1 := fun hin => by
    rw [cm_far, if_pos ⟨rfl, hin⟩]
  have h0in : o0 ∈ S.1 := h2 ▸ getD_mem (by omega)
  have hgp : (cm S o mv q).1.getD p 0 = o := by rw [hg p h1, ho]
  refine ⟨by omega, by rw [hg 0 (by omega)]; exact h2, by rw [hfar _ h0in]; exact h3, ?_, fun i j hij hj => ?_, fun j hj => ?_, fun i j hij hj hcj => ?_, fun x hx hx0 => ?_⟩
  · have := hfst 0 (Nat.zero_le _)
    rw [h2] at this
    rw [this]; exact h4
  · rcases hcase j hj with ⟨a, b⟩ | ⟨a, b, d⟩
    · rw [b, hg i (by omega), hfar _ (getD_mem a), hfar _ (getD_mem (by omega))]
      exact h5 i j hij a
    · rw [d, hfq a]
      rcases hcase i (by omega) with ⟨a2, b2⟩ | ⟨a2, b2, d2⟩
      · rw [b2, hfar _ (getD_mem a2)]
        exact h6 i a2
      · rw [d2, hfq a]
        exact Nat.le_refl _
  · rw [hgp, hfar _ hop]
    rcases hcase j hj with ⟨a, b⟩ | ⟨a, b, d⟩
    · rw [b, hfar _ (getD_mem a)]
      exact h6 j a
    · rw [d, hfq a]
      exact Nat.le_refl _
  · have hip : i ≤ p := by omega
    rw [hg i (by omega)] at hcj ⊢
    rw [hfE i j hip, hfar _ (getD_mem (by omega : i < S.1.length))]
    by_cases e : i < p ∨ i = p ∧ j < k
    · obtain ⟨a, b⟩ := h7 i j e hj hcj
      refine ⟨cm_mem a, fun g => ?_⟩
      rw [hfar _ a] at g
      exact Int32.le_trans (hfle _ a) (b g)
    · have e1 : i = p := by omega
      have e2 : j = k := by omega
      subst e1
      subst e2
      rw [ho] at hcj ⊢
      rw [hq]
      refine ⟨hqin, fun g => ?_⟩
      rw [cm_fst S o mv q _ hne, if_pos rfl, ← hcF]
      by_cases hin : q ∈ S.1
      · rw [hfar _ hin] at g
        rw [if_pos hin, if_pos g]
        exact i_min_r _ _
      · rw [if_neg hin]
        exact Int32.le_refl _
  · have last : x = q → (cm S o mv q).2.1 q = S.2.1 o + 1 → (cm S o mv q).2.2.2 q = cmF S o mv → ∃ i j, (i < p ∨ i = p ∧ j < k + 1) ∧ j < n * n ∧ c ((cm S o mv q).1.getD i 0) (j / n) (j % n) = true ∧ mvd ((cm S o mv q).1.getD i 0) (j / n) (j % n) = x ∧ (cm S o mv q).2.1 x = (cm S o mv q).2.1 ((cm S o mv q).1.getD i 0) + 1 ∧ (cm S o mv q).2.2.2 x = fE n (cm S o mv q) ((cm S o mv q).1.getD i 0) j := fun e g1 g2 => by
      refine ⟨p, k, Or.inr ⟨rfl, by omega⟩, hk, ?_⟩
      have hE := hfE p k (Nat.le_refl _)
      rw [ho] at hE
      rw [hgp, hfar _ hop, e, hE, ← hcF]
      exact ⟨hc, hq, g1, g2⟩
    by_cases hin : x ∈ S.1
    · obtain ⟨i, j, a, b, d, e, f, g⟩ := h8 x hin hx0
      have hip : i ≤ p := by omega
      have same : (cm S o mv q).2.2.2 x = S.2.2.2 x → ∃ i j, (i < p ∨ i = p ∧ j < k + 1) ∧ j < n * n ∧ c ((cm S o mv q).1.getD i 0) (j / n) (j % n) = true ∧ mvd ((cm S o mv q).1.getD i 0) (j / n) (j % n) = x ∧ (cm S o mv q).2.1 x = (cm S o mv q).2.1 ((cm S o mv q).1.getD i 0) + 1 ∧ (cm S o mv q).2.2.2 x = fE n (cm S o mv q) ((cm S o mv q).1.getD i 0) j := fun w => by
        refine ⟨i, j, by omega, b, ?_⟩
        rw [hg i (by omega), hfar _ (getD_mem (by omega : i < S.1.length)), hfar _ hin, hfE i j hip, w]
        exact ⟨d, e, f, g⟩
      by_cases exq : x = q
      · have hin2 : q ∈ S.1 := exq ▸ hin
        have w := cm_fst S o mv q x hne
        rw [if_pos exq, if_pos hin2] at w
        by_cases u : S.2.1 q = S.2.1 o + 1
        · rw [if_pos u] at w
          rcases i_min_or (S.2.2.2 q) (cmF S o mv) with v | v
          · exact same (by rw [w, v, exq])
          · exact last exq (by rw [hfar _ hin2]; exact u) (by rw [exq] at w; rw [w, v])
        · rw [if_neg u] at w
          exact same (by rw [w, exq])
      · exact same (by rw [cm_fst S o mv q x hne, if_neg exq])
    · have exq : x = q := by
        rw [cm_row] at hx
        split at hx
        · exact absurd hx hin
        · rcases List.mem_append.mp hx with a | a
          · exact absurd a hin
          · simpa using a
      have hnq : q ∉ S.1 := exq ▸ hin
      exact last exq (hfq hnq) (by rw [cm_fst S o mv q q hne, if_pos rfl, if_neg hnq])
theorem FI_ks (hG : HG n c V) (hn : 0 < n) {S : BS} (hS : BI V S) {p : Nat} (h : FI n c o0 S p 0) : ∀ k, k ≤ n * n → FI n c o0 (ks n c S (S.1.getD p 0) k) p k
  | 0, _ => h
  | k + 1, hk => by
    have ih := FI_ks hG hn hS h k (by omega)
    have hp : p < S.1.length := h.1
    have hgd := ks_getD (n := n) (c := c) (o := S.1.getD p 0) hp k
    simp only [ks]
    by_cases hc : c (S.1.getD p 0) (k / n) (k % n) = true
    · rw [if_pos hc]
      have hv := hS.2.1 _ (getD_mem hp)
      have hne := (hG.2.1 _ _ _ hv (Nat.div_lt_of_lt_mul (by omega)) (Nat.mod_lt _ hn) hc).2
      have := FI_yes ih (by omega) (by rw [hgd]; exact hc) (by rw [hgd]; exact hne)
      rw [hgd] at this
      exact this
    · rw [if_neg hc]
      exact FI_no ih (by rw [hgd]; exact Bool.eq_false_iff.mpr hc)
theorem FI_next {S : BS} {p : Nat} (h : FI n c o0 S p (n * n)) (hp : p + 1 < S.1.length) : FI n c o0 S (p + 1) 0 := by
  obtain ⟨h1, h2, h3, h4, h5, h6, h7, h8⟩ := h
  refine ⟨hp, h2, h3, h4, h5, fun j hj => ?_, fun i j hij hj hcj => h7 i j (by omega) hj hcj, fun q hq hq0 => ?_⟩
  · have a := h6 j hj
    have b := h5 p (p + 1) (by omega) hp
    omega
  · obtain ⟨i, j, a, b, d⟩ := h8 q hq hq0
    exact ⟨i, j, by omega, b, d⟩
/-- the laws of the whole row -/
def BL (n : Nat) (c : Nat → Nat → Nat → Bool) (o0 : Nat) (S : BS) : Prop :=
  S.1.getD 0 0 = o0 ∧ S.2.1 o0 = 0 ∧ S.2.2.2 o0 = -1 ∧
  (∀ i j, i ≤ j → j < S.1.length → S.2.1 (S.1.getD i 0) ≤ S.2.1 (S.1.getD j 0)) ∧
  (∀ x ∈ S.1, ∀ j, j < n * n → c x (j / n) (j % n) = true → mvd x (j / n) (j % n) ∈ S.1 ∧ (S.2.1 (mvd x (j / n) (j % n)) = S.2.1 x + 1 → S.2.2.2 (mvd x (j / n) (j % n)) ≤ fE n S x j)) ∧
  (∀ q ∈ S.1, q ≠ o0 → ∃ x j, x ∈ S.1 ∧ j < n * n ∧ c x (j / n) (j % n) = true ∧ mvd x (j / n) (j % n) = q ∧ S.2.1 q = S.2.1 x + 1 ∧ S.2.2.2 q = fE n S x j)
theorem bf_BL (hG : HG n c V) (hn : 0 < n) (h0 : V o0) : BL n c o0 (bf n c o0) := by
  obtain ⟨N, n1, n2, n3, n4⟩ := ps_end hG hn h0
  have step : ∀ p, p < N → FI n c o0 (ps n c o0 p) p 0 := by
    intro p
    induction p with
    | zero =>
      intro _
      refine ⟨Nat.zero_lt_one, rfl, rfl, rfl, fun i j hij hj => ?_, fun j hj => ?_, fun i j hij => by omega, fun q hq hq0 => ?_⟩
      · exact Nat.le_refl 0
      · exact Nat.zero_le _
      · exact absurd (by simpa [ps, bs0] using hq) hq0
    | succ p ih =>
      intro hp
      have a := ih (by omega)
      have b := FI_ks hG hn (ps_BI hG hn h0 p) a (n * n) (Nat.le_refl _)
      have e : ps n c o0 (p + 1) = ks n c (ps n c o0 p) ((ps n c o0 p).1.getD p 0) (n * n) := by
        simp only [ps]
        rw [if_pos (n2 p (by omega))]
      rw [e]
      refine FI_next b ?_
      rw [← e]
      exact n2 (p + 1) hp
  have hN : 0 < N := by
    cases N with
    | zero => exact absurd (show (1 : Nat) = 0 from n3) (by decide)
    | succ M => omega
  obtain ⟨M, rfl⟩ : ∃ M, N = M + 1 := ⟨N - 1, by omega⟩
  have b := FI_ks hG hn (ps_BI hG hn h0 M) (step M (by omega)) (n * n) (Nat.le_refl _)
  have e : ps n c o0 (M + 1) = ks n c (ps n c o0 M) ((ps n c o0 M).1.getD M 0) (n * n) := by
    simp only [ps]
    rw [if_pos (n2 M (by omega))]
  rw [← e, n4] at b
  rw [n4] at n3
  obtain ⟨h1, h2, h3, h4, h5, h6, h7, h8⟩ := b
  refine ⟨h2, h3, h4, h5, fun x hx j hj hcj => ?_, fun q hq hq0 => ?_⟩
  · obtain ⟨i, hi, rfl⟩ := mem_getD hx
    exact h7 i j (by omega) hj hcj
  · obtain ⟨i, j, a, b, d⟩ := h8 q hq hq0
    exact ⟨_, j, getD_mem (by omega : i < (bf n c o0).1.length), b, d⟩
theorem BL_zero {S : BS} (h : BL n c o0 S) {x : Nat} (hx : x ∈ S.1) (hf : S.2.1 x = 0) : x = o0 := by
  by_cases e : x = o0
  · exact e
  · obtain ⟨y, j, -, -, -, -, a, -⟩ := h.2.2.2.2.2 x hx e
    omega
/-! ===== on a shortest way ===== -/
def up (n : Nat) (c : Nat → Nat → Nat → Bool) (far : Nat → Nat) : Nat → Nat → Nat → Prop
  | 0, x, a => x = a
  | d + 1, x, a => ∃ j, j < n * n ∧ c x (j / n) (j % n) = true ∧ far (mvd x (j / n) (j % n)) = far x + 1 ∧ up n c far d (mvd x (j / n) (j % n)) a
theorem up_far {far : Nat → Nat} : ∀ d x a, up n c far d x a → far a = far x + d
  | 0, x, a, h => by rw [show x = a from h]; rfl
  | d + 1, x, a, h => by
    obtain ⟨j, -, -, h1, h2⟩ := h
    have := up_far d _ a h2
    omega
theorem up_snoc {far : Nat → Nat} {y j : Nat} (hj : j < n * n) (hc : c y (j / n) (j % n) = true) (hf : far (mvd y (j / n) (j % n)) = far y + 1) : ∀ d x, up n c far d x y → up n c far (d + 1) x (mvd y (j / n) (j % n))
  | 0, x, h => by
    have h : x = y := h
    subst h
    exact ⟨j, hj, hc, hf, rfl⟩
  | d + 1, x, h => by
    obtain ⟨i, h1, h2, h3, h4⟩ := h
    exact ⟨i, h1, h2, h3, up_snoc hj hc hf d _ h4⟩
theorem up_fst {S : BS} (h : BL n c o0 S) : ∀ d x a, x ∈ S.1 → 0 < S.2.1 x → up n c S.2.1 d x a → S.2.2.2 a ≤ S.2.2.2 x
  | 0, x, a, _, _, hu => by
    rw [show x = a from hu]
    exact Int32.le_refl _
  | d + 1, x, a, hx, hf, hu => by
    obtain ⟨j, h1, h2, h3, h4⟩ := hu
    obtain ⟨g1, g2⟩ := h.2.2.2.2.1 x hx j h1 h2
    have g3 := g2 h3
    unfold fE at g3
    rw [if_neg (by omega)] at g3
    exact Int32.le_trans (up_fst h d _ a g1 (by omega) h4) g3
noncomputable def upB (n : Nat) (c : Nat → Nat → Nat → Bool) (far : Nat → Nat) (x a : Nat) : Bool := @decide (∃ d, up n c far d x a) (Classical.propDecidable _)
theorem upB_iff {far : Nat → Nat} {x a : Nat} : upB n c far x a = true ↔ ∃ d, up n c far d x a := by
  unfold upB
  exact @decide_eq_true_iff _ (Classical.propDecidable _)
noncomputable def byp (n : Nat) (c : Nat → Nat → Nat → Bool) (far : Nat → Nat) (o0 a k : Nat) : Bool := c o0 (k / n) (k % n) && (far (mvd o0 (k / n) (k % n)) == 1) && upB n c far (mvd o0 (k / n) (k % n)) a
noncomputable def byJ (n : Nat) (c : Nat → Nat → Nat → Bool) (far : Nat → Nat) (o0 a : Nat) : Nat := fa_first (byp n c far o0 a) (n * n)
theorem by_ex {S : BS} (h : BL n c o0 S) : ∀ m a, S.2.1 a ≤ m → a ∈ S.1 → a ≠ o0 → ∃ k, k < n * n ∧ byp n c S.2.1 o0 a k = true ∧ S.2.2.2 a = nI (mvk n k)
  | 0, a, hm, ha, h0 => absurd (BL_zero h ha (by omega)) h0
  | m + 1, a, hm, ha, h0 => by
    obtain ⟨x, j, h1, h2, h3, h4, h5, h6⟩ := h.2.2.2.2.2 a ha h0
    by_cases e : x = o0
    · subst e
      refine ⟨j, h2, ?_, ?_⟩
      · unfold byp
        rw [h3, h4, h5, h.2.1, upB_iff.mpr ⟨0, rfl⟩]
        rfl
      · rw [h6]
        unfold fE
        rw [if_pos h.2.1]
    · obtain ⟨k, k1, k2, k3⟩ := by_ex h m x (by omega) h1 e
      refine ⟨k, k1, ?_, ?_⟩
      · unfold byp at k2 ⊢
        simp only [Bool.and_eq_true] at k2 ⊢
        obtain ⟨d, hd⟩ := upB_iff.mp k2.2
        refine ⟨k2.1, upB_iff.mpr ⟨d + 1, ?_⟩⟩
        have := up_snoc h2 h3 (by rw [h4]; exact h5) d _ hd
        rw [h4] at this
        exact this
      · rw [h6]
        unfold fE
        rw [if_neg (fun z => e (BL_zero h h1 z)), k3]
theorem mvk_lt {j k : Nat} (hn : n ≤ 9) (hn0 : 0 < n) (h : j < k) : mvk n j < mvk n k := by
  unfold mvk
  have a := Nat.mod_lt j hn0
  have b := Nat.mod_lt k hn0
  have d := Nat.div_le_div_right (c := n) (Nat.le_of_lt h)
  rcases Nat.eq_or_lt_of_le d with g | g
  · have e1 := Nat.div_add_mod j n
    have e2 := Nat.div_add_mod k n
    rw [g] at e1
    rw [g]
    omega
  · omega
theorem mvk_le {k : Nat} (hn : n ≤ 9) (hk : k < n * n) : mvk n k ≤ 152 := by
  have hn0 : 0 < n := by
    rcases Nat.eq_zero_or_pos n with e | e
    · subst e; omega
    · exact e
  have a := Nat.mod_lt k hn0
  have b : k / n < n := Nat.div_lt_of_lt_mul hk
  unfold mvk
  omega
theorem byJ_fst {S : BS} (h : BL n c o0 S) (hn : n ≤ 9) (hn0 : 0 < n) {a : Nat} (ha : a ∈ S.1) (h0 : a ≠ o0) (h0in : o0 ∈ S.1) : byJ n c S.2.1 o0 a < n * n ∧ S.2.2.2 a = nI (mvk n (byJ n c S.2.1 o0 a)) := by
  obtain ⟨k, k1, k2, k3⟩ := by_ex h _ a (Nat.le_refl _) ha h0
  have hle : byJ n c S.2.1 o0 a ≤ k := by
    rcases Nat.lt_or_ge k (byJ n c S.2.1 o0 a) with g | g
    · have := fa_first_no _ _ _ g
      rw [this] at k2
      cases k2
    · exact g
  have hlt : byJ n c S.2.1 o0 a < n * n := by omega
  refine ⟨hlt, ?_⟩
  have hy := fa_first_yes _ _ hlt
  have hy : byp n c S.2.1 o0 a (byJ n c S.2.1 o0 a) = true := hy
  generalize byJ n c S.2.1 o0 a = K at *
  unfold byp at hy
  simp only [Bool.and_eq_true, beq_iff_eq] at hy
  obtain ⟨⟨y1, y2⟩, y3⟩ := hy
  obtain ⟨d, hd⟩ := upB_iff.mp y3
  obtain ⟨g1, g2⟩ := h.2.2.2.2.1 o0 h0in K hlt y1
  have g3 := g2 (by rw [y2, h.2.1])
  unfold fE at g3
  rw [if_pos h.2.1] at g3
  have g4 := Int32.le_trans (up_fst h d _ a g1 (by omega) hd) g3
  rw [k3] at g4
  have b1 := mvk_le hn k1
  have b2 := mvk_le hn hlt
  have g5 := (nI_leI (by omega) (by omega)).mp g4
  have : K = k := by
    rcases Nat.eq_or_lt_of_le hle with e | e
    · exact e
    · have := mvk_lt hn hn0 e
      omega
  rw [k3, this]
end FQ
