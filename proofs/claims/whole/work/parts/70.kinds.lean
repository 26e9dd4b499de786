/-! ===== least ones of classes, counted ===== -/
theorem fb_sm_ct (p : Nat → Bool) : ∀ N, fb_sm (fun i => if p i then 1 else 0) N = fb_ct p N
  | 0 => rfl
  | N + 1 => by rw [fb_sm_succ, fb_ct_succ, fb_sm_ct p N]
theorem fb_sm_swap (p : Nat → Nat → Bool) (M : Nat) : ∀ N, fb_sm (fun i => fb_ct (p i) N) M = fb_sm (fun j => fb_ct (fun i => p i j) M) N
  | 0 => by
    have : fb_sm (fun i => fb_ct (p i) 0) M = fb_sm (fun _ => 0) M := fb_sm_cong (fun _ _ => rfl)
    rw [this, fb_sm_const]
    rfl
  | N + 1 => by
    rw [fb_sm_succ, ← fb_sm_swap p M N]
    have : fb_sm (fun i => fb_ct (p i) (N + 1)) M = fb_sm (fun i => fb_ct (p i) N + (if p i N then 1 else 0)) M := fb_sm_cong (fun _ _ => rfl)
    rw [this, fb_sm_add, fb_sm_ct]
theorem fb_ct_one {p : Nat → Bool} {N i : Nat} (hi : i < N) (hp : p i = true) (hu : ∀ j, j < N → p j = true → j = i) : fb_ct p N = 1 := by
  have e : fb_ct p N = fb_ct (fun k => if k = i then true else (fun _ => false) k) N := fb_ct_cong (fun k hk => by
    by_cases c : k = i
    · rw [if_pos c, c, hp]
    · rw [if_neg c]
      cases h : p k with
      | false => rfl
      | true => exact absurd (hu k hk h) c)
  have h := fb_ct_upd (fun _ => false) true hi
  rw [e]
  rw [show fb_ct (fun _ => false) N = 0 from fb_ct_zero.mpr (fun _ _ => rfl)] at h
  simpa using h
def mnb (N : Nat) (E : Nat → Nat → Bool) (f : Nat → Nat) (i : Nat) : Bool := decide (∀ j, j < N → E i j = true → f i ≤ f j)
section CM
variable {N : Nat} {E : Nat → Nat → Bool}
theorem mnb_ex (hr : ∀ i, i < N → E i i = true) (ht : ∀ i j k, i < N → j < N → k < N → E i j = true → E j k = true → E i k = true) (f : Nat → Nat) : ∀ b i, f i ≤ b → i < N → ∃ j, j < N ∧ E i j = true ∧ mnb N E f j = true
  | 0, i, hb, hi => ⟨i, hi, hr i hi, decide_eq_true (fun j _ _ => by omega)⟩
  | b + 1, i, hb, hi => by
    by_cases c : ∀ j, j < N → E i j = true → f i ≤ f j
    · exact ⟨i, hi, hr i hi, decide_eq_true c⟩
    · obtain ⟨j, hj⟩ := Classical.not_forall.mp c
      obtain ⟨h1, hj⟩ := Classical.not_imp.mp hj
      obtain ⟨h2, h3⟩ := Classical.not_imp.mp hj
      obtain ⟨k, k1, k2, k3⟩ := mnb_ex hr ht f b j (by omega) h1
      exact ⟨k, k1, ht i j k hi h1 k1 h2 k2, k3⟩
theorem mnb_one (hr : ∀ i, i < N → E i i = true) (hs : ∀ i j, i < N → j < N → E i j = true → E j i = true) (ht : ∀ i j k, i < N → j < N → k < N → E i j = true → E j k = true → E i k = true) (f : Nat → Nat) (hf : ∀ i j, i < N → j < N → f i = f j → i = j) {i : Nat} (hi : i < N) : fb_ct (fun j => mnb N E f j && E i j) N = 1 := by
  obtain ⟨j, j1, j2, j3⟩ := mnb_ex hr ht f (f i) i (Nat.le_refl _) hi
  refine fb_ct_one j1 (by rw [j2, j3]; rfl) (fun k hk h => ?_)
  simp only [Bool.and_eq_true] at h
  have a1 := (of_decide_eq_true h.1) j j1 (ht k i j hk hi j1 (hs i k hi hk h.2) j2)
  have a2 := (of_decide_eq_true j3) k hk (ht j i k j1 hi hk (hs i j hi j1 j2) h.2)
  exact hf k j hk j1 (by omega)
theorem mnb_count (hr : ∀ i, i < N → E i i = true) (hs : ∀ i j, i < N → j < N → E i j = true → E j i = true) (ht : ∀ i j k, i < N → j < N → k < N → E i j = true → E j k = true → E i k = true) {f g : Nat → Nat} (hf : ∀ i j, i < N → j < N → f i = f j → i = j) (hg : ∀ i j, i < N → j < N → g i = g j → i = j) : fb_ct (mnb N E f) N = fb_ct (mnb N E g) N := by
  have e1 : fb_ct (mnb N E f) N = fb_sm (fun i => fb_ct (fun j => mnb N E f i && (mnb N E g j && E i j)) N) N := by
    rw [← fb_sm_ct]
    refine fb_sm_cong (fun i hi => ?_)
    cases h : mnb N E f i with
    | false => rw [if_neg (by decide)]; exact (fb_ct_zero.mpr (fun _ _ => rfl)).symm
    | true => rw [if_pos rfl]; exact (mnb_one hr hs ht g hg hi).symm
  rw [e1, fb_sm_swap, ← fb_sm_ct]
  refine fb_sm_cong (fun j hj => ?_)
  cases h : mnb N E g j with
  | false => rw [if_neg (by decide)]; exact fb_ct_zero.mpr (fun _ _ => by simp)
  | true =>
    rw [if_pos rfl, ← mnb_one hr hs ht f hf hj]
    refine fb_ct_cong (fun i hi => ?_)
    have : E i j = E j i := by
      cases h1 : E i j with
      | true => rw [hs i j hi hj h1]
      | false =>
        cases h2 : E j i with
        | true => rw [hs j i hj hi h2] at h1; exact absurd h1 (by decide)
        | false => rfl
    rw [this]
    simp
end CM
/-! ===== kinds ===== -/
/-- of its turns just it, or those behind it -/
def lsB (n : Nat) (L : List Nat) (x : Nat) : Bool := fa_first (fun k => decide (tn n x (k + 1) < x) && decide (tn n x (k + 1) ∈ L)) (n - 1) == n - 1
def flB (n : Nat) (L : List Nat) (p : Nat) : Nat → Bool
  | 0 => true
  | j + 1 => flB n L p j && !(decide (∃ p', p' < p ∧ L.getD p' 0 = tn n (L.getD p 0) (j + 1)))
def EB (n : Nat) (L : List Nat) (i j : Nat) : Bool := decide (∃ k, k < n ∧ tn n (L.getD i 0) k = L.getD j 0)
section KI
variable {n o : Nat} {L : List Nat}
theorem flB_iff {p : Nat} : ∀ j, flB n L p j = true ↔ ∀ k, k < j → ¬ ∃ p', p' < p ∧ L.getD p' 0 = tn n (L.getD p 0) (k + 1)
  | 0 => by simp [flB]
  | j + 1 => by
    simp only [flB, Bool.and_eq_true, flB_iff j, Bool.not_eq_true', decide_eq_false_iff_not]
    constructor
    · intro h k hk
      by_cases c : k = j
      · subst c; exact h.2
      · exact h.1 k (by omega)
    · exact fun h => ⟨fun k hk => h k (by omega), h j (by omega)⟩
theorem lsB_iff {x : Nat} : lsB n L x = true ↔ ∀ k, k < n - 1 → ¬ (tn n x (k + 1) < x ∧ tn n x (k + 1) ∈ L) := by
  unfold lsB
  rw [beq_iff_eq]
  constructor
  · intro h k hk a
    have := fa_first_no _ _ k (Nat.lt_of_lt_of_eq hk h.symm)
    simp [a.1, a.2] at this
  · intro h
    have hle := fa_first_le (fun k => decide (tn n x (k + 1) < x) && decide (tn n x (k + 1) ∈ L)) (n - 1)
    rcases Nat.lt_or_ge (fa_first (fun k => decide (tn n x (k + 1) < x) && decide (tn n x (k + 1) ∈ L)) (n - 1)) (n - 1) with q | q
    · have hy := fa_first_yes _ _ q
      simp only [Bool.and_eq_true, decide_eq_true_eq] at hy
      exact absurd hy (h _ q)
    · omega
theorem EB_count (hn0 : 0 < n) (hN : L.Nodup) (hL : ∀ x ∈ L, x < 4 ^ n) : fb_ct (fun i => lsB n L (L.getD i 0)) L.length = fb_ct (fun p => flB n L p (n - 1)) L.length := by
  have hlt : ∀ i, i < L.length → L.getD i 0 < 4 ^ n := fun i hi => hL _ (getD_mem hi)
  have hr : ∀ i, i < L.length → EB n L i i = true := fun i hi => decide_eq_true ⟨0, hn0, tn_0 (hlt i hi)⟩
  have hs : ∀ i j, i < L.length → j < L.length → EB n L i j = true → EB n L j i = true := by
    intro i j hi hj h
    obtain ⟨k, k1, k2⟩ := of_decide_eq_true h
    refine decide_eq_true ?_
    by_cases c : k = 0
    · subst c
      rw [tn_0 (hlt i hi)] at k2
      exact ⟨0, hn0, by rw [tn_0 (hlt j hj)]; exact k2.symm⟩
    · refine ⟨n - k, by omega, ?_⟩
      rw [← k2, tn_tn (hlt i hi) k1 (by omega), if_neg (by omega), show k + (n - k) - n = 0 by omega, tn_0 (hlt i hi)]
  have ht : ∀ i j k, i < L.length → j < L.length → k < L.length → EB n L i j = true → EB n L j k = true → EB n L i k = true := by
    intro i j k hi hj hk h1 h2
    obtain ⟨a, a1, a2⟩ := of_decide_eq_true h1
    obtain ⟨b, b1, b2⟩ := of_decide_eq_true h2
    refine decide_eq_true ⟨if a + b < n then a + b else a + b - n, by split <;> omega, ?_⟩
    rw [← tn_tn (hlt i hi) a1 b1, a2, b2]
  have hc := mnb_count (E := EB n L) hr hs ht (f := fun i => L.getD i 0) (g := fun i => i) (fun i j hi hj h => getD_inj hN hi hj h) (fun i j _ _ h => h)
  have e1 : fb_ct (fun i => lsB n L (L.getD i 0)) L.length = fb_ct (mnb L.length (EB n L) (fun i => L.getD i 0)) L.length := fb_ct_cong (fun i hi => by
    rw [Bool.eq_iff_iff, lsB_iff]
    unfold mnb
    rw [decide_eq_true_eq]
    constructor
    · intro h j hj he
      obtain ⟨k, k1, k2⟩ := of_decide_eq_true he
      by_cases c : k = 0
      · subst c
        rw [tn_0 (hlt i hi)] at k2
        exact Nat.le_of_eq k2
      · have := h (k - 1) (by omega)
        rw [show k - 1 + 1 = k by omega, k2] at this
        have hm := getD_mem hj
        rcases Nat.lt_or_ge (L.getD j 0) (L.getD i 0) with q | q
        · exact absurd ⟨q, hm⟩ this
        · exact q
    · intro h k hk a
      obtain ⟨j, j1, j2⟩ := mem_getD a.2
      have := h j j1 (decide_eq_true ⟨k + 1, by omega, j2.symm⟩)
      dsimp only at this
      rw [j2] at this
      omega)
  have e2 : fb_ct (fun p => flB n L p (n - 1)) L.length = fb_ct (mnb L.length (EB n L) (fun i => i)) L.length := fb_ct_cong (fun i hi => by
    rw [Bool.eq_iff_iff, flB_iff]
    unfold mnb
    rw [decide_eq_true_eq]
    constructor
    · intro h j hj he
      obtain ⟨k, k1, k2⟩ := of_decide_eq_true he
      by_cases c : k = 0
      · subst c
        rw [tn_0 (hlt i hi)] at k2
        exact Nat.le_of_eq (getD_inj hN hi hj k2)
      · have := h (k - 1) (by omega)
        rw [show k - 1 + 1 = k by omega, k2] at this
        rcases Nat.lt_or_ge j i with q | q
        · exact absurd ⟨j, q, rfl⟩ this
        · exact q
    · intro h k hk ⟨p', q1, q2⟩
      have := h p' (by omega) (decide_eq_true ⟨k + 1, by omega, q2.symm⟩)
      dsimp only at this
      omega)
  rw [e1, e2, hc]
end KI
section KX
variable {n : Nat} {bk : Nat → Nat} {bh par : Nat → Int32} {oth two : Bool} {o z : Nat} {ls hn st fs od : Nat → Int32} {rw : Nat → Int64} {lb al : Int32}
theorem isLeast_nI {num : Nat → Nat} {S : BS} {x : Nat} (hn9 : n ≤ 9) (hn0 : 0 < n) (hN : NB (VO n o) num lb ls hn al) (hB : BI (VO n o) S) (hl : S.1.length ≤ 7560) (hR : RC (VO n o) num S st fs od rw) (hx : x ∈ S.1) (hz : 30 < z) :
    fX8_isLeastOfItsTurns z (nI x) (nI n) lb ls hn al st = some (b01 (lsB n S.1 x)) := by
  have hV := hB.2.1 x hx
  have hx2 := o31 hn9 hV.1
  unfold fX8_isLeastOfItsTurns lsB
  have hle := fa_first_le (fun k => decide (tn n x (k + 1) < x) && decide (tn n x (k + 1) ∈ S.1)) (n - 1)
  have base : ∀ k, k < n - 1 → fX8_isLeastOfItsTurns_L2 z (nI x) (nI (k + 1)) (nI n) lb ls hn al st = if decide (tn n x (k + 1) < x) && decide (tn n x (k + 1) ∈ S.1) then some (.inr (.inr 0)) else some (.inl (nI (k + 1 + 1))) := by
    intro k hk
    have hVt : VO n o (tn n x (k + 1)) := ⟨tn_lt hV.1 (by omega), fun q => by rw [ct_tn hV.1 (by omega), hV.2 q]⟩
    have ht2 := o31 hn9 hVt.1
    unfold fX8_isLeastOfItsTurns_L2
    rw [if_neg (nI_ge (by omega) (by omega)), turned_nI hn9 hV.1 (by omega), nI_1]
    by_cases c : tn n x (k + 1) < x
    · rw [if_neg (nI_ge c hx2), stepsTo_nI hN hR hVt, Option.bind_some]
      unfold fwV
      by_cases c2 : tn n x (k + 1) ∈ S.1
      · have := hB.2.2 _ c2
        rw [if_pos c2, if_neg (nI_ne_m1 (by omega)), if_pos (by simp [c, c2])]
      · rw [if_neg c2, if_pos rfl, if_neg (by simp [c2])]
    · rw [if_pos (nI_le (by omega) ht2), if_neg (by simp [c])]
  by_cases c : fa_first (fun k => decide (tn n x (k + 1) < x) && decide (tn n x (k + 1) ∈ S.1)) (n - 1) < n - 1
  · have hy := fa_first_yes _ _ c
    rw [lp_0 (f := fun sg => fX8_isLeastOfItsTurns_L2 z (nI x) sg (nI n) lb ls hn al st) (z := z) (s0 := 1) (N := fa_first (fun k => decide (tn n x (k + 1) < x) && decide (tn n x (k + 1) ∈ S.1)) (n - 1)) (e := .inr 0) (fun k => nI (k + 1)) rfl (fun k hk => by
      have hno := fa_first_no _ _ k hk
      rw [base k (by omega), hno]
      rfl) (by
      rw [base _ c]
      rw [if_pos hy]) (by omega), beq_eq_false_iff_ne.mpr (by omega)]
    rfl
  · rw [lp_0 (f := fun sg => fX8_isLeastOfItsTurns_L2 z (nI x) sg (nI n) lb ls hn al st) (z := z) (s0 := 1) (N := n - 1) (e := .inl ()) (fun k => nI (k + 1)) rfl (fun k hk => by
      have hno := fa_first_no (fun k => decide (tn n x (k + 1) < x) && decide (tn n x (k + 1) ∈ S.1)) (n - 1) k (by omega)
      rw [base k (by omega), hno]
      rfl) (by
      show fX8_isLeastOfItsTurns_L2 z (nI x) (nI (n - 1 + 1)) (nI n) lb ls hn al st = _
      unfold fX8_isLeastOfItsTurns_L2
      rw [if_pos (nI_le (by omega) (by omega))]) (by omega), beq_iff_eq.mpr (show fa_first (fun k => decide (tn n x (k + 1) < x) && decide (tn n x (k + 1) ∈ S.1)) (n - 1) = n - 1 by omega)]
    rfl
theorem unlike_nI {num : Nat → Nat} {S : BS} (hn9 : n ≤ 9) (hn0 : 0 < n) (hN : NB (VO n o) num lb ls hn al) (hB : BI (VO n o) S) (hl : S.1.length ≤ 7560) (hR : RC (VO n o) num S st fs od rw) (hz : 8000 < z) :
    fX8_unlikeOrders z (nI S.1.length) od (nI n) lb ls hn al st = some (nI (fb_ct (fun i => lsB n S.1 (S.1.getD i 0)) S.1.length)) := by
  unfold fX8_unlikeOrders
  refine (lp_b (fun i => (nI (fb_ct (fun i => lsB n S.1 (S.1.getD i 0)) i), nI i)) S.1.length (nI (fb_ct (fun i => lsB n S.1 (S.1.getD i 0)) S.1.length)) rfl (fun i hi => ?_) ?_ (by omega)).trans rfl
  · show fX8_unlikeOrders_L4 z (nI _) (nI i) (nI S.1.length) od (nI n) lb ls hn al st = _
    unfold fX8_unlikeOrders_L4
    rw [if_neg (nI_ge hi (by omega)), if_neg (show ¬ (7560 : Int32) ≤ nI i from nI_ge (a := i) (b := 7560) (by omega) (by decide)), agd_in (by omega) (by decide), cl_nI (by omega), hR.1 i hi, isLeast_nI hn9 hn0 hN hB hl hR (getD_mem hi) (by omega), Option.bind_some, fb_ct_succ, nI_1, nI_1]
    cases lsB n S.1 (S.1.getD i 0)
    · rfl
    · rfl
  · show fX8_unlikeOrders_L4 z (nI _) (nI S.1.length) (nI S.1.length) od (nI n) lb ls hn al st = _
    unfold fX8_unlikeOrders_L4
    rw [if_pos (nI_le (Nat.le_refl _) (by omega))]
theorem kinds_40 {S : BS} {pl row far mr : Nat → Int32} {wy : Nat → Int64} {p : Nat} {x1 so rmI oI it io : Int32} (hn9 : n ≤ 9) (hn0 : 0 < n) (hB : BI (VO n o) S) (hl : S.1.length ≤ 7560) (hR : RM S pl row far wy mr) (hp : p < S.1.length) (hz : 30 < z) :
    lp (fun sg => fX10_kinds_L40 z x1 (nI p) sg.1 sg.2 (nI n) so rmI row pl oI far wy mr it par io) z (1, 1) = some (b01 (flB n S.1 p (n - 1))) := by
  have hV := hB.2.1 _ (getD_mem hp)
  refine lp_0 (N := n - 1) (fun j => (b01 (flB n S.1 p j), nI (j + 1))) rfl (fun j hj => ?_) ?_ (by omega)
  · show fX10_kinds_L40 z x1 (nI p) (b01 (flB n S.1 p j)) (nI (j + 1)) (nI n) so rmI row pl oI far wy mr it par io = _
    have htl := tn_lt hV.1 (show j + 1 ≤ n by omega)
    have ht9 := o9 hn9 htl
    unfold fX10_kinds_L40
    rw [if_neg (nI_ge (by omega) (by omega)), agd_in (by omega) (by decide), cl_nI (by omega), (hR.1 p hp).1, turnedM_nI hn9 hV.1 (by omega) (by omega), Option.bind_some, agd_in (show tn n (S.1.getD p 0) (j + 1) < 262144 from ht9) (by decide), cl_nI (o31 hn9 htl), nI_1]
    simp only [flB]
    cases hf : flB n S.1 p j with
    | false => rw [if_pos (show b01 false = 0 from rfl)]; rfl
    | true =>
      rw [if_neg (show ¬ b01 true = 0 by decide), Bool.true_and]
      rcases pl_get hR ht9 hl with ⟨q, q1, q2, q3, q4⟩ | ⟨q1, q2⟩
      · rw [q3, if_neg (nI_pos (by omega))]
        by_cases c : q < p
        · rw [if_pos (nI_lt c (by omega)), decide_eq_true (show ∃ p', p' < p ∧ S.1.getD p' 0 = tn n (S.1.getD p 0) (j + 1) from ⟨q, c, q2⟩)]
          rfl
        · rw [if_neg (nI_nlt (by omega) (by omega)), decide_eq_false (show ¬ ∃ p', p' < p ∧ S.1.getD p' 0 = tn n (S.1.getD p 0) (j + 1) from fun ⟨p', a1, a2⟩ => by
            have := getD_inj hB.1 (show p' < S.1.length by omega) q1 (by rw [a2, q2])
            omega)]
          rfl
      · rw [q2, if_pos (by decide), decide_eq_false (show ¬ ∃ p', p' < p ∧ S.1.getD p' 0 = tn n (S.1.getD p 0) (j + 1) from fun ⟨p', a1, a2⟩ => q1 (by rw [← a2]; exact getD_mem (by omega)))]
        rfl
  · show fX10_kinds_L40 z x1 (nI p) (b01 (flB n S.1 p (n - 1))) (nI (n - 1 + 1)) (nI n) so rmI row pl oI far wy mr it par io = _
    unfold fX10_kinds_L40
    rw [if_pos (nI_le (by omega) (by omega))]
theorem kinds_27 {S : BS} {pl row far mr : Nat → Int32} {wy : Nat → Int64} {so oI it io : Int32} (hn9 : n ≤ 9) (hn0 : 0 < n) (hB : BI (VO n o) S) (hl : S.1.length ≤ 7560) (hR : RM S pl row far wy mr) (hz : 8000 < z) :
    lp (fun sg => fX10_kinds_L27 z sg.1 sg.2 (nI n) so (nI S.1.length) row pl oI far wy mr it par io) z (0, 0) = some (nI (fb_ct (fun p => flB n S.1 p (n - 1)) S.1.length)) := by
  refine lp_0 (N := S.1.length) (fun i => (nI (fb_ct (fun p => flB n S.1 p (n - 1)) i), nI i)) rfl (fun i hi => ?_) ?_ (by omega)
  · show fX10_kinds_L27 z (nI _) (nI i) (nI n) so (nI S.1.length) row pl oI far wy mr it par io = _
    unfold fX10_kinds_L27
    rw [if_neg (nI_ge hi (by omega)), kinds_40 hn9 hn0 hB hl hR hi (by omega), Option.bind_some]
    unfold fX10_kinds_J97
    rw [fb_ct_succ, nI_1, nI_1]
    cases flB n S.1 i (n - 1)
    · rw [if_pos (show b01 false = 0 from rfl), if_neg (by decide), show (0 : Int32) = nI 0 from rfl, nI_add]
    · rfl
  · show fX10_kinds_L27 z (nI _) (nI S.1.length) (nI n) so (nI S.1.length) row pl oI far wy mr it par io = _
    unfold fX10_kinds_L27
    rw [if_pos (nI_le (Nat.le_refl _) (by omega))]
end KX
