/-! ===== the search, kept ===== -/
def mxs (f : Nat → Nat) : Nat → Nat
  | 0 => 0
  | k + 1 => max (mxs f k) (f k)
/-- LONGEST, for so many moves at most -/
def lgf (n : Nat) (c : Nat → Nat → Nat → Bool) : Nat → Nat → Nat
  | 0, _ => 0
  | k + 1, o => mxs (fun j => if c o (j / n) (j % n) then lgf n c k (mvd o (j / n) (j % n)) + 1 else 0) (n * n)
/-- the first move of w's that leads to where the other doesn't win -/
def wnp (n : Nat) (c : Nat → Nat → Nat → Bool) (W : Nat → Nat → Bool) (o w j : Nat) : Bool := kd o (j / n) == w + 1 && c o (j / n) (j % n) && !(W (mvd o (j / n) (j % n)) (1 - w))
def wnJ (n : Nat) (c : Nat → Nat → Nat → Bool) (W : Nat → Nat → Bool) (o w : Nat) : Nat := fa_first (wnp n c W o w) (n * n)
def wnf (n : Nat) (c : Nat → Nat → Nat → Bool) : Nat → Nat → Nat → Bool
  | 0, _, _ => false
  | k + 1, o, w => decide (wnJ n c (wnf n c k) o w < n * n)
def lng (n : Nat) (c : Nat → Nat → Nat → Bool) (o : Nat) : Nat := lgf n c 145 o
def wn (n : Nat) (c : Nat → Nat → Nat → Bool) (o w : Nat) : Bool := wnf n c 145 o w
def wv (n : Nat) (c : Nat → Nat → Nat → Bool) (o : Nat) : Nat := (if wn n c o 0 then 1 else 0) + (if wn n c o 1 then 2 else 0)
def EV (n : Nat) (c : Nat → Nat → Nat → Bool) (num : Nat → Nat) (q : Nat) (mo wi : Nat → Int32) : Prop := ∀ r ∈ (bf n c q).1, mo (num r) = nI (lng n c r) ∧ wi (num r) = nI (wv n c r)
def SE (n : Nat) (bk : Nat → Nat) (two oth : Bool) (o e l : Nat) (lb : Int32) (ls hn : Nat → Int32) (al : Int32) (st : Nat → Int32) (re stk fa : Int32) (rw : Nat → Int64) (fs od : Nat → Int32) (sta sd : Int32) (mo wi : Nat → Int32) : Prop :=
  ∃ num A, al = nI A ∧ A ≤ 7560 ∧ NB (VO n o) num lb ls hn al ∧ (∀ q, VO n o q → num q < A) ∧ (ct 3 o n = 0 → A ≤ 1680) ∧ (¬ sd = 0 → ∃ q, VO n o q ∧ sta = nI q ∧ SV n (cg bk two oth) (VO n o) num q st re stk fa rw fs od ∧ (e = l → EV n (cg bk two oth) num q mo wi))
theorem VO_eq {n o o' : Nat} (h : ∀ k, ct k o' n = ct k o n) : VO n o' = VO n o := by
  funext q
  unfold VO
  refine propext ⟨fun a => ⟨a.1, fun k => by rw [a.2 k, h k]⟩, fun a => ⟨a.1, fun k => by rw [a.2 k, h k]⟩⟩
section SS
variable {n : Nat} {bk : Nat → Nat} {bh par : Nat → Int32} {oth two : Bool} {o e l z : Nat} {ls hn T st fs od mo wi : Nat → Int32} {rw : Nat → Int64} {lb al re stk fa sta sd sort : Int32}
theorem SE_o {o' : Nat} (h : ∀ k, ct k o' n = ct k o n) (hS : SE n bk two oth o e l lb ls hn al st re stk fa rw fs od sta sd mo wi) : SE n bk two oth o' e l lb ls hn al st re stk fa rw fs od sta sd mo wi := by
  unfold SE at hS ⊢
  rw [VO_eq h, h 3]
  exact hS
theorem VO_self (ho : o < 4 ^ n) : VO n o o := ⟨ho, fun _ => rfl⟩
theorem SE_get (hn9 : n ≤ 9) (ho : o < 4 ^ n) (hS : SE n bk two oth o e l lb ls hn al st re stk fa rw fs od (nI o) sd mo wi) (hsd : ¬ sd = 0) :
    ∃ num A, al = nI A ∧ A ≤ 7560 ∧ NB (VO n o) num lb ls hn al ∧ (∀ q, VO n o q → num q < A) ∧ (ct 3 o n = 0 → A ≤ 1680) ∧ SV n (cg bk two oth) (VO n o) num o st re stk fa rw fs od ∧ (e = l → EV n (cg bk two oth) num o mo wi) := by
  obtain ⟨num, A, h1, h2, h3, h4, h5, h6⟩ := hS
  obtain ⟨q, q1, q2, q3, q4⟩ := h6 hsd
  have : o = q := (nI_eq (o31 hn9 ho) (o31 hn9 q1.1)).mp q2
  subst this
  exact ⟨num, A, h1, h2, h3, h4, h5, q3, q4⟩
theorem look_SE (hp : PB n bk) (hb : BH n bk bh) (hn0 : 0 < n) (ho : o < 4 ^ n) (hz : 8000 < z) (hel : e ≤ l) (hS : SE n bk two oth o e l lb ls hn al st re stk fa rw fs od sta sd mo wi) :
    ∃ st' re' stk' fa' rw' fs' od' T' sd' l', fX8_lookFrom z (nI o) sd sta al st lb ls hn re rw fs od T (nI n) (nI (lpN two)) bh (b01 oth) stk (nI l) fa = some (st', re', stk', fa', rw', fs', od', T', nI o, sd', nI l') ∧
      ¬ sd' = 0 ∧ e ≤ l' ∧ l' ≤ l + 1 ∧ SE n bk two oth o e l' lb ls hn al st' re' stk' fa' rw' fs' od' (nI o) sd' mo wi := by
  obtain ⟨num, A, rfl, h2, h3, h4, h5, h6⟩ := hS
  have hv := VO_self ho
  obtain ⟨r, r1, r2, r3, r4⟩ := lookFrom_nI (z := z) (T0 := T) (sd := sd) (sta := sta) (lo := nI l) (re := re) (stk := stk) (fa := fa) (rw := rw) (st := st) (fs := fs) (od := od) hp hb (VO_HG (two := two) (oth := oth) (bk := bk) (o := o) hp.1) h2 h3 h4 hn0 hv hz (fun a b => by
    obtain ⟨q, q1, q2, q3, -⟩ := h6 a
    have : o = q := (nI_eq (o31 hp.1 ho) (o31 hp.1 q1.1)).mp (b ▸ q2)
    subst this
    exact q3)
  obtain ⟨st', re', stk', fa', rw', fs', od', T', sta', sd', lo'⟩ := r
  dsimp only at r2 r3 r4
  subst r3
  rcases r4 with ⟨-, a2, a3⟩ | ⟨a1, a2, a3⟩
  · subst a2
    rw [nI_1] at a3
    subst a3
    exact ⟨st', re', stk', fa', rw', fs', od', T', 1, l + 1, r1, by decide, by omega, Nat.le_refl _, num, A, rfl, h2, h3, h4, h5, fun _ => ⟨o, hv, rfl, r2, fun c => by omega⟩⟩
  · simp only [Prod.mk.injEq] at a3
    obtain ⟨rfl, rfl, rfl, rfl, rfl, rfl, rfl, rfl, a4, rfl, rfl⟩ := a3
    refine ⟨st', re', stk', fa', rw', fs', od', T', sd', l, r1, a1, hel, by omega, num, A, rfl, h2, h3, h4, h5, fun _ => ⟨o, hv, rfl, r2, fun c => ?_⟩⟩
    obtain ⟨q, q1, q2, q3, q4⟩ := h6 a1
    have : o = q := (nI_eq (o31 hp.1 ho) (o31 hp.1 q1.1)).mp (a2 ▸ q2)
    subst this
    exact q4 c
theorem ps_mem {c : Nat → Nat → Nat → Bool} (k : Nat) : o ∈ (ps n c o k).1 := by
  have h := ps_getD (n := n) (c := c) (o0 := o) (p := 0) (j := 0) (show 0 < 1 from Nat.zero_lt_one) k
  rw [Nat.zero_add] at h
  have e : (ps n c o 0).1.getD 0 0 = o := rfl
  have h2 := getD_mem h.1
  rw [h.2, e] at h2
  exact h2
theorem bf_mem {c : Nat → Nat → Nat → Bool} : o ∈ (bf n c o).1 := ps_mem 7560
theorem bf_BI {c : Nat → Nat → Nat → Bool} {V : Nat → Prop} (hG : HG n c V) (hn0 : 0 < n) (h0 : V o) : BI V (bf n c o) := ps_BI hG hn0 h0 7560
theorem lay_RZ (hp : PB n bk) (hB : BO n bk sort par) (hn0 : 0 < n) (ho : o < 4 ^ n) (hz : 8000 < z) {rm : Nat} {pl row far mr : Nat → Int32} {wy : Nat → Int64} (hR : RZ rm pl row) :
    ∃ pl' row' far' wy' mr', fX10_layRow z (nI rm) row pl (nI o) far wy mr (nI n) (b01 two) sort par (b01 oth) = some (pl', nI (bf n (cg bk two oth) o).1.length, row', far', wy', mr') ∧ RM (bf n (cg bk two oth) o) pl' row' far' wy' mr' ∧ RZ (bf n (cg bk two oth) o).1.length pl' row' := by
  have hv := VO_self ho
  have hG := VO_HG (two := two) (oth := oth) (bk := bk) (o := o) hp.1
  obtain ⟨r, r1, r2, r3⟩ := layRow_nI (z := z) (two := two) (oth := oth) (far := far) (mr := mr) (wy := wy) hp hB hG hn0 hv hz hR
  obtain ⟨pl', rm', row', far', wy', mr'⟩ := r
  dsimp only at r2 r3
  subst r3
  have hBI := bf_BI hG hn0 hv
  refine ⟨pl', row', far', wy', mr', r1, r2, hG.2.2 _ hBI, fun p hp' => ⟨_, ?_, (r2.1 p hp').1⟩, fun q hq hne => ?_⟩
  · exact hG.1 _ (hBI.2.1 _ (getD_mem hp'))
  · by_cases c : q ∈ (bf n (cg bk two oth) o).1
    · obtain ⟨p, p1, p2⟩ := mem_getD c
      exact ⟨p, p1, by rw [(r2.1 p p1).1, p2]⟩
    · exact absurd (r2.2 q hq c) hne
/-! what is told of an order: how far, in how many ways -/
def fwV (S : BS) (a : Nat) : Int32 := if a ∈ S.1 then nI (S.2.1 a) else -1
def wyV (S : BS) (a : Nat) : Int64 := if a ∈ S.1 then S.2.2.1 a else 0
def fiV (S : BS) (a : Nat) : Int32 := if a ∈ S.1 then S.2.2.2 a else -1
theorem stepsTo_nI {V : Nat → Prop} {num : Nat → Nat} {S : BS} {a : Nat} (hN : NB V num lb ls hn al) (hR : RC V num S st fs od rw) (ha : V a) : fX8_stepsTo z (nI a) lb ls hn al st = some (fwV S a) := by
  have hn1 := hN.1 a ha
  unfold fX8_stepsTo
  rw [hN.2.2 z a ha, Option.bind_some, if_neg (nI_ne_m1 (by omega)), agd_in hn1 (by decide), cl_nI (by omega), hR.2.1 a ha]
  rfl
theorem waysTo_nI {V : Nat → Prop} {num : Nat → Nat} {S : BS} {a : Nat} (hN : NB V num lb ls hn al) (hB : BI V S) (hl : S.1.length ≤ 7560) (hR : RC V num S st fs od rw) (ha : V a) : fX8_waysTo z (nI a) lb ls hn al st rw = some (wyV S a) := by
  have hn1 := hN.1 a ha
  unfold fX8_waysTo wyV
  rw [hN.2.2 z a ha, Option.bind_some, if_neg (nI_ne_m1 (by omega)), agd_in hn1 (by decide), agd_in hn1 (by decide), cl_nI (by omega), hR.2.1 a ha]
  by_cases c : a ∈ S.1
  · have := hB.2.2 a c
    rw [if_pos c, if_neg (nI_ne_m1 (by omega)), if_pos c, (hR.2.2 a c).1]
  · rw [if_neg c, if_pos rfl, if_neg c]
theorem firstTo_nI {V : Nat → Prop} {num : Nat → Nat} {S : BS} {a : Nat} (hN : NB V num lb ls hn al) (hB : BI V S) (hl : S.1.length ≤ 7560) (hR : RC V num S st fs od rw) (ha : V a) : fX8_firstMoveTo z (nI a) lb ls hn al st fs = some (fiV S a) := by
  have hn1 := hN.1 a ha
  unfold fX8_firstMoveTo fiV
  rw [hN.2.2 z a ha, Option.bind_some, if_neg (nI_ne_m1 (by omega)), agd_in hn1 (by decide), agd_in hn1 (by decide), cl_nI (by omega), hR.2.1 a ha]
  by_cases c : a ∈ S.1
  · have := hB.2.2 a c
    rw [if_pos c, if_neg (nI_ne_m1 (by omega)), if_pos c, (hR.2.2 a c).2]
  · rw [if_neg c, if_pos rfl, if_neg c]
theorem pl_get {S : BS} {pl row far mr : Nat → Int32} {wy : Nat → Int64} {a : Nat} (hR : RM S pl row far wy mr) (ha : a < 262144) (hl : S.1.length ≤ 7560) : (∃ p, p < S.1.length ∧ S.1.getD p 0 = a ∧ pl a - 1 = nI p ∧ a ∈ S.1) ∨ (a ∉ S.1 ∧ pl a - 1 = -1) := by
  by_cases c : a ∈ S.1
  · obtain ⟨p, p1, p2⟩ := mem_getD c
    refine Or.inl ⟨p, p1, p2, ?_, c⟩
    have := (hR.1 p p1).2.2.2.2
    rw [p2] at this
    rw [this]
    exact nI_pred p
  · exact Or.inr ⟨c, by rw [hR.2 a ha c]; rfl⟩
theorem fewestNow_nI {S : BS} {pl row far mr : Nat → Int32} {wy : Nat → Int64} {a : Nat} (hR : RM S pl row far wy mr) (ha : a < 262144) (hl : S.1.length ≤ 7560) : fX10_fewestNow z (nI a) pl far = some (fwV S a) := by
  unfold fX10_fewestNow fwV
  rw [agd_in ha (by decide), cl_nI (by omega)]
  rcases pl_get hR ha hl with ⟨p, p1, p2, p3, p4⟩ | ⟨p1, p2⟩
  · rw [p3, if_pos (nI_pos' (by omega)), agd_in (by omega) (by decide), cl_nI (by omega), if_pos p4, (hR.1 p p1).2.1, p2]
  · rw [p2, if_neg (by decide), if_neg p1]
theorem waysNow_nI {S : BS} {pl row far mr : Nat → Int32} {wy : Nat → Int64} {a : Nat} (hR : RM S pl row far wy mr) (ha : a < 262144) (hl : S.1.length ≤ 7560) : fX10_waysNow z (nI a) pl wy = some (wyV S a) := by
  unfold fX10_waysNow wyV
  rw [agd_in ha (by decide), cl_nI (by omega)]
  rcases pl_get hR ha hl with ⟨p, p1, p2, p3, p4⟩ | ⟨p1, p2⟩
  · rw [p3, if_pos (nI_pos' (by omega)), agd_in (by omega) (by decide), cl_nI (by omega), if_pos p4, (hR.1 p p1).2.2.1, p2]
  · rw [p2, if_neg (by decide), if_neg p1]
/-- REACH -/
def rcV (n : Nat) (c : Nat → Nat → Nat → Bool) (o j : Nat) : Int32 := if j = 0 then nI (bf n c o).1.length else if j = 1 then nI (sk n c o (bf n c o).1.length) else nI ((bf n c o).2.1 ((bf n c o).1.getD ((bf n c o).1.length - 1) 0))
theorem reachNow_nI {j : Nat} {pl row far mr : Nat → Int32} {wy : Nat → Int64} (hp : PB n bk) (hB : BO n bk sort par) (hn0 : 0 < n) (ho : o < 4 ^ n) (hz : 8000 < z) (hj : j ≤ 2) (hR : RM (bf n (cg bk two oth) o) pl row far wy mr) :
    fX10_reachNow z (nI j) (nI (bf n (cg bk two oth) o).1.length) row (nI n) (b01 two) sort par (b01 oth) far = some (rcV n (cg bk two oth) o j) := by
  have hv := VO_self ho
  have hG := VO_HG (two := two) (oth := oth) (bk := bk) (o := o) hp.1
  have hBI := bf_BI hG hn0 hv
  have hl := hG.2.2 _ hBI
  have hpos : 0 < (bf n (cg bk two oth) o).1.length := by
    have : o ∈ (bf n (cg bk two oth) o).1 := bf_mem
    exact List.length_pos_of_mem this
  unfold fX10_reachNow rcV
  by_cases c0 : j = 0
  · rw [if_pos (show nI j = 0 by rw [c0]; rfl), if_pos c0]
  · rw [if_neg (nI_ne0 (by omega) (by omega)), if_neg c0]
    by_cases c1 : j = 1
    · rw [if_pos c1]
      subst c1
      refine (lp_b (fun i => (nI (sk n (cg bk two oth) o i), nI i)) (bf n (cg bk two oth) o).1.length (nI (sk n (cg bk two oth) o (bf n (cg bk two oth) o).1.length)) rfl (fun i hi => ?_) ?_ (by omega)).trans (by unfold fX10_reachNow_J53; rw [if_pos (by decide)])
      · show fX10_reachNow_L13 z (nI 1) (nI (sk n (cg bk two oth) o i)) (nI i) _ row (nI n) (b01 two) sort par (b01 oth) far = _
        unfold fX10_reachNow_L13
        have hvi := hG.1 _ (hBI.2.1 _ (getD_mem hi))
        have h81 := nn_81 hp.1
        have hck := ck_le (n := n) (o := (bf n (cg bk two oth) o).1.getD i 0) (cg bk two oth) (n * n)
        rw [if_neg (nI_ge hi (by omega)), if_pos (show nI 1 = 1 from rfl), agd_in (by omega) (by decide), cl_nI (by omega), (hR.1 i hi).1, manyOf_nI hp hB hn0 hvi (by omega), Option.bind_some, nI_1, nI_1]
        unfold sk
        rw [fb_ct_succ]
        by_cases c : ck n (cg bk two oth) ((bf n (cg bk two oth) o).1.getD i 0) (n * n) = 0
        · rw [if_pos (by rw [c]; rfl), if_pos (by rw [c]; rfl)]
        · rw [if_neg (nI_ne0 (by omega) (by omega)), if_neg (by simpa using c), show (0 : Int32) = nI 0 from rfl, nI_add]
      · show fX10_reachNow_L13 z (nI 1) _ (nI (bf n (cg bk two oth) o).1.length) _ row (nI n) (b01 two) sort par (b01 oth) far = _
        unfold fX10_reachNow_L13
        rw [if_pos (nI_le (Nat.le_refl _) (by omega))]
    · rw [if_neg c1]
      obtain ⟨z', rfl⟩ : ∃ z', z = z' + 1 := ⟨z - 1, by omega⟩
      have h1 : ¬ nI j = 1 := nlit (k := 1) (by omega) (by decide) c1
      rw [lp_out (e := 0) (by
        show fX10_reachNow_L13 (z' + 1) (nI j) 0 0 _ row (nI n) (b01 two) sort par (b01 oth) far = _
        unfold fX10_reachNow_L13
        rw [if_neg h1, ite_self])]
      show fX10_reachNow_J53 (z' + 1) (nI j) 0 _ row (nI n) (b01 two) sort par (b01 oth) far = _
      unfold fX10_reachNow_J53
      rw [if_neg h1, show nI (bf n (cg bk two oth) o).1.length - 1 = nI ((bf n (cg bk two oth) o).1.length - 1) from pk_sub (b := 1) (by omega), agd_in (by omega) (by decide), cl_nI (by omega), (hR.1 _ (by omega)).2.1]
end SS
