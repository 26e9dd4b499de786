/-! ===== ENDING: the reference's LONGEST and GAME ===== -/
theorem went_0 : ∀ m : Fin 146, (nI m.val - 73 < -72) ↔ m.val = 0 := by decide +kernel
theorem went_s : ∀ m : Fin 146, nI (m.val + 1) - 73 + (-1) = nI m.val - 73 := by decide +kernel
theorem went_73 : ∀ m : Fin 146, nI (m.val + 1) - 73 = nI m.val - 72 := by decide +kernel
theorem went_eq {a b : Nat} (ha : a < 2 ^ 31) (hb : b < 2 ^ 31) : nI a - 72 = nI b - 72 ↔ a = b := by
  refine ⟨fun e => ?_, fun e => by rw [e]⟩
  have e2 : nI a - 72 + 72 = nI b - 72 + 72 := by rw [e]
  rw [Int32.sub_add_cancel, Int32.sub_add_cancel] at e2
  exact (nI_eq ha hb).mp e2
section RL
variable {n : Nat} {bk : Nat → Nat} {par : Nat → Int32} {oth two : Bool} {o z : Nat} {sort : Int32} {S : BS} {pl row far mr mr0 : Nat → Int32} {wy : Nat → Int64}
/-- the marks: done ones hold their number, the others 0 -/
def ML (n : Nat) (c : Nat → Nat → Nat → Bool) (S : BS) (D : Nat → Prop) (mr : Nat → Int32) : Prop :=
  (∀ p, p < S.1.length → D p → mr p = nI (lng n c (S.1.getD p 0))) ∧ ∀ p, p < S.1.length → ¬ D p → mr p = 0
theorem ML_D {c : Nat → Nat → Nat → Bool} {D D' : Nat → Prop} (h : ML n c S D mr) (e : ∀ p, p < S.1.length → (D' p ↔ D p)) : ML n c S D' mr :=
  ⟨fun p hp hd => h.1 p hp ((e p hp).mp hd), fun p hp hd => h.2 p hp (fun q => hd ((e p hp).mpr q))⟩
set_option maxHeartbeats 400000 in
theorem long_35 (h : ED n bk) (hp : PB n bk) (hB : BO n bk sort par) (hG : HG n (cg bk two oth) (VO n o)) (hBI : BI (VO n o) S) (hL : BL n (cg bk two oth) o S) (hR : RM S pl row far wy mr0) (h3 : ct 3 o n = 0) (hz : 8000 < z) {L p : Nat} (hLv : L ≤ 144) (hpS : p < S.1.length) {oI rI : Int32}
    (hM : ML n (cg bk two oth) S (fun q => L < lv n bk (S.1.getD q 0) ∨ (lv n bk (S.1.getD q 0) = L ∧ q < p)) mr) :
    ∃ e, lp (fun sg => fX10_longest_L35 z (nI L - 72) (nI p) sg.1 (nI n) sort oI rI row pl far wy sg.2 (b01 two) par (b01 oth)) z (0, mr) = some e ∧ ML n (cg bk two oth) S (fun q => L < lv n bk (S.1.getD q 0) ∨ (lv n bk (S.1.getD q 0) = L ∧ q < p + 1)) e := by
  have h9 := hp.1
  have hn0 := h.1
  have hnn : n * n ≤ 81 := nn_81 h9
  have hnp := Nat.mul_pos hn0 hn0
  have hl := hG.2.2 _ hBI
  have hx := getD_mem hpS
  have vx := hBI.2.1 _ hx
  have hx9 := hG.1 _ vx
  have hx3 := VO_3 h3 vx
  have l144 := lv_144 (o := S.1.getD p 0) h
  obtain ⟨a1, a2, a3, a4, a5⟩ := hR.1 p hpS
  by_cases hlv : lv n bk (S.1.getD p 0) = L
  · have m0 : mr p = 0 := hM.2 p hpS (by omega)
    have step : ∀ k, k < n * n → fX10_longest_L35 z (nI L - 72) (nI p) (nI k) (nI n) sort oI rI row pl far wy (upd mr p (nI (lgs n (cg bk two oth) (S.1.getD p 0) k))) (b01 two) par (b01 oth) = some (.inl (nI (k + 1), upd mr p (nI (lgs n (cg bk two oth) (S.1.getD p 0) (k + 1))))) := by
      intro k hk
      have hdv : k / n < n := Nat.div_lt_of_lt_mul hk
      have hmd : k % n < n := Nat.mod_lt _ hn0
      have elg : lgs n (cg bk two oth) (S.1.getD p 0) (k + 1) = max (lgs n (cg bk two oth) (S.1.getD p 0) k) (if cg bk two oth (S.1.getD p 0) (k / n) (k % n) then lng n (cg bk two oth) (mvd (S.1.getD p 0) (k / n) (k % n)) + 1 else 0) := rfl
      rw [elg]
      unfold fX10_longest_L35
      rw [pk_mul, if_neg (nI_ge hk (by omega)), agd_in (show p < 7560 by omega) (by decide), cl_nI (show p < 2 ^ 31 by omega), a1, wentBy_nI h hB hx9 (by omega), Option.bind_some, if_pos (by rw [hlv]), agd_in (show p < 7560 by omega) (by decide), dgd_ne (nI_ne0 hn0 (by omega)), dgd_ne (nI_ne0 hn0 (by omega)), pk_div (by omega) hn0 (by omega), rem_nI (by omega) hn0 (by omega), canGo_nI hp hB hx9 hdv hmd (by omega), Option.bind_some, nI_1]
      cases hc : cg bk two oth (S.1.getD p 0) (k / n) (k % n) with
      | false => rw [if_pos (show b01 false = 0 from rfl), if_neg (by decide), Nat.max_eq_left (Nat.zero_le _)]
      | true =>
        obtain ⟨f1, f2, f3⟩ := cg_facts hc
        obtain ⟨q1, -⟩ := hL.2.2.2.2.1 _ hx k hk hc
        have q9 := hG.1 _ (hBI.2.1 _ q1)
        obtain ⟨c1, c2⟩ := ct3_mvd h hk hx3 hc
        obtain ⟨pq, p1, p2, p3⟩ := pl_in hR q9 hl q1
        have hne : pq ≠ p := fun g => by
          rw [g] at p2
          rw [← p2] at c2
          omega
        have e1 := hM.1 pq p1 (Or.inl (by rw [p2]; omega))
        rw [p2] at e1
        have l1 := lng_le (n := n) (c := cg bk two oth) (o := mvd (S.1.getD p 0) (k / n) (k % n))
        have l2 := lgs_le (n := n) (c := cg bk two oth) (o := S.1.getD p 0) k
        rw [if_neg (show ¬ b01 true = 0 by decide), agd_in (show p < 7560 by omega) (by decide), dgd_ne (nI_ne0 hn0 (by omega)), dgd_ne (nI_ne0 hn0 (by omega)), moved_nI hx9 (by omega) (by omega) f3 f2, agd_in (show _ < 262144 from q9) (by decide), cl_nI (show mvd (S.1.getD p 0) (k / n) (k % n) < 2 ^ 31 from Nat.lt_of_lt_of_le q9 (by decide)), p3, agd_in (show pq < 7560 by omega) (by decide), agd_in (show p < 7560 by omega) (by decide), cl_nI (show pq < 2 ^ 31 by omega), pk_un hne, e1, pk_us, Int32.add_comm 1, nI_1, if_pos rfl]
        by_cases g : lng n (cg bk two oth) (mvd (S.1.getD p 0) (k / n) (k % n)) + 1 ≤ lgs n (cg bk two oth) (S.1.getD p 0) k
        · rw [if_pos (nI_le g (by omega)), agd_in (show p < 7560 by omega) (by decide), agd_in (show p < 7560 by omega) (by decide), fa_upd_twice, Nat.max_eq_left g]
        · rw [if_neg (nI_ge (by omega) (by omega)), agd_in (show p < 7560 by omega) (by decide), fa_upd_twice, Nat.max_eq_right (by omega)]
    refine ⟨upd mr p (nI (lgs n (cg bk two oth) (S.1.getD p 0) (n * n))), ?_, ⟨fun q hq hd => ?_, fun q hq hd => ?_⟩⟩
    · refine lp_0 (fun k => (nI k, upd mr p (nI (lgs n (cg bk two oth) (S.1.getD p 0) k)))) (N := n * n) ?_ (fun k hk => step k hk) ?_ (by omega)
      · show ((0 : Int32), mr) = (nI 0, upd mr p (nI 0))
        rw [fa_upd_same (show mr p = nI 0 from m0)]
        rfl
      · show fX10_longest_L35 z (nI L - 72) (nI p) (nI (n * n)) (nI n) sort oI rI row pl far wy (upd mr p (nI (lgs n (cg bk two oth) (S.1.getD p 0) (n * n)))) (b01 two) par (b01 oth) = _
        unfold fX10_longest_L35
        rw [pk_mul, if_pos (nI_le (Nat.le_refl _) (by omega))]
    · by_cases g : q = p
      · subst g
        rw [pk_us, lng_eq h hx3]
      · rw [pk_un g]
        exact hM.1 q hq (by omega)
    · have g : q ≠ p := fun g => hd (Or.inr ⟨by rw [g]; exact hlv, by omega⟩)
      rw [pk_un g]
      exact hM.2 q hq (by omega)
  · refine ⟨mr, ?_, ML_D hM (fun q hq => ⟨fun g => ?_, fun g => ?_⟩)⟩
    · obtain ⟨w, rfl⟩ : ∃ w, z = w + 1 := ⟨z - 1, by omega⟩
      refine lp_out ?_
      show fX10_longest_L35 (w + 1) (nI L - 72) (nI p) 0 (nI n) sort oI rI row pl far wy mr (b01 two) par (b01 oth) = _
      unfold fX10_longest_L35
      rw [pk_mul, if_neg (show ¬ nI (n * n) ≤ 0 from nI_nle hnp (by omega)), agd_in (show p < 7560 by omega) (by decide), cl_nI (show p < 2 ^ 31 by omega), a1, wentBy_nI h hB hx9 (by omega), Option.bind_some, if_neg (fun g => hlv ((went_eq (by omega) (by omega)).mp g))]
    · rcases g with g | ⟨g1, g2⟩
      · exact Or.inl g
      · refine Or.inr ⟨g1, ?_⟩
        rcases Nat.lt_or_eq_of_le (Nat.le_of_lt_succ g2) with q1 | q1
        · exact q1
        · subst q1
          exact absurd g1 hlv
    · rcases g with g | ⟨g1, g2⟩
      · exact Or.inl g
      · exact Or.inr ⟨g1, by omega⟩
set_option maxHeartbeats 400000 in
theorem longest_17 (h : ED n bk) (hp : PB n bk) (hB : BO n bk sort par) (hG : HG n (cg bk two oth) (VO n o)) (hBI : BI (VO n o) S) (hL : BL n (cg bk two oth) o S) (hR : RM S pl row far wy mr) (h3 : ct 3 o n = 0) (hz : 8000 < z) {oI : Int32} :
    ∃ e, lp (fun sg => fX10_longest_L17 z sg.1 (nI n) sort oI (nI S.1.length) row pl far wy sg.2 (b01 two) par (b01 oth)) z (72, mr) = some e ∧ ∀ p, p < S.1.length → e p = nI (lng n (cg bk two oth) (S.1.getD p 0)) := by
  have hl := hG.2.2 _ hBI
  refine lp_rel0 (fun (i : Nat) (s : Int32 × (Nat → Int32)) => s.1 = nI (145 - i) - 73 ∧ ML n (cg bk two oth) S (fun q => 145 - i ≤ lv n bk (S.1.getD q 0)) s.2) _ 145 ⟨rfl, ⟨fun p hp' hd => ?_, fun p hp' _ => (hR.1 p hp').2.2.2.1⟩⟩ (fun i s hi hr => ?_) (fun s hr => ?_) (by omega)
  · have := lv_144 (o := S.1.getD p 0) h
    have hd : 145 - 0 ≤ lv n bk (S.1.getD p 0) := hd
    omega
  · obtain ⟨x, mk⟩ := s
    obtain ⟨r1, r2⟩ := hr
    dsimp only at r1 r2
    obtain ⟨L, hL2⟩ : ∃ L, 145 - i = L + 1 := ⟨145 - i - 1, by omega⟩
    rw [hL2] at r1 r2
    subst r1
    have hb1 := went_0 ⟨L + 1, by omega⟩
    have hb2 := went_s ⟨L, by omega⟩
    have hb3 := went_73 ⟨L, by omega⟩
    dsimp only at hb1 hb2 hb3
    show ∃ s', fX10_longest_L17 z (nI (L + 1) - 73) (nI n) sort oI (nI S.1.length) row pl far wy mk (b01 two) par (b01 oth) = _ ∧ _
    unfold fX10_longest_L17
    rw [if_neg (fun g => by have := hb1.mp g; omega)]
    have inner : ∃ e, lp (fun sg => fX10_longest_L25 z (nI (L + 1) - 73) sg.1 (nI n) sort oI (nI S.1.length) row pl far wy sg.2 (b01 two) par (b01 oth)) z (0, mk) = some e ∧ ML n (cg bk two oth) S (fun q => L ≤ lv n bk (S.1.getD q 0)) e := by
      refine lp_rel0 (fun (p : Nat) (s : Int32 × (Nat → Int32)) => s.1 = nI p ∧ ML n (cg bk two oth) S (fun q => L < lv n bk (S.1.getD q 0) ∨ (lv n bk (S.1.getD q 0) = L ∧ q < p)) s.2) _ S.1.length ⟨rfl, ML_D r2 (fun q _ => ?_)⟩ (fun p s hp' hr => ?_) (fun s hr => ?_) (by omega)
      · show (L < lv n bk (S.1.getD q 0) ∨ (lv n bk (S.1.getD q 0) = L ∧ q < 0)) ↔ L + 1 ≤ lv n bk (S.1.getD q 0)
        omega
      · obtain ⟨x, mk⟩ := s
        obtain ⟨r1, r2⟩ := hr
        dsimp only at r1 r2
        subst r1
        show ∃ s', fX10_longest_L25 z (nI (L + 1) - 73) (nI p) (nI n) sort oI (nI S.1.length) row pl far wy mk (b01 two) par (b01 oth) = _ ∧ _
        unfold fX10_longest_L25
        rw [if_neg (nI_ge hp' (by omega)), hb3]
        obtain ⟨e, k1, k2⟩ := long_35 (z := z) (oI := oI) (rI := nI S.1.length) h hp hB hG hBI hL hR h3 hz (show L ≤ 144 by omega) hp' r2
        rw [k1, Option.bind_some]
        unfold fX10_longest_J158
        exact ⟨_, rfl, nI_1 p, k2⟩
      · obtain ⟨x, mk⟩ := s
        obtain ⟨r1, r2⟩ := hr
        dsimp only at r1 r2
        subst r1
        show ∃ e, fX10_longest_L25 z (nI (L + 1) - 73) (nI S.1.length) (nI n) sort oI (nI S.1.length) row pl far wy mk (b01 two) par (b01 oth) = _ ∧ _
        unfold fX10_longest_L25
        rw [if_pos (nI_le (Nat.le_refl _) (by omega))]
        refine ⟨_, rfl, ML_D r2 (fun q hq => ?_)⟩
        show L ≤ lv n bk (S.1.getD q 0) ↔ (L < lv n bk (S.1.getD q 0) ∨ (lv n bk (S.1.getD q 0) = L ∧ q < S.1.length))
        omega
    obtain ⟨e, k1, k2⟩ := inner
    rw [k1, Option.bind_some]
    unfold fX10_longest_J164
    refine ⟨_, rfl, ?_, ?_⟩
    · show nI (L + 1) - 73 + (-1) = nI (145 - (i + 1)) - 73
      rw [hb2, show 145 - (i + 1) = L by omega]
    · show ML n (cg bk two oth) S (fun q => 145 - (i + 1) ≤ lv n bk (S.1.getD q 0)) e
      rw [show 145 - (i + 1) = L by omega]
      exact k2
  · obtain ⟨x, mk⟩ := s
    obtain ⟨r1, r2⟩ := hr
    dsimp only at r1 r2
    subst r1
    show ∃ e, fX10_longest_L17 z (nI (145 - 145) - 73) (nI n) sort oI (nI S.1.length) row pl far wy mk (b01 two) par (b01 oth) = _ ∧ _
    unfold fX10_longest_L17
    rw [if_pos (by decide)]
    exact ⟨_, rfl, fun p hp' => r2.1 p hp' (by show 145 - 145 ≤ lv n bk (S.1.getD p 0); omega)⟩
/-- the marks of GAME: done ones hold who wins -/
def MG (n : Nat) (c : Nat → Nat → Nat → Bool) (S : BS) (D : Nat → Prop) (mr : Nat → Int32) : Prop := ∀ p, p < S.1.length → D p → mr p = nI (wv n c (S.1.getD p 0))
set_option maxHeartbeats 400000 in
theorem winsBy_nI (h : ED n bk) (hp : PB n bk) (hB : BO n bk sort par) (hG : HG n (cg bk two oth) (VO n o)) (hBI : BI (VO n o) S) (hL : BL n (cg bk two oth) o S) (hR : RM S pl row far wy mr0) (h3 : ct 3 o n = 0) (hz : 8000 < z) {x w : Nat} (hw : w < 2) (hx : x ∈ S.1)
    (hM : MG n (cg bk two oth) S (fun q => lv n bk x < lv n bk (S.1.getD q 0)) mr) :
    fX10_winsBy z (nI x) (nI w) (nI n) (b01 two) sort par (b01 oth) pl mr = some (wmV n (cg bk two oth) x w) := by
  have h9 := hp.1
  have hn0 := h.1
  have hnn : n * n ≤ 81 := nn_81 h9
  have hl := hG.2.2 _ hBI
  have vx := hBI.2.1 _ hx
  have hx9 := hG.1 _ vx
  have hx31 : x < 2 ^ 31 := Nat.lt_of_lt_of_le hx9 (by decide)
  have hx3 := VO_3 h3 vx
  have step : ∀ k, k < n * n → fX10_winsBy_L2 z (nI x) (nI w) (nI k) (nI n) (b01 two) sort par (b01 oth) pl mr = some (if wnp n (cg bk two oth) (wn n (cg bk two oth)) x w k then .inr (.inr (nI (mvk n k))) else .inl (nI (k + 1))) := by
    intro k hk
    have hdv : k / n < n := Nat.div_lt_of_lt_mul hk
    have hmd : k % n < n := Nat.mod_lt _ hn0
    have hkf := kd_lt x (k / n)
    unfold fX10_winsBy_L2 wnp
    rw [pk_mul, if_neg (nI_ge hk (by omega)), dgd_ne (nI_ne0 hn0 (by omega)), pk_div (by omega) hn0 (by omega), rem_nI (by omega) hn0 (by omega), at_nI hx31 (by omega), nI_1, nI_1]
    by_cases ek : kd x (k / n) = w + 1
    · rw [if_pos (by rw [ek]), dgd_ne (nI_ne0 hn0 (by omega)), dgd_ne (nI_ne0 hn0 (by omega)), canGo_nI hp hB hx9 hdv hmd (by omega), Option.bind_some, ek, beq_self_eq_true, Bool.true_and]
      cases hc : cg bk two oth x (k / n) (k % n) with
      | false => rw [if_pos (show b01 false = 0 from rfl)]; rfl
      | true =>
        obtain ⟨f1, f2, f3⟩ := cg_facts hc
        obtain ⟨q1, -⟩ := hL.2.2.2.2.1 _ hx k hk hc
        have q9 := hG.1 _ (hBI.2.1 _ q1)
        obtain ⟨c1, c2⟩ := ct3_mvd h hk hx3 hc
        obtain ⟨pq, p1, p2, p3⟩ := pl_in hR q9 hl q1
        have e1 := hM pq p1 (by show lv n bk x < lv n bk (S.1.getD pq 0); rw [p2]; omega)
        rw [p2] at e1
        have w4 := wv_4 (n := n) (c := cg bk two oth) (o := mvd x (k / n) (k % n))
        rw [if_neg (show ¬ b01 true = 0 by decide), dgd_ne (nI_ne0 hn0 (by omega)), dgd_ne (nI_ne0 hn0 (by omega)), moved_nI hx9 (by omega) (by omega) f3 f2, agd_in (show _ < 262144 from q9) (by decide), cl_nI (show mvd x (k / n) (k % n) < 2 ^ 31 from Nat.lt_of_lt_of_le q9 (by decide)), p3, agd_in (show pq < 7560 by omega) (by decide), cl_nI (show pq < 2 ^ 31 by omega), e1, show (1 : Int32) - nI w = nI (1 - w) from pk_sub (a := 1) (by omega), bit_at (by omega) (by omega), wv_bit (show 1 - w < 2 by omega), Bool.true_and]
        cases wn n (cg bk two oth) (mvd x (k / n) (k % n)) (1 - w) with
        | true => rw [if_neg (show ¬ b01 true = 0 by decide)]; rfl
        | false =>
          rw [if_pos (show b01 false = 0 from rfl), dgd_ne (nI_ne0 hn0 (by omega)), dgd_ne (nI_ne0 hn0 (by omega)), show (16 : Int32) * nI (k / n) = nI (16 * (k / n)) from pk_mul 16 (k / n), nI_add]
          rfl
    · rw [if_neg (fun g => ek ((nI_eq (by omega) (by omega)).mp g)), beq_eq_false_iff_ne.mpr ek]
      rfl
  have hJle : wnJ n (cg bk two oth) (wn n (cg bk two oth)) x w ≤ n * n := fa_first_le _ _
  have hyes : wnJ n (cg bk two oth) (wn n (cg bk two oth)) x w < n * n → wnp n (cg bk two oth) (wn n (cg bk two oth)) x w (wnJ n (cg bk two oth) (wn n (cg bk two oth)) x w) = true := fun g => fa_first_yes _ _ g
  have hno : ∀ k, k < wnJ n (cg bk two oth) (wn n (cg bk two oth)) x w → wnp n (cg bk two oth) (wn n (cg bk two oth)) x w k = false := fun k hk => fa_first_no _ _ k hk
  unfold fX10_winsBy wmV
  generalize wnJ n (cg bk two oth) (wn n (cg bk two oth)) x w = J at *
  by_cases c : J < n * n
  · rw [if_pos c, lp_0 (s0 := 0) (N := J) (e := .inr (nI (mvk n J))) (fun k => nI k) rfl (fun k hk => by rw [step k (by omega), hno k hk]; rfl) (by rw [step J c, hyes c]; rfl) (by omega)]
    rfl
  · rw [if_neg c, lp_0 (s0 := 0) (N := n * n) (e := .inl ()) (fun k => nI k) rfl (fun k hk => by rw [step k (by omega), hno k (by omega)]; rfl) (by unfold fX10_winsBy_L2; rw [pk_mul, if_pos (nI_le (Nat.le_refl _) (by omega))]) (by omega)]
    rfl
theorem wmV_m1 {x w : Nat} {c : Nat → Nat → Nat → Bool} (hn : n ≤ 9) : wmV n c x w = -1 ↔ ¬ wnJ n c (wn n c) x w < n * n := by
  unfold wmV
  by_cases g : wnJ n c (wn n c) x w < n * n
  · rw [if_pos g]
    have := mvk_le hn g
    exact ⟨fun e => absurd e (nI_ne_m1 (by omega)), fun e => absurd g e⟩
  · rw [if_neg g]
    exact ⟨fun _ => g, fun _ => rfl⟩
set_option maxHeartbeats 400000 in
theorem game_40 (h : ED n bk) (hp : PB n bk) (hB : BO n bk sort par) (hG : HG n (cg bk two oth) (VO n o)) (hBI : BI (VO n o) S) (hL : BL n (cg bk two oth) o S) (hR : RM S pl row far wy mr) (h3 : ct 3 o n = 0) (hz : 8000 < z) {oI x1 x2 : Int32} :
    ∃ e, lp (fun sg => fX10_game_L40 z x1 x2 sg.1 (nI n) sort oI (nI S.1.length) row pl far wy sg.2 (b01 two) par (b01 oth)) z (72, mr) = some e ∧ MG n (cg bk two oth) S (fun _ => True) e := by
  have hl := hG.2.2 _ hBI
  have h9 := hp.1
  refine lp_rel0 (fun (i : Nat) (s : Int32 × (Nat → Int32)) => s.1 = nI (145 - i) - 73 ∧ MG n (cg bk two oth) S (fun q => 145 - i ≤ lv n bk (S.1.getD q 0)) s.2) _ 145 ⟨rfl, fun p hp' hd => ?_⟩ (fun i s hi hr => ?_) (fun s hr => ?_) (by omega)
  · have := lv_144 (o := S.1.getD p 0) h
    have hd : 145 - 0 ≤ lv n bk (S.1.getD p 0) := hd
    omega
  · obtain ⟨x, mk⟩ := s
    obtain ⟨r1, r2⟩ := hr
    dsimp only at r1 r2
    obtain ⟨L, hL2⟩ : ∃ L, 145 - i = L + 1 := ⟨145 - i - 1, by omega⟩
    rw [hL2] at r1 r2
    subst r1
    have hb1 := went_0 ⟨L + 1, by omega⟩
    have hb2 := went_s ⟨L, by omega⟩
    have hb3 := went_73 ⟨L, by omega⟩
    dsimp only at hb1 hb2 hb3
    show ∃ s', fX10_game_L40 z x1 x2 (nI (L + 1) - 73) (nI n) sort oI (nI S.1.length) row pl far wy mk (b01 two) par (b01 oth) = _ ∧ _
    unfold fX10_game_L40
    rw [if_neg (fun g => by have := hb1.mp g; omega)]
    have inner : ∃ e, lp (fun sg => fX10_game_L49 z x1 x2 (nI (L + 1) - 73) sg.1 (nI n) sort oI (nI S.1.length) row pl far wy sg.2 (b01 two) par (b01 oth)) z (0, mk) = some e ∧ MG n (cg bk two oth) S (fun q => L ≤ lv n bk (S.1.getD q 0)) e := by
      refine lp_rel0 (fun (p : Nat) (s : Int32 × (Nat → Int32)) => s.1 = nI p ∧ MG n (cg bk two oth) S (fun q => L < lv n bk (S.1.getD q 0) ∨ (lv n bk (S.1.getD q 0) = L ∧ q < p)) s.2) _ S.1.length ⟨rfl, fun q hq hd => r2 q hq ?_⟩ (fun p s hp' hr => ?_) (fun s hr => ?_) (by omega)
      · show L + 1 ≤ lv n bk (S.1.getD q 0)
        have hd : L < lv n bk (S.1.getD q 0) ∨ (lv n bk (S.1.getD q 0) = L ∧ q < 0) := hd
        omega
      · obtain ⟨x, mk⟩ := s
        obtain ⟨r1, r2⟩ := hr
        dsimp only at r1 r2
        subst r1
        have hx := getD_mem hp'
        have vx := hBI.2.1 _ hx
        have hx9 := hG.1 _ vx
        have hx3 := VO_3 h3 vx
        have l144 := lv_144 (o := S.1.getD p 0) h
        obtain ⟨a1, a2, a3, a4, a5⟩ := hR.1 p hp'
        show ∃ s', fX10_game_L49 z x1 x2 (nI (L + 1) - 73) (nI p) (nI n) sort oI (nI S.1.length) row pl far wy mk (b01 two) par (b01 oth) = _ ∧ _
        unfold fX10_game_L49
        rw [if_neg (nI_ge hp' (by omega)), hb3, agd_in (show p < 7560 by omega) (by decide), cl_nI (show p < 2 ^ 31 by omega), a1, wentBy_nI h hB hx9 (by omega), Option.bind_some]
        by_cases hlv : lv n bk (S.1.getD p 0) = L
        · have hM : MG n (cg bk two oth) S (fun q => lv n bk (S.1.getD p 0) < lv n bk (S.1.getD q 0)) mk := fun q hq hd => r2 q hq (Or.inl (by rw [← hlv]; exact hd))
          have done : ∀ {v : Nat}, v = wv n (cg bk two oth) (S.1.getD p 0) → MG n (cg bk two oth) S (fun q => L < lv n bk (S.1.getD q 0) ∨ (lv n bk (S.1.getD q 0) = L ∧ q < p + 1)) (upd mk p (nI v)) := by
            intro v hv q hq hd
            by_cases g : q = p
            · subst g
              rw [pk_us, hv]
            · rw [pk_un g]
              have hd : L < lv n bk (S.1.getD q 0) ∨ (lv n bk (S.1.getD q 0) = L ∧ q < p + 1) := hd
              exact r2 q hq (by show L < lv n bk (S.1.getD q 0) ∨ (lv n bk (S.1.getD q 0) = L ∧ q < p); omega)
          have ewv : wv n (cg bk two oth) (S.1.getD p 0) = wb (wn n (cg bk two oth) (S.1.getD p 0) 0) (wn n (cg bk two oth) (S.1.getD p 0) 1) := rfl
          rw [wn_eq h hx3 0, wn_eq h hx3 1] at ewv
          have q0 := wmV_m1 (x := S.1.getD p 0) (w := 0) (c := cg bk two oth) h9
          have q1 := wmV_m1 (x := S.1.getD p 0) (w := 1) (c := cg bk two oth) h9
          have s0 : fX10_winsBy z (nI (S.1.getD p 0)) 0 (nI n) (b01 two) sort par (b01 oth) pl mk = some (wmV n (cg bk two oth) (S.1.getD p 0) 0) := winsBy_nI (w := 0) h hp hB hG hBI hL hR h3 hz (by omega) hx hM
          have s1 : fX10_winsBy z (nI (S.1.getD p 0)) 1 (nI n) (b01 two) sort par (b01 oth) pl mk = some (wmV n (cg bk two oth) (S.1.getD p 0) 1) := winsBy_nI (w := 1) h hp hB hG hBI hL hR h3 hz (by omega) hx hM
          have j100 : ∀ t2 : Nat, fX10_game_J100 z x1 x2 (nI L - 72) (nI p) (nI p) (nI t2) (nI n) sort oI (nI S.1.length) row pl far wy mk (b01 two) par (b01 oth) = some (.inl (nI (p + 1), upd mk p (nI (t2 ||| (if wnJ n (cg bk two oth) (wn n (cg bk two oth)) (S.1.getD p 0) 1 < n * n then 2 else 0))))) := by
            intro t2
            unfold fX10_game_J100
            rw [agd_in (show p < 7560 by omega) (by decide), cl_nI (show p < 2 ^ 31 by omega), a1, s1, Option.bind_some, nI_1]
            by_cases b1 : wnJ n (cg bk two oth) (wn n (cg bk two oth)) (S.1.getD p 0) 1 < n * n
            · rw [if_neg (fun g => (q1.mp g) b1), if_pos b1, agd_in (show p < 7560 by omega) (by decide), show (2 : Int32) = nI 2 from rfl, fa_or]
            · rw [if_pos (q1.mpr b1), if_neg b1, agd_in (show p < 7560 by omega) (by decide), show (0 : Int32) = nI 0 from rfl, fa_or]
          have j0 := j100 0
          have j1 := j100 1
          rw [if_pos (by rw [hlv]), agd_in (show p < 7560 by omega) (by decide), s0, Option.bind_some]
          by_cases b0 : wnJ n (cg bk two oth) (wn n (cg bk two oth)) (S.1.getD p 0) 0 < n * n
          · rw [if_neg (fun g => (q0.mp g) b0)]
            refine ⟨_, j1, rfl, done ?_⟩
            rw [ewv, decide_eq_true b0]
            by_cases b1 : wnJ n (cg bk two oth) (wn n (cg bk two oth)) (S.1.getD p 0) 1 < n * n
            · rw [decide_eq_true b1, if_pos b1]
              rfl
            · rw [decide_eq_false b1, if_neg b1]
              rfl
          · rw [if_pos (q0.mpr b0)]
            refine ⟨_, j0, rfl, done ?_⟩
            rw [ewv, decide_eq_false b0]
            by_cases b1 : wnJ n (cg bk two oth) (wn n (cg bk two oth)) (S.1.getD p 0) 1 < n * n
            · rw [decide_eq_true b1, if_pos b1]
              rfl
            · rw [decide_eq_false b1, if_neg b1]
              rfl
        · rw [if_neg (fun g => hlv ((went_eq (by omega) (by omega)).mp g)), nI_1]
          refine ⟨_, rfl, rfl, fun q hq hd => r2 q hq ?_⟩
          have hd : L < lv n bk (S.1.getD q 0) ∨ (lv n bk (S.1.getD q 0) = L ∧ q < p + 1) := hd
          show L < lv n bk (S.1.getD q 0) ∨ (lv n bk (S.1.getD q 0) = L ∧ q < p)
          rcases hd with g | ⟨g1, g2⟩
          · exact Or.inl g
          · refine Or.inr ⟨g1, ?_⟩
            rcases Nat.lt_or_eq_of_le (Nat.le_of_lt_succ g2) with q1 | q1
            · exact q1
            · subst q1
              exact absurd g1 hlv
      · obtain ⟨x, mk⟩ := s
        obtain ⟨r1, r2⟩ := hr
        dsimp only at r1 r2
        subst r1
        show ∃ e, fX10_game_L49 z x1 x2 (nI (L + 1) - 73) (nI S.1.length) (nI n) sort oI (nI S.1.length) row pl far wy mk (b01 two) par (b01 oth) = _ ∧ _
        unfold fX10_game_L49
        rw [if_pos (nI_le (Nat.le_refl _) (by omega))]
        refine ⟨_, rfl, fun q hq hd => r2 q hq ?_⟩
        have hd : L ≤ lv n bk (S.1.getD q 0) := hd
        show L < lv n bk (S.1.getD q 0) ∨ (lv n bk (S.1.getD q 0) = L ∧ q < S.1.length)
        omega
    obtain ⟨e, k1, k2⟩ := inner
    rw [k1, Option.bind_some]
    unfold fX10_game_J129
    refine ⟨_, rfl, ?_, ?_⟩
    · show nI (L + 1) - 73 + (-1) = nI (145 - (i + 1)) - 73
      rw [hb2, show 145 - (i + 1) = L by omega]
    · show MG n (cg bk two oth) S (fun q => 145 - (i + 1) ≤ lv n bk (S.1.getD q 0)) e
      rw [show 145 - (i + 1) = L by omega]
      exact k2
  · obtain ⟨x, mk⟩ := s
    obtain ⟨r1, r2⟩ := hr
    dsimp only at r1 r2
    subst r1
    show ∃ e, fX10_game_L40 z x1 x2 (nI (145 - 145) - 73) (nI n) sort oI (nI S.1.length) row pl far wy mk (b01 two) par (b01 oth) = _ ∧ _
    unfold fX10_game_L40
    rw [if_pos (by decide)]
    exact ⟨_, rfl, fun p hp' _ => r2 p hp' (by show 145 - 145 ≤ lv n bk (S.1.getD p 0); omega)⟩
end RL
