/-! ===== by ===== -/
theorem pl_in {S : BS} {pl row far mr : Nat → Int32} {wy : Nat → Int64} {a : Nat} (hR : RM S pl row far wy mr) (ha : a < 262144) (hl : S.1.length ≤ 7560) (hin : a ∈ S.1) : ∃ p, p < S.1.length ∧ S.1.getD p 0 = a ∧ pl a - 1 = nI p := by
  rcases pl_get hR ha hl with ⟨p, h1, h2, h3, -⟩ | ⟨h1, -⟩
  · exact ⟨p, h1, h2, h3⟩
  · exact absurd hin h1
theorem sub_one_add (x : Int32) : x + (-1) = x - 1 := (Int32.sub_eq_add_neg x 1).symm
noncomputable def pth (n : Nat) (c : Nat → Nat → Nat → Bool) (far : Nat → Nat) (a x k : Nat) : Bool := c x (k / n) (k % n) && (far (mvd x (k / n) (k % n)) == far x + 1) && upB n c far (mvd x (k / n) (k % n)) a
/-- the marks from m on -/
def MKS (n : Nat) (c : Nat → Nat → Nat → Bool) (S : BS) (a m : Nat) (mr : Nat → Int32) : Prop :=
  (∀ p, m ≤ p → p < S.1.length → mr p = b01 (upB n c S.2.1 (S.1.getD p 0) a)) ∧ ∀ p, p < m → p < S.1.length → mr p = 0
section BY
variable {n : Nat} {bk : Nat → Nat} {bh par : Nat → Int32} {oth two : Bool} {o z a A : Nat} {sort : Int32} {S : BS} {pl row far mr mr0 : Nat → Int32} {wy : Nat → Int64}
theorem up_self {c : Nat → Nat → Nat → Bool} {far : Nat → Nat} : upB n c far a a = true := upB_iff.mpr ⟨0, rfl⟩
theorem upB_late {c : Nat → Nat → Nat → Bool} (hL : BL n c o S) (hN : S.1.Nodup) (hA : A < S.1.length) (ea : S.1.getD A 0 = a) {p : Nat} (hp : p < S.1.length) (hpA : p ≠ A) (hf : S.2.1 a ≤ S.2.1 (S.1.getD p 0)) : upB n c S.2.1 (S.1.getD p 0) a = false := by
  refine Bool.eq_false_iff.mpr (fun h => ?_)
  obtain ⟨d, hd⟩ := upB_iff.mp h
  have := up_far d _ a hd
  have d0 : d = 0 := by omega
  subst d0
  have hd : S.1.getD p 0 = a := hd
  exact hpA (getD_inj hN hp hA (by rw [hd, ea]))
theorem pth_up {c : Nat → Nat → Nat → Bool} {fa : Nat → Nat} {x : Nat} (hne : x ≠ a) : upB n c fa x a = decide (fa_first (pth n c fa a x) (n * n) < n * n) := by
  by_cases h : fa_first (pth n c fa a x) (n * n) < n * n
  · rw [decide_eq_true h]
    have := fa_first_yes _ _ h
    unfold pth at this
    simp only [Bool.and_eq_true, beq_iff_eq] at this
    obtain ⟨⟨h1, h2⟩, h3⟩ := this
    obtain ⟨d, hd⟩ := upB_iff.mp h3
    exact upB_iff.mpr ⟨d + 1, _, h, h1, h2, hd⟩
  · rw [decide_eq_false h]
    refine Bool.eq_false_iff.mpr (fun g => ?_)
    obtain ⟨d, hd⟩ := upB_iff.mp g
    cases d with
    | zero => exact hne hd
    | succ d =>
      obtain ⟨j, j1, j2, j3, j4⟩ := hd
      have := fa_first_no (pth n c fa a x) (n * n) j (by have := fa_first_le (pth n c fa a x) (n * n); omega)
      unfold pth at this
      rw [j2, j3, upB_iff.mpr ⟨d, j4⟩] at this
      simp at this
theorem by_60 (hp : PB n bk) (hB : BO n bk sort par) (hn0 : 0 < n) (hG : HG n (cg bk two oth) (VO n o)) (hBI : BI (VO n o) S) (hL : BL n (cg bk two oth) o S) (hR : RM S pl row far wy mr0) (hA : A < S.1.length) (ea : S.1.getD A 0 = a) {m : Nat} (hm : m < A) (hz : 8000 < z) {aI oI rI : Int32} (hM : MKS n (cg bk two oth) S a (m + 1) mr) :
    ∃ e, lp (fun sg => fX10_byNow_L60 z (nI A) (nI m) sg.1 aI pl rI sg.2 (nI n) far row (b01 two) sort par (b01 oth) oI) z (0, mr) = some e ∧ MKS n (cg bk two oth) S a m e := by
  have h9 := hp.1
  have hnn : n * n ≤ 81 := nn_81 h9
  have hl := hG.2.2 _ hBI
  have hmL : m < S.1.length := by omega
  have hx := getD_mem hmL
  have vx := hBI.2.1 _ hx
  have hx9 := hG.1 _ vx
  obtain ⟨a1, a2, a3, a4, a5⟩ := hR.1 m hmL
  obtain ⟨b1, b2, b3, b4, b5⟩ := hR.1 A hA
  rw [ea] at b2
  have fx := hBI.2.2 _ hx
  have fa := hBI.2.2 _ (ea ▸ getD_mem hA)
  have m0 := hM.2 m (by omega) hmL
  have hnx : S.1.getD m 0 ≠ a := fun e => by
    have := getD_inj hBI.1 hmL hA (by rw [e, ea])
    omega
  have keep : upB n (cg bk two oth) S.2.1 (S.1.getD m 0) a = false → MKS n (cg bk two oth) S a m mr := fun hf => by
    refine ⟨fun p h1 h2 => ?_, fun p h1 h2 => hM.2 p (by omega) h2⟩
    rcases Nat.eq_or_lt_of_le h1 with e | e
    · subst e
      rw [m0, hf]
      rfl
    · exact hM.1 p e h2
  by_cases hf : S.2.1 a ≤ S.2.1 (S.1.getD m 0)
  · have hu := upB_late hL hBI.1 hA ea hmL (by omega) hf
    refine ⟨mr, ?_, keep hu⟩
    obtain ⟨w, rfl⟩ : ∃ w, z = w + 1 := ⟨z - 1, by omega⟩
    refine lp_out ?_
    show fX10_byNow_L60 (w + 1) (nI A) (nI m) 0 aI pl rI mr (nI n) far row (b01 two) sort par (b01 oth) oI = some (.inr mr)
    unfold fX10_byNow_L60
    rw [pk_mul, if_neg (show ¬ nI (n * n) ≤ 0 from nI_nle (Nat.mul_pos hn0 hn0) (by omega)), agd_in (show m < 7560 by omega) (by decide), cl_nI (show m < 2 ^ 31 by omega), m0, if_pos rfl, agd_in (show m < 7560 by omega) (by decide), agd_in (show A < 7560 by omega) (by decide), cl_nI (show A < 2 ^ 31 by omega), b2, a2, if_pos (nI_le hf (by omega))]
  · have hf : S.2.1 (S.1.getD m 0) < S.2.1 a := by omega
    generalize hJ : fa_first (pth n (cg bk two oth) S.2.1 a (S.1.getD m 0)) (n * n) = J
    have hJle : J ≤ n * n := hJ ▸ fa_first_le _ _
    have hup := pth_up (n := n) (c := cg bk two oth) (fa := S.2.1) hnx
    rw [hJ] at hup
    have step : ∀ k, k < n * n → fX10_byNow_L60 z (nI A) (nI m) (nI k) aI pl rI mr (nI n) far row (b01 two) sort par (b01 oth) oI = some (.inl (nI (k + 1), if pth n (cg bk two oth) S.2.1 a (S.1.getD m 0) k then upd mr m 1 else mr)) := by
      intro k hk
      have hdv : k / n < n := Nat.div_lt_of_lt_mul hk
      have hmd : k % n < n := Nat.mod_lt _ hn0
      have u0 : upd mr m 0 = mr := fa_upd_same m0
      unfold fX10_byNow_L60
      rw [pk_mul, if_neg (nI_ge hk (by omega)), agd_in (show m < 7560 by omega) (by decide), cl_nI (show m < 2 ^ 31 by omega), m0, if_pos rfl, agd_in (show m < 7560 by omega) (by decide), agd_in (show A < 7560 by omega) (by decide), cl_nI (show A < 2 ^ 31 by omega), b2, a2, if_neg (nI_ge hf (by omega)), agd_in (show m < 7560 by omega) (by decide), dgd_ne (nI_ne0 hn0 (by omega)), dgd_ne (nI_ne0 hn0 (by omega)), a1, pk_div (by omega) hn0 (by omega), rem_nI (by omega) hn0 (by omega), canGo_nI hp hB hx9 hdv hmd (by omega), Option.bind_some, nI_1]
      cases hc : cg bk two oth (S.1.getD m 0) (k / n) (k % n) with
      | false =>
        rw [if_pos (show b01 false = 0 from rfl)]
        have : pth n (cg bk two oth) S.2.1 a (S.1.getD m 0) k = false := by unfold pth; rw [hc]; rfl
        rw [this]
        rfl
      | true =>
        obtain ⟨f1, f2, f3⟩ := cg_facts hc
        obtain ⟨q1, -⟩ := hL.2.2.2.2.1 _ hx k hk hc
        have q9 := hG.1 _ (hBI.2.1 _ q1)
        have fq := hBI.2.2 _ q1
        obtain ⟨pq, p1, p2, p3⟩ := pl_in hR q9 hl q1
        obtain ⟨d1, d2, d3, d4, d5⟩ := hR.1 pq p1
        rw [p2] at d2
        rw [if_neg (show ¬ b01 true = 0 by decide), agd_in (show m < 7560 by omega) (by decide), dgd_ne (nI_ne0 hn0 (by omega)), dgd_ne (nI_ne0 hn0 (by omega)), moved_nI hx9 (by omega) (by omega) f3 f2, agd_in (show _ < 262144 from q9) (by decide), cl_nI (show mvd (S.1.getD m 0) (k / n) (k % n) < 2 ^ 31 from Nat.lt_of_lt_of_le q9 (by decide)), p3, agd_in (show pq < 7560 by omega) (by decide), cl_nI (show pq < 2 ^ 31 by omega), d2]
        by_cases g : S.2.1 (mvd (S.1.getD m 0) (k / n) (k % n)) = S.2.1 (S.1.getD m 0) + 1
        · have hpq : m + 1 ≤ pq := by
            rcases Nat.lt_or_ge m pq with e | e
            · exact e
            · have := hL.2.2.2.1 pq m e hmL
              rw [p2] at this
              omega
          have e1 := hM.1 pq hpq p1
          rw [p2] at e1
          have ep : pth n (cg bk two oth) S.2.1 a (S.1.getD m 0) k = upB n (cg bk two oth) S.2.1 (mvd (S.1.getD m 0) (k / n) (k % n)) a := by
            unfold pth
            rw [hc, g]
            simp
          rw [e1, ep]
          cases hu : upB n (cg bk two oth) S.2.1 (mvd (S.1.getD m 0) (k / n) (k % n)) a with
          | false =>
            rw [if_neg (show ¬ b01 false = 1 by decide), agd_in (show m < 7560 by omega) (by decide), u0]
            rfl
          | true =>
            rw [if_pos (show b01 true = 1 from rfl), agd_in (show pq < 7560 by omega) (by decide), agd_in (show m < 7560 by omega) (by decide), nI_1 (S.2.1 (S.1.getD m 0)), g, if_pos rfl, agd_in (show m < 7560 by omega) (by decide)]
            rfl
        · have ep : pth n (cg bk two oth) S.2.1 a (S.1.getD m 0) k = false := by
            unfold pth
            rw [beq_eq_false_iff_ne.mpr g]
            simp
          have g2 : ¬ nI (S.2.1 (mvd (S.1.getD m 0) (k / n) (k % n))) = nI (S.2.1 (S.1.getD m 0) + 1) := fun e => g ((nI_eq (by omega) (by omega)).mp e)
          rw [ep, if_neg (show ¬ (false = true) by decide)]
          split
          · rw [agd_in (show pq < 7560 by omega) (by decide), agd_in (show m < 7560 by omega) (by decide), nI_1 (S.2.1 (S.1.getD m 0)), if_neg g2, agd_in (show m < 7560 by omega) (by decide), u0]
          · rw [agd_in (show m < 7560 by omega) (by decide), u0]
    by_cases hJn : J < n * n
    · have hyes := fa_first_yes (pth n (cg bk two oth) S.2.1 a (S.1.getD m 0)) (n * n) (by rw [hJ]; exact hJn)
      rw [hJ] at hyes
      refine ⟨upd mr m 1, ?_, ⟨fun p h1 h2 => ?_, fun p h1 h2 => ?_⟩⟩
      · refine lp_0 (fun k => if k ≤ J then (nI k, mr) else (nI k, upd mr m 1)) (N := J + 1) (by rw [if_pos (Nat.zero_le _)]; rfl) (fun i hi => ?_) ?_ (by omega)
        · rw [if_pos (show i ≤ J by omega)]
          show fX10_byNow_L60 z (nI A) (nI m) (nI i) aI pl rI mr (nI n) far row (b01 two) sort par (b01 oth) oI = _
          rw [step i (by omega)]
          by_cases e : i = J
          · subst e
            rw [hyes, if_pos rfl, if_neg (by omega)]
          · have := fa_first_no (pth n (cg bk two oth) S.2.1 a (S.1.getD m 0)) (n * n) i (by rw [hJ]; omega)
            rw [this, if_neg (by decide), if_pos (by omega)]
        · rw [if_neg (by omega)]
          show fX10_byNow_L60 z (nI A) (nI m) (nI (J + 1)) aI pl rI (upd mr m 1) (nI n) far row (b01 two) sort par (b01 oth) oI = _
          unfold fX10_byNow_L60
          rw [pk_mul]
          by_cases e : n * n ≤ J + 1
          · rw [if_pos (nI_le e (by omega))]
          · rw [if_neg (nI_ge (by omega) (by omega)), agd_in (show m < 7560 by omega) (by decide), cl_nI (show m < 2 ^ 31 by omega), pk_us, if_neg (show ¬ (1 : Int32) = 0 by decide)]
      · rcases Nat.eq_or_lt_of_le h1 with e | e
        · subst e
          rw [pk_us, hup, decide_eq_true hJn]
          rfl
        · rw [pk_un (by omega)]
          exact hM.1 p e h2
      · rw [pk_un (by omega)]
        exact hM.2 p (by omega) h2
    · have hJe : J = n * n := by omega
      refine ⟨mr, ?_, keep (by rw [hup, decide_eq_false hJn])⟩
      refine lp_0 (fun k => (nI k, mr)) (N := n * n) rfl (fun i hi => ?_) ?_ (by omega)
      · show fX10_byNow_L60 z (nI A) (nI m) (nI i) aI pl rI mr (nI n) far row (b01 two) sort par (b01 oth) oI = _
        rw [step i hi]
        have := fa_first_no (pth n (cg bk two oth) S.2.1 a (S.1.getD m 0)) (n * n) i (by rw [hJ]; omega)
        rw [this, if_neg (by decide)]
      · show fX10_byNow_L60 z (nI A) (nI m) (nI (n * n)) aI pl rI mr (nI n) far row (b01 two) sort par (b01 oth) oI = _
        unfold fX10_byNow_L60
        rw [pk_mul, if_pos (nI_le (Nat.le_refl _) (by omega))]
theorem byNow_nI (hp : PB n bk) (hB : BO n bk sort par) (hn0 : 0 < n) (ho : o < 4 ^ n) (hz : 8000 < z) (hR : RM (bf n (cg bk two oth) o) pl row far wy mr) (ha : VO n o a) :
    ∃ mr', fX10_byNow z (nI a) pl (nI (bf n (cg bk two oth) o).1.length) mr (nI n) far row (b01 two) sort par (b01 oth) (nI o) = some (fiV (bf n (cg bk two oth) o) a, mr') := by
  have h9 := hp.1
  have hnn : n * n ≤ 81 := nn_81 h9
  have hG := VO_HG (two := two) (oth := oth) (bk := bk) (o := o) hp.1
  have hBI := bf_BI hG hn0 (VO_self ho)
  have hL := bf_BL hG hn0 (VO_self ho)
  have hl := hG.2.2 _ hBI
  have h0in : o ∈ (bf n (cg bk two oth) o).1 := bf_mem
  generalize bf n (cg bk two oth) o = S at *
  have a9 : a < 262144 := o9 h9 ha.1
  have oo9 : o < 4 ^ 9 := o9 h9 ho
  unfold fX10_byNow
  rw [agd_in a9 (by decide), cl_nI (by omega)]
  rcases pl_get hR a9 hl with ⟨A, hA, ea, e1, hin⟩ | ⟨hnot, e1⟩
  · rw [e1]
    unfold fiV
    rw [if_pos hin]
    by_cases hA0 : A = 0
    · subst hA0
      rw [if_neg (show ¬ (0 : Int32) < nI 0 by decide), ← ea, hL.1, hL.2.2.1]
      exact ⟨mr, rfl⟩
    · rw [if_pos (show (0 : Int32) < nI A from nI_lt (a := 0) (b := A) (by omega) (by omega))]
      have hao : a ≠ o := fun e => hA0 (getD_inj hBI.1 hA (by omega) (by rw [ea, hL.1, e]))
      have first : ∃ e, lp (fun sg => fX10_byNow_L20 z (nI A) sg.1 (nI a) pl (nI S.1.length) sg.2 (nI n) far row (b01 two) sort par (b01 oth) (nI o)) z (0, mr) = some e ∧ ∀ p, p < S.1.length → e p = if p = A then 1 else 0 := by
        refine lp_rel0 (fun (k : Nat) (s : Int32 × (Nat → Int32)) => s.1 = nI k ∧ ∀ p, p < k → s.2 p = if p = A then 1 else 0) _ S.1.length ⟨rfl, fun p hp => by omega⟩ (fun k s hk hr => ?_) (fun s hr => ?_) (by omega)
        · obtain ⟨x, mk⟩ := s
          obtain ⟨r1, r2⟩ := hr
          dsimp only at r1 r2
          subst r1
          show ∃ s', fX10_byNow_L20 z (nI A) (nI k) (nI a) pl (nI S.1.length) mk (nI n) far row (b01 two) sort par (b01 oth) (nI o) = _ ∧ _
          unfold fX10_byNow_L20
          rw [if_neg (nI_ge hk (by omega)), nI_1]
          by_cases e : k = A
          · rw [if_pos (by rw [e]), agd_in (show k < 7560 by omega) (by decide), cl_nI (by omega)]
            refine ⟨_, rfl, rfl, fun p hp => ?_⟩
            show upd mk k 1 p = _
            by_cases f : p = k
            · rw [f, pk_us, if_pos e]
            · rw [pk_un f]; exact r2 p (by omega)
          · rw [if_neg (fun h => e ((nI_eq (by omega) (by omega)).mp h)), agd_in (show k < 7560 by omega) (by decide), cl_nI (by omega)]
            refine ⟨_, rfl, rfl, fun p hp => ?_⟩
            show upd mk k 0 p = _
            by_cases f : p = k
            · rw [f, pk_us, if_neg e]
            · rw [pk_un f]; exact r2 p (by omega)
        · obtain ⟨x, mk⟩ := s
          obtain ⟨r1, r2⟩ := hr
          dsimp only at r1 r2
          subst r1
          show ∃ e, fX10_byNow_L20 z (nI A) (nI S.1.length) (nI a) pl (nI S.1.length) mk (nI n) far row (b01 two) sort par (b01 oth) (nI o) = _ ∧ _
          unfold fX10_byNow_L20
          rw [if_pos (nI_le (Nat.le_refl _) (by omega))]
          exact ⟨_, rfl, r2⟩
      obtain ⟨mr1, g1, g2⟩ := first
      rw [g1, Option.bind_some]
      unfold fX10_byNow_J50
      have start : MKS n (cg bk two oth) S a A mr1 := by
        refine ⟨fun p h1 h2 => ?_, fun p h1 h2 => ?_⟩
        · rw [g2 p h2]
          by_cases e : p = A
          · rw [if_pos e, e, ea, up_self]
            rfl
          · rw [if_neg e, upB_late hL hBI.1 hA ea h2 e (by rw [← ea]; exact hL.2.2.2.1 A p h1 h2)]
            rfl
        · rw [g2 p h2, if_neg (by omega)]
      have second : ∃ e, lp (fun sg => fX10_byNow_L54 z (nI A) sg.1 (nI a) pl (nI S.1.length) sg.2 (nI n) far row (b01 two) sort par (b01 oth) (nI o)) z (nI A - 1, mr1) = some e ∧ MKS n (cg bk two oth) S a 0 e := by
        refine lp_rel0 (fun (i : Nat) (s : Int32 × (Nat → Int32)) => s.1 = nI (A - i) - 1 ∧ MKS n (cg bk two oth) S a (A - i) s.2) _ A ⟨rfl, start⟩ (fun i s hi hr => ?_) (fun s hr => ?_) (by omega)
        · obtain ⟨x, mk⟩ := s
          obtain ⟨r1, r2⟩ := hr
          dsimp only at r1 r2
          obtain ⟨m, hm⟩ : ∃ m, A - i = m + 1 := ⟨A - i - 1, by omega⟩
          rw [hm] at r1 r2
          rw [nI_pred] at r1
          subst r1
          show ∃ s', fX10_byNow_L54 z (nI A) (nI m) (nI a) pl (nI S.1.length) mk (nI n) far row (b01 two) sort par (b01 oth) (nI o) = _ ∧ _
          unfold fX10_byNow_L54
          rw [if_neg (nI_pos (by omega))]
          obtain ⟨e, k1, k2⟩ := by_60 (z := z) (aI := nI a) (oI := nI o) (rI := nI S.1.length) hp hB hn0 hG hBI hL hR hA ea (by omega) hz r2
          rw [k1, Option.bind_some]
          unfold fX10_byNow_J198
          refine ⟨_, rfl, ?_, ?_⟩
          · show nI m + (-1) = nI (A - (i + 1)) - 1
            rw [sub_one_add, show A - (i + 1) = m by omega]
          · show MKS n (cg bk two oth) S a (A - (i + 1)) e
            rw [show A - (i + 1) = m by omega]
            exact k2
        · obtain ⟨x, mk⟩ := s
          obtain ⟨r1, r2⟩ := hr
          dsimp only at r1 r2
          rw [Nat.sub_self] at r1 r2
          subst r1
          show ∃ e, fX10_byNow_L54 z (nI A) (nI 0 - 1) (nI a) pl (nI S.1.length) mk (nI n) far row (b01 two) sort par (b01 oth) (nI o) = _ ∧ _
          unfold fX10_byNow_L54
          rw [if_pos (by decide)]
          exact ⟨_, rfl, r2⟩
      obtain ⟨mr2, g3, g4⟩ := second
      rw [g3, Option.bind_some]
      unfold fX10_byNow_J204
      obtain ⟨hK, hfi⟩ := byJ_fst hL h9 hn0 hin hao h0in
      have hyes : byp n (cg bk two oth) S.2.1 o a (byJ n (cg bk two oth) S.2.1 o a) = true := fa_first_yes _ _ hK
      have hno : ∀ k, k < byJ n (cg bk two oth) S.2.1 o a → byp n (cg bk two oth) S.2.1 o a k = false := fun k hk => fa_first_no _ _ k hk
      have step : ∀ k, k < n * n → fX10_byNow_L206 z (nI k) (nI a) pl (nI S.1.length) mr2 (nI n) far row (b01 two) sort par (b01 oth) (nI o) = some (if byp n (cg bk two oth) S.2.1 o a k then .inr (.inr (nI (mvk n k), mr2)) else .inl (nI (k + 1))) := by
        intro k hk
        have hdv : k / n < n := Nat.div_lt_of_lt_mul hk
        have hmd : k % n < n := Nat.mod_lt _ hn0
        unfold fX10_byNow_L206
        rw [pk_mul, if_neg (nI_ge hk (by omega)), dgd_ne (nI_ne0 hn0 (by omega)), dgd_ne (nI_ne0 hn0 (by omega)), pk_div (by omega) hn0 (by omega), rem_nI (by omega) hn0 (by omega), canGo_nI hp hB oo9 hdv hmd (by omega), Option.bind_some, nI_1]
        unfold byp
        cases hc : cg bk two oth o (k / n) (k % n) with
        | false =>
          rw [if_pos (show b01 false = 0 from rfl)]
          rfl
        | true =>
          obtain ⟨f1, f2, f3⟩ := cg_facts hc
          obtain ⟨q1, -⟩ := hL.2.2.2.2.1 _ h0in k hk hc
          have q9 := hG.1 _ (hBI.2.1 _ q1)
          have fq := hBI.2.2 _ q1
          obtain ⟨pq, p1, p2, p3⟩ := pl_in hR q9 hl q1
          obtain ⟨d1, d2, d3, d4, d5⟩ := hR.1 pq p1
          rw [p2] at d2
          have e1 := g4.1 pq (Nat.zero_le _) p1
          rw [p2] at e1
          rw [if_neg (show ¬ b01 true = 0 by decide), dgd_ne (nI_ne0 hn0 (by omega)), dgd_ne (nI_ne0 hn0 (by omega)), moved_nI oo9 (by omega) (by omega) f3 f2, agd_in (show _ < 262144 from q9) (by decide), cl_nI (show mvd o (k / n) (k % n) < 2 ^ 31 from Nat.lt_of_lt_of_le q9 (by decide)), p3, agd_in (show pq < 7560 by omega) (by decide), cl_nI (show pq < 2 ^ 31 by omega), d2, e1]
          cases hu : upB n (cg bk two oth) S.2.1 (mvd o (k / n) (k % n)) a with
          | false =>
            rw [if_neg (show ¬ b01 false = 1 by decide), Bool.and_false]
            rfl
          | true =>
            rw [if_pos (show b01 true = 1 from rfl), agd_in (show pq < 7560 by omega) (by decide)]
            by_cases g : S.2.1 (mvd o (k / n) (k % n)) = 1
            · rw [g, if_pos (show nI 1 = 1 from rfl), dgd_ne (nI_ne0 hn0 (by omega)), dgd_ne (nI_ne0 hn0 (by omega))]
              rw [show (16 : Int32) = nI 16 from rfl, pk_mul, nI_add]
              rfl
            · rw [if_neg (show ¬ nI (S.2.1 (mvd o (k / n) (k % n))) = 1 from fun e => g ((nI_eq (b := 1) (by omega) (by decide)).mp e)), beq_eq_false_iff_ne.mpr g]
              rfl
      have third : lp (fun sg => fX10_byNow_L206 z sg (nI a) pl (nI S.1.length) mr2 (nI n) far row (b01 two) sort par (b01 oth) (nI o)) z 0 = some (.inr (nI (mvk n (byJ n (cg bk two oth) S.2.1 o a)), mr2)) := by
        refine lp_0 (fun k => nI k) (N := byJ n (cg bk two oth) S.2.1 o a) rfl (fun i hi => ?_) ?_ (by omega)
        · rw [step i (by omega), hno i hi]
          rfl
        · rw [step _ hK, hyes]
          rfl
      rw [third, Option.bind_some, hfi]
      exact ⟨mr2, rfl⟩
  · rw [e1, if_neg (by decide)]
    unfold fiV
    rw [if_neg hnot]
    exact ⟨mr, rfl⟩
theorem by_pair {e l rm : Nat} {ls hn T st fs od mo wi : Nat → Int32} {rw : Nat → Int64} {lb al re stk fa sta sd xl ha xa ma : Int32} (hp : PB n bk) (hb : BH n bk bh) (hB : BO n bk sort par) (hl : 0 < n → xl = nI (lpN two)) (ho : o < 4 ^ n) (hz : 8000 < z) (hel : e ≤ l) (hA : AM n o ha xa ma) (hS : 0 < n → SE n bk two oth o e l lb ls hn al st re stk fa rw fs od sta sd mo wi) (hR : RZ rm pl row) :
    ∃ r st' re' stk' fa' rw' fs' od' T' sta' sd' l' pl' rm' row' far' wy' mr', fX9_by z ha (nI o) sd sta al st lb ls hn re rw fs od T (nI n) xl bh (b01 oth) stk (nI l) xa fa = some (r, st', re', stk', fa', rw', fs', od', T', sta', sd', nI l') ∧ fX10_by z (nI n) ma (nI rm) row pl (nI o) far wy mr (b01 two) sort par (b01 oth) = some (r, pl', nI rm', row', far', wy', mr') ∧
      e ≤ l' ∧ l' ≤ l + 1 ∧ (0 < n → SE n bk two oth o e l' lb ls hn al st' re' stk' fa' rw' fs' od' sta' sd' mo wi) ∧ RZ rm' pl' row' := by
  unfold fX9_by fX10_by
  rcases hA with ⟨rfl, rfl⟩ | ⟨rfl, hn0, a, rfl, rfl, hV⟩
  · rw [if_pos rfl, noAim_m1, if_neg (show ¬ (1 : Int32) = 0 by decide)]
    exact ⟨_, st, re, stk, fa, rw, fs, od, T, sta, sd, l, pl, rm, row, far, wy, mr, rfl, rfl, hel, by omega, hS, hR⟩
  · have ha9 := o9 hp.1 hV.1
    obtain ⟨st', re', stk', fa', rw', fs', od', T', sd', l', k1, k2, k3, k4, k5⟩ := look_SE (z := z) (T := T) (bh := bh) hp hb hn0 ho hz hel (hS hn0)
    obtain ⟨num, A, g1, g2, g3, g4, g5, g6, g7⟩ := SE_get hp.1 ho k5 k2
    obtain ⟨pl', row', far', wy', mr', y1, y2, y3⟩ := lay_RZ (z := z) (two := two) (oth := oth) (far := far) (mr := mr) (wy := wy) hp hB hn0 ho hz hR
    have hG := VO_HG (two := two) (oth := oth) (bk := bk) (o := o) hp.1
    have hBI := bf_BI hG hn0 (VO_self ho)
    have hlen := hG.2.2 _ hBI
    obtain ⟨mr2, y4⟩ := byNow_nI (z := z) hp hB hn0 ho hz y2 hV
    rw [if_neg (show ¬ (1 : Int32) = 0 by decide), hl hn0, k1, Option.bind_some, firstTo_nI g3 hBI hlen g6.1 hV, Option.bind_some, noAim_a hn0 (by have := hp.1; omega) (o31 hp.1 hV.1), if_pos rfl, y1, Option.bind_some, y4, Option.bind_some]
    generalize fiV (bf n (cg bk two oth) o) a = ff
    generalize (bf n (cg bk two oth) o).1.length = N at y3 ⊢
    exact ⟨ff, st', re', stk', fa', rw', fs', od', T', nI o, sd', l', pl', N, row', far', wy', mr2, rfl, rfl, k3, k4, fun _ => k5, y3⟩
end BY
