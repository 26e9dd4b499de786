/-! ===== children ===== -/
def aJ (n : Nat) (c : Nat → Nat → Nat → Bool) (o s : Nat) : Nat := fa_first (c o s) n
/-- after the least move of a stone's frog -/
def aL (n : Nat) (c : Nat → Nat → Nat → Bool) (o s : Nat) : Nat := if aJ n c o s < n then mvd o s (aJ n c o s) else o
def fc (o s : Nat) : Nat := fb_ct (fun i => kd o i != 0) s
/-- the stone of the i-th frog -/
def sF (n o i : Nat) : Nat := fa_first (fun s => kd o s != 0 && fc o s == i) n
theorem fc_succ (o s : Nat) : fc o (s + 1) = fc o s + (if kd o s = 0 then 0 else 1) := by
  unfold fc
  rw [fb_ct_succ]
  by_cases c : kd o s = 0 <;> simp [c]
theorem fc_fr (n o : Nat) : fc o n = fr n o := by
  have h1 := ct_sum o n
  have h2 := fb_ct_not (fun i => kd o i == 0) n
  have e1 : fb_ct (fun i => kd o i == 0) n = ct 0 o n := rfl
  have e2 : fb_ct (fun k => !(kd o k == 0)) n = fc o n := rfl
  unfold fr
  omega
section CH
variable {n : Nat} {bk : Nat → Nat} {bh par T : Nat → Int32} {oth two : Bool} {o i z : Nat} {sort xl : Int32}
theorem sF_ok (hi : i < fr n o) : sF n o i < n ∧ kd o (sF n o i) ≠ 0 ∧ fc o (sF n o i) = i := by
  rw [← fc_fr] at hi
  obtain ⟨s, s1, s2, s3⟩ := fb_ct_kth hi
  have hle : sF n o i ≤ n := fa_first_le _ _
  have hlt : sF n o i < n := by
    rcases Nat.lt_or_ge (sF n o i) n with q | q
    · exact q
    · exfalso
      have := fa_first_no (fun s => kd o s != 0 && fc o s == i) n s (by show s < sF n o i; omega)
      have h1 : (kd o s != 0) = true := s2
      have h2 : fc o s = i := s3
      rw [h1, h2] at this
      simp at this
  have hy := fa_first_yes (fun s => kd o s != 0 && fc o s == i) n hlt
  simp only [Bool.and_eq_true, bne_iff_ne, beq_iff_eq] at hy
  exact ⟨hlt, hy.1, hy.2⟩
theorem aL_V {bk : Nat → Nat} {s q0 : Nat} (hn : n ≤ 9) (hV : VO n q0 o) (hs : s < n) : VO n q0 (aL n (cg bk two oth) o s) := by
  unfold aL
  by_cases c : aJ n (cg bk two oth) o s < n
  · rw [if_pos c]
    have hy := fa_first_yes (cg bk two oth o s) n c
    exact ((VO_HG (n := n) (o := q0) hn).2.1 o s _ hV hs c hy).1
  · rw [if_neg c]; exact hV
theorem afterLeast_nI (hp : PB n bk) (ho : o < 4 ^ 9) {s : Nat} (hs : s < n) (hz : 20 < z) : fX3_afterLeastOf z (nI o) (nI s) (nI n) (tf T (mk bk two oth o n)) = some (nI (aL n (cg bk two oth) o s)) := by
  have hn := hp.1
  have hm := mk_lt (two := two) (oth := oth) (o := o) hp n (Nat.le_refl _) s
  unfold fX3_afterLeastOf aL
  have hle : aJ n (cg bk two oth) o s ≤ n := fa_first_le _ _
  have step : ∀ t, t < aJ n (cg bk two oth) o s → fX3_afterLeastOf_L2 z (nI o) (nI s) (nI t) (nI n) (tf T (mk bk two oth o n)) = some (.inl (nI (t + 1))) := by
    intro t ht
    have hno := fa_first_no (cg bk two oth o s) n t ht
    unfold fX3_afterLeastOf_L2
    rw [if_neg (nI_ge (by omega) (by omega)), has_nI (by omega) (by omega) hm, mk_cg hp ho hs (by omega), hno, Option.bind_some, if_pos (show b01 false = 0 from rfl), nI_1]
  by_cases c : aJ n (cg bk two oth) o s < n
  · have hy : cg bk two oth o s (aJ n (cg bk two oth) o s) = true := fa_first_yes (cg bk two oth o s) n c
    rw [if_pos c, lp_0 (f := fun sg => fX3_afterLeastOf_L2 z (nI o) (nI s) sg (nI n) (tf T (mk bk two oth o n))) (z := z) (s0 := 0) (N := aJ n (cg bk two oth) o s) (e := .inr (nI (mvd o s (aJ n (cg bk two oth) o s)))) (fun t => nI t) rfl step (by
      show fX3_afterLeastOf_L2 z (nI o) (nI s) (nI (aJ n (cg bk two oth) o s)) (nI n) (tf T (mk bk two oth o n)) = _
      unfold fX3_afterLeastOf_L2
      rw [if_neg (nI_ge c (by omega)), has_nI (by omega) (by omega) hm, mk_cg hp ho hs c, hy, Option.bind_some, if_neg (show ¬ b01 true = 0 by decide), afterMove_nI ho (by omega) (by omega)]) (by omega)]
    rfl
  · rw [if_neg c, lp_0 (f := fun sg => fX3_afterLeastOf_L2 z (nI o) (nI s) sg (nI n) (tf T (mk bk two oth o n))) (z := z) (s0 := 0) (N := n) (e := .inl ()) (fun t => nI t) rfl (fun t ht => step t (by omega)) (by
      show fX3_afterLeastOf_L2 z (nI o) (nI s) (nI n) (nI n) (tf T (mk bk two oth o n)) = _
      unfold fX3_afterLeastOf_L2
      rw [if_pos (nI_le (Nat.le_refl _) (by omega))]) (by omega)]
    rfl
theorem stoneOf_nI (hn : n ≤ 9) (ho : o < 4 ^ 9) (hi : i < fr n o) (hz : 20 < z) : fX0_stoneOfFrog z (nI o) (nI i) = some (nI (sF n o i)) := by
  obtain ⟨h1, h2, h3⟩ := sF_ok hi
  have ho2 : o < 2 ^ 31 := Nat.lt_of_lt_of_le ho (by decide)
  have hfr := fr_le n o
  unfold fX0_stoneOfFrog
  rw [lp_0 (f := fun sg => fX0_stoneOfFrog_L4 z (nI o) (nI i) sg.1 sg.2) (z := z) (s0 := (0, 0)) (N := sF n o i) (e := .inr (nI (sF n o i))) (fun s => (nI (fc o s), nI s)) rfl (fun s hs => by
    have hno := fa_first_no (fun s => kd o s != 0 && fc o s == i) n s hs
    have hk := kd_lt o s
    have hfc : fc o s ≤ s := fb_ct_le _ s
    show fX0_stoneOfFrog_L4 z (nI o) (nI i) (nI (fc o s)) (nI s) = _
    unfold fX0_stoneOfFrog_L4
    rw [if_neg (nI9 (by omega)), kindAt_nI ho2 (by omega), fc_succ]
    by_cases c : kd o s = 0
    · rw [if_pos (by rw [c]; rfl), if_pos c, nI_1]; rfl
    · have hne : ¬ fc o s = i := by simpa [c] using hno
      rw [if_neg (nI_ne0 (by omega) (by omega)), if_neg (nlit (by omega) (by omega) hne), if_neg c, nI_1, nI_1]) (by
    have hk := kd_lt o (sF n o i)
    show fX0_stoneOfFrog_L4 z (nI o) (nI i) (nI (fc o (sF n o i))) (nI (sF n o i)) = _
    unfold fX0_stoneOfFrog_L4
    rw [if_neg (nI9 (by omega)), kindAt_nI ho2 (by omega), if_neg (nI_ne0 (by omega) (by omega)), h3, if_pos rfl]) (by omega)]
  rfl
theorem letGo_27 (hp : PB n bk) (hB : BO n bk sort par) (ho : o < 4 ^ 9) {s : Nat} (hs : s < n) (hz : 20 < z) (i : Nat) : lp (fun sg => fX10_letGo_L27 z (nI o) (nI i) (nI i) (nI s) sg (nI n) (b01 two) sort par (b01 oth)) z 0 = some (if aJ n (cg bk two oth) o s < n then .inr (nI (mvd o s (aJ n (cg bk two oth) o s))) else .inl ()) := by
  have hn := hp.1
  have hle : aJ n (cg bk two oth) o s ≤ n := fa_first_le _ _
  have step : ∀ t, t < aJ n (cg bk two oth) o s → fX10_letGo_L27 z (nI o) (nI i) (nI i) (nI s) (nI t) (nI n) (b01 two) sort par (b01 oth) = some (.inl (nI (t + 1))) := by
    intro t ht
    have hno := fa_first_no (cg bk two oth o s) n t ht
    unfold fX10_letGo_L27
    rw [if_neg (nI_ge (by omega) (by omega)), if_pos rfl, canGo_nI hp hB ho hs (by omega) (by omega), hno, Option.bind_some, if_pos (show b01 false = 0 from rfl), nI_1]
  by_cases c : aJ n (cg bk two oth) o s < n
  · have hy : cg bk two oth o s (aJ n (cg bk two oth) o s) = true := fa_first_yes (cg bk two oth o s) n c
    obtain ⟨g1, g2, g3⟩ := cg_facts hy
    rw [if_pos c]
    refine lp_0 (N := aJ n (cg bk two oth) o s) (fun t => nI t) rfl step ?_ (by omega)
    show fX10_letGo_L27 z (nI o) (nI i) (nI i) (nI s) (nI (aJ n (cg bk two oth) o s)) (nI n) (b01 two) sort par (b01 oth) = _
    unfold fX10_letGo_L27
    rw [if_neg (nI_ge c (by omega)), if_pos rfl, canGo_nI hp hB ho hs c (by omega), hy, Option.bind_some, if_neg (show ¬ b01 true = 0 by decide), moved_nI ho (by omega) (by omega) g3 g2]
  · rw [if_neg c]
    refine lp_0 (N := n) (fun t => nI t) rfl (fun t ht => step t (by omega)) ?_ (by omega)
    show fX10_letGo_L27 z (nI o) (nI i) (nI i) (nI s) (nI n) (nI n) (b01 two) sort par (b01 oth) = _
    unfold fX10_letGo_L27
    rw [if_pos (nI_le (Nat.le_refl _) (by omega))]
theorem letGo_nI (hp : PB n bk) (hB : BO n bk sort par) (ho : o < 4 ^ 9) (hi : i < fr n o) (hz : 20 < z) : fX10_letGo z (nI o) (nI i) (nI n) (b01 two) sort par (b01 oth) = some (nI (aL n (cg bk two oth) o (sF n o i))) := by
  have hn := hp.1
  obtain ⟨h1, h2, h3⟩ := sF_ok hi
  have ho2 : o < 2 ^ 31 := Nat.lt_of_lt_of_le ho (by decide)
  have hfr := fr_le n o
  obtain ⟨z', rfl⟩ : ∃ z', z = z' + 1 := ⟨z - 1, by omega⟩
  have step : ∀ s, s < n → (kd o s = 0 ∨ fc o s ≠ i ∨ ¬ aJ n (cg bk two oth) o s < n) → fX10_letGo_L5 (z' + 1) (nI o) (nI i) (nI (fc o s)) (nI s) (nI n) (b01 two) sort par (b01 oth) = some (.inl (nI (fc o (s + 1)), nI (s + 1))) := by
    intro s hs hc
    have hk := kd_lt o s
    have hfc : fc o s ≤ s := fb_ct_le _ s
    unfold fX10_letGo_L5
    rw [if_neg (nI_ge hs (by omega)), at_nI ho2 (by omega), fc_succ]
    by_cases c : kd o s = 0
    · rw [if_pos (by rw [c]; decide), if_pos c, nI_1]; rfl
    · rw [if_neg (nI_nle (by omega) (by omega)), if_neg c]
      by_cases c2 : fc o s = i
      · rw [c2, letGo_27 hp hB ho hs (by omega) i, if_neg ((hc.resolve_left c).resolve_left (fun e => e c2)), Option.bind_some]
        show some (Sum.inl (nI i + 1, nI s + 1)) = _
        rw [nI_1, nI_1]
      · rw [lp_out (e := .inl ()) (by
          show fX10_letGo_L27 (z' + 1) (nI o) (nI i) (nI (fc o s)) (nI s) 0 (nI n) (b01 two) sort par (b01 oth) = _
          unfold fX10_letGo_L27
          rw [if_neg (show ¬ nI n ≤ 0 from nI_nle (by omega) (by omega)), if_neg (nlit (by omega) (by omega) c2)]), Option.bind_some]
        show some (Sum.inl (nI (fc o s) + 1, nI s + 1)) = _
        rw [nI_1, nI_1]
  unfold fX10_letGo aL
  by_cases c : aJ n (cg bk two oth) o (sF n o i) < n
  · rw [if_pos c, lp_0 (f := fun sg => fX10_letGo_L5 (z' + 1) (nI o) (nI i) sg.1 sg.2 (nI n) (b01 two) sort par (b01 oth)) (z := z' + 1) (s0 := (0, 0)) (N := sF n o i) (e := .inr (nI (mvd o (sF n o i) (aJ n (cg bk two oth) o (sF n o i))))) (fun s => (nI (fc o s), nI s)) rfl (fun s hs => by
      refine step s (by omega) ?_
      have hno := fa_first_no (fun s => kd o s != 0 && fc o s == i) n s hs
      by_cases c1 : kd o s = 0
      · exact Or.inl c1
      · exact Or.inr (Or.inl (by simpa [c1] using hno))) (by
      have hk := kd_lt o (sF n o i)
      show fX10_letGo_L5 (z' + 1) (nI o) (nI i) (nI (fc o (sF n o i))) (nI (sF n o i)) (nI n) (b01 two) sort par (b01 oth) = _
      unfold fX10_letGo_L5
      rw [if_neg (nI_ge h1 (by omega)), at_nI ho2 (by omega), if_neg (nI_nle (by omega) (by omega)), h3, letGo_27 hp hB ho h1 (by omega) i, if_pos c, Option.bind_some]
      rfl) (by omega)]
    rfl
  · rw [if_neg c, lp_0 (f := fun sg => fX10_letGo_L5 (z' + 1) (nI o) (nI i) sg.1 sg.2 (nI n) (b01 two) sort par (b01 oth)) (z := z' + 1) (s0 := (0, 0)) (N := n) (e := .inl ()) (fun s => (nI (fc o s), nI s)) rfl (fun s hs => by
      refine step s hs ?_
      by_cases c1 : kd o s = 0
      · exact Or.inl c1
      · by_cases c2 : fc o s = i
        · have : s = sF n o i := fb_ct_kth_one (p := fun i => kd o i != 0) (by simpa using c1) (by simpa using h2) (by show fc o s = fc o (sF n o i); omega)
          exact Or.inr (Or.inr (by rw [this]; exact c))
        · exact Or.inr (Or.inl c2)) (by
      show fX10_letGo_L5 (z' + 1) (nI o) (nI i) (nI (fc o n)) (nI n) (nI n) (b01 two) sort par (b01 oth) = _
      unfold fX10_letGo_L5
      rw [if_pos (nI_le (Nat.le_refl _) (by omega))]) (by omega)]
    rfl
/-! one child's play -/
theorem seed_nI (x : Int32) : ∃ w, w < 2 ^ 31 ∧ fX0_nextSeed x = nI w := by
  obtain ⟨m, -, e⟩ := wb_of (1103515245 * x.toInt64 + 12345)
  refine ⟨m % 2 ^ 31, Nat.mod_lt _ (by decide), ?_⟩
  unfold fX0_nextSeed
  rw [e, show (2147483647 : Int64) = lN (2 ^ 31 - 1) from rfl, fb_maskL, lN_i]
def six (F : Nat) (x : Int32) : Nat := (fX0_nextSeed x).toNatClampNeg / 65536 % F
theorem six_nI {F : Nat} (hF : 0 < F) (h9 : F ≤ 9) (x : Int32) : i_rem (fX0_nextSeed x / 65536) (nI F) = nI (six F x) ∧ six F x < F := by
  obtain ⟨w, h1, h2⟩ := seed_nI x
  unfold six
  rw [h2, cl_nI h1, show (65536 : Int32) = nI 65536 from rfl, pk_div h1 (by decide) (by decide), rem_nI (Nat.lt_of_le_of_lt (Nat.div_le_self _ _) h1) hF (by omega)]
  exact ⟨rfl, Nat.mod_lt _ hF⟩
/-- order, moves and seed after t times -/
def pS (n : Nat) (c : Nat → Nat → Nat → Bool) (F o : Nat) (sd : Int32) : Nat → Nat × Nat × Int32
  | 0 => (o, 0, sd)
  | t + 1 =>
    (aL n c (pS n c F o sd t).1 (sF n (pS n c F o sd t).1 (six F (pS n c F o sd t).2.2)),
     (if aJ n c (pS n c F o sd t).1 (sF n (pS n c F o sd t).1 (six F (pS n c F o sd t).2.2)) < n then (pS n c F o sd t).2.1 + 1 else (pS n c F o sd t).2.1),
     fX0_nextSeed (pS n c F o sd t).2.2)
theorem VO_fr {q : Nat} (h : VO n o q) : fr n q = fr n o := by
  unfold fr
  rw [h.2 1, h.2 2, h.2 3]
theorem pS_V (hn : n ≤ 9) (ho : o < 4 ^ n) (hF : 0 < fr n o) {sd : Int32} : ∀ t, VO n o (pS n (cg bk two oth) (fr n o) o sd t).1 ∧ (pS n (cg bk two oth) (fr n o) o sd t).2.1 ≤ t
  | 0 => ⟨VO_self ho, Nat.le_refl _⟩
  | t + 1 => by
    obtain ⟨h1, h2⟩ := pS_V hn ho hF (sd := sd) t
    have h9 := fr_le n o
    refine ⟨aL_V hn h1 (sF_ok (by rw [VO_fr h1]; exact (six_nI hF (by omega) _).2)).1, ?_⟩
    simp only [pS]
    split <;> omega
theorem play_nI (hp : PB n bk) (hb : BH n bk bh) (ho : o < 4 ^ n) (hF : 0 < fr n o) {sd s1 s2 s3 : Int32} {tm : Nat} (ht : tm ≤ 99) (hz : 200 < z) :
    ∃ T', fX0_play z (nI o) (nI tm) sd s1 s2 T (nI n) (nI (lpN two)) bh (b01 oth) s3 = some (nI (pS n (cg bk two oth) (fr n o) o sd tm).1, nI (pS n (cg bk two oth) (fr n o) o sd tm).2.1, (pS n (cg bk two oth) (fr n o) o sd tm).2.2, T') := by
  have hn := hp.1
  have hfr := fr_le n o
  unfold fX0_play
  rw [frogsOf_nI hn ho (by omega), Option.bind_some]
  have main : ∃ e, lp (fun sg => fX0_play_L24 z (nI tm) (nI (fr n o)) sg.1 sg.2.2.2.1 sg.2.1 sg.2.2.2.2 (nI n) (nI (lpN two)) bh (b01 oth) sg.2.2.1) z (0, nI o, 0, sd, T) = some e ∧ (e.1 = nI (pS n (cg bk two oth) (fr n o) o sd tm).1 ∧ e.2.1 = nI (pS n (cg bk two oth) (fr n o) o sd tm).2.1 ∧ e.2.2.1 = (pS n (cg bk two oth) (fr n o) o sd tm).2.2) := by
    refine lp_rel0 (fun (t : Nat) (s : Int32 × Int32 × Int32 × Int32 × (Nat → Int32)) => s.1 = nI t ∧ s.2.1 = nI (pS n (cg bk two oth) (fr n o) o sd t).1 ∧ s.2.2.1 = nI (pS n (cg bk two oth) (fr n o) o sd t).2.1 ∧ s.2.2.2.1 = (pS n (cg bk two oth) (fr n o) o sd t).2.2) _ tm ⟨rfl, rfl, rfl, rfl⟩ (fun t s hk hr => ?_) (fun s hr => ?_) (by omega)
    · obtain ⟨a, b, c, d, U⟩ := s
      obtain ⟨r1, r2, r3, r4⟩ := hr
      dsimp only at r1 r2 r3 r4
      subst r1 r2 r3 r4
      obtain ⟨hV, -⟩ := pS_V (bk := bk) (two := two) (oth := oth) hn ho hF (sd := sd) t
      have hq9 := o9 hn hV.1
      obtain ⟨x1, x2⟩ := six_nI hF (by omega) (pS n (cg bk two oth) (fr n o) o sd t).2.2
      have hs := sF_ok (n := n) (o := (pS n (cg bk two oth) (fr n o) o sd t).1) (i := six (fr n o) (pS n (cg bk two oth) (fr n o) o sd t).2.2) (by rw [VO_fr hV]; exact x2)
      show ∃ s', fX0_play_L24 z (nI tm) (nI (fr n o)) (nI t) (pS n (cg bk two oth) (fr n o) o sd t).2.2 (nI (pS n (cg bk two oth) (fr n o) o sd t).1) U (nI n) (nI (lpN two)) bh (b01 oth) (nI (pS n (cg bk two oth) (fr n o) o sd t).2.1) = _ ∧ _
      unfold fX0_play_L24
      rw [if_neg (nI_ge hk (by omega)), if_neg (nI_nle hF (by omega)), dgd_ne (nI_ne0 hF (by omega)), x1, stoneOf_nI hn hq9 (by rw [VO_fr hV]; exact x2) (by omega), Option.bind_some, find_nI hp hb hq9 (by omega), Option.bind_some, targetsOf_nI (by omega), Option.bind_some]
      have hml := mk_lt (two := two) (oth := oth) (o := (pS n (cg bk two oth) (fr n o) o sd t).1) hp n (Nat.le_refl _) (sF n (pS n (cg bk two oth) (fr n o) o sd t).1 (six (fr n o) (pS n (cg bk two oth) (fr n o) o sd t).2.2))
      by_cases c0 : mk bk two oth (pS n (cg bk two oth) (fr n o) o sd t).1 n (sF n (pS n (cg bk two oth) (fr n o) o sd t).1 (six (fr n o) (pS n (cg bk two oth) (fr n o) o sd t).2.2)) = 0
      · rw [if_pos (by rw [c0]; rfl), nI_1]
        have hall := (mk_zero hp hq9 hs.1).mp c0
        have hJ : ¬ aJ n (cg bk two oth) (pS n (cg bk two oth) (fr n o) o sd t).1 (sF n (pS n (cg bk two oth) (fr n o) o sd t).1 (six (fr n o) (pS n (cg bk two oth) (fr n o) o sd t).2.2)) < n := fun q => by
          have hy := fa_first_yes (cg bk two oth (pS n (cg bk two oth) (fr n o) o sd t).1 (sF n (pS n (cg bk two oth) (fr n o) o sd t).1 (six (fr n o) (pS n (cg bk two oth) (fr n o) o sd t).2.2))) n q
          exact absurd (hy.symm.trans (hall _ q)) (by decide)
        refine ⟨_, rfl, rfl, ?_, ?_, rfl⟩
        · simp only [pS, aL]; rw [if_neg hJ]
        · simp only [pS]; rw [if_neg hJ]
      · rw [if_neg (nI_ne0 (by omega) (by omega)), afterLeast_nI hp hq9 hs.1 (by omega), Option.bind_some, nI_1, nI_1]
        have hJ : aJ n (cg bk two oth) (pS n (cg bk two oth) (fr n o) o sd t).1 (sF n (pS n (cg bk two oth) (fr n o) o sd t).1 (six (fr n o) (pS n (cg bk two oth) (fr n o) o sd t).2.2)) < n := by
          rcases Nat.lt_or_ge (aJ n (cg bk two oth) (pS n (cg bk two oth) (fr n o) o sd t).1 (sF n (pS n (cg bk two oth) (fr n o) o sd t).1 (six (fr n o) (pS n (cg bk two oth) (fr n o) o sd t).2.2))) n with q | q
          · exact q
          · exact absurd ((mk_zero hp hq9 hs.1).mpr (fun u hu => fa_first_no _ n u (Nat.lt_of_lt_of_le hu q))) c0
        refine ⟨_, rfl, rfl, rfl, ?_, rfl⟩
        simp only [pS]
        rw [if_pos hJ]
    · obtain ⟨a, b, c, d, U⟩ := s
      obtain ⟨r1, r2, r3, r4⟩ := hr
      dsimp only at r1 r2 r3 r4
      subst r1 r2 r3 r4
      show ∃ e, fX0_play_L24 z (nI tm) (nI (fr n o)) (nI tm) _ (nI _) U (nI n) (nI (lpN two)) bh (b01 oth) (nI _) = _ ∧ _
      unfold fX0_play_L24
      rw [if_pos (nI_le (Nat.le_refl _) (by omega))]
      exact ⟨_, rfl, rfl, rfl, rfl⟩
  obtain ⟨e, m1, m2, m3, m4⟩ := main
  rw [m1]
  refine ⟨e.2.2.2, ?_⟩
  show some (e.1, e.2.1, e.2.2.1, e.2.2.2) = _
  rw [m2, m3, m4]
theorem childM_nI (hp : PB n bk) (hB : BO n bk sort par) (ho : o < 4 ^ n) (hF : 0 < fr n o) {sd x3 : Int32} {tm : Nat} (ht : tm ≤ 99) (hz : 200 < z) :
    lp (fun sg => fX10_child_L65 z (nI tm) x3 sg.1 sg.2.1 sg.2.2.1 (nI n) (nI o) sg.2.2.2 (b01 two) sort par (b01 oth)) z (nI o, 0, 0, sd) = some (nI (pS n (cg bk two oth) (fr n o) o sd tm).1, nI (pS n (cg bk two oth) (fr n o) o sd tm).2.1, (pS n (cg bk two oth) (fr n o) o sd tm).2.2) := by
  have hn := hp.1
  have hfr := fr_le n o
  refine lp_0 (N := tm) (fun t => (nI (pS n (cg bk two oth) (fr n o) o sd t).1, nI (pS n (cg bk two oth) (fr n o) o sd t).2.1, nI t, (pS n (cg bk two oth) (fr n o) o sd t).2.2)) rfl (fun t hk => ?_) ?_ (by omega)
  · obtain ⟨hV, -⟩ := pS_V (bk := bk) (two := two) (oth := oth) hn ho hF (sd := sd) t
    have hq9 := o9 hn hV.1
    obtain ⟨x1, x2⟩ := six_nI hF (by omega) (pS n (cg bk two oth) (fr n o) o sd t).2.2
    have hs := sF_ok (n := n) (o := (pS n (cg bk two oth) (fr n o) o sd t).1) (i := six (fr n o) (pS n (cg bk two oth) (fr n o) o sd t).2.2) (by rw [VO_fr hV]; exact x2)
    have hVa := aL_V (bk := bk) (two := two) (oth := oth) hn hV hs.1
    show fX10_child_L65 z (nI tm) x3 (nI (pS n (cg bk two oth) (fr n o) o sd t).1) (nI (pS n (cg bk two oth) (fr n o) o sd t).2.1) (nI t) (nI n) (nI o) (pS n (cg bk two oth) (fr n o) o sd t).2.2 (b01 two) sort par (b01 oth) = _
    unfold fX10_child_L65 fX10_draw
    have x1' : i_rem ((((1103515245 * ((pS n (cg bk two oth) (fr n o) o sd t).2.2).toInt64) + 12345) &&& 2147483647).toInt32 / 65536) (nI (fr n o)) = nI (six (fr n o) (pS n (cg bk two oth) (fr n o) o sd t).2.2) := x1
    rw [if_neg (nI_ge hk (by omega)), frogs_nI hn ho (by omega), Option.bind_some, dgd_ne (nI_ne0 hF (by omega)), Option.bind_some]
    dsimp only
    rw [x1', letGo_nI hp hB hq9 (by rw [VO_fr hV]; exact x2) (by omega), Option.bind_some, nI_1, nI_1]
    simp only [pS]
    by_cases hJ : aJ n (cg bk two oth) (pS n (cg bk two oth) (fr n o) o sd t).1 (sF n (pS n (cg bk two oth) (fr n o) o sd t).1 (six (fr n o) (pS n (cg bk two oth) (fr n o) o sd t).2.2)) < n
    · have hy : cg bk two oth (pS n (cg bk two oth) (fr n o) o sd t).1 _ _ = true := fa_first_yes (cg bk two oth (pS n (cg bk two oth) (fr n o) o sd t).1 (sF n (pS n (cg bk two oth) (fr n o) o sd t).1 (six (fr n o) (pS n (cg bk two oth) (fr n o) o sd t).2.2))) n hJ
      have hne : aL n (cg bk two oth) (pS n (cg bk two oth) (fr n o) o sd t).1 (sF n (pS n (cg bk two oth) (fr n o) o sd t).1 (six (fr n o) (pS n (cg bk two oth) (fr n o) o sd t).2.2)) ≠ (pS n (cg bk two oth) (fr n o) o sd t).1 := by
        unfold aL
        rw [if_pos hJ]
        exact cg_ne hy
      rw [if_neg (nlit (o31 hn hVa.1) (o31 hn hV.1) hne), if_pos hJ]
      rfl
    · have he : aL n (cg bk two oth) (pS n (cg bk two oth) (fr n o) o sd t).1 (sF n (pS n (cg bk two oth) (fr n o) o sd t).1 (six (fr n o) (pS n (cg bk two oth) (fr n o) o sd t).2.2)) = (pS n (cg bk two oth) (fr n o) o sd t).1 := by
        unfold aL
        rw [if_neg hJ]
      rw [if_pos (by rw [he]), if_neg hJ, show (0 : Int32) = nI 0 from rfl, nI_add]
      rfl
  · show fX10_child_L65 z (nI tm) x3 (nI _) (nI _) (nI tm) (nI n) (nI o) _ (b01 two) sort par (b01 oth) = _
    unfold fX10_child_L65
    rw [if_pos (nI_le (Nat.le_refl _) (by omega))]
theorem in_cases1 (x : Int32) : (∃ j, 1 ≤ j ∧ j ≤ 99 ∧ x = nI j ∧ fX10_in x.toInt64 1 99 = 1) ∨ ((x < 1 ∨ 99 < x) ∧ fX10_in x.toInt64 1 99 = 0) := by
  unfold fX10_in
  by_cases c : x < 1
  · refine Or.inr ⟨Or.inl c, ?_⟩
    rw [if_pos]
    rw [lg_cmp_lt, show (1 : Int64) = (1 : Int32).toInt64 from rfl, fa_wide_lt]
    exact c
  · rw [if_neg (fun e => c (by rw [lg_cmp_lt, show (1 : Int64) = (1 : Int32).toInt64 from rfl, fa_wide_lt] at e; exact e))]
    by_cases c2 : 99 < x
    · refine Or.inr ⟨Or.inr c2, ?_⟩
      rw [if_pos]
      rw [lg_cmp_gt, show (99 : Int64) = (99 : Int32).toInt64 from rfl, fa_wide_lt]
      exact c2
    · rw [if_neg (fun e => c2 (by rw [lg_cmp_gt, show (99 : Int64) = (99 : Int32).toInt64 from rfl, fa_wide_lt] at e; exact e))]
      have h0 : ¬ x < 0 := fun e => c (Int32.lt_trans e (by decide))
      obtain ⟨j, h1, rfl⟩ := nI_of h0
      refine Or.inl ⟨j, ?_, ?_, rfl, rfl⟩
      · rcases Nat.lt_or_ge j 1 with q | q
        · exact absurd (show nI j < 1 from nI_lt (b := 1) q (by decide)) c
        · exact q
      · rcases Nat.lt_or_ge 99 j with q | q
        · exact absurd (show (99 : Int32) < nI j from nI_lt (a := 99) q h1) c2
        · exact q
theorem child_pair (hp : PB n bk) (hb : BH n bk bh) (hB : BO n bk sort par) (hl : 0 < n → xl = nI (lpN two)) (ho : o < 4 ^ n) (hz : 200 < z) {s1 s2 s3 s4 : Int32} (x1 x2 x3 : Int32) :
    ∃ r a b c T' d, fX9_child z x1 x2 x3 (nI n) (nI o) s1 s2 T xl bh (b01 oth) s3 = some (r, a, b, c, T') ∧ fX10_child z x1 x2 x3 (nI n) (nI o) s4 (b01 two) sort par (b01 oth) = some (r, d) := by
  have hn := hp.1
  have hfr := fr_le n o
  unfold fX9_child fX10_child fX9_noStones fX10_lacks
  by_cases c : n = 0
  · rw [if_pos (show nI n = 0 by rw [c]; rfl), if_neg (show ¬ (1 : Int32) = 0 by decide), if_neg (show ¬ (1 : Int32) = 0 by decide)]
    exact ⟨_, _, _, _, _, _, rfl, rfl⟩
  · have hn0 : 0 < n := by omega
    rw [if_neg (nI_ne0 (by omega) (by omega)), if_pos rfl, if_pos rfl, frogsOf_nI hn ho (by omega), frogs_nI hn ho (by omega), Option.bind_some, Option.bind_some]
    by_cases cf : fr n o = 0
    · rw [if_pos (by rw [cf]; rfl), if_pos (by rw [cf]; rfl)]
      exact ⟨_, _, _, _, _, _, rfl, rfl⟩
    · rw [if_neg (nI_ne0 (by omega) (by omega)), if_neg (nI_ne0 (by omega) (by omega))]
      rcases in_cases1 x1 with ⟨t, t1, t2, rfl, h1⟩ | ⟨h1, h2⟩
      · rw [h1, if_neg (show ¬ (1 : Int32) = 0 by decide), if_neg (show ¬ nI t < 1 from nI_nlt (b := 1) t1 (by omega)), if_neg (show ¬ 99 < nI t from nI_nlt (a := 99) t2 (by decide))]
        by_cases c2 : x2 < 0
        · rw [if_pos c2, if_pos c2]
          exact ⟨_, _, _, _, _, _, rfl, rfl⟩
        · rw [if_neg c2, if_neg c2, show (10 : Int64) = (nI 10).toInt64 from rfl]
          rcases in_cases x3 (K := 10) (by decide) with ⟨j, hj, rfl, h3⟩ | ⟨h3, h4⟩
          · obtain ⟨T', e1⟩ := play_nI (z := z) (T := T) (two := two) (oth := oth) (sd := x2) (s1 := s1) (s2 := s2) (s3 := s3) hp hb ho (by omega) t2 hz
            have hV := (pS_V (bk := bk) (two := two) (oth := oth) hn ho (by omega) (sd := x2) t).1
            rw [h3, if_neg (show ¬ (1 : Int32) = 0 by decide), if_neg (nI_pos (by omega)), if_pos (show nI j ≤ 10 from nI_le (b := 10) hj (by decide)), hl hn0, e1, Option.bind_some, childM_nI hp hB ho (by omega) t2 hz, Option.bind_some]
            dsimp only
            unfold fX10_child_J114
            generalize pS n (cg bk two oth) (fr n o) o x2 t = q at hV ⊢
            by_cases c9 : j = 9
            · subst c9
              rw [if_pos (show nI 9 = 9 from rfl), if_pos (show nI 9 = 9 from rfl)]
              exact ⟨_, _, _, _, _, _, rfl, rfl⟩
            · have n9 : ¬ nI j = 9 := nlit (k := 9) (by omega) (by decide) c9
              rw [if_neg n9, if_neg n9]
              by_cases c10 : j = 10
              · subst c10
                rw [if_pos (show nI 10 = 10 from rfl), if_pos (show nI 10 = 10 from rfl)]
                exact ⟨_, _, _, _, _, _, rfl, rfl⟩
              · have n10 : ¬ nI j = 10 := nlit (k := 10) (by omega) (by decide) c10
                rw [if_neg n10, if_neg n10, kindTold_nI (o31 hn hV.1) (by omega)]
                by_cases cn : n ≤ j
                · rw [if_pos (nI_le cn (by omega)), at_nI (o31 hn hV.1) (by omega), kd_big hV.1 cn]
                  exact ⟨-1, _, _, _, _, _, rfl, rfl⟩
                · rw [if_neg (nI_ge (by omega) (by omega))]
                  exact ⟨_, _, _, _, _, _, rfl, rfl⟩
          · rw [h4, if_pos rfl]
            rcases h3 with h3 | h3
            · rw [if_pos h3]; exact ⟨_, _, _, _, _, _, rfl, rfl⟩
            · have : ¬ x3 < 0 := fun e => absurd (Int32.lt_trans h3 e) (by decide)
              rw [if_neg this, if_neg (fun e => absurd (Int32.lt_of_lt_of_le h3 e) (by decide))]
              exact ⟨_, _, _, _, _, _, rfl, rfl⟩
      · rw [h2, if_pos rfl]
        rcases h1 with h1 | h1
        · rw [if_pos h1]; exact ⟨_, _, _, _, _, _, rfl, rfl⟩
        · have : ¬ x1 < 1 := fun e => absurd (Int32.lt_trans h1 e) (by decide)
          rw [if_neg this, if_pos h1]
          exact ⟨_, _, _, _, _, _, rfl, rfl⟩
end CH
