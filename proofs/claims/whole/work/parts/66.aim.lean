/-! ===== aim ===== -/
section AI
variable {n o s z : Nat} {px pm : Nat → Int32}
/-- the first place whose letter is none of a frog -/
def gJ (n : Nat) (ch : Nat → Nat) : Nat := fa_first (fun i => kl (ch i) == 99) n
def sameT (n a o : Nat) : Bool := ct 1 a n == ct 1 o n && ct 2 a n == ct 2 o n && ct 3 a n == ct 3 o n
theorem gJ_ok {ch : Nat → Nat} (h : gJ n ch = n) : ∀ i, i < n → kl (ch (0 + i)) ≠ 99 := by
  intro i hi
  have := fa_first_no (fun i => kl (ch i) == 99) n i (by show i < gJ n ch; omega)
  rw [Nat.zero_add]
  simpa using this
theorem sameT_VO {a : Nat} (ha : a < 4 ^ n) (h : sameT n a o = true) : VO n o a := by
  unfold sameT at h
  simp only [Bool.and_eq_true, beq_iff_eq] at h
  refine ⟨ha, fun k => ?_⟩
  have h1 := ct_sum a n
  have h2 := ct_sum o n
  rcases Nat.lt_or_ge k 4 with q | q
  · have : k = 0 ∨ k = 1 ∨ k = 2 ∨ k = 3 := by omega
    rcases this with rfl | rfl | rfl | rfl
    · omega
    · exact h.1.1
    · exact h.1.2
    · exact h.2
  · rw [ct_ge4 q, ct_ge4 q]
theorem aim67 {a : Nat} (hn : n ≤ 9) (ha : a < 4 ^ n) (ho : o < 4 ^ n) (hz : 20 < z) {s1 s2 : Int32} {pg : Nat → Int32} :
    lp (fun sg => fX9_pageIsAim_L73 z (nI a) sg s1 s2 pg (nI o)) z 1 = some (if sameT n a o then .inl () else .inr 0) := by
  have ha2 := o31 hn ha
  have ho2 := o31 hn ho
  have e : ∀ k, 1 ≤ k → k ≤ 3 → fX9_pageIsAim_L73 z (nI a) (nI k) s1 s2 pg (nI o) = if ct k a n = ct k o n then some (.inl (nI (k + 1))) else some (.inr (.inr 0)) := by
    intro k h1 h3
    unfold fX9_pageIsAim_L73
    have c1 := ct_le k a n
    have c2 := ct_le k o n
    rw [if_neg (show ¬ (3 : Int32) < nI k from nI_nlt (a := 3) (b := k) (by omega) (by decide)), colouredOf_nI ha2 (by omega) (by omega), colouredOf_nI ho2 (by omega) (by omega), Option.bind_some, Option.bind_some, ct_9 ha hn (by omega), ct_9 ho hn (by omega), nI_1]
    by_cases c : ct k a n = ct k o n
    · rw [if_pos (by rw [c]), if_pos c]
    · rw [if_neg (nlit (by omega) (by omega) c), if_neg c]
  obtain ⟨z1, rfl⟩ : ∃ z1, z = z1 + 4 := ⟨z - 4, by omega⟩
  unfold sameT
  by_cases c1 : ct 1 a n = ct 1 o n
  · rw [lp_in (s' := nI 2) (by have := e 1 (by decide) (by decide); rw [if_pos c1] at this; exact this)]
    by_cases c2 : ct 2 a n = ct 2 o n
    · rw [lp_in (s' := nI 3) (by have := e 2 (by decide) (by decide); rw [if_pos c2] at this; exact this)]
      by_cases c3 : ct 3 a n = ct 3 o n
      · rw [lp_in (s' := nI 4) (by have := e 3 (by decide) (by decide); rw [if_pos c3] at this; exact this)]
        rw [c1, c2, c3]
        simp only [beq_self_eq_true, Bool.and_self, if_true]
        refine lp_out ?_
        show fX9_pageIsAim_L73 (z1 + 4) (nI a) (nI 4) s1 s2 pg (nI o) = _
        unfold fX9_pageIsAim_L73
        rw [if_pos (by decide)]
      · rw [lp_out (e := .inr 0) (by have := e 3 (by decide) (by decide); rw [if_neg c3] at this; exact this)]
        simp [c3]
    · rw [lp_out (e := .inr 0) (by have := e 2 (by decide) (by decide); rw [if_neg c2] at this; exact this)]
      simp [c2]
  · rw [lp_out (e := .inr 0) (by have := e 1 (by decide) (by decide); rw [if_neg c1] at this; exact this)]
    simp [c1]
theorem aim67m {a : Nat} (hn : n ≤ 9) (ha : a < 4 ^ n) (ho : o < 4 ^ n) (hz : 20 < z) {s1 ma : Int32} {pg : Nat → Int32} :
    lp (fun sg => fX10_aim_L67 z (nI a) sg (nI n) s1 pg (nI o) ma) z 0 = some (if sameT n a o then .inl () else .inr (-103, ma, s1)) := by
  have ha2 := o31 hn ha
  have ho2 := o31 hn ho
  have e : ∀ k, k ≤ 3 → fX10_aim_L67 z (nI a) (nI k) (nI n) s1 pg (nI o) ma = if ct k a n = ct k o n then some (.inl (nI (k + 1))) else some (.inr (.inr (-103, ma, s1))) := by
    intro k h3
    unfold fX10_aim_L67
    have c1 := ct_le k a n
    have c2 := ct_le k o n
    rw [if_neg (show ¬ (4 : Int32) ≤ nI k from nI_ge (b := 4) (a := k) (by omega) (by decide)), howMany_nI ha2 (by omega) hn (by omega), howMany_nI ho2 (by omega) hn (by omega), Option.bind_some, Option.bind_some, nI_1]
    by_cases c : ct k a n = ct k o n
    · rw [if_pos (by rw [c]), if_pos c]
    · rw [if_neg (nlit (by omega) (by omega) c), if_neg c]
  obtain ⟨z1, rfl⟩ : ∃ z1, z = z1 + 5 := ⟨z - 5, by omega⟩
  have t1 := ct_sum a n
  have t2 := ct_sum o n
  by_cases cs : sameT n a o = true
  · obtain ⟨-, hv⟩ := sameT_VO ha cs
    rw [cs, if_pos rfl, lp_in (s' := nI 1) (by have := e 0 (by decide); rw [if_pos (hv 0)] at this; exact this), lp_in (s' := nI 2) (by have := e 1 (by decide); rw [if_pos (hv 1)] at this; exact this), lp_in (s' := nI 3) (by have := e 2 (by decide); rw [if_pos (hv 2)] at this; exact this), lp_in (s' := nI 4) (by have := e 3 (by decide); rw [if_pos (hv 3)] at this; exact this)]
    refine lp_out ?_
    show fX10_aim_L67 (z1 + 5) (nI a) (nI 4) (nI n) s1 pg (nI o) ma = _
    unfold fX10_aim_L67
    rw [if_pos (by decide)]
  · rw [if_neg cs]
    by_cases c0 : ct 0 a n = ct 0 o n
    · rw [lp_in (s' := nI 1) (by have := e 0 (by decide); rw [if_pos c0] at this; exact this)]
      by_cases c1 : ct 1 a n = ct 1 o n
      · rw [lp_in (s' := nI 2) (by have := e 1 (by decide); rw [if_pos c1] at this; exact this)]
        by_cases c2 : ct 2 a n = ct 2 o n
        · exfalso
          refine cs ?_
          unfold sameT
          rw [c1, c2, show ct 3 a n = ct 3 o n by omega]
          simp
        · exact lp_out (by have := e 2 (by decide); rw [if_neg c2] at this; exact this)
      · exact lp_out (by have := e 1 (by decide); rw [if_neg c1] at this; exact this)
    · exact lp_out (by have := e 0 (by decide); rw [if_neg c0] at this; exact this)
theorem sameT_fr {a : Nat} (h : sameT n a o = true) : fr n a = fr n o := by
  unfold sameT at h
  simp only [Bool.and_eq_true, beq_iff_eq] at h
  unfold fr
  rw [h.1.1, h.1.2, h.2]
theorem aim_pair (h : PG s px pm) (hn : n ≤ 9) (ho : o < 4 ^ n) (hz : 30 < z) {ha xa ma : Int32} (hA : AM n o ha xa ma) :
    ∃ r ha' xa' ma' s', fX9_aim z (nI n) (nI s) px (nI o) xa ha = some (r, xa', ha', nI s') ∧ fX10_aim z (nI n) (nI s) pm (nI o) ma = some (r, ma', nI s') ∧ AM n o ha' xa' ma' ∧ (s' = 0 ∨ s' = s) := by
  have hs24 := h.1
  unfold fX9_aim fX10_aim fX9_noStones fX10_lacks
  by_cases c : n = 0
  · subst c
    rw [if_pos (show nI 0 = 0 from rfl), if_neg (show ¬ (1 : Int32) = 0 by decide), if_neg (show ¬ (1 : Int32) = 0 by decide)]
    exact ⟨_, ha, xa, ma, s, rfl, rfl, hA, Or.inr rfl⟩
  · rw [if_neg (nI_ne0 (by omega) (by omega)), if_pos rfl, if_pos rfl]
    unfold fX9_pageIsAim
    by_cases cs : s = n
    · subst cs
      rw [if_pos rfl, if_pos rfl]
      have hJ : gJ s (chr s px) ≤ s := fa_first_le _ _
      have st1 : ∀ i, i < gJ s (chr s px) → fX9_pageIsAim_L21 z (nI i) (nI s) (nI s) px (nI o) = some (.inl (nI (i + 1))) := by
        intro i hi
        have hno := fa_first_no (fun i => kl (chr s px i) == 99) s i hi
        have hc := chr_le h i
        unfold fX9_pageIsAim_L21
        have hk : kl (chr s px i) ≠ 99 := by simpa using hno
        have hkl : kl (chr s px i) ≤ 3 := by rcases kl_le (chr s px i) with a | a <;> omega
        rw [if_neg (nI_ge (by omega) (by omega)), letterAt_nI h (by omega), Option.bind_some, kindOfLetter_nI (by omega), bI_ne hk, if_neg (nI_ne_m1 (by omega)), nI_1]
      have st2 : ∀ i, i < gJ s (chr s px) → fX10_aim_L25 z (nI (odr (chr s px) 0 i)) (nI i) (nI s) (nI s) pm (nI o) ma = some (.inl (nI (odr (chr s px) 0 (i + 1)), nI (i + 1))) := by
        intro i hi
        have hc := chr_le h i
        have hk2 : ∀ j, j < i + 1 → kl (chr s px (0 + j)) ≠ 99 := by
          intro j hj
          have hno := fa_first_no (fun i => kl (chr s px i) == 99) s j (by show j < gJ s (chr s px); omega)
          rw [Nat.zero_add]
          simpa using hno
        have hk : kl (chr s px i) ≠ 99 := by have := hk2 i (by omega); rw [Nat.zero_add] at this; exact this
        have hk3 : kl (chr s px i) ≤ 3 := by rcases kl_le (chr s px i) with a | a <;> omega
        have hol := odr_lt (ch := chr s px) (p := 0) (k := i) (fun j hj => hk2 j (by omega))
        have h4 : 4 ^ i ≤ 65536 := p49 (by omega)
        have h5 : kl (chr s px i) * 4 ^ i ≤ 3 * 65536 := Nat.mul_le_mul hk3 h4
        unfold fX10_aim_L25
        rw [if_neg (nI_ge (by omega) (by omega)), agd_in (by omega) (by decide), cl_nI (by omega), (h.ch (show i < s by omega)).2.1, kindOf_nI (by omega), bI_ne hk, if_neg (nI_ne_m1 (by omega)), nI_1, shl_nI (by omega) (by omega), fa_or]
        have eor : odr (chr s px) 0 i ||| kl (chr s px i) * 4 ^ i = odr (chr s px) 0 i + kl (chr s px i) * 4 ^ i := by
          have := Nat.two_pow_add_eq_or_of_lt (i := 2 * i) (b := odr (chr s px) 0 i) (by rw [← p42]; exact hol) (kl (chr s px i))
          rw [← p42, Nat.mul_comm] at this
          rw [Nat.or_comm, ← this, Nat.add_comm]
        rw [eor]
        simp only [odr, Nat.zero_add]
      by_cases cj : gJ s (chr s px) = s
      · have hk := gJ_ok cj
        have hol := odr_lt (ch := chr s px) (p := 0) (k := s) hk
        have l1 := lp_0 (f := fun sg => fX9_pageIsAim_L21 z sg (nI s) (nI s) px (nI o)) (N := s) (z := z) (e := .inl ()) (fun i => nI i) (s0 := 0) rfl (fun i hi => st1 i (by omega)) (by
          show fX9_pageIsAim_L21 z (nI s) (nI s) (nI s) px (nI o) = _
          unfold fX9_pageIsAim_L21
          rw [if_pos (nI_le (Nat.le_refl _) (by omega))]) (by omega)
        have l2 := lp_0 (f := fun sg => fX10_aim_L25 z sg.1 sg.2 (nI s) (nI s) pm (nI o) ma) (N := s) (z := z) (e := .inl (nI (odr (chr s px) 0 s))) (fun i => (nI (odr (chr s px) 0 i), nI i)) (s0 := (0, 0)) rfl (fun i hi => st2 i (by omega)) (by
          show fX10_aim_L25 z (nI (odr (chr s px) 0 s)) (nI s) (nI s) (nI s) pm (nI o) ma = _
          unfold fX10_aim_L25
          rw [if_pos (nI_le (Nat.le_refl _) (by omega))]) (by omega)
        have oat : fX5_orderAt z 0 (nI s) (nI s) px = some (nI (odr (chr s px) 0 s)) := orderAt_nI (p := 0) h (by decide) hn hk (by omega)
        rw [l1, l2, Option.bind_some, Option.bind_some]
        show ∃ r ha' xa' ma' s', (fX9_pageIsAim_J55 z (nI s) (nI s) px (nI o)).bind _ = _ ∧ fX10_aim_J65 z (nI (odr (chr s px) 0 s)) (nI s) (nI s) pm (nI o) ma = _ ∧ _
        unfold fX9_pageIsAim_J55 fX10_aim_J65
        rw [oat, Option.bind_some, aim67 hn hol ho (by omega), aim67m hn hol ho (by omega)]
        cases hT : sameT s (odr (chr s px) 0 s) o with
        | false => exact ⟨_, ha, xa, ma, s, rfl, rfl, hA, Or.inr rfl⟩
        | true =>
          rw [if_pos rfl, if_pos rfl, Option.bind_some, Option.bind_some]
          show ∃ r ha' xa' ma' s', ((some 1 : Option Int32).bind _) = _ ∧ fX10_aim_J99 z (nI (odr (chr s px) 0 s)) (nI s) (nI s) pm (nI o) ma = _ ∧ _
          unfold fX10_aim_J99
          rw [Option.bind_some, if_neg (show ¬ (1 : Int32) = 0 by decide), frogsOf_nI hn hol (by omega), frogs_nI hn ho (by omega), sameT_fr hT]
          exact ⟨_, 1, _, _, 0, rfl, rfl, Or.inr ⟨rfl, by omega, _, rfl, rfl, sameT_VO hol hT⟩, Or.inl rfl⟩
      · have hlt : gJ s (chr s px) < s := by omega
        have hyes := fa_first_yes (fun i => kl (chr s px i) == 99) s hlt
        have hk : kl (chr s px (gJ s (chr s px))) = 99 := eq_of_beq hyes
        have hc := chr_le h (gJ s (chr s px))
        have l1 := lp_0 (f := fun sg => fX9_pageIsAim_L21 z sg (nI s) (nI s) px (nI o)) (N := gJ s (chr s px)) (z := z) (e := .inr 0) (fun i => nI i) (s0 := 0) rfl st1 (by
          show fX9_pageIsAim_L21 z (nI (gJ s (chr s px))) (nI s) (nI s) px (nI o) = _
          unfold fX9_pageIsAim_L21
          rw [if_neg (nI_ge hlt (by omega)), letterAt_nI h (by omega), Option.bind_some, kindOfLetter_nI (by omega), hk, bI_99, if_pos rfl]) (by omega)
        have l2 := lp_0 (f := fun sg => fX10_aim_L25 z sg.1 sg.2 (nI s) (nI s) pm (nI o) ma) (N := gJ s (chr s px)) (z := z) (e := .inr (-103, ma, nI s)) (fun i => (nI (odr (chr s px) 0 i), nI i)) (s0 := (0, 0)) rfl st2 (by
          show fX10_aim_L25 z (nI (odr (chr s px) 0 (gJ s (chr s px)))) (nI (gJ s (chr s px))) (nI s) (nI s) pm (nI o) ma = _
          unfold fX10_aim_L25
          rw [if_neg (nI_ge hlt (by omega)), agd_in (by omega) (by decide), cl_nI (by omega), (h.ch hlt).2.1, kindOf_nI (by omega), hk, bI_99, if_pos rfl]) (by omega)
        rw [l1, l2]
        exact ⟨_, ha, xa, ma, s, rfl, rfl, hA, Or.inr rfl⟩
    · rw [if_neg (nlit (by omega) (by omega) cs), if_neg (nlit (by omega) (by omega) cs)]
      exact ⟨_, ha, xa, ma, s, rfl, rfl, hA, Or.inr rfl⟩
end AI
