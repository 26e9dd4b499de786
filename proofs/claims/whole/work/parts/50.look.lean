/-! ===== the class's search, all of it ===== -/
theorem has_nI {z f t : Nat} {g0 : Nat → Int32} {m : Nat → Nat} (hf : f < 9) (ht : t < 9) (hm : m f < 512) : fX3_has z (nI f) (nI t) (tf g0 m) = some (b01 ((m f).testBit t)) := by
  unfold fX3_has fX3_targetsOf
  rw [if_neg (nI_pos (by omega)), if_neg (nI9 hf), agd_in hf (by decide), cl_nI (by omega), tf_at hf]
  show (if ((nI (m f) >>> (nI t &&& 31)) &&& 1) = 0 then some 0 else some 1) = _
  rw [bit_at (by omega) (by omega)]
  cases (m f).testBit t <;> rfl
theorem targetsOf_nI {z f : Nat} {g0 : Nat → Int32} {m : Nat → Nat} (hf : f < 9) : fX3_targetsOf z (nI f) (tf g0 m) = some (nI (m f)) := by
  unfold fX3_targetsOf
  rw [if_neg (nI_pos (by omega)), if_neg (nI9 hf), agd_in hf (by decide), cl_nI (by omega), tf_at hf]
theorem mk_zero {n : Nat} {bk : Nat → Nat} {oth two : Bool} {o f : Nat} (hp : PB n bk) (ho : o < 4 ^ 9) (hf : f < n) : mk bk two oth o n f = 0 ↔ ∀ t, t < n → cg bk two oth o f t = false := by
  have h9 := hp.1
  constructor
  · intro h t ht
    rw [← mk_cg hp ho hf ht, h]
    exact Nat.zero_testBit t
  · intro h
    refine Nat.eq_of_testBit_eq (fun t => ?_)
    rw [Nat.zero_testBit]
    rcases Nat.lt_or_ge t n with q | q
    · rw [mk_cg hp ho hf q]; exact h t q
    · rcases Nat.lt_or_ge t 99 with q2 | q2
      · rw [mk_bit q2]
        have h1 : decide (t < n) = false := by simp; omega
        rw [h1]
        have h2 : ¬ lnd bk oth o (kd o f) (lpN two) f = t := by
          rcases lnd_lt (oth := oth) (o := o) (c := kd o f) hp (lpN two) f hf with a | a <;> omega
        simp [h2]
      · have := mk_lt (two := two) (oth := oth) (o := o) hp n (Nat.le_refl _) f
        exact Nat.testBit_lt_two_pow (Nat.lt_of_lt_of_le this (show 512 ≤ 2 ^ t from Nat.le_trans (by decide : 512 ≤ 2 ^ 99) (Nat.pow_le_pow_right (by decide) q2)))
/-- how many MOVES among the first k pairs -/
def ck (n : Nat) (c : Nat → Nat → Nat → Bool) (o k : Nat) : Nat := fb_ct (fun j => c o (j / n) (j % n)) k
theorem dm {n f t : Nat} (ht : t < n) : (f * n + t) / n = f ∧ (f * n + t) % n = t := by
  have hn : 0 < n := by omega
  rw [Nat.mul_comm]
  exact ⟨by rw [Nat.mul_add_div hn, Nat.div_eq_of_lt ht]; rfl, by rw [Nat.mul_add_mod, Nat.mod_eq_of_lt ht]⟩
theorem fn_le {n f : Nat} (hf : f < n) : f * n + n ≤ n * n := by
  have : (f + 1) * n ≤ n * n := Nat.mul_le_mul_right n hf
  rw [Nat.add_mul, Nat.one_mul] at this
  exact this
section CL
variable {n : Nat} {bk : Nat → Nat} {bh : Nat → Int32} {oth two : Bool} {V : Nat → Prop} {num : Nat → Nat} {ls hn T0 : Nat → Int32} {lb al : Int32} {o0 : Nat}
theorem goOnBy_nI (hp : PB n bk) (hG : HG n (cg bk two oth) V) (hN : NB V num lb ls hn al) (hn0 : 0 < n) {S : BS} (hS : BI V S) {o f z : Nat} (ho : o ∈ S.1) (hf : f < n) (hz : 90 < z) {st fs od : Nat → Int32} {rw : Nat → Int64} {fa : Int32}
    (hR : RC V num (ks n (cg bk two oth) S o (f * n)) st fs od rw) (hF : FA (ks n (cg bk two oth) S o (f * n)) fa) :
    ∃ r, fX8_goOnBy z (nI o) (nI (num o)) (nI f) (nI n) (tf T0 (mk bk two oth o n)) lb ls hn al st (nI (ks n (cg bk two oth) S o (f * n)).1.length) rw fs od fa = some r ∧
      RC V num (ks n (cg bk two oth) S o (f * n + n)) r.1 r.2.2.1 r.2.2.2.1 r.2.1 ∧ r.2.2.2.2.1 = nI (ks n (cg bk two oth) S o (f * n + n)).1.length ∧ FA (ks n (cg bk two oth) S o (f * n + n)) r.2.2.2.2.2 := by
  have h9 := hp.1
  have vo := hS.2.1 _ ho
  have ho9 := hG.1 _ vo
  have hfn := fn_le hf
  unfold fX8_goOnBy
  have main : ∃ e, lp (fun sg => fX8_goOnBy_L3 z (nI o) (nI (num o)) (nI f) sg.1 (nI n) (tf T0 (mk bk two oth o n)) lb ls hn al sg.2.1 sg.2.2.2.2.2.1 sg.2.2.1 sg.2.2.2.1 sg.2.2.2.2.1 sg.2.2.2.2.2.2) z (0, st, rw, fs, od, nI (ks n (cg bk two oth) S o (f * n)).1.length, fa) = some e ∧
      (RC V num (ks n (cg bk two oth) S o (f * n + n)) e.1 e.2.2.1 e.2.2.2.1 e.2.1 ∧ e.2.2.2.2.1 = nI (ks n (cg bk two oth) S o (f * n + n)).1.length ∧ FA (ks n (cg bk two oth) S o (f * n + n)) e.2.2.2.2.2) := by
    refine lp_rel0 (fun (j : Nat) (s : Int32 × (Nat → Int32) × (Nat → Int64) × (Nat → Int32) × (Nat → Int32) × Int32 × Int32) => s.1 = nI j ∧ RC V num (ks n (cg bk two oth) S o (f * n + j)) s.2.1 s.2.2.2.1 s.2.2.2.2.1 s.2.2.1 ∧ s.2.2.2.2.2.1 = nI (ks n (cg bk two oth) S o (f * n + j)).1.length ∧ FA (ks n (cg bk two oth) S o (f * n + j)) s.2.2.2.2.2.2) _ n ⟨rfl, hR, rfl, hF⟩ (fun j s hj hr => ?_) (fun s hr => ?_) (by omega)
    · obtain ⟨x, st, rw', fs, od, re, fa⟩ := s
      obtain ⟨r1, r2, r3, r4⟩ := hr
      dsimp only at r1 r2 r3 r4
      subst r1
      subst r3
      obtain ⟨d1, d2⟩ := dm (f := f) hj
      have hkB := ks_BI hG hn0 hS ho (f * n + j) (by omega)
      show ∃ s', fX8_goOnBy_L3 z (nI o) (nI (num o)) (nI f) (nI j) (nI n) (tf T0 (mk bk two oth o n)) lb ls hn al st (nI _) rw' fs od fa = _ ∧ _
      unfold fX8_goOnBy_L3
      rw [if_neg (nI_ge hj (by omega)), has_nI (by omega) (by omega) (mk_lt hp n (Nat.le_refl _) f), mk_cg hp ho9 hf hj]
      show ∃ s', (if b01 (cg bk two oth o f j) = 0 then _ else _) = _ ∧ _
      have eks : ks n (cg bk two oth) S o (f * n + (j + 1)) = if cg bk two oth o f j then cm (ks n (cg bk two oth) S o (f * n + j)) o (nI (16 * f + j)) (mvd o f j) else ks n (cg bk two oth) S o (f * n + j) := by
        show ks n (cg bk two oth) S o (f * n + j + 1) = _
        simp only [ks]
        rw [d1, d2]
      rw [eks]
      cases hc : cg bk two oth o f j with
      | false =>
        rw [if_pos (show b01 false = 0 from rfl)]
        exact ⟨_, rfl, nI_1 j, r2, rfl, r4⟩
      | true =>
        rw [if_neg (show ¬ b01 true = 0 by decide)]
        obtain ⟨g1, g2, g3⟩ := cg_facts hc
        rw [afterMove_nI ho9 (by omega) (by omega)]
        have vq := (hG.2.1 _ _ _ vo hf hj hc).1
        have hB2 := hG.2.2 _ (cm_BI (mv := nI (16 * f + j)) hkB (ks_mem ho _) vq)
        obtain ⟨r, e1, e2, e3, e4⟩ := join_nI (z := z) (mv := nI (16 * f + j)) hN hkB r2 r4 (ks_mem ho _) vq (cg_ne hc) hB2
        have emv : (16 : Int32) * nI f + nI j = nI (16 * f + j) := by rw [show (16 : Int32) * nI f = nI (16 * f) from pk_mul 16 f, nI_add]
        rw [emv, e1]
        exact ⟨_, rfl, nI_1 j, e2, e3, e4⟩
    · obtain ⟨x, st, rw', fs, od, re, fa⟩ := s
      obtain ⟨r1, r2, r3, r4⟩ := hr
      dsimp only at r1 r2 r3 r4
      subst r1
      subst r3
      show ∃ e, fX8_goOnBy_L3 z (nI o) (nI (num o)) (nI f) (nI n) (nI n) (tf T0 (mk bk two oth o n)) lb ls hn al st (nI _) rw' fs od fa = _ ∧ _
      unfold fX8_goOnBy_L3
      rw [if_pos (nI_le (Nat.le_refl _) (by omega))]
      exact ⟨_, rfl, r2, rfl, r4⟩
  obtain ⟨e, m1, m2, m3, m4⟩ := main
  rw [m1]
  exact ⟨_, rfl, m2, m3, m4⟩
theorem ks_skip {S : BS} {o f : Nat} (h : ∀ t, t < n → cg bk two oth o f t = false) : ∀ j, j ≤ n → ks n (cg bk two oth) S o (f * n + j) = ks n (cg bk two oth) S o (f * n)
  | 0, _ => rfl
  | j + 1, hj => by
    obtain ⟨d1, d2⟩ := dm (f := f) (show j < n by omega)
    show ks n (cg bk two oth) S o (f * n + j + 1) = _
    simp only [ks]
    rw [d1, d2, h j (by omega)]
    exact ks_skip h j (by omega)
theorem goOnFrom_nI (hp : PB n bk) (hb : BH n bk bh) (hG : HG n (cg bk two oth) V) (hN : NB V num lb ls hn al) (hn0 : 0 < n) {S : BS} (hS : BI V S) {o z : Nat} (ho : o ∈ S.1) (hz : 90 < z) {st fs od : Nat → Int32} {rw : Nat → Int64} {fa sk : Int32}
    (hR : RC V num S st fs od rw) (hF : FA S fa) :
    ∃ r, fX8_goOnFrom z (nI o) lb ls hn al T0 (nI n) (nI (lpN two)) bh (b01 oth) st (nI S.1.length) rw fs od sk fa = some r ∧ r.1 = tf T0 (mk bk two oth o n) ∧
      RC V num (ks n (cg bk two oth) S o (n * n)) r.2.1 r.2.2.2.1 r.2.2.2.2.1 r.2.2.1 ∧ r.2.2.2.2.2.1 = nI (ks n (cg bk two oth) S o (n * n)).1.length ∧ FA (ks n (cg bk two oth) S o (n * n)) r.2.2.2.2.2.2.1 ∧
      r.2.2.2.2.2.2.2 = if ck n (cg bk two oth) o (n * n) = 0 then sk + 1 else sk := by
  have h9 := hp.1
  have vo := hS.2.1 _ ho
  have ho9 := hG.1 _ vo
  have n1 := hN.1 o vo
  unfold fX8_goOnFrom
  rw [hN.2.2 z o vo]
  show ∃ r, (fX3_find z (nI o) T0 (nI n) (nI (lpN two)) bh (b01 oth)).bind _ = some r ∧ _
  rw [find_nI hp hb ho9 (by omega)]
  have main : ∃ e, lp (fun sg => fX8_goOnFrom_L22 z (nI o) (nI (num o)) sg.1 sg.2.1 lb ls hn al (tf T0 (mk bk two oth o n)) (nI n) (nI (lpN two)) bh (b01 oth) sg.2.2.1 sg.2.2.2.2.2.2.1 sg.2.2.2.1 sg.2.2.2.2.1 sg.2.2.2.2.2.1 sk sg.2.2.2.2.2.2.2) z (0, 0, st, rw, fs, od, nI S.1.length, fa) = some e ∧
      (e.1 = b01 (ck n (cg bk two oth) o (n * n) != 0) ∧ RC V num (ks n (cg bk two oth) S o (n * n)) e.2.1 e.2.2.2.1 e.2.2.2.2.1 e.2.2.1 ∧ e.2.2.2.2.2.1 = nI (ks n (cg bk two oth) S o (n * n)).1.length ∧ FA (ks n (cg bk two oth) S o (n * n)) e.2.2.2.2.2.2) := by
    refine lp_rel0 (fun (i : Nat) (s : Int32 × Int32 × (Nat → Int32) × (Nat → Int64) × (Nat → Int32) × (Nat → Int32) × Int32 × Int32) => s.2.1 = nI i ∧ s.1 = b01 (ck n (cg bk two oth) o (i * n) != 0) ∧ RC V num (ks n (cg bk two oth) S o (i * n)) s.2.2.1 s.2.2.2.2.1 s.2.2.2.2.2.1 s.2.2.2.1 ∧ s.2.2.2.2.2.2.1 = nI (ks n (cg bk two oth) S o (i * n)).1.length ∧ FA (ks n (cg bk two oth) S o (i * n)) s.2.2.2.2.2.2.2) _ n ?_ (fun i s hi hr => ?_) (fun s hr => ?_) (by omega)
    · simp only [Nat.zero_mul]
      exact ⟨rfl, rfl, hR, rfl, hF⟩
    · obtain ⟨y, x, st, rw', fs, od, re, fa⟩ := s
      obtain ⟨r1, r2, r3, r4, r5⟩ := hr
      dsimp only at r1 r2 r3 r4 r5
      subst r1
      subst r2
      subst r4
      have esp : ck n (cg bk two oth) o ((i + 1) * n) = ck n (cg bk two oth) o (i * n) + fb_ct (fun t => cg bk two oth o ((i * n + t) / n) ((i * n + t) % n)) n := by
        unfold ck
        rw [Nat.add_mul, Nat.one_mul, fb_ct_split]
      have erow : ∀ t, t < n → cg bk two oth o ((i * n + t) / n) ((i * n + t) % n) = cg bk two oth o i t := fun t ht => by rw [(dm (f := i) ht).1, (dm (f := i) ht).2]
      have e1n : (i + 1) * n = i * n + n := by rw [Nat.add_mul, Nat.one_mul]
      show ∃ s', fX8_goOnFrom_L22 z (nI o) (nI (num o)) (b01 _) (nI i) lb ls hn al (tf T0 (mk bk two oth o n)) (nI n) (nI (lpN two)) bh (b01 oth) st (nI _) rw' fs od sk fa = _ ∧ _
      unfold fX8_goOnFrom_L22
      rw [if_neg (nI_ge hi (by omega)), targetsOf_nI (by omega)]
      show ∃ s', (if nI (mk bk two oth o n i) = 0 then _ else _) = _ ∧ _
      have hml := mk_lt (two := two) (oth := oth) (o := o) hp n (Nat.le_refl _) i
      by_cases c0 : mk bk two oth o n i = 0
      · rw [if_pos (by rw [c0]; rfl)]
        have hno := (mk_zero hp ho9 hi).mp c0
        have hz0 : fb_ct (fun t => cg bk two oth o ((i * n + t) / n) ((i * n + t) % n)) n = 0 := fb_ct_zero.mpr (fun t ht => by rw [erow t ht]; exact hno t ht)
        refine ⟨_, rfl, nI_1 i, ?_, ?_, ?_, ?_⟩
        · show b01 _ = _
          rw [esp, hz0, Nat.add_zero]
        · rw [e1n, ks_skip hno n (Nat.le_refl _)]; exact r3
        · rw [e1n, ks_skip hno n (Nat.le_refl _)]
        · rw [e1n, ks_skip hno n (Nat.le_refl _)]; exact r5
      · rw [if_neg (nI_ne0 (by omega) (by omega))]
        obtain ⟨r, g1, g2, g3, g4⟩ := goOnBy_nI (z := z) (T0 := T0) hp hG hN hn0 hS ho hi hz r3 r5
        rw [g1]
        refine ⟨_, rfl, nI_1 i, ?_, ?_, ?_, ?_⟩
        · show (1 : Int32) = _
          have hpos : 0 < fb_ct (fun t => cg bk two oth o ((i * n + t) / n) ((i * n + t) % n)) n := by
            rcases Nat.eq_zero_or_pos (fb_ct (fun t => cg bk two oth o ((i * n + t) / n) ((i * n + t) % n)) n) with a | a
            · exfalso
              refine c0 ((mk_zero hp ho9 hi).mpr (fun t ht => ?_))
              rw [← erow t ht]
              exact fb_ct_zero.mp a t ht
            · exact a
          have : (ck n (cg bk two oth) o ((i + 1) * n) != 0) = true := by
            rw [bne_iff_ne]
            omega
          rw [this]
          rfl
        · rw [e1n]; exact g2
        · rw [e1n]; exact g3
        · rw [e1n]; exact g4
    · obtain ⟨y, x, st, rw', fs, od, re, fa⟩ := s
      obtain ⟨r1, r2, r3, r4, r5⟩ := hr
      dsimp only at r1 r2 r3 r4 r5
      subst r1
      subst r2
      subst r4
      show ∃ e, fX8_goOnFrom_L22 z (nI o) (nI (num o)) (b01 _) (nI n) lb ls hn al (tf T0 (mk bk two oth o n)) (nI n) (nI (lpN two)) bh (b01 oth) st (nI _) rw' fs od sk fa = _ ∧ _
      unfold fX8_goOnFrom_L22
      rw [if_pos (nI_le (Nat.le_refl _) (by omega))]
      exact ⟨_, rfl, rfl, r3, rfl, r5⟩
  obtain ⟨e, m1, m2, m3, m4, m5⟩ := main
  show ∃ r, (lp _ z (0, 0, st, rw, fs, od, nI S.1.length, fa)).bind _ = some r ∧ _
  rw [m1]
  show ∃ r, fX8_goOnFrom_J62 z e.1 lb ls hn al (tf T0 (mk bk two oth o n)) (nI n) (nI (lpN two)) bh (b01 oth) e.2.1 e.2.2.2.2.2.1 e.2.2.1 e.2.2.2.1 e.2.2.2.2.1 sk e.2.2.2.2.2.2 = some r ∧ _
  unfold fX8_goOnFrom_J62
  rw [m2]
  by_cases c0 : ck n (cg bk two oth) o (n * n) = 0
  · rw [if_pos (by rw [c0]; rfl), if_pos c0]
    exact ⟨_, rfl, rfl, m3, m4, m5, rfl⟩
  · have : (ck n (cg bk two oth) o (n * n) != 0) = true := by simp [c0]
    rw [if_neg (by rw [this]; decide), if_neg c0]
    exact ⟨_, rfl, rfl, m3, m4, m5, rfl⟩
end CL
