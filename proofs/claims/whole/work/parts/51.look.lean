theorem fillFirst_nI {z N M : Nat} {x : Int32} {g : Nat → Int32} (hN : N ≤ M) (hM : M < 2 ^ 31) (hz : N < z) : fX9_fillFirst z (nI N) x M g = some (fa_fill (fun _ => x) g N) := by
  unfold fX9_fillFirst
  refine (lp_b (fun i => (nI i, fa_fill (fun _ => x) g i)) N (fa_fill (fun _ => x) g N) (by rw [fa_fill_0]; rfl) (fun i hi => ?_) ?_ hz).trans rfl
  · show fX9_fillFirst_L2 z (nI N) x (nI i) M (fa_fill (fun _ => x) g i) = _
    unfold fX9_fillFirst_L2
    rw [if_neg (nI_ge hi (by omega)), if_neg (nI_ge (show i < M by omega) hM), agd_in (by omega) hM, cl_nI (by omega), nI_1, fa_fill_succ (fun _ => x)]
  · show fX9_fillFirst_L2 z (nI N) x (nI N) M (fa_fill (fun _ => x) g N) = _
    unfold fX9_fillFirst_L2
    rw [if_pos (nI_le (Nat.le_refl N) (by omega))]
/-- how many of the row's first k are STUCK -/
def sk (n : Nat) (c : Nat → Nat → Nat → Bool) (o0 k : Nat) : Nat := fb_ct (fun j => ck n c ((bf n c o0).1.getD j 0) (n * n) == 0) k
/-- the search from o0, as the class holds it -/
def SV (n : Nat) (c : Nat → Nat → Nat → Bool) (V : Nat → Prop) (num : Nat → Nat) (o0 : Nat) (st : Nat → Int32) (re stk fa : Int32) (rw : Nat → Int64) (fs od : Nat → Int32) : Prop :=
  RC V num (bf n c o0) st fs od rw ∧ re = nI (bf n c o0).1.length ∧ FA (bf n c o0) fa ∧ stk = nI (sk n c o0 (bf n c o0).1.length)
section CK
variable {n : Nat} {bk : Nat → Nat} {bh : Nat → Int32} {oth two : Bool} {V : Nat → Prop} {num : Nat → Nat} {ls hn T0 : Nat → Int32} {lb : Int32} {o0 : Nat}
theorem look77 (hp : PB n bk) (hb : BH n bk bh) (hG : HG n (cg bk two oth) V) {al : Int32} (hN : NB V num lb ls hn al) (hn0 : 0 < n) (h0 : V o0) {z : Nat} (hz : 8000 < z) {st fs od : Nat → Int32} {rw : Nat → Int64} {x1 sd sta lo : Int32}
    (hR : RC V num (bs0 o0) st fs od rw) :
    ∃ e, lp (fun sg => fX8_lookFrom_L77 z x1 sg.1 sd sta al sg.2.1 lb ls hn sg.2.2.1 sg.2.2.2.2.2.1 sg.2.2.2.2.2.2.1 sg.2.2.2.2.2.2.2.1 sg.2.2.2.2.2.2.2.2 (nI n) (nI (lpN two)) bh (b01 oth) sg.2.2.2.1 lo sg.2.2.2.2.1) z (0, st, 1, 0, 0, rw, fs, od, T0) = some e ∧
      (SV n (cg bk two oth) V num o0 e.1 e.2.1 e.2.2.1 e.2.2.2.1 e.2.2.2.2.1 e.2.2.2.2.2.1 e.2.2.2.2.2.2.1) := by
  obtain ⟨N, n1, n2, n3, n4⟩ := ps_end hG hn0 h0
  refine lp_rel0 (fun (p : Nat) (s : Int32 × (Nat → Int32) × Int32 × Int32 × Int32 × (Nat → Int64) × (Nat → Int32) × (Nat → Int32) × (Nat → Int32)) => s.1 = nI p ∧ RC V num (ps n (cg bk two oth) o0 p) s.2.1 s.2.2.2.2.2.2.1 s.2.2.2.2.2.2.2.1 s.2.2.2.2.2.1 ∧ s.2.2.1 = nI (ps n (cg bk two oth) o0 p).1.length ∧ FA (ps n (cg bk two oth) o0 p) s.2.2.2.2.1 ∧ s.2.2.2.1 = nI (sk n (cg bk two oth) o0 p)) _ N ⟨rfl, hR, rfl, rfl, rfl⟩ (fun p s hk hr => ?_) (fun s hr => ?_) (by omega)
  · obtain ⟨x, st, re, stk, fa, rw', fs, od, T⟩ := s
    obtain ⟨r1, r2, r3, r4, r5⟩ := hr
    dsimp only at r1 r2 r3 r4 r5
    subst r1
    subst r3
    subst r5
    have hpB := ps_BI hG hn0 h0 p
    have hl := hG.2.2 _ hpB
    have hpl := n2 p hk
    show ∃ s', fX8_lookFrom_L77 z x1 (nI p) sd sta al st lb ls hn (nI _) rw' fs od T (nI n) (nI (lpN two)) bh (b01 oth) (nI _) lo fa = _ ∧ _
    unfold fX8_lookFrom_L77
    rw [if_neg (nI_ge hpl (by omega)), if_neg (show ¬ (7560 : Int32) ≤ nI p from nI_ge (a := p) (b := 7560) (by omega) (by decide)), agd_in (by omega) (by decide), cl_nI (by omega), r2.1 p hpl]
    obtain ⟨r, g1, g2, g3, g4, g5, g6⟩ := goOnFrom_nI (z := z) (T0 := T) (sk := nI (sk n (cg bk two oth) o0 p)) hp hb hG hN hn0 hpB (getD_mem hpl) (by omega) r2 r4
    rw [g1]
    refine ⟨_, rfl, nI_1 p, ?_, ?_, ?_, ?_⟩
    · simp only [ps]; rw [if_pos hpl]; exact g3
    · simp only [ps]; rw [if_pos hpl]; exact g4
    · simp only [ps]; rw [if_pos hpl]; exact g5
    · show r.2.2.2.2.2.2.2 = _
      rw [g6]
      have eb := bf_getD (n := n) (c := cg bk two oth) (o0 := o0) n1 (show p ≤ N by omega) hpl
      unfold sk
      rw [fb_ct_succ, eb]
      by_cases c0 : ck n (cg bk two oth) ((ps n (cg bk two oth) o0 p).1.getD p 0) (n * n) = 0
      · rw [if_pos c0, nI_1, c0]; rfl
      · rw [if_neg c0]
        have : (ck n (cg bk two oth) ((ps n (cg bk two oth) o0 p).1.getD p 0) (n * n) == 0) = false := beq_eq_false_iff_ne.mpr c0
        rw [this]
        rfl
  · obtain ⟨x, st, re, stk, fa, rw', fs, od, T⟩ := s
    obtain ⟨r1, r2, r3, r4, r5⟩ := hr
    dsimp only at r1 r2 r3 r4 r5
    subst r1
    subst r3
    subst r5
    show ∃ e, fX8_lookFrom_L77 z x1 (nI N) sd sta al st lb ls hn (nI _) rw' fs od T (nI n) (nI (lpN two)) bh (b01 oth) (nI _) lo fa = _ ∧ _
    unfold fX8_lookFrom_L77
    rw [if_pos (nI_le (by omega) (by omega))]
    refine ⟨_, rfl, ?_⟩
    rw [n4] at r2 r4 n3
    exact ⟨r2, by rw [n4], r4, by rw [n3]⟩
theorem lookFrom_nI (hp : PB n bk) (hb : BH n bk bh) (hG : HG n (cg bk two oth) V) {A : Nat} (hA : A ≤ 7560) (hN : NB V num lb ls hn (nI A)) (hNA : ∀ q, V q → num q < A) (hn0 : 0 < n) (h0 : V o0) {z : Nat} (hz : 8000 < z) {st fs od : Nat → Int32} {rw : Nat → Int64} {sd sta lo re stk fa : Int32}
    (hc : ¬ sd = 0 → sta = nI o0 → SV n (cg bk two oth) V num o0 st re stk fa rw fs od) :
    ∃ r, fX8_lookFrom z (nI o0) sd sta (nI A) st lb ls hn re rw fs od T0 (nI n) (nI (lpN two)) bh (b01 oth) stk lo fa = some r ∧
      SV n (cg bk two oth) V num o0 r.1 r.2.1 r.2.2.1 r.2.2.2.1 r.2.2.2.2.1 r.2.2.2.2.2.1 r.2.2.2.2.2.2.1 ∧ r.2.2.2.2.2.2.2.2.1 = nI o0 ∧
      ((sd = 0 ∨ sta ≠ nI o0) ∧ r.2.2.2.2.2.2.2.2.2.1 = 1 ∧ r.2.2.2.2.2.2.2.2.2.2 = lo + 1 ∨ (¬ sd = 0 ∧ sta = nI o0 ∧ r = (st, re, stk, fa, rw, fs, od, T0, sta, sd, lo))) := by
  have n2 := hNA o0 h0
  have j16 : ∃ r, fX8_lookFrom_J16 z (nI o0) sd sta (nI A) st lb ls hn re rw fs od T0 (nI n) (nI (lpN two)) bh (b01 oth) stk lo fa = some r ∧
      SV n (cg bk two oth) V num o0 r.1 r.2.1 r.2.2.1 r.2.2.2.1 r.2.2.2.2.1 r.2.2.2.2.2.1 r.2.2.2.2.2.2.1 ∧ r.2.2.2.2.2.2.2.2.1 = nI o0 ∧ r.2.2.2.2.2.2.2.2.2.1 = 1 ∧ r.2.2.2.2.2.2.2.2.2.2 = lo + 1 := by
    unfold fX8_lookFrom_J16
    rw [fillFirst_nI hA (by decide) (by omega)]
    show ∃ r, (fX4_numberOf z (nI o0) lb ls hn (nI A)).bind _ = some r ∧ _
    rw [hN.2.2 z o0 h0]
    show ∃ r, (if nI (num o0) = -1 then _ else _) = some r ∧ _
    rw [if_neg (nI_ne_m1 (by omega))]
    unfold fX8_meet
    rw [if_pos (show (0 : Int32) < 7560 by decide), agd_in (show num o0 < 7560 by omega) (by decide), agd_in (show num o0 < 7560 by omega) (by decide), agd_in (show num o0 < 7560 by omega) (by decide), agd_0 (by decide), cl_nI (by omega)]
    show ∃ r, agd 7560 (nI (num o0)) _ = some r ∧ _
    rw [agd_in (show num o0 < 7560 by omega) (by decide)]
    have hR0 : RC V num (bs0 o0) (upd (fa_fill (fun _ => (-1 : Int32)) st A) (num o0) 0) (upd fs (num o0) (-1)) (upd od 0 (nI o0)) (vp_updL (vp_updL rw (num o0) 0) (num o0) 1) := by
      refine ⟨fun p hp => ?_, fun q hq => ?_, fun q hq => ?_⟩
      · have : p = 0 := by
          have : p < 1 := hp
          omega
        subst this
        rw [pk_us]
        rfl
      · by_cases e : q = o0
        · subst e
          rw [pk_us, if_pos (by simp [bs0])]
          rfl
        · rw [pk_un (fun h => e (hN.2.1 q o0 hq h0 h)), fa_fill_in (hNA q hq), if_neg (by simp [bs0, e])]
      · have e : q = o0 := by simpa [bs0] using hq
        subst e
        rw [pk_uLs, pk_us]
        exact ⟨rfl, rfl⟩
    obtain ⟨e, g1, g2⟩ := look77 (z := z) (T0 := T0) (x1 := nI o0) (sd := sd) (sta := sta) (lo := lo) hp hb hG hN hn0 h0 hz hR0
    show ∃ r, (lp _ z (0, upd (fa_fill (fun _ => (-1 : Int32)) st A) (num o0) 0, 1, 0, 0, vp_updL (vp_updL rw (num o0) 0) (num o0) 1, upd fs (num o0) (-1), upd od 0 (nI o0), T0)).bind _ = some r ∧ _
    rw [g1]
    exact ⟨_, rfl, g2, rfl, rfl, rfl⟩
  unfold fX8_lookFrom
  by_cases c1 : sd = 0
  · rw [if_pos c1]
    obtain ⟨r, a, b, c, d, e⟩ := j16
    exact ⟨r, a, b, c, Or.inl ⟨Or.inl c1, d, e⟩⟩
  · rw [if_neg c1]
    by_cases c2 : sta = nI o0
    · rw [if_pos c2]
      exact ⟨_, rfl, hc c1 c2, c2, Or.inr ⟨c1, c2, rfl⟩⟩
    · rw [if_neg c2]
      obtain ⟨r, a, b, c, d, e⟩ := j16
      exact ⟨r, a, b, c, Or.inl ⟨Or.inr c2, d, e⟩⟩
end CK
