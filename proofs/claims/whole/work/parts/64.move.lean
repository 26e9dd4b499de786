/-! ===== can, move, back, image, restore ===== -/
theorem mvd_back {n o f t : Nat} (ho : o < 4 ^ n) (hf : f < n) (ht : t < n) (hne : f ≠ t) (h0 : kd o t = 0) : mvd (mvd o f t) t f = o ∧ kd (mvd o f t) f = 0 := by
  have hf0 : kd (mvd o f t) f = 0 := by rw [kd_mvd hne h0, if_neg hne, if_pos rfl]
  have hlt := mvd_lt ho hf ht hne h0
  refine ⟨kd_ext (n := n) (mvd_lt hlt ht hf (Ne.symm hne) hf0) ho (fun i _ => ?_), hf0⟩
  rw [kd_mvd (Ne.symm hne) hf0, kd_mvd hne h0, if_pos rfl]
  by_cases c1 : i = f
  · rw [if_pos c1, c1]
  · rw [if_neg c1]
    by_cases c2 : i = t
    · rw [if_pos c2, c2, h0]
    · rw [if_neg c2, kd_mvd hne h0, if_neg c2, if_neg c1]
/-- the moves made up to an order, in both -/
def MV (n k o : Nat) (fs ts rows : Nat → Int32) : Prop := k ≤ 60 ∧ ∃ os fr tt : Nat → Nat, os k = o ∧ ∀ j, j < k → fr j < n ∧ tt j < n ∧ fr j ≠ tt j ∧ os j < 4 ^ n ∧ kd (os j) (tt j) = 0 ∧ os (j + 1) = mvd (os j) (fr j) (tt j) ∧ fs j = nI (fr j) ∧ ts j = nI (tt j) ∧ rows (2 * j) = nI (fr j) ∧ rows (2 * j + 1) = nI (tt j)
section MVS
variable {n o z k : Nat} {bk : Nat → Nat} {two oth : Bool} {bh par T fs ts rows : Nat → Int32} {sort xl : Int32}
theorem can_pair (hp : PB n bk) (hb : BH n bk bh) (hB : BO n bk sort par) (hl : 0 < n → xl = nI (lpN two)) (ho : o < 4 ^ n) (hz : 9 < z) (x1 x2 : Int32) :
    ∃ r T', fX9_can z x1 x2 (nI n) (nI o) T xl bh (b01 oth) = some (r, T') ∧ fX10_can z x1 x2 (nI n) (nI o) (b01 two) sort par (b01 oth) = some r := by
  have hn := hp.1
  have h10 : ¬ (1 : Int32) = 0 := by decide
  unfold fX9_can fX10_can
  rcases isStone_cases hp.1 x1 with ⟨i, hi, rfl, h1, h2⟩ | ⟨h1, h2⟩
  · rcases isStone_cases hp.1 x2 with ⟨j, hj, rfl, h3, h4⟩ | ⟨h3, h4⟩
    · have hm := mk_lt (two := two) (oth := oth) (o := o) hp n (Nat.le_refl _) i
      rw [h1, h2 z, h3, hl (by omega), find_nI hp hb (o9 hn ho) hz]
      rw [if_neg h10, if_neg h10, Option.bind_some, Option.bind_some, if_neg h10, has_nI (by omega) (by omega) hm, mk_cg hp (o9 hn ho) hi hj, h4 z, Option.bind_some, Option.bind_some, if_neg h10, canGo_nI hp hB (o9 hn ho) hi hj hz]
      cases cg bk two oth o i j
      · exact ⟨0, _, rfl, rfl⟩
      · exact ⟨1, _, rfl, rfl⟩
    · rw [h1, h2 z, h3, if_neg h10, if_pos rfl, Option.bind_some, if_neg h10, h4 z]
      exact ⟨_, _, rfl, rfl⟩
  · rw [h1, h2 z, if_pos rfl]
    exact ⟨_, _, rfl, rfl⟩
theorem move_pair (hp : PB n bk) (hb : BH n bk bh) (hB : BO n bk sort par) (hl : 0 < n → xl = nI (lpN two)) (ho : o < 4 ^ n) (hz : 9 < z) (hM : MV n k o fs ts rows) (x1 x2 : Int32) :
    ∃ r T' fs' ts' k' o' rows', fX9_move z x1 x2 (nI n) (nI o) T xl bh (b01 oth) (nI k) fs ts = some (r, T', fs', ts', nI k', nI o') ∧ fX10_move z x1 x2 (nI n) (nI o) (b01 two) sort par (b01 oth) (nI k) rows = some (r, nI o', rows', nI k') ∧
      MV n k' o' fs' ts' rows' ∧ o' < 4 ^ n ∧ ∀ q, ct q o' n = ct q o n := by
  have hn := hp.1
  have h10 : ¬ (1 : Int32) = 0 := by decide
  unfold fX9_move fX10_move
  rcases isStone_cases hp.1 x1 with ⟨i, hi, rfl, h1, h2⟩ | ⟨h1, h2⟩
  · rcases isStone_cases hp.1 x2 with ⟨j, hj, rfl, h3, h4⟩ | ⟨h3, h4⟩
    · have hm := mk_lt (two := two) (oth := oth) (o := o) hp n (Nat.le_refl _) i
      rw [h1, h2 z, h3, hl (by omega), find_nI hp hb (o9 hn ho) hz]
      rw [if_neg h10, if_neg h10, Option.bind_some, Option.bind_some, if_neg h10, has_nI (by omega) (by omega) hm, mk_cg hp (o9 hn ho) hi hj, h4 z, Option.bind_some, Option.bind_some, if_neg h10, canGo_nI hp hB (o9 hn ho) hi hj hz]
      cases hc : cg bk two oth o i j with
      | false => exact ⟨-103, _, fs, ts, k, o, rows, rfl, rfl, hM, ho, fun _ => rfl⟩
      | true =>
        rw [Option.bind_some, if_neg (show ¬ b01 true = 0 by decide), if_neg (show ¬ b01 true = 0 by decide)]
        obtain ⟨hk, os, fr, tt, m1, m2⟩ := hM
        by_cases c60 : k = 60
        · subst c60
          rw [if_neg (show ¬ nI 60 < 60 by decide), if_pos (show nI 60 = 60 from rfl)]
          exact ⟨-104, _, fs, ts, 60, o, rows, rfl, rfl, ⟨hk, os, fr, tt, m1, m2⟩, ho, fun _ => rfl⟩
        · obtain ⟨g1, g2, g3⟩ := cg_facts hc
          have hk2 : (2 : Int32) * nI k = nI (2 * k) := pk_mul 2 k
          rw [if_pos (show nI k < 60 from nI_lt (b := 60) (by omega) (by decide)), if_neg (show ¬ nI k = 60 from nlit (k := 60) (by omega) (by decide) c60)]
          unfold fX1_make
          rw [if_neg (show ¬ 60 ≤ nI k from nI_ge (a := k) (b := 60) (by omega) (by decide)), agd_in (by omega) (by decide), agd_in (by omega) (by decide), hk2, nI_1 (2 * k), agd_in (by omega) (by decide), agd_in (by omega) (by decide), cl_nI (by omega), cl_nI (by omega), cl_nI (by omega), afterMove_nI (o9 hn ho) (by omega) (by omega), moved_nI (o9 hn ho) (by omega) (by omega) g3 g2, nI_1]
          refine ⟨nI (k + 1), _, _, _, k + 1, mvd o i j, _, rfl, rfl, ⟨by omega, fun q => if q = k + 1 then mvd o i j else os q, fun q => if q = k then i else fr q, fun q => if q = k then j else tt q, if_pos rfl, fun q hq => ?_⟩, mvd_lt ho hi hj g3 g2, fun q => ct_mvd hi hj g3 g2 q⟩
          dsimp only
          by_cases c : q = k
          · subst c
            rw [if_pos rfl, if_pos rfl, if_pos rfl, if_neg (by omega), m1, pk_us, pk_us, pk_un (by omega), pk_us, pk_us]
            exact ⟨hi, hj, g3, ho, g2, rfl, rfl, rfl, rfl, rfl⟩
          · obtain ⟨w1, w2, w3, w4, w5, w6, w7, w8, w9, w10⟩ := m2 q (by omega)
            rw [if_neg c, if_neg c, if_neg (by omega), if_neg (by omega), pk_un c, pk_un c, pk_un (by omega), pk_un (by omega), pk_un (by omega), pk_un (by omega)]
            exact ⟨w1, w2, w3, w4, w5, w6, w7, w8, w9, w10⟩
    · rw [h1, h2 z, h3, if_neg h10, if_pos rfl, Option.bind_some, if_neg h10, h4 z]
      exact ⟨_, _, fs, ts, k, o, rows, rfl, rfl, hM, ho, fun _ => rfl⟩
  · rw [h1, h2 z, if_pos rfl]
    exact ⟨_, _, fs, ts, k, o, rows, rfl, rfl, hM, ho, fun _ => rfl⟩
theorem back_pair (hn : n ≤ 9) (ho : o < 4 ^ n) (hM : MV n k o fs ts rows) :
    ∃ r k' o', fX9_back z (nI k) (nI o) ts fs = some (r, nI k', nI o') ∧ fX10_back z (nI k) (nI o) rows = some (r, nI k', nI o') ∧ MV n k' o' fs ts rows ∧ o' < 4 ^ n ∧ ∀ q, ct q o' n = ct q o n := by
  unfold fX9_back fX10_back
  obtain ⟨hk, os, fr, tt, m1, m2⟩ := id hM
  cases k with
  | zero =>
    rw [if_pos (show nI 0 = 0 from rfl), if_pos (show nI 0 = 0 from rfl)]
    exact ⟨_, 0, o, rfl, rfl, hM, ho, fun _ => rfl⟩
  | succ k =>
    obtain ⟨w1, w2, w3, w4, w5, w6, w7, w8, w9, w10⟩ := m2 k (by omega)
    obtain ⟨b1, b2⟩ := mvd_back w4 w1 w2 w3 w5
    rw [m1] at w6
    rw [← w6] at b1 b2
    have hk2 : (2 : Int32) * nI k = nI (2 * k) := pk_mul 2 k
    rw [if_neg (nI_ne0 (by omega) (by omega)), if_neg (nI_ne0 (by omega) (by omega))]
    unfold fX1_unmake
    rw [if_neg (nI_nle (by omega) (by omega)), nI_pred, agd_in (by omega) (by decide), agd_in (by omega) (by decide), hk2, nI_1 (2 * k), agd_in (by omega) (by decide), agd_in (by omega) (by decide), cl_nI (by omega), cl_nI (by omega), cl_nI (by omega), w7, w8, w9, w10, afterMove_nI (o9 hn ho) (by omega) (by omega), moved_nI (o9 hn ho) (by omega) (by omega) (Ne.symm w3) b2, b1]
    exact ⟨_, k, os k, rfl, rfl, ⟨by omega, os, fr, tt, rfl, fun j hj => m2 j (by omega)⟩, w4, fun q => by rw [w6]; exact (ct_mvd w1 w2 w3 w5 q).symm⟩
theorem MV_cpy (hM : MV n k o fs ts rows) {fs' ts' rows' : Nat → Int32} (h1 : ∀ j, j < 60 → fs' j = fs j) (h2 : ∀ j, j < 60 → ts' j = ts j) (h3 : ∀ j, j < 120 → rows' j = rows j) : MV n k o fs' ts' rows' := by
  obtain ⟨hk, os, fr, tt, m1, m2⟩ := hM
  refine ⟨hk, os, fr, tt, m1, fun j hj => ?_⟩
  rw [h1 j (by omega), h2 j (by omega), h3 _ (by omega), h3 _ (by omega)]
  exact m2 j hj
theorem copy_nI {f1 f2 t1 t2 : Nat → Int32} {a b c d : Int32} : ∃ f t, fX1_copy z f1 f2 t1 t2 a b c d = some (f, t, a, b) ∧ (∀ j, j < 60 → f j = f1 j) ∧ ∀ j, j < 60 → t j = t1 j := by
  unfold fX1_copy cgd
  rw [if_pos (by decide), if_pos (by decide)]
  exact ⟨_, _, rfl, fun j hj => sb_cpy0 hj, fun j hj => sb_cpy0 hj⟩
theorem image_lp {a g : Nat → Int32} (hz : 120 < z) {c1 c2 c3 c4 c5 c6 c7 : Int32} : ∃ e, lp (fun sg => fX10_image_L12 z sg.1 c1 a sg.2 c2 c3 c4 c5 c6 c7) z (0, g) = some e ∧ ∀ j, j < 120 → e j = a j := by
  refine ⟨fa_fill a g 120, lp_0 (fun i => (nI i, fa_fill a g i)) (by rw [fa_fill_0]; rfl) (fun i hi => ?_) ?_ hz, fun j hj => fa_fill_in hj⟩
  · show fX10_image_L12 z (nI i) c1 a (fa_fill a g i) c2 c3 c4 c5 c6 c7 = _
    unfold fX10_image_L12
    rw [if_neg (show ¬ (120 : Int32) ≤ nI i from nI_ge (a := i) (b := 120) hi (by decide)), agd_in hi (by decide), agd_in hi (by decide), cl_nI (by omega), nI_1, fa_fill_succ]
  · show fX10_image_L12 z (nI 120) c1 a (fa_fill a g 120) c2 c3 c4 c5 c6 c7 = _
    unfold fX10_image_L12
    rw [if_pos (by decide)]
theorem restore_lp {a g : Nat → Int32} (hz : 120 < z) {c1 c2 c3 c4 c5 c6 : Int32} : ∃ e, lp (fun sg => fX10_restore_L24 z sg.1 c1 c2 a sg.2 c3 c4 c5 c6) z (0, g) = some e ∧ ∀ j, j < 120 → e j = a j := by
  refine ⟨fa_fill a g 120, lp_0 (fun i => (nI i, fa_fill a g i)) (by rw [fa_fill_0]; rfl) (fun i hi => ?_) ?_ hz, fun j hj => fa_fill_in hj⟩
  · show fX10_restore_L24 z (nI i) c1 c2 a (fa_fill a g i) c3 c4 c5 c6 = _
    unfold fX10_restore_L24
    rw [if_neg (show ¬ (120 : Int32) ≤ nI i from nI_ge (a := i) (b := 120) hi (by decide)), agd_in hi (by decide), agd_in hi (by decide), cl_nI (by omega), nI_1, fa_fill_succ]
  · show fX10_restore_L24 z (nI 120) c1 c2 a (fa_fill a g 120) c3 c4 c5 c6 = _
    unfold fX10_restore_L24
    rw [if_pos (by decide)]
/-- what is kept, in both; r: how many STONES were read -/
def KP (n o r : Nat) (kst kmd kod : Int32) (kfs kts : Nat → Int32) (kp mko mkm : Int32) (mkr : Nat → Int32) : Prop :=
  (kp = -1 ∨ ∃ c, c ≤ r ∧ kp = nI c) ∧ ((kst = 0 ∧ (kp = -1 ∨ ∃ c, c < r ∧ kp = nI c)) ∨ (kst = 1 ∧ kp = nI r ∧ ∃ k' o', kmd = nI k' ∧ mkm = nI k' ∧ kod = nI o' ∧ mko = nI o' ∧ MV n k' o' kfs kts mkr ∧ VO n o o'))
theorem image_pair {r : Nat} (ho : o < 4 ^ n) (hn : n ≤ 9) (hz : 120 < z) (hM : MV n k o fs ts rows) {kst kmd kod kp mko mkm : Int32} {kfs kts mkr : Nat → Int32} (hK : KP n o r kst kmd kod kfs kts kp mko mkm mkr) :
    ∃ q kst' kmd' kod' kfs' kts' kp' mko' mkm' mkr', fX9_image z (nI n) fs kfs ts kts (nI k) (nI o) kmd kod kst = some (q, kfs', kts', kmd', kod', kst') ∧ fX10_image z (nI n) rows mkr (nI o) (nI k) (nI r) mko mkm kp = some (q, mkr', mko', mkm', kp') ∧
      KP n o r kst' kmd' kod' kfs' kts' kp' mko' mkm' mkr' := by
  unfold fX9_image fX10_image fX9_noStones fX10_lacks
  by_cases c : n = 0
  · subst c
    rw [if_pos (show nI 0 = 0 from rfl), if_neg (show ¬ (1 : Int32) = 0 by decide), if_neg (show ¬ (1 : Int32) = 0 by decide)]
    exact ⟨_, kst, kmd, kod, kfs, kts, kp, mko, mkm, mkr, rfl, rfl, hK⟩
  · rw [if_neg (nI_ne0 (by omega) (by omega)), if_pos rfl, if_pos rfl]
    obtain ⟨f, t, e1, e2, e3⟩ := copy_nI (z := z) (f1 := fs) (f2 := kfs) (t1 := ts) (t2 := kts) (a := nI k) (b := nI o) (c := kmd) (d := kod)
    obtain ⟨e, g1, g2⟩ := image_lp (z := z) (a := rows) (g := mkr) (c1 := nI n) (c2 := nI o) (c3 := nI k) (c4 := nI r) (c5 := mko) (c6 := mkm) (c7 := kp) hz
    rw [e1, g1]
    exact ⟨nI k, 1, nI k, nI o, f, t, nI r, nI o, nI k, e, rfl, rfl, Or.inr ⟨r, Nat.le_refl _, rfl⟩, Or.inr ⟨rfl, rfl, k, o, rfl, rfl, rfl, rfl, MV_cpy hM e2 e3 g2, ho, fun _ => rfl⟩⟩
theorem restore_pair {r : Nat} (hr : r < 2 ^ 31) (ho : o < 4 ^ n) (hz : 120 < z) (hM : MV n k o fs ts rows) {kst kmd kod kp mko mkm : Int32} {kfs kts mkr : Nat → Int32} (hK : KP n o r kst kmd kod kfs kts kp mko mkm mkr) :
    ∃ q fs' ts' k' o' rows', fX9_restore z kst kfs fs kts ts kmd kod (nI k) (nI o) = some (q, fs', ts', nI k', nI o') ∧ fX10_restore z kp (nI r) mkr rows mko mkm (nI k) (nI o) = some (q, rows', nI o', nI k') ∧
      MV n k' o' fs' ts' rows' ∧ o' < 4 ^ n ∧ ∀ q, ct q o' n = ct q o n := by
  unfold fX9_restore fX10_restore
  rcases hK with ⟨-, ⟨h1, h2⟩ | ⟨h1, h2, k', o', h3, h4, h5, h6, h7, h8⟩⟩
  · rw [if_pos h1]
    have e : (if kp = -1 then some ((-103 : Int32), rows, nI o, nI k) else (if kp = nI r then (lp (fun sg => fX10_restore_L24 z sg.1 kp (nI r) mkr sg.2 mko mkm (nI k) (nI o)) z (0, rows)).bind (fun ex => fX10_restore_J48 z kp (nI r) mkr ex mko mkm (nI k) (nI o)) else some ((-103), rows, nI o, nI k))) = some ((-103), rows, nI o, nI k) := by
      rcases h2 with h2 | ⟨c, h2, h3⟩
      · rw [if_pos h2]
      · rw [if_neg (by rw [h3]; exact nI_ne_m1 (by omega)), if_neg (by rw [h3]; exact nlit (by omega) hr (by omega))]
    rw [e]
    exact ⟨_, fs, ts, k, o, rows, rfl, rfl, hM, ho, fun _ => rfl⟩
  · subst h1 h2 h3 h4 h5 h6
    obtain ⟨f, t, e1, e2, e3⟩ := copy_nI (z := z) (f1 := kfs) (f2 := fs) (t1 := kts) (t2 := ts) (a := nI k') (b := nI o') (c := nI k) (d := nI o)
    obtain ⟨e, g1, g2⟩ := restore_lp (z := z) (a := mkr) (g := rows) (c1 := nI r) (c2 := nI r) (c3 := nI o') (c4 := nI k') (c5 := nI k) (c6 := nI o) hz
    rw [if_neg (show ¬ (1 : Int32) = 0 by decide), if_neg (nI_ne_m1 hr), if_pos rfl, e1, g1]
    exact ⟨nI k', f, t, k', o', e, rfl, rfl, MV_cpy h7 e2 e3 g2, h8.1, h8.2⟩
end MVS
