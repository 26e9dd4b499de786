/-! ===== digest ===== -/
section DH
variable {n : Nat} {bk : Nat → Nat} {bh par : Nat → Int32} {oth two : Bool} {o e l z rm s a : Nat} {ls hn T st fs od mo wi pl row far mr px pm : Nat → Int32} {rw wy : Nat → Int64} {lb al re stk fa sta sd sort xl ha xa ma rI rd md : Int32}
theorem fewX_nI (hp : PB n bk) (hb : BH n bk bh) (hn0 : 0 < n) (ho : o < 4 ^ n) (hz : 8000 < z) (hel : e ≤ l) (hV : VO n o a) (hS : SE n bk two oth o e l lb ls hn al st re stk fa rw fs od sta sd mo wi) :
    ∃ st' re' stk' fa' rw' fs' od' T' sta' sd' l', fX9_fewest z 1 (nI o) sd sta al st lb ls hn re rw fs od T (nI n) (nI (lpN two)) bh (b01 oth) stk (nI l) (nI a) fa = some (fwV (bf n (cg bk two oth) o) a, st', re', stk', fa', rw', fs', od', T', sta', sd', nI l') ∧
      e ≤ l' ∧ l' ≤ l + 1 ∧ SE n bk two oth o e l' lb ls hn al st' re' stk' fa' rw' fs' od' sta' sd' mo wi := by
  obtain ⟨st', re', stk', fa', rw', fs', od', T', sd', l', k1, k2, k3, k4, k5⟩ := look_SE (z := z) (T := T) (bh := bh) hp hb hn0 ho hz hel hS
  obtain ⟨num, A, g1, g2, g3, g4, g5, g6, g7⟩ := SE_get hp.1 ho k5 k2
  unfold fX9_fewest
  rw [if_neg (show ¬ (1 : Int32) = 0 by decide), k1, Option.bind_some, stepsTo_nI g3 g6.1 hV, Option.bind_some]
  exact ⟨st', re', stk', fa', rw', fs', od', T', nI o, sd', l', rfl, k3, k4, k5⟩
theorem wayX_nI (hp : PB n bk) (hb : BH n bk bh) (hn0 : 0 < n) (ho : o < 4 ^ n) (hz : 8000 < z) (hel : e ≤ l) (hV : VO n o a) (hS : SE n bk two oth o e l lb ls hn al st re stk fa rw fs od sta sd mo wi) :
    ∃ st' re' stk' fa' rw' fs' od' T' sta' sd' l', fX9_ways z 1 (nI o) sd sta al st lb ls hn re rw fs od T (nI n) (nI (lpN two)) bh (b01 oth) stk (nI l) (nI a) fa = some (wyV (bf n (cg bk two oth) o) a, st', re', stk', fa', rw', fs', od', T', sta', sd', nI l') ∧
      e ≤ l' ∧ l' ≤ l + 1 ∧ SE n bk two oth o e l' lb ls hn al st' re' stk' fa' rw' fs' od' sta' sd' mo wi := by
  obtain ⟨st', re', stk', fa', rw', fs', od', T', sd', l', k1, k2, k3, k4, k5⟩ := look_SE (z := z) (T := T) (bh := bh) hp hb hn0 ho hz hel hS
  obtain ⟨num, A, g1, g2, g3, g4, g5, g6, g7⟩ := SE_get hp.1 ho k5 k2
  have hG := VO_HG (two := two) (oth := oth) (bk := bk) (o := o) hp.1
  have hBI := bf_BI hG hn0 (VO_self ho)
  have hlen := hG.2.2 _ hBI
  unfold fX9_ways
  rw [if_neg (show ¬ (1 : Int32) = 0 by decide), k1, Option.bind_some, waysTo_nI g3 hBI hlen g6.1 hV, Option.bind_some]
  exact ⟨st', re', stk', fa', rw', fs', od', T', nI o, sd', l', rfl, k3, k4, k5⟩
theorem byX_nI (hp : PB n bk) (hb : BH n bk bh) (hn0 : 0 < n) (ho : o < 4 ^ n) (hz : 8000 < z) (hel : e ≤ l) (hV : VO n o a) (hS : SE n bk two oth o e l lb ls hn al st re stk fa rw fs od sta sd mo wi) :
    ∃ st' re' stk' fa' rw' fs' od' T' sta' sd' l', fX9_by z 1 (nI o) sd sta al st lb ls hn re rw fs od T (nI n) (nI (lpN two)) bh (b01 oth) stk (nI l) (nI a) fa = some (fiV (bf n (cg bk two oth) o) a, st', re', stk', fa', rw', fs', od', T', sta', sd', nI l') ∧
      e ≤ l' ∧ l' ≤ l + 1 ∧ SE n bk two oth o e l' lb ls hn al st' re' stk' fa' rw' fs' od' sta' sd' mo wi := by
  obtain ⟨st', re', stk', fa', rw', fs', od', T', sd', l', k1, k2, k3, k4, k5⟩ := look_SE (z := z) (T := T) (bh := bh) hp hb hn0 ho hz hel hS
  obtain ⟨num, A, g1, g2, g3, g4, g5, g6, g7⟩ := SE_get hp.1 ho k5 k2
  have hG := VO_HG (two := two) (oth := oth) (bk := bk) (o := o) hp.1
  have hBI := bf_BI hG hn0 (VO_self ho)
  have hlen := hG.2.2 _ hBI
  unfold fX9_by
  rw [if_neg (show ¬ (1 : Int32) = 0 by decide), k1, Option.bind_some, firstTo_nI g3 hBI hlen g6.1 hV, Option.bind_some]
  exact ⟨st', re', stk', fa', rw', fs', od', T', nI o, sd', l', rfl, k3, k4, k5⟩
abbrev DS : Type := (Nat → Int32) × (Nat → Int32) × Int32 × Int32 × Int32 × (Nat → Int64) × (Nat → Int32) × (Nat → Int32) × Int32 × Int32 × Int32
/-- the search's comps of a state of digest's loop -/
def DR (n : Nat) (bk : Nat → Nat) (two oth : Bool) (o e l : Nat) (lb : Int32) (ls hn : Nat → Int32) (al : Int32) (mo wi : Nat → Int32) (q : DS) : Prop :=
  ∃ T st re stk fa rw fs od sta sd l', q = (T, st, re, stk, fa, rw, fs, od, sta, sd, nI l') ∧ e ≤ l' ∧ l' ≤ l ∧ SE n bk two oth o e l' lb ls hn al st re stk fa rw fs od sta sd mo wi
set_option maxHeartbeats 400000 in
theorem dig_68 (hp : PB n bk) (hb : BH n bk bh) (hn0 : 0 < n) (ho : o < 4 ^ n) (hz : 8000 < z) (h0 : Int64) {sI : Int32} {q : DS} (hq : DR n bk two oth o e l lb ls hn al mo wi q) :
    ∃ r, lp (fun sg => fX9_digest_L68 z sg.1 sg.2.1 (nI n) ha xa bh (nI o) sg.2.2.1 (nI (lpN two)) (b01 oth) sg.2.2.2.2.2.2.2.2.2.2.2.1 sg.2.2.2.2.2.2.2.2.2.2.1 al sg.2.2.2.1 lb ls hn sg.2.2.2.2.1 sg.2.2.2.2.2.2.2.1 sg.2.2.2.2.2.2.2.2.1 sg.2.2.2.2.2.2.2.2.2.1 sg.2.2.2.2.2.1 sg.2.2.2.2.2.2.2.2.2.2.2.2 sg.2.2.2.2.2.2.1 sI px rd md) z (h0, 0, q) = some r ∧ (r.1 = rh n (cg bk two oth) o h0 3 ∧ DR n bk two oth o e (l + 3) lb ls hn al mo wi r.2) := by
  refine lp_rel0 (fun (j : Nat) (y : Int64 × Int32 × DS) => y.1 = rh n (cg bk two oth) o h0 j ∧ y.2.1 = nI j ∧ DR n bk two oth o e (l + j) lb ls hn al mo wi y.2.2) _ 3 ⟨rfl, rfl, hq⟩ (fun j y hj hr => ?_) (fun y hr => ?_) (by omega)
  · obtain ⟨y1, y2, y3⟩ := y
    obtain ⟨r1, r2, T, st, re, stk, fa, rw, fs, od, sta, sd, l', r3, r4, r5, r6⟩ := hr
    dsimp only at r1 r2 r3
    subst r1
    subst r2
    subst r3
    obtain ⟨st2, re2, stk2, fa2, rw2, fs2, od2, T2, sta2, sd2, l2, k1, k2, k3, k4⟩ := reachX_nI (z := z) (T := T) hp hb hn0 ho hz r4 (show j ≤ 2 by omega) r6
    have erh : rh n (cg bk two oth) o h0 (j + 1) = 31 * rh n (cg bk two oth) o h0 j + (rcV n (cg bk two oth) o j).toInt64 := by rw [rh]
    generalize rh n (cg bk two oth) o h0 j = p0 at erh ⊢
    generalize rh n (cg bk two oth) o h0 (j + 1) = p1 at erh ⊢
    generalize rcV n (cg bk two oth) o j = p2 at erh k1
    show ∃ s', fX9_digest_L68 z p0 (nI j) (nI n) ha xa bh (nI o) T (nI (lpN two)) (b01 oth) sd sta al st lb ls hn re rw fs od stk (nI l') fa sI px rd md = _ ∧ _
    unfold fX9_digest_L68
    rw [if_neg (show ¬ (2 : Int32) < nI j from nI_nlt (a := 2) (b := j) (by omega) (by decide)), k1, Option.bind_some, nI_1, ← erh]
    exact ⟨_, rfl, rfl, rfl, T2, st2, re2, stk2, fa2, rw2, fs2, od2, sta2, sd2, l2, rfl, k2, by omega, k4⟩
  · obtain ⟨y1, y2, y3⟩ := y
    obtain ⟨r1, r2, T, st, re, stk, fa, rw, fs, od, sta, sd, l', r3, r4, r5, r6⟩ := hr
    dsimp only at r1 r2 r3
    subst r2
    subst r3
    show ∃ s', fX9_digest_L68 z y1 (nI 3) (nI n) ha xa bh (nI o) T (nI (lpN two)) (b01 oth) sd sta al st lb ls hn re rw fs od stk (nI l') fa sI px rd md = _ ∧ _
    unfold fX9_digest_L68
    rw [if_pos (show (2 : Int32) < nI 3 by decide)]
    exact ⟨_, rfl, r1, T, st, re, stk, fa, rw, fs, od, sta, sd, l', rfl, r4, r5, r6⟩
theorem say_71 (hp : PB n bk) (hB : BO n bk sort par) (hn0 : 0 < n) (ho : o < 4 ^ n) (hz : 8000 < z) (h0 : Int64) (hR : RM (bf n (cg bk two oth) o) pl row far wy mr) :
    lp (fun sg => fX10_sayOrders_L71 z sg.1 (nI n) (nI o) (b01 two) sort par (b01 oth) sg.2 (nI (bf n (cg bk two oth) o).1.length) row pl far wy mr ma) z (0, h0) = some (rh n (cg bk two oth) o h0 3) := by
  refine lp_0 (fun j => (nI j, rh n (cg bk two oth) o h0 j)) (N := 3) rfl (fun j hj => ?_) ?_ (by omega)
  · have k1 := reachNow_nI (z := z) hp hB hn0 ho hz (show j ≤ 2 by omega) hR
    have erh : rh n (cg bk two oth) o h0 (j + 1) = 31 * rh n (cg bk two oth) o h0 j + (rcV n (cg bk two oth) o j).toInt64 := by rw [rh]
    generalize rh n (cg bk two oth) o h0 j = p0 at erh ⊢
    generalize rh n (cg bk two oth) o h0 (j + 1) = p1 at erh ⊢
    generalize rcV n (cg bk two oth) o j = p2 at erh k1
    generalize (bf n (cg bk two oth) o).1.length = N at k1 ⊢
    show fX10_sayOrders_L71 z (nI j) (nI n) (nI o) (b01 two) sort par (b01 oth) p0 (nI N) row pl far wy mr ma = _
    unfold fX10_sayOrders_L71
    rw [if_neg (show ¬ (3 : Int32) ≤ nI j from nI_ge (a := j) (b := 3) hj (by decide)), k1, Option.bind_some, nI_1, erh]
    rfl
  · generalize rh n (cg bk two oth) o h0 3 = p0
    generalize (bf n (cg bk two oth) o).1.length = N
    show fX10_sayOrders_L71 z (nI 3) (nI n) (nI o) (b01 two) sort par (b01 oth) p0 (nI N) row pl far wy mr ma = _
    unfold fX10_sayOrders_L71
    rw [if_pos (show (3 : Int32) ≤ nI 3 by decide)]
set_option maxHeartbeats 400000 in
theorem digest_pair (hP : PG s px pm) (hp : PB n bk) (hb : BH n bk bh) (hB : BO n bk sort par) (hl : 0 < n → xl = nI (lpN two)) (ho : o < 4 ^ n) (hz : 8000 < z) (hel : e ≤ l) (hA : AM n o ha xa ma) (hS : 0 < n → SE n bk two oth o e l lb ls hn al st re stk fa rw fs od sta sd mo wi) (hR : RZ rm pl row) (hh : Int64) :
    ∃ r T' st' re' stk' fa' rw' fs' od' sta' sd' l' pl' rm' row' far' wy' mr', fX9_digest z (nI n) ha xa bh (nI o) T xl (b01 oth) sd sta al st lb ls hn re rw fs od stk (nI l) fa (nI s) px rd md = some (r, T', st', re', stk', fa', rw', fs', od', sta', sd', nI l') ∧
      fX10_digest z (nI n) ma sort par (nI o) hh (b01 two) (b01 oth) (nI rm) row pl far wy mr (nI s) pm rd md = some (r, r, pl', nI rm', row', far', wy', mr') ∧
      e ≤ l' ∧ l' ≤ l + 10 ∧ (0 < n → SE n bk two oth o e l' lb ls hn al st' re' stk' fa' rw' fs' od' sta' sd' mo wi) ∧ RZ rm' pl' row' := by
  have h9 := hp.1
  unfold fX9_digest fX10_digest
  obtain ⟨h1, a1, a2⟩ := dig_stones (z := z) (T := T) (xl := xl) (io := b01 oth) (sd := sd) (sta := sta) (al := al) (st := st) (lb := lb) (ls := ls) (hn := hn) (re := re) (rw := rw) (fs := fs) (od := od) (stk := stk) (lo := nI l) (fa := fa) (sI := nI s) (px := px) (rd := rd) (md := md) (it := b01 two) (io' := b01 oth) (rI := nI rm) (row := row) (pl := pl) (far := far) (wy := wy) (mr := mr) (pm := pm) hp hb hB hA ho (by omega) 563
  rw [a1, a2, Option.bind_some, Option.bind_some]
  unfold fX9_digest_J53 fX10_digest_J47
  rcases Nat.eq_zero_or_pos n with n0 | hn0
  · have e1 : fX9_noStones (nI n) = 1 := by
      unfold fX9_noStones
      rw [if_pos (by rw [n0]; rfl)]
    have e2 : fX10_lacks (nI n) = 1 := by
      unfold fX10_lacks
      rw [if_pos (by rw [n0]; rfl)]
    rw [e1, e2, if_neg (show ¬ (1 : Int32) = 0 by decide), if_neg (show ¬ (1 : Int32) = 0 by decide)]
    unfold fX9_digest_J92
    rcases hA with ⟨rfl, rfl⟩ | ⟨rfl, hn1, -⟩
    · obtain ⟨h2, b1, b2⟩ := dig_tail (z := z) (ha := 0) (xa := xa) (bh := bh) (T := T) (xl := xl) (io := b01 oth) (sd := sd) (sta := sta) (al := al) (st := st) (lb := lb) (ls := ls) (hn := hn) (re := re) (rw := rw) (fs := fs) (od := od) (stk := stk) (lo := nI l) (fa := fa) (rd := rd) (md := md) (ma := -1) (sort := sort) (par := par) (it := b01 two) (io' := b01 oth) (rI := nI rm) (row := row) (pl := pl) (far := far) (wy := wy) (mr := mr) hP h9 ho (by omega) h1
      rw [if_pos rfl, b1, b2]
      exact ⟨h2, T, st, re, stk, fa, rw, fs, od, sta, sd, l, pl, rm, row, far, wy, mr, rfl, rfl, hel, by omega, hS, hR⟩
    · omega
  · have e1 : fX9_noStones (nI n) = 0 := by
      unfold fX9_noStones
      rw [if_neg (nI_ne0 hn0 (by omega))]
    have e2 : fX10_lacks (nI n) = 0 := by
      unfold fX10_lacks
      rw [if_neg (nI_ne0 hn0 (by omega))]
    obtain ⟨pl', row', far', wy', mr', y1, y2, y3⟩ := lay_RZ (z := z) (two := two) (oth := oth) (far := far) (mr := mr) (wy := wy) hp hB hn0 ho hz hR
    have hG := VO_HG (two := two) (oth := oth) (bk := bk) (o := o) hp.1
    have hBI := bf_BI hG hn0 (VO_self ho)
    have hlen := hG.2.2 _ hBI
    have w1 := withMoves_nI (z := z) (T := T) (two := two) (oth := oth) hp hb ho (by omega) h1
    have w2 := sayMoves_nI (z := z) (two := two) (oth := oth) (rI := nI rm) (row := row) (pl := pl) (far := far) (wy := wy) (mr := mr) (ma := ma) hp hB hn0 ho (by omega) h1
    have w3 := say_71 (z := z) (ma := ma) hp hB hn0 ho hz (mh n (cg bk two oth) o h1 (n * n)) y2
    obtain ⟨⟨q1, q2⟩, m1, m2, T2, st2, re2, stk2, fa2, rw2, fs2, od2, sta2, sd2, l2, m3, m4, m5, m6⟩ := dig_68 (z := z) (ha := ha) (xa := xa) (px := px) (rd := rd) (md := md) (sI := nI s) hp hb hn0 ho hz (mh n (cg bk two oth) o h1 (n * n)) (q := (tf T (mk bk two oth o n), st, re, stk, fa, rw, fs, od, sta, sd, nI l)) ⟨_, st, re, stk, fa, rw, fs, od, sta, sd, l, rfl, hel, Nat.le_refl _, hS hn0⟩
    dsimp only at m2 m3
    subst m2
    subst m3
    rw [e1, e2, if_pos rfl, if_pos rfl, hl hn0, w1, Option.bind_some]
    dsimp only
    rw [m1, Option.bind_some]
    unfold fX10_sayOrders
    rw [w2, Option.bind_some]
    unfold fX10_sayOrders_J65
    rw [y1, Option.bind_some]
    dsimp only
    rw [w3, Option.bind_some]
    unfold fX9_digest_J92 fX10_sayOrders_J92
    rcases hA with ⟨rfl, rfl⟩ | ⟨rfl, -, a, rfl, rfl, hV⟩
    · generalize rh n (cg bk two oth) o (mh n (cg bk two oth) o h1 (n * n)) 3 = h2
      generalize (bf n (cg bk two oth) o).1.length = N at y3 ⊢
      rw [if_pos rfl, if_pos rfl, Option.bind_some]
      obtain ⟨h3, b1, b2⟩ := dig_tail (z := z) (ha := 0) (xa := xa) (bh := bh) (T := T2) (xl := nI (lpN two)) (io := b01 oth) (sd := sd2) (sta := sta2) (al := al) (st := st2) (lb := lb) (ls := ls) (hn := hn) (re := re2) (rw := rw2) (fs := fs2) (od := od2) (stk := stk2) (lo := nI l2) (fa := fa2) (rd := rd) (md := md) (ma := -1) (sort := sort) (par := par) (it := b01 two) (io' := b01 oth) (rI := nI N) (row := row') (pl := pl') (far := far') (wy := wy') (mr := mr') hP h9 ho (by omega) h2
      dsimp only
      rw [b1, b2]
      exact ⟨h3, T2, st2, re2, stk2, fa2, rw2, fs2, od2, sta2, sd2, l2, pl', N, row', far', wy', mr', rfl, rfl, m4, by omega, fun _ => m6, y3⟩
    · have ha9 := o9 hp.1 hV.1
      obtain ⟨mr2, y4⟩ := byNow_nI (z := z) hp hB hn0 ho hz y2 hV
      have y5 := fewestNow_nI (z := z) y2 ha9 hlen
      have y6 := waysNow_nI (z := z) y2 ha9 hlen
      obtain ⟨st3, re3, stk3, fa3, rw3, fs3, od3, T3, sta3, sd3, l3, x1, x2, x3, x4⟩ := fewX_nI (z := z) (T := T2) hp hb hn0 ho hz m4 hV m6
      obtain ⟨st4, re4, stk4, fa4, rw4, fs4, od4, T4, sta4, sd4, l4, u1, u2, u3, u4⟩ := wayX_nI (z := z) (T := T3) hp hb hn0 ho hz x2 hV x4
      obtain ⟨st5, re5, stk5, fa5, rw5, fs5, od5, T5, sta5, sd5, l5, v1, v2, v3, v4⟩ := byX_nI (z := z) (T := T4) hp hb hn0 ho hz u2 hV u4
      generalize fwV (bf n (cg bk two oth) o) a = V1 at y5 x1
      generalize wyV (bf n (cg bk two oth) o) a = V2 at y6 u1
      generalize fiV (bf n (cg bk two oth) o) a = V3 at y4 v1
      generalize rh n (cg bk two oth) o (mh n (cg bk two oth) o h1 (n * n)) 3 = h2
      generalize (bf n (cg bk two oth) o).1.length = N at y3 y4 ⊢
      have ham : ¬ nI a = -1 := nI_ne_m1 (by omega)
      rw [if_neg (show ¬ (1 : Int32) = 0 by decide), if_neg ham, x1, Option.bind_some, y5, Option.bind_some, y6, Option.bind_some, y4, Option.bind_some, Option.bind_some]
      dsimp only
      rw [u1, Option.bind_some]
      dsimp only
      rw [v1, Option.bind_some]
      dsimp only
      have es : fX10_say V3.toInt64 (fX10_say V2 (fX10_say V1.toInt64 h2)) = 31 * (31 * (31 * h2 + V1.toInt64) + V2) + V3.toInt64 := rfl
      rw [es]
      generalize 31 * (31 * (31 * h2 + V1.toInt64) + V2) + V3.toInt64 = h3
      obtain ⟨h4, b1, b2⟩ := dig_tail (z := z) (ha := 1) (xa := nI a) (bh := bh) (T := T5) (xl := nI (lpN two)) (io := b01 oth) (sd := sd5) (sta := sta5) (al := al) (st := st5) (lb := lb) (ls := ls) (hn := hn) (re := re5) (rw := rw5) (fs := fs5) (od := od5) (stk := stk5) (lo := nI l5) (fa := fa5) (rd := rd) (md := md) (ma := nI a) (sort := sort) (par := par) (it := b01 two) (io' := b01 oth) (rI := nI N) (row := row') (pl := pl') (far := far') (wy := wy') (mr := mr2) hP h9 ho (by omega) h3
      rw [b1, b2]
      exact ⟨h4, T5, st5, re5, stk5, fa5, rw5, fs5, od5, sta5, sd5, l5, pl', N, row', far', wy', mr2, rfl, rfl, v2, by omega, fun _ => v4, y3⟩
end DH
