/-! ===== longest, game ===== -/
section EP
variable {n : Nat} {bk : Nat → Nat} {bh par dp : Nat → Int32} {oth two ring : Bool} {o e l z rm : Nat} {ls hn T st fs od le so mo wi pl row far mr : Nat → Int32} {rw wy : Nat → Int64} {lb al re stk fa sta sd sort xl xr : Int32}
theorem isEnding_pair (hn : n ≤ 9) (ho : o < 4 ^ n) (hz : 20 < z) (hr : xr = b01 ring) (hs : 0 < n → (sort = 114 ↔ ring = true)) :
    (fX9_isEnding z (nI n) xr (nI o) = some 0 ∧ fX10_isEnding z (nI n) sort (nI o) = some 0) ∨ (0 < n ∧ ring = false ∧ ct 3 o n = 0 ∧ fX9_isEnding z (nI n) xr (nI o) = some 1 ∧ fX10_isEnding z (nI n) sort (nI o) = some 1) := by
  have h31 := o31 hn ho
  have c9 : ct 3 o 9 = ct 3 o n := ct_9 ho hn (by decide)
  have cl := ct_le 3 o n
  have ex : fX9_colouredOf z (nI o) 3 = some (nI (ct 3 o 9)) := colouredOf_nI (k := 3) h31 (by decide) (by omega)
  have em : fX10_howMany z (nI o) 3 (nI n) = some (nI (ct 3 o n)) := howMany_nI (k := 3) h31 (by decide) hn (by omega)
  unfold fX9_isEnding fX10_isEnding
  rw [ex, em, c9]
  rcases Nat.eq_zero_or_pos n with e | e
  · subst e
    exact Or.inl ⟨rfl, rfl⟩
  · have e1 : fX9_noStones (nI n) = 0 := by
      unfold fX9_noStones
      rw [if_neg (nI_ne0 e (by omega))]
    have e2 : fX10_lacks (nI n) = 0 := by
      unfold fX10_lacks
      rw [if_neg (nI_ne0 e (by omega))]
    rw [e1, e2, if_pos rfl, if_pos rfl, hr]
    cases hring : ring with
    | true =>
      rw [if_neg (show ¬ b01 true = 0 by decide), if_pos ((hs e).mpr hring)]
      exact Or.inl ⟨rfl, rfl⟩
    | false =>
      rw [if_pos (show b01 false = 0 from rfl), if_neg (fun g => by rw [(hs e).mp g] at hring; cases hring), Option.bind_some]
      by_cases c : ct 3 o n = 0
      · rw [c, if_pos (show nI 0 = 0 from rfl)]
        exact Or.inr ⟨e, rfl, rfl, rfl, rfl⟩
      · rw [if_neg (nI_ne0 (by omega) (by omega))]
        exact Or.inl ⟨rfl, rfl⟩
set_option maxHeartbeats 400000 in
theorem longest_pair (hp : PB n bk) (hb : BH n bk bh) (hB : BO n bk sort par) (hl : 0 < n → xl = nI (lpN two)) (ho : o < 4 ^ n) (hz : 8000 < z) (hel : e ≤ l) (hl30 : l < 2 ^ 30) (hr : xr = b01 ring) (hs : 0 < n → (sort = 114 ↔ ring = true))
    (hE : ring = false → 0 < n → bk 0 = 99 ∧ ∀ i, 0 < i → i < n → bk i < i) (hd : ring = false → ∀ i, i < n → dp i = nI (dpt (bkl n bk) i)) (hS : 0 < n → SE n bk two oth o e l lb ls hn al st re stk fa rw fs od sta sd mo wi) (hR : RZ rm pl row) :
    ∃ r st' re' stk' fa' rw' fs' od' T' sta' sd' l' le' so' mo' wi' e' pl' rm' row' far' wy' mr', fX9_longest z (nI n) xr (nI o) sd sta al st lb ls hn re rw fs od T xl bh (b01 oth) stk (nI l) (nI e) le dp so mo wi fa = some (r, st', re', stk', fa', rw', fs', od', T', sta', sd', nI l', le', so', mo', wi', nI e') ∧
      fX10_longest z (nI n) sort (nI o) (nI rm) row pl far wy mr (b01 two) par (b01 oth) = some (r, pl', nI rm', row', far', wy', mr') ∧
      e' ≤ l' ∧ l' ≤ l + 1 ∧ (0 < n → SE n bk two oth o e' l' lb ls hn al st' re' stk' fa' rw' fs' od' sta' sd' mo' wi') ∧ RZ rm' pl' row' := by
  unfold fX9_longest fX10_longest
  rcases isEnding_pair (z := z) (xr := xr) (sort := sort) hp.1 ho (by omega) hr hs with ⟨a1, a2⟩ | ⟨hn0, hring, h3, a1, a2⟩
  · rw [a1, a2, Option.bind_some, Option.bind_some, if_pos rfl, if_pos rfl]
    exact ⟨_, st, re, stk, fa, rw, fs, od, T, sta, sd, l, le, so, mo, wi, e, pl, rm, row, far, wy, mr, rfl, rfl, hel, by omega, hS, hR⟩
  · have hED : ED n bk := ⟨hn0, hp.1, hp.2.1, (hE hring hn0).1, (hE hring hn0).2⟩
    obtain ⟨st', re', stk', fa', rw', fs', od', T', sd', l', le', so', mo', wi', k1, k2, k3, k4⟩ := settleFrom_nI (z := z) (T := T) (bh := bh) (le := le) (so := so) hED (hd hring) hp hb hn0 ho h3 hz hel hl30 (hS hn0)
    obtain ⟨num, A, g1, g2, g3, g4, g5, g6, g7⟩ := SE_get hp.1 ho k4 k2
    obtain ⟨pl', row', far', wy', mr', y1, y2, y3⟩ := lay_RZ (z := z) (two := two) (oth := oth) (far := far) (mr := mr) (wy := wy) hp hB hn0 ho hz hR
    have hG := VO_HG (two := two) (oth := oth) (bk := bk) (o := o) hp.1
    have hBI := bf_BI hG hn0 (VO_self ho)
    have hL := bf_BL hG hn0 (VO_self ho)
    have hlen := hG.2.2 _ hBI
    have hev := (g7 rfl _ (bf_mem (o := o) (n := n) (c := cg bk two oth))).1
    obtain ⟨mr2, y4, y5⟩ := longest_17 (z := z) (oI := nI o) hED hp hB hG hBI hL y2 h3 hz
    have hpos : 0 < (bf n (cg bk two oth) o).1.length := List.length_pos_of_mem (bf_mem (o := o) (n := n) (c := cg bk two oth))
    have y6 := y5 0 hpos
    rw [hL.1] at y6
    rw [a1, a2, Option.bind_some, Option.bind_some, if_neg (show ¬ (1 : Int32) = 0 by decide), if_neg (show ¬ (1 : Int32) = 0 by decide), hl hn0, k1, Option.bind_some, y1, Option.bind_some]
    dsimp only
    rw [mosts_nI g3 (VO_self ho) (Nat.lt_of_lt_of_le (g4 _ (VO_self ho)) (g5 h3)), Option.bind_some, hev, y4, Option.bind_some]
    unfold fX10_longest_J170
    rw [agd_0 (by decide), show (0 : Int32).toNatClampNeg = 0 from rfl, y6]
    generalize nI (lng n (cg bk two oth) o) = v
    generalize (bf n (cg bk two oth) o).1.length = N at y3 ⊢
    exact ⟨v, st', re', stk', fa', rw', fs', od', T', nI o, sd', l', le', so', mo', wi', l', pl', N, row', far', wy', mr2, rfl, rfl, Nat.le_refl _, k3, fun _ => k4, y3⟩
theorem game_val (hn : n ≤ 9) (h : ED n bk) (h3 : ct 3 o n = 0) (w : Nat) : b01 (wn n (cg bk two oth) o w) = if wmV n (cg bk two oth) o w = -1 then 0 else 1 := by
  rw [wn_eq h h3 w]
  by_cases c : wnJ n (cg bk two oth) (wn n (cg bk two oth)) o w < n * n
  · rw [decide_eq_true c, if_neg (fun g => (wmV_m1 hn).mp g c)]
    rfl
  · rw [decide_eq_false c, if_pos ((wmV_m1 hn).mpr c)]
    rfl
set_option maxHeartbeats 400000 in
theorem game_pair (hp : PB n bk) (hb : BH n bk bh) (hB : BO n bk sort par) (hl : 0 < n → xl = nI (lpN two)) (ho : o < 4 ^ n) (hz : 8000 < z) (hel : e ≤ l) (hl30 : l < 2 ^ 30) (hr : xr = b01 ring) (hs : 0 < n → (sort = 114 ↔ ring = true))
    (hE : ring = false → 0 < n → bk 0 = 99 ∧ ∀ i, 0 < i → i < n → bk i < i) (hd : ring = false → ∀ i, i < n → dp i = nI (dpt (bkl n bk) i)) (x1 x2 : Int32) (hS : 0 < n → SE n bk two oth o e l lb ls hn al st re stk fa rw fs od sta sd mo wi) (hR : RZ rm pl row) :
    ∃ r st' re' stk' fa' rw' fs' od' T' sta' sd' l' le' so' mo' wi' e' pl' rm' row' far' wy' mr', fX9_game z x1 x2 (nI n) xr (nI o) sd sta al st lb ls hn re rw fs od T xl bh (b01 oth) stk (nI l) (nI e) le dp so mo wi fa = some (r, st', re', stk', fa', rw', fs', od', T', sta', sd', nI l', le', so', mo', wi', nI e') ∧
      fX10_game z x1 x2 (nI n) sort (nI o) (nI rm) row pl far wy mr (b01 two) par (b01 oth) = some (r, pl', nI rm', row', far', wy', mr') ∧
      e' ≤ l' ∧ l' ≤ l + 1 ∧ (0 < n → SE n bk two oth o e' l' lb ls hn al st' re' stk' fa' rw' fs' od' sta' sd' mo' wi') ∧ RZ rm' pl' row' := by
  have i1 := in_cases x1 (K := 1) (by decide)
  have i2 := in_cases x2 (K := 1) (by decide)
  rw [show (nI 1).toInt64 = (1 : Int64) from rfl] at i1 i2
  unfold fX9_game fX10_game
  rcases isEnding_pair (z := z) (xr := xr) (sort := sort) hp.1 ho (by omega) hr hs with ⟨a1, a2⟩ | ⟨hn0, hring, h3, a1, a2⟩
  · rw [a1, a2, Option.bind_some, Option.bind_some, if_pos rfl, if_pos rfl]
    exact ⟨_, st, re, stk, fa, rw, fs, od, T, sta, sd, l, le, so, mo, wi, e, pl, rm, row, far, wy, mr, rfl, rfl, hel, by omega, hS, hR⟩
  · rw [a1, a2, Option.bind_some, Option.bind_some, if_neg (show ¬ (1 : Int32) = 0 by decide), if_neg (show ¬ (1 : Int32) = 0 by decide)]
    rcases i1 with ⟨w, w1, rfl, w2⟩ | ⟨w1, w2⟩
    · rw [w2, if_neg (show ¬ (1 : Int32) = 0 by decide), if_neg (nI_pos (by omega)), if_neg (show ¬ (1 : Int32) < nI w from nI_nlt (a := 1) (b := w) w1 (by decide))]
      rcases i2 with ⟨v, v1, rfl, v2⟩ | ⟨v1, v2⟩
      · rw [v2, if_neg (show ¬ (1 : Int32) = 0 by decide), if_neg (nI_pos (by omega)), if_pos (show nI v ≤ (1 : Int32) from nI_le (a := v) (b := 1) v1 (by decide))]
        have hED : ED n bk := ⟨hn0, hp.1, hp.2.1, (hE hring hn0).1, (hE hring hn0).2⟩
        obtain ⟨st', re', stk', fa', rw', fs', od', T', sd', l', le', so', mo', wi', k1, k2, k3, k4⟩ := settleFrom_nI (z := z) (T := T) (bh := bh) (le := le) (so := so) hED (hd hring) hp hb hn0 ho h3 hz hel hl30 (hS hn0)
        obtain ⟨num, A, g1, g2, g3, g4, g5, g6, g7⟩ := SE_get hp.1 ho k4 k2
        obtain ⟨pl', row', far', wy', mr', y1, y2, y3⟩ := lay_RZ (z := z) (two := two) (oth := oth) (far := far) (mr := mr) (wy := wy) hp hB hn0 ho hz hR
        have hG := VO_HG (two := two) (oth := oth) (bk := bk) (o := o) hp.1
        have hBI := bf_BI hG hn0 (VO_self ho)
        have hL := bf_BL hG hn0 (VO_self ho)
        have hlen := hG.2.2 _ hBI
        have hoin : o ∈ (bf n (cg bk two oth) o).1 := bf_mem
        have h16 : ∀ q, VO n o q → num q < 1680 := fun q hq => Nat.lt_of_lt_of_le (g4 q hq) (g5 h3)
        have hev := (g7 rfl _ hoin).2
        have hsu : ∀ j, j < n * n → cg bk two oth o (j / n) (j % n) = true → wi' (num (mvd o (j / n) (j % n))) = nI (wv n (cg bk two oth) (mvd o (j / n) (j % n))) := fun j hj hc => (g7 rfl _ (hL.2.2.2.2.1 _ hoin j hj hc).1).2
        obtain ⟨mr2, y4, y5⟩ := game_40 (z := z) (oI := nI o) (x1 := nI w) (x2 := nI v) hED hp hB hG hBI hL y2 h3 hz
        have y6 := winsBy_nI (z := z) (w := w) hED hp hB hG hBI hL y2 h3 hz (by omega) hoin (mr := mr2) (fun q hq _ => y5 q hq trivial)
        have y7 := winMove_nI (z := z) (T := T') (wi := wi') hp hb hG g3 h16 hn0 (show w < 2 by omega) (VO_self ho) hsu (by omega)
        have y8 : fX2_wins z (nI o) (nI (w + 1)) lb ls hn al wi' = some (b01 (wn n (cg bk two oth) o w)) := by
          rcases (show w = 0 ∨ w = 1 by omega) with rfl | rfl
          · exact wins_nI (w := 0) g3 (VO_self ho) (h16 _ (VO_self ho)) (by omega) hev
          · exact wins_nI (w := 1) g3 (VO_self ho) (h16 _ (VO_self ho)) (by omega) hev
        have y9 := game_val (two := two) (oth := oth) hp.1 hED h3 w
        rw [hl hn0, k1, Option.bind_some, y1, Option.bind_some]
        dsimp only
        rw [y4, Option.bind_some]
        unfold fX10_game_J135
        rw [y6, Option.bind_some]
        have cl : ∀ {α : Type} (F : Int32 → α), (if nI w = 0 then F 1 else F 2) = F (nI (w + 1)) := by
          intro α F
          rcases (show w = 0 ∨ w = 1 by omega) with rfl | rfl <;> rfl
        rw [cl (fun t0 => fX9_game_J54 z (nI v) t0 (nI n) xr (nI o) sd' (nI o) al st' lb ls hn re' rw' fs' od' T' (nI (lpN two)) bh (b01 oth) stk' (nI l') (nI l') le' dp so' mo' wi' fa')]
        unfold fX9_game_J54
        rcases (show v = 0 ∨ v = 1 by omega) with rfl | rfl
        · rw [if_pos (show nI 0 = 0 from rfl), if_neg (show ¬ nI 0 = 1 by decide), y8, Option.bind_some, y9]
          generalize (bf n (cg bk two oth) o).1.length = N at y3 ⊢
          by_cases c : wmV n (cg bk two oth) o w = -1
          · rw [if_pos c, if_pos rfl, if_pos c]
            exact ⟨0, st', re', stk', fa', rw', fs', od', T', nI o, sd', l', le', so', mo', wi', l', pl', N, row', far', wy', mr2, rfl, rfl, Nat.le_refl _, k3, fun _ => k4, y3⟩
          · rw [if_neg c, if_neg (show ¬ (1 : Int32) = 0 by decide), if_neg c]
            exact ⟨1, st', re', stk', fa', rw', fs', od', T', nI o, sd', l', le', so', mo', wi', l', pl', N, row', far', wy', mr2, rfl, rfl, Nat.le_refl _, k3, fun _ => k4, y3⟩
        · rw [if_neg (show ¬ nI 1 = 0 by decide), if_pos (show nI 1 = 1 from rfl), y7, Option.bind_some]
          generalize (bf n (cg bk two oth) o).1.length = N at y3 ⊢
          generalize wmV n (cg bk two oth) o w = V
          exact ⟨V, st', re', stk', fa', rw', fs', od', _, nI o, sd', l', le', so', mo', wi', l', pl', N, row', far', wy', mr2, rfl, rfl, Nat.le_refl _, k3, fun _ => k4, y3⟩
      · rw [v2, if_pos rfl]
        rcases v1 with v1 | v1
        · rw [if_pos v1]
          exact ⟨_, st, re, stk, fa, rw, fs, od, T, sta, sd, l, le, so, mo, wi, e, pl, rm, row, far, wy, mr, rfl, rfl, hel, by omega, hS, hR⟩
        · have nlt : ¬ x2 < 0 := fun g => absurd (fa_trans v1 (fa_of_lt g).1) (by decide)
          rw [if_neg nlt, if_neg (show ¬ x2 ≤ 1 from fun g => (fa_of_lt v1).2.1 g)]
          exact ⟨_, st, re, stk, fa, rw, fs, od, T, sta, sd, l, le, so, mo, wi, e, pl, rm, row, far, wy, mr, rfl, rfl, hel, by omega, hS, hR⟩
    · rw [w2, if_pos rfl]
      rcases w1 with w1 | w1
      · rw [if_pos w1]
        exact ⟨_, st, re, stk, fa, rw, fs, od, T, sta, sd, l, le, so, mo, wi, e, pl, rm, row, far, wy, mr, rfl, rfl, hel, by omega, hS, hR⟩
      · have nlt : ¬ x1 < 0 := fun g => absurd (fa_trans w1 (fa_of_lt g).1) (by decide)
        rw [if_neg nlt, if_pos (show (1 : Int32) < x1 from w1)]
        exact ⟨_, st, re, stk, fa, rw, fs, od, T, sta, sd, l, le, so, mo, wi, e, pl, rm, row, far, wy, mr, rfl, rfl, hel, by omega, hS, hR⟩
end EP
