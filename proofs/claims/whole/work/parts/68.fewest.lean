/-! ===== fewest, ways, reach ===== -/
theorem noAim_m1 (x : Int32) : fX10_noAim x (-1) = 1 := by
  unfold fX10_noAim
  rw [if_pos rfl, ite_self]
theorem noAim_a {n a : Nat} (h0 : 0 < n) (hn : n < 2 ^ 31) (ha : a < 2 ^ 31) : fX10_noAim (nI n) (nI a) = 0 := by
  unfold fX10_noAim fX10_lacks
  rw [if_neg (nI_ne0 h0 hn), if_pos rfl, if_neg (nI_ne_m1 ha)]
section FW
variable {n : Nat} {bk : Nat → Nat} {bh par : Nat → Int32} {oth two : Bool} {o e l z rm : Nat} {ls hn T st fs od mo wi pl row far mr : Nat → Int32} {rw wy : Nat → Int64} {lb al re stk fa sta sd sort xl ha xa ma : Int32}
theorem fewest_pair (hp : PB n bk) (hb : BH n bk bh) (hB : BO n bk sort par) (hl : 0 < n → xl = nI (lpN two)) (ho : o < 4 ^ n) (hz : 8000 < z) (hel : e ≤ l) (hA : AM n o ha xa ma) (hS : 0 < n → SE n bk two oth o e l lb ls hn al st re stk fa rw fs od sta sd mo wi) (hR : RZ rm pl row) :
    ∃ r st' re' stk' fa' rw' fs' od' T' sta' sd' l' pl' rm' row' far' wy' mr', fX9_fewest z ha (nI o) sd sta al st lb ls hn re rw fs od T (nI n) xl bh (b01 oth) stk (nI l) xa fa = some (r, st', re', stk', fa', rw', fs', od', T', sta', sd', nI l') ∧ fX10_fewest z (nI n) ma (nI rm) row pl (nI o) far wy mr (b01 two) sort par (b01 oth) = some (r, pl', nI rm', row', far', wy', mr') ∧
      e ≤ l' ∧ l' ≤ l + 1 ∧ (0 < n → SE n bk two oth o e l' lb ls hn al st' re' stk' fa' rw' fs' od' sta' sd' mo wi) ∧ RZ rm' pl' row' := by
  unfold fX9_fewest fX10_fewest
  rcases hA with ⟨rfl, rfl⟩ | ⟨rfl, hn0, a, rfl, rfl, hV⟩
  · rw [if_pos rfl, noAim_m1, if_neg (show ¬ (1 : Int32) = 0 by decide)]
    exact ⟨_, st, re, stk, fa, rw, fs, od, T, sta, sd, l, pl, rm, row, far, wy, mr, rfl, rfl, hel, by omega, hS, hR⟩
  · have ha9 := o9 hp.1 hV.1
    obtain ⟨st', re', stk', fa', rw', fs', od', T', sd', l', k1, k2, k3, k4, k5⟩ := look_SE (z := z) (T := T) (bh := bh) hp hb hn0 ho hz hel (hS hn0)
    obtain ⟨num, A, g1, g2, g3, g4, g5, g6, g7⟩ := SE_get hp.1 ho k5 k2
    obtain ⟨pl', row', far', wy', mr', y1, y2, y3⟩ := lay_RZ (z := z) (two := two) (oth := oth) (far := far) (mr := mr) (wy := wy) hp hB hn0 ho hz hR
    have hG := VO_HG (two := two) (oth := oth) (bk := bk) (o := o) hp.1
    have hBI := bf_BI hG hn0 (VO_self ho)
    have hlen := hG.2.2 _ hBI
    rw [if_neg (show ¬ (1 : Int32) = 0 by decide), hl hn0, k1, Option.bind_some, stepsTo_nI g3 g6.1 hV, Option.bind_some, noAim_a hn0 (by have := hp.1; omega) (o31 hp.1 hV.1), if_pos rfl, y1, Option.bind_some, fewestNow_nI y2 ha9 hlen, Option.bind_some]
    exact ⟨_, st', re', stk', fa', rw', fs', od', T', nI o, sd', l', pl', _, row', far', wy', mr', rfl, rfl, k3, k4, fun _ => k5, y3⟩
theorem ways_pair (hp : PB n bk) (hb : BH n bk bh) (hB : BO n bk sort par) (hl : 0 < n → xl = nI (lpN two)) (ho : o < 4 ^ n) (hz : 8000 < z) (hel : e ≤ l) (hA : AM n o ha xa ma) (hS : 0 < n → SE n bk two oth o e l lb ls hn al st re stk fa rw fs od sta sd mo wi) (hR : RZ rm pl row) :
    ∃ r st' re' stk' fa' rw' fs' od' T' sta' sd' l' pl' rm' row' far' wy' mr', fX9_ways z ha (nI o) sd sta al st lb ls hn re rw fs od T (nI n) xl bh (b01 oth) stk (nI l) xa fa = some (r, st', re', stk', fa', rw', fs', od', T', sta', sd', nI l') ∧ fX10_ways z (nI n) ma (nI rm) row pl (nI o) far wy mr (b01 two) sort par (b01 oth) = some (r, pl', nI rm', row', far', wy', mr') ∧
      e ≤ l' ∧ l' ≤ l + 1 ∧ (0 < n → SE n bk two oth o e l' lb ls hn al st' re' stk' fa' rw' fs' od' sta' sd' mo wi) ∧ RZ rm' pl' row' := by
  unfold fX9_ways fX10_ways
  rcases hA with ⟨rfl, rfl⟩ | ⟨rfl, hn0, a, rfl, rfl, hV⟩
  · rw [if_pos rfl, noAim_m1, if_neg (show ¬ (1 : Int32) = 0 by decide)]
    exact ⟨_, st, re, stk, fa, rw, fs, od, T, sta, sd, l, pl, rm, row, far, wy, mr, rfl, rfl, hel, by omega, hS, hR⟩
  · have ha9 := o9 hp.1 hV.1
    obtain ⟨st', re', stk', fa', rw', fs', od', T', sd', l', k1, k2, k3, k4, k5⟩ := look_SE (z := z) (T := T) (bh := bh) hp hb hn0 ho hz hel (hS hn0)
    obtain ⟨num, A, g1, g2, g3, g4, g5, g6, g7⟩ := SE_get hp.1 ho k5 k2
    obtain ⟨pl', row', far', wy', mr', y1, y2, y3⟩ := lay_RZ (z := z) (two := two) (oth := oth) (far := far) (mr := mr) (wy := wy) hp hB hn0 ho hz hR
    have hG := VO_HG (two := two) (oth := oth) (bk := bk) (o := o) hp.1
    have hBI := bf_BI hG hn0 (VO_self ho)
    have hlen := hG.2.2 _ hBI
    rw [if_neg (show ¬ (1 : Int32) = 0 by decide), hl hn0, k1, Option.bind_some, waysTo_nI g3 hBI hlen g6.1 hV, Option.bind_some, noAim_a hn0 (by have := hp.1; omega) (o31 hp.1 hV.1), if_pos rfl, y1, Option.bind_some, waysNow_nI y2 ha9 hlen, Option.bind_some]
    exact ⟨_, st', re', stk', fa', rw', fs', od', T', nI o, sd', l', pl', _, row', far', wy', mr', rfl, rfl, k3, k4, fun _ => k5, y3⟩
theorem reach_pair (hp : PB n bk) (hb : BH n bk bh) (hB : BO n bk sort par) (hl : 0 < n → xl = nI (lpN two)) (ho : o < 4 ^ n) (hz : 8000 < z) (hel : e ≤ l) (x1 : Int32) (hS : 0 < n → SE n bk two oth o e l lb ls hn al st re stk fa rw fs od sta sd mo wi) (hR : RZ rm pl row) :
    ∃ r st' re' stk' fa' rw' fs' od' T' sta' sd' l' pl' rm' row' far' wy' mr', fX9_reach z x1 (nI n) (nI o) sd sta al st lb ls hn re rw fs od T xl bh (b01 oth) stk (nI l) fa = some (r, st', re', stk', fa', rw', fs', od', T', sta', sd', nI l') ∧ fX10_reach z x1 (nI n) (nI rm) row pl (nI o) far wy mr (b01 two) sort par (b01 oth) = some (r, pl', nI rm', row', far', wy', mr') ∧
      e ≤ l' ∧ l' ≤ l + 1 ∧ (0 < n → SE n bk two oth o e l' lb ls hn al st' re' stk' fa' rw' fs' od' sta' sd' mo wi) ∧ RZ rm' pl' row' := by
  have hn9 := hp.1
  unfold fX9_reach fX10_reach fX9_noStones fX10_lacks
  by_cases c : n = 0
  · rw [if_pos (show nI n = 0 by rw [c]; rfl), if_neg (show ¬ (1 : Int32) = 0 by decide), if_neg (show ¬ (1 : Int32) = 0 by decide)]
    exact ⟨_, st, re, stk, fa, rw, fs, od, T, sta, sd, l, pl, rm, row, far, wy, mr, rfl, rfl, hel, by omega, hS, hR⟩
  · have hn0 : 0 < n := by omega
    rw [if_neg (nI_ne0 (by omega) (by omega)), if_pos rfl, if_pos rfl, show (2 : Int64) = (nI 2).toInt64 from rfl]
    rcases in_cases x1 (K := 2) (by decide) with ⟨j, hj, rfl, h3⟩ | ⟨h3, h4⟩
    · obtain ⟨st', re', stk', fa', rw', fs', od', T', sd', l', k1, k2, k3, k4, k5⟩ := look_SE (z := z) (T := T) (bh := bh) hp hb hn0 ho hz hel (hS hn0)
      obtain ⟨num, A, g1, g2, g3, g4, g5, g6, g7⟩ := SE_get hp.1 ho k5 k2
      obtain ⟨pl', row', far', wy', mr', y1, y2, y3⟩ := lay_RZ (z := z) (two := two) (oth := oth) (far := far) (mr := mr) (wy := wy) hp hB hn0 ho hz hR
      have hG := VO_HG (two := two) (oth := oth) (bk := bk) (o := o) hp.1
      have hBI := bf_BI hG hn0 (VO_self ho)
      have hlen := hG.2.2 _ hBI
      rw [h3, if_neg (show ¬ (1 : Int32) = 0 by decide), if_neg (nI_pos (by omega)), if_pos (show nI j ≤ 2 from nI_le (b := 2) hj (by decide)), hl hn0, k1, Option.bind_some, y1, Option.bind_some, reachNow_nI hp hB hn0 ho hz hj y2, Option.bind_some]
      dsimp only
      obtain ⟨-, v1, v2, v3⟩ := g6
      have hX : (if nI j = 0 then some (re', st', re', stk', fa', rw', fs', od', T', nI o, sd', nI l') else if nI j = 1 then some (stk', st', re', stk', fa', rw', fs', od', T', nI o, sd', nI l') else some (fa', st', re', stk', fa', rw', fs', od', T', nI o, sd', nI l')) = some (rcV n (cg bk two oth) o j, st', re', stk', fa', rw', fs', od', T', nI o, sd', nI l') := by
        unfold rcV
        by_cases c0 : j = 0
        · rw [if_pos (show nI j = 0 by rw [c0]; rfl), if_pos c0, v1]
        · rw [if_neg (nI_ne0 (by omega) (by omega)), if_neg c0]
          by_cases c1 : j = 1
          · rw [if_pos (show nI j = 1 by rw [c1]; rfl), if_pos c1, v3]
          · rw [if_neg (show ¬ nI j = 1 from nlit (k := 1) (by omega) (by decide) c1), if_neg c1, v2]
      rw [hX]
      exact ⟨_, st', re', stk', fa', rw', fs', od', T', nI o, sd', l', pl', _, row', far', wy', mr', rfl, rfl, k3, k4, fun _ => k5, y3⟩
    · rw [h4, if_pos rfl]
      rcases h3 with h3 | h3
      · rw [if_pos h3]
        exact ⟨_, st, re, stk, fa, rw, fs, od, T, sta, sd, l, pl, rm, row, far, wy, mr, rfl, rfl, hel, by omega, hS, hR⟩
      · have : ¬ x1 < 0 := fun e => absurd (Int32.lt_trans h3 e) (by decide)
        rw [if_neg this, if_neg (fun e => absurd (Int32.lt_of_lt_of_le h3 e) (by decide))]
        exact ⟨_, st, re, stk, fa, rw, fs, od, T, sta, sd, l, pl, rm, row, far, wy, mr, rfl, rfl, hel, by omega, hS, hR⟩
end FW
