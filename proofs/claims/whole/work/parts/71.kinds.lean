section KP
variable {n : Nat} {bk : Nat → Nat} {bh par : Nat → Int32} {oth two ring : Bool} {o e l z rm : Nat} {ls hn T st fs od mo wi pl row far mr : Nat → Int32} {rw wy : Nat → Int64} {lb al re stk fa sta sd sort xl xr : Int32}
theorem kinds_pair (hp : PB n bk) (hb : BH n bk bh) (hB : BO n bk sort par) (hl : 0 < n → xl = nI (lpN two)) (ho : o < 4 ^ n) (hz : 8000 < z) (hel : e ≤ l) (hr : xr = b01 ring) (hs : 0 < n → (sort = 114 ↔ ring = true)) (hS : 0 < n → SE n bk two oth o e l lb ls hn al st re stk fa rw fs od sta sd mo wi) (hR : RZ rm pl row) :
    ∃ r st' re' stk' fa' rw' fs' od' T' sta' sd' l' pl' rm' row' far' wy' mr', fX9_kinds z (nI n) xr (nI o) sd sta al st lb ls hn re rw fs od T xl bh (b01 oth) stk (nI l) fa = some (r, st', re', stk', fa', rw', fs', od', T', sta', sd', nI l') ∧ fX10_kinds z (nI n) sort (nI rm) row pl (nI o) far wy mr (b01 two) par (b01 oth) = some (r, pl', nI rm', row', far', wy', mr') ∧
      e ≤ l' ∧ l' ≤ l + 1 ∧ (0 < n → SE n bk two oth o e l' lb ls hn al st' re' stk' fa' rw' fs' od' sta' sd' mo wi) ∧ RZ rm' pl' row' := by
  have hn9 := hp.1
  unfold fX9_kinds fX10_kinds fX9_noStones fX10_lacks
  by_cases c : n = 0
  · rw [if_pos (show nI n = 0 by rw [c]; rfl), if_neg (show ¬ (1 : Int32) = 0 by decide), if_neg (show ¬ (1 : Int32) = 0 by decide)]
    exact ⟨_, st, re, stk, fa, rw, fs, od, T, sta, sd, l, pl, rm, row, far, wy, mr, rfl, rfl, hel, by omega, hS, hR⟩
  · have hn0 : 0 < n := by omega
    rw [if_neg (nI_ne0 (by omega) (by omega)), if_pos rfl, if_pos rfl]
    subst hr
    cases ring with
    | false =>
      rw [if_pos (show b01 false = 0 from rfl), if_neg (fun e => absurd ((hs hn0).mp e) (by decide))]
      exact ⟨_, st, re, stk, fa, rw, fs, od, T, sta, sd, l, pl, rm, row, far, wy, mr, rfl, rfl, hel, by omega, hS, hR⟩
    | true =>
      rw [if_neg (show ¬ b01 true = 0 by decide), if_pos ((hs hn0).mpr rfl)]
      obtain ⟨st', re', stk', fa', rw', fs', od', T', sd', l', k1, k2, k3, k4, k5⟩ := look_SE (z := z) (T := T) (bh := bh) hp hb hn0 ho hz hel (hS hn0)
      obtain ⟨num, A, g1, g2, g3, g4, g5, g6, g7⟩ := SE_get hp.1 ho k5 k2
      obtain ⟨pl', row', far', wy', mr', y1, y2, y3⟩ := lay_RZ (z := z) (two := two) (oth := oth) (far := far) (mr := mr) (wy := wy) hp hB hn0 ho hz hR
      have hG := VO_HG (two := two) (oth := oth) (bk := bk) (o := o) hp.1
      have hBI := bf_BI hG hn0 (VO_self ho)
      have hlen := hG.2.2 _ hBI
      rw [hl hn0, k1, Option.bind_some, y1, Option.bind_some]
      obtain ⟨v0, v1, v2, v3⟩ := g6
      subst v1
      dsimp only
      rw [unlike_nI hn9 hn0 g3 hBI hlen v0 hz, Option.bind_some, kinds_27 hn9 hn0 hBI hlen y2 hz, Option.bind_some, EB_count hn0 hBI.1 (fun x hx => (hBI.2.1 x hx).1)]
      unfold fX10_kinds_J115
      generalize fb_ct (fun p => flB n (bf n (cg bk two oth) o).1 p (n - 1)) (bf n (cg bk two oth) o).1.length = cc
      generalize (bf n (cg bk two oth) o).1.length = N at y3 k5 ⊢
      exact ⟨nI cc, st', nI N, stk', fa', rw', fs', od', T', nI o, sd', l', pl', N, row', far', wy', mr', rfl, rfl, k3, k4, fun _ => k5, y3⟩
end KP
