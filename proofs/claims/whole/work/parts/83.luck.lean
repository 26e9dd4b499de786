/-! ===== luck ===== -/
section LP
variable {n : Nat} {bk : Nat → Nat} {bh par : Nat → Int32} {oth two : Bool} {o e l z rm : Nat} {ls hn T st fs od mo wi pl row far mr ev oo nw nx : Nat → Int32} {rw wy : Nat → Int64} {lb al re stk fa sta sd sort xl ha xa ma : Int32}
/-- what both tell -/
def lkV (F t U v : Nat) : Int32 := if v = 0 then nI U / nI (Nat.gcd U (F ^ t)) else nI (F ^ t) / nI (Nat.gcd U (F ^ t))
set_option maxHeartbeats 400000 in
theorem luckM_nI {S : BS} (hp : PB n bk) (hB : BO n bk sort par) (hn0 : 0 < n) (ho : o < 4 ^ n) (hz : 8000 < z) (hF : 0 < fr n o) (hG : HG n (cg bk two oth) (VO n o)) (hBI : BI (VO n o) S) (hL : BL n (cg bk two oth) o S) (hoin : o ∈ S.1) (hR : RM S pl row far wy mr) {a t v : Nat} (ha : VO n o a) (ht : t ≤ 6) (hv : v ≤ 1) (hnw : ∀ p, p < S.1.length → nw p = nI (lW n (cg bk two oth) S.1 o 0 (S.1.getD p 0))) :
    ∃ nw' nx', fX10_luck_J77 z (nI t) (nI v) (nI n) (nI a) (nI o) (nI S.1.length) row pl far wy mr (b01 two) sort par (b01 oth) nw nx = some (lkV (fr n o) t (lW n (cg bk two oth) S.1 o t a) v, pl, nI S.1.length, row, far, wy, mr, nw', nx') := by
  have h9 := hp.1
  have hl := hG.2.2 _ hBI
  have a9 : a < 262144 := o9 h9 ha.1
  have frl := fr_le n o
  obtain ⟨p1, p2⟩ := pow_9 (show fr n o ≤ 9 by omega) hF ht
  unfold fX10_luck_J77
  obtain ⟨⟨y1, nw2, nx2⟩, k1, k2, k3⟩ := luck_82 (z := z) (x2 := nI v) (aI := nI a) (nx := nx) hp hB hn0 ho hG hBI hL hR hz ht hnw
  dsimp only at k2 k3
  subst k2
  rw [k1, Option.bind_some]
  unfold fX10_luck_J240
  have fin : ∀ U, U ≤ 531441 → fX10_luck_J269 z (nI v) (nI (fr n o ^ t)) (nI U) (nI n) (nI a) (nI o) (nI S.1.length) row pl far wy mr (b01 two) sort par (b01 oth) nw2 nx2 = some (lkV (fr n o) t U v, pl, nI S.1.length, row, far, wy, mr, nw2, nx2) := by
    intro U hU
    have hg : 0 < Nat.gcd U (fr n o ^ t) := Nat.gcd_pos_of_pos_right _ p2
    have hg2 : Nat.gcd U (fr n o ^ t) ≤ fr n o ^ t := Nat.le_of_dvd p2 (Nat.gcd_dvd_right _ _)
    unfold fX10_luck_J269 lkV
    rw [common_nI hU p1 (by omega), Option.bind_some]
    by_cases c : v = 0
    · rw [if_pos (by rw [c]; rfl), if_pos c, dgd_ne (nI_ne0 hg (by omega))]
    · rw [if_neg (nI_ne0 (by omega) (by omega)), if_neg c, dgd_ne (nI_ne0 hg (by omega))]
  dsimp only
  rw [agd_in a9 (by decide), cl_nI (by omega)]
  rcases pl_get hR a9 hl with ⟨A, hA, ea, e1, hin⟩ | ⟨hnot, e1⟩
  · have hU := lW_lt (c := cg bk two oth) (o := o) h9 hBI.1 ht hin
    have k4 := k3 A hA
    rw [ea] at k4
    rw [e1, if_pos (show (0 : Int32) ≤ nI A from nI_le (a := 0) (Nat.zero_le _) (by omega)), agd_in (show A < 7560 by omega) (by decide), cl_nI (show A < 2 ^ 31 by omega), k4]
    exact ⟨_, _, fin _ hU⟩
  · have h0 := lW_out (n := n) (c := cg bk two oth) (fun x hx s hs => aL_in hn0 hL hx hs) hoin hnot t
    rw [e1, if_neg (by decide), h0]
    exact ⟨_, _, fin 0 (by omega)⟩
set_option maxHeartbeats 400000 in
theorem luck_pair (hp : PB n bk) (hb : BH n bk bh) (hB : BO n bk sort par) (hl : 0 < n → xl = nI (lpN two)) (ho : o < 4 ^ n) (hz : 8000 < z) (hel : e ≤ l) (hA : AM n o ha xa ma) (x1 x2 : Int32) (hS : 0 < n → SE n bk two oth o e l lb ls hn al st re stk fa rw fs od sta sd mo wi) (hR : RZ rm pl row) :
    ∃ r st' re' stk' fa' rw' fs' od' T' sta' sd' l' ev' oo' pl' rm' row' far' wy' mr' nw' nx', fX9_luck z x1 x2 ha (nI o) xa sd sta al st lb ls hn re rw fs od T (nI n) xl bh (b01 oth) stk (nI l) ev oo fa = some (r, st', re', stk', fa', rw', fs', od', T', sta', sd', nI l', ev', oo') ∧
      fX10_luck z x1 x2 (nI n) ma (nI o) (nI rm) row pl far wy mr (b01 two) sort par (b01 oth) nw nx = some (r, pl', nI rm', row', far', wy', mr', nw', nx') ∧
      e ≤ l' ∧ l' ≤ l + 1 ∧ (0 < n → SE n bk two oth o e l' lb ls hn al st' re' stk' fa' rw' fs' od' sta' sd' mo wi) ∧ RZ rm' pl' row' := by
  have i1 := in_cases x1 (K := 6) (by decide)
  have i2 := in_cases x2 (K := 1) (by decide)
  rw [show (nI 6).toInt64 = (6 : Int64) from rfl] at i1
  rw [show (nI 1).toInt64 = (1 : Int64) from rfl] at i2
  have h9 := hp.1
  have frl := fr_le n o
  unfold fX9_luck fX10_luck
  rcases hA with ⟨rfl, rfl⟩ | ⟨rfl, hn0, a, rfl, rfl, hV⟩
  · rw [if_pos rfl, noAim_m1, if_neg (show ¬ (1 : Int32) = 0 by decide)]
    exact ⟨_, st, re, stk, fa, rw, fs, od, T, sta, sd, l, ev, oo, pl, rm, row, far, wy, mr, nw, nx, rfl, rfl, hel, by omega, hS, hR⟩
  · rw [if_neg (show ¬ (1 : Int32) = 0 by decide), noAim_a hn0 (by omega) (o31 h9 hV.1), if_pos rfl, frogsOf_nI h9 ho (by omega), frogs_nI h9 ho (by omega), Option.bind_some, Option.bind_some, Option.bind_some]
    by_cases hF : fr n o = 0
    · rw [hF, if_pos (show nI 0 = 0 from rfl), if_pos (show nI 0 = 0 from rfl)]
      exact ⟨_, st, re, stk, fa, rw, fs, od, T, sta, sd, l, ev, oo, pl, rm, row, far, wy, mr, nw, nx, rfl, rfl, hel, by omega, hS, hR⟩
    · rw [if_neg (nI_ne0 (by omega) (by omega)), if_neg (nI_ne0 (by omega) (by omega))]
      rcases i1 with ⟨t, t1, rfl, t2⟩ | ⟨t1, t2⟩
      · rw [t2, if_neg (show ¬ (1 : Int32) = 0 by decide), if_neg (nI_pos (by omega)), if_neg (show ¬ (6 : Int32) < nI t from nI_nlt (a := 6) (b := t) t1 (by decide))]
        rcases i2 with ⟨v, v1, rfl, v2⟩ | ⟨v1, v2⟩
        · rw [v2, if_neg (show ¬ (1 : Int32) = 0 by decide), if_neg (nI_pos (by omega)), if_pos (show nI v ≤ (1 : Int32) from nI_le (a := v) (b := 1) v1 (by decide))]
          obtain ⟨st', re', stk', fa', rw', fs', od', T', sd', l', ev', oo', k1, k3, k4, k5⟩ := rows_nI (z := z) (T := T) (g1 := ev) (g2 := oo) (bh := bh) hp hb hn0 ho hz hel (hS hn0) hV t1
          obtain ⟨pl', row', far', wy', mr', y1, y2, y3⟩ := lay_RZ (z := z) (two := two) (oth := oth) (far := far) (mr := mr) (wy := wy) hp hB hn0 ho hz hR
          have hG := VO_HG (two := two) (oth := oth) (bk := bk) (o := o) hp.1
          have hBI := bf_BI hG hn0 (VO_self ho)
          have hL := bf_BL hG hn0 (VO_self ho)
          have hoin : o ∈ (bf n (cg bk two oth) o).1 := bf_mem
          generalize bf n (cg bk two oth) o = S at k1 y1 y2 y3 hBI hL hoin
          have hlen := hG.2.2 _ hBI
          have hpos : 0 < S.1.length := List.length_pos_of_mem hoin
          obtain ⟨p1, p2⟩ := pow_9 (show fr n o ≤ 9 by omega) (show 0 < fr n o by omega) t1
          have hU : lW n (cg bk two oth) S.1 o t a ≤ 531441 := by
            by_cases hin : a ∈ S.1
            · exact lW_lt h9 hBI.1 t1 hin
            · rw [lW_out (n := n) (c := cg bk two oth) (fun x hx s hs => aL_in hn0 hL hx hs) hoin hin t]
              omega
          obtain ⟨nw1, q1, q2⟩ := luck_48 (z := z) (x1 := nI t) (x2 := nI v) (aI := nI a) (row := row') (pl := pl') (far := far') (wy := wy') (mr := mr') (sort := sort) (par := par) (nw := nw) (nx := nx) (two := two) (oth := oth) hBI hL hlen hpos hz
          obtain ⟨nw2, nx2, q3⟩ := luckM_nI (z := z) (nx := nx) (v := v) hp hB hn0 ho hz (by omega) hG hBI hL hoin y2 hV t1 v1 q2
          rw [power_nI t1 (by omega), Option.bind_some, hl hn0, k1, Option.bind_some, y1, Option.bind_some]
          dsimp only
          rw [q1, Option.bind_some, q3]
          generalize lW n (cg bk two oth) S.1 o t a = U at hU ⊢
          have hg : 0 < Nat.gcd U (fr n o ^ t) := Nat.gcd_pos_of_pos_right _ p2
          have hg2 : Nat.gcd U (fr n o ^ t) ≤ fr n o ^ t := Nat.le_of_dvd p2 (Nat.gcd_dvd_right _ _)
          rw [shared_nI hU p1 (by omega), Option.bind_some, if_neg (nI_ne0 hg (by omega))]
          generalize S.1.length = N at y3 ⊢
          unfold lkV
          by_cases c : v = 0
          · rw [if_pos (by rw [c]; rfl), dgd_ne (nI_ne0 hg (by omega)), if_pos c]
            exact ⟨_, st', re', stk', fa', rw', fs', od', T', nI o, sd', l', ev', oo', pl', N, row', far', wy', mr', nw2, nx2, rfl, rfl, k3, k4, fun _ => k5, y3⟩
          · rw [if_neg (nI_ne0 (by omega) (by omega)), dgd_ne (nI_ne0 hg (by omega)), if_neg c]
            exact ⟨_, st', re', stk', fa', rw', fs', od', T', nI o, sd', l', ev', oo', pl', N, row', far', wy', mr', nw2, nx2, rfl, rfl, k3, k4, fun _ => k5, y3⟩
        · rw [v2, if_pos rfl]
          rcases v1 with v1 | v1
          · rw [if_pos v1]
            exact ⟨_, st, re, stk, fa, rw, fs, od, T, sta, sd, l, ev, oo, pl, rm, row, far, wy, mr, nw, nx, rfl, rfl, hel, by omega, hS, hR⟩
          · have nlt : ¬ x2 < 0 := fun g => absurd (fa_trans v1 (fa_of_lt g).1) (by decide)
            rw [if_neg nlt, if_neg (show ¬ x2 ≤ 1 from fun g => (fa_of_lt v1).2.1 g)]
            exact ⟨_, st, re, stk, fa, rw, fs, od, T, sta, sd, l, ev, oo, pl, rm, row, far, wy, mr, nw, nx, rfl, rfl, hel, by omega, hS, hR⟩
      · rw [t2, if_pos rfl]
        rcases t1 with t1 | t1
        · rw [if_pos t1]
          exact ⟨_, st, re, stk, fa, rw, fs, od, T, sta, sd, l, ev, oo, pl, rm, row, far, wy, mr, nw, nx, rfl, rfl, hel, by omega, hS, hR⟩
        · have nlt : ¬ x1 < 0 := fun g => absurd (fa_trans t1 (fa_of_lt g).1) (by decide)
          rw [if_neg nlt, if_pos (show (6 : Int32) < x1 from t1)]
          exact ⟨_, st, re, stk, fa, rw, fs, od, T, sta, sd, l, ev, oo, pl, rm, row, far, wy, mr, nw, nx, rfl, rfl, hel, by omega, hS, hR⟩
end LP
