/-! ===== LUCK: how many rows of frogs lead where ===== -/
def lS (n : Nat) (c : Nat → Nat → Nat → Bool) (x q v s : Nat) : Nat := if kd x s = 0 then 0 else if aL n c x s = q then v else 0
def lX (n : Nat) (c : Nat → Nat → Nat → Bool) (x q v k : Nat) : Nat := fb_sm (lS n c x q v) k
def lT (n : Nat) (c : Nat → Nat → Nat → Bool) (L : List Nat) (w : Nat → Nat) (q P : Nat) : Nat := fb_sm (fun p => lX n c (L.getD p 0) q (w (L.getD p 0)) n) P
def lW (n : Nat) (c : Nat → Nat → Nat → Bool) (L : List Nat) (o : Nat) : Nat → Nat → Nat
  | 0, q => if q = o then 1 else 0
  | t + 1, q => lT n c L (lW n c L o t) q L.length
theorem sm_swap (g : Nat → Nat → Nat) (P : Nat) : ∀ N, fb_sm (fun j => fb_sm (fun p => g p j) P) N = fb_sm (fun p => fb_sm (g p) N) P
  | 0 => by
    show 0 = fb_sm (fun _ => 0) P
    rw [fb_sm_const, Nat.mul_zero]
  | N + 1 => by
    rw [fb_sm_succ, sm_swap g P N, ← fb_sm_add]
    rfl
theorem sm_one {x : Nat → Nat} (a v : Nat) : ∀ N, (∀ i j, i < N → j < N → x i = x j → i = j) → fb_sm (fun j => if a = x j then v else 0) N ≤ v
  | 0, _ => Nat.zero_le _
  | N + 1, h => by
    rw [fb_sm_succ]
    by_cases c : a = x N
    · have z0 : fb_sm (fun j => if a = x j then v else 0) N = fb_sm (fun _ => 0) N := fb_sm_cong (fun k hk => if_neg (fun e => by
        have := h k N (by omega) (by omega) (by rw [← e, ← c])
        omega))
      rw [z0, fb_sm_const, Nat.mul_zero, if_pos c, Nat.zero_add]
      exact Nat.le_refl _
    · rw [if_neg c]
      exact sm_one a v N (fun i j hi hj e => h i j (by omega) (by omega) e)
section LM
variable {n : Nat} {c : Nat → Nat → Nat → Bool} {L : List Nat} {o : Nat}
theorem lX_0 {x q : Nat} : ∀ k, lX n c x q 0 k = 0
  | 0 => rfl
  | k + 1 => by
    show lX n c x q 0 k + lS n c x q 0 k = 0
    rw [lX_0 k]
    unfold lS
    split
    · rfl
    · split <;> rfl
/-- the sum over the whole row -/
def lM (L : List Nat) (w : Nat → Nat) : Nat := fb_sm (fun p => w (L.getD p 0)) L.length
set_option maxHeartbeats 400000 in
theorem lM_step (hn : n ≤ 9) (hN : L.Nodup) (w : Nat → Nat) : lM L (fun q => lT n c L w q L.length) ≤ 9 * lM L w := by
  have e1 : lM L (fun q => lT n c L w q L.length) = fb_sm (fun p => fb_sm (fun j => lX n c (L.getD p 0) (L.getD j 0) (w (L.getD p 0)) n) L.length) L.length := sm_swap (fun p j => lX n c (L.getD p 0) (L.getD j 0) (w (L.getD p 0)) n) L.length L.length
  rw [e1]
  have e2 : ∀ p, fb_sm (fun j => lX n c (L.getD p 0) (L.getD j 0) (w (L.getD p 0)) n) L.length ≤ n * w (L.getD p 0) := by
    intro p
    have e3 : fb_sm (fun j => lX n c (L.getD p 0) (L.getD j 0) (w (L.getD p 0)) n) L.length = fb_sm (fun s => fb_sm (fun j => lS n c (L.getD p 0) (L.getD j 0) (w (L.getD p 0)) s) L.length) n := sm_swap (fun s j => lS n c (L.getD p 0) (L.getD j 0) (w (L.getD p 0)) s) n L.length
    rw [e3]
    refine fb_sm_bound (fun s _ => ?_)
    by_cases k : kd (L.getD p 0) s = 0
    · have z0 : fb_sm (fun j => lS n c (L.getD p 0) (L.getD j 0) (w (L.getD p 0)) s) L.length = fb_sm (fun _ => 0) L.length := fb_sm_cong (fun j _ => if_pos k)
      rw [z0, fb_sm_const, Nat.mul_zero]
      exact Nat.zero_le _
    · have z0 : fb_sm (fun j => lS n c (L.getD p 0) (L.getD j 0) (w (L.getD p 0)) s) L.length = fb_sm (fun j => if aL n c (L.getD p 0) s = L.getD j 0 then w (L.getD p 0) else 0) L.length := fb_sm_cong (fun j _ => if_neg k)
      rw [z0]
      exact sm_one (x := fun j => L.getD j 0) _ _ _ (fun i j hi hj e => getD_inj hN hi hj e)
  have e4 : fb_sm (fun p => fb_sm (fun j => lX n c (L.getD p 0) (L.getD j 0) (w (L.getD p 0)) n) L.length) L.length ≤ fb_sm (fun p => 9 * w (L.getD p 0)) L.length := fb_sm_le (fun p _ => Nat.le_trans (e2 p) (Nat.mul_le_mul_right _ hn))
  refine Nat.le_trans e4 ?_
  have e5 : ∀ N, fb_sm (fun p => 9 * w (L.getD p 0)) N = 9 * fb_sm (fun p => w (L.getD p 0)) N := by
    intro N
    induction N with
    | zero => rfl
    | succ N ih => rw [fb_sm_succ, fb_sm_succ, ih, Nat.mul_add]
  rw [e5]
  exact Nat.le_refl _
theorem lM_le (hn : n ≤ 9) (hN : L.Nodup) : ∀ t, lM L (lW n c L o t) ≤ 9 ^ t
  | 0 => by
    have : lM L (lW n c L o 0) = fb_sm (fun j => if o = L.getD j 0 then 1 else 0) L.length := fb_sm_cong (fun j _ => by
      show (if L.getD j 0 = o then 1 else 0) = _
      by_cases e : o = L.getD j 0
      · rw [if_pos e.symm, if_pos e]
      · rw [if_neg (fun g => e g.symm), if_neg e])
    rw [this]
    exact sm_one (x := fun j => L.getD j 0) _ _ _ (fun i j hi hj e => getD_inj hN hi hj e)
  | t + 1 => by
    have h1 := lM_step (c := c) hn hN (lW n c L o t)
    have h2 := lM_le hn hN t
    have e : lM L (lW n c L o (t + 1)) = lM L (fun q => lT n c L (lW n c L o t) q L.length) := rfl
    rw [e, Nat.pow_succ]
    omega
theorem lW_lt (hn : n ≤ 9) (hN : L.Nodup) {t x : Nat} (ht : t ≤ 6) (hx : x ∈ L) : lW n c L o t x ≤ 531441 := by
  obtain ⟨p, p1, p2⟩ := mem_getD hx
  have h1 := lM_le (c := c) (o := o) hn hN t
  have h2 := fb_sm_part (fun p => lW n c L o t (L.getD p 0)) p1
  rw [p2] at h2
  have h3 : 9 ^ t ≤ 9 ^ 6 := Nat.pow_le_pow_right (by decide) ht
  have h4 : lM L (lW n c L o t) = fb_sm (fun p => lW n c L o t (L.getD p 0)) L.length := rfl
  have h5 : (9 : Nat) ^ 6 = 531441 := by decide
  omega
theorem lW_out {q : Nat} (hcl : ∀ x ∈ L, ∀ s, s < n → aL n c x s ∈ L) (ho : o ∈ L) (hq : q ∉ L) : ∀ t, lW n c L o t q = 0
  | 0 => by
    show (if q = o then 1 else 0) = 0
    rw [if_neg (fun e => hq (by rw [e]; exact ho))]
  | t + 1 => by
    show fb_sm (fun p => lX n c (L.getD p 0) q (lW n c L o t (L.getD p 0)) n) L.length = 0
    have z0 : fb_sm (fun p => lX n c (L.getD p 0) q (lW n c L o t (L.getD p 0)) n) L.length = fb_sm (fun _ => 0) L.length := fb_sm_cong (fun p hp => by
      have z1 : fb_sm (lS n c (L.getD p 0) q (lW n c L o t (L.getD p 0))) n = fb_sm (fun _ => 0) n := fb_sm_cong (fun s hs => by
        unfold lS
        split
        · rfl
        · rw [if_neg (fun e => hq (by rw [← e]; exact hcl _ (getD_mem hp) s hs))])
      show fb_sm (lS n c (L.getD p 0) q (lW n c L o t (L.getD p 0))) n = 0
      rw [z1, fb_sm_const, Nat.mul_zero])
    rw [z0, fb_sm_const, Nat.mul_zero]
end LM
/-! ===== the class's ===== -/
section LC
variable {n : Nat} {bk : Nat → Nat} {bh : Nat → Int32} {oth two : Bool} {o e l z A : Nat} {num : Nat → Nat} {ls hn T st fs od mo wi g g1 g2 : Nat → Int32} {rw : Nat → Int64} {lb al re stk fa sta sd xl : Int32} {S : BS}
set_option maxHeartbeats 400000 in
theorem letEach_nI (hp : PB n bk) (hb : BH n bk bh) (hN : NB (VO n o) num lb ls hn al) (hn9 : n ≤ 9) (hz : 20 < z) {x v : Nat} {F : Nat → Nat} (hx : VO n o x) (hF : ∀ q, VO n o q → g (num q) = nI (F q)) :
    ∃ r, fX0_letEachGo z (nI x) (nI v) T (nI n) (nI (lpN two)) bh (b01 oth) lb ls hn al g 7560 = some r ∧ ∀ q, VO n o q → r.2 (num q) = nI (F q + lX n (cg bk two oth) x q v n) := by
  have h9 := hp.1
  have hx9 : x < 4 ^ 9 := o9 h9 hx.1
  have hx31 : x < 2 ^ 31 := o31 h9 hx.1
  unfold fX0_letEachGo
  rw [find_nI hp hb hx9 (by omega), Option.bind_some]
  have main : ∃ r, lp (fun sg => fX0_letEachGo_L11 z (nI x) (nI v) sg.1 (tf T (mk bk two oth x n)) (nI n) (nI (lpN two)) bh (b01 oth) lb ls hn al sg.2 7560) z (0, g) = some r ∧ ∀ q, VO n o q → r (num q) = nI (F q + lX n (cg bk two oth) x q v n) := by
    refine lp_rel0 (fun (s : Nat) (y : Int32 × (Nat → Int32)) => y.1 = nI s ∧ ∀ q, VO n o q → y.2 (num q) = nI (F q + lX n (cg bk two oth) x q v s)) _ n ⟨rfl, fun q hq => hF q hq⟩ (fun s y hs hr => ?_) (fun y hr => ?_) (by omega)
    · obtain ⟨y1, gg⟩ := y
      obtain ⟨r1, r2⟩ := hr
      dsimp only at r1 r2
      subst r1
      have hkf := kd_lt x s
      show ∃ s', fX0_letEachGo_L11 z (nI x) (nI v) (nI s) (tf T (mk bk two oth x n)) (nI n) (nI (lpN two)) bh (b01 oth) lb ls hn al gg 7560 = _ ∧ _
      unfold fX0_letEachGo_L11
      rw [if_neg (nI_ge hs (by omega)), kindAt_nI hx31 (by omega), nI_1]
      have eX : ∀ q, lX n (cg bk two oth) x q v (s + 1) = lX n (cg bk two oth) x q v s + lS n (cg bk two oth) x q v s := fun q => rfl
      by_cases k : kd x s = 0
      · rw [if_pos (by rw [k]; rfl)]
        refine ⟨_, rfl, rfl, fun q hq => ?_⟩
        show gg (num q) = _
        rw [r2 q hq, eX]
        unfold lS
        rw [if_pos k]
        rfl
      · have va := aL_V (bk := bk) (two := two) (oth := oth) hn9 hx hs
        have na := hN.1 _ va
        rw [if_neg (nI_ne0 (by omega) (by omega)), afterLeast_nI hp hx9 hs hz, Option.bind_some, hN.2.2 z _ va, Option.bind_some, if_neg (nI_ne_m1 (by omega)), agd_in na (by decide), agd_in na (by decide), cl_nI (by omega), r2 _ va, nI_add]
        refine ⟨_, rfl, rfl, fun q hq => ?_⟩
        show upd gg (num (aL n (cg bk two oth) x s)) _ (num q) = _
        rw [eX]
        unfold lS
        rw [if_neg k]
        by_cases eq : aL n (cg bk two oth) x s = q
        · rw [if_pos eq, eq, pk_us, Nat.add_assoc]
        · rw [if_neg eq, pk_un (fun g => eq (hN.2.1 _ _ hq va g).symm), r2 q hq, Nat.add_zero]
    · obtain ⟨y1, gg⟩ := y
      obtain ⟨r1, r2⟩ := hr
      dsimp only at r1 r2
      subst r1
      show ∃ s', fX0_letEachGo_L11 z (nI x) (nI v) (nI n) (tf T (mk bk two oth x n)) (nI n) (nI (lpN two)) bh (b01 oth) lb ls hn al gg 7560 = _ ∧ _
      unfold fX0_letEachGo_L11
      rw [if_pos (nI_le (Nat.le_refl _) (by omega))]
      exact ⟨_, rfl, r2⟩
  obtain ⟨r, m1, m2⟩ := main
  rw [m1, Option.bind_some]
  exact ⟨_, rfl, m2⟩
set_option maxHeartbeats 400000 in
theorem spread_nI (hp : PB n bk) (hb : BH n bk bh) (hG : HG n (cg bk two oth) (VO n o)) (hBI : BI (VO n o) S) (hA : A ≤ 7560) (hN : NB (VO n o) num lb ls hn (nI A)) (hNA : ∀ q, VO n o q → num q < A) (hR : RC (VO n o) num S st fs od rw) (hz : 8000 < z) {w : Nat → Nat} (hw : ∀ x ∈ S.1, w x < 2 ^ 31) (h1 : ∀ q ∈ S.1, g1 (num q) = nI (w q)) :
    ∃ r, fX0_spread z (nI A) 7560 g2 (nI S.1.length) od lb ls hn g1 7560 T (nI n) (nI (lpN two)) bh (b01 oth) = some r ∧ ∀ q, VO n o q → r.1 (num q) = nI (lT n (cg bk two oth) S.1 w q S.1.length) := by
  have h9 := hp.1
  have hl := hG.2.2 _ hBI
  unfold fX0_spread
  rw [fillFirst_nI hA (by decide) (by omega), Option.bind_some]
  have main : ∃ r, lp (fun sg => fX0_spread_L14 z sg.1 (nI A) 7560 sg.2.1 (nI S.1.length) od lb ls hn g1 7560 sg.2.2 (nI n) (nI (lpN two)) bh (b01 oth)) z (0, fa_fill (fun _ => (0 : Int32)) g2 A, T) = some r ∧ ∀ q, VO n o q → r.1 (num q) = nI (lT n (cg bk two oth) S.1 w q S.1.length) := by
    refine lp_rel0 (fun (p : Nat) (y : Int32 × (Nat → Int32) × (Nat → Int32)) => y.1 = nI p ∧ ∀ q, VO n o q → y.2.1 (num q) = nI (lT n (cg bk two oth) S.1 w q p)) _ S.1.length ⟨rfl, fun q hq => show fa_fill (fun _ => (0 : Int32)) g2 A (num q) = nI 0 from fa_fill_in (hNA q hq)⟩ (fun p y hp' hr => ?_) (fun y hr => ?_) (by omega)
    · obtain ⟨y1, gg, TT⟩ := y
      obtain ⟨r1, r2⟩ := hr
      dsimp only at r1 r2
      subst r1
      have hxin := getD_mem hp'
      have vx := hBI.2.1 _ hxin
      have nx := hN.1 _ vx
      have wx := hw _ hxin
      show ∃ s', fX0_spread_L14 z (nI p) (nI A) 7560 gg (nI S.1.length) od lb ls hn g1 7560 TT (nI n) (nI (lpN two)) bh (b01 oth) = _ ∧ _
      unfold fX0_spread_L14
      rw [if_neg (nI_ge hp' (by omega)), if_neg (show ¬ (7560 : Int32) ≤ nI p from nI_ge (a := p) (b := 7560) (by omega) (by decide)), agd_in (show p < 7560 by omega) (by decide), cl_nI (show p < 2 ^ 31 by omega), hR.1 p hp', hN.2.2 z _ vx, Option.bind_some, if_neg (nI_ne_m1 (by omega)), agd_in nx (by decide), cl_nI (show num (S.1.getD p 0) < 2 ^ 31 by omega), h1 _ hxin, nI_1]
      have eT : ∀ q, lT n (cg bk two oth) S.1 w q (p + 1) = lT n (cg bk two oth) S.1 w q p + lX n (cg bk two oth) (S.1.getD p 0) q (w (S.1.getD p 0)) n := fun q => rfl
      by_cases k : w (S.1.getD p 0) = 0
      · rw [if_pos (by rw [k]; rfl)]
        refine ⟨_, rfl, rfl, fun q hq => ?_⟩
        show gg (num q) = _
        rw [r2 q hq, eT, k, lX_0, Nat.add_zero]
      · obtain ⟨r, e1, e2⟩ := letEach_nI (z := z) (T := TT) (two := two) (oth := oth) (v := w (S.1.getD p 0)) hp hb hN h9 (by omega) vx r2
        rw [if_neg (nI_ne0 (by omega) (by omega)), agd_in nx (by decide), e1, Option.bind_some]
        exact ⟨_, rfl, rfl, fun q hq => by rw [eT]; exact e2 q hq⟩
    · obtain ⟨y1, gg, TT⟩ := y
      obtain ⟨r1, r2⟩ := hr
      dsimp only at r1 r2
      subst r1
      show ∃ s', fX0_spread_L14 z (nI S.1.length) (nI A) 7560 gg (nI S.1.length) od lb ls hn g1 7560 TT (nI n) (nI (lpN two)) bh (b01 oth) = _ ∧ _
      unfold fX0_spread_L14
      rw [if_pos (nI_le (Nat.le_refl _) (by omega))]
      exact ⟨_, rfl, r2⟩
  obtain ⟨r, m1, m2⟩ := main
  rw [m1, Option.bind_some]
  exact ⟨_, rfl, m2⟩
theorem aL_in {x s : Nat} (hn0 : 0 < n) (hL : BL n (cg bk two oth) o S) (hx : x ∈ S.1) (hs : s < n) : aL n (cg bk two oth) x s ∈ S.1 := by
  unfold aL
  by_cases c : aJ n (cg bk two oth) x s < n
  · rw [if_pos c]
    have hy : cg bk two oth x s (aJ n (cg bk two oth) x s) = true := fa_first_yes _ _ c
    obtain ⟨d1, d2⟩ := dm (f := s) c
    have := (hL.2.2.2.2.1 _ hx (s * n + aJ n (cg bk two oth) x s) (by have := fn_le hs; omega) (by rw [d1, d2]; exact hy)).1
    rw [d1, d2] at this
    exact this
  · rw [if_neg c]
    exact hx
set_option maxHeartbeats 400000 in
theorem rows_nI (hp : PB n bk) (hb : BH n bk bh) (hn0 : 0 < n) (ho : o < 4 ^ n) (hz : 8000 < z) (hel : e ≤ l) (hS : SE n bk two oth o e l lb ls hn al st re stk fa rw fs od sta sd mo wi) {a t : Nat} (ha : VO n o a) (ht : t ≤ 6) :
    ∃ st' re' stk' fa' rw' fs' od' T' sd' l' ev' oo', fX0_rowsEndingAt z (nI a) (nI o) (nI t) sd sta al st lb ls hn re rw fs od T (nI n) (nI (lpN two)) bh (b01 oth) stk (nI l) g1 g2 fa = some (nI (lW n (cg bk two oth) (bf n (cg bk two oth) o).1 o t a), st', re', stk', fa', rw', fs', od', T', nI o, sd', nI l', ev', oo') ∧
      e ≤ l' ∧ l' ≤ l + 1 ∧ SE n bk two oth o e l' lb ls hn al st' re' stk' fa' rw' fs' od' (nI o) sd' mo wi := by
  obtain ⟨st', re', stk', fa', rw', fs', od', T', sd', l', k1, k2, k3, k4, k5⟩ := look_SE (z := z) (T := T) (bh := bh) hp hb hn0 ho hz hel hS
  obtain ⟨num, A, b1, b2, b3, b4, b5, b6, b7⟩ := SE_get hp.1 ho k5 k2
  have hG := VO_HG (two := two) (oth := oth) (bk := bk) (o := o) hp.1
  have hBI := bf_BI hG hn0 (VO_self ho)
  have hL := bf_BL hG hn0 (VO_self ho)
  have hoin : o ∈ (bf n (cg bk two oth) o).1 := bf_mem
  have vo := VO_self ho
  have no := b3.1 _ vo
  have na := b3.1 _ ha
  subst b1
  have hre : re' = nI (bf n (cg bk two oth) o).1.length := b6.2.1
  have hRC := b6.1
  unfold fX0_rowsEndingAt
  rw [k1, Option.bind_some, fillFirst_nI b2 (by decide) (by omega), Option.bind_some, b3.2.2 z _ vo, Option.bind_some, b3.2.2 z _ ha, Option.bind_some, if_neg (nI_ne_m1 (by omega)), if_neg (nI_ne_m1 (by omega)), agd_in no (by decide), cl_nI (show num o < 2 ^ 31 by omega)]
  dsimp only
  have main : ∃ r, lp (fun sg => fX0_rowsEndingAt_L68 z (nI t) (nI (num a)) sg.1 sd' (nI o) (nI A) st' lb ls hn re' rw' fs' od' sg.2.1 (nI n) (nI (lpN two)) bh (b01 oth) stk' (nI l') sg.2.2.1 sg.2.2.2 fa') z (0, T', upd (fa_fill (fun _ => (0 : Int32)) g1 A) (num o) 1, g2) = some r ∧
      ∀ q, VO n o q → (if t % 2 = 0 then r.2.1 else r.2.2) (num q) = nI (lW n (cg bk two oth) (bf n (cg bk two oth) o).1 o t q) := by
    refine lp_rel0 (fun (i : Nat) (y : Int32 × (Nat → Int32) × (Nat → Int32) × (Nat → Int32)) => y.1 = nI i ∧ ∀ q, VO n o q → (if i % 2 = 0 then y.2.2.1 else y.2.2.2) (num q) = nI (lW n (cg bk two oth) (bf n (cg bk two oth) o).1 o i q)) _ t ⟨rfl, fun q hq => ?_⟩ (fun i y hi hr => ?_) (fun y hr => ?_) (by omega)
    · show upd (fa_fill (fun _ => (0 : Int32)) g1 A) (num o) 1 (num q) = nI (if q = o then 1 else 0)
      by_cases eq : q = o
      · rw [if_pos eq, eq, pk_us]
        rfl
      · rw [if_neg eq, pk_un (fun g => eq (b3.2.1 _ _ hq vo g)), fa_fill_in (b4 q hq)]
        rfl
    · obtain ⟨y1, TT, ev, oo⟩ := y
      obtain ⟨r1, r2⟩ := hr
      dsimp only at r1 r2
      subst r1
      show ∃ s', fX0_rowsEndingAt_L68 z (nI t) (nI (num a)) (nI i) sd' (nI o) (nI A) st' lb ls hn re' rw' fs' od' TT (nI n) (nI (lpN two)) bh (b01 oth) stk' (nI l') ev oo fa' = _ ∧ _
      unfold fX0_rowsEndingAt_L68
      have hw : ∀ x ∈ (bf n (cg bk two oth) o).1, lW n (cg bk two oth) (bf n (cg bk two oth) o).1 o i x < 2 ^ 31 := fun x hx => by
        have := lW_lt (c := cg bk two oth) (o := o) hp.1 hBI.1 (show i ≤ 6 by omega) hx
        omega
      rw [if_neg (nI_ge hi (by omega)), show i_rem (nI i) 2 = nI (i % 2) from rem_nI (n := 2) (by omega) (by decide) (by decide), hre]
      rcases (show i % 2 = 0 ∨ i % 2 = 1 by omega) with c | c
      · rw [if_pos c] at r2
        obtain ⟨r, s1, s2⟩ := spread_nI (z := z) (T := TT) (g2 := oo) (g1 := ev) hp hb hG hBI b2 b3 b4 hRC hz hw (fun q hq => r2 q (hBI.2.1 _ hq))
        rw [c, if_pos (show nI 0 = 0 from rfl), s1, Option.bind_some, nI_1]
        refine ⟨_, rfl, rfl, fun q hq => ?_⟩
        rw [if_neg (show ¬ (i + 1) % 2 = 0 by omega)]
        exact s2 q hq
      · rw [if_neg (show ¬ i % 2 = 0 by omega)] at r2
        obtain ⟨r, s1, s2⟩ := spread_nI (z := z) (T := TT) (g2 := ev) (g1 := oo) hp hb hG hBI b2 b3 b4 hRC hz hw (fun q hq => r2 q (hBI.2.1 _ hq))
        rw [c, if_neg (show ¬ nI 1 = 0 by decide), s1, Option.bind_some, nI_1]
        refine ⟨_, rfl, rfl, fun q hq => ?_⟩
        rw [if_pos (show (i + 1) % 2 = 0 by omega)]
        exact s2 q hq
    · obtain ⟨y1, TT, ev, oo⟩ := y
      obtain ⟨r1, r2⟩ := hr
      dsimp only at r1 r2
      subst r1
      show ∃ s', fX0_rowsEndingAt_L68 z (nI t) (nI (num a)) (nI t) sd' (nI o) (nI A) st' lb ls hn re' rw' fs' od' TT (nI n) (nI (lpN two)) bh (b01 oth) stk' (nI l') ev oo fa' = _ ∧ _
      unfold fX0_rowsEndingAt_L68
      rw [if_pos (nI_le (Nat.le_refl _) (by omega))]
      exact ⟨_, rfl, r2⟩
  obtain ⟨r, m1, m2⟩ := main
  have m3 := m2 a ha
  rw [m1, Option.bind_some]
  unfold fX0_rowsEndingAt_J114
  rw [show i_rem (nI t) 2 = nI (t % 2) from rem_nI (n := 2) (by omega) (by decide) (by decide)]
  obtain ⟨TT, ev, oo⟩ := r
  rcases (show t % 2 = 0 ∨ t % 2 = 1 by omega) with c | c
  · rw [if_pos c] at m3
    rw [c, if_pos (show nI 0 = 0 from rfl), agd_in na (by decide), cl_nI (show num a < 2 ^ 31 by omega)]
    dsimp only at m3 ⊢
    rw [m3]
    exact ⟨st', re', stk', fa', rw', fs', od', TT, sd', l', ev, oo, rfl, k3, k4, k5⟩
  · rw [if_neg (show ¬ t % 2 = 0 by omega)] at m3
    rw [c, if_neg (show ¬ nI 1 = 0 by decide), agd_in na (by decide), cl_nI (show num a < 2 ^ 31 by omega)]
    dsimp only at m3 ⊢
    rw [m3]
    exact ⟨st', re', stk', fa', rw', fs', od', TT, sd', l', ev, oo, rfl, k3, k4, k5⟩
end LC
