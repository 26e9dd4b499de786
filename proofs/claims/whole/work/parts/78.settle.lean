/-! ===== ENDING: settleFrom, winningMove ===== -/
section SF
variable {n : Nat} {bk : Nat → Nat} {bh dp : Nat → Int32} {oth two : Bool} {o e l z : Nat} {num : Nat → Nat} {ls hn T st fs od le so mo wi : Nat → Int32} {rw : Nat → Int64} {lb al re stk fa sta sd : Int32}
theorem VO_3 {x : Nat} (h3 : ct 3 o n = 0) (hx : VO n o x) : ct 3 x n = 0 := by rw [hx.2 3]; exact h3
/-- what is settled already, over any two reckonings -/
def SO2 (Lg Wg : Nat → Nat) (num : Nat → Nat) (mo wi : Nat → Int32) (q : Nat) : Prop := mo (num q) = nI (Lg q) ∧ wi (num q) = nI (Wg q)
theorem SO2_upd {Lg Wg : Nat → Nat} {mo wi : Nat → Int32} {x q : Nat} (hn : num q = num x → q = x) (h : q ≠ x → SO2 Lg Wg num mo wi q) : SO2 Lg Wg num (upd mo (num x) (nI (Lg x))) (upd wi (num x) (nI (Wg x))) q := by
  by_cases g : q = x
  · subst g
    exact ⟨pk_us, pk_us⟩
  · have gn : num q ≠ num x := fun e => g (hn e)
    have old := h g
    exact ⟨by rw [pk_un gn]; exact old.1, by rw [pk_un gn]; exact old.2⟩
/-- from place m on all is settled -/
def SM (Lg Wg : Nat → Nat) (num : Nat → Nat) (S : BS) (so : Nat → Int32) (m : Nat) (mo wi : Nat → Int32) : Prop :=
  ∀ j p, j < S.1.length → m ≤ p → p < S.1.length → so p = nI (S.1.getD j 0) → SO2 Lg Wg num mo wi (S.1.getD j 0)
set_option maxHeartbeats 400000 in
theorem settle_43 {Lg Wg : Nat → Nat} {S : BS} {c : Nat → Nat → Nat → Bool} (hset : ∀ x T mo wi, VO n o x → (∀ j, j < n * n → c x (j / n) (j % n) = true → SO2 Lg Wg num mo wi (mvd x (j / n) (j % n))) → ∃ T', fX2_settle z (nI x) T (nI n) (nI (lpN two)) bh (b01 oth) lb ls hn al mo wi = some (T', upd mo (num x) (nI (Lg x)), upd wi (num x) (nI (Wg x))))
    (hup : ∀ x, VO n o x → ∀ j, j < n * n → c x (j / n) (j % n) = true → lv n bk x + 1 ≤ lv n bk (mvd x (j / n) (j % n))) (hn9 : n ≤ 9) (hBI : BI (VO n o) S) (hL : BL n c o S) (hN : NB (VO n o) num lb ls hn al) (hz : 8000 < z)
    (hS : SD (fun i => lv n bk (S.1.getD i 0)) S.1.length (fun i => S.1.getD i 0) so) {a1 a2 a3 a4 a5 a6 a7 : Int32} {g1 g2 g3 g4 : Nat → Int32} {g5 : Nat → Int64} (hlen : S.1.length ≤ 1680) :
    ∃ r, lp (fun sg => fX2_settleFrom_L43 z sg.1 a1 a2 al g1 lb ls hn a3 g5 g2 g3 sg.2.1 (nI n) (nI (lpN two)) bh (b01 oth) a4 a5 a6 g4 dp so sg.2.2.1 sg.2.2.2 a7) z (nI S.1.length - 1, T, mo, wi) = some r ∧ ∀ q ∈ S.1, SO2 Lg Wg num r.2.1 r.2.2 q := by
  have x31 : ∀ j, j < S.1.length → S.1.getD j 0 < 2 ^ 31 := fun j hj => o31 hn9 (hBI.2.1 _ (getD_mem hj)).1
  refine lp_rel0 (fun (i : Nat) (s : Int32 × (Nat → Int32) × (Nat → Int32) × (Nat → Int32)) => s.1 = nI (S.1.length - i) - 1 ∧ SM Lg Wg num S so (S.1.length - i) s.2.2.1 s.2.2.2) _ S.1.length ⟨rfl, fun j p h1 h2 h4 h5 => by omega⟩ (fun i s hi hr => ?_) (fun s hr => ?_) (by omega)
  · obtain ⟨x, T', mo', wi'⟩ := s
    obtain ⟨r1, r2⟩ := hr
    dsimp only at r1 r2
    obtain ⟨m, hm⟩ : ∃ m, S.1.length - i = m + 1 := ⟨S.1.length - i - 1, by omega⟩
    rw [hm] at r1 r2
    rw [nI_pred] at r1
    subst r1
    obtain ⟨i0, b1, b2, b3, b4⟩ := hS.2 m (by omega)
    have hx := hBI.2.1 _ (getD_mem b1)
    show ∃ s', fX2_settleFrom_L43 z (nI m) a1 a2 al g1 lb ls hn a3 g5 g2 g3 T' (nI n) (nI (lpN two)) bh (b01 oth) a4 a5 a6 g4 dp so mo' wi' a7 = _ ∧ _
    unfold fX2_settleFrom_L43
    have succ : ∀ j, j < n * n → c (S.1.getD i0 0) (j / n) (j % n) = true → SO2 Lg Wg num mo' wi' (mvd (S.1.getD i0 0) (j / n) (j % n)) := by
      intro j hj hc
      obtain ⟨q1, -⟩ := hL.2.2.2.2.1 _ (getD_mem b1) j hj hc
      have c2 := hup _ hx j hj hc
      obtain ⟨j0, e1, e2⟩ := mem_getD q1
      rw [← e2]
      obtain ⟨p, p1, p2⟩ := hS.1 j0 e1
      refine r2 j0 p e1 ?_ p1 p2
      rcases Nat.lt_or_ge m p with g | g
      · exact g
      · obtain ⟨i2, d1, d2, d3, d4⟩ := hS.2 p p1
        have ee : S.1.getD j0 0 = S.1.getD i2 0 := (nI_eq (x31 _ e1) (x31 _ d1)).mp (p2.symm.trans d2)
        have this : lv n bk (S.1.getD i2 0) ≤ lv n bk (S.1.getD i0 0) := SD_up (v := fun i => lv n bk (S.1.getD i 0)) (i := i2) (j := i0) g d4 d3 b4
        rw [← ee, e2] at this
        omega
    obtain ⟨T2, es⟩ := hset (S.1.getD i0 0) T' mo' wi' hx succ
    rw [if_neg (nI_pos (by omega)), agd_in (show m < 1680 by omega) (by decide), cl_nI (show m < 2 ^ 31 by omega), b2, es, Option.bind_some]
    refine ⟨_, rfl, ?_, ?_⟩
    · show nI m + (-1) = nI (S.1.length - (i + 1)) - 1
      rw [sub_one_add, show S.1.length - (i + 1) = m by omega]
    · rw [show S.1.length - (i + 1) = m by omega]
      intro j p j1 m1 p1 e1
      have hxj := hBI.2.1 _ (getD_mem j1)
      refine SO2_upd (fun q => hN.2.1 _ _ hxj hx q) (fun g => ?_)
      rcases Nat.eq_or_lt_of_le m1 with q | q
      · subst q
        exact absurd ((nI_eq (x31 _ j1) (x31 _ b1)).mp (e1.symm.trans b2)) g
      · exact r2 j p j1 q p1 e1
  · obtain ⟨x, T', mo', wi'⟩ := s
    obtain ⟨r1, r2⟩ := hr
    dsimp only at r1 r2
    rw [Nat.sub_self] at r1 r2
    subst r1
    show ∃ r, fX2_settleFrom_L43 z (nI 0 - 1) a1 a2 al g1 lb ls hn a3 g5 g2 g3 T' (nI n) (nI (lpN two)) bh (b01 oth) a4 a5 a6 g4 dp so mo' wi' a7 = _ ∧ _
    unfold fX2_settleFrom_L43
    rw [if_pos (by decide)]
    refine ⟨_, rfl, fun r hr => ?_⟩
    obtain ⟨j, j1, j2⟩ := mem_getD hr
    obtain ⟨p, p1, p2⟩ := hS.1 j j1
    rw [← j2]
    exact r2 j p j1 (Nat.zero_le _) p1 p2
set_option maxHeartbeats 400000 in
theorem settleFrom_nI (h : ED n bk) (hd : ∀ i, i < n → dp i = nI (dd n bk i)) (hp : PB n bk) (hb : BH n bk bh) (hn0 : 0 < n) (ho : o < 4 ^ n) (h3 : ct 3 o n = 0) (hz : 8000 < z) (hel : e ≤ l) (hl : l < 2 ^ 30) (hS : SE n bk two oth o e l lb ls hn al st re stk fa rw fs od sta sd mo wi) :
    ∃ st' re' stk' fa' rw' fs' od' T' sd' l' le' so' mo' wi', fX2_settleFrom z (nI o) sd sta al st lb ls hn re rw fs od T (nI n) (nI (lpN two)) bh (b01 oth) stk (nI l) (nI e) le dp so mo wi fa = some (st', re', stk', fa', rw', fs', od', T', nI o, sd', nI l', le', so', mo', wi', nI l') ∧
      ¬ sd' = 0 ∧ l' ≤ l + 1 ∧ SE n bk two oth o l' l' lb ls hn al st' re' stk' fa' rw' fs' od' (nI o) sd' mo' wi' := by
  obtain ⟨st', re', stk', fa', rw', fs', od', T', sd', l', k1, k2, k3, k4, k5⟩ := look_SE (z := z) (T := T) (bh := bh) hp hb hn0 ho hz hel hS
  unfold fX2_settleFrom
  rw [k1, Option.bind_some]
  dsimp only
  by_cases c : e = l'
  · subst c
    rw [if_pos rfl]
    exact ⟨st', re', stk', fa', rw', fs', od', T', sd', e, le, so, mo, wi, rfl, k2, k4, k5⟩
  · rw [if_neg (fun g => c ((nI_eq (by omega) (by omega)).mp g))]
    obtain ⟨num, A, g1, g2, g3, g4, g5, g6, g7⟩ := SE_get hp.1 ho k5 k2
    have hA := g5 h3
    have hG := VO_HG (two := two) (oth := oth) (bk := bk) (o := o) hp.1
    have hBI := bf_BI hG hn0 (VO_self ho)
    have hlen : (bf n (cg bk two oth) o).1.length ≤ 1680 := VO_len2 hp.1 h3 hBI.1 hBI.2.1
    have h16 : ∀ q, VO n o q → num q < 1680 := fun q hq => Nat.lt_of_lt_of_le (g4 q hq) hA
    have hre : re' = nI (bf n (cg bk two oth) o).1.length := g6.2.1
    subst hre
    obtain ⟨le', so', s1, s2⟩ := sort_nI (z := z) (le := le) (so := so) (od := od') (x := fun i => (bf n (cg bk two oth) o).1.getD i 0) h hd (fun p hp' => hG.1 _ (hBI.2.1 _ (getD_mem hp'))) (fun p hp' => g6.1.1 p hp') hlen hz
    rw [s1, Option.bind_some]
    dsimp only
    have emin : i_min (nI (bf n (cg bk two oth) o).1.length) 1680 = nI (bf n (cg bk two oth) o).1.length := by
      rw [show (1680 : Int32) = nI 1680 from rfl, i_min_nI (by omega) (by decide), Nat.min_eq_left hlen]
    rw [emin]
    have hset : ∀ x T mo wi, VO n o x → (∀ j, j < n * n → cg bk two oth x (j / n) (j % n) = true → SO2 (lng n (cg bk two oth)) (wv n (cg bk two oth)) num mo wi (mvd x (j / n) (j % n))) → ∃ T', fX2_settle z (nI x) T (nI n) (nI (lpN two)) bh (b01 oth) lb ls hn al mo wi = some (T', upd mo (num x) (nI (lng n (cg bk two oth) x)), upd wi (num x) (nI (wv n (cg bk two oth) x))) :=
      fun x T mo wi hx hE => ⟨_, settle_nI h hp hb hG g3 h16 hn0 hx (VO_3 h3 hx) hE (by omega)⟩
    have hL := bf_BL hG hn0 (VO_self ho)
    obtain ⟨r, t1, t2⟩ := settle_43 (z := z) (T := T') (mo := mo) (wi := wi) (dp := dp) (a1 := sd') (a2 := nI o) (a3 := nI (bf n (cg bk two oth) o).1.length) (a4 := stk') (a5 := nI l') (a6 := nI e) (a7 := fa') (g1 := st') (g2 := fs') (g3 := od') (g4 := le') (g5 := rw') hset (fun x hx j hj hc => (ct3_mvd h hj (VO_3 h3 hx) hc).2) hp.1 hBI hL g3 hz s2 hlen
    rw [t1, Option.bind_some]
    unfold fX2_settleFrom_J63
    obtain ⟨T2, mo2, wi2⟩ := r
    exact ⟨st', _, stk', fa', rw', fs', od', T2, sd', l', le', so', mo2, wi2, rfl, k2, k4, ⟨num, A, g1, g2, g3, g4, g5, fun _ => ⟨o, VO_self ho, rfl, g6, fun _ => t2⟩⟩⟩
set_option maxHeartbeats 400000 in
theorem target_nI (hp : PB n bk) (hG : HG n (cg bk two oth) (VO n o)) (hN : NB (VO n o) num lb ls hn al) (h16 : ∀ q, VO n o q → num q < 1680) (hn0 : 0 < n) {x w : Nat} (hw : w < 2) (hx : VO n o x)
    (hE : ∀ j, j < n * n → cg bk two oth x (j / n) (j % n) = true → wi (num (mvd x (j / n) (j % n))) = nI (wv n (cg bk two oth) (mvd x (j / n) (j % n)))) {f : Nat} (hf : f < n) (hz : 20 < z) (hk : kd x f = w + 1) (hJ : f * n ≤ wnJ n (cg bk two oth) (wn n (cg bk two oth)) x w) :
    fX2_winningTarget z (nI x) (nI f) (nI (w + 1)) (nI n) (tf T (mk bk two oth x n)) lb ls hn al wi = some (if wnJ n (cg bk two oth) (wn n (cg bk two oth)) x w < f * n + n then nI (wnJ n (cg bk two oth) (wn n (cg bk two oth)) x w % n) else -1) := by
  have h9 := hp.1
  have hx9 := hG.1 _ hx
  have hfn := fn_le hf
  have hm := mk_lt (two := two) (oth := oth) (o := x) hp n (Nat.le_refl _) f
  have step : ∀ t, t < n → fX2_winningTarget_L3 z (nI x) (nI f) (nI (w + 1)) (nI t) (nI n) (tf T (mk bk two oth x n)) lb ls hn al wi = some (if wnp n (cg bk two oth) (wn n (cg bk two oth)) x w (f * n + t) then .inr (.inr (nI t)) else .inl (nI (t + 1))) := by
    intro t ht
    obtain ⟨d1, d2⟩ := dm (f := f) ht
    unfold wnp
    rw [d1, d2, hk, beq_self_eq_true, Bool.true_and]
    unfold fX2_winningTarget_L3
    rw [if_neg (nI_ge ht (by omega)), has_nI (by omega) (by omega) hm, mk_cg hp hx9 hf ht, Option.bind_some, nI_1]
    cases hc : cg bk two oth x f t with
    | false => rw [if_pos (show b01 false = 0 from rfl)]; rfl
    | true =>
      have vq := (hG.2.1 _ _ _ hx hf ht hc).1
      have hq := hE (f * n + t) (by omega) (by rw [d1, d2]; exact hc)
      rw [d1, d2] at hq
      rw [if_neg (show ¬ b01 true = 0 by decide), afterMove_nI hx9 (by omega) (by omega), other_nI hw, wins_nI hN vq (h16 _ vq) (show 1 - w < 2 by omega) hq, Option.bind_some, Bool.true_and]
      cases wn n (cg bk two oth) (mvd x f t) (1 - w) with
      | true => rw [if_neg (show ¬ b01 true = 0 by decide)]; rfl
      | false => rw [if_pos (show b01 false = 0 from rfl)]; rfl
  have hno : ∀ k, k < wnJ n (cg bk two oth) (wn n (cg bk two oth)) x w → wnp n (cg bk two oth) (wn n (cg bk two oth)) x w k = false := fun k hk => fa_first_no _ _ k hk
  unfold fX2_winningTarget
  by_cases c : wnJ n (cg bk two oth) (wn n (cg bk two oth)) x w < f * n + n
  · rw [if_pos c]
    have hyes : wnp n (cg bk two oth) (wn n (cg bk two oth)) x w (wnJ n (cg bk two oth) (wn n (cg bk two oth)) x w) = true := fa_first_yes _ _ (by show wnJ n (cg bk two oth) (wn n (cg bk two oth)) x w < n * n; omega)
    generalize wnJ n (cg bk two oth) (wn n (cg bk two oth)) x w = J at *
    obtain ⟨t, ht⟩ : ∃ t, J = f * n + t := ⟨J - f * n, by omega⟩
    subst ht
    have htn : t < n := by omega
    rw [(dm (f := f) htn).2]
    rw [lp_0 (s0 := 0) (N := t) (e := .inr (nI t)) (fun t => nI t) rfl (fun t' ht' => by rw [step t' (by omega), hno _ (by omega)]; rfl) (by rw [step t htn, hyes]; rfl) (by omega)]
    rfl
  · rw [if_neg c]
    rw [lp_0 (s0 := 0) (N := n) (e := .inl ()) (fun t => nI t) rfl (fun t' ht' => by rw [step t' (by omega), hno _ (by omega)]; rfl) (by unfold fX2_winningTarget_L3; rw [if_pos (nI_le (Nat.le_refl _) (by omega))]) (by omega)]
    rfl
/-- a player's first winning move -/
def wmV (n : Nat) (c : Nat → Nat → Nat → Bool) (o w : Nat) : Int32 := if wnJ n c (wn n c) o w < n * n then nI (mvk n (wnJ n c (wn n c) o w)) else -1
set_option maxHeartbeats 400000 in
theorem winMove_nI (hp : PB n bk) (hb : BH n bk bh) (hG : HG n (cg bk two oth) (VO n o)) (hN : NB (VO n o) num lb ls hn al) (h16 : ∀ q, VO n o q → num q < 1680) (hn0 : 0 < n) {x w : Nat} (hw : w < 2) (hx : VO n o x)
    (hE : ∀ j, j < n * n → cg bk two oth x (j / n) (j % n) = true → wi (num (mvd x (j / n) (j % n))) = nI (wv n (cg bk two oth) (mvd x (j / n) (j % n)))) (hz : 20 < z) :
    fX2_winningMove z (nI x) (nI (w + 1)) T (nI n) (nI (lpN two)) bh (b01 oth) lb ls hn al wi = some (wmV n (cg bk two oth) x w, tf T (mk bk two oth x n)) := by
  have h9 := hp.1
  have h81 := nn_81 h9
  have hx9 := hG.1 _ hx
  have hx31 : x < 2 ^ 31 := Nat.lt_of_lt_of_le hx9 (by decide)
  have hJle : wnJ n (cg bk two oth) (wn n (cg bk two oth)) x w ≤ n * n := fa_first_le _ _
  have hyes : wnJ n (cg bk two oth) (wn n (cg bk two oth)) x w < n * n → wnp n (cg bk two oth) (wn n (cg bk two oth)) x w (wnJ n (cg bk two oth) (wn n (cg bk two oth)) x w) = true := fun g => fa_first_yes _ _ g
  have hno : ∀ k, k < wnJ n (cg bk two oth) (wn n (cg bk two oth)) x w → wnp n (cg bk two oth) (wn n (cg bk two oth)) x w k = false := fun k hk => fa_first_no _ _ k hk
  unfold fX2_winningMove
  rw [find_nI hp hb hx9 (by omega), Option.bind_some]
  have step : ∀ f, f < n → f * n ≤ wnJ n (cg bk two oth) (wn n (cg bk two oth)) x w → fX2_winningMove_L10 z (nI x) (nI (w + 1)) (nI f) (tf T (mk bk two oth x n)) (nI n) (nI (lpN two)) bh (b01 oth) lb ls hn al wi = some (if wnJ n (cg bk two oth) (wn n (cg bk two oth)) x w < f * n + n then .inr (.inr (nI (16 * f + wnJ n (cg bk two oth) (wn n (cg bk two oth)) x w % n), tf T (mk bk two oth x n))) else .inl (nI (f + 1))) := by
    intro f hf hle
    have hkf := kd_lt x f
    have hm := Nat.mod_lt (wnJ n (cg bk two oth) (wn n (cg bk two oth)) x w) hn0
    unfold fX2_winningMove_L10
    rw [if_neg (nI_ge hf (by omega)), kindAt_nI hx31 (by omega), nI_1]
    by_cases ek : kd x f = w + 1
    · rw [if_pos (by rw [ek]), target_nI hp hG hN h16 hn0 hw hx hE hf hz ek hle, Option.bind_some]
      by_cases c : wnJ n (cg bk two oth) (wn n (cg bk two oth)) x w < f * n + n
      · rw [if_pos c, if_pos c, if_neg (nI_ne_m1 (by omega)), show (16 : Int32) * nI f = nI (16 * f) from pk_mul 16 f, nI_add]
      · rw [if_neg c, if_neg c, if_pos rfl]
    · rw [if_neg (fun g => ek ((nI_eq (by omega) (by omega)).mp g)), if_neg (fun c => ?_)]
      have := hyes (by have := fn_le hf; omega)
      unfold wnp at this
      have hd : wnJ n (cg bk two oth) (wn n (cg bk two oth)) x w / n = f := by
        obtain ⟨t, ht⟩ : ∃ t, wnJ n (cg bk two oth) (wn n (cg bk two oth)) x w = f * n + t := ⟨wnJ n (cg bk two oth) (wn n (cg bk two oth)) x w - f * n, by omega⟩
        rw [ht]
        exact (dm (f := f) (show t < n by omega)).1
      rw [hd, beq_eq_false_iff_ne.mpr ek] at this
      simp at this
  unfold wmV
  by_cases c : wnJ n (cg bk two oth) (wn n (cg bk two oth)) x w < n * n
  · rw [if_pos c]
    have q1 : wnJ n (cg bk two oth) (wn n (cg bk two oth)) x w / n < n := Nat.div_lt_of_lt_mul c
    have q2 := Nat.div_add_mod (wnJ n (cg bk two oth) (wn n (cg bk two oth)) x w) n
    have q3 := Nat.mod_lt (wnJ n (cg bk two oth) (wn n (cg bk two oth)) x w) hn0
    rw [Nat.mul_comm] at q2
    unfold mvk
    generalize wnJ n (cg bk two oth) (wn n (cg bk two oth)) x w = J at *
    rw [lp_0 (s0 := 0) (N := J / n) (e := .inr (nI (16 * (J / n) + J % n), tf T (mk bk two oth x n))) (fun f => nI f) rfl (fun f hf => by
        have : (f + 1) * n ≤ J / n * n := Nat.mul_le_mul_right _ (by omega)
        rw [Nat.add_mul, Nat.one_mul] at this
        rw [step f (by omega) (by omega), if_neg (by omega)]) (by rw [step _ q1 (by omega), if_pos (by omega)]) (by omega)]
    rfl
  · rw [if_neg c]
    have hJe : wnJ n (cg bk two oth) (wn n (cg bk two oth)) x w = n * n := by omega
    rw [lp_0 (s0 := 0) (N := n) (e := .inl ()) (fun f => nI f) rfl (fun f hf => by
        have := fn_le hf
        rw [step f hf (by omega), if_neg (by omega)]) (by unfold fX2_winningMove_L10; rw [if_pos (nI_le (Nat.le_refl _) (by omega))]) (by omega)]
    rfl
end SF
