/-! ===== digest: its pieces ===== -/
theorem lp_two {f : Int64 × Int32 → Option ((Int64 × Int32) ⊕ Int64)} {g : Int32 × Int64 → Option ((Int32 × Int64) ⊕ Int64)} {N : Nat} (h : ∀ i hh, i < N → ∃ h', f (hh, nI i) = some (.inl (h', nI (i + 1))) ∧ g (nI i, hh) = some (.inl (nI (i + 1), h'))) (hx : ∀ hh, f (hh, nI N) = some (.inr hh) ∧ g (nI N, hh) = some (.inr hh)) : ∀ z k hh, k ≤ N → N < k + z → ∃ h', lp f z (hh, nI k) = some h' ∧ lp g z (nI k, hh) = some h'
  | 0, k, hh, hk, hz => by omega
  | z + 1, k, hh, hk, hz => by
    rcases Nat.lt_or_eq_of_le hk with c | c
    · obtain ⟨h', a, b⟩ := h k hh c
      rw [lp_in a, lp_in b]
      exact lp_two h hx z (k + 1) h' (by omega) (by omega)
    · rw [c]
      obtain ⟨a, b⟩ := hx hh
      exact ⟨hh, lp_out a, lp_out b⟩
theorem lp_two0 {f : Int64 × Int32 → Option ((Int64 × Int32) ⊕ Int64)} {g : Int32 × Int64 → Option ((Int32 × Int64) ⊕ Int64)} (N : Nat) (h : ∀ i hh, i < N → ∃ h', f (hh, nI i) = some (.inl (h', nI (i + 1))) ∧ g (nI i, hh) = some (.inl (nI (i + 1), h'))) (hx : ∀ hh, f (hh, nI N) = some (.inr hh) ∧ g (nI N, hh) = some (.inr hh)) {z : Nat} (hz : N < z) (hh : Int64) : ∃ h', lp f z (hh, 0) = some h' ∧ lp g z (0, hh) = some h' := lp_two h hx z 0 hh (Nat.zero_le _) (by omega)
theorem say_mv : ∀ f t : Fin 9, (16 * nI f.val).toInt64 + (nI t.val).toInt64 = (nI (16 * f.val + t.val)).toInt64 := by decide +kernel
/-- the hash behind the first k moves -/
def mh (n : Nat) (c : Nat → Nat → Nat → Bool) (o : Nat) (h : Int64) : Nat → Int64
  | 0 => h
  | k + 1 => if c o (k / n) (k % n) then 31 * mh n c o h k + (nI (mvk n k)).toInt64 else mh n c o h k
/-- the hash behind the first j answers of reach -/
def rh (n : Nat) (c : Nat → Nat → Nat → Bool) (o : Nat) (h : Int64) : Nat → Int64
  | 0 => h
  | j + 1 => 31 * rh n c o h j + (rcV n c o j).toInt64
section DG
variable {n : Nat} {bk : Nat → Nat} {bh par : Nat → Int32} {oth two : Bool} {o e l z rm s : Nat} {ls hn T st fs od mo wi pl row far mr px pm : Nat → Int32} {rw wy : Nat → Int64} {lb al re stk fa sta sd sort xl ha xa ma io it lo rI rd md : Int32}
set_option maxHeartbeats 400000 in
theorem dig_stones (hp : PB n bk) (hb : BH n bk bh) (hB : BO n bk sort par) (hA : AM n o ha xa ma) (ho : o < 4 ^ n) (hz : 20 < z) (h0 : Int64) {sI io' : Int32} :
    ∃ h', lp (fun sg => fX9_digest_L6 z sg.1 sg.2 (nI n) ha xa bh (nI o) T xl io sd sta al st lb ls hn re rw fs od stk lo fa sI px rd md) z (h0, 0) = some h' ∧ lp (fun sg => fX10_digest_L9 z sg.1 (nI n) ma sort par (nI o) sg.2 it io' rI row pl far wy mr sI pm rd md) z (0, h0) = some h' := by
  have h9 := hp.1
  refine lp_two0 n (fun i hh hi => ?_) (fun hh => ?_) (by omega) h0
  · have inner : ∃ h', lp (fun sg => fX9_digest_L20 z sg.1 (nI i) sg.2 (nI n) ha xa bh (nI o) T xl io sd sta al st lb ls hn re rw fs od stk lo fa sI px rd md) z (hh, 0) = some h' ∧ lp (fun sg => fX10_digest_L19 z (nI i) sg.1 (nI n) ma sort par (nI o) sg.2 it io' rI row pl far wy mr sI pm rd md) z (0, hh) = some h' := by
      refine lp_two0 3 (fun w hh hw => ?_) (fun hh => ?_) (by omega) hh
      · show ∃ h', fX9_digest_L20 z hh (nI i) (nI w) (nI n) ha xa bh (nI o) T xl io sd sta al st lb ls hn re rw fs od stk lo fa sI px rd md = _ ∧ fX10_digest_L19 z (nI i) (nI w) (nI n) ma sort par (nI o) hh it io' rI row pl far wy mr sI pm rd md = _
        obtain ⟨r, a1, a2⟩ := tell_pair (z := z) hp hb hB hA ho hi (nI w)
        unfold fX9_digest_L20 fX10_digest_L19
        rw [if_neg (show ¬ (2 : Int32) < nI w from nI_nlt (a := 2) (b := w) (by omega) (by decide)), if_neg (show ¬ (3 : Int32) ≤ nI w from nI_ge (a := w) (b := 3) hw (by decide)), a1, a2, Option.bind_some, Option.bind_some, nI_1]
        exact ⟨_, rfl, rfl⟩
      · show fX9_digest_L20 z hh (nI i) (nI 3) (nI n) ha xa bh (nI o) T xl io sd sta al st lb ls hn re rw fs od stk lo fa sI px rd md = _ ∧ fX10_digest_L19 z (nI i) (nI 3) (nI n) ma sort par (nI o) hh it io' rI row pl far wy mr sI pm rd md = _
        unfold fX9_digest_L20 fX10_digest_L19
        rw [if_pos (show (2 : Int32) < nI 3 by decide), if_pos (show (3 : Int32) ≤ nI 3 by decide)]
        exact ⟨rfl, rfl⟩
    obtain ⟨h', a1, a2⟩ := inner
    show ∃ h', fX9_digest_L6 z hh (nI i) (nI n) ha xa bh (nI o) T xl io sd sta al st lb ls hn re rw fs od stk lo fa sI px rd md = _ ∧ fX10_digest_L9 z (nI i) (nI n) ma sort par (nI o) hh it io' rI row pl far wy mr sI pm rd md = _
    unfold fX9_digest_L6 fX10_digest_L9
    rw [if_neg (nI_ge hi (by omega)), if_neg (nI_ge hi (by omega)), a1, a2, Option.bind_some, Option.bind_some]
    unfold fX9_digest_J47 fX10_digest_J41
    rw [nI_1]
    exact ⟨h', rfl, rfl⟩
  · show fX9_digest_L6 z hh (nI n) (nI n) ha xa bh (nI o) T xl io sd sta al st lb ls hn re rw fs od stk lo fa sI px rd md = _ ∧ fX10_digest_L9 z (nI n) (nI n) ma sort par (nI o) hh it io' rI row pl far wy mr sI pm rd md = _
    unfold fX9_digest_L6 fX10_digest_L9
    rw [if_pos (nI_le (Nat.le_refl _) (by omega)), if_pos (nI_le (Nat.le_refl _) (by omega))]
    exact ⟨rfl, rfl⟩
set_option maxHeartbeats 400000 in
theorem dig_tail (hP : PG s px pm) (hn9 : n ≤ 9) (ho : o < 4 ^ n) (hz : 40 < z) (h0 : Int64) {io' : Int32} :
    ∃ h', (lp (fun sg => fX9_digest_L136 z sg.1 sg.2 (nI n) ha xa bh (nI o) T xl io sd sta al st lb ls hn re rw fs od stk lo fa (nI s) px rd md) z (h0, 0)).bind (fun ex => fX9_digest_J169 z ex (nI n) ha xa bh (nI o) T xl io sd sta al st lb ls hn re rw fs od stk lo fa (nI s) px rd md) = some (h', T, st, re, stk, fa, rw, fs, od, sta, sd, lo) ∧
      (lp (fun sg => fX10_digest_L60 z sg.1 (nI n) ma sort par (nI o) sg.2 it io' rI row pl far wy mr (nI s) pm rd md) z (0, h0)).bind (fun ex => fX10_digest_J85 z (nI n) ma sort par (nI o) ex it io' rI row pl far wy mr (nI s) pm rd md) = some (h', h', pl, rI, row, far, wy, mr) := by
  have hs := hP.1
  have one : ∃ h', lp (fun sg => fX9_digest_L136 z sg.1 sg.2 (nI n) ha xa bh (nI o) T xl io sd sta al st lb ls hn re rw fs od stk lo fa (nI s) px rd md) z (h0, 0) = some h' ∧ lp (fun sg => fX10_digest_L60 z sg.1 (nI n) ma sort par (nI o) sg.2 it io' rI row pl far wy mr (nI s) pm rd md) z (0, h0) = some h' := by
    refine lp_two0 s (fun i hh hi => ?_) (fun hh => ?_) (by omega) h0
    · show ∃ h', fX9_digest_L136 z hh (nI i) (nI n) ha xa bh (nI o) T xl io sd sta al st lb ls hn re rw fs od stk lo fa (nI s) px rd md = _ ∧ fX10_digest_L60 z (nI i) (nI n) ma sort par (nI o) hh it io' rI row pl far wy mr (nI s) pm rd md = _
      obtain ⟨c1, c2, -, -⟩ := hP.ch hi
      unfold fX9_digest_L136 fX10_digest_L60
      rw [if_neg (nI_ge hi (by omega)), if_neg (nI_ge hi (by omega)), letterAt_nI hP (by omega), Option.bind_some, agd_in (show i < 24 by omega) (by decide), cl_nI (by omega), c2, nI_1]
      exact ⟨_, rfl, rfl⟩
    · show fX9_digest_L136 z hh (nI s) (nI n) ha xa bh (nI o) T xl io sd sta al st lb ls hn re rw fs od stk lo fa (nI s) px rd md = _ ∧ fX10_digest_L60 z (nI s) (nI n) ma sort par (nI o) hh it io' rI row pl far wy mr (nI s) pm rd md = _
      unfold fX9_digest_L136 fX10_digest_L60
      rw [if_pos (nI_le (Nat.le_refl _) (by omega)), if_pos (nI_le (Nat.le_refl _) (by omega))]
      exact ⟨rfl, rfl⟩
  obtain ⟨h1, a1, a2⟩ := one
  rw [a1, a2, Option.bind_some, Option.bind_some]
  unfold fX9_digest_J169 fX10_digest_J85
  have two : ∃ h', lp (fun sg => fX9_digest_L171 z sg.1 sg.2 (nI n) ha xa bh (nI o) T xl io sd sta al st lb ls hn re rw fs od stk lo fa (nI s) px rd md) z (h1, 0) = some h' ∧ lp (fun sg => fX10_digest_L87 z sg.1 (nI n) ma sort par (nI o) sg.2 it io' rI row pl far wy mr (nI s) pm rd md) z (0, h1) = some h' := by
    refine lp_two0 8 (fun i hh hi => ?_) (fun hh => ?_) (by omega) h1
    · show ∃ h', fX9_digest_L171 z hh (nI i) (nI n) ha xa bh (nI o) T xl io sd sta al st lb ls hn re rw fs od stk lo fa (nI s) px rd md = _ ∧ fX10_digest_L87 z (nI i) (nI n) ma sort par (nI o) hh it io' rI row pl far wy mr (nI s) pm rd md = _
      obtain ⟨r, c1, c2⟩ := count_pair (z := z) hn9 ho (by omega) (nI i) rd (nI s) md
      unfold fX10_count at c2
      obtain ⟨q, q1, q2⟩ := ob_some c2
      have q3 := Option.some.inj q2
      subst q3
      unfold fX9_digest_L171 fX10_digest_L87
      rw [if_neg (show ¬ (8 : Int32) ≤ nI i from nI_ge (a := i) (b := 8) hi (by decide)), if_neg (show ¬ (8 : Int32) ≤ nI i from nI_ge (a := i) (b := 8) hi (by decide)), c1, q1, Option.bind_some, Option.bind_some, nI_1]
      exact ⟨_, rfl, rfl⟩
    · show fX9_digest_L171 z hh (nI 8) (nI n) ha xa bh (nI o) T xl io sd sta al st lb ls hn re rw fs od stk lo fa (nI s) px rd md = _ ∧ fX10_digest_L87 z (nI 8) (nI n) ma sort par (nI o) hh it io' rI row pl far wy mr (nI s) pm rd md = _
      unfold fX9_digest_L171 fX10_digest_L87
      rw [if_pos (show (8 : Int32) ≤ nI 8 by decide), if_pos (show (8 : Int32) ≤ nI 8 by decide)]
      exact ⟨rfl, rfl⟩
  obtain ⟨h2, b1, b2⟩ := two
  rw [b1, b2, Option.bind_some, Option.bind_some]
  unfold fX9_digest_J196 fX10_digest_J109
  exact ⟨h2, rfl, rfl⟩
theorem wm_st (hp : PB n bk) (hx9 : o < 4 ^ 9) {f t k : Nat} (hf : f < n) (ht : t < n) (d1 : k / n = f) (d2 : k % n = t) {h0 : Int64} :
    fX9_withMoves_L34 z (mh n (cg bk two oth) o h0 k) (nI f) (nI t) (nI o) (tf T (mk bk two oth o n)) (nI n) xl bh io = some (.inl (mh n (cg bk two oth) o h0 (k + 1), nI (t + 1))) := by
  have h9 := hp.1
  have hm := mk_lt (two := two) (oth := oth) (o := o) hp n (Nat.le_refl _) f
  have es := say_mv ⟨f, by omega⟩ ⟨t, by omega⟩
  dsimp only at es
  unfold fX9_withMoves_L34
  rw [if_neg (nI_ge ht (by omega)), has_nI (by omega) (by omega) hm, mk_cg hp hx9 hf ht, Option.bind_some, nI_1]
  rw [mh, d1, d2]
  unfold mvk
  rw [d1, d2]
  cases cg bk two oth o f t with
  | false => rw [if_pos (show b01 false = 0 from rfl), if_neg (by decide)]
  | true => rw [if_neg (show ¬ b01 true = 0 by decide), if_pos rfl, Int64.add_assoc, es]
theorem withMoves_nI (hp : PB n bk) (hb : BH n bk bh) (ho : o < 4 ^ n) (hz : 20 < z) (h0 : Int64) : fX9_withMoves z h0 (nI o) T (nI n) (nI (lpN two)) bh (b01 oth) = some (mh n (cg bk two oth) o h0 (n * n), tf T (mk bk two oth o n)) := by
  have h9 := hp.1
  have hx9 := o9 h9 ho
  have inner : ∀ f, f < n → lp (fun sg => fX9_withMoves_L34 z sg.1 (nI f) sg.2 (nI o) (tf T (mk bk two oth o n)) (nI n) (nI (lpN two)) bh (b01 oth)) z (mh n (cg bk two oth) o h0 (f * n), 0) = some (mh n (cg bk two oth) o h0 (f * n + n)) := by
    intro f hf
    refine lp_0 (fun t => (mh n (cg bk two oth) o h0 (f * n + t), nI t)) (N := n) (by rw [Nat.add_zero]; rfl) (fun t ht => ?_) ?_ (by omega)
    · obtain ⟨d1, d2⟩ := dm (f := f) ht
      rw [← Nat.add_assoc]
      exact wm_st hp hx9 hf ht d1 d2
    · generalize mh n (cg bk two oth) o h0 (f * n + n) = p1
      show fX9_withMoves_L34 z p1 (nI f) (nI n) (nI o) (tf T (mk bk two oth o n)) (nI n) (nI (lpN two)) bh (b01 oth) = _
      unfold fX9_withMoves_L34
      rw [if_pos (nI_le (Nat.le_refl _) (by omega))]
  have outer : lp (fun sg => fX9_withMoves_L19 z sg.1 sg.2 (nI o) (tf T (mk bk two oth o n)) (nI n) (nI (lpN two)) bh (b01 oth)) z (h0, 0) = some (mh n (cg bk two oth) o h0 (n * n)) := by
    refine lp_0 (fun f => (mh n (cg bk two oth) o h0 (f * n), nI f)) (N := n) (by rw [Nat.zero_mul]; rfl) (fun f hf => ?_) ?_ (by omega)
    · rw [Nat.add_mul, Nat.one_mul]
      have hi := inner f hf
      generalize mh n (cg bk two oth) o h0 (f * n) = p0 at hi ⊢
      generalize mh n (cg bk two oth) o h0 (f * n + n) = p1 at hi ⊢
      show fX9_withMoves_L19 z p0 (nI f) (nI o) (tf T (mk bk two oth o n)) (nI n) (nI (lpN two)) bh (b01 oth) = _
      unfold fX9_withMoves_L19
      rw [if_neg (nI_ge hf (by omega)), hi, Option.bind_some]
      unfold fX9_withMoves_J83
      rw [nI_1]
    · generalize mh n (cg bk two oth) o h0 (n * n) = p0
      show fX9_withMoves_L19 z p0 (nI n) (nI o) (tf T (mk bk two oth o n)) (nI n) (nI (lpN two)) bh (b01 oth) = _
      unfold fX9_withMoves_L19
      rw [if_pos (nI_le (Nat.le_refl _) (by omega))]
  unfold fX9_withMoves
  rw [find_nI hp hb hx9 (by omega), Option.bind_some, outer, Option.bind_some]
  rfl
theorem sayMoves_nI (hp : PB n bk) (hB : BO n bk sort par) (hn0 : 0 < n) (ho : o < 4 ^ n) (hz : 90 < z) (h0 : Int64) : lp (fun sg => fX10_sayOrders_L2 z sg.1 (nI n) (nI o) (b01 two) sort par (b01 oth) sg.2 rI row pl far wy mr ma) z (0, h0) = some (mh n (cg bk two oth) o h0 (n * n)) := by
  have h9 := hp.1
  have hx9 := o9 h9 ho
  have hnn := nn_81 h9
  refine lp_0 (fun k => (nI k, mh n (cg bk two oth) o h0 k)) (N := n * n) rfl (fun k hk => ?_) ?_ (by omega)
  · have hdv : k / n < n := Nat.div_lt_of_lt_mul hk
    have hmd : k % n < n := Nat.mod_lt _ hn0
    rw [mh]
    generalize mh n (cg bk two oth) o h0 k = p0
    show fX10_sayOrders_L2 z (nI k) (nI n) (nI o) (b01 two) sort par (b01 oth) p0 rI row pl far wy mr ma = _
    unfold fX10_sayOrders_L2
    rw [pk_mul, if_neg (nI_ge hk (by omega)), dgd_ne (nI_ne0 hn0 (by omega)), dgd_ne (nI_ne0 hn0 (by omega)), pk_div (by omega) hn0 (by omega), rem_nI (by omega) hn0 (by omega), canGo_nI hp hB hx9 hdv hmd (by omega), Option.bind_some, nI_1]
    cases cg bk two oth o (k / n) (k % n) with
    | false => rw [if_pos (show b01 false = 0 from rfl), if_neg (by decide)]
    | true =>
      rw [if_neg (show ¬ b01 true = 0 by decide), if_pos rfl, dgd_ne (nI_ne0 hn0 (by omega)), dgd_ne (nI_ne0 hn0 (by omega)), show (16 : Int32) * nI (k / n) = nI (16 * (k / n)) from pk_mul 16 (k / n), nI_add]
      rfl
  · generalize mh n (cg bk two oth) o h0 (n * n) = p0
    show fX10_sayOrders_L2 z (nI (n * n)) (nI n) (nI o) (b01 two) sort par (b01 oth) p0 rI row pl far wy mr ma = _
    unfold fX10_sayOrders_L2
    rw [pk_mul, if_pos (nI_le (Nat.le_refl _) (by omega))]
theorem reachX_nI (hp : PB n bk) (hb : BH n bk bh) (hn0 : 0 < n) (ho : o < 4 ^ n) (hz : 8000 < z) (hel : e ≤ l) {j : Nat} (hj : j ≤ 2) (hS : SE n bk two oth o e l lb ls hn al st re stk fa rw fs od sta sd mo wi) :
    ∃ st' re' stk' fa' rw' fs' od' T' sta' sd' l', fX9_reach z (nI j) (nI n) (nI o) sd sta al st lb ls hn re rw fs od T (nI (lpN two)) bh (b01 oth) stk (nI l) fa = some (rcV n (cg bk two oth) o j, st', re', stk', fa', rw', fs', od', T', sta', sd', nI l') ∧
      e ≤ l' ∧ l' ≤ l + 1 ∧ SE n bk two oth o e l' lb ls hn al st' re' stk' fa' rw' fs' od' sta' sd' mo wi := by
  have hn9 := hp.1
  obtain ⟨st', re', stk', fa', rw', fs', od', T', sd', l', k1, k2, k3, k4, k5⟩ := look_SE (z := z) (T := T) (bh := bh) hp hb hn0 ho hz hel hS
  obtain ⟨num, A, g1, g2, g3, g4, g5, g6, g7⟩ := SE_get hp.1 ho k5 k2
  unfold fX9_reach fX9_noStones
  rw [if_neg (nI_ne0 (by omega) (by omega)), if_pos rfl, if_neg (nI_pos (by omega)), if_pos (show nI j ≤ 2 from nI_le (b := 2) hj (by decide)), k1, Option.bind_some]
  dsimp only
  obtain ⟨-, v1, v2, v3⟩ := g6
  refine ⟨st', re', stk', fa', rw', fs', od', T', nI o, sd', l', ?_, k3, k4, k5⟩
  unfold rcV
  by_cases c0 : j = 0
  · rw [if_pos (show nI j = 0 by rw [c0]; rfl), if_pos c0, v1]
  · rw [if_neg (nI_ne0 (by omega) (by omega)), if_neg c0]
    by_cases c1 : j = 1
    · rw [if_pos (show nI j = 1 by rw [c1]; rfl), if_pos c1, v3]
    · rw [if_neg (show ¬ nI j = 1 from nlit (k := 1) (by omega) (by decide) c1), if_neg c1, v2]
end DG
