/-! ===== one step of a loop ===== -/
theorem lp_in {α β : Type} {f : α → Option (α ⊕ β)} {z : Nat} {s s' : α} (h : f s = some (.inl s')) : lp f (z + 1) s = lp f z s' := by
  show (f s).bind (fun o => o.elim (lp f z) some) = _
  rw [h]
  rfl
theorem lp_out {α β : Type} {f : α → Option (α ⊕ β)} {z : Nat} {s : α} {e : β} (h : f s = some (.inr e)) : lp f (z + 1) s = some e := by
  show (f s).bind (fun o => o.elim (lp f z) some) = _
  rw [h]
  rfl
/-! ===== BACK: 99 is nobody's place ===== -/
def bI (b : Nat) : Int32 := if b = 99 then -1 else nI b
theorem bI_ne {b : Nat} (h : b ≠ 99) : bI b = nI b := if_neg h
theorem bI_99 : bI 99 = -1 := rfl
theorem nI_ne_m1 {b : Nat} (h : b < 2 ^ 31) : ¬ nI b = -1 := by
  intro e
  have h1 := nI_toInt h
  rw [e] at h1
  have h2 : (-1 : Int32).toInt = -1 := by decide
  omega
theorem bI_m1 {b : Nat} (h : b < 2 ^ 31) : bI b = -1 ↔ b = 99 := by
  by_cases c : b = 99
  · subst c; exact ⟨fun _ => rfl, fun _ => rfl⟩
  · rw [bI_ne c]; exact ⟨fun e => absurd e (nI_ne_m1 h), fun e => absurd e c⟩
theorem bI_eq {b t : Nat} (hb : b < 2 ^ 31) (ht : t < 99) : bI b = nI t ↔ b = t := by
  by_cases c : b = 99
  · subst c
    rw [bI_99]
    exact ⟨fun e => absurd e.symm (nI_ne_m1 (by omega)), fun e => by omega⟩
  · rw [bI_ne c, nI_eq hb (by omega)]
def bkn (bk : Nat → Nat) : Nat → Nat → Nat
  | 0, i => i
  | k + 1, i => bk (bkn bk k i)
/-- how STONES lie: n of them, BACK of each -/
def PB (n : Nat) (bk : Nat → Nat) : Prop := n ≤ 9 ∧ bk 99 = 99 ∧ ∀ i, i < n → bk i < n ∨ bk i = 99
theorem PB.kn {n : Nat} {bk : Nat → Nat} (h : PB n bk) {i : Nat} (hi : i < n ∨ i = 99) : ∀ k, bkn bk k i < n ∨ bkn bk k i = 99
  | 0 => hi
  | k + 1 => by
    rcases h.kn hi k with q | q
    · exact h.2.2 _ q
    · exact Or.inr (by show bk (bkn bk k i) = 99; rw [q]; exact h.2.1)
theorem PB.big {n : Nat} {bk : Nat → Nat} (h : PB n bk) {i : Nat} (hi : i < n ∨ i = 99) : i < 2 ^ 31 := by
  have := h.1
  rcases hi with q | q <;> omega
theorem PB.k99 {n : Nat} {bk : Nat → Nat} (h : PB n bk) {i k : Nat} (hk : bkn bk k i = 99) : ∀ j, bkn bk (k + j) i = 99
  | 0 => hk
  | j + 1 => by
    show bk (bkn bk (k + j) i) = 99
    rw [h.k99 hk j]
    exact h.2.1
/-- what the reference tells of BACK -/
def BO (n : Nat) (bk : Nat → Nat) (sort : Int32) (par : Nat → Int32) : Prop := ∀ z i, i < n → fX10_backOf z (nI i) sort par (nI n) = some (bI (bk i))
theorem isBack_lp {n : Nat} {bk : Nat → Nat} {sort : Int32} {par : Nat → Int32} (hp : PB n bk) (hb : BO n bk sort par) {low s : Nat} {hi : Int32} (hl : low < n) (hs : s < 2 ^ 31) : ∀ (d k z w : Nat), k + d = s → d < z →
    lp (fun sg => fX10_isBack_L6 w hi (nI s) sg.1 sg.2 sort par (nI n)) z (bI (bkn bk k low), nI k) = some (bI (bkn bk s low))
  | d, k, 0, w, _, hz => by omega
  | 0, k, z + 1, w, hk, hz => by
    refine lp_out ?_
    show fX10_isBack_L6 w hi (nI s) (bI (bkn bk k low)) (nI k) sort par (nI n) = _
    unfold fX10_isBack_L6
    rw [if_pos (nI_le (by omega) (by omega)), show k = s by omega]
  | d + 1, k, z + 1, w, hk, hz => by
    have hv := hp.kn (Or.inl hl) k
    rcases hv with q | q
    · have hne : bkn bk k low ≠ 99 := by have := hp.1; omega
      have e : (fun sg => fX10_isBack_L6 w hi (nI s) sg.1 sg.2 sort par (nI n)) (bI (bkn bk k low), nI k) = some (.inl (bI (bkn bk (k + 1) low), nI (k + 1))) := by
        show fX10_isBack_L6 w hi (nI s) (bI (bkn bk k low)) (nI k) sort par (nI n) = _
        unfold fX10_isBack_L6
        rw [if_neg (nI_ge (by omega) hs), if_neg (fun e => hne ((bI_m1 (hp.big (Or.inl q))).mp e)), bI_ne hne, hb _ _ q]
        show some _ = some _
        rw [nI_1]
        rfl
      rw [lp_in e]
      exact isBack_lp hp hb hl hs d (k + 1) z w (by omega) (by omega)
    · refine lp_out ?_
      show fX10_isBack_L6 w hi (nI s) (bI (bkn bk k low)) (nI k) sort par (nI n) = _
      unfold fX10_isBack_L6
      rw [if_neg (nI_ge (by omega) hs), if_pos (by rw [q]; rfl), q, show s = k + (d + 1) by omega, hp.k99 q (d + 1)]
theorem isBack_nI {n : Nat} {bk : Nat → Nat} {sort : Int32} {par : Nat → Int32} (hp : PB n bk) (hb : BO n bk sort par) {low high s z : Nat} (hl : low < n) (hh : high < n) (hs : s ≤ 3) (hz : 9 < z) : fX10_isBack z (nI low) (nI high) (nI s) sort par (nI n) = some (if bkn bk s low = high then 1 else 0) := by
  unfold fX10_isBack
  have h9 := hp.1
  have e := isBack_lp (hi := nI high) hp hb hl (show s < 2 ^ 31 by omega) s 0 z z (by omega) (by omega)
  rw [show (nI low, (0 : Int32)) = (bI (bkn bk 0 low), nI 0) from by rw [show bkn bk 0 low = low from rfl, bI_ne (by omega)]; rfl, e]
  show fX10_isBack_J32 z (nI high) (bI (bkn bk s low)) sort par (nI n) = _
  unfold fX10_isBack_J32
  have hv := hp.kn (Or.inl hl) s
  by_cases c : bkn bk s low = high
  · rw [if_pos ((bI_eq (hp.big hv) (by omega)).mpr c), if_pos c]
  · rw [if_neg (fun e => c ((bI_eq (hp.big hv) (by omega)).mp e)), if_neg c]
/-! ===== a MOVE, as the document tells it ===== -/
def okl (oth : Bool) (o c b : Nat) : Bool := kd o b != 0 && (!oth || kd o b != c)
def gob (bk : Nat → Nat) (two oth : Bool) (o c low high : Nat) : Bool :=
  bk low == high || (okl oth o c (bk low) && bk (bk low) == high) || (two && okl oth o c (bk low) && okl oth o c (bk (bk low)) && bk (bk (bk low)) == high)
def cg (bk : Nat → Nat) (two oth : Bool) (o f t : Nat) : Bool :=
  kd o f != 0 && kd o t == 0 && f != t && ((kd o f != 1 && gob bk two oth o (kd o f) f t) || (kd o f != 2 && gob bk two oth o (kd o f) t f))
def b01 (b : Bool) : Int32 := if b then 1 else 0
theorem b01_0 {b : Bool} : b01 b = 0 ↔ b = false := by cases b <;> decide
theorem b01_z {β : Type} {b : Bool} {k : Option β} : zgd (b01 b) k = k := by cases b <;> rfl
theorem mayLeap_nI {o b c : Nat} {oth : Bool} (ho : o < 2 ^ 31) (hb : b < 16) (hc : c < 4) : fX10_mayLeap (nI o) (nI b) (nI c) (b01 oth) = b01 (okl oth o c b) := by
  unfold fX10_mayLeap okl
  have h4 := kd_lt o b
  rw [at_nI ho hb]
  by_cases h0 : kd o b = 0
  · rw [if_pos (by rw [h0]; decide), h0]; rfl
  · rw [if_neg (nI_nle (by omega) (by omega))]
    cases oth with
    | false => rw [if_pos (show b01 false = 0 from rfl)]; simp [b01, h0]
    | true =>
      rw [if_neg (show ¬ b01 true = 0 by decide)]
      by_cases h1 : kd o b = c
      · rw [if_pos (by rw [h1])]; simp [b01, h1]
      · rw [if_neg (fun e => h1 ((nI_eq (by omega) (by omega)).mp e))]; simp [b01, h0, h1]
theorem okl_99 {o c : Nat} {oth : Bool} (ho : o < 4 ^ 9) : okl oth o c 99 = false := by
  unfold okl
  rw [kd_big ho (by decide)]
  rfl
def al (bk : Nat → Nat) (oth : Bool) (o c low : Nat) : Nat → Nat → Bool
  | _, 0 => true
  | k, d + 1 => okl oth o c (bkn bk k low) && al bk oth o c low (k + 1) d
/-- one length of a way BACK, all between it that may be leapt over -/
def gby (bk : Nat → Nat) (oth : Bool) (o c low high s : Nat) : Bool := bkn bk s low == high && al bk oth o c low 1 (s - 1)
theorem gob_gby (bk : Nat → Nat) (two oth : Bool) (o c low high : Nat) : gob bk two oth o c low high = (gby bk oth o c low high 1 || gby bk oth o c low high 2 || (two && gby bk oth o c low high 3)) := by
  unfold gob gby
  simp only [al, bkn, Nat.reduceSub, Bool.and_true]
  generalize (bk low == high) = a1
  generalize (bk (bk low) == high) = a2
  generalize (bk (bk (bk low)) == high) = a3
  generalize okl oth o c (bk low) = a4
  generalize okl oth o c (bk (bk low)) = a5
  cases two <;> cases a1 <;> cases a2 <;> cases a3 <;> cases a4 <;> cases a5 <;> rfl
section GB
variable {n : Nat} {bk : Nat → Nat} {sort : Int32} {par : Nat → Int32} {oth two : Bool} {o : Nat}
theorem goesBy_lp (hp : PB n bk) (hb : BO n bk sort par) (ho : o < 4 ^ 9) {low s c : Nat} (hc : c < 4) (hl : low < n) (hs : s ≤ 3) (hg : ∀ j, j ≤ s → bkn bk j low < n) : ∀ (d k z w : Nat) (b : Bool), k + 1 + d = s → d < z →
    lp (fun sg => fX10_goesBy_L16 w (nI o) (nI s) (nI c) sg.1 sg.2.1 sg.2.2 sort par (nI n) (b01 oth)) z (b01 b, nI (bkn bk k low), nI (k + 1)) = some (b01 (b && al bk oth o c low (k + 1) d))
  | d, k, 0, w, b, _, hz => by omega
  | 0, k, z + 1, w, b, hk, hz => by
    refine lp_out ?_
    show fX10_goesBy_L16 w (nI o) (nI s) (nI c) (b01 b) (nI (bkn bk k low)) (nI (k + 1)) sort par (nI n) (b01 oth) = _
    unfold fX10_goesBy_L16
    rw [if_pos (nI_le (by omega) (by omega))]
    simp [al]
  | d + 1, k, z + 1, w, b, hk, hz => by
    cases b with
    | false =>
      refine lp_out ?_
      show fX10_goesBy_L16 w (nI o) (nI s) (nI c) (b01 false) (nI (bkn bk k low)) (nI (k + 1)) sort par (nI n) (b01 oth) = _
      unfold fX10_goesBy_L16
      rw [if_neg (nI_ge (by omega) (by omega)), if_pos (show b01 false = 0 from rfl)]
      rfl
    | true =>
      have h1 := hg k (by omega)
      have h2 := hg (k + 1) (by omega)
      have h9 := hp.1
      have e : (fun sg => fX10_goesBy_L16 w (nI o) (nI s) (nI c) sg.1 sg.2.1 sg.2.2 sort par (nI n) (b01 oth)) (b01 true, nI (bkn bk k low), nI (k + 1)) = some (.inl (b01 (okl oth o c (bkn bk (k + 1) low)), nI (bkn bk (k + 1) low), nI (k + 1 + 1))) := by
        show fX10_goesBy_L16 w (nI o) (nI s) (nI c) (b01 true) (nI (bkn bk k low)) (nI (k + 1)) sort par (nI n) (b01 oth) = _
        unfold fX10_goesBy_L16
        rw [if_neg (nI_ge (by omega) (by omega)), if_neg (show ¬ b01 true = 0 by decide), hb _ _ h1]
        show some (Sum.inl (fX10_mayLeap (nI o) (bI (bkn bk (k + 1) low)) (nI c) (b01 oth), bI (bkn bk (k + 1) low), nI (k + 1) + 1)) = _
        rw [bI_ne (by omega), mayLeap_nI (Nat.lt_of_lt_of_le ho (by decide)) (by omega) hc, nI_1]
      rw [lp_in e, goesBy_lp hp hb ho hc hl hs hg d (k + 1) z w _ (by omega) (by omega)]
      rw [Bool.true_and]
      rfl
theorem goesBy_nI (hp : PB n bk) (hb : BO n bk sort par) (ho : o < 4 ^ 9) {low high s c z : Nat} (hc : c < 4) (hl : low < n) (hh : high < n) (h1 : 1 ≤ s) (hs : s ≤ 3) (hz : 9 < z) : fX10_goesBy z (nI o) (nI low) (nI high) (nI s) (nI c) sort par (nI n) (b01 oth) = some (b01 (gby bk oth o c low high s)) := by
  unfold fX10_goesBy
  rw [isBack_nI hp hb hl hh hs hz]
  have h9 := hp.1
  by_cases g : bkn bk s low = high
  · have hg : ∀ j, j ≤ s → bkn bk j low < n := by
      intro j hj
      rcases hp.kn (Or.inl hl) j with q | q
      · exact q
      · have := hp.k99 q (s - j)
        rw [show j + (s - j) = s by omega] at this
        omega
    rw [if_pos g]
    show (lp _ z ((1 : Int32), nI low, (1 : Int32))).bind _ = _
    have e := goesBy_lp (oth := oth) hp hb ho hc hl hs hg (s - 1) 0 z z true (by omega) (by omega)
    rw [show ((1 : Int32), nI low, (1 : Int32)) = (b01 true, nI (bkn bk 0 low), nI (0 + 1)) from rfl, e]
    show fX10_goesBy_J53 z _ sort par (nI n) (b01 oth) = _
    unfold fX10_goesBy_J53
    rw [b01_z]
    unfold gby
    simp [g]
  · rw [if_neg g]
    obtain ⟨z', rfl⟩ : ∃ z', z = z' + 1 := ⟨z - 1, by omega⟩
    have e : (fun sg => fX10_goesBy_L16 (z' + 1) (nI o) (nI s) (nI c) sg.1 sg.2.1 sg.2.2 sort par (nI n) (b01 oth)) ((0 : Int32), nI low, (1 : Int32)) = some (.inr 0) := by
      show fX10_goesBy_L16 (z' + 1) (nI o) (nI s) (nI c) 0 (nI low) 1 sort par (nI n) (b01 oth) = _
      unfold fX10_goesBy_L16
      by_cases q : nI s ≤ 1
      · rw [if_pos q]
      · rw [if_neg q, if_pos rfl]
    show (lp _ (z' + 1) ((0 : Int32), nI low, (1 : Int32))).bind _ = _
    rw [lp_out e]
    show fX10_goesBy_J53 (z' + 1) 0 sort par (nI n) (b01 oth) = _
    unfold fX10_goesBy_J53
    rw [zgd_0]
    unfold gby
    have gf : (bkn bk s low == high) = false := by simp [g]
    rw [gf]
    rfl
/-- the lengths up to s, each way -/
def ac (bk : Nat → Nat) (oth : Bool) (o f t : Nat) : Nat → Bool
  | 0 => false
  | s + 1 => ac bk oth o f t s || (kd o f != 1 && gby bk oth o (kd o f) f t (s + 1)) || (kd o f != 2 && gby bk oth o (kd o f) t f (s + 1))
theorem canGo_step (hp : PB n bk) (hb : BO n bk sort par) (ho : o < 4 ^ 9) {f t s z : Nat} (hf : f < n) (ht : t < n) (hs : s < 3) (hz : 9 < z) (htw : two = true ∨ s < 2) :
    fX10_canGo_L35 z (nI o) (nI f) (nI t) (nI (kd o f)) (b01 (ac bk oth o f t s)) (nI (s + 1)) (b01 two) sort par (nI n) (b01 oth) = some (.inl (b01 (ac bk oth o f t (s + 1)), nI (s + 1 + 1))) := by
  have hk := kd_lt o f
  have g1 := goesBy_nI (oth := oth) hp hb ho (z := z) hk hf ht (show 1 ≤ s + 1 by omega) (show s + 1 ≤ 3 by omega) hz
  have g2 := goesBy_nI (oth := oth) hp hb ho (z := z) hk ht hf (show 1 ≤ s + 1 by omega) (show s + 1 ≤ 3 by omega) hz
  have e1 : nI (kd o f) = 1 ↔ kd o f = 1 := nI_eq (by omega) (b := 1) (by decide)
  have e2 : nI (kd o f) = 2 ↔ kd o f = 2 := nI_eq (by omega) (b := 2) (by decide)
  have key : ∀ b : Int32, ∀ _ : ¬ b ≤ nI (s + 1), fX10_canGo_J49 z (nI o) (nI f) (nI t) (nI (kd o f)) (b01 (ac bk oth o f t s)) (nI (s + 1)) (nI (s + 1)) b (b01 two) sort par (nI n) (b01 oth) = some (.inl (b01 (ac bk oth o f t (s + 1)), nI (s + 1 + 1))) := by
    intro b hbb
    have j82 : ∀ a : Bool, fX10_canGo_J82 z (nI o) (nI f) (nI t) (nI (kd o f)) (nI (s + 1)) (b01 a) (b01 two) sort par (nI n) (b01 oth) = some (.inl (b01 (a || (kd o f != 2 && gby bk oth o (kd o f) t f (s + 1))), nI (s + 1 + 1))) := by
      intro a
      unfold fX10_canGo_J82
      cases a with
      | true =>
        rw [if_neg (show ¬ b01 true = 0 by decide), nI_1]
        rfl
      | false =>
        rw [if_pos (show b01 false = 0 from rfl)]
        by_cases c2 : kd o f = 2
        · rw [if_pos (e2.mpr c2), nI_1]
          simp [c2]
          rfl
        · rw [if_neg (fun e => c2 (e2.mp e)), g2, nI_1]
          simp only [Option.bind_some, b01_0]
          have n2 : (kd o f != 2) = true := by simp [c2]
          rw [n2]
          cases gby bk oth o (kd o f) t f (s + 1) <;> simp <;> rfl
    unfold fX10_canGo_J49
    rw [if_neg hbb]
    have j77 : fX10_canGo_J77 z (nI o) (nI f) (nI t) (nI (kd o f)) (nI (s + 1)) (b01 two) sort par (nI n) (b01 oth) = some (.inl (b01 true, nI (s + 1 + 1))) := by
      unfold fX10_canGo_J77
      exact j82 true
    have j81 : fX10_canGo_J81 z (nI o) (nI f) (nI t) (nI (kd o f)) (nI (s + 1)) (b01 two) sort par (nI n) (b01 oth) = some (.inl (b01 (kd o f != 2 && gby bk oth o (kd o f) t f (s + 1)), nI (s + 1 + 1))) := by
      unfold fX10_canGo_J81
      exact j82 false
    rw [j77, j81]
    simp only [ac]
    cases ac bk oth o f t s with
    | true => rw [if_neg (show ¬ b01 true = 0 by decide)]; simp
    | false =>
      rw [if_pos (show b01 false = 0 from rfl)]
      by_cases c1 : kd o f = 1
      · rw [if_pos (e1.mpr c1)]
        simp [c1]
      · rw [if_neg (fun e => c1 (e1.mp e)), g1]
        simp only [Option.bind_some, b01_0]
        have n1 : (kd o f != 1) = true := by simp [c1]
        rw [n1]
        cases gby bk oth o (kd o f) f t (s + 1) <;> simp
  unfold fX10_canGo_L35
  cases two with
  | false =>
    rw [if_pos (show b01 false = 0 from rfl)]
    refine key 3 (nI_ge (a := s + 1) (b := 3) ?_ (by decide))
    rcases htw with q | q
    · cases q
    · omega
  | true =>
    rw [if_neg (show ¬ b01 true = 0 by decide)]
    exact key 4 (nI_ge (a := s + 1) (b := 4) (by omega) (by decide))
theorem canGo_nI (hp : PB n bk) (hb : BO n bk sort par) (ho : o < 4 ^ 9) {f t z : Nat} (hf : f < n) (ht : t < n) (hz : 9 < z) : fX10_canGo z (nI o) (nI f) (nI t) (b01 two) sort par (nI n) (b01 oth) = some (b01 (cg bk two oth o f t)) := by
  have h9 := hp.1
  have ho2 : o < 2 ^ 31 := Nat.lt_of_lt_of_le ho (by decide)
  unfold fX10_canGo cg
  rw [at_nI ho2 (by omega), at_nI ho2 (by omega)]
  by_cases c1 : kd o f = 0
  · rw [if_pos (by rw [c1]; rfl)]; simp [c1, b01]
  · have k1 := kd_lt o f
    have k2 := kd_lt o t
    rw [if_neg (nI_ne0 (by omega) (by omega))]
    by_cases c2 : kd o t = 0
    · rw [if_pos (by rw [c2]; rfl)]
      by_cases c3 : f = t
      · rw [if_pos (by rw [c3])]; simp [c3, b01]
      · rw [if_neg (fun e => c3 ((nI_eq (by omega) (by omega)).mp e))]
        have ex : ∀ a : Bool, fX10_canGo_J122 z (b01 a) (b01 two) sort par (nI n) (b01 oth) = some (b01 a) := by
          intro a
          unfold fX10_canGo_J122
          exact b01_z
        have fin : ∀ s, (s = if two then 3 else 2) → ((lp (fun sg => fX10_canGo_L35 z (nI o) (nI f) (nI t) (nI (kd o f)) sg.1 sg.2 (b01 two) sort par (nI n) (b01 oth)) z ((0 : Int32), (1 : Int32))).bind (fun ex => fX10_canGo_J122 z ex (b01 two) sort par (nI n) (b01 oth))) = some (b01 (ac bk oth o f t s)) := by
          intro s hs
          refine (lp_b (fun i => (b01 (ac bk oth o f t i), nI (i + 1))) s (b01 (ac bk oth o f t s)) rfl (fun i hi => ?_) ?_ (by cases two <;> simp at hs <;> omega)).trans (ex _)
          · exact canGo_step hp hb ho hf ht (by cases two <;> simp at hs <;> omega) hz (by cases two <;> simp at hs <;> simp; omega)
          · show fX10_canGo_L35 z (nI o) (nI f) (nI t) (nI (kd o f)) (b01 (ac bk oth o f t s)) (nI (s + 1)) (b01 two) sort par (nI n) (b01 oth) = _
            unfold fX10_canGo_L35 fX10_canGo_J49
            cases two with
            | false =>
              have hs : s = 2 := hs
              subst hs
              rw [if_pos (show b01 false = 0 from rfl), if_pos (show (3 : Int32) ≤ nI (2 + 1) by decide)]
            | true =>
              have hs : s = 3 := hs
              subst hs
              rw [if_neg (show ¬ b01 true = 0 by decide), if_pos (show (4 : Int32) ≤ nI (3 + 1) by decide)]
        rw [fin _ rfl]
        congr 2
        rw [gob_gby, gob_gby]
        have n0 : (kd o f != 0) = true := by simp [c1]
        have n3 : (f != t) = true := by simp [c3]
        rw [n0, n3, c2]
        cases two
        · simp only [ac, if_false, Bool.false_eq_true]
          generalize (kd o f != 1) = a1
          generalize (kd o f != 2) = a2
          cases a1 <;> cases a2 <;> cases gby bk oth o (kd o f) f t 1 <;> cases gby bk oth o (kd o f) f t 2 <;> cases gby bk oth o (kd o f) t f 1 <;> cases gby bk oth o (kd o f) t f 2 <;> rfl
        · simp only [ac, if_true]
          generalize (kd o f != 1) = a1
          generalize (kd o f != 2) = a2
          cases a1 <;> cases a2 <;> cases gby bk oth o (kd o f) f t 1 <;> cases gby bk oth o (kd o f) f t 2 <;> cases gby bk oth o (kd o f) f t 3 <;> cases gby bk oth o (kd o f) t f 1 <;> cases gby bk oth o (kd o f) t f 2 <;> cases gby bk oth o (kd o f) t f 3 <;> rfl
    · rw [if_neg (nI_ne0 (by omega) (by omega))]; simp [c2, b01]
end GB
