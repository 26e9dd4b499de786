/-! ===== FrogsOnRing$Ending.settleFrom(I)V ===== -/
abbrev uX2_settleFrom (cI cJ : ClassId) (a_this : Nat) (a_pond : Nat) (a_moves : Nat) (a_numbering : Nat) (a_search : Nat) (a_levelEnds : Nat) (a_sorted : Nat) (a_mosts : Nat) (a_winners : Nat) (i_settledLook : Int32) (a_search_pond : Nat) (a_search_moves : Nat) (a_search_numbering : Nat) (a_search_orders : Nat) (a_search_steps : Nat) (a_search_rows : Nat) (a_search_firsts : Nat) (i_search_start : Int32) (i_search_stands : Int32) (i_search_looks : Int32) (i_search_reached : Int32) (i_search_stuck : Int32) (i_search_farthest : Int32) (a_search_numbering_lowStarts : Nat) (a_search_numbering_highNumbers : Nat) (a_search_numbering_mixtureSizes : Nat) (i_search_numbering_lowBits : Int32) (i_search_numbering_all : Int32) (g_search_steps : Nat → Int32) (g_search_numbering_lowStarts : Nat → Int32) (g_search_numbering_highNumbers : Nat → Int32) (g_search_rows : Nat → Int64) (g_search_firsts : Nat → Int32) (g_search_orders : Nat → Int32) (a_search_moves_pond : Nat) (a_search_moves_targets : Nat) (g_search_moves_targets : Nat → Int32) (a_search_moves_pond_behinds : Nat) (a_search_moves_pond_depths : Nat) (i_search_moves_pond_size : Int32) (i_search_moves_pond_isRing : Int32) (i_search_moves_pond_overOthers : Int32) (i_search_moves_pond_longestLeap : Int32) (g_search_moves_pond_behinds : Nat → Int32) (a_search_pond_behinds : Nat) (a_search_pond_depths : Nat) (i_search_pond_size : Int32) (i_search_pond_isRing : Int32) (i_search_pond_overOthers : Int32) (i_search_pond_longestLeap : Int32) (g_levelEnds : Nat → Int32) (a_pond_behinds : Nat) (a_pond_depths : Nat) (i_pond_size : Int32) (i_pond_isRing : Int32) (i_pond_overOthers : Int32) (i_pond_longestLeap : Int32) (g_pond_depths : Nat → Int32) (g_sorted : Nat → Int32) (a_moves_pond : Nat) (a_moves_targets : Nat) (g_moves_targets : Nat → Int32) (a_moves_pond_behinds : Nat) (a_moves_pond_depths : Nat) (i_moves_pond_size : Int32) (i_moves_pond_isRing : Int32) (i_moves_pond_overOthers : Int32) (i_moves_pond_longestLeap : Int32) (g_moves_pond_behinds : Nat → Int32) (a_numbering_lowStarts : Nat) (a_numbering_highNumbers : Nat) (a_numbering_mixtureSizes : Nat) (i_numbering_lowBits : Int32) (i_numbering_all : Int32) (g_numbering_lowStarts : Nat → Int32) (g_numbering_highNumbers : Nat → Int32) (g_mosts : Nat → Int32) (g_winners : Nat → Int32) : va_W := [(a_this, .inr (2, [.ref a_pond, .ref a_moves, .ref a_numbering, .ref a_search, .ref a_levelEnds, .ref a_sorted, .ref a_mosts, .ref a_winners, .int i_settledLook])), (a_search, .inr (8, [.ref a_search_pond, .ref a_search_moves, .ref a_search_numbering, .ref a_search_orders, .ref a_search_steps, .ref a_search_rows, .ref a_search_firsts, .int i_search_start, .int i_search_stands, .int i_search_looks, .int i_search_reached, .int i_search_stuck, .int i_search_farthest])), (a_search_numbering, .inr (4, [.ref a_search_numbering_lowStarts, .ref a_search_numbering_highNumbers, .ref a_search_numbering_mixtureSizes, .int i_search_numbering_lowBits, .int i_search_numbering_all])), (a_search_steps, .inl (cI, 7560, .inl g_search_steps)), (a_search_numbering_lowStarts, .inl (cI, 1024, .inl g_search_numbering_lowStarts)), (a_search_numbering_highNumbers, .inl (cI, 256, .inl g_search_numbering_highNumbers)), (a_search_rows, .inl (cJ, 7560, .inr (.inl g_search_rows))), (a_search_firsts, .inl (cI, 7560, .inl g_search_firsts)), (a_search_orders, .inl (cI, 7560, .inl g_search_orders)), (a_search_moves, .inr (3, [.ref a_search_moves_pond, .ref a_search_moves_targets])), (a_search_moves_targets, .inl (cI, 9, .inl g_search_moves_targets)), (a_search_moves_pond, .inr (6, [.ref a_search_moves_pond_behinds, .ref a_search_moves_pond_depths, .int i_search_moves_pond_size, .int i_search_moves_pond_isRing, .int i_search_moves_pond_overOthers, .int i_search_moves_pond_longestLeap])), (a_search_moves_pond_behinds, .inl (cI, 9, .inl g_search_moves_pond_behinds)), (a_search_pond, .inr (6, [.ref a_search_pond_behinds, .ref a_search_pond_depths, .int i_search_pond_size, .int i_search_pond_isRing, .int i_search_pond_overOthers, .int i_search_pond_longestLeap])), (a_levelEnds, .inl (cI, 145, .inl g_levelEnds)), (a_pond, .inr (6, [.ref a_pond_behinds, .ref a_pond_depths, .int i_pond_size, .int i_pond_isRing, .int i_pond_overOthers, .int i_pond_longestLeap])), (a_pond_depths, .inl (cI, 9, .inl g_pond_depths)), (a_sorted, .inl (cI, 1680, .inl g_sorted)), (a_moves, .inr (3, [.ref a_moves_pond, .ref a_moves_targets])), (a_moves_targets, .inl (cI, 9, .inl g_moves_targets)), (a_moves_pond, .inr (6, [.ref a_moves_pond_behinds, .ref a_moves_pond_depths, .int i_moves_pond_size, .int i_moves_pond_isRing, .int i_moves_pond_overOthers, .int i_moves_pond_longestLeap])), (a_moves_pond_behinds, .inl (cI, 9, .inl g_moves_pond_behinds)), (a_numbering, .inr (4, [.ref a_numbering_lowStarts, .ref a_numbering_highNumbers, .ref a_numbering_mixtureSizes, .int i_numbering_lowBits, .int i_numbering_all])), (a_numbering_lowStarts, .inl (cI, 1024, .inl g_numbering_lowStarts)), (a_numbering_highNumbers, .inl (cI, 256, .inl g_numbering_highNumbers)), (a_mosts, .inl (cI, 1680, .inl g_mosts)), (a_winners, .inl (cI, 1680, .inl g_winners))]
def rX2_settleFrom : Room := { frames := 5, cells := 0, slots := 0, locals := 121 }
theorem hdX2_settleFrom : yX2_settleFrom.cls = RX2 ∧ yX2_settleFrom.cls ≠ "java/lang/invoke/MethodHandle" ∧ yX2_settleFrom.cls ≠ "java/lang/invoke/VarHandle" ∧ (parseMethodDescriptor yX2_settleFrom.desc).map (fun d => d.parameters.length) = some 1 := by decide +kernel
set_option maxRecDepth 20000 in
theorem jX2_settleFrom_X2 : ∀ w ∈ u_ws RX2 TX2 9, w ∈ wsX2_settleFrom := by decide +kernel
set_option maxRecDepth 20000 in
theorem jX2_settleFrom_X8 : ∀ w ∈ u_ws RX8 TX8 13, w ∈ wsX2_settleFrom := by decide +kernel
set_option maxRecDepth 20000 in
theorem qX2_settleFrom_15 : Cond.fieldLink RX2 15 "FrogsOnRing$Ending" "sorted" "[I" ∈ wsX2_settleFrom := by decide +kernel
set_option maxRecDepth 20000 in
theorem qX2_settleFrom_36 : Cond.fieldLink RX2 36 "FrogsOnRing$Ending" "search" "LFrogsOnRing$Search;" ∈ wsX2_settleFrom := by decide +kernel
set_option maxRecDepth 20000 in
theorem qX2_settleFrom_46 : Cond.fieldLink RX2 46 "FrogsOnRing$Ending" "settledLook" "I" ∈ wsX2_settleFrom := by decide +kernel
set_option maxRecDepth 20000 in
theorem qX2_settleFrom_50 : Cond.fieldLink RX2 50 "FrogsOnRing$Search" "looks" "I" ∈ wsX2_settleFrom := by decide +kernel
set_option maxRecDepth 20000 in
theorem qX2_settleFrom_56 : Cond.fieldLink RX2 56 "FrogsOnRing$Search" "reached" "I" ∈ wsX2_settleFrom := by decide +kernel
set_option maxRecDepth 20000 in
theorem qX2_settleFrom_l59 : Cond.methodLink RX2 59 Lib.Math.min.name ∈ wsX2_settleFrom := by decide +kernel
set_option maxRecDepth 20000 in
theorem qX2_settleFrom_mi : Cond.initialized "java/lang/Math" ∈ wsX2_settleFrom := by decide +kernel
set_option maxRecDepth 20000 in
theorem qX2_settleFrom_minc : Cond.code Lib.Math.min.name Lib.Math.min.code 2 (some .int) ∈ wsX2_settleFrom := by decide +kernel
set_option maxRecDepth 20000 in
theorem qX2_settleFrom_mins : Cond.static Lib.Math.min.name ∈ wsX2_settleFrom := by decide +kernel
set_option maxHeartbeats 4000000 in
set_option maxRecDepth 100000 in
theorem kX2_settleFrom_L43 {p : Program} {l : Launch} {e : Env} {s : State} {m : MethodId} {args : Array Value} {below : List Frame} {meth : Method} {c : Code} {Q : State → Prop} {A : Nat → Prop} {D : va_G} {cI cJ : ClassId} (C : bC cX2_settleFrom 3 RX2 wsX2_settleFrom D cI cJ p s m args c meth A)
    {a_this : Nat} {a_pond : Nat} {a_moves : Nat} {a_numbering : Nat} {a_search : Nat} {a_levelEnds : Nat} {a_sorted : Nat} {a_mosts : Nat} {a_winners : Nat} {i_settledLook : Int32} {a_search_pond : Nat} {a_search_moves : Nat} {a_search_numbering : Nat} {a_search_orders : Nat} {a_search_steps : Nat} {a_search_rows : Nat} {a_search_firsts : Nat} {i_search_start : Int32} {i_search_stands : Int32} {i_search_looks : Int32} {i_search_reached : Int32} {i_search_stuck : Int32} {i_search_farthest : Int32} {a_search_numbering_lowStarts : Nat} {a_search_numbering_highNumbers : Nat} {a_search_numbering_mixtureSizes : Nat} {i_search_numbering_lowBits : Int32} {i_search_numbering_all : Int32} {g_search_steps : Nat → Int32} {g_search_numbering_lowStarts : Nat → Int32} {g_search_numbering_highNumbers : Nat → Int32} {g_search_rows : Nat → Int64} {g_search_firsts : Nat → Int32} {g_search_orders : Nat → Int32} {a_search_moves_pond : Nat} {a_search_moves_targets : Nat} {g_search_moves_targets : Nat → Int32} {a_search_moves_pond_behinds : Nat} {a_search_moves_pond_depths : Nat} {i_search_moves_pond_size : Int32} {i_search_moves_pond_isRing : Int32} {i_search_moves_pond_overOthers : Int32} {i_search_moves_pond_longestLeap : Int32} {g_search_moves_pond_behinds : Nat → Int32} {a_search_pond_behinds : Nat} {a_search_pond_depths : Nat} {i_search_pond_size : Int32} {i_search_pond_isRing : Int32} {i_search_pond_overOthers : Int32} {i_search_pond_longestLeap : Int32} {g_levelEnds : Nat → Int32} {a_pond_behinds : Nat} {a_pond_depths : Nat} {i_pond_size : Int32} {i_pond_isRing : Int32} {i_pond_overOthers : Int32} {i_pond_longestLeap : Int32} {g_pond_depths : Nat → Int32} {g_sorted : Nat → Int32} {a_moves_pond : Nat} {a_moves_targets : Nat} {g_moves_targets : Nat → Int32} {a_moves_pond_behinds : Nat} {a_moves_pond_depths : Nat} {i_moves_pond_size : Int32} {i_moves_pond_isRing : Int32} {i_moves_pond_overOthers : Int32} {i_moves_pond_longestLeap : Int32} {g_moves_pond_behinds : Nat → Int32} {a_numbering_lowStarts : Nat} {a_numbering_highNumbers : Nat} {a_numbering_mixtureSizes : Nat} {i_numbering_lowBits : Int32} {i_numbering_all : Int32} {g_numbering_lowStarts : Nat → Int32} {g_numbering_highNumbers : Nat → Int32} {g_mosts : Nat → Int32} {g_winners : Nat → Int32} {z : Nat} {x2 : Int32} {o : (Int32 × (Nat → Int32) × (Nat → Int32) × (Nat → Int32)) ⊕ ((Nat → Int32) × (Nat → Int32) × (Nat → Int32))} (hf : fX2_settleFrom_L43 z x2 i_search_stands i_search_start i_search_numbering_all g_search_steps i_search_numbering_lowBits g_search_numbering_lowStarts g_search_numbering_highNumbers i_search_reached g_search_rows g_search_firsts g_search_orders g_search_moves_targets i_search_moves_pond_size i_search_moves_pond_longestLeap g_search_moves_pond_behinds i_search_moves_pond_overOthers i_search_pond_size i_search_stuck i_search_looks i_settledLook g_levelEnds i_pond_size g_pond_depths g_sorted g_moves_targets i_moves_pond_size i_moves_pond_longestLeap g_moves_pond_behinds i_moves_pond_overOthers i_numbering_lowBits g_numbering_lowStarts g_numbering_highNumbers i_numbering_all g_mosts g_winners i_search_farthest = some o)
    (hbk : ∀ s', o = .inl s' → ∀ (H : Heap) (locs : List Loc) (ls : Array Slot), va_P D vwCl (uX2_settleFrom cI cJ a_this a_pond a_moves a_numbering a_search a_levelEnds a_sorted a_mosts a_winners i_settledLook a_search_pond a_search_moves a_search_numbering a_search_orders a_search_steps a_search_rows a_search_firsts i_search_start i_search_stands i_search_looks i_search_reached i_search_stuck i_search_farthest a_search_numbering_lowStarts a_search_numbering_highNumbers a_search_numbering_mixtureSizes i_search_numbering_lowBits i_search_numbering_all g_search_steps g_search_numbering_lowStarts g_search_numbering_highNumbers g_search_rows g_search_firsts g_search_orders a_search_moves_pond a_search_moves_targets g_search_moves_targets a_search_moves_pond_behinds a_search_moves_pond_depths i_search_moves_pond_size i_search_moves_pond_isRing i_search_moves_pond_overOthers i_search_moves_pond_longestLeap g_search_moves_pond_behinds a_search_pond_behinds a_search_pond_depths i_search_pond_size i_search_pond_isRing i_search_pond_overOthers i_search_pond_longestLeap g_levelEnds a_pond_behinds a_pond_depths i_pond_size i_pond_isRing i_pond_overOthers i_pond_longestLeap g_pond_depths g_sorted a_moves_pond a_moves_targets s'.2.1 a_moves_pond_behinds a_moves_pond_depths i_moves_pond_size i_moves_pond_isRing i_moves_pond_overOthers i_moves_pond_longestLeap g_moves_pond_behinds a_numbering_lowStarts a_numbering_highNumbers a_numbering_mixtureSizes i_numbering_lowBits i_numbering_all g_numbering_lowStarts g_numbering_highNumbers s'.2.2.1 s'.2.2.2) H → va_D A (uX2_settleFrom cI cJ a_this a_pond a_moves a_numbering a_search a_levelEnds a_sorted a_mosts a_winners i_settledLook a_search_pond a_search_moves a_search_numbering a_search_orders a_search_steps a_search_rows a_search_firsts i_search_start i_search_stands i_search_looks i_search_reached i_search_stuck i_search_farthest a_search_numbering_lowStarts a_search_numbering_highNumbers a_search_numbering_mixtureSizes i_search_numbering_lowBits i_search_numbering_all g_search_steps g_search_numbering_lowStarts g_search_numbering_highNumbers g_search_rows g_search_firsts g_search_orders a_search_moves_pond a_search_moves_targets g_search_moves_targets a_search_moves_pond_behinds a_search_moves_pond_depths i_search_moves_pond_size i_search_moves_pond_isRing i_search_moves_pond_overOthers i_search_moves_pond_longestLeap g_search_moves_pond_behinds a_search_pond_behinds a_search_pond_depths i_search_pond_size i_search_pond_isRing i_search_pond_overOthers i_search_pond_longestLeap g_levelEnds a_pond_behinds a_pond_depths i_pond_size i_pond_isRing i_pond_overOthers i_pond_longestLeap g_pond_depths g_sorted a_moves_pond a_moves_targets s'.2.1 a_moves_pond_behinds a_moves_pond_depths i_moves_pond_size i_moves_pond_isRing i_moves_pond_overOthers i_moves_pond_longestLeap g_moves_pond_behinds a_numbering_lowStarts a_numbering_highNumbers a_numbering_mixtureSizes i_numbering_lowBits i_numbering_all g_numbering_lowStarts g_numbering_highNumbers s'.2.2.1 s'.2.2.2) → va_S A s.heap H locs → lv_has ls 3 [(0, .ref a_this), (2, .int s'.1)] → W p l e rX2_settleFrom s m args below meth c H locs 0 0 Q (F0 m 43 ls []))
    (hex : ∀ e', o = .inr e' → ∀ (H : Heap) (locs : List Loc) (ls : Array Slot), va_P D vwCl (uX2_settleFrom cI cJ a_this a_pond a_moves a_numbering a_search a_levelEnds a_sorted a_mosts a_winners i_settledLook a_search_pond a_search_moves a_search_numbering a_search_orders a_search_steps a_search_rows a_search_firsts i_search_start i_search_stands i_search_looks i_search_reached i_search_stuck i_search_farthest a_search_numbering_lowStarts a_search_numbering_highNumbers a_search_numbering_mixtureSizes i_search_numbering_lowBits i_search_numbering_all g_search_steps g_search_numbering_lowStarts g_search_numbering_highNumbers g_search_rows g_search_firsts g_search_orders a_search_moves_pond a_search_moves_targets g_search_moves_targets a_search_moves_pond_behinds a_search_moves_pond_depths i_search_moves_pond_size i_search_moves_pond_isRing i_search_moves_pond_overOthers i_search_moves_pond_longestLeap g_search_moves_pond_behinds a_search_pond_behinds a_search_pond_depths i_search_pond_size i_search_pond_isRing i_search_pond_overOthers i_search_pond_longestLeap g_levelEnds a_pond_behinds a_pond_depths i_pond_size i_pond_isRing i_pond_overOthers i_pond_longestLeap g_pond_depths g_sorted a_moves_pond a_moves_targets e'.1 a_moves_pond_behinds a_moves_pond_depths i_moves_pond_size i_moves_pond_isRing i_moves_pond_overOthers i_moves_pond_longestLeap g_moves_pond_behinds a_numbering_lowStarts a_numbering_highNumbers a_numbering_mixtureSizes i_numbering_lowBits i_numbering_all g_numbering_lowStarts g_numbering_highNumbers e'.2.1 e'.2.2) H → va_D A (uX2_settleFrom cI cJ a_this a_pond a_moves a_numbering a_search a_levelEnds a_sorted a_mosts a_winners i_settledLook a_search_pond a_search_moves a_search_numbering a_search_orders a_search_steps a_search_rows a_search_firsts i_search_start i_search_stands i_search_looks i_search_reached i_search_stuck i_search_farthest a_search_numbering_lowStarts a_search_numbering_highNumbers a_search_numbering_mixtureSizes i_search_numbering_lowBits i_search_numbering_all g_search_steps g_search_numbering_lowStarts g_search_numbering_highNumbers g_search_rows g_search_firsts g_search_orders a_search_moves_pond a_search_moves_targets g_search_moves_targets a_search_moves_pond_behinds a_search_moves_pond_depths i_search_moves_pond_size i_search_moves_pond_isRing i_search_moves_pond_overOthers i_search_moves_pond_longestLeap g_search_moves_pond_behinds a_search_pond_behinds a_search_pond_depths i_search_pond_size i_search_pond_isRing i_search_pond_overOthers i_search_pond_longestLeap g_levelEnds a_pond_behinds a_pond_depths i_pond_size i_pond_isRing i_pond_overOthers i_pond_longestLeap g_pond_depths g_sorted a_moves_pond a_moves_targets e'.1 a_moves_pond_behinds a_moves_pond_depths i_moves_pond_size i_moves_pond_isRing i_moves_pond_overOthers i_moves_pond_longestLeap g_moves_pond_behinds a_numbering_lowStarts a_numbering_highNumbers a_numbering_mixtureSizes i_numbering_lowBits i_numbering_all g_numbering_lowStarts g_numbering_highNumbers e'.2.1 e'.2.2) → va_S A s.heap H locs → lv_has ls 3 [(0, .ref a_this)] → W p l e rX2_settleFrom s m args below meth c H locs 0 0 Q (F0 m 63 ls []))
    {H : Heap} {locs : List Loc} {ls : Array Slot} (hP : va_P D vwCl (uX2_settleFrom cI cJ a_this a_pond a_moves a_numbering a_search a_levelEnds a_sorted a_mosts a_winners i_settledLook a_search_pond a_search_moves a_search_numbering a_search_orders a_search_steps a_search_rows a_search_firsts i_search_start i_search_stands i_search_looks i_search_reached i_search_stuck i_search_farthest a_search_numbering_lowStarts a_search_numbering_highNumbers a_search_numbering_mixtureSizes i_search_numbering_lowBits i_search_numbering_all g_search_steps g_search_numbering_lowStarts g_search_numbering_highNumbers g_search_rows g_search_firsts g_search_orders a_search_moves_pond a_search_moves_targets g_search_moves_targets a_search_moves_pond_behinds a_search_moves_pond_depths i_search_moves_pond_size i_search_moves_pond_isRing i_search_moves_pond_overOthers i_search_moves_pond_longestLeap g_search_moves_pond_behinds a_search_pond_behinds a_search_pond_depths i_search_pond_size i_search_pond_isRing i_search_pond_overOthers i_search_pond_longestLeap g_levelEnds a_pond_behinds a_pond_depths i_pond_size i_pond_isRing i_pond_overOthers i_pond_longestLeap g_pond_depths g_sorted a_moves_pond a_moves_targets g_moves_targets a_moves_pond_behinds a_moves_pond_depths i_moves_pond_size i_moves_pond_isRing i_moves_pond_overOthers i_moves_pond_longestLeap g_moves_pond_behinds a_numbering_lowStarts a_numbering_highNumbers a_numbering_mixtureSizes i_numbering_lowBits i_numbering_all g_numbering_lowStarts g_numbering_highNumbers g_mosts g_winners) H) (hD : va_D A (uX2_settleFrom cI cJ a_this a_pond a_moves a_numbering a_search a_levelEnds a_sorted a_mosts a_winners i_settledLook a_search_pond a_search_moves a_search_numbering a_search_orders a_search_steps a_search_rows a_search_firsts i_search_start i_search_stands i_search_looks i_search_reached i_search_stuck i_search_farthest a_search_numbering_lowStarts a_search_numbering_highNumbers a_search_numbering_mixtureSizes i_search_numbering_lowBits i_search_numbering_all g_search_steps g_search_numbering_lowStarts g_search_numbering_highNumbers g_search_rows g_search_firsts g_search_orders a_search_moves_pond a_search_moves_targets g_search_moves_targets a_search_moves_pond_behinds a_search_moves_pond_depths i_search_moves_pond_size i_search_moves_pond_isRing i_search_moves_pond_overOthers i_search_moves_pond_longestLeap g_search_moves_pond_behinds a_search_pond_behinds a_search_pond_depths i_search_pond_size i_search_pond_isRing i_search_pond_overOthers i_search_pond_longestLeap g_levelEnds a_pond_behinds a_pond_depths i_pond_size i_pond_isRing i_pond_overOthers i_pond_longestLeap g_pond_depths g_sorted a_moves_pond a_moves_targets g_moves_targets a_moves_pond_behinds a_moves_pond_depths i_moves_pond_size i_moves_pond_isRing i_moves_pond_overOthers i_moves_pond_longestLeap g_moves_pond_behinds a_numbering_lowStarts a_numbering_highNumbers a_numbering_mixtureSizes i_numbering_lowBits i_numbering_all g_numbering_lowStarts g_numbering_highNumbers g_mosts g_winners)) (hS : va_S A s.heap H locs) (hl : lv_has ls 3 [(0, .ref a_this), (2, .int x2)]) : W p l e rX2_settleFrom s m args below meth c H locs 0 0 Q (F0 m 43 ls []) := by
  obtain ⟨hx, hb, hml, hown, hts, hK, hN, hA, hlocks⟩ := id C
  unfold fX2_settleFrom_L43 at hf
  refine lv_iload_n hx hb dX2_settleFrom_43 rfl (lv_at hl 1 rfl) ?_
  refine lv_if_lt (tgt := 63) hx hb dX2_settleFrom_44 (by decide) (fun hc => ?_) (fun hc => ?_)
  · have hf := if_yes hc hf
    have ho := Option.some.inj hf
    subst ho
    exact hex _ rfl _ _ _ hP hD hS (lv_sub hl [0] rfl)
  · have hf := if_no hc hf
    refine lv_aload_n hx hb dX2_settleFrom_47 rfl (lv_at hl 0 rfl) ?_
    refine lv_aload_n hx hb dX2_settleFrom_48 rfl (lv_at hl 0 rfl) ?_
    refine va_get (D := D) (ci := 2) (v := .ref a_sorted) (C := RX2) (T := TX2) (N := 9) hx hb hts jX2_settleFrom_X2 hown hK hP 0 rfl rfl 5 (by decide) (hts _ qX2_settleFrom_15) (fun _ h9 => h9) rfl dX2_settleFrom_49 ?_
    refine lv_iload_n hx hb dX2_settleFrom_52 rfl (lv_at hl 1 rfl) ?_
    obtain ⟨hin, hf⟩ := agd_some hf
    refine va_iald hx hb hK hP 17 0 rfl rfl hin dX2_settleFrom_53 ?_
    obtain ⟨q3, hq, hf⟩ := ob_some hf
    refine cl_v (wc := (uX2_settle cI cJ a_this a_pond a_moves a_numbering a_search a_levelEnds a_sorted a_mosts a_winners i_settledLook a_moves_pond a_moves_targets g_moves_targets a_moves_pond_behinds a_moves_pond_depths i_moves_pond_size i_moves_pond_isRing i_moves_pond_overOthers i_moves_pond_longestLeap g_moves_pond_behinds a_pond_behinds a_pond_depths i_pond_size i_pond_isRing i_pond_overOthers i_pond_longestLeap a_numbering_lowStarts a_numbering_highNumbers a_numbering_mixtureSizes i_numbering_lowBits i_numbering_all g_numbering_lowStarts g_numbering_highNumbers g_mosts g_winners)) (w1 := (uX2_settle cI cJ a_this a_pond a_moves a_numbering a_search a_levelEnds a_sorted a_mosts a_winners i_settledLook a_moves_pond a_moves_targets q3.1 a_moves_pond_behinds a_moves_pond_depths i_moves_pond_size i_moves_pond_isRing i_moves_pond_overOthers i_moves_pond_longestLeap g_moves_pond_behinds a_pond_behinds a_pond_depths i_pond_size i_pond_isRing i_pond_overOthers i_pond_longestLeap a_numbering_lowStarts a_numbering_highNumbers a_numbering_mixtureSizes i_numbering_lowBits i_numbering_all g_numbering_lowStarts g_numbering_highNumbers q3.2.1 q3.2.2)) (rn_V (As := [.int (g_sorted x2.toNatClampNeg)]) (b := a_this) (rest := []) (wc := (uX2_settle cI cJ a_this a_pond a_moves a_numbering a_search a_levelEnds a_sorted a_mosts a_winners i_settledLook a_moves_pond a_moves_targets g_moves_targets a_moves_pond_behinds a_moves_pond_depths i_moves_pond_size i_moves_pond_isRing i_moves_pond_overOthers i_moves_pond_longestLeap g_moves_pond_behinds a_pond_behinds a_pond_depths i_pond_size i_pond_isRing i_pond_overOthers i_pond_longestLeap a_numbering_lowStarts a_numbering_highNumbers a_numbering_mixtureSizes i_numbering_lowBits i_numbering_all g_numbering_lowStarts g_numbering_highNumbers g_mosts g_winners)) (ci := 2) (q0 := 0) C hP hD [0, 18, 19, 20, 21, 15, 22, 23, 24, 25, 26] rfl rfl rfl rfl (mX2_settle l D cI cJ H.size hq) 1 gX2_settleFrom_X2_settle rfl ⟨rfl, rfl, Nat.le_of_ble_eq_true rfl, Nat.le_of_ble_eq_true rfl⟩ hdX2_settle rfl hl.1 rfl (Nat.le_of_ble_eq_true rfl) dX2_settleFrom_54) hP hD hS hA [0, 18, 19, 20, 21, 15, 22, 23, 24, 25, 26] rfl rfl (fun H locs hP hD hS => ?_)
    have hP : va_P D vwCl (uX2_settleFrom cI cJ a_this a_pond a_moves a_numbering a_search a_levelEnds a_sorted a_mosts a_winners i_settledLook a_search_pond a_search_moves a_search_numbering a_search_orders a_search_steps a_search_rows a_search_firsts i_search_start i_search_stands i_search_looks i_search_reached i_search_stuck i_search_farthest a_search_numbering_lowStarts a_search_numbering_highNumbers a_search_numbering_mixtureSizes i_search_numbering_lowBits i_search_numbering_all g_search_steps g_search_numbering_lowStarts g_search_numbering_highNumbers g_search_rows g_search_firsts g_search_orders a_search_moves_pond a_search_moves_targets g_search_moves_targets a_search_moves_pond_behinds a_search_moves_pond_depths i_search_moves_pond_size i_search_moves_pond_isRing i_search_moves_pond_overOthers i_search_moves_pond_longestLeap g_search_moves_pond_behinds a_search_pond_behinds a_search_pond_depths i_search_pond_size i_search_pond_isRing i_search_pond_overOthers i_search_pond_longestLeap g_levelEnds a_pond_behinds a_pond_depths i_pond_size i_pond_isRing i_pond_overOthers i_pond_longestLeap g_pond_depths g_sorted a_moves_pond a_moves_targets q3.1 a_moves_pond_behinds a_moves_pond_depths i_moves_pond_size i_moves_pond_isRing i_moves_pond_overOthers i_moves_pond_longestLeap g_moves_pond_behinds a_numbering_lowStarts a_numbering_highNumbers a_numbering_mixtureSizes i_numbering_lowBits i_numbering_all g_numbering_lowStarts g_numbering_highNumbers q3.2.1 q3.2.2) H := hP
    have hD : va_D A (uX2_settleFrom cI cJ a_this a_pond a_moves a_numbering a_search a_levelEnds a_sorted a_mosts a_winners i_settledLook a_search_pond a_search_moves a_search_numbering a_search_orders a_search_steps a_search_rows a_search_firsts i_search_start i_search_stands i_search_looks i_search_reached i_search_stuck i_search_farthest a_search_numbering_lowStarts a_search_numbering_highNumbers a_search_numbering_mixtureSizes i_search_numbering_lowBits i_search_numbering_all g_search_steps g_search_numbering_lowStarts g_search_numbering_highNumbers g_search_rows g_search_firsts g_search_orders a_search_moves_pond a_search_moves_targets g_search_moves_targets a_search_moves_pond_behinds a_search_moves_pond_depths i_search_moves_pond_size i_search_moves_pond_isRing i_search_moves_pond_overOthers i_search_moves_pond_longestLeap g_search_moves_pond_behinds a_search_pond_behinds a_search_pond_depths i_search_pond_size i_search_pond_isRing i_search_pond_overOthers i_search_pond_longestLeap g_levelEnds a_pond_behinds a_pond_depths i_pond_size i_pond_isRing i_pond_overOthers i_pond_longestLeap g_pond_depths g_sorted a_moves_pond a_moves_targets q3.1 a_moves_pond_behinds a_moves_pond_depths i_moves_pond_size i_moves_pond_isRing i_moves_pond_overOthers i_moves_pond_longestLeap g_moves_pond_behinds a_numbering_lowStarts a_numbering_highNumbers a_numbering_mixtureSizes i_numbering_lowBits i_numbering_all g_numbering_lowStarts g_numbering_highNumbers q3.2.1 q3.2.2) := hD
    refine lv_iinc (v := (x2 + (-1))) (lv' := [(2, .int (x2 + (-1))), (0, .ref a_this)]) hx hb dX2_settleFrom_57 hl (k := 1) rfl rfl (by decide) rfl (fun ls hl => ?_)
    refine lv_goto (tgt := 43) hx hb dX2_settleFrom_60 (by decide) ?_
    have ho := Option.some.inj hf
    subst ho
    exact hbk _ rfl _ _ _ hP hD hS (lv_sub hl [1, 0] rfl)
set_option maxHeartbeats 4000000 in
set_option maxRecDepth 100000 in
theorem kX2_settleFrom_J63 {p : Program} {l : Launch} {e : Env} {s : State} {m : MethodId} {args : Array Value} {below : List Frame} {meth : Method} {c : Code} {Q : State → Prop} {A : Nat → Prop} {D : va_G} {cI cJ : ClassId} (C : bC cX2_settleFrom 3 RX2 wsX2_settleFrom D cI cJ p s m args c meth A)
    {a_this : Nat} {a_pond : Nat} {a_moves : Nat} {a_numbering : Nat} {a_search : Nat} {a_levelEnds : Nat} {a_sorted : Nat} {a_mosts : Nat} {a_winners : Nat} {i_settledLook : Int32} {a_search_pond : Nat} {a_search_moves : Nat} {a_search_numbering : Nat} {a_search_orders : Nat} {a_search_steps : Nat} {a_search_rows : Nat} {a_search_firsts : Nat} {i_search_start : Int32} {i_search_stands : Int32} {i_search_looks : Int32} {i_search_reached : Int32} {i_search_stuck : Int32} {i_search_farthest : Int32} {a_search_numbering_lowStarts : Nat} {a_search_numbering_highNumbers : Nat} {a_search_numbering_mixtureSizes : Nat} {i_search_numbering_lowBits : Int32} {i_search_numbering_all : Int32} {g_search_steps : Nat → Int32} {g_search_numbering_lowStarts : Nat → Int32} {g_search_numbering_highNumbers : Nat → Int32} {g_search_rows : Nat → Int64} {g_search_firsts : Nat → Int32} {g_search_orders : Nat → Int32} {a_search_moves_pond : Nat} {a_search_moves_targets : Nat} {g_search_moves_targets : Nat → Int32} {a_search_moves_pond_behinds : Nat} {a_search_moves_pond_depths : Nat} {i_search_moves_pond_size : Int32} {i_search_moves_pond_isRing : Int32} {i_search_moves_pond_overOthers : Int32} {i_search_moves_pond_longestLeap : Int32} {g_search_moves_pond_behinds : Nat → Int32} {a_search_pond_behinds : Nat} {a_search_pond_depths : Nat} {i_search_pond_size : Int32} {i_search_pond_isRing : Int32} {i_search_pond_overOthers : Int32} {i_search_pond_longestLeap : Int32} {g_levelEnds : Nat → Int32} {a_pond_behinds : Nat} {a_pond_depths : Nat} {i_pond_size : Int32} {i_pond_isRing : Int32} {i_pond_overOthers : Int32} {i_pond_longestLeap : Int32} {g_pond_depths : Nat → Int32} {g_sorted : Nat → Int32} {a_moves_pond : Nat} {a_moves_targets : Nat} {g_moves_targets : Nat → Int32} {a_moves_pond_behinds : Nat} {a_moves_pond_depths : Nat} {i_moves_pond_size : Int32} {i_moves_pond_isRing : Int32} {i_moves_pond_overOthers : Int32} {i_moves_pond_longestLeap : Int32} {g_moves_pond_behinds : Nat → Int32} {a_numbering_lowStarts : Nat} {a_numbering_highNumbers : Nat} {a_numbering_mixtureSizes : Nat} {i_numbering_lowBits : Int32} {i_numbering_all : Int32} {g_numbering_lowStarts : Nat → Int32} {g_numbering_highNumbers : Nat → Int32} {g_mosts : Nat → Int32} {g_winners : Nat → Int32} {z : Nat} {o : (Nat → Int32) × Int32 × Int32 × Int32 × (Nat → Int64) × (Nat → Int32) × (Nat → Int32) × (Nat → Int32) × Int32 × Int32 × Int32 × (Nat → Int32) × (Nat → Int32) × (Nat → Int32) × (Nat → Int32) × (Nat → Int32) × Int32} (hf : fX2_settleFrom_J63 z i_search_stands i_search_start i_search_numbering_all g_search_steps i_search_numbering_lowBits g_search_numbering_lowStarts g_search_numbering_highNumbers i_search_reached g_search_rows g_search_firsts g_search_orders g_search_moves_targets i_search_moves_pond_size i_search_moves_pond_longestLeap g_search_moves_pond_behinds i_search_moves_pond_overOthers i_search_pond_size i_search_stuck i_search_looks i_settledLook g_levelEnds i_pond_size g_pond_depths g_sorted g_moves_targets i_moves_pond_size i_moves_pond_longestLeap g_moves_pond_behinds i_moves_pond_overOthers i_numbering_lowBits g_numbering_lowStarts g_numbering_highNumbers i_numbering_all g_mosts g_winners i_search_farthest = some o)
    (hrt : ∀ (H : Heap) (locs : List Loc) (ls : Array Slot) (pc : Nat), va_P D vwCl (uX2_settleFrom cI cJ a_this a_pond a_moves a_numbering a_search a_levelEnds a_sorted a_mosts a_winners o.2.2.2.2.2.2.2.2.2.2.2.2.2.2.2.2 a_search_pond a_search_moves a_search_numbering a_search_orders a_search_steps a_search_rows a_search_firsts o.2.2.2.2.2.2.2.2.1 o.2.2.2.2.2.2.2.2.2.1 o.2.2.2.2.2.2.2.2.2.2.1 o.2.1 o.2.2.1 o.2.2.2.1 a_search_numbering_lowStarts a_search_numbering_highNumbers a_search_numbering_mixtureSizes i_search_numbering_lowBits i_search_numbering_all o.1 g_search_numbering_lowStarts g_search_numbering_highNumbers o.2.2.2.2.1 o.2.2.2.2.2.1 o.2.2.2.2.2.2.1 a_search_moves_pond a_search_moves_targets o.2.2.2.2.2.2.2.1 a_search_moves_pond_behinds a_search_moves_pond_depths i_search_moves_pond_size i_search_moves_pond_isRing i_search_moves_pond_overOthers i_search_moves_pond_longestLeap g_search_moves_pond_behinds a_search_pond_behinds a_search_pond_depths i_search_pond_size i_search_pond_isRing i_search_pond_overOthers i_search_pond_longestLeap o.2.2.2.2.2.2.2.2.2.2.2.1 a_pond_behinds a_pond_depths i_pond_size i_pond_isRing i_pond_overOthers i_pond_longestLeap g_pond_depths o.2.2.2.2.2.2.2.2.2.2.2.2.1 a_moves_pond a_moves_targets o.2.2.2.2.2.2.2.2.2.2.2.2.2.1 a_moves_pond_behinds a_moves_pond_depths i_moves_pond_size i_moves_pond_isRing i_moves_pond_overOthers i_moves_pond_longestLeap g_moves_pond_behinds a_numbering_lowStarts a_numbering_highNumbers a_numbering_mixtureSizes i_numbering_lowBits i_numbering_all g_numbering_lowStarts g_numbering_highNumbers o.2.2.2.2.2.2.2.2.2.2.2.2.2.2.1 o.2.2.2.2.2.2.2.2.2.2.2.2.2.2.2.1) H → va_D A (uX2_settleFrom cI cJ a_this a_pond a_moves a_numbering a_search a_levelEnds a_sorted a_mosts a_winners o.2.2.2.2.2.2.2.2.2.2.2.2.2.2.2.2 a_search_pond a_search_moves a_search_numbering a_search_orders a_search_steps a_search_rows a_search_firsts o.2.2.2.2.2.2.2.2.1 o.2.2.2.2.2.2.2.2.2.1 o.2.2.2.2.2.2.2.2.2.2.1 o.2.1 o.2.2.1 o.2.2.2.1 a_search_numbering_lowStarts a_search_numbering_highNumbers a_search_numbering_mixtureSizes i_search_numbering_lowBits i_search_numbering_all o.1 g_search_numbering_lowStarts g_search_numbering_highNumbers o.2.2.2.2.1 o.2.2.2.2.2.1 o.2.2.2.2.2.2.1 a_search_moves_pond a_search_moves_targets o.2.2.2.2.2.2.2.1 a_search_moves_pond_behinds a_search_moves_pond_depths i_search_moves_pond_size i_search_moves_pond_isRing i_search_moves_pond_overOthers i_search_moves_pond_longestLeap g_search_moves_pond_behinds a_search_pond_behinds a_search_pond_depths i_search_pond_size i_search_pond_isRing i_search_pond_overOthers i_search_pond_longestLeap o.2.2.2.2.2.2.2.2.2.2.2.1 a_pond_behinds a_pond_depths i_pond_size i_pond_isRing i_pond_overOthers i_pond_longestLeap g_pond_depths o.2.2.2.2.2.2.2.2.2.2.2.2.1 a_moves_pond a_moves_targets o.2.2.2.2.2.2.2.2.2.2.2.2.2.1 a_moves_pond_behinds a_moves_pond_depths i_moves_pond_size i_moves_pond_isRing i_moves_pond_overOthers i_moves_pond_longestLeap g_moves_pond_behinds a_numbering_lowStarts a_numbering_highNumbers a_numbering_mixtureSizes i_numbering_lowBits i_numbering_all g_numbering_lowStarts g_numbering_highNumbers o.2.2.2.2.2.2.2.2.2.2.2.2.2.2.1 o.2.2.2.2.2.2.2.2.2.2.2.2.2.2.2.1) → va_S A s.heap H locs → decode cX2_settleFrom pc = .ok (.return_, 1) → W p l e rX2_settleFrom s m args below meth c H locs 0 0 Q (F0 m pc ls []))
    {H : Heap} {locs : List Loc} {ls : Array Slot} (hP : va_P D vwCl (uX2_settleFrom cI cJ a_this a_pond a_moves a_numbering a_search a_levelEnds a_sorted a_mosts a_winners i_settledLook a_search_pond a_search_moves a_search_numbering a_search_orders a_search_steps a_search_rows a_search_firsts i_search_start i_search_stands i_search_looks i_search_reached i_search_stuck i_search_farthest a_search_numbering_lowStarts a_search_numbering_highNumbers a_search_numbering_mixtureSizes i_search_numbering_lowBits i_search_numbering_all g_search_steps g_search_numbering_lowStarts g_search_numbering_highNumbers g_search_rows g_search_firsts g_search_orders a_search_moves_pond a_search_moves_targets g_search_moves_targets a_search_moves_pond_behinds a_search_moves_pond_depths i_search_moves_pond_size i_search_moves_pond_isRing i_search_moves_pond_overOthers i_search_moves_pond_longestLeap g_search_moves_pond_behinds a_search_pond_behinds a_search_pond_depths i_search_pond_size i_search_pond_isRing i_search_pond_overOthers i_search_pond_longestLeap g_levelEnds a_pond_behinds a_pond_depths i_pond_size i_pond_isRing i_pond_overOthers i_pond_longestLeap g_pond_depths g_sorted a_moves_pond a_moves_targets g_moves_targets a_moves_pond_behinds a_moves_pond_depths i_moves_pond_size i_moves_pond_isRing i_moves_pond_overOthers i_moves_pond_longestLeap g_moves_pond_behinds a_numbering_lowStarts a_numbering_highNumbers a_numbering_mixtureSizes i_numbering_lowBits i_numbering_all g_numbering_lowStarts g_numbering_highNumbers g_mosts g_winners) H) (hD : va_D A (uX2_settleFrom cI cJ a_this a_pond a_moves a_numbering a_search a_levelEnds a_sorted a_mosts a_winners i_settledLook a_search_pond a_search_moves a_search_numbering a_search_orders a_search_steps a_search_rows a_search_firsts i_search_start i_search_stands i_search_looks i_search_reached i_search_stuck i_search_farthest a_search_numbering_lowStarts a_search_numbering_highNumbers a_search_numbering_mixtureSizes i_search_numbering_lowBits i_search_numbering_all g_search_steps g_search_numbering_lowStarts g_search_numbering_highNumbers g_search_rows g_search_firsts g_search_orders a_search_moves_pond a_search_moves_targets g_search_moves_targets a_search_moves_pond_behinds a_search_moves_pond_depths i_search_moves_pond_size i_search_moves_pond_isRing i_search_moves_pond_overOthers i_search_moves_pond_longestLeap g_search_moves_pond_behinds a_search_pond_behinds a_search_pond_depths i_search_pond_size i_search_pond_isRing i_search_pond_overOthers i_search_pond_longestLeap g_levelEnds a_pond_behinds a_pond_depths i_pond_size i_pond_isRing i_pond_overOthers i_pond_longestLeap g_pond_depths g_sorted a_moves_pond a_moves_targets g_moves_targets a_moves_pond_behinds a_moves_pond_depths i_moves_pond_size i_moves_pond_isRing i_moves_pond_overOthers i_moves_pond_longestLeap g_moves_pond_behinds a_numbering_lowStarts a_numbering_highNumbers a_numbering_mixtureSizes i_numbering_lowBits i_numbering_all g_numbering_lowStarts g_numbering_highNumbers g_mosts g_winners)) (hS : va_S A s.heap H locs) (hl : lv_has ls 3 [(0, .ref a_this)]) : W p l e rX2_settleFrom s m args below meth c H locs 0 0 Q (F0 m 63 ls []) := by
  obtain ⟨hx, hb, hml, hown, hts, hK, hN, hA, hlocks⟩ := id C
  unfold fX2_settleFrom_J63 at hf
  refine lv_aload_n hx hb dX2_settleFrom_63 rfl (lv_at hl 0 rfl) ?_
  refine lv_aload_n hx hb dX2_settleFrom_64 rfl (lv_at hl 0 rfl) ?_
  refine va_get (D := D) (ci := 2) (v := .ref a_search) (C := RX2) (T := TX2) (N := 9) hx hb hts jX2_settleFrom_X2 hown hK hP 0 rfl rfl 3 (by decide) (hts _ qX2_settleFrom_36) (fun _ h9 => h9) rfl dX2_settleFrom_65 ?_
  refine va_get (D := D) (ci := 8) (v := .int i_search_looks) (C := RX8) (T := TX8) (N := 13) hx hb hts jX2_settleFrom_X8 hown hK hP 1 rfl rfl 9 (by decide) (hts _ qX2_settleFrom_50) (fun _ h9 => h9) rfl dX2_settleFrom_68 ?_
  refine va_put (D := D) (ci := 2) (v := .int i_search_looks) (ty := tyX2 8) (C := RX2) (T := TX2) (N := 9) hx hb hts jX2_settleFrom_X2 tyX2 tyX2_ok nmX2 hown hK hP hD hS 0 rfl rfl 8 (by decide) (hts _ qX2_settleFrom_46) (fun _ h9 => h9) rfl (tyX2_ok 8 (by decide)) rfl rfl (Nat.le_of_ble_eq_true rfl) dX2_settleFrom_71 (fun H locs hP hD hS => ?_)
  have hP : va_P D vwCl (uX2_settleFrom cI cJ a_this a_pond a_moves a_numbering a_search a_levelEnds a_sorted a_mosts a_winners i_search_looks a_search_pond a_search_moves a_search_numbering a_search_orders a_search_steps a_search_rows a_search_firsts i_search_start i_search_stands i_search_looks i_search_reached i_search_stuck i_search_farthest a_search_numbering_lowStarts a_search_numbering_highNumbers a_search_numbering_mixtureSizes i_search_numbering_lowBits i_search_numbering_all g_search_steps g_search_numbering_lowStarts g_search_numbering_highNumbers g_search_rows g_search_firsts g_search_orders a_search_moves_pond a_search_moves_targets g_search_moves_targets a_search_moves_pond_behinds a_search_moves_pond_depths i_search_moves_pond_size i_search_moves_pond_isRing i_search_moves_pond_overOthers i_search_moves_pond_longestLeap g_search_moves_pond_behinds a_search_pond_behinds a_search_pond_depths i_search_pond_size i_search_pond_isRing i_search_pond_overOthers i_search_pond_longestLeap g_levelEnds a_pond_behinds a_pond_depths i_pond_size i_pond_isRing i_pond_overOthers i_pond_longestLeap g_pond_depths g_sorted a_moves_pond a_moves_targets g_moves_targets a_moves_pond_behinds a_moves_pond_depths i_moves_pond_size i_moves_pond_isRing i_moves_pond_overOthers i_moves_pond_longestLeap g_moves_pond_behinds a_numbering_lowStarts a_numbering_highNumbers a_numbering_mixtureSizes i_numbering_lowBits i_numbering_all g_numbering_lowStarts g_numbering_highNumbers g_mosts g_winners) H := hP
  have hD : va_D A (uX2_settleFrom cI cJ a_this a_pond a_moves a_numbering a_search a_levelEnds a_sorted a_mosts a_winners i_search_looks a_search_pond a_search_moves a_search_numbering a_search_orders a_search_steps a_search_rows a_search_firsts i_search_start i_search_stands i_search_looks i_search_reached i_search_stuck i_search_farthest a_search_numbering_lowStarts a_search_numbering_highNumbers a_search_numbering_mixtureSizes i_search_numbering_lowBits i_search_numbering_all g_search_steps g_search_numbering_lowStarts g_search_numbering_highNumbers g_search_rows g_search_firsts g_search_orders a_search_moves_pond a_search_moves_targets g_search_moves_targets a_search_moves_pond_behinds a_search_moves_pond_depths i_search_moves_pond_size i_search_moves_pond_isRing i_search_moves_pond_overOthers i_search_moves_pond_longestLeap g_search_moves_pond_behinds a_search_pond_behinds a_search_pond_depths i_search_pond_size i_search_pond_isRing i_search_pond_overOthers i_search_pond_longestLeap g_levelEnds a_pond_behinds a_pond_depths i_pond_size i_pond_isRing i_pond_overOthers i_pond_longestLeap g_pond_depths g_sorted a_moves_pond a_moves_targets g_moves_targets a_moves_pond_behinds a_moves_pond_depths i_moves_pond_size i_moves_pond_isRing i_moves_pond_overOthers i_moves_pond_longestLeap g_moves_pond_behinds a_numbering_lowStarts a_numbering_highNumbers a_numbering_mixtureSizes i_numbering_lowBits i_numbering_all g_numbering_lowStarts g_numbering_highNumbers g_mosts g_winners) := hD
  have ho := Option.some.inj hf
  subst ho
  exact hrt H locs ls _ hP hD hS dX2_settleFrom_74
set_option maxHeartbeats 4000000 in
set_option maxRecDepth 100000 in
theorem kX2_settleFrom_0 {p : Program} {l : Launch} {e : Env} {s : State} {m : MethodId} {args : Array Value} {below : List Frame} {meth : Method} {c : Code} {Q : State → Prop} {A : Nat → Prop} {D : va_G} {cI cJ : ClassId} (C : bC cX2_settleFrom 3 RX2 wsX2_settleFrom D cI cJ p s m args c meth A)
    {a_this : Nat} {a_pond : Nat} {a_moves : Nat} {a_numbering : Nat} {a_search : Nat} {a_levelEnds : Nat} {a_sorted : Nat} {a_mosts : Nat} {a_winners : Nat} {i_settledLook : Int32} {a_search_pond : Nat} {a_search_moves : Nat} {a_search_numbering : Nat} {a_search_orders : Nat} {a_search_steps : Nat} {a_search_rows : Nat} {a_search_firsts : Nat} {i_search_start : Int32} {i_search_stands : Int32} {i_search_looks : Int32} {i_search_reached : Int32} {i_search_stuck : Int32} {i_search_farthest : Int32} {a_search_numbering_lowStarts : Nat} {a_search_numbering_highNumbers : Nat} {a_search_numbering_mixtureSizes : Nat} {i_search_numbering_lowBits : Int32} {i_search_numbering_all : Int32} {g_search_steps : Nat → Int32} {g_search_numbering_lowStarts : Nat → Int32} {g_search_numbering_highNumbers : Nat → Int32} {g_search_rows : Nat → Int64} {g_search_firsts : Nat → Int32} {g_search_orders : Nat → Int32} {a_search_moves_pond : Nat} {a_search_moves_targets : Nat} {g_search_moves_targets : Nat → Int32} {a_search_moves_pond_behinds : Nat} {a_search_moves_pond_depths : Nat} {i_search_moves_pond_size : Int32} {i_search_moves_pond_isRing : Int32} {i_search_moves_pond_overOthers : Int32} {i_search_moves_pond_longestLeap : Int32} {g_search_moves_pond_behinds : Nat → Int32} {a_search_pond_behinds : Nat} {a_search_pond_depths : Nat} {i_search_pond_size : Int32} {i_search_pond_isRing : Int32} {i_search_pond_overOthers : Int32} {i_search_pond_longestLeap : Int32} {g_levelEnds : Nat → Int32} {a_pond_behinds : Nat} {a_pond_depths : Nat} {i_pond_size : Int32} {i_pond_isRing : Int32} {i_pond_overOthers : Int32} {i_pond_longestLeap : Int32} {g_pond_depths : Nat → Int32} {g_sorted : Nat → Int32} {a_moves_pond : Nat} {a_moves_targets : Nat} {g_moves_targets : Nat → Int32} {a_moves_pond_behinds : Nat} {a_moves_pond_depths : Nat} {i_moves_pond_size : Int32} {i_moves_pond_isRing : Int32} {i_moves_pond_overOthers : Int32} {i_moves_pond_longestLeap : Int32} {g_moves_pond_behinds : Nat → Int32} {a_numbering_lowStarts : Nat} {a_numbering_highNumbers : Nat} {a_numbering_mixtureSizes : Nat} {i_numbering_lowBits : Int32} {i_numbering_all : Int32} {g_numbering_lowStarts : Nat → Int32} {g_numbering_highNumbers : Nat → Int32} {g_mosts : Nat → Int32} {g_winners : Nat → Int32} {z : Nat} {x1 : Int32} {o : (Nat → Int32) × Int32 × Int32 × Int32 × (Nat → Int64) × (Nat → Int32) × (Nat → Int32) × (Nat → Int32) × Int32 × Int32 × Int32 × (Nat → Int32) × (Nat → Int32) × (Nat → Int32) × (Nat → Int32) × (Nat → Int32) × Int32} (hf : fX2_settleFrom z x1 i_search_stands i_search_start i_search_numbering_all g_search_steps i_search_numbering_lowBits g_search_numbering_lowStarts g_search_numbering_highNumbers i_search_reached g_search_rows g_search_firsts g_search_orders g_search_moves_targets i_search_moves_pond_size i_search_moves_pond_longestLeap g_search_moves_pond_behinds i_search_moves_pond_overOthers i_search_pond_size i_search_stuck i_search_looks i_settledLook g_levelEnds i_pond_size g_pond_depths g_sorted g_moves_targets i_moves_pond_size i_moves_pond_longestLeap g_moves_pond_behinds i_moves_pond_overOthers i_numbering_lowBits g_numbering_lowStarts g_numbering_highNumbers i_numbering_all g_mosts g_winners i_search_farthest = some o)
    (hrt : ∀ (H : Heap) (locs : List Loc) (ls : Array Slot) (pc : Nat), va_P D vwCl (uX2_settleFrom cI cJ a_this a_pond a_moves a_numbering a_search a_levelEnds a_sorted a_mosts a_winners o.2.2.2.2.2.2.2.2.2.2.2.2.2.2.2.2 a_search_pond a_search_moves a_search_numbering a_search_orders a_search_steps a_search_rows a_search_firsts o.2.2.2.2.2.2.2.2.1 o.2.2.2.2.2.2.2.2.2.1 o.2.2.2.2.2.2.2.2.2.2.1 o.2.1 o.2.2.1 o.2.2.2.1 a_search_numbering_lowStarts a_search_numbering_highNumbers a_search_numbering_mixtureSizes i_search_numbering_lowBits i_search_numbering_all o.1 g_search_numbering_lowStarts g_search_numbering_highNumbers o.2.2.2.2.1 o.2.2.2.2.2.1 o.2.2.2.2.2.2.1 a_search_moves_pond a_search_moves_targets o.2.2.2.2.2.2.2.1 a_search_moves_pond_behinds a_search_moves_pond_depths i_search_moves_pond_size i_search_moves_pond_isRing i_search_moves_pond_overOthers i_search_moves_pond_longestLeap g_search_moves_pond_behinds a_search_pond_behinds a_search_pond_depths i_search_pond_size i_search_pond_isRing i_search_pond_overOthers i_search_pond_longestLeap o.2.2.2.2.2.2.2.2.2.2.2.1 a_pond_behinds a_pond_depths i_pond_size i_pond_isRing i_pond_overOthers i_pond_longestLeap g_pond_depths o.2.2.2.2.2.2.2.2.2.2.2.2.1 a_moves_pond a_moves_targets o.2.2.2.2.2.2.2.2.2.2.2.2.2.1 a_moves_pond_behinds a_moves_pond_depths i_moves_pond_size i_moves_pond_isRing i_moves_pond_overOthers i_moves_pond_longestLeap g_moves_pond_behinds a_numbering_lowStarts a_numbering_highNumbers a_numbering_mixtureSizes i_numbering_lowBits i_numbering_all g_numbering_lowStarts g_numbering_highNumbers o.2.2.2.2.2.2.2.2.2.2.2.2.2.2.1 o.2.2.2.2.2.2.2.2.2.2.2.2.2.2.2.1) H → va_D A (uX2_settleFrom cI cJ a_this a_pond a_moves a_numbering a_search a_levelEnds a_sorted a_mosts a_winners o.2.2.2.2.2.2.2.2.2.2.2.2.2.2.2.2 a_search_pond a_search_moves a_search_numbering a_search_orders a_search_steps a_search_rows a_search_firsts o.2.2.2.2.2.2.2.2.1 o.2.2.2.2.2.2.2.2.2.1 o.2.2.2.2.2.2.2.2.2.2.1 o.2.1 o.2.2.1 o.2.2.2.1 a_search_numbering_lowStarts a_search_numbering_highNumbers a_search_numbering_mixtureSizes i_search_numbering_lowBits i_search_numbering_all o.1 g_search_numbering_lowStarts g_search_numbering_highNumbers o.2.2.2.2.1 o.2.2.2.2.2.1 o.2.2.2.2.2.2.1 a_search_moves_pond a_search_moves_targets o.2.2.2.2.2.2.2.1 a_search_moves_pond_behinds a_search_moves_pond_depths i_search_moves_pond_size i_search_moves_pond_isRing i_search_moves_pond_overOthers i_search_moves_pond_longestLeap g_search_moves_pond_behinds a_search_pond_behinds a_search_pond_depths i_search_pond_size i_search_pond_isRing i_search_pond_overOthers i_search_pond_longestLeap o.2.2.2.2.2.2.2.2.2.2.2.1 a_pond_behinds a_pond_depths i_pond_size i_pond_isRing i_pond_overOthers i_pond_longestLeap g_pond_depths o.2.2.2.2.2.2.2.2.2.2.2.2.1 a_moves_pond a_moves_targets o.2.2.2.2.2.2.2.2.2.2.2.2.2.1 a_moves_pond_behinds a_moves_pond_depths i_moves_pond_size i_moves_pond_isRing i_moves_pond_overOthers i_moves_pond_longestLeap g_moves_pond_behinds a_numbering_lowStarts a_numbering_highNumbers a_numbering_mixtureSizes i_numbering_lowBits i_numbering_all g_numbering_lowStarts g_numbering_highNumbers o.2.2.2.2.2.2.2.2.2.2.2.2.2.2.1 o.2.2.2.2.2.2.2.2.2.2.2.2.2.2.2.1) → va_S A s.heap H locs → decode cX2_settleFrom pc = .ok (.return_, 1) → W p l e rX2_settleFrom s m args below meth c H locs 0 0 Q (F0 m pc ls []))
    {H : Heap} {locs : List Loc} {ls : Array Slot} (hP : va_P D vwCl (uX2_settleFrom cI cJ a_this a_pond a_moves a_numbering a_search a_levelEnds a_sorted a_mosts a_winners i_settledLook a_search_pond a_search_moves a_search_numbering a_search_orders a_search_steps a_search_rows a_search_firsts i_search_start i_search_stands i_search_looks i_search_reached i_search_stuck i_search_farthest a_search_numbering_lowStarts a_search_numbering_highNumbers a_search_numbering_mixtureSizes i_search_numbering_lowBits i_search_numbering_all g_search_steps g_search_numbering_lowStarts g_search_numbering_highNumbers g_search_rows g_search_firsts g_search_orders a_search_moves_pond a_search_moves_targets g_search_moves_targets a_search_moves_pond_behinds a_search_moves_pond_depths i_search_moves_pond_size i_search_moves_pond_isRing i_search_moves_pond_overOthers i_search_moves_pond_longestLeap g_search_moves_pond_behinds a_search_pond_behinds a_search_pond_depths i_search_pond_size i_search_pond_isRing i_search_pond_overOthers i_search_pond_longestLeap g_levelEnds a_pond_behinds a_pond_depths i_pond_size i_pond_isRing i_pond_overOthers i_pond_longestLeap g_pond_depths g_sorted a_moves_pond a_moves_targets g_moves_targets a_moves_pond_behinds a_moves_pond_depths i_moves_pond_size i_moves_pond_isRing i_moves_pond_overOthers i_moves_pond_longestLeap g_moves_pond_behinds a_numbering_lowStarts a_numbering_highNumbers a_numbering_mixtureSizes i_numbering_lowBits i_numbering_all g_numbering_lowStarts g_numbering_highNumbers g_mosts g_winners) H) (hD : va_D A (uX2_settleFrom cI cJ a_this a_pond a_moves a_numbering a_search a_levelEnds a_sorted a_mosts a_winners i_settledLook a_search_pond a_search_moves a_search_numbering a_search_orders a_search_steps a_search_rows a_search_firsts i_search_start i_search_stands i_search_looks i_search_reached i_search_stuck i_search_farthest a_search_numbering_lowStarts a_search_numbering_highNumbers a_search_numbering_mixtureSizes i_search_numbering_lowBits i_search_numbering_all g_search_steps g_search_numbering_lowStarts g_search_numbering_highNumbers g_search_rows g_search_firsts g_search_orders a_search_moves_pond a_search_moves_targets g_search_moves_targets a_search_moves_pond_behinds a_search_moves_pond_depths i_search_moves_pond_size i_search_moves_pond_isRing i_search_moves_pond_overOthers i_search_moves_pond_longestLeap g_search_moves_pond_behinds a_search_pond_behinds a_search_pond_depths i_search_pond_size i_search_pond_isRing i_search_pond_overOthers i_search_pond_longestLeap g_levelEnds a_pond_behinds a_pond_depths i_pond_size i_pond_isRing i_pond_overOthers i_pond_longestLeap g_pond_depths g_sorted a_moves_pond a_moves_targets g_moves_targets a_moves_pond_behinds a_moves_pond_depths i_moves_pond_size i_moves_pond_isRing i_moves_pond_overOthers i_moves_pond_longestLeap g_moves_pond_behinds a_numbering_lowStarts a_numbering_highNumbers a_numbering_mixtureSizes i_numbering_lowBits i_numbering_all g_numbering_lowStarts g_numbering_highNumbers g_mosts g_winners)) (hS : va_S A s.heap H locs) (hl : lv_has ls 3 [(0, .ref a_this), (1, .int x1)]) : W p l e rX2_settleFrom s m args below meth c H locs 0 0 Q (F0 m 0 ls []) := by
  obtain ⟨hx, hb, hml, hown, hts, hK, hN, hA, hlocks⟩ := id C
  unfold fX2_settleFrom at hf
  refine lv_aload_n hx hb dX2_settleFrom_0 rfl (lv_at hl 0 rfl) ?_
  refine va_get (D := D) (ci := 2) (v := .ref a_search) (C := RX2) (T := TX2) (N := 9) hx hb hts jX2_settleFrom_X2 hown hK hP 0 rfl rfl 3 (by decide) (hts _ qX2_settleFrom_36) (fun _ h9 => h9) rfl dX2_settleFrom_1 ?_
  refine lv_iload_n hx hb dX2_settleFrom_4 rfl (lv_at hl 1 rfl) ?_
  obtain ⟨q1, hq, hf⟩ := ob_some hf
  refine cl_v (wc := (uX8_lookFrom cI cJ a_search a_search_pond a_search_moves a_search_numbering a_search_orders a_search_steps a_search_rows a_search_firsts i_search_start i_search_stands i_search_looks i_search_reached i_search_stuck i_search_farthest a_search_numbering_lowStarts a_search_numbering_highNumbers a_search_numbering_mixtureSizes i_search_numbering_lowBits i_search_numbering_all g_search_steps g_search_numbering_lowStarts g_search_numbering_highNumbers g_search_rows g_search_firsts g_search_orders a_search_moves_pond a_search_moves_targets g_search_moves_targets a_search_moves_pond_behinds a_search_moves_pond_depths i_search_moves_pond_size i_search_moves_pond_isRing i_search_moves_pond_overOthers i_search_moves_pond_longestLeap g_search_moves_pond_behinds a_search_pond_behinds a_search_pond_depths i_search_pond_size i_search_pond_isRing i_search_pond_overOthers i_search_pond_longestLeap)) (w1 := (uX8_lookFrom cI cJ a_search a_search_pond a_search_moves a_search_numbering a_search_orders a_search_steps a_search_rows a_search_firsts q1.2.2.2.2.2.2.2.2.1 q1.2.2.2.2.2.2.2.2.2.1 q1.2.2.2.2.2.2.2.2.2.2 q1.2.1 q1.2.2.1 q1.2.2.2.1 a_search_numbering_lowStarts a_search_numbering_highNumbers a_search_numbering_mixtureSizes i_search_numbering_lowBits i_search_numbering_all q1.1 g_search_numbering_lowStarts g_search_numbering_highNumbers q1.2.2.2.2.1 q1.2.2.2.2.2.1 q1.2.2.2.2.2.2.1 a_search_moves_pond a_search_moves_targets q1.2.2.2.2.2.2.2.1 a_search_moves_pond_behinds a_search_moves_pond_depths i_search_moves_pond_size i_search_moves_pond_isRing i_search_moves_pond_overOthers i_search_moves_pond_longestLeap g_search_moves_pond_behinds a_search_pond_behinds a_search_pond_depths i_search_pond_size i_search_pond_isRing i_search_pond_overOthers i_search_pond_longestLeap)) (rn_V (As := [.int x1]) (b := a_search) (rest := []) (wc := (uX8_lookFrom cI cJ a_search a_search_pond a_search_moves a_search_numbering a_search_orders a_search_steps a_search_rows a_search_firsts i_search_start i_search_stands i_search_looks i_search_reached i_search_stuck i_search_farthest a_search_numbering_lowStarts a_search_numbering_highNumbers a_search_numbering_mixtureSizes i_search_numbering_lowBits i_search_numbering_all g_search_steps g_search_numbering_lowStarts g_search_numbering_highNumbers g_search_rows g_search_firsts g_search_orders a_search_moves_pond a_search_moves_targets g_search_moves_targets a_search_moves_pond_behinds a_search_moves_pond_depths i_search_moves_pond_size i_search_moves_pond_isRing i_search_moves_pond_overOthers i_search_moves_pond_longestLeap g_search_moves_pond_behinds a_search_pond_behinds a_search_pond_depths i_search_pond_size i_search_pond_isRing i_search_pond_overOthers i_search_pond_longestLeap)) (ci := 8) (q0 := 1) C hP hD [1, 2, 3, 4, 5, 6, 7, 8, 9, 10, 11, 12, 13] rfl rfl rfl rfl (mX8_lookFrom l D cI cJ H.size hq) 1 gX2_settleFrom_X8_lookFrom rfl ⟨rfl, rfl, Nat.le_of_ble_eq_true rfl, Nat.le_of_ble_eq_true rfl⟩ hdX8_lookFrom rfl hl.1 rfl (Nat.le_of_ble_eq_true rfl) dX2_settleFrom_5) hP hD hS hA [1, 2, 3, 4, 5, 6, 7, 8, 9, 10, 11, 12, 13] rfl rfl (fun H locs hP hD hS => ?_)
  have hP : va_P D vwCl (uX2_settleFrom cI cJ a_this a_pond a_moves a_numbering a_search a_levelEnds a_sorted a_mosts a_winners i_settledLook a_search_pond a_search_moves a_search_numbering a_search_orders a_search_steps a_search_rows a_search_firsts q1.2.2.2.2.2.2.2.2.1 q1.2.2.2.2.2.2.2.2.2.1 q1.2.2.2.2.2.2.2.2.2.2 q1.2.1 q1.2.2.1 q1.2.2.2.1 a_search_numbering_lowStarts a_search_numbering_highNumbers a_search_numbering_mixtureSizes i_search_numbering_lowBits i_search_numbering_all q1.1 g_search_numbering_lowStarts g_search_numbering_highNumbers q1.2.2.2.2.1 q1.2.2.2.2.2.1 q1.2.2.2.2.2.2.1 a_search_moves_pond a_search_moves_targets q1.2.2.2.2.2.2.2.1 a_search_moves_pond_behinds a_search_moves_pond_depths i_search_moves_pond_size i_search_moves_pond_isRing i_search_moves_pond_overOthers i_search_moves_pond_longestLeap g_search_moves_pond_behinds a_search_pond_behinds a_search_pond_depths i_search_pond_size i_search_pond_isRing i_search_pond_overOthers i_search_pond_longestLeap g_levelEnds a_pond_behinds a_pond_depths i_pond_size i_pond_isRing i_pond_overOthers i_pond_longestLeap g_pond_depths g_sorted a_moves_pond a_moves_targets g_moves_targets a_moves_pond_behinds a_moves_pond_depths i_moves_pond_size i_moves_pond_isRing i_moves_pond_overOthers i_moves_pond_longestLeap g_moves_pond_behinds a_numbering_lowStarts a_numbering_highNumbers a_numbering_mixtureSizes i_numbering_lowBits i_numbering_all g_numbering_lowStarts g_numbering_highNumbers g_mosts g_winners) H := hP
  have hD : va_D A (uX2_settleFrom cI cJ a_this a_pond a_moves a_numbering a_search a_levelEnds a_sorted a_mosts a_winners i_settledLook a_search_pond a_search_moves a_search_numbering a_search_orders a_search_steps a_search_rows a_search_firsts q1.2.2.2.2.2.2.2.2.1 q1.2.2.2.2.2.2.2.2.2.1 q1.2.2.2.2.2.2.2.2.2.2 q1.2.1 q1.2.2.1 q1.2.2.2.1 a_search_numbering_lowStarts a_search_numbering_highNumbers a_search_numbering_mixtureSizes i_search_numbering_lowBits i_search_numbering_all q1.1 g_search_numbering_lowStarts g_search_numbering_highNumbers q1.2.2.2.2.1 q1.2.2.2.2.2.1 q1.2.2.2.2.2.2.1 a_search_moves_pond a_search_moves_targets q1.2.2.2.2.2.2.2.1 a_search_moves_pond_behinds a_search_moves_pond_depths i_search_moves_pond_size i_search_moves_pond_isRing i_search_moves_pond_overOthers i_search_moves_pond_longestLeap g_search_moves_pond_behinds a_search_pond_behinds a_search_pond_depths i_search_pond_size i_search_pond_isRing i_search_pond_overOthers i_search_pond_longestLeap g_levelEnds a_pond_behinds a_pond_depths i_pond_size i_pond_isRing i_pond_overOthers i_pond_longestLeap g_pond_depths g_sorted a_moves_pond a_moves_targets g_moves_targets a_moves_pond_behinds a_moves_pond_depths i_moves_pond_size i_moves_pond_isRing i_moves_pond_overOthers i_moves_pond_longestLeap g_moves_pond_behinds a_numbering_lowStarts a_numbering_highNumbers a_numbering_mixtureSizes i_numbering_lowBits i_numbering_all g_numbering_lowStarts g_numbering_highNumbers g_mosts g_winners) := hD
  refine lv_aload_n hx hb dX2_settleFrom_8 rfl (lv_at hl 0 rfl) ?_
  refine va_get (D := D) (ci := 2) (v := .int i_settledLook) (C := RX2) (T := TX2) (N := 9) hx hb hts jX2_settleFrom_X2 hown hK hP 0 rfl rfl 8 (by decide) (hts _ qX2_settleFrom_46) (fun _ h9 => h9) rfl dX2_settleFrom_9 ?_
  refine lv_aload_n hx hb dX2_settleFrom_12 rfl (lv_at hl 0 rfl) ?_
  refine va_get (D := D) (ci := 2) (v := .ref a_search) (C := RX2) (T := TX2) (N := 9) hx hb hts jX2_settleFrom_X2 hown hK hP 0 rfl rfl 3 (by decide) (hts _ qX2_settleFrom_36) (fun _ h9 => h9) rfl dX2_settleFrom_13 ?_
  refine va_get (D := D) (ci := 8) (v := .int q1.2.2.2.2.2.2.2.2.2.2) (C := RX8) (T := TX8) (N := 13) hx hb hts jX2_settleFrom_X8 hown hK hP 1 rfl rfl 9 (by decide) (hts _ qX2_settleFrom_50) (fun _ h9 => h9) rfl dX2_settleFrom_16 ?_
  refine lv_icmp_ne (tgt := 23) hx hb dX2_settleFrom_19 (by decide) (fun hc => ?_) (fun hc => ?_)
  · have hf := if_no hc hf
    refine lv_aload_n hx hb dX2_settleFrom_23 rfl (lv_at hl 0 rfl) ?_
    obtain ⟨q2, hq, hf⟩ := ob_some hf
    refine cl_v (wc := (uX2_sortByLevel cI cJ a_this a_pond a_moves a_numbering a_search a_levelEnds a_sorted a_mosts a_winners i_settledLook a_search_pond a_search_moves a_search_numbering a_search_orders a_search_steps a_search_rows a_search_firsts q1.2.2.2.2.2.2.2.2.1 q1.2.2.2.2.2.2.2.2.2.1 q1.2.2.2.2.2.2.2.2.2.2 q1.2.1 q1.2.2.1 q1.2.2.2.1 g_levelEnds q1.2.2.2.2.2.2.1 a_pond_behinds a_pond_depths i_pond_size i_pond_isRing i_pond_overOthers i_pond_longestLeap g_pond_depths g_sorted)) (w1 := (uX2_sortByLevel cI cJ a_this a_pond a_moves a_numbering a_search a_levelEnds a_sorted a_mosts a_winners i_settledLook a_search_pond a_search_moves a_search_numbering a_search_orders a_search_steps a_search_rows a_search_firsts q1.2.2.2.2.2.2.2.2.1 q1.2.2.2.2.2.2.2.2.2.1 q1.2.2.2.2.2.2.2.2.2.2 q1.2.1 q1.2.2.1 q1.2.2.2.1 q2.1 q1.2.2.2.2.2.2.1 a_pond_behinds a_pond_depths i_pond_size i_pond_isRing i_pond_overOthers i_pond_longestLeap g_pond_depths q2.2)) (rn_V (As := []) (b := a_this) (rest := []) (wc := (uX2_sortByLevel cI cJ a_this a_pond a_moves a_numbering a_search a_levelEnds a_sorted a_mosts a_winners i_settledLook a_search_pond a_search_moves a_search_numbering a_search_orders a_search_steps a_search_rows a_search_firsts q1.2.2.2.2.2.2.2.2.1 q1.2.2.2.2.2.2.2.2.2.1 q1.2.2.2.2.2.2.2.2.2.2 q1.2.1 q1.2.2.1 q1.2.2.2.1 g_levelEnds q1.2.2.2.2.2.2.1 a_pond_behinds a_pond_depths i_pond_size i_pond_isRing i_pond_overOthers i_pond_longestLeap g_pond_depths g_sorted)) (ci := 2) (q0 := 0) C hP hD [0, 1, 14, 8, 15, 16, 17] rfl rfl rfl rfl (mX2_sortByLevel l D cI cJ H.size hq) 0 gX2_settleFrom_X2_sortByLevel rfl ⟨rfl, rfl, Nat.le_of_ble_eq_true rfl, Nat.le_of_ble_eq_true rfl⟩ hdX2_sortByLevel rfl hl.1 rfl (Nat.le_of_ble_eq_true rfl) dX2_settleFrom_24) hP hD hS hA [0, 1, 14, 8, 15, 16, 17] rfl rfl (fun H locs hP hD hS => ?_)
    have hP : va_P D vwCl (uX2_settleFrom cI cJ a_this a_pond a_moves a_numbering a_search a_levelEnds a_sorted a_mosts a_winners i_settledLook a_search_pond a_search_moves a_search_numbering a_search_orders a_search_steps a_search_rows a_search_firsts q1.2.2.2.2.2.2.2.2.1 q1.2.2.2.2.2.2.2.2.2.1 q1.2.2.2.2.2.2.2.2.2.2 q1.2.1 q1.2.2.1 q1.2.2.2.1 a_search_numbering_lowStarts a_search_numbering_highNumbers a_search_numbering_mixtureSizes i_search_numbering_lowBits i_search_numbering_all q1.1 g_search_numbering_lowStarts g_search_numbering_highNumbers q1.2.2.2.2.1 q1.2.2.2.2.2.1 q1.2.2.2.2.2.2.1 a_search_moves_pond a_search_moves_targets q1.2.2.2.2.2.2.2.1 a_search_moves_pond_behinds a_search_moves_pond_depths i_search_moves_pond_size i_search_moves_pond_isRing i_search_moves_pond_overOthers i_search_moves_pond_longestLeap g_search_moves_pond_behinds a_search_pond_behinds a_search_pond_depths i_search_pond_size i_search_pond_isRing i_search_pond_overOthers i_search_pond_longestLeap q2.1 a_pond_behinds a_pond_depths i_pond_size i_pond_isRing i_pond_overOthers i_pond_longestLeap g_pond_depths q2.2 a_moves_pond a_moves_targets g_moves_targets a_moves_pond_behinds a_moves_pond_depths i_moves_pond_size i_moves_pond_isRing i_moves_pond_overOthers i_moves_pond_longestLeap g_moves_pond_behinds a_numbering_lowStarts a_numbering_highNumbers a_numbering_mixtureSizes i_numbering_lowBits i_numbering_all g_numbering_lowStarts g_numbering_highNumbers g_mosts g_winners) H := hP
    have hD : va_D A (uX2_settleFrom cI cJ a_this a_pond a_moves a_numbering a_search a_levelEnds a_sorted a_mosts a_winners i_settledLook a_search_pond a_search_moves a_search_numbering a_search_orders a_search_steps a_search_rows a_search_firsts q1.2.2.2.2.2.2.2.2.1 q1.2.2.2.2.2.2.2.2.2.1 q1.2.2.2.2.2.2.2.2.2.2 q1.2.1 q1.2.2.1 q1.2.2.2.1 a_search_numbering_lowStarts a_search_numbering_highNumbers a_search_numbering_mixtureSizes i_search_numbering_lowBits i_search_numbering_all q1.1 g_search_numbering_lowStarts g_search_numbering_highNumbers q1.2.2.2.2.1 q1.2.2.2.2.2.1 q1.2.2.2.2.2.2.1 a_search_moves_pond a_search_moves_targets q1.2.2.2.2.2.2.2.1 a_search_moves_pond_behinds a_search_moves_pond_depths i_search_moves_pond_size i_search_moves_pond_isRing i_search_moves_pond_overOthers i_search_moves_pond_longestLeap g_search_moves_pond_behinds a_search_pond_behinds a_search_pond_depths i_search_pond_size i_search_pond_isRing i_search_pond_overOthers i_search_pond_longestLeap q2.1 a_pond_behinds a_pond_depths i_pond_size i_pond_isRing i_pond_overOthers i_pond_longestLeap g_pond_depths q2.2 a_moves_pond a_moves_targets g_moves_targets a_moves_pond_behinds a_moves_pond_depths i_moves_pond_size i_moves_pond_isRing i_moves_pond_overOthers i_moves_pond_longestLeap g_moves_pond_behinds a_numbering_lowStarts a_numbering_highNumbers a_numbering_mixtureSizes i_numbering_lowBits i_numbering_all g_numbering_lowStarts g_numbering_highNumbers g_mosts g_winners) := hD
    refine lv_aload_n hx hb dX2_settleFrom_27 rfl (lv_at hl 0 rfl) ?_
    refine va_get (D := D) (ci := 2) (v := .ref a_search) (C := RX2) (T := TX2) (N := 9) hx hb hts jX2_settleFrom_X2 hown hK hP 0 rfl rfl 3 (by decide) (hts _ qX2_settleFrom_36) (fun _ h9 => h9) rfl dX2_settleFrom_28 ?_
    refine va_get (D := D) (ci := 8) (v := .int q1.2.1) (C := RX8) (T := TX8) (N := 13) hx hb hts jX2_settleFrom_X8 hown hK hP 1 rfl rfl 10 (by decide) (hts _ qX2_settleFrom_56) (fun _ h9 => h9) rfl dX2_settleFrom_31 ?_
    refine lv_sipush (v := 1680) hx hb dX2_settleFrom_34 (by decide) ?_
    refine lw_mmin hx hb (hml.trans hl.1.symm) hown (hts _ qX2_settleFrom_l59) (hts _ qX2_settleFrom_mins) (hts _ qX2_settleFrom_mi) (hts _ qX2_settleFrom_minc) (Nat.le_of_ble_eq_true rfl) (Nat.le_of_ble_eq_true rfl) (Nat.zero_le _) (Nat.zero_le _) dX2_settleFrom_37 ?_
    refine lv_iconst (v := 1) hx hb dX2_settleFrom_40 (by decide) ?_
    refine lv_isub hx hb dX2_settleFrom_41 ?_
    refine lv_istore_n (lv' := [(2, .int ((i_min q1.2.1 1680) - 1)), (0, .ref a_this), (1, .int x1)]) hx hb dX2_settleFrom_42 rfl hl (by decide) rfl (fun ls hl => ?_)
    obtain ⟨ex, hlp, hf⟩ := ob_some hf
    refine lp_ind (P := fun sg => ∀ (H : Heap) (locs : List Loc) (ls : Array Slot), va_P D vwCl (uX2_settleFrom cI cJ a_this a_pond a_moves a_numbering a_search a_levelEnds a_sorted a_mosts a_winners i_settledLook a_search_pond a_search_moves a_search_numbering a_search_orders a_search_steps a_search_rows a_search_firsts q1.2.2.2.2.2.2.2.2.1 q1.2.2.2.2.2.2.2.2.2.1 q1.2.2.2.2.2.2.2.2.2.2 q1.2.1 q1.2.2.1 q1.2.2.2.1 a_search_numbering_lowStarts a_search_numbering_highNumbers a_search_numbering_mixtureSizes i_search_numbering_lowBits i_search_numbering_all q1.1 g_search_numbering_lowStarts g_search_numbering_highNumbers q1.2.2.2.2.1 q1.2.2.2.2.2.1 q1.2.2.2.2.2.2.1 a_search_moves_pond a_search_moves_targets q1.2.2.2.2.2.2.2.1 a_search_moves_pond_behinds a_search_moves_pond_depths i_search_moves_pond_size i_search_moves_pond_isRing i_search_moves_pond_overOthers i_search_moves_pond_longestLeap g_search_moves_pond_behinds a_search_pond_behinds a_search_pond_depths i_search_pond_size i_search_pond_isRing i_search_pond_overOthers i_search_pond_longestLeap q2.1 a_pond_behinds a_pond_depths i_pond_size i_pond_isRing i_pond_overOthers i_pond_longestLeap g_pond_depths q2.2 a_moves_pond a_moves_targets sg.2.1 a_moves_pond_behinds a_moves_pond_depths i_moves_pond_size i_moves_pond_isRing i_moves_pond_overOthers i_moves_pond_longestLeap g_moves_pond_behinds a_numbering_lowStarts a_numbering_highNumbers a_numbering_mixtureSizes i_numbering_lowBits i_numbering_all g_numbering_lowStarts g_numbering_highNumbers sg.2.2.1 sg.2.2.2) H → va_D A (uX2_settleFrom cI cJ a_this a_pond a_moves a_numbering a_search a_levelEnds a_sorted a_mosts a_winners i_settledLook a_search_pond a_search_moves a_search_numbering a_search_orders a_search_steps a_search_rows a_search_firsts q1.2.2.2.2.2.2.2.2.1 q1.2.2.2.2.2.2.2.2.2.1 q1.2.2.2.2.2.2.2.2.2.2 q1.2.1 q1.2.2.1 q1.2.2.2.1 a_search_numbering_lowStarts a_search_numbering_highNumbers a_search_numbering_mixtureSizes i_search_numbering_lowBits i_search_numbering_all q1.1 g_search_numbering_lowStarts g_search_numbering_highNumbers q1.2.2.2.2.1 q1.2.2.2.2.2.1 q1.2.2.2.2.2.2.1 a_search_moves_pond a_search_moves_targets q1.2.2.2.2.2.2.2.1 a_search_moves_pond_behinds a_search_moves_pond_depths i_search_moves_pond_size i_search_moves_pond_isRing i_search_moves_pond_overOthers i_search_moves_pond_longestLeap g_search_moves_pond_behinds a_search_pond_behinds a_search_pond_depths i_search_pond_size i_search_pond_isRing i_search_pond_overOthers i_search_pond_longestLeap q2.1 a_pond_behinds a_pond_depths i_pond_size i_pond_isRing i_pond_overOthers i_pond_longestLeap g_pond_depths q2.2 a_moves_pond a_moves_targets sg.2.1 a_moves_pond_behinds a_moves_pond_depths i_moves_pond_size i_moves_pond_isRing i_moves_pond_overOthers i_moves_pond_longestLeap g_moves_pond_behinds a_numbering_lowStarts a_numbering_highNumbers a_numbering_mixtureSizes i_numbering_lowBits i_numbering_all g_numbering_lowStarts g_numbering_highNumbers sg.2.2.1 sg.2.2.2) → va_S A s.heap H locs → lv_has ls 3 [(0, .ref a_this), (2, .int sg.1)] → W p l e rX2_settleFrom s m args below meth c H locs 0 0 Q (F0 m 43 ls [])) ?_ z _ hlp H locs ls hP hD hS (lv_sub hl [1, 0] rfl)
    intro sg og hbo hback hexit H locs ls hP hD hS hl
    refine kX2_settleFrom_L43 C hbo (fun s' h => hback s' h) (fun ex h H locs ls hP hD hS hl => ?_) hP hD hS hl
    have he := hexit _ h
    subst he
    exact kX2_settleFrom_J63 C hf hrt hP hD hS (lv_sub hl [0] rfl)
  · have hf := if_yes hc hf
    have ho := Option.some.inj hf
    subst ho
    exact hrt H locs ls _ hP hD hS dX2_settleFrom_22
set_option maxHeartbeats 4000000 in
set_option maxRecDepth 100000 in
theorem mX2_settleFrom (l : Launch) (D : va_G) (cI cJ : ClassId) (sz : Nat) {a_this : Nat} {a_pond : Nat} {a_moves : Nat} {a_numbering : Nat} {a_search : Nat} {a_levelEnds : Nat} {a_sorted : Nat} {a_mosts : Nat} {a_winners : Nat} {i_settledLook : Int32} {a_search_pond : Nat} {a_search_moves : Nat} {a_search_numbering : Nat} {a_search_orders : Nat} {a_search_steps : Nat} {a_search_rows : Nat} {a_search_firsts : Nat} {i_search_start : Int32} {i_search_stands : Int32} {i_search_looks : Int32} {i_search_reached : Int32} {i_search_stuck : Int32} {i_search_farthest : Int32} {a_search_numbering_lowStarts : Nat} {a_search_numbering_highNumbers : Nat} {a_search_numbering_mixtureSizes : Nat} {i_search_numbering_lowBits : Int32} {i_search_numbering_all : Int32} {g_search_steps : Nat → Int32} {g_search_numbering_lowStarts : Nat → Int32} {g_search_numbering_highNumbers : Nat → Int32} {g_search_rows : Nat → Int64} {g_search_firsts : Nat → Int32} {g_search_orders : Nat → Int32} {a_search_moves_pond : Nat} {a_search_moves_targets : Nat} {g_search_moves_targets : Nat → Int32} {a_search_moves_pond_behinds : Nat} {a_search_moves_pond_depths : Nat} {i_search_moves_pond_size : Int32} {i_search_moves_pond_isRing : Int32} {i_search_moves_pond_overOthers : Int32} {i_search_moves_pond_longestLeap : Int32} {g_search_moves_pond_behinds : Nat → Int32} {a_search_pond_behinds : Nat} {a_search_pond_depths : Nat} {i_search_pond_size : Int32} {i_search_pond_isRing : Int32} {i_search_pond_overOthers : Int32} {i_search_pond_longestLeap : Int32} {g_levelEnds : Nat → Int32} {a_pond_behinds : Nat} {a_pond_depths : Nat} {i_pond_size : Int32} {i_pond_isRing : Int32} {i_pond_overOthers : Int32} {i_pond_longestLeap : Int32} {g_pond_depths : Nat → Int32} {g_sorted : Nat → Int32} {a_moves_pond : Nat} {a_moves_targets : Nat} {g_moves_targets : Nat → Int32} {a_moves_pond_behinds : Nat} {a_moves_pond_depths : Nat} {i_moves_pond_size : Int32} {i_moves_pond_isRing : Int32} {i_moves_pond_overOthers : Int32} {i_moves_pond_longestLeap : Int32} {g_moves_pond_behinds : Nat → Int32} {a_numbering_lowStarts : Nat} {a_numbering_highNumbers : Nat} {a_numbering_mixtureSizes : Nat} {i_numbering_lowBits : Int32} {i_numbering_all : Int32} {g_numbering_lowStarts : Nat → Int32} {g_numbering_highNumbers : Nat → Int32} {g_mosts : Nat → Int32} {g_winners : Nat → Int32} {z : Nat} {x1 : Int32} {o : (Nat → Int32) × Int32 × Int32 × Int32 × (Nat → Int64) × (Nat → Int32) × (Nat → Int32) × (Nat → Int32) × Int32 × Int32 × Int32 × (Nat → Int32) × (Nat → Int32) × (Nat → Int32) × (Nat → Int32) × (Nat → Int32) × Int32} (hf : fX2_settleFrom z x1 i_search_stands i_search_start i_search_numbering_all g_search_steps i_search_numbering_lowBits g_search_numbering_lowStarts g_search_numbering_highNumbers i_search_reached g_search_rows g_search_firsts g_search_orders g_search_moves_targets i_search_moves_pond_size i_search_moves_pond_longestLeap g_search_moves_pond_behinds i_search_moves_pond_overOthers i_search_pond_size i_search_stuck i_search_looks i_settledLook g_levelEnds i_pond_size g_pond_depths g_sorted g_moves_targets i_moves_pond_size i_moves_pond_longestLeap g_moves_pond_behinds i_moves_pond_overOthers i_numbering_lowBits g_numbering_lowStarts g_numbering_highNumbers i_numbering_all g_mosts g_winners i_search_farthest = some o) : Met l yX2_settleFrom wsX2_settleFrom rX2_settleFrom (va_Pc [.ref a_this, .int x1] (kP D cI cJ (uX2_settleFrom cI cJ a_this a_pond a_moves a_numbering a_search a_levelEnds a_sorted a_mosts a_winners i_settledLook a_search_pond a_search_moves a_search_numbering a_search_orders a_search_steps a_search_rows a_search_firsts i_search_start i_search_stands i_search_looks i_search_reached i_search_stuck i_search_farthest a_search_numbering_lowStarts a_search_numbering_highNumbers a_search_numbering_mixtureSizes i_search_numbering_lowBits i_search_numbering_all g_search_steps g_search_numbering_lowStarts g_search_numbering_highNumbers g_search_rows g_search_firsts g_search_orders a_search_moves_pond a_search_moves_targets g_search_moves_targets a_search_moves_pond_behinds a_search_moves_pond_depths i_search_moves_pond_size i_search_moves_pond_isRing i_search_moves_pond_overOthers i_search_moves_pond_longestLeap g_search_moves_pond_behinds a_search_pond_behinds a_search_pond_depths i_search_pond_size i_search_pond_isRing i_search_pond_overOthers i_search_pond_longestLeap g_levelEnds a_pond_behinds a_pond_depths i_pond_size i_pond_isRing i_pond_overOthers i_pond_longestLeap g_pond_depths g_sorted a_moves_pond a_moves_targets g_moves_targets a_moves_pond_behinds a_moves_pond_depths i_moves_pond_size i_moves_pond_isRing i_moves_pond_overOthers i_moves_pond_longestLeap g_moves_pond_behinds a_numbering_lowStarts a_numbering_highNumbers a_numbering_mixtureSizes i_numbering_lowBits i_numbering_all g_numbering_lowStarts g_numbering_highNumbers g_mosts g_winners) sz)) (va_Qv (fun (_ : Unit) => True) (fun _ t => kB D (va_A (uX2_settleFrom cI cJ a_this a_pond a_moves a_numbering a_search a_levelEnds a_sorted a_mosts a_winners i_settledLook a_search_pond a_search_moves a_search_numbering a_search_orders a_search_steps a_search_rows a_search_firsts i_search_start i_search_stands i_search_looks i_search_reached i_search_stuck i_search_farthest a_search_numbering_lowStarts a_search_numbering_highNumbers a_search_numbering_mixtureSizes i_search_numbering_lowBits i_search_numbering_all g_search_steps g_search_numbering_lowStarts g_search_numbering_highNumbers g_search_rows g_search_firsts g_search_orders a_search_moves_pond a_search_moves_targets g_search_moves_targets a_search_moves_pond_behinds a_search_moves_pond_depths i_search_moves_pond_size i_search_moves_pond_isRing i_search_moves_pond_overOthers i_search_moves_pond_longestLeap g_search_moves_pond_behinds a_search_pond_behinds a_search_pond_depths i_search_pond_size i_search_pond_isRing i_search_pond_overOthers i_search_pond_longestLeap g_levelEnds a_pond_behinds a_pond_depths i_pond_size i_pond_isRing i_pond_overOthers i_pond_longestLeap g_pond_depths g_sorted a_moves_pond a_moves_targets g_moves_targets a_moves_pond_behinds a_moves_pond_depths i_moves_pond_size i_moves_pond_isRing i_moves_pond_overOthers i_moves_pond_longestLeap g_moves_pond_behinds a_numbering_lowStarts a_numbering_highNumbers a_numbering_mixtureSizes i_numbering_lowBits i_numbering_all g_numbering_lowStarts g_numbering_highNumbers g_mosts g_winners) sz) (uX2_settleFrom cI cJ a_this a_pond a_moves a_numbering a_search a_levelEnds a_sorted a_mosts a_winners o.2.2.2.2.2.2.2.2.2.2.2.2.2.2.2.2 a_search_pond a_search_moves a_search_numbering a_search_orders a_search_steps a_search_rows a_search_firsts o.2.2.2.2.2.2.2.2.1 o.2.2.2.2.2.2.2.2.2.1 o.2.2.2.2.2.2.2.2.2.2.1 o.2.1 o.2.2.1 o.2.2.2.1 a_search_numbering_lowStarts a_search_numbering_highNumbers a_search_numbering_mixtureSizes i_search_numbering_lowBits i_search_numbering_all o.1 g_search_numbering_lowStarts g_search_numbering_highNumbers o.2.2.2.2.1 o.2.2.2.2.2.1 o.2.2.2.2.2.2.1 a_search_moves_pond a_search_moves_targets o.2.2.2.2.2.2.2.1 a_search_moves_pond_behinds a_search_moves_pond_depths i_search_moves_pond_size i_search_moves_pond_isRing i_search_moves_pond_overOthers i_search_moves_pond_longestLeap g_search_moves_pond_behinds a_search_pond_behinds a_search_pond_depths i_search_pond_size i_search_pond_isRing i_search_pond_overOthers i_search_pond_longestLeap o.2.2.2.2.2.2.2.2.2.2.2.1 a_pond_behinds a_pond_depths i_pond_size i_pond_isRing i_pond_overOthers i_pond_longestLeap g_pond_depths o.2.2.2.2.2.2.2.2.2.2.2.2.1 a_moves_pond a_moves_targets o.2.2.2.2.2.2.2.2.2.2.2.2.2.1 a_moves_pond_behinds a_moves_pond_depths i_moves_pond_size i_moves_pond_isRing i_moves_pond_overOthers i_moves_pond_longestLeap g_moves_pond_behinds a_numbering_lowStarts a_numbering_highNumbers a_numbering_mixtureSizes i_numbering_lowBits i_numbering_all g_numbering_lowStarts g_numbering_highNumbers o.2.2.2.2.2.2.2.2.2.2.2.2.2.2.1 o.2.2.2.2.2.2.2.2.2.2.2.2.2.2.2.1) t) (va_A (uX2_settleFrom cI cJ a_this a_pond a_moves a_numbering a_search a_levelEnds a_sorted a_mosts a_winners i_settledLook a_search_pond a_search_moves a_search_numbering a_search_orders a_search_steps a_search_rows a_search_firsts i_search_start i_search_stands i_search_looks i_search_reached i_search_stuck i_search_farthest a_search_numbering_lowStarts a_search_numbering_highNumbers a_search_numbering_mixtureSizes i_search_numbering_lowBits i_search_numbering_all g_search_steps g_search_numbering_lowStarts g_search_numbering_highNumbers g_search_rows g_search_firsts g_search_orders a_search_moves_pond a_search_moves_targets g_search_moves_targets a_search_moves_pond_behinds a_search_moves_pond_depths i_search_moves_pond_size i_search_moves_pond_isRing i_search_moves_pond_overOthers i_search_moves_pond_longestLeap g_search_moves_pond_behinds a_search_pond_behinds a_search_pond_depths i_search_pond_size i_search_pond_isRing i_search_pond_overOthers i_search_pond_longestLeap g_levelEnds a_pond_behinds a_pond_depths i_pond_size i_pond_isRing i_pond_overOthers i_pond_longestLeap g_pond_depths g_sorted a_moves_pond a_moves_targets g_moves_targets a_moves_pond_behinds a_moves_pond_depths i_moves_pond_size i_moves_pond_isRing i_moves_pond_overOthers i_moves_pond_longestLeap g_moves_pond_behinds a_numbering_lowStarts a_numbering_highNumbers a_numbering_mixtureSizes i_numbering_lowBits i_numbering_all g_numbering_lowStarts g_numbering_highNumbers g_mosts g_winners) sz)) 0 0 (va_A (uX2_settleFrom cI cJ a_this a_pond a_moves a_numbering a_search a_levelEnds a_sorted a_mosts a_winners i_settledLook a_search_pond a_search_moves a_search_numbering a_search_orders a_search_steps a_search_rows a_search_firsts i_search_start i_search_stands i_search_looks i_search_reached i_search_stuck i_search_farthest a_search_numbering_lowStarts a_search_numbering_highNumbers a_search_numbering_mixtureSizes i_search_numbering_lowBits i_search_numbering_all g_search_steps g_search_numbering_lowStarts g_search_numbering_highNumbers g_search_rows g_search_firsts g_search_orders a_search_moves_pond a_search_moves_targets g_search_moves_targets a_search_moves_pond_behinds a_search_moves_pond_depths i_search_moves_pond_size i_search_moves_pond_isRing i_search_moves_pond_overOthers i_search_moves_pond_longestLeap g_search_moves_pond_behinds a_search_pond_behinds a_search_pond_depths i_search_pond_size i_search_pond_isRing i_search_pond_overOthers i_search_pond_longestLeap g_levelEnds a_pond_behinds a_pond_depths i_pond_size i_pond_isRing i_pond_overOthers i_pond_longestLeap g_pond_depths g_sorted a_moves_pond a_moves_targets g_moves_targets a_moves_pond_behinds a_moves_pond_depths i_moves_pond_size i_moves_pond_isRing i_moves_pond_overOthers i_moves_pond_longestLeap g_moves_pond_behinds a_numbering_lowStarts a_numbering_highNumbers a_numbering_mixtureSizes i_numbering_lowBits i_numbering_all g_numbering_lowStarts g_numbering_highNumbers g_mosts g_winners) sz) :=
  met_v (by decide) rfl (Nat.le_of_ble_eq_true rfl) (fun p e s m below meth c A Q C hrt ls hl hP hD hS => kX2_settleFrom_0 (A := A) C hf hrt hP hD hS hl)

/-! ===== FrogsOnRing$Ending.winningTarget(III)I ===== -/
abbrev uX2_winningTarget (cI cJ : ClassId) (a_this : Nat) (a_pond : Nat) (a_moves : Nat) (a_numbering : Nat) (a_search : Nat) (a_levelEnds : Nat) (a_sorted : Nat) (a_mosts : Nat) (a_winners : Nat) (i_settledLook : Int32) (a_pond_behinds : Nat) (a_pond_depths : Nat) (i_pond_size : Int32) (i_pond_isRing : Int32) (i_pond_overOthers : Int32) (i_pond_longestLeap : Int32) (a_moves_pond : Nat) (a_moves_targets : Nat) (g_moves_targets : Nat → Int32) (a_numbering_lowStarts : Nat) (a_numbering_highNumbers : Nat) (a_numbering_mixtureSizes : Nat) (i_numbering_lowBits : Int32) (i_numbering_all : Int32) (g_numbering_lowStarts : Nat → Int32) (g_numbering_highNumbers : Nat → Int32) (g_winners : Nat → Int32) : va_W := [(a_this, .inr (2, [.ref a_pond, .ref a_moves, .ref a_numbering, .ref a_search, .ref a_levelEnds, .ref a_sorted, .ref a_mosts, .ref a_winners, .int i_settledLook])), (a_pond, .inr (6, [.ref a_pond_behinds, .ref a_pond_depths, .int i_pond_size, .int i_pond_isRing, .int i_pond_overOthers, .int i_pond_longestLeap])), (a_moves, .inr (3, [.ref a_moves_pond, .ref a_moves_targets])), (a_moves_targets, .inl (cI, 9, .inl g_moves_targets)), (a_numbering, .inr (4, [.ref a_numbering_lowStarts, .ref a_numbering_highNumbers, .ref a_numbering_mixtureSizes, .int i_numbering_lowBits, .int i_numbering_all])), (a_numbering_lowStarts, .inl (cI, 1024, .inl g_numbering_lowStarts)), (a_numbering_highNumbers, .inl (cI, 256, .inl g_numbering_highNumbers)), (a_winners, .inl (cI, 1680, .inl g_winners))]
def rX2_winningTarget : Room := { frames := 2, cells := 0, slots := 0, locals := 47 }
theorem hdX2_winningTarget : yX2_winningTarget.cls = RX2 ∧ yX2_winningTarget.cls ≠ "java/lang/invoke/MethodHandle" ∧ yX2_winningTarget.cls ≠ "java/lang/invoke/VarHandle" ∧ (parseMethodDescriptor yX2_winningTarget.desc).map (fun d => d.parameters.length) = some 3 := by decide +kernel
set_option maxRecDepth 20000 in
theorem jX2_winningTarget_X2 : ∀ w ∈ u_ws RX2 TX2 9, w ∈ wsX2_winningTarget := by decide +kernel
set_option maxRecDepth 20000 in
theorem jX2_winningTarget_X6 : ∀ w ∈ u_ws RX6 TX6 6, w ∈ wsX2_winningTarget := by decide +kernel
set_option maxRecDepth 20000 in
theorem qX2_winningTarget_24 : Cond.fieldLink RX2 24 "FrogsOnRing$Ending" "pond" "LFrogsOnRing$Pond;" ∈ wsX2_winningTarget := by decide +kernel
set_option maxRecDepth 20000 in
theorem qX2_winningTarget_28 : Cond.fieldLink RX2 28 "FrogsOnRing$Ending" "moves" "LFrogsOnRing$Moves;" ∈ wsX2_winningTarget := by decide +kernel
set_option maxRecDepth 20000 in
theorem qX2_winningTarget_81 : Cond.fieldLink RX2 81 "FrogsOnRing$Pond" "size" "I" ∈ wsX2_winningTarget := by decide +kernel
set_option maxRecDepth 20000 in
theorem qX2_winningTarget_iX9_afterMove : Cond.initialized yX9_afterMove.cls ∈ wsX2_winningTarget := by decide +kernel
set_option maxRecDepth 20000 in
theorem qX2_winningTarget_sX9_afterMove : Cond.static yX9_afterMove ∈ wsX2_winningTarget := by decide +kernel
set_option maxHeartbeats 4000000 in
set_option maxRecDepth 100000 in
theorem kX2_winningTarget_L3 {p : Program} {l : Launch} {e : Env} {s : State} {m : MethodId} {args : Array Value} {below : List Frame} {meth : Method} {c : Code} {Q : State → Prop} {A : Nat → Prop} {D : va_G} {cI cJ : ClassId} (C : bC cX2_winningTarget 5 RX2 wsX2_winningTarget D cI cJ p s m args c meth A)
    {a_this : Nat} {a_pond : Nat} {a_moves : Nat} {a_numbering : Nat} {a_search : Nat} {a_levelEnds : Nat} {a_sorted : Nat} {a_mosts : Nat} {a_winners : Nat} {i_settledLook : Int32} {a_pond_behinds : Nat} {a_pond_depths : Nat} {i_pond_size : Int32} {i_pond_isRing : Int32} {i_pond_overOthers : Int32} {i_pond_longestLeap : Int32} {a_moves_pond : Nat} {a_moves_targets : Nat} {g_moves_targets : Nat → Int32} {a_numbering_lowStarts : Nat} {a_numbering_highNumbers : Nat} {a_numbering_mixtureSizes : Nat} {i_numbering_lowBits : Int32} {i_numbering_all : Int32} {g_numbering_lowStarts : Nat → Int32} {g_numbering_highNumbers : Nat → Int32} {g_winners : Nat → Int32} {z : Nat} {x1 : Int32} {x2 : Int32} {x3 : Int32} {x4 : Int32} {o : (Int32) ⊕ ((Unit) ⊕ (Int32))} (hf : fX2_winningTarget_L3 z x1 x2 x3 x4 i_pond_size g_moves_targets i_numbering_lowBits g_numbering_lowStarts g_numbering_highNumbers i_numbering_all g_winners = some o)
    (hbk : ∀ s', o = .inl s' → ∀ (H : Heap) (locs : List Loc) (ls : Array Slot), va_P D vwCl (uX2_winningTarget cI cJ a_this a_pond a_moves a_numbering a_search a_levelEnds a_sorted a_mosts a_winners i_settledLook a_pond_behinds a_pond_depths i_pond_size i_pond_isRing i_pond_overOthers i_pond_longestLeap a_moves_pond a_moves_targets g_moves_targets a_numbering_lowStarts a_numbering_highNumbers a_numbering_mixtureSizes i_numbering_lowBits i_numbering_all g_numbering_lowStarts g_numbering_highNumbers g_winners) H → va_D A (uX2_winningTarget cI cJ a_this a_pond a_moves a_numbering a_search a_levelEnds a_sorted a_mosts a_winners i_settledLook a_pond_behinds a_pond_depths i_pond_size i_pond_isRing i_pond_overOthers i_pond_longestLeap a_moves_pond a_moves_targets g_moves_targets a_numbering_lowStarts a_numbering_highNumbers a_numbering_mixtureSizes i_numbering_lowBits i_numbering_all g_numbering_lowStarts g_numbering_highNumbers g_winners) → va_S A s.heap H locs → lv_has ls 5 [(0, .ref a_this), (1, .int x1), (2, .int x2), (3, .int x3), (4, .int s')] → W p l e rX2_winningTarget s m args below meth c H locs 0 0 Q (F0 m 3 ls []))
    (hex : ∀ e', o = .inr (.inl e') → ∀ (H : Heap) (locs : List Loc) (ls : Array Slot), va_P D vwCl (uX2_winningTarget cI cJ a_this a_pond a_moves a_numbering a_search a_levelEnds a_sorted a_mosts a_winners i_settledLook a_pond_behinds a_pond_depths i_pond_size i_pond_isRing i_pond_overOthers i_pond_longestLeap a_moves_pond a_moves_targets g_moves_targets a_numbering_lowStarts a_numbering_highNumbers a_numbering_mixtureSizes i_numbering_lowBits i_numbering_all g_numbering_lowStarts g_numbering_highNumbers g_winners) H → va_D A (uX2_winningTarget cI cJ a_this a_pond a_moves a_numbering a_search a_levelEnds a_sorted a_mosts a_winners i_settledLook a_pond_behinds a_pond_depths i_pond_size i_pond_isRing i_pond_overOthers i_pond_longestLeap a_moves_pond a_moves_targets g_moves_targets a_numbering_lowStarts a_numbering_highNumbers a_numbering_mixtureSizes i_numbering_lowBits i_numbering_all g_numbering_lowStarts g_numbering_highNumbers g_winners) → va_S A s.heap H locs → lv_has ls 5 [] → W p l e rX2_winningTarget s m args below meth c H locs 0 0 Q (F0 m 55 ls []))
    (hrt : ∀ r', o = .inr (.inr r') → ∀ (H : Heap) (locs : List Loc) (ls : Array Slot) (pc : Nat), va_P D vwCl (uX2_winningTarget cI cJ a_this a_pond a_moves a_numbering a_search a_levelEnds a_sorted a_mosts a_winners i_settledLook a_pond_behinds a_pond_depths i_pond_size i_pond_isRing i_pond_overOthers i_pond_longestLeap a_moves_pond a_moves_targets g_moves_targets a_numbering_lowStarts a_numbering_highNumbers a_numbering_mixtureSizes i_numbering_lowBits i_numbering_all g_numbering_lowStarts g_numbering_highNumbers g_winners) H → va_D A (uX2_winningTarget cI cJ a_this a_pond a_moves a_numbering a_search a_levelEnds a_sorted a_mosts a_winners i_settledLook a_pond_behinds a_pond_depths i_pond_size i_pond_isRing i_pond_overOthers i_pond_longestLeap a_moves_pond a_moves_targets g_moves_targets a_numbering_lowStarts a_numbering_highNumbers a_numbering_mixtureSizes i_numbering_lowBits i_numbering_all g_numbering_lowStarts g_numbering_highNumbers g_winners) → va_S A s.heap H locs → decode cX2_winningTarget pc = .ok (.ireturn, 1) → W p l e rX2_winningTarget s m args below meth c H locs 0 0 Q (F0 m pc ls [.int r']))
    {H : Heap} {locs : List Loc} {ls : Array Slot} (hP : va_P D vwCl (uX2_winningTarget cI cJ a_this a_pond a_moves a_numbering a_search a_levelEnds a_sorted a_mosts a_winners i_settledLook a_pond_behinds a_pond_depths i_pond_size i_pond_isRing i_pond_overOthers i_pond_longestLeap a_moves_pond a_moves_targets g_moves_targets a_numbering_lowStarts a_numbering_highNumbers a_numbering_mixtureSizes i_numbering_lowBits i_numbering_all g_numbering_lowStarts g_numbering_highNumbers g_winners) H) (hD : va_D A (uX2_winningTarget cI cJ a_this a_pond a_moves a_numbering a_search a_levelEnds a_sorted a_mosts a_winners i_settledLook a_pond_behinds a_pond_depths i_pond_size i_pond_isRing i_pond_overOthers i_pond_longestLeap a_moves_pond a_moves_targets g_moves_targets a_numbering_lowStarts a_numbering_highNumbers a_numbering_mixtureSizes i_numbering_lowBits i_numbering_all g_numbering_lowStarts g_numbering_highNumbers g_winners)) (hS : va_S A s.heap H locs) (hl : lv_has ls 5 [(0, .ref a_this), (1, .int x1), (2, .int x2), (3, .int x3), (4, .int x4)]) : W p l e rX2_winningTarget s m args below meth c H locs 0 0 Q (F0 m 3 ls []) := by
  obtain ⟨hx, hb, hml, hown, hts, hK, hN, hA, hlocks⟩ := id C
  unfold fX2_winningTarget_L3 at hf
  refine lv_iload hx hb dX2_winningTarget_3 (lv_at hl 4 rfl) ?_
  refine lv_aload_n hx hb dX2_winningTarget_5 rfl (lv_at hl 0 rfl) ?_
  refine va_get (D := D) (ci := 2) (v := .ref a_pond) (C := RX2) (T := TX2) (N := 9) hx hb hts jX2_winningTarget_X2 hown hK hP 0 rfl rfl 0 (by decide) (hts _ qX2_winningTarget_24) (fun _ h9 => h9) rfl dX2_winningTarget_6 ?_
  refine va_get (D := D) (ci := 6) (v := .int i_pond_size) (C := RX6) (T := TX6) (N := 6) hx hb hts jX2_winningTarget_X6 hown hK hP 1 rfl rfl 2 (by decide) (hts _ qX2_winningTarget_81) (fun _ h9 => h9) rfl dX2_winningTarget_9 ?_
  refine lv_icmp_ge (tgt := 55) hx hb dX2_winningTarget_12 (by decide) (fun hc => ?_) (fun hc => ?_)
  · have hf := if_yes hc hf
    have ho := Option.some.inj hf
    subst ho
    exact hex _ rfl _ _ _ hP hD hS (lv_sub hl [] rfl)
  · have hf := if_no hc hf
    refine lv_aload_n hx hb dX2_winningTarget_15 rfl (lv_at hl 0 rfl) ?_
    refine va_get (D := D) (ci := 2) (v := .ref a_moves) (C := RX2) (T := TX2) (N := 9) hx hb hts jX2_winningTarget_X2 hown hK hP 0 rfl rfl 1 (by decide) (hts _ qX2_winningTarget_28) (fun _ h9 => h9) rfl dX2_winningTarget_16 ?_
    refine lv_iload_n hx hb dX2_winningTarget_19 rfl (lv_at hl 2 rfl) ?_
    refine lv_iload hx hb dX2_winningTarget_20 (lv_at hl 4 rfl) ?_
    obtain ⟨q1, hq, hf⟩ := ob_some hf
    refine cl_i (wc := (uX3_has cI cJ a_moves a_moves_pond a_moves_targets g_moves_targets)) (w1 := (uX3_has cI cJ a_moves a_moves_pond a_moves_targets g_moves_targets)) (rn_V (As := [.int x2, .int x4]) (b := a_moves) (rest := []) (wc := (uX3_has cI cJ a_moves a_moves_pond a_moves_targets g_moves_targets)) (ci := 3) (q0 := 2) C hP hD [2, 3] rfl rfl rfl rfl (mX3_has l D cI cJ H.size hq) 2 gX2_winningTarget_X3_has rfl ⟨rfl, rfl, Nat.le_of_ble_eq_true rfl, Nat.le_of_ble_eq_true rfl⟩ hdX3_has rfl hl.1 rfl (Nat.le_of_ble_eq_true rfl) dX2_winningTarget_22) hP hD hS hA [2, 3] rfl rfl (fun H locs hP hD hS => ?_)
    have hP : va_P D vwCl (uX2_winningTarget cI cJ a_this a_pond a_moves a_numbering a_search a_levelEnds a_sorted a_mosts a_winners i_settledLook a_pond_behinds a_pond_depths i_pond_size i_pond_isRing i_pond_overOthers i_pond_longestLeap a_moves_pond a_moves_targets g_moves_targets a_numbering_lowStarts a_numbering_highNumbers a_numbering_mixtureSizes i_numbering_lowBits i_numbering_all g_numbering_lowStarts g_numbering_highNumbers g_winners) H := hP
    have hD : va_D A (uX2_winningTarget cI cJ a_this a_pond a_moves a_numbering a_search a_levelEnds a_sorted a_mosts a_winners i_settledLook a_pond_behinds a_pond_depths i_pond_size i_pond_isRing i_pond_overOthers i_pond_longestLeap a_moves_pond a_moves_targets g_moves_targets a_numbering_lowStarts a_numbering_highNumbers a_numbering_mixtureSizes i_numbering_lowBits i_numbering_all g_numbering_lowStarts g_numbering_highNumbers g_winners) := hD
    refine lv_if_eq (tgt := 49) hx hb dX2_winningTarget_25 (by decide) (fun hc => ?_) (fun hc => ?_)
    · have hf := if_yes hc hf
      refine lv_iinc (v := (x4 + 1)) (lv' := [(4, .int (x4 + 1)), (0, .ref a_this), (1, .int x1), (2, .int x2), (3, .int x3)]) hx hb dX2_winningTarget_49 hl (k := 4) rfl rfl (by decide) rfl (fun ls hl => ?_)
      refine lv_goto (tgt := 3) hx hb dX2_winningTarget_52 (by decide) ?_
      have ho := Option.some.inj hf
      subst ho
      exact hbk _ rfl _ _ _ hP hD hS (lv_sub hl [1, 2, 3, 4, 0] rfl)
    · have hf := if_no hc hf
      refine lv_aload_n hx hb dX2_winningTarget_28 rfl (lv_at hl 0 rfl) ?_
      refine lv_iload_n hx hb dX2_winningTarget_29 rfl (lv_at hl 1 rfl) ?_
      refine lv_iload_n hx hb dX2_winningTarget_30 rfl (lv_at hl 2 rfl) ?_
      refine lv_iload hx hb dX2_winningTarget_31 (lv_at hl 4 rfl) ?_
      refine cl_i (wc := (uX9_afterMove cI cJ)) (w1 := (uX9_afterMove cI cJ)) (rn_N (As := [.int x1, .int x2, .int x4]) (rest := [.ref a_this]) (wc := (uX9_afterMove cI cJ)) C hP hD [] rfl rfl (mX9_afterMove l D cI cJ H.size) 3 gX2_winningTarget_X9_afterMove_n104 qX2_winningTarget_iX9_afterMove qX2_winningTarget_sX9_afterMove 15 rfl rfl ⟨rfl, rfl, Nat.le_of_ble_eq_true rfl, Nat.le_of_ble_eq_true rfl⟩ hdX9_afterMove.2 rfl hl.1 rfl (Nat.le_of_ble_eq_true rfl) dX2_winningTarget_33) hP hD hS hA [] rfl rfl (fun H locs hP hD hS => ?_)
      have hP : va_P D vwCl (uX2_winningTarget cI cJ a_this a_pond a_moves a_numbering a_search a_levelEnds a_sorted a_mosts a_winners i_settledLook a_pond_behinds a_pond_depths i_pond_size i_pond_isRing i_pond_overOthers i_pond_longestLeap a_moves_pond a_moves_targets g_moves_targets a_numbering_lowStarts a_numbering_highNumbers a_numbering_mixtureSizes i_numbering_lowBits i_numbering_all g_numbering_lowStarts g_numbering_highNumbers g_winners) H := hP
      have hD : va_D A (uX2_winningTarget cI cJ a_this a_pond a_moves a_numbering a_search a_levelEnds a_sorted a_mosts a_winners i_settledLook a_pond_behinds a_pond_depths i_pond_size i_pond_isRing i_pond_overOthers i_pond_longestLeap a_moves_pond a_moves_targets g_moves_targets a_numbering_lowStarts a_numbering_highNumbers a_numbering_mixtureSizes i_numbering_lowBits i_numbering_all g_numbering_lowStarts g_numbering_highNumbers g_winners) := hD
      refine lv_iload_n hx hb dX2_winningTarget_36 rfl (lv_at hl 3 rfl) ?_
      refine cl_i (wc := (uX2_otherColour cI cJ)) (w1 := (uX2_otherColour cI cJ)) (rn_S (As := [.int x3]) (rest := [.int (fX9_afterMove x1 x2 x4), .ref a_this]) (wc := (uX2_otherColour cI cJ)) C hP hD [] rfl rfl (mX2_otherColour l D cI cJ H.size) 1 gX2_winningTarget_X2_otherColour rfl ⟨rfl, rfl, Nat.le_of_ble_eq_true rfl, Nat.le_of_ble_eq_true rfl⟩ hdX2_otherColour.2 rfl hl.1 rfl (Nat.le_of_ble_eq_true rfl) dX2_winningTarget_37) hP hD hS hA [] rfl rfl (fun H locs hP hD hS => ?_)
      have hP : va_P D vwCl (uX2_winningTarget cI cJ a_this a_pond a_moves a_numbering a_search a_levelEnds a_sorted a_mosts a_winners i_settledLook a_pond_behinds a_pond_depths i_pond_size i_pond_isRing i_pond_overOthers i_pond_longestLeap a_moves_pond a_moves_targets g_moves_targets a_numbering_lowStarts a_numbering_highNumbers a_numbering_mixtureSizes i_numbering_lowBits i_numbering_all g_numbering_lowStarts g_numbering_highNumbers g_winners) H := hP
      have hD : va_D A (uX2_winningTarget cI cJ a_this a_pond a_moves a_numbering a_search a_levelEnds a_sorted a_mosts a_winners i_settledLook a_pond_behinds a_pond_depths i_pond_size i_pond_isRing i_pond_overOthers i_pond_longestLeap a_moves_pond a_moves_targets g_moves_targets a_numbering_lowStarts a_numbering_highNumbers a_numbering_mixtureSizes i_numbering_lowBits i_numbering_all g_numbering_lowStarts g_numbering_highNumbers g_winners) := hD
      obtain ⟨q2, hq, hf⟩ := ob_some hf
      refine cl_i (wc := (uX2_wins cI cJ a_this a_pond a_moves a_numbering a_search a_levelEnds a_sorted a_mosts a_winners i_settledLook a_numbering_lowStarts a_numbering_highNumbers a_numbering_mixtureSizes i_numbering_lowBits i_numbering_all g_numbering_lowStarts g_numbering_highNumbers g_winners)) (w1 := (uX2_wins cI cJ a_this a_pond a_moves a_numbering a_search a_levelEnds a_sorted a_mosts a_winners i_settledLook a_numbering_lowStarts a_numbering_highNumbers a_numbering_mixtureSizes i_numbering_lowBits i_numbering_all g_numbering_lowStarts g_numbering_highNumbers g_winners)) (rn_V (As := [.int (fX9_afterMove x1 x2 x4), .int (fX2_otherColour x3)]) (b := a_this) (rest := []) (wc := (uX2_wins cI cJ a_this a_pond a_moves a_numbering a_search a_levelEnds a_sorted a_mosts a_winners i_settledLook a_numbering_lowStarts a_numbering_highNumbers a_numbering_mixtureSizes i_numbering_lowBits i_numbering_all g_numbering_lowStarts g_numbering_highNumbers g_winners)) (ci := 2) (q0 := 0) C hP hD [0, 4, 5, 6, 7] rfl rfl rfl rfl (mX2_wins l D cI cJ H.size hq) 2 gX2_winningTarget_X2_wins rfl ⟨rfl, rfl, Nat.le_of_ble_eq_true rfl, Nat.le_of_ble_eq_true rfl⟩ hdX2_wins rfl hl.1 rfl (Nat.le_of_ble_eq_true rfl) dX2_winningTarget_40) hP hD hS hA [0, 4, 5, 6, 7] rfl rfl (fun H locs hP hD hS => ?_)
      have hP : va_P D vwCl (uX2_winningTarget cI cJ a_this a_pond a_moves a_numbering a_search a_levelEnds a_sorted a_mosts a_winners i_settledLook a_pond_behinds a_pond_depths i_pond_size i_pond_isRing i_pond_overOthers i_pond_longestLeap a_moves_pond a_moves_targets g_moves_targets a_numbering_lowStarts a_numbering_highNumbers a_numbering_mixtureSizes i_numbering_lowBits i_numbering_all g_numbering_lowStarts g_numbering_highNumbers g_winners) H := hP
      have hD : va_D A (uX2_winningTarget cI cJ a_this a_pond a_moves a_numbering a_search a_levelEnds a_sorted a_mosts a_winners i_settledLook a_pond_behinds a_pond_depths i_pond_size i_pond_isRing i_pond_overOthers i_pond_longestLeap a_moves_pond a_moves_targets g_moves_targets a_numbering_lowStarts a_numbering_highNumbers a_numbering_mixtureSizes i_numbering_lowBits i_numbering_all g_numbering_lowStarts g_numbering_highNumbers g_winners) := hD
      refine lv_if_ne (tgt := 49) hx hb dX2_winningTarget_43 (by decide) (fun hc => ?_) (fun hc => ?_)
      · have hf := if_no hc hf
        refine lv_iinc (v := (x4 + 1)) (lv' := [(4, .int (x4 + 1)), (0, .ref a_this), (1, .int x1), (2, .int x2), (3, .int x3)]) hx hb dX2_winningTarget_49 hl (k := 4) rfl rfl (by decide) rfl (fun ls hl => ?_)
        refine lv_goto (tgt := 3) hx hb dX2_winningTarget_52 (by decide) ?_
        have ho := Option.some.inj hf
        subst ho
        exact hbk _ rfl _ _ _ hP hD hS (lv_sub hl [1, 2, 3, 4, 0] rfl)
      · have hf := if_yes hc hf
        refine lv_iload hx hb dX2_winningTarget_46 (lv_at hl 4 rfl) ?_
        have ho := Option.some.inj hf
        subst ho
        exact hrt _ rfl H locs ls _ hP hD hS dX2_winningTarget_48
set_option maxHeartbeats 4000000 in
set_option maxRecDepth 100000 in
theorem kX2_winningTarget_J55 {p : Program} {l : Launch} {e : Env} {s : State} {m : MethodId} {args : Array Value} {below : List Frame} {meth : Method} {c : Code} {Q : State → Prop} {A : Nat → Prop} {D : va_G} {cI cJ : ClassId} (C : bC cX2_winningTarget 5 RX2 wsX2_winningTarget D cI cJ p s m args c meth A)
    {a_this : Nat} {a_pond : Nat} {a_moves : Nat} {a_numbering : Nat} {a_search : Nat} {a_levelEnds : Nat} {a_sorted : Nat} {a_mosts : Nat} {a_winners : Nat} {i_settledLook : Int32} {a_pond_behinds : Nat} {a_pond_depths : Nat} {i_pond_size : Int32} {i_pond_isRing : Int32} {i_pond_overOthers : Int32} {i_pond_longestLeap : Int32} {a_moves_pond : Nat} {a_moves_targets : Nat} {g_moves_targets : Nat → Int32} {a_numbering_lowStarts : Nat} {a_numbering_highNumbers : Nat} {a_numbering_mixtureSizes : Nat} {i_numbering_lowBits : Int32} {i_numbering_all : Int32} {g_numbering_lowStarts : Nat → Int32} {g_numbering_highNumbers : Nat → Int32} {g_winners : Nat → Int32} {z : Nat} {o : Int32} (hf : fX2_winningTarget_J55 z i_pond_size g_moves_targets i_numbering_lowBits g_numbering_lowStarts g_numbering_highNumbers i_numbering_all g_winners = some o)
    (hrt : ∀ (H : Heap) (locs : List Loc) (ls : Array Slot) (pc : Nat), va_P D vwCl (uX2_winningTarget cI cJ a_this a_pond a_moves a_numbering a_search a_levelEnds a_sorted a_mosts a_winners i_settledLook a_pond_behinds a_pond_depths i_pond_size i_pond_isRing i_pond_overOthers i_pond_longestLeap a_moves_pond a_moves_targets g_moves_targets a_numbering_lowStarts a_numbering_highNumbers a_numbering_mixtureSizes i_numbering_lowBits i_numbering_all g_numbering_lowStarts g_numbering_highNumbers g_winners) H → va_D A (uX2_winningTarget cI cJ a_this a_pond a_moves a_numbering a_search a_levelEnds a_sorted a_mosts a_winners i_settledLook a_pond_behinds a_pond_depths i_pond_size i_pond_isRing i_pond_overOthers i_pond_longestLeap a_moves_pond a_moves_targets g_moves_targets a_numbering_lowStarts a_numbering_highNumbers a_numbering_mixtureSizes i_numbering_lowBits i_numbering_all g_numbering_lowStarts g_numbering_highNumbers g_winners) → va_S A s.heap H locs → decode cX2_winningTarget pc = .ok (.ireturn, 1) → W p l e rX2_winningTarget s m args below meth c H locs 0 0 Q (F0 m pc ls [.int o]))
    {H : Heap} {locs : List Loc} {ls : Array Slot} (hP : va_P D vwCl (uX2_winningTarget cI cJ a_this a_pond a_moves a_numbering a_search a_levelEnds a_sorted a_mosts a_winners i_settledLook a_pond_behinds a_pond_depths i_pond_size i_pond_isRing i_pond_overOthers i_pond_longestLeap a_moves_pond a_moves_targets g_moves_targets a_numbering_lowStarts a_numbering_highNumbers a_numbering_mixtureSizes i_numbering_lowBits i_numbering_all g_numbering_lowStarts g_numbering_highNumbers g_winners) H) (hD : va_D A (uX2_winningTarget cI cJ a_this a_pond a_moves a_numbering a_search a_levelEnds a_sorted a_mosts a_winners i_settledLook a_pond_behinds a_pond_depths i_pond_size i_pond_isRing i_pond_overOthers i_pond_longestLeap a_moves_pond a_moves_targets g_moves_targets a_numbering_lowStarts a_numbering_highNumbers a_numbering_mixtureSizes i_numbering_lowBits i_numbering_all g_numbering_lowStarts g_numbering_highNumbers g_winners)) (hS : va_S A s.heap H locs) (hl : lv_has ls 5 []) : W p l e rX2_winningTarget s m args below meth c H locs 0 0 Q (F0 m 55 ls []) := by
  obtain ⟨hx, hb, hml, hown, hts, hK, hN, hA, hlocks⟩ := id C
  unfold fX2_winningTarget_J55 at hf
  refine lv_iconst (v := (-1)) hx hb dX2_winningTarget_55 (by decide) ?_
  have ho := Option.some.inj hf
  subst ho
  exact hrt H locs ls _ hP hD hS dX2_winningTarget_56
set_option maxHeartbeats 4000000 in
set_option maxRecDepth 100000 in
theorem kX2_winningTarget_0 {p : Program} {l : Launch} {e : Env} {s : State} {m : MethodId} {args : Array Value} {below : List Frame} {meth : Method} {c : Code} {Q : State → Prop} {A : Nat → Prop} {D : va_G} {cI cJ : ClassId} (C : bC cX2_winningTarget 5 RX2 wsX2_winningTarget D cI cJ p s m args c meth A)
    {a_this : Nat} {a_pond : Nat} {a_moves : Nat} {a_numbering : Nat} {a_search : Nat} {a_levelEnds : Nat} {a_sorted : Nat} {a_mosts : Nat} {a_winners : Nat} {i_settledLook : Int32} {a_pond_behinds : Nat} {a_pond_depths : Nat} {i_pond_size : Int32} {i_pond_isRing : Int32} {i_pond_overOthers : Int32} {i_pond_longestLeap : Int32} {a_moves_pond : Nat} {a_moves_targets : Nat} {g_moves_targets : Nat → Int32} {a_numbering_lowStarts : Nat} {a_numbering_highNumbers : Nat} {a_numbering_mixtureSizes : Nat} {i_numbering_lowBits : Int32} {i_numbering_all : Int32} {g_numbering_lowStarts : Nat → Int32} {g_numbering_highNumbers : Nat → Int32} {g_winners : Nat → Int32} {z : Nat} {x1 : Int32} {x2 : Int32} {x3 : Int32} {o : Int32} (hf : fX2_winningTarget z x1 x2 x3 i_pond_size g_moves_targets i_numbering_lowBits g_numbering_lowStarts g_numbering_highNumbers i_numbering_all g_winners = some o)
    (hrt : ∀ (H : Heap) (locs : List Loc) (ls : Array Slot) (pc : Nat), va_P D vwCl (uX2_winningTarget cI cJ a_this a_pond a_moves a_numbering a_search a_levelEnds a_sorted a_mosts a_winners i_settledLook a_pond_behinds a_pond_depths i_pond_size i_pond_isRing i_pond_overOthers i_pond_longestLeap a_moves_pond a_moves_targets g_moves_targets a_numbering_lowStarts a_numbering_highNumbers a_numbering_mixtureSizes i_numbering_lowBits i_numbering_all g_numbering_lowStarts g_numbering_highNumbers g_winners) H → va_D A (uX2_winningTarget cI cJ a_this a_pond a_moves a_numbering a_search a_levelEnds a_sorted a_mosts a_winners i_settledLook a_pond_behinds a_pond_depths i_pond_size i_pond_isRing i_pond_overOthers i_pond_longestLeap a_moves_pond a_moves_targets g_moves_targets a_numbering_lowStarts a_numbering_highNumbers a_numbering_mixtureSizes i_numbering_lowBits i_numbering_all g_numbering_lowStarts g_numbering_highNumbers g_winners) → va_S A s.heap H locs → decode cX2_winningTarget pc = .ok (.ireturn, 1) → W p l e rX2_winningTarget s m args below meth c H locs 0 0 Q (F0 m pc ls [.int o]))
    {H : Heap} {locs : List Loc} {ls : Array Slot} (hP : va_P D vwCl (uX2_winningTarget cI cJ a_this a_pond a_moves a_numbering a_search a_levelEnds a_sorted a_mosts a_winners i_settledLook a_pond_behinds a_pond_depths i_pond_size i_pond_isRing i_pond_overOthers i_pond_longestLeap a_moves_pond a_moves_targets g_moves_targets a_numbering_lowStarts a_numbering_highNumbers a_numbering_mixtureSizes i_numbering_lowBits i_numbering_all g_numbering_lowStarts g_numbering_highNumbers g_winners) H) (hD : va_D A (uX2_winningTarget cI cJ a_this a_pond a_moves a_numbering a_search a_levelEnds a_sorted a_mosts a_winners i_settledLook a_pond_behinds a_pond_depths i_pond_size i_pond_isRing i_pond_overOthers i_pond_longestLeap a_moves_pond a_moves_targets g_moves_targets a_numbering_lowStarts a_numbering_highNumbers a_numbering_mixtureSizes i_numbering_lowBits i_numbering_all g_numbering_lowStarts g_numbering_highNumbers g_winners)) (hS : va_S A s.heap H locs) (hl : lv_has ls 5 [(0, .ref a_this), (1, .int x1), (2, .int x2), (3, .int x3)]) : W p l e rX2_winningTarget s m args below meth c H locs 0 0 Q (F0 m 0 ls []) := by
  obtain ⟨hx, hb, hml, hown, hts, hK, hN, hA, hlocks⟩ := id C
  unfold fX2_winningTarget at hf
  refine lv_iconst (v := 0) hx hb dX2_winningTarget_0 (by decide) ?_
  refine lv_istore (lv' := [(4, .int 0), (0, .ref a_this), (1, .int x1), (2, .int x2), (3, .int x3)]) hx hb dX2_winningTarget_1 hl (by decide) rfl (fun ls hl => ?_)
  obtain ⟨ex, hlp, hf⟩ := ob_some hf
  refine lp_ind (P := fun sg => ∀ (H : Heap) (locs : List Loc) (ls : Array Slot), va_P D vwCl (uX2_winningTarget cI cJ a_this a_pond a_moves a_numbering a_search a_levelEnds a_sorted a_mosts a_winners i_settledLook a_pond_behinds a_pond_depths i_pond_size i_pond_isRing i_pond_overOthers i_pond_longestLeap a_moves_pond a_moves_targets g_moves_targets a_numbering_lowStarts a_numbering_highNumbers a_numbering_mixtureSizes i_numbering_lowBits i_numbering_all g_numbering_lowStarts g_numbering_highNumbers g_winners) H → va_D A (uX2_winningTarget cI cJ a_this a_pond a_moves a_numbering a_search a_levelEnds a_sorted a_mosts a_winners i_settledLook a_pond_behinds a_pond_depths i_pond_size i_pond_isRing i_pond_overOthers i_pond_longestLeap a_moves_pond a_moves_targets g_moves_targets a_numbering_lowStarts a_numbering_highNumbers a_numbering_mixtureSizes i_numbering_lowBits i_numbering_all g_numbering_lowStarts g_numbering_highNumbers g_winners) → va_S A s.heap H locs → lv_has ls 5 [(0, .ref a_this), (1, .int x1), (2, .int x2), (3, .int x3), (4, .int sg)] → W p l e rX2_winningTarget s m args below meth c H locs 0 0 Q (F0 m 3 ls [])) ?_ z _ hlp H locs ls hP hD hS (lv_sub hl [1, 2, 3, 4, 0] rfl)
  intro sg og hbo hback hexit H locs ls hP hD hS hl
  refine kX2_winningTarget_L3 C hbo (fun s' h => hback s' h) (fun ex h H locs ls hP hD hS hl => ?_) (fun rr h H locs ls pc hP hD hS hdg => ?_) hP hD hS hl
  · have he := hexit _ h
    subst he
    simp only [Sum.elim_inl] at hf
    exact kX2_winningTarget_J55 C hf hrt hP hD hS (lv_sub hl [] rfl)
  · have he := hexit _ h
    subst he
    simp only [Sum.elim_inr] at hf
    have ho := Option.some.inj hf
    subst ho
    exact hrt H locs ls pc hP hD hS hdg
set_option maxHeartbeats 4000000 in
set_option maxRecDepth 100000 in
theorem mX2_winningTarget (l : Launch) (D : va_G) (cI cJ : ClassId) (sz : Nat) {a_this : Nat} {a_pond : Nat} {a_moves : Nat} {a_numbering : Nat} {a_search : Nat} {a_levelEnds : Nat} {a_sorted : Nat} {a_mosts : Nat} {a_winners : Nat} {i_settledLook : Int32} {a_pond_behinds : Nat} {a_pond_depths : Nat} {i_pond_size : Int32} {i_pond_isRing : Int32} {i_pond_overOthers : Int32} {i_pond_longestLeap : Int32} {a_moves_pond : Nat} {a_moves_targets : Nat} {g_moves_targets : Nat → Int32} {a_numbering_lowStarts : Nat} {a_numbering_highNumbers : Nat} {a_numbering_mixtureSizes : Nat} {i_numbering_lowBits : Int32} {i_numbering_all : Int32} {g_numbering_lowStarts : Nat → Int32} {g_numbering_highNumbers : Nat → Int32} {g_winners : Nat → Int32} {z : Nat} {x1 : Int32} {x2 : Int32} {x3 : Int32} {o : Int32} (hf : fX2_winningTarget z x1 x2 x3 i_pond_size g_moves_targets i_numbering_lowBits g_numbering_lowStarts g_numbering_highNumbers i_numbering_all g_winners = some o) : Met l yX2_winningTarget wsX2_winningTarget rX2_winningTarget (va_Pc [.ref a_this, .int x1, .int x2, .int x3] (kP D cI cJ (uX2_winningTarget cI cJ a_this a_pond a_moves a_numbering a_search a_levelEnds a_sorted a_mosts a_winners i_settledLook a_pond_behinds a_pond_depths i_pond_size i_pond_isRing i_pond_overOthers i_pond_longestLeap a_moves_pond a_moves_targets g_moves_targets a_numbering_lowStarts a_numbering_highNumbers a_numbering_mixtureSizes i_numbering_lowBits i_numbering_all g_numbering_lowStarts g_numbering_highNumbers g_winners) sz)) (va_Qi (fun r' (_ : Unit) => r' = o) (fun _ t => kB D (va_A (uX2_winningTarget cI cJ a_this a_pond a_moves a_numbering a_search a_levelEnds a_sorted a_mosts a_winners i_settledLook a_pond_behinds a_pond_depths i_pond_size i_pond_isRing i_pond_overOthers i_pond_longestLeap a_moves_pond a_moves_targets g_moves_targets a_numbering_lowStarts a_numbering_highNumbers a_numbering_mixtureSizes i_numbering_lowBits i_numbering_all g_numbering_lowStarts g_numbering_highNumbers g_winners) sz) (uX2_winningTarget cI cJ a_this a_pond a_moves a_numbering a_search a_levelEnds a_sorted a_mosts a_winners i_settledLook a_pond_behinds a_pond_depths i_pond_size i_pond_isRing i_pond_overOthers i_pond_longestLeap a_moves_pond a_moves_targets g_moves_targets a_numbering_lowStarts a_numbering_highNumbers a_numbering_mixtureSizes i_numbering_lowBits i_numbering_all g_numbering_lowStarts g_numbering_highNumbers g_winners) t) (va_A (uX2_winningTarget cI cJ a_this a_pond a_moves a_numbering a_search a_levelEnds a_sorted a_mosts a_winners i_settledLook a_pond_behinds a_pond_depths i_pond_size i_pond_isRing i_pond_overOthers i_pond_longestLeap a_moves_pond a_moves_targets g_moves_targets a_numbering_lowStarts a_numbering_highNumbers a_numbering_mixtureSizes i_numbering_lowBits i_numbering_all g_numbering_lowStarts g_numbering_highNumbers g_winners) sz)) 0 0 (va_A (uX2_winningTarget cI cJ a_this a_pond a_moves a_numbering a_search a_levelEnds a_sorted a_mosts a_winners i_settledLook a_pond_behinds a_pond_depths i_pond_size i_pond_isRing i_pond_overOthers i_pond_longestLeap a_moves_pond a_moves_targets g_moves_targets a_numbering_lowStarts a_numbering_highNumbers a_numbering_mixtureSizes i_numbering_lowBits i_numbering_all g_numbering_lowStarts g_numbering_highNumbers g_winners) sz) :=
  met_i (by decide) rfl (Nat.le_of_ble_eq_true rfl) (fun p e s m below meth c A Q C hrt ls hl hP hD hS => kX2_winningTarget_0 (A := A) C hf hrt hP hD hS hl)

/-! ===== FrogsOnRing$Ending.winningMove(II)I ===== -/
abbrev uX2_winningMove (cI cJ : ClassId) (a_this : Nat) (a_pond : Nat) (a_moves : Nat) (a_numbering : Nat) (a_search : Nat) (a_levelEnds : Nat) (a_sorted : Nat) (a_mosts : Nat) (a_winners : Nat) (i_settledLook : Int32) (a_moves_pond : Nat) (a_moves_targets : Nat) (g_moves_targets : Nat → Int32) (a_moves_pond_behinds : Nat) (a_moves_pond_depths : Nat) (i_moves_pond_size : Int32) (i_moves_pond_isRing : Int32) (i_moves_pond_overOthers : Int32) (i_moves_pond_longestLeap : Int32) (g_moves_pond_behinds : Nat → Int32) (a_pond_behinds : Nat) (a_pond_depths : Nat) (i_pond_size : Int32) (i_pond_isRing : Int32) (i_pond_overOthers : Int32) (i_pond_longestLeap : Int32) (a_numbering_lowStarts : Nat) (a_numbering_highNumbers : Nat) (a_numbering_mixtureSizes : Nat) (i_numbering_lowBits : Int32) (i_numbering_all : Int32) (g_numbering_lowStarts : Nat → Int32) (g_numbering_highNumbers : Nat → Int32) (g_winners : Nat → Int32) : va_W := [(a_this, .inr (2, [.ref a_pond, .ref a_moves, .ref a_numbering, .ref a_search, .ref a_levelEnds, .ref a_sorted, .ref a_mosts, .ref a_winners, .int i_settledLook])), (a_moves, .inr (3, [.ref a_moves_pond, .ref a_moves_targets])), (a_moves_targets, .inl (cI, 9, .inl g_moves_targets)), (a_moves_pond, .inr (6, [.ref a_moves_pond_behinds, .ref a_moves_pond_depths, .int i_moves_pond_size, .int i_moves_pond_isRing, .int i_moves_pond_overOthers, .int i_moves_pond_longestLeap])), (a_moves_pond_behinds, .inl (cI, 9, .inl g_moves_pond_behinds)), (a_pond, .inr (6, [.ref a_pond_behinds, .ref a_pond_depths, .int i_pond_size, .int i_pond_isRing, .int i_pond_overOthers, .int i_pond_longestLeap])), (a_numbering, .inr (4, [.ref a_numbering_lowStarts, .ref a_numbering_highNumbers, .ref a_numbering_mixtureSizes, .int i_numbering_lowBits, .int i_numbering_all])), (a_numbering_lowStarts, .inl (cI, 1024, .inl g_numbering_lowStarts)), (a_numbering_highNumbers, .inl (cI, 256, .inl g_numbering_highNumbers)), (a_winners, .inl (cI, 1680, .inl g_winners))]
def rX2_winningMove : Room := { frames := 3, cells := 0, slots := 0, locals := 71 }
theorem hdX2_winningMove : yX2_winningMove.cls = RX2 ∧ yX2_winningMove.cls ≠ "java/lang/invoke/MethodHandle" ∧ yX2_winningMove.cls ≠ "java/lang/invoke/VarHandle" ∧ (parseMethodDescriptor yX2_winningMove.desc).map (fun d => d.parameters.length) = some 2 := by decide +kernel
set_option maxRecDepth 20000 in
theorem jX2_winningMove_X2 : ∀ w ∈ u_ws RX2 TX2 9, w ∈ wsX2_winningMove := by decide +kernel
set_option maxRecDepth 20000 in
theorem jX2_winningMove_X6 : ∀ w ∈ u_ws RX6 TX6 6, w ∈ wsX2_winningMove := by decide +kernel
set_option maxRecDepth 20000 in
theorem qX2_winningMove_24 : Cond.fieldLink RX2 24 "FrogsOnRing$Ending" "pond" "LFrogsOnRing$Pond;" ∈ wsX2_winningMove := by decide +kernel
set_option maxRecDepth 20000 in
theorem qX2_winningMove_28 : Cond.fieldLink RX2 28 "FrogsOnRing$Ending" "moves" "LFrogsOnRing$Moves;" ∈ wsX2_winningMove := by decide +kernel
set_option maxRecDepth 20000 in
theorem qX2_winningMove_81 : Cond.fieldLink RX2 81 "FrogsOnRing$Pond" "size" "I" ∈ wsX2_winningMove := by decide +kernel
set_option maxRecDepth 20000 in
theorem qX2_winningMove_iX9_kindAt : Cond.initialized yX9_kindAt.cls ∈ wsX2_winningMove := by decide +kernel
set_option maxRecDepth 20000 in
theorem qX2_winningMove_sX9_kindAt : Cond.static yX9_kindAt ∈ wsX2_winningMove := by decide +kernel
set_option maxHeartbeats 4000000 in
set_option maxRecDepth 100000 in
theorem kX2_winningMove_L10 {p : Program} {l : Launch} {e : Env} {s : State} {m : MethodId} {args : Array Value} {below : List Frame} {meth : Method} {c : Code} {Q : State → Prop} {A : Nat → Prop} {D : va_G} {cI cJ : ClassId} (C : bC cX2_winningMove 5 RX2 wsX2_winningMove D cI cJ p s m args c meth A)
    {a_this : Nat} {a_pond : Nat} {a_moves : Nat} {a_numbering : Nat} {a_search : Nat} {a_levelEnds : Nat} {a_sorted : Nat} {a_mosts : Nat} {a_winners : Nat} {i_settledLook : Int32} {a_moves_pond : Nat} {a_moves_targets : Nat} {g_moves_targets : Nat → Int32} {a_moves_pond_behinds : Nat} {a_moves_pond_depths : Nat} {i_moves_pond_size : Int32} {i_moves_pond_isRing : Int32} {i_moves_pond_overOthers : Int32} {i_moves_pond_longestLeap : Int32} {g_moves_pond_behinds : Nat → Int32} {a_pond_behinds : Nat} {a_pond_depths : Nat} {i_pond_size : Int32} {i_pond_isRing : Int32} {i_pond_overOthers : Int32} {i_pond_longestLeap : Int32} {a_numbering_lowStarts : Nat} {a_numbering_highNumbers : Nat} {a_numbering_mixtureSizes : Nat} {i_numbering_lowBits : Int32} {i_numbering_all : Int32} {g_numbering_lowStarts : Nat → Int32} {g_numbering_highNumbers : Nat → Int32} {g_winners : Nat → Int32} {z : Nat} {x1 : Int32} {x2 : Int32} {x3 : Int32} {o : (Int32) ⊕ ((Unit) ⊕ (Int32 × (Nat → Int32)))} (hf : fX2_winningMove_L10 z x1 x2 x3 g_moves_targets i_moves_pond_size i_moves_pond_longestLeap g_moves_pond_behinds i_moves_pond_overOthers i_pond_size i_numbering_lowBits g_numbering_lowStarts g_numbering_highNumbers i_numbering_all g_winners = some o)
    (hbk : ∀ s', o = .inl s' → ∀ (H : Heap) (locs : List Loc) (ls : Array Slot), va_P D vwCl (uX2_winningMove cI cJ a_this a_pond a_moves a_numbering a_search a_levelEnds a_sorted a_mosts a_winners i_settledLook a_moves_pond a_moves_targets g_moves_targets a_moves_pond_behinds a_moves_pond_depths i_moves_pond_size i_moves_pond_isRing i_moves_pond_overOthers i_moves_pond_longestLeap g_moves_pond_behinds a_pond_behinds a_pond_depths i_pond_size i_pond_isRing i_pond_overOthers i_pond_longestLeap a_numbering_lowStarts a_numbering_highNumbers a_numbering_mixtureSizes i_numbering_lowBits i_numbering_all g_numbering_lowStarts g_numbering_highNumbers g_winners) H → va_D A (uX2_winningMove cI cJ a_this a_pond a_moves a_numbering a_search a_levelEnds a_sorted a_mosts a_winners i_settledLook a_moves_pond a_moves_targets g_moves_targets a_moves_pond_behinds a_moves_pond_depths i_moves_pond_size i_moves_pond_isRing i_moves_pond_overOthers i_moves_pond_longestLeap g_moves_pond_behinds a_pond_behinds a_pond_depths i_pond_size i_pond_isRing i_pond_overOthers i_pond_longestLeap a_numbering_lowStarts a_numbering_highNumbers a_numbering_mixtureSizes i_numbering_lowBits i_numbering_all g_numbering_lowStarts g_numbering_highNumbers g_winners) → va_S A s.heap H locs → lv_has ls 5 [(0, .ref a_this), (1, .int x1), (2, .int x2), (3, .int s')] → W p l e rX2_winningMove s m args below meth c H locs 0 0 Q (F0 m 10 ls []))
    (hex : ∀ e', o = .inr (.inl e') → ∀ (H : Heap) (locs : List Loc) (ls : Array Slot), va_P D vwCl (uX2_winningMove cI cJ a_this a_pond a_moves a_numbering a_search a_levelEnds a_sorted a_mosts a_winners i_settledLook a_moves_pond a_moves_targets g_moves_targets a_moves_pond_behinds a_moves_pond_depths i_moves_pond_size i_moves_pond_isRing i_moves_pond_overOthers i_moves_pond_longestLeap g_moves_pond_behinds a_pond_behinds a_pond_depths i_pond_size i_pond_isRing i_pond_overOthers i_pond_longestLeap a_numbering_lowStarts a_numbering_highNumbers a_numbering_mixtureSizes i_numbering_lowBits i_numbering_all g_numbering_lowStarts g_numbering_highNumbers g_winners) H → va_D A (uX2_winningMove cI cJ a_this a_pond a_moves a_numbering a_search a_levelEnds a_sorted a_mosts a_winners i_settledLook a_moves_pond a_moves_targets g_moves_targets a_moves_pond_behinds a_moves_pond_depths i_moves_pond_size i_moves_pond_isRing i_moves_pond_overOthers i_moves_pond_longestLeap g_moves_pond_behinds a_pond_behinds a_pond_depths i_pond_size i_pond_isRing i_pond_overOthers i_pond_longestLeap a_numbering_lowStarts a_numbering_highNumbers a_numbering_mixtureSizes i_numbering_lowBits i_numbering_all g_numbering_lowStarts g_numbering_highNumbers g_winners) → va_S A s.heap H locs → lv_has ls 5 [] → W p l e rX2_winningMove s m args below meth c H locs 0 0 Q (F0 m 59 ls []))
    (hrt : ∀ r', o = .inr (.inr r') → ∀ (H : Heap) (locs : List Loc) (ls : Array Slot) (pc : Nat), va_P D vwCl (uX2_winningMove cI cJ a_this a_pond a_moves a_numbering a_search a_levelEnds a_sorted a_mosts a_winners i_settledLook a_moves_pond a_moves_targets r'.2 a_moves_pond_behinds a_moves_pond_depths i_moves_pond_size i_moves_pond_isRing i_moves_pond_overOthers i_moves_pond_longestLeap g_moves_pond_behinds a_pond_behinds a_pond_depths i_pond_size i_pond_isRing i_pond_overOthers i_pond_longestLeap a_numbering_lowStarts a_numbering_highNumbers a_numbering_mixtureSizes i_numbering_lowBits i_numbering_all g_numbering_lowStarts g_numbering_highNumbers g_winners) H → va_D A (uX2_winningMove cI cJ a_this a_pond a_moves a_numbering a_search a_levelEnds a_sorted a_mosts a_winners i_settledLook a_moves_pond a_moves_targets r'.2 a_moves_pond_behinds a_moves_pond_depths i_moves_pond_size i_moves_pond_isRing i_moves_pond_overOthers i_moves_pond_longestLeap g_moves_pond_behinds a_pond_behinds a_pond_depths i_pond_size i_pond_isRing i_pond_overOthers i_pond_longestLeap a_numbering_lowStarts a_numbering_highNumbers a_numbering_mixtureSizes i_numbering_lowBits i_numbering_all g_numbering_lowStarts g_numbering_highNumbers g_winners) → va_S A s.heap H locs → decode cX2_winningMove pc = .ok (.ireturn, 1) → W p l e rX2_winningMove s m args below meth c H locs 0 0 Q (F0 m pc ls [.int r'.1]))
    {H : Heap} {locs : List Loc} {ls : Array Slot} (hP : va_P D vwCl (uX2_winningMove cI cJ a_this a_pond a_moves a_numbering a_search a_levelEnds a_sorted a_mosts a_winners i_settledLook a_moves_pond a_moves_targets g_moves_targets a_moves_pond_behinds a_moves_pond_depths i_moves_pond_size i_moves_pond_isRing i_moves_pond_overOthers i_moves_pond_longestLeap g_moves_pond_behinds a_pond_behinds a_pond_depths i_pond_size i_pond_isRing i_pond_overOthers i_pond_longestLeap a_numbering_lowStarts a_numbering_highNumbers a_numbering_mixtureSizes i_numbering_lowBits i_numbering_all g_numbering_lowStarts g_numbering_highNumbers g_winners) H) (hD : va_D A (uX2_winningMove cI cJ a_this a_pond a_moves a_numbering a_search a_levelEnds a_sorted a_mosts a_winners i_settledLook a_moves_pond a_moves_targets g_moves_targets a_moves_pond_behinds a_moves_pond_depths i_moves_pond_size i_moves_pond_isRing i_moves_pond_overOthers i_moves_pond_longestLeap g_moves_pond_behinds a_pond_behinds a_pond_depths i_pond_size i_pond_isRing i_pond_overOthers i_pond_longestLeap a_numbering_lowStarts a_numbering_highNumbers a_numbering_mixtureSizes i_numbering_lowBits i_numbering_all g_numbering_lowStarts g_numbering_highNumbers g_winners)) (hS : va_S A s.heap H locs) (hl : lv_has ls 5 [(0, .ref a_this), (1, .int x1), (2, .int x2), (3, .int x3)]) : W p l e rX2_winningMove s m args below meth c H locs 0 0 Q (F0 m 10 ls []) := by
  obtain ⟨hx, hb, hml, hown, hts, hK, hN, hA, hlocks⟩ := id C
  unfold fX2_winningMove_L10 at hf
  refine lv_iload_n hx hb dX2_winningMove_10 rfl (lv_at hl 3 rfl) ?_
  refine lv_aload_n hx hb dX2_winningMove_11 rfl (lv_at hl 0 rfl) ?_
  refine va_get (D := D) (ci := 2) (v := .ref a_pond) (C := RX2) (T := TX2) (N := 9) hx hb hts jX2_winningMove_X2 hown hK hP 0 rfl rfl 0 (by decide) (hts _ qX2_winningMove_24) (fun _ h9 => h9) rfl dX2_winningMove_12 ?_
  refine va_get (D := D) (ci := 6) (v := .int i_pond_size) (C := RX6) (T := TX6) (N := 6) hx hb hts jX2_winningMove_X6 hown hK hP 5 rfl rfl 2 (by decide) (hts _ qX2_winningMove_81) (fun _ h9 => h9) rfl dX2_winningMove_15 ?_
  refine lv_icmp_ge (tgt := 59) hx hb dX2_winningMove_18 (by decide) (fun hc => ?_) (fun hc => ?_)
  · have hf := if_yes hc hf
    have ho := Option.some.inj hf
    subst ho
    exact hex _ rfl _ _ _ hP hD hS (lv_sub hl [] rfl)
  · have hf := if_no hc hf
    refine lv_iload_n hx hb dX2_winningMove_21 rfl (lv_at hl 1 rfl) ?_
    refine lv_iload_n hx hb dX2_winningMove_22 rfl (lv_at hl 3 rfl) ?_
    refine cl_i (wc := (uX9_kindAt cI cJ)) (w1 := (uX9_kindAt cI cJ)) (rn_N (As := [.int x1, .int x3]) (rest := []) (wc := (uX9_kindAt cI cJ)) C hP hD [] rfl rfl (mX9_kindAt l D cI cJ H.size) 2 gX2_winningMove_X9_kindAt_n86 qX2_winningMove_iX9_kindAt qX2_winningMove_sX9_kindAt 14 rfl rfl ⟨rfl, rfl, Nat.le_of_ble_eq_true rfl, Nat.le_of_ble_eq_true rfl⟩ hdX9_kindAt.2 rfl hl.1 rfl (Nat.le_of_ble_eq_true rfl) dX2_winningMove_23) hP hD hS hA [] rfl rfl (fun H locs hP hD hS => ?_)
    have hP : va_P D vwCl (uX2_winningMove cI cJ a_this a_pond a_moves a_numbering a_search a_levelEnds a_sorted a_mosts a_winners i_settledLook a_moves_pond a_moves_targets g_moves_targets a_moves_pond_behinds a_moves_pond_depths i_moves_pond_size i_moves_pond_isRing i_moves_pond_overOthers i_moves_pond_longestLeap g_moves_pond_behinds a_pond_behinds a_pond_depths i_pond_size i_pond_isRing i_pond_overOthers i_pond_longestLeap a_numbering_lowStarts a_numbering_highNumbers a_numbering_mixtureSizes i_numbering_lowBits i_numbering_all g_numbering_lowStarts g_numbering_highNumbers g_winners) H := hP
    have hD : va_D A (uX2_winningMove cI cJ a_this a_pond a_moves a_numbering a_search a_levelEnds a_sorted a_mosts a_winners i_settledLook a_moves_pond a_moves_targets g_moves_targets a_moves_pond_behinds a_moves_pond_depths i_moves_pond_size i_moves_pond_isRing i_moves_pond_overOthers i_moves_pond_longestLeap g_moves_pond_behinds a_pond_behinds a_pond_depths i_pond_size i_pond_isRing i_pond_overOthers i_pond_longestLeap a_numbering_lowStarts a_numbering_highNumbers a_numbering_mixtureSizes i_numbering_lowBits i_numbering_all g_numbering_lowStarts g_numbering_highNumbers g_winners) := hD
    refine lv_iload_n hx hb dX2_winningMove_26 rfl (lv_at hl 2 rfl) ?_
    refine lv_icmp_ne (tgt := 53) hx hb dX2_winningMove_27 (by decide) (fun hc => ?_) (fun hc => ?_)
    · have hf := if_no hc hf
      refine lv_iinc (v := (x3 + 1)) (lv' := [(3, .int (x3 + 1)), (0, .ref a_this), (1, .int x1), (2, .int x2)]) hx hb dX2_winningMove_53 hl (k := 3) rfl rfl (by decide) rfl (fun ls hl => ?_)
      refine lv_goto (tgt := 10) hx hb dX2_winningMove_56 (by decide) ?_
      have ho := Option.some.inj hf
      subst ho
      exact hbk _ rfl _ _ _ hP hD hS (lv_sub hl [1, 2, 3, 0] rfl)
    · have hf := if_yes hc hf
      refine lv_aload_n hx hb dX2_winningMove_30 rfl (lv_at hl 0 rfl) ?_
      refine lv_iload_n hx hb dX2_winningMove_31 rfl (lv_at hl 1 rfl) ?_
      refine lv_iload_n hx hb dX2_winningMove_32 rfl (lv_at hl 3 rfl) ?_
      refine lv_iload_n hx hb dX2_winningMove_33 rfl (lv_at hl 2 rfl) ?_
      obtain ⟨q2, hq, hf⟩ := ob_some hf
      refine cl_i (wc := (uX2_winningTarget cI cJ a_this a_pond a_moves a_numbering a_search a_levelEnds a_sorted a_mosts a_winners i_settledLook a_pond_behinds a_pond_depths i_pond_size i_pond_isRing i_pond_overOthers i_pond_longestLeap a_moves_pond a_moves_targets g_moves_targets a_numbering_lowStarts a_numbering_highNumbers a_numbering_mixtureSizes i_numbering_lowBits i_numbering_all g_numbering_lowStarts g_numbering_highNumbers g_winners)) (w1 := (uX2_winningTarget cI cJ a_this a_pond a_moves a_numbering a_search a_levelEnds a_sorted a_mosts a_winners i_settledLook a_pond_behinds a_pond_depths i_pond_size i_pond_isRing i_pond_overOthers i_pond_longestLeap a_moves_pond a_moves_targets g_moves_targets a_numbering_lowStarts a_numbering_highNumbers a_numbering_mixtureSizes i_numbering_lowBits i_numbering_all g_numbering_lowStarts g_numbering_highNumbers g_winners)) (rn_V (As := [.int x1, .int x3, .int x2]) (b := a_this) (rest := []) (wc := (uX2_winningTarget cI cJ a_this a_pond a_moves a_numbering a_search a_levelEnds a_sorted a_mosts a_winners i_settledLook a_pond_behinds a_pond_depths i_pond_size i_pond_isRing i_pond_overOthers i_pond_longestLeap a_moves_pond a_moves_targets g_moves_targets a_numbering_lowStarts a_numbering_highNumbers a_numbering_mixtureSizes i_numbering_lowBits i_numbering_all g_numbering_lowStarts g_numbering_highNumbers g_winners)) (ci := 2) (q0 := 0) C hP hD [0, 5, 1, 2, 6, 7, 8, 9] rfl rfl rfl rfl (mX2_winningTarget l D cI cJ H.size hq) 3 gX2_winningMove_X2_winningTarget rfl ⟨rfl, rfl, Nat.le_of_ble_eq_true rfl, Nat.le_of_ble_eq_true rfl⟩ hdX2_winningTarget rfl hl.1 rfl (Nat.le_of_ble_eq_true rfl) dX2_winningMove_34) hP hD hS hA [0, 5, 1, 2, 6, 7, 8, 9] rfl rfl (fun H locs hP hD hS => ?_)
      have hP : va_P D vwCl (uX2_winningMove cI cJ a_this a_pond a_moves a_numbering a_search a_levelEnds a_sorted a_mosts a_winners i_settledLook a_moves_pond a_moves_targets g_moves_targets a_moves_pond_behinds a_moves_pond_depths i_moves_pond_size i_moves_pond_isRing i_moves_pond_overOthers i_moves_pond_longestLeap g_moves_pond_behinds a_pond_behinds a_pond_depths i_pond_size i_pond_isRing i_pond_overOthers i_pond_longestLeap a_numbering_lowStarts a_numbering_highNumbers a_numbering_mixtureSizes i_numbering_lowBits i_numbering_all g_numbering_lowStarts g_numbering_highNumbers g_winners) H := hP
      have hD : va_D A (uX2_winningMove cI cJ a_this a_pond a_moves a_numbering a_search a_levelEnds a_sorted a_mosts a_winners i_settledLook a_moves_pond a_moves_targets g_moves_targets a_moves_pond_behinds a_moves_pond_depths i_moves_pond_size i_moves_pond_isRing i_moves_pond_overOthers i_moves_pond_longestLeap g_moves_pond_behinds a_pond_behinds a_pond_depths i_pond_size i_pond_isRing i_pond_overOthers i_pond_longestLeap a_numbering_lowStarts a_numbering_highNumbers a_numbering_mixtureSizes i_numbering_lowBits i_numbering_all g_numbering_lowStarts g_numbering_highNumbers g_winners) := hD
      refine lv_istore (lv' := [(4, .int q2), (0, .ref a_this), (1, .int x1), (2, .int x2), (3, .int x3)]) hx hb dX2_winningMove_37 hl (by decide) rfl (fun ls hl => ?_)
      refine lv_iload hx hb dX2_winningMove_39 (lv_at hl 0 rfl) ?_
      refine lv_iconst (v := (-1)) hx hb dX2_winningMove_41 (by decide) ?_
      refine lv_icmp_eq (tgt := 53) hx hb dX2_winningMove_42 (by decide) (fun hc => ?_) (fun hc => ?_)
      · have hf := if_yes hc hf
        refine lv_iinc (v := (x3 + 1)) (lv' := [(3, .int (x3 + 1)), (4, .int q2), (0, .ref a_this), (1, .int x1), (2, .int x2)]) hx hb dX2_winningMove_53 hl (k := 4) rfl rfl (by decide) rfl (fun ls hl => ?_)
        refine lv_goto (tgt := 10) hx hb dX2_winningMove_56 (by decide) ?_
        have ho := Option.some.inj hf
        subst ho
        exact hbk _ rfl _ _ _ hP hD hS (lv_sub hl [2, 3, 4, 0] rfl)
      · have hf := if_no hc hf
        refine lv_bipush (v := 16) hx hb dX2_winningMove_45 (by decide) ?_
        refine lv_iload_n hx hb dX2_winningMove_47 rfl (lv_at hl 4 rfl) ?_
        refine lv_imul hx hb dX2_winningMove_48 ?_
        refine lv_iload hx hb dX2_winningMove_49 (lv_at hl 0 rfl) ?_
        refine lv_iadd hx hb dX2_winningMove_51 ?_
        have ho := Option.some.inj hf
        subst ho
        exact hrt _ rfl H locs ls _ hP hD hS dX2_winningMove_52
set_option maxHeartbeats 4000000 in
set_option maxRecDepth 100000 in
theorem kX2_winningMove_J59 {p : Program} {l : Launch} {e : Env} {s : State} {m : MethodId} {args : Array Value} {below : List Frame} {meth : Method} {c : Code} {Q : State → Prop} {A : Nat → Prop} {D : va_G} {cI cJ : ClassId} (C : bC cX2_winningMove 5 RX2 wsX2_winningMove D cI cJ p s m args c meth A)
    {a_this : Nat} {a_pond : Nat} {a_moves : Nat} {a_numbering : Nat} {a_search : Nat} {a_levelEnds : Nat} {a_sorted : Nat} {a_mosts : Nat} {a_winners : Nat} {i_settledLook : Int32} {a_moves_pond : Nat} {a_moves_targets : Nat} {g_moves_targets : Nat → Int32} {a_moves_pond_behinds : Nat} {a_moves_pond_depths : Nat} {i_moves_pond_size : Int32} {i_moves_pond_isRing : Int32} {i_moves_pond_overOthers : Int32} {i_moves_pond_longestLeap : Int32} {g_moves_pond_behinds : Nat → Int32} {a_pond_behinds : Nat} {a_pond_depths : Nat} {i_pond_size : Int32} {i_pond_isRing : Int32} {i_pond_overOthers : Int32} {i_pond_longestLeap : Int32} {a_numbering_lowStarts : Nat} {a_numbering_highNumbers : Nat} {a_numbering_mixtureSizes : Nat} {i_numbering_lowBits : Int32} {i_numbering_all : Int32} {g_numbering_lowStarts : Nat → Int32} {g_numbering_highNumbers : Nat → Int32} {g_winners : Nat → Int32} {z : Nat} {o : Int32 × (Nat → Int32)} (hf : fX2_winningMove_J59 z g_moves_targets i_moves_pond_size i_moves_pond_longestLeap g_moves_pond_behinds i_moves_pond_overOthers i_pond_size i_numbering_lowBits g_numbering_lowStarts g_numbering_highNumbers i_numbering_all g_winners = some o)
    (hrt : ∀ (H : Heap) (locs : List Loc) (ls : Array Slot) (pc : Nat), va_P D vwCl (uX2_winningMove cI cJ a_this a_pond a_moves a_numbering a_search a_levelEnds a_sorted a_mosts a_winners i_settledLook a_moves_pond a_moves_targets o.2 a_moves_pond_behinds a_moves_pond_depths i_moves_pond_size i_moves_pond_isRing i_moves_pond_overOthers i_moves_pond_longestLeap g_moves_pond_behinds a_pond_behinds a_pond_depths i_pond_size i_pond_isRing i_pond_overOthers i_pond_longestLeap a_numbering_lowStarts a_numbering_highNumbers a_numbering_mixtureSizes i_numbering_lowBits i_numbering_all g_numbering_lowStarts g_numbering_highNumbers g_winners) H → va_D A (uX2_winningMove cI cJ a_this a_pond a_moves a_numbering a_search a_levelEnds a_sorted a_mosts a_winners i_settledLook a_moves_pond a_moves_targets o.2 a_moves_pond_behinds a_moves_pond_depths i_moves_pond_size i_moves_pond_isRing i_moves_pond_overOthers i_moves_pond_longestLeap g_moves_pond_behinds a_pond_behinds a_pond_depths i_pond_size i_pond_isRing i_pond_overOthers i_pond_longestLeap a_numbering_lowStarts a_numbering_highNumbers a_numbering_mixtureSizes i_numbering_lowBits i_numbering_all g_numbering_lowStarts g_numbering_highNumbers g_winners) → va_S A s.heap H locs → decode cX2_winningMove pc = .ok (.ireturn, 1) → W p l e rX2_winningMove s m args below meth c H locs 0 0 Q (F0 m pc ls [.int o.1]))
    {H : Heap} {locs : List Loc} {ls : Array Slot} (hP : va_P D vwCl (uX2_winningMove cI cJ a_this a_pond a_moves a_numbering a_search a_levelEnds a_sorted a_mosts a_winners i_settledLook a_moves_pond a_moves_targets g_moves_targets a_moves_pond_behinds a_moves_pond_depths i_moves_pond_size i_moves_pond_isRing i_moves_pond_overOthers i_moves_pond_longestLeap g_moves_pond_behinds a_pond_behinds a_pond_depths i_pond_size i_pond_isRing i_pond_overOthers i_pond_longestLeap a_numbering_lowStarts a_numbering_highNumbers a_numbering_mixtureSizes i_numbering_lowBits i_numbering_all g_numbering_lowStarts g_numbering_highNumbers g_winners) H) (hD : va_D A (uX2_winningMove cI cJ a_this a_pond a_moves a_numbering a_search a_levelEnds a_sorted a_mosts a_winners i_settledLook a_moves_pond a_moves_targets g_moves_targets a_moves_pond_behinds a_moves_pond_depths i_moves_pond_size i_moves_pond_isRing i_moves_pond_overOthers i_moves_pond_longestLeap g_moves_pond_behinds a_pond_behinds a_pond_depths i_pond_size i_pond_isRing i_pond_overOthers i_pond_longestLeap a_numbering_lowStarts a_numbering_highNumbers a_numbering_mixtureSizes i_numbering_lowBits i_numbering_all g_numbering_lowStarts g_numbering_highNumbers g_winners)) (hS : va_S A s.heap H locs) (hl : lv_has ls 5 []) : W p l e rX2_winningMove s m args below meth c H locs 0 0 Q (F0 m 59 ls []) := by
  obtain ⟨hx, hb, hml, hown, hts, hK, hN, hA, hlocks⟩ := id C
  unfold fX2_winningMove_J59 at hf
  refine lv_iconst (v := (-1)) hx hb dX2_winningMove_59 (by decide) ?_
  have ho := Option.some.inj hf
  subst ho
  exact hrt H locs ls _ hP hD hS dX2_winningMove_60
set_option maxHeartbeats 4000000 in
set_option maxRecDepth 100000 in
theorem kX2_winningMove_0 {p : Program} {l : Launch} {e : Env} {s : State} {m : MethodId} {args : Array Value} {below : List Frame} {meth : Method} {c : Code} {Q : State → Prop} {A : Nat → Prop} {D : va_G} {cI cJ : ClassId} (C : bC cX2_winningMove 5 RX2 wsX2_winningMove D cI cJ p s m args c meth A)
    {a_this : Nat} {a_pond : Nat} {a_moves : Nat} {a_numbering : Nat} {a_search : Nat} {a_levelEnds : Nat} {a_sorted : Nat} {a_mosts : Nat} {a_winners : Nat} {i_settledLook : Int32} {a_moves_pond : Nat} {a_moves_targets : Nat} {g_moves_targets : Nat → Int32} {a_moves_pond_behinds : Nat} {a_moves_pond_depths : Nat} {i_moves_pond_size : Int32} {i_moves_pond_isRing : Int32} {i_moves_pond_overOthers : Int32} {i_moves_pond_longestLeap : Int32} {g_moves_pond_behinds : Nat → Int32} {a_pond_behinds : Nat} {a_pond_depths : Nat} {i_pond_size : Int32} {i_pond_isRing : Int32} {i_pond_overOthers : Int32} {i_pond_longestLeap : Int32} {a_numbering_lowStarts : Nat} {a_numbering_highNumbers : Nat} {a_numbering_mixtureSizes : Nat} {i_numbering_lowBits : Int32} {i_numbering_all : Int32} {g_numbering_lowStarts : Nat → Int32} {g_numbering_highNumbers : Nat → Int32} {g_winners : Nat → Int32} {z : Nat} {x1 : Int32} {x2 : Int32} {o : Int32 × (Nat → Int32)} (hf : fX2_winningMove z x1 x2 g_moves_targets i_moves_pond_size i_moves_pond_longestLeap g_moves_pond_behinds i_moves_pond_overOthers i_pond_size i_numbering_lowBits g_numbering_lowStarts g_numbering_highNumbers i_numbering_all g_winners = some o)
    (hrt : ∀ (H : Heap) (locs : List Loc) (ls : Array Slot) (pc : Nat), va_P D vwCl (uX2_winningMove cI cJ a_this a_pond a_moves a_numbering a_search a_levelEnds a_sorted a_mosts a_winners i_settledLook a_moves_pond a_moves_targets o.2 a_moves_pond_behinds a_moves_pond_depths i_moves_pond_size i_moves_pond_isRing i_moves_pond_overOthers i_moves_pond_longestLeap g_moves_pond_behinds a_pond_behinds a_pond_depths i_pond_size i_pond_isRing i_pond_overOthers i_pond_longestLeap a_numbering_lowStarts a_numbering_highNumbers a_numbering_mixtureSizes i_numbering_lowBits i_numbering_all g_numbering_lowStarts g_numbering_highNumbers g_winners) H → va_D A (uX2_winningMove cI cJ a_this a_pond a_moves a_numbering a_search a_levelEnds a_sorted a_mosts a_winners i_settledLook a_moves_pond a_moves_targets o.2 a_moves_pond_behinds a_moves_pond_depths i_moves_pond_size i_moves_pond_isRing i_moves_pond_overOthers i_moves_pond_longestLeap g_moves_pond_behinds a_pond_behinds a_pond_depths i_pond_size i_pond_isRing i_pond_overOthers i_pond_longestLeap a_numbering_lowStarts a_numbering_highNumbers a_numbering_mixtureSizes i_numbering_lowBits i_numbering_all g_numbering_lowStarts g_numbering_highNumbers g_winners) → va_S A s.heap H locs → decode cX2_winningMove pc = .ok (.ireturn, 1) → W p l e rX2_winningMove s m args below meth c H locs 0 0 Q (F0 m pc ls [.int o.1]))
    {H : Heap} {locs : List Loc} {ls : Array Slot} (hP : va_P D vwCl (uX2_winningMove cI cJ a_this a_pond a_moves a_numbering a_search a_levelEnds a_sorted a_mosts a_winners i_settledLook a_moves_pond a_moves_targets g_moves_targets a_moves_pond_behinds a_moves_pond_depths i_moves_pond_size i_moves_pond_isRing i_moves_pond_overOthers i_moves_pond_longestLeap g_moves_pond_behinds a_pond_behinds a_pond_depths i_pond_size i_pond_isRing i_pond_overOthers i_pond_longestLeap a_numbering_lowStarts a_numbering_highNumbers a_numbering_mixtureSizes i_numbering_lowBits i_numbering_all g_numbering_lowStarts g_numbering_highNumbers g_winners) H) (hD : va_D A (uX2_winningMove cI cJ a_this a_pond a_moves a_numbering a_search a_levelEnds a_sorted a_mosts a_winners i_settledLook a_moves_pond a_moves_targets g_moves_targets a_moves_pond_behinds a_moves_pond_depths i_moves_pond_size i_moves_pond_isRing i_moves_pond_overOthers i_moves_pond_longestLeap g_moves_pond_behinds a_pond_behinds a_pond_depths i_pond_size i_pond_isRing i_pond_overOthers i_pond_longestLeap a_numbering_lowStarts a_numbering_highNumbers a_numbering_mixtureSizes i_numbering_lowBits i_numbering_all g_numbering_lowStarts g_numbering_highNumbers g_winners)) (hS : va_S A s.heap H locs) (hl : lv_has ls 5 [(0, .ref a_this), (1, .int x1), (2, .int x2)]) : W p l e rX2_winningMove s m args below meth c H locs 0 0 Q (F0 m 0 ls []) := by
  obtain ⟨hx, hb, hml, hown, hts, hK, hN, hA, hlocks⟩ := id C
  unfold fX2_winningMove at hf
  refine lv_aload_n hx hb dX2_winningMove_0 rfl (lv_at hl 0 rfl) ?_
  refine va_get (D := D) (ci := 2) (v := .ref a_moves) (C := RX2) (T := TX2) (N := 9) hx hb hts jX2_winningMove_X2 hown hK hP 0 rfl rfl 1 (by decide) (hts _ qX2_winningMove_28) (fun _ h9 => h9) rfl dX2_winningMove_1 ?_
  refine lv_iload_n hx hb dX2_winningMove_4 rfl (lv_at hl 1 rfl) ?_
  obtain ⟨q1, hq, hf⟩ := ob_some hf
  refine cl_v (wc := (uX3_find cI cJ a_moves a_moves_pond a_moves_targets g_moves_targets a_moves_pond_behinds a_moves_pond_depths i_moves_pond_size i_moves_pond_isRing i_moves_pond_overOthers i_moves_pond_longestLeap g_moves_pond_behinds)) (w1 := (uX3_find cI cJ a_moves a_moves_pond a_moves_targets q1 a_moves_pond_behinds a_moves_pond_depths i_moves_pond_size i_moves_pond_isRing i_moves_pond_overOthers i_moves_pond_longestLeap g_moves_pond_behinds)) (rn_V (As := [.int x1]) (b := a_moves) (rest := []) (wc := (uX3_find cI cJ a_moves a_moves_pond a_moves_targets g_moves_targets a_moves_pond_behinds a_moves_pond_depths i_moves_pond_size i_moves_pond_isRing i_moves_pond_overOthers i_moves_pond_longestLeap g_moves_pond_behinds)) (ci := 3) (q0 := 1) C hP hD [1, 2, 3, 4] rfl rfl rfl rfl (mX3_find l D cI cJ H.size hq) 1 gX2_winningMove_X3_find rfl ⟨rfl, rfl, Nat.le_of_ble_eq_true rfl, Nat.le_of_ble_eq_true rfl⟩ hdX3_find rfl hl.1 rfl (Nat.le_of_ble_eq_true rfl) dX2_winningMove_5) hP hD hS hA [1, 2, 3, 4] rfl rfl (fun H locs hP hD hS => ?_)
  have hP : va_P D vwCl (uX2_winningMove cI cJ a_this a_pond a_moves a_numbering a_search a_levelEnds a_sorted a_mosts a_winners i_settledLook a_moves_pond a_moves_targets q1 a_moves_pond_behinds a_moves_pond_depths i_moves_pond_size i_moves_pond_isRing i_moves_pond_overOthers i_moves_pond_longestLeap g_moves_pond_behinds a_pond_behinds a_pond_depths i_pond_size i_pond_isRing i_pond_overOthers i_pond_longestLeap a_numbering_lowStarts a_numbering_highNumbers a_numbering_mixtureSizes i_numbering_lowBits i_numbering_all g_numbering_lowStarts g_numbering_highNumbers g_winners) H := hP
  have hD : va_D A (uX2_winningMove cI cJ a_this a_pond a_moves a_numbering a_search a_levelEnds a_sorted a_mosts a_winners i_settledLook a_moves_pond a_moves_targets q1 a_moves_pond_behinds a_moves_pond_depths i_moves_pond_size i_moves_pond_isRing i_moves_pond_overOthers i_moves_pond_longestLeap g_moves_pond_behinds a_pond_behinds a_pond_depths i_pond_size i_pond_isRing i_pond_overOthers i_pond_longestLeap a_numbering_lowStarts a_numbering_highNumbers a_numbering_mixtureSizes i_numbering_lowBits i_numbering_all g_numbering_lowStarts g_numbering_highNumbers g_winners) := hD
  refine lv_iconst (v := 0) hx hb dX2_winningMove_8 (by decide) ?_
  refine lv_istore_n (lv' := [(3, .int 0), (0, .ref a_this), (1, .int x1), (2, .int x2)]) hx hb dX2_winningMove_9 rfl hl (by decide) rfl (fun ls hl => ?_)
  obtain ⟨ex, hlp, hf⟩ := ob_some hf
  refine lp_ind (P := fun sg => ∀ (H : Heap) (locs : List Loc) (ls : Array Slot), va_P D vwCl (uX2_winningMove cI cJ a_this a_pond a_moves a_numbering a_search a_levelEnds a_sorted a_mosts a_winners i_settledLook a_moves_pond a_moves_targets q1 a_moves_pond_behinds a_moves_pond_depths i_moves_pond_size i_moves_pond_isRing i_moves_pond_overOthers i_moves_pond_longestLeap g_moves_pond_behinds a_pond_behinds a_pond_depths i_pond_size i_pond_isRing i_pond_overOthers i_pond_longestLeap a_numbering_lowStarts a_numbering_highNumbers a_numbering_mixtureSizes i_numbering_lowBits i_numbering_all g_numbering_lowStarts g_numbering_highNumbers g_winners) H → va_D A (uX2_winningMove cI cJ a_this a_pond a_moves a_numbering a_search a_levelEnds a_sorted a_mosts a_winners i_settledLook a_moves_pond a_moves_targets q1 a_moves_pond_behinds a_moves_pond_depths i_moves_pond_size i_moves_pond_isRing i_moves_pond_overOthers i_moves_pond_longestLeap g_moves_pond_behinds a_pond_behinds a_pond_depths i_pond_size i_pond_isRing i_pond_overOthers i_pond_longestLeap a_numbering_lowStarts a_numbering_highNumbers a_numbering_mixtureSizes i_numbering_lowBits i_numbering_all g_numbering_lowStarts g_numbering_highNumbers g_winners) → va_S A s.heap H locs → lv_has ls 5 [(0, .ref a_this), (1, .int x1), (2, .int x2), (3, .int sg)] → W p l e rX2_winningMove s m args below meth c H locs 0 0 Q (F0 m 10 ls [])) ?_ z _ hlp H locs ls hP hD hS (lv_sub hl [1, 2, 3, 0] rfl)
  intro sg og hbo hback hexit H locs ls hP hD hS hl
  refine kX2_winningMove_L10 C hbo (fun s' h => hback s' h) (fun ex h H locs ls hP hD hS hl => ?_) (fun rr h H locs ls pc hP hD hS hdg => ?_) hP hD hS hl
  · have he := hexit _ h
    subst he
    simp only [Sum.elim_inl] at hf
    exact kX2_winningMove_J59 C hf hrt hP hD hS (lv_sub hl [] rfl)
  · have he := hexit _ h
    subst he
    simp only [Sum.elim_inr] at hf
    have ho := Option.some.inj hf
    subst ho
    exact hrt H locs ls pc hP hD hS hdg
set_option maxHeartbeats 4000000 in
set_option maxRecDepth 100000 in
theorem mX2_winningMove (l : Launch) (D : va_G) (cI cJ : ClassId) (sz : Nat) {a_this : Nat} {a_pond : Nat} {a_moves : Nat} {a_numbering : Nat} {a_search : Nat} {a_levelEnds : Nat} {a_sorted : Nat} {a_mosts : Nat} {a_winners : Nat} {i_settledLook : Int32} {a_moves_pond : Nat} {a_moves_targets : Nat} {g_moves_targets : Nat → Int32} {a_moves_pond_behinds : Nat} {a_moves_pond_depths : Nat} {i_moves_pond_size : Int32} {i_moves_pond_isRing : Int32} {i_moves_pond_overOthers : Int32} {i_moves_pond_longestLeap : Int32} {g_moves_pond_behinds : Nat → Int32} {a_pond_behinds : Nat} {a_pond_depths : Nat} {i_pond_size : Int32} {i_pond_isRing : Int32} {i_pond_overOthers : Int32} {i_pond_longestLeap : Int32} {a_numbering_lowStarts : Nat} {a_numbering_highNumbers : Nat} {a_numbering_mixtureSizes : Nat} {i_numbering_lowBits : Int32} {i_numbering_all : Int32} {g_numbering_lowStarts : Nat → Int32} {g_numbering_highNumbers : Nat → Int32} {g_winners : Nat → Int32} {z : Nat} {x1 : Int32} {x2 : Int32} {o : Int32 × (Nat → Int32)} (hf : fX2_winningMove z x1 x2 g_moves_targets i_moves_pond_size i_moves_pond_longestLeap g_moves_pond_behinds i_moves_pond_overOthers i_pond_size i_numbering_lowBits g_numbering_lowStarts g_numbering_highNumbers i_numbering_all g_winners = some o) : Met l yX2_winningMove wsX2_winningMove rX2_winningMove (va_Pc [.ref a_this, .int x1, .int x2] (kP D cI cJ (uX2_winningMove cI cJ a_this a_pond a_moves a_numbering a_search a_levelEnds a_sorted a_mosts a_winners i_settledLook a_moves_pond a_moves_targets g_moves_targets a_moves_pond_behinds a_moves_pond_depths i_moves_pond_size i_moves_pond_isRing i_moves_pond_overOthers i_moves_pond_longestLeap g_moves_pond_behinds a_pond_behinds a_pond_depths i_pond_size i_pond_isRing i_pond_overOthers i_pond_longestLeap a_numbering_lowStarts a_numbering_highNumbers a_numbering_mixtureSizes i_numbering_lowBits i_numbering_all g_numbering_lowStarts g_numbering_highNumbers g_winners) sz)) (va_Qi (fun r' (_ : Unit) => r' = o.1) (fun _ t => kB D (va_A (uX2_winningMove cI cJ a_this a_pond a_moves a_numbering a_search a_levelEnds a_sorted a_mosts a_winners i_settledLook a_moves_pond a_moves_targets g_moves_targets a_moves_pond_behinds a_moves_pond_depths i_moves_pond_size i_moves_pond_isRing i_moves_pond_overOthers i_moves_pond_longestLeap g_moves_pond_behinds a_pond_behinds a_pond_depths i_pond_size i_pond_isRing i_pond_overOthers i_pond_longestLeap a_numbering_lowStarts a_numbering_highNumbers a_numbering_mixtureSizes i_numbering_lowBits i_numbering_all g_numbering_lowStarts g_numbering_highNumbers g_winners) sz) (uX2_winningMove cI cJ a_this a_pond a_moves a_numbering a_search a_levelEnds a_sorted a_mosts a_winners i_settledLook a_moves_pond a_moves_targets o.2 a_moves_pond_behinds a_moves_pond_depths i_moves_pond_size i_moves_pond_isRing i_moves_pond_overOthers i_moves_pond_longestLeap g_moves_pond_behinds a_pond_behinds a_pond_depths i_pond_size i_pond_isRing i_pond_overOthers i_pond_longestLeap a_numbering_lowStarts a_numbering_highNumbers a_numbering_mixtureSizes i_numbering_lowBits i_numbering_all g_numbering_lowStarts g_numbering_highNumbers g_winners) t) (va_A (uX2_winningMove cI cJ a_this a_pond a_moves a_numbering a_search a_levelEnds a_sorted a_mosts a_winners i_settledLook a_moves_pond a_moves_targets g_moves_targets a_moves_pond_behinds a_moves_pond_depths i_moves_pond_size i_moves_pond_isRing i_moves_pond_overOthers i_moves_pond_longestLeap g_moves_pond_behinds a_pond_behinds a_pond_depths i_pond_size i_pond_isRing i_pond_overOthers i_pond_longestLeap a_numbering_lowStarts a_numbering_highNumbers a_numbering_mixtureSizes i_numbering_lowBits i_numbering_all g_numbering_lowStarts g_numbering_highNumbers g_winners) sz)) 0 0 (va_A (uX2_winningMove cI cJ a_this a_pond a_moves a_numbering a_search a_levelEnds a_sorted a_mosts a_winners i_settledLook a_moves_pond a_moves_targets g_moves_targets a_moves_pond_behinds a_moves_pond_depths i_moves_pond_size i_moves_pond_isRing i_moves_pond_overOthers i_moves_pond_longestLeap g_moves_pond_behinds a_pond_behinds a_pond_depths i_pond_size i_pond_isRing i_pond_overOthers i_pond_longestLeap a_numbering_lowStarts a_numbering_highNumbers a_numbering_mixtureSizes i_numbering_lowBits i_numbering_all g_numbering_lowStarts g_numbering_highNumbers g_winners) sz) :=
  met_i (by decide) rfl (Nat.le_of_ble_eq_true rfl) (fun p e s m below meth c A Q C hrt ls hl hP hD hS => kX2_winningMove_0 (A := A) C hf hrt hP hD hS hl)

/-! ===== java/lang/Integer.bitCount(I)I ===== -/
abbrev uJ6_bitCount_0f7a4 (cI cJ : ClassId) : va_W := []
def rJ6_bitCount_0f7a4 : Room := { frames := 0, cells := 0, slots := 0, locals := 0 }
theorem hdJ6_bitCount_0f7a4 : yJ6_bitCount_0f7a4.cls = RJ6 ∧ yJ6_bitCount_0f7a4.cls ≠ "java/lang/invoke/MethodHandle" ∧ yJ6_bitCount_0f7a4.cls ≠ "java/lang/invoke/VarHandle" ∧ (parseMethodDescriptor yJ6_bitCount_0f7a4.desc).map (fun d => d.parameters.length) = some 1 := by decide +kernel
set_option maxRecDepth 20000 in
theorem qJ6_bitCount_0f7a4_265 : Cond.constant RJ6 265 (1431655765) ∈ wsJ6_bitCount_0f7a4 := by decide +kernel
set_option maxRecDepth 20000 in
theorem qJ6_bitCount_0f7a4_266 : Cond.constant RJ6 266 (858993459) ∈ wsJ6_bitCount_0f7a4 := by decide +kernel
set_option maxRecDepth 20000 in
theorem qJ6_bitCount_0f7a4_267 : Cond.constant RJ6 267 (252645135) ∈ wsJ6_bitCount_0f7a4 := by decide +kernel
set_option maxHeartbeats 4000000 in
set_option maxRecDepth 100000 in
theorem kJ6_bitCount_0f7a4_0 {p : Program} {l : Launch} {e : Env} {s : State} {m : MethodId} {args : Array Value} {below : List Frame} {meth : Method} {c : Code} {Q : State → Prop} {A : Nat → Prop} {D : va_G} {cI cJ : ClassId} (C : bC cJ6_bitCount_0f7a4 1 RJ6 wsJ6_bitCount_0f7a4 D cI cJ p s m args c meth A)
    {x0 : Int32} {o : Int32} (hf : fJ6_bitCount_0f7a4 x0 = o)
    (hrt : ∀ (H : Heap) (locs : List Loc) (ls : Array Slot) (pc : Nat), va_P D vwCl (uJ6_bitCount_0f7a4 cI cJ) H → va_D A (uJ6_bitCount_0f7a4 cI cJ) → va_S A s.heap H locs → decode cJ6_bitCount_0f7a4 pc = .ok (.ireturn, 1) → W p l e rJ6_bitCount_0f7a4 s m args below meth c H locs 0 0 Q (F0 m pc ls [.int o]))
    {H : Heap} {locs : List Loc} {ls : Array Slot} (hP : va_P D vwCl (uJ6_bitCount_0f7a4 cI cJ) H) (hD : va_D A (uJ6_bitCount_0f7a4 cI cJ)) (hS : va_S A s.heap H locs) (hl : lv_has ls 1 [(0, .int x0)]) : W p l e rJ6_bitCount_0f7a4 s m args below meth c H locs 0 0 Q (F0 m 0 ls []) := by
  obtain ⟨hx, hb, hml, hown, hts, hK, hN, hA, hlocks⟩ := id C
  unfold fJ6_bitCount_0f7a4 at hf
  refine lv_iload_n hx hb dJ6_bitCount_0f7a4_0 rfl (lv_at hl 0 rfl) ?_
  refine lv_iload_n hx hb dJ6_bitCount_0f7a4_1 rfl (lv_at hl 0 rfl) ?_
  refine lv_iconst (v := 1) hx hb dJ6_bitCount_0f7a4_2 (by decide) ?_
  refine lv_iushr (v := (i_ushr x0 1)) hx hb dJ6_bitCount_0f7a4_3 rfl ?_
  refine lv_ldcw hx hb hown (hts _ qJ6_bitCount_0f7a4_265) dJ6_bitCount_0f7a4_4 ?_
  refine lv_iand hx hb dJ6_bitCount_0f7a4_7 ?_
  refine lv_isub hx hb dJ6_bitCount_0f7a4_8 ?_
  refine lv_istore_n (lv' := [(0, .int (x0 - ((i_ushr x0 1) &&& 1431655765)))]) hx hb dJ6_bitCount_0f7a4_9 rfl hl (by decide) rfl (fun ls hl => ?_)
  refine lv_iload_n hx hb dJ6_bitCount_0f7a4_10 rfl (lv_at hl 0 rfl) ?_
  refine lv_ldcw hx hb hown (hts _ qJ6_bitCount_0f7a4_266) dJ6_bitCount_0f7a4_11 ?_
  refine lv_iand hx hb dJ6_bitCount_0f7a4_14 ?_
  refine lv_iload_n hx hb dJ6_bitCount_0f7a4_15 rfl (lv_at hl 0 rfl) ?_
  refine lv_iconst (v := 2) hx hb dJ6_bitCount_0f7a4_16 (by decide) ?_
  refine lv_iushr (v := (i_ushr (x0 - ((i_ushr x0 1) &&& 1431655765)) 2)) hx hb dJ6_bitCount_0f7a4_17 rfl ?_
  refine lv_ldcw hx hb hown (hts _ qJ6_bitCount_0f7a4_266) dJ6_bitCount_0f7a4_18 ?_
  refine lv_iand hx hb dJ6_bitCount_0f7a4_21 ?_
  refine lv_iadd hx hb dJ6_bitCount_0f7a4_22 ?_
  refine lv_istore_n (lv' := [(0, .int (((x0 - ((i_ushr x0 1) &&& 1431655765)) &&& 858993459) + ((i_ushr (x0 - ((i_ushr x0 1) &&& 1431655765)) 2) &&& 858993459)))]) hx hb dJ6_bitCount_0f7a4_23 rfl hl (by decide) rfl (fun ls hl => ?_)
  refine lv_iload_n hx hb dJ6_bitCount_0f7a4_24 rfl (lv_at hl 0 rfl) ?_
  refine lv_iload_n hx hb dJ6_bitCount_0f7a4_25 rfl (lv_at hl 0 rfl) ?_
  refine lv_iconst (v := 4) hx hb dJ6_bitCount_0f7a4_26 (by decide) ?_
  refine lv_iushr (v := (i_ushr (((x0 - ((i_ushr x0 1) &&& 1431655765)) &&& 858993459) + ((i_ushr (x0 - ((i_ushr x0 1) &&& 1431655765)) 2) &&& 858993459)) 4)) hx hb dJ6_bitCount_0f7a4_27 rfl ?_
  refine lv_iadd hx hb dJ6_bitCount_0f7a4_28 ?_
  refine lv_ldcw hx hb hown (hts _ qJ6_bitCount_0f7a4_267) dJ6_bitCount_0f7a4_29 ?_
  refine lv_iand hx hb dJ6_bitCount_0f7a4_32 ?_
  refine lv_istore_n (lv' := [(0, .int (((((x0 - ((i_ushr x0 1) &&& 1431655765)) &&& 858993459) + ((i_ushr (x0 - ((i_ushr x0 1) &&& 1431655765)) 2) &&& 858993459)) + (i_ushr (((x0 - ((i_ushr x0 1) &&& 1431655765)) &&& 858993459) + ((i_ushr (x0 - ((i_ushr x0 1) &&& 1431655765)) 2) &&& 858993459)) 4)) &&& 252645135))]) hx hb dJ6_bitCount_0f7a4_33 rfl hl (by decide) rfl (fun ls hl => ?_)
  refine lv_iload_n hx hb dJ6_bitCount_0f7a4_34 rfl (lv_at hl 0 rfl) ?_
  refine lv_iload_n hx hb dJ6_bitCount_0f7a4_35 rfl (lv_at hl 0 rfl) ?_
  refine lv_bipush (v := 8) hx hb dJ6_bitCount_0f7a4_36 (by decide) ?_
  refine lv_iushr (v := (i_ushr (((((x0 - ((i_ushr x0 1) &&& 1431655765)) &&& 858993459) + ((i_ushr (x0 - ((i_ushr x0 1) &&& 1431655765)) 2) &&& 858993459)) + (i_ushr (((x0 - ((i_ushr x0 1) &&& 1431655765)) &&& 858993459) + ((i_ushr (x0 - ((i_ushr x0 1) &&& 1431655765)) 2) &&& 858993459)) 4)) &&& 252645135) 8)) hx hb dJ6_bitCount_0f7a4_38 rfl ?_
  refine lv_iadd hx hb dJ6_bitCount_0f7a4_39 ?_
  refine lv_istore_n (lv' := [(0, .int ((((((x0 - ((i_ushr x0 1) &&& 1431655765)) &&& 858993459) + ((i_ushr (x0 - ((i_ushr x0 1) &&& 1431655765)) 2) &&& 858993459)) + (i_ushr (((x0 - ((i_ushr x0 1) &&& 1431655765)) &&& 858993459) + ((i_ushr (x0 - ((i_ushr x0 1) &&& 1431655765)) 2) &&& 858993459)) 4)) &&& 252645135) + (i_ushr (((((x0 - ((i_ushr x0 1) &&& 1431655765)) &&& 858993459) + ((i_ushr (x0 - ((i_ushr x0 1) &&& 1431655765)) 2) &&& 858993459)) + (i_ushr (((x0 - ((i_ushr x0 1) &&& 1431655765)) &&& 858993459) + ((i_ushr (x0 - ((i_ushr x0 1) &&& 1431655765)) 2) &&& 858993459)) 4)) &&& 252645135) 8)))]) hx hb dJ6_bitCount_0f7a4_40 rfl hl (by decide) rfl (fun ls hl => ?_)
  refine lv_iload_n hx hb dJ6_bitCount_0f7a4_41 rfl (lv_at hl 0 rfl) ?_
  refine lv_iload_n hx hb dJ6_bitCount_0f7a4_42 rfl (lv_at hl 0 rfl) ?_
  refine lv_bipush (v := 16) hx hb dJ6_bitCount_0f7a4_43 (by decide) ?_
  refine lv_iushr (v := (i_ushr ((((((x0 - ((i_ushr x0 1) &&& 1431655765)) &&& 858993459) + ((i_ushr (x0 - ((i_ushr x0 1) &&& 1431655765)) 2) &&& 858993459)) + (i_ushr (((x0 - ((i_ushr x0 1) &&& 1431655765)) &&& 858993459) + ((i_ushr (x0 - ((i_ushr x0 1) &&& 1431655765)) 2) &&& 858993459)) 4)) &&& 252645135) + (i_ushr (((((x0 - ((i_ushr x0 1) &&& 1431655765)) &&& 858993459) + ((i_ushr (x0 - ((i_ushr x0 1) &&& 1431655765)) 2) &&& 858993459)) + (i_ushr (((x0 - ((i_ushr x0 1) &&& 1431655765)) &&& 858993459) + ((i_ushr (x0 - ((i_ushr x0 1) &&& 1431655765)) 2) &&& 858993459)) 4)) &&& 252645135) 8)) 16)) hx hb dJ6_bitCount_0f7a4_45 rfl ?_
  refine lv_iadd hx hb dJ6_bitCount_0f7a4_46 ?_
  refine lv_istore_n (lv' := [(0, .int (((((((x0 - ((i_ushr x0 1) &&& 1431655765)) &&& 858993459) + ((i_ushr (x0 - ((i_ushr x0 1) &&& 1431655765)) 2) &&& 858993459)) + (i_ushr (((x0 - ((i_ushr x0 1) &&& 1431655765)) &&& 858993459) + ((i_ushr (x0 - ((i_ushr x0 1) &&& 1431655765)) 2) &&& 858993459)) 4)) &&& 252645135) + (i_ushr (((((x0 - ((i_ushr x0 1) &&& 1431655765)) &&& 858993459) + ((i_ushr (x0 - ((i_ushr x0 1) &&& 1431655765)) 2) &&& 858993459)) + (i_ushr (((x0 - ((i_ushr x0 1) &&& 1431655765)) &&& 858993459) + ((i_ushr (x0 - ((i_ushr x0 1) &&& 1431655765)) 2) &&& 858993459)) 4)) &&& 252645135) 8)) + (i_ushr ((((((x0 - ((i_ushr x0 1) &&& 1431655765)) &&& 858993459) + ((i_ushr (x0 - ((i_ushr x0 1) &&& 1431655765)) 2) &&& 858993459)) + (i_ushr (((x0 - ((i_ushr x0 1) &&& 1431655765)) &&& 858993459) + ((i_ushr (x0 - ((i_ushr x0 1) &&& 1431655765)) 2) &&& 858993459)) 4)) &&& 252645135) + (i_ushr (((((x0 - ((i_ushr x0 1) &&& 1431655765)) &&& 858993459) + ((i_ushr (x0 - ((i_ushr x0 1) &&& 1431655765)) 2) &&& 858993459)) + (i_ushr (((x0 - ((i_ushr x0 1) &&& 1431655765)) &&& 858993459) + ((i_ushr (x0 - ((i_ushr x0 1) &&& 1431655765)) 2) &&& 858993459)) 4)) &&& 252645135) 8)) 16)))]) hx hb dJ6_bitCount_0f7a4_47 rfl hl (by decide) rfl (fun ls hl => ?_)
  refine lv_iload_n hx hb dJ6_bitCount_0f7a4_48 rfl (lv_at hl 0 rfl) ?_
  refine lv_bipush (v := 63) hx hb dJ6_bitCount_0f7a4_49 (by decide) ?_
  refine lv_iand hx hb dJ6_bitCount_0f7a4_51 ?_
  subst hf
  exact hrt H locs ls _ hP hD hS dJ6_bitCount_0f7a4_52
set_option maxHeartbeats 4000000 in
set_option maxRecDepth 100000 in
theorem mJ6_bitCount_0f7a4 (l : Launch) (D : va_G) (cI cJ : ClassId) (sz : Nat) {x0 : Int32} : Met l yJ6_bitCount_0f7a4 wsJ6_bitCount_0f7a4 rJ6_bitCount_0f7a4 (va_Pc [.int x0] (kP D cI cJ (uJ6_bitCount_0f7a4 cI cJ) sz)) (va_Qi (fun r' (_ : Unit) => r' = (fJ6_bitCount_0f7a4 x0)) (fun _ t => kB D (va_A (uJ6_bitCount_0f7a4 cI cJ) sz) (uJ6_bitCount_0f7a4 cI cJ) t) (va_A (uJ6_bitCount_0f7a4 cI cJ) sz)) 0 0 (va_A (uJ6_bitCount_0f7a4 cI cJ) sz) :=
  met_i (by decide) rfl (Nat.le_of_ble_eq_true rfl) (fun p e s m below meth c A Q C hrt ls hl hP hD hS => kJ6_bitCount_0f7a4_0 (A := A) C rfl hrt hP hD hS hl)

/-! ===== FrogsOnRing$Moves.total()I ===== -/
abbrev uX3_total (cI cJ : ClassId) (a_this : Nat) (a_pond : Nat) (a_targets : Nat) (g_targets : Nat → Int32) : va_W := [(a_this, .inr (3, [.ref a_pond, .ref a_targets])), (a_targets, .inl (cI, 9, .inl g_targets))]
def rX3_total : Room := { frames := 1, cells := 0, slots := 0, locals := 20 }
theorem hdX3_total : yX3_total.cls = RX3 ∧ yX3_total.cls ≠ "java/lang/invoke/MethodHandle" ∧ yX3_total.cls ≠ "java/lang/invoke/VarHandle" ∧ (parseMethodDescriptor yX3_total.desc).map (fun d => d.parameters.length) = some 0 := by decide +kernel
set_option maxRecDepth 20000 in
theorem jX3_total_X3 : ∀ w ∈ u_ws RX3 TX3 2, w ∈ wsX3_total := by decide +kernel
set_option maxRecDepth 20000 in
theorem qX3_total_9 : Cond.fieldLink RX3 9 "FrogsOnRing$Moves" "targets" "[I" ∈ wsX3_total := by decide +kernel
set_option maxHeartbeats 4000000 in
set_option maxRecDepth 100000 in
theorem kX3_total_L4 {p : Program} {l : Launch} {e : Env} {s : State} {m : MethodId} {args : Array Value} {below : List Frame} {meth : Method} {c : Code} {Q : State → Prop} {A : Nat → Prop} {D : va_G} {cI cJ : ClassId} (C : bC cX3_total 3 RX3 wsX3_total D cI cJ p s m args c meth A)
    {a_this : Nat} {a_pond : Nat} {a_targets : Nat} {g_targets : Nat → Int32} {z : Nat} {x1 : Int32} {x2 : Int32} {o : (Int32 × Int32) ⊕ (Int32)} (hf : fX3_total_L4 z x1 x2 g_targets = some o)
    (hbk : ∀ s', o = .inl s' → ∀ (H : Heap) (locs : List Loc) (ls : Array Slot), va_P D vwCl (uX3_total cI cJ a_this a_pond a_targets g_targets) H → va_D A (uX3_total cI cJ a_this a_pond a_targets g_targets) → va_S A s.heap H locs → lv_has ls 3 [(0, .ref a_this), (1, .int s'.1), (2, .int s'.2)] → W p l e rX3_total s m args below meth c H locs 0 0 Q (F0 m 4 ls []))
    (hex : ∀ e', o = .inr e' → ∀ (H : Heap) (locs : List Loc) (ls : Array Slot), va_P D vwCl (uX3_total cI cJ a_this a_pond a_targets g_targets) H → va_D A (uX3_total cI cJ a_this a_pond a_targets g_targets) → va_S A s.heap H locs → lv_has ls 3 [(1, .int e')] → W p l e rX3_total s m args below meth c H locs 0 0 Q (F0 m 28 ls []))
    {H : Heap} {locs : List Loc} {ls : Array Slot} (hP : va_P D vwCl (uX3_total cI cJ a_this a_pond a_targets g_targets) H) (hD : va_D A (uX3_total cI cJ a_this a_pond a_targets g_targets)) (hS : va_S A s.heap H locs) (hl : lv_has ls 3 [(0, .ref a_this), (1, .int x1), (2, .int x2)]) : W p l e rX3_total s m args below meth c H locs 0 0 Q (F0 m 4 ls []) := by
  obtain ⟨hx, hb, hml, hown, hts, hK, hN, hA, hlocks⟩ := id C
  unfold fX3_total_L4 at hf
  refine lv_iload_n hx hb dX3_total_4 rfl (lv_at hl 2 rfl) ?_
  refine lv_bipush (v := 9) hx hb dX3_total_5 (by decide) ?_
  refine lv_icmp_ge (tgt := 28) hx hb dX3_total_7 (by decide) (fun hc => ?_) (fun hc => ?_)
  · have hf := if_yes hc hf
    have ho := Option.some.inj hf
    subst ho
    exact hex _ rfl _ _ _ hP hD hS (lv_sub hl [1] rfl)
  · have hf := if_no hc hf
    refine lv_iload_n hx hb dX3_total_10 rfl (lv_at hl 1 rfl) ?_
    refine lv_aload_n hx hb dX3_total_11 rfl (lv_at hl 0 rfl) ?_
    refine va_get (D := D) (ci := 3) (v := .ref a_targets) (C := RX3) (T := TX3) (N := 2) hx hb hts jX3_total_X3 hown hK hP 0 rfl rfl 1 (by decide) (hts _ qX3_total_9) (fun _ h9 => h9) rfl dX3_total_12 ?_
    refine lv_iload_n hx hb dX3_total_15 rfl (lv_at hl 2 rfl) ?_
    obtain ⟨hin, hf⟩ := agd_some hf
    refine va_iald hx hb hK hP 1 0 rfl rfl hin dX3_total_16 ?_
    refine cl_i (wc := (uJ6_bitCount_0f7a4 cI cJ)) (w1 := (uJ6_bitCount_0f7a4 cI cJ)) (rn_S (As := [.int (g_targets x2.toNatClampNeg)]) (rest := [.int x1]) (wc := (uJ6_bitCount_0f7a4 cI cJ)) C hP hD [] rfl rfl (mJ6_bitCount_0f7a4 l D cI cJ H.size) 1 gX3_total_J6_bitCount_0f7a4 rfl ⟨rfl, rfl, Nat.le_of_ble_eq_true rfl, Nat.le_of_ble_eq_true rfl⟩ hdJ6_bitCount_0f7a4.2 rfl hl.1 rfl (Nat.le_of_ble_eq_true rfl) dX3_total_17) hP hD hS hA [] rfl rfl (fun H locs hP hD hS => ?_)
    have hP : va_P D vwCl (uX3_total cI cJ a_this a_pond a_targets g_targets) H := hP
    have hD : va_D A (uX3_total cI cJ a_this a_pond a_targets g_targets) := hD
    refine lv_iadd hx hb dX3_total_20 ?_
    refine lv_istore_n (lv' := [(1, .int (x1 + (fJ6_bitCount_0f7a4 (g_targets x2.toNatClampNeg)))), (0, .ref a_this), (2, .int x2)]) hx hb dX3_total_21 rfl hl (by decide) rfl (fun ls hl => ?_)
    refine lv_iinc (v := (x2 + 1)) (lv' := [(2, .int (x2 + 1)), (1, .int (x1 + (fJ6_bitCount_0f7a4 (g_targets x2.toNatClampNeg)))), (0, .ref a_this)]) hx hb dX3_total_22 hl (k := 2) rfl rfl (by decide) rfl (fun ls hl => ?_)
    refine lv_goto (tgt := 4) hx hb dX3_total_25 (by decide) ?_
    have ho := Option.some.inj hf
    subst ho
    exact hbk _ rfl _ _ _ hP hD hS (lv_sub hl [2, 1, 0] rfl)
set_option maxHeartbeats 4000000 in
set_option maxRecDepth 100000 in
theorem kX3_total_J28 {p : Program} {l : Launch} {e : Env} {s : State} {m : MethodId} {args : Array Value} {below : List Frame} {meth : Method} {c : Code} {Q : State → Prop} {A : Nat → Prop} {D : va_G} {cI cJ : ClassId} (C : bC cX3_total 3 RX3 wsX3_total D cI cJ p s m args c meth A)
    {a_this : Nat} {a_pond : Nat} {a_targets : Nat} {g_targets : Nat → Int32} {z : Nat} {x1 : Int32} {o : Int32} (hf : fX3_total_J28 z x1 g_targets = some o)
    (hrt : ∀ (H : Heap) (locs : List Loc) (ls : Array Slot) (pc : Nat), va_P D vwCl (uX3_total cI cJ a_this a_pond a_targets g_targets) H → va_D A (uX3_total cI cJ a_this a_pond a_targets g_targets) → va_S A s.heap H locs → decode cX3_total pc = .ok (.ireturn, 1) → W p l e rX3_total s m args below meth c H locs 0 0 Q (F0 m pc ls [.int o]))
    {H : Heap} {locs : List Loc} {ls : Array Slot} (hP : va_P D vwCl (uX3_total cI cJ a_this a_pond a_targets g_targets) H) (hD : va_D A (uX3_total cI cJ a_this a_pond a_targets g_targets)) (hS : va_S A s.heap H locs) (hl : lv_has ls 3 [(1, .int x1)]) : W p l e rX3_total s m args below meth c H locs 0 0 Q (F0 m 28 ls []) := by
  obtain ⟨hx, hb, hml, hown, hts, hK, hN, hA, hlocks⟩ := id C
  unfold fX3_total_J28 at hf
  refine lv_iload_n hx hb dX3_total_28 rfl (lv_at hl 0 rfl) ?_
  have ho := Option.some.inj hf
  subst ho
  exact hrt H locs ls _ hP hD hS dX3_total_29
set_option maxHeartbeats 4000000 in
set_option maxRecDepth 100000 in
theorem kX3_total_0 {p : Program} {l : Launch} {e : Env} {s : State} {m : MethodId} {args : Array Value} {below : List Frame} {meth : Method} {c : Code} {Q : State → Prop} {A : Nat → Prop} {D : va_G} {cI cJ : ClassId} (C : bC cX3_total 3 RX3 wsX3_total D cI cJ p s m args c meth A)
    {a_this : Nat} {a_pond : Nat} {a_targets : Nat} {g_targets : Nat → Int32} {z : Nat} {o : Int32} (hf : fX3_total z g_targets = some o)
    (hrt : ∀ (H : Heap) (locs : List Loc) (ls : Array Slot) (pc : Nat), va_P D vwCl (uX3_total cI cJ a_this a_pond a_targets g_targets) H → va_D A (uX3_total cI cJ a_this a_pond a_targets g_targets) → va_S A s.heap H locs → decode cX3_total pc = .ok (.ireturn, 1) → W p l e rX3_total s m args below meth c H locs 0 0 Q (F0 m pc ls [.int o]))
    {H : Heap} {locs : List Loc} {ls : Array Slot} (hP : va_P D vwCl (uX3_total cI cJ a_this a_pond a_targets g_targets) H) (hD : va_D A (uX3_total cI cJ a_this a_pond a_targets g_targets)) (hS : va_S A s.heap H locs) (hl : lv_has ls 3 [(0, .ref a_this)]) : W p l e rX3_total s m args below meth c H locs 0 0 Q (F0 m 0 ls []) := by
  obtain ⟨hx, hb, hml, hown, hts, hK, hN, hA, hlocks⟩ := id C
  unfold fX3_total at hf
  refine lv_iconst (v := 0) hx hb dX3_total_0 (by decide) ?_
  refine lv_istore_n (lv' := [(1, .int 0), (0, .ref a_this)]) hx hb dX3_total_1 rfl hl (by decide) rfl (fun ls hl => ?_)
  refine lv_iconst (v := 0) hx hb dX3_total_2 (by decide) ?_
  refine lv_istore_n (lv' := [(2, .int 0), (1, .int 0), (0, .ref a_this)]) hx hb dX3_total_3 rfl hl (by decide) rfl (fun ls hl => ?_)
  obtain ⟨ex, hlp, hf⟩ := ob_some hf
  refine lp_ind (P := fun sg => ∀ (H : Heap) (locs : List Loc) (ls : Array Slot), va_P D vwCl (uX3_total cI cJ a_this a_pond a_targets g_targets) H → va_D A (uX3_total cI cJ a_this a_pond a_targets g_targets) → va_S A s.heap H locs → lv_has ls 3 [(0, .ref a_this), (1, .int sg.1), (2, .int sg.2)] → W p l e rX3_total s m args below meth c H locs 0 0 Q (F0 m 4 ls [])) ?_ z _ hlp H locs ls hP hD hS (lv_sub hl [2, 1, 0] rfl)
  intro sg og hbo hback hexit H locs ls hP hD hS hl
  refine kX3_total_L4 C hbo (fun s' h => hback s' h) (fun ex h H locs ls hP hD hS hl => ?_) hP hD hS hl
  have he := hexit _ h
  subst he
  exact kX3_total_J28 C hf hrt hP hD hS (lv_sub hl [0] rfl)
set_option maxHeartbeats 4000000 in
set_option maxRecDepth 100000 in
theorem mX3_total (l : Launch) (D : va_G) (cI cJ : ClassId) (sz : Nat) {a_this : Nat} {a_pond : Nat} {a_targets : Nat} {g_targets : Nat → Int32} {z : Nat} {o : Int32} (hf : fX3_total z g_targets = some o) : Met l yX3_total wsX3_total rX3_total (va_Pc [.ref a_this] (kP D cI cJ (uX3_total cI cJ a_this a_pond a_targets g_targets) sz)) (va_Qi (fun r' (_ : Unit) => r' = o) (fun _ t => kB D (va_A (uX3_total cI cJ a_this a_pond a_targets g_targets) sz) (uX3_total cI cJ a_this a_pond a_targets g_targets) t) (va_A (uX3_total cI cJ a_this a_pond a_targets g_targets) sz)) 0 0 (va_A (uX3_total cI cJ a_this a_pond a_targets g_targets) sz) :=
  met_i (by decide) rfl (Nat.le_of_ble_eq_true rfl) (fun p e s m below meth c A Q C hrt ls hl hP hD hS => kX3_total_0 (A := A) C hf hrt hP hD hS hl)

/-! ===== FrogsOnRing$Moves.told(I)I ===== -/
abbrev uX3_told (cI cJ : ClassId) (a_this : Nat) (a_pond : Nat) (a_targets : Nat) (a_pond_behinds : Nat) (a_pond_depths : Nat) (i_pond_size : Int32) (i_pond_isRing : Int32) (i_pond_overOthers : Int32) (i_pond_longestLeap : Int32) (g_targets : Nat → Int32) : va_W := [(a_this, .inr (3, [.ref a_pond, .ref a_targets])), (a_pond, .inr (6, [.ref a_pond_behinds, .ref a_pond_depths, .int i_pond_size, .int i_pond_isRing, .int i_pond_overOthers, .int i_pond_longestLeap])), (a_targets, .inl (cI, 9, .inl g_targets))]
def rX3_told : Room := { frames := 2, cells := 0, slots := 0, locals := 43 }
theorem hdX3_told : yX3_told.cls = RX3 ∧ yX3_told.cls ≠ "java/lang/invoke/MethodHandle" ∧ yX3_told.cls ≠ "java/lang/invoke/VarHandle" ∧ (parseMethodDescriptor yX3_told.desc).map (fun d => d.parameters.length) = some 1 := by decide +kernel
set_option maxRecDepth 20000 in
theorem jX3_told_X3 : ∀ w ∈ u_ws RX3 TX3 2, w ∈ wsX3_told := by decide +kernel
set_option maxRecDepth 20000 in
theorem jX3_told_X6 : ∀ w ∈ u_ws RX6 TX6 6, w ∈ wsX3_told := by decide +kernel
set_option maxRecDepth 20000 in
theorem qX3_told_15 : Cond.fieldLink RX3 15 "FrogsOnRing$Moves" "pond" "LFrogsOnRing$Pond;" ∈ wsX3_told := by decide +kernel
set_option maxRecDepth 20000 in
theorem qX3_told_25 : Cond.fieldLink RX3 25 "FrogsOnRing$Pond" "size" "I" ∈ wsX3_told := by decide +kernel
set_option maxHeartbeats 4000000 in
set_option maxRecDepth 100000 in
theorem kX3_told_L18 {p : Program} {l : Launch} {e : Env} {s : State} {m : MethodId} {args : Array Value} {below : List Frame} {meth : Method} {c : Code} {Q : State → Prop} {A : Nat → Prop} {D : va_G} {cI cJ : ClassId} (C : bC cX3_told 5 RX3 wsX3_told D cI cJ p s m args c meth A)
    {a_this : Nat} {a_pond : Nat} {a_targets : Nat} {a_pond_behinds : Nat} {a_pond_depths : Nat} {i_pond_size : Int32} {i_pond_isRing : Int32} {i_pond_overOthers : Int32} {i_pond_longestLeap : Int32} {g_targets : Nat → Int32} {z : Nat} {x1 : Int32} {x2 : Int32} {x3 : Int32} {x4 : Int32} {o : (Int32 × Int32) ⊕ ((Int32) ⊕ (Int32))} (hf : fX3_told_L18 z x1 x2 x3 x4 i_pond_size g_targets = some o)
    (hbk : ∀ s', o = .inl s' → ∀ (H : Heap) (locs : List Loc) (ls : Array Slot), va_P D vwCl (uX3_told cI cJ a_this a_pond a_targets a_pond_behinds a_pond_depths i_pond_size i_pond_isRing i_pond_overOthers i_pond_longestLeap g_targets) H → va_D A (uX3_told cI cJ a_this a_pond a_targets a_pond_behinds a_pond_depths i_pond_size i_pond_isRing i_pond_overOthers i_pond_longestLeap g_targets) → va_S A s.heap H locs → lv_has ls 5 [(0, .ref a_this), (1, .int x1), (2, .int s'.1), (3, .int x3), (4, .int s'.2)] → W p l e rX3_told s m args below meth c H locs 0 0 Q (F0 m 18 ls []))
    (hex : ∀ e', o = .inr (.inl e') → ∀ (H : Heap) (locs : List Loc) (ls : Array Slot), va_P D vwCl (uX3_told cI cJ a_this a_pond a_targets a_pond_behinds a_pond_depths i_pond_size i_pond_isRing i_pond_overOthers i_pond_longestLeap g_targets) H → va_D A (uX3_told cI cJ a_this a_pond a_targets a_pond_behinds a_pond_depths i_pond_size i_pond_isRing i_pond_overOthers i_pond_longestLeap g_targets) → va_S A s.heap H locs → lv_has ls 5 [(0, .ref a_this), (1, .int x1), (2, .int e'), (3, .int x3)] → W p l e rX3_told s m args below meth c H locs 0 0 Q (F0 m 62 ls []))
    (hrt : ∀ r', o = .inr (.inr r') → ∀ (H : Heap) (locs : List Loc) (ls : Array Slot) (pc : Nat), va_P D vwCl (uX3_told cI cJ a_this a_pond a_targets a_pond_behinds a_pond_depths i_pond_size i_pond_isRing i_pond_overOthers i_pond_longestLeap g_targets) H → va_D A (uX3_told cI cJ a_this a_pond a_targets a_pond_behinds a_pond_depths i_pond_size i_pond_isRing i_pond_overOthers i_pond_longestLeap g_targets) → va_S A s.heap H locs → decode cX3_told pc = .ok (.ireturn, 1) → W p l e rX3_told s m args below meth c H locs 0 0 Q (F0 m pc ls [.int r']))
    {H : Heap} {locs : List Loc} {ls : Array Slot} (hP : va_P D vwCl (uX3_told cI cJ a_this a_pond a_targets a_pond_behinds a_pond_depths i_pond_size i_pond_isRing i_pond_overOthers i_pond_longestLeap g_targets) H) (hD : va_D A (uX3_told cI cJ a_this a_pond a_targets a_pond_behinds a_pond_depths i_pond_size i_pond_isRing i_pond_overOthers i_pond_longestLeap g_targets)) (hS : va_S A s.heap H locs) (hl : lv_has ls 5 [(0, .ref a_this), (1, .int x1), (2, .int x2), (3, .int x3), (4, .int x4)]) : W p l e rX3_told s m args below meth c H locs 0 0 Q (F0 m 18 ls []) := by
  obtain ⟨hx, hb, hml, hown, hts, hK, hN, hA, hlocks⟩ := id C
  unfold fX3_told_L18 at hf
  refine lv_iload hx hb dX3_told_18 (lv_at hl 4 rfl) ?_
  refine lv_aload_n hx hb dX3_told_20 rfl (lv_at hl 0 rfl) ?_
  refine va_get (D := D) (ci := 3) (v := .ref a_pond) (C := RX3) (T := TX3) (N := 2) hx hb hts jX3_told_X3 hown hK hP 0 rfl rfl 0 (by decide) (hts _ qX3_told_15) (fun _ h9 => h9) rfl dX3_told_21 ?_
  refine va_get (D := D) (ci := 6) (v := .int i_pond_size) (C := RX6) (T := TX6) (N := 6) hx hb hts jX3_told_X6 hown hK hP 1 rfl rfl 2 (by decide) (hts _ qX3_told_25) (fun _ h9 => h9) rfl dX3_told_24 ?_
  refine lv_icmp_ge (tgt := 62) hx hb dX3_told_27 (by decide) (fun hc => ?_) (fun hc => ?_)
  · have hf := if_yes hc hf
    have ho := Option.some.inj hf
    subst ho
    exact hex _ rfl _ _ _ hP hD hS (lv_sub hl [0, 1, 2, 3] rfl)
  · have hf := if_no hc hf
    refine lv_aload_n hx hb dX3_told_30 rfl (lv_at hl 0 rfl) ?_
    refine lv_iload_n hx hb dX3_told_31 rfl (lv_at hl 3 rfl) ?_
    refine lv_iload hx hb dX3_told_32 (lv_at hl 4 rfl) ?_
    obtain ⟨q1, hq, hf⟩ := ob_some hf
    refine cl_i (wc := (uX3_has cI cJ a_this a_pond a_targets g_targets)) (w1 := (uX3_has cI cJ a_this a_pond a_targets g_targets)) (rn_V (As := [.int x3, .int x4]) (b := a_this) (rest := []) (wc := (uX3_has cI cJ a_this a_pond a_targets g_targets)) (ci := 3) (q0 := 0) C hP hD [0, 2] rfl rfl rfl rfl (mX3_has l D cI cJ H.size hq) 2 gX3_told_X3_has rfl ⟨rfl, rfl, Nat.le_of_ble_eq_true rfl, Nat.le_of_ble_eq_true rfl⟩ hdX3_has rfl hl.1 rfl (Nat.le_of_ble_eq_true rfl) dX3_told_34) hP hD hS hA [0, 2] rfl rfl (fun H locs hP hD hS => ?_)
    have hP : va_P D vwCl (uX3_told cI cJ a_this a_pond a_targets a_pond_behinds a_pond_depths i_pond_size i_pond_isRing i_pond_overOthers i_pond_longestLeap g_targets) H := hP
    have hD : va_D A (uX3_told cI cJ a_this a_pond a_targets a_pond_behinds a_pond_depths i_pond_size i_pond_isRing i_pond_overOthers i_pond_longestLeap g_targets) := hD
    refine lv_if_eq (tgt := 56) hx hb dX3_told_37 (by decide) (fun hc => ?_) (fun hc => ?_)
    · have hf := if_yes hc hf
      refine lv_iinc (v := (x4 + 1)) (lv' := [(4, .int (x4 + 1)), (0, .ref a_this), (1, .int x1), (2, .int x2), (3, .int x3)]) hx hb dX3_told_56 hl (k := 4) rfl rfl (by decide) rfl (fun ls hl => ?_)
      refine lv_goto (tgt := 18) hx hb dX3_told_59 (by decide) ?_
      have ho := Option.some.inj hf
      subst ho
      exact hbk _ rfl _ _ _ hP hD hS (lv_sub hl [1, 2, 3, 4, 0] rfl)
    · have hf := if_no hc hf
      refine lv_iload_n hx hb dX3_told_40 rfl (lv_at hl 2 rfl) ?_
      refine lv_iload_n hx hb dX3_told_41 rfl (lv_at hl 1 rfl) ?_
      refine lv_icmp_ne (tgt := 53) hx hb dX3_told_42 (by decide) (fun hc => ?_) (fun hc => ?_)
      · have hf := if_no hc hf
        refine lv_iinc (v := (x2 + 1)) (lv' := [(2, .int (x2 + 1)), (0, .ref a_this), (1, .int x1), (3, .int x3), (4, .int x4)]) hx hb dX3_told_53 hl (k := 2) rfl rfl (by decide) rfl (fun ls hl => ?_)
        refine lv_iinc (v := (x4 + 1)) (lv' := [(4, .int (x4 + 1)), (2, .int (x2 + 1)), (0, .ref a_this), (1, .int x1), (3, .int x3)]) hx hb dX3_told_56 hl (k := 4) rfl rfl (by decide) rfl (fun ls hl => ?_)
        refine lv_goto (tgt := 18) hx hb dX3_told_59 (by decide) ?_
        have ho := Option.some.inj hf
        subst ho
        exact hbk _ rfl _ _ _ hP hD hS (lv_sub hl [2, 3, 1, 4, 0] rfl)
      · have hf := if_yes hc hf
        refine lv_bipush (v := 16) hx hb dX3_told_45 (by decide) ?_
        refine lv_iload_n hx hb dX3_told_47 rfl (lv_at hl 3 rfl) ?_
        refine lv_imul hx hb dX3_told_48 ?_
        refine lv_iload hx hb dX3_told_49 (lv_at hl 4 rfl) ?_
        refine lv_iadd hx hb dX3_told_51 ?_
        have ho := Option.some.inj hf
        subst ho
        exact hrt _ rfl H locs ls _ hP hD hS dX3_told_52
set_option maxHeartbeats 4000000 in
set_option maxRecDepth 100000 in
theorem kX3_told_J62 {p : Program} {l : Launch} {e : Env} {s : State} {m : MethodId} {args : Array Value} {below : List Frame} {meth : Method} {c : Code} {Q : State → Prop} {A : Nat → Prop} {D : va_G} {cI cJ : ClassId} (C : bC cX3_told 5 RX3 wsX3_told D cI cJ p s m args c meth A)
    {a_this : Nat} {a_pond : Nat} {a_targets : Nat} {a_pond_behinds : Nat} {a_pond_depths : Nat} {i_pond_size : Int32} {i_pond_isRing : Int32} {i_pond_overOthers : Int32} {i_pond_longestLeap : Int32} {g_targets : Nat → Int32} {z : Nat} {x1 : Int32} {x2 : Int32} {x3 : Int32} {o : (Int32 × Int32) ⊕ ((Unit) ⊕ (Int32))} (hf : fX3_told_J62 z x1 x2 x3 i_pond_size g_targets = some o)
    (hbk : ∀ s', o = .inl s' → ∀ (H : Heap) (locs : List Loc) (ls : Array Slot), va_P D vwCl (uX3_told cI cJ a_this a_pond a_targets a_pond_behinds a_pond_depths i_pond_size i_pond_isRing i_pond_overOthers i_pond_longestLeap g_targets) H → va_D A (uX3_told cI cJ a_this a_pond a_targets a_pond_behinds a_pond_depths i_pond_size i_pond_isRing i_pond_overOthers i_pond_longestLeap g_targets) → va_S A s.heap H locs → lv_has ls 5 [(0, .ref a_this), (1, .int x1), (2, .int s'.1), (3, .int s'.2)] → W p l e rX3_told s m args below meth c H locs 0 0 Q (F0 m 4 ls []))
    (hex : ∀ e', o = .inr (.inl e') → ∀ (H : Heap) (locs : List Loc) (ls : Array Slot), va_P D vwCl (uX3_told cI cJ a_this a_pond a_targets a_pond_behinds a_pond_depths i_pond_size i_pond_isRing i_pond_overOthers i_pond_longestLeap g_targets) H → va_D A (uX3_told cI cJ a_this a_pond a_targets a_pond_behinds a_pond_depths i_pond_size i_pond_isRing i_pond_overOthers i_pond_longestLeap g_targets) → va_S A s.heap H locs → lv_has ls 5 [] → W p l e rX3_told s m args below meth c H locs 0 0 Q (F0 m 68 ls []))
    (hrt : ∀ r', o = .inr (.inr r') → ∀ (H : Heap) (locs : List Loc) (ls : Array Slot) (pc : Nat), va_P D vwCl (uX3_told cI cJ a_this a_pond a_targets a_pond_behinds a_pond_depths i_pond_size i_pond_isRing i_pond_overOthers i_pond_longestLeap g_targets) H → va_D A (uX3_told cI cJ a_this a_pond a_targets a_pond_behinds a_pond_depths i_pond_size i_pond_isRing i_pond_overOthers i_pond_longestLeap g_targets) → va_S A s.heap H locs → decode cX3_told pc = .ok (.ireturn, 1) → W p l e rX3_told s m args below meth c H locs 0 0 Q (F0 m pc ls [.int r']))
    {H : Heap} {locs : List Loc} {ls : Array Slot} (hP : va_P D vwCl (uX3_told cI cJ a_this a_pond a_targets a_pond_behinds a_pond_depths i_pond_size i_pond_isRing i_pond_overOthers i_pond_longestLeap g_targets) H) (hD : va_D A (uX3_told cI cJ a_this a_pond a_targets a_pond_behinds a_pond_depths i_pond_size i_pond_isRing i_pond_overOthers i_pond_longestLeap g_targets)) (hS : va_S A s.heap H locs) (hl : lv_has ls 5 [(0, .ref a_this), (1, .int x1), (2, .int x2), (3, .int x3)]) : W p l e rX3_told s m args below meth c H locs 0 0 Q (F0 m 62 ls []) := by
  obtain ⟨hx, hb, hml, hown, hts, hK, hN, hA, hlocks⟩ := id C
  unfold fX3_told_J62 at hf
  refine lv_iinc (v := (x3 + 1)) (lv' := [(3, .int (x3 + 1)), (0, .ref a_this), (1, .int x1), (2, .int x2)]) hx hb dX3_told_62 hl (k := 3) rfl rfl (by decide) rfl (fun ls hl => ?_)
  refine lv_goto (tgt := 4) hx hb dX3_told_65 (by decide) ?_
  have ho := Option.some.inj hf
  subst ho
  exact hbk _ rfl _ _ _ hP hD hS (lv_sub hl [1, 2, 3, 0] rfl)
set_option maxHeartbeats 4000000 in
set_option maxRecDepth 100000 in
theorem kX3_told_L4 {p : Program} {l : Launch} {e : Env} {s : State} {m : MethodId} {args : Array Value} {below : List Frame} {meth : Method} {c : Code} {Q : State → Prop} {A : Nat → Prop} {D : va_G} {cI cJ : ClassId} (C : bC cX3_told 5 RX3 wsX3_told D cI cJ p s m args c meth A)
    {a_this : Nat} {a_pond : Nat} {a_targets : Nat} {a_pond_behinds : Nat} {a_pond_depths : Nat} {i_pond_size : Int32} {i_pond_isRing : Int32} {i_pond_overOthers : Int32} {i_pond_longestLeap : Int32} {g_targets : Nat → Int32} {z : Nat} {x1 : Int32} {x2 : Int32} {x3 : Int32} {o : (Int32 × Int32) ⊕ ((Unit) ⊕ (Int32))} (hf : fX3_told_L4 z x1 x2 x3 i_pond_size g_targets = some o)
    (hbk : ∀ s', o = .inl s' → ∀ (H : Heap) (locs : List Loc) (ls : Array Slot), va_P D vwCl (uX3_told cI cJ a_this a_pond a_targets a_pond_behinds a_pond_depths i_pond_size i_pond_isRing i_pond_overOthers i_pond_longestLeap g_targets) H → va_D A (uX3_told cI cJ a_this a_pond a_targets a_pond_behinds a_pond_depths i_pond_size i_pond_isRing i_pond_overOthers i_pond_longestLeap g_targets) → va_S A s.heap H locs → lv_has ls 5 [(0, .ref a_this), (1, .int x1), (2, .int s'.1), (3, .int s'.2)] → W p l e rX3_told s m args below meth c H locs 0 0 Q (F0 m 4 ls []))
    (hex : ∀ e', o = .inr (.inl e') → ∀ (H : Heap) (locs : List Loc) (ls : Array Slot), va_P D vwCl (uX3_told cI cJ a_this a_pond a_targets a_pond_behinds a_pond_depths i_pond_size i_pond_isRing i_pond_overOthers i_pond_longestLeap g_targets) H → va_D A (uX3_told cI cJ a_this a_pond a_targets a_pond_behinds a_pond_depths i_pond_size i_pond_isRing i_pond_overOthers i_pond_longestLeap g_targets) → va_S A s.heap H locs → lv_has ls 5 [] → W p l e rX3_told s m args below meth c H locs 0 0 Q (F0 m 68 ls []))
    (hrt : ∀ r', o = .inr (.inr r') → ∀ (H : Heap) (locs : List Loc) (ls : Array Slot) (pc : Nat), va_P D vwCl (uX3_told cI cJ a_this a_pond a_targets a_pond_behinds a_pond_depths i_pond_size i_pond_isRing i_pond_overOthers i_pond_longestLeap g_targets) H → va_D A (uX3_told cI cJ a_this a_pond a_targets a_pond_behinds a_pond_depths i_pond_size i_pond_isRing i_pond_overOthers i_pond_longestLeap g_targets) → va_S A s.heap H locs → decode cX3_told pc = .ok (.ireturn, 1) → W p l e rX3_told s m args below meth c H locs 0 0 Q (F0 m pc ls [.int r']))
    {H : Heap} {locs : List Loc} {ls : Array Slot} (hP : va_P D vwCl (uX3_told cI cJ a_this a_pond a_targets a_pond_behinds a_pond_depths i_pond_size i_pond_isRing i_pond_overOthers i_pond_longestLeap g_targets) H) (hD : va_D A (uX3_told cI cJ a_this a_pond a_targets a_pond_behinds a_pond_depths i_pond_size i_pond_isRing i_pond_overOthers i_pond_longestLeap g_targets)) (hS : va_S A s.heap H locs) (hl : lv_has ls 5 [(0, .ref a_this), (1, .int x1), (2, .int x2), (3, .int x3)]) : W p l e rX3_told s m args below meth c H locs 0 0 Q (F0 m 4 ls []) := by
  obtain ⟨hx, hb, hml, hown, hts, hK, hN, hA, hlocks⟩ := id C
  unfold fX3_told_L4 at hf
  refine lv_iload_n hx hb dX3_told_4 rfl (lv_at hl 3 rfl) ?_
  refine lv_aload_n hx hb dX3_told_5 rfl (lv_at hl 0 rfl) ?_
  refine va_get (D := D) (ci := 3) (v := .ref a_pond) (C := RX3) (T := TX3) (N := 2) hx hb hts jX3_told_X3 hown hK hP 0 rfl rfl 0 (by decide) (hts _ qX3_told_15) (fun _ h9 => h9) rfl dX3_told_6 ?_
  refine va_get (D := D) (ci := 6) (v := .int i_pond_size) (C := RX6) (T := TX6) (N := 6) hx hb hts jX3_told_X6 hown hK hP 1 rfl rfl 2 (by decide) (hts _ qX3_told_25) (fun _ h9 => h9) rfl dX3_told_9 ?_
  refine lv_icmp_ge (tgt := 68) hx hb dX3_told_12 (by decide) (fun hc => ?_) (fun hc => ?_)
  · have hf := if_yes hc hf
    have ho := Option.some.inj hf
    subst ho
    exact hex _ rfl _ _ _ hP hD hS (lv_sub hl [] rfl)
  · have hf := if_no hc hf
    refine lv_iconst (v := 0) hx hb dX3_told_15 (by decide) ?_
    refine lv_istore (lv' := [(4, .int 0), (0, .ref a_this), (1, .int x1), (2, .int x2), (3, .int x3)]) hx hb dX3_told_16 hl (by decide) rfl (fun ls hl => ?_)
    obtain ⟨ex, hlp, hf⟩ := ob_some hf
    refine lp_ind (P := fun sg => ∀ (H : Heap) (locs : List Loc) (ls : Array Slot), va_P D vwCl (uX3_told cI cJ a_this a_pond a_targets a_pond_behinds a_pond_depths i_pond_size i_pond_isRing i_pond_overOthers i_pond_longestLeap g_targets) H → va_D A (uX3_told cI cJ a_this a_pond a_targets a_pond_behinds a_pond_depths i_pond_size i_pond_isRing i_pond_overOthers i_pond_longestLeap g_targets) → va_S A s.heap H locs → lv_has ls 5 [(0, .ref a_this), (1, .int x1), (2, .int sg.1), (3, .int x3), (4, .int sg.2)] → W p l e rX3_told s m args below meth c H locs 0 0 Q (F0 m 18 ls [])) ?_ z _ hlp H locs ls hP hD hS (lv_sub hl [1, 2, 3, 4, 0] rfl)
    intro sg og hbo hback hexit H locs ls hP hD hS hl
    refine kX3_told_L18 C hbo (fun s' h => hback s' h) (fun ex h H locs ls hP hD hS hl => ?_) (fun rr h H locs ls pc hP hD hS hdg => ?_) hP hD hS hl
    · have he := hexit _ h
      subst he
      simp only [Sum.elim_inl] at hf
      exact kX3_told_J62 C hf hbk hex hrt hP hD hS (lv_sub hl [0, 1, 2, 3] rfl)
    · have he := hexit _ h
      subst he
      simp only [Sum.elim_inr] at hf
      have ho := Option.some.inj hf
      subst ho
      exact hrt _ rfl H locs ls pc hP hD hS hdg
set_option maxHeartbeats 4000000 in
set_option maxRecDepth 100000 in
theorem kX3_told_J68 {p : Program} {l : Launch} {e : Env} {s : State} {m : MethodId} {args : Array Value} {below : List Frame} {meth : Method} {c : Code} {Q : State → Prop} {A : Nat → Prop} {D : va_G} {cI cJ : ClassId} (C : bC cX3_told 5 RX3 wsX3_told D cI cJ p s m args c meth A)
    {a_this : Nat} {a_pond : Nat} {a_targets : Nat} {a_pond_behinds : Nat} {a_pond_depths : Nat} {i_pond_size : Int32} {i_pond_isRing : Int32} {i_pond_overOthers : Int32} {i_pond_longestLeap : Int32} {g_targets : Nat → Int32} {z : Nat} {o : Int32} (hf : fX3_told_J68 z i_pond_size g_targets = some o)
    (hrt : ∀ (H : Heap) (locs : List Loc) (ls : Array Slot) (pc : Nat), va_P D vwCl (uX3_told cI cJ a_this a_pond a_targets a_pond_behinds a_pond_depths i_pond_size i_pond_isRing i_pond_overOthers i_pond_longestLeap g_targets) H → va_D A (uX3_told cI cJ a_this a_pond a_targets a_pond_behinds a_pond_depths i_pond_size i_pond_isRing i_pond_overOthers i_pond_longestLeap g_targets) → va_S A s.heap H locs → decode cX3_told pc = .ok (.ireturn, 1) → W p l e rX3_told s m args below meth c H locs 0 0 Q (F0 m pc ls [.int o]))
    {H : Heap} {locs : List Loc} {ls : Array Slot} (hP : va_P D vwCl (uX3_told cI cJ a_this a_pond a_targets a_pond_behinds a_pond_depths i_pond_size i_pond_isRing i_pond_overOthers i_pond_longestLeap g_targets) H) (hD : va_D A (uX3_told cI cJ a_this a_pond a_targets a_pond_behinds a_pond_depths i_pond_size i_pond_isRing i_pond_overOthers i_pond_longestLeap g_targets)) (hS : va_S A s.heap H locs) (hl : lv_has ls 5 []) : W p l e rX3_told s m args below meth c H locs 0 0 Q (F0 m 68 ls []) := by
  obtain ⟨hx, hb, hml, hown, hts, hK, hN, hA, hlocks⟩ := id C
  unfold fX3_told_J68 at hf
  refine lv_iconst (v := (-1)) hx hb dX3_told_68 (by decide) ?_
  have ho := Option.some.inj hf
  subst ho
  exact hrt H locs ls _ hP hD hS dX3_told_69
set_option maxHeartbeats 4000000 in
set_option maxRecDepth 100000 in
theorem kX3_told_0 {p : Program} {l : Launch} {e : Env} {s : State} {m : MethodId} {args : Array Value} {below : List Frame} {meth : Method} {c : Code} {Q : State → Prop} {A : Nat → Prop} {D : va_G} {cI cJ : ClassId} (C : bC cX3_told 5 RX3 wsX3_told D cI cJ p s m args c meth A)
    {a_this : Nat} {a_pond : Nat} {a_targets : Nat} {a_pond_behinds : Nat} {a_pond_depths : Nat} {i_pond_size : Int32} {i_pond_isRing : Int32} {i_pond_overOthers : Int32} {i_pond_longestLeap : Int32} {g_targets : Nat → Int32} {z : Nat} {x1 : Int32} {o : Int32} (hf : fX3_told z x1 i_pond_size g_targets = some o)
    (hrt : ∀ (H : Heap) (locs : List Loc) (ls : Array Slot) (pc : Nat), va_P D vwCl (uX3_told cI cJ a_this a_pond a_targets a_pond_behinds a_pond_depths i_pond_size i_pond_isRing i_pond_overOthers i_pond_longestLeap g_targets) H → va_D A (uX3_told cI cJ a_this a_pond a_targets a_pond_behinds a_pond_depths i_pond_size i_pond_isRing i_pond_overOthers i_pond_longestLeap g_targets) → va_S A s.heap H locs → decode cX3_told pc = .ok (.ireturn, 1) → W p l e rX3_told s m args below meth c H locs 0 0 Q (F0 m pc ls [.int o]))
    {H : Heap} {locs : List Loc} {ls : Array Slot} (hP : va_P D vwCl (uX3_told cI cJ a_this a_pond a_targets a_pond_behinds a_pond_depths i_pond_size i_pond_isRing i_pond_overOthers i_pond_longestLeap g_targets) H) (hD : va_D A (uX3_told cI cJ a_this a_pond a_targets a_pond_behinds a_pond_depths i_pond_size i_pond_isRing i_pond_overOthers i_pond_longestLeap g_targets)) (hS : va_S A s.heap H locs) (hl : lv_has ls 5 [(0, .ref a_this), (1, .int x1)]) : W p l e rX3_told s m args below meth c H locs 0 0 Q (F0 m 0 ls []) := by
  obtain ⟨hx, hb, hml, hown, hts, hK, hN, hA, hlocks⟩ := id C
  unfold fX3_told at hf
  refine lv_iconst (v := 0) hx hb dX3_told_0 (by decide) ?_
  refine lv_istore_n (lv' := [(2, .int 0), (0, .ref a_this), (1, .int x1)]) hx hb dX3_told_1 rfl hl (by decide) rfl (fun ls hl => ?_)
  refine lv_iconst (v := 0) hx hb dX3_told_2 (by decide) ?_
  refine lv_istore_n (lv' := [(3, .int 0), (2, .int 0), (0, .ref a_this), (1, .int x1)]) hx hb dX3_told_3 rfl hl (by decide) rfl (fun ls hl => ?_)
  obtain ⟨ex, hlp, hf⟩ := ob_some hf
  refine lp_ind (P := fun sg => ∀ (H : Heap) (locs : List Loc) (ls : Array Slot), va_P D vwCl (uX3_told cI cJ a_this a_pond a_targets a_pond_behinds a_pond_depths i_pond_size i_pond_isRing i_pond_overOthers i_pond_longestLeap g_targets) H → va_D A (uX3_told cI cJ a_this a_pond a_targets a_pond_behinds a_pond_depths i_pond_size i_pond_isRing i_pond_overOthers i_pond_longestLeap g_targets) → va_S A s.heap H locs → lv_has ls 5 [(0, .ref a_this), (1, .int x1), (2, .int sg.1), (3, .int sg.2)] → W p l e rX3_told s m args below meth c H locs 0 0 Q (F0 m 4 ls [])) ?_ z _ hlp H locs ls hP hD hS (lv_sub hl [2, 3, 1, 0] rfl)
  intro sg og hbo hback hexit H locs ls hP hD hS hl
  refine kX3_told_L4 C hbo (fun s' h => hback s' h) (fun ex h H locs ls hP hD hS hl => ?_) (fun rr h H locs ls pc hP hD hS hdg => ?_) hP hD hS hl
  · have he := hexit _ h
    subst he
    simp only [Sum.elim_inl] at hf
    exact kX3_told_J68 C hf hrt hP hD hS (lv_sub hl [] rfl)
  · have he := hexit _ h
    subst he
    simp only [Sum.elim_inr] at hf
    have ho := Option.some.inj hf
    subst ho
    exact hrt H locs ls pc hP hD hS hdg
set_option maxHeartbeats 4000000 in
set_option maxRecDepth 100000 in
theorem mX3_told (l : Launch) (D : va_G) (cI cJ : ClassId) (sz : Nat) {a_this : Nat} {a_pond : Nat} {a_targets : Nat} {a_pond_behinds : Nat} {a_pond_depths : Nat} {i_pond_size : Int32} {i_pond_isRing : Int32} {i_pond_overOthers : Int32} {i_pond_longestLeap : Int32} {g_targets : Nat → Int32} {z : Nat} {x1 : Int32} {o : Int32} (hf : fX3_told z x1 i_pond_size g_targets = some o) : Met l yX3_told wsX3_told rX3_told (va_Pc [.ref a_this, .int x1] (kP D cI cJ (uX3_told cI cJ a_this a_pond a_targets a_pond_behinds a_pond_depths i_pond_size i_pond_isRing i_pond_overOthers i_pond_longestLeap g_targets) sz)) (va_Qi (fun r' (_ : Unit) => r' = o) (fun _ t => kB D (va_A (uX3_told cI cJ a_this a_pond a_targets a_pond_behinds a_pond_depths i_pond_size i_pond_isRing i_pond_overOthers i_pond_longestLeap g_targets) sz) (uX3_told cI cJ a_this a_pond a_targets a_pond_behinds a_pond_depths i_pond_size i_pond_isRing i_pond_overOthers i_pond_longestLeap g_targets) t) (va_A (uX3_told cI cJ a_this a_pond a_targets a_pond_behinds a_pond_depths i_pond_size i_pond_isRing i_pond_overOthers i_pond_longestLeap g_targets) sz)) 0 0 (va_A (uX3_told cI cJ a_this a_pond a_targets a_pond_behinds a_pond_depths i_pond_size i_pond_isRing i_pond_overOthers i_pond_longestLeap g_targets) sz) :=
  met_i (by decide) rfl (Nat.le_of_ble_eq_true rfl) (fun p e s m below meth c A Q C hrt ls hl hP hD hS => kX3_told_0 (A := A) C hf hrt hP hD hS hl)

/-! ===== FrogsOnRing$Numbering.tally(I)I ===== -/
abbrev uX4_tally (cI cJ : ClassId) : va_W := []
def rX4_tally : Room := { frames := 1, cells := 0, slots := 0, locals := 21 }
theorem hdX4_tally : yX4_tally.cls = RX4 ∧ yX4_tally.cls ≠ "java/lang/invoke/MethodHandle" ∧ yX4_tally.cls ≠ "java/lang/invoke/VarHandle" ∧ (parseMethodDescriptor yX4_tally.desc).map (fun d => d.parameters.length) = some 1 := by decide +kernel
set_option maxRecDepth 20000 in
theorem qX4_tally_iX9_kindAt : Cond.initialized yX9_kindAt.cls ∈ wsX4_tally := by decide +kernel
set_option maxRecDepth 20000 in
theorem qX4_tally_sX9_kindAt : Cond.static yX9_kindAt ∈ wsX4_tally := by decide +kernel
set_option maxHeartbeats 4000000 in
set_option maxRecDepth 100000 in
theorem kX4_tally_L4 {p : Program} {l : Launch} {e : Env} {s : State} {m : MethodId} {args : Array Value} {below : List Frame} {meth : Method} {c : Code} {Q : State → Prop} {A : Nat → Prop} {D : va_G} {cI cJ : ClassId} (C : bC cX4_tally 3 RX4 wsX4_tally D cI cJ p s m args c meth A)
    {z : Nat} {x0 : Int32} {x1 : Int32} {x2 : Int32} {o : (Int32 × Int32) ⊕ (Int32)} (hf : fX4_tally_L4 z x0 x1 x2 = some o)
    (hbk : ∀ s', o = .inl s' → ∀ (H : Heap) (locs : List Loc) (ls : Array Slot), va_P D vwCl (uX4_tally cI cJ) H → va_D A (uX4_tally cI cJ) → va_S A s.heap H locs → lv_has ls 3 [(0, .int x0), (1, .int s'.1), (2, .int s'.2)] → W p l e rX4_tally s m args below meth c H locs 0 0 Q (F0 m 4 ls []))
    (hex : ∀ e', o = .inr e' → ∀ (H : Heap) (locs : List Loc) (ls : Array Slot), va_P D vwCl (uX4_tally cI cJ) H → va_D A (uX4_tally cI cJ) → va_S A s.heap H locs → lv_has ls 3 [(1, .int e')] → W p l e rX4_tally s m args below meth c H locs 0 0 Q (F0 m 29 ls []))
    {H : Heap} {locs : List Loc} {ls : Array Slot} (hP : va_P D vwCl (uX4_tally cI cJ) H) (hD : va_D A (uX4_tally cI cJ)) (hS : va_S A s.heap H locs) (hl : lv_has ls 3 [(0, .int x0), (1, .int x1), (2, .int x2)]) : W p l e rX4_tally s m args below meth c H locs 0 0 Q (F0 m 4 ls []) := by
  obtain ⟨hx, hb, hml, hown, hts, hK, hN, hA, hlocks⟩ := id C
  unfold fX4_tally_L4 at hf
  refine lv_iload_n hx hb dX4_tally_4 rfl (lv_at hl 2 rfl) ?_
  refine lv_bipush (v := 9) hx hb dX4_tally_5 (by decide) ?_
  refine lv_icmp_ge (tgt := 29) hx hb dX4_tally_7 (by decide) (fun hc => ?_) (fun hc => ?_)
  · have hf := if_yes hc hf
    have ho := Option.some.inj hf
    subst ho
    exact hex _ rfl _ _ _ hP hD hS (lv_sub hl [1] rfl)
  · have hf := if_no hc hf
    refine lv_iload_n hx hb dX4_tally_10 rfl (lv_at hl 1 rfl) ?_
    refine lv_iconst (v := 1) hx hb dX4_tally_11 (by decide) ?_
    refine lv_bipush (v := 8) hx hb dX4_tally_12 (by decide) ?_
    refine lv_iload_n hx hb dX4_tally_14 rfl (lv_at hl 0 rfl) ?_
    refine lv_iload_n hx hb dX4_tally_15 rfl (lv_at hl 2 rfl) ?_
    refine cl_i (wc := (uX9_kindAt cI cJ)) (w1 := (uX9_kindAt cI cJ)) (rn_N (As := [.int x0, .int x2]) (rest := [.int 8, .int 1, .int x1]) (wc := (uX9_kindAt cI cJ)) C hP hD [] rfl rfl (mX9_kindAt l D cI cJ H.size) 2 gX4_tally_X9_kindAt_n55 qX4_tally_iX9_kindAt qX4_tally_sX9_kindAt 7 rfl rfl ⟨rfl, rfl, Nat.le_of_ble_eq_true rfl, Nat.le_of_ble_eq_true rfl⟩ hdX9_kindAt.2 rfl hl.1 rfl (Nat.le_of_ble_eq_true rfl) dX4_tally_16) hP hD hS hA [] rfl rfl (fun H locs hP hD hS => ?_)
    have hP : va_P D vwCl (uX4_tally cI cJ) H := hP
    have hD : va_D A (uX4_tally cI cJ) := hD
    refine lv_imul hx hb dX4_tally_19 ?_
    refine lv_ishl hx hb dX4_tally_20 ?_
    refine lv_iadd hx hb dX4_tally_21 ?_
    refine lv_istore_n (lv' := [(1, .int (x1 + ((1 : Int32) <<< ((8 * (fX9_kindAt x0 x2)) &&& 31)))), (0, .int x0), (2, .int x2)]) hx hb dX4_tally_22 rfl hl (by decide) rfl (fun ls hl => ?_)
    refine lv_iinc (v := (x2 + 1)) (lv' := [(2, .int (x2 + 1)), (1, .int (x1 + ((1 : Int32) <<< ((8 * (fX9_kindAt x0 x2)) &&& 31)))), (0, .int x0)]) hx hb dX4_tally_23 hl (k := 2) rfl rfl (by decide) rfl (fun ls hl => ?_)
    refine lv_goto (tgt := 4) hx hb dX4_tally_26 (by decide) ?_
    have ho := Option.some.inj hf
    subst ho
    exact hbk _ rfl _ _ _ hP hD hS (lv_sub hl [2, 1, 0] rfl)
set_option maxHeartbeats 4000000 in
set_option maxRecDepth 100000 in
theorem kX4_tally_J29 {p : Program} {l : Launch} {e : Env} {s : State} {m : MethodId} {args : Array Value} {below : List Frame} {meth : Method} {c : Code} {Q : State → Prop} {A : Nat → Prop} {D : va_G} {cI cJ : ClassId} (C : bC cX4_tally 3 RX4 wsX4_tally D cI cJ p s m args c meth A)
    {z : Nat} {x1 : Int32} {o : Int32} (hf : fX4_tally_J29 z x1 = some o)
    (hrt : ∀ (H : Heap) (locs : List Loc) (ls : Array Slot) (pc : Nat), va_P D vwCl (uX4_tally cI cJ) H → va_D A (uX4_tally cI cJ) → va_S A s.heap H locs → decode cX4_tally pc = .ok (.ireturn, 1) → W p l e rX4_tally s m args below meth c H locs 0 0 Q (F0 m pc ls [.int o]))
    {H : Heap} {locs : List Loc} {ls : Array Slot} (hP : va_P D vwCl (uX4_tally cI cJ) H) (hD : va_D A (uX4_tally cI cJ)) (hS : va_S A s.heap H locs) (hl : lv_has ls 3 [(1, .int x1)]) : W p l e rX4_tally s m args below meth c H locs 0 0 Q (F0 m 29 ls []) := by
  obtain ⟨hx, hb, hml, hown, hts, hK, hN, hA, hlocks⟩ := id C
  unfold fX4_tally_J29 at hf
  refine lv_iload_n hx hb dX4_tally_29 rfl (lv_at hl 0 rfl) ?_
  refine lv_bipush (v := 8) hx hb dX4_tally_30 (by decide) ?_
  refine lv_ishr hx hb dX4_tally_32 ?_
  have ho := Option.some.inj hf
  subst ho
  exact hrt H locs ls _ hP hD hS dX4_tally_33
set_option maxHeartbeats 4000000 in
set_option maxRecDepth 100000 in
theorem kX4_tally_0 {p : Program} {l : Launch} {e : Env} {s : State} {m : MethodId} {args : Array Value} {below : List Frame} {meth : Method} {c : Code} {Q : State → Prop} {A : Nat → Prop} {D : va_G} {cI cJ : ClassId} (C : bC cX4_tally 3 RX4 wsX4_tally D cI cJ p s m args c meth A)
    {z : Nat} {x0 : Int32} {o : Int32} (hf : fX4_tally z x0 = some o)
    (hrt : ∀ (H : Heap) (locs : List Loc) (ls : Array Slot) (pc : Nat), va_P D vwCl (uX4_tally cI cJ) H → va_D A (uX4_tally cI cJ) → va_S A s.heap H locs → decode cX4_tally pc = .ok (.ireturn, 1) → W p l e rX4_tally s m args below meth c H locs 0 0 Q (F0 m pc ls [.int o]))
    {H : Heap} {locs : List Loc} {ls : Array Slot} (hP : va_P D vwCl (uX4_tally cI cJ) H) (hD : va_D A (uX4_tally cI cJ)) (hS : va_S A s.heap H locs) (hl : lv_has ls 3 [(0, .int x0)]) : W p l e rX4_tally s m args below meth c H locs 0 0 Q (F0 m 0 ls []) := by
  obtain ⟨hx, hb, hml, hown, hts, hK, hN, hA, hlocks⟩ := id C
  unfold fX4_tally at hf
  refine lv_iconst (v := 0) hx hb dX4_tally_0 (by decide) ?_
  refine lv_istore_n (lv' := [(1, .int 0), (0, .int x0)]) hx hb dX4_tally_1 rfl hl (by decide) rfl (fun ls hl => ?_)
  refine lv_iconst (v := 0) hx hb dX4_tally_2 (by decide) ?_
  refine lv_istore_n (lv' := [(2, .int 0), (1, .int 0), (0, .int x0)]) hx hb dX4_tally_3 rfl hl (by decide) rfl (fun ls hl => ?_)
  obtain ⟨ex, hlp, hf⟩ := ob_some hf
  refine lp_ind (P := fun sg => ∀ (H : Heap) (locs : List Loc) (ls : Array Slot), va_P D vwCl (uX4_tally cI cJ) H → va_D A (uX4_tally cI cJ) → va_S A s.heap H locs → lv_has ls 3 [(0, .int x0), (1, .int sg.1), (2, .int sg.2)] → W p l e rX4_tally s m args below meth c H locs 0 0 Q (F0 m 4 ls [])) ?_ z _ hlp H locs ls hP hD hS (lv_sub hl [2, 1, 0] rfl)
  intro sg og hbo hback hexit H locs ls hP hD hS hl
  refine kX4_tally_L4 C hbo (fun s' h => hback s' h) (fun ex h H locs ls hP hD hS hl => ?_) hP hD hS hl
  have he := hexit _ h
  subst he
  exact kX4_tally_J29 C hf hrt hP hD hS (lv_sub hl [0] rfl)
set_option maxHeartbeats 4000000 in
set_option maxRecDepth 100000 in
theorem mX4_tally (l : Launch) (D : va_G) (cI cJ : ClassId) (sz : Nat) {z : Nat} {x0 : Int32} {o : Int32} (hf : fX4_tally z x0 = some o) : Met l yX4_tally wsX4_tally rX4_tally (va_Pc [.int x0] (kP D cI cJ (uX4_tally cI cJ) sz)) (va_Qi (fun r' (_ : Unit) => r' = o) (fun _ t => kB D (va_A (uX4_tally cI cJ) sz) (uX4_tally cI cJ) t) (va_A (uX4_tally cI cJ) sz)) 0 0 (va_A (uX4_tally cI cJ) sz) :=
  met_i (by decide) rfl (Nat.le_of_ble_eq_true rfl) (fun p e s m below meth c A Q C hrt ls hl hP hD hS => kX4_tally_0 (A := A) C hf hrt hP hD hS hl)

/-! ===== FrogsOnRing$Numbering.mixtureOf(II)I ===== -/
abbrev uX4_mixtureOf (cI cJ : ClassId) : va_W := []
def rX4_mixtureOf : Room := { frames := 0, cells := 0, slots := 0, locals := 0 }
theorem hdX4_mixtureOf : yX4_mixtureOf.cls = RX4 ∧ yX4_mixtureOf.cls ≠ "java/lang/invoke/MethodHandle" ∧ yX4_mixtureOf.cls ≠ "java/lang/invoke/VarHandle" ∧ (parseMethodDescriptor yX4_mixtureOf.desc).map (fun d => d.parameters.length) = some 2 := by decide +kernel
set_option maxHeartbeats 4000000 in
set_option maxRecDepth 100000 in
theorem kX4_mixtureOf_L4 {p : Program} {l : Launch} {e : Env} {s : State} {m : MethodId} {args : Array Value} {below : List Frame} {meth : Method} {c : Code} {Q : State → Prop} {A : Nat → Prop} {D : va_G} {cI cJ : ClassId} (C : bC cX4_mixtureOf 5 RX4 wsX4_mixtureOf D cI cJ p s m args c meth A)
    {z : Nat} {x0 : Int32} {x1 : Int32} {x2 : Int32} {x3 : Int32} {o : (Int32 × Int32) ⊕ ((Int32) ⊕ (Int32))} (hf : fX4_mixtureOf_L4 z x0 x1 x2 x3 = some o)
    (hbk : ∀ s', o = .inl s' → ∀ (H : Heap) (locs : List Loc) (ls : Array Slot), va_P D vwCl (uX4_mixtureOf cI cJ) H → va_D A (uX4_mixtureOf cI cJ) → va_S A s.heap H locs → lv_has ls 5 [(0, .int x0), (1, .int x1), (2, .int s'.1), (3, .int s'.2)] → W p l e rX4_mixtureOf s m args below meth c H locs 0 0 Q (F0 m 4 ls []))
    (hex : ∀ e', o = .inr (.inl e') → ∀ (H : Heap) (locs : List Loc) (ls : Array Slot), va_P D vwCl (uX4_mixtureOf cI cJ) H → va_D A (uX4_mixtureOf cI cJ) → va_S A s.heap H locs → lv_has ls 5 [(2, .int e')] → W p l e rX4_mixtureOf s m args below meth c H locs 0 0 Q (F0 m 53 ls []))
    (hrt : ∀ r', o = .inr (.inr r') → ∀ (H : Heap) (locs : List Loc) (ls : Array Slot) (pc : Nat), va_P D vwCl (uX4_mixtureOf cI cJ) H → va_D A (uX4_mixtureOf cI cJ) → va_S A s.heap H locs → decode cX4_mixtureOf pc = .ok (.ireturn, 1) → W p l e rX4_mixtureOf s m args below meth c H locs 0 0 Q (F0 m pc ls [.int r']))
    {H : Heap} {locs : List Loc} {ls : Array Slot} (hP : va_P D vwCl (uX4_mixtureOf cI cJ) H) (hD : va_D A (uX4_mixtureOf cI cJ)) (hS : va_S A s.heap H locs) (hl : lv_has ls 5 [(0, .int x0), (1, .int x1), (2, .int x2), (3, .int x3)]) : W p l e rX4_mixtureOf s m args below meth c H locs 0 0 Q (F0 m 4 ls []) := by
  obtain ⟨hx, hb, hml, hown, hts, hK, hN, hA, hlocks⟩ := id C
  unfold fX4_mixtureOf_L4 at hf
  refine lv_iload_n hx hb dX4_mixtureOf_4 rfl (lv_at hl 3 rfl) ?_
  refine lv_bipush (v := 16) hx hb dX4_mixtureOf_5 (by decide) ?_
  refine lv_icmp_gt (tgt := 53) hx hb dX4_mixtureOf_7 (by decide) (fun hc => ?_) (fun hc => ?_)
  · have hf := if_yes hc hf
    have ho := Option.some.inj hf
    subst ho
    exact hex _ rfl _ _ _ hP hD hS (lv_sub hl [2] rfl)
  · have hf := if_no hc hf
    refine lv_iload_n hx hb dX4_mixtureOf_10 rfl (lv_at hl 0 rfl) ?_
    refine lv_iload_n hx hb dX4_mixtureOf_11 rfl (lv_at hl 3 rfl) ?_
    refine lv_ishr hx hb dX4_mixtureOf_12 ?_
    refine lv_sipush (v := 255) hx hb dX4_mixtureOf_13 (by decide) ?_
    refine lv_iand hx hb dX4_mixtureOf_16 ?_
    refine lv_iload_n hx hb dX4_mixtureOf_17 rfl (lv_at hl 1 rfl) ?_
    refine lv_iload_n hx hb dX4_mixtureOf_18 rfl (lv_at hl 3 rfl) ?_
    refine lv_ishr hx hb dX4_mixtureOf_19 ?_
    refine lv_sipush (v := 255) hx hb dX4_mixtureOf_20 (by decide) ?_
    refine lv_iand hx hb dX4_mixtureOf_23 ?_
    refine lv_isub hx hb dX4_mixtureOf_24 ?_
    refine lv_istore (lv' := [(4, .int (((x0 >>> (x3 &&& 31)) &&& 255) - ((x1 >>> (x3 &&& 31)) &&& 255))), (0, .int x0), (1, .int x1), (2, .int x2), (3, .int x3)]) hx hb dX4_mixtureOf_25 hl (by decide) rfl (fun ls hl => ?_)
    refine lv_iload hx hb dX4_mixtureOf_27 (lv_at hl 0 rfl) ?_
    refine lv_if_lt (tgt := 38) hx hb dX4_mixtureOf_29 (by decide) (fun hc => ?_) (fun hc => ?_)
    · have hf := if_yes hc hf
      refine lv_iconst (v := (-1)) hx hb dX4_mixtureOf_38 (by decide) ?_
      have ho := Option.some.inj hf
      subst ho
      exact hrt _ rfl H locs ls _ hP hD hS dX4_mixtureOf_39
    · have hf := if_no hc hf
      refine lv_iload hx hb dX4_mixtureOf_32 (lv_at hl 0 rfl) ?_
      refine lv_iconst (v := 4) hx hb dX4_mixtureOf_34 (by decide) ?_
      refine lv_icmp_le (tgt := 40) hx hb dX4_mixtureOf_35 (by decide) (fun hc => ?_) (fun hc => ?_)
      · have hf := if_yes hc hf
        refine lv_iload_n hx hb dX4_mixtureOf_40 rfl (lv_at hl 3 rfl) ?_
        refine lv_iconst (v := 5) hx hb dX4_mixtureOf_41 (by decide) ?_
        refine lv_imul hx hb dX4_mixtureOf_42 ?_
        refine lv_iload hx hb dX4_mixtureOf_43 (lv_at hl 0 rfl) ?_
        refine lv_iadd hx hb dX4_mixtureOf_45 ?_
        refine lv_istore_n (lv' := [(2, .int ((x2 * 5) + (((x0 >>> (x3 &&& 31)) &&& 255) - ((x1 >>> (x3 &&& 31)) &&& 255)))), (4, .int (((x0 >>> (x3 &&& 31)) &&& 255) - ((x1 >>> (x3 &&& 31)) &&& 255))), (0, .int x0), (1, .int x1), (3, .int x3)]) hx hb dX4_mixtureOf_46 rfl hl (by decide) rfl (fun ls hl => ?_)
        refine lv_iinc (v := (x3 + 8)) (lv' := [(3, .int (x3 + 8)), (2, .int ((x2 * 5) + (((x0 >>> (x3 &&& 31)) &&& 255) - ((x1 >>> (x3 &&& 31)) &&& 255)))), (4, .int (((x0 >>> (x3 &&& 31)) &&& 255) - ((x1 >>> (x3 &&& 31)) &&& 255))), (0, .int x0), (1, .int x1)]) hx hb dX4_mixtureOf_47 hl (k := 4) rfl rfl (by decide) rfl (fun ls hl => ?_)
        refine lv_goto (tgt := 4) hx hb dX4_mixtureOf_50 (by decide) ?_
        have ho := Option.some.inj hf
        subst ho
        exact hbk _ rfl _ _ _ hP hD hS (lv_sub hl [3, 4, 1, 0] rfl)
      · have hf := if_no hc hf
        refine lv_iconst (v := (-1)) hx hb dX4_mixtureOf_38 (by decide) ?_
        have ho := Option.some.inj hf
        subst ho
        exact hrt _ rfl H locs ls _ hP hD hS dX4_mixtureOf_39
set_option maxHeartbeats 4000000 in
set_option maxRecDepth 100000 in
theorem kX4_mixtureOf_J53 {p : Program} {l : Launch} {e : Env} {s : State} {m : MethodId} {args : Array Value} {below : List Frame} {meth : Method} {c : Code} {Q : State → Prop} {A : Nat → Prop} {D : va_G} {cI cJ : ClassId} (C : bC cX4_mixtureOf 5 RX4 wsX4_mixtureOf D cI cJ p s m args c meth A)
    {z : Nat} {x2 : Int32} {o : Int32} (hf : fX4_mixtureOf_J53 z x2 = some o)
    (hrt : ∀ (H : Heap) (locs : List Loc) (ls : Array Slot) (pc : Nat), va_P D vwCl (uX4_mixtureOf cI cJ) H → va_D A (uX4_mixtureOf cI cJ) → va_S A s.heap H locs → decode cX4_mixtureOf pc = .ok (.ireturn, 1) → W p l e rX4_mixtureOf s m args below meth c H locs 0 0 Q (F0 m pc ls [.int o]))
    {H : Heap} {locs : List Loc} {ls : Array Slot} (hP : va_P D vwCl (uX4_mixtureOf cI cJ) H) (hD : va_D A (uX4_mixtureOf cI cJ)) (hS : va_S A s.heap H locs) (hl : lv_has ls 5 [(2, .int x2)]) : W p l e rX4_mixtureOf s m args below meth c H locs 0 0 Q (F0 m 53 ls []) := by
  obtain ⟨hx, hb, hml, hown, hts, hK, hN, hA, hlocks⟩ := id C
  unfold fX4_mixtureOf_J53 at hf
  refine lv_iload_n hx hb dX4_mixtureOf_53 rfl (lv_at hl 0 rfl) ?_
  have ho := Option.some.inj hf
  subst ho
  exact hrt H locs ls _ hP hD hS dX4_mixtureOf_54
set_option maxHeartbeats 4000000 in
set_option maxRecDepth 100000 in
theorem kX4_mixtureOf_0 {p : Program} {l : Launch} {e : Env} {s : State} {m : MethodId} {args : Array Value} {below : List Frame} {meth : Method} {c : Code} {Q : State → Prop} {A : Nat → Prop} {D : va_G} {cI cJ : ClassId} (C : bC cX4_mixtureOf 5 RX4 wsX4_mixtureOf D cI cJ p s m args c meth A)
    {z : Nat} {x0 : Int32} {x1 : Int32} {o : Int32} (hf : fX4_mixtureOf z x0 x1 = some o)
    (hrt : ∀ (H : Heap) (locs : List Loc) (ls : Array Slot) (pc : Nat), va_P D vwCl (uX4_mixtureOf cI cJ) H → va_D A (uX4_mixtureOf cI cJ) → va_S A s.heap H locs → decode cX4_mixtureOf pc = .ok (.ireturn, 1) → W p l e rX4_mixtureOf s m args below meth c H locs 0 0 Q (F0 m pc ls [.int o]))
    {H : Heap} {locs : List Loc} {ls : Array Slot} (hP : va_P D vwCl (uX4_mixtureOf cI cJ) H) (hD : va_D A (uX4_mixtureOf cI cJ)) (hS : va_S A s.heap H locs) (hl : lv_has ls 5 [(0, .int x0), (1, .int x1)]) : W p l e rX4_mixtureOf s m args below meth c H locs 0 0 Q (F0 m 0 ls []) := by
  obtain ⟨hx, hb, hml, hown, hts, hK, hN, hA, hlocks⟩ := id C
  unfold fX4_mixtureOf at hf
  refine lv_iconst (v := 0) hx hb dX4_mixtureOf_0 (by decide) ?_
  refine lv_istore_n (lv' := [(2, .int 0), (0, .int x0), (1, .int x1)]) hx hb dX4_mixtureOf_1 rfl hl (by decide) rfl (fun ls hl => ?_)
  refine lv_iconst (v := 0) hx hb dX4_mixtureOf_2 (by decide) ?_
  refine lv_istore_n (lv' := [(3, .int 0), (2, .int 0), (0, .int x0), (1, .int x1)]) hx hb dX4_mixtureOf_3 rfl hl (by decide) rfl (fun ls hl => ?_)
  obtain ⟨ex, hlp, hf⟩ := ob_some hf
  refine lp_ind (P := fun sg => ∀ (H : Heap) (locs : List Loc) (ls : Array Slot), va_P D vwCl (uX4_mixtureOf cI cJ) H → va_D A (uX4_mixtureOf cI cJ) → va_S A s.heap H locs → lv_has ls 5 [(0, .int x0), (1, .int x1), (2, .int sg.1), (3, .int sg.2)] → W p l e rX4_mixtureOf s m args below meth c H locs 0 0 Q (F0 m 4 ls [])) ?_ z _ hlp H locs ls hP hD hS (lv_sub hl [2, 3, 1, 0] rfl)
  intro sg og hbo hback hexit H locs ls hP hD hS hl
  refine kX4_mixtureOf_L4 C hbo (fun s' h => hback s' h) (fun ex h H locs ls hP hD hS hl => ?_) (fun rr h H locs ls pc hP hD hS hdg => ?_) hP hD hS hl
  · have he := hexit _ h
    subst he
    simp only [Sum.elim_inl] at hf
    exact kX4_mixtureOf_J53 C hf hrt hP hD hS (lv_sub hl [0] rfl)
  · have he := hexit _ h
    subst he
    simp only [Sum.elim_inr] at hf
    have ho := Option.some.inj hf
    subst ho
    exact hrt H locs ls pc hP hD hS hdg
set_option maxHeartbeats 4000000 in
set_option maxRecDepth 100000 in
theorem mX4_mixtureOf (l : Launch) (D : va_G) (cI cJ : ClassId) (sz : Nat) {z : Nat} {x0 : Int32} {x1 : Int32} {o : Int32} (hf : fX4_mixtureOf z x0 x1 = some o) : Met l yX4_mixtureOf wsX4_mixtureOf rX4_mixtureOf (va_Pc [.int x0, .int x1] (kP D cI cJ (uX4_mixtureOf cI cJ) sz)) (va_Qi (fun r' (_ : Unit) => r' = o) (fun _ t => kB D (va_A (uX4_mixtureOf cI cJ) sz) (uX4_mixtureOf cI cJ) t) (va_A (uX4_mixtureOf cI cJ) sz)) 0 0 (va_A (uX4_mixtureOf cI cJ) sz) :=
  met_i (by decide) rfl (Nat.le_of_ble_eq_true rfl) (fun p e s m below meth c A Q C hrt ls hl hP hD hS => kX4_mixtureOf_0 (A := A) C hf hrt hP hD hS hl)

/-! ===== FrogsOnRing$Numbering.numberHighs(I)V ===== -/
abbrev uX4_numberHighs (cI cJ : ClassId) (a_this : Nat) (a_lowStarts : Nat) (a_highNumbers : Nat) (a_mixtureSizes : Nat) (i_lowBits : Int32) (i_all : Int32) (g_mixtureSizes : Nat → Int32) (g_highNumbers : Nat → Int32) : va_W := [(a_this, .inr (4, [.ref a_lowStarts, .ref a_highNumbers, .ref a_mixtureSizes, .int i_lowBits, .int i_all])), (a_mixtureSizes, .inl (cI, 125, .inl g_mixtureSizes)), (a_highNumbers, .inl (cI, 256, .inl g_highNumbers))]
def rX4_numberHighs : Room := { frames := 2, cells := 0, slots := 0, locals := 43 }
theorem hdX4_numberHighs : yX4_numberHighs.cls = RX4 ∧ yX4_numberHighs.cls ≠ "java/lang/invoke/MethodHandle" ∧ yX4_numberHighs.cls ≠ "java/lang/invoke/VarHandle" ∧ (parseMethodDescriptor yX4_numberHighs.desc).map (fun d => d.parameters.length) = some 1 := by decide +kernel
set_option maxRecDepth 20000 in
theorem jX4_numberHighs_X4 : ∀ w ∈ u_ws RX4 TX4 5, w ∈ wsX4_numberHighs := by decide +kernel
set_option maxRecDepth 20000 in
theorem qX4_numberHighs_15 : Cond.fieldLink RX4 15 "FrogsOnRing$Numbering" "highNumbers" "[I" ∈ wsX4_numberHighs := by decide +kernel
set_option maxRecDepth 20000 in
theorem qX4_numberHighs_18 : Cond.fieldLink RX4 18 "FrogsOnRing$Numbering" "mixtureSizes" "[I" ∈ wsX4_numberHighs := by decide +kernel
set_option maxHeartbeats 4000000 in
set_option maxRecDepth 100000 in
theorem kX4_numberHighs_L2 {p : Program} {l : Launch} {e : Env} {s : State} {m : MethodId} {args : Array Value} {below : List Frame} {meth : Method} {c : Code} {Q : State → Prop} {A : Nat → Prop} {D : va_G} {cI cJ : ClassId} (C : bC cX4_numberHighs 4 RX4 wsX4_numberHighs D cI cJ p s m args c meth A)
    {a_this : Nat} {a_lowStarts : Nat} {a_highNumbers : Nat} {a_mixtureSizes : Nat} {i_lowBits : Int32} {i_all : Int32} {g_mixtureSizes : Nat → Int32} {g_highNumbers : Nat → Int32} {z : Nat} {x1 : Int32} {x2 : Int32} {o : (Int32 × (Nat → Int32) × (Nat → Int32)) ⊕ ((Nat → Int32) × (Nat → Int32))} (hf : fX4_numberHighs_L2 z x1 x2 g_mixtureSizes g_highNumbers = some o)
    (hbk : ∀ s', o = .inl s' → ∀ (H : Heap) (locs : List Loc) (ls : Array Slot), va_P D vwCl (uX4_numberHighs cI cJ a_this a_lowStarts a_highNumbers a_mixtureSizes i_lowBits i_all s'.2.2 s'.2.1) H → va_D A (uX4_numberHighs cI cJ a_this a_lowStarts a_highNumbers a_mixtureSizes i_lowBits i_all s'.2.2 s'.2.1) → va_S A s.heap H locs → lv_has ls 4 [(0, .ref a_this), (1, .int x1), (2, .int s'.1)] → W p l e rX4_numberHighs s m args below meth c H locs 0 0 Q (F0 m 2 ls []))
    (hex : ∀ e', o = .inr e' → ∀ (H : Heap) (locs : List Loc) (ls : Array Slot), va_P D vwCl (uX4_numberHighs cI cJ a_this a_lowStarts a_highNumbers a_mixtureSizes i_lowBits i_all e'.2 e'.1) H → va_D A (uX4_numberHighs cI cJ a_this a_lowStarts a_highNumbers a_mixtureSizes i_lowBits i_all e'.2 e'.1) → va_S A s.heap H locs → lv_has ls 4 [] → W p l e rX4_numberHighs s m args below meth c H locs 0 0 Q (F0 m 56 ls []))
    {H : Heap} {locs : List Loc} {ls : Array Slot} (hP : va_P D vwCl (uX4_numberHighs cI cJ a_this a_lowStarts a_highNumbers a_mixtureSizes i_lowBits i_all g_mixtureSizes g_highNumbers) H) (hD : va_D A (uX4_numberHighs cI cJ a_this a_lowStarts a_highNumbers a_mixtureSizes i_lowBits i_all g_mixtureSizes g_highNumbers)) (hS : va_S A s.heap H locs) (hl : lv_has ls 4 [(0, .ref a_this), (1, .int x1), (2, .int x2)]) : W p l e rX4_numberHighs s m args below meth c H locs 0 0 Q (F0 m 2 ls []) := by
  obtain ⟨hx, hb, hml, hown, hts, hK, hN, hA, hlocks⟩ := id C
  unfold fX4_numberHighs_L2 at hf
  refine lv_iload_n hx hb dX4_numberHighs_2 rfl (lv_at hl 2 rfl) ?_
  refine lv_iload_n hx hb dX4_numberHighs_3 rfl (lv_at hl 1 rfl) ?_
  refine lv_icmp_ge (tgt := 56) hx hb dX4_numberHighs_4 (by decide) (fun hc => ?_) (fun hc => ?_)
  · have hf := if_yes hc hf
    have ho := Option.some.inj hf
    subst ho
    exact hex _ rfl _ _ _ hP hD hS (lv_sub hl [] rfl)
  · have hf := if_no hc hf
    refine lv_iload_n hx hb dX4_numberHighs_7 rfl (lv_at hl 2 rfl) ?_
    refine lv_sipush (v := 256) hx hb dX4_numberHighs_8 (by decide) ?_
    refine lv_icmp_ge (tgt := 56) hx hb dX4_numberHighs_11 (by decide) (fun hc => ?_) (fun hc => ?_)
    · have hf := if_yes hc hf
      have ho := Option.some.inj hf
      subst ho
      exact hex _ rfl _ _ _ hP hD hS (lv_sub hl [] rfl)
    · have hf := if_no hc hf
      refine lv_iload_n hx hb dX4_numberHighs_14 rfl (lv_at hl 2 rfl) ?_
      obtain ⟨q1, hq, hf⟩ := ob_some hf
      refine cl_i (wc := (uX4_tally cI cJ)) (w1 := (uX4_tally cI cJ)) (rn_S (As := [.int x2]) (rest := []) (wc := (uX4_tally cI cJ)) C hP hD [] rfl rfl (mX4_tally l D cI cJ H.size hq) 1 gX4_numberHighs_X4_tally rfl ⟨rfl, rfl, Nat.le_of_ble_eq_true rfl, Nat.le_of_ble_eq_true rfl⟩ hdX4_tally.2 rfl hl.1 rfl (Nat.le_of_ble_eq_true rfl) dX4_numberHighs_15) hP hD hS hA [] rfl rfl (fun H locs hP hD hS => ?_)
      have hP : va_P D vwCl (uX4_numberHighs cI cJ a_this a_lowStarts a_highNumbers a_mixtureSizes i_lowBits i_all g_mixtureSizes g_highNumbers) H := hP
      have hD : va_D A (uX4_numberHighs cI cJ a_this a_lowStarts a_highNumbers a_mixtureSizes i_lowBits i_all g_mixtureSizes g_highNumbers) := hD
      refine lv_iconst (v := 0) hx hb dX4_numberHighs_18 (by decide) ?_
      obtain ⟨q2, hq, hf⟩ := ob_some hf
      refine cl_i (wc := (uX4_mixtureOf cI cJ)) (w1 := (uX4_mixtureOf cI cJ)) (rn_S (As := [.int q1, .int 0]) (rest := []) (wc := (uX4_mixtureOf cI cJ)) C hP hD [] rfl rfl (mX4_mixtureOf l D cI cJ H.size hq) 2 gX4_numberHighs_X4_mixtureOf rfl ⟨rfl, rfl, Nat.le_of_ble_eq_true rfl, Nat.le_of_ble_eq_true rfl⟩ hdX4_mixtureOf.2 rfl hl.1 rfl (Nat.le_of_ble_eq_true rfl) dX4_numberHighs_19) hP hD hS hA [] rfl rfl (fun H locs hP hD hS => ?_)
      have hP : va_P D vwCl (uX4_numberHighs cI cJ a_this a_lowStarts a_highNumbers a_mixtureSizes i_lowBits i_all g_mixtureSizes g_highNumbers) H := hP
      have hD : va_D A (uX4_numberHighs cI cJ a_this a_lowStarts a_highNumbers a_mixtureSizes i_lowBits i_all g_mixtureSizes g_highNumbers) := hD
      refine lv_istore_n (lv' := [(3, .int q2), (0, .ref a_this), (1, .int x1), (2, .int x2)]) hx hb dX4_numberHighs_22 rfl hl (by decide) rfl (fun ls hl => ?_)
      refine lv_iload_n hx hb dX4_numberHighs_23 rfl (lv_at hl 0 rfl) ?_
      refine lv_iconst (v := (-1)) hx hb dX4_numberHighs_24 (by decide) ?_
      refine lv_icmp_eq (tgt := 50) hx hb dX4_numberHighs_25 (by decide) (fun hc => ?_) (fun hc => ?_)
      · have hf := if_yes hc hf
        refine lv_iinc (v := (x2 + 1)) (lv' := [(2, .int (x2 + 1)), (3, .int q2), (0, .ref a_this), (1, .int x1)]) hx hb dX4_numberHighs_50 hl (k := 3) rfl rfl (by decide) rfl (fun ls hl => ?_)
        refine lv_goto (tgt := 2) hx hb dX4_numberHighs_53 (by decide) ?_
        have ho := Option.some.inj hf
        subst ho
        exact hbk _ rfl _ _ _ hP hD hS (lv_sub hl [2, 3, 0] rfl)
      · have hf := if_no hc hf
        refine lv_aload_n hx hb dX4_numberHighs_28 rfl (lv_at hl 1 rfl) ?_
        refine va_get (D := D) (ci := 4) (v := .ref a_highNumbers) (C := RX4) (T := TX4) (N := 5) hx hb hts jX4_numberHighs_X4 hown hK hP 0 rfl rfl 1 (by decide) (hts _ qX4_numberHighs_15) (fun _ h9 => h9) rfl dX4_numberHighs_29 ?_
        refine lv_iload_n hx hb dX4_numberHighs_32 rfl (lv_at hl 3 rfl) ?_
        refine lv_aload_n hx hb dX4_numberHighs_33 rfl (lv_at hl 1 rfl) ?_
        refine va_get (D := D) (ci := 4) (v := .ref a_mixtureSizes) (C := RX4) (T := TX4) (N := 5) hx hb hts jX4_numberHighs_X4 hown hK hP 0 rfl rfl 2 (by decide) (hts _ qX4_numberHighs_18) (fun _ h9 => h9) rfl dX4_numberHighs_34 ?_
        refine lv_iload_n hx hb dX4_numberHighs_37 rfl (lv_at hl 0 rfl) ?_
        obtain ⟨hin, hf⟩ := agd_some hf
        refine va_iald hx hb hK hP 1 0 rfl rfl hin dX4_numberHighs_38 ?_
        obtain ⟨hin, hf⟩ := agd_some hf
        refine va_iast hx hb hK hP hD hS 2 0 rfl rfl hin dX4_numberHighs_39 (fun H locs hP hD hS => ?_)
        have hP : va_P D vwCl (uX4_numberHighs cI cJ a_this a_lowStarts a_highNumbers a_mixtureSizes i_lowBits i_all g_mixtureSizes (upd g_highNumbers x2.toNatClampNeg (g_mixtureSizes q2.toNatClampNeg))) H := hP
        have hD : va_D A (uX4_numberHighs cI cJ a_this a_lowStarts a_highNumbers a_mixtureSizes i_lowBits i_all g_mixtureSizes (upd g_highNumbers x2.toNatClampNeg (g_mixtureSizes q2.toNatClampNeg))) := hD
        refine lv_aload_n hx hb dX4_numberHighs_40 rfl (lv_at hl 1 rfl) ?_
        refine va_get (D := D) (ci := 4) (v := .ref a_mixtureSizes) (C := RX4) (T := TX4) (N := 5) hx hb hts jX4_numberHighs_X4 hown hK hP 0 rfl rfl 2 (by decide) (hts _ qX4_numberHighs_18) (fun _ h9 => h9) rfl dX4_numberHighs_41 ?_
        refine lv_iload_n hx hb dX4_numberHighs_44 rfl (lv_at hl 0 rfl) ?_
        refine lv_dup2_11 hx hb dX4_numberHighs_45 rfl rfl ?_
        obtain ⟨hin, hf⟩ := agd_some hf
        refine va_iald hx hb hK hP 1 0 rfl rfl hin dX4_numberHighs_46 ?_
        refine lv_iconst (v := 1) hx hb dX4_numberHighs_47 (by decide) ?_
        refine lv_iadd hx hb dX4_numberHighs_48 ?_
        obtain ⟨hin, hf⟩ := agd_some hf
        refine va_iast hx hb hK hP hD hS 1 0 rfl rfl hin dX4_numberHighs_49 (fun H locs hP hD hS => ?_)
        have hP : va_P D vwCl (uX4_numberHighs cI cJ a_this a_lowStarts a_highNumbers a_mixtureSizes i_lowBits i_all (upd g_mixtureSizes q2.toNatClampNeg ((g_mixtureSizes q2.toNatClampNeg) + 1)) (upd g_highNumbers x2.toNatClampNeg (g_mixtureSizes q2.toNatClampNeg))) H := hP
        have hD : va_D A (uX4_numberHighs cI cJ a_this a_lowStarts a_highNumbers a_mixtureSizes i_lowBits i_all (upd g_mixtureSizes q2.toNatClampNeg ((g_mixtureSizes q2.toNatClampNeg) + 1)) (upd g_highNumbers x2.toNatClampNeg (g_mixtureSizes q2.toNatClampNeg))) := hD
        refine lv_iinc (v := (x2 + 1)) (lv' := [(2, .int (x2 + 1)), (3, .int q2), (0, .ref a_this), (1, .int x1)]) hx hb dX4_numberHighs_50 hl (k := 3) rfl rfl (by decide) rfl (fun ls hl => ?_)
        refine lv_goto (tgt := 2) hx hb dX4_numberHighs_53 (by decide) ?_
        have ho := Option.some.inj hf
        subst ho
        exact hbk _ rfl _ _ _ hP hD hS (lv_sub hl [2, 3, 0] rfl)
set_option maxHeartbeats 4000000 in
set_option maxRecDepth 100000 in
theorem kX4_numberHighs_J56 {p : Program} {l : Launch} {e : Env} {s : State} {m : MethodId} {args : Array Value} {below : List Frame} {meth : Method} {c : Code} {Q : State → Prop} {A : Nat → Prop} {D : va_G} {cI cJ : ClassId} (C : bC cX4_numberHighs 4 RX4 wsX4_numberHighs D cI cJ p s m args c meth A)
    {a_this : Nat} {a_lowStarts : Nat} {a_highNumbers : Nat} {a_mixtureSizes : Nat} {i_lowBits : Int32} {i_all : Int32} {g_mixtureSizes : Nat → Int32} {g_highNumbers : Nat → Int32} {z : Nat} {o : (Nat → Int32) × (Nat → Int32)} (hf : fX4_numberHighs_J56 z g_mixtureSizes g_highNumbers = some o)
    (hrt : ∀ (H : Heap) (locs : List Loc) (ls : Array Slot) (pc : Nat), va_P D vwCl (uX4_numberHighs cI cJ a_this a_lowStarts a_highNumbers a_mixtureSizes i_lowBits i_all o.2 o.1) H → va_D A (uX4_numberHighs cI cJ a_this a_lowStarts a_highNumbers a_mixtureSizes i_lowBits i_all o.2 o.1) → va_S A s.heap H locs → decode cX4_numberHighs pc = .ok (.return_, 1) → W p l e rX4_numberHighs s m args below meth c H locs 0 0 Q (F0 m pc ls []))
    {H : Heap} {locs : List Loc} {ls : Array Slot} (hP : va_P D vwCl (uX4_numberHighs cI cJ a_this a_lowStarts a_highNumbers a_mixtureSizes i_lowBits i_all g_mixtureSizes g_highNumbers) H) (hD : va_D A (uX4_numberHighs cI cJ a_this a_lowStarts a_highNumbers a_mixtureSizes i_lowBits i_all g_mixtureSizes g_highNumbers)) (hS : va_S A s.heap H locs) (hl : lv_has ls 4 []) : W p l e rX4_numberHighs s m args below meth c H locs 0 0 Q (F0 m 56 ls []) := by
  obtain ⟨hx, hb, hml, hown, hts, hK, hN, hA, hlocks⟩ := id C
  unfold fX4_numberHighs_J56 at hf
  have ho := Option.some.inj hf
  subst ho
  exact hrt H locs ls _ hP hD hS dX4_numberHighs_56
set_option maxHeartbeats 4000000 in
set_option maxRecDepth 100000 in
theorem kX4_numberHighs_0 {p : Program} {l : Launch} {e : Env} {s : State} {m : MethodId} {args : Array Value} {below : List Frame} {meth : Method} {c : Code} {Q : State → Prop} {A : Nat → Prop} {D : va_G} {cI cJ : ClassId} (C : bC cX4_numberHighs 4 RX4 wsX4_numberHighs D cI cJ p s m args c meth A)
    {a_this : Nat} {a_lowStarts : Nat} {a_highNumbers : Nat} {a_mixtureSizes : Nat} {i_lowBits : Int32} {i_all : Int32} {g_mixtureSizes : Nat → Int32} {g_highNumbers : Nat → Int32} {z : Nat} {x1 : Int32} {o : (Nat → Int32) × (Nat → Int32)} (hf : fX4_numberHighs z x1 g_mixtureSizes g_highNumbers = some o)
    (hrt : ∀ (H : Heap) (locs : List Loc) (ls : Array Slot) (pc : Nat), va_P D vwCl (uX4_numberHighs cI cJ a_this a_lowStarts a_highNumbers a_mixtureSizes i_lowBits i_all o.2 o.1) H → va_D A (uX4_numberHighs cI cJ a_this a_lowStarts a_highNumbers a_mixtureSizes i_lowBits i_all o.2 o.1) → va_S A s.heap H locs → decode cX4_numberHighs pc = .ok (.return_, 1) → W p l e rX4_numberHighs s m args below meth c H locs 0 0 Q (F0 m pc ls []))
    {H : Heap} {locs : List Loc} {ls : Array Slot} (hP : va_P D vwCl (uX4_numberHighs cI cJ a_this a_lowStarts a_highNumbers a_mixtureSizes i_lowBits i_all g_mixtureSizes g_highNumbers) H) (hD : va_D A (uX4_numberHighs cI cJ a_this a_lowStarts a_highNumbers a_mixtureSizes i_lowBits i_all g_mixtureSizes g_highNumbers)) (hS : va_S A s.heap H locs) (hl : lv_has ls 4 [(0, .ref a_this), (1, .int x1)]) : W p l e rX4_numberHighs s m args below meth c H locs 0 0 Q (F0 m 0 ls []) := by
  obtain ⟨hx, hb, hml, hown, hts, hK, hN, hA, hlocks⟩ := id C
  unfold fX4_numberHighs at hf
  refine lv_iconst (v := 0) hx hb dX4_numberHighs_0 (by decide) ?_
  refine lv_istore_n (lv' := [(2, .int 0), (0, .ref a_this), (1, .int x1)]) hx hb dX4_numberHighs_1 rfl hl (by decide) rfl (fun ls hl => ?_)
  obtain ⟨ex, hlp, hf⟩ := ob_some hf
  refine lp_ind (P := fun sg => ∀ (H : Heap) (locs : List Loc) (ls : Array Slot), va_P D vwCl (uX4_numberHighs cI cJ a_this a_lowStarts a_highNumbers a_mixtureSizes i_lowBits i_all sg.2.2 sg.2.1) H → va_D A (uX4_numberHighs cI cJ a_this a_lowStarts a_highNumbers a_mixtureSizes i_lowBits i_all sg.2.2 sg.2.1) → va_S A s.heap H locs → lv_has ls 4 [(0, .ref a_this), (1, .int x1), (2, .int sg.1)] → W p l e rX4_numberHighs s m args below meth c H locs 0 0 Q (F0 m 2 ls [])) ?_ z _ hlp H locs ls hP hD hS (lv_sub hl [1, 2, 0] rfl)
  intro sg og hbo hback hexit H locs ls hP hD hS hl
  refine kX4_numberHighs_L2 C hbo (fun s' h => hback s' h) (fun ex h H locs ls hP hD hS hl => ?_) hP hD hS hl
  have he := hexit _ h
  subst he
  exact kX4_numberHighs_J56 C hf hrt hP hD hS (lv_sub hl [] rfl)
set_option maxHeartbeats 4000000 in
set_option maxRecDepth 100000 in
theorem mX4_numberHighs (l : Launch) (D : va_G) (cI cJ : ClassId) (sz : Nat) {a_this : Nat} {a_lowStarts : Nat} {a_highNumbers : Nat} {a_mixtureSizes : Nat} {i_lowBits : Int32} {i_all : Int32} {g_mixtureSizes : Nat → Int32} {g_highNumbers : Nat → Int32} {z : Nat} {x1 : Int32} {o : (Nat → Int32) × (Nat → Int32)} (hf : fX4_numberHighs z x1 g_mixtureSizes g_highNumbers = some o) : Met l yX4_numberHighs wsX4_numberHighs rX4_numberHighs (va_Pc [.ref a_this, .int x1] (kP D cI cJ (uX4_numberHighs cI cJ a_this a_lowStarts a_highNumbers a_mixtureSizes i_lowBits i_all g_mixtureSizes g_highNumbers) sz)) (va_Qv (fun (_ : Unit) => True) (fun _ t => kB D (va_A (uX4_numberHighs cI cJ a_this a_lowStarts a_highNumbers a_mixtureSizes i_lowBits i_all g_mixtureSizes g_highNumbers) sz) (uX4_numberHighs cI cJ a_this a_lowStarts a_highNumbers a_mixtureSizes i_lowBits i_all o.2 o.1) t) (va_A (uX4_numberHighs cI cJ a_this a_lowStarts a_highNumbers a_mixtureSizes i_lowBits i_all g_mixtureSizes g_highNumbers) sz)) 0 0 (va_A (uX4_numberHighs cI cJ a_this a_lowStarts a_highNumbers a_mixtureSizes i_lowBits i_all g_mixtureSizes g_highNumbers) sz) :=
  met_v (by decide) rfl (Nat.le_of_ble_eq_true rfl) (fun p e s m below meth c A Q C hrt ls hl hP hD hS => kX4_numberHighs_0 (A := A) C hf hrt hP hD hS hl)

/-! ===== FrogsOnRing$Numbering.numberLows(II)V ===== -/
abbrev uX4_numberLows (cI cJ : ClassId) (a_this : Nat) (a_lowStarts : Nat) (a_highNumbers : Nat) (a_mixtureSizes : Nat) (i_lowBits : Int32) (i_all : Int32) (g_lowStarts : Nat → Int32) (g_mixtureSizes : Nat → Int32) : va_W := [(a_this, .inr (4, [.ref a_lowStarts, .ref a_highNumbers, .ref a_mixtureSizes, .int i_lowBits, .int i_all])), (a_lowStarts, .inl (cI, 1024, .inl g_lowStarts)), (a_mixtureSizes, .inl (cI, 125, .inl g_mixtureSizes))]
def rX4_numberLows : Room := { frames := 2, cells := 0, slots := 0, locals := 43 }
theorem hdX4_numberLows : yX4_numberLows.cls = RX4 ∧ yX4_numberLows.cls ≠ "java/lang/invoke/MethodHandle" ∧ yX4_numberLows.cls ≠ "java/lang/invoke/VarHandle" ∧ (parseMethodDescriptor yX4_numberLows.desc).map (fun d => d.parameters.length) = some 2 := by decide +kernel
set_option maxRecDepth 20000 in
theorem jX4_numberLows_X4 : ∀ w ∈ u_ws RX4 TX4 5, w ∈ wsX4_numberLows := by decide +kernel
set_option maxRecDepth 20000 in
theorem qX4_numberLows_11 : Cond.fieldLink RX4 11 "FrogsOnRing$Numbering" "lowStarts" "[I" ∈ wsX4_numberLows := by decide +kernel
set_option maxRecDepth 20000 in
theorem qX4_numberLows_18 : Cond.fieldLink RX4 18 "FrogsOnRing$Numbering" "mixtureSizes" "[I" ∈ wsX4_numberLows := by decide +kernel
set_option maxRecDepth 20000 in
theorem qX4_numberLows_52 : Cond.fieldLink RX4 52 "FrogsOnRing$Numbering" "all" "I" ∈ wsX4_numberLows := by decide +kernel
set_option maxRecDepth 20000 in
theorem qX4_numberLows_l21 : Cond.methodLink RX4 21 Lib.Math.min.name ∈ wsX4_numberLows := by decide +kernel
set_option maxRecDepth 20000 in
theorem qX4_numberLows_mi : Cond.initialized "java/lang/Math" ∈ wsX4_numberLows := by decide +kernel
set_option maxRecDepth 20000 in
theorem qX4_numberLows_minc : Cond.code Lib.Math.min.name Lib.Math.min.code 2 (some .int) ∈ wsX4_numberLows := by decide +kernel
set_option maxRecDepth 20000 in
theorem qX4_numberLows_mins : Cond.static Lib.Math.min.name ∈ wsX4_numberLows := by decide +kernel
set_option maxHeartbeats 4000000 in
set_option maxRecDepth 100000 in
theorem kX4_numberLows_L11 {p : Program} {l : Launch} {e : Env} {s : State} {m : MethodId} {args : Array Value} {below : List Frame} {meth : Method} {c : Code} {Q : State → Prop} {A : Nat → Prop} {D : va_G} {cI cJ : ClassId} (C : bC cX4_numberLows 7 RX4 wsX4_numberLows D cI cJ p s m args c meth A)
    {a_this : Nat} {a_lowStarts : Nat} {a_highNumbers : Nat} {a_mixtureSizes : Nat} {i_lowBits : Int32} {i_all : Int32} {g_lowStarts : Nat → Int32} {g_mixtureSizes : Nat → Int32} {z : Nat} {x1 : Int32} {x3 : Int32} {x4 : Int32} {x5 : Int32} {o : (Int32 × Int32 × (Nat → Int32)) ⊕ (Int32 × (Nat → Int32))} (hf : fX4_numberLows_L11 z x1 x3 x4 x5 g_lowStarts g_mixtureSizes i_all = some o)
    (hbk : ∀ s', o = .inl s' → ∀ (H : Heap) (locs : List Loc) (ls : Array Slot), va_P D vwCl (uX4_numberLows cI cJ a_this a_lowStarts a_highNumbers a_mixtureSizes i_lowBits i_all s'.2.2 g_mixtureSizes) H → va_D A (uX4_numberLows cI cJ a_this a_lowStarts a_highNumbers a_mixtureSizes i_lowBits i_all s'.2.2 g_mixtureSizes) → va_S A s.heap H locs → lv_has ls 7 [(0, .ref a_this), (1, .int x1), (3, .int x3), (4, .int s'.1), (5, .int s'.2.1)] → W p l e rX4_numberLows s m args below meth c H locs 0 0 Q (F0 m 11 ls []))
    (hex : ∀ e', o = .inr e' → ∀ (H : Heap) (locs : List Loc) (ls : Array Slot), va_P D vwCl (uX4_numberLows cI cJ a_this a_lowStarts a_highNumbers a_mixtureSizes i_lowBits i_all e'.2 g_mixtureSizes) H → va_D A (uX4_numberLows cI cJ a_this a_lowStarts a_highNumbers a_mixtureSizes i_lowBits i_all e'.2 g_mixtureSizes) → va_S A s.heap H locs → lv_has ls 7 [(0, .ref a_this), (4, .int e'.1)] → W p l e rX4_numberLows s m args below meth c H locs 0 0 Q (F0 m 69 ls []))
    {H : Heap} {locs : List Loc} {ls : Array Slot} (hP : va_P D vwCl (uX4_numberLows cI cJ a_this a_lowStarts a_highNumbers a_mixtureSizes i_lowBits i_all g_lowStarts g_mixtureSizes) H) (hD : va_D A (uX4_numberLows cI cJ a_this a_lowStarts a_highNumbers a_mixtureSizes i_lowBits i_all g_lowStarts g_mixtureSizes)) (hS : va_S A s.heap H locs) (hl : lv_has ls 7 [(0, .ref a_this), (1, .int x1), (3, .int x3), (4, .int x4), (5, .int x5)]) : W p l e rX4_numberLows s m args below meth c H locs 0 0 Q (F0 m 11 ls []) := by
  obtain ⟨hx, hb, hml, hown, hts, hK, hN, hA, hlocks⟩ := id C
  unfold fX4_numberLows_L11 at hf
  refine lv_iload hx hb dX4_numberLows_11 (lv_at hl 4 rfl) ?_
  refine lv_iload_n hx hb dX4_numberLows_13 rfl (lv_at hl 1 rfl) ?_
  refine lv_icmp_ge (tgt := 69) hx hb dX4_numberLows_14 (by decide) (fun hc => ?_) (fun hc => ?_)
  · have hf := if_yes hc hf
    have ho := Option.some.inj hf
    subst ho
    exact hex _ rfl _ _ _ hP hD hS (lv_sub hl [0, 3] rfl)
  · have hf := if_no hc hf
    refine lv_iload hx hb dX4_numberLows_17 (lv_at hl 4 rfl) ?_
    refine lv_sipush (v := 1024) hx hb dX4_numberLows_19 (by decide) ?_
    refine lv_icmp_ge (tgt := 69) hx hb dX4_numberLows_22 (by decide) (fun hc => ?_) (fun hc => ?_)
    · have hf := if_yes hc hf
      have ho := Option.some.inj hf
      subst ho
      exact hex _ rfl _ _ _ hP hD hS (lv_sub hl [0, 3] rfl)
    · have hf := if_no hc hf
      refine lv_aload_n hx hb dX4_numberLows_25 rfl (lv_at hl 0 rfl) ?_
      refine va_get (D := D) (ci := 4) (v := .ref a_lowStarts) (C := RX4) (T := TX4) (N := 5) hx hb hts jX4_numberLows_X4 hown hK hP 0 rfl rfl 0 (by decide) (hts _ qX4_numberLows_11) (fun _ h9 => h9) rfl dX4_numberLows_26 ?_
      refine lv_iload hx hb dX4_numberLows_29 (lv_at hl 4 rfl) ?_
      refine lv_iload hx hb dX4_numberLows_31 (lv_at hl 3 rfl) ?_
      obtain ⟨hin, hf⟩ := agd_some hf
      refine va_iast hx hb hK hP hD hS 1 0 rfl rfl hin dX4_numberLows_33 (fun H locs hP hD hS => ?_)
      have hP : va_P D vwCl (uX4_numberLows cI cJ a_this a_lowStarts a_highNumbers a_mixtureSizes i_lowBits i_all (upd g_lowStarts x5.toNatClampNeg x4) g_mixtureSizes) H := hP
      have hD : va_D A (uX4_numberLows cI cJ a_this a_lowStarts a_highNumbers a_mixtureSizes i_lowBits i_all (upd g_lowStarts x5.toNatClampNeg x4) g_mixtureSizes) := hD
      refine lv_iload_n hx hb dX4_numberLows_34 rfl (lv_at hl 2 rfl) ?_
      refine lv_iload hx hb dX4_numberLows_35 (lv_at hl 4 rfl) ?_
      obtain ⟨q2, hq, hf⟩ := ob_some hf
      refine cl_i (wc := (uX4_tally cI cJ)) (w1 := (uX4_tally cI cJ)) (rn_S (As := [.int x5]) (rest := [.int x3]) (wc := (uX4_tally cI cJ)) C hP hD [] rfl rfl (mX4_tally l D cI cJ H.size hq) 1 gX4_numberLows_X4_tally rfl ⟨rfl, rfl, Nat.le_of_ble_eq_true rfl, Nat.le_of_ble_eq_true rfl⟩ hdX4_tally.2 rfl hl.1 rfl (Nat.le_of_ble_eq_true rfl) dX4_numberLows_37) hP hD hS hA [] rfl rfl (fun H locs hP hD hS => ?_)
      have hP : va_P D vwCl (uX4_numberLows cI cJ a_this a_lowStarts a_highNumbers a_mixtureSizes i_lowBits i_all (upd g_lowStarts x5.toNatClampNeg x4) g_mixtureSizes) H := hP
      have hD : va_D A (uX4_numberLows cI cJ a_this a_lowStarts a_highNumbers a_mixtureSizes i_lowBits i_all (upd g_lowStarts x5.toNatClampNeg x4) g_mixtureSizes) := hD
      obtain ⟨q3, hq, hf⟩ := ob_some hf
      refine cl_i (wc := (uX4_mixtureOf cI cJ)) (w1 := (uX4_mixtureOf cI cJ)) (rn_S (As := [.int x3, .int q2]) (rest := []) (wc := (uX4_mixtureOf cI cJ)) C hP hD [] rfl rfl (mX4_mixtureOf l D cI cJ H.size hq) 2 gX4_numberLows_X4_mixtureOf rfl ⟨rfl, rfl, Nat.le_of_ble_eq_true rfl, Nat.le_of_ble_eq_true rfl⟩ hdX4_mixtureOf.2 rfl hl.1 rfl (Nat.le_of_ble_eq_true rfl) dX4_numberLows_40) hP hD hS hA [] rfl rfl (fun H locs hP hD hS => ?_)
      have hP : va_P D vwCl (uX4_numberLows cI cJ a_this a_lowStarts a_highNumbers a_mixtureSizes i_lowBits i_all (upd g_lowStarts x5.toNatClampNeg x4) g_mixtureSizes) H := hP
      have hD : va_D A (uX4_numberLows cI cJ a_this a_lowStarts a_highNumbers a_mixtureSizes i_lowBits i_all (upd g_lowStarts x5.toNatClampNeg x4) g_mixtureSizes) := hD
      refine lv_istore (lv' := [(6, .int q3), (0, .ref a_this), (1, .int x1), (3, .int x3), (4, .int x4), (5, .int x5)]) hx hb dX4_numberLows_43 hl (by decide) rfl (fun ls hl => ?_)
      refine lv_iload hx hb dX4_numberLows_45 (lv_at hl 0 rfl) ?_
      refine lv_iconst (v := (-1)) hx hb dX4_numberLows_47 (by decide) ?_
      refine lv_icmp_eq (tgt := 63) hx hb dX4_numberLows_48 (by decide) (fun hc => ?_) (fun hc => ?_)
      · have hf := if_yes hc hf
        refine lv_iinc (v := (x5 + 1)) (lv' := [(5, .int (x5 + 1)), (6, .int q3), (0, .ref a_this), (1, .int x1), (3, .int x3), (4, .int x4)]) hx hb dX4_numberLows_63 hl (k := 5) rfl rfl (by decide) rfl (fun ls hl => ?_)
        refine lv_goto (tgt := 11) hx hb dX4_numberLows_66 (by decide) ?_
        have ho := Option.some.inj hf
        subst ho
        exact hbk _ rfl _ _ _ hP hD hS (lv_sub hl [2, 3, 4, 5, 0] rfl)
      · have hf := if_no hc hf
        refine lv_iload hx hb dX4_numberLows_51 (lv_at hl 4 rfl) ?_
        refine lv_aload_n hx hb dX4_numberLows_53 rfl (lv_at hl 1 rfl) ?_
        refine va_get (D := D) (ci := 4) (v := .ref a_mixtureSizes) (C := RX4) (T := TX4) (N := 5) hx hb hts jX4_numberLows_X4 hown hK hP 0 rfl rfl 2 (by decide) (hts _ qX4_numberLows_18) (fun _ h9 => h9) rfl dX4_numberLows_54 ?_
        refine lv_iload hx hb dX4_numberLows_57 (lv_at hl 0 rfl) ?_
        obtain ⟨hin, hf⟩ := agd_some hf
        refine va_iald hx hb hK hP 2 0 rfl rfl hin dX4_numberLows_59 ?_
        refine lv_iadd hx hb dX4_numberLows_60 ?_
        refine lv_istore (lv' := [(4, .int (x4 + (g_mixtureSizes q3.toNatClampNeg))), (6, .int q3), (0, .ref a_this), (1, .int x1), (3, .int x3), (5, .int x5)]) hx hb dX4_numberLows_61 hl (by decide) rfl (fun ls hl => ?_)
        refine lv_iinc (v := (x5 + 1)) (lv' := [(5, .int (x5 + 1)), (4, .int (x4 + (g_mixtureSizes q3.toNatClampNeg))), (6, .int q3), (0, .ref a_this), (1, .int x1), (3, .int x3)]) hx hb dX4_numberLows_63 hl (k := 5) rfl rfl (by decide) rfl (fun ls hl => ?_)
        refine lv_goto (tgt := 11) hx hb dX4_numberLows_66 (by decide) ?_
        have ho := Option.some.inj hf
        subst ho
        exact hbk _ rfl _ _ _ hP hD hS (lv_sub hl [3, 4, 5, 1, 0] rfl)
set_option maxHeartbeats 4000000 in
set_option maxRecDepth 100000 in
theorem kX4_numberLows_J69 {p : Program} {l : Launch} {e : Env} {s : State} {m : MethodId} {args : Array Value} {below : List Frame} {meth : Method} {c : Code} {Q : State → Prop} {A : Nat → Prop} {D : va_G} {cI cJ : ClassId} (C : bC cX4_numberLows 7 RX4 wsX4_numberLows D cI cJ p s m args c meth A)
    {a_this : Nat} {a_lowStarts : Nat} {a_highNumbers : Nat} {a_mixtureSizes : Nat} {i_lowBits : Int32} {i_all : Int32} {g_lowStarts : Nat → Int32} {g_mixtureSizes : Nat → Int32} {z : Nat} {x4 : Int32} {o : (Nat → Int32) × Int32} (hf : fX4_numberLows_J69 z x4 g_lowStarts g_mixtureSizes i_all = some o)
    (hrt : ∀ (H : Heap) (locs : List Loc) (ls : Array Slot) (pc : Nat), va_P D vwCl (uX4_numberLows cI cJ a_this a_lowStarts a_highNumbers a_mixtureSizes i_lowBits o.2 o.1 g_mixtureSizes) H → va_D A (uX4_numberLows cI cJ a_this a_lowStarts a_highNumbers a_mixtureSizes i_lowBits o.2 o.1 g_mixtureSizes) → va_S A s.heap H locs → decode cX4_numberLows pc = .ok (.return_, 1) → W p l e rX4_numberLows s m args below meth c H locs 0 0 Q (F0 m pc ls []))
    {H : Heap} {locs : List Loc} {ls : Array Slot} (hP : va_P D vwCl (uX4_numberLows cI cJ a_this a_lowStarts a_highNumbers a_mixtureSizes i_lowBits i_all g_lowStarts g_mixtureSizes) H) (hD : va_D A (uX4_numberLows cI cJ a_this a_lowStarts a_highNumbers a_mixtureSizes i_lowBits i_all g_lowStarts g_mixtureSizes)) (hS : va_S A s.heap H locs) (hl : lv_has ls 7 [(0, .ref a_this), (4, .int x4)]) : W p l e rX4_numberLows s m args below meth c H locs 0 0 Q (F0 m 69 ls []) := by
  obtain ⟨hx, hb, hml, hown, hts, hK, hN, hA, hlocks⟩ := id C
  unfold fX4_numberLows_J69 at hf
  refine lv_aload_n hx hb dX4_numberLows_69 rfl (lv_at hl 0 rfl) ?_
  refine lv_iload hx hb dX4_numberLows_70 (lv_at hl 1 rfl) ?_
  refine lv_sipush (v := 7560) hx hb dX4_numberLows_72 (by decide) ?_
  refine lw_mmin hx hb (hml.trans hl.1.symm) hown (hts _ qX4_numberLows_l21) (hts _ qX4_numberLows_mins) (hts _ qX4_numberLows_mi) (hts _ qX4_numberLows_minc) (Nat.le_of_ble_eq_true rfl) (Nat.le_of_ble_eq_true rfl) (Nat.zero_le _) (Nat.zero_le _) dX4_numberLows_75 ?_
  refine va_put (D := D) (ci := 4) (v := .int (i_min x4 7560)) (ty := tyX4 4) (C := RX4) (T := TX4) (N := 5) hx hb hts jX4_numberLows_X4 tyX4 tyX4_ok nmX4 hown hK hP hD hS 0 rfl rfl 4 (by decide) (hts _ qX4_numberLows_52) (fun _ h9 => h9) rfl (tyX4_ok 4 (by decide)) rfl rfl (Nat.le_of_ble_eq_true rfl) dX4_numberLows_78 (fun H locs hP hD hS => ?_)
  have hP : va_P D vwCl (uX4_numberLows cI cJ a_this a_lowStarts a_highNumbers a_mixtureSizes i_lowBits (i_min x4 7560) g_lowStarts g_mixtureSizes) H := hP
  have hD : va_D A (uX4_numberLows cI cJ a_this a_lowStarts a_highNumbers a_mixtureSizes i_lowBits (i_min x4 7560) g_lowStarts g_mixtureSizes) := hD
  have ho := Option.some.inj hf
  subst ho
  exact hrt H locs ls _ hP hD hS dX4_numberLows_81
set_option maxHeartbeats 4000000 in
set_option maxRecDepth 100000 in
theorem kX4_numberLows_0 {p : Program} {l : Launch} {e : Env} {s : State} {m : MethodId} {args : Array Value} {below : List Frame} {meth : Method} {c : Code} {Q : State → Prop} {A : Nat → Prop} {D : va_G} {cI cJ : ClassId} (C : bC cX4_numberLows 7 RX4 wsX4_numberLows D cI cJ p s m args c meth A)
    {a_this : Nat} {a_lowStarts : Nat} {a_highNumbers : Nat} {a_mixtureSizes : Nat} {i_lowBits : Int32} {i_all : Int32} {g_lowStarts : Nat → Int32} {g_mixtureSizes : Nat → Int32} {z : Nat} {x1 : Int32} {x2 : Int32} {o : (Nat → Int32) × Int32} (hf : fX4_numberLows z x1 x2 g_lowStarts g_mixtureSizes i_all = some o)
    (hrt : ∀ (H : Heap) (locs : List Loc) (ls : Array Slot) (pc : Nat), va_P D vwCl (uX4_numberLows cI cJ a_this a_lowStarts a_highNumbers a_mixtureSizes i_lowBits o.2 o.1 g_mixtureSizes) H → va_D A (uX4_numberLows cI cJ a_this a_lowStarts a_highNumbers a_mixtureSizes i_lowBits o.2 o.1 g_mixtureSizes) → va_S A s.heap H locs → decode cX4_numberLows pc = .ok (.return_, 1) → W p l e rX4_numberLows s m args below meth c H locs 0 0 Q (F0 m pc ls []))
    {H : Heap} {locs : List Loc} {ls : Array Slot} (hP : va_P D vwCl (uX4_numberLows cI cJ a_this a_lowStarts a_highNumbers a_mixtureSizes i_lowBits i_all g_lowStarts g_mixtureSizes) H) (hD : va_D A (uX4_numberLows cI cJ a_this a_lowStarts a_highNumbers a_mixtureSizes i_lowBits i_all g_lowStarts g_mixtureSizes)) (hS : va_S A s.heap H locs) (hl : lv_has ls 7 [(0, .ref a_this), (1, .int x1), (2, .int x2)]) : W p l e rX4_numberLows s m args below meth c H locs 0 0 Q (F0 m 0 ls []) := by
  obtain ⟨hx, hb, hml, hown, hts, hK, hN, hA, hlocks⟩ := id C
  unfold fX4_numberLows at hf
  refine lv_iload_n hx hb dX4_numberLows_0 rfl (lv_at hl 2 rfl) ?_
  obtain ⟨q1, hq, hf⟩ := ob_some hf
  refine cl_i (wc := (uX4_tally cI cJ)) (w1 := (uX4_tally cI cJ)) (rn_S (As := [.int x2]) (rest := []) (wc := (uX4_tally cI cJ)) C hP hD [] rfl rfl (mX4_tally l D cI cJ H.size hq) 1 gX4_numberLows_X4_tally rfl ⟨rfl, rfl, Nat.le_of_ble_eq_true rfl, Nat.le_of_ble_eq_true rfl⟩ hdX4_tally.2 rfl hl.1 rfl (Nat.le_of_ble_eq_true rfl) dX4_numberLows_1) hP hD hS hA [] rfl rfl (fun H locs hP hD hS => ?_)
  have hP : va_P D vwCl (uX4_numberLows cI cJ a_this a_lowStarts a_highNumbers a_mixtureSizes i_lowBits i_all g_lowStarts g_mixtureSizes) H := hP
  have hD : va_D A (uX4_numberLows cI cJ a_this a_lowStarts a_highNumbers a_mixtureSizes i_lowBits i_all g_lowStarts g_mixtureSizes) := hD
  refine lv_istore_n (lv' := [(3, .int q1), (0, .ref a_this), (1, .int x1), (2, .int x2)]) hx hb dX4_numberLows_4 rfl hl (by decide) rfl (fun ls hl => ?_)
  refine lv_iconst (v := 0) hx hb dX4_numberLows_5 (by decide) ?_
  refine lv_istore (lv' := [(4, .int 0), (3, .int q1), (0, .ref a_this), (1, .int x1), (2, .int x2)]) hx hb dX4_numberLows_6 hl (by decide) rfl (fun ls hl => ?_)
  refine lv_iconst (v := 0) hx hb dX4_numberLows_8 (by decide) ?_
  refine lv_istore (lv' := [(5, .int 0), (4, .int 0), (3, .int q1), (0, .ref a_this), (1, .int x1), (2, .int x2)]) hx hb dX4_numberLows_9 hl (by decide) rfl (fun ls hl => ?_)
  obtain ⟨ex, hlp, hf⟩ := ob_some hf
  refine lp_ind (P := fun sg => ∀ (H : Heap) (locs : List Loc) (ls : Array Slot), va_P D vwCl (uX4_numberLows cI cJ a_this a_lowStarts a_highNumbers a_mixtureSizes i_lowBits i_all sg.2.2 g_mixtureSizes) H → va_D A (uX4_numberLows cI cJ a_this a_lowStarts a_highNumbers a_mixtureSizes i_lowBits i_all sg.2.2 g_mixtureSizes) → va_S A s.heap H locs → lv_has ls 7 [(0, .ref a_this), (1, .int x1), (3, .int q1), (4, .int sg.1), (5, .int sg.2.1)] → W p l e rX4_numberLows s m args below meth c H locs 0 0 Q (F0 m 11 ls [])) ?_ z _ hlp H locs ls hP hD hS (lv_sub hl [3, 4, 2, 1, 0] rfl)
  intro sg og hbo hback hexit H locs ls hP hD hS hl
  refine kX4_numberLows_L11 C hbo (fun s' h => hback s' h) (fun ex h H locs ls hP hD hS hl => ?_) hP hD hS hl
  have he := hexit _ h
  subst he
  exact kX4_numberLows_J69 C hf hrt hP hD hS (lv_sub hl [0, 1] rfl)
set_option maxHeartbeats 4000000 in
set_option maxRecDepth 100000 in
theorem mX4_numberLows (l : Launch) (D : va_G) (cI cJ : ClassId) (sz : Nat) {a_this : Nat} {a_lowStarts : Nat} {a_highNumbers : Nat} {a_mixtureSizes : Nat} {i_lowBits : Int32} {i_all : Int32} {g_lowStarts : Nat → Int32} {g_mixtureSizes : Nat → Int32} {z : Nat} {x1 : Int32} {x2 : Int32} {o : (Nat → Int32) × Int32} (hf : fX4_numberLows z x1 x2 g_lowStarts g_mixtureSizes i_all = some o) : Met l yX4_numberLows wsX4_numberLows rX4_numberLows (va_Pc [.ref a_this, .int x1, .int x2] (kP D cI cJ (uX4_numberLows cI cJ a_this a_lowStarts a_highNumbers a_mixtureSizes i_lowBits i_all g_lowStarts g_mixtureSizes) sz)) (va_Qv (fun (_ : Unit) => True) (fun _ t => kB D (va_A (uX4_numberLows cI cJ a_this a_lowStarts a_highNumbers a_mixtureSizes i_lowBits i_all g_lowStarts g_mixtureSizes) sz) (uX4_numberLows cI cJ a_this a_lowStarts a_highNumbers a_mixtureSizes i_lowBits o.2 o.1 g_mixtureSizes) t) (va_A (uX4_numberLows cI cJ a_this a_lowStarts a_highNumbers a_mixtureSizes i_lowBits i_all g_lowStarts g_mixtureSizes) sz)) 0 0 (va_A (uX4_numberLows cI cJ a_this a_lowStarts a_highNumbers a_mixtureSizes i_lowBits i_all g_lowStarts g_mixtureSizes) sz) :=
  met_v (by decide) rfl (Nat.le_of_ble_eq_true rfl) (fun p e s m below meth c A Q C hrt ls hl hP hD hS => kX4_numberLows_0 (A := A) C hf hrt hP hD hS hl)

/-! ===== FrogsOnRing$Numbering.prepare(II)V ===== -/
abbrev uX4_prepare (cI cJ : ClassId) (a_this : Nat) (a_lowStarts : Nat) (a_highNumbers : Nat) (a_mixtureSizes : Nat) (i_lowBits : Int32) (i_all : Int32) (g_mixtureSizes : Nat → Int32) (g_highNumbers : Nat → Int32) (g_lowStarts : Nat → Int32) : va_W := [(a_this, .inr (4, [.ref a_lowStarts, .ref a_highNumbers, .ref a_mixtureSizes, .int i_lowBits, .int i_all])), (a_mixtureSizes, .inl (cI, 125, .inl g_mixtureSizes)), (a_highNumbers, .inl (cI, 256, .inl g_highNumbers)), (a_lowStarts, .inl (cI, 1024, .inl g_lowStarts))]
def rX4_prepare : Room := { frames := 3, cells := 0, slots := 0, locals := 69 }
theorem hdX4_prepare : yX4_prepare.cls = RX4 ∧ yX4_prepare.cls ≠ "java/lang/invoke/MethodHandle" ∧ yX4_prepare.cls ≠ "java/lang/invoke/VarHandle" ∧ (parseMethodDescriptor yX4_prepare.desc).map (fun d => d.parameters.length) = some 2 := by decide +kernel
set_option maxRecDepth 20000 in
theorem jX4_prepare_X4 : ∀ w ∈ u_ws RX4 TX4 5, w ∈ wsX4_prepare := by decide +kernel
set_option maxRecDepth 20000 in
theorem qX4_prepare_18 : Cond.fieldLink RX4 18 "FrogsOnRing$Numbering" "mixtureSizes" "[I" ∈ wsX4_prepare := by decide +kernel
set_option maxRecDepth 20000 in
theorem qX4_prepare_27 : Cond.fieldLink RX4 27 "FrogsOnRing$Numbering" "lowBits" "I" ∈ wsX4_prepare := by decide +kernel
set_option maxRecDepth 20000 in
theorem qX4_prepare_l21 : Cond.methodLink RX4 21 Lib.Math.min.name ∈ wsX4_prepare := by decide +kernel
set_option maxRecDepth 20000 in
theorem qX4_prepare_mi : Cond.initialized "java/lang/Math" ∈ wsX4_prepare := by decide +kernel
set_option maxRecDepth 20000 in
theorem qX4_prepare_minc : Cond.code Lib.Math.min.name Lib.Math.min.code 2 (some .int) ∈ wsX4_prepare := by decide +kernel
set_option maxRecDepth 20000 in
theorem qX4_prepare_mins : Cond.static Lib.Math.min.name ∈ wsX4_prepare := by decide +kernel
set_option maxHeartbeats 4000000 in
set_option maxRecDepth 100000 in
theorem kX4_prepare_0 {p : Program} {l : Launch} {e : Env} {s : State} {m : MethodId} {args : Array Value} {below : List Frame} {meth : Method} {c : Code} {Q : State → Prop} {A : Nat → Prop} {D : va_G} {cI cJ : ClassId} (C : bC cX4_prepare 4 RX4 wsX4_prepare D cI cJ p s m args c meth A)
    {a_this : Nat} {a_lowStarts : Nat} {a_highNumbers : Nat} {a_mixtureSizes : Nat} {i_lowBits : Int32} {i_all : Int32} {g_mixtureSizes : Nat → Int32} {g_highNumbers : Nat → Int32} {g_lowStarts : Nat → Int32} {z : Nat} {x1 : Int32} {x2 : Int32} {o : Int32 × (Nat → Int32) × (Nat → Int32) × (Nat → Int32) × Int32} (hf : fX4_prepare z x1 x2 g_mixtureSizes g_highNumbers i_lowBits g_lowStarts i_all = some o)
    (hrt : ∀ (H : Heap) (locs : List Loc) (ls : Array Slot) (pc : Nat), va_P D vwCl (uX4_prepare cI cJ a_this a_lowStarts a_highNumbers a_mixtureSizes o.1 o.2.2.2.2 o.2.1 o.2.2.1 o.2.2.2.1) H → va_D A (uX4_prepare cI cJ a_this a_lowStarts a_highNumbers a_mixtureSizes o.1 o.2.2.2.2 o.2.1 o.2.2.1 o.2.2.2.1) → va_S A s.heap H locs → decode cX4_prepare pc = .ok (.return_, 1) → W p l e rX4_prepare s m args below meth c H locs 0 0 Q (F0 m pc ls []))
    {H : Heap} {locs : List Loc} {ls : Array Slot} (hP : va_P D vwCl (uX4_prepare cI cJ a_this a_lowStarts a_highNumbers a_mixtureSizes i_lowBits i_all g_mixtureSizes g_highNumbers g_lowStarts) H) (hD : va_D A (uX4_prepare cI cJ a_this a_lowStarts a_highNumbers a_mixtureSizes i_lowBits i_all g_mixtureSizes g_highNumbers g_lowStarts)) (hS : va_S A s.heap H locs) (hl : lv_has ls 4 [(0, .ref a_this), (1, .int x1), (2, .int x2)]) : W p l e rX4_prepare s m args below meth c H locs 0 0 Q (F0 m 0 ls []) := by
  obtain ⟨hx, hb, hml, hown, hts, hK, hN, hA, hlocks⟩ := id C
  unfold fX4_prepare at hf
  refine lv_iload_n hx hb dX4_prepare_0 rfl (lv_at hl 2 rfl) ?_
  refine lv_iconst (v := 4) hx hb dX4_prepare_1 (by decide) ?_
  refine lw_mmin hx hb (hml.trans hl.1.symm) hown (hts _ qX4_prepare_l21) (hts _ qX4_prepare_mins) (hts _ qX4_prepare_mi) (hts _ qX4_prepare_minc) (Nat.le_of_ble_eq_true rfl) (Nat.le_of_ble_eq_true rfl) (Nat.zero_le _) (Nat.zero_le _) dX4_prepare_2 ?_
  refine lv_istore_n (lv' := [(3, .int (i_min x2 4)), (0, .ref a_this), (1, .int x1), (2, .int x2)]) hx hb dX4_prepare_5 rfl hl (by decide) rfl (fun ls hl => ?_)
  refine lv_aload_n hx hb dX4_prepare_6 rfl (lv_at hl 1 rfl) ?_
  refine lv_iconst (v := 2) hx hb dX4_prepare_7 (by decide) ?_
  refine lv_iload_n hx hb dX4_prepare_8 rfl (lv_at hl 3 rfl) ?_
  refine lv_iload_n hx hb dX4_prepare_9 rfl (lv_at hl 0 rfl) ?_
  refine lv_isub hx hb dX4_prepare_10 ?_
  refine lv_imul hx hb dX4_prepare_11 ?_
  refine va_put (D := D) (ci := 4) (v := .int (2 * (x2 - (i_min x2 4)))) (ty := tyX4 3) (C := RX4) (T := TX4) (N := 5) hx hb hts jX4_prepare_X4 tyX4 tyX4_ok nmX4 hown hK hP hD hS 0 rfl rfl 3 (by decide) (hts _ qX4_prepare_27) (fun _ h9 => h9) rfl (tyX4_ok 3 (by decide)) rfl rfl (Nat.le_of_ble_eq_true rfl) dX4_prepare_12 (fun H locs hP hD hS => ?_)
  have hP : va_P D vwCl (uX4_prepare cI cJ a_this a_lowStarts a_highNumbers a_mixtureSizes (2 * (x2 - (i_min x2 4))) i_all g_mixtureSizes g_highNumbers g_lowStarts) H := hP
  have hD : va_D A (uX4_prepare cI cJ a_this a_lowStarts a_highNumbers a_mixtureSizes (2 * (x2 - (i_min x2 4))) i_all g_mixtureSizes g_highNumbers g_lowStarts) := hD
  refine lv_aload_n hx hb dX4_prepare_15 rfl (lv_at hl 1 rfl) ?_
  refine va_get (D := D) (ci := 4) (v := .ref a_mixtureSizes) (C := RX4) (T := TX4) (N := 5) hx hb hts jX4_prepare_X4 hown hK hP 0 rfl rfl 2 (by decide) (hts _ qX4_prepare_18) (fun _ h9 => h9) rfl dX4_prepare_16 ?_
  refine lv_iconst (v := 0) hx hb dX4_prepare_19 (by decide) ?_
  obtain ⟨q1, hq, hf⟩ := ob_some hf
  refine cl_v (wc := (uJ7_fill_53178 cI cJ a_mixtureSizes 125 g_mixtureSizes)) (w1 := (uJ7_fill_53178 cI cJ a_mixtureSizes 125 q1)) (rn_S (As := [.ref a_mixtureSizes, .int 0]) (rest := []) (wc := (uJ7_fill_53178 cI cJ a_mixtureSizes 125 g_mixtureSizes)) C hP hD [1] rfl rfl (mJ7_fill_53178 l D cI cJ H.size hq) 2 gX4_prepare_J7_fill_53178 rfl ⟨rfl, rfl, Nat.le_of_ble_eq_true rfl, Nat.le_of_ble_eq_true rfl⟩ hdJ7_fill_53178.2 rfl hl.1 rfl (Nat.le_of_ble_eq_true rfl) dX4_prepare_20) hP hD hS hA [1] rfl rfl (fun H locs hP hD hS => ?_)
  have hP : va_P D vwCl (uX4_prepare cI cJ a_this a_lowStarts a_highNumbers a_mixtureSizes (2 * (x2 - (i_min x2 4))) i_all q1 g_highNumbers g_lowStarts) H := hP
  have hD : va_D A (uX4_prepare cI cJ a_this a_lowStarts a_highNumbers a_mixtureSizes (2 * (x2 - (i_min x2 4))) i_all q1 g_highNumbers g_lowStarts) := hD
  refine lv_aload_n hx hb dX4_prepare_23 rfl (lv_at hl 1 rfl) ?_
  refine lv_iconst (v := 1) hx hb dX4_prepare_24 (by decide) ?_
  refine lv_iconst (v := 2) hx hb dX4_prepare_25 (by decide) ?_
  refine lv_iload_n hx hb dX4_prepare_26 rfl (lv_at hl 0 rfl) ?_
  refine lv_imul hx hb dX4_prepare_27 ?_
  refine lv_ishl hx hb dX4_prepare_28 ?_
  obtain ⟨q2, hq, hf⟩ := ob_some hf
  refine cl_v (wc := (uX4_numberHighs cI cJ a_this a_lowStarts a_highNumbers a_mixtureSizes (2 * (x2 - (i_min x2 4))) i_all q1 g_highNumbers)) (w1 := (uX4_numberHighs cI cJ a_this a_lowStarts a_highNumbers a_mixtureSizes (2 * (x2 - (i_min x2 4))) i_all q2.2 q2.1)) (rn_V (As := [.int ((1 : Int32) <<< ((2 * (i_min x2 4)) &&& 31))]) (b := a_this) (rest := []) (wc := (uX4_numberHighs cI cJ a_this a_lowStarts a_highNumbers a_mixtureSizes (2 * (x2 - (i_min x2 4))) i_all q1 g_highNumbers)) (ci := 4) (q0 := 0) C hP hD [0, 1, 2] rfl rfl rfl rfl (mX4_numberHighs l D cI cJ H.size hq) 1 gX4_prepare_X4_numberHighs rfl ⟨rfl, rfl, Nat.le_of_ble_eq_true rfl, Nat.le_of_ble_eq_true rfl⟩ hdX4_numberHighs rfl hl.1 rfl (Nat.le_of_ble_eq_true rfl) dX4_prepare_29) hP hD hS hA [0, 1, 2] rfl rfl (fun H locs hP hD hS => ?_)
  have hP : va_P D vwCl (uX4_prepare cI cJ a_this a_lowStarts a_highNumbers a_mixtureSizes (2 * (x2 - (i_min x2 4))) i_all q2.2 q2.1 g_lowStarts) H := hP
  have hD : va_D A (uX4_prepare cI cJ a_this a_lowStarts a_highNumbers a_mixtureSizes (2 * (x2 - (i_min x2 4))) i_all q2.2 q2.1 g_lowStarts) := hD
  refine lv_aload_n hx hb dX4_prepare_32 rfl (lv_at hl 1 rfl) ?_
  refine lv_iconst (v := 1) hx hb dX4_prepare_33 (by decide) ?_
  refine lv_aload_n hx hb dX4_prepare_34 rfl (lv_at hl 1 rfl) ?_
  refine va_get (D := D) (ci := 4) (v := .int (2 * (x2 - (i_min x2 4)))) (C := RX4) (T := TX4) (N := 5) hx hb hts jX4_prepare_X4 hown hK hP 0 rfl rfl 3 (by decide) (hts _ qX4_prepare_27) (fun _ h9 => h9) rfl dX4_prepare_35 ?_
  refine lv_ishl hx hb dX4_prepare_38 ?_
  refine lv_iload_n hx hb dX4_prepare_39 rfl (lv_at hl 2 rfl) ?_
  obtain ⟨q3, hq, hf⟩ := ob_some hf
  refine cl_v (wc := (uX4_numberLows cI cJ a_this a_lowStarts a_highNumbers a_mixtureSizes (2 * (x2 - (i_min x2 4))) i_all g_lowStarts q2.2)) (w1 := (uX4_numberLows cI cJ a_this a_lowStarts a_highNumbers a_mixtureSizes (2 * (x2 - (i_min x2 4))) q3.2 q3.1 q2.2)) (rn_V (As := [.int ((1 : Int32) <<< ((2 * (x2 - (i_min x2 4))) &&& 31)), .int x1]) (b := a_this) (rest := []) (wc := (uX4_numberLows cI cJ a_this a_lowStarts a_highNumbers a_mixtureSizes (2 * (x2 - (i_min x2 4))) i_all g_lowStarts q2.2)) (ci := 4) (q0 := 0) C hP hD [0, 3, 1] rfl rfl rfl rfl (mX4_numberLows l D cI cJ H.size hq) 2 gX4_prepare_X4_numberLows rfl ⟨rfl, rfl, Nat.le_of_ble_eq_true rfl, Nat.le_of_ble_eq_true rfl⟩ hdX4_numberLows rfl hl.1 rfl (Nat.le_of_ble_eq_true rfl) dX4_prepare_40) hP hD hS hA [0, 3, 1] rfl rfl (fun H locs hP hD hS => ?_)
  have hP : va_P D vwCl (uX4_prepare cI cJ a_this a_lowStarts a_highNumbers a_mixtureSizes (2 * (x2 - (i_min x2 4))) q3.2 q2.2 q2.1 q3.1) H := hP
  have hD : va_D A (uX4_prepare cI cJ a_this a_lowStarts a_highNumbers a_mixtureSizes (2 * (x2 - (i_min x2 4))) q3.2 q2.2 q2.1 q3.1) := hD
  have ho := Option.some.inj hf
  subst ho
  exact hrt H locs ls _ hP hD hS dX4_prepare_43
set_option maxHeartbeats 4000000 in
set_option maxRecDepth 100000 in
theorem mX4_prepare (l : Launch) (D : va_G) (cI cJ : ClassId) (sz : Nat) {a_this : Nat} {a_lowStarts : Nat} {a_highNumbers : Nat} {a_mixtureSizes : Nat} {i_lowBits : Int32} {i_all : Int32} {g_mixtureSizes : Nat → Int32} {g_highNumbers : Nat → Int32} {g_lowStarts : Nat → Int32} {z : Nat} {x1 : Int32} {x2 : Int32} {o : Int32 × (Nat → Int32) × (Nat → Int32) × (Nat → Int32) × Int32} (hf : fX4_prepare z x1 x2 g_mixtureSizes g_highNumbers i_lowBits g_lowStarts i_all = some o) : Met l yX4_prepare wsX4_prepare rX4_prepare (va_Pc [.ref a_this, .int x1, .int x2] (kP D cI cJ (uX4_prepare cI cJ a_this a_lowStarts a_highNumbers a_mixtureSizes i_lowBits i_all g_mixtureSizes g_highNumbers g_lowStarts) sz)) (va_Qv (fun (_ : Unit) => True) (fun _ t => kB D (va_A (uX4_prepare cI cJ a_this a_lowStarts a_highNumbers a_mixtureSizes i_lowBits i_all g_mixtureSizes g_highNumbers g_lowStarts) sz) (uX4_prepare cI cJ a_this a_lowStarts a_highNumbers a_mixtureSizes o.1 o.2.2.2.2 o.2.1 o.2.2.1 o.2.2.2.1) t) (va_A (uX4_prepare cI cJ a_this a_lowStarts a_highNumbers a_mixtureSizes i_lowBits i_all g_mixtureSizes g_highNumbers g_lowStarts) sz)) 0 0 (va_A (uX4_prepare cI cJ a_this a_lowStarts a_highNumbers a_mixtureSizes i_lowBits i_all g_mixtureSizes g_highNumbers g_lowStarts) sz) :=
  met_v (by decide) rfl (Nat.le_of_ble_eq_true rfl) (fun p e s m below meth c A Q C hrt ls hl hP hD hS => kX4_prepare_0 (A := A) C hf hrt hP hD hS hl)

/-! ===== FrogsOnRing$Page.byteOf(JI)I ===== -/
abbrev uX5_byteOf (cI cJ : ClassId) : va_W := []
def rX5_byteOf : Room := { frames := 0, cells := 0, slots := 0, locals := 0 }
theorem hdX5_byteOf : yX5_byteOf.cls = RX5 ∧ yX5_byteOf.cls ≠ "java/lang/invoke/MethodHandle" ∧ yX5_byteOf.cls ≠ "java/lang/invoke/VarHandle" ∧ (parseMethodDescriptor yX5_byteOf.desc).map (fun d => d.parameters.length) = some 2 := by decide +kernel
set_option maxHeartbeats 4000000 in
set_option maxRecDepth 100000 in
theorem kX5_byteOf_0 {p : Program} {l : Launch} {e : Env} {s : State} {m : MethodId} {args : Array Value} {below : List Frame} {meth : Method} {c : Code} {Q : State → Prop} {A : Nat → Prop} {D : va_G} {cI cJ : ClassId} (C : bC cX5_byteOf 3 RX5 wsX5_byteOf D cI cJ p s m args c meth A)
    {x0 : Int64} {x2 : Int32} {o : Int32} (hf : fX5_byteOf x0 x2 = o)
    (hrt : ∀ (H : Heap) (locs : List Loc) (ls : Array Slot) (pc : Nat), va_P D vwCl (uX5_byteOf cI cJ) H → va_D A (uX5_byteOf cI cJ) → va_S A s.heap H locs → decode cX5_byteOf pc = .ok (.ireturn, 1) → W p l e rX5_byteOf s m args below meth c H locs 0 0 Q (F0 m pc ls [.int o]))
    {H : Heap} {locs : List Loc} {ls : Array Slot} (hP : va_P D vwCl (uX5_byteOf cI cJ) H) (hD : va_D A (uX5_byteOf cI cJ)) (hS : va_S A s.heap H locs) (hl : lv_has ls 3 [(0, .long x0), (2, .int x2)]) : W p l e rX5_byteOf s m args below meth c H locs 0 0 Q (F0 m 0 ls []) := by
  obtain ⟨hx, hb, hml, hown, hts, hK, hN, hA, hlocks⟩ := id C
  unfold fX5_byteOf at hf
  refine lv_lload_n hx hb dX5_byteOf_0 rfl (lv_at hl 0 rfl) ?_
  refine lv_bipush (v := 8) hx hb dX5_byteOf_1 (by decide) ?_
  refine lv_iload_n hx hb dX5_byteOf_3 rfl (lv_at hl 1 rfl) ?_
  refine lv_imul hx hb dX5_byteOf_4 ?_
  refine lv_lushr (v := (l_ushr x0 (8 * x2))) hx hb dX5_byteOf_5 rfl ?_
  refine lv_l2i hx hb dX5_byteOf_6 rfl ?_
  refine lv_sipush (v := 255) hx hb dX5_byteOf_7 (by decide) ?_
  refine lv_iand hx hb dX5_byteOf_10 ?_
  subst hf
  exact hrt H locs ls _ hP hD hS dX5_byteOf_11
set_option maxHeartbeats 4000000 in
set_option maxRecDepth 100000 in
theorem mX5_byteOf (l : Launch) (D : va_G) (cI cJ : ClassId) (sz : Nat) {x0 : Int64} {x2 : Int32} : Met l yX5_byteOf wsX5_byteOf rX5_byteOf (va_Pc [.long x0, .int x2] (kP D cI cJ (uX5_byteOf cI cJ) sz)) (va_Qi (fun r' (_ : Unit) => r' = (fX5_byteOf x0 x2)) (fun _ t => kB D (va_A (uX5_byteOf cI cJ) sz) (uX5_byteOf cI cJ) t) (va_A (uX5_byteOf cI cJ) sz)) 0 0 (va_A (uX5_byteOf cI cJ) sz) :=
  met_i (by decide) rfl (Nat.le_of_ble_eq_true rfl) (fun p e s m below meth c A Q C hrt ls hl hP hD hS => kX5_byteOf_0 (A := A) C rfl hrt hP hD hS hl)

/-! ===== FrogsOnRing$Page.lettersIn(J)I ===== -/
abbrev uX5_lettersIn (cI cJ : ClassId) : va_W := []
def rX5_lettersIn : Room := { frames := 1, cells := 0, slots := 0, locals := 22 }
theorem hdX5_lettersIn : yX5_lettersIn.cls = RX5 ∧ yX5_lettersIn.cls ≠ "java/lang/invoke/MethodHandle" ∧ yX5_lettersIn.cls ≠ "java/lang/invoke/VarHandle" ∧ (parseMethodDescriptor yX5_lettersIn.desc).map (fun d => d.parameters.length) = some 1 := by decide +kernel
set_option maxHeartbeats 4000000 in
set_option maxRecDepth 100000 in
theorem kX5_lettersIn_J41 {p : Program} {l : Launch} {e : Env} {s : State} {m : MethodId} {args : Array Value} {below : List Frame} {meth : Method} {c : Code} {Q : State → Prop} {A : Nat → Prop} {D : va_G} {cI cJ : ClassId} (C : bC cX5_lettersIn 6 RX5 wsX5_lettersIn D cI cJ p s m args c meth A)
    {z : Nat} {x0 : Int64} {x2 : Int32} {x3 : Int32} {x4 : Int32} {x5 : Int32} {o : (Int32 × Int32 × Int32) ⊕ ((Int32) ⊕ (Int32))} (hf : fX5_lettersIn_J41 z x0 x2 x3 x4 x5 = some o)
    (hbk : ∀ s', o = .inl s' → ∀ (H : Heap) (locs : List Loc) (ls : Array Slot), va_P D vwCl (uX5_lettersIn cI cJ) H → va_D A (uX5_lettersIn cI cJ) → va_S A s.heap H locs → lv_has ls 6 [(0, .long x0), (2, .int s'.1), (3, .int s'.2.1), (4, .int s'.2.2)] → W p l e rX5_lettersIn s m args below meth c H locs 0 0 Q (F0 m 7 ls []))
    (hex : ∀ e', o = .inr (.inl e') → ∀ (H : Heap) (locs : List Loc) (ls : Array Slot), va_P D vwCl (uX5_lettersIn cI cJ) H → va_D A (uX5_lettersIn cI cJ) → va_S A s.heap H locs → lv_has ls 6 [(2, .int e')] → W p l e rX5_lettersIn s m args below meth c H locs 0 0 Q (F0 m 60 ls []))
    (hrt : ∀ r', o = .inr (.inr r') → ∀ (H : Heap) (locs : List Loc) (ls : Array Slot) (pc : Nat), va_P D vwCl (uX5_lettersIn cI cJ) H → va_D A (uX5_lettersIn cI cJ) → va_S A s.heap H locs → decode cX5_lettersIn pc = .ok (.ireturn, 1) → W p l e rX5_lettersIn s m args below meth c H locs 0 0 Q (F0 m pc ls [.int r']))
    {H : Heap} {locs : List Loc} {ls : Array Slot} (hP : va_P D vwCl (uX5_lettersIn cI cJ) H) (hD : va_D A (uX5_lettersIn cI cJ)) (hS : va_S A s.heap H locs) (hl : lv_has ls 6 [(0, .long x0), (2, .int x2), (3, .int x3), (4, .int x4), (5, .int x5)]) : W p l e rX5_lettersIn s m args below meth c H locs 0 0 Q (F0 m 41 ls []) := by
  obtain ⟨hx, hb, hml, hown, hts, hK, hN, hA, hlocks⟩ := id C
  unfold fX5_lettersIn_J41 at hf
  refine lv_iload hx hb dX5_lettersIn_41 (lv_at hl 4 rfl) ?_
  refine lv_if_ne (tgt := 51) hx hb dX5_lettersIn_43 (by decide) (fun hc => ?_) (fun hc => ?_)
  · have hf := if_no hc hf
    refine lv_iinc (v := (x2 + 1)) (lv' := [(2, .int (x2 + 1)), (0, .long x0), (3, .int x3), (4, .int x4), (5, .int x5)]) hx hb dX5_lettersIn_51 hl (k := 1) rfl rfl (by decide) rfl (fun ls hl => ?_)
    refine lv_iinc (v := (x4 + 1)) (lv' := [(4, .int (x4 + 1)), (2, .int (x2 + 1)), (0, .long x0), (3, .int x3), (5, .int x5)]) hx hb dX5_lettersIn_54 hl (k := 3) rfl rfl (by decide) rfl (fun ls hl => ?_)
    refine lv_goto (tgt := 7) hx hb dX5_lettersIn_57 (by decide) ?_
    have ho := Option.some.inj hf
    subst ho
    exact hbk _ rfl _ _ _ hP hD hS (lv_sub hl [2, 1, 3, 0] rfl)
  · have hf := if_yes hc hf
    refine lv_iconst (v := 1) hx hb dX5_lettersIn_46 (by decide) ?_
    refine lv_istore_n (lv' := [(3, .int 1), (0, .long x0), (2, .int x2), (4, .int x4), (5, .int x5)]) hx hb dX5_lettersIn_47 rfl hl (by decide) rfl (fun ls hl => ?_)
    refine lv_goto (tgt := 54) hx hb dX5_lettersIn_48 (by decide) ?_
    refine lv_iinc (v := (x4 + 1)) (lv' := [(4, .int (x4 + 1)), (3, .int 1), (0, .long x0), (2, .int x2), (5, .int x5)]) hx hb dX5_lettersIn_54 hl (k := 3) rfl rfl (by decide) rfl (fun ls hl => ?_)
    refine lv_goto (tgt := 7) hx hb dX5_lettersIn_57 (by decide) ?_
    have ho := Option.some.inj hf
    subst ho
    exact hbk _ rfl _ _ _ hP hD hS (lv_sub hl [2, 3, 1, 0] rfl)
set_option maxHeartbeats 4000000 in
set_option maxRecDepth 100000 in
theorem kX5_lettersIn_L7 {p : Program} {l : Launch} {e : Env} {s : State} {m : MethodId} {args : Array Value} {below : List Frame} {meth : Method} {c : Code} {Q : State → Prop} {A : Nat → Prop} {D : va_G} {cI cJ : ClassId} (C : bC cX5_lettersIn 6 RX5 wsX5_lettersIn D cI cJ p s m args c meth A)
    {z : Nat} {x0 : Int64} {x2 : Int32} {x3 : Int32} {x4 : Int32} {o : (Int32 × Int32 × Int32) ⊕ ((Int32) ⊕ (Int32))} (hf : fX5_lettersIn_L7 z x0 x2 x3 x4 = some o)
    (hbk : ∀ s', o = .inl s' → ∀ (H : Heap) (locs : List Loc) (ls : Array Slot), va_P D vwCl (uX5_lettersIn cI cJ) H → va_D A (uX5_lettersIn cI cJ) → va_S A s.heap H locs → lv_has ls 6 [(0, .long x0), (2, .int s'.1), (3, .int s'.2.1), (4, .int s'.2.2)] → W p l e rX5_lettersIn s m args below meth c H locs 0 0 Q (F0 m 7 ls []))
    (hex : ∀ e', o = .inr (.inl e') → ∀ (H : Heap) (locs : List Loc) (ls : Array Slot), va_P D vwCl (uX5_lettersIn cI cJ) H → va_D A (uX5_lettersIn cI cJ) → va_S A s.heap H locs → lv_has ls 6 [(2, .int e')] → W p l e rX5_lettersIn s m args below meth c H locs 0 0 Q (F0 m 60 ls []))
    (hrt : ∀ r', o = .inr (.inr r') → ∀ (H : Heap) (locs : List Loc) (ls : Array Slot) (pc : Nat), va_P D vwCl (uX5_lettersIn cI cJ) H → va_D A (uX5_lettersIn cI cJ) → va_S A s.heap H locs → decode cX5_lettersIn pc = .ok (.ireturn, 1) → W p l e rX5_lettersIn s m args below meth c H locs 0 0 Q (F0 m pc ls [.int r']))
    {H : Heap} {locs : List Loc} {ls : Array Slot} (hP : va_P D vwCl (uX5_lettersIn cI cJ) H) (hD : va_D A (uX5_lettersIn cI cJ)) (hS : va_S A s.heap H locs) (hl : lv_has ls 6 [(0, .long x0), (2, .int x2), (3, .int x3), (4, .int x4)]) : W p l e rX5_lettersIn s m args below meth c H locs 0 0 Q (F0 m 7 ls []) := by
  obtain ⟨hx, hb, hml, hown, hts, hK, hN, hA, hlocks⟩ := id C
  unfold fX5_lettersIn_L7 at hf
  refine lv_iload hx hb dX5_lettersIn_7 (lv_at hl 3 rfl) ?_
  refine lv_bipush (v := 8) hx hb dX5_lettersIn_9 (by decide) ?_
  refine lv_icmp_ge (tgt := 60) hx hb dX5_lettersIn_11 (by decide) (fun hc => ?_) (fun hc => ?_)
  · have hf := if_yes hc hf
    have ho := Option.some.inj hf
    subst ho
    exact hex _ rfl _ _ _ hP hD hS (lv_sub hl [1] rfl)
  · have hf := if_no hc hf
    refine lv_lload_n hx hb dX5_lettersIn_14 rfl (lv_at hl 0 rfl) ?_
    refine lv_iload hx hb dX5_lettersIn_15 (lv_at hl 3 rfl) ?_
    refine cl_i (wc := (uX5_byteOf cI cJ)) (w1 := (uX5_byteOf cI cJ)) (rn_S (As := [.long x0, .int x4]) (rest := []) (wc := (uX5_byteOf cI cJ)) C hP hD [] rfl rfl (mX5_byteOf l D cI cJ H.size) 2 gX5_lettersIn_X5_byteOf rfl ⟨rfl, rfl, Nat.le_of_ble_eq_true rfl, Nat.le_of_ble_eq_true rfl⟩ hdX5_byteOf.2 rfl hl.1 rfl (Nat.le_of_ble_eq_true rfl) dX5_lettersIn_17) hP hD hS hA [] rfl rfl (fun H locs hP hD hS => ?_)
    have hP : va_P D vwCl (uX5_lettersIn cI cJ) H := hP
    have hD : va_D A (uX5_lettersIn cI cJ) := hD
    refine lv_istore (lv' := [(5, .int (fX5_byteOf x0 x4)), (0, .long x0), (2, .int x2), (3, .int x3), (4, .int x4)]) hx hb dX5_lettersIn_20 hl (by decide) rfl (fun ls hl => ?_)
    refine lv_iload hx hb dX5_lettersIn_22 (lv_at hl 0 rfl) ?_
    refine lv_bipush (v := 126) hx hb dX5_lettersIn_24 (by decide) ?_
    refine lv_icmp_gt (tgt := 38) hx hb dX5_lettersIn_26 (by decide) (fun hc => ?_) (fun hc => ?_)
    · have hf := if_yes hc hf
      refine lv_bipush (v := (-102)) hx hb dX5_lettersIn_38 (by decide) ?_
      have ho := Option.some.inj hf
      subst ho
      exact hrt _ rfl H locs ls _ hP hD hS dX5_lettersIn_40
    · have hf := if_no hc hf
      refine lv_iload_n hx hb dX5_lettersIn_29 rfl (lv_at hl 3 rfl) ?_
      refine lv_if_eq (tgt := 41) hx hb dX5_lettersIn_30 (by decide) (fun hc => ?_) (fun hc => ?_)
      · have hf := if_yes hc hf
        exact kX5_lettersIn_J41 C hf hbk hex hrt hP hD hS (lv_sub hl [1, 2, 3, 4, 0] rfl)
      · have hf := if_no hc hf
        refine lv_iload hx hb dX5_lettersIn_33 (lv_at hl 0 rfl) ?_
        refine lv_if_eq (tgt := 41) hx hb dX5_lettersIn_35 (by decide) (fun hc => ?_) (fun hc => ?_)
        · have hf := if_yes hc hf
          exact kX5_lettersIn_J41 C hf hbk hex hrt hP hD hS (lv_sub hl [1, 2, 3, 4, 0] rfl)
        · have hf := if_no hc hf
          refine lv_bipush (v := (-102)) hx hb dX5_lettersIn_38 (by decide) ?_
          have ho := Option.some.inj hf
          subst ho
          exact hrt _ rfl H locs ls _ hP hD hS dX5_lettersIn_40
set_option maxHeartbeats 4000000 in
set_option maxRecDepth 100000 in
theorem kX5_lettersIn_J60 {p : Program} {l : Launch} {e : Env} {s : State} {m : MethodId} {args : Array Value} {below : List Frame} {meth : Method} {c : Code} {Q : State → Prop} {A : Nat → Prop} {D : va_G} {cI cJ : ClassId} (C : bC cX5_lettersIn 6 RX5 wsX5_lettersIn D cI cJ p s m args c meth A)
    {z : Nat} {x2 : Int32} {o : Int32} (hf : fX5_lettersIn_J60 z x2 = some o)
    (hrt : ∀ (H : Heap) (locs : List Loc) (ls : Array Slot) (pc : Nat), va_P D vwCl (uX5_lettersIn cI cJ) H → va_D A (uX5_lettersIn cI cJ) → va_S A s.heap H locs → decode cX5_lettersIn pc = .ok (.ireturn, 1) → W p l e rX5_lettersIn s m args below meth c H locs 0 0 Q (F0 m pc ls [.int o]))
    {H : Heap} {locs : List Loc} {ls : Array Slot} (hP : va_P D vwCl (uX5_lettersIn cI cJ) H) (hD : va_D A (uX5_lettersIn cI cJ)) (hS : va_S A s.heap H locs) (hl : lv_has ls 6 [(2, .int x2)]) : W p l e rX5_lettersIn s m args below meth c H locs 0 0 Q (F0 m 60 ls []) := by
  obtain ⟨hx, hb, hml, hown, hts, hK, hN, hA, hlocks⟩ := id C
  unfold fX5_lettersIn_J60 at hf
  refine lv_iload_n hx hb dX5_lettersIn_60 rfl (lv_at hl 0 rfl) ?_
  have ho := Option.some.inj hf
  subst ho
  exact hrt H locs ls _ hP hD hS dX5_lettersIn_61
set_option maxHeartbeats 4000000 in
set_option maxRecDepth 100000 in
theorem kX5_lettersIn_0 {p : Program} {l : Launch} {e : Env} {s : State} {m : MethodId} {args : Array Value} {below : List Frame} {meth : Method} {c : Code} {Q : State → Prop} {A : Nat → Prop} {D : va_G} {cI cJ : ClassId} (C : bC cX5_lettersIn 6 RX5 wsX5_lettersIn D cI cJ p s m args c meth A)
    {z : Nat} {x0 : Int64} {o : Int32} (hf : fX5_lettersIn z x0 = some o)
    (hrt : ∀ (H : Heap) (locs : List Loc) (ls : Array Slot) (pc : Nat), va_P D vwCl (uX5_lettersIn cI cJ) H → va_D A (uX5_lettersIn cI cJ) → va_S A s.heap H locs → decode cX5_lettersIn pc = .ok (.ireturn, 1) → W p l e rX5_lettersIn s m args below meth c H locs 0 0 Q (F0 m pc ls [.int o]))
    {H : Heap} {locs : List Loc} {ls : Array Slot} (hP : va_P D vwCl (uX5_lettersIn cI cJ) H) (hD : va_D A (uX5_lettersIn cI cJ)) (hS : va_S A s.heap H locs) (hl : lv_has ls 6 [(0, .long x0)]) : W p l e rX5_lettersIn s m args below meth c H locs 0 0 Q (F0 m 0 ls []) := by
  obtain ⟨hx, hb, hml, hown, hts, hK, hN, hA, hlocks⟩ := id C
  unfold fX5_lettersIn at hf
  refine lv_iconst (v := 0) hx hb dX5_lettersIn_0 (by decide) ?_
  refine lv_istore_n (lv' := [(2, .int 0), (0, .long x0)]) hx hb dX5_lettersIn_1 rfl hl (by decide) rfl (fun ls hl => ?_)
  refine lv_iconst (v := 0) hx hb dX5_lettersIn_2 (by decide) ?_
  refine lv_istore_n (lv' := [(3, .int 0), (2, .int 0), (0, .long x0)]) hx hb dX5_lettersIn_3 rfl hl (by decide) rfl (fun ls hl => ?_)
  refine lv_iconst (v := 0) hx hb dX5_lettersIn_4 (by decide) ?_
  refine lv_istore (lv' := [(4, .int 0), (3, .int 0), (2, .int 0), (0, .long x0)]) hx hb dX5_lettersIn_5 hl (by decide) rfl (fun ls hl => ?_)
  obtain ⟨ex, hlp, hf⟩ := ob_some hf
  refine lp_ind (P := fun sg => ∀ (H : Heap) (locs : List Loc) (ls : Array Slot), va_P D vwCl (uX5_lettersIn cI cJ) H → va_D A (uX5_lettersIn cI cJ) → va_S A s.heap H locs → lv_has ls 6 [(0, .long x0), (2, .int sg.1), (3, .int sg.2.1), (4, .int sg.2.2)] → W p l e rX5_lettersIn s m args below meth c H locs 0 0 Q (F0 m 7 ls [])) ?_ z _ hlp H locs ls hP hD hS (lv_sub hl [3, 2, 1, 0] rfl)
  intro sg og hbo hback hexit H locs ls hP hD hS hl
  refine kX5_lettersIn_L7 C hbo (fun s' h => hback s' h) (fun ex h H locs ls hP hD hS hl => ?_) (fun rr h H locs ls pc hP hD hS hdg => ?_) hP hD hS hl
  · have he := hexit _ h
    subst he
    simp only [Sum.elim_inl] at hf
    exact kX5_lettersIn_J60 C hf hrt hP hD hS (lv_sub hl [0] rfl)
  · have he := hexit _ h
    subst he
    simp only [Sum.elim_inr] at hf
    have ho := Option.some.inj hf
    subst ho
    exact hrt H locs ls pc hP hD hS hdg
set_option maxHeartbeats 4000000 in
set_option maxRecDepth 100000 in
theorem mX5_lettersIn (l : Launch) (D : va_G) (cI cJ : ClassId) (sz : Nat) {z : Nat} {x0 : Int64} {o : Int32} (hf : fX5_lettersIn z x0 = some o) : Met l yX5_lettersIn wsX5_lettersIn rX5_lettersIn (va_Pc [.long x0] (kP D cI cJ (uX5_lettersIn cI cJ) sz)) (va_Qi (fun r' (_ : Unit) => r' = o) (fun _ t => kB D (va_A (uX5_lettersIn cI cJ) sz) (uX5_lettersIn cI cJ) t) (va_A (uX5_lettersIn cI cJ) sz)) 0 0 (va_A (uX5_lettersIn cI cJ) sz) :=
  met_i (by decide) rfl (Nat.le_of_ble_eq_true rfl) (fun p e s m below meth c A Q C hrt ls hl hP hD hS => kX5_lettersIn_0 (A := A) C hf hrt hP hD hS hl)

/-! ===== FrogsOnRing$Page.append(JI)V ===== -/
abbrev uX5_append (cI cJ : ClassId) (a_this : Nat) (a_codes : Nat) (i_size : Int32) (g_codes : Nat → Int32) : va_W := [(a_this, .inr (5, [.ref a_codes, .int i_size])), (a_codes, .inl (cI, 24, .inl g_codes))]
def rX5_append : Room := { frames := 1, cells := 0, slots := 0, locals := 22 }
theorem hdX5_append : yX5_append.cls = RX5 ∧ yX5_append.cls ≠ "java/lang/invoke/MethodHandle" ∧ yX5_append.cls ≠ "java/lang/invoke/VarHandle" ∧ (parseMethodDescriptor yX5_append.desc).map (fun d => d.parameters.length) = some 2 := by decide +kernel
set_option maxRecDepth 20000 in
theorem jX5_append_X5 : ∀ w ∈ u_ws RX5 TX5 2, w ∈ wsX5_append := by decide +kernel
set_option maxRecDepth 20000 in
theorem qX5_append_19 : Cond.fieldLink RX5 19 "FrogsOnRing$Page" "size" "I" ∈ wsX5_append := by decide +kernel
set_option maxRecDepth 20000 in
theorem qX5_append_9 : Cond.fieldLink RX5 9 "FrogsOnRing$Page" "codes" "[I" ∈ wsX5_append := by decide +kernel
set_option maxHeartbeats 4000000 in
set_option maxRecDepth 100000 in
theorem kX5_append_L3 {p : Program} {l : Launch} {e : Env} {s : State} {m : MethodId} {args : Array Value} {below : List Frame} {meth : Method} {c : Code} {Q : State → Prop} {A : Nat → Prop} {D : va_G} {cI cJ : ClassId} (C : bC cX5_append 5 RX5 wsX5_append D cI cJ p s m args c meth A)
    {a_this : Nat} {a_codes : Nat} {i_size : Int32} {g_codes : Nat → Int32} {z : Nat} {x1 : Int64} {x3 : Int32} {x4 : Int32} {o : (Int32 × (Nat → Int32) × Int32) ⊕ ((Nat → Int32) × Int32)} (hf : fX5_append_L3 z x1 x3 x4 i_size g_codes = some o)
    (hbk : ∀ s', o = .inl s' → ∀ (H : Heap) (locs : List Loc) (ls : Array Slot), va_P D vwCl (uX5_append cI cJ a_this a_codes s'.2.2 s'.2.1) H → va_D A (uX5_append cI cJ a_this a_codes s'.2.2 s'.2.1) → va_S A s.heap H locs → lv_has ls 5 [(0, .ref a_this), (1, .long x1), (3, .int x3), (4, .int s'.1)] → W p l e rX5_append s m args below meth c H locs 0 0 Q (F0 m 3 ls []))
    (hex : ∀ e', o = .inr e' → ∀ (H : Heap) (locs : List Loc) (ls : Array Slot), va_P D vwCl (uX5_append cI cJ a_this a_codes e'.2 e'.1) H → va_D A (uX5_append cI cJ a_this a_codes e'.2 e'.1) → va_S A s.heap H locs → lv_has ls 5 [] → W p l e rX5_append s m args below meth c H locs 0 0 Q (F0 m 49 ls []))
    {H : Heap} {locs : List Loc} {ls : Array Slot} (hP : va_P D vwCl (uX5_append cI cJ a_this a_codes i_size g_codes) H) (hD : va_D A (uX5_append cI cJ a_this a_codes i_size g_codes)) (hS : va_S A s.heap H locs) (hl : lv_has ls 5 [(0, .ref a_this), (1, .long x1), (3, .int x3), (4, .int x4)]) : W p l e rX5_append s m args below meth c H locs 0 0 Q (F0 m 3 ls []) := by
  obtain ⟨hx, hb, hml, hown, hts, hK, hN, hA, hlocks⟩ := id C
  unfold fX5_append_L3 at hf
  refine lv_iload hx hb dX5_append_3 (lv_at hl 3 rfl) ?_
  refine lv_iload_n hx hb dX5_append_5 rfl (lv_at hl 2 rfl) ?_
  refine lv_icmp_ge (tgt := 49) hx hb dX5_append_6 (by decide) (fun hc => ?_) (fun hc => ?_)
  · have hf := if_yes hc hf
    have ho := Option.some.inj hf
    subst ho
    exact hex _ rfl _ _ _ hP hD hS (lv_sub hl [] rfl)
  · have hf := if_no hc hf
    refine lv_aload_n hx hb dX5_append_9 rfl (lv_at hl 0 rfl) ?_
    refine va_get (D := D) (ci := 5) (v := .int i_size) (C := RX5) (T := TX5) (N := 2) hx hb hts jX5_append_X5 hown hK hP 0 rfl rfl 1 (by decide) (hts _ qX5_append_19) (fun _ h9 => h9) rfl dX5_append_10 ?_
    refine lv_bipush (v := 24) hx hb dX5_append_13 (by decide) ?_
    refine lv_icmp_ge (tgt := 49) hx hb dX5_append_15 (by decide) (fun hc => ?_) (fun hc => ?_)
    · have hf := if_yes hc hf
      have ho := Option.some.inj hf
      subst ho
      exact hex _ rfl _ _ _ hP hD hS (lv_sub hl [] rfl)
    · have hf := if_no hc hf
      refine lv_aload_n hx hb dX5_append_18 rfl (lv_at hl 0 rfl) ?_
      refine va_get (D := D) (ci := 5) (v := .ref a_codes) (C := RX5) (T := TX5) (N := 2) hx hb hts jX5_append_X5 hown hK hP 0 rfl rfl 0 (by decide) (hts _ qX5_append_9) (fun _ h9 => h9) rfl dX5_append_19 ?_
      refine lv_aload_n hx hb dX5_append_22 rfl (lv_at hl 0 rfl) ?_
      refine va_get (D := D) (ci := 5) (v := .int i_size) (C := RX5) (T := TX5) (N := 2) hx hb hts jX5_append_X5 hown hK hP 0 rfl rfl 1 (by decide) (hts _ qX5_append_19) (fun _ h9 => h9) rfl dX5_append_23 ?_
      refine lv_lload_n hx hb dX5_append_26 rfl (lv_at hl 1 rfl) ?_
      refine lv_iload hx hb dX5_append_27 (lv_at hl 3 rfl) ?_
      refine cl_i (wc := (uX5_byteOf cI cJ)) (w1 := (uX5_byteOf cI cJ)) (rn_S (As := [.long x1, .int x4]) (rest := [.int i_size, .ref a_codes]) (wc := (uX5_byteOf cI cJ)) C hP hD [] rfl rfl (mX5_byteOf l D cI cJ H.size) 2 gX5_append_X5_byteOf rfl ⟨rfl, rfl, Nat.le_of_ble_eq_true rfl, Nat.le_of_ble_eq_true rfl⟩ hdX5_byteOf.2 rfl hl.1 rfl (Nat.le_of_ble_eq_true rfl) dX5_append_29) hP hD hS hA [] rfl rfl (fun H locs hP hD hS => ?_)
      have hP : va_P D vwCl (uX5_append cI cJ a_this a_codes i_size g_codes) H := hP
      have hD : va_D A (uX5_append cI cJ a_this a_codes i_size g_codes) := hD
      obtain ⟨hin, hf⟩ := agd_some hf
      refine va_iast hx hb hK hP hD hS 1 0 rfl rfl hin dX5_append_32 (fun H locs hP hD hS => ?_)
      have hP : va_P D vwCl (uX5_append cI cJ a_this a_codes i_size (upd g_codes i_size.toNatClampNeg (fX5_byteOf x1 x4))) H := hP
      have hD : va_D A (uX5_append cI cJ a_this a_codes i_size (upd g_codes i_size.toNatClampNeg (fX5_byteOf x1 x4))) := hD
      refine lv_aload_n hx hb dX5_append_33 rfl (lv_at hl 0 rfl) ?_
      refine lv_dup hx hb dX5_append_34 rfl ?_
      refine va_get (D := D) (ci := 5) (v := .int i_size) (C := RX5) (T := TX5) (N := 2) hx hb hts jX5_append_X5 hown hK hP 0 rfl rfl 1 (by decide) (hts _ qX5_append_19) (fun _ h9 => h9) rfl dX5_append_35 ?_
      refine lv_iconst (v := 1) hx hb dX5_append_38 (by decide) ?_
      refine lv_iadd hx hb dX5_append_39 ?_
      refine va_put (D := D) (ci := 5) (v := .int (i_size + 1)) (ty := tyX5 1) (C := RX5) (T := TX5) (N := 2) hx hb hts jX5_append_X5 tyX5 tyX5_ok nmX5 hown hK hP hD hS 0 rfl rfl 1 (by decide) (hts _ qX5_append_19) (fun _ h9 => h9) rfl (tyX5_ok 1 (by decide)) rfl rfl (Nat.le_of_ble_eq_true rfl) dX5_append_40 (fun H locs hP hD hS => ?_)
      have hP : va_P D vwCl (uX5_append cI cJ a_this a_codes (i_size + 1) (upd g_codes i_size.toNatClampNeg (fX5_byteOf x1 x4))) H := hP
      have hD : va_D A (uX5_append cI cJ a_this a_codes (i_size + 1) (upd g_codes i_size.toNatClampNeg (fX5_byteOf x1 x4))) := hD
      refine lv_iinc (v := (x4 + 1)) (lv' := [(4, .int (x4 + 1)), (0, .ref a_this), (1, .long x1), (3, .int x3)]) hx hb dX5_append_43 hl (k := 3) rfl rfl (by decide) rfl (fun ls hl => ?_)
      refine lv_goto (tgt := 3) hx hb dX5_append_46 (by decide) ?_
      have ho := Option.some.inj hf
      subst ho
      exact hbk _ rfl _ _ _ hP hD hS (lv_sub hl [1, 2, 3, 0] rfl)
set_option maxHeartbeats 4000000 in
set_option maxRecDepth 100000 in
theorem kX5_append_J49 {p : Program} {l : Launch} {e : Env} {s : State} {m : MethodId} {args : Array Value} {below : List Frame} {meth : Method} {c : Code} {Q : State → Prop} {A : Nat → Prop} {D : va_G} {cI cJ : ClassId} (C : bC cX5_append 5 RX5 wsX5_append D cI cJ p s m args c meth A)
    {a_this : Nat} {a_codes : Nat} {i_size : Int32} {g_codes : Nat → Int32} {z : Nat} {o : (Nat → Int32) × Int32} (hf : fX5_append_J49 z i_size g_codes = some o)
    (hrt : ∀ (H : Heap) (locs : List Loc) (ls : Array Slot) (pc : Nat), va_P D vwCl (uX5_append cI cJ a_this a_codes o.2 o.1) H → va_D A (uX5_append cI cJ a_this a_codes o.2 o.1) → va_S A s.heap H locs → decode cX5_append pc = .ok (.return_, 1) → W p l e rX5_append s m args below meth c H locs 0 0 Q (F0 m pc ls []))
    {H : Heap} {locs : List Loc} {ls : Array Slot} (hP : va_P D vwCl (uX5_append cI cJ a_this a_codes i_size g_codes) H) (hD : va_D A (uX5_append cI cJ a_this a_codes i_size g_codes)) (hS : va_S A s.heap H locs) (hl : lv_has ls 5 []) : W p l e rX5_append s m args below meth c H locs 0 0 Q (F0 m 49 ls []) := by
  obtain ⟨hx, hb, hml, hown, hts, hK, hN, hA, hlocks⟩ := id C
  unfold fX5_append_J49 at hf
  have ho := Option.some.inj hf
  subst ho
  exact hrt H locs ls _ hP hD hS dX5_append_49
set_option maxHeartbeats 4000000 in
set_option maxRecDepth 100000 in
theorem kX5_append_0 {p : Program} {l : Launch} {e : Env} {s : State} {m : MethodId} {args : Array Value} {below : List Frame} {meth : Method} {c : Code} {Q : State → Prop} {A : Nat → Prop} {D : va_G} {cI cJ : ClassId} (C : bC cX5_append 5 RX5 wsX5_append D cI cJ p s m args c meth A)
    {a_this : Nat} {a_codes : Nat} {i_size : Int32} {g_codes : Nat → Int32} {z : Nat} {x1 : Int64} {x3 : Int32} {o : (Nat → Int32) × Int32} (hf : fX5_append z x1 x3 i_size g_codes = some o)
    (hrt : ∀ (H : Heap) (locs : List Loc) (ls : Array Slot) (pc : Nat), va_P D vwCl (uX5_append cI cJ a_this a_codes o.2 o.1) H → va_D A (uX5_append cI cJ a_this a_codes o.2 o.1) → va_S A s.heap H locs → decode cX5_append pc = .ok (.return_, 1) → W p l e rX5_append s m args below meth c H locs 0 0 Q (F0 m pc ls []))
    {H : Heap} {locs : List Loc} {ls : Array Slot} (hP : va_P D vwCl (uX5_append cI cJ a_this a_codes i_size g_codes) H) (hD : va_D A (uX5_append cI cJ a_this a_codes i_size g_codes)) (hS : va_S A s.heap H locs) (hl : lv_has ls 5 [(0, .ref a_this), (1, .long x1), (3, .int x3)]) : W p l e rX5_append s m args below meth c H locs 0 0 Q (F0 m 0 ls []) := by
  obtain ⟨hx, hb, hml, hown, hts, hK, hN, hA, hlocks⟩ := id C
  unfold fX5_append at hf
  refine lv_iconst (v := 0) hx hb dX5_append_0 (by decide) ?_
  refine lv_istore (lv' := [(4, .int 0), (0, .ref a_this), (1, .long x1), (3, .int x3)]) hx hb dX5_append_1 hl (by decide) rfl (fun ls hl => ?_)
  obtain ⟨ex, hlp, hf⟩ := ob_some hf
  refine lp_ind (P := fun sg => ∀ (H : Heap) (locs : List Loc) (ls : Array Slot), va_P D vwCl (uX5_append cI cJ a_this a_codes sg.2.2 sg.2.1) H → va_D A (uX5_append cI cJ a_this a_codes sg.2.2 sg.2.1) → va_S A s.heap H locs → lv_has ls 5 [(0, .ref a_this), (1, .long x1), (3, .int x3), (4, .int sg.1)] → W p l e rX5_append s m args below meth c H locs 0 0 Q (F0 m 3 ls [])) ?_ z _ hlp H locs ls hP hD hS (lv_sub hl [1, 2, 3, 0] rfl)
  intro sg og hbo hback hexit H locs ls hP hD hS hl
  refine kX5_append_L3 C hbo (fun s' h => hback s' h) (fun ex h H locs ls hP hD hS hl => ?_) hP hD hS hl
  have he := hexit _ h
  subst he
  exact kX5_append_J49 C hf hrt hP hD hS (lv_sub hl [] rfl)
set_option maxHeartbeats 4000000 in
set_option maxRecDepth 100000 in
theorem mX5_append (l : Launch) (D : va_G) (cI cJ : ClassId) (sz : Nat) {a_this : Nat} {a_codes : Nat} {i_size : Int32} {g_codes : Nat → Int32} {z : Nat} {x1 : Int64} {x3 : Int32} {o : (Nat → Int32) × Int32} (hf : fX5_append z x1 x3 i_size g_codes = some o) : Met l yX5_append wsX5_append rX5_append (va_Pc [.ref a_this, .long x1, .int x3] (kP D cI cJ (uX5_append cI cJ a_this a_codes i_size g_codes) sz)) (va_Qv (fun (_ : Unit) => True) (fun _ t => kB D (va_A (uX5_append cI cJ a_this a_codes i_size g_codes) sz) (uX5_append cI cJ a_this a_codes o.2 o.1) t) (va_A (uX5_append cI cJ a_this a_codes i_size g_codes) sz)) 0 0 (va_A (uX5_append cI cJ a_this a_codes i_size g_codes) sz) :=
  met_v (by decide) rfl (Nat.le_of_ble_eq_true rfl) (fun p e s m below meth c A Q C hrt ls hl hP hD hS => kX5_append_0 (A := A) C hf hrt hP hD hS hl)

/-! ===== FrogsOnRing$Page.clear()V ===== -/
abbrev uX5_clear (cI cJ : ClassId) (a_this : Nat) (a_codes : Nat) (i_size : Int32) : va_W := [(a_this, .inr (5, [.ref a_codes, .int i_size]))]
def rX5_clear : Room := { frames := 0, cells := 0, slots := 0, locals := 0 }
theorem hdX5_clear : yX5_clear.cls = RX5 ∧ yX5_clear.cls ≠ "java/lang/invoke/MethodHandle" ∧ yX5_clear.cls ≠ "java/lang/invoke/VarHandle" ∧ (parseMethodDescriptor yX5_clear.desc).map (fun d => d.parameters.length) = some 0 := by decide +kernel
set_option maxRecDepth 20000 in
theorem jX5_clear_X5 : ∀ w ∈ u_ws RX5 TX5 2, w ∈ wsX5_clear := by decide +kernel
set_option maxRecDepth 20000 in
theorem qX5_clear_19 : Cond.fieldLink RX5 19 "FrogsOnRing$Page" "size" "I" ∈ wsX5_clear := by decide +kernel
set_option maxHeartbeats 4000000 in
set_option maxRecDepth 100000 in
theorem kX5_clear_0 {p : Program} {l : Launch} {e : Env} {s : State} {m : MethodId} {args : Array Value} {below : List Frame} {meth : Method} {c : Code} {Q : State → Prop} {A : Nat → Prop} {D : va_G} {cI cJ : ClassId} (C : bC cX5_clear 1 RX5 wsX5_clear D cI cJ p s m args c meth A)
    {a_this : Nat} {a_codes : Nat} {i_size : Int32} {o : Int32} (hf : fX5_clear i_size = o)
    (hrt : ∀ (H : Heap) (locs : List Loc) (ls : Array Slot) (pc : Nat), va_P D vwCl (uX5_clear cI cJ a_this a_codes o) H → va_D A (uX5_clear cI cJ a_this a_codes o) → va_S A s.heap H locs → decode cX5_clear pc = .ok (.return_, 1) → W p l e rX5_clear s m args below meth c H locs 0 0 Q (F0 m pc ls []))
    {H : Heap} {locs : List Loc} {ls : Array Slot} (hP : va_P D vwCl (uX5_clear cI cJ a_this a_codes i_size) H) (hD : va_D A (uX5_clear cI cJ a_this a_codes i_size)) (hS : va_S A s.heap H locs) (hl : lv_has ls 1 [(0, .ref a_this)]) : W p l e rX5_clear s m args below meth c H locs 0 0 Q (F0 m 0 ls []) := by
  obtain ⟨hx, hb, hml, hown, hts, hK, hN, hA, hlocks⟩ := id C
  unfold fX5_clear at hf
  refine lv_aload_n hx hb dX5_clear_0 rfl (lv_at hl 0 rfl) ?_
  refine lv_iconst (v := 0) hx hb dX5_clear_1 (by decide) ?_
  refine va_put (D := D) (ci := 5) (v := .int 0) (ty := tyX5 1) (C := RX5) (T := TX5) (N := 2) hx hb hts jX5_clear_X5 tyX5 tyX5_ok nmX5 hown hK hP hD hS 0 rfl rfl 1 (by decide) (hts _ qX5_clear_19) (fun _ h9 => h9) rfl (tyX5_ok 1 (by decide)) rfl rfl (Nat.le_of_ble_eq_true rfl) dX5_clear_2 (fun H locs hP hD hS => ?_)
  have hP : va_P D vwCl (uX5_clear cI cJ a_this a_codes 0) H := hP
  have hD : va_D A (uX5_clear cI cJ a_this a_codes 0) := hD
  subst hf
  exact hrt H locs ls _ hP hD hS dX5_clear_5
set_option maxHeartbeats 4000000 in
set_option maxRecDepth 100000 in
theorem mX5_clear (l : Launch) (D : va_G) (cI cJ : ClassId) (sz : Nat) {a_this : Nat} {a_codes : Nat} {i_size : Int32} : Met l yX5_clear wsX5_clear rX5_clear (va_Pc [.ref a_this] (kP D cI cJ (uX5_clear cI cJ a_this a_codes i_size) sz)) (va_Qv (fun (_ : Unit) => True) (fun _ t => kB D (va_A (uX5_clear cI cJ a_this a_codes i_size) sz) (uX5_clear cI cJ a_this a_codes (fX5_clear i_size)) t) (va_A (uX5_clear cI cJ a_this a_codes i_size) sz)) 0 0 (va_A (uX5_clear cI cJ a_this a_codes i_size) sz) :=
  met_v (by decide) rfl (Nat.le_of_ble_eq_true rfl) (fun p e s m below meth c A Q C hrt ls hl hP hD hS => kX5_clear_0 (A := A) C rfl hrt hP hD hS hl)

/-! ===== FrogsOnRing$Page.letterAt(I)I ===== -/
abbrev uX5_letterAt (cI cJ : ClassId) (a_this : Nat) (a_codes : Nat) (i_size : Int32) (g_codes : Nat → Int32) : va_W := [(a_this, .inr (5, [.ref a_codes, .int i_size])), (a_codes, .inl (cI, 24, .inl g_codes))]
def rX5_letterAt : Room := { frames := 0, cells := 0, slots := 0, locals := 0 }
theorem hdX5_letterAt : yX5_letterAt.cls = RX5 ∧ yX5_letterAt.cls ≠ "java/lang/invoke/MethodHandle" ∧ yX5_letterAt.cls ≠ "java/lang/invoke/VarHandle" ∧ (parseMethodDescriptor yX5_letterAt.desc).map (fun d => d.parameters.length) = some 1 := by decide +kernel
set_option maxRecDepth 20000 in
theorem jX5_letterAt_X5 : ∀ w ∈ u_ws RX5 TX5 2, w ∈ wsX5_letterAt := by decide +kernel
set_option maxRecDepth 20000 in
theorem qX5_letterAt_19 : Cond.fieldLink RX5 19 "FrogsOnRing$Page" "size" "I" ∈ wsX5_letterAt := by decide +kernel
set_option maxRecDepth 20000 in
theorem qX5_letterAt_9 : Cond.fieldLink RX5 9 "FrogsOnRing$Page" "codes" "[I" ∈ wsX5_letterAt := by decide +kernel
set_option maxHeartbeats 4000000 in
set_option maxRecDepth 100000 in
theorem kX5_letterAt_0 {p : Program} {l : Launch} {e : Env} {s : State} {m : MethodId} {args : Array Value} {below : List Frame} {meth : Method} {c : Code} {Q : State → Prop} {A : Nat → Prop} {D : va_G} {cI cJ : ClassId} (C : bC cX5_letterAt 2 RX5 wsX5_letterAt D cI cJ p s m args c meth A)
    {a_this : Nat} {a_codes : Nat} {i_size : Int32} {g_codes : Nat → Int32} {z : Nat} {x1 : Int32} {o : Int32} (hf : fX5_letterAt z x1 i_size g_codes = some o)
    (hrt : ∀ (H : Heap) (locs : List Loc) (ls : Array Slot) (pc : Nat), va_P D vwCl (uX5_letterAt cI cJ a_this a_codes i_size g_codes) H → va_D A (uX5_letterAt cI cJ a_this a_codes i_size g_codes) → va_S A s.heap H locs → decode cX5_letterAt pc = .ok (.ireturn, 1) → W p l e rX5_letterAt s m args below meth c H locs 0 0 Q (F0 m pc ls [.int o]))
    {H : Heap} {locs : List Loc} {ls : Array Slot} (hP : va_P D vwCl (uX5_letterAt cI cJ a_this a_codes i_size g_codes) H) (hD : va_D A (uX5_letterAt cI cJ a_this a_codes i_size g_codes)) (hS : va_S A s.heap H locs) (hl : lv_has ls 2 [(0, .ref a_this), (1, .int x1)]) : W p l e rX5_letterAt s m args below meth c H locs 0 0 Q (F0 m 0 ls []) := by
  obtain ⟨hx, hb, hml, hown, hts, hK, hN, hA, hlocks⟩ := id C
  unfold fX5_letterAt at hf
  refine lv_iload_n hx hb dX5_letterAt_0 rfl (lv_at hl 1 rfl) ?_
  refine lv_if_lt (tgt := 21) hx hb dX5_letterAt_1 (by decide) (fun hc => ?_) (fun hc => ?_)
  · have hf := if_yes hc hf
    refine lv_iconst (v := 0) hx hb dX5_letterAt_21 (by decide) ?_
    have ho := Option.some.inj hf
    subst ho
    exact hrt H locs ls _ hP hD hS dX5_letterAt_22
  · have hf := if_no hc hf
    refine lv_iload_n hx hb dX5_letterAt_4 rfl (lv_at hl 1 rfl) ?_
    refine lv_aload_n hx hb dX5_letterAt_5 rfl (lv_at hl 0 rfl) ?_
    refine va_get (D := D) (ci := 5) (v := .int i_size) (C := RX5) (T := TX5) (N := 2) hx hb hts jX5_letterAt_X5 hown hK hP 0 rfl rfl 1 (by decide) (hts _ qX5_letterAt_19) (fun _ h9 => h9) rfl dX5_letterAt_6 ?_
    refine lv_icmp_ge (tgt := 21) hx hb dX5_letterAt_9 (by decide) (fun hc => ?_) (fun hc => ?_)
    · have hf := if_yes hc hf
      refine lv_iconst (v := 0) hx hb dX5_letterAt_21 (by decide) ?_
      have ho := Option.some.inj hf
      subst ho
      exact hrt H locs ls _ hP hD hS dX5_letterAt_22
    · have hf := if_no hc hf
      refine lv_aload_n hx hb dX5_letterAt_12 rfl (lv_at hl 0 rfl) ?_
      refine va_get (D := D) (ci := 5) (v := .ref a_codes) (C := RX5) (T := TX5) (N := 2) hx hb hts jX5_letterAt_X5 hown hK hP 0 rfl rfl 0 (by decide) (hts _ qX5_letterAt_9) (fun _ h9 => h9) rfl dX5_letterAt_13 ?_
      refine lv_iload_n hx hb dX5_letterAt_16 rfl (lv_at hl 1 rfl) ?_
      obtain ⟨hin, hf⟩ := agd_some hf
      refine va_iald hx hb hK hP 1 0 rfl rfl hin dX5_letterAt_17 ?_
      refine lv_goto (tgt := 22) hx hb dX5_letterAt_18 (by decide) ?_
      have ho := Option.some.inj hf
      subst ho
      exact hrt H locs ls _ hP hD hS dX5_letterAt_22
set_option maxHeartbeats 4000000 in
set_option maxRecDepth 100000 in
theorem mX5_letterAt (l : Launch) (D : va_G) (cI cJ : ClassId) (sz : Nat) {a_this : Nat} {a_codes : Nat} {i_size : Int32} {g_codes : Nat → Int32} {z : Nat} {x1 : Int32} {o : Int32} (hf : fX5_letterAt z x1 i_size g_codes = some o) : Met l yX5_letterAt wsX5_letterAt rX5_letterAt (va_Pc [.ref a_this, .int x1] (kP D cI cJ (uX5_letterAt cI cJ a_this a_codes i_size g_codes) sz)) (va_Qi (fun r' (_ : Unit) => r' = o) (fun _ t => kB D (va_A (uX5_letterAt cI cJ a_this a_codes i_size g_codes) sz) (uX5_letterAt cI cJ a_this a_codes i_size g_codes) t) (va_A (uX5_letterAt cI cJ a_this a_codes i_size g_codes) sz)) 0 0 (va_A (uX5_letterAt cI cJ a_this a_codes i_size g_codes) sz) :=
  met_i (by decide) rfl (Nat.le_of_ble_eq_true rfl) (fun p e s m below meth c A Q C hrt ls hl hP hD hS => kX5_letterAt_0 (A := A) C hf hrt hP hD hS hl)

/-! ===== FrogsOnRing.kindOfLetter(I)I ===== -/
abbrev uX9_kindOfLetter (cI cJ : ClassId) : va_W := []
def rX9_kindOfLetter : Room := { frames := 0, cells := 0, slots := 0, locals := 0 }
theorem hdX9_kindOfLetter : yX9_kindOfLetter.cls = RX9 ∧ yX9_kindOfLetter.cls ≠ "java/lang/invoke/MethodHandle" ∧ yX9_kindOfLetter.cls ≠ "java/lang/invoke/VarHandle" ∧ (parseMethodDescriptor yX9_kindOfLetter.desc).map (fun d => d.parameters.length) = some 1 := by decide +kernel
set_option maxHeartbeats 4000000 in
set_option maxRecDepth 100000 in
theorem kX9_kindOfLetter_0 {p : Program} {l : Launch} {e : Env} {s : State} {m : MethodId} {args : Array Value} {below : List Frame} {meth : Method} {c : Code} {Q : State → Prop} {A : Nat → Prop} {D : va_G} {cI cJ : ClassId} (C : bC cX9_kindOfLetter 1 RX9 wsX9_kindOfLetter D cI cJ p s m args c meth A)
    {x0 : Int32} {o : Int32} (hf : fX9_kindOfLetter x0 = o)
    (hrt : ∀ (H : Heap) (locs : List Loc) (ls : Array Slot) (pc : Nat), va_P D vwCl (uX9_kindOfLetter cI cJ) H → va_D A (uX9_kindOfLetter cI cJ) → va_S A s.heap H locs → decode cX9_kindOfLetter pc = .ok (.ireturn, 1) → W p l e rX9_kindOfLetter s m args below meth c H locs 0 0 Q (F0 m pc ls [.int o]))
    {H : Heap} {locs : List Loc} {ls : Array Slot} (hP : va_P D vwCl (uX9_kindOfLetter cI cJ) H) (hD : va_D A (uX9_kindOfLetter cI cJ)) (hS : va_S A s.heap H locs) (hl : lv_has ls 1 [(0, .int x0)]) : W p l e rX9_kindOfLetter s m args below meth c H locs 0 0 Q (F0 m 0 ls []) := by
  obtain ⟨hx, hb, hml, hown, hts, hK, hN, hA, hlocks⟩ := id C
  unfold fX9_kindOfLetter at hf
  refine lv_iload_n hx hb dX9_kindOfLetter_0 rfl (lv_at hl 0 rfl) ?_
  by_cases hc0 : x0 = 46
  · have hf := if_yes hc0 hf
    refine lv_lookup (tgt := 44) (off := 43) hx hb dX9_kindOfLetter_1 (by decide) (by rw [hc0]; decide) (by decide) ?_
    refine lv_iconst (v := 0) hx hb dX9_kindOfLetter_44 (by decide) ?_
    subst hf
    exact hrt H locs ls _ hP hD hS dX9_kindOfLetter_45
  have hf := if_no hc0 hf
  by_cases hc1 : x0 = 98
  · have hf := if_yes hc1 hf
    refine lv_lookup (tgt := 48) (off := 47) hx hb dX9_kindOfLetter_1 (by decide) (by rw [hc1]; decide) (by decide) ?_
    refine lv_iconst (v := 2) hx hb dX9_kindOfLetter_48 (by decide) ?_
    subst hf
    exact hrt H locs ls _ hP hD hS dX9_kindOfLetter_49
  have hf := if_no hc1 hf
  by_cases hc2 : x0 = 103
  · have hf := if_yes hc2 hf
    refine lv_lookup (tgt := 46) (off := 45) hx hb dX9_kindOfLetter_1 (by decide) (by rw [hc2]; decide) (by decide) ?_
    refine lv_iconst (v := 1) hx hb dX9_kindOfLetter_46 (by decide) ?_
    subst hf
    exact hrt H locs ls _ hP hD hS dX9_kindOfLetter_47
  have hf := if_no hc2 hf
  by_cases hc3 : x0 = 121
  · have hf := if_yes hc3 hf
    refine lv_lookup (tgt := 50) (off := 49) hx hb dX9_kindOfLetter_1 (by decide) (by rw [hc3]; decide) (by decide) ?_
    refine lv_iconst (v := 3) hx hb dX9_kindOfLetter_50 (by decide) ?_
    subst hf
    exact hrt H locs ls _ hP hD hS dX9_kindOfLetter_51
  have hf := if_no hc3 hf
  have hd0 := tsw_ne hc0 (i := 46) (by decide)
  have hd1 := tsw_ne hc1 (i := 98) (by decide)
  have hd2 := tsw_ne hc2 (i := 103) (by decide)
  have hd3 := tsw_ne hc3 (i := 121) (by decide)
  refine lv_lookup (tgt := 52) (off := 51) hx hb dX9_kindOfLetter_1 (by decide) (by simp [Op.lookupswitch.offset, hd0, hd1, hd2, hd3]) (by decide) ?_
  refine lv_iconst (v := (-1)) hx hb dX9_kindOfLetter_52 (by decide) ?_
  subst hf
  exact hrt H locs ls _ hP hD hS dX9_kindOfLetter_53
set_option maxHeartbeats 4000000 in
set_option maxRecDepth 100000 in
theorem mX9_kindOfLetter (l : Launch) (D : va_G) (cI cJ : ClassId) (sz : Nat) {x0 : Int32} : Met l yX9_kindOfLetter wsX9_kindOfLetter rX9_kindOfLetter (va_Pc [.int x0] (kP D cI cJ (uX9_kindOfLetter cI cJ) sz)) (va_Qi (fun r' (_ : Unit) => r' = (fX9_kindOfLetter x0)) (fun _ t => kB D (va_A (uX9_kindOfLetter cI cJ) sz) (uX9_kindOfLetter cI cJ) t) (va_A (uX9_kindOfLetter cI cJ) sz)) 0 0 (va_A (uX9_kindOfLetter cI cJ) sz) :=
  met_i (by decide) rfl (Nat.le_of_ble_eq_true rfl) (fun p e s m below meth c A Q C hrt ls hl hP hD hS => kX9_kindOfLetter_0 (A := A) C rfl hrt hP hD hS hl)

/-! ===== FrogsOnRing$Page.orderAt(II)I ===== -/
abbrev uX5_orderAt (cI cJ : ClassId) (a_this : Nat) (a_codes : Nat) (i_size : Int32) (g_codes : Nat → Int32) : va_W := [(a_this, .inr (5, [.ref a_codes, .int i_size])), (a_codes, .inl (cI, 24, .inl g_codes))]
def rX5_orderAt : Room := { frames := 1, cells := 0, slots := 0, locals := 21 }
theorem hdX5_orderAt : yX5_orderAt.cls = RX5 ∧ yX5_orderAt.cls ≠ "java/lang/invoke/MethodHandle" ∧ yX5_orderAt.cls ≠ "java/lang/invoke/VarHandle" ∧ (parseMethodDescriptor yX5_orderAt.desc).map (fun d => d.parameters.length) = some 2 := by decide +kernel
set_option maxRecDepth 20000 in
theorem qX5_orderAt_iX9_kindOfLetter : Cond.initialized yX9_kindOfLetter.cls ∈ wsX5_orderAt := by decide +kernel
set_option maxRecDepth 20000 in
theorem qX5_orderAt_sX9_kindOfLetter : Cond.static yX9_kindOfLetter ∈ wsX5_orderAt := by decide +kernel
set_option maxHeartbeats 4000000 in
set_option maxRecDepth 100000 in
theorem kX5_orderAt_L5 {p : Program} {l : Launch} {e : Env} {s : State} {m : MethodId} {args : Array Value} {below : List Frame} {meth : Method} {c : Code} {Q : State → Prop} {A : Nat → Prop} {D : va_G} {cI cJ : ClassId} (C : bC cX5_orderAt 6 RX5 wsX5_orderAt D cI cJ p s m args c meth A)
    {a_this : Nat} {a_codes : Nat} {i_size : Int32} {g_codes : Nat → Int32} {z : Nat} {x1 : Int32} {x2 : Int32} {x3 : Int32} {x4 : Int32} {o : (Int32 × Int32) ⊕ (Int32)} (hf : fX5_orderAt_L5 z x1 x2 x3 x4 i_size g_codes = some o)
    (hbk : ∀ s', o = .inl s' → ∀ (H : Heap) (locs : List Loc) (ls : Array Slot), va_P D vwCl (uX5_orderAt cI cJ a_this a_codes i_size g_codes) H → va_D A (uX5_orderAt cI cJ a_this a_codes i_size g_codes) → va_S A s.heap H locs → lv_has ls 6 [(0, .ref a_this), (1, .int x1), (2, .int x2), (3, .int s'.1), (4, .int s'.2)] → W p l e rX5_orderAt s m args below meth c H locs 0 0 Q (F0 m 5 ls []))
    (hex : ∀ e', o = .inr e' → ∀ (H : Heap) (locs : List Loc) (ls : Array Slot), va_P D vwCl (uX5_orderAt cI cJ a_this a_codes i_size g_codes) H → va_D A (uX5_orderAt cI cJ a_this a_codes i_size g_codes) → va_S A s.heap H locs → lv_has ls 6 [(3, .int e')] → W p l e rX5_orderAt s m args below meth c H locs 0 0 Q (F0 m 45 ls []))
    {H : Heap} {locs : List Loc} {ls : Array Slot} (hP : va_P D vwCl (uX5_orderAt cI cJ a_this a_codes i_size g_codes) H) (hD : va_D A (uX5_orderAt cI cJ a_this a_codes i_size g_codes)) (hS : va_S A s.heap H locs) (hl : lv_has ls 6 [(0, .ref a_this), (1, .int x1), (2, .int x2), (3, .int x3), (4, .int x4)]) : W p l e rX5_orderAt s m args below meth c H locs 0 0 Q (F0 m 5 ls []) := by
  obtain ⟨hx, hb, hml, hown, hts, hK, hN, hA, hlocks⟩ := id C
  unfold fX5_orderAt_L5 at hf
  refine lv_iload hx hb dX5_orderAt_5 (lv_at hl 4 rfl) ?_
  refine lv_iload_n hx hb dX5_orderAt_7 rfl (lv_at hl 2 rfl) ?_
  refine lv_icmp_ge (tgt := 45) hx hb dX5_orderAt_8 (by decide) (fun hc => ?_) (fun hc => ?_)
  · have hf := if_yes hc hf
    have ho := Option.some.inj hf
    subst ho
    exact hex _ rfl _ _ _ hP hD hS (lv_sub hl [3] rfl)
  · have hf := if_no hc hf
    refine lv_aload_n hx hb dX5_orderAt_11 rfl (lv_at hl 0 rfl) ?_
    refine lv_iload_n hx hb dX5_orderAt_12 rfl (lv_at hl 1 rfl) ?_
    refine lv_iload hx hb dX5_orderAt_13 (lv_at hl 4 rfl) ?_
    refine lv_iadd hx hb dX5_orderAt_15 ?_
    obtain ⟨q1, hq, hf⟩ := ob_some hf
    refine cl_i (wc := (uX5_letterAt cI cJ a_this a_codes i_size g_codes)) (w1 := (uX5_letterAt cI cJ a_this a_codes i_size g_codes)) (rn_V (As := [.int (x1 + x4)]) (b := a_this) (rest := []) (wc := (uX5_letterAt cI cJ a_this a_codes i_size g_codes)) (ci := 5) (q0 := 0) C hP hD [0, 1] rfl rfl rfl rfl (mX5_letterAt l D cI cJ H.size hq) 1 gX5_orderAt_X5_letterAt rfl ⟨rfl, rfl, Nat.le_of_ble_eq_true rfl, Nat.le_of_ble_eq_true rfl⟩ hdX5_letterAt rfl hl.1 rfl (Nat.le_of_ble_eq_true rfl) dX5_orderAt_16) hP hD hS hA [0, 1] rfl rfl (fun H locs hP hD hS => ?_)
    have hP : va_P D vwCl (uX5_orderAt cI cJ a_this a_codes i_size g_codes) H := hP
    have hD : va_D A (uX5_orderAt cI cJ a_this a_codes i_size g_codes) := hD
    refine cl_i (wc := (uX9_kindOfLetter cI cJ)) (w1 := (uX9_kindOfLetter cI cJ)) (rn_N (As := [.int q1]) (rest := []) (wc := (uX9_kindOfLetter cI cJ)) C hP hD [] rfl rfl (mX9_kindOfLetter l D cI cJ H.size) 1 gX5_orderAt_X9_kindOfLetter_n27 qX5_orderAt_iX9_kindOfLetter qX5_orderAt_sX9_kindOfLetter 6 rfl rfl ⟨rfl, rfl, Nat.le_of_ble_eq_true rfl, Nat.le_of_ble_eq_true rfl⟩ hdX9_kindOfLetter.2 rfl hl.1 rfl (Nat.le_of_ble_eq_true rfl) dX5_orderAt_19) hP hD hS hA [] rfl rfl (fun H locs hP hD hS => ?_)
    have hP : va_P D vwCl (uX5_orderAt cI cJ a_this a_codes i_size g_codes) H := hP
    have hD : va_D A (uX5_orderAt cI cJ a_this a_codes i_size g_codes) := hD
    refine lv_istore (lv' := [(5, .int (fX9_kindOfLetter q1)), (0, .ref a_this), (1, .int x1), (2, .int x2), (3, .int x3), (4, .int x4)]) hx hb dX5_orderAt_22 hl (by decide) rfl (fun ls hl => ?_)
    refine lv_iload hx hb dX5_orderAt_24 (lv_at hl 0 rfl) ?_
    refine lv_if_le (tgt := 39) hx hb dX5_orderAt_26 (by decide) (fun hc => ?_) (fun hc => ?_)
    · have hf := if_yes hc hf
      refine lv_iinc (v := (x4 + 1)) (lv' := [(4, .int (x4 + 1)), (5, .int (fX9_kindOfLetter q1)), (0, .ref a_this), (1, .int x1), (2, .int x2), (3, .int x3)]) hx hb dX5_orderAt_39 hl (k := 5) rfl rfl (by decide) rfl (fun ls hl => ?_)
      refine lv_goto (tgt := 5) hx hb dX5_orderAt_42 (by decide) ?_
      have ho := Option.some.inj hf
      subst ho
      exact hbk _ rfl _ _ _ hP hD hS (lv_sub hl [2, 3, 4, 5, 0] rfl)
    · have hf := if_no hc hf
      refine lv_iload_n hx hb dX5_orderAt_29 rfl (lv_at hl 4 rfl) ?_
      refine lv_iload hx hb dX5_orderAt_30 (lv_at hl 0 rfl) ?_
      refine lv_iconst (v := 2) hx hb dX5_orderAt_32 (by decide) ?_
      refine lv_iload hx hb dX5_orderAt_33 (lv_at hl 5 rfl) ?_
      refine lv_imul hx hb dX5_orderAt_35 ?_
      refine lv_ishl hx hb dX5_orderAt_36 ?_
      refine lv_ior hx hb dX5_orderAt_37 ?_
      refine lv_istore_n (lv' := [(3, .int (x3 ||| ((fX9_kindOfLetter q1) <<< ((2 * x4) &&& 31)))), (5, .int (fX9_kindOfLetter q1)), (0, .ref a_this), (1, .int x1), (2, .int x2), (4, .int x4)]) hx hb dX5_orderAt_38 rfl hl (by decide) rfl (fun ls hl => ?_)
      refine lv_iinc (v := (x4 + 1)) (lv' := [(4, .int (x4 + 1)), (3, .int (x3 ||| ((fX9_kindOfLetter q1) <<< ((2 * x4) &&& 31)))), (5, .int (fX9_kindOfLetter q1)), (0, .ref a_this), (1, .int x1), (2, .int x2)]) hx hb dX5_orderAt_39 hl (k := 5) rfl rfl (by decide) rfl (fun ls hl => ?_)
      refine lv_goto (tgt := 5) hx hb dX5_orderAt_42 (by decide) ?_
      have ho := Option.some.inj hf
      subst ho
      exact hbk _ rfl _ _ _ hP hD hS (lv_sub hl [3, 4, 5, 1, 0] rfl)
set_option maxHeartbeats 4000000 in
set_option maxRecDepth 100000 in
theorem kX5_orderAt_J45 {p : Program} {l : Launch} {e : Env} {s : State} {m : MethodId} {args : Array Value} {below : List Frame} {meth : Method} {c : Code} {Q : State → Prop} {A : Nat → Prop} {D : va_G} {cI cJ : ClassId} (C : bC cX5_orderAt 6 RX5 wsX5_orderAt D cI cJ p s m args c meth A)
    {a_this : Nat} {a_codes : Nat} {i_size : Int32} {g_codes : Nat → Int32} {z : Nat} {x3 : Int32} {o : Int32} (hf : fX5_orderAt_J45 z x3 i_size g_codes = some o)
    (hrt : ∀ (H : Heap) (locs : List Loc) (ls : Array Slot) (pc : Nat), va_P D vwCl (uX5_orderAt cI cJ a_this a_codes i_size g_codes) H → va_D A (uX5_orderAt cI cJ a_this a_codes i_size g_codes) → va_S A s.heap H locs → decode cX5_orderAt pc = .ok (.ireturn, 1) → W p l e rX5_orderAt s m args below meth c H locs 0 0 Q (F0 m pc ls [.int o]))
    {H : Heap} {locs : List Loc} {ls : Array Slot} (hP : va_P D vwCl (uX5_orderAt cI cJ a_this a_codes i_size g_codes) H) (hD : va_D A (uX5_orderAt cI cJ a_this a_codes i_size g_codes)) (hS : va_S A s.heap H locs) (hl : lv_has ls 6 [(3, .int x3)]) : W p l e rX5_orderAt s m args below meth c H locs 0 0 Q (F0 m 45 ls []) := by
  obtain ⟨hx, hb, hml, hown, hts, hK, hN, hA, hlocks⟩ := id C
  unfold fX5_orderAt_J45 at hf
  refine lv_iload_n hx hb dX5_orderAt_45 rfl (lv_at hl 0 rfl) ?_
  have ho := Option.some.inj hf
  subst ho
  exact hrt H locs ls _ hP hD hS dX5_orderAt_46
set_option maxHeartbeats 4000000 in
set_option maxRecDepth 100000 in
theorem kX5_orderAt_0 {p : Program} {l : Launch} {e : Env} {s : State} {m : MethodId} {args : Array Value} {below : List Frame} {meth : Method} {c : Code} {Q : State → Prop} {A : Nat → Prop} {D : va_G} {cI cJ : ClassId} (C : bC cX5_orderAt 6 RX5 wsX5_orderAt D cI cJ p s m args c meth A)
    {a_this : Nat} {a_codes : Nat} {i_size : Int32} {g_codes : Nat → Int32} {z : Nat} {x1 : Int32} {x2 : Int32} {o : Int32} (hf : fX5_orderAt z x1 x2 i_size g_codes = some o)
    (hrt : ∀ (H : Heap) (locs : List Loc) (ls : Array Slot) (pc : Nat), va_P D vwCl (uX5_orderAt cI cJ a_this a_codes i_size g_codes) H → va_D A (uX5_orderAt cI cJ a_this a_codes i_size g_codes) → va_S A s.heap H locs → decode cX5_orderAt pc = .ok (.ireturn, 1) → W p l e rX5_orderAt s m args below meth c H locs 0 0 Q (F0 m pc ls [.int o]))
    {H : Heap} {locs : List Loc} {ls : Array Slot} (hP : va_P D vwCl (uX5_orderAt cI cJ a_this a_codes i_size g_codes) H) (hD : va_D A (uX5_orderAt cI cJ a_this a_codes i_size g_codes)) (hS : va_S A s.heap H locs) (hl : lv_has ls 6 [(0, .ref a_this), (1, .int x1), (2, .int x2)]) : W p l e rX5_orderAt s m args below meth c H locs 0 0 Q (F0 m 0 ls []) := by
  obtain ⟨hx, hb, hml, hown, hts, hK, hN, hA, hlocks⟩ := id C
  unfold fX5_orderAt at hf
  refine lv_iconst (v := 0) hx hb dX5_orderAt_0 (by decide) ?_
  refine lv_istore_n (lv' := [(3, .int 0), (0, .ref a_this), (1, .int x1), (2, .int x2)]) hx hb dX5_orderAt_1 rfl hl (by decide) rfl (fun ls hl => ?_)
  refine lv_iconst (v := 0) hx hb dX5_orderAt_2 (by decide) ?_
  refine lv_istore (lv' := [(4, .int 0), (3, .int 0), (0, .ref a_this), (1, .int x1), (2, .int x2)]) hx hb dX5_orderAt_3 hl (by decide) rfl (fun ls hl => ?_)
  obtain ⟨ex, hlp, hf⟩ := ob_some hf
  refine lp_ind (P := fun sg => ∀ (H : Heap) (locs : List Loc) (ls : Array Slot), va_P D vwCl (uX5_orderAt cI cJ a_this a_codes i_size g_codes) H → va_D A (uX5_orderAt cI cJ a_this a_codes i_size g_codes) → va_S A s.heap H locs → lv_has ls 6 [(0, .ref a_this), (1, .int x1), (2, .int x2), (3, .int sg.1), (4, .int sg.2)] → W p l e rX5_orderAt s m args below meth c H locs 0 0 Q (F0 m 5 ls [])) ?_ z _ hlp H locs ls hP hD hS (lv_sub hl [2, 3, 4, 1, 0] rfl)
  intro sg og hbo hback hexit H locs ls hP hD hS hl
  refine kX5_orderAt_L5 C hbo (fun s' h => hback s' h) (fun ex h H locs ls hP hD hS hl => ?_) hP hD hS hl
  have he := hexit _ h
  subst he
  exact kX5_orderAt_J45 C hf hrt hP hD hS (lv_sub hl [0] rfl)
set_option maxHeartbeats 4000000 in
set_option maxRecDepth 100000 in
theorem mX5_orderAt (l : Launch) (D : va_G) (cI cJ : ClassId) (sz : Nat) {a_this : Nat} {a_codes : Nat} {i_size : Int32} {g_codes : Nat → Int32} {z : Nat} {x1 : Int32} {x2 : Int32} {o : Int32} (hf : fX5_orderAt z x1 x2 i_size g_codes = some o) : Met l yX5_orderAt wsX5_orderAt rX5_orderAt (va_Pc [.ref a_this, .int x1, .int x2] (kP D cI cJ (uX5_orderAt cI cJ a_this a_codes i_size g_codes) sz)) (va_Qi (fun r' (_ : Unit) => r' = o) (fun _ t => kB D (va_A (uX5_orderAt cI cJ a_this a_codes i_size g_codes) sz) (uX5_orderAt cI cJ a_this a_codes i_size g_codes) t) (va_A (uX5_orderAt cI cJ a_this a_codes i_size g_codes) sz)) 0 0 (va_A (uX5_orderAt cI cJ a_this a_codes i_size g_codes) sz) :=
  met_i (by decide) rfl (Nat.le_of_ble_eq_true rfl) (fun p e s m below meth c A Q C hrt ls hl hP hD hS => kX5_orderAt_0 (A := A) C hf hrt hP hD hS hl)

/-! ===== FrogsOnRing$Pond.lay(LFrogsOnRing$Reading;LFrogsOnRing$Page;)V ===== -/
abbrev uX6_lay (cI cJ : ClassId) (a_p1 : Nat) (i_p1_form : Int32) (i_p1_overOthers : Int32) (i_p1_overTwo : Int32) (i_p1_first : Int32) (i_p1_size : Int32) (i_p1_place : Int32) (i_p1_whole : Int32) (a_this : Nat) (a_behinds : Nat) (a_depths : Nat) (i_size : Int32) (i_isRing : Int32) (i_overOthers : Int32) (i_longestLeap : Int32) (g_behinds : Nat → Int32) (g_depths : Nat → Int32) (a_p2 : Nat) (a_p2_codes : Nat) (i_p2_size : Int32) (g_p2_codes : Nat → Int32) : va_W := [(a_p1, .inr (7, [.int i_p1_form, .int i_p1_overOthers, .int i_p1_overTwo, .int i_p1_first, .int i_p1_size, .int i_p1_place, .int i_p1_whole])), (a_this, .inr (6, [.ref a_behinds, .ref a_depths, .int i_size, .int i_isRing, .int i_overOthers, .int i_longestLeap])), (a_behinds, .inl (cI, 9, .inl g_behinds)), (a_depths, .inl (cI, 9, .inl g_depths)), (a_p2, .inr (5, [.ref a_p2_codes, .int i_p2_size])), (a_p2_codes, .inl (cI, 24, .inl g_p2_codes))]
def rX6_lay : Room := { frames := 1, cells := 0, slots := 0, locals := 21 }
theorem hdX6_lay : yX6_lay.cls = RX6 ∧ yX6_lay.cls ≠ "java/lang/invoke/MethodHandle" ∧ yX6_lay.cls ≠ "java/lang/invoke/VarHandle" ∧ (parseMethodDescriptor yX6_lay.desc).map (fun d => d.parameters.length) = some 2 := by decide +kernel
set_option maxRecDepth 20000 in
theorem jX6_lay_X6 : ∀ w ∈ u_ws RX6 TX6 6, w ∈ wsX6_lay := by decide +kernel
set_option maxRecDepth 20000 in
theorem jX6_lay_X7 : ∀ w ∈ u_ws RX7 TX7 7, w ∈ wsX6_lay := by decide +kernel
set_option maxRecDepth 20000 in
theorem qX6_lay_15 : Cond.fieldLink RX6 15 "FrogsOnRing$Pond" "depths" "[I" ∈ wsX6_lay := by decide +kernel
set_option maxRecDepth 20000 in
theorem qX6_lay_18 : Cond.fieldLink RX6 18 "FrogsOnRing$Reading" "size" "I" ∈ wsX6_lay := by decide +kernel
set_option maxRecDepth 20000 in
theorem qX6_lay_24 : Cond.fieldLink RX6 24 "FrogsOnRing$Pond" "size" "I" ∈ wsX6_lay := by decide +kernel
set_option maxRecDepth 20000 in
theorem qX6_lay_25 : Cond.fieldLink RX6 25 "FrogsOnRing$Reading" "form" "I" ∈ wsX6_lay := by decide +kernel
set_option maxRecDepth 20000 in
theorem qX6_lay_28 : Cond.fieldLink RX6 28 "FrogsOnRing$Pond" "isRing" "Z" ∈ wsX6_lay := by decide +kernel
set_option maxRecDepth 20000 in
theorem qX6_lay_32 : Cond.fieldLink RX6 32 "FrogsOnRing$Reading" "overOthers" "Z" ∈ wsX6_lay := by decide +kernel
set_option maxRecDepth 20000 in
theorem qX6_lay_35 : Cond.fieldLink RX6 35 "FrogsOnRing$Pond" "overOthers" "Z" ∈ wsX6_lay := by decide +kernel
set_option maxRecDepth 20000 in
theorem qX6_lay_36 : Cond.fieldLink RX6 36 "FrogsOnRing$Reading" "overTwo" "Z" ∈ wsX6_lay := by decide +kernel
set_option maxRecDepth 20000 in
theorem qX6_lay_39 : Cond.fieldLink RX6 39 "FrogsOnRing$Pond" "longestLeap" "I" ∈ wsX6_lay := by decide +kernel
set_option maxRecDepth 20000 in
theorem qX6_lay_42 : Cond.fieldLink RX6 42 "FrogsOnRing$Reading" "first" "I" ∈ wsX6_lay := by decide +kernel
set_option maxRecDepth 20000 in
theorem qX6_lay_9 : Cond.fieldLink RX6 9 "FrogsOnRing$Pond" "behinds" "[I" ∈ wsX6_lay := by decide +kernel
set_option maxHeartbeats 4000000 in
set_option maxRecDepth 100000 in
theorem kX6_lay_J136 {p : Program} {l : Launch} {e : Env} {s : State} {m : MethodId} {args : Array Value} {below : List Frame} {meth : Method} {c : Code} {Q : State → Prop} {A : Nat → Prop} {D : va_G} {cI cJ : ClassId} (C : bC cX6_lay 6 RX6 wsX6_lay D cI cJ p s m args c meth A)
    {a_p1 : Nat} {i_p1_form : Int32} {i_p1_overOthers : Int32} {i_p1_overTwo : Int32} {i_p1_first : Int32} {i_p1_size : Int32} {i_p1_place : Int32} {i_p1_whole : Int32} {a_this : Nat} {a_behinds : Nat} {a_depths : Nat} {i_size : Int32} {i_isRing : Int32} {i_overOthers : Int32} {i_longestLeap : Int32} {g_behinds : Nat → Int32} {g_depths : Nat → Int32} {a_p2 : Nat} {a_p2_codes : Nat} {i_p2_size : Int32} {g_p2_codes : Nat → Int32} {z : Nat} {x3 : Int32} {x4 : Int32} {t0 : Int32} {o : (Int32 × (Nat → Int32) × (Nat → Int32)) ⊕ ((Nat → Int32) × (Nat → Int32))} (hf : fX6_lay_J136 z x3 x4 t0 i_p1_size i_p1_form i_p1_overOthers i_p1_overTwo i_isRing i_size g_behinds g_depths i_p1_first i_p2_size g_p2_codes i_overOthers i_longestLeap = some o)
    (hbk : ∀ s', o = .inl s' → ∀ (H : Heap) (locs : List Loc) (ls : Array Slot), va_P D vwCl (uX6_lay cI cJ a_p1 i_p1_form i_p1_overOthers i_p1_overTwo i_p1_first i_p1_size i_p1_place i_p1_whole a_this a_behinds a_depths i_size i_isRing i_overOthers i_longestLeap s'.2.1 s'.2.2 a_p2 a_p2_codes i_p2_size g_p2_codes) H → va_D A (uX6_lay cI cJ a_p1 i_p1_form i_p1_overOthers i_p1_overTwo i_p1_first i_p1_size i_p1_place i_p1_whole a_this a_behinds a_depths i_size i_isRing i_overOthers i_longestLeap s'.2.1 s'.2.2 a_p2 a_p2_codes i_p2_size g_p2_codes) → va_S A s.heap H locs → lv_has ls 6 [(0, .ref a_this), (1, .ref a_p1), (2, .ref a_p2), (3, .int x3), (4, .int s'.1)] → W p l e rX6_lay s m args below meth c H locs 0 0 Q (F0 m 93 ls []))
    (hex : ∀ e', o = .inr e' → ∀ (H : Heap) (locs : List Loc) (ls : Array Slot), va_P D vwCl (uX6_lay cI cJ a_p1 i_p1_form i_p1_overOthers i_p1_overTwo i_p1_first i_p1_size i_p1_place i_p1_whole a_this a_behinds a_depths i_size i_isRing i_overOthers i_longestLeap e'.1 e'.2 a_p2 a_p2_codes i_p2_size g_p2_codes) H → va_D A (uX6_lay cI cJ a_p1 i_p1_form i_p1_overOthers i_p1_overTwo i_p1_first i_p1_size i_p1_place i_p1_whole a_this a_behinds a_depths i_size i_isRing i_overOthers i_longestLeap e'.1 e'.2 a_p2 a_p2_codes i_p2_size g_p2_codes) → va_S A s.heap H locs → lv_has ls 6 [] → W p l e rX6_lay s m args below meth c H locs 0 0 Q (F0 m 168 ls []))
    {H : Heap} {locs : List Loc} {ls : Array Slot} (hP : va_P D vwCl (uX6_lay cI cJ a_p1 i_p1_form i_p1_overOthers i_p1_overTwo i_p1_first i_p1_size i_p1_place i_p1_whole a_this a_behinds a_depths i_size i_isRing i_overOthers i_longestLeap g_behinds g_depths a_p2 a_p2_codes i_p2_size g_p2_codes) H) (hD : va_D A (uX6_lay cI cJ a_p1 i_p1_form i_p1_overOthers i_p1_overTwo i_p1_first i_p1_size i_p1_place i_p1_whole a_this a_behinds a_depths i_size i_isRing i_overOthers i_longestLeap g_behinds g_depths a_p2 a_p2_codes i_p2_size g_p2_codes)) (hS : va_S A s.heap H locs) (hl : lv_has ls 6 [(0, .ref a_this), (1, .ref a_p1), (2, .ref a_p2), (3, .int x3), (4, .int x4)]) : W p l e rX6_lay s m args below meth c H locs 0 0 Q (F0 m 136 ls [.int t0]) := by
  obtain ⟨hx, hb, hml, hown, hts, hK, hN, hA, hlocks⟩ := id C
  unfold fX6_lay_J136 at hf
  refine lv_istore (lv' := [(5, .int t0), (0, .ref a_this), (1, .ref a_p1), (2, .ref a_p2), (3, .int x3), (4, .int x4)]) hx hb dX6_lay_136 hl (by decide) rfl (fun ls hl => ?_)
  refine lv_aload_n hx hb dX6_lay_138 rfl (lv_at hl 1 rfl) ?_
  refine va_get (D := D) (ci := 6) (v := .ref a_behinds) (C := RX6) (T := TX6) (N := 6) hx hb hts jX6_lay_X6 hown hK hP 1 rfl rfl 0 (by decide) (hts _ qX6_lay_9) (fun _ h9 => h9) rfl dX6_lay_139 ?_
  refine lv_iload hx hb dX6_lay_142 (lv_at hl 5 rfl) ?_
  refine lv_iload hx hb dX6_lay_144 (lv_at hl 0 rfl) ?_
  obtain ⟨hin, hf⟩ := agd_some hf
  refine va_iast hx hb hK hP hD hS 2 0 rfl rfl hin dX6_lay_146 (fun H locs hP hD hS => ?_)
  have hP : va_P D vwCl (uX6_lay cI cJ a_p1 i_p1_form i_p1_overOthers i_p1_overTwo i_p1_first i_p1_size i_p1_place i_p1_whole a_this a_behinds a_depths i_size i_isRing i_overOthers i_longestLeap (upd g_behinds x4.toNatClampNeg t0) g_depths a_p2 a_p2_codes i_p2_size g_p2_codes) H := hP
  have hD : va_D A (uX6_lay cI cJ a_p1 i_p1_form i_p1_overOthers i_p1_overTwo i_p1_first i_p1_size i_p1_place i_p1_whole a_this a_behinds a_depths i_size i_isRing i_overOthers i_longestLeap (upd g_behinds x4.toNatClampNeg t0) g_depths a_p2 a_p2_codes i_p2_size g_p2_codes) := hD
  refine lv_aload_n hx hb dX6_lay_147 rfl (lv_at hl 1 rfl) ?_
  refine va_get (D := D) (ci := 6) (v := .ref a_depths) (C := RX6) (T := TX6) (N := 6) hx hb hts jX6_lay_X6 hown hK hP 1 rfl rfl 1 (by decide) (hts _ qX6_lay_15) (fun _ h9 => h9) rfl dX6_lay_148 ?_
  refine lv_iload hx hb dX6_lay_151 (lv_at hl 5 rfl) ?_
  refine lv_aload_n hx hb dX6_lay_153 rfl (lv_at hl 1 rfl) ?_
  refine lv_iload hx hb dX6_lay_154 (lv_at hl 0 rfl) ?_
  obtain ⟨q1, hq, hf⟩ := ob_some hf
  refine cl_i (wc := (uX6_depthOf cI cJ a_this a_behinds a_depths i_size i_isRing i_overOthers i_longestLeap g_depths)) (w1 := (uX6_depthOf cI cJ a_this a_behinds a_depths i_size i_isRing i_overOthers i_longestLeap g_depths)) (rn_V (As := [.int t0]) (b := a_this) (rest := [.int x4, .ref a_depths]) (wc := (uX6_depthOf cI cJ a_this a_behinds a_depths i_size i_isRing i_overOthers i_longestLeap g_depths)) (ci := 6) (q0 := 1) C hP hD [1, 3] rfl rfl rfl rfl (mX6_depthOf l D cI cJ H.size hq) 1 gX6_lay_X6_depthOf rfl ⟨rfl, rfl, Nat.le_of_ble_eq_true rfl, Nat.le_of_ble_eq_true rfl⟩ hdX6_depthOf rfl hl.1 rfl (Nat.le_of_ble_eq_true rfl) dX6_lay_156) hP hD hS hA [1, 3] rfl rfl (fun H locs hP hD hS => ?_)
  have hP : va_P D vwCl (uX6_lay cI cJ a_p1 i_p1_form i_p1_overOthers i_p1_overTwo i_p1_first i_p1_size i_p1_place i_p1_whole a_this a_behinds a_depths i_size i_isRing i_overOthers i_longestLeap (upd g_behinds x4.toNatClampNeg t0) g_depths a_p2 a_p2_codes i_p2_size g_p2_codes) H := hP
  have hD : va_D A (uX6_lay cI cJ a_p1 i_p1_form i_p1_overOthers i_p1_overTwo i_p1_first i_p1_size i_p1_place i_p1_whole a_this a_behinds a_depths i_size i_isRing i_overOthers i_longestLeap (upd g_behinds x4.toNatClampNeg t0) g_depths a_p2 a_p2_codes i_p2_size g_p2_codes) := hD
  refine lv_iconst (v := 1) hx hb dX6_lay_159 (by decide) ?_
  refine lv_iadd hx hb dX6_lay_160 ?_
  obtain ⟨hin, hf⟩ := agd_some hf
  refine va_iast hx hb hK hP hD hS 3 0 rfl rfl hin dX6_lay_161 (fun H locs hP hD hS => ?_)
  have hP : va_P D vwCl (uX6_lay cI cJ a_p1 i_p1_form i_p1_overOthers i_p1_overTwo i_p1_first i_p1_size i_p1_place i_p1_whole a_this a_behinds a_depths i_size i_isRing i_overOthers i_longestLeap (upd g_behinds x4.toNatClampNeg t0) (upd g_depths x4.toNatClampNeg (q1 + 1)) a_p2 a_p2_codes i_p2_size g_p2_codes) H := hP
  have hD : va_D A (uX6_lay cI cJ a_p1 i_p1_form i_p1_overOthers i_p1_overTwo i_p1_first i_p1_size i_p1_place i_p1_whole a_this a_behinds a_depths i_size i_isRing i_overOthers i_longestLeap (upd g_behinds x4.toNatClampNeg t0) (upd g_depths x4.toNatClampNeg (q1 + 1)) a_p2 a_p2_codes i_p2_size g_p2_codes) := hD
  refine lv_iinc (v := (x4 + 1)) (lv' := [(4, .int (x4 + 1)), (5, .int t0), (0, .ref a_this), (1, .ref a_p1), (2, .ref a_p2), (3, .int x3)]) hx hb dX6_lay_162 hl (k := 5) rfl rfl (by decide) rfl (fun ls hl => ?_)
  refine lv_goto (tgt := 93) hx hb dX6_lay_165 (by decide) ?_
  have ho := Option.some.inj hf
  subst ho
  exact hbk _ rfl _ _ _ hP hD hS (lv_sub hl [2, 3, 4, 5, 0] rfl)
set_option maxHeartbeats 4000000 in
set_option maxRecDepth 100000 in
theorem kX6_lay_L93 {p : Program} {l : Launch} {e : Env} {s : State} {m : MethodId} {args : Array Value} {below : List Frame} {meth : Method} {c : Code} {Q : State → Prop} {A : Nat → Prop} {D : va_G} {cI cJ : ClassId} (C : bC cX6_lay 6 RX6 wsX6_lay D cI cJ p s m args c meth A)
    {a_p1 : Nat} {i_p1_form : Int32} {i_p1_overOthers : Int32} {i_p1_overTwo : Int32} {i_p1_first : Int32} {i_p1_size : Int32} {i_p1_place : Int32} {i_p1_whole : Int32} {a_this : Nat} {a_behinds : Nat} {a_depths : Nat} {i_size : Int32} {i_isRing : Int32} {i_overOthers : Int32} {i_longestLeap : Int32} {g_behinds : Nat → Int32} {g_depths : Nat → Int32} {a_p2 : Nat} {a_p2_codes : Nat} {i_p2_size : Int32} {g_p2_codes : Nat → Int32} {z : Nat} {x3 : Int32} {x4 : Int32} {o : (Int32 × (Nat → Int32) × (Nat → Int32)) ⊕ ((Nat → Int32) × (Nat → Int32))} (hf : fX6_lay_L93 z x3 x4 i_p1_size i_p1_form i_p1_overOthers i_p1_overTwo i_isRing i_size g_behinds g_depths i_p1_first i_p2_size g_p2_codes i_overOthers i_longestLeap = some o)
    (hbk : ∀ s', o = .inl s' → ∀ (H : Heap) (locs : List Loc) (ls : Array Slot), va_P D vwCl (uX6_lay cI cJ a_p1 i_p1_form i_p1_overOthers i_p1_overTwo i_p1_first i_p1_size i_p1_place i_p1_whole a_this a_behinds a_depths i_size i_isRing i_overOthers i_longestLeap s'.2.1 s'.2.2 a_p2 a_p2_codes i_p2_size g_p2_codes) H → va_D A (uX6_lay cI cJ a_p1 i_p1_form i_p1_overOthers i_p1_overTwo i_p1_first i_p1_size i_p1_place i_p1_whole a_this a_behinds a_depths i_size i_isRing i_overOthers i_longestLeap s'.2.1 s'.2.2 a_p2 a_p2_codes i_p2_size g_p2_codes) → va_S A s.heap H locs → lv_has ls 6 [(0, .ref a_this), (1, .ref a_p1), (2, .ref a_p2), (3, .int x3), (4, .int s'.1)] → W p l e rX6_lay s m args below meth c H locs 0 0 Q (F0 m 93 ls []))
    (hex : ∀ e', o = .inr e' → ∀ (H : Heap) (locs : List Loc) (ls : Array Slot), va_P D vwCl (uX6_lay cI cJ a_p1 i_p1_form i_p1_overOthers i_p1_overTwo i_p1_first i_p1_size i_p1_place i_p1_whole a_this a_behinds a_depths i_size i_isRing i_overOthers i_longestLeap e'.1 e'.2 a_p2 a_p2_codes i_p2_size g_p2_codes) H → va_D A (uX6_lay cI cJ a_p1 i_p1_form i_p1_overOthers i_p1_overTwo i_p1_first i_p1_size i_p1_place i_p1_whole a_this a_behinds a_depths i_size i_isRing i_overOthers i_longestLeap e'.1 e'.2 a_p2 a_p2_codes i_p2_size g_p2_codes) → va_S A s.heap H locs → lv_has ls 6 [] → W p l e rX6_lay s m args below meth c H locs 0 0 Q (F0 m 168 ls []))
    {H : Heap} {locs : List Loc} {ls : Array Slot} (hP : va_P D vwCl (uX6_lay cI cJ a_p1 i_p1_form i_p1_overOthers i_p1_overTwo i_p1_first i_p1_size i_p1_place i_p1_whole a_this a_behinds a_depths i_size i_isRing i_overOthers i_longestLeap g_behinds g_depths a_p2 a_p2_codes i_p2_size g_p2_codes) H) (hD : va_D A (uX6_lay cI cJ a_p1 i_p1_form i_p1_overOthers i_p1_overTwo i_p1_first i_p1_size i_p1_place i_p1_whole a_this a_behinds a_depths i_size i_isRing i_overOthers i_longestLeap g_behinds g_depths a_p2 a_p2_codes i_p2_size g_p2_codes)) (hS : va_S A s.heap H locs) (hl : lv_has ls 6 [(0, .ref a_this), (1, .ref a_p1), (2, .ref a_p2), (3, .int x3), (4, .int x4)]) : W p l e rX6_lay s m args below meth c H locs 0 0 Q (F0 m 93 ls []) := by
  obtain ⟨hx, hb, hml, hown, hts, hK, hN, hA, hlocks⟩ := id C
  unfold fX6_lay_L93 at hf
  refine lv_iload hx hb dX6_lay_93 (lv_at hl 4 rfl) ?_
  refine lv_aload_n hx hb dX6_lay_95 rfl (lv_at hl 0 rfl) ?_
  refine va_get (D := D) (ci := 6) (v := .int i_size) (C := RX6) (T := TX6) (N := 6) hx hb hts jX6_lay_X6 hown hK hP 1 rfl rfl 2 (by decide) (hts _ qX6_lay_24) (fun _ h9 => h9) rfl dX6_lay_96 ?_
  refine lv_icmp_ge (tgt := 168) hx hb dX6_lay_99 (by decide) (fun hc => ?_) (fun hc => ?_)
  · have hf := if_yes hc hf
    have ho := Option.some.inj hf
    subst ho
    exact hex _ rfl _ _ _ hP hD hS (lv_sub hl [] rfl)
  · have hf := if_no hc hf
    refine lv_iload hx hb dX6_lay_102 (lv_at hl 4 rfl) ?_
    refine lv_bipush (v := 9) hx hb dX6_lay_104 (by decide) ?_
    refine lv_icmp_ge (tgt := 168) hx hb dX6_lay_106 (by decide) (fun hc => ?_) (fun hc => ?_)
    · have hf := if_yes hc hf
      have ho := Option.some.inj hf
      subst ho
      exact hex _ rfl _ _ _ hP hD hS (lv_sub hl [] rfl)
    · have hf := if_no hc hf
      refine lv_aload_n hx hb dX6_lay_109 rfl (lv_at hl 1 rfl) ?_
      refine va_get (D := D) (ci := 7) (v := .int i_p1_form) (C := RX7) (T := TX7) (N := 7) hx hb hts jX6_lay_X7 hown hK hP 0 rfl rfl 0 (by decide) (hts _ qX6_lay_25) (fun _ h9 => h9) rfl dX6_lay_110 ?_
      refine lv_bipush (v := 116) hx hb dX6_lay_113 (by decide) ?_
      refine lv_icmp_ne (tgt := 132) hx hb dX6_lay_115 (by decide) (fun hc => ?_) (fun hc => ?_)
      · have hf := if_no hc hf
        refine lv_iload hx hb dX6_lay_132 (lv_at hl 4 rfl) ?_
        refine lv_iconst (v := 1) hx hb dX6_lay_134 (by decide) ?_
        refine lv_isub hx hb dX6_lay_135 ?_
        exact kX6_lay_J136 C hf hbk hex hP hD hS (lv_sub hl [0, 1, 2, 3, 4] rfl)
      · have hf := if_yes hc hf
        refine lv_aload_n hx hb dX6_lay_118 rfl (lv_at hl 2 rfl) ?_
        refine lv_iload_n hx hb dX6_lay_119 rfl (lv_at hl 3 rfl) ?_
        refine lv_iload hx hb dX6_lay_120 (lv_at hl 4 rfl) ?_
        refine lv_iadd hx hb dX6_lay_122 ?_
        obtain ⟨q2, hq, hf⟩ := ob_some hf
        refine cl_i (wc := (uX5_letterAt cI cJ a_p2 a_p2_codes i_p2_size g_p2_codes)) (w1 := (uX5_letterAt cI cJ a_p2 a_p2_codes i_p2_size g_p2_codes)) (rn_V (As := [.int (x3 + x4)]) (b := a_p2) (rest := []) (wc := (uX5_letterAt cI cJ a_p2 a_p2_codes i_p2_size g_p2_codes)) (ci := 5) (q0 := 4) C hP hD [4, 5] rfl rfl rfl rfl (mX5_letterAt l D cI cJ H.size hq) 1 gX6_lay_X5_letterAt rfl ⟨rfl, rfl, Nat.le_of_ble_eq_true rfl, Nat.le_of_ble_eq_true rfl⟩ hdX5_letterAt rfl hl.1 rfl (Nat.le_of_ble_eq_true rfl) dX6_lay_123) hP hD hS hA [4, 5] rfl rfl (fun H locs hP hD hS => ?_)
        have hP : va_P D vwCl (uX6_lay cI cJ a_p1 i_p1_form i_p1_overOthers i_p1_overTwo i_p1_first i_p1_size i_p1_place i_p1_whole a_this a_behinds a_depths i_size i_isRing i_overOthers i_longestLeap g_behinds g_depths a_p2 a_p2_codes i_p2_size g_p2_codes) H := hP
        have hD : va_D A (uX6_lay cI cJ a_p1 i_p1_form i_p1_overOthers i_p1_overTwo i_p1_first i_p1_size i_p1_place i_p1_whole a_this a_behinds a_depths i_size i_isRing i_overOthers i_longestLeap g_behinds g_depths a_p2 a_p2_codes i_p2_size g_p2_codes) := hD
        refine lv_bipush (v := 48) hx hb dX6_lay_126 (by decide) ?_
        refine lv_isub hx hb dX6_lay_128 ?_
        refine lv_goto (tgt := 136) hx hb dX6_lay_129 (by decide) ?_
        exact kX6_lay_J136 C hf hbk hex hP hD hS (lv_sub hl [0, 1, 2, 3, 4] rfl)
set_option maxHeartbeats 4000000 in
set_option maxRecDepth 100000 in
theorem kX6_lay_J168 {p : Program} {l : Launch} {e : Env} {s : State} {m : MethodId} {args : Array Value} {below : List Frame} {meth : Method} {c : Code} {Q : State → Prop} {A : Nat → Prop} {D : va_G} {cI cJ : ClassId} (C : bC cX6_lay 6 RX6 wsX6_lay D cI cJ p s m args c meth A)
    {a_p1 : Nat} {i_p1_form : Int32} {i_p1_overOthers : Int32} {i_p1_overTwo : Int32} {i_p1_first : Int32} {i_p1_size : Int32} {i_p1_place : Int32} {i_p1_whole : Int32} {a_this : Nat} {a_behinds : Nat} {a_depths : Nat} {i_size : Int32} {i_isRing : Int32} {i_overOthers : Int32} {i_longestLeap : Int32} {g_behinds : Nat → Int32} {g_depths : Nat → Int32} {a_p2 : Nat} {a_p2_codes : Nat} {i_p2_size : Int32} {g_p2_codes : Nat → Int32} {z : Nat} {o : Int32 × Int32 × Int32 × Int32 × (Nat → Int32) × (Nat → Int32)} (hf : fX6_lay_J168 z i_p1_size i_p1_form i_p1_overOthers i_p1_overTwo i_isRing i_size g_behinds g_depths i_p1_first i_p2_size g_p2_codes i_overOthers i_longestLeap = some o)
    (hrt : ∀ (H : Heap) (locs : List Loc) (ls : Array Slot) (pc : Nat), va_P D vwCl (uX6_lay cI cJ a_p1 i_p1_form i_p1_overOthers i_p1_overTwo i_p1_first i_p1_size i_p1_place i_p1_whole a_this a_behinds a_depths o.1 o.2.1 o.2.2.1 o.2.2.2.1 o.2.2.2.2.1 o.2.2.2.2.2 a_p2 a_p2_codes i_p2_size g_p2_codes) H → va_D A (uX6_lay cI cJ a_p1 i_p1_form i_p1_overOthers i_p1_overTwo i_p1_first i_p1_size i_p1_place i_p1_whole a_this a_behinds a_depths o.1 o.2.1 o.2.2.1 o.2.2.2.1 o.2.2.2.2.1 o.2.2.2.2.2 a_p2 a_p2_codes i_p2_size g_p2_codes) → va_S A s.heap H locs → decode cX6_lay pc = .ok (.return_, 1) → W p l e rX6_lay s m args below meth c H locs 0 0 Q (F0 m pc ls []))
    {H : Heap} {locs : List Loc} {ls : Array Slot} (hP : va_P D vwCl (uX6_lay cI cJ a_p1 i_p1_form i_p1_overOthers i_p1_overTwo i_p1_first i_p1_size i_p1_place i_p1_whole a_this a_behinds a_depths i_size i_isRing i_overOthers i_longestLeap g_behinds g_depths a_p2 a_p2_codes i_p2_size g_p2_codes) H) (hD : va_D A (uX6_lay cI cJ a_p1 i_p1_form i_p1_overOthers i_p1_overTwo i_p1_first i_p1_size i_p1_place i_p1_whole a_this a_behinds a_depths i_size i_isRing i_overOthers i_longestLeap g_behinds g_depths a_p2 a_p2_codes i_p2_size g_p2_codes)) (hS : va_S A s.heap H locs) (hl : lv_has ls 6 []) : W p l e rX6_lay s m args below meth c H locs 0 0 Q (F0 m 168 ls []) := by
  obtain ⟨hx, hb, hml, hown, hts, hK, hN, hA, hlocks⟩ := id C
  unfold fX6_lay_J168 at hf
  have ho := Option.some.inj hf
  subst ho
  exact hrt H locs ls _ hP hD hS dX6_lay_168
set_option maxHeartbeats 4000000 in
set_option maxRecDepth 100000 in
theorem kX6_lay_J72 {p : Program} {l : Launch} {e : Env} {s : State} {m : MethodId} {args : Array Value} {below : List Frame} {meth : Method} {c : Code} {Q : State → Prop} {A : Nat → Prop} {D : va_G} {cI cJ : ClassId} (C : bC cX6_lay 6 RX6 wsX6_lay D cI cJ p s m args c meth A)
    {a_p1 : Nat} {i_p1_form : Int32} {i_p1_overOthers : Int32} {i_p1_overTwo : Int32} {i_p1_first : Int32} {i_p1_size : Int32} {i_p1_place : Int32} {i_p1_whole : Int32} {a_this : Nat} {a_behinds : Nat} {a_depths : Nat} {i_size : Int32} {i_isRing : Int32} {i_overOthers : Int32} {i_longestLeap : Int32} {g_behinds : Nat → Int32} {g_depths : Nat → Int32} {a_p2 : Nat} {a_p2_codes : Nat} {i_p2_size : Int32} {g_p2_codes : Nat → Int32} {z : Nat} {t1 : Int32} {t2 : Int32} {o : Int32 × Int32 × Int32 × Int32 × (Nat → Int32) × (Nat → Int32)} (hf : fX6_lay_J72 z t1 t2 i_p1_size i_p1_form i_p1_overOthers i_p1_overTwo i_isRing i_size g_behinds g_depths i_p1_first i_p2_size g_p2_codes i_overOthers i_longestLeap = some o)
    (hrt : ∀ (H : Heap) (locs : List Loc) (ls : Array Slot) (pc : Nat), va_P D vwCl (uX6_lay cI cJ a_p1 i_p1_form i_p1_overOthers i_p1_overTwo i_p1_first i_p1_size i_p1_place i_p1_whole a_this a_behinds a_depths o.1 o.2.1 o.2.2.1 o.2.2.2.1 o.2.2.2.2.1 o.2.2.2.2.2 a_p2 a_p2_codes i_p2_size g_p2_codes) H → va_D A (uX6_lay cI cJ a_p1 i_p1_form i_p1_overOthers i_p1_overTwo i_p1_first i_p1_size i_p1_place i_p1_whole a_this a_behinds a_depths o.1 o.2.1 o.2.2.1 o.2.2.2.1 o.2.2.2.2.1 o.2.2.2.2.2 a_p2 a_p2_codes i_p2_size g_p2_codes) → va_S A s.heap H locs → decode cX6_lay pc = .ok (.return_, 1) → W p l e rX6_lay s m args below meth c H locs 0 0 Q (F0 m pc ls []))
    {H : Heap} {locs : List Loc} {ls : Array Slot} (hP : va_P D vwCl (uX6_lay cI cJ a_p1 i_p1_form i_p1_overOthers i_p1_overTwo i_p1_first i_p1_size i_p1_place i_p1_whole a_this a_behinds a_depths i_size i_isRing i_overOthers i_longestLeap g_behinds g_depths a_p2 a_p2_codes i_p2_size g_p2_codes) H) (hD : va_D A (uX6_lay cI cJ a_p1 i_p1_form i_p1_overOthers i_p1_overTwo i_p1_first i_p1_size i_p1_place i_p1_whole a_this a_behinds a_depths i_size i_isRing i_overOthers i_longestLeap g_behinds g_depths a_p2 a_p2_codes i_p2_size g_p2_codes)) (hS : va_S A s.heap H locs) (hl : lv_has ls 6 [(0, .ref a_this), (1, .ref a_p1), (2, .ref a_p2)]) : W p l e rX6_lay s m args below meth c H locs 0 0 Q (F0 m 72 ls [.int t2, .int t1, .ref a_behinds]) := by
  obtain ⟨hx, hb, hml, hown, hts, hK, hN, hA, hlocks⟩ := id C
  unfold fX6_lay_J72 at hf
  obtain ⟨hin, hf⟩ := agd_some hf
  refine va_iast hx hb hK hP hD hS 2 0 rfl rfl hin dX6_lay_72 (fun H locs hP hD hS => ?_)
  have hP : va_P D vwCl (uX6_lay cI cJ a_p1 i_p1_form i_p1_overOthers i_p1_overTwo i_p1_first i_p1_size i_p1_place i_p1_whole a_this a_behinds a_depths i_size i_isRing i_overOthers i_longestLeap (upd g_behinds t1.toNatClampNeg t2) g_depths a_p2 a_p2_codes i_p2_size g_p2_codes) H := hP
  have hD : va_D A (uX6_lay cI cJ a_p1 i_p1_form i_p1_overOthers i_p1_overTwo i_p1_first i_p1_size i_p1_place i_p1_whole a_this a_behinds a_depths i_size i_isRing i_overOthers i_longestLeap (upd g_behinds t1.toNatClampNeg t2) g_depths a_p2 a_p2_codes i_p2_size g_p2_codes) := hD
  refine lv_aload_n hx hb dX6_lay_73 rfl (lv_at hl 0 rfl) ?_
  refine va_get (D := D) (ci := 6) (v := .ref a_depths) (C := RX6) (T := TX6) (N := 6) hx hb hts jX6_lay_X6 hown hK hP 1 rfl rfl 1 (by decide) (hts _ qX6_lay_15) (fun _ h9 => h9) rfl dX6_lay_74 ?_
  refine lv_iconst (v := 0) hx hb dX6_lay_77 (by decide) ?_
  refine lv_iconst (v := 0) hx hb dX6_lay_78 (by decide) ?_
  obtain ⟨hin, hf⟩ := agd_some hf
  refine va_iast hx hb hK hP hD hS 3 0 rfl rfl hin dX6_lay_79 (fun H locs hP hD hS => ?_)
  have hP : va_P D vwCl (uX6_lay cI cJ a_p1 i_p1_form i_p1_overOthers i_p1_overTwo i_p1_first i_p1_size i_p1_place i_p1_whole a_this a_behinds a_depths i_size i_isRing i_overOthers i_longestLeap (upd g_behinds t1.toNatClampNeg t2) (upd g_depths (0 : Int32).toNatClampNeg 0) a_p2 a_p2_codes i_p2_size g_p2_codes) H := hP
  have hD : va_D A (uX6_lay cI cJ a_p1 i_p1_form i_p1_overOthers i_p1_overTwo i_p1_first i_p1_size i_p1_place i_p1_whole a_this a_behinds a_depths i_size i_isRing i_overOthers i_longestLeap (upd g_behinds t1.toNatClampNeg t2) (upd g_depths (0 : Int32).toNatClampNeg 0) a_p2 a_p2_codes i_p2_size g_p2_codes) := hD
  refine lv_aload_n hx hb dX6_lay_80 rfl (lv_at hl 1 rfl) ?_
  refine va_get (D := D) (ci := 7) (v := .int i_p1_first) (C := RX7) (T := TX7) (N := 7) hx hb hts jX6_lay_X7 hown hK hP 0 rfl rfl 3 (by decide) (hts _ qX6_lay_42) (fun _ h9 => h9) rfl dX6_lay_81 ?_
  refine lv_aload_n hx hb dX6_lay_84 rfl (lv_at hl 0 rfl) ?_
  refine va_get (D := D) (ci := 6) (v := .int i_size) (C := RX6) (T := TX6) (N := 6) hx hb hts jX6_lay_X6 hown hK hP 1 rfl rfl 2 (by decide) (hts _ qX6_lay_24) (fun _ h9 => h9) rfl dX6_lay_85 ?_
  refine lv_iadd hx hb dX6_lay_88 ?_
  refine lv_istore_n (lv' := [(3, .int (i_p1_first + i_size)), (0, .ref a_this), (1, .ref a_p1), (2, .ref a_p2)]) hx hb dX6_lay_89 rfl hl (by decide) rfl (fun ls hl => ?_)
  refine lv_iconst (v := 1) hx hb dX6_lay_90 (by decide) ?_
  refine lv_istore (lv' := [(4, .int 1), (3, .int (i_p1_first + i_size)), (0, .ref a_this), (1, .ref a_p1), (2, .ref a_p2)]) hx hb dX6_lay_91 hl (by decide) rfl (fun ls hl => ?_)
  obtain ⟨ex, hlp, hf⟩ := ob_some hf
  refine lp_ind (P := fun sg => ∀ (H : Heap) (locs : List Loc) (ls : Array Slot), va_P D vwCl (uX6_lay cI cJ a_p1 i_p1_form i_p1_overOthers i_p1_overTwo i_p1_first i_p1_size i_p1_place i_p1_whole a_this a_behinds a_depths i_size i_isRing i_overOthers i_longestLeap sg.2.1 sg.2.2 a_p2 a_p2_codes i_p2_size g_p2_codes) H → va_D A (uX6_lay cI cJ a_p1 i_p1_form i_p1_overOthers i_p1_overTwo i_p1_first i_p1_size i_p1_place i_p1_whole a_this a_behinds a_depths i_size i_isRing i_overOthers i_longestLeap sg.2.1 sg.2.2 a_p2 a_p2_codes i_p2_size g_p2_codes) → va_S A s.heap H locs → lv_has ls 6 [(0, .ref a_this), (1, .ref a_p1), (2, .ref a_p2), (3, .int (i_p1_first + i_size)), (4, .int sg.1)] → W p l e rX6_lay s m args below meth c H locs 0 0 Q (F0 m 93 ls [])) ?_ z _ hlp H locs ls hP hD hS (lv_sub hl [2, 3, 4, 1, 0] rfl)
  intro sg og hbo hback hexit H locs ls hP hD hS hl
  refine kX6_lay_L93 C hbo (fun s' h => hback s' h) (fun ex h H locs ls hP hD hS hl => ?_) hP hD hS hl
  have he := hexit _ h
  subst he
  exact kX6_lay_J168 C hf hrt hP hD hS (lv_sub hl [] rfl)
set_option maxHeartbeats 4000000 in
set_option maxRecDepth 100000 in
theorem kX6_lay_J47 {p : Program} {l : Launch} {e : Env} {s : State} {m : MethodId} {args : Array Value} {below : List Frame} {meth : Method} {c : Code} {Q : State → Prop} {A : Nat → Prop} {D : va_G} {cI cJ : ClassId} (C : bC cX6_lay 6 RX6 wsX6_lay D cI cJ p s m args c meth A)
    {a_p1 : Nat} {i_p1_form : Int32} {i_p1_overOthers : Int32} {i_p1_overTwo : Int32} {i_p1_first : Int32} {i_p1_size : Int32} {i_p1_place : Int32} {i_p1_whole : Int32} {a_this : Nat} {a_behinds : Nat} {a_depths : Nat} {i_size : Int32} {i_isRing : Int32} {i_overOthers : Int32} {i_longestLeap : Int32} {g_behinds : Nat → Int32} {g_depths : Nat → Int32} {a_p2 : Nat} {a_p2_codes : Nat} {i_p2_size : Int32} {g_p2_codes : Nat → Int32} {z : Nat} {t1 : Int32} {o : Int32 × Int32 × Int32 × Int32 × (Nat → Int32) × (Nat → Int32)} (hf : fX6_lay_J47 z t1 i_p1_size i_p1_form i_p1_overOthers i_p1_overTwo i_isRing i_size g_behinds g_depths i_p1_first i_p2_size g_p2_codes i_overOthers i_longestLeap = some o)
    (hrt : ∀ (H : Heap) (locs : List Loc) (ls : Array Slot) (pc : Nat), va_P D vwCl (uX6_lay cI cJ a_p1 i_p1_form i_p1_overOthers i_p1_overTwo i_p1_first i_p1_size i_p1_place i_p1_whole a_this a_behinds a_depths o.1 o.2.1 o.2.2.1 o.2.2.2.1 o.2.2.2.2.1 o.2.2.2.2.2 a_p2 a_p2_codes i_p2_size g_p2_codes) H → va_D A (uX6_lay cI cJ a_p1 i_p1_form i_p1_overOthers i_p1_overTwo i_p1_first i_p1_size i_p1_place i_p1_whole a_this a_behinds a_depths o.1 o.2.1 o.2.2.1 o.2.2.2.1 o.2.2.2.2.1 o.2.2.2.2.2 a_p2 a_p2_codes i_p2_size g_p2_codes) → va_S A s.heap H locs → decode cX6_lay pc = .ok (.return_, 1) → W p l e rX6_lay s m args below meth c H locs 0 0 Q (F0 m pc ls []))
    {H : Heap} {locs : List Loc} {ls : Array Slot} (hP : va_P D vwCl (uX6_lay cI cJ a_p1 i_p1_form i_p1_overOthers i_p1_overTwo i_p1_first i_p1_size i_p1_place i_p1_whole a_this a_behinds a_depths i_size i_isRing i_overOthers i_longestLeap g_behinds g_depths a_p2 a_p2_codes i_p2_size g_p2_codes) H) (hD : va_D A (uX6_lay cI cJ a_p1 i_p1_form i_p1_overOthers i_p1_overTwo i_p1_first i_p1_size i_p1_place i_p1_whole a_this a_behinds a_depths i_size i_isRing i_overOthers i_longestLeap g_behinds g_depths a_p2 a_p2_codes i_p2_size g_p2_codes)) (hS : va_S A s.heap H locs) (hl : lv_has ls 6 [(0, .ref a_this), (1, .ref a_p1), (2, .ref a_p2)]) : W p l e rX6_lay s m args below meth c H locs 0 0 Q (F0 m 47 ls [.int t1, .ref a_this]) := by
  obtain ⟨hx, hb, hml, hown, hts, hK, hN, hA, hlocks⟩ := id C
  unfold fX6_lay_J47 at hf
  refine va_put (D := D) (ci := 6) (v := .int t1) (ty := tyX6 5) (C := RX6) (T := TX6) (N := 6) hx hb hts jX6_lay_X6 tyX6 tyX6_ok nmX6 hown hK hP hD hS 1 rfl rfl 5 (by decide) (hts _ qX6_lay_39) (fun _ h9 => h9) rfl (tyX6_ok 5 (by decide)) rfl rfl (Nat.le_of_ble_eq_true rfl) dX6_lay_47 (fun H locs hP hD hS => ?_)
  have hP : va_P D vwCl (uX6_lay cI cJ a_p1 i_p1_form i_p1_overOthers i_p1_overTwo i_p1_first i_p1_size i_p1_place i_p1_whole a_this a_behinds a_depths i_size i_isRing i_overOthers t1 g_behinds g_depths a_p2 a_p2_codes i_p2_size g_p2_codes) H := hP
  have hD : va_D A (uX6_lay cI cJ a_p1 i_p1_form i_p1_overOthers i_p1_overTwo i_p1_first i_p1_size i_p1_place i_p1_whole a_this a_behinds a_depths i_size i_isRing i_overOthers t1 g_behinds g_depths a_p2 a_p2_codes i_p2_size g_p2_codes) := hD
  refine lv_aload_n hx hb dX6_lay_50 rfl (lv_at hl 0 rfl) ?_
  refine va_get (D := D) (ci := 6) (v := .ref a_behinds) (C := RX6) (T := TX6) (N := 6) hx hb hts jX6_lay_X6 hown hK hP 1 rfl rfl 0 (by decide) (hts _ qX6_lay_9) (fun _ h9 => h9) rfl dX6_lay_51 ?_
  refine lv_iconst (v := 0) hx hb dX6_lay_54 (by decide) ?_
  refine lv_aload_n hx hb dX6_lay_55 rfl (lv_at hl 0 rfl) ?_
  refine va_get (D := D) (ci := 6) (v := .int i_isRing) (C := RX6) (T := TX6) (N := 6) hx hb hts jX6_lay_X6 hown hK hP 1 rfl rfl 3 (by decide) (hts _ qX6_lay_28) (fun _ h9 => h9) rfl dX6_lay_56 ?_
  refine lv_if_eq (tgt := 71) hx hb dX6_lay_59 (by decide) (fun hc => ?_) (fun hc => ?_)
  · have hf := if_yes hc hf
    refine lv_iconst (v := (-1)) hx hb dX6_lay_71 (by decide) ?_
    exact kX6_lay_J72 C hf hrt hP hD hS (lv_sub hl [0, 1, 2] rfl)
  · have hf := if_no hc hf
    refine lv_aload_n hx hb dX6_lay_62 rfl (lv_at hl 0 rfl) ?_
    refine va_get (D := D) (ci := 6) (v := .int i_size) (C := RX6) (T := TX6) (N := 6) hx hb hts jX6_lay_X6 hown hK hP 1 rfl rfl 2 (by decide) (hts _ qX6_lay_24) (fun _ h9 => h9) rfl dX6_lay_63 ?_
    refine lv_iconst (v := 1) hx hb dX6_lay_66 (by decide) ?_
    refine lv_isub hx hb dX6_lay_67 ?_
    refine lv_goto (tgt := 72) hx hb dX6_lay_68 (by decide) ?_
    exact kX6_lay_J72 C hf hrt hP hD hS (lv_sub hl [0, 1, 2] rfl)
set_option maxHeartbeats 4000000 in
set_option maxRecDepth 100000 in
theorem kX6_lay_J23 {p : Program} {l : Launch} {e : Env} {s : State} {m : MethodId} {args : Array Value} {below : List Frame} {meth : Method} {c : Code} {Q : State → Prop} {A : Nat → Prop} {D : va_G} {cI cJ : ClassId} (C : bC cX6_lay 6 RX6 wsX6_lay D cI cJ p s m args c meth A)
    {a_p1 : Nat} {i_p1_form : Int32} {i_p1_overOthers : Int32} {i_p1_overTwo : Int32} {i_p1_first : Int32} {i_p1_size : Int32} {i_p1_place : Int32} {i_p1_whole : Int32} {a_this : Nat} {a_behinds : Nat} {a_depths : Nat} {i_size : Int32} {i_isRing : Int32} {i_overOthers : Int32} {i_longestLeap : Int32} {g_behinds : Nat → Int32} {g_depths : Nat → Int32} {a_p2 : Nat} {a_p2_codes : Nat} {i_p2_size : Int32} {g_p2_codes : Nat → Int32} {z : Nat} {t1 : Int32} {o : Int32 × Int32 × Int32 × Int32 × (Nat → Int32) × (Nat → Int32)} (hf : fX6_lay_J23 z t1 i_p1_size i_p1_form i_p1_overOthers i_p1_overTwo i_isRing i_size g_behinds g_depths i_p1_first i_p2_size g_p2_codes i_overOthers i_longestLeap = some o)
    (hrt : ∀ (H : Heap) (locs : List Loc) (ls : Array Slot) (pc : Nat), va_P D vwCl (uX6_lay cI cJ a_p1 i_p1_form i_p1_overOthers i_p1_overTwo i_p1_first i_p1_size i_p1_place i_p1_whole a_this a_behinds a_depths o.1 o.2.1 o.2.2.1 o.2.2.2.1 o.2.2.2.2.1 o.2.2.2.2.2 a_p2 a_p2_codes i_p2_size g_p2_codes) H → va_D A (uX6_lay cI cJ a_p1 i_p1_form i_p1_overOthers i_p1_overTwo i_p1_first i_p1_size i_p1_place i_p1_whole a_this a_behinds a_depths o.1 o.2.1 o.2.2.1 o.2.2.2.1 o.2.2.2.2.1 o.2.2.2.2.2 a_p2 a_p2_codes i_p2_size g_p2_codes) → va_S A s.heap H locs → decode cX6_lay pc = .ok (.return_, 1) → W p l e rX6_lay s m args below meth c H locs 0 0 Q (F0 m pc ls []))
    {H : Heap} {locs : List Loc} {ls : Array Slot} (hP : va_P D vwCl (uX6_lay cI cJ a_p1 i_p1_form i_p1_overOthers i_p1_overTwo i_p1_first i_p1_size i_p1_place i_p1_whole a_this a_behinds a_depths i_size i_isRing i_overOthers i_longestLeap g_behinds g_depths a_p2 a_p2_codes i_p2_size g_p2_codes) H) (hD : va_D A (uX6_lay cI cJ a_p1 i_p1_form i_p1_overOthers i_p1_overTwo i_p1_first i_p1_size i_p1_place i_p1_whole a_this a_behinds a_depths i_size i_isRing i_overOthers i_longestLeap g_behinds g_depths a_p2 a_p2_codes i_p2_size g_p2_codes)) (hS : va_S A s.heap H locs) (hl : lv_has ls 6 [(0, .ref a_this), (1, .ref a_p1), (2, .ref a_p2)]) : W p l e rX6_lay s m args below meth c H locs 0 0 Q (F0 m 23 ls [.int t1, .ref a_this]) := by
  obtain ⟨hx, hb, hml, hown, hts, hK, hN, hA, hlocks⟩ := id C
  unfold fX6_lay_J23 at hf
  obtain ⟨hz9, hf⟩ := zgd_some hf
  refine va_put (D := D) (ci := 6) (v := .int t1) (ty := tyX6 3) (C := RX6) (T := TX6) (N := 6) hx hb hts jX6_lay_X6 tyX6 tyX6_ok nmX6 hown hK hP hD hS 1 rfl rfl 3 (by decide) (hts _ qX6_lay_28) (fun _ h9 => h9) rfl (tyX6_ok 3 (by decide)) (zgd_nar hz9) (zgd_fit hz9) (Nat.le_of_ble_eq_true rfl) dX6_lay_23 (fun H locs hP hD hS => ?_)
  have hP : va_P D vwCl (uX6_lay cI cJ a_p1 i_p1_form i_p1_overOthers i_p1_overTwo i_p1_first i_p1_size i_p1_place i_p1_whole a_this a_behinds a_depths i_size t1 i_overOthers i_longestLeap g_behinds g_depths a_p2 a_p2_codes i_p2_size g_p2_codes) H := hP
  have hD : va_D A (uX6_lay cI cJ a_p1 i_p1_form i_p1_overOthers i_p1_overTwo i_p1_first i_p1_size i_p1_place i_p1_whole a_this a_behinds a_depths i_size t1 i_overOthers i_longestLeap g_behinds g_depths a_p2 a_p2_codes i_p2_size g_p2_codes) := hD
  refine lv_aload_n hx hb dX6_lay_26 rfl (lv_at hl 0 rfl) ?_
  refine lv_aload_n hx hb dX6_lay_27 rfl (lv_at hl 1 rfl) ?_
  refine va_get (D := D) (ci := 7) (v := .int i_p1_overOthers) (C := RX7) (T := TX7) (N := 7) hx hb hts jX6_lay_X7 hown hK hP 0 rfl rfl 1 (by decide) (hts _ qX6_lay_32) (fun _ h9 => h9) rfl dX6_lay_28 ?_
  obtain ⟨hz9, hf⟩ := zgd_some hf
  refine va_put (D := D) (ci := 6) (v := .int i_p1_overOthers) (ty := tyX6 4) (C := RX6) (T := TX6) (N := 6) hx hb hts jX6_lay_X6 tyX6 tyX6_ok nmX6 hown hK hP hD hS 1 rfl rfl 4 (by decide) (hts _ qX6_lay_35) (fun _ h9 => h9) rfl (tyX6_ok 4 (by decide)) (zgd_nar hz9) (zgd_fit hz9) (Nat.le_of_ble_eq_true rfl) dX6_lay_31 (fun H locs hP hD hS => ?_)
  have hP : va_P D vwCl (uX6_lay cI cJ a_p1 i_p1_form i_p1_overOthers i_p1_overTwo i_p1_first i_p1_size i_p1_place i_p1_whole a_this a_behinds a_depths i_size t1 i_p1_overOthers i_longestLeap g_behinds g_depths a_p2 a_p2_codes i_p2_size g_p2_codes) H := hP
  have hD : va_D A (uX6_lay cI cJ a_p1 i_p1_form i_p1_overOthers i_p1_overTwo i_p1_first i_p1_size i_p1_place i_p1_whole a_this a_behinds a_depths i_size t1 i_p1_overOthers i_longestLeap g_behinds g_depths a_p2 a_p2_codes i_p2_size g_p2_codes) := hD
  refine lv_aload_n hx hb dX6_lay_34 rfl (lv_at hl 0 rfl) ?_
  refine lv_aload_n hx hb dX6_lay_35 rfl (lv_at hl 1 rfl) ?_
  refine va_get (D := D) (ci := 7) (v := .int i_p1_overTwo) (C := RX7) (T := TX7) (N := 7) hx hb hts jX6_lay_X7 hown hK hP 0 rfl rfl 2 (by decide) (hts _ qX6_lay_36) (fun _ h9 => h9) rfl dX6_lay_36 ?_
  refine lv_if_eq (tgt := 46) hx hb dX6_lay_39 (by decide) (fun hc => ?_) (fun hc => ?_)
  · have hf := if_yes hc hf
    refine lv_iconst (v := 2) hx hb dX6_lay_46 (by decide) ?_
    exact kX6_lay_J47 C hf hrt hP hD hS (lv_sub hl [0, 1, 2] rfl)
  · have hf := if_no hc hf
    refine lv_iconst (v := 3) hx hb dX6_lay_42 (by decide) ?_
    refine lv_goto (tgt := 47) hx hb dX6_lay_43 (by decide) ?_
    exact kX6_lay_J47 C hf hrt hP hD hS (lv_sub hl [0, 1, 2] rfl)
set_option maxHeartbeats 4000000 in
set_option maxRecDepth 100000 in
theorem kX6_lay_0 {p : Program} {l : Launch} {e : Env} {s : State} {m : MethodId} {args : Array Value} {below : List Frame} {meth : Method} {c : Code} {Q : State → Prop} {A : Nat → Prop} {D : va_G} {cI cJ : ClassId} (C : bC cX6_lay 6 RX6 wsX6_lay D cI cJ p s m args c meth A)
    {a_p1 : Nat} {i_p1_form : Int32} {i_p1_overOthers : Int32} {i_p1_overTwo : Int32} {i_p1_first : Int32} {i_p1_size : Int32} {i_p1_place : Int32} {i_p1_whole : Int32} {a_this : Nat} {a_behinds : Nat} {a_depths : Nat} {i_size : Int32} {i_isRing : Int32} {i_overOthers : Int32} {i_longestLeap : Int32} {g_behinds : Nat → Int32} {g_depths : Nat → Int32} {a_p2 : Nat} {a_p2_codes : Nat} {i_p2_size : Int32} {g_p2_codes : Nat → Int32} {z : Nat} {o : Int32 × Int32 × Int32 × Int32 × (Nat → Int32) × (Nat → Int32)} (hf : fX6_lay z i_p1_size i_p1_form i_p1_overOthers i_p1_overTwo i_isRing i_size g_behinds g_depths i_p1_first i_p2_size g_p2_codes i_overOthers i_longestLeap = some o)
    (hrt : ∀ (H : Heap) (locs : List Loc) (ls : Array Slot) (pc : Nat), va_P D vwCl (uX6_lay cI cJ a_p1 i_p1_form i_p1_overOthers i_p1_overTwo i_p1_first i_p1_size i_p1_place i_p1_whole a_this a_behinds a_depths o.1 o.2.1 o.2.2.1 o.2.2.2.1 o.2.2.2.2.1 o.2.2.2.2.2 a_p2 a_p2_codes i_p2_size g_p2_codes) H → va_D A (uX6_lay cI cJ a_p1 i_p1_form i_p1_overOthers i_p1_overTwo i_p1_first i_p1_size i_p1_place i_p1_whole a_this a_behinds a_depths o.1 o.2.1 o.2.2.1 o.2.2.2.1 o.2.2.2.2.1 o.2.2.2.2.2 a_p2 a_p2_codes i_p2_size g_p2_codes) → va_S A s.heap H locs → decode cX6_lay pc = .ok (.return_, 1) → W p l e rX6_lay s m args below meth c H locs 0 0 Q (F0 m pc ls []))
    {H : Heap} {locs : List Loc} {ls : Array Slot} (hP : va_P D vwCl (uX6_lay cI cJ a_p1 i_p1_form i_p1_overOthers i_p1_overTwo i_p1_first i_p1_size i_p1_place i_p1_whole a_this a_behinds a_depths i_size i_isRing i_overOthers i_longestLeap g_behinds g_depths a_p2 a_p2_codes i_p2_size g_p2_codes) H) (hD : va_D A (uX6_lay cI cJ a_p1 i_p1_form i_p1_overOthers i_p1_overTwo i_p1_first i_p1_size i_p1_place i_p1_whole a_this a_behinds a_depths i_size i_isRing i_overOthers i_longestLeap g_behinds g_depths a_p2 a_p2_codes i_p2_size g_p2_codes)) (hS : va_S A s.heap H locs) (hl : lv_has ls 6 [(0, .ref a_this), (1, .ref a_p1), (2, .ref a_p2)]) : W p l e rX6_lay s m args below meth c H locs 0 0 Q (F0 m 0 ls []) := by
  obtain ⟨hx, hb, hml, hown, hts, hK, hN, hA, hlocks⟩ := id C
  unfold fX6_lay at hf
  refine lv_aload_n hx hb dX6_lay_0 rfl (lv_at hl 0 rfl) ?_
  refine lv_aload_n hx hb dX6_lay_1 rfl (lv_at hl 1 rfl) ?_
  refine va_get (D := D) (ci := 7) (v := .int i_p1_size) (C := RX7) (T := TX7) (N := 7) hx hb hts jX6_lay_X7 hown hK hP 0 rfl rfl 4 (by decide) (hts _ qX6_lay_18) (fun _ h9 => h9) rfl dX6_lay_2 ?_
  refine va_put (D := D) (ci := 6) (v := .int i_p1_size) (ty := tyX6 2) (C := RX6) (T := TX6) (N := 6) hx hb hts jX6_lay_X6 tyX6 tyX6_ok nmX6 hown hK hP hD hS 1 rfl rfl 2 (by decide) (hts _ qX6_lay_24) (fun _ h9 => h9) rfl (tyX6_ok 2 (by decide)) rfl rfl (Nat.le_of_ble_eq_true rfl) dX6_lay_5 (fun H locs hP hD hS => ?_)
  have hP : va_P D vwCl (uX6_lay cI cJ a_p1 i_p1_form i_p1_overOthers i_p1_overTwo i_p1_first i_p1_size i_p1_place i_p1_whole a_this a_behinds a_depths i_p1_size i_isRing i_overOthers i_longestLeap g_behinds g_depths a_p2 a_p2_codes i_p2_size g_p2_codes) H := hP
  have hD : va_D A (uX6_lay cI cJ a_p1 i_p1_form i_p1_overOthers i_p1_overTwo i_p1_first i_p1_size i_p1_place i_p1_whole a_this a_behinds a_depths i_p1_size i_isRing i_overOthers i_longestLeap g_behinds g_depths a_p2 a_p2_codes i_p2_size g_p2_codes) := hD
  refine lv_aload_n hx hb dX6_lay_8 rfl (lv_at hl 0 rfl) ?_
  refine lv_aload_n hx hb dX6_lay_9 rfl (lv_at hl 1 rfl) ?_
  refine va_get (D := D) (ci := 7) (v := .int i_p1_form) (C := RX7) (T := TX7) (N := 7) hx hb hts jX6_lay_X7 hown hK hP 0 rfl rfl 0 (by decide) (hts _ qX6_lay_25) (fun _ h9 => h9) rfl dX6_lay_10 ?_
  refine lv_bipush (v := 114) hx hb dX6_lay_13 (by decide) ?_
  refine lv_icmp_ne (tgt := 22) hx hb dX6_lay_15 (by decide) (fun hc => ?_) (fun hc => ?_)
  · have hf := if_no hc hf
    refine lv_iconst (v := 0) hx hb dX6_lay_22 (by decide) ?_
    exact kX6_lay_J23 C hf hrt hP hD hS (lv_sub hl [0, 1, 2] rfl)
  · have hf := if_yes hc hf
    refine lv_iconst (v := 1) hx hb dX6_lay_18 (by decide) ?_
    refine lv_goto (tgt := 23) hx hb dX6_lay_19 (by decide) ?_
    exact kX6_lay_J23 C hf hrt hP hD hS (lv_sub hl [0, 1, 2] rfl)
set_option maxHeartbeats 4000000 in
set_option maxRecDepth 100000 in
theorem mX6_lay (l : Launch) (D : va_G) (cI cJ : ClassId) (sz : Nat) {a_p1 : Nat} {i_p1_form : Int32} {i_p1_overOthers : Int32} {i_p1_overTwo : Int32} {i_p1_first : Int32} {i_p1_size : Int32} {i_p1_place : Int32} {i_p1_whole : Int32} {a_this : Nat} {a_behinds : Nat} {a_depths : Nat} {i_size : Int32} {i_isRing : Int32} {i_overOthers : Int32} {i_longestLeap : Int32} {g_behinds : Nat → Int32} {g_depths : Nat → Int32} {a_p2 : Nat} {a_p2_codes : Nat} {i_p2_size : Int32} {g_p2_codes : Nat → Int32} {z : Nat} {o : Int32 × Int32 × Int32 × Int32 × (Nat → Int32) × (Nat → Int32)} (hf : fX6_lay z i_p1_size i_p1_form i_p1_overOthers i_p1_overTwo i_isRing i_size g_behinds g_depths i_p1_first i_p2_size g_p2_codes i_overOthers i_longestLeap = some o) : Met l yX6_lay wsX6_lay rX6_lay (va_Pc [.ref a_this, .ref a_p1, .ref a_p2] (kP D cI cJ (uX6_lay cI cJ a_p1 i_p1_form i_p1_overOthers i_p1_overTwo i_p1_first i_p1_size i_p1_place i_p1_whole a_this a_behinds a_depths i_size i_isRing i_overOthers i_longestLeap g_behinds g_depths a_p2 a_p2_codes i_p2_size g_p2_codes) sz)) (va_Qv (fun (_ : Unit) => True) (fun _ t => kB D (va_A (uX6_lay cI cJ a_p1 i_p1_form i_p1_overOthers i_p1_overTwo i_p1_first i_p1_size i_p1_place i_p1_whole a_this a_behinds a_depths i_size i_isRing i_overOthers i_longestLeap g_behinds g_depths a_p2 a_p2_codes i_p2_size g_p2_codes) sz) (uX6_lay cI cJ a_p1 i_p1_form i_p1_overOthers i_p1_overTwo i_p1_first i_p1_size i_p1_place i_p1_whole a_this a_behinds a_depths o.1 o.2.1 o.2.2.1 o.2.2.2.1 o.2.2.2.2.1 o.2.2.2.2.2 a_p2 a_p2_codes i_p2_size g_p2_codes) t) (va_A (uX6_lay cI cJ a_p1 i_p1_form i_p1_overOthers i_p1_overTwo i_p1_first i_p1_size i_p1_place i_p1_whole a_this a_behinds a_depths i_size i_isRing i_overOthers i_longestLeap g_behinds g_depths a_p2 a_p2_codes i_p2_size g_p2_codes) sz)) 0 0 (va_A (uX6_lay cI cJ a_p1 i_p1_form i_p1_overOthers i_p1_overTwo i_p1_first i_p1_size i_p1_place i_p1_whole a_this a_behinds a_depths i_size i_isRing i_overOthers i_longestLeap g_behinds g_depths a_p2 a_p2_codes i_p2_size g_p2_codes) sz) :=
  met_v (by decide) rfl (Nat.le_of_ble_eq_true rfl) (fun p e s m below meth c A Q C hrt ls hl hP hD hS => kX6_lay_0 (A := A) C hf hrt hP hD hS hl)

/-! ===== FrogsOnRing$Pond.turned(II)I ===== -/
abbrev uX6_turned (cI cJ : ClassId) (a_this : Nat) (a_behinds : Nat) (a_depths : Nat) (i_size : Int32) (i_isRing : Int32) (i_overOthers : Int32) (i_longestLeap : Int32) : va_W := [(a_this, .inr (6, [.ref a_behinds, .ref a_depths, .int i_size, .int i_isRing, .int i_overOthers, .int i_longestLeap]))]
def rX6_turned : Room := { frames := 0, cells := 0, slots := 0, locals := 0 }
theorem hdX6_turned : yX6_turned.cls = RX6 ∧ yX6_turned.cls ≠ "java/lang/invoke/MethodHandle" ∧ yX6_turned.cls ≠ "java/lang/invoke/VarHandle" ∧ (parseMethodDescriptor yX6_turned.desc).map (fun d => d.parameters.length) = some 2 := by decide +kernel
set_option maxRecDepth 20000 in
theorem jX6_turned_X6 : ∀ w ∈ u_ws RX6 TX6 6, w ∈ wsX6_turned := by decide +kernel
set_option maxRecDepth 20000 in
theorem qX6_turned_24 : Cond.fieldLink RX6 24 "FrogsOnRing$Pond" "size" "I" ∈ wsX6_turned := by decide +kernel
set_option maxHeartbeats 4000000 in
set_option maxRecDepth 100000 in
theorem kX6_turned_0 {p : Program} {l : Launch} {e : Env} {s : State} {m : MethodId} {args : Array Value} {below : List Frame} {meth : Method} {c : Code} {Q : State → Prop} {A : Nat → Prop} {D : va_G} {cI cJ : ClassId} (C : bC cX6_turned 4 RX6 wsX6_turned D cI cJ p s m args c meth A)
    {a_this : Nat} {a_behinds : Nat} {a_depths : Nat} {i_size : Int32} {i_isRing : Int32} {i_overOthers : Int32} {i_longestLeap : Int32} {x1 : Int32} {x2 : Int32} {o : Int32} (hf : fX6_turned x1 x2 i_size = o)
    (hrt : ∀ (H : Heap) (locs : List Loc) (ls : Array Slot) (pc : Nat), va_P D vwCl (uX6_turned cI cJ a_this a_behinds a_depths i_size i_isRing i_overOthers i_longestLeap) H → va_D A (uX6_turned cI cJ a_this a_behinds a_depths i_size i_isRing i_overOthers i_longestLeap) → va_S A s.heap H locs → decode cX6_turned pc = .ok (.ireturn, 1) → W p l e rX6_turned s m args below meth c H locs 0 0 Q (F0 m pc ls [.int o]))
    {H : Heap} {locs : List Loc} {ls : Array Slot} (hP : va_P D vwCl (uX6_turned cI cJ a_this a_behinds a_depths i_size i_isRing i_overOthers i_longestLeap) H) (hD : va_D A (uX6_turned cI cJ a_this a_behinds a_depths i_size i_isRing i_overOthers i_longestLeap)) (hS : va_S A s.heap H locs) (hl : lv_has ls 4 [(0, .ref a_this), (1, .int x1), (2, .int x2)]) : W p l e rX6_turned s m args below meth c H locs 0 0 Q (F0 m 0 ls []) := by
  obtain ⟨hx, hb, hml, hown, hts, hK, hN, hA, hlocks⟩ := id C
  unfold fX6_turned at hf
  refine lv_iconst (v := 1) hx hb dX6_turned_0 (by decide) ?_
  refine lv_iconst (v := 2) hx hb dX6_turned_1 (by decide) ?_
  refine lv_aload_n hx hb dX6_turned_2 rfl (lv_at hl 0 rfl) ?_
  refine va_get (D := D) (ci := 6) (v := .int i_size) (C := RX6) (T := TX6) (N := 6) hx hb hts jX6_turned_X6 hown hK hP 0 rfl rfl 2 (by decide) (hts _ qX6_turned_24) (fun _ h9 => h9) rfl dX6_turned_3 ?_
  refine lv_imul hx hb dX6_turned_6 ?_
  refine lv_ishl hx hb dX6_turned_7 ?_
  refine lv_iconst (v := 1) hx hb dX6_turned_8 (by decide) ?_
  refine lv_isub hx hb dX6_turned_9 ?_
  refine lv_istore_n (lv' := [(3, .int (((1 : Int32) <<< ((2 * i_size) &&& 31)) - 1)), (0, .ref a_this), (1, .int x1), (2, .int x2)]) hx hb dX6_turned_10 rfl hl (by decide) rfl (fun ls hl => ?_)
  refine lv_iload_n hx hb dX6_turned_11 rfl (lv_at hl 2 rfl) ?_
  refine lv_iconst (v := 2) hx hb dX6_turned_12 (by decide) ?_
  refine lv_iload_n hx hb dX6_turned_13 rfl (lv_at hl 3 rfl) ?_
  refine lv_imul hx hb dX6_turned_14 ?_
  refine lv_ishl hx hb dX6_turned_15 ?_
  refine lv_iload_n hx hb dX6_turned_16 rfl (lv_at hl 2 rfl) ?_
  refine lv_iconst (v := 2) hx hb dX6_turned_17 (by decide) ?_
  refine lv_aload_n hx hb dX6_turned_18 rfl (lv_at hl 1 rfl) ?_
  refine va_get (D := D) (ci := 6) (v := .int i_size) (C := RX6) (T := TX6) (N := 6) hx hb hts jX6_turned_X6 hown hK hP 0 rfl rfl 2 (by decide) (hts _ qX6_turned_24) (fun _ h9 => h9) rfl dX6_turned_19 ?_
  refine lv_iload_n hx hb dX6_turned_22 rfl (lv_at hl 3 rfl) ?_
  refine lv_isub hx hb dX6_turned_23 ?_
  refine lv_imul hx hb dX6_turned_24 ?_
  refine lv_ishr hx hb dX6_turned_25 ?_
  refine lv_ior hx hb dX6_turned_26 ?_
  refine lv_iload_n hx hb dX6_turned_27 rfl (lv_at hl 0 rfl) ?_
  refine lv_iand hx hb dX6_turned_28 ?_
  subst hf
  exact hrt H locs ls _ hP hD hS dX6_turned_29
set_option maxHeartbeats 4000000 in
set_option maxRecDepth 100000 in
theorem mX6_turned (l : Launch) (D : va_G) (cI cJ : ClassId) (sz : Nat) {a_this : Nat} {a_behinds : Nat} {a_depths : Nat} {i_size : Int32} {i_isRing : Int32} {i_overOthers : Int32} {i_longestLeap : Int32} {x1 : Int32} {x2 : Int32} : Met l yX6_turned wsX6_turned rX6_turned (va_Pc [.ref a_this, .int x1, .int x2] (kP D cI cJ (uX6_turned cI cJ a_this a_behinds a_depths i_size i_isRing i_overOthers i_longestLeap) sz)) (va_Qi (fun r' (_ : Unit) => r' = (fX6_turned x1 x2 i_size)) (fun _ t => kB D (va_A (uX6_turned cI cJ a_this a_behinds a_depths i_size i_isRing i_overOthers i_longestLeap) sz) (uX6_turned cI cJ a_this a_behinds a_depths i_size i_isRing i_overOthers i_longestLeap) t) (va_A (uX6_turned cI cJ a_this a_behinds a_depths i_size i_isRing i_overOthers i_longestLeap) sz)) 0 0 (va_A (uX6_turned cI cJ a_this a_behinds a_depths i_size i_isRing i_overOthers i_longestLeap) sz) :=
  met_i (by decide) rfl (Nat.le_of_ble_eq_true rfl) (fun p e s m below meth c A Q C hrt ls hl hP hD hS => kX6_turned_0 (A := A) C rfl hrt hP hD hS hl)

/-! ===== FrogsOnRing$Reading.readForm(LFrogsOnRing$Page;)V ===== -/
abbrev uX7_readForm (cI cJ : ClassId) (a_p1 : Nat) (a_p1_codes : Nat) (i_p1_size : Int32) (g_p1_codes : Nat → Int32) (a_this : Nat) (i_form : Int32) (i_overOthers : Int32) (i_overTwo : Int32) (i_first : Int32) (i_size : Int32) (i_place : Int32) (i_whole : Int32) : va_W := [(a_p1, .inr (5, [.ref a_p1_codes, .int i_p1_size])), (a_p1_codes, .inl (cI, 24, .inl g_p1_codes)), (a_this, .inr (7, [.int i_form, .int i_overOthers, .int i_overTwo, .int i_first, .int i_size, .int i_place, .int i_whole]))]
def rX7_readForm : Room := { frames := 1, cells := 0, slots := 0, locals := 21 }
theorem hdX7_readForm : yX7_readForm.cls = RX7 ∧ yX7_readForm.cls ≠ "java/lang/invoke/MethodHandle" ∧ yX7_readForm.cls ≠ "java/lang/invoke/VarHandle" ∧ (parseMethodDescriptor yX7_readForm.desc).map (fun d => d.parameters.length) = some 1 := by decide +kernel
set_option maxRecDepth 20000 in
theorem jX7_readForm_X7 : ∀ w ∈ u_ws RX7 TX7 7, w ∈ wsX7_readForm := by decide +kernel
set_option maxRecDepth 20000 in
theorem qX7_readForm_22 : Cond.fieldLink RX7 22 "FrogsOnRing$Reading" "place" "I" ∈ wsX7_readForm := by decide +kernel
set_option maxRecDepth 20000 in
theorem qX7_readForm_42 : Cond.fieldLink RX7 42 "FrogsOnRing$Reading" "form" "I" ∈ wsX7_readForm := by decide +kernel
set_option maxHeartbeats 4000000 in
set_option maxRecDepth 100000 in
theorem kX7_readForm_0 {p : Program} {l : Launch} {e : Env} {s : State} {m : MethodId} {args : Array Value} {below : List Frame} {meth : Method} {c : Code} {Q : State → Prop} {A : Nat → Prop} {D : va_G} {cI cJ : ClassId} (C : bC cX7_readForm 2 RX7 wsX7_readForm D cI cJ p s m args c meth A)
    {a_p1 : Nat} {a_p1_codes : Nat} {i_p1_size : Int32} {g_p1_codes : Nat → Int32} {a_this : Nat} {i_form : Int32} {i_overOthers : Int32} {i_overTwo : Int32} {i_first : Int32} {i_size : Int32} {i_place : Int32} {i_whole : Int32} {z : Nat} {o : Int32 × Int32} (hf : fX7_readForm z i_p1_size g_p1_codes i_form i_place = some o)
    (hrt : ∀ (H : Heap) (locs : List Loc) (ls : Array Slot) (pc : Nat), va_P D vwCl (uX7_readForm cI cJ a_p1 a_p1_codes i_p1_size g_p1_codes a_this o.1 i_overOthers i_overTwo i_first i_size o.2 i_whole) H → va_D A (uX7_readForm cI cJ a_p1 a_p1_codes i_p1_size g_p1_codes a_this o.1 i_overOthers i_overTwo i_first i_size o.2 i_whole) → va_S A s.heap H locs → decode cX7_readForm pc = .ok (.return_, 1) → W p l e rX7_readForm s m args below meth c H locs 0 0 Q (F0 m pc ls []))
    {H : Heap} {locs : List Loc} {ls : Array Slot} (hP : va_P D vwCl (uX7_readForm cI cJ a_p1 a_p1_codes i_p1_size g_p1_codes a_this i_form i_overOthers i_overTwo i_first i_size i_place i_whole) H) (hD : va_D A (uX7_readForm cI cJ a_p1 a_p1_codes i_p1_size g_p1_codes a_this i_form i_overOthers i_overTwo i_first i_size i_place i_whole)) (hS : va_S A s.heap H locs) (hl : lv_has ls 2 [(0, .ref a_this), (1, .ref a_p1)]) : W p l e rX7_readForm s m args below meth c H locs 0 0 Q (F0 m 0 ls []) := by
  obtain ⟨hx, hb, hml, hown, hts, hK, hN, hA, hlocks⟩ := id C
  unfold fX7_readForm at hf
  refine lv_aload_n hx hb dX7_readForm_0 rfl (lv_at hl 0 rfl) ?_
  refine lv_aload_n hx hb dX7_readForm_1 rfl (lv_at hl 1 rfl) ?_
  refine lv_iconst (v := 0) hx hb dX7_readForm_2 (by decide) ?_
  obtain ⟨q1, hq, hf⟩ := ob_some hf
  refine cl_i (wc := (uX5_letterAt cI cJ a_p1 a_p1_codes i_p1_size g_p1_codes)) (w1 := (uX5_letterAt cI cJ a_p1 a_p1_codes i_p1_size g_p1_codes)) (rn_V (As := [.int 0]) (b := a_p1) (rest := [.ref a_this]) (wc := (uX5_letterAt cI cJ a_p1 a_p1_codes i_p1_size g_p1_codes)) (ci := 5) (q0 := 0) C hP hD [0, 1] rfl rfl rfl rfl (mX5_letterAt l D cI cJ H.size hq) 1 gX7_readForm_X5_letterAt rfl ⟨rfl, rfl, Nat.le_of_ble_eq_true rfl, Nat.le_of_ble_eq_true rfl⟩ hdX5_letterAt rfl hl.1 rfl (Nat.le_of_ble_eq_true rfl) dX7_readForm_3) hP hD hS hA [0, 1] rfl rfl (fun H locs hP hD hS => ?_)
  have hP : va_P D vwCl (uX7_readForm cI cJ a_p1 a_p1_codes i_p1_size g_p1_codes a_this i_form i_overOthers i_overTwo i_first i_size i_place i_whole) H := hP
  have hD : va_D A (uX7_readForm cI cJ a_p1 a_p1_codes i_p1_size g_p1_codes a_this i_form i_overOthers i_overTwo i_first i_size i_place i_whole) := hD
  refine va_put (D := D) (ci := 7) (v := .int q1) (ty := tyX7 0) (C := RX7) (T := TX7) (N := 7) hx hb hts jX7_readForm_X7 tyX7 tyX7_ok nmX7 hown hK hP hD hS 2 rfl rfl 0 (by decide) (hts _ qX7_readForm_42) (fun _ h9 => h9) rfl (tyX7_ok 0 (by decide)) rfl rfl (Nat.le_of_ble_eq_true rfl) dX7_readForm_6 (fun H locs hP hD hS => ?_)
  have hP : va_P D vwCl (uX7_readForm cI cJ a_p1 a_p1_codes i_p1_size g_p1_codes a_this q1 i_overOthers i_overTwo i_first i_size i_place i_whole) H := hP
  have hD : va_D A (uX7_readForm cI cJ a_p1 a_p1_codes i_p1_size g_p1_codes a_this q1 i_overOthers i_overTwo i_first i_size i_place i_whole) := hD
  refine lv_aload_n hx hb dX7_readForm_9 rfl (lv_at hl 0 rfl) ?_
  refine va_get (D := D) (ci := 7) (v := .int q1) (C := RX7) (T := TX7) (N := 7) hx hb hts jX7_readForm_X7 hown hK hP 2 rfl rfl 0 (by decide) (hts _ qX7_readForm_42) (fun _ h9 => h9) rfl dX7_readForm_10 ?_
  refine lv_bipush (v := 114) hx hb dX7_readForm_13 (by decide) ?_
  refine lv_icmp_eq (tgt := 36) hx hb dX7_readForm_15 (by decide) (fun hc => ?_) (fun hc => ?_)
  · have hf := if_yes hc hf
    refine lv_aload_n hx hb dX7_readForm_36 rfl (lv_at hl 0 rfl) ?_
    refine lv_iconst (v := 1) hx hb dX7_readForm_37 (by decide) ?_
    refine va_put (D := D) (ci := 7) (v := .int 1) (ty := tyX7 5) (C := RX7) (T := TX7) (N := 7) hx hb hts jX7_readForm_X7 tyX7 tyX7_ok nmX7 hown hK hP hD hS 2 rfl rfl 5 (by decide) (hts _ qX7_readForm_22) (fun _ h9 => h9) rfl (tyX7_ok 5 (by decide)) rfl rfl (Nat.le_of_ble_eq_true rfl) dX7_readForm_38 (fun H locs hP hD hS => ?_)
    have hP : va_P D vwCl (uX7_readForm cI cJ a_p1 a_p1_codes i_p1_size g_p1_codes a_this q1 i_overOthers i_overTwo i_first i_size 1 i_whole) H := hP
    have hD : va_D A (uX7_readForm cI cJ a_p1 a_p1_codes i_p1_size g_p1_codes a_this q1 i_overOthers i_overTwo i_first i_size 1 i_whole) := hD
    have ho := Option.some.inj hf
    subst ho
    exact hrt H locs ls _ hP hD hS dX7_readForm_41
  · have hf := if_no hc hf
    refine lv_aload_n hx hb dX7_readForm_18 rfl (lv_at hl 0 rfl) ?_
    refine va_get (D := D) (ci := 7) (v := .int q1) (C := RX7) (T := TX7) (N := 7) hx hb hts jX7_readForm_X7 hown hK hP 2 rfl rfl 0 (by decide) (hts _ qX7_readForm_42) (fun _ h9 => h9) rfl dX7_readForm_19 ?_
    refine lv_bipush (v := 119) hx hb dX7_readForm_22 (by decide) ?_
    refine lv_icmp_eq (tgt := 36) hx hb dX7_readForm_24 (by decide) (fun hc => ?_) (fun hc => ?_)
    · have hf := if_yes hc hf
      refine lv_aload_n hx hb dX7_readForm_36 rfl (lv_at hl 0 rfl) ?_
      refine lv_iconst (v := 1) hx hb dX7_readForm_37 (by decide) ?_
      refine va_put (D := D) (ci := 7) (v := .int 1) (ty := tyX7 5) (C := RX7) (T := TX7) (N := 7) hx hb hts jX7_readForm_X7 tyX7 tyX7_ok nmX7 hown hK hP hD hS 2 rfl rfl 5 (by decide) (hts _ qX7_readForm_22) (fun _ h9 => h9) rfl (tyX7_ok 5 (by decide)) rfl rfl (Nat.le_of_ble_eq_true rfl) dX7_readForm_38 (fun H locs hP hD hS => ?_)
      have hP : va_P D vwCl (uX7_readForm cI cJ a_p1 a_p1_codes i_p1_size g_p1_codes a_this q1 i_overOthers i_overTwo i_first i_size 1 i_whole) H := hP
      have hD : va_D A (uX7_readForm cI cJ a_p1 a_p1_codes i_p1_size g_p1_codes a_this q1 i_overOthers i_overTwo i_first i_size 1 i_whole) := hD
      have ho := Option.some.inj hf
      subst ho
      exact hrt H locs ls _ hP hD hS dX7_readForm_41
    · have hf := if_no hc hf
      refine lv_aload_n hx hb dX7_readForm_27 rfl (lv_at hl 0 rfl) ?_
      refine va_get (D := D) (ci := 7) (v := .int q1) (C := RX7) (T := TX7) (N := 7) hx hb hts jX7_readForm_X7 hown hK hP 2 rfl rfl 0 (by decide) (hts _ qX7_readForm_42) (fun _ h9 => h9) rfl dX7_readForm_28 ?_
      refine lv_bipush (v := 116) hx hb dX7_readForm_31 (by decide) ?_
      refine lv_icmp_ne (tgt := 41) hx hb dX7_readForm_33 (by decide) (fun hc => ?_) (fun hc => ?_)
      · have hf := if_no hc hf
        have ho := Option.some.inj hf
        subst ho
        exact hrt H locs ls _ hP hD hS dX7_readForm_41
      · have hf := if_yes hc hf
        refine lv_aload_n hx hb dX7_readForm_36 rfl (lv_at hl 0 rfl) ?_
        refine lv_iconst (v := 1) hx hb dX7_readForm_37 (by decide) ?_
        refine va_put (D := D) (ci := 7) (v := .int 1) (ty := tyX7 5) (C := RX7) (T := TX7) (N := 7) hx hb hts jX7_readForm_X7 tyX7 tyX7_ok nmX7 hown hK hP hD hS 2 rfl rfl 5 (by decide) (hts _ qX7_readForm_22) (fun _ h9 => h9) rfl (tyX7_ok 5 (by decide)) rfl rfl (Nat.le_of_ble_eq_true rfl) dX7_readForm_38 (fun H locs hP hD hS => ?_)
        have hP : va_P D vwCl (uX7_readForm cI cJ a_p1 a_p1_codes i_p1_size g_p1_codes a_this q1 i_overOthers i_overTwo i_first i_size 1 i_whole) H := hP
        have hD : va_D A (uX7_readForm cI cJ a_p1 a_p1_codes i_p1_size g_p1_codes a_this q1 i_overOthers i_overTwo i_first i_size 1 i_whole) := hD
        have ho := Option.some.inj hf
        subst ho
        exact hrt H locs ls _ hP hD hS dX7_readForm_41
set_option maxHeartbeats 4000000 in
set_option maxRecDepth 100000 in
theorem mX7_readForm (l : Launch) (D : va_G) (cI cJ : ClassId) (sz : Nat) {a_p1 : Nat} {a_p1_codes : Nat} {i_p1_size : Int32} {g_p1_codes : Nat → Int32} {a_this : Nat} {i_form : Int32} {i_overOthers : Int32} {i_overTwo : Int32} {i_first : Int32} {i_size : Int32} {i_place : Int32} {i_whole : Int32} {z : Nat} {o : Int32 × Int32} (hf : fX7_readForm z i_p1_size g_p1_codes i_form i_place = some o) : Met l yX7_readForm wsX7_readForm rX7_readForm (va_Pc [.ref a_this, .ref a_p1] (kP D cI cJ (uX7_readForm cI cJ a_p1 a_p1_codes i_p1_size g_p1_codes a_this i_form i_overOthers i_overTwo i_first i_size i_place i_whole) sz)) (va_Qv (fun (_ : Unit) => True) (fun _ t => kB D (va_A (uX7_readForm cI cJ a_p1 a_p1_codes i_p1_size g_p1_codes a_this i_form i_overOthers i_overTwo i_first i_size i_place i_whole) sz) (uX7_readForm cI cJ a_p1 a_p1_codes i_p1_size g_p1_codes a_this o.1 i_overOthers i_overTwo i_first i_size o.2 i_whole) t) (va_A (uX7_readForm cI cJ a_p1 a_p1_codes i_p1_size g_p1_codes a_this i_form i_overOthers i_overTwo i_first i_size i_place i_whole) sz)) 0 0 (va_A (uX7_readForm cI cJ a_p1 a_p1_codes i_p1_size g_p1_codes a_this i_form i_overOthers i_overTwo i_first i_size i_place i_whole) sz) :=
  met_v (by decide) rfl (Nat.le_of_ble_eq_true rfl) (fun p e s m below meth c A Q C hrt ls hl hP hD hS => kX7_readForm_0 (A := A) C hf hrt hP hD hS hl)

/-! ===== FrogsOnRing$Reading.takes(LFrogsOnRing$Page;I)Z ===== -/
abbrev uX7_takes (cI cJ : ClassId) (a_this : Nat) (i_form : Int32) (i_overOthers : Int32) (i_overTwo : Int32) (i_first : Int32) (i_size : Int32) (i_place : Int32) (i_whole : Int32) (a_p1 : Nat) (a_p1_codes : Nat) (i_p1_size : Int32) (g_p1_codes : Nat → Int32) : va_W := [(a_this, .inr (7, [.int i_form, .int i_overOthers, .int i_overTwo, .int i_first, .int i_size, .int i_place, .int i_whole])), (a_p1, .inr (5, [.ref a_p1_codes, .int i_p1_size])), (a_p1_codes, .inl (cI, 24, .inl g_p1_codes))]
def rX7_takes : Room := { frames := 1, cells := 0, slots := 0, locals := 21 }
theorem hdX7_takes : yX7_takes.cls = RX7 ∧ yX7_takes.cls ≠ "java/lang/invoke/MethodHandle" ∧ yX7_takes.cls ≠ "java/lang/invoke/VarHandle" ∧ (parseMethodDescriptor yX7_takes.desc).map (fun d => d.parameters.length) = some 2 := by decide +kernel
set_option maxRecDepth 20000 in
theorem jX7_takes_X7 : ∀ w ∈ u_ws RX7 TX7 7, w ∈ wsX7_takes := by decide +kernel
set_option maxRecDepth 20000 in
theorem qX7_takes_22 : Cond.fieldLink RX7 22 "FrogsOnRing$Reading" "place" "I" ∈ wsX7_takes := by decide +kernel
set_option maxHeartbeats 4000000 in
set_option maxRecDepth 100000 in
theorem kX7_takes_0 {p : Program} {l : Launch} {e : Env} {s : State} {m : MethodId} {args : Array Value} {below : List Frame} {meth : Method} {c : Code} {Q : State → Prop} {A : Nat → Prop} {D : va_G} {cI cJ : ClassId} (C : bC cX7_takes 3 RX7 wsX7_takes D cI cJ p s m args c meth A)
    {a_this : Nat} {i_form : Int32} {i_overOthers : Int32} {i_overTwo : Int32} {i_first : Int32} {i_size : Int32} {i_place : Int32} {i_whole : Int32} {a_p1 : Nat} {a_p1_codes : Nat} {i_p1_size : Int32} {g_p1_codes : Nat → Int32} {z : Nat} {x2 : Int32} {o : Int32 × Int32} (hf : fX7_takes z x2 i_place i_p1_size g_p1_codes = some o)
    (hrt : ∀ (H : Heap) (locs : List Loc) (ls : Array Slot) (pc : Nat), (o.1 = 0 ∨ o.1 = 1) → va_P D vwCl (uX7_takes cI cJ a_this i_form i_overOthers i_overTwo i_first i_size o.2 i_whole a_p1 a_p1_codes i_p1_size g_p1_codes) H → va_D A (uX7_takes cI cJ a_this i_form i_overOthers i_overTwo i_first i_size o.2 i_whole a_p1 a_p1_codes i_p1_size g_p1_codes) → va_S A s.heap H locs → decode cX7_takes pc = .ok (.ireturn, 1) → W p l e rX7_takes s m args below meth c H locs 0 0 Q (F0 m pc ls [.int o.1]))
    {H : Heap} {locs : List Loc} {ls : Array Slot} (hP : va_P D vwCl (uX7_takes cI cJ a_this i_form i_overOthers i_overTwo i_first i_size i_place i_whole a_p1 a_p1_codes i_p1_size g_p1_codes) H) (hD : va_D A (uX7_takes cI cJ a_this i_form i_overOthers i_overTwo i_first i_size i_place i_whole a_p1 a_p1_codes i_p1_size g_p1_codes)) (hS : va_S A s.heap H locs) (hl : lv_has ls 3 [(0, .ref a_this), (1, .ref a_p1), (2, .int x2)]) : W p l e rX7_takes s m args below meth c H locs 0 0 Q (F0 m 0 ls []) := by
  obtain ⟨hx, hb, hml, hown, hts, hK, hN, hA, hlocks⟩ := id C
  unfold fX7_takes at hf
  refine lv_aload_n hx hb dX7_takes_0 rfl (lv_at hl 1 rfl) ?_
  refine lv_aload_n hx hb dX7_takes_1 rfl (lv_at hl 0 rfl) ?_
  refine va_get (D := D) (ci := 7) (v := .int i_place) (C := RX7) (T := TX7) (N := 7) hx hb hts jX7_takes_X7 hown hK hP 0 rfl rfl 5 (by decide) (hts _ qX7_takes_22) (fun _ h9 => h9) rfl dX7_takes_2 ?_
  obtain ⟨q1, hq, hf⟩ := ob_some hf
  refine cl_i (wc := (uX5_letterAt cI cJ a_p1 a_p1_codes i_p1_size g_p1_codes)) (w1 := (uX5_letterAt cI cJ a_p1 a_p1_codes i_p1_size g_p1_codes)) (rn_V (As := [.int i_place]) (b := a_p1) (rest := []) (wc := (uX5_letterAt cI cJ a_p1 a_p1_codes i_p1_size g_p1_codes)) (ci := 5) (q0 := 1) C hP hD [1, 2] rfl rfl rfl rfl (mX5_letterAt l D cI cJ H.size hq) 1 gX7_takes_X5_letterAt rfl ⟨rfl, rfl, Nat.le_of_ble_eq_true rfl, Nat.le_of_ble_eq_true rfl⟩ hdX5_letterAt rfl hl.1 rfl (Nat.le_of_ble_eq_true rfl) dX7_takes_5) hP hD hS hA [1, 2] rfl rfl (fun H locs hP hD hS => ?_)
  have hP : va_P D vwCl (uX7_takes cI cJ a_this i_form i_overOthers i_overTwo i_first i_size i_place i_whole a_p1 a_p1_codes i_p1_size g_p1_codes) H := hP
  have hD : va_D A (uX7_takes cI cJ a_this i_form i_overOthers i_overTwo i_first i_size i_place i_whole a_p1 a_p1_codes i_p1_size g_p1_codes) := hD
  refine lv_iload_n hx hb dX7_takes_8 rfl (lv_at hl 2 rfl) ?_
  refine lv_icmp_eq (tgt := 14) hx hb dX7_takes_9 (by decide) (fun hc => ?_) (fun hc => ?_)
  · have hf := if_yes hc hf
    refine lv_aload_n hx hb dX7_takes_14 rfl (lv_at hl 0 rfl) ?_
    refine lv_dup hx hb dX7_takes_15 rfl ?_
    refine va_get (D := D) (ci := 7) (v := .int i_place) (C := RX7) (T := TX7) (N := 7) hx hb hts jX7_takes_X7 hown hK hP 0 rfl rfl 5 (by decide) (hts _ qX7_takes_22) (fun _ h9 => h9) rfl dX7_takes_16 ?_
    refine lv_iconst (v := 1) hx hb dX7_takes_19 (by decide) ?_
    refine lv_iadd hx hb dX7_takes_20 ?_
    refine va_put (D := D) (ci := 7) (v := .int (i_place + 1)) (ty := tyX7 5) (C := RX7) (T := TX7) (N := 7) hx hb hts jX7_takes_X7 tyX7 tyX7_ok nmX7 hown hK hP hD hS 0 rfl rfl 5 (by decide) (hts _ qX7_takes_22) (fun _ h9 => h9) rfl (tyX7_ok 5 (by decide)) rfl rfl (Nat.le_of_ble_eq_true rfl) dX7_takes_21 (fun H locs hP hD hS => ?_)
    have hP : va_P D vwCl (uX7_takes cI cJ a_this i_form i_overOthers i_overTwo i_first i_size (i_place + 1) i_whole a_p1 a_p1_codes i_p1_size g_p1_codes) H := hP
    have hD : va_D A (uX7_takes cI cJ a_this i_form i_overOthers i_overTwo i_first i_size (i_place + 1) i_whole a_p1 a_p1_codes i_p1_size g_p1_codes) := hD
    refine lv_iconst (v := 1) hx hb dX7_takes_24 (by decide) ?_
    have ho := Option.some.inj hf
    subst ho
    exact hrt H locs ls _ (Or.inr rfl) hP hD hS dX7_takes_25
  · have hf := if_no hc hf
    refine lv_iconst (v := 0) hx hb dX7_takes_12 (by decide) ?_
    have ho := Option.some.inj hf
    subst ho
    exact hrt H locs ls _ (Or.inl rfl) hP hD hS dX7_takes_13
set_option maxHeartbeats 4000000 in
set_option maxRecDepth 100000 in
theorem mX7_takes (l : Launch) (D : va_G) (cI cJ : ClassId) (sz : Nat) {a_this : Nat} {i_form : Int32} {i_overOthers : Int32} {i_overTwo : Int32} {i_first : Int32} {i_size : Int32} {i_place : Int32} {i_whole : Int32} {a_p1 : Nat} {a_p1_codes : Nat} {i_p1_size : Int32} {g_p1_codes : Nat → Int32} {z : Nat} {x2 : Int32} {o : Int32 × Int32} (hf : fX7_takes z x2 i_place i_p1_size g_p1_codes = some o) : Met l yX7_takes wsX7_takes rX7_takes (va_Pc [.ref a_this, .ref a_p1, .int x2] (kP D cI cJ (uX7_takes cI cJ a_this i_form i_overOthers i_overTwo i_first i_size i_place i_whole a_p1 a_p1_codes i_p1_size g_p1_codes) sz)) (va_Qi (fun r' (_ : Unit) => r' = o.1) (fun _ t => kB D (va_A (uX7_takes cI cJ a_this i_form i_overOthers i_overTwo i_first i_size i_place i_whole a_p1 a_p1_codes i_p1_size g_p1_codes) sz) (uX7_takes cI cJ a_this i_form i_overOthers i_overTwo i_first i_size o.2 i_whole a_p1 a_p1_codes i_p1_size g_p1_codes) t) (va_A (uX7_takes cI cJ a_this i_form i_overOthers i_overTwo i_first i_size i_place i_whole a_p1 a_p1_codes i_p1_size g_p1_codes) sz)) 0 0 (va_A (uX7_takes cI cJ a_this i_form i_overOthers i_overTwo i_first i_size i_place i_whole a_p1 a_p1_codes i_p1_size g_p1_codes) sz) :=
  met_z (by decide) rfl (Nat.le_of_ble_eq_true rfl) (fun p e s m below meth c A Q C hrt ls hl hP hD hS => kX7_takes_0 (A := A) C hf hrt hP hD hS hl)

/-! ===== FrogsOnRing$Reading.readStones(LFrogsOnRing$Page;)V ===== -/
abbrev uX7_readStones (cI cJ : ClassId) (a_this : Nat) (i_form : Int32) (i_overOthers : Int32) (i_overTwo : Int32) (i_first : Int32) (i_size : Int32) (i_place : Int32) (i_whole : Int32) (a_p1 : Nat) (a_p1_codes : Nat) (i_p1_size : Int32) (g_p1_codes : Nat → Int32) : va_W := [(a_this, .inr (7, [.int i_form, .int i_overOthers, .int i_overTwo, .int i_first, .int i_size, .int i_place, .int i_whole])), (a_p1, .inr (5, [.ref a_p1_codes, .int i_p1_size])), (a_p1_codes, .inl (cI, 24, .inl g_p1_codes))]
def rX7_readStones : Room := { frames := 1, cells := 0, slots := 0, locals := 21 }
theorem hdX7_readStones : yX7_readStones.cls = RX7 ∧ yX7_readStones.cls ≠ "java/lang/invoke/MethodHandle" ∧ yX7_readStones.cls ≠ "java/lang/invoke/VarHandle" ∧ (parseMethodDescriptor yX7_readStones.desc).map (fun d => d.parameters.length) = some 1 := by decide +kernel
set_option maxRecDepth 20000 in
theorem jX7_readStones_X7 : ∀ w ∈ u_ws RX7 TX7 7, w ∈ wsX7_readStones := by decide +kernel
set_option maxRecDepth 20000 in
theorem qX7_readStones_15 : Cond.fieldLink RX7 15 "FrogsOnRing$Reading" "first" "I" ∈ wsX7_readStones := by decide +kernel
set_option maxRecDepth 20000 in
theorem qX7_readStones_19 : Cond.fieldLink RX7 19 "FrogsOnRing$Reading" "size" "I" ∈ wsX7_readStones := by decide +kernel
set_option maxRecDepth 20000 in
theorem qX7_readStones_22 : Cond.fieldLink RX7 22 "FrogsOnRing$Reading" "place" "I" ∈ wsX7_readStones := by decide +kernel
set_option maxRecDepth 20000 in
theorem qX7_readStones_iX9_kindOfLetter : Cond.initialized yX9_kindOfLetter.cls ∈ wsX7_readStones := by decide +kernel
set_option maxRecDepth 20000 in
theorem qX7_readStones_sX9_kindOfLetter : Cond.static yX9_kindOfLetter ∈ wsX7_readStones := by decide +kernel
set_option maxHeartbeats 4000000 in
set_option maxRecDepth 100000 in
theorem kX7_readStones_L8 {p : Program} {l : Launch} {e : Env} {s : State} {m : MethodId} {args : Array Value} {below : List Frame} {meth : Method} {c : Code} {Q : State → Prop} {A : Nat → Prop} {D : va_G} {cI cJ : ClassId} (C : bC cX7_readStones 2 RX7 wsX7_readStones D cI cJ p s m args c meth A)
    {a_this : Nat} {i_form : Int32} {i_overOthers : Int32} {i_overTwo : Int32} {i_first : Int32} {i_size : Int32} {i_place : Int32} {i_whole : Int32} {a_p1 : Nat} {a_p1_codes : Nat} {i_p1_size : Int32} {g_p1_codes : Nat → Int32} {z : Nat} {o : (Int32 × Int32) ⊕ (Int32 × Int32)} (hf : fX7_readStones_L8 z i_place i_size i_p1_size g_p1_codes i_first = some o)
    (hbk : ∀ s', o = .inl s' → ∀ (H : Heap) (locs : List Loc) (ls : Array Slot), va_P D vwCl (uX7_readStones cI cJ a_this i_form i_overOthers i_overTwo i_first s'.1 s'.2 i_whole a_p1 a_p1_codes i_p1_size g_p1_codes) H → va_D A (uX7_readStones cI cJ a_this i_form i_overOthers i_overTwo i_first s'.1 s'.2 i_whole a_p1 a_p1_codes i_p1_size g_p1_codes) → va_S A s.heap H locs → lv_has ls 2 [(0, .ref a_this), (1, .ref a_p1)] → W p l e rX7_readStones s m args below meth c H locs 0 0 Q (F0 m 8 ls []))
    (hex : ∀ e', o = .inr e' → ∀ (H : Heap) (locs : List Loc) (ls : Array Slot), va_P D vwCl (uX7_readStones cI cJ a_this i_form i_overOthers i_overTwo i_first e'.1 e'.2 i_whole a_p1 a_p1_codes i_p1_size g_p1_codes) H → va_D A (uX7_readStones cI cJ a_this i_form i_overOthers i_overTwo i_first e'.1 e'.2 i_whole a_p1 a_p1_codes i_p1_size g_p1_codes) → va_S A s.heap H locs → lv_has ls 2 [] → W p l e rX7_readStones s m args below meth c H locs 0 0 Q (F0 m 55 ls []))
    {H : Heap} {locs : List Loc} {ls : Array Slot} (hP : va_P D vwCl (uX7_readStones cI cJ a_this i_form i_overOthers i_overTwo i_first i_size i_place i_whole a_p1 a_p1_codes i_p1_size g_p1_codes) H) (hD : va_D A (uX7_readStones cI cJ a_this i_form i_overOthers i_overTwo i_first i_size i_place i_whole a_p1 a_p1_codes i_p1_size g_p1_codes)) (hS : va_S A s.heap H locs) (hl : lv_has ls 2 [(0, .ref a_this), (1, .ref a_p1)]) : W p l e rX7_readStones s m args below meth c H locs 0 0 Q (F0 m 8 ls []) := by
  obtain ⟨hx, hb, hml, hown, hts, hK, hN, hA, hlocks⟩ := id C
  unfold fX7_readStones_L8 at hf
  refine lv_aload_n hx hb dX7_readStones_8 rfl (lv_at hl 0 rfl) ?_
  refine va_get (D := D) (ci := 7) (v := .int i_size) (C := RX7) (T := TX7) (N := 7) hx hb hts jX7_readStones_X7 hown hK hP 0 rfl rfl 4 (by decide) (hts _ qX7_readStones_19) (fun _ h9 => h9) rfl dX7_readStones_9 ?_
  refine lv_bipush (v := 9) hx hb dX7_readStones_12 (by decide) ?_
  refine lv_icmp_ge (tgt := 55) hx hb dX7_readStones_14 (by decide) (fun hc => ?_) (fun hc => ?_)
  · have hf := if_yes hc hf
    have ho := Option.some.inj hf
    subst ho
    exact hex _ rfl _ _ _ hP hD hS (lv_sub hl [] rfl)
  · have hf := if_no hc hf
    refine lv_aload_n hx hb dX7_readStones_17 rfl (lv_at hl 1 rfl) ?_
    refine lv_aload_n hx hb dX7_readStones_18 rfl (lv_at hl 0 rfl) ?_
    refine va_get (D := D) (ci := 7) (v := .int i_place) (C := RX7) (T := TX7) (N := 7) hx hb hts jX7_readStones_X7 hown hK hP 0 rfl rfl 5 (by decide) (hts _ qX7_readStones_22) (fun _ h9 => h9) rfl dX7_readStones_19 ?_
    obtain ⟨q1, hq, hf⟩ := ob_some hf
    refine cl_i (wc := (uX5_letterAt cI cJ a_p1 a_p1_codes i_p1_size g_p1_codes)) (w1 := (uX5_letterAt cI cJ a_p1 a_p1_codes i_p1_size g_p1_codes)) (rn_V (As := [.int i_place]) (b := a_p1) (rest := []) (wc := (uX5_letterAt cI cJ a_p1 a_p1_codes i_p1_size g_p1_codes)) (ci := 5) (q0 := 1) C hP hD [1, 2] rfl rfl rfl rfl (mX5_letterAt l D cI cJ H.size hq) 1 gX7_readStones_X5_letterAt rfl ⟨rfl, rfl, Nat.le_of_ble_eq_true rfl, Nat.le_of_ble_eq_true rfl⟩ hdX5_letterAt rfl hl.1 rfl (Nat.le_of_ble_eq_true rfl) dX7_readStones_22) hP hD hS hA [1, 2] rfl rfl (fun H locs hP hD hS => ?_)
    have hP : va_P D vwCl (uX7_readStones cI cJ a_this i_form i_overOthers i_overTwo i_first i_size i_place i_whole a_p1 a_p1_codes i_p1_size g_p1_codes) H := hP
    have hD : va_D A (uX7_readStones cI cJ a_this i_form i_overOthers i_overTwo i_first i_size i_place i_whole a_p1 a_p1_codes i_p1_size g_p1_codes) := hD
    refine cl_i (wc := (uX9_kindOfLetter cI cJ)) (w1 := (uX9_kindOfLetter cI cJ)) (rn_N (As := [.int q1]) (rest := []) (wc := (uX9_kindOfLetter cI cJ)) C hP hD [] rfl rfl (mX9_kindOfLetter l D cI cJ H.size) 1 gX7_readStones_X9_kindOfLetter_n56 qX7_readStones_iX9_kindOfLetter qX7_readStones_sX9_kindOfLetter 5 rfl rfl ⟨rfl, rfl, Nat.le_of_ble_eq_true rfl, Nat.le_of_ble_eq_true rfl⟩ hdX9_kindOfLetter.2 rfl hl.1 rfl (Nat.le_of_ble_eq_true rfl) dX7_readStones_25) hP hD hS hA [] rfl rfl (fun H locs hP hD hS => ?_)
    have hP : va_P D vwCl (uX7_readStones cI cJ a_this i_form i_overOthers i_overTwo i_first i_size i_place i_whole a_p1 a_p1_codes i_p1_size g_p1_codes) H := hP
    have hD : va_D A (uX7_readStones cI cJ a_this i_form i_overOthers i_overTwo i_first i_size i_place i_whole a_p1 a_p1_codes i_p1_size g_p1_codes) := hD
    refine lv_iconst (v := (-1)) hx hb dX7_readStones_28 (by decide) ?_
    refine lv_icmp_eq (tgt := 55) hx hb dX7_readStones_29 (by decide) (fun hc => ?_) (fun hc => ?_)
    · have hf := if_yes hc hf
      have ho := Option.some.inj hf
      subst ho
      exact hex _ rfl _ _ _ hP hD hS (lv_sub hl [] rfl)
    · have hf := if_no hc hf
      refine lv_aload_n hx hb dX7_readStones_32 rfl (lv_at hl 0 rfl) ?_
      refine lv_dup hx hb dX7_readStones_33 rfl ?_
      refine va_get (D := D) (ci := 7) (v := .int i_size) (C := RX7) (T := TX7) (N := 7) hx hb hts jX7_readStones_X7 hown hK hP 0 rfl rfl 4 (by decide) (hts _ qX7_readStones_19) (fun _ h9 => h9) rfl dX7_readStones_34 ?_
      refine lv_iconst (v := 1) hx hb dX7_readStones_37 (by decide) ?_
      refine lv_iadd hx hb dX7_readStones_38 ?_
      refine va_put (D := D) (ci := 7) (v := .int (i_size + 1)) (ty := tyX7 4) (C := RX7) (T := TX7) (N := 7) hx hb hts jX7_readStones_X7 tyX7 tyX7_ok nmX7 hown hK hP hD hS 0 rfl rfl 4 (by decide) (hts _ qX7_readStones_19) (fun _ h9 => h9) rfl (tyX7_ok 4 (by decide)) rfl rfl (Nat.le_of_ble_eq_true rfl) dX7_readStones_39 (fun H locs hP hD hS => ?_)
      have hP : va_P D vwCl (uX7_readStones cI cJ a_this i_form i_overOthers i_overTwo i_first (i_size + 1) i_place i_whole a_p1 a_p1_codes i_p1_size g_p1_codes) H := hP
      have hD : va_D A (uX7_readStones cI cJ a_this i_form i_overOthers i_overTwo i_first (i_size + 1) i_place i_whole a_p1 a_p1_codes i_p1_size g_p1_codes) := hD
      refine lv_aload_n hx hb dX7_readStones_42 rfl (lv_at hl 0 rfl) ?_
      refine lv_dup hx hb dX7_readStones_43 rfl ?_
      refine va_get (D := D) (ci := 7) (v := .int i_place) (C := RX7) (T := TX7) (N := 7) hx hb hts jX7_readStones_X7 hown hK hP 0 rfl rfl 5 (by decide) (hts _ qX7_readStones_22) (fun _ h9 => h9) rfl dX7_readStones_44 ?_
      refine lv_iconst (v := 1) hx hb dX7_readStones_47 (by decide) ?_
      refine lv_iadd hx hb dX7_readStones_48 ?_
      refine va_put (D := D) (ci := 7) (v := .int (i_place + 1)) (ty := tyX7 5) (C := RX7) (T := TX7) (N := 7) hx hb hts jX7_readStones_X7 tyX7 tyX7_ok nmX7 hown hK hP hD hS 0 rfl rfl 5 (by decide) (hts _ qX7_readStones_22) (fun _ h9 => h9) rfl (tyX7_ok 5 (by decide)) rfl rfl (Nat.le_of_ble_eq_true rfl) dX7_readStones_49 (fun H locs hP hD hS => ?_)
      have hP : va_P D vwCl (uX7_readStones cI cJ a_this i_form i_overOthers i_overTwo i_first (i_size + 1) (i_place + 1) i_whole a_p1 a_p1_codes i_p1_size g_p1_codes) H := hP
      have hD : va_D A (uX7_readStones cI cJ a_this i_form i_overOthers i_overTwo i_first (i_size + 1) (i_place + 1) i_whole a_p1 a_p1_codes i_p1_size g_p1_codes) := hD
      refine lv_goto (tgt := 8) hx hb dX7_readStones_52 (by decide) ?_
      have ho := Option.some.inj hf
      subst ho
      exact hbk _ rfl _ _ _ hP hD hS (lv_sub hl [0, 1] rfl)
set_option maxHeartbeats 4000000 in
set_option maxRecDepth 100000 in
theorem kX7_readStones_J55 {p : Program} {l : Launch} {e : Env} {s : State} {m : MethodId} {args : Array Value} {below : List Frame} {meth : Method} {c : Code} {Q : State → Prop} {A : Nat → Prop} {D : va_G} {cI cJ : ClassId} (C : bC cX7_readStones 2 RX7 wsX7_readStones D cI cJ p s m args c meth A)
    {a_this : Nat} {i_form : Int32} {i_overOthers : Int32} {i_overTwo : Int32} {i_first : Int32} {i_size : Int32} {i_place : Int32} {i_whole : Int32} {a_p1 : Nat} {a_p1_codes : Nat} {i_p1_size : Int32} {g_p1_codes : Nat → Int32} {z : Nat} {o : Int32 × Int32 × Int32} (hf : fX7_readStones_J55 z i_place i_size i_p1_size g_p1_codes i_first = some o)
    (hrt : ∀ (H : Heap) (locs : List Loc) (ls : Array Slot) (pc : Nat), va_P D vwCl (uX7_readStones cI cJ a_this i_form i_overOthers i_overTwo o.1 o.2.1 o.2.2 i_whole a_p1 a_p1_codes i_p1_size g_p1_codes) H → va_D A (uX7_readStones cI cJ a_this i_form i_overOthers i_overTwo o.1 o.2.1 o.2.2 i_whole a_p1 a_p1_codes i_p1_size g_p1_codes) → va_S A s.heap H locs → decode cX7_readStones pc = .ok (.return_, 1) → W p l e rX7_readStones s m args below meth c H locs 0 0 Q (F0 m pc ls []))
    {H : Heap} {locs : List Loc} {ls : Array Slot} (hP : va_P D vwCl (uX7_readStones cI cJ a_this i_form i_overOthers i_overTwo i_first i_size i_place i_whole a_p1 a_p1_codes i_p1_size g_p1_codes) H) (hD : va_D A (uX7_readStones cI cJ a_this i_form i_overOthers i_overTwo i_first i_size i_place i_whole a_p1 a_p1_codes i_p1_size g_p1_codes)) (hS : va_S A s.heap H locs) (hl : lv_has ls 2 []) : W p l e rX7_readStones s m args below meth c H locs 0 0 Q (F0 m 55 ls []) := by
  obtain ⟨hx, hb, hml, hown, hts, hK, hN, hA, hlocks⟩ := id C
  unfold fX7_readStones_J55 at hf
  have ho := Option.some.inj hf
  subst ho
  exact hrt H locs ls _ hP hD hS dX7_readStones_55
set_option maxHeartbeats 4000000 in
set_option maxRecDepth 100000 in
theorem kX7_readStones_0 {p : Program} {l : Launch} {e : Env} {s : State} {m : MethodId} {args : Array Value} {below : List Frame} {meth : Method} {c : Code} {Q : State → Prop} {A : Nat → Prop} {D : va_G} {cI cJ : ClassId} (C : bC cX7_readStones 2 RX7 wsX7_readStones D cI cJ p s m args c meth A)
    {a_this : Nat} {i_form : Int32} {i_overOthers : Int32} {i_overTwo : Int32} {i_first : Int32} {i_size : Int32} {i_place : Int32} {i_whole : Int32} {a_p1 : Nat} {a_p1_codes : Nat} {i_p1_size : Int32} {g_p1_codes : Nat → Int32} {z : Nat} {o : Int32 × Int32 × Int32} (hf : fX7_readStones z i_place i_size i_p1_size g_p1_codes i_first = some o)
    (hrt : ∀ (H : Heap) (locs : List Loc) (ls : Array Slot) (pc : Nat), va_P D vwCl (uX7_readStones cI cJ a_this i_form i_overOthers i_overTwo o.1 o.2.1 o.2.2 i_whole a_p1 a_p1_codes i_p1_size g_p1_codes) H → va_D A (uX7_readStones cI cJ a_this i_form i_overOthers i_overTwo o.1 o.2.1 o.2.2 i_whole a_p1 a_p1_codes i_p1_size g_p1_codes) → va_S A s.heap H locs → decode cX7_readStones pc = .ok (.return_, 1) → W p l e rX7_readStones s m args below meth c H locs 0 0 Q (F0 m pc ls []))
    {H : Heap} {locs : List Loc} {ls : Array Slot} (hP : va_P D vwCl (uX7_readStones cI cJ a_this i_form i_overOthers i_overTwo i_first i_size i_place i_whole a_p1 a_p1_codes i_p1_size g_p1_codes) H) (hD : va_D A (uX7_readStones cI cJ a_this i_form i_overOthers i_overTwo i_first i_size i_place i_whole a_p1 a_p1_codes i_p1_size g_p1_codes)) (hS : va_S A s.heap H locs) (hl : lv_has ls 2 [(0, .ref a_this), (1, .ref a_p1)]) : W p l e rX7_readStones s m args below meth c H locs 0 0 Q (F0 m 0 ls []) := by
  obtain ⟨hx, hb, hml, hown, hts, hK, hN, hA, hlocks⟩ := id C
  unfold fX7_readStones at hf
  refine lv_aload_n hx hb dX7_readStones_0 rfl (lv_at hl 0 rfl) ?_
  refine lv_aload_n hx hb dX7_readStones_1 rfl (lv_at hl 0 rfl) ?_
  refine va_get (D := D) (ci := 7) (v := .int i_place) (C := RX7) (T := TX7) (N := 7) hx hb hts jX7_readStones_X7 hown hK hP 0 rfl rfl 5 (by decide) (hts _ qX7_readStones_22) (fun _ h9 => h9) rfl dX7_readStones_2 ?_
  refine va_put (D := D) (ci := 7) (v := .int i_place) (ty := tyX7 3) (C := RX7) (T := TX7) (N := 7) hx hb hts jX7_readStones_X7 tyX7 tyX7_ok nmX7 hown hK hP hD hS 0 rfl rfl 3 (by decide) (hts _ qX7_readStones_15) (fun _ h9 => h9) rfl (tyX7_ok 3 (by decide)) rfl rfl (Nat.le_of_ble_eq_true rfl) dX7_readStones_5 (fun H locs hP hD hS => ?_)
  have hP : va_P D vwCl (uX7_readStones cI cJ a_this i_form i_overOthers i_overTwo i_place i_size i_place i_whole a_p1 a_p1_codes i_p1_size g_p1_codes) H := hP
  have hD : va_D A (uX7_readStones cI cJ a_this i_form i_overOthers i_overTwo i_place i_size i_place i_whole a_p1 a_p1_codes i_p1_size g_p1_codes) := hD
  obtain ⟨ex, hlp, hf⟩ := ob_some hf
  refine lp_ind (P := fun sg => ∀ (H : Heap) (locs : List Loc) (ls : Array Slot), va_P D vwCl (uX7_readStones cI cJ a_this i_form i_overOthers i_overTwo i_place sg.1 sg.2 i_whole a_p1 a_p1_codes i_p1_size g_p1_codes) H → va_D A (uX7_readStones cI cJ a_this i_form i_overOthers i_overTwo i_place sg.1 sg.2 i_whole a_p1 a_p1_codes i_p1_size g_p1_codes) → va_S A s.heap H locs → lv_has ls 2 [(0, .ref a_this), (1, .ref a_p1)] → W p l e rX7_readStones s m args below meth c H locs 0 0 Q (F0 m 8 ls [])) ?_ z _ hlp H locs ls hP hD hS (lv_sub hl [0, 1] rfl)
  intro sg og hbo hback hexit H locs ls hP hD hS hl
  refine kX7_readStones_L8 C hbo (fun s' h => hback s' h) (fun ex h H locs ls hP hD hS hl => ?_) hP hD hS hl
  have he := hexit _ h
  subst he
  exact kX7_readStones_J55 C hf hrt hP hD hS (lv_sub hl [] rfl)
set_option maxHeartbeats 4000000 in
set_option maxRecDepth 100000 in
theorem mX7_readStones (l : Launch) (D : va_G) (cI cJ : ClassId) (sz : Nat) {a_this : Nat} {i_form : Int32} {i_overOthers : Int32} {i_overTwo : Int32} {i_first : Int32} {i_size : Int32} {i_place : Int32} {i_whole : Int32} {a_p1 : Nat} {a_p1_codes : Nat} {i_p1_size : Int32} {g_p1_codes : Nat → Int32} {z : Nat} {o : Int32 × Int32 × Int32} (hf : fX7_readStones z i_place i_size i_p1_size g_p1_codes i_first = some o) : Met l yX7_readStones wsX7_readStones rX7_readStones (va_Pc [.ref a_this, .ref a_p1] (kP D cI cJ (uX7_readStones cI cJ a_this i_form i_overOthers i_overTwo i_first i_size i_place i_whole a_p1 a_p1_codes i_p1_size g_p1_codes) sz)) (va_Qv (fun (_ : Unit) => True) (fun _ t => kB D (va_A (uX7_readStones cI cJ a_this i_form i_overOthers i_overTwo i_first i_size i_place i_whole a_p1 a_p1_codes i_p1_size g_p1_codes) sz) (uX7_readStones cI cJ a_this i_form i_overOthers i_overTwo o.1 o.2.1 o.2.2 i_whole a_p1 a_p1_codes i_p1_size g_p1_codes) t) (va_A (uX7_readStones cI cJ a_this i_form i_overOthers i_overTwo i_first i_size i_place i_whole a_p1 a_p1_codes i_p1_size g_p1_codes) sz)) 0 0 (va_A (uX7_readStones cI cJ a_this i_form i_overOthers i_overTwo i_first i_size i_place i_whole a_p1 a_p1_codes i_p1_size g_p1_codes) sz) :=
  met_v (by decide) rfl (Nat.le_of_ble_eq_true rfl) (fun p e s m below meth c A Q C hrt ls hl hP hD hS => kX7_readStones_0 (A := A) C hf hrt hP hD hS hl)

/-! ===== FrogsOnRing$Reading.readParents(LFrogsOnRing$Page;)Z ===== -/
abbrev uX7_readParents (cI cJ : ClassId) (a_this : Nat) (i_form : Int32) (i_overOthers : Int32) (i_overTwo : Int32) (i_first : Int32) (i_size : Int32) (i_place : Int32) (i_whole : Int32) (a_p1 : Nat) (a_p1_codes : Nat) (i_p1_size : Int32) (g_p1_codes : Nat → Int32) : va_W := [(a_this, .inr (7, [.int i_form, .int i_overOthers, .int i_overTwo, .int i_first, .int i_size, .int i_place, .int i_whole])), (a_p1, .inr (5, [.ref a_p1_codes, .int i_p1_size])), (a_p1_codes, .inl (cI, 24, .inl g_p1_codes))]
def rX7_readParents : Room := { frames := 2, cells := 0, slots := 0, locals := 43 }
theorem hdX7_readParents : yX7_readParents.cls = RX7 ∧ yX7_readParents.cls ≠ "java/lang/invoke/MethodHandle" ∧ yX7_readParents.cls ≠ "java/lang/invoke/VarHandle" ∧ (parseMethodDescriptor yX7_readParents.desc).map (fun d => d.parameters.length) = some 1 := by decide +kernel
set_option maxRecDepth 20000 in
theorem jX7_readParents_X7 : ∀ w ∈ u_ws RX7 TX7 7, w ∈ wsX7_readParents := by decide +kernel
set_option maxRecDepth 20000 in
theorem qX7_readParents_19 : Cond.fieldLink RX7 19 "FrogsOnRing$Reading" "size" "I" ∈ wsX7_readParents := by decide +kernel
set_option maxRecDepth 20000 in
theorem qX7_readParents_22 : Cond.fieldLink RX7 22 "FrogsOnRing$Reading" "place" "I" ∈ wsX7_readParents := by decide +kernel
set_option maxHeartbeats 4000000 in
set_option maxRecDepth 100000 in
theorem kX7_readParents_L14 {p : Program} {l : Launch} {e : Env} {s : State} {m : MethodId} {args : Array Value} {below : List Frame} {meth : Method} {c : Code} {Q : State → Prop} {A : Nat → Prop} {D : va_G} {cI cJ : ClassId} (C : bC cX7_readParents 4 RX7 wsX7_readParents D cI cJ p s m args c meth A)
    {a_this : Nat} {i_form : Int32} {i_overOthers : Int32} {i_overTwo : Int32} {i_first : Int32} {i_size : Int32} {i_place : Int32} {i_whole : Int32} {a_p1 : Nat} {a_p1_codes : Nat} {i_p1_size : Int32} {g_p1_codes : Nat → Int32} {z : Nat} {x2 : Int32} {o : (Int32 × Int32) ⊕ ((Int32) ⊕ (Int32 × Int32))} (hf : fX7_readParents_L14 z x2 i_place i_p1_size g_p1_codes i_size = some o)
    (hbk : ∀ s', o = .inl s' → ∀ (H : Heap) (locs : List Loc) (ls : Array Slot), va_P D vwCl (uX7_readParents cI cJ a_this i_form i_overOthers i_overTwo i_first i_size s'.2 i_whole a_p1 a_p1_codes i_p1_size g_p1_codes) H → va_D A (uX7_readParents cI cJ a_this i_form i_overOthers i_overTwo i_first i_size s'.2 i_whole a_p1 a_p1_codes i_p1_size g_p1_codes) → va_S A s.heap H locs → lv_has ls 4 [(0, .ref a_this), (1, .ref a_p1), (2, .int s'.1)] → W p l e rX7_readParents s m args below meth c H locs 0 0 Q (F0 m 14 ls []))
    (hex : ∀ e', o = .inr (.inl e') → ∀ (H : Heap) (locs : List Loc) (ls : Array Slot), va_P D vwCl (uX7_readParents cI cJ a_this i_form i_overOthers i_overTwo i_first i_size e' i_whole a_p1 a_p1_codes i_p1_size g_p1_codes) H → va_D A (uX7_readParents cI cJ a_this i_form i_overOthers i_overTwo i_first i_size e' i_whole a_p1 a_p1_codes i_p1_size g_p1_codes) → va_S A s.heap H locs → lv_has ls 4 [] → W p l e rX7_readParents s m args below meth c H locs 0 0 Q (F0 m 61 ls []))
    (hrt : ∀ r', o = .inr (.inr r') → ∀ (H : Heap) (locs : List Loc) (ls : Array Slot) (pc : Nat), (r'.1 = 0 ∨ r'.1 = 1) → va_P D vwCl (uX7_readParents cI cJ a_this i_form i_overOthers i_overTwo i_first i_size r'.2 i_whole a_p1 a_p1_codes i_p1_size g_p1_codes) H → va_D A (uX7_readParents cI cJ a_this i_form i_overOthers i_overTwo i_first i_size r'.2 i_whole a_p1 a_p1_codes i_p1_size g_p1_codes) → va_S A s.heap H locs → decode cX7_readParents pc = .ok (.ireturn, 1) → W p l e rX7_readParents s m args below meth c H locs 0 0 Q (F0 m pc ls [.int r'.1]))
    {H : Heap} {locs : List Loc} {ls : Array Slot} (hP : va_P D vwCl (uX7_readParents cI cJ a_this i_form i_overOthers i_overTwo i_first i_size i_place i_whole a_p1 a_p1_codes i_p1_size g_p1_codes) H) (hD : va_D A (uX7_readParents cI cJ a_this i_form i_overOthers i_overTwo i_first i_size i_place i_whole a_p1 a_p1_codes i_p1_size g_p1_codes)) (hS : va_S A s.heap H locs) (hl : lv_has ls 4 [(0, .ref a_this), (1, .ref a_p1), (2, .int x2)]) : W p l e rX7_readParents s m args below meth c H locs 0 0 Q (F0 m 14 ls []) := by
  obtain ⟨hx, hb, hml, hown, hts, hK, hN, hA, hlocks⟩ := id C
  unfold fX7_readParents_L14 at hf
  refine lv_iload_n hx hb dX7_readParents_14 rfl (lv_at hl 2 rfl) ?_
  refine lv_aload_n hx hb dX7_readParents_15 rfl (lv_at hl 0 rfl) ?_
  refine va_get (D := D) (ci := 7) (v := .int i_size) (C := RX7) (T := TX7) (N := 7) hx hb hts jX7_readParents_X7 hown hK hP 0 rfl rfl 4 (by decide) (hts _ qX7_readParents_19) (fun _ h9 => h9) rfl dX7_readParents_16 ?_
  refine lv_icmp_ge (tgt := 61) hx hb dX7_readParents_19 (by decide) (fun hc => ?_) (fun hc => ?_)
  · have hf := if_yes hc hf
    have ho := Option.some.inj hf
    subst ho
    exact hex _ rfl _ _ _ hP hD hS (lv_sub hl [] rfl)
  · have hf := if_no hc hf
    refine lv_aload_n hx hb dX7_readParents_22 rfl (lv_at hl 1 rfl) ?_
    refine lv_aload_n hx hb dX7_readParents_23 rfl (lv_at hl 0 rfl) ?_
    refine va_get (D := D) (ci := 7) (v := .int i_place) (C := RX7) (T := TX7) (N := 7) hx hb hts jX7_readParents_X7 hown hK hP 0 rfl rfl 5 (by decide) (hts _ qX7_readParents_22) (fun _ h9 => h9) rfl dX7_readParents_24 ?_
    obtain ⟨q2, hq, hf⟩ := ob_some hf
    refine cl_i (wc := (uX5_letterAt cI cJ a_p1 a_p1_codes i_p1_size g_p1_codes)) (w1 := (uX5_letterAt cI cJ a_p1 a_p1_codes i_p1_size g_p1_codes)) (rn_V (As := [.int i_place]) (b := a_p1) (rest := []) (wc := (uX5_letterAt cI cJ a_p1 a_p1_codes i_p1_size g_p1_codes)) (ci := 5) (q0 := 1) C hP hD [1, 2] rfl rfl rfl rfl (mX5_letterAt l D cI cJ H.size hq) 1 gX7_readParents_X5_letterAt rfl ⟨rfl, rfl, Nat.le_of_ble_eq_true rfl, Nat.le_of_ble_eq_true rfl⟩ hdX5_letterAt rfl hl.1 rfl (Nat.le_of_ble_eq_true rfl) dX7_readParents_27) hP hD hS hA [1, 2] rfl rfl (fun H locs hP hD hS => ?_)
    have hP : va_P D vwCl (uX7_readParents cI cJ a_this i_form i_overOthers i_overTwo i_first i_size i_place i_whole a_p1 a_p1_codes i_p1_size g_p1_codes) H := hP
    have hD : va_D A (uX7_readParents cI cJ a_this i_form i_overOthers i_overTwo i_first i_size i_place i_whole a_p1 a_p1_codes i_p1_size g_p1_codes) := hD
    refine lv_bipush (v := 48) hx hb dX7_readParents_30 (by decide) ?_
    refine lv_isub hx hb dX7_readParents_32 ?_
    refine lv_istore_n (lv' := [(3, .int (q2 - 48)), (0, .ref a_this), (1, .ref a_p1), (2, .int x2)]) hx hb dX7_readParents_33 rfl hl (by decide) rfl (fun ls hl => ?_)
    refine lv_iload_n hx hb dX7_readParents_34 rfl (lv_at hl 0 rfl) ?_
    refine lv_if_lt (tgt := 43) hx hb dX7_readParents_35 (by decide) (fun hc => ?_) (fun hc => ?_)
    · have hf := if_yes hc hf
      refine lv_iconst (v := 0) hx hb dX7_readParents_43 (by decide) ?_
      have ho := Option.some.inj hf
      subst ho
      exact hrt _ rfl H locs ls _ (Or.inl rfl) hP hD hS dX7_readParents_44
    · have hf := if_no hc hf
      refine lv_iload_n hx hb dX7_readParents_38 rfl (lv_at hl 0 rfl) ?_
      refine lv_iload_n hx hb dX7_readParents_39 rfl (lv_at hl 3 rfl) ?_
      refine lv_icmp_lt (tgt := 45) hx hb dX7_readParents_40 (by decide) (fun hc => ?_) (fun hc => ?_)
      · have hf := if_yes hc hf
        refine lv_aload_n hx hb dX7_readParents_45 rfl (lv_at hl 1 rfl) ?_
        refine lv_dup hx hb dX7_readParents_46 rfl ?_
        refine va_get (D := D) (ci := 7) (v := .int i_place) (C := RX7) (T := TX7) (N := 7) hx hb hts jX7_readParents_X7 hown hK hP 0 rfl rfl 5 (by decide) (hts _ qX7_readParents_22) (fun _ h9 => h9) rfl dX7_readParents_47 ?_
        refine lv_iconst (v := 1) hx hb dX7_readParents_50 (by decide) ?_
        refine lv_iadd hx hb dX7_readParents_51 ?_
        refine va_put (D := D) (ci := 7) (v := .int (i_place + 1)) (ty := tyX7 5) (C := RX7) (T := TX7) (N := 7) hx hb hts jX7_readParents_X7 tyX7 tyX7_ok nmX7 hown hK hP hD hS 0 rfl rfl 5 (by decide) (hts _ qX7_readParents_22) (fun _ h9 => h9) rfl (tyX7_ok 5 (by decide)) rfl rfl (Nat.le_of_ble_eq_true rfl) dX7_readParents_52 (fun H locs hP hD hS => ?_)
        have hP : va_P D vwCl (uX7_readParents cI cJ a_this i_form i_overOthers i_overTwo i_first i_size (i_place + 1) i_whole a_p1 a_p1_codes i_p1_size g_p1_codes) H := hP
        have hD : va_D A (uX7_readParents cI cJ a_this i_form i_overOthers i_overTwo i_first i_size (i_place + 1) i_whole a_p1 a_p1_codes i_p1_size g_p1_codes) := hD
        refine lv_iinc (v := (x2 + 1)) (lv' := [(2, .int (x2 + 1)), (3, .int (q2 - 48)), (0, .ref a_this), (1, .ref a_p1)]) hx hb dX7_readParents_55 hl (k := 3) rfl rfl (by decide) rfl (fun ls hl => ?_)
        refine lv_goto (tgt := 14) hx hb dX7_readParents_58 (by decide) ?_
        have ho := Option.some.inj hf
        subst ho
        exact hbk _ rfl _ _ _ hP hD hS (lv_sub hl [2, 3, 0] rfl)
      · have hf := if_no hc hf
        refine lv_iconst (v := 0) hx hb dX7_readParents_43 (by decide) ?_
        have ho := Option.some.inj hf
        subst ho
        exact hrt _ rfl H locs ls _ (Or.inl rfl) hP hD hS dX7_readParents_44
set_option maxHeartbeats 4000000 in
set_option maxRecDepth 100000 in
theorem kX7_readParents_J61 {p : Program} {l : Launch} {e : Env} {s : State} {m : MethodId} {args : Array Value} {below : List Frame} {meth : Method} {c : Code} {Q : State → Prop} {A : Nat → Prop} {D : va_G} {cI cJ : ClassId} (C : bC cX7_readParents 4 RX7 wsX7_readParents D cI cJ p s m args c meth A)
    {a_this : Nat} {i_form : Int32} {i_overOthers : Int32} {i_overTwo : Int32} {i_first : Int32} {i_size : Int32} {i_place : Int32} {i_whole : Int32} {a_p1 : Nat} {a_p1_codes : Nat} {i_p1_size : Int32} {g_p1_codes : Nat → Int32} {z : Nat} {o : Int32 × Int32} (hf : fX7_readParents_J61 z i_place i_p1_size g_p1_codes i_size = some o)
    (hrt : ∀ (H : Heap) (locs : List Loc) (ls : Array Slot) (pc : Nat), (o.1 = 0 ∨ o.1 = 1) → va_P D vwCl (uX7_readParents cI cJ a_this i_form i_overOthers i_overTwo i_first i_size o.2 i_whole a_p1 a_p1_codes i_p1_size g_p1_codes) H → va_D A (uX7_readParents cI cJ a_this i_form i_overOthers i_overTwo i_first i_size o.2 i_whole a_p1 a_p1_codes i_p1_size g_p1_codes) → va_S A s.heap H locs → decode cX7_readParents pc = .ok (.ireturn, 1) → W p l e rX7_readParents s m args below meth c H locs 0 0 Q (F0 m pc ls [.int o.1]))
    {H : Heap} {locs : List Loc} {ls : Array Slot} (hP : va_P D vwCl (uX7_readParents cI cJ a_this i_form i_overOthers i_overTwo i_first i_size i_place i_whole a_p1 a_p1_codes i_p1_size g_p1_codes) H) (hD : va_D A (uX7_readParents cI cJ a_this i_form i_overOthers i_overTwo i_first i_size i_place i_whole a_p1 a_p1_codes i_p1_size g_p1_codes)) (hS : va_S A s.heap H locs) (hl : lv_has ls 4 []) : W p l e rX7_readParents s m args below meth c H locs 0 0 Q (F0 m 61 ls []) := by
  obtain ⟨hx, hb, hml, hown, hts, hK, hN, hA, hlocks⟩ := id C
  unfold fX7_readParents_J61 at hf
  refine lv_iconst (v := 1) hx hb dX7_readParents_61 (by decide) ?_
  have ho := Option.some.inj hf
  subst ho
  exact hrt H locs ls _ (Or.inr rfl) hP hD hS dX7_readParents_62
set_option maxHeartbeats 4000000 in
set_option maxRecDepth 100000 in
theorem kX7_readParents_0 {p : Program} {l : Launch} {e : Env} {s : State} {m : MethodId} {args : Array Value} {below : List Frame} {meth : Method} {c : Code} {Q : State → Prop} {A : Nat → Prop} {D : va_G} {cI cJ : ClassId} (C : bC cX7_readParents 4 RX7 wsX7_readParents D cI cJ p s m args c meth A)
    {a_this : Nat} {i_form : Int32} {i_overOthers : Int32} {i_overTwo : Int32} {i_first : Int32} {i_size : Int32} {i_place : Int32} {i_whole : Int32} {a_p1 : Nat} {a_p1_codes : Nat} {i_p1_size : Int32} {g_p1_codes : Nat → Int32} {z : Nat} {o : Int32 × Int32} (hf : fX7_readParents z i_place i_p1_size g_p1_codes i_size = some o)
    (hrt : ∀ (H : Heap) (locs : List Loc) (ls : Array Slot) (pc : Nat), (o.1 = 0 ∨ o.1 = 1) → va_P D vwCl (uX7_readParents cI cJ a_this i_form i_overOthers i_overTwo i_first i_size o.2 i_whole a_p1 a_p1_codes i_p1_size g_p1_codes) H → va_D A (uX7_readParents cI cJ a_this i_form i_overOthers i_overTwo i_first i_size o.2 i_whole a_p1 a_p1_codes i_p1_size g_p1_codes) → va_S A s.heap H locs → decode cX7_readParents pc = .ok (.ireturn, 1) → W p l e rX7_readParents s m args below meth c H locs 0 0 Q (F0 m pc ls [.int o.1]))
    {H : Heap} {locs : List Loc} {ls : Array Slot} (hP : va_P D vwCl (uX7_readParents cI cJ a_this i_form i_overOthers i_overTwo i_first i_size i_place i_whole a_p1 a_p1_codes i_p1_size g_p1_codes) H) (hD : va_D A (uX7_readParents cI cJ a_this i_form i_overOthers i_overTwo i_first i_size i_place i_whole a_p1 a_p1_codes i_p1_size g_p1_codes)) (hS : va_S A s.heap H locs) (hl : lv_has ls 4 [(0, .ref a_this), (1, .ref a_p1)]) : W p l e rX7_readParents s m args below meth c H locs 0 0 Q (F0 m 0 ls []) := by
  obtain ⟨hx, hb, hml, hown, hts, hK, hN, hA, hlocks⟩ := id C
  unfold fX7_readParents at hf
  refine lv_aload_n hx hb dX7_readParents_0 rfl (lv_at hl 0 rfl) ?_
  refine lv_aload_n hx hb dX7_readParents_1 rfl (lv_at hl 1 rfl) ?_
  refine lv_bipush (v := 47) hx hb dX7_readParents_2 (by decide) ?_
  obtain ⟨q1, hq, hf⟩ := ob_some hf
  refine cl_i (wc := (uX7_takes cI cJ a_this i_form i_overOthers i_overTwo i_first i_size i_place i_whole a_p1 a_p1_codes i_p1_size g_p1_codes)) (w1 := (uX7_takes cI cJ a_this i_form i_overOthers i_overTwo i_first i_size q1.2 i_whole a_p1 a_p1_codes i_p1_size g_p1_codes)) (rn_V (As := [.ref a_p1, .int 47]) (b := a_this) (rest := []) (wc := (uX7_takes cI cJ a_this i_form i_overOthers i_overTwo i_first i_size i_place i_whole a_p1 a_p1_codes i_p1_size g_p1_codes)) (ci := 7) (q0 := 0) C hP hD [0, 1, 2] rfl rfl rfl rfl (mX7_takes l D cI cJ H.size hq) 2 gX7_readParents_X7_takes rfl ⟨rfl, rfl, Nat.le_of_ble_eq_true rfl, Nat.le_of_ble_eq_true rfl⟩ hdX7_takes rfl hl.1 rfl (Nat.le_of_ble_eq_true rfl) dX7_readParents_4) hP hD hS hA [0, 1, 2] rfl rfl (fun H locs hP hD hS => ?_)
  have hP : va_P D vwCl (uX7_readParents cI cJ a_this i_form i_overOthers i_overTwo i_first i_size q1.2 i_whole a_p1 a_p1_codes i_p1_size g_p1_codes) H := hP
  have hD : va_D A (uX7_readParents cI cJ a_this i_form i_overOthers i_overTwo i_first i_size q1.2 i_whole a_p1 a_p1_codes i_p1_size g_p1_codes) := hD
  refine lv_if_ne (tgt := 12) hx hb dX7_readParents_7 (by decide) (fun hc => ?_) (fun hc => ?_)
  · have hf := if_no hc hf
    refine lv_iconst (v := 1) hx hb dX7_readParents_12 (by decide) ?_
    refine lv_istore_n (lv' := [(2, .int 1), (0, .ref a_this), (1, .ref a_p1)]) hx hb dX7_readParents_13 rfl hl (by decide) rfl (fun ls hl => ?_)
    obtain ⟨ex, hlp, hf⟩ := ob_some hf
    refine lp_ind (P := fun sg => ∀ (H : Heap) (locs : List Loc) (ls : Array Slot), va_P D vwCl (uX7_readParents cI cJ a_this i_form i_overOthers i_overTwo i_first i_size sg.2 i_whole a_p1 a_p1_codes i_p1_size g_p1_codes) H → va_D A (uX7_readParents cI cJ a_this i_form i_overOthers i_overTwo i_first i_size sg.2 i_whole a_p1 a_p1_codes i_p1_size g_p1_codes) → va_S A s.heap H locs → lv_has ls 4 [(0, .ref a_this), (1, .ref a_p1), (2, .int sg.1)] → W p l e rX7_readParents s m args below meth c H locs 0 0 Q (F0 m 14 ls [])) ?_ z _ hlp H locs ls hP hD hS (lv_sub hl [1, 2, 0] rfl)
    intro sg og hbo hback hexit H locs ls hP hD hS hl
    refine kX7_readParents_L14 C hbo (fun s' h => hback s' h) (fun ex h H locs ls hP hD hS hl => ?_) (fun rr h H locs ls pc hz hP hD hS hdg => ?_) hP hD hS hl
    · have he := hexit _ h
      subst he
      simp only [Sum.elim_inl] at hf
      exact kX7_readParents_J61 C hf hrt hP hD hS (lv_sub hl [] rfl)
    · have he := hexit _ h
      subst he
      simp only [Sum.elim_inr] at hf
      have ho := Option.some.inj hf
      subst ho
      exact hrt H locs ls pc hz hP hD hS hdg
  · have hf := if_yes hc hf
    refine lv_iconst (v := 0) hx hb dX7_readParents_10 (by decide) ?_
    have ho := Option.some.inj hf
    subst ho
    exact hrt H locs ls _ (Or.inl rfl) hP hD hS dX7_readParents_11
set_option maxHeartbeats 4000000 in
set_option maxRecDepth 100000 in
theorem mX7_readParents (l : Launch) (D : va_G) (cI cJ : ClassId) (sz : Nat) {a_this : Nat} {i_form : Int32} {i_overOthers : Int32} {i_overTwo : Int32} {i_first : Int32} {i_size : Int32} {i_place : Int32} {i_whole : Int32} {a_p1 : Nat} {a_p1_codes : Nat} {i_p1_size : Int32} {g_p1_codes : Nat → Int32} {z : Nat} {o : Int32 × Int32} (hf : fX7_readParents z i_place i_p1_size g_p1_codes i_size = some o) : Met l yX7_readParents wsX7_readParents rX7_readParents (va_Pc [.ref a_this, .ref a_p1] (kP D cI cJ (uX7_readParents cI cJ a_this i_form i_overOthers i_overTwo i_first i_size i_place i_whole a_p1 a_p1_codes i_p1_size g_p1_codes) sz)) (va_Qi (fun r' (_ : Unit) => r' = o.1) (fun _ t => kB D (va_A (uX7_readParents cI cJ a_this i_form i_overOthers i_overTwo i_first i_size i_place i_whole a_p1 a_p1_codes i_p1_size g_p1_codes) sz) (uX7_readParents cI cJ a_this i_form i_overOthers i_overTwo i_first i_size o.2 i_whole a_p1 a_p1_codes i_p1_size g_p1_codes) t) (va_A (uX7_readParents cI cJ a_this i_form i_overOthers i_overTwo i_first i_size i_place i_whole a_p1 a_p1_codes i_p1_size g_p1_codes) sz)) 0 0 (va_A (uX7_readParents cI cJ a_this i_form i_overOthers i_overTwo i_first i_size i_place i_whole a_p1 a_p1_codes i_p1_size g_p1_codes) sz) :=
  met_z (by decide) rfl (Nat.le_of_ble_eq_true rfl) (fun p e s m below meth c A Q C hrt ls hl hP hD hS => kX7_readParents_0 (A := A) C hf hrt hP hD hS hl)

