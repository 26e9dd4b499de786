/-! ===== FrogsOnRing$Ending.winningTarget(III)I ===== -/
abbrev uX2_winningTarget (cI cJ : ClassId) (a_this : Nat) (a_pond : Nat) (a_moves : Nat) (a_numbering : Nat) (a_search : Nat) (a_levelEnds : Nat) (a_sorted : Nat) (a_mosts : Nat) (a_winners : Nat) (i_settledLook : Int32) (a_pond_behinds : Nat) (a_pond_depths : Nat) (i_pond_size : Int32) (i_pond_isRing : Int32) (i_pond_overOthers : Int32) (i_pond_longestLeap : Int32) (a_moves_targets : Nat) (g_moves_targets : Nat → Int32) (a_numbering_lowStarts : Nat) (a_numbering_highNumbers : Nat) (a_numbering_mixtureSizes : Nat) (i_numbering_lowBits : Int32) (i_numbering_all : Int32) (g_numbering_lowStarts : Nat → Int32) (g_numbering_highNumbers : Nat → Int32) (g_winners : Nat → Int32) : va_W := [(a_this, .inr (2, [.ref a_pond, .ref a_moves, .ref a_numbering, .ref a_search, .ref a_levelEnds, .ref a_sorted, .ref a_mosts, .ref a_winners, .int i_settledLook])), (a_pond, .inr (6, [.ref a_pond_behinds, .ref a_pond_depths, .int i_pond_size, .int i_pond_isRing, .int i_pond_overOthers, .int i_pond_longestLeap])), (a_moves, .inr (3, [.ref a_pond, .ref a_moves_targets])), (a_moves_targets, .inl (cI, 9, .inl g_moves_targets)), (a_numbering, .inr (4, [.ref a_numbering_lowStarts, .ref a_numbering_highNumbers, .ref a_numbering_mixtureSizes, .int i_numbering_lowBits, .int i_numbering_all])), (a_numbering_lowStarts, .inl (cI, 1024, .inl g_numbering_lowStarts)), (a_numbering_highNumbers, .inl (cI, 256, .inl g_numbering_highNumbers)), (a_winners, .inl (cI, 1680, .inl g_winners))]
def rX2_winningTarget : Room := { frames := 2, cells := 0, slots := 0, locals := 47 }
theorem hdX2_winningTarget : yX2_winningTarget.cls = RX2 ∧ yX2_winningTarget.cls ≠ "java/lang/invoke/MethodHandle" ∧ yX2_winningTarget.cls ≠ "java/lang/invoke/VarHandle" ∧ (parseMethodDescriptor yX2_winningTarget.desc).map (fun d => d.parameters.length) = some 3 := by decide +kernel
set_option maxRecDepth 20000 in
theorem jX2_winningTarget_X2 : ∀ w ∈ u_ws RX2 TX2 9, w ∈ wsX2_winningTarget := by decide +kernel
set_option maxRecDepth 20000 in
theorem jX2_winningTarget_X6 : ∀ w ∈ u_ws RX6 TX6 6, w ∈ wsX2_winningTarget := by decide +kernel
set_option maxRecDepth 20000 in
theorem qX2_winningTarget_24 : Cond.fieldLink RX2 24 "FrogsOnRing$Ending" "pond" "LFrogsOnRing$Pond;" ∈ wsX2_winningTarget := by decide +kernel
set_option maxRecDepth 20000 in
theorem qX2_winningTarget_28 : Cond.fieldLink RX2 28 "FrogsOnRing$Ending" "moves" "LFrogsOnRing$Moves;" ∈ wsX2_winningTarget := by decide +kernel
set_option maxRecDepth 20000 in
theorem qX2_winningTarget_81 : Cond.fieldLink RX2 81 "FrogsOnRing$Pond" "size" "I" ∈ wsX2_winningTarget := by decide +kernel
set_option maxRecDepth 20000 in
theorem qX2_winningTarget_iX9_afterMove : Cond.initialized yX9_afterMove.cls ∈ wsX2_winningTarget := by decide +kernel
set_option maxRecDepth 20000 in
theorem qX2_winningTarget_sX9_afterMove : Cond.static yX9_afterMove ∈ wsX2_winningTarget := by decide +kernel
set_option maxHeartbeats 4000000 in
set_option maxRecDepth 100000 in
theorem kX2_winningTarget_L3 {p : Program} {l : Launch} {e : Env} {s : State} {m : MethodId} {args : Array Value} {below : List Frame} {meth : Method} {c : Code} {Q : State → Prop} {A : Nat → Prop} {D : va_G} {cI cJ : ClassId} (C : bC cX2_winningTarget 5 RX2 wsX2_winningTarget D cI cJ p s m args c meth A)
    {a_this : Nat} {a_pond : Nat} {a_moves : Nat} {a_numbering : Nat} {a_search : Nat} {a_levelEnds : Nat} {a_sorted : Nat} {a_mosts : Nat} {a_winners : Nat} {i_settledLook : Int32} {a_pond_behinds : Nat} {a_pond_depths : Nat} {i_pond_size : Int32} {i_pond_isRing : Int32} {i_pond_overOthers : Int32} {i_pond_longestLeap : Int32} {a_moves_targets : Nat} {g_moves_targets : Nat → Int32} {a_numbering_lowStarts : Nat} {a_numbering_highNumbers : Nat} {a_numbering_mixtureSizes : Nat} {i_numbering_lowBits : Int32} {i_numbering_all : Int32} {g_numbering_lowStarts : Nat → Int32} {g_numbering_highNumbers : Nat → Int32} {g_winners : Nat → Int32} {z : Nat} {x1 : Int32} {x2 : Int32} {x3 : Int32} {x4 : Int32} {o : (Int32) ⊕ ((Unit) ⊕ (Int32))} (hf : fX2_winningTarget_L3 z x1 x2 x3 x4 i_pond_size g_moves_targets i_numbering_lowBits g_numbering_lowStarts g_numbering_highNumbers i_numbering_all g_winners = some o)
    (hbk : ∀ s', o = .inl s' → ∀ (H : Heap) (locs : List Loc) (ls : Array Slot), va_P D vwCl (uX2_winningTarget cI cJ a_this a_pond a_moves a_numbering a_search a_levelEnds a_sorted a_mosts a_winners i_settledLook a_pond_behinds a_pond_depths i_pond_size i_pond_isRing i_pond_overOthers i_pond_longestLeap a_moves_targets g_moves_targets a_numbering_lowStarts a_numbering_highNumbers a_numbering_mixtureSizes i_numbering_lowBits i_numbering_all g_numbering_lowStarts g_numbering_highNumbers g_winners) H → va_D A (uX2_winningTarget cI cJ a_this a_pond a_moves a_numbering a_search a_levelEnds a_sorted a_mosts a_winners i_settledLook a_pond_behinds a_pond_depths i_pond_size i_pond_isRing i_pond_overOthers i_pond_longestLeap a_moves_targets g_moves_targets a_numbering_lowStarts a_numbering_highNumbers a_numbering_mixtureSizes i_numbering_lowBits i_numbering_all g_numbering_lowStarts g_numbering_highNumbers g_winners) → va_S A s.heap H locs → lv_has ls 5 [(0, .ref a_this), (1, .int x1), (2, .int x2), (3, .int x3), (4, .int s')] → W p l e rX2_winningTarget s m args below meth c H locs 0 0 Q (F0 m 3 ls []))
    (hex : ∀ e', o = .inr (.inl e') → ∀ (H : Heap) (locs : List Loc) (ls : Array Slot), va_P D vwCl (uX2_winningTarget cI cJ a_this a_pond a_moves a_numbering a_search a_levelEnds a_sorted a_mosts a_winners i_settledLook a_pond_behinds a_pond_depths i_pond_size i_pond_isRing i_pond_overOthers i_pond_longestLeap a_moves_targets g_moves_targets a_numbering_lowStarts a_numbering_highNumbers a_numbering_mixtureSizes i_numbering_lowBits i_numbering_all g_numbering_lowStarts g_numbering_highNumbers g_winners) H → va_D A (uX2_winningTarget cI cJ a_this a_pond a_moves a_numbering a_search a_levelEnds a_sorted a_mosts a_winners i_settledLook a_pond_behinds a_pond_depths i_pond_size i_pond_isRing i_pond_overOthers i_pond_longestLeap a_moves_targets g_moves_targets a_numbering_lowStarts a_numbering_highNumbers a_numbering_mixtureSizes i_numbering_lowBits i_numbering_all g_numbering_lowStarts g_numbering_highNumbers g_winners) → va_S A s.heap H locs → lv_has ls 5 [] → W p l e rX2_winningTarget s m args below meth c H locs 0 0 Q (F0 m 55 ls []))
    (hrt : ∀ r', o = .inr (.inr r') → ∀ (H : Heap) (locs : List Loc) (ls : Array Slot) (pc : Nat), va_P D vwCl (uX2_winningTarget cI cJ a_this a_pond a_moves a_numbering a_search a_levelEnds a_sorted a_mosts a_winners i_settledLook a_pond_behinds a_pond_depths i_pond_size i_pond_isRing i_pond_overOthers i_pond_longestLeap a_moves_targets g_moves_targets a_numbering_lowStarts a_numbering_highNumbers a_numbering_mixtureSizes i_numbering_lowBits i_numbering_all g_numbering_lowStarts g_numbering_highNumbers g_winners) H → va_D A (uX2_winningTarget cI cJ a_this a_pond a_moves a_numbering a_search a_levelEnds a_sorted a_mosts a_winners i_settledLook a_pond_behinds a_pond_depths i_pond_size i_pond_isRing i_pond_overOthers i_pond_longestLeap a_moves_targets g_moves_targets a_numbering_lowStarts a_numbering_highNumbers a_numbering_mixtureSizes i_numbering_lowBits i_numbering_all g_numbering_lowStarts g_numbering_highNumbers g_winners) → va_S A s.heap H locs → decode cX2_winningTarget pc = .ok (.ireturn, 1) → W p l e rX2_winningTarget s m args below meth c H locs 0 0 Q (F0 m pc ls [.int r']))
    {H : Heap} {locs : List Loc} {ls : Array Slot} (hP : va_P D vwCl (uX2_winningTarget cI cJ a_this a_pond a_moves a_numbering a_search a_levelEnds a_sorted a_mosts a_winners i_settledLook a_pond_behinds a_pond_depths i_pond_size i_pond_isRing i_pond_overOthers i_pond_longestLeap a_moves_targets g_moves_targets a_numbering_lowStarts a_numbering_highNumbers a_numbering_mixtureSizes i_numbering_lowBits i_numbering_all g_numbering_lowStarts g_numbering_highNumbers g_winners) H) (hD : va_D A (uX2_winningTarget cI cJ a_this a_pond a_moves a_numbering a_search a_levelEnds a_sorted a_mosts a_winners i_settledLook a_pond_behinds a_pond_depths i_pond_size i_pond_isRing i_pond_overOthers i_pond_longestLeap a_moves_targets g_moves_targets a_numbering_lowStarts a_numbering_highNumbers a_numbering_mixtureSizes i_numbering_lowBits i_numbering_all g_numbering_lowStarts g_numbering_highNumbers g_winners)) (hS : va_S A s.heap H locs) (hl : lv_has ls 5 [(0, .ref a_this), (1, .int x1), (2, .int x2), (3, .int x3), (4, .int x4)]) : W p l e rX2_winningTarget s m args below meth c H locs 0 0 Q (F0 m 3 ls []) := by
  obtain ⟨hx, hb, hml, hown, hts, hK, hN, hA, hlocks⟩ := id C
  unfold fX2_winningTarget_L3 at hf
  refine lv_iload hx hb dX2_winningTarget_3 (lv_at hl 4 rfl) ?_
  refine lv_aload_n hx hb dX2_winningTarget_5 rfl (lv_at hl 0 rfl) ?_
  refine va_get (D := D) (ci := 2) (v := .ref a_pond) (C := RX2) (T := TX2) (N := 9) hx hb hts jX2_winningTarget_X2 hown hK hP 0 rfl rfl 0 (by decide) (hts _ qX2_winningTarget_24) (fun _ h9 => h9) rfl dX2_winningTarget_6 ?_
  refine va_get (D := D) (ci := 6) (v := .int i_pond_size) (C := RX6) (T := TX6) (N := 6) hx hb hts jX2_winningTarget_X6 hown hK hP 1 rfl rfl 2 (by decide) (hts _ qX2_winningTarget_81) (fun _ h9 => h9) rfl dX2_winningTarget_9 ?_
  refine lv_icmp_ge (tgt := 55) hx hb dX2_winningTarget_12 (by decide) (fun hc => ?_) (fun hc => ?_)
  · have hf := if_yes hc hf
    have ho := Option.some.inj hf
    subst ho
    exact hex _ rfl _ _ _ hP hD hS (lv_sub hl [] rfl)
  · have hf := if_no hc hf
    refine lv_aload_n hx hb dX2_winningTarget_15 rfl (lv_at hl 0 rfl) ?_
    refine va_get (D := D) (ci := 2) (v := .ref a_moves) (C := RX2) (T := TX2) (N := 9) hx hb hts jX2_winningTarget_X2 hown hK hP 0 rfl rfl 1 (by decide) (hts _ qX2_winningTarget_28) (fun _ h9 => h9) rfl dX2_winningTarget_16 ?_
    refine lv_iload_n hx hb dX2_winningTarget_19 rfl (lv_at hl 2 rfl) ?_
    refine lv_iload hx hb dX2_winningTarget_20 (lv_at hl 4 rfl) ?_
    obtain ⟨q1, hq, hf⟩ := ob_some hf
    refine cl_i (wc := (uX3_has cI cJ a_moves a_pond a_moves_targets g_moves_targets)) (w1 := (uX3_has cI cJ a_moves a_pond a_moves_targets g_moves_targets)) (rn_V (As := [.int x2, .int x4]) (b := a_moves) (rest := []) (wc := (uX3_has cI cJ a_moves a_pond a_moves_targets g_moves_targets)) (ci := 3) (q0 := 2) C hP hD [2, 3] rfl rfl rfl rfl (mX3_has l D cI cJ H.size hq) 2 gX2_winningTarget_X3_has rfl ⟨rfl, rfl, Nat.le_of_ble_eq_true rfl, Nat.le_of_ble_eq_true rfl⟩ hdX3_has rfl hl.1 rfl (Nat.le_of_ble_eq_true rfl) dX2_winningTarget_22) hP hD hS hA [2, 3] rfl rfl (fun H locs hP hD hS => ?_)
    have hP : va_P D vwCl (uX2_winningTarget cI cJ a_this a_pond a_moves a_numbering a_search a_levelEnds a_sorted a_mosts a_winners i_settledLook a_pond_behinds a_pond_depths i_pond_size i_pond_isRing i_pond_overOthers i_pond_longestLeap a_moves_targets g_moves_targets a_numbering_lowStarts a_numbering_highNumbers a_numbering_mixtureSizes i_numbering_lowBits i_numbering_all g_numbering_lowStarts g_numbering_highNumbers g_winners) H := hP
    have hD : va_D A (uX2_winningTarget cI cJ a_this a_pond a_moves a_numbering a_search a_levelEnds a_sorted a_mosts a_winners i_settledLook a_pond_behinds a_pond_depths i_pond_size i_pond_isRing i_pond_overOthers i_pond_longestLeap a_moves_targets g_moves_targets a_numbering_lowStarts a_numbering_highNumbers a_numbering_mixtureSizes i_numbering_lowBits i_numbering_all g_numbering_lowStarts g_numbering_highNumbers g_winners) := hD
    refine lv_if_eq (tgt := 49) hx hb dX2_winningTarget_25 (by decide) (fun hc => ?_) (fun hc => ?_)
    · have hf := if_yes hc hf
      refine lv_iinc (v := (x4 + 1)) (lv' := [(4, .int (x4 + 1)), (0, .ref a_this), (1, .int x1), (2, .int x2), (3, .int x3)]) hx hb dX2_winningTarget_49 hl (k := 4) rfl rfl (by decide) rfl (fun ls hl => ?_)
      refine lv_goto (tgt := 3) hx hb dX2_winningTarget_52 (by decide) ?_
      have ho := Option.some.inj hf
      subst ho
      exact hbk _ rfl _ _ _ hP hD hS (lv_sub hl [1, 2, 3, 4, 0] rfl)
    · have hf := if_no hc hf
      refine lv_aload_n hx hb dX2_winningTarget_28 rfl (lv_at hl 0 rfl) ?_
      refine lv_iload_n hx hb dX2_winningTarget_29 rfl (lv_at hl 1 rfl) ?_
      refine lv_iload_n hx hb dX2_winningTarget_30 rfl (lv_at hl 2 rfl) ?_
      refine lv_iload hx hb dX2_winningTarget_31 (lv_at hl 4 rfl) ?_
      refine cl_i (wc := (uX9_afterMove cI cJ)) (w1 := (uX9_afterMove cI cJ)) (rn_N (As := [.int x1, .int x2, .int x4]) (rest := [.ref a_this]) (wc := (uX9_afterMove cI cJ)) C hP hD [] rfl rfl (mX9_afterMove l D cI cJ H.size) 3 gX2_winningTarget_X9_afterMove_n104 qX2_winningTarget_iX9_afterMove qX2_winningTarget_sX9_afterMove 15 rfl rfl ⟨rfl, rfl, Nat.le_of_ble_eq_true rfl, Nat.le_of_ble_eq_true rfl⟩ hdX9_afterMove.2 rfl hl.1 rfl (Nat.le_of_ble_eq_true rfl) dX2_winningTarget_33) hP hD hS hA [] rfl rfl (fun H locs hP hD hS => ?_)
      have hP : va_P D vwCl (uX2_winningTarget cI cJ a_this a_pond a_moves a_numbering a_search a_levelEnds a_sorted a_mosts a_winners i_settledLook a_pond_behinds a_pond_depths i_pond_size i_pond_isRing i_pond_overOthers i_pond_longestLeap a_moves_targets g_moves_targets a_numbering_lowStarts a_numbering_highNumbers a_numbering_mixtureSizes i_numbering_lowBits i_numbering_all g_numbering_lowStarts g_numbering_highNumbers g_winners) H := hP
      have hD : va_D A (uX2_winningTarget cI cJ a_this a_pond a_moves a_numbering a_search a_levelEnds a_sorted a_mosts a_winners i_settledLook a_pond_behinds a_pond_depths i_pond_size i_pond_isRing i_pond_overOthers i_pond_longestLeap a_moves_targets g_moves_targets a_numbering_lowStarts a_numbering_highNumbers a_numbering_mixtureSizes i_numbering_lowBits i_numbering_all g_numbering_lowStarts g_numbering_highNumbers g_winners) := hD
      refine lv_iload_n hx hb dX2_winningTarget_36 rfl (lv_at hl 3 rfl) ?_
      refine cl_i (wc := (uX2_otherColour cI cJ)) (w1 := (uX2_otherColour cI cJ)) (rn_S (As := [.int x3]) (rest := [.int (fX9_afterMove x1 x2 x4), .ref a_this]) (wc := (uX2_otherColour cI cJ)) C hP hD [] rfl rfl (mX2_otherColour l D cI cJ H.size) 1 gX2_winningTarget_X2_otherColour rfl ⟨rfl, rfl, Nat.le_of_ble_eq_true rfl, Nat.le_of_ble_eq_true rfl⟩ hdX2_otherColour.2 rfl hl.1 rfl (Nat.le_of_ble_eq_true rfl) dX2_winningTarget_37) hP hD hS hA [] rfl rfl (fun H locs hP hD hS => ?_)
      have hP : va_P D vwCl (uX2_winningTarget cI cJ a_this a_pond a_moves a_numbering a_search a_levelEnds a_sorted a_mosts a_winners i_settledLook a_pond_behinds a_pond_depths i_pond_size i_pond_isRing i_pond_overOthers i_pond_longestLeap a_moves_targets g_moves_targets a_numbering_lowStarts a_numbering_highNumbers a_numbering_mixtureSizes i_numbering_lowBits i_numbering_all g_numbering_lowStarts g_numbering_highNumbers g_winners) H := hP
      have hD : va_D A (uX2_winningTarget cI cJ a_this a_pond a_moves a_numbering a_search a_levelEnds a_sorted a_mosts a_winners i_settledLook a_pond_behinds a_pond_depths i_pond_size i_pond_isRing i_pond_overOthers i_pond_longestLeap a_moves_targets g_moves_targets a_numbering_lowStarts a_numbering_highNumbers a_numbering_mixtureSizes i_numbering_lowBits i_numbering_all g_numbering_lowStarts g_numbering_highNumbers g_winners) := hD
      obtain ⟨q2, hq, hf⟩ := ob_some hf
      refine cl_i (wc := (uX2_wins cI cJ a_this a_pond a_moves a_numbering a_search a_levelEnds a_sorted a_mosts a_winners i_settledLook a_numbering_lowStarts a_numbering_highNumbers a_numbering_mixtureSizes i_numbering_lowBits i_numbering_all g_numbering_lowStarts g_numbering_highNumbers g_winners)) (w1 := (uX2_wins cI cJ a_this a_pond a_moves a_numbering a_search a_levelEnds a_sorted a_mosts a_winners i_settledLook a_numbering_lowStarts a_numbering_highNumbers a_numbering_mixtureSizes i_numbering_lowBits i_numbering_all g_numbering_lowStarts g_numbering_highNumbers g_winners)) (rn_V (As := [.int (fX9_afterMove x1 x2 x4), .int (fX2_otherColour x3)]) (b := a_this) (rest := []) (wc := (uX2_wins cI cJ a_this a_pond a_moves a_numbering a_search a_levelEnds a_sorted a_mosts a_winners i_settledLook a_numbering_lowStarts a_numbering_highNumbers a_numbering_mixtureSizes i_numbering_lowBits i_numbering_all g_numbering_lowStarts g_numbering_highNumbers g_winners)) (ci := 2) (q0 := 0) C hP hD [0, 4, 5, 6, 7] rfl rfl rfl rfl (mX2_wins l D cI cJ H.size hq) 2 gX2_winningTarget_X2_wins rfl ⟨rfl, rfl, Nat.le_of_ble_eq_true rfl, Nat.le_of_ble_eq_true rfl⟩ hdX2_wins rfl hl.1 rfl (Nat.le_of_ble_eq_true rfl) dX2_winningTarget_40) hP hD hS hA [0, 4, 5, 6, 7] rfl rfl (fun H locs hP hD hS => ?_)
      have hP : va_P D vwCl (uX2_winningTarget cI cJ a_this a_pond a_moves a_numbering a_search a_levelEnds a_sorted a_mosts a_winners i_settledLook a_pond_behinds a_pond_depths i_pond_size i_pond_isRing i_pond_overOthers i_pond_longestLeap a_moves_targets g_moves_targets a_numbering_lowStarts a_numbering_highNumbers a_numbering_mixtureSizes i_numbering_lowBits i_numbering_all g_numbering_lowStarts g_numbering_highNumbers g_winners) H := hP
      have hD : va_D A (uX2_winningTarget cI cJ a_this a_pond a_moves a_numbering a_search a_levelEnds a_sorted a_mosts a_winners i_settledLook a_pond_behinds a_pond_depths i_pond_size i_pond_isRing i_pond_overOthers i_pond_longestLeap a_moves_targets g_moves_targets a_numbering_lowStarts a_numbering_highNumbers a_numbering_mixtureSizes i_numbering_lowBits i_numbering_all g_numbering_lowStarts g_numbering_highNumbers g_winners) := hD
      refine lv_if_ne (tgt := 49) hx hb dX2_winningTarget_43 (by decide) (fun hc => ?_) (fun hc => ?_)
      · have hf := if_no hc hf
        refine lv_iinc (v := (x4 + 1)) (lv' := [(4, .int (x4 + 1)), (0, .ref a_this), (1, .int x1), (2, .int x2), (3, .int x3)]) hx hb dX2_winningTarget_49 hl (k := 4) rfl rfl (by decide) rfl (fun ls hl => ?_)
        refine lv_goto (tgt := 3) hx hb dX2_winningTarget_52 (by decide) ?_
        have ho := Option.some.inj hf
        subst ho
        exact hbk _ rfl _ _ _ hP hD hS (lv_sub hl [1, 2, 3, 4, 0] rfl)
      · have hf := if_yes hc hf
        refine lv_iload hx hb dX2_winningTarget_46 (lv_at hl 4 rfl) ?_
        have ho := Option.some.inj hf
        subst ho
        exact hrt _ rfl H locs ls _ hP hD hS dX2_winningTarget_48
set_option maxHeartbeats 4000000 in
set_option maxRecDepth 100000 in
theorem kX2_winningTarget_J55 {p : Program} {l : Launch} {e : Env} {s : State} {m : MethodId} {args : Array Value} {below : List Frame} {meth : Method} {c : Code} {Q : State → Prop} {A : Nat → Prop} {D : va_G} {cI cJ : ClassId} (C : bC cX2_winningTarget 5 RX2 wsX2_winningTarget D cI cJ p s m args c meth A)
    {a_this : Nat} {a_pond : Nat} {a_moves : Nat} {a_numbering : Nat} {a_search : Nat} {a_levelEnds : Nat} {a_sorted : Nat} {a_mosts : Nat} {a_winners : Nat} {i_settledLook : Int32} {a_pond_behinds : Nat} {a_pond_depths : Nat} {i_pond_size : Int32} {i_pond_isRing : Int32} {i_pond_overOthers : Int32} {i_pond_longestLeap : Int32} {a_moves_targets : Nat} {g_moves_targets : Nat → Int32} {a_numbering_lowStarts : Nat} {a_numbering_highNumbers : Nat} {a_numbering_mixtureSizes : Nat} {i_numbering_lowBits : Int32} {i_numbering_all : Int32} {g_numbering_lowStarts : Nat → Int32} {g_numbering_highNumbers : Nat → Int32} {g_winners : Nat → Int32} {z : Nat} {o : Int32} (hf : fX2_winningTarget_J55 z i_pond_size g_moves_targets i_numbering_lowBits g_numbering_lowStarts g_numbering_highNumbers i_numbering_all g_winners = some o)
    (hrt : ∀ (H : Heap) (locs : List Loc) (ls : Array Slot) (pc : Nat), va_P D vwCl (uX2_winningTarget cI cJ a_this a_pond a_moves a_numbering a_search a_levelEnds a_sorted a_mosts a_winners i_settledLook a_pond_behinds a_pond_depths i_pond_size i_pond_isRing i_pond_overOthers i_pond_longestLeap a_moves_targets g_moves_targets a_numbering_lowStarts a_numbering_highNumbers a_numbering_mixtureSizes i_numbering_lowBits i_numbering_all g_numbering_lowStarts g_numbering_highNumbers g_winners) H → va_D A (uX2_winningTarget cI cJ a_this a_pond a_moves a_numbering a_search a_levelEnds a_sorted a_mosts a_winners i_settledLook a_pond_behinds a_pond_depths i_pond_size i_pond_isRing i_pond_overOthers i_pond_longestLeap a_moves_targets g_moves_targets a_numbering_lowStarts a_numbering_highNumbers a_numbering_mixtureSizes i_numbering_lowBits i_numbering_all g_numbering_lowStarts g_numbering_highNumbers g_winners) → va_S A s.heap H locs → decode cX2_winningTarget pc = .ok (.ireturn, 1) → W p l e rX2_winningTarget s m args below meth c H locs 0 0 Q (F0 m pc ls [.int o]))
    {H : Heap} {locs : List Loc} {ls : Array Slot} (hP : va_P D vwCl (uX2_winningTarget cI cJ a_this a_pond a_moves a_numbering a_search a_levelEnds a_sorted a_mosts a_winners i_settledLook a_pond_behinds a_pond_depths i_pond_size i_pond_isRing i_pond_overOthers i_pond_longestLeap a_moves_targets g_moves_targets a_numbering_lowStarts a_numbering_highNumbers a_numbering_mixtureSizes i_numbering_lowBits i_numbering_all g_numbering_lowStarts g_numbering_highNumbers g_winners) H) (hD : va_D A (uX2_winningTarget cI cJ a_this a_pond a_moves a_numbering a_search a_levelEnds a_sorted a_mosts a_winners i_settledLook a_pond_behinds a_pond_depths i_pond_size i_pond_isRing i_pond_overOthers i_pond_longestLeap a_moves_targets g_moves_targets a_numbering_lowStarts a_numbering_highNumbers a_numbering_mixtureSizes i_numbering_lowBits i_numbering_all g_numbering_lowStarts g_numbering_highNumbers g_winners)) (hS : va_S A s.heap H locs) (hl : lv_has ls 5 []) : W p l e rX2_winningTarget s m args below meth c H locs 0 0 Q (F0 m 55 ls []) := by
  obtain ⟨hx, hb, hml, hown, hts, hK, hN, hA, hlocks⟩ := id C
  unfold fX2_winningTarget_J55 at hf
  refine lv_iconst (v := (-1)) hx hb dX2_winningTarget_55 (by decide) ?_
  have ho := Option.some.inj hf
  subst ho
  exact hrt H locs ls _ hP hD hS dX2_winningTarget_56
set_option maxHeartbeats 4000000 in
set_option maxRecDepth 100000 in
theorem kX2_winningTarget_0 {p : Program} {l : Launch} {e : Env} {s : State} {m : MethodId} {args : Array Value} {below : List Frame} {meth : Method} {c : Code} {Q : State → Prop} {A : Nat → Prop} {D : va_G} {cI cJ : ClassId} (C : bC cX2_winningTarget 5 RX2 wsX2_winningTarget D cI cJ p s m args c meth A)
    {a_this : Nat} {a_pond : Nat} {a_moves : Nat} {a_numbering : Nat} {a_search : Nat} {a_levelEnds : Nat} {a_sorted : Nat} {a_mosts : Nat} {a_winners : Nat} {i_settledLook : Int32} {a_pond_behinds : Nat} {a_pond_depths : Nat} {i_pond_size : Int32} {i_pond_isRing : Int32} {i_pond_overOthers : Int32} {i_pond_longestLeap : Int32} {a_moves_targets : Nat} {g_moves_targets : Nat → Int32} {a_numbering_lowStarts : Nat} {a_numbering_highNumbers : Nat} {a_numbering_mixtureSizes : Nat} {i_numbering_lowBits : Int32} {i_numbering_all : Int32} {g_numbering_lowStarts : Nat → Int32} {g_numbering_highNumbers : Nat → Int32} {g_winners : Nat → Int32} {z : Nat} {x1 : Int32} {x2 : Int32} {x3 : Int32} {o : Int32} (hf : fX2_winningTarget z x1 x2 x3 i_pond_size g_moves_targets i_numbering_lowBits g_numbering_lowStarts g_numbering_highNumbers i_numbering_all g_winners = some o)
    (hrt : ∀ (H : Heap) (locs : List Loc) (ls : Array Slot) (pc : Nat), va_P D vwCl (uX2_winningTarget cI cJ a_this a_pond a_moves a_numbering a_search a_levelEnds a_sorted a_mosts a_winners i_settledLook a_pond_behinds a_pond_depths i_pond_size i_pond_isRing i_pond_overOthers i_pond_longestLeap a_moves_targets g_moves_targets a_numbering_lowStarts a_numbering_highNumbers a_numbering_mixtureSizes i_numbering_lowBits i_numbering_all g_numbering_lowStarts g_numbering_highNumbers g_winners) H → va_D A (uX2_winningTarget cI cJ a_this a_pond a_moves a_numbering a_search a_levelEnds a_sorted a_mosts a_winners i_settledLook a_pond_behinds a_pond_depths i_pond_size i_pond_isRing i_pond_overOthers i_pond_longestLeap a_moves_targets g_moves_targets a_numbering_lowStarts a_numbering_highNumbers a_numbering_mixtureSizes i_numbering_lowBits i_numbering_all g_numbering_lowStarts g_numbering_highNumbers g_winners) → va_S A s.heap H locs → decode cX2_winningTarget pc = .ok (.ireturn, 1) → W p l e rX2_winningTarget s m args below meth c H locs 0 0 Q (F0 m pc ls [.int o]))
    {H : Heap} {locs : List Loc} {ls : Array Slot} (hP : va_P D vwCl (uX2_winningTarget cI cJ a_this a_pond a_moves a_numbering a_search a_levelEnds a_sorted a_mosts a_winners i_settledLook a_pond_behinds a_pond_depths i_pond_size i_pond_isRing i_pond_overOthers i_pond_longestLeap a_moves_targets g_moves_targets a_numbering_lowStarts a_numbering_highNumbers a_numbering_mixtureSizes i_numbering_lowBits i_numbering_all g_numbering_lowStarts g_numbering_highNumbers g_winners) H) (hD : va_D A (uX2_winningTarget cI cJ a_this a_pond a_moves a_numbering a_search a_levelEnds a_sorted a_mosts a_winners i_settledLook a_pond_behinds a_pond_depths i_pond_size i_pond_isRing i_pond_overOthers i_pond_longestLeap a_moves_targets g_moves_targets a_numbering_lowStarts a_numbering_highNumbers a_numbering_mixtureSizes i_numbering_lowBits i_numbering_all g_numbering_lowStarts g_numbering_highNumbers g_winners)) (hS : va_S A s.heap H locs) (hl : lv_has ls 5 [(0, .ref a_this), (1, .int x1), (2, .int x2), (3, .int x3)]) : W p l e rX2_winningTarget s m args below meth c H locs 0 0 Q (F0 m 0 ls []) := by
  obtain ⟨hx, hb, hml, hown, hts, hK, hN, hA, hlocks⟩ := id C
  unfold fX2_winningTarget at hf
  refine lv_iconst (v := 0) hx hb dX2_winningTarget_0 (by decide) ?_
  refine lv_istore (lv' := [(4, .int 0), (0, .ref a_this), (1, .int x1), (2, .int x2), (3, .int x3)]) hx hb dX2_winningTarget_1 hl (by decide) rfl (fun ls hl => ?_)
  obtain ⟨ex, hlp, hf⟩ := ob_some hf
  refine lp_ind (P := fun sg => ∀ (H : Heap) (locs : List Loc) (ls : Array Slot), va_P D vwCl (uX2_winningTarget cI cJ a_this a_pond a_moves a_numbering a_search a_levelEnds a_sorted a_mosts a_winners i_settledLook a_pond_behinds a_pond_depths i_pond_size i_pond_isRing i_pond_overOthers i_pond_longestLeap a_moves_targets g_moves_targets a_numbering_lowStarts a_numbering_highNumbers a_numbering_mixtureSizes i_numbering_lowBits i_numbering_all g_numbering_lowStarts g_numbering_highNumbers g_winners) H → va_D A (uX2_winningTarget cI cJ a_this a_pond a_moves a_numbering a_search a_levelEnds a_sorted a_mosts a_winners i_settledLook a_pond_behinds a_pond_depths i_pond_size i_pond_isRing i_pond_overOthers i_pond_longestLeap a_moves_targets g_moves_targets a_numbering_lowStarts a_numbering_highNumbers a_numbering_mixtureSizes i_numbering_lowBits i_numbering_all g_numbering_lowStarts g_numbering_highNumbers g_winners) → va_S A s.heap H locs → lv_has ls 5 [(0, .ref a_this), (1, .int x1), (2, .int x2), (3, .int x3), (4, .int sg)] → W p l e rX2_winningTarget s m args below meth c H locs 0 0 Q (F0 m 3 ls [])) ?_ z _ hlp H locs ls hP hD hS (lv_sub hl [1, 2, 3, 4, 0] rfl)
  intro sg og hbo hback hexit H locs ls hP hD hS hl
  refine kX2_winningTarget_L3 C hbo (fun s' h => hback s' h) (fun ex h H locs ls hP hD hS hl => ?_) (fun rr h H locs ls pc hP hD hS hdg => ?_) hP hD hS hl
  · have he := hexit _ h
    subst he
    simp only [Sum.elim_inl] at hf
    exact kX2_winningTarget_J55 C hf hrt hP hD hS (lv_sub hl [] rfl)
  · have he := hexit _ h
    subst he
    simp only [Sum.elim_inr] at hf
    have ho := Option.some.inj hf
    subst ho
    exact hrt H locs ls pc hP hD hS hdg
set_option maxHeartbeats 4000000 in
set_option maxRecDepth 100000 in
theorem mX2_winningTarget (l : Launch) (D : va_G) (cI cJ : ClassId) (sz : Nat) {a_this : Nat} {a_pond : Nat} {a_moves : Nat} {a_numbering : Nat} {a_search : Nat} {a_levelEnds : Nat} {a_sorted : Nat} {a_mosts : Nat} {a_winners : Nat} {i_settledLook : Int32} {a_pond_behinds : Nat} {a_pond_depths : Nat} {i_pond_size : Int32} {i_pond_isRing : Int32} {i_pond_overOthers : Int32} {i_pond_longestLeap : Int32} {a_moves_targets : Nat} {g_moves_targets : Nat → Int32} {a_numbering_lowStarts : Nat} {a_numbering_highNumbers : Nat} {a_numbering_mixtureSizes : Nat} {i_numbering_lowBits : Int32} {i_numbering_all : Int32} {g_numbering_lowStarts : Nat → Int32} {g_numbering_highNumbers : Nat → Int32} {g_winners : Nat → Int32} {z : Nat} {x1 : Int32} {x2 : Int32} {x3 : Int32} {o : Int32} (hf : fX2_winningTarget z x1 x2 x3 i_pond_size g_moves_targets i_numbering_lowBits g_numbering_lowStarts g_numbering_highNumbers i_numbering_all g_winners = some o) : Met l yX2_winningTarget wsX2_winningTarget rX2_winningTarget (va_Pc [.ref a_this, .int x1, .int x2, .int x3] (kP D cI cJ (uX2_winningTarget cI cJ a_this a_pond a_moves a_numbering a_search a_levelEnds a_sorted a_mosts a_winners i_settledLook a_pond_behinds a_pond_depths i_pond_size i_pond_isRing i_pond_overOthers i_pond_longestLeap a_moves_targets g_moves_targets a_numbering_lowStarts a_numbering_highNumbers a_numbering_mixtureSizes i_numbering_lowBits i_numbering_all g_numbering_lowStarts g_numbering_highNumbers g_winners) sz)) (va_Qi (fun r' (_ : Unit) => r' = o) (fun _ t => kB D (va_A (uX2_winningTarget cI cJ a_this a_pond a_moves a_numbering a_search a_levelEnds a_sorted a_mosts a_winners i_settledLook a_pond_behinds a_pond_depths i_pond_size i_pond_isRing i_pond_overOthers i_pond_longestLeap a_moves_targets g_moves_targets a_numbering_lowStarts a_numbering_highNumbers a_numbering_mixtureSizes i_numbering_lowBits i_numbering_all g_numbering_lowStarts g_numbering_highNumbers g_winners) sz) (uX2_winningTarget cI cJ a_this a_pond a_moves a_numbering a_search a_levelEnds a_sorted a_mosts a_winners i_settledLook a_pond_behinds a_pond_depths i_pond_size i_pond_isRing i_pond_overOthers i_pond_longestLeap a_moves_targets g_moves_targets a_numbering_lowStarts a_numbering_highNumbers a_numbering_mixtureSizes i_numbering_lowBits i_numbering_all g_numbering_lowStarts g_numbering_highNumbers g_winners) t) (va_A (uX2_winningTarget cI cJ a_this a_pond a_moves a_numbering a_search a_levelEnds a_sorted a_mosts a_winners i_settledLook a_pond_behinds a_pond_depths i_pond_size i_pond_isRing i_pond_overOthers i_pond_longestLeap a_moves_targets g_moves_targets a_numbering_lowStarts a_numbering_highNumbers a_numbering_mixtureSizes i_numbering_lowBits i_numbering_all g_numbering_lowStarts g_numbering_highNumbers g_winners) sz)) 0 0 (va_A (uX2_winningTarget cI cJ a_this a_pond a_moves a_numbering a_search a_levelEnds a_sorted a_mosts a_winners i_settledLook a_pond_behinds a_pond_depths i_pond_size i_pond_isRing i_pond_overOthers i_pond_longestLeap a_moves_targets g_moves_targets a_numbering_lowStarts a_numbering_highNumbers a_numbering_mixtureSizes i_numbering_lowBits i_numbering_all g_numbering_lowStarts g_numbering_highNumbers g_winners) sz) :=
  met_i (by decide) rfl (Nat.le_of_ble_eq_true rfl) (fun p e s m below meth c A Q C hrt ls hl hP hD hS => kX2_winningTarget_0 (A := A) C hf hrt hP hD hS hl)

/-! ===== FrogsOnRing$Ending.winningMove(II)I ===== -/
abbrev uX2_winningMove (cI cJ : ClassId) (a_this : Nat) (a_pond : Nat) (a_moves : Nat) (a_numbering : Nat) (a_search : Nat) (a_levelEnds : Nat) (a_sorted : Nat) (a_mosts : Nat) (a_winners : Nat) (i_settledLook : Int32) (a_moves_targets : Nat) (g_moves_targets : Nat → Int32) (a_pond_behinds : Nat) (a_pond_depths : Nat) (i_pond_size : Int32) (i_pond_isRing : Int32) (i_pond_overOthers : Int32) (i_pond_longestLeap : Int32) (g_pond_behinds : Nat → Int32) (a_numbering_lowStarts : Nat) (a_numbering_highNumbers : Nat) (a_numbering_mixtureSizes : Nat) (i_numbering_lowBits : Int32) (i_numbering_all : Int32) (g_numbering_lowStarts : Nat → Int32) (g_numbering_highNumbers : Nat → Int32) (g_winners : Nat → Int32) : va_W := [(a_this, .inr (2, [.ref a_pond, .ref a_moves, .ref a_numbering, .ref a_search, .ref a_levelEnds, .ref a_sorted, .ref a_mosts, .ref a_winners, .int i_settledLook])), (a_moves, .inr (3, [.ref a_pond, .ref a_moves_targets])), (a_moves_targets, .inl (cI, 9, .inl g_moves_targets)), (a_pond, .inr (6, [.ref a_pond_behinds, .ref a_pond_depths, .int i_pond_size, .int i_pond_isRing, .int i_pond_overOthers, .int i_pond_longestLeap])), (a_pond_behinds, .inl (cI, 9, .inl g_pond_behinds)), (a_numbering, .inr (4, [.ref a_numbering_lowStarts, .ref a_numbering_highNumbers, .ref a_numbering_mixtureSizes, .int i_numbering_lowBits, .int i_numbering_all])), (a_numbering_lowStarts, .inl (cI, 1024, .inl g_numbering_lowStarts)), (a_numbering_highNumbers, .inl (cI, 256, .inl g_numbering_highNumbers)), (a_winners, .inl (cI, 1680, .inl g_winners))]
def rX2_winningMove : Room := { frames := 3, cells := 0, slots := 0, locals := 71 }
theorem hdX2_winningMove : yX2_winningMove.cls = RX2 ∧ yX2_winningMove.cls ≠ "java/lang/invoke/MethodHandle" ∧ yX2_winningMove.cls ≠ "java/lang/invoke/VarHandle" ∧ (parseMethodDescriptor yX2_winningMove.desc).map (fun d => d.parameters.length) = some 2 := by decide +kernel
set_option maxRecDepth 20000 in
theorem jX2_winningMove_X2 : ∀ w ∈ u_ws RX2 TX2 9, w ∈ wsX2_winningMove := by decide +kernel
set_option maxRecDepth 20000 in
theorem jX2_winningMove_X6 : ∀ w ∈ u_ws RX6 TX6 6, w ∈ wsX2_winningMove := by decide +kernel
set_option maxRecDepth 20000 in
theorem qX2_winningMove_24 : Cond.fieldLink RX2 24 "FrogsOnRing$Ending" "pond" "LFrogsOnRing$Pond;" ∈ wsX2_winningMove := by decide +kernel
set_option maxRecDepth 20000 in
theorem qX2_winningMove_28 : Cond.fieldLink RX2 28 "FrogsOnRing$Ending" "moves" "LFrogsOnRing$Moves;" ∈ wsX2_winningMove := by decide +kernel
set_option maxRecDepth 20000 in
theorem qX2_winningMove_81 : Cond.fieldLink RX2 81 "FrogsOnRing$Pond" "size" "I" ∈ wsX2_winningMove := by decide +kernel
set_option maxRecDepth 20000 in
theorem qX2_winningMove_iX9_kindAt : Cond.initialized yX9_kindAt.cls ∈ wsX2_winningMove := by decide +kernel
set_option maxRecDepth 20000 in
theorem qX2_winningMove_sX9_kindAt : Cond.static yX9_kindAt ∈ wsX2_winningMove := by decide +kernel
set_option maxHeartbeats 4000000 in
set_option maxRecDepth 100000 in
theorem kX2_winningMove_L10 {p : Program} {l : Launch} {e : Env} {s : State} {m : MethodId} {args : Array Value} {below : List Frame} {meth : Method} {c : Code} {Q : State → Prop} {A : Nat → Prop} {D : va_G} {cI cJ : ClassId} (C : bC cX2_winningMove 5 RX2 wsX2_winningMove D cI cJ p s m args c meth A)
    {a_this : Nat} {a_pond : Nat} {a_moves : Nat} {a_numbering : Nat} {a_search : Nat} {a_levelEnds : Nat} {a_sorted : Nat} {a_mosts : Nat} {a_winners : Nat} {i_settledLook : Int32} {a_moves_targets : Nat} {g_moves_targets : Nat → Int32} {a_pond_behinds : Nat} {a_pond_depths : Nat} {i_pond_size : Int32} {i_pond_isRing : Int32} {i_pond_overOthers : Int32} {i_pond_longestLeap : Int32} {g_pond_behinds : Nat → Int32} {a_numbering_lowStarts : Nat} {a_numbering_highNumbers : Nat} {a_numbering_mixtureSizes : Nat} {i_numbering_lowBits : Int32} {i_numbering_all : Int32} {g_numbering_lowStarts : Nat → Int32} {g_numbering_highNumbers : Nat → Int32} {g_winners : Nat → Int32} {z : Nat} {x1 : Int32} {x2 : Int32} {x3 : Int32} {o : (Int32) ⊕ ((Unit) ⊕ (Int32 × (Nat → Int32)))} (hf : fX2_winningMove_L10 z x1 x2 x3 g_moves_targets i_pond_size i_pond_longestLeap g_pond_behinds i_pond_overOthers i_numbering_lowBits g_numbering_lowStarts g_numbering_highNumbers i_numbering_all g_winners = some o)
    (hbk : ∀ s', o = .inl s' → ∀ (H : Heap) (locs : List Loc) (ls : Array Slot), va_P D vwCl (uX2_winningMove cI cJ a_this a_pond a_moves a_numbering a_search a_levelEnds a_sorted a_mosts a_winners i_settledLook a_moves_targets g_moves_targets a_pond_behinds a_pond_depths i_pond_size i_pond_isRing i_pond_overOthers i_pond_longestLeap g_pond_behinds a_numbering_lowStarts a_numbering_highNumbers a_numbering_mixtureSizes i_numbering_lowBits i_numbering_all g_numbering_lowStarts g_numbering_highNumbers g_winners) H → va_D A (uX2_winningMove cI cJ a_this a_pond a_moves a_numbering a_search a_levelEnds a_sorted a_mosts a_winners i_settledLook a_moves_targets g_moves_targets a_pond_behinds a_pond_depths i_pond_size i_pond_isRing i_pond_overOthers i_pond_longestLeap g_pond_behinds a_numbering_lowStarts a_numbering_highNumbers a_numbering_mixtureSizes i_numbering_lowBits i_numbering_all g_numbering_lowStarts g_numbering_highNumbers g_winners) → va_S A s.heap H locs → lv_has ls 5 [(0, .ref a_this), (1, .int x1), (2, .int x2), (3, .int s')] → W p l e rX2_winningMove s m args below meth c H locs 0 0 Q (F0 m 10 ls []))
    (hex : ∀ e', o = .inr (.inl e') → ∀ (H : Heap) (locs : List Loc) (ls : Array Slot), va_P D vwCl (uX2_winningMove cI cJ a_this a_pond a_moves a_numbering a_search a_levelEnds a_sorted a_mosts a_winners i_settledLook a_moves_targets g_moves_targets a_pond_behinds a_pond_depths i_pond_size i_pond_isRing i_pond_overOthers i_pond_longestLeap g_pond_behinds a_numbering_lowStarts a_numbering_highNumbers a_numbering_mixtureSizes i_numbering_lowBits i_numbering_all g_numbering_lowStarts g_numbering_highNumbers g_winners) H → va_D A (uX2_winningMove cI cJ a_this a_pond a_moves a_numbering a_search a_levelEnds a_sorted a_mosts a_winners i_settledLook a_moves_targets g_moves_targets a_pond_behinds a_pond_depths i_pond_size i_pond_isRing i_pond_overOthers i_pond_longestLeap g_pond_behinds a_numbering_lowStarts a_numbering_highNumbers a_numbering_mixtureSizes i_numbering_lowBits i_numbering_all g_numbering_lowStarts g_numbering_highNumbers g_winners) → va_S A s.heap H locs → lv_has ls 5 [] → W p l e rX2_winningMove s m args below meth c H locs 0 0 Q (F0 m 59 ls []))
    (hrt : ∀ r', o = .inr (.inr r') → ∀ (H : Heap) (locs : List Loc) (ls : Array Slot) (pc : Nat), va_P D vwCl (uX2_winningMove cI cJ a_this a_pond a_moves a_numbering a_search a_levelEnds a_sorted a_mosts a_winners i_settledLook a_moves_targets r'.2 a_pond_behinds a_pond_depths i_pond_size i_pond_isRing i_pond_overOthers i_pond_longestLeap g_pond_behinds a_numbering_lowStarts a_numbering_highNumbers a_numbering_mixtureSizes i_numbering_lowBits i_numbering_all g_numbering_lowStarts g_numbering_highNumbers g_winners) H → va_D A (uX2_winningMove cI cJ a_this a_pond a_moves a_numbering a_search a_levelEnds a_sorted a_mosts a_winners i_settledLook a_moves_targets r'.2 a_pond_behinds a_pond_depths i_pond_size i_pond_isRing i_pond_overOthers i_pond_longestLeap g_pond_behinds a_numbering_lowStarts a_numbering_highNumbers a_numbering_mixtureSizes i_numbering_lowBits i_numbering_all g_numbering_lowStarts g_numbering_highNumbers g_winners) → va_S A s.heap H locs → decode cX2_winningMove pc = .ok (.ireturn, 1) → W p l e rX2_winningMove s m args below meth c H locs 0 0 Q (F0 m pc ls [.int r'.1]))
    {H : Heap} {locs : List Loc} {ls : Array Slot} (hP : va_P D vwCl (uX2_winningMove cI cJ a_this a_pond a_moves a_numbering a_search a_levelEnds a_sorted a_mosts a_winners i_settledLook a_moves_targets g_moves_targets a_pond_behinds a_pond_depths i_pond_size i_pond_isRing i_pond_overOthers i_pond_longestLeap g_pond_behinds a_numbering_lowStarts a_numbering_highNumbers a_numbering_mixtureSizes i_numbering_lowBits i_numbering_all g_numbering_lowStarts g_numbering_highNumbers g_winners) H) (hD : va_D A (uX2_winningMove cI cJ a_this a_pond a_moves a_numbering a_search a_levelEnds a_sorted a_mosts a_winners i_settledLook a_moves_targets g_moves_targets a_pond_behinds a_pond_depths i_pond_size i_pond_isRing i_pond_overOthers i_pond_longestLeap g_pond_behinds a_numbering_lowStarts a_numbering_highNumbers a_numbering_mixtureSizes i_numbering_lowBits i_numbering_all g_numbering_lowStarts g_numbering_highNumbers g_winners)) (hS : va_S A s.heap H locs) (hl : lv_has ls 5 [(0, .ref a_this), (1, .int x1), (2, .int x2), (3, .int x3)]) : W p l e rX2_winningMove s m args below meth c H locs 0 0 Q (F0 m 10 ls []) := by
  obtain ⟨hx, hb, hml, hown, hts, hK, hN, hA, hlocks⟩ := id C
  unfold fX2_winningMove_L10 at hf
  refine lv_iload_n hx hb dX2_winningMove_10 rfl (lv_at hl 3 rfl) ?_
  refine lv_aload_n hx hb dX2_winningMove_11 rfl (lv_at hl 0 rfl) ?_
  refine va_get (D := D) (ci := 2) (v := .ref a_pond) (C := RX2) (T := TX2) (N := 9) hx hb hts jX2_winningMove_X2 hown hK hP 0 rfl rfl 0 (by decide) (hts _ qX2_winningMove_24) (fun _ h9 => h9) rfl dX2_winningMove_12 ?_
  refine va_get (D := D) (ci := 6) (v := .int i_pond_size) (C := RX6) (T := TX6) (N := 6) hx hb hts jX2_winningMove_X6 hown hK hP 3 rfl rfl 2 (by decide) (hts _ qX2_winningMove_81) (fun _ h9 => h9) rfl dX2_winningMove_15 ?_
  refine lv_icmp_ge (tgt := 59) hx hb dX2_winningMove_18 (by decide) (fun hc => ?_) (fun hc => ?_)
  · have hf := if_yes hc hf
    have ho := Option.some.inj hf
    subst ho
    exact hex _ rfl _ _ _ hP hD hS (lv_sub hl [] rfl)
  · have hf := if_no hc hf
    refine lv_iload_n hx hb dX2_winningMove_21 rfl (lv_at hl 1 rfl) ?_
    refine lv_iload_n hx hb dX2_winningMove_22 rfl (lv_at hl 3 rfl) ?_
    refine cl_i (wc := (uX9_kindAt cI cJ)) (w1 := (uX9_kindAt cI cJ)) (rn_N (As := [.int x1, .int x3]) (rest := []) (wc := (uX9_kindAt cI cJ)) C hP hD [] rfl rfl (mX9_kindAt l D cI cJ H.size) 2 gX2_winningMove_X9_kindAt_n86 qX2_winningMove_iX9_kindAt qX2_winningMove_sX9_kindAt 14 rfl rfl ⟨rfl, rfl, Nat.le_of_ble_eq_true rfl, Nat.le_of_ble_eq_true rfl⟩ hdX9_kindAt.2 rfl hl.1 rfl (Nat.le_of_ble_eq_true rfl) dX2_winningMove_23) hP hD hS hA [] rfl rfl (fun H locs hP hD hS => ?_)
    have hP : va_P D vwCl (uX2_winningMove cI cJ a_this a_pond a_moves a_numbering a_search a_levelEnds a_sorted a_mosts a_winners i_settledLook a_moves_targets g_moves_targets a_pond_behinds a_pond_depths i_pond_size i_pond_isRing i_pond_overOthers i_pond_longestLeap g_pond_behinds a_numbering_lowStarts a_numbering_highNumbers a_numbering_mixtureSizes i_numbering_lowBits i_numbering_all g_numbering_lowStarts g_numbering_highNumbers g_winners) H := hP
    have hD : va_D A (uX2_winningMove cI cJ a_this a_pond a_moves a_numbering a_search a_levelEnds a_sorted a_mosts a_winners i_settledLook a_moves_targets g_moves_targets a_pond_behinds a_pond_depths i_pond_size i_pond_isRing i_pond_overOthers i_pond_longestLeap g_pond_behinds a_numbering_lowStarts a_numbering_highNumbers a_numbering_mixtureSizes i_numbering_lowBits i_numbering_all g_numbering_lowStarts g_numbering_highNumbers g_winners) := hD
    refine lv_iload_n hx hb dX2_winningMove_26 rfl (lv_at hl 2 rfl) ?_
    refine lv_icmp_ne (tgt := 53) hx hb dX2_winningMove_27 (by decide) (fun hc => ?_) (fun hc => ?_)
    · have hf := if_no hc hf
      refine lv_iinc (v := (x3 + 1)) (lv' := [(3, .int (x3 + 1)), (0, .ref a_this), (1, .int x1), (2, .int x2)]) hx hb dX2_winningMove_53 hl (k := 3) rfl rfl (by decide) rfl (fun ls hl => ?_)
      refine lv_goto (tgt := 10) hx hb dX2_winningMove_56 (by decide) ?_
      have ho := Option.some.inj hf
      subst ho
      exact hbk _ rfl _ _ _ hP hD hS (lv_sub hl [1, 2, 3, 0] rfl)
    · have hf := if_yes hc hf
      refine lv_aload_n hx hb dX2_winningMove_30 rfl (lv_at hl 0 rfl) ?_
      refine lv_iload_n hx hb dX2_winningMove_31 rfl (lv_at hl 1 rfl) ?_
      refine lv_iload_n hx hb dX2_winningMove_32 rfl (lv_at hl 3 rfl) ?_
      refine lv_iload_n hx hb dX2_winningMove_33 rfl (lv_at hl 2 rfl) ?_
      obtain ⟨q2, hq, hf⟩ := ob_some hf
      refine cl_i (wc := (uX2_winningTarget cI cJ a_this a_pond a_moves a_numbering a_search a_levelEnds a_sorted a_mosts a_winners i_settledLook a_pond_behinds a_pond_depths i_pond_size i_pond_isRing i_pond_overOthers i_pond_longestLeap a_moves_targets g_moves_targets a_numbering_lowStarts a_numbering_highNumbers a_numbering_mixtureSizes i_numbering_lowBits i_numbering_all g_numbering_lowStarts g_numbering_highNumbers g_winners)) (w1 := (uX2_winningTarget cI cJ a_this a_pond a_moves a_numbering a_search a_levelEnds a_sorted a_mosts a_winners i_settledLook a_pond_behinds a_pond_depths i_pond_size i_pond_isRing i_pond_overOthers i_pond_longestLeap a_moves_targets g_moves_targets a_numbering_lowStarts a_numbering_highNumbers a_numbering_mixtureSizes i_numbering_lowBits i_numbering_all g_numbering_lowStarts g_numbering_highNumbers g_winners)) (rn_V (As := [.int x1, .int x3, .int x2]) (b := a_this) (rest := []) (wc := (uX2_winningTarget cI cJ a_this a_pond a_moves a_numbering a_search a_levelEnds a_sorted a_mosts a_winners i_settledLook a_pond_behinds a_pond_depths i_pond_size i_pond_isRing i_pond_overOthers i_pond_longestLeap a_moves_targets g_moves_targets a_numbering_lowStarts a_numbering_highNumbers a_numbering_mixtureSizes i_numbering_lowBits i_numbering_all g_numbering_lowStarts g_numbering_highNumbers g_winners)) (ci := 2) (q0 := 0) C hP hD [0, 3, 1, 2, 5, 6, 7, 8] rfl rfl rfl rfl (mX2_winningTarget l D cI cJ H.size hq) 3 gX2_winningMove_X2_winningTarget rfl ⟨rfl, rfl, Nat.le_of_ble_eq_true rfl, Nat.le_of_ble_eq_true rfl⟩ hdX2_winningTarget rfl hl.1 rfl (Nat.le_of_ble_eq_true rfl) dX2_winningMove_34) hP hD hS hA [0, 3, 1, 2, 5, 6, 7, 8] rfl rfl (fun H locs hP hD hS => ?_)
      have hP : va_P D vwCl (uX2_winningMove cI cJ a_this a_pond a_moves a_numbering a_search a_levelEnds a_sorted a_mosts a_winners i_settledLook a_moves_targets g_moves_targets a_pond_behinds a_pond_depths i_pond_size i_pond_isRing i_pond_overOthers i_pond_longestLeap g_pond_behinds a_numbering_lowStarts a_numbering_highNumbers a_numbering_mixtureSizes i_numbering_lowBits i_numbering_all g_numbering_lowStarts g_numbering_highNumbers g_winners) H := hP
      have hD : va_D A (uX2_winningMove cI cJ a_this a_pond a_moves a_numbering a_search a_levelEnds a_sorted a_mosts a_winners i_settledLook a_moves_targets g_moves_targets a_pond_behinds a_pond_depths i_pond_size i_pond_isRing i_pond_overOthers i_pond_longestLeap g_pond_behinds a_numbering_lowStarts a_numbering_highNumbers a_numbering_mixtureSizes i_numbering_lowBits i_numbering_all g_numbering_lowStarts g_numbering_highNumbers g_winners) := hD
      refine lv_istore (lv' := [(4, .int q2), (0, .ref a_this), (1, .int x1), (2, .int x2), (3, .int x3)]) hx hb dX2_winningMove_37 hl (by decide) rfl (fun ls hl => ?_)
      refine lv_iload hx hb dX2_winningMove_39 (lv_at hl 0 rfl) ?_
      refine lv_iconst (v := (-1)) hx hb dX2_winningMove_41 (by decide) ?_
      refine lv_icmp_eq (tgt := 53) hx hb dX2_winningMove_42 (by decide) (fun hc => ?_) (fun hc => ?_)
      · have hf := if_yes hc hf
        refine lv_iinc (v := (x3 + 1)) (lv' := [(3, .int (x3 + 1)), (4, .int q2), (0, .ref a_this), (1, .int x1), (2, .int x2)]) hx hb dX2_winningMove_53 hl (k := 4) rfl rfl (by decide) rfl (fun ls hl => ?_)
        refine lv_goto (tgt := 10) hx hb dX2_winningMove_56 (by decide) ?_
        have ho := Option.some.inj hf
        subst ho
        exact hbk _ rfl _ _ _ hP hD hS (lv_sub hl [2, 3, 4, 0] rfl)
      · have hf := if_no hc hf
        refine lv_bipush (v := 16) hx hb dX2_winningMove_45 (by decide) ?_
        refine lv_iload_n hx hb dX2_winningMove_47 rfl (lv_at hl 4 rfl) ?_
        refine lv_imul hx hb dX2_winningMove_48 ?_
        refine lv_iload hx hb dX2_winningMove_49 (lv_at hl 0 rfl) ?_
        refine lv_iadd hx hb dX2_winningMove_51 ?_
        have ho := Option.some.inj hf
        subst ho
        exact hrt _ rfl H locs ls _ hP hD hS dX2_winningMove_52
set_option maxHeartbeats 4000000 in
set_option maxRecDepth 100000 in
theorem kX2_winningMove_J59 {p : Program} {l : Launch} {e : Env} {s : State} {m : MethodId} {args : Array Value} {below : List Frame} {meth : Method} {c : Code} {Q : State → Prop} {A : Nat → Prop} {D : va_G} {cI cJ : ClassId} (C : bC cX2_winningMove 5 RX2 wsX2_winningMove D cI cJ p s m args c meth A)
    {a_this : Nat} {a_pond : Nat} {a_moves : Nat} {a_numbering : Nat} {a_search : Nat} {a_levelEnds : Nat} {a_sorted : Nat} {a_mosts : Nat} {a_winners : Nat} {i_settledLook : Int32} {a_moves_targets : Nat} {g_moves_targets : Nat → Int32} {a_pond_behinds : Nat} {a_pond_depths : Nat} {i_pond_size : Int32} {i_pond_isRing : Int32} {i_pond_overOthers : Int32} {i_pond_longestLeap : Int32} {g_pond_behinds : Nat → Int32} {a_numbering_lowStarts : Nat} {a_numbering_highNumbers : Nat} {a_numbering_mixtureSizes : Nat} {i_numbering_lowBits : Int32} {i_numbering_all : Int32} {g_numbering_lowStarts : Nat → Int32} {g_numbering_highNumbers : Nat → Int32} {g_winners : Nat → Int32} {z : Nat} {o : Int32 × (Nat → Int32)} (hf : fX2_winningMove_J59 z g_moves_targets i_pond_size i_pond_longestLeap g_pond_behinds i_pond_overOthers i_numbering_lowBits g_numbering_lowStarts g_numbering_highNumbers i_numbering_all g_winners = some o)
    (hrt : ∀ (H : Heap) (locs : List Loc) (ls : Array Slot) (pc : Nat), va_P D vwCl (uX2_winningMove cI cJ a_this a_pond a_moves a_numbering a_search a_levelEnds a_sorted a_mosts a_winners i_settledLook a_moves_targets o.2 a_pond_behinds a_pond_depths i_pond_size i_pond_isRing i_pond_overOthers i_pond_longestLeap g_pond_behinds a_numbering_lowStarts a_numbering_highNumbers a_numbering_mixtureSizes i_numbering_lowBits i_numbering_all g_numbering_lowStarts g_numbering_highNumbers g_winners) H → va_D A (uX2_winningMove cI cJ a_this a_pond a_moves a_numbering a_search a_levelEnds a_sorted a_mosts a_winners i_settledLook a_moves_targets o.2 a_pond_behinds a_pond_depths i_pond_size i_pond_isRing i_pond_overOthers i_pond_longestLeap g_pond_behinds a_numbering_lowStarts a_numbering_highNumbers a_numbering_mixtureSizes i_numbering_lowBits i_numbering_all g_numbering_lowStarts g_numbering_highNumbers g_winners) → va_S A s.heap H locs → decode cX2_winningMove pc = .ok (.ireturn, 1) → W p l e rX2_winningMove s m args below meth c H locs 0 0 Q (F0 m pc ls [.int o.1]))
    {H : Heap} {locs : List Loc} {ls : Array Slot} (hP : va_P D vwCl (uX2_winningMove cI cJ a_this a_pond a_moves a_numbering a_search a_levelEnds a_sorted a_mosts a_winners i_settledLook a_moves_targets g_moves_targets a_pond_behinds a_pond_depths i_pond_size i_pond_isRing i_pond_overOthers i_pond_longestLeap g_pond_behinds a_numbering_lowStarts a_numbering_highNumbers a_numbering_mixtureSizes i_numbering_lowBits i_numbering_all g_numbering_lowStarts g_numbering_highNumbers g_winners) H) (hD : va_D A (uX2_winningMove cI cJ a_this a_pond a_moves a_numbering a_search a_levelEnds a_sorted a_mosts a_winners i_settledLook a_moves_targets g_moves_targets a_pond_behinds a_pond_depths i_pond_size i_pond_isRing i_pond_overOthers i_pond_longestLeap g_pond_behinds a_numbering_lowStarts a_numbering_highNumbers a_numbering_mixtureSizes i_numbering_lowBits i_numbering_all g_numbering_lowStarts g_numbering_highNumbers g_winners)) (hS : va_S A s.heap H locs) (hl : lv_has ls 5 []) : W p l e rX2_winningMove s m args below meth c H locs 0 0 Q (F0 m 59 ls []) := by
  obtain ⟨hx, hb, hml, hown, hts, hK, hN, hA, hlocks⟩ := id C
  unfold fX2_winningMove_J59 at hf
  refine lv_iconst (v := (-1)) hx hb dX2_winningMove_59 (by decide) ?_
  have ho := Option.some.inj hf
  subst ho
  exact hrt H locs ls _ hP hD hS dX2_winningMove_60
set_option maxHeartbeats 4000000 in
set_option maxRecDepth 100000 in
theorem kX2_winningMove_0 {p : Program} {l : Launch} {e : Env} {s : State} {m : MethodId} {args : Array Value} {below : List Frame} {meth : Method} {c : Code} {Q : State → Prop} {A : Nat → Prop} {D : va_G} {cI cJ : ClassId} (C : bC cX2_winningMove 5 RX2 wsX2_winningMove D cI cJ p s m args c meth A)
    {a_this : Nat} {a_pond : Nat} {a_moves : Nat} {a_numbering : Nat} {a_search : Nat} {a_levelEnds : Nat} {a_sorted : Nat} {a_mosts : Nat} {a_winners : Nat} {i_settledLook : Int32} {a_moves_targets : Nat} {g_moves_targets : Nat → Int32} {a_pond_behinds : Nat} {a_pond_depths : Nat} {i_pond_size : Int32} {i_pond_isRing : Int32} {i_pond_overOthers : Int32} {i_pond_longestLeap : Int32} {g_pond_behinds : Nat → Int32} {a_numbering_lowStarts : Nat} {a_numbering_highNumbers : Nat} {a_numbering_mixtureSizes : Nat} {i_numbering_lowBits : Int32} {i_numbering_all : Int32} {g_numbering_lowStarts : Nat → Int32} {g_numbering_highNumbers : Nat → Int32} {g_winners : Nat → Int32} {z : Nat} {x1 : Int32} {x2 : Int32} {o : Int32 × (Nat → Int32)} (hf : fX2_winningMove z x1 x2 g_moves_targets i_pond_size i_pond_longestLeap g_pond_behinds i_pond_overOthers i_numbering_lowBits g_numbering_lowStarts g_numbering_highNumbers i_numbering_all g_winners = some o)
    (hrt : ∀ (H : Heap) (locs : List Loc) (ls : Array Slot) (pc : Nat), va_P D vwCl (uX2_winningMove cI cJ a_this a_pond a_moves a_numbering a_search a_levelEnds a_sorted a_mosts a_winners i_settledLook a_moves_targets o.2 a_pond_behinds a_pond_depths i_pond_size i_pond_isRing i_pond_overOthers i_pond_longestLeap g_pond_behinds a_numbering_lowStarts a_numbering_highNumbers a_numbering_mixtureSizes i_numbering_lowBits i_numbering_all g_numbering_lowStarts g_numbering_highNumbers g_winners) H → va_D A (uX2_winningMove cI cJ a_this a_pond a_moves a_numbering a_search a_levelEnds a_sorted a_mosts a_winners i_settledLook a_moves_targets o.2 a_pond_behinds a_pond_depths i_pond_size i_pond_isRing i_pond_overOthers i_pond_longestLeap g_pond_behinds a_numbering_lowStarts a_numbering_highNumbers a_numbering_mixtureSizes i_numbering_lowBits i_numbering_all g_numbering_lowStarts g_numbering_highNumbers g_winners) → va_S A s.heap H locs → decode cX2_winningMove pc = .ok (.ireturn, 1) → W p l e rX2_winningMove s m args below meth c H locs 0 0 Q (F0 m pc ls [.int o.1]))
    {H : Heap} {locs : List Loc} {ls : Array Slot} (hP : va_P D vwCl (uX2_winningMove cI cJ a_this a_pond a_moves a_numbering a_search a_levelEnds a_sorted a_mosts a_winners i_settledLook a_moves_targets g_moves_targets a_pond_behinds a_pond_depths i_pond_size i_pond_isRing i_pond_overOthers i_pond_longestLeap g_pond_behinds a_numbering_lowStarts a_numbering_highNumbers a_numbering_mixtureSizes i_numbering_lowBits i_numbering_all g_numbering_lowStarts g_numbering_highNumbers g_winners) H) (hD : va_D A (uX2_winningMove cI cJ a_this a_pond a_moves a_numbering a_search a_levelEnds a_sorted a_mosts a_winners i_settledLook a_moves_targets g_moves_targets a_pond_behinds a_pond_depths i_pond_size i_pond_isRing i_pond_overOthers i_pond_longestLeap g_pond_behinds a_numbering_lowStarts a_numbering_highNumbers a_numbering_mixtureSizes i_numbering_lowBits i_numbering_all g_numbering_lowStarts g_numbering_highNumbers g_winners)) (hS : va_S A s.heap H locs) (hl : lv_has ls 5 [(0, .ref a_this), (1, .int x1), (2, .int x2)]) : W p l e rX2_winningMove s m args below meth c H locs 0 0 Q (F0 m 0 ls []) := by
  obtain ⟨hx, hb, hml, hown, hts, hK, hN, hA, hlocks⟩ := id C
  unfold fX2_winningMove at hf
  refine lv_aload_n hx hb dX2_winningMove_0 rfl (lv_at hl 0 rfl) ?_
  refine va_get (D := D) (ci := 2) (v := .ref a_moves) (C := RX2) (T := TX2) (N := 9) hx hb hts jX2_winningMove_X2 hown hK hP 0 rfl rfl 1 (by decide) (hts _ qX2_winningMove_28) (fun _ h9 => h9) rfl dX2_winningMove_1 ?_
  refine lv_iload_n hx hb dX2_winningMove_4 rfl (lv_at hl 1 rfl) ?_
  obtain ⟨q1, hq, hf⟩ := ob_some hf
  refine cl_v (wc := (uX3_find cI cJ a_moves a_pond a_moves_targets g_moves_targets a_pond_behinds a_pond_depths i_pond_size i_pond_isRing i_pond_overOthers i_pond_longestLeap g_pond_behinds)) (w1 := (uX3_find cI cJ a_moves a_pond a_moves_targets q1 a_pond_behinds a_pond_depths i_pond_size i_pond_isRing i_pond_overOthers i_pond_longestLeap g_pond_behinds)) (rn_V (As := [.int x1]) (b := a_moves) (rest := []) (wc := (uX3_find cI cJ a_moves a_pond a_moves_targets g_moves_targets a_pond_behinds a_pond_depths i_pond_size i_pond_isRing i_pond_overOthers i_pond_longestLeap g_pond_behinds)) (ci := 3) (q0 := 1) C hP hD [1, 2, 3, 4] rfl rfl rfl rfl (mX3_find l D cI cJ H.size hq) 1 gX2_winningMove_X3_find rfl ⟨rfl, rfl, Nat.le_of_ble_eq_true rfl, Nat.le_of_ble_eq_true rfl⟩ hdX3_find rfl hl.1 rfl (Nat.le_of_ble_eq_true rfl) dX2_winningMove_5) hP hD hS hA [1, 2, 3, 4] rfl rfl (fun H locs hP hD hS => ?_)
  have hP : va_P D vwCl (uX2_winningMove cI cJ a_this a_pond a_moves a_numbering a_search a_levelEnds a_sorted a_mosts a_winners i_settledLook a_moves_targets q1 a_pond_behinds a_pond_depths i_pond_size i_pond_isRing i_pond_overOthers i_pond_longestLeap g_pond_behinds a_numbering_lowStarts a_numbering_highNumbers a_numbering_mixtureSizes i_numbering_lowBits i_numbering_all g_numbering_lowStarts g_numbering_highNumbers g_winners) H := hP
  have hD : va_D A (uX2_winningMove cI cJ a_this a_pond a_moves a_numbering a_search a_levelEnds a_sorted a_mosts a_winners i_settledLook a_moves_targets q1 a_pond_behinds a_pond_depths i_pond_size i_pond_isRing i_pond_overOthers i_pond_longestLeap g_pond_behinds a_numbering_lowStarts a_numbering_highNumbers a_numbering_mixtureSizes i_numbering_lowBits i_numbering_all g_numbering_lowStarts g_numbering_highNumbers g_winners) := hD
  refine lv_iconst (v := 0) hx hb dX2_winningMove_8 (by decide) ?_
  refine lv_istore_n (lv' := [(3, .int 0), (0, .ref a_this), (1, .int x1), (2, .int x2)]) hx hb dX2_winningMove_9 rfl hl (by decide) rfl (fun ls hl => ?_)
  obtain ⟨ex, hlp, hf⟩ := ob_some hf
  refine lp_ind (P := fun sg => ∀ (H : Heap) (locs : List Loc) (ls : Array Slot), va_P D vwCl (uX2_winningMove cI cJ a_this a_pond a_moves a_numbering a_search a_levelEnds a_sorted a_mosts a_winners i_settledLook a_moves_targets q1 a_pond_behinds a_pond_depths i_pond_size i_pond_isRing i_pond_overOthers i_pond_longestLeap g_pond_behinds a_numbering_lowStarts a_numbering_highNumbers a_numbering_mixtureSizes i_numbering_lowBits i_numbering_all g_numbering_lowStarts g_numbering_highNumbers g_winners) H → va_D A (uX2_winningMove cI cJ a_this a_pond a_moves a_numbering a_search a_levelEnds a_sorted a_mosts a_winners i_settledLook a_moves_targets q1 a_pond_behinds a_pond_depths i_pond_size i_pond_isRing i_pond_overOthers i_pond_longestLeap g_pond_behinds a_numbering_lowStarts a_numbering_highNumbers a_numbering_mixtureSizes i_numbering_lowBits i_numbering_all g_numbering_lowStarts g_numbering_highNumbers g_winners) → va_S A s.heap H locs → lv_has ls 5 [(0, .ref a_this), (1, .int x1), (2, .int x2), (3, .int sg)] → W p l e rX2_winningMove s m args below meth c H locs 0 0 Q (F0 m 10 ls [])) ?_ z _ hlp H locs ls hP hD hS (lv_sub hl [1, 2, 3, 0] rfl)
  intro sg og hbo hback hexit H locs ls hP hD hS hl
  refine kX2_winningMove_L10 C hbo (fun s' h => hback s' h) (fun ex h H locs ls hP hD hS hl => ?_) (fun rr h H locs ls pc hP hD hS hdg => ?_) hP hD hS hl
  · have he := hexit _ h
    subst he
    simp only [Sum.elim_inl] at hf
    exact kX2_winningMove_J59 C hf hrt hP hD hS (lv_sub hl [] rfl)
  · have he := hexit _ h
    subst he
    simp only [Sum.elim_inr] at hf
    have ho := Option.some.inj hf
    subst ho
    exact hrt H locs ls pc hP hD hS hdg
set_option maxHeartbeats 4000000 in
set_option maxRecDepth 100000 in
theorem mX2_winningMove (l : Launch) (D : va_G) (cI cJ : ClassId) (sz : Nat) {a_this : Nat} {a_pond : Nat} {a_moves : Nat} {a_numbering : Nat} {a_search : Nat} {a_levelEnds : Nat} {a_sorted : Nat} {a_mosts : Nat} {a_winners : Nat} {i_settledLook : Int32} {a_moves_targets : Nat} {g_moves_targets : Nat → Int32} {a_pond_behinds : Nat} {a_pond_depths : Nat} {i_pond_size : Int32} {i_pond_isRing : Int32} {i_pond_overOthers : Int32} {i_pond_longestLeap : Int32} {g_pond_behinds : Nat → Int32} {a_numbering_lowStarts : Nat} {a_numbering_highNumbers : Nat} {a_numbering_mixtureSizes : Nat} {i_numbering_lowBits : Int32} {i_numbering_all : Int32} {g_numbering_lowStarts : Nat → Int32} {g_numbering_highNumbers : Nat → Int32} {g_winners : Nat → Int32} {z : Nat} {x1 : Int32} {x2 : Int32} {o : Int32 × (Nat → Int32)} (hf : fX2_winningMove z x1 x2 g_moves_targets i_pond_size i_pond_longestLeap g_pond_behinds i_pond_overOthers i_numbering_lowBits g_numbering_lowStarts g_numbering_highNumbers i_numbering_all g_winners = some o) : Met l yX2_winningMove wsX2_winningMove rX2_winningMove (va_Pc [.ref a_this, .int x1, .int x2] (kP D cI cJ (uX2_winningMove cI cJ a_this a_pond a_moves a_numbering a_search a_levelEnds a_sorted a_mosts a_winners i_settledLook a_moves_targets g_moves_targets a_pond_behinds a_pond_depths i_pond_size i_pond_isRing i_pond_overOthers i_pond_longestLeap g_pond_behinds a_numbering_lowStarts a_numbering_highNumbers a_numbering_mixtureSizes i_numbering_lowBits i_numbering_all g_numbering_lowStarts g_numbering_highNumbers g_winners) sz)) (va_Qi (fun r' (_ : Unit) => r' = o.1) (fun _ t => kB D (va_A (uX2_winningMove cI cJ a_this a_pond a_moves a_numbering a_search a_levelEnds a_sorted a_mosts a_winners i_settledLook a_moves_targets g_moves_targets a_pond_behinds a_pond_depths i_pond_size i_pond_isRing i_pond_overOthers i_pond_longestLeap g_pond_behinds a_numbering_lowStarts a_numbering_highNumbers a_numbering_mixtureSizes i_numbering_lowBits i_numbering_all g_numbering_lowStarts g_numbering_highNumbers g_winners) sz) (uX2_winningMove cI cJ a_this a_pond a_moves a_numbering a_search a_levelEnds a_sorted a_mosts a_winners i_settledLook a_moves_targets o.2 a_pond_behinds a_pond_depths i_pond_size i_pond_isRing i_pond_overOthers i_pond_longestLeap g_pond_behinds a_numbering_lowStarts a_numbering_highNumbers a_numbering_mixtureSizes i_numbering_lowBits i_numbering_all g_numbering_lowStarts g_numbering_highNumbers g_winners) t) (va_A (uX2_winningMove cI cJ a_this a_pond a_moves a_numbering a_search a_levelEnds a_sorted a_mosts a_winners i_settledLook a_moves_targets g_moves_targets a_pond_behinds a_pond_depths i_pond_size i_pond_isRing i_pond_overOthers i_pond_longestLeap g_pond_behinds a_numbering_lowStarts a_numbering_highNumbers a_numbering_mixtureSizes i_numbering_lowBits i_numbering_all g_numbering_lowStarts g_numbering_highNumbers g_winners) sz)) 0 0 (va_A (uX2_winningMove cI cJ a_this a_pond a_moves a_numbering a_search a_levelEnds a_sorted a_mosts a_winners i_settledLook a_moves_targets g_moves_targets a_pond_behinds a_pond_depths i_pond_size i_pond_isRing i_pond_overOthers i_pond_longestLeap g_pond_behinds a_numbering_lowStarts a_numbering_highNumbers a_numbering_mixtureSizes i_numbering_lowBits i_numbering_all g_numbering_lowStarts g_numbering_highNumbers g_winners) sz) :=
  met_i (by decide) rfl (Nat.le_of_ble_eq_true rfl) (fun p e s m below meth c A Q C hrt ls hl hP hD hS => kX2_winningMove_0 (A := A) C hf hrt hP hD hS hl)

/-! ===== java/lang/Integer.bitCount(I)I ===== -/
abbrev uJ6_bitCount_0f7a4 (cI cJ : ClassId) : va_W := []
def rJ6_bitCount_0f7a4 : Room := { frames := 0, cells := 0, slots := 0, locals := 0 }
theorem hdJ6_bitCount_0f7a4 : yJ6_bitCount_0f7a4.cls = RJ6 ∧ yJ6_bitCount_0f7a4.cls ≠ "java/lang/invoke/MethodHandle" ∧ yJ6_bitCount_0f7a4.cls ≠ "java/lang/invoke/VarHandle" ∧ (parseMethodDescriptor yJ6_bitCount_0f7a4.desc).map (fun d => d.parameters.length) = some 1 := by decide +kernel
set_option maxRecDepth 20000 in
theorem qJ6_bitCount_0f7a4_265 : Cond.constant RJ6 265 (1431655765) ∈ wsJ6_bitCount_0f7a4 := by decide +kernel
set_option maxRecDepth 20000 in
theorem qJ6_bitCount_0f7a4_266 : Cond.constant RJ6 266 (858993459) ∈ wsJ6_bitCount_0f7a4 := by decide +kernel
set_option maxRecDepth 20000 in
theorem qJ6_bitCount_0f7a4_267 : Cond.constant RJ6 267 (252645135) ∈ wsJ6_bitCount_0f7a4 := by decide +kernel
set_option maxHeartbeats 4000000 in
set_option maxRecDepth 100000 in
theorem kJ6_bitCount_0f7a4_0 {p : Program} {l : Launch} {e : Env} {s : State} {m : MethodId} {args : Array Value} {below : List Frame} {meth : Method} {c : Code} {Q : State → Prop} {A : Nat → Prop} {D : va_G} {cI cJ : ClassId} (C : bC cJ6_bitCount_0f7a4 1 RJ6 wsJ6_bitCount_0f7a4 D cI cJ p s m args c meth A)
    {x0 : Int32} {o : Int32} (hf : fJ6_bitCount_0f7a4 x0 = o)
    (hrt : ∀ (H : Heap) (locs : List Loc) (ls : Array Slot) (pc : Nat), va_P D vwCl (uJ6_bitCount_0f7a4 cI cJ) H → va_D A (uJ6_bitCount_0f7a4 cI cJ) → va_S A s.heap H locs → decode cJ6_bitCount_0f7a4 pc = .ok (.ireturn, 1) → W p l e rJ6_bitCount_0f7a4 s m args below meth c H locs 0 0 Q (F0 m pc ls [.int o]))
    {H : Heap} {locs : List Loc} {ls : Array Slot} (hP : va_P D vwCl (uJ6_bitCount_0f7a4 cI cJ) H) (hD : va_D A (uJ6_bitCount_0f7a4 cI cJ)) (hS : va_S A s.heap H locs) (hl : lv_has ls 1 [(0, .int x0)]) : W p l e rJ6_bitCount_0f7a4 s m args below meth c H locs 0 0 Q (F0 m 0 ls []) := by
  obtain ⟨hx, hb, hml, hown, hts, hK, hN, hA, hlocks⟩ := id C
  unfold fJ6_bitCount_0f7a4 at hf
  refine lv_iload_n hx hb dJ6_bitCount_0f7a4_0 rfl (lv_at hl 0 rfl) ?_
  refine lv_iload_n hx hb dJ6_bitCount_0f7a4_1 rfl (lv_at hl 0 rfl) ?_
  refine lv_iconst (v := 1) hx hb dJ6_bitCount_0f7a4_2 (by decide) ?_
  refine lv_iushr (v := (i_ushr x0 1)) hx hb dJ6_bitCount_0f7a4_3 rfl ?_
  refine lv_ldcw hx hb hown (hts _ qJ6_bitCount_0f7a4_265) dJ6_bitCount_0f7a4_4 ?_
  refine lv_iand hx hb dJ6_bitCount_0f7a4_7 ?_
  refine lv_isub hx hb dJ6_bitCount_0f7a4_8 ?_
  refine lv_istore_n (lv' := [(0, .int (x0 - ((i_ushr x0 1) &&& 1431655765)))]) hx hb dJ6_bitCount_0f7a4_9 rfl hl (by decide) rfl (fun ls hl => ?_)
  refine lv_iload_n hx hb dJ6_bitCount_0f7a4_10 rfl (lv_at hl 0 rfl) ?_
  refine lv_ldcw hx hb hown (hts _ qJ6_bitCount_0f7a4_266) dJ6_bitCount_0f7a4_11 ?_
  refine lv_iand hx hb dJ6_bitCount_0f7a4_14 ?_
  refine lv_iload_n hx hb dJ6_bitCount_0f7a4_15 rfl (lv_at hl 0 rfl) ?_
  refine lv_iconst (v := 2) hx hb dJ6_bitCount_0f7a4_16 (by decide) ?_
  refine lv_iushr (v := (i_ushr (x0 - ((i_ushr x0 1) &&& 1431655765)) 2)) hx hb dJ6_bitCount_0f7a4_17 rfl ?_
  refine lv_ldcw hx hb hown (hts _ qJ6_bitCount_0f7a4_266) dJ6_bitCount_0f7a4_18 ?_
  refine lv_iand hx hb dJ6_bitCount_0f7a4_21 ?_
  refine lv_iadd hx hb dJ6_bitCount_0f7a4_22 ?_
  refine lv_istore_n (lv' := [(0, .int (((x0 - ((i_ushr x0 1) &&& 1431655765)) &&& 858993459) + ((i_ushr (x0 - ((i_ushr x0 1) &&& 1431655765)) 2) &&& 858993459)))]) hx hb dJ6_bitCount_0f7a4_23 rfl hl (by decide) rfl (fun ls hl => ?_)
  refine lv_iload_n hx hb dJ6_bitCount_0f7a4_24 rfl (lv_at hl 0 rfl) ?_
  refine lv_iload_n hx hb dJ6_bitCount_0f7a4_25 rfl (lv_at hl 0 rfl) ?_
  refine lv_iconst (v := 4) hx hb dJ6_bitCount_0f7a4_26 (by decide) ?_
  refine lv_iushr (v := (i_ushr (((x0 - ((i_ushr x0 1) &&& 1431655765)) &&& 858993459) + ((i_ushr (x0 - ((i_ushr x0 1) &&& 1431655765)) 2) &&& 858993459)) 4)) hx hb dJ6_bitCount_0f7a4_27 rfl ?_
  refine lv_iadd hx hb dJ6_bitCount_0f7a4_28 ?_
  refine lv_ldcw hx hb hown (hts _ qJ6_bitCount_0f7a4_267) dJ6_bitCount_0f7a4_29 ?_
  refine lv_iand hx hb dJ6_bitCount_0f7a4_32 ?_
  refine lv_istore_n (lv' := [(0, .int (((((x0 - ((i_ushr x0 1) &&& 1431655765)) &&& 858993459) + ((i_ushr (x0 - ((i_ushr x0 1) &&& 1431655765)) 2) &&& 858993459)) + (i_ushr (((x0 - ((i_ushr x0 1) &&& 1431655765)) &&& 858993459) + ((i_ushr (x0 - ((i_ushr x0 1) &&& 1431655765)) 2) &&& 858993459)) 4)) &&& 252645135))]) hx hb dJ6_bitCount_0f7a4_33 rfl hl (by decide) rfl (fun ls hl => ?_)
  refine lv_iload_n hx hb dJ6_bitCount_0f7a4_34 rfl (lv_at hl 0 rfl) ?_
  refine lv_iload_n hx hb dJ6_bitCount_0f7a4_35 rfl (lv_at hl 0 rfl) ?_
  refine lv_bipush (v := 8) hx hb dJ6_bitCount_0f7a4_36 (by decide) ?_
  refine lv_iushr (v := (i_ushr (((((x0 - ((i_ushr x0 1) &&& 1431655765)) &&& 858993459) + ((i_ushr (x0 - ((i_ushr x0 1) &&& 1431655765)) 2) &&& 858993459)) + (i_ushr (((x0 - ((i_ushr x0 1) &&& 1431655765)) &&& 858993459) + ((i_ushr (x0 - ((i_ushr x0 1) &&& 1431655765)) 2) &&& 858993459)) 4)) &&& 252645135) 8)) hx hb dJ6_bitCount_0f7a4_38 rfl ?_
  refine lv_iadd hx hb dJ6_bitCount_0f7a4_39 ?_
  refine lv_istore_n (lv' := [(0, .int ((((((x0 - ((i_ushr x0 1) &&& 1431655765)) &&& 858993459) + ((i_ushr (x0 - ((i_ushr x0 1) &&& 1431655765)) 2) &&& 858993459)) + (i_ushr (((x0 - ((i_ushr x0 1) &&& 1431655765)) &&& 858993459) + ((i_ushr (x0 - ((i_ushr x0 1) &&& 1431655765)) 2) &&& 858993459)) 4)) &&& 252645135) + (i_ushr (((((x0 - ((i_ushr x0 1) &&& 1431655765)) &&& 858993459) + ((i_ushr (x0 - ((i_ushr x0 1) &&& 1431655765)) 2) &&& 858993459)) + (i_ushr (((x0 - ((i_ushr x0 1) &&& 1431655765)) &&& 858993459) + ((i_ushr (x0 - ((i_ushr x0 1) &&& 1431655765)) 2) &&& 858993459)) 4)) &&& 252645135) 8)))]) hx hb dJ6_bitCount_0f7a4_40 rfl hl (by decide) rfl (fun ls hl => ?_)
  refine lv_iload_n hx hb dJ6_bitCount_0f7a4_41 rfl (lv_at hl 0 rfl) ?_
  refine lv_iload_n hx hb dJ6_bitCount_0f7a4_42 rfl (lv_at hl 0 rfl) ?_
  refine lv_bipush (v := 16) hx hb dJ6_bitCount_0f7a4_43 (by decide) ?_
  refine lv_iushr (v := (i_ushr ((((((x0 - ((i_ushr x0 1) &&& 1431655765)) &&& 858993459) + ((i_ushr (x0 - ((i_ushr x0 1) &&& 1431655765)) 2) &&& 858993459)) + (i_ushr (((x0 - ((i_ushr x0 1) &&& 1431655765)) &&& 858993459) + ((i_ushr (x0 - ((i_ushr x0 1) &&& 1431655765)) 2) &&& 858993459)) 4)) &&& 252645135) + (i_ushr (((((x0 - ((i_ushr x0 1) &&& 1431655765)) &&& 858993459) + ((i_ushr (x0 - ((i_ushr x0 1) &&& 1431655765)) 2) &&& 858993459)) + (i_ushr (((x0 - ((i_ushr x0 1) &&& 1431655765)) &&& 858993459) + ((i_ushr (x0 - ((i_ushr x0 1) &&& 1431655765)) 2) &&& 858993459)) 4)) &&& 252645135) 8)) 16)) hx hb dJ6_bitCount_0f7a4_45 rfl ?_
  refine lv_iadd hx hb dJ6_bitCount_0f7a4_46 ?_
  refine lv_istore_n (lv' := [(0, .int (((((((x0 - ((i_ushr x0 1) &&& 1431655765)) &&& 858993459) + ((i_ushr (x0 - ((i_ushr x0 1) &&& 1431655765)) 2) &&& 858993459)) + (i_ushr (((x0 - ((i_ushr x0 1) &&& 1431655765)) &&& 858993459) + ((i_ushr (x0 - ((i_ushr x0 1) &&& 1431655765)) 2) &&& 858993459)) 4)) &&& 252645135) + (i_ushr (((((x0 - ((i_ushr x0 1) &&& 1431655765)) &&& 858993459) + ((i_ushr (x0 - ((i_ushr x0 1) &&& 1431655765)) 2) &&& 858993459)) + (i_ushr (((x0 - ((i_ushr x0 1) &&& 1431655765)) &&& 858993459) + ((i_ushr (x0 - ((i_ushr x0 1) &&& 1431655765)) 2) &&& 858993459)) 4)) &&& 252645135) 8)) + (i_ushr ((((((x0 - ((i_ushr x0 1) &&& 1431655765)) &&& 858993459) + ((i_ushr (x0 - ((i_ushr x0 1) &&& 1431655765)) 2) &&& 858993459)) + (i_ushr (((x0 - ((i_ushr x0 1) &&& 1431655765)) &&& 858993459) + ((i_ushr (x0 - ((i_ushr x0 1) &&& 1431655765)) 2) &&& 858993459)) 4)) &&& 252645135) + (i_ushr (((((x0 - ((i_ushr x0 1) &&& 1431655765)) &&& 858993459) + ((i_ushr (x0 - ((i_ushr x0 1) &&& 1431655765)) 2) &&& 858993459)) + (i_ushr (((x0 - ((i_ushr x0 1) &&& 1431655765)) &&& 858993459) + ((i_ushr (x0 - ((i_ushr x0 1) &&& 1431655765)) 2) &&& 858993459)) 4)) &&& 252645135) 8)) 16)))]) hx hb dJ6_bitCount_0f7a4_47 rfl hl (by decide) rfl (fun ls hl => ?_)
  refine lv_iload_n hx hb dJ6_bitCount_0f7a4_48 rfl (lv_at hl 0 rfl) ?_
  refine lv_bipush (v := 63) hx hb dJ6_bitCount_0f7a4_49 (by decide) ?_
  refine lv_iand hx hb dJ6_bitCount_0f7a4_51 ?_
  subst hf
  exact hrt H locs ls _ hP hD hS dJ6_bitCount_0f7a4_52
set_option maxHeartbeats 4000000 in
set_option maxRecDepth 100000 in
theorem mJ6_bitCount_0f7a4 (l : Launch) (D : va_G) (cI cJ : ClassId) (sz : Nat) {x0 : Int32} : Met l yJ6_bitCount_0f7a4 wsJ6_bitCount_0f7a4 rJ6_bitCount_0f7a4 (va_Pc [.int x0] (kP D cI cJ (uJ6_bitCount_0f7a4 cI cJ) sz)) (va_Qi (fun r' (_ : Unit) => r' = (fJ6_bitCount_0f7a4 x0)) (fun _ t => kB D (va_A (uJ6_bitCount_0f7a4 cI cJ) sz) (uJ6_bitCount_0f7a4 cI cJ) t) (va_A (uJ6_bitCount_0f7a4 cI cJ) sz)) 0 0 (va_A (uJ6_bitCount_0f7a4 cI cJ) sz) :=
  met_i (by decide) rfl (Nat.le_of_ble_eq_true rfl) (fun p e s m below meth c A Q C hrt ls hl hP hD hS => kJ6_bitCount_0f7a4_0 (A := A) C rfl hrt hP hD hS hl)

/-! ===== FrogsOnRing$Moves.total()I ===== -/
abbrev uX3_total (cI cJ : ClassId) (a_this : Nat) (a_pond : Nat) (a_targets : Nat) (g_targets : Nat → Int32) : va_W := [(a_this, .inr (3, [.ref a_pond, .ref a_targets])), (a_targets, .inl (cI, 9, .inl g_targets))]
def rX3_total : Room := { frames := 1, cells := 0, slots := 0, locals := 20 }
theorem hdX3_total : yX3_total.cls = RX3 ∧ yX3_total.cls ≠ "java/lang/invoke/MethodHandle" ∧ yX3_total.cls ≠ "java/lang/invoke/VarHandle" ∧ (parseMethodDescriptor yX3_total.desc).map (fun d => d.parameters.length) = some 0 := by decide +kernel
set_option maxRecDepth 20000 in
theorem jX3_total_X3 : ∀ w ∈ u_ws RX3 TX3 2, w ∈ wsX3_total := by decide +kernel
set_option maxRecDepth 20000 in
theorem qX3_total_9 : Cond.fieldLink RX3 9 "FrogsOnRing$Moves" "targets" "[I" ∈ wsX3_total := by decide +kernel
set_option maxHeartbeats 4000000 in
set_option maxRecDepth 100000 in
theorem kX3_total_L4 {p : Program} {l : Launch} {e : Env} {s : State} {m : MethodId} {args : Array Value} {below : List Frame} {meth : Method} {c : Code} {Q : State → Prop} {A : Nat → Prop} {D : va_G} {cI cJ : ClassId} (C : bC cX3_total 3 RX3 wsX3_total D cI cJ p s m args c meth A)
    {a_this : Nat} {a_pond : Nat} {a_targets : Nat} {g_targets : Nat → Int32} {z : Nat} {x1 : Int32} {x2 : Int32} {o : (Int32 × Int32) ⊕ (Int32)} (hf : fX3_total_L4 z x1 x2 g_targets = some o)
    (hbk : ∀ s', o = .inl s' → ∀ (H : Heap) (locs : List Loc) (ls : Array Slot), va_P D vwCl (uX3_total cI cJ a_this a_pond a_targets g_targets) H → va_D A (uX3_total cI cJ a_this a_pond a_targets g_targets) → va_S A s.heap H locs → lv_has ls 3 [(0, .ref a_this), (1, .int s'.1), (2, .int s'.2)] → W p l e rX3_total s m args below meth c H locs 0 0 Q (F0 m 4 ls []))
    (hex : ∀ e', o = .inr e' → ∀ (H : Heap) (locs : List Loc) (ls : Array Slot), va_P D vwCl (uX3_total cI cJ a_this a_pond a_targets g_targets) H → va_D A (uX3_total cI cJ a_this a_pond a_targets g_targets) → va_S A s.heap H locs → lv_has ls 3 [(1, .int e')] → W p l e rX3_total s m args below meth c H locs 0 0 Q (F0 m 28 ls []))
    {H : Heap} {locs : List Loc} {ls : Array Slot} (hP : va_P D vwCl (uX3_total cI cJ a_this a_pond a_targets g_targets) H) (hD : va_D A (uX3_total cI cJ a_this a_pond a_targets g_targets)) (hS : va_S A s.heap H locs) (hl : lv_has ls 3 [(0, .ref a_this), (1, .int x1), (2, .int x2)]) : W p l e rX3_total s m args below meth c H locs 0 0 Q (F0 m 4 ls []) := by
  obtain ⟨hx, hb, hml, hown, hts, hK, hN, hA, hlocks⟩ := id C
  unfold fX3_total_L4 at hf
  refine lv_iload_n hx hb dX3_total_4 rfl (lv_at hl 2 rfl) ?_
  refine lv_bipush (v := 9) hx hb dX3_total_5 (by decide) ?_
  refine lv_icmp_ge (tgt := 28) hx hb dX3_total_7 (by decide) (fun hc => ?_) (fun hc => ?_)
  · have hf := if_yes hc hf
    have ho := Option.some.inj hf
    subst ho
    exact hex _ rfl _ _ _ hP hD hS (lv_sub hl [1] rfl)
  · have hf := if_no hc hf
    refine lv_iload_n hx hb dX3_total_10 rfl (lv_at hl 1 rfl) ?_
    refine lv_aload_n hx hb dX3_total_11 rfl (lv_at hl 0 rfl) ?_
    refine va_get (D := D) (ci := 3) (v := .ref a_targets) (C := RX3) (T := TX3) (N := 2) hx hb hts jX3_total_X3 hown hK hP 0 rfl rfl 1 (by decide) (hts _ qX3_total_9) (fun _ h9 => h9) rfl dX3_total_12 ?_
    refine lv_iload_n hx hb dX3_total_15 rfl (lv_at hl 2 rfl) ?_
    obtain ⟨hin, hf⟩ := agd_some hf
    refine va_iald hx hb hK hP 1 0 rfl rfl hin dX3_total_16 ?_
    refine cl_i (wc := (uJ6_bitCount_0f7a4 cI cJ)) (w1 := (uJ6_bitCount_0f7a4 cI cJ)) (rn_S (As := [.int (g_targets x2.toNatClampNeg)]) (rest := [.int x1]) (wc := (uJ6_bitCount_0f7a4 cI cJ)) C hP hD [] rfl rfl (mJ6_bitCount_0f7a4 l D cI cJ H.size) 1 gX3_total_J6_bitCount_0f7a4 rfl ⟨rfl, rfl, Nat.le_of_ble_eq_true rfl, Nat.le_of_ble_eq_true rfl⟩ hdJ6_bitCount_0f7a4.2 rfl hl.1 rfl (Nat.le_of_ble_eq_true rfl) dX3_total_17) hP hD hS hA [] rfl rfl (fun H locs hP hD hS => ?_)
    have hP : va_P D vwCl (uX3_total cI cJ a_this a_pond a_targets g_targets) H := hP
    have hD : va_D A (uX3_total cI cJ a_this a_pond a_targets g_targets) := hD
    refine lv_iadd hx hb dX3_total_20 ?_
    refine lv_istore_n (lv' := [(1, .int (x1 + (fJ6_bitCount_0f7a4 (g_targets x2.toNatClampNeg)))), (0, .ref a_this), (2, .int x2)]) hx hb dX3_total_21 rfl hl (by decide) rfl (fun ls hl => ?_)
    refine lv_iinc (v := (x2 + 1)) (lv' := [(2, .int (x2 + 1)), (1, .int (x1 + (fJ6_bitCount_0f7a4 (g_targets x2.toNatClampNeg)))), (0, .ref a_this)]) hx hb dX3_total_22 hl (k := 2) rfl rfl (by decide) rfl (fun ls hl => ?_)
    refine lv_goto (tgt := 4) hx hb dX3_total_25 (by decide) ?_
    have ho := Option.some.inj hf
    subst ho
    exact hbk _ rfl _ _ _ hP hD hS (lv_sub hl [2, 1, 0] rfl)
set_option maxHeartbeats 4000000 in
set_option maxRecDepth 100000 in
theorem kX3_total_J28 {p : Program} {l : Launch} {e : Env} {s : State} {m : MethodId} {args : Array Value} {below : List Frame} {meth : Method} {c : Code} {Q : State → Prop} {A : Nat → Prop} {D : va_G} {cI cJ : ClassId} (C : bC cX3_total 3 RX3 wsX3_total D cI cJ p s m args c meth A)
    {a_this : Nat} {a_pond : Nat} {a_targets : Nat} {g_targets : Nat → Int32} {z : Nat} {x1 : Int32} {o : Int32} (hf : fX3_total_J28 z x1 g_targets = some o)
    (hrt : ∀ (H : Heap) (locs : List Loc) (ls : Array Slot) (pc : Nat), va_P D vwCl (uX3_total cI cJ a_this a_pond a_targets g_targets) H → va_D A (uX3_total cI cJ a_this a_pond a_targets g_targets) → va_S A s.heap H locs → decode cX3_total pc = .ok (.ireturn, 1) → W p l e rX3_total s m args below meth c H locs 0 0 Q (F0 m pc ls [.int o]))
    {H : Heap} {locs : List Loc} {ls : Array Slot} (hP : va_P D vwCl (uX3_total cI cJ a_this a_pond a_targets g_targets) H) (hD : va_D A (uX3_total cI cJ a_this a_pond a_targets g_targets)) (hS : va_S A s.heap H locs) (hl : lv_has ls 3 [(1, .int x1)]) : W p l e rX3_total s m args below meth c H locs 0 0 Q (F0 m 28 ls []) := by
  obtain ⟨hx, hb, hml, hown, hts, hK, hN, hA, hlocks⟩ := id C
  unfold fX3_total_J28 at hf
  refine lv_iload_n hx hb dX3_total_28 rfl (lv_at hl 0 rfl) ?_
  have ho := Option.some.inj hf
  subst ho
  exact hrt H locs ls _ hP hD hS dX3_total_29
set_option maxHeartbeats 4000000 in
set_option maxRecDepth 100000 in
theorem kX3_total_0 {p : Program} {l : Launch} {e : Env} {s : State} {m : MethodId} {args : Array Value} {below : List Frame} {meth : Method} {c : Code} {Q : State → Prop} {A : Nat → Prop} {D : va_G} {cI cJ : ClassId} (C : bC cX3_total 3 RX3 wsX3_total D cI cJ p s m args c meth A)
    {a_this : Nat} {a_pond : Nat} {a_targets : Nat} {g_targets : Nat → Int32} {z : Nat} {o : Int32} (hf : fX3_total z g_targets = some o)
    (hrt : ∀ (H : Heap) (locs : List Loc) (ls : Array Slot) (pc : Nat), va_P D vwCl (uX3_total cI cJ a_this a_pond a_targets g_targets) H → va_D A (uX3_total cI cJ a_this a_pond a_targets g_targets) → va_S A s.heap H locs → decode cX3_total pc = .ok (.ireturn, 1) → W p l e rX3_total s m args below meth c H locs 0 0 Q (F0 m pc ls [.int o]))
    {H : Heap} {locs : List Loc} {ls : Array Slot} (hP : va_P D vwCl (uX3_total cI cJ a_this a_pond a_targets g_targets) H) (hD : va_D A (uX3_total cI cJ a_this a_pond a_targets g_targets)) (hS : va_S A s.heap H locs) (hl : lv_has ls 3 [(0, .ref a_this)]) : W p l e rX3_total s m args below meth c H locs 0 0 Q (F0 m 0 ls []) := by
  obtain ⟨hx, hb, hml, hown, hts, hK, hN, hA, hlocks⟩ := id C
  unfold fX3_total at hf
  refine lv_iconst (v := 0) hx hb dX3_total_0 (by decide) ?_
  refine lv_istore_n (lv' := [(1, .int 0), (0, .ref a_this)]) hx hb dX3_total_1 rfl hl (by decide) rfl (fun ls hl => ?_)
  refine lv_iconst (v := 0) hx hb dX3_total_2 (by decide) ?_
  refine lv_istore_n (lv' := [(2, .int 0), (1, .int 0), (0, .ref a_this)]) hx hb dX3_total_3 rfl hl (by decide) rfl (fun ls hl => ?_)
  obtain ⟨ex, hlp, hf⟩ := ob_some hf
  refine lp_ind (P := fun sg => ∀ (H : Heap) (locs : List Loc) (ls : Array Slot), va_P D vwCl (uX3_total cI cJ a_this a_pond a_targets g_targets) H → va_D A (uX3_total cI cJ a_this a_pond a_targets g_targets) → va_S A s.heap H locs → lv_has ls 3 [(0, .ref a_this), (1, .int sg.1), (2, .int sg.2)] → W p l e rX3_total s m args below meth c H locs 0 0 Q (F0 m 4 ls [])) ?_ z _ hlp H locs ls hP hD hS (lv_sub hl [2, 1, 0] rfl)
  intro sg og hbo hback hexit H locs ls hP hD hS hl
  refine kX3_total_L4 C hbo (fun s' h => hback s' h) (fun ex h H locs ls hP hD hS hl => ?_) hP hD hS hl
  have he := hexit _ h
  subst he
  exact kX3_total_J28 C hf hrt hP hD hS (lv_sub hl [0] rfl)
set_option maxHeartbeats 4000000 in
set_option maxRecDepth 100000 in
theorem mX3_total (l : Launch) (D : va_G) (cI cJ : ClassId) (sz : Nat) {a_this : Nat} {a_pond : Nat} {a_targets : Nat} {g_targets : Nat → Int32} {z : Nat} {o : Int32} (hf : fX3_total z g_targets = some o) : Met l yX3_total wsX3_total rX3_total (va_Pc [.ref a_this] (kP D cI cJ (uX3_total cI cJ a_this a_pond a_targets g_targets) sz)) (va_Qi (fun r' (_ : Unit) => r' = o) (fun _ t => kB D (va_A (uX3_total cI cJ a_this a_pond a_targets g_targets) sz) (uX3_total cI cJ a_this a_pond a_targets g_targets) t) (va_A (uX3_total cI cJ a_this a_pond a_targets g_targets) sz)) 0 0 (va_A (uX3_total cI cJ a_this a_pond a_targets g_targets) sz) :=
  met_i (by decide) rfl (Nat.le_of_ble_eq_true rfl) (fun p e s m below meth c A Q C hrt ls hl hP hD hS => kX3_total_0 (A := A) C hf hrt hP hD hS hl)

/-! ===== FrogsOnRing$Moves.told(I)I ===== -/
abbrev uX3_told (cI cJ : ClassId) (a_this : Nat) (a_pond : Nat) (a_targets : Nat) (a_pond_behinds : Nat) (a_pond_depths : Nat) (i_pond_size : Int32) (i_pond_isRing : Int32) (i_pond_overOthers : Int32) (i_pond_longestLeap : Int32) (g_targets : Nat → Int32) : va_W := [(a_this, .inr (3, [.ref a_pond, .ref a_targets])), (a_pond, .inr (6, [.ref a_pond_behinds, .ref a_pond_depths, .int i_pond_size, .int i_pond_isRing, .int i_pond_overOthers, .int i_pond_longestLeap])), (a_targets, .inl (cI, 9, .inl g_targets))]
def rX3_told : Room := { frames := 2, cells := 0, slots := 0, locals := 43 }
theorem hdX3_told : yX3_told.cls = RX3 ∧ yX3_told.cls ≠ "java/lang/invoke/MethodHandle" ∧ yX3_told.cls ≠ "java/lang/invoke/VarHandle" ∧ (parseMethodDescriptor yX3_told.desc).map (fun d => d.parameters.length) = some 1 := by decide +kernel
set_option maxRecDepth 20000 in
theorem jX3_told_X3 : ∀ w ∈ u_ws RX3 TX3 2, w ∈ wsX3_told := by decide +kernel
set_option maxRecDepth 20000 in
theorem jX3_told_X6 : ∀ w ∈ u_ws RX6 TX6 6, w ∈ wsX3_told := by decide +kernel
set_option maxRecDepth 20000 in
theorem qX3_told_15 : Cond.fieldLink RX3 15 "FrogsOnRing$Moves" "pond" "LFrogsOnRing$Pond;" ∈ wsX3_told := by decide +kernel
set_option maxRecDepth 20000 in
theorem qX3_told_25 : Cond.fieldLink RX3 25 "FrogsOnRing$Pond" "size" "I" ∈ wsX3_told := by decide +kernel
set_option maxHeartbeats 4000000 in
set_option maxRecDepth 100000 in
theorem kX3_told_L18 {p : Program} {l : Launch} {e : Env} {s : State} {m : MethodId} {args : Array Value} {below : List Frame} {meth : Method} {c : Code} {Q : State → Prop} {A : Nat → Prop} {D : va_G} {cI cJ : ClassId} (C : bC cX3_told 5 RX3 wsX3_told D cI cJ p s m args c meth A)
    {a_this : Nat} {a_pond : Nat} {a_targets : Nat} {a_pond_behinds : Nat} {a_pond_depths : Nat} {i_pond_size : Int32} {i_pond_isRing : Int32} {i_pond_overOthers : Int32} {i_pond_longestLeap : Int32} {g_targets : Nat → Int32} {z : Nat} {x1 : Int32} {x2 : Int32} {x3 : Int32} {x4 : Int32} {o : (Int32 × Int32) ⊕ ((Int32) ⊕ (Int32))} (hf : fX3_told_L18 z x1 x2 x3 x4 i_pond_size g_targets = some o)
    (hbk : ∀ s', o = .inl s' → ∀ (H : Heap) (locs : List Loc) (ls : Array Slot), va_P D vwCl (uX3_told cI cJ a_this a_pond a_targets a_pond_behinds a_pond_depths i_pond_size i_pond_isRing i_pond_overOthers i_pond_longestLeap g_targets) H → va_D A (uX3_told cI cJ a_this a_pond a_targets a_pond_behinds a_pond_depths i_pond_size i_pond_isRing i_pond_overOthers i_pond_longestLeap g_targets) → va_S A s.heap H locs → lv_has ls 5 [(0, .ref a_this), (1, .int x1), (2, .int s'.1), (3, .int x3), (4, .int s'.2)] → W p l e rX3_told s m args below meth c H locs 0 0 Q (F0 m 18 ls []))
    (hex : ∀ e', o = .inr (.inl e') → ∀ (H : Heap) (locs : List Loc) (ls : Array Slot), va_P D vwCl (uX3_told cI cJ a_this a_pond a_targets a_pond_behinds a_pond_depths i_pond_size i_pond_isRing i_pond_overOthers i_pond_longestLeap g_targets) H → va_D A (uX3_told cI cJ a_this a_pond a_targets a_pond_behinds a_pond_depths i_pond_size i_pond_isRing i_pond_overOthers i_pond_longestLeap g_targets) → va_S A s.heap H locs → lv_has ls 5 [(0, .ref a_this), (1, .int x1), (2, .int e'), (3, .int x3)] → W p l e rX3_told s m args below meth c H locs 0 0 Q (F0 m 62 ls []))
    (hrt : ∀ r', o = .inr (.inr r') → ∀ (H : Heap) (locs : List Loc) (ls : Array Slot) (pc : Nat), va_P D vwCl (uX3_told cI cJ a_this a_pond a_targets a_pond_behinds a_pond_depths i_pond_size i_pond_isRing i_pond_overOthers i_pond_longestLeap g_targets) H → va_D A (uX3_told cI cJ a_this a_pond a_targets a_pond_behinds a_pond_depths i_pond_size i_pond_isRing i_pond_overOthers i_pond_longestLeap g_targets) → va_S A s.heap H locs → decode cX3_told pc = .ok (.ireturn, 1) → W p l e rX3_told s m args below meth c H locs 0 0 Q (F0 m pc ls [.int r']))
    {H : Heap} {locs : List Loc} {ls : Array Slot} (hP : va_P D vwCl (uX3_told cI cJ a_this a_pond a_targets a_pond_behinds a_pond_depths i_pond_size i_pond_isRing i_pond_overOthers i_pond_longestLeap g_targets) H) (hD : va_D A (uX3_told cI cJ a_this a_pond a_targets a_pond_behinds a_pond_depths i_pond_size i_pond_isRing i_pond_overOthers i_pond_longestLeap g_targets)) (hS : va_S A s.heap H locs) (hl : lv_has ls 5 [(0, .ref a_this), (1, .int x1), (2, .int x2), (3, .int x3), (4, .int x4)]) : W p l e rX3_told s m args below meth c H locs 0 0 Q (F0 m 18 ls []) := by
  obtain ⟨hx, hb, hml, hown, hts, hK, hN, hA, hlocks⟩ := id C
  unfold fX3_told_L18 at hf
  refine lv_iload hx hb dX3_told_18 (lv_at hl 4 rfl) ?_
  refine lv_aload_n hx hb dX3_told_20 rfl (lv_at hl 0 rfl) ?_
  refine va_get (D := D) (ci := 3) (v := .ref a_pond) (C := RX3) (T := TX3) (N := 2) hx hb hts jX3_told_X3 hown hK hP 0 rfl rfl 0 (by decide) (hts _ qX3_told_15) (fun _ h9 => h9) rfl dX3_told_21 ?_
  refine va_get (D := D) (ci := 6) (v := .int i_pond_size) (C := RX6) (T := TX6) (N := 6) hx hb hts jX3_told_X6 hown hK hP 1 rfl rfl 2 (by decide) (hts _ qX3_told_25) (fun _ h9 => h9) rfl dX3_told_24 ?_
  refine lv_icmp_ge (tgt := 62) hx hb dX3_told_27 (by decide) (fun hc => ?_) (fun hc => ?_)
  · have hf := if_yes hc hf
    have ho := Option.some.inj hf
    subst ho
    exact hex _ rfl _ _ _ hP hD hS (lv_sub hl [0, 1, 2, 3] rfl)
  · have hf := if_no hc hf
    refine lv_aload_n hx hb dX3_told_30 rfl (lv_at hl 0 rfl) ?_
    refine lv_iload_n hx hb dX3_told_31 rfl (lv_at hl 3 rfl) ?_
    refine lv_iload hx hb dX3_told_32 (lv_at hl 4 rfl) ?_
    obtain ⟨q1, hq, hf⟩ := ob_some hf
    refine cl_i (wc := (uX3_has cI cJ a_this a_pond a_targets g_targets)) (w1 := (uX3_has cI cJ a_this a_pond a_targets g_targets)) (rn_V (As := [.int x3, .int x4]) (b := a_this) (rest := []) (wc := (uX3_has cI cJ a_this a_pond a_targets g_targets)) (ci := 3) (q0 := 0) C hP hD [0, 2] rfl rfl rfl rfl (mX3_has l D cI cJ H.size hq) 2 gX3_told_X3_has rfl ⟨rfl, rfl, Nat.le_of_ble_eq_true rfl, Nat.le_of_ble_eq_true rfl⟩ hdX3_has rfl hl.1 rfl (Nat.le_of_ble_eq_true rfl) dX3_told_34) hP hD hS hA [0, 2] rfl rfl (fun H locs hP hD hS => ?_)
    have hP : va_P D vwCl (uX3_told cI cJ a_this a_pond a_targets a_pond_behinds a_pond_depths i_pond_size i_pond_isRing i_pond_overOthers i_pond_longestLeap g_targets) H := hP
    have hD : va_D A (uX3_told cI cJ a_this a_pond a_targets a_pond_behinds a_pond_depths i_pond_size i_pond_isRing i_pond_overOthers i_pond_longestLeap g_targets) := hD
    refine lv_if_eq (tgt := 56) hx hb dX3_told_37 (by decide) (fun hc => ?_) (fun hc => ?_)
    · have hf := if_yes hc hf
      refine lv_iinc (v := (x4 + 1)) (lv' := [(4, .int (x4 + 1)), (0, .ref a_this), (1, .int x1), (2, .int x2), (3, .int x3)]) hx hb dX3_told_56 hl (k := 4) rfl rfl (by decide) rfl (fun ls hl => ?_)
      refine lv_goto (tgt := 18) hx hb dX3_told_59 (by decide) ?_
      have ho := Option.some.inj hf
      subst ho
      exact hbk _ rfl _ _ _ hP hD hS (lv_sub hl [1, 2, 3, 4, 0] rfl)
    · have hf := if_no hc hf
      refine lv_iload_n hx hb dX3_told_40 rfl (lv_at hl 2 rfl) ?_
      refine lv_iload_n hx hb dX3_told_41 rfl (lv_at hl 1 rfl) ?_
      refine lv_icmp_ne (tgt := 53) hx hb dX3_told_42 (by decide) (fun hc => ?_) (fun hc => ?_)
      · have hf := if_no hc hf
        refine lv_iinc (v := (x2 + 1)) (lv' := [(2, .int (x2 + 1)), (0, .ref a_this), (1, .int x1), (3, .int x3), (4, .int x4)]) hx hb dX3_told_53 hl (k := 2) rfl rfl (by decide) rfl (fun ls hl => ?_)
        refine lv_iinc (v := (x4 + 1)) (lv' := [(4, .int (x4 + 1)), (2, .int (x2 + 1)), (0, .ref a_this), (1, .int x1), (3, .int x3)]) hx hb dX3_told_56 hl (k := 4) rfl rfl (by decide) rfl (fun ls hl => ?_)
        refine lv_goto (tgt := 18) hx hb dX3_told_59 (by decide) ?_
        have ho := Option.some.inj hf
        subst ho
        exact hbk _ rfl _ _ _ hP hD hS (lv_sub hl [2, 3, 1, 4, 0] rfl)
      · have hf := if_yes hc hf
        refine lv_bipush (v := 16) hx hb dX3_told_45 (by decide) ?_
        refine lv_iload_n hx hb dX3_told_47 rfl (lv_at hl 3 rfl) ?_
        refine lv_imul hx hb dX3_told_48 ?_
        refine lv_iload hx hb dX3_told_49 (lv_at hl 4 rfl) ?_
        refine lv_iadd hx hb dX3_told_51 ?_
        have ho := Option.some.inj hf
        subst ho
        exact hrt _ rfl H locs ls _ hP hD hS dX3_told_52
set_option maxHeartbeats 4000000 in
set_option maxRecDepth 100000 in
theorem kX3_told_J62 {p : Program} {l : Launch} {e : Env} {s : State} {m : MethodId} {args : Array Value} {below : List Frame} {meth : Method} {c : Code} {Q : State → Prop} {A : Nat → Prop} {D : va_G} {cI cJ : ClassId} (C : bC cX3_told 5 RX3 wsX3_told D cI cJ p s m args c meth A)
    {a_this : Nat} {a_pond : Nat} {a_targets : Nat} {a_pond_behinds : Nat} {a_pond_depths : Nat} {i_pond_size : Int32} {i_pond_isRing : Int32} {i_pond_overOthers : Int32} {i_pond_longestLeap : Int32} {g_targets : Nat → Int32} {z : Nat} {x1 : Int32} {x2 : Int32} {x3 : Int32} {o : (Int32 × Int32) ⊕ ((Unit) ⊕ (Int32))} (hf : fX3_told_J62 z x1 x2 x3 i_pond_size g_targets = some o)
    (hbk : ∀ s', o = .inl s' → ∀ (H : Heap) (locs : List Loc) (ls : Array Slot), va_P D vwCl (uX3_told cI cJ a_this a_pond a_targets a_pond_behinds a_pond_depths i_pond_size i_pond_isRing i_pond_overOthers i_pond_longestLeap g_targets) H → va_D A (uX3_told cI cJ a_this a_pond a_targets a_pond_behinds a_pond_depths i_pond_size i_pond_isRing i_pond_overOthers i_pond_longestLeap g_targets) → va_S A s.heap H locs → lv_has ls 5 [(0, .ref a_this), (1, .int x1), (2, .int s'.1), (3, .int s'.2)] → W p l e rX3_told s m args below meth c H locs 0 0 Q (F0 m 4 ls []))
    (hex : ∀ e', o = .inr (.inl e') → ∀ (H : Heap) (locs : List Loc) (ls : Array Slot), va_P D vwCl (uX3_told cI cJ a_this a_pond a_targets a_pond_behinds a_pond_depths i_pond_size i_pond_isRing i_pond_overOthers i_pond_longestLeap g_targets) H → va_D A (uX3_told cI cJ a_this a_pond a_targets a_pond_behinds a_pond_depths i_pond_size i_pond_isRing i_pond_overOthers i_pond_longestLeap g_targets) → va_S A s.heap H locs → lv_has ls 5 [] → W p l e rX3_told s m args below meth c H locs 0 0 Q (F0 m 68 ls []))
    (hrt : ∀ r', o = .inr (.inr r') → ∀ (H : Heap) (locs : List Loc) (ls : Array Slot) (pc : Nat), va_P D vwCl (uX3_told cI cJ a_this a_pond a_targets a_pond_behinds a_pond_depths i_pond_size i_pond_isRing i_pond_overOthers i_pond_longestLeap g_targets) H → va_D A (uX3_told cI cJ a_this a_pond a_targets a_pond_behinds a_pond_depths i_pond_size i_pond_isRing i_pond_overOthers i_pond_longestLeap g_targets) → va_S A s.heap H locs → decode cX3_told pc = .ok (.ireturn, 1) → W p l e rX3_told s m args below meth c H locs 0 0 Q (F0 m pc ls [.int r']))
    {H : Heap} {locs : List Loc} {ls : Array Slot} (hP : va_P D vwCl (uX3_told cI cJ a_this a_pond a_targets a_pond_behinds a_pond_depths i_pond_size i_pond_isRing i_pond_overOthers i_pond_longestLeap g_targets) H) (hD : va_D A (uX3_told cI cJ a_this a_pond a_targets a_pond_behinds a_pond_depths i_pond_size i_pond_isRing i_pond_overOthers i_pond_longestLeap g_targets)) (hS : va_S A s.heap H locs) (hl : lv_has ls 5 [(0, .ref a_this), (1, .int x1), (2, .int x2), (3, .int x3)]) : W p l e rX3_told s m args below meth c H locs 0 0 Q (F0 m 62 ls []) := by
  obtain ⟨hx, hb, hml, hown, hts, hK, hN, hA, hlocks⟩ := id C
  unfold fX3_told_J62 at hf
  refine lv_iinc (v := (x3 + 1)) (lv' := [(3, .int (x3 + 1)), (0, .ref a_this), (1, .int x1), (2, .int x2)]) hx hb dX3_told_62 hl (k := 3) rfl rfl (by decide) rfl (fun ls hl => ?_)
  refine lv_goto (tgt := 4) hx hb dX3_told_65 (by decide) ?_
  have ho := Option.some.inj hf
  subst ho
  exact hbk _ rfl _ _ _ hP hD hS (lv_sub hl [1, 2, 3, 0] rfl)
set_option maxHeartbeats 4000000 in
set_option maxRecDepth 100000 in
theorem kX3_told_L4 {p : Program} {l : Launch} {e : Env} {s : State} {m : MethodId} {args : Array Value} {below : List Frame} {meth : Method} {c : Code} {Q : State → Prop} {A : Nat → Prop} {D : va_G} {cI cJ : ClassId} (C : bC cX3_told 5 RX3 wsX3_told D cI cJ p s m args c meth A)
    {a_this : Nat} {a_pond : Nat} {a_targets : Nat} {a_pond_behinds : Nat} {a_pond_depths : Nat} {i_pond_size : Int32} {i_pond_isRing : Int32} {i_pond_overOthers : Int32} {i_pond_longestLeap : Int32} {g_targets : Nat → Int32} {z : Nat} {x1 : Int32} {x2 : Int32} {x3 : Int32} {o : (Int32 × Int32) ⊕ ((Unit) ⊕ (Int32))} (hf : fX3_told_L4 z x1 x2 x3 i_pond_size g_targets = some o)
    (hbk : ∀ s', o = .inl s' → ∀ (H : Heap) (locs : List Loc) (ls : Array Slot), va_P D vwCl (uX3_told cI cJ a_this a_pond a_targets a_pond_behinds a_pond_depths i_pond_size i_pond_isRing i_pond_overOthers i_pond_longestLeap g_targets) H → va_D A (uX3_told cI cJ a_this a_pond a_targets a_pond_behinds a_pond_depths i_pond_size i_pond_isRing i_pond_overOthers i_pond_longestLeap g_targets) → va_S A s.heap H locs → lv_has ls 5 [(0, .ref a_this), (1, .int x1), (2, .int s'.1), (3, .int s'.2)] → W p l e rX3_told s m args below meth c H locs 0 0 Q (F0 m 4 ls []))
    (hex : ∀ e', o = .inr (.inl e') → ∀ (H : Heap) (locs : List Loc) (ls : Array Slot), va_P D vwCl (uX3_told cI cJ a_this a_pond a_targets a_pond_behinds a_pond_depths i_pond_size i_pond_isRing i_pond_overOthers i_pond_longestLeap g_targets) H → va_D A (uX3_told cI cJ a_this a_pond a_targets a_pond_behinds a_pond_depths i_pond_size i_pond_isRing i_pond_overOthers i_pond_longestLeap g_targets) → va_S A s.heap H locs → lv_has ls 5 [] → W p l e rX3_told s m args below meth c H locs 0 0 Q (F0 m 68 ls []))
    (hrt : ∀ r', o = .inr (.inr r') → ∀ (H : Heap) (locs : List Loc) (ls : Array Slot) (pc : Nat), va_P D vwCl (uX3_told cI cJ a_this a_pond a_targets a_pond_behinds a_pond_depths i_pond_size i_pond_isRing i_pond_overOthers i_pond_longestLeap g_targets) H → va_D A (uX3_told cI cJ a_this a_pond a_targets a_pond_behinds a_pond_depths i_pond_size i_pond_isRing i_pond_overOthers i_pond_longestLeap g_targets) → va_S A s.heap H locs → decode cX3_told pc = .ok (.ireturn, 1) → W p l e rX3_told s m args below meth c H locs 0 0 Q (F0 m pc ls [.int r']))
    {H : Heap} {locs : List Loc} {ls : Array Slot} (hP : va_P D vwCl (uX3_told cI cJ a_this a_pond a_targets a_pond_behinds a_pond_depths i_pond_size i_pond_isRing i_pond_overOthers i_pond_longestLeap g_targets) H) (hD : va_D A (uX3_told cI cJ a_this a_pond a_targets a_pond_behinds a_pond_depths i_pond_size i_pond_isRing i_pond_overOthers i_pond_longestLeap g_targets)) (hS : va_S A s.heap H locs) (hl : lv_has ls 5 [(0, .ref a_this), (1, .int x1), (2, .int x2), (3, .int x3)]) : W p l e rX3_told s m args below meth c H locs 0 0 Q (F0 m 4 ls []) := by
  obtain ⟨hx, hb, hml, hown, hts, hK, hN, hA, hlocks⟩ := id C
  unfold fX3_told_L4 at hf
  refine lv_iload_n hx hb dX3_told_4 rfl (lv_at hl 3 rfl) ?_
  refine lv_aload_n hx hb dX3_told_5 rfl (lv_at hl 0 rfl) ?_
  refine va_get (D := D) (ci := 3) (v := .ref a_pond) (C := RX3) (T := TX3) (N := 2) hx hb hts jX3_told_X3 hown hK hP 0 rfl rfl 0 (by decide) (hts _ qX3_told_15) (fun _ h9 => h9) rfl dX3_told_6 ?_
  refine va_get (D := D) (ci := 6) (v := .int i_pond_size) (C := RX6) (T := TX6) (N := 6) hx hb hts jX3_told_X6 hown hK hP 1 rfl rfl 2 (by decide) (hts _ qX3_told_25) (fun _ h9 => h9) rfl dX3_told_9 ?_
  refine lv_icmp_ge (tgt := 68) hx hb dX3_told_12 (by decide) (fun hc => ?_) (fun hc => ?_)
  · have hf := if_yes hc hf
    have ho := Option.some.inj hf
    subst ho
    exact hex _ rfl _ _ _ hP hD hS (lv_sub hl [] rfl)
  · have hf := if_no hc hf
    refine lv_iconst (v := 0) hx hb dX3_told_15 (by decide) ?_
    refine lv_istore (lv' := [(4, .int 0), (0, .ref a_this), (1, .int x1), (2, .int x2), (3, .int x3)]) hx hb dX3_told_16 hl (by decide) rfl (fun ls hl => ?_)
    obtain ⟨ex, hlp, hf⟩ := ob_some hf
    refine lp_ind (P := fun sg => ∀ (H : Heap) (locs : List Loc) (ls : Array Slot), va_P D vwCl (uX3_told cI cJ a_this a_pond a_targets a_pond_behinds a_pond_depths i_pond_size i_pond_isRing i_pond_overOthers i_pond_longestLeap g_targets) H → va_D A (uX3_told cI cJ a_this a_pond a_targets a_pond_behinds a_pond_depths i_pond_size i_pond_isRing i_pond_overOthers i_pond_longestLeap g_targets) → va_S A s.heap H locs → lv_has ls 5 [(0, .ref a_this), (1, .int x1), (2, .int sg.1), (3, .int x3), (4, .int sg.2)] → W p l e rX3_told s m args below meth c H locs 0 0 Q (F0 m 18 ls [])) ?_ z _ hlp H locs ls hP hD hS (lv_sub hl [1, 2, 3, 4, 0] rfl)
    intro sg og hbo hback hexit H locs ls hP hD hS hl
    refine kX3_told_L18 C hbo (fun s' h => hback s' h) (fun ex h H locs ls hP hD hS hl => ?_) (fun rr h H locs ls pc hP hD hS hdg => ?_) hP hD hS hl
    · have he := hexit _ h
      subst he
      simp only [Sum.elim_inl] at hf
      exact kX3_told_J62 C hf hbk hex hrt hP hD hS (lv_sub hl [0, 1, 2, 3] rfl)
    · have he := hexit _ h
      subst he
      simp only [Sum.elim_inr] at hf
      have ho := Option.some.inj hf
      subst ho
      exact hrt _ rfl H locs ls pc hP hD hS hdg
set_option maxHeartbeats 4000000 in
set_option maxRecDepth 100000 in
theorem kX3_told_J68 {p : Program} {l : Launch} {e : Env} {s : State} {m : MethodId} {args : Array Value} {below : List Frame} {meth : Method} {c : Code} {Q : State → Prop} {A : Nat → Prop} {D : va_G} {cI cJ : ClassId} (C : bC cX3_told 5 RX3 wsX3_told D cI cJ p s m args c meth A)
    {a_this : Nat} {a_pond : Nat} {a_targets : Nat} {a_pond_behinds : Nat} {a_pond_depths : Nat} {i_pond_size : Int32} {i_pond_isRing : Int32} {i_pond_overOthers : Int32} {i_pond_longestLeap : Int32} {g_targets : Nat → Int32} {z : Nat} {o : Int32} (hf : fX3_told_J68 z i_pond_size g_targets = some o)
    (hrt : ∀ (H : Heap) (locs : List Loc) (ls : Array Slot) (pc : Nat), va_P D vwCl (uX3_told cI cJ a_this a_pond a_targets a_pond_behinds a_pond_depths i_pond_size i_pond_isRing i_pond_overOthers i_pond_longestLeap g_targets) H → va_D A (uX3_told cI cJ a_this a_pond a_targets a_pond_behinds a_pond_depths i_pond_size i_pond_isRing i_pond_overOthers i_pond_longestLeap g_targets) → va_S A s.heap H locs → decode cX3_told pc = .ok (.ireturn, 1) → W p l e rX3_told s m args below meth c H locs 0 0 Q (F0 m pc ls [.int o]))
    {H : Heap} {locs : List Loc} {ls : Array Slot} (hP : va_P D vwCl (uX3_told cI cJ a_this a_pond a_targets a_pond_behinds a_pond_depths i_pond_size i_pond_isRing i_pond_overOthers i_pond_longestLeap g_targets) H) (hD : va_D A (uX3_told cI cJ a_this a_pond a_targets a_pond_behinds a_pond_depths i_pond_size i_pond_isRing i_pond_overOthers i_pond_longestLeap g_targets)) (hS : va_S A s.heap H locs) (hl : lv_has ls 5 []) : W p l e rX3_told s m args below meth c H locs 0 0 Q (F0 m 68 ls []) := by
  obtain ⟨hx, hb, hml, hown, hts, hK, hN, hA, hlocks⟩ := id C
  unfold fX3_told_J68 at hf
  refine lv_iconst (v := (-1)) hx hb dX3_told_68 (by decide) ?_
  have ho := Option.some.inj hf
  subst ho
  exact hrt H locs ls _ hP hD hS dX3_told_69
set_option maxHeartbeats 4000000 in
set_option maxRecDepth 100000 in
theorem kX3_told_0 {p : Program} {l : Launch} {e : Env} {s : State} {m : MethodId} {args : Array Value} {below : List Frame} {meth : Method} {c : Code} {Q : State → Prop} {A : Nat → Prop} {D : va_G} {cI cJ : ClassId} (C : bC cX3_told 5 RX3 wsX3_told D cI cJ p s m args c meth A)
    {a_this : Nat} {a_pond : Nat} {a_targets : Nat} {a_pond_behinds : Nat} {a_pond_depths : Nat} {i_pond_size : Int32} {i_pond_isRing : Int32} {i_pond_overOthers : Int32} {i_pond_longestLeap : Int32} {g_targets : Nat → Int32} {z : Nat} {x1 : Int32} {o : Int32} (hf : fX3_told z x1 i_pond_size g_targets = some o)
    (hrt : ∀ (H : Heap) (locs : List Loc) (ls : Array Slot) (pc : Nat), va_P D vwCl (uX3_told cI cJ a_this a_pond a_targets a_pond_behinds a_pond_depths i_pond_size i_pond_isRing i_pond_overOthers i_pond_longestLeap g_targets) H → va_D A (uX3_told cI cJ a_this a_pond a_targets a_pond_behinds a_pond_depths i_pond_size i_pond_isRing i_pond_overOthers i_pond_longestLeap g_targets) → va_S A s.heap H locs → decode cX3_told pc = .ok (.ireturn, 1) → W p l e rX3_told s m args below meth c H locs 0 0 Q (F0 m pc ls [.int o]))
    {H : Heap} {locs : List Loc} {ls : Array Slot} (hP : va_P D vwCl (uX3_told cI cJ a_this a_pond a_targets a_pond_behinds a_pond_depths i_pond_size i_pond_isRing i_pond_overOthers i_pond_longestLeap g_targets) H) (hD : va_D A (uX3_told cI cJ a_this a_pond a_targets a_pond_behinds a_pond_depths i_pond_size i_pond_isRing i_pond_overOthers i_pond_longestLeap g_targets)) (hS : va_S A s.heap H locs) (hl : lv_has ls 5 [(0, .ref a_this), (1, .int x1)]) : W p l e rX3_told s m args below meth c H locs 0 0 Q (F0 m 0 ls []) := by
  obtain ⟨hx, hb, hml, hown, hts, hK, hN, hA, hlocks⟩ := id C
  unfold fX3_told at hf
  refine lv_iconst (v := 0) hx hb dX3_told_0 (by decide) ?_
  refine lv_istore_n (lv' := [(2, .int 0), (0, .ref a_this), (1, .int x1)]) hx hb dX3_told_1 rfl hl (by decide) rfl (fun ls hl => ?_)
  refine lv_iconst (v := 0) hx hb dX3_told_2 (by decide) ?_
  refine lv_istore_n (lv' := [(3, .int 0), (2, .int 0), (0, .ref a_this), (1, .int x1)]) hx hb dX3_told_3 rfl hl (by decide) rfl (fun ls hl => ?_)
  obtain ⟨ex, hlp, hf⟩ := ob_some hf
  refine lp_ind (P := fun sg => ∀ (H : Heap) (locs : List Loc) (ls : Array Slot), va_P D vwCl (uX3_told cI cJ a_this a_pond a_targets a_pond_behinds a_pond_depths i_pond_size i_pond_isRing i_pond_overOthers i_pond_longestLeap g_targets) H → va_D A (uX3_told cI cJ a_this a_pond a_targets a_pond_behinds a_pond_depths i_pond_size i_pond_isRing i_pond_overOthers i_pond_longestLeap g_targets) → va_S A s.heap H locs → lv_has ls 5 [(0, .ref a_this), (1, .int x1), (2, .int sg.1), (3, .int sg.2)] → W p l e rX3_told s m args below meth c H locs 0 0 Q (F0 m 4 ls [])) ?_ z _ hlp H locs ls hP hD hS (lv_sub hl [2, 3, 1, 0] rfl)
  intro sg og hbo hback hexit H locs ls hP hD hS hl
  refine kX3_told_L4 C hbo (fun s' h => hback s' h) (fun ex h H locs ls hP hD hS hl => ?_) (fun rr h H locs ls pc hP hD hS hdg => ?_) hP hD hS hl
  · have he := hexit _ h
    subst he
    simp only [Sum.elim_inl] at hf
    exact kX3_told_J68 C hf hrt hP hD hS (lv_sub hl [] rfl)
  · have he := hexit _ h
    subst he
    simp only [Sum.elim_inr] at hf
    have ho := Option.some.inj hf
    subst ho
    exact hrt H locs ls pc hP hD hS hdg
set_option maxHeartbeats 4000000 in
set_option maxRecDepth 100000 in
theorem mX3_told (l : Launch) (D : va_G) (cI cJ : ClassId) (sz : Nat) {a_this : Nat} {a_pond : Nat} {a_targets : Nat} {a_pond_behinds : Nat} {a_pond_depths : Nat} {i_pond_size : Int32} {i_pond_isRing : Int32} {i_pond_overOthers : Int32} {i_pond_longestLeap : Int32} {g_targets : Nat → Int32} {z : Nat} {x1 : Int32} {o : Int32} (hf : fX3_told z x1 i_pond_size g_targets = some o) : Met l yX3_told wsX3_told rX3_told (va_Pc [.ref a_this, .int x1] (kP D cI cJ (uX3_told cI cJ a_this a_pond a_targets a_pond_behinds a_pond_depths i_pond_size i_pond_isRing i_pond_overOthers i_pond_longestLeap g_targets) sz)) (va_Qi (fun r' (_ : Unit) => r' = o) (fun _ t => kB D (va_A (uX3_told cI cJ a_this a_pond a_targets a_pond_behinds a_pond_depths i_pond_size i_pond_isRing i_pond_overOthers i_pond_longestLeap g_targets) sz) (uX3_told cI cJ a_this a_pond a_targets a_pond_behinds a_pond_depths i_pond_size i_pond_isRing i_pond_overOthers i_pond_longestLeap g_targets) t) (va_A (uX3_told cI cJ a_this a_pond a_targets a_pond_behinds a_pond_depths i_pond_size i_pond_isRing i_pond_overOthers i_pond_longestLeap g_targets) sz)) 0 0 (va_A (uX3_told cI cJ a_this a_pond a_targets a_pond_behinds a_pond_depths i_pond_size i_pond_isRing i_pond_overOthers i_pond_longestLeap g_targets) sz) :=
  met_i (by decide) rfl (Nat.le_of_ble_eq_true rfl) (fun p e s m below meth c A Q C hrt ls hl hP hD hS => kX3_told_0 (A := A) C hf hrt hP hD hS hl)

/-! ===== FrogsOnRing$Numbering.tally(I)I ===== -/
abbrev uX4_tally (cI cJ : ClassId) : va_W := []
def rX4_tally : Room := { frames := 1, cells := 0, slots := 0, locals := 21 }
theorem hdX4_tally : yX4_tally.cls = RX4 ∧ yX4_tally.cls ≠ "java/lang/invoke/MethodHandle" ∧ yX4_tally.cls ≠ "java/lang/invoke/VarHandle" ∧ (parseMethodDescriptor yX4_tally.desc).map (fun d => d.parameters.length) = some 1 := by decide +kernel
set_option maxRecDepth 20000 in
theorem qX4_tally_iX9_kindAt : Cond.initialized yX9_kindAt.cls ∈ wsX4_tally := by decide +kernel
set_option maxRecDepth 20000 in
theorem qX4_tally_sX9_kindAt : Cond.static yX9_kindAt ∈ wsX4_tally := by decide +kernel
set_option maxHeartbeats 4000000 in
set_option maxRecDepth 100000 in
theorem kX4_tally_L4 {p : Program} {l : Launch} {e : Env} {s : State} {m : MethodId} {args : Array Value} {below : List Frame} {meth : Method} {c : Code} {Q : State → Prop} {A : Nat → Prop} {D : va_G} {cI cJ : ClassId} (C : bC cX4_tally 3 RX4 wsX4_tally D cI cJ p s m args c meth A)
    {z : Nat} {x0 : Int32} {x1 : Int32} {x2 : Int32} {o : (Int32 × Int32) ⊕ (Int32)} (hf : fX4_tally_L4 z x0 x1 x2 = some o)
    (hbk : ∀ s', o = .inl s' → ∀ (H : Heap) (locs : List Loc) (ls : Array Slot), va_P D vwCl (uX4_tally cI cJ) H → va_D A (uX4_tally cI cJ) → va_S A s.heap H locs → lv_has ls 3 [(0, .int x0), (1, .int s'.1), (2, .int s'.2)] → W p l e rX4_tally s m args below meth c H locs 0 0 Q (F0 m 4 ls []))
    (hex : ∀ e', o = .inr e' → ∀ (H : Heap) (locs : List Loc) (ls : Array Slot), va_P D vwCl (uX4_tally cI cJ) H → va_D A (uX4_tally cI cJ) → va_S A s.heap H locs → lv_has ls 3 [(1, .int e')] → W p l e rX4_tally s m args below meth c H locs 0 0 Q (F0 m 29 ls []))
    {H : Heap} {locs : List Loc} {ls : Array Slot} (hP : va_P D vwCl (uX4_tally cI cJ) H) (hD : va_D A (uX4_tally cI cJ)) (hS : va_S A s.heap H locs) (hl : lv_has ls 3 [(0, .int x0), (1, .int x1), (2, .int x2)]) : W p l e rX4_tally s m args below meth c H locs 0 0 Q (F0 m 4 ls []) := by
  obtain ⟨hx, hb, hml, hown, hts, hK, hN, hA, hlocks⟩ := id C
  unfold fX4_tally_L4 at hf
  refine lv_iload_n hx hb dX4_tally_4 rfl (lv_at hl 2 rfl) ?_
  refine lv_bipush (v := 9) hx hb dX4_tally_5 (by decide) ?_
  refine lv_icmp_ge (tgt := 29) hx hb dX4_tally_7 (by decide) (fun hc => ?_) (fun hc => ?_)
  · have hf := if_yes hc hf
    have ho := Option.some.inj hf
    subst ho
    exact hex _ rfl _ _ _ hP hD hS (lv_sub hl [1] rfl)
  · have hf := if_no hc hf
    refine lv_iload_n hx hb dX4_tally_10 rfl (lv_at hl 1 rfl) ?_
    refine lv_iconst (v := 1) hx hb dX4_tally_11 (by decide) ?_
    refine lv_bipush (v := 8) hx hb dX4_tally_12 (by decide) ?_
    refine lv_iload_n hx hb dX4_tally_14 rfl (lv_at hl 0 rfl) ?_
    refine lv_iload_n hx hb dX4_tally_15 rfl (lv_at hl 2 rfl) ?_
    refine cl_i (wc := (uX9_kindAt cI cJ)) (w1 := (uX9_kindAt cI cJ)) (rn_N (As := [.int x0, .int x2]) (rest := [.int 8, .int 1, .int x1]) (wc := (uX9_kindAt cI cJ)) C hP hD [] rfl rfl (mX9_kindAt l D cI cJ H.size) 2 gX4_tally_X9_kindAt_n55 qX4_tally_iX9_kindAt qX4_tally_sX9_kindAt 7 rfl rfl ⟨rfl, rfl, Nat.le_of_ble_eq_true rfl, Nat.le_of_ble_eq_true rfl⟩ hdX9_kindAt.2 rfl hl.1 rfl (Nat.le_of_ble_eq_true rfl) dX4_tally_16) hP hD hS hA [] rfl rfl (fun H locs hP hD hS => ?_)
    have hP : va_P D vwCl (uX4_tally cI cJ) H := hP
    have hD : va_D A (uX4_tally cI cJ) := hD
    refine lv_imul hx hb dX4_tally_19 ?_
    refine lv_ishl hx hb dX4_tally_20 ?_
    refine lv_iadd hx hb dX4_tally_21 ?_
    refine lv_istore_n (lv' := [(1, .int (x1 + ((1 : Int32) <<< ((8 * (fX9_kindAt x0 x2)) &&& 31)))), (0, .int x0), (2, .int x2)]) hx hb dX4_tally_22 rfl hl (by decide) rfl (fun ls hl => ?_)
    refine lv_iinc (v := (x2 + 1)) (lv' := [(2, .int (x2 + 1)), (1, .int (x1 + ((1 : Int32) <<< ((8 * (fX9_kindAt x0 x2)) &&& 31)))), (0, .int x0)]) hx hb dX4_tally_23 hl (k := 2) rfl rfl (by decide) rfl (fun ls hl => ?_)
    refine lv_goto (tgt := 4) hx hb dX4_tally_26 (by decide) ?_
    have ho := Option.some.inj hf
    subst ho
    exact hbk _ rfl _ _ _ hP hD hS (lv_sub hl [2, 1, 0] rfl)
set_option maxHeartbeats 4000000 in
set_option maxRecDepth 100000 in
theorem kX4_tally_J29 {p : Program} {l : Launch} {e : Env} {s : State} {m : MethodId} {args : Array Value} {below : List Frame} {meth : Method} {c : Code} {Q : State → Prop} {A : Nat → Prop} {D : va_G} {cI cJ : ClassId} (C : bC cX4_tally 3 RX4 wsX4_tally D cI cJ p s m args c meth A)
    {z : Nat} {x1 : Int32} {o : Int32} (hf : fX4_tally_J29 z x1 = some o)
    (hrt : ∀ (H : Heap) (locs : List Loc) (ls : Array Slot) (pc : Nat), va_P D vwCl (uX4_tally cI cJ) H → va_D A (uX4_tally cI cJ) → va_S A s.heap H locs → decode cX4_tally pc = .ok (.ireturn, 1) → W p l e rX4_tally s m args below meth c H locs 0 0 Q (F0 m pc ls [.int o]))
    {H : Heap} {locs : List Loc} {ls : Array Slot} (hP : va_P D vwCl (uX4_tally cI cJ) H) (hD : va_D A (uX4_tally cI cJ)) (hS : va_S A s.heap H locs) (hl : lv_has ls 3 [(1, .int x1)]) : W p l e rX4_tally s m args below meth c H locs 0 0 Q (F0 m 29 ls []) := by
  obtain ⟨hx, hb, hml, hown, hts, hK, hN, hA, hlocks⟩ := id C
  unfold fX4_tally_J29 at hf
  refine lv_iload_n hx hb dX4_tally_29 rfl (lv_at hl 0 rfl) ?_
  refine lv_bipush (v := 8) hx hb dX4_tally_30 (by decide) ?_
  refine lv_ishr hx hb dX4_tally_32 ?_
  have ho := Option.some.inj hf
  subst ho
  exact hrt H locs ls _ hP hD hS dX4_tally_33
set_option maxHeartbeats 4000000 in
set_option maxRecDepth 100000 in
theorem kX4_tally_0 {p : Program} {l : Launch} {e : Env} {s : State} {m : MethodId} {args : Array Value} {below : List Frame} {meth : Method} {c : Code} {Q : State → Prop} {A : Nat → Prop} {D : va_G} {cI cJ : ClassId} (C : bC cX4_tally 3 RX4 wsX4_tally D cI cJ p s m args c meth A)
    {z : Nat} {x0 : Int32} {o : Int32} (hf : fX4_tally z x0 = some o)
    (hrt : ∀ (H : Heap) (locs : List Loc) (ls : Array Slot) (pc : Nat), va_P D vwCl (uX4_tally cI cJ) H → va_D A (uX4_tally cI cJ) → va_S A s.heap H locs → decode cX4_tally pc = .ok (.ireturn, 1) → W p l e rX4_tally s m args below meth c H locs 0 0 Q (F0 m pc ls [.int o]))
    {H : Heap} {locs : List Loc} {ls : Array Slot} (hP : va_P D vwCl (uX4_tally cI cJ) H) (hD : va_D A (uX4_tally cI cJ)) (hS : va_S A s.heap H locs) (hl : lv_has ls 3 [(0, .int x0)]) : W p l e rX4_tally s m args below meth c H locs 0 0 Q (F0 m 0 ls []) := by
  obtain ⟨hx, hb, hml, hown, hts, hK, hN, hA, hlocks⟩ := id C
  unfold fX4_tally at hf
  refine lv_iconst (v := 0) hx hb dX4_tally_0 (by decide) ?_
  refine lv_istore_n (lv' := [(1, .int 0), (0, .int x0)]) hx hb dX4_tally_1 rfl hl (by decide) rfl (fun ls hl => ?_)
  refine lv_iconst (v := 0) hx hb dX4_tally_2 (by decide) ?_
  refine lv_istore_n (lv' := [(2, .int 0), (1, .int 0), (0, .int x0)]) hx hb dX4_tally_3 rfl hl (by decide) rfl (fun ls hl => ?_)
  obtain ⟨ex, hlp, hf⟩ := ob_some hf
  refine lp_ind (P := fun sg => ∀ (H : Heap) (locs : List Loc) (ls : Array Slot), va_P D vwCl (uX4_tally cI cJ) H → va_D A (uX4_tally cI cJ) → va_S A s.heap H locs → lv_has ls 3 [(0, .int x0), (1, .int sg.1), (2, .int sg.2)] → W p l e rX4_tally s m args below meth c H locs 0 0 Q (F0 m 4 ls [])) ?_ z _ hlp H locs ls hP hD hS (lv_sub hl [2, 1, 0] rfl)
  intro sg og hbo hback hexit H locs ls hP hD hS hl
  refine kX4_tally_L4 C hbo (fun s' h => hback s' h) (fun ex h H locs ls hP hD hS hl => ?_) hP hD hS hl
  have he := hexit _ h
  subst he
  exact kX4_tally_J29 C hf hrt hP hD hS (lv_sub hl [0] rfl)
set_option maxHeartbeats 4000000 in
set_option maxRecDepth 100000 in
theorem mX4_tally (l : Launch) (D : va_G) (cI cJ : ClassId) (sz : Nat) {z : Nat} {x0 : Int32} {o : Int32} (hf : fX4_tally z x0 = some o) : Met l yX4_tally wsX4_tally rX4_tally (va_Pc [.int x0] (kP D cI cJ (uX4_tally cI cJ) sz)) (va_Qi (fun r' (_ : Unit) => r' = o) (fun _ t => kB D (va_A (uX4_tally cI cJ) sz) (uX4_tally cI cJ) t) (va_A (uX4_tally cI cJ) sz)) 0 0 (va_A (uX4_tally cI cJ) sz) :=
  met_i (by decide) rfl (Nat.le_of_ble_eq_true rfl) (fun p e s m below meth c A Q C hrt ls hl hP hD hS => kX4_tally_0 (A := A) C hf hrt hP hD hS hl)

/-! ===== FrogsOnRing$Numbering.mixtureOf(II)I ===== -/
abbrev uX4_mixtureOf (cI cJ : ClassId) : va_W := []
def rX4_mixtureOf : Room := { frames := 0, cells := 0, slots := 0, locals := 0 }
theorem hdX4_mixtureOf : yX4_mixtureOf.cls = RX4 ∧ yX4_mixtureOf.cls ≠ "java/lang/invoke/MethodHandle" ∧ yX4_mixtureOf.cls ≠ "java/lang/invoke/VarHandle" ∧ (parseMethodDescriptor yX4_mixtureOf.desc).map (fun d => d.parameters.length) = some 2 := by decide +kernel
set_option maxHeartbeats 4000000 in
set_option maxRecDepth 100000 in
theorem kX4_mixtureOf_L4 {p : Program} {l : Launch} {e : Env} {s : State} {m : MethodId} {args : Array Value} {below : List Frame} {meth : Method} {c : Code} {Q : State → Prop} {A : Nat → Prop} {D : va_G} {cI cJ : ClassId} (C : bC cX4_mixtureOf 5 RX4 wsX4_mixtureOf D cI cJ p s m args c meth A)
    {z : Nat} {x0 : Int32} {x1 : Int32} {x2 : Int32} {x3 : Int32} {o : (Int32 × Int32) ⊕ ((Int32) ⊕ (Int32))} (hf : fX4_mixtureOf_L4 z x0 x1 x2 x3 = some o)
    (hbk : ∀ s', o = .inl s' → ∀ (H : Heap) (locs : List Loc) (ls : Array Slot), va_P D vwCl (uX4_mixtureOf cI cJ) H → va_D A (uX4_mixtureOf cI cJ) → va_S A s.heap H locs → lv_has ls 5 [(0, .int x0), (1, .int x1), (2, .int s'.1), (3, .int s'.2)] → W p l e rX4_mixtureOf s m args below meth c H locs 0 0 Q (F0 m 4 ls []))
    (hex : ∀ e', o = .inr (.inl e') → ∀ (H : Heap) (locs : List Loc) (ls : Array Slot), va_P D vwCl (uX4_mixtureOf cI cJ) H → va_D A (uX4_mixtureOf cI cJ) → va_S A s.heap H locs → lv_has ls 5 [(2, .int e')] → W p l e rX4_mixtureOf s m args below meth c H locs 0 0 Q (F0 m 53 ls []))
    (hrt : ∀ r', o = .inr (.inr r') → ∀ (H : Heap) (locs : List Loc) (ls : Array Slot) (pc : Nat), va_P D vwCl (uX4_mixtureOf cI cJ) H → va_D A (uX4_mixtureOf cI cJ) → va_S A s.heap H locs → decode cX4_mixtureOf pc = .ok (.ireturn, 1) → W p l e rX4_mixtureOf s m args below meth c H locs 0 0 Q (F0 m pc ls [.int r']))
    {H : Heap} {locs : List Loc} {ls : Array Slot} (hP : va_P D vwCl (uX4_mixtureOf cI cJ) H) (hD : va_D A (uX4_mixtureOf cI cJ)) (hS : va_S A s.heap H locs) (hl : lv_has ls 5 [(0, .int x0), (1, .int x1), (2, .int x2), (3, .int x3)]) : W p l e rX4_mixtureOf s m args below meth c H locs 0 0 Q (F0 m 4 ls []) := by
  obtain ⟨hx, hb, hml, hown, hts, hK, hN, hA, hlocks⟩ := id C
  unfold fX4_mixtureOf_L4 at hf
  refine lv_iload_n hx hb dX4_mixtureOf_4 rfl (lv_at hl 3 rfl) ?_
  refine lv_bipush (v := 16) hx hb dX4_mixtureOf_5 (by decide) ?_
  refine lv_icmp_gt (tgt := 53) hx hb dX4_mixtureOf_7 (by decide) (fun hc => ?_) (fun hc => ?_)
  · have hf := if_yes hc hf
    have ho := Option.some.inj hf
    subst ho
    exact hex _ rfl _ _ _ hP hD hS (lv_sub hl [2] rfl)
  · have hf := if_no hc hf
    refine lv_iload_n hx hb dX4_mixtureOf_10 rfl (lv_at hl 0 rfl) ?_
    refine lv_iload_n hx hb dX4_mixtureOf_11 rfl (lv_at hl 3 rfl) ?_
    refine lv_ishr hx hb dX4_mixtureOf_12 ?_
    refine lv_sipush (v := 255) hx hb dX4_mixtureOf_13 (by decide) ?_
    refine lv_iand hx hb dX4_mixtureOf_16 ?_
    refine lv_iload_n hx hb dX4_mixtureOf_17 rfl (lv_at hl 1 rfl) ?_
    refine lv_iload_n hx hb dX4_mixtureOf_18 rfl (lv_at hl 3 rfl) ?_
    refine lv_ishr hx hb dX4_mixtureOf_19 ?_
    refine lv_sipush (v := 255) hx hb dX4_mixtureOf_20 (by decide) ?_
    refine lv_iand hx hb dX4_mixtureOf_23 ?_
    refine lv_isub hx hb dX4_mixtureOf_24 ?_
    refine lv_istore (lv' := [(4, .int (((x0 >>> (x3 &&& 31)) &&& 255) - ((x1 >>> (x3 &&& 31)) &&& 255))), (0, .int x0), (1, .int x1), (2, .int x2), (3, .int x3)]) hx hb dX4_mixtureOf_25 hl (by decide) rfl (fun ls hl => ?_)
    refine lv_iload hx hb dX4_mixtureOf_27 (lv_at hl 0 rfl) ?_
    refine lv_if_lt (tgt := 38) hx hb dX4_mixtureOf_29 (by decide) (fun hc => ?_) (fun hc => ?_)
    · have hf := if_yes hc hf
      refine lv_iconst (v := (-1)) hx hb dX4_mixtureOf_38 (by decide) ?_
      have ho := Option.some.inj hf
      subst ho
      exact hrt _ rfl H locs ls _ hP hD hS dX4_mixtureOf_39
    · have hf := if_no hc hf
      refine lv_iload hx hb dX4_mixtureOf_32 (lv_at hl 0 rfl) ?_
      refine lv_iconst (v := 4) hx hb dX4_mixtureOf_34 (by decide) ?_
      refine lv_icmp_le (tgt := 40) hx hb dX4_mixtureOf_35 (by decide) (fun hc => ?_) (fun hc => ?_)
      · have hf := if_yes hc hf
        refine lv_iload_n hx hb dX4_mixtureOf_40 rfl (lv_at hl 3 rfl) ?_
        refine lv_iconst (v := 5) hx hb dX4_mixtureOf_41 (by decide) ?_
        refine lv_imul hx hb dX4_mixtureOf_42 ?_
        refine lv_iload hx hb dX4_mixtureOf_43 (lv_at hl 0 rfl) ?_
        refine lv_iadd hx hb dX4_mixtureOf_45 ?_
        refine lv_istore_n (lv' := [(2, .int ((x2 * 5) + (((x0 >>> (x3 &&& 31)) &&& 255) - ((x1 >>> (x3 &&& 31)) &&& 255)))), (4, .int (((x0 >>> (x3 &&& 31)) &&& 255) - ((x1 >>> (x3 &&& 31)) &&& 255))), (0, .int x0), (1, .int x1), (3, .int x3)]) hx hb dX4_mixtureOf_46 rfl hl (by decide) rfl (fun ls hl => ?_)
        refine lv_iinc (v := (x3 + 8)) (lv' := [(3, .int (x3 + 8)), (2, .int ((x2 * 5) + (((x0 >>> (x3 &&& 31)) &&& 255) - ((x1 >>> (x3 &&& 31)) &&& 255)))), (4, .int (((x0 >>> (x3 &&& 31)) &&& 255) - ((x1 >>> (x3 &&& 31)) &&& 255))), (0, .int x0), (1, .int x1)]) hx hb dX4_mixtureOf_47 hl (k := 4) rfl rfl (by decide) rfl (fun ls hl => ?_)
        refine lv_goto (tgt := 4) hx hb dX4_mixtureOf_50 (by decide) ?_
        have ho := Option.some.inj hf
        subst ho
        exact hbk _ rfl _ _ _ hP hD hS (lv_sub hl [3, 4, 1, 0] rfl)
      · have hf := if_no hc hf
        refine lv_iconst (v := (-1)) hx hb dX4_mixtureOf_38 (by decide) ?_
        have ho := Option.some.inj hf
        subst ho
        exact hrt _ rfl H locs ls _ hP hD hS dX4_mixtureOf_39
set_option maxHeartbeats 4000000 in
set_option maxRecDepth 100000 in
theorem kX4_mixtureOf_J53 {p : Program} {l : Launch} {e : Env} {s : State} {m : MethodId} {args : Array Value} {below : List Frame} {meth : Method} {c : Code} {Q : State → Prop} {A : Nat → Prop} {D : va_G} {cI cJ : ClassId} (C : bC cX4_mixtureOf 5 RX4 wsX4_mixtureOf D cI cJ p s m args c meth A)
    {z : Nat} {x2 : Int32} {o : Int32} (hf : fX4_mixtureOf_J53 z x2 = some o)
    (hrt : ∀ (H : Heap) (locs : List Loc) (ls : Array Slot) (pc : Nat), va_P D vwCl (uX4_mixtureOf cI cJ) H → va_D A (uX4_mixtureOf cI cJ) → va_S A s.heap H locs → decode cX4_mixtureOf pc = .ok (.ireturn, 1) → W p l e rX4_mixtureOf s m args below meth c H locs 0 0 Q (F0 m pc ls [.int o]))
    {H : Heap} {locs : List Loc} {ls : Array Slot} (hP : va_P D vwCl (uX4_mixtureOf cI cJ) H) (hD : va_D A (uX4_mixtureOf cI cJ)) (hS : va_S A s.heap H locs) (hl : lv_has ls 5 [(2, .int x2)]) : W p l e rX4_mixtureOf s m args below meth c H locs 0 0 Q (F0 m 53 ls []) := by
  obtain ⟨hx, hb, hml, hown, hts, hK, hN, hA, hlocks⟩ := id C
  unfold fX4_mixtureOf_J53 at hf
  refine lv_iload_n hx hb dX4_mixtureOf_53 rfl (lv_at hl 0 rfl) ?_
  have ho := Option.some.inj hf
  subst ho
  exact hrt H locs ls _ hP hD hS dX4_mixtureOf_54
set_option maxHeartbeats 4000000 in
set_option maxRecDepth 100000 in
theorem kX4_mixtureOf_0 {p : Program} {l : Launch} {e : Env} {s : State} {m : MethodId} {args : Array Value} {below : List Frame} {meth : Method} {c : Code} {Q : State → Prop} {A : Nat → Prop} {D : va_G} {cI cJ : ClassId} (C : bC cX4_mixtureOf 5 RX4 wsX4_mixtureOf D cI cJ p s m args c meth A)
    {z : Nat} {x0 : Int32} {x1 : Int32} {o : Int32} (hf : fX4_mixtureOf z x0 x1 = some o)
    (hrt : ∀ (H : Heap) (locs : List Loc) (ls : Array Slot) (pc : Nat), va_P D vwCl (uX4_mixtureOf cI cJ) H → va_D A (uX4_mixtureOf cI cJ) → va_S A s.heap H locs → decode cX4_mixtureOf pc = .ok (.ireturn, 1) → W p l e rX4_mixtureOf s m args below meth c H locs 0 0 Q (F0 m pc ls [.int o]))
    {H : Heap} {locs : List Loc} {ls : Array Slot} (hP : va_P D vwCl (uX4_mixtureOf cI cJ) H) (hD : va_D A (uX4_mixtureOf cI cJ)) (hS : va_S A s.heap H locs) (hl : lv_has ls 5 [(0, .int x0), (1, .int x1)]) : W p l e rX4_mixtureOf s m args below meth c H locs 0 0 Q (F0 m 0 ls []) := by
  obtain ⟨hx, hb, hml, hown, hts, hK, hN, hA, hlocks⟩ := id C
  unfold fX4_mixtureOf at hf
  refine lv_iconst (v := 0) hx hb dX4_mixtureOf_0 (by decide) ?_
  refine lv_istore_n (lv' := [(2, .int 0), (0, .int x0), (1, .int x1)]) hx hb dX4_mixtureOf_1 rfl hl (by decide) rfl (fun ls hl => ?_)
  refine lv_iconst (v := 0) hx hb dX4_mixtureOf_2 (by decide) ?_
  refine lv_istore_n (lv' := [(3, .int 0), (2, .int 0), (0, .int x0), (1, .int x1)]) hx hb dX4_mixtureOf_3 rfl hl (by decide) rfl (fun ls hl => ?_)
  obtain ⟨ex, hlp, hf⟩ := ob_some hf
  refine lp_ind (P := fun sg => ∀ (H : Heap) (locs : List Loc) (ls : Array Slot), va_P D vwCl (uX4_mixtureOf cI cJ) H → va_D A (uX4_mixtureOf cI cJ) → va_S A s.heap H locs → lv_has ls 5 [(0, .int x0), (1, .int x1), (2, .int sg.1), (3, .int sg.2)] → W p l e rX4_mixtureOf s m args below meth c H locs 0 0 Q (F0 m 4 ls [])) ?_ z _ hlp H locs ls hP hD hS (lv_sub hl [2, 3, 1, 0] rfl)
  intro sg og hbo hback hexit H locs ls hP hD hS hl
  refine kX4_mixtureOf_L4 C hbo (fun s' h => hback s' h) (fun ex h H locs ls hP hD hS hl => ?_) (fun rr h H locs ls pc hP hD hS hdg => ?_) hP hD hS hl
  · have he := hexit _ h
    subst he
    simp only [Sum.elim_inl] at hf
    exact kX4_mixtureOf_J53 C hf hrt hP hD hS (lv_sub hl [0] rfl)
  · have he := hexit _ h
    subst he
    simp only [Sum.elim_inr] at hf
    have ho := Option.some.inj hf
    subst ho
    exact hrt H locs ls pc hP hD hS hdg
set_option maxHeartbeats 4000000 in
set_option maxRecDepth 100000 in
theorem mX4_mixtureOf (l : Launch) (D : va_G) (cI cJ : ClassId) (sz : Nat) {z : Nat} {x0 : Int32} {x1 : Int32} {o : Int32} (hf : fX4_mixtureOf z x0 x1 = some o) : Met l yX4_mixtureOf wsX4_mixtureOf rX4_mixtureOf (va_Pc [.int x0, .int x1] (kP D cI cJ (uX4_mixtureOf cI cJ) sz)) (va_Qi (fun r' (_ : Unit) => r' = o) (fun _ t => kB D (va_A (uX4_mixtureOf cI cJ) sz) (uX4_mixtureOf cI cJ) t) (va_A (uX4_mixtureOf cI cJ) sz)) 0 0 (va_A (uX4_mixtureOf cI cJ) sz) :=
  met_i (by decide) rfl (Nat.le_of_ble_eq_true rfl) (fun p e s m below meth c A Q C hrt ls hl hP hD hS => kX4_mixtureOf_0 (A := A) C hf hrt hP hD hS hl)

