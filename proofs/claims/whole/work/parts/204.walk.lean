/-! ===== FrogsOnRing$Chance.play(III)V ===== -/
abbrev uX0_play (cI cJ : ClassId) (a_this : Nat) (a_pond : Nat) (a_moves : Nat) (a_numbering : Nat) (a_search : Nat) (a_evens : Nat) (a_odds : Nat) (i_playedOrder : Int32) (i_playedMoves : Int32) (i_playedSeed : Int32) (a_moves_targets : Nat) (g_moves_targets : Nat → Int32) (a_pond_behinds : Nat) (a_pond_depths : Nat) (i_pond_size : Int32) (i_pond_isRing : Int32) (i_pond_overOthers : Int32) (i_pond_longestLeap : Int32) (g_pond_behinds : Nat → Int32) : va_W := [(a_this, .inr (0, [.ref a_pond, .ref a_moves, .ref a_numbering, .ref a_search, .ref a_evens, .ref a_odds, .int i_playedOrder, .int i_playedMoves, .int i_playedSeed])), (a_moves, .inr (3, [.ref a_pond, .ref a_moves_targets])), (a_moves_targets, .inl (cI, 9, .inl g_moves_targets)), (a_pond, .inr (6, [.ref a_pond_behinds, .ref a_pond_depths, .int i_pond_size, .int i_pond_isRing, .int i_pond_overOthers, .int i_pond_longestLeap])), (a_pond_behinds, .inl (cI, 9, .inl g_pond_behinds))]
def rX0_play : Room := { frames := 3, cells := 0, slots := 0, locals := 71 }
theorem hdX0_play : yX0_play.cls = RX0 ∧ yX0_play.cls ≠ "java/lang/invoke/MethodHandle" ∧ yX0_play.cls ≠ "java/lang/invoke/VarHandle" ∧ (parseMethodDescriptor yX0_play.desc).map (fun d => d.parameters.length) = some 3 := by decide +kernel
set_option maxRecDepth 20000 in
theorem jX0_play_X0 : ∀ w ∈ u_ws RX0 TX0 9, w ∈ wsX0_play := by decide +kernel
set_option maxRecDepth 20000 in
theorem qX0_play_100 : Cond.constant RX0 100 (65536) ∈ wsX0_play := by decide +kernel
set_option maxRecDepth 20000 in
theorem qX0_play_22 : Cond.fieldLink RX0 22 "FrogsOnRing$Chance" "moves" "LFrogsOnRing$Moves;" ∈ wsX0_play := by decide +kernel
set_option maxRecDepth 20000 in
theorem qX0_play_88 : Cond.fieldLink RX0 88 "FrogsOnRing$Chance" "playedOrder" "I" ∈ wsX0_play := by decide +kernel
set_option maxRecDepth 20000 in
theorem qX0_play_91 : Cond.fieldLink RX0 91 "FrogsOnRing$Chance" "playedMoves" "I" ∈ wsX0_play := by decide +kernel
set_option maxRecDepth 20000 in
theorem qX0_play_94 : Cond.fieldLink RX0 94 "FrogsOnRing$Chance" "playedSeed" "I" ∈ wsX0_play := by decide +kernel
set_option maxRecDepth 20000 in
theorem qX0_play_iX9_frogsOf : Cond.initialized yX9_frogsOf.cls ∈ wsX0_play := by decide +kernel
set_option maxRecDepth 20000 in
theorem qX0_play_sX9_frogsOf : Cond.static yX9_frogsOf ∈ wsX0_play := by decide +kernel
set_option maxHeartbeats 4000000 in
set_option maxRecDepth 100000 in
theorem kX0_play_L24 {p : Program} {l : Launch} {e : Env} {s : State} {m : MethodId} {args : Array Value} {below : List Frame} {meth : Method} {c : Code} {Q : State → Prop} {A : Nat → Prop} {D : va_G} {cI cJ : ClassId} (C : bC cX0_play 7 RX0 wsX0_play D cI cJ p s m args c meth A)
    {a_this : Nat} {a_pond : Nat} {a_moves : Nat} {a_numbering : Nat} {a_search : Nat} {a_evens : Nat} {a_odds : Nat} {i_playedOrder : Int32} {i_playedMoves : Int32} {i_playedSeed : Int32} {a_moves_targets : Nat} {g_moves_targets : Nat → Int32} {a_pond_behinds : Nat} {a_pond_depths : Nat} {i_pond_size : Int32} {i_pond_isRing : Int32} {i_pond_overOthers : Int32} {i_pond_longestLeap : Int32} {g_pond_behinds : Nat → Int32} {z : Nat} {x2 : Int32} {x4 : Int32} {x5 : Int32} {o : (Int32 × Int32 × Int32 × Int32 × (Nat → Int32)) ⊕ (Int32 × Int32 × Int32 × (Nat → Int32))} (hf : fX0_play_L24 z x2 x4 x5 i_playedSeed i_playedOrder g_moves_targets i_pond_size i_pond_longestLeap g_pond_behinds i_pond_overOthers i_playedMoves = some o)
    (hbk : ∀ s', o = .inl s' → ∀ (H : Heap) (locs : List Loc) (ls : Array Slot), va_P D vwCl (uX0_play cI cJ a_this a_pond a_moves a_numbering a_search a_evens a_odds s'.2.1 s'.2.2.1 s'.2.2.2.1 a_moves_targets s'.2.2.2.2 a_pond_behinds a_pond_depths i_pond_size i_pond_isRing i_pond_overOthers i_pond_longestLeap g_pond_behinds) H → va_D A (uX0_play cI cJ a_this a_pond a_moves a_numbering a_search a_evens a_odds s'.2.1 s'.2.2.1 s'.2.2.2.1 a_moves_targets s'.2.2.2.2 a_pond_behinds a_pond_depths i_pond_size i_pond_isRing i_pond_overOthers i_pond_longestLeap g_pond_behinds) → va_S A s.heap H locs → lv_has ls 7 [(0, .ref a_this), (2, .int x2), (4, .int x4), (5, .int s'.1)] → W p l e rX0_play s m args below meth c H locs 0 0 Q (F0 m 24 ls []))
    (hex : ∀ e', o = .inr e' → ∀ (H : Heap) (locs : List Loc) (ls : Array Slot), va_P D vwCl (uX0_play cI cJ a_this a_pond a_moves a_numbering a_search a_evens a_odds e'.1 e'.2.1 e'.2.2.1 a_moves_targets e'.2.2.2 a_pond_behinds a_pond_depths i_pond_size i_pond_isRing i_pond_overOthers i_pond_longestLeap g_pond_behinds) H → va_D A (uX0_play cI cJ a_this a_pond a_moves a_numbering a_search a_evens a_odds e'.1 e'.2.1 e'.2.2.1 a_moves_targets e'.2.2.2 a_pond_behinds a_pond_depths i_pond_size i_pond_isRing i_pond_overOthers i_pond_longestLeap g_pond_behinds) → va_S A s.heap H locs → lv_has ls 7 [] → W p l e rX0_play s m args below meth c H locs 0 0 Q (F0 m 121 ls []))
    {H : Heap} {locs : List Loc} {ls : Array Slot} (hP : va_P D vwCl (uX0_play cI cJ a_this a_pond a_moves a_numbering a_search a_evens a_odds i_playedOrder i_playedMoves i_playedSeed a_moves_targets g_moves_targets a_pond_behinds a_pond_depths i_pond_size i_pond_isRing i_pond_overOthers i_pond_longestLeap g_pond_behinds) H) (hD : va_D A (uX0_play cI cJ a_this a_pond a_moves a_numbering a_search a_evens a_odds i_playedOrder i_playedMoves i_playedSeed a_moves_targets g_moves_targets a_pond_behinds a_pond_depths i_pond_size i_pond_isRing i_pond_overOthers i_pond_longestLeap g_pond_behinds)) (hS : va_S A s.heap H locs) (hl : lv_has ls 7 [(0, .ref a_this), (2, .int x2), (4, .int x4), (5, .int x5)]) : W p l e rX0_play s m args below meth c H locs 0 0 Q (F0 m 24 ls []) := by
  obtain ⟨hx, hb, hml, hown, hts, hK, hN, hA, hlocks⟩ := id C
  unfold fX0_play_L24 at hf
  refine lv_iload hx hb dX0_play_24 (lv_at hl 3 rfl) ?_
  refine lv_iload_n hx hb dX0_play_26 rfl (lv_at hl 1 rfl) ?_
  refine lv_icmp_ge (tgt := 121) hx hb dX0_play_27 (by decide) (fun hc => ?_) (fun hc => ?_)
  · have hf := if_yes hc hf
    have ho := Option.some.inj hf
    subst ho
    exact hex _ rfl _ _ _ hP hD hS (lv_sub hl [] rfl)
  · have hf := if_no hc hf
    refine lv_iload hx hb dX0_play_30 (lv_at hl 2 rfl) ?_
    refine lv_if_le (tgt := 121) hx hb dX0_play_32 (by decide) (fun hc => ?_) (fun hc => ?_)
    · have hf := if_yes hc hf
      have ho := Option.some.inj hf
      subst ho
      exact hex _ rfl _ _ _ hP hD hS (lv_sub hl [] rfl)
    · have hf := if_no hc hf
      refine lv_aload_n hx hb dX0_play_35 rfl (lv_at hl 0 rfl) ?_
      refine lv_aload_n hx hb dX0_play_36 rfl (lv_at hl 0 rfl) ?_
      refine va_get (D := D) (ci := 0) (v := .int i_playedSeed) (C := RX0) (T := TX0) (N := 9) hx hb hts jX0_play_X0 hown hK hP 0 rfl rfl 8 (by decide) (hts _ qX0_play_94) (fun _ h9 => h9) rfl dX0_play_37 ?_
      refine cl_i (wc := (uX0_nextSeed cI cJ)) (w1 := (uX0_nextSeed cI cJ)) (rn_S (As := [.int i_playedSeed]) (rest := [.ref a_this]) (wc := (uX0_nextSeed cI cJ)) C hP hD [] rfl rfl (mX0_nextSeed l D cI cJ H.size) 1 gX0_play_X0_nextSeed rfl ⟨rfl, rfl, Nat.le_of_ble_eq_true rfl, Nat.le_of_ble_eq_true rfl⟩ hdX0_nextSeed.2 rfl hl.1 rfl (Nat.le_of_ble_eq_true rfl) dX0_play_40) hP hD hS hA [] rfl rfl (fun H locs hP hD hS => ?_)
      have hP : va_P D vwCl (uX0_play cI cJ a_this a_pond a_moves a_numbering a_search a_evens a_odds i_playedOrder i_playedMoves i_playedSeed a_moves_targets g_moves_targets a_pond_behinds a_pond_depths i_pond_size i_pond_isRing i_pond_overOthers i_pond_longestLeap g_pond_behinds) H := hP
      have hD : va_D A (uX0_play cI cJ a_this a_pond a_moves a_numbering a_search a_evens a_odds i_playedOrder i_playedMoves i_playedSeed a_moves_targets g_moves_targets a_pond_behinds a_pond_depths i_pond_size i_pond_isRing i_pond_overOthers i_pond_longestLeap g_pond_behinds) := hD
      refine va_put (D := D) (ci := 0) (v := .int (fX0_nextSeed i_playedSeed)) (ty := tyX0 8) (C := RX0) (T := TX0) (N := 9) hx hb hts jX0_play_X0 tyX0 tyX0_ok nmX0 hown hK hP hD hS 0 rfl rfl 8 (by decide) (hts _ qX0_play_94) (fun _ h9 => h9) rfl (tyX0_ok 8 (by decide)) rfl rfl (Nat.le_of_ble_eq_true rfl) dX0_play_43 (fun H locs hP hD hS => ?_)
      have hP : va_P D vwCl (uX0_play cI cJ a_this a_pond a_moves a_numbering a_search a_evens a_odds i_playedOrder i_playedMoves (fX0_nextSeed i_playedSeed) a_moves_targets g_moves_targets a_pond_behinds a_pond_depths i_pond_size i_pond_isRing i_pond_overOthers i_pond_longestLeap g_pond_behinds) H := hP
      have hD : va_D A (uX0_play cI cJ a_this a_pond a_moves a_numbering a_search a_evens a_odds i_playedOrder i_playedMoves (fX0_nextSeed i_playedSeed) a_moves_targets g_moves_targets a_pond_behinds a_pond_depths i_pond_size i_pond_isRing i_pond_overOthers i_pond_longestLeap g_pond_behinds) := hD
      refine lv_aload_n hx hb dX0_play_46 rfl (lv_at hl 0 rfl) ?_
      refine va_get (D := D) (ci := 0) (v := .int i_playedOrder) (C := RX0) (T := TX0) (N := 9) hx hb hts jX0_play_X0 hown hK hP 0 rfl rfl 6 (by decide) (hts _ qX0_play_88) (fun _ h9 => h9) rfl dX0_play_47 ?_
      refine lv_aload_n hx hb dX0_play_50 rfl (lv_at hl 0 rfl) ?_
      refine va_get (D := D) (ci := 0) (v := .int (fX0_nextSeed i_playedSeed)) (C := RX0) (T := TX0) (N := 9) hx hb hts jX0_play_X0 hown hK hP 0 rfl rfl 8 (by decide) (hts _ qX0_play_94) (fun _ h9 => h9) rfl dX0_play_51 ?_
      refine lv_ldc hx hb hown (hts _ qX0_play_100) dX0_play_54 ?_
      refine lv_idiv hx hb dX0_play_56 (by decide) ?_
      refine lv_iload hx hb dX0_play_57 (lv_at hl 2 rfl) ?_
      obtain ⟨hne, hf⟩ := dgd_some hf
      refine lw_irem hx hb dX0_play_59 hne ?_
      obtain ⟨q2, hq, hf⟩ := ob_some hf
      refine cl_i (wc := (uX0_stoneOfFrog cI cJ)) (w1 := (uX0_stoneOfFrog cI cJ)) (rn_S (As := [.int i_playedOrder, .int (i_rem ((fX0_nextSeed i_playedSeed) / 65536) x4)]) (rest := []) (wc := (uX0_stoneOfFrog cI cJ)) C hP hD [] rfl rfl (mX0_stoneOfFrog l D cI cJ H.size hq) 2 gX0_play_X0_stoneOfFrog rfl ⟨rfl, rfl, Nat.le_of_ble_eq_true rfl, Nat.le_of_ble_eq_true rfl⟩ hdX0_stoneOfFrog.2 rfl hl.1 rfl (Nat.le_of_ble_eq_true rfl) dX0_play_60) hP hD hS hA [] rfl rfl (fun H locs hP hD hS => ?_)
      have hP : va_P D vwCl (uX0_play cI cJ a_this a_pond a_moves a_numbering a_search a_evens a_odds i_playedOrder i_playedMoves (fX0_nextSeed i_playedSeed) a_moves_targets g_moves_targets a_pond_behinds a_pond_depths i_pond_size i_pond_isRing i_pond_overOthers i_pond_longestLeap g_pond_behinds) H := hP
      have hD : va_D A (uX0_play cI cJ a_this a_pond a_moves a_numbering a_search a_evens a_odds i_playedOrder i_playedMoves (fX0_nextSeed i_playedSeed) a_moves_targets g_moves_targets a_pond_behinds a_pond_depths i_pond_size i_pond_isRing i_pond_overOthers i_pond_longestLeap g_pond_behinds) := hD
      refine lv_istore (lv' := [(6, .int q2), (0, .ref a_this), (2, .int x2), (4, .int x4), (5, .int x5)]) hx hb dX0_play_63 hl (by decide) rfl (fun ls hl => ?_)
      refine lv_aload_n hx hb dX0_play_65 rfl (lv_at hl 1 rfl) ?_
      refine va_get (D := D) (ci := 0) (v := .ref a_moves) (C := RX0) (T := TX0) (N := 9) hx hb hts jX0_play_X0 hown hK hP 0 rfl rfl 1 (by decide) (hts _ qX0_play_22) (fun _ h9 => h9) rfl dX0_play_66 ?_
      refine lv_aload_n hx hb dX0_play_69 rfl (lv_at hl 1 rfl) ?_
      refine va_get (D := D) (ci := 0) (v := .int i_playedOrder) (C := RX0) (T := TX0) (N := 9) hx hb hts jX0_play_X0 hown hK hP 0 rfl rfl 6 (by decide) (hts _ qX0_play_88) (fun _ h9 => h9) rfl dX0_play_70 ?_
      obtain ⟨q3, hq, hf⟩ := ob_some hf
      refine cl_v (wc := (uX3_find cI cJ a_moves a_pond a_moves_targets g_moves_targets a_pond_behinds a_pond_depths i_pond_size i_pond_isRing i_pond_overOthers i_pond_longestLeap g_pond_behinds)) (w1 := (uX3_find cI cJ a_moves a_pond a_moves_targets q3 a_pond_behinds a_pond_depths i_pond_size i_pond_isRing i_pond_overOthers i_pond_longestLeap g_pond_behinds)) (rn_V (As := [.int i_playedOrder]) (b := a_moves) (rest := []) (wc := (uX3_find cI cJ a_moves a_pond a_moves_targets g_moves_targets a_pond_behinds a_pond_depths i_pond_size i_pond_isRing i_pond_overOthers i_pond_longestLeap g_pond_behinds)) (ci := 3) (q0 := 1) C hP hD [1, 2, 3, 4] rfl rfl rfl rfl (mX3_find l D cI cJ H.size hq) 1 gX0_play_X3_find rfl ⟨rfl, rfl, Nat.le_of_ble_eq_true rfl, Nat.le_of_ble_eq_true rfl⟩ hdX3_find rfl hl.1 rfl (Nat.le_of_ble_eq_true rfl) dX0_play_73) hP hD hS hA [1, 2, 3, 4] rfl rfl (fun H locs hP hD hS => ?_)
      have hP : va_P D vwCl (uX0_play cI cJ a_this a_pond a_moves a_numbering a_search a_evens a_odds i_playedOrder i_playedMoves (fX0_nextSeed i_playedSeed) a_moves_targets q3 a_pond_behinds a_pond_depths i_pond_size i_pond_isRing i_pond_overOthers i_pond_longestLeap g_pond_behinds) H := hP
      have hD : va_D A (uX0_play cI cJ a_this a_pond a_moves a_numbering a_search a_evens a_odds i_playedOrder i_playedMoves (fX0_nextSeed i_playedSeed) a_moves_targets q3 a_pond_behinds a_pond_depths i_pond_size i_pond_isRing i_pond_overOthers i_pond_longestLeap g_pond_behinds) := hD
      refine lv_aload_n hx hb dX0_play_76 rfl (lv_at hl 1 rfl) ?_
      refine va_get (D := D) (ci := 0) (v := .ref a_moves) (C := RX0) (T := TX0) (N := 9) hx hb hts jX0_play_X0 hown hK hP 0 rfl rfl 1 (by decide) (hts _ qX0_play_22) (fun _ h9 => h9) rfl dX0_play_77 ?_
      refine lv_iload hx hb dX0_play_80 (lv_at hl 0 rfl) ?_
      obtain ⟨q4, hq, hf⟩ := ob_some hf
      refine cl_i (wc := (uX3_targetsOf cI cJ a_moves a_pond a_moves_targets q3)) (w1 := (uX3_targetsOf cI cJ a_moves a_pond a_moves_targets q3)) (rn_V (As := [.int q2]) (b := a_moves) (rest := []) (wc := (uX3_targetsOf cI cJ a_moves a_pond a_moves_targets q3)) (ci := 3) (q0 := 1) C hP hD [1, 2] rfl rfl rfl rfl (mX3_targetsOf l D cI cJ H.size hq) 1 gX0_play_X3_targetsOf rfl ⟨rfl, rfl, Nat.le_of_ble_eq_true rfl, Nat.le_of_ble_eq_true rfl⟩ hdX3_targetsOf rfl hl.1 rfl (Nat.le_of_ble_eq_true rfl) dX0_play_82) hP hD hS hA [1, 2] rfl rfl (fun H locs hP hD hS => ?_)
      have hP : va_P D vwCl (uX0_play cI cJ a_this a_pond a_moves a_numbering a_search a_evens a_odds i_playedOrder i_playedMoves (fX0_nextSeed i_playedSeed) a_moves_targets q3 a_pond_behinds a_pond_depths i_pond_size i_pond_isRing i_pond_overOthers i_pond_longestLeap g_pond_behinds) H := hP
      have hD : va_D A (uX0_play cI cJ a_this a_pond a_moves a_numbering a_search a_evens a_odds i_playedOrder i_playedMoves (fX0_nextSeed i_playedSeed) a_moves_targets q3 a_pond_behinds a_pond_depths i_pond_size i_pond_isRing i_pond_overOthers i_pond_longestLeap g_pond_behinds) := hD
      refine lv_if_eq (tgt := 115) hx hb dX0_play_85 (by decide) (fun hc => ?_) (fun hc => ?_)
      · have hf := if_yes hc hf
        refine lv_iinc (v := (x5 + 1)) (lv' := [(5, .int (x5 + 1)), (6, .int q2), (0, .ref a_this), (2, .int x2), (4, .int x4)]) hx hb dX0_play_115 hl (k := 4) rfl rfl (by decide) rfl (fun ls hl => ?_)
        refine lv_goto (tgt := 24) hx hb dX0_play_118 (by decide) ?_
        have ho := Option.some.inj hf
        subst ho
        exact hbk _ rfl _ _ _ hP hD hS (lv_sub hl [2, 3, 4, 0] rfl)
      · have hf := if_no hc hf
        refine lv_aload_n hx hb dX0_play_88 rfl (lv_at hl 1 rfl) ?_
        refine lv_aload_n hx hb dX0_play_89 rfl (lv_at hl 1 rfl) ?_
        refine va_get (D := D) (ci := 0) (v := .ref a_moves) (C := RX0) (T := TX0) (N := 9) hx hb hts jX0_play_X0 hown hK hP 0 rfl rfl 1 (by decide) (hts _ qX0_play_22) (fun _ h9 => h9) rfl dX0_play_90 ?_
        refine lv_aload_n hx hb dX0_play_93 rfl (lv_at hl 1 rfl) ?_
        refine va_get (D := D) (ci := 0) (v := .int i_playedOrder) (C := RX0) (T := TX0) (N := 9) hx hb hts jX0_play_X0 hown hK hP 0 rfl rfl 6 (by decide) (hts _ qX0_play_88) (fun _ h9 => h9) rfl dX0_play_94 ?_
        refine lv_iload hx hb dX0_play_97 (lv_at hl 0 rfl) ?_
        obtain ⟨q5, hq, hf⟩ := ob_some hf
        refine cl_i (wc := (uX3_afterLeastOf cI cJ a_moves a_pond a_moves_targets a_pond_behinds a_pond_depths i_pond_size i_pond_isRing i_pond_overOthers i_pond_longestLeap q3)) (w1 := (uX3_afterLeastOf cI cJ a_moves a_pond a_moves_targets a_pond_behinds a_pond_depths i_pond_size i_pond_isRing i_pond_overOthers i_pond_longestLeap q3)) (rn_V (As := [.int i_playedOrder, .int q2]) (b := a_moves) (rest := [.ref a_this]) (wc := (uX3_afterLeastOf cI cJ a_moves a_pond a_moves_targets a_pond_behinds a_pond_depths i_pond_size i_pond_isRing i_pond_overOthers i_pond_longestLeap q3)) (ci := 3) (q0 := 1) C hP hD [1, 3, 2] rfl rfl rfl rfl (mX3_afterLeastOf l D cI cJ H.size hq) 2 gX0_play_X3_afterLeastOf rfl ⟨rfl, rfl, Nat.le_of_ble_eq_true rfl, Nat.le_of_ble_eq_true rfl⟩ hdX3_afterLeastOf rfl hl.1 rfl (Nat.le_of_ble_eq_true rfl) dX0_play_99) hP hD hS hA [1, 3, 2] rfl rfl (fun H locs hP hD hS => ?_)
        have hP : va_P D vwCl (uX0_play cI cJ a_this a_pond a_moves a_numbering a_search a_evens a_odds i_playedOrder i_playedMoves (fX0_nextSeed i_playedSeed) a_moves_targets q3 a_pond_behinds a_pond_depths i_pond_size i_pond_isRing i_pond_overOthers i_pond_longestLeap g_pond_behinds) H := hP
        have hD : va_D A (uX0_play cI cJ a_this a_pond a_moves a_numbering a_search a_evens a_odds i_playedOrder i_playedMoves (fX0_nextSeed i_playedSeed) a_moves_targets q3 a_pond_behinds a_pond_depths i_pond_size i_pond_isRing i_pond_overOthers i_pond_longestLeap g_pond_behinds) := hD
        refine va_put (D := D) (ci := 0) (v := .int q5) (ty := tyX0 6) (C := RX0) (T := TX0) (N := 9) hx hb hts jX0_play_X0 tyX0 tyX0_ok nmX0 hown hK hP hD hS 0 rfl rfl 6 (by decide) (hts _ qX0_play_88) (fun _ h9 => h9) rfl (tyX0_ok 6 (by decide)) rfl rfl (Nat.le_of_ble_eq_true rfl) dX0_play_102 (fun H locs hP hD hS => ?_)
        have hP : va_P D vwCl (uX0_play cI cJ a_this a_pond a_moves a_numbering a_search a_evens a_odds q5 i_playedMoves (fX0_nextSeed i_playedSeed) a_moves_targets q3 a_pond_behinds a_pond_depths i_pond_size i_pond_isRing i_pond_overOthers i_pond_longestLeap g_pond_behinds) H := hP
        have hD : va_D A (uX0_play cI cJ a_this a_pond a_moves a_numbering a_search a_evens a_odds q5 i_playedMoves (fX0_nextSeed i_playedSeed) a_moves_targets q3 a_pond_behinds a_pond_depths i_pond_size i_pond_isRing i_pond_overOthers i_pond_longestLeap g_pond_behinds) := hD
        refine lv_aload_n hx hb dX0_play_105 rfl (lv_at hl 1 rfl) ?_
        refine lv_dup hx hb dX0_play_106 rfl ?_
        refine va_get (D := D) (ci := 0) (v := .int i_playedMoves) (C := RX0) (T := TX0) (N := 9) hx hb hts jX0_play_X0 hown hK hP 0 rfl rfl 7 (by decide) (hts _ qX0_play_91) (fun _ h9 => h9) rfl dX0_play_107 ?_
        refine lv_iconst (v := 1) hx hb dX0_play_110 (by decide) ?_
        refine lv_iadd hx hb dX0_play_111 ?_
        refine va_put (D := D) (ci := 0) (v := .int (i_playedMoves + 1)) (ty := tyX0 7) (C := RX0) (T := TX0) (N := 9) hx hb hts jX0_play_X0 tyX0 tyX0_ok nmX0 hown hK hP hD hS 0 rfl rfl 7 (by decide) (hts _ qX0_play_91) (fun _ h9 => h9) rfl (tyX0_ok 7 (by decide)) rfl rfl (Nat.le_of_ble_eq_true rfl) dX0_play_112 (fun H locs hP hD hS => ?_)
        have hP : va_P D vwCl (uX0_play cI cJ a_this a_pond a_moves a_numbering a_search a_evens a_odds q5 (i_playedMoves + 1) (fX0_nextSeed i_playedSeed) a_moves_targets q3 a_pond_behinds a_pond_depths i_pond_size i_pond_isRing i_pond_overOthers i_pond_longestLeap g_pond_behinds) H := hP
        have hD : va_D A (uX0_play cI cJ a_this a_pond a_moves a_numbering a_search a_evens a_odds q5 (i_playedMoves + 1) (fX0_nextSeed i_playedSeed) a_moves_targets q3 a_pond_behinds a_pond_depths i_pond_size i_pond_isRing i_pond_overOthers i_pond_longestLeap g_pond_behinds) := hD
        refine lv_iinc (v := (x5 + 1)) (lv' := [(5, .int (x5 + 1)), (6, .int q2), (0, .ref a_this), (2, .int x2), (4, .int x4)]) hx hb dX0_play_115 hl (k := 4) rfl rfl (by decide) rfl (fun ls hl => ?_)
        refine lv_goto (tgt := 24) hx hb dX0_play_118 (by decide) ?_
        have ho := Option.some.inj hf
        subst ho
        exact hbk _ rfl _ _ _ hP hD hS (lv_sub hl [2, 3, 4, 0] rfl)
set_option maxHeartbeats 4000000 in
set_option maxRecDepth 100000 in
theorem kX0_play_J121 {p : Program} {l : Launch} {e : Env} {s : State} {m : MethodId} {args : Array Value} {below : List Frame} {meth : Method} {c : Code} {Q : State → Prop} {A : Nat → Prop} {D : va_G} {cI cJ : ClassId} (C : bC cX0_play 7 RX0 wsX0_play D cI cJ p s m args c meth A)
    {a_this : Nat} {a_pond : Nat} {a_moves : Nat} {a_numbering : Nat} {a_search : Nat} {a_evens : Nat} {a_odds : Nat} {i_playedOrder : Int32} {i_playedMoves : Int32} {i_playedSeed : Int32} {a_moves_targets : Nat} {g_moves_targets : Nat → Int32} {a_pond_behinds : Nat} {a_pond_depths : Nat} {i_pond_size : Int32} {i_pond_isRing : Int32} {i_pond_overOthers : Int32} {i_pond_longestLeap : Int32} {g_pond_behinds : Nat → Int32} {z : Nat} {o : Int32 × Int32 × Int32 × (Nat → Int32)} (hf : fX0_play_J121 z i_playedSeed i_playedOrder g_moves_targets i_pond_size i_pond_longestLeap g_pond_behinds i_pond_overOthers i_playedMoves = some o)
    (hrt : ∀ (H : Heap) (locs : List Loc) (ls : Array Slot) (pc : Nat), va_P D vwCl (uX0_play cI cJ a_this a_pond a_moves a_numbering a_search a_evens a_odds o.1 o.2.1 o.2.2.1 a_moves_targets o.2.2.2 a_pond_behinds a_pond_depths i_pond_size i_pond_isRing i_pond_overOthers i_pond_longestLeap g_pond_behinds) H → va_D A (uX0_play cI cJ a_this a_pond a_moves a_numbering a_search a_evens a_odds o.1 o.2.1 o.2.2.1 a_moves_targets o.2.2.2 a_pond_behinds a_pond_depths i_pond_size i_pond_isRing i_pond_overOthers i_pond_longestLeap g_pond_behinds) → va_S A s.heap H locs → decode cX0_play pc = .ok (.return_, 1) → W p l e rX0_play s m args below meth c H locs 0 0 Q (F0 m pc ls []))
    {H : Heap} {locs : List Loc} {ls : Array Slot} (hP : va_P D vwCl (uX0_play cI cJ a_this a_pond a_moves a_numbering a_search a_evens a_odds i_playedOrder i_playedMoves i_playedSeed a_moves_targets g_moves_targets a_pond_behinds a_pond_depths i_pond_size i_pond_isRing i_pond_overOthers i_pond_longestLeap g_pond_behinds) H) (hD : va_D A (uX0_play cI cJ a_this a_pond a_moves a_numbering a_search a_evens a_odds i_playedOrder i_playedMoves i_playedSeed a_moves_targets g_moves_targets a_pond_behinds a_pond_depths i_pond_size i_pond_isRing i_pond_overOthers i_pond_longestLeap g_pond_behinds)) (hS : va_S A s.heap H locs) (hl : lv_has ls 7 []) : W p l e rX0_play s m args below meth c H locs 0 0 Q (F0 m 121 ls []) := by
  obtain ⟨hx, hb, hml, hown, hts, hK, hN, hA, hlocks⟩ := id C
  unfold fX0_play_J121 at hf
  have ho := Option.some.inj hf
  subst ho
  exact hrt H locs ls _ hP hD hS dX0_play_121
set_option maxHeartbeats 4000000 in
set_option maxRecDepth 100000 in
theorem kX0_play_0 {p : Program} {l : Launch} {e : Env} {s : State} {m : MethodId} {args : Array Value} {below : List Frame} {meth : Method} {c : Code} {Q : State → Prop} {A : Nat → Prop} {D : va_G} {cI cJ : ClassId} (C : bC cX0_play 7 RX0 wsX0_play D cI cJ p s m args c meth A)
    {a_this : Nat} {a_pond : Nat} {a_moves : Nat} {a_numbering : Nat} {a_search : Nat} {a_evens : Nat} {a_odds : Nat} {i_playedOrder : Int32} {i_playedMoves : Int32} {i_playedSeed : Int32} {a_moves_targets : Nat} {g_moves_targets : Nat → Int32} {a_pond_behinds : Nat} {a_pond_depths : Nat} {i_pond_size : Int32} {i_pond_isRing : Int32} {i_pond_overOthers : Int32} {i_pond_longestLeap : Int32} {g_pond_behinds : Nat → Int32} {z : Nat} {x1 : Int32} {x2 : Int32} {x3 : Int32} {o : Int32 × Int32 × Int32 × (Nat → Int32)} (hf : fX0_play z x1 x2 x3 i_playedSeed i_playedOrder g_moves_targets i_pond_size i_pond_longestLeap g_pond_behinds i_pond_overOthers i_playedMoves = some o)
    (hrt : ∀ (H : Heap) (locs : List Loc) (ls : Array Slot) (pc : Nat), va_P D vwCl (uX0_play cI cJ a_this a_pond a_moves a_numbering a_search a_evens a_odds o.1 o.2.1 o.2.2.1 a_moves_targets o.2.2.2 a_pond_behinds a_pond_depths i_pond_size i_pond_isRing i_pond_overOthers i_pond_longestLeap g_pond_behinds) H → va_D A (uX0_play cI cJ a_this a_pond a_moves a_numbering a_search a_evens a_odds o.1 o.2.1 o.2.2.1 a_moves_targets o.2.2.2 a_pond_behinds a_pond_depths i_pond_size i_pond_isRing i_pond_overOthers i_pond_longestLeap g_pond_behinds) → va_S A s.heap H locs → decode cX0_play pc = .ok (.return_, 1) → W p l e rX0_play s m args below meth c H locs 0 0 Q (F0 m pc ls []))
    {H : Heap} {locs : List Loc} {ls : Array Slot} (hP : va_P D vwCl (uX0_play cI cJ a_this a_pond a_moves a_numbering a_search a_evens a_odds i_playedOrder i_playedMoves i_playedSeed a_moves_targets g_moves_targets a_pond_behinds a_pond_depths i_pond_size i_pond_isRing i_pond_overOthers i_pond_longestLeap g_pond_behinds) H) (hD : va_D A (uX0_play cI cJ a_this a_pond a_moves a_numbering a_search a_evens a_odds i_playedOrder i_playedMoves i_playedSeed a_moves_targets g_moves_targets a_pond_behinds a_pond_depths i_pond_size i_pond_isRing i_pond_overOthers i_pond_longestLeap g_pond_behinds)) (hS : va_S A s.heap H locs) (hl : lv_has ls 7 [(0, .ref a_this), (1, .int x1), (2, .int x2), (3, .int x3)]) : W p l e rX0_play s m args below meth c H locs 0 0 Q (F0 m 0 ls []) := by
  obtain ⟨hx, hb, hml, hown, hts, hK, hN, hA, hlocks⟩ := id C
  unfold fX0_play at hf
  refine lv_iload_n hx hb dX0_play_0 rfl (lv_at hl 1 rfl) ?_
  obtain ⟨q1, hq, hf⟩ := ob_some hf
  refine cl_i (wc := (uX9_frogsOf cI cJ)) (w1 := (uX9_frogsOf cI cJ)) (rn_N (As := [.int x1]) (rest := []) (wc := (uX9_frogsOf cI cJ)) C hP hD [] rfl rfl (mX9_frogsOf l D cI cJ H.size hq) 1 gX0_play_X9_frogsOf_n85 qX0_play_iX9_frogsOf qX0_play_sX9_frogsOf 19 rfl rfl ⟨rfl, rfl, Nat.le_of_ble_eq_true rfl, Nat.le_of_ble_eq_true rfl⟩ hdX9_frogsOf.2 rfl hl.1 rfl (Nat.le_of_ble_eq_true rfl) dX0_play_1) hP hD hS hA [] rfl rfl (fun H locs hP hD hS => ?_)
  have hP : va_P D vwCl (uX0_play cI cJ a_this a_pond a_moves a_numbering a_search a_evens a_odds i_playedOrder i_playedMoves i_playedSeed a_moves_targets g_moves_targets a_pond_behinds a_pond_depths i_pond_size i_pond_isRing i_pond_overOthers i_pond_longestLeap g_pond_behinds) H := hP
  have hD : va_D A (uX0_play cI cJ a_this a_pond a_moves a_numbering a_search a_evens a_odds i_playedOrder i_playedMoves i_playedSeed a_moves_targets g_moves_targets a_pond_behinds a_pond_depths i_pond_size i_pond_isRing i_pond_overOthers i_pond_longestLeap g_pond_behinds) := hD
  refine lv_istore (lv' := [(4, .int q1), (0, .ref a_this), (1, .int x1), (2, .int x2), (3, .int x3)]) hx hb dX0_play_4 hl (by decide) rfl (fun ls hl => ?_)
  refine lv_aload_n hx hb dX0_play_6 rfl (lv_at hl 1 rfl) ?_
  refine lv_iload_n hx hb dX0_play_7 rfl (lv_at hl 2 rfl) ?_
  refine va_put (D := D) (ci := 0) (v := .int x1) (ty := tyX0 6) (C := RX0) (T := TX0) (N := 9) hx hb hts jX0_play_X0 tyX0 tyX0_ok nmX0 hown hK hP hD hS 0 rfl rfl 6 (by decide) (hts _ qX0_play_88) (fun _ h9 => h9) rfl (tyX0_ok 6 (by decide)) rfl rfl (Nat.le_of_ble_eq_true rfl) dX0_play_8 (fun H locs hP hD hS => ?_)
  have hP : va_P D vwCl (uX0_play cI cJ a_this a_pond a_moves a_numbering a_search a_evens a_odds x1 i_playedMoves i_playedSeed a_moves_targets g_moves_targets a_pond_behinds a_pond_depths i_pond_size i_pond_isRing i_pond_overOthers i_pond_longestLeap g_pond_behinds) H := hP
  have hD : va_D A (uX0_play cI cJ a_this a_pond a_moves a_numbering a_search a_evens a_odds x1 i_playedMoves i_playedSeed a_moves_targets g_moves_targets a_pond_behinds a_pond_depths i_pond_size i_pond_isRing i_pond_overOthers i_pond_longestLeap g_pond_behinds) := hD
  refine lv_aload_n hx hb dX0_play_11 rfl (lv_at hl 1 rfl) ?_
  refine lv_iconst (v := 0) hx hb dX0_play_12 (by decide) ?_
  refine va_put (D := D) (ci := 0) (v := .int 0) (ty := tyX0 7) (C := RX0) (T := TX0) (N := 9) hx hb hts jX0_play_X0 tyX0 tyX0_ok nmX0 hown hK hP hD hS 0 rfl rfl 7 (by decide) (hts _ qX0_play_91) (fun _ h9 => h9) rfl (tyX0_ok 7 (by decide)) rfl rfl (Nat.le_of_ble_eq_true rfl) dX0_play_13 (fun H locs hP hD hS => ?_)
  have hP : va_P D vwCl (uX0_play cI cJ a_this a_pond a_moves a_numbering a_search a_evens a_odds x1 0 i_playedSeed a_moves_targets g_moves_targets a_pond_behinds a_pond_depths i_pond_size i_pond_isRing i_pond_overOthers i_pond_longestLeap g_pond_behinds) H := hP
  have hD : va_D A (uX0_play cI cJ a_this a_pond a_moves a_numbering a_search a_evens a_odds x1 0 i_playedSeed a_moves_targets g_moves_targets a_pond_behinds a_pond_depths i_pond_size i_pond_isRing i_pond_overOthers i_pond_longestLeap g_pond_behinds) := hD
  refine lv_aload_n hx hb dX0_play_16 rfl (lv_at hl 1 rfl) ?_
  refine lv_iload_n hx hb dX0_play_17 rfl (lv_at hl 4 rfl) ?_
  refine va_put (D := D) (ci := 0) (v := .int x3) (ty := tyX0 8) (C := RX0) (T := TX0) (N := 9) hx hb hts jX0_play_X0 tyX0 tyX0_ok nmX0 hown hK hP hD hS 0 rfl rfl 8 (by decide) (hts _ qX0_play_94) (fun _ h9 => h9) rfl (tyX0_ok 8 (by decide)) rfl rfl (Nat.le_of_ble_eq_true rfl) dX0_play_18 (fun H locs hP hD hS => ?_)
  have hP : va_P D vwCl (uX0_play cI cJ a_this a_pond a_moves a_numbering a_search a_evens a_odds x1 0 x3 a_moves_targets g_moves_targets a_pond_behinds a_pond_depths i_pond_size i_pond_isRing i_pond_overOthers i_pond_longestLeap g_pond_behinds) H := hP
  have hD : va_D A (uX0_play cI cJ a_this a_pond a_moves a_numbering a_search a_evens a_odds x1 0 x3 a_moves_targets g_moves_targets a_pond_behinds a_pond_depths i_pond_size i_pond_isRing i_pond_overOthers i_pond_longestLeap g_pond_behinds) := hD
  refine lv_iconst (v := 0) hx hb dX0_play_21 (by decide) ?_
  refine lv_istore (lv' := [(5, .int 0), (4, .int q1), (0, .ref a_this), (1, .int x1), (2, .int x2), (3, .int x3)]) hx hb dX0_play_22 hl (by decide) rfl (fun ls hl => ?_)
  obtain ⟨ex, hlp, hf⟩ := ob_some hf
  refine lp_ind (P := fun sg => ∀ (H : Heap) (locs : List Loc) (ls : Array Slot), va_P D vwCl (uX0_play cI cJ a_this a_pond a_moves a_numbering a_search a_evens a_odds sg.2.1 sg.2.2.1 sg.2.2.2.1 a_moves_targets sg.2.2.2.2 a_pond_behinds a_pond_depths i_pond_size i_pond_isRing i_pond_overOthers i_pond_longestLeap g_pond_behinds) H → va_D A (uX0_play cI cJ a_this a_pond a_moves a_numbering a_search a_evens a_odds sg.2.1 sg.2.2.1 sg.2.2.2.1 a_moves_targets sg.2.2.2.2 a_pond_behinds a_pond_depths i_pond_size i_pond_isRing i_pond_overOthers i_pond_longestLeap g_pond_behinds) → va_S A s.heap H locs → lv_has ls 7 [(0, .ref a_this), (2, .int x2), (4, .int q1), (5, .int sg.1)] → W p l e rX0_play s m args below meth c H locs 0 0 Q (F0 m 24 ls [])) ?_ z _ hlp H locs ls hP hD hS (lv_sub hl [2, 4, 1, 0] rfl)
  intro sg og hbo hback hexit H locs ls hP hD hS hl
  refine kX0_play_L24 C hbo (fun s' h => hback s' h) (fun ex h H locs ls hP hD hS hl => ?_) hP hD hS hl
  have he := hexit _ h
  subst he
  exact kX0_play_J121 C hf hrt hP hD hS (lv_sub hl [] rfl)
set_option maxHeartbeats 4000000 in
set_option maxRecDepth 100000 in
theorem mX0_play (l : Launch) (D : va_G) (cI cJ : ClassId) (sz : Nat) {a_this : Nat} {a_pond : Nat} {a_moves : Nat} {a_numbering : Nat} {a_search : Nat} {a_evens : Nat} {a_odds : Nat} {i_playedOrder : Int32} {i_playedMoves : Int32} {i_playedSeed : Int32} {a_moves_targets : Nat} {g_moves_targets : Nat → Int32} {a_pond_behinds : Nat} {a_pond_depths : Nat} {i_pond_size : Int32} {i_pond_isRing : Int32} {i_pond_overOthers : Int32} {i_pond_longestLeap : Int32} {g_pond_behinds : Nat → Int32} {z : Nat} {x1 : Int32} {x2 : Int32} {x3 : Int32} {o : Int32 × Int32 × Int32 × (Nat → Int32)} (hf : fX0_play z x1 x2 x3 i_playedSeed i_playedOrder g_moves_targets i_pond_size i_pond_longestLeap g_pond_behinds i_pond_overOthers i_playedMoves = some o) : Met l yX0_play wsX0_play rX0_play (va_Pc [.ref a_this, .int x1, .int x2, .int x3] (kP D cI cJ (uX0_play cI cJ a_this a_pond a_moves a_numbering a_search a_evens a_odds i_playedOrder i_playedMoves i_playedSeed a_moves_targets g_moves_targets a_pond_behinds a_pond_depths i_pond_size i_pond_isRing i_pond_overOthers i_pond_longestLeap g_pond_behinds) sz)) (va_Qv (fun (_ : Unit) => True) (fun _ t => kB D (va_A (uX0_play cI cJ a_this a_pond a_moves a_numbering a_search a_evens a_odds i_playedOrder i_playedMoves i_playedSeed a_moves_targets g_moves_targets a_pond_behinds a_pond_depths i_pond_size i_pond_isRing i_pond_overOthers i_pond_longestLeap g_pond_behinds) sz) (uX0_play cI cJ a_this a_pond a_moves a_numbering a_search a_evens a_odds o.1 o.2.1 o.2.2.1 a_moves_targets o.2.2.2 a_pond_behinds a_pond_depths i_pond_size i_pond_isRing i_pond_overOthers i_pond_longestLeap g_pond_behinds) t) (va_A (uX0_play cI cJ a_this a_pond a_moves a_numbering a_search a_evens a_odds i_playedOrder i_playedMoves i_playedSeed a_moves_targets g_moves_targets a_pond_behinds a_pond_depths i_pond_size i_pond_isRing i_pond_overOthers i_pond_longestLeap g_pond_behinds) sz)) 0 0 (va_A (uX0_play cI cJ a_this a_pond a_moves a_numbering a_search a_evens a_odds i_playedOrder i_playedMoves i_playedSeed a_moves_targets g_moves_targets a_pond_behinds a_pond_depths i_pond_size i_pond_isRing i_pond_overOthers i_pond_longestLeap g_pond_behinds) sz) :=
  met_v (by decide) rfl (Nat.le_of_ble_eq_true rfl) (fun p e s m below meth c A Q C hrt ls hl hP hD hS => kX0_play_0 (A := A) C hf hrt hP hD hS hl)

/-! ===== FrogsOnRing$Course.begin(I)V ===== -/
abbrev uX1_begin (cI cJ : ClassId) (a_this : Nat) (a_froms : Nat) (a_tos : Nat) (i_made : Int32) (i_order : Int32) : va_W := [(a_this, .inr (1, [.ref a_froms, .ref a_tos, .int i_made, .int i_order]))]
def rX1_begin : Room := { frames := 0, cells := 0, slots := 0, locals := 0 }
theorem hdX1_begin : yX1_begin.cls = RX1 ∧ yX1_begin.cls ≠ "java/lang/invoke/MethodHandle" ∧ yX1_begin.cls ≠ "java/lang/invoke/VarHandle" ∧ (parseMethodDescriptor yX1_begin.desc).map (fun d => d.parameters.length) = some 1 := by decide +kernel
set_option maxRecDepth 20000 in
theorem jX1_begin_X1 : ∀ w ∈ u_ws RX1 TX1 4, w ∈ wsX1_begin := by decide +kernel
set_option maxRecDepth 20000 in
theorem qX1_begin_18 : Cond.fieldLink RX1 18 "FrogsOnRing$Course" "made" "I" ∈ wsX1_begin := by decide +kernel
set_option maxRecDepth 20000 in
theorem qX1_begin_22 : Cond.fieldLink RX1 22 "FrogsOnRing$Course" "order" "I" ∈ wsX1_begin := by decide +kernel
set_option maxHeartbeats 4000000 in
set_option maxRecDepth 100000 in
theorem kX1_begin_0 {p : Program} {l : Launch} {e : Env} {s : State} {m : MethodId} {args : Array Value} {below : List Frame} {meth : Method} {c : Code} {Q : State → Prop} {A : Nat → Prop} {D : va_G} {cI cJ : ClassId} (C : bC cX1_begin 2 RX1 wsX1_begin D cI cJ p s m args c meth A)
    {a_this : Nat} {a_froms : Nat} {a_tos : Nat} {i_made : Int32} {i_order : Int32} {x1 : Int32} {o : Int32 × Int32} (hf : fX1_begin x1 i_made i_order = o)
    (hrt : ∀ (H : Heap) (locs : List Loc) (ls : Array Slot) (pc : Nat), va_P D vwCl (uX1_begin cI cJ a_this a_froms a_tos o.1 o.2) H → va_D A (uX1_begin cI cJ a_this a_froms a_tos o.1 o.2) → va_S A s.heap H locs → decode cX1_begin pc = .ok (.return_, 1) → W p l e rX1_begin s m args below meth c H locs 0 0 Q (F0 m pc ls []))
    {H : Heap} {locs : List Loc} {ls : Array Slot} (hP : va_P D vwCl (uX1_begin cI cJ a_this a_froms a_tos i_made i_order) H) (hD : va_D A (uX1_begin cI cJ a_this a_froms a_tos i_made i_order)) (hS : va_S A s.heap H locs) (hl : lv_has ls 2 [(0, .ref a_this), (1, .int x1)]) : W p l e rX1_begin s m args below meth c H locs 0 0 Q (F0 m 0 ls []) := by
  obtain ⟨hx, hb, hml, hown, hts, hK, hN, hA, hlocks⟩ := id C
  unfold fX1_begin at hf
  refine lv_aload_n hx hb dX1_begin_0 rfl (lv_at hl 0 rfl) ?_
  refine lv_iconst (v := 0) hx hb dX1_begin_1 (by decide) ?_
  refine va_put (D := D) (ci := 1) (v := .int 0) (ty := tyX1 2) (C := RX1) (T := TX1) (N := 4) hx hb hts jX1_begin_X1 tyX1 tyX1_ok nmX1 hown hK hP hD hS 0 rfl rfl 2 (by decide) (hts _ qX1_begin_18) (fun _ h9 => h9) rfl (tyX1_ok 2 (by decide)) rfl rfl (Nat.le_of_ble_eq_true rfl) dX1_begin_2 (fun H locs hP hD hS => ?_)
  have hP : va_P D vwCl (uX1_begin cI cJ a_this a_froms a_tos 0 i_order) H := hP
  have hD : va_D A (uX1_begin cI cJ a_this a_froms a_tos 0 i_order) := hD
  refine lv_aload_n hx hb dX1_begin_5 rfl (lv_at hl 0 rfl) ?_
  refine lv_iload_n hx hb dX1_begin_6 rfl (lv_at hl 1 rfl) ?_
  refine va_put (D := D) (ci := 1) (v := .int x1) (ty := tyX1 3) (C := RX1) (T := TX1) (N := 4) hx hb hts jX1_begin_X1 tyX1 tyX1_ok nmX1 hown hK hP hD hS 0 rfl rfl 3 (by decide) (hts _ qX1_begin_22) (fun _ h9 => h9) rfl (tyX1_ok 3 (by decide)) rfl rfl (Nat.le_of_ble_eq_true rfl) dX1_begin_7 (fun H locs hP hD hS => ?_)
  have hP : va_P D vwCl (uX1_begin cI cJ a_this a_froms a_tos 0 x1) H := hP
  have hD : va_D A (uX1_begin cI cJ a_this a_froms a_tos 0 x1) := hD
  subst hf
  exact hrt H locs ls _ hP hD hS dX1_begin_10
set_option maxHeartbeats 4000000 in
set_option maxRecDepth 100000 in
theorem mX1_begin (l : Launch) (D : va_G) (cI cJ : ClassId) (sz : Nat) {a_this : Nat} {a_froms : Nat} {a_tos : Nat} {i_made : Int32} {i_order : Int32} {x1 : Int32} : Met l yX1_begin wsX1_begin rX1_begin (va_Pc [.ref a_this, .int x1] (kP D cI cJ (uX1_begin cI cJ a_this a_froms a_tos i_made i_order) sz)) (va_Qv (fun (_ : Unit) => True) (fun _ t => kB D (va_A (uX1_begin cI cJ a_this a_froms a_tos i_made i_order) sz) (uX1_begin cI cJ a_this a_froms a_tos ((fX1_begin x1 i_made i_order).1) ((fX1_begin x1 i_made i_order).2)) t) (va_A (uX1_begin cI cJ a_this a_froms a_tos i_made i_order) sz)) 0 0 (va_A (uX1_begin cI cJ a_this a_froms a_tos i_made i_order) sz) :=
  met_v (by decide) rfl (Nat.le_of_ble_eq_true rfl) (fun p e s m below meth c A Q C hrt ls hl hP hD hS => kX1_begin_0 (A := A) C rfl hrt hP hD hS hl)

/-! ===== FrogsOnRing$Course.make(II)V ===== -/
abbrev uX1_make (cI cJ : ClassId) (a_this : Nat) (a_froms : Nat) (a_tos : Nat) (i_made : Int32) (i_order : Int32) (g_froms : Nat → Int32) (g_tos : Nat → Int32) : va_W := [(a_this, .inr (1, [.ref a_froms, .ref a_tos, .int i_made, .int i_order])), (a_froms, .inl (cI, 60, .inl g_froms)), (a_tos, .inl (cI, 60, .inl g_tos))]
def rX1_make : Room := { frames := 2, cells := 0, slots := 0, locals := 44 }
theorem hdX1_make : yX1_make.cls = RX1 ∧ yX1_make.cls ≠ "java/lang/invoke/MethodHandle" ∧ yX1_make.cls ≠ "java/lang/invoke/VarHandle" ∧ (parseMethodDescriptor yX1_make.desc).map (fun d => d.parameters.length) = some 2 := by decide +kernel
set_option maxRecDepth 20000 in
theorem jX1_make_X1 : ∀ w ∈ u_ws RX1 TX1 4, w ∈ wsX1_make := by decide +kernel
set_option maxRecDepth 20000 in
theorem qX1_make_15 : Cond.fieldLink RX1 15 "FrogsOnRing$Course" "tos" "[I" ∈ wsX1_make := by decide +kernel
set_option maxRecDepth 20000 in
theorem qX1_make_18 : Cond.fieldLink RX1 18 "FrogsOnRing$Course" "made" "I" ∈ wsX1_make := by decide +kernel
set_option maxRecDepth 20000 in
theorem qX1_make_22 : Cond.fieldLink RX1 22 "FrogsOnRing$Course" "order" "I" ∈ wsX1_make := by decide +kernel
set_option maxRecDepth 20000 in
theorem qX1_make_9 : Cond.fieldLink RX1 9 "FrogsOnRing$Course" "froms" "[I" ∈ wsX1_make := by decide +kernel
set_option maxRecDepth 20000 in
theorem qX1_make_iX9_afterMove : Cond.initialized yX9_afterMove.cls ∈ wsX1_make := by decide +kernel
set_option maxRecDepth 20000 in
theorem qX1_make_sX9_afterMove : Cond.static yX9_afterMove ∈ wsX1_make := by decide +kernel
set_option maxHeartbeats 4000000 in
set_option maxRecDepth 100000 in
theorem kX1_make_0 {p : Program} {l : Launch} {e : Env} {s : State} {m : MethodId} {args : Array Value} {below : List Frame} {meth : Method} {c : Code} {Q : State → Prop} {A : Nat → Prop} {D : va_G} {cI cJ : ClassId} (C : bC cX1_make 3 RX1 wsX1_make D cI cJ p s m args c meth A)
    {a_this : Nat} {a_froms : Nat} {a_tos : Nat} {i_made : Int32} {i_order : Int32} {g_froms : Nat → Int32} {g_tos : Nat → Int32} {z : Nat} {x1 : Int32} {x2 : Int32} {o : (Nat → Int32) × (Nat → Int32) × Int32 × Int32} (hf : fX1_make z x1 x2 i_made g_froms g_tos i_order = some o)
    (hrt : ∀ (H : Heap) (locs : List Loc) (ls : Array Slot) (pc : Nat), va_P D vwCl (uX1_make cI cJ a_this a_froms a_tos o.2.2.1 o.2.2.2 o.1 o.2.1) H → va_D A (uX1_make cI cJ a_this a_froms a_tos o.2.2.1 o.2.2.2 o.1 o.2.1) → va_S A s.heap H locs → decode cX1_make pc = .ok (.return_, 1) → W p l e rX1_make s m args below meth c H locs 0 0 Q (F0 m pc ls []))
    {H : Heap} {locs : List Loc} {ls : Array Slot} (hP : va_P D vwCl (uX1_make cI cJ a_this a_froms a_tos i_made i_order g_froms g_tos) H) (hD : va_D A (uX1_make cI cJ a_this a_froms a_tos i_made i_order g_froms g_tos)) (hS : va_S A s.heap H locs) (hl : lv_has ls 3 [(0, .ref a_this), (1, .int x1), (2, .int x2)]) : W p l e rX1_make s m args below meth c H locs 0 0 Q (F0 m 0 ls []) := by
  obtain ⟨hx, hb, hml, hown, hts, hK, hN, hA, hlocks⟩ := id C
  unfold fX1_make at hf
  refine lv_aload_n hx hb dX1_make_0 rfl (lv_at hl 0 rfl) ?_
  refine va_get (D := D) (ci := 1) (v := .int i_made) (C := RX1) (T := TX1) (N := 4) hx hb hts jX1_make_X1 hown hK hP 0 rfl rfl 2 (by decide) (hts _ qX1_make_18) (fun _ h9 => h9) rfl dX1_make_1 ?_
  refine lv_bipush (v := 60) hx hb dX1_make_4 (by decide) ?_
  refine lv_icmp_ge (tgt := 52) hx hb dX1_make_6 (by decide) (fun hc => ?_) (fun hc => ?_)
  · have hf := if_yes hc hf
    have ho := Option.some.inj hf
    subst ho
    exact hrt H locs ls _ hP hD hS dX1_make_52
  · have hf := if_no hc hf
    refine lv_aload_n hx hb dX1_make_9 rfl (lv_at hl 0 rfl) ?_
    refine va_get (D := D) (ci := 1) (v := .ref a_froms) (C := RX1) (T := TX1) (N := 4) hx hb hts jX1_make_X1 hown hK hP 0 rfl rfl 0 (by decide) (hts _ qX1_make_9) (fun _ h9 => h9) rfl dX1_make_10 ?_
    refine lv_aload_n hx hb dX1_make_13 rfl (lv_at hl 0 rfl) ?_
    refine va_get (D := D) (ci := 1) (v := .int i_made) (C := RX1) (T := TX1) (N := 4) hx hb hts jX1_make_X1 hown hK hP 0 rfl rfl 2 (by decide) (hts _ qX1_make_18) (fun _ h9 => h9) rfl dX1_make_14 ?_
    refine lv_iload_n hx hb dX1_make_17 rfl (lv_at hl 1 rfl) ?_
    obtain ⟨hin, hf⟩ := agd_some hf
    refine va_iast hx hb hK hP hD hS 1 0 rfl rfl hin dX1_make_18 (fun H locs hP hD hS => ?_)
    have hP : va_P D vwCl (uX1_make cI cJ a_this a_froms a_tos i_made i_order (upd g_froms i_made.toNatClampNeg x1) g_tos) H := hP
    have hD : va_D A (uX1_make cI cJ a_this a_froms a_tos i_made i_order (upd g_froms i_made.toNatClampNeg x1) g_tos) := hD
    refine lv_aload_n hx hb dX1_make_19 rfl (lv_at hl 0 rfl) ?_
    refine va_get (D := D) (ci := 1) (v := .ref a_tos) (C := RX1) (T := TX1) (N := 4) hx hb hts jX1_make_X1 hown hK hP 0 rfl rfl 1 (by decide) (hts _ qX1_make_15) (fun _ h9 => h9) rfl dX1_make_20 ?_
    refine lv_aload_n hx hb dX1_make_23 rfl (lv_at hl 0 rfl) ?_
    refine va_get (D := D) (ci := 1) (v := .int i_made) (C := RX1) (T := TX1) (N := 4) hx hb hts jX1_make_X1 hown hK hP 0 rfl rfl 2 (by decide) (hts _ qX1_make_18) (fun _ h9 => h9) rfl dX1_make_24 ?_
    refine lv_iload_n hx hb dX1_make_27 rfl (lv_at hl 2 rfl) ?_
    obtain ⟨hin, hf⟩ := agd_some hf
    refine va_iast hx hb hK hP hD hS 2 0 rfl rfl hin dX1_make_28 (fun H locs hP hD hS => ?_)
    have hP : va_P D vwCl (uX1_make cI cJ a_this a_froms a_tos i_made i_order (upd g_froms i_made.toNatClampNeg x1) (upd g_tos i_made.toNatClampNeg x2)) H := hP
    have hD : va_D A (uX1_make cI cJ a_this a_froms a_tos i_made i_order (upd g_froms i_made.toNatClampNeg x1) (upd g_tos i_made.toNatClampNeg x2)) := hD
    refine lv_aload_n hx hb dX1_make_29 rfl (lv_at hl 0 rfl) ?_
    refine lv_dup hx hb dX1_make_30 rfl ?_
    refine va_get (D := D) (ci := 1) (v := .int i_made) (C := RX1) (T := TX1) (N := 4) hx hb hts jX1_make_X1 hown hK hP 0 rfl rfl 2 (by decide) (hts _ qX1_make_18) (fun _ h9 => h9) rfl dX1_make_31 ?_
    refine lv_iconst (v := 1) hx hb dX1_make_34 (by decide) ?_
    refine lv_iadd hx hb dX1_make_35 ?_
    refine va_put (D := D) (ci := 1) (v := .int (i_made + 1)) (ty := tyX1 2) (C := RX1) (T := TX1) (N := 4) hx hb hts jX1_make_X1 tyX1 tyX1_ok nmX1 hown hK hP hD hS 0 rfl rfl 2 (by decide) (hts _ qX1_make_18) (fun _ h9 => h9) rfl (tyX1_ok 2 (by decide)) rfl rfl (Nat.le_of_ble_eq_true rfl) dX1_make_36 (fun H locs hP hD hS => ?_)
    have hP : va_P D vwCl (uX1_make cI cJ a_this a_froms a_tos (i_made + 1) i_order (upd g_froms i_made.toNatClampNeg x1) (upd g_tos i_made.toNatClampNeg x2)) H := hP
    have hD : va_D A (uX1_make cI cJ a_this a_froms a_tos (i_made + 1) i_order (upd g_froms i_made.toNatClampNeg x1) (upd g_tos i_made.toNatClampNeg x2)) := hD
    refine lv_aload_n hx hb dX1_make_39 rfl (lv_at hl 0 rfl) ?_
    refine lv_aload_n hx hb dX1_make_40 rfl (lv_at hl 0 rfl) ?_
    refine va_get (D := D) (ci := 1) (v := .int i_order) (C := RX1) (T := TX1) (N := 4) hx hb hts jX1_make_X1 hown hK hP 0 rfl rfl 3 (by decide) (hts _ qX1_make_22) (fun _ h9 => h9) rfl dX1_make_41 ?_
    refine lv_iload_n hx hb dX1_make_44 rfl (lv_at hl 1 rfl) ?_
    refine lv_iload_n hx hb dX1_make_45 rfl (lv_at hl 2 rfl) ?_
    refine cl_i (wc := (uX9_afterMove cI cJ)) (w1 := (uX9_afterMove cI cJ)) (rn_N (As := [.int i_order, .int x1, .int x2]) (rest := [.ref a_this]) (wc := (uX9_afterMove cI cJ)) C hP hD [] rfl rfl (mX9_afterMove l D cI cJ H.size) 3 gX1_make_X9_afterMove_n25 qX1_make_iX9_afterMove qX1_make_sX9_afterMove 11 rfl rfl ⟨rfl, rfl, Nat.le_of_ble_eq_true rfl, Nat.le_of_ble_eq_true rfl⟩ hdX9_afterMove.2 rfl hl.1 rfl (Nat.le_of_ble_eq_true rfl) dX1_make_46) hP hD hS hA [] rfl rfl (fun H locs hP hD hS => ?_)
    have hP : va_P D vwCl (uX1_make cI cJ a_this a_froms a_tos (i_made + 1) i_order (upd g_froms i_made.toNatClampNeg x1) (upd g_tos i_made.toNatClampNeg x2)) H := hP
    have hD : va_D A (uX1_make cI cJ a_this a_froms a_tos (i_made + 1) i_order (upd g_froms i_made.toNatClampNeg x1) (upd g_tos i_made.toNatClampNeg x2)) := hD
    refine va_put (D := D) (ci := 1) (v := .int (fX9_afterMove i_order x1 x2)) (ty := tyX1 3) (C := RX1) (T := TX1) (N := 4) hx hb hts jX1_make_X1 tyX1 tyX1_ok nmX1 hown hK hP hD hS 0 rfl rfl 3 (by decide) (hts _ qX1_make_22) (fun _ h9 => h9) rfl (tyX1_ok 3 (by decide)) rfl rfl (Nat.le_of_ble_eq_true rfl) dX1_make_49 (fun H locs hP hD hS => ?_)
    have hP : va_P D vwCl (uX1_make cI cJ a_this a_froms a_tos (i_made + 1) (fX9_afterMove i_order x1 x2) (upd g_froms i_made.toNatClampNeg x1) (upd g_tos i_made.toNatClampNeg x2)) H := hP
    have hD : va_D A (uX1_make cI cJ a_this a_froms a_tos (i_made + 1) (fX9_afterMove i_order x1 x2) (upd g_froms i_made.toNatClampNeg x1) (upd g_tos i_made.toNatClampNeg x2)) := hD
    have ho := Option.some.inj hf
    subst ho
    exact hrt H locs ls _ hP hD hS dX1_make_52
set_option maxHeartbeats 4000000 in
set_option maxRecDepth 100000 in
theorem mX1_make (l : Launch) (D : va_G) (cI cJ : ClassId) (sz : Nat) {a_this : Nat} {a_froms : Nat} {a_tos : Nat} {i_made : Int32} {i_order : Int32} {g_froms : Nat → Int32} {g_tos : Nat → Int32} {z : Nat} {x1 : Int32} {x2 : Int32} {o : (Nat → Int32) × (Nat → Int32) × Int32 × Int32} (hf : fX1_make z x1 x2 i_made g_froms g_tos i_order = some o) : Met l yX1_make wsX1_make rX1_make (va_Pc [.ref a_this, .int x1, .int x2] (kP D cI cJ (uX1_make cI cJ a_this a_froms a_tos i_made i_order g_froms g_tos) sz)) (va_Qv (fun (_ : Unit) => True) (fun _ t => kB D (va_A (uX1_make cI cJ a_this a_froms a_tos i_made i_order g_froms g_tos) sz) (uX1_make cI cJ a_this a_froms a_tos o.2.2.1 o.2.2.2 o.1 o.2.1) t) (va_A (uX1_make cI cJ a_this a_froms a_tos i_made i_order g_froms g_tos) sz)) 0 0 (va_A (uX1_make cI cJ a_this a_froms a_tos i_made i_order g_froms g_tos) sz) :=
  met_v (by decide) rfl (Nat.le_of_ble_eq_true rfl) (fun p e s m below meth c A Q C hrt ls hl hP hD hS => kX1_make_0 (A := A) C hf hrt hP hD hS hl)

/-! ===== FrogsOnRing$Course.unmake()V ===== -/
abbrev uX1_unmake (cI cJ : ClassId) (a_this : Nat) (a_froms : Nat) (a_tos : Nat) (i_made : Int32) (i_order : Int32) (g_tos : Nat → Int32) (g_froms : Nat → Int32) : va_W := [(a_this, .inr (1, [.ref a_froms, .ref a_tos, .int i_made, .int i_order])), (a_tos, .inl (cI, 60, .inl g_tos)), (a_froms, .inl (cI, 60, .inl g_froms))]
def rX1_unmake : Room := { frames := 2, cells := 0, slots := 0, locals := 44 }
theorem hdX1_unmake : yX1_unmake.cls = RX1 ∧ yX1_unmake.cls ≠ "java/lang/invoke/MethodHandle" ∧ yX1_unmake.cls ≠ "java/lang/invoke/VarHandle" ∧ (parseMethodDescriptor yX1_unmake.desc).map (fun d => d.parameters.length) = some 0 := by decide +kernel
set_option maxRecDepth 20000 in
theorem jX1_unmake_X1 : ∀ w ∈ u_ws RX1 TX1 4, w ∈ wsX1_unmake := by decide +kernel
set_option maxRecDepth 20000 in
theorem qX1_unmake_15 : Cond.fieldLink RX1 15 "FrogsOnRing$Course" "tos" "[I" ∈ wsX1_unmake := by decide +kernel
set_option maxRecDepth 20000 in
theorem qX1_unmake_18 : Cond.fieldLink RX1 18 "FrogsOnRing$Course" "made" "I" ∈ wsX1_unmake := by decide +kernel
set_option maxRecDepth 20000 in
theorem qX1_unmake_22 : Cond.fieldLink RX1 22 "FrogsOnRing$Course" "order" "I" ∈ wsX1_unmake := by decide +kernel
set_option maxRecDepth 20000 in
theorem qX1_unmake_9 : Cond.fieldLink RX1 9 "FrogsOnRing$Course" "froms" "[I" ∈ wsX1_unmake := by decide +kernel
set_option maxRecDepth 20000 in
theorem qX1_unmake_iX9_afterMove : Cond.initialized yX9_afterMove.cls ∈ wsX1_unmake := by decide +kernel
set_option maxRecDepth 20000 in
theorem qX1_unmake_sX9_afterMove : Cond.static yX9_afterMove ∈ wsX1_unmake := by decide +kernel
set_option maxHeartbeats 4000000 in
set_option maxRecDepth 100000 in
theorem kX1_unmake_0 {p : Program} {l : Launch} {e : Env} {s : State} {m : MethodId} {args : Array Value} {below : List Frame} {meth : Method} {c : Code} {Q : State → Prop} {A : Nat → Prop} {D : va_G} {cI cJ : ClassId} (C : bC cX1_unmake 1 RX1 wsX1_unmake D cI cJ p s m args c meth A)
    {a_this : Nat} {a_froms : Nat} {a_tos : Nat} {i_made : Int32} {i_order : Int32} {g_tos : Nat → Int32} {g_froms : Nat → Int32} {z : Nat} {o : Int32 × Int32} (hf : fX1_unmake z i_made i_order g_tos g_froms = some o)
    (hrt : ∀ (H : Heap) (locs : List Loc) (ls : Array Slot) (pc : Nat), va_P D vwCl (uX1_unmake cI cJ a_this a_froms a_tos o.1 o.2 g_tos g_froms) H → va_D A (uX1_unmake cI cJ a_this a_froms a_tos o.1 o.2 g_tos g_froms) → va_S A s.heap H locs → decode cX1_unmake pc = .ok (.return_, 1) → W p l e rX1_unmake s m args below meth c H locs 0 0 Q (F0 m pc ls []))
    {H : Heap} {locs : List Loc} {ls : Array Slot} (hP : va_P D vwCl (uX1_unmake cI cJ a_this a_froms a_tos i_made i_order g_tos g_froms) H) (hD : va_D A (uX1_unmake cI cJ a_this a_froms a_tos i_made i_order g_tos g_froms)) (hS : va_S A s.heap H locs) (hl : lv_has ls 1 [(0, .ref a_this)]) : W p l e rX1_unmake s m args below meth c H locs 0 0 Q (F0 m 0 ls []) := by
  obtain ⟨hx, hb, hml, hown, hts, hK, hN, hA, hlocks⟩ := id C
  unfold fX1_unmake at hf
  refine lv_aload_n hx hb dX1_unmake_0 rfl (lv_at hl 0 rfl) ?_
  refine va_get (D := D) (ci := 1) (v := .int i_made) (C := RX1) (T := TX1) (N := 4) hx hb hts jX1_unmake_X1 hown hK hP 0 rfl rfl 2 (by decide) (hts _ qX1_unmake_18) (fun _ h9 => h9) rfl dX1_unmake_1 ?_
  refine lv_if_le (tgt := 46) hx hb dX1_unmake_4 (by decide) (fun hc => ?_) (fun hc => ?_)
  · have hf := if_yes hc hf
    have ho := Option.some.inj hf
    subst ho
    exact hrt H locs ls _ hP hD hS dX1_unmake_46
  · have hf := if_no hc hf
    refine lv_aload_n hx hb dX1_unmake_7 rfl (lv_at hl 0 rfl) ?_
    refine lv_dup hx hb dX1_unmake_8 rfl ?_
    refine va_get (D := D) (ci := 1) (v := .int i_made) (C := RX1) (T := TX1) (N := 4) hx hb hts jX1_unmake_X1 hown hK hP 0 rfl rfl 2 (by decide) (hts _ qX1_unmake_18) (fun _ h9 => h9) rfl dX1_unmake_9 ?_
    refine lv_iconst (v := 1) hx hb dX1_unmake_12 (by decide) ?_
    refine lv_isub hx hb dX1_unmake_13 ?_
    refine va_put (D := D) (ci := 1) (v := .int (i_made - 1)) (ty := tyX1 2) (C := RX1) (T := TX1) (N := 4) hx hb hts jX1_unmake_X1 tyX1 tyX1_ok nmX1 hown hK hP hD hS 0 rfl rfl 2 (by decide) (hts _ qX1_unmake_18) (fun _ h9 => h9) rfl (tyX1_ok 2 (by decide)) rfl rfl (Nat.le_of_ble_eq_true rfl) dX1_unmake_14 (fun H locs hP hD hS => ?_)
    have hP : va_P D vwCl (uX1_unmake cI cJ a_this a_froms a_tos (i_made - 1) i_order g_tos g_froms) H := hP
    have hD : va_D A (uX1_unmake cI cJ a_this a_froms a_tos (i_made - 1) i_order g_tos g_froms) := hD
    refine lv_aload_n hx hb dX1_unmake_17 rfl (lv_at hl 0 rfl) ?_
    refine lv_aload_n hx hb dX1_unmake_18 rfl (lv_at hl 0 rfl) ?_
    refine va_get (D := D) (ci := 1) (v := .int i_order) (C := RX1) (T := TX1) (N := 4) hx hb hts jX1_unmake_X1 hown hK hP 0 rfl rfl 3 (by decide) (hts _ qX1_unmake_22) (fun _ h9 => h9) rfl dX1_unmake_19 ?_
    refine lv_aload_n hx hb dX1_unmake_22 rfl (lv_at hl 0 rfl) ?_
    refine va_get (D := D) (ci := 1) (v := .ref a_tos) (C := RX1) (T := TX1) (N := 4) hx hb hts jX1_unmake_X1 hown hK hP 0 rfl rfl 1 (by decide) (hts _ qX1_unmake_15) (fun _ h9 => h9) rfl dX1_unmake_23 ?_
    refine lv_aload_n hx hb dX1_unmake_26 rfl (lv_at hl 0 rfl) ?_
    refine va_get (D := D) (ci := 1) (v := .int (i_made - 1)) (C := RX1) (T := TX1) (N := 4) hx hb hts jX1_unmake_X1 hown hK hP 0 rfl rfl 2 (by decide) (hts _ qX1_unmake_18) (fun _ h9 => h9) rfl dX1_unmake_27 ?_
    obtain ⟨hin, hf⟩ := agd_some hf
    refine va_iald hx hb hK hP 1 0 rfl rfl hin dX1_unmake_30 ?_
    refine lv_aload_n hx hb dX1_unmake_31 rfl (lv_at hl 0 rfl) ?_
    refine va_get (D := D) (ci := 1) (v := .ref a_froms) (C := RX1) (T := TX1) (N := 4) hx hb hts jX1_unmake_X1 hown hK hP 0 rfl rfl 0 (by decide) (hts _ qX1_unmake_9) (fun _ h9 => h9) rfl dX1_unmake_32 ?_
    refine lv_aload_n hx hb dX1_unmake_35 rfl (lv_at hl 0 rfl) ?_
    refine va_get (D := D) (ci := 1) (v := .int (i_made - 1)) (C := RX1) (T := TX1) (N := 4) hx hb hts jX1_unmake_X1 hown hK hP 0 rfl rfl 2 (by decide) (hts _ qX1_unmake_18) (fun _ h9 => h9) rfl dX1_unmake_36 ?_
    obtain ⟨hin, hf⟩ := agd_some hf
    refine va_iald hx hb hK hP 2 0 rfl rfl hin dX1_unmake_39 ?_
    refine cl_i (wc := (uX9_afterMove cI cJ)) (w1 := (uX9_afterMove cI cJ)) (rn_N (As := [.int i_order, .int (g_tos (i_made - 1).toNatClampNeg), .int (g_froms (i_made - 1).toNatClampNeg)]) (rest := [.ref a_this]) (wc := (uX9_afterMove cI cJ)) C hP hD [] rfl rfl (mX9_afterMove l D cI cJ H.size) 3 gX1_unmake_X9_afterMove_n25 qX1_unmake_iX9_afterMove qX1_unmake_sX9_afterMove 11 rfl rfl ⟨rfl, rfl, Nat.le_of_ble_eq_true rfl, Nat.le_of_ble_eq_true rfl⟩ hdX9_afterMove.2 rfl hl.1 rfl (Nat.le_of_ble_eq_true rfl) dX1_unmake_40) hP hD hS hA [] rfl rfl (fun H locs hP hD hS => ?_)
    have hP : va_P D vwCl (uX1_unmake cI cJ a_this a_froms a_tos (i_made - 1) i_order g_tos g_froms) H := hP
    have hD : va_D A (uX1_unmake cI cJ a_this a_froms a_tos (i_made - 1) i_order g_tos g_froms) := hD
    refine va_put (D := D) (ci := 1) (v := .int (fX9_afterMove i_order (g_tos (i_made - 1).toNatClampNeg) (g_froms (i_made - 1).toNatClampNeg))) (ty := tyX1 3) (C := RX1) (T := TX1) (N := 4) hx hb hts jX1_unmake_X1 tyX1 tyX1_ok nmX1 hown hK hP hD hS 0 rfl rfl 3 (by decide) (hts _ qX1_unmake_22) (fun _ h9 => h9) rfl (tyX1_ok 3 (by decide)) rfl rfl (Nat.le_of_ble_eq_true rfl) dX1_unmake_43 (fun H locs hP hD hS => ?_)
    have hP : va_P D vwCl (uX1_unmake cI cJ a_this a_froms a_tos (i_made - 1) (fX9_afterMove i_order (g_tos (i_made - 1).toNatClampNeg) (g_froms (i_made - 1).toNatClampNeg)) g_tos g_froms) H := hP
    have hD : va_D A (uX1_unmake cI cJ a_this a_froms a_tos (i_made - 1) (fX9_afterMove i_order (g_tos (i_made - 1).toNatClampNeg) (g_froms (i_made - 1).toNatClampNeg)) g_tos g_froms) := hD
    have ho := Option.some.inj hf
    subst ho
    exact hrt H locs ls _ hP hD hS dX1_unmake_46
set_option maxHeartbeats 4000000 in
set_option maxRecDepth 100000 in
theorem mX1_unmake (l : Launch) (D : va_G) (cI cJ : ClassId) (sz : Nat) {a_this : Nat} {a_froms : Nat} {a_tos : Nat} {i_made : Int32} {i_order : Int32} {g_tos : Nat → Int32} {g_froms : Nat → Int32} {z : Nat} {o : Int32 × Int32} (hf : fX1_unmake z i_made i_order g_tos g_froms = some o) : Met l yX1_unmake wsX1_unmake rX1_unmake (va_Pc [.ref a_this] (kP D cI cJ (uX1_unmake cI cJ a_this a_froms a_tos i_made i_order g_tos g_froms) sz)) (va_Qv (fun (_ : Unit) => True) (fun _ t => kB D (va_A (uX1_unmake cI cJ a_this a_froms a_tos i_made i_order g_tos g_froms) sz) (uX1_unmake cI cJ a_this a_froms a_tos o.1 o.2 g_tos g_froms) t) (va_A (uX1_unmake cI cJ a_this a_froms a_tos i_made i_order g_tos g_froms) sz)) 0 0 (va_A (uX1_unmake cI cJ a_this a_froms a_tos i_made i_order g_tos g_froms) sz) :=
  met_v (by decide) rfl (Nat.le_of_ble_eq_true rfl) (fun p e s m below meth c A Q C hrt ls hl hP hD hS => kX1_unmake_0 (A := A) C hf hrt hP hD hS hl)

/-! ===== FrogsOnRing$Course.copy(LFrogsOnRing$Course;)V ===== -/
abbrev uX1_copy (cI cJ : ClassId) (a_p1 : Nat) (a_p1_froms : Nat) (a_p1_tos : Nat) (i_p1_made : Int32) (i_p1_order : Int32) (a_this : Nat) (a_froms : Nat) (a_tos : Nat) (i_made : Int32) (i_order : Int32) (g_p1_froms : Nat → Int32) (g_froms : Nat → Int32) (g_p1_tos : Nat → Int32) (g_tos : Nat → Int32) : va_W := [(a_p1, .inr (1, [.ref a_p1_froms, .ref a_p1_tos, .int i_p1_made, .int i_p1_order])), (a_this, .inr (1, [.ref a_froms, .ref a_tos, .int i_made, .int i_order])), (a_p1_froms, .inl (cI, 60, .inl g_p1_froms)), (a_froms, .inl (cI, 60, .inl g_froms)), (a_p1_tos, .inl (cI, 60, .inl g_p1_tos)), (a_tos, .inl (cI, 60, .inl g_tos))]
def rX1_copy : Room := { frames := 1, cells := 0, slots := 0, locals := 40 }
theorem hdX1_copy : yX1_copy.cls = RX1 ∧ yX1_copy.cls ≠ "java/lang/invoke/MethodHandle" ∧ yX1_copy.cls ≠ "java/lang/invoke/VarHandle" ∧ (parseMethodDescriptor yX1_copy.desc).map (fun d => d.parameters.length) = some 1 := by decide +kernel
set_option maxRecDepth 20000 in
theorem jX1_copy_X1 : ∀ w ∈ u_ws RX1 TX1 4, w ∈ wsX1_copy := by decide +kernel
set_option maxRecDepth 20000 in
theorem qX1_copy_15 : Cond.fieldLink RX1 15 "FrogsOnRing$Course" "tos" "[I" ∈ wsX1_copy := by decide +kernel
set_option maxRecDepth 20000 in
theorem qX1_copy_18 : Cond.fieldLink RX1 18 "FrogsOnRing$Course" "made" "I" ∈ wsX1_copy := by decide +kernel
set_option maxRecDepth 20000 in
theorem qX1_copy_22 : Cond.fieldLink RX1 22 "FrogsOnRing$Course" "order" "I" ∈ wsX1_copy := by decide +kernel
set_option maxRecDepth 20000 in
theorem qX1_copy_9 : Cond.fieldLink RX1 9 "FrogsOnRing$Course" "froms" "[I" ∈ wsX1_copy := by decide +kernel
set_option maxRecDepth 20000 in
theorem qX1_copy_aci : Cond.initialized "java/lang/System" ∈ wsX1_copy := by decide +kernel
set_option maxRecDepth 20000 in
theorem qX1_copy_acn : Cond.native arraycopyName ∈ wsX1_copy := by decide +kernel
set_option maxRecDepth 20000 in
theorem qX1_copy_acs : Cond.static arraycopyName ∈ wsX1_copy := by decide +kernel
set_option maxRecDepth 20000 in
theorem qX1_copy_l29 : Cond.methodLink RX1 29 arraycopyName ∈ wsX1_copy := by decide +kernel
set_option maxHeartbeats 4000000 in
set_option maxRecDepth 100000 in
theorem kX1_copy_0 {p : Program} {l : Launch} {e : Env} {s : State} {m : MethodId} {args : Array Value} {below : List Frame} {meth : Method} {c : Code} {Q : State → Prop} {A : Nat → Prop} {D : va_G} {cI cJ : ClassId} (C : bC cX1_copy 2 RX1 wsX1_copy D cI cJ p s m args c meth A)
    {a_p1 : Nat} {a_p1_froms : Nat} {a_p1_tos : Nat} {i_p1_made : Int32} {i_p1_order : Int32} {a_this : Nat} {a_froms : Nat} {a_tos : Nat} {i_made : Int32} {i_order : Int32} {g_p1_froms : Nat → Int32} {g_froms : Nat → Int32} {g_p1_tos : Nat → Int32} {g_tos : Nat → Int32} {z : Nat} {o : (Nat → Int32) × (Nat → Int32) × Int32 × Int32} (hf : fX1_copy z g_p1_froms g_froms g_p1_tos g_tos i_p1_made i_p1_order i_made i_order = some o)
    (hrt : ∀ (H : Heap) (locs : List Loc) (ls : Array Slot) (pc : Nat), va_P D vwCl (uX1_copy cI cJ a_p1 a_p1_froms a_p1_tos i_p1_made i_p1_order a_this a_froms a_tos o.2.2.1 o.2.2.2 g_p1_froms o.1 g_p1_tos o.2.1) H → va_D A (uX1_copy cI cJ a_p1 a_p1_froms a_p1_tos i_p1_made i_p1_order a_this a_froms a_tos o.2.2.1 o.2.2.2 g_p1_froms o.1 g_p1_tos o.2.1) → va_S A s.heap H locs → decode cX1_copy pc = .ok (.return_, 1) → W p l e rX1_copy s m args below meth c H locs 0 0 Q (F0 m pc ls []))
    {H : Heap} {locs : List Loc} {ls : Array Slot} (hP : va_P D vwCl (uX1_copy cI cJ a_p1 a_p1_froms a_p1_tos i_p1_made i_p1_order a_this a_froms a_tos i_made i_order g_p1_froms g_froms g_p1_tos g_tos) H) (hD : va_D A (uX1_copy cI cJ a_p1 a_p1_froms a_p1_tos i_p1_made i_p1_order a_this a_froms a_tos i_made i_order g_p1_froms g_froms g_p1_tos g_tos)) (hS : va_S A s.heap H locs) (hl : lv_has ls 2 [(0, .ref a_this), (1, .ref a_p1)]) : W p l e rX1_copy s m args below meth c H locs 0 0 Q (F0 m 0 ls []) := by
  obtain ⟨hx, hb, hml, hown, hts, hK, hN, hA, hlocks⟩ := id C
  unfold fX1_copy at hf
  refine lv_aload_n hx hb dX1_copy_0 rfl (lv_at hl 1 rfl) ?_
  refine va_get (D := D) (ci := 1) (v := .ref a_p1_froms) (C := RX1) (T := TX1) (N := 4) hx hb hts jX1_copy_X1 hown hK hP 0 rfl rfl 0 (by decide) (hts _ qX1_copy_9) (fun _ h9 => h9) rfl dX1_copy_1 ?_
  refine lv_iconst (v := 0) hx hb dX1_copy_4 (by decide) ?_
  refine lv_aload_n hx hb dX1_copy_5 rfl (lv_at hl 0 rfl) ?_
  refine va_get (D := D) (ci := 1) (v := .ref a_froms) (C := RX1) (T := TX1) (N := 4) hx hb hts jX1_copy_X1 hown hK hP 1 rfl rfl 0 (by decide) (hts _ qX1_copy_9) (fun _ h9 => h9) rfl dX1_copy_6 ?_
  refine lv_iconst (v := 0) hx hb dX1_copy_9 (by decide) ?_
  refine lv_bipush (v := 60) hx hb dX1_copy_10 (by decide) ?_
  obtain ⟨⟨hg1, hg2, hg3, hg4, hg5⟩, hf⟩ := cgd_some hf
  refine va_copyi (ty := .int) hx hb (hml.trans hl.1.symm) hown (hts _ qX1_copy_l29) (hts _ qX1_copy_acn) (hts _ qX1_copy_acs) (hts _ qX1_copy_aci) hK hP hD hS 2 3 0 0 rfl rfl rfl rfl rfl hg1 hg2 hg3 hg4 hg5 (fun _ _ => rfl) (Nat.le_of_ble_eq_true rfl) (by decide +kernel) dX1_copy_12 (fun H locs hP hD hS => ?_)
  have hP : va_P D vwCl (uX1_copy cI cJ a_p1 a_p1_froms a_p1_tos i_p1_made i_p1_order a_this a_froms a_tos i_made i_order g_p1_froms (va_cpy g_p1_froms g_froms (0 : Int32).toNatClampNeg (0 : Int32).toNatClampNeg (60 : Int32).toNatClampNeg) g_p1_tos g_tos) H := hP
  have hD : va_D A (uX1_copy cI cJ a_p1 a_p1_froms a_p1_tos i_p1_made i_p1_order a_this a_froms a_tos i_made i_order g_p1_froms (va_cpy g_p1_froms g_froms (0 : Int32).toNatClampNeg (0 : Int32).toNatClampNeg (60 : Int32).toNatClampNeg) g_p1_tos g_tos) := hD
  refine lv_aload_n hx hb dX1_copy_15 rfl (lv_at hl 1 rfl) ?_
  refine va_get (D := D) (ci := 1) (v := .ref a_p1_tos) (C := RX1) (T := TX1) (N := 4) hx hb hts jX1_copy_X1 hown hK hP 0 rfl rfl 1 (by decide) (hts _ qX1_copy_15) (fun _ h9 => h9) rfl dX1_copy_16 ?_
  refine lv_iconst (v := 0) hx hb dX1_copy_19 (by decide) ?_
  refine lv_aload_n hx hb dX1_copy_20 rfl (lv_at hl 0 rfl) ?_
  refine va_get (D := D) (ci := 1) (v := .ref a_tos) (C := RX1) (T := TX1) (N := 4) hx hb hts jX1_copy_X1 hown hK hP 1 rfl rfl 1 (by decide) (hts _ qX1_copy_15) (fun _ h9 => h9) rfl dX1_copy_21 ?_
  refine lv_iconst (v := 0) hx hb dX1_copy_24 (by decide) ?_
  refine lv_bipush (v := 60) hx hb dX1_copy_25 (by decide) ?_
  obtain ⟨⟨hg1, hg2, hg3, hg4, hg5⟩, hf⟩ := cgd_some hf
  refine va_copyi (ty := .int) hx hb (hml.trans hl.1.symm) hown (hts _ qX1_copy_l29) (hts _ qX1_copy_acn) (hts _ qX1_copy_acs) (hts _ qX1_copy_aci) hK hP hD hS 4 5 0 0 rfl rfl rfl rfl rfl hg1 hg2 hg3 hg4 hg5 (fun _ _ => rfl) (Nat.le_of_ble_eq_true rfl) (by decide +kernel) dX1_copy_27 (fun H locs hP hD hS => ?_)
  have hP : va_P D vwCl (uX1_copy cI cJ a_p1 a_p1_froms a_p1_tos i_p1_made i_p1_order a_this a_froms a_tos i_made i_order g_p1_froms (va_cpy g_p1_froms g_froms (0 : Int32).toNatClampNeg (0 : Int32).toNatClampNeg (60 : Int32).toNatClampNeg) g_p1_tos (va_cpy g_p1_tos g_tos (0 : Int32).toNatClampNeg (0 : Int32).toNatClampNeg (60 : Int32).toNatClampNeg)) H := hP
  have hD : va_D A (uX1_copy cI cJ a_p1 a_p1_froms a_p1_tos i_p1_made i_p1_order a_this a_froms a_tos i_made i_order g_p1_froms (va_cpy g_p1_froms g_froms (0 : Int32).toNatClampNeg (0 : Int32).toNatClampNeg (60 : Int32).toNatClampNeg) g_p1_tos (va_cpy g_p1_tos g_tos (0 : Int32).toNatClampNeg (0 : Int32).toNatClampNeg (60 : Int32).toNatClampNeg)) := hD
  refine lv_aload_n hx hb dX1_copy_30 rfl (lv_at hl 0 rfl) ?_
  refine lv_aload_n hx hb dX1_copy_31 rfl (lv_at hl 1 rfl) ?_
  refine va_get (D := D) (ci := 1) (v := .int i_p1_made) (C := RX1) (T := TX1) (N := 4) hx hb hts jX1_copy_X1 hown hK hP 0 rfl rfl 2 (by decide) (hts _ qX1_copy_18) (fun _ h9 => h9) rfl dX1_copy_32 ?_
  refine va_put (D := D) (ci := 1) (v := .int i_p1_made) (ty := tyX1 2) (C := RX1) (T := TX1) (N := 4) hx hb hts jX1_copy_X1 tyX1 tyX1_ok nmX1 hown hK hP hD hS 1 rfl rfl 2 (by decide) (hts _ qX1_copy_18) (fun _ h9 => h9) rfl (tyX1_ok 2 (by decide)) rfl rfl (Nat.le_of_ble_eq_true rfl) dX1_copy_35 (fun H locs hP hD hS => ?_)
  have hP : va_P D vwCl (uX1_copy cI cJ a_p1 a_p1_froms a_p1_tos i_p1_made i_p1_order a_this a_froms a_tos i_p1_made i_order g_p1_froms (va_cpy g_p1_froms g_froms (0 : Int32).toNatClampNeg (0 : Int32).toNatClampNeg (60 : Int32).toNatClampNeg) g_p1_tos (va_cpy g_p1_tos g_tos (0 : Int32).toNatClampNeg (0 : Int32).toNatClampNeg (60 : Int32).toNatClampNeg)) H := hP
  have hD : va_D A (uX1_copy cI cJ a_p1 a_p1_froms a_p1_tos i_p1_made i_p1_order a_this a_froms a_tos i_p1_made i_order g_p1_froms (va_cpy g_p1_froms g_froms (0 : Int32).toNatClampNeg (0 : Int32).toNatClampNeg (60 : Int32).toNatClampNeg) g_p1_tos (va_cpy g_p1_tos g_tos (0 : Int32).toNatClampNeg (0 : Int32).toNatClampNeg (60 : Int32).toNatClampNeg)) := hD
  refine lv_aload_n hx hb dX1_copy_38 rfl (lv_at hl 0 rfl) ?_
  refine lv_aload_n hx hb dX1_copy_39 rfl (lv_at hl 1 rfl) ?_
  refine va_get (D := D) (ci := 1) (v := .int i_p1_order) (C := RX1) (T := TX1) (N := 4) hx hb hts jX1_copy_X1 hown hK hP 0 rfl rfl 3 (by decide) (hts _ qX1_copy_22) (fun _ h9 => h9) rfl dX1_copy_40 ?_
  refine va_put (D := D) (ci := 1) (v := .int i_p1_order) (ty := tyX1 3) (C := RX1) (T := TX1) (N := 4) hx hb hts jX1_copy_X1 tyX1 tyX1_ok nmX1 hown hK hP hD hS 1 rfl rfl 3 (by decide) (hts _ qX1_copy_22) (fun _ h9 => h9) rfl (tyX1_ok 3 (by decide)) rfl rfl (Nat.le_of_ble_eq_true rfl) dX1_copy_43 (fun H locs hP hD hS => ?_)
  have hP : va_P D vwCl (uX1_copy cI cJ a_p1 a_p1_froms a_p1_tos i_p1_made i_p1_order a_this a_froms a_tos i_p1_made i_p1_order g_p1_froms (va_cpy g_p1_froms g_froms (0 : Int32).toNatClampNeg (0 : Int32).toNatClampNeg (60 : Int32).toNatClampNeg) g_p1_tos (va_cpy g_p1_tos g_tos (0 : Int32).toNatClampNeg (0 : Int32).toNatClampNeg (60 : Int32).toNatClampNeg)) H := hP
  have hD : va_D A (uX1_copy cI cJ a_p1 a_p1_froms a_p1_tos i_p1_made i_p1_order a_this a_froms a_tos i_p1_made i_p1_order g_p1_froms (va_cpy g_p1_froms g_froms (0 : Int32).toNatClampNeg (0 : Int32).toNatClampNeg (60 : Int32).toNatClampNeg) g_p1_tos (va_cpy g_p1_tos g_tos (0 : Int32).toNatClampNeg (0 : Int32).toNatClampNeg (60 : Int32).toNatClampNeg)) := hD
  have ho := Option.some.inj hf
  subst ho
  exact hrt H locs ls _ hP hD hS dX1_copy_46
set_option maxHeartbeats 4000000 in
set_option maxRecDepth 100000 in
theorem mX1_copy (l : Launch) (D : va_G) (cI cJ : ClassId) (sz : Nat) {a_p1 : Nat} {a_p1_froms : Nat} {a_p1_tos : Nat} {i_p1_made : Int32} {i_p1_order : Int32} {a_this : Nat} {a_froms : Nat} {a_tos : Nat} {i_made : Int32} {i_order : Int32} {g_p1_froms : Nat → Int32} {g_froms : Nat → Int32} {g_p1_tos : Nat → Int32} {g_tos : Nat → Int32} {z : Nat} {o : (Nat → Int32) × (Nat → Int32) × Int32 × Int32} (hf : fX1_copy z g_p1_froms g_froms g_p1_tos g_tos i_p1_made i_p1_order i_made i_order = some o) : Met l yX1_copy wsX1_copy rX1_copy (va_Pc [.ref a_this, .ref a_p1] (kP D cI cJ (uX1_copy cI cJ a_p1 a_p1_froms a_p1_tos i_p1_made i_p1_order a_this a_froms a_tos i_made i_order g_p1_froms g_froms g_p1_tos g_tos) sz)) (va_Qv (fun (_ : Unit) => True) (fun _ t => kB D (va_A (uX1_copy cI cJ a_p1 a_p1_froms a_p1_tos i_p1_made i_p1_order a_this a_froms a_tos i_made i_order g_p1_froms g_froms g_p1_tos g_tos) sz) (uX1_copy cI cJ a_p1 a_p1_froms a_p1_tos i_p1_made i_p1_order a_this a_froms a_tos o.2.2.1 o.2.2.2 g_p1_froms o.1 g_p1_tos o.2.1) t) (va_A (uX1_copy cI cJ a_p1 a_p1_froms a_p1_tos i_p1_made i_p1_order a_this a_froms a_tos i_made i_order g_p1_froms g_froms g_p1_tos g_tos) sz)) 0 0 (va_A (uX1_copy cI cJ a_p1 a_p1_froms a_p1_tos i_p1_made i_p1_order a_this a_froms a_tos i_made i_order g_p1_froms g_froms g_p1_tos g_tos) sz) :=
  met_v (by decide) rfl (Nat.le_of_ble_eq_true rfl) (fun p e s m below meth c A Q C hrt ls hl hP hD hS => kX1_copy_0 (A := A) C hf hrt hP hD hS hl)

/-! ===== FrogsOnRing$Pond.depthOf(I)I ===== -/
abbrev uX6_depthOf (cI cJ : ClassId) (a_this : Nat) (a_behinds : Nat) (a_depths : Nat) (i_size : Int32) (i_isRing : Int32) (i_overOthers : Int32) (i_longestLeap : Int32) (g_depths : Nat → Int32) : va_W := [(a_this, .inr (6, [.ref a_behinds, .ref a_depths, .int i_size, .int i_isRing, .int i_overOthers, .int i_longestLeap])), (a_depths, .inl (cI, 9, .inl g_depths))]
def rX6_depthOf : Room := { frames := 0, cells := 0, slots := 0, locals := 0 }
theorem hdX6_depthOf : yX6_depthOf.cls = RX6 ∧ yX6_depthOf.cls ≠ "java/lang/invoke/MethodHandle" ∧ yX6_depthOf.cls ≠ "java/lang/invoke/VarHandle" ∧ (parseMethodDescriptor yX6_depthOf.desc).map (fun d => d.parameters.length) = some 1 := by decide +kernel
set_option maxRecDepth 20000 in
theorem jX6_depthOf_X6 : ∀ w ∈ u_ws RX6 TX6 6, w ∈ wsX6_depthOf := by decide +kernel
set_option maxRecDepth 20000 in
theorem qX6_depthOf_15 : Cond.fieldLink RX6 15 "FrogsOnRing$Pond" "depths" "[I" ∈ wsX6_depthOf := by decide +kernel
set_option maxHeartbeats 4000000 in
set_option maxRecDepth 100000 in
theorem kX6_depthOf_0 {p : Program} {l : Launch} {e : Env} {s : State} {m : MethodId} {args : Array Value} {below : List Frame} {meth : Method} {c : Code} {Q : State → Prop} {A : Nat → Prop} {D : va_G} {cI cJ : ClassId} (C : bC cX6_depthOf 2 RX6 wsX6_depthOf D cI cJ p s m args c meth A)
    {a_this : Nat} {a_behinds : Nat} {a_depths : Nat} {i_size : Int32} {i_isRing : Int32} {i_overOthers : Int32} {i_longestLeap : Int32} {g_depths : Nat → Int32} {z : Nat} {x1 : Int32} {o : Int32} (hf : fX6_depthOf z x1 g_depths = some o)
    (hrt : ∀ (H : Heap) (locs : List Loc) (ls : Array Slot) (pc : Nat), va_P D vwCl (uX6_depthOf cI cJ a_this a_behinds a_depths i_size i_isRing i_overOthers i_longestLeap g_depths) H → va_D A (uX6_depthOf cI cJ a_this a_behinds a_depths i_size i_isRing i_overOthers i_longestLeap g_depths) → va_S A s.heap H locs → decode cX6_depthOf pc = .ok (.ireturn, 1) → W p l e rX6_depthOf s m args below meth c H locs 0 0 Q (F0 m pc ls [.int o]))
    {H : Heap} {locs : List Loc} {ls : Array Slot} (hP : va_P D vwCl (uX6_depthOf cI cJ a_this a_behinds a_depths i_size i_isRing i_overOthers i_longestLeap g_depths) H) (hD : va_D A (uX6_depthOf cI cJ a_this a_behinds a_depths i_size i_isRing i_overOthers i_longestLeap g_depths)) (hS : va_S A s.heap H locs) (hl : lv_has ls 2 [(0, .ref a_this), (1, .int x1)]) : W p l e rX6_depthOf s m args below meth c H locs 0 0 Q (F0 m 0 ls []) := by
  obtain ⟨hx, hb, hml, hown, hts, hK, hN, hA, hlocks⟩ := id C
  unfold fX6_depthOf at hf
  refine lv_iload_n hx hb dX6_depthOf_0 rfl (lv_at hl 1 rfl) ?_
  refine lv_if_lt (tgt := 19) hx hb dX6_depthOf_1 (by decide) (fun hc => ?_) (fun hc => ?_)
  · have hf := if_yes hc hf
    refine lv_iconst (v := 0) hx hb dX6_depthOf_19 (by decide) ?_
    have ho := Option.some.inj hf
    subst ho
    exact hrt H locs ls _ hP hD hS dX6_depthOf_20
  · have hf := if_no hc hf
    refine lv_iload_n hx hb dX6_depthOf_4 rfl (lv_at hl 1 rfl) ?_
    refine lv_bipush (v := 9) hx hb dX6_depthOf_5 (by decide) ?_
    refine lv_icmp_ge (tgt := 19) hx hb dX6_depthOf_7 (by decide) (fun hc => ?_) (fun hc => ?_)
    · have hf := if_yes hc hf
      refine lv_iconst (v := 0) hx hb dX6_depthOf_19 (by decide) ?_
      have ho := Option.some.inj hf
      subst ho
      exact hrt H locs ls _ hP hD hS dX6_depthOf_20
    · have hf := if_no hc hf
      refine lv_aload_n hx hb dX6_depthOf_10 rfl (lv_at hl 0 rfl) ?_
      refine va_get (D := D) (ci := 6) (v := .ref a_depths) (C := RX6) (T := TX6) (N := 6) hx hb hts jX6_depthOf_X6 hown hK hP 0 rfl rfl 1 (by decide) (hts _ qX6_depthOf_15) (fun _ h9 => h9) rfl dX6_depthOf_11 ?_
      refine lv_iload_n hx hb dX6_depthOf_14 rfl (lv_at hl 1 rfl) ?_
      obtain ⟨hin, hf⟩ := agd_some hf
      refine va_iald hx hb hK hP 1 0 rfl rfl hin dX6_depthOf_15 ?_
      refine lv_goto (tgt := 20) hx hb dX6_depthOf_16 (by decide) ?_
      have ho := Option.some.inj hf
      subst ho
      exact hrt H locs ls _ hP hD hS dX6_depthOf_20
set_option maxHeartbeats 4000000 in
set_option maxRecDepth 100000 in
theorem mX6_depthOf (l : Launch) (D : va_G) (cI cJ : ClassId) (sz : Nat) {a_this : Nat} {a_behinds : Nat} {a_depths : Nat} {i_size : Int32} {i_isRing : Int32} {i_overOthers : Int32} {i_longestLeap : Int32} {g_depths : Nat → Int32} {z : Nat} {x1 : Int32} {o : Int32} (hf : fX6_depthOf z x1 g_depths = some o) : Met l yX6_depthOf wsX6_depthOf rX6_depthOf (va_Pc [.ref a_this, .int x1] (kP D cI cJ (uX6_depthOf cI cJ a_this a_behinds a_depths i_size i_isRing i_overOthers i_longestLeap g_depths) sz)) (va_Qi (fun r' (_ : Unit) => r' = o) (fun _ t => kB D (va_A (uX6_depthOf cI cJ a_this a_behinds a_depths i_size i_isRing i_overOthers i_longestLeap g_depths) sz) (uX6_depthOf cI cJ a_this a_behinds a_depths i_size i_isRing i_overOthers i_longestLeap g_depths) t) (va_A (uX6_depthOf cI cJ a_this a_behinds a_depths i_size i_isRing i_overOthers i_longestLeap g_depths) sz)) 0 0 (va_A (uX6_depthOf cI cJ a_this a_behinds a_depths i_size i_isRing i_overOthers i_longestLeap g_depths) sz) :=
  met_i (by decide) rfl (Nat.le_of_ble_eq_true rfl) (fun p e s m below meth c A Q C hrt ls hl hP hD hS => kX6_depthOf_0 (A := A) C hf hrt hP hD hS hl)

/-! ===== FrogsOnRing$Ending.levelOf(I)I ===== -/
abbrev uX2_levelOf (cI cJ : ClassId) (a_this : Nat) (a_pond : Nat) (a_moves : Nat) (a_numbering : Nat) (a_search : Nat) (a_levelEnds : Nat) (a_sorted : Nat) (a_mosts : Nat) (a_winners : Nat) (i_settledLook : Int32) (a_pond_behinds : Nat) (a_pond_depths : Nat) (i_pond_size : Int32) (i_pond_isRing : Int32) (i_pond_overOthers : Int32) (i_pond_longestLeap : Int32) (g_pond_depths : Nat → Int32) : va_W := [(a_this, .inr (2, [.ref a_pond, .ref a_moves, .ref a_numbering, .ref a_search, .ref a_levelEnds, .ref a_sorted, .ref a_mosts, .ref a_winners, .int i_settledLook])), (a_pond, .inr (6, [.ref a_pond_behinds, .ref a_pond_depths, .int i_pond_size, .int i_pond_isRing, .int i_pond_overOthers, .int i_pond_longestLeap])), (a_pond_depths, .inl (cI, 9, .inl g_pond_depths))]
def rX2_levelOf : Room := { frames := 1, cells := 0, slots := 0, locals := 24 }
theorem hdX2_levelOf : yX2_levelOf.cls = RX2 ∧ yX2_levelOf.cls ≠ "java/lang/invoke/MethodHandle" ∧ yX2_levelOf.cls ≠ "java/lang/invoke/VarHandle" ∧ (parseMethodDescriptor yX2_levelOf.desc).map (fun d => d.parameters.length) = some 1 := by decide +kernel
set_option maxRecDepth 20000 in
theorem jX2_levelOf_X2 : ∀ w ∈ u_ws RX2 TX2 9, w ∈ wsX2_levelOf := by decide +kernel
set_option maxRecDepth 20000 in
theorem jX2_levelOf_X6 : ∀ w ∈ u_ws RX6 TX6 6, w ∈ wsX2_levelOf := by decide +kernel
set_option maxRecDepth 20000 in
theorem qX2_levelOf_24 : Cond.fieldLink RX2 24 "FrogsOnRing$Ending" "pond" "LFrogsOnRing$Pond;" ∈ wsX2_levelOf := by decide +kernel
set_option maxRecDepth 20000 in
theorem qX2_levelOf_81 : Cond.fieldLink RX2 81 "FrogsOnRing$Pond" "size" "I" ∈ wsX2_levelOf := by decide +kernel
set_option maxRecDepth 20000 in
theorem qX2_levelOf_iX9_kindAt : Cond.initialized yX9_kindAt.cls ∈ wsX2_levelOf := by decide +kernel
set_option maxRecDepth 20000 in
theorem qX2_levelOf_l59 : Cond.methodLink RX2 59 Lib.Math.min.name ∈ wsX2_levelOf := by decide +kernel
set_option maxRecDepth 20000 in
theorem qX2_levelOf_l92 : Cond.methodLink RX2 92 Lib.Math.max.name ∈ wsX2_levelOf := by decide +kernel
set_option maxRecDepth 20000 in
theorem qX2_levelOf_maxc : Cond.code Lib.Math.max.name Lib.Math.max.code 2 (some .int) ∈ wsX2_levelOf := by decide +kernel
set_option maxRecDepth 20000 in
theorem qX2_levelOf_maxs : Cond.static Lib.Math.max.name ∈ wsX2_levelOf := by decide +kernel
set_option maxRecDepth 20000 in
theorem qX2_levelOf_mi : Cond.initialized "java/lang/Math" ∈ wsX2_levelOf := by decide +kernel
set_option maxRecDepth 20000 in
theorem qX2_levelOf_minc : Cond.code Lib.Math.min.name Lib.Math.min.code 2 (some .int) ∈ wsX2_levelOf := by decide +kernel
set_option maxRecDepth 20000 in
theorem qX2_levelOf_mins : Cond.static Lib.Math.min.name ∈ wsX2_levelOf := by decide +kernel
set_option maxRecDepth 20000 in
theorem qX2_levelOf_sX9_kindAt : Cond.static yX9_kindAt ∈ wsX2_levelOf := by decide +kernel
set_option maxHeartbeats 4000000 in
set_option maxRecDepth 100000 in
theorem kX2_levelOf_L5 {p : Program} {l : Launch} {e : Env} {s : State} {m : MethodId} {args : Array Value} {below : List Frame} {meth : Method} {c : Code} {Q : State → Prop} {A : Nat → Prop} {D : va_G} {cI cJ : ClassId} (C : bC cX2_levelOf 5 RX2 wsX2_levelOf D cI cJ p s m args c meth A)
    {a_this : Nat} {a_pond : Nat} {a_moves : Nat} {a_numbering : Nat} {a_search : Nat} {a_levelEnds : Nat} {a_sorted : Nat} {a_mosts : Nat} {a_winners : Nat} {i_settledLook : Int32} {a_pond_behinds : Nat} {a_pond_depths : Nat} {i_pond_size : Int32} {i_pond_isRing : Int32} {i_pond_overOthers : Int32} {i_pond_longestLeap : Int32} {g_pond_depths : Nat → Int32} {z : Nat} {x1 : Int32} {x2 : Int32} {x3 : Int32} {o : (Int32 × Int32) ⊕ (Int32)} (hf : fX2_levelOf_L5 z x1 x2 x3 i_pond_size g_pond_depths = some o)
    (hbk : ∀ s', o = .inl s' → ∀ (H : Heap) (locs : List Loc) (ls : Array Slot), va_P D vwCl (uX2_levelOf cI cJ a_this a_pond a_moves a_numbering a_search a_levelEnds a_sorted a_mosts a_winners i_settledLook a_pond_behinds a_pond_depths i_pond_size i_pond_isRing i_pond_overOthers i_pond_longestLeap g_pond_depths) H → va_D A (uX2_levelOf cI cJ a_this a_pond a_moves a_numbering a_search a_levelEnds a_sorted a_mosts a_winners i_settledLook a_pond_behinds a_pond_depths i_pond_size i_pond_isRing i_pond_overOthers i_pond_longestLeap g_pond_depths) → va_S A s.heap H locs → lv_has ls 5 [(0, .ref a_this), (1, .int x1), (2, .int s'.1), (3, .int s'.2)] → W p l e rX2_levelOf s m args below meth c H locs 0 0 Q (F0 m 5 ls []))
    (hex : ∀ e', o = .inr e' → ∀ (H : Heap) (locs : List Loc) (ls : Array Slot), va_P D vwCl (uX2_levelOf cI cJ a_this a_pond a_moves a_numbering a_search a_levelEnds a_sorted a_mosts a_winners i_settledLook a_pond_behinds a_pond_depths i_pond_size i_pond_isRing i_pond_overOthers i_pond_longestLeap g_pond_depths) H → va_D A (uX2_levelOf cI cJ a_this a_pond a_moves a_numbering a_search a_levelEnds a_sorted a_mosts a_winners i_settledLook a_pond_behinds a_pond_depths i_pond_size i_pond_isRing i_pond_overOthers i_pond_longestLeap g_pond_depths) → va_S A s.heap H locs → lv_has ls 5 [(2, .int e')] → W p l e rX2_levelOf s m args below meth c H locs 0 0 Q (F0 m 66 ls []))
    {H : Heap} {locs : List Loc} {ls : Array Slot} (hP : va_P D vwCl (uX2_levelOf cI cJ a_this a_pond a_moves a_numbering a_search a_levelEnds a_sorted a_mosts a_winners i_settledLook a_pond_behinds a_pond_depths i_pond_size i_pond_isRing i_pond_overOthers i_pond_longestLeap g_pond_depths) H) (hD : va_D A (uX2_levelOf cI cJ a_this a_pond a_moves a_numbering a_search a_levelEnds a_sorted a_mosts a_winners i_settledLook a_pond_behinds a_pond_depths i_pond_size i_pond_isRing i_pond_overOthers i_pond_longestLeap g_pond_depths)) (hS : va_S A s.heap H locs) (hl : lv_has ls 5 [(0, .ref a_this), (1, .int x1), (2, .int x2), (3, .int x3)]) : W p l e rX2_levelOf s m args below meth c H locs 0 0 Q (F0 m 5 ls []) := by
  obtain ⟨hx, hb, hml, hown, hts, hK, hN, hA, hlocks⟩ := id C
  unfold fX2_levelOf_L5 at hf
  refine lv_iload_n hx hb dX2_levelOf_5 rfl (lv_at hl 3 rfl) ?_
  refine lv_aload_n hx hb dX2_levelOf_6 rfl (lv_at hl 0 rfl) ?_
  refine va_get (D := D) (ci := 2) (v := .ref a_pond) (C := RX2) (T := TX2) (N := 9) hx hb hts jX2_levelOf_X2 hown hK hP 0 rfl rfl 0 (by decide) (hts _ qX2_levelOf_24) (fun _ h9 => h9) rfl dX2_levelOf_7 ?_
  refine va_get (D := D) (ci := 6) (v := .int i_pond_size) (C := RX6) (T := TX6) (N := 6) hx hb hts jX2_levelOf_X6 hown hK hP 1 rfl rfl 2 (by decide) (hts _ qX2_levelOf_81) (fun _ h9 => h9) rfl dX2_levelOf_10 ?_
  refine lv_icmp_ge (tgt := 66) hx hb dX2_levelOf_13 (by decide) (fun hc => ?_) (fun hc => ?_)
  · have hf := if_yes hc hf
    have ho := Option.some.inj hf
    subst ho
    exact hex _ rfl _ _ _ hP hD hS (lv_sub hl [2] rfl)
  · have hf := if_no hc hf
    refine lv_iload_n hx hb dX2_levelOf_16 rfl (lv_at hl 1 rfl) ?_
    refine lv_iload_n hx hb dX2_levelOf_17 rfl (lv_at hl 3 rfl) ?_
    refine cl_i (wc := (uX9_kindAt cI cJ)) (w1 := (uX9_kindAt cI cJ)) (rn_N (As := [.int x1, .int x3]) (rest := []) (wc := (uX9_kindAt cI cJ)) C hP hD [] rfl rfl (mX9_kindAt l D cI cJ H.size) 2 gX2_levelOf_X9_kindAt_n86 qX2_levelOf_iX9_kindAt qX2_levelOf_sX9_kindAt 14 rfl rfl ⟨rfl, rfl, Nat.le_of_ble_eq_true rfl, Nat.le_of_ble_eq_true rfl⟩ hdX9_kindAt.2 rfl hl.1 rfl (Nat.le_of_ble_eq_true rfl) dX2_levelOf_18) hP hD hS hA [] rfl rfl (fun H locs hP hD hS => ?_)
    have hP : va_P D vwCl (uX2_levelOf cI cJ a_this a_pond a_moves a_numbering a_search a_levelEnds a_sorted a_mosts a_winners i_settledLook a_pond_behinds a_pond_depths i_pond_size i_pond_isRing i_pond_overOthers i_pond_longestLeap g_pond_depths) H := hP
    have hD : va_D A (uX2_levelOf cI cJ a_this a_pond a_moves a_numbering a_search a_levelEnds a_sorted a_mosts a_winners i_settledLook a_pond_behinds a_pond_depths i_pond_size i_pond_isRing i_pond_overOthers i_pond_longestLeap g_pond_depths) := hD
    refine lv_istore (lv' := [(4, .int (fX9_kindAt x1 x3)), (0, .ref a_this), (1, .int x1), (2, .int x2), (3, .int x3)]) hx hb dX2_levelOf_21 hl (by decide) rfl (fun ls hl => ?_)
    refine lv_iload hx hb dX2_levelOf_23 (lv_at hl 0 rfl) ?_
    refine lv_iconst (v := 1) hx hb dX2_levelOf_25 (by decide) ?_
    refine lv_icmp_ne (tgt := 43) hx hb dX2_levelOf_26 (by decide) (fun hc => ?_) (fun hc => ?_)
    · have hf := if_no hc hf
      refine lv_iload hx hb dX2_levelOf_43 (lv_at hl 0 rfl) ?_
      refine lv_iconst (v := 2) hx hb dX2_levelOf_45 (by decide) ?_
      refine lv_icmp_ne (tgt := 60) hx hb dX2_levelOf_46 (by decide) (fun hc => ?_) (fun hc => ?_)
      · have hf := if_no hc hf
        refine lv_iinc (v := (x3 + 1)) (lv' := [(3, .int (x3 + 1)), (4, .int (fX9_kindAt x1 x3)), (0, .ref a_this), (1, .int x1), (2, .int x2)]) hx hb dX2_levelOf_60 hl (k := 4) rfl rfl (by decide) rfl (fun ls hl => ?_)
        refine lv_goto (tgt := 5) hx hb dX2_levelOf_63 (by decide) ?_
        have ho := Option.some.inj hf
        subst ho
        exact hbk _ rfl _ _ _ hP hD hS (lv_sub hl [2, 3, 4, 0] rfl)
      · have hf := if_yes hc hf
        refine lv_iload_n hx hb dX2_levelOf_49 rfl (lv_at hl 3 rfl) ?_
        refine lv_aload_n hx hb dX2_levelOf_50 rfl (lv_at hl 1 rfl) ?_
        refine va_get (D := D) (ci := 2) (v := .ref a_pond) (C := RX2) (T := TX2) (N := 9) hx hb hts jX2_levelOf_X2 hown hK hP 0 rfl rfl 0 (by decide) (hts _ qX2_levelOf_24) (fun _ h9 => h9) rfl dX2_levelOf_51 ?_
        refine lv_iload_n hx hb dX2_levelOf_54 rfl (lv_at hl 4 rfl) ?_
        obtain ⟨q1, hq, hf⟩ := ob_some hf
        refine cl_i (wc := (uX6_depthOf cI cJ a_pond a_pond_behinds a_pond_depths i_pond_size i_pond_isRing i_pond_overOthers i_pond_longestLeap g_pond_depths)) (w1 := (uX6_depthOf cI cJ a_pond a_pond_behinds a_pond_depths i_pond_size i_pond_isRing i_pond_overOthers i_pond_longestLeap g_pond_depths)) (rn_V (As := [.int x3]) (b := a_pond) (rest := [.int x2]) (wc := (uX6_depthOf cI cJ a_pond a_pond_behinds a_pond_depths i_pond_size i_pond_isRing i_pond_overOthers i_pond_longestLeap g_pond_depths)) (ci := 6) (q0 := 1) C hP hD [1, 2] rfl rfl rfl rfl (mX6_depthOf l D cI cJ H.size hq) 1 gX2_levelOf_X6_depthOf rfl ⟨rfl, rfl, Nat.le_of_ble_eq_true rfl, Nat.le_of_ble_eq_true rfl⟩ hdX6_depthOf rfl hl.1 rfl (Nat.le_of_ble_eq_true rfl) dX2_levelOf_55) hP hD hS hA [1, 2] rfl rfl (fun H locs hP hD hS => ?_)
        have hP : va_P D vwCl (uX2_levelOf cI cJ a_this a_pond a_moves a_numbering a_search a_levelEnds a_sorted a_mosts a_winners i_settledLook a_pond_behinds a_pond_depths i_pond_size i_pond_isRing i_pond_overOthers i_pond_longestLeap g_pond_depths) H := hP
        have hD : va_D A (uX2_levelOf cI cJ a_this a_pond a_moves a_numbering a_search a_levelEnds a_sorted a_mosts a_winners i_settledLook a_pond_behinds a_pond_depths i_pond_size i_pond_isRing i_pond_overOthers i_pond_longestLeap g_pond_depths) := hD
        refine lv_isub hx hb dX2_levelOf_58 ?_
        refine lv_istore_n (lv' := [(2, .int (x2 - q1)), (4, .int (fX9_kindAt x1 x3)), (0, .ref a_this), (1, .int x1), (3, .int x3)]) hx hb dX2_levelOf_59 rfl hl (by decide) rfl (fun ls hl => ?_)
        refine lv_iinc (v := (x3 + 1)) (lv' := [(3, .int (x3 + 1)), (2, .int (x2 - q1)), (4, .int (fX9_kindAt x1 x3)), (0, .ref a_this), (1, .int x1)]) hx hb dX2_levelOf_60 hl (k := 4) rfl rfl (by decide) rfl (fun ls hl => ?_)
        refine lv_goto (tgt := 5) hx hb dX2_levelOf_63 (by decide) ?_
        have ho := Option.some.inj hf
        subst ho
        exact hbk _ rfl _ _ _ hP hD hS (lv_sub hl [3, 4, 1, 0] rfl)
    · have hf := if_yes hc hf
      refine lv_iload_n hx hb dX2_levelOf_29 rfl (lv_at hl 3 rfl) ?_
      refine lv_aload_n hx hb dX2_levelOf_30 rfl (lv_at hl 1 rfl) ?_
      refine va_get (D := D) (ci := 2) (v := .ref a_pond) (C := RX2) (T := TX2) (N := 9) hx hb hts jX2_levelOf_X2 hown hK hP 0 rfl rfl 0 (by decide) (hts _ qX2_levelOf_24) (fun _ h9 => h9) rfl dX2_levelOf_31 ?_
      refine lv_iload_n hx hb dX2_levelOf_34 rfl (lv_at hl 4 rfl) ?_
      obtain ⟨q2, hq, hf⟩ := ob_some hf
      refine cl_i (wc := (uX6_depthOf cI cJ a_pond a_pond_behinds a_pond_depths i_pond_size i_pond_isRing i_pond_overOthers i_pond_longestLeap g_pond_depths)) (w1 := (uX6_depthOf cI cJ a_pond a_pond_behinds a_pond_depths i_pond_size i_pond_isRing i_pond_overOthers i_pond_longestLeap g_pond_depths)) (rn_V (As := [.int x3]) (b := a_pond) (rest := [.int x2]) (wc := (uX6_depthOf cI cJ a_pond a_pond_behinds a_pond_depths i_pond_size i_pond_isRing i_pond_overOthers i_pond_longestLeap g_pond_depths)) (ci := 6) (q0 := 1) C hP hD [1, 2] rfl rfl rfl rfl (mX6_depthOf l D cI cJ H.size hq) 1 gX2_levelOf_X6_depthOf rfl ⟨rfl, rfl, Nat.le_of_ble_eq_true rfl, Nat.le_of_ble_eq_true rfl⟩ hdX6_depthOf rfl hl.1 rfl (Nat.le_of_ble_eq_true rfl) dX2_levelOf_35) hP hD hS hA [1, 2] rfl rfl (fun H locs hP hD hS => ?_)
      have hP : va_P D vwCl (uX2_levelOf cI cJ a_this a_pond a_moves a_numbering a_search a_levelEnds a_sorted a_mosts a_winners i_settledLook a_pond_behinds a_pond_depths i_pond_size i_pond_isRing i_pond_overOthers i_pond_longestLeap g_pond_depths) H := hP
      have hD : va_D A (uX2_levelOf cI cJ a_this a_pond a_moves a_numbering a_search a_levelEnds a_sorted a_mosts a_winners i_settledLook a_pond_behinds a_pond_depths i_pond_size i_pond_isRing i_pond_overOthers i_pond_longestLeap g_pond_depths) := hD
      refine lv_iadd hx hb dX2_levelOf_38 ?_
      refine lv_istore_n (lv' := [(2, .int (x2 + q2)), (4, .int (fX9_kindAt x1 x3)), (0, .ref a_this), (1, .int x1), (3, .int x3)]) hx hb dX2_levelOf_39 rfl hl (by decide) rfl (fun ls hl => ?_)
      refine lv_goto (tgt := 60) hx hb dX2_levelOf_40 (by decide) ?_
      refine lv_iinc (v := (x3 + 1)) (lv' := [(3, .int (x3 + 1)), (2, .int (x2 + q2)), (4, .int (fX9_kindAt x1 x3)), (0, .ref a_this), (1, .int x1)]) hx hb dX2_levelOf_60 hl (k := 4) rfl rfl (by decide) rfl (fun ls hl => ?_)
      refine lv_goto (tgt := 5) hx hb dX2_levelOf_63 (by decide) ?_
      have ho := Option.some.inj hf
      subst ho
      exact hbk _ rfl _ _ _ hP hD hS (lv_sub hl [3, 4, 1, 0] rfl)
set_option maxHeartbeats 4000000 in
set_option maxRecDepth 100000 in
theorem kX2_levelOf_J66 {p : Program} {l : Launch} {e : Env} {s : State} {m : MethodId} {args : Array Value} {below : List Frame} {meth : Method} {c : Code} {Q : State → Prop} {A : Nat → Prop} {D : va_G} {cI cJ : ClassId} (C : bC cX2_levelOf 5 RX2 wsX2_levelOf D cI cJ p s m args c meth A)
    {a_this : Nat} {a_pond : Nat} {a_moves : Nat} {a_numbering : Nat} {a_search : Nat} {a_levelEnds : Nat} {a_sorted : Nat} {a_mosts : Nat} {a_winners : Nat} {i_settledLook : Int32} {a_pond_behinds : Nat} {a_pond_depths : Nat} {i_pond_size : Int32} {i_pond_isRing : Int32} {i_pond_overOthers : Int32} {i_pond_longestLeap : Int32} {g_pond_depths : Nat → Int32} {z : Nat} {x2 : Int32} {o : Int32} (hf : fX2_levelOf_J66 z x2 i_pond_size g_pond_depths = some o)
    (hrt : ∀ (H : Heap) (locs : List Loc) (ls : Array Slot) (pc : Nat), va_P D vwCl (uX2_levelOf cI cJ a_this a_pond a_moves a_numbering a_search a_levelEnds a_sorted a_mosts a_winners i_settledLook a_pond_behinds a_pond_depths i_pond_size i_pond_isRing i_pond_overOthers i_pond_longestLeap g_pond_depths) H → va_D A (uX2_levelOf cI cJ a_this a_pond a_moves a_numbering a_search a_levelEnds a_sorted a_mosts a_winners i_settledLook a_pond_behinds a_pond_depths i_pond_size i_pond_isRing i_pond_overOthers i_pond_longestLeap g_pond_depths) → va_S A s.heap H locs → decode cX2_levelOf pc = .ok (.ireturn, 1) → W p l e rX2_levelOf s m args below meth c H locs 0 0 Q (F0 m pc ls [.int o]))
    {H : Heap} {locs : List Loc} {ls : Array Slot} (hP : va_P D vwCl (uX2_levelOf cI cJ a_this a_pond a_moves a_numbering a_search a_levelEnds a_sorted a_mosts a_winners i_settledLook a_pond_behinds a_pond_depths i_pond_size i_pond_isRing i_pond_overOthers i_pond_longestLeap g_pond_depths) H) (hD : va_D A (uX2_levelOf cI cJ a_this a_pond a_moves a_numbering a_search a_levelEnds a_sorted a_mosts a_winners i_settledLook a_pond_behinds a_pond_depths i_pond_size i_pond_isRing i_pond_overOthers i_pond_longestLeap g_pond_depths)) (hS : va_S A s.heap H locs) (hl : lv_has ls 5 [(2, .int x2)]) : W p l e rX2_levelOf s m args below meth c H locs 0 0 Q (F0 m 66 ls []) := by
  obtain ⟨hx, hb, hml, hown, hts, hK, hN, hA, hlocks⟩ := id C
  unfold fX2_levelOf_J66 at hf
  refine lv_iconst (v := 0) hx hb dX2_levelOf_66 (by decide) ?_
  refine lv_iload_n hx hb dX2_levelOf_67 rfl (lv_at hl 0 rfl) ?_
  refine lv_sipush (v := 144) hx hb dX2_levelOf_68 (by decide) ?_
  refine lw_mmin hx hb (hml.trans hl.1.symm) hown (hts _ qX2_levelOf_l59) (hts _ qX2_levelOf_mins) (hts _ qX2_levelOf_mi) (hts _ qX2_levelOf_minc) (Nat.le_of_ble_eq_true rfl) (Nat.le_of_ble_eq_true rfl) (Nat.zero_le _) (Nat.zero_le _) dX2_levelOf_71 ?_
  refine lw_mmax hx hb (hml.trans hl.1.symm) hown (hts _ qX2_levelOf_l92) (hts _ qX2_levelOf_maxs) (hts _ qX2_levelOf_mi) (hts _ qX2_levelOf_maxc) (Nat.le_of_ble_eq_true rfl) (Nat.le_of_ble_eq_true rfl) (Nat.zero_le _) (Nat.zero_le _) dX2_levelOf_74 ?_
  have ho := Option.some.inj hf
  subst ho
  exact hrt H locs ls _ hP hD hS dX2_levelOf_77
set_option maxHeartbeats 4000000 in
set_option maxRecDepth 100000 in
theorem kX2_levelOf_0 {p : Program} {l : Launch} {e : Env} {s : State} {m : MethodId} {args : Array Value} {below : List Frame} {meth : Method} {c : Code} {Q : State → Prop} {A : Nat → Prop} {D : va_G} {cI cJ : ClassId} (C : bC cX2_levelOf 5 RX2 wsX2_levelOf D cI cJ p s m args c meth A)
    {a_this : Nat} {a_pond : Nat} {a_moves : Nat} {a_numbering : Nat} {a_search : Nat} {a_levelEnds : Nat} {a_sorted : Nat} {a_mosts : Nat} {a_winners : Nat} {i_settledLook : Int32} {a_pond_behinds : Nat} {a_pond_depths : Nat} {i_pond_size : Int32} {i_pond_isRing : Int32} {i_pond_overOthers : Int32} {i_pond_longestLeap : Int32} {g_pond_depths : Nat → Int32} {z : Nat} {x1 : Int32} {o : Int32} (hf : fX2_levelOf z x1 i_pond_size g_pond_depths = some o)
    (hrt : ∀ (H : Heap) (locs : List Loc) (ls : Array Slot) (pc : Nat), va_P D vwCl (uX2_levelOf cI cJ a_this a_pond a_moves a_numbering a_search a_levelEnds a_sorted a_mosts a_winners i_settledLook a_pond_behinds a_pond_depths i_pond_size i_pond_isRing i_pond_overOthers i_pond_longestLeap g_pond_depths) H → va_D A (uX2_levelOf cI cJ a_this a_pond a_moves a_numbering a_search a_levelEnds a_sorted a_mosts a_winners i_settledLook a_pond_behinds a_pond_depths i_pond_size i_pond_isRing i_pond_overOthers i_pond_longestLeap g_pond_depths) → va_S A s.heap H locs → decode cX2_levelOf pc = .ok (.ireturn, 1) → W p l e rX2_levelOf s m args below meth c H locs 0 0 Q (F0 m pc ls [.int o]))
    {H : Heap} {locs : List Loc} {ls : Array Slot} (hP : va_P D vwCl (uX2_levelOf cI cJ a_this a_pond a_moves a_numbering a_search a_levelEnds a_sorted a_mosts a_winners i_settledLook a_pond_behinds a_pond_depths i_pond_size i_pond_isRing i_pond_overOthers i_pond_longestLeap g_pond_depths) H) (hD : va_D A (uX2_levelOf cI cJ a_this a_pond a_moves a_numbering a_search a_levelEnds a_sorted a_mosts a_winners i_settledLook a_pond_behinds a_pond_depths i_pond_size i_pond_isRing i_pond_overOthers i_pond_longestLeap g_pond_depths)) (hS : va_S A s.heap H locs) (hl : lv_has ls 5 [(0, .ref a_this), (1, .int x1)]) : W p l e rX2_levelOf s m args below meth c H locs 0 0 Q (F0 m 0 ls []) := by
  obtain ⟨hx, hb, hml, hown, hts, hK, hN, hA, hlocks⟩ := id C
  unfold fX2_levelOf at hf
  refine lv_bipush (v := 72) hx hb dX2_levelOf_0 (by decide) ?_
  refine lv_istore_n (lv' := [(2, .int 72), (0, .ref a_this), (1, .int x1)]) hx hb dX2_levelOf_2 rfl hl (by decide) rfl (fun ls hl => ?_)
  refine lv_iconst (v := 0) hx hb dX2_levelOf_3 (by decide) ?_
  refine lv_istore_n (lv' := [(3, .int 0), (2, .int 72), (0, .ref a_this), (1, .int x1)]) hx hb dX2_levelOf_4 rfl hl (by decide) rfl (fun ls hl => ?_)
  obtain ⟨ex, hlp, hf⟩ := ob_some hf
  refine lp_ind (P := fun sg => ∀ (H : Heap) (locs : List Loc) (ls : Array Slot), va_P D vwCl (uX2_levelOf cI cJ a_this a_pond a_moves a_numbering a_search a_levelEnds a_sorted a_mosts a_winners i_settledLook a_pond_behinds a_pond_depths i_pond_size i_pond_isRing i_pond_overOthers i_pond_longestLeap g_pond_depths) H → va_D A (uX2_levelOf cI cJ a_this a_pond a_moves a_numbering a_search a_levelEnds a_sorted a_mosts a_winners i_settledLook a_pond_behinds a_pond_depths i_pond_size i_pond_isRing i_pond_overOthers i_pond_longestLeap g_pond_depths) → va_S A s.heap H locs → lv_has ls 5 [(0, .ref a_this), (1, .int x1), (2, .int sg.1), (3, .int sg.2)] → W p l e rX2_levelOf s m args below meth c H locs 0 0 Q (F0 m 5 ls [])) ?_ z _ hlp H locs ls hP hD hS (lv_sub hl [2, 3, 1, 0] rfl)
  intro sg og hbo hback hexit H locs ls hP hD hS hl
  refine kX2_levelOf_L5 C hbo (fun s' h => hback s' h) (fun ex h H locs ls hP hD hS hl => ?_) hP hD hS hl
  have he := hexit _ h
  subst he
  exact kX2_levelOf_J66 C hf hrt hP hD hS (lv_sub hl [0] rfl)
set_option maxHeartbeats 4000000 in
set_option maxRecDepth 100000 in
theorem mX2_levelOf (l : Launch) (D : va_G) (cI cJ : ClassId) (sz : Nat) {a_this : Nat} {a_pond : Nat} {a_moves : Nat} {a_numbering : Nat} {a_search : Nat} {a_levelEnds : Nat} {a_sorted : Nat} {a_mosts : Nat} {a_winners : Nat} {i_settledLook : Int32} {a_pond_behinds : Nat} {a_pond_depths : Nat} {i_pond_size : Int32} {i_pond_isRing : Int32} {i_pond_overOthers : Int32} {i_pond_longestLeap : Int32} {g_pond_depths : Nat → Int32} {z : Nat} {x1 : Int32} {o : Int32} (hf : fX2_levelOf z x1 i_pond_size g_pond_depths = some o) : Met l yX2_levelOf wsX2_levelOf rX2_levelOf (va_Pc [.ref a_this, .int x1] (kP D cI cJ (uX2_levelOf cI cJ a_this a_pond a_moves a_numbering a_search a_levelEnds a_sorted a_mosts a_winners i_settledLook a_pond_behinds a_pond_depths i_pond_size i_pond_isRing i_pond_overOthers i_pond_longestLeap g_pond_depths) sz)) (va_Qi (fun r' (_ : Unit) => r' = o) (fun _ t => kB D (va_A (uX2_levelOf cI cJ a_this a_pond a_moves a_numbering a_search a_levelEnds a_sorted a_mosts a_winners i_settledLook a_pond_behinds a_pond_depths i_pond_size i_pond_isRing i_pond_overOthers i_pond_longestLeap g_pond_depths) sz) (uX2_levelOf cI cJ a_this a_pond a_moves a_numbering a_search a_levelEnds a_sorted a_mosts a_winners i_settledLook a_pond_behinds a_pond_depths i_pond_size i_pond_isRing i_pond_overOthers i_pond_longestLeap g_pond_depths) t) (va_A (uX2_levelOf cI cJ a_this a_pond a_moves a_numbering a_search a_levelEnds a_sorted a_mosts a_winners i_settledLook a_pond_behinds a_pond_depths i_pond_size i_pond_isRing i_pond_overOthers i_pond_longestLeap g_pond_depths) sz)) 0 0 (va_A (uX2_levelOf cI cJ a_this a_pond a_moves a_numbering a_search a_levelEnds a_sorted a_mosts a_winners i_settledLook a_pond_behinds a_pond_depths i_pond_size i_pond_isRing i_pond_overOthers i_pond_longestLeap g_pond_depths) sz) :=
  met_i (by decide) rfl (Nat.le_of_ble_eq_true rfl) (fun p e s m below meth c A Q C hrt ls hl hP hD hS => kX2_levelOf_0 (A := A) C hf hrt hP hD hS hl)

