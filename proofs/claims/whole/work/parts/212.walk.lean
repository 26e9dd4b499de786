/-! ===== FrogsOnRing.stone(II)I ===== -/
abbrev uX9_stone (cI cJ : ClassId) (a_this : Nat) (a_page : Nat) (a_reading : Nat) (a_pond : Nat) (a_moves : Nat) (a_numbering : Nat) (a_search : Nat) (a_ending : Nat) (a_chance : Nat) (a_now : Nat) (a_kept : Nat) (i_keptStands : Int32) (i_aimed : Int32) (i_hasAim : Int32) (i_reads : Int32) (a_pond_behinds : Nat) (a_pond_depths : Nat) (i_pond_size : Int32) (i_pond_isRing : Int32) (i_pond_overOthers : Int32) (i_pond_longestLeap : Int32) (g_pond_behinds : Nat → Int32) (a_now_froms : Nat) (a_now_tos : Nat) (i_now_made : Int32) (i_now_order : Int32) : va_W := [(a_this, .inr (9, [.ref a_page, .ref a_reading, .ref a_pond, .ref a_moves, .ref a_numbering, .ref a_search, .ref a_ending, .ref a_chance, .ref a_now, .ref a_kept, .int i_keptStands, .int i_aimed, .int i_hasAim, .int i_reads])), (a_pond, .inr (6, [.ref a_pond_behinds, .ref a_pond_depths, .int i_pond_size, .int i_pond_isRing, .int i_pond_overOthers, .int i_pond_longestLeap])), (a_pond_behinds, .inl (cI, 9, .inl g_pond_behinds)), (a_now, .inr (1, [.ref a_now_froms, .ref a_now_tos, .int i_now_made, .int i_now_order]))]
def rX9_stone : Room := { frames := 2, cells := 0, slots := 0, locals := 43 }
theorem hdX9_stone : yX9_stone.cls = RX9 ∧ yX9_stone.cls ≠ "java/lang/invoke/MethodHandle" ∧ yX9_stone.cls ≠ "java/lang/invoke/VarHandle" ∧ (parseMethodDescriptor yX9_stone.desc).map (fun d => d.parameters.length) = some 2 := by decide +kernel
set_option maxRecDepth 20000 in
theorem jX9_stone_X1 : ∀ w ∈ u_ws RX1 TX1 4, w ∈ wsX9_stone := by decide +kernel
set_option maxRecDepth 20000 in
theorem jX9_stone_X9 : ∀ w ∈ u_ws RX9 TX9 14, w ∈ wsX9_stone := by decide +kernel
set_option maxRecDepth 20000 in
theorem qX9_stone_123 : Cond.fieldLink RX9 123 "FrogsOnRing$Course" "order" "I" ∈ wsX9_stone := by decide +kernel
set_option maxRecDepth 20000 in
theorem qX9_stone_136 : Cond.fieldLink RX9 136 "FrogsOnRing" "hasAim" "Z" ∈ wsX9_stone := by decide +kernel
set_option maxRecDepth 20000 in
theorem qX9_stone_149 : Cond.fieldLink RX9 149 "FrogsOnRing" "aimed" "I" ∈ wsX9_stone := by decide +kernel
set_option maxRecDepth 20000 in
theorem qX9_stone_26 : Cond.fieldLink RX9 26 "FrogsOnRing" "pond" "LFrogsOnRing$Pond;" ∈ wsX9_stone := by decide +kernel
set_option maxRecDepth 20000 in
theorem qX9_stone_74 : Cond.fieldLink RX9 74 "FrogsOnRing" "now" "LFrogsOnRing$Course;" ∈ wsX9_stone := by decide +kernel
set_option maxHeartbeats 4000000 in
set_option maxRecDepth 100000 in
theorem kX9_stone_0 {p : Program} {l : Launch} {e : Env} {s : State} {m : MethodId} {args : Array Value} {below : List Frame} {meth : Method} {c : Code} {Q : State → Prop} {A : Nat → Prop} {D : va_G} {cI cJ : ClassId} (C : bC cX9_stone 3 RX9 wsX9_stone D cI cJ p s m args c meth A)
    {a_this : Nat} {a_page : Nat} {a_reading : Nat} {a_pond : Nat} {a_moves : Nat} {a_numbering : Nat} {a_search : Nat} {a_ending : Nat} {a_chance : Nat} {a_now : Nat} {a_kept : Nat} {i_keptStands : Int32} {i_aimed : Int32} {i_hasAim : Int32} {i_reads : Int32} {a_pond_behinds : Nat} {a_pond_depths : Nat} {i_pond_size : Int32} {i_pond_isRing : Int32} {i_pond_overOthers : Int32} {i_pond_longestLeap : Int32} {g_pond_behinds : Nat → Int32} {a_now_froms : Nat} {a_now_tos : Nat} {i_now_made : Int32} {i_now_order : Int32} {z : Nat} {x1 : Int32} {x2 : Int32} {o : Int32} (hf : fX9_stone z x1 x2 i_pond_size i_hasAim i_aimed g_pond_behinds i_now_order = some o)
    (hrt : ∀ (H : Heap) (locs : List Loc) (ls : Array Slot) (pc : Nat), va_P D vwCl (uX9_stone cI cJ a_this a_page a_reading a_pond a_moves a_numbering a_search a_ending a_chance a_now a_kept i_keptStands i_aimed i_hasAim i_reads a_pond_behinds a_pond_depths i_pond_size i_pond_isRing i_pond_overOthers i_pond_longestLeap g_pond_behinds a_now_froms a_now_tos i_now_made i_now_order) H → va_D A (uX9_stone cI cJ a_this a_page a_reading a_pond a_moves a_numbering a_search a_ending a_chance a_now a_kept i_keptStands i_aimed i_hasAim i_reads a_pond_behinds a_pond_depths i_pond_size i_pond_isRing i_pond_overOthers i_pond_longestLeap g_pond_behinds a_now_froms a_now_tos i_now_made i_now_order) → va_S A s.heap H locs → decode cX9_stone pc = .ok (.ireturn, 1) → W p l e rX9_stone s m args below meth c H locs 0 0 Q (F0 m pc ls [.int o]))
    {H : Heap} {locs : List Loc} {ls : Array Slot} (hP : va_P D vwCl (uX9_stone cI cJ a_this a_page a_reading a_pond a_moves a_numbering a_search a_ending a_chance a_now a_kept i_keptStands i_aimed i_hasAim i_reads a_pond_behinds a_pond_depths i_pond_size i_pond_isRing i_pond_overOthers i_pond_longestLeap g_pond_behinds a_now_froms a_now_tos i_now_made i_now_order) H) (hD : va_D A (uX9_stone cI cJ a_this a_page a_reading a_pond a_moves a_numbering a_search a_ending a_chance a_now a_kept i_keptStands i_aimed i_hasAim i_reads a_pond_behinds a_pond_depths i_pond_size i_pond_isRing i_pond_overOthers i_pond_longestLeap g_pond_behinds a_now_froms a_now_tos i_now_made i_now_order)) (hS : va_S A s.heap H locs) (hl : lv_has ls 3 [(0, .ref a_this), (1, .int x1), (2, .int x2)]) : W p l e rX9_stone s m args below meth c H locs 0 0 Q (F0 m 0 ls []) := by
  obtain ⟨hx, hb, hml, hown, hts, hK, hN, hA, hlocks⟩ := id C
  unfold fX9_stone at hf
  refine lv_aload_n hx hb dX9_stone_0 rfl (lv_at hl 0 rfl) ?_
  refine lv_iload_n hx hb dX9_stone_1 rfl (lv_at hl 1 rfl) ?_
  refine cl_i (wc := (uX9_isStone cI cJ a_this a_page a_reading a_pond a_moves a_numbering a_search a_ending a_chance a_now a_kept i_keptStands i_aimed i_hasAim i_reads a_pond_behinds a_pond_depths i_pond_size i_pond_isRing i_pond_overOthers i_pond_longestLeap)) (w1 := (uX9_isStone cI cJ a_this a_page a_reading a_pond a_moves a_numbering a_search a_ending a_chance a_now a_kept i_keptStands i_aimed i_hasAim i_reads a_pond_behinds a_pond_depths i_pond_size i_pond_isRing i_pond_overOthers i_pond_longestLeap)) (rn_V (As := [.int x1]) (b := a_this) (rest := []) (wc := (uX9_isStone cI cJ a_this a_page a_reading a_pond a_moves a_numbering a_search a_ending a_chance a_now a_kept i_keptStands i_aimed i_hasAim i_reads a_pond_behinds a_pond_depths i_pond_size i_pond_isRing i_pond_overOthers i_pond_longestLeap)) (ci := 9) (q0 := 0) C hP hD [0, 1] rfl rfl rfl rfl (mX9_isStone l D cI cJ H.size) 1 gX9_stone_X9_isStone rfl ⟨rfl, rfl, Nat.le_of_ble_eq_true rfl, Nat.le_of_ble_eq_true rfl⟩ hdX9_isStone rfl hl.1 rfl (Nat.le_of_ble_eq_true rfl) dX9_stone_2) hP hD hS hA [0, 1] rfl rfl (fun H locs hP hD hS => ?_)
  have hP : va_P D vwCl (uX9_stone cI cJ a_this a_page a_reading a_pond a_moves a_numbering a_search a_ending a_chance a_now a_kept i_keptStands i_aimed i_hasAim i_reads a_pond_behinds a_pond_depths i_pond_size i_pond_isRing i_pond_overOthers i_pond_longestLeap g_pond_behinds a_now_froms a_now_tos i_now_made i_now_order) H := hP
  have hD : va_D A (uX9_stone cI cJ a_this a_page a_reading a_pond a_moves a_numbering a_search a_ending a_chance a_now a_kept i_keptStands i_aimed i_hasAim i_reads a_pond_behinds a_pond_depths i_pond_size i_pond_isRing i_pond_overOthers i_pond_longestLeap g_pond_behinds a_now_froms a_now_tos i_now_made i_now_order) := hD
  refine lv_if_ne (tgt := 11) hx hb dX9_stone_5 (by decide) (fun hc => ?_) (fun hc => ?_)
  · have hf := if_no hc hf
    refine lv_iload_n hx hb dX9_stone_11 rfl (lv_at hl 2 rfl) ?_
    by_cases hc0 : x2 = 0
    · have hf := if_yes hc0 hf
      refine lv_tableIn (tgt := 40) (off := 28) hx hb dX9_stone_12 (by rw [hc0]; decide) (by rw [hc0]; decide) (by rw [hc0]; rfl) (by decide) ?_
      refine lv_aload_n hx hb dX9_stone_40 rfl (lv_at hl 0 rfl) ?_
      refine va_get (D := D) (ci := 9) (v := .ref a_now) (C := RX9) (T := TX9) (N := 14) hx hb hts jX9_stone_X9 hown hK hP 0 rfl rfl 8 (by decide) (hts _ qX9_stone_74) (fun _ h9 => h9) rfl dX9_stone_41 ?_
      refine va_get (D := D) (ci := 1) (v := .int i_now_order) (C := RX1) (T := TX1) (N := 4) hx hb hts jX9_stone_X1 hown hK hP 3 rfl rfl 3 (by decide) (hts _ qX9_stone_123) (fun _ h9 => h9) rfl dX9_stone_44 ?_
      refine lv_iload_n hx hb dX9_stone_47 rfl (lv_at hl 1 rfl) ?_
      refine cl_i (wc := (uX9_kindToldOf cI cJ)) (w1 := (uX9_kindToldOf cI cJ)) (rn_S (As := [.int i_now_order, .int x1]) (rest := []) (wc := (uX9_kindToldOf cI cJ)) C hP hD [] rfl rfl (mX9_kindToldOf l D cI cJ H.size) 2 gX9_stone_X9_kindToldOf rfl ⟨rfl, rfl, Nat.le_of_ble_eq_true rfl, Nat.le_of_ble_eq_true rfl⟩ hdX9_kindToldOf.2 rfl hl.1 rfl (Nat.le_of_ble_eq_true rfl) dX9_stone_48) hP hD hS hA [] rfl rfl (fun H locs hP hD hS => ?_)
      have hP : va_P D vwCl (uX9_stone cI cJ a_this a_page a_reading a_pond a_moves a_numbering a_search a_ending a_chance a_now a_kept i_keptStands i_aimed i_hasAim i_reads a_pond_behinds a_pond_depths i_pond_size i_pond_isRing i_pond_overOthers i_pond_longestLeap g_pond_behinds a_now_froms a_now_tos i_now_made i_now_order) H := hP
      have hD : va_D A (uX9_stone cI cJ a_this a_page a_reading a_pond a_moves a_numbering a_search a_ending a_chance a_now a_kept i_keptStands i_aimed i_hasAim i_reads a_pond_behinds a_pond_depths i_pond_size i_pond_isRing i_pond_overOthers i_pond_longestLeap g_pond_behinds a_now_froms a_now_tos i_now_made i_now_order) := hD
      have ho := Option.some.inj hf
      subst ho
      exact hrt H locs ls _ hP hD hS dX9_stone_51
    have hf := if_no hc0 hf
    by_cases hc1 : x2 = 1
    · have hf := if_yes hc1 hf
      refine lv_tableIn (tgt := 52) (off := 40) hx hb dX9_stone_12 (by rw [hc1]; decide) (by rw [hc1]; decide) (by rw [hc1]; rfl) (by decide) ?_
      refine lv_aload_n hx hb dX9_stone_52 rfl (lv_at hl 0 rfl) ?_
      refine va_get (D := D) (ci := 9) (v := .ref a_pond) (C := RX9) (T := TX9) (N := 14) hx hb hts jX9_stone_X9 hown hK hP 0 rfl rfl 2 (by decide) (hts _ qX9_stone_26) (fun _ h9 => h9) rfl dX9_stone_53 ?_
      refine lv_iload_n hx hb dX9_stone_56 rfl (lv_at hl 1 rfl) ?_
      obtain ⟨q1, hq, hf⟩ := ob_some hf
      refine cl_i (wc := (uX6_behind cI cJ a_pond a_pond_behinds a_pond_depths i_pond_size i_pond_isRing i_pond_overOthers i_pond_longestLeap g_pond_behinds)) (w1 := (uX6_behind cI cJ a_pond a_pond_behinds a_pond_depths i_pond_size i_pond_isRing i_pond_overOthers i_pond_longestLeap g_pond_behinds)) (rn_V (As := [.int x1]) (b := a_pond) (rest := []) (wc := (uX6_behind cI cJ a_pond a_pond_behinds a_pond_depths i_pond_size i_pond_isRing i_pond_overOthers i_pond_longestLeap g_pond_behinds)) (ci := 6) (q0 := 1) C hP hD [1, 2] rfl rfl rfl rfl (mX6_behind l D cI cJ H.size hq) 1 gX9_stone_X6_behind rfl ⟨rfl, rfl, Nat.le_of_ble_eq_true rfl, Nat.le_of_ble_eq_true rfl⟩ hdX6_behind rfl hl.1 rfl (Nat.le_of_ble_eq_true rfl) dX9_stone_57) hP hD hS hA [1, 2] rfl rfl (fun H locs hP hD hS => ?_)
      have hP : va_P D vwCl (uX9_stone cI cJ a_this a_page a_reading a_pond a_moves a_numbering a_search a_ending a_chance a_now a_kept i_keptStands i_aimed i_hasAim i_reads a_pond_behinds a_pond_depths i_pond_size i_pond_isRing i_pond_overOthers i_pond_longestLeap g_pond_behinds a_now_froms a_now_tos i_now_made i_now_order) H := hP
      have hD : va_D A (uX9_stone cI cJ a_this a_page a_reading a_pond a_moves a_numbering a_search a_ending a_chance a_now a_kept i_keptStands i_aimed i_hasAim i_reads a_pond_behinds a_pond_depths i_pond_size i_pond_isRing i_pond_overOthers i_pond_longestLeap g_pond_behinds a_now_froms a_now_tos i_now_made i_now_order) := hD
      have ho := Option.some.inj hf
      subst ho
      exact hrt H locs ls _ hP hD hS dX9_stone_60
    have hf := if_no hc1 hf
    by_cases hc2 : x2 = 2
    · have hf := if_yes hc2 hf
      refine lv_tableIn (tgt := 61) (off := 49) hx hb dX9_stone_12 (by rw [hc2]; decide) (by rw [hc2]; decide) (by rw [hc2]; rfl) (by decide) ?_
      refine lv_aload_n hx hb dX9_stone_61 rfl (lv_at hl 0 rfl) ?_
      refine va_get (D := D) (ci := 9) (v := .int i_hasAim) (C := RX9) (T := TX9) (N := 14) hx hb hts jX9_stone_X9 hown hK hP 0 rfl rfl 12 (by decide) (hts _ qX9_stone_136) (fun _ h9 => h9) rfl dX9_stone_62 ?_
      refine lv_if_eq (tgt := 79) hx hb dX9_stone_65 (by decide) (fun hc => ?_) (fun hc => ?_)
      · have hf := if_yes hc hf
        refine lv_iconst (v := (-1)) hx hb dX9_stone_79 (by decide) ?_
        have ho := Option.some.inj hf
        subst ho
        exact hrt H locs ls _ hP hD hS dX9_stone_80
      · have hf := if_no hc hf
        refine lv_aload_n hx hb dX9_stone_68 rfl (lv_at hl 0 rfl) ?_
        refine va_get (D := D) (ci := 9) (v := .int i_aimed) (C := RX9) (T := TX9) (N := 14) hx hb hts jX9_stone_X9 hown hK hP 0 rfl rfl 11 (by decide) (hts _ qX9_stone_149) (fun _ h9 => h9) rfl dX9_stone_69 ?_
        refine lv_iload_n hx hb dX9_stone_72 rfl (lv_at hl 1 rfl) ?_
        refine cl_i (wc := (uX9_kindToldOf cI cJ)) (w1 := (uX9_kindToldOf cI cJ)) (rn_S (As := [.int i_aimed, .int x1]) (rest := []) (wc := (uX9_kindToldOf cI cJ)) C hP hD [] rfl rfl (mX9_kindToldOf l D cI cJ H.size) 2 gX9_stone_X9_kindToldOf rfl ⟨rfl, rfl, Nat.le_of_ble_eq_true rfl, Nat.le_of_ble_eq_true rfl⟩ hdX9_kindToldOf.2 rfl hl.1 rfl (Nat.le_of_ble_eq_true rfl) dX9_stone_73) hP hD hS hA [] rfl rfl (fun H locs hP hD hS => ?_)
        have hP : va_P D vwCl (uX9_stone cI cJ a_this a_page a_reading a_pond a_moves a_numbering a_search a_ending a_chance a_now a_kept i_keptStands i_aimed i_hasAim i_reads a_pond_behinds a_pond_depths i_pond_size i_pond_isRing i_pond_overOthers i_pond_longestLeap g_pond_behinds a_now_froms a_now_tos i_now_made i_now_order) H := hP
        have hD : va_D A (uX9_stone cI cJ a_this a_page a_reading a_pond a_moves a_numbering a_search a_ending a_chance a_now a_kept i_keptStands i_aimed i_hasAim i_reads a_pond_behinds a_pond_depths i_pond_size i_pond_isRing i_pond_overOthers i_pond_longestLeap g_pond_behinds a_now_froms a_now_tos i_now_made i_now_order) := hD
        refine lv_goto (tgt := 80) hx hb dX9_stone_76 (by decide) ?_
        have ho := Option.some.inj hf
        subst ho
        exact hrt H locs ls _ hP hD hS dX9_stone_80
    have hf := if_no hc2 hf
    have hd0 := tsw_ne hc0 (i := 0) (by decide)
    have hd1 := tsw_ne hc1 (i := 1) (by decide)
    have hd2 := tsw_ne hc2 (i := 2) (by decide)
    refine lv_tableOut (tgt := 81) hx hb dX9_stone_12 (by omega) (by decide) ?_
    refine lv_bipush (v := (-102)) hx hb dX9_stone_81 (by decide) ?_
    have ho := Option.some.inj hf
    subst ho
    exact hrt H locs ls _ hP hD hS dX9_stone_83
  · have hf := if_yes hc hf
    refine lv_bipush (v := (-101)) hx hb dX9_stone_8 (by decide) ?_
    have ho := Option.some.inj hf
    subst ho
    exact hrt H locs ls _ hP hD hS dX9_stone_10
set_option maxHeartbeats 4000000 in
set_option maxRecDepth 100000 in
theorem mX9_stone (l : Launch) (D : va_G) (cI cJ : ClassId) (sz : Nat) {a_this : Nat} {a_page : Nat} {a_reading : Nat} {a_pond : Nat} {a_moves : Nat} {a_numbering : Nat} {a_search : Nat} {a_ending : Nat} {a_chance : Nat} {a_now : Nat} {a_kept : Nat} {i_keptStands : Int32} {i_aimed : Int32} {i_hasAim : Int32} {i_reads : Int32} {a_pond_behinds : Nat} {a_pond_depths : Nat} {i_pond_size : Int32} {i_pond_isRing : Int32} {i_pond_overOthers : Int32} {i_pond_longestLeap : Int32} {g_pond_behinds : Nat → Int32} {a_now_froms : Nat} {a_now_tos : Nat} {i_now_made : Int32} {i_now_order : Int32} {z : Nat} {x1 : Int32} {x2 : Int32} {o : Int32} (hf : fX9_stone z x1 x2 i_pond_size i_hasAim i_aimed g_pond_behinds i_now_order = some o) : Met l yX9_stone wsX9_stone rX9_stone (va_Pc [.ref a_this, .int x1, .int x2] (kP D cI cJ (uX9_stone cI cJ a_this a_page a_reading a_pond a_moves a_numbering a_search a_ending a_chance a_now a_kept i_keptStands i_aimed i_hasAim i_reads a_pond_behinds a_pond_depths i_pond_size i_pond_isRing i_pond_overOthers i_pond_longestLeap g_pond_behinds a_now_froms a_now_tos i_now_made i_now_order) sz)) (va_Qi (fun r' (_ : Unit) => r' = o) (fun _ t => kB D (va_A (uX9_stone cI cJ a_this a_page a_reading a_pond a_moves a_numbering a_search a_ending a_chance a_now a_kept i_keptStands i_aimed i_hasAim i_reads a_pond_behinds a_pond_depths i_pond_size i_pond_isRing i_pond_overOthers i_pond_longestLeap g_pond_behinds a_now_froms a_now_tos i_now_made i_now_order) sz) (uX9_stone cI cJ a_this a_page a_reading a_pond a_moves a_numbering a_search a_ending a_chance a_now a_kept i_keptStands i_aimed i_hasAim i_reads a_pond_behinds a_pond_depths i_pond_size i_pond_isRing i_pond_overOthers i_pond_longestLeap g_pond_behinds a_now_froms a_now_tos i_now_made i_now_order) t) (va_A (uX9_stone cI cJ a_this a_page a_reading a_pond a_moves a_numbering a_search a_ending a_chance a_now a_kept i_keptStands i_aimed i_hasAim i_reads a_pond_behinds a_pond_depths i_pond_size i_pond_isRing i_pond_overOthers i_pond_longestLeap g_pond_behinds a_now_froms a_now_tos i_now_made i_now_order) sz)) 0 0 (va_A (uX9_stone cI cJ a_this a_page a_reading a_pond a_moves a_numbering a_search a_ending a_chance a_now a_kept i_keptStands i_aimed i_hasAim i_reads a_pond_behinds a_pond_depths i_pond_size i_pond_isRing i_pond_overOthers i_pond_longestLeap g_pond_behinds a_now_froms a_now_tos i_now_made i_now_order) sz) :=
  met_i (by decide) rfl (Nat.le_of_ble_eq_true rfl) (fun p e s m below meth c A Q C hrt ls hl hP hD hS => kX9_stone_0 (A := A) C hf hrt hP hD hS hl)

/-! ===== FrogsOnRing.isOfKind(II)Z ===== -/
abbrev uX9_isOfKind (cI cJ : ClassId) : va_W := []
def rX9_isOfKind : Room := { frames := 0, cells := 0, slots := 0, locals := 0 }
theorem hdX9_isOfKind : yX9_isOfKind.cls = RX9 ∧ yX9_isOfKind.cls ≠ "java/lang/invoke/MethodHandle" ∧ yX9_isOfKind.cls ≠ "java/lang/invoke/VarHandle" ∧ (parseMethodDescriptor yX9_isOfKind.desc).map (fun d => d.parameters.length) = some 2 := by decide +kernel
set_option maxHeartbeats 4000000 in
set_option maxRecDepth 100000 in
theorem kX9_isOfKind_0 {p : Program} {l : Launch} {e : Env} {s : State} {m : MethodId} {args : Array Value} {below : List Frame} {meth : Method} {c : Code} {Q : State → Prop} {A : Nat → Prop} {D : va_G} {cI cJ : ClassId} (C : bC cX9_isOfKind 2 RX9 wsX9_isOfKind D cI cJ p s m args c meth A)
    {x0 : Int32} {x1 : Int32} {o : Int32} (hf : fX9_isOfKind x0 x1 = o)
    (hrt : ∀ (H : Heap) (locs : List Loc) (ls : Array Slot) (pc : Nat), (o = 0 ∨ o = 1) → va_P D vwCl (uX9_isOfKind cI cJ) H → va_D A (uX9_isOfKind cI cJ) → va_S A s.heap H locs → decode cX9_isOfKind pc = .ok (.ireturn, 1) → W p l e rX9_isOfKind s m args below meth c H locs 0 0 Q (F0 m pc ls [.int o]))
    {H : Heap} {locs : List Loc} {ls : Array Slot} (hP : va_P D vwCl (uX9_isOfKind cI cJ) H) (hD : va_D A (uX9_isOfKind cI cJ)) (hS : va_S A s.heap H locs) (hl : lv_has ls 2 [(0, .int x0), (1, .int x1)]) : W p l e rX9_isOfKind s m args below meth c H locs 0 0 Q (F0 m 0 ls []) := by
  obtain ⟨hx, hb, hml, hown, hts, hK, hN, hA, hlocks⟩ := id C
  unfold fX9_isOfKind at hf
  refine lv_iload_n hx hb dX9_isOfKind_0 rfl (lv_at hl 0 rfl) ?_
  refine lv_if_ne (tgt := 6) hx hb dX9_isOfKind_1 (by decide) (fun hc => ?_) (fun hc => ?_)
  · have hf := if_no hc hf
    refine lv_iload_n hx hb dX9_isOfKind_6 rfl (lv_at hl 1 rfl) ?_
    refine lv_if_eq (tgt := 25) hx hb dX9_isOfKind_7 (by decide) (fun hc => ?_) (fun hc => ?_)
    · have hf := if_yes hc hf
      refine lv_iconst (v := 1) hx hb dX9_isOfKind_25 (by decide) ?_
      refine lv_goto (tgt := 30) hx hb dX9_isOfKind_26 (by decide) ?_
      subst hf
      exact hrt H locs ls _ (Or.inr rfl) hP hD hS dX9_isOfKind_30
    · have hf := if_no hc hf
      refine lv_iload_n hx hb dX9_isOfKind_10 rfl (lv_at hl 0 rfl) ?_
      refine lv_iload_n hx hb dX9_isOfKind_11 rfl (lv_at hl 1 rfl) ?_
      refine lv_icmp_eq (tgt := 25) hx hb dX9_isOfKind_12 (by decide) (fun hc => ?_) (fun hc => ?_)
      · have hf := if_yes hc hf
        refine lv_iconst (v := 1) hx hb dX9_isOfKind_25 (by decide) ?_
        refine lv_goto (tgt := 30) hx hb dX9_isOfKind_26 (by decide) ?_
        subst hf
        exact hrt H locs ls _ (Or.inr rfl) hP hD hS dX9_isOfKind_30
      · have hf := if_no hc hf
        refine lv_iload_n hx hb dX9_isOfKind_15 rfl (lv_at hl 0 rfl) ?_
        refine lv_iconst (v := 3) hx hb dX9_isOfKind_16 (by decide) ?_
        refine lv_icmp_ne (tgt := 29) hx hb dX9_isOfKind_17 (by decide) (fun hc => ?_) (fun hc => ?_)
        · have hf := if_no hc hf
          refine lv_iconst (v := 0) hx hb dX9_isOfKind_29 (by decide) ?_
          subst hf
          exact hrt H locs ls _ (Or.inl rfl) hP hD hS dX9_isOfKind_30
        · have hf := if_yes hc hf
          refine lv_iload_n hx hb dX9_isOfKind_20 rfl (lv_at hl 1 rfl) ?_
          refine lv_iconst (v := 1) hx hb dX9_isOfKind_21 (by decide) ?_
          refine lv_icmp_ne (tgt := 29) hx hb dX9_isOfKind_22 (by decide) (fun hc => ?_) (fun hc => ?_)
          · have hf := if_no hc hf
            refine lv_iconst (v := 0) hx hb dX9_isOfKind_29 (by decide) ?_
            subst hf
            exact hrt H locs ls _ (Or.inl rfl) hP hD hS dX9_isOfKind_30
          · have hf := if_yes hc hf
            refine lv_iconst (v := 1) hx hb dX9_isOfKind_25 (by decide) ?_
            refine lv_goto (tgt := 30) hx hb dX9_isOfKind_26 (by decide) ?_
            subst hf
            exact hrt H locs ls _ (Or.inr rfl) hP hD hS dX9_isOfKind_30
  · have hf := if_yes hc hf
    refine lv_iconst (v := 0) hx hb dX9_isOfKind_4 (by decide) ?_
    subst hf
    exact hrt H locs ls _ (Or.inl rfl) hP hD hS dX9_isOfKind_5
set_option maxHeartbeats 4000000 in
set_option maxRecDepth 100000 in
theorem mX9_isOfKind (l : Launch) (D : va_G) (cI cJ : ClassId) (sz : Nat) {x0 : Int32} {x1 : Int32} : Met l yX9_isOfKind wsX9_isOfKind rX9_isOfKind (va_Pc [.int x0, .int x1] (kP D cI cJ (uX9_isOfKind cI cJ) sz)) (va_Qi (fun r' (_ : Unit) => r' = (fX9_isOfKind x0 x1)) (fun _ t => kB D (va_A (uX9_isOfKind cI cJ) sz) (uX9_isOfKind cI cJ) t) (va_A (uX9_isOfKind cI cJ) sz)) 0 0 (va_A (uX9_isOfKind cI cJ) sz) :=
  met_z (by decide) rfl (Nat.le_of_ble_eq_true rfl) (fun p e s m below meth c A Q C hrt ls hl hP hD hS => kX9_isOfKind_0 (A := A) C rfl hrt hP hD hS hl)

/-! ===== FrogsOnRing.as(II)I ===== -/
abbrev uX9_as (cI cJ : ClassId) (a_this : Nat) (a_page : Nat) (a_reading : Nat) (a_pond : Nat) (a_moves : Nat) (a_numbering : Nat) (a_search : Nat) (a_ending : Nat) (a_chance : Nat) (a_now : Nat) (a_kept : Nat) (i_keptStands : Int32) (i_aimed : Int32) (i_hasAim : Int32) (i_reads : Int32) (a_pond_behinds : Nat) (a_pond_depths : Nat) (i_pond_size : Int32) (i_pond_isRing : Int32) (i_pond_overOthers : Int32) (i_pond_longestLeap : Int32) (a_now_froms : Nat) (a_now_tos : Nat) (i_now_made : Int32) (i_now_order : Int32) : va_W := [(a_this, .inr (9, [.ref a_page, .ref a_reading, .ref a_pond, .ref a_moves, .ref a_numbering, .ref a_search, .ref a_ending, .ref a_chance, .ref a_now, .ref a_kept, .int i_keptStands, .int i_aimed, .int i_hasAim, .int i_reads])), (a_pond, .inr (6, [.ref a_pond_behinds, .ref a_pond_depths, .int i_pond_size, .int i_pond_isRing, .int i_pond_overOthers, .int i_pond_longestLeap])), (a_now, .inr (1, [.ref a_now_froms, .ref a_now_tos, .int i_now_made, .int i_now_order]))]
def rX9_as : Room := { frames := 1, cells := 0, slots := 0, locals := 21 }
theorem hdX9_as : yX9_as.cls = RX9 ∧ yX9_as.cls ≠ "java/lang/invoke/MethodHandle" ∧ yX9_as.cls ≠ "java/lang/invoke/VarHandle" ∧ (parseMethodDescriptor yX9_as.desc).map (fun d => d.parameters.length) = some 2 := by decide +kernel
set_option maxRecDepth 20000 in
theorem jX9_as_X1 : ∀ w ∈ u_ws RX1 TX1 4, w ∈ wsX9_as := by decide +kernel
set_option maxRecDepth 20000 in
theorem jX9_as_X9 : ∀ w ∈ u_ws RX9 TX9 14, w ∈ wsX9_as := by decide +kernel
set_option maxRecDepth 20000 in
theorem qX9_as_123 : Cond.fieldLink RX9 123 "FrogsOnRing$Course" "order" "I" ∈ wsX9_as := by decide +kernel
set_option maxRecDepth 20000 in
theorem qX9_as_74 : Cond.fieldLink RX9 74 "FrogsOnRing" "now" "LFrogsOnRing$Course;" ∈ wsX9_as := by decide +kernel
set_option maxHeartbeats 4000000 in
set_option maxRecDepth 100000 in
theorem kX9_as_0 {p : Program} {l : Launch} {e : Env} {s : State} {m : MethodId} {args : Array Value} {below : List Frame} {meth : Method} {c : Code} {Q : State → Prop} {A : Nat → Prop} {D : va_G} {cI cJ : ClassId} (C : bC cX9_as 3 RX9 wsX9_as D cI cJ p s m args c meth A)
    {a_this : Nat} {a_page : Nat} {a_reading : Nat} {a_pond : Nat} {a_moves : Nat} {a_numbering : Nat} {a_search : Nat} {a_ending : Nat} {a_chance : Nat} {a_now : Nat} {a_kept : Nat} {i_keptStands : Int32} {i_aimed : Int32} {i_hasAim : Int32} {i_reads : Int32} {a_pond_behinds : Nat} {a_pond_depths : Nat} {i_pond_size : Int32} {i_pond_isRing : Int32} {i_pond_overOthers : Int32} {i_pond_longestLeap : Int32} {a_now_froms : Nat} {a_now_tos : Nat} {i_now_made : Int32} {i_now_order : Int32} {x1 : Int32} {x2 : Int32} {o : Int32} (hf : fX9_as x1 x2 i_pond_size i_now_order = o)
    (hrt : ∀ (H : Heap) (locs : List Loc) (ls : Array Slot) (pc : Nat), va_P D vwCl (uX9_as cI cJ a_this a_page a_reading a_pond a_moves a_numbering a_search a_ending a_chance a_now a_kept i_keptStands i_aimed i_hasAim i_reads a_pond_behinds a_pond_depths i_pond_size i_pond_isRing i_pond_overOthers i_pond_longestLeap a_now_froms a_now_tos i_now_made i_now_order) H → va_D A (uX9_as cI cJ a_this a_page a_reading a_pond a_moves a_numbering a_search a_ending a_chance a_now a_kept i_keptStands i_aimed i_hasAim i_reads a_pond_behinds a_pond_depths i_pond_size i_pond_isRing i_pond_overOthers i_pond_longestLeap a_now_froms a_now_tos i_now_made i_now_order) → va_S A s.heap H locs → decode cX9_as pc = .ok (.ireturn, 1) → W p l e rX9_as s m args below meth c H locs 0 0 Q (F0 m pc ls [.int o]))
    {H : Heap} {locs : List Loc} {ls : Array Slot} (hP : va_P D vwCl (uX9_as cI cJ a_this a_page a_reading a_pond a_moves a_numbering a_search a_ending a_chance a_now a_kept i_keptStands i_aimed i_hasAim i_reads a_pond_behinds a_pond_depths i_pond_size i_pond_isRing i_pond_overOthers i_pond_longestLeap a_now_froms a_now_tos i_now_made i_now_order) H) (hD : va_D A (uX9_as cI cJ a_this a_page a_reading a_pond a_moves a_numbering a_search a_ending a_chance a_now a_kept i_keptStands i_aimed i_hasAim i_reads a_pond_behinds a_pond_depths i_pond_size i_pond_isRing i_pond_overOthers i_pond_longestLeap a_now_froms a_now_tos i_now_made i_now_order)) (hS : va_S A s.heap H locs) (hl : lv_has ls 3 [(0, .ref a_this), (1, .int x1), (2, .int x2)]) : W p l e rX9_as s m args below meth c H locs 0 0 Q (F0 m 0 ls []) := by
  obtain ⟨hx, hb, hml, hown, hts, hK, hN, hA, hlocks⟩ := id C
  unfold fX9_as at hf
  refine lv_aload_n hx hb dX9_as_0 rfl (lv_at hl 0 rfl) ?_
  refine lv_iload_n hx hb dX9_as_1 rfl (lv_at hl 1 rfl) ?_
  refine cl_i (wc := (uX9_isStone cI cJ a_this a_page a_reading a_pond a_moves a_numbering a_search a_ending a_chance a_now a_kept i_keptStands i_aimed i_hasAim i_reads a_pond_behinds a_pond_depths i_pond_size i_pond_isRing i_pond_overOthers i_pond_longestLeap)) (w1 := (uX9_isStone cI cJ a_this a_page a_reading a_pond a_moves a_numbering a_search a_ending a_chance a_now a_kept i_keptStands i_aimed i_hasAim i_reads a_pond_behinds a_pond_depths i_pond_size i_pond_isRing i_pond_overOthers i_pond_longestLeap)) (rn_V (As := [.int x1]) (b := a_this) (rest := []) (wc := (uX9_isStone cI cJ a_this a_page a_reading a_pond a_moves a_numbering a_search a_ending a_chance a_now a_kept i_keptStands i_aimed i_hasAim i_reads a_pond_behinds a_pond_depths i_pond_size i_pond_isRing i_pond_overOthers i_pond_longestLeap)) (ci := 9) (q0 := 0) C hP hD [0, 1] rfl rfl rfl rfl (mX9_isStone l D cI cJ H.size) 1 gX9_as_X9_isStone rfl ⟨rfl, rfl, Nat.le_of_ble_eq_true rfl, Nat.le_of_ble_eq_true rfl⟩ hdX9_isStone rfl hl.1 rfl (Nat.le_of_ble_eq_true rfl) dX9_as_2) hP hD hS hA [0, 1] rfl rfl (fun H locs hP hD hS => ?_)
  have hP : va_P D vwCl (uX9_as cI cJ a_this a_page a_reading a_pond a_moves a_numbering a_search a_ending a_chance a_now a_kept i_keptStands i_aimed i_hasAim i_reads a_pond_behinds a_pond_depths i_pond_size i_pond_isRing i_pond_overOthers i_pond_longestLeap a_now_froms a_now_tos i_now_made i_now_order) H := hP
  have hD : va_D A (uX9_as cI cJ a_this a_page a_reading a_pond a_moves a_numbering a_search a_ending a_chance a_now a_kept i_keptStands i_aimed i_hasAim i_reads a_pond_behinds a_pond_depths i_pond_size i_pond_isRing i_pond_overOthers i_pond_longestLeap a_now_froms a_now_tos i_now_made i_now_order) := hD
  refine lv_if_ne (tgt := 11) hx hb dX9_as_5 (by decide) (fun hc => ?_) (fun hc => ?_)
  · have hf := if_no hc hf
    refine lv_iload_n hx hb dX9_as_11 rfl (lv_at hl 2 rfl) ?_
    refine lv_if_lt (tgt := 20) hx hb dX9_as_12 (by decide) (fun hc => ?_) (fun hc => ?_)
    · have hf := if_yes hc hf
      refine lv_bipush (v := (-102)) hx hb dX9_as_20 (by decide) ?_
      subst hf
      exact hrt H locs ls _ hP hD hS dX9_as_22
    · have hf := if_no hc hf
      refine lv_iload_n hx hb dX9_as_15 rfl (lv_at hl 2 rfl) ?_
      refine lv_iconst (v := 3) hx hb dX9_as_16 (by decide) ?_
      refine lv_icmp_le (tgt := 23) hx hb dX9_as_17 (by decide) (fun hc => ?_) (fun hc => ?_)
      · have hf := if_yes hc hf
        refine lv_aload_n hx hb dX9_as_23 rfl (lv_at hl 0 rfl) ?_
        refine va_get (D := D) (ci := 9) (v := .ref a_now) (C := RX9) (T := TX9) (N := 14) hx hb hts jX9_as_X9 hown hK hP 0 rfl rfl 8 (by decide) (hts _ qX9_as_74) (fun _ h9 => h9) rfl dX9_as_24 ?_
        refine va_get (D := D) (ci := 1) (v := .int i_now_order) (C := RX1) (T := TX1) (N := 4) hx hb hts jX9_as_X1 hown hK hP 2 rfl rfl 3 (by decide) (hts _ qX9_as_123) (fun _ h9 => h9) rfl dX9_as_27 ?_
        refine lv_iload_n hx hb dX9_as_30 rfl (lv_at hl 1 rfl) ?_
        refine cl_i (wc := (uX9_kindAt cI cJ)) (w1 := (uX9_kindAt cI cJ)) (rn_S (As := [.int i_now_order, .int x1]) (rest := []) (wc := (uX9_kindAt cI cJ)) C hP hD [] rfl rfl (mX9_kindAt l D cI cJ H.size) 2 gX9_as_X9_kindAt rfl ⟨rfl, rfl, Nat.le_of_ble_eq_true rfl, Nat.le_of_ble_eq_true rfl⟩ hdX9_kindAt.2 rfl hl.1 rfl (Nat.le_of_ble_eq_true rfl) dX9_as_31) hP hD hS hA [] rfl rfl (fun H locs hP hD hS => ?_)
        have hP : va_P D vwCl (uX9_as cI cJ a_this a_page a_reading a_pond a_moves a_numbering a_search a_ending a_chance a_now a_kept i_keptStands i_aimed i_hasAim i_reads a_pond_behinds a_pond_depths i_pond_size i_pond_isRing i_pond_overOthers i_pond_longestLeap a_now_froms a_now_tos i_now_made i_now_order) H := hP
        have hD : va_D A (uX9_as cI cJ a_this a_page a_reading a_pond a_moves a_numbering a_search a_ending a_chance a_now a_kept i_keptStands i_aimed i_hasAim i_reads a_pond_behinds a_pond_depths i_pond_size i_pond_isRing i_pond_overOthers i_pond_longestLeap a_now_froms a_now_tos i_now_made i_now_order) := hD
        refine lv_iload_n hx hb dX9_as_34 rfl (lv_at hl 2 rfl) ?_
        refine cl_i (wc := (uX9_isOfKind cI cJ)) (w1 := (uX9_isOfKind cI cJ)) (rn_S (As := [.int (fX9_kindAt i_now_order x1), .int x2]) (rest := []) (wc := (uX9_isOfKind cI cJ)) C hP hD [] rfl rfl (mX9_isOfKind l D cI cJ H.size) 2 gX9_as_X9_isOfKind rfl ⟨rfl, rfl, Nat.le_of_ble_eq_true rfl, Nat.le_of_ble_eq_true rfl⟩ hdX9_isOfKind.2 rfl hl.1 rfl (Nat.le_of_ble_eq_true rfl) dX9_as_35) hP hD hS hA [] rfl rfl (fun H locs hP hD hS => ?_)
        have hP : va_P D vwCl (uX9_as cI cJ a_this a_page a_reading a_pond a_moves a_numbering a_search a_ending a_chance a_now a_kept i_keptStands i_aimed i_hasAim i_reads a_pond_behinds a_pond_depths i_pond_size i_pond_isRing i_pond_overOthers i_pond_longestLeap a_now_froms a_now_tos i_now_made i_now_order) H := hP
        have hD : va_D A (uX9_as cI cJ a_this a_page a_reading a_pond a_moves a_numbering a_search a_ending a_chance a_now a_kept i_keptStands i_aimed i_hasAim i_reads a_pond_behinds a_pond_depths i_pond_size i_pond_isRing i_pond_overOthers i_pond_longestLeap a_now_froms a_now_tos i_now_made i_now_order) := hD
        refine lv_if_eq (tgt := 45) hx hb dX9_as_38 (by decide) (fun hc => ?_) (fun hc => ?_)
        · have hf := if_yes hc hf
          refine lv_iconst (v := (-1)) hx hb dX9_as_45 (by decide) ?_
          subst hf
          exact hrt H locs ls _ hP hD hS dX9_as_46
        · have hf := if_no hc hf
          refine lv_iload_n hx hb dX9_as_41 rfl (lv_at hl 1 rfl) ?_
          refine lv_goto (tgt := 46) hx hb dX9_as_42 (by decide) ?_
          subst hf
          exact hrt H locs ls _ hP hD hS dX9_as_46
      · have hf := if_no hc hf
        refine lv_bipush (v := (-102)) hx hb dX9_as_20 (by decide) ?_
        subst hf
        exact hrt H locs ls _ hP hD hS dX9_as_22
  · have hf := if_yes hc hf
    refine lv_bipush (v := (-101)) hx hb dX9_as_8 (by decide) ?_
    subst hf
    exact hrt H locs ls _ hP hD hS dX9_as_10
set_option maxHeartbeats 4000000 in
set_option maxRecDepth 100000 in
theorem mX9_as (l : Launch) (D : va_G) (cI cJ : ClassId) (sz : Nat) {a_this : Nat} {a_page : Nat} {a_reading : Nat} {a_pond : Nat} {a_moves : Nat} {a_numbering : Nat} {a_search : Nat} {a_ending : Nat} {a_chance : Nat} {a_now : Nat} {a_kept : Nat} {i_keptStands : Int32} {i_aimed : Int32} {i_hasAim : Int32} {i_reads : Int32} {a_pond_behinds : Nat} {a_pond_depths : Nat} {i_pond_size : Int32} {i_pond_isRing : Int32} {i_pond_overOthers : Int32} {i_pond_longestLeap : Int32} {a_now_froms : Nat} {a_now_tos : Nat} {i_now_made : Int32} {i_now_order : Int32} {x1 : Int32} {x2 : Int32} : Met l yX9_as wsX9_as rX9_as (va_Pc [.ref a_this, .int x1, .int x2] (kP D cI cJ (uX9_as cI cJ a_this a_page a_reading a_pond a_moves a_numbering a_search a_ending a_chance a_now a_kept i_keptStands i_aimed i_hasAim i_reads a_pond_behinds a_pond_depths i_pond_size i_pond_isRing i_pond_overOthers i_pond_longestLeap a_now_froms a_now_tos i_now_made i_now_order) sz)) (va_Qi (fun r' (_ : Unit) => r' = (fX9_as x1 x2 i_pond_size i_now_order)) (fun _ t => kB D (va_A (uX9_as cI cJ a_this a_page a_reading a_pond a_moves a_numbering a_search a_ending a_chance a_now a_kept i_keptStands i_aimed i_hasAim i_reads a_pond_behinds a_pond_depths i_pond_size i_pond_isRing i_pond_overOthers i_pond_longestLeap a_now_froms a_now_tos i_now_made i_now_order) sz) (uX9_as cI cJ a_this a_page a_reading a_pond a_moves a_numbering a_search a_ending a_chance a_now a_kept i_keptStands i_aimed i_hasAim i_reads a_pond_behinds a_pond_depths i_pond_size i_pond_isRing i_pond_overOthers i_pond_longestLeap a_now_froms a_now_tos i_now_made i_now_order) t) (va_A (uX9_as cI cJ a_this a_page a_reading a_pond a_moves a_numbering a_search a_ending a_chance a_now a_kept i_keptStands i_aimed i_hasAim i_reads a_pond_behinds a_pond_depths i_pond_size i_pond_isRing i_pond_overOthers i_pond_longestLeap a_now_froms a_now_tos i_now_made i_now_order) sz)) 0 0 (va_A (uX9_as cI cJ a_this a_page a_reading a_pond a_moves a_numbering a_search a_ending a_chance a_now a_kept i_keptStands i_aimed i_hasAim i_reads a_pond_behinds a_pond_depths i_pond_size i_pond_isRing i_pond_overOthers i_pond_longestLeap a_now_froms a_now_tos i_now_made i_now_order) sz) :=
  met_i (by decide) rfl (Nat.le_of_ble_eq_true rfl) (fun p e s m below meth c A Q C hrt ls hl hP hD hS => kX9_as_0 (A := A) C rfl hrt hP hD hS hl)

/-! ===== FrogsOnRing.can(II)I ===== -/
abbrev uX9_can (cI cJ : ClassId) (a_this : Nat) (a_page : Nat) (a_reading : Nat) (a_pond : Nat) (a_moves : Nat) (a_numbering : Nat) (a_search : Nat) (a_ending : Nat) (a_chance : Nat) (a_now : Nat) (a_kept : Nat) (i_keptStands : Int32) (i_aimed : Int32) (i_hasAim : Int32) (i_reads : Int32) (a_pond_behinds : Nat) (a_pond_depths : Nat) (i_pond_size : Int32) (i_pond_isRing : Int32) (i_pond_overOthers : Int32) (i_pond_longestLeap : Int32) (a_now_froms : Nat) (a_now_tos : Nat) (i_now_made : Int32) (i_now_order : Int32) (a_moves_targets : Nat) (g_moves_targets : Nat → Int32) (g_pond_behinds : Nat → Int32) : va_W := [(a_this, .inr (9, [.ref a_page, .ref a_reading, .ref a_pond, .ref a_moves, .ref a_numbering, .ref a_search, .ref a_ending, .ref a_chance, .ref a_now, .ref a_kept, .int i_keptStands, .int i_aimed, .int i_hasAim, .int i_reads])), (a_pond, .inr (6, [.ref a_pond_behinds, .ref a_pond_depths, .int i_pond_size, .int i_pond_isRing, .int i_pond_overOthers, .int i_pond_longestLeap])), (a_now, .inr (1, [.ref a_now_froms, .ref a_now_tos, .int i_now_made, .int i_now_order])), (a_moves, .inr (3, [.ref a_pond, .ref a_moves_targets])), (a_moves_targets, .inl (cI, 9, .inl g_moves_targets)), (a_pond_behinds, .inl (cI, 9, .inl g_pond_behinds))]
def rX9_can : Room := { frames := 3, cells := 0, slots := 0, locals := 71 }
theorem hdX9_can : yX9_can.cls = RX9 ∧ yX9_can.cls ≠ "java/lang/invoke/MethodHandle" ∧ yX9_can.cls ≠ "java/lang/invoke/VarHandle" ∧ (parseMethodDescriptor yX9_can.desc).map (fun d => d.parameters.length) = some 2 := by decide +kernel
set_option maxRecDepth 20000 in
theorem jX9_can_X1 : ∀ w ∈ u_ws RX1 TX1 4, w ∈ wsX9_can := by decide +kernel
set_option maxRecDepth 20000 in
theorem jX9_can_X9 : ∀ w ∈ u_ws RX9 TX9 14, w ∈ wsX9_can := by decide +kernel
set_option maxRecDepth 20000 in
theorem qX9_can_123 : Cond.fieldLink RX9 123 "FrogsOnRing$Course" "order" "I" ∈ wsX9_can := by decide +kernel
set_option maxRecDepth 20000 in
theorem qX9_can_35 : Cond.fieldLink RX9 35 "FrogsOnRing" "moves" "LFrogsOnRing$Moves;" ∈ wsX9_can := by decide +kernel
set_option maxRecDepth 20000 in
theorem qX9_can_74 : Cond.fieldLink RX9 74 "FrogsOnRing" "now" "LFrogsOnRing$Course;" ∈ wsX9_can := by decide +kernel
set_option maxHeartbeats 4000000 in
set_option maxRecDepth 100000 in
theorem kX9_can_0 {p : Program} {l : Launch} {e : Env} {s : State} {m : MethodId} {args : Array Value} {below : List Frame} {meth : Method} {c : Code} {Q : State → Prop} {A : Nat → Prop} {D : va_G} {cI cJ : ClassId} (C : bC cX9_can 3 RX9 wsX9_can D cI cJ p s m args c meth A)
    {a_this : Nat} {a_page : Nat} {a_reading : Nat} {a_pond : Nat} {a_moves : Nat} {a_numbering : Nat} {a_search : Nat} {a_ending : Nat} {a_chance : Nat} {a_now : Nat} {a_kept : Nat} {i_keptStands : Int32} {i_aimed : Int32} {i_hasAim : Int32} {i_reads : Int32} {a_pond_behinds : Nat} {a_pond_depths : Nat} {i_pond_size : Int32} {i_pond_isRing : Int32} {i_pond_overOthers : Int32} {i_pond_longestLeap : Int32} {a_now_froms : Nat} {a_now_tos : Nat} {i_now_made : Int32} {i_now_order : Int32} {a_moves_targets : Nat} {g_moves_targets : Nat → Int32} {g_pond_behinds : Nat → Int32} {z : Nat} {x1 : Int32} {x2 : Int32} {o : Int32 × (Nat → Int32)} (hf : fX9_can z x1 x2 i_pond_size i_now_order g_moves_targets i_pond_longestLeap g_pond_behinds i_pond_overOthers = some o)
    (hrt : ∀ (H : Heap) (locs : List Loc) (ls : Array Slot) (pc : Nat), va_P D vwCl (uX9_can cI cJ a_this a_page a_reading a_pond a_moves a_numbering a_search a_ending a_chance a_now a_kept i_keptStands i_aimed i_hasAim i_reads a_pond_behinds a_pond_depths i_pond_size i_pond_isRing i_pond_overOthers i_pond_longestLeap a_now_froms a_now_tos i_now_made i_now_order a_moves_targets o.2 g_pond_behinds) H → va_D A (uX9_can cI cJ a_this a_page a_reading a_pond a_moves a_numbering a_search a_ending a_chance a_now a_kept i_keptStands i_aimed i_hasAim i_reads a_pond_behinds a_pond_depths i_pond_size i_pond_isRing i_pond_overOthers i_pond_longestLeap a_now_froms a_now_tos i_now_made i_now_order a_moves_targets o.2 g_pond_behinds) → va_S A s.heap H locs → decode cX9_can pc = .ok (.ireturn, 1) → W p l e rX9_can s m args below meth c H locs 0 0 Q (F0 m pc ls [.int o.1]))
    {H : Heap} {locs : List Loc} {ls : Array Slot} (hP : va_P D vwCl (uX9_can cI cJ a_this a_page a_reading a_pond a_moves a_numbering a_search a_ending a_chance a_now a_kept i_keptStands i_aimed i_hasAim i_reads a_pond_behinds a_pond_depths i_pond_size i_pond_isRing i_pond_overOthers i_pond_longestLeap a_now_froms a_now_tos i_now_made i_now_order a_moves_targets g_moves_targets g_pond_behinds) H) (hD : va_D A (uX9_can cI cJ a_this a_page a_reading a_pond a_moves a_numbering a_search a_ending a_chance a_now a_kept i_keptStands i_aimed i_hasAim i_reads a_pond_behinds a_pond_depths i_pond_size i_pond_isRing i_pond_overOthers i_pond_longestLeap a_now_froms a_now_tos i_now_made i_now_order a_moves_targets g_moves_targets g_pond_behinds)) (hS : va_S A s.heap H locs) (hl : lv_has ls 3 [(0, .ref a_this), (1, .int x1), (2, .int x2)]) : W p l e rX9_can s m args below meth c H locs 0 0 Q (F0 m 0 ls []) := by
  obtain ⟨hx, hb, hml, hown, hts, hK, hN, hA, hlocks⟩ := id C
  unfold fX9_can at hf
  refine lv_aload_n hx hb dX9_can_0 rfl (lv_at hl 0 rfl) ?_
  refine lv_iload_n hx hb dX9_can_1 rfl (lv_at hl 1 rfl) ?_
  refine cl_i (wc := (uX9_isStone cI cJ a_this a_page a_reading a_pond a_moves a_numbering a_search a_ending a_chance a_now a_kept i_keptStands i_aimed i_hasAim i_reads a_pond_behinds a_pond_depths i_pond_size i_pond_isRing i_pond_overOthers i_pond_longestLeap)) (w1 := (uX9_isStone cI cJ a_this a_page a_reading a_pond a_moves a_numbering a_search a_ending a_chance a_now a_kept i_keptStands i_aimed i_hasAim i_reads a_pond_behinds a_pond_depths i_pond_size i_pond_isRing i_pond_overOthers i_pond_longestLeap)) (rn_V (As := [.int x1]) (b := a_this) (rest := []) (wc := (uX9_isStone cI cJ a_this a_page a_reading a_pond a_moves a_numbering a_search a_ending a_chance a_now a_kept i_keptStands i_aimed i_hasAim i_reads a_pond_behinds a_pond_depths i_pond_size i_pond_isRing i_pond_overOthers i_pond_longestLeap)) (ci := 9) (q0 := 0) C hP hD [0, 1] rfl rfl rfl rfl (mX9_isStone l D cI cJ H.size) 1 gX9_can_X9_isStone rfl ⟨rfl, rfl, Nat.le_of_ble_eq_true rfl, Nat.le_of_ble_eq_true rfl⟩ hdX9_isStone rfl hl.1 rfl (Nat.le_of_ble_eq_true rfl) dX9_can_2) hP hD hS hA [0, 1] rfl rfl (fun H locs hP hD hS => ?_)
  have hP : va_P D vwCl (uX9_can cI cJ a_this a_page a_reading a_pond a_moves a_numbering a_search a_ending a_chance a_now a_kept i_keptStands i_aimed i_hasAim i_reads a_pond_behinds a_pond_depths i_pond_size i_pond_isRing i_pond_overOthers i_pond_longestLeap a_now_froms a_now_tos i_now_made i_now_order a_moves_targets g_moves_targets g_pond_behinds) H := hP
  have hD : va_D A (uX9_can cI cJ a_this a_page a_reading a_pond a_moves a_numbering a_search a_ending a_chance a_now a_kept i_keptStands i_aimed i_hasAim i_reads a_pond_behinds a_pond_depths i_pond_size i_pond_isRing i_pond_overOthers i_pond_longestLeap a_now_froms a_now_tos i_now_made i_now_order a_moves_targets g_moves_targets g_pond_behinds) := hD
  refine lv_if_eq (tgt := 16) hx hb dX9_can_5 (by decide) (fun hc => ?_) (fun hc => ?_)
  · have hf := if_yes hc hf
    refine lv_bipush (v := (-101)) hx hb dX9_can_16 (by decide) ?_
    have ho := Option.some.inj hf
    subst ho
    exact hrt H locs ls _ hP hD hS dX9_can_18
  · have hf := if_no hc hf
    refine lv_aload_n hx hb dX9_can_8 rfl (lv_at hl 0 rfl) ?_
    refine lv_iload_n hx hb dX9_can_9 rfl (lv_at hl 2 rfl) ?_
    refine cl_i (wc := (uX9_isStone cI cJ a_this a_page a_reading a_pond a_moves a_numbering a_search a_ending a_chance a_now a_kept i_keptStands i_aimed i_hasAim i_reads a_pond_behinds a_pond_depths i_pond_size i_pond_isRing i_pond_overOthers i_pond_longestLeap)) (w1 := (uX9_isStone cI cJ a_this a_page a_reading a_pond a_moves a_numbering a_search a_ending a_chance a_now a_kept i_keptStands i_aimed i_hasAim i_reads a_pond_behinds a_pond_depths i_pond_size i_pond_isRing i_pond_overOthers i_pond_longestLeap)) (rn_V (As := [.int x2]) (b := a_this) (rest := []) (wc := (uX9_isStone cI cJ a_this a_page a_reading a_pond a_moves a_numbering a_search a_ending a_chance a_now a_kept i_keptStands i_aimed i_hasAim i_reads a_pond_behinds a_pond_depths i_pond_size i_pond_isRing i_pond_overOthers i_pond_longestLeap)) (ci := 9) (q0 := 0) C hP hD [0, 1] rfl rfl rfl rfl (mX9_isStone l D cI cJ H.size) 1 gX9_can_X9_isStone rfl ⟨rfl, rfl, Nat.le_of_ble_eq_true rfl, Nat.le_of_ble_eq_true rfl⟩ hdX9_isStone rfl hl.1 rfl (Nat.le_of_ble_eq_true rfl) dX9_can_10) hP hD hS hA [0, 1] rfl rfl (fun H locs hP hD hS => ?_)
    have hP : va_P D vwCl (uX9_can cI cJ a_this a_page a_reading a_pond a_moves a_numbering a_search a_ending a_chance a_now a_kept i_keptStands i_aimed i_hasAim i_reads a_pond_behinds a_pond_depths i_pond_size i_pond_isRing i_pond_overOthers i_pond_longestLeap a_now_froms a_now_tos i_now_made i_now_order a_moves_targets g_moves_targets g_pond_behinds) H := hP
    have hD : va_D A (uX9_can cI cJ a_this a_page a_reading a_pond a_moves a_numbering a_search a_ending a_chance a_now a_kept i_keptStands i_aimed i_hasAim i_reads a_pond_behinds a_pond_depths i_pond_size i_pond_isRing i_pond_overOthers i_pond_longestLeap a_now_froms a_now_tos i_now_made i_now_order a_moves_targets g_moves_targets g_pond_behinds) := hD
    refine lv_if_ne (tgt := 19) hx hb dX9_can_13 (by decide) (fun hc => ?_) (fun hc => ?_)
    · have hf := if_no hc hf
      refine lv_aload_n hx hb dX9_can_19 rfl (lv_at hl 0 rfl) ?_
      refine va_get (D := D) (ci := 9) (v := .ref a_moves) (C := RX9) (T := TX9) (N := 14) hx hb hts jX9_can_X9 hown hK hP 0 rfl rfl 3 (by decide) (hts _ qX9_can_35) (fun _ h9 => h9) rfl dX9_can_20 ?_
      refine lv_aload_n hx hb dX9_can_23 rfl (lv_at hl 0 rfl) ?_
      refine va_get (D := D) (ci := 9) (v := .ref a_now) (C := RX9) (T := TX9) (N := 14) hx hb hts jX9_can_X9 hown hK hP 0 rfl rfl 8 (by decide) (hts _ qX9_can_74) (fun _ h9 => h9) rfl dX9_can_24 ?_
      refine va_get (D := D) (ci := 1) (v := .int i_now_order) (C := RX1) (T := TX1) (N := 4) hx hb hts jX9_can_X1 hown hK hP 2 rfl rfl 3 (by decide) (hts _ qX9_can_123) (fun _ h9 => h9) rfl dX9_can_27 ?_
      obtain ⟨q1, hq, hf⟩ := ob_some hf
      refine cl_v (wc := (uX3_find cI cJ a_moves a_pond a_moves_targets g_moves_targets a_pond_behinds a_pond_depths i_pond_size i_pond_isRing i_pond_overOthers i_pond_longestLeap g_pond_behinds)) (w1 := (uX3_find cI cJ a_moves a_pond a_moves_targets q1 a_pond_behinds a_pond_depths i_pond_size i_pond_isRing i_pond_overOthers i_pond_longestLeap g_pond_behinds)) (rn_V (As := [.int i_now_order]) (b := a_moves) (rest := []) (wc := (uX3_find cI cJ a_moves a_pond a_moves_targets g_moves_targets a_pond_behinds a_pond_depths i_pond_size i_pond_isRing i_pond_overOthers i_pond_longestLeap g_pond_behinds)) (ci := 3) (q0 := 3) C hP hD [3, 4, 1, 5] rfl rfl rfl rfl (mX3_find l D cI cJ H.size hq) 1 gX9_can_X3_find rfl ⟨rfl, rfl, Nat.le_of_ble_eq_true rfl, Nat.le_of_ble_eq_true rfl⟩ hdX3_find rfl hl.1 rfl (Nat.le_of_ble_eq_true rfl) dX9_can_30) hP hD hS hA [3, 4, 1, 5] rfl rfl (fun H locs hP hD hS => ?_)
      have hP : va_P D vwCl (uX9_can cI cJ a_this a_page a_reading a_pond a_moves a_numbering a_search a_ending a_chance a_now a_kept i_keptStands i_aimed i_hasAim i_reads a_pond_behinds a_pond_depths i_pond_size i_pond_isRing i_pond_overOthers i_pond_longestLeap a_now_froms a_now_tos i_now_made i_now_order a_moves_targets q1 g_pond_behinds) H := hP
      have hD : va_D A (uX9_can cI cJ a_this a_page a_reading a_pond a_moves a_numbering a_search a_ending a_chance a_now a_kept i_keptStands i_aimed i_hasAim i_reads a_pond_behinds a_pond_depths i_pond_size i_pond_isRing i_pond_overOthers i_pond_longestLeap a_now_froms a_now_tos i_now_made i_now_order a_moves_targets q1 g_pond_behinds) := hD
      refine lv_aload_n hx hb dX9_can_33 rfl (lv_at hl 0 rfl) ?_
      refine va_get (D := D) (ci := 9) (v := .ref a_moves) (C := RX9) (T := TX9) (N := 14) hx hb hts jX9_can_X9 hown hK hP 0 rfl rfl 3 (by decide) (hts _ qX9_can_35) (fun _ h9 => h9) rfl dX9_can_34 ?_
      refine lv_iload_n hx hb dX9_can_37 rfl (lv_at hl 1 rfl) ?_
      refine lv_iload_n hx hb dX9_can_38 rfl (lv_at hl 2 rfl) ?_
      obtain ⟨q2, hq, hf⟩ := ob_some hf
      refine cl_i (wc := (uX3_has cI cJ a_moves a_pond a_moves_targets q1)) (w1 := (uX3_has cI cJ a_moves a_pond a_moves_targets q1)) (rn_V (As := [.int x1, .int x2]) (b := a_moves) (rest := []) (wc := (uX3_has cI cJ a_moves a_pond a_moves_targets q1)) (ci := 3) (q0 := 3) C hP hD [3, 4] rfl rfl rfl rfl (mX3_has l D cI cJ H.size hq) 2 gX9_can_X3_has rfl ⟨rfl, rfl, Nat.le_of_ble_eq_true rfl, Nat.le_of_ble_eq_true rfl⟩ hdX3_has rfl hl.1 rfl (Nat.le_of_ble_eq_true rfl) dX9_can_39) hP hD hS hA [3, 4] rfl rfl (fun H locs hP hD hS => ?_)
      have hP : va_P D vwCl (uX9_can cI cJ a_this a_page a_reading a_pond a_moves a_numbering a_search a_ending a_chance a_now a_kept i_keptStands i_aimed i_hasAim i_reads a_pond_behinds a_pond_depths i_pond_size i_pond_isRing i_pond_overOthers i_pond_longestLeap a_now_froms a_now_tos i_now_made i_now_order a_moves_targets q1 g_pond_behinds) H := hP
      have hD : va_D A (uX9_can cI cJ a_this a_page a_reading a_pond a_moves a_numbering a_search a_ending a_chance a_now a_kept i_keptStands i_aimed i_hasAim i_reads a_pond_behinds a_pond_depths i_pond_size i_pond_isRing i_pond_overOthers i_pond_longestLeap a_now_froms a_now_tos i_now_made i_now_order a_moves_targets q1 g_pond_behinds) := hD
      refine lv_if_eq (tgt := 49) hx hb dX9_can_42 (by decide) (fun hc => ?_) (fun hc => ?_)
      · have hf := if_yes hc hf
        refine lv_iconst (v := 0) hx hb dX9_can_49 (by decide) ?_
        have ho := Option.some.inj hf
        subst ho
        exact hrt H locs ls _ hP hD hS dX9_can_50
      · have hf := if_no hc hf
        refine lv_iconst (v := 1) hx hb dX9_can_45 (by decide) ?_
        refine lv_goto (tgt := 50) hx hb dX9_can_46 (by decide) ?_
        have ho := Option.some.inj hf
        subst ho
        exact hrt H locs ls _ hP hD hS dX9_can_50
    · have hf := if_yes hc hf
      refine lv_bipush (v := (-101)) hx hb dX9_can_16 (by decide) ?_
      have ho := Option.some.inj hf
      subst ho
      exact hrt H locs ls _ hP hD hS dX9_can_18
set_option maxHeartbeats 4000000 in
set_option maxRecDepth 100000 in
theorem mX9_can (l : Launch) (D : va_G) (cI cJ : ClassId) (sz : Nat) {a_this : Nat} {a_page : Nat} {a_reading : Nat} {a_pond : Nat} {a_moves : Nat} {a_numbering : Nat} {a_search : Nat} {a_ending : Nat} {a_chance : Nat} {a_now : Nat} {a_kept : Nat} {i_keptStands : Int32} {i_aimed : Int32} {i_hasAim : Int32} {i_reads : Int32} {a_pond_behinds : Nat} {a_pond_depths : Nat} {i_pond_size : Int32} {i_pond_isRing : Int32} {i_pond_overOthers : Int32} {i_pond_longestLeap : Int32} {a_now_froms : Nat} {a_now_tos : Nat} {i_now_made : Int32} {i_now_order : Int32} {a_moves_targets : Nat} {g_moves_targets : Nat → Int32} {g_pond_behinds : Nat → Int32} {z : Nat} {x1 : Int32} {x2 : Int32} {o : Int32 × (Nat → Int32)} (hf : fX9_can z x1 x2 i_pond_size i_now_order g_moves_targets i_pond_longestLeap g_pond_behinds i_pond_overOthers = some o) : Met l yX9_can wsX9_can rX9_can (va_Pc [.ref a_this, .int x1, .int x2] (kP D cI cJ (uX9_can cI cJ a_this a_page a_reading a_pond a_moves a_numbering a_search a_ending a_chance a_now a_kept i_keptStands i_aimed i_hasAim i_reads a_pond_behinds a_pond_depths i_pond_size i_pond_isRing i_pond_overOthers i_pond_longestLeap a_now_froms a_now_tos i_now_made i_now_order a_moves_targets g_moves_targets g_pond_behinds) sz)) (va_Qi (fun r' (_ : Unit) => r' = o.1) (fun _ t => kB D (va_A (uX9_can cI cJ a_this a_page a_reading a_pond a_moves a_numbering a_search a_ending a_chance a_now a_kept i_keptStands i_aimed i_hasAim i_reads a_pond_behinds a_pond_depths i_pond_size i_pond_isRing i_pond_overOthers i_pond_longestLeap a_now_froms a_now_tos i_now_made i_now_order a_moves_targets g_moves_targets g_pond_behinds) sz) (uX9_can cI cJ a_this a_page a_reading a_pond a_moves a_numbering a_search a_ending a_chance a_now a_kept i_keptStands i_aimed i_hasAim i_reads a_pond_behinds a_pond_depths i_pond_size i_pond_isRing i_pond_overOthers i_pond_longestLeap a_now_froms a_now_tos i_now_made i_now_order a_moves_targets o.2 g_pond_behinds) t) (va_A (uX9_can cI cJ a_this a_page a_reading a_pond a_moves a_numbering a_search a_ending a_chance a_now a_kept i_keptStands i_aimed i_hasAim i_reads a_pond_behinds a_pond_depths i_pond_size i_pond_isRing i_pond_overOthers i_pond_longestLeap a_now_froms a_now_tos i_now_made i_now_order a_moves_targets g_moves_targets g_pond_behinds) sz)) 0 0 (va_A (uX9_can cI cJ a_this a_page a_reading a_pond a_moves a_numbering a_search a_ending a_chance a_now a_kept i_keptStands i_aimed i_hasAim i_reads a_pond_behinds a_pond_depths i_pond_size i_pond_isRing i_pond_overOthers i_pond_longestLeap a_now_froms a_now_tos i_now_made i_now_order a_moves_targets g_moves_targets g_pond_behinds) sz) :=
  met_i (by decide) rfl (Nat.le_of_ble_eq_true rfl) (fun p e s m below meth c A Q C hrt ls hl hP hD hS => kX9_can_0 (A := A) C hf hrt hP hD hS hl)

/-! ===== FrogsOnRing.move(II)I ===== -/
abbrev uX9_move (cI cJ : ClassId) (a_this : Nat) (a_page : Nat) (a_reading : Nat) (a_pond : Nat) (a_moves : Nat) (a_numbering : Nat) (a_search : Nat) (a_ending : Nat) (a_chance : Nat) (a_now : Nat) (a_kept : Nat) (i_keptStands : Int32) (i_aimed : Int32) (i_hasAim : Int32) (i_reads : Int32) (a_pond_behinds : Nat) (a_pond_depths : Nat) (i_pond_size : Int32) (i_pond_isRing : Int32) (i_pond_overOthers : Int32) (i_pond_longestLeap : Int32) (a_now_froms : Nat) (a_now_tos : Nat) (i_now_made : Int32) (i_now_order : Int32) (a_moves_targets : Nat) (g_moves_targets : Nat → Int32) (g_pond_behinds : Nat → Int32) (g_now_froms : Nat → Int32) (g_now_tos : Nat → Int32) : va_W := [(a_this, .inr (9, [.ref a_page, .ref a_reading, .ref a_pond, .ref a_moves, .ref a_numbering, .ref a_search, .ref a_ending, .ref a_chance, .ref a_now, .ref a_kept, .int i_keptStands, .int i_aimed, .int i_hasAim, .int i_reads])), (a_pond, .inr (6, [.ref a_pond_behinds, .ref a_pond_depths, .int i_pond_size, .int i_pond_isRing, .int i_pond_overOthers, .int i_pond_longestLeap])), (a_now, .inr (1, [.ref a_now_froms, .ref a_now_tos, .int i_now_made, .int i_now_order])), (a_moves, .inr (3, [.ref a_pond, .ref a_moves_targets])), (a_moves_targets, .inl (cI, 9, .inl g_moves_targets)), (a_pond_behinds, .inl (cI, 9, .inl g_pond_behinds)), (a_now_froms, .inl (cI, 60, .inl g_now_froms)), (a_now_tos, .inl (cI, 60, .inl g_now_tos))]
def rX9_move : Room := { frames := 3, cells := 0, slots := 0, locals := 71 }
theorem hdX9_move : yX9_move.cls = RX9 ∧ yX9_move.cls ≠ "java/lang/invoke/MethodHandle" ∧ yX9_move.cls ≠ "java/lang/invoke/VarHandle" ∧ (parseMethodDescriptor yX9_move.desc).map (fun d => d.parameters.length) = some 2 := by decide +kernel
set_option maxRecDepth 20000 in
theorem jX9_move_X1 : ∀ w ∈ u_ws RX1 TX1 4, w ∈ wsX9_move := by decide +kernel
set_option maxRecDepth 20000 in
theorem jX9_move_X9 : ∀ w ∈ u_ws RX9 TX9 14, w ∈ wsX9_move := by decide +kernel
set_option maxRecDepth 20000 in
theorem qX9_move_123 : Cond.fieldLink RX9 123 "FrogsOnRing$Course" "order" "I" ∈ wsX9_move := by decide +kernel
set_option maxRecDepth 20000 in
theorem qX9_move_179 : Cond.fieldLink RX9 179 "FrogsOnRing$Course" "made" "I" ∈ wsX9_move := by decide +kernel
set_option maxRecDepth 20000 in
theorem qX9_move_35 : Cond.fieldLink RX9 35 "FrogsOnRing" "moves" "LFrogsOnRing$Moves;" ∈ wsX9_move := by decide +kernel
set_option maxRecDepth 20000 in
theorem qX9_move_74 : Cond.fieldLink RX9 74 "FrogsOnRing" "now" "LFrogsOnRing$Course;" ∈ wsX9_move := by decide +kernel
set_option maxHeartbeats 4000000 in
set_option maxRecDepth 100000 in
theorem kX9_move_0 {p : Program} {l : Launch} {e : Env} {s : State} {m : MethodId} {args : Array Value} {below : List Frame} {meth : Method} {c : Code} {Q : State → Prop} {A : Nat → Prop} {D : va_G} {cI cJ : ClassId} (C : bC cX9_move 3 RX9 wsX9_move D cI cJ p s m args c meth A)
    {a_this : Nat} {a_page : Nat} {a_reading : Nat} {a_pond : Nat} {a_moves : Nat} {a_numbering : Nat} {a_search : Nat} {a_ending : Nat} {a_chance : Nat} {a_now : Nat} {a_kept : Nat} {i_keptStands : Int32} {i_aimed : Int32} {i_hasAim : Int32} {i_reads : Int32} {a_pond_behinds : Nat} {a_pond_depths : Nat} {i_pond_size : Int32} {i_pond_isRing : Int32} {i_pond_overOthers : Int32} {i_pond_longestLeap : Int32} {a_now_froms : Nat} {a_now_tos : Nat} {i_now_made : Int32} {i_now_order : Int32} {a_moves_targets : Nat} {g_moves_targets : Nat → Int32} {g_pond_behinds : Nat → Int32} {g_now_froms : Nat → Int32} {g_now_tos : Nat → Int32} {z : Nat} {x1 : Int32} {x2 : Int32} {o : Int32 × (Nat → Int32) × (Nat → Int32) × (Nat → Int32) × Int32 × Int32} (hf : fX9_move z x1 x2 i_pond_size i_now_order g_moves_targets i_pond_longestLeap g_pond_behinds i_pond_overOthers i_now_made g_now_froms g_now_tos = some o)
    (hrt : ∀ (H : Heap) (locs : List Loc) (ls : Array Slot) (pc : Nat), va_P D vwCl (uX9_move cI cJ a_this a_page a_reading a_pond a_moves a_numbering a_search a_ending a_chance a_now a_kept i_keptStands i_aimed i_hasAim i_reads a_pond_behinds a_pond_depths i_pond_size i_pond_isRing i_pond_overOthers i_pond_longestLeap a_now_froms a_now_tos o.2.2.2.2.1 o.2.2.2.2.2 a_moves_targets o.2.1 g_pond_behinds o.2.2.1 o.2.2.2.1) H → va_D A (uX9_move cI cJ a_this a_page a_reading a_pond a_moves a_numbering a_search a_ending a_chance a_now a_kept i_keptStands i_aimed i_hasAim i_reads a_pond_behinds a_pond_depths i_pond_size i_pond_isRing i_pond_overOthers i_pond_longestLeap a_now_froms a_now_tos o.2.2.2.2.1 o.2.2.2.2.2 a_moves_targets o.2.1 g_pond_behinds o.2.2.1 o.2.2.2.1) → va_S A s.heap H locs → decode cX9_move pc = .ok (.ireturn, 1) → W p l e rX9_move s m args below meth c H locs 0 0 Q (F0 m pc ls [.int o.1]))
    {H : Heap} {locs : List Loc} {ls : Array Slot} (hP : va_P D vwCl (uX9_move cI cJ a_this a_page a_reading a_pond a_moves a_numbering a_search a_ending a_chance a_now a_kept i_keptStands i_aimed i_hasAim i_reads a_pond_behinds a_pond_depths i_pond_size i_pond_isRing i_pond_overOthers i_pond_longestLeap a_now_froms a_now_tos i_now_made i_now_order a_moves_targets g_moves_targets g_pond_behinds g_now_froms g_now_tos) H) (hD : va_D A (uX9_move cI cJ a_this a_page a_reading a_pond a_moves a_numbering a_search a_ending a_chance a_now a_kept i_keptStands i_aimed i_hasAim i_reads a_pond_behinds a_pond_depths i_pond_size i_pond_isRing i_pond_overOthers i_pond_longestLeap a_now_froms a_now_tos i_now_made i_now_order a_moves_targets g_moves_targets g_pond_behinds g_now_froms g_now_tos)) (hS : va_S A s.heap H locs) (hl : lv_has ls 3 [(0, .ref a_this), (1, .int x1), (2, .int x2)]) : W p l e rX9_move s m args below meth c H locs 0 0 Q (F0 m 0 ls []) := by
  obtain ⟨hx, hb, hml, hown, hts, hK, hN, hA, hlocks⟩ := id C
  unfold fX9_move at hf
  refine lv_aload_n hx hb dX9_move_0 rfl (lv_at hl 0 rfl) ?_
  refine lv_iload_n hx hb dX9_move_1 rfl (lv_at hl 1 rfl) ?_
  refine cl_i (wc := (uX9_isStone cI cJ a_this a_page a_reading a_pond a_moves a_numbering a_search a_ending a_chance a_now a_kept i_keptStands i_aimed i_hasAim i_reads a_pond_behinds a_pond_depths i_pond_size i_pond_isRing i_pond_overOthers i_pond_longestLeap)) (w1 := (uX9_isStone cI cJ a_this a_page a_reading a_pond a_moves a_numbering a_search a_ending a_chance a_now a_kept i_keptStands i_aimed i_hasAim i_reads a_pond_behinds a_pond_depths i_pond_size i_pond_isRing i_pond_overOthers i_pond_longestLeap)) (rn_V (As := [.int x1]) (b := a_this) (rest := []) (wc := (uX9_isStone cI cJ a_this a_page a_reading a_pond a_moves a_numbering a_search a_ending a_chance a_now a_kept i_keptStands i_aimed i_hasAim i_reads a_pond_behinds a_pond_depths i_pond_size i_pond_isRing i_pond_overOthers i_pond_longestLeap)) (ci := 9) (q0 := 0) C hP hD [0, 1] rfl rfl rfl rfl (mX9_isStone l D cI cJ H.size) 1 gX9_move_X9_isStone rfl ⟨rfl, rfl, Nat.le_of_ble_eq_true rfl, Nat.le_of_ble_eq_true rfl⟩ hdX9_isStone rfl hl.1 rfl (Nat.le_of_ble_eq_true rfl) dX9_move_2) hP hD hS hA [0, 1] rfl rfl (fun H locs hP hD hS => ?_)
  have hP : va_P D vwCl (uX9_move cI cJ a_this a_page a_reading a_pond a_moves a_numbering a_search a_ending a_chance a_now a_kept i_keptStands i_aimed i_hasAim i_reads a_pond_behinds a_pond_depths i_pond_size i_pond_isRing i_pond_overOthers i_pond_longestLeap a_now_froms a_now_tos i_now_made i_now_order a_moves_targets g_moves_targets g_pond_behinds g_now_froms g_now_tos) H := hP
  have hD : va_D A (uX9_move cI cJ a_this a_page a_reading a_pond a_moves a_numbering a_search a_ending a_chance a_now a_kept i_keptStands i_aimed i_hasAim i_reads a_pond_behinds a_pond_depths i_pond_size i_pond_isRing i_pond_overOthers i_pond_longestLeap a_now_froms a_now_tos i_now_made i_now_order a_moves_targets g_moves_targets g_pond_behinds g_now_froms g_now_tos) := hD
  refine lv_if_eq (tgt := 16) hx hb dX9_move_5 (by decide) (fun hc => ?_) (fun hc => ?_)
  · have hf := if_yes hc hf
    refine lv_bipush (v := (-101)) hx hb dX9_move_16 (by decide) ?_
    have ho := Option.some.inj hf
    subst ho
    exact hrt H locs ls _ hP hD hS dX9_move_18
  · have hf := if_no hc hf
    refine lv_aload_n hx hb dX9_move_8 rfl (lv_at hl 0 rfl) ?_
    refine lv_iload_n hx hb dX9_move_9 rfl (lv_at hl 2 rfl) ?_
    refine cl_i (wc := (uX9_isStone cI cJ a_this a_page a_reading a_pond a_moves a_numbering a_search a_ending a_chance a_now a_kept i_keptStands i_aimed i_hasAim i_reads a_pond_behinds a_pond_depths i_pond_size i_pond_isRing i_pond_overOthers i_pond_longestLeap)) (w1 := (uX9_isStone cI cJ a_this a_page a_reading a_pond a_moves a_numbering a_search a_ending a_chance a_now a_kept i_keptStands i_aimed i_hasAim i_reads a_pond_behinds a_pond_depths i_pond_size i_pond_isRing i_pond_overOthers i_pond_longestLeap)) (rn_V (As := [.int x2]) (b := a_this) (rest := []) (wc := (uX9_isStone cI cJ a_this a_page a_reading a_pond a_moves a_numbering a_search a_ending a_chance a_now a_kept i_keptStands i_aimed i_hasAim i_reads a_pond_behinds a_pond_depths i_pond_size i_pond_isRing i_pond_overOthers i_pond_longestLeap)) (ci := 9) (q0 := 0) C hP hD [0, 1] rfl rfl rfl rfl (mX9_isStone l D cI cJ H.size) 1 gX9_move_X9_isStone rfl ⟨rfl, rfl, Nat.le_of_ble_eq_true rfl, Nat.le_of_ble_eq_true rfl⟩ hdX9_isStone rfl hl.1 rfl (Nat.le_of_ble_eq_true rfl) dX9_move_10) hP hD hS hA [0, 1] rfl rfl (fun H locs hP hD hS => ?_)
    have hP : va_P D vwCl (uX9_move cI cJ a_this a_page a_reading a_pond a_moves a_numbering a_search a_ending a_chance a_now a_kept i_keptStands i_aimed i_hasAim i_reads a_pond_behinds a_pond_depths i_pond_size i_pond_isRing i_pond_overOthers i_pond_longestLeap a_now_froms a_now_tos i_now_made i_now_order a_moves_targets g_moves_targets g_pond_behinds g_now_froms g_now_tos) H := hP
    have hD : va_D A (uX9_move cI cJ a_this a_page a_reading a_pond a_moves a_numbering a_search a_ending a_chance a_now a_kept i_keptStands i_aimed i_hasAim i_reads a_pond_behinds a_pond_depths i_pond_size i_pond_isRing i_pond_overOthers i_pond_longestLeap a_now_froms a_now_tos i_now_made i_now_order a_moves_targets g_moves_targets g_pond_behinds g_now_froms g_now_tos) := hD
    refine lv_if_ne (tgt := 19) hx hb dX9_move_13 (by decide) (fun hc => ?_) (fun hc => ?_)
    · have hf := if_no hc hf
      refine lv_aload_n hx hb dX9_move_19 rfl (lv_at hl 0 rfl) ?_
      refine va_get (D := D) (ci := 9) (v := .ref a_moves) (C := RX9) (T := TX9) (N := 14) hx hb hts jX9_move_X9 hown hK hP 0 rfl rfl 3 (by decide) (hts _ qX9_move_35) (fun _ h9 => h9) rfl dX9_move_20 ?_
      refine lv_aload_n hx hb dX9_move_23 rfl (lv_at hl 0 rfl) ?_
      refine va_get (D := D) (ci := 9) (v := .ref a_now) (C := RX9) (T := TX9) (N := 14) hx hb hts jX9_move_X9 hown hK hP 0 rfl rfl 8 (by decide) (hts _ qX9_move_74) (fun _ h9 => h9) rfl dX9_move_24 ?_
      refine va_get (D := D) (ci := 1) (v := .int i_now_order) (C := RX1) (T := TX1) (N := 4) hx hb hts jX9_move_X1 hown hK hP 2 rfl rfl 3 (by decide) (hts _ qX9_move_123) (fun _ h9 => h9) rfl dX9_move_27 ?_
      obtain ⟨q1, hq, hf⟩ := ob_some hf
      refine cl_v (wc := (uX3_find cI cJ a_moves a_pond a_moves_targets g_moves_targets a_pond_behinds a_pond_depths i_pond_size i_pond_isRing i_pond_overOthers i_pond_longestLeap g_pond_behinds)) (w1 := (uX3_find cI cJ a_moves a_pond a_moves_targets q1 a_pond_behinds a_pond_depths i_pond_size i_pond_isRing i_pond_overOthers i_pond_longestLeap g_pond_behinds)) (rn_V (As := [.int i_now_order]) (b := a_moves) (rest := []) (wc := (uX3_find cI cJ a_moves a_pond a_moves_targets g_moves_targets a_pond_behinds a_pond_depths i_pond_size i_pond_isRing i_pond_overOthers i_pond_longestLeap g_pond_behinds)) (ci := 3) (q0 := 3) C hP hD [3, 4, 1, 5] rfl rfl rfl rfl (mX3_find l D cI cJ H.size hq) 1 gX9_move_X3_find rfl ⟨rfl, rfl, Nat.le_of_ble_eq_true rfl, Nat.le_of_ble_eq_true rfl⟩ hdX3_find rfl hl.1 rfl (Nat.le_of_ble_eq_true rfl) dX9_move_30) hP hD hS hA [3, 4, 1, 5] rfl rfl (fun H locs hP hD hS => ?_)
      have hP : va_P D vwCl (uX9_move cI cJ a_this a_page a_reading a_pond a_moves a_numbering a_search a_ending a_chance a_now a_kept i_keptStands i_aimed i_hasAim i_reads a_pond_behinds a_pond_depths i_pond_size i_pond_isRing i_pond_overOthers i_pond_longestLeap a_now_froms a_now_tos i_now_made i_now_order a_moves_targets q1 g_pond_behinds g_now_froms g_now_tos) H := hP
      have hD : va_D A (uX9_move cI cJ a_this a_page a_reading a_pond a_moves a_numbering a_search a_ending a_chance a_now a_kept i_keptStands i_aimed i_hasAim i_reads a_pond_behinds a_pond_depths i_pond_size i_pond_isRing i_pond_overOthers i_pond_longestLeap a_now_froms a_now_tos i_now_made i_now_order a_moves_targets q1 g_pond_behinds g_now_froms g_now_tos) := hD
      refine lv_aload_n hx hb dX9_move_33 rfl (lv_at hl 0 rfl) ?_
      refine va_get (D := D) (ci := 9) (v := .ref a_moves) (C := RX9) (T := TX9) (N := 14) hx hb hts jX9_move_X9 hown hK hP 0 rfl rfl 3 (by decide) (hts _ qX9_move_35) (fun _ h9 => h9) rfl dX9_move_34 ?_
      refine lv_iload_n hx hb dX9_move_37 rfl (lv_at hl 1 rfl) ?_
      refine lv_iload_n hx hb dX9_move_38 rfl (lv_at hl 2 rfl) ?_
      obtain ⟨q2, hq, hf⟩ := ob_some hf
      refine cl_i (wc := (uX3_has cI cJ a_moves a_pond a_moves_targets q1)) (w1 := (uX3_has cI cJ a_moves a_pond a_moves_targets q1)) (rn_V (As := [.int x1, .int x2]) (b := a_moves) (rest := []) (wc := (uX3_has cI cJ a_moves a_pond a_moves_targets q1)) (ci := 3) (q0 := 3) C hP hD [3, 4] rfl rfl rfl rfl (mX3_has l D cI cJ H.size hq) 2 gX9_move_X3_has rfl ⟨rfl, rfl, Nat.le_of_ble_eq_true rfl, Nat.le_of_ble_eq_true rfl⟩ hdX3_has rfl hl.1 rfl (Nat.le_of_ble_eq_true rfl) dX9_move_39) hP hD hS hA [3, 4] rfl rfl (fun H locs hP hD hS => ?_)
      have hP : va_P D vwCl (uX9_move cI cJ a_this a_page a_reading a_pond a_moves a_numbering a_search a_ending a_chance a_now a_kept i_keptStands i_aimed i_hasAim i_reads a_pond_behinds a_pond_depths i_pond_size i_pond_isRing i_pond_overOthers i_pond_longestLeap a_now_froms a_now_tos i_now_made i_now_order a_moves_targets q1 g_pond_behinds g_now_froms g_now_tos) H := hP
      have hD : va_D A (uX9_move cI cJ a_this a_page a_reading a_pond a_moves a_numbering a_search a_ending a_chance a_now a_kept i_keptStands i_aimed i_hasAim i_reads a_pond_behinds a_pond_depths i_pond_size i_pond_isRing i_pond_overOthers i_pond_longestLeap a_now_froms a_now_tos i_now_made i_now_order a_moves_targets q1 g_pond_behinds g_now_froms g_now_tos) := hD
      refine lv_if_ne (tgt := 48) hx hb dX9_move_42 (by decide) (fun hc => ?_) (fun hc => ?_)
      · have hf := if_no hc hf
        refine lv_aload_n hx hb dX9_move_48 rfl (lv_at hl 0 rfl) ?_
        refine va_get (D := D) (ci := 9) (v := .ref a_now) (C := RX9) (T := TX9) (N := 14) hx hb hts jX9_move_X9 hown hK hP 0 rfl rfl 8 (by decide) (hts _ qX9_move_74) (fun _ h9 => h9) rfl dX9_move_49 ?_
        refine va_get (D := D) (ci := 1) (v := .int i_now_made) (C := RX1) (T := TX1) (N := 4) hx hb hts jX9_move_X1 hown hK hP 2 rfl rfl 2 (by decide) (hts _ qX9_move_179) (fun _ h9 => h9) rfl dX9_move_52 ?_
        refine lv_bipush (v := 60) hx hb dX9_move_55 (by decide) ?_
        refine lv_icmp_lt (tgt := 63) hx hb dX9_move_57 (by decide) (fun hc => ?_) (fun hc => ?_)
        · have hf := if_yes hc hf
          refine lv_aload_n hx hb dX9_move_63 rfl (lv_at hl 0 rfl) ?_
          refine va_get (D := D) (ci := 9) (v := .ref a_now) (C := RX9) (T := TX9) (N := 14) hx hb hts jX9_move_X9 hown hK hP 0 rfl rfl 8 (by decide) (hts _ qX9_move_74) (fun _ h9 => h9) rfl dX9_move_64 ?_
          refine lv_iload_n hx hb dX9_move_67 rfl (lv_at hl 1 rfl) ?_
          refine lv_iload_n hx hb dX9_move_68 rfl (lv_at hl 2 rfl) ?_
          obtain ⟨q3, hq, hf⟩ := ob_some hf
          refine cl_v (wc := (uX1_make cI cJ a_now a_now_froms a_now_tos i_now_made i_now_order g_now_froms g_now_tos)) (w1 := (uX1_make cI cJ a_now a_now_froms a_now_tos q3.2.2.1 q3.2.2.2 q3.1 q3.2.1)) (rn_V (As := [.int x1, .int x2]) (b := a_now) (rest := []) (wc := (uX1_make cI cJ a_now a_now_froms a_now_tos i_now_made i_now_order g_now_froms g_now_tos)) (ci := 1) (q0 := 2) C hP hD [2, 6, 7] rfl rfl rfl rfl (mX1_make l D cI cJ H.size hq) 2 gX9_move_X1_make rfl ⟨rfl, rfl, Nat.le_of_ble_eq_true rfl, Nat.le_of_ble_eq_true rfl⟩ hdX1_make rfl hl.1 rfl (Nat.le_of_ble_eq_true rfl) dX9_move_69) hP hD hS hA [2, 6, 7] rfl rfl (fun H locs hP hD hS => ?_)
          have hP : va_P D vwCl (uX9_move cI cJ a_this a_page a_reading a_pond a_moves a_numbering a_search a_ending a_chance a_now a_kept i_keptStands i_aimed i_hasAim i_reads a_pond_behinds a_pond_depths i_pond_size i_pond_isRing i_pond_overOthers i_pond_longestLeap a_now_froms a_now_tos q3.2.2.1 q3.2.2.2 a_moves_targets q1 g_pond_behinds q3.1 q3.2.1) H := hP
          have hD : va_D A (uX9_move cI cJ a_this a_page a_reading a_pond a_moves a_numbering a_search a_ending a_chance a_now a_kept i_keptStands i_aimed i_hasAim i_reads a_pond_behinds a_pond_depths i_pond_size i_pond_isRing i_pond_overOthers i_pond_longestLeap a_now_froms a_now_tos q3.2.2.1 q3.2.2.2 a_moves_targets q1 g_pond_behinds q3.1 q3.2.1) := hD
          refine lv_aload_n hx hb dX9_move_72 rfl (lv_at hl 0 rfl) ?_
          refine va_get (D := D) (ci := 9) (v := .ref a_now) (C := RX9) (T := TX9) (N := 14) hx hb hts jX9_move_X9 hown hK hP 0 rfl rfl 8 (by decide) (hts _ qX9_move_74) (fun _ h9 => h9) rfl dX9_move_73 ?_
          refine va_get (D := D) (ci := 1) (v := .int q3.2.2.1) (C := RX1) (T := TX1) (N := 4) hx hb hts jX9_move_X1 hown hK hP 2 rfl rfl 2 (by decide) (hts _ qX9_move_179) (fun _ h9 => h9) rfl dX9_move_76 ?_
          have ho := Option.some.inj hf
          subst ho
          exact hrt H locs ls _ hP hD hS dX9_move_79
        · have hf := if_no hc hf
          refine lv_bipush (v := (-104)) hx hb dX9_move_60 (by decide) ?_
          have ho := Option.some.inj hf
          subst ho
          exact hrt H locs ls _ hP hD hS dX9_move_62
      · have hf := if_yes hc hf
        refine lv_bipush (v := (-103)) hx hb dX9_move_45 (by decide) ?_
        have ho := Option.some.inj hf
        subst ho
        exact hrt H locs ls _ hP hD hS dX9_move_47
    · have hf := if_yes hc hf
      refine lv_bipush (v := (-101)) hx hb dX9_move_16 (by decide) ?_
      have ho := Option.some.inj hf
      subst ho
      exact hrt H locs ls _ hP hD hS dX9_move_18
set_option maxHeartbeats 4000000 in
set_option maxRecDepth 100000 in
theorem mX9_move (l : Launch) (D : va_G) (cI cJ : ClassId) (sz : Nat) {a_this : Nat} {a_page : Nat} {a_reading : Nat} {a_pond : Nat} {a_moves : Nat} {a_numbering : Nat} {a_search : Nat} {a_ending : Nat} {a_chance : Nat} {a_now : Nat} {a_kept : Nat} {i_keptStands : Int32} {i_aimed : Int32} {i_hasAim : Int32} {i_reads : Int32} {a_pond_behinds : Nat} {a_pond_depths : Nat} {i_pond_size : Int32} {i_pond_isRing : Int32} {i_pond_overOthers : Int32} {i_pond_longestLeap : Int32} {a_now_froms : Nat} {a_now_tos : Nat} {i_now_made : Int32} {i_now_order : Int32} {a_moves_targets : Nat} {g_moves_targets : Nat → Int32} {g_pond_behinds : Nat → Int32} {g_now_froms : Nat → Int32} {g_now_tos : Nat → Int32} {z : Nat} {x1 : Int32} {x2 : Int32} {o : Int32 × (Nat → Int32) × (Nat → Int32) × (Nat → Int32) × Int32 × Int32} (hf : fX9_move z x1 x2 i_pond_size i_now_order g_moves_targets i_pond_longestLeap g_pond_behinds i_pond_overOthers i_now_made g_now_froms g_now_tos = some o) : Met l yX9_move wsX9_move rX9_move (va_Pc [.ref a_this, .int x1, .int x2] (kP D cI cJ (uX9_move cI cJ a_this a_page a_reading a_pond a_moves a_numbering a_search a_ending a_chance a_now a_kept i_keptStands i_aimed i_hasAim i_reads a_pond_behinds a_pond_depths i_pond_size i_pond_isRing i_pond_overOthers i_pond_longestLeap a_now_froms a_now_tos i_now_made i_now_order a_moves_targets g_moves_targets g_pond_behinds g_now_froms g_now_tos) sz)) (va_Qi (fun r' (_ : Unit) => r' = o.1) (fun _ t => kB D (va_A (uX9_move cI cJ a_this a_page a_reading a_pond a_moves a_numbering a_search a_ending a_chance a_now a_kept i_keptStands i_aimed i_hasAim i_reads a_pond_behinds a_pond_depths i_pond_size i_pond_isRing i_pond_overOthers i_pond_longestLeap a_now_froms a_now_tos i_now_made i_now_order a_moves_targets g_moves_targets g_pond_behinds g_now_froms g_now_tos) sz) (uX9_move cI cJ a_this a_page a_reading a_pond a_moves a_numbering a_search a_ending a_chance a_now a_kept i_keptStands i_aimed i_hasAim i_reads a_pond_behinds a_pond_depths i_pond_size i_pond_isRing i_pond_overOthers i_pond_longestLeap a_now_froms a_now_tos o.2.2.2.2.1 o.2.2.2.2.2 a_moves_targets o.2.1 g_pond_behinds o.2.2.1 o.2.2.2.1) t) (va_A (uX9_move cI cJ a_this a_page a_reading a_pond a_moves a_numbering a_search a_ending a_chance a_now a_kept i_keptStands i_aimed i_hasAim i_reads a_pond_behinds a_pond_depths i_pond_size i_pond_isRing i_pond_overOthers i_pond_longestLeap a_now_froms a_now_tos i_now_made i_now_order a_moves_targets g_moves_targets g_pond_behinds g_now_froms g_now_tos) sz)) 0 0 (va_A (uX9_move cI cJ a_this a_page a_reading a_pond a_moves a_numbering a_search a_ending a_chance a_now a_kept i_keptStands i_aimed i_hasAim i_reads a_pond_behinds a_pond_depths i_pond_size i_pond_isRing i_pond_overOthers i_pond_longestLeap a_now_froms a_now_tos i_now_made i_now_order a_moves_targets g_moves_targets g_pond_behinds g_now_froms g_now_tos) sz) :=
  met_i (by decide) rfl (Nat.le_of_ble_eq_true rfl) (fun p e s m below meth c A Q C hrt ls hl hP hD hS => kX9_move_0 (A := A) C hf hrt hP hD hS hl)

/-! ===== FrogsOnRing.back()I ===== -/
abbrev uX9_back (cI cJ : ClassId) (a_this : Nat) (a_page : Nat) (a_reading : Nat) (a_pond : Nat) (a_moves : Nat) (a_numbering : Nat) (a_search : Nat) (a_ending : Nat) (a_chance : Nat) (a_now : Nat) (a_kept : Nat) (i_keptStands : Int32) (i_aimed : Int32) (i_hasAim : Int32) (i_reads : Int32) (a_now_froms : Nat) (a_now_tos : Nat) (i_now_made : Int32) (i_now_order : Int32) (g_now_tos : Nat → Int32) (g_now_froms : Nat → Int32) : va_W := [(a_this, .inr (9, [.ref a_page, .ref a_reading, .ref a_pond, .ref a_moves, .ref a_numbering, .ref a_search, .ref a_ending, .ref a_chance, .ref a_now, .ref a_kept, .int i_keptStands, .int i_aimed, .int i_hasAim, .int i_reads])), (a_now, .inr (1, [.ref a_now_froms, .ref a_now_tos, .int i_now_made, .int i_now_order])), (a_now_tos, .inl (cI, 60, .inl g_now_tos)), (a_now_froms, .inl (cI, 60, .inl g_now_froms))]
def rX9_back : Room := { frames := 3, cells := 0, slots := 0, locals := 64 }
theorem hdX9_back : yX9_back.cls = RX9 ∧ yX9_back.cls ≠ "java/lang/invoke/MethodHandle" ∧ yX9_back.cls ≠ "java/lang/invoke/VarHandle" ∧ (parseMethodDescriptor yX9_back.desc).map (fun d => d.parameters.length) = some 0 := by decide +kernel
set_option maxRecDepth 20000 in
theorem jX9_back_X1 : ∀ w ∈ u_ws RX1 TX1 4, w ∈ wsX9_back := by decide +kernel
set_option maxRecDepth 20000 in
theorem jX9_back_X9 : ∀ w ∈ u_ws RX9 TX9 14, w ∈ wsX9_back := by decide +kernel
set_option maxRecDepth 20000 in
theorem qX9_back_179 : Cond.fieldLink RX9 179 "FrogsOnRing$Course" "made" "I" ∈ wsX9_back := by decide +kernel
set_option maxRecDepth 20000 in
theorem qX9_back_74 : Cond.fieldLink RX9 74 "FrogsOnRing" "now" "LFrogsOnRing$Course;" ∈ wsX9_back := by decide +kernel
set_option maxHeartbeats 4000000 in
set_option maxRecDepth 100000 in
theorem kX9_back_0 {p : Program} {l : Launch} {e : Env} {s : State} {m : MethodId} {args : Array Value} {below : List Frame} {meth : Method} {c : Code} {Q : State → Prop} {A : Nat → Prop} {D : va_G} {cI cJ : ClassId} (C : bC cX9_back 1 RX9 wsX9_back D cI cJ p s m args c meth A)
    {a_this : Nat} {a_page : Nat} {a_reading : Nat} {a_pond : Nat} {a_moves : Nat} {a_numbering : Nat} {a_search : Nat} {a_ending : Nat} {a_chance : Nat} {a_now : Nat} {a_kept : Nat} {i_keptStands : Int32} {i_aimed : Int32} {i_hasAim : Int32} {i_reads : Int32} {a_now_froms : Nat} {a_now_tos : Nat} {i_now_made : Int32} {i_now_order : Int32} {g_now_tos : Nat → Int32} {g_now_froms : Nat → Int32} {z : Nat} {o : Int32 × Int32 × Int32} (hf : fX9_back z i_now_made i_now_order g_now_tos g_now_froms = some o)
    (hrt : ∀ (H : Heap) (locs : List Loc) (ls : Array Slot) (pc : Nat), va_P D vwCl (uX9_back cI cJ a_this a_page a_reading a_pond a_moves a_numbering a_search a_ending a_chance a_now a_kept i_keptStands i_aimed i_hasAim i_reads a_now_froms a_now_tos o.2.1 o.2.2 g_now_tos g_now_froms) H → va_D A (uX9_back cI cJ a_this a_page a_reading a_pond a_moves a_numbering a_search a_ending a_chance a_now a_kept i_keptStands i_aimed i_hasAim i_reads a_now_froms a_now_tos o.2.1 o.2.2 g_now_tos g_now_froms) → va_S A s.heap H locs → decode cX9_back pc = .ok (.ireturn, 1) → W p l e rX9_back s m args below meth c H locs 0 0 Q (F0 m pc ls [.int o.1]))
    {H : Heap} {locs : List Loc} {ls : Array Slot} (hP : va_P D vwCl (uX9_back cI cJ a_this a_page a_reading a_pond a_moves a_numbering a_search a_ending a_chance a_now a_kept i_keptStands i_aimed i_hasAim i_reads a_now_froms a_now_tos i_now_made i_now_order g_now_tos g_now_froms) H) (hD : va_D A (uX9_back cI cJ a_this a_page a_reading a_pond a_moves a_numbering a_search a_ending a_chance a_now a_kept i_keptStands i_aimed i_hasAim i_reads a_now_froms a_now_tos i_now_made i_now_order g_now_tos g_now_froms)) (hS : va_S A s.heap H locs) (hl : lv_has ls 1 [(0, .ref a_this)]) : W p l e rX9_back s m args below meth c H locs 0 0 Q (F0 m 0 ls []) := by
  obtain ⟨hx, hb, hml, hown, hts, hK, hN, hA, hlocks⟩ := id C
  unfold fX9_back at hf
  refine lv_aload_n hx hb dX9_back_0 rfl (lv_at hl 0 rfl) ?_
  refine va_get (D := D) (ci := 9) (v := .ref a_now) (C := RX9) (T := TX9) (N := 14) hx hb hts jX9_back_X9 hown hK hP 0 rfl rfl 8 (by decide) (hts _ qX9_back_74) (fun _ h9 => h9) rfl dX9_back_1 ?_
  refine va_get (D := D) (ci := 1) (v := .int i_now_made) (C := RX1) (T := TX1) (N := 4) hx hb hts jX9_back_X1 hown hK hP 1 rfl rfl 2 (by decide) (hts _ qX9_back_179) (fun _ h9 => h9) rfl dX9_back_4 ?_
  refine lv_if_ne (tgt := 13) hx hb dX9_back_7 (by decide) (fun hc => ?_) (fun hc => ?_)
  · have hf := if_no hc hf
    refine lv_aload_n hx hb dX9_back_13 rfl (lv_at hl 0 rfl) ?_
    refine va_get (D := D) (ci := 9) (v := .ref a_now) (C := RX9) (T := TX9) (N := 14) hx hb hts jX9_back_X9 hown hK hP 0 rfl rfl 8 (by decide) (hts _ qX9_back_74) (fun _ h9 => h9) rfl dX9_back_14 ?_
    obtain ⟨q1, hq, hf⟩ := ob_some hf
    refine cl_v (wc := (uX1_unmake cI cJ a_now a_now_froms a_now_tos i_now_made i_now_order g_now_tos g_now_froms)) (w1 := (uX1_unmake cI cJ a_now a_now_froms a_now_tos q1.1 q1.2 g_now_tos g_now_froms)) (rn_V (As := []) (b := a_now) (rest := []) (wc := (uX1_unmake cI cJ a_now a_now_froms a_now_tos i_now_made i_now_order g_now_tos g_now_froms)) (ci := 1) (q0 := 1) C hP hD [1, 2, 3] rfl rfl rfl rfl (mX1_unmake l D cI cJ H.size hq) 0 gX9_back_X1_unmake rfl ⟨rfl, rfl, Nat.le_of_ble_eq_true rfl, Nat.le_of_ble_eq_true rfl⟩ hdX1_unmake rfl hl.1 rfl (Nat.le_of_ble_eq_true rfl) dX9_back_17) hP hD hS hA [1, 2, 3] rfl rfl (fun H locs hP hD hS => ?_)
    have hP : va_P D vwCl (uX9_back cI cJ a_this a_page a_reading a_pond a_moves a_numbering a_search a_ending a_chance a_now a_kept i_keptStands i_aimed i_hasAim i_reads a_now_froms a_now_tos q1.1 q1.2 g_now_tos g_now_froms) H := hP
    have hD : va_D A (uX9_back cI cJ a_this a_page a_reading a_pond a_moves a_numbering a_search a_ending a_chance a_now a_kept i_keptStands i_aimed i_hasAim i_reads a_now_froms a_now_tos q1.1 q1.2 g_now_tos g_now_froms) := hD
    refine lv_aload_n hx hb dX9_back_20 rfl (lv_at hl 0 rfl) ?_
    refine va_get (D := D) (ci := 9) (v := .ref a_now) (C := RX9) (T := TX9) (N := 14) hx hb hts jX9_back_X9 hown hK hP 0 rfl rfl 8 (by decide) (hts _ qX9_back_74) (fun _ h9 => h9) rfl dX9_back_21 ?_
    refine va_get (D := D) (ci := 1) (v := .int q1.1) (C := RX1) (T := TX1) (N := 4) hx hb hts jX9_back_X1 hown hK hP 1 rfl rfl 2 (by decide) (hts _ qX9_back_179) (fun _ h9 => h9) rfl dX9_back_24 ?_
    have ho := Option.some.inj hf
    subst ho
    exact hrt H locs ls _ hP hD hS dX9_back_27
  · have hf := if_yes hc hf
    refine lv_bipush (v := (-103)) hx hb dX9_back_10 (by decide) ?_
    have ho := Option.some.inj hf
    subst ho
    exact hrt H locs ls _ hP hD hS dX9_back_12
set_option maxHeartbeats 4000000 in
set_option maxRecDepth 100000 in
theorem mX9_back (l : Launch) (D : va_G) (cI cJ : ClassId) (sz : Nat) {a_this : Nat} {a_page : Nat} {a_reading : Nat} {a_pond : Nat} {a_moves : Nat} {a_numbering : Nat} {a_search : Nat} {a_ending : Nat} {a_chance : Nat} {a_now : Nat} {a_kept : Nat} {i_keptStands : Int32} {i_aimed : Int32} {i_hasAim : Int32} {i_reads : Int32} {a_now_froms : Nat} {a_now_tos : Nat} {i_now_made : Int32} {i_now_order : Int32} {g_now_tos : Nat → Int32} {g_now_froms : Nat → Int32} {z : Nat} {o : Int32 × Int32 × Int32} (hf : fX9_back z i_now_made i_now_order g_now_tos g_now_froms = some o) : Met l yX9_back wsX9_back rX9_back (va_Pc [.ref a_this] (kP D cI cJ (uX9_back cI cJ a_this a_page a_reading a_pond a_moves a_numbering a_search a_ending a_chance a_now a_kept i_keptStands i_aimed i_hasAim i_reads a_now_froms a_now_tos i_now_made i_now_order g_now_tos g_now_froms) sz)) (va_Qi (fun r' (_ : Unit) => r' = o.1) (fun _ t => kB D (va_A (uX9_back cI cJ a_this a_page a_reading a_pond a_moves a_numbering a_search a_ending a_chance a_now a_kept i_keptStands i_aimed i_hasAim i_reads a_now_froms a_now_tos i_now_made i_now_order g_now_tos g_now_froms) sz) (uX9_back cI cJ a_this a_page a_reading a_pond a_moves a_numbering a_search a_ending a_chance a_now a_kept i_keptStands i_aimed i_hasAim i_reads a_now_froms a_now_tos o.2.1 o.2.2 g_now_tos g_now_froms) t) (va_A (uX9_back cI cJ a_this a_page a_reading a_pond a_moves a_numbering a_search a_ending a_chance a_now a_kept i_keptStands i_aimed i_hasAim i_reads a_now_froms a_now_tos i_now_made i_now_order g_now_tos g_now_froms) sz)) 0 0 (va_A (uX9_back cI cJ a_this a_page a_reading a_pond a_moves a_numbering a_search a_ending a_chance a_now a_kept i_keptStands i_aimed i_hasAim i_reads a_now_froms a_now_tos i_now_made i_now_order g_now_tos g_now_froms) sz) :=
  met_i (by decide) rfl (Nat.le_of_ble_eq_true rfl) (fun p e s m below meth c A Q C hrt ls hl hP hD hS => kX9_back_0 (A := A) C hf hrt hP hD hS hl)

/-! ===== FrogsOnRing.many()I ===== -/
abbrev uX9_many (cI cJ : ClassId) (a_this : Nat) (a_page : Nat) (a_reading : Nat) (a_pond : Nat) (a_moves : Nat) (a_numbering : Nat) (a_search : Nat) (a_ending : Nat) (a_chance : Nat) (a_now : Nat) (a_kept : Nat) (i_keptStands : Int32) (i_aimed : Int32) (i_hasAim : Int32) (i_reads : Int32) (a_pond_behinds : Nat) (a_pond_depths : Nat) (i_pond_size : Int32) (i_pond_isRing : Int32) (i_pond_overOthers : Int32) (i_pond_longestLeap : Int32) (a_now_froms : Nat) (a_now_tos : Nat) (i_now_made : Int32) (i_now_order : Int32) (a_moves_targets : Nat) (g_moves_targets : Nat → Int32) (g_pond_behinds : Nat → Int32) : va_W := [(a_this, .inr (9, [.ref a_page, .ref a_reading, .ref a_pond, .ref a_moves, .ref a_numbering, .ref a_search, .ref a_ending, .ref a_chance, .ref a_now, .ref a_kept, .int i_keptStands, .int i_aimed, .int i_hasAim, .int i_reads])), (a_pond, .inr (6, [.ref a_pond_behinds, .ref a_pond_depths, .int i_pond_size, .int i_pond_isRing, .int i_pond_overOthers, .int i_pond_longestLeap])), (a_now, .inr (1, [.ref a_now_froms, .ref a_now_tos, .int i_now_made, .int i_now_order])), (a_moves, .inr (3, [.ref a_pond, .ref a_moves_targets])), (a_moves_targets, .inl (cI, 9, .inl g_moves_targets)), (a_pond_behinds, .inl (cI, 9, .inl g_pond_behinds))]
def rX9_many : Room := { frames := 3, cells := 0, slots := 0, locals := 71 }
theorem hdX9_many : yX9_many.cls = RX9 ∧ yX9_many.cls ≠ "java/lang/invoke/MethodHandle" ∧ yX9_many.cls ≠ "java/lang/invoke/VarHandle" ∧ (parseMethodDescriptor yX9_many.desc).map (fun d => d.parameters.length) = some 0 := by decide +kernel
set_option maxRecDepth 20000 in
theorem jX9_many_X1 : ∀ w ∈ u_ws RX1 TX1 4, w ∈ wsX9_many := by decide +kernel
set_option maxRecDepth 20000 in
theorem jX9_many_X9 : ∀ w ∈ u_ws RX9 TX9 14, w ∈ wsX9_many := by decide +kernel
set_option maxRecDepth 20000 in
theorem qX9_many_123 : Cond.fieldLink RX9 123 "FrogsOnRing$Course" "order" "I" ∈ wsX9_many := by decide +kernel
set_option maxRecDepth 20000 in
theorem qX9_many_35 : Cond.fieldLink RX9 35 "FrogsOnRing" "moves" "LFrogsOnRing$Moves;" ∈ wsX9_many := by decide +kernel
set_option maxRecDepth 20000 in
theorem qX9_many_74 : Cond.fieldLink RX9 74 "FrogsOnRing" "now" "LFrogsOnRing$Course;" ∈ wsX9_many := by decide +kernel
set_option maxHeartbeats 4000000 in
set_option maxRecDepth 100000 in
theorem kX9_many_0 {p : Program} {l : Launch} {e : Env} {s : State} {m : MethodId} {args : Array Value} {below : List Frame} {meth : Method} {c : Code} {Q : State → Prop} {A : Nat → Prop} {D : va_G} {cI cJ : ClassId} (C : bC cX9_many 1 RX9 wsX9_many D cI cJ p s m args c meth A)
    {a_this : Nat} {a_page : Nat} {a_reading : Nat} {a_pond : Nat} {a_moves : Nat} {a_numbering : Nat} {a_search : Nat} {a_ending : Nat} {a_chance : Nat} {a_now : Nat} {a_kept : Nat} {i_keptStands : Int32} {i_aimed : Int32} {i_hasAim : Int32} {i_reads : Int32} {a_pond_behinds : Nat} {a_pond_depths : Nat} {i_pond_size : Int32} {i_pond_isRing : Int32} {i_pond_overOthers : Int32} {i_pond_longestLeap : Int32} {a_now_froms : Nat} {a_now_tos : Nat} {i_now_made : Int32} {i_now_order : Int32} {a_moves_targets : Nat} {g_moves_targets : Nat → Int32} {g_pond_behinds : Nat → Int32} {z : Nat} {o : Int32 × (Nat → Int32)} (hf : fX9_many z i_pond_size i_now_order g_moves_targets i_pond_longestLeap g_pond_behinds i_pond_overOthers = some o)
    (hrt : ∀ (H : Heap) (locs : List Loc) (ls : Array Slot) (pc : Nat), va_P D vwCl (uX9_many cI cJ a_this a_page a_reading a_pond a_moves a_numbering a_search a_ending a_chance a_now a_kept i_keptStands i_aimed i_hasAim i_reads a_pond_behinds a_pond_depths i_pond_size i_pond_isRing i_pond_overOthers i_pond_longestLeap a_now_froms a_now_tos i_now_made i_now_order a_moves_targets o.2 g_pond_behinds) H → va_D A (uX9_many cI cJ a_this a_page a_reading a_pond a_moves a_numbering a_search a_ending a_chance a_now a_kept i_keptStands i_aimed i_hasAim i_reads a_pond_behinds a_pond_depths i_pond_size i_pond_isRing i_pond_overOthers i_pond_longestLeap a_now_froms a_now_tos i_now_made i_now_order a_moves_targets o.2 g_pond_behinds) → va_S A s.heap H locs → decode cX9_many pc = .ok (.ireturn, 1) → W p l e rX9_many s m args below meth c H locs 0 0 Q (F0 m pc ls [.int o.1]))
    {H : Heap} {locs : List Loc} {ls : Array Slot} (hP : va_P D vwCl (uX9_many cI cJ a_this a_page a_reading a_pond a_moves a_numbering a_search a_ending a_chance a_now a_kept i_keptStands i_aimed i_hasAim i_reads a_pond_behinds a_pond_depths i_pond_size i_pond_isRing i_pond_overOthers i_pond_longestLeap a_now_froms a_now_tos i_now_made i_now_order a_moves_targets g_moves_targets g_pond_behinds) H) (hD : va_D A (uX9_many cI cJ a_this a_page a_reading a_pond a_moves a_numbering a_search a_ending a_chance a_now a_kept i_keptStands i_aimed i_hasAim i_reads a_pond_behinds a_pond_depths i_pond_size i_pond_isRing i_pond_overOthers i_pond_longestLeap a_now_froms a_now_tos i_now_made i_now_order a_moves_targets g_moves_targets g_pond_behinds)) (hS : va_S A s.heap H locs) (hl : lv_has ls 1 [(0, .ref a_this)]) : W p l e rX9_many s m args below meth c H locs 0 0 Q (F0 m 0 ls []) := by
  obtain ⟨hx, hb, hml, hown, hts, hK, hN, hA, hlocks⟩ := id C
  unfold fX9_many at hf
  refine lv_aload_n hx hb dX9_many_0 rfl (lv_at hl 0 rfl) ?_
  refine cl_i (wc := (uX9_noStones cI cJ a_this a_page a_reading a_pond a_moves a_numbering a_search a_ending a_chance a_now a_kept i_keptStands i_aimed i_hasAim i_reads a_pond_behinds a_pond_depths i_pond_size i_pond_isRing i_pond_overOthers i_pond_longestLeap)) (w1 := (uX9_noStones cI cJ a_this a_page a_reading a_pond a_moves a_numbering a_search a_ending a_chance a_now a_kept i_keptStands i_aimed i_hasAim i_reads a_pond_behinds a_pond_depths i_pond_size i_pond_isRing i_pond_overOthers i_pond_longestLeap)) (rn_V (As := []) (b := a_this) (rest := []) (wc := (uX9_noStones cI cJ a_this a_page a_reading a_pond a_moves a_numbering a_search a_ending a_chance a_now a_kept i_keptStands i_aimed i_hasAim i_reads a_pond_behinds a_pond_depths i_pond_size i_pond_isRing i_pond_overOthers i_pond_longestLeap)) (ci := 9) (q0 := 0) C hP hD [0, 1] rfl rfl rfl rfl (mX9_noStones l D cI cJ H.size) 0 gX9_many_X9_noStones rfl ⟨rfl, rfl, Nat.le_of_ble_eq_true rfl, Nat.le_of_ble_eq_true rfl⟩ hdX9_noStones rfl hl.1 rfl (Nat.le_of_ble_eq_true rfl) dX9_many_1) hP hD hS hA [0, 1] rfl rfl (fun H locs hP hD hS => ?_)
  have hP : va_P D vwCl (uX9_many cI cJ a_this a_page a_reading a_pond a_moves a_numbering a_search a_ending a_chance a_now a_kept i_keptStands i_aimed i_hasAim i_reads a_pond_behinds a_pond_depths i_pond_size i_pond_isRing i_pond_overOthers i_pond_longestLeap a_now_froms a_now_tos i_now_made i_now_order a_moves_targets g_moves_targets g_pond_behinds) H := hP
  have hD : va_D A (uX9_many cI cJ a_this a_page a_reading a_pond a_moves a_numbering a_search a_ending a_chance a_now a_kept i_keptStands i_aimed i_hasAim i_reads a_pond_behinds a_pond_depths i_pond_size i_pond_isRing i_pond_overOthers i_pond_longestLeap a_now_froms a_now_tos i_now_made i_now_order a_moves_targets g_moves_targets g_pond_behinds) := hD
  refine lv_if_eq (tgt := 10) hx hb dX9_many_4 (by decide) (fun hc => ?_) (fun hc => ?_)
  · have hf := if_yes hc hf
    refine lv_aload_n hx hb dX9_many_10 rfl (lv_at hl 0 rfl) ?_
    refine va_get (D := D) (ci := 9) (v := .ref a_moves) (C := RX9) (T := TX9) (N := 14) hx hb hts jX9_many_X9 hown hK hP 0 rfl rfl 3 (by decide) (hts _ qX9_many_35) (fun _ h9 => h9) rfl dX9_many_11 ?_
    refine lv_aload_n hx hb dX9_many_14 rfl (lv_at hl 0 rfl) ?_
    refine va_get (D := D) (ci := 9) (v := .ref a_now) (C := RX9) (T := TX9) (N := 14) hx hb hts jX9_many_X9 hown hK hP 0 rfl rfl 8 (by decide) (hts _ qX9_many_74) (fun _ h9 => h9) rfl dX9_many_15 ?_
    refine va_get (D := D) (ci := 1) (v := .int i_now_order) (C := RX1) (T := TX1) (N := 4) hx hb hts jX9_many_X1 hown hK hP 2 rfl rfl 3 (by decide) (hts _ qX9_many_123) (fun _ h9 => h9) rfl dX9_many_18 ?_
    obtain ⟨q1, hq, hf⟩ := ob_some hf
    refine cl_v (wc := (uX3_find cI cJ a_moves a_pond a_moves_targets g_moves_targets a_pond_behinds a_pond_depths i_pond_size i_pond_isRing i_pond_overOthers i_pond_longestLeap g_pond_behinds)) (w1 := (uX3_find cI cJ a_moves a_pond a_moves_targets q1 a_pond_behinds a_pond_depths i_pond_size i_pond_isRing i_pond_overOthers i_pond_longestLeap g_pond_behinds)) (rn_V (As := [.int i_now_order]) (b := a_moves) (rest := []) (wc := (uX3_find cI cJ a_moves a_pond a_moves_targets g_moves_targets a_pond_behinds a_pond_depths i_pond_size i_pond_isRing i_pond_overOthers i_pond_longestLeap g_pond_behinds)) (ci := 3) (q0 := 3) C hP hD [3, 4, 1, 5] rfl rfl rfl rfl (mX3_find l D cI cJ H.size hq) 1 gX9_many_X3_find rfl ⟨rfl, rfl, Nat.le_of_ble_eq_true rfl, Nat.le_of_ble_eq_true rfl⟩ hdX3_find rfl hl.1 rfl (Nat.le_of_ble_eq_true rfl) dX9_many_21) hP hD hS hA [3, 4, 1, 5] rfl rfl (fun H locs hP hD hS => ?_)
    have hP : va_P D vwCl (uX9_many cI cJ a_this a_page a_reading a_pond a_moves a_numbering a_search a_ending a_chance a_now a_kept i_keptStands i_aimed i_hasAim i_reads a_pond_behinds a_pond_depths i_pond_size i_pond_isRing i_pond_overOthers i_pond_longestLeap a_now_froms a_now_tos i_now_made i_now_order a_moves_targets q1 g_pond_behinds) H := hP
    have hD : va_D A (uX9_many cI cJ a_this a_page a_reading a_pond a_moves a_numbering a_search a_ending a_chance a_now a_kept i_keptStands i_aimed i_hasAim i_reads a_pond_behinds a_pond_depths i_pond_size i_pond_isRing i_pond_overOthers i_pond_longestLeap a_now_froms a_now_tos i_now_made i_now_order a_moves_targets q1 g_pond_behinds) := hD
    refine lv_aload_n hx hb dX9_many_24 rfl (lv_at hl 0 rfl) ?_
    refine va_get (D := D) (ci := 9) (v := .ref a_moves) (C := RX9) (T := TX9) (N := 14) hx hb hts jX9_many_X9 hown hK hP 0 rfl rfl 3 (by decide) (hts _ qX9_many_35) (fun _ h9 => h9) rfl dX9_many_25 ?_
    obtain ⟨q2, hq, hf⟩ := ob_some hf
    refine cl_i (wc := (uX3_total cI cJ a_moves a_pond a_moves_targets q1)) (w1 := (uX3_total cI cJ a_moves a_pond a_moves_targets q1)) (rn_V (As := []) (b := a_moves) (rest := []) (wc := (uX3_total cI cJ a_moves a_pond a_moves_targets q1)) (ci := 3) (q0 := 3) C hP hD [3, 4] rfl rfl rfl rfl (mX3_total l D cI cJ H.size hq) 0 gX9_many_X3_total rfl ⟨rfl, rfl, Nat.le_of_ble_eq_true rfl, Nat.le_of_ble_eq_true rfl⟩ hdX3_total rfl hl.1 rfl (Nat.le_of_ble_eq_true rfl) dX9_many_28) hP hD hS hA [3, 4] rfl rfl (fun H locs hP hD hS => ?_)
    have hP : va_P D vwCl (uX9_many cI cJ a_this a_page a_reading a_pond a_moves a_numbering a_search a_ending a_chance a_now a_kept i_keptStands i_aimed i_hasAim i_reads a_pond_behinds a_pond_depths i_pond_size i_pond_isRing i_pond_overOthers i_pond_longestLeap a_now_froms a_now_tos i_now_made i_now_order a_moves_targets q1 g_pond_behinds) H := hP
    have hD : va_D A (uX9_many cI cJ a_this a_page a_reading a_pond a_moves a_numbering a_search a_ending a_chance a_now a_kept i_keptStands i_aimed i_hasAim i_reads a_pond_behinds a_pond_depths i_pond_size i_pond_isRing i_pond_overOthers i_pond_longestLeap a_now_froms a_now_tos i_now_made i_now_order a_moves_targets q1 g_pond_behinds) := hD
    have ho := Option.some.inj hf
    subst ho
    exact hrt H locs ls _ hP hD hS dX9_many_31
  · have hf := if_no hc hf
    refine lv_bipush (v := (-103)) hx hb dX9_many_7 (by decide) ?_
    have ho := Option.some.inj hf
    subst ho
    exact hrt H locs ls _ hP hD hS dX9_many_9
set_option maxHeartbeats 4000000 in
set_option maxRecDepth 100000 in
theorem mX9_many (l : Launch) (D : va_G) (cI cJ : ClassId) (sz : Nat) {a_this : Nat} {a_page : Nat} {a_reading : Nat} {a_pond : Nat} {a_moves : Nat} {a_numbering : Nat} {a_search : Nat} {a_ending : Nat} {a_chance : Nat} {a_now : Nat} {a_kept : Nat} {i_keptStands : Int32} {i_aimed : Int32} {i_hasAim : Int32} {i_reads : Int32} {a_pond_behinds : Nat} {a_pond_depths : Nat} {i_pond_size : Int32} {i_pond_isRing : Int32} {i_pond_overOthers : Int32} {i_pond_longestLeap : Int32} {a_now_froms : Nat} {a_now_tos : Nat} {i_now_made : Int32} {i_now_order : Int32} {a_moves_targets : Nat} {g_moves_targets : Nat → Int32} {g_pond_behinds : Nat → Int32} {z : Nat} {o : Int32 × (Nat → Int32)} (hf : fX9_many z i_pond_size i_now_order g_moves_targets i_pond_longestLeap g_pond_behinds i_pond_overOthers = some o) : Met l yX9_many wsX9_many rX9_many (va_Pc [.ref a_this] (kP D cI cJ (uX9_many cI cJ a_this a_page a_reading a_pond a_moves a_numbering a_search a_ending a_chance a_now a_kept i_keptStands i_aimed i_hasAim i_reads a_pond_behinds a_pond_depths i_pond_size i_pond_isRing i_pond_overOthers i_pond_longestLeap a_now_froms a_now_tos i_now_made i_now_order a_moves_targets g_moves_targets g_pond_behinds) sz)) (va_Qi (fun r' (_ : Unit) => r' = o.1) (fun _ t => kB D (va_A (uX9_many cI cJ a_this a_page a_reading a_pond a_moves a_numbering a_search a_ending a_chance a_now a_kept i_keptStands i_aimed i_hasAim i_reads a_pond_behinds a_pond_depths i_pond_size i_pond_isRing i_pond_overOthers i_pond_longestLeap a_now_froms a_now_tos i_now_made i_now_order a_moves_targets g_moves_targets g_pond_behinds) sz) (uX9_many cI cJ a_this a_page a_reading a_pond a_moves a_numbering a_search a_ending a_chance a_now a_kept i_keptStands i_aimed i_hasAim i_reads a_pond_behinds a_pond_depths i_pond_size i_pond_isRing i_pond_overOthers i_pond_longestLeap a_now_froms a_now_tos i_now_made i_now_order a_moves_targets o.2 g_pond_behinds) t) (va_A (uX9_many cI cJ a_this a_page a_reading a_pond a_moves a_numbering a_search a_ending a_chance a_now a_kept i_keptStands i_aimed i_hasAim i_reads a_pond_behinds a_pond_depths i_pond_size i_pond_isRing i_pond_overOthers i_pond_longestLeap a_now_froms a_now_tos i_now_made i_now_order a_moves_targets g_moves_targets g_pond_behinds) sz)) 0 0 (va_A (uX9_many cI cJ a_this a_page a_reading a_pond a_moves a_numbering a_search a_ending a_chance a_now a_kept i_keptStands i_aimed i_hasAim i_reads a_pond_behinds a_pond_depths i_pond_size i_pond_isRing i_pond_overOthers i_pond_longestLeap a_now_froms a_now_tos i_now_made i_now_order a_moves_targets g_moves_targets g_pond_behinds) sz) :=
  met_i (by decide) rfl (Nat.le_of_ble_eq_true rfl) (fun p e s m below meth c A Q C hrt ls hl hP hD hS => kX9_many_0 (A := A) C hf hrt hP hD hS hl)

/-! ===== FrogsOnRing.nth(I)I ===== -/
abbrev uX9_nth (cI cJ : ClassId) (a_this : Nat) (a_page : Nat) (a_reading : Nat) (a_pond : Nat) (a_moves : Nat) (a_numbering : Nat) (a_search : Nat) (a_ending : Nat) (a_chance : Nat) (a_now : Nat) (a_kept : Nat) (i_keptStands : Int32) (i_aimed : Int32) (i_hasAim : Int32) (i_reads : Int32) (a_pond_behinds : Nat) (a_pond_depths : Nat) (i_pond_size : Int32) (i_pond_isRing : Int32) (i_pond_overOthers : Int32) (i_pond_longestLeap : Int32) (a_now_froms : Nat) (a_now_tos : Nat) (i_now_made : Int32) (i_now_order : Int32) (a_moves_targets : Nat) (g_moves_targets : Nat → Int32) (g_pond_behinds : Nat → Int32) : va_W := [(a_this, .inr (9, [.ref a_page, .ref a_reading, .ref a_pond, .ref a_moves, .ref a_numbering, .ref a_search, .ref a_ending, .ref a_chance, .ref a_now, .ref a_kept, .int i_keptStands, .int i_aimed, .int i_hasAim, .int i_reads])), (a_pond, .inr (6, [.ref a_pond_behinds, .ref a_pond_depths, .int i_pond_size, .int i_pond_isRing, .int i_pond_overOthers, .int i_pond_longestLeap])), (a_now, .inr (1, [.ref a_now_froms, .ref a_now_tos, .int i_now_made, .int i_now_order])), (a_moves, .inr (3, [.ref a_pond, .ref a_moves_targets])), (a_moves_targets, .inl (cI, 9, .inl g_moves_targets)), (a_pond_behinds, .inl (cI, 9, .inl g_pond_behinds))]
def rX9_nth : Room := { frames := 3, cells := 0, slots := 0, locals := 71 }
theorem hdX9_nth : yX9_nth.cls = RX9 ∧ yX9_nth.cls ≠ "java/lang/invoke/MethodHandle" ∧ yX9_nth.cls ≠ "java/lang/invoke/VarHandle" ∧ (parseMethodDescriptor yX9_nth.desc).map (fun d => d.parameters.length) = some 1 := by decide +kernel
set_option maxRecDepth 20000 in
theorem jX9_nth_X1 : ∀ w ∈ u_ws RX1 TX1 4, w ∈ wsX9_nth := by decide +kernel
set_option maxRecDepth 20000 in
theorem jX9_nth_X9 : ∀ w ∈ u_ws RX9 TX9 14, w ∈ wsX9_nth := by decide +kernel
set_option maxRecDepth 20000 in
theorem qX9_nth_123 : Cond.fieldLink RX9 123 "FrogsOnRing$Course" "order" "I" ∈ wsX9_nth := by decide +kernel
set_option maxRecDepth 20000 in
theorem qX9_nth_35 : Cond.fieldLink RX9 35 "FrogsOnRing" "moves" "LFrogsOnRing$Moves;" ∈ wsX9_nth := by decide +kernel
set_option maxRecDepth 20000 in
theorem qX9_nth_74 : Cond.fieldLink RX9 74 "FrogsOnRing" "now" "LFrogsOnRing$Course;" ∈ wsX9_nth := by decide +kernel
set_option maxHeartbeats 4000000 in
set_option maxRecDepth 100000 in
theorem kX9_nth_0 {p : Program} {l : Launch} {e : Env} {s : State} {m : MethodId} {args : Array Value} {below : List Frame} {meth : Method} {c : Code} {Q : State → Prop} {A : Nat → Prop} {D : va_G} {cI cJ : ClassId} (C : bC cX9_nth 2 RX9 wsX9_nth D cI cJ p s m args c meth A)
    {a_this : Nat} {a_page : Nat} {a_reading : Nat} {a_pond : Nat} {a_moves : Nat} {a_numbering : Nat} {a_search : Nat} {a_ending : Nat} {a_chance : Nat} {a_now : Nat} {a_kept : Nat} {i_keptStands : Int32} {i_aimed : Int32} {i_hasAim : Int32} {i_reads : Int32} {a_pond_behinds : Nat} {a_pond_depths : Nat} {i_pond_size : Int32} {i_pond_isRing : Int32} {i_pond_overOthers : Int32} {i_pond_longestLeap : Int32} {a_now_froms : Nat} {a_now_tos : Nat} {i_now_made : Int32} {i_now_order : Int32} {a_moves_targets : Nat} {g_moves_targets : Nat → Int32} {g_pond_behinds : Nat → Int32} {z : Nat} {x1 : Int32} {o : Int32 × (Nat → Int32)} (hf : fX9_nth z x1 i_pond_size i_now_order g_moves_targets i_pond_longestLeap g_pond_behinds i_pond_overOthers = some o)
    (hrt : ∀ (H : Heap) (locs : List Loc) (ls : Array Slot) (pc : Nat), va_P D vwCl (uX9_nth cI cJ a_this a_page a_reading a_pond a_moves a_numbering a_search a_ending a_chance a_now a_kept i_keptStands i_aimed i_hasAim i_reads a_pond_behinds a_pond_depths i_pond_size i_pond_isRing i_pond_overOthers i_pond_longestLeap a_now_froms a_now_tos i_now_made i_now_order a_moves_targets o.2 g_pond_behinds) H → va_D A (uX9_nth cI cJ a_this a_page a_reading a_pond a_moves a_numbering a_search a_ending a_chance a_now a_kept i_keptStands i_aimed i_hasAim i_reads a_pond_behinds a_pond_depths i_pond_size i_pond_isRing i_pond_overOthers i_pond_longestLeap a_now_froms a_now_tos i_now_made i_now_order a_moves_targets o.2 g_pond_behinds) → va_S A s.heap H locs → decode cX9_nth pc = .ok (.ireturn, 1) → W p l e rX9_nth s m args below meth c H locs 0 0 Q (F0 m pc ls [.int o.1]))
    {H : Heap} {locs : List Loc} {ls : Array Slot} (hP : va_P D vwCl (uX9_nth cI cJ a_this a_page a_reading a_pond a_moves a_numbering a_search a_ending a_chance a_now a_kept i_keptStands i_aimed i_hasAim i_reads a_pond_behinds a_pond_depths i_pond_size i_pond_isRing i_pond_overOthers i_pond_longestLeap a_now_froms a_now_tos i_now_made i_now_order a_moves_targets g_moves_targets g_pond_behinds) H) (hD : va_D A (uX9_nth cI cJ a_this a_page a_reading a_pond a_moves a_numbering a_search a_ending a_chance a_now a_kept i_keptStands i_aimed i_hasAim i_reads a_pond_behinds a_pond_depths i_pond_size i_pond_isRing i_pond_overOthers i_pond_longestLeap a_now_froms a_now_tos i_now_made i_now_order a_moves_targets g_moves_targets g_pond_behinds)) (hS : va_S A s.heap H locs) (hl : lv_has ls 2 [(0, .ref a_this), (1, .int x1)]) : W p l e rX9_nth s m args below meth c H locs 0 0 Q (F0 m 0 ls []) := by
  obtain ⟨hx, hb, hml, hown, hts, hK, hN, hA, hlocks⟩ := id C
  unfold fX9_nth at hf
  refine lv_aload_n hx hb dX9_nth_0 rfl (lv_at hl 0 rfl) ?_
  refine cl_i (wc := (uX9_noStones cI cJ a_this a_page a_reading a_pond a_moves a_numbering a_search a_ending a_chance a_now a_kept i_keptStands i_aimed i_hasAim i_reads a_pond_behinds a_pond_depths i_pond_size i_pond_isRing i_pond_overOthers i_pond_longestLeap)) (w1 := (uX9_noStones cI cJ a_this a_page a_reading a_pond a_moves a_numbering a_search a_ending a_chance a_now a_kept i_keptStands i_aimed i_hasAim i_reads a_pond_behinds a_pond_depths i_pond_size i_pond_isRing i_pond_overOthers i_pond_longestLeap)) (rn_V (As := []) (b := a_this) (rest := []) (wc := (uX9_noStones cI cJ a_this a_page a_reading a_pond a_moves a_numbering a_search a_ending a_chance a_now a_kept i_keptStands i_aimed i_hasAim i_reads a_pond_behinds a_pond_depths i_pond_size i_pond_isRing i_pond_overOthers i_pond_longestLeap)) (ci := 9) (q0 := 0) C hP hD [0, 1] rfl rfl rfl rfl (mX9_noStones l D cI cJ H.size) 0 gX9_nth_X9_noStones rfl ⟨rfl, rfl, Nat.le_of_ble_eq_true rfl, Nat.le_of_ble_eq_true rfl⟩ hdX9_noStones rfl hl.1 rfl (Nat.le_of_ble_eq_true rfl) dX9_nth_1) hP hD hS hA [0, 1] rfl rfl (fun H locs hP hD hS => ?_)
  have hP : va_P D vwCl (uX9_nth cI cJ a_this a_page a_reading a_pond a_moves a_numbering a_search a_ending a_chance a_now a_kept i_keptStands i_aimed i_hasAim i_reads a_pond_behinds a_pond_depths i_pond_size i_pond_isRing i_pond_overOthers i_pond_longestLeap a_now_froms a_now_tos i_now_made i_now_order a_moves_targets g_moves_targets g_pond_behinds) H := hP
  have hD : va_D A (uX9_nth cI cJ a_this a_page a_reading a_pond a_moves a_numbering a_search a_ending a_chance a_now a_kept i_keptStands i_aimed i_hasAim i_reads a_pond_behinds a_pond_depths i_pond_size i_pond_isRing i_pond_overOthers i_pond_longestLeap a_now_froms a_now_tos i_now_made i_now_order a_moves_targets g_moves_targets g_pond_behinds) := hD
  refine lv_if_eq (tgt := 10) hx hb dX9_nth_4 (by decide) (fun hc => ?_) (fun hc => ?_)
  · have hf := if_yes hc hf
    refine lv_iload_n hx hb dX9_nth_10 rfl (lv_at hl 1 rfl) ?_
    refine lv_if_lt (tgt := 20) hx hb dX9_nth_11 (by decide) (fun hc => ?_) (fun hc => ?_)
    · have hf := if_yes hc hf
      refine lv_bipush (v := (-102)) hx hb dX9_nth_20 (by decide) ?_
      have ho := Option.some.inj hf
      subst ho
      exact hrt H locs ls _ hP hD hS dX9_nth_22
    · have hf := if_no hc hf
      refine lv_iload_n hx hb dX9_nth_14 rfl (lv_at hl 1 rfl) ?_
      refine lv_bipush (v := 63) hx hb dX9_nth_15 (by decide) ?_
      refine lv_icmp_le (tgt := 23) hx hb dX9_nth_17 (by decide) (fun hc => ?_) (fun hc => ?_)
      · have hf := if_yes hc hf
        refine lv_aload_n hx hb dX9_nth_23 rfl (lv_at hl 0 rfl) ?_
        refine va_get (D := D) (ci := 9) (v := .ref a_moves) (C := RX9) (T := TX9) (N := 14) hx hb hts jX9_nth_X9 hown hK hP 0 rfl rfl 3 (by decide) (hts _ qX9_nth_35) (fun _ h9 => h9) rfl dX9_nth_24 ?_
        refine lv_aload_n hx hb dX9_nth_27 rfl (lv_at hl 0 rfl) ?_
        refine va_get (D := D) (ci := 9) (v := .ref a_now) (C := RX9) (T := TX9) (N := 14) hx hb hts jX9_nth_X9 hown hK hP 0 rfl rfl 8 (by decide) (hts _ qX9_nth_74) (fun _ h9 => h9) rfl dX9_nth_28 ?_
        refine va_get (D := D) (ci := 1) (v := .int i_now_order) (C := RX1) (T := TX1) (N := 4) hx hb hts jX9_nth_X1 hown hK hP 2 rfl rfl 3 (by decide) (hts _ qX9_nth_123) (fun _ h9 => h9) rfl dX9_nth_31 ?_
        obtain ⟨q1, hq, hf⟩ := ob_some hf
        refine cl_v (wc := (uX3_find cI cJ a_moves a_pond a_moves_targets g_moves_targets a_pond_behinds a_pond_depths i_pond_size i_pond_isRing i_pond_overOthers i_pond_longestLeap g_pond_behinds)) (w1 := (uX3_find cI cJ a_moves a_pond a_moves_targets q1 a_pond_behinds a_pond_depths i_pond_size i_pond_isRing i_pond_overOthers i_pond_longestLeap g_pond_behinds)) (rn_V (As := [.int i_now_order]) (b := a_moves) (rest := []) (wc := (uX3_find cI cJ a_moves a_pond a_moves_targets g_moves_targets a_pond_behinds a_pond_depths i_pond_size i_pond_isRing i_pond_overOthers i_pond_longestLeap g_pond_behinds)) (ci := 3) (q0 := 3) C hP hD [3, 4, 1, 5] rfl rfl rfl rfl (mX3_find l D cI cJ H.size hq) 1 gX9_nth_X3_find rfl ⟨rfl, rfl, Nat.le_of_ble_eq_true rfl, Nat.le_of_ble_eq_true rfl⟩ hdX3_find rfl hl.1 rfl (Nat.le_of_ble_eq_true rfl) dX9_nth_34) hP hD hS hA [3, 4, 1, 5] rfl rfl (fun H locs hP hD hS => ?_)
        have hP : va_P D vwCl (uX9_nth cI cJ a_this a_page a_reading a_pond a_moves a_numbering a_search a_ending a_chance a_now a_kept i_keptStands i_aimed i_hasAim i_reads a_pond_behinds a_pond_depths i_pond_size i_pond_isRing i_pond_overOthers i_pond_longestLeap a_now_froms a_now_tos i_now_made i_now_order a_moves_targets q1 g_pond_behinds) H := hP
        have hD : va_D A (uX9_nth cI cJ a_this a_page a_reading a_pond a_moves a_numbering a_search a_ending a_chance a_now a_kept i_keptStands i_aimed i_hasAim i_reads a_pond_behinds a_pond_depths i_pond_size i_pond_isRing i_pond_overOthers i_pond_longestLeap a_now_froms a_now_tos i_now_made i_now_order a_moves_targets q1 g_pond_behinds) := hD
        refine lv_aload_n hx hb dX9_nth_37 rfl (lv_at hl 0 rfl) ?_
        refine va_get (D := D) (ci := 9) (v := .ref a_moves) (C := RX9) (T := TX9) (N := 14) hx hb hts jX9_nth_X9 hown hK hP 0 rfl rfl 3 (by decide) (hts _ qX9_nth_35) (fun _ h9 => h9) rfl dX9_nth_38 ?_
        refine lv_iload_n hx hb dX9_nth_41 rfl (lv_at hl 1 rfl) ?_
        obtain ⟨q2, hq, hf⟩ := ob_some hf
        refine cl_i (wc := (uX3_told cI cJ a_moves a_pond a_moves_targets a_pond_behinds a_pond_depths i_pond_size i_pond_isRing i_pond_overOthers i_pond_longestLeap q1)) (w1 := (uX3_told cI cJ a_moves a_pond a_moves_targets a_pond_behinds a_pond_depths i_pond_size i_pond_isRing i_pond_overOthers i_pond_longestLeap q1)) (rn_V (As := [.int x1]) (b := a_moves) (rest := []) (wc := (uX3_told cI cJ a_moves a_pond a_moves_targets a_pond_behinds a_pond_depths i_pond_size i_pond_isRing i_pond_overOthers i_pond_longestLeap q1)) (ci := 3) (q0 := 3) C hP hD [3, 1, 4] rfl rfl rfl rfl (mX3_told l D cI cJ H.size hq) 1 gX9_nth_X3_told rfl ⟨rfl, rfl, Nat.le_of_ble_eq_true rfl, Nat.le_of_ble_eq_true rfl⟩ hdX3_told rfl hl.1 rfl (Nat.le_of_ble_eq_true rfl) dX9_nth_42) hP hD hS hA [3, 1, 4] rfl rfl (fun H locs hP hD hS => ?_)
        have hP : va_P D vwCl (uX9_nth cI cJ a_this a_page a_reading a_pond a_moves a_numbering a_search a_ending a_chance a_now a_kept i_keptStands i_aimed i_hasAim i_reads a_pond_behinds a_pond_depths i_pond_size i_pond_isRing i_pond_overOthers i_pond_longestLeap a_now_froms a_now_tos i_now_made i_now_order a_moves_targets q1 g_pond_behinds) H := hP
        have hD : va_D A (uX9_nth cI cJ a_this a_page a_reading a_pond a_moves a_numbering a_search a_ending a_chance a_now a_kept i_keptStands i_aimed i_hasAim i_reads a_pond_behinds a_pond_depths i_pond_size i_pond_isRing i_pond_overOthers i_pond_longestLeap a_now_froms a_now_tos i_now_made i_now_order a_moves_targets q1 g_pond_behinds) := hD
        have ho := Option.some.inj hf
        subst ho
        exact hrt H locs ls _ hP hD hS dX9_nth_45
      · have hf := if_no hc hf
        refine lv_bipush (v := (-102)) hx hb dX9_nth_20 (by decide) ?_
        have ho := Option.some.inj hf
        subst ho
        exact hrt H locs ls _ hP hD hS dX9_nth_22
  · have hf := if_no hc hf
    refine lv_bipush (v := (-103)) hx hb dX9_nth_7 (by decide) ?_
    have ho := Option.some.inj hf
    subst ho
    exact hrt H locs ls _ hP hD hS dX9_nth_9
set_option maxHeartbeats 4000000 in
set_option maxRecDepth 100000 in
theorem mX9_nth (l : Launch) (D : va_G) (cI cJ : ClassId) (sz : Nat) {a_this : Nat} {a_page : Nat} {a_reading : Nat} {a_pond : Nat} {a_moves : Nat} {a_numbering : Nat} {a_search : Nat} {a_ending : Nat} {a_chance : Nat} {a_now : Nat} {a_kept : Nat} {i_keptStands : Int32} {i_aimed : Int32} {i_hasAim : Int32} {i_reads : Int32} {a_pond_behinds : Nat} {a_pond_depths : Nat} {i_pond_size : Int32} {i_pond_isRing : Int32} {i_pond_overOthers : Int32} {i_pond_longestLeap : Int32} {a_now_froms : Nat} {a_now_tos : Nat} {i_now_made : Int32} {i_now_order : Int32} {a_moves_targets : Nat} {g_moves_targets : Nat → Int32} {g_pond_behinds : Nat → Int32} {z : Nat} {x1 : Int32} {o : Int32 × (Nat → Int32)} (hf : fX9_nth z x1 i_pond_size i_now_order g_moves_targets i_pond_longestLeap g_pond_behinds i_pond_overOthers = some o) : Met l yX9_nth wsX9_nth rX9_nth (va_Pc [.ref a_this, .int x1] (kP D cI cJ (uX9_nth cI cJ a_this a_page a_reading a_pond a_moves a_numbering a_search a_ending a_chance a_now a_kept i_keptStands i_aimed i_hasAim i_reads a_pond_behinds a_pond_depths i_pond_size i_pond_isRing i_pond_overOthers i_pond_longestLeap a_now_froms a_now_tos i_now_made i_now_order a_moves_targets g_moves_targets g_pond_behinds) sz)) (va_Qi (fun r' (_ : Unit) => r' = o.1) (fun _ t => kB D (va_A (uX9_nth cI cJ a_this a_page a_reading a_pond a_moves a_numbering a_search a_ending a_chance a_now a_kept i_keptStands i_aimed i_hasAim i_reads a_pond_behinds a_pond_depths i_pond_size i_pond_isRing i_pond_overOthers i_pond_longestLeap a_now_froms a_now_tos i_now_made i_now_order a_moves_targets g_moves_targets g_pond_behinds) sz) (uX9_nth cI cJ a_this a_page a_reading a_pond a_moves a_numbering a_search a_ending a_chance a_now a_kept i_keptStands i_aimed i_hasAim i_reads a_pond_behinds a_pond_depths i_pond_size i_pond_isRing i_pond_overOthers i_pond_longestLeap a_now_froms a_now_tos i_now_made i_now_order a_moves_targets o.2 g_pond_behinds) t) (va_A (uX9_nth cI cJ a_this a_page a_reading a_pond a_moves a_numbering a_search a_ending a_chance a_now a_kept i_keptStands i_aimed i_hasAim i_reads a_pond_behinds a_pond_depths i_pond_size i_pond_isRing i_pond_overOthers i_pond_longestLeap a_now_froms a_now_tos i_now_made i_now_order a_moves_targets g_moves_targets g_pond_behinds) sz)) 0 0 (va_A (uX9_nth cI cJ a_this a_page a_reading a_pond a_moves a_numbering a_search a_ending a_chance a_now a_kept i_keptStands i_aimed i_hasAim i_reads a_pond_behinds a_pond_depths i_pond_size i_pond_isRing i_pond_overOthers i_pond_longestLeap a_now_froms a_now_tos i_now_made i_now_order a_moves_targets g_moves_targets g_pond_behinds) sz) :=
  met_i (by decide) rfl (Nat.le_of_ble_eq_true rfl) (fun p e s m below meth c A Q C hrt ls hl hP hD hS => kX9_nth_0 (A := A) C hf hrt hP hD hS hl)

