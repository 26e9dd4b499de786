/-! ===== FrogsOnRing.restore()I ===== -/
abbrev uX9_restore (cI cJ : ClassId) (a_this : Nat) (a_page : Nat) (a_reading : Nat) (a_pond : Nat) (a_moves : Nat) (a_numbering : Nat) (a_search : Nat) (a_ending : Nat) (a_chance : Nat) (a_now : Nat) (a_kept : Nat) (i_keptStands : Int32) (i_aimed : Int32) (i_hasAim : Int32) (i_reads : Int32) (a_now_froms : Nat) (a_now_tos : Nat) (i_now_made : Int32) (i_now_order : Int32) (a_kept_froms : Nat) (a_kept_tos : Nat) (i_kept_made : Int32) (i_kept_order : Int32) (g_kept_froms : Nat → Int32) (g_now_froms : Nat → Int32) (g_kept_tos : Nat → Int32) (g_now_tos : Nat → Int32) : va_W := [(a_this, .inr (9, [.ref a_page, .ref a_reading, .ref a_pond, .ref a_moves, .ref a_numbering, .ref a_search, .ref a_ending, .ref a_chance, .ref a_now, .ref a_kept, .int i_keptStands, .int i_aimed, .int i_hasAim, .int i_reads])), (a_now, .inr (1, [.ref a_now_froms, .ref a_now_tos, .int i_now_made, .int i_now_order])), (a_kept, .inr (1, [.ref a_kept_froms, .ref a_kept_tos, .int i_kept_made, .int i_kept_order])), (a_kept_froms, .inl (cI, 60, .inl g_kept_froms)), (a_now_froms, .inl (cI, 60, .inl g_now_froms)), (a_kept_tos, .inl (cI, 60, .inl g_kept_tos)), (a_now_tos, .inl (cI, 60, .inl g_now_tos))]
def rX9_restore : Room := { frames := 2, cells := 0, slots := 0, locals := 61 }
theorem hdX9_restore : yX9_restore.cls = RX9 ∧ yX9_restore.cls ≠ "java/lang/invoke/MethodHandle" ∧ yX9_restore.cls ≠ "java/lang/invoke/VarHandle" ∧ (parseMethodDescriptor yX9_restore.desc).map (fun d => d.parameters.length) = some 0 := by decide +kernel
set_option maxRecDepth 20000 in
theorem jX9_restore_X1 : ∀ w ∈ u_ws RX1 TX1 4, w ∈ wsX9_restore := by decide +kernel
set_option maxRecDepth 20000 in
theorem jX9_restore_X9 : ∀ w ∈ u_ws RX9 TX9 14, w ∈ wsX9_restore := by decide +kernel
set_option maxRecDepth 20000 in
theorem qX9_restore_133 : Cond.fieldLink RX9 133 "FrogsOnRing" "keptStands" "Z" ∈ wsX9_restore := by decide +kernel
set_option maxRecDepth 20000 in
theorem qX9_restore_179 : Cond.fieldLink RX9 179 "FrogsOnRing$Course" "made" "I" ∈ wsX9_restore := by decide +kernel
set_option maxRecDepth 20000 in
theorem qX9_restore_74 : Cond.fieldLink RX9 74 "FrogsOnRing" "now" "LFrogsOnRing$Course;" ∈ wsX9_restore := by decide +kernel
set_option maxRecDepth 20000 in
theorem qX9_restore_78 : Cond.fieldLink RX9 78 "FrogsOnRing" "kept" "LFrogsOnRing$Course;" ∈ wsX9_restore := by decide +kernel
set_option maxHeartbeats 4000000 in
set_option maxRecDepth 100000 in
theorem kX9_restore_0 {p : Program} {l : Launch} {e : Env} {s : State} {m : MethodId} {args : Array Value} {below : List Frame} {meth : Method} {c : Code} {Q : State → Prop} {A : Nat → Prop} {D : va_G} {cI cJ : ClassId} (C : bC cX9_restore 1 RX9 wsX9_restore D cI cJ p s m args c meth A)
    {a_this : Nat} {a_page : Nat} {a_reading : Nat} {a_pond : Nat} {a_moves : Nat} {a_numbering : Nat} {a_search : Nat} {a_ending : Nat} {a_chance : Nat} {a_now : Nat} {a_kept : Nat} {i_keptStands : Int32} {i_aimed : Int32} {i_hasAim : Int32} {i_reads : Int32} {a_now_froms : Nat} {a_now_tos : Nat} {i_now_made : Int32} {i_now_order : Int32} {a_kept_froms : Nat} {a_kept_tos : Nat} {i_kept_made : Int32} {i_kept_order : Int32} {g_kept_froms : Nat → Int32} {g_now_froms : Nat → Int32} {g_kept_tos : Nat → Int32} {g_now_tos : Nat → Int32} {z : Nat} {o : Int32 × (Nat → Int32) × (Nat → Int32) × Int32 × Int32} (hf : fX9_restore z i_keptStands g_kept_froms g_now_froms g_kept_tos g_now_tos i_kept_made i_kept_order i_now_made i_now_order = some o)
    (hrt : ∀ (H : Heap) (locs : List Loc) (ls : Array Slot) (pc : Nat), va_P D vwCl (uX9_restore cI cJ a_this a_page a_reading a_pond a_moves a_numbering a_search a_ending a_chance a_now a_kept i_keptStands i_aimed i_hasAim i_reads a_now_froms a_now_tos o.2.2.2.1 o.2.2.2.2 a_kept_froms a_kept_tos i_kept_made i_kept_order g_kept_froms o.2.1 g_kept_tos o.2.2.1) H → va_D A (uX9_restore cI cJ a_this a_page a_reading a_pond a_moves a_numbering a_search a_ending a_chance a_now a_kept i_keptStands i_aimed i_hasAim i_reads a_now_froms a_now_tos o.2.2.2.1 o.2.2.2.2 a_kept_froms a_kept_tos i_kept_made i_kept_order g_kept_froms o.2.1 g_kept_tos o.2.2.1) → va_S A s.heap H locs → decode cX9_restore pc = .ok (.ireturn, 1) → W p l e rX9_restore s m args below meth c H locs 0 0 Q (F0 m pc ls [.int o.1]))
    {H : Heap} {locs : List Loc} {ls : Array Slot} (hP : va_P D vwCl (uX9_restore cI cJ a_this a_page a_reading a_pond a_moves a_numbering a_search a_ending a_chance a_now a_kept i_keptStands i_aimed i_hasAim i_reads a_now_froms a_now_tos i_now_made i_now_order a_kept_froms a_kept_tos i_kept_made i_kept_order g_kept_froms g_now_froms g_kept_tos g_now_tos) H) (hD : va_D A (uX9_restore cI cJ a_this a_page a_reading a_pond a_moves a_numbering a_search a_ending a_chance a_now a_kept i_keptStands i_aimed i_hasAim i_reads a_now_froms a_now_tos i_now_made i_now_order a_kept_froms a_kept_tos i_kept_made i_kept_order g_kept_froms g_now_froms g_kept_tos g_now_tos)) (hS : va_S A s.heap H locs) (hl : lv_has ls 1 [(0, .ref a_this)]) : W p l e rX9_restore s m args below meth c H locs 0 0 Q (F0 m 0 ls []) := by
  obtain ⟨hx, hb, hml, hown, hts, hK, hN, hA, hlocks⟩ := id C
  unfold fX9_restore at hf
  refine lv_aload_n hx hb dX9_restore_0 rfl (lv_at hl 0 rfl) ?_
  refine va_get (D := D) (ci := 9) (v := .int i_keptStands) (C := RX9) (T := TX9) (N := 14) hx hb hts jX9_restore_X9 hown hK hP 0 rfl rfl 10 (by decide) (hts _ qX9_restore_133) (fun _ h9 => h9) rfl dX9_restore_1 ?_
  refine lv_if_ne (tgt := 10) hx hb dX9_restore_4 (by decide) (fun hc => ?_) (fun hc => ?_)
  · have hf := if_no hc hf
    refine lv_aload_n hx hb dX9_restore_10 rfl (lv_at hl 0 rfl) ?_
    refine va_get (D := D) (ci := 9) (v := .ref a_now) (C := RX9) (T := TX9) (N := 14) hx hb hts jX9_restore_X9 hown hK hP 0 rfl rfl 8 (by decide) (hts _ qX9_restore_74) (fun _ h9 => h9) rfl dX9_restore_11 ?_
    refine lv_aload_n hx hb dX9_restore_14 rfl (lv_at hl 0 rfl) ?_
    refine va_get (D := D) (ci := 9) (v := .ref a_kept) (C := RX9) (T := TX9) (N := 14) hx hb hts jX9_restore_X9 hown hK hP 0 rfl rfl 9 (by decide) (hts _ qX9_restore_78) (fun _ h9 => h9) rfl dX9_restore_15 ?_
    obtain ⟨q1, hq, hf⟩ := ob_some hf
    refine cl_v (wc := (uX1_copy cI cJ a_kept a_kept_froms a_kept_tos i_kept_made i_kept_order a_now a_now_froms a_now_tos i_now_made i_now_order g_kept_froms g_now_froms g_kept_tos g_now_tos)) (w1 := (uX1_copy cI cJ a_kept a_kept_froms a_kept_tos i_kept_made i_kept_order a_now a_now_froms a_now_tos q1.2.2.1 q1.2.2.2 g_kept_froms q1.1 g_kept_tos q1.2.1)) (rn_V (As := [.ref a_kept]) (b := a_now) (rest := []) (wc := (uX1_copy cI cJ a_kept a_kept_froms a_kept_tos i_kept_made i_kept_order a_now a_now_froms a_now_tos i_now_made i_now_order g_kept_froms g_now_froms g_kept_tos g_now_tos)) (ci := 1) (q0 := 1) C hP hD [2, 1, 3, 4, 5, 6] rfl rfl rfl rfl (mX1_copy l D cI cJ H.size hq) 1 gX9_restore_X1_copy rfl ⟨rfl, rfl, Nat.le_of_ble_eq_true rfl, Nat.le_of_ble_eq_true rfl⟩ hdX1_copy rfl hl.1 rfl (Nat.le_of_ble_eq_true rfl) dX9_restore_18) hP hD hS hA [2, 1, 3, 4, 5, 6] rfl rfl (fun H locs hP hD hS => ?_)
    have hP : va_P D vwCl (uX9_restore cI cJ a_this a_page a_reading a_pond a_moves a_numbering a_search a_ending a_chance a_now a_kept i_keptStands i_aimed i_hasAim i_reads a_now_froms a_now_tos q1.2.2.1 q1.2.2.2 a_kept_froms a_kept_tos i_kept_made i_kept_order g_kept_froms q1.1 g_kept_tos q1.2.1) H := hP
    have hD : va_D A (uX9_restore cI cJ a_this a_page a_reading a_pond a_moves a_numbering a_search a_ending a_chance a_now a_kept i_keptStands i_aimed i_hasAim i_reads a_now_froms a_now_tos q1.2.2.1 q1.2.2.2 a_kept_froms a_kept_tos i_kept_made i_kept_order g_kept_froms q1.1 g_kept_tos q1.2.1) := hD
    refine lv_aload_n hx hb dX9_restore_21 rfl (lv_at hl 0 rfl) ?_
    refine va_get (D := D) (ci := 9) (v := .ref a_now) (C := RX9) (T := TX9) (N := 14) hx hb hts jX9_restore_X9 hown hK hP 0 rfl rfl 8 (by decide) (hts _ qX9_restore_74) (fun _ h9 => h9) rfl dX9_restore_22 ?_
    refine va_get (D := D) (ci := 1) (v := .int q1.2.2.1) (C := RX1) (T := TX1) (N := 4) hx hb hts jX9_restore_X1 hown hK hP 1 rfl rfl 2 (by decide) (hts _ qX9_restore_179) (fun _ h9 => h9) rfl dX9_restore_25 ?_
    have ho := Option.some.inj hf
    subst ho
    exact hrt H locs ls _ hP hD hS dX9_restore_28
  · have hf := if_yes hc hf
    refine lv_bipush (v := (-103)) hx hb dX9_restore_7 (by decide) ?_
    have ho := Option.some.inj hf
    subst ho
    exact hrt H locs ls _ hP hD hS dX9_restore_9
set_option maxHeartbeats 4000000 in
set_option maxRecDepth 100000 in
theorem mX9_restore (l : Launch) (D : va_G) (cI cJ : ClassId) (sz : Nat) {a_this : Nat} {a_page : Nat} {a_reading : Nat} {a_pond : Nat} {a_moves : Nat} {a_numbering : Nat} {a_search : Nat} {a_ending : Nat} {a_chance : Nat} {a_now : Nat} {a_kept : Nat} {i_keptStands : Int32} {i_aimed : Int32} {i_hasAim : Int32} {i_reads : Int32} {a_now_froms : Nat} {a_now_tos : Nat} {i_now_made : Int32} {i_now_order : Int32} {a_kept_froms : Nat} {a_kept_tos : Nat} {i_kept_made : Int32} {i_kept_order : Int32} {g_kept_froms : Nat → Int32} {g_now_froms : Nat → Int32} {g_kept_tos : Nat → Int32} {g_now_tos : Nat → Int32} {z : Nat} {o : Int32 × (Nat → Int32) × (Nat → Int32) × Int32 × Int32} (hf : fX9_restore z i_keptStands g_kept_froms g_now_froms g_kept_tos g_now_tos i_kept_made i_kept_order i_now_made i_now_order = some o) : Met l yX9_restore wsX9_restore rX9_restore (va_Pc [.ref a_this] (kP D cI cJ (uX9_restore cI cJ a_this a_page a_reading a_pond a_moves a_numbering a_search a_ending a_chance a_now a_kept i_keptStands i_aimed i_hasAim i_reads a_now_froms a_now_tos i_now_made i_now_order a_kept_froms a_kept_tos i_kept_made i_kept_order g_kept_froms g_now_froms g_kept_tos g_now_tos) sz)) (va_Qi (fun r' (_ : Unit) => r' = o.1) (fun _ t => kB D (va_A (uX9_restore cI cJ a_this a_page a_reading a_pond a_moves a_numbering a_search a_ending a_chance a_now a_kept i_keptStands i_aimed i_hasAim i_reads a_now_froms a_now_tos i_now_made i_now_order a_kept_froms a_kept_tos i_kept_made i_kept_order g_kept_froms g_now_froms g_kept_tos g_now_tos) sz) (uX9_restore cI cJ a_this a_page a_reading a_pond a_moves a_numbering a_search a_ending a_chance a_now a_kept i_keptStands i_aimed i_hasAim i_reads a_now_froms a_now_tos o.2.2.2.1 o.2.2.2.2 a_kept_froms a_kept_tos i_kept_made i_kept_order g_kept_froms o.2.1 g_kept_tos o.2.2.1) t) (va_A (uX9_restore cI cJ a_this a_page a_reading a_pond a_moves a_numbering a_search a_ending a_chance a_now a_kept i_keptStands i_aimed i_hasAim i_reads a_now_froms a_now_tos i_now_made i_now_order a_kept_froms a_kept_tos i_kept_made i_kept_order g_kept_froms g_now_froms g_kept_tos g_now_tos) sz)) 0 0 (va_A (uX9_restore cI cJ a_this a_page a_reading a_pond a_moves a_numbering a_search a_ending a_chance a_now a_kept i_keptStands i_aimed i_hasAim i_reads a_now_froms a_now_tos i_now_made i_now_order a_kept_froms a_kept_tos i_kept_made i_kept_order g_kept_froms g_now_froms g_kept_tos g_now_tos) sz) :=
  met_i (by decide) rfl (Nat.le_of_ble_eq_true rfl) (fun p e s m below meth c A Q C hrt ls hl hP hD hS => kX9_restore_0 (A := A) C hf hrt hP hD hS hl)

/-! ===== FrogsOnRing.count(I)I ===== -/
abbrev uX9_count (cI cJ : ClassId) (a_this : Nat) (a_page : Nat) (a_reading : Nat) (a_pond : Nat) (a_moves : Nat) (a_numbering : Nat) (a_search : Nat) (a_ending : Nat) (a_chance : Nat) (a_now : Nat) (a_kept : Nat) (i_keptStands : Int32) (i_aimed : Int32) (i_hasAim : Int32) (i_reads : Int32) (a_page_codes : Nat) (i_page_size : Int32) (a_now_froms : Nat) (a_now_tos : Nat) (i_now_made : Int32) (i_now_order : Int32) (a_pond_behinds : Nat) (a_pond_depths : Nat) (i_pond_size : Int32) (i_pond_isRing : Int32) (i_pond_overOthers : Int32) (i_pond_longestLeap : Int32) : va_W := [(a_this, .inr (9, [.ref a_page, .ref a_reading, .ref a_pond, .ref a_moves, .ref a_numbering, .ref a_search, .ref a_ending, .ref a_chance, .ref a_now, .ref a_kept, .int i_keptStands, .int i_aimed, .int i_hasAim, .int i_reads])), (a_page, .inr (5, [.ref a_page_codes, .int i_page_size])), (a_now, .inr (1, [.ref a_now_froms, .ref a_now_tos, .int i_now_made, .int i_now_order])), (a_pond, .inr (6, [.ref a_pond_behinds, .ref a_pond_depths, .int i_pond_size, .int i_pond_isRing, .int i_pond_overOthers, .int i_pond_longestLeap]))]
def rX9_count : Room := { frames := 3, cells := 0, slots := 0, locals := 64 }
theorem hdX9_count : yX9_count.cls = RX9 ∧ yX9_count.cls ≠ "java/lang/invoke/MethodHandle" ∧ yX9_count.cls ≠ "java/lang/invoke/VarHandle" ∧ (parseMethodDescriptor yX9_count.desc).map (fun d => d.parameters.length) = some 1 := by decide +kernel
set_option maxRecDepth 20000 in
theorem jX9_count_X1 : ∀ w ∈ u_ws RX1 TX1 4, w ∈ wsX9_count := by decide +kernel
set_option maxRecDepth 20000 in
theorem jX9_count_X5 : ∀ w ∈ u_ws RX5 TX5 2, w ∈ wsX9_count := by decide +kernel
set_option maxRecDepth 20000 in
theorem jX9_count_X6 : ∀ w ∈ u_ws RX6 TX6 6, w ∈ wsX9_count := by decide +kernel
set_option maxRecDepth 20000 in
theorem jX9_count_X9 : ∀ w ∈ u_ws RX9 TX9 14, w ∈ wsX9_count := by decide +kernel
set_option maxRecDepth 20000 in
theorem qX9_count_10 : Cond.fieldLink RX9 10 "FrogsOnRing" "page" "LFrogsOnRing$Page;" ∈ wsX9_count := by decide +kernel
set_option maxRecDepth 20000 in
theorem qX9_count_114 : Cond.fieldLink RX9 114 "FrogsOnRing$Pond" "size" "I" ∈ wsX9_count := by decide +kernel
set_option maxRecDepth 20000 in
theorem qX9_count_123 : Cond.fieldLink RX9 123 "FrogsOnRing$Course" "order" "I" ∈ wsX9_count := by decide +kernel
set_option maxRecDepth 20000 in
theorem qX9_count_139 : Cond.fieldLink RX9 139 "FrogsOnRing" "reads" "I" ∈ wsX9_count := by decide +kernel
set_option maxRecDepth 20000 in
theorem qX9_count_179 : Cond.fieldLink RX9 179 "FrogsOnRing$Course" "made" "I" ∈ wsX9_count := by decide +kernel
set_option maxRecDepth 20000 in
theorem qX9_count_26 : Cond.fieldLink RX9 26 "FrogsOnRing" "pond" "LFrogsOnRing$Pond;" ∈ wsX9_count := by decide +kernel
set_option maxRecDepth 20000 in
theorem qX9_count_74 : Cond.fieldLink RX9 74 "FrogsOnRing" "now" "LFrogsOnRing$Course;" ∈ wsX9_count := by decide +kernel
set_option maxRecDepth 20000 in
theorem qX9_count_85 : Cond.fieldLink RX9 85 "FrogsOnRing$Page" "size" "I" ∈ wsX9_count := by decide +kernel
set_option maxHeartbeats 4000000 in
set_option maxRecDepth 100000 in
theorem kX9_count_0 {p : Program} {l : Launch} {e : Env} {s : State} {m : MethodId} {args : Array Value} {below : List Frame} {meth : Method} {c : Code} {Q : State → Prop} {A : Nat → Prop} {D : va_G} {cI cJ : ClassId} (C : bC cX9_count 2 RX9 wsX9_count D cI cJ p s m args c meth A)
    {a_this : Nat} {a_page : Nat} {a_reading : Nat} {a_pond : Nat} {a_moves : Nat} {a_numbering : Nat} {a_search : Nat} {a_ending : Nat} {a_chance : Nat} {a_now : Nat} {a_kept : Nat} {i_keptStands : Int32} {i_aimed : Int32} {i_hasAim : Int32} {i_reads : Int32} {a_page_codes : Nat} {i_page_size : Int32} {a_now_froms : Nat} {a_now_tos : Nat} {i_now_made : Int32} {i_now_order : Int32} {a_pond_behinds : Nat} {a_pond_depths : Nat} {i_pond_size : Int32} {i_pond_isRing : Int32} {i_pond_overOthers : Int32} {i_pond_longestLeap : Int32} {z : Nat} {x1 : Int32} {o : Int32} (hf : fX9_count z x1 i_reads i_page_size i_now_made i_now_order i_pond_size = some o)
    (hrt : ∀ (H : Heap) (locs : List Loc) (ls : Array Slot) (pc : Nat), va_P D vwCl (uX9_count cI cJ a_this a_page a_reading a_pond a_moves a_numbering a_search a_ending a_chance a_now a_kept i_keptStands i_aimed i_hasAim i_reads a_page_codes i_page_size a_now_froms a_now_tos i_now_made i_now_order a_pond_behinds a_pond_depths i_pond_size i_pond_isRing i_pond_overOthers i_pond_longestLeap) H → va_D A (uX9_count cI cJ a_this a_page a_reading a_pond a_moves a_numbering a_search a_ending a_chance a_now a_kept i_keptStands i_aimed i_hasAim i_reads a_page_codes i_page_size a_now_froms a_now_tos i_now_made i_now_order a_pond_behinds a_pond_depths i_pond_size i_pond_isRing i_pond_overOthers i_pond_longestLeap) → va_S A s.heap H locs → decode cX9_count pc = .ok (.ireturn, 1) → W p l e rX9_count s m args below meth c H locs 0 0 Q (F0 m pc ls [.int o]))
    {H : Heap} {locs : List Loc} {ls : Array Slot} (hP : va_P D vwCl (uX9_count cI cJ a_this a_page a_reading a_pond a_moves a_numbering a_search a_ending a_chance a_now a_kept i_keptStands i_aimed i_hasAim i_reads a_page_codes i_page_size a_now_froms a_now_tos i_now_made i_now_order a_pond_behinds a_pond_depths i_pond_size i_pond_isRing i_pond_overOthers i_pond_longestLeap) H) (hD : va_D A (uX9_count cI cJ a_this a_page a_reading a_pond a_moves a_numbering a_search a_ending a_chance a_now a_kept i_keptStands i_aimed i_hasAim i_reads a_page_codes i_page_size a_now_froms a_now_tos i_now_made i_now_order a_pond_behinds a_pond_depths i_pond_size i_pond_isRing i_pond_overOthers i_pond_longestLeap)) (hS : va_S A s.heap H locs) (hl : lv_has ls 2 [(0, .ref a_this), (1, .int x1)]) : W p l e rX9_count s m args below meth c H locs 0 0 Q (F0 m 0 ls []) := by
  obtain ⟨hx, hb, hml, hown, hts, hK, hN, hA, hlocks⟩ := id C
  unfold fX9_count at hf
  refine lv_iload_n hx hb dX9_count_0 rfl (lv_at hl 1 rfl) ?_
  by_cases hc0 : x1 = 0
  · have hf := if_yes hc0 hf
    refine lv_tableIn (tgt := 48) (off := 47) hx hb dX9_count_1 (by rw [hc0]; decide) (by rw [hc0]; decide) (by rw [hc0]; rfl) (by decide) ?_
    refine lv_aload_n hx hb dX9_count_48 rfl (lv_at hl 0 rfl) ?_
    refine va_get (D := D) (ci := 9) (v := .ref a_pond) (C := RX9) (T := TX9) (N := 14) hx hb hts jX9_count_X9 hown hK hP 0 rfl rfl 2 (by decide) (hts _ qX9_count_26) (fun _ h9 => h9) rfl dX9_count_49 ?_
    refine va_get (D := D) (ci := 6) (v := .int i_pond_size) (C := RX6) (T := TX6) (N := 6) hx hb hts jX9_count_X6 hown hK hP 3 rfl rfl 2 (by decide) (hts _ qX9_count_114) (fun _ h9 => h9) rfl dX9_count_52 ?_
    have ho := Option.some.inj hf
    subst ho
    exact hrt H locs ls _ hP hD hS dX9_count_55
  have hf := if_no hc0 hf
  by_cases hc1 : x1 = 1
  · have hf := if_yes hc1 hf
    refine lv_tableIn (tgt := 56) (off := 55) hx hb dX9_count_1 (by rw [hc1]; decide) (by rw [hc1]; decide) (by rw [hc1]; rfl) (by decide) ?_
    refine lv_aload_n hx hb dX9_count_56 rfl (lv_at hl 0 rfl) ?_
    refine va_get (D := D) (ci := 9) (v := .ref a_now) (C := RX9) (T := TX9) (N := 14) hx hb hts jX9_count_X9 hown hK hP 0 rfl rfl 8 (by decide) (hts _ qX9_count_74) (fun _ h9 => h9) rfl dX9_count_57 ?_
    refine va_get (D := D) (ci := 1) (v := .int i_now_order) (C := RX1) (T := TX1) (N := 4) hx hb hts jX9_count_X1 hown hK hP 2 rfl rfl 3 (by decide) (hts _ qX9_count_123) (fun _ h9 => h9) rfl dX9_count_60 ?_
    obtain ⟨q1, hq, hf⟩ := ob_some hf
    refine cl_i (wc := (uX9_frogsOf cI cJ)) (w1 := (uX9_frogsOf cI cJ)) (rn_S (As := [.int i_now_order]) (rest := []) (wc := (uX9_frogsOf cI cJ)) C hP hD [] rfl rfl (mX9_frogsOf l D cI cJ H.size hq) 1 gX9_count_X9_frogsOf rfl ⟨rfl, rfl, Nat.le_of_ble_eq_true rfl, Nat.le_of_ble_eq_true rfl⟩ hdX9_frogsOf.2 rfl hl.1 rfl (Nat.le_of_ble_eq_true rfl) dX9_count_63) hP hD hS hA [] rfl rfl (fun H locs hP hD hS => ?_)
    have hP : va_P D vwCl (uX9_count cI cJ a_this a_page a_reading a_pond a_moves a_numbering a_search a_ending a_chance a_now a_kept i_keptStands i_aimed i_hasAim i_reads a_page_codes i_page_size a_now_froms a_now_tos i_now_made i_now_order a_pond_behinds a_pond_depths i_pond_size i_pond_isRing i_pond_overOthers i_pond_longestLeap) H := hP
    have hD : va_D A (uX9_count cI cJ a_this a_page a_reading a_pond a_moves a_numbering a_search a_ending a_chance a_now a_kept i_keptStands i_aimed i_hasAim i_reads a_page_codes i_page_size a_now_froms a_now_tos i_now_made i_now_order a_pond_behinds a_pond_depths i_pond_size i_pond_isRing i_pond_overOthers i_pond_longestLeap) := hD
    have ho := Option.some.inj hf
    subst ho
    exact hrt H locs ls _ hP hD hS dX9_count_66
  have hf := if_no hc1 hf
  by_cases hc2 : x1 = 2
  · have hf := if_yes hc2 hf
    refine lv_tableIn (tgt := 67) (off := 66) hx hb dX9_count_1 (by rw [hc2]; decide) (by rw [hc2]; decide) (by rw [hc2]; rfl) (by decide) ?_
    refine lv_aload_n hx hb dX9_count_67 rfl (lv_at hl 0 rfl) ?_
    refine va_get (D := D) (ci := 9) (v := .ref a_now) (C := RX9) (T := TX9) (N := 14) hx hb hts jX9_count_X9 hown hK hP 0 rfl rfl 8 (by decide) (hts _ qX9_count_74) (fun _ h9 => h9) rfl dX9_count_68 ?_
    refine va_get (D := D) (ci := 1) (v := .int i_now_order) (C := RX1) (T := TX1) (N := 4) hx hb hts jX9_count_X1 hown hK hP 2 rfl rfl 3 (by decide) (hts _ qX9_count_123) (fun _ h9 => h9) rfl dX9_count_71 ?_
    refine lv_iconst (v := 1) hx hb dX9_count_74 (by decide) ?_
    obtain ⟨q2, hq, hf⟩ := ob_some hf
    refine cl_i (wc := (uX9_colouredOf cI cJ)) (w1 := (uX9_colouredOf cI cJ)) (rn_S (As := [.int i_now_order, .int 1]) (rest := []) (wc := (uX9_colouredOf cI cJ)) C hP hD [] rfl rfl (mX9_colouredOf l D cI cJ H.size hq) 2 gX9_count_X9_colouredOf rfl ⟨rfl, rfl, Nat.le_of_ble_eq_true rfl, Nat.le_of_ble_eq_true rfl⟩ hdX9_colouredOf.2 rfl hl.1 rfl (Nat.le_of_ble_eq_true rfl) dX9_count_75) hP hD hS hA [] rfl rfl (fun H locs hP hD hS => ?_)
    have hP : va_P D vwCl (uX9_count cI cJ a_this a_page a_reading a_pond a_moves a_numbering a_search a_ending a_chance a_now a_kept i_keptStands i_aimed i_hasAim i_reads a_page_codes i_page_size a_now_froms a_now_tos i_now_made i_now_order a_pond_behinds a_pond_depths i_pond_size i_pond_isRing i_pond_overOthers i_pond_longestLeap) H := hP
    have hD : va_D A (uX9_count cI cJ a_this a_page a_reading a_pond a_moves a_numbering a_search a_ending a_chance a_now a_kept i_keptStands i_aimed i_hasAim i_reads a_page_codes i_page_size a_now_froms a_now_tos i_now_made i_now_order a_pond_behinds a_pond_depths i_pond_size i_pond_isRing i_pond_overOthers i_pond_longestLeap) := hD
    have ho := Option.some.inj hf
    subst ho
    exact hrt H locs ls _ hP hD hS dX9_count_78
  have hf := if_no hc2 hf
  by_cases hc3 : x1 = 3
  · have hf := if_yes hc3 hf
    refine lv_tableIn (tgt := 79) (off := 78) hx hb dX9_count_1 (by rw [hc3]; decide) (by rw [hc3]; decide) (by rw [hc3]; rfl) (by decide) ?_
    refine lv_aload_n hx hb dX9_count_79 rfl (lv_at hl 0 rfl) ?_
    refine va_get (D := D) (ci := 9) (v := .ref a_now) (C := RX9) (T := TX9) (N := 14) hx hb hts jX9_count_X9 hown hK hP 0 rfl rfl 8 (by decide) (hts _ qX9_count_74) (fun _ h9 => h9) rfl dX9_count_80 ?_
    refine va_get (D := D) (ci := 1) (v := .int i_now_order) (C := RX1) (T := TX1) (N := 4) hx hb hts jX9_count_X1 hown hK hP 2 rfl rfl 3 (by decide) (hts _ qX9_count_123) (fun _ h9 => h9) rfl dX9_count_83 ?_
    refine lv_iconst (v := 2) hx hb dX9_count_86 (by decide) ?_
    obtain ⟨q3, hq, hf⟩ := ob_some hf
    refine cl_i (wc := (uX9_colouredOf cI cJ)) (w1 := (uX9_colouredOf cI cJ)) (rn_S (As := [.int i_now_order, .int 2]) (rest := []) (wc := (uX9_colouredOf cI cJ)) C hP hD [] rfl rfl (mX9_colouredOf l D cI cJ H.size hq) 2 gX9_count_X9_colouredOf rfl ⟨rfl, rfl, Nat.le_of_ble_eq_true rfl, Nat.le_of_ble_eq_true rfl⟩ hdX9_colouredOf.2 rfl hl.1 rfl (Nat.le_of_ble_eq_true rfl) dX9_count_87) hP hD hS hA [] rfl rfl (fun H locs hP hD hS => ?_)
    have hP : va_P D vwCl (uX9_count cI cJ a_this a_page a_reading a_pond a_moves a_numbering a_search a_ending a_chance a_now a_kept i_keptStands i_aimed i_hasAim i_reads a_page_codes i_page_size a_now_froms a_now_tos i_now_made i_now_order a_pond_behinds a_pond_depths i_pond_size i_pond_isRing i_pond_overOthers i_pond_longestLeap) H := hP
    have hD : va_D A (uX9_count cI cJ a_this a_page a_reading a_pond a_moves a_numbering a_search a_ending a_chance a_now a_kept i_keptStands i_aimed i_hasAim i_reads a_page_codes i_page_size a_now_froms a_now_tos i_now_made i_now_order a_pond_behinds a_pond_depths i_pond_size i_pond_isRing i_pond_overOthers i_pond_longestLeap) := hD
    have ho := Option.some.inj hf
    subst ho
    exact hrt H locs ls _ hP hD hS dX9_count_90
  have hf := if_no hc3 hf
  by_cases hc4 : x1 = 4
  · have hf := if_yes hc4 hf
    refine lv_tableIn (tgt := 91) (off := 90) hx hb dX9_count_1 (by rw [hc4]; decide) (by rw [hc4]; decide) (by rw [hc4]; rfl) (by decide) ?_
    refine lv_aload_n hx hb dX9_count_91 rfl (lv_at hl 0 rfl) ?_
    refine va_get (D := D) (ci := 9) (v := .ref a_now) (C := RX9) (T := TX9) (N := 14) hx hb hts jX9_count_X9 hown hK hP 0 rfl rfl 8 (by decide) (hts _ qX9_count_74) (fun _ h9 => h9) rfl dX9_count_92 ?_
    refine va_get (D := D) (ci := 1) (v := .int i_now_order) (C := RX1) (T := TX1) (N := 4) hx hb hts jX9_count_X1 hown hK hP 2 rfl rfl 3 (by decide) (hts _ qX9_count_123) (fun _ h9 => h9) rfl dX9_count_95 ?_
    refine lv_iconst (v := 3) hx hb dX9_count_98 (by decide) ?_
    obtain ⟨q4, hq, hf⟩ := ob_some hf
    refine cl_i (wc := (uX9_colouredOf cI cJ)) (w1 := (uX9_colouredOf cI cJ)) (rn_S (As := [.int i_now_order, .int 3]) (rest := []) (wc := (uX9_colouredOf cI cJ)) C hP hD [] rfl rfl (mX9_colouredOf l D cI cJ H.size hq) 2 gX9_count_X9_colouredOf rfl ⟨rfl, rfl, Nat.le_of_ble_eq_true rfl, Nat.le_of_ble_eq_true rfl⟩ hdX9_colouredOf.2 rfl hl.1 rfl (Nat.le_of_ble_eq_true rfl) dX9_count_99) hP hD hS hA [] rfl rfl (fun H locs hP hD hS => ?_)
    have hP : va_P D vwCl (uX9_count cI cJ a_this a_page a_reading a_pond a_moves a_numbering a_search a_ending a_chance a_now a_kept i_keptStands i_aimed i_hasAim i_reads a_page_codes i_page_size a_now_froms a_now_tos i_now_made i_now_order a_pond_behinds a_pond_depths i_pond_size i_pond_isRing i_pond_overOthers i_pond_longestLeap) H := hP
    have hD : va_D A (uX9_count cI cJ a_this a_page a_reading a_pond a_moves a_numbering a_search a_ending a_chance a_now a_kept i_keptStands i_aimed i_hasAim i_reads a_page_codes i_page_size a_now_froms a_now_tos i_now_made i_now_order a_pond_behinds a_pond_depths i_pond_size i_pond_isRing i_pond_overOthers i_pond_longestLeap) := hD
    have ho := Option.some.inj hf
    subst ho
    exact hrt H locs ls _ hP hD hS dX9_count_102
  have hf := if_no hc4 hf
  by_cases hc5 : x1 = 5
  · have hf := if_yes hc5 hf
    refine lv_tableIn (tgt := 103) (off := 102) hx hb dX9_count_1 (by rw [hc5]; decide) (by rw [hc5]; decide) (by rw [hc5]; rfl) (by decide) ?_
    refine lv_aload_n hx hb dX9_count_103 rfl (lv_at hl 0 rfl) ?_
    refine va_get (D := D) (ci := 9) (v := .ref a_now) (C := RX9) (T := TX9) (N := 14) hx hb hts jX9_count_X9 hown hK hP 0 rfl rfl 8 (by decide) (hts _ qX9_count_74) (fun _ h9 => h9) rfl dX9_count_104 ?_
    refine va_get (D := D) (ci := 1) (v := .int i_now_made) (C := RX1) (T := TX1) (N := 4) hx hb hts jX9_count_X1 hown hK hP 2 rfl rfl 2 (by decide) (hts _ qX9_count_179) (fun _ h9 => h9) rfl dX9_count_107 ?_
    have ho := Option.some.inj hf
    subst ho
    exact hrt H locs ls _ hP hD hS dX9_count_110
  have hf := if_no hc5 hf
  by_cases hc6 : x1 = 6
  · have hf := if_yes hc6 hf
    refine lv_tableIn (tgt := 111) (off := 110) hx hb dX9_count_1 (by rw [hc6]; decide) (by rw [hc6]; decide) (by rw [hc6]; rfl) (by decide) ?_
    refine lv_aload_n hx hb dX9_count_111 rfl (lv_at hl 0 rfl) ?_
    refine va_get (D := D) (ci := 9) (v := .ref a_page) (C := RX9) (T := TX9) (N := 14) hx hb hts jX9_count_X9 hown hK hP 0 rfl rfl 0 (by decide) (hts _ qX9_count_10) (fun _ h9 => h9) rfl dX9_count_112 ?_
    refine va_get (D := D) (ci := 5) (v := .int i_page_size) (C := RX5) (T := TX5) (N := 2) hx hb hts jX9_count_X5 hown hK hP 1 rfl rfl 1 (by decide) (hts _ qX9_count_85) (fun _ h9 => h9) rfl dX9_count_115 ?_
    have ho := Option.some.inj hf
    subst ho
    exact hrt H locs ls _ hP hD hS dX9_count_118
  have hf := if_no hc6 hf
  by_cases hc7 : x1 = 7
  · have hf := if_yes hc7 hf
    refine lv_tableIn (tgt := 119) (off := 118) hx hb dX9_count_1 (by rw [hc7]; decide) (by rw [hc7]; decide) (by rw [hc7]; rfl) (by decide) ?_
    refine lv_aload_n hx hb dX9_count_119 rfl (lv_at hl 0 rfl) ?_
    refine va_get (D := D) (ci := 9) (v := .int i_reads) (C := RX9) (T := TX9) (N := 14) hx hb hts jX9_count_X9 hown hK hP 0 rfl rfl 13 (by decide) (hts _ qX9_count_139) (fun _ h9 => h9) rfl dX9_count_120 ?_
    have ho := Option.some.inj hf
    subst ho
    exact hrt H locs ls _ hP hD hS dX9_count_123
  have hf := if_no hc7 hf
  have hd0 := tsw_ne hc0 (i := 0) (by decide)
  have hd1 := tsw_ne hc1 (i := 1) (by decide)
  have hd2 := tsw_ne hc2 (i := 2) (by decide)
  have hd3 := tsw_ne hc3 (i := 3) (by decide)
  have hd4 := tsw_ne hc4 (i := 4) (by decide)
  have hd5 := tsw_ne hc5 (i := 5) (by decide)
  have hd6 := tsw_ne hc6 (i := 6) (by decide)
  have hd7 := tsw_ne hc7 (i := 7) (by decide)
  refine lv_tableOut (tgt := 124) hx hb dX9_count_1 (by omega) (by decide) ?_
  refine lv_bipush (v := (-102)) hx hb dX9_count_124 (by decide) ?_
  have ho := Option.some.inj hf
  subst ho
  exact hrt H locs ls _ hP hD hS dX9_count_126
set_option maxHeartbeats 4000000 in
set_option maxRecDepth 100000 in
theorem mX9_count (l : Launch) (D : va_G) (cI cJ : ClassId) (sz : Nat) {a_this : Nat} {a_page : Nat} {a_reading : Nat} {a_pond : Nat} {a_moves : Nat} {a_numbering : Nat} {a_search : Nat} {a_ending : Nat} {a_chance : Nat} {a_now : Nat} {a_kept : Nat} {i_keptStands : Int32} {i_aimed : Int32} {i_hasAim : Int32} {i_reads : Int32} {a_page_codes : Nat} {i_page_size : Int32} {a_now_froms : Nat} {a_now_tos : Nat} {i_now_made : Int32} {i_now_order : Int32} {a_pond_behinds : Nat} {a_pond_depths : Nat} {i_pond_size : Int32} {i_pond_isRing : Int32} {i_pond_overOthers : Int32} {i_pond_longestLeap : Int32} {z : Nat} {x1 : Int32} {o : Int32} (hf : fX9_count z x1 i_reads i_page_size i_now_made i_now_order i_pond_size = some o) : Met l yX9_count wsX9_count rX9_count (va_Pc [.ref a_this, .int x1] (kP D cI cJ (uX9_count cI cJ a_this a_page a_reading a_pond a_moves a_numbering a_search a_ending a_chance a_now a_kept i_keptStands i_aimed i_hasAim i_reads a_page_codes i_page_size a_now_froms a_now_tos i_now_made i_now_order a_pond_behinds a_pond_depths i_pond_size i_pond_isRing i_pond_overOthers i_pond_longestLeap) sz)) (va_Qi (fun r' (_ : Unit) => r' = o) (fun _ t => kB D (va_A (uX9_count cI cJ a_this a_page a_reading a_pond a_moves a_numbering a_search a_ending a_chance a_now a_kept i_keptStands i_aimed i_hasAim i_reads a_page_codes i_page_size a_now_froms a_now_tos i_now_made i_now_order a_pond_behinds a_pond_depths i_pond_size i_pond_isRing i_pond_overOthers i_pond_longestLeap) sz) (uX9_count cI cJ a_this a_page a_reading a_pond a_moves a_numbering a_search a_ending a_chance a_now a_kept i_keptStands i_aimed i_hasAim i_reads a_page_codes i_page_size a_now_froms a_now_tos i_now_made i_now_order a_pond_behinds a_pond_depths i_pond_size i_pond_isRing i_pond_overOthers i_pond_longestLeap) t) (va_A (uX9_count cI cJ a_this a_page a_reading a_pond a_moves a_numbering a_search a_ending a_chance a_now a_kept i_keptStands i_aimed i_hasAim i_reads a_page_codes i_page_size a_now_froms a_now_tos i_now_made i_now_order a_pond_behinds a_pond_depths i_pond_size i_pond_isRing i_pond_overOthers i_pond_longestLeap) sz)) 0 0 (va_A (uX9_count cI cJ a_this a_page a_reading a_pond a_moves a_numbering a_search a_ending a_chance a_now a_kept i_keptStands i_aimed i_hasAim i_reads a_page_codes i_page_size a_now_froms a_now_tos i_now_made i_now_order a_pond_behinds a_pond_depths i_pond_size i_pond_isRing i_pond_overOthers i_pond_longestLeap) sz) :=
  met_i (by decide) rfl (Nat.le_of_ble_eq_true rfl) (fun p e s m below meth c A Q C hrt ls hl hP hD hS => kX9_count_0 (A := A) C hf hrt hP hD hS hl)

/-! ===== FrogsOnRing.withMoves(J)J ===== -/
abbrev uX9_withMoves (cI cJ : ClassId) (a_this : Nat) (a_page : Nat) (a_reading : Nat) (a_pond : Nat) (a_moves : Nat) (a_numbering : Nat) (a_search : Nat) (a_ending : Nat) (a_chance : Nat) (a_now : Nat) (a_kept : Nat) (i_keptStands : Int32) (i_aimed : Int32) (i_hasAim : Int32) (i_reads : Int32) (a_now_froms : Nat) (a_now_tos : Nat) (i_now_made : Int32) (i_now_order : Int32) (a_moves_targets : Nat) (g_moves_targets : Nat → Int32) (a_pond_behinds : Nat) (a_pond_depths : Nat) (i_pond_size : Int32) (i_pond_isRing : Int32) (i_pond_overOthers : Int32) (i_pond_longestLeap : Int32) (g_pond_behinds : Nat → Int32) : va_W := [(a_this, .inr (9, [.ref a_page, .ref a_reading, .ref a_pond, .ref a_moves, .ref a_numbering, .ref a_search, .ref a_ending, .ref a_chance, .ref a_now, .ref a_kept, .int i_keptStands, .int i_aimed, .int i_hasAim, .int i_reads])), (a_now, .inr (1, [.ref a_now_froms, .ref a_now_tos, .int i_now_made, .int i_now_order])), (a_moves, .inr (3, [.ref a_pond, .ref a_moves_targets])), (a_moves_targets, .inl (cI, 9, .inl g_moves_targets)), (a_pond, .inr (6, [.ref a_pond_behinds, .ref a_pond_depths, .int i_pond_size, .int i_pond_isRing, .int i_pond_overOthers, .int i_pond_longestLeap])), (a_pond_behinds, .inl (cI, 9, .inl g_pond_behinds))]
def rX9_withMoves : Room := { frames := 3, cells := 0, slots := 0, locals := 71 }
theorem hdX9_withMoves : yX9_withMoves.cls = RX9 ∧ yX9_withMoves.cls ≠ "java/lang/invoke/MethodHandle" ∧ yX9_withMoves.cls ≠ "java/lang/invoke/VarHandle" ∧ (parseMethodDescriptor yX9_withMoves.desc).map (fun d => d.parameters.length) = some 1 := by decide +kernel
set_option maxRecDepth 20000 in
theorem jX9_withMoves_X1 : ∀ w ∈ u_ws RX1 TX1 4, w ∈ wsX9_withMoves := by decide +kernel
set_option maxRecDepth 20000 in
theorem jX9_withMoves_X6 : ∀ w ∈ u_ws RX6 TX6 6, w ∈ wsX9_withMoves := by decide +kernel
set_option maxRecDepth 20000 in
theorem jX9_withMoves_X9 : ∀ w ∈ u_ws RX9 TX9 14, w ∈ wsX9_withMoves := by decide +kernel
set_option maxRecDepth 20000 in
theorem qX9_withMoves_114 : Cond.fieldLink RX9 114 "FrogsOnRing$Pond" "size" "I" ∈ wsX9_withMoves := by decide +kernel
set_option maxRecDepth 20000 in
theorem qX9_withMoves_123 : Cond.fieldLink RX9 123 "FrogsOnRing$Course" "order" "I" ∈ wsX9_withMoves := by decide +kernel
set_option maxRecDepth 20000 in
theorem qX9_withMoves_26 : Cond.fieldLink RX9 26 "FrogsOnRing" "pond" "LFrogsOnRing$Pond;" ∈ wsX9_withMoves := by decide +kernel
set_option maxRecDepth 20000 in
theorem qX9_withMoves_275 : Cond.constantLong RX9 275 (31) ∈ wsX9_withMoves := by decide +kernel
set_option maxRecDepth 20000 in
theorem qX9_withMoves_35 : Cond.fieldLink RX9 35 "FrogsOnRing" "moves" "LFrogsOnRing$Moves;" ∈ wsX9_withMoves := by decide +kernel
set_option maxRecDepth 20000 in
theorem qX9_withMoves_74 : Cond.fieldLink RX9 74 "FrogsOnRing" "now" "LFrogsOnRing$Course;" ∈ wsX9_withMoves := by decide +kernel
set_option maxHeartbeats 4000000 in
set_option maxRecDepth 100000 in
theorem kX9_withMoves_L34 {p : Program} {l : Launch} {e : Env} {s : State} {m : MethodId} {args : Array Value} {below : List Frame} {meth : Method} {c : Code} {Q : State → Prop} {A : Nat → Prop} {D : va_G} {cI cJ : ClassId} (C : bC cX9_withMoves 7 RX9 wsX9_withMoves D cI cJ p s m args c meth A)
    {a_this : Nat} {a_page : Nat} {a_reading : Nat} {a_pond : Nat} {a_moves : Nat} {a_numbering : Nat} {a_search : Nat} {a_ending : Nat} {a_chance : Nat} {a_now : Nat} {a_kept : Nat} {i_keptStands : Int32} {i_aimed : Int32} {i_hasAim : Int32} {i_reads : Int32} {a_now_froms : Nat} {a_now_tos : Nat} {i_now_made : Int32} {i_now_order : Int32} {a_moves_targets : Nat} {g_moves_targets : Nat → Int32} {a_pond_behinds : Nat} {a_pond_depths : Nat} {i_pond_size : Int32} {i_pond_isRing : Int32} {i_pond_overOthers : Int32} {i_pond_longestLeap : Int32} {g_pond_behinds : Nat → Int32} {z : Nat} {x3 : Int64} {x5 : Int32} {x6 : Int32} {o : (Int64 × Int32) ⊕ (Int64)} (hf : fX9_withMoves_L34 z x3 x5 x6 i_now_order g_moves_targets i_pond_size i_pond_longestLeap g_pond_behinds i_pond_overOthers = some o)
    (hbk : ∀ s', o = .inl s' → ∀ (H : Heap) (locs : List Loc) (ls : Array Slot), va_P D vwCl (uX9_withMoves cI cJ a_this a_page a_reading a_pond a_moves a_numbering a_search a_ending a_chance a_now a_kept i_keptStands i_aimed i_hasAim i_reads a_now_froms a_now_tos i_now_made i_now_order a_moves_targets g_moves_targets a_pond_behinds a_pond_depths i_pond_size i_pond_isRing i_pond_overOthers i_pond_longestLeap g_pond_behinds) H → va_D A (uX9_withMoves cI cJ a_this a_page a_reading a_pond a_moves a_numbering a_search a_ending a_chance a_now a_kept i_keptStands i_aimed i_hasAim i_reads a_now_froms a_now_tos i_now_made i_now_order a_moves_targets g_moves_targets a_pond_behinds a_pond_depths i_pond_size i_pond_isRing i_pond_overOthers i_pond_longestLeap g_pond_behinds) → va_S A s.heap H locs → lv_has ls 7 [(0, .ref a_this), (3, .long s'.1), (5, .int x5), (6, .int s'.2)] → W p l e rX9_withMoves s m args below meth c H locs 0 0 Q (F0 m 34 ls []))
    (hex : ∀ e', o = .inr e' → ∀ (H : Heap) (locs : List Loc) (ls : Array Slot), va_P D vwCl (uX9_withMoves cI cJ a_this a_page a_reading a_pond a_moves a_numbering a_search a_ending a_chance a_now a_kept i_keptStands i_aimed i_hasAim i_reads a_now_froms a_now_tos i_now_made i_now_order a_moves_targets g_moves_targets a_pond_behinds a_pond_depths i_pond_size i_pond_isRing i_pond_overOthers i_pond_longestLeap g_pond_behinds) H → va_D A (uX9_withMoves cI cJ a_this a_page a_reading a_pond a_moves a_numbering a_search a_ending a_chance a_now a_kept i_keptStands i_aimed i_hasAim i_reads a_now_froms a_now_tos i_now_made i_now_order a_moves_targets g_moves_targets a_pond_behinds a_pond_depths i_pond_size i_pond_isRing i_pond_overOthers i_pond_longestLeap g_pond_behinds) → va_S A s.heap H locs → lv_has ls 7 [(0, .ref a_this), (3, .long e'), (5, .int x5)] → W p l e rX9_withMoves s m args below meth c H locs 0 0 Q (F0 m 83 ls []))
    {H : Heap} {locs : List Loc} {ls : Array Slot} (hP : va_P D vwCl (uX9_withMoves cI cJ a_this a_page a_reading a_pond a_moves a_numbering a_search a_ending a_chance a_now a_kept i_keptStands i_aimed i_hasAim i_reads a_now_froms a_now_tos i_now_made i_now_order a_moves_targets g_moves_targets a_pond_behinds a_pond_depths i_pond_size i_pond_isRing i_pond_overOthers i_pond_longestLeap g_pond_behinds) H) (hD : va_D A (uX9_withMoves cI cJ a_this a_page a_reading a_pond a_moves a_numbering a_search a_ending a_chance a_now a_kept i_keptStands i_aimed i_hasAim i_reads a_now_froms a_now_tos i_now_made i_now_order a_moves_targets g_moves_targets a_pond_behinds a_pond_depths i_pond_size i_pond_isRing i_pond_overOthers i_pond_longestLeap g_pond_behinds)) (hS : va_S A s.heap H locs) (hl : lv_has ls 7 [(0, .ref a_this), (3, .long x3), (5, .int x5), (6, .int x6)]) : W p l e rX9_withMoves s m args below meth c H locs 0 0 Q (F0 m 34 ls []) := by
  obtain ⟨hx, hb, hml, hown, hts, hK, hN, hA, hlocks⟩ := id C
  unfold fX9_withMoves_L34 at hf
  refine lv_iload hx hb dX9_withMoves_34 (lv_at hl 3 rfl) ?_
  refine lv_aload_n hx hb dX9_withMoves_36 rfl (lv_at hl 0 rfl) ?_
  refine va_get (D := D) (ci := 9) (v := .ref a_pond) (C := RX9) (T := TX9) (N := 14) hx hb hts jX9_withMoves_X9 hown hK hP 0 rfl rfl 2 (by decide) (hts _ qX9_withMoves_26) (fun _ h9 => h9) rfl dX9_withMoves_37 ?_
  refine va_get (D := D) (ci := 6) (v := .int i_pond_size) (C := RX6) (T := TX6) (N := 6) hx hb hts jX9_withMoves_X6 hown hK hP 4 rfl rfl 2 (by decide) (hts _ qX9_withMoves_114) (fun _ h9 => h9) rfl dX9_withMoves_40 ?_
  refine lv_icmp_ge (tgt := 83) hx hb dX9_withMoves_43 (by decide) (fun hc => ?_) (fun hc => ?_)
  · have hf := if_yes hc hf
    have ho := Option.some.inj hf
    subst ho
    exact hex _ rfl _ _ _ hP hD hS (lv_sub hl [0, 1, 2] rfl)
  · have hf := if_no hc hf
    refine lv_aload_n hx hb dX9_withMoves_46 rfl (lv_at hl 0 rfl) ?_
    refine va_get (D := D) (ci := 9) (v := .ref a_moves) (C := RX9) (T := TX9) (N := 14) hx hb hts jX9_withMoves_X9 hown hK hP 0 rfl rfl 3 (by decide) (hts _ qX9_withMoves_35) (fun _ h9 => h9) rfl dX9_withMoves_47 ?_
    refine lv_iload hx hb dX9_withMoves_50 (lv_at hl 2 rfl) ?_
    refine lv_iload hx hb dX9_withMoves_52 (lv_at hl 3 rfl) ?_
    obtain ⟨q2, hq, hf⟩ := ob_some hf
    refine cl_i (wc := (uX3_has cI cJ a_moves a_pond a_moves_targets g_moves_targets)) (w1 := (uX3_has cI cJ a_moves a_pond a_moves_targets g_moves_targets)) (rn_V (As := [.int x5, .int x6]) (b := a_moves) (rest := []) (wc := (uX3_has cI cJ a_moves a_pond a_moves_targets g_moves_targets)) (ci := 3) (q0 := 2) C hP hD [2, 3] rfl rfl rfl rfl (mX3_has l D cI cJ H.size hq) 2 gX9_withMoves_X3_has rfl ⟨rfl, rfl, Nat.le_of_ble_eq_true rfl, Nat.le_of_ble_eq_true rfl⟩ hdX3_has rfl hl.1 rfl (Nat.le_of_ble_eq_true rfl) dX9_withMoves_54) hP hD hS hA [2, 3] rfl rfl (fun H locs hP hD hS => ?_)
    have hP : va_P D vwCl (uX9_withMoves cI cJ a_this a_page a_reading a_pond a_moves a_numbering a_search a_ending a_chance a_now a_kept i_keptStands i_aimed i_hasAim i_reads a_now_froms a_now_tos i_now_made i_now_order a_moves_targets g_moves_targets a_pond_behinds a_pond_depths i_pond_size i_pond_isRing i_pond_overOthers i_pond_longestLeap g_pond_behinds) H := hP
    have hD : va_D A (uX9_withMoves cI cJ a_this a_page a_reading a_pond a_moves a_numbering a_search a_ending a_chance a_now a_kept i_keptStands i_aimed i_hasAim i_reads a_now_froms a_now_tos i_now_made i_now_order a_moves_targets g_moves_targets a_pond_behinds a_pond_depths i_pond_size i_pond_isRing i_pond_overOthers i_pond_longestLeap g_pond_behinds) := hD
    refine lv_if_eq (tgt := 77) hx hb dX9_withMoves_57 (by decide) (fun hc => ?_) (fun hc => ?_)
    · have hf := if_yes hc hf
      refine lv_iinc (v := (x6 + 1)) (lv' := [(6, .int (x6 + 1)), (0, .ref a_this), (3, .long x3), (5, .int x5)]) hx hb dX9_withMoves_77 hl (k := 3) rfl rfl (by decide) rfl (fun ls hl => ?_)
      refine lv_goto (tgt := 34) hx hb dX9_withMoves_80 (by decide) ?_
      have ho := Option.some.inj hf
      subst ho
      exact hbk _ rfl _ _ _ hP hD hS (lv_sub hl [1, 2, 3, 0] rfl)
    · have hf := if_no hc hf
      refine lv_ldc2 hx hb hown (hts _ qX9_withMoves_275) dX9_withMoves_60 ?_
      refine lv_lload_n hx hb dX9_withMoves_63 rfl (lv_at hl 1 rfl) ?_
      refine lv_lmul hx hb dX9_withMoves_64 ?_
      refine lv_bipush (v := 16) hx hb dX9_withMoves_65 (by decide) ?_
      refine lv_iload hx hb dX9_withMoves_67 (lv_at hl 2 rfl) ?_
      refine lv_imul hx hb dX9_withMoves_69 ?_
      refine lv_i2l hx hb dX9_withMoves_70 rfl ?_
      refine lv_ladd hx hb dX9_withMoves_71 ?_
      refine lv_iload hx hb dX9_withMoves_72 (lv_at hl 3 rfl) ?_
      refine lv_i2l hx hb dX9_withMoves_74 rfl ?_
      refine lv_ladd hx hb dX9_withMoves_75 ?_
      refine lv_lstore_n (lv' := [(3, .long (((31 * x3) + (16 * x5).toInt64) + x6.toInt64)), (0, .ref a_this), (5, .int x5), (6, .int x6)]) hx hb dX9_withMoves_76 rfl hl (by decide) rfl (fun ls hl => ?_)
      refine lv_iinc (v := (x6 + 1)) (lv' := [(6, .int (x6 + 1)), (3, .long (((31 * x3) + (16 * x5).toInt64) + x6.toInt64)), (0, .ref a_this), (5, .int x5)]) hx hb dX9_withMoves_77 hl (k := 3) rfl rfl (by decide) rfl (fun ls hl => ?_)
      refine lv_goto (tgt := 34) hx hb dX9_withMoves_80 (by decide) ?_
      have ho := Option.some.inj hf
      subst ho
      exact hbk _ rfl _ _ _ hP hD hS (lv_sub hl [2, 1, 3, 0] rfl)
set_option maxHeartbeats 4000000 in
set_option maxRecDepth 100000 in
theorem kX9_withMoves_J83 {p : Program} {l : Launch} {e : Env} {s : State} {m : MethodId} {args : Array Value} {below : List Frame} {meth : Method} {c : Code} {Q : State → Prop} {A : Nat → Prop} {D : va_G} {cI cJ : ClassId} (C : bC cX9_withMoves 7 RX9 wsX9_withMoves D cI cJ p s m args c meth A)
    {a_this : Nat} {a_page : Nat} {a_reading : Nat} {a_pond : Nat} {a_moves : Nat} {a_numbering : Nat} {a_search : Nat} {a_ending : Nat} {a_chance : Nat} {a_now : Nat} {a_kept : Nat} {i_keptStands : Int32} {i_aimed : Int32} {i_hasAim : Int32} {i_reads : Int32} {a_now_froms : Nat} {a_now_tos : Nat} {i_now_made : Int32} {i_now_order : Int32} {a_moves_targets : Nat} {g_moves_targets : Nat → Int32} {a_pond_behinds : Nat} {a_pond_depths : Nat} {i_pond_size : Int32} {i_pond_isRing : Int32} {i_pond_overOthers : Int32} {i_pond_longestLeap : Int32} {g_pond_behinds : Nat → Int32} {z : Nat} {x3 : Int64} {x5 : Int32} {o : (Int64 × Int32) ⊕ (Int64)} (hf : fX9_withMoves_J83 z x3 x5 i_now_order g_moves_targets i_pond_size i_pond_longestLeap g_pond_behinds i_pond_overOthers = some o)
    (hbk : ∀ s', o = .inl s' → ∀ (H : Heap) (locs : List Loc) (ls : Array Slot), va_P D vwCl (uX9_withMoves cI cJ a_this a_page a_reading a_pond a_moves a_numbering a_search a_ending a_chance a_now a_kept i_keptStands i_aimed i_hasAim i_reads a_now_froms a_now_tos i_now_made i_now_order a_moves_targets g_moves_targets a_pond_behinds a_pond_depths i_pond_size i_pond_isRing i_pond_overOthers i_pond_longestLeap g_pond_behinds) H → va_D A (uX9_withMoves cI cJ a_this a_page a_reading a_pond a_moves a_numbering a_search a_ending a_chance a_now a_kept i_keptStands i_aimed i_hasAim i_reads a_now_froms a_now_tos i_now_made i_now_order a_moves_targets g_moves_targets a_pond_behinds a_pond_depths i_pond_size i_pond_isRing i_pond_overOthers i_pond_longestLeap g_pond_behinds) → va_S A s.heap H locs → lv_has ls 7 [(0, .ref a_this), (3, .long s'.1), (5, .int s'.2)] → W p l e rX9_withMoves s m args below meth c H locs 0 0 Q (F0 m 19 ls []))
    (hex : ∀ e', o = .inr e' → ∀ (H : Heap) (locs : List Loc) (ls : Array Slot), va_P D vwCl (uX9_withMoves cI cJ a_this a_page a_reading a_pond a_moves a_numbering a_search a_ending a_chance a_now a_kept i_keptStands i_aimed i_hasAim i_reads a_now_froms a_now_tos i_now_made i_now_order a_moves_targets g_moves_targets a_pond_behinds a_pond_depths i_pond_size i_pond_isRing i_pond_overOthers i_pond_longestLeap g_pond_behinds) H → va_D A (uX9_withMoves cI cJ a_this a_page a_reading a_pond a_moves a_numbering a_search a_ending a_chance a_now a_kept i_keptStands i_aimed i_hasAim i_reads a_now_froms a_now_tos i_now_made i_now_order a_moves_targets g_moves_targets a_pond_behinds a_pond_depths i_pond_size i_pond_isRing i_pond_overOthers i_pond_longestLeap g_pond_behinds) → va_S A s.heap H locs → lv_has ls 7 [(3, .long e')] → W p l e rX9_withMoves s m args below meth c H locs 0 0 Q (F0 m 89 ls []))
    {H : Heap} {locs : List Loc} {ls : Array Slot} (hP : va_P D vwCl (uX9_withMoves cI cJ a_this a_page a_reading a_pond a_moves a_numbering a_search a_ending a_chance a_now a_kept i_keptStands i_aimed i_hasAim i_reads a_now_froms a_now_tos i_now_made i_now_order a_moves_targets g_moves_targets a_pond_behinds a_pond_depths i_pond_size i_pond_isRing i_pond_overOthers i_pond_longestLeap g_pond_behinds) H) (hD : va_D A (uX9_withMoves cI cJ a_this a_page a_reading a_pond a_moves a_numbering a_search a_ending a_chance a_now a_kept i_keptStands i_aimed i_hasAim i_reads a_now_froms a_now_tos i_now_made i_now_order a_moves_targets g_moves_targets a_pond_behinds a_pond_depths i_pond_size i_pond_isRing i_pond_overOthers i_pond_longestLeap g_pond_behinds)) (hS : va_S A s.heap H locs) (hl : lv_has ls 7 [(0, .ref a_this), (3, .long x3), (5, .int x5)]) : W p l e rX9_withMoves s m args below meth c H locs 0 0 Q (F0 m 83 ls []) := by
  obtain ⟨hx, hb, hml, hown, hts, hK, hN, hA, hlocks⟩ := id C
  unfold fX9_withMoves_J83 at hf
  refine lv_iinc (v := (x5 + 1)) (lv' := [(5, .int (x5 + 1)), (0, .ref a_this), (3, .long x3)]) hx hb dX9_withMoves_83 hl (k := 2) rfl rfl (by decide) rfl (fun ls hl => ?_)
  refine lv_goto (tgt := 19) hx hb dX9_withMoves_86 (by decide) ?_
  have ho := Option.some.inj hf
  subst ho
  exact hbk _ rfl _ _ _ hP hD hS (lv_sub hl [1, 2, 0] rfl)
set_option maxHeartbeats 4000000 in
set_option maxRecDepth 100000 in
theorem kX9_withMoves_L19 {p : Program} {l : Launch} {e : Env} {s : State} {m : MethodId} {args : Array Value} {below : List Frame} {meth : Method} {c : Code} {Q : State → Prop} {A : Nat → Prop} {D : va_G} {cI cJ : ClassId} (C : bC cX9_withMoves 7 RX9 wsX9_withMoves D cI cJ p s m args c meth A)
    {a_this : Nat} {a_page : Nat} {a_reading : Nat} {a_pond : Nat} {a_moves : Nat} {a_numbering : Nat} {a_search : Nat} {a_ending : Nat} {a_chance : Nat} {a_now : Nat} {a_kept : Nat} {i_keptStands : Int32} {i_aimed : Int32} {i_hasAim : Int32} {i_reads : Int32} {a_now_froms : Nat} {a_now_tos : Nat} {i_now_made : Int32} {i_now_order : Int32} {a_moves_targets : Nat} {g_moves_targets : Nat → Int32} {a_pond_behinds : Nat} {a_pond_depths : Nat} {i_pond_size : Int32} {i_pond_isRing : Int32} {i_pond_overOthers : Int32} {i_pond_longestLeap : Int32} {g_pond_behinds : Nat → Int32} {z : Nat} {x3 : Int64} {x5 : Int32} {o : (Int64 × Int32) ⊕ (Int64)} (hf : fX9_withMoves_L19 z x3 x5 i_now_order g_moves_targets i_pond_size i_pond_longestLeap g_pond_behinds i_pond_overOthers = some o)
    (hbk : ∀ s', o = .inl s' → ∀ (H : Heap) (locs : List Loc) (ls : Array Slot), va_P D vwCl (uX9_withMoves cI cJ a_this a_page a_reading a_pond a_moves a_numbering a_search a_ending a_chance a_now a_kept i_keptStands i_aimed i_hasAim i_reads a_now_froms a_now_tos i_now_made i_now_order a_moves_targets g_moves_targets a_pond_behinds a_pond_depths i_pond_size i_pond_isRing i_pond_overOthers i_pond_longestLeap g_pond_behinds) H → va_D A (uX9_withMoves cI cJ a_this a_page a_reading a_pond a_moves a_numbering a_search a_ending a_chance a_now a_kept i_keptStands i_aimed i_hasAim i_reads a_now_froms a_now_tos i_now_made i_now_order a_moves_targets g_moves_targets a_pond_behinds a_pond_depths i_pond_size i_pond_isRing i_pond_overOthers i_pond_longestLeap g_pond_behinds) → va_S A s.heap H locs → lv_has ls 7 [(0, .ref a_this), (3, .long s'.1), (5, .int s'.2)] → W p l e rX9_withMoves s m args below meth c H locs 0 0 Q (F0 m 19 ls []))
    (hex : ∀ e', o = .inr e' → ∀ (H : Heap) (locs : List Loc) (ls : Array Slot), va_P D vwCl (uX9_withMoves cI cJ a_this a_page a_reading a_pond a_moves a_numbering a_search a_ending a_chance a_now a_kept i_keptStands i_aimed i_hasAim i_reads a_now_froms a_now_tos i_now_made i_now_order a_moves_targets g_moves_targets a_pond_behinds a_pond_depths i_pond_size i_pond_isRing i_pond_overOthers i_pond_longestLeap g_pond_behinds) H → va_D A (uX9_withMoves cI cJ a_this a_page a_reading a_pond a_moves a_numbering a_search a_ending a_chance a_now a_kept i_keptStands i_aimed i_hasAim i_reads a_now_froms a_now_tos i_now_made i_now_order a_moves_targets g_moves_targets a_pond_behinds a_pond_depths i_pond_size i_pond_isRing i_pond_overOthers i_pond_longestLeap g_pond_behinds) → va_S A s.heap H locs → lv_has ls 7 [(3, .long e')] → W p l e rX9_withMoves s m args below meth c H locs 0 0 Q (F0 m 89 ls []))
    {H : Heap} {locs : List Loc} {ls : Array Slot} (hP : va_P D vwCl (uX9_withMoves cI cJ a_this a_page a_reading a_pond a_moves a_numbering a_search a_ending a_chance a_now a_kept i_keptStands i_aimed i_hasAim i_reads a_now_froms a_now_tos i_now_made i_now_order a_moves_targets g_moves_targets a_pond_behinds a_pond_depths i_pond_size i_pond_isRing i_pond_overOthers i_pond_longestLeap g_pond_behinds) H) (hD : va_D A (uX9_withMoves cI cJ a_this a_page a_reading a_pond a_moves a_numbering a_search a_ending a_chance a_now a_kept i_keptStands i_aimed i_hasAim i_reads a_now_froms a_now_tos i_now_made i_now_order a_moves_targets g_moves_targets a_pond_behinds a_pond_depths i_pond_size i_pond_isRing i_pond_overOthers i_pond_longestLeap g_pond_behinds)) (hS : va_S A s.heap H locs) (hl : lv_has ls 7 [(0, .ref a_this), (3, .long x3), (5, .int x5)]) : W p l e rX9_withMoves s m args below meth c H locs 0 0 Q (F0 m 19 ls []) := by
  obtain ⟨hx, hb, hml, hown, hts, hK, hN, hA, hlocks⟩ := id C
  unfold fX9_withMoves_L19 at hf
  refine lv_iload hx hb dX9_withMoves_19 (lv_at hl 2 rfl) ?_
  refine lv_aload_n hx hb dX9_withMoves_21 rfl (lv_at hl 0 rfl) ?_
  refine va_get (D := D) (ci := 9) (v := .ref a_pond) (C := RX9) (T := TX9) (N := 14) hx hb hts jX9_withMoves_X9 hown hK hP 0 rfl rfl 2 (by decide) (hts _ qX9_withMoves_26) (fun _ h9 => h9) rfl dX9_withMoves_22 ?_
  refine va_get (D := D) (ci := 6) (v := .int i_pond_size) (C := RX6) (T := TX6) (N := 6) hx hb hts jX9_withMoves_X6 hown hK hP 4 rfl rfl 2 (by decide) (hts _ qX9_withMoves_114) (fun _ h9 => h9) rfl dX9_withMoves_25 ?_
  refine lv_icmp_ge (tgt := 89) hx hb dX9_withMoves_28 (by decide) (fun hc => ?_) (fun hc => ?_)
  · have hf := if_yes hc hf
    have ho := Option.some.inj hf
    subst ho
    exact hex _ rfl _ _ _ hP hD hS (lv_sub hl [1] rfl)
  · have hf := if_no hc hf
    refine lv_iconst (v := 0) hx hb dX9_withMoves_31 (by decide) ?_
    refine lv_istore (lv' := [(6, .int 0), (0, .ref a_this), (3, .long x3), (5, .int x5)]) hx hb dX9_withMoves_32 hl (by decide) rfl (fun ls hl => ?_)
    obtain ⟨ex, hlp, hf⟩ := ob_some hf
    refine lp_ind (P := fun sg => ∀ (H : Heap) (locs : List Loc) (ls : Array Slot), va_P D vwCl (uX9_withMoves cI cJ a_this a_page a_reading a_pond a_moves a_numbering a_search a_ending a_chance a_now a_kept i_keptStands i_aimed i_hasAim i_reads a_now_froms a_now_tos i_now_made i_now_order a_moves_targets g_moves_targets a_pond_behinds a_pond_depths i_pond_size i_pond_isRing i_pond_overOthers i_pond_longestLeap g_pond_behinds) H → va_D A (uX9_withMoves cI cJ a_this a_page a_reading a_pond a_moves a_numbering a_search a_ending a_chance a_now a_kept i_keptStands i_aimed i_hasAim i_reads a_now_froms a_now_tos i_now_made i_now_order a_moves_targets g_moves_targets a_pond_behinds a_pond_depths i_pond_size i_pond_isRing i_pond_overOthers i_pond_longestLeap g_pond_behinds) → va_S A s.heap H locs → lv_has ls 7 [(0, .ref a_this), (3, .long sg.1), (5, .int x5), (6, .int sg.2)] → W p l e rX9_withMoves s m args below meth c H locs 0 0 Q (F0 m 34 ls [])) ?_ z _ hlp H locs ls hP hD hS (lv_sub hl [1, 2, 3, 0] rfl)
    intro sg og hbo hback hexit H locs ls hP hD hS hl
    refine kX9_withMoves_L34 C hbo (fun s' h => hback s' h) (fun ex h H locs ls hP hD hS hl => ?_) hP hD hS hl
    have he := hexit _ h
    subst he
    exact kX9_withMoves_J83 C hf hbk hex hP hD hS (lv_sub hl [0, 1, 2] rfl)
set_option maxHeartbeats 4000000 in
set_option maxRecDepth 100000 in
theorem kX9_withMoves_J89 {p : Program} {l : Launch} {e : Env} {s : State} {m : MethodId} {args : Array Value} {below : List Frame} {meth : Method} {c : Code} {Q : State → Prop} {A : Nat → Prop} {D : va_G} {cI cJ : ClassId} (C : bC cX9_withMoves 7 RX9 wsX9_withMoves D cI cJ p s m args c meth A)
    {a_this : Nat} {a_page : Nat} {a_reading : Nat} {a_pond : Nat} {a_moves : Nat} {a_numbering : Nat} {a_search : Nat} {a_ending : Nat} {a_chance : Nat} {a_now : Nat} {a_kept : Nat} {i_keptStands : Int32} {i_aimed : Int32} {i_hasAim : Int32} {i_reads : Int32} {a_now_froms : Nat} {a_now_tos : Nat} {i_now_made : Int32} {i_now_order : Int32} {a_moves_targets : Nat} {g_moves_targets : Nat → Int32} {a_pond_behinds : Nat} {a_pond_depths : Nat} {i_pond_size : Int32} {i_pond_isRing : Int32} {i_pond_overOthers : Int32} {i_pond_longestLeap : Int32} {g_pond_behinds : Nat → Int32} {z : Nat} {x3 : Int64} {o : Int64 × (Nat → Int32)} (hf : fX9_withMoves_J89 z x3 i_now_order g_moves_targets i_pond_size i_pond_longestLeap g_pond_behinds i_pond_overOthers = some o)
    (hrt : ∀ (H : Heap) (locs : List Loc) (ls : Array Slot) (pc : Nat), va_P D vwCl (uX9_withMoves cI cJ a_this a_page a_reading a_pond a_moves a_numbering a_search a_ending a_chance a_now a_kept i_keptStands i_aimed i_hasAim i_reads a_now_froms a_now_tos i_now_made i_now_order a_moves_targets o.2 a_pond_behinds a_pond_depths i_pond_size i_pond_isRing i_pond_overOthers i_pond_longestLeap g_pond_behinds) H → va_D A (uX9_withMoves cI cJ a_this a_page a_reading a_pond a_moves a_numbering a_search a_ending a_chance a_now a_kept i_keptStands i_aimed i_hasAim i_reads a_now_froms a_now_tos i_now_made i_now_order a_moves_targets o.2 a_pond_behinds a_pond_depths i_pond_size i_pond_isRing i_pond_overOthers i_pond_longestLeap g_pond_behinds) → va_S A s.heap H locs → decode cX9_withMoves pc = .ok (.lreturn, 1) → W p l e rX9_withMoves s m args below meth c H locs 0 0 Q (F0 m pc ls [.long o.1]))
    {H : Heap} {locs : List Loc} {ls : Array Slot} (hP : va_P D vwCl (uX9_withMoves cI cJ a_this a_page a_reading a_pond a_moves a_numbering a_search a_ending a_chance a_now a_kept i_keptStands i_aimed i_hasAim i_reads a_now_froms a_now_tos i_now_made i_now_order a_moves_targets g_moves_targets a_pond_behinds a_pond_depths i_pond_size i_pond_isRing i_pond_overOthers i_pond_longestLeap g_pond_behinds) H) (hD : va_D A (uX9_withMoves cI cJ a_this a_page a_reading a_pond a_moves a_numbering a_search a_ending a_chance a_now a_kept i_keptStands i_aimed i_hasAim i_reads a_now_froms a_now_tos i_now_made i_now_order a_moves_targets g_moves_targets a_pond_behinds a_pond_depths i_pond_size i_pond_isRing i_pond_overOthers i_pond_longestLeap g_pond_behinds)) (hS : va_S A s.heap H locs) (hl : lv_has ls 7 [(3, .long x3)]) : W p l e rX9_withMoves s m args below meth c H locs 0 0 Q (F0 m 89 ls []) := by
  obtain ⟨hx, hb, hml, hown, hts, hK, hN, hA, hlocks⟩ := id C
  unfold fX9_withMoves_J89 at hf
  refine lv_lload_n hx hb dX9_withMoves_89 rfl (lv_at hl 0 rfl) ?_
  have ho := Option.some.inj hf
  subst ho
  exact hrt H locs ls _ hP hD hS dX9_withMoves_90
set_option maxHeartbeats 4000000 in
set_option maxRecDepth 100000 in
theorem kX9_withMoves_0 {p : Program} {l : Launch} {e : Env} {s : State} {m : MethodId} {args : Array Value} {below : List Frame} {meth : Method} {c : Code} {Q : State → Prop} {A : Nat → Prop} {D : va_G} {cI cJ : ClassId} (C : bC cX9_withMoves 7 RX9 wsX9_withMoves D cI cJ p s m args c meth A)
    {a_this : Nat} {a_page : Nat} {a_reading : Nat} {a_pond : Nat} {a_moves : Nat} {a_numbering : Nat} {a_search : Nat} {a_ending : Nat} {a_chance : Nat} {a_now : Nat} {a_kept : Nat} {i_keptStands : Int32} {i_aimed : Int32} {i_hasAim : Int32} {i_reads : Int32} {a_now_froms : Nat} {a_now_tos : Nat} {i_now_made : Int32} {i_now_order : Int32} {a_moves_targets : Nat} {g_moves_targets : Nat → Int32} {a_pond_behinds : Nat} {a_pond_depths : Nat} {i_pond_size : Int32} {i_pond_isRing : Int32} {i_pond_overOthers : Int32} {i_pond_longestLeap : Int32} {g_pond_behinds : Nat → Int32} {z : Nat} {x1 : Int64} {o : Int64 × (Nat → Int32)} (hf : fX9_withMoves z x1 i_now_order g_moves_targets i_pond_size i_pond_longestLeap g_pond_behinds i_pond_overOthers = some o)
    (hrt : ∀ (H : Heap) (locs : List Loc) (ls : Array Slot) (pc : Nat), va_P D vwCl (uX9_withMoves cI cJ a_this a_page a_reading a_pond a_moves a_numbering a_search a_ending a_chance a_now a_kept i_keptStands i_aimed i_hasAim i_reads a_now_froms a_now_tos i_now_made i_now_order a_moves_targets o.2 a_pond_behinds a_pond_depths i_pond_size i_pond_isRing i_pond_overOthers i_pond_longestLeap g_pond_behinds) H → va_D A (uX9_withMoves cI cJ a_this a_page a_reading a_pond a_moves a_numbering a_search a_ending a_chance a_now a_kept i_keptStands i_aimed i_hasAim i_reads a_now_froms a_now_tos i_now_made i_now_order a_moves_targets o.2 a_pond_behinds a_pond_depths i_pond_size i_pond_isRing i_pond_overOthers i_pond_longestLeap g_pond_behinds) → va_S A s.heap H locs → decode cX9_withMoves pc = .ok (.lreturn, 1) → W p l e rX9_withMoves s m args below meth c H locs 0 0 Q (F0 m pc ls [.long o.1]))
    {H : Heap} {locs : List Loc} {ls : Array Slot} (hP : va_P D vwCl (uX9_withMoves cI cJ a_this a_page a_reading a_pond a_moves a_numbering a_search a_ending a_chance a_now a_kept i_keptStands i_aimed i_hasAim i_reads a_now_froms a_now_tos i_now_made i_now_order a_moves_targets g_moves_targets a_pond_behinds a_pond_depths i_pond_size i_pond_isRing i_pond_overOthers i_pond_longestLeap g_pond_behinds) H) (hD : va_D A (uX9_withMoves cI cJ a_this a_page a_reading a_pond a_moves a_numbering a_search a_ending a_chance a_now a_kept i_keptStands i_aimed i_hasAim i_reads a_now_froms a_now_tos i_now_made i_now_order a_moves_targets g_moves_targets a_pond_behinds a_pond_depths i_pond_size i_pond_isRing i_pond_overOthers i_pond_longestLeap g_pond_behinds)) (hS : va_S A s.heap H locs) (hl : lv_has ls 7 [(0, .ref a_this), (1, .long x1)]) : W p l e rX9_withMoves s m args below meth c H locs 0 0 Q (F0 m 0 ls []) := by
  obtain ⟨hx, hb, hml, hown, hts, hK, hN, hA, hlocks⟩ := id C
  unfold fX9_withMoves at hf
  refine lv_lload_n hx hb dX9_withMoves_0 rfl (lv_at hl 1 rfl) ?_
  refine lv_lstore_n (lv' := [(3, .long x1), (0, .ref a_this), (1, .long x1)]) hx hb dX9_withMoves_1 rfl hl (by decide) rfl (fun ls hl => ?_)
  refine lv_aload_n hx hb dX9_withMoves_2 rfl (lv_at hl 1 rfl) ?_
  refine va_get (D := D) (ci := 9) (v := .ref a_moves) (C := RX9) (T := TX9) (N := 14) hx hb hts jX9_withMoves_X9 hown hK hP 0 rfl rfl 3 (by decide) (hts _ qX9_withMoves_35) (fun _ h9 => h9) rfl dX9_withMoves_3 ?_
  refine lv_aload_n hx hb dX9_withMoves_6 rfl (lv_at hl 1 rfl) ?_
  refine va_get (D := D) (ci := 9) (v := .ref a_now) (C := RX9) (T := TX9) (N := 14) hx hb hts jX9_withMoves_X9 hown hK hP 0 rfl rfl 8 (by decide) (hts _ qX9_withMoves_74) (fun _ h9 => h9) rfl dX9_withMoves_7 ?_
  refine va_get (D := D) (ci := 1) (v := .int i_now_order) (C := RX1) (T := TX1) (N := 4) hx hb hts jX9_withMoves_X1 hown hK hP 1 rfl rfl 3 (by decide) (hts _ qX9_withMoves_123) (fun _ h9 => h9) rfl dX9_withMoves_10 ?_
  obtain ⟨q1, hq, hf⟩ := ob_some hf
  refine cl_v (wc := (uX3_find cI cJ a_moves a_pond a_moves_targets g_moves_targets a_pond_behinds a_pond_depths i_pond_size i_pond_isRing i_pond_overOthers i_pond_longestLeap g_pond_behinds)) (w1 := (uX3_find cI cJ a_moves a_pond a_moves_targets q1 a_pond_behinds a_pond_depths i_pond_size i_pond_isRing i_pond_overOthers i_pond_longestLeap g_pond_behinds)) (rn_V (As := [.int i_now_order]) (b := a_moves) (rest := []) (wc := (uX3_find cI cJ a_moves a_pond a_moves_targets g_moves_targets a_pond_behinds a_pond_depths i_pond_size i_pond_isRing i_pond_overOthers i_pond_longestLeap g_pond_behinds)) (ci := 3) (q0 := 2) C hP hD [2, 3, 4, 5] rfl rfl rfl rfl (mX3_find l D cI cJ H.size hq) 1 gX9_withMoves_X3_find rfl ⟨rfl, rfl, Nat.le_of_ble_eq_true rfl, Nat.le_of_ble_eq_true rfl⟩ hdX3_find rfl hl.1 rfl (Nat.le_of_ble_eq_true rfl) dX9_withMoves_13) hP hD hS hA [2, 3, 4, 5] rfl rfl (fun H locs hP hD hS => ?_)
  have hP : va_P D vwCl (uX9_withMoves cI cJ a_this a_page a_reading a_pond a_moves a_numbering a_search a_ending a_chance a_now a_kept i_keptStands i_aimed i_hasAim i_reads a_now_froms a_now_tos i_now_made i_now_order a_moves_targets q1 a_pond_behinds a_pond_depths i_pond_size i_pond_isRing i_pond_overOthers i_pond_longestLeap g_pond_behinds) H := hP
  have hD : va_D A (uX9_withMoves cI cJ a_this a_page a_reading a_pond a_moves a_numbering a_search a_ending a_chance a_now a_kept i_keptStands i_aimed i_hasAim i_reads a_now_froms a_now_tos i_now_made i_now_order a_moves_targets q1 a_pond_behinds a_pond_depths i_pond_size i_pond_isRing i_pond_overOthers i_pond_longestLeap g_pond_behinds) := hD
  refine lv_iconst (v := 0) hx hb dX9_withMoves_16 (by decide) ?_
  refine lv_istore (lv' := [(5, .int 0), (3, .long x1), (0, .ref a_this), (1, .long x1)]) hx hb dX9_withMoves_17 hl (by decide) rfl (fun ls hl => ?_)
  obtain ⟨ex, hlp, hf⟩ := ob_some hf
  refine lp_ind (P := fun sg => ∀ (H : Heap) (locs : List Loc) (ls : Array Slot), va_P D vwCl (uX9_withMoves cI cJ a_this a_page a_reading a_pond a_moves a_numbering a_search a_ending a_chance a_now a_kept i_keptStands i_aimed i_hasAim i_reads a_now_froms a_now_tos i_now_made i_now_order a_moves_targets q1 a_pond_behinds a_pond_depths i_pond_size i_pond_isRing i_pond_overOthers i_pond_longestLeap g_pond_behinds) H → va_D A (uX9_withMoves cI cJ a_this a_page a_reading a_pond a_moves a_numbering a_search a_ending a_chance a_now a_kept i_keptStands i_aimed i_hasAim i_reads a_now_froms a_now_tos i_now_made i_now_order a_moves_targets q1 a_pond_behinds a_pond_depths i_pond_size i_pond_isRing i_pond_overOthers i_pond_longestLeap g_pond_behinds) → va_S A s.heap H locs → lv_has ls 7 [(0, .ref a_this), (3, .long sg.1), (5, .int sg.2)] → W p l e rX9_withMoves s m args below meth c H locs 0 0 Q (F0 m 19 ls [])) ?_ z _ hlp H locs ls hP hD hS (lv_sub hl [2, 1, 0] rfl)
  intro sg og hbo hback hexit H locs ls hP hD hS hl
  refine kX9_withMoves_L19 C hbo (fun s' h => hback s' h) (fun ex h H locs ls hP hD hS hl => ?_) hP hD hS hl
  have he := hexit _ h
  subst he
  exact kX9_withMoves_J89 C hf hrt hP hD hS (lv_sub hl [0] rfl)
set_option maxHeartbeats 4000000 in
set_option maxRecDepth 100000 in
theorem mX9_withMoves (l : Launch) (D : va_G) (cI cJ : ClassId) (sz : Nat) {a_this : Nat} {a_page : Nat} {a_reading : Nat} {a_pond : Nat} {a_moves : Nat} {a_numbering : Nat} {a_search : Nat} {a_ending : Nat} {a_chance : Nat} {a_now : Nat} {a_kept : Nat} {i_keptStands : Int32} {i_aimed : Int32} {i_hasAim : Int32} {i_reads : Int32} {a_now_froms : Nat} {a_now_tos : Nat} {i_now_made : Int32} {i_now_order : Int32} {a_moves_targets : Nat} {g_moves_targets : Nat → Int32} {a_pond_behinds : Nat} {a_pond_depths : Nat} {i_pond_size : Int32} {i_pond_isRing : Int32} {i_pond_overOthers : Int32} {i_pond_longestLeap : Int32} {g_pond_behinds : Nat → Int32} {z : Nat} {x1 : Int64} {o : Int64 × (Nat → Int32)} (hf : fX9_withMoves z x1 i_now_order g_moves_targets i_pond_size i_pond_longestLeap g_pond_behinds i_pond_overOthers = some o) : Met l yX9_withMoves wsX9_withMoves rX9_withMoves (va_Pc [.ref a_this, .long x1] (kP D cI cJ (uX9_withMoves cI cJ a_this a_page a_reading a_pond a_moves a_numbering a_search a_ending a_chance a_now a_kept i_keptStands i_aimed i_hasAim i_reads a_now_froms a_now_tos i_now_made i_now_order a_moves_targets g_moves_targets a_pond_behinds a_pond_depths i_pond_size i_pond_isRing i_pond_overOthers i_pond_longestLeap g_pond_behinds) sz)) (va_Ql (fun r' (_ : Unit) => r' = o.1) (fun _ t => kB D (va_A (uX9_withMoves cI cJ a_this a_page a_reading a_pond a_moves a_numbering a_search a_ending a_chance a_now a_kept i_keptStands i_aimed i_hasAim i_reads a_now_froms a_now_tos i_now_made i_now_order a_moves_targets g_moves_targets a_pond_behinds a_pond_depths i_pond_size i_pond_isRing i_pond_overOthers i_pond_longestLeap g_pond_behinds) sz) (uX9_withMoves cI cJ a_this a_page a_reading a_pond a_moves a_numbering a_search a_ending a_chance a_now a_kept i_keptStands i_aimed i_hasAim i_reads a_now_froms a_now_tos i_now_made i_now_order a_moves_targets o.2 a_pond_behinds a_pond_depths i_pond_size i_pond_isRing i_pond_overOthers i_pond_longestLeap g_pond_behinds) t) (va_A (uX9_withMoves cI cJ a_this a_page a_reading a_pond a_moves a_numbering a_search a_ending a_chance a_now a_kept i_keptStands i_aimed i_hasAim i_reads a_now_froms a_now_tos i_now_made i_now_order a_moves_targets g_moves_targets a_pond_behinds a_pond_depths i_pond_size i_pond_isRing i_pond_overOthers i_pond_longestLeap g_pond_behinds) sz)) 0 0 (va_A (uX9_withMoves cI cJ a_this a_page a_reading a_pond a_moves a_numbering a_search a_ending a_chance a_now a_kept i_keptStands i_aimed i_hasAim i_reads a_now_froms a_now_tos i_now_made i_now_order a_moves_targets g_moves_targets a_pond_behinds a_pond_depths i_pond_size i_pond_isRing i_pond_overOthers i_pond_longestLeap g_pond_behinds) sz) :=
  met_l (by decide) rfl (Nat.le_of_ble_eq_true rfl) (fun p e s m below meth c A Q C hrt ls hl hP hD hS => kX9_withMoves_0 (A := A) C hf hrt hP hD hS hl)

