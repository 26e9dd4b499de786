/-! ===== FrogsOnRing$Pond.lay(LFrogsOnRing$Reading;LFrogsOnRing$Page;)V ===== -/
abbrev uX6_lay (cI cJ : ClassId) (a_p1 : Nat) (i_p1_form : Int32) (i_p1_overOthers : Int32) (i_p1_overTwo : Int32) (i_p1_first : Int32) (i_p1_size : Int32) (i_p1_place : Int32) (i_p1_whole : Int32) (a_this : Nat) (a_behinds : Nat) (a_depths : Nat) (i_size : Int32) (i_isRing : Int32) (i_overOthers : Int32) (i_longestLeap : Int32) (g_behinds : Nat → Int32) (g_depths : Nat → Int32) (a_p2 : Nat) (a_p2_codes : Nat) (i_p2_size : Int32) (g_p2_codes : Nat → Int32) : va_W := [(a_p1, .inr (7, [.int i_p1_form, .int i_p1_overOthers, .int i_p1_overTwo, .int i_p1_first, .int i_p1_size, .int i_p1_place, .int i_p1_whole])), (a_this, .inr (6, [.ref a_behinds, .ref a_depths, .int i_size, .int i_isRing, .int i_overOthers, .int i_longestLeap])), (a_behinds, .inl (cI, 9, .inl g_behinds)), (a_depths, .inl (cI, 9, .inl g_depths)), (a_p2, .inr (5, [.ref a_p2_codes, .int i_p2_size])), (a_p2_codes, .inl (cI, 24, .inl g_p2_codes))]
def rX6_lay : Room := { frames := 1, cells := 0, slots := 0, locals := 21 }
theorem hdX6_lay : yX6_lay.cls = RX6 ∧ yX6_lay.cls ≠ "java/lang/invoke/MethodHandle" ∧ yX6_lay.cls ≠ "java/lang/invoke/VarHandle" ∧ (parseMethodDescriptor yX6_lay.desc).map (fun d => d.parameters.length) = some 2 := by decide +kernel
set_option maxRecDepth 20000 in
theorem jX6_lay_X6 : ∀ w ∈ u_ws RX6 TX6 6, w ∈ wsX6_lay := by decide +kernel
set_option maxRecDepth 20000 in
theorem jX6_lay_X7 : ∀ w ∈ u_ws RX7 TX7 7, w ∈ wsX6_lay := by decide +kernel
set_option maxRecDepth 20000 in
theorem qX6_lay_15 : Cond.fieldLink RX6 15 "FrogsOnRing$Pond" "depths" "[I" ∈ wsX6_lay := by decide +kernel
set_option maxRecDepth 20000 in
theorem qX6_lay_18 : Cond.fieldLink RX6 18 "FrogsOnRing$Reading" "size" "I" ∈ wsX6_lay := by decide +kernel
set_option maxRecDepth 20000 in
theorem qX6_lay_24 : Cond.fieldLink RX6 24 "FrogsOnRing$Pond" "size" "I" ∈ wsX6_lay := by decide +kernel
set_option maxRecDepth 20000 in
theorem qX6_lay_25 : Cond.fieldLink RX6 25 "FrogsOnRing$Reading" "form" "I" ∈ wsX6_lay := by decide +kernel
set_option maxRecDepth 20000 in
theorem qX6_lay_28 : Cond.fieldLink RX6 28 "FrogsOnRing$Pond" "isRing" "Z" ∈ wsX6_lay := by decide +kernel
set_option maxRecDepth 20000 in
theorem qX6_lay_32 : Cond.fieldLink RX6 32 "FrogsOnRing$Reading" "overOthers" "Z" ∈ wsX6_lay := by decide +kernel
set_option maxRecDepth 20000 in
theorem qX6_lay_35 : Cond.fieldLink RX6 35 "FrogsOnRing$Pond" "overOthers" "Z" ∈ wsX6_lay := by decide +kernel
set_option maxRecDepth 20000 in
theorem qX6_lay_36 : Cond.fieldLink RX6 36 "FrogsOnRing$Reading" "overTwo" "Z" ∈ wsX6_lay := by decide +kernel
set_option maxRecDepth 20000 in
theorem qX6_lay_39 : Cond.fieldLink RX6 39 "FrogsOnRing$Pond" "longestLeap" "I" ∈ wsX6_lay := by decide +kernel
set_option maxRecDepth 20000 in
theorem qX6_lay_42 : Cond.fieldLink RX6 42 "FrogsOnRing$Reading" "first" "I" ∈ wsX6_lay := by decide +kernel
set_option maxRecDepth 20000 in
theorem qX6_lay_9 : Cond.fieldLink RX6 9 "FrogsOnRing$Pond" "behinds" "[I" ∈ wsX6_lay := by decide +kernel
set_option maxHeartbeats 4000000 in
set_option maxRecDepth 100000 in
theorem kX6_lay_J136 {p : Program} {l : Launch} {e : Env} {s : State} {m : MethodId} {args : Array Value} {below : List Frame} {meth : Method} {c : Code} {Q : State → Prop} {A : Nat → Prop} {D : va_G} {cI cJ : ClassId} (C : bC cX6_lay 6 RX6 wsX6_lay D cI cJ p s m args c meth A)
    {a_p1 : Nat} {i_p1_form : Int32} {i_p1_overOthers : Int32} {i_p1_overTwo : Int32} {i_p1_first : Int32} {i_p1_size : Int32} {i_p1_place : Int32} {i_p1_whole : Int32} {a_this : Nat} {a_behinds : Nat} {a_depths : Nat} {i_size : Int32} {i_isRing : Int32} {i_overOthers : Int32} {i_longestLeap : Int32} {g_behinds : Nat → Int32} {g_depths : Nat → Int32} {a_p2 : Nat} {a_p2_codes : Nat} {i_p2_size : Int32} {g_p2_codes : Nat → Int32} {z : Nat} {x3 : Int32} {x4 : Int32} {t0 : Int32} {o : (Int32 × (Nat → Int32) × (Nat → Int32)) ⊕ ((Nat → Int32) × (Nat → Int32))} (hf : fX6_lay_J136 z x3 x4 t0 i_p1_size i_p1_form i_p1_overOthers i_p1_overTwo i_isRing i_size g_behinds g_depths i_p1_first i_p2_size g_p2_codes i_overOthers i_longestLeap = some o)
    (hbk : ∀ s', o = .inl s' → ∀ (H : Heap) (locs : List Loc) (ls : Array Slot), va_P D vwCl (uX6_lay cI cJ a_p1 i_p1_form i_p1_overOthers i_p1_overTwo i_p1_first i_p1_size i_p1_place i_p1_whole a_this a_behinds a_depths i_size i_isRing i_overOthers i_longestLeap s'.2.1 s'.2.2 a_p2 a_p2_codes i_p2_size g_p2_codes) H → va_D A (uX6_lay cI cJ a_p1 i_p1_form i_p1_overOthers i_p1_overTwo i_p1_first i_p1_size i_p1_place i_p1_whole a_this a_behinds a_depths i_size i_isRing i_overOthers i_longestLeap s'.2.1 s'.2.2 a_p2 a_p2_codes i_p2_size g_p2_codes) → va_S A s.heap H locs → lv_has ls 6 [(0, .ref a_this), (1, .ref a_p1), (2, .ref a_p2), (3, .int x3), (4, .int s'.1)] → W p l e rX6_lay s m args below meth c H locs 0 0 Q (F0 m 93 ls []))
    (hex : ∀ e', o = .inr e' → ∀ (H : Heap) (locs : List Loc) (ls : Array Slot), va_P D vwCl (uX6_lay cI cJ a_p1 i_p1_form i_p1_overOthers i_p1_overTwo i_p1_first i_p1_size i_p1_place i_p1_whole a_this a_behinds a_depths i_size i_isRing i_overOthers i_longestLeap e'.1 e'.2 a_p2 a_p2_codes i_p2_size g_p2_codes) H → va_D A (uX6_lay cI cJ a_p1 i_p1_form i_p1_overOthers i_p1_overTwo i_p1_first i_p1_size i_p1_place i_p1_whole a_this a_behinds a_depths i_size i_isRing i_overOthers i_longestLeap e'.1 e'.2 a_p2 a_p2_codes i_p2_size g_p2_codes) → va_S A s.heap H locs → lv_has ls 6 [] → W p l e rX6_lay s m args below meth c H locs 0 0 Q (F0 m 168 ls []))
    {H : Heap} {locs : List Loc} {ls : Array Slot} (hP : va_P D vwCl (uX6_lay cI cJ a_p1 i_p1_form i_p1_overOthers i_p1_overTwo i_p1_first i_p1_size i_p1_place i_p1_whole a_this a_behinds a_depths i_size i_isRing i_overOthers i_longestLeap g_behinds g_depths a_p2 a_p2_codes i_p2_size g_p2_codes) H) (hD : va_D A (uX6_lay cI cJ a_p1 i_p1_form i_p1_overOthers i_p1_overTwo i_p1_first i_p1_size i_p1_place i_p1_whole a_this a_behinds a_depths i_size i_isRing i_overOthers i_longestLeap g_behinds g_depths a_p2 a_p2_codes i_p2_size g_p2_codes)) (hS : va_S A s.heap H locs) (hl : lv_has ls 6 [(0, .ref a_this), (1, .ref a_p1), (2, .ref a_p2), (3, .int x3), (4, .int x4)]) : W p l e rX6_lay s m args below meth c H locs 0 0 Q (F0 m 136 ls [.int t0]) := by
  obtain ⟨hx, hb, hml, hown, hts, hK, hN, hA, hlocks⟩ := id C
  unfold fX6_lay_J136 at hf
  refine lv_istore (lv' := [(5, .int t0), (0, .ref a_this), (1, .ref a_p1), (2, .ref a_p2), (3, .int x3), (4, .int x4)]) hx hb dX6_lay_136 hl (by decide) rfl (fun ls hl => ?_)
  refine lv_aload_n hx hb dX6_lay_138 rfl (lv_at hl 1 rfl) ?_
  refine va_get (D := D) (ci := 6) (v := .ref a_behinds) (C := RX6) (T := TX6) (N := 6) hx hb hts jX6_lay_X6 hown hK hP 1 rfl rfl 0 (by decide) (hts _ qX6_lay_9) (fun _ h9 => h9) rfl dX6_lay_139 ?_
  refine lv_iload hx hb dX6_lay_142 (lv_at hl 5 rfl) ?_
  refine lv_iload hx hb dX6_lay_144 (lv_at hl 0 rfl) ?_
  obtain ⟨hin, hf⟩ := agd_some hf
  refine va_iast hx hb hK hP hD hS 2 0 rfl rfl hin dX6_lay_146 (fun H locs hP hD hS => ?_)
  have hP : va_P D vwCl (uX6_lay cI cJ a_p1 i_p1_form i_p1_overOthers i_p1_overTwo i_p1_first i_p1_size i_p1_place i_p1_whole a_this a_behinds a_depths i_size i_isRing i_overOthers i_longestLeap (upd g_behinds x4.toNatClampNeg t0) g_depths a_p2 a_p2_codes i_p2_size g_p2_codes) H := hP
  have hD : va_D A (uX6_lay cI cJ a_p1 i_p1_form i_p1_overOthers i_p1_overTwo i_p1_first i_p1_size i_p1_place i_p1_whole a_this a_behinds a_depths i_size i_isRing i_overOthers i_longestLeap (upd g_behinds x4.toNatClampNeg t0) g_depths a_p2 a_p2_codes i_p2_size g_p2_codes) := hD
  refine lv_aload_n hx hb dX6_lay_147 rfl (lv_at hl 1 rfl) ?_
  refine va_get (D := D) (ci := 6) (v := .ref a_depths) (C := RX6) (T := TX6) (N := 6) hx hb hts jX6_lay_X6 hown hK hP 1 rfl rfl 1 (by decide) (hts _ qX6_lay_15) (fun _ h9 => h9) rfl dX6_lay_148 ?_
  refine lv_iload hx hb dX6_lay_151 (lv_at hl 5 rfl) ?_
  refine lv_aload_n hx hb dX6_lay_153 rfl (lv_at hl 1 rfl) ?_
  refine lv_iload hx hb dX6_lay_154 (lv_at hl 0 rfl) ?_
  obtain ⟨q1, hq, hf⟩ := ob_some hf
  refine cl_i (wc := (uX6_depthOf cI cJ a_this a_behinds a_depths i_size i_isRing i_overOthers i_longestLeap g_depths)) (w1 := (uX6_depthOf cI cJ a_this a_behinds a_depths i_size i_isRing i_overOthers i_longestLeap g_depths)) (rn_V (As := [.int t0]) (b := a_this) (rest := [.int x4, .ref a_depths]) (wc := (uX6_depthOf cI cJ a_this a_behinds a_depths i_size i_isRing i_overOthers i_longestLeap g_depths)) (ci := 6) (q0 := 1) C hP hD [1, 3] rfl rfl rfl rfl (mX6_depthOf l D cI cJ H.size hq) 1 gX6_lay_X6_depthOf rfl ⟨rfl, rfl, Nat.le_of_ble_eq_true rfl, Nat.le_of_ble_eq_true rfl⟩ hdX6_depthOf rfl hl.1 rfl (Nat.le_of_ble_eq_true rfl) dX6_lay_156) hP hD hS hA [1, 3] rfl rfl (fun H locs hP hD hS => ?_)
  have hP : va_P D vwCl (uX6_lay cI cJ a_p1 i_p1_form i_p1_overOthers i_p1_overTwo i_p1_first i_p1_size i_p1_place i_p1_whole a_this a_behinds a_depths i_size i_isRing i_overOthers i_longestLeap (upd g_behinds x4.toNatClampNeg t0) g_depths a_p2 a_p2_codes i_p2_size g_p2_codes) H := hP
  have hD : va_D A (uX6_lay cI cJ a_p1 i_p1_form i_p1_overOthers i_p1_overTwo i_p1_first i_p1_size i_p1_place i_p1_whole a_this a_behinds a_depths i_size i_isRing i_overOthers i_longestLeap (upd g_behinds x4.toNatClampNeg t0) g_depths a_p2 a_p2_codes i_p2_size g_p2_codes) := hD
  refine lv_iconst (v := 1) hx hb dX6_lay_159 (by decide) ?_
  refine lv_iadd hx hb dX6_lay_160 ?_
  obtain ⟨hin, hf⟩ := agd_some hf
  refine va_iast hx hb hK hP hD hS 3 0 rfl rfl hin dX6_lay_161 (fun H locs hP hD hS => ?_)
  have hP : va_P D vwCl (uX6_lay cI cJ a_p1 i_p1_form i_p1_overOthers i_p1_overTwo i_p1_first i_p1_size i_p1_place i_p1_whole a_this a_behinds a_depths i_size i_isRing i_overOthers i_longestLeap (upd g_behinds x4.toNatClampNeg t0) (upd g_depths x4.toNatClampNeg (q1 + 1)) a_p2 a_p2_codes i_p2_size g_p2_codes) H := hP
  have hD : va_D A (uX6_lay cI cJ a_p1 i_p1_form i_p1_overOthers i_p1_overTwo i_p1_first i_p1_size i_p1_place i_p1_whole a_this a_behinds a_depths i_size i_isRing i_overOthers i_longestLeap (upd g_behinds x4.toNatClampNeg t0) (upd g_depths x4.toNatClampNeg (q1 + 1)) a_p2 a_p2_codes i_p2_size g_p2_codes) := hD
  refine lv_iinc (v := (x4 + 1)) (lv' := [(4, .int (x4 + 1)), (5, .int t0), (0, .ref a_this), (1, .ref a_p1), (2, .ref a_p2), (3, .int x3)]) hx hb dX6_lay_162 hl (k := 5) rfl rfl (by decide) rfl (fun ls hl => ?_)
  refine lv_goto (tgt := 93) hx hb dX6_lay_165 (by decide) ?_
  have ho := Option.some.inj hf
  subst ho
  exact hbk _ rfl _ _ _ hP hD hS (lv_sub hl [2, 3, 4, 5, 0] rfl)
set_option maxHeartbeats 4000000 in
set_option maxRecDepth 100000 in
theorem kX6_lay_L93 {p : Program} {l : Launch} {e : Env} {s : State} {m : MethodId} {args : Array Value} {below : List Frame} {meth : Method} {c : Code} {Q : State → Prop} {A : Nat → Prop} {D : va_G} {cI cJ : ClassId} (C : bC cX6_lay 6 RX6 wsX6_lay D cI cJ p s m args c meth A)
    {a_p1 : Nat} {i_p1_form : Int32} {i_p1_overOthers : Int32} {i_p1_overTwo : Int32} {i_p1_first : Int32} {i_p1_size : Int32} {i_p1_place : Int32} {i_p1_whole : Int32} {a_this : Nat} {a_behinds : Nat} {a_depths : Nat} {i_size : Int32} {i_isRing : Int32} {i_overOthers : Int32} {i_longestLeap : Int32} {g_behinds : Nat → Int32} {g_depths : Nat → Int32} {a_p2 : Nat} {a_p2_codes : Nat} {i_p2_size : Int32} {g_p2_codes : Nat → Int32} {z : Nat} {x3 : Int32} {x4 : Int32} {o : (Int32 × (Nat → Int32) × (Nat → Int32)) ⊕ ((Nat → Int32) × (Nat → Int32))} (hf : fX6_lay_L93 z x3 x4 i_p1_size i_p1_form i_p1_overOthers i_p1_overTwo i_isRing i_size g_behinds g_depths i_p1_first i_p2_size g_p2_codes i_overOthers i_longestLeap = some o)
    (hbk : ∀ s', o = .inl s' → ∀ (H : Heap) (locs : List Loc) (ls : Array Slot), va_P D vwCl (uX6_lay cI cJ a_p1 i_p1_form i_p1_overOthers i_p1_overTwo i_p1_first i_p1_size i_p1_place i_p1_whole a_this a_behinds a_depths i_size i_isRing i_overOthers i_longestLeap s'.2.1 s'.2.2 a_p2 a_p2_codes i_p2_size g_p2_codes) H → va_D A (uX6_lay cI cJ a_p1 i_p1_form i_p1_overOthers i_p1_overTwo i_p1_first i_p1_size i_p1_place i_p1_whole a_this a_behinds a_depths i_size i_isRing i_overOthers i_longestLeap s'.2.1 s'.2.2 a_p2 a_p2_codes i_p2_size g_p2_codes) → va_S A s.heap H locs → lv_has ls 6 [(0, .ref a_this), (1, .ref a_p1), (2, .ref a_p2), (3, .int x3), (4, .int s'.1)] → W p l e rX6_lay s m args below meth c H locs 0 0 Q (F0 m 93 ls []))
    (hex : ∀ e', o = .inr e' → ∀ (H : Heap) (locs : List Loc) (ls : Array Slot), va_P D vwCl (uX6_lay cI cJ a_p1 i_p1_form i_p1_overOthers i_p1_overTwo i_p1_first i_p1_size i_p1_place i_p1_whole a_this a_behinds a_depths i_size i_isRing i_overOthers i_longestLeap e'.1 e'.2 a_p2 a_p2_codes i_p2_size g_p2_codes) H → va_D A (uX6_lay cI cJ a_p1 i_p1_form i_p1_overOthers i_p1_overTwo i_p1_first i_p1_size i_p1_place i_p1_whole a_this a_behinds a_depths i_size i_isRing i_overOthers i_longestLeap e'.1 e'.2 a_p2 a_p2_codes i_p2_size g_p2_codes) → va_S A s.heap H locs → lv_has ls 6 [] → W p l e rX6_lay s m args below meth c H locs 0 0 Q (F0 m 168 ls []))
    {H : Heap} {locs : List Loc} {ls : Array Slot} (hP : va_P D vwCl (uX6_lay cI cJ a_p1 i_p1_form i_p1_overOthers i_p1_overTwo i_p1_first i_p1_size i_p1_place i_p1_whole a_this a_behinds a_depths i_size i_isRing i_overOthers i_longestLeap g_behinds g_depths a_p2 a_p2_codes i_p2_size g_p2_codes) H) (hD : va_D A (uX6_lay cI cJ a_p1 i_p1_form i_p1_overOthers i_p1_overTwo i_p1_first i_p1_size i_p1_place i_p1_whole a_this a_behinds a_depths i_size i_isRing i_overOthers i_longestLeap g_behinds g_depths a_p2 a_p2_codes i_p2_size g_p2_codes)) (hS : va_S A s.heap H locs) (hl : lv_has ls 6 [(0, .ref a_this), (1, .ref a_p1), (2, .ref a_p2), (3, .int x3), (4, .int x4)]) : W p l e rX6_lay s m args below meth c H locs 0 0 Q (F0 m 93 ls []) := by
  obtain ⟨hx, hb, hml, hown, hts, hK, hN, hA, hlocks⟩ := id C
  unfold fX6_lay_L93 at hf
  refine lv_iload hx hb dX6_lay_93 (lv_at hl 4 rfl) ?_
  refine lv_aload_n hx hb dX6_lay_95 rfl (lv_at hl 0 rfl) ?_
  refine va_get (D := D) (ci := 6) (v := .int i_size) (C := RX6) (T := TX6) (N := 6) hx hb hts jX6_lay_X6 hown hK hP 1 rfl rfl 2 (by decide) (hts _ qX6_lay_24) (fun _ h9 => h9) rfl dX6_lay_96 ?_
  refine lv_icmp_ge (tgt := 168) hx hb dX6_lay_99 (by decide) (fun hc => ?_) (fun hc => ?_)
  · have hf := if_yes hc hf
    have ho := Option.some.inj hf
    subst ho
    exact hex _ rfl _ _ _ hP hD hS (lv_sub hl [] rfl)
  · have hf := if_no hc hf
    refine lv_iload hx hb dX6_lay_102 (lv_at hl 4 rfl) ?_
    refine lv_bipush (v := 9) hx hb dX6_lay_104 (by decide) ?_
    refine lv_icmp_ge (tgt := 168) hx hb dX6_lay_106 (by decide) (fun hc => ?_) (fun hc => ?_)
    · have hf := if_yes hc hf
      have ho := Option.some.inj hf
      subst ho
      exact hex _ rfl _ _ _ hP hD hS (lv_sub hl [] rfl)
    · have hf := if_no hc hf
      refine lv_aload_n hx hb dX6_lay_109 rfl (lv_at hl 1 rfl) ?_
      refine va_get (D := D) (ci := 7) (v := .int i_p1_form) (C := RX7) (T := TX7) (N := 7) hx hb hts jX6_lay_X7 hown hK hP 0 rfl rfl 0 (by decide) (hts _ qX6_lay_25) (fun _ h9 => h9) rfl dX6_lay_110 ?_
      refine lv_bipush (v := 116) hx hb dX6_lay_113 (by decide) ?_
      refine lv_icmp_ne (tgt := 132) hx hb dX6_lay_115 (by decide) (fun hc => ?_) (fun hc => ?_)
      · have hf := if_no hc hf
        refine lv_iload hx hb dX6_lay_132 (lv_at hl 4 rfl) ?_
        refine lv_iconst (v := 1) hx hb dX6_lay_134 (by decide) ?_
        refine lv_isub hx hb dX6_lay_135 ?_
        exact kX6_lay_J136 C hf hbk hex hP hD hS (lv_sub hl [0, 1, 2, 3, 4] rfl)
      · have hf := if_yes hc hf
        refine lv_aload_n hx hb dX6_lay_118 rfl (lv_at hl 2 rfl) ?_
        refine lv_iload_n hx hb dX6_lay_119 rfl (lv_at hl 3 rfl) ?_
        refine lv_iload hx hb dX6_lay_120 (lv_at hl 4 rfl) ?_
        refine lv_iadd hx hb dX6_lay_122 ?_
        obtain ⟨q2, hq, hf⟩ := ob_some hf
        refine cl_i (wc := (uX5_letterAt cI cJ a_p2 a_p2_codes i_p2_size g_p2_codes)) (w1 := (uX5_letterAt cI cJ a_p2 a_p2_codes i_p2_size g_p2_codes)) (rn_V (As := [.int (x3 + x4)]) (b := a_p2) (rest := []) (wc := (uX5_letterAt cI cJ a_p2 a_p2_codes i_p2_size g_p2_codes)) (ci := 5) (q0 := 4) C hP hD [4, 5] rfl rfl rfl rfl (mX5_letterAt l D cI cJ H.size hq) 1 gX6_lay_X5_letterAt rfl ⟨rfl, rfl, Nat.le_of_ble_eq_true rfl, Nat.le_of_ble_eq_true rfl⟩ hdX5_letterAt rfl hl.1 rfl (Nat.le_of_ble_eq_true rfl) dX6_lay_123) hP hD hS hA [4, 5] rfl rfl (fun H locs hP hD hS => ?_)
        have hP : va_P D vwCl (uX6_lay cI cJ a_p1 i_p1_form i_p1_overOthers i_p1_overTwo i_p1_first i_p1_size i_p1_place i_p1_whole a_this a_behinds a_depths i_size i_isRing i_overOthers i_longestLeap g_behinds g_depths a_p2 a_p2_codes i_p2_size g_p2_codes) H := hP
        have hD : va_D A (uX6_lay cI cJ a_p1 i_p1_form i_p1_overOthers i_p1_overTwo i_p1_first i_p1_size i_p1_place i_p1_whole a_this a_behinds a_depths i_size i_isRing i_overOthers i_longestLeap g_behinds g_depths a_p2 a_p2_codes i_p2_size g_p2_codes) := hD
        refine lv_bipush (v := 48) hx hb dX6_lay_126 (by decide) ?_
        refine lv_isub hx hb dX6_lay_128 ?_
        refine lv_goto (tgt := 136) hx hb dX6_lay_129 (by decide) ?_
        exact kX6_lay_J136 C hf hbk hex hP hD hS (lv_sub hl [0, 1, 2, 3, 4] rfl)
set_option maxHeartbeats 4000000 in
set_option maxRecDepth 100000 in
theorem kX6_lay_J168 {p : Program} {l : Launch} {e : Env} {s : State} {m : MethodId} {args : Array Value} {below : List Frame} {meth : Method} {c : Code} {Q : State → Prop} {A : Nat → Prop} {D : va_G} {cI cJ : ClassId} (C : bC cX6_lay 6 RX6 wsX6_lay D cI cJ p s m args c meth A)
    {a_p1 : Nat} {i_p1_form : Int32} {i_p1_overOthers : Int32} {i_p1_overTwo : Int32} {i_p1_first : Int32} {i_p1_size : Int32} {i_p1_place : Int32} {i_p1_whole : Int32} {a_this : Nat} {a_behinds : Nat} {a_depths : Nat} {i_size : Int32} {i_isRing : Int32} {i_overOthers : Int32} {i_longestLeap : Int32} {g_behinds : Nat → Int32} {g_depths : Nat → Int32} {a_p2 : Nat} {a_p2_codes : Nat} {i_p2_size : Int32} {g_p2_codes : Nat → Int32} {z : Nat} {o : Int32 × Int32 × Int32 × Int32 × (Nat → Int32) × (Nat → Int32)} (hf : fX6_lay_J168 z i_p1_size i_p1_form i_p1_overOthers i_p1_overTwo i_isRing i_size g_behinds g_depths i_p1_first i_p2_size g_p2_codes i_overOthers i_longestLeap = some o)
    (hrt : ∀ (H : Heap) (locs : List Loc) (ls : Array Slot) (pc : Nat), va_P D vwCl (uX6_lay cI cJ a_p1 i_p1_form i_p1_overOthers i_p1_overTwo i_p1_first i_p1_size i_p1_place i_p1_whole a_this a_behinds a_depths o.1 o.2.1 o.2.2.1 o.2.2.2.1 o.2.2.2.2.1 o.2.2.2.2.2 a_p2 a_p2_codes i_p2_size g_p2_codes) H → va_D A (uX6_lay cI cJ a_p1 i_p1_form i_p1_overOthers i_p1_overTwo i_p1_first i_p1_size i_p1_place i_p1_whole a_this a_behinds a_depths o.1 o.2.1 o.2.2.1 o.2.2.2.1 o.2.2.2.2.1 o.2.2.2.2.2 a_p2 a_p2_codes i_p2_size g_p2_codes) → va_S A s.heap H locs → decode cX6_lay pc = .ok (.return_, 1) → W p l e rX6_lay s m args below meth c H locs 0 0 Q (F0 m pc ls []))
    {H : Heap} {locs : List Loc} {ls : Array Slot} (hP : va_P D vwCl (uX6_lay cI cJ a_p1 i_p1_form i_p1_overOthers i_p1_overTwo i_p1_first i_p1_size i_p1_place i_p1_whole a_this a_behinds a_depths i_size i_isRing i_overOthers i_longestLeap g_behinds g_depths a_p2 a_p2_codes i_p2_size g_p2_codes) H) (hD : va_D A (uX6_lay cI cJ a_p1 i_p1_form i_p1_overOthers i_p1_overTwo i_p1_first i_p1_size i_p1_place i_p1_whole a_this a_behinds a_depths i_size i_isRing i_overOthers i_longestLeap g_behinds g_depths a_p2 a_p2_codes i_p2_size g_p2_codes)) (hS : va_S A s.heap H locs) (hl : lv_has ls 6 []) : W p l e rX6_lay s m args below meth c H locs 0 0 Q (F0 m 168 ls []) := by
  obtain ⟨hx, hb, hml, hown, hts, hK, hN, hA, hlocks⟩ := id C
  unfold fX6_lay_J168 at hf
  have ho := Option.some.inj hf
  subst ho
  exact hrt H locs ls _ hP hD hS dX6_lay_168
set_option maxHeartbeats 4000000 in
set_option maxRecDepth 100000 in
theorem kX6_lay_J72 {p : Program} {l : Launch} {e : Env} {s : State} {m : MethodId} {args : Array Value} {below : List Frame} {meth : Method} {c : Code} {Q : State → Prop} {A : Nat → Prop} {D : va_G} {cI cJ : ClassId} (C : bC cX6_lay 6 RX6 wsX6_lay D cI cJ p s m args c meth A)
    {a_p1 : Nat} {i_p1_form : Int32} {i_p1_overOthers : Int32} {i_p1_overTwo : Int32} {i_p1_first : Int32} {i_p1_size : Int32} {i_p1_place : Int32} {i_p1_whole : Int32} {a_this : Nat} {a_behinds : Nat} {a_depths : Nat} {i_size : Int32} {i_isRing : Int32} {i_overOthers : Int32} {i_longestLeap : Int32} {g_behinds : Nat → Int32} {g_depths : Nat → Int32} {a_p2 : Nat} {a_p2_codes : Nat} {i_p2_size : Int32} {g_p2_codes : Nat → Int32} {z : Nat} {t1 : Int32} {t2 : Int32} {o : Int32 × Int32 × Int32 × Int32 × (Nat → Int32) × (Nat → Int32)} (hf : fX6_lay_J72 z t1 t2 i_p1_size i_p1_form i_p1_overOthers i_p1_overTwo i_isRing i_size g_behinds g_depths i_p1_first i_p2_size g_p2_codes i_overOthers i_longestLeap = some o)
    (hrt : ∀ (H : Heap) (locs : List Loc) (ls : Array Slot) (pc : Nat), va_P D vwCl (uX6_lay cI cJ a_p1 i_p1_form i_p1_overOthers i_p1_overTwo i_p1_first i_p1_size i_p1_place i_p1_whole a_this a_behinds a_depths o.1 o.2.1 o.2.2.1 o.2.2.2.1 o.2.2.2.2.1 o.2.2.2.2.2 a_p2 a_p2_codes i_p2_size g_p2_codes) H → va_D A (uX6_lay cI cJ a_p1 i_p1_form i_p1_overOthers i_p1_overTwo i_p1_first i_p1_size i_p1_place i_p1_whole a_this a_behinds a_depths o.1 o.2.1 o.2.2.1 o.2.2.2.1 o.2.2.2.2.1 o.2.2.2.2.2 a_p2 a_p2_codes i_p2_size g_p2_codes) → va_S A s.heap H locs → decode cX6_lay pc = .ok (.return_, 1) → W p l e rX6_lay s m args below meth c H locs 0 0 Q (F0 m pc ls []))
    {H : Heap} {locs : List Loc} {ls : Array Slot} (hP : va_P D vwCl (uX6_lay cI cJ a_p1 i_p1_form i_p1_overOthers i_p1_overTwo i_p1_first i_p1_size i_p1_place i_p1_whole a_this a_behinds a_depths i_size i_isRing i_overOthers i_longestLeap g_behinds g_depths a_p2 a_p2_codes i_p2_size g_p2_codes) H) (hD : va_D A (uX6_lay cI cJ a_p1 i_p1_form i_p1_overOthers i_p1_overTwo i_p1_first i_p1_size i_p1_place i_p1_whole a_this a_behinds a_depths i_size i_isRing i_overOthers i_longestLeap g_behinds g_depths a_p2 a_p2_codes i_p2_size g_p2_codes)) (hS : va_S A s.heap H locs) (hl : lv_has ls 6 [(0, .ref a_this), (1, .ref a_p1), (2, .ref a_p2)]) : W p l e rX6_lay s m args below meth c H locs 0 0 Q (F0 m 72 ls [.int t2, .int t1, .ref a_behinds]) := by
  obtain ⟨hx, hb, hml, hown, hts, hK, hN, hA, hlocks⟩ := id C
  unfold fX6_lay_J72 at hf
  obtain ⟨hin, hf⟩ := agd_some hf
  refine va_iast hx hb hK hP hD hS 2 0 rfl rfl hin dX6_lay_72 (fun H locs hP hD hS => ?_)
  have hP : va_P D vwCl (uX6_lay cI cJ a_p1 i_p1_form i_p1_overOthers i_p1_overTwo i_p1_first i_p1_size i_p1_place i_p1_whole a_this a_behinds a_depths i_size i_isRing i_overOthers i_longestLeap (upd g_behinds t1.toNatClampNeg t2) g_depths a_p2 a_p2_codes i_p2_size g_p2_codes) H := hP
  have hD : va_D A (uX6_lay cI cJ a_p1 i_p1_form i_p1_overOthers i_p1_overTwo i_p1_first i_p1_size i_p1_place i_p1_whole a_this a_behinds a_depths i_size i_isRing i_overOthers i_longestLeap (upd g_behinds t1.toNatClampNeg t2) g_depths a_p2 a_p2_codes i_p2_size g_p2_codes) := hD
  refine lv_aload_n hx hb dX6_lay_73 rfl (lv_at hl 0 rfl) ?_
  refine va_get (D := D) (ci := 6) (v := .ref a_depths) (C := RX6) (T := TX6) (N := 6) hx hb hts jX6_lay_X6 hown hK hP 1 rfl rfl 1 (by decide) (hts _ qX6_lay_15) (fun _ h9 => h9) rfl dX6_lay_74 ?_
  refine lv_iconst (v := 0) hx hb dX6_lay_77 (by decide) ?_
  refine lv_iconst (v := 0) hx hb dX6_lay_78 (by decide) ?_
  obtain ⟨hin, hf⟩ := agd_some hf
  refine va_iast hx hb hK hP hD hS 3 0 rfl rfl hin dX6_lay_79 (fun H locs hP hD hS => ?_)
  have hP : va_P D vwCl (uX6_lay cI cJ a_p1 i_p1_form i_p1_overOthers i_p1_overTwo i_p1_first i_p1_size i_p1_place i_p1_whole a_this a_behinds a_depths i_size i_isRing i_overOthers i_longestLeap (upd g_behinds t1.toNatClampNeg t2) (upd g_depths (0 : Int32).toNatClampNeg 0) a_p2 a_p2_codes i_p2_size g_p2_codes) H := hP
  have hD : va_D A (uX6_lay cI cJ a_p1 i_p1_form i_p1_overOthers i_p1_overTwo i_p1_first i_p1_size i_p1_place i_p1_whole a_this a_behinds a_depths i_size i_isRing i_overOthers i_longestLeap (upd g_behinds t1.toNatClampNeg t2) (upd g_depths (0 : Int32).toNatClampNeg 0) a_p2 a_p2_codes i_p2_size g_p2_codes) := hD
  refine lv_aload_n hx hb dX6_lay_80 rfl (lv_at hl 1 rfl) ?_
  refine va_get (D := D) (ci := 7) (v := .int i_p1_first) (C := RX7) (T := TX7) (N := 7) hx hb hts jX6_lay_X7 hown hK hP 0 rfl rfl 3 (by decide) (hts _ qX6_lay_42) (fun _ h9 => h9) rfl dX6_lay_81 ?_
  refine lv_aload_n hx hb dX6_lay_84 rfl (lv_at hl 0 rfl) ?_
  refine va_get (D := D) (ci := 6) (v := .int i_size) (C := RX6) (T := TX6) (N := 6) hx hb hts jX6_lay_X6 hown hK hP 1 rfl rfl 2 (by decide) (hts _ qX6_lay_24) (fun _ h9 => h9) rfl dX6_lay_85 ?_
  refine lv_iadd hx hb dX6_lay_88 ?_
  refine lv_istore_n (lv' := [(3, .int (i_p1_first + i_size)), (0, .ref a_this), (1, .ref a_p1), (2, .ref a_p2)]) hx hb dX6_lay_89 rfl hl (by decide) rfl (fun ls hl => ?_)
  refine lv_iconst (v := 1) hx hb dX6_lay_90 (by decide) ?_
  refine lv_istore (lv' := [(4, .int 1), (3, .int (i_p1_first + i_size)), (0, .ref a_this), (1, .ref a_p1), (2, .ref a_p2)]) hx hb dX6_lay_91 hl (by decide) rfl (fun ls hl => ?_)
  obtain ⟨ex, hlp, hf⟩ := ob_some hf
  refine lp_ind (P := fun sg => ∀ (H : Heap) (locs : List Loc) (ls : Array Slot), va_P D vwCl (uX6_lay cI cJ a_p1 i_p1_form i_p1_overOthers i_p1_overTwo i_p1_first i_p1_size i_p1_place i_p1_whole a_this a_behinds a_depths i_size i_isRing i_overOthers i_longestLeap sg.2.1 sg.2.2 a_p2 a_p2_codes i_p2_size g_p2_codes) H → va_D A (uX6_lay cI cJ a_p1 i_p1_form i_p1_overOthers i_p1_overTwo i_p1_first i_p1_size i_p1_place i_p1_whole a_this a_behinds a_depths i_size i_isRing i_overOthers i_longestLeap sg.2.1 sg.2.2 a_p2 a_p2_codes i_p2_size g_p2_codes) → va_S A s.heap H locs → lv_has ls 6 [(0, .ref a_this), (1, .ref a_p1), (2, .ref a_p2), (3, .int (i_p1_first + i_size)), (4, .int sg.1)] → W p l e rX6_lay s m args below meth c H locs 0 0 Q (F0 m 93 ls [])) ?_ z _ hlp H locs ls hP hD hS (lv_sub hl [2, 3, 4, 1, 0] rfl)
  intro sg og hbo hback hexit H locs ls hP hD hS hl
  refine kX6_lay_L93 C hbo (fun s' h => hback s' h) (fun ex h H locs ls hP hD hS hl => ?_) hP hD hS hl
  have he := hexit _ h
  subst he
  exact kX6_lay_J168 C hf hrt hP hD hS (lv_sub hl [] rfl)
set_option maxHeartbeats 4000000 in
set_option maxRecDepth 100000 in
theorem kX6_lay_J47 {p : Program} {l : Launch} {e : Env} {s : State} {m : MethodId} {args : Array Value} {below : List Frame} {meth : Method} {c : Code} {Q : State → Prop} {A : Nat → Prop} {D : va_G} {cI cJ : ClassId} (C : bC cX6_lay 6 RX6 wsX6_lay D cI cJ p s m args c meth A)
    {a_p1 : Nat} {i_p1_form : Int32} {i_p1_overOthers : Int32} {i_p1_overTwo : Int32} {i_p1_first : Int32} {i_p1_size : Int32} {i_p1_place : Int32} {i_p1_whole : Int32} {a_this : Nat} {a_behinds : Nat} {a_depths : Nat} {i_size : Int32} {i_isRing : Int32} {i_overOthers : Int32} {i_longestLeap : Int32} {g_behinds : Nat → Int32} {g_depths : Nat → Int32} {a_p2 : Nat} {a_p2_codes : Nat} {i_p2_size : Int32} {g_p2_codes : Nat → Int32} {z : Nat} {t1 : Int32} {o : Int32 × Int32 × Int32 × Int32 × (Nat → Int32) × (Nat → Int32)} (hf : fX6_lay_J47 z t1 i_p1_size i_p1_form i_p1_overOthers i_p1_overTwo i_isRing i_size g_behinds g_depths i_p1_first i_p2_size g_p2_codes i_overOthers i_longestLeap = some o)
    (hrt : ∀ (H : Heap) (locs : List Loc) (ls : Array Slot) (pc : Nat), va_P D vwCl (uX6_lay cI cJ a_p1 i_p1_form i_p1_overOthers i_p1_overTwo i_p1_first i_p1_size i_p1_place i_p1_whole a_this a_behinds a_depths o.1 o.2.1 o.2.2.1 o.2.2.2.1 o.2.2.2.2.1 o.2.2.2.2.2 a_p2 a_p2_codes i_p2_size g_p2_codes) H → va_D A (uX6_lay cI cJ a_p1 i_p1_form i_p1_overOthers i_p1_overTwo i_p1_first i_p1_size i_p1_place i_p1_whole a_this a_behinds a_depths o.1 o.2.1 o.2.2.1 o.2.2.2.1 o.2.2.2.2.1 o.2.2.2.2.2 a_p2 a_p2_codes i_p2_size g_p2_codes) → va_S A s.heap H locs → decode cX6_lay pc = .ok (.return_, 1) → W p l e rX6_lay s m args below meth c H locs 0 0 Q (F0 m pc ls []))
    {H : Heap} {locs : List Loc} {ls : Array Slot} (hP : va_P D vwCl (uX6_lay cI cJ a_p1 i_p1_form i_p1_overOthers i_p1_overTwo i_p1_first i_p1_size i_p1_place i_p1_whole a_this a_behinds a_depths i_size i_isRing i_overOthers i_longestLeap g_behinds g_depths a_p2 a_p2_codes i_p2_size g_p2_codes) H) (hD : va_D A (uX6_lay cI cJ a_p1 i_p1_form i_p1_overOthers i_p1_overTwo i_p1_first i_p1_size i_p1_place i_p1_whole a_this a_behinds a_depths i_size i_isRing i_overOthers i_longestLeap g_behinds g_depths a_p2 a_p2_codes i_p2_size g_p2_codes)) (hS : va_S A s.heap H locs) (hl : lv_has ls 6 [(0, .ref a_this), (1, .ref a_p1), (2, .ref a_p2)]) : W p l e rX6_lay s m args below meth c H locs 0 0 Q (F0 m 47 ls [.int t1, .ref a_this]) := by
  obtain ⟨hx, hb, hml, hown, hts, hK, hN, hA, hlocks⟩ := id C
  unfold fX6_lay_J47 at hf
  refine va_put (D := D) (ci := 6) (v := .int t1) (ty := tyX6 5) (C := RX6) (T := TX6) (N := 6) hx hb hts jX6_lay_X6 tyX6 tyX6_ok nmX6 hown hK hP hD hS 1 rfl rfl 5 (by decide) (hts _ qX6_lay_39) (fun _ h9 => h9) rfl (tyX6_ok 5 (by decide)) rfl rfl (Nat.le_of_ble_eq_true rfl) dX6_lay_47 (fun H locs hP hD hS => ?_)
  have hP : va_P D vwCl (uX6_lay cI cJ a_p1 i_p1_form i_p1_overOthers i_p1_overTwo i_p1_first i_p1_size i_p1_place i_p1_whole a_this a_behinds a_depths i_size i_isRing i_overOthers t1 g_behinds g_depths a_p2 a_p2_codes i_p2_size g_p2_codes) H := hP
  have hD : va_D A (uX6_lay cI cJ a_p1 i_p1_form i_p1_overOthers i_p1_overTwo i_p1_first i_p1_size i_p1_place i_p1_whole a_this a_behinds a_depths i_size i_isRing i_overOthers t1 g_behinds g_depths a_p2 a_p2_codes i_p2_size g_p2_codes) := hD
  refine lv_aload_n hx hb dX6_lay_50 rfl (lv_at hl 0 rfl) ?_
  refine va_get (D := D) (ci := 6) (v := .ref a_behinds) (C := RX6) (T := TX6) (N := 6) hx hb hts jX6_lay_X6 hown hK hP 1 rfl rfl 0 (by decide) (hts _ qX6_lay_9) (fun _ h9 => h9) rfl dX6_lay_51 ?_
  refine lv_iconst (v := 0) hx hb dX6_lay_54 (by decide) ?_
  refine lv_aload_n hx hb dX6_lay_55 rfl (lv_at hl 0 rfl) ?_
  refine va_get (D := D) (ci := 6) (v := .int i_isRing) (C := RX6) (T := TX6) (N := 6) hx hb hts jX6_lay_X6 hown hK hP 1 rfl rfl 3 (by decide) (hts _ qX6_lay_28) (fun _ h9 => h9) rfl dX6_lay_56 ?_
  refine lv_if_eq (tgt := 71) hx hb dX6_lay_59 (by decide) (fun hc => ?_) (fun hc => ?_)
  · have hf := if_yes hc hf
    refine lv_iconst (v := (-1)) hx hb dX6_lay_71 (by decide) ?_
    exact kX6_lay_J72 C hf hrt hP hD hS (lv_sub hl [0, 1, 2] rfl)
  · have hf := if_no hc hf
    refine lv_aload_n hx hb dX6_lay_62 rfl (lv_at hl 0 rfl) ?_
    refine va_get (D := D) (ci := 6) (v := .int i_size) (C := RX6) (T := TX6) (N := 6) hx hb hts jX6_lay_X6 hown hK hP 1 rfl rfl 2 (by decide) (hts _ qX6_lay_24) (fun _ h9 => h9) rfl dX6_lay_63 ?_
    refine lv_iconst (v := 1) hx hb dX6_lay_66 (by decide) ?_
    refine lv_isub hx hb dX6_lay_67 ?_
    refine lv_goto (tgt := 72) hx hb dX6_lay_68 (by decide) ?_
    exact kX6_lay_J72 C hf hrt hP hD hS (lv_sub hl [0, 1, 2] rfl)
set_option maxHeartbeats 4000000 in
set_option maxRecDepth 100000 in
theorem kX6_lay_J23 {p : Program} {l : Launch} {e : Env} {s : State} {m : MethodId} {args : Array Value} {below : List Frame} {meth : Method} {c : Code} {Q : State → Prop} {A : Nat → Prop} {D : va_G} {cI cJ : ClassId} (C : bC cX6_lay 6 RX6 wsX6_lay D cI cJ p s m args c meth A)
    {a_p1 : Nat} {i_p1_form : Int32} {i_p1_overOthers : Int32} {i_p1_overTwo : Int32} {i_p1_first : Int32} {i_p1_size : Int32} {i_p1_place : Int32} {i_p1_whole : Int32} {a_this : Nat} {a_behinds : Nat} {a_depths : Nat} {i_size : Int32} {i_isRing : Int32} {i_overOthers : Int32} {i_longestLeap : Int32} {g_behinds : Nat → Int32} {g_depths : Nat → Int32} {a_p2 : Nat} {a_p2_codes : Nat} {i_p2_size : Int32} {g_p2_codes : Nat → Int32} {z : Nat} {t1 : Int32} {o : Int32 × Int32 × Int32 × Int32 × (Nat → Int32) × (Nat → Int32)} (hf : fX6_lay_J23 z t1 i_p1_size i_p1_form i_p1_overOthers i_p1_overTwo i_isRing i_size g_behinds g_depths i_p1_first i_p2_size g_p2_codes i_overOthers i_longestLeap = some o)
    (hrt : ∀ (H : Heap) (locs : List Loc) (ls : Array Slot) (pc : Nat), va_P D vwCl (uX6_lay cI cJ a_p1 i_p1_form i_p1_overOthers i_p1_overTwo i_p1_first i_p1_size i_p1_place i_p1_whole a_this a_behinds a_depths o.1 o.2.1 o.2.2.1 o.2.2.2.1 o.2.2.2.2.1 o.2.2.2.2.2 a_p2 a_p2_codes i_p2_size g_p2_codes) H → va_D A (uX6_lay cI cJ a_p1 i_p1_form i_p1_overOthers i_p1_overTwo i_p1_first i_p1_size i_p1_place i_p1_whole a_this a_behinds a_depths o.1 o.2.1 o.2.2.1 o.2.2.2.1 o.2.2.2.2.1 o.2.2.2.2.2 a_p2 a_p2_codes i_p2_size g_p2_codes) → va_S A s.heap H locs → decode cX6_lay pc = .ok (.return_, 1) → W p l e rX6_lay s m args below meth c H locs 0 0 Q (F0 m pc ls []))
    {H : Heap} {locs : List Loc} {ls : Array Slot} (hP : va_P D vwCl (uX6_lay cI cJ a_p1 i_p1_form i_p1_overOthers i_p1_overTwo i_p1_first i_p1_size i_p1_place i_p1_whole a_this a_behinds a_depths i_size i_isRing i_overOthers i_longestLeap g_behinds g_depths a_p2 a_p2_codes i_p2_size g_p2_codes) H) (hD : va_D A (uX6_lay cI cJ a_p1 i_p1_form i_p1_overOthers i_p1_overTwo i_p1_first i_p1_size i_p1_place i_p1_whole a_this a_behinds a_depths i_size i_isRing i_overOthers i_longestLeap g_behinds g_depths a_p2 a_p2_codes i_p2_size g_p2_codes)) (hS : va_S A s.heap H locs) (hl : lv_has ls 6 [(0, .ref a_this), (1, .ref a_p1), (2, .ref a_p2)]) : W p l e rX6_lay s m args below meth c H locs 0 0 Q (F0 m 23 ls [.int t1, .ref a_this]) := by
  obtain ⟨hx, hb, hml, hown, hts, hK, hN, hA, hlocks⟩ := id C
  unfold fX6_lay_J23 at hf
  obtain ⟨hz9, hf⟩ := zgd_some hf
  refine va_put (D := D) (ci := 6) (v := .int t1) (ty := tyX6 3) (C := RX6) (T := TX6) (N := 6) hx hb hts jX6_lay_X6 tyX6 tyX6_ok nmX6 hown hK hP hD hS 1 rfl rfl 3 (by decide) (hts _ qX6_lay_28) (fun _ h9 => h9) rfl (tyX6_ok 3 (by decide)) (zgd_nar hz9) (zgd_fit hz9) (Nat.le_of_ble_eq_true rfl) dX6_lay_23 (fun H locs hP hD hS => ?_)
  have hP : va_P D vwCl (uX6_lay cI cJ a_p1 i_p1_form i_p1_overOthers i_p1_overTwo i_p1_first i_p1_size i_p1_place i_p1_whole a_this a_behinds a_depths i_size t1 i_overOthers i_longestLeap g_behinds g_depths a_p2 a_p2_codes i_p2_size g_p2_codes) H := hP
  have hD : va_D A (uX6_lay cI cJ a_p1 i_p1_form i_p1_overOthers i_p1_overTwo i_p1_first i_p1_size i_p1_place i_p1_whole a_this a_behinds a_depths i_size t1 i_overOthers i_longestLeap g_behinds g_depths a_p2 a_p2_codes i_p2_size g_p2_codes) := hD
  refine lv_aload_n hx hb dX6_lay_26 rfl (lv_at hl 0 rfl) ?_
  refine lv_aload_n hx hb dX6_lay_27 rfl (lv_at hl 1 rfl) ?_
  refine va_get (D := D) (ci := 7) (v := .int i_p1_overOthers) (C := RX7) (T := TX7) (N := 7) hx hb hts jX6_lay_X7 hown hK hP 0 rfl rfl 1 (by decide) (hts _ qX6_lay_32) (fun _ h9 => h9) rfl dX6_lay_28 ?_
  obtain ⟨hz9, hf⟩ := zgd_some hf
  refine va_put (D := D) (ci := 6) (v := .int i_p1_overOthers) (ty := tyX6 4) (C := RX6) (T := TX6) (N := 6) hx hb hts jX6_lay_X6 tyX6 tyX6_ok nmX6 hown hK hP hD hS 1 rfl rfl 4 (by decide) (hts _ qX6_lay_35) (fun _ h9 => h9) rfl (tyX6_ok 4 (by decide)) (zgd_nar hz9) (zgd_fit hz9) (Nat.le_of_ble_eq_true rfl) dX6_lay_31 (fun H locs hP hD hS => ?_)
  have hP : va_P D vwCl (uX6_lay cI cJ a_p1 i_p1_form i_p1_overOthers i_p1_overTwo i_p1_first i_p1_size i_p1_place i_p1_whole a_this a_behinds a_depths i_size t1 i_p1_overOthers i_longestLeap g_behinds g_depths a_p2 a_p2_codes i_p2_size g_p2_codes) H := hP
  have hD : va_D A (uX6_lay cI cJ a_p1 i_p1_form i_p1_overOthers i_p1_overTwo i_p1_first i_p1_size i_p1_place i_p1_whole a_this a_behinds a_depths i_size t1 i_p1_overOthers i_longestLeap g_behinds g_depths a_p2 a_p2_codes i_p2_size g_p2_codes) := hD
  refine lv_aload_n hx hb dX6_lay_34 rfl (lv_at hl 0 rfl) ?_
  refine lv_aload_n hx hb dX6_lay_35 rfl (lv_at hl 1 rfl) ?_
  refine va_get (D := D) (ci := 7) (v := .int i_p1_overTwo) (C := RX7) (T := TX7) (N := 7) hx hb hts jX6_lay_X7 hown hK hP 0 rfl rfl 2 (by decide) (hts _ qX6_lay_36) (fun _ h9 => h9) rfl dX6_lay_36 ?_
  refine lv_if_eq (tgt := 46) hx hb dX6_lay_39 (by decide) (fun hc => ?_) (fun hc => ?_)
  · have hf := if_yes hc hf
    refine lv_iconst (v := 2) hx hb dX6_lay_46 (by decide) ?_
    exact kX6_lay_J47 C hf hrt hP hD hS (lv_sub hl [0, 1, 2] rfl)
  · have hf := if_no hc hf
    refine lv_iconst (v := 3) hx hb dX6_lay_42 (by decide) ?_
    refine lv_goto (tgt := 47) hx hb dX6_lay_43 (by decide) ?_
    exact kX6_lay_J47 C hf hrt hP hD hS (lv_sub hl [0, 1, 2] rfl)
set_option maxHeartbeats 4000000 in
set_option maxRecDepth 100000 in
theorem kX6_lay_0 {p : Program} {l : Launch} {e : Env} {s : State} {m : MethodId} {args : Array Value} {below : List Frame} {meth : Method} {c : Code} {Q : State → Prop} {A : Nat → Prop} {D : va_G} {cI cJ : ClassId} (C : bC cX6_lay 6 RX6 wsX6_lay D cI cJ p s m args c meth A)
    {a_p1 : Nat} {i_p1_form : Int32} {i_p1_overOthers : Int32} {i_p1_overTwo : Int32} {i_p1_first : Int32} {i_p1_size : Int32} {i_p1_place : Int32} {i_p1_whole : Int32} {a_this : Nat} {a_behinds : Nat} {a_depths : Nat} {i_size : Int32} {i_isRing : Int32} {i_overOthers : Int32} {i_longestLeap : Int32} {g_behinds : Nat → Int32} {g_depths : Nat → Int32} {a_p2 : Nat} {a_p2_codes : Nat} {i_p2_size : Int32} {g_p2_codes : Nat → Int32} {z : Nat} {o : Int32 × Int32 × Int32 × Int32 × (Nat → Int32) × (Nat → Int32)} (hf : fX6_lay z i_p1_size i_p1_form i_p1_overOthers i_p1_overTwo i_isRing i_size g_behinds g_depths i_p1_first i_p2_size g_p2_codes i_overOthers i_longestLeap = some o)
    (hrt : ∀ (H : Heap) (locs : List Loc) (ls : Array Slot) (pc : Nat), va_P D vwCl (uX6_lay cI cJ a_p1 i_p1_form i_p1_overOthers i_p1_overTwo i_p1_first i_p1_size i_p1_place i_p1_whole a_this a_behinds a_depths o.1 o.2.1 o.2.2.1 o.2.2.2.1 o.2.2.2.2.1 o.2.2.2.2.2 a_p2 a_p2_codes i_p2_size g_p2_codes) H → va_D A (uX6_lay cI cJ a_p1 i_p1_form i_p1_overOthers i_p1_overTwo i_p1_first i_p1_size i_p1_place i_p1_whole a_this a_behinds a_depths o.1 o.2.1 o.2.2.1 o.2.2.2.1 o.2.2.2.2.1 o.2.2.2.2.2 a_p2 a_p2_codes i_p2_size g_p2_codes) → va_S A s.heap H locs → decode cX6_lay pc = .ok (.return_, 1) → W p l e rX6_lay s m args below meth c H locs 0 0 Q (F0 m pc ls []))
    {H : Heap} {locs : List Loc} {ls : Array Slot} (hP : va_P D vwCl (uX6_lay cI cJ a_p1 i_p1_form i_p1_overOthers i_p1_overTwo i_p1_first i_p1_size i_p1_place i_p1_whole a_this a_behinds a_depths i_size i_isRing i_overOthers i_longestLeap g_behinds g_depths a_p2 a_p2_codes i_p2_size g_p2_codes) H) (hD : va_D A (uX6_lay cI cJ a_p1 i_p1_form i_p1_overOthers i_p1_overTwo i_p1_first i_p1_size i_p1_place i_p1_whole a_this a_behinds a_depths i_size i_isRing i_overOthers i_longestLeap g_behinds g_depths a_p2 a_p2_codes i_p2_size g_p2_codes)) (hS : va_S A s.heap H locs) (hl : lv_has ls 6 [(0, .ref a_this), (1, .ref a_p1), (2, .ref a_p2)]) : W p l e rX6_lay s m args below meth c H locs 0 0 Q (F0 m 0 ls []) := by
  obtain ⟨hx, hb, hml, hown, hts, hK, hN, hA, hlocks⟩ := id C
  unfold fX6_lay at hf
  refine lv_aload_n hx hb dX6_lay_0 rfl (lv_at hl 0 rfl) ?_
  refine lv_aload_n hx hb dX6_lay_1 rfl (lv_at hl 1 rfl) ?_
  refine va_get (D := D) (ci := 7) (v := .int i_p1_size) (C := RX7) (T := TX7) (N := 7) hx hb hts jX6_lay_X7 hown hK hP 0 rfl rfl 4 (by decide) (hts _ qX6_lay_18) (fun _ h9 => h9) rfl dX6_lay_2 ?_
  refine va_put (D := D) (ci := 6) (v := .int i_p1_size) (ty := tyX6 2) (C := RX6) (T := TX6) (N := 6) hx hb hts jX6_lay_X6 tyX6 tyX6_ok nmX6 hown hK hP hD hS 1 rfl rfl 2 (by decide) (hts _ qX6_lay_24) (fun _ h9 => h9) rfl (tyX6_ok 2 (by decide)) rfl rfl (Nat.le_of_ble_eq_true rfl) dX6_lay_5 (fun H locs hP hD hS => ?_)
  have hP : va_P D vwCl (uX6_lay cI cJ a_p1 i_p1_form i_p1_overOthers i_p1_overTwo i_p1_first i_p1_size i_p1_place i_p1_whole a_this a_behinds a_depths i_p1_size i_isRing i_overOthers i_longestLeap g_behinds g_depths a_p2 a_p2_codes i_p2_size g_p2_codes) H := hP
  have hD : va_D A (uX6_lay cI cJ a_p1 i_p1_form i_p1_overOthers i_p1_overTwo i_p1_first i_p1_size i_p1_place i_p1_whole a_this a_behinds a_depths i_p1_size i_isRing i_overOthers i_longestLeap g_behinds g_depths a_p2 a_p2_codes i_p2_size g_p2_codes) := hD
  refine lv_aload_n hx hb dX6_lay_8 rfl (lv_at hl 0 rfl) ?_
  refine lv_aload_n hx hb dX6_lay_9 rfl (lv_at hl 1 rfl) ?_
  refine va_get (D := D) (ci := 7) (v := .int i_p1_form) (C := RX7) (T := TX7) (N := 7) hx hb hts jX6_lay_X7 hown hK hP 0 rfl rfl 0 (by decide) (hts _ qX6_lay_25) (fun _ h9 => h9) rfl dX6_lay_10 ?_
  refine lv_bipush (v := 114) hx hb dX6_lay_13 (by decide) ?_
  refine lv_icmp_ne (tgt := 22) hx hb dX6_lay_15 (by decide) (fun hc => ?_) (fun hc => ?_)
  · have hf := if_no hc hf
    refine lv_iconst (v := 0) hx hb dX6_lay_22 (by decide) ?_
    exact kX6_lay_J23 C hf hrt hP hD hS (lv_sub hl [0, 1, 2] rfl)
  · have hf := if_yes hc hf
    refine lv_iconst (v := 1) hx hb dX6_lay_18 (by decide) ?_
    refine lv_goto (tgt := 23) hx hb dX6_lay_19 (by decide) ?_
    exact kX6_lay_J23 C hf hrt hP hD hS (lv_sub hl [0, 1, 2] rfl)
set_option maxHeartbeats 4000000 in
set_option maxRecDepth 100000 in
theorem mX6_lay (l : Launch) (D : va_G) (cI cJ : ClassId) (sz : Nat) {a_p1 : Nat} {i_p1_form : Int32} {i_p1_overOthers : Int32} {i_p1_overTwo : Int32} {i_p1_first : Int32} {i_p1_size : Int32} {i_p1_place : Int32} {i_p1_whole : Int32} {a_this : Nat} {a_behinds : Nat} {a_depths : Nat} {i_size : Int32} {i_isRing : Int32} {i_overOthers : Int32} {i_longestLeap : Int32} {g_behinds : Nat → Int32} {g_depths : Nat → Int32} {a_p2 : Nat} {a_p2_codes : Nat} {i_p2_size : Int32} {g_p2_codes : Nat → Int32} {z : Nat} {o : Int32 × Int32 × Int32 × Int32 × (Nat → Int32) × (Nat → Int32)} (hf : fX6_lay z i_p1_size i_p1_form i_p1_overOthers i_p1_overTwo i_isRing i_size g_behinds g_depths i_p1_first i_p2_size g_p2_codes i_overOthers i_longestLeap = some o) : Met l yX6_lay wsX6_lay rX6_lay (va_Pc [.ref a_this, .ref a_p1, .ref a_p2] (kP D cI cJ (uX6_lay cI cJ a_p1 i_p1_form i_p1_overOthers i_p1_overTwo i_p1_first i_p1_size i_p1_place i_p1_whole a_this a_behinds a_depths i_size i_isRing i_overOthers i_longestLeap g_behinds g_depths a_p2 a_p2_codes i_p2_size g_p2_codes) sz)) (va_Qv (fun (_ : Unit) => True) (fun _ t => kB D (va_A (uX6_lay cI cJ a_p1 i_p1_form i_p1_overOthers i_p1_overTwo i_p1_first i_p1_size i_p1_place i_p1_whole a_this a_behinds a_depths i_size i_isRing i_overOthers i_longestLeap g_behinds g_depths a_p2 a_p2_codes i_p2_size g_p2_codes) sz) (uX6_lay cI cJ a_p1 i_p1_form i_p1_overOthers i_p1_overTwo i_p1_first i_p1_size i_p1_place i_p1_whole a_this a_behinds a_depths o.1 o.2.1 o.2.2.1 o.2.2.2.1 o.2.2.2.2.1 o.2.2.2.2.2 a_p2 a_p2_codes i_p2_size g_p2_codes) t) (va_A (uX6_lay cI cJ a_p1 i_p1_form i_p1_overOthers i_p1_overTwo i_p1_first i_p1_size i_p1_place i_p1_whole a_this a_behinds a_depths i_size i_isRing i_overOthers i_longestLeap g_behinds g_depths a_p2 a_p2_codes i_p2_size g_p2_codes) sz)) 0 0 (va_A (uX6_lay cI cJ a_p1 i_p1_form i_p1_overOthers i_p1_overTwo i_p1_first i_p1_size i_p1_place i_p1_whole a_this a_behinds a_depths i_size i_isRing i_overOthers i_longestLeap g_behinds g_depths a_p2 a_p2_codes i_p2_size g_p2_codes) sz) :=
  met_v (by decide) rfl (Nat.le_of_ble_eq_true rfl) (fun p e s m below meth c A Q C hrt ls hl hP hD hS => kX6_lay_0 (A := A) C hf hrt hP hD hS hl)

/-! ===== FrogsOnRing$Pond.turned(II)I ===== -/
abbrev uX6_turned (cI cJ : ClassId) (a_this : Nat) (a_behinds : Nat) (a_depths : Nat) (i_size : Int32) (i_isRing : Int32) (i_overOthers : Int32) (i_longestLeap : Int32) : va_W := [(a_this, .inr (6, [.ref a_behinds, .ref a_depths, .int i_size, .int i_isRing, .int i_overOthers, .int i_longestLeap]))]
def rX6_turned : Room := { frames := 0, cells := 0, slots := 0, locals := 0 }
theorem hdX6_turned : yX6_turned.cls = RX6 ∧ yX6_turned.cls ≠ "java/lang/invoke/MethodHandle" ∧ yX6_turned.cls ≠ "java/lang/invoke/VarHandle" ∧ (parseMethodDescriptor yX6_turned.desc).map (fun d => d.parameters.length) = some 2 := by decide +kernel
set_option maxRecDepth 20000 in
theorem jX6_turned_X6 : ∀ w ∈ u_ws RX6 TX6 6, w ∈ wsX6_turned := by decide +kernel
set_option maxRecDepth 20000 in
theorem qX6_turned_24 : Cond.fieldLink RX6 24 "FrogsOnRing$Pond" "size" "I" ∈ wsX6_turned := by decide +kernel
set_option maxHeartbeats 4000000 in
set_option maxRecDepth 100000 in
theorem kX6_turned_0 {p : Program} {l : Launch} {e : Env} {s : State} {m : MethodId} {args : Array Value} {below : List Frame} {meth : Method} {c : Code} {Q : State → Prop} {A : Nat → Prop} {D : va_G} {cI cJ : ClassId} (C : bC cX6_turned 4 RX6 wsX6_turned D cI cJ p s m args c meth A)
    {a_this : Nat} {a_behinds : Nat} {a_depths : Nat} {i_size : Int32} {i_isRing : Int32} {i_overOthers : Int32} {i_longestLeap : Int32} {x1 : Int32} {x2 : Int32} {o : Int32} (hf : fX6_turned x1 x2 i_size = o)
    (hrt : ∀ (H : Heap) (locs : List Loc) (ls : Array Slot) (pc : Nat), va_P D vwCl (uX6_turned cI cJ a_this a_behinds a_depths i_size i_isRing i_overOthers i_longestLeap) H → va_D A (uX6_turned cI cJ a_this a_behinds a_depths i_size i_isRing i_overOthers i_longestLeap) → va_S A s.heap H locs → decode cX6_turned pc = .ok (.ireturn, 1) → W p l e rX6_turned s m args below meth c H locs 0 0 Q (F0 m pc ls [.int o]))
    {H : Heap} {locs : List Loc} {ls : Array Slot} (hP : va_P D vwCl (uX6_turned cI cJ a_this a_behinds a_depths i_size i_isRing i_overOthers i_longestLeap) H) (hD : va_D A (uX6_turned cI cJ a_this a_behinds a_depths i_size i_isRing i_overOthers i_longestLeap)) (hS : va_S A s.heap H locs) (hl : lv_has ls 4 [(0, .ref a_this), (1, .int x1), (2, .int x2)]) : W p l e rX6_turned s m args below meth c H locs 0 0 Q (F0 m 0 ls []) := by
  obtain ⟨hx, hb, hml, hown, hts, hK, hN, hA, hlocks⟩ := id C
  unfold fX6_turned at hf
  refine lv_iconst (v := 1) hx hb dX6_turned_0 (by decide) ?_
  refine lv_iconst (v := 2) hx hb dX6_turned_1 (by decide) ?_
  refine lv_aload_n hx hb dX6_turned_2 rfl (lv_at hl 0 rfl) ?_
  refine va_get (D := D) (ci := 6) (v := .int i_size) (C := RX6) (T := TX6) (N := 6) hx hb hts jX6_turned_X6 hown hK hP 0 rfl rfl 2 (by decide) (hts _ qX6_turned_24) (fun _ h9 => h9) rfl dX6_turned_3 ?_
  refine lv_imul hx hb dX6_turned_6 ?_
  refine lv_ishl hx hb dX6_turned_7 ?_
  refine lv_iconst (v := 1) hx hb dX6_turned_8 (by decide) ?_
  refine lv_isub hx hb dX6_turned_9 ?_
  refine lv_istore_n (lv' := [(3, .int (((1 : Int32) <<< ((2 * i_size) &&& 31)) - 1)), (0, .ref a_this), (1, .int x1), (2, .int x2)]) hx hb dX6_turned_10 rfl hl (by decide) rfl (fun ls hl => ?_)
  refine lv_iload_n hx hb dX6_turned_11 rfl (lv_at hl 2 rfl) ?_
  refine lv_iconst (v := 2) hx hb dX6_turned_12 (by decide) ?_
  refine lv_iload_n hx hb dX6_turned_13 rfl (lv_at hl 3 rfl) ?_
  refine lv_imul hx hb dX6_turned_14 ?_
  refine lv_ishl hx hb dX6_turned_15 ?_
  refine lv_iload_n hx hb dX6_turned_16 rfl (lv_at hl 2 rfl) ?_
  refine lv_iconst (v := 2) hx hb dX6_turned_17 (by decide) ?_
  refine lv_aload_n hx hb dX6_turned_18 rfl (lv_at hl 1 rfl) ?_
  refine va_get (D := D) (ci := 6) (v := .int i_size) (C := RX6) (T := TX6) (N := 6) hx hb hts jX6_turned_X6 hown hK hP 0 rfl rfl 2 (by decide) (hts _ qX6_turned_24) (fun _ h9 => h9) rfl dX6_turned_19 ?_
  refine lv_iload_n hx hb dX6_turned_22 rfl (lv_at hl 3 rfl) ?_
  refine lv_isub hx hb dX6_turned_23 ?_
  refine lv_imul hx hb dX6_turned_24 ?_
  refine lv_ishr hx hb dX6_turned_25 ?_
  refine lv_ior hx hb dX6_turned_26 ?_
  refine lv_iload_n hx hb dX6_turned_27 rfl (lv_at hl 0 rfl) ?_
  refine lv_iand hx hb dX6_turned_28 ?_
  subst hf
  exact hrt H locs ls _ hP hD hS dX6_turned_29
set_option maxHeartbeats 4000000 in
set_option maxRecDepth 100000 in
theorem mX6_turned (l : Launch) (D : va_G) (cI cJ : ClassId) (sz : Nat) {a_this : Nat} {a_behinds : Nat} {a_depths : Nat} {i_size : Int32} {i_isRing : Int32} {i_overOthers : Int32} {i_longestLeap : Int32} {x1 : Int32} {x2 : Int32} : Met l yX6_turned wsX6_turned rX6_turned (va_Pc [.ref a_this, .int x1, .int x2] (kP D cI cJ (uX6_turned cI cJ a_this a_behinds a_depths i_size i_isRing i_overOthers i_longestLeap) sz)) (va_Qi (fun r' (_ : Unit) => r' = (fX6_turned x1 x2 i_size)) (fun _ t => kB D (va_A (uX6_turned cI cJ a_this a_behinds a_depths i_size i_isRing i_overOthers i_longestLeap) sz) (uX6_turned cI cJ a_this a_behinds a_depths i_size i_isRing i_overOthers i_longestLeap) t) (va_A (uX6_turned cI cJ a_this a_behinds a_depths i_size i_isRing i_overOthers i_longestLeap) sz)) 0 0 (va_A (uX6_turned cI cJ a_this a_behinds a_depths i_size i_isRing i_overOthers i_longestLeap) sz) :=
  met_i (by decide) rfl (Nat.le_of_ble_eq_true rfl) (fun p e s m below meth c A Q C hrt ls hl hP hD hS => kX6_turned_0 (A := A) C rfl hrt hP hD hS hl)

/-! ===== FrogsOnRing$Reading.readForm(LFrogsOnRing$Page;)V ===== -/
abbrev uX7_readForm (cI cJ : ClassId) (a_p1 : Nat) (a_p1_codes : Nat) (i_p1_size : Int32) (g_p1_codes : Nat → Int32) (a_this : Nat) (i_form : Int32) (i_overOthers : Int32) (i_overTwo : Int32) (i_first : Int32) (i_size : Int32) (i_place : Int32) (i_whole : Int32) : va_W := [(a_p1, .inr (5, [.ref a_p1_codes, .int i_p1_size])), (a_p1_codes, .inl (cI, 24, .inl g_p1_codes)), (a_this, .inr (7, [.int i_form, .int i_overOthers, .int i_overTwo, .int i_first, .int i_size, .int i_place, .int i_whole]))]
def rX7_readForm : Room := { frames := 1, cells := 0, slots := 0, locals := 21 }
theorem hdX7_readForm : yX7_readForm.cls = RX7 ∧ yX7_readForm.cls ≠ "java/lang/invoke/MethodHandle" ∧ yX7_readForm.cls ≠ "java/lang/invoke/VarHandle" ∧ (parseMethodDescriptor yX7_readForm.desc).map (fun d => d.parameters.length) = some 1 := by decide +kernel
set_option maxRecDepth 20000 in
theorem jX7_readForm_X7 : ∀ w ∈ u_ws RX7 TX7 7, w ∈ wsX7_readForm := by decide +kernel
set_option maxRecDepth 20000 in
theorem qX7_readForm_22 : Cond.fieldLink RX7 22 "FrogsOnRing$Reading" "place" "I" ∈ wsX7_readForm := by decide +kernel
set_option maxRecDepth 20000 in
theorem qX7_readForm_42 : Cond.fieldLink RX7 42 "FrogsOnRing$Reading" "form" "I" ∈ wsX7_readForm := by decide +kernel
set_option maxHeartbeats 4000000 in
set_option maxRecDepth 100000 in
theorem kX7_readForm_0 {p : Program} {l : Launch} {e : Env} {s : State} {m : MethodId} {args : Array Value} {below : List Frame} {meth : Method} {c : Code} {Q : State → Prop} {A : Nat → Prop} {D : va_G} {cI cJ : ClassId} (C : bC cX7_readForm 2 RX7 wsX7_readForm D cI cJ p s m args c meth A)
    {a_p1 : Nat} {a_p1_codes : Nat} {i_p1_size : Int32} {g_p1_codes : Nat → Int32} {a_this : Nat} {i_form : Int32} {i_overOthers : Int32} {i_overTwo : Int32} {i_first : Int32} {i_size : Int32} {i_place : Int32} {i_whole : Int32} {z : Nat} {o : Int32 × Int32} (hf : fX7_readForm z i_p1_size g_p1_codes i_form i_place = some o)
    (hrt : ∀ (H : Heap) (locs : List Loc) (ls : Array Slot) (pc : Nat), va_P D vwCl (uX7_readForm cI cJ a_p1 a_p1_codes i_p1_size g_p1_codes a_this o.1 i_overOthers i_overTwo i_first i_size o.2 i_whole) H → va_D A (uX7_readForm cI cJ a_p1 a_p1_codes i_p1_size g_p1_codes a_this o.1 i_overOthers i_overTwo i_first i_size o.2 i_whole) → va_S A s.heap H locs → decode cX7_readForm pc = .ok (.return_, 1) → W p l e rX7_readForm s m args below meth c H locs 0 0 Q (F0 m pc ls []))
    {H : Heap} {locs : List Loc} {ls : Array Slot} (hP : va_P D vwCl (uX7_readForm cI cJ a_p1 a_p1_codes i_p1_size g_p1_codes a_this i_form i_overOthers i_overTwo i_first i_size i_place i_whole) H) (hD : va_D A (uX7_readForm cI cJ a_p1 a_p1_codes i_p1_size g_p1_codes a_this i_form i_overOthers i_overTwo i_first i_size i_place i_whole)) (hS : va_S A s.heap H locs) (hl : lv_has ls 2 [(0, .ref a_this), (1, .ref a_p1)]) : W p l e rX7_readForm s m args below meth c H locs 0 0 Q (F0 m 0 ls []) := by
  obtain ⟨hx, hb, hml, hown, hts, hK, hN, hA, hlocks⟩ := id C
  unfold fX7_readForm at hf
  refine lv_aload_n hx hb dX7_readForm_0 rfl (lv_at hl 0 rfl) ?_
  refine lv_aload_n hx hb dX7_readForm_1 rfl (lv_at hl 1 rfl) ?_
  refine lv_iconst (v := 0) hx hb dX7_readForm_2 (by decide) ?_
  obtain ⟨q1, hq, hf⟩ := ob_some hf
  refine cl_i (wc := (uX5_letterAt cI cJ a_p1 a_p1_codes i_p1_size g_p1_codes)) (w1 := (uX5_letterAt cI cJ a_p1 a_p1_codes i_p1_size g_p1_codes)) (rn_V (As := [.int 0]) (b := a_p1) (rest := [.ref a_this]) (wc := (uX5_letterAt cI cJ a_p1 a_p1_codes i_p1_size g_p1_codes)) (ci := 5) (q0 := 0) C hP hD [0, 1] rfl rfl rfl rfl (mX5_letterAt l D cI cJ H.size hq) 1 gX7_readForm_X5_letterAt rfl ⟨rfl, rfl, Nat.le_of_ble_eq_true rfl, Nat.le_of_ble_eq_true rfl⟩ hdX5_letterAt rfl hl.1 rfl (Nat.le_of_ble_eq_true rfl) dX7_readForm_3) hP hD hS hA [0, 1] rfl rfl (fun H locs hP hD hS => ?_)
  have hP : va_P D vwCl (uX7_readForm cI cJ a_p1 a_p1_codes i_p1_size g_p1_codes a_this i_form i_overOthers i_overTwo i_first i_size i_place i_whole) H := hP
  have hD : va_D A (uX7_readForm cI cJ a_p1 a_p1_codes i_p1_size g_p1_codes a_this i_form i_overOthers i_overTwo i_first i_size i_place i_whole) := hD
  refine va_put (D := D) (ci := 7) (v := .int q1) (ty := tyX7 0) (C := RX7) (T := TX7) (N := 7) hx hb hts jX7_readForm_X7 tyX7 tyX7_ok nmX7 hown hK hP hD hS 2 rfl rfl 0 (by decide) (hts _ qX7_readForm_42) (fun _ h9 => h9) rfl (tyX7_ok 0 (by decide)) rfl rfl (Nat.le_of_ble_eq_true rfl) dX7_readForm_6 (fun H locs hP hD hS => ?_)
  have hP : va_P D vwCl (uX7_readForm cI cJ a_p1 a_p1_codes i_p1_size g_p1_codes a_this q1 i_overOthers i_overTwo i_first i_size i_place i_whole) H := hP
  have hD : va_D A (uX7_readForm cI cJ a_p1 a_p1_codes i_p1_size g_p1_codes a_this q1 i_overOthers i_overTwo i_first i_size i_place i_whole) := hD
  refine lv_aload_n hx hb dX7_readForm_9 rfl (lv_at hl 0 rfl) ?_
  refine va_get (D := D) (ci := 7) (v := .int q1) (C := RX7) (T := TX7) (N := 7) hx hb hts jX7_readForm_X7 hown hK hP 2 rfl rfl 0 (by decide) (hts _ qX7_readForm_42) (fun _ h9 => h9) rfl dX7_readForm_10 ?_
  refine lv_bipush (v := 114) hx hb dX7_readForm_13 (by decide) ?_
  refine lv_icmp_eq (tgt := 36) hx hb dX7_readForm_15 (by decide) (fun hc => ?_) (fun hc => ?_)
  · have hf := if_yes hc hf
    refine lv_aload_n hx hb dX7_readForm_36 rfl (lv_at hl 0 rfl) ?_
    refine lv_iconst (v := 1) hx hb dX7_readForm_37 (by decide) ?_
    refine va_put (D := D) (ci := 7) (v := .int 1) (ty := tyX7 5) (C := RX7) (T := TX7) (N := 7) hx hb hts jX7_readForm_X7 tyX7 tyX7_ok nmX7 hown hK hP hD hS 2 rfl rfl 5 (by decide) (hts _ qX7_readForm_22) (fun _ h9 => h9) rfl (tyX7_ok 5 (by decide)) rfl rfl (Nat.le_of_ble_eq_true rfl) dX7_readForm_38 (fun H locs hP hD hS => ?_)
    have hP : va_P D vwCl (uX7_readForm cI cJ a_p1 a_p1_codes i_p1_size g_p1_codes a_this q1 i_overOthers i_overTwo i_first i_size 1 i_whole) H := hP
    have hD : va_D A (uX7_readForm cI cJ a_p1 a_p1_codes i_p1_size g_p1_codes a_this q1 i_overOthers i_overTwo i_first i_size 1 i_whole) := hD
    have ho := Option.some.inj hf
    subst ho
    exact hrt H locs ls _ hP hD hS dX7_readForm_41
  · have hf := if_no hc hf
    refine lv_aload_n hx hb dX7_readForm_18 rfl (lv_at hl 0 rfl) ?_
    refine va_get (D := D) (ci := 7) (v := .int q1) (C := RX7) (T := TX7) (N := 7) hx hb hts jX7_readForm_X7 hown hK hP 2 rfl rfl 0 (by decide) (hts _ qX7_readForm_42) (fun _ h9 => h9) rfl dX7_readForm_19 ?_
    refine lv_bipush (v := 119) hx hb dX7_readForm_22 (by decide) ?_
    refine lv_icmp_eq (tgt := 36) hx hb dX7_readForm_24 (by decide) (fun hc => ?_) (fun hc => ?_)
    · have hf := if_yes hc hf
      refine lv_aload_n hx hb dX7_readForm_36 rfl (lv_at hl 0 rfl) ?_
      refine lv_iconst (v := 1) hx hb dX7_readForm_37 (by decide) ?_
      refine va_put (D := D) (ci := 7) (v := .int 1) (ty := tyX7 5) (C := RX7) (T := TX7) (N := 7) hx hb hts jX7_readForm_X7 tyX7 tyX7_ok nmX7 hown hK hP hD hS 2 rfl rfl 5 (by decide) (hts _ qX7_readForm_22) (fun _ h9 => h9) rfl (tyX7_ok 5 (by decide)) rfl rfl (Nat.le_of_ble_eq_true rfl) dX7_readForm_38 (fun H locs hP hD hS => ?_)
      have hP : va_P D vwCl (uX7_readForm cI cJ a_p1 a_p1_codes i_p1_size g_p1_codes a_this q1 i_overOthers i_overTwo i_first i_size 1 i_whole) H := hP
      have hD : va_D A (uX7_readForm cI cJ a_p1 a_p1_codes i_p1_size g_p1_codes a_this q1 i_overOthers i_overTwo i_first i_size 1 i_whole) := hD
      have ho := Option.some.inj hf
      subst ho
      exact hrt H locs ls _ hP hD hS dX7_readForm_41
    · have hf := if_no hc hf
      refine lv_aload_n hx hb dX7_readForm_27 rfl (lv_at hl 0 rfl) ?_
      refine va_get (D := D) (ci := 7) (v := .int q1) (C := RX7) (T := TX7) (N := 7) hx hb hts jX7_readForm_X7 hown hK hP 2 rfl rfl 0 (by decide) (hts _ qX7_readForm_42) (fun _ h9 => h9) rfl dX7_readForm_28 ?_
      refine lv_bipush (v := 116) hx hb dX7_readForm_31 (by decide) ?_
      refine lv_icmp_ne (tgt := 41) hx hb dX7_readForm_33 (by decide) (fun hc => ?_) (fun hc => ?_)
      · have hf := if_no hc hf
        have ho := Option.some.inj hf
        subst ho
        exact hrt H locs ls _ hP hD hS dX7_readForm_41
      · have hf := if_yes hc hf
        refine lv_aload_n hx hb dX7_readForm_36 rfl (lv_at hl 0 rfl) ?_
        refine lv_iconst (v := 1) hx hb dX7_readForm_37 (by decide) ?_
        refine va_put (D := D) (ci := 7) (v := .int 1) (ty := tyX7 5) (C := RX7) (T := TX7) (N := 7) hx hb hts jX7_readForm_X7 tyX7 tyX7_ok nmX7 hown hK hP hD hS 2 rfl rfl 5 (by decide) (hts _ qX7_readForm_22) (fun _ h9 => h9) rfl (tyX7_ok 5 (by decide)) rfl rfl (Nat.le_of_ble_eq_true rfl) dX7_readForm_38 (fun H locs hP hD hS => ?_)
        have hP : va_P D vwCl (uX7_readForm cI cJ a_p1 a_p1_codes i_p1_size g_p1_codes a_this q1 i_overOthers i_overTwo i_first i_size 1 i_whole) H := hP
        have hD : va_D A (uX7_readForm cI cJ a_p1 a_p1_codes i_p1_size g_p1_codes a_this q1 i_overOthers i_overTwo i_first i_size 1 i_whole) := hD
        have ho := Option.some.inj hf
        subst ho
        exact hrt H locs ls _ hP hD hS dX7_readForm_41
set_option maxHeartbeats 4000000 in
set_option maxRecDepth 100000 in
theorem mX7_readForm (l : Launch) (D : va_G) (cI cJ : ClassId) (sz : Nat) {a_p1 : Nat} {a_p1_codes : Nat} {i_p1_size : Int32} {g_p1_codes : Nat → Int32} {a_this : Nat} {i_form : Int32} {i_overOthers : Int32} {i_overTwo : Int32} {i_first : Int32} {i_size : Int32} {i_place : Int32} {i_whole : Int32} {z : Nat} {o : Int32 × Int32} (hf : fX7_readForm z i_p1_size g_p1_codes i_form i_place = some o) : Met l yX7_readForm wsX7_readForm rX7_readForm (va_Pc [.ref a_this, .ref a_p1] (kP D cI cJ (uX7_readForm cI cJ a_p1 a_p1_codes i_p1_size g_p1_codes a_this i_form i_overOthers i_overTwo i_first i_size i_place i_whole) sz)) (va_Qv (fun (_ : Unit) => True) (fun _ t => kB D (va_A (uX7_readForm cI cJ a_p1 a_p1_codes i_p1_size g_p1_codes a_this i_form i_overOthers i_overTwo i_first i_size i_place i_whole) sz) (uX7_readForm cI cJ a_p1 a_p1_codes i_p1_size g_p1_codes a_this o.1 i_overOthers i_overTwo i_first i_size o.2 i_whole) t) (va_A (uX7_readForm cI cJ a_p1 a_p1_codes i_p1_size g_p1_codes a_this i_form i_overOthers i_overTwo i_first i_size i_place i_whole) sz)) 0 0 (va_A (uX7_readForm cI cJ a_p1 a_p1_codes i_p1_size g_p1_codes a_this i_form i_overOthers i_overTwo i_first i_size i_place i_whole) sz) :=
  met_v (by decide) rfl (Nat.le_of_ble_eq_true rfl) (fun p e s m below meth c A Q C hrt ls hl hP hD hS => kX7_readForm_0 (A := A) C hf hrt hP hD hS hl)

/-! ===== FrogsOnRing$Reading.takes(LFrogsOnRing$Page;I)Z ===== -/
abbrev uX7_takes (cI cJ : ClassId) (a_this : Nat) (i_form : Int32) (i_overOthers : Int32) (i_overTwo : Int32) (i_first : Int32) (i_size : Int32) (i_place : Int32) (i_whole : Int32) (a_p1 : Nat) (a_p1_codes : Nat) (i_p1_size : Int32) (g_p1_codes : Nat → Int32) : va_W := [(a_this, .inr (7, [.int i_form, .int i_overOthers, .int i_overTwo, .int i_first, .int i_size, .int i_place, .int i_whole])), (a_p1, .inr (5, [.ref a_p1_codes, .int i_p1_size])), (a_p1_codes, .inl (cI, 24, .inl g_p1_codes))]
def rX7_takes : Room := { frames := 1, cells := 0, slots := 0, locals := 21 }
theorem hdX7_takes : yX7_takes.cls = RX7 ∧ yX7_takes.cls ≠ "java/lang/invoke/MethodHandle" ∧ yX7_takes.cls ≠ "java/lang/invoke/VarHandle" ∧ (parseMethodDescriptor yX7_takes.desc).map (fun d => d.parameters.length) = some 2 := by decide +kernel
set_option maxRecDepth 20000 in
theorem jX7_takes_X7 : ∀ w ∈ u_ws RX7 TX7 7, w ∈ wsX7_takes := by decide +kernel
set_option maxRecDepth 20000 in
theorem qX7_takes_22 : Cond.fieldLink RX7 22 "FrogsOnRing$Reading" "place" "I" ∈ wsX7_takes := by decide +kernel
set_option maxHeartbeats 4000000 in
set_option maxRecDepth 100000 in
theorem kX7_takes_0 {p : Program} {l : Launch} {e : Env} {s : State} {m : MethodId} {args : Array Value} {below : List Frame} {meth : Method} {c : Code} {Q : State → Prop} {A : Nat → Prop} {D : va_G} {cI cJ : ClassId} (C : bC cX7_takes 3 RX7 wsX7_takes D cI cJ p s m args c meth A)
    {a_this : Nat} {i_form : Int32} {i_overOthers : Int32} {i_overTwo : Int32} {i_first : Int32} {i_size : Int32} {i_place : Int32} {i_whole : Int32} {a_p1 : Nat} {a_p1_codes : Nat} {i_p1_size : Int32} {g_p1_codes : Nat → Int32} {z : Nat} {x2 : Int32} {o : Int32 × Int32} (hf : fX7_takes z x2 i_place i_p1_size g_p1_codes = some o)
    (hrt : ∀ (H : Heap) (locs : List Loc) (ls : Array Slot) (pc : Nat), (o.1 = 0 ∨ o.1 = 1) → va_P D vwCl (uX7_takes cI cJ a_this i_form i_overOthers i_overTwo i_first i_size o.2 i_whole a_p1 a_p1_codes i_p1_size g_p1_codes) H → va_D A (uX7_takes cI cJ a_this i_form i_overOthers i_overTwo i_first i_size o.2 i_whole a_p1 a_p1_codes i_p1_size g_p1_codes) → va_S A s.heap H locs → decode cX7_takes pc = .ok (.ireturn, 1) → W p l e rX7_takes s m args below meth c H locs 0 0 Q (F0 m pc ls [.int o.1]))
    {H : Heap} {locs : List Loc} {ls : Array Slot} (hP : va_P D vwCl (uX7_takes cI cJ a_this i_form i_overOthers i_overTwo i_first i_size i_place i_whole a_p1 a_p1_codes i_p1_size g_p1_codes) H) (hD : va_D A (uX7_takes cI cJ a_this i_form i_overOthers i_overTwo i_first i_size i_place i_whole a_p1 a_p1_codes i_p1_size g_p1_codes)) (hS : va_S A s.heap H locs) (hl : lv_has ls 3 [(0, .ref a_this), (1, .ref a_p1), (2, .int x2)]) : W p l e rX7_takes s m args below meth c H locs 0 0 Q (F0 m 0 ls []) := by
  obtain ⟨hx, hb, hml, hown, hts, hK, hN, hA, hlocks⟩ := id C
  unfold fX7_takes at hf
  refine lv_aload_n hx hb dX7_takes_0 rfl (lv_at hl 1 rfl) ?_
  refine lv_aload_n hx hb dX7_takes_1 rfl (lv_at hl 0 rfl) ?_
  refine va_get (D := D) (ci := 7) (v := .int i_place) (C := RX7) (T := TX7) (N := 7) hx hb hts jX7_takes_X7 hown hK hP 0 rfl rfl 5 (by decide) (hts _ qX7_takes_22) (fun _ h9 => h9) rfl dX7_takes_2 ?_
  obtain ⟨q1, hq, hf⟩ := ob_some hf
  refine cl_i (wc := (uX5_letterAt cI cJ a_p1 a_p1_codes i_p1_size g_p1_codes)) (w1 := (uX5_letterAt cI cJ a_p1 a_p1_codes i_p1_size g_p1_codes)) (rn_V (As := [.int i_place]) (b := a_p1) (rest := []) (wc := (uX5_letterAt cI cJ a_p1 a_p1_codes i_p1_size g_p1_codes)) (ci := 5) (q0 := 1) C hP hD [1, 2] rfl rfl rfl rfl (mX5_letterAt l D cI cJ H.size hq) 1 gX7_takes_X5_letterAt rfl ⟨rfl, rfl, Nat.le_of_ble_eq_true rfl, Nat.le_of_ble_eq_true rfl⟩ hdX5_letterAt rfl hl.1 rfl (Nat.le_of_ble_eq_true rfl) dX7_takes_5) hP hD hS hA [1, 2] rfl rfl (fun H locs hP hD hS => ?_)
  have hP : va_P D vwCl (uX7_takes cI cJ a_this i_form i_overOthers i_overTwo i_first i_size i_place i_whole a_p1 a_p1_codes i_p1_size g_p1_codes) H := hP
  have hD : va_D A (uX7_takes cI cJ a_this i_form i_overOthers i_overTwo i_first i_size i_place i_whole a_p1 a_p1_codes i_p1_size g_p1_codes) := hD
  refine lv_iload_n hx hb dX7_takes_8 rfl (lv_at hl 2 rfl) ?_
  refine lv_icmp_eq (tgt := 14) hx hb dX7_takes_9 (by decide) (fun hc => ?_) (fun hc => ?_)
  · have hf := if_yes hc hf
    refine lv_aload_n hx hb dX7_takes_14 rfl (lv_at hl 0 rfl) ?_
    refine lv_dup hx hb dX7_takes_15 rfl ?_
    refine va_get (D := D) (ci := 7) (v := .int i_place) (C := RX7) (T := TX7) (N := 7) hx hb hts jX7_takes_X7 hown hK hP 0 rfl rfl 5 (by decide) (hts _ qX7_takes_22) (fun _ h9 => h9) rfl dX7_takes_16 ?_
    refine lv_iconst (v := 1) hx hb dX7_takes_19 (by decide) ?_
    refine lv_iadd hx hb dX7_takes_20 ?_
    refine va_put (D := D) (ci := 7) (v := .int (i_place + 1)) (ty := tyX7 5) (C := RX7) (T := TX7) (N := 7) hx hb hts jX7_takes_X7 tyX7 tyX7_ok nmX7 hown hK hP hD hS 0 rfl rfl 5 (by decide) (hts _ qX7_takes_22) (fun _ h9 => h9) rfl (tyX7_ok 5 (by decide)) rfl rfl (Nat.le_of_ble_eq_true rfl) dX7_takes_21 (fun H locs hP hD hS => ?_)
    have hP : va_P D vwCl (uX7_takes cI cJ a_this i_form i_overOthers i_overTwo i_first i_size (i_place + 1) i_whole a_p1 a_p1_codes i_p1_size g_p1_codes) H := hP
    have hD : va_D A (uX7_takes cI cJ a_this i_form i_overOthers i_overTwo i_first i_size (i_place + 1) i_whole a_p1 a_p1_codes i_p1_size g_p1_codes) := hD
    refine lv_iconst (v := 1) hx hb dX7_takes_24 (by decide) ?_
    have ho := Option.some.inj hf
    subst ho
    exact hrt H locs ls _ (Or.inr rfl) hP hD hS dX7_takes_25
  · have hf := if_no hc hf
    refine lv_iconst (v := 0) hx hb dX7_takes_12 (by decide) ?_
    have ho := Option.some.inj hf
    subst ho
    exact hrt H locs ls _ (Or.inl rfl) hP hD hS dX7_takes_13
set_option maxHeartbeats 4000000 in
set_option maxRecDepth 100000 in
theorem mX7_takes (l : Launch) (D : va_G) (cI cJ : ClassId) (sz : Nat) {a_this : Nat} {i_form : Int32} {i_overOthers : Int32} {i_overTwo : Int32} {i_first : Int32} {i_size : Int32} {i_place : Int32} {i_whole : Int32} {a_p1 : Nat} {a_p1_codes : Nat} {i_p1_size : Int32} {g_p1_codes : Nat → Int32} {z : Nat} {x2 : Int32} {o : Int32 × Int32} (hf : fX7_takes z x2 i_place i_p1_size g_p1_codes = some o) : Met l yX7_takes wsX7_takes rX7_takes (va_Pc [.ref a_this, .ref a_p1, .int x2] (kP D cI cJ (uX7_takes cI cJ a_this i_form i_overOthers i_overTwo i_first i_size i_place i_whole a_p1 a_p1_codes i_p1_size g_p1_codes) sz)) (va_Qi (fun r' (_ : Unit) => r' = o.1) (fun _ t => kB D (va_A (uX7_takes cI cJ a_this i_form i_overOthers i_overTwo i_first i_size i_place i_whole a_p1 a_p1_codes i_p1_size g_p1_codes) sz) (uX7_takes cI cJ a_this i_form i_overOthers i_overTwo i_first i_size o.2 i_whole a_p1 a_p1_codes i_p1_size g_p1_codes) t) (va_A (uX7_takes cI cJ a_this i_form i_overOthers i_overTwo i_first i_size i_place i_whole a_p1 a_p1_codes i_p1_size g_p1_codes) sz)) 0 0 (va_A (uX7_takes cI cJ a_this i_form i_overOthers i_overTwo i_first i_size i_place i_whole a_p1 a_p1_codes i_p1_size g_p1_codes) sz) :=
  met_z (by decide) rfl (Nat.le_of_ble_eq_true rfl) (fun p e s m below meth c A Q C hrt ls hl hP hD hS => kX7_takes_0 (A := A) C hf hrt hP hD hS hl)

/-! ===== FrogsOnRing$Reading.readStones(LFrogsOnRing$Page;)V ===== -/
abbrev uX7_readStones (cI cJ : ClassId) (a_this : Nat) (i_form : Int32) (i_overOthers : Int32) (i_overTwo : Int32) (i_first : Int32) (i_size : Int32) (i_place : Int32) (i_whole : Int32) (a_p1 : Nat) (a_p1_codes : Nat) (i_p1_size : Int32) (g_p1_codes : Nat → Int32) : va_W := [(a_this, .inr (7, [.int i_form, .int i_overOthers, .int i_overTwo, .int i_first, .int i_size, .int i_place, .int i_whole])), (a_p1, .inr (5, [.ref a_p1_codes, .int i_p1_size])), (a_p1_codes, .inl (cI, 24, .inl g_p1_codes))]
def rX7_readStones : Room := { frames := 1, cells := 0, slots := 0, locals := 21 }
theorem hdX7_readStones : yX7_readStones.cls = RX7 ∧ yX7_readStones.cls ≠ "java/lang/invoke/MethodHandle" ∧ yX7_readStones.cls ≠ "java/lang/invoke/VarHandle" ∧ (parseMethodDescriptor yX7_readStones.desc).map (fun d => d.parameters.length) = some 1 := by decide +kernel
set_option maxRecDepth 20000 in
theorem jX7_readStones_X7 : ∀ w ∈ u_ws RX7 TX7 7, w ∈ wsX7_readStones := by decide +kernel
set_option maxRecDepth 20000 in
theorem qX7_readStones_15 : Cond.fieldLink RX7 15 "FrogsOnRing$Reading" "first" "I" ∈ wsX7_readStones := by decide +kernel
set_option maxRecDepth 20000 in
theorem qX7_readStones_19 : Cond.fieldLink RX7 19 "FrogsOnRing$Reading" "size" "I" ∈ wsX7_readStones := by decide +kernel
set_option maxRecDepth 20000 in
theorem qX7_readStones_22 : Cond.fieldLink RX7 22 "FrogsOnRing$Reading" "place" "I" ∈ wsX7_readStones := by decide +kernel
set_option maxRecDepth 20000 in
theorem qX7_readStones_iX9_kindOfLetter : Cond.initialized yX9_kindOfLetter.cls ∈ wsX7_readStones := by decide +kernel
set_option maxRecDepth 20000 in
theorem qX7_readStones_sX9_kindOfLetter : Cond.static yX9_kindOfLetter ∈ wsX7_readStones := by decide +kernel
set_option maxHeartbeats 4000000 in
set_option maxRecDepth 100000 in
theorem kX7_readStones_L8 {p : Program} {l : Launch} {e : Env} {s : State} {m : MethodId} {args : Array Value} {below : List Frame} {meth : Method} {c : Code} {Q : State → Prop} {A : Nat → Prop} {D : va_G} {cI cJ : ClassId} (C : bC cX7_readStones 2 RX7 wsX7_readStones D cI cJ p s m args c meth A)
    {a_this : Nat} {i_form : Int32} {i_overOthers : Int32} {i_overTwo : Int32} {i_first : Int32} {i_size : Int32} {i_place : Int32} {i_whole : Int32} {a_p1 : Nat} {a_p1_codes : Nat} {i_p1_size : Int32} {g_p1_codes : Nat → Int32} {z : Nat} {o : (Int32 × Int32) ⊕ (Int32 × Int32)} (hf : fX7_readStones_L8 z i_place i_size i_p1_size g_p1_codes i_first = some o)
    (hbk : ∀ s', o = .inl s' → ∀ (H : Heap) (locs : List Loc) (ls : Array Slot), va_P D vwCl (uX7_readStones cI cJ a_this i_form i_overOthers i_overTwo i_first s'.1 s'.2 i_whole a_p1 a_p1_codes i_p1_size g_p1_codes) H → va_D A (uX7_readStones cI cJ a_this i_form i_overOthers i_overTwo i_first s'.1 s'.2 i_whole a_p1 a_p1_codes i_p1_size g_p1_codes) → va_S A s.heap H locs → lv_has ls 2 [(0, .ref a_this), (1, .ref a_p1)] → W p l e rX7_readStones s m args below meth c H locs 0 0 Q (F0 m 8 ls []))
    (hex : ∀ e', o = .inr e' → ∀ (H : Heap) (locs : List Loc) (ls : Array Slot), va_P D vwCl (uX7_readStones cI cJ a_this i_form i_overOthers i_overTwo i_first e'.1 e'.2 i_whole a_p1 a_p1_codes i_p1_size g_p1_codes) H → va_D A (uX7_readStones cI cJ a_this i_form i_overOthers i_overTwo i_first e'.1 e'.2 i_whole a_p1 a_p1_codes i_p1_size g_p1_codes) → va_S A s.heap H locs → lv_has ls 2 [] → W p l e rX7_readStones s m args below meth c H locs 0 0 Q (F0 m 55 ls []))
    {H : Heap} {locs : List Loc} {ls : Array Slot} (hP : va_P D vwCl (uX7_readStones cI cJ a_this i_form i_overOthers i_overTwo i_first i_size i_place i_whole a_p1 a_p1_codes i_p1_size g_p1_codes) H) (hD : va_D A (uX7_readStones cI cJ a_this i_form i_overOthers i_overTwo i_first i_size i_place i_whole a_p1 a_p1_codes i_p1_size g_p1_codes)) (hS : va_S A s.heap H locs) (hl : lv_has ls 2 [(0, .ref a_this), (1, .ref a_p1)]) : W p l e rX7_readStones s m args below meth c H locs 0 0 Q (F0 m 8 ls []) := by
  obtain ⟨hx, hb, hml, hown, hts, hK, hN, hA, hlocks⟩ := id C
  unfold fX7_readStones_L8 at hf
  refine lv_aload_n hx hb dX7_readStones_8 rfl (lv_at hl 0 rfl) ?_
  refine va_get (D := D) (ci := 7) (v := .int i_size) (C := RX7) (T := TX7) (N := 7) hx hb hts jX7_readStones_X7 hown hK hP 0 rfl rfl 4 (by decide) (hts _ qX7_readStones_19) (fun _ h9 => h9) rfl dX7_readStones_9 ?_
  refine lv_bipush (v := 9) hx hb dX7_readStones_12 (by decide) ?_
  refine lv_icmp_ge (tgt := 55) hx hb dX7_readStones_14 (by decide) (fun hc => ?_) (fun hc => ?_)
  · have hf := if_yes hc hf
    have ho := Option.some.inj hf
    subst ho
    exact hex _ rfl _ _ _ hP hD hS (lv_sub hl [] rfl)
  · have hf := if_no hc hf
    refine lv_aload_n hx hb dX7_readStones_17 rfl (lv_at hl 1 rfl) ?_
    refine lv_aload_n hx hb dX7_readStones_18 rfl (lv_at hl 0 rfl) ?_
    refine va_get (D := D) (ci := 7) (v := .int i_place) (C := RX7) (T := TX7) (N := 7) hx hb hts jX7_readStones_X7 hown hK hP 0 rfl rfl 5 (by decide) (hts _ qX7_readStones_22) (fun _ h9 => h9) rfl dX7_readStones_19 ?_
    obtain ⟨q1, hq, hf⟩ := ob_some hf
    refine cl_i (wc := (uX5_letterAt cI cJ a_p1 a_p1_codes i_p1_size g_p1_codes)) (w1 := (uX5_letterAt cI cJ a_p1 a_p1_codes i_p1_size g_p1_codes)) (rn_V (As := [.int i_place]) (b := a_p1) (rest := []) (wc := (uX5_letterAt cI cJ a_p1 a_p1_codes i_p1_size g_p1_codes)) (ci := 5) (q0 := 1) C hP hD [1, 2] rfl rfl rfl rfl (mX5_letterAt l D cI cJ H.size hq) 1 gX7_readStones_X5_letterAt rfl ⟨rfl, rfl, Nat.le_of_ble_eq_true rfl, Nat.le_of_ble_eq_true rfl⟩ hdX5_letterAt rfl hl.1 rfl (Nat.le_of_ble_eq_true rfl) dX7_readStones_22) hP hD hS hA [1, 2] rfl rfl (fun H locs hP hD hS => ?_)
    have hP : va_P D vwCl (uX7_readStones cI cJ a_this i_form i_overOthers i_overTwo i_first i_size i_place i_whole a_p1 a_p1_codes i_p1_size g_p1_codes) H := hP
    have hD : va_D A (uX7_readStones cI cJ a_this i_form i_overOthers i_overTwo i_first i_size i_place i_whole a_p1 a_p1_codes i_p1_size g_p1_codes) := hD
    refine cl_i (wc := (uX9_kindOfLetter cI cJ)) (w1 := (uX9_kindOfLetter cI cJ)) (rn_N (As := [.int q1]) (rest := []) (wc := (uX9_kindOfLetter cI cJ)) C hP hD [] rfl rfl (mX9_kindOfLetter l D cI cJ H.size) 1 gX7_readStones_X9_kindOfLetter_n56 qX7_readStones_iX9_kindOfLetter qX7_readStones_sX9_kindOfLetter 5 rfl rfl ⟨rfl, rfl, Nat.le_of_ble_eq_true rfl, Nat.le_of_ble_eq_true rfl⟩ hdX9_kindOfLetter.2 rfl hl.1 rfl (Nat.le_of_ble_eq_true rfl) dX7_readStones_25) hP hD hS hA [] rfl rfl (fun H locs hP hD hS => ?_)
    have hP : va_P D vwCl (uX7_readStones cI cJ a_this i_form i_overOthers i_overTwo i_first i_size i_place i_whole a_p1 a_p1_codes i_p1_size g_p1_codes) H := hP
    have hD : va_D A (uX7_readStones cI cJ a_this i_form i_overOthers i_overTwo i_first i_size i_place i_whole a_p1 a_p1_codes i_p1_size g_p1_codes) := hD
    refine lv_iconst (v := (-1)) hx hb dX7_readStones_28 (by decide) ?_
    refine lv_icmp_eq (tgt := 55) hx hb dX7_readStones_29 (by decide) (fun hc => ?_) (fun hc => ?_)
    · have hf := if_yes hc hf
      have ho := Option.some.inj hf
      subst ho
      exact hex _ rfl _ _ _ hP hD hS (lv_sub hl [] rfl)
    · have hf := if_no hc hf
      refine lv_aload_n hx hb dX7_readStones_32 rfl (lv_at hl 0 rfl) ?_
      refine lv_dup hx hb dX7_readStones_33 rfl ?_
      refine va_get (D := D) (ci := 7) (v := .int i_size) (C := RX7) (T := TX7) (N := 7) hx hb hts jX7_readStones_X7 hown hK hP 0 rfl rfl 4 (by decide) (hts _ qX7_readStones_19) (fun _ h9 => h9) rfl dX7_readStones_34 ?_
      refine lv_iconst (v := 1) hx hb dX7_readStones_37 (by decide) ?_
      refine lv_iadd hx hb dX7_readStones_38 ?_
      refine va_put (D := D) (ci := 7) (v := .int (i_size + 1)) (ty := tyX7 4) (C := RX7) (T := TX7) (N := 7) hx hb hts jX7_readStones_X7 tyX7 tyX7_ok nmX7 hown hK hP hD hS 0 rfl rfl 4 (by decide) (hts _ qX7_readStones_19) (fun _ h9 => h9) rfl (tyX7_ok 4 (by decide)) rfl rfl (Nat.le_of_ble_eq_true rfl) dX7_readStones_39 (fun H locs hP hD hS => ?_)
      have hP : va_P D vwCl (uX7_readStones cI cJ a_this i_form i_overOthers i_overTwo i_first (i_size + 1) i_place i_whole a_p1 a_p1_codes i_p1_size g_p1_codes) H := hP
      have hD : va_D A (uX7_readStones cI cJ a_this i_form i_overOthers i_overTwo i_first (i_size + 1) i_place i_whole a_p1 a_p1_codes i_p1_size g_p1_codes) := hD
      refine lv_aload_n hx hb dX7_readStones_42 rfl (lv_at hl 0 rfl) ?_
      refine lv_dup hx hb dX7_readStones_43 rfl ?_
      refine va_get (D := D) (ci := 7) (v := .int i_place) (C := RX7) (T := TX7) (N := 7) hx hb hts jX7_readStones_X7 hown hK hP 0 rfl rfl 5 (by decide) (hts _ qX7_readStones_22) (fun _ h9 => h9) rfl dX7_readStones_44 ?_
      refine lv_iconst (v := 1) hx hb dX7_readStones_47 (by decide) ?_
      refine lv_iadd hx hb dX7_readStones_48 ?_
      refine va_put (D := D) (ci := 7) (v := .int (i_place + 1)) (ty := tyX7 5) (C := RX7) (T := TX7) (N := 7) hx hb hts jX7_readStones_X7 tyX7 tyX7_ok nmX7 hown hK hP hD hS 0 rfl rfl 5 (by decide) (hts _ qX7_readStones_22) (fun _ h9 => h9) rfl (tyX7_ok 5 (by decide)) rfl rfl (Nat.le_of_ble_eq_true rfl) dX7_readStones_49 (fun H locs hP hD hS => ?_)
      have hP : va_P D vwCl (uX7_readStones cI cJ a_this i_form i_overOthers i_overTwo i_first (i_size + 1) (i_place + 1) i_whole a_p1 a_p1_codes i_p1_size g_p1_codes) H := hP
      have hD : va_D A (uX7_readStones cI cJ a_this i_form i_overOthers i_overTwo i_first (i_size + 1) (i_place + 1) i_whole a_p1 a_p1_codes i_p1_size g_p1_codes) := hD
      refine lv_goto (tgt := 8) hx hb dX7_readStones_52 (by decide) ?_
      have ho := Option.some.inj hf
      subst ho
      exact hbk _ rfl _ _ _ hP hD hS (lv_sub hl [0, 1] rfl)
set_option maxHeartbeats 4000000 in
set_option maxRecDepth 100000 in
theorem kX7_readStones_J55 {p : Program} {l : Launch} {e : Env} {s : State} {m : MethodId} {args : Array Value} {below : List Frame} {meth : Method} {c : Code} {Q : State → Prop} {A : Nat → Prop} {D : va_G} {cI cJ : ClassId} (C : bC cX7_readStones 2 RX7 wsX7_readStones D cI cJ p s m args c meth A)
    {a_this : Nat} {i_form : Int32} {i_overOthers : Int32} {i_overTwo : Int32} {i_first : Int32} {i_size : Int32} {i_place : Int32} {i_whole : Int32} {a_p1 : Nat} {a_p1_codes : Nat} {i_p1_size : Int32} {g_p1_codes : Nat → Int32} {z : Nat} {o : Int32 × Int32 × Int32} (hf : fX7_readStones_J55 z i_place i_size i_p1_size g_p1_codes i_first = some o)
    (hrt : ∀ (H : Heap) (locs : List Loc) (ls : Array Slot) (pc : Nat), va_P D vwCl (uX7_readStones cI cJ a_this i_form i_overOthers i_overTwo o.1 o.2.1 o.2.2 i_whole a_p1 a_p1_codes i_p1_size g_p1_codes) H → va_D A (uX7_readStones cI cJ a_this i_form i_overOthers i_overTwo o.1 o.2.1 o.2.2 i_whole a_p1 a_p1_codes i_p1_size g_p1_codes) → va_S A s.heap H locs → decode cX7_readStones pc = .ok (.return_, 1) → W p l e rX7_readStones s m args below meth c H locs 0 0 Q (F0 m pc ls []))
    {H : Heap} {locs : List Loc} {ls : Array Slot} (hP : va_P D vwCl (uX7_readStones cI cJ a_this i_form i_overOthers i_overTwo i_first i_size i_place i_whole a_p1 a_p1_codes i_p1_size g_p1_codes) H) (hD : va_D A (uX7_readStones cI cJ a_this i_form i_overOthers i_overTwo i_first i_size i_place i_whole a_p1 a_p1_codes i_p1_size g_p1_codes)) (hS : va_S A s.heap H locs) (hl : lv_has ls 2 []) : W p l e rX7_readStones s m args below meth c H locs 0 0 Q (F0 m 55 ls []) := by
  obtain ⟨hx, hb, hml, hown, hts, hK, hN, hA, hlocks⟩ := id C
  unfold fX7_readStones_J55 at hf
  have ho := Option.some.inj hf
  subst ho
  exact hrt H locs ls _ hP hD hS dX7_readStones_55
set_option maxHeartbeats 4000000 in
set_option maxRecDepth 100000 in
theorem kX7_readStones_0 {p : Program} {l : Launch} {e : Env} {s : State} {m : MethodId} {args : Array Value} {below : List Frame} {meth : Method} {c : Code} {Q : State → Prop} {A : Nat → Prop} {D : va_G} {cI cJ : ClassId} (C : bC cX7_readStones 2 RX7 wsX7_readStones D cI cJ p s m args c meth A)
    {a_this : Nat} {i_form : Int32} {i_overOthers : Int32} {i_overTwo : Int32} {i_first : Int32} {i_size : Int32} {i_place : Int32} {i_whole : Int32} {a_p1 : Nat} {a_p1_codes : Nat} {i_p1_size : Int32} {g_p1_codes : Nat → Int32} {z : Nat} {o : Int32 × Int32 × Int32} (hf : fX7_readStones z i_place i_size i_p1_size g_p1_codes i_first = some o)
    (hrt : ∀ (H : Heap) (locs : List Loc) (ls : Array Slot) (pc : Nat), va_P D vwCl (uX7_readStones cI cJ a_this i_form i_overOthers i_overTwo o.1 o.2.1 o.2.2 i_whole a_p1 a_p1_codes i_p1_size g_p1_codes) H → va_D A (uX7_readStones cI cJ a_this i_form i_overOthers i_overTwo o.1 o.2.1 o.2.2 i_whole a_p1 a_p1_codes i_p1_size g_p1_codes) → va_S A s.heap H locs → decode cX7_readStones pc = .ok (.return_, 1) → W p l e rX7_readStones s m args below meth c H locs 0 0 Q (F0 m pc ls []))
    {H : Heap} {locs : List Loc} {ls : Array Slot} (hP : va_P D vwCl (uX7_readStones cI cJ a_this i_form i_overOthers i_overTwo i_first i_size i_place i_whole a_p1 a_p1_codes i_p1_size g_p1_codes) H) (hD : va_D A (uX7_readStones cI cJ a_this i_form i_overOthers i_overTwo i_first i_size i_place i_whole a_p1 a_p1_codes i_p1_size g_p1_codes)) (hS : va_S A s.heap H locs) (hl : lv_has ls 2 [(0, .ref a_this), (1, .ref a_p1)]) : W p l e rX7_readStones s m args below meth c H locs 0 0 Q (F0 m 0 ls []) := by
  obtain ⟨hx, hb, hml, hown, hts, hK, hN, hA, hlocks⟩ := id C
  unfold fX7_readStones at hf
  refine lv_aload_n hx hb dX7_readStones_0 rfl (lv_at hl 0 rfl) ?_
  refine lv_aload_n hx hb dX7_readStones_1 rfl (lv_at hl 0 rfl) ?_
  refine va_get (D := D) (ci := 7) (v := .int i_place) (C := RX7) (T := TX7) (N := 7) hx hb hts jX7_readStones_X7 hown hK hP 0 rfl rfl 5 (by decide) (hts _ qX7_readStones_22) (fun _ h9 => h9) rfl dX7_readStones_2 ?_
  refine va_put (D := D) (ci := 7) (v := .int i_place) (ty := tyX7 3) (C := RX7) (T := TX7) (N := 7) hx hb hts jX7_readStones_X7 tyX7 tyX7_ok nmX7 hown hK hP hD hS 0 rfl rfl 3 (by decide) (hts _ qX7_readStones_15) (fun _ h9 => h9) rfl (tyX7_ok 3 (by decide)) rfl rfl (Nat.le_of_ble_eq_true rfl) dX7_readStones_5 (fun H locs hP hD hS => ?_)
  have hP : va_P D vwCl (uX7_readStones cI cJ a_this i_form i_overOthers i_overTwo i_place i_size i_place i_whole a_p1 a_p1_codes i_p1_size g_p1_codes) H := hP
  have hD : va_D A (uX7_readStones cI cJ a_this i_form i_overOthers i_overTwo i_place i_size i_place i_whole a_p1 a_p1_codes i_p1_size g_p1_codes) := hD
  obtain ⟨ex, hlp, hf⟩ := ob_some hf
  refine lp_ind (P := fun sg => ∀ (H : Heap) (locs : List Loc) (ls : Array Slot), va_P D vwCl (uX7_readStones cI cJ a_this i_form i_overOthers i_overTwo i_place sg.1 sg.2 i_whole a_p1 a_p1_codes i_p1_size g_p1_codes) H → va_D A (uX7_readStones cI cJ a_this i_form i_overOthers i_overTwo i_place sg.1 sg.2 i_whole a_p1 a_p1_codes i_p1_size g_p1_codes) → va_S A s.heap H locs → lv_has ls 2 [(0, .ref a_this), (1, .ref a_p1)] → W p l e rX7_readStones s m args below meth c H locs 0 0 Q (F0 m 8 ls [])) ?_ z _ hlp H locs ls hP hD hS (lv_sub hl [0, 1] rfl)
  intro sg og hbo hback hexit H locs ls hP hD hS hl
  refine kX7_readStones_L8 C hbo (fun s' h => hback s' h) (fun ex h H locs ls hP hD hS hl => ?_) hP hD hS hl
  have he := hexit _ h
  subst he
  exact kX7_readStones_J55 C hf hrt hP hD hS (lv_sub hl [] rfl)
set_option maxHeartbeats 4000000 in
set_option maxRecDepth 100000 in
theorem mX7_readStones (l : Launch) (D : va_G) (cI cJ : ClassId) (sz : Nat) {a_this : Nat} {i_form : Int32} {i_overOthers : Int32} {i_overTwo : Int32} {i_first : Int32} {i_size : Int32} {i_place : Int32} {i_whole : Int32} {a_p1 : Nat} {a_p1_codes : Nat} {i_p1_size : Int32} {g_p1_codes : Nat → Int32} {z : Nat} {o : Int32 × Int32 × Int32} (hf : fX7_readStones z i_place i_size i_p1_size g_p1_codes i_first = some o) : Met l yX7_readStones wsX7_readStones rX7_readStones (va_Pc [.ref a_this, .ref a_p1] (kP D cI cJ (uX7_readStones cI cJ a_this i_form i_overOthers i_overTwo i_first i_size i_place i_whole a_p1 a_p1_codes i_p1_size g_p1_codes) sz)) (va_Qv (fun (_ : Unit) => True) (fun _ t => kB D (va_A (uX7_readStones cI cJ a_this i_form i_overOthers i_overTwo i_first i_size i_place i_whole a_p1 a_p1_codes i_p1_size g_p1_codes) sz) (uX7_readStones cI cJ a_this i_form i_overOthers i_overTwo o.1 o.2.1 o.2.2 i_whole a_p1 a_p1_codes i_p1_size g_p1_codes) t) (va_A (uX7_readStones cI cJ a_this i_form i_overOthers i_overTwo i_first i_size i_place i_whole a_p1 a_p1_codes i_p1_size g_p1_codes) sz)) 0 0 (va_A (uX7_readStones cI cJ a_this i_form i_overOthers i_overTwo i_first i_size i_place i_whole a_p1 a_p1_codes i_p1_size g_p1_codes) sz) :=
  met_v (by decide) rfl (Nat.le_of_ble_eq_true rfl) (fun p e s m below meth c A Q C hrt ls hl hP hD hS => kX7_readStones_0 (A := A) C hf hrt hP hD hS hl)

/-! ===== FrogsOnRing$Reading.readParents(LFrogsOnRing$Page;)Z ===== -/
abbrev uX7_readParents (cI cJ : ClassId) (a_this : Nat) (i_form : Int32) (i_overOthers : Int32) (i_overTwo : Int32) (i_first : Int32) (i_size : Int32) (i_place : Int32) (i_whole : Int32) (a_p1 : Nat) (a_p1_codes : Nat) (i_p1_size : Int32) (g_p1_codes : Nat → Int32) : va_W := [(a_this, .inr (7, [.int i_form, .int i_overOthers, .int i_overTwo, .int i_first, .int i_size, .int i_place, .int i_whole])), (a_p1, .inr (5, [.ref a_p1_codes, .int i_p1_size])), (a_p1_codes, .inl (cI, 24, .inl g_p1_codes))]
def rX7_readParents : Room := { frames := 2, cells := 0, slots := 0, locals := 43 }
theorem hdX7_readParents : yX7_readParents.cls = RX7 ∧ yX7_readParents.cls ≠ "java/lang/invoke/MethodHandle" ∧ yX7_readParents.cls ≠ "java/lang/invoke/VarHandle" ∧ (parseMethodDescriptor yX7_readParents.desc).map (fun d => d.parameters.length) = some 1 := by decide +kernel
set_option maxRecDepth 20000 in
theorem jX7_readParents_X7 : ∀ w ∈ u_ws RX7 TX7 7, w ∈ wsX7_readParents := by decide +kernel
set_option maxRecDepth 20000 in
theorem qX7_readParents_19 : Cond.fieldLink RX7 19 "FrogsOnRing$Reading" "size" "I" ∈ wsX7_readParents := by decide +kernel
set_option maxRecDepth 20000 in
theorem qX7_readParents_22 : Cond.fieldLink RX7 22 "FrogsOnRing$Reading" "place" "I" ∈ wsX7_readParents := by decide +kernel
set_option maxHeartbeats 4000000 in
set_option maxRecDepth 100000 in
theorem kX7_readParents_L14 {p : Program} {l : Launch} {e : Env} {s : State} {m : MethodId} {args : Array Value} {below : List Frame} {meth : Method} {c : Code} {Q : State → Prop} {A : Nat → Prop} {D : va_G} {cI cJ : ClassId} (C : bC cX7_readParents 4 RX7 wsX7_readParents D cI cJ p s m args c meth A)
    {a_this : Nat} {i_form : Int32} {i_overOthers : Int32} {i_overTwo : Int32} {i_first : Int32} {i_size : Int32} {i_place : Int32} {i_whole : Int32} {a_p1 : Nat} {a_p1_codes : Nat} {i_p1_size : Int32} {g_p1_codes : Nat → Int32} {z : Nat} {x2 : Int32} {o : (Int32 × Int32) ⊕ ((Int32) ⊕ (Int32 × Int32))} (hf : fX7_readParents_L14 z x2 i_place i_p1_size g_p1_codes i_size = some o)
    (hbk : ∀ s', o = .inl s' → ∀ (H : Heap) (locs : List Loc) (ls : Array Slot), va_P D vwCl (uX7_readParents cI cJ a_this i_form i_overOthers i_overTwo i_first i_size s'.2 i_whole a_p1 a_p1_codes i_p1_size g_p1_codes) H → va_D A (uX7_readParents cI cJ a_this i_form i_overOthers i_overTwo i_first i_size s'.2 i_whole a_p1 a_p1_codes i_p1_size g_p1_codes) → va_S A s.heap H locs → lv_has ls 4 [(0, .ref a_this), (1, .ref a_p1), (2, .int s'.1)] → W p l e rX7_readParents s m args below meth c H locs 0 0 Q (F0 m 14 ls []))
    (hex : ∀ e', o = .inr (.inl e') → ∀ (H : Heap) (locs : List Loc) (ls : Array Slot), va_P D vwCl (uX7_readParents cI cJ a_this i_form i_overOthers i_overTwo i_first i_size e' i_whole a_p1 a_p1_codes i_p1_size g_p1_codes) H → va_D A (uX7_readParents cI cJ a_this i_form i_overOthers i_overTwo i_first i_size e' i_whole a_p1 a_p1_codes i_p1_size g_p1_codes) → va_S A s.heap H locs → lv_has ls 4 [] → W p l e rX7_readParents s m args below meth c H locs 0 0 Q (F0 m 61 ls []))
    (hrt : ∀ r', o = .inr (.inr r') → ∀ (H : Heap) (locs : List Loc) (ls : Array Slot) (pc : Nat), (r'.1 = 0 ∨ r'.1 = 1) → va_P D vwCl (uX7_readParents cI cJ a_this i_form i_overOthers i_overTwo i_first i_size r'.2 i_whole a_p1 a_p1_codes i_p1_size g_p1_codes) H → va_D A (uX7_readParents cI cJ a_this i_form i_overOthers i_overTwo i_first i_size r'.2 i_whole a_p1 a_p1_codes i_p1_size g_p1_codes) → va_S A s.heap H locs → decode cX7_readParents pc = .ok (.ireturn, 1) → W p l e rX7_readParents s m args below meth c H locs 0 0 Q (F0 m pc ls [.int r'.1]))
    {H : Heap} {locs : List Loc} {ls : Array Slot} (hP : va_P D vwCl (uX7_readParents cI cJ a_this i_form i_overOthers i_overTwo i_first i_size i_place i_whole a_p1 a_p1_codes i_p1_size g_p1_codes) H) (hD : va_D A (uX7_readParents cI cJ a_this i_form i_overOthers i_overTwo i_first i_size i_place i_whole a_p1 a_p1_codes i_p1_size g_p1_codes)) (hS : va_S A s.heap H locs) (hl : lv_has ls 4 [(0, .ref a_this), (1, .ref a_p1), (2, .int x2)]) : W p l e rX7_readParents s m args below meth c H locs 0 0 Q (F0 m 14 ls []) := by
  obtain ⟨hx, hb, hml, hown, hts, hK, hN, hA, hlocks⟩ := id C
  unfold fX7_readParents_L14 at hf
  refine lv_iload_n hx hb dX7_readParents_14 rfl (lv_at hl 2 rfl) ?_
  refine lv_aload_n hx hb dX7_readParents_15 rfl (lv_at hl 0 rfl) ?_
  refine va_get (D := D) (ci := 7) (v := .int i_size) (C := RX7) (T := TX7) (N := 7) hx hb hts jX7_readParents_X7 hown hK hP 0 rfl rfl 4 (by decide) (hts _ qX7_readParents_19) (fun _ h9 => h9) rfl dX7_readParents_16 ?_
  refine lv_icmp_ge (tgt := 61) hx hb dX7_readParents_19 (by decide) (fun hc => ?_) (fun hc => ?_)
  · have hf := if_yes hc hf
    have ho := Option.some.inj hf
    subst ho
    exact hex _ rfl _ _ _ hP hD hS (lv_sub hl [] rfl)
  · have hf := if_no hc hf
    refine lv_aload_n hx hb dX7_readParents_22 rfl (lv_at hl 1 rfl) ?_
    refine lv_aload_n hx hb dX7_readParents_23 rfl (lv_at hl 0 rfl) ?_
    refine va_get (D := D) (ci := 7) (v := .int i_place) (C := RX7) (T := TX7) (N := 7) hx hb hts jX7_readParents_X7 hown hK hP 0 rfl rfl 5 (by decide) (hts _ qX7_readParents_22) (fun _ h9 => h9) rfl dX7_readParents_24 ?_
    obtain ⟨q2, hq, hf⟩ := ob_some hf
    refine cl_i (wc := (uX5_letterAt cI cJ a_p1 a_p1_codes i_p1_size g_p1_codes)) (w1 := (uX5_letterAt cI cJ a_p1 a_p1_codes i_p1_size g_p1_codes)) (rn_V (As := [.int i_place]) (b := a_p1) (rest := []) (wc := (uX5_letterAt cI cJ a_p1 a_p1_codes i_p1_size g_p1_codes)) (ci := 5) (q0 := 1) C hP hD [1, 2] rfl rfl rfl rfl (mX5_letterAt l D cI cJ H.size hq) 1 gX7_readParents_X5_letterAt rfl ⟨rfl, rfl, Nat.le_of_ble_eq_true rfl, Nat.le_of_ble_eq_true rfl⟩ hdX5_letterAt rfl hl.1 rfl (Nat.le_of_ble_eq_true rfl) dX7_readParents_27) hP hD hS hA [1, 2] rfl rfl (fun H locs hP hD hS => ?_)
    have hP : va_P D vwCl (uX7_readParents cI cJ a_this i_form i_overOthers i_overTwo i_first i_size i_place i_whole a_p1 a_p1_codes i_p1_size g_p1_codes) H := hP
    have hD : va_D A (uX7_readParents cI cJ a_this i_form i_overOthers i_overTwo i_first i_size i_place i_whole a_p1 a_p1_codes i_p1_size g_p1_codes) := hD
    refine lv_bipush (v := 48) hx hb dX7_readParents_30 (by decide) ?_
    refine lv_isub hx hb dX7_readParents_32 ?_
    refine lv_istore_n (lv' := [(3, .int (q2 - 48)), (0, .ref a_this), (1, .ref a_p1), (2, .int x2)]) hx hb dX7_readParents_33 rfl hl (by decide) rfl (fun ls hl => ?_)
    refine lv_iload_n hx hb dX7_readParents_34 rfl (lv_at hl 0 rfl) ?_
    refine lv_if_lt (tgt := 43) hx hb dX7_readParents_35 (by decide) (fun hc => ?_) (fun hc => ?_)
    · have hf := if_yes hc hf
      refine lv_iconst (v := 0) hx hb dX7_readParents_43 (by decide) ?_
      have ho := Option.some.inj hf
      subst ho
      exact hrt _ rfl H locs ls _ (Or.inl rfl) hP hD hS dX7_readParents_44
    · have hf := if_no hc hf
      refine lv_iload_n hx hb dX7_readParents_38 rfl (lv_at hl 0 rfl) ?_
      refine lv_iload_n hx hb dX7_readParents_39 rfl (lv_at hl 3 rfl) ?_
      refine lv_icmp_lt (tgt := 45) hx hb dX7_readParents_40 (by decide) (fun hc => ?_) (fun hc => ?_)
      · have hf := if_yes hc hf
        refine lv_aload_n hx hb dX7_readParents_45 rfl (lv_at hl 1 rfl) ?_
        refine lv_dup hx hb dX7_readParents_46 rfl ?_
        refine va_get (D := D) (ci := 7) (v := .int i_place) (C := RX7) (T := TX7) (N := 7) hx hb hts jX7_readParents_X7 hown hK hP 0 rfl rfl 5 (by decide) (hts _ qX7_readParents_22) (fun _ h9 => h9) rfl dX7_readParents_47 ?_
        refine lv_iconst (v := 1) hx hb dX7_readParents_50 (by decide) ?_
        refine lv_iadd hx hb dX7_readParents_51 ?_
        refine va_put (D := D) (ci := 7) (v := .int (i_place + 1)) (ty := tyX7 5) (C := RX7) (T := TX7) (N := 7) hx hb hts jX7_readParents_X7 tyX7 tyX7_ok nmX7 hown hK hP hD hS 0 rfl rfl 5 (by decide) (hts _ qX7_readParents_22) (fun _ h9 => h9) rfl (tyX7_ok 5 (by decide)) rfl rfl (Nat.le_of_ble_eq_true rfl) dX7_readParents_52 (fun H locs hP hD hS => ?_)
        have hP : va_P D vwCl (uX7_readParents cI cJ a_this i_form i_overOthers i_overTwo i_first i_size (i_place + 1) i_whole a_p1 a_p1_codes i_p1_size g_p1_codes) H := hP
        have hD : va_D A (uX7_readParents cI cJ a_this i_form i_overOthers i_overTwo i_first i_size (i_place + 1) i_whole a_p1 a_p1_codes i_p1_size g_p1_codes) := hD
        refine lv_iinc (v := (x2 + 1)) (lv' := [(2, .int (x2 + 1)), (3, .int (q2 - 48)), (0, .ref a_this), (1, .ref a_p1)]) hx hb dX7_readParents_55 hl (k := 3) rfl rfl (by decide) rfl (fun ls hl => ?_)
        refine lv_goto (tgt := 14) hx hb dX7_readParents_58 (by decide) ?_
        have ho := Option.some.inj hf
        subst ho
        exact hbk _ rfl _ _ _ hP hD hS (lv_sub hl [2, 3, 0] rfl)
      · have hf := if_no hc hf
        refine lv_iconst (v := 0) hx hb dX7_readParents_43 (by decide) ?_
        have ho := Option.some.inj hf
        subst ho
        exact hrt _ rfl H locs ls _ (Or.inl rfl) hP hD hS dX7_readParents_44
set_option maxHeartbeats 4000000 in
set_option maxRecDepth 100000 in
theorem kX7_readParents_J61 {p : Program} {l : Launch} {e : Env} {s : State} {m : MethodId} {args : Array Value} {below : List Frame} {meth : Method} {c : Code} {Q : State → Prop} {A : Nat → Prop} {D : va_G} {cI cJ : ClassId} (C : bC cX7_readParents 4 RX7 wsX7_readParents D cI cJ p s m args c meth A)
    {a_this : Nat} {i_form : Int32} {i_overOthers : Int32} {i_overTwo : Int32} {i_first : Int32} {i_size : Int32} {i_place : Int32} {i_whole : Int32} {a_p1 : Nat} {a_p1_codes : Nat} {i_p1_size : Int32} {g_p1_codes : Nat → Int32} {z : Nat} {o : Int32 × Int32} (hf : fX7_readParents_J61 z i_place i_p1_size g_p1_codes i_size = some o)
    (hrt : ∀ (H : Heap) (locs : List Loc) (ls : Array Slot) (pc : Nat), (o.1 = 0 ∨ o.1 = 1) → va_P D vwCl (uX7_readParents cI cJ a_this i_form i_overOthers i_overTwo i_first i_size o.2 i_whole a_p1 a_p1_codes i_p1_size g_p1_codes) H → va_D A (uX7_readParents cI cJ a_this i_form i_overOthers i_overTwo i_first i_size o.2 i_whole a_p1 a_p1_codes i_p1_size g_p1_codes) → va_S A s.heap H locs → decode cX7_readParents pc = .ok (.ireturn, 1) → W p l e rX7_readParents s m args below meth c H locs 0 0 Q (F0 m pc ls [.int o.1]))
    {H : Heap} {locs : List Loc} {ls : Array Slot} (hP : va_P D vwCl (uX7_readParents cI cJ a_this i_form i_overOthers i_overTwo i_first i_size i_place i_whole a_p1 a_p1_codes i_p1_size g_p1_codes) H) (hD : va_D A (uX7_readParents cI cJ a_this i_form i_overOthers i_overTwo i_first i_size i_place i_whole a_p1 a_p1_codes i_p1_size g_p1_codes)) (hS : va_S A s.heap H locs) (hl : lv_has ls 4 []) : W p l e rX7_readParents s m args below meth c H locs 0 0 Q (F0 m 61 ls []) := by
  obtain ⟨hx, hb, hml, hown, hts, hK, hN, hA, hlocks⟩ := id C
  unfold fX7_readParents_J61 at hf
  refine lv_iconst (v := 1) hx hb dX7_readParents_61 (by decide) ?_
  have ho := Option.some.inj hf
  subst ho
  exact hrt H locs ls _ (Or.inr rfl) hP hD hS dX7_readParents_62
set_option maxHeartbeats 4000000 in
set_option maxRecDepth 100000 in
theorem kX7_readParents_0 {p : Program} {l : Launch} {e : Env} {s : State} {m : MethodId} {args : Array Value} {below : List Frame} {meth : Method} {c : Code} {Q : State → Prop} {A : Nat → Prop} {D : va_G} {cI cJ : ClassId} (C : bC cX7_readParents 4 RX7 wsX7_readParents D cI cJ p s m args c meth A)
    {a_this : Nat} {i_form : Int32} {i_overOthers : Int32} {i_overTwo : Int32} {i_first : Int32} {i_size : Int32} {i_place : Int32} {i_whole : Int32} {a_p1 : Nat} {a_p1_codes : Nat} {i_p1_size : Int32} {g_p1_codes : Nat → Int32} {z : Nat} {o : Int32 × Int32} (hf : fX7_readParents z i_place i_p1_size g_p1_codes i_size = some o)
    (hrt : ∀ (H : Heap) (locs : List Loc) (ls : Array Slot) (pc : Nat), (o.1 = 0 ∨ o.1 = 1) → va_P D vwCl (uX7_readParents cI cJ a_this i_form i_overOthers i_overTwo i_first i_size o.2 i_whole a_p1 a_p1_codes i_p1_size g_p1_codes) H → va_D A (uX7_readParents cI cJ a_this i_form i_overOthers i_overTwo i_first i_size o.2 i_whole a_p1 a_p1_codes i_p1_size g_p1_codes) → va_S A s.heap H locs → decode cX7_readParents pc = .ok (.ireturn, 1) → W p l e rX7_readParents s m args below meth c H locs 0 0 Q (F0 m pc ls [.int o.1]))
    {H : Heap} {locs : List Loc} {ls : Array Slot} (hP : va_P D vwCl (uX7_readParents cI cJ a_this i_form i_overOthers i_overTwo i_first i_size i_place i_whole a_p1 a_p1_codes i_p1_size g_p1_codes) H) (hD : va_D A (uX7_readParents cI cJ a_this i_form i_overOthers i_overTwo i_first i_size i_place i_whole a_p1 a_p1_codes i_p1_size g_p1_codes)) (hS : va_S A s.heap H locs) (hl : lv_has ls 4 [(0, .ref a_this), (1, .ref a_p1)]) : W p l e rX7_readParents s m args below meth c H locs 0 0 Q (F0 m 0 ls []) := by
  obtain ⟨hx, hb, hml, hown, hts, hK, hN, hA, hlocks⟩ := id C
  unfold fX7_readParents at hf
  refine lv_aload_n hx hb dX7_readParents_0 rfl (lv_at hl 0 rfl) ?_
  refine lv_aload_n hx hb dX7_readParents_1 rfl (lv_at hl 1 rfl) ?_
  refine lv_bipush (v := 47) hx hb dX7_readParents_2 (by decide) ?_
  obtain ⟨q1, hq, hf⟩ := ob_some hf
  refine cl_i (wc := (uX7_takes cI cJ a_this i_form i_overOthers i_overTwo i_first i_size i_place i_whole a_p1 a_p1_codes i_p1_size g_p1_codes)) (w1 := (uX7_takes cI cJ a_this i_form i_overOthers i_overTwo i_first i_size q1.2 i_whole a_p1 a_p1_codes i_p1_size g_p1_codes)) (rn_V (As := [.ref a_p1, .int 47]) (b := a_this) (rest := []) (wc := (uX7_takes cI cJ a_this i_form i_overOthers i_overTwo i_first i_size i_place i_whole a_p1 a_p1_codes i_p1_size g_p1_codes)) (ci := 7) (q0 := 0) C hP hD [0, 1, 2] rfl rfl rfl rfl (mX7_takes l D cI cJ H.size hq) 2 gX7_readParents_X7_takes rfl ⟨rfl, rfl, Nat.le_of_ble_eq_true rfl, Nat.le_of_ble_eq_true rfl⟩ hdX7_takes rfl hl.1 rfl (Nat.le_of_ble_eq_true rfl) dX7_readParents_4) hP hD hS hA [0, 1, 2] rfl rfl (fun H locs hP hD hS => ?_)
  have hP : va_P D vwCl (uX7_readParents cI cJ a_this i_form i_overOthers i_overTwo i_first i_size q1.2 i_whole a_p1 a_p1_codes i_p1_size g_p1_codes) H := hP
  have hD : va_D A (uX7_readParents cI cJ a_this i_form i_overOthers i_overTwo i_first i_size q1.2 i_whole a_p1 a_p1_codes i_p1_size g_p1_codes) := hD
  refine lv_if_ne (tgt := 12) hx hb dX7_readParents_7 (by decide) (fun hc => ?_) (fun hc => ?_)
  · have hf := if_no hc hf
    refine lv_iconst (v := 1) hx hb dX7_readParents_12 (by decide) ?_
    refine lv_istore_n (lv' := [(2, .int 1), (0, .ref a_this), (1, .ref a_p1)]) hx hb dX7_readParents_13 rfl hl (by decide) rfl (fun ls hl => ?_)
    obtain ⟨ex, hlp, hf⟩ := ob_some hf
    refine lp_ind (P := fun sg => ∀ (H : Heap) (locs : List Loc) (ls : Array Slot), va_P D vwCl (uX7_readParents cI cJ a_this i_form i_overOthers i_overTwo i_first i_size sg.2 i_whole a_p1 a_p1_codes i_p1_size g_p1_codes) H → va_D A (uX7_readParents cI cJ a_this i_form i_overOthers i_overTwo i_first i_size sg.2 i_whole a_p1 a_p1_codes i_p1_size g_p1_codes) → va_S A s.heap H locs → lv_has ls 4 [(0, .ref a_this), (1, .ref a_p1), (2, .int sg.1)] → W p l e rX7_readParents s m args below meth c H locs 0 0 Q (F0 m 14 ls [])) ?_ z _ hlp H locs ls hP hD hS (lv_sub hl [1, 2, 0] rfl)
    intro sg og hbo hback hexit H locs ls hP hD hS hl
    refine kX7_readParents_L14 C hbo (fun s' h => hback s' h) (fun ex h H locs ls hP hD hS hl => ?_) (fun rr h H locs ls pc hz hP hD hS hdg => ?_) hP hD hS hl
    · have he := hexit _ h
      subst he
      simp only [Sum.elim_inl] at hf
      exact kX7_readParents_J61 C hf hrt hP hD hS (lv_sub hl [] rfl)
    · have he := hexit _ h
      subst he
      simp only [Sum.elim_inr] at hf
      have ho := Option.some.inj hf
      subst ho
      exact hrt H locs ls pc hz hP hD hS hdg
  · have hf := if_yes hc hf
    refine lv_iconst (v := 0) hx hb dX7_readParents_10 (by decide) ?_
    have ho := Option.some.inj hf
    subst ho
    exact hrt H locs ls _ (Or.inl rfl) hP hD hS dX7_readParents_11
set_option maxHeartbeats 4000000 in
set_option maxRecDepth 100000 in
theorem mX7_readParents (l : Launch) (D : va_G) (cI cJ : ClassId) (sz : Nat) {a_this : Nat} {i_form : Int32} {i_overOthers : Int32} {i_overTwo : Int32} {i_first : Int32} {i_size : Int32} {i_place : Int32} {i_whole : Int32} {a_p1 : Nat} {a_p1_codes : Nat} {i_p1_size : Int32} {g_p1_codes : Nat → Int32} {z : Nat} {o : Int32 × Int32} (hf : fX7_readParents z i_place i_p1_size g_p1_codes i_size = some o) : Met l yX7_readParents wsX7_readParents rX7_readParents (va_Pc [.ref a_this, .ref a_p1] (kP D cI cJ (uX7_readParents cI cJ a_this i_form i_overOthers i_overTwo i_first i_size i_place i_whole a_p1 a_p1_codes i_p1_size g_p1_codes) sz)) (va_Qi (fun r' (_ : Unit) => r' = o.1) (fun _ t => kB D (va_A (uX7_readParents cI cJ a_this i_form i_overOthers i_overTwo i_first i_size i_place i_whole a_p1 a_p1_codes i_p1_size g_p1_codes) sz) (uX7_readParents cI cJ a_this i_form i_overOthers i_overTwo i_first i_size o.2 i_whole a_p1 a_p1_codes i_p1_size g_p1_codes) t) (va_A (uX7_readParents cI cJ a_this i_form i_overOthers i_overTwo i_first i_size i_place i_whole a_p1 a_p1_codes i_p1_size g_p1_codes) sz)) 0 0 (va_A (uX7_readParents cI cJ a_this i_form i_overOthers i_overTwo i_first i_size i_place i_whole a_p1 a_p1_codes i_p1_size g_p1_codes) sz) :=
  met_z (by decide) rfl (Nat.le_of_ble_eq_true rfl) (fun p e s m below meth c A Q C hrt ls hl hP hD hS => kX7_readParents_0 (A := A) C hf hrt hP hD hS hl)

/-! ===== FrogsOnRing$Reading.read(LFrogsOnRing$Page;)V ===== -/
abbrev uX7_read (cI cJ : ClassId) (a_this : Nat) (i_form : Int32) (i_overOthers : Int32) (i_overTwo : Int32) (i_first : Int32) (i_size : Int32) (i_place : Int32) (i_whole : Int32) (a_p1 : Nat) (a_p1_codes : Nat) (i_p1_size : Int32) (g_p1_codes : Nat → Int32) : va_W := [(a_this, .inr (7, [.int i_form, .int i_overOthers, .int i_overTwo, .int i_first, .int i_size, .int i_place, .int i_whole])), (a_p1, .inr (5, [.ref a_p1_codes, .int i_p1_size])), (a_p1_codes, .inl (cI, 24, .inl g_p1_codes))]
def rX7_read : Room := { frames := 3, cells := 0, slots := 0, locals := 66 }
theorem hdX7_read : yX7_read.cls = RX7 ∧ yX7_read.cls ≠ "java/lang/invoke/MethodHandle" ∧ yX7_read.cls ≠ "java/lang/invoke/VarHandle" ∧ (parseMethodDescriptor yX7_read.desc).map (fun d => d.parameters.length) = some 1 := by decide +kernel
set_option maxRecDepth 20000 in
theorem jX7_read_X5 : ∀ w ∈ u_ws RX5 TX5 2, w ∈ wsX7_read := by decide +kernel
set_option maxRecDepth 20000 in
theorem jX7_read_X7 : ∀ w ∈ u_ws RX7 TX7 7, w ∈ wsX7_read := by decide +kernel
set_option maxRecDepth 20000 in
theorem qX7_read_15 : Cond.fieldLink RX7 15 "FrogsOnRing$Reading" "first" "I" ∈ wsX7_read := by decide +kernel
set_option maxRecDepth 20000 in
theorem qX7_read_19 : Cond.fieldLink RX7 19 "FrogsOnRing$Reading" "size" "I" ∈ wsX7_read := by decide +kernel
set_option maxRecDepth 20000 in
theorem qX7_read_22 : Cond.fieldLink RX7 22 "FrogsOnRing$Reading" "place" "I" ∈ wsX7_read := by decide +kernel
set_option maxRecDepth 20000 in
theorem qX7_read_33 : Cond.fieldLink RX7 33 "FrogsOnRing$Reading" "overOthers" "Z" ∈ wsX7_read := by decide +kernel
set_option maxRecDepth 20000 in
theorem qX7_read_36 : Cond.fieldLink RX7 36 "FrogsOnRing$Reading" "overTwo" "Z" ∈ wsX7_read := by decide +kernel
set_option maxRecDepth 20000 in
theorem qX7_read_42 : Cond.fieldLink RX7 42 "FrogsOnRing$Reading" "form" "I" ∈ wsX7_read := by decide +kernel
set_option maxRecDepth 20000 in
theorem qX7_read_49 : Cond.fieldLink RX7 49 "FrogsOnRing$Page" "size" "I" ∈ wsX7_read := by decide +kernel
set_option maxRecDepth 20000 in
theorem qX7_read_9 : Cond.fieldLink RX7 9 "FrogsOnRing$Reading" "whole" "Z" ∈ wsX7_read := by decide +kernel
set_option maxHeartbeats 4000000 in
set_option maxRecDepth 100000 in
theorem kX7_read_J102 {p : Program} {l : Launch} {e : Env} {s : State} {m : MethodId} {args : Array Value} {below : List Frame} {meth : Method} {c : Code} {Q : State → Prop} {A : Nat → Prop} {D : va_G} {cI cJ : ClassId} (C : bC cX7_read 3 RX7 wsX7_read D cI cJ p s m args c meth A)
    {a_this : Nat} {i_form : Int32} {i_overOthers : Int32} {i_overTwo : Int32} {i_first : Int32} {i_size : Int32} {i_place : Int32} {i_whole : Int32} {a_p1 : Nat} {a_p1_codes : Nat} {i_p1_size : Int32} {g_p1_codes : Nat → Int32} {z : Nat} {t0 : Int32} {o : Int32 × Int32 × Int32 × Int32 × Int32 × Int32 × Int32} (hf : fX7_read_J102 z t0 i_p1_size g_p1_codes i_form i_place i_size i_whole i_first i_overOthers i_overTwo = some o)
    (hrt : ∀ (H : Heap) (locs : List Loc) (ls : Array Slot) (pc : Nat), va_P D vwCl (uX7_read cI cJ a_this o.2.2.2.2.1 o.2.2.2.2.2.1 o.2.2.2.2.2.2 o.2.1 o.2.2.1 o.2.2.2.1 o.1 a_p1 a_p1_codes i_p1_size g_p1_codes) H → va_D A (uX7_read cI cJ a_this o.2.2.2.2.1 o.2.2.2.2.2.1 o.2.2.2.2.2.2 o.2.1 o.2.2.1 o.2.2.2.1 o.1 a_p1 a_p1_codes i_p1_size g_p1_codes) → va_S A s.heap H locs → decode cX7_read pc = .ok (.return_, 1) → W p l e rX7_read s m args below meth c H locs 0 0 Q (F0 m pc ls []))
    {H : Heap} {locs : List Loc} {ls : Array Slot} (hP : va_P D vwCl (uX7_read cI cJ a_this i_form i_overOthers i_overTwo i_first i_size i_place i_whole a_p1 a_p1_codes i_p1_size g_p1_codes) H) (hD : va_D A (uX7_read cI cJ a_this i_form i_overOthers i_overTwo i_first i_size i_place i_whole a_p1 a_p1_codes i_p1_size g_p1_codes)) (hS : va_S A s.heap H locs) (hl : lv_has ls 3 [(0, .ref a_this), (1, .ref a_p1)]) : W p l e rX7_read s m args below meth c H locs 0 0 Q (F0 m 102 ls [.int t0]) := by
  obtain ⟨hx, hb, hml, hown, hts, hK, hN, hA, hlocks⟩ := id C
  unfold fX7_read_J102 at hf
  refine lv_istore_n (lv' := [(2, .int t0), (0, .ref a_this), (1, .ref a_p1)]) hx hb dX7_read_102 rfl hl (by decide) rfl (fun ls hl => ?_)
  refine lv_aload_n hx hb dX7_read_103 rfl (lv_at hl 1 rfl) ?_
  refine lv_iload_n hx hb dX7_read_104 rfl (lv_at hl 0 rfl) ?_
  refine lv_if_eq (tgt := 123) hx hb dX7_read_105 (by decide) (fun hc => ?_) (fun hc => ?_)
  · have hf := if_yes hc hf
    refine lv_iconst (v := 0) hx hb dX7_read_123 (by decide) ?_
    refine va_put (D := D) (ci := 7) (v := .int 0) (ty := tyX7 6) (C := RX7) (T := TX7) (N := 7) hx hb hts jX7_read_X7 tyX7 tyX7_ok nmX7 hown hK hP hD hS 0 rfl rfl 6 (by decide) (hts _ qX7_read_9) (fun _ h9 => h9) rfl (tyX7_ok 6 (by decide)) rfl rfl (Nat.le_of_ble_eq_true rfl) dX7_read_124 (fun H locs hP hD hS => ?_)
    have hP : va_P D vwCl (uX7_read cI cJ a_this i_form i_overOthers i_overTwo i_first i_size i_place 0 a_p1 a_p1_codes i_p1_size g_p1_codes) H := hP
    have hD : va_D A (uX7_read cI cJ a_this i_form i_overOthers i_overTwo i_first i_size i_place 0 a_p1 a_p1_codes i_p1_size g_p1_codes) := hD
    have ho := Option.some.inj hf
    subst ho
    exact hrt H locs ls _ hP hD hS dX7_read_127
  · have hf := if_no hc hf
    refine lv_aload_n hx hb dX7_read_108 rfl (lv_at hl 1 rfl) ?_
    refine va_get (D := D) (ci := 7) (v := .int i_place) (C := RX7) (T := TX7) (N := 7) hx hb hts jX7_read_X7 hown hK hP 0 rfl rfl 5 (by decide) (hts _ qX7_read_22) (fun _ h9 => h9) rfl dX7_read_109 ?_
    refine lv_aload_n hx hb dX7_read_112 rfl (lv_at hl 2 rfl) ?_
    refine va_get (D := D) (ci := 5) (v := .int i_p1_size) (C := RX5) (T := TX5) (N := 2) hx hb hts jX7_read_X5 hown hK hP 1 rfl rfl 1 (by decide) (hts _ qX7_read_49) (fun _ h9 => h9) rfl dX7_read_113 ?_
    refine lv_icmp_ne (tgt := 123) hx hb dX7_read_116 (by decide) (fun hc => ?_) (fun hc => ?_)
    · have hf := if_no hc hf
      refine lv_iconst (v := 0) hx hb dX7_read_123 (by decide) ?_
      refine va_put (D := D) (ci := 7) (v := .int 0) (ty := tyX7 6) (C := RX7) (T := TX7) (N := 7) hx hb hts jX7_read_X7 tyX7 tyX7_ok nmX7 hown hK hP hD hS 0 rfl rfl 6 (by decide) (hts _ qX7_read_9) (fun _ h9 => h9) rfl (tyX7_ok 6 (by decide)) rfl rfl (Nat.le_of_ble_eq_true rfl) dX7_read_124 (fun H locs hP hD hS => ?_)
      have hP : va_P D vwCl (uX7_read cI cJ a_this i_form i_overOthers i_overTwo i_first i_size i_place 0 a_p1 a_p1_codes i_p1_size g_p1_codes) H := hP
      have hD : va_D A (uX7_read cI cJ a_this i_form i_overOthers i_overTwo i_first i_size i_place 0 a_p1 a_p1_codes i_p1_size g_p1_codes) := hD
      have ho := Option.some.inj hf
      subst ho
      exact hrt H locs ls _ hP hD hS dX7_read_127
    · have hf := if_yes hc hf
      refine lv_iconst (v := 1) hx hb dX7_read_119 (by decide) ?_
      refine lv_goto (tgt := 124) hx hb dX7_read_120 (by decide) ?_
      refine va_put (D := D) (ci := 7) (v := .int 1) (ty := tyX7 6) (C := RX7) (T := TX7) (N := 7) hx hb hts jX7_read_X7 tyX7 tyX7_ok nmX7 hown hK hP hD hS 0 rfl rfl 6 (by decide) (hts _ qX7_read_9) (fun _ h9 => h9) rfl (tyX7_ok 6 (by decide)) rfl rfl (Nat.le_of_ble_eq_true rfl) dX7_read_124 (fun H locs hP hD hS => ?_)
      have hP : va_P D vwCl (uX7_read cI cJ a_this i_form i_overOthers i_overTwo i_first i_size i_place 1 a_p1 a_p1_codes i_p1_size g_p1_codes) H := hP
      have hD : va_D A (uX7_read cI cJ a_this i_form i_overOthers i_overTwo i_first i_size i_place 1 a_p1 a_p1_codes i_p1_size g_p1_codes) := hD
      have ho := Option.some.inj hf
      subst ho
      exact hrt H locs ls _ hP hD hS dX7_read_127
set_option maxHeartbeats 4000000 in
set_option maxRecDepth 100000 in
theorem kX7_read_J97 {p : Program} {l : Launch} {e : Env} {s : State} {m : MethodId} {args : Array Value} {below : List Frame} {meth : Method} {c : Code} {Q : State → Prop} {A : Nat → Prop} {D : va_G} {cI cJ : ClassId} (C : bC cX7_read 3 RX7 wsX7_read D cI cJ p s m args c meth A)
    {a_this : Nat} {i_form : Int32} {i_overOthers : Int32} {i_overTwo : Int32} {i_first : Int32} {i_size : Int32} {i_place : Int32} {i_whole : Int32} {a_p1 : Nat} {a_p1_codes : Nat} {i_p1_size : Int32} {g_p1_codes : Nat → Int32} {z : Nat} {o : Int32 × Int32 × Int32 × Int32 × Int32 × Int32 × Int32} (hf : fX7_read_J97 z i_p1_size g_p1_codes i_form i_place i_size i_whole i_first i_overOthers i_overTwo = some o)
    (hrt : ∀ (H : Heap) (locs : List Loc) (ls : Array Slot) (pc : Nat), va_P D vwCl (uX7_read cI cJ a_this o.2.2.2.2.1 o.2.2.2.2.2.1 o.2.2.2.2.2.2 o.2.1 o.2.2.1 o.2.2.2.1 o.1 a_p1 a_p1_codes i_p1_size g_p1_codes) H → va_D A (uX7_read cI cJ a_this o.2.2.2.2.1 o.2.2.2.2.2.1 o.2.2.2.2.2.2 o.2.1 o.2.2.1 o.2.2.2.1 o.1 a_p1 a_p1_codes i_p1_size g_p1_codes) → va_S A s.heap H locs → decode cX7_read pc = .ok (.return_, 1) → W p l e rX7_read s m args below meth c H locs 0 0 Q (F0 m pc ls []))
    {H : Heap} {locs : List Loc} {ls : Array Slot} (hP : va_P D vwCl (uX7_read cI cJ a_this i_form i_overOthers i_overTwo i_first i_size i_place i_whole a_p1 a_p1_codes i_p1_size g_p1_codes) H) (hD : va_D A (uX7_read cI cJ a_this i_form i_overOthers i_overTwo i_first i_size i_place i_whole a_p1 a_p1_codes i_p1_size g_p1_codes)) (hS : va_S A s.heap H locs) (hl : lv_has ls 3 [(0, .ref a_this), (1, .ref a_p1)]) : W p l e rX7_read s m args below meth c H locs 0 0 Q (F0 m 97 ls []) := by
  obtain ⟨hx, hb, hml, hown, hts, hK, hN, hA, hlocks⟩ := id C
  unfold fX7_read_J97 at hf
  refine lv_iconst (v := 1) hx hb dX7_read_97 (by decide) ?_
  refine lv_goto (tgt := 102) hx hb dX7_read_98 (by decide) ?_
  exact kX7_read_J102 C hf hrt hP hD hS (lv_sub hl [0, 1] rfl)
set_option maxHeartbeats 4000000 in
set_option maxRecDepth 100000 in
theorem kX7_read_0 {p : Program} {l : Launch} {e : Env} {s : State} {m : MethodId} {args : Array Value} {below : List Frame} {meth : Method} {c : Code} {Q : State → Prop} {A : Nat → Prop} {D : va_G} {cI cJ : ClassId} (C : bC cX7_read 3 RX7 wsX7_read D cI cJ p s m args c meth A)
    {a_this : Nat} {i_form : Int32} {i_overOthers : Int32} {i_overTwo : Int32} {i_first : Int32} {i_size : Int32} {i_place : Int32} {i_whole : Int32} {a_p1 : Nat} {a_p1_codes : Nat} {i_p1_size : Int32} {g_p1_codes : Nat → Int32} {z : Nat} {o : Int32 × Int32 × Int32 × Int32 × Int32 × Int32 × Int32} (hf : fX7_read z i_p1_size g_p1_codes i_form i_place i_size i_whole i_first i_overOthers i_overTwo = some o)
    (hrt : ∀ (H : Heap) (locs : List Loc) (ls : Array Slot) (pc : Nat), va_P D vwCl (uX7_read cI cJ a_this o.2.2.2.2.1 o.2.2.2.2.2.1 o.2.2.2.2.2.2 o.2.1 o.2.2.1 o.2.2.2.1 o.1 a_p1 a_p1_codes i_p1_size g_p1_codes) H → va_D A (uX7_read cI cJ a_this o.2.2.2.2.1 o.2.2.2.2.2.1 o.2.2.2.2.2.2 o.2.1 o.2.2.1 o.2.2.2.1 o.1 a_p1 a_p1_codes i_p1_size g_p1_codes) → va_S A s.heap H locs → decode cX7_read pc = .ok (.return_, 1) → W p l e rX7_read s m args below meth c H locs 0 0 Q (F0 m pc ls []))
    {H : Heap} {locs : List Loc} {ls : Array Slot} (hP : va_P D vwCl (uX7_read cI cJ a_this i_form i_overOthers i_overTwo i_first i_size i_place i_whole a_p1 a_p1_codes i_p1_size g_p1_codes) H) (hD : va_D A (uX7_read cI cJ a_this i_form i_overOthers i_overTwo i_first i_size i_place i_whole a_p1 a_p1_codes i_p1_size g_p1_codes)) (hS : va_S A s.heap H locs) (hl : lv_has ls 3 [(0, .ref a_this), (1, .ref a_p1)]) : W p l e rX7_read s m args below meth c H locs 0 0 Q (F0 m 0 ls []) := by
  obtain ⟨hx, hb, hml, hown, hts, hK, hN, hA, hlocks⟩ := id C
  unfold fX7_read at hf
  refine lv_aload_n hx hb dX7_read_0 rfl (lv_at hl 0 rfl) ?_
  refine lv_iconst (v := 0) hx hb dX7_read_1 (by decide) ?_
  refine va_put (D := D) (ci := 7) (v := .int 0) (ty := tyX7 6) (C := RX7) (T := TX7) (N := 7) hx hb hts jX7_read_X7 tyX7 tyX7_ok nmX7 hown hK hP hD hS 0 rfl rfl 6 (by decide) (hts _ qX7_read_9) (fun _ h9 => h9) rfl (tyX7_ok 6 (by decide)) rfl rfl (Nat.le_of_ble_eq_true rfl) dX7_read_2 (fun H locs hP hD hS => ?_)
  have hP : va_P D vwCl (uX7_read cI cJ a_this i_form i_overOthers i_overTwo i_first i_size i_place 0 a_p1 a_p1_codes i_p1_size g_p1_codes) H := hP
  have hD : va_D A (uX7_read cI cJ a_this i_form i_overOthers i_overTwo i_first i_size i_place 0 a_p1 a_p1_codes i_p1_size g_p1_codes) := hD
  refine lv_aload_n hx hb dX7_read_5 rfl (lv_at hl 0 rfl) ?_
  refine lv_iconst (v := 0) hx hb dX7_read_6 (by decide) ?_
  refine va_put (D := D) (ci := 7) (v := .int 0) (ty := tyX7 3) (C := RX7) (T := TX7) (N := 7) hx hb hts jX7_read_X7 tyX7 tyX7_ok nmX7 hown hK hP hD hS 0 rfl rfl 3 (by decide) (hts _ qX7_read_15) (fun _ h9 => h9) rfl (tyX7_ok 3 (by decide)) rfl rfl (Nat.le_of_ble_eq_true rfl) dX7_read_7 (fun H locs hP hD hS => ?_)
  have hP : va_P D vwCl (uX7_read cI cJ a_this i_form i_overOthers i_overTwo 0 i_size i_place 0 a_p1 a_p1_codes i_p1_size g_p1_codes) H := hP
  have hD : va_D A (uX7_read cI cJ a_this i_form i_overOthers i_overTwo 0 i_size i_place 0 a_p1 a_p1_codes i_p1_size g_p1_codes) := hD
  refine lv_aload_n hx hb dX7_read_10 rfl (lv_at hl 0 rfl) ?_
  refine lv_iconst (v := 0) hx hb dX7_read_11 (by decide) ?_
  refine va_put (D := D) (ci := 7) (v := .int 0) (ty := tyX7 4) (C := RX7) (T := TX7) (N := 7) hx hb hts jX7_read_X7 tyX7 tyX7_ok nmX7 hown hK hP hD hS 0 rfl rfl 4 (by decide) (hts _ qX7_read_19) (fun _ h9 => h9) rfl (tyX7_ok 4 (by decide)) rfl rfl (Nat.le_of_ble_eq_true rfl) dX7_read_12 (fun H locs hP hD hS => ?_)
  have hP : va_P D vwCl (uX7_read cI cJ a_this i_form i_overOthers i_overTwo 0 0 i_place 0 a_p1 a_p1_codes i_p1_size g_p1_codes) H := hP
  have hD : va_D A (uX7_read cI cJ a_this i_form i_overOthers i_overTwo 0 0 i_place 0 a_p1 a_p1_codes i_p1_size g_p1_codes) := hD
  refine lv_aload_n hx hb dX7_read_15 rfl (lv_at hl 0 rfl) ?_
  refine lv_iconst (v := 0) hx hb dX7_read_16 (by decide) ?_
  refine va_put (D := D) (ci := 7) (v := .int 0) (ty := tyX7 5) (C := RX7) (T := TX7) (N := 7) hx hb hts jX7_read_X7 tyX7 tyX7_ok nmX7 hown hK hP hD hS 0 rfl rfl 5 (by decide) (hts _ qX7_read_22) (fun _ h9 => h9) rfl (tyX7_ok 5 (by decide)) rfl rfl (Nat.le_of_ble_eq_true rfl) dX7_read_17 (fun H locs hP hD hS => ?_)
  have hP : va_P D vwCl (uX7_read cI cJ a_this i_form i_overOthers i_overTwo 0 0 0 0 a_p1 a_p1_codes i_p1_size g_p1_codes) H := hP
  have hD : va_D A (uX7_read cI cJ a_this i_form i_overOthers i_overTwo 0 0 0 0 a_p1 a_p1_codes i_p1_size g_p1_codes) := hD
  refine lv_aload_n hx hb dX7_read_20 rfl (lv_at hl 0 rfl) ?_
  refine lv_aload_n hx hb dX7_read_21 rfl (lv_at hl 1 rfl) ?_
  obtain ⟨q1, hq, hf⟩ := ob_some hf
  refine cl_v (wc := (uX7_readForm cI cJ a_p1 a_p1_codes i_p1_size g_p1_codes a_this i_form i_overOthers i_overTwo 0 0 0 0)) (w1 := (uX7_readForm cI cJ a_p1 a_p1_codes i_p1_size g_p1_codes a_this q1.1 i_overOthers i_overTwo 0 0 q1.2 0)) (rn_V (As := [.ref a_p1]) (b := a_this) (rest := []) (wc := (uX7_readForm cI cJ a_p1 a_p1_codes i_p1_size g_p1_codes a_this i_form i_overOthers i_overTwo 0 0 0 0)) (ci := 7) (q0 := 0) C hP hD [1, 2, 0] rfl rfl rfl rfl (mX7_readForm l D cI cJ H.size hq) 1 gX7_read_X7_readForm rfl ⟨rfl, rfl, Nat.le_of_ble_eq_true rfl, Nat.le_of_ble_eq_true rfl⟩ hdX7_readForm rfl hl.1 rfl (Nat.le_of_ble_eq_true rfl) dX7_read_22) hP hD hS hA [1, 2, 0] rfl rfl (fun H locs hP hD hS => ?_)
  have hP : va_P D vwCl (uX7_read cI cJ a_this q1.1 i_overOthers i_overTwo 0 0 q1.2 0 a_p1 a_p1_codes i_p1_size g_p1_codes) H := hP
  have hD : va_D A (uX7_read cI cJ a_this q1.1 i_overOthers i_overTwo 0 0 q1.2 0 a_p1 a_p1_codes i_p1_size g_p1_codes) := hD
  refine lv_aload_n hx hb dX7_read_25 rfl (lv_at hl 0 rfl) ?_
  refine va_get (D := D) (ci := 7) (v := .int q1.2) (C := RX7) (T := TX7) (N := 7) hx hb hts jX7_read_X7 hown hK hP 0 rfl rfl 5 (by decide) (hts _ qX7_read_22) (fun _ h9 => h9) rfl dX7_read_26 ?_
  refine lv_if_ne (tgt := 33) hx hb dX7_read_29 (by decide) (fun hc => ?_) (fun hc => ?_)
  · have hf := if_no hc hf
    refine lv_aload_n hx hb dX7_read_33 rfl (lv_at hl 0 rfl) ?_
    refine lv_aload_n hx hb dX7_read_34 rfl (lv_at hl 0 rfl) ?_
    refine lv_aload_n hx hb dX7_read_35 rfl (lv_at hl 1 rfl) ?_
    refine lv_bipush (v := 111) hx hb dX7_read_36 (by decide) ?_
    obtain ⟨q2, hq, hf⟩ := ob_some hf
    refine cl_i (wc := (uX7_takes cI cJ a_this q1.1 i_overOthers i_overTwo 0 0 q1.2 0 a_p1 a_p1_codes i_p1_size g_p1_codes)) (w1 := (uX7_takes cI cJ a_this q1.1 i_overOthers i_overTwo 0 0 q2.2 0 a_p1 a_p1_codes i_p1_size g_p1_codes)) (rn_V (As := [.ref a_p1, .int 111]) (b := a_this) (rest := [.ref a_this]) (wc := (uX7_takes cI cJ a_this q1.1 i_overOthers i_overTwo 0 0 q1.2 0 a_p1 a_p1_codes i_p1_size g_p1_codes)) (ci := 7) (q0 := 0) C hP hD [0, 1, 2] rfl rfl rfl rfl (mX7_takes l D cI cJ H.size hq) 2 gX7_read_X7_takes rfl ⟨rfl, rfl, Nat.le_of_ble_eq_true rfl, Nat.le_of_ble_eq_true rfl⟩ hdX7_takes rfl hl.1 rfl (Nat.le_of_ble_eq_true rfl) dX7_read_38) hP hD hS hA [0, 1, 2] rfl rfl (fun H locs hP hD hS => ?_)
    have hP : va_P D vwCl (uX7_read cI cJ a_this q1.1 i_overOthers i_overTwo 0 0 q2.2 0 a_p1 a_p1_codes i_p1_size g_p1_codes) H := hP
    have hD : va_D A (uX7_read cI cJ a_this q1.1 i_overOthers i_overTwo 0 0 q2.2 0 a_p1 a_p1_codes i_p1_size g_p1_codes) := hD
    obtain ⟨hz9, hf⟩ := zgd_some hf
    refine va_put (D := D) (ci := 7) (v := .int q2.1) (ty := tyX7 1) (C := RX7) (T := TX7) (N := 7) hx hb hts jX7_read_X7 tyX7 tyX7_ok nmX7 hown hK hP hD hS 0 rfl rfl 1 (by decide) (hts _ qX7_read_33) (fun _ h9 => h9) rfl (tyX7_ok 1 (by decide)) (zgd_nar hz9) (zgd_fit hz9) (Nat.le_of_ble_eq_true rfl) dX7_read_41 (fun H locs hP hD hS => ?_)
    have hP : va_P D vwCl (uX7_read cI cJ a_this q1.1 q2.1 i_overTwo 0 0 q2.2 0 a_p1 a_p1_codes i_p1_size g_p1_codes) H := hP
    have hD : va_D A (uX7_read cI cJ a_this q1.1 q2.1 i_overTwo 0 0 q2.2 0 a_p1 a_p1_codes i_p1_size g_p1_codes) := hD
    refine lv_aload_n hx hb dX7_read_44 rfl (lv_at hl 0 rfl) ?_
    refine lv_aload_n hx hb dX7_read_45 rfl (lv_at hl 0 rfl) ?_
    refine lv_aload_n hx hb dX7_read_46 rfl (lv_at hl 1 rfl) ?_
    refine lv_bipush (v := 50) hx hb dX7_read_47 (by decide) ?_
    obtain ⟨q3, hq, hf⟩ := ob_some hf
    refine cl_i (wc := (uX7_takes cI cJ a_this q1.1 q2.1 i_overTwo 0 0 q2.2 0 a_p1 a_p1_codes i_p1_size g_p1_codes)) (w1 := (uX7_takes cI cJ a_this q1.1 q2.1 i_overTwo 0 0 q3.2 0 a_p1 a_p1_codes i_p1_size g_p1_codes)) (rn_V (As := [.ref a_p1, .int 50]) (b := a_this) (rest := [.ref a_this]) (wc := (uX7_takes cI cJ a_this q1.1 q2.1 i_overTwo 0 0 q2.2 0 a_p1 a_p1_codes i_p1_size g_p1_codes)) (ci := 7) (q0 := 0) C hP hD [0, 1, 2] rfl rfl rfl rfl (mX7_takes l D cI cJ H.size hq) 2 gX7_read_X7_takes rfl ⟨rfl, rfl, Nat.le_of_ble_eq_true rfl, Nat.le_of_ble_eq_true rfl⟩ hdX7_takes rfl hl.1 rfl (Nat.le_of_ble_eq_true rfl) dX7_read_49) hP hD hS hA [0, 1, 2] rfl rfl (fun H locs hP hD hS => ?_)
    have hP : va_P D vwCl (uX7_read cI cJ a_this q1.1 q2.1 i_overTwo 0 0 q3.2 0 a_p1 a_p1_codes i_p1_size g_p1_codes) H := hP
    have hD : va_D A (uX7_read cI cJ a_this q1.1 q2.1 i_overTwo 0 0 q3.2 0 a_p1 a_p1_codes i_p1_size g_p1_codes) := hD
    obtain ⟨hz9, hf⟩ := zgd_some hf
    refine va_put (D := D) (ci := 7) (v := .int q3.1) (ty := tyX7 2) (C := RX7) (T := TX7) (N := 7) hx hb hts jX7_read_X7 tyX7 tyX7_ok nmX7 hown hK hP hD hS 0 rfl rfl 2 (by decide) (hts _ qX7_read_36) (fun _ h9 => h9) rfl (tyX7_ok 2 (by decide)) (zgd_nar hz9) (zgd_fit hz9) (Nat.le_of_ble_eq_true rfl) dX7_read_52 (fun H locs hP hD hS => ?_)
    have hP : va_P D vwCl (uX7_read cI cJ a_this q1.1 q2.1 q3.1 0 0 q3.2 0 a_p1 a_p1_codes i_p1_size g_p1_codes) H := hP
    have hD : va_D A (uX7_read cI cJ a_this q1.1 q2.1 q3.1 0 0 q3.2 0 a_p1 a_p1_codes i_p1_size g_p1_codes) := hD
    refine lv_aload_n hx hb dX7_read_55 rfl (lv_at hl 0 rfl) ?_
    refine lv_aload_n hx hb dX7_read_56 rfl (lv_at hl 1 rfl) ?_
    refine lv_bipush (v := 58) hx hb dX7_read_57 (by decide) ?_
    obtain ⟨q4, hq, hf⟩ := ob_some hf
    refine cl_i (wc := (uX7_takes cI cJ a_this q1.1 q2.1 q3.1 0 0 q3.2 0 a_p1 a_p1_codes i_p1_size g_p1_codes)) (w1 := (uX7_takes cI cJ a_this q1.1 q2.1 q3.1 0 0 q4.2 0 a_p1 a_p1_codes i_p1_size g_p1_codes)) (rn_V (As := [.ref a_p1, .int 58]) (b := a_this) (rest := []) (wc := (uX7_takes cI cJ a_this q1.1 q2.1 q3.1 0 0 q3.2 0 a_p1 a_p1_codes i_p1_size g_p1_codes)) (ci := 7) (q0 := 0) C hP hD [0, 1, 2] rfl rfl rfl rfl (mX7_takes l D cI cJ H.size hq) 2 gX7_read_X7_takes rfl ⟨rfl, rfl, Nat.le_of_ble_eq_true rfl, Nat.le_of_ble_eq_true rfl⟩ hdX7_takes rfl hl.1 rfl (Nat.le_of_ble_eq_true rfl) dX7_read_59) hP hD hS hA [0, 1, 2] rfl rfl (fun H locs hP hD hS => ?_)
    have hP : va_P D vwCl (uX7_read cI cJ a_this q1.1 q2.1 q3.1 0 0 q4.2 0 a_p1 a_p1_codes i_p1_size g_p1_codes) H := hP
    have hD : va_D A (uX7_read cI cJ a_this q1.1 q2.1 q3.1 0 0 q4.2 0 a_p1 a_p1_codes i_p1_size g_p1_codes) := hD
    refine lv_if_ne (tgt := 66) hx hb dX7_read_62 (by decide) (fun hc => ?_) (fun hc => ?_)
    · have hf := if_no hc hf
      refine lv_aload_n hx hb dX7_read_66 rfl (lv_at hl 0 rfl) ?_
      refine lv_aload_n hx hb dX7_read_67 rfl (lv_at hl 1 rfl) ?_
      obtain ⟨q5, hq, hf⟩ := ob_some hf
      refine cl_v (wc := (uX7_readStones cI cJ a_this q1.1 q2.1 q3.1 0 0 q4.2 0 a_p1 a_p1_codes i_p1_size g_p1_codes)) (w1 := (uX7_readStones cI cJ a_this q1.1 q2.1 q3.1 q5.1 q5.2.1 q5.2.2 0 a_p1 a_p1_codes i_p1_size g_p1_codes)) (rn_V (As := [.ref a_p1]) (b := a_this) (rest := []) (wc := (uX7_readStones cI cJ a_this q1.1 q2.1 q3.1 0 0 q4.2 0 a_p1 a_p1_codes i_p1_size g_p1_codes)) (ci := 7) (q0 := 0) C hP hD [0, 1, 2] rfl rfl rfl rfl (mX7_readStones l D cI cJ H.size hq) 1 gX7_read_X7_readStones rfl ⟨rfl, rfl, Nat.le_of_ble_eq_true rfl, Nat.le_of_ble_eq_true rfl⟩ hdX7_readStones rfl hl.1 rfl (Nat.le_of_ble_eq_true rfl) dX7_read_68) hP hD hS hA [0, 1, 2] rfl rfl (fun H locs hP hD hS => ?_)
      have hP : va_P D vwCl (uX7_read cI cJ a_this q1.1 q2.1 q3.1 q5.1 q5.2.1 q5.2.2 0 a_p1 a_p1_codes i_p1_size g_p1_codes) H := hP
      have hD : va_D A (uX7_read cI cJ a_this q1.1 q2.1 q3.1 q5.1 q5.2.1 q5.2.2 0 a_p1 a_p1_codes i_p1_size g_p1_codes) := hD
      refine lv_aload_n hx hb dX7_read_71 rfl (lv_at hl 0 rfl) ?_
      refine va_get (D := D) (ci := 7) (v := .int q5.2.1) (C := RX7) (T := TX7) (N := 7) hx hb hts jX7_read_X7 hown hK hP 0 rfl rfl 4 (by decide) (hts _ qX7_read_19) (fun _ h9 => h9) rfl dX7_read_72 ?_
      refine lv_iconst (v := 2) hx hb dX7_read_75 (by decide) ?_
      refine lv_icmp_ge (tgt := 80) hx hb dX7_read_76 (by decide) (fun hc => ?_) (fun hc => ?_)
      · have hf := if_yes hc hf
        refine lv_aload_n hx hb dX7_read_80 rfl (lv_at hl 0 rfl) ?_
        refine va_get (D := D) (ci := 7) (v := .int q1.1) (C := RX7) (T := TX7) (N := 7) hx hb hts jX7_read_X7 hown hK hP 0 rfl rfl 0 (by decide) (hts _ qX7_read_42) (fun _ h9 => h9) rfl dX7_read_81 ?_
        refine lv_bipush (v := 116) hx hb dX7_read_84 (by decide) ?_
        refine lv_icmp_ne (tgt := 97) hx hb dX7_read_86 (by decide) (fun hc => ?_) (fun hc => ?_)
        · have hf := if_no hc hf
          exact kX7_read_J97 C hf hrt hP hD hS (lv_sub hl [0, 1] rfl)
        · have hf := if_yes hc hf
          refine lv_aload_n hx hb dX7_read_89 rfl (lv_at hl 0 rfl) ?_
          refine lv_aload_n hx hb dX7_read_90 rfl (lv_at hl 1 rfl) ?_
          obtain ⟨q6, hq, hf⟩ := ob_some hf
          refine cl_i (wc := (uX7_readParents cI cJ a_this q1.1 q2.1 q3.1 q5.1 q5.2.1 q5.2.2 0 a_p1 a_p1_codes i_p1_size g_p1_codes)) (w1 := (uX7_readParents cI cJ a_this q1.1 q2.1 q3.1 q5.1 q5.2.1 q6.2 0 a_p1 a_p1_codes i_p1_size g_p1_codes)) (rn_V (As := [.ref a_p1]) (b := a_this) (rest := []) (wc := (uX7_readParents cI cJ a_this q1.1 q2.1 q3.1 q5.1 q5.2.1 q5.2.2 0 a_p1 a_p1_codes i_p1_size g_p1_codes)) (ci := 7) (q0 := 0) C hP hD [0, 1, 2] rfl rfl rfl rfl (mX7_readParents l D cI cJ H.size hq) 1 gX7_read_X7_readParents rfl ⟨rfl, rfl, Nat.le_of_ble_eq_true rfl, Nat.le_of_ble_eq_true rfl⟩ hdX7_readParents rfl hl.1 rfl (Nat.le_of_ble_eq_true rfl) dX7_read_91) hP hD hS hA [0, 1, 2] rfl rfl (fun H locs hP hD hS => ?_)
          have hP : va_P D vwCl (uX7_read cI cJ a_this q1.1 q2.1 q3.1 q5.1 q5.2.1 q6.2 0 a_p1 a_p1_codes i_p1_size g_p1_codes) H := hP
          have hD : va_D A (uX7_read cI cJ a_this q1.1 q2.1 q3.1 q5.1 q5.2.1 q6.2 0 a_p1 a_p1_codes i_p1_size g_p1_codes) := hD
          refine lv_if_eq (tgt := 101) hx hb dX7_read_94 (by decide) (fun hc => ?_) (fun hc => ?_)
          · have hf := if_yes hc hf
            refine lv_iconst (v := 0) hx hb dX7_read_101 (by decide) ?_
            exact kX7_read_J102 C hf hrt hP hD hS (lv_sub hl [0, 1] rfl)
          · have hf := if_no hc hf
            exact kX7_read_J97 C hf hrt hP hD hS (lv_sub hl [0, 1] rfl)
      · have hf := if_no hc hf
        have ho := Option.some.inj hf
        subst ho
        exact hrt H locs ls _ hP hD hS dX7_read_79
    · have hf := if_yes hc hf
      have ho := Option.some.inj hf
      subst ho
      exact hrt H locs ls _ hP hD hS dX7_read_65
  · have hf := if_yes hc hf
    have ho := Option.some.inj hf
    subst ho
    exact hrt H locs ls _ hP hD hS dX7_read_32
set_option maxHeartbeats 4000000 in
set_option maxRecDepth 100000 in
theorem mX7_read (l : Launch) (D : va_G) (cI cJ : ClassId) (sz : Nat) {a_this : Nat} {i_form : Int32} {i_overOthers : Int32} {i_overTwo : Int32} {i_first : Int32} {i_size : Int32} {i_place : Int32} {i_whole : Int32} {a_p1 : Nat} {a_p1_codes : Nat} {i_p1_size : Int32} {g_p1_codes : Nat → Int32} {z : Nat} {o : Int32 × Int32 × Int32 × Int32 × Int32 × Int32 × Int32} (hf : fX7_read z i_p1_size g_p1_codes i_form i_place i_size i_whole i_first i_overOthers i_overTwo = some o) : Met l yX7_read wsX7_read rX7_read (va_Pc [.ref a_this, .ref a_p1] (kP D cI cJ (uX7_read cI cJ a_this i_form i_overOthers i_overTwo i_first i_size i_place i_whole a_p1 a_p1_codes i_p1_size g_p1_codes) sz)) (va_Qv (fun (_ : Unit) => True) (fun _ t => kB D (va_A (uX7_read cI cJ a_this i_form i_overOthers i_overTwo i_first i_size i_place i_whole a_p1 a_p1_codes i_p1_size g_p1_codes) sz) (uX7_read cI cJ a_this o.2.2.2.2.1 o.2.2.2.2.2.1 o.2.2.2.2.2.2 o.2.1 o.2.2.1 o.2.2.2.1 o.1 a_p1 a_p1_codes i_p1_size g_p1_codes) t) (va_A (uX7_read cI cJ a_this i_form i_overOthers i_overTwo i_first i_size i_place i_whole a_p1 a_p1_codes i_p1_size g_p1_codes) sz)) 0 0 (va_A (uX7_read cI cJ a_this i_form i_overOthers i_overTwo i_first i_size i_place i_whole a_p1 a_p1_codes i_p1_size g_p1_codes) sz) :=
  met_v (by decide) rfl (Nat.le_of_ble_eq_true rfl) (fun p e s m below meth c A Q C hrt ls hl hP hD hS => kX7_read_0 (A := A) C hf hrt hP hD hS hl)

