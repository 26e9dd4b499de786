/-! ===== FrogsOnRing.fillFirst([III)V ===== -/
abbrev uX9_fillFirst (cI cJ : ClassId) (a_p0 : Nat) (n_p0 : Nat) (g_p0 : Nat → Int32) : va_W := [(a_p0, .inl (cI, n_p0, .inl g_p0))]
def rX9_fillFirst : Room := { frames := 0, cells := 0, slots := 0, locals := 0 }
theorem hdX9_fillFirst : yX9_fillFirst.cls = RX9 ∧ yX9_fillFirst.cls ≠ "java/lang/invoke/MethodHandle" ∧ yX9_fillFirst.cls ≠ "java/lang/invoke/VarHandle" ∧ (parseMethodDescriptor yX9_fillFirst.desc).map (fun d => d.parameters.length) = some 3 := by decide +kernel
set_option maxHeartbeats 4000000 in
set_option maxRecDepth 100000 in
theorem kX9_fillFirst_L2 {p : Program} {l : Launch} {e : Env} {s : State} {m : MethodId} {args : Array Value} {below : List Frame} {meth : Method} {c : Code} {Q : State → Prop} {A : Nat → Prop} {D : va_G} {cI cJ : ClassId} (C : bC cX9_fillFirst 4 RX9 wsX9_fillFirst D cI cJ p s m args c meth A)
    {a_p0 : Nat} {n_p0 : Nat} {g_p0 : Nat → Int32} {z : Nat} {x1 : Int32} {x2 : Int32} {x3 : Int32} {o : (Int32 × (Nat → Int32)) ⊕ ((Nat → Int32))} (hf : fX9_fillFirst_L2 z x1 x2 x3 n_p0 g_p0 = some o)
    (hbk : ∀ s', o = .inl s' → ∀ (H : Heap) (locs : List Loc) (ls : Array Slot), va_P D vwCl (uX9_fillFirst cI cJ a_p0 n_p0 s'.2) H → va_D A (uX9_fillFirst cI cJ a_p0 n_p0 s'.2) → va_S A s.heap H locs → lv_has ls 4 [(0, .ref a_p0), (1, .int x1), (2, .int x2), (3, .int s'.1)] → W p l e rX9_fillFirst s m args below meth c H locs 0 0 Q (F0 m 2 ls []))
    (hex : ∀ e', o = .inr e' → ∀ (H : Heap) (locs : List Loc) (ls : Array Slot), va_P D vwCl (uX9_fillFirst cI cJ a_p0 n_p0 e') H → va_D A (uX9_fillFirst cI cJ a_p0 n_p0 e') → va_S A s.heap H locs → lv_has ls 4 [] → W p l e rX9_fillFirst s m args below meth c H locs 0 0 Q (F0 m 23 ls []))
    {H : Heap} {locs : List Loc} {ls : Array Slot} (hP : va_P D vwCl (uX9_fillFirst cI cJ a_p0 n_p0 g_p0) H) (hD : va_D A (uX9_fillFirst cI cJ a_p0 n_p0 g_p0)) (hS : va_S A s.heap H locs) (hl : lv_has ls 4 [(0, .ref a_p0), (1, .int x1), (2, .int x2), (3, .int x3)]) : W p l e rX9_fillFirst s m args below meth c H locs 0 0 Q (F0 m 2 ls []) := by
  obtain ⟨hx, hb, hml, hown, hts, hK, hN, hA, hlocks⟩ := id C
  unfold fX9_fillFirst_L2 at hf
  refine lv_iload_n hx hb dX9_fillFirst_2 rfl (lv_at hl 3 rfl) ?_
  refine lv_iload_n hx hb dX9_fillFirst_3 rfl (lv_at hl 1 rfl) ?_
  refine lv_icmp_ge (tgt := 23) hx hb dX9_fillFirst_4 (by decide) (fun hc => ?_) (fun hc => ?_)
  · have hf := if_yes hc hf
    have ho := Option.some.inj hf
    subst ho
    exact hex _ rfl _ _ _ hP hD hS (lv_sub hl [] rfl)
  · have hf := if_no hc hf
    refine lv_iload_n hx hb dX9_fillFirst_7 rfl (lv_at hl 3 rfl) ?_
    refine lv_aload_n hx hb dX9_fillFirst_8 rfl (lv_at hl 0 rfl) ?_
    refine va_alen (v := nI n_p0) hx hb hK hP 0 0 rfl rfl rfl dX9_fillFirst_9 ?_
    refine lv_icmp_ge (tgt := 23) hx hb dX9_fillFirst_10 (by decide) (fun hc => ?_) (fun hc => ?_)
    · have hf := if_yes hc hf
      have ho := Option.some.inj hf
      subst ho
      exact hex _ rfl _ _ _ hP hD hS (lv_sub hl [] rfl)
    · have hf := if_no hc hf
      refine lv_aload_n hx hb dX9_fillFirst_13 rfl (lv_at hl 0 rfl) ?_
      refine lv_iload_n hx hb dX9_fillFirst_14 rfl (lv_at hl 3 rfl) ?_
      refine lv_iload_n hx hb dX9_fillFirst_15 rfl (lv_at hl 2 rfl) ?_
      obtain ⟨hin, hf⟩ := agd_some hf
      refine va_iast hx hb hK hP hD hS 0 0 rfl rfl hin dX9_fillFirst_16 (fun H locs hP hD hS => ?_)
      have hP : va_P D vwCl (uX9_fillFirst cI cJ a_p0 n_p0 (upd g_p0 x3.toNatClampNeg x2)) H := hP
      have hD : va_D A (uX9_fillFirst cI cJ a_p0 n_p0 (upd g_p0 x3.toNatClampNeg x2)) := hD
      refine lv_iinc (v := (x3 + 1)) (lv' := [(3, .int (x3 + 1)), (0, .ref a_p0), (1, .int x1), (2, .int x2)]) hx hb dX9_fillFirst_17 hl (k := 3) rfl rfl (by decide) rfl (fun ls hl => ?_)
      refine lv_goto (tgt := 2) hx hb dX9_fillFirst_20 (by decide) ?_
      have ho := Option.some.inj hf
      subst ho
      exact hbk _ rfl _ _ _ hP hD hS (lv_sub hl [1, 2, 3, 0] rfl)
set_option maxHeartbeats 4000000 in
set_option maxRecDepth 100000 in
theorem kX9_fillFirst_J23 {p : Program} {l : Launch} {e : Env} {s : State} {m : MethodId} {args : Array Value} {below : List Frame} {meth : Method} {c : Code} {Q : State → Prop} {A : Nat → Prop} {D : va_G} {cI cJ : ClassId} (C : bC cX9_fillFirst 4 RX9 wsX9_fillFirst D cI cJ p s m args c meth A)
    {a_p0 : Nat} {n_p0 : Nat} {g_p0 : Nat → Int32} {z : Nat} {o : (Nat → Int32)} (hf : fX9_fillFirst_J23 z n_p0 g_p0 = some o)
    (hrt : ∀ (H : Heap) (locs : List Loc) (ls : Array Slot) (pc : Nat), va_P D vwCl (uX9_fillFirst cI cJ a_p0 n_p0 o) H → va_D A (uX9_fillFirst cI cJ a_p0 n_p0 o) → va_S A s.heap H locs → decode cX9_fillFirst pc = .ok (.return_, 1) → W p l e rX9_fillFirst s m args below meth c H locs 0 0 Q (F0 m pc ls []))
    {H : Heap} {locs : List Loc} {ls : Array Slot} (hP : va_P D vwCl (uX9_fillFirst cI cJ a_p0 n_p0 g_p0) H) (hD : va_D A (uX9_fillFirst cI cJ a_p0 n_p0 g_p0)) (hS : va_S A s.heap H locs) (hl : lv_has ls 4 []) : W p l e rX9_fillFirst s m args below meth c H locs 0 0 Q (F0 m 23 ls []) := by
  obtain ⟨hx, hb, hml, hown, hts, hK, hN, hA, hlocks⟩ := id C
  unfold fX9_fillFirst_J23 at hf
  have ho := Option.some.inj hf
  subst ho
  exact hrt H locs ls _ hP hD hS dX9_fillFirst_23
set_option maxHeartbeats 4000000 in
set_option maxRecDepth 100000 in
theorem kX9_fillFirst_0 {p : Program} {l : Launch} {e : Env} {s : State} {m : MethodId} {args : Array Value} {below : List Frame} {meth : Method} {c : Code} {Q : State → Prop} {A : Nat → Prop} {D : va_G} {cI cJ : ClassId} (C : bC cX9_fillFirst 4 RX9 wsX9_fillFirst D cI cJ p s m args c meth A)
    {a_p0 : Nat} {n_p0 : Nat} {g_p0 : Nat → Int32} {z : Nat} {x1 : Int32} {x2 : Int32} {o : (Nat → Int32)} (hf : fX9_fillFirst z x1 x2 n_p0 g_p0 = some o)
    (hrt : ∀ (H : Heap) (locs : List Loc) (ls : Array Slot) (pc : Nat), va_P D vwCl (uX9_fillFirst cI cJ a_p0 n_p0 o) H → va_D A (uX9_fillFirst cI cJ a_p0 n_p0 o) → va_S A s.heap H locs → decode cX9_fillFirst pc = .ok (.return_, 1) → W p l e rX9_fillFirst s m args below meth c H locs 0 0 Q (F0 m pc ls []))
    {H : Heap} {locs : List Loc} {ls : Array Slot} (hP : va_P D vwCl (uX9_fillFirst cI cJ a_p0 n_p0 g_p0) H) (hD : va_D A (uX9_fillFirst cI cJ a_p0 n_p0 g_p0)) (hS : va_S A s.heap H locs) (hl : lv_has ls 4 [(0, .ref a_p0), (1, .int x1), (2, .int x2)]) : W p l e rX9_fillFirst s m args below meth c H locs 0 0 Q (F0 m 0 ls []) := by
  obtain ⟨hx, hb, hml, hown, hts, hK, hN, hA, hlocks⟩ := id C
  unfold fX9_fillFirst at hf
  refine lv_iconst (v := 0) hx hb dX9_fillFirst_0 (by decide) ?_
  refine lv_istore_n (lv' := [(3, .int 0), (0, .ref a_p0), (1, .int x1), (2, .int x2)]) hx hb dX9_fillFirst_1 rfl hl (by decide) rfl (fun ls hl => ?_)
  obtain ⟨ex, hlp, hf⟩ := ob_some hf
  refine lp_ind (P := fun sg => ∀ (H : Heap) (locs : List Loc) (ls : Array Slot), va_P D vwCl (uX9_fillFirst cI cJ a_p0 n_p0 sg.2) H → va_D A (uX9_fillFirst cI cJ a_p0 n_p0 sg.2) → va_S A s.heap H locs → lv_has ls 4 [(0, .ref a_p0), (1, .int x1), (2, .int x2), (3, .int sg.1)] → W p l e rX9_fillFirst s m args below meth c H locs 0 0 Q (F0 m 2 ls [])) ?_ z _ hlp H locs ls hP hD hS (lv_sub hl [1, 2, 3, 0] rfl)
  intro sg og hbo hback hexit H locs ls hP hD hS hl
  refine kX9_fillFirst_L2 C hbo (fun s' h => hback s' h) (fun ex h H locs ls hP hD hS hl => ?_) hP hD hS hl
  have he := hexit _ h
  subst he
  exact kX9_fillFirst_J23 C hf hrt hP hD hS (lv_sub hl [] rfl)
set_option maxHeartbeats 4000000 in
set_option maxRecDepth 100000 in
theorem mX9_fillFirst (l : Launch) (D : va_G) (cI cJ : ClassId) (sz : Nat) {a_p0 : Nat} {n_p0 : Nat} {g_p0 : Nat → Int32} {z : Nat} {x1 : Int32} {x2 : Int32} {o : (Nat → Int32)} (hf : fX9_fillFirst z x1 x2 n_p0 g_p0 = some o) : Met l yX9_fillFirst wsX9_fillFirst rX9_fillFirst (va_Pc [.ref a_p0, .int x1, .int x2] (kP D cI cJ (uX9_fillFirst cI cJ a_p0 n_p0 g_p0) sz)) (va_Qv (fun (_ : Unit) => True) (fun _ t => kB D (va_A (uX9_fillFirst cI cJ a_p0 n_p0 g_p0) sz) (uX9_fillFirst cI cJ a_p0 n_p0 o) t) (va_A (uX9_fillFirst cI cJ a_p0 n_p0 g_p0) sz)) 0 0 (va_A (uX9_fillFirst cI cJ a_p0 n_p0 g_p0) sz) :=
  met_v (by decide) rfl (Nat.le_of_ble_eq_true rfl) (fun p e s m below meth c A Q C hrt ls hl hP hD hS => kX9_fillFirst_0 (A := A) C hf hrt hP hD hS hl)

/-! ===== FrogsOnRing$Numbering.numberOf(I)I ===== -/
abbrev uX4_numberOf (cI cJ : ClassId) (a_this : Nat) (a_lowStarts : Nat) (a_highNumbers : Nat) (a_mixtureSizes : Nat) (i_lowBits : Int32) (i_all : Int32) (g_lowStarts : Nat → Int32) (g_highNumbers : Nat → Int32) : va_W := [(a_this, .inr (4, [.ref a_lowStarts, .ref a_highNumbers, .ref a_mixtureSizes, .int i_lowBits, .int i_all])), (a_lowStarts, .inl (cI, 1024, .inl g_lowStarts)), (a_highNumbers, .inl (cI, 256, .inl g_highNumbers))]
def rX4_numberOf : Room := { frames := 0, cells := 0, slots := 0, locals := 0 }
theorem hdX4_numberOf : yX4_numberOf.cls = RX4 ∧ yX4_numberOf.cls ≠ "java/lang/invoke/MethodHandle" ∧ yX4_numberOf.cls ≠ "java/lang/invoke/VarHandle" ∧ (parseMethodDescriptor yX4_numberOf.desc).map (fun d => d.parameters.length) = some 1 := by decide +kernel
set_option maxRecDepth 20000 in
theorem jX4_numberOf_X4 : ∀ w ∈ u_ws RX4 TX4 5, w ∈ wsX4_numberOf := by decide +kernel
set_option maxRecDepth 20000 in
theorem qX4_numberOf_11 : Cond.fieldLink RX4 11 "FrogsOnRing$Numbering" "lowStarts" "[I" ∈ wsX4_numberOf := by decide +kernel
set_option maxRecDepth 20000 in
theorem qX4_numberOf_15 : Cond.fieldLink RX4 15 "FrogsOnRing$Numbering" "highNumbers" "[I" ∈ wsX4_numberOf := by decide +kernel
set_option maxRecDepth 20000 in
theorem qX4_numberOf_27 : Cond.fieldLink RX4 27 "FrogsOnRing$Numbering" "lowBits" "I" ∈ wsX4_numberOf := by decide +kernel
set_option maxRecDepth 20000 in
theorem qX4_numberOf_52 : Cond.fieldLink RX4 52 "FrogsOnRing$Numbering" "all" "I" ∈ wsX4_numberOf := by decide +kernel
set_option maxHeartbeats 4000000 in
set_option maxRecDepth 100000 in
theorem kX4_numberOf_0 {p : Program} {l : Launch} {e : Env} {s : State} {m : MethodId} {args : Array Value} {below : List Frame} {meth : Method} {c : Code} {Q : State → Prop} {A : Nat → Prop} {D : va_G} {cI cJ : ClassId} (C : bC cX4_numberOf 5 RX4 wsX4_numberOf D cI cJ p s m args c meth A)
    {a_this : Nat} {a_lowStarts : Nat} {a_highNumbers : Nat} {a_mixtureSizes : Nat} {i_lowBits : Int32} {i_all : Int32} {g_lowStarts : Nat → Int32} {g_highNumbers : Nat → Int32} {z : Nat} {x1 : Int32} {o : Int32} (hf : fX4_numberOf z x1 i_lowBits g_lowStarts g_highNumbers i_all = some o)
    (hrt : ∀ (H : Heap) (locs : List Loc) (ls : Array Slot) (pc : Nat), va_P D vwCl (uX4_numberOf cI cJ a_this a_lowStarts a_highNumbers a_mixtureSizes i_lowBits i_all g_lowStarts g_highNumbers) H → va_D A (uX4_numberOf cI cJ a_this a_lowStarts a_highNumbers a_mixtureSizes i_lowBits i_all g_lowStarts g_highNumbers) → va_S A s.heap H locs → decode cX4_numberOf pc = .ok (.ireturn, 1) → W p l e rX4_numberOf s m args below meth c H locs 0 0 Q (F0 m pc ls [.int o]))
    {H : Heap} {locs : List Loc} {ls : Array Slot} (hP : va_P D vwCl (uX4_numberOf cI cJ a_this a_lowStarts a_highNumbers a_mixtureSizes i_lowBits i_all g_lowStarts g_highNumbers) H) (hD : va_D A (uX4_numberOf cI cJ a_this a_lowStarts a_highNumbers a_mixtureSizes i_lowBits i_all g_lowStarts g_highNumbers)) (hS : va_S A s.heap H locs) (hl : lv_has ls 5 [(0, .ref a_this), (1, .int x1)]) : W p l e rX4_numberOf s m args below meth c H locs 0 0 Q (F0 m 0 ls []) := by
  obtain ⟨hx, hb, hml, hown, hts, hK, hN, hA, hlocks⟩ := id C
  unfold fX4_numberOf at hf
  refine lv_iload_n hx hb dX4_numberOf_0 rfl (lv_at hl 1 rfl) ?_
  refine lv_iconst (v := 1) hx hb dX4_numberOf_1 (by decide) ?_
  refine lv_aload_n hx hb dX4_numberOf_2 rfl (lv_at hl 0 rfl) ?_
  refine va_get (D := D) (ci := 4) (v := .int i_lowBits) (C := RX4) (T := TX4) (N := 5) hx hb hts jX4_numberOf_X4 hown hK hP 0 rfl rfl 3 (by decide) (hts _ qX4_numberOf_27) (fun _ h9 => h9) rfl dX4_numberOf_3 ?_
  refine lv_ishl hx hb dX4_numberOf_6 ?_
  refine lv_iconst (v := 1) hx hb dX4_numberOf_7 (by decide) ?_
  refine lv_isub hx hb dX4_numberOf_8 ?_
  refine lv_iand hx hb dX4_numberOf_9 ?_
  refine lv_istore_n (lv' := [(2, .int (x1 &&& (((1 : Int32) <<< (i_lowBits &&& 31)) - 1))), (0, .ref a_this), (1, .int x1)]) hx hb dX4_numberOf_10 rfl hl (by decide) rfl (fun ls hl => ?_)
  refine lv_iload_n hx hb dX4_numberOf_11 rfl (lv_at hl 2 rfl) ?_
  refine lv_aload_n hx hb dX4_numberOf_12 rfl (lv_at hl 1 rfl) ?_
  refine va_get (D := D) (ci := 4) (v := .int i_lowBits) (C := RX4) (T := TX4) (N := 5) hx hb hts jX4_numberOf_X4 hown hK hP 0 rfl rfl 3 (by decide) (hts _ qX4_numberOf_27) (fun _ h9 => h9) rfl dX4_numberOf_13 ?_
  refine lv_ishr hx hb dX4_numberOf_16 ?_
  refine lv_istore_n (lv' := [(3, .int (x1 >>> (i_lowBits &&& 31))), (2, .int (x1 &&& (((1 : Int32) <<< (i_lowBits &&& 31)) - 1))), (0, .ref a_this), (1, .int x1)]) hx hb dX4_numberOf_17 rfl hl (by decide) rfl (fun ls hl => ?_)
  refine lv_iload_n hx hb dX4_numberOf_18 rfl (lv_at hl 1 rfl) ?_
  refine lv_if_lt (tgt := 40) hx hb dX4_numberOf_19 (by decide) (fun hc => ?_) (fun hc => ?_)
  · have hf := if_yes hc hf
    refine lv_iconst (v := (-1)) hx hb dX4_numberOf_40 (by decide) ?_
    have ho := Option.some.inj hf
    subst ho
    exact hrt H locs ls _ hP hD hS dX4_numberOf_41
  · have hf := if_no hc hf
    refine lv_iload_n hx hb dX4_numberOf_22 rfl (lv_at hl 1 rfl) ?_
    refine lv_sipush (v := 1024) hx hb dX4_numberOf_23 (by decide) ?_
    refine lv_icmp_ge (tgt := 40) hx hb dX4_numberOf_26 (by decide) (fun hc => ?_) (fun hc => ?_)
    · have hf := if_yes hc hf
      refine lv_iconst (v := (-1)) hx hb dX4_numberOf_40 (by decide) ?_
      have ho := Option.some.inj hf
      subst ho
      exact hrt H locs ls _ hP hD hS dX4_numberOf_41
    · have hf := if_no hc hf
      refine lv_iload_n hx hb dX4_numberOf_29 rfl (lv_at hl 0 rfl) ?_
      refine lv_if_lt (tgt := 40) hx hb dX4_numberOf_30 (by decide) (fun hc => ?_) (fun hc => ?_)
      · have hf := if_yes hc hf
        refine lv_iconst (v := (-1)) hx hb dX4_numberOf_40 (by decide) ?_
        have ho := Option.some.inj hf
        subst ho
        exact hrt H locs ls _ hP hD hS dX4_numberOf_41
      · have hf := if_no hc hf
        refine lv_iload_n hx hb dX4_numberOf_33 rfl (lv_at hl 0 rfl) ?_
        refine lv_sipush (v := 256) hx hb dX4_numberOf_34 (by decide) ?_
        refine lv_icmp_lt (tgt := 42) hx hb dX4_numberOf_37 (by decide) (fun hc => ?_) (fun hc => ?_)
        · have hf := if_yes hc hf
          refine lv_aload_n hx hb dX4_numberOf_42 rfl (lv_at hl 2 rfl) ?_
          refine va_get (D := D) (ci := 4) (v := .ref a_lowStarts) (C := RX4) (T := TX4) (N := 5) hx hb hts jX4_numberOf_X4 hown hK hP 0 rfl rfl 0 (by decide) (hts _ qX4_numberOf_11) (fun _ h9 => h9) rfl dX4_numberOf_43 ?_
          refine lv_iload_n hx hb dX4_numberOf_46 rfl (lv_at hl 1 rfl) ?_
          obtain ⟨hin, hf⟩ := agd_some hf
          refine va_iald hx hb hK hP 1 0 rfl rfl hin dX4_numberOf_47 ?_
          refine lv_aload_n hx hb dX4_numberOf_48 rfl (lv_at hl 2 rfl) ?_
          refine va_get (D := D) (ci := 4) (v := .ref a_highNumbers) (C := RX4) (T := TX4) (N := 5) hx hb hts jX4_numberOf_X4 hown hK hP 0 rfl rfl 1 (by decide) (hts _ qX4_numberOf_15) (fun _ h9 => h9) rfl dX4_numberOf_49 ?_
          refine lv_iload_n hx hb dX4_numberOf_52 rfl (lv_at hl 0 rfl) ?_
          obtain ⟨hin, hf⟩ := agd_some hf
          refine va_iald hx hb hK hP 2 0 rfl rfl hin dX4_numberOf_53 ?_
          refine lv_iadd hx hb dX4_numberOf_54 ?_
          refine lv_istore (lv' := [(4, .int ((g_lowStarts (x1 &&& (((1 : Int32) <<< (i_lowBits &&& 31)) - 1)).toNatClampNeg) + (g_highNumbers (x1 >>> (i_lowBits &&& 31)).toNatClampNeg))), (3, .int (x1 >>> (i_lowBits &&& 31))), (2, .int (x1 &&& (((1 : Int32) <<< (i_lowBits &&& 31)) - 1))), (0, .ref a_this), (1, .int x1)]) hx hb dX4_numberOf_55 hl (by decide) rfl (fun ls hl => ?_)
          refine lv_iload hx hb dX4_numberOf_57 (lv_at hl 0 rfl) ?_
          refine lv_aload_n hx hb dX4_numberOf_59 rfl (lv_at hl 3 rfl) ?_
          refine va_get (D := D) (ci := 4) (v := .int i_all) (C := RX4) (T := TX4) (N := 5) hx hb hts jX4_numberOf_X4 hown hK hP 0 rfl rfl 4 (by decide) (hts _ qX4_numberOf_52) (fun _ h9 => h9) rfl dX4_numberOf_60 ?_
          refine lv_icmp_ge (tgt := 71) hx hb dX4_numberOf_63 (by decide) (fun hc => ?_) (fun hc => ?_)
          · have hf := if_yes hc hf
            refine lv_iconst (v := (-1)) hx hb dX4_numberOf_71 (by decide) ?_
            have ho := Option.some.inj hf
            subst ho
            exact hrt H locs ls _ hP hD hS dX4_numberOf_72
          · have hf := if_no hc hf
            refine lv_iload hx hb dX4_numberOf_66 (lv_at hl 0 rfl) ?_
            refine lv_goto (tgt := 72) hx hb dX4_numberOf_68 (by decide) ?_
            have ho := Option.some.inj hf
            subst ho
            exact hrt H locs ls _ hP hD hS dX4_numberOf_72
        · have hf := if_no hc hf
          refine lv_iconst (v := (-1)) hx hb dX4_numberOf_40 (by decide) ?_
          have ho := Option.some.inj hf
          subst ho
          exact hrt H locs ls _ hP hD hS dX4_numberOf_41
set_option maxHeartbeats 4000000 in
set_option maxRecDepth 100000 in
theorem mX4_numberOf (l : Launch) (D : va_G) (cI cJ : ClassId) (sz : Nat) {a_this : Nat} {a_lowStarts : Nat} {a_highNumbers : Nat} {a_mixtureSizes : Nat} {i_lowBits : Int32} {i_all : Int32} {g_lowStarts : Nat → Int32} {g_highNumbers : Nat → Int32} {z : Nat} {x1 : Int32} {o : Int32} (hf : fX4_numberOf z x1 i_lowBits g_lowStarts g_highNumbers i_all = some o) : Met l yX4_numberOf wsX4_numberOf rX4_numberOf (va_Pc [.ref a_this, .int x1] (kP D cI cJ (uX4_numberOf cI cJ a_this a_lowStarts a_highNumbers a_mixtureSizes i_lowBits i_all g_lowStarts g_highNumbers) sz)) (va_Qi (fun r' (_ : Unit) => r' = o) (fun _ t => kB D (va_A (uX4_numberOf cI cJ a_this a_lowStarts a_highNumbers a_mixtureSizes i_lowBits i_all g_lowStarts g_highNumbers) sz) (uX4_numberOf cI cJ a_this a_lowStarts a_highNumbers a_mixtureSizes i_lowBits i_all g_lowStarts g_highNumbers) t) (va_A (uX4_numberOf cI cJ a_this a_lowStarts a_highNumbers a_mixtureSizes i_lowBits i_all g_lowStarts g_highNumbers) sz)) 0 0 (va_A (uX4_numberOf cI cJ a_this a_lowStarts a_highNumbers a_mixtureSizes i_lowBits i_all g_lowStarts g_highNumbers) sz) :=
  met_i (by decide) rfl (Nat.le_of_ble_eq_true rfl) (fun p e s m below meth c A Q C hrt ls hl hP hD hS => kX4_numberOf_0 (A := A) C hf hrt hP hD hS hl)

/-! ===== java/util/Arrays.fill([II)V ===== -/
abbrev uJ7_fill_53178 (cI cJ : ClassId) (a_p0 : Nat) (n_p0 : Nat) (g_p0 : Nat → Int32) : va_W := [(a_p0, .inl (cI, n_p0, .inl g_p0))]
def rJ7_fill_53178 : Room := { frames := 0, cells := 0, slots := 0, locals := 0 }
theorem hdJ7_fill_53178 : yJ7_fill_53178.cls = RJ7 ∧ yJ7_fill_53178.cls ≠ "java/lang/invoke/MethodHandle" ∧ yJ7_fill_53178.cls ≠ "java/lang/invoke/VarHandle" ∧ (parseMethodDescriptor yJ7_fill_53178.desc).map (fun d => d.parameters.length) = some 2 := by decide +kernel
set_option maxHeartbeats 4000000 in
set_option maxRecDepth 100000 in
theorem kJ7_fill_53178_L5 {p : Program} {l : Launch} {e : Env} {s : State} {m : MethodId} {args : Array Value} {below : List Frame} {meth : Method} {c : Code} {Q : State → Prop} {A : Nat → Prop} {D : va_G} {cI cJ : ClassId} (C : bC cJ7_fill_53178 4 RJ7 wsJ7_fill_53178 D cI cJ p s m args c meth A)
    {a_p0 : Nat} {n_p0 : Nat} {g_p0 : Nat → Int32} {z : Nat} {x1 : Int32} {x2 : Int32} {x3 : Int32} {o : (Int32 × (Nat → Int32)) ⊕ ((Nat → Int32))} (hf : fJ7_fill_53178_L5 z x1 x2 x3 n_p0 g_p0 = some o)
    (hbk : ∀ s', o = .inl s' → ∀ (H : Heap) (locs : List Loc) (ls : Array Slot), va_P D vwCl (uJ7_fill_53178 cI cJ a_p0 n_p0 s'.2) H → va_D A (uJ7_fill_53178 cI cJ a_p0 n_p0 s'.2) → va_S A s.heap H locs → lv_has ls 4 [(0, .ref a_p0), (1, .int x1), (2, .int s'.1), (3, .int x3)] → W p l e rJ7_fill_53178 s m args below meth c H locs 0 0 Q (F0 m 5 ls []))
    (hex : ∀ e', o = .inr e' → ∀ (H : Heap) (locs : List Loc) (ls : Array Slot), va_P D vwCl (uJ7_fill_53178 cI cJ a_p0 n_p0 e') H → va_D A (uJ7_fill_53178 cI cJ a_p0 n_p0 e') → va_S A s.heap H locs → lv_has ls 4 [] → W p l e rJ7_fill_53178 s m args below meth c H locs 0 0 Q (F0 m 20 ls []))
    {H : Heap} {locs : List Loc} {ls : Array Slot} (hP : va_P D vwCl (uJ7_fill_53178 cI cJ a_p0 n_p0 g_p0) H) (hD : va_D A (uJ7_fill_53178 cI cJ a_p0 n_p0 g_p0)) (hS : va_S A s.heap H locs) (hl : lv_has ls 4 [(0, .ref a_p0), (1, .int x1), (2, .int x2), (3, .int x3)]) : W p l e rJ7_fill_53178 s m args below meth c H locs 0 0 Q (F0 m 5 ls []) := by
  obtain ⟨hx, hb, hml, hown, hts, hK, hN, hA, hlocks⟩ := id C
  unfold fJ7_fill_53178_L5 at hf
  refine lv_iload_n hx hb dJ7_fill_53178_5 rfl (lv_at hl 2 rfl) ?_
  refine lv_iload_n hx hb dJ7_fill_53178_6 rfl (lv_at hl 3 rfl) ?_
  refine lv_icmp_ge (tgt := 20) hx hb dJ7_fill_53178_7 (by decide) (fun hc => ?_) (fun hc => ?_)
  · have hf := if_yes hc hf
    have ho := Option.some.inj hf
    subst ho
    exact hex _ rfl _ _ _ hP hD hS (lv_sub hl [] rfl)
  · have hf := if_no hc hf
    refine lv_aload_n hx hb dJ7_fill_53178_10 rfl (lv_at hl 0 rfl) ?_
    refine lv_iload_n hx hb dJ7_fill_53178_11 rfl (lv_at hl 2 rfl) ?_
    refine lv_iload_n hx hb dJ7_fill_53178_12 rfl (lv_at hl 1 rfl) ?_
    obtain ⟨hin, hf⟩ := agd_some hf
    refine va_iast hx hb hK hP hD hS 0 0 rfl rfl hin dJ7_fill_53178_13 (fun H locs hP hD hS => ?_)
    have hP : va_P D vwCl (uJ7_fill_53178 cI cJ a_p0 n_p0 (upd g_p0 x2.toNatClampNeg x1)) H := hP
    have hD : va_D A (uJ7_fill_53178 cI cJ a_p0 n_p0 (upd g_p0 x2.toNatClampNeg x1)) := hD
    refine lv_iinc (v := (x2 + 1)) (lv' := [(2, .int (x2 + 1)), (0, .ref a_p0), (1, .int x1), (3, .int x3)]) hx hb dJ7_fill_53178_14 hl (k := 2) rfl rfl (by decide) rfl (fun ls hl => ?_)
    refine lv_goto (tgt := 5) hx hb dJ7_fill_53178_17 (by decide) ?_
    have ho := Option.some.inj hf
    subst ho
    exact hbk _ rfl _ _ _ hP hD hS (lv_sub hl [1, 2, 0, 3] rfl)
set_option maxHeartbeats 4000000 in
set_option maxRecDepth 100000 in
theorem kJ7_fill_53178_J20 {p : Program} {l : Launch} {e : Env} {s : State} {m : MethodId} {args : Array Value} {below : List Frame} {meth : Method} {c : Code} {Q : State → Prop} {A : Nat → Prop} {D : va_G} {cI cJ : ClassId} (C : bC cJ7_fill_53178 4 RJ7 wsJ7_fill_53178 D cI cJ p s m args c meth A)
    {a_p0 : Nat} {n_p0 : Nat} {g_p0 : Nat → Int32} {z : Nat} {o : (Nat → Int32)} (hf : fJ7_fill_53178_J20 z n_p0 g_p0 = some o)
    (hrt : ∀ (H : Heap) (locs : List Loc) (ls : Array Slot) (pc : Nat), va_P D vwCl (uJ7_fill_53178 cI cJ a_p0 n_p0 o) H → va_D A (uJ7_fill_53178 cI cJ a_p0 n_p0 o) → va_S A s.heap H locs → decode cJ7_fill_53178 pc = .ok (.return_, 1) → W p l e rJ7_fill_53178 s m args below meth c H locs 0 0 Q (F0 m pc ls []))
    {H : Heap} {locs : List Loc} {ls : Array Slot} (hP : va_P D vwCl (uJ7_fill_53178 cI cJ a_p0 n_p0 g_p0) H) (hD : va_D A (uJ7_fill_53178 cI cJ a_p0 n_p0 g_p0)) (hS : va_S A s.heap H locs) (hl : lv_has ls 4 []) : W p l e rJ7_fill_53178 s m args below meth c H locs 0 0 Q (F0 m 20 ls []) := by
  obtain ⟨hx, hb, hml, hown, hts, hK, hN, hA, hlocks⟩ := id C
  unfold fJ7_fill_53178_J20 at hf
  have ho := Option.some.inj hf
  subst ho
  exact hrt H locs ls _ hP hD hS dJ7_fill_53178_20
set_option maxHeartbeats 4000000 in
set_option maxRecDepth 100000 in
theorem kJ7_fill_53178_0 {p : Program} {l : Launch} {e : Env} {s : State} {m : MethodId} {args : Array Value} {below : List Frame} {meth : Method} {c : Code} {Q : State → Prop} {A : Nat → Prop} {D : va_G} {cI cJ : ClassId} (C : bC cJ7_fill_53178 4 RJ7 wsJ7_fill_53178 D cI cJ p s m args c meth A)
    {a_p0 : Nat} {n_p0 : Nat} {g_p0 : Nat → Int32} {z : Nat} {x1 : Int32} {o : (Nat → Int32)} (hf : fJ7_fill_53178 z x1 n_p0 g_p0 = some o)
    (hrt : ∀ (H : Heap) (locs : List Loc) (ls : Array Slot) (pc : Nat), va_P D vwCl (uJ7_fill_53178 cI cJ a_p0 n_p0 o) H → va_D A (uJ7_fill_53178 cI cJ a_p0 n_p0 o) → va_S A s.heap H locs → decode cJ7_fill_53178 pc = .ok (.return_, 1) → W p l e rJ7_fill_53178 s m args below meth c H locs 0 0 Q (F0 m pc ls []))
    {H : Heap} {locs : List Loc} {ls : Array Slot} (hP : va_P D vwCl (uJ7_fill_53178 cI cJ a_p0 n_p0 g_p0) H) (hD : va_D A (uJ7_fill_53178 cI cJ a_p0 n_p0 g_p0)) (hS : va_S A s.heap H locs) (hl : lv_has ls 4 [(0, .ref a_p0), (1, .int x1)]) : W p l e rJ7_fill_53178 s m args below meth c H locs 0 0 Q (F0 m 0 ls []) := by
  obtain ⟨hx, hb, hml, hown, hts, hK, hN, hA, hlocks⟩ := id C
  unfold fJ7_fill_53178 at hf
  refine lv_iconst (v := 0) hx hb dJ7_fill_53178_0 (by decide) ?_
  refine lv_istore_n (lv' := [(2, .int 0), (0, .ref a_p0), (1, .int x1)]) hx hb dJ7_fill_53178_1 rfl hl (by decide) rfl (fun ls hl => ?_)
  refine lv_aload_n hx hb dJ7_fill_53178_2 rfl (lv_at hl 1 rfl) ?_
  refine va_alen (v := nI n_p0) hx hb hK hP 0 0 rfl rfl rfl dJ7_fill_53178_3 ?_
  refine lv_istore_n (lv' := [(3, .int (nI n_p0)), (2, .int 0), (0, .ref a_p0), (1, .int x1)]) hx hb dJ7_fill_53178_4 rfl hl (by decide) rfl (fun ls hl => ?_)
  obtain ⟨ex, hlp, hf⟩ := ob_some hf
  refine lp_ind (P := fun sg => ∀ (H : Heap) (locs : List Loc) (ls : Array Slot), va_P D vwCl (uJ7_fill_53178 cI cJ a_p0 n_p0 sg.2) H → va_D A (uJ7_fill_53178 cI cJ a_p0 n_p0 sg.2) → va_S A s.heap H locs → lv_has ls 4 [(0, .ref a_p0), (1, .int x1), (2, .int sg.1), (3, .int (nI n_p0))] → W p l e rJ7_fill_53178 s m args below meth c H locs 0 0 Q (F0 m 5 ls [])) ?_ z _ hlp H locs ls hP hD hS (lv_sub hl [2, 3, 1, 0] rfl)
  intro sg og hbo hback hexit H locs ls hP hD hS hl
  refine kJ7_fill_53178_L5 C hbo (fun s' h => hback s' h) (fun ex h H locs ls hP hD hS hl => ?_) hP hD hS hl
  have he := hexit _ h
  subst he
  exact kJ7_fill_53178_J20 C hf hrt hP hD hS (lv_sub hl [] rfl)
set_option maxHeartbeats 4000000 in
set_option maxRecDepth 100000 in
theorem mJ7_fill_53178 (l : Launch) (D : va_G) (cI cJ : ClassId) (sz : Nat) {a_p0 : Nat} {n_p0 : Nat} {g_p0 : Nat → Int32} {z : Nat} {x1 : Int32} {o : (Nat → Int32)} (hf : fJ7_fill_53178 z x1 n_p0 g_p0 = some o) : Met l yJ7_fill_53178 wsJ7_fill_53178 rJ7_fill_53178 (va_Pc [.ref a_p0, .int x1] (kP D cI cJ (uJ7_fill_53178 cI cJ a_p0 n_p0 g_p0) sz)) (va_Qv (fun (_ : Unit) => True) (fun _ t => kB D (va_A (uJ7_fill_53178 cI cJ a_p0 n_p0 g_p0) sz) (uJ7_fill_53178 cI cJ a_p0 n_p0 o) t) (va_A (uJ7_fill_53178 cI cJ a_p0 n_p0 g_p0) sz)) 0 0 (va_A (uJ7_fill_53178 cI cJ a_p0 n_p0 g_p0) sz) :=
  met_v (by decide) rfl (Nat.le_of_ble_eq_true rfl) (fun p e s m below meth c A Q C hrt ls hl hP hD hS => kJ7_fill_53178_0 (A := A) C hf hrt hP hD hS hl)

/-! ===== FrogsOnRing.kindAt(II)I ===== -/
abbrev uX9_kindAt (cI cJ : ClassId) : va_W := []
def rX9_kindAt : Room := { frames := 0, cells := 0, slots := 0, locals := 0 }
theorem hdX9_kindAt : yX9_kindAt.cls = RX9 ∧ yX9_kindAt.cls ≠ "java/lang/invoke/MethodHandle" ∧ yX9_kindAt.cls ≠ "java/lang/invoke/VarHandle" ∧ (parseMethodDescriptor yX9_kindAt.desc).map (fun d => d.parameters.length) = some 2 := by decide +kernel
set_option maxHeartbeats 4000000 in
set_option maxRecDepth 100000 in
theorem kX9_kindAt_0 {p : Program} {l : Launch} {e : Env} {s : State} {m : MethodId} {args : Array Value} {below : List Frame} {meth : Method} {c : Code} {Q : State → Prop} {A : Nat → Prop} {D : va_G} {cI cJ : ClassId} (C : bC cX9_kindAt 2 RX9 wsX9_kindAt D cI cJ p s m args c meth A)
    {x0 : Int32} {x1 : Int32} {o : Int32} (hf : fX9_kindAt x0 x1 = o)
    (hrt : ∀ (H : Heap) (locs : List Loc) (ls : Array Slot) (pc : Nat), va_P D vwCl (uX9_kindAt cI cJ) H → va_D A (uX9_kindAt cI cJ) → va_S A s.heap H locs → decode cX9_kindAt pc = .ok (.ireturn, 1) → W p l e rX9_kindAt s m args below meth c H locs 0 0 Q (F0 m pc ls [.int o]))
    {H : Heap} {locs : List Loc} {ls : Array Slot} (hP : va_P D vwCl (uX9_kindAt cI cJ) H) (hD : va_D A (uX9_kindAt cI cJ)) (hS : va_S A s.heap H locs) (hl : lv_has ls 2 [(0, .int x0), (1, .int x1)]) : W p l e rX9_kindAt s m args below meth c H locs 0 0 Q (F0 m 0 ls []) := by
  obtain ⟨hx, hb, hml, hown, hts, hK, hN, hA, hlocks⟩ := id C
  unfold fX9_kindAt at hf
  refine lv_iload_n hx hb dX9_kindAt_0 rfl (lv_at hl 0 rfl) ?_
  refine lv_iconst (v := 2) hx hb dX9_kindAt_1 (by decide) ?_
  refine lv_iload_n hx hb dX9_kindAt_2 rfl (lv_at hl 1 rfl) ?_
  refine lv_imul hx hb dX9_kindAt_3 ?_
  refine lv_ishr hx hb dX9_kindAt_4 ?_
  refine lv_iconst (v := 3) hx hb dX9_kindAt_5 (by decide) ?_
  refine lv_iand hx hb dX9_kindAt_6 ?_
  subst hf
  exact hrt H locs ls _ hP hD hS dX9_kindAt_7
set_option maxHeartbeats 4000000 in
set_option maxRecDepth 100000 in
theorem mX9_kindAt (l : Launch) (D : va_G) (cI cJ : ClassId) (sz : Nat) {x0 : Int32} {x1 : Int32} : Met l yX9_kindAt wsX9_kindAt rX9_kindAt (va_Pc [.int x0, .int x1] (kP D cI cJ (uX9_kindAt cI cJ) sz)) (va_Qi (fun r' (_ : Unit) => r' = (fX9_kindAt x0 x1)) (fun _ t => kB D (va_A (uX9_kindAt cI cJ) sz) (uX9_kindAt cI cJ) t) (va_A (uX9_kindAt cI cJ) sz)) 0 0 (va_A (uX9_kindAt cI cJ) sz) :=
  met_i (by decide) rfl (Nat.le_of_ble_eq_true rfl) (fun p e s m below meth c A Q C hrt ls hl hP hD hS => kX9_kindAt_0 (A := A) C rfl hrt hP hD hS hl)

/-! ===== FrogsOnRing.goesBack(I)Z ===== -/
abbrev uX9_goesBack (cI cJ : ClassId) : va_W := []
def rX9_goesBack : Room := { frames := 0, cells := 0, slots := 0, locals := 0 }
theorem hdX9_goesBack : yX9_goesBack.cls = RX9 ∧ yX9_goesBack.cls ≠ "java/lang/invoke/MethodHandle" ∧ yX9_goesBack.cls ≠ "java/lang/invoke/VarHandle" ∧ (parseMethodDescriptor yX9_goesBack.desc).map (fun d => d.parameters.length) = some 1 := by decide +kernel
set_option maxHeartbeats 4000000 in
set_option maxRecDepth 100000 in
theorem kX9_goesBack_0 {p : Program} {l : Launch} {e : Env} {s : State} {m : MethodId} {args : Array Value} {below : List Frame} {meth : Method} {c : Code} {Q : State → Prop} {A : Nat → Prop} {D : va_G} {cI cJ : ClassId} (C : bC cX9_goesBack 1 RX9 wsX9_goesBack D cI cJ p s m args c meth A)
    {x0 : Int32} {o : Int32} (hf : fX9_goesBack x0 = o)
    (hrt : ∀ (H : Heap) (locs : List Loc) (ls : Array Slot) (pc : Nat), (o = 0 ∨ o = 1) → va_P D vwCl (uX9_goesBack cI cJ) H → va_D A (uX9_goesBack cI cJ) → va_S A s.heap H locs → decode cX9_goesBack pc = .ok (.ireturn, 1) → W p l e rX9_goesBack s m args below meth c H locs 0 0 Q (F0 m pc ls [.int o]))
    {H : Heap} {locs : List Loc} {ls : Array Slot} (hP : va_P D vwCl (uX9_goesBack cI cJ) H) (hD : va_D A (uX9_goesBack cI cJ)) (hS : va_S A s.heap H locs) (hl : lv_has ls 1 [(0, .int x0)]) : W p l e rX9_goesBack s m args below meth c H locs 0 0 Q (F0 m 0 ls []) := by
  obtain ⟨hx, hb, hml, hown, hts, hK, hN, hA, hlocks⟩ := id C
  unfold fX9_goesBack at hf
  refine lv_iload_n hx hb dX9_goesBack_0 rfl (lv_at hl 0 rfl) ?_
  refine lv_iconst (v := 2) hx hb dX9_goesBack_1 (by decide) ?_
  refine lv_iand hx hb dX9_goesBack_2 ?_
  refine lv_if_eq (tgt := 10) hx hb dX9_goesBack_3 (by decide) (fun hc => ?_) (fun hc => ?_)
  · have hf := if_yes hc hf
    refine lv_iconst (v := 0) hx hb dX9_goesBack_10 (by decide) ?_
    subst hf
    exact hrt H locs ls _ (Or.inl rfl) hP hD hS dX9_goesBack_11
  · have hf := if_no hc hf
    refine lv_iconst (v := 1) hx hb dX9_goesBack_6 (by decide) ?_
    refine lv_goto (tgt := 11) hx hb dX9_goesBack_7 (by decide) ?_
    subst hf
    exact hrt H locs ls _ (Or.inr rfl) hP hD hS dX9_goesBack_11
set_option maxHeartbeats 4000000 in
set_option maxRecDepth 100000 in
theorem mX9_goesBack (l : Launch) (D : va_G) (cI cJ : ClassId) (sz : Nat) {x0 : Int32} : Met l yX9_goesBack wsX9_goesBack rX9_goesBack (va_Pc [.int x0] (kP D cI cJ (uX9_goesBack cI cJ) sz)) (va_Qi (fun r' (_ : Unit) => r' = (fX9_goesBack x0)) (fun _ t => kB D (va_A (uX9_goesBack cI cJ) sz) (uX9_goesBack cI cJ) t) (va_A (uX9_goesBack cI cJ) sz)) 0 0 (va_A (uX9_goesBack cI cJ) sz) :=
  met_z (by decide) rfl (Nat.le_of_ble_eq_true rfl) (fun p e s m below meth c A Q C hrt ls hl hP hD hS => kX9_goesBack_0 (A := A) C rfl hrt hP hD hS hl)

/-! ===== FrogsOnRing$Pond.behind(I)I ===== -/
abbrev uX6_behind (cI cJ : ClassId) (a_this : Nat) (a_behinds : Nat) (a_depths : Nat) (i_size : Int32) (i_isRing : Int32) (i_overOthers : Int32) (i_longestLeap : Int32) (g_behinds : Nat → Int32) : va_W := [(a_this, .inr (6, [.ref a_behinds, .ref a_depths, .int i_size, .int i_isRing, .int i_overOthers, .int i_longestLeap])), (a_behinds, .inl (cI, 9, .inl g_behinds))]
def rX6_behind : Room := { frames := 0, cells := 0, slots := 0, locals := 0 }
theorem hdX6_behind : yX6_behind.cls = RX6 ∧ yX6_behind.cls ≠ "java/lang/invoke/MethodHandle" ∧ yX6_behind.cls ≠ "java/lang/invoke/VarHandle" ∧ (parseMethodDescriptor yX6_behind.desc).map (fun d => d.parameters.length) = some 1 := by decide +kernel
set_option maxRecDepth 20000 in
theorem jX6_behind_X6 : ∀ w ∈ u_ws RX6 TX6 6, w ∈ wsX6_behind := by decide +kernel
set_option maxRecDepth 20000 in
theorem qX6_behind_9 : Cond.fieldLink RX6 9 "FrogsOnRing$Pond" "behinds" "[I" ∈ wsX6_behind := by decide +kernel
set_option maxHeartbeats 4000000 in
set_option maxRecDepth 100000 in
theorem kX6_behind_0 {p : Program} {l : Launch} {e : Env} {s : State} {m : MethodId} {args : Array Value} {below : List Frame} {meth : Method} {c : Code} {Q : State → Prop} {A : Nat → Prop} {D : va_G} {cI cJ : ClassId} (C : bC cX6_behind 2 RX6 wsX6_behind D cI cJ p s m args c meth A)
    {a_this : Nat} {a_behinds : Nat} {a_depths : Nat} {i_size : Int32} {i_isRing : Int32} {i_overOthers : Int32} {i_longestLeap : Int32} {g_behinds : Nat → Int32} {z : Nat} {x1 : Int32} {o : Int32} (hf : fX6_behind z x1 g_behinds = some o)
    (hrt : ∀ (H : Heap) (locs : List Loc) (ls : Array Slot) (pc : Nat), va_P D vwCl (uX6_behind cI cJ a_this a_behinds a_depths i_size i_isRing i_overOthers i_longestLeap g_behinds) H → va_D A (uX6_behind cI cJ a_this a_behinds a_depths i_size i_isRing i_overOthers i_longestLeap g_behinds) → va_S A s.heap H locs → decode cX6_behind pc = .ok (.ireturn, 1) → W p l e rX6_behind s m args below meth c H locs 0 0 Q (F0 m pc ls [.int o]))
    {H : Heap} {locs : List Loc} {ls : Array Slot} (hP : va_P D vwCl (uX6_behind cI cJ a_this a_behinds a_depths i_size i_isRing i_overOthers i_longestLeap g_behinds) H) (hD : va_D A (uX6_behind cI cJ a_this a_behinds a_depths i_size i_isRing i_overOthers i_longestLeap g_behinds)) (hS : va_S A s.heap H locs) (hl : lv_has ls 2 [(0, .ref a_this), (1, .int x1)]) : W p l e rX6_behind s m args below meth c H locs 0 0 Q (F0 m 0 ls []) := by
  obtain ⟨hx, hb, hml, hown, hts, hK, hN, hA, hlocks⟩ := id C
  unfold fX6_behind at hf
  refine lv_iload_n hx hb dX6_behind_0 rfl (lv_at hl 1 rfl) ?_
  refine lv_if_lt (tgt := 19) hx hb dX6_behind_1 (by decide) (fun hc => ?_) (fun hc => ?_)
  · have hf := if_yes hc hf
    refine lv_iconst (v := (-1)) hx hb dX6_behind_19 (by decide) ?_
    have ho := Option.some.inj hf
    subst ho
    exact hrt H locs ls _ hP hD hS dX6_behind_20
  · have hf := if_no hc hf
    refine lv_iload_n hx hb dX6_behind_4 rfl (lv_at hl 1 rfl) ?_
    refine lv_bipush (v := 9) hx hb dX6_behind_5 (by decide) ?_
    refine lv_icmp_ge (tgt := 19) hx hb dX6_behind_7 (by decide) (fun hc => ?_) (fun hc => ?_)
    · have hf := if_yes hc hf
      refine lv_iconst (v := (-1)) hx hb dX6_behind_19 (by decide) ?_
      have ho := Option.some.inj hf
      subst ho
      exact hrt H locs ls _ hP hD hS dX6_behind_20
    · have hf := if_no hc hf
      refine lv_aload_n hx hb dX6_behind_10 rfl (lv_at hl 0 rfl) ?_
      refine va_get (D := D) (ci := 6) (v := .ref a_behinds) (C := RX6) (T := TX6) (N := 6) hx hb hts jX6_behind_X6 hown hK hP 0 rfl rfl 0 (by decide) (hts _ qX6_behind_9) (fun _ h9 => h9) rfl dX6_behind_11 ?_
      refine lv_iload_n hx hb dX6_behind_14 rfl (lv_at hl 1 rfl) ?_
      obtain ⟨hin, hf⟩ := agd_some hf
      refine va_iald hx hb hK hP 1 0 rfl rfl hin dX6_behind_15 ?_
      refine lv_goto (tgt := 20) hx hb dX6_behind_16 (by decide) ?_
      have ho := Option.some.inj hf
      subst ho
      exact hrt H locs ls _ hP hD hS dX6_behind_20
set_option maxHeartbeats 4000000 in
set_option maxRecDepth 100000 in
theorem mX6_behind (l : Launch) (D : va_G) (cI cJ : ClassId) (sz : Nat) {a_this : Nat} {a_behinds : Nat} {a_depths : Nat} {i_size : Int32} {i_isRing : Int32} {i_overOthers : Int32} {i_longestLeap : Int32} {g_behinds : Nat → Int32} {z : Nat} {x1 : Int32} {o : Int32} (hf : fX6_behind z x1 g_behinds = some o) : Met l yX6_behind wsX6_behind rX6_behind (va_Pc [.ref a_this, .int x1] (kP D cI cJ (uX6_behind cI cJ a_this a_behinds a_depths i_size i_isRing i_overOthers i_longestLeap g_behinds) sz)) (va_Qi (fun r' (_ : Unit) => r' = o) (fun _ t => kB D (va_A (uX6_behind cI cJ a_this a_behinds a_depths i_size i_isRing i_overOthers i_longestLeap g_behinds) sz) (uX6_behind cI cJ a_this a_behinds a_depths i_size i_isRing i_overOthers i_longestLeap g_behinds) t) (va_A (uX6_behind cI cJ a_this a_behinds a_depths i_size i_isRing i_overOthers i_longestLeap g_behinds) sz)) 0 0 (va_A (uX6_behind cI cJ a_this a_behinds a_depths i_size i_isRing i_overOthers i_longestLeap g_behinds) sz) :=
  met_i (by decide) rfl (Nat.le_of_ble_eq_true rfl) (fun p e s m below meth c A Q C hrt ls hl hP hD hS => kX6_behind_0 (A := A) C hf hrt hP hD hS hl)

/-! ===== FrogsOnRing$Moves.findBackFrom(III)V ===== -/
abbrev uX3_findBackFrom (cI cJ : ClassId) (a_this : Nat) (a_pond : Nat) (a_targets : Nat) (a_pond_behinds : Nat) (a_pond_depths : Nat) (i_pond_size : Int32) (i_pond_isRing : Int32) (i_pond_overOthers : Int32) (i_pond_longestLeap : Int32) (g_pond_behinds : Nat → Int32) (g_targets : Nat → Int32) : va_W := [(a_this, .inr (3, [.ref a_pond, .ref a_targets])), (a_pond, .inr (6, [.ref a_pond_behinds, .ref a_pond_depths, .int i_pond_size, .int i_pond_isRing, .int i_pond_overOthers, .int i_pond_longestLeap])), (a_pond_behinds, .inl (cI, 9, .inl g_pond_behinds)), (a_targets, .inl (cI, 9, .inl g_targets))]
def rX3_findBackFrom : Room := { frames := 1, cells := 0, slots := 0, locals := 21 }
theorem hdX3_findBackFrom : yX3_findBackFrom.cls = RX3 ∧ yX3_findBackFrom.cls ≠ "java/lang/invoke/MethodHandle" ∧ yX3_findBackFrom.cls ≠ "java/lang/invoke/VarHandle" ∧ (parseMethodDescriptor yX3_findBackFrom.desc).map (fun d => d.parameters.length) = some 3 := by decide +kernel
set_option maxRecDepth 20000 in
theorem jX3_findBackFrom_X3 : ∀ w ∈ u_ws RX3 TX3 2, w ∈ wsX3_findBackFrom := by decide +kernel
set_option maxRecDepth 20000 in
theorem jX3_findBackFrom_X6 : ∀ w ∈ u_ws RX6 TX6 6, w ∈ wsX3_findBackFrom := by decide +kernel
set_option maxRecDepth 20000 in
theorem qX3_findBackFrom_15 : Cond.fieldLink RX3 15 "FrogsOnRing$Moves" "pond" "LFrogsOnRing$Pond;" ∈ wsX3_findBackFrom := by decide +kernel
set_option maxRecDepth 20000 in
theorem qX3_findBackFrom_47 : Cond.fieldLink RX3 47 "FrogsOnRing$Pond" "longestLeap" "I" ∈ wsX3_findBackFrom := by decide +kernel
set_option maxRecDepth 20000 in
theorem qX3_findBackFrom_57 : Cond.fieldLink RX3 57 "FrogsOnRing$Pond" "overOthers" "Z" ∈ wsX3_findBackFrom := by decide +kernel
set_option maxRecDepth 20000 in
theorem qX3_findBackFrom_9 : Cond.fieldLink RX3 9 "FrogsOnRing$Moves" "targets" "[I" ∈ wsX3_findBackFrom := by decide +kernel
set_option maxRecDepth 20000 in
theorem qX3_findBackFrom_iX9_kindAt : Cond.initialized yX9_kindAt.cls ∈ wsX3_findBackFrom := by decide +kernel
set_option maxRecDepth 20000 in
theorem qX3_findBackFrom_sX9_kindAt : Cond.static yX9_kindAt ∈ wsX3_findBackFrom := by decide +kernel
set_option maxHeartbeats 4000000 in
set_option maxRecDepth 100000 in
theorem kX3_findBackFrom_L6 {p : Program} {l : Launch} {e : Env} {s : State} {m : MethodId} {args : Array Value} {below : List Frame} {meth : Method} {c : Code} {Q : State → Prop} {A : Nat → Prop} {D : va_G} {cI cJ : ClassId} (C : bC cX3_findBackFrom 7 RX3 wsX3_findBackFrom D cI cJ p s m args c meth A)
    {a_this : Nat} {a_pond : Nat} {a_targets : Nat} {a_pond_behinds : Nat} {a_pond_depths : Nat} {i_pond_size : Int32} {i_pond_isRing : Int32} {i_pond_overOthers : Int32} {i_pond_longestLeap : Int32} {g_pond_behinds : Nat → Int32} {g_targets : Nat → Int32} {z : Nat} {x1 : Int32} {x2 : Int32} {x3 : Int32} {x4 : Int32} {x5 : Int32} {o : (Int32 × Int32 × (Nat → Int32)) ⊕ (((Nat → Int32)) ⊕ ((Nat → Int32)))} (hf : fX3_findBackFrom_L6 z x1 x2 x3 x4 x5 i_pond_longestLeap g_pond_behinds g_targets i_pond_overOthers = some o)
    (hbk : ∀ s', o = .inl s' → ∀ (H : Heap) (locs : List Loc) (ls : Array Slot), va_P D vwCl (uX3_findBackFrom cI cJ a_this a_pond a_targets a_pond_behinds a_pond_depths i_pond_size i_pond_isRing i_pond_overOthers i_pond_longestLeap g_pond_behinds s'.2.2) H → va_D A (uX3_findBackFrom cI cJ a_this a_pond a_targets a_pond_behinds a_pond_depths i_pond_size i_pond_isRing i_pond_overOthers i_pond_longestLeap g_pond_behinds s'.2.2) → va_S A s.heap H locs → lv_has ls 7 [(0, .ref a_this), (1, .int x1), (2, .int x2), (3, .int x3), (4, .int s'.1), (5, .int s'.2.1)] → W p l e rX3_findBackFrom s m args below meth c H locs 0 0 Q (F0 m 6 ls []))
    (hex : ∀ e', o = .inr (.inl e') → ∀ (H : Heap) (locs : List Loc) (ls : Array Slot), va_P D vwCl (uX3_findBackFrom cI cJ a_this a_pond a_targets a_pond_behinds a_pond_depths i_pond_size i_pond_isRing i_pond_overOthers i_pond_longestLeap g_pond_behinds e') H → va_D A (uX3_findBackFrom cI cJ a_this a_pond a_targets a_pond_behinds a_pond_depths i_pond_size i_pond_isRing i_pond_overOthers i_pond_longestLeap g_pond_behinds e') → va_S A s.heap H locs → lv_has ls 7 [] → W p l e rX3_findBackFrom s m args below meth c H locs 0 0 Q (F0 m 85 ls []))
    (hrt : ∀ r', o = .inr (.inr r') → ∀ (H : Heap) (locs : List Loc) (ls : Array Slot) (pc : Nat), va_P D vwCl (uX3_findBackFrom cI cJ a_this a_pond a_targets a_pond_behinds a_pond_depths i_pond_size i_pond_isRing i_pond_overOthers i_pond_longestLeap g_pond_behinds r') H → va_D A (uX3_findBackFrom cI cJ a_this a_pond a_targets a_pond_behinds a_pond_depths i_pond_size i_pond_isRing i_pond_overOthers i_pond_longestLeap g_pond_behinds r') → va_S A s.heap H locs → decode cX3_findBackFrom pc = .ok (.return_, 1) → W p l e rX3_findBackFrom s m args below meth c H locs 0 0 Q (F0 m pc ls []))
    {H : Heap} {locs : List Loc} {ls : Array Slot} (hP : va_P D vwCl (uX3_findBackFrom cI cJ a_this a_pond a_targets a_pond_behinds a_pond_depths i_pond_size i_pond_isRing i_pond_overOthers i_pond_longestLeap g_pond_behinds g_targets) H) (hD : va_D A (uX3_findBackFrom cI cJ a_this a_pond a_targets a_pond_behinds a_pond_depths i_pond_size i_pond_isRing i_pond_overOthers i_pond_longestLeap g_pond_behinds g_targets)) (hS : va_S A s.heap H locs) (hl : lv_has ls 7 [(0, .ref a_this), (1, .int x1), (2, .int x2), (3, .int x3), (4, .int x4), (5, .int x5)]) : W p l e rX3_findBackFrom s m args below meth c H locs 0 0 Q (F0 m 6 ls []) := by
  obtain ⟨hx, hb, hml, hown, hts, hK, hN, hA, hlocks⟩ := id C
  unfold fX3_findBackFrom_L6 at hf
  refine lv_iload hx hb dX3_findBackFrom_6 (lv_at hl 5 rfl) ?_
  refine lv_aload_n hx hb dX3_findBackFrom_8 rfl (lv_at hl 0 rfl) ?_
  refine va_get (D := D) (ci := 3) (v := .ref a_pond) (C := RX3) (T := TX3) (N := 2) hx hb hts jX3_findBackFrom_X3 hown hK hP 0 rfl rfl 0 (by decide) (hts _ qX3_findBackFrom_15) (fun _ h9 => h9) rfl dX3_findBackFrom_9 ?_
  refine va_get (D := D) (ci := 6) (v := .int i_pond_longestLeap) (C := RX6) (T := TX6) (N := 6) hx hb hts jX3_findBackFrom_X6 hown hK hP 1 rfl rfl 5 (by decide) (hts _ qX3_findBackFrom_47) (fun _ h9 => h9) rfl dX3_findBackFrom_12 ?_
  refine lv_icmp_gt (tgt := 85) hx hb dX3_findBackFrom_15 (by decide) (fun hc => ?_) (fun hc => ?_)
  · have hf := if_yes hc hf
    have ho := Option.some.inj hf
    subst ho
    exact hex _ rfl _ _ _ hP hD hS (lv_sub hl [] rfl)
  · have hf := if_no hc hf
    refine lv_aload_n hx hb dX3_findBackFrom_18 rfl (lv_at hl 0 rfl) ?_
    refine va_get (D := D) (ci := 3) (v := .ref a_pond) (C := RX3) (T := TX3) (N := 2) hx hb hts jX3_findBackFrom_X3 hown hK hP 0 rfl rfl 0 (by decide) (hts _ qX3_findBackFrom_15) (fun _ h9 => h9) rfl dX3_findBackFrom_19 ?_
    refine lv_iload hx hb dX3_findBackFrom_22 (lv_at hl 4 rfl) ?_
    obtain ⟨q1, hq, hf⟩ := ob_some hf
    refine cl_i (wc := (uX6_behind cI cJ a_pond a_pond_behinds a_pond_depths i_pond_size i_pond_isRing i_pond_overOthers i_pond_longestLeap g_pond_behinds)) (w1 := (uX6_behind cI cJ a_pond a_pond_behinds a_pond_depths i_pond_size i_pond_isRing i_pond_overOthers i_pond_longestLeap g_pond_behinds)) (rn_V (As := [.int x4]) (b := a_pond) (rest := []) (wc := (uX6_behind cI cJ a_pond a_pond_behinds a_pond_depths i_pond_size i_pond_isRing i_pond_overOthers i_pond_longestLeap g_pond_behinds)) (ci := 6) (q0 := 1) C hP hD [1, 2] rfl rfl rfl rfl (mX6_behind l D cI cJ H.size hq) 1 gX3_findBackFrom_X6_behind rfl ⟨rfl, rfl, Nat.le_of_ble_eq_true rfl, Nat.le_of_ble_eq_true rfl⟩ hdX6_behind rfl hl.1 rfl (Nat.le_of_ble_eq_true rfl) dX3_findBackFrom_24) hP hD hS hA [1, 2] rfl rfl (fun H locs hP hD hS => ?_)
    have hP : va_P D vwCl (uX3_findBackFrom cI cJ a_this a_pond a_targets a_pond_behinds a_pond_depths i_pond_size i_pond_isRing i_pond_overOthers i_pond_longestLeap g_pond_behinds g_targets) H := hP
    have hD : va_D A (uX3_findBackFrom cI cJ a_this a_pond a_targets a_pond_behinds a_pond_depths i_pond_size i_pond_isRing i_pond_overOthers i_pond_longestLeap g_pond_behinds g_targets) := hD
    refine lv_istore (lv' := [(4, .int q1), (0, .ref a_this), (1, .int x1), (2, .int x2), (3, .int x3), (5, .int x5)]) hx hb dX3_findBackFrom_27 hl (by decide) rfl (fun ls hl => ?_)
    refine lv_iload hx hb dX3_findBackFrom_29 (lv_at hl 0 rfl) ?_
    refine lv_if_ge (tgt := 35) hx hb dX3_findBackFrom_31 (by decide) (fun hc => ?_) (fun hc => ?_)
    · have hf := if_yes hc hf
      refine lv_iload_n hx hb dX3_findBackFrom_35 rfl (lv_at hl 2 rfl) ?_
      refine lv_iload hx hb dX3_findBackFrom_36 (lv_at hl 0 rfl) ?_
      refine cl_i (wc := (uX9_kindAt cI cJ)) (w1 := (uX9_kindAt cI cJ)) (rn_N (As := [.int x1, .int q1]) (rest := []) (wc := (uX9_kindAt cI cJ)) C hP hD [] rfl rfl (mX9_kindAt l D cI cJ H.size) 2 gX3_findBackFrom_X9_kindAt_n31 qX3_findBackFrom_iX9_kindAt qX3_findBackFrom_sX9_kindAt 8 rfl rfl ⟨rfl, rfl, Nat.le_of_ble_eq_true rfl, Nat.le_of_ble_eq_true rfl⟩ hdX9_kindAt.2 rfl hl.1 rfl (Nat.le_of_ble_eq_true rfl) dX3_findBackFrom_38) hP hD hS hA [] rfl rfl (fun H locs hP hD hS => ?_)
      have hP : va_P D vwCl (uX3_findBackFrom cI cJ a_this a_pond a_targets a_pond_behinds a_pond_depths i_pond_size i_pond_isRing i_pond_overOthers i_pond_longestLeap g_pond_behinds g_targets) H := hP
      have hD : va_D A (uX3_findBackFrom cI cJ a_this a_pond a_targets a_pond_behinds a_pond_depths i_pond_size i_pond_isRing i_pond_overOthers i_pond_longestLeap g_pond_behinds g_targets) := hD
      refine lv_istore (lv' := [(6, .int (fX9_kindAt x1 q1)), (4, .int q1), (0, .ref a_this), (1, .int x1), (2, .int x2), (3, .int x3), (5, .int x5)]) hx hb dX3_findBackFrom_41 hl (by decide) rfl (fun ls hl => ?_)
      refine lv_iload hx hb dX3_findBackFrom_43 (lv_at hl 0 rfl) ?_
      refine lv_if_ne (tgt := 62) hx hb dX3_findBackFrom_45 (by decide) (fun hc => ?_) (fun hc => ?_)
      · have hf := if_no hc hf
        refine lv_aload_n hx hb dX3_findBackFrom_62 rfl (lv_at hl 2 rfl) ?_
        refine va_get (D := D) (ci := 3) (v := .ref a_pond) (C := RX3) (T := TX3) (N := 2) hx hb hts jX3_findBackFrom_X3 hown hK hP 0 rfl rfl 0 (by decide) (hts _ qX3_findBackFrom_15) (fun _ h9 => h9) rfl dX3_findBackFrom_63 ?_
        refine va_get (D := D) (ci := 6) (v := .int i_pond_overOthers) (C := RX6) (T := TX6) (N := 6) hx hb hts jX3_findBackFrom_X6 hown hK hP 1 rfl rfl 4 (by decide) (hts _ qX3_findBackFrom_57) (fun _ h9 => h9) rfl dX3_findBackFrom_66 ?_
        refine lv_if_eq (tgt := 79) hx hb dX3_findBackFrom_69 (by decide) (fun hc => ?_) (fun hc => ?_)
        · have hf := if_yes hc hf
          refine lv_iinc (v := (x5 + 1)) (lv' := [(5, .int (x5 + 1)), (6, .int (fX9_kindAt x1 q1)), (4, .int q1), (0, .ref a_this), (1, .int x1), (2, .int x2), (3, .int x3)]) hx hb dX3_findBackFrom_79 hl (k := 6) rfl rfl (by decide) rfl (fun ls hl => ?_)
          refine lv_goto (tgt := 6) hx hb dX3_findBackFrom_82 (by decide) ?_
          have ho := Option.some.inj hf
          subst ho
          exact hbk _ rfl _ _ _ hP hD hS (lv_sub hl [3, 4, 5, 6, 2, 0] rfl)
        · have hf := if_no hc hf
          refine lv_iload hx hb dX3_findBackFrom_72 (lv_at hl 0 rfl) ?_
          refine lv_iload_n hx hb dX3_findBackFrom_74 rfl (lv_at hl 5 rfl) ?_
          refine lv_icmp_ne (tgt := 79) hx hb dX3_findBackFrom_75 (by decide) (fun hc => ?_) (fun hc => ?_)
          · have hf := if_no hc hf
            refine lv_iinc (v := (x5 + 1)) (lv' := [(5, .int (x5 + 1)), (6, .int (fX9_kindAt x1 q1)), (4, .int q1), (0, .ref a_this), (1, .int x1), (2, .int x2), (3, .int x3)]) hx hb dX3_findBackFrom_79 hl (k := 6) rfl rfl (by decide) rfl (fun ls hl => ?_)
            refine lv_goto (tgt := 6) hx hb dX3_findBackFrom_82 (by decide) ?_
            have ho := Option.some.inj hf
            subst ho
            exact hbk _ rfl _ _ _ hP hD hS (lv_sub hl [3, 4, 5, 6, 2, 0] rfl)
          · have hf := if_yes hc hf
            have ho := Option.some.inj hf
            subst ho
            exact hrt _ rfl H locs ls _ hP hD hS dX3_findBackFrom_78
      · have hf := if_yes hc hf
        refine lv_aload_n hx hb dX3_findBackFrom_48 rfl (lv_at hl 2 rfl) ?_
        refine va_get (D := D) (ci := 3) (v := .ref a_targets) (C := RX3) (T := TX3) (N := 2) hx hb hts jX3_findBackFrom_X3 hown hK hP 0 rfl rfl 1 (by decide) (hts _ qX3_findBackFrom_9) (fun _ h9 => h9) rfl dX3_findBackFrom_49 ?_
        refine lv_iload_n hx hb dX3_findBackFrom_52 rfl (lv_at hl 4 rfl) ?_
        refine lv_dup2_11 hx hb dX3_findBackFrom_53 rfl rfl ?_
        obtain ⟨hin, hf⟩ := agd_some hf
        refine va_iald hx hb hK hP 3 0 rfl rfl hin dX3_findBackFrom_54 ?_
        refine lv_iconst (v := 1) hx hb dX3_findBackFrom_55 (by decide) ?_
        refine lv_iload hx hb dX3_findBackFrom_56 (lv_at hl 1 rfl) ?_
        refine lv_ishl hx hb dX3_findBackFrom_58 ?_
        refine lv_ior hx hb dX3_findBackFrom_59 ?_
        obtain ⟨hin, hf⟩ := agd_some hf
        refine va_iast hx hb hK hP hD hS 3 0 rfl rfl hin dX3_findBackFrom_60 (fun H locs hP hD hS => ?_)
        have hP : va_P D vwCl (uX3_findBackFrom cI cJ a_this a_pond a_targets a_pond_behinds a_pond_depths i_pond_size i_pond_isRing i_pond_overOthers i_pond_longestLeap g_pond_behinds (upd g_targets x2.toNatClampNeg ((g_targets x2.toNatClampNeg) ||| ((1 : Int32) <<< (q1 &&& 31))))) H := hP
        have hD : va_D A (uX3_findBackFrom cI cJ a_this a_pond a_targets a_pond_behinds a_pond_depths i_pond_size i_pond_isRing i_pond_overOthers i_pond_longestLeap g_pond_behinds (upd g_targets x2.toNatClampNeg ((g_targets x2.toNatClampNeg) ||| ((1 : Int32) <<< (q1 &&& 31))))) := hD
        have ho := Option.some.inj hf
        subst ho
        exact hrt _ rfl H locs ls _ hP hD hS dX3_findBackFrom_61
    · have hf := if_no hc hf
      have ho := Option.some.inj hf
      subst ho
      exact hrt _ rfl H locs ls _ hP hD hS dX3_findBackFrom_34
set_option maxHeartbeats 4000000 in
set_option maxRecDepth 100000 in
theorem kX3_findBackFrom_J85 {p : Program} {l : Launch} {e : Env} {s : State} {m : MethodId} {args : Array Value} {below : List Frame} {meth : Method} {c : Code} {Q : State → Prop} {A : Nat → Prop} {D : va_G} {cI cJ : ClassId} (C : bC cX3_findBackFrom 7 RX3 wsX3_findBackFrom D cI cJ p s m args c meth A)
    {a_this : Nat} {a_pond : Nat} {a_targets : Nat} {a_pond_behinds : Nat} {a_pond_depths : Nat} {i_pond_size : Int32} {i_pond_isRing : Int32} {i_pond_overOthers : Int32} {i_pond_longestLeap : Int32} {g_pond_behinds : Nat → Int32} {g_targets : Nat → Int32} {z : Nat} {o : (Nat → Int32)} (hf : fX3_findBackFrom_J85 z i_pond_longestLeap g_pond_behinds g_targets i_pond_overOthers = some o)
    (hrt : ∀ (H : Heap) (locs : List Loc) (ls : Array Slot) (pc : Nat), va_P D vwCl (uX3_findBackFrom cI cJ a_this a_pond a_targets a_pond_behinds a_pond_depths i_pond_size i_pond_isRing i_pond_overOthers i_pond_longestLeap g_pond_behinds o) H → va_D A (uX3_findBackFrom cI cJ a_this a_pond a_targets a_pond_behinds a_pond_depths i_pond_size i_pond_isRing i_pond_overOthers i_pond_longestLeap g_pond_behinds o) → va_S A s.heap H locs → decode cX3_findBackFrom pc = .ok (.return_, 1) → W p l e rX3_findBackFrom s m args below meth c H locs 0 0 Q (F0 m pc ls []))
    {H : Heap} {locs : List Loc} {ls : Array Slot} (hP : va_P D vwCl (uX3_findBackFrom cI cJ a_this a_pond a_targets a_pond_behinds a_pond_depths i_pond_size i_pond_isRing i_pond_overOthers i_pond_longestLeap g_pond_behinds g_targets) H) (hD : va_D A (uX3_findBackFrom cI cJ a_this a_pond a_targets a_pond_behinds a_pond_depths i_pond_size i_pond_isRing i_pond_overOthers i_pond_longestLeap g_pond_behinds g_targets)) (hS : va_S A s.heap H locs) (hl : lv_has ls 7 []) : W p l e rX3_findBackFrom s m args below meth c H locs 0 0 Q (F0 m 85 ls []) := by
  obtain ⟨hx, hb, hml, hown, hts, hK, hN, hA, hlocks⟩ := id C
  unfold fX3_findBackFrom_J85 at hf
  have ho := Option.some.inj hf
  subst ho
  exact hrt H locs ls _ hP hD hS dX3_findBackFrom_85
set_option maxHeartbeats 4000000 in
set_option maxRecDepth 100000 in
theorem kX3_findBackFrom_0 {p : Program} {l : Launch} {e : Env} {s : State} {m : MethodId} {args : Array Value} {below : List Frame} {meth : Method} {c : Code} {Q : State → Prop} {A : Nat → Prop} {D : va_G} {cI cJ : ClassId} (C : bC cX3_findBackFrom 7 RX3 wsX3_findBackFrom D cI cJ p s m args c meth A)
    {a_this : Nat} {a_pond : Nat} {a_targets : Nat} {a_pond_behinds : Nat} {a_pond_depths : Nat} {i_pond_size : Int32} {i_pond_isRing : Int32} {i_pond_overOthers : Int32} {i_pond_longestLeap : Int32} {g_pond_behinds : Nat → Int32} {g_targets : Nat → Int32} {z : Nat} {x1 : Int32} {x2 : Int32} {x3 : Int32} {o : (Nat → Int32)} (hf : fX3_findBackFrom z x1 x2 x3 i_pond_longestLeap g_pond_behinds g_targets i_pond_overOthers = some o)
    (hrt : ∀ (H : Heap) (locs : List Loc) (ls : Array Slot) (pc : Nat), va_P D vwCl (uX3_findBackFrom cI cJ a_this a_pond a_targets a_pond_behinds a_pond_depths i_pond_size i_pond_isRing i_pond_overOthers i_pond_longestLeap g_pond_behinds o) H → va_D A (uX3_findBackFrom cI cJ a_this a_pond a_targets a_pond_behinds a_pond_depths i_pond_size i_pond_isRing i_pond_overOthers i_pond_longestLeap g_pond_behinds o) → va_S A s.heap H locs → decode cX3_findBackFrom pc = .ok (.return_, 1) → W p l e rX3_findBackFrom s m args below meth c H locs 0 0 Q (F0 m pc ls []))
    {H : Heap} {locs : List Loc} {ls : Array Slot} (hP : va_P D vwCl (uX3_findBackFrom cI cJ a_this a_pond a_targets a_pond_behinds a_pond_depths i_pond_size i_pond_isRing i_pond_overOthers i_pond_longestLeap g_pond_behinds g_targets) H) (hD : va_D A (uX3_findBackFrom cI cJ a_this a_pond a_targets a_pond_behinds a_pond_depths i_pond_size i_pond_isRing i_pond_overOthers i_pond_longestLeap g_pond_behinds g_targets)) (hS : va_S A s.heap H locs) (hl : lv_has ls 7 [(0, .ref a_this), (1, .int x1), (2, .int x2), (3, .int x3)]) : W p l e rX3_findBackFrom s m args below meth c H locs 0 0 Q (F0 m 0 ls []) := by
  obtain ⟨hx, hb, hml, hown, hts, hK, hN, hA, hlocks⟩ := id C
  unfold fX3_findBackFrom at hf
  refine lv_iload_n hx hb dX3_findBackFrom_0 rfl (lv_at hl 2 rfl) ?_
  refine lv_istore (lv' := [(4, .int x2), (0, .ref a_this), (1, .int x1), (2, .int x2), (3, .int x3)]) hx hb dX3_findBackFrom_1 hl (by decide) rfl (fun ls hl => ?_)
  refine lv_iconst (v := 1) hx hb dX3_findBackFrom_3 (by decide) ?_
  refine lv_istore (lv' := [(5, .int 1), (4, .int x2), (0, .ref a_this), (1, .int x1), (2, .int x2), (3, .int x3)]) hx hb dX3_findBackFrom_4 hl (by decide) rfl (fun ls hl => ?_)
  obtain ⟨ex, hlp, hf⟩ := ob_some hf
  refine lp_ind (P := fun sg => ∀ (H : Heap) (locs : List Loc) (ls : Array Slot), va_P D vwCl (uX3_findBackFrom cI cJ a_this a_pond a_targets a_pond_behinds a_pond_depths i_pond_size i_pond_isRing i_pond_overOthers i_pond_longestLeap g_pond_behinds sg.2.2) H → va_D A (uX3_findBackFrom cI cJ a_this a_pond a_targets a_pond_behinds a_pond_depths i_pond_size i_pond_isRing i_pond_overOthers i_pond_longestLeap g_pond_behinds sg.2.2) → va_S A s.heap H locs → lv_has ls 7 [(0, .ref a_this), (1, .int x1), (2, .int x2), (3, .int x3), (4, .int sg.1), (5, .int sg.2.1)] → W p l e rX3_findBackFrom s m args below meth c H locs 0 0 Q (F0 m 6 ls [])) ?_ z _ hlp H locs ls hP hD hS (lv_sub hl [2, 3, 4, 5, 1, 0] rfl)
  intro sg og hbo hback hexit H locs ls hP hD hS hl
  refine kX3_findBackFrom_L6 C hbo (fun s' h => hback s' h) (fun ex h H locs ls hP hD hS hl => ?_) (fun rr h H locs ls pc hP hD hS hdg => ?_) hP hD hS hl
  · have he := hexit _ h
    subst he
    simp only [Sum.elim_inl] at hf
    exact kX3_findBackFrom_J85 C hf hrt hP hD hS (lv_sub hl [] rfl)
  · have he := hexit _ h
    subst he
    simp only [Sum.elim_inr] at hf
    have ho := Option.some.inj hf
    subst ho
    exact hrt H locs ls pc hP hD hS hdg
set_option maxHeartbeats 4000000 in
set_option maxRecDepth 100000 in
theorem mX3_findBackFrom (l : Launch) (D : va_G) (cI cJ : ClassId) (sz : Nat) {a_this : Nat} {a_pond : Nat} {a_targets : Nat} {a_pond_behinds : Nat} {a_pond_depths : Nat} {i_pond_size : Int32} {i_pond_isRing : Int32} {i_pond_overOthers : Int32} {i_pond_longestLeap : Int32} {g_pond_behinds : Nat → Int32} {g_targets : Nat → Int32} {z : Nat} {x1 : Int32} {x2 : Int32} {x3 : Int32} {o : (Nat → Int32)} (hf : fX3_findBackFrom z x1 x2 x3 i_pond_longestLeap g_pond_behinds g_targets i_pond_overOthers = some o) : Met l yX3_findBackFrom wsX3_findBackFrom rX3_findBackFrom (va_Pc [.ref a_this, .int x1, .int x2, .int x3] (kP D cI cJ (uX3_findBackFrom cI cJ a_this a_pond a_targets a_pond_behinds a_pond_depths i_pond_size i_pond_isRing i_pond_overOthers i_pond_longestLeap g_pond_behinds g_targets) sz)) (va_Qv (fun (_ : Unit) => True) (fun _ t => kB D (va_A (uX3_findBackFrom cI cJ a_this a_pond a_targets a_pond_behinds a_pond_depths i_pond_size i_pond_isRing i_pond_overOthers i_pond_longestLeap g_pond_behinds g_targets) sz) (uX3_findBackFrom cI cJ a_this a_pond a_targets a_pond_behinds a_pond_depths i_pond_size i_pond_isRing i_pond_overOthers i_pond_longestLeap g_pond_behinds o) t) (va_A (uX3_findBackFrom cI cJ a_this a_pond a_targets a_pond_behinds a_pond_depths i_pond_size i_pond_isRing i_pond_overOthers i_pond_longestLeap g_pond_behinds g_targets) sz)) 0 0 (va_A (uX3_findBackFrom cI cJ a_this a_pond a_targets a_pond_behinds a_pond_depths i_pond_size i_pond_isRing i_pond_overOthers i_pond_longestLeap g_pond_behinds g_targets) sz) :=
  met_v (by decide) rfl (Nat.le_of_ble_eq_true rfl) (fun p e s m below meth c A Q C hrt ls hl hP hD hS => kX3_findBackFrom_0 (A := A) C hf hrt hP hD hS hl)

/-! ===== FrogsOnRing.goesOn(I)Z ===== -/
abbrev uX9_goesOn (cI cJ : ClassId) : va_W := []
def rX9_goesOn : Room := { frames := 0, cells := 0, slots := 0, locals := 0 }
theorem hdX9_goesOn : yX9_goesOn.cls = RX9 ∧ yX9_goesOn.cls ≠ "java/lang/invoke/MethodHandle" ∧ yX9_goesOn.cls ≠ "java/lang/invoke/VarHandle" ∧ (parseMethodDescriptor yX9_goesOn.desc).map (fun d => d.parameters.length) = some 1 := by decide +kernel
set_option maxHeartbeats 4000000 in
set_option maxRecDepth 100000 in
theorem kX9_goesOn_0 {p : Program} {l : Launch} {e : Env} {s : State} {m : MethodId} {args : Array Value} {below : List Frame} {meth : Method} {c : Code} {Q : State → Prop} {A : Nat → Prop} {D : va_G} {cI cJ : ClassId} (C : bC cX9_goesOn 1 RX9 wsX9_goesOn D cI cJ p s m args c meth A)
    {x0 : Int32} {o : Int32} (hf : fX9_goesOn x0 = o)
    (hrt : ∀ (H : Heap) (locs : List Loc) (ls : Array Slot) (pc : Nat), (o = 0 ∨ o = 1) → va_P D vwCl (uX9_goesOn cI cJ) H → va_D A (uX9_goesOn cI cJ) → va_S A s.heap H locs → decode cX9_goesOn pc = .ok (.ireturn, 1) → W p l e rX9_goesOn s m args below meth c H locs 0 0 Q (F0 m pc ls [.int o]))
    {H : Heap} {locs : List Loc} {ls : Array Slot} (hP : va_P D vwCl (uX9_goesOn cI cJ) H) (hD : va_D A (uX9_goesOn cI cJ)) (hS : va_S A s.heap H locs) (hl : lv_has ls 1 [(0, .int x0)]) : W p l e rX9_goesOn s m args below meth c H locs 0 0 Q (F0 m 0 ls []) := by
  obtain ⟨hx, hb, hml, hown, hts, hK, hN, hA, hlocks⟩ := id C
  unfold fX9_goesOn at hf
  refine lv_iload_n hx hb dX9_goesOn_0 rfl (lv_at hl 0 rfl) ?_
  refine lv_iconst (v := 1) hx hb dX9_goesOn_1 (by decide) ?_
  refine lv_iand hx hb dX9_goesOn_2 ?_
  refine lv_if_eq (tgt := 10) hx hb dX9_goesOn_3 (by decide) (fun hc => ?_) (fun hc => ?_)
  · have hf := if_yes hc hf
    refine lv_iconst (v := 0) hx hb dX9_goesOn_10 (by decide) ?_
    subst hf
    exact hrt H locs ls _ (Or.inl rfl) hP hD hS dX9_goesOn_11
  · have hf := if_no hc hf
    refine lv_iconst (v := 1) hx hb dX9_goesOn_6 (by decide) ?_
    refine lv_goto (tgt := 11) hx hb dX9_goesOn_7 (by decide) ?_
    subst hf
    exact hrt H locs ls _ (Or.inr rfl) hP hD hS dX9_goesOn_11
set_option maxHeartbeats 4000000 in
set_option maxRecDepth 100000 in
theorem mX9_goesOn (l : Launch) (D : va_G) (cI cJ : ClassId) (sz : Nat) {x0 : Int32} : Met l yX9_goesOn wsX9_goesOn rX9_goesOn (va_Pc [.int x0] (kP D cI cJ (uX9_goesOn cI cJ) sz)) (va_Qi (fun r' (_ : Unit) => r' = (fX9_goesOn x0)) (fun _ t => kB D (va_A (uX9_goesOn cI cJ) sz) (uX9_goesOn cI cJ) t) (va_A (uX9_goesOn cI cJ) sz)) 0 0 (va_A (uX9_goesOn cI cJ) sz) :=
  met_z (by decide) rfl (Nat.le_of_ble_eq_true rfl) (fun p e s m below meth c A Q C hrt ls hl hP hD hS => kX9_goesOn_0 (A := A) C rfl hrt hP hD hS hl)

/-! ===== FrogsOnRing$Moves.findOnTo(II)V ===== -/
abbrev uX3_findOnTo (cI cJ : ClassId) (a_this : Nat) (a_pond : Nat) (a_targets : Nat) (a_pond_behinds : Nat) (a_pond_depths : Nat) (i_pond_size : Int32) (i_pond_isRing : Int32) (i_pond_overOthers : Int32) (i_pond_longestLeap : Int32) (g_pond_behinds : Nat → Int32) (g_targets : Nat → Int32) : va_W := [(a_this, .inr (3, [.ref a_pond, .ref a_targets])), (a_pond, .inr (6, [.ref a_pond_behinds, .ref a_pond_depths, .int i_pond_size, .int i_pond_isRing, .int i_pond_overOthers, .int i_pond_longestLeap])), (a_pond_behinds, .inl (cI, 9, .inl g_pond_behinds)), (a_targets, .inl (cI, 9, .inl g_targets))]
def rX3_findOnTo : Room := { frames := 1, cells := 0, slots := 0, locals := 21 }
theorem hdX3_findOnTo : yX3_findOnTo.cls = RX3 ∧ yX3_findOnTo.cls ≠ "java/lang/invoke/MethodHandle" ∧ yX3_findOnTo.cls ≠ "java/lang/invoke/VarHandle" ∧ (parseMethodDescriptor yX3_findOnTo.desc).map (fun d => d.parameters.length) = some 2 := by decide +kernel
set_option maxRecDepth 20000 in
theorem jX3_findOnTo_X3 : ∀ w ∈ u_ws RX3 TX3 2, w ∈ wsX3_findOnTo := by decide +kernel
set_option maxRecDepth 20000 in
theorem jX3_findOnTo_X6 : ∀ w ∈ u_ws RX6 TX6 6, w ∈ wsX3_findOnTo := by decide +kernel
set_option maxRecDepth 20000 in
theorem qX3_findOnTo_15 : Cond.fieldLink RX3 15 "FrogsOnRing$Moves" "pond" "LFrogsOnRing$Pond;" ∈ wsX3_findOnTo := by decide +kernel
set_option maxRecDepth 20000 in
theorem qX3_findOnTo_47 : Cond.fieldLink RX3 47 "FrogsOnRing$Pond" "longestLeap" "I" ∈ wsX3_findOnTo := by decide +kernel
set_option maxRecDepth 20000 in
theorem qX3_findOnTo_57 : Cond.fieldLink RX3 57 "FrogsOnRing$Pond" "overOthers" "Z" ∈ wsX3_findOnTo := by decide +kernel
set_option maxRecDepth 20000 in
theorem qX3_findOnTo_9 : Cond.fieldLink RX3 9 "FrogsOnRing$Moves" "targets" "[I" ∈ wsX3_findOnTo := by decide +kernel
set_option maxRecDepth 20000 in
theorem qX3_findOnTo_iX9_goesOn : Cond.initialized yX9_goesOn.cls ∈ wsX3_findOnTo := by decide +kernel
set_option maxRecDepth 20000 in
theorem qX3_findOnTo_iX9_kindAt : Cond.initialized yX9_kindAt.cls ∈ wsX3_findOnTo := by decide +kernel
set_option maxRecDepth 20000 in
theorem qX3_findOnTo_sX9_goesOn : Cond.static yX9_goesOn ∈ wsX3_findOnTo := by decide +kernel
set_option maxRecDepth 20000 in
theorem qX3_findOnTo_sX9_kindAt : Cond.static yX9_kindAt ∈ wsX3_findOnTo := by decide +kernel
set_option maxHeartbeats 4000000 in
set_option maxRecDepth 100000 in
theorem kX3_findOnTo_J105 {p : Program} {l : Launch} {e : Env} {s : State} {m : MethodId} {args : Array Value} {below : List Frame} {meth : Method} {c : Code} {Q : State → Prop} {A : Nat → Prop} {D : va_G} {cI cJ : ClassId} (C : bC cX3_findOnTo 8 RX3 wsX3_findOnTo D cI cJ p s m args c meth A)
    {a_this : Nat} {a_pond : Nat} {a_targets : Nat} {a_pond_behinds : Nat} {a_pond_depths : Nat} {i_pond_size : Int32} {i_pond_isRing : Int32} {i_pond_overOthers : Int32} {i_pond_longestLeap : Int32} {g_pond_behinds : Nat → Int32} {g_targets : Nat → Int32} {z : Nat} {x1 : Int32} {x2 : Int32} {x3 : Int32} {x4 : Int32} {x5 : Int32} {x6 : Int32} {o : (Int32 × Int32 × Int32 × (Nat → Int32)) ⊕ (((Nat → Int32)) ⊕ ((Nat → Int32)))} (hf : fX3_findOnTo_J105 z x1 x2 x3 x4 x5 x6 i_pond_longestLeap g_pond_behinds i_pond_overOthers g_targets = some o)
    (hbk : ∀ s', o = .inl s' → ∀ (H : Heap) (locs : List Loc) (ls : Array Slot), va_P D vwCl (uX3_findOnTo cI cJ a_this a_pond a_targets a_pond_behinds a_pond_depths i_pond_size i_pond_isRing i_pond_overOthers i_pond_longestLeap g_pond_behinds s'.2.2.2) H → va_D A (uX3_findOnTo cI cJ a_this a_pond a_targets a_pond_behinds a_pond_depths i_pond_size i_pond_isRing i_pond_overOthers i_pond_longestLeap g_pond_behinds s'.2.2.2) → va_S A s.heap H locs → lv_has ls 8 [(0, .ref a_this), (1, .int x1), (2, .int x2), (3, .int s'.1), (4, .int s'.2.1), (5, .int s'.2.2.1)] → W p l e rX3_findOnTo s m args below meth c H locs 0 0 Q (F0 m 8 ls []))
    (hex : ∀ e', o = .inr (.inl e') → ∀ (H : Heap) (locs : List Loc) (ls : Array Slot), va_P D vwCl (uX3_findOnTo cI cJ a_this a_pond a_targets a_pond_behinds a_pond_depths i_pond_size i_pond_isRing i_pond_overOthers i_pond_longestLeap g_pond_behinds e') H → va_D A (uX3_findOnTo cI cJ a_this a_pond a_targets a_pond_behinds a_pond_depths i_pond_size i_pond_isRing i_pond_overOthers i_pond_longestLeap g_pond_behinds e') → va_S A s.heap H locs → lv_has ls 8 [] → W p l e rX3_findOnTo s m args below meth c H locs 0 0 Q (F0 m 120 ls []))
    (hrt : ∀ r', o = .inr (.inr r') → ∀ (H : Heap) (locs : List Loc) (ls : Array Slot) (pc : Nat), va_P D vwCl (uX3_findOnTo cI cJ a_this a_pond a_targets a_pond_behinds a_pond_depths i_pond_size i_pond_isRing i_pond_overOthers i_pond_longestLeap g_pond_behinds r') H → va_D A (uX3_findOnTo cI cJ a_this a_pond a_targets a_pond_behinds a_pond_depths i_pond_size i_pond_isRing i_pond_overOthers i_pond_longestLeap g_pond_behinds r') → va_S A s.heap H locs → decode cX3_findOnTo pc = .ok (.return_, 1) → W p l e rX3_findOnTo s m args below meth c H locs 0 0 Q (F0 m pc ls []))
    {H : Heap} {locs : List Loc} {ls : Array Slot} (hP : va_P D vwCl (uX3_findOnTo cI cJ a_this a_pond a_targets a_pond_behinds a_pond_depths i_pond_size i_pond_isRing i_pond_overOthers i_pond_longestLeap g_pond_behinds g_targets) H) (hD : va_D A (uX3_findOnTo cI cJ a_this a_pond a_targets a_pond_behinds a_pond_depths i_pond_size i_pond_isRing i_pond_overOthers i_pond_longestLeap g_pond_behinds g_targets)) (hS : va_S A s.heap H locs) (hl : lv_has ls 8 [(0, .ref a_this), (1, .int x1), (2, .int x2), (3, .int x3), (4, .int x4), (5, .int x5), (6, .int x6)]) : W p l e rX3_findOnTo s m args below meth c H locs 0 0 Q (F0 m 105 ls []) := by
  obtain ⟨hx, hb, hml, hown, hts, hK, hN, hA, hlocks⟩ := id C
  unfold fX3_findOnTo_J105 at hf
  refine lv_iload hx hb dX3_findOnTo_105 (lv_at hl 4 rfl) ?_
  refine lv_iconst (v := 1) hx hb dX3_findOnTo_107 (by decide) ?_
  refine lv_iload hx hb dX3_findOnTo_108 (lv_at hl 6 rfl) ?_
  refine lv_ishl hx hb dX3_findOnTo_110 ?_
  refine lv_ior hx hb dX3_findOnTo_111 ?_
  refine lv_istore (lv' := [(4, .int (x4 ||| ((1 : Int32) <<< (x6 &&& 31)))), (0, .ref a_this), (1, .int x1), (2, .int x2), (3, .int x3), (5, .int x5), (6, .int x6)]) hx hb dX3_findOnTo_112 hl (by decide) rfl (fun ls hl => ?_)
  refine lv_iinc (v := (x5 + 1)) (lv' := [(5, .int (x5 + 1)), (4, .int (x4 ||| ((1 : Int32) <<< (x6 &&& 31)))), (0, .ref a_this), (1, .int x1), (2, .int x2), (3, .int x3), (6, .int x6)]) hx hb dX3_findOnTo_114 hl (k := 5) rfl rfl (by decide) rfl (fun ls hl => ?_)
  refine lv_goto (tgt := 8) hx hb dX3_findOnTo_117 (by decide) ?_
  have ho := Option.some.inj hf
  subst ho
  exact hbk _ rfl _ _ _ hP hD hS (lv_sub hl [2, 3, 4, 5, 1, 0] rfl)
set_option maxHeartbeats 4000000 in
set_option maxRecDepth 100000 in
theorem kX3_findOnTo_J93 {p : Program} {l : Launch} {e : Env} {s : State} {m : MethodId} {args : Array Value} {below : List Frame} {meth : Method} {c : Code} {Q : State → Prop} {A : Nat → Prop} {D : va_G} {cI cJ : ClassId} (C : bC cX3_findOnTo 8 RX3 wsX3_findOnTo D cI cJ p s m args c meth A)
    {a_this : Nat} {a_pond : Nat} {a_targets : Nat} {a_pond_behinds : Nat} {a_pond_depths : Nat} {i_pond_size : Int32} {i_pond_isRing : Int32} {i_pond_overOthers : Int32} {i_pond_longestLeap : Int32} {g_pond_behinds : Nat → Int32} {g_targets : Nat → Int32} {z : Nat} {x1 : Int32} {x2 : Int32} {x3 : Int32} {x4 : Int32} {x5 : Int32} {x6 : Int32} {o : (Int32 × Int32 × Int32 × (Nat → Int32)) ⊕ (((Nat → Int32)) ⊕ ((Nat → Int32)))} (hf : fX3_findOnTo_J93 z x1 x2 x3 x4 x5 x6 i_pond_longestLeap g_pond_behinds i_pond_overOthers g_targets = some o)
    (hbk : ∀ s', o = .inl s' → ∀ (H : Heap) (locs : List Loc) (ls : Array Slot), va_P D vwCl (uX3_findOnTo cI cJ a_this a_pond a_targets a_pond_behinds a_pond_depths i_pond_size i_pond_isRing i_pond_overOthers i_pond_longestLeap g_pond_behinds s'.2.2.2) H → va_D A (uX3_findOnTo cI cJ a_this a_pond a_targets a_pond_behinds a_pond_depths i_pond_size i_pond_isRing i_pond_overOthers i_pond_longestLeap g_pond_behinds s'.2.2.2) → va_S A s.heap H locs → lv_has ls 8 [(0, .ref a_this), (1, .int x1), (2, .int x2), (3, .int s'.1), (4, .int s'.2.1), (5, .int s'.2.2.1)] → W p l e rX3_findOnTo s m args below meth c H locs 0 0 Q (F0 m 8 ls []))
    (hex : ∀ e', o = .inr (.inl e') → ∀ (H : Heap) (locs : List Loc) (ls : Array Slot), va_P D vwCl (uX3_findOnTo cI cJ a_this a_pond a_targets a_pond_behinds a_pond_depths i_pond_size i_pond_isRing i_pond_overOthers i_pond_longestLeap g_pond_behinds e') H → va_D A (uX3_findOnTo cI cJ a_this a_pond a_targets a_pond_behinds a_pond_depths i_pond_size i_pond_isRing i_pond_overOthers i_pond_longestLeap g_pond_behinds e') → va_S A s.heap H locs → lv_has ls 8 [] → W p l e rX3_findOnTo s m args below meth c H locs 0 0 Q (F0 m 120 ls []))
    (hrt : ∀ r', o = .inr (.inr r') → ∀ (H : Heap) (locs : List Loc) (ls : Array Slot) (pc : Nat), va_P D vwCl (uX3_findOnTo cI cJ a_this a_pond a_targets a_pond_behinds a_pond_depths i_pond_size i_pond_isRing i_pond_overOthers i_pond_longestLeap g_pond_behinds r') H → va_D A (uX3_findOnTo cI cJ a_this a_pond a_targets a_pond_behinds a_pond_depths i_pond_size i_pond_isRing i_pond_overOthers i_pond_longestLeap g_pond_behinds r') → va_S A s.heap H locs → decode cX3_findOnTo pc = .ok (.return_, 1) → W p l e rX3_findOnTo s m args below meth c H locs 0 0 Q (F0 m pc ls []))
    {H : Heap} {locs : List Loc} {ls : Array Slot} (hP : va_P D vwCl (uX3_findOnTo cI cJ a_this a_pond a_targets a_pond_behinds a_pond_depths i_pond_size i_pond_isRing i_pond_overOthers i_pond_longestLeap g_pond_behinds g_targets) H) (hD : va_D A (uX3_findOnTo cI cJ a_this a_pond a_targets a_pond_behinds a_pond_depths i_pond_size i_pond_isRing i_pond_overOthers i_pond_longestLeap g_pond_behinds g_targets)) (hS : va_S A s.heap H locs) (hl : lv_has ls 8 [(0, .ref a_this), (1, .int x1), (2, .int x2), (3, .int x3), (4, .int x4), (5, .int x5), (6, .int x6)]) : W p l e rX3_findOnTo s m args below meth c H locs 0 0 Q (F0 m 93 ls []) := by
  obtain ⟨hx, hb, hml, hown, hts, hK, hN, hA, hlocks⟩ := id C
  unfold fX3_findOnTo_J93 at hf
  refine lv_aload_n hx hb dX3_findOnTo_93 rfl (lv_at hl 0 rfl) ?_
  refine va_get (D := D) (ci := 3) (v := .ref a_targets) (C := RX3) (T := TX3) (N := 2) hx hb hts jX3_findOnTo_X3 hown hK hP 0 rfl rfl 1 (by decide) (hts _ qX3_findOnTo_9) (fun _ h9 => h9) rfl dX3_findOnTo_94 ?_
  refine lv_iload_n hx hb dX3_findOnTo_97 rfl (lv_at hl 3 rfl) ?_
  refine lv_dup2_11 hx hb dX3_findOnTo_98 rfl rfl ?_
  obtain ⟨hin, hf⟩ := agd_some hf
  refine va_iald hx hb hK hP 3 0 rfl rfl hin dX3_findOnTo_99 ?_
  refine lv_iconst (v := 1) hx hb dX3_findOnTo_100 (by decide) ?_
  refine lv_iload_n hx hb dX3_findOnTo_101 rfl (lv_at hl 2 rfl) ?_
  refine lv_ishl hx hb dX3_findOnTo_102 ?_
  refine lv_ior hx hb dX3_findOnTo_103 ?_
  obtain ⟨hin, hf⟩ := agd_some hf
  refine va_iast hx hb hK hP hD hS 3 0 rfl rfl hin dX3_findOnTo_104 (fun H locs hP hD hS => ?_)
  have hP : va_P D vwCl (uX3_findOnTo cI cJ a_this a_pond a_targets a_pond_behinds a_pond_depths i_pond_size i_pond_isRing i_pond_overOthers i_pond_longestLeap g_pond_behinds (upd g_targets x3.toNatClampNeg ((g_targets x3.toNatClampNeg) ||| ((1 : Int32) <<< (x2 &&& 31))))) H := hP
  have hD : va_D A (uX3_findOnTo cI cJ a_this a_pond a_targets a_pond_behinds a_pond_depths i_pond_size i_pond_isRing i_pond_overOthers i_pond_longestLeap g_pond_behinds (upd g_targets x3.toNatClampNeg ((g_targets x3.toNatClampNeg) ||| ((1 : Int32) <<< (x2 &&& 31))))) := hD
  exact kX3_findOnTo_J105 C hf hbk hex hrt hP hD hS (lv_sub hl [0, 1, 2, 3, 4, 5, 6] rfl)
set_option maxHeartbeats 4000000 in
set_option maxRecDepth 100000 in
theorem kX3_findOnTo_J68 {p : Program} {l : Launch} {e : Env} {s : State} {m : MethodId} {args : Array Value} {below : List Frame} {meth : Method} {c : Code} {Q : State → Prop} {A : Nat → Prop} {D : va_G} {cI cJ : ClassId} (C : bC cX3_findOnTo 8 RX3 wsX3_findOnTo D cI cJ p s m args c meth A)
    {a_this : Nat} {a_pond : Nat} {a_targets : Nat} {a_pond_behinds : Nat} {a_pond_depths : Nat} {i_pond_size : Int32} {i_pond_isRing : Int32} {i_pond_overOthers : Int32} {i_pond_longestLeap : Int32} {g_pond_behinds : Nat → Int32} {g_targets : Nat → Int32} {z : Nat} {x1 : Int32} {x2 : Int32} {x3 : Int32} {x4 : Int32} {x5 : Int32} {x6 : Int32} {t0 : Int32} {o : (Int32 × Int32 × Int32 × (Nat → Int32)) ⊕ (((Nat → Int32)) ⊕ ((Nat → Int32)))} (hf : fX3_findOnTo_J68 z x1 x2 x3 x4 x5 x6 t0 i_pond_longestLeap g_pond_behinds i_pond_overOthers g_targets = some o)
    (hbk : ∀ s', o = .inl s' → ∀ (H : Heap) (locs : List Loc) (ls : Array Slot), va_P D vwCl (uX3_findOnTo cI cJ a_this a_pond a_targets a_pond_behinds a_pond_depths i_pond_size i_pond_isRing i_pond_overOthers i_pond_longestLeap g_pond_behinds s'.2.2.2) H → va_D A (uX3_findOnTo cI cJ a_this a_pond a_targets a_pond_behinds a_pond_depths i_pond_size i_pond_isRing i_pond_overOthers i_pond_longestLeap g_pond_behinds s'.2.2.2) → va_S A s.heap H locs → lv_has ls 8 [(0, .ref a_this), (1, .int x1), (2, .int x2), (3, .int s'.1), (4, .int s'.2.1), (5, .int s'.2.2.1)] → W p l e rX3_findOnTo s m args below meth c H locs 0 0 Q (F0 m 8 ls []))
    (hex : ∀ e', o = .inr (.inl e') → ∀ (H : Heap) (locs : List Loc) (ls : Array Slot), va_P D vwCl (uX3_findOnTo cI cJ a_this a_pond a_targets a_pond_behinds a_pond_depths i_pond_size i_pond_isRing i_pond_overOthers i_pond_longestLeap g_pond_behinds e') H → va_D A (uX3_findOnTo cI cJ a_this a_pond a_targets a_pond_behinds a_pond_depths i_pond_size i_pond_isRing i_pond_overOthers i_pond_longestLeap g_pond_behinds e') → va_S A s.heap H locs → lv_has ls 8 [] → W p l e rX3_findOnTo s m args below meth c H locs 0 0 Q (F0 m 120 ls []))
    (hrt : ∀ r', o = .inr (.inr r') → ∀ (H : Heap) (locs : List Loc) (ls : Array Slot) (pc : Nat), va_P D vwCl (uX3_findOnTo cI cJ a_this a_pond a_targets a_pond_behinds a_pond_depths i_pond_size i_pond_isRing i_pond_overOthers i_pond_longestLeap g_pond_behinds r') H → va_D A (uX3_findOnTo cI cJ a_this a_pond a_targets a_pond_behinds a_pond_depths i_pond_size i_pond_isRing i_pond_overOthers i_pond_longestLeap g_pond_behinds r') → va_S A s.heap H locs → decode cX3_findOnTo pc = .ok (.return_, 1) → W p l e rX3_findOnTo s m args below meth c H locs 0 0 Q (F0 m pc ls []))
    {H : Heap} {locs : List Loc} {ls : Array Slot} (hP : va_P D vwCl (uX3_findOnTo cI cJ a_this a_pond a_targets a_pond_behinds a_pond_depths i_pond_size i_pond_isRing i_pond_overOthers i_pond_longestLeap g_pond_behinds g_targets) H) (hD : va_D A (uX3_findOnTo cI cJ a_this a_pond a_targets a_pond_behinds a_pond_depths i_pond_size i_pond_isRing i_pond_overOthers i_pond_longestLeap g_pond_behinds g_targets)) (hS : va_S A s.heap H locs) (hl : lv_has ls 8 [(0, .ref a_this), (1, .int x1), (2, .int x2), (3, .int x3), (4, .int x4), (5, .int x5), (6, .int x6)]) : W p l e rX3_findOnTo s m args below meth c H locs 0 0 Q (F0 m 68 ls [.int t0]) := by
  obtain ⟨hx, hb, hml, hown, hts, hK, hN, hA, hlocks⟩ := id C
  unfold fX3_findOnTo_J68 at hf
  refine lv_istore (lv' := [(7, .int t0), (0, .ref a_this), (1, .int x1), (2, .int x2), (3, .int x3), (4, .int x4), (5, .int x5), (6, .int x6)]) hx hb dX3_findOnTo_68 hl (by decide) rfl (fun ls hl => ?_)
  refine lv_iload hx hb dX3_findOnTo_70 (lv_at hl 7 rfl) ?_
  refine cl_i (wc := (uX9_goesOn cI cJ)) (w1 := (uX9_goesOn cI cJ)) (rn_N (As := [.int x6]) (rest := []) (wc := (uX9_goesOn cI cJ)) C hP hD [] rfl rfl (mX9_goesOn l D cI cJ H.size) 1 gX3_findOnTo_X9_goesOn_n54 qX3_findOnTo_iX9_goesOn qX3_findOnTo_sX9_goesOn 9 rfl rfl ⟨rfl, rfl, Nat.le_of_ble_eq_true rfl, Nat.le_of_ble_eq_true rfl⟩ hdX9_goesOn.2 rfl hl.1 rfl (Nat.le_of_ble_eq_true rfl) dX3_findOnTo_72) hP hD hS hA [] rfl rfl (fun H locs hP hD hS => ?_)
  have hP : va_P D vwCl (uX3_findOnTo cI cJ a_this a_pond a_targets a_pond_behinds a_pond_depths i_pond_size i_pond_isRing i_pond_overOthers i_pond_longestLeap g_pond_behinds g_targets) H := hP
  have hD : va_D A (uX3_findOnTo cI cJ a_this a_pond a_targets a_pond_behinds a_pond_depths i_pond_size i_pond_isRing i_pond_overOthers i_pond_longestLeap g_pond_behinds g_targets) := hD
  refine lv_if_eq (tgt := 105) hx hb dX3_findOnTo_75 (by decide) (fun hc => ?_) (fun hc => ?_)
  · have hf := if_yes hc hf
    exact kX3_findOnTo_J105 C hf hbk hex hrt hP hD hS (lv_sub hl [1, 2, 3, 4, 5, 6, 7] rfl)
  · have hf := if_no hc hf
    refine lv_aload_n hx hb dX3_findOnTo_78 rfl (lv_at hl 1 rfl) ?_
    refine va_get (D := D) (ci := 3) (v := .ref a_pond) (C := RX3) (T := TX3) (N := 2) hx hb hts jX3_findOnTo_X3 hown hK hP 0 rfl rfl 0 (by decide) (hts _ qX3_findOnTo_15) (fun _ h9 => h9) rfl dX3_findOnTo_79 ?_
    refine va_get (D := D) (ci := 6) (v := .int i_pond_overOthers) (C := RX6) (T := TX6) (N := 6) hx hb hts jX3_findOnTo_X6 hown hK hP 1 rfl rfl 4 (by decide) (hts _ qX3_findOnTo_57) (fun _ h9 => h9) rfl dX3_findOnTo_82 ?_
    refine lv_if_eq (tgt := 93) hx hb dX3_findOnTo_85 (by decide) (fun hc => ?_) (fun hc => ?_)
    · have hf := if_yes hc hf
      exact kX3_findOnTo_J93 C hf hbk hex hrt hP hD hS (lv_sub hl [1, 2, 3, 4, 5, 6, 7] rfl)
    · have hf := if_no hc hf
      refine lv_iload hx hb dX3_findOnTo_88 (lv_at hl 0 rfl) ?_
      refine lv_if_ne (tgt := 105) hx hb dX3_findOnTo_90 (by decide) (fun hc => ?_) (fun hc => ?_)
      · have hf := if_no hc hf
        exact kX3_findOnTo_J105 C hf hbk hex hrt hP hD hS (lv_sub hl [1, 2, 3, 4, 5, 6, 7] rfl)
      · have hf := if_yes hc hf
        exact kX3_findOnTo_J93 C hf hbk hex hrt hP hD hS (lv_sub hl [1, 2, 3, 4, 5, 6, 7] rfl)
set_option maxHeartbeats 4000000 in
set_option maxRecDepth 100000 in
theorem kX3_findOnTo_L8 {p : Program} {l : Launch} {e : Env} {s : State} {m : MethodId} {args : Array Value} {below : List Frame} {meth : Method} {c : Code} {Q : State → Prop} {A : Nat → Prop} {D : va_G} {cI cJ : ClassId} (C : bC cX3_findOnTo 8 RX3 wsX3_findOnTo D cI cJ p s m args c meth A)
    {a_this : Nat} {a_pond : Nat} {a_targets : Nat} {a_pond_behinds : Nat} {a_pond_depths : Nat} {i_pond_size : Int32} {i_pond_isRing : Int32} {i_pond_overOthers : Int32} {i_pond_longestLeap : Int32} {g_pond_behinds : Nat → Int32} {g_targets : Nat → Int32} {z : Nat} {x1 : Int32} {x2 : Int32} {x3 : Int32} {x4 : Int32} {x5 : Int32} {o : (Int32 × Int32 × Int32 × (Nat → Int32)) ⊕ (((Nat → Int32)) ⊕ ((Nat → Int32)))} (hf : fX3_findOnTo_L8 z x1 x2 x3 x4 x5 i_pond_longestLeap g_pond_behinds i_pond_overOthers g_targets = some o)
    (hbk : ∀ s', o = .inl s' → ∀ (H : Heap) (locs : List Loc) (ls : Array Slot), va_P D vwCl (uX3_findOnTo cI cJ a_this a_pond a_targets a_pond_behinds a_pond_depths i_pond_size i_pond_isRing i_pond_overOthers i_pond_longestLeap g_pond_behinds s'.2.2.2) H → va_D A (uX3_findOnTo cI cJ a_this a_pond a_targets a_pond_behinds a_pond_depths i_pond_size i_pond_isRing i_pond_overOthers i_pond_longestLeap g_pond_behinds s'.2.2.2) → va_S A s.heap H locs → lv_has ls 8 [(0, .ref a_this), (1, .int x1), (2, .int x2), (3, .int s'.1), (4, .int s'.2.1), (5, .int s'.2.2.1)] → W p l e rX3_findOnTo s m args below meth c H locs 0 0 Q (F0 m 8 ls []))
    (hex : ∀ e', o = .inr (.inl e') → ∀ (H : Heap) (locs : List Loc) (ls : Array Slot), va_P D vwCl (uX3_findOnTo cI cJ a_this a_pond a_targets a_pond_behinds a_pond_depths i_pond_size i_pond_isRing i_pond_overOthers i_pond_longestLeap g_pond_behinds e') H → va_D A (uX3_findOnTo cI cJ a_this a_pond a_targets a_pond_behinds a_pond_depths i_pond_size i_pond_isRing i_pond_overOthers i_pond_longestLeap g_pond_behinds e') → va_S A s.heap H locs → lv_has ls 8 [] → W p l e rX3_findOnTo s m args below meth c H locs 0 0 Q (F0 m 120 ls []))
    (hrt : ∀ r', o = .inr (.inr r') → ∀ (H : Heap) (locs : List Loc) (ls : Array Slot) (pc : Nat), va_P D vwCl (uX3_findOnTo cI cJ a_this a_pond a_targets a_pond_behinds a_pond_depths i_pond_size i_pond_isRing i_pond_overOthers i_pond_longestLeap g_pond_behinds r') H → va_D A (uX3_findOnTo cI cJ a_this a_pond a_targets a_pond_behinds a_pond_depths i_pond_size i_pond_isRing i_pond_overOthers i_pond_longestLeap g_pond_behinds r') → va_S A s.heap H locs → decode cX3_findOnTo pc = .ok (.return_, 1) → W p l e rX3_findOnTo s m args below meth c H locs 0 0 Q (F0 m pc ls []))
    {H : Heap} {locs : List Loc} {ls : Array Slot} (hP : va_P D vwCl (uX3_findOnTo cI cJ a_this a_pond a_targets a_pond_behinds a_pond_depths i_pond_size i_pond_isRing i_pond_overOthers i_pond_longestLeap g_pond_behinds g_targets) H) (hD : va_D A (uX3_findOnTo cI cJ a_this a_pond a_targets a_pond_behinds a_pond_depths i_pond_size i_pond_isRing i_pond_overOthers i_pond_longestLeap g_pond_behinds g_targets)) (hS : va_S A s.heap H locs) (hl : lv_has ls 8 [(0, .ref a_this), (1, .int x1), (2, .int x2), (3, .int x3), (4, .int x4), (5, .int x5)]) : W p l e rX3_findOnTo s m args below meth c H locs 0 0 Q (F0 m 8 ls []) := by
  obtain ⟨hx, hb, hml, hown, hts, hK, hN, hA, hlocks⟩ := id C
  unfold fX3_findOnTo_L8 at hf
  refine lv_iload hx hb dX3_findOnTo_8 (lv_at hl 5 rfl) ?_
  refine lv_aload_n hx hb dX3_findOnTo_10 rfl (lv_at hl 0 rfl) ?_
  refine va_get (D := D) (ci := 3) (v := .ref a_pond) (C := RX3) (T := TX3) (N := 2) hx hb hts jX3_findOnTo_X3 hown hK hP 0 rfl rfl 0 (by decide) (hts _ qX3_findOnTo_15) (fun _ h9 => h9) rfl dX3_findOnTo_11 ?_
  refine va_get (D := D) (ci := 6) (v := .int i_pond_longestLeap) (C := RX6) (T := TX6) (N := 6) hx hb hts jX3_findOnTo_X6 hown hK hP 1 rfl rfl 5 (by decide) (hts _ qX3_findOnTo_47) (fun _ h9 => h9) rfl dX3_findOnTo_14 ?_
  refine lv_icmp_gt (tgt := 120) hx hb dX3_findOnTo_17 (by decide) (fun hc => ?_) (fun hc => ?_)
  · have hf := if_yes hc hf
    have ho := Option.some.inj hf
    subst ho
    exact hex _ rfl _ _ _ hP hD hS (lv_sub hl [] rfl)
  · have hf := if_no hc hf
    refine lv_aload_n hx hb dX3_findOnTo_20 rfl (lv_at hl 0 rfl) ?_
    refine va_get (D := D) (ci := 3) (v := .ref a_pond) (C := RX3) (T := TX3) (N := 2) hx hb hts jX3_findOnTo_X3 hown hK hP 0 rfl rfl 0 (by decide) (hts _ qX3_findOnTo_15) (fun _ h9 => h9) rfl dX3_findOnTo_21 ?_
    refine lv_iload_n hx hb dX3_findOnTo_24 rfl (lv_at hl 3 rfl) ?_
    obtain ⟨q1, hq, hf⟩ := ob_some hf
    refine cl_i (wc := (uX6_behind cI cJ a_pond a_pond_behinds a_pond_depths i_pond_size i_pond_isRing i_pond_overOthers i_pond_longestLeap g_pond_behinds)) (w1 := (uX6_behind cI cJ a_pond a_pond_behinds a_pond_depths i_pond_size i_pond_isRing i_pond_overOthers i_pond_longestLeap g_pond_behinds)) (rn_V (As := [.int x3]) (b := a_pond) (rest := []) (wc := (uX6_behind cI cJ a_pond a_pond_behinds a_pond_depths i_pond_size i_pond_isRing i_pond_overOthers i_pond_longestLeap g_pond_behinds)) (ci := 6) (q0 := 1) C hP hD [1, 2] rfl rfl rfl rfl (mX6_behind l D cI cJ H.size hq) 1 gX3_findOnTo_X6_behind rfl ⟨rfl, rfl, Nat.le_of_ble_eq_true rfl, Nat.le_of_ble_eq_true rfl⟩ hdX6_behind rfl hl.1 rfl (Nat.le_of_ble_eq_true rfl) dX3_findOnTo_25) hP hD hS hA [1, 2] rfl rfl (fun H locs hP hD hS => ?_)
    have hP : va_P D vwCl (uX3_findOnTo cI cJ a_this a_pond a_targets a_pond_behinds a_pond_depths i_pond_size i_pond_isRing i_pond_overOthers i_pond_longestLeap g_pond_behinds g_targets) H := hP
    have hD : va_D A (uX3_findOnTo cI cJ a_this a_pond a_targets a_pond_behinds a_pond_depths i_pond_size i_pond_isRing i_pond_overOthers i_pond_longestLeap g_pond_behinds g_targets) := hD
    refine lv_istore_n (lv' := [(3, .int q1), (0, .ref a_this), (1, .int x1), (2, .int x2), (4, .int x4), (5, .int x5)]) hx hb dX3_findOnTo_28 rfl hl (by decide) rfl (fun ls hl => ?_)
    refine lv_iload_n hx hb dX3_findOnTo_29 rfl (lv_at hl 0 rfl) ?_
    refine lv_if_lt (tgt := 39) hx hb dX3_findOnTo_30 (by decide) (fun hc => ?_) (fun hc => ?_)
    · have hf := if_yes hc hf
      have ho := Option.some.inj hf
      subst ho
      exact hrt _ rfl H locs ls _ hP hD hS dX3_findOnTo_39
    · have hf := if_no hc hf
      refine lv_iload_n hx hb dX3_findOnTo_33 rfl (lv_at hl 0 rfl) ?_
      refine lv_bipush (v := 9) hx hb dX3_findOnTo_34 (by decide) ?_
      refine lv_icmp_lt (tgt := 40) hx hb dX3_findOnTo_36 (by decide) (fun hc => ?_) (fun hc => ?_)
      · have hf := if_yes hc hf
        refine lv_iload_n hx hb dX3_findOnTo_40 rfl (lv_at hl 2 rfl) ?_
        refine lv_iload_n hx hb dX3_findOnTo_41 rfl (lv_at hl 0 rfl) ?_
        refine cl_i (wc := (uX9_kindAt cI cJ)) (w1 := (uX9_kindAt cI cJ)) (rn_N (As := [.int x1, .int q1]) (rest := []) (wc := (uX9_kindAt cI cJ)) C hP hD [] rfl rfl (mX9_kindAt l D cI cJ H.size) 2 gX3_findOnTo_X9_kindAt_n31 qX3_findOnTo_iX9_kindAt qX3_findOnTo_sX9_kindAt 8 rfl rfl ⟨rfl, rfl, Nat.le_of_ble_eq_true rfl, Nat.le_of_ble_eq_true rfl⟩ hdX9_kindAt.2 rfl hl.1 rfl (Nat.le_of_ble_eq_true rfl) dX3_findOnTo_42) hP hD hS hA [] rfl rfl (fun H locs hP hD hS => ?_)
        have hP : va_P D vwCl (uX3_findOnTo cI cJ a_this a_pond a_targets a_pond_behinds a_pond_depths i_pond_size i_pond_isRing i_pond_overOthers i_pond_longestLeap g_pond_behinds g_targets) H := hP
        have hD : va_D A (uX3_findOnTo cI cJ a_this a_pond a_targets a_pond_behinds a_pond_depths i_pond_size i_pond_isRing i_pond_overOthers i_pond_longestLeap g_pond_behinds g_targets) := hD
        refine lv_istore (lv' := [(6, .int (fX9_kindAt x1 q1)), (3, .int q1), (0, .ref a_this), (1, .int x1), (2, .int x2), (4, .int x4), (5, .int x5)]) hx hb dX3_findOnTo_45 hl (by decide) rfl (fun ls hl => ?_)
        refine lv_iload hx hb dX3_findOnTo_47 (lv_at hl 0 rfl) ?_
        refine lv_if_ne (tgt := 53) hx hb dX3_findOnTo_49 (by decide) (fun hc => ?_) (fun hc => ?_)
        · have hf := if_no hc hf
          refine lv_iload hx hb dX3_findOnTo_53 (lv_at hl 5 rfl) ?_
          refine lv_iload hx hb dX3_findOnTo_55 (lv_at hl 0 rfl) ?_
          refine lv_ishr hx hb dX3_findOnTo_57 ?_
          refine lv_iconst (v := 1) hx hb dX3_findOnTo_58 (by decide) ?_
          refine lv_iand hx hb dX3_findOnTo_59 ?_
          refine lv_if_eq (tgt := 67) hx hb dX3_findOnTo_60 (by decide) (fun hc => ?_) (fun hc => ?_)
          · have hf := if_yes hc hf
            refine lv_iconst (v := 0) hx hb dX3_findOnTo_67 (by decide) ?_
            exact kX3_findOnTo_J68 C hf hbk hex hrt hP hD hS (lv_sub hl [2, 3, 4, 1, 5, 6, 0] rfl)
          · have hf := if_no hc hf
            refine lv_iconst (v := 1) hx hb dX3_findOnTo_63 (by decide) ?_
            refine lv_goto (tgt := 68) hx hb dX3_findOnTo_64 (by decide) ?_
            exact kX3_findOnTo_J68 C hf hbk hex hrt hP hD hS (lv_sub hl [2, 3, 4, 1, 5, 6, 0] rfl)
        · have hf := if_yes hc hf
          have ho := Option.some.inj hf
          subst ho
          exact hrt _ rfl H locs ls _ hP hD hS dX3_findOnTo_52
      · have hf := if_no hc hf
        have ho := Option.some.inj hf
        subst ho
        exact hrt _ rfl H locs ls _ hP hD hS dX3_findOnTo_39
set_option maxHeartbeats 4000000 in
set_option maxRecDepth 100000 in
theorem kX3_findOnTo_J120 {p : Program} {l : Launch} {e : Env} {s : State} {m : MethodId} {args : Array Value} {below : List Frame} {meth : Method} {c : Code} {Q : State → Prop} {A : Nat → Prop} {D : va_G} {cI cJ : ClassId} (C : bC cX3_findOnTo 8 RX3 wsX3_findOnTo D cI cJ p s m args c meth A)
    {a_this : Nat} {a_pond : Nat} {a_targets : Nat} {a_pond_behinds : Nat} {a_pond_depths : Nat} {i_pond_size : Int32} {i_pond_isRing : Int32} {i_pond_overOthers : Int32} {i_pond_longestLeap : Int32} {g_pond_behinds : Nat → Int32} {g_targets : Nat → Int32} {z : Nat} {o : (Nat → Int32)} (hf : fX3_findOnTo_J120 z i_pond_longestLeap g_pond_behinds i_pond_overOthers g_targets = some o)
    (hrt : ∀ (H : Heap) (locs : List Loc) (ls : Array Slot) (pc : Nat), va_P D vwCl (uX3_findOnTo cI cJ a_this a_pond a_targets a_pond_behinds a_pond_depths i_pond_size i_pond_isRing i_pond_overOthers i_pond_longestLeap g_pond_behinds o) H → va_D A (uX3_findOnTo cI cJ a_this a_pond a_targets a_pond_behinds a_pond_depths i_pond_size i_pond_isRing i_pond_overOthers i_pond_longestLeap g_pond_behinds o) → va_S A s.heap H locs → decode cX3_findOnTo pc = .ok (.return_, 1) → W p l e rX3_findOnTo s m args below meth c H locs 0 0 Q (F0 m pc ls []))
    {H : Heap} {locs : List Loc} {ls : Array Slot} (hP : va_P D vwCl (uX3_findOnTo cI cJ a_this a_pond a_targets a_pond_behinds a_pond_depths i_pond_size i_pond_isRing i_pond_overOthers i_pond_longestLeap g_pond_behinds g_targets) H) (hD : va_D A (uX3_findOnTo cI cJ a_this a_pond a_targets a_pond_behinds a_pond_depths i_pond_size i_pond_isRing i_pond_overOthers i_pond_longestLeap g_pond_behinds g_targets)) (hS : va_S A s.heap H locs) (hl : lv_has ls 8 []) : W p l e rX3_findOnTo s m args below meth c H locs 0 0 Q (F0 m 120 ls []) := by
  obtain ⟨hx, hb, hml, hown, hts, hK, hN, hA, hlocks⟩ := id C
  unfold fX3_findOnTo_J120 at hf
  have ho := Option.some.inj hf
  subst ho
  exact hrt H locs ls _ hP hD hS dX3_findOnTo_120
set_option maxHeartbeats 4000000 in
set_option maxRecDepth 100000 in
theorem kX3_findOnTo_0 {p : Program} {l : Launch} {e : Env} {s : State} {m : MethodId} {args : Array Value} {below : List Frame} {meth : Method} {c : Code} {Q : State → Prop} {A : Nat → Prop} {D : va_G} {cI cJ : ClassId} (C : bC cX3_findOnTo 8 RX3 wsX3_findOnTo D cI cJ p s m args c meth A)
    {a_this : Nat} {a_pond : Nat} {a_targets : Nat} {a_pond_behinds : Nat} {a_pond_depths : Nat} {i_pond_size : Int32} {i_pond_isRing : Int32} {i_pond_overOthers : Int32} {i_pond_longestLeap : Int32} {g_pond_behinds : Nat → Int32} {g_targets : Nat → Int32} {z : Nat} {x1 : Int32} {x2 : Int32} {o : (Nat → Int32)} (hf : fX3_findOnTo z x1 x2 i_pond_longestLeap g_pond_behinds i_pond_overOthers g_targets = some o)
    (hrt : ∀ (H : Heap) (locs : List Loc) (ls : Array Slot) (pc : Nat), va_P D vwCl (uX3_findOnTo cI cJ a_this a_pond a_targets a_pond_behinds a_pond_depths i_pond_size i_pond_isRing i_pond_overOthers i_pond_longestLeap g_pond_behinds o) H → va_D A (uX3_findOnTo cI cJ a_this a_pond a_targets a_pond_behinds a_pond_depths i_pond_size i_pond_isRing i_pond_overOthers i_pond_longestLeap g_pond_behinds o) → va_S A s.heap H locs → decode cX3_findOnTo pc = .ok (.return_, 1) → W p l e rX3_findOnTo s m args below meth c H locs 0 0 Q (F0 m pc ls []))
    {H : Heap} {locs : List Loc} {ls : Array Slot} (hP : va_P D vwCl (uX3_findOnTo cI cJ a_this a_pond a_targets a_pond_behinds a_pond_depths i_pond_size i_pond_isRing i_pond_overOthers i_pond_longestLeap g_pond_behinds g_targets) H) (hD : va_D A (uX3_findOnTo cI cJ a_this a_pond a_targets a_pond_behinds a_pond_depths i_pond_size i_pond_isRing i_pond_overOthers i_pond_longestLeap g_pond_behinds g_targets)) (hS : va_S A s.heap H locs) (hl : lv_has ls 8 [(0, .ref a_this), (1, .int x1), (2, .int x2)]) : W p l e rX3_findOnTo s m args below meth c H locs 0 0 Q (F0 m 0 ls []) := by
  obtain ⟨hx, hb, hml, hown, hts, hK, hN, hA, hlocks⟩ := id C
  unfold fX3_findOnTo at hf
  refine lv_iload_n hx hb dX3_findOnTo_0 rfl (lv_at hl 2 rfl) ?_
  refine lv_istore_n (lv' := [(3, .int x2), (0, .ref a_this), (1, .int x1), (2, .int x2)]) hx hb dX3_findOnTo_1 rfl hl (by decide) rfl (fun ls hl => ?_)
  refine lv_iconst (v := 0) hx hb dX3_findOnTo_2 (by decide) ?_
  refine lv_istore (lv' := [(4, .int 0), (3, .int x2), (0, .ref a_this), (1, .int x1), (2, .int x2)]) hx hb dX3_findOnTo_3 hl (by decide) rfl (fun ls hl => ?_)
  refine lv_iconst (v := 1) hx hb dX3_findOnTo_5 (by decide) ?_
  refine lv_istore (lv' := [(5, .int 1), (4, .int 0), (3, .int x2), (0, .ref a_this), (1, .int x1), (2, .int x2)]) hx hb dX3_findOnTo_6 hl (by decide) rfl (fun ls hl => ?_)
  obtain ⟨ex, hlp, hf⟩ := ob_some hf
  refine lp_ind (P := fun sg => ∀ (H : Heap) (locs : List Loc) (ls : Array Slot), va_P D vwCl (uX3_findOnTo cI cJ a_this a_pond a_targets a_pond_behinds a_pond_depths i_pond_size i_pond_isRing i_pond_overOthers i_pond_longestLeap g_pond_behinds sg.2.2.2) H → va_D A (uX3_findOnTo cI cJ a_this a_pond a_targets a_pond_behinds a_pond_depths i_pond_size i_pond_isRing i_pond_overOthers i_pond_longestLeap g_pond_behinds sg.2.2.2) → va_S A s.heap H locs → lv_has ls 8 [(0, .ref a_this), (1, .int x1), (2, .int x2), (3, .int sg.1), (4, .int sg.2.1), (5, .int sg.2.2.1)] → W p l e rX3_findOnTo s m args below meth c H locs 0 0 Q (F0 m 8 ls [])) ?_ z _ hlp H locs ls hP hD hS (lv_sub hl [3, 4, 5, 2, 1, 0] rfl)
  intro sg og hbo hback hexit H locs ls hP hD hS hl
  refine kX3_findOnTo_L8 C hbo (fun s' h => hback s' h) (fun ex h H locs ls hP hD hS hl => ?_) (fun rr h H locs ls pc hP hD hS hdg => ?_) hP hD hS hl
  · have he := hexit _ h
    subst he
    simp only [Sum.elim_inl] at hf
    exact kX3_findOnTo_J120 C hf hrt hP hD hS (lv_sub hl [] rfl)
  · have he := hexit _ h
    subst he
    simp only [Sum.elim_inr] at hf
    have ho := Option.some.inj hf
    subst ho
    exact hrt H locs ls pc hP hD hS hdg
set_option maxHeartbeats 4000000 in
set_option maxRecDepth 100000 in
theorem mX3_findOnTo (l : Launch) (D : va_G) (cI cJ : ClassId) (sz : Nat) {a_this : Nat} {a_pond : Nat} {a_targets : Nat} {a_pond_behinds : Nat} {a_pond_depths : Nat} {i_pond_size : Int32} {i_pond_isRing : Int32} {i_pond_overOthers : Int32} {i_pond_longestLeap : Int32} {g_pond_behinds : Nat → Int32} {g_targets : Nat → Int32} {z : Nat} {x1 : Int32} {x2 : Int32} {o : (Nat → Int32)} (hf : fX3_findOnTo z x1 x2 i_pond_longestLeap g_pond_behinds i_pond_overOthers g_targets = some o) : Met l yX3_findOnTo wsX3_findOnTo rX3_findOnTo (va_Pc [.ref a_this, .int x1, .int x2] (kP D cI cJ (uX3_findOnTo cI cJ a_this a_pond a_targets a_pond_behinds a_pond_depths i_pond_size i_pond_isRing i_pond_overOthers i_pond_longestLeap g_pond_behinds g_targets) sz)) (va_Qv (fun (_ : Unit) => True) (fun _ t => kB D (va_A (uX3_findOnTo cI cJ a_this a_pond a_targets a_pond_behinds a_pond_depths i_pond_size i_pond_isRing i_pond_overOthers i_pond_longestLeap g_pond_behinds g_targets) sz) (uX3_findOnTo cI cJ a_this a_pond a_targets a_pond_behinds a_pond_depths i_pond_size i_pond_isRing i_pond_overOthers i_pond_longestLeap g_pond_behinds o) t) (va_A (uX3_findOnTo cI cJ a_this a_pond a_targets a_pond_behinds a_pond_depths i_pond_size i_pond_isRing i_pond_overOthers i_pond_longestLeap g_pond_behinds g_targets) sz)) 0 0 (va_A (uX3_findOnTo cI cJ a_this a_pond a_targets a_pond_behinds a_pond_depths i_pond_size i_pond_isRing i_pond_overOthers i_pond_longestLeap g_pond_behinds g_targets) sz) :=
  met_v (by decide) rfl (Nat.le_of_ble_eq_true rfl) (fun p e s m below meth c A Q C hrt ls hl hP hD hS => kX3_findOnTo_0 (A := A) C hf hrt hP hD hS hl)

/-! ===== FrogsOnRing$Moves.find(I)V ===== -/
abbrev uX3_find (cI cJ : ClassId) (a_this : Nat) (a_pond : Nat) (a_targets : Nat) (g_targets : Nat → Int32) (a_pond_behinds : Nat) (a_pond_depths : Nat) (i_pond_size : Int32) (i_pond_isRing : Int32) (i_pond_overOthers : Int32) (i_pond_longestLeap : Int32) (g_pond_behinds : Nat → Int32) : va_W := [(a_this, .inr (3, [.ref a_pond, .ref a_targets])), (a_targets, .inl (cI, 9, .inl g_targets)), (a_pond, .inr (6, [.ref a_pond_behinds, .ref a_pond_depths, .int i_pond_size, .int i_pond_isRing, .int i_pond_overOthers, .int i_pond_longestLeap])), (a_pond_behinds, .inl (cI, 9, .inl g_pond_behinds))]
def rX3_find : Room := { frames := 2, cells := 0, slots := 0, locals := 48 }
theorem hdX3_find : yX3_find.cls = RX3 ∧ yX3_find.cls ≠ "java/lang/invoke/MethodHandle" ∧ yX3_find.cls ≠ "java/lang/invoke/VarHandle" ∧ (parseMethodDescriptor yX3_find.desc).map (fun d => d.parameters.length) = some 1 := by decide +kernel
set_option maxRecDepth 20000 in
theorem jX3_find_X3 : ∀ w ∈ u_ws RX3 TX3 2, w ∈ wsX3_find := by decide +kernel
set_option maxRecDepth 20000 in
theorem jX3_find_X6 : ∀ w ∈ u_ws RX6 TX6 6, w ∈ wsX3_find := by decide +kernel
set_option maxRecDepth 20000 in
theorem qX3_find_15 : Cond.fieldLink RX3 15 "FrogsOnRing$Moves" "pond" "LFrogsOnRing$Pond;" ∈ wsX3_find := by decide +kernel
set_option maxRecDepth 20000 in
theorem qX3_find_25 : Cond.fieldLink RX3 25 "FrogsOnRing$Pond" "size" "I" ∈ wsX3_find := by decide +kernel
set_option maxRecDepth 20000 in
theorem qX3_find_9 : Cond.fieldLink RX3 9 "FrogsOnRing$Moves" "targets" "[I" ∈ wsX3_find := by decide +kernel
set_option maxRecDepth 20000 in
theorem qX3_find_iX9_goesBack : Cond.initialized yX9_goesBack.cls ∈ wsX3_find := by decide +kernel
set_option maxRecDepth 20000 in
theorem qX3_find_iX9_kindAt : Cond.initialized yX9_kindAt.cls ∈ wsX3_find := by decide +kernel
set_option maxRecDepth 20000 in
theorem qX3_find_sX9_goesBack : Cond.static yX9_goesBack ∈ wsX3_find := by decide +kernel
set_option maxRecDepth 20000 in
theorem qX3_find_sX9_kindAt : Cond.static yX9_kindAt ∈ wsX3_find := by decide +kernel
set_option maxHeartbeats 4000000 in
set_option maxRecDepth 100000 in
theorem kX3_find_L10 {p : Program} {l : Launch} {e : Env} {s : State} {m : MethodId} {args : Array Value} {below : List Frame} {meth : Method} {c : Code} {Q : State → Prop} {A : Nat → Prop} {D : va_G} {cI cJ : ClassId} (C : bC cX3_find 4 RX3 wsX3_find D cI cJ p s m args c meth A)
    {a_this : Nat} {a_pond : Nat} {a_targets : Nat} {g_targets : Nat → Int32} {a_pond_behinds : Nat} {a_pond_depths : Nat} {i_pond_size : Int32} {i_pond_isRing : Int32} {i_pond_overOthers : Int32} {i_pond_longestLeap : Int32} {g_pond_behinds : Nat → Int32} {z : Nat} {x1 : Int32} {x2 : Int32} {o : (Int32 × (Nat → Int32)) ⊕ ((Nat → Int32))} (hf : fX3_find_L10 z x1 x2 g_targets i_pond_size i_pond_longestLeap g_pond_behinds i_pond_overOthers = some o)
    (hbk : ∀ s', o = .inl s' → ∀ (H : Heap) (locs : List Loc) (ls : Array Slot), va_P D vwCl (uX3_find cI cJ a_this a_pond a_targets s'.2 a_pond_behinds a_pond_depths i_pond_size i_pond_isRing i_pond_overOthers i_pond_longestLeap g_pond_behinds) H → va_D A (uX3_find cI cJ a_this a_pond a_targets s'.2 a_pond_behinds a_pond_depths i_pond_size i_pond_isRing i_pond_overOthers i_pond_longestLeap g_pond_behinds) → va_S A s.heap H locs → lv_has ls 4 [(0, .ref a_this), (1, .int x1), (2, .int s'.1)] → W p l e rX3_find s m args below meth c H locs 0 0 Q (F0 m 10 ls []))
    (hex : ∀ e', o = .inr e' → ∀ (H : Heap) (locs : List Loc) (ls : Array Slot), va_P D vwCl (uX3_find cI cJ a_this a_pond a_targets e' a_pond_behinds a_pond_depths i_pond_size i_pond_isRing i_pond_overOthers i_pond_longestLeap g_pond_behinds) H → va_D A (uX3_find cI cJ a_this a_pond a_targets e' a_pond_behinds a_pond_depths i_pond_size i_pond_isRing i_pond_overOthers i_pond_longestLeap g_pond_behinds) → va_S A s.heap H locs → lv_has ls 4 [] → W p l e rX3_find s m args below meth c H locs 0 0 Q (F0 m 60 ls []))
    {H : Heap} {locs : List Loc} {ls : Array Slot} (hP : va_P D vwCl (uX3_find cI cJ a_this a_pond a_targets g_targets a_pond_behinds a_pond_depths i_pond_size i_pond_isRing i_pond_overOthers i_pond_longestLeap g_pond_behinds) H) (hD : va_D A (uX3_find cI cJ a_this a_pond a_targets g_targets a_pond_behinds a_pond_depths i_pond_size i_pond_isRing i_pond_overOthers i_pond_longestLeap g_pond_behinds)) (hS : va_S A s.heap H locs) (hl : lv_has ls 4 [(0, .ref a_this), (1, .int x1), (2, .int x2)]) : W p l e rX3_find s m args below meth c H locs 0 0 Q (F0 m 10 ls []) := by
  obtain ⟨hx, hb, hml, hown, hts, hK, hN, hA, hlocks⟩ := id C
  unfold fX3_find_L10 at hf
  refine lv_iload_n hx hb dX3_find_10 rfl (lv_at hl 2 rfl) ?_
  refine lv_aload_n hx hb dX3_find_11 rfl (lv_at hl 0 rfl) ?_
  refine va_get (D := D) (ci := 3) (v := .ref a_pond) (C := RX3) (T := TX3) (N := 2) hx hb hts jX3_find_X3 hown hK hP 0 rfl rfl 0 (by decide) (hts _ qX3_find_15) (fun _ h9 => h9) rfl dX3_find_12 ?_
  refine va_get (D := D) (ci := 6) (v := .int i_pond_size) (C := RX6) (T := TX6) (N := 6) hx hb hts jX3_find_X6 hown hK hP 2 rfl rfl 2 (by decide) (hts _ qX3_find_25) (fun _ h9 => h9) rfl dX3_find_15 ?_
  refine lv_icmp_ge (tgt := 60) hx hb dX3_find_18 (by decide) (fun hc => ?_) (fun hc => ?_)
  · have hf := if_yes hc hf
    have ho := Option.some.inj hf
    subst ho
    exact hex _ rfl _ _ _ hP hD hS (lv_sub hl [] rfl)
  · have hf := if_no hc hf
    refine lv_iload_n hx hb dX3_find_21 rfl (lv_at hl 1 rfl) ?_
    refine lv_iload_n hx hb dX3_find_22 rfl (lv_at hl 2 rfl) ?_
    refine cl_i (wc := (uX9_kindAt cI cJ)) (w1 := (uX9_kindAt cI cJ)) (rn_N (As := [.int x1, .int x2]) (rest := []) (wc := (uX9_kindAt cI cJ)) C hP hD [] rfl rfl (mX9_kindAt l D cI cJ H.size) 2 gX3_find_X9_kindAt_n31 qX3_find_iX9_kindAt qX3_find_sX9_kindAt 8 rfl rfl ⟨rfl, rfl, Nat.le_of_ble_eq_true rfl, Nat.le_of_ble_eq_true rfl⟩ hdX9_kindAt.2 rfl hl.1 rfl (Nat.le_of_ble_eq_true rfl) dX3_find_23) hP hD hS hA [] rfl rfl (fun H locs hP hD hS => ?_)
    have hP : va_P D vwCl (uX3_find cI cJ a_this a_pond a_targets g_targets a_pond_behinds a_pond_depths i_pond_size i_pond_isRing i_pond_overOthers i_pond_longestLeap g_pond_behinds) H := hP
    have hD : va_D A (uX3_find cI cJ a_this a_pond a_targets g_targets a_pond_behinds a_pond_depths i_pond_size i_pond_isRing i_pond_overOthers i_pond_longestLeap g_pond_behinds) := hD
    refine lv_istore_n (lv' := [(3, .int (fX9_kindAt x1 x2)), (0, .ref a_this), (1, .int x1), (2, .int x2)]) hx hb dX3_find_26 rfl hl (by decide) rfl (fun ls hl => ?_)
    refine lv_iload_n hx hb dX3_find_27 rfl (lv_at hl 0 rfl) ?_
    refine lv_if_ne (tgt := 40) hx hb dX3_find_28 (by decide) (fun hc => ?_) (fun hc => ?_)
    · have hf := if_no hc hf
      refine lv_iload_n hx hb dX3_find_40 rfl (lv_at hl 0 rfl) ?_
      refine cl_i (wc := (uX9_goesBack cI cJ)) (w1 := (uX9_goesBack cI cJ)) (rn_N (As := [.int (fX9_kindAt x1 x2)]) (rest := []) (wc := (uX9_goesBack cI cJ)) C hP hD [] rfl rfl (mX9_goesBack l D cI cJ H.size) 1 gX3_find_X9_goesBack_n39 qX3_find_iX9_goesBack qX3_find_sX9_goesBack 10 rfl rfl ⟨rfl, rfl, Nat.le_of_ble_eq_true rfl, Nat.le_of_ble_eq_true rfl⟩ hdX9_goesBack.2 rfl hl.1 rfl (Nat.le_of_ble_eq_true rfl) dX3_find_41) hP hD hS hA [] rfl rfl (fun H locs hP hD hS => ?_)
      have hP : va_P D vwCl (uX3_find cI cJ a_this a_pond a_targets g_targets a_pond_behinds a_pond_depths i_pond_size i_pond_isRing i_pond_overOthers i_pond_longestLeap g_pond_behinds) H := hP
      have hD : va_D A (uX3_find cI cJ a_this a_pond a_targets g_targets a_pond_behinds a_pond_depths i_pond_size i_pond_isRing i_pond_overOthers i_pond_longestLeap g_pond_behinds) := hD
      refine lv_if_eq (tgt := 54) hx hb dX3_find_44 (by decide) (fun hc => ?_) (fun hc => ?_)
      · have hf := if_yes hc hf
        refine lv_iinc (v := (x2 + 1)) (lv' := [(2, .int (x2 + 1)), (3, .int (fX9_kindAt x1 x2)), (0, .ref a_this), (1, .int x1)]) hx hb dX3_find_54 hl (k := 3) rfl rfl (by decide) rfl (fun ls hl => ?_)
        refine lv_goto (tgt := 10) hx hb dX3_find_57 (by decide) ?_
        have ho := Option.some.inj hf
        subst ho
        exact hbk _ rfl _ _ _ hP hD hS (lv_sub hl [2, 3, 0] rfl)
      · have hf := if_no hc hf
        refine lv_aload_n hx hb dX3_find_47 rfl (lv_at hl 1 rfl) ?_
        refine lv_iload_n hx hb dX3_find_48 rfl (lv_at hl 2 rfl) ?_
        refine lv_iload_n hx hb dX3_find_49 rfl (lv_at hl 3 rfl) ?_
        refine lv_iload_n hx hb dX3_find_50 rfl (lv_at hl 0 rfl) ?_
        obtain ⟨q2, hq, hf⟩ := ob_some hf
        refine cl_v (wc := (uX3_findBackFrom cI cJ a_this a_pond a_targets a_pond_behinds a_pond_depths i_pond_size i_pond_isRing i_pond_overOthers i_pond_longestLeap g_pond_behinds g_targets)) (w1 := (uX3_findBackFrom cI cJ a_this a_pond a_targets a_pond_behinds a_pond_depths i_pond_size i_pond_isRing i_pond_overOthers i_pond_longestLeap g_pond_behinds q2)) (rn_V (As := [.int x1, .int x2, .int (fX9_kindAt x1 x2)]) (b := a_this) (rest := []) (wc := (uX3_findBackFrom cI cJ a_this a_pond a_targets a_pond_behinds a_pond_depths i_pond_size i_pond_isRing i_pond_overOthers i_pond_longestLeap g_pond_behinds g_targets)) (ci := 3) (q0 := 0) C hP hD [0, 2, 3, 1] rfl rfl rfl rfl (mX3_findBackFrom l D cI cJ H.size hq) 3 gX3_find_X3_findBackFrom rfl ⟨rfl, rfl, Nat.le_of_ble_eq_true rfl, Nat.le_of_ble_eq_true rfl⟩ hdX3_findBackFrom rfl hl.1 rfl (Nat.le_of_ble_eq_true rfl) dX3_find_51) hP hD hS hA [0, 2, 3, 1] rfl rfl (fun H locs hP hD hS => ?_)
        have hP : va_P D vwCl (uX3_find cI cJ a_this a_pond a_targets q2 a_pond_behinds a_pond_depths i_pond_size i_pond_isRing i_pond_overOthers i_pond_longestLeap g_pond_behinds) H := hP
        have hD : va_D A (uX3_find cI cJ a_this a_pond a_targets q2 a_pond_behinds a_pond_depths i_pond_size i_pond_isRing i_pond_overOthers i_pond_longestLeap g_pond_behinds) := hD
        refine lv_iinc (v := (x2 + 1)) (lv' := [(2, .int (x2 + 1)), (3, .int (fX9_kindAt x1 x2)), (0, .ref a_this), (1, .int x1)]) hx hb dX3_find_54 hl (k := 3) rfl rfl (by decide) rfl (fun ls hl => ?_)
        refine lv_goto (tgt := 10) hx hb dX3_find_57 (by decide) ?_
        have ho := Option.some.inj hf
        subst ho
        exact hbk _ rfl _ _ _ hP hD hS (lv_sub hl [2, 3, 0] rfl)
    · have hf := if_yes hc hf
      refine lv_aload_n hx hb dX3_find_31 rfl (lv_at hl 1 rfl) ?_
      refine lv_iload_n hx hb dX3_find_32 rfl (lv_at hl 2 rfl) ?_
      refine lv_iload_n hx hb dX3_find_33 rfl (lv_at hl 3 rfl) ?_
      obtain ⟨q3, hq, hf⟩ := ob_some hf
      refine cl_v (wc := (uX3_findOnTo cI cJ a_this a_pond a_targets a_pond_behinds a_pond_depths i_pond_size i_pond_isRing i_pond_overOthers i_pond_longestLeap g_pond_behinds g_targets)) (w1 := (uX3_findOnTo cI cJ a_this a_pond a_targets a_pond_behinds a_pond_depths i_pond_size i_pond_isRing i_pond_overOthers i_pond_longestLeap g_pond_behinds q3)) (rn_V (As := [.int x1, .int x2]) (b := a_this) (rest := []) (wc := (uX3_findOnTo cI cJ a_this a_pond a_targets a_pond_behinds a_pond_depths i_pond_size i_pond_isRing i_pond_overOthers i_pond_longestLeap g_pond_behinds g_targets)) (ci := 3) (q0 := 0) C hP hD [0, 2, 3, 1] rfl rfl rfl rfl (mX3_findOnTo l D cI cJ H.size hq) 2 gX3_find_X3_findOnTo rfl ⟨rfl, rfl, Nat.le_of_ble_eq_true rfl, Nat.le_of_ble_eq_true rfl⟩ hdX3_findOnTo rfl hl.1 rfl (Nat.le_of_ble_eq_true rfl) dX3_find_34) hP hD hS hA [0, 2, 3, 1] rfl rfl (fun H locs hP hD hS => ?_)
      have hP : va_P D vwCl (uX3_find cI cJ a_this a_pond a_targets q3 a_pond_behinds a_pond_depths i_pond_size i_pond_isRing i_pond_overOthers i_pond_longestLeap g_pond_behinds) H := hP
      have hD : va_D A (uX3_find cI cJ a_this a_pond a_targets q3 a_pond_behinds a_pond_depths i_pond_size i_pond_isRing i_pond_overOthers i_pond_longestLeap g_pond_behinds) := hD
      refine lv_goto (tgt := 54) hx hb dX3_find_37 (by decide) ?_
      refine lv_iinc (v := (x2 + 1)) (lv' := [(2, .int (x2 + 1)), (3, .int (fX9_kindAt x1 x2)), (0, .ref a_this), (1, .int x1)]) hx hb dX3_find_54 hl (k := 3) rfl rfl (by decide) rfl (fun ls hl => ?_)
      refine lv_goto (tgt := 10) hx hb dX3_find_57 (by decide) ?_
      have ho := Option.some.inj hf
      subst ho
      exact hbk _ rfl _ _ _ hP hD hS (lv_sub hl [2, 3, 0] rfl)
set_option maxHeartbeats 4000000 in
set_option maxRecDepth 100000 in
theorem kX3_find_J60 {p : Program} {l : Launch} {e : Env} {s : State} {m : MethodId} {args : Array Value} {below : List Frame} {meth : Method} {c : Code} {Q : State → Prop} {A : Nat → Prop} {D : va_G} {cI cJ : ClassId} (C : bC cX3_find 4 RX3 wsX3_find D cI cJ p s m args c meth A)
    {a_this : Nat} {a_pond : Nat} {a_targets : Nat} {g_targets : Nat → Int32} {a_pond_behinds : Nat} {a_pond_depths : Nat} {i_pond_size : Int32} {i_pond_isRing : Int32} {i_pond_overOthers : Int32} {i_pond_longestLeap : Int32} {g_pond_behinds : Nat → Int32} {z : Nat} {o : (Nat → Int32)} (hf : fX3_find_J60 z g_targets i_pond_size i_pond_longestLeap g_pond_behinds i_pond_overOthers = some o)
    (hrt : ∀ (H : Heap) (locs : List Loc) (ls : Array Slot) (pc : Nat), va_P D vwCl (uX3_find cI cJ a_this a_pond a_targets o a_pond_behinds a_pond_depths i_pond_size i_pond_isRing i_pond_overOthers i_pond_longestLeap g_pond_behinds) H → va_D A (uX3_find cI cJ a_this a_pond a_targets o a_pond_behinds a_pond_depths i_pond_size i_pond_isRing i_pond_overOthers i_pond_longestLeap g_pond_behinds) → va_S A s.heap H locs → decode cX3_find pc = .ok (.return_, 1) → W p l e rX3_find s m args below meth c H locs 0 0 Q (F0 m pc ls []))
    {H : Heap} {locs : List Loc} {ls : Array Slot} (hP : va_P D vwCl (uX3_find cI cJ a_this a_pond a_targets g_targets a_pond_behinds a_pond_depths i_pond_size i_pond_isRing i_pond_overOthers i_pond_longestLeap g_pond_behinds) H) (hD : va_D A (uX3_find cI cJ a_this a_pond a_targets g_targets a_pond_behinds a_pond_depths i_pond_size i_pond_isRing i_pond_overOthers i_pond_longestLeap g_pond_behinds)) (hS : va_S A s.heap H locs) (hl : lv_has ls 4 []) : W p l e rX3_find s m args below meth c H locs 0 0 Q (F0 m 60 ls []) := by
  obtain ⟨hx, hb, hml, hown, hts, hK, hN, hA, hlocks⟩ := id C
  unfold fX3_find_J60 at hf
  have ho := Option.some.inj hf
  subst ho
  exact hrt H locs ls _ hP hD hS dX3_find_60
set_option maxHeartbeats 4000000 in
set_option maxRecDepth 100000 in
theorem kX3_find_0 {p : Program} {l : Launch} {e : Env} {s : State} {m : MethodId} {args : Array Value} {below : List Frame} {meth : Method} {c : Code} {Q : State → Prop} {A : Nat → Prop} {D : va_G} {cI cJ : ClassId} (C : bC cX3_find 4 RX3 wsX3_find D cI cJ p s m args c meth A)
    {a_this : Nat} {a_pond : Nat} {a_targets : Nat} {g_targets : Nat → Int32} {a_pond_behinds : Nat} {a_pond_depths : Nat} {i_pond_size : Int32} {i_pond_isRing : Int32} {i_pond_overOthers : Int32} {i_pond_longestLeap : Int32} {g_pond_behinds : Nat → Int32} {z : Nat} {x1 : Int32} {o : (Nat → Int32)} (hf : fX3_find z x1 g_targets i_pond_size i_pond_longestLeap g_pond_behinds i_pond_overOthers = some o)
    (hrt : ∀ (H : Heap) (locs : List Loc) (ls : Array Slot) (pc : Nat), va_P D vwCl (uX3_find cI cJ a_this a_pond a_targets o a_pond_behinds a_pond_depths i_pond_size i_pond_isRing i_pond_overOthers i_pond_longestLeap g_pond_behinds) H → va_D A (uX3_find cI cJ a_this a_pond a_targets o a_pond_behinds a_pond_depths i_pond_size i_pond_isRing i_pond_overOthers i_pond_longestLeap g_pond_behinds) → va_S A s.heap H locs → decode cX3_find pc = .ok (.return_, 1) → W p l e rX3_find s m args below meth c H locs 0 0 Q (F0 m pc ls []))
    {H : Heap} {locs : List Loc} {ls : Array Slot} (hP : va_P D vwCl (uX3_find cI cJ a_this a_pond a_targets g_targets a_pond_behinds a_pond_depths i_pond_size i_pond_isRing i_pond_overOthers i_pond_longestLeap g_pond_behinds) H) (hD : va_D A (uX3_find cI cJ a_this a_pond a_targets g_targets a_pond_behinds a_pond_depths i_pond_size i_pond_isRing i_pond_overOthers i_pond_longestLeap g_pond_behinds)) (hS : va_S A s.heap H locs) (hl : lv_has ls 4 [(0, .ref a_this), (1, .int x1)]) : W p l e rX3_find s m args below meth c H locs 0 0 Q (F0 m 0 ls []) := by
  obtain ⟨hx, hb, hml, hown, hts, hK, hN, hA, hlocks⟩ := id C
  unfold fX3_find at hf
  refine lv_aload_n hx hb dX3_find_0 rfl (lv_at hl 0 rfl) ?_
  refine va_get (D := D) (ci := 3) (v := .ref a_targets) (C := RX3) (T := TX3) (N := 2) hx hb hts jX3_find_X3 hown hK hP 0 rfl rfl 1 (by decide) (hts _ qX3_find_9) (fun _ h9 => h9) rfl dX3_find_1 ?_
  refine lv_iconst (v := 0) hx hb dX3_find_4 (by decide) ?_
  obtain ⟨q1, hq, hf⟩ := ob_some hf
  refine cl_v (wc := (uJ7_fill_53178 cI cJ a_targets 9 g_targets)) (w1 := (uJ7_fill_53178 cI cJ a_targets 9 q1)) (rn_S (As := [.ref a_targets, .int 0]) (rest := []) (wc := (uJ7_fill_53178 cI cJ a_targets 9 g_targets)) C hP hD [1] rfl rfl (mJ7_fill_53178 l D cI cJ H.size hq) 2 gX3_find_J7_fill_53178 rfl ⟨rfl, rfl, Nat.le_of_ble_eq_true rfl, Nat.le_of_ble_eq_true rfl⟩ hdJ7_fill_53178.2 rfl hl.1 rfl (Nat.le_of_ble_eq_true rfl) dX3_find_5) hP hD hS hA [1] rfl rfl (fun H locs hP hD hS => ?_)
  have hP : va_P D vwCl (uX3_find cI cJ a_this a_pond a_targets q1 a_pond_behinds a_pond_depths i_pond_size i_pond_isRing i_pond_overOthers i_pond_longestLeap g_pond_behinds) H := hP
  have hD : va_D A (uX3_find cI cJ a_this a_pond a_targets q1 a_pond_behinds a_pond_depths i_pond_size i_pond_isRing i_pond_overOthers i_pond_longestLeap g_pond_behinds) := hD
  refine lv_iconst (v := 0) hx hb dX3_find_8 (by decide) ?_
  refine lv_istore_n (lv' := [(2, .int 0), (0, .ref a_this), (1, .int x1)]) hx hb dX3_find_9 rfl hl (by decide) rfl (fun ls hl => ?_)
  obtain ⟨ex, hlp, hf⟩ := ob_some hf
  refine lp_ind (P := fun sg => ∀ (H : Heap) (locs : List Loc) (ls : Array Slot), va_P D vwCl (uX3_find cI cJ a_this a_pond a_targets sg.2 a_pond_behinds a_pond_depths i_pond_size i_pond_isRing i_pond_overOthers i_pond_longestLeap g_pond_behinds) H → va_D A (uX3_find cI cJ a_this a_pond a_targets sg.2 a_pond_behinds a_pond_depths i_pond_size i_pond_isRing i_pond_overOthers i_pond_longestLeap g_pond_behinds) → va_S A s.heap H locs → lv_has ls 4 [(0, .ref a_this), (1, .int x1), (2, .int sg.1)] → W p l e rX3_find s m args below meth c H locs 0 0 Q (F0 m 10 ls [])) ?_ z _ hlp H locs ls hP hD hS (lv_sub hl [1, 2, 0] rfl)
  intro sg og hbo hback hexit H locs ls hP hD hS hl
  refine kX3_find_L10 C hbo (fun s' h => hback s' h) (fun ex h H locs ls hP hD hS hl => ?_) hP hD hS hl
  have he := hexit _ h
  subst he
  exact kX3_find_J60 C hf hrt hP hD hS (lv_sub hl [] rfl)
set_option maxHeartbeats 4000000 in
set_option maxRecDepth 100000 in
theorem mX3_find (l : Launch) (D : va_G) (cI cJ : ClassId) (sz : Nat) {a_this : Nat} {a_pond : Nat} {a_targets : Nat} {g_targets : Nat → Int32} {a_pond_behinds : Nat} {a_pond_depths : Nat} {i_pond_size : Int32} {i_pond_isRing : Int32} {i_pond_overOthers : Int32} {i_pond_longestLeap : Int32} {g_pond_behinds : Nat → Int32} {z : Nat} {x1 : Int32} {o : (Nat → Int32)} (hf : fX3_find z x1 g_targets i_pond_size i_pond_longestLeap g_pond_behinds i_pond_overOthers = some o) : Met l yX3_find wsX3_find rX3_find (va_Pc [.ref a_this, .int x1] (kP D cI cJ (uX3_find cI cJ a_this a_pond a_targets g_targets a_pond_behinds a_pond_depths i_pond_size i_pond_isRing i_pond_overOthers i_pond_longestLeap g_pond_behinds) sz)) (va_Qv (fun (_ : Unit) => True) (fun _ t => kB D (va_A (uX3_find cI cJ a_this a_pond a_targets g_targets a_pond_behinds a_pond_depths i_pond_size i_pond_isRing i_pond_overOthers i_pond_longestLeap g_pond_behinds) sz) (uX3_find cI cJ a_this a_pond a_targets o a_pond_behinds a_pond_depths i_pond_size i_pond_isRing i_pond_overOthers i_pond_longestLeap g_pond_behinds) t) (va_A (uX3_find cI cJ a_this a_pond a_targets g_targets a_pond_behinds a_pond_depths i_pond_size i_pond_isRing i_pond_overOthers i_pond_longestLeap g_pond_behinds) sz)) 0 0 (va_A (uX3_find cI cJ a_this a_pond a_targets g_targets a_pond_behinds a_pond_depths i_pond_size i_pond_isRing i_pond_overOthers i_pond_longestLeap g_pond_behinds) sz) :=
  met_v (by decide) rfl (Nat.le_of_ble_eq_true rfl) (fun p e s m below meth c A Q C hrt ls hl hP hD hS => kX3_find_0 (A := A) C hf hrt hP hD hS hl)

/-! ===== FrogsOnRing$Moves.targetsOf(I)I ===== -/
abbrev uX3_targetsOf (cI cJ : ClassId) (a_this : Nat) (a_pond : Nat) (a_targets : Nat) (g_targets : Nat → Int32) : va_W := [(a_this, .inr (3, [.ref a_pond, .ref a_targets])), (a_targets, .inl (cI, 9, .inl g_targets))]
def rX3_targetsOf : Room := { frames := 0, cells := 0, slots := 0, locals := 0 }
theorem hdX3_targetsOf : yX3_targetsOf.cls = RX3 ∧ yX3_targetsOf.cls ≠ "java/lang/invoke/MethodHandle" ∧ yX3_targetsOf.cls ≠ "java/lang/invoke/VarHandle" ∧ (parseMethodDescriptor yX3_targetsOf.desc).map (fun d => d.parameters.length) = some 1 := by decide +kernel
set_option maxRecDepth 20000 in
theorem jX3_targetsOf_X3 : ∀ w ∈ u_ws RX3 TX3 2, w ∈ wsX3_targetsOf := by decide +kernel
set_option maxRecDepth 20000 in
theorem qX3_targetsOf_9 : Cond.fieldLink RX3 9 "FrogsOnRing$Moves" "targets" "[I" ∈ wsX3_targetsOf := by decide +kernel
set_option maxHeartbeats 4000000 in
set_option maxRecDepth 100000 in
theorem kX3_targetsOf_0 {p : Program} {l : Launch} {e : Env} {s : State} {m : MethodId} {args : Array Value} {below : List Frame} {meth : Method} {c : Code} {Q : State → Prop} {A : Nat → Prop} {D : va_G} {cI cJ : ClassId} (C : bC cX3_targetsOf 2 RX3 wsX3_targetsOf D cI cJ p s m args c meth A)
    {a_this : Nat} {a_pond : Nat} {a_targets : Nat} {g_targets : Nat → Int32} {z : Nat} {x1 : Int32} {o : Int32} (hf : fX3_targetsOf z x1 g_targets = some o)
    (hrt : ∀ (H : Heap) (locs : List Loc) (ls : Array Slot) (pc : Nat), va_P D vwCl (uX3_targetsOf cI cJ a_this a_pond a_targets g_targets) H → va_D A (uX3_targetsOf cI cJ a_this a_pond a_targets g_targets) → va_S A s.heap H locs → decode cX3_targetsOf pc = .ok (.ireturn, 1) → W p l e rX3_targetsOf s m args below meth c H locs 0 0 Q (F0 m pc ls [.int o]))
    {H : Heap} {locs : List Loc} {ls : Array Slot} (hP : va_P D vwCl (uX3_targetsOf cI cJ a_this a_pond a_targets g_targets) H) (hD : va_D A (uX3_targetsOf cI cJ a_this a_pond a_targets g_targets)) (hS : va_S A s.heap H locs) (hl : lv_has ls 2 [(0, .ref a_this), (1, .int x1)]) : W p l e rX3_targetsOf s m args below meth c H locs 0 0 Q (F0 m 0 ls []) := by
  obtain ⟨hx, hb, hml, hown, hts, hK, hN, hA, hlocks⟩ := id C
  unfold fX3_targetsOf at hf
  refine lv_iload_n hx hb dX3_targetsOf_0 rfl (lv_at hl 1 rfl) ?_
  refine lv_if_lt (tgt := 19) hx hb dX3_targetsOf_1 (by decide) (fun hc => ?_) (fun hc => ?_)
  · have hf := if_yes hc hf
    refine lv_iconst (v := 0) hx hb dX3_targetsOf_19 (by decide) ?_
    have ho := Option.some.inj hf
    subst ho
    exact hrt H locs ls _ hP hD hS dX3_targetsOf_20
  · have hf := if_no hc hf
    refine lv_iload_n hx hb dX3_targetsOf_4 rfl (lv_at hl 1 rfl) ?_
    refine lv_bipush (v := 9) hx hb dX3_targetsOf_5 (by decide) ?_
    refine lv_icmp_ge (tgt := 19) hx hb dX3_targetsOf_7 (by decide) (fun hc => ?_) (fun hc => ?_)
    · have hf := if_yes hc hf
      refine lv_iconst (v := 0) hx hb dX3_targetsOf_19 (by decide) ?_
      have ho := Option.some.inj hf
      subst ho
      exact hrt H locs ls _ hP hD hS dX3_targetsOf_20
    · have hf := if_no hc hf
      refine lv_aload_n hx hb dX3_targetsOf_10 rfl (lv_at hl 0 rfl) ?_
      refine va_get (D := D) (ci := 3) (v := .ref a_targets) (C := RX3) (T := TX3) (N := 2) hx hb hts jX3_targetsOf_X3 hown hK hP 0 rfl rfl 1 (by decide) (hts _ qX3_targetsOf_9) (fun _ h9 => h9) rfl dX3_targetsOf_11 ?_
      refine lv_iload_n hx hb dX3_targetsOf_14 rfl (lv_at hl 1 rfl) ?_
      obtain ⟨hin, hf⟩ := agd_some hf
      refine va_iald hx hb hK hP 1 0 rfl rfl hin dX3_targetsOf_15 ?_
      refine lv_goto (tgt := 20) hx hb dX3_targetsOf_16 (by decide) ?_
      have ho := Option.some.inj hf
      subst ho
      exact hrt H locs ls _ hP hD hS dX3_targetsOf_20
set_option maxHeartbeats 4000000 in
set_option maxRecDepth 100000 in
theorem mX3_targetsOf (l : Launch) (D : va_G) (cI cJ : ClassId) (sz : Nat) {a_this : Nat} {a_pond : Nat} {a_targets : Nat} {g_targets : Nat → Int32} {z : Nat} {x1 : Int32} {o : Int32} (hf : fX3_targetsOf z x1 g_targets = some o) : Met l yX3_targetsOf wsX3_targetsOf rX3_targetsOf (va_Pc [.ref a_this, .int x1] (kP D cI cJ (uX3_targetsOf cI cJ a_this a_pond a_targets g_targets) sz)) (va_Qi (fun r' (_ : Unit) => r' = o) (fun _ t => kB D (va_A (uX3_targetsOf cI cJ a_this a_pond a_targets g_targets) sz) (uX3_targetsOf cI cJ a_this a_pond a_targets g_targets) t) (va_A (uX3_targetsOf cI cJ a_this a_pond a_targets g_targets) sz)) 0 0 (va_A (uX3_targetsOf cI cJ a_this a_pond a_targets g_targets) sz) :=
  met_i (by decide) rfl (Nat.le_of_ble_eq_true rfl) (fun p e s m below meth c A Q C hrt ls hl hP hD hS => kX3_targetsOf_0 (A := A) C hf hrt hP hD hS hl)

/-! ===== FrogsOnRing$Moves.has(II)Z ===== -/
abbrev uX3_has (cI cJ : ClassId) (a_this : Nat) (a_pond : Nat) (a_targets : Nat) (g_targets : Nat → Int32) : va_W := [(a_this, .inr (3, [.ref a_pond, .ref a_targets])), (a_targets, .inl (cI, 9, .inl g_targets))]
def rX3_has : Room := { frames := 1, cells := 0, slots := 0, locals := 21 }
theorem hdX3_has : yX3_has.cls = RX3 ∧ yX3_has.cls ≠ "java/lang/invoke/MethodHandle" ∧ yX3_has.cls ≠ "java/lang/invoke/VarHandle" ∧ (parseMethodDescriptor yX3_has.desc).map (fun d => d.parameters.length) = some 2 := by decide +kernel
set_option maxHeartbeats 4000000 in
set_option maxRecDepth 100000 in
theorem kX3_has_0 {p : Program} {l : Launch} {e : Env} {s : State} {m : MethodId} {args : Array Value} {below : List Frame} {meth : Method} {c : Code} {Q : State → Prop} {A : Nat → Prop} {D : va_G} {cI cJ : ClassId} (C : bC cX3_has 3 RX3 wsX3_has D cI cJ p s m args c meth A)
    {a_this : Nat} {a_pond : Nat} {a_targets : Nat} {g_targets : Nat → Int32} {z : Nat} {x1 : Int32} {x2 : Int32} {o : Int32} (hf : fX3_has z x1 x2 g_targets = some o)
    (hrt : ∀ (H : Heap) (locs : List Loc) (ls : Array Slot) (pc : Nat), (o = 0 ∨ o = 1) → va_P D vwCl (uX3_has cI cJ a_this a_pond a_targets g_targets) H → va_D A (uX3_has cI cJ a_this a_pond a_targets g_targets) → va_S A s.heap H locs → decode cX3_has pc = .ok (.ireturn, 1) → W p l e rX3_has s m args below meth c H locs 0 0 Q (F0 m pc ls [.int o]))
    {H : Heap} {locs : List Loc} {ls : Array Slot} (hP : va_P D vwCl (uX3_has cI cJ a_this a_pond a_targets g_targets) H) (hD : va_D A (uX3_has cI cJ a_this a_pond a_targets g_targets)) (hS : va_S A s.heap H locs) (hl : lv_has ls 3 [(0, .ref a_this), (1, .int x1), (2, .int x2)]) : W p l e rX3_has s m args below meth c H locs 0 0 Q (F0 m 0 ls []) := by
  obtain ⟨hx, hb, hml, hown, hts, hK, hN, hA, hlocks⟩ := id C
  unfold fX3_has at hf
  refine lv_aload_n hx hb dX3_has_0 rfl (lv_at hl 0 rfl) ?_
  refine lv_iload_n hx hb dX3_has_1 rfl (lv_at hl 1 rfl) ?_
  obtain ⟨q1, hq, hf⟩ := ob_some hf
  refine cl_i (wc := (uX3_targetsOf cI cJ a_this a_pond a_targets g_targets)) (w1 := (uX3_targetsOf cI cJ a_this a_pond a_targets g_targets)) (rn_V (As := [.int x1]) (b := a_this) (rest := []) (wc := (uX3_targetsOf cI cJ a_this a_pond a_targets g_targets)) (ci := 3) (q0 := 0) C hP hD [0, 1] rfl rfl rfl rfl (mX3_targetsOf l D cI cJ H.size hq) 1 gX3_has_X3_targetsOf rfl ⟨rfl, rfl, Nat.le_of_ble_eq_true rfl, Nat.le_of_ble_eq_true rfl⟩ hdX3_targetsOf rfl hl.1 rfl (Nat.le_of_ble_eq_true rfl) dX3_has_2) hP hD hS hA [0, 1] rfl rfl (fun H locs hP hD hS => ?_)
  have hP : va_P D vwCl (uX3_has cI cJ a_this a_pond a_targets g_targets) H := hP
  have hD : va_D A (uX3_has cI cJ a_this a_pond a_targets g_targets) := hD
  refine lv_iload_n hx hb dX3_has_5 rfl (lv_at hl 2 rfl) ?_
  refine lv_ishr hx hb dX3_has_6 ?_
  refine lv_iconst (v := 1) hx hb dX3_has_7 (by decide) ?_
  refine lv_iand hx hb dX3_has_8 ?_
  refine lv_if_eq (tgt := 16) hx hb dX3_has_9 (by decide) (fun hc => ?_) (fun hc => ?_)
  · have hf := if_yes hc hf
    refine lv_iconst (v := 0) hx hb dX3_has_16 (by decide) ?_
    have ho := Option.some.inj hf
    subst ho
    exact hrt H locs ls _ (Or.inl rfl) hP hD hS dX3_has_17
  · have hf := if_no hc hf
    refine lv_iconst (v := 1) hx hb dX3_has_12 (by decide) ?_
    refine lv_goto (tgt := 17) hx hb dX3_has_13 (by decide) ?_
    have ho := Option.some.inj hf
    subst ho
    exact hrt H locs ls _ (Or.inr rfl) hP hD hS dX3_has_17
set_option maxHeartbeats 4000000 in
set_option maxRecDepth 100000 in
theorem mX3_has (l : Launch) (D : va_G) (cI cJ : ClassId) (sz : Nat) {a_this : Nat} {a_pond : Nat} {a_targets : Nat} {g_targets : Nat → Int32} {z : Nat} {x1 : Int32} {x2 : Int32} {o : Int32} (hf : fX3_has z x1 x2 g_targets = some o) : Met l yX3_has wsX3_has rX3_has (va_Pc [.ref a_this, .int x1, .int x2] (kP D cI cJ (uX3_has cI cJ a_this a_pond a_targets g_targets) sz)) (va_Qi (fun r' (_ : Unit) => r' = o) (fun _ t => kB D (va_A (uX3_has cI cJ a_this a_pond a_targets g_targets) sz) (uX3_has cI cJ a_this a_pond a_targets g_targets) t) (va_A (uX3_has cI cJ a_this a_pond a_targets g_targets) sz)) 0 0 (va_A (uX3_has cI cJ a_this a_pond a_targets g_targets) sz) :=
  met_z (by decide) rfl (Nat.le_of_ble_eq_true rfl) (fun p e s m below meth c A Q C hrt ls hl hP hD hS => kX3_has_0 (A := A) C hf hrt hP hD hS hl)

/-! ===== FrogsOnRing.afterMove(III)I ===== -/
abbrev uX9_afterMove (cI cJ : ClassId) : va_W := []
def rX9_afterMove : Room := { frames := 1, cells := 0, slots := 0, locals := 21 }
theorem hdX9_afterMove : yX9_afterMove.cls = RX9 ∧ yX9_afterMove.cls ≠ "java/lang/invoke/MethodHandle" ∧ yX9_afterMove.cls ≠ "java/lang/invoke/VarHandle" ∧ (parseMethodDescriptor yX9_afterMove.desc).map (fun d => d.parameters.length) = some 3 := by decide +kernel
set_option maxHeartbeats 4000000 in
set_option maxRecDepth 100000 in
theorem kX9_afterMove_0 {p : Program} {l : Launch} {e : Env} {s : State} {m : MethodId} {args : Array Value} {below : List Frame} {meth : Method} {c : Code} {Q : State → Prop} {A : Nat → Prop} {D : va_G} {cI cJ : ClassId} (C : bC cX9_afterMove 4 RX9 wsX9_afterMove D cI cJ p s m args c meth A)
    {x0 : Int32} {x1 : Int32} {x2 : Int32} {o : Int32} (hf : fX9_afterMove x0 x1 x2 = o)
    (hrt : ∀ (H : Heap) (locs : List Loc) (ls : Array Slot) (pc : Nat), va_P D vwCl (uX9_afterMove cI cJ) H → va_D A (uX9_afterMove cI cJ) → va_S A s.heap H locs → decode cX9_afterMove pc = .ok (.ireturn, 1) → W p l e rX9_afterMove s m args below meth c H locs 0 0 Q (F0 m pc ls [.int o]))
    {H : Heap} {locs : List Loc} {ls : Array Slot} (hP : va_P D vwCl (uX9_afterMove cI cJ) H) (hD : va_D A (uX9_afterMove cI cJ)) (hS : va_S A s.heap H locs) (hl : lv_has ls 4 [(0, .int x0), (1, .int x1), (2, .int x2)]) : W p l e rX9_afterMove s m args below meth c H locs 0 0 Q (F0 m 0 ls []) := by
  obtain ⟨hx, hb, hml, hown, hts, hK, hN, hA, hlocks⟩ := id C
  unfold fX9_afterMove at hf
  refine lv_iload_n hx hb dX9_afterMove_0 rfl (lv_at hl 0 rfl) ?_
  refine lv_iload_n hx hb dX9_afterMove_1 rfl (lv_at hl 1 rfl) ?_
  refine cl_i (wc := (uX9_kindAt cI cJ)) (w1 := (uX9_kindAt cI cJ)) (rn_S (As := [.int x0, .int x1]) (rest := []) (wc := (uX9_kindAt cI cJ)) C hP hD [] rfl rfl (mX9_kindAt l D cI cJ H.size) 2 gX9_afterMove_X9_kindAt rfl ⟨rfl, rfl, Nat.le_of_ble_eq_true rfl, Nat.le_of_ble_eq_true rfl⟩ hdX9_kindAt.2 rfl hl.1 rfl (Nat.le_of_ble_eq_true rfl) dX9_afterMove_2) hP hD hS hA [] rfl rfl (fun H locs hP hD hS => ?_)
  have hP : va_P D vwCl (uX9_afterMove cI cJ) H := hP
  have hD : va_D A (uX9_afterMove cI cJ) := hD
  refine lv_istore_n (lv' := [(3, .int (fX9_kindAt x0 x1)), (0, .int x0), (1, .int x1), (2, .int x2)]) hx hb dX9_afterMove_5 rfl hl (by decide) rfl (fun ls hl => ?_)
  refine lv_iload_n hx hb dX9_afterMove_6 rfl (lv_at hl 1 rfl) ?_
  refine lv_iload_n hx hb dX9_afterMove_7 rfl (lv_at hl 0 rfl) ?_
  refine lv_iconst (v := 2) hx hb dX9_afterMove_8 (by decide) ?_
  refine lv_iload_n hx hb dX9_afterMove_9 rfl (lv_at hl 2 rfl) ?_
  refine lv_imul hx hb dX9_afterMove_10 ?_
  refine lv_ishl hx hb dX9_afterMove_11 ?_
  refine lv_isub hx hb dX9_afterMove_12 ?_
  refine lv_iload_n hx hb dX9_afterMove_13 rfl (lv_at hl 0 rfl) ?_
  refine lv_iconst (v := 2) hx hb dX9_afterMove_14 (by decide) ?_
  refine lv_iload_n hx hb dX9_afterMove_15 rfl (lv_at hl 3 rfl) ?_
  refine lv_imul hx hb dX9_afterMove_16 ?_
  refine lv_ishl hx hb dX9_afterMove_17 ?_
  refine lv_iadd hx hb dX9_afterMove_18 ?_
  subst hf
  exact hrt H locs ls _ hP hD hS dX9_afterMove_19
set_option maxHeartbeats 4000000 in
set_option maxRecDepth 100000 in
theorem mX9_afterMove (l : Launch) (D : va_G) (cI cJ : ClassId) (sz : Nat) {x0 : Int32} {x1 : Int32} {x2 : Int32} : Met l yX9_afterMove wsX9_afterMove rX9_afterMove (va_Pc [.int x0, .int x1, .int x2] (kP D cI cJ (uX9_afterMove cI cJ) sz)) (va_Qi (fun r' (_ : Unit) => r' = (fX9_afterMove x0 x1 x2)) (fun _ t => kB D (va_A (uX9_afterMove cI cJ) sz) (uX9_afterMove cI cJ) t) (va_A (uX9_afterMove cI cJ) sz)) 0 0 (va_A (uX9_afterMove cI cJ) sz) :=
  met_i (by decide) rfl (Nat.le_of_ble_eq_true rfl) (fun p e s m below meth c A Q C hrt ls hl hP hD hS => kX9_afterMove_0 (A := A) C rfl hrt hP hD hS hl)

