/-! ===== FrogsOnRing.kindAt(II)I ===== -/
abbrev uX9_kindAt (cI cJ : ClassId) : va_W := []
def rX9_kindAt : Room := { frames := 0, cells := 0, slots := 0, locals := 0 }
def fX9_kindAt (x0 : Int32) (x1 : Int32) : Int32 :=
  ((x0 >>> ((2 * x1) &&& 31)) &&& 3)
theorem hdX9_kindAt : yX9_kindAt.cls = RX9 ∧ yX9_kindAt.cls ≠ "java/lang/invoke/MethodHandle" ∧ yX9_kindAt.cls ≠ "java/lang/invoke/VarHandle" ∧ (parseMethodDescriptor yX9_kindAt.desc).map (fun d => d.parameters.length) = some 2 := by decide +kernel
set_option maxHeartbeats 4000000 in
set_option maxRecDepth 100000 in
theorem kX9_kindAt_0 {p : Program} {l : Launch} {e : Env} {s : State} {m : MethodId} {args : Array Value} {below : List Frame} {meth : Method} {c : Code} {Q : State → Prop} {A : Nat → Prop} {D : va_G} {cI cJ : ClassId} (C : bC cX9_kindAt 2 RX9 wsX9_kindAt D cI cJ p s m args c meth A)
    {x0 : Int32} {x1 : Int32} {o : Int32} (hf : fX9_kindAt x0 x1 = o)
    (hrt : ∀ (H : Heap) (locs : List Loc) (ls : Array Slot) (pc : Nat), va_P D vwCl (uX9_kindAt cI cJ) H → va_D A (uX9_kindAt cI cJ) → va_S A s.heap H locs → decode cX9_kindAt pc = .ok (.ireturn, 1) → W p l e rX9_kindAt s m args below meth c H locs 0 0 Q (F0 m pc ls [.int o]))
    {H : Heap} {locs : List Loc} {ls : Array Slot} (hP : va_P D vwCl (uX9_kindAt cI cJ) H) (hD : va_D A (uX9_kindAt cI cJ)) (hS : va_S A s.heap H locs) (hl : lv_has ls 2 [(0, .int x0), (1, .int x1)]) : W p l e rX9_kindAt s m args below meth c H locs 0 0 Q (F0 m 0 ls []) := by
  obtain ⟨hx, hb, hml, hown, hts, hK, hN, hA, hlocks⟩ := id C
  unfold fX9_kindAt at hf
  refine lv_iload_n hx hb dX9_kindAt_0 rfl (lv_at hl 0 rfl) ?_
  refine lv_iconst (v := 2) hx hb dX9_kindAt_1 (by decide) ?_
  refine lv_iload_n hx hb dX9_kindAt_2 rfl (lv_at hl 1 rfl) ?_
  refine lv_imul hx hb dX9_kindAt_3 ?_
  refine lv_ishr hx hb dX9_kindAt_4 ?_
  refine lv_iconst (v := 3) hx hb dX9_kindAt_5 (by decide) ?_
  refine lv_iand hx hb dX9_kindAt_6 ?_
  subst hf
  exact hrt H locs ls _ hP hD hS dX9_kindAt_7
set_option maxHeartbeats 4000000 in
set_option maxRecDepth 100000 in
theorem mX9_kindAt (l : Launch) (D : va_G) (cI cJ : ClassId) (sz : Nat) {x0 : Int32} {x1 : Int32} : Met l yX9_kindAt wsX9_kindAt rX9_kindAt (va_Pc [.int x0, .int x1] (kP D cI cJ (uX9_kindAt cI cJ) sz)) (va_Qi (fun r' (_ : Unit) => r' = (fX9_kindAt x0 x1)) (fun _ t => kB D (va_A (uX9_kindAt cI cJ) sz) (uX9_kindAt cI cJ) t) (va_A (uX9_kindAt cI cJ) sz)) 0 0 (va_A (uX9_kindAt cI cJ) sz) :=
  met_i (by decide) rfl (Nat.le_of_ble_eq_true rfl) (fun p e s m below meth c A Q C hrt ls hl hP hD hS => kX9_kindAt_0 (A := A) C rfl hrt hP hD hS hl)

/-! ===== FrogsOnRing.afterMove(III)I ===== -/
abbrev uX9_afterMove (cI cJ : ClassId) : va_W := []
def rX9_afterMove : Room := { frames := 1, cells := 0, slots := 0, locals := 21 }
def fX9_afterMove (x0 : Int32) (x1 : Int32) (x2 : Int32) : Int32 :=
  ((x0 - ((fX9_kindAt x0 x1) <<< ((2 * x1) &&& 31))) + ((fX9_kindAt x0 x1) <<< ((2 * x2) &&& 31)))
theorem hdX9_afterMove : yX9_afterMove.cls = RX9 ∧ yX9_afterMove.cls ≠ "java/lang/invoke/MethodHandle" ∧ yX9_afterMove.cls ≠ "java/lang/invoke/VarHandle" ∧ (parseMethodDescriptor yX9_afterMove.desc).map (fun d => d.parameters.length) = some 3 := by decide +kernel
set_option maxHeartbeats 4000000 in
set_option maxRecDepth 100000 in
theorem kX9_afterMove_0 {p : Program} {l : Launch} {e : Env} {s : State} {m : MethodId} {args : Array Value} {below : List Frame} {meth : Method} {c : Code} {Q : State → Prop} {A : Nat → Prop} {D : va_G} {cI cJ : ClassId} (C : bC cX9_afterMove 4 RX9 wsX9_afterMove D cI cJ p s m args c meth A)
    {x0 : Int32} {x1 : Int32} {x2 : Int32} {o : Int32} (hf : fX9_afterMove x0 x1 x2 = o)
    (hrt : ∀ (H : Heap) (locs : List Loc) (ls : Array Slot) (pc : Nat), va_P D vwCl (uX9_afterMove cI cJ) H → va_D A (uX9_afterMove cI cJ) → va_S A s.heap H locs → decode cX9_afterMove pc = .ok (.ireturn, 1) → W p l e rX9_afterMove s m args below meth c H locs 0 0 Q (F0 m pc ls [.int o]))
    {H : Heap} {locs : List Loc} {ls : Array Slot} (hP : va_P D vwCl (uX9_afterMove cI cJ) H) (hD : va_D A (uX9_afterMove cI cJ)) (hS : va_S A s.heap H locs) (hl : lv_has ls 4 [(0, .int x0), (1, .int x1), (2, .int x2)]) : W p l e rX9_afterMove s m args below meth c H locs 0 0 Q (F0 m 0 ls []) := by
  obtain ⟨hx, hb, hml, hown, hts, hK, hN, hA, hlocks⟩ := id C
  unfold fX9_afterMove at hf
  refine lv_iload_n hx hb dX9_afterMove_0 rfl (lv_at hl 0 rfl) ?_
  refine lv_iload_n hx hb dX9_afterMove_1 rfl (lv_at hl 1 rfl) ?_
  refine cl_i (wc := (uX9_kindAt cI cJ)) (w1 := (uX9_kindAt cI cJ)) (rn_S (As := [.int x0, .int x1]) (rest := []) (wc := (uX9_kindAt cI cJ)) C hP hD [] rfl rfl (mX9_kindAt l D cI cJ H.size) 2 gX9_afterMove_X9_kindAt rfl ⟨rfl, rfl, Nat.le_of_ble_eq_true rfl, Nat.le_of_ble_eq_true rfl⟩ hdX9_kindAt.2 rfl hl.1 rfl (Nat.le_of_ble_eq_true rfl) dX9_afterMove_2) hP hD hS hA [] rfl rfl (fun H locs hP hD hS => ?_)
  have hP : va_P D vwCl (uX9_afterMove cI cJ) H := hP
  have hD : va_D A (uX9_afterMove cI cJ) := hD
  refine lv_istore_n (lv' := [(3, .int (fX9_kindAt x0 x1)), (0, .int x0), (1, .int x1), (2, .int x2)]) hx hb dX9_afterMove_5 rfl hl (by decide) rfl (fun ls hl => ?_)
  refine lv_iload_n hx hb dX9_afterMove_6 rfl (lv_at hl 1 rfl) ?_
  refine lv_iload_n hx hb dX9_afterMove_7 rfl (lv_at hl 0 rfl) ?_
  refine lv_iconst (v := 2) hx hb dX9_afterMove_8 (by decide) ?_
  refine lv_iload_n hx hb dX9_afterMove_9 rfl (lv_at hl 2 rfl) ?_
  refine lv_imul hx hb dX9_afterMove_10 ?_
  refine lv_ishl hx hb dX9_afterMove_11 ?_
  refine lv_isub hx hb dX9_afterMove_12 ?_
  refine lv_iload_n hx hb dX9_afterMove_13 rfl (lv_at hl 0 rfl) ?_
  refine lv_iconst (v := 2) hx hb dX9_afterMove_14 (by decide) ?_
  refine lv_iload_n hx hb dX9_afterMove_15 rfl (lv_at hl 3 rfl) ?_
  refine lv_imul hx hb dX9_afterMove_16 ?_
  refine lv_ishl hx hb dX9_afterMove_17 ?_
  refine lv_iadd hx hb dX9_afterMove_18 ?_
  subst hf
  exact hrt H locs ls _ hP hD hS dX9_afterMove_19
set_option maxHeartbeats 4000000 in
set_option maxRecDepth 100000 in
theorem mX9_afterMove (l : Launch) (D : va_G) (cI cJ : ClassId) (sz : Nat) {x0 : Int32} {x1 : Int32} {x2 : Int32} : Met l yX9_afterMove wsX9_afterMove rX9_afterMove (va_Pc [.int x0, .int x1, .int x2] (kP D cI cJ (uX9_afterMove cI cJ) sz)) (va_Qi (fun r' (_ : Unit) => r' = (fX9_afterMove x0 x1 x2)) (fun _ t => kB D (va_A (uX9_afterMove cI cJ) sz) (uX9_afterMove cI cJ) t) (va_A (uX9_afterMove cI cJ) sz)) 0 0 (va_A (uX9_afterMove cI cJ) sz) :=
  met_i (by decide) rfl (Nat.le_of_ble_eq_true rfl) (fun p e s m below meth c A Q C hrt ls hl hP hD hS => kX9_afterMove_0 (A := A) C rfl hrt hP hD hS hl)

/-! ===== FrogsOnRing.colouredOf(II)I ===== -/
abbrev uX9_colouredOf (cI cJ : ClassId) : va_W := []
def rX9_colouredOf : Room := { frames := 1, cells := 0, slots := 0, locals := 21 }
def fX9_colouredOf_L4 (z : Nat) (x0 : Int32) (x1 : Int32) (x2 : Int32) (x3 : Int32) : Option ((Int32 × Int32) ⊕ (Int32)) :=
  (if 9 ≤ x3 then some (.inr x2) else (if (fX9_kindAt x0 x3) = x1 then some (.inl ((x2 + 1), (x3 + 1))) else some (.inl (x2, (x3 + 1)))))
def fX9_colouredOf_J28 (z : Nat) (x2 : Int32) : Option (Int32) :=
  some x2
def fX9_colouredOf (z : Nat) (x0 : Int32) (x1 : Int32) : Option (Int32) :=
  (lp (fun sg => fX9_colouredOf_L4 z x0 x1 sg.1 sg.2) z (0, 0)).bind (fun ex => fX9_colouredOf_J28 z ex)
theorem hdX9_colouredOf : yX9_colouredOf.cls = RX9 ∧ yX9_colouredOf.cls ≠ "java/lang/invoke/MethodHandle" ∧ yX9_colouredOf.cls ≠ "java/lang/invoke/VarHandle" ∧ (parseMethodDescriptor yX9_colouredOf.desc).map (fun d => d.parameters.length) = some 2 := by decide +kernel
set_option maxHeartbeats 4000000 in
set_option maxRecDepth 100000 in
theorem kX9_colouredOf_L4 {p : Program} {l : Launch} {e : Env} {s : State} {m : MethodId} {args : Array Value} {below : List Frame} {meth : Method} {c : Code} {Q : State → Prop} {A : Nat → Prop} {D : va_G} {cI cJ : ClassId} (C : bC cX9_colouredOf 4 RX9 wsX9_colouredOf D cI cJ p s m args c meth A)
    {z : Nat} {x0 : Int32} {x1 : Int32} {x2 : Int32} {x3 : Int32} {o : (Int32 × Int32) ⊕ (Int32)} (hf : fX9_colouredOf_L4 z x0 x1 x2 x3 = some o)
    (hbk : ∀ s', o = .inl s' → ∀ (H : Heap) (locs : List Loc) (ls : Array Slot), va_P D vwCl (uX9_colouredOf cI cJ) H → va_D A (uX9_colouredOf cI cJ) → va_S A s.heap H locs → lv_has ls 4 [(0, .int x0), (1, .int x1), (2, .int s'.1), (3, .int s'.2)] → W p l e rX9_colouredOf s m args below meth c H locs 0 0 Q (F0 m 4 ls []))
    (hex : ∀ e', o = .inr e' → ∀ (H : Heap) (locs : List Loc) (ls : Array Slot), va_P D vwCl (uX9_colouredOf cI cJ) H → va_D A (uX9_colouredOf cI cJ) → va_S A s.heap H locs → lv_has ls 4 [(2, .int e')] → W p l e rX9_colouredOf s m args below meth c H locs 0 0 Q (F0 m 28 ls []))
    {H : Heap} {locs : List Loc} {ls : Array Slot} (hP : va_P D vwCl (uX9_colouredOf cI cJ) H) (hD : va_D A (uX9_colouredOf cI cJ)) (hS : va_S A s.heap H locs) (hl : lv_has ls 4 [(0, .int x0), (1, .int x1), (2, .int x2), (3, .int x3)]) : W p l e rX9_colouredOf s m args below meth c H locs 0 0 Q (F0 m 4 ls []) := by
  obtain ⟨hx, hb, hml, hown, hts, hK, hN, hA, hlocks⟩ := id C
  unfold fX9_colouredOf_L4 at hf
  refine lv_iload_n hx hb dX9_colouredOf_4 rfl (lv_at hl 3 rfl) ?_
  refine lv_bipush (v := 9) hx hb dX9_colouredOf_5 (by decide) ?_
  refine lv_icmp_ge (tgt := 28) hx hb dX9_colouredOf_7 (by decide) (fun hc => ?_) (fun hc => ?_)
  · have hf := if_yes hc hf
    have ho := Option.some.inj hf
    subst ho
    exact hex _ rfl _ _ _ hP hD hS (lv_sub hl [2] rfl)
  · have hf := if_no hc hf
    refine lv_iload_n hx hb dX9_colouredOf_10 rfl (lv_at hl 0 rfl) ?_
    refine lv_iload_n hx hb dX9_colouredOf_11 rfl (lv_at hl 3 rfl) ?_
    refine cl_i (wc := (uX9_kindAt cI cJ)) (w1 := (uX9_kindAt cI cJ)) (rn_S (As := [.int x0, .int x3]) (rest := []) (wc := (uX9_kindAt cI cJ)) C hP hD [] rfl rfl (mX9_kindAt l D cI cJ H.size) 2 gX9_colouredOf_X9_kindAt rfl ⟨rfl, rfl, Nat.le_of_ble_eq_true rfl, Nat.le_of_ble_eq_true rfl⟩ hdX9_kindAt.2 rfl hl.1 rfl (Nat.le_of_ble_eq_true rfl) dX9_colouredOf_12) hP hD hS hA [] rfl rfl (fun H locs hP hD hS => ?_)
    have hP : va_P D vwCl (uX9_colouredOf cI cJ) H := hP
    have hD : va_D A (uX9_colouredOf cI cJ) := hD
    refine lv_iload_n hx hb dX9_colouredOf_15 rfl (lv_at hl 1 rfl) ?_
    refine lv_icmp_ne (tgt := 22) hx hb dX9_colouredOf_16 (by decide) (fun hc => ?_) (fun hc => ?_)
    · have hf := if_no hc hf
      refine lv_iinc (v := (x3 + 1)) (lv' := [(3, .int (x3 + 1)), (0, .int x0), (1, .int x1), (2, .int x2)]) hx hb dX9_colouredOf_22 hl (k := 3) rfl rfl (by decide) rfl (fun ls hl => ?_)
      refine lv_goto (tgt := 4) hx hb dX9_colouredOf_25 (by decide) ?_
      have ho := Option.some.inj hf
      subst ho
      exact hbk _ rfl _ _ _ hP hD hS (lv_sub hl [1, 2, 3, 0] rfl)
    · have hf := if_yes hc hf
      refine lv_iinc (v := (x2 + 1)) (lv' := [(2, .int (x2 + 1)), (0, .int x0), (1, .int x1), (3, .int x3)]) hx hb dX9_colouredOf_19 hl (k := 2) rfl rfl (by decide) rfl (fun ls hl => ?_)
      refine lv_iinc (v := (x3 + 1)) (lv' := [(3, .int (x3 + 1)), (2, .int (x2 + 1)), (0, .int x0), (1, .int x1)]) hx hb dX9_colouredOf_22 hl (k := 3) rfl rfl (by decide) rfl (fun ls hl => ?_)
      refine lv_goto (tgt := 4) hx hb dX9_colouredOf_25 (by decide) ?_
      have ho := Option.some.inj hf
      subst ho
      exact hbk _ rfl _ _ _ hP hD hS (lv_sub hl [2, 3, 1, 0] rfl)
set_option maxHeartbeats 4000000 in
set_option maxRecDepth 100000 in
theorem kX9_colouredOf_J28 {p : Program} {l : Launch} {e : Env} {s : State} {m : MethodId} {args : Array Value} {below : List Frame} {meth : Method} {c : Code} {Q : State → Prop} {A : Nat → Prop} {D : va_G} {cI cJ : ClassId} (C : bC cX9_colouredOf 4 RX9 wsX9_colouredOf D cI cJ p s m args c meth A)
    {z : Nat} {x2 : Int32} {o : Int32} (hf : fX9_colouredOf_J28 z x2 = some o)
    (hrt : ∀ (H : Heap) (locs : List Loc) (ls : Array Slot) (pc : Nat), va_P D vwCl (uX9_colouredOf cI cJ) H → va_D A (uX9_colouredOf cI cJ) → va_S A s.heap H locs → decode cX9_colouredOf pc = .ok (.ireturn, 1) → W p l e rX9_colouredOf s m args below meth c H locs 0 0 Q (F0 m pc ls [.int o]))
    {H : Heap} {locs : List Loc} {ls : Array Slot} (hP : va_P D vwCl (uX9_colouredOf cI cJ) H) (hD : va_D A (uX9_colouredOf cI cJ)) (hS : va_S A s.heap H locs) (hl : lv_has ls 4 [(2, .int x2)]) : W p l e rX9_colouredOf s m args below meth c H locs 0 0 Q (F0 m 28 ls []) := by
  obtain ⟨hx, hb, hml, hown, hts, hK, hN, hA, hlocks⟩ := id C
  unfold fX9_colouredOf_J28 at hf
  refine lv_iload_n hx hb dX9_colouredOf_28 rfl (lv_at hl 0 rfl) ?_
  have ho := Option.some.inj hf
  subst ho
  exact hrt H locs ls _ hP hD hS dX9_colouredOf_29
set_option maxHeartbeats 4000000 in
set_option maxRecDepth 100000 in
theorem kX9_colouredOf_0 {p : Program} {l : Launch} {e : Env} {s : State} {m : MethodId} {args : Array Value} {below : List Frame} {meth : Method} {c : Code} {Q : State → Prop} {A : Nat → Prop} {D : va_G} {cI cJ : ClassId} (C : bC cX9_colouredOf 4 RX9 wsX9_colouredOf D cI cJ p s m args c meth A)
    {z : Nat} {x0 : Int32} {x1 : Int32} {o : Int32} (hf : fX9_colouredOf z x0 x1 = some o)
    (hrt : ∀ (H : Heap) (locs : List Loc) (ls : Array Slot) (pc : Nat), va_P D vwCl (uX9_colouredOf cI cJ) H → va_D A (uX9_colouredOf cI cJ) → va_S A s.heap H locs → decode cX9_colouredOf pc = .ok (.ireturn, 1) → W p l e rX9_colouredOf s m args below meth c H locs 0 0 Q (F0 m pc ls [.int o]))
    {H : Heap} {locs : List Loc} {ls : Array Slot} (hP : va_P D vwCl (uX9_colouredOf cI cJ) H) (hD : va_D A (uX9_colouredOf cI cJ)) (hS : va_S A s.heap H locs) (hl : lv_has ls 4 [(0, .int x0), (1, .int x1)]) : W p l e rX9_colouredOf s m args below meth c H locs 0 0 Q (F0 m 0 ls []) := by
  obtain ⟨hx, hb, hml, hown, hts, hK, hN, hA, hlocks⟩ := id C
  unfold fX9_colouredOf at hf
  refine lv_iconst (v := 0) hx hb dX9_colouredOf_0 (by decide) ?_
  refine lv_istore_n (lv' := [(2, .int 0), (0, .int x0), (1, .int x1)]) hx hb dX9_colouredOf_1 rfl hl (by decide) rfl (fun ls hl => ?_)
  refine lv_iconst (v := 0) hx hb dX9_colouredOf_2 (by decide) ?_
  refine lv_istore_n (lv' := [(3, .int 0), (2, .int 0), (0, .int x0), (1, .int x1)]) hx hb dX9_colouredOf_3 rfl hl (by decide) rfl (fun ls hl => ?_)
  obtain ⟨ex, hlp, hf⟩ := ob_some hf
  refine lp_ind (P := fun sg => ∀ (H : Heap) (locs : List Loc) (ls : Array Slot), va_P D vwCl (uX9_colouredOf cI cJ) H → va_D A (uX9_colouredOf cI cJ) → va_S A s.heap H locs → lv_has ls 4 [(0, .int x0), (1, .int x1), (2, .int sg.1), (3, .int sg.2)] → W p l e rX9_colouredOf s m args below meth c H locs 0 0 Q (F0 m 4 ls [])) ?_ z _ hlp H locs ls hP hD hS (lv_sub hl [2, 3, 1, 0] rfl)
  intro sg og hbo hback hexit H locs ls hP hD hS hl
  refine kX9_colouredOf_L4 C hbo (fun s' h => hback s' h) (fun ee h H locs ls hP hD hS hl => ?_) hP hD hS hl
  have he := hexit _ h
  subst he
  rename' ee => ex
  exact kX9_colouredOf_J28 C hf hrt hP hD hS (lv_sub hl [0] rfl)
set_option maxHeartbeats 4000000 in
set_option maxRecDepth 100000 in
theorem mX9_colouredOf (l : Launch) (D : va_G) (cI cJ : ClassId) (sz : Nat) {z : Nat} {x0 : Int32} {x1 : Int32} {o : Int32} (hf : fX9_colouredOf z x0 x1 = some o) : Met l yX9_colouredOf wsX9_colouredOf rX9_colouredOf (va_Pc [.int x0, .int x1] (kP D cI cJ (uX9_colouredOf cI cJ) sz)) (va_Qi (fun r' (_ : Unit) => r' = o) (fun _ t => kB D (va_A (uX9_colouredOf cI cJ) sz) (uX9_colouredOf cI cJ) t) (va_A (uX9_colouredOf cI cJ) sz)) 0 0 (va_A (uX9_colouredOf cI cJ) sz) :=
  met_i (by decide) rfl (Nat.le_of_ble_eq_true rfl) (fun p e s m below meth c A Q C hrt ls hl hP hD hS => kX9_colouredOf_0 (A := A) C hf hrt hP hD hS hl)

/-! ===== FrogsOnRing.isStone(I)Z ===== -/
abbrev uX9_isStone (cI cJ : ClassId) (a_this : Nat) (a_page : Nat) (a_reading : Nat) (a_pond : Nat) (a_moves : Nat) (a_numbering : Nat) (a_search : Nat) (a_ending : Nat) (a_chance : Nat) (a_now : Nat) (a_kept : Nat) (i_keptStands : Int32) (i_aimed : Int32) (i_hasAim : Int32) (i_reads : Int32) (a_pond_behinds : Nat) (a_pond_depths : Nat) (i_pond_size : Int32) (i_pond_isRing : Int32) (i_pond_overOthers : Int32) (i_pond_longestLeap : Int32) : va_W := [(a_this, .inr (9, [.ref a_page, .ref a_reading, .ref a_pond, .ref a_moves, .ref a_numbering, .ref a_search, .ref a_ending, .ref a_chance, .ref a_now, .ref a_kept, .int i_keptStands, .int i_aimed, .int i_hasAim, .int i_reads])), (a_pond, .inr (6, [.ref a_pond_behinds, .ref a_pond_depths, .int i_pond_size, .int i_pond_isRing, .int i_pond_overOthers, .int i_pond_longestLeap]))]
def rX9_isStone : Room := { frames := 0, cells := 0, slots := 0, locals := 0 }
def fX9_isStone (x1 : Int32) (i_pond_size : Int32) : Int32 :=
  (if x1 < 0 then 0 else (if i_pond_size ≤ x1 then 0 else 1))
theorem hdX9_isStone : yX9_isStone.cls = RX9 ∧ yX9_isStone.cls ≠ "java/lang/invoke/MethodHandle" ∧ yX9_isStone.cls ≠ "java/lang/invoke/VarHandle" ∧ (parseMethodDescriptor yX9_isStone.desc).map (fun d => d.parameters.length) = some 1 := by decide +kernel
set_option maxRecDepth 20000 in
theorem jX9_isStone_X6 : ∀ w ∈ u_ws RX6 TX6 6, w ∈ wsX9_isStone := by decide +kernel
set_option maxRecDepth 20000 in
theorem jX9_isStone_X9 : ∀ w ∈ u_ws RX9 TX9 14, w ∈ wsX9_isStone := by decide +kernel
set_option maxRecDepth 20000 in
theorem qX9_isStone_114 : Cond.fieldLink RX9 114 "FrogsOnRing$Pond" "size" "I" ∈ wsX9_isStone := by decide +kernel
set_option maxRecDepth 20000 in
theorem qX9_isStone_26 : Cond.fieldLink RX9 26 "FrogsOnRing" "pond" "LFrogsOnRing$Pond;" ∈ wsX9_isStone := by decide +kernel
set_option maxHeartbeats 4000000 in
set_option maxRecDepth 100000 in
theorem kX9_isStone_0 {p : Program} {l : Launch} {e : Env} {s : State} {m : MethodId} {args : Array Value} {below : List Frame} {meth : Method} {c : Code} {Q : State → Prop} {A : Nat → Prop} {D : va_G} {cI cJ : ClassId} (C : bC cX9_isStone 2 RX9 wsX9_isStone D cI cJ p s m args c meth A)
    {a_this : Nat} {a_page : Nat} {a_reading : Nat} {a_pond : Nat} {a_moves : Nat} {a_numbering : Nat} {a_search : Nat} {a_ending : Nat} {a_chance : Nat} {a_now : Nat} {a_kept : Nat} {i_keptStands : Int32} {i_aimed : Int32} {i_hasAim : Int32} {i_reads : Int32} {a_pond_behinds : Nat} {a_pond_depths : Nat} {i_pond_size : Int32} {i_pond_isRing : Int32} {i_pond_overOthers : Int32} {i_pond_longestLeap : Int32} {x1 : Int32} {o : Int32} (hf : fX9_isStone x1 i_pond_size = o)
    (hrt : ∀ (H : Heap) (locs : List Loc) (ls : Array Slot) (pc : Nat), (o = 0 ∨ o = 1) → va_P D vwCl (uX9_isStone cI cJ a_this a_page a_reading a_pond a_moves a_numbering a_search a_ending a_chance a_now a_kept i_keptStands i_aimed i_hasAim i_reads a_pond_behinds a_pond_depths i_pond_size i_pond_isRing i_pond_overOthers i_pond_longestLeap) H → va_D A (uX9_isStone cI cJ a_this a_page a_reading a_pond a_moves a_numbering a_search a_ending a_chance a_now a_kept i_keptStands i_aimed i_hasAim i_reads a_pond_behinds a_pond_depths i_pond_size i_pond_isRing i_pond_overOthers i_pond_longestLeap) → va_S A s.heap H locs → decode cX9_isStone pc = .ok (.ireturn, 1) → W p l e rX9_isStone s m args below meth c H locs 0 0 Q (F0 m pc ls [.int o]))
    {H : Heap} {locs : List Loc} {ls : Array Slot} (hP : va_P D vwCl (uX9_isStone cI cJ a_this a_page a_reading a_pond a_moves a_numbering a_search a_ending a_chance a_now a_kept i_keptStands i_aimed i_hasAim i_reads a_pond_behinds a_pond_depths i_pond_size i_pond_isRing i_pond_overOthers i_pond_longestLeap) H) (hD : va_D A (uX9_isStone cI cJ a_this a_page a_reading a_pond a_moves a_numbering a_search a_ending a_chance a_now a_kept i_keptStands i_aimed i_hasAim i_reads a_pond_behinds a_pond_depths i_pond_size i_pond_isRing i_pond_overOthers i_pond_longestLeap)) (hS : va_S A s.heap H locs) (hl : lv_has ls 2 [(0, .ref a_this), (1, .int x1)]) : W p l e rX9_isStone s m args below meth c H locs 0 0 Q (F0 m 0 ls []) := by
  obtain ⟨hx, hb, hml, hown, hts, hK, hN, hA, hlocks⟩ := id C
  unfold fX9_isStone at hf
  refine lv_iload_n hx hb dX9_isStone_0 rfl (lv_at hl 1 rfl) ?_
  refine lv_if_lt (tgt := 19) hx hb dX9_isStone_1 (by decide) (fun hc => ?_) (fun hc => ?_)
  · have hf := if_yes hc hf
    refine lv_iconst (v := 0) hx hb dX9_isStone_19 (by decide) ?_
    subst hf
    exact hrt H locs ls _ (Or.inl rfl) hP hD hS dX9_isStone_20
  · have hf := if_no hc hf
    refine lv_iload_n hx hb dX9_isStone_4 rfl (lv_at hl 1 rfl) ?_
    refine lv_aload_n hx hb dX9_isStone_5 rfl (lv_at hl 0 rfl) ?_
    refine va_get (D := D) (ci := 9) (v := .ref a_pond) (C := RX9) (T := TX9) (N := 14) hx hb hts jX9_isStone_X9 hown hK hP 0 rfl rfl 2 (by decide) (hts _ qX9_isStone_26) (fun _ h9 => h9) rfl dX9_isStone_6 ?_
    refine va_get (D := D) (ci := 6) (v := .int i_pond_size) (C := RX6) (T := TX6) (N := 6) hx hb hts jX9_isStone_X6 hown hK hP 1 rfl rfl 2 (by decide) (hts _ qX9_isStone_114) (fun _ h9 => h9) rfl dX9_isStone_9 ?_
    refine lv_icmp_ge (tgt := 19) hx hb dX9_isStone_12 (by decide) (fun hc => ?_) (fun hc => ?_)
    · have hf := if_yes hc hf
      refine lv_iconst (v := 0) hx hb dX9_isStone_19 (by decide) ?_
      subst hf
      exact hrt H locs ls _ (Or.inl rfl) hP hD hS dX9_isStone_20
    · have hf := if_no hc hf
      refine lv_iconst (v := 1) hx hb dX9_isStone_15 (by decide) ?_
      refine lv_goto (tgt := 20) hx hb dX9_isStone_16 (by decide) ?_
      subst hf
      exact hrt H locs ls _ (Or.inr rfl) hP hD hS dX9_isStone_20
set_option maxHeartbeats 4000000 in
set_option maxRecDepth 100000 in
theorem mX9_isStone (l : Launch) (D : va_G) (cI cJ : ClassId) (sz : Nat) {a_this : Nat} {a_page : Nat} {a_reading : Nat} {a_pond : Nat} {a_moves : Nat} {a_numbering : Nat} {a_search : Nat} {a_ending : Nat} {a_chance : Nat} {a_now : Nat} {a_kept : Nat} {i_keptStands : Int32} {i_aimed : Int32} {i_hasAim : Int32} {i_reads : Int32} {a_pond_behinds : Nat} {a_pond_depths : Nat} {i_pond_size : Int32} {i_pond_isRing : Int32} {i_pond_overOthers : Int32} {i_pond_longestLeap : Int32} {x1 : Int32} : Met l yX9_isStone wsX9_isStone rX9_isStone (va_Pc [.ref a_this, .int x1] (kP D cI cJ (uX9_isStone cI cJ a_this a_page a_reading a_pond a_moves a_numbering a_search a_ending a_chance a_now a_kept i_keptStands i_aimed i_hasAim i_reads a_pond_behinds a_pond_depths i_pond_size i_pond_isRing i_pond_overOthers i_pond_longestLeap) sz)) (va_Qi (fun r' (_ : Unit) => r' = (fX9_isStone x1 i_pond_size)) (fun _ t => kB D (va_A (uX9_isStone cI cJ a_this a_page a_reading a_pond a_moves a_numbering a_search a_ending a_chance a_now a_kept i_keptStands i_aimed i_hasAim i_reads a_pond_behinds a_pond_depths i_pond_size i_pond_isRing i_pond_overOthers i_pond_longestLeap) sz) (uX9_isStone cI cJ a_this a_page a_reading a_pond a_moves a_numbering a_search a_ending a_chance a_now a_kept i_keptStands i_aimed i_hasAim i_reads a_pond_behinds a_pond_depths i_pond_size i_pond_isRing i_pond_overOthers i_pond_longestLeap) t) (va_A (uX9_isStone cI cJ a_this a_page a_reading a_pond a_moves a_numbering a_search a_ending a_chance a_now a_kept i_keptStands i_aimed i_hasAim i_reads a_pond_behinds a_pond_depths i_pond_size i_pond_isRing i_pond_overOthers i_pond_longestLeap) sz)) 0 0 (va_A (uX9_isStone cI cJ a_this a_page a_reading a_pond a_moves a_numbering a_search a_ending a_chance a_now a_kept i_keptStands i_aimed i_hasAim i_reads a_pond_behinds a_pond_depths i_pond_size i_pond_isRing i_pond_overOthers i_pond_longestLeap) sz) :=
  met_z (by decide) rfl (Nat.le_of_ble_eq_true rfl) (fun p e s m below meth c A Q C hrt ls hl hP hD hS => kX9_isStone_0 (A := A) C rfl hrt hP hD hS hl)

/-! ===== FrogsOnRing.kindToldOf(II)I ===== -/
abbrev uX9_kindToldOf (cI cJ : ClassId) : va_W := []
def rX9_kindToldOf : Room := { frames := 1, cells := 0, slots := 0, locals := 21 }
def fX9_kindToldOf (x0 : Int32) (x1 : Int32) : Int32 :=
  (if (fX9_kindAt x0 x1) = 0 then (-1) else (fX9_kindAt x0 x1))
theorem hdX9_kindToldOf : yX9_kindToldOf.cls = RX9 ∧ yX9_kindToldOf.cls ≠ "java/lang/invoke/MethodHandle" ∧ yX9_kindToldOf.cls ≠ "java/lang/invoke/VarHandle" ∧ (parseMethodDescriptor yX9_kindToldOf.desc).map (fun d => d.parameters.length) = some 2 := by decide +kernel
set_option maxHeartbeats 4000000 in
set_option maxRecDepth 100000 in
theorem kX9_kindToldOf_0 {p : Program} {l : Launch} {e : Env} {s : State} {m : MethodId} {args : Array Value} {below : List Frame} {meth : Method} {c : Code} {Q : State → Prop} {A : Nat → Prop} {D : va_G} {cI cJ : ClassId} (C : bC cX9_kindToldOf 3 RX9 wsX9_kindToldOf D cI cJ p s m args c meth A)
    {x0 : Int32} {x1 : Int32} {o : Int32} (hf : fX9_kindToldOf x0 x1 = o)
    (hrt : ∀ (H : Heap) (locs : List Loc) (ls : Array Slot) (pc : Nat), va_P D vwCl (uX9_kindToldOf cI cJ) H → va_D A (uX9_kindToldOf cI cJ) → va_S A s.heap H locs → decode cX9_kindToldOf pc = .ok (.ireturn, 1) → W p l e rX9_kindToldOf s m args below meth c H locs 0 0 Q (F0 m pc ls [.int o]))
    {H : Heap} {locs : List Loc} {ls : Array Slot} (hP : va_P D vwCl (uX9_kindToldOf cI cJ) H) (hD : va_D A (uX9_kindToldOf cI cJ)) (hS : va_S A s.heap H locs) (hl : lv_has ls 3 [(0, .int x0), (1, .int x1)]) : W p l e rX9_kindToldOf s m args below meth c H locs 0 0 Q (F0 m 0 ls []) := by
  obtain ⟨hx, hb, hml, hown, hts, hK, hN, hA, hlocks⟩ := id C
  unfold fX9_kindToldOf at hf
  refine lv_iload_n hx hb dX9_kindToldOf_0 rfl (lv_at hl 0 rfl) ?_
  refine lv_iload_n hx hb dX9_kindToldOf_1 rfl (lv_at hl 1 rfl) ?_
  refine cl_i (wc := (uX9_kindAt cI cJ)) (w1 := (uX9_kindAt cI cJ)) (rn_S (As := [.int x0, .int x1]) (rest := []) (wc := (uX9_kindAt cI cJ)) C hP hD [] rfl rfl (mX9_kindAt l D cI cJ H.size) 2 gX9_kindToldOf_X9_kindAt rfl ⟨rfl, rfl, Nat.le_of_ble_eq_true rfl, Nat.le_of_ble_eq_true rfl⟩ hdX9_kindAt.2 rfl hl.1 rfl (Nat.le_of_ble_eq_true rfl) dX9_kindToldOf_2) hP hD hS hA [] rfl rfl (fun H locs hP hD hS => ?_)
  have hP : va_P D vwCl (uX9_kindToldOf cI cJ) H := hP
  have hD : va_D A (uX9_kindToldOf cI cJ) := hD
  refine lv_istore_n (lv' := [(2, .int (fX9_kindAt x0 x1)), (0, .int x0), (1, .int x1)]) hx hb dX9_kindToldOf_5 rfl hl (by decide) rfl (fun ls hl => ?_)
  refine lv_iload_n hx hb dX9_kindToldOf_6 rfl (lv_at hl 0 rfl) ?_
  refine lv_if_ne (tgt := 14) hx hb dX9_kindToldOf_7 (by decide) (fun hc => ?_) (fun hc => ?_)
  · have hf := if_no hc hf
    refine lv_iload_n hx hb dX9_kindToldOf_14 rfl (lv_at hl 0 rfl) ?_
    subst hf
    exact hrt H locs ls _ hP hD hS dX9_kindToldOf_15
  · have hf := if_yes hc hf
    refine lv_iconst (v := (-1)) hx hb dX9_kindToldOf_10 (by decide) ?_
    refine lv_goto (tgt := 15) hx hb dX9_kindToldOf_11 (by decide) ?_
    subst hf
    exact hrt H locs ls _ hP hD hS dX9_kindToldOf_15
set_option maxHeartbeats 4000000 in
set_option maxRecDepth 100000 in
theorem mX9_kindToldOf (l : Launch) (D : va_G) (cI cJ : ClassId) (sz : Nat) {x0 : Int32} {x1 : Int32} : Met l yX9_kindToldOf wsX9_kindToldOf rX9_kindToldOf (va_Pc [.int x0, .int x1] (kP D cI cJ (uX9_kindToldOf cI cJ) sz)) (va_Qi (fun r' (_ : Unit) => r' = (fX9_kindToldOf x0 x1)) (fun _ t => kB D (va_A (uX9_kindToldOf cI cJ) sz) (uX9_kindToldOf cI cJ) t) (va_A (uX9_kindToldOf cI cJ) sz)) 0 0 (va_A (uX9_kindToldOf cI cJ) sz) :=
  met_i (by decide) rfl (Nat.le_of_ble_eq_true rfl) (fun p e s m below meth c A Q C hrt ls hl hP hD hS => kX9_kindToldOf_0 (A := A) C rfl hrt hP hD hS hl)

/-! ===== FrogsOnRing$Pond.behind(I)I ===== -/
abbrev uX6_behind (cI cJ : ClassId) (a_this : Nat) (a_behinds : Nat) (a_depths : Nat) (i_size : Int32) (i_isRing : Int32) (i_overOthers : Int32) (i_longestLeap : Int32) (g_behinds : Nat → Int32) : va_W := [(a_this, .inr (6, [.ref a_behinds, .ref a_depths, .int i_size, .int i_isRing, .int i_overOthers, .int i_longestLeap])), (a_behinds, .inl (cI, 9, .inl g_behinds))]
def rX6_behind : Room := { frames := 0, cells := 0, slots := 0, locals := 0 }
def fX6_behind (z : Nat) (x1 : Int32) (g_behinds : Nat → Int32) : Option (Int32) :=
  (if x1 < 0 then some (-1) else (if 9 ≤ x1 then some (-1) else agd 9 x1 (some (g_behinds x1.toNatClampNeg))))
theorem hdX6_behind : yX6_behind.cls = RX6 ∧ yX6_behind.cls ≠ "java/lang/invoke/MethodHandle" ∧ yX6_behind.cls ≠ "java/lang/invoke/VarHandle" ∧ (parseMethodDescriptor yX6_behind.desc).map (fun d => d.parameters.length) = some 1 := by decide +kernel
set_option maxRecDepth 20000 in
theorem jX6_behind_X6 : ∀ w ∈ u_ws RX6 TX6 6, w ∈ wsX6_behind := by decide +kernel
set_option maxRecDepth 20000 in
theorem qX6_behind_9 : Cond.fieldLink RX6 9 "FrogsOnRing$Pond" "behinds" "[I" ∈ wsX6_behind := by decide +kernel
set_option maxHeartbeats 4000000 in
set_option maxRecDepth 100000 in
theorem kX6_behind_0 {p : Program} {l : Launch} {e : Env} {s : State} {m : MethodId} {args : Array Value} {below : List Frame} {meth : Method} {c : Code} {Q : State → Prop} {A : Nat → Prop} {D : va_G} {cI cJ : ClassId} (C : bC cX6_behind 2 RX6 wsX6_behind D cI cJ p s m args c meth A)
    {a_this : Nat} {a_behinds : Nat} {a_depths : Nat} {i_size : Int32} {i_isRing : Int32} {i_overOthers : Int32} {i_longestLeap : Int32} {g_behinds : Nat → Int32} {z : Nat} {x1 : Int32} {o : Int32} (hf : fX6_behind z x1 g_behinds = some o)
    (hrt : ∀ (H : Heap) (locs : List Loc) (ls : Array Slot) (pc : Nat), va_P D vwCl (uX6_behind cI cJ a_this a_behinds a_depths i_size i_isRing i_overOthers i_longestLeap g_behinds) H → va_D A (uX6_behind cI cJ a_this a_behinds a_depths i_size i_isRing i_overOthers i_longestLeap g_behinds) → va_S A s.heap H locs → decode cX6_behind pc = .ok (.ireturn, 1) → W p l e rX6_behind s m args below meth c H locs 0 0 Q (F0 m pc ls [.int o]))
    {H : Heap} {locs : List Loc} {ls : Array Slot} (hP : va_P D vwCl (uX6_behind cI cJ a_this a_behinds a_depths i_size i_isRing i_overOthers i_longestLeap g_behinds) H) (hD : va_D A (uX6_behind cI cJ a_this a_behinds a_depths i_size i_isRing i_overOthers i_longestLeap g_behinds)) (hS : va_S A s.heap H locs) (hl : lv_has ls 2 [(0, .ref a_this), (1, .int x1)]) : W p l e rX6_behind s m args below meth c H locs 0 0 Q (F0 m 0 ls []) := by
  obtain ⟨hx, hb, hml, hown, hts, hK, hN, hA, hlocks⟩ := id C
  unfold fX6_behind at hf
  refine lv_iload_n hx hb dX6_behind_0 rfl (lv_at hl 1 rfl) ?_
  refine lv_if_lt (tgt := 19) hx hb dX6_behind_1 (by decide) (fun hc => ?_) (fun hc => ?_)
  · have hf := if_yes hc hf
    refine lv_iconst (v := (-1)) hx hb dX6_behind_19 (by decide) ?_
    have ho := Option.some.inj hf
    subst ho
    exact hrt H locs ls _ hP hD hS dX6_behind_20
  · have hf := if_no hc hf
    refine lv_iload_n hx hb dX6_behind_4 rfl (lv_at hl 1 rfl) ?_
    refine lv_bipush (v := 9) hx hb dX6_behind_5 (by decide) ?_
    refine lv_icmp_ge (tgt := 19) hx hb dX6_behind_7 (by decide) (fun hc => ?_) (fun hc => ?_)
    · have hf := if_yes hc hf
      refine lv_iconst (v := (-1)) hx hb dX6_behind_19 (by decide) ?_
      have ho := Option.some.inj hf
      subst ho
      exact hrt H locs ls _ hP hD hS dX6_behind_20
    · have hf := if_no hc hf
      refine lv_aload_n hx hb dX6_behind_10 rfl (lv_at hl 0 rfl) ?_
      refine va_get (D := D) (ci := 6) (v := .ref a_behinds) (C := RX6) (T := TX6) (N := 6) hx hb hts jX6_behind_X6 hown hK hP 0 rfl rfl 0 (by decide) (hts _ qX6_behind_9) (fun _ h9 => h9) rfl dX6_behind_11 ?_
      refine lv_iload_n hx hb dX6_behind_14 rfl (lv_at hl 1 rfl) ?_
      obtain ⟨hin, hf⟩ := agd_some hf
      refine va_iald hx hb hK hP 1 0 rfl rfl hin dX6_behind_15 ?_
      refine lv_goto (tgt := 20) hx hb dX6_behind_16 (by decide) ?_
      have ho := Option.some.inj hf
      subst ho
      exact hrt H locs ls _ hP hD hS dX6_behind_20
set_option maxHeartbeats 4000000 in
set_option maxRecDepth 100000 in
theorem mX6_behind (l : Launch) (D : va_G) (cI cJ : ClassId) (sz : Nat) {a_this : Nat} {a_behinds : Nat} {a_depths : Nat} {i_size : Int32} {i_isRing : Int32} {i_overOthers : Int32} {i_longestLeap : Int32} {g_behinds : Nat → Int32} {z : Nat} {x1 : Int32} {o : Int32} (hf : fX6_behind z x1 g_behinds = some o) : Met l yX6_behind wsX6_behind rX6_behind (va_Pc [.ref a_this, .int x1] (kP D cI cJ (uX6_behind cI cJ a_this a_behinds a_depths i_size i_isRing i_overOthers i_longestLeap g_behinds) sz)) (va_Qi (fun r' (_ : Unit) => r' = o) (fun _ t => kB D (va_A (uX6_behind cI cJ a_this a_behinds a_depths i_size i_isRing i_overOthers i_longestLeap g_behinds) sz) (uX6_behind cI cJ a_this a_behinds a_depths i_size i_isRing i_overOthers i_longestLeap g_behinds) t) (va_A (uX6_behind cI cJ a_this a_behinds a_depths i_size i_isRing i_overOthers i_longestLeap g_behinds) sz)) 0 0 (va_A (uX6_behind cI cJ a_this a_behinds a_depths i_size i_isRing i_overOthers i_longestLeap g_behinds) sz) :=
  met_i (by decide) rfl (Nat.le_of_ble_eq_true rfl) (fun p e s m below meth c A Q C hrt ls hl hP hD hS => kX6_behind_0 (A := A) C hf hrt hP hD hS hl)

/-! ===== FrogsOnRing.stone(II)I ===== -/
abbrev uX9_stone (cI cJ : ClassId) (a_this : Nat) (a_page : Nat) (a_reading : Nat) (a_pond : Nat) (a_moves : Nat) (a_numbering : Nat) (a_search : Nat) (a_ending : Nat) (a_chance : Nat) (a_now : Nat) (a_kept : Nat) (i_keptStands : Int32) (i_aimed : Int32) (i_hasAim : Int32) (i_reads : Int32) (a_pond_behinds : Nat) (a_pond_depths : Nat) (i_pond_size : Int32) (i_pond_isRing : Int32) (i_pond_overOthers : Int32) (i_pond_longestLeap : Int32) (g_pond_behinds : Nat → Int32) (a_now_froms : Nat) (a_now_tos : Nat) (i_now_made : Int32) (i_now_order : Int32) : va_W := [(a_this, .inr (9, [.ref a_page, .ref a_reading, .ref a_pond, .ref a_moves, .ref a_numbering, .ref a_search, .ref a_ending, .ref a_chance, .ref a_now, .ref a_kept, .int i_keptStands, .int i_aimed, .int i_hasAim, .int i_reads])), (a_pond, .inr (6, [.ref a_pond_behinds, .ref a_pond_depths, .int i_pond_size, .int i_pond_isRing, .int i_pond_overOthers, .int i_pond_longestLeap])), (a_pond_behinds, .inl (cI, 9, .inl g_pond_behinds)), (a_now, .inr (1, [.ref a_now_froms, .ref a_now_tos, .int i_now_made, .int i_now_order]))]
def rX9_stone : Room := { frames := 2, cells := 0, slots := 0, locals := 43 }
def fX9_stone (z : Nat) (x1 : Int32) (x2 : Int32) (i_pond_size : Int32) (i_hasAim : Int32) (i_aimed : Int32) (g_pond_behinds : Nat → Int32) (i_now_order : Int32) : Option (Int32) :=
  (if (fX9_isStone x1 i_pond_size) = 0 then some (-101) else (if x2 = 0 then some (fX9_kindToldOf i_now_order x1) else (if x2 = 1 then (fX6_behind z x1 g_pond_behinds).bind (fun q1 => some q1) else (if x2 = 2 then (if i_hasAim = 0 then some (-1) else some (fX9_kindToldOf i_aimed x1)) else some (-102)))))
theorem hdX9_stone : yX9_stone.cls = RX9 ∧ yX9_stone.cls ≠ "java/lang/invoke/MethodHandle" ∧ yX9_stone.cls ≠ "java/lang/invoke/VarHandle" ∧ (parseMethodDescriptor yX9_stone.desc).map (fun d => d.parameters.length) = some 2 := by decide +kernel
set_option maxRecDepth 20000 in
theorem jX9_stone_X1 : ∀ w ∈ u_ws RX1 TX1 4, w ∈ wsX9_stone := by decide +kernel
set_option maxRecDepth 20000 in
theorem jX9_stone_X9 : ∀ w ∈ u_ws RX9 TX9 14, w ∈ wsX9_stone := by decide +kernel
set_option maxRecDepth 20000 in
theorem qX9_stone_123 : Cond.fieldLink RX9 123 "FrogsOnRing$Course" "order" "I" ∈ wsX9_stone := by decide +kernel
set_option maxRecDepth 20000 in
theorem qX9_stone_136 : Cond.fieldLink RX9 136 "FrogsOnRing" "hasAim" "Z" ∈ wsX9_stone := by decide +kernel
set_option maxRecDepth 20000 in
theorem qX9_stone_149 : Cond.fieldLink RX9 149 "FrogsOnRing" "aimed" "I" ∈ wsX9_stone := by decide +kernel
set_option maxRecDepth 20000 in
theorem qX9_stone_26 : Cond.fieldLink RX9 26 "FrogsOnRing" "pond" "LFrogsOnRing$Pond;" ∈ wsX9_stone := by decide +kernel
set_option maxRecDepth 20000 in
theorem qX9_stone_74 : Cond.fieldLink RX9 74 "FrogsOnRing" "now" "LFrogsOnRing$Course;" ∈ wsX9_stone := by decide +kernel
set_option maxHeartbeats 4000000 in
set_option maxRecDepth 100000 in
theorem kX9_stone_0 {p : Program} {l : Launch} {e : Env} {s : State} {m : MethodId} {args : Array Value} {below : List Frame} {meth : Method} {c : Code} {Q : State → Prop} {A : Nat → Prop} {D : va_G} {cI cJ : ClassId} (C : bC cX9_stone 3 RX9 wsX9_stone D cI cJ p s m args c meth A)
    {a_this : Nat} {a_page : Nat} {a_reading : Nat} {a_pond : Nat} {a_moves : Nat} {a_numbering : Nat} {a_search : Nat} {a_ending : Nat} {a_chance : Nat} {a_now : Nat} {a_kept : Nat} {i_keptStands : Int32} {i_aimed : Int32} {i_hasAim : Int32} {i_reads : Int32} {a_pond_behinds : Nat} {a_pond_depths : Nat} {i_pond_size : Int32} {i_pond_isRing : Int32} {i_pond_overOthers : Int32} {i_pond_longestLeap : Int32} {g_pond_behinds : Nat → Int32} {a_now_froms : Nat} {a_now_tos : Nat} {i_now_made : Int32} {i_now_order : Int32} {z : Nat} {x1 : Int32} {x2 : Int32} {o : Int32} (hf : fX9_stone z x1 x2 i_pond_size i_hasAim i_aimed g_pond_behinds i_now_order = some o)
    (hrt : ∀ (H : Heap) (locs : List Loc) (ls : Array Slot) (pc : Nat), va_P D vwCl (uX9_stone cI cJ a_this a_page a_reading a_pond a_moves a_numbering a_search a_ending a_chance a_now a_kept i_keptStands i_aimed i_hasAim i_reads a_pond_behinds a_pond_depths i_pond_size i_pond_isRing i_pond_overOthers i_pond_longestLeap g_pond_behinds a_now_froms a_now_tos i_now_made i_now_order) H → va_D A (uX9_stone cI cJ a_this a_page a_reading a_pond a_moves a_numbering a_search a_ending a_chance a_now a_kept i_keptStands i_aimed i_hasAim i_reads a_pond_behinds a_pond_depths i_pond_size i_pond_isRing i_pond_overOthers i_pond_longestLeap g_pond_behinds a_now_froms a_now_tos i_now_made i_now_order) → va_S A s.heap H locs → decode cX9_stone pc = .ok (.ireturn, 1) → W p l e rX9_stone s m args below meth c H locs 0 0 Q (F0 m pc ls [.int o]))
    {H : Heap} {locs : List Loc} {ls : Array Slot} (hP : va_P D vwCl (uX9_stone cI cJ a_this a_page a_reading a_pond a_moves a_numbering a_search a_ending a_chance a_now a_kept i_keptStands i_aimed i_hasAim i_reads a_pond_behinds a_pond_depths i_pond_size i_pond_isRing i_pond_overOthers i_pond_longestLeap g_pond_behinds a_now_froms a_now_tos i_now_made i_now_order) H) (hD : va_D A (uX9_stone cI cJ a_this a_page a_reading a_pond a_moves a_numbering a_search a_ending a_chance a_now a_kept i_keptStands i_aimed i_hasAim i_reads a_pond_behinds a_pond_depths i_pond_size i_pond_isRing i_pond_overOthers i_pond_longestLeap g_pond_behinds a_now_froms a_now_tos i_now_made i_now_order)) (hS : va_S A s.heap H locs) (hl : lv_has ls 3 [(0, .ref a_this), (1, .int x1), (2, .int x2)]) : W p l e rX9_stone s m args below meth c H locs 0 0 Q (F0 m 0 ls []) := by
  obtain ⟨hx, hb, hml, hown, hts, hK, hN, hA, hlocks⟩ := id C
  unfold fX9_stone at hf
  refine lv_aload_n hx hb dX9_stone_0 rfl (lv_at hl 0 rfl) ?_
  refine lv_iload_n hx hb dX9_stone_1 rfl (lv_at hl 1 rfl) ?_
  refine cl_i (wc := (uX9_isStone cI cJ a_this a_page a_reading a_pond a_moves a_numbering a_search a_ending a_chance a_now a_kept i_keptStands i_aimed i_hasAim i_reads a_pond_behinds a_pond_depths i_pond_size i_pond_isRing i_pond_overOthers i_pond_longestLeap)) (w1 := (uX9_isStone cI cJ a_this a_page a_reading a_pond a_moves a_numbering a_search a_ending a_chance a_now a_kept i_keptStands i_aimed i_hasAim i_reads a_pond_behinds a_pond_depths i_pond_size i_pond_isRing i_pond_overOthers i_pond_longestLeap)) (rn_V (As := [.int x1]) (b := a_this) (rest := []) (wc := (uX9_isStone cI cJ a_this a_page a_reading a_pond a_moves a_numbering a_search a_ending a_chance a_now a_kept i_keptStands i_aimed i_hasAim i_reads a_pond_behinds a_pond_depths i_pond_size i_pond_isRing i_pond_overOthers i_pond_longestLeap)) (ci := 9) (q0 := 0) C hP hD [0, 1] rfl rfl rfl rfl (mX9_isStone l D cI cJ H.size) 1 gX9_stone_X9_isStone rfl ⟨rfl, rfl, Nat.le_of_ble_eq_true rfl, Nat.le_of_ble_eq_true rfl⟩ hdX9_isStone rfl hl.1 rfl (Nat.le_of_ble_eq_true rfl) dX9_stone_2) hP hD hS hA [0, 1] rfl rfl (fun H locs hP hD hS => ?_)
  have hP : va_P D vwCl (uX9_stone cI cJ a_this a_page a_reading a_pond a_moves a_numbering a_search a_ending a_chance a_now a_kept i_keptStands i_aimed i_hasAim i_reads a_pond_behinds a_pond_depths i_pond_size i_pond_isRing i_pond_overOthers i_pond_longestLeap g_pond_behinds a_now_froms a_now_tos i_now_made i_now_order) H := hP
  have hD : va_D A (uX9_stone cI cJ a_this a_page a_reading a_pond a_moves a_numbering a_search a_ending a_chance a_now a_kept i_keptStands i_aimed i_hasAim i_reads a_pond_behinds a_pond_depths i_pond_size i_pond_isRing i_pond_overOthers i_pond_longestLeap g_pond_behinds a_now_froms a_now_tos i_now_made i_now_order) := hD
  refine lv_if_ne (tgt := 11) hx hb dX9_stone_5 (by decide) (fun hc => ?_) (fun hc => ?_)
  · have hf := if_no hc hf
    refine lv_iload_n hx hb dX9_stone_11 rfl (lv_at hl 2 rfl) ?_
    by_cases hc0 : x2 = 0
    · have hf := if_yes hc0 hf
      refine lv_tableIn (tgt := 40) (off := 28) hx hb dX9_stone_12 (by rw [hc0]; decide) (by rw [hc0]; decide) (by rw [hc0]; rfl) (by decide) ?_
      refine lv_aload_n hx hb dX9_stone_40 rfl (lv_at hl 0 rfl) ?_
      refine va_get (D := D) (ci := 9) (v := .ref a_now) (C := RX9) (T := TX9) (N := 14) hx hb hts jX9_stone_X9 hown hK hP 0 rfl rfl 8 (by decide) (hts _ qX9_stone_74) (fun _ h9 => h9) rfl dX9_stone_41 ?_
      refine va_get (D := D) (ci := 1) (v := .int i_now_order) (C := RX1) (T := TX1) (N := 4) hx hb hts jX9_stone_X1 hown hK hP 3 rfl rfl 3 (by decide) (hts _ qX9_stone_123) (fun _ h9 => h9) rfl dX9_stone_44 ?_
      refine lv_iload_n hx hb dX9_stone_47 rfl (lv_at hl 1 rfl) ?_
      refine cl_i (wc := (uX9_kindToldOf cI cJ)) (w1 := (uX9_kindToldOf cI cJ)) (rn_S (As := [.int i_now_order, .int x1]) (rest := []) (wc := (uX9_kindToldOf cI cJ)) C hP hD [] rfl rfl (mX9_kindToldOf l D cI cJ H.size) 2 gX9_stone_X9_kindToldOf rfl ⟨rfl, rfl, Nat.le_of_ble_eq_true rfl, Nat.le_of_ble_eq_true rfl⟩ hdX9_kindToldOf.2 rfl hl.1 rfl (Nat.le_of_ble_eq_true rfl) dX9_stone_48) hP hD hS hA [] rfl rfl (fun H locs hP hD hS => ?_)
      have hP : va_P D vwCl (uX9_stone cI cJ a_this a_page a_reading a_pond a_moves a_numbering a_search a_ending a_chance a_now a_kept i_keptStands i_aimed i_hasAim i_reads a_pond_behinds a_pond_depths i_pond_size i_pond_isRing i_pond_overOthers i_pond_longestLeap g_pond_behinds a_now_froms a_now_tos i_now_made i_now_order) H := hP
      have hD : va_D A (uX9_stone cI cJ a_this a_page a_reading a_pond a_moves a_numbering a_search a_ending a_chance a_now a_kept i_keptStands i_aimed i_hasAim i_reads a_pond_behinds a_pond_depths i_pond_size i_pond_isRing i_pond_overOthers i_pond_longestLeap g_pond_behinds a_now_froms a_now_tos i_now_made i_now_order) := hD
      have ho := Option.some.inj hf
      subst ho
      exact hrt H locs ls _ hP hD hS dX9_stone_51
    have hf := if_no hc0 hf
    by_cases hc1 : x2 = 1
    · have hf := if_yes hc1 hf
      refine lv_tableIn (tgt := 52) (off := 40) hx hb dX9_stone_12 (by rw [hc1]; decide) (by rw [hc1]; decide) (by rw [hc1]; rfl) (by decide) ?_
      refine lv_aload_n hx hb dX9_stone_52 rfl (lv_at hl 0 rfl) ?_
      refine va_get (D := D) (ci := 9) (v := .ref a_pond) (C := RX9) (T := TX9) (N := 14) hx hb hts jX9_stone_X9 hown hK hP 0 rfl rfl 2 (by decide) (hts _ qX9_stone_26) (fun _ h9 => h9) rfl dX9_stone_53 ?_
      refine lv_iload_n hx hb dX9_stone_56 rfl (lv_at hl 1 rfl) ?_
      obtain ⟨q1, hq, hf⟩ := ob_some hf
      refine cl_i (wc := (uX6_behind cI cJ a_pond a_pond_behinds a_pond_depths i_pond_size i_pond_isRing i_pond_overOthers i_pond_longestLeap g_pond_behinds)) (w1 := (uX6_behind cI cJ a_pond a_pond_behinds a_pond_depths i_pond_size i_pond_isRing i_pond_overOthers i_pond_longestLeap g_pond_behinds)) (rn_V (As := [.int x1]) (b := a_pond) (rest := []) (wc := (uX6_behind cI cJ a_pond a_pond_behinds a_pond_depths i_pond_size i_pond_isRing i_pond_overOthers i_pond_longestLeap g_pond_behinds)) (ci := 6) (q0 := 1) C hP hD [1, 2] rfl rfl rfl rfl (mX6_behind l D cI cJ H.size hq) 1 gX9_stone_X6_behind rfl ⟨rfl, rfl, Nat.le_of_ble_eq_true rfl, Nat.le_of_ble_eq_true rfl⟩ hdX6_behind rfl hl.1 rfl (Nat.le_of_ble_eq_true rfl) dX9_stone_57) hP hD hS hA [1, 2] rfl rfl (fun H locs hP hD hS => ?_)
      have hP : va_P D vwCl (uX9_stone cI cJ a_this a_page a_reading a_pond a_moves a_numbering a_search a_ending a_chance a_now a_kept i_keptStands i_aimed i_hasAim i_reads a_pond_behinds a_pond_depths i_pond_size i_pond_isRing i_pond_overOthers i_pond_longestLeap g_pond_behinds a_now_froms a_now_tos i_now_made i_now_order) H := hP
      have hD : va_D A (uX9_stone cI cJ a_this a_page a_reading a_pond a_moves a_numbering a_search a_ending a_chance a_now a_kept i_keptStands i_aimed i_hasAim i_reads a_pond_behinds a_pond_depths i_pond_size i_pond_isRing i_pond_overOthers i_pond_longestLeap g_pond_behinds a_now_froms a_now_tos i_now_made i_now_order) := hD
      have ho := Option.some.inj hf
      subst ho
      exact hrt H locs ls _ hP hD hS dX9_stone_60
    have hf := if_no hc1 hf
    by_cases hc2 : x2 = 2
    · have hf := if_yes hc2 hf
      refine lv_tableIn (tgt := 61) (off := 49) hx hb dX9_stone_12 (by rw [hc2]; decide) (by rw [hc2]; decide) (by rw [hc2]; rfl) (by decide) ?_
      refine lv_aload_n hx hb dX9_stone_61 rfl (lv_at hl 0 rfl) ?_
      refine va_get (D := D) (ci := 9) (v := .int i_hasAim) (C := RX9) (T := TX9) (N := 14) hx hb hts jX9_stone_X9 hown hK hP 0 rfl rfl 12 (by decide) (hts _ qX9_stone_136) (fun _ h9 => h9) rfl dX9_stone_62 ?_
      refine lv_if_eq (tgt := 79) hx hb dX9_stone_65 (by decide) (fun hc => ?_) (fun hc => ?_)
      · have hf := if_yes hc hf
        refine lv_iconst (v := (-1)) hx hb dX9_stone_79 (by decide) ?_
        have ho := Option.some.inj hf
        subst ho
        exact hrt H locs ls _ hP hD hS dX9_stone_80
      · have hf := if_no hc hf
        refine lv_aload_n hx hb dX9_stone_68 rfl (lv_at hl 0 rfl) ?_
        refine va_get (D := D) (ci := 9) (v := .int i_aimed) (C := RX9) (T := TX9) (N := 14) hx hb hts jX9_stone_X9 hown hK hP 0 rfl rfl 11 (by decide) (hts _ qX9_stone_149) (fun _ h9 => h9) rfl dX9_stone_69 ?_
        refine lv_iload_n hx hb dX9_stone_72 rfl (lv_at hl 1 rfl) ?_
        refine cl_i (wc := (uX9_kindToldOf cI cJ)) (w1 := (uX9_kindToldOf cI cJ)) (rn_S (As := [.int i_aimed, .int x1]) (rest := []) (wc := (uX9_kindToldOf cI cJ)) C hP hD [] rfl rfl (mX9_kindToldOf l D cI cJ H.size) 2 gX9_stone_X9_kindToldOf rfl ⟨rfl, rfl, Nat.le_of_ble_eq_true rfl, Nat.le_of_ble_eq_true rfl⟩ hdX9_kindToldOf.2 rfl hl.1 rfl (Nat.le_of_ble_eq_true rfl) dX9_stone_73) hP hD hS hA [] rfl rfl (fun H locs hP hD hS => ?_)
        have hP : va_P D vwCl (uX9_stone cI cJ a_this a_page a_reading a_pond a_moves a_numbering a_search a_ending a_chance a_now a_kept i_keptStands i_aimed i_hasAim i_reads a_pond_behinds a_pond_depths i_pond_size i_pond_isRing i_pond_overOthers i_pond_longestLeap g_pond_behinds a_now_froms a_now_tos i_now_made i_now_order) H := hP
        have hD : va_D A (uX9_stone cI cJ a_this a_page a_reading a_pond a_moves a_numbering a_search a_ending a_chance a_now a_kept i_keptStands i_aimed i_hasAim i_reads a_pond_behinds a_pond_depths i_pond_size i_pond_isRing i_pond_overOthers i_pond_longestLeap g_pond_behinds a_now_froms a_now_tos i_now_made i_now_order) := hD
        refine lv_goto (tgt := 80) hx hb dX9_stone_76 (by decide) ?_
        have ho := Option.some.inj hf
        subst ho
        exact hrt H locs ls _ hP hD hS dX9_stone_80
    have hf := if_no hc2 hf
    have hd0 := tsw_ne hc0 (i := 0) (by decide)
    have hd1 := tsw_ne hc1 (i := 1) (by decide)
    have hd2 := tsw_ne hc2 (i := 2) (by decide)
    refine lv_tableOut (tgt := 81) hx hb dX9_stone_12 (by omega) (by decide) ?_
    refine lv_bipush (v := (-102)) hx hb dX9_stone_81 (by decide) ?_
    have ho := Option.some.inj hf
    subst ho
    exact hrt H locs ls _ hP hD hS dX9_stone_83
  · have hf := if_yes hc hf
    refine lv_bipush (v := (-101)) hx hb dX9_stone_8 (by decide) ?_
    have ho := Option.some.inj hf
    subst ho
    exact hrt H locs ls _ hP hD hS dX9_stone_10
set_option maxHeartbeats 4000000 in
set_option maxRecDepth 100000 in
theorem mX9_stone (l : Launch) (D : va_G) (cI cJ : ClassId) (sz : Nat) {a_this : Nat} {a_page : Nat} {a_reading : Nat} {a_pond : Nat} {a_moves : Nat} {a_numbering : Nat} {a_search : Nat} {a_ending : Nat} {a_chance : Nat} {a_now : Nat} {a_kept : Nat} {i_keptStands : Int32} {i_aimed : Int32} {i_hasAim : Int32} {i_reads : Int32} {a_pond_behinds : Nat} {a_pond_depths : Nat} {i_pond_size : Int32} {i_pond_isRing : Int32} {i_pond_overOthers : Int32} {i_pond_longestLeap : Int32} {g_pond_behinds : Nat → Int32} {a_now_froms : Nat} {a_now_tos : Nat} {i_now_made : Int32} {i_now_order : Int32} {z : Nat} {x1 : Int32} {x2 : Int32} {o : Int32} (hf : fX9_stone z x1 x2 i_pond_size i_hasAim i_aimed g_pond_behinds i_now_order = some o) : Met l yX9_stone wsX9_stone rX9_stone (va_Pc [.ref a_this, .int x1, .int x2] (kP D cI cJ (uX9_stone cI cJ a_this a_page a_reading a_pond a_moves a_numbering a_search a_ending a_chance a_now a_kept i_keptStands i_aimed i_hasAim i_reads a_pond_behinds a_pond_depths i_pond_size i_pond_isRing i_pond_overOthers i_pond_longestLeap g_pond_behinds a_now_froms a_now_tos i_now_made i_now_order) sz)) (va_Qi (fun r' (_ : Unit) => r' = o) (fun _ t => kB D (va_A (uX9_stone cI cJ a_this a_page a_reading a_pond a_moves a_numbering a_search a_ending a_chance a_now a_kept i_keptStands i_aimed i_hasAim i_reads a_pond_behinds a_pond_depths i_pond_size i_pond_isRing i_pond_overOthers i_pond_longestLeap g_pond_behinds a_now_froms a_now_tos i_now_made i_now_order) sz) (uX9_stone cI cJ a_this a_page a_reading a_pond a_moves a_numbering a_search a_ending a_chance a_now a_kept i_keptStands i_aimed i_hasAim i_reads a_pond_behinds a_pond_depths i_pond_size i_pond_isRing i_pond_overOthers i_pond_longestLeap g_pond_behinds a_now_froms a_now_tos i_now_made i_now_order) t) (va_A (uX9_stone cI cJ a_this a_page a_reading a_pond a_moves a_numbering a_search a_ending a_chance a_now a_kept i_keptStands i_aimed i_hasAim i_reads a_pond_behinds a_pond_depths i_pond_size i_pond_isRing i_pond_overOthers i_pond_longestLeap g_pond_behinds a_now_froms a_now_tos i_now_made i_now_order) sz)) 0 0 (va_A (uX9_stone cI cJ a_this a_page a_reading a_pond a_moves a_numbering a_search a_ending a_chance a_now a_kept i_keptStands i_aimed i_hasAim i_reads a_pond_behinds a_pond_depths i_pond_size i_pond_isRing i_pond_overOthers i_pond_longestLeap g_pond_behinds a_now_froms a_now_tos i_now_made i_now_order) sz) :=
  met_i (by decide) rfl (Nat.le_of_ble_eq_true rfl) (fun p e s m below meth c A Q C hrt ls hl hP hD hS => kX9_stone_0 (A := A) C hf hrt hP hD hS hl)

/-! ===== FrogsOnRing.goesOn(I)Z ===== -/
abbrev uX9_goesOn (cI cJ : ClassId) : va_W := []
def rX9_goesOn : Room := { frames := 0, cells := 0, slots := 0, locals := 0 }
def fX9_goesOn (x0 : Int32) : Int32 :=
  (if (x0 &&& 1) = 0 then 0 else 1)
theorem hdX9_goesOn : yX9_goesOn.cls = RX9 ∧ yX9_goesOn.cls ≠ "java/lang/invoke/MethodHandle" ∧ yX9_goesOn.cls ≠ "java/lang/invoke/VarHandle" ∧ (parseMethodDescriptor yX9_goesOn.desc).map (fun d => d.parameters.length) = some 1 := by decide +kernel
set_option maxHeartbeats 4000000 in
set_option maxRecDepth 100000 in
theorem kX9_goesOn_0 {p : Program} {l : Launch} {e : Env} {s : State} {m : MethodId} {args : Array Value} {below : List Frame} {meth : Method} {c : Code} {Q : State → Prop} {A : Nat → Prop} {D : va_G} {cI cJ : ClassId} (C : bC cX9_goesOn 1 RX9 wsX9_goesOn D cI cJ p s m args c meth A)
    {x0 : Int32} {o : Int32} (hf : fX9_goesOn x0 = o)
    (hrt : ∀ (H : Heap) (locs : List Loc) (ls : Array Slot) (pc : Nat), (o = 0 ∨ o = 1) → va_P D vwCl (uX9_goesOn cI cJ) H → va_D A (uX9_goesOn cI cJ) → va_S A s.heap H locs → decode cX9_goesOn pc = .ok (.ireturn, 1) → W p l e rX9_goesOn s m args below meth c H locs 0 0 Q (F0 m pc ls [.int o]))
    {H : Heap} {locs : List Loc} {ls : Array Slot} (hP : va_P D vwCl (uX9_goesOn cI cJ) H) (hD : va_D A (uX9_goesOn cI cJ)) (hS : va_S A s.heap H locs) (hl : lv_has ls 1 [(0, .int x0)]) : W p l e rX9_goesOn s m args below meth c H locs 0 0 Q (F0 m 0 ls []) := by
  obtain ⟨hx, hb, hml, hown, hts, hK, hN, hA, hlocks⟩ := id C
  unfold fX9_goesOn at hf
  refine lv_iload_n hx hb dX9_goesOn_0 rfl (lv_at hl 0 rfl) ?_
  refine lv_iconst (v := 1) hx hb dX9_goesOn_1 (by decide) ?_
  refine lv_iand hx hb dX9_goesOn_2 ?_
  refine lv_if_eq (tgt := 10) hx hb dX9_goesOn_3 (by decide) (fun hc => ?_) (fun hc => ?_)
  · have hf := if_yes hc hf
    refine lv_iconst (v := 0) hx hb dX9_goesOn_10 (by decide) ?_
    subst hf
    exact hrt H locs ls _ (Or.inl rfl) hP hD hS dX9_goesOn_11
  · have hf := if_no hc hf
    refine lv_iconst (v := 1) hx hb dX9_goesOn_6 (by decide) ?_
    refine lv_goto (tgt := 11) hx hb dX9_goesOn_7 (by decide) ?_
    subst hf
    exact hrt H locs ls _ (Or.inr rfl) hP hD hS dX9_goesOn_11
set_option maxHeartbeats 4000000 in
set_option maxRecDepth 100000 in
theorem mX9_goesOn (l : Launch) (D : va_G) (cI cJ : ClassId) (sz : Nat) {x0 : Int32} : Met l yX9_goesOn wsX9_goesOn rX9_goesOn (va_Pc [.int x0] (kP D cI cJ (uX9_goesOn cI cJ) sz)) (va_Qi (fun r' (_ : Unit) => r' = (fX9_goesOn x0)) (fun _ t => kB D (va_A (uX9_goesOn cI cJ) sz) (uX9_goesOn cI cJ) t) (va_A (uX9_goesOn cI cJ) sz)) 0 0 (va_A (uX9_goesOn cI cJ) sz) :=
  met_z (by decide) rfl (Nat.le_of_ble_eq_true rfl) (fun p e s m below meth c A Q C hrt ls hl hP hD hS => kX9_goesOn_0 (A := A) C rfl hrt hP hD hS hl)

/-! ===== FrogsOnRing$Moves.findOnTo(II)V ===== -/
abbrev uX3_findOnTo (cI cJ : ClassId) (a_this : Nat) (a_pond : Nat) (a_targets : Nat) (a_pond_behinds : Nat) (a_pond_depths : Nat) (i_pond_size : Int32) (i_pond_isRing : Int32) (i_pond_overOthers : Int32) (i_pond_longestLeap : Int32) (g_pond_behinds : Nat → Int32) (g_targets : Nat → Int32) : va_W := [(a_this, .inr (3, [.ref a_pond, .ref a_targets])), (a_pond, .inr (6, [.ref a_pond_behinds, .ref a_pond_depths, .int i_pond_size, .int i_pond_isRing, .int i_pond_overOthers, .int i_pond_longestLeap])), (a_pond_behinds, .inl (cI, 9, .inl g_pond_behinds)), (a_targets, .inl (cI, 9, .inl g_targets))]
def rX3_findOnTo : Room := { frames := 1, cells := 0, slots := 0, locals := 21 }
def fX3_findOnTo_J105 (z : Nat) (x1 : Int32) (x2 : Int32) (x3 : Int32) (x4 : Int32) (x5 : Int32) (x6 : Int32) (i_pond_longestLeap : Int32) (g_pond_behinds : Nat → Int32) (i_pond_overOthers : Int32) (g_targets : Nat → Int32) : Option ((Int32 × Int32 × Int32 × (Nat → Int32)) ⊕ (((Nat → Int32)) ⊕ ((Nat → Int32)))) :=
  some (.inl (x3, (x4 ||| ((1 : Int32) <<< (x6 &&& 31))), (x5 + 1), g_targets))
def fX3_findOnTo_J93 (z : Nat) (x1 : Int32) (x2 : Int32) (x3 : Int32) (x4 : Int32) (x5 : Int32) (x6 : Int32) (i_pond_longestLeap : Int32) (g_pond_behinds : Nat → Int32) (i_pond_overOthers : Int32) (g_targets : Nat → Int32) : Option ((Int32 × Int32 × Int32 × (Nat → Int32)) ⊕ (((Nat → Int32)) ⊕ ((Nat → Int32)))) :=
  agd 9 x3 (agd 9 x3 (fX3_findOnTo_J105 z x1 x2 x3 x4 x5 x6 i_pond_longestLeap g_pond_behinds i_pond_overOthers (upd g_targets x3.toNatClampNeg ((g_targets x3.toNatClampNeg) ||| ((1 : Int32) <<< (x2 &&& 31))))))
def fX3_findOnTo_J68 (z : Nat) (x1 : Int32) (x2 : Int32) (x3 : Int32) (x4 : Int32) (x5 : Int32) (x6 : Int32) (t0 : Int32) (i_pond_longestLeap : Int32) (g_pond_behinds : Nat → Int32) (i_pond_overOthers : Int32) (g_targets : Nat → Int32) : Option ((Int32 × Int32 × Int32 × (Nat → Int32)) ⊕ (((Nat → Int32)) ⊕ ((Nat → Int32)))) :=
  (if (fX9_goesOn x6) = 0 then fX3_findOnTo_J105 z x1 x2 x3 x4 x5 x6 i_pond_longestLeap g_pond_behinds i_pond_overOthers g_targets else (if i_pond_overOthers = 0 then fX3_findOnTo_J93 z x1 x2 x3 x4 x5 x6 i_pond_longestLeap g_pond_behinds i_pond_overOthers g_targets else (if t0 = 0 then fX3_findOnTo_J93 z x1 x2 x3 x4 x5 x6 i_pond_longestLeap g_pond_behinds i_pond_overOthers g_targets else fX3_findOnTo_J105 z x1 x2 x3 x4 x5 x6 i_pond_longestLeap g_pond_behinds i_pond_overOthers g_targets)))
def fX3_findOnTo_L8 (z : Nat) (x1 : Int32) (x2 : Int32) (x3 : Int32) (x4 : Int32) (x5 : Int32) (i_pond_longestLeap : Int32) (g_pond_behinds : Nat → Int32) (i_pond_overOthers : Int32) (g_targets : Nat → Int32) : Option ((Int32 × Int32 × Int32 × (Nat → Int32)) ⊕ (((Nat → Int32)) ⊕ ((Nat → Int32)))) :=
  (if i_pond_longestLeap < x5 then some (.inr (.inl g_targets)) else (fX6_behind z x3 g_pond_behinds).bind (fun q1 => (if q1 < 0 then some (.inr (.inr g_targets)) else (if q1 < 9 then (if (fX9_kindAt x1 q1) = 0 then some (.inr (.inr g_targets)) else (if ((x4 >>> ((fX9_kindAt x1 q1) &&& 31)) &&& 1) = 0 then fX3_findOnTo_J68 z x1 x2 q1 x4 x5 (fX9_kindAt x1 q1) 0 i_pond_longestLeap g_pond_behinds i_pond_overOthers g_targets else fX3_findOnTo_J68 z x1 x2 q1 x4 x5 (fX9_kindAt x1 q1) 1 i_pond_longestLeap g_pond_behinds i_pond_overOthers g_targets)) else some (.inr (.inr g_targets))))))
def fX3_findOnTo_J120 (z : Nat) (i_pond_longestLeap : Int32) (g_pond_behinds : Nat → Int32) (i_pond_overOthers : Int32) (g_targets : Nat → Int32) : Option ((Nat → Int32)) :=
  some g_targets
def fX3_findOnTo (z : Nat) (x1 : Int32) (x2 : Int32) (i_pond_longestLeap : Int32) (g_pond_behinds : Nat → Int32) (i_pond_overOthers : Int32) (g_targets : Nat → Int32) : Option ((Nat → Int32)) :=
  (lp (fun sg => fX3_findOnTo_L8 z x1 x2 sg.1 sg.2.1 sg.2.2.1 i_pond_longestLeap g_pond_behinds i_pond_overOthers sg.2.2.2) z (x2, 0, 1, g_targets)).bind (fun ey => ey.elim (fun ex => fX3_findOnTo_J120 z i_pond_longestLeap g_pond_behinds i_pond_overOthers ex) (fun rr => some rr))
theorem hdX3_findOnTo : yX3_findOnTo.cls = RX3 ∧ yX3_findOnTo.cls ≠ "java/lang/invoke/MethodHandle" ∧ yX3_findOnTo.cls ≠ "java/lang/invoke/VarHandle" ∧ (parseMethodDescriptor yX3_findOnTo.desc).map (fun d => d.parameters.length) = some 2 := by decide +kernel
set_option maxRecDepth 20000 in
theorem jX3_findOnTo_X3 : ∀ w ∈ u_ws RX3 TX3 2, w ∈ wsX3_findOnTo := by decide +kernel
set_option maxRecDepth 20000 in
theorem jX3_findOnTo_X6 : ∀ w ∈ u_ws RX6 TX6 6, w ∈ wsX3_findOnTo := by decide +kernel
set_option maxRecDepth 20000 in
theorem qX3_findOnTo_15 : Cond.fieldLink RX3 15 "FrogsOnRing$Moves" "pond" "LFrogsOnRing$Pond;" ∈ wsX3_findOnTo := by decide +kernel
set_option maxRecDepth 20000 in
theorem qX3_findOnTo_47 : Cond.fieldLink RX3 47 "FrogsOnRing$Pond" "longestLeap" "I" ∈ wsX3_findOnTo := by decide +kernel
set_option maxRecDepth 20000 in
theorem qX3_findOnTo_57 : Cond.fieldLink RX3 57 "FrogsOnRing$Pond" "overOthers" "Z" ∈ wsX3_findOnTo := by decide +kernel
set_option maxRecDepth 20000 in
theorem qX3_findOnTo_9 : Cond.fieldLink RX3 9 "FrogsOnRing$Moves" "targets" "[I" ∈ wsX3_findOnTo := by decide +kernel
set_option maxRecDepth 20000 in
theorem qX3_findOnTo_iX9_goesOn : Cond.initialized yX9_goesOn.cls ∈ wsX3_findOnTo := by decide +kernel
set_option maxRecDepth 20000 in
theorem qX3_findOnTo_iX9_kindAt : Cond.initialized yX9_kindAt.cls ∈ wsX3_findOnTo := by decide +kernel
set_option maxRecDepth 20000 in
theorem qX3_findOnTo_sX9_goesOn : Cond.static yX9_goesOn ∈ wsX3_findOnTo := by decide +kernel
set_option maxRecDepth 20000 in
theorem qX3_findOnTo_sX9_kindAt : Cond.static yX9_kindAt ∈ wsX3_findOnTo := by decide +kernel
set_option maxHeartbeats 4000000 in
set_option maxRecDepth 100000 in
theorem kX3_findOnTo_J105 {p : Program} {l : Launch} {e : Env} {s : State} {m : MethodId} {args : Array Value} {below : List Frame} {meth : Method} {c : Code} {Q : State → Prop} {A : Nat → Prop} {D : va_G} {cI cJ : ClassId} (C : bC cX3_findOnTo 8 RX3 wsX3_findOnTo D cI cJ p s m args c meth A)
    {a_this : Nat} {a_pond : Nat} {a_targets : Nat} {a_pond_behinds : Nat} {a_pond_depths : Nat} {i_pond_size : Int32} {i_pond_isRing : Int32} {i_pond_overOthers : Int32} {i_pond_longestLeap : Int32} {g_pond_behinds : Nat → Int32} {g_targets : Nat → Int32} {z : Nat} {x1 : Int32} {x2 : Int32} {x3 : Int32} {x4 : Int32} {x5 : Int32} {x6 : Int32} {o : (Int32 × Int32 × Int32 × (Nat → Int32)) ⊕ (((Nat → Int32)) ⊕ ((Nat → Int32)))} (hf : fX3_findOnTo_J105 z x1 x2 x3 x4 x5 x6 i_pond_longestLeap g_pond_behinds i_pond_overOthers g_targets = some o)
    (hbk : ∀ s', o = .inl s' → ∀ (H : Heap) (locs : List Loc) (ls : Array Slot), va_P D vwCl (uX3_findOnTo cI cJ a_this a_pond a_targets a_pond_behinds a_pond_depths i_pond_size i_pond_isRing i_pond_overOthers i_pond_longestLeap g_pond_behinds s'.2.2.2) H → va_D A (uX3_findOnTo cI cJ a_this a_pond a_targets a_pond_behinds a_pond_depths i_pond_size i_pond_isRing i_pond_overOthers i_pond_longestLeap g_pond_behinds s'.2.2.2) → va_S A s.heap H locs → lv_has ls 8 [(0, .ref a_this), (1, .int x1), (2, .int x2), (3, .int s'.1), (4, .int s'.2.1), (5, .int s'.2.2.1)] → W p l e rX3_findOnTo s m args below meth c H locs 0 0 Q (F0 m 8 ls []))
    (hex : ∀ e', o = .inr (.inl e') → ∀ (H : Heap) (locs : List Loc) (ls : Array Slot), va_P D vwCl (uX3_findOnTo cI cJ a_this a_pond a_targets a_pond_behinds a_pond_depths i_pond_size i_pond_isRing i_pond_overOthers i_pond_longestLeap g_pond_behinds e') H → va_D A (uX3_findOnTo cI cJ a_this a_pond a_targets a_pond_behinds a_pond_depths i_pond_size i_pond_isRing i_pond_overOthers i_pond_longestLeap g_pond_behinds e') → va_S A s.heap H locs → lv_has ls 8 [] → W p l e rX3_findOnTo s m args below meth c H locs 0 0 Q (F0 m 120 ls []))
    (hrt : ∀ r', o = .inr (.inr r') → ∀ (H : Heap) (locs : List Loc) (ls : Array Slot) (pc : Nat), va_P D vwCl (uX3_findOnTo cI cJ a_this a_pond a_targets a_pond_behinds a_pond_depths i_pond_size i_pond_isRing i_pond_overOthers i_pond_longestLeap g_pond_behinds r') H → va_D A (uX3_findOnTo cI cJ a_this a_pond a_targets a_pond_behinds a_pond_depths i_pond_size i_pond_isRing i_pond_overOthers i_pond_longestLeap g_pond_behinds r') → va_S A s.heap H locs → decode cX3_findOnTo pc = .ok (.return_, 1) → W p l e rX3_findOnTo s m args below meth c H locs 0 0 Q (F0 m pc ls []))
    {H : Heap} {locs : List Loc} {ls : Array Slot} (hP : va_P D vwCl (uX3_findOnTo cI cJ a_this a_pond a_targets a_pond_behinds a_pond_depths i_pond_size i_pond_isRing i_pond_overOthers i_pond_longestLeap g_pond_behinds g_targets) H) (hD : va_D A (uX3_findOnTo cI cJ a_this a_pond a_targets a_pond_behinds a_pond_depths i_pond_size i_pond_isRing i_pond_overOthers i_pond_longestLeap g_pond_behinds g_targets)) (hS : va_S A s.heap H locs) (hl : lv_has ls 8 [(0, .ref a_this), (1, .int x1), (2, .int x2), (3, .int x3), (4, .int x4), (5, .int x5), (6, .int x6)]) : W p l e rX3_findOnTo s m args below meth c H locs 0 0 Q (F0 m 105 ls []) := by
  obtain ⟨hx, hb, hml, hown, hts, hK, hN, hA, hlocks⟩ := id C
  unfold fX3_findOnTo_J105 at hf
  refine lv_iload hx hb dX3_findOnTo_105 (lv_at hl 4 rfl) ?_
  refine lv_iconst (v := 1) hx hb dX3_findOnTo_107 (by decide) ?_
  refine lv_iload hx hb dX3_findOnTo_108 (lv_at hl 6 rfl) ?_
  refine lv_ishl hx hb dX3_findOnTo_110 ?_
  refine lv_ior hx hb dX3_findOnTo_111 ?_
  refine lv_istore (lv' := [(4, .int (x4 ||| ((1 : Int32) <<< (x6 &&& 31)))), (0, .ref a_this), (1, .int x1), (2, .int x2), (3, .int x3), (5, .int x5), (6, .int x6)]) hx hb dX3_findOnTo_112 hl (by decide) rfl (fun ls hl => ?_)
  refine lv_iinc (v := (x5 + 1)) (lv' := [(5, .int (x5 + 1)), (4, .int (x4 ||| ((1 : Int32) <<< (x6 &&& 31)))), (0, .ref a_this), (1, .int x1), (2, .int x2), (3, .int x3), (6, .int x6)]) hx hb dX3_findOnTo_114 hl (k := 5) rfl rfl (by decide) rfl (fun ls hl => ?_)
  refine lv_goto (tgt := 8) hx hb dX3_findOnTo_117 (by decide) ?_
  have ho := Option.some.inj hf
  subst ho
  exact hbk _ rfl _ _ _ hP hD hS (lv_sub hl [2, 3, 4, 5, 1, 0] rfl)
set_option maxHeartbeats 4000000 in
set_option maxRecDepth 100000 in
theorem kX3_findOnTo_J93 {p : Program} {l : Launch} {e : Env} {s : State} {m : MethodId} {args : Array Value} {below : List Frame} {meth : Method} {c : Code} {Q : State → Prop} {A : Nat → Prop} {D : va_G} {cI cJ : ClassId} (C : bC cX3_findOnTo 8 RX3 wsX3_findOnTo D cI cJ p s m args c meth A)
    {a_this : Nat} {a_pond : Nat} {a_targets : Nat} {a_pond_behinds : Nat} {a_pond_depths : Nat} {i_pond_size : Int32} {i_pond_isRing : Int32} {i_pond_overOthers : Int32} {i_pond_longestLeap : Int32} {g_pond_behinds : Nat → Int32} {g_targets : Nat → Int32} {z : Nat} {x1 : Int32} {x2 : Int32} {x3 : Int32} {x4 : Int32} {x5 : Int32} {x6 : Int32} {o : (Int32 × Int32 × Int32 × (Nat → Int32)) ⊕ (((Nat → Int32)) ⊕ ((Nat → Int32)))} (hf : fX3_findOnTo_J93 z x1 x2 x3 x4 x5 x6 i_pond_longestLeap g_pond_behinds i_pond_overOthers g_targets = some o)
    (hbk : ∀ s', o = .inl s' → ∀ (H : Heap) (locs : List Loc) (ls : Array Slot), va_P D vwCl (uX3_findOnTo cI cJ a_this a_pond a_targets a_pond_behinds a_pond_depths i_pond_size i_pond_isRing i_pond_overOthers i_pond_longestLeap g_pond_behinds s'.2.2.2) H → va_D A (uX3_findOnTo cI cJ a_this a_pond a_targets a_pond_behinds a_pond_depths i_pond_size i_pond_isRing i_pond_overOthers i_pond_longestLeap g_pond_behinds s'.2.2.2) → va_S A s.heap H locs → lv_has ls 8 [(0, .ref a_this), (1, .int x1), (2, .int x2), (3, .int s'.1), (4, .int s'.2.1), (5, .int s'.2.2.1)] → W p l e rX3_findOnTo s m args below meth c H locs 0 0 Q (F0 m 8 ls []))
    (hex : ∀ e', o = .inr (.inl e') → ∀ (H : Heap) (locs : List Loc) (ls : Array Slot), va_P D vwCl (uX3_findOnTo cI cJ a_this a_pond a_targets a_pond_behinds a_pond_depths i_pond_size i_pond_isRing i_pond_overOthers i_pond_longestLeap g_pond_behinds e') H → va_D A (uX3_findOnTo cI cJ a_this a_pond a_targets a_pond_behinds a_pond_depths i_pond_size i_pond_isRing i_pond_overOthers i_pond_longestLeap g_pond_behinds e') → va_S A s.heap H locs → lv_has ls 8 [] → W p l e rX3_findOnTo s m args below meth c H locs 0 0 Q (F0 m 120 ls []))
    (hrt : ∀ r', o = .inr (.inr r') → ∀ (H : Heap) (locs : List Loc) (ls : Array Slot) (pc : Nat), va_P D vwCl (uX3_findOnTo cI cJ a_this a_pond a_targets a_pond_behinds a_pond_depths i_pond_size i_pond_isRing i_pond_overOthers i_pond_longestLeap g_pond_behinds r') H → va_D A (uX3_findOnTo cI cJ a_this a_pond a_targets a_pond_behinds a_pond_depths i_pond_size i_pond_isRing i_pond_overOthers i_pond_longestLeap g_pond_behinds r') → va_S A s.heap H locs → decode cX3_findOnTo pc = .ok (.return_, 1) → W p l e rX3_findOnTo s m args below meth c H locs 0 0 Q (F0 m pc ls []))
    {H : Heap} {locs : List Loc} {ls : Array Slot} (hP : va_P D vwCl (uX3_findOnTo cI cJ a_this a_pond a_targets a_pond_behinds a_pond_depths i_pond_size i_pond_isRing i_pond_overOthers i_pond_longestLeap g_pond_behinds g_targets) H) (hD : va_D A (uX3_findOnTo cI cJ a_this a_pond a_targets a_pond_behinds a_pond_depths i_pond_size i_pond_isRing i_pond_overOthers i_pond_longestLeap g_pond_behinds g_targets)) (hS : va_S A s.heap H locs) (hl : lv_has ls 8 [(0, .ref a_this), (1, .int x1), (2, .int x2), (3, .int x3), (4, .int x4), (5, .int x5), (6, .int x6)]) : W p l e rX3_findOnTo s m args below meth c H locs 0 0 Q (F0 m 93 ls []) := by
  obtain ⟨hx, hb, hml, hown, hts, hK, hN, hA, hlocks⟩ := id C
  unfold fX3_findOnTo_J93 at hf
  refine lv_aload_n hx hb dX3_findOnTo_93 rfl (lv_at hl 0 rfl) ?_
  refine va_get (D := D) (ci := 3) (v := .ref a_targets) (C := RX3) (T := TX3) (N := 2) hx hb hts jX3_findOnTo_X3 hown hK hP 0 rfl rfl 1 (by decide) (hts _ qX3_findOnTo_9) (fun _ h9 => h9) rfl dX3_findOnTo_94 ?_
  refine lv_iload_n hx hb dX3_findOnTo_97 rfl (lv_at hl 3 rfl) ?_
  refine lv_dup2_11 hx hb dX3_findOnTo_98 rfl rfl ?_
  obtain ⟨hin, hf⟩ := agd_some hf
  refine va_iald hx hb hK hP 3 0 rfl rfl hin dX3_findOnTo_99 ?_
  refine lv_iconst (v := 1) hx hb dX3_findOnTo_100 (by decide) ?_
  refine lv_iload_n hx hb dX3_findOnTo_101 rfl (lv_at hl 2 rfl) ?_
  refine lv_ishl hx hb dX3_findOnTo_102 ?_
  refine lv_ior hx hb dX3_findOnTo_103 ?_
  obtain ⟨hin, hf⟩ := agd_some hf
  refine va_iast hx hb hK hP hD hS 3 0 rfl rfl hin dX3_findOnTo_104 (fun H locs hP hD hS => ?_)
  have hP : va_P D vwCl (uX3_findOnTo cI cJ a_this a_pond a_targets a_pond_behinds a_pond_depths i_pond_size i_pond_isRing i_pond_overOthers i_pond_longestLeap g_pond_behinds (upd g_targets x3.toNatClampNeg ((g_targets x3.toNatClampNeg) ||| ((1 : Int32) <<< (x2 &&& 31))))) H := hP
  have hD : va_D A (uX3_findOnTo cI cJ a_this a_pond a_targets a_pond_behinds a_pond_depths i_pond_size i_pond_isRing i_pond_overOthers i_pond_longestLeap g_pond_behinds (upd g_targets x3.toNatClampNeg ((g_targets x3.toNatClampNeg) ||| ((1 : Int32) <<< (x2 &&& 31))))) := hD
  exact kX3_findOnTo_J105 C hf hbk hex hrt hP hD hS (lv_sub hl [0, 1, 2, 3, 4, 5, 6] rfl)
set_option maxHeartbeats 4000000 in
set_option maxRecDepth 100000 in
theorem kX3_findOnTo_J68 {p : Program} {l : Launch} {e : Env} {s : State} {m : MethodId} {args : Array Value} {below : List Frame} {meth : Method} {c : Code} {Q : State → Prop} {A : Nat → Prop} {D : va_G} {cI cJ : ClassId} (C : bC cX3_findOnTo 8 RX3 wsX3_findOnTo D cI cJ p s m args c meth A)
    {a_this : Nat} {a_pond : Nat} {a_targets : Nat} {a_pond_behinds : Nat} {a_pond_depths : Nat} {i_pond_size : Int32} {i_pond_isRing : Int32} {i_pond_overOthers : Int32} {i_pond_longestLeap : Int32} {g_pond_behinds : Nat → Int32} {g_targets : Nat → Int32} {z : Nat} {x1 : Int32} {x2 : Int32} {x3 : Int32} {x4 : Int32} {x5 : Int32} {x6 : Int32} {t0 : Int32} {o : (Int32 × Int32 × Int32 × (Nat → Int32)) ⊕ (((Nat → Int32)) ⊕ ((Nat → Int32)))} (hf : fX3_findOnTo_J68 z x1 x2 x3 x4 x5 x6 t0 i_pond_longestLeap g_pond_behinds i_pond_overOthers g_targets = some o)
    (hbk : ∀ s', o = .inl s' → ∀ (H : Heap) (locs : List Loc) (ls : Array Slot), va_P D vwCl (uX3_findOnTo cI cJ a_this a_pond a_targets a_pond_behinds a_pond_depths i_pond_size i_pond_isRing i_pond_overOthers i_pond_longestLeap g_pond_behinds s'.2.2.2) H → va_D A (uX3_findOnTo cI cJ a_this a_pond a_targets a_pond_behinds a_pond_depths i_pond_size i_pond_isRing i_pond_overOthers i_pond_longestLeap g_pond_behinds s'.2.2.2) → va_S A s.heap H locs → lv_has ls 8 [(0, .ref a_this), (1, .int x1), (2, .int x2), (3, .int s'.1), (4, .int s'.2.1), (5, .int s'.2.2.1)] → W p l e rX3_findOnTo s m args below meth c H locs 0 0 Q (F0 m 8 ls []))
    (hex : ∀ e', o = .inr (.inl e') → ∀ (H : Heap) (locs : List Loc) (ls : Array Slot), va_P D vwCl (uX3_findOnTo cI cJ a_this a_pond a_targets a_pond_behinds a_pond_depths i_pond_size i_pond_isRing i_pond_overOthers i_pond_longestLeap g_pond_behinds e') H → va_D A (uX3_findOnTo cI cJ a_this a_pond a_targets a_pond_behinds a_pond_depths i_pond_size i_pond_isRing i_pond_overOthers i_pond_longestLeap g_pond_behinds e') → va_S A s.heap H locs → lv_has ls 8 [] → W p l e rX3_findOnTo s m args below meth c H locs 0 0 Q (F0 m 120 ls []))
    (hrt : ∀ r', o = .inr (.inr r') → ∀ (H : Heap) (locs : List Loc) (ls : Array Slot) (pc : Nat), va_P D vwCl (uX3_findOnTo cI cJ a_this a_pond a_targets a_pond_behinds a_pond_depths i_pond_size i_pond_isRing i_pond_overOthers i_pond_longestLeap g_pond_behinds r') H → va_D A (uX3_findOnTo cI cJ a_this a_pond a_targets a_pond_behinds a_pond_depths i_pond_size i_pond_isRing i_pond_overOthers i_pond_longestLeap g_pond_behinds r') → va_S A s.heap H locs → decode cX3_findOnTo pc = .ok (.return_, 1) → W p l e rX3_findOnTo s m args below meth c H locs 0 0 Q (F0 m pc ls []))
    {H : Heap} {locs : List Loc} {ls : Array Slot} (hP : va_P D vwCl (uX3_findOnTo cI cJ a_this a_pond a_targets a_pond_behinds a_pond_depths i_pond_size i_pond_isRing i_pond_overOthers i_pond_longestLeap g_pond_behinds g_targets) H) (hD : va_D A (uX3_findOnTo cI cJ a_this a_pond a_targets a_pond_behinds a_pond_depths i_pond_size i_pond_isRing i_pond_overOthers i_pond_longestLeap g_pond_behinds g_targets)) (hS : va_S A s.heap H locs) (hl : lv_has ls 8 [(0, .ref a_this), (1, .int x1), (2, .int x2), (3, .int x3), (4, .int x4), (5, .int x5), (6, .int x6)]) : W p l e rX3_findOnTo s m args below meth c H locs 0 0 Q (F0 m 68 ls [.int t0]) := by
  obtain ⟨hx, hb, hml, hown, hts, hK, hN, hA, hlocks⟩ := id C
  unfold fX3_findOnTo_J68 at hf
  refine lv_istore (lv' := [(7, .int t0), (0, .ref a_this), (1, .int x1), (2, .int x2), (3, .int x3), (4, .int x4), (5, .int x5), (6, .int x6)]) hx hb dX3_findOnTo_68 hl (by decide) rfl (fun ls hl => ?_)
  refine lv_iload hx hb dX3_findOnTo_70 (lv_at hl 7 rfl) ?_
  refine cl_i (wc := (uX9_goesOn cI cJ)) (w1 := (uX9_goesOn cI cJ)) (rn_N (As := [.int x6]) (rest := []) (wc := (uX9_goesOn cI cJ)) C hP hD [] rfl rfl (mX9_goesOn l D cI cJ H.size) 1 gX3_findOnTo_X9_goesOn_n54 qX3_findOnTo_iX9_goesOn qX3_findOnTo_sX9_goesOn 9 rfl rfl ⟨rfl, rfl, Nat.le_of_ble_eq_true rfl, Nat.le_of_ble_eq_true rfl⟩ hdX9_goesOn.2 rfl hl.1 rfl (Nat.le_of_ble_eq_true rfl) dX3_findOnTo_72) hP hD hS hA [] rfl rfl (fun H locs hP hD hS => ?_)
  have hP : va_P D vwCl (uX3_findOnTo cI cJ a_this a_pond a_targets a_pond_behinds a_pond_depths i_pond_size i_pond_isRing i_pond_overOthers i_pond_longestLeap g_pond_behinds g_targets) H := hP
  have hD : va_D A (uX3_findOnTo cI cJ a_this a_pond a_targets a_pond_behinds a_pond_depths i_pond_size i_pond_isRing i_pond_overOthers i_pond_longestLeap g_pond_behinds g_targets) := hD
  refine lv_if_eq (tgt := 105) hx hb dX3_findOnTo_75 (by decide) (fun hc => ?_) (fun hc => ?_)
  · have hf := if_yes hc hf
    exact kX3_findOnTo_J105 C hf hbk hex hrt hP hD hS (lv_sub hl [1, 2, 3, 4, 5, 6, 7] rfl)
  · have hf := if_no hc hf
    refine lv_aload_n hx hb dX3_findOnTo_78 rfl (lv_at hl 1 rfl) ?_
    refine va_get (D := D) (ci := 3) (v := .ref a_pond) (C := RX3) (T := TX3) (N := 2) hx hb hts jX3_findOnTo_X3 hown hK hP 0 rfl rfl 0 (by decide) (hts _ qX3_findOnTo_15) (fun _ h9 => h9) rfl dX3_findOnTo_79 ?_
    refine va_get (D := D) (ci := 6) (v := .int i_pond_overOthers) (C := RX6) (T := TX6) (N := 6) hx hb hts jX3_findOnTo_X6 hown hK hP 1 rfl rfl 4 (by decide) (hts _ qX3_findOnTo_57) (fun _ h9 => h9) rfl dX3_findOnTo_82 ?_
    refine lv_if_eq (tgt := 93) hx hb dX3_findOnTo_85 (by decide) (fun hc => ?_) (fun hc => ?_)
    · have hf := if_yes hc hf
      exact kX3_findOnTo_J93 C hf hbk hex hrt hP hD hS (lv_sub hl [1, 2, 3, 4, 5, 6, 7] rfl)
    · have hf := if_no hc hf
      refine lv_iload hx hb dX3_findOnTo_88 (lv_at hl 0 rfl) ?_
      refine lv_if_ne (tgt := 105) hx hb dX3_findOnTo_90 (by decide) (fun hc => ?_) (fun hc => ?_)
      · have hf := if_no hc hf
        exact kX3_findOnTo_J105 C hf hbk hex hrt hP hD hS (lv_sub hl [1, 2, 3, 4, 5, 6, 7] rfl)
      · have hf := if_yes hc hf
        exact kX3_findOnTo_J93 C hf hbk hex hrt hP hD hS (lv_sub hl [1, 2, 3, 4, 5, 6, 7] rfl)
set_option maxHeartbeats 4000000 in
set_option maxRecDepth 100000 in
theorem kX3_findOnTo_L8 {p : Program} {l : Launch} {e : Env} {s : State} {m : MethodId} {args : Array Value} {below : List Frame} {meth : Method} {c : Code} {Q : State → Prop} {A : Nat → Prop} {D : va_G} {cI cJ : ClassId} (C : bC cX3_findOnTo 8 RX3 wsX3_findOnTo D cI cJ p s m args c meth A)
    {a_this : Nat} {a_pond : Nat} {a_targets : Nat} {a_pond_behinds : Nat} {a_pond_depths : Nat} {i_pond_size : Int32} {i_pond_isRing : Int32} {i_pond_overOthers : Int32} {i_pond_longestLeap : Int32} {g_pond_behinds : Nat → Int32} {g_targets : Nat → Int32} {z : Nat} {x1 : Int32} {x2 : Int32} {x3 : Int32} {x4 : Int32} {x5 : Int32} {o : (Int32 × Int32 × Int32 × (Nat → Int32)) ⊕ (((Nat → Int32)) ⊕ ((Nat → Int32)))} (hf : fX3_findOnTo_L8 z x1 x2 x3 x4 x5 i_pond_longestLeap g_pond_behinds i_pond_overOthers g_targets = some o)
    (hbk : ∀ s', o = .inl s' → ∀ (H : Heap) (locs : List Loc) (ls : Array Slot), va_P D vwCl (uX3_findOnTo cI cJ a_this a_pond a_targets a_pond_behinds a_pond_depths i_pond_size i_pond_isRing i_pond_overOthers i_pond_longestLeap g_pond_behinds s'.2.2.2) H → va_D A (uX3_findOnTo cI cJ a_this a_pond a_targets a_pond_behinds a_pond_depths i_pond_size i_pond_isRing i_pond_overOthers i_pond_longestLeap g_pond_behinds s'.2.2.2) → va_S A s.heap H locs → lv_has ls 8 [(0, .ref a_this), (1, .int x1), (2, .int x2), (3, .int s'.1), (4, .int s'.2.1), (5, .int s'.2.2.1)] → W p l e rX3_findOnTo s m args below meth c H locs 0 0 Q (F0 m 8 ls []))
    (hex : ∀ e', o = .inr (.inl e') → ∀ (H : Heap) (locs : List Loc) (ls : Array Slot), va_P D vwCl (uX3_findOnTo cI cJ a_this a_pond a_targets a_pond_behinds a_pond_depths i_pond_size i_pond_isRing i_pond_overOthers i_pond_longestLeap g_pond_behinds e') H → va_D A (uX3_findOnTo cI cJ a_this a_pond a_targets a_pond_behinds a_pond_depths i_pond_size i_pond_isRing i_pond_overOthers i_pond_longestLeap g_pond_behinds e') → va_S A s.heap H locs → lv_has ls 8 [] → W p l e rX3_findOnTo s m args below meth c H locs 0 0 Q (F0 m 120 ls []))
    (hrt : ∀ r', o = .inr (.inr r') → ∀ (H : Heap) (locs : List Loc) (ls : Array Slot) (pc : Nat), va_P D vwCl (uX3_findOnTo cI cJ a_this a_pond a_targets a_pond_behinds a_pond_depths i_pond_size i_pond_isRing i_pond_overOthers i_pond_longestLeap g_pond_behinds r') H → va_D A (uX3_findOnTo cI cJ a_this a_pond a_targets a_pond_behinds a_pond_depths i_pond_size i_pond_isRing i_pond_overOthers i_pond_longestLeap g_pond_behinds r') → va_S A s.heap H locs → decode cX3_findOnTo pc = .ok (.return_, 1) → W p l e rX3_findOnTo s m args below meth c H locs 0 0 Q (F0 m pc ls []))
    {H : Heap} {locs : List Loc} {ls : Array Slot} (hP : va_P D vwCl (uX3_findOnTo cI cJ a_this a_pond a_targets a_pond_behinds a_pond_depths i_pond_size i_pond_isRing i_pond_overOthers i_pond_longestLeap g_pond_behinds g_targets) H) (hD : va_D A (uX3_findOnTo cI cJ a_this a_pond a_targets a_pond_behinds a_pond_depths i_pond_size i_pond_isRing i_pond_overOthers i_pond_longestLeap g_pond_behinds g_targets)) (hS : va_S A s.heap H locs) (hl : lv_has ls 8 [(0, .ref a_this), (1, .int x1), (2, .int x2), (3, .int x3), (4, .int x4), (5, .int x5)]) : W p l e rX3_findOnTo s m args below meth c H locs 0 0 Q (F0 m 8 ls []) := by
  obtain ⟨hx, hb, hml, hown, hts, hK, hN, hA, hlocks⟩ := id C
  unfold fX3_findOnTo_L8 at hf
  refine lv_iload hx hb dX3_findOnTo_8 (lv_at hl 5 rfl) ?_
  refine lv_aload_n hx hb dX3_findOnTo_10 rfl (lv_at hl 0 rfl) ?_
  refine va_get (D := D) (ci := 3) (v := .ref a_pond) (C := RX3) (T := TX3) (N := 2) hx hb hts jX3_findOnTo_X3 hown hK hP 0 rfl rfl 0 (by decide) (hts _ qX3_findOnTo_15) (fun _ h9 => h9) rfl dX3_findOnTo_11 ?_
  refine va_get (D := D) (ci := 6) (v := .int i_pond_longestLeap) (C := RX6) (T := TX6) (N := 6) hx hb hts jX3_findOnTo_X6 hown hK hP 1 rfl rfl 5 (by decide) (hts _ qX3_findOnTo_47) (fun _ h9 => h9) rfl dX3_findOnTo_14 ?_
  refine lv_icmp_gt (tgt := 120) hx hb dX3_findOnTo_17 (by decide) (fun hc => ?_) (fun hc => ?_)
  · have hf := if_yes hc hf
    have ho := Option.some.inj hf
    subst ho
    exact hex _ rfl _ _ _ hP hD hS (lv_sub hl [] rfl)
  · have hf := if_no hc hf
    refine lv_aload_n hx hb dX3_findOnTo_20 rfl (lv_at hl 0 rfl) ?_
    refine va_get (D := D) (ci := 3) (v := .ref a_pond) (C := RX3) (T := TX3) (N := 2) hx hb hts jX3_findOnTo_X3 hown hK hP 0 rfl rfl 0 (by decide) (hts _ qX3_findOnTo_15) (fun _ h9 => h9) rfl dX3_findOnTo_21 ?_
    refine lv_iload_n hx hb dX3_findOnTo_24 rfl (lv_at hl 3 rfl) ?_
    obtain ⟨q1, hq, hf⟩ := ob_some hf
    refine cl_i (wc := (uX6_behind cI cJ a_pond a_pond_behinds a_pond_depths i_pond_size i_pond_isRing i_pond_overOthers i_pond_longestLeap g_pond_behinds)) (w1 := (uX6_behind cI cJ a_pond a_pond_behinds a_pond_depths i_pond_size i_pond_isRing i_pond_overOthers i_pond_longestLeap g_pond_behinds)) (rn_V (As := [.int x3]) (b := a_pond) (rest := []) (wc := (uX6_behind cI cJ a_pond a_pond_behinds a_pond_depths i_pond_size i_pond_isRing i_pond_overOthers i_pond_longestLeap g_pond_behinds)) (ci := 6) (q0 := 1) C hP hD [1, 2] rfl rfl rfl rfl (mX6_behind l D cI cJ H.size hq) 1 gX3_findOnTo_X6_behind rfl ⟨rfl, rfl, Nat.le_of_ble_eq_true rfl, Nat.le_of_ble_eq_true rfl⟩ hdX6_behind rfl hl.1 rfl (Nat.le_of_ble_eq_true rfl) dX3_findOnTo_25) hP hD hS hA [1, 2] rfl rfl (fun H locs hP hD hS => ?_)
    have hP : va_P D vwCl (uX3_findOnTo cI cJ a_this a_pond a_targets a_pond_behinds a_pond_depths i_pond_size i_pond_isRing i_pond_overOthers i_pond_longestLeap g_pond_behinds g_targets) H := hP
    have hD : va_D A (uX3_findOnTo cI cJ a_this a_pond a_targets a_pond_behinds a_pond_depths i_pond_size i_pond_isRing i_pond_overOthers i_pond_longestLeap g_pond_behinds g_targets) := hD
    refine lv_istore_n (lv' := [(3, .int q1), (0, .ref a_this), (1, .int x1), (2, .int x2), (4, .int x4), (5, .int x5)]) hx hb dX3_findOnTo_28 rfl hl (by decide) rfl (fun ls hl => ?_)
    refine lv_iload_n hx hb dX3_findOnTo_29 rfl (lv_at hl 0 rfl) ?_
    refine lv_if_lt (tgt := 39) hx hb dX3_findOnTo_30 (by decide) (fun hc => ?_) (fun hc => ?_)
    · have hf := if_yes hc hf
      have ho := Option.some.inj hf
      subst ho
      exact hrt _ rfl H locs ls _ hP hD hS dX3_findOnTo_39
    · have hf := if_no hc hf
      refine lv_iload_n hx hb dX3_findOnTo_33 rfl (lv_at hl 0 rfl) ?_
      refine lv_bipush (v := 9) hx hb dX3_findOnTo_34 (by decide) ?_
      refine lv_icmp_lt (tgt := 40) hx hb dX3_findOnTo_36 (by decide) (fun hc => ?_) (fun hc => ?_)
      · have hf := if_yes hc hf
        refine lv_iload_n hx hb dX3_findOnTo_40 rfl (lv_at hl 2 rfl) ?_
        refine lv_iload_n hx hb dX3_findOnTo_41 rfl (lv_at hl 0 rfl) ?_
        refine cl_i (wc := (uX9_kindAt cI cJ)) (w1 := (uX9_kindAt cI cJ)) (rn_N (As := [.int x1, .int q1]) (rest := []) (wc := (uX9_kindAt cI cJ)) C hP hD [] rfl rfl (mX9_kindAt l D cI cJ H.size) 2 gX3_findOnTo_X9_kindAt_n31 qX3_findOnTo_iX9_kindAt qX3_findOnTo_sX9_kindAt 8 rfl rfl ⟨rfl, rfl, Nat.le_of_ble_eq_true rfl, Nat.le_of_ble_eq_true rfl⟩ hdX9_kindAt.2 rfl hl.1 rfl (Nat.le_of_ble_eq_true rfl) dX3_findOnTo_42) hP hD hS hA [] rfl rfl (fun H locs hP hD hS => ?_)
        have hP : va_P D vwCl (uX3_findOnTo cI cJ a_this a_pond a_targets a_pond_behinds a_pond_depths i_pond_size i_pond_isRing i_pond_overOthers i_pond_longestLeap g_pond_behinds g_targets) H := hP
        have hD : va_D A (uX3_findOnTo cI cJ a_this a_pond a_targets a_pond_behinds a_pond_depths i_pond_size i_pond_isRing i_pond_overOthers i_pond_longestLeap g_pond_behinds g_targets) := hD
        refine lv_istore (lv' := [(6, .int (fX9_kindAt x1 q1)), (3, .int q1), (0, .ref a_this), (1, .int x1), (2, .int x2), (4, .int x4), (5, .int x5)]) hx hb dX3_findOnTo_45 hl (by decide) rfl (fun ls hl => ?_)
        refine lv_iload hx hb dX3_findOnTo_47 (lv_at hl 0 rfl) ?_
        refine lv_if_ne (tgt := 53) hx hb dX3_findOnTo_49 (by decide) (fun hc => ?_) (fun hc => ?_)
        · have hf := if_no hc hf
          refine lv_iload hx hb dX3_findOnTo_53 (lv_at hl 5 rfl) ?_
          refine lv_iload hx hb dX3_findOnTo_55 (lv_at hl 0 rfl) ?_
          refine lv_ishr hx hb dX3_findOnTo_57 ?_
          refine lv_iconst (v := 1) hx hb dX3_findOnTo_58 (by decide) ?_
          refine lv_iand hx hb dX3_findOnTo_59 ?_
          refine lv_if_eq (tgt := 67) hx hb dX3_findOnTo_60 (by decide) (fun hc => ?_) (fun hc => ?_)
          · have hf := if_yes hc hf
            refine lv_iconst (v := 0) hx hb dX3_findOnTo_67 (by decide) ?_
            exact kX3_findOnTo_J68 C hf hbk hex hrt hP hD hS (lv_sub hl [2, 3, 4, 1, 5, 6, 0] rfl)
          · have hf := if_no hc hf
            refine lv_iconst (v := 1) hx hb dX3_findOnTo_63 (by decide) ?_
            refine lv_goto (tgt := 68) hx hb dX3_findOnTo_64 (by decide) ?_
            exact kX3_findOnTo_J68 C hf hbk hex hrt hP hD hS (lv_sub hl [2, 3, 4, 1, 5, 6, 0] rfl)
        · have hf := if_yes hc hf
          have ho := Option.some.inj hf
          subst ho
          exact hrt _ rfl H locs ls _ hP hD hS dX3_findOnTo_52
      · have hf := if_no hc hf
        have ho := Option.some.inj hf
        subst ho
        exact hrt _ rfl H locs ls _ hP hD hS dX3_findOnTo_39
set_option maxHeartbeats 4000000 in
set_option maxRecDepth 100000 in
theorem kX3_findOnTo_J120 {p : Program} {l : Launch} {e : Env} {s : State} {m : MethodId} {args : Array Value} {below : List Frame} {meth : Method} {c : Code} {Q : State → Prop} {A : Nat → Prop} {D : va_G} {cI cJ : ClassId} (C : bC cX3_findOnTo 8 RX3 wsX3_findOnTo D cI cJ p s m args c meth A)
    {a_this : Nat} {a_pond : Nat} {a_targets : Nat} {a_pond_behinds : Nat} {a_pond_depths : Nat} {i_pond_size : Int32} {i_pond_isRing : Int32} {i_pond_overOthers : Int32} {i_pond_longestLeap : Int32} {g_pond_behinds : Nat → Int32} {g_targets : Nat → Int32} {z : Nat} {o : (Nat → Int32)} (hf : fX3_findOnTo_J120 z i_pond_longestLeap g_pond_behinds i_pond_overOthers g_targets = some o)
    (hrt : ∀ (H : Heap) (locs : List Loc) (ls : Array Slot) (pc : Nat), va_P D vwCl (uX3_findOnTo cI cJ a_this a_pond a_targets a_pond_behinds a_pond_depths i_pond_size i_pond_isRing i_pond_overOthers i_pond_longestLeap g_pond_behinds o) H → va_D A (uX3_findOnTo cI cJ a_this a_pond a_targets a_pond_behinds a_pond_depths i_pond_size i_pond_isRing i_pond_overOthers i_pond_longestLeap g_pond_behinds o) → va_S A s.heap H locs → decode cX3_findOnTo pc = .ok (.return_, 1) → W p l e rX3_findOnTo s m args below meth c H locs 0 0 Q (F0 m pc ls []))
    {H : Heap} {locs : List Loc} {ls : Array Slot} (hP : va_P D vwCl (uX3_findOnTo cI cJ a_this a_pond a_targets a_pond_behinds a_pond_depths i_pond_size i_pond_isRing i_pond_overOthers i_pond_longestLeap g_pond_behinds g_targets) H) (hD : va_D A (uX3_findOnTo cI cJ a_this a_pond a_targets a_pond_behinds a_pond_depths i_pond_size i_pond_isRing i_pond_overOthers i_pond_longestLeap g_pond_behinds g_targets)) (hS : va_S A s.heap H locs) (hl : lv_has ls 8 []) : W p l e rX3_findOnTo s m args below meth c H locs 0 0 Q (F0 m 120 ls []) := by
  obtain ⟨hx, hb, hml, hown, hts, hK, hN, hA, hlocks⟩ := id C
  unfold fX3_findOnTo_J120 at hf
  have ho := Option.some.inj hf
  subst ho
  exact hrt H locs ls _ hP hD hS dX3_findOnTo_120
set_option maxHeartbeats 4000000 in
set_option maxRecDepth 100000 in
theorem kX3_findOnTo_0 {p : Program} {l : Launch} {e : Env} {s : State} {m : MethodId} {args : Array Value} {below : List Frame} {meth : Method} {c : Code} {Q : State → Prop} {A : Nat → Prop} {D : va_G} {cI cJ : ClassId} (C : bC cX3_findOnTo 8 RX3 wsX3_findOnTo D cI cJ p s m args c meth A)
    {a_this : Nat} {a_pond : Nat} {a_targets : Nat} {a_pond_behinds : Nat} {a_pond_depths : Nat} {i_pond_size : Int32} {i_pond_isRing : Int32} {i_pond_overOthers : Int32} {i_pond_longestLeap : Int32} {g_pond_behinds : Nat → Int32} {g_targets : Nat → Int32} {z : Nat} {x1 : Int32} {x2 : Int32} {o : (Nat → Int32)} (hf : fX3_findOnTo z x1 x2 i_pond_longestLeap g_pond_behinds i_pond_overOthers g_targets = some o)
    (hrt : ∀ (H : Heap) (locs : List Loc) (ls : Array Slot) (pc : Nat), va_P D vwCl (uX3_findOnTo cI cJ a_this a_pond a_targets a_pond_behinds a_pond_depths i_pond_size i_pond_isRing i_pond_overOthers i_pond_longestLeap g_pond_behinds o) H → va_D A (uX3_findOnTo cI cJ a_this a_pond a_targets a_pond_behinds a_pond_depths i_pond_size i_pond_isRing i_pond_overOthers i_pond_longestLeap g_pond_behinds o) → va_S A s.heap H locs → decode cX3_findOnTo pc = .ok (.return_, 1) → W p l e rX3_findOnTo s m args below meth c H locs 0 0 Q (F0 m pc ls []))
    {H : Heap} {locs : List Loc} {ls : Array Slot} (hP : va_P D vwCl (uX3_findOnTo cI cJ a_this a_pond a_targets a_pond_behinds a_pond_depths i_pond_size i_pond_isRing i_pond_overOthers i_pond_longestLeap g_pond_behinds g_targets) H) (hD : va_D A (uX3_findOnTo cI cJ a_this a_pond a_targets a_pond_behinds a_pond_depths i_pond_size i_pond_isRing i_pond_overOthers i_pond_longestLeap g_pond_behinds g_targets)) (hS : va_S A s.heap H locs) (hl : lv_has ls 8 [(0, .ref a_this), (1, .int x1), (2, .int x2)]) : W p l e rX3_findOnTo s m args below meth c H locs 0 0 Q (F0 m 0 ls []) := by
  obtain ⟨hx, hb, hml, hown, hts, hK, hN, hA, hlocks⟩ := id C
  unfold fX3_findOnTo at hf
  refine lv_iload_n hx hb dX3_findOnTo_0 rfl (lv_at hl 2 rfl) ?_
  refine lv_istore_n (lv' := [(3, .int x2), (0, .ref a_this), (1, .int x1), (2, .int x2)]) hx hb dX3_findOnTo_1 rfl hl (by decide) rfl (fun ls hl => ?_)
  refine lv_iconst (v := 0) hx hb dX3_findOnTo_2 (by decide) ?_
  refine lv_istore (lv' := [(4, .int 0), (3, .int x2), (0, .ref a_this), (1, .int x1), (2, .int x2)]) hx hb dX3_findOnTo_3 hl (by decide) rfl (fun ls hl => ?_)
  refine lv_iconst (v := 1) hx hb dX3_findOnTo_5 (by decide) ?_
  refine lv_istore (lv' := [(5, .int 1), (4, .int 0), (3, .int x2), (0, .ref a_this), (1, .int x1), (2, .int x2)]) hx hb dX3_findOnTo_6 hl (by decide) rfl (fun ls hl => ?_)
  obtain ⟨ex, hlp, hf⟩ := ob_some hf
  refine lp_ind (P := fun sg => ∀ (H : Heap) (locs : List Loc) (ls : Array Slot), va_P D vwCl (uX3_findOnTo cI cJ a_this a_pond a_targets a_pond_behinds a_pond_depths i_pond_size i_pond_isRing i_pond_overOthers i_pond_longestLeap g_pond_behinds sg.2.2.2) H → va_D A (uX3_findOnTo cI cJ a_this a_pond a_targets a_pond_behinds a_pond_depths i_pond_size i_pond_isRing i_pond_overOthers i_pond_longestLeap g_pond_behinds sg.2.2.2) → va_S A s.heap H locs → lv_has ls 8 [(0, .ref a_this), (1, .int x1), (2, .int x2), (3, .int sg.1), (4, .int sg.2.1), (5, .int sg.2.2.1)] → W p l e rX3_findOnTo s m args below meth c H locs 0 0 Q (F0 m 8 ls [])) ?_ z _ hlp H locs ls hP hD hS (lv_sub hl [3, 4, 5, 2, 1, 0] rfl)
  intro sg og hbo hback hexit H locs ls hP hD hS hl
  refine kX3_findOnTo_L8 C hbo (fun s' h => hback s' h) (fun ee h H locs ls hP hD hS hl => ?_) (fun rr h H locs ls pc hP hD hS hdg => ?_) hP hD hS hl
  · have he := hexit _ h
    rename' ee => ex
    simp only [Sum.elim_inl] at hf
    exact kX3_findOnTo_J120 C hf hrt hP hD hS (lv_sub hl [] rfl)
  · have he := hexit _ h
    subst he
    simp only [Sum.elim_inr] at hf
    have ho := Option.some.inj hf
    subst ho
    exact hrt H locs ls pc hP hD hS hdg
set_option maxHeartbeats 4000000 in
set_option maxRecDepth 100000 in
theorem mX3_findOnTo (l : Launch) (D : va_G) (cI cJ : ClassId) (sz : Nat) {a_this : Nat} {a_pond : Nat} {a_targets : Nat} {a_pond_behinds : Nat} {a_pond_depths : Nat} {i_pond_size : Int32} {i_pond_isRing : Int32} {i_pond_overOthers : Int32} {i_pond_longestLeap : Int32} {g_pond_behinds : Nat → Int32} {g_targets : Nat → Int32} {z : Nat} {x1 : Int32} {x2 : Int32} {o : (Nat → Int32)} (hf : fX3_findOnTo z x1 x2 i_pond_longestLeap g_pond_behinds i_pond_overOthers g_targets = some o) : Met l yX3_findOnTo wsX3_findOnTo rX3_findOnTo (va_Pc [.ref a_this, .int x1, .int x2] (kP D cI cJ (uX3_findOnTo cI cJ a_this a_pond a_targets a_pond_behinds a_pond_depths i_pond_size i_pond_isRing i_pond_overOthers i_pond_longestLeap g_pond_behinds g_targets) sz)) (va_Qv (fun (_ : Unit) => True) (fun _ t => kB D (va_A (uX3_findOnTo cI cJ a_this a_pond a_targets a_pond_behinds a_pond_depths i_pond_size i_pond_isRing i_pond_overOthers i_pond_longestLeap g_pond_behinds g_targets) sz) (uX3_findOnTo cI cJ a_this a_pond a_targets a_pond_behinds a_pond_depths i_pond_size i_pond_isRing i_pond_overOthers i_pond_longestLeap g_pond_behinds o) t) (va_A (uX3_findOnTo cI cJ a_this a_pond a_targets a_pond_behinds a_pond_depths i_pond_size i_pond_isRing i_pond_overOthers i_pond_longestLeap g_pond_behinds g_targets) sz)) 0 0 (va_A (uX3_findOnTo cI cJ a_this a_pond a_targets a_pond_behinds a_pond_depths i_pond_size i_pond_isRing i_pond_overOthers i_pond_longestLeap g_pond_behinds g_targets) sz) :=
  met_v (by decide) rfl (Nat.le_of_ble_eq_true rfl) (fun p e s m below meth c A Q C hrt ls hl hP hD hS => kX3_findOnTo_0 (A := A) C hf hrt hP hD hS hl)

