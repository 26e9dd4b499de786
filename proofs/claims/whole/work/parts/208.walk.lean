/-! ===== FrogsOnRing$Numbering.numberHighs(I)V ===== -/
abbrev uX4_numberHighs (cI cJ : ClassId) (a_this : Nat) (a_lowStarts : Nat) (a_highNumbers : Nat) (a_mixtureSizes : Nat) (i_lowBits : Int32) (i_all : Int32) (g_mixtureSizes : Nat → Int32) (g_highNumbers : Nat → Int32) : va_W := [(a_this, .inr (4, [.ref a_lowStarts, .ref a_highNumbers, .ref a_mixtureSizes, .int i_lowBits, .int i_all])), (a_mixtureSizes, .inl (cI, 125, .inl g_mixtureSizes)), (a_highNumbers, .inl (cI, 256, .inl g_highNumbers))]
def rX4_numberHighs : Room := { frames := 2, cells := 0, slots := 0, locals := 43 }
theorem hdX4_numberHighs : yX4_numberHighs.cls = RX4 ∧ yX4_numberHighs.cls ≠ "java/lang/invoke/MethodHandle" ∧ yX4_numberHighs.cls ≠ "java/lang/invoke/VarHandle" ∧ (parseMethodDescriptor yX4_numberHighs.desc).map (fun d => d.parameters.length) = some 1 := by decide +kernel
set_option maxRecDepth 20000 in
theorem jX4_numberHighs_X4 : ∀ w ∈ u_ws RX4 TX4 5, w ∈ wsX4_numberHighs := by decide +kernel
set_option maxRecDepth 20000 in
theorem qX4_numberHighs_15 : Cond.fieldLink RX4 15 "FrogsOnRing$Numbering" "highNumbers" "[I" ∈ wsX4_numberHighs := by decide +kernel
set_option maxRecDepth 20000 in
theorem qX4_numberHighs_18 : Cond.fieldLink RX4 18 "FrogsOnRing$Numbering" "mixtureSizes" "[I" ∈ wsX4_numberHighs := by decide +kernel
set_option maxHeartbeats 4000000 in
set_option maxRecDepth 100000 in
theorem kX4_numberHighs_L2 {p : Program} {l : Launch} {e : Env} {s : State} {m : MethodId} {args : Array Value} {below : List Frame} {meth : Method} {c : Code} {Q : State → Prop} {A : Nat → Prop} {D : va_G} {cI cJ : ClassId} (C : bC cX4_numberHighs 4 RX4 wsX4_numberHighs D cI cJ p s m args c meth A)
    {a_this : Nat} {a_lowStarts : Nat} {a_highNumbers : Nat} {a_mixtureSizes : Nat} {i_lowBits : Int32} {i_all : Int32} {g_mixtureSizes : Nat → Int32} {g_highNumbers : Nat → Int32} {z : Nat} {x1 : Int32} {x2 : Int32} {o : (Int32 × (Nat → Int32) × (Nat → Int32)) ⊕ ((Nat → Int32) × (Nat → Int32))} (hf : fX4_numberHighs_L2 z x1 x2 g_mixtureSizes g_highNumbers = some o)
    (hbk : ∀ s', o = .inl s' → ∀ (H : Heap) (locs : List Loc) (ls : Array Slot), va_P D vwCl (uX4_numberHighs cI cJ a_this a_lowStarts a_highNumbers a_mixtureSizes i_lowBits i_all s'.2.2 s'.2.1) H → va_D A (uX4_numberHighs cI cJ a_this a_lowStarts a_highNumbers a_mixtureSizes i_lowBits i_all s'.2.2 s'.2.1) → va_S A s.heap H locs → lv_has ls 4 [(0, .ref a_this), (1, .int x1), (2, .int s'.1)] → W p l e rX4_numberHighs s m args below meth c H locs 0 0 Q (F0 m 2 ls []))
    (hex : ∀ e', o = .inr e' → ∀ (H : Heap) (locs : List Loc) (ls : Array Slot), va_P D vwCl (uX4_numberHighs cI cJ a_this a_lowStarts a_highNumbers a_mixtureSizes i_lowBits i_all e'.2 e'.1) H → va_D A (uX4_numberHighs cI cJ a_this a_lowStarts a_highNumbers a_mixtureSizes i_lowBits i_all e'.2 e'.1) → va_S A s.heap H locs → lv_has ls 4 [] → W p l e rX4_numberHighs s m args below meth c H locs 0 0 Q (F0 m 56 ls []))
    {H : Heap} {locs : List Loc} {ls : Array Slot} (hP : va_P D vwCl (uX4_numberHighs cI cJ a_this a_lowStarts a_highNumbers a_mixtureSizes i_lowBits i_all g_mixtureSizes g_highNumbers) H) (hD : va_D A (uX4_numberHighs cI cJ a_this a_lowStarts a_highNumbers a_mixtureSizes i_lowBits i_all g_mixtureSizes g_highNumbers)) (hS : va_S A s.heap H locs) (hl : lv_has ls 4 [(0, .ref a_this), (1, .int x1), (2, .int x2)]) : W p l e rX4_numberHighs s m args below meth c H locs 0 0 Q (F0 m 2 ls []) := by
  obtain ⟨hx, hb, hml, hown, hts, hK, hN, hA, hlocks⟩ := id C
  unfold fX4_numberHighs_L2 at hf
  refine lv_iload_n hx hb dX4_numberHighs_2 rfl (lv_at hl 2 rfl) ?_
  refine lv_iload_n hx hb dX4_numberHighs_3 rfl (lv_at hl 1 rfl) ?_
  refine lv_icmp_ge (tgt := 56) hx hb dX4_numberHighs_4 (by decide) (fun hc => ?_) (fun hc => ?_)
  · have hf := if_yes hc hf
    have ho := Option.some.inj hf
    subst ho
    exact hex _ rfl _ _ _ hP hD hS (lv_sub hl [] rfl)
  · have hf := if_no hc hf
    refine lv_iload_n hx hb dX4_numberHighs_7 rfl (lv_at hl 2 rfl) ?_
    refine lv_sipush (v := 256) hx hb dX4_numberHighs_8 (by decide) ?_
    refine lv_icmp_ge (tgt := 56) hx hb dX4_numberHighs_11 (by decide) (fun hc => ?_) (fun hc => ?_)
    · have hf := if_yes hc hf
      have ho := Option.some.inj hf
      subst ho
      exact hex _ rfl _ _ _ hP hD hS (lv_sub hl [] rfl)
    · have hf := if_no hc hf
      refine lv_iload_n hx hb dX4_numberHighs_14 rfl (lv_at hl 2 rfl) ?_
      obtain ⟨q1, hq, hf⟩ := ob_some hf
      refine cl_i (wc := (uX4_tally cI cJ)) (w1 := (uX4_tally cI cJ)) (rn_S (As := [.int x2]) (rest := []) (wc := (uX4_tally cI cJ)) C hP hD [] rfl rfl (mX4_tally l D cI cJ H.size hq) 1 gX4_numberHighs_X4_tally rfl ⟨rfl, rfl, Nat.le_of_ble_eq_true rfl, Nat.le_of_ble_eq_true rfl⟩ hdX4_tally.2 rfl hl.1 rfl (Nat.le_of_ble_eq_true rfl) dX4_numberHighs_15) hP hD hS hA [] rfl rfl (fun H locs hP hD hS => ?_)
      have hP : va_P D vwCl (uX4_numberHighs cI cJ a_this a_lowStarts a_highNumbers a_mixtureSizes i_lowBits i_all g_mixtureSizes g_highNumbers) H := hP
      have hD : va_D A (uX4_numberHighs cI cJ a_this a_lowStarts a_highNumbers a_mixtureSizes i_lowBits i_all g_mixtureSizes g_highNumbers) := hD
      refine lv_iconst (v := 0) hx hb dX4_numberHighs_18 (by decide) ?_
      obtain ⟨q2, hq, hf⟩ := ob_some hf
      refine cl_i (wc := (uX4_mixtureOf cI cJ)) (w1 := (uX4_mixtureOf cI cJ)) (rn_S (As := [.int q1, .int 0]) (rest := []) (wc := (uX4_mixtureOf cI cJ)) C hP hD [] rfl rfl (mX4_mixtureOf l D cI cJ H.size hq) 2 gX4_numberHighs_X4_mixtureOf rfl ⟨rfl, rfl, Nat.le_of_ble_eq_true rfl, Nat.le_of_ble_eq_true rfl⟩ hdX4_mixtureOf.2 rfl hl.1 rfl (Nat.le_of_ble_eq_true rfl) dX4_numberHighs_19) hP hD hS hA [] rfl rfl (fun H locs hP hD hS => ?_)
      have hP : va_P D vwCl (uX4_numberHighs cI cJ a_this a_lowStarts a_highNumbers a_mixtureSizes i_lowBits i_all g_mixtureSizes g_highNumbers) H := hP
      have hD : va_D A (uX4_numberHighs cI cJ a_this a_lowStarts a_highNumbers a_mixtureSizes i_lowBits i_all g_mixtureSizes g_highNumbers) := hD
      refine lv_istore_n (lv' := [(3, .int q2), (0, .ref a_this), (1, .int x1), (2, .int x2)]) hx hb dX4_numberHighs_22 rfl hl (by decide) rfl (fun ls hl => ?_)
      refine lv_iload_n hx hb dX4_numberHighs_23 rfl (lv_at hl 0 rfl) ?_
      refine lv_iconst (v := (-1)) hx hb dX4_numberHighs_24 (by decide) ?_
      refine lv_icmp_eq (tgt := 50) hx hb dX4_numberHighs_25 (by decide) (fun hc => ?_) (fun hc => ?_)
      · have hf := if_yes hc hf
        refine lv_iinc (v := (x2 + 1)) (lv' := [(2, .int (x2 + 1)), (3, .int q2), (0, .ref a_this), (1, .int x1)]) hx hb dX4_numberHighs_50 hl (k := 3) rfl rfl (by decide) rfl (fun ls hl => ?_)
        refine lv_goto (tgt := 2) hx hb dX4_numberHighs_53 (by decide) ?_
        have ho := Option.some.inj hf
        subst ho
        exact hbk _ rfl _ _ _ hP hD hS (lv_sub hl [2, 3, 0] rfl)
      · have hf := if_no hc hf
        refine lv_aload_n hx hb dX4_numberHighs_28 rfl (lv_at hl 1 rfl) ?_
        refine va_get (D := D) (ci := 4) (v := .ref a_highNumbers) (C := RX4) (T := TX4) (N := 5) hx hb hts jX4_numberHighs_X4 hown hK hP 0 rfl rfl 1 (by decide) (hts _ qX4_numberHighs_15) (fun _ h9 => h9) rfl dX4_numberHighs_29 ?_
        refine lv_iload_n hx hb dX4_numberHighs_32 rfl (lv_at hl 3 rfl) ?_
        refine lv_aload_n hx hb dX4_numberHighs_33 rfl (lv_at hl 1 rfl) ?_
        refine va_get (D := D) (ci := 4) (v := .ref a_mixtureSizes) (C := RX4) (T := TX4) (N := 5) hx hb hts jX4_numberHighs_X4 hown hK hP 0 rfl rfl 2 (by decide) (hts _ qX4_numberHighs_18) (fun _ h9 => h9) rfl dX4_numberHighs_34 ?_
        refine lv_iload_n hx hb dX4_numberHighs_37 rfl (lv_at hl 0 rfl) ?_
        obtain ⟨hin, hf⟩ := agd_some hf
        refine va_iald hx hb hK hP 1 0 rfl rfl hin dX4_numberHighs_38 ?_
        obtain ⟨hin, hf⟩ := agd_some hf
        refine va_iast hx hb hK hP hD hS 2 0 rfl rfl hin dX4_numberHighs_39 (fun H locs hP hD hS => ?_)
        have hP : va_P D vwCl (uX4_numberHighs cI cJ a_this a_lowStarts a_highNumbers a_mixtureSizes i_lowBits i_all g_mixtureSizes (upd g_highNumbers x2.toNatClampNeg (g_mixtureSizes q2.toNatClampNeg))) H := hP
        have hD : va_D A (uX4_numberHighs cI cJ a_this a_lowStarts a_highNumbers a_mixtureSizes i_lowBits i_all g_mixtureSizes (upd g_highNumbers x2.toNatClampNeg (g_mixtureSizes q2.toNatClampNeg))) := hD
        refine lv_aload_n hx hb dX4_numberHighs_40 rfl (lv_at hl 1 rfl) ?_
        refine va_get (D := D) (ci := 4) (v := .ref a_mixtureSizes) (C := RX4) (T := TX4) (N := 5) hx hb hts jX4_numberHighs_X4 hown hK hP 0 rfl rfl 2 (by decide) (hts _ qX4_numberHighs_18) (fun _ h9 => h9) rfl dX4_numberHighs_41 ?_
        refine lv_iload_n hx hb dX4_numberHighs_44 rfl (lv_at hl 0 rfl) ?_
        refine lv_dup2_11 hx hb dX4_numberHighs_45 rfl rfl ?_
        obtain ⟨hin, hf⟩ := agd_some hf
        refine va_iald hx hb hK hP 1 0 rfl rfl hin dX4_numberHighs_46 ?_
        refine lv_iconst (v := 1) hx hb dX4_numberHighs_47 (by decide) ?_
        refine lv_iadd hx hb dX4_numberHighs_48 ?_
        obtain ⟨hin, hf⟩ := agd_some hf
        refine va_iast hx hb hK hP hD hS 1 0 rfl rfl hin dX4_numberHighs_49 (fun H locs hP hD hS => ?_)
        have hP : va_P D vwCl (uX4_numberHighs cI cJ a_this a_lowStarts a_highNumbers a_mixtureSizes i_lowBits i_all (upd g_mixtureSizes q2.toNatClampNeg ((g_mixtureSizes q2.toNatClampNeg) + 1)) (upd g_highNumbers x2.toNatClampNeg (g_mixtureSizes q2.toNatClampNeg))) H := hP
        have hD : va_D A (uX4_numberHighs cI cJ a_this a_lowStarts a_highNumbers a_mixtureSizes i_lowBits i_all (upd g_mixtureSizes q2.toNatClampNeg ((g_mixtureSizes q2.toNatClampNeg) + 1)) (upd g_highNumbers x2.toNatClampNeg (g_mixtureSizes q2.toNatClampNeg))) := hD
        refine lv_iinc (v := (x2 + 1)) (lv' := [(2, .int (x2 + 1)), (3, .int q2), (0, .ref a_this), (1, .int x1)]) hx hb dX4_numberHighs_50 hl (k := 3) rfl rfl (by decide) rfl (fun ls hl => ?_)
        refine lv_goto (tgt := 2) hx hb dX4_numberHighs_53 (by decide) ?_
        have ho := Option.some.inj hf
        subst ho
        exact hbk _ rfl _ _ _ hP hD hS (lv_sub hl [2, 3, 0] rfl)
set_option maxHeartbeats 4000000 in
set_option maxRecDepth 100000 in
theorem kX4_numberHighs_J56 {p : Program} {l : Launch} {e : Env} {s : State} {m : MethodId} {args : Array Value} {below : List Frame} {meth : Method} {c : Code} {Q : State → Prop} {A : Nat → Prop} {D : va_G} {cI cJ : ClassId} (C : bC cX4_numberHighs 4 RX4 wsX4_numberHighs D cI cJ p s m args c meth A)
    {a_this : Nat} {a_lowStarts : Nat} {a_highNumbers : Nat} {a_mixtureSizes : Nat} {i_lowBits : Int32} {i_all : Int32} {g_mixtureSizes : Nat → Int32} {g_highNumbers : Nat → Int32} {z : Nat} {o : (Nat → Int32) × (Nat → Int32)} (hf : fX4_numberHighs_J56 z g_mixtureSizes g_highNumbers = some o)
    (hrt : ∀ (H : Heap) (locs : List Loc) (ls : Array Slot) (pc : Nat), va_P D vwCl (uX4_numberHighs cI cJ a_this a_lowStarts a_highNumbers a_mixtureSizes i_lowBits i_all o.2 o.1) H → va_D A (uX4_numberHighs cI cJ a_this a_lowStarts a_highNumbers a_mixtureSizes i_lowBits i_all o.2 o.1) → va_S A s.heap H locs → decode cX4_numberHighs pc = .ok (.return_, 1) → W p l e rX4_numberHighs s m args below meth c H locs 0 0 Q (F0 m pc ls []))
    {H : Heap} {locs : List Loc} {ls : Array Slot} (hP : va_P D vwCl (uX4_numberHighs cI cJ a_this a_lowStarts a_highNumbers a_mixtureSizes i_lowBits i_all g_mixtureSizes g_highNumbers) H) (hD : va_D A (uX4_numberHighs cI cJ a_this a_lowStarts a_highNumbers a_mixtureSizes i_lowBits i_all g_mixtureSizes g_highNumbers)) (hS : va_S A s.heap H locs) (hl : lv_has ls 4 []) : W p l e rX4_numberHighs s m args below meth c H locs 0 0 Q (F0 m 56 ls []) := by
  obtain ⟨hx, hb, hml, hown, hts, hK, hN, hA, hlocks⟩ := id C
  unfold fX4_numberHighs_J56 at hf
  have ho := Option.some.inj hf
  subst ho
  exact hrt H locs ls _ hP hD hS dX4_numberHighs_56
set_option maxHeartbeats 4000000 in
set_option maxRecDepth 100000 in
theorem kX4_numberHighs_0 {p : Program} {l : Launch} {e : Env} {s : State} {m : MethodId} {args : Array Value} {below : List Frame} {meth : Method} {c : Code} {Q : State → Prop} {A : Nat → Prop} {D : va_G} {cI cJ : ClassId} (C : bC cX4_numberHighs 4 RX4 wsX4_numberHighs D cI cJ p s m args c meth A)
    {a_this : Nat} {a_lowStarts : Nat} {a_highNumbers : Nat} {a_mixtureSizes : Nat} {i_lowBits : Int32} {i_all : Int32} {g_mixtureSizes : Nat → Int32} {g_highNumbers : Nat → Int32} {z : Nat} {x1 : Int32} {o : (Nat → Int32) × (Nat → Int32)} (hf : fX4_numberHighs z x1 g_mixtureSizes g_highNumbers = some o)
    (hrt : ∀ (H : Heap) (locs : List Loc) (ls : Array Slot) (pc : Nat), va_P D vwCl (uX4_numberHighs cI cJ a_this a_lowStarts a_highNumbers a_mixtureSizes i_lowBits i_all o.2 o.1) H → va_D A (uX4_numberHighs cI cJ a_this a_lowStarts a_highNumbers a_mixtureSizes i_lowBits i_all o.2 o.1) → va_S A s.heap H locs → decode cX4_numberHighs pc = .ok (.return_, 1) → W p l e rX4_numberHighs s m args below meth c H locs 0 0 Q (F0 m pc ls []))
    {H : Heap} {locs : List Loc} {ls : Array Slot} (hP : va_P D vwCl (uX4_numberHighs cI cJ a_this a_lowStarts a_highNumbers a_mixtureSizes i_lowBits i_all g_mixtureSizes g_highNumbers) H) (hD : va_D A (uX4_numberHighs cI cJ a_this a_lowStarts a_highNumbers a_mixtureSizes i_lowBits i_all g_mixtureSizes g_highNumbers)) (hS : va_S A s.heap H locs) (hl : lv_has ls 4 [(0, .ref a_this), (1, .int x1)]) : W p l e rX4_numberHighs s m args below meth c H locs 0 0 Q (F0 m 0 ls []) := by
  obtain ⟨hx, hb, hml, hown, hts, hK, hN, hA, hlocks⟩ := id C
  unfold fX4_numberHighs at hf
  refine lv_iconst (v := 0) hx hb dX4_numberHighs_0 (by decide) ?_
  refine lv_istore_n (lv' := [(2, .int 0), (0, .ref a_this), (1, .int x1)]) hx hb dX4_numberHighs_1 rfl hl (by decide) rfl (fun ls hl => ?_)
  obtain ⟨ex, hlp, hf⟩ := ob_some hf
  refine lp_ind (P := fun sg => ∀ (H : Heap) (locs : List Loc) (ls : Array Slot), va_P D vwCl (uX4_numberHighs cI cJ a_this a_lowStarts a_highNumbers a_mixtureSizes i_lowBits i_all sg.2.2 sg.2.1) H → va_D A (uX4_numberHighs cI cJ a_this a_lowStarts a_highNumbers a_mixtureSizes i_lowBits i_all sg.2.2 sg.2.1) → va_S A s.heap H locs → lv_has ls 4 [(0, .ref a_this), (1, .int x1), (2, .int sg.1)] → W p l e rX4_numberHighs s m args below meth c H locs 0 0 Q (F0 m 2 ls [])) ?_ z _ hlp H locs ls hP hD hS (lv_sub hl [1, 2, 0] rfl)
  intro sg og hbo hback hexit H locs ls hP hD hS hl
  refine kX4_numberHighs_L2 C hbo (fun s' h => hback s' h) (fun ex h H locs ls hP hD hS hl => ?_) hP hD hS hl
  have he := hexit _ h
  subst he
  exact kX4_numberHighs_J56 C hf hrt hP hD hS (lv_sub hl [] rfl)
set_option maxHeartbeats 4000000 in
set_option maxRecDepth 100000 in
theorem mX4_numberHighs (l : Launch) (D : va_G) (cI cJ : ClassId) (sz : Nat) {a_this : Nat} {a_lowStarts : Nat} {a_highNumbers : Nat} {a_mixtureSizes : Nat} {i_lowBits : Int32} {i_all : Int32} {g_mixtureSizes : Nat → Int32} {g_highNumbers : Nat → Int32} {z : Nat} {x1 : Int32} {o : (Nat → Int32) × (Nat → Int32)} (hf : fX4_numberHighs z x1 g_mixtureSizes g_highNumbers = some o) : Met l yX4_numberHighs wsX4_numberHighs rX4_numberHighs (va_Pc [.ref a_this, .int x1] (kP D cI cJ (uX4_numberHighs cI cJ a_this a_lowStarts a_highNumbers a_mixtureSizes i_lowBits i_all g_mixtureSizes g_highNumbers) sz)) (va_Qv (fun (_ : Unit) => True) (fun _ t => kB D (va_A (uX4_numberHighs cI cJ a_this a_lowStarts a_highNumbers a_mixtureSizes i_lowBits i_all g_mixtureSizes g_highNumbers) sz) (uX4_numberHighs cI cJ a_this a_lowStarts a_highNumbers a_mixtureSizes i_lowBits i_all o.2 o.1) t) (va_A (uX4_numberHighs cI cJ a_this a_lowStarts a_highNumbers a_mixtureSizes i_lowBits i_all g_mixtureSizes g_highNumbers) sz)) 0 0 (va_A (uX4_numberHighs cI cJ a_this a_lowStarts a_highNumbers a_mixtureSizes i_lowBits i_all g_mixtureSizes g_highNumbers) sz) :=
  met_v (by decide) rfl (Nat.le_of_ble_eq_true rfl) (fun p e s m below meth c A Q C hrt ls hl hP hD hS => kX4_numberHighs_0 (A := A) C hf hrt hP hD hS hl)

/-! ===== FrogsOnRing$Numbering.numberLows(II)V ===== -/
abbrev uX4_numberLows (cI cJ : ClassId) (a_this : Nat) (a_lowStarts : Nat) (a_highNumbers : Nat) (a_mixtureSizes : Nat) (i_lowBits : Int32) (i_all : Int32) (g_lowStarts : Nat → Int32) (g_mixtureSizes : Nat → Int32) : va_W := [(a_this, .inr (4, [.ref a_lowStarts, .ref a_highNumbers, .ref a_mixtureSizes, .int i_lowBits, .int i_all])), (a_lowStarts, .inl (cI, 1024, .inl g_lowStarts)), (a_mixtureSizes, .inl (cI, 125, .inl g_mixtureSizes))]
def rX4_numberLows : Room := { frames := 2, cells := 0, slots := 0, locals := 43 }
theorem hdX4_numberLows : yX4_numberLows.cls = RX4 ∧ yX4_numberLows.cls ≠ "java/lang/invoke/MethodHandle" ∧ yX4_numberLows.cls ≠ "java/lang/invoke/VarHandle" ∧ (parseMethodDescriptor yX4_numberLows.desc).map (fun d => d.parameters.length) = some 2 := by decide +kernel
set_option maxRecDepth 20000 in
theorem jX4_numberLows_X4 : ∀ w ∈ u_ws RX4 TX4 5, w ∈ wsX4_numberLows := by decide +kernel
set_option maxRecDepth 20000 in
theorem qX4_numberLows_11 : Cond.fieldLink RX4 11 "FrogsOnRing$Numbering" "lowStarts" "[I" ∈ wsX4_numberLows := by decide +kernel
set_option maxRecDepth 20000 in
theorem qX4_numberLows_18 : Cond.fieldLink RX4 18 "FrogsOnRing$Numbering" "mixtureSizes" "[I" ∈ wsX4_numberLows := by decide +kernel
set_option maxRecDepth 20000 in
theorem qX4_numberLows_52 : Cond.fieldLink RX4 52 "FrogsOnRing$Numbering" "all" "I" ∈ wsX4_numberLows := by decide +kernel
set_option maxRecDepth 20000 in
theorem qX4_numberLows_l21 : Cond.methodLink RX4 21 Lib.Math.min.name ∈ wsX4_numberLows := by decide +kernel
set_option maxRecDepth 20000 in
theorem qX4_numberLows_mi : Cond.initialized "java/lang/Math" ∈ wsX4_numberLows := by decide +kernel
set_option maxRecDepth 20000 in
theorem qX4_numberLows_minc : Cond.code Lib.Math.min.name Lib.Math.min.code 2 (some .int) ∈ wsX4_numberLows := by decide +kernel
set_option maxRecDepth 20000 in
theorem qX4_numberLows_mins : Cond.static Lib.Math.min.name ∈ wsX4_numberLows := by decide +kernel
set_option maxHeartbeats 4000000 in
set_option maxRecDepth 100000 in
theorem kX4_numberLows_L11 {p : Program} {l : Launch} {e : Env} {s : State} {m : MethodId} {args : Array Value} {below : List Frame} {meth : Method} {c : Code} {Q : State → Prop} {A : Nat → Prop} {D : va_G} {cI cJ : ClassId} (C : bC cX4_numberLows 7 RX4 wsX4_numberLows D cI cJ p s m args c meth A)
    {a_this : Nat} {a_lowStarts : Nat} {a_highNumbers : Nat} {a_mixtureSizes : Nat} {i_lowBits : Int32} {i_all : Int32} {g_lowStarts : Nat → Int32} {g_mixtureSizes : Nat → Int32} {z : Nat} {x1 : Int32} {x3 : Int32} {x4 : Int32} {x5 : Int32} {o : (Int32 × Int32 × (Nat → Int32)) ⊕ (Int32 × (Nat → Int32))} (hf : fX4_numberLows_L11 z x1 x3 x4 x5 g_lowStarts g_mixtureSizes i_all = some o)
    (hbk : ∀ s', o = .inl s' → ∀ (H : Heap) (locs : List Loc) (ls : Array Slot), va_P D vwCl (uX4_numberLows cI cJ a_this a_lowStarts a_highNumbers a_mixtureSizes i_lowBits i_all s'.2.2 g_mixtureSizes) H → va_D A (uX4_numberLows cI cJ a_this a_lowStarts a_highNumbers a_mixtureSizes i_lowBits i_all s'.2.2 g_mixtureSizes) → va_S A s.heap H locs → lv_has ls 7 [(0, .ref a_this), (1, .int x1), (3, .int x3), (4, .int s'.1), (5, .int s'.2.1)] → W p l e rX4_numberLows s m args below meth c H locs 0 0 Q (F0 m 11 ls []))
    (hex : ∀ e', o = .inr e' → ∀ (H : Heap) (locs : List Loc) (ls : Array Slot), va_P D vwCl (uX4_numberLows cI cJ a_this a_lowStarts a_highNumbers a_mixtureSizes i_lowBits i_all e'.2 g_mixtureSizes) H → va_D A (uX4_numberLows cI cJ a_this a_lowStarts a_highNumbers a_mixtureSizes i_lowBits i_all e'.2 g_mixtureSizes) → va_S A s.heap H locs → lv_has ls 7 [(0, .ref a_this), (4, .int e'.1)] → W p l e rX4_numberLows s m args below meth c H locs 0 0 Q (F0 m 69 ls []))
    {H : Heap} {locs : List Loc} {ls : Array Slot} (hP : va_P D vwCl (uX4_numberLows cI cJ a_this a_lowStarts a_highNumbers a_mixtureSizes i_lowBits i_all g_lowStarts g_mixtureSizes) H) (hD : va_D A (uX4_numberLows cI cJ a_this a_lowStarts a_highNumbers a_mixtureSizes i_lowBits i_all g_lowStarts g_mixtureSizes)) (hS : va_S A s.heap H locs) (hl : lv_has ls 7 [(0, .ref a_this), (1, .int x1), (3, .int x3), (4, .int x4), (5, .int x5)]) : W p l e rX4_numberLows s m args below meth c H locs 0 0 Q (F0 m 11 ls []) := by
  obtain ⟨hx, hb, hml, hown, hts, hK, hN, hA, hlocks⟩ := id C
  unfold fX4_numberLows_L11 at hf
  refine lv_iload hx hb dX4_numberLows_11 (lv_at hl 4 rfl) ?_
  refine lv_iload_n hx hb dX4_numberLows_13 rfl (lv_at hl 1 rfl) ?_
  refine lv_icmp_ge (tgt := 69) hx hb dX4_numberLows_14 (by decide) (fun hc => ?_) (fun hc => ?_)
  · have hf := if_yes hc hf
    have ho := Option.some.inj hf
    subst ho
    exact hex _ rfl _ _ _ hP hD hS (lv_sub hl [0, 3] rfl)
  · have hf := if_no hc hf
    refine lv_iload hx hb dX4_numberLows_17 (lv_at hl 4 rfl) ?_
    refine lv_sipush (v := 1024) hx hb dX4_numberLows_19 (by decide) ?_
    refine lv_icmp_ge (tgt := 69) hx hb dX4_numberLows_22 (by decide) (fun hc => ?_) (fun hc => ?_)
    · have hf := if_yes hc hf
      have ho := Option.some.inj hf
      subst ho
      exact hex _ rfl _ _ _ hP hD hS (lv_sub hl [0, 3] rfl)
    · have hf := if_no hc hf
      refine lv_aload_n hx hb dX4_numberLows_25 rfl (lv_at hl 0 rfl) ?_
      refine va_get (D := D) (ci := 4) (v := .ref a_lowStarts) (C := RX4) (T := TX4) (N := 5) hx hb hts jX4_numberLows_X4 hown hK hP 0 rfl rfl 0 (by decide) (hts _ qX4_numberLows_11) (fun _ h9 => h9) rfl dX4_numberLows_26 ?_
      refine lv_iload hx hb dX4_numberLows_29 (lv_at hl 4 rfl) ?_
      refine lv_iload hx hb dX4_numberLows_31 (lv_at hl 3 rfl) ?_
      obtain ⟨hin, hf⟩ := agd_some hf
      refine va_iast hx hb hK hP hD hS 1 0 rfl rfl hin dX4_numberLows_33 (fun H locs hP hD hS => ?_)
      have hP : va_P D vwCl (uX4_numberLows cI cJ a_this a_lowStarts a_highNumbers a_mixtureSizes i_lowBits i_all (upd g_lowStarts x5.toNatClampNeg x4) g_mixtureSizes) H := hP
      have hD : va_D A (uX4_numberLows cI cJ a_this a_lowStarts a_highNumbers a_mixtureSizes i_lowBits i_all (upd g_lowStarts x5.toNatClampNeg x4) g_mixtureSizes) := hD
      refine lv_iload_n hx hb dX4_numberLows_34 rfl (lv_at hl 2 rfl) ?_
      refine lv_iload hx hb dX4_numberLows_35 (lv_at hl 4 rfl) ?_
      obtain ⟨q2, hq, hf⟩ := ob_some hf
      refine cl_i (wc := (uX4_tally cI cJ)) (w1 := (uX4_tally cI cJ)) (rn_S (As := [.int x5]) (rest := [.int x3]) (wc := (uX4_tally cI cJ)) C hP hD [] rfl rfl (mX4_tally l D cI cJ H.size hq) 1 gX4_numberLows_X4_tally rfl ⟨rfl, rfl, Nat.le_of_ble_eq_true rfl, Nat.le_of_ble_eq_true rfl⟩ hdX4_tally.2 rfl hl.1 rfl (Nat.le_of_ble_eq_true rfl) dX4_numberLows_37) hP hD hS hA [] rfl rfl (fun H locs hP hD hS => ?_)
      have hP : va_P D vwCl (uX4_numberLows cI cJ a_this a_lowStarts a_highNumbers a_mixtureSizes i_lowBits i_all (upd g_lowStarts x5.toNatClampNeg x4) g_mixtureSizes) H := hP
      have hD : va_D A (uX4_numberLows cI cJ a_this a_lowStarts a_highNumbers a_mixtureSizes i_lowBits i_all (upd g_lowStarts x5.toNatClampNeg x4) g_mixtureSizes) := hD
      obtain ⟨q3, hq, hf⟩ := ob_some hf
      refine cl_i (wc := (uX4_mixtureOf cI cJ)) (w1 := (uX4_mixtureOf cI cJ)) (rn_S (As := [.int x3, .int q2]) (rest := []) (wc := (uX4_mixtureOf cI cJ)) C hP hD [] rfl rfl (mX4_mixtureOf l D cI cJ H.size hq) 2 gX4_numberLows_X4_mixtureOf rfl ⟨rfl, rfl, Nat.le_of_ble_eq_true rfl, Nat.le_of_ble_eq_true rfl⟩ hdX4_mixtureOf.2 rfl hl.1 rfl (Nat.le_of_ble_eq_true rfl) dX4_numberLows_40) hP hD hS hA [] rfl rfl (fun H locs hP hD hS => ?_)
      have hP : va_P D vwCl (uX4_numberLows cI cJ a_this a_lowStarts a_highNumbers a_mixtureSizes i_lowBits i_all (upd g_lowStarts x5.toNatClampNeg x4) g_mixtureSizes) H := hP
      have hD : va_D A (uX4_numberLows cI cJ a_this a_lowStarts a_highNumbers a_mixtureSizes i_lowBits i_all (upd g_lowStarts x5.toNatClampNeg x4) g_mixtureSizes) := hD
      refine lv_istore (lv' := [(6, .int q3), (0, .ref a_this), (1, .int x1), (3, .int x3), (4, .int x4), (5, .int x5)]) hx hb dX4_numberLows_43 hl (by decide) rfl (fun ls hl => ?_)
      refine lv_iload hx hb dX4_numberLows_45 (lv_at hl 0 rfl) ?_
      refine lv_iconst (v := (-1)) hx hb dX4_numberLows_47 (by decide) ?_
      refine lv_icmp_eq (tgt := 63) hx hb dX4_numberLows_48 (by decide) (fun hc => ?_) (fun hc => ?_)
      · have hf := if_yes hc hf
        refine lv_iinc (v := (x5 + 1)) (lv' := [(5, .int (x5 + 1)), (6, .int q3), (0, .ref a_this), (1, .int x1), (3, .int x3), (4, .int x4)]) hx hb dX4_numberLows_63 hl (k := 5) rfl rfl (by decide) rfl (fun ls hl => ?_)
        refine lv_goto (tgt := 11) hx hb dX4_numberLows_66 (by decide) ?_
        have ho := Option.some.inj hf
        subst ho
        exact hbk _ rfl _ _ _ hP hD hS (lv_sub hl [2, 3, 4, 5, 0] rfl)
      · have hf := if_no hc hf
        refine lv_iload hx hb dX4_numberLows_51 (lv_at hl 4 rfl) ?_
        refine lv_aload_n hx hb dX4_numberLows_53 rfl (lv_at hl 1 rfl) ?_
        refine va_get (D := D) (ci := 4) (v := .ref a_mixtureSizes) (C := RX4) (T := TX4) (N := 5) hx hb hts jX4_numberLows_X4 hown hK hP 0 rfl rfl 2 (by decide) (hts _ qX4_numberLows_18) (fun _ h9 => h9) rfl dX4_numberLows_54 ?_
        refine lv_iload hx hb dX4_numberLows_57 (lv_at hl 0 rfl) ?_
        obtain ⟨hin, hf⟩ := agd_some hf
        refine va_iald hx hb hK hP 2 0 rfl rfl hin dX4_numberLows_59 ?_
        refine lv_iadd hx hb dX4_numberLows_60 ?_
        refine lv_istore (lv' := [(4, .int (x4 + (g_mixtureSizes q3.toNatClampNeg))), (6, .int q3), (0, .ref a_this), (1, .int x1), (3, .int x3), (5, .int x5)]) hx hb dX4_numberLows_61 hl (by decide) rfl (fun ls hl => ?_)
        refine lv_iinc (v := (x5 + 1)) (lv' := [(5, .int (x5 + 1)), (4, .int (x4 + (g_mixtureSizes q3.toNatClampNeg))), (6, .int q3), (0, .ref a_this), (1, .int x1), (3, .int x3)]) hx hb dX4_numberLows_63 hl (k := 5) rfl rfl (by decide) rfl (fun ls hl => ?_)
        refine lv_goto (tgt := 11) hx hb dX4_numberLows_66 (by decide) ?_
        have ho := Option.some.inj hf
        subst ho
        exact hbk _ rfl _ _ _ hP hD hS (lv_sub hl [3, 4, 5, 1, 0] rfl)
set_option maxHeartbeats 4000000 in
set_option maxRecDepth 100000 in
theorem kX4_numberLows_J69 {p : Program} {l : Launch} {e : Env} {s : State} {m : MethodId} {args : Array Value} {below : List Frame} {meth : Method} {c : Code} {Q : State → Prop} {A : Nat → Prop} {D : va_G} {cI cJ : ClassId} (C : bC cX4_numberLows 7 RX4 wsX4_numberLows D cI cJ p s m args c meth A)
    {a_this : Nat} {a_lowStarts : Nat} {a_highNumbers : Nat} {a_mixtureSizes : Nat} {i_lowBits : Int32} {i_all : Int32} {g_lowStarts : Nat → Int32} {g_mixtureSizes : Nat → Int32} {z : Nat} {x4 : Int32} {o : (Nat → Int32) × Int32} (hf : fX4_numberLows_J69 z x4 g_lowStarts g_mixtureSizes i_all = some o)
    (hrt : ∀ (H : Heap) (locs : List Loc) (ls : Array Slot) (pc : Nat), va_P D vwCl (uX4_numberLows cI cJ a_this a_lowStarts a_highNumbers a_mixtureSizes i_lowBits o.2 o.1 g_mixtureSizes) H → va_D A (uX4_numberLows cI cJ a_this a_lowStarts a_highNumbers a_mixtureSizes i_lowBits o.2 o.1 g_mixtureSizes) → va_S A s.heap H locs → decode cX4_numberLows pc = .ok (.return_, 1) → W p l e rX4_numberLows s m args below meth c H locs 0 0 Q (F0 m pc ls []))
    {H : Heap} {locs : List Loc} {ls : Array Slot} (hP : va_P D vwCl (uX4_numberLows cI cJ a_this a_lowStarts a_highNumbers a_mixtureSizes i_lowBits i_all g_lowStarts g_mixtureSizes) H) (hD : va_D A (uX4_numberLows cI cJ a_this a_lowStarts a_highNumbers a_mixtureSizes i_lowBits i_all g_lowStarts g_mixtureSizes)) (hS : va_S A s.heap H locs) (hl : lv_has ls 7 [(0, .ref a_this), (4, .int x4)]) : W p l e rX4_numberLows s m args below meth c H locs 0 0 Q (F0 m 69 ls []) := by
  obtain ⟨hx, hb, hml, hown, hts, hK, hN, hA, hlocks⟩ := id C
  unfold fX4_numberLows_J69 at hf
  refine lv_aload_n hx hb dX4_numberLows_69 rfl (lv_at hl 0 rfl) ?_
  refine lv_iload hx hb dX4_numberLows_70 (lv_at hl 1 rfl) ?_
  refine lv_sipush (v := 7560) hx hb dX4_numberLows_72 (by decide) ?_
  refine lw_mmin hx hb (hml.trans hl.1.symm) hown (hts _ qX4_numberLows_l21) (hts _ qX4_numberLows_mins) (hts _ qX4_numberLows_mi) (hts _ qX4_numberLows_minc) (Nat.le_of_ble_eq_true rfl) (Nat.le_of_ble_eq_true rfl) (Nat.zero_le _) (Nat.zero_le _) dX4_numberLows_75 ?_
  refine va_put (D := D) (ci := 4) (v := .int (i_min x4 7560)) (ty := tyX4 4) (C := RX4) (T := TX4) (N := 5) hx hb hts jX4_numberLows_X4 tyX4 tyX4_ok nmX4 hown hK hP hD hS 0 rfl rfl 4 (by decide) (hts _ qX4_numberLows_52) (fun _ h9 => h9) rfl (tyX4_ok 4 (by decide)) rfl rfl (Nat.le_of_ble_eq_true rfl) dX4_numberLows_78 (fun H locs hP hD hS => ?_)
  have hP : va_P D vwCl (uX4_numberLows cI cJ a_this a_lowStarts a_highNumbers a_mixtureSizes i_lowBits (i_min x4 7560) g_lowStarts g_mixtureSizes) H := hP
  have hD : va_D A (uX4_numberLows cI cJ a_this a_lowStarts a_highNumbers a_mixtureSizes i_lowBits (i_min x4 7560) g_lowStarts g_mixtureSizes) := hD
  have ho := Option.some.inj hf
  subst ho
  exact hrt H locs ls _ hP hD hS dX4_numberLows_81
set_option maxHeartbeats 4000000 in
set_option maxRecDepth 100000 in
theorem kX4_numberLows_0 {p : Program} {l : Launch} {e : Env} {s : State} {m : MethodId} {args : Array Value} {below : List Frame} {meth : Method} {c : Code} {Q : State → Prop} {A : Nat → Prop} {D : va_G} {cI cJ : ClassId} (C : bC cX4_numberLows 7 RX4 wsX4_numberLows D cI cJ p s m args c meth A)
    {a_this : Nat} {a_lowStarts : Nat} {a_highNumbers : Nat} {a_mixtureSizes : Nat} {i_lowBits : Int32} {i_all : Int32} {g_lowStarts : Nat → Int32} {g_mixtureSizes : Nat → Int32} {z : Nat} {x1 : Int32} {x2 : Int32} {o : (Nat → Int32) × Int32} (hf : fX4_numberLows z x1 x2 g_lowStarts g_mixtureSizes i_all = some o)
    (hrt : ∀ (H : Heap) (locs : List Loc) (ls : Array Slot) (pc : Nat), va_P D vwCl (uX4_numberLows cI cJ a_this a_lowStarts a_highNumbers a_mixtureSizes i_lowBits o.2 o.1 g_mixtureSizes) H → va_D A (uX4_numberLows cI cJ a_this a_lowStarts a_highNumbers a_mixtureSizes i_lowBits o.2 o.1 g_mixtureSizes) → va_S A s.heap H locs → decode cX4_numberLows pc = .ok (.return_, 1) → W p l e rX4_numberLows s m args below meth c H locs 0 0 Q (F0 m pc ls []))
    {H : Heap} {locs : List Loc} {ls : Array Slot} (hP : va_P D vwCl (uX4_numberLows cI cJ a_this a_lowStarts a_highNumbers a_mixtureSizes i_lowBits i_all g_lowStarts g_mixtureSizes) H) (hD : va_D A (uX4_numberLows cI cJ a_this a_lowStarts a_highNumbers a_mixtureSizes i_lowBits i_all g_lowStarts g_mixtureSizes)) (hS : va_S A s.heap H locs) (hl : lv_has ls 7 [(0, .ref a_this), (1, .int x1), (2, .int x2)]) : W p l e rX4_numberLows s m args below meth c H locs 0 0 Q (F0 m 0 ls []) := by
  obtain ⟨hx, hb, hml, hown, hts, hK, hN, hA, hlocks⟩ := id C
  unfold fX4_numberLows at hf
  refine lv_iload_n hx hb dX4_numberLows_0 rfl (lv_at hl 2 rfl) ?_
  obtain ⟨q1, hq, hf⟩ := ob_some hf
  refine cl_i (wc := (uX4_tally cI cJ)) (w1 := (uX4_tally cI cJ)) (rn_S (As := [.int x2]) (rest := []) (wc := (uX4_tally cI cJ)) C hP hD [] rfl rfl (mX4_tally l D cI cJ H.size hq) 1 gX4_numberLows_X4_tally rfl ⟨rfl, rfl, Nat.le_of_ble_eq_true rfl, Nat.le_of_ble_eq_true rfl⟩ hdX4_tally.2 rfl hl.1 rfl (Nat.le_of_ble_eq_true rfl) dX4_numberLows_1) hP hD hS hA [] rfl rfl (fun H locs hP hD hS => ?_)
  have hP : va_P D vwCl (uX4_numberLows cI cJ a_this a_lowStarts a_highNumbers a_mixtureSizes i_lowBits i_all g_lowStarts g_mixtureSizes) H := hP
  have hD : va_D A (uX4_numberLows cI cJ a_this a_lowStarts a_highNumbers a_mixtureSizes i_lowBits i_all g_lowStarts g_mixtureSizes) := hD
  refine lv_istore_n (lv' := [(3, .int q1), (0, .ref a_this), (1, .int x1), (2, .int x2)]) hx hb dX4_numberLows_4 rfl hl (by decide) rfl (fun ls hl => ?_)
  refine lv_iconst (v := 0) hx hb dX4_numberLows_5 (by decide) ?_
  refine lv_istore (lv' := [(4, .int 0), (3, .int q1), (0, .ref a_this), (1, .int x1), (2, .int x2)]) hx hb dX4_numberLows_6 hl (by decide) rfl (fun ls hl => ?_)
  refine lv_iconst (v := 0) hx hb dX4_numberLows_8 (by decide) ?_
  refine lv_istore (lv' := [(5, .int 0), (4, .int 0), (3, .int q1), (0, .ref a_this), (1, .int x1), (2, .int x2)]) hx hb dX4_numberLows_9 hl (by decide) rfl (fun ls hl => ?_)
  obtain ⟨ex, hlp, hf⟩ := ob_some hf
  refine lp_ind (P := fun sg => ∀ (H : Heap) (locs : List Loc) (ls : Array Slot), va_P D vwCl (uX4_numberLows cI cJ a_this a_lowStarts a_highNumbers a_mixtureSizes i_lowBits i_all sg.2.2 g_mixtureSizes) H → va_D A (uX4_numberLows cI cJ a_this a_lowStarts a_highNumbers a_mixtureSizes i_lowBits i_all sg.2.2 g_mixtureSizes) → va_S A s.heap H locs → lv_has ls 7 [(0, .ref a_this), (1, .int x1), (3, .int q1), (4, .int sg.1), (5, .int sg.2.1)] → W p l e rX4_numberLows s m args below meth c H locs 0 0 Q (F0 m 11 ls [])) ?_ z _ hlp H locs ls hP hD hS (lv_sub hl [3, 4, 2, 1, 0] rfl)
  intro sg og hbo hback hexit H locs ls hP hD hS hl
  refine kX4_numberLows_L11 C hbo (fun s' h => hback s' h) (fun ex h H locs ls hP hD hS hl => ?_) hP hD hS hl
  have he := hexit _ h
  subst he
  exact kX4_numberLows_J69 C hf hrt hP hD hS (lv_sub hl [0, 1] rfl)
set_option maxHeartbeats 4000000 in
set_option maxRecDepth 100000 in
theorem mX4_numberLows (l : Launch) (D : va_G) (cI cJ : ClassId) (sz : Nat) {a_this : Nat} {a_lowStarts : Nat} {a_highNumbers : Nat} {a_mixtureSizes : Nat} {i_lowBits : Int32} {i_all : Int32} {g_lowStarts : Nat → Int32} {g_mixtureSizes : Nat → Int32} {z : Nat} {x1 : Int32} {x2 : Int32} {o : (Nat → Int32) × Int32} (hf : fX4_numberLows z x1 x2 g_lowStarts g_mixtureSizes i_all = some o) : Met l yX4_numberLows wsX4_numberLows rX4_numberLows (va_Pc [.ref a_this, .int x1, .int x2] (kP D cI cJ (uX4_numberLows cI cJ a_this a_lowStarts a_highNumbers a_mixtureSizes i_lowBits i_all g_lowStarts g_mixtureSizes) sz)) (va_Qv (fun (_ : Unit) => True) (fun _ t => kB D (va_A (uX4_numberLows cI cJ a_this a_lowStarts a_highNumbers a_mixtureSizes i_lowBits i_all g_lowStarts g_mixtureSizes) sz) (uX4_numberLows cI cJ a_this a_lowStarts a_highNumbers a_mixtureSizes i_lowBits o.2 o.1 g_mixtureSizes) t) (va_A (uX4_numberLows cI cJ a_this a_lowStarts a_highNumbers a_mixtureSizes i_lowBits i_all g_lowStarts g_mixtureSizes) sz)) 0 0 (va_A (uX4_numberLows cI cJ a_this a_lowStarts a_highNumbers a_mixtureSizes i_lowBits i_all g_lowStarts g_mixtureSizes) sz) :=
  met_v (by decide) rfl (Nat.le_of_ble_eq_true rfl) (fun p e s m below meth c A Q C hrt ls hl hP hD hS => kX4_numberLows_0 (A := A) C hf hrt hP hD hS hl)

/-! ===== FrogsOnRing$Numbering.prepare(II)V ===== -/
abbrev uX4_prepare (cI cJ : ClassId) (a_this : Nat) (a_lowStarts : Nat) (a_highNumbers : Nat) (a_mixtureSizes : Nat) (i_lowBits : Int32) (i_all : Int32) (g_mixtureSizes : Nat → Int32) (g_highNumbers : Nat → Int32) (g_lowStarts : Nat → Int32) : va_W := [(a_this, .inr (4, [.ref a_lowStarts, .ref a_highNumbers, .ref a_mixtureSizes, .int i_lowBits, .int i_all])), (a_mixtureSizes, .inl (cI, 125, .inl g_mixtureSizes)), (a_highNumbers, .inl (cI, 256, .inl g_highNumbers)), (a_lowStarts, .inl (cI, 1024, .inl g_lowStarts))]
def rX4_prepare : Room := { frames := 3, cells := 0, slots := 0, locals := 69 }
theorem hdX4_prepare : yX4_prepare.cls = RX4 ∧ yX4_prepare.cls ≠ "java/lang/invoke/MethodHandle" ∧ yX4_prepare.cls ≠ "java/lang/invoke/VarHandle" ∧ (parseMethodDescriptor yX4_prepare.desc).map (fun d => d.parameters.length) = some 2 := by decide +kernel
set_option maxRecDepth 20000 in
theorem jX4_prepare_X4 : ∀ w ∈ u_ws RX4 TX4 5, w ∈ wsX4_prepare := by decide +kernel
set_option maxRecDepth 20000 in
theorem qX4_prepare_18 : Cond.fieldLink RX4 18 "FrogsOnRing$Numbering" "mixtureSizes" "[I" ∈ wsX4_prepare := by decide +kernel
set_option maxRecDepth 20000 in
theorem qX4_prepare_27 : Cond.fieldLink RX4 27 "FrogsOnRing$Numbering" "lowBits" "I" ∈ wsX4_prepare := by decide +kernel
set_option maxRecDepth 20000 in
theorem qX4_prepare_l21 : Cond.methodLink RX4 21 Lib.Math.min.name ∈ wsX4_prepare := by decide +kernel
set_option maxRecDepth 20000 in
theorem qX4_prepare_mi : Cond.initialized "java/lang/Math" ∈ wsX4_prepare := by decide +kernel
set_option maxRecDepth 20000 in
theorem qX4_prepare_minc : Cond.code Lib.Math.min.name Lib.Math.min.code 2 (some .int) ∈ wsX4_prepare := by decide +kernel
set_option maxRecDepth 20000 in
theorem qX4_prepare_mins : Cond.static Lib.Math.min.name ∈ wsX4_prepare := by decide +kernel
set_option maxHeartbeats 4000000 in
set_option maxRecDepth 100000 in
theorem kX4_prepare_0 {p : Program} {l : Launch} {e : Env} {s : State} {m : MethodId} {args : Array Value} {below : List Frame} {meth : Method} {c : Code} {Q : State → Prop} {A : Nat → Prop} {D : va_G} {cI cJ : ClassId} (C : bC cX4_prepare 4 RX4 wsX4_prepare D cI cJ p s m args c meth A)
    {a_this : Nat} {a_lowStarts : Nat} {a_highNumbers : Nat} {a_mixtureSizes : Nat} {i_lowBits : Int32} {i_all : Int32} {g_mixtureSizes : Nat → Int32} {g_highNumbers : Nat → Int32} {g_lowStarts : Nat → Int32} {z : Nat} {x1 : Int32} {x2 : Int32} {o : Int32 × (Nat → Int32) × (Nat → Int32) × (Nat → Int32) × Int32} (hf : fX4_prepare z x1 x2 g_mixtureSizes g_highNumbers i_lowBits g_lowStarts i_all = some o)
    (hrt : ∀ (H : Heap) (locs : List Loc) (ls : Array Slot) (pc : Nat), va_P D vwCl (uX4_prepare cI cJ a_this a_lowStarts a_highNumbers a_mixtureSizes o.1 o.2.2.2.2 o.2.1 o.2.2.1 o.2.2.2.1) H → va_D A (uX4_prepare cI cJ a_this a_lowStarts a_highNumbers a_mixtureSizes o.1 o.2.2.2.2 o.2.1 o.2.2.1 o.2.2.2.1) → va_S A s.heap H locs → decode cX4_prepare pc = .ok (.return_, 1) → W p l e rX4_prepare s m args below meth c H locs 0 0 Q (F0 m pc ls []))
    {H : Heap} {locs : List Loc} {ls : Array Slot} (hP : va_P D vwCl (uX4_prepare cI cJ a_this a_lowStarts a_highNumbers a_mixtureSizes i_lowBits i_all g_mixtureSizes g_highNumbers g_lowStarts) H) (hD : va_D A (uX4_prepare cI cJ a_this a_lowStarts a_highNumbers a_mixtureSizes i_lowBits i_all g_mixtureSizes g_highNumbers g_lowStarts)) (hS : va_S A s.heap H locs) (hl : lv_has ls 4 [(0, .ref a_this), (1, .int x1), (2, .int x2)]) : W p l e rX4_prepare s m args below meth c H locs 0 0 Q (F0 m 0 ls []) := by
  obtain ⟨hx, hb, hml, hown, hts, hK, hN, hA, hlocks⟩ := id C
  unfold fX4_prepare at hf
  refine lv_iload_n hx hb dX4_prepare_0 rfl (lv_at hl 2 rfl) ?_
  refine lv_iconst (v := 4) hx hb dX4_prepare_1 (by decide) ?_
  refine lw_mmin hx hb (hml.trans hl.1.symm) hown (hts _ qX4_prepare_l21) (hts _ qX4_prepare_mins) (hts _ qX4_prepare_mi) (hts _ qX4_prepare_minc) (Nat.le_of_ble_eq_true rfl) (Nat.le_of_ble_eq_true rfl) (Nat.zero_le _) (Nat.zero_le _) dX4_prepare_2 ?_
  refine lv_istore_n (lv' := [(3, .int (i_min x2 4)), (0, .ref a_this), (1, .int x1), (2, .int x2)]) hx hb dX4_prepare_5 rfl hl (by decide) rfl (fun ls hl => ?_)
  refine lv_aload_n hx hb dX4_prepare_6 rfl (lv_at hl 1 rfl) ?_
  refine lv_iconst (v := 2) hx hb dX4_prepare_7 (by decide) ?_
  refine lv_iload_n hx hb dX4_prepare_8 rfl (lv_at hl 3 rfl) ?_
  refine lv_iload_n hx hb dX4_prepare_9 rfl (lv_at hl 0 rfl) ?_
  refine lv_isub hx hb dX4_prepare_10 ?_
  refine lv_imul hx hb dX4_prepare_11 ?_
  refine va_put (D := D) (ci := 4) (v := .int (2 * (x2 - (i_min x2 4)))) (ty := tyX4 3) (C := RX4) (T := TX4) (N := 5) hx hb hts jX4_prepare_X4 tyX4 tyX4_ok nmX4 hown hK hP hD hS 0 rfl rfl 3 (by decide) (hts _ qX4_prepare_27) (fun _ h9 => h9) rfl (tyX4_ok 3 (by decide)) rfl rfl (Nat.le_of_ble_eq_true rfl) dX4_prepare_12 (fun H locs hP hD hS => ?_)
  have hP : va_P D vwCl (uX4_prepare cI cJ a_this a_lowStarts a_highNumbers a_mixtureSizes (2 * (x2 - (i_min x2 4))) i_all g_mixtureSizes g_highNumbers g_lowStarts) H := hP
  have hD : va_D A (uX4_prepare cI cJ a_this a_lowStarts a_highNumbers a_mixtureSizes (2 * (x2 - (i_min x2 4))) i_all g_mixtureSizes g_highNumbers g_lowStarts) := hD
  refine lv_aload_n hx hb dX4_prepare_15 rfl (lv_at hl 1 rfl) ?_
  refine va_get (D := D) (ci := 4) (v := .ref a_mixtureSizes) (C := RX4) (T := TX4) (N := 5) hx hb hts jX4_prepare_X4 hown hK hP 0 rfl rfl 2 (by decide) (hts _ qX4_prepare_18) (fun _ h9 => h9) rfl dX4_prepare_16 ?_
  refine lv_iconst (v := 0) hx hb dX4_prepare_19 (by decide) ?_
  obtain ⟨q1, hq, hf⟩ := ob_some hf
  refine cl_v (wc := (uJ7_fill_53178 cI cJ a_mixtureSizes 125 g_mixtureSizes)) (w1 := (uJ7_fill_53178 cI cJ a_mixtureSizes 125 q1)) (rn_S (As := [.ref a_mixtureSizes, .int 0]) (rest := []) (wc := (uJ7_fill_53178 cI cJ a_mixtureSizes 125 g_mixtureSizes)) C hP hD [1] rfl rfl (mJ7_fill_53178 l D cI cJ H.size hq) 2 gX4_prepare_J7_fill_53178 rfl ⟨rfl, rfl, Nat.le_of_ble_eq_true rfl, Nat.le_of_ble_eq_true rfl⟩ hdJ7_fill_53178.2 rfl hl.1 rfl (Nat.le_of_ble_eq_true rfl) dX4_prepare_20) hP hD hS hA [1] rfl rfl (fun H locs hP hD hS => ?_)
  have hP : va_P D vwCl (uX4_prepare cI cJ a_this a_lowStarts a_highNumbers a_mixtureSizes (2 * (x2 - (i_min x2 4))) i_all q1 g_highNumbers g_lowStarts) H := hP
  have hD : va_D A (uX4_prepare cI cJ a_this a_lowStarts a_highNumbers a_mixtureSizes (2 * (x2 - (i_min x2 4))) i_all q1 g_highNumbers g_lowStarts) := hD
  refine lv_aload_n hx hb dX4_prepare_23 rfl (lv_at hl 1 rfl) ?_
  refine lv_iconst (v := 1) hx hb dX4_prepare_24 (by decide) ?_
  refine lv_iconst (v := 2) hx hb dX4_prepare_25 (by decide) ?_
  refine lv_iload_n hx hb dX4_prepare_26 rfl (lv_at hl 0 rfl) ?_
  refine lv_imul hx hb dX4_prepare_27 ?_
  refine lv_ishl hx hb dX4_prepare_28 ?_
  obtain ⟨q2, hq, hf⟩ := ob_some hf
  refine cl_v (wc := (uX4_numberHighs cI cJ a_this a_lowStarts a_highNumbers a_mixtureSizes (2 * (x2 - (i_min x2 4))) i_all q1 g_highNumbers)) (w1 := (uX4_numberHighs cI cJ a_this a_lowStarts a_highNumbers a_mixtureSizes (2 * (x2 - (i_min x2 4))) i_all q2.2 q2.1)) (rn_V (As := [.int ((1 : Int32) <<< ((2 * (i_min x2 4)) &&& 31))]) (b := a_this) (rest := []) (wc := (uX4_numberHighs cI cJ a_this a_lowStarts a_highNumbers a_mixtureSizes (2 * (x2 - (i_min x2 4))) i_all q1 g_highNumbers)) (ci := 4) (q0 := 0) C hP hD [0, 1, 2] rfl rfl rfl rfl (mX4_numberHighs l D cI cJ H.size hq) 1 gX4_prepare_X4_numberHighs rfl ⟨rfl, rfl, Nat.le_of_ble_eq_true rfl, Nat.le_of_ble_eq_true rfl⟩ hdX4_numberHighs rfl hl.1 rfl (Nat.le_of_ble_eq_true rfl) dX4_prepare_29) hP hD hS hA [0, 1, 2] rfl rfl (fun H locs hP hD hS => ?_)
  have hP : va_P D vwCl (uX4_prepare cI cJ a_this a_lowStarts a_highNumbers a_mixtureSizes (2 * (x2 - (i_min x2 4))) i_all q2.2 q2.1 g_lowStarts) H := hP
  have hD : va_D A (uX4_prepare cI cJ a_this a_lowStarts a_highNumbers a_mixtureSizes (2 * (x2 - (i_min x2 4))) i_all q2.2 q2.1 g_lowStarts) := hD
  refine lv_aload_n hx hb dX4_prepare_32 rfl (lv_at hl 1 rfl) ?_
  refine lv_iconst (v := 1) hx hb dX4_prepare_33 (by decide) ?_
  refine lv_aload_n hx hb dX4_prepare_34 rfl (lv_at hl 1 rfl) ?_
  refine va_get (D := D) (ci := 4) (v := .int (2 * (x2 - (i_min x2 4)))) (C := RX4) (T := TX4) (N := 5) hx hb hts jX4_prepare_X4 hown hK hP 0 rfl rfl 3 (by decide) (hts _ qX4_prepare_27) (fun _ h9 => h9) rfl dX4_prepare_35 ?_
  refine lv_ishl hx hb dX4_prepare_38 ?_
  refine lv_iload_n hx hb dX4_prepare_39 rfl (lv_at hl 2 rfl) ?_
  obtain ⟨q3, hq, hf⟩ := ob_some hf
  refine cl_v (wc := (uX4_numberLows cI cJ a_this a_lowStarts a_highNumbers a_mixtureSizes (2 * (x2 - (i_min x2 4))) i_all g_lowStarts q2.2)) (w1 := (uX4_numberLows cI cJ a_this a_lowStarts a_highNumbers a_mixtureSizes (2 * (x2 - (i_min x2 4))) q3.2 q3.1 q2.2)) (rn_V (As := [.int ((1 : Int32) <<< ((2 * (x2 - (i_min x2 4))) &&& 31)), .int x1]) (b := a_this) (rest := []) (wc := (uX4_numberLows cI cJ a_this a_lowStarts a_highNumbers a_mixtureSizes (2 * (x2 - (i_min x2 4))) i_all g_lowStarts q2.2)) (ci := 4) (q0 := 0) C hP hD [0, 3, 1] rfl rfl rfl rfl (mX4_numberLows l D cI cJ H.size hq) 2 gX4_prepare_X4_numberLows rfl ⟨rfl, rfl, Nat.le_of_ble_eq_true rfl, Nat.le_of_ble_eq_true rfl⟩ hdX4_numberLows rfl hl.1 rfl (Nat.le_of_ble_eq_true rfl) dX4_prepare_40) hP hD hS hA [0, 3, 1] rfl rfl (fun H locs hP hD hS => ?_)
  have hP : va_P D vwCl (uX4_prepare cI cJ a_this a_lowStarts a_highNumbers a_mixtureSizes (2 * (x2 - (i_min x2 4))) q3.2 q2.2 q2.1 q3.1) H := hP
  have hD : va_D A (uX4_prepare cI cJ a_this a_lowStarts a_highNumbers a_mixtureSizes (2 * (x2 - (i_min x2 4))) q3.2 q2.2 q2.1 q3.1) := hD
  have ho := Option.some.inj hf
  subst ho
  exact hrt H locs ls _ hP hD hS dX4_prepare_43
set_option maxHeartbeats 4000000 in
set_option maxRecDepth 100000 in
theorem mX4_prepare (l : Launch) (D : va_G) (cI cJ : ClassId) (sz : Nat) {a_this : Nat} {a_lowStarts : Nat} {a_highNumbers : Nat} {a_mixtureSizes : Nat} {i_lowBits : Int32} {i_all : Int32} {g_mixtureSizes : Nat → Int32} {g_highNumbers : Nat → Int32} {g_lowStarts : Nat → Int32} {z : Nat} {x1 : Int32} {x2 : Int32} {o : Int32 × (Nat → Int32) × (Nat → Int32) × (Nat → Int32) × Int32} (hf : fX4_prepare z x1 x2 g_mixtureSizes g_highNumbers i_lowBits g_lowStarts i_all = some o) : Met l yX4_prepare wsX4_prepare rX4_prepare (va_Pc [.ref a_this, .int x1, .int x2] (kP D cI cJ (uX4_prepare cI cJ a_this a_lowStarts a_highNumbers a_mixtureSizes i_lowBits i_all g_mixtureSizes g_highNumbers g_lowStarts) sz)) (va_Qv (fun (_ : Unit) => True) (fun _ t => kB D (va_A (uX4_prepare cI cJ a_this a_lowStarts a_highNumbers a_mixtureSizes i_lowBits i_all g_mixtureSizes g_highNumbers g_lowStarts) sz) (uX4_prepare cI cJ a_this a_lowStarts a_highNumbers a_mixtureSizes o.1 o.2.2.2.2 o.2.1 o.2.2.1 o.2.2.2.1) t) (va_A (uX4_prepare cI cJ a_this a_lowStarts a_highNumbers a_mixtureSizes i_lowBits i_all g_mixtureSizes g_highNumbers g_lowStarts) sz)) 0 0 (va_A (uX4_prepare cI cJ a_this a_lowStarts a_highNumbers a_mixtureSizes i_lowBits i_all g_mixtureSizes g_highNumbers g_lowStarts) sz) :=
  met_v (by decide) rfl (Nat.le_of_ble_eq_true rfl) (fun p e s m below meth c A Q C hrt ls hl hP hD hS => kX4_prepare_0 (A := A) C hf hrt hP hD hS hl)

/-! ===== FrogsOnRing$Page.byteOf(JI)I ===== -/
abbrev uX5_byteOf (cI cJ : ClassId) : va_W := []
def rX5_byteOf : Room := { frames := 0, cells := 0, slots := 0, locals := 0 }
theorem hdX5_byteOf : yX5_byteOf.cls = RX5 ∧ yX5_byteOf.cls ≠ "java/lang/invoke/MethodHandle" ∧ yX5_byteOf.cls ≠ "java/lang/invoke/VarHandle" ∧ (parseMethodDescriptor yX5_byteOf.desc).map (fun d => d.parameters.length) = some 2 := by decide +kernel
set_option maxHeartbeats 4000000 in
set_option maxRecDepth 100000 in
theorem kX5_byteOf_0 {p : Program} {l : Launch} {e : Env} {s : State} {m : MethodId} {args : Array Value} {below : List Frame} {meth : Method} {c : Code} {Q : State → Prop} {A : Nat → Prop} {D : va_G} {cI cJ : ClassId} (C : bC cX5_byteOf 3 RX5 wsX5_byteOf D cI cJ p s m args c meth A)
    {x0 : Int64} {x2 : Int32} {o : Int32} (hf : fX5_byteOf x0 x2 = o)
    (hrt : ∀ (H : Heap) (locs : List Loc) (ls : Array Slot) (pc : Nat), va_P D vwCl (uX5_byteOf cI cJ) H → va_D A (uX5_byteOf cI cJ) → va_S A s.heap H locs → decode cX5_byteOf pc = .ok (.ireturn, 1) → W p l e rX5_byteOf s m args below meth c H locs 0 0 Q (F0 m pc ls [.int o]))
    {H : Heap} {locs : List Loc} {ls : Array Slot} (hP : va_P D vwCl (uX5_byteOf cI cJ) H) (hD : va_D A (uX5_byteOf cI cJ)) (hS : va_S A s.heap H locs) (hl : lv_has ls 3 [(0, .long x0), (2, .int x2)]) : W p l e rX5_byteOf s m args below meth c H locs 0 0 Q (F0 m 0 ls []) := by
  obtain ⟨hx, hb, hml, hown, hts, hK, hN, hA, hlocks⟩ := id C
  unfold fX5_byteOf at hf
  refine lv_lload_n hx hb dX5_byteOf_0 rfl (lv_at hl 0 rfl) ?_
  refine lv_bipush (v := 8) hx hb dX5_byteOf_1 (by decide) ?_
  refine lv_iload_n hx hb dX5_byteOf_3 rfl (lv_at hl 1 rfl) ?_
  refine lv_imul hx hb dX5_byteOf_4 ?_
  refine lv_lushr (v := (l_ushr x0 (8 * x2))) hx hb dX5_byteOf_5 rfl ?_
  refine lv_l2i hx hb dX5_byteOf_6 rfl ?_
  refine lv_sipush (v := 255) hx hb dX5_byteOf_7 (by decide) ?_
  refine lv_iand hx hb dX5_byteOf_10 ?_
  subst hf
  exact hrt H locs ls _ hP hD hS dX5_byteOf_11
set_option maxHeartbeats 4000000 in
set_option maxRecDepth 100000 in
theorem mX5_byteOf (l : Launch) (D : va_G) (cI cJ : ClassId) (sz : Nat) {x0 : Int64} {x2 : Int32} : Met l yX5_byteOf wsX5_byteOf rX5_byteOf (va_Pc [.long x0, .int x2] (kP D cI cJ (uX5_byteOf cI cJ) sz)) (va_Qi (fun r' (_ : Unit) => r' = (fX5_byteOf x0 x2)) (fun _ t => kB D (va_A (uX5_byteOf cI cJ) sz) (uX5_byteOf cI cJ) t) (va_A (uX5_byteOf cI cJ) sz)) 0 0 (va_A (uX5_byteOf cI cJ) sz) :=
  met_i (by decide) rfl (Nat.le_of_ble_eq_true rfl) (fun p e s m below meth c A Q C hrt ls hl hP hD hS => kX5_byteOf_0 (A := A) C rfl hrt hP hD hS hl)

/-! ===== FrogsOnRing$Page.lettersIn(J)I ===== -/
abbrev uX5_lettersIn (cI cJ : ClassId) : va_W := []
def rX5_lettersIn : Room := { frames := 1, cells := 0, slots := 0, locals := 22 }
theorem hdX5_lettersIn : yX5_lettersIn.cls = RX5 ∧ yX5_lettersIn.cls ≠ "java/lang/invoke/MethodHandle" ∧ yX5_lettersIn.cls ≠ "java/lang/invoke/VarHandle" ∧ (parseMethodDescriptor yX5_lettersIn.desc).map (fun d => d.parameters.length) = some 1 := by decide +kernel
set_option maxHeartbeats 4000000 in
set_option maxRecDepth 100000 in
theorem kX5_lettersIn_J41 {p : Program} {l : Launch} {e : Env} {s : State} {m : MethodId} {args : Array Value} {below : List Frame} {meth : Method} {c : Code} {Q : State → Prop} {A : Nat → Prop} {D : va_G} {cI cJ : ClassId} (C : bC cX5_lettersIn 6 RX5 wsX5_lettersIn D cI cJ p s m args c meth A)
    {z : Nat} {x0 : Int64} {x2 : Int32} {x3 : Int32} {x4 : Int32} {x5 : Int32} {o : (Int32 × Int32 × Int32) ⊕ ((Int32) ⊕ (Int32))} (hf : fX5_lettersIn_J41 z x0 x2 x3 x4 x5 = some o)
    (hbk : ∀ s', o = .inl s' → ∀ (H : Heap) (locs : List Loc) (ls : Array Slot), va_P D vwCl (uX5_lettersIn cI cJ) H → va_D A (uX5_lettersIn cI cJ) → va_S A s.heap H locs → lv_has ls 6 [(0, .long x0), (2, .int s'.1), (3, .int s'.2.1), (4, .int s'.2.2)] → W p l e rX5_lettersIn s m args below meth c H locs 0 0 Q (F0 m 7 ls []))
    (hex : ∀ e', o = .inr (.inl e') → ∀ (H : Heap) (locs : List Loc) (ls : Array Slot), va_P D vwCl (uX5_lettersIn cI cJ) H → va_D A (uX5_lettersIn cI cJ) → va_S A s.heap H locs → lv_has ls 6 [(2, .int e')] → W p l e rX5_lettersIn s m args below meth c H locs 0 0 Q (F0 m 60 ls []))
    (hrt : ∀ r', o = .inr (.inr r') → ∀ (H : Heap) (locs : List Loc) (ls : Array Slot) (pc : Nat), va_P D vwCl (uX5_lettersIn cI cJ) H → va_D A (uX5_lettersIn cI cJ) → va_S A s.heap H locs → decode cX5_lettersIn pc = .ok (.ireturn, 1) → W p l e rX5_lettersIn s m args below meth c H locs 0 0 Q (F0 m pc ls [.int r']))
    {H : Heap} {locs : List Loc} {ls : Array Slot} (hP : va_P D vwCl (uX5_lettersIn cI cJ) H) (hD : va_D A (uX5_lettersIn cI cJ)) (hS : va_S A s.heap H locs) (hl : lv_has ls 6 [(0, .long x0), (2, .int x2), (3, .int x3), (4, .int x4), (5, .int x5)]) : W p l e rX5_lettersIn s m args below meth c H locs 0 0 Q (F0 m 41 ls []) := by
  obtain ⟨hx, hb, hml, hown, hts, hK, hN, hA, hlocks⟩ := id C
  unfold fX5_lettersIn_J41 at hf
  refine lv_iload hx hb dX5_lettersIn_41 (lv_at hl 4 rfl) ?_
  refine lv_if_ne (tgt := 51) hx hb dX5_lettersIn_43 (by decide) (fun hc => ?_) (fun hc => ?_)
  · have hf := if_no hc hf
    refine lv_iinc (v := (x2 + 1)) (lv' := [(2, .int (x2 + 1)), (0, .long x0), (3, .int x3), (4, .int x4), (5, .int x5)]) hx hb dX5_lettersIn_51 hl (k := 1) rfl rfl (by decide) rfl (fun ls hl => ?_)
    refine lv_iinc (v := (x4 + 1)) (lv' := [(4, .int (x4 + 1)), (2, .int (x2 + 1)), (0, .long x0), (3, .int x3), (5, .int x5)]) hx hb dX5_lettersIn_54 hl (k := 3) rfl rfl (by decide) rfl (fun ls hl => ?_)
    refine lv_goto (tgt := 7) hx hb dX5_lettersIn_57 (by decide) ?_
    have ho := Option.some.inj hf
    subst ho
    exact hbk _ rfl _ _ _ hP hD hS (lv_sub hl [2, 1, 3, 0] rfl)
  · have hf := if_yes hc hf
    refine lv_iconst (v := 1) hx hb dX5_lettersIn_46 (by decide) ?_
    refine lv_istore_n (lv' := [(3, .int 1), (0, .long x0), (2, .int x2), (4, .int x4), (5, .int x5)]) hx hb dX5_lettersIn_47 rfl hl (by decide) rfl (fun ls hl => ?_)
    refine lv_goto (tgt := 54) hx hb dX5_lettersIn_48 (by decide) ?_
    refine lv_iinc (v := (x4 + 1)) (lv' := [(4, .int (x4 + 1)), (3, .int 1), (0, .long x0), (2, .int x2), (5, .int x5)]) hx hb dX5_lettersIn_54 hl (k := 3) rfl rfl (by decide) rfl (fun ls hl => ?_)
    refine lv_goto (tgt := 7) hx hb dX5_lettersIn_57 (by decide) ?_
    have ho := Option.some.inj hf
    subst ho
    exact hbk _ rfl _ _ _ hP hD hS (lv_sub hl [2, 3, 1, 0] rfl)
set_option maxHeartbeats 4000000 in
set_option maxRecDepth 100000 in
theorem kX5_lettersIn_L7 {p : Program} {l : Launch} {e : Env} {s : State} {m : MethodId} {args : Array Value} {below : List Frame} {meth : Method} {c : Code} {Q : State → Prop} {A : Nat → Prop} {D : va_G} {cI cJ : ClassId} (C : bC cX5_lettersIn 6 RX5 wsX5_lettersIn D cI cJ p s m args c meth A)
    {z : Nat} {x0 : Int64} {x2 : Int32} {x3 : Int32} {x4 : Int32} {o : (Int32 × Int32 × Int32) ⊕ ((Int32) ⊕ (Int32))} (hf : fX5_lettersIn_L7 z x0 x2 x3 x4 = some o)
    (hbk : ∀ s', o = .inl s' → ∀ (H : Heap) (locs : List Loc) (ls : Array Slot), va_P D vwCl (uX5_lettersIn cI cJ) H → va_D A (uX5_lettersIn cI cJ) → va_S A s.heap H locs → lv_has ls 6 [(0, .long x0), (2, .int s'.1), (3, .int s'.2.1), (4, .int s'.2.2)] → W p l e rX5_lettersIn s m args below meth c H locs 0 0 Q (F0 m 7 ls []))
    (hex : ∀ e', o = .inr (.inl e') → ∀ (H : Heap) (locs : List Loc) (ls : Array Slot), va_P D vwCl (uX5_lettersIn cI cJ) H → va_D A (uX5_lettersIn cI cJ) → va_S A s.heap H locs → lv_has ls 6 [(2, .int e')] → W p l e rX5_lettersIn s m args below meth c H locs 0 0 Q (F0 m 60 ls []))
    (hrt : ∀ r', o = .inr (.inr r') → ∀ (H : Heap) (locs : List Loc) (ls : Array Slot) (pc : Nat), va_P D vwCl (uX5_lettersIn cI cJ) H → va_D A (uX5_lettersIn cI cJ) → va_S A s.heap H locs → decode cX5_lettersIn pc = .ok (.ireturn, 1) → W p l e rX5_lettersIn s m args below meth c H locs 0 0 Q (F0 m pc ls [.int r']))
    {H : Heap} {locs : List Loc} {ls : Array Slot} (hP : va_P D vwCl (uX5_lettersIn cI cJ) H) (hD : va_D A (uX5_lettersIn cI cJ)) (hS : va_S A s.heap H locs) (hl : lv_has ls 6 [(0, .long x0), (2, .int x2), (3, .int x3), (4, .int x4)]) : W p l e rX5_lettersIn s m args below meth c H locs 0 0 Q (F0 m 7 ls []) := by
  obtain ⟨hx, hb, hml, hown, hts, hK, hN, hA, hlocks⟩ := id C
  unfold fX5_lettersIn_L7 at hf
  refine lv_iload hx hb dX5_lettersIn_7 (lv_at hl 3 rfl) ?_
  refine lv_bipush (v := 8) hx hb dX5_lettersIn_9 (by decide) ?_
  refine lv_icmp_ge (tgt := 60) hx hb dX5_lettersIn_11 (by decide) (fun hc => ?_) (fun hc => ?_)
  · have hf := if_yes hc hf
    have ho := Option.some.inj hf
    subst ho
    exact hex _ rfl _ _ _ hP hD hS (lv_sub hl [1] rfl)
  · have hf := if_no hc hf
    refine lv_lload_n hx hb dX5_lettersIn_14 rfl (lv_at hl 0 rfl) ?_
    refine lv_iload hx hb dX5_lettersIn_15 (lv_at hl 3 rfl) ?_
    refine cl_i (wc := (uX5_byteOf cI cJ)) (w1 := (uX5_byteOf cI cJ)) (rn_S (As := [.long x0, .int x4]) (rest := []) (wc := (uX5_byteOf cI cJ)) C hP hD [] rfl rfl (mX5_byteOf l D cI cJ H.size) 2 gX5_lettersIn_X5_byteOf rfl ⟨rfl, rfl, Nat.le_of_ble_eq_true rfl, Nat.le_of_ble_eq_true rfl⟩ hdX5_byteOf.2 rfl hl.1 rfl (Nat.le_of_ble_eq_true rfl) dX5_lettersIn_17) hP hD hS hA [] rfl rfl (fun H locs hP hD hS => ?_)
    have hP : va_P D vwCl (uX5_lettersIn cI cJ) H := hP
    have hD : va_D A (uX5_lettersIn cI cJ) := hD
    refine lv_istore (lv' := [(5, .int (fX5_byteOf x0 x4)), (0, .long x0), (2, .int x2), (3, .int x3), (4, .int x4)]) hx hb dX5_lettersIn_20 hl (by decide) rfl (fun ls hl => ?_)
    refine lv_iload hx hb dX5_lettersIn_22 (lv_at hl 0 rfl) ?_
    refine lv_bipush (v := 126) hx hb dX5_lettersIn_24 (by decide) ?_
    refine lv_icmp_gt (tgt := 38) hx hb dX5_lettersIn_26 (by decide) (fun hc => ?_) (fun hc => ?_)
    · have hf := if_yes hc hf
      refine lv_bipush (v := (-102)) hx hb dX5_lettersIn_38 (by decide) ?_
      have ho := Option.some.inj hf
      subst ho
      exact hrt _ rfl H locs ls _ hP hD hS dX5_lettersIn_40
    · have hf := if_no hc hf
      refine lv_iload_n hx hb dX5_lettersIn_29 rfl (lv_at hl 3 rfl) ?_
      refine lv_if_eq (tgt := 41) hx hb dX5_lettersIn_30 (by decide) (fun hc => ?_) (fun hc => ?_)
      · have hf := if_yes hc hf
        exact kX5_lettersIn_J41 C hf hbk hex hrt hP hD hS (lv_sub hl [1, 2, 3, 4, 0] rfl)
      · have hf := if_no hc hf
        refine lv_iload hx hb dX5_lettersIn_33 (lv_at hl 0 rfl) ?_
        refine lv_if_eq (tgt := 41) hx hb dX5_lettersIn_35 (by decide) (fun hc => ?_) (fun hc => ?_)
        · have hf := if_yes hc hf
          exact kX5_lettersIn_J41 C hf hbk hex hrt hP hD hS (lv_sub hl [1, 2, 3, 4, 0] rfl)
        · have hf := if_no hc hf
          refine lv_bipush (v := (-102)) hx hb dX5_lettersIn_38 (by decide) ?_
          have ho := Option.some.inj hf
          subst ho
          exact hrt _ rfl H locs ls _ hP hD hS dX5_lettersIn_40
set_option maxHeartbeats 4000000 in
set_option maxRecDepth 100000 in
theorem kX5_lettersIn_J60 {p : Program} {l : Launch} {e : Env} {s : State} {m : MethodId} {args : Array Value} {below : List Frame} {meth : Method} {c : Code} {Q : State → Prop} {A : Nat → Prop} {D : va_G} {cI cJ : ClassId} (C : bC cX5_lettersIn 6 RX5 wsX5_lettersIn D cI cJ p s m args c meth A)
    {z : Nat} {x2 : Int32} {o : Int32} (hf : fX5_lettersIn_J60 z x2 = some o)
    (hrt : ∀ (H : Heap) (locs : List Loc) (ls : Array Slot) (pc : Nat), va_P D vwCl (uX5_lettersIn cI cJ) H → va_D A (uX5_lettersIn cI cJ) → va_S A s.heap H locs → decode cX5_lettersIn pc = .ok (.ireturn, 1) → W p l e rX5_lettersIn s m args below meth c H locs 0 0 Q (F0 m pc ls [.int o]))
    {H : Heap} {locs : List Loc} {ls : Array Slot} (hP : va_P D vwCl (uX5_lettersIn cI cJ) H) (hD : va_D A (uX5_lettersIn cI cJ)) (hS : va_S A s.heap H locs) (hl : lv_has ls 6 [(2, .int x2)]) : W p l e rX5_lettersIn s m args below meth c H locs 0 0 Q (F0 m 60 ls []) := by
  obtain ⟨hx, hb, hml, hown, hts, hK, hN, hA, hlocks⟩ := id C
  unfold fX5_lettersIn_J60 at hf
  refine lv_iload_n hx hb dX5_lettersIn_60 rfl (lv_at hl 0 rfl) ?_
  have ho := Option.some.inj hf
  subst ho
  exact hrt H locs ls _ hP hD hS dX5_lettersIn_61
set_option maxHeartbeats 4000000 in
set_option maxRecDepth 100000 in
theorem kX5_lettersIn_0 {p : Program} {l : Launch} {e : Env} {s : State} {m : MethodId} {args : Array Value} {below : List Frame} {meth : Method} {c : Code} {Q : State → Prop} {A : Nat → Prop} {D : va_G} {cI cJ : ClassId} (C : bC cX5_lettersIn 6 RX5 wsX5_lettersIn D cI cJ p s m args c meth A)
    {z : Nat} {x0 : Int64} {o : Int32} (hf : fX5_lettersIn z x0 = some o)
    (hrt : ∀ (H : Heap) (locs : List Loc) (ls : Array Slot) (pc : Nat), va_P D vwCl (uX5_lettersIn cI cJ) H → va_D A (uX5_lettersIn cI cJ) → va_S A s.heap H locs → decode cX5_lettersIn pc = .ok (.ireturn, 1) → W p l e rX5_lettersIn s m args below meth c H locs 0 0 Q (F0 m pc ls [.int o]))
    {H : Heap} {locs : List Loc} {ls : Array Slot} (hP : va_P D vwCl (uX5_lettersIn cI cJ) H) (hD : va_D A (uX5_lettersIn cI cJ)) (hS : va_S A s.heap H locs) (hl : lv_has ls 6 [(0, .long x0)]) : W p l e rX5_lettersIn s m args below meth c H locs 0 0 Q (F0 m 0 ls []) := by
  obtain ⟨hx, hb, hml, hown, hts, hK, hN, hA, hlocks⟩ := id C
  unfold fX5_lettersIn at hf
  refine lv_iconst (v := 0) hx hb dX5_lettersIn_0 (by decide) ?_
  refine lv_istore_n (lv' := [(2, .int 0), (0, .long x0)]) hx hb dX5_lettersIn_1 rfl hl (by decide) rfl (fun ls hl => ?_)
  refine lv_iconst (v := 0) hx hb dX5_lettersIn_2 (by decide) ?_
  refine lv_istore_n (lv' := [(3, .int 0), (2, .int 0), (0, .long x0)]) hx hb dX5_lettersIn_3 rfl hl (by decide) rfl (fun ls hl => ?_)
  refine lv_iconst (v := 0) hx hb dX5_lettersIn_4 (by decide) ?_
  refine lv_istore (lv' := [(4, .int 0), (3, .int 0), (2, .int 0), (0, .long x0)]) hx hb dX5_lettersIn_5 hl (by decide) rfl (fun ls hl => ?_)
  obtain ⟨ex, hlp, hf⟩ := ob_some hf
  refine lp_ind (P := fun sg => ∀ (H : Heap) (locs : List Loc) (ls : Array Slot), va_P D vwCl (uX5_lettersIn cI cJ) H → va_D A (uX5_lettersIn cI cJ) → va_S A s.heap H locs → lv_has ls 6 [(0, .long x0), (2, .int sg.1), (3, .int sg.2.1), (4, .int sg.2.2)] → W p l e rX5_lettersIn s m args below meth c H locs 0 0 Q (F0 m 7 ls [])) ?_ z _ hlp H locs ls hP hD hS (lv_sub hl [3, 2, 1, 0] rfl)
  intro sg og hbo hback hexit H locs ls hP hD hS hl
  refine kX5_lettersIn_L7 C hbo (fun s' h => hback s' h) (fun ex h H locs ls hP hD hS hl => ?_) (fun rr h H locs ls pc hP hD hS hdg => ?_) hP hD hS hl
  · have he := hexit _ h
    subst he
    simp only [Sum.elim_inl] at hf
    exact kX5_lettersIn_J60 C hf hrt hP hD hS (lv_sub hl [0] rfl)
  · have he := hexit _ h
    subst he
    simp only [Sum.elim_inr] at hf
    have ho := Option.some.inj hf
    subst ho
    exact hrt H locs ls pc hP hD hS hdg
set_option maxHeartbeats 4000000 in
set_option maxRecDepth 100000 in
theorem mX5_lettersIn (l : Launch) (D : va_G) (cI cJ : ClassId) (sz : Nat) {z : Nat} {x0 : Int64} {o : Int32} (hf : fX5_lettersIn z x0 = some o) : Met l yX5_lettersIn wsX5_lettersIn rX5_lettersIn (va_Pc [.long x0] (kP D cI cJ (uX5_lettersIn cI cJ) sz)) (va_Qi (fun r' (_ : Unit) => r' = o) (fun _ t => kB D (va_A (uX5_lettersIn cI cJ) sz) (uX5_lettersIn cI cJ) t) (va_A (uX5_lettersIn cI cJ) sz)) 0 0 (va_A (uX5_lettersIn cI cJ) sz) :=
  met_i (by decide) rfl (Nat.le_of_ble_eq_true rfl) (fun p e s m below meth c A Q C hrt ls hl hP hD hS => kX5_lettersIn_0 (A := A) C hf hrt hP hD hS hl)

/-! ===== FrogsOnRing$Page.append(JI)V ===== -/
abbrev uX5_append (cI cJ : ClassId) (a_this : Nat) (a_codes : Nat) (i_size : Int32) (g_codes : Nat → Int32) : va_W := [(a_this, .inr (5, [.ref a_codes, .int i_size])), (a_codes, .inl (cI, 24, .inl g_codes))]
def rX5_append : Room := { frames := 1, cells := 0, slots := 0, locals := 22 }
theorem hdX5_append : yX5_append.cls = RX5 ∧ yX5_append.cls ≠ "java/lang/invoke/MethodHandle" ∧ yX5_append.cls ≠ "java/lang/invoke/VarHandle" ∧ (parseMethodDescriptor yX5_append.desc).map (fun d => d.parameters.length) = some 2 := by decide +kernel
set_option maxRecDepth 20000 in
theorem jX5_append_X5 : ∀ w ∈ u_ws RX5 TX5 2, w ∈ wsX5_append := by decide +kernel
set_option maxRecDepth 20000 in
theorem qX5_append_19 : Cond.fieldLink RX5 19 "FrogsOnRing$Page" "size" "I" ∈ wsX5_append := by decide +kernel
set_option maxRecDepth 20000 in
theorem qX5_append_9 : Cond.fieldLink RX5 9 "FrogsOnRing$Page" "codes" "[I" ∈ wsX5_append := by decide +kernel
set_option maxHeartbeats 4000000 in
set_option maxRecDepth 100000 in
theorem kX5_append_L3 {p : Program} {l : Launch} {e : Env} {s : State} {m : MethodId} {args : Array Value} {below : List Frame} {meth : Method} {c : Code} {Q : State → Prop} {A : Nat → Prop} {D : va_G} {cI cJ : ClassId} (C : bC cX5_append 5 RX5 wsX5_append D cI cJ p s m args c meth A)
    {a_this : Nat} {a_codes : Nat} {i_size : Int32} {g_codes : Nat → Int32} {z : Nat} {x1 : Int64} {x3 : Int32} {x4 : Int32} {o : (Int32 × (Nat → Int32) × Int32) ⊕ ((Nat → Int32) × Int32)} (hf : fX5_append_L3 z x1 x3 x4 i_size g_codes = some o)
    (hbk : ∀ s', o = .inl s' → ∀ (H : Heap) (locs : List Loc) (ls : Array Slot), va_P D vwCl (uX5_append cI cJ a_this a_codes s'.2.2 s'.2.1) H → va_D A (uX5_append cI cJ a_this a_codes s'.2.2 s'.2.1) → va_S A s.heap H locs → lv_has ls 5 [(0, .ref a_this), (1, .long x1), (3, .int x3), (4, .int s'.1)] → W p l e rX5_append s m args below meth c H locs 0 0 Q (F0 m 3 ls []))
    (hex : ∀ e', o = .inr e' → ∀ (H : Heap) (locs : List Loc) (ls : Array Slot), va_P D vwCl (uX5_append cI cJ a_this a_codes e'.2 e'.1) H → va_D A (uX5_append cI cJ a_this a_codes e'.2 e'.1) → va_S A s.heap H locs → lv_has ls 5 [] → W p l e rX5_append s m args below meth c H locs 0 0 Q (F0 m 49 ls []))
    {H : Heap} {locs : List Loc} {ls : Array Slot} (hP : va_P D vwCl (uX5_append cI cJ a_this a_codes i_size g_codes) H) (hD : va_D A (uX5_append cI cJ a_this a_codes i_size g_codes)) (hS : va_S A s.heap H locs) (hl : lv_has ls 5 [(0, .ref a_this), (1, .long x1), (3, .int x3), (4, .int x4)]) : W p l e rX5_append s m args below meth c H locs 0 0 Q (F0 m 3 ls []) := by
  obtain ⟨hx, hb, hml, hown, hts, hK, hN, hA, hlocks⟩ := id C
  unfold fX5_append_L3 at hf
  refine lv_iload hx hb dX5_append_3 (lv_at hl 3 rfl) ?_
  refine lv_iload_n hx hb dX5_append_5 rfl (lv_at hl 2 rfl) ?_
  refine lv_icmp_ge (tgt := 49) hx hb dX5_append_6 (by decide) (fun hc => ?_) (fun hc => ?_)
  · have hf := if_yes hc hf
    have ho := Option.some.inj hf
    subst ho
    exact hex _ rfl _ _ _ hP hD hS (lv_sub hl [] rfl)
  · have hf := if_no hc hf
    refine lv_aload_n hx hb dX5_append_9 rfl (lv_at hl 0 rfl) ?_
    refine va_get (D := D) (ci := 5) (v := .int i_size) (C := RX5) (T := TX5) (N := 2) hx hb hts jX5_append_X5 hown hK hP 0 rfl rfl 1 (by decide) (hts _ qX5_append_19) (fun _ h9 => h9) rfl dX5_append_10 ?_
    refine lv_bipush (v := 24) hx hb dX5_append_13 (by decide) ?_
    refine lv_icmp_ge (tgt := 49) hx hb dX5_append_15 (by decide) (fun hc => ?_) (fun hc => ?_)
    · have hf := if_yes hc hf
      have ho := Option.some.inj hf
      subst ho
      exact hex _ rfl _ _ _ hP hD hS (lv_sub hl [] rfl)
    · have hf := if_no hc hf
      refine lv_aload_n hx hb dX5_append_18 rfl (lv_at hl 0 rfl) ?_
      refine va_get (D := D) (ci := 5) (v := .ref a_codes) (C := RX5) (T := TX5) (N := 2) hx hb hts jX5_append_X5 hown hK hP 0 rfl rfl 0 (by decide) (hts _ qX5_append_9) (fun _ h9 => h9) rfl dX5_append_19 ?_
      refine lv_aload_n hx hb dX5_append_22 rfl (lv_at hl 0 rfl) ?_
      refine va_get (D := D) (ci := 5) (v := .int i_size) (C := RX5) (T := TX5) (N := 2) hx hb hts jX5_append_X5 hown hK hP 0 rfl rfl 1 (by decide) (hts _ qX5_append_19) (fun _ h9 => h9) rfl dX5_append_23 ?_
      refine lv_lload_n hx hb dX5_append_26 rfl (lv_at hl 1 rfl) ?_
      refine lv_iload hx hb dX5_append_27 (lv_at hl 3 rfl) ?_
      refine cl_i (wc := (uX5_byteOf cI cJ)) (w1 := (uX5_byteOf cI cJ)) (rn_S (As := [.long x1, .int x4]) (rest := [.int i_size, .ref a_codes]) (wc := (uX5_byteOf cI cJ)) C hP hD [] rfl rfl (mX5_byteOf l D cI cJ H.size) 2 gX5_append_X5_byteOf rfl ⟨rfl, rfl, Nat.le_of_ble_eq_true rfl, Nat.le_of_ble_eq_true rfl⟩ hdX5_byteOf.2 rfl hl.1 rfl (Nat.le_of_ble_eq_true rfl) dX5_append_29) hP hD hS hA [] rfl rfl (fun H locs hP hD hS => ?_)
      have hP : va_P D vwCl (uX5_append cI cJ a_this a_codes i_size g_codes) H := hP
      have hD : va_D A (uX5_append cI cJ a_this a_codes i_size g_codes) := hD
      obtain ⟨hin, hf⟩ := agd_some hf
      refine va_iast hx hb hK hP hD hS 1 0 rfl rfl hin dX5_append_32 (fun H locs hP hD hS => ?_)
      have hP : va_P D vwCl (uX5_append cI cJ a_this a_codes i_size (upd g_codes i_size.toNatClampNeg (fX5_byteOf x1 x4))) H := hP
      have hD : va_D A (uX5_append cI cJ a_this a_codes i_size (upd g_codes i_size.toNatClampNeg (fX5_byteOf x1 x4))) := hD
      refine lv_aload_n hx hb dX5_append_33 rfl (lv_at hl 0 rfl) ?_
      refine lv_dup hx hb dX5_append_34 rfl ?_
      refine va_get (D := D) (ci := 5) (v := .int i_size) (C := RX5) (T := TX5) (N := 2) hx hb hts jX5_append_X5 hown hK hP 0 rfl rfl 1 (by decide) (hts _ qX5_append_19) (fun _ h9 => h9) rfl dX5_append_35 ?_
      refine lv_iconst (v := 1) hx hb dX5_append_38 (by decide) ?_
      refine lv_iadd hx hb dX5_append_39 ?_
      refine va_put (D := D) (ci := 5) (v := .int (i_size + 1)) (ty := tyX5 1) (C := RX5) (T := TX5) (N := 2) hx hb hts jX5_append_X5 tyX5 tyX5_ok nmX5 hown hK hP hD hS 0 rfl rfl 1 (by decide) (hts _ qX5_append_19) (fun _ h9 => h9) rfl (tyX5_ok 1 (by decide)) rfl rfl (Nat.le_of_ble_eq_true rfl) dX5_append_40 (fun H locs hP hD hS => ?_)
      have hP : va_P D vwCl (uX5_append cI cJ a_this a_codes (i_size + 1) (upd g_codes i_size.toNatClampNeg (fX5_byteOf x1 x4))) H := hP
      have hD : va_D A (uX5_append cI cJ a_this a_codes (i_size + 1) (upd g_codes i_size.toNatClampNeg (fX5_byteOf x1 x4))) := hD
      refine lv_iinc (v := (x4 + 1)) (lv' := [(4, .int (x4 + 1)), (0, .ref a_this), (1, .long x1), (3, .int x3)]) hx hb dX5_append_43 hl (k := 3) rfl rfl (by decide) rfl (fun ls hl => ?_)
      refine lv_goto (tgt := 3) hx hb dX5_append_46 (by decide) ?_
      have ho := Option.some.inj hf
      subst ho
      exact hbk _ rfl _ _ _ hP hD hS (lv_sub hl [1, 2, 3, 0] rfl)
set_option maxHeartbeats 4000000 in
set_option maxRecDepth 100000 in
theorem kX5_append_J49 {p : Program} {l : Launch} {e : Env} {s : State} {m : MethodId} {args : Array Value} {below : List Frame} {meth : Method} {c : Code} {Q : State → Prop} {A : Nat → Prop} {D : va_G} {cI cJ : ClassId} (C : bC cX5_append 5 RX5 wsX5_append D cI cJ p s m args c meth A)
    {a_this : Nat} {a_codes : Nat} {i_size : Int32} {g_codes : Nat → Int32} {z : Nat} {o : (Nat → Int32) × Int32} (hf : fX5_append_J49 z i_size g_codes = some o)
    (hrt : ∀ (H : Heap) (locs : List Loc) (ls : Array Slot) (pc : Nat), va_P D vwCl (uX5_append cI cJ a_this a_codes o.2 o.1) H → va_D A (uX5_append cI cJ a_this a_codes o.2 o.1) → va_S A s.heap H locs → decode cX5_append pc = .ok (.return_, 1) → W p l e rX5_append s m args below meth c H locs 0 0 Q (F0 m pc ls []))
    {H : Heap} {locs : List Loc} {ls : Array Slot} (hP : va_P D vwCl (uX5_append cI cJ a_this a_codes i_size g_codes) H) (hD : va_D A (uX5_append cI cJ a_this a_codes i_size g_codes)) (hS : va_S A s.heap H locs) (hl : lv_has ls 5 []) : W p l e rX5_append s m args below meth c H locs 0 0 Q (F0 m 49 ls []) := by
  obtain ⟨hx, hb, hml, hown, hts, hK, hN, hA, hlocks⟩ := id C
  unfold fX5_append_J49 at hf
  have ho := Option.some.inj hf
  subst ho
  exact hrt H locs ls _ hP hD hS dX5_append_49
set_option maxHeartbeats 4000000 in
set_option maxRecDepth 100000 in
theorem kX5_append_0 {p : Program} {l : Launch} {e : Env} {s : State} {m : MethodId} {args : Array Value} {below : List Frame} {meth : Method} {c : Code} {Q : State → Prop} {A : Nat → Prop} {D : va_G} {cI cJ : ClassId} (C : bC cX5_append 5 RX5 wsX5_append D cI cJ p s m args c meth A)
    {a_this : Nat} {a_codes : Nat} {i_size : Int32} {g_codes : Nat → Int32} {z : Nat} {x1 : Int64} {x3 : Int32} {o : (Nat → Int32) × Int32} (hf : fX5_append z x1 x3 i_size g_codes = some o)
    (hrt : ∀ (H : Heap) (locs : List Loc) (ls : Array Slot) (pc : Nat), va_P D vwCl (uX5_append cI cJ a_this a_codes o.2 o.1) H → va_D A (uX5_append cI cJ a_this a_codes o.2 o.1) → va_S A s.heap H locs → decode cX5_append pc = .ok (.return_, 1) → W p l e rX5_append s m args below meth c H locs 0 0 Q (F0 m pc ls []))
    {H : Heap} {locs : List Loc} {ls : Array Slot} (hP : va_P D vwCl (uX5_append cI cJ a_this a_codes i_size g_codes) H) (hD : va_D A (uX5_append cI cJ a_this a_codes i_size g_codes)) (hS : va_S A s.heap H locs) (hl : lv_has ls 5 [(0, .ref a_this), (1, .long x1), (3, .int x3)]) : W p l e rX5_append s m args below meth c H locs 0 0 Q (F0 m 0 ls []) := by
  obtain ⟨hx, hb, hml, hown, hts, hK, hN, hA, hlocks⟩ := id C
  unfold fX5_append at hf
  refine lv_iconst (v := 0) hx hb dX5_append_0 (by decide) ?_
  refine lv_istore (lv' := [(4, .int 0), (0, .ref a_this), (1, .long x1), (3, .int x3)]) hx hb dX5_append_1 hl (by decide) rfl (fun ls hl => ?_)
  obtain ⟨ex, hlp, hf⟩ := ob_some hf
  refine lp_ind (P := fun sg => ∀ (H : Heap) (locs : List Loc) (ls : Array Slot), va_P D vwCl (uX5_append cI cJ a_this a_codes sg.2.2 sg.2.1) H → va_D A (uX5_append cI cJ a_this a_codes sg.2.2 sg.2.1) → va_S A s.heap H locs → lv_has ls 5 [(0, .ref a_this), (1, .long x1), (3, .int x3), (4, .int sg.1)] → W p l e rX5_append s m args below meth c H locs 0 0 Q (F0 m 3 ls [])) ?_ z _ hlp H locs ls hP hD hS (lv_sub hl [1, 2, 3, 0] rfl)
  intro sg og hbo hback hexit H locs ls hP hD hS hl
  refine kX5_append_L3 C hbo (fun s' h => hback s' h) (fun ex h H locs ls hP hD hS hl => ?_) hP hD hS hl
  have he := hexit _ h
  subst he
  exact kX5_append_J49 C hf hrt hP hD hS (lv_sub hl [] rfl)
set_option maxHeartbeats 4000000 in
set_option maxRecDepth 100000 in
theorem mX5_append (l : Launch) (D : va_G) (cI cJ : ClassId) (sz : Nat) {a_this : Nat} {a_codes : Nat} {i_size : Int32} {g_codes : Nat → Int32} {z : Nat} {x1 : Int64} {x3 : Int32} {o : (Nat → Int32) × Int32} (hf : fX5_append z x1 x3 i_size g_codes = some o) : Met l yX5_append wsX5_append rX5_append (va_Pc [.ref a_this, .long x1, .int x3] (kP D cI cJ (uX5_append cI cJ a_this a_codes i_size g_codes) sz)) (va_Qv (fun (_ : Unit) => True) (fun _ t => kB D (va_A (uX5_append cI cJ a_this a_codes i_size g_codes) sz) (uX5_append cI cJ a_this a_codes o.2 o.1) t) (va_A (uX5_append cI cJ a_this a_codes i_size g_codes) sz)) 0 0 (va_A (uX5_append cI cJ a_this a_codes i_size g_codes) sz) :=
  met_v (by decide) rfl (Nat.le_of_ble_eq_true rfl) (fun p e s m below meth c A Q C hrt ls hl hP hD hS => kX5_append_0 (A := A) C hf hrt hP hD hS hl)

/-! ===== FrogsOnRing$Page.clear()V ===== -/
abbrev uX5_clear (cI cJ : ClassId) (a_this : Nat) (a_codes : Nat) (i_size : Int32) : va_W := [(a_this, .inr (5, [.ref a_codes, .int i_size]))]
def rX5_clear : Room := { frames := 0, cells := 0, slots := 0, locals := 0 }
theorem hdX5_clear : yX5_clear.cls = RX5 ∧ yX5_clear.cls ≠ "java/lang/invoke/MethodHandle" ∧ yX5_clear.cls ≠ "java/lang/invoke/VarHandle" ∧ (parseMethodDescriptor yX5_clear.desc).map (fun d => d.parameters.length) = some 0 := by decide +kernel
set_option maxRecDepth 20000 in
theorem jX5_clear_X5 : ∀ w ∈ u_ws RX5 TX5 2, w ∈ wsX5_clear := by decide +kernel
set_option maxRecDepth 20000 in
theorem qX5_clear_19 : Cond.fieldLink RX5 19 "FrogsOnRing$Page" "size" "I" ∈ wsX5_clear := by decide +kernel
set_option maxHeartbeats 4000000 in
set_option maxRecDepth 100000 in
theorem kX5_clear_0 {p : Program} {l : Launch} {e : Env} {s : State} {m : MethodId} {args : Array Value} {below : List Frame} {meth : Method} {c : Code} {Q : State → Prop} {A : Nat → Prop} {D : va_G} {cI cJ : ClassId} (C : bC cX5_clear 1 RX5 wsX5_clear D cI cJ p s m args c meth A)
    {a_this : Nat} {a_codes : Nat} {i_size : Int32} {o : Int32} (hf : fX5_clear i_size = o)
    (hrt : ∀ (H : Heap) (locs : List Loc) (ls : Array Slot) (pc : Nat), va_P D vwCl (uX5_clear cI cJ a_this a_codes o) H → va_D A (uX5_clear cI cJ a_this a_codes o) → va_S A s.heap H locs → decode cX5_clear pc = .ok (.return_, 1) → W p l e rX5_clear s m args below meth c H locs 0 0 Q (F0 m pc ls []))
    {H : Heap} {locs : List Loc} {ls : Array Slot} (hP : va_P D vwCl (uX5_clear cI cJ a_this a_codes i_size) H) (hD : va_D A (uX5_clear cI cJ a_this a_codes i_size)) (hS : va_S A s.heap H locs) (hl : lv_has ls 1 [(0, .ref a_this)]) : W p l e rX5_clear s m args below meth c H locs 0 0 Q (F0 m 0 ls []) := by
  obtain ⟨hx, hb, hml, hown, hts, hK, hN, hA, hlocks⟩ := id C
  unfold fX5_clear at hf
  refine lv_aload_n hx hb dX5_clear_0 rfl (lv_at hl 0 rfl) ?_
  refine lv_iconst (v := 0) hx hb dX5_clear_1 (by decide) ?_
  refine va_put (D := D) (ci := 5) (v := .int 0) (ty := tyX5 1) (C := RX5) (T := TX5) (N := 2) hx hb hts jX5_clear_X5 tyX5 tyX5_ok nmX5 hown hK hP hD hS 0 rfl rfl 1 (by decide) (hts _ qX5_clear_19) (fun _ h9 => h9) rfl (tyX5_ok 1 (by decide)) rfl rfl (Nat.le_of_ble_eq_true rfl) dX5_clear_2 (fun H locs hP hD hS => ?_)
  have hP : va_P D vwCl (uX5_clear cI cJ a_this a_codes 0) H := hP
  have hD : va_D A (uX5_clear cI cJ a_this a_codes 0) := hD
  subst hf
  exact hrt H locs ls _ hP hD hS dX5_clear_5
set_option maxHeartbeats 4000000 in
set_option maxRecDepth 100000 in
theorem mX5_clear (l : Launch) (D : va_G) (cI cJ : ClassId) (sz : Nat) {a_this : Nat} {a_codes : Nat} {i_size : Int32} : Met l yX5_clear wsX5_clear rX5_clear (va_Pc [.ref a_this] (kP D cI cJ (uX5_clear cI cJ a_this a_codes i_size) sz)) (va_Qv (fun (_ : Unit) => True) (fun _ t => kB D (va_A (uX5_clear cI cJ a_this a_codes i_size) sz) (uX5_clear cI cJ a_this a_codes (fX5_clear i_size)) t) (va_A (uX5_clear cI cJ a_this a_codes i_size) sz)) 0 0 (va_A (uX5_clear cI cJ a_this a_codes i_size) sz) :=
  met_v (by decide) rfl (Nat.le_of_ble_eq_true rfl) (fun p e s m below meth c A Q C hrt ls hl hP hD hS => kX5_clear_0 (A := A) C rfl hrt hP hD hS hl)

/-! ===== FrogsOnRing$Page.letterAt(I)I ===== -/
abbrev uX5_letterAt (cI cJ : ClassId) (a_this : Nat) (a_codes : Nat) (i_size : Int32) (g_codes : Nat → Int32) : va_W := [(a_this, .inr (5, [.ref a_codes, .int i_size])), (a_codes, .inl (cI, 24, .inl g_codes))]
def rX5_letterAt : Room := { frames := 0, cells := 0, slots := 0, locals := 0 }
theorem hdX5_letterAt : yX5_letterAt.cls = RX5 ∧ yX5_letterAt.cls ≠ "java/lang/invoke/MethodHandle" ∧ yX5_letterAt.cls ≠ "java/lang/invoke/VarHandle" ∧ (parseMethodDescriptor yX5_letterAt.desc).map (fun d => d.parameters.length) = some 1 := by decide +kernel
set_option maxRecDepth 20000 in
theorem jX5_letterAt_X5 : ∀ w ∈ u_ws RX5 TX5 2, w ∈ wsX5_letterAt := by decide +kernel
set_option maxRecDepth 20000 in
theorem qX5_letterAt_19 : Cond.fieldLink RX5 19 "FrogsOnRing$Page" "size" "I" ∈ wsX5_letterAt := by decide +kernel
set_option maxRecDepth 20000 in
theorem qX5_letterAt_9 : Cond.fieldLink RX5 9 "FrogsOnRing$Page" "codes" "[I" ∈ wsX5_letterAt := by decide +kernel
set_option maxHeartbeats 4000000 in
set_option maxRecDepth 100000 in
theorem kX5_letterAt_0 {p : Program} {l : Launch} {e : Env} {s : State} {m : MethodId} {args : Array Value} {below : List Frame} {meth : Method} {c : Code} {Q : State → Prop} {A : Nat → Prop} {D : va_G} {cI cJ : ClassId} (C : bC cX5_letterAt 2 RX5 wsX5_letterAt D cI cJ p s m args c meth A)
    {a_this : Nat} {a_codes : Nat} {i_size : Int32} {g_codes : Nat → Int32} {z : Nat} {x1 : Int32} {o : Int32} (hf : fX5_letterAt z x1 i_size g_codes = some o)
    (hrt : ∀ (H : Heap) (locs : List Loc) (ls : Array Slot) (pc : Nat), va_P D vwCl (uX5_letterAt cI cJ a_this a_codes i_size g_codes) H → va_D A (uX5_letterAt cI cJ a_this a_codes i_size g_codes) → va_S A s.heap H locs → decode cX5_letterAt pc = .ok (.ireturn, 1) → W p l e rX5_letterAt s m args below meth c H locs 0 0 Q (F0 m pc ls [.int o]))
    {H : Heap} {locs : List Loc} {ls : Array Slot} (hP : va_P D vwCl (uX5_letterAt cI cJ a_this a_codes i_size g_codes) H) (hD : va_D A (uX5_letterAt cI cJ a_this a_codes i_size g_codes)) (hS : va_S A s.heap H locs) (hl : lv_has ls 2 [(0, .ref a_this), (1, .int x1)]) : W p l e rX5_letterAt s m args below meth c H locs 0 0 Q (F0 m 0 ls []) := by
  obtain ⟨hx, hb, hml, hown, hts, hK, hN, hA, hlocks⟩ := id C
  unfold fX5_letterAt at hf
  refine lv_iload_n hx hb dX5_letterAt_0 rfl (lv_at hl 1 rfl) ?_
  refine lv_if_lt (tgt := 21) hx hb dX5_letterAt_1 (by decide) (fun hc => ?_) (fun hc => ?_)
  · have hf := if_yes hc hf
    refine lv_iconst (v := 0) hx hb dX5_letterAt_21 (by decide) ?_
    have ho := Option.some.inj hf
    subst ho
    exact hrt H locs ls _ hP hD hS dX5_letterAt_22
  · have hf := if_no hc hf
    refine lv_iload_n hx hb dX5_letterAt_4 rfl (lv_at hl 1 rfl) ?_
    refine lv_aload_n hx hb dX5_letterAt_5 rfl (lv_at hl 0 rfl) ?_
    refine va_get (D := D) (ci := 5) (v := .int i_size) (C := RX5) (T := TX5) (N := 2) hx hb hts jX5_letterAt_X5 hown hK hP 0 rfl rfl 1 (by decide) (hts _ qX5_letterAt_19) (fun _ h9 => h9) rfl dX5_letterAt_6 ?_
    refine lv_icmp_ge (tgt := 21) hx hb dX5_letterAt_9 (by decide) (fun hc => ?_) (fun hc => ?_)
    · have hf := if_yes hc hf
      refine lv_iconst (v := 0) hx hb dX5_letterAt_21 (by decide) ?_
      have ho := Option.some.inj hf
      subst ho
      exact hrt H locs ls _ hP hD hS dX5_letterAt_22
    · have hf := if_no hc hf
      refine lv_aload_n hx hb dX5_letterAt_12 rfl (lv_at hl 0 rfl) ?_
      refine va_get (D := D) (ci := 5) (v := .ref a_codes) (C := RX5) (T := TX5) (N := 2) hx hb hts jX5_letterAt_X5 hown hK hP 0 rfl rfl 0 (by decide) (hts _ qX5_letterAt_9) (fun _ h9 => h9) rfl dX5_letterAt_13 ?_
      refine lv_iload_n hx hb dX5_letterAt_16 rfl (lv_at hl 1 rfl) ?_
      obtain ⟨hin, hf⟩ := agd_some hf
      refine va_iald hx hb hK hP 1 0 rfl rfl hin dX5_letterAt_17 ?_
      refine lv_goto (tgt := 22) hx hb dX5_letterAt_18 (by decide) ?_
      have ho := Option.some.inj hf
      subst ho
      exact hrt H locs ls _ hP hD hS dX5_letterAt_22
set_option maxHeartbeats 4000000 in
set_option maxRecDepth 100000 in
theorem mX5_letterAt (l : Launch) (D : va_G) (cI cJ : ClassId) (sz : Nat) {a_this : Nat} {a_codes : Nat} {i_size : Int32} {g_codes : Nat → Int32} {z : Nat} {x1 : Int32} {o : Int32} (hf : fX5_letterAt z x1 i_size g_codes = some o) : Met l yX5_letterAt wsX5_letterAt rX5_letterAt (va_Pc [.ref a_this, .int x1] (kP D cI cJ (uX5_letterAt cI cJ a_this a_codes i_size g_codes) sz)) (va_Qi (fun r' (_ : Unit) => r' = o) (fun _ t => kB D (va_A (uX5_letterAt cI cJ a_this a_codes i_size g_codes) sz) (uX5_letterAt cI cJ a_this a_codes i_size g_codes) t) (va_A (uX5_letterAt cI cJ a_this a_codes i_size g_codes) sz)) 0 0 (va_A (uX5_letterAt cI cJ a_this a_codes i_size g_codes) sz) :=
  met_i (by decide) rfl (Nat.le_of_ble_eq_true rfl) (fun p e s m below meth c A Q C hrt ls hl hP hD hS => kX5_letterAt_0 (A := A) C hf hrt hP hD hS hl)

/-! ===== FrogsOnRing.kindOfLetter(I)I ===== -/
abbrev uX9_kindOfLetter (cI cJ : ClassId) : va_W := []
def rX9_kindOfLetter : Room := { frames := 0, cells := 0, slots := 0, locals := 0 }
theorem hdX9_kindOfLetter : yX9_kindOfLetter.cls = RX9 ∧ yX9_kindOfLetter.cls ≠ "java/lang/invoke/MethodHandle" ∧ yX9_kindOfLetter.cls ≠ "java/lang/invoke/VarHandle" ∧ (parseMethodDescriptor yX9_kindOfLetter.desc).map (fun d => d.parameters.length) = some 1 := by decide +kernel
set_option maxHeartbeats 4000000 in
set_option maxRecDepth 100000 in
theorem kX9_kindOfLetter_0 {p : Program} {l : Launch} {e : Env} {s : State} {m : MethodId} {args : Array Value} {below : List Frame} {meth : Method} {c : Code} {Q : State → Prop} {A : Nat → Prop} {D : va_G} {cI cJ : ClassId} (C : bC cX9_kindOfLetter 1 RX9 wsX9_kindOfLetter D cI cJ p s m args c meth A)
    {x0 : Int32} {o : Int32} (hf : fX9_kindOfLetter x0 = o)
    (hrt : ∀ (H : Heap) (locs : List Loc) (ls : Array Slot) (pc : Nat), va_P D vwCl (uX9_kindOfLetter cI cJ) H → va_D A (uX9_kindOfLetter cI cJ) → va_S A s.heap H locs → decode cX9_kindOfLetter pc = .ok (.ireturn, 1) → W p l e rX9_kindOfLetter s m args below meth c H locs 0 0 Q (F0 m pc ls [.int o]))
    {H : Heap} {locs : List Loc} {ls : Array Slot} (hP : va_P D vwCl (uX9_kindOfLetter cI cJ) H) (hD : va_D A (uX9_kindOfLetter cI cJ)) (hS : va_S A s.heap H locs) (hl : lv_has ls 1 [(0, .int x0)]) : W p l e rX9_kindOfLetter s m args below meth c H locs 0 0 Q (F0 m 0 ls []) := by
  obtain ⟨hx, hb, hml, hown, hts, hK, hN, hA, hlocks⟩ := id C
  unfold fX9_kindOfLetter at hf
  refine lv_iload_n hx hb dX9_kindOfLetter_0 rfl (lv_at hl 0 rfl) ?_
  by_cases hc0 : x0 = 46
  · have hf := if_yes hc0 hf
    refine lv_lookup (tgt := 44) (off := 43) hx hb dX9_kindOfLetter_1 (by decide) (by rw [hc0]; decide) (by decide) ?_
    refine lv_iconst (v := 0) hx hb dX9_kindOfLetter_44 (by decide) ?_
    subst hf
    exact hrt H locs ls _ hP hD hS dX9_kindOfLetter_45
  have hf := if_no hc0 hf
  by_cases hc1 : x0 = 98
  · have hf := if_yes hc1 hf
    refine lv_lookup (tgt := 48) (off := 47) hx hb dX9_kindOfLetter_1 (by decide) (by rw [hc1]; decide) (by decide) ?_
    refine lv_iconst (v := 2) hx hb dX9_kindOfLetter_48 (by decide) ?_
    subst hf
    exact hrt H locs ls _ hP hD hS dX9_kindOfLetter_49
  have hf := if_no hc1 hf
  by_cases hc2 : x0 = 103
  · have hf := if_yes hc2 hf
    refine lv_lookup (tgt := 46) (off := 45) hx hb dX9_kindOfLetter_1 (by decide) (by rw [hc2]; decide) (by decide) ?_
    refine lv_iconst (v := 1) hx hb dX9_kindOfLetter_46 (by decide) ?_
    subst hf
    exact hrt H locs ls _ hP hD hS dX9_kindOfLetter_47
  have hf := if_no hc2 hf
  by_cases hc3 : x0 = 121
  · have hf := if_yes hc3 hf
    refine lv_lookup (tgt := 50) (off := 49) hx hb dX9_kindOfLetter_1 (by decide) (by rw [hc3]; decide) (by decide) ?_
    refine lv_iconst (v := 3) hx hb dX9_kindOfLetter_50 (by decide) ?_
    subst hf
    exact hrt H locs ls _ hP hD hS dX9_kindOfLetter_51
  have hf := if_no hc3 hf
  have hd0 := tsw_ne hc0 (i := 46) (by decide)
  have hd1 := tsw_ne hc1 (i := 98) (by decide)
  have hd2 := tsw_ne hc2 (i := 103) (by decide)
  have hd3 := tsw_ne hc3 (i := 121) (by decide)
  refine lv_lookup (tgt := 52) (off := 51) hx hb dX9_kindOfLetter_1 (by decide) (by simp [Op.lookupswitch.offset, hd0.symm, hd1.symm, hd2.symm, hd3.symm]) (by decide) ?_
  refine lv_iconst (v := (-1)) hx hb dX9_kindOfLetter_52 (by decide) ?_
  subst hf
  exact hrt H locs ls _ hP hD hS dX9_kindOfLetter_53
set_option maxHeartbeats 4000000 in
set_option maxRecDepth 100000 in
theorem mX9_kindOfLetter (l : Launch) (D : va_G) (cI cJ : ClassId) (sz : Nat) {x0 : Int32} : Met l yX9_kindOfLetter wsX9_kindOfLetter rX9_kindOfLetter (va_Pc [.int x0] (kP D cI cJ (uX9_kindOfLetter cI cJ) sz)) (va_Qi (fun r' (_ : Unit) => r' = (fX9_kindOfLetter x0)) (fun _ t => kB D (va_A (uX9_kindOfLetter cI cJ) sz) (uX9_kindOfLetter cI cJ) t) (va_A (uX9_kindOfLetter cI cJ) sz)) 0 0 (va_A (uX9_kindOfLetter cI cJ) sz) :=
  met_i (by decide) rfl (Nat.le_of_ble_eq_true rfl) (fun p e s m below meth c A Q C hrt ls hl hP hD hS => kX9_kindOfLetter_0 (A := A) C rfl hrt hP hD hS hl)

/-! ===== FrogsOnRing$Page.orderAt(II)I ===== -/
abbrev uX5_orderAt (cI cJ : ClassId) (a_this : Nat) (a_codes : Nat) (i_size : Int32) (g_codes : Nat → Int32) : va_W := [(a_this, .inr (5, [.ref a_codes, .int i_size])), (a_codes, .inl (cI, 24, .inl g_codes))]
def rX5_orderAt : Room := { frames := 1, cells := 0, slots := 0, locals := 21 }
theorem hdX5_orderAt : yX5_orderAt.cls = RX5 ∧ yX5_orderAt.cls ≠ "java/lang/invoke/MethodHandle" ∧ yX5_orderAt.cls ≠ "java/lang/invoke/VarHandle" ∧ (parseMethodDescriptor yX5_orderAt.desc).map (fun d => d.parameters.length) = some 2 := by decide +kernel
set_option maxRecDepth 20000 in
theorem qX5_orderAt_iX9_kindOfLetter : Cond.initialized yX9_kindOfLetter.cls ∈ wsX5_orderAt := by decide +kernel
set_option maxRecDepth 20000 in
theorem qX5_orderAt_sX9_kindOfLetter : Cond.static yX9_kindOfLetter ∈ wsX5_orderAt := by decide +kernel
set_option maxHeartbeats 4000000 in
set_option maxRecDepth 100000 in
theorem kX5_orderAt_L5 {p : Program} {l : Launch} {e : Env} {s : State} {m : MethodId} {args : Array Value} {below : List Frame} {meth : Method} {c : Code} {Q : State → Prop} {A : Nat → Prop} {D : va_G} {cI cJ : ClassId} (C : bC cX5_orderAt 6 RX5 wsX5_orderAt D cI cJ p s m args c meth A)
    {a_this : Nat} {a_codes : Nat} {i_size : Int32} {g_codes : Nat → Int32} {z : Nat} {x1 : Int32} {x2 : Int32} {x3 : Int32} {x4 : Int32} {o : (Int32 × Int32) ⊕ (Int32)} (hf : fX5_orderAt_L5 z x1 x2 x3 x4 i_size g_codes = some o)
    (hbk : ∀ s', o = .inl s' → ∀ (H : Heap) (locs : List Loc) (ls : Array Slot), va_P D vwCl (uX5_orderAt cI cJ a_this a_codes i_size g_codes) H → va_D A (uX5_orderAt cI cJ a_this a_codes i_size g_codes) → va_S A s.heap H locs → lv_has ls 6 [(0, .ref a_this), (1, .int x1), (2, .int x2), (3, .int s'.1), (4, .int s'.2)] → W p l e rX5_orderAt s m args below meth c H locs 0 0 Q (F0 m 5 ls []))
    (hex : ∀ e', o = .inr e' → ∀ (H : Heap) (locs : List Loc) (ls : Array Slot), va_P D vwCl (uX5_orderAt cI cJ a_this a_codes i_size g_codes) H → va_D A (uX5_orderAt cI cJ a_this a_codes i_size g_codes) → va_S A s.heap H locs → lv_has ls 6 [(3, .int e')] → W p l e rX5_orderAt s m args below meth c H locs 0 0 Q (F0 m 45 ls []))
    {H : Heap} {locs : List Loc} {ls : Array Slot} (hP : va_P D vwCl (uX5_orderAt cI cJ a_this a_codes i_size g_codes) H) (hD : va_D A (uX5_orderAt cI cJ a_this a_codes i_size g_codes)) (hS : va_S A s.heap H locs) (hl : lv_has ls 6 [(0, .ref a_this), (1, .int x1), (2, .int x2), (3, .int x3), (4, .int x4)]) : W p l e rX5_orderAt s m args below meth c H locs 0 0 Q (F0 m 5 ls []) := by
  obtain ⟨hx, hb, hml, hown, hts, hK, hN, hA, hlocks⟩ := id C
  unfold fX5_orderAt_L5 at hf
  refine lv_iload hx hb dX5_orderAt_5 (lv_at hl 4 rfl) ?_
  refine lv_iload_n hx hb dX5_orderAt_7 rfl (lv_at hl 2 rfl) ?_
  refine lv_icmp_ge (tgt := 45) hx hb dX5_orderAt_8 (by decide) (fun hc => ?_) (fun hc => ?_)
  · have hf := if_yes hc hf
    have ho := Option.some.inj hf
    subst ho
    exact hex _ rfl _ _ _ hP hD hS (lv_sub hl [3] rfl)
  · have hf := if_no hc hf
    refine lv_aload_n hx hb dX5_orderAt_11 rfl (lv_at hl 0 rfl) ?_
    refine lv_iload_n hx hb dX5_orderAt_12 rfl (lv_at hl 1 rfl) ?_
    refine lv_iload hx hb dX5_orderAt_13 (lv_at hl 4 rfl) ?_
    refine lv_iadd hx hb dX5_orderAt_15 ?_
    obtain ⟨q1, hq, hf⟩ := ob_some hf
    refine cl_i (wc := (uX5_letterAt cI cJ a_this a_codes i_size g_codes)) (w1 := (uX5_letterAt cI cJ a_this a_codes i_size g_codes)) (rn_V (As := [.int (x1 + x4)]) (b := a_this) (rest := []) (wc := (uX5_letterAt cI cJ a_this a_codes i_size g_codes)) (ci := 5) (q0 := 0) C hP hD [0, 1] rfl rfl rfl rfl (mX5_letterAt l D cI cJ H.size hq) 1 gX5_orderAt_X5_letterAt rfl ⟨rfl, rfl, Nat.le_of_ble_eq_true rfl, Nat.le_of_ble_eq_true rfl⟩ hdX5_letterAt rfl hl.1 rfl (Nat.le_of_ble_eq_true rfl) dX5_orderAt_16) hP hD hS hA [0, 1] rfl rfl (fun H locs hP hD hS => ?_)
    have hP : va_P D vwCl (uX5_orderAt cI cJ a_this a_codes i_size g_codes) H := hP
    have hD : va_D A (uX5_orderAt cI cJ a_this a_codes i_size g_codes) := hD
    refine cl_i (wc := (uX9_kindOfLetter cI cJ)) (w1 := (uX9_kindOfLetter cI cJ)) (rn_N (As := [.int q1]) (rest := []) (wc := (uX9_kindOfLetter cI cJ)) C hP hD [] rfl rfl (mX9_kindOfLetter l D cI cJ H.size) 1 gX5_orderAt_X9_kindOfLetter_n27 qX5_orderAt_iX9_kindOfLetter qX5_orderAt_sX9_kindOfLetter 6 rfl rfl ⟨rfl, rfl, Nat.le_of_ble_eq_true rfl, Nat.le_of_ble_eq_true rfl⟩ hdX9_kindOfLetter.2 rfl hl.1 rfl (Nat.le_of_ble_eq_true rfl) dX5_orderAt_19) hP hD hS hA [] rfl rfl (fun H locs hP hD hS => ?_)
    have hP : va_P D vwCl (uX5_orderAt cI cJ a_this a_codes i_size g_codes) H := hP
    have hD : va_D A (uX5_orderAt cI cJ a_this a_codes i_size g_codes) := hD
    refine lv_istore (lv' := [(5, .int (fX9_kindOfLetter q1)), (0, .ref a_this), (1, .int x1), (2, .int x2), (3, .int x3), (4, .int x4)]) hx hb dX5_orderAt_22 hl (by decide) rfl (fun ls hl => ?_)
    refine lv_iload hx hb dX5_orderAt_24 (lv_at hl 0 rfl) ?_
    refine lv_if_le (tgt := 39) hx hb dX5_orderAt_26 (by decide) (fun hc => ?_) (fun hc => ?_)
    · have hf := if_yes hc hf
      refine lv_iinc (v := (x4 + 1)) (lv' := [(4, .int (x4 + 1)), (5, .int (fX9_kindOfLetter q1)), (0, .ref a_this), (1, .int x1), (2, .int x2), (3, .int x3)]) hx hb dX5_orderAt_39 hl (k := 5) rfl rfl (by decide) rfl (fun ls hl => ?_)
      refine lv_goto (tgt := 5) hx hb dX5_orderAt_42 (by decide) ?_
      have ho := Option.some.inj hf
      subst ho
      exact hbk _ rfl _ _ _ hP hD hS (lv_sub hl [2, 3, 4, 5, 0] rfl)
    · have hf := if_no hc hf
      refine lv_iload_n hx hb dX5_orderAt_29 rfl (lv_at hl 4 rfl) ?_
      refine lv_iload hx hb dX5_orderAt_30 (lv_at hl 0 rfl) ?_
      refine lv_iconst (v := 2) hx hb dX5_orderAt_32 (by decide) ?_
      refine lv_iload hx hb dX5_orderAt_33 (lv_at hl 5 rfl) ?_
      refine lv_imul hx hb dX5_orderAt_35 ?_
      refine lv_ishl hx hb dX5_orderAt_36 ?_
      refine lv_ior hx hb dX5_orderAt_37 ?_
      refine lv_istore_n (lv' := [(3, .int (x3 ||| ((fX9_kindOfLetter q1) <<< ((2 * x4) &&& 31)))), (5, .int (fX9_kindOfLetter q1)), (0, .ref a_this), (1, .int x1), (2, .int x2), (4, .int x4)]) hx hb dX5_orderAt_38 rfl hl (by decide) rfl (fun ls hl => ?_)
      refine lv_iinc (v := (x4 + 1)) (lv' := [(4, .int (x4 + 1)), (3, .int (x3 ||| ((fX9_kindOfLetter q1) <<< ((2 * x4) &&& 31)))), (5, .int (fX9_kindOfLetter q1)), (0, .ref a_this), (1, .int x1), (2, .int x2)]) hx hb dX5_orderAt_39 hl (k := 5) rfl rfl (by decide) rfl (fun ls hl => ?_)
      refine lv_goto (tgt := 5) hx hb dX5_orderAt_42 (by decide) ?_
      have ho := Option.some.inj hf
      subst ho
      exact hbk _ rfl _ _ _ hP hD hS (lv_sub hl [3, 4, 5, 1, 0] rfl)
set_option maxHeartbeats 4000000 in
set_option maxRecDepth 100000 in
theorem kX5_orderAt_J45 {p : Program} {l : Launch} {e : Env} {s : State} {m : MethodId} {args : Array Value} {below : List Frame} {meth : Method} {c : Code} {Q : State → Prop} {A : Nat → Prop} {D : va_G} {cI cJ : ClassId} (C : bC cX5_orderAt 6 RX5 wsX5_orderAt D cI cJ p s m args c meth A)
    {a_this : Nat} {a_codes : Nat} {i_size : Int32} {g_codes : Nat → Int32} {z : Nat} {x3 : Int32} {o : Int32} (hf : fX5_orderAt_J45 z x3 i_size g_codes = some o)
    (hrt : ∀ (H : Heap) (locs : List Loc) (ls : Array Slot) (pc : Nat), va_P D vwCl (uX5_orderAt cI cJ a_this a_codes i_size g_codes) H → va_D A (uX5_orderAt cI cJ a_this a_codes i_size g_codes) → va_S A s.heap H locs → decode cX5_orderAt pc = .ok (.ireturn, 1) → W p l e rX5_orderAt s m args below meth c H locs 0 0 Q (F0 m pc ls [.int o]))
    {H : Heap} {locs : List Loc} {ls : Array Slot} (hP : va_P D vwCl (uX5_orderAt cI cJ a_this a_codes i_size g_codes) H) (hD : va_D A (uX5_orderAt cI cJ a_this a_codes i_size g_codes)) (hS : va_S A s.heap H locs) (hl : lv_has ls 6 [(3, .int x3)]) : W p l e rX5_orderAt s m args below meth c H locs 0 0 Q (F0 m 45 ls []) := by
  obtain ⟨hx, hb, hml, hown, hts, hK, hN, hA, hlocks⟩ := id C
  unfold fX5_orderAt_J45 at hf
  refine lv_iload_n hx hb dX5_orderAt_45 rfl (lv_at hl 0 rfl) ?_
  have ho := Option.some.inj hf
  subst ho
  exact hrt H locs ls _ hP hD hS dX5_orderAt_46
set_option maxHeartbeats 4000000 in
set_option maxRecDepth 100000 in
theorem kX5_orderAt_0 {p : Program} {l : Launch} {e : Env} {s : State} {m : MethodId} {args : Array Value} {below : List Frame} {meth : Method} {c : Code} {Q : State → Prop} {A : Nat → Prop} {D : va_G} {cI cJ : ClassId} (C : bC cX5_orderAt 6 RX5 wsX5_orderAt D cI cJ p s m args c meth A)
    {a_this : Nat} {a_codes : Nat} {i_size : Int32} {g_codes : Nat → Int32} {z : Nat} {x1 : Int32} {x2 : Int32} {o : Int32} (hf : fX5_orderAt z x1 x2 i_size g_codes = some o)
    (hrt : ∀ (H : Heap) (locs : List Loc) (ls : Array Slot) (pc : Nat), va_P D vwCl (uX5_orderAt cI cJ a_this a_codes i_size g_codes) H → va_D A (uX5_orderAt cI cJ a_this a_codes i_size g_codes) → va_S A s.heap H locs → decode cX5_orderAt pc = .ok (.ireturn, 1) → W p l e rX5_orderAt s m args below meth c H locs 0 0 Q (F0 m pc ls [.int o]))
    {H : Heap} {locs : List Loc} {ls : Array Slot} (hP : va_P D vwCl (uX5_orderAt cI cJ a_this a_codes i_size g_codes) H) (hD : va_D A (uX5_orderAt cI cJ a_this a_codes i_size g_codes)) (hS : va_S A s.heap H locs) (hl : lv_has ls 6 [(0, .ref a_this), (1, .int x1), (2, .int x2)]) : W p l e rX5_orderAt s m args below meth c H locs 0 0 Q (F0 m 0 ls []) := by
  obtain ⟨hx, hb, hml, hown, hts, hK, hN, hA, hlocks⟩ := id C
  unfold fX5_orderAt at hf
  refine lv_iconst (v := 0) hx hb dX5_orderAt_0 (by decide) ?_
  refine lv_istore_n (lv' := [(3, .int 0), (0, .ref a_this), (1, .int x1), (2, .int x2)]) hx hb dX5_orderAt_1 rfl hl (by decide) rfl (fun ls hl => ?_)
  refine lv_iconst (v := 0) hx hb dX5_orderAt_2 (by decide) ?_
  refine lv_istore (lv' := [(4, .int 0), (3, .int 0), (0, .ref a_this), (1, .int x1), (2, .int x2)]) hx hb dX5_orderAt_3 hl (by decide) rfl (fun ls hl => ?_)
  obtain ⟨ex, hlp, hf⟩ := ob_some hf
  refine lp_ind (P := fun sg => ∀ (H : Heap) (locs : List Loc) (ls : Array Slot), va_P D vwCl (uX5_orderAt cI cJ a_this a_codes i_size g_codes) H → va_D A (uX5_orderAt cI cJ a_this a_codes i_size g_codes) → va_S A s.heap H locs → lv_has ls 6 [(0, .ref a_this), (1, .int x1), (2, .int x2), (3, .int sg.1), (4, .int sg.2)] → W p l e rX5_orderAt s m args below meth c H locs 0 0 Q (F0 m 5 ls [])) ?_ z _ hlp H locs ls hP hD hS (lv_sub hl [2, 3, 4, 1, 0] rfl)
  intro sg og hbo hback hexit H locs ls hP hD hS hl
  refine kX5_orderAt_L5 C hbo (fun s' h => hback s' h) (fun ex h H locs ls hP hD hS hl => ?_) hP hD hS hl
  have he := hexit _ h
  subst he
  exact kX5_orderAt_J45 C hf hrt hP hD hS (lv_sub hl [0] rfl)
set_option maxHeartbeats 4000000 in
set_option maxRecDepth 100000 in
theorem mX5_orderAt (l : Launch) (D : va_G) (cI cJ : ClassId) (sz : Nat) {a_this : Nat} {a_codes : Nat} {i_size : Int32} {g_codes : Nat → Int32} {z : Nat} {x1 : Int32} {x2 : Int32} {o : Int32} (hf : fX5_orderAt z x1 x2 i_size g_codes = some o) : Met l yX5_orderAt wsX5_orderAt rX5_orderAt (va_Pc [.ref a_this, .int x1, .int x2] (kP D cI cJ (uX5_orderAt cI cJ a_this a_codes i_size g_codes) sz)) (va_Qi (fun r' (_ : Unit) => r' = o) (fun _ t => kB D (va_A (uX5_orderAt cI cJ a_this a_codes i_size g_codes) sz) (uX5_orderAt cI cJ a_this a_codes i_size g_codes) t) (va_A (uX5_orderAt cI cJ a_this a_codes i_size g_codes) sz)) 0 0 (va_A (uX5_orderAt cI cJ a_this a_codes i_size g_codes) sz) :=
  met_i (by decide) rfl (Nat.le_of_ble_eq_true rfl) (fun p e s m below meth c A Q C hrt ls hl hP hD hS => kX5_orderAt_0 (A := A) C hf hrt hP hD hS hl)

