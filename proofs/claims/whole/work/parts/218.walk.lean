/-! ===== FrogsOnRingModel.in(JJJ)Z ===== -/
abbrev uX10_in (cI cJ : ClassId) : va_W := []
def rX10_in : Room := { frames := 0, cells := 0, slots := 0, locals := 0 }
theorem hdX10_in : yX10_in.cls = RX10 ∧ yX10_in.cls ≠ "java/lang/invoke/MethodHandle" ∧ yX10_in.cls ≠ "java/lang/invoke/VarHandle" ∧ (parseMethodDescriptor yX10_in.desc).map (fun d => d.parameters.length) = some 3 := by decide +kernel
set_option maxHeartbeats 4000000 in
set_option maxRecDepth 100000 in
theorem kX10_in_0 {p : Program} {l : Launch} {e : Env} {s : State} {m : MethodId} {args : Array Value} {below : List Frame} {meth : Method} {c : Code} {Q : State → Prop} {A : Nat → Prop} {D : va_G} {cI cJ : ClassId} (C : bC cX10_in 6 RX10 wsX10_in D cI cJ p s m args c meth A)
    {x0 : Int64} {x2 : Int64} {x4 : Int64} {o : Int32} (hf : fX10_in x0 x2 x4 = o)
    (hrt : ∀ (H : Heap) (locs : List Loc) (ls : Array Slot) (pc : Nat), (o = 0 ∨ o = 1) → va_P D vwCl (uX10_in cI cJ) H → va_D A (uX10_in cI cJ) → va_S A s.heap H locs → decode cX10_in pc = .ok (.ireturn, 1) → W p l e rX10_in s m args below meth c H locs 0 0 Q (F0 m pc ls [.int o]))
    {H : Heap} {locs : List Loc} {ls : Array Slot} (hP : va_P D vwCl (uX10_in cI cJ) H) (hD : va_D A (uX10_in cI cJ)) (hS : va_S A s.heap H locs) (hl : lv_has ls 6 [(0, .long x0), (2, .long x2), (4, .long x4)]) : W p l e rX10_in s m args below meth c H locs 0 0 Q (F0 m 0 ls []) := by
  obtain ⟨hx, hb, hml, hown, hts, hK, hN, hA, hlocks⟩ := id C
  unfold fX10_in at hf
  refine lv_lload_n hx hb dX10_in_0 rfl (lv_at hl 0 rfl) ?_
  refine lv_lload_n hx hb dX10_in_1 rfl (lv_at hl 1 rfl) ?_
  refine W.lcmp hx hb dX10_in_2 ?_
  refine lv_if_lt (tgt := 17) hx hb dX10_in_3 (by decide) (fun hc => ?_) (fun hc => ?_)
  · have hf := if_yes hc hf
    refine lv_iconst (v := 0) hx hb dX10_in_17 (by decide) ?_
    subst hf
    exact hrt H locs ls _ (Or.inl rfl) hP hD hS dX10_in_18
  · have hf := if_no hc hf
    refine lv_lload_n hx hb dX10_in_6 rfl (lv_at hl 0 rfl) ?_
    refine lv_lload hx hb dX10_in_7 (lv_at hl 2 rfl) ?_
    refine W.lcmp hx hb dX10_in_9 ?_
    refine lv_if_gt (tgt := 17) hx hb dX10_in_10 (by decide) (fun hc => ?_) (fun hc => ?_)
    · have hf := if_yes hc hf
      refine lv_iconst (v := 0) hx hb dX10_in_17 (by decide) ?_
      subst hf
      exact hrt H locs ls _ (Or.inl rfl) hP hD hS dX10_in_18
    · have hf := if_no hc hf
      refine lv_iconst (v := 1) hx hb dX10_in_13 (by decide) ?_
      refine lv_goto (tgt := 18) hx hb dX10_in_14 (by decide) ?_
      subst hf
      exact hrt H locs ls _ (Or.inr rfl) hP hD hS dX10_in_18
set_option maxHeartbeats 4000000 in
set_option maxRecDepth 100000 in
theorem mX10_in (l : Launch) (D : va_G) (cI cJ : ClassId) (sz : Nat) {x0 : Int64} {x2 : Int64} {x4 : Int64} : Met l yX10_in wsX10_in rX10_in (va_Pc [.long x0, .long x2, .long x4] (kP D cI cJ (uX10_in cI cJ) sz)) (va_Qi (fun r' (_ : Unit) => r' = (fX10_in x0 x2 x4)) (fun _ t => kB D (va_A (uX10_in cI cJ) sz) (uX10_in cI cJ) t) (va_A (uX10_in cI cJ) sz)) 0 0 (va_A (uX10_in cI cJ) sz) :=
  met_z (by decide) rfl (Nat.le_of_ble_eq_true rfl) (fun p e s m below meth c A Q C hrt ls hl hP hD hS => kX10_in_0 (A := A) C rfl hrt hP hD hS hl)

/-! ===== FrogsOnRingModel.letters(J)I ===== -/
abbrev uX10_letters (cI cJ : ClassId) (a_this : Nat) (a_page : Nat) (i_pageMany : Int32) (i_state : Int32) (i_readSort : Int32) (i_readOther : Int32) (i_readTwo : Int32) (i_readMany : Int32) (i_readParents : Int32) (i_readOrder : Int32) (a_readRow : Nat) (i_sort : Int32) (i_many : Int32) (i_isOther : Int32) (i_isTwo : Int32) (a_parents : Nat) (i_orderNow : Int32) (i_aimNow : Int32) (i_stonesRead : Int32) (i_made : Int32) (a_madeRows : Nat) (a_places : Nat) (a_row : Nat) (a_far : Nat) (a_waysTo : Nat) (a_marks : Nat) (i_rowMany : Int32) (a_luckNow : Nat) (a_luckNext : Nat) (i_seedNow : Int32) (i_kept : Int32) (i_keptOrder : Int32) (i_keptMade : Int32) (a_keptRows : Nat) (i_hash : Int64) (g_page : Nat → Int32) : va_W := [(a_this, .inr (10, [.ref a_page, .int i_pageMany, .int i_state, .int i_readSort, .int i_readOther, .int i_readTwo, .int i_readMany, .int i_readParents, .int i_readOrder, .ref a_readRow, .int i_sort, .int i_many, .int i_isOther, .int i_isTwo, .ref a_parents, .int i_orderNow, .int i_aimNow, .int i_stonesRead, .int i_made, .ref a_madeRows, .ref a_places, .ref a_row, .ref a_far, .ref a_waysTo, .ref a_marks, .int i_rowMany, .ref a_luckNow, .ref a_luckNext, .int i_seedNow, .int i_kept, .int i_keptOrder, .int i_keptMade, .ref a_keptRows, .long i_hash])), (a_page, .inl (cI, 24, .inl g_page))]
def rX10_letters : Room := { frames := 0, cells := 0, slots := 0, locals := 0 }
theorem hdX10_letters : yX10_letters.cls = RX10 ∧ yX10_letters.cls ≠ "java/lang/invoke/MethodHandle" ∧ yX10_letters.cls ≠ "java/lang/invoke/VarHandle" ∧ (parseMethodDescriptor yX10_letters.desc).map (fun d => d.parameters.length) = some 1 := by decide +kernel
set_option maxRecDepth 20000 in
theorem jX10_letters_X10 : ∀ w ∈ u_ws RX10 TX10 34, w ∈ wsX10_letters := by decide +kernel
set_option maxRecDepth 20000 in
theorem qX10_letters_55 : Cond.constantLong RX10 55 (255) ∈ wsX10_letters := by decide +kernel
set_option maxRecDepth 20000 in
theorem qX10_letters_57 : Cond.fieldLink RX10 57 "FrogsOnRingModel" "pageMany" "I" ∈ wsX10_letters := by decide +kernel
set_option maxRecDepth 20000 in
theorem qX10_letters_7 : Cond.fieldLink RX10 7 "FrogsOnRingModel" "page" "[I" ∈ wsX10_letters := by decide +kernel
set_option maxHeartbeats 4000000 in
set_option maxRecDepth 100000 in
theorem kX10_letters_J62 {p : Program} {l : Launch} {e : Env} {s : State} {m : MethodId} {args : Array Value} {below : List Frame} {meth : Method} {c : Code} {Q : State → Prop} {A : Nat → Prop} {D : va_G} {cI cJ : ClassId} (C : bC cX10_letters 9 RX10 wsX10_letters D cI cJ p s m args c meth A)
    {a_this : Nat} {a_page : Nat} {i_pageMany : Int32} {i_state : Int32} {i_readSort : Int32} {i_readOther : Int32} {i_readTwo : Int32} {i_readMany : Int32} {i_readParents : Int32} {i_readOrder : Int32} {a_readRow : Nat} {i_sort : Int32} {i_many : Int32} {i_isOther : Int32} {i_isTwo : Int32} {a_parents : Nat} {i_orderNow : Int32} {i_aimNow : Int32} {i_stonesRead : Int32} {i_made : Int32} {a_madeRows : Nat} {a_places : Nat} {a_row : Nat} {a_far : Nat} {a_waysTo : Nat} {a_marks : Nat} {i_rowMany : Int32} {a_luckNow : Nat} {a_luckNext : Nat} {i_seedNow : Int32} {i_kept : Int32} {i_keptOrder : Int32} {i_keptMade : Int32} {a_keptRows : Nat} {i_hash : Int64} {g_page : Nat → Int32} {z : Nat} {x1 : Int64} {x3 : Int32} {x5 : Int64} {x7 : Int32} {x8 : Int32} {t0 : Int32} {o : (Int32 × Int32 × Int64 × Int32) ⊕ (Int32 × Int32)} (hf : fX10_letters_J62 z x1 x3 x5 x7 x8 t0 i_pageMany g_page = some o)
    (hbk : ∀ s', o = .inl s' → ∀ (H : Heap) (locs : List Loc) (ls : Array Slot), va_P D vwCl (uX10_letters cI cJ a_this a_page i_pageMany i_state i_readSort i_readOther i_readTwo i_readMany i_readParents i_readOrder a_readRow i_sort i_many i_isOther i_isTwo a_parents i_orderNow i_aimNow i_stonesRead i_made a_madeRows a_places a_row a_far a_waysTo a_marks i_rowMany a_luckNow a_luckNext i_seedNow i_kept i_keptOrder i_keptMade a_keptRows i_hash g_page) H → va_D A (uX10_letters cI cJ a_this a_page i_pageMany i_state i_readSort i_readOther i_readTwo i_readMany i_readParents i_readOrder a_readRow i_sort i_many i_isOther i_isTwo a_parents i_orderNow i_aimNow i_stonesRead i_made a_madeRows a_places a_row a_far a_waysTo a_marks i_rowMany a_luckNow a_luckNext i_seedNow i_kept i_keptOrder i_keptMade a_keptRows i_hash g_page) → va_S A s.heap H locs → lv_has ls 9 [(0, .ref a_this), (1, .long x1), (3, .int s'.1), (4, .int s'.2.1), (5, .long s'.2.2.1), (7, .int s'.2.2.2)] → W p l e rX10_letters s m args below meth c H locs 0 0 Q (F0 m 11 ls []))
    (hex : ∀ e', o = .inr e' → ∀ (H : Heap) (locs : List Loc) (ls : Array Slot), va_P D vwCl (uX10_letters cI cJ a_this a_page i_pageMany i_state i_readSort i_readOther i_readTwo i_readMany i_readParents i_readOrder a_readRow i_sort i_many i_isOther i_isTwo a_parents i_orderNow i_aimNow i_stonesRead i_made a_madeRows a_places a_row a_far a_waysTo a_marks i_rowMany a_luckNow a_luckNext i_seedNow i_kept i_keptOrder i_keptMade a_keptRows i_hash g_page) H → va_D A (uX10_letters cI cJ a_this a_page i_pageMany i_state i_readSort i_readOther i_readTwo i_readMany i_readParents i_readOrder a_readRow i_sort i_many i_isOther i_isTwo a_parents i_orderNow i_aimNow i_stonesRead i_made a_madeRows a_places a_row a_far a_waysTo a_marks i_rowMany a_luckNow a_luckNext i_seedNow i_kept i_keptOrder i_keptMade a_keptRows i_hash g_page) → va_S A s.heap H locs → lv_has ls 9 [(0, .ref a_this), (1, .long x1), (3, .int e'.1), (4, .int e'.2)] → W p l e rX10_letters s m args below meth c H locs 0 0 Q (F0 m 83 ls []))
    {H : Heap} {locs : List Loc} {ls : Array Slot} (hP : va_P D vwCl (uX10_letters cI cJ a_this a_page i_pageMany i_state i_readSort i_readOther i_readTwo i_readMany i_readParents i_readOrder a_readRow i_sort i_many i_isOther i_isTwo a_parents i_orderNow i_aimNow i_stonesRead i_made a_madeRows a_places a_row a_far a_waysTo a_marks i_rowMany a_luckNow a_luckNext i_seedNow i_kept i_keptOrder i_keptMade a_keptRows i_hash g_page) H) (hD : va_D A (uX10_letters cI cJ a_this a_page i_pageMany i_state i_readSort i_readOther i_readTwo i_readMany i_readParents i_readOrder a_readRow i_sort i_many i_isOther i_isTwo a_parents i_orderNow i_aimNow i_stonesRead i_made a_madeRows a_places a_row a_far a_waysTo a_marks i_rowMany a_luckNow a_luckNext i_seedNow i_kept i_keptOrder i_keptMade a_keptRows i_hash g_page)) (hS : va_S A s.heap H locs) (hl : lv_has ls 9 [(0, .ref a_this), (1, .long x1), (3, .int x3), (5, .long x5), (7, .int x7), (8, .int x8)]) : W p l e rX10_letters s m args below meth c H locs 0 0 Q (F0 m 62 ls [.int t0]) := by
  obtain ⟨hx, hb, hml, hown, hts, hK, hN, hA, hlocks⟩ := id C
  unfold fX10_letters_J62 at hf
  refine lv_istore (lv' := [(4, .int t0), (0, .ref a_this), (1, .long x1), (3, .int x3), (5, .long x5), (7, .int x7), (8, .int x8)]) hx hb dX10_letters_62 hl (by decide) rfl (fun ls hl => ?_)
  refine lv_iload_n hx hb dX10_letters_64 rfl (lv_at hl 3 rfl) ?_
  refine lv_iload hx hb dX10_letters_65 (lv_at hl 6 rfl) ?_
  refine lv_if_le (tgt := 74) hx hb dX10_letters_67 (by decide) (fun hc => ?_) (fun hc => ?_)
  · have hf := if_yes hc hf
    refine lv_iconst (v := 0) hx hb dX10_letters_74 (by decide) ?_
    refine lv_iadd hx hb dX10_letters_75 ?_
    refine lv_istore_n (lv' := [(3, .int (x3 + 0)), (4, .int t0), (0, .ref a_this), (1, .long x1), (5, .long x5), (7, .int x7), (8, .int x8)]) hx hb dX10_letters_76 rfl hl (by decide) rfl (fun ls hl => ?_)
    refine lv_iinc (v := (x7 + 1)) (lv' := [(7, .int (x7 + 1)), (3, .int (x3 + 0)), (4, .int t0), (0, .ref a_this), (1, .long x1), (5, .long x5), (8, .int x8)]) hx hb dX10_letters_77 hl (k := 5) rfl rfl (by decide) rfl (fun ls hl => ?_)
    refine lv_goto (tgt := 11) hx hb dX10_letters_80 (by decide) ?_
    have ho := Option.some.inj hf
    subst ho
    exact hbk _ rfl _ _ _ hP hD hS (lv_sub hl [3, 4, 1, 2, 5, 0] rfl)
  · have hf := if_no hc hf
    refine lv_iconst (v := 1) hx hb dX10_letters_70 (by decide) ?_
    refine lv_goto (tgt := 75) hx hb dX10_letters_71 (by decide) ?_
    refine lv_iadd hx hb dX10_letters_75 ?_
    refine lv_istore_n (lv' := [(3, .int (x3 + 1)), (4, .int t0), (0, .ref a_this), (1, .long x1), (5, .long x5), (7, .int x7), (8, .int x8)]) hx hb dX10_letters_76 rfl hl (by decide) rfl (fun ls hl => ?_)
    refine lv_iinc (v := (x7 + 1)) (lv' := [(7, .int (x7 + 1)), (3, .int (x3 + 1)), (4, .int t0), (0, .ref a_this), (1, .long x1), (5, .long x5), (8, .int x8)]) hx hb dX10_letters_77 hl (k := 5) rfl rfl (by decide) rfl (fun ls hl => ?_)
    refine lv_goto (tgt := 11) hx hb dX10_letters_80 (by decide) ?_
    have ho := Option.some.inj hf
    subst ho
    exact hbk _ rfl _ _ _ hP hD hS (lv_sub hl [3, 4, 1, 2, 5, 0] rfl)
set_option maxHeartbeats 4000000 in
set_option maxRecDepth 100000 in
theorem kX10_letters_J61 {p : Program} {l : Launch} {e : Env} {s : State} {m : MethodId} {args : Array Value} {below : List Frame} {meth : Method} {c : Code} {Q : State → Prop} {A : Nat → Prop} {D : va_G} {cI cJ : ClassId} (C : bC cX10_letters 9 RX10 wsX10_letters D cI cJ p s m args c meth A)
    {a_this : Nat} {a_page : Nat} {i_pageMany : Int32} {i_state : Int32} {i_readSort : Int32} {i_readOther : Int32} {i_readTwo : Int32} {i_readMany : Int32} {i_readParents : Int32} {i_readOrder : Int32} {a_readRow : Nat} {i_sort : Int32} {i_many : Int32} {i_isOther : Int32} {i_isTwo : Int32} {a_parents : Nat} {i_orderNow : Int32} {i_aimNow : Int32} {i_stonesRead : Int32} {i_made : Int32} {a_madeRows : Nat} {a_places : Nat} {a_row : Nat} {a_far : Nat} {a_waysTo : Nat} {a_marks : Nat} {i_rowMany : Int32} {a_luckNow : Nat} {a_luckNext : Nat} {i_seedNow : Int32} {i_kept : Int32} {i_keptOrder : Int32} {i_keptMade : Int32} {a_keptRows : Nat} {i_hash : Int64} {g_page : Nat → Int32} {z : Nat} {x1 : Int64} {x3 : Int32} {x5 : Int64} {x7 : Int32} {x8 : Int32} {o : (Int32 × Int32 × Int64 × Int32) ⊕ (Int32 × Int32)} (hf : fX10_letters_J61 z x1 x3 x5 x7 x8 i_pageMany g_page = some o)
    (hbk : ∀ s', o = .inl s' → ∀ (H : Heap) (locs : List Loc) (ls : Array Slot), va_P D vwCl (uX10_letters cI cJ a_this a_page i_pageMany i_state i_readSort i_readOther i_readTwo i_readMany i_readParents i_readOrder a_readRow i_sort i_many i_isOther i_isTwo a_parents i_orderNow i_aimNow i_stonesRead i_made a_madeRows a_places a_row a_far a_waysTo a_marks i_rowMany a_luckNow a_luckNext i_seedNow i_kept i_keptOrder i_keptMade a_keptRows i_hash g_page) H → va_D A (uX10_letters cI cJ a_this a_page i_pageMany i_state i_readSort i_readOther i_readTwo i_readMany i_readParents i_readOrder a_readRow i_sort i_many i_isOther i_isTwo a_parents i_orderNow i_aimNow i_stonesRead i_made a_madeRows a_places a_row a_far a_waysTo a_marks i_rowMany a_luckNow a_luckNext i_seedNow i_kept i_keptOrder i_keptMade a_keptRows i_hash g_page) → va_S A s.heap H locs → lv_has ls 9 [(0, .ref a_this), (1, .long x1), (3, .int s'.1), (4, .int s'.2.1), (5, .long s'.2.2.1), (7, .int s'.2.2.2)] → W p l e rX10_letters s m args below meth c H locs 0 0 Q (F0 m 11 ls []))
    (hex : ∀ e', o = .inr e' → ∀ (H : Heap) (locs : List Loc) (ls : Array Slot), va_P D vwCl (uX10_letters cI cJ a_this a_page i_pageMany i_state i_readSort i_readOther i_readTwo i_readMany i_readParents i_readOrder a_readRow i_sort i_many i_isOther i_isTwo a_parents i_orderNow i_aimNow i_stonesRead i_made a_madeRows a_places a_row a_far a_waysTo a_marks i_rowMany a_luckNow a_luckNext i_seedNow i_kept i_keptOrder i_keptMade a_keptRows i_hash g_page) H → va_D A (uX10_letters cI cJ a_this a_page i_pageMany i_state i_readSort i_readOther i_readTwo i_readMany i_readParents i_readOrder a_readRow i_sort i_many i_isOther i_isTwo a_parents i_orderNow i_aimNow i_stonesRead i_made a_madeRows a_places a_row a_far a_waysTo a_marks i_rowMany a_luckNow a_luckNext i_seedNow i_kept i_keptOrder i_keptMade a_keptRows i_hash g_page) → va_S A s.heap H locs → lv_has ls 9 [(0, .ref a_this), (1, .long x1), (3, .int e'.1), (4, .int e'.2)] → W p l e rX10_letters s m args below meth c H locs 0 0 Q (F0 m 83 ls []))
    {H : Heap} {locs : List Loc} {ls : Array Slot} (hP : va_P D vwCl (uX10_letters cI cJ a_this a_page i_pageMany i_state i_readSort i_readOther i_readTwo i_readMany i_readParents i_readOrder a_readRow i_sort i_many i_isOther i_isTwo a_parents i_orderNow i_aimNow i_stonesRead i_made a_madeRows a_places a_row a_far a_waysTo a_marks i_rowMany a_luckNow a_luckNext i_seedNow i_kept i_keptOrder i_keptMade a_keptRows i_hash g_page) H) (hD : va_D A (uX10_letters cI cJ a_this a_page i_pageMany i_state i_readSort i_readOther i_readTwo i_readMany i_readParents i_readOrder a_readRow i_sort i_many i_isOther i_isTwo a_parents i_orderNow i_aimNow i_stonesRead i_made a_madeRows a_places a_row a_far a_waysTo a_marks i_rowMany a_luckNow a_luckNext i_seedNow i_kept i_keptOrder i_keptMade a_keptRows i_hash g_page)) (hS : va_S A s.heap H locs) (hl : lv_has ls 9 [(0, .ref a_this), (1, .long x1), (3, .int x3), (5, .long x5), (7, .int x7), (8, .int x8)]) : W p l e rX10_letters s m args below meth c H locs 0 0 Q (F0 m 61 ls []) := by
  obtain ⟨hx, hb, hml, hown, hts, hK, hN, hA, hlocks⟩ := id C
  unfold fX10_letters_J61 at hf
  refine lv_iconst (v := 0) hx hb dX10_letters_61 (by decide) ?_
  exact kX10_letters_J62 C hf hbk hex hP hD hS (lv_sub hl [0, 1, 2, 3, 4, 5] rfl)
set_option maxHeartbeats 4000000 in
set_option maxRecDepth 100000 in
theorem kX10_letters_J57 {p : Program} {l : Launch} {e : Env} {s : State} {m : MethodId} {args : Array Value} {below : List Frame} {meth : Method} {c : Code} {Q : State → Prop} {A : Nat → Prop} {D : va_G} {cI cJ : ClassId} (C : bC cX10_letters 9 RX10 wsX10_letters D cI cJ p s m args c meth A)
    {a_this : Nat} {a_page : Nat} {i_pageMany : Int32} {i_state : Int32} {i_readSort : Int32} {i_readOther : Int32} {i_readTwo : Int32} {i_readMany : Int32} {i_readParents : Int32} {i_readOrder : Int32} {a_readRow : Nat} {i_sort : Int32} {i_many : Int32} {i_isOther : Int32} {i_isTwo : Int32} {a_parents : Nat} {i_orderNow : Int32} {i_aimNow : Int32} {i_stonesRead : Int32} {i_made : Int32} {a_madeRows : Nat} {a_places : Nat} {a_row : Nat} {a_far : Nat} {a_waysTo : Nat} {a_marks : Nat} {i_rowMany : Int32} {a_luckNow : Nat} {a_luckNext : Nat} {i_seedNow : Int32} {i_kept : Int32} {i_keptOrder : Int32} {i_keptMade : Int32} {a_keptRows : Nat} {i_hash : Int64} {g_page : Nat → Int32} {z : Nat} {x1 : Int64} {x3 : Int32} {x5 : Int64} {x7 : Int32} {x8 : Int32} {o : (Int32 × Int32 × Int64 × Int32) ⊕ (Int32 × Int32)} (hf : fX10_letters_J57 z x1 x3 x5 x7 x8 i_pageMany g_page = some o)
    (hbk : ∀ s', o = .inl s' → ∀ (H : Heap) (locs : List Loc) (ls : Array Slot), va_P D vwCl (uX10_letters cI cJ a_this a_page i_pageMany i_state i_readSort i_readOther i_readTwo i_readMany i_readParents i_readOrder a_readRow i_sort i_many i_isOther i_isTwo a_parents i_orderNow i_aimNow i_stonesRead i_made a_madeRows a_places a_row a_far a_waysTo a_marks i_rowMany a_luckNow a_luckNext i_seedNow i_kept i_keptOrder i_keptMade a_keptRows i_hash g_page) H → va_D A (uX10_letters cI cJ a_this a_page i_pageMany i_state i_readSort i_readOther i_readTwo i_readMany i_readParents i_readOrder a_readRow i_sort i_many i_isOther i_isTwo a_parents i_orderNow i_aimNow i_stonesRead i_made a_madeRows a_places a_row a_far a_waysTo a_marks i_rowMany a_luckNow a_luckNext i_seedNow i_kept i_keptOrder i_keptMade a_keptRows i_hash g_page) → va_S A s.heap H locs → lv_has ls 9 [(0, .ref a_this), (1, .long x1), (3, .int s'.1), (4, .int s'.2.1), (5, .long s'.2.2.1), (7, .int s'.2.2.2)] → W p l e rX10_letters s m args below meth c H locs 0 0 Q (F0 m 11 ls []))
    (hex : ∀ e', o = .inr e' → ∀ (H : Heap) (locs : List Loc) (ls : Array Slot), va_P D vwCl (uX10_letters cI cJ a_this a_page i_pageMany i_state i_readSort i_readOther i_readTwo i_readMany i_readParents i_readOrder a_readRow i_sort i_many i_isOther i_isTwo a_parents i_orderNow i_aimNow i_stonesRead i_made a_madeRows a_places a_row a_far a_waysTo a_marks i_rowMany a_luckNow a_luckNext i_seedNow i_kept i_keptOrder i_keptMade a_keptRows i_hash g_page) H → va_D A (uX10_letters cI cJ a_this a_page i_pageMany i_state i_readSort i_readOther i_readTwo i_readMany i_readParents i_readOrder a_readRow i_sort i_many i_isOther i_isTwo a_parents i_orderNow i_aimNow i_stonesRead i_made a_madeRows a_places a_row a_far a_waysTo a_marks i_rowMany a_luckNow a_luckNext i_seedNow i_kept i_keptOrder i_keptMade a_keptRows i_hash g_page) → va_S A s.heap H locs → lv_has ls 9 [(0, .ref a_this), (1, .long x1), (3, .int e'.1), (4, .int e'.2)] → W p l e rX10_letters s m args below meth c H locs 0 0 Q (F0 m 83 ls []))
    {H : Heap} {locs : List Loc} {ls : Array Slot} (hP : va_P D vwCl (uX10_letters cI cJ a_this a_page i_pageMany i_state i_readSort i_readOther i_readTwo i_readMany i_readParents i_readOrder a_readRow i_sort i_many i_isOther i_isTwo a_parents i_orderNow i_aimNow i_stonesRead i_made a_madeRows a_places a_row a_far a_waysTo a_marks i_rowMany a_luckNow a_luckNext i_seedNow i_kept i_keptOrder i_keptMade a_keptRows i_hash g_page) H) (hD : va_D A (uX10_letters cI cJ a_this a_page i_pageMany i_state i_readSort i_readOther i_readTwo i_readMany i_readParents i_readOrder a_readRow i_sort i_many i_isOther i_isTwo a_parents i_orderNow i_aimNow i_stonesRead i_made a_madeRows a_places a_row a_far a_waysTo a_marks i_rowMany a_luckNow a_luckNext i_seedNow i_kept i_keptOrder i_keptMade a_keptRows i_hash g_page)) (hS : va_S A s.heap H locs) (hl : lv_has ls 9 [(0, .ref a_this), (1, .long x1), (3, .int x3), (5, .long x5), (7, .int x7), (8, .int x8)]) : W p l e rX10_letters s m args below meth c H locs 0 0 Q (F0 m 57 ls []) := by
  obtain ⟨hx, hb, hml, hown, hts, hK, hN, hA, hlocks⟩ := id C
  unfold fX10_letters_J57 at hf
  refine lv_iconst (v := 1) hx hb dX10_letters_57 (by decide) ?_
  refine lv_goto (tgt := 62) hx hb dX10_letters_58 (by decide) ?_
  exact kX10_letters_J62 C hf hbk hex hP hD hS (lv_sub hl [0, 1, 2, 3, 4, 5] rfl)
set_option maxHeartbeats 4000000 in
set_option maxRecDepth 100000 in
theorem kX10_letters_L11 {p : Program} {l : Launch} {e : Env} {s : State} {m : MethodId} {args : Array Value} {below : List Frame} {meth : Method} {c : Code} {Q : State → Prop} {A : Nat → Prop} {D : va_G} {cI cJ : ClassId} (C : bC cX10_letters 9 RX10 wsX10_letters D cI cJ p s m args c meth A)
    {a_this : Nat} {a_page : Nat} {i_pageMany : Int32} {i_state : Int32} {i_readSort : Int32} {i_readOther : Int32} {i_readTwo : Int32} {i_readMany : Int32} {i_readParents : Int32} {i_readOrder : Int32} {a_readRow : Nat} {i_sort : Int32} {i_many : Int32} {i_isOther : Int32} {i_isTwo : Int32} {a_parents : Nat} {i_orderNow : Int32} {i_aimNow : Int32} {i_stonesRead : Int32} {i_made : Int32} {a_madeRows : Nat} {a_places : Nat} {a_row : Nat} {a_far : Nat} {a_waysTo : Nat} {a_marks : Nat} {i_rowMany : Int32} {a_luckNow : Nat} {a_luckNext : Nat} {i_seedNow : Int32} {i_kept : Int32} {i_keptOrder : Int32} {i_keptMade : Int32} {a_keptRows : Nat} {i_hash : Int64} {g_page : Nat → Int32} {z : Nat} {x1 : Int64} {x3 : Int32} {x4 : Int32} {x5 : Int64} {x7 : Int32} {o : (Int32 × Int32 × Int64 × Int32) ⊕ (Int32 × Int32)} (hf : fX10_letters_L11 z x1 x3 x4 x5 x7 i_pageMany g_page = some o)
    (hbk : ∀ s', o = .inl s' → ∀ (H : Heap) (locs : List Loc) (ls : Array Slot), va_P D vwCl (uX10_letters cI cJ a_this a_page i_pageMany i_state i_readSort i_readOther i_readTwo i_readMany i_readParents i_readOrder a_readRow i_sort i_many i_isOther i_isTwo a_parents i_orderNow i_aimNow i_stonesRead i_made a_madeRows a_places a_row a_far a_waysTo a_marks i_rowMany a_luckNow a_luckNext i_seedNow i_kept i_keptOrder i_keptMade a_keptRows i_hash g_page) H → va_D A (uX10_letters cI cJ a_this a_page i_pageMany i_state i_readSort i_readOther i_readTwo i_readMany i_readParents i_readOrder a_readRow i_sort i_many i_isOther i_isTwo a_parents i_orderNow i_aimNow i_stonesRead i_made a_madeRows a_places a_row a_far a_waysTo a_marks i_rowMany a_luckNow a_luckNext i_seedNow i_kept i_keptOrder i_keptMade a_keptRows i_hash g_page) → va_S A s.heap H locs → lv_has ls 9 [(0, .ref a_this), (1, .long x1), (3, .int s'.1), (4, .int s'.2.1), (5, .long s'.2.2.1), (7, .int s'.2.2.2)] → W p l e rX10_letters s m args below meth c H locs 0 0 Q (F0 m 11 ls []))
    (hex : ∀ e', o = .inr e' → ∀ (H : Heap) (locs : List Loc) (ls : Array Slot), va_P D vwCl (uX10_letters cI cJ a_this a_page i_pageMany i_state i_readSort i_readOther i_readTwo i_readMany i_readParents i_readOrder a_readRow i_sort i_many i_isOther i_isTwo a_parents i_orderNow i_aimNow i_stonesRead i_made a_madeRows a_places a_row a_far a_waysTo a_marks i_rowMany a_luckNow a_luckNext i_seedNow i_kept i_keptOrder i_keptMade a_keptRows i_hash g_page) H → va_D A (uX10_letters cI cJ a_this a_page i_pageMany i_state i_readSort i_readOther i_readTwo i_readMany i_readParents i_readOrder a_readRow i_sort i_many i_isOther i_isTwo a_parents i_orderNow i_aimNow i_stonesRead i_made a_madeRows a_places a_row a_far a_waysTo a_marks i_rowMany a_luckNow a_luckNext i_seedNow i_kept i_keptOrder i_keptMade a_keptRows i_hash g_page) → va_S A s.heap H locs → lv_has ls 9 [(0, .ref a_this), (1, .long x1), (3, .int e'.1), (4, .int e'.2)] → W p l e rX10_letters s m args below meth c H locs 0 0 Q (F0 m 83 ls []))
    {H : Heap} {locs : List Loc} {ls : Array Slot} (hP : va_P D vwCl (uX10_letters cI cJ a_this a_page i_pageMany i_state i_readSort i_readOther i_readTwo i_readMany i_readParents i_readOrder a_readRow i_sort i_many i_isOther i_isTwo a_parents i_orderNow i_aimNow i_stonesRead i_made a_madeRows a_places a_row a_far a_waysTo a_marks i_rowMany a_luckNow a_luckNext i_seedNow i_kept i_keptOrder i_keptMade a_keptRows i_hash g_page) H) (hD : va_D A (uX10_letters cI cJ a_this a_page i_pageMany i_state i_readSort i_readOther i_readTwo i_readMany i_readParents i_readOrder a_readRow i_sort i_many i_isOther i_isTwo a_parents i_orderNow i_aimNow i_stonesRead i_made a_madeRows a_places a_row a_far a_waysTo a_marks i_rowMany a_luckNow a_luckNext i_seedNow i_kept i_keptOrder i_keptMade a_keptRows i_hash g_page)) (hS : va_S A s.heap H locs) (hl : lv_has ls 9 [(0, .ref a_this), (1, .long x1), (3, .int x3), (4, .int x4), (5, .long x5), (7, .int x7)]) : W p l e rX10_letters s m args below meth c H locs 0 0 Q (F0 m 11 ls []) := by
  obtain ⟨hx, hb, hml, hown, hts, hK, hN, hA, hlocks⟩ := id C
  unfold fX10_letters_L11 at hf
  refine lv_iload hx hb dX10_letters_11 (lv_at hl 5 rfl) ?_
  refine lv_bipush (v := 8) hx hb dX10_letters_13 (by decide) ?_
  refine lv_icmp_ge (tgt := 83) hx hb dX10_letters_15 (by decide) (fun hc => ?_) (fun hc => ?_)
  · have hf := if_yes hc hf
    have ho := Option.some.inj hf
    subst ho
    exact hex _ rfl _ _ _ hP hD hS (lv_sub hl [0, 1, 2, 3] rfl)
  · have hf := if_no hc hf
    refine lv_lload hx hb dX10_letters_18 (lv_at hl 4 rfl) ?_
    refine lv_ldc2 hx hb hown (hts _ qX10_letters_55) dX10_letters_20 ?_
    refine lv_land hx hb dX10_letters_23 ?_
    refine lv_l2i hx hb dX10_letters_24 rfl ?_
    refine lv_istore (lv' := [(8, .int ((x5 &&& 255).toInt32)), (0, .ref a_this), (1, .long x1), (3, .int x3), (4, .int x4), (5, .long x5), (7, .int x7)]) hx hb dX10_letters_25 hl (by decide) rfl (fun ls hl => ?_)
    refine lv_lload hx hb dX10_letters_27 (lv_at hl 5 rfl) ?_
    refine lv_bipush (v := 8) hx hb dX10_letters_29 (by decide) ?_
    refine lv_lushr (v := (l_ushr x5 8)) hx hb dX10_letters_31 rfl ?_
    refine lv_lstore (lv' := [(5, .long (l_ushr x5 8)), (8, .int ((x5 &&& 255).toInt32)), (0, .ref a_this), (1, .long x1), (3, .int x3), (4, .int x4), (7, .int x7)]) hx hb dX10_letters_32 hl (by decide) rfl (fun ls hl => ?_)
    refine lv_iload hx hb dX10_letters_34 (lv_at hl 5 rfl) ?_
    refine lv_if_eq (tgt := 61) hx hb dX10_letters_36 (by decide) (fun hc => ?_) (fun hc => ?_)
    · have hf := if_yes hc hf
      exact kX10_letters_J61 C hf hbk hex hP hD hS (lv_sub hl [2, 3, 4, 0, 6, 1] rfl)
    · have hf := if_no hc hf
      refine lv_iload hx hb dX10_letters_39 (lv_at hl 1 rfl) ?_
      refine lv_bipush (v := 126) hx hb dX10_letters_41 (by decide) ?_
      refine lv_icmp_gt (tgt := 61) hx hb dX10_letters_43 (by decide) (fun hc => ?_) (fun hc => ?_)
      · have hf := if_yes hc hf
        exact kX10_letters_J61 C hf hbk hex hP hD hS (lv_sub hl [2, 3, 4, 0, 6, 1] rfl)
      · have hf := if_no hc hf
        refine lv_iload hx hb dX10_letters_46 (lv_at hl 1 rfl) ?_
        refine lv_if_eq (tgt := 57) hx hb dX10_letters_48 (by decide) (fun hc => ?_) (fun hc => ?_)
        · have hf := if_yes hc hf
          exact kX10_letters_J57 C hf hbk hex hP hD hS (lv_sub hl [2, 3, 4, 0, 6, 1] rfl)
        · have hf := if_no hc hf
          refine lv_iload_n hx hb dX10_letters_51 rfl (lv_at hl 4 rfl) ?_
          refine lv_iload hx hb dX10_letters_52 (lv_at hl 6 rfl) ?_
          refine lv_icmp_ne (tgt := 61) hx hb dX10_letters_54 (by decide) (fun hc => ?_) (fun hc => ?_)
          · have hf := if_no hc hf
            exact kX10_letters_J61 C hf hbk hex hP hD hS (lv_sub hl [2, 3, 4, 0, 6, 1] rfl)
          · have hf := if_yes hc hf
            exact kX10_letters_J57 C hf hbk hex hP hD hS (lv_sub hl [2, 3, 4, 0, 6, 1] rfl)
set_option maxHeartbeats 4000000 in
set_option maxRecDepth 100000 in
theorem kX10_letters_L108 {p : Program} {l : Launch} {e : Env} {s : State} {m : MethodId} {args : Array Value} {below : List Frame} {meth : Method} {c : Code} {Q : State → Prop} {A : Nat → Prop} {D : va_G} {cI cJ : ClassId} (C : bC cX10_letters 9 RX10 wsX10_letters D cI cJ p s m args c meth A)
    {a_this : Nat} {a_page : Nat} {i_pageMany : Int32} {i_state : Int32} {i_readSort : Int32} {i_readOther : Int32} {i_readTwo : Int32} {i_readMany : Int32} {i_readParents : Int32} {i_readOrder : Int32} {a_readRow : Nat} {i_sort : Int32} {i_many : Int32} {i_isOther : Int32} {i_isTwo : Int32} {a_parents : Nat} {i_orderNow : Int32} {i_aimNow : Int32} {i_stonesRead : Int32} {i_made : Int32} {a_madeRows : Nat} {a_places : Nat} {a_row : Nat} {a_far : Nat} {a_waysTo : Nat} {a_marks : Nat} {i_rowMany : Int32} {a_luckNow : Nat} {a_luckNext : Nat} {i_seedNow : Int32} {i_kept : Int32} {i_keptOrder : Int32} {i_keptMade : Int32} {a_keptRows : Nat} {i_hash : Int64} {g_page : Nat → Int32} {z : Nat} {x1 : Int64} {x3 : Int32} {x7 : Int32} {o : (Int32 × (Nat → Int32) × Int32) ⊕ ((Nat → Int32) × Int32)} (hf : fX10_letters_L108 z x1 x3 x7 i_pageMany g_page = some o)
    (hbk : ∀ s', o = .inl s' → ∀ (H : Heap) (locs : List Loc) (ls : Array Slot), va_P D vwCl (uX10_letters cI cJ a_this a_page s'.2.2 i_state i_readSort i_readOther i_readTwo i_readMany i_readParents i_readOrder a_readRow i_sort i_many i_isOther i_isTwo a_parents i_orderNow i_aimNow i_stonesRead i_made a_madeRows a_places a_row a_far a_waysTo a_marks i_rowMany a_luckNow a_luckNext i_seedNow i_kept i_keptOrder i_keptMade a_keptRows i_hash s'.2.1) H → va_D A (uX10_letters cI cJ a_this a_page s'.2.2 i_state i_readSort i_readOther i_readTwo i_readMany i_readParents i_readOrder a_readRow i_sort i_many i_isOther i_isTwo a_parents i_orderNow i_aimNow i_stonesRead i_made a_madeRows a_places a_row a_far a_waysTo a_marks i_rowMany a_luckNow a_luckNext i_seedNow i_kept i_keptOrder i_keptMade a_keptRows i_hash s'.2.1) → va_S A s.heap H locs → lv_has ls 9 [(0, .ref a_this), (1, .long x1), (3, .int x3), (7, .int s'.1)] → W p l e rX10_letters s m args below meth c H locs 0 0 Q (F0 m 108 ls []))
    (hex : ∀ e', o = .inr e' → ∀ (H : Heap) (locs : List Loc) (ls : Array Slot), va_P D vwCl (uX10_letters cI cJ a_this a_page e'.2 i_state i_readSort i_readOther i_readTwo i_readMany i_readParents i_readOrder a_readRow i_sort i_many i_isOther i_isTwo a_parents i_orderNow i_aimNow i_stonesRead i_made a_madeRows a_places a_row a_far a_waysTo a_marks i_rowMany a_luckNow a_luckNext i_seedNow i_kept i_keptOrder i_keptMade a_keptRows i_hash e'.1) H → va_D A (uX10_letters cI cJ a_this a_page e'.2 i_state i_readSort i_readOther i_readTwo i_readMany i_readParents i_readOrder a_readRow i_sort i_many i_isOther i_isTwo a_parents i_orderNow i_aimNow i_stonesRead i_made a_madeRows a_places a_row a_far a_waysTo a_marks i_rowMany a_luckNow a_luckNext i_seedNow i_kept i_keptOrder i_keptMade a_keptRows i_hash e'.1) → va_S A s.heap H locs → lv_has ls 9 [(0, .ref a_this)] → W p l e rX10_letters s m args below meth c H locs 0 0 Q (F0 m 151 ls []))
    {H : Heap} {locs : List Loc} {ls : Array Slot} (hP : va_P D vwCl (uX10_letters cI cJ a_this a_page i_pageMany i_state i_readSort i_readOther i_readTwo i_readMany i_readParents i_readOrder a_readRow i_sort i_many i_isOther i_isTwo a_parents i_orderNow i_aimNow i_stonesRead i_made a_madeRows a_places a_row a_far a_waysTo a_marks i_rowMany a_luckNow a_luckNext i_seedNow i_kept i_keptOrder i_keptMade a_keptRows i_hash g_page) H) (hD : va_D A (uX10_letters cI cJ a_this a_page i_pageMany i_state i_readSort i_readOther i_readTwo i_readMany i_readParents i_readOrder a_readRow i_sort i_many i_isOther i_isTwo a_parents i_orderNow i_aimNow i_stonesRead i_made a_madeRows a_places a_row a_far a_waysTo a_marks i_rowMany a_luckNow a_luckNext i_seedNow i_kept i_keptOrder i_keptMade a_keptRows i_hash g_page)) (hS : va_S A s.heap H locs) (hl : lv_has ls 9 [(0, .ref a_this), (1, .long x1), (3, .int x3), (7, .int x7)]) : W p l e rX10_letters s m args below meth c H locs 0 0 Q (F0 m 108 ls []) := by
  obtain ⟨hx, hb, hml, hown, hts, hK, hN, hA, hlocks⟩ := id C
  unfold fX10_letters_L108 at hf
  refine lv_iload hx hb dX10_letters_108 (lv_at hl 3 rfl) ?_
  refine lv_iload_n hx hb dX10_letters_110 rfl (lv_at hl 2 rfl) ?_
  refine lv_icmp_ge (tgt := 151) hx hb dX10_letters_111 (by decide) (fun hc => ?_) (fun hc => ?_)
  · have hf := if_yes hc hf
    have ho := Option.some.inj hf
    subst ho
    exact hex _ rfl _ _ _ hP hD hS (lv_sub hl [0] rfl)
  · have hf := if_no hc hf
    refine lv_aload_n hx hb dX10_letters_114 rfl (lv_at hl 0 rfl) ?_
    refine va_get (D := D) (ci := 10) (v := .ref a_page) (C := RX10) (T := TX10) (N := 34) hx hb hts jX10_letters_X10 hown hK hP 0 rfl rfl 0 (by decide) (hts _ qX10_letters_7) (fun _ h9 => h9) rfl dX10_letters_115 ?_
    refine lv_aload_n hx hb dX10_letters_118 rfl (lv_at hl 0 rfl) ?_
    refine va_get (D := D) (ci := 10) (v := .int i_pageMany) (C := RX10) (T := TX10) (N := 34) hx hb hts jX10_letters_X10 hown hK hP 0 rfl rfl 1 (by decide) (hts _ qX10_letters_57) (fun _ h9 => h9) rfl dX10_letters_119 ?_
    refine lv_lload_n hx hb dX10_letters_122 rfl (lv_at hl 1 rfl) ?_
    refine lv_bipush (v := 8) hx hb dX10_letters_123 (by decide) ?_
    refine lv_iload hx hb dX10_letters_125 (lv_at hl 3 rfl) ?_
    refine lv_imul hx hb dX10_letters_127 ?_
    refine lv_lushr (v := (l_ushr x1 (8 * x7))) hx hb dX10_letters_128 rfl ?_
    refine lv_ldc2 hx hb hown (hts _ qX10_letters_55) dX10_letters_129 ?_
    refine lv_land hx hb dX10_letters_132 ?_
    refine lv_l2i hx hb dX10_letters_133 rfl ?_
    obtain ⟨hin, hf⟩ := agd_some hf
    refine va_iast hx hb hK hP hD hS 1 0 rfl rfl hin dX10_letters_134 (fun H locs hP hD hS => ?_)
    have hP : va_P D vwCl (uX10_letters cI cJ a_this a_page i_pageMany i_state i_readSort i_readOther i_readTwo i_readMany i_readParents i_readOrder a_readRow i_sort i_many i_isOther i_isTwo a_parents i_orderNow i_aimNow i_stonesRead i_made a_madeRows a_places a_row a_far a_waysTo a_marks i_rowMany a_luckNow a_luckNext i_seedNow i_kept i_keptOrder i_keptMade a_keptRows i_hash (upd g_page i_pageMany.toNatClampNeg (((l_ushr x1 (8 * x7)) &&& 255).toInt32))) H := hP
    have hD : va_D A (uX10_letters cI cJ a_this a_page i_pageMany i_state i_readSort i_readOther i_readTwo i_readMany i_readParents i_readOrder a_readRow i_sort i_many i_isOther i_isTwo a_parents i_orderNow i_aimNow i_stonesRead i_made a_madeRows a_places a_row a_far a_waysTo a_marks i_rowMany a_luckNow a_luckNext i_seedNow i_kept i_keptOrder i_keptMade a_keptRows i_hash (upd g_page i_pageMany.toNatClampNeg (((l_ushr x1 (8 * x7)) &&& 255).toInt32))) := hD
    refine lv_aload_n hx hb dX10_letters_135 rfl (lv_at hl 0 rfl) ?_
    refine lv_dup hx hb dX10_letters_136 rfl ?_
    refine va_get (D := D) (ci := 10) (v := .int i_pageMany) (C := RX10) (T := TX10) (N := 34) hx hb hts jX10_letters_X10 hown hK hP 0 rfl rfl 1 (by decide) (hts _ qX10_letters_57) (fun _ h9 => h9) rfl dX10_letters_137 ?_
    refine lv_iconst (v := 1) hx hb dX10_letters_140 (by decide) ?_
    refine lv_iadd hx hb dX10_letters_141 ?_
    refine va_put (D := D) (ci := 10) (v := .int (i_pageMany + 1)) (ty := tyX10 1) (C := RX10) (T := TX10) (N := 34) hx hb hts jX10_letters_X10 tyX10 tyX10_ok nmX10 hown hK hP hD hS 0 rfl rfl 1 (by decide) (hts _ qX10_letters_57) (fun _ h9 => h9) rfl (tyX10_ok 1 (by decide)) rfl rfl (Nat.le_of_ble_eq_true rfl) dX10_letters_142 (fun H locs hP hD hS => ?_)
    have hP : va_P D vwCl (uX10_letters cI cJ a_this a_page (i_pageMany + 1) i_state i_readSort i_readOther i_readTwo i_readMany i_readParents i_readOrder a_readRow i_sort i_many i_isOther i_isTwo a_parents i_orderNow i_aimNow i_stonesRead i_made a_madeRows a_places a_row a_far a_waysTo a_marks i_rowMany a_luckNow a_luckNext i_seedNow i_kept i_keptOrder i_keptMade a_keptRows i_hash (upd g_page i_pageMany.toNatClampNeg (((l_ushr x1 (8 * x7)) &&& 255).toInt32))) H := hP
    have hD : va_D A (uX10_letters cI cJ a_this a_page (i_pageMany + 1) i_state i_readSort i_readOther i_readTwo i_readMany i_readParents i_readOrder a_readRow i_sort i_many i_isOther i_isTwo a_parents i_orderNow i_aimNow i_stonesRead i_made a_madeRows a_places a_row a_far a_waysTo a_marks i_rowMany a_luckNow a_luckNext i_seedNow i_kept i_keptOrder i_keptMade a_keptRows i_hash (upd g_page i_pageMany.toNatClampNeg (((l_ushr x1 (8 * x7)) &&& 255).toInt32))) := hD
    refine lv_iinc (v := (x7 + 1)) (lv' := [(7, .int (x7 + 1)), (0, .ref a_this), (1, .long x1), (3, .int x3)]) hx hb dX10_letters_145 hl (k := 3) rfl rfl (by decide) rfl (fun ls hl => ?_)
    refine lv_goto (tgt := 108) hx hb dX10_letters_148 (by decide) ?_
    have ho := Option.some.inj hf
    subst ho
    exact hbk _ rfl _ _ _ hP hD hS (lv_sub hl [1, 2, 3, 0] rfl)
set_option maxHeartbeats 4000000 in
set_option maxRecDepth 100000 in
theorem kX10_letters_J151 {p : Program} {l : Launch} {e : Env} {s : State} {m : MethodId} {args : Array Value} {below : List Frame} {meth : Method} {c : Code} {Q : State → Prop} {A : Nat → Prop} {D : va_G} {cI cJ : ClassId} (C : bC cX10_letters 9 RX10 wsX10_letters D cI cJ p s m args c meth A)
    {a_this : Nat} {a_page : Nat} {i_pageMany : Int32} {i_state : Int32} {i_readSort : Int32} {i_readOther : Int32} {i_readTwo : Int32} {i_readMany : Int32} {i_readParents : Int32} {i_readOrder : Int32} {a_readRow : Nat} {i_sort : Int32} {i_many : Int32} {i_isOther : Int32} {i_isTwo : Int32} {a_parents : Nat} {i_orderNow : Int32} {i_aimNow : Int32} {i_stonesRead : Int32} {i_made : Int32} {a_madeRows : Nat} {a_places : Nat} {a_row : Nat} {a_far : Nat} {a_waysTo : Nat} {a_marks : Nat} {i_rowMany : Int32} {a_luckNow : Nat} {a_luckNext : Nat} {i_seedNow : Int32} {i_kept : Int32} {i_keptOrder : Int32} {i_keptMade : Int32} {a_keptRows : Nat} {i_hash : Int64} {g_page : Nat → Int32} {z : Nat} {o : Int32 × (Nat → Int32) × Int32} (hf : fX10_letters_J151 z i_pageMany g_page = some o)
    (hrt : ∀ (H : Heap) (locs : List Loc) (ls : Array Slot) (pc : Nat), va_P D vwCl (uX10_letters cI cJ a_this a_page o.2.2 i_state i_readSort i_readOther i_readTwo i_readMany i_readParents i_readOrder a_readRow i_sort i_many i_isOther i_isTwo a_parents i_orderNow i_aimNow i_stonesRead i_made a_madeRows a_places a_row a_far a_waysTo a_marks i_rowMany a_luckNow a_luckNext i_seedNow i_kept i_keptOrder i_keptMade a_keptRows i_hash o.2.1) H → va_D A (uX10_letters cI cJ a_this a_page o.2.2 i_state i_readSort i_readOther i_readTwo i_readMany i_readParents i_readOrder a_readRow i_sort i_many i_isOther i_isTwo a_parents i_orderNow i_aimNow i_stonesRead i_made a_madeRows a_places a_row a_far a_waysTo a_marks i_rowMany a_luckNow a_luckNext i_seedNow i_kept i_keptOrder i_keptMade a_keptRows i_hash o.2.1) → va_S A s.heap H locs → decode cX10_letters pc = .ok (.ireturn, 1) → W p l e rX10_letters s m args below meth c H locs 0 0 Q (F0 m pc ls [.int o.1]))
    {H : Heap} {locs : List Loc} {ls : Array Slot} (hP : va_P D vwCl (uX10_letters cI cJ a_this a_page i_pageMany i_state i_readSort i_readOther i_readTwo i_readMany i_readParents i_readOrder a_readRow i_sort i_many i_isOther i_isTwo a_parents i_orderNow i_aimNow i_stonesRead i_made a_madeRows a_places a_row a_far a_waysTo a_marks i_rowMany a_luckNow a_luckNext i_seedNow i_kept i_keptOrder i_keptMade a_keptRows i_hash g_page) H) (hD : va_D A (uX10_letters cI cJ a_this a_page i_pageMany i_state i_readSort i_readOther i_readTwo i_readMany i_readParents i_readOrder a_readRow i_sort i_many i_isOther i_isTwo a_parents i_orderNow i_aimNow i_stonesRead i_made a_madeRows a_places a_row a_far a_waysTo a_marks i_rowMany a_luckNow a_luckNext i_seedNow i_kept i_keptOrder i_keptMade a_keptRows i_hash g_page)) (hS : va_S A s.heap H locs) (hl : lv_has ls 9 [(0, .ref a_this)]) : W p l e rX10_letters s m args below meth c H locs 0 0 Q (F0 m 151 ls []) := by
  obtain ⟨hx, hb, hml, hown, hts, hK, hN, hA, hlocks⟩ := id C
  unfold fX10_letters_J151 at hf
  refine lv_aload_n hx hb dX10_letters_151 rfl (lv_at hl 0 rfl) ?_
  refine va_get (D := D) (ci := 10) (v := .int i_pageMany) (C := RX10) (T := TX10) (N := 34) hx hb hts jX10_letters_X10 hown hK hP 0 rfl rfl 1 (by decide) (hts _ qX10_letters_57) (fun _ h9 => h9) rfl dX10_letters_152 ?_
  have ho := Option.some.inj hf
  subst ho
  exact hrt H locs ls _ hP hD hS dX10_letters_155
set_option maxHeartbeats 4000000 in
set_option maxRecDepth 100000 in
theorem kX10_letters_J83 {p : Program} {l : Launch} {e : Env} {s : State} {m : MethodId} {args : Array Value} {below : List Frame} {meth : Method} {c : Code} {Q : State → Prop} {A : Nat → Prop} {D : va_G} {cI cJ : ClassId} (C : bC cX10_letters 9 RX10 wsX10_letters D cI cJ p s m args c meth A)
    {a_this : Nat} {a_page : Nat} {i_pageMany : Int32} {i_state : Int32} {i_readSort : Int32} {i_readOther : Int32} {i_readTwo : Int32} {i_readMany : Int32} {i_readParents : Int32} {i_readOrder : Int32} {a_readRow : Nat} {i_sort : Int32} {i_many : Int32} {i_isOther : Int32} {i_isTwo : Int32} {a_parents : Nat} {i_orderNow : Int32} {i_aimNow : Int32} {i_stonesRead : Int32} {i_made : Int32} {a_madeRows : Nat} {a_places : Nat} {a_row : Nat} {a_far : Nat} {a_waysTo : Nat} {a_marks : Nat} {i_rowMany : Int32} {a_luckNow : Nat} {a_luckNext : Nat} {i_seedNow : Int32} {i_kept : Int32} {i_keptOrder : Int32} {i_keptMade : Int32} {a_keptRows : Nat} {i_hash : Int64} {g_page : Nat → Int32} {z : Nat} {x1 : Int64} {x3 : Int32} {x4 : Int32} {o : Int32 × (Nat → Int32) × Int32} (hf : fX10_letters_J83 z x1 x3 x4 i_pageMany g_page = some o)
    (hrt : ∀ (H : Heap) (locs : List Loc) (ls : Array Slot) (pc : Nat), va_P D vwCl (uX10_letters cI cJ a_this a_page o.2.2 i_state i_readSort i_readOther i_readTwo i_readMany i_readParents i_readOrder a_readRow i_sort i_many i_isOther i_isTwo a_parents i_orderNow i_aimNow i_stonesRead i_made a_madeRows a_places a_row a_far a_waysTo a_marks i_rowMany a_luckNow a_luckNext i_seedNow i_kept i_keptOrder i_keptMade a_keptRows i_hash o.2.1) H → va_D A (uX10_letters cI cJ a_this a_page o.2.2 i_state i_readSort i_readOther i_readTwo i_readMany i_readParents i_readOrder a_readRow i_sort i_many i_isOther i_isTwo a_parents i_orderNow i_aimNow i_stonesRead i_made a_madeRows a_places a_row a_far a_waysTo a_marks i_rowMany a_luckNow a_luckNext i_seedNow i_kept i_keptOrder i_keptMade a_keptRows i_hash o.2.1) → va_S A s.heap H locs → decode cX10_letters pc = .ok (.ireturn, 1) → W p l e rX10_letters s m args below meth c H locs 0 0 Q (F0 m pc ls [.int o.1]))
    {H : Heap} {locs : List Loc} {ls : Array Slot} (hP : va_P D vwCl (uX10_letters cI cJ a_this a_page i_pageMany i_state i_readSort i_readOther i_readTwo i_readMany i_readParents i_readOrder a_readRow i_sort i_many i_isOther i_isTwo a_parents i_orderNow i_aimNow i_stonesRead i_made a_madeRows a_places a_row a_far a_waysTo a_marks i_rowMany a_luckNow a_luckNext i_seedNow i_kept i_keptOrder i_keptMade a_keptRows i_hash g_page) H) (hD : va_D A (uX10_letters cI cJ a_this a_page i_pageMany i_state i_readSort i_readOther i_readTwo i_readMany i_readParents i_readOrder a_readRow i_sort i_many i_isOther i_isTwo a_parents i_orderNow i_aimNow i_stonesRead i_made a_madeRows a_places a_row a_far a_waysTo a_marks i_rowMany a_luckNow a_luckNext i_seedNow i_kept i_keptOrder i_keptMade a_keptRows i_hash g_page)) (hS : va_S A s.heap H locs) (hl : lv_has ls 9 [(0, .ref a_this), (1, .long x1), (3, .int x3), (4, .int x4)]) : W p l e rX10_letters s m args below meth c H locs 0 0 Q (F0 m 83 ls []) := by
  obtain ⟨hx, hb, hml, hown, hts, hK, hN, hA, hlocks⟩ := id C
  unfold fX10_letters_J83 at hf
  refine lv_iload hx hb dX10_letters_83 (lv_at hl 3 rfl) ?_
  refine lv_if_ne (tgt := 91) hx hb dX10_letters_85 (by decide) (fun hc => ?_) (fun hc => ?_)
  · have hf := if_no hc hf
    refine lv_aload_n hx hb dX10_letters_91 rfl (lv_at hl 0 rfl) ?_
    refine va_get (D := D) (ci := 10) (v := .int i_pageMany) (C := RX10) (T := TX10) (N := 34) hx hb hts jX10_letters_X10 hown hK hP 0 rfl rfl 1 (by decide) (hts _ qX10_letters_57) (fun _ h9 => h9) rfl dX10_letters_92 ?_
    refine lv_iload_n hx hb dX10_letters_95 rfl (lv_at hl 2 rfl) ?_
    refine lv_iadd hx hb dX10_letters_96 ?_
    refine lv_bipush (v := 24) hx hb dX10_letters_97 (by decide) ?_
    refine lv_icmp_le (tgt := 105) hx hb dX10_letters_99 (by decide) (fun hc => ?_) (fun hc => ?_)
    · have hf := if_yes hc hf
      refine lv_iconst (v := 0) hx hb dX10_letters_105 (by decide) ?_
      refine lv_istore (lv' := [(7, .int 0), (0, .ref a_this), (1, .long x1), (3, .int x3), (4, .int x4)]) hx hb dX10_letters_106 hl (by decide) rfl (fun ls hl => ?_)
      obtain ⟨ex, hlp, hf⟩ := ob_some hf
      refine lp_ind (P := fun sg => ∀ (H : Heap) (locs : List Loc) (ls : Array Slot), va_P D vwCl (uX10_letters cI cJ a_this a_page sg.2.2 i_state i_readSort i_readOther i_readTwo i_readMany i_readParents i_readOrder a_readRow i_sort i_many i_isOther i_isTwo a_parents i_orderNow i_aimNow i_stonesRead i_made a_madeRows a_places a_row a_far a_waysTo a_marks i_rowMany a_luckNow a_luckNext i_seedNow i_kept i_keptOrder i_keptMade a_keptRows i_hash sg.2.1) H → va_D A (uX10_letters cI cJ a_this a_page sg.2.2 i_state i_readSort i_readOther i_readTwo i_readMany i_readParents i_readOrder a_readRow i_sort i_many i_isOther i_isTwo a_parents i_orderNow i_aimNow i_stonesRead i_made a_madeRows a_places a_row a_far a_waysTo a_marks i_rowMany a_luckNow a_luckNext i_seedNow i_kept i_keptOrder i_keptMade a_keptRows i_hash sg.2.1) → va_S A s.heap H locs → lv_has ls 9 [(0, .ref a_this), (1, .long x1), (3, .int x3), (7, .int sg.1)] → W p l e rX10_letters s m args below meth c H locs 0 0 Q (F0 m 108 ls [])) ?_ z _ hlp H locs ls hP hD hS (lv_sub hl [1, 2, 3, 0] rfl)
      intro sg og hbo hback hexit H locs ls hP hD hS hl
      refine kX10_letters_L108 C hbo (fun s' h => hback s' h) (fun ex h H locs ls hP hD hS hl => ?_) hP hD hS hl
      have he := hexit _ h
      subst he
      exact kX10_letters_J151 C hf hrt hP hD hS (lv_sub hl [0] rfl)
    · have hf := if_no hc hf
      refine lv_bipush (v := (-104)) hx hb dX10_letters_102 (by decide) ?_
      have ho := Option.some.inj hf
      subst ho
      exact hrt H locs ls _ hP hD hS dX10_letters_104
  · have hf := if_yes hc hf
    refine lv_bipush (v := (-102)) hx hb dX10_letters_88 (by decide) ?_
    have ho := Option.some.inj hf
    subst ho
    exact hrt H locs ls _ hP hD hS dX10_letters_90
set_option maxHeartbeats 4000000 in
set_option maxRecDepth 100000 in
theorem kX10_letters_0 {p : Program} {l : Launch} {e : Env} {s : State} {m : MethodId} {args : Array Value} {below : List Frame} {meth : Method} {c : Code} {Q : State → Prop} {A : Nat → Prop} {D : va_G} {cI cJ : ClassId} (C : bC cX10_letters 9 RX10 wsX10_letters D cI cJ p s m args c meth A)
    {a_this : Nat} {a_page : Nat} {i_pageMany : Int32} {i_state : Int32} {i_readSort : Int32} {i_readOther : Int32} {i_readTwo : Int32} {i_readMany : Int32} {i_readParents : Int32} {i_readOrder : Int32} {a_readRow : Nat} {i_sort : Int32} {i_many : Int32} {i_isOther : Int32} {i_isTwo : Int32} {a_parents : Nat} {i_orderNow : Int32} {i_aimNow : Int32} {i_stonesRead : Int32} {i_made : Int32} {a_madeRows : Nat} {a_places : Nat} {a_row : Nat} {a_far : Nat} {a_waysTo : Nat} {a_marks : Nat} {i_rowMany : Int32} {a_luckNow : Nat} {a_luckNext : Nat} {i_seedNow : Int32} {i_kept : Int32} {i_keptOrder : Int32} {i_keptMade : Int32} {a_keptRows : Nat} {i_hash : Int64} {g_page : Nat → Int32} {z : Nat} {x1 : Int64} {o : Int32 × (Nat → Int32) × Int32} (hf : fX10_letters z x1 i_pageMany g_page = some o)
    (hrt : ∀ (H : Heap) (locs : List Loc) (ls : Array Slot) (pc : Nat), va_P D vwCl (uX10_letters cI cJ a_this a_page o.2.2 i_state i_readSort i_readOther i_readTwo i_readMany i_readParents i_readOrder a_readRow i_sort i_many i_isOther i_isTwo a_parents i_orderNow i_aimNow i_stonesRead i_made a_madeRows a_places a_row a_far a_waysTo a_marks i_rowMany a_luckNow a_luckNext i_seedNow i_kept i_keptOrder i_keptMade a_keptRows i_hash o.2.1) H → va_D A (uX10_letters cI cJ a_this a_page o.2.2 i_state i_readSort i_readOther i_readTwo i_readMany i_readParents i_readOrder a_readRow i_sort i_many i_isOther i_isTwo a_parents i_orderNow i_aimNow i_stonesRead i_made a_madeRows a_places a_row a_far a_waysTo a_marks i_rowMany a_luckNow a_luckNext i_seedNow i_kept i_keptOrder i_keptMade a_keptRows i_hash o.2.1) → va_S A s.heap H locs → decode cX10_letters pc = .ok (.ireturn, 1) → W p l e rX10_letters s m args below meth c H locs 0 0 Q (F0 m pc ls [.int o.1]))
    {H : Heap} {locs : List Loc} {ls : Array Slot} (hP : va_P D vwCl (uX10_letters cI cJ a_this a_page i_pageMany i_state i_readSort i_readOther i_readTwo i_readMany i_readParents i_readOrder a_readRow i_sort i_many i_isOther i_isTwo a_parents i_orderNow i_aimNow i_stonesRead i_made a_madeRows a_places a_row a_far a_waysTo a_marks i_rowMany a_luckNow a_luckNext i_seedNow i_kept i_keptOrder i_keptMade a_keptRows i_hash g_page) H) (hD : va_D A (uX10_letters cI cJ a_this a_page i_pageMany i_state i_readSort i_readOther i_readTwo i_readMany i_readParents i_readOrder a_readRow i_sort i_many i_isOther i_isTwo a_parents i_orderNow i_aimNow i_stonesRead i_made a_madeRows a_places a_row a_far a_waysTo a_marks i_rowMany a_luckNow a_luckNext i_seedNow i_kept i_keptOrder i_keptMade a_keptRows i_hash g_page)) (hS : va_S A s.heap H locs) (hl : lv_has ls 9 [(0, .ref a_this), (1, .long x1)]) : W p l e rX10_letters s m args below meth c H locs 0 0 Q (F0 m 0 ls []) := by
  obtain ⟨hx, hb, hml, hown, hts, hK, hN, hA, hlocks⟩ := id C
  unfold fX10_letters at hf
  refine lv_iconst (v := 0) hx hb dX10_letters_0 (by decide) ?_
  refine lv_istore_n (lv' := [(3, .int 0), (0, .ref a_this), (1, .long x1)]) hx hb dX10_letters_1 rfl hl (by decide) rfl (fun ls hl => ?_)
  refine lv_iconst (v := 1) hx hb dX10_letters_2 (by decide) ?_
  refine lv_istore (lv' := [(4, .int 1), (3, .int 0), (0, .ref a_this), (1, .long x1)]) hx hb dX10_letters_3 hl (by decide) rfl (fun ls hl => ?_)
  refine lv_lload_n hx hb dX10_letters_5 rfl (lv_at hl 3 rfl) ?_
  refine lv_lstore (lv' := [(5, .long x1), (4, .int 1), (3, .int 0), (0, .ref a_this), (1, .long x1)]) hx hb dX10_letters_6 hl (by decide) rfl (fun ls hl => ?_)
  refine lv_iconst (v := 0) hx hb dX10_letters_8 (by decide) ?_
  refine lv_istore (lv' := [(7, .int 0), (5, .long x1), (4, .int 1), (3, .int 0), (0, .ref a_this), (1, .long x1)]) hx hb dX10_letters_9 hl (by decide) rfl (fun ls hl => ?_)
  obtain ⟨ex, hlp, hf⟩ := ob_some hf
  refine lp_ind (P := fun sg => ∀ (H : Heap) (locs : List Loc) (ls : Array Slot), va_P D vwCl (uX10_letters cI cJ a_this a_page i_pageMany i_state i_readSort i_readOther i_readTwo i_readMany i_readParents i_readOrder a_readRow i_sort i_many i_isOther i_isTwo a_parents i_orderNow i_aimNow i_stonesRead i_made a_madeRows a_places a_row a_far a_waysTo a_marks i_rowMany a_luckNow a_luckNext i_seedNow i_kept i_keptOrder i_keptMade a_keptRows i_hash g_page) H → va_D A (uX10_letters cI cJ a_this a_page i_pageMany i_state i_readSort i_readOther i_readTwo i_readMany i_readParents i_readOrder a_readRow i_sort i_many i_isOther i_isTwo a_parents i_orderNow i_aimNow i_stonesRead i_made a_madeRows a_places a_row a_far a_waysTo a_marks i_rowMany a_luckNow a_luckNext i_seedNow i_kept i_keptOrder i_keptMade a_keptRows i_hash g_page) → va_S A s.heap H locs → lv_has ls 9 [(0, .ref a_this), (1, .long x1), (3, .int sg.1), (4, .int sg.2.1), (5, .long sg.2.2.1), (7, .int sg.2.2.2)] → W p l e rX10_letters s m args below meth c H locs 0 0 Q (F0 m 11 ls [])) ?_ z _ hlp H locs ls hP hD hS (lv_sub hl [4, 5, 3, 2, 1, 0] rfl)
  intro sg og hbo hback hexit H locs ls hP hD hS hl
  refine kX10_letters_L11 C hbo (fun s' h => hback s' h) (fun ex h H locs ls hP hD hS hl => ?_) hP hD hS hl
  have he := hexit _ h
  subst he
  exact kX10_letters_J83 C hf hrt hP hD hS (lv_sub hl [0, 1, 2, 3] rfl)
set_option maxHeartbeats 4000000 in
set_option maxRecDepth 100000 in
theorem mX10_letters (l : Launch) (D : va_G) (cI cJ : ClassId) (sz : Nat) {a_this : Nat} {a_page : Nat} {i_pageMany : Int32} {i_state : Int32} {i_readSort : Int32} {i_readOther : Int32} {i_readTwo : Int32} {i_readMany : Int32} {i_readParents : Int32} {i_readOrder : Int32} {a_readRow : Nat} {i_sort : Int32} {i_many : Int32} {i_isOther : Int32} {i_isTwo : Int32} {a_parents : Nat} {i_orderNow : Int32} {i_aimNow : Int32} {i_stonesRead : Int32} {i_made : Int32} {a_madeRows : Nat} {a_places : Nat} {a_row : Nat} {a_far : Nat} {a_waysTo : Nat} {a_marks : Nat} {i_rowMany : Int32} {a_luckNow : Nat} {a_luckNext : Nat} {i_seedNow : Int32} {i_kept : Int32} {i_keptOrder : Int32} {i_keptMade : Int32} {a_keptRows : Nat} {i_hash : Int64} {g_page : Nat → Int32} {z : Nat} {x1 : Int64} {o : Int32 × (Nat → Int32) × Int32} (hf : fX10_letters z x1 i_pageMany g_page = some o) : Met l yX10_letters wsX10_letters rX10_letters (va_Pc [.ref a_this, .long x1] (kP D cI cJ (uX10_letters cI cJ a_this a_page i_pageMany i_state i_readSort i_readOther i_readTwo i_readMany i_readParents i_readOrder a_readRow i_sort i_many i_isOther i_isTwo a_parents i_orderNow i_aimNow i_stonesRead i_made a_madeRows a_places a_row a_far a_waysTo a_marks i_rowMany a_luckNow a_luckNext i_seedNow i_kept i_keptOrder i_keptMade a_keptRows i_hash g_page) sz)) (va_Qi (fun r' (_ : Unit) => r' = o.1) (fun _ t => kB D (va_A (uX10_letters cI cJ a_this a_page i_pageMany i_state i_readSort i_readOther i_readTwo i_readMany i_readParents i_readOrder a_readRow i_sort i_many i_isOther i_isTwo a_parents i_orderNow i_aimNow i_stonesRead i_made a_madeRows a_places a_row a_far a_waysTo a_marks i_rowMany a_luckNow a_luckNext i_seedNow i_kept i_keptOrder i_keptMade a_keptRows i_hash g_page) sz) (uX10_letters cI cJ a_this a_page o.2.2 i_state i_readSort i_readOther i_readTwo i_readMany i_readParents i_readOrder a_readRow i_sort i_many i_isOther i_isTwo a_parents i_orderNow i_aimNow i_stonesRead i_made a_madeRows a_places a_row a_far a_waysTo a_marks i_rowMany a_luckNow a_luckNext i_seedNow i_kept i_keptOrder i_keptMade a_keptRows i_hash o.2.1) t) (va_A (uX10_letters cI cJ a_this a_page i_pageMany i_state i_readSort i_readOther i_readTwo i_readMany i_readParents i_readOrder a_readRow i_sort i_many i_isOther i_isTwo a_parents i_orderNow i_aimNow i_stonesRead i_made a_madeRows a_places a_row a_far a_waysTo a_marks i_rowMany a_luckNow a_luckNext i_seedNow i_kept i_keptOrder i_keptMade a_keptRows i_hash g_page) sz)) 0 0 (va_A (uX10_letters cI cJ a_this a_page i_pageMany i_state i_readSort i_readOther i_readTwo i_readMany i_readParents i_readOrder a_readRow i_sort i_many i_isOther i_isTwo a_parents i_orderNow i_aimNow i_stonesRead i_made a_madeRows a_places a_row a_far a_waysTo a_marks i_rowMany a_luckNow a_luckNext i_seedNow i_kept i_keptOrder i_keptMade a_keptRows i_hash g_page) sz) :=
  met_i (by decide) rfl (Nat.le_of_ble_eq_true rfl) (fun p e s m below meth c A Q C hrt ls hl hP hD hS => kX10_letters_0 (A := A) C hf hrt hP hD hS hl)

/-! ===== FrogsOnRingModel.blank()I ===== -/
abbrev uX10_blank (cI cJ : ClassId) (a_this : Nat) (a_page : Nat) (i_pageMany : Int32) (i_state : Int32) (i_readSort : Int32) (i_readOther : Int32) (i_readTwo : Int32) (i_readMany : Int32) (i_readParents : Int32) (i_readOrder : Int32) (a_readRow : Nat) (i_sort : Int32) (i_many : Int32) (i_isOther : Int32) (i_isTwo : Int32) (a_parents : Nat) (i_orderNow : Int32) (i_aimNow : Int32) (i_stonesRead : Int32) (i_made : Int32) (a_madeRows : Nat) (a_places : Nat) (a_row : Nat) (a_far : Nat) (a_waysTo : Nat) (a_marks : Nat) (i_rowMany : Int32) (a_luckNow : Nat) (a_luckNext : Nat) (i_seedNow : Int32) (i_kept : Int32) (i_keptOrder : Int32) (i_keptMade : Int32) (a_keptRows : Nat) (i_hash : Int64) : va_W := [(a_this, .inr (10, [.ref a_page, .int i_pageMany, .int i_state, .int i_readSort, .int i_readOther, .int i_readTwo, .int i_readMany, .int i_readParents, .int i_readOrder, .ref a_readRow, .int i_sort, .int i_many, .int i_isOther, .int i_isTwo, .ref a_parents, .int i_orderNow, .int i_aimNow, .int i_stonesRead, .int i_made, .ref a_madeRows, .ref a_places, .ref a_row, .ref a_far, .ref a_waysTo, .ref a_marks, .int i_rowMany, .ref a_luckNow, .ref a_luckNext, .int i_seedNow, .int i_kept, .int i_keptOrder, .int i_keptMade, .ref a_keptRows, .long i_hash]))]
def rX10_blank : Room := { frames := 0, cells := 0, slots := 0, locals := 0 }
theorem hdX10_blank : yX10_blank.cls = RX10 ∧ yX10_blank.cls ≠ "java/lang/invoke/MethodHandle" ∧ yX10_blank.cls ≠ "java/lang/invoke/VarHandle" ∧ (parseMethodDescriptor yX10_blank.desc).map (fun d => d.parameters.length) = some 0 := by decide +kernel
set_option maxRecDepth 20000 in
theorem jX10_blank_X10 : ∀ w ∈ u_ws RX10 TX10 34, w ∈ wsX10_blank := by decide +kernel
set_option maxRecDepth 20000 in
theorem qX10_blank_57 : Cond.fieldLink RX10 57 "FrogsOnRingModel" "pageMany" "I" ∈ wsX10_blank := by decide +kernel
set_option maxHeartbeats 4000000 in
set_option maxRecDepth 100000 in
theorem kX10_blank_0 {p : Program} {l : Launch} {e : Env} {s : State} {m : MethodId} {args : Array Value} {below : List Frame} {meth : Method} {c : Code} {Q : State → Prop} {A : Nat → Prop} {D : va_G} {cI cJ : ClassId} (C : bC cX10_blank 2 RX10 wsX10_blank D cI cJ p s m args c meth A)
    {a_this : Nat} {a_page : Nat} {i_pageMany : Int32} {i_state : Int32} {i_readSort : Int32} {i_readOther : Int32} {i_readTwo : Int32} {i_readMany : Int32} {i_readParents : Int32} {i_readOrder : Int32} {a_readRow : Nat} {i_sort : Int32} {i_many : Int32} {i_isOther : Int32} {i_isTwo : Int32} {a_parents : Nat} {i_orderNow : Int32} {i_aimNow : Int32} {i_stonesRead : Int32} {i_made : Int32} {a_madeRows : Nat} {a_places : Nat} {a_row : Nat} {a_far : Nat} {a_waysTo : Nat} {a_marks : Nat} {i_rowMany : Int32} {a_luckNow : Nat} {a_luckNext : Nat} {i_seedNow : Int32} {i_kept : Int32} {i_keptOrder : Int32} {i_keptMade : Int32} {a_keptRows : Nat} {i_hash : Int64} {o : Int32 × Int32} (hf : fX10_blank i_pageMany = o)
    (hrt : ∀ (H : Heap) (locs : List Loc) (ls : Array Slot) (pc : Nat), va_P D vwCl (uX10_blank cI cJ a_this a_page o.2 i_state i_readSort i_readOther i_readTwo i_readMany i_readParents i_readOrder a_readRow i_sort i_many i_isOther i_isTwo a_parents i_orderNow i_aimNow i_stonesRead i_made a_madeRows a_places a_row a_far a_waysTo a_marks i_rowMany a_luckNow a_luckNext i_seedNow i_kept i_keptOrder i_keptMade a_keptRows i_hash) H → va_D A (uX10_blank cI cJ a_this a_page o.2 i_state i_readSort i_readOther i_readTwo i_readMany i_readParents i_readOrder a_readRow i_sort i_many i_isOther i_isTwo a_parents i_orderNow i_aimNow i_stonesRead i_made a_madeRows a_places a_row a_far a_waysTo a_marks i_rowMany a_luckNow a_luckNext i_seedNow i_kept i_keptOrder i_keptMade a_keptRows i_hash) → va_S A s.heap H locs → decode cX10_blank pc = .ok (.ireturn, 1) → W p l e rX10_blank s m args below meth c H locs 0 0 Q (F0 m pc ls [.int o.1]))
    {H : Heap} {locs : List Loc} {ls : Array Slot} (hP : va_P D vwCl (uX10_blank cI cJ a_this a_page i_pageMany i_state i_readSort i_readOther i_readTwo i_readMany i_readParents i_readOrder a_readRow i_sort i_many i_isOther i_isTwo a_parents i_orderNow i_aimNow i_stonesRead i_made a_madeRows a_places a_row a_far a_waysTo a_marks i_rowMany a_luckNow a_luckNext i_seedNow i_kept i_keptOrder i_keptMade a_keptRows i_hash) H) (hD : va_D A (uX10_blank cI cJ a_this a_page i_pageMany i_state i_readSort i_readOther i_readTwo i_readMany i_readParents i_readOrder a_readRow i_sort i_many i_isOther i_isTwo a_parents i_orderNow i_aimNow i_stonesRead i_made a_madeRows a_places a_row a_far a_waysTo a_marks i_rowMany a_luckNow a_luckNext i_seedNow i_kept i_keptOrder i_keptMade a_keptRows i_hash)) (hS : va_S A s.heap H locs) (hl : lv_has ls 2 [(0, .ref a_this)]) : W p l e rX10_blank s m args below meth c H locs 0 0 Q (F0 m 0 ls []) := by
  obtain ⟨hx, hb, hml, hown, hts, hK, hN, hA, hlocks⟩ := id C
  unfold fX10_blank at hf
  refine lv_aload_n hx hb dX10_blank_0 rfl (lv_at hl 0 rfl) ?_
  refine va_get (D := D) (ci := 10) (v := .int i_pageMany) (C := RX10) (T := TX10) (N := 34) hx hb hts jX10_blank_X10 hown hK hP 0 rfl rfl 1 (by decide) (hts _ qX10_blank_57) (fun _ h9 => h9) rfl dX10_blank_1 ?_
  refine lv_istore_n (lv' := [(1, .int i_pageMany), (0, .ref a_this)]) hx hb dX10_blank_4 rfl hl (by decide) rfl (fun ls hl => ?_)
  refine lv_aload_n hx hb dX10_blank_5 rfl (lv_at hl 1 rfl) ?_
  refine lv_iconst (v := 0) hx hb dX10_blank_6 (by decide) ?_
  refine va_put (D := D) (ci := 10) (v := .int 0) (ty := tyX10 1) (C := RX10) (T := TX10) (N := 34) hx hb hts jX10_blank_X10 tyX10 tyX10_ok nmX10 hown hK hP hD hS 0 rfl rfl 1 (by decide) (hts _ qX10_blank_57) (fun _ h9 => h9) rfl (tyX10_ok 1 (by decide)) rfl rfl (Nat.le_of_ble_eq_true rfl) dX10_blank_7 (fun H locs hP hD hS => ?_)
  have hP : va_P D vwCl (uX10_blank cI cJ a_this a_page 0 i_state i_readSort i_readOther i_readTwo i_readMany i_readParents i_readOrder a_readRow i_sort i_many i_isOther i_isTwo a_parents i_orderNow i_aimNow i_stonesRead i_made a_madeRows a_places a_row a_far a_waysTo a_marks i_rowMany a_luckNow a_luckNext i_seedNow i_kept i_keptOrder i_keptMade a_keptRows i_hash) H := hP
  have hD : va_D A (uX10_blank cI cJ a_this a_page 0 i_state i_readSort i_readOther i_readTwo i_readMany i_readParents i_readOrder a_readRow i_sort i_many i_isOther i_isTwo a_parents i_orderNow i_aimNow i_stonesRead i_made a_madeRows a_places a_row a_far a_waysTo a_marks i_rowMany a_luckNow a_luckNext i_seedNow i_kept i_keptOrder i_keptMade a_keptRows i_hash) := hD
  refine lv_iload_n hx hb dX10_blank_10 rfl (lv_at hl 0 rfl) ?_
  subst hf
  exact hrt H locs ls _ hP hD hS dX10_blank_11
set_option maxHeartbeats 4000000 in
set_option maxRecDepth 100000 in
theorem mX10_blank (l : Launch) (D : va_G) (cI cJ : ClassId) (sz : Nat) {a_this : Nat} {a_page : Nat} {i_pageMany : Int32} {i_state : Int32} {i_readSort : Int32} {i_readOther : Int32} {i_readTwo : Int32} {i_readMany : Int32} {i_readParents : Int32} {i_readOrder : Int32} {a_readRow : Nat} {i_sort : Int32} {i_many : Int32} {i_isOther : Int32} {i_isTwo : Int32} {a_parents : Nat} {i_orderNow : Int32} {i_aimNow : Int32} {i_stonesRead : Int32} {i_made : Int32} {a_madeRows : Nat} {a_places : Nat} {a_row : Nat} {a_far : Nat} {a_waysTo : Nat} {a_marks : Nat} {i_rowMany : Int32} {a_luckNow : Nat} {a_luckNext : Nat} {i_seedNow : Int32} {i_kept : Int32} {i_keptOrder : Int32} {i_keptMade : Int32} {a_keptRows : Nat} {i_hash : Int64} : Met l yX10_blank wsX10_blank rX10_blank (va_Pc [.ref a_this] (kP D cI cJ (uX10_blank cI cJ a_this a_page i_pageMany i_state i_readSort i_readOther i_readTwo i_readMany i_readParents i_readOrder a_readRow i_sort i_many i_isOther i_isTwo a_parents i_orderNow i_aimNow i_stonesRead i_made a_madeRows a_places a_row a_far a_waysTo a_marks i_rowMany a_luckNow a_luckNext i_seedNow i_kept i_keptOrder i_keptMade a_keptRows i_hash) sz)) (va_Qi (fun r' (_ : Unit) => r' = (fX10_blank i_pageMany).1) (fun _ t => kB D (va_A (uX10_blank cI cJ a_this a_page i_pageMany i_state i_readSort i_readOther i_readTwo i_readMany i_readParents i_readOrder a_readRow i_sort i_many i_isOther i_isTwo a_parents i_orderNow i_aimNow i_stonesRead i_made a_madeRows a_places a_row a_far a_waysTo a_marks i_rowMany a_luckNow a_luckNext i_seedNow i_kept i_keptOrder i_keptMade a_keptRows i_hash) sz) (uX10_blank cI cJ a_this a_page ((fX10_blank i_pageMany).2) i_state i_readSort i_readOther i_readTwo i_readMany i_readParents i_readOrder a_readRow i_sort i_many i_isOther i_isTwo a_parents i_orderNow i_aimNow i_stonesRead i_made a_madeRows a_places a_row a_far a_waysTo a_marks i_rowMany a_luckNow a_luckNext i_seedNow i_kept i_keptOrder i_keptMade a_keptRows i_hash) t) (va_A (uX10_blank cI cJ a_this a_page i_pageMany i_state i_readSort i_readOther i_readTwo i_readMany i_readParents i_readOrder a_readRow i_sort i_many i_isOther i_isTwo a_parents i_orderNow i_aimNow i_stonesRead i_made a_madeRows a_places a_row a_far a_waysTo a_marks i_rowMany a_luckNow a_luckNext i_seedNow i_kept i_keptOrder i_keptMade a_keptRows i_hash) sz)) 0 0 (va_A (uX10_blank cI cJ a_this a_page i_pageMany i_state i_readSort i_readOther i_readTwo i_readMany i_readParents i_readOrder a_readRow i_sort i_many i_isOther i_isTwo a_parents i_orderNow i_aimNow i_stonesRead i_made a_madeRows a_places a_row a_far a_waysTo a_marks i_rowMany a_luckNow a_luckNext i_seedNow i_kept i_keptOrder i_keptMade a_keptRows i_hash) sz) :=
  met_i (by decide) rfl (Nat.le_of_ble_eq_true rfl) (fun p e s m below meth c A Q C hrt ls hl hP hD hS => kX10_blank_0 (A := A) C rfl hrt hP hD hS hl)

/-! ===== FrogsOnRingModel.kindOf(I)I ===== -/
abbrev uX10_kindOf (cI cJ : ClassId) : va_W := []
def rX10_kindOf : Room := { frames := 0, cells := 0, slots := 0, locals := 0 }
theorem hdX10_kindOf : yX10_kindOf.cls = RX10 ∧ yX10_kindOf.cls ≠ "java/lang/invoke/MethodHandle" ∧ yX10_kindOf.cls ≠ "java/lang/invoke/VarHandle" ∧ (parseMethodDescriptor yX10_kindOf.desc).map (fun d => d.parameters.length) = some 1 := by decide +kernel
set_option maxHeartbeats 4000000 in
set_option maxRecDepth 100000 in
theorem kX10_kindOf_0 {p : Program} {l : Launch} {e : Env} {s : State} {m : MethodId} {args : Array Value} {below : List Frame} {meth : Method} {c : Code} {Q : State → Prop} {A : Nat → Prop} {D : va_G} {cI cJ : ClassId} (C : bC cX10_kindOf 1 RX10 wsX10_kindOf D cI cJ p s m args c meth A)
    {x0 : Int32} {o : Int32} (hf : fX10_kindOf x0 = o)
    (hrt : ∀ (H : Heap) (locs : List Loc) (ls : Array Slot) (pc : Nat), va_P D vwCl (uX10_kindOf cI cJ) H → va_D A (uX10_kindOf cI cJ) → va_S A s.heap H locs → decode cX10_kindOf pc = .ok (.ireturn, 1) → W p l e rX10_kindOf s m args below meth c H locs 0 0 Q (F0 m pc ls [.int o]))
    {H : Heap} {locs : List Loc} {ls : Array Slot} (hP : va_P D vwCl (uX10_kindOf cI cJ) H) (hD : va_D A (uX10_kindOf cI cJ)) (hS : va_S A s.heap H locs) (hl : lv_has ls 1 [(0, .int x0)]) : W p l e rX10_kindOf s m args below meth c H locs 0 0 Q (F0 m 0 ls []) := by
  obtain ⟨hx, hb, hml, hown, hts, hK, hN, hA, hlocks⟩ := id C
  unfold fX10_kindOf at hf
  refine lv_iload_n hx hb dX10_kindOf_0 rfl (lv_at hl 0 rfl) ?_
  refine lv_bipush (v := 46) hx hb dX10_kindOf_1 (by decide) ?_
  refine lv_icmp_ne (tgt := 10) hx hb dX10_kindOf_3 (by decide) (fun hc => ?_) (fun hc => ?_)
  · have hf := if_no hc hf
    refine lv_iload_n hx hb dX10_kindOf_10 rfl (lv_at hl 0 rfl) ?_
    refine lv_bipush (v := 103) hx hb dX10_kindOf_11 (by decide) ?_
    refine lv_icmp_ne (tgt := 20) hx hb dX10_kindOf_13 (by decide) (fun hc => ?_) (fun hc => ?_)
    · have hf := if_no hc hf
      refine lv_iload_n hx hb dX10_kindOf_20 rfl (lv_at hl 0 rfl) ?_
      refine lv_bipush (v := 98) hx hb dX10_kindOf_21 (by decide) ?_
      refine lv_icmp_ne (tgt := 30) hx hb dX10_kindOf_23 (by decide) (fun hc => ?_) (fun hc => ?_)
      · have hf := if_no hc hf
        refine lv_iload_n hx hb dX10_kindOf_30 rfl (lv_at hl 0 rfl) ?_
        refine lv_bipush (v := 121) hx hb dX10_kindOf_31 (by decide) ?_
        refine lv_icmp_ne (tgt := 40) hx hb dX10_kindOf_33 (by decide) (fun hc => ?_) (fun hc => ?_)
        · have hf := if_no hc hf
          refine lv_iconst (v := (-1)) hx hb dX10_kindOf_40 (by decide) ?_
          subst hf
          exact hrt H locs ls _ hP hD hS dX10_kindOf_41
        · have hf := if_yes hc hf
          refine lv_iconst (v := 3) hx hb dX10_kindOf_36 (by decide) ?_
          refine lv_goto (tgt := 41) hx hb dX10_kindOf_37 (by decide) ?_
          subst hf
          exact hrt H locs ls _ hP hD hS dX10_kindOf_41
      · have hf := if_yes hc hf
        refine lv_iconst (v := 2) hx hb dX10_kindOf_26 (by decide) ?_
        refine lv_goto (tgt := 41) hx hb dX10_kindOf_27 (by decide) ?_
        subst hf
        exact hrt H locs ls _ hP hD hS dX10_kindOf_41
    · have hf := if_yes hc hf
      refine lv_iconst (v := 1) hx hb dX10_kindOf_16 (by decide) ?_
      refine lv_goto (tgt := 41) hx hb dX10_kindOf_17 (by decide) ?_
      subst hf
      exact hrt H locs ls _ hP hD hS dX10_kindOf_41
  · have hf := if_yes hc hf
    refine lv_iconst (v := 0) hx hb dX10_kindOf_6 (by decide) ?_
    refine lv_goto (tgt := 41) hx hb dX10_kindOf_7 (by decide) ?_
    subst hf
    exact hrt H locs ls _ hP hD hS dX10_kindOf_41
set_option maxHeartbeats 4000000 in
set_option maxRecDepth 100000 in
theorem mX10_kindOf (l : Launch) (D : va_G) (cI cJ : ClassId) (sz : Nat) {x0 : Int32} : Met l yX10_kindOf wsX10_kindOf rX10_kindOf (va_Pc [.int x0] (kP D cI cJ (uX10_kindOf cI cJ) sz)) (va_Qi (fun r' (_ : Unit) => r' = (fX10_kindOf x0)) (fun _ t => kB D (va_A (uX10_kindOf cI cJ) sz) (uX10_kindOf cI cJ) t) (va_A (uX10_kindOf cI cJ) sz)) 0 0 (va_A (uX10_kindOf cI cJ) sz) :=
  met_i (by decide) rfl (Nat.le_of_ble_eq_true rfl) (fun p e s m below meth c A Q C hrt ls hl hP hD hS => kX10_kindOf_0 (A := A) C rfl hrt hP hD hS hl)

/-! ===== FrogsOnRingModel.goSort(I)Z ===== -/
abbrev uX10_goSort (cI cJ : ClassId) (a_this : Nat) (a_page : Nat) (i_pageMany : Int32) (i_state : Int32) (i_readSort : Int32) (i_readOther : Int32) (i_readTwo : Int32) (i_readMany : Int32) (i_readParents : Int32) (i_readOrder : Int32) (a_readRow : Nat) (i_sort : Int32) (i_many : Int32) (i_isOther : Int32) (i_isTwo : Int32) (a_parents : Nat) (i_orderNow : Int32) (i_aimNow : Int32) (i_stonesRead : Int32) (i_made : Int32) (a_madeRows : Nat) (a_places : Nat) (a_row : Nat) (a_far : Nat) (a_waysTo : Nat) (a_marks : Nat) (i_rowMany : Int32) (a_luckNow : Nat) (a_luckNext : Nat) (i_seedNow : Int32) (i_kept : Int32) (i_keptOrder : Int32) (i_keptMade : Int32) (a_keptRows : Nat) (i_hash : Int64) : va_W := [(a_this, .inr (10, [.ref a_page, .int i_pageMany, .int i_state, .int i_readSort, .int i_readOther, .int i_readTwo, .int i_readMany, .int i_readParents, .int i_readOrder, .ref a_readRow, .int i_sort, .int i_many, .int i_isOther, .int i_isTwo, .ref a_parents, .int i_orderNow, .int i_aimNow, .int i_stonesRead, .int i_made, .ref a_madeRows, .ref a_places, .ref a_row, .ref a_far, .ref a_waysTo, .ref a_marks, .int i_rowMany, .ref a_luckNow, .ref a_luckNext, .int i_seedNow, .int i_kept, .int i_keptOrder, .int i_keptMade, .ref a_keptRows, .long i_hash]))]
def rX10_goSort : Room := { frames := 0, cells := 0, slots := 0, locals := 0 }
theorem hdX10_goSort : yX10_goSort.cls = RX10 ∧ yX10_goSort.cls ≠ "java/lang/invoke/MethodHandle" ∧ yX10_goSort.cls ≠ "java/lang/invoke/VarHandle" ∧ (parseMethodDescriptor yX10_goSort.desc).map (fun d => d.parameters.length) = some 1 := by decide +kernel
set_option maxRecDepth 20000 in
theorem jX10_goSort_X10 : ∀ w ∈ u_ws RX10 TX10 34, w ∈ wsX10_goSort := by decide +kernel
set_option maxRecDepth 20000 in
theorem qX10_goSort_60 : Cond.fieldLink RX10 60 "FrogsOnRingModel" "readSort" "I" ∈ wsX10_goSort := by decide +kernel
set_option maxRecDepth 20000 in
theorem qX10_goSort_63 : Cond.fieldLink RX10 63 "FrogsOnRingModel" "readOther" "I" ∈ wsX10_goSort := by decide +kernel
set_option maxRecDepth 20000 in
theorem qX10_goSort_66 : Cond.fieldLink RX10 66 "FrogsOnRingModel" "readTwo" "I" ∈ wsX10_goSort := by decide +kernel
set_option maxRecDepth 20000 in
theorem qX10_goSort_69 : Cond.fieldLink RX10 69 "FrogsOnRingModel" "readMany" "I" ∈ wsX10_goSort := by decide +kernel
set_option maxRecDepth 20000 in
theorem qX10_goSort_72 : Cond.fieldLink RX10 72 "FrogsOnRingModel" "readParents" "I" ∈ wsX10_goSort := by decide +kernel
set_option maxRecDepth 20000 in
theorem qX10_goSort_75 : Cond.fieldLink RX10 75 "FrogsOnRingModel" "readOrder" "I" ∈ wsX10_goSort := by decide +kernel
set_option maxRecDepth 20000 in
theorem qX10_goSort_78 : Cond.fieldLink RX10 78 "FrogsOnRingModel" "state" "I" ∈ wsX10_goSort := by decide +kernel
set_option maxHeartbeats 4000000 in
set_option maxRecDepth 100000 in
theorem kX10_goSort_0 {p : Program} {l : Launch} {e : Env} {s : State} {m : MethodId} {args : Array Value} {below : List Frame} {meth : Method} {c : Code} {Q : State → Prop} {A : Nat → Prop} {D : va_G} {cI cJ : ClassId} (C : bC cX10_goSort 2 RX10 wsX10_goSort D cI cJ p s m args c meth A)
    {a_this : Nat} {a_page : Nat} {i_pageMany : Int32} {i_state : Int32} {i_readSort : Int32} {i_readOther : Int32} {i_readTwo : Int32} {i_readMany : Int32} {i_readParents : Int32} {i_readOrder : Int32} {a_readRow : Nat} {i_sort : Int32} {i_many : Int32} {i_isOther : Int32} {i_isTwo : Int32} {a_parents : Nat} {i_orderNow : Int32} {i_aimNow : Int32} {i_stonesRead : Int32} {i_made : Int32} {a_madeRows : Nat} {a_places : Nat} {a_row : Nat} {a_far : Nat} {a_waysTo : Nat} {a_marks : Nat} {i_rowMany : Int32} {a_luckNow : Nat} {a_luckNext : Nat} {i_seedNow : Int32} {i_kept : Int32} {i_keptOrder : Int32} {i_keptMade : Int32} {a_keptRows : Nat} {i_hash : Int64} {x1 : Int32} {o : Int32 × Int32 × Int32 × Int32 × Int32 × Int32 × Int32 × Int32} (hf : fX10_goSort x1 i_readSort i_readOther i_readTwo i_readMany i_readParents i_readOrder i_state = o)
    (hrt : ∀ (H : Heap) (locs : List Loc) (ls : Array Slot) (pc : Nat), (o.1 = 0 ∨ o.1 = 1) → va_P D vwCl (uX10_goSort cI cJ a_this a_page i_pageMany o.2.2.2.2.2.2.2 o.2.1 o.2.2.1 o.2.2.2.1 o.2.2.2.2.1 o.2.2.2.2.2.1 o.2.2.2.2.2.2.1 a_readRow i_sort i_many i_isOther i_isTwo a_parents i_orderNow i_aimNow i_stonesRead i_made a_madeRows a_places a_row a_far a_waysTo a_marks i_rowMany a_luckNow a_luckNext i_seedNow i_kept i_keptOrder i_keptMade a_keptRows i_hash) H → va_D A (uX10_goSort cI cJ a_this a_page i_pageMany o.2.2.2.2.2.2.2 o.2.1 o.2.2.1 o.2.2.2.1 o.2.2.2.2.1 o.2.2.2.2.2.1 o.2.2.2.2.2.2.1 a_readRow i_sort i_many i_isOther i_isTwo a_parents i_orderNow i_aimNow i_stonesRead i_made a_madeRows a_places a_row a_far a_waysTo a_marks i_rowMany a_luckNow a_luckNext i_seedNow i_kept i_keptOrder i_keptMade a_keptRows i_hash) → va_S A s.heap H locs → decode cX10_goSort pc = .ok (.ireturn, 1) → W p l e rX10_goSort s m args below meth c H locs 0 0 Q (F0 m pc ls [.int o.1]))
    {H : Heap} {locs : List Loc} {ls : Array Slot} (hP : va_P D vwCl (uX10_goSort cI cJ a_this a_page i_pageMany i_state i_readSort i_readOther i_readTwo i_readMany i_readParents i_readOrder a_readRow i_sort i_many i_isOther i_isTwo a_parents i_orderNow i_aimNow i_stonesRead i_made a_madeRows a_places a_row a_far a_waysTo a_marks i_rowMany a_luckNow a_luckNext i_seedNow i_kept i_keptOrder i_keptMade a_keptRows i_hash) H) (hD : va_D A (uX10_goSort cI cJ a_this a_page i_pageMany i_state i_readSort i_readOther i_readTwo i_readMany i_readParents i_readOrder a_readRow i_sort i_many i_isOther i_isTwo a_parents i_orderNow i_aimNow i_stonesRead i_made a_madeRows a_places a_row a_far a_waysTo a_marks i_rowMany a_luckNow a_luckNext i_seedNow i_kept i_keptOrder i_keptMade a_keptRows i_hash)) (hS : va_S A s.heap H locs) (hl : lv_has ls 2 [(0, .ref a_this), (1, .int x1)]) : W p l e rX10_goSort s m args below meth c H locs 0 0 Q (F0 m 0 ls []) := by
  obtain ⟨hx, hb, hml, hown, hts, hK, hN, hA, hlocks⟩ := id C
  unfold fX10_goSort at hf
  refine lv_aload_n hx hb dX10_goSort_0 rfl (lv_at hl 0 rfl) ?_
  refine lv_iload_n hx hb dX10_goSort_1 rfl (lv_at hl 1 rfl) ?_
  refine va_put (D := D) (ci := 10) (v := .int x1) (ty := tyX10 3) (C := RX10) (T := TX10) (N := 34) hx hb hts jX10_goSort_X10 tyX10 tyX10_ok nmX10 hown hK hP hD hS 0 rfl rfl 3 (by decide) (hts _ qX10_goSort_60) (fun _ h9 => h9) rfl (tyX10_ok 3 (by decide)) rfl rfl (Nat.le_of_ble_eq_true rfl) dX10_goSort_2 (fun H locs hP hD hS => ?_)
  have hP : va_P D vwCl (uX10_goSort cI cJ a_this a_page i_pageMany i_state x1 i_readOther i_readTwo i_readMany i_readParents i_readOrder a_readRow i_sort i_many i_isOther i_isTwo a_parents i_orderNow i_aimNow i_stonesRead i_made a_madeRows a_places a_row a_far a_waysTo a_marks i_rowMany a_luckNow a_luckNext i_seedNow i_kept i_keptOrder i_keptMade a_keptRows i_hash) H := hP
  have hD : va_D A (uX10_goSort cI cJ a_this a_page i_pageMany i_state x1 i_readOther i_readTwo i_readMany i_readParents i_readOrder a_readRow i_sort i_many i_isOther i_isTwo a_parents i_orderNow i_aimNow i_stonesRead i_made a_madeRows a_places a_row a_far a_waysTo a_marks i_rowMany a_luckNow a_luckNext i_seedNow i_kept i_keptOrder i_keptMade a_keptRows i_hash) := hD
  refine lv_aload_n hx hb dX10_goSort_5 rfl (lv_at hl 0 rfl) ?_
  refine lv_iconst (v := 0) hx hb dX10_goSort_6 (by decide) ?_
  refine va_put (D := D) (ci := 10) (v := .int 0) (ty := tyX10 4) (C := RX10) (T := TX10) (N := 34) hx hb hts jX10_goSort_X10 tyX10 tyX10_ok nmX10 hown hK hP hD hS 0 rfl rfl 4 (by decide) (hts _ qX10_goSort_63) (fun _ h9 => h9) rfl (tyX10_ok 4 (by decide)) rfl rfl (Nat.le_of_ble_eq_true rfl) dX10_goSort_7 (fun H locs hP hD hS => ?_)
  have hP : va_P D vwCl (uX10_goSort cI cJ a_this a_page i_pageMany i_state x1 0 i_readTwo i_readMany i_readParents i_readOrder a_readRow i_sort i_many i_isOther i_isTwo a_parents i_orderNow i_aimNow i_stonesRead i_made a_madeRows a_places a_row a_far a_waysTo a_marks i_rowMany a_luckNow a_luckNext i_seedNow i_kept i_keptOrder i_keptMade a_keptRows i_hash) H := hP
  have hD : va_D A (uX10_goSort cI cJ a_this a_page i_pageMany i_state x1 0 i_readTwo i_readMany i_readParents i_readOrder a_readRow i_sort i_many i_isOther i_isTwo a_parents i_orderNow i_aimNow i_stonesRead i_made a_madeRows a_places a_row a_far a_waysTo a_marks i_rowMany a_luckNow a_luckNext i_seedNow i_kept i_keptOrder i_keptMade a_keptRows i_hash) := hD
  refine lv_aload_n hx hb dX10_goSort_10 rfl (lv_at hl 0 rfl) ?_
  refine lv_iconst (v := 0) hx hb dX10_goSort_11 (by decide) ?_
  refine va_put (D := D) (ci := 10) (v := .int 0) (ty := tyX10 5) (C := RX10) (T := TX10) (N := 34) hx hb hts jX10_goSort_X10 tyX10 tyX10_ok nmX10 hown hK hP hD hS 0 rfl rfl 5 (by decide) (hts _ qX10_goSort_66) (fun _ h9 => h9) rfl (tyX10_ok 5 (by decide)) rfl rfl (Nat.le_of_ble_eq_true rfl) dX10_goSort_12 (fun H locs hP hD hS => ?_)
  have hP : va_P D vwCl (uX10_goSort cI cJ a_this a_page i_pageMany i_state x1 0 0 i_readMany i_readParents i_readOrder a_readRow i_sort i_many i_isOther i_isTwo a_parents i_orderNow i_aimNow i_stonesRead i_made a_madeRows a_places a_row a_far a_waysTo a_marks i_rowMany a_luckNow a_luckNext i_seedNow i_kept i_keptOrder i_keptMade a_keptRows i_hash) H := hP
  have hD : va_D A (uX10_goSort cI cJ a_this a_page i_pageMany i_state x1 0 0 i_readMany i_readParents i_readOrder a_readRow i_sort i_many i_isOther i_isTwo a_parents i_orderNow i_aimNow i_stonesRead i_made a_madeRows a_places a_row a_far a_waysTo a_marks i_rowMany a_luckNow a_luckNext i_seedNow i_kept i_keptOrder i_keptMade a_keptRows i_hash) := hD
  refine lv_aload_n hx hb dX10_goSort_15 rfl (lv_at hl 0 rfl) ?_
  refine lv_iconst (v := 0) hx hb dX10_goSort_16 (by decide) ?_
  refine va_put (D := D) (ci := 10) (v := .int 0) (ty := tyX10 6) (C := RX10) (T := TX10) (N := 34) hx hb hts jX10_goSort_X10 tyX10 tyX10_ok nmX10 hown hK hP hD hS 0 rfl rfl 6 (by decide) (hts _ qX10_goSort_69) (fun _ h9 => h9) rfl (tyX10_ok 6 (by decide)) rfl rfl (Nat.le_of_ble_eq_true rfl) dX10_goSort_17 (fun H locs hP hD hS => ?_)
  have hP : va_P D vwCl (uX10_goSort cI cJ a_this a_page i_pageMany i_state x1 0 0 0 i_readParents i_readOrder a_readRow i_sort i_many i_isOther i_isTwo a_parents i_orderNow i_aimNow i_stonesRead i_made a_madeRows a_places a_row a_far a_waysTo a_marks i_rowMany a_luckNow a_luckNext i_seedNow i_kept i_keptOrder i_keptMade a_keptRows i_hash) H := hP
  have hD : va_D A (uX10_goSort cI cJ a_this a_page i_pageMany i_state x1 0 0 0 i_readParents i_readOrder a_readRow i_sort i_many i_isOther i_isTwo a_parents i_orderNow i_aimNow i_stonesRead i_made a_madeRows a_places a_row a_far a_waysTo a_marks i_rowMany a_luckNow a_luckNext i_seedNow i_kept i_keptOrder i_keptMade a_keptRows i_hash) := hD
  refine lv_aload_n hx hb dX10_goSort_20 rfl (lv_at hl 0 rfl) ?_
  refine lv_iconst (v := 1) hx hb dX10_goSort_21 (by decide) ?_
  refine va_put (D := D) (ci := 10) (v := .int 1) (ty := tyX10 7) (C := RX10) (T := TX10) (N := 34) hx hb hts jX10_goSort_X10 tyX10 tyX10_ok nmX10 hown hK hP hD hS 0 rfl rfl 7 (by decide) (hts _ qX10_goSort_72) (fun _ h9 => h9) rfl (tyX10_ok 7 (by decide)) rfl rfl (Nat.le_of_ble_eq_true rfl) dX10_goSort_22 (fun H locs hP hD hS => ?_)
  have hP : va_P D vwCl (uX10_goSort cI cJ a_this a_page i_pageMany i_state x1 0 0 0 1 i_readOrder a_readRow i_sort i_many i_isOther i_isTwo a_parents i_orderNow i_aimNow i_stonesRead i_made a_madeRows a_places a_row a_far a_waysTo a_marks i_rowMany a_luckNow a_luckNext i_seedNow i_kept i_keptOrder i_keptMade a_keptRows i_hash) H := hP
  have hD : va_D A (uX10_goSort cI cJ a_this a_page i_pageMany i_state x1 0 0 0 1 i_readOrder a_readRow i_sort i_many i_isOther i_isTwo a_parents i_orderNow i_aimNow i_stonesRead i_made a_madeRows a_places a_row a_far a_waysTo a_marks i_rowMany a_luckNow a_luckNext i_seedNow i_kept i_keptOrder i_keptMade a_keptRows i_hash) := hD
  refine lv_aload_n hx hb dX10_goSort_25 rfl (lv_at hl 0 rfl) ?_
  refine lv_iconst (v := 0) hx hb dX10_goSort_26 (by decide) ?_
  refine va_put (D := D) (ci := 10) (v := .int 0) (ty := tyX10 8) (C := RX10) (T := TX10) (N := 34) hx hb hts jX10_goSort_X10 tyX10 tyX10_ok nmX10 hown hK hP hD hS 0 rfl rfl 8 (by decide) (hts _ qX10_goSort_75) (fun _ h9 => h9) rfl (tyX10_ok 8 (by decide)) rfl rfl (Nat.le_of_ble_eq_true rfl) dX10_goSort_27 (fun H locs hP hD hS => ?_)
  have hP : va_P D vwCl (uX10_goSort cI cJ a_this a_page i_pageMany i_state x1 0 0 0 1 0 a_readRow i_sort i_many i_isOther i_isTwo a_parents i_orderNow i_aimNow i_stonesRead i_made a_madeRows a_places a_row a_far a_waysTo a_marks i_rowMany a_luckNow a_luckNext i_seedNow i_kept i_keptOrder i_keptMade a_keptRows i_hash) H := hP
  have hD : va_D A (uX10_goSort cI cJ a_this a_page i_pageMany i_state x1 0 0 0 1 0 a_readRow i_sort i_many i_isOther i_isTwo a_parents i_orderNow i_aimNow i_stonesRead i_made a_madeRows a_places a_row a_far a_waysTo a_marks i_rowMany a_luckNow a_luckNext i_seedNow i_kept i_keptOrder i_keptMade a_keptRows i_hash) := hD
  refine lv_aload_n hx hb dX10_goSort_30 rfl (lv_at hl 0 rfl) ?_
  refine lv_iconst (v := 1) hx hb dX10_goSort_31 (by decide) ?_
  refine va_put (D := D) (ci := 10) (v := .int 1) (ty := tyX10 2) (C := RX10) (T := TX10) (N := 34) hx hb hts jX10_goSort_X10 tyX10 tyX10_ok nmX10 hown hK hP hD hS 0 rfl rfl 2 (by decide) (hts _ qX10_goSort_78) (fun _ h9 => h9) rfl (tyX10_ok 2 (by decide)) rfl rfl (Nat.le_of_ble_eq_true rfl) dX10_goSort_32 (fun H locs hP hD hS => ?_)
  have hP : va_P D vwCl (uX10_goSort cI cJ a_this a_page i_pageMany 1 x1 0 0 0 1 0 a_readRow i_sort i_many i_isOther i_isTwo a_parents i_orderNow i_aimNow i_stonesRead i_made a_madeRows a_places a_row a_far a_waysTo a_marks i_rowMany a_luckNow a_luckNext i_seedNow i_kept i_keptOrder i_keptMade a_keptRows i_hash) H := hP
  have hD : va_D A (uX10_goSort cI cJ a_this a_page i_pageMany 1 x1 0 0 0 1 0 a_readRow i_sort i_many i_isOther i_isTwo a_parents i_orderNow i_aimNow i_stonesRead i_made a_madeRows a_places a_row a_far a_waysTo a_marks i_rowMany a_luckNow a_luckNext i_seedNow i_kept i_keptOrder i_keptMade a_keptRows i_hash) := hD
  refine lv_iload_n hx hb dX10_goSort_35 rfl (lv_at hl 1 rfl) ?_
  refine lv_bipush (v := 114) hx hb dX10_goSort_36 (by decide) ?_
  refine lv_icmp_eq (tgt := 53) hx hb dX10_goSort_38 (by decide) (fun hc => ?_) (fun hc => ?_)
  · have hf := if_yes hc hf
    refine lv_iconst (v := 1) hx hb dX10_goSort_53 (by decide) ?_
    refine lv_goto (tgt := 58) hx hb dX10_goSort_54 (by decide) ?_
    subst hf
    exact hrt H locs ls _ (Or.inr rfl) hP hD hS dX10_goSort_58
  · have hf := if_no hc hf
    refine lv_iload_n hx hb dX10_goSort_41 rfl (lv_at hl 1 rfl) ?_
    refine lv_bipush (v := 119) hx hb dX10_goSort_42 (by decide) ?_
    refine lv_icmp_eq (tgt := 53) hx hb dX10_goSort_44 (by decide) (fun hc => ?_) (fun hc => ?_)
    · have hf := if_yes hc hf
      refine lv_iconst (v := 1) hx hb dX10_goSort_53 (by decide) ?_
      refine lv_goto (tgt := 58) hx hb dX10_goSort_54 (by decide) ?_
      subst hf
      exact hrt H locs ls _ (Or.inr rfl) hP hD hS dX10_goSort_58
    · have hf := if_no hc hf
      refine lv_iload_n hx hb dX10_goSort_47 rfl (lv_at hl 1 rfl) ?_
      refine lv_bipush (v := 116) hx hb dX10_goSort_48 (by decide) ?_
      refine lv_icmp_ne (tgt := 57) hx hb dX10_goSort_50 (by decide) (fun hc => ?_) (fun hc => ?_)
      · have hf := if_no hc hf
        refine lv_iconst (v := 0) hx hb dX10_goSort_57 (by decide) ?_
        subst hf
        exact hrt H locs ls _ (Or.inl rfl) hP hD hS dX10_goSort_58
      · have hf := if_yes hc hf
        refine lv_iconst (v := 1) hx hb dX10_goSort_53 (by decide) ?_
        refine lv_goto (tgt := 58) hx hb dX10_goSort_54 (by decide) ?_
        subst hf
        exact hrt H locs ls _ (Or.inr rfl) hP hD hS dX10_goSort_58
set_option maxHeartbeats 4000000 in
set_option maxRecDepth 100000 in
theorem mX10_goSort (l : Launch) (D : va_G) (cI cJ : ClassId) (sz : Nat) {a_this : Nat} {a_page : Nat} {i_pageMany : Int32} {i_state : Int32} {i_readSort : Int32} {i_readOther : Int32} {i_readTwo : Int32} {i_readMany : Int32} {i_readParents : Int32} {i_readOrder : Int32} {a_readRow : Nat} {i_sort : Int32} {i_many : Int32} {i_isOther : Int32} {i_isTwo : Int32} {a_parents : Nat} {i_orderNow : Int32} {i_aimNow : Int32} {i_stonesRead : Int32} {i_made : Int32} {a_madeRows : Nat} {a_places : Nat} {a_row : Nat} {a_far : Nat} {a_waysTo : Nat} {a_marks : Nat} {i_rowMany : Int32} {a_luckNow : Nat} {a_luckNext : Nat} {i_seedNow : Int32} {i_kept : Int32} {i_keptOrder : Int32} {i_keptMade : Int32} {a_keptRows : Nat} {i_hash : Int64} {x1 : Int32} : Met l yX10_goSort wsX10_goSort rX10_goSort (va_Pc [.ref a_this, .int x1] (kP D cI cJ (uX10_goSort cI cJ a_this a_page i_pageMany i_state i_readSort i_readOther i_readTwo i_readMany i_readParents i_readOrder a_readRow i_sort i_many i_isOther i_isTwo a_parents i_orderNow i_aimNow i_stonesRead i_made a_madeRows a_places a_row a_far a_waysTo a_marks i_rowMany a_luckNow a_luckNext i_seedNow i_kept i_keptOrder i_keptMade a_keptRows i_hash) sz)) (va_Qi (fun r' (_ : Unit) => r' = (fX10_goSort x1 i_readSort i_readOther i_readTwo i_readMany i_readParents i_readOrder i_state).1) (fun _ t => kB D (va_A (uX10_goSort cI cJ a_this a_page i_pageMany i_state i_readSort i_readOther i_readTwo i_readMany i_readParents i_readOrder a_readRow i_sort i_many i_isOther i_isTwo a_parents i_orderNow i_aimNow i_stonesRead i_made a_madeRows a_places a_row a_far a_waysTo a_marks i_rowMany a_luckNow a_luckNext i_seedNow i_kept i_keptOrder i_keptMade a_keptRows i_hash) sz) (uX10_goSort cI cJ a_this a_page i_pageMany ((fX10_goSort x1 i_readSort i_readOther i_readTwo i_readMany i_readParents i_readOrder i_state).2.2.2.2.2.2.2) ((fX10_goSort x1 i_readSort i_readOther i_readTwo i_readMany i_readParents i_readOrder i_state).2.1) ((fX10_goSort x1 i_readSort i_readOther i_readTwo i_readMany i_readParents i_readOrder i_state).2.2.1) ((fX10_goSort x1 i_readSort i_readOther i_readTwo i_readMany i_readParents i_readOrder i_state).2.2.2.1) ((fX10_goSort x1 i_readSort i_readOther i_readTwo i_readMany i_readParents i_readOrder i_state).2.2.2.2.1) ((fX10_goSort x1 i_readSort i_readOther i_readTwo i_readMany i_readParents i_readOrder i_state).2.2.2.2.2.1) ((fX10_goSort x1 i_readSort i_readOther i_readTwo i_readMany i_readParents i_readOrder i_state).2.2.2.2.2.2.1) a_readRow i_sort i_many i_isOther i_isTwo a_parents i_orderNow i_aimNow i_stonesRead i_made a_madeRows a_places a_row a_far a_waysTo a_marks i_rowMany a_luckNow a_luckNext i_seedNow i_kept i_keptOrder i_keptMade a_keptRows i_hash) t) (va_A (uX10_goSort cI cJ a_this a_page i_pageMany i_state i_readSort i_readOther i_readTwo i_readMany i_readParents i_readOrder a_readRow i_sort i_many i_isOther i_isTwo a_parents i_orderNow i_aimNow i_stonesRead i_made a_madeRows a_places a_row a_far a_waysTo a_marks i_rowMany a_luckNow a_luckNext i_seedNow i_kept i_keptOrder i_keptMade a_keptRows i_hash) sz)) 0 0 (va_A (uX10_goSort cI cJ a_this a_page i_pageMany i_state i_readSort i_readOther i_readTwo i_readMany i_readParents i_readOrder a_readRow i_sort i_many i_isOther i_isTwo a_parents i_orderNow i_aimNow i_stonesRead i_made a_madeRows a_places a_row a_far a_waysTo a_marks i_rowMany a_luckNow a_luckNext i_seedNow i_kept i_keptOrder i_keptMade a_keptRows i_hash) sz) :=
  met_z (by decide) rfl (Nat.le_of_ble_eq_true rfl) (fun p e s m below meth c A Q C hrt ls hl hP hD hS => kX10_goSort_0 (A := A) C rfl hrt hP hD hS hl)

/-! ===== FrogsOnRingModel.goSign(I)Z ===== -/
abbrev uX10_goSign (cI cJ : ClassId) (a_this : Nat) (a_page : Nat) (i_pageMany : Int32) (i_state : Int32) (i_readSort : Int32) (i_readOther : Int32) (i_readTwo : Int32) (i_readMany : Int32) (i_readParents : Int32) (i_readOrder : Int32) (a_readRow : Nat) (i_sort : Int32) (i_many : Int32) (i_isOther : Int32) (i_isTwo : Int32) (a_parents : Nat) (i_orderNow : Int32) (i_aimNow : Int32) (i_stonesRead : Int32) (i_made : Int32) (a_madeRows : Nat) (a_places : Nat) (a_row : Nat) (a_far : Nat) (a_waysTo : Nat) (a_marks : Nat) (i_rowMany : Int32) (a_luckNow : Nat) (a_luckNext : Nat) (i_seedNow : Int32) (i_kept : Int32) (i_keptOrder : Int32) (i_keptMade : Int32) (a_keptRows : Nat) (i_hash : Int64) : va_W := [(a_this, .inr (10, [.ref a_page, .int i_pageMany, .int i_state, .int i_readSort, .int i_readOther, .int i_readTwo, .int i_readMany, .int i_readParents, .int i_readOrder, .ref a_readRow, .int i_sort, .int i_many, .int i_isOther, .int i_isTwo, .ref a_parents, .int i_orderNow, .int i_aimNow, .int i_stonesRead, .int i_made, .ref a_madeRows, .ref a_places, .ref a_row, .ref a_far, .ref a_waysTo, .ref a_marks, .int i_rowMany, .ref a_luckNow, .ref a_luckNext, .int i_seedNow, .int i_kept, .int i_keptOrder, .int i_keptMade, .ref a_keptRows, .long i_hash]))]
def rX10_goSign : Room := { frames := 0, cells := 0, slots := 0, locals := 0 }
theorem hdX10_goSign : yX10_goSign.cls = RX10 ∧ yX10_goSign.cls ≠ "java/lang/invoke/MethodHandle" ∧ yX10_goSign.cls ≠ "java/lang/invoke/VarHandle" ∧ (parseMethodDescriptor yX10_goSign.desc).map (fun d => d.parameters.length) = some 1 := by decide +kernel
set_option maxRecDepth 20000 in
theorem jX10_goSign_X10 : ∀ w ∈ u_ws RX10 TX10 34, w ∈ wsX10_goSign := by decide +kernel
set_option maxRecDepth 20000 in
theorem qX10_goSign_63 : Cond.fieldLink RX10 63 "FrogsOnRingModel" "readOther" "I" ∈ wsX10_goSign := by decide +kernel
set_option maxRecDepth 20000 in
theorem qX10_goSign_66 : Cond.fieldLink RX10 66 "FrogsOnRingModel" "readTwo" "I" ∈ wsX10_goSign := by decide +kernel
set_option maxRecDepth 20000 in
theorem qX10_goSign_78 : Cond.fieldLink RX10 78 "FrogsOnRingModel" "state" "I" ∈ wsX10_goSign := by decide +kernel
set_option maxHeartbeats 4000000 in
set_option maxRecDepth 100000 in
theorem kX10_goSign_J52 {p : Program} {l : Launch} {e : Env} {s : State} {m : MethodId} {args : Array Value} {below : List Frame} {meth : Method} {c : Code} {Q : State → Prop} {A : Nat → Prop} {D : va_G} {cI cJ : ClassId} (C : bC cX10_goSign 2 RX10 wsX10_goSign D cI cJ p s m args c meth A)
    {a_this : Nat} {a_page : Nat} {i_pageMany : Int32} {i_state : Int32} {i_readSort : Int32} {i_readOther : Int32} {i_readTwo : Int32} {i_readMany : Int32} {i_readParents : Int32} {i_readOrder : Int32} {a_readRow : Nat} {i_sort : Int32} {i_many : Int32} {i_isOther : Int32} {i_isTwo : Int32} {a_parents : Nat} {i_orderNow : Int32} {i_aimNow : Int32} {i_stonesRead : Int32} {i_made : Int32} {a_madeRows : Nat} {a_places : Nat} {a_row : Nat} {a_far : Nat} {a_waysTo : Nat} {a_marks : Nat} {i_rowMany : Int32} {a_luckNow : Nat} {a_luckNext : Nat} {i_seedNow : Int32} {i_kept : Int32} {i_keptOrder : Int32} {i_keptMade : Int32} {a_keptRows : Nat} {i_hash : Int64} {x1 : Int32} {o : Int32 × Int32 × Int32 × Int32} (hf : fX10_goSign_J52 x1 i_state i_readOther i_readTwo = o)
    (hrt : ∀ (H : Heap) (locs : List Loc) (ls : Array Slot) (pc : Nat), (o.1 = 0 ∨ o.1 = 1) → va_P D vwCl (uX10_goSign cI cJ a_this a_page i_pageMany o.2.2.1 i_readSort o.2.1 o.2.2.2 i_readMany i_readParents i_readOrder a_readRow i_sort i_many i_isOther i_isTwo a_parents i_orderNow i_aimNow i_stonesRead i_made a_madeRows a_places a_row a_far a_waysTo a_marks i_rowMany a_luckNow a_luckNext i_seedNow i_kept i_keptOrder i_keptMade a_keptRows i_hash) H → va_D A (uX10_goSign cI cJ a_this a_page i_pageMany o.2.2.1 i_readSort o.2.1 o.2.2.2 i_readMany i_readParents i_readOrder a_readRow i_sort i_many i_isOther i_isTwo a_parents i_orderNow i_aimNow i_stonesRead i_made a_madeRows a_places a_row a_far a_waysTo a_marks i_rowMany a_luckNow a_luckNext i_seedNow i_kept i_keptOrder i_keptMade a_keptRows i_hash) → va_S A s.heap H locs → decode cX10_goSign pc = .ok (.ireturn, 1) → W p l e rX10_goSign s m args below meth c H locs 0 0 Q (F0 m pc ls [.int o.1]))
    {H : Heap} {locs : List Loc} {ls : Array Slot} (hP : va_P D vwCl (uX10_goSign cI cJ a_this a_page i_pageMany i_state i_readSort i_readOther i_readTwo i_readMany i_readParents i_readOrder a_readRow i_sort i_many i_isOther i_isTwo a_parents i_orderNow i_aimNow i_stonesRead i_made a_madeRows a_places a_row a_far a_waysTo a_marks i_rowMany a_luckNow a_luckNext i_seedNow i_kept i_keptOrder i_keptMade a_keptRows i_hash) H) (hD : va_D A (uX10_goSign cI cJ a_this a_page i_pageMany i_state i_readSort i_readOther i_readTwo i_readMany i_readParents i_readOrder a_readRow i_sort i_many i_isOther i_isTwo a_parents i_orderNow i_aimNow i_stonesRead i_made a_madeRows a_places a_row a_far a_waysTo a_marks i_rowMany a_luckNow a_luckNext i_seedNow i_kept i_keptOrder i_keptMade a_keptRows i_hash)) (hS : va_S A s.heap H locs) (hl : lv_has ls 2 [(0, .ref a_this), (1, .int x1)]) : W p l e rX10_goSign s m args below meth c H locs 0 0 Q (F0 m 52 ls []) := by
  obtain ⟨hx, hb, hml, hown, hts, hK, hN, hA, hlocks⟩ := id C
  unfold fX10_goSign_J52 at hf
  refine lv_aload_n hx hb dX10_goSign_52 rfl (lv_at hl 0 rfl) ?_
  refine lv_iconst (v := 4) hx hb dX10_goSign_53 (by decide) ?_
  refine va_put (D := D) (ci := 10) (v := .int 4) (ty := tyX10 2) (C := RX10) (T := TX10) (N := 34) hx hb hts jX10_goSign_X10 tyX10 tyX10_ok nmX10 hown hK hP hD hS 0 rfl rfl 2 (by decide) (hts _ qX10_goSign_78) (fun _ h9 => h9) rfl (tyX10_ok 2 (by decide)) rfl rfl (Nat.le_of_ble_eq_true rfl) dX10_goSign_54 (fun H locs hP hD hS => ?_)
  have hP : va_P D vwCl (uX10_goSign cI cJ a_this a_page i_pageMany 4 i_readSort i_readOther i_readTwo i_readMany i_readParents i_readOrder a_readRow i_sort i_many i_isOther i_isTwo a_parents i_orderNow i_aimNow i_stonesRead i_made a_madeRows a_places a_row a_far a_waysTo a_marks i_rowMany a_luckNow a_luckNext i_seedNow i_kept i_keptOrder i_keptMade a_keptRows i_hash) H := hP
  have hD : va_D A (uX10_goSign cI cJ a_this a_page i_pageMany 4 i_readSort i_readOther i_readTwo i_readMany i_readParents i_readOrder a_readRow i_sort i_many i_isOther i_isTwo a_parents i_orderNow i_aimNow i_stonesRead i_made a_madeRows a_places a_row a_far a_waysTo a_marks i_rowMany a_luckNow a_luckNext i_seedNow i_kept i_keptOrder i_keptMade a_keptRows i_hash) := hD
  refine lv_iload_n hx hb dX10_goSign_57 rfl (lv_at hl 1 rfl) ?_
  refine lv_bipush (v := 58) hx hb dX10_goSign_58 (by decide) ?_
  refine lv_icmp_ne (tgt := 67) hx hb dX10_goSign_60 (by decide) (fun hc => ?_) (fun hc => ?_)
  · have hf := if_no hc hf
    refine lv_iconst (v := 0) hx hb dX10_goSign_67 (by decide) ?_
    subst hf
    exact hrt H locs ls _ (Or.inl rfl) hP hD hS dX10_goSign_68
  · have hf := if_yes hc hf
    refine lv_iconst (v := 1) hx hb dX10_goSign_63 (by decide) ?_
    refine lv_goto (tgt := 68) hx hb dX10_goSign_64 (by decide) ?_
    subst hf
    exact hrt H locs ls _ (Or.inr rfl) hP hD hS dX10_goSign_68
set_option maxHeartbeats 4000000 in
set_option maxRecDepth 100000 in
theorem kX10_goSign_J26 {p : Program} {l : Launch} {e : Env} {s : State} {m : MethodId} {args : Array Value} {below : List Frame} {meth : Method} {c : Code} {Q : State → Prop} {A : Nat → Prop} {D : va_G} {cI cJ : ClassId} (C : bC cX10_goSign 2 RX10 wsX10_goSign D cI cJ p s m args c meth A)
    {a_this : Nat} {a_page : Nat} {i_pageMany : Int32} {i_state : Int32} {i_readSort : Int32} {i_readOther : Int32} {i_readTwo : Int32} {i_readMany : Int32} {i_readParents : Int32} {i_readOrder : Int32} {a_readRow : Nat} {i_sort : Int32} {i_many : Int32} {i_isOther : Int32} {i_isTwo : Int32} {a_parents : Nat} {i_orderNow : Int32} {i_aimNow : Int32} {i_stonesRead : Int32} {i_made : Int32} {a_madeRows : Nat} {a_places : Nat} {a_row : Nat} {a_far : Nat} {a_waysTo : Nat} {a_marks : Nat} {i_rowMany : Int32} {a_luckNow : Nat} {a_luckNext : Nat} {i_seedNow : Int32} {i_kept : Int32} {i_keptOrder : Int32} {i_keptMade : Int32} {a_keptRows : Nat} {i_hash : Int64} {x1 : Int32} {o : Int32 × Int32 × Int32 × Int32} (hf : fX10_goSign_J26 x1 i_state i_readOther i_readTwo = o)
    (hrt : ∀ (H : Heap) (locs : List Loc) (ls : Array Slot) (pc : Nat), (o.1 = 0 ∨ o.1 = 1) → va_P D vwCl (uX10_goSign cI cJ a_this a_page i_pageMany o.2.2.1 i_readSort o.2.1 o.2.2.2 i_readMany i_readParents i_readOrder a_readRow i_sort i_many i_isOther i_isTwo a_parents i_orderNow i_aimNow i_stonesRead i_made a_madeRows a_places a_row a_far a_waysTo a_marks i_rowMany a_luckNow a_luckNext i_seedNow i_kept i_keptOrder i_keptMade a_keptRows i_hash) H → va_D A (uX10_goSign cI cJ a_this a_page i_pageMany o.2.2.1 i_readSort o.2.1 o.2.2.2 i_readMany i_readParents i_readOrder a_readRow i_sort i_many i_isOther i_isTwo a_parents i_orderNow i_aimNow i_stonesRead i_made a_madeRows a_places a_row a_far a_waysTo a_marks i_rowMany a_luckNow a_luckNext i_seedNow i_kept i_keptOrder i_keptMade a_keptRows i_hash) → va_S A s.heap H locs → decode cX10_goSign pc = .ok (.ireturn, 1) → W p l e rX10_goSign s m args below meth c H locs 0 0 Q (F0 m pc ls [.int o.1]))
    {H : Heap} {locs : List Loc} {ls : Array Slot} (hP : va_P D vwCl (uX10_goSign cI cJ a_this a_page i_pageMany i_state i_readSort i_readOther i_readTwo i_readMany i_readParents i_readOrder a_readRow i_sort i_many i_isOther i_isTwo a_parents i_orderNow i_aimNow i_stonesRead i_made a_madeRows a_places a_row a_far a_waysTo a_marks i_rowMany a_luckNow a_luckNext i_seedNow i_kept i_keptOrder i_keptMade a_keptRows i_hash) H) (hD : va_D A (uX10_goSign cI cJ a_this a_page i_pageMany i_state i_readSort i_readOther i_readTwo i_readMany i_readParents i_readOrder a_readRow i_sort i_many i_isOther i_isTwo a_parents i_orderNow i_aimNow i_stonesRead i_made a_madeRows a_places a_row a_far a_waysTo a_marks i_rowMany a_luckNow a_luckNext i_seedNow i_kept i_keptOrder i_keptMade a_keptRows i_hash)) (hS : va_S A s.heap H locs) (hl : lv_has ls 2 [(0, .ref a_this), (1, .int x1)]) : W p l e rX10_goSign s m args below meth c H locs 0 0 Q (F0 m 26 ls []) := by
  obtain ⟨hx, hb, hml, hown, hts, hK, hN, hA, hlocks⟩ := id C
  unfold fX10_goSign_J26 at hf
  refine lv_iload_n hx hb dX10_goSign_26 rfl (lv_at hl 1 rfl) ?_
  refine lv_bipush (v := 50) hx hb dX10_goSign_27 (by decide) ?_
  refine lv_icmp_ne (tgt := 52) hx hb dX10_goSign_29 (by decide) (fun hc => ?_) (fun hc => ?_)
  · have hf := if_no hc hf
    exact kX10_goSign_J52 C hf hrt hP hD hS (lv_sub hl [0, 1] rfl)
  · have hf := if_yes hc hf
    refine lv_aload_n hx hb dX10_goSign_32 rfl (lv_at hl 0 rfl) ?_
    refine va_get (D := D) (ci := 10) (v := .int i_state) (C := RX10) (T := TX10) (N := 34) hx hb hts jX10_goSign_X10 hown hK hP 0 rfl rfl 2 (by decide) (hts _ qX10_goSign_78) (fun _ h9 => h9) rfl dX10_goSign_33 ?_
    refine lv_iconst (v := 3) hx hb dX10_goSign_36 (by decide) ?_
    refine lv_icmp_ge (tgt := 52) hx hb dX10_goSign_37 (by decide) (fun hc => ?_) (fun hc => ?_)
    · have hf := if_yes hc hf
      exact kX10_goSign_J52 C hf hrt hP hD hS (lv_sub hl [0, 1] rfl)
    · have hf := if_no hc hf
      refine lv_aload_n hx hb dX10_goSign_40 rfl (lv_at hl 0 rfl) ?_
      refine lv_iconst (v := 1) hx hb dX10_goSign_41 (by decide) ?_
      refine va_put (D := D) (ci := 10) (v := .int 1) (ty := tyX10 5) (C := RX10) (T := TX10) (N := 34) hx hb hts jX10_goSign_X10 tyX10 tyX10_ok nmX10 hown hK hP hD hS 0 rfl rfl 5 (by decide) (hts _ qX10_goSign_66) (fun _ h9 => h9) rfl (tyX10_ok 5 (by decide)) rfl rfl (Nat.le_of_ble_eq_true rfl) dX10_goSign_42 (fun H locs hP hD hS => ?_)
      have hP : va_P D vwCl (uX10_goSign cI cJ a_this a_page i_pageMany i_state i_readSort i_readOther 1 i_readMany i_readParents i_readOrder a_readRow i_sort i_many i_isOther i_isTwo a_parents i_orderNow i_aimNow i_stonesRead i_made a_madeRows a_places a_row a_far a_waysTo a_marks i_rowMany a_luckNow a_luckNext i_seedNow i_kept i_keptOrder i_keptMade a_keptRows i_hash) H := hP
      have hD : va_D A (uX10_goSign cI cJ a_this a_page i_pageMany i_state i_readSort i_readOther 1 i_readMany i_readParents i_readOrder a_readRow i_sort i_many i_isOther i_isTwo a_parents i_orderNow i_aimNow i_stonesRead i_made a_madeRows a_places a_row a_far a_waysTo a_marks i_rowMany a_luckNow a_luckNext i_seedNow i_kept i_keptOrder i_keptMade a_keptRows i_hash) := hD
      refine lv_aload_n hx hb dX10_goSign_45 rfl (lv_at hl 0 rfl) ?_
      refine lv_iconst (v := 3) hx hb dX10_goSign_46 (by decide) ?_
      refine va_put (D := D) (ci := 10) (v := .int 3) (ty := tyX10 2) (C := RX10) (T := TX10) (N := 34) hx hb hts jX10_goSign_X10 tyX10 tyX10_ok nmX10 hown hK hP hD hS 0 rfl rfl 2 (by decide) (hts _ qX10_goSign_78) (fun _ h9 => h9) rfl (tyX10_ok 2 (by decide)) rfl rfl (Nat.le_of_ble_eq_true rfl) dX10_goSign_47 (fun H locs hP hD hS => ?_)
      have hP : va_P D vwCl (uX10_goSign cI cJ a_this a_page i_pageMany 3 i_readSort i_readOther 1 i_readMany i_readParents i_readOrder a_readRow i_sort i_many i_isOther i_isTwo a_parents i_orderNow i_aimNow i_stonesRead i_made a_madeRows a_places a_row a_far a_waysTo a_marks i_rowMany a_luckNow a_luckNext i_seedNow i_kept i_keptOrder i_keptMade a_keptRows i_hash) H := hP
      have hD : va_D A (uX10_goSign cI cJ a_this a_page i_pageMany 3 i_readSort i_readOther 1 i_readMany i_readParents i_readOrder a_readRow i_sort i_many i_isOther i_isTwo a_parents i_orderNow i_aimNow i_stonesRead i_made a_madeRows a_places a_row a_far a_waysTo a_marks i_rowMany a_luckNow a_luckNext i_seedNow i_kept i_keptOrder i_keptMade a_keptRows i_hash) := hD
      refine lv_iconst (v := 1) hx hb dX10_goSign_50 (by decide) ?_
      subst hf
      exact hrt H locs ls _ (Or.inr rfl) hP hD hS dX10_goSign_51
set_option maxHeartbeats 4000000 in
set_option maxRecDepth 100000 in
theorem kX10_goSign_0 {p : Program} {l : Launch} {e : Env} {s : State} {m : MethodId} {args : Array Value} {below : List Frame} {meth : Method} {c : Code} {Q : State → Prop} {A : Nat → Prop} {D : va_G} {cI cJ : ClassId} (C : bC cX10_goSign 2 RX10 wsX10_goSign D cI cJ p s m args c meth A)
    {a_this : Nat} {a_page : Nat} {i_pageMany : Int32} {i_state : Int32} {i_readSort : Int32} {i_readOther : Int32} {i_readTwo : Int32} {i_readMany : Int32} {i_readParents : Int32} {i_readOrder : Int32} {a_readRow : Nat} {i_sort : Int32} {i_many : Int32} {i_isOther : Int32} {i_isTwo : Int32} {a_parents : Nat} {i_orderNow : Int32} {i_aimNow : Int32} {i_stonesRead : Int32} {i_made : Int32} {a_madeRows : Nat} {a_places : Nat} {a_row : Nat} {a_far : Nat} {a_waysTo : Nat} {a_marks : Nat} {i_rowMany : Int32} {a_luckNow : Nat} {a_luckNext : Nat} {i_seedNow : Int32} {i_kept : Int32} {i_keptOrder : Int32} {i_keptMade : Int32} {a_keptRows : Nat} {i_hash : Int64} {x1 : Int32} {o : Int32 × Int32 × Int32 × Int32} (hf : fX10_goSign x1 i_state i_readOther i_readTwo = o)
    (hrt : ∀ (H : Heap) (locs : List Loc) (ls : Array Slot) (pc : Nat), (o.1 = 0 ∨ o.1 = 1) → va_P D vwCl (uX10_goSign cI cJ a_this a_page i_pageMany o.2.2.1 i_readSort o.2.1 o.2.2.2 i_readMany i_readParents i_readOrder a_readRow i_sort i_many i_isOther i_isTwo a_parents i_orderNow i_aimNow i_stonesRead i_made a_madeRows a_places a_row a_far a_waysTo a_marks i_rowMany a_luckNow a_luckNext i_seedNow i_kept i_keptOrder i_keptMade a_keptRows i_hash) H → va_D A (uX10_goSign cI cJ a_this a_page i_pageMany o.2.2.1 i_readSort o.2.1 o.2.2.2 i_readMany i_readParents i_readOrder a_readRow i_sort i_many i_isOther i_isTwo a_parents i_orderNow i_aimNow i_stonesRead i_made a_madeRows a_places a_row a_far a_waysTo a_marks i_rowMany a_luckNow a_luckNext i_seedNow i_kept i_keptOrder i_keptMade a_keptRows i_hash) → va_S A s.heap H locs → decode cX10_goSign pc = .ok (.ireturn, 1) → W p l e rX10_goSign s m args below meth c H locs 0 0 Q (F0 m pc ls [.int o.1]))
    {H : Heap} {locs : List Loc} {ls : Array Slot} (hP : va_P D vwCl (uX10_goSign cI cJ a_this a_page i_pageMany i_state i_readSort i_readOther i_readTwo i_readMany i_readParents i_readOrder a_readRow i_sort i_many i_isOther i_isTwo a_parents i_orderNow i_aimNow i_stonesRead i_made a_madeRows a_places a_row a_far a_waysTo a_marks i_rowMany a_luckNow a_luckNext i_seedNow i_kept i_keptOrder i_keptMade a_keptRows i_hash) H) (hD : va_D A (uX10_goSign cI cJ a_this a_page i_pageMany i_state i_readSort i_readOther i_readTwo i_readMany i_readParents i_readOrder a_readRow i_sort i_many i_isOther i_isTwo a_parents i_orderNow i_aimNow i_stonesRead i_made a_madeRows a_places a_row a_far a_waysTo a_marks i_rowMany a_luckNow a_luckNext i_seedNow i_kept i_keptOrder i_keptMade a_keptRows i_hash)) (hS : va_S A s.heap H locs) (hl : lv_has ls 2 [(0, .ref a_this), (1, .int x1)]) : W p l e rX10_goSign s m args below meth c H locs 0 0 Q (F0 m 0 ls []) := by
  obtain ⟨hx, hb, hml, hown, hts, hK, hN, hA, hlocks⟩ := id C
  unfold fX10_goSign at hf
  refine lv_iload_n hx hb dX10_goSign_0 rfl (lv_at hl 1 rfl) ?_
  refine lv_bipush (v := 111) hx hb dX10_goSign_1 (by decide) ?_
  refine lv_icmp_ne (tgt := 26) hx hb dX10_goSign_3 (by decide) (fun hc => ?_) (fun hc => ?_)
  · have hf := if_no hc hf
    exact kX10_goSign_J26 C hf hrt hP hD hS (lv_sub hl [0, 1] rfl)
  · have hf := if_yes hc hf
    refine lv_aload_n hx hb dX10_goSign_6 rfl (lv_at hl 0 rfl) ?_
    refine va_get (D := D) (ci := 10) (v := .int i_state) (C := RX10) (T := TX10) (N := 34) hx hb hts jX10_goSign_X10 hown hK hP 0 rfl rfl 2 (by decide) (hts _ qX10_goSign_78) (fun _ h9 => h9) rfl dX10_goSign_7 ?_
    refine lv_iconst (v := 1) hx hb dX10_goSign_10 (by decide) ?_
    refine lv_icmp_ne (tgt := 26) hx hb dX10_goSign_11 (by decide) (fun hc => ?_) (fun hc => ?_)
    · have hf := if_no hc hf
      exact kX10_goSign_J26 C hf hrt hP hD hS (lv_sub hl [0, 1] rfl)
    · have hf := if_yes hc hf
      refine lv_aload_n hx hb dX10_goSign_14 rfl (lv_at hl 0 rfl) ?_
      refine lv_iconst (v := 1) hx hb dX10_goSign_15 (by decide) ?_
      refine va_put (D := D) (ci := 10) (v := .int 1) (ty := tyX10 4) (C := RX10) (T := TX10) (N := 34) hx hb hts jX10_goSign_X10 tyX10 tyX10_ok nmX10 hown hK hP hD hS 0 rfl rfl 4 (by decide) (hts _ qX10_goSign_63) (fun _ h9 => h9) rfl (tyX10_ok 4 (by decide)) rfl rfl (Nat.le_of_ble_eq_true rfl) dX10_goSign_16 (fun H locs hP hD hS => ?_)
      have hP : va_P D vwCl (uX10_goSign cI cJ a_this a_page i_pageMany i_state i_readSort 1 i_readTwo i_readMany i_readParents i_readOrder a_readRow i_sort i_many i_isOther i_isTwo a_parents i_orderNow i_aimNow i_stonesRead i_made a_madeRows a_places a_row a_far a_waysTo a_marks i_rowMany a_luckNow a_luckNext i_seedNow i_kept i_keptOrder i_keptMade a_keptRows i_hash) H := hP
      have hD : va_D A (uX10_goSign cI cJ a_this a_page i_pageMany i_state i_readSort 1 i_readTwo i_readMany i_readParents i_readOrder a_readRow i_sort i_many i_isOther i_isTwo a_parents i_orderNow i_aimNow i_stonesRead i_made a_madeRows a_places a_row a_far a_waysTo a_marks i_rowMany a_luckNow a_luckNext i_seedNow i_kept i_keptOrder i_keptMade a_keptRows i_hash) := hD
      refine lv_aload_n hx hb dX10_goSign_19 rfl (lv_at hl 0 rfl) ?_
      refine lv_iconst (v := 2) hx hb dX10_goSign_20 (by decide) ?_
      refine va_put (D := D) (ci := 10) (v := .int 2) (ty := tyX10 2) (C := RX10) (T := TX10) (N := 34) hx hb hts jX10_goSign_X10 tyX10 tyX10_ok nmX10 hown hK hP hD hS 0 rfl rfl 2 (by decide) (hts _ qX10_goSign_78) (fun _ h9 => h9) rfl (tyX10_ok 2 (by decide)) rfl rfl (Nat.le_of_ble_eq_true rfl) dX10_goSign_21 (fun H locs hP hD hS => ?_)
      have hP : va_P D vwCl (uX10_goSign cI cJ a_this a_page i_pageMany 2 i_readSort 1 i_readTwo i_readMany i_readParents i_readOrder a_readRow i_sort i_many i_isOther i_isTwo a_parents i_orderNow i_aimNow i_stonesRead i_made a_madeRows a_places a_row a_far a_waysTo a_marks i_rowMany a_luckNow a_luckNext i_seedNow i_kept i_keptOrder i_keptMade a_keptRows i_hash) H := hP
      have hD : va_D A (uX10_goSign cI cJ a_this a_page i_pageMany 2 i_readSort 1 i_readTwo i_readMany i_readParents i_readOrder a_readRow i_sort i_many i_isOther i_isTwo a_parents i_orderNow i_aimNow i_stonesRead i_made a_madeRows a_places a_row a_far a_waysTo a_marks i_rowMany a_luckNow a_luckNext i_seedNow i_kept i_keptOrder i_keptMade a_keptRows i_hash) := hD
      refine lv_iconst (v := 1) hx hb dX10_goSign_24 (by decide) ?_
      subst hf
      exact hrt H locs ls _ (Or.inr rfl) hP hD hS dX10_goSign_25
set_option maxHeartbeats 4000000 in
set_option maxRecDepth 100000 in
theorem mX10_goSign (l : Launch) (D : va_G) (cI cJ : ClassId) (sz : Nat) {a_this : Nat} {a_page : Nat} {i_pageMany : Int32} {i_state : Int32} {i_readSort : Int32} {i_readOther : Int32} {i_readTwo : Int32} {i_readMany : Int32} {i_readParents : Int32} {i_readOrder : Int32} {a_readRow : Nat} {i_sort : Int32} {i_many : Int32} {i_isOther : Int32} {i_isTwo : Int32} {a_parents : Nat} {i_orderNow : Int32} {i_aimNow : Int32} {i_stonesRead : Int32} {i_made : Int32} {a_madeRows : Nat} {a_places : Nat} {a_row : Nat} {a_far : Nat} {a_waysTo : Nat} {a_marks : Nat} {i_rowMany : Int32} {a_luckNow : Nat} {a_luckNext : Nat} {i_seedNow : Int32} {i_kept : Int32} {i_keptOrder : Int32} {i_keptMade : Int32} {a_keptRows : Nat} {i_hash : Int64} {x1 : Int32} : Met l yX10_goSign wsX10_goSign rX10_goSign (va_Pc [.ref a_this, .int x1] (kP D cI cJ (uX10_goSign cI cJ a_this a_page i_pageMany i_state i_readSort i_readOther i_readTwo i_readMany i_readParents i_readOrder a_readRow i_sort i_many i_isOther i_isTwo a_parents i_orderNow i_aimNow i_stonesRead i_made a_madeRows a_places a_row a_far a_waysTo a_marks i_rowMany a_luckNow a_luckNext i_seedNow i_kept i_keptOrder i_keptMade a_keptRows i_hash) sz)) (va_Qi (fun r' (_ : Unit) => r' = (fX10_goSign x1 i_state i_readOther i_readTwo).1) (fun _ t => kB D (va_A (uX10_goSign cI cJ a_this a_page i_pageMany i_state i_readSort i_readOther i_readTwo i_readMany i_readParents i_readOrder a_readRow i_sort i_many i_isOther i_isTwo a_parents i_orderNow i_aimNow i_stonesRead i_made a_madeRows a_places a_row a_far a_waysTo a_marks i_rowMany a_luckNow a_luckNext i_seedNow i_kept i_keptOrder i_keptMade a_keptRows i_hash) sz) (uX10_goSign cI cJ a_this a_page i_pageMany ((fX10_goSign x1 i_state i_readOther i_readTwo).2.2.1) i_readSort ((fX10_goSign x1 i_state i_readOther i_readTwo).2.1) ((fX10_goSign x1 i_state i_readOther i_readTwo).2.2.2) i_readMany i_readParents i_readOrder a_readRow i_sort i_many i_isOther i_isTwo a_parents i_orderNow i_aimNow i_stonesRead i_made a_madeRows a_places a_row a_far a_waysTo a_marks i_rowMany a_luckNow a_luckNext i_seedNow i_kept i_keptOrder i_keptMade a_keptRows i_hash) t) (va_A (uX10_goSign cI cJ a_this a_page i_pageMany i_state i_readSort i_readOther i_readTwo i_readMany i_readParents i_readOrder a_readRow i_sort i_many i_isOther i_isTwo a_parents i_orderNow i_aimNow i_stonesRead i_made a_madeRows a_places a_row a_far a_waysTo a_marks i_rowMany a_luckNow a_luckNext i_seedNow i_kept i_keptOrder i_keptMade a_keptRows i_hash) sz)) 0 0 (va_A (uX10_goSign cI cJ a_this a_page i_pageMany i_state i_readSort i_readOther i_readTwo i_readMany i_readParents i_readOrder a_readRow i_sort i_many i_isOther i_isTwo a_parents i_orderNow i_aimNow i_stonesRead i_made a_madeRows a_places a_row a_far a_waysTo a_marks i_rowMany a_luckNow a_luckNext i_seedNow i_kept i_keptOrder i_keptMade a_keptRows i_hash) sz) :=
  met_z (by decide) rfl (Nat.le_of_ble_eq_true rfl) (fun p e s m below meth c A Q C hrt ls hl hP hD hS => kX10_goSign_0 (A := A) C rfl hrt hP hD hS hl)

