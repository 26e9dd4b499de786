/-! THE CLAIM OUT OF ONE WALK OF THE LAW'S BODY. Your part is whole_start (and what it stands on); all else here is the same for every law, but numbers. -/
def R_law : String := "FrogsOnRingLaw"
def lw_P (b : Addr) (xs : List Int32) (args : Array Value) (s : State) : Prop := args = #[.ref b] ∧ s.IntsAt b xs ∧ xs.length ≤ 2048 ∧ (Jvm.Cond.and given_1 narrow_1).before args s = true
def lw_Q (_ : Array Value) (s : State) (o : Outcome) (t : State) : Prop := o = .returned (some (.int 1)) ∧ Framed s o t [] 600000 7302250
def lw_Z (below : List Frame) (a : Array Value) (s : State) : State → Prop := fun t => ∃ o, t.status = .running ∧ Ended t below o ∧ lw_Q a s o t
/-- the law's own end, with 1 on the stack, nothing written that was there before, its room as the claim has it -/
theorem lw_ret {p : Program} {l : Launch} {e : Env} {s : State} {m : MethodId} {below : List Frame} {meth : Method} {c : Code} {b : Nat} (hx : p.tables.exec = Jvm.exec) (hb : c.code = code) (hr : meth.sig.returnType = ret) (hlocks : meth.locks = false) {pc : Nat} {H : Heap} {ls : Array Slot} (hdg : decode code pc = .ok (.ireturn, 1)) : W p l e room_1 s m #[Value.ref b] below meth c H [] 600000 7302250 (lw_Z below #[Value.ref b] s) (F0 m pc ls [.int 1]) := by
  intro T hT X
  obtain ⟨fs, hret, hrun, hended, hW, hframe⟩ := X.leave (v := some (.int 1)) (hlocks := hlocks) (fun h => by rw [hr] at h; cases h)
  have hmeth' : T.vm.method? m = some meth := X.method'
  refine ⟨T.setFrames fs, ?_, .returned (some (.int 1)), hrun, hended, rfl, ⟨_, rfl⟩, hW, hframe⟩
  jvm_step X.here [X.here.top, hx, hb, hdg, hmeth', hr, ret, narrow_b1]
  (try refine ⟨rfl, ?_⟩); (try refine ⟨rfl, ?_⟩)
  first | (intro acts; rw [hret _ acts rfl rfl rfl]) | rw [hret _ _ rfl rfl rfl]
  exact Steps.refl _
/-- what holds at the law's entry: the machine, the code, the tables' words (any of lw_tbl by 'hts w (by decide +kernel)'), the script of L ints xs at the cell b, what the Statement gives of the start (any of its parts by flat_of_before) -/
def lw_At (p : Program) (s : State) (m : MethodId) (meth : Method) (c : Code) (b L : Nat) (xs : Nat → Int32) : Prop :=
  p.tables.exec = Jvm.exec ∧ c.code = code ∧ meth.sig.returnType = ret ∧ c.maxLocals = 4 ∧ s.vm.findClass R_law = some m.cls ∧ (∀ w ∈ lw_tbl, w.before #[Value.ref b] s = true) ∧ va_X b L xs s s.heap ∧ b < s.heap.size ∧ meth.locks = false ∧ (Jvm.Cond.and given_1 narrow_1).before #[Value.ref b] s = true
theorem nk_in : ∀ w ∈ nk_list.map (fun q => Cond.methodLinkNest q.1 q.2.1 q.2.2.1 q.2.2.2), w ∈ lw_tbl := by
  have e : nk_list.map (fun q => Cond.methodLinkNest q.1 q.2.1 q.2.2.1 q.2.2.2) = [83, 99, 135, 181, 331, 439, 464, 486, 552, 558, 561, 584, 626, 648, 702, 713, 755, 766, 771, 783].filterMap (fun i => lw_tbl[i]?) := by decide +kernel
  intro w h
  rw [e] at h
  obtain ⟨i, -, hi⟩ := List.mem_filterMap.mp h
  exact List.mem_of_getElem? hi
theorem nN_start {s : State} {args : Array Value} (hts : ∀ w ∈ lw_tbl, w.before args s = true) : nN s := fun q hq => va_Nw.of rfl (hts _ (nk_in _ (List.mem_map_of_mem hq)))
set_option maxRecDepth 20000 in
theorem qst_c7 : Cond.classLink RL 7 RX9 ∈ wsL_law := by decide +kernel
set_option maxRecDepth 20000 in
theorem qst_c10 : Cond.classLink RL 10 RX10 ∈ wsL_law := by decide +kernel
set_option maxRecDepth 20000 in
theorem qst_nX9 : Cond.instantiable RX9 14 ∈ wsL_law := by decide +kernel
set_option maxRecDepth 20000 in
theorem qst_nX10 : Cond.instantiable RX10 34 ∈ wsL_law := by decide +kernel
set_option maxRecDepth 20000 in
theorem qst_iX9 : Cond.initialized RX9 ∈ wsL_law := by decide +kernel
set_option maxRecDepth 20000 in
theorem qst_iX10 : Cond.initialized RX10 ∈ wsL_law := by decide +kernel
set_option maxRecDepth 20000 in
theorem qst_iyX9 : Cond.initialized yX9_init.cls ∈ wsL_law := by decide +kernel
set_option maxRecDepth 20000 in
theorem qst_iyX10 : Cond.initialized yX10_init.cls ∈ wsL_law := by decide +kernel
set_option maxRecDepth 20000 in
theorem qst_l9 : Cond.methodLink RL 9 yX9_init ∈ wsL_law := by decide +kernel
set_option maxRecDepth 20000 in
theorem qst_l12 : Cond.methodLink RL 12 yX10_init ∈ wsL_law := by decide +kernel
set_option maxRecDepth 20000 in
theorem qst_sX9 : Cond.instanceMethod yX9_init ∈ wsL_law := by decide +kernel
set_option maxRecDepth 20000 in
theorem qst_sX10 : Cond.instanceMethod yX10_init ∈ wsL_law := by decide +kernel
set_option maxHeartbeats 8000000 in
set_option maxRecDepth 100000 in
theorem whole_start {p : Program} {e : Env} {s : State} {m : MethodId} {below : List Frame} {meth : Method} {c : Code} (l : Launch) {b L : Nat} {xs : Nat → Int32} (hL : L ≤ 2048) (C0 : lw_At p s m meth c b L xs) : W p l e room_1 s m #[Value.ref b] below meth c s.heap [] 0 0 (lw_Z below #[Value.ref b] s) (entryFrame m ([Value.ref b] : List Value).toArray 4) := by
  obtain ⟨hx, hb, hr, hml, hown0, htsT, hX, hbl, hlocks, hgv⟩ := id C0
  have hts : ∀ w ∈ wsL_law, w.before #[Value.ref b] s = true := fun w h => htsT w (wsL_law_in w h)
  have hown : s.vm.findClass RL = some m.cls := hown0
  have hA : ∀ q : Nat, s.heap.size ≤ q → (fun q : Nat => s.heap.size ≤ q) q := fun _ h => h
  have hbA : ¬ (fun q : Nat => s.heap.size ≤ q) b := Nat.not_le.mpr hbl
  obtain ⟨c0, i0, k0⟩ := u_known (C := RX0) (T := TX0) (N := 9) (n := 9) hts inlX0 (htsT (.instantiable RX0 9) (List.mem_of_getElem? (i := 293) (by decide +kernel)))
  obtain ⟨c1, i1, k1⟩ := u_known (C := RX1) (T := TX1) (N := 4) (n := 4) hts inlX1 (htsT (.instantiable RX1 4) (List.mem_of_getElem? (i := 330) (by decide +kernel)))
  obtain ⟨c2, i2, k2⟩ := u_known (C := RX2) (T := TX2) (N := 9) (n := 9) hts inlX2 (htsT (.instantiable RX2 9) (List.mem_of_getElem? (i := 259) (by decide +kernel)))
  obtain ⟨c3, i3, k3⟩ := u_known (C := RX3) (T := TX3) (N := 2) (n := 2) hts inlX3 (htsT (.instantiable RX3 2) (List.mem_of_getElem? (i := 167) (by decide +kernel)))
  obtain ⟨c4, i4, k4⟩ := u_known (C := RX4) (T := TX4) (N := 5) (n := 5) hts inlX4 (htsT (.instantiable RX4 5) (List.mem_of_getElem? (i := 180) (by decide +kernel)))
  obtain ⟨c5, i5, k5⟩ := u_known (C := RX5) (T := TX5) (N := 2) (n := 2) hts inlX5 (htsT (.instantiable RX5 2) (List.mem_of_getElem? (i := 82) (by decide +kernel)))
  obtain ⟨c6, i6, k6⟩ := u_known (C := RX6) (T := TX6) (N := 6) (n := 6) hts inlX6 (htsT (.instantiable RX6 6) (List.mem_of_getElem? (i := 134) (by decide +kernel)))
  obtain ⟨c7, i7, k7⟩ := u_known (C := RX7) (T := TX7) (N := 7) (n := 7) hts inlX7 (htsT (.instantiable RX7 7) (List.mem_of_getElem? (i := 98) (by decide +kernel)))
  obtain ⟨c8, i8, k8⟩ := u_known (C := RX8) (T := TX8) (N := 13) (n := 13) hts inlX8 (htsT (.instantiable RX8 13) (List.mem_of_getElem? (i := 204) (by decide +kernel)))
  obtain ⟨c9, i9, k9⟩ := u_known (C := RX9) (T := TX9) (N := 14) (n := 14) hts inlX9 (htsT (.instantiable RX9 14) (List.mem_of_getElem? (i := 74) (by decide +kernel)))
  obtain ⟨c10, i10, k10⟩ := u_known (C := RX10) (T := TX10) (N := 34) (n := 34) hts inlX10 (htsT (.instantiable RX10 34) (List.mem_of_getElem? (i := 853) (by decide +kernel)))
  obtain ⟨cI, kI, compI, fI1, fI2, fI3⟩ := Cond.arrayClass_spec (htsT (.arrayClass .int) (List.mem_of_getElem? (i := 96) (by decide +kernel)))
  obtain ⟨cJ, kJ, compJ, fJ1, fJ2, fJ3⟩ := Cond.arrayClass_spec (htsT (.arrayClass .long) (List.mem_of_getElem? (i := 257) (by decide +kernel)))
  obtain ⟨D, hK⟩ : ∃ D : va_G, va_K D vwCl [(cI, .int), (cJ, .long)] s := by
    refine ⟨(fun k => match k with | 0 => c0 | 1 => c1 | 2 => c2 | 3 => c3 | 4 => c4 | 5 => c5 | 6 => c6 | 7 => c7 | 8 => c8 | 9 => c9 | _ => c10, fun k => match k with | 0 => i0 | 1 => i1 | 2 => i2 | 3 => i3 | 4 => i4 | 5 => i5 | 6 => i6 | 7 => i7 | 8 => i8 | 9 => i9 | _ => i10), fun k q hq => ?_, fun k q hk => ?_⟩
    · match k, hq with
      | 0, hq => cases hq; exact k0
      | 1, hq => cases hq; exact k1
      | 2, hq => cases hq; exact k2
      | 3, hq => cases hq; exact k3
      | 4, hq => cases hq; exact k4
      | 5, hq => cases hq; exact k5
      | 6, hq => cases hq; exact k6
      | 7, hq => cases hq; exact k7
      | 8, hq => cases hq; exact k8
      | 9, hq => cases hq; exact k9
      | 10, hq => cases hq; exact k10
      | k + 11, hq => simp at hq
    · match k, hk with
      | 0, hk => cases hk; exact ⟨fun n z => ⟨fun k h => (by cases h), kI, fI2, compI, fI3⟩, fI1⟩
      | 1, hk => cases hk; exact ⟨fun n z => ⟨fun k h => (by cases h), kJ, fJ2, compJ, fJ3⟩, fJ1⟩
      | k + 2, hk => simp at hk
  have hN : nN s := nN_start htsT
  have C : bC cL_law 4 RL wsL_law D cI cJ p s m #[Value.ref b] c meth (fun q : Nat => s.heap.size ≤ q) := ⟨hx, hb, hml, hown, hts, hK, hN, hA, hlocks⟩
  have hS : va_S (fun q : Nat => s.heap.size ≤ q) s.heap s.heap [] := va_S.rf
  have hP : va_P D vwCl [] s.heap := fun k q h => by simp at h
  have hD : va_D (fun q : Nat => s.heap.size ≤ q) [] := ⟨fun i j p q h => by simp at h, fun k q h => by simp at h⟩
  have hl := lv_entry ([.ref b]) (n := 4) (Nat.le_of_ble_eq_true rfl)
  rw [lg_entry_eq]
  generalize (lg_sl ([.ref b]) ++ List.replicate (4 - (lg_sl ([.ref b])).length) Slot.unset).toArray = ls at hl ⊢
  have hl : lv_has ls 4 [(0, .ref b)] := hl
  refine va_new (ci := 9) (fs := [.null, .null, .null, .null, .null, .null, .null, .null, .null, .null, .int 0, .int 0, .int 0, .int 0]) (C := RX9) (T := TX9) (N := 14) hx hb hts inlX9 tyX9 tyX9_ok hown (hts _ qst_c7) (hts _ qst_nX9) (hts _ qst_iX9) hK hP hD hS hA rfl (fun j hj => by rcases (show j = 0 ∨ j = 1 ∨ j = 2 ∨ j = 3 ∨ j = 4 ∨ j = 5 ∨ j = 6 ∨ j = 7 ∨ j = 8 ∨ j = 9 ∨ j = 10 ∨ j = 11 ∨ j = 12 ∨ j = 13 by omega) with rfl | rfl | rfl | rfl | rfl | rfl | rfl | rfl | rfl | rfl | rfl | rfl | rfl | rfl <;> rfl) (Nat.le_of_ble_eq_true rfl) (Nat.le_of_ble_eq_true rfl) dL_law_0 (fun q1 H hP hD hS => ?_)
  have hP : va_P D vwCl [(q1, .inr (9, [.null, .null, .null, .null, .null, .null, .null, .null, .null, .null, .int 0, .int 0, .int 0, .int 0]))] H := hP
  have hD : va_D (fun q : Nat => s.heap.size ≤ q) [(q1, .inr (9, [.null, .null, .null, .null, .null, .null, .null, .null, .null, .null, .int 0, .int 0, .int 0, .int 0]))] := hD
  refine W.widen (k := 1) (n := 14) (Nat.le_of_ble_eq_true rfl) (Nat.le_of_ble_eq_true rfl) ?_
  refine lv_dup hx hb dL_law_3 rfl ?_
  refine cl_n (wc := [(q1, .inr (9, [.null, .null, .null, .null, .null, .null, .null, .null, .null, .null, .int 0, .int 0, .int 0, .int 0]))]) (wr := []) (w1 := fun u => wX9_init cI cJ q1 u) (rn_I (As := []) (b := q1) (rest := [.ref q1]) (wc := [(q1, .inr (9, [.null, .null, .null, .null, .null, .null, .null, .null, .null, .null, .int 0, .int 0, .int 0, .int 0]))]) C hP hD [0] rfl rfl (mX9_init l D cI cJ H.size) 0 gL_law_X9_init qst_iyX9 qst_l9 qst_sX9 rfl rfl ⟨rfl, rfl, (Nat.le_of_ble_eq_true rfl), (Nat.le_of_ble_eq_true rfl)⟩ hdX9_init.2 rfl hl.1 rfl (Nat.le_of_ble_eq_true rfl) ⟨(Nat.le_of_ble_eq_true rfl), (Nat.le_of_ble_eq_true rfl)⟩ dL_law_4) hP hD hS hA [0] [] rfl rfl rfl (by decide) (fun u H locs hP hD hS => ?_)
  have hP : va_P D vwCl (wX9_init cI cJ q1 u) H := hP
  have hD : va_D (fun q : Nat => s.heap.size ≤ q) (wX9_init cI cJ q1 u) := hD
  refine W.widen (k := 32) (n := 52316) (Nat.le_of_ble_eq_true rfl) (Nat.le_of_ble_eq_true rfl) ?_
  refine lv_astore_n (lv' := [(1, .ref q1), (0, .ref b)]) hx hb dL_law_7 rfl hl (by decide) rfl (fun ls hl => ?_)
  refine va_new (ci := 10) (fs := [.null, .int 0, .int 0, .int 0, .int 0, .int 0, .int 0, .int 0, .int 0, .null, .int 0, .int 0, .int 0, .int 0, .null, .int 0, .int 0, .int 0, .int 0, .null, .null, .null, .null, .null, .null, .int 0, .null, .null, .int 0, .int 0, .int 0, .int 0, .null, .long 0]) (C := RX10) (T := TX10) (N := 34) hx hb hts inlX10 tyX10 tyX10_ok hown (hts _ qst_c10) (hts _ qst_nX10) (hts _ qst_iX10) hK hP hD hS hA rfl (fun j hj => by rcases (show j = 0 ∨ j = 1 ∨ j = 2 ∨ j = 3 ∨ j = 4 ∨ j = 5 ∨ j = 6 ∨ j = 7 ∨ j = 8 ∨ j = 9 ∨ j = 10 ∨ j = 11 ∨ j = 12 ∨ j = 13 ∨ j = 14 ∨ j = 15 ∨ j = 16 ∨ j = 17 ∨ j = 18 ∨ j = 19 ∨ j = 20 ∨ j = 21 ∨ j = 22 ∨ j = 23 ∨ j = 24 ∨ j = 25 ∨ j = 26 ∨ j = 27 ∨ j = 28 ∨ j = 29 ∨ j = 30 ∨ j = 31 ∨ j = 32 ∨ j = 33 by omega) with rfl | rfl | rfl | rfl | rfl | rfl | rfl | rfl | rfl | rfl | rfl | rfl | rfl | rfl | rfl | rfl | rfl | rfl | rfl | rfl | rfl | rfl | rfl | rfl | rfl | rfl | rfl | rfl | rfl | rfl | rfl | rfl | rfl | rfl <;> rfl) (Nat.le_of_ble_eq_true rfl) (Nat.le_of_ble_eq_true rfl) dL_law_8 (fun q2 H hP hD hS => ?_)
  have hP : va_P D vwCl (wX9_init cI cJ q1 u ++ [(q2, .inr (10, [.null, .int 0, .int 0, .int 0, .int 0, .int 0, .int 0, .int 0, .int 0, .null, .int 0, .int 0, .int 0, .int 0, .null, .int 0, .int 0, .int 0, .int 0, .null, .null, .null, .null, .null, .null, .int 0, .null, .null, .int 0, .int 0, .int 0, .int 0, .null, .long 0]))]) H := hP
  have hD : va_D (fun q : Nat => s.heap.size ≤ q) (wX9_init cI cJ q1 u ++ [(q2, .inr (10, [.null, .int 0, .int 0, .int 0, .int 0, .int 0, .int 0, .int 0, .int 0, .null, .int 0, .int 0, .int 0, .int 0, .null, .int 0, .int 0, .int 0, .int 0, .null, .null, .null, .null, .null, .null, .int 0, .null, .null, .int 0, .int 0, .int 0, .int 0, .null, .long 0]))]) := hD
  refine W.widen (k := 33) (n := 52350) (Nat.le_of_ble_eq_true rfl) (Nat.le_of_ble_eq_true rfl) ?_
  refine lv_dup hx hb dL_law_11 rfl ?_
  refine cl_n (wc := [(q2, .inr (10, [.null, .int 0, .int 0, .int 0, .int 0, .int 0, .int 0, .int 0, .int 0, .null, .int 0, .int 0, .int 0, .int 0, .null, .int 0, .int 0, .int 0, .int 0, .null, .null, .null, .null, .null, .null, .int 0, .null, .null, .int 0, .int 0, .int 0, .int 0, .null, .long 0]))]) (wr := wX9_init cI cJ q1 u) (w1 := fun v => wX10_init cI cJ q2 v) (rn_I (As := []) (b := q2) (rest := [.ref q2]) (wc := [(q2, .inr (10, [.null, .int 0, .int 0, .int 0, .int 0, .int 0, .int 0, .int 0, .int 0, .null, .int 0, .int 0, .int 0, .int 0, .null, .int 0, .int 0, .int 0, .int 0, .null, .null, .null, .null, .null, .null, .int 0, .null, .null, .int 0, .int 0, .int 0, .int 0, .null, .long 0]))]) C hP hD [32] rfl rfl (mX10_init l D cI cJ H.size) 0 gL_law_X10_init qst_iyX10 qst_l12 qst_sX10 rfl rfl ⟨rfl, rfl, (Nat.le_of_ble_eq_true rfl), (Nat.le_of_ble_eq_true rfl)⟩ hdX10_init.2 rfl hl.1 rfl (Nat.le_of_ble_eq_true rfl) ⟨(Nat.le_of_ble_eq_true rfl), (Nat.le_of_ble_eq_true rfl)⟩ dL_law_12) hP hD hS hA [32] [0, 1, 2, 3, 4, 5, 6, 7, 8, 9, 10, 11, 12, 13, 14, 15, 16, 17, 18, 19, 20, 21, 22, 23, 24, 25, 26, 27, 28, 29, 30, 31] rfl rfl (by decide) (by decide) (fun v H locs hP hD hS => ?_)
  refine W.widen (k := 45) (n := 360136) (Nat.le_of_ble_eq_true rfl) (Nat.le_of_ble_eq_true rfl) ?_
  refine lv_astore_n (lv' := [(2, .ref q2), (1, .ref q1), (0, .ref b)]) hx hb dL_law_15 rfl hl (by decide) rfl (fun ls hl => ?_)
  have hP2 : va_P D vwCl (uL_law cI cJ q1 (u 0) (u 2) (u 3) (u 6) (u 8) (u 12) (u 17) (u 22) (u 25) (u 28) 0 0 0 0 (u 4) (u 5) 0 0 0 0 (fun _ => 0) (u 26) (u 27) 0 0 (u 7) (fun _ => 0) (u 13) (u 14) (u 15) (u 16) 0 0 0 0 0 0 (u 9) (u 10) (u 11) 0 0 (fun _ => 0) (fun _ => 0) (fun _ => 0) (fun _ => 0) (fun _ => 0) (fun _ => 0) (u 1) 0 (fun _ => 0) q2 (v 0) 0 0 0 0 0 0 0 0 (v 1) 0 0 0 0 (v 2) 0 (-1) 0 0 (v 3) (v 4) (v 5) (v 6) (v 7) (v 8) 0 (v 9) (v 10) 0 (-1) 0 0 (v 11) 0 (fun _ => 0) (fun _ => 0) (fun _ => 0) (fun _ => 0) (fun _ => 0) (fun _ => 0) (fun _ => 0) (u 29) (u 30) 0 0 (fun _ => 0) (fun _ => 0) (fun _ => 0) (fun _ => 0) (fun _ => 0) (fun _ => 0) (u 23) (u 24) 0 0 0 (fun _ => 0) (fun _ => 0) (fun _ => 0) (fun _ => 0) (u 18) (u 19) (u 20) (u 21) 0 (fun _ => 0) (fun _ => 0) (fun _ => 0) (fun _ => 0) (fun _ => 0) 0 0 0 0 0 0 0 (fun _ => 0) (fun _ => 0)) H := pk_sub_P hP [0, 4, 5, 26, 7, 8, 13, 9, 15, 10, 11, 16, 17, 14, 1, 2, 32, 35, 38, 37, 39, 40, 41, 33, 29, 30, 27, 31, 28, 44, 36, 23, 24, 25, 42, 43, 18, 19, 6, 20, 21, 22, 3, 12, 34] rfl
  have hD2 : va_D (fun q : Nat => s.heap.size ≤ q) (uL_law cI cJ q1 (u 0) (u 2) (u 3) (u 6) (u 8) (u 12) (u 17) (u 22) (u 25) (u 28) 0 0 0 0 (u 4) (u 5) 0 0 0 0 (fun _ => 0) (u 26) (u 27) 0 0 (u 7) (fun _ => 0) (u 13) (u 14) (u 15) (u 16) 0 0 0 0 0 0 (u 9) (u 10) (u 11) 0 0 (fun _ => 0) (fun _ => 0) (fun _ => 0) (fun _ => 0) (fun _ => 0) (fun _ => 0) (u 1) 0 (fun _ => 0) q2 (v 0) 0 0 0 0 0 0 0 0 (v 1) 0 0 0 0 (v 2) 0 (-1) 0 0 (v 3) (v 4) (v 5) (v 6) (v 7) (v 8) 0 (v 9) (v 10) 0 (-1) 0 0 (v 11) 0 (fun _ => 0) (fun _ => 0) (fun _ => 0) (fun _ => 0) (fun _ => 0) (fun _ => 0) (fun _ => 0) (u 29) (u 30) 0 0 (fun _ => 0) (fun _ => 0) (fun _ => 0) (fun _ => 0) (fun _ => 0) (fun _ => 0) (u 23) (u 24) 0 0 0 (fun _ => 0) (fun _ => 0) (fun _ => 0) (fun _ => 0) (u 18) (u 19) (u 20) (u 21) 0 (fun _ => 0) (fun _ => 0) (fun _ => 0) (fun _ => 0) (fun _ => 0) 0 0 0 0 0 0 0 (fun _ => 0) (fun _ => 0)) := hD.sub [0, 4, 5, 26, 7, 8, 13, 9, 15, 10, 11, 16, 17, 14, 1, 2, 32, 35, 38, 37, 39, 40, 41, 33, 29, 30, 27, 31, 28, 44, 36, 23, 24, 25, 42, 43, 18, 19, 6, 20, 21, 22, 3, 12, 34] (by decide) rfl
  obtain ⟨o, hf, ho⟩ := law_M16 (xs := xs) hL
  refine kL_law_M16 hX hbl hbA C hf (fun H locs ls pc _ _ _ hS hdg => ?_) hP2 hD2 hS (lv_sub hl [2, 1, 0] rfl)
  rw [ho]
  exact va_forget (fun q hq => hS.2.2 q hq) (W.widen (k := 600000) (n := 7302250) (Nat.le_of_ble_eq_true rfl) (Nat.le_of_ble_eq_true rfl) (lw_ret hx hb hr hlocks hdg))
