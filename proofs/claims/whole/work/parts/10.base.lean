abbrev nk_list : List (String × Nat × MethodName × String) := [(RX9, 9, yX5_init, "FrogsOnRing"), (RX9, 18, yX7_init, "FrogsOnRing"), (RX9, 25, yX6_init, "FrogsOnRing"), (RX9, 41, yX4_init, "FrogsOnRing"), (RX9, 73, yX1_init, "FrogsOnRing"), (RX7, 56, yX9_kindOfLetter, "FrogsOnRing"), (RX5, 27, yX9_kindOfLetter, "FrogsOnRing"), (RX4, 55, yX9_kindAt, "FrogsOnRing"), (RX3, 31, yX9_kindAt, "FrogsOnRing"), (RX3, 54, yX9_goesOn, "FrogsOnRing"), (RX3, 39, yX9_goesBack, "FrogsOnRing"), (RX1, 25, yX9_afterMove, "FrogsOnRing"), (RX8, 50, yX9_fillFirst, "FrogsOnRing"), (RX8, 99, yX9_afterMove, "FrogsOnRing"), (RX2, 86, yX9_kindAt, "FrogsOnRing"), (RX2, 104, yX9_afterMove, "FrogsOnRing"), (RX0, 46, yX9_fillFirst, "FrogsOnRing"), (RX0, 78, yX9_kindAt, "FrogsOnRing"), (RX3, 73, yX9_afterMove, "FrogsOnRing"), (RX0, 85, yX9_frogsOf, "FrogsOnRing")]
/-- what the instructions reckon, by short names -/
def i_ushr (x y : Int32) : Int32 := (x.toUInt32 >>> (y.toUInt32 &&& Int32.toUInt32 31)).toInt32
def l_ushr (x : Int64) (y : Int32) : Int64 := (x.toUInt64 >>> (y.toInt64.toUInt64 &&& Int64.toUInt64 63)).toInt64
def l_shl (x : Int64) (y : Int32) : Int64 := x <<< (y.toInt64 &&& 63)
def i_rem (x y : Int32) : Int32 := x - x / y * y
def i_min (x y : Int32) : Int32 := if y < x then y else x
def i_max (x y : Int32) : Int32 := if x < y then y else x
theorem tsw_ne {x v : Int32} {i : Int} (h : ¬ x = v) (hv : v.toInt = i) : x.toInt ≠ i := fun e => h (Int32.toInt_inj.mp (e.trans hv.symm))
section KOP
variable {p : Program} {l : Launch} {e : Env} {R : Room} {s : State} {m : MethodId} {args : Array Value} {below : List Frame} {meth : Method} {c : Code} {H : Heap} {locs : List Loc} {cells slots : Nat} {Q : State → Prop} {cc : ByteArray} {pc : Nat} {ls : Array Slot} {rest : List Value}
theorem lw_irem (hexec : p.tables.exec = Jvm.exec) (hb : c.code = cc) {x y : Int32} (hdg : decode cc pc = .ok (.irem, 1)) (hne : ¬ y = 0)
    (k : W p l e R s m args below meth c H locs cells slots Q (F0 m (pc + 1) ls (.int (i_rem x y) :: rest))) : W p l e R s m args below meth c H locs cells slots Q (F0 m pc ls (.int y :: .int x :: rest)) := lv_irem hexec hb hdg hne k
theorem lw_mmin (hexec : p.tables.exec = Jvm.exec) (hb : c.code = cc) (hml : c.maxLocals = ls.size) {own : String} {index : Nat} (hown : s.vm.findClass own = some m.cls) (hlink : (Cond.methodLink own index Lib.Math.min.name).before args s = true) (hstat : (Cond.static Lib.Math.min.name).before args s = true) (hini : (Cond.initialized "java/lang/Math").before args s = true) (hcode : (Cond.code Lib.Math.min.name Lib.Math.min.code 2 (some .int)).before args s = true)
    (hframes : 1 ≤ R.frames) (hlocals : (rest.map fun v => v.category).sum + 13 ≤ R.locals) (hc : cells ≤ R.cells) (hs : slots ≤ R.slots) {x y : Int32} (hdg : decode cc pc = .ok (.invokestatic index, 3))
    (kk : W p l e R s m args below meth c H locs cells slots Q (F0 m (pc + 3) ls (.int (i_min x y) :: rest))) : W p l e R s m args below meth c H locs cells slots Q (F0 m pc ls (.int y :: .int x :: rest)) := va_mmin hexec hb hml hown hlink hstat hini hcode hframes hlocals hc hs hdg kk
theorem lw_mmax (hexec : p.tables.exec = Jvm.exec) (hb : c.code = cc) (hml : c.maxLocals = ls.size) {own : String} {index : Nat} (hown : s.vm.findClass own = some m.cls) (hlink : (Cond.methodLink own index Lib.Math.max.name).before args s = true) (hstat : (Cond.static Lib.Math.max.name).before args s = true) (hini : (Cond.initialized "java/lang/Math").before args s = true) (hcode : (Cond.code Lib.Math.max.name Lib.Math.max.code 2 (some .int)).before args s = true)
    (hframes : 1 ≤ R.frames) (hlocals : (rest.map fun v => v.category).sum + 13 ≤ R.locals) (hc : cells ≤ R.cells) (hs : slots ≤ R.slots) {x y : Int32} (hdg : decode cc pc = .ok (.invokestatic index, 3))
    (kk : W p l e R s m args below meth c H locs cells slots Q (F0 m (pc + 3) ls (.int (i_max x y) :: rest))) : W p l e R s m args below meth c H locs cells slots Q (F0 m pc ls (.int y :: .int x :: rest)) := va_mmax hexec hb hml hown hlink hstat hini hcode hframes hlocals hc hs hdg kk
end KOP
/-! ===== loops, guards ===== -/
def lp {α β : Type} (f : α → Option (α ⊕ β)) : Nat → α → Option β
  | 0, _ => none
  | n + 1, s => (f s).bind (fun o => o.elim (lp f n) some)
theorem lp_ind {α β : Type} {f : α → Option (α ⊕ β)} {e : β} {P : α → Prop} (h : ∀ s o, f s = some o → (∀ s', o = .inl s' → P s') → (∀ e', o = .inr e' → e' = e) → P s) : ∀ n s, lp f n s = some e → P s
  | 0, _, hn => by cases hn
  | n + 1, s, hn => by
    obtain ⟨o, h1, h2⟩ := Option.bind_eq_some_iff.mp (show (f s).bind (fun o => o.elim (lp f n) some) = some e from hn)
    refine h s o h1 (fun s' hs => ?_) (fun e' he => ?_)
    · subst hs
      exact lp_ind h n s' h2
    · subst he
      exact Option.some.inj h2
/-- a place of a row: inside, or nothing -/
def agd {β : Type} (n : Nat) (i : Int32) (k : Option β) : Option β := if i < 0 ∨ n ≤ i.toNatClampNeg then none else k
theorem agd_some {β : Type} {n : Nat} {i : Int32} {k : Option β} {r : β} (h : agd n i k = some r) : vp_in i n ∧ k = some r := by
  unfold agd at h
  split at h
  · cases h
  · rename_i hn
    exact ⟨hn, h⟩
/-- a divisor that isn't 0 -/
def dgd {β : Type} (y : Int32) (k : Option β) : Option β := if y = 0 then none else k
theorem dgd_some {β : Type} {y : Int32} {k : Option β} {r : β} (h : dgd y k = some r) : ¬ y = 0 ∧ k = some r := by
  unfold dgd at h
  split at h
  · cases h
  · rename_i hn
    exact ⟨hn, h⟩
/-- a truth value: 0 or 1 -/
def zgd {β : Type} (v : Int32) (k : Option β) : Option β := if v = 0 ∨ v = 1 then k else none
theorem zgd_some {β : Type} {v : Int32} {k : Option β} {r : β} (h : zgd v k = some r) : (v = 0 ∨ v = 1) ∧ k = some r := by
  unfold zgd at h
  split at h
  · rename_i hn
    exact ⟨hn, h⟩
  · cases h
/-- a stretch of a row: inside, or nothing -/
def cgd {β : Type} (sp dp n : Int32) (n0 n1 : Nat) (k : Option β) : Option β := if ¬ sp < 0 ∧ ¬ dp < 0 ∧ ¬ n < 0 ∧ sp.toNatClampNeg + n.toNatClampNeg ≤ n0 ∧ dp.toNatClampNeg + n.toNatClampNeg ≤ n1 then k else none
theorem cgd_some {β : Type} {sp dp n : Int32} {n0 n1 : Nat} {k : Option β} {r : β} (h : cgd sp dp n n0 n1 k = some r) : (¬ sp < 0 ∧ ¬ dp < 0 ∧ ¬ n < 0 ∧ sp.toNatClampNeg + n.toNatClampNeg ≤ n0 ∧ dp.toNatClampNeg + n.toNatClampNeg ≤ n1) ∧ k = some r := by
  unfold cgd at h
  split at h
  · rename_i hn
    exact ⟨hn, h⟩
  · cases h
theorem zgd_nar {v : Int32} (h : v = 0 ∨ v = 1) : narrow .boolean (.int v) = .int v := by
  rcases h with rfl | rfl <;> rfl
theorem zgd_fit {v : Int32} (h : v = 0 ∨ v = 1) : fits .boolean (.int v) = true := by
  rcases h with rfl | rfl <;> rfl
theorem ob_some {α β : Type} {a : Option α} {k : α → Option β} {r : β} (h : a.bind k = some r) : ∃ q, a = some q ∧ k q = some r := Option.bind_eq_some_iff.mp h
theorem if_yes {α : Type} {c : Prop} {d : Decidable c} {a b x : α} (hc : c) (h : @ite α c d a b = x) : a = x := by rw [if_pos hc] at h; exact h
theorem if_no {α : Type} {c : Prop} {d : Decidable c} {a b x : α} (hc : ¬ c) (h : @ite α c d a b = x) : b = x := by rw [if_neg hc] at h; exact h
/-! ===== what is carried along ===== -/
def nN (U : State) : Prop := ∀ q ∈ nk_list, va_Nw (.methodLinkNest q.1 q.2.1 q.2.2.1 q.2.2.2) U
theorem nN.warm {s U : State} (hW : s.WarmedH U.vm) (h : nN s) : nN U := fun q hq => va_Nw.warmM hW (h q hq)
theorem nN.same {u U : State} (e : u.vm = U.vm) (h : nN u) : nN U := fun q hq => va_Nw.same rfl e (h q hq)
def bC (cc : ByteArray) (nL : Nat) (own : String) (Ts : List Cond) (D : va_G) (cI cJ : ClassId) (p : Program) (s : State) (m : MethodId) (args : Array Value) (c : Code) (meth : Method) (A : Nat → Prop) : Prop :=
  p.tables.exec = Jvm.exec ∧ c.code = cc ∧ c.maxLocals = nL ∧ s.vm.findClass own = some m.cls ∧ (∀ w ∈ Ts, w.before args s = true) ∧ va_K D vwCl [(cI, .int), (cJ, .long)] s ∧ nN s ∧ (∀ q, s.heap.size ≤ q → A q) ∧ meth.locks = false
def kP (D : va_G) (cI cJ : ClassId) (w : va_W) (sz : Nat) (U : State) : Prop := U.heap.size = sz ∧ va_P D vwCl w U.heap ∧ va_K D vwCl [(cI, .int), (cJ, .long)] U ∧ va_D (fun _ => True) w ∧ nN U
def kB (D : va_G) (A : Nat → Prop) (w : va_W) (t : State) : Prop := va_P D vwCl w t.heap ∧ va_D A w
theorem kP_blind (av : List Value) (D : va_G) (cI cJ : ClassId) (w : va_W) (sz : Nat) : FrameBlind (va_Pc av (kP D cI cJ w sz)) := by
  intro a U g mk q
  obtain ⟨q0, q1, qP, qK, qD, qN⟩ := q
  exact ⟨q0, q1, qP, va_K.moved (u := U) (U := U.calling g mk a) (Vm.Alike.refl U.vm) qK, qD, qN.same (U := U.calling g mk a) rfl⟩
theorem kP_pre {D : va_G} {cI cJ : ClassId} {w : va_W} {H : Heap} {s : State} {A : Nat → Prop} (hP : va_P D vwCl w H) (hD : va_D A w) (hK : va_K D vwCl [(cI, .int), (cJ, .long)] s) (hN : nN s) (av : List Value) : ∀ U : State, U.heap = H → s.WarmedH U.vm → va_Pc av (kP D cI cJ w H.size) av.toArray U := by
  intro U hU hW
  exact ⟨rfl, by rw [hU], by rw [hU]; exact hP, va_K.moved hW.alike hK, hD.weaken (fun _ _ _ _ => trivial), hN.warm hW⟩
/-! ===== a method's contract out of its first block ===== -/
section KM
variable {l : Launch} {y : MethodName} {ws ws' : List Cond} {rm : Room} {cc : ByteArray} {maxL : Nat} {D : va_G} {cI cJ : ClassId} {av : List Value} {w w' : va_W} {sz : Nat}
theorem met_i {r : Int32} (hy : plainName y.cls = true) (hw : ws = Cond.code y cc maxL (some .int) :: ws') (hlen : (lg_sl av).length ≤ maxL)
    (h : ∀ (p : Program) (e : Env) (s : State) (m : MethodId) (below : List Frame) (meth : Method) (c : Code) (A : Nat → Prop) (Q : State → Prop), bC cc maxL y.cls ws D cI cJ p s m av.toArray c meth A →
      (∀ (H : Heap) (locs : List Loc) (ls : Array Slot) (pc : Nat), va_P D vwCl w' H → va_D A w' → va_S A s.heap H locs → decode cc pc = .ok (.ireturn, 1) → W p l e rm s m av.toArray below meth c H locs 0 0 Q (F0 m pc ls [.int r])) →
      ∀ ls : Array Slot, lv_has ls maxL (lv_args 0 av) → va_P D vwCl w s.heap → va_D A w → va_S A s.heap s.heap [] → W p l e rm s m av.toArray below meth c s.heap [] 0 0 Q (F0 m 0 ls [])) :
    Met l y ws rm (va_Pc av (kP D cI cJ w sz)) (va_Qi (fun r' (_ : Unit) => r' = r) (fun _ t => kB D (va_A w sz) w' t) (va_A w sz)) 0 0 (va_A w sz) := by
  refine Met.ofW (cc := cc) (maxL := maxL) (ret := some .int) hy hw ?_
  intro p e s m args below meth c s₁ B hml hv
  obtain ⟨rfl, hsz, hP, hK, hD0, hN⟩ := hv
  subst hsz
  have hlocks := B.notSynchronized
  rw [lg_entry_eq]
  refine h p e s m below meth c (va_A w s.heap.size) _ ⟨B.exec, B.bytes, hml, findClass_of_methodNamed B.named, atoms_spec (ws := ws) B.pre, hK, hN, fun q hq => Or.inr hq, hlocks⟩ ?_ _ (lv_entry av hlen) hP hD0.self va_S.rf
  intro H locs ls pc hP' hD' hS' hdg
  exact W.iret B.exec B.bytes B.returns (fun t ht hW => ⟨⟨r, (), rfl, rfl, ⟨by rw [ht]; exact hP', hD'⟩⟩, hS'.F ht⟩) hS'.2.2 hdg
theorem met_z {r : Int32} (hy : plainName y.cls = true) (hw : ws = Cond.code y cc maxL (some .boolean) :: ws') (hlen : (lg_sl av).length ≤ maxL)
    (h : ∀ (p : Program) (e : Env) (s : State) (m : MethodId) (below : List Frame) (meth : Method) (c : Code) (A : Nat → Prop) (Q : State → Prop), bC cc maxL y.cls ws D cI cJ p s m av.toArray c meth A →
      (∀ (H : Heap) (locs : List Loc) (ls : Array Slot) (pc : Nat), (r = 0 ∨ r = 1) → va_P D vwCl w' H → va_D A w' → va_S A s.heap H locs → decode cc pc = .ok (.ireturn, 1) → W p l e rm s m av.toArray below meth c H locs 0 0 Q (F0 m pc ls [.int r])) →
      ∀ ls : Array Slot, lv_has ls maxL (lv_args 0 av) → va_P D vwCl w s.heap → va_D A w → va_S A s.heap s.heap [] → W p l e rm s m av.toArray below meth c s.heap [] 0 0 Q (F0 m 0 ls [])) :
    Met l y ws rm (va_Pc av (kP D cI cJ w sz)) (va_Qi (fun r' (_ : Unit) => r' = r) (fun _ t => kB D (va_A w sz) w' t) (va_A w sz)) 0 0 (va_A w sz) := by
  refine Met.ofW (cc := cc) (maxL := maxL) (ret := some .boolean) hy hw ?_
  intro p e s m args below meth c s₁ B hml hv
  obtain ⟨rfl, hsz, hP, hK, hD0, hN⟩ := hv
  subst hsz
  have hlocks := B.notSynchronized
  rw [lg_entry_eq]
  refine h p e s m below meth c (va_A w s.heap.size) _ ⟨B.exec, B.bytes, hml, findClass_of_methodNamed B.named, atoms_spec (ws := ws) B.pre, hK, hN, fun q hq => Or.inr hq, hlocks⟩ ?_ _ (lv_entry av hlen) hP hD0.self va_S.rf
  intro H locs ls pc hz hP' hD' hS' hdg
  exact W.zret B.exec B.bytes B.returns (zgd_nar hz) (fun t ht hW => ⟨⟨r, (), rfl, rfl, ⟨by rw [ht]; exact hP', hD'⟩⟩, hS'.F ht⟩) hS'.2.2 hdg
theorem met_l {r : Int64} (hy : plainName y.cls = true) (hw : ws = Cond.code y cc maxL (some .long) :: ws') (hlen : (lg_sl av).length ≤ maxL)
    (h : ∀ (p : Program) (e : Env) (s : State) (m : MethodId) (below : List Frame) (meth : Method) (c : Code) (A : Nat → Prop) (Q : State → Prop), bC cc maxL y.cls ws D cI cJ p s m av.toArray c meth A →
      (∀ (H : Heap) (locs : List Loc) (ls : Array Slot) (pc : Nat), va_P D vwCl w' H → va_D A w' → va_S A s.heap H locs → decode cc pc = .ok (.lreturn, 1) → W p l e rm s m av.toArray below meth c H locs 0 0 Q (F0 m pc ls [.long r])) →
      ∀ ls : Array Slot, lv_has ls maxL (lv_args 0 av) → va_P D vwCl w s.heap → va_D A w → va_S A s.heap s.heap [] → W p l e rm s m av.toArray below meth c s.heap [] 0 0 Q (F0 m 0 ls [])) :
    Met l y ws rm (va_Pc av (kP D cI cJ w sz)) (va_Ql (fun r' (_ : Unit) => r' = r) (fun _ t => kB D (va_A w sz) w' t) (va_A w sz)) 0 0 (va_A w sz) := by
  refine Met.ofW (cc := cc) (maxL := maxL) (ret := some .long) hy hw ?_
  intro p e s m args below meth c s₁ B hml hv
  obtain ⟨rfl, hsz, hP, hK, hD0, hN⟩ := hv
  subst hsz
  have hlocks := B.notSynchronized
  rw [lg_entry_eq]
  refine h p e s m below meth c (va_A w s.heap.size) _ ⟨B.exec, B.bytes, hml, findClass_of_methodNamed B.named, atoms_spec (ws := ws) B.pre, hK, hN, fun q hq => Or.inr hq, hlocks⟩ ?_ _ (lv_entry av hlen) hP hD0.self va_S.rf
  intro H locs ls pc hP' hD' hS' hdg
  exact W.lret B.exec B.bytes B.returns (fun t ht hW => ⟨⟨r, (), rfl, rfl, ⟨by rw [ht]; exact hP', hD'⟩⟩, hS'.F ht⟩) hS'.2.2 hdg
theorem met_v (hy : plainName y.cls = true) (hw : ws = Cond.code y cc maxL none :: ws') (hlen : (lg_sl av).length ≤ maxL)
    (h : ∀ (p : Program) (e : Env) (s : State) (m : MethodId) (below : List Frame) (meth : Method) (c : Code) (A : Nat → Prop) (Q : State → Prop), bC cc maxL y.cls ws D cI cJ p s m av.toArray c meth A →
      (∀ (H : Heap) (locs : List Loc) (ls : Array Slot) (pc : Nat), va_P D vwCl w' H → va_D A w' → va_S A s.heap H locs → decode cc pc = .ok (.return_, 1) → W p l e rm s m av.toArray below meth c H locs 0 0 Q (F0 m pc ls [])) →
      ∀ ls : Array Slot, lv_has ls maxL (lv_args 0 av) → va_P D vwCl w s.heap → va_D A w → va_S A s.heap s.heap [] → W p l e rm s m av.toArray below meth c s.heap [] 0 0 Q (F0 m 0 ls [])) :
    Met l y ws rm (va_Pc av (kP D cI cJ w sz)) (va_Qv (fun (_ : Unit) => True) (fun _ t => kB D (va_A w sz) w' t) (va_A w sz)) 0 0 (va_A w sz) := by
  refine Met.ofW (cc := cc) (maxL := maxL) (ret := none) hy hw ?_
  intro p e s m args below meth c s₁ B hml hv
  obtain ⟨rfl, hsz, hP, hK, hD0, hN⟩ := hv
  subst hsz
  have hlocks := B.notSynchronized
  rw [lg_entry_eq]
  refine h p e s m below meth c (va_A w s.heap.size) _ ⟨B.exec, B.bytes, hml, findClass_of_methodNamed B.named, atoms_spec (ws := ws) B.pre, hK, hN, fun q hq => Or.inr hq, hlocks⟩ ?_ _ (lv_entry av hlen) hP hD0.self va_S.rf
  intro H locs ls pc hP' hD' hS' hdg
  exact W.vret B.exec B.bytes B.returns (fun t ht hW => ⟨⟨(), rfl, trivial, ⟨by rw [ht]; exact hP', hD'⟩⟩, hS'.F ht⟩) hS'.2.2 hdg
end KM
/-! ===== behind a call: the callee's cells at their places, the others as they were ===== -/
def lk (k : Nat) : List Nat → va_W → Option (Nat × va_E)
  | i :: is, x :: xs => match Nat.beq i k with
    | true => some x
    | false => lk k is xs
  | _, _ => none
def rq (is : List Nat) (w1 : va_W) : Nat → va_W → va_W
  | _, [] => []
  | k, a :: t => (match lk k is w1 with | some x => x | none => a) :: rq is w1 (k + 1) t
def rp (ws : va_W) (is : List Nat) (w1 : va_W) : va_W := rq is w1 0 ws
theorem lk_some : ∀ {k : Nat} {is : List Nat} {w1 : va_W} {q : Nat × va_E}, lk k is w1 = some q → ∃ j : Nat, is[j]? = some k ∧ w1[j]? = some q
  | k, [], w1, q, h => by simp [lk] at h
  | k, i :: is, [], q, h => by simp [lk] at h
  | k, i :: is, x :: xs, q, h => by
    unfold lk at h
    split at h
    · rename_i hb
      have hb := Nat.eq_of_beq_eq_true hb
      exact ⟨0, by simp [hb], by simpa using h⟩
    · obtain ⟨j, h1, h2⟩ := lk_some h
      exact ⟨j + 1, by simpa using h1, by simpa using h2⟩
theorem lk_none : ∀ {k : Nat} {is : List Nat} {w1 : va_W}, lk k is w1 = none → ∀ j : Nat, is[j]? = some k → w1[j]? = none
  | k, [], w1, h, j, hj => by simp at hj
  | k, i :: is, [], h, j, hj => by simp
  | k, i :: is, x :: xs, h, j, hj => by
    unfold lk at h
    split at h
    · cases h
    · rename_i hb
      cases j with
      | zero =>
        have e : i = k := by simpa using hj
        rw [e, Nat.beq_refl] at hb
        cases hb
      | succ j => simpa using lk_none h j (by simpa using hj)
theorem rq_get (is : List Nat) (w1 : va_W) : ∀ (ws : va_W) (k0 k : Nat) (q : Nat × va_E), (rq is w1 k0 ws)[k]? = some q → (∃ j : Nat, is[j]? = some (k0 + k) ∧ w1[j]? = some q) ∨ (ws[k]? = some q ∧ ∀ j : Nat, is[j]? = some (k0 + k) → w1[j]? = none)
  | [], k0, k, q, h => by simp [rq] at h
  | a :: t, k0, k, q, h => by
    unfold rq at h
    cases k with
    | zero =>
      rw [List.getElem?_cons_zero] at h
      split at h
      · rename_i x hx
        have e := Option.some.inj h
        subst e
        exact Or.inl (lk_some hx)
      · rename_i hx
        exact Or.inr ⟨by simpa using h, lk_none hx⟩
    | succ k =>
      rw [List.getElem?_cons_succ] at h
      have ih := rq_get is w1 t (k0 + 1) k q h
      rw [Nat.add_right_comm, Nat.add_assoc] at ih
      simpa using ih
theorem rp_get (is : List Nat) (w1 ws : va_W) (k : Nat) (q : Nat × va_E) (h : (rp ws is w1)[k]? = some q) : (∃ j : Nat, is[j]? = some k ∧ w1[j]? = some q) ∨ (ws[k]? = some q ∧ ∀ j : Nat, is[j]? = some k → w1[j]? = none) := by
  have h1 := rq_get is w1 ws 0 k q h
  rw [Nat.zero_add] at h1
  exact h1
theorem rp_join {A0 : Nat → Prop} {D : va_G} {cl : List vw_C} {ws wc w1 : va_W} {H H1 : Heap} (hP : va_P D cl ws H) (hD : va_D A0 ws) (isC : List Nat) (hC : isC.map (fun i => ws[i]?) = wc.map some) (ha : w1.map (fun q => q.1) = wc.map (fun q => q.1))
    (hk : ∀ q : Nat, q < H.size → ¬ va_A wc H.size q → H1[q]? = H[q]?) (hP1 : va_P D cl w1 H1) : va_P D cl (rp ws isC w1) H1 ∧ va_D A0 (rp ws isC w1) := by
  have hlen : w1.length = wc.length := by simpa using congrArg List.length ha
  have at' : ∀ (j i : Nat), isC[j]? = some i → ∃ q, wc[j]? = some q ∧ ws[i]? = some q := by
    intro j i hj
    have h1 : (isC.map (fun i => ws[i]?))[j]? = some (ws[i]?) := by rw [List.getElem?_map, hj]; rfl
    rw [hC, List.getElem?_map] at h1
    cases hw : wc[j]? with
    | none => rw [hw] at h1; cases h1
    | some q => rw [hw] at h1; exact ⟨q, rfl, (Option.some.inj h1).symm⟩
  have ad : ∀ (k : Nat) (q : Nat × va_E), (rp ws isC w1)[k]? = some q → ∃ q', ws[k]? = some q' ∧ q'.1 = q.1 := by
    intro k q h
    rcases rp_get isC w1 ws k q h with ⟨j, h1, h2⟩ | ⟨h1, -⟩
    · obtain ⟨q', h3, h4⟩ := at' j k h1
      refine ⟨q', h4, ?_⟩
      have h5 : (w1.map (fun q => q.1))[j]? = some q.1 := by rw [List.getElem?_map, h2]; rfl
      rw [ha, List.getElem?_map, h3] at h5
      exact Option.some.inj h5
    · exact ⟨q, h1, rfl⟩
  refine ⟨fun k q h => ?_, fun i j x y hx hy hxy => ?_, fun k q h => ?_⟩
  · rcases rp_get isC w1 ws k q h with ⟨j, h1, h2⟩ | ⟨h1, h2⟩
    · exact hP1 j q h2
    · have hl := (hP k q h1).lt
      refine (hP k q h1).kept (hk q.1 hl (fun hA => ?_))
      rcases hA with ⟨k2, e, hA⟩ | hA
      · have hj : ∃ i, isC[k2]? = some i ∧ ws[i]? = some (q.1, e) := by
          have h3 : (wc.map some)[k2]? = some (some (q.1, e)) := by rw [List.getElem?_map, hA]; rfl
          rw [← hC, List.getElem?_map] at h3
          cases hi : isC[k2]? with
          | none => rw [hi] at h3; cases h3
          | some i => rw [hi] at h3; exact ⟨i, rfl, Option.some.inj h3⟩
        obtain ⟨i, hi, hw⟩ := hj
        have hik := hD.1 k i q (q.1, e) h1 hw rfl
        subst hik
        have h4 := h2 k2 hi
        have h5 : k2 < wc.length := (List.getElem?_eq_some_iff.mp hA).1
        rw [List.getElem?_eq_none_iff] at h4
        omega
      · omega
  · obtain ⟨x', hx1, hx2⟩ := ad i x hx
    obtain ⟨y', hy1, hy2⟩ := ad j y hy
    exact hD.1 i j x' y' hx1 hy1 (by rw [hx2, hy2, hxy])
  · obtain ⟨q', h1, h2⟩ := ad k q h
    rw [← h2]
    exact hD.2 k q' h1
section KC
variable {p : Program} {l : Launch} {e : Env} {R : Room} {s : State} {m : MethodId} {args : Array Value} {below : List Frame} {meth : Method} {c : Code} {H : Heap} {locs : List Loc} {Q : State → Prop} {D : va_G} {cI cJ : ClassId} {A : Nat → Prop} {ws wc w1 : va_W} {ls : Array Slot} {pc : Nat} {st0 rest : List Value} {av : Array Value}
theorem cl_i {r : Int32} (hr : va_Run p l e R s m args below meth c H locs 0 0 0 0 (F0 m pc ls st0) rest (va_Qi (fun r' (_ : Unit) => r' = r) (fun _ t => kB D (va_A wc H.size) w1 t) (va_A wc H.size) av) (va_A wc H.size)) (hP : va_P D vwCl ws H) (hD : va_D A ws) (hS : va_S A s.heap H locs) (hA : ∀ q, s.heap.size ≤ q → A q) (isC : List Nat) (hC : isC.map (fun i => ws[i]?) = wc.map some) (ha : w1.map (fun q => q.1) = wc.map (fun q => q.1))
    (kk : ∀ (H : Heap) (locs : List Loc), va_P D vwCl (rp ws isC w1) H → va_D A (rp ws isC w1) → va_S A s.heap H locs → W p l e R s m args below meth c H locs 0 0 Q (F0 m (pc + 3) ls (.int r :: rest))) : W p l e R s m args below meth c H locs 0 0 Q (F0 m pc ls st0) := by
  have hF := va_free (wc := wc) hD hS hA isC hC
  refine va_calli hr hS (fun q _ h => hF q h) hF (fun r1 u t H1 locs1 ht hvm hw hB hz1 hk1 hS1 => ?_)
  subst hw
  have hP1 : va_P D vwCl w1 H1 := by rw [← ht]; exact hB.1
  obtain ⟨hP2, hD2⟩ := rp_join hP hD isC hC ha hk1 hP1
  exact kk H1 locs1 hP2 hD2 hS1
theorem cl_l {r : Int64} (hr : va_Run p l e R s m args below meth c H locs 0 0 0 0 (F0 m pc ls st0) rest (va_Ql (fun r' (_ : Unit) => r' = r) (fun _ t => kB D (va_A wc H.size) w1 t) (va_A wc H.size) av) (va_A wc H.size)) (hP : va_P D vwCl ws H) (hD : va_D A ws) (hS : va_S A s.heap H locs) (hA : ∀ q, s.heap.size ≤ q → A q) (isC : List Nat) (hC : isC.map (fun i => ws[i]?) = wc.map some) (ha : w1.map (fun q => q.1) = wc.map (fun q => q.1))
    (kk : ∀ (H : Heap) (locs : List Loc), va_P D vwCl (rp ws isC w1) H → va_D A (rp ws isC w1) → va_S A s.heap H locs → W p l e R s m args below meth c H locs 0 0 Q (F0 m (pc + 3) ls (.long r :: rest))) : W p l e R s m args below meth c H locs 0 0 Q (F0 m pc ls st0) := by
  have hF := va_free (wc := wc) hD hS hA isC hC
  refine va_calll hr hS (fun q _ h => hF q h) hF (fun r1 u t H1 locs1 ht hvm hw hB hz1 hk1 hS1 => ?_)
  subst hw
  have hP1 : va_P D vwCl w1 H1 := by rw [← ht]; exact hB.1
  obtain ⟨hP2, hD2⟩ := rp_join hP hD isC hC ha hk1 hP1
  exact kk H1 locs1 hP2 hD2 hS1
theorem cl_v (hr : va_Run p l e R s m args below meth c H locs 0 0 0 0 (F0 m pc ls st0) rest (va_Qv (fun (_ : Unit) => True) (fun _ t => kB D (va_A wc H.size) w1 t) (va_A wc H.size) av) (va_A wc H.size)) (hP : va_P D vwCl ws H) (hD : va_D A ws) (hS : va_S A s.heap H locs) (hA : ∀ q, s.heap.size ≤ q → A q) (isC : List Nat) (hC : isC.map (fun i => ws[i]?) = wc.map some) (ha : w1.map (fun q => q.1) = wc.map (fun q => q.1))
    (kk : ∀ (H : Heap) (locs : List Loc), va_P D vwCl (rp ws isC w1) H → va_D A (rp ws isC w1) → va_S A s.heap H locs → W p l e R s m args below meth c H locs 0 0 Q (F0 m (pc + 3) ls rest)) : W p l e R s m args below meth c H locs 0 0 Q (F0 m pc ls st0) := by
  have hF := va_free (wc := wc) hD hS hA isC hC
  refine va_callv hr hS (fun q _ h => hF q h) hF (fun u t H1 locs1 ht hvm hw hB hz1 hk1 hS1 => ?_)
  have hP1 : va_P D vwCl w1 H1 := by rw [← ht]; exact hB.1
  obtain ⟨hP2, hD2⟩ := rp_join hP hD isC hC ha hk1 hP1
  exact kk H1 locs1 hP2 hD2 hS1
variable {cc bytes : ByteArray} {nL maxL n index : Nat} {own Cn host : String} {Ts wY wY' : List Cond} {y : MethodName} {ret : Option FieldType} {rm : Room} {Qc : Array Value → State → Outcome → State → Prop} {free : Addr → Prop} {As : List Value} {b : Nat} {ci q0 : Nat} {qc : vw_C} {fs : List Value}
theorem pk_sub_P (hP : va_P D vwCl ws H) (isC : List Nat) (hC : isC.map (fun i => ws[i]?) = wc.map some) : va_P D vwCl wc H := by
  refine hP.sub isC ?_
  have h0 : (isC.map (fun i => ws[i]?)).filterMap id = (wc.map some).filterMap id := by rw [hC]
  simpa [List.filterMap_map] using h0
theorem rn_V (C : bC cc nL own Ts D cI cJ p s m args c meth A) (hP : va_P D vwCl ws H) (hD : va_D A ws) (isC : List Nat) (hnd : va_nd isC = true) (hC : isC.map (fun i => ws[i]?) = wc.map some) (hcl : vwCl[ci]? = some qc) (hq : ws[q0]? = some (b, .inr (ci, fs))) (hM : Met l y wY rm (va_Pc (.ref b :: As) (kP D cI cJ wc H.size)) Qc 0 0 free) (n : Nat) (hG : GoodIn Ts (wsV own index qc.1 y wY)) (hw : wY = Cond.code y bytes maxL ret :: wY') (hrm : rm.cells = 0 ∧ rm.slots = 0 ∧ rm.frames + 1 ≤ R.frames ∧ 8 + (maxL + 11) + rm.locals ≤ R.locals)
    (hd : y.cls = qc.1 ∧ y.cls ≠ "java/lang/invoke/MethodHandle" ∧ y.cls ≠ "java/lang/invoke/VarHandle" ∧ (parseMethodDescriptor y.desc).map (fun d => d.parameters.length) = some n) (hn : As.length = n) (hsz : ls.size = nL) (hst : st0 = As.reverse ++ .ref b :: rest) (hroom : (rest.map fun v => v.category).sum ≤ 8) (hdg : decode cc pc = .ok (.invokevirtual index, 3)) :
    va_Run p l e R s m args below meth c H locs 0 0 0 0 (F0 m pc ls st0) rest (Qc (Value.ref b :: As).toArray) free := by
  obtain ⟨hx, hb, hml, hown, hts, hK, hN, hA, -⟩ := C
  exact va_runV ⟨hx, hb, hml, hown, hts⟩ hM (cwV n hts hG hw hrm.1 hrm.2.1 hd hrm.2.2) ⟨kP_blind _ _ _ _ _ _, va_recv hK hP hcl hq, kP_pre (pk_sub_P hP isC hC) (hD.sub isC hnd hC) hK hN _⟩ rfl hn hsz hst (lv_room hroom) hdg ⟨Nat.zero_le _, Nat.zero_le _⟩
theorem rn_S (C : bC cc nL own Ts D cI cJ p s m args c meth A) (hP : va_P D vwCl ws H) (hD : va_D A ws) (isC : List Nat) (hnd : va_nd isC = true) (hC : isC.map (fun i => ws[i]?) = wc.map some) (hM : Met l y wY rm (va_Pc As (kP D cI cJ wc H.size)) Qc 0 0 free) (n : Nat) (hG : GoodIn Ts (va_wsS own index y wY)) (hw : wY = Cond.code y bytes maxL ret :: wY') (hrm : rm.cells = 0 ∧ rm.slots = 0 ∧ rm.frames + 1 ≤ R.frames ∧ 8 + (maxL + 11) + rm.locals ≤ R.locals)
    (hd : y.cls ≠ "java/lang/invoke/MethodHandle" ∧ y.cls ≠ "java/lang/invoke/VarHandle" ∧ (parseMethodDescriptor y.desc).map (fun d => d.parameters.length) = some n) (hn : As.length = n) (hsz : ls.size = nL) (hst : st0 = As.reverse ++ rest) (hroom : (rest.map fun v => v.category).sum ≤ 8) (hdg : decode cc pc = .ok (.invokestatic index, 3)) :
    va_Run p l e R s m args below meth c H locs 0 0 0 0 (F0 m pc ls st0) rest (Qc As.toArray) free := by
  obtain ⟨hx, hb, hml, hown, hts, hK, hN, hA, -⟩ := C
  exact va_runS ⟨hx, hb, hml, hown, hts⟩ hM (va_cwS n hts hG hw hrm.1 hrm.2.1 hd hrm.2.2) ⟨kP_blind _ _ _ _ _ _, kP_pre (pk_sub_P hP isC hC) (hD.sub isC hnd hC) hK hN _⟩ rfl hn hsz hst (lv_room hroom) hdg ⟨Nat.zero_le _, Nat.zero_le _⟩
theorem rn_N (C : bC cc nL own Ts D cI cJ p s m args c meth A) (hP : va_P D vwCl ws H) (hD : va_D A ws) (isC : List Nat) (hnd : va_nd isC = true) (hC : isC.map (fun i => ws[i]?) = wc.map some) (hM : Met l y wY rm (va_Pc As (kP D cI cJ wc H.size)) Qc 0 0 free) (n : Nat) (hG : GoodIn Ts wY) (hini : Cond.initialized y.cls ∈ Ts) (hsta : Cond.static y ∈ Ts) (kn : Nat) (hkn : nk_list[kn]? = some (own, index, y, host)) (hw : wY = Cond.code y bytes maxL ret :: wY') (hrm : rm.cells = 0 ∧ rm.slots = 0 ∧ rm.frames + 1 ≤ R.frames ∧ 8 + (maxL + 11) + rm.locals ≤ R.locals)
    (hd : y.cls ≠ "java/lang/invoke/MethodHandle" ∧ y.cls ≠ "java/lang/invoke/VarHandle" ∧ (parseMethodDescriptor y.desc).map (fun d => d.parameters.length) = some n) (hn : As.length = n) (hsz : ls.size = nL) (hst : st0 = As.reverse ++ rest) (hroom : (rest.map fun v => v.category).sum ≤ 8) (hdg : decode cc pc = .ok (.invokestatic index, 3)) :
    va_Run p l e R s m args below meth c H locs 0 0 0 0 (F0 m pc ls st0) rest (Qc As.toArray) free := by
  obtain ⟨hx, hb, hml, hown, hts, hK, hN, hA, -⟩ := C
  exact va_runSN ⟨hx, hb, hml, hown, hts⟩ hM ⟨va_cnB (host := host) n hts hG hw hrm.1 hrm.2.1 (hN _ (List.mem_of_getElem? hkn)) (hts _ hini) hd hrm.2.2, hts _ hsta, trivial⟩ ⟨kP_blind _ _ _ _ _ _, kP_pre (pk_sub_P hP isC hC) (hD.sub isC hnd hC) hK hN _⟩ rfl hn hsz hst (lv_room hroom) hdg ⟨Nat.zero_le _, Nat.zero_le _⟩
end KC
