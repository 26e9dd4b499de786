/-! ===== loops: a run of states ===== -/
theorem lp_seq {α β : Type} {f : α → Option (α ⊕ β)} (st : Nat → α) {N : Nat} {e : β} (h : ∀ i, i < N → f (st i) = some (.inl (st (i + 1)))) (hx : f (st N) = some (.inr e)) : ∀ z k, k ≤ N → N < k + z → lp f z (st k) = some e
  | 0, k, hk, hz => by omega
  | z + 1, k, hk, hz => by
    show (f (st k)).bind (fun o => o.elim (lp f z) some) = some e
    rcases Nat.lt_or_ge k N with q | q
    · rw [h k q]
      exact lp_seq st h hx z (k + 1) q (by omega)
    · have e1 : k = N := by omega
      subst e1
      rw [hx]
      rfl
theorem lp_0 {α β : Type} {f : α → Option (α ⊕ β)} (st : Nat → α) {N z : Nat} {e : β} {s0 : α} (h0 : s0 = st 0) (h : ∀ i, i < N → f (st i) = some (.inl (st (i + 1)))) (hx : f (st N) = some (.inr e)) (hz : N < z) : lp f z s0 = some e := by
  subst h0
  exact lp_seq st h hx z 0 (Nat.zero_le _) (by omega)
theorem lp_b {α β γ : Type} {f : α → Option (α ⊕ β)} {k : β → Option γ} (st : Nat → α) (N : Nat) (e : β) {z : Nat} {s0 : α} (h0 : s0 = st 0) (h : ∀ i, i < N → f (st i) = some (.inl (st (i + 1)))) (hx : f (st N) = some (.inr e)) (hz : N < z) : (lp f z s0).bind k = k e := by
  rw [lp_0 st h0 h hx hz]
  rfl
/-- by a measure: each step keeps I, and goes down; the end has Q -/
theorem lp_inv {α β : Type} {f : α → Option (α ⊕ β)} (I : α → Prop) (μ : α → Nat) (Q : β → Prop) (h : ∀ s, I s → (∃ s', f s = some (.inl s') ∧ I s' ∧ μ s' < μ s) ∨ ∃ e, f s = some (.inr e) ∧ Q e) : ∀ z s, I s → μ s < z → ∃ e, lp f z s = some e ∧ Q e
  | 0, s, _, hz => by omega
  | z + 1, s, hs, hz => by
    rcases h s hs with ⟨s', h1, h2, h3⟩ | ⟨e, h1, h2⟩
    · obtain ⟨e, h4, h5⟩ := lp_inv I μ Q h z s' h2 (by omega)
      refine ⟨e, ?_, h5⟩
      show (f s).bind (fun o => o.elim (lp f z) some) = some e
      rw [h1]
      exact h4
    · refine ⟨e, ?_, h2⟩
      show (f s).bind (fun o => o.elim (lp f z) some) = some e
      rw [h1]
      rfl
theorem agd_in {β : Type} {n : Nat} {i : Nat} {k : Option β} (h : i < n) (hn : n < 2 ^ 31) : agd n (nI i) k = k := by
  unfold agd
  rw [if_neg (nI_in h hn)]
theorem cl_nI {n : Nat} (h : n < 2 ^ 31) : (nI n).toNatClampNeg = n := nI_clamp h
theorem dgd_ne {β : Type} {y : Int32} {k : Option β} (h : ¬ y = 0) : dgd y k = k := if_neg h
theorem zgd_0 {β : Type} {k : Option β} : zgd 0 k = k := if_pos (Or.inl rfl)
theorem zgd_1 {β : Type} {k : Option β} : zgd 1 k = k := if_pos (Or.inr rfl)
theorem zgd_if {β : Type} {c : Prop} {d : Decidable c} {k : Option β} : zgd (@ite Int32 c d 1 0) k = k := by
  by_cases h : c
  · rw [if_pos h]; exact zgd_1
  · rw [if_neg h]; exact zgd_0
/-! ===== digits of four ===== -/
def kd (o i : Nat) : Nat := o / 4 ^ i % 4
theorem kd_lt (o i : Nat) : kd o i < 4 := Nat.mod_lt _ (by decide)
theorem p42 (i : Nat) : 4 ^ i = 2 ^ (2 * i) := by rw [show (4 : Nat) = 2 ^ 2 from rfl, ← Nat.pow_mul]
theorem kd_big {o i n : Nat} (h : o < 4 ^ n) (hi : n ≤ i) : kd o i = 0 := by
  unfold kd
  have h1 : o < 4 ^ i := Nat.lt_of_lt_of_le h (Nat.pow_le_pow_right (by decide) hi)
  rw [Nat.div_eq_of_lt h1]
theorem dc_lo {a k b t : Nat} (hb : b < 4 ^ t) (hk : k < 4) {i : Nat} (hi : i < t) : kd (a * 4 ^ (t + 1) + k * 4 ^ t + b) i = kd b i := by
  unfold kd
  have e : 4 ^ t = 4 ^ i * (4 * 4 ^ (t - i - 1)) := by
    rw [← Nat.mul_assoc, Nat.mul_comm (4 ^ i) 4, Nat.mul_assoc, ← Nat.pow_add]
    rw [Nat.mul_comm 4, ← Nat.pow_succ]
    congr 1
    omega
  have e2 : a * 4 ^ (t + 1) + k * 4 ^ t + b = 4 ^ i * (4 * ((a * 4 + k) * 4 ^ (t - i - 1))) + b := by
    rw [Nat.pow_succ, e]
    simp only [Nat.add_mul, Nat.mul_add, Nat.mul_assoc, Nat.mul_comm, Nat.mul_left_comm]
  rw [e2, Nat.mul_add_div (Nat.pow_pos (by decide))]
  omega
theorem dc_at {a k b t : Nat} (hb : b < 4 ^ t) (hk : k < 4) : kd (a * 4 ^ (t + 1) + k * 4 ^ t + b) t = k := by
  unfold kd
  have e2 : a * 4 ^ (t + 1) + k * 4 ^ t + b = 4 ^ t * (a * 4 + k) + b := by
    rw [Nat.pow_succ]
    simp only [Nat.add_mul, Nat.mul_add, Nat.mul_assoc, Nat.mul_comm, Nat.mul_left_comm]
  rw [e2, Nat.mul_add_div (Nat.pow_pos (by decide)), Nat.div_eq_of_lt hb]
  omega
theorem dc_hi {a k b t : Nat} (hb : b < 4 ^ t) (hk : k < 4) {i : Nat} (hi : t < i) : kd (a * 4 ^ (t + 1) + k * 4 ^ t + b) i = kd a (i - t - 1) := by
  unfold kd
  have e : 4 ^ i = 4 ^ (t + 1) * 4 ^ (i - t - 1) := by
    rw [← Nat.pow_add]
    congr 1
    omega
  have h1 : k * 4 ^ t + b < 4 ^ (t + 1) := by
    rw [Nat.pow_succ]
    have : k * 4 ^ t ≤ 3 * 4 ^ t := Nat.mul_le_mul_right _ (by omega)
    omega
  rw [e, ← Nat.div_div_eq_div_mul, Nat.add_assoc, Nat.mul_comm a, Nat.mul_add_div (Nat.pow_pos (by decide)), Nat.div_eq_of_lt h1, Nat.add_zero]
theorem dc_of (o t : Nat) : o = (o / 4 ^ (t + 1)) * 4 ^ (t + 1) + kd o t * 4 ^ t + o % 4 ^ t := by
  unfold kd
  have h1 := Nat.div_add_mod o (4 ^ t)
  have h2 := Nat.div_add_mod (o / 4 ^ t) 4
  rw [Nat.div_div_eq_div_mul, ← Nat.pow_succ] at h2
  have h3 : 4 ^ (t + 1) = 4 ^ t * 4 := Nat.pow_succ 4 t
  calc o = 4 ^ t * (o / 4 ^ t) + o % 4 ^ t := h1.symm
    _ = 4 ^ t * (4 * (o / 4 ^ (t + 1)) + o / 4 ^ t % 4) + o % 4 ^ t := by rw [h2]
    _ = _ := by rw [h3]; simp only [Nat.mul_add, Nat.mul_assoc, Nat.mul_comm, Nat.mul_left_comm]
theorem kd_mod {o t i : Nat} (hi : i < t) : kd (o % 4 ^ t) i = kd o i := by
  conv => rhs; rw [dc_of o t]
  rw [dc_lo (Nat.mod_lt _ (Nat.pow_pos (by decide))) (kd_lt o t) hi]
theorem kd_ext : ∀ {n o o' : Nat}, o < 4 ^ n → o' < 4 ^ n → (∀ i, i < n → kd o i = kd o' i) → o = o'
  | 0, o, o', h, h', _ => by simp at h h'; omega
  | n + 1, o, o', h, h', hd => by
    have e1 : o % 4 ^ n = o' % 4 ^ n := kd_ext (Nat.mod_lt _ (Nat.pow_pos (by decide))) (Nat.mod_lt _ (Nat.pow_pos (by decide))) (fun i hi => by rw [kd_mod hi, kd_mod hi]; exact hd i (by omega))
    have e2 := hd n (by omega)
    rw [dc_of o n, dc_of o' n, e1, e2, Nat.div_eq_of_lt h, Nat.div_eq_of_lt h']
/-- a digit set -/
theorem kd_set {o t k : Nat} (h0 : kd o t = 0) (hk : k < 4) (i : Nat) : kd (o + k * 4 ^ t) i = if i = t then k else kd o i := by
  have hb : o % 4 ^ t < 4 ^ t := Nat.mod_lt _ (Nat.pow_pos (by decide))
  have e : o + k * 4 ^ t = (o / 4 ^ (t + 1)) * 4 ^ (t + 1) + k * 4 ^ t + o % 4 ^ t := by
    have := dc_of o t
    rw [h0] at this
    omega
  by_cases c : i = t
  · subst c; rw [if_pos rfl, e, dc_at hb hk]
  · rw [if_neg c]
    rcases Nat.lt_or_gt_of_ne c with q | q
    · rw [e, dc_lo hb hk q, kd_mod q]
    · rw [e, dc_hi hb hk q]
      conv => rhs; rw [dc_of o t]
      rw [dc_hi hb (kd_lt o t) q]
/-- a digit cleared -/
theorem kd_clr (o t i : Nat) : kd (o - kd o t * 4 ^ t) i = if i = t then 0 else kd o i := by
  have hb : o % 4 ^ t < 4 ^ t := Nat.mod_lt _ (Nat.pow_pos (by decide))
  have e : o - kd o t * 4 ^ t = (o / 4 ^ (t + 1)) * 4 ^ (t + 1) + 0 * 4 ^ t + o % 4 ^ t := by
    have := dc_of o t
    omega
  by_cases c : i = t
  · subst c; rw [if_pos rfl, e, dc_at hb (by decide)]
  · rw [if_neg c]
    rcases Nat.lt_or_gt_of_ne c with q | q
    · rw [e, dc_lo hb (by decide) q, kd_mod q]
    · rw [e, dc_hi hb (by decide) q]
      conv => rhs; rw [dc_of o t]
      rw [dc_hi hb (kd_lt o t) q]
theorem kd_le (o t : Nat) : kd o t * 4 ^ t ≤ o := by
  have := dc_of o t
  omega
/-- a MOVE -/
def mvd (o f t : Nat) : Nat := o - kd o f * 4 ^ f + kd o f * 4 ^ t
theorem kd_mvd {o f t : Nat} (h : f ≠ t) (h0 : kd o t = 0) (i : Nat) : kd (mvd o f t) i = if i = t then kd o f else if i = f then 0 else kd o i := by
  unfold mvd
  rw [kd_set (by rw [kd_clr, if_neg (Ne.symm h)]; exact h0) (kd_lt o f), kd_clr]
theorem kd_lt_pow : ∀ {n o : Nat}, (∀ i, n ≤ i → kd o i = 0) → o < 4 ^ n := by
  intro n o h
  rcases Nat.lt_or_ge o (4 ^ n) with q | q
  · exact q
  · exfalso
    have e : ∀ k, o < 4 ^ (n + k) → o < 4 ^ n := by
      intro k
      induction k with
      | zero => exact fun h => h
      | succ k ih =>
        intro h1
        refine ih ?_
        have h2 := h (n + k) (by omega)
        have h3 := dc_of o (n + k)
        rw [← Nat.add_assoc] at h1
        rw [h2, Nat.div_eq_of_lt h1] at h3
        have hb : o % 4 ^ (n + k) < 4 ^ (n + k) := Nat.mod_lt _ (Nat.pow_pos (by decide))
        omega
    have h1 : o < 4 ^ (n + o) := Nat.lt_of_lt_of_le (Nat.lt_pow_self (by decide) : o < 4 ^ o) (Nat.pow_le_pow_right (by decide) (by omega))
    have := e o h1
    omega
theorem mvd_lt {n o f t : Nat} (h : o < 4 ^ n) (hf : f < n) (ht : t < n) (hne : f ≠ t) (h0 : kd o t = 0) : mvd o f t < 4 ^ n := by
  refine kd_lt_pow (fun i hi => ?_)
  rw [kd_mvd hne h0, if_neg (by omega), if_neg (by omega)]
  exact kd_big h hi
/-! ===== the digits, as the machine takes them ===== -/
theorem nI_lit (n : Nat) : (OfNat.ofNat n : Int32) = nI n := fa_lit n
theorem at_sh {o i : Nat} (ho : o < 2 ^ 31) (hi : i < 16) : nI o >>> ((2 * nI i) &&& 31) = nI (o / 4 ^ i) := by
  have h1 : (2 : Int32) * nI i = nI (2 * i) := pk_mul 2 i
  rw [h1, pk_shrN ho _ (2 * i) (s_l (2 * i) (by omega)), p42]
theorem at_kd {o i : Nat} (ho : o < 2 ^ 31) (hi : i < 16) : (nI o >>> ((2 * nI i) &&& 31)) &&& 3 = nI (kd o i) := by
  rw [at_sh ho hi, pk_andN (Nat.lt_of_le_of_lt (Nat.div_le_self _ _) (by omega)) 2 rfl]
  rfl
theorem kindAt_nI {o i : Nat} (ho : o < 2 ^ 31) (hi : i < 16) : fX9_kindAt (nI o) (nI i) = nI (kd o i) := at_kd ho hi
theorem at_nI {o i : Nat} (ho : o < 2 ^ 31) (hi : i < 16) : fX10_at (nI o) (nI i) = nI (kd o i) := at_kd ho hi
theorem shl_nI {k i : Nat} (hi : i < 16) (h : k * 4 ^ i < 2 ^ 32) : nI k <<< ((2 * nI i) &&& 31) = nI (k * 4 ^ i) := by
  have h1 : (2 : Int32) * nI i = nI (2 * i) := pk_mul 2 i
  rw [h1, pk_shlN _ (2 * i) (s_l (2 * i) (by omega)) (by rw [← p42]; exact h), p42]
theorem p49 {i : Nat} (h : i < 9) : 4 ^ i ≤ 65536 := Nat.pow_le_pow_right (by decide) (show i ≤ 8 by omega)
theorem afterMove_nI {o f t : Nat} (ho : o < 2 ^ 18) (hf : f < 9) (ht : t < 9) : fX9_afterMove (nI o) (nI f) (nI t) = nI (mvd o f t) := by
  unfold fX9_afterMove
  have h1 := p49 hf
  have h2 := p49 ht
  have h3 := kd_lt o f
  have h4 : kd o f * 4 ^ f ≤ 3 * 65536 := Nat.mul_le_mul (by omega) h1
  have h5 : kd o f * 4 ^ t ≤ 3 * 65536 := Nat.mul_le_mul (by omega) h2
  rw [kindAt_nI (by omega) (by omega), shl_nI (by omega) (by omega), shl_nI (by omega) (by omega), pk_sub (kd_le o f), nI_add]
  rfl
