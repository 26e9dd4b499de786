/-! ===== how many ORDERS there can be ===== -/
def fac : Nat → Nat
  | 0 => 1
  | n + 1 => (n + 1) * fac n
theorem fac_pos : ∀ n, 0 < fac n
  | 0 => by decide
  | n + 1 => Nat.mul_pos (by omega) (fac_pos n)
def cnt : Nat → Nat → Nat → Nat → Nat → Nat
  | 0, e, a, b, d => if e = 0 ∧ a = 0 ∧ b = 0 ∧ d = 0 then 1 else 0
  | n + 1, e, a, b, d => (if e = 0 then 0 else cnt n (e - 1) a b d) + (if a = 0 then 0 else cnt n e (a - 1) b d) + (if b = 0 then 0 else cnt n e a (b - 1) d) + (if d = 0 then 0 else cnt n e a b (d - 1))
theorem fac_pred {e : Nat} (h : e ≠ 0) : fac e = e * fac (e - 1) := by
  cases e with
  | zero => exact absurd rfl h
  | succ k => rfl
theorem cnt_le : ∀ n e a b d, e + a + b + d = n → cnt n e a b d * (fac e * (fac a * (fac b * fac d))) ≤ fac n
  | 0, e, a, b, d, h => by
    have : e = 0 ∧ a = 0 ∧ b = 0 ∧ d = 0 := by omega
    obtain ⟨rfl, rfl, rfl, rfl⟩ := this
    decide
  | n + 1, e, a, b, d, h => by
    simp only [cnt]
    rw [Nat.add_mul, Nat.add_mul, Nat.add_mul]
    have h1 : (if e = 0 then 0 else cnt n (e - 1) a b d) * (fac e * (fac a * (fac b * fac d))) ≤ e * fac n := by
      split
      · simp
      · rename_i q
        have ih := cnt_le n (e - 1) a b d (by omega)
        rw [fac_pred q]
        calc cnt n (e - 1) a b d * (e * fac (e - 1) * (fac a * (fac b * fac d))) = e * (cnt n (e - 1) a b d * (fac (e - 1) * (fac a * (fac b * fac d)))) := by
              simp only [Nat.mul_assoc, Nat.mul_comm, Nat.mul_left_comm]
          _ ≤ e * fac n := Nat.mul_le_mul_left e ih
    have h2 : (if a = 0 then 0 else cnt n e (a - 1) b d) * (fac e * (fac a * (fac b * fac d))) ≤ a * fac n := by
      split
      · simp
      · rename_i q
        have ih := cnt_le n e (a - 1) b d (by omega)
        rw [fac_pred q]
        calc cnt n e (a - 1) b d * (fac e * (a * fac (a - 1) * (fac b * fac d))) = a * (cnt n e (a - 1) b d * (fac e * (fac (a - 1) * (fac b * fac d)))) := by
              simp only [Nat.mul_assoc, Nat.mul_comm, Nat.mul_left_comm]
          _ ≤ a * fac n := Nat.mul_le_mul_left a ih
    have h3 : (if b = 0 then 0 else cnt n e a (b - 1) d) * (fac e * (fac a * (fac b * fac d))) ≤ b * fac n := by
      split
      · simp
      · rename_i q
        have ih := cnt_le n e a (b - 1) d (by omega)
        rw [fac_pred q]
        calc cnt n e a (b - 1) d * (fac e * (fac a * (b * fac (b - 1) * fac d))) = b * (cnt n e a (b - 1) d * (fac e * (fac a * (fac (b - 1) * fac d)))) := by
              simp only [Nat.mul_assoc, Nat.mul_comm, Nat.mul_left_comm]
          _ ≤ b * fac n := Nat.mul_le_mul_left b ih
    have h4 : (if d = 0 then 0 else cnt n e a b (d - 1)) * (fac e * (fac a * (fac b * fac d))) ≤ d * fac n := by
      split
      · simp
      · rename_i q
        have ih := cnt_le n e a b (d - 1) (by omega)
        rw [fac_pred q]
        calc cnt n e a b (d - 1) * (fac e * (fac a * (fac b * (d * fac (d - 1))))) = d * (cnt n e a b (d - 1) * (fac e * (fac a * (fac b * fac (d - 1))))) := by
              simp only [Nat.mul_assoc, Nat.mul_comm, Nat.mul_left_comm]
          _ ≤ d * fac n := Nat.mul_le_mul_left d ih
    have h5 : fac (n + 1) = e * fac n + a * fac n + b * fac n + d * fac n := by
      rw [← Nat.add_mul, ← Nat.add_mul, ← Nat.add_mul, h]
      rfl
    omega
set_option maxRecDepth 20000 in
theorem fac_7560 : ∀ e : Fin 10, ∀ a : Fin 10, ∀ b : Fin 10, ∀ d : Fin 10, e.val + a.val + b.val + d.val ≤ 9 → fac (e.val + a.val + b.val + d.val) ≤ 7560 * (fac e.val * (fac a.val * (fac b.val * fac d.val))) := by decide +kernel
set_option maxRecDepth 20000 in
theorem fac_1680 : ∀ e : Fin 10, ∀ a : Fin 10, ∀ b : Fin 10, e.val + a.val + b.val ≤ 9 → fac (e.val + a.val + b.val + 0) ≤ 1680 * (fac e.val * (fac a.val * (fac b.val * fac 0))) := by decide +kernel
theorem cnt_7560 {n e a b d : Nat} (hn : n ≤ 9) (h : e + a + b + d = n) : cnt n e a b d ≤ 7560 := by
  have h1 := cnt_le n e a b d h
  have h2 := fac_7560 ⟨e, by omega⟩ ⟨a, by omega⟩ ⟨b, by omega⟩ ⟨d, by omega⟩ (by show e + a + b + d ≤ 9; omega)
  have h2 : fac (e + a + b + d) ≤ 7560 * (fac e * (fac a * (fac b * fac d))) := h2
  rw [h] at h2
  exact Nat.le_of_mul_le_mul_right (Nat.le_trans h1 h2) (Nat.mul_pos (fac_pos _) (Nat.mul_pos (fac_pos _) (Nat.mul_pos (fac_pos _) (fac_pos _))))
theorem cnt_1680 {n e a b : Nat} (hn : n ≤ 9) (h : e + a + b = n) : cnt n e a b 0 ≤ 1680 := by
  have h1 := cnt_le n e a b 0 (by omega)
  have h2 := fac_1680 ⟨e, by omega⟩ ⟨a, by omega⟩ ⟨b, by omega⟩ (by show e + a + b ≤ 9; omega)
  have h2 : fac (e + a + b + 0) ≤ 1680 * (fac e * (fac a * (fac b * fac 0))) := h2
  rw [show e + a + b + 0 = n by omega] at h2
  exact Nat.le_of_mul_le_mul_right (Nat.le_trans h1 h2) (Nat.mul_pos (fac_pos _) (Nat.mul_pos (fac_pos _) (Nat.mul_pos (fac_pos _) (fac_pos _))))
/-- ORDERS of n STONES with so many of each kind -/
def VT (n e a b d : Nat) (q : Nat) : Prop := q < 4 ^ n ∧ ct 0 q n = e ∧ ct 1 q n = a ∧ ct 2 q n = b ∧ ct 3 q n = d
theorem ct_mod {k q n : Nat} : ct k (q % 4 ^ n) n = ct k q n := by
  unfold ct
  exact fb_ct_cong (fun i hi => by rw [kd_mod hi])
theorem len4 (p : Nat → Nat) : ∀ l : List Nat, (∀ q ∈ l, p q < 4) → l.length = (l.filter (fun q => p q == 0)).length + (l.filter (fun q => p q == 1)).length + (l.filter (fun q => p q == 2)).length + (l.filter (fun q => p q == 3)).length
  | [], _ => rfl
  | x :: l, h => by
    have ih := len4 p l (fun q hq => h q (List.mem_cons_of_mem _ hq))
    have hx := h x List.mem_cons_self
    simp only [List.filter_cons, List.length_cons]
    have : p x = 0 ∨ p x = 1 ∨ p x = 2 ∨ p x = 3 := by omega
    rcases this with e | e | e | e <;> rw [e] <;> simp <;> omega
theorem nodup_filter {l : List Nat} (h : l.Nodup) (p : Nat → Bool) : (l.filter p).Nodup := h.filter p
theorem nodup_map {l : List Nat} {f : Nat → Nat} (h : l.Nodup) (hf : ∀ x ∈ l, ∀ y ∈ l, f x = f y → x = y) : (l.map f).Nodup := by
  induction l with
  | nil => simp
  | cons a l ih =>
    rw [List.nodup_cons] at h
    rw [List.map_cons, List.nodup_cons]
    refine ⟨fun hm => ?_, ih h.2 (fun x hx y hy => hf x (List.mem_cons_of_mem _ hx) y (List.mem_cons_of_mem _ hy))⟩
    obtain ⟨b, hb, e⟩ := List.mem_map.mp hm
    have := hf b (List.mem_cons_of_mem _ hb) a List.mem_cons_self e
    subst this
    exact h.1 hb
theorem VT_len : ∀ (n e a b d : Nat) (l : List Nat), l.Nodup → (∀ q ∈ l, VT n e a b d q) → l.length ≤ cnt n e a b d
  | 0, e, a, b, d, l, hl, h => by
    match l, hl, h with
    | [], _, _ => simp
    | x :: l, hl, h =>
      have hx := h x List.mem_cons_self
      obtain ⟨h1, h2, h3, h4, h5⟩ := hx
      have hx0 : x = 0 := by simpa using h1
      have hc : ∀ k, ct k x 0 = 0 := fun k => rfl
      rw [hc] at h2 h3 h4 h5
      have hc1 : cnt 0 e a b d = 1 := by simp [cnt, ← h2, ← h3, ← h4, ← h5]
      rw [hc1]
      match l, hl, h with
      | [], _, _ => simp
      | y :: l, hl, h =>
        have hy := (h y (by simp)).1
        have hy0 : y = 0 := by simpa using hy
        rw [hx0, hy0] at hl
        simp at hl
  | n + 1, e, a, b, d, l, hl, h => by
    rw [len4 (fun q => kd q n) l (fun q _ => kd_lt q n)]
    simp only [cnt]
    have step : ∀ k e' a' b' d', (∀ q ∈ l, kd q n = k → VT n e' a' b' d' (q % 4 ^ n)) → (l.filter (fun q => kd q n == k)).length ≤ cnt n e' a' b' d' := by
      intro k e' a' b' d' hk
      have hfl : ∀ q, q ∈ l.filter (fun q => kd q n == k) → q ∈ l ∧ kd q n = k := fun q hq => by simpa using List.mem_filter.mp hq
      rw [← List.length_map (f := fun q => q % 4 ^ n)]
      refine VT_len n e' a' b' d' _ (nodup_map (nodup_filter hl _) (fun x hx y hy exy => ?_)) (fun q hq => ?_)
      · obtain ⟨x1, x2⟩ := hfl x hx
        obtain ⟨y1, y2⟩ := hfl y hy
        have hx4 := (h x x1).1
        have hy4 := (h y y1).1
        rw [dc_of x n, dc_of y n, exy, x2, y2, Nat.div_eq_of_lt hx4, Nat.div_eq_of_lt hy4]
      · obtain ⟨x, hx, rfl⟩ := List.mem_map.mp hq
        obtain ⟨x1, x2⟩ := hfl x hx
        exact hk x x1 x2
    have hlt : ∀ q : Nat, q % 4 ^ n < 4 ^ n := fun q => Nat.mod_lt _ (Nat.pow_pos (by decide))
    have g : ∀ q ∈ l, ∀ k, kd q n = k → (ct 0 q n = e - (if k = 0 then 1 else 0) ∧ ct 1 q n = a - (if k = 1 then 1 else 0) ∧ ct 2 q n = b - (if k = 2 then 1 else 0) ∧ ct 3 q n = d - (if k = 3 then 1 else 0)) ∧ (k = 0 → e ≠ 0) ∧ (k = 1 → a ≠ 0) ∧ (k = 2 → b ≠ 0) ∧ (k = 3 → d ≠ 0) := by
      intro q hq k hk
      obtain ⟨-, h2, h3, h4, h5⟩ := h q hq
      rw [ct_succ, hk] at h2 h3 h4 h5
      refine ⟨⟨?_, ?_, ?_, ?_⟩, ?_, ?_, ?_, ?_⟩
      · split at h2 <;> simp_all <;> omega
      · split at h3 <;> simp_all <;> omega
      · split at h4 <;> simp_all <;> omega
      · split at h5 <;> simp_all <;> omega
      · intro e0; subst e0; simp at h2; omega
      · intro e0; subst e0; simp at h3; omega
      · intro e0; subst e0; simp at h4; omega
      · intro e0; subst e0; simp at h5; omega
    have none : ∀ k, (∀ q ∈ l, ¬ kd q n = k) → (l.filter (fun q => kd q n == k)).length = 0 := by
      intro k hk
      rw [List.length_eq_zero_iff, List.filter_eq_nil_iff]
      intro q hq
      simpa using hk q hq
    have s0 : (l.filter (fun q => kd q n == 0)).length ≤ (if e = 0 then 0 else cnt n (e - 1) a b d) := by
      split
      · rename_i q
        rw [none 0 (fun x hx hk => (g x hx 0 hk).2.1 rfl q)]
        exact Nat.le_refl _
      · refine step 0 _ _ _ _ (fun q hq hk => ?_)
        have := (g q hq 0 hk).1
        simp at this
        exact ⟨hlt q, by rw [ct_mod]; exact this.1, by rw [ct_mod]; exact this.2.1, by rw [ct_mod]; exact this.2.2.1, by rw [ct_mod]; exact this.2.2.2⟩
    have s1 : (l.filter (fun q => kd q n == 1)).length ≤ (if a = 0 then 0 else cnt n e (a - 1) b d) := by
      split
      · rename_i q
        rw [none 1 (fun x hx hk => (g x hx 1 hk).2.2.1 rfl q)]
        exact Nat.le_refl _
      · refine step 1 _ _ _ _ (fun q hq hk => ?_)
        have := (g q hq 1 hk).1
        simp at this
        exact ⟨hlt q, by rw [ct_mod]; exact this.1, by rw [ct_mod]; exact this.2.1, by rw [ct_mod]; exact this.2.2.1, by rw [ct_mod]; exact this.2.2.2⟩
    have s2 : (l.filter (fun q => kd q n == 2)).length ≤ (if b = 0 then 0 else cnt n e a (b - 1) d) := by
      split
      · rename_i q
        rw [none 2 (fun x hx hk => (g x hx 2 hk).2.2.2.1 rfl q)]
        exact Nat.le_refl _
      · refine step 2 _ _ _ _ (fun q hq hk => ?_)
        have := (g q hq 2 hk).1
        simp at this
        exact ⟨hlt q, by rw [ct_mod]; exact this.1, by rw [ct_mod]; exact this.2.1, by rw [ct_mod]; exact this.2.2.1, by rw [ct_mod]; exact this.2.2.2⟩
    have s3 : (l.filter (fun q => kd q n == 3)).length ≤ (if d = 0 then 0 else cnt n e a b (d - 1)) := by
      split
      · rename_i q
        rw [none 3 (fun x hx hk => (g x hx 3 hk).2.2.2.2 rfl q)]
        exact Nat.le_refl _
      · refine step 3 _ _ _ _ (fun q hq hk => ?_)
        have := (g q hq 3 hk).1
        simp at this
        exact ⟨hlt q, by rw [ct_mod]; exact this.1, by rw [ct_mod]; exact this.2.1, by rw [ct_mod]; exact this.2.2.1, by rw [ct_mod]; exact this.2.2.2⟩
    omega
/-- the four kinds are all -/
theorem ct_sum (q : Nat) : ∀ n, ct 0 q n + ct 1 q n + ct 2 q n + ct 3 q n = n
  | 0 => rfl
  | n + 1 => by
    have ih := ct_sum q n
    rw [ct_succ, ct_succ, ct_succ, ct_succ]
    have := kd_lt q n
    have : kd q n = 0 ∨ kd q n = 1 ∨ kd q n = 2 ∨ kd q n = 3 := by omega
    rcases this with e | e | e | e <;> rw [e] <;> simp <;> omega
/-- the ORDERS of the same FROGS -/
def VO (n o : Nat) (q : Nat) : Prop := q < 4 ^ n ∧ ∀ k, ct k q n = ct k o n
theorem VO_len {n o : Nat} (hn : n ≤ 9) {l : List Nat} (hl : l.Nodup) (h : ∀ q ∈ l, VO n o q) : l.length ≤ 7560 := by
  have hs := ct_sum o n
  exact Nat.le_trans (VT_len n (ct 0 o n) (ct 1 o n) (ct 2 o n) (ct 3 o n) l hl (fun q hq => ⟨(h q hq).1, (h q hq).2 0, (h q hq).2 1, (h q hq).2 2, (h q hq).2 3⟩)) (cnt_7560 hn hs)
theorem VO_len2 {n o : Nat} (hn : n ≤ 9) (h3 : ct 3 o n = 0) {l : List Nat} (hl : l.Nodup) (h : ∀ q ∈ l, VO n o q) : l.length ≤ 1680 := by
  have hs := ct_sum o n
  refine Nat.le_trans (VT_len n (ct 0 o n) (ct 1 o n) (ct 2 o n) 0 l hl (fun q hq => ⟨(h q hq).1, (h q hq).2 0, (h q hq).2 1, (h q hq).2 2, by rw [(h q hq).2 3]; exact h3⟩)) (cnt_1680 hn (by omega))
theorem ct_mvd {n o f t : Nat} (hf : f < n) (ht : t < n) (hne : f ≠ t) (h0 : kd o t = 0) (k : Nat) : ct k (mvd o f t) n = ct k o n := by
  unfold ct
  obtain ⟨P, hP⟩ : ∃ P : Nat → Bool, P = (fun j => if j = f then ((0 : Nat) == k) else (kd o j == k)) := ⟨_, rfl⟩
  have e : (fun i => kd (mvd o f t) i == k) = (fun i => if i = t then (kd o f == k) else P i) := by
    funext i
    rw [kd_mvd hne h0, hP]
    by_cases a : i = t
    · simp [a]
    · by_cases b : i = f
      · simp [b, hne]
      · simp [a, b]
  have hPt : P t = ((0 : Nat) == k) := by rw [hP]; simp [Ne.symm hne, h0]
  have h1 := fb_ct_upd P (kd o f == k) ht
  have h2 := fb_ct_upd (fun j => kd o j == k) ((0 : Nat) == k) hf
  rw [e]
  rw [hPt] at h1
  rw [← hP] at h2
  omega
theorem VO_HG {n o : Nat} {bk : Nat → Nat} {two oth : Bool} (hn : n ≤ 9) : HG n (cg bk two oth) (VO n o) := by
  refine ⟨fun q hq => Nat.lt_of_lt_of_le hq.1 (Nat.pow_le_pow_right (by decide) hn), fun x f t hx hf ht hc => ?_, fun S hS => VO_len hn hS.1 hS.2.1⟩
  obtain ⟨h1, h2, h3⟩ := cg_facts hc
  exact ⟨⟨mvd_lt hx.1 hf ht h3 h2, fun k => by rw [ct_mvd hf ht h3 h2, hx.2 k]⟩, cg_ne hc⟩
