/-! ===== ENDING: levels, LONGEST and GAME ===== -/
def ED (n : Nat) (bk : Nat → Nat) : Prop := 0 < n ∧ n ≤ 9 ∧ bk 99 = 99 ∧ bk 0 = 99 ∧ ∀ i, 0 < i → i < n → bk i < i
def dd (n : Nat) (bk : Nat → Nat) (i : Nat) : Nat := dpt (bkl n bk) i
def gP (n : Nat) (bk : Nat → Nat) (o i : Nat) : Nat := fb_sm (fun j => if kd o j = 1 then dd n bk j else 0) i
def gM (n : Nat) (bk : Nat → Nat) (o i : Nat) : Nat := fb_sm (fun j => if kd o j = 2 then dd n bk j else 0) i
def lv (n : Nat) (bk : Nat → Nat) (o : Nat) : Nat := 72 + gP n bk o n - gM n bk o n
theorem first_cong {p q : Nat → Bool} : ∀ N, (∀ j, j < N → p j = q j) → fa_first p N = fa_first q N
  | 0, _ => rfl
  | N + 1, h => by
    simp only [fa_first]
    rw [first_cong N (fun j hj => h j (by omega)), h N (by omega)]
theorem mxs_cong {f g : Nat → Nat} : ∀ N, (∀ j, j < N → f j = g j) → mxs f N = mxs g N
  | 0, _ => rfl
  | N + 1, h => by
    simp only [mxs]
    rw [mxs_cong N (fun j hj => h j (by omega)), h N (by omega)]
theorem mxs_le {f : Nat → Nat} {B : Nat} : ∀ N, (∀ j, j < N → f j ≤ B) → mxs f N ≤ B
  | 0, _ => Nat.zero_le _
  | N + 1, h => by
    simp only [mxs]
    have a := mxs_le N (fun j hj => h j (by omega))
    have b := h N (by omega)
    omega
theorem sm_mvd {n o f t : Nat} (G : Nat → Nat → Nat) (hG : ∀ j, G 0 j = 0) (hf : f < n) (ht : t < n) (hne : f ≠ t) (h0 : kd o t = 0) : fb_sm (fun j => G (kd (mvd o f t) j) j) n + G (kd o f) f = fb_sm (fun j => G (kd o j) j) n + G (kd o f) t := by
  have e : fb_sm (fun j => G (kd (mvd o f t) j) j) n = fb_sm (fun j => if j = t then G (kd o f) t else (fun j => if j = f then 0 else G (kd o j) j) j) n := fb_sm_cong (fun j _ => by
    rw [kd_mvd hne h0]
    by_cases c1 : j = t
    · rw [if_pos c1, if_pos c1, c1]
    · rw [if_neg c1, if_neg c1]
      by_cases c2 : j = f
      · rw [if_pos c2, hG]
        exact (if_pos c2).symm
      · rw [if_neg c2]
        exact (if_neg c2).symm)
  have a := fb_sm_upd (fun j => if j = f then 0 else G (kd o j) j) (G (kd o f) t) ht
  have b := fb_sm_upd (fun j => G (kd o j) j) 0 hf
  have d : (fun j => if j = f then 0 else G (kd o j) j) t = 0 := by
    show (if t = f then 0 else G (kd o t) t) = 0
    rw [if_neg (fun e => hne e.symm), h0, hG]
  have d : (if t = f then 0 else G (kd o t) t) = 0 := d
  rw [d] at a
  have e : fb_sm (fun j => G (kd (mvd o f t) j) j) n = fb_sm (fun k => if k = t then G (kd o f) t else if k = f then 0 else G (kd o k) k) n := e
  have b : fb_sm (fun j => if j = f then 0 else G (kd o j) j) n + G (kd o f) f = fb_sm (fun j => G (kd o j) j) n + 0 := b
  rw [e]
  omega
section LV
variable {n : Nat} {bk : Nat → Nat} {o : Nat} {two oth : Bool}
theorem bkl_lt (h : ED n bk) : ∀ i, 0 < i → i < 9 → bkl n bk i < i := fun i h0 _ => by
  unfold bkl
  split
  · rename_i hi
    exact h.2.2.2.2 i h0 hi
  · exact h0
theorem dd_0 : dd n bk 0 = 0 := rfl
theorem dd_s (h : ED n bk) {i : Nat} (h0 : 0 < i) (hi : i < n) : dd n bk i = dd n bk (bk i) + 1 := by
  have h9 := h.2.1
  unfold dd
  rw [dpt_succ (bkl_lt h) h0 (by omega), show bkl n bk i = bk i from if_pos hi]
theorem dd_le (h : ED n bk) : ∀ m i, i ≤ m → i < n → dd n bk i ≤ i
  | 0, i, hm, _ => by rw [show i = 0 by omega]; exact Nat.le_refl 0
  | m + 1, i, hm, hi => by
    rcases Nat.eq_zero_or_pos i with e | e
    · rw [e]; exact Nat.le_refl 0
    · have h1 := h.2.2.2.2 i e hi
      have := dd_le h m (bk i) (by omega) (by omega)
      rw [dd_s h e hi]
      omega
theorem dd_8 (h : ED n bk) {i : Nat} (hi : i < n) : dd n bk i ≤ 8 := by
  have a := dd_le h i i (Nat.le_refl _) hi
  have b := h.2.1
  omega
theorem bk_in (h : ED n bk) {x : Nat} (hx : x < n ∨ x = 99) : bk x < n ∨ bk x = 99 := by
  rcases hx with a | a
  · rcases Nat.eq_zero_or_pos x with g | g
    · rw [g]; exact Or.inr h.2.2.2.1
    · have := h.2.2.2.2 x g a
      exact Or.inl (by omega)
  · rw [a]; exact Or.inr h.2.2.1
theorem bk_step (h : ED n bk) {x y : Nat} (hx : x < n ∨ x = 99) (hy : y < n) (e : bk x = y) : x < n ∧ dd n bk x = dd n bk y + 1 := by
  have h9 := h.2.1
  rcases hx with a | a
  · refine ⟨a, ?_⟩
    rcases Nat.eq_zero_or_pos x with g | g
    · subst g
      have := h.2.2.2.1
      omega
    · rw [dd_s h g a, e]
  · subst a
    have := h.2.2.1
    omega
theorem gob_dd (h : ED n bk) {c low high : Nat} (hl : low < n) (hh : high < n) (g : gob bk two oth o c low high = true) : dd n bk high + 1 ≤ dd n bk low := by
  unfold gob at g
  simp only [Bool.or_eq_true, Bool.and_eq_true, beq_iff_eq] at g
  rcases g with (g | g) | g
  · have := bk_step h (Or.inl hl) hh g
    omega
  · have a := bk_step h (bk_in h (Or.inl hl)) hh g.2
    have b := bk_step h (Or.inl hl) a.1 rfl
    omega
  · have a := bk_step h (bk_in h (bk_in h (Or.inl hl))) hh g.2
    have b := bk_step h (bk_in h (Or.inl hl)) a.1 rfl
    have d := bk_step h (Or.inl hl) b.1 rfl
    omega
theorem gP_le (h : ED n bk) {i : Nat} (hi : i ≤ n) : gP n bk o i ≤ 72 := by
  have a : gP n bk o i ≤ i * 8 := fb_sm_bound (fun k hk => by
    split
    · exact dd_8 h (by omega)
    · exact Nat.zero_le _)
  have b := h.2.1
  omega
theorem gM_le (h : ED n bk) {i : Nat} (hi : i ≤ n) : gM n bk o i ≤ 72 := by
  have a : gM n bk o i ≤ i * 8 := fb_sm_bound (fun k hk => by
    split
    · exact dd_8 h (by omega)
    · exact Nat.zero_le _)
  have b := h.2.1
  omega
theorem lv_144 (h : ED n bk) : lv n bk o ≤ 144 := by
  have a := gP_le (o := o) h (Nat.le_refl _)
  unfold lv
  omega
theorem kd_12 (h3 : ct 3 o n = 0) {f : Nat} (hf : f < n) (hk : kd o f ≠ 0) : kd o f = 1 ∨ kd o f = 2 := by
  have a := kd_lt o f
  have b : (fun i => kd o i == 3) f = false := fb_ct_zero.mp h3 f hf
  have b : (kd o f == 3) = false := b
  have b := beq_eq_false_iff_ne.mp b
  omega
theorem lv_up (h : ED n bk) {f t : Nat} (hf : f < n) (ht : t < n) (h3 : ct 3 o n = 0) (hc : cg bk two oth o f t = true) : lv n bk o + 1 ≤ lv n bk (mvd o f t) := by
  obtain ⟨f1, f2, f3⟩ := cg_facts hc
  have p := sm_mvd (fun k j => if k = 1 then dd n bk j else 0) (fun j => if_neg (by decide)) hf ht f3 f2
  have m := sm_mvd (fun k j => if k = 2 then dd n bk j else 0) (fun j => if_neg (by decide)) hf ht f3 f2
  have p : gP n bk (mvd o f t) n + (if kd o f = 1 then dd n bk f else 0) = gP n bk o n + (if kd o f = 1 then dd n bk t else 0) := p
  have m : gM n bk (mvd o f t) n + (if kd o f = 2 then dd n bk f else 0) = gM n bk o n + (if kd o f = 2 then dd n bk t else 0) := m
  have l1 := gM_le (o := o) h (Nat.le_refl _)
  have l2 := gM_le (o := mvd o f t) h (Nat.le_refl _)
  unfold cg at hc
  simp only [Bool.and_eq_true, Bool.or_eq_true, bne_iff_ne] at hc
  obtain ⟨-, hc⟩ := hc
  unfold lv
  rcases kd_12 h3 hf f1 with e | e
  · rw [e] at p m hc
    rw [if_pos rfl, if_pos rfl] at p
    rw [if_neg (by decide), if_neg (by decide)] at m
    rcases hc with hc | hc
    · exact absurd rfl hc.1
    · have := gob_dd h ht hf hc.2
      omega
  · rw [e] at p m hc
    rw [if_neg (by decide), if_neg (by decide)] at p
    rw [if_pos rfl, if_pos rfl] at m
    rcases hc with hc | hc
    · have := gob_dd h hf ht hc.2
      omega
    · exact absurd rfl hc.1
theorem jn {j : Nat} (hn0 : 0 < n) (hj : j < n * n) : j / n < n ∧ j % n < n := ⟨Nat.div_lt_of_lt_mul hj, Nat.mod_lt _ hn0⟩
theorem ct3_mvd (h : ED n bk) {j : Nat} (hj : j < n * n) (h3 : ct 3 o n = 0) (hc : cg bk two oth o (j / n) (j % n) = true) : ct 3 (mvd o (j / n) (j % n)) n = 0 ∧ lv n bk o + 1 ≤ lv n bk (mvd o (j / n) (j % n)) := by
  obtain ⟨f1, f2, f3⟩ := cg_facts hc
  obtain ⟨a, b⟩ := jn h.1 hj
  exact ⟨by rw [ct_mvd a b f3 f2]; exact h3, lv_up h a b h3 hc⟩
theorem lgf_st (h : ED n bk) : ∀ k o, ct 3 o n = 0 → 145 ≤ k + lv n bk o → lgf n (cg bk two oth) (k + 1) o = lgf n (cg bk two oth) k o
  | 0, o, _, hk => by
    have := lv_144 (o := o) h
    omega
  | k + 1, o, h3, hk => by
    show mxs (fun j => if cg bk two oth o (j / n) (j % n) then lgf n (cg bk two oth) (k + 1) (mvd o (j / n) (j % n)) + 1 else 0) (n * n) = mxs (fun j => if cg bk two oth o (j / n) (j % n) then lgf n (cg bk two oth) k (mvd o (j / n) (j % n)) + 1 else 0) (n * n)
    refine mxs_cong _ (fun j hj => ?_)
    by_cases hc : cg bk two oth o (j / n) (j % n) = true
    · obtain ⟨a, b⟩ := ct3_mvd h hj h3 hc
      rw [if_pos hc, if_pos hc, lgf_st h k _ a (by omega)]
    · rw [if_neg hc, if_neg hc]
theorem lgf_le {c : Nat → Nat → Nat → Bool} : ∀ k o, lgf n c k o ≤ k
  | 0, _ => Nat.le_refl _
  | k + 1, o => by
    show mxs _ (n * n) ≤ k + 1
    refine mxs_le _ (fun j _ => ?_)
    split
    · have := lgf_le (c := c) k (mvd o (j / n) (j % n))
      omega
    · exact Nat.zero_le _
def lgs (n : Nat) (c : Nat → Nat → Nat → Bool) (o : Nat) : Nat → Nat := mxs (fun j => if c o (j / n) (j % n) then lng n c (mvd o (j / n) (j % n)) + 1 else 0)
theorem lng_le {c : Nat → Nat → Nat → Bool} : lng n c o ≤ 145 := lgf_le 145 o
theorem lgs_le {c : Nat → Nat → Nat → Bool} (k : Nat) : lgs n c o k ≤ 146 := mxs_le _ (fun j _ => by
  split
  · have := lng_le (n := n) (c := c) (o := mvd o (j / n) (j % n))
    omega
  · exact Nat.zero_le _)
theorem lng_eq (h : ED n bk) (h3 : ct 3 o n = 0) : lng n (cg bk two oth) o = lgs n (cg bk two oth) o (n * n) := by
  show mxs (fun j => if cg bk two oth o (j / n) (j % n) then lgf n (cg bk two oth) 144 (mvd o (j / n) (j % n)) + 1 else 0) (n * n) = mxs (fun j => if cg bk two oth o (j / n) (j % n) then lgf n (cg bk two oth) 145 (mvd o (j / n) (j % n)) + 1 else 0) (n * n)
  refine mxs_cong _ (fun j hj => ?_)
  by_cases hc : cg bk two oth o (j / n) (j % n) = true
  · obtain ⟨a, b⟩ := ct3_mvd h hj h3 hc
    rw [if_pos hc, if_pos hc, lgf_st h 144 _ a (by omega)]
  · rw [if_neg hc, if_neg hc]
theorem wnp_cong {c : Nat → Nat → Nat → Bool} {W W' : Nat → Nat → Bool} {w j : Nat} (h : c o (j / n) (j % n) = true → W (mvd o (j / n) (j % n)) (1 - w) = W' (mvd o (j / n) (j % n)) (1 - w)) : wnp n c W o w j = wnp n c W' o w j := by
  unfold wnp
  cases hc : c o (j / n) (j % n) with
  | false => simp
  | true => rw [h hc]
theorem wnf_st (h : ED n bk) : ∀ k o w, ct 3 o n = 0 → 145 ≤ k + lv n bk o → wnf n (cg bk two oth) (k + 1) o w = wnf n (cg bk two oth) k o w
  | 0, o, w, _, hk => by
    have := lv_144 (o := o) h
    omega
  | k + 1, o, w, h3, hk => by
    have e : fa_first (wnp n (cg bk two oth) (wnf n (cg bk two oth) (k + 1)) o w) (n * n) = fa_first (wnp n (cg bk two oth) (wnf n (cg bk two oth) k) o w) (n * n) := first_cong _ (fun j hj => wnp_cong (fun hc => by
      obtain ⟨a, b⟩ := ct3_mvd h hj h3 hc
      exact wnf_st h k _ _ a (by omega)))
    show decide (fa_first (wnp n (cg bk two oth) (wnf n (cg bk two oth) (k + 1)) o w) (n * n) < n * n) = decide (fa_first (wnp n (cg bk two oth) (wnf n (cg bk two oth) k) o w) (n * n) < n * n)
    rw [e]
theorem wn_eq (h : ED n bk) (h3 : ct 3 o n = 0) (w : Nat) : wn n (cg bk two oth) o w = decide (wnJ n (cg bk two oth) (wn n (cg bk two oth)) o w < n * n) := by
  have e : fa_first (wnp n (cg bk two oth) (wnf n (cg bk two oth) 144) o w) (n * n) = fa_first (wnp n (cg bk two oth) (wnf n (cg bk two oth) 145) o w) (n * n) := first_cong _ (fun j hj => wnp_cong (fun hc => by
    obtain ⟨a, b⟩ := ct3_mvd h hj h3 hc
    exact (wnf_st h 144 _ _ a (by omega)).symm))
  show decide (fa_first (wnp n (cg bk two oth) (wnf n (cg bk two oth) 144) o w) (n * n) < n * n) = decide (fa_first (wnp n (cg bk two oth) (wnf n (cg bk two oth) 145) o w) (n * n) < n * n)
  rw [e]
end LV
