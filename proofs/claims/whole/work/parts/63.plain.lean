/-! ===== plain methods, both sides ===== -/
def fr (n o : Nat) : Nat := ct 1 o n + ct 2 o n + ct 3 o n
theorem fr_le (n o : Nat) : fr n o ≤ n := by
  have := ct_sum o n
  unfold fr
  omega
theorem frogsOf_nI {z n o : Nat} (hn : n ≤ 9) (ho : o < 4 ^ n) (hz : 9 < z) : fX9_frogsOf z (nI o) = some (nI (fr n o)) := by
  have h9 : o < 4 ^ 9 := Nat.lt_of_lt_of_le ho (Nat.pow_le_pow_right (by decide) hn)
  have h9' : o < 2 ^ 18 := h9
  unfold fX9_frogsOf
  rw [show (0 : Int32) = nI 0 from rfl, colouredOf_nI (by omega) (by decide) hz]
  have h1 := ct_sum o 9
  have e1 := ct_9 (k := 1) ho hn (by decide)
  have e2 := ct_9 (k := 2) ho hn (by decide)
  have e3 := ct_9 (k := 3) ho hn (by decide)
  show some ((9 : Int32) - nI (ct 0 o 9)) = _
  rw [show (9 : Int32) - nI (ct 0 o 9) = nI (9 - ct 0 o 9) from pk_sub (a := 9) (by omega)]
  congr 2
  unfold fr
  omega
theorem frogs_nI {z n o : Nat} (hn : n ≤ 9) (ho : o < 4 ^ n) (hz : 9 < z) : fX10_frogs z (nI n) (nI o) = some (nI (fr n o)) := by
  have h9 : o < 4 ^ 9 := Nat.lt_of_lt_of_le ho (Nat.pow_le_pow_right (by decide) hn)
  have h9' : o < 2 ^ 18 := h9
  have h1 := ct_sum o n
  unfold fX10_frogs
  rw [show (0 : Int32) = nI 0 from rfl, howMany_nI (by omega) (by decide) hn hz]
  show some (nI n - nI (ct 0 o n)) = _
  rw [pk_sub (by omega)]
  congr 2
  unfold fr
  omega
theorem o9 {n o : Nat} (hn : n ≤ 9) (ho : o < 4 ^ n) : o < 4 ^ 9 := Nat.lt_of_lt_of_le ho (Nat.pow_le_pow_right (by decide) hn)
theorem o31 {n o : Nat} (hn : n ≤ 9) (ho : o < 4 ^ n) : o < 2 ^ 31 := Nat.lt_of_lt_of_le (o9 hn ho) (by decide)
theorem count_pair {z n o : Nat} (hn : n ≤ 9) (ho : o < 4 ^ n) (hz : 9 < z) (x1 rd pg md : Int32) : ∃ r, fX9_count z x1 rd pg md (nI o) (nI n) = some r ∧ fX10_count z x1 rd pg md (nI o) (nI n) = some r := by
  have ho2 := o31 hn ho
  unfold fX9_count fX10_count fX10_countOf
  rw [frogsOf_nI hn ho hz, frogs_nI hn ho hz, show (1 : Int32) = nI 1 from rfl, show (2 : Int32) = nI 2 from rfl, show (3 : Int32) = nI 3 from rfl, colouredOf_nI ho2 (by decide) hz, colouredOf_nI ho2 (by decide) hz, colouredOf_nI ho2 (by decide) hz, ct_9 ho hn (by decide), ct_9 ho hn (by decide), ct_9 ho hn (by decide)]
  by_cases c0 : x1 = 0
  · rw [if_pos c0, if_pos c0]; exact ⟨_, rfl, rfl⟩
  rw [if_neg c0, if_neg c0]
  by_cases c1 : x1 = nI 1
  · rw [if_pos c1, if_pos c1]; exact ⟨_, rfl, rfl⟩
  rw [if_neg c1, if_neg c1]
  by_cases c2 : x1 = nI 2
  · rw [if_pos c2, if_pos c2, c2, show nI 2 - nI 1 = nI 1 from rfl, howMany_nI ho2 (by decide) hn hz]; exact ⟨_, rfl, rfl⟩
  rw [if_neg c2, if_neg c2]
  by_cases c3 : x1 = nI 3
  · rw [if_pos c3, if_pos c3, c3, show nI 3 - nI 1 = nI 2 from rfl, howMany_nI ho2 (by decide) hn hz]; exact ⟨_, rfl, rfl⟩
  rw [if_neg c3, if_neg c3]
  by_cases c4 : x1 = 4
  · rw [if_pos c4, if_pos c4, c4, show (4 : Int32) - nI 1 = nI 3 from rfl, howMany_nI ho2 (by decide) hn hz]; exact ⟨_, rfl, rfl⟩
  rw [if_neg c4, if_neg c4]
  by_cases c5 : x1 = 5
  · rw [if_pos c5]; exact ⟨_, rfl, rfl⟩
  rw [if_neg c5]
  by_cases c6 : x1 = 6
  · rw [if_pos c6]; exact ⟨_, rfl, rfl⟩
  rw [if_neg c6]
  by_cases c7 : x1 = 7
  · rw [if_pos c7]; exact ⟨_, rfl, rfl⟩
  rw [if_neg c7]
  exact ⟨_, rfl, rfl⟩
theorem in_cases (x : Int32) {K : Nat} (hK : K < 2 ^ 31) : (∃ j, j ≤ K ∧ x = nI j ∧ fX10_in x.toInt64 0 (nI K).toInt64 = 1) ∨ ((x < 0 ∨ nI K < x) ∧ fX10_in x.toInt64 0 (nI K).toInt64 = 0) := by
  by_cases c : x < 0
  · exact Or.inr ⟨Or.inl c, in_lo c⟩
  · obtain ⟨j, h1, rfl⟩ := nI_of c
    rw [in_nI h1 hK]
    by_cases c2 : j ≤ K
    · exact Or.inl ⟨j, c2, rfl, by simp [b01, c2]⟩
    · exact Or.inr ⟨Or.inr (nI_lt (by omega) h1), by simp [b01, c2]⟩
theorem isStone_cases {n : Nat} (hn : n ≤ 9) (x : Int32) : (∃ i, i < n ∧ x = nI i ∧ fX9_isStone x (nI n) = 1 ∧ ∀ z, fX10_isStone z x (nI n) = some 1) ∨ (fX9_isStone x (nI n) = 0 ∧ ∀ z, fX10_isStone z x (nI n) = some 0) := by
  by_cases c : x < 0
  · refine Or.inr ⟨by unfold fX9_isStone; rw [if_pos c], fun z => ?_⟩
    unfold fX10_isStone
    rw [in_lo c]
    rfl
  · obtain ⟨j, h1, rfl⟩ := nI_of c
    by_cases c2 : j < n
    · refine Or.inl ⟨j, c2, rfl, by unfold fX9_isStone; rw [if_neg c, if_neg (nI_ge c2 (by omega))], fun z => ?_⟩
      unfold fX10_isStone
      rw [show nI n - 1 = nI (n - 1) from pk_sub (b := 1) (by omega), in_nI h1 (by omega)]
      have : decide (j ≤ n - 1) = true := decide_eq_true (by omega)
      rw [this]
      rfl
    · refine Or.inr ⟨by unfold fX9_isStone; rw [if_neg c, if_pos (nI_le (by omega) h1)], fun z => ?_⟩
      unfold fX10_isStone
      have e : fX10_in (nI j).toInt64 0 (nI n - 1).toInt64 = 0 := by
        by_cases c3 : n = 0
        · subst c3
          unfold fX10_in
          rw [show nI 0 - 1 = -1 from rfl]
          split
          · rfl
          · rw [if_pos]
            rw [lg_cmp_gt, fa_wide_lt]
            have := nI_pos' h1
            exact Int32.lt_of_lt_of_le (by decide : (-1 : Int32) < 0) this
        · rw [show nI n - 1 = nI (n - 1) from pk_sub (b := 1) (by omega), in_nI h1 (by omega)]
          have : decide (j ≤ n - 1) = false := decide_eq_false (by omega)
          rw [this]
          rfl
      rw [e]
      rfl
theorem kindTold_nI {o i : Nat} (ho : o < 2 ^ 31) (hi : i < 16) : fX9_kindToldOf (nI o) (nI i) = fX10_told (fX10_at (nI o) (nI i)) := by
  unfold fX9_kindToldOf fX10_told
  rw [kindAt_nI ho hi, at_nI ho hi]
/-- the aim, in both -/
def AM (n o : Nat) (ha xa ma : Int32) : Prop := (ha = 0 ∧ ma = -1) ∨ (ha = 1 ∧ 0 < n ∧ ∃ a, xa = nI a ∧ ma = nI a ∧ VO n o a)
theorem tell_pair {n o i z : Nat} {bk : Nat → Nat} {bh par : Nat → Int32} {sort ha xa ma : Int32} (hp : PB n bk) (hb : BH n bk bh) (hB : BO n bk sort par) (hA : AM n o ha xa ma) (ho : o < 4 ^ n) (hi : i < n) (x2 : Int32) :
    ∃ r, fX9_stone z (nI i) x2 (nI n) ha xa bh (nI o) = some r ∧ fX10_tellStone z (nI i) x2 ma sort par (nI n) (nI o) = some r := by
  have hn := hp.1
  have ho2 := o31 hn ho
  unfold fX9_stone fX10_tellStone
  have hs : fX9_isStone (nI i) (nI n) = 1 := by unfold fX9_isStone; rw [if_neg (nI_pos (by omega)), if_neg (nI_ge hi (by omega))]
  rw [hs, if_neg (by decide), kindTold_nI ho2 (by omega), behind_nI hp hb hi, hB z i hi]
  by_cases c0 : x2 = 0
  · rw [if_pos c0, if_pos c0]; exact ⟨_, rfl, rfl⟩
  rw [if_neg c0, if_neg c0]
  by_cases c1 : x2 = 1
  · rw [if_pos c1, if_pos c1]; exact ⟨_, rfl, rfl⟩
  rw [if_neg c1, if_neg c1]
  by_cases c2 : x2 = 2
  · rw [if_pos c2, if_pos c2]
    rcases hA with ⟨a1, a2⟩ | ⟨a1, a2, a, a3, a4, a5⟩
    · rw [if_pos a1, if_pos a2]; exact ⟨_, rfl, rfl⟩
    · have hao := o31 hn a5.1
      subst a1 a3 a4
      rw [if_neg (show ¬ (1 : Int32) = 0 by decide), if_neg (nI_ne_m1 hao), kindTold_nI hao (by omega)]
      exact ⟨_, rfl, rfl⟩
  · rw [if_neg c2, if_neg c2]
    exact ⟨_, rfl, rfl⟩
theorem stone_pair {n o z : Nat} {bk : Nat → Nat} {bh par : Nat → Int32} {sort ha xa ma : Int32} (hp : PB n bk) (hb : BH n bk bh) (hB : BO n bk sort par) (hA : AM n o ha xa ma) (ho : o < 4 ^ n) (x1 x2 : Int32) :
    ∃ r, fX9_stone z x1 x2 (nI n) ha xa bh (nI o) = some r ∧ fX10_stone z x1 x2 (nI n) ma sort par (nI o) = some r := by
  unfold fX10_stone
  rcases isStone_cases hp.1 x1 with ⟨i, hi, rfl, h1, h2⟩ | ⟨h1, h2⟩
  · obtain ⟨r, e1, e2⟩ := tell_pair (z := z) hp hb hB hA ho hi x2
    rw [h2 z, e2]
    exact ⟨r, e1, rfl⟩
  · rw [h2 z]
    unfold fX9_stone
    rw [h1, if_pos rfl]
    exact ⟨_, rfl, rfl⟩
theorem as_pair {n o z : Nat} (hn : n ≤ 9) (ho : o < 4 ^ n) (x1 x2 : Int32) : fX10_as z x1 x2 (nI n) (nI o) = some (fX9_as x1 x2 (nI n) (nI o)) := by
  have ho2 := o31 hn ho
  unfold fX10_as fX9_as
  rcases isStone_cases hn x1 with ⟨i, hi, rfl, h1, h2⟩ | ⟨h1, h2⟩
  · rw [h1, h2 z, Option.bind_some]
    rw [if_neg (show ¬ (1 : Int32) = 0 by decide), if_neg (show ¬ (1 : Int32) = 0 by decide), show (3 : Int64) = (nI 3).toInt64 from rfl]
    rcases in_cases x2 (K := 3) (by decide) with ⟨j, hj, rfl, h3⟩ | ⟨h3, h4⟩
    · have hk := kd_lt o i
      rw [h3, if_neg (by decide), if_neg (nI_pos (by omega)), if_pos (show nI j ≤ 3 from nI_le (b := 3) hj (by decide)), at_nI ho2 (by omega), kindAt_nI ho2 (by omega)]
      unfold fX10_as_J63 fX10_as_J59 fX10_as_J64 fX9_isOfKind
      have hall : ∀ (a b : Fin 4), (if nI a.val ≤ 0 then (if (0 : Int32) = 0 then some (-1) else some (nI i)) else (if nI b.val = 0 then (if (1 : Int32) = 0 then some (-1) else some (nI i)) else (if nI b.val = nI a.val then (if (1 : Int32) = 0 then some (-1) else some (nI i)) else (if nI b.val = 1 then (if nI a.val = 3 then (if (1 : Int32) = 0 then some (-1) else some (nI i)) else (if (0 : Int32) = 0 then some (-1) else some (nI i))) else (if (0 : Int32) = 0 then some (-1) else some (nI i)))))) = some (if (if nI a.val = 0 then (0 : Int32) else (if nI b.val = 0 then 1 else (if nI a.val = nI b.val then 1 else (if nI a.val = 3 then (if nI b.val = 1 then 1 else 0) else 0)))) = 0 then (-1) else nI i) := by
        intro a b
        match a, b with
        | 0, 0 => rfl
        | 0, 1 => rfl
        | 0, 2 => rfl
        | 0, 3 => rfl
        | 1, 0 => rfl
        | 1, 1 => rfl
        | 1, 2 => rfl
        | 1, 3 => rfl
        | 2, 0 => rfl
        | 2, 1 => rfl
        | 2, 2 => rfl
        | 2, 3 => rfl
        | 3, 0 => rfl
        | 3, 1 => rfl
        | 3, 2 => rfl
        | 3, 3 => rfl
      exact hall ⟨kd o i, hk⟩ ⟨j, by omega⟩
    · rw [h4, if_pos rfl]
      rcases h3 with h3 | h3
      · rw [if_pos h3]
      · have : ¬ x2 < 0 := fun e => by
          have e1 := Int32.lt_trans h3 e
          exact absurd e1 (by decide)
        rw [if_neg this, if_neg (fun e => ?_)]
        exact absurd (Int32.lt_of_lt_of_le h3 e) (by decide)
  · rw [h1, h2 z, if_pos rfl]
    rfl
