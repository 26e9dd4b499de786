/-! ===== THE PAGE ===== -/
def by8 (n j : Nat) : Nat := n / 2 ^ (8 * j) % 256
def mn (n k : Nat) : Nat := fb_ct (fun j => by8 n j != 0) k
def gd (n : Nat) : Nat → Bool
  | 0 => true
  | k + 1 => gd n k && (decide (by8 n k ≤ 126) && (by8 n k == 0 || mn n k == k))
theorem mn_succ (n k : Nat) : mn n (k + 1) = mn n k + (if by8 n k = 0 then 0 else 1) := by
  unfold mn
  rw [fb_ct_succ]
  by_cases c : by8 n k = 0 <;> simp [c]
theorem mn_le (n k : Nat) : mn n k ≤ k := fb_ct_le _ k
theorem by8_lt (n j : Nat) : by8 n j < 256 := Nat.mod_lt _ (by decide)
theorem gd_down {n k : Nat} (h : gd n k = false) : ∀ j, gd n (k + j) = false
  | 0 => h
  | j + 1 => by
    show (gd n (k + j) && _) = false
    rw [gd_down h j]
    rfl
theorem byteOf_nI {n j : Nat} (hn : n < 2 ^ 64) (hj : j < 8) : fX5_byteOf (lN n) (nI j) = nI (by8 n j) := by
  unfold fX5_byteOf l_ushr
  rw [show (8 : Int32) * nI j = nI (8 * j) from pk_mul 8 j, wb_shr hn (by omega), lN_i, show (255 : Int32) = nI (2 ^ 8 - 1) from rfl, fa_mask]
  rfl
theorem byteM_nI {n j : Nat} (hn : n < 2 ^ 64) (hj : j < 8) : ((l_ushr (lN n) (8 * nI j)) &&& 255).toInt32 = nI (by8 n j) := by
  unfold l_ushr
  rw [show (8 : Int32) * nI j = nI (8 * j) from pk_mul 8 j, wb_shr hn (by omega), show (255 : Int64) = lN (2 ^ 8 - 1) from rfl, wb_mask (Nat.lt_of_le_of_lt (Nat.div_le_self _ _) hn) (by decide), lN_i]
  rfl
theorem lettersIn_lp {n w : Nat} (hn : n < 2 ^ 64) : ∀ (d k z : Nat), k + d = 8 → d < z → gd n k = true →
    ∃ e, lp (fun sg => fX5_lettersIn_L7 w (lN n) sg.1 sg.2.1 sg.2.2) z (nI (mn n k), b01 (mn n k != k), nI k) = some e ∧ e.elim (fun x => x) (fun x => x) = if gd n 8 = true then nI (mn n 8) else -102
  | d, k, 0, _, hz, _ => by omega
  | 0, k, z + 1, hk, hz, hg => by
    have e8 : k = 8 := by omega
    subst e8
    refine ⟨.inl (nI (mn n 8)), lp_out ?_, by rw [if_pos hg]; rfl⟩
    show fX5_lettersIn_L7 w (lN n) (nI (mn n 8)) (b01 _) (nI 8) = _
    unfold fX5_lettersIn_L7
    rw [if_pos (by decide)]
  | d + 1, k, z + 1, hk, hz, hg => by
    have hb := by8_lt n k
    have hml := mn_le n k
    have e0 : fX5_lettersIn_L7 w (lN n) (nI (mn n k)) (b01 (mn n k != k)) (nI k) = (if 126 < nI (by8 n k) then some (.inr (.inr (-102))) else (if b01 (mn n k != k) = 0 then fX5_lettersIn_J41 w (lN n) (nI (mn n k)) (b01 (mn n k != k)) (nI k) (nI (by8 n k)) else (if nI (by8 n k) = 0 then fX5_lettersIn_J41 w (lN n) (nI (mn n k)) (b01 (mn n k != k)) (nI k) (nI (by8 n k)) else some (.inr (.inr (-102)))))) := by
      unfold fX5_lettersIn_L7
      rw [if_neg (show ¬ (8 : Int32) ≤ nI k from nI_ge (a := k) (b := 8) (by omega) (by decide)), byteOf_nI hn (by omega)]
    have badend : gd n (k + 1) = false → fX5_lettersIn_L7 w (lN n) (nI (mn n k)) (b01 (mn n k != k)) (nI k) = some (.inr (.inr (-102))) → ∃ e, lp (fun sg => fX5_lettersIn_L7 w (lN n) sg.1 sg.2.1 sg.2.2) (z + 1) (nI (mn n k), b01 (mn n k != k), nI k) = some e ∧ e.elim (fun x => x) (fun x => x) = if gd n 8 = true then nI (mn n 8) else -102 := by
      intro hf he
      refine ⟨_, lp_out he, ?_⟩
      have := gd_down hf d
      rw [show k + 1 + d = 8 by omega] at this
      rw [this]
      rfl
    by_cases c1 : by8 n k ≤ 126
    · rw [if_neg (show ¬ (126 : Int32) < nI (by8 n k) from nI_nlt (a := 126) (b := by8 n k) c1 (by decide))] at e0
      by_cases c2 : by8 n k = 0
      · have hg1 : gd n (k + 1) = true := by
          show (gd n k && _) = true
          rw [hg, c2]; rfl
        have em : mn n (k + 1) = mn n k := by rw [mn_succ, if_pos c2]; rfl
        have e1 : fX5_lettersIn_L7 w (lN n) (nI (mn n k)) (b01 (mn n k != k)) (nI k) = some (.inl (nI (mn n (k + 1)), b01 (mn n (k + 1) != k + 1), nI (k + 1))) := by
          rw [e0, em]
          have ej : fX5_lettersIn_J41 w (lN n) (nI (mn n k)) (b01 (mn n k != k)) (nI k) (nI (by8 n k)) = some (.inl (nI (mn n k), b01 (mn n k != k + 1), nI (k + 1))) := by
            unfold fX5_lettersIn_J41
            rw [if_pos (by rw [c2]; rfl), nI_1]
            have : (mn n k != k + 1) = true := by rw [bne_iff_ne]; omega
            rw [this]
            rfl
          rw [ej, c2]
          split
          · rfl
          · rw [if_pos (show nI 0 = 0 from rfl)]
        obtain ⟨e, g1, g2⟩ := lettersIn_lp hn d (k + 1) z (by omega) (by omega) hg1
        exact ⟨e, (lp_in e1).trans g1, g2⟩
      · by_cases c3 : mn n k = k
        · have hg1 : gd n (k + 1) = true := by
            show (gd n k && _) = true
            rw [hg, c3]
            simp [c1]
          have em : mn n (k + 1) = k + 1 := by rw [mn_succ, if_neg c2, c3]
          have e1 : fX5_lettersIn_L7 w (lN n) (nI (mn n k)) (b01 (mn n k != k)) (nI k) = some (.inl (nI (mn n (k + 1)), b01 (mn n (k + 1) != k + 1), nI (k + 1))) := by
            rw [e0, em, c3]
            have hk0 : (k != k) = false := by simp
            have hk1 : (k + 1 != k + 1) = false := by simp
            rw [hk0, hk1, if_pos (show b01 false = 0 from rfl)]
            unfold fX5_lettersIn_J41
            rw [if_neg (nI_ne0 (by omega) (by omega)), nI_1]
          obtain ⟨e, g1, g2⟩ := lettersIn_lp hn d (k + 1) z (by omega) (by omega) hg1
          exact ⟨e, (lp_in e1).trans g1, g2⟩
        · refine badend ?_ ?_
          · show (gd n k && _) = false
            have h1 : (by8 n k == 0) = false := beq_eq_false_iff_ne.mpr c2
            have h2 : (mn n k == k) = false := beq_eq_false_iff_ne.mpr c3
            rw [h1, h2]
            simp
          · have h2 : (mn n k != k) = true := by rw [bne_iff_ne]; exact c3
            rw [e0, h2, if_neg (show ¬ b01 true = 0 by decide), if_neg (nI_ne0 (by omega) (by omega))]
    · refine badend ?_ ?_
      · show (gd n k && _) = false
        have h1 : decide (by8 n k ≤ 126) = false := by simp; omega
        rw [h1]
        simp
      · rw [e0, if_pos (show (126 : Int32) < nI (by8 n k) from nI_lt (a := 126) (b := by8 n k) (by omega) (by omega))]
theorem lettersIn_nI {n z : Nat} (hn : n < 2 ^ 64) (hz : 9 < z) : fX5_lettersIn z (lN n) = some (if gd n 8 = true then nI (mn n 8) else -102) := by
  unfold fX5_lettersIn
  obtain ⟨e, g1, g2⟩ := lettersIn_lp (w := z) hn 8 0 z (by omega) (by omega) rfl
  rw [show ((0 : Int32), (0 : Int32), (0 : Int32)) = (nI (mn n 0), b01 (mn n 0 != 0), nI 0) from rfl, g1]
  cases e with
  | inl x => exact congrArg some g2
  | inr x => exact congrArg some g2
/-- one PAGE, held twice -/
def PG (n : Nat) (px pm : Nat → Int32) : Prop := n ≤ 24 ∧ ∀ j, j < n → px j = pm j ∧ ∃ c, 1 ≤ c ∧ c ≤ 126 ∧ px j = nI c
theorem mn_all {n : Nat} : ∀ k, gd n k = true → ∀ j, j < mn n k → by8 n j ≠ 0 ∧ by8 n j ≤ 126
  | 0, _, j, hj => by simp [mn, fb_ct] at hj
  | k + 1, hg, j, hj => by
    have hg : (gd n k && (decide (by8 n k ≤ 126) && (by8 n k == 0 || mn n k == k))) = true := hg
    simp only [Bool.and_eq_true, Bool.or_eq_true, decide_eq_true_eq, beq_iff_eq] at hg
    obtain ⟨h1, h2, h3⟩ := hg
    rw [mn_succ] at hj
    by_cases c : by8 n k = 0
    · rw [if_pos c] at hj
      exact mn_all k h1 j hj
    · rw [if_neg c] at hj
      have h3 := h3.resolve_left c
      rcases Nat.lt_or_ge j (mn n k) with q | q
      · exact mn_all k h1 j q
      · have : j = k := by omega
        subst this
        exact ⟨c, h2⟩
theorem letters_x {n z s : Nat} {px pm : Nat → Int32} (hn : n < 2 ^ 64) (hz : 30 < z) (hs : s + mn n 8 ≤ 24) :
    ∃ r, fX5_append z (lN n) (nI (mn n 8)) (nI s) px = some r ∧ r.2 = nI (s + mn n 8) ∧ ∀ j, j < s + mn n 8 → r.1 j = if j < s then px j else nI (by8 n (j - s)) := by
  unfold fX5_append
  have h8 := mn_le n 8
  have main : ∃ e, lp (fun sg => fX5_append_L3 z (lN n) (nI (mn n 8)) sg.1 sg.2.2 sg.2.1) z (0, px, nI s) = some e ∧ (e.2 = nI (s + mn n 8) ∧ ∀ j, j < s + mn n 8 → e.1 j = if j < s then px j else nI (by8 n (j - s))) := by
    refine lp_rel0 (fun (i : Nat) (t : Int32 × (Nat → Int32) × Int32) => t.1 = nI i ∧ t.2.2 = nI (s + i) ∧ ∀ j, j < s + i → t.2.1 j = if j < s then px j else nI (by8 n (j - s))) _ (mn n 8) ⟨rfl, rfl, fun j hj => by rw [if_pos (by omega)]⟩ (fun i t hi hr => ?_) (fun t hr => ?_) (by omega)
    · obtain ⟨x, a, b⟩ := t
      obtain ⟨r1, r2, r3⟩ := hr
      dsimp only at r1 r2 r3
      subst r1
      subst r2
      show ∃ s', fX5_append_L3 z (lN n) (nI (mn n 8)) (nI i) (nI (s + i)) a = _ ∧ _
      unfold fX5_append_L3
      rw [if_neg (nI_ge hi (by omega)), if_neg (show ¬ (24 : Int32) ≤ nI (s + i) from nI_ge (a := s + i) (b := 24) (by omega) (by decide)), agd_in (by omega) (by decide), cl_nI (by omega), byteOf_nI hn (by omega), nI_1, nI_1]
      refine ⟨_, rfl, rfl, rfl, fun j hj => ?_⟩
      show upd a (s + i) (nI (by8 n i)) j = _
      by_cases e : j = s + i
      · subst e; rw [pk_us, if_neg (by omega), Nat.add_sub_cancel_left]
      · rw [pk_un e]; exact r3 j (by omega)
    · obtain ⟨x, a, b⟩ := t
      obtain ⟨r1, r2, r3⟩ := hr
      dsimp only at r1 r2 r3
      subst r1
      subst r2
      show ∃ e, fX5_append_L3 z (lN n) (nI (mn n 8)) (nI (mn n 8)) (nI (s + mn n 8)) a = _ ∧ _
      unfold fX5_append_L3
      rw [if_pos (nI_le (Nat.le_refl _) (by omega))]
      exact ⟨_, rfl, rfl, r3⟩
  obtain ⟨e, m1, m2, m3⟩ := main
  rw [m1]
  exact ⟨_, rfl, m2, m3⟩
theorem letters_m {n z s : Nat} {pm : Nat → Int32} (hn : n < 2 ^ 64) (hz : 30 < z) (hs : s + mn n 8 ≤ 24) :
    ∃ e, lp (fun sg => fX10_letters_L108 z (lN n) (nI (mn n 8)) sg.1 sg.2.2 sg.2.1) z (0, pm, nI s) = some e ∧ (e.2 = nI (s + mn n 8) ∧ ∀ j, j < s + mn n 8 → e.1 j = if j < s then pm j else nI (by8 n (j - s))) := by
  have h8 := mn_le n 8
  refine lp_rel0 (fun (i : Nat) (t : Int32 × (Nat → Int32) × Int32) => t.1 = nI i ∧ t.2.2 = nI (s + i) ∧ ∀ j, j < s + i → t.2.1 j = if j < s then pm j else nI (by8 n (j - s))) _ (mn n 8) ⟨rfl, rfl, fun j hj => by rw [if_pos (by omega)]⟩ (fun i t hi hr => ?_) (fun t hr => ?_) (by omega)
  · obtain ⟨x, a, b⟩ := t
    obtain ⟨r1, r2, r3⟩ := hr
    dsimp only at r1 r2 r3
    subst r1
    subst r2
    show ∃ s', fX10_letters_L108 z (lN n) (nI (mn n 8)) (nI i) (nI (s + i)) a = _ ∧ _
    unfold fX10_letters_L108
    rw [if_neg (nI_ge hi (by omega)), agd_in (by omega) (by decide), cl_nI (by omega), byteM_nI hn (by omega), nI_1, nI_1]
    refine ⟨_, rfl, rfl, rfl, fun j hj => ?_⟩
    show upd a (s + i) (nI (by8 n i)) j = _
    by_cases e : j = s + i
    · subst e; rw [pk_us, if_neg (by omega), Nat.add_sub_cancel_left]
    · rw [pk_un e]; exact r3 j (by omega)
  · obtain ⟨x, a, b⟩ := t
    obtain ⟨r1, r2, r3⟩ := hr
    dsimp only at r1 r2 r3
    subst r1
    subst r2
    show ∃ e, fX10_letters_L108 z (lN n) (nI (mn n 8)) (nI (mn n 8)) (nI (s + mn n 8)) a = _ ∧ _
    unfold fX10_letters_L108
    rw [if_pos (nI_le (Nat.le_refl _) (by omega))]
    exact ⟨_, rfl, rfl, r3⟩
theorem lettersM_lp {n z : Nat} {pn : Int32} {pm : Nat → Int32} (hn : n < 2 ^ 64) (hz : 30 < z) : lp (fun sg => fX10_letters_L11 z (lN n) sg.1 sg.2.1 sg.2.2.1 sg.2.2.2 pn pm) z (0, 1, lN n, 0) = some (nI (mn n 8), b01 (gd n 8)) := by
  refine lp_0 (fun k => (nI (mn n k), b01 (gd n k), lN (n / 2 ^ (8 * k)), nI k)) (N := 8) (by simp [mn, gd, fb_ct, b01]; rfl) (fun k hk => ?_) ?_ (by omega)
  · show fX10_letters_L11 z (lN n) (nI (mn n k)) (b01 (gd n k)) (lN (n / 2 ^ (8 * k))) (nI k) pn pm = _
    have hdn : n / 2 ^ (8 * k) < 2 ^ 64 := Nat.lt_of_le_of_lt (Nat.div_le_self _ _) hn
    have hb := by8_lt n k
    have hml := mn_le n k
    have e1 : (lN (n / 2 ^ (8 * k)) &&& 255).toInt32 = nI (by8 n k) := by
      rw [show (255 : Int64) = lN (2 ^ 8 - 1) from rfl, wb_mask hdn (by decide), lN_i]
      rfl
    have e2 : l_ushr (lN (n / 2 ^ (8 * k))) 8 = lN (n / 2 ^ (8 * (k + 1))) := by
      unfold l_ushr
      rw [show (8 : Int32) = nI 8 from rfl, wb_shr hdn (by decide), Nat.div_div_eq_div_mul, ← Nat.pow_add]
      rfl
    have j62 : ∀ g : Bool, fX10_letters_J62 z (lN n) (nI (mn n k)) (lN (n / 2 ^ (8 * (k + 1)))) (nI k) (nI (by8 n k)) (b01 g) pn pm = some (.inl (nI (mn n (k + 1)), b01 g, lN (n / 2 ^ (8 * (k + 1))), nI (k + 1))) := by
      intro g
      unfold fX10_letters_J62
      rw [mn_succ, nI_1, nI_1, show nI (mn n k) + 0 = nI (mn n k + 0) from nI_add _ 0]
      by_cases c : by8 n k = 0
      · rw [if_pos (by rw [c]; decide), if_pos c]
      · rw [if_neg (nI_nle (by omega) (by omega)), if_neg c]
    have hgs : gd n (k + 1) = (gd n k && (decide (by8 n k ≤ 126) && (by8 n k == 0 || mn n k == k))) := rfl
    unfold fX10_letters_L11 fX10_letters_J61 fX10_letters_J57
    rw [if_neg (show ¬ (8 : Int32) ≤ nI k from nI_ge (a := k) (b := 8) (by omega) (by decide)), e1, e2, hgs, show (0 : Int32) = b01 false from rfl, show (1 : Int32) = b01 true from rfl, j62, j62]
    cases gd n k with
    | false => rw [if_pos rfl]; rfl
    | true =>
      rw [if_neg (show ¬ b01 true = b01 false by decide)]
      by_cases c1 : by8 n k ≤ 126
      · rw [if_neg (show ¬ (126 : Int32) < nI (by8 n k) from nI_nlt (a := 126) (b := by8 n k) c1 (by decide))]
        by_cases c2 : by8 n k = 0
        · rw [if_pos (by rw [c2]; rfl), c2]
          simp
        · rw [if_neg (show ¬ nI (by8 n k) = b01 false from nI_ne0 (by omega) (by omega))]
          by_cases c3 : mn n k = k
          · rw [if_pos (by rw [c3]), c3]; simp [c1]
          · rw [if_neg (fun e => c3 ((nI_eq (by omega) (by omega)).mp e))]
            have h1 : (by8 n k == 0) = false := beq_eq_false_iff_ne.mpr c2
            have h2 : (mn n k == k) = false := beq_eq_false_iff_ne.mpr c3
            rw [h1, h2]
            simp
      · rw [if_pos (show (126 : Int32) < nI (by8 n k) from nI_lt (a := 126) (b := by8 n k) (by omega) (by omega))]
        simp [c1]
  · show fX10_letters_L11 z (lN n) (nI (mn n 8)) (b01 (gd n 8)) _ (nI 8) pn pm = _
    unfold fX10_letters_L11
    rw [if_pos (by decide)]
theorem letters_pair {s z : Nat} {px pm : Nat → Int32} (w : Int64) (hP : PG s px pm) (hz : 30 < z) :
    ∃ r s' px' pm', fX9_letters z w (nI s) px = some (r, px', nI s') ∧ fX10_letters z w (nI s) pm = some (r, pm', nI s') ∧ PG s' px' pm' := by
  obtain ⟨n, hn, rfl⟩ := wb_of w
  obtain ⟨p1, p2⟩ := hP
  have h8 := mn_le n 8
  unfold fX9_letters fX10_letters
  rw [lettersIn_nI hn (by omega), lettersM_lp hn hz]
  show ∃ r s' px' pm', (if (if gd n 8 = true then nI (mn n 8) else -102) = -102 then _ else _) = _ ∧ fX10_letters_J83 z (lN n) (nI (mn n 8)) (b01 (gd n 8)) (nI s) pm = _ ∧ _
  unfold fX10_letters_J83
  cases hg : gd n 8 with
  | false =>
    simp only [Bool.false_eq_true, if_false, if_true]
    rw [if_pos (show b01 false = 0 from rfl)]
    exact ⟨-102, s, px, pm, rfl, rfl, p1, p2⟩
  | true =>
    have hne : ¬ nI (mn n 8) = -102 := by
      intro e
      have h1 := nI_toInt (n := mn n 8) (by omega)
      rw [e] at h1
      have h2 : (-102 : Int32).toInt = -102 := by decide
      omega
    simp only [if_true]
    rw [if_neg hne, if_neg (show ¬ b01 true = 0 by decide), nI_add]
    by_cases c : s + mn n 8 ≤ 24
    · have c1 : nI (s + mn n 8) ≤ 24 := nI_le (a := s + mn n 8) (b := 24) c (by decide)
      rw [if_pos c1, if_pos c1]
      obtain ⟨r, a1, a2, a3⟩ := letters_x (px := px) (pm := pm) hn hz c
      obtain ⟨e, b1, b2, b3⟩ := letters_m (pm := pm) hn hz c
      rw [a1, b1]
      refine ⟨nI (s + mn n 8), s + mn n 8, r.1, e.1, ?_, ?_, c, fun j hj => ?_⟩
      · show some (r.2, r.1, r.2) = _; rw [a2]
      · show some (e.2, e.1, e.2) = _; rw [b2]
      · rw [a3 j hj, b3 j hj]
        by_cases q : j < s
        · rw [if_pos q, if_pos q]; exact p2 j q
        · rw [if_neg q, if_neg q]
          have := mn_all 8 hg (j - s) (by omega)
          exact ⟨rfl, by8 n (j - s), by omega, this.2, rfl⟩
    · have c1 : ¬ nI (s + mn n 8) ≤ 24 := nI_ge (a := 24) (b := s + mn n 8) (by omega) (by omega)
      rw [if_neg c1, if_neg c1]
      exact ⟨-104, s, px, pm, rfl, rfl, p1, p2⟩
