/-! ===== ENDING: the class's sorting by levels ===== -/
def cE (v : Nat → Nat) (N l : Nat) : Nat := fb_ct (fun i => decide (v i ≤ l)) N
def cB (v : Nat → Nat) (N l : Nat) : Nat := fb_ct (fun i => decide (v i < l)) N
def cD (v : Nat → Nat) (i l : Nat) : Nat := fb_ct (fun j => v j == l) i
section CO
variable {v : Nat → Nat} {N : Nat}
theorem cE_eq (l : Nat) : cE v N l = cB v N l + cD v N l := by
  unfold cE cB cD
  rw [← fb_ct_or (fun k _ h => by
    have h1 := of_decide_eq_true h.1
    have h2 := beq_iff_eq.mp h.2
    omega)]
  refine fb_ct_cong (fun k _ => ?_)
  rcases Nat.lt_trichotomy (v k) l with h | h | h
  · rw [decide_eq_true (show v k ≤ l by omega), decide_eq_true h, Bool.true_or]
  · rw [decide_eq_true (show v k ≤ l by omega), h, beq_self_eq_true, Bool.or_true]
  · rw [decide_eq_false (show ¬ v k ≤ l by omega), decide_eq_false (show ¬ v k < l by omega), beq_eq_false_iff_ne.mpr (show v k ≠ l by omega)]
    rfl
theorem cB_succ (l : Nat) : cB v N (l + 1) = cE v N l := fb_ct_cong (fun k _ => by
  rcases Nat.lt_or_ge (v k) (l + 1) with h | h
  · rw [decide_eq_true h, decide_eq_true (show v k ≤ l by omega)]
  · rw [decide_eq_false (show ¬ v k < l + 1 by omega), decide_eq_false (show ¬ v k ≤ l by omega)])
theorem cB_0 : cB v N 0 = 0 := fb_ct_zero.mpr (fun k _ => decide_eq_false (by omega))
theorem cE_cB {l l' : Nat} (h : l < l') : cE v N l ≤ cB v N l' := fb_ct_sub (fun k _ e => by
  have := of_decide_eq_true e
  exact decide_eq_true (by omega))
theorem cE_le (l : Nat) : cE v N l ≤ N := fb_ct_le _ _
theorem cE_all {M : Nat} (h : ∀ i, i < N → v i ≤ M) : cE v N M = N := fb_ct_all.mpr (fun k hk => decide_eq_true (h k hk))
theorem cD_le {i : Nat} (h : i ≤ N) (l : Nat) : cD v i l ≤ cD v N l := fb_ct_mono _ h
theorem cD_same (i : Nat) : cD v (i + 1) (v i) = cD v i (v i) + 1 := by
  unfold cD
  rw [fb_ct_succ, beq_self_eq_true, if_pos rfl]
theorem cD_other {i l : Nat} (h : v i ≠ l) : cD v (i + 1) l = cD v i l := by
  unfold cD
  rw [fb_ct_succ, beq_eq_false_iff_ne.mpr h, if_neg (by decide)]
  rfl
theorem cD_lt {i : Nat} (h : i < N) : cD v i (v i) < cD v N (v i) := by
  have a := cD_le (v := v) (show i + 1 ≤ N by omega) (v i)
  rw [cD_same] at a
  omega
theorem dis {l l' m p : Nat} (hl : l ≠ l') (h1 : cB v N l ≤ m) (h2 : m < cE v N l) (h3 : cB v N l' ≤ p) (h4 : p < cE v N l') : p ≠ m := by
  rcases Nat.lt_or_gt_of_ne hl with g | g
  · have := cE_cB (v := v) (N := N) g
    omega
  · have := cE_cB (v := v) (N := N) g
    omega
end CO
section SO
variable {n : Nat} {bk : Nat → Nat} {z N : Nat} {dp le so od : Nat → Int32} {x : Nat → Nat}
theorem sort_1 (h : ED n bk) (hd : ∀ i, i < n → dp i = nI (dd n bk i)) (hx : ∀ p, p < N → x p < 4 ^ 9) (hod : ∀ p, p < N → od p = nI (x p)) (hN : N ≤ 1680) (hz : 8000 < z) {rI : Int32} (hle : ∀ l, l < 145 → le l = 0) :
    ∃ e, lp (fun sg => fX2_sortByLevel_L24 z (nI N) sg.1 rI sg.2 od (nI n) dp so) z (0, le) = some e ∧ ∀ l, l < 145 → e l = nI (cD (fun i => lv n bk (x i)) N l) := by
  refine lp_rel0 (fun (k : Nat) (s : Int32 × (Nat → Int32)) => s.1 = nI k ∧ ∀ l, l < 145 → s.2 l = nI (cD (fun i => lv n bk (x i)) k l)) _ N ⟨rfl, fun l hl => hle l hl⟩ (fun k s hk hr => ?_) (fun s hr => ?_) (by omega)
  · obtain ⟨y, ls⟩ := s
    obtain ⟨r1, r2⟩ := hr
    dsimp only at r1 r2
    subst r1
    have hv : lv n bk (x k) < 145 := by have := lv_144 (o := x k) h; omega
    show ∃ s', fX2_sortByLevel_L24 z (nI N) (nI k) rI ls od (nI n) dp so = _ ∧ _
    unfold fX2_sortByLevel_L24
    rw [if_neg (nI_ge hk (by omega)), agd_in (show k < 7560 by omega) (by decide), cl_nI (by omega), hod k hk, levelOf_nI h hd (hx k hk) (by omega), Option.bind_some, agd_in hv (by decide), agd_in hv (by decide), cl_nI (by omega), r2 _ hv, nI_1, nI_1]
    refine ⟨_, rfl, rfl, fun l hl => ?_⟩
    show upd ls (lv n bk (x k)) _ l = _
    by_cases e : l = lv n bk (x k)
    · subst e
      rw [pk_us]
      exact congrArg nI (cD_same (v := fun i => lv n bk (x i)) k).symm
    · rw [pk_un e, r2 l hl]
      exact congrArg nI (cD_other (v := fun i => lv n bk (x i)) (fun g => e g.symm)).symm
  · obtain ⟨y, ls⟩ := s
    obtain ⟨r1, r2⟩ := hr
    dsimp only at r1 r2
    subst r1
    show ∃ e, fX2_sortByLevel_L24 z (nI N) (nI N) rI ls od (nI n) dp so = _ ∧ _
    unfold fX2_sortByLevel_L24
    rw [if_pos (nI_le (Nat.le_refl _) (by omega))]
    exact ⟨_, rfl, r2⟩
theorem sort_2 {v : Nat → Nat} (hN : N ≤ 1680) (hz : 8000 < z) {xI rI nn : Int32} (hle : ∀ l, l < 145 → le l = nI (cD v N l)) :
    ∃ e, lp (fun sg => fX2_sortByLevel_L59 z xI sg.1 rI sg.2 od nn dp so) z (1, le) = some e ∧ ∀ l, l < 145 → e l = nI (cE v N l) := by
  refine lp_rel0 (fun (i : Nat) (s : Int32 × (Nat → Int32)) => s.1 = nI (i + 1) ∧ ∀ l, l < 145 → s.2 l = nI (if l < i + 1 then cE v N l else cD v N l)) _ 144 ⟨rfl, fun l hl => ?_⟩ (fun k s hk hr => ?_) (fun s hr => ?_) (by omega)
  · show le l = _
    rw [hle l hl]
    split
    · rename_i g
      have e : l = 0 := by omega
      subst e
      rw [cE_eq, cB_0, Nat.zero_add]
    · rfl
  · obtain ⟨y, ls⟩ := s
    obtain ⟨r1, r2⟩ := hr
    dsimp only at r1 r2
    subst r1
    show ∃ s', fX2_sortByLevel_L59 z xI (nI (k + 1)) rI ls od nn dp so = _ ∧ _
    unfold fX2_sortByLevel_L59
    rw [if_neg (show ¬ (145 : Int32) ≤ nI (k + 1) from nI_ge (a := k + 1) (b := 145) (by omega) (by decide)), agd_in (show k + 1 < 145 by omega) (by decide), nI_pred, agd_in (show k < 145 by omega) (by decide), agd_in (show k + 1 < 145 by omega) (by decide), cl_nI (show k + 1 < 2 ^ 31 by omega), cl_nI (show k < 2 ^ 31 by omega), r2 (k + 1) (by omega), r2 k (by omega), if_neg (show ¬ k + 1 < k + 1 by omega), if_pos (show k < k + 1 by omega), nI_add, nI_1]
    refine ⟨_, rfl, rfl, fun l hl => ?_⟩
    show upd ls (k + 1) (nI (cD v N (k + 1) + cE v N k)) l = _
    by_cases e : l = k + 1
    · subst e
      rw [pk_us, if_pos (by omega), cE_eq (k + 1), cB_succ, Nat.add_comm]
    · rw [pk_un e, r2 l hl]
      by_cases g : l < k + 1
      · rw [if_pos g, if_pos (by omega)]
      · rw [if_neg g, if_neg (by omega)]
  · obtain ⟨y, ls⟩ := s
    obtain ⟨r1, r2⟩ := hr
    dsimp only at r1 r2
    subst r1
    show ∃ e, fX2_sortByLevel_L59 z xI (nI (144 + 1)) rI ls od nn dp so = _ ∧ _
    unfold fX2_sortByLevel_L59
    rw [if_pos (show (145 : Int32) ≤ nI (144 + 1) by decide)]
    exact ⟨_, rfl, fun l hl => by rw [r2 l hl, if_pos (by omega)]⟩
def SR (v : Nat → Nat) (N : Nat) (x : Nat → Nat) (i : Nat) (le so : Nat → Int32) : Prop :=
  (∀ l, l < 145 → le l = nI (cE v N l - cD v i l)) ∧ (∀ i', i' < i → ∃ p, cE v N (v i') - cD v i (v i') ≤ p ∧ p < cE v N (v i') ∧ so p = nI (x i')) ∧
  (∀ l p, l < 145 → cE v N l - cD v i l ≤ p → p < cE v N l → ∃ i', i' < N ∧ so p = nI (x i') ∧ v i' = l)
theorem SR_step {v : Nat → Nat} {i m : Nat} (hi : i < N) (hv : v i < 145) (hm : cE v N (v i) - cD v i (v i) = m + 1) (h : SR v N x i le so) : SR v N x (i + 1) (upd le (v i) (nI m)) (upd so m (nI (x i))) := by
  obtain ⟨h1, h2, h3⟩ := h
  have a1 := cD_lt (v := v) hi
  have a2 := cE_eq (v := v) (N := N) (v i)
  have mB : cB v N (v i) ≤ m := by omega
  have mE : m < cE v N (v i) := by omega
  refine ⟨fun l hl => ?_, fun i' hi' => ?_, fun l p hl g1 g2 => ?_⟩
  · by_cases e : l = v i
    · subst e
      rw [pk_us, cD_same, show cE v N (v i) - (cD v i (v i) + 1) = m by omega]
    · rw [pk_un e, h1 l hl, cD_other (fun g => e g.symm)]
  · by_cases e : i' = i
    · subst e
      exact ⟨m, by rw [cD_same]; omega, mE, pk_us⟩
    · obtain ⟨p, p1, p2, p3⟩ := h2 i' (by omega)
      by_cases g : v i' = v i
      · rw [g] at p1 p2 ⊢
        refine ⟨p, by rw [cD_same]; omega, p2, ?_⟩
        rw [pk_un (by omega)]
        exact p3
      · have b1 := cD_le (v := v) (show i ≤ N by omega) (v i')
        have b2 := cE_eq (v := v) (N := N) (v i')
        refine ⟨p, by rw [cD_other (fun q => g q.symm)]; exact p1, p2, ?_⟩
        rw [pk_un (dis (fun q => g q.symm) mB mE (by omega) p2)]
        exact p3
  · by_cases e : l = v i
    · subst e
      rw [cD_same] at g1
      by_cases f : p = m
      · subst f
        exact ⟨i, hi, pk_us, rfl⟩
      · rw [pk_un f]
        exact h3 _ p hl (by omega) g2
    · rw [cD_other (fun q => e q.symm)] at g1
      have b1 := cD_le (v := v) (show i ≤ N by omega) l
      have b2 := cE_eq (v := v) (N := N) l
      rw [pk_un (dis (fun q => e q.symm) mB mE (by omega) g2)]
      exact h3 l p hl g1 g2
theorem sort_3 (h : ED n bk) (hd : ∀ i, i < n → dp i = nI (dd n bk i)) (hx : ∀ p, p < N → x p < 4 ^ 9) (hod : ∀ p, p < N → od p = nI (x p)) (hN : N ≤ 1680) (hz : 8000 < z) {rI : Int32} (hle : ∀ l, l < 145 → le l = nI (cE (fun i => lv n bk (x i)) N l)) :
    ∃ e, lp (fun sg => fX2_sortByLevel_L91 z (nI N) sg.1 rI sg.2.1 od (nI n) dp sg.2.2) z (0, le, so) = some e ∧ SR (fun i => lv n bk (x i)) N x N e.1 e.2 := by
  refine lp_rel0 (fun (k : Nat) (s : Int32 × (Nat → Int32) × (Nat → Int32)) => s.1 = nI k ∧ SR (fun i => lv n bk (x i)) N x k s.2.1 s.2.2) _ N ⟨rfl, ⟨fun l hl => hle l hl, fun i' hi' => by omega, fun l p hl g1 g2 => ?_⟩⟩ (fun k s hk hr => ?_) (fun s hr => ?_) (by omega)
  · have g1 : cE (fun i => lv n bk (x i)) N l - 0 ≤ p := g1
    omega
  · obtain ⟨y, ls, ss⟩ := s
    obtain ⟨r1, r2⟩ := hr
    dsimp only at r1 r2
    subst r1
    have hv : lv n bk (x k) < 145 := by have := lv_144 (o := x k) h; omega
    have a1 := cD_lt (v := fun i => lv n bk (x i)) hk
    have a2 := cE_eq (v := fun i => lv n bk (x i)) (N := N) (lv n bk (x k))
    have a3 := cE_le (v := fun i => lv n bk (x i)) (N := N) (lv n bk (x k))
    have hr0 := r2.1 _ hv
    obtain ⟨m, hm⟩ : ∃ m, cE (fun i => lv n bk (x i)) N (lv n bk (x k)) - cD (fun i => lv n bk (x i)) k (lv n bk (x k)) = m + 1 := ⟨cE (fun i => lv n bk (x i)) N (lv n bk (x k)) - cD (fun i => lv n bk (x i)) k (lv n bk (x k)) - 1, by omega⟩
    have hs := SR_step (x := x) hk hv hm r2
    rw [hm] at hr0
    show ∃ s', fX2_sortByLevel_L91 z (nI N) (nI k) rI ls od (nI n) dp ss = _ ∧ _
    unfold fX2_sortByLevel_L91
    rw [if_neg (nI_ge hk (by omega)), agd_in (show k < 7560 by omega) (by decide), cl_nI (show k < 2 ^ 31 by omega), hod k hk, levelOf_nI h hd (hx k hk) (by omega), Option.bind_some, agd_in hv (by decide), agd_in hv (by decide), agd_in hv (by decide), cl_nI (show lv n bk (x k) < 2 ^ 31 by omega), hr0, nI_pred, pk_us, if_neg (nI_pos (by omega)), if_neg (show ¬ (1680 : Int32) ≤ nI m from nI_ge (a := m) (b := 1680) (by omega) (by decide)), agd_in (show k < 7560 by omega) (by decide), agd_in (show m < 1680 by omega) (by decide), cl_nI (show m < 2 ^ 31 by omega), nI_1]
    exact ⟨_, rfl, rfl, hs⟩
  · obtain ⟨y, ls, ss⟩ := s
    obtain ⟨r1, r2⟩ := hr
    dsimp only at r1 r2
    subst r1
    show ∃ e, fX2_sortByLevel_L91 z (nI N) (nI N) rI ls od (nI n) dp ss = _ ∧ _
    unfold fX2_sortByLevel_L91
    rw [if_pos (nI_le (Nat.le_refl _) (by omega))]
    exact ⟨_, rfl, r2⟩
/-- sorted: each has a place, each place has one, the levels rise -/
def SD (v : Nat → Nat) (N : Nat) (x : Nat → Nat) (so : Nat → Int32) : Prop :=
  (∀ i, i < N → ∃ p, p < N ∧ so p = nI (x i)) ∧ ∀ p, p < N → ∃ i, i < N ∧ so p = nI (x i) ∧ cB v N (v i) ≤ p ∧ p < cE v N (v i)
theorem SR_SD {v : Nat → Nat} (hv : ∀ i, i < N → v i < 145) (h : SR v N x N le so) : SD v N x so := by
  obtain ⟨h1, h2, h3⟩ := h
  refine ⟨fun i hi => ?_, fun p hp => ?_⟩
  · obtain ⟨p, a, b, d⟩ := h2 i hi
    exact ⟨p, Nat.lt_of_lt_of_le b (cE_le _), d⟩
  · obtain ⟨l, l1, l2⟩ := pk_least (fun l => p < cE v N l) ⟨144, by rw [cE_all (fun i hi => by have := hv i hi; omega)]; exact hp⟩
    have l1 : p < cE v N l := l1
    have l3 : l < 145 := by
      rcases Nat.lt_or_ge l 145 with g | g
      · exact g
      · exact absurd (show p < cE v N 144 by rw [cE_all (fun i hi => by have := hv i hi; omega)]; exact hp) (l2 144 (by omega))
    have l4 : cB v N l ≤ p := by
      cases l with
      | zero => rw [cB_0]; exact Nat.zero_le _
      | succ l =>
        rw [cB_succ]
        exact Nat.not_lt.mp (l2 l (by omega))
    have e := cE_eq (v := v) (N := N) l
    obtain ⟨i, a, b, d⟩ := h3 l p l3 (by omega) l1
    exact ⟨i, a, b, by rw [d]; exact l4, by rw [d]; exact l1⟩
theorem SD_up {v : Nat → Nat} {i j p q : Nat} (hpq : p ≤ q) (hi : p < cE v N (v i)) (hi2 : cB v N (v i) ≤ p) (hj : q < cE v N (v j)) : v i ≤ v j := by
  rcases Nat.lt_or_ge (v j) (v i) with g | g
  · have := cE_cB (v := v) (N := N) g
    omega
  · exact g
theorem sort_nI (h : ED n bk) (hd : ∀ i, i < n → dp i = nI (dd n bk i)) (hx : ∀ p, p < N → x p < 4 ^ 9) (hod : ∀ p, p < N → od p = nI (x p)) (hN : N ≤ 1680) (hz : 8000 < z) :
    ∃ le' so', fX2_sortByLevel z (nI N) le od (nI n) dp so = some (le', so') ∧ SD (fun i => lv n bk (x i)) N x so' := by
  have emin : i_min (nI N) 1680 = nI N := by
    rw [show (1680 : Int32) = nI 1680 from rfl, i_min_nI (by omega) (by decide), Nat.min_eq_left hN]
  unfold fX2_sortByLevel
  rw [fill_nI (by decide) (by omega), Option.bind_some, emin]
  obtain ⟨e1, a1, a2⟩ := sort_1 (z := z) (so := so) (rI := nI N) (le := fa_fill (fun _ => (0 : Int32)) le 145) h hd hx hod hN hz (fun l hl => fa_fill_in hl)
  rw [a1, Option.bind_some]
  unfold fX2_sortByLevel_J57
  obtain ⟨e2, b1, b2⟩ := sort_2 (z := z) (so := so) (od := od) (dp := dp) (xI := nI N) (rI := nI N) (nn := nI n) hN hz a2
  rw [b1, Option.bind_some]
  unfold fX2_sortByLevel_J89
  obtain ⟨e3, c1, c2⟩ := sort_3 (z := z) (so := so) (rI := nI N) h hd hx hod hN hz b2
  rw [c1, Option.bind_some]
  unfold fX2_sortByLevel_J163
  exact ⟨e3.1, e3.2, rfl, SR_SD (fun i hi => by have := lv_144 (o := x i) h; omega) c2⟩
end SO
