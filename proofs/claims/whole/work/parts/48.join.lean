/-! ===== the class's search ===== -/
def RC (V : Nat → Prop) (num : Nat → Nat) (S : BS) (st fs od : Nat → Int32) (rw : Nat → Int64) : Prop :=
  (∀ p, p < S.1.length → od p = nI (S.1.getD p 0)) ∧ (∀ q, V q → st (num q) = if q ∈ S.1 then nI (S.2.1 q) else -1) ∧ (∀ q ∈ S.1, rw (num q) = S.2.2.1 q ∧ fs (num q) = S.2.2.2 q)
/-- how far the last one is -/
def FA (S : BS) (fa : Int32) : Prop := fa = nI (S.2.1 (S.1.getD (S.1.length - 1) 0))
/-- numbers of ORDERS: each its own, below 7560 -/
def NB (V : Nat → Prop) (num : Nat → Nat) (lb : Int32) (ls hn : Nat → Int32) (al : Int32) : Prop :=
  (∀ q, V q → num q < 7560) ∧ (∀ a b, V a → V b → num a = num b → a = b) ∧ ∀ z q, V q → fX4_numberOf z (nI q) lb ls hn al = some (nI (num q))
section CJ
variable {V : Nat → Prop} {num : Nat → Nat} {S : BS} {st fs od ls hn : Nat → Int32} {rw : Nat → Int64} {lb al fa : Int32}
theorem join_add (hN : NB V num lb ls hn al) (hS : BI V S) (hR : RC V num S st fs od rw) (hF : FA S fa) {o q z : Nat} {f : Int32} (ho : o ∈ S.1) (hq : q ∈ S.1) (hqo : q ≠ o) (hB : S.1.length ≤ 7560) :
    ∃ r, fX8_join_J72 z (nI (num o)) (nI (num q)) (nI (S.2.1 o + 1)) f lb ls hn al st (nI S.1.length) rw fs od fa = some r ∧ RC V num (cm2 S o f q) r.1 r.2.2.1 r.2.2.2.1 r.2.1 ∧ r.2.2.2.2.1 = nI S.1.length ∧ FA (cm2 S o f q) r.2.2.2.2.2 := by
  have vo := hS.2.1 o ho
  have vq := hS.2.1 q hq
  have n1 := hN.1 o vo
  have n2 := hN.1 q vq
  have f1 := hS.2.2 o ho
  have f2 := hS.2.2 q hq
  obtain ⟨r1, r2, r3⟩ := hR
  have e2 := r2 q vq
  rw [if_pos hq] at e2
  unfold fX8_join_J72
  rw [agd_in n2 (by decide), cl_nI (by omega), e2]
  unfold cm2
  by_cases c : S.2.1 q = S.2.1 o + 1
  · rw [if_pos (by rw [c]), if_pos c, agd_in n2 (by decide), agd_in n1 (by decide), agd_in n2 (by decide), agd_in n2 (by decide), agd_in n2 (by decide), cl_nI (by omega)]
    refine ⟨_, rfl, ⟨r1, r2, fun x hx => ?_⟩, rfl, hF⟩
    have vx := hS.2.1 x hx
    show vp_updL rw (num q) _ (num x) = va_up S.2.2.1 q _ x ∧ upd fs (num q) _ (num x) = va_up S.2.2.2 q _ x
    by_cases d : x = q
    · subst d
      rw [pk_uLs, pk_us]
      unfold va_up
      rw [if_pos rfl, if_pos rfl, (r3 x hx).1, (r3 x hx).2, (r3 o ho).1]
      exact ⟨rfl, rfl⟩
    · have dn : num x ≠ num q := fun e => d (hN.2.1 x q vx vq e)
      rw [pk_uLn dn, pk_un dn]
      unfold va_up
      rw [if_neg d, if_neg d]
      exact r3 x hx
  · rw [if_neg (fun e => c ((nI_eq (by omega) (by omega)).mp e)), if_neg c]
    exact ⟨_, rfl, ⟨r1, r2, r3⟩, rfl, hF⟩
theorem join_nI (hN : NB V num lb ls hn al) (hS : BI V S) (hR : RC V num S st fs od rw) (hF : FA S fa) {o q z : Nat} {mv : Int32} (ho : o ∈ S.1) (hq : V q) (hqo : q ≠ o) (hB : (cm S o mv q).1.length ≤ 7560) :
    ∃ r, fX8_join z (nI (num o)) (nI q) mv lb ls hn al st (nI S.1.length) rw fs od fa = some r ∧ RC V num (cm S o mv q) r.1 r.2.2.1 r.2.2.2.1 r.2.1 ∧ r.2.2.2.2.1 = nI (cm S o mv q).1.length ∧ FA (cm S o mv q) r.2.2.2.2.2 := by
  have vo := hS.2.1 o ho
  have n1 := hN.1 o vo
  have n2 := hN.1 q hq
  have f1 := hS.2.2 o ho
  have hB1 : S.1.length ≤ 7560 := Nat.le_trans cm_len hB
  obtain ⟨r1, r2, r3⟩ := id hR
  have e1 := r2 o vo
  rw [if_pos ho] at e1
  have j48 : ∃ r, fX8_join_J48 z (nI (num o)) (nI q) (nI (num q)) (nI (S.2.1 o + 1)) (cmF S o mv) lb ls hn al st (nI S.1.length) rw fs od fa = some r ∧ RC V num (cm S o mv q) r.1 r.2.2.1 r.2.2.2.1 r.2.1 ∧ r.2.2.2.2.1 = nI (cm S o mv q).1.length ∧ FA (cm S o mv q) r.2.2.2.2.2 := by
    unfold fX8_join_J48
    rw [agd_in n2 (by decide), cl_nI (by omega), r2 q hq]
    by_cases hin : q ∈ S.1
    · have f2 := hS.2.2 q hin
      rw [if_pos hin, if_neg (nI_ne_m1 (by omega))]
      obtain ⟨r, h1, h2, h3, h4⟩ := join_add (z := z) (f := cmF S o mv) hN hS hR hF ho hin hqo hB1
      refine ⟨r, h1, ?_, ?_, ?_⟩
      · unfold cm cm1; rw [if_pos hin]; exact h2
      · rw [h3, cm_row, if_pos hin]
      · unfold cm cm1; rw [if_pos hin]; exact h4
    · rw [cm_row, if_neg hin, List.length_append] at hB
      have hB : S.1.length + 1 ≤ 7560 := hB
      rw [if_neg hin, if_pos rfl]
      unfold fX8_meet
      rw [if_pos (show nI S.1.length < 7560 from nI_lt (a := S.1.length) (b := 7560) (by omega) (by decide)), agd_in n2 (by decide), agd_in n2 (by decide), agd_in n2 (by decide), agd_in (by omega) (by decide), cl_nI (by omega), cl_nI (by omega), nI_1]
      have hS1 : BI V (cm1 S o mv q) := cm1_BI hS ho hq
      have hl1 : (cm1 S o mv q).1.length = S.1.length + 1 := by rw [cm1_row, if_neg hin, List.length_append]; rfl
      have hq1 : q ∈ (cm1 S o mv q).1 := by rw [cm1_row, if_neg hin]; simp
      have ho1 : o ∈ (cm1 S o mv q).1 := by rw [cm1_row, if_neg hin]; exact List.mem_append_left _ ho
      have hfo : (cm1 S o mv q).2.1 o = S.2.1 o := by
        unfold cm1
        rw [if_neg hin]
        show va_up S.2.1 q _ o = _
        unfold va_up
        rw [if_neg (Ne.symm hqo)]
      have hR1 : RC V num (cm1 S o mv q) (upd st (num q) (nI (S.2.1 o + 1))) (upd fs (num q) (cmF S o mv)) (upd od S.1.length (nI q)) (vp_updL rw (num q) 0) := by
        unfold cm1
        rw [if_neg hin]
        refine ⟨fun j hj => ?_, fun x hx => ?_, fun x hx => ?_⟩
        · have hj : j < S.1.length + 1 := by simpa using hj
          by_cases c : j = S.1.length
          · subst c
            rw [pk_us]
            show nI q = nI ((S.1 ++ [q]).getD S.1.length 0)
            rw [List.getD_eq_getElem?_getD, List.getElem?_append_right (Nat.le_refl _)]
            simp
          · have hj2 : j < S.1.length := by omega
            rw [pk_un c]
            show _ = nI ((S.1 ++ [q]).getD j 0)
            rw [List.getD_eq_getElem?_getD, List.getElem?_append_left hj2, ← List.getD_eq_getElem?_getD]
            exact r1 j hj2
        · show upd st (num q) _ (num x) = if x ∈ S.1 ++ [q] then nI (va_up S.2.1 q _ x) else -1
          by_cases d : x = q
          · subst d
            rw [pk_us, if_pos (by simp)]
            unfold va_up
            rw [if_pos rfl]
          · rw [pk_un (fun e => d (hN.2.1 x q hx hq e)), r2 x hx]
            unfold va_up
            rw [if_neg d]
            by_cases g : x ∈ S.1
            · rw [if_pos g, if_pos (by simp [g])]
            · rw [if_neg g, if_neg (by simp [g, d])]
        · show vp_updL rw (num q) 0 (num x) = va_up S.2.2.1 q 0 x ∧ upd fs (num q) _ (num x) = va_up S.2.2.2 q _ x
          by_cases d : x = q
          · subst d
            rw [pk_uLs, pk_us]
            unfold va_up
            rw [if_pos rfl, if_pos rfl]
            exact ⟨rfl, rfl⟩
          · have hx : x ∈ S.1 ++ [q] := hx
            have hx1 : x ∈ S.1 := by simpa [d] using hx
            have dn : num x ≠ num q := fun e => d (hN.2.1 x q (hS.2.1 x hx1) hq e)
            rw [pk_uLn dn, pk_un dn]
            unfold va_up
            rw [if_neg d, if_neg d]
            exact r3 x hx1
      have hF1 : FA (cm1 S o mv q) (nI (S.2.1 o + 1)) := by
        unfold FA
        have eg : (cm1 S o mv q).1.getD ((cm1 S o mv q).1.length - 1) 0 = q := by
          rw [hl1, cm1_row, if_neg hin, Nat.add_sub_cancel, List.getD_eq_getElem?_getD, List.getElem?_append_right (Nat.le_refl _)]
          simp
        rw [eg]
        unfold cm1
        rw [if_neg hin]
        show _ = nI (va_up S.2.1 q _ q)
        unfold va_up
        rw [if_pos rfl]
      obtain ⟨r, h1, h2, h3, h4⟩ := join_add (z := z) (f := cmF S o mv) hN hS1 hR1 hF1 ho1 hq1 hqo (by omega)
      rw [hl1, hfo] at h1
      rw [hl1] at h3
      refine ⟨r, h1, h2, ?_, h4⟩
      rw [h3, cm_row, if_neg hin, List.length_append]
      rfl
  unfold fX8_join
  rw [hN.2.2 z q hq]
  show ∃ r, (if nI (num o) = -1 then _ else (if nI (num q) = -1 then _ else _)) = some r ∧ _
  rw [if_neg (nI_ne_m1 (by omega)), if_neg (nI_ne_m1 (by omega)), agd_in n1 (by decide), cl_nI (by omega), e1, nI_1]
  by_cases c : S.2.1 o = 0
  · have ec : cmF S o mv = mv := by unfold cmF; rw [if_pos c]
    rw [if_pos (by rw [c]; rfl), ← ec]
    rw [ec] at j48 ⊢
    exact j48
  · have ec : cmF S o mv = fs (num o) := by unfold cmF; rw [if_neg c, (r3 o ho).2]
    rw [if_neg (fun e => c (by have := (nI_eq (a := S.2.1 o + 1) (b := 1) (by omega) (by decide)).mp e; omega)), agd_in n1 (by decide), ← ec]
    exact j48
end CJ
