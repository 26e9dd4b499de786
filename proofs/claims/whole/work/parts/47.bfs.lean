/-! ===== loops by a relation ===== -/
theorem lp_rel {α β : Type} {f : α → Option (α ⊕ β)} (R : Nat → α → Prop) (Q : β → Prop) {N : Nat} (h : ∀ i s, i < N → R i s → ∃ s', f s = some (.inl s') ∧ R (i + 1) s') (hx : ∀ s, R N s → ∃ e, f s = some (.inr e) ∧ Q e) : ∀ z k s, k ≤ N → N < k + z → R k s → ∃ e, lp f z s = some e ∧ Q e
  | 0, k, s, hk, hz, _ => by omega
  | z + 1, k, s, hk, hz, hr => by
    rcases Nat.lt_or_ge k N with q | q
    · obtain ⟨s', h1, h2⟩ := h k s q hr
      obtain ⟨e, h3, h4⟩ := lp_rel R Q h hx z (k + 1) s' q (by omega) h2
      exact ⟨e, (lp_in h1).trans h3, h4⟩
    · have e1 : k = N := by omega
      subst e1
      obtain ⟨e, h1, h2⟩ := hx s hr
      exact ⟨e, lp_out h1, h2⟩
theorem lp_rel0 {α β : Type} {f : α → Option (α ⊕ β)} (R : Nat → α → Prop) (Q : β → Prop) (N : Nat) {z : Nat} {s : α} (hr : R 0 s) (h : ∀ i s, i < N → R i s → ∃ s', f s = some (.inl s') ∧ R (i + 1) s') (hx : ∀ s, R N s → ∃ e, f s = some (.inr e) ∧ Q e) (hz : N < z) : ∃ e, lp f z s = some e ∧ Q e := lp_rel R Q h hx z 0 s (Nat.zero_le _) (by omega) hr
/-! ===== all ORDERS that can be come to: one row, how far, in how many ways, by which first MOVE ===== -/
abbrev BS : Type := List Nat × (Nat → Nat) × (Nat → Int64) × (Nat → Int32)
def cmF (S : BS) (o : Nat) (mv : Int32) : Int32 := if S.2.1 o = 0 then mv else S.2.2.2 o
def cm1 (S : BS) (o : Nat) (mv : Int32) (q : Nat) : BS := if q ∈ S.1 then S else (S.1 ++ [q], va_up S.2.1 q (S.2.1 o + 1), va_up S.2.2.1 q 0, va_up S.2.2.2 q (cmF S o mv))
def cm2 (S : BS) (o : Nat) (f : Int32) (q : Nat) : BS := if S.2.1 q = S.2.1 o + 1 then (S.1, S.2.1, va_up S.2.2.1 q (S.2.2.1 q + S.2.2.1 o), va_up S.2.2.2 q (i_min (S.2.2.2 q) f)) else S
def cm (S : BS) (o : Nat) (mv : Int32) (q : Nat) : BS := cm2 (cm1 S o mv q) o (cmF S o mv) q
def ks (n : Nat) (c : Nat → Nat → Nat → Bool) (S : BS) (o : Nat) : Nat → BS
  | 0 => S
  | k + 1 => if c o (k / n) (k % n) then cm (ks n c S o k) o (nI (16 * (k / n) + k % n)) (mvd o (k / n) (k % n)) else ks n c S o k
def bs0 (o : Nat) : BS := ([o], fun _ => 0, fun _ => 1, fun _ => -1)
def ps (n : Nat) (c : Nat → Nat → Nat → Bool) (o0 : Nat) : Nat → BS
  | 0 => bs0 o0
  | p + 1 => if p < (ps n c o0 p).1.length then ks n c (ps n c o0 p) ((ps n c o0 p).1.getD p 0) (n * n) else ps n c o0 p
/-- what always holds of it -/
def BI (V : Nat → Prop) (S : BS) : Prop := S.1.Nodup ∧ (∀ q ∈ S.1, V q) ∧ ∀ q ∈ S.1, S.2.1 q < S.1.length
theorem cm1_row (S : BS) (o : Nat) (mv : Int32) (q : Nat) : (cm1 S o mv q).1 = if q ∈ S.1 then S.1 else S.1 ++ [q] := by
  unfold cm1; split <;> rfl
theorem cm2_row (S : BS) (o : Nat) (f : Int32) (q : Nat) : (cm2 S o f q).1 = S.1 := by
  unfold cm2; split <;> rfl
theorem cm2_far (S : BS) (o : Nat) (f : Int32) (q : Nat) : (cm2 S o f q).2.1 = S.2.1 := by
  unfold cm2; split <;> rfl
theorem cm_row (S : BS) (o : Nat) (mv : Int32) (q : Nat) : (cm S o mv q).1 = if q ∈ S.1 then S.1 else S.1 ++ [q] := by
  unfold cm; rw [cm2_row, cm1_row]
theorem cm1_BI {V : Nat → Prop} {S : BS} {o : Nat} {mv : Int32} {q : Nat} (h : BI V S) (ho : o ∈ S.1) (hq : V q) : BI V (cm1 S o mv q) := by
  unfold cm1
  split
  · exact h
  · rename_i hn
    obtain ⟨h1, h2, h3⟩ := h
    refine ⟨?_, ?_, ?_⟩
    · rw [List.nodup_append]
      refine ⟨h1, by simp, fun a ha b hb => ?_⟩
      simp at hb
      subst hb
      intro e
      subst e
      exact hn ha
    · intro x hx
      rcases List.mem_append.mp hx with a | a
      · exact h2 x a
      · simp at a; subst a; exact hq
    · intro x hx
      have ho3 := h3 o ho
      show va_up S.2.1 q (S.2.1 o + 1) x < (S.1 ++ [q]).length
      rw [List.length_append]
      show _ < S.1.length + 1
      unfold va_up
      split
      · omega
      · rcases List.mem_append.mp hx with a | a
        · have := h3 x a; omega
        · simp at a; contradiction
theorem cm2_BI {V : Nat → Prop} {S : BS} {o : Nat} {f : Int32} {q : Nat} (h : BI V S) : BI V (cm2 S o f q) := by
  obtain ⟨h1, h2, h3⟩ := h
  refine ⟨?_, ?_, ?_⟩
  · rw [cm2_row]; exact h1
  · rw [cm2_row]; exact h2
  · rw [cm2_row, cm2_far]; exact h3
theorem cm_BI {V : Nat → Prop} {S : BS} {o : Nat} {mv : Int32} {q : Nat} (h : BI V S) (ho : o ∈ S.1) (hq : V q) : BI V (cm S o mv q) := cm2_BI (cm1_BI h ho hq)
theorem cm_mem {S : BS} {o : Nat} {mv : Int32} {q x : Nat} (h : x ∈ S.1) : x ∈ (cm S o mv q).1 := by
  rw [cm_row]
  split
  · exact h
  · exact List.mem_append_left _ h
theorem cm_len {S : BS} {o : Nat} {mv : Int32} {q : Nat} : S.1.length ≤ (cm S o mv q).1.length := by
  rw [cm_row]
  split
  · exact Nat.le_refl _
  · rw [List.length_append]; omega
theorem cm_getD {S : BS} {o : Nat} {mv : Int32} {q p : Nat} (h : p < S.1.length) : (cm S o mv q).1.getD p 0 = S.1.getD p 0 := by
  rw [cm_row]
  split
  · rfl
  · rw [List.getD_eq_getElem?_getD, List.getD_eq_getElem?_getD, List.getElem?_append_left h]
theorem getD_mem {l : List Nat} {p : Nat} (h : p < l.length) : l.getD p 0 ∈ l := by
  rw [List.getD_eq_getElem?_getD, List.getElem?_eq_getElem h]
  exact List.getElem_mem h
theorem getD_inj {l : List Nat} (h : l.Nodup) {i j : Nat} (hi : i < l.length) (hj : j < l.length) (e : l.getD i 0 = l.getD j 0) : i = j := by
  rw [List.getD_eq_getElem?_getD, List.getD_eq_getElem?_getD, List.getElem?_eq_getElem hi, List.getElem?_eq_getElem hj] at e
  exact (List.getElem_inj h).mp e
theorem mem_getD {l : List Nat} {q : Nat} (h : q ∈ l) : ∃ p, p < l.length ∧ l.getD p 0 = q := by
  obtain ⟨p, hp, e⟩ := List.getElem_of_mem h
  exact ⟨p, hp, by rw [List.getD_eq_getElem?_getD, List.getElem?_eq_getElem hp]; exact e⟩
/-! ===== the reference's row ===== -/
def RM (S : BS) (pl row far : Nat → Int32) (wy : Nat → Int64) (mr : Nat → Int32) : Prop :=
  (∀ p, p < S.1.length → row p = nI (S.1.getD p 0) ∧ far p = nI (S.2.1 (S.1.getD p 0)) ∧ wy p = S.2.2.1 (S.1.getD p 0) ∧ mr p = 0 ∧ pl (S.1.getD p 0) = nI (p + 1)) ∧ (∀ q, q < 262144 → q ∉ S.1 → pl q = 0)
section MC
variable {V : Nat → Prop} {S : BS} {pl row far mr : Nat → Int32} {wy : Nat → Int64}
theorem come_add (hV : ∀ q, V q → q < 262144) (hS : BI V S) (hR : RM S pl row far wy mr) (hB : S.1.length ≤ 7560) {p q z : Nat} {mv : Int32} (hp : p < S.1.length) (hq : q ∈ S.1) (hqo : q ≠ S.1.getD p 0) :
    ∃ r, fX10_come_J90 z (nI p) ((pl q) - 1) pl (nI S.1.length) row far wy mr = some r ∧ RM (cm2 S (S.1.getD p 0) mv q) r.1 r.2.1 r.2.2.1 r.2.2.2.1 r.2.2.2.2.1 ∧ r.2.2.2.2.2 = nI S.1.length := by
  obtain ⟨k, hk, ek⟩ := mem_getD hq
  obtain ⟨r1, r2⟩ := hR
  obtain ⟨a1, a2, a3, a4, a5⟩ := r1 p hp
  obtain ⟨b1, b2, b3, b4, b5⟩ := r1 k hk
  rw [ek] at b1 b2 b3 b5
  have f1 := hS.2.2 _ (getD_mem hp)
  have f2 := hS.2.2 _ hq
  have e1 : pl q - 1 = nI k := by rw [b5]; exact nI_pred k
  unfold fX10_come_J90
  rw [e1, if_neg (nI_ne_m1 (by omega)), agd_in (by omega) (by decide), agd_in (by omega) (by decide), cl_nI (by omega), cl_nI (by omega), b2, a2, nI_1]
  unfold cm2
  by_cases c : S.2.1 q = S.2.1 (S.1.getD p 0) + 1
  · rw [if_pos (by rw [c]), agd_in (by omega) (by decide), agd_in (by omega) (by decide), agd_in (by omega) (by decide), if_pos c]
    refine ⟨_, rfl, ⟨fun j hj => ?_, r2⟩, rfl⟩
    obtain ⟨c1, c2, c3, c4, c5⟩ := r1 j hj
    refine ⟨c1, c2, ?_, c4, c5⟩
    show vp_updL wy k (wy k + wy p) j = va_up S.2.2.1 q _ (S.1.getD j 0)
    unfold vp_updL va_up
    by_cases d : j = k
    · subst d
      rw [if_pos rfl, if_pos ek, b3, a3]
    · rw [if_neg d, if_neg (fun e => d (getD_inj hS.1 hj hk (by rw [e, ek])))]
      exact c3
  · rw [if_neg (fun e => c ((nI_eq (by omega) (by omega)).mp e)), if_neg c]
    exact ⟨_, rfl, ⟨r1, r2⟩, rfl⟩
theorem come_nI (hV : ∀ q, V q → q < 262144) (hS : BI V S) (hR : RM S pl row far wy mr) {p q z : Nat} {mv : Int32} (hp : p < S.1.length) (hq : V q) (hqo : q ≠ S.1.getD p 0) (hB : (cm S (S.1.getD p 0) mv q).1.length ≤ 7560) :
    ∃ r, fX10_come z (nI q) (nI p) pl (nI S.1.length) row far wy mr = some r ∧ RM (cm S (S.1.getD p 0) mv q) r.1 r.2.1 r.2.2.1 r.2.2.2.1 r.2.2.2.2.1 ∧ r.2.2.2.2.2 = nI (cm S (S.1.getD p 0) mv q).1.length := by
  have hq2 := hV q hq
  have hB1 : S.1.length ≤ 7560 := Nat.le_trans cm_len hB
  unfold fX10_come
  rw [agd_in hq2 (by decide), cl_nI (by omega)]
  by_cases hin : q ∈ S.1
  · obtain ⟨k, hk, ek⟩ := mem_getD hin
    have b5 := (hR.1 k hk).2.2.2.2
    rw [ek] at b5
    have e1 : pl q - 1 = nI k := by rw [b5]; exact nI_pred k
    rw [if_pos (by rw [e1]; exact nI_pos' (by omega))]
    obtain ⟨r, h1, h2, h3⟩ := come_add (z := z) (mv := cmF S (S.1.getD p 0) mv) hV hS hR hB1 hp hin hqo
    refine ⟨r, h1, ?_, ?_⟩
    · unfold cm cm1
      rw [if_pos hin]
      exact h2
    · rw [h3, cm_row, if_pos hin]
  · have e0 := hR.2 q hq2 hin
    rw [cm_row, if_neg hin, List.length_append] at hB
    have hB : S.1.length + 1 ≤ 7560 := hB
    rw [if_neg (by rw [e0]; decide), agd_in (by omega) (by decide), agd_in (by omega) (by decide), cl_nI (by omega), if_neg (nI_ne_m1 (by omega)), agd_in (by omega) (by decide), cl_nI (by omega)]
    unfold fX10_come_J56 fX10_come_J72
    rw [agd_in (by omega) (by decide), if_neg (nI_ne_m1 (by omega)), agd_in (by omega) (by decide), agd_in (by omega) (by decide), cl_nI (by omega), nI_1]
    have a2 := (hR.1 p hp).2.1
    rw [a2, nI_1]
    have hS1 : BI V (cm1 S (S.1.getD p 0) mv q) := cm1_BI hS (getD_mem hp) hq
    have hR1 : RM (cm1 S (S.1.getD p 0) mv q) (upd pl q (nI (S.1.length + 1))) (upd row S.1.length (nI q)) (upd far S.1.length (nI (S.2.1 (S.1.getD p 0) + 1))) (vp_updL wy S.1.length 0) (upd mr S.1.length 0) := by
      unfold cm1
      rw [if_neg hin]
      refine ⟨fun j hj => ?_, fun x hx hn => ?_⟩
      · have hj : j < S.1.length + 1 := by simpa using hj
        by_cases c : j = S.1.length
        · subst c
          have eg : (S.1 ++ [q]).getD S.1.length 0 = q := by
            rw [List.getD_eq_getElem?_getD, List.getElem?_append_right (Nat.le_refl _)]
            simp
          show upd row S.1.length (nI q) S.1.length = nI ((S.1 ++ [q]).getD S.1.length 0) ∧ _
          rw [eg, pk_us, pk_us, pk_uLs, pk_us, pk_us]
          refine ⟨rfl, ?_, ?_, rfl, rfl⟩
          · show _ = nI (va_up S.2.1 q _ q); unfold va_up; rw [if_pos rfl]
          · show _ = va_up S.2.2.1 q 0 q; unfold va_up; rw [if_pos rfl]
        · have hj2 : j < S.1.length := by omega
          have eg : (S.1 ++ [q]).getD j 0 = S.1.getD j 0 := by
            rw [List.getD_eq_getElem?_getD, List.getD_eq_getElem?_getD, List.getElem?_append_left hj2]
          have hne : S.1.getD j 0 ≠ q := fun e => hin (e ▸ getD_mem hj2)
          obtain ⟨c1, c2, c3, c4, c5⟩ := hR.1 j hj2
          show upd row S.1.length (nI q) j = nI ((S.1 ++ [q]).getD j 0) ∧ _
          rw [eg, pk_un c, pk_un c, pk_uLn c, pk_un c, pk_un hne]
          refine ⟨c1, ?_, ?_, c4, c5⟩
          · show _ = nI (va_up S.2.1 q _ (S.1.getD j 0)); unfold va_up; rw [if_neg hne]; exact c2
          · show _ = va_up S.2.2.1 q 0 (S.1.getD j 0); unfold va_up; rw [if_neg hne]; exact c3
      · have hn : x ∉ S.1 ∧ x ≠ q := by simpa using hn
        rw [pk_un hn.2]
        exact hR.2 x hx hn.1
    have hl1 : (cm1 S (S.1.getD p 0) mv q).1.length = S.1.length + 1 := by rw [cm1_row, if_neg hin, List.length_append]; rfl
    have hg1 : (cm1 S (S.1.getD p 0) mv q).1.getD p 0 = S.1.getD p 0 := by
      rw [cm1_row, if_neg hin, List.getD_eq_getElem?_getD, List.getD_eq_getElem?_getD, List.getElem?_append_left hp]
    have hq1 : q ∈ (cm1 S (S.1.getD p 0) mv q).1 := by rw [cm1_row, if_neg hin]; simp
    obtain ⟨r, h1, h2, h3⟩ := come_add (z := z) (p := p) (mv := cmF S (S.1.getD p 0) mv) hV hS1 hR1 (by omega) (by omega) hq1 (by rw [hg1]; exact hqo)
    rw [hl1, pk_us, show nI (S.1.length + 1) - 1 = nI S.1.length from nI_pred _, hg1] at *
    refine ⟨r, h1, h2, ?_⟩
    rw [h3, cm_row, if_neg hin, List.length_append]
    rfl
end MC
