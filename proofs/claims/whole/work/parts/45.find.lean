/-! ===== ON to a STONE ===== -/
def onm (bk : Nat → Nat) (oth : Bool) (o to : Nat) : Nat → Nat → Nat → (Nat → Nat) → (Nat → Nat)
  | 0, _, _, m => m
  | d + 1, a, ps, m => if bk a = 99 then m else if kd o (bk a) = 0 then m else
    onm bk oth o to d (bk a) (ps ||| 2 ^ (kd o (bk a))) (if kd o (bk a) = 2 ∨ (oth = true ∧ ps.testBit (kd o (bk a)) = true) then m else updN m (bk a) (m (bk a) ||| 2 ^ to))
theorem goesOn_nI {k : Nat} (hk : k < 4) : fX9_goesOn (nI k) = b01 (k % 2 == 1) := by
  have h : ∀ j : Fin 4, fX9_goesOn (nI j.val) = b01 (j.val % 2 == 1) := by decide
  exact h ⟨k, hk⟩
theorem goesBack_nI {k : Nat} (hk : k < 4) : fX9_goesBack (nI k) = b01 (2 ≤ k) := by
  have h : ∀ j : Fin 4, fX9_goesBack (nI j.val) = b01 (2 ≤ j.val) := by decide
  exact h ⟨k, hk⟩
section FO
variable {n : Nat} {bk : Nat → Nat} {bh : Nat → Int32} {oth two : Bool} {o : Nat}
theorem findOn_step (hp : PB n bk) (hb : BH n bk bh) (ho : o < 4 ^ 9) {g0 : Nat → Int32} {m : Nat → Nat} {to L a k ps w : Nat} (ht : to < n) (hL : L ≤ 3) (ha : a < n) (hk : k ≤ L) (hps : ps < 16) (hne : bk a ≠ 99) (h0 : ¬ kd o (bk a) = 0) :
    fX3_findOnTo_L8 w (nI o) (nI to) (nI a) (nI ps) (nI k) (nI L) bh (b01 oth) (tf g0 m) = some (.inl (nI (bk a), nI (ps ||| 2 ^ (kd o (bk a))), nI (k + 1), tf g0 (if kd o (bk a) = 2 ∨ (oth = true ∧ ps.testBit (kd o (bk a)) = true) then m else updN m (bk a) (m (bk a) ||| 2 ^ to)))) := by
  have h9 := hp.1
  have ho2 : o < 2 ^ 31 := Nat.lt_of_lt_of_le ho (by decide)
  have q : bk a < n := (hp.2.2 a ha).resolve_right hne
  have k4 := kd_lt o (bk a)
  have j105 : ∀ T : Nat → Int32, fX3_findOnTo_J105 w (nI o) (nI to) (nI (bk a)) (nI ps) (nI k) (nI (kd o (bk a))) (nI L) bh (b01 oth) T = some (.inl (nI (bk a), nI (ps ||| 2 ^ (kd o (bk a))), nI (k + 1), T)) := by
    intro T
    unfold fX3_findOnTo_J105
    rw [one_sh (by omega), fa_or, nI_1]
  have j93 : fX3_findOnTo_J93 w (nI o) (nI to) (nI (bk a)) (nI ps) (nI k) (nI (kd o (bk a))) (nI L) bh (b01 oth) (tf g0 m) = some (.inl (nI (bk a), nI (ps ||| 2 ^ (kd o (bk a))), nI (k + 1), tf g0 (updN m (bk a) (m (bk a) ||| 2 ^ to)))) := by
    unfold fX3_findOnTo_J93
    rw [agd_in (by omega) (by decide), agd_in (by omega) (by decide), j105, cl_nI (by omega), tf_at (by omega), one_sh (by omega), fa_or, tf_upd (by omega)]
  have j68 : ∀ t : Bool, fX3_findOnTo_J68 w (nI o) (nI to) (nI (bk a)) (nI ps) (nI k) (nI (kd o (bk a))) (b01 t) (nI L) bh (b01 oth) (tf g0 m) = some (.inl (nI (bk a), nI (ps ||| 2 ^ (kd o (bk a))), nI (k + 1), tf g0 (if kd o (bk a) = 2 ∨ (oth = true ∧ t = true) then m else updN m (bk a) (m (bk a) ||| 2 ^ to)))) := by
    intro t
    unfold fX3_findOnTo_J68
    rw [goesOn_nI k4]
    by_cases c2 : kd o (bk a) = 2
    · rw [if_pos (by rw [c2]; rfl), j105, if_pos (Or.inl c2)]
    · have h1 : kd o (bk a) % 2 = 1 := by omega
      rw [if_neg (by rw [h1]; decide)]
      cases oth with
      | false => rw [if_pos (show b01 false = 0 from rfl), j93, if_neg (by simp [c2])]
      | true =>
        rw [if_neg (show ¬ b01 true = 0 by decide)]
        cases t with
        | false => rw [if_pos (show b01 false = 0 from rfl), j93, if_neg (by simp [c2])]
        | true => rw [if_neg (show ¬ b01 true = 0 by decide), j105, if_pos (Or.inr ⟨rfl, rfl⟩)]
  unfold fX3_findOnTo_L8
  rw [if_neg (nI_nlt (by omega) (by omega)), behind_nI hp hb ha, bI_ne hne]
  show (if nI (bk a) < 0 then _ else _) = _
  rw [if_neg (nI_pos (by omega)), if_pos (show nI (bk a) < 9 from nI_lt (a := bk a) (b := 9) (by omega) (by decide)), kindAt_nI ho2 (by omega), if_neg (nI_ne0 (by omega) (by omega)), bit_at (by omega) (by omega)]
  cases hbit : ps.testBit (kd o (bk a)) with
  | false =>
    rw [if_pos (show b01 false = 0 from rfl)]
    exact j68 false
  | true =>
    rw [if_neg (show ¬ b01 true = 0 by decide)]
    exact j68 true
theorem pw_or {ps k : Nat} (hps : ps < 16) (hk : k < 4) : ps ||| 2 ^ k < 16 := Nat.or_lt_two_pow (n := 4) hps (Nat.pow_lt_pow_right (by decide) hk)
theorem findOn_lp (hp : PB n bk) (hb : BH n bk bh) (ho : o < 4 ^ 9) {g0 : Nat → Int32} {to L : Nat} (ht : to < n) (hL : L ≤ 3) : ∀ (d a k ps z w : Nat) (m : Nat → Nat), k + d = L + 1 → d < z → a < n → ps < 16 →
    ∃ e, lp (fun sg => fX3_findOnTo_L8 w (nI o) (nI to) sg.1 sg.2.1 sg.2.2.1 (nI L) bh (b01 oth) sg.2.2.2) z (nI a, nI ps, nI k, tf g0 m) = some e ∧ e.elim (fun x => x) (fun x => x) = tf g0 (onm bk oth o to d a ps m)
  | d, a, k, ps, 0, w, m, _, hz, _, _ => by omega
  | 0, a, k, ps, z + 1, w, m, hk, hz, ha, hps => by
    refine ⟨.inl (tf g0 m), lp_out ?_, rfl⟩
    show fX3_findOnTo_L8 w (nI o) (nI to) (nI a) (nI ps) (nI k) (nI L) bh (b01 oth) (tf g0 m) = _
    unfold fX3_findOnTo_L8
    rw [if_pos (nI_lt (by omega) (by omega))]
  | d + 1, a, k, ps, z + 1, w, m, hk, hz, ha, hps => by
    have h9 := hp.1
    have ho2 : o < 2 ^ 31 := Nat.lt_of_lt_of_le ho (by decide)
    have hv := hp.2.2 a ha
    by_cases c9 : bk a = 99
    · have e0 : fX3_findOnTo_L8 w (nI o) (nI to) (nI a) (nI ps) (nI k) (nI L) bh (b01 oth) (tf g0 m) = some (.inr (.inr (tf g0 m))) := by
        unfold fX3_findOnTo_L8
        rw [if_neg (nI_nlt (by omega) (by omega)), behind_nI hp hb ha]
        show (if bI (bk a) < 0 then _ else _) = _
        rw [if_pos ((bI_lt0 (hp.big hv)).mpr c9)]
      refine ⟨_, lp_out e0, ?_⟩
      simp only [onm]
      rw [if_pos c9]
      rfl
    · have q : bk a < n := hv.resolve_right c9
      by_cases c0 : kd o (bk a) = 0
      · have e0 : fX3_findOnTo_L8 w (nI o) (nI to) (nI a) (nI ps) (nI k) (nI L) bh (b01 oth) (tf g0 m) = some (.inr (.inr (tf g0 m))) := by
          unfold fX3_findOnTo_L8
          rw [if_neg (nI_nlt (by omega) (by omega)), behind_nI hp hb ha, bI_ne c9]
          show (if nI (bk a) < 0 then _ else _) = _
          rw [if_neg (nI_pos (by omega)), if_pos (show nI (bk a) < 9 from nI_lt (a := bk a) (b := 9) (by omega) (by decide)), kindAt_nI ho2 (by omega), if_pos (by rw [c0]; rfl)]
        refine ⟨_, lp_out e0, ?_⟩
        simp only [onm]
        rw [if_neg c9, if_pos c0]
        rfl
      · have e1 := findOn_step (oth := oth) hp hb ho (g0 := g0) (m := m) (w := w) ht hL ha (show k ≤ L by omega) hps c9 c0
        obtain ⟨e, h1, h2⟩ := findOn_lp hp hb ho (g0 := g0) ht hL d (bk a) (k + 1) (ps ||| 2 ^ (kd o (bk a))) z w _ (by omega) (by omega) q (pw_or hps (kd_lt _ _))
        refine ⟨e, (lp_in e1).trans h1, ?_⟩
        rw [h2]
        simp only [onm]
        rw [if_neg c9, if_neg c0]
theorem findOnTo_nI (hp : PB n bk) (hb : BH n bk bh) (ho : o < 4 ^ 9) {g0 : Nat → Int32} {m : Nat → Nat} {to z : Nat} (ht : to < n) (hz : 9 < z) :
    fX3_findOnTo z (nI o) (nI to) (nI (lpN two)) bh (b01 oth) (tf g0 m) = some (tf g0 (onm bk oth o to (lpN two) to 0 m)) := by
  unfold fX3_findOnTo
  have hl := lpN_le two
  obtain ⟨e, h1, h2⟩ := findOn_lp (oth := oth) hp hb ho (g0 := g0) ht hl (lpN two) to 1 0 z z m (by omega) (by omega) ht (by decide)
  rw [show (nI to, (0 : Int32), (1 : Int32), tf g0 m) = (nI to, nI 0, nI 1, tf g0 m) from rfl, h1]
  cases e with
  | inl x => exact congrArg some h2
  | inr x => exact congrArg some h2
/-! ===== all MOVES of an ORDER ===== -/
def mk (bk : Nat → Nat) (two oth : Bool) (o : Nat) : Nat → Nat → Nat
  | 0 => fun _ => 0
  | i + 1 => if kd o i = 0 then onm bk oth o i (lpN two) i 0 (mk bk two oth o i)
    else if kd o i = 1 then mk bk two oth o i
    else if lnd bk oth o (kd o i) (lpN two) i = 99 then mk bk two oth o i else updN (mk bk two oth o i) i (mk bk two oth o i i ||| 2 ^ lnd bk oth o (kd o i) (lpN two) i)
end FO
