/-! ===== rows ===== -/
theorem fill_nI {z N : Nat} {x : Int32} {g : Nat → Int32} (hN : N < 2 ^ 31) (hz : N < z) : fJ7_fill_53178 z x N g = some (fa_fill (fun _ => x) g N) := by
  unfold fJ7_fill_53178
  refine (lp_b (fun i => (nI i, fa_fill (fun _ => x) g i)) N (fa_fill (fun _ => x) g N) (by rw [fa_fill_0]; rfl) (fun i hi => ?_) ?_ hz).trans rfl
  · show fJ7_fill_53178_L5 z x (nI i) (nI N) N (fa_fill (fun _ => x) g i) = _
    unfold fJ7_fill_53178_L5
    rw [if_neg (nI_ge hi hN), agd_in hi hN, cl_nI (by omega), nI_1, fa_fill_succ (fun _ => x)]
  · show fJ7_fill_53178_L5 z x (nI N) (nI N) N (fa_fill (fun _ => x) g N) = _
    unfold fJ7_fill_53178_L5
    rw [if_pos (nI_le (Nat.le_refl N) hN)]
def updN (m : Nat → Nat) (k v : Nat) : Nat → Nat := fun j => if j = k then v else m j
/-- a row of nine masks, whatever stands behind it -/
def tf (g0 : Nat → Int32) (m : Nat → Nat) : Nat → Int32 := fun f => if f < 9 then nI (m f) else g0 f
theorem tf_at {g0 : Nat → Int32} {m : Nat → Nat} {f : Nat} (h : f < 9) : tf g0 m f = nI (m f) := if_pos h
theorem tf_upd {g0 : Nat → Int32} {m : Nat → Nat} {k v : Nat} (h : k < 9) : upd (tf g0 m) k (nI v) = tf g0 (updN m k v) := by
  funext j
  by_cases c : j = k
  · subst c
    rw [pk_us, tf_at h]
    simp [updN]
  · rw [pk_un c]
    unfold tf updN
    rw [if_neg c]
theorem tf_fill {g : Nat → Int32} : fa_fill (fun _ => (0 : Int32)) g 9 = tf g (fun _ => 0) := by
  funext j
  unfold fa_fill tf
  rfl
/-! ===== bits ===== -/
theorem one_sh {t : Nat} (h : t < 31) : (1 : Int32) <<< (nI t &&& 31) = nI (2 ^ t) := by
  have h2 : 2 ^ t < 2 ^ 31 := Nat.pow_lt_pow_right (by decide) h
  rw [show (1 : Int32) = nI 1 from rfl, pk_shlN _ t (s_l t (by omega)) (by omega), Nat.one_mul]
theorem bit_at {a t : Nat} (ha : a < 2 ^ 31) (h : t < 32) : ((nI a >>> (nI t &&& 31)) &&& 1) = b01 (a.testBit t) := by
  rw [pk_shrN ha _ t (s_l t h), pk_andN (Nat.lt_of_le_of_lt (Nat.div_le_self _ _) (by omega)) 1 rfl]
  rw [Nat.testBit_eq_decide_div_mod_eq]
  have h2 := Nat.mod_two_eq_zero_or_one (a / 2 ^ t)
  rw [Nat.pow_one]
  rcases h2 with q | q <;> rw [q] <;> rfl
/-! ===== BACK from a FROG: where it lands (99: nowhere) ===== -/
def lnd (bk : Nat → Nat) (oth : Bool) (o c : Nat) : Nat → Nat → Nat
  | 0, _ => 99
  | d + 1, a => if bk a = 99 then 99 else if kd o (bk a) = 0 then bk a else if oth = true ∧ kd o (bk a) = c then 99 else lnd bk oth o c d (bk a)
/-- what the class tells of BACK -/
def BH (n : Nat) (bk : Nat → Nat) (bh : Nat → Int32) : Prop := ∀ i, i < n → bh i = bI (bk i)
theorem behind_nI {n : Nat} {bk : Nat → Nat} {bh : Nat → Int32} (hp : PB n bk) (hb : BH n bk bh) {z i : Nat} (hi : i < n) : fX6_behind z (nI i) bh = some (bI (bk i)) := by
  unfold fX6_behind
  have h9 := hp.1
  rw [if_neg (nI_pos (by omega)), if_neg (nI9 (by omega)), agd_in (by omega) (by decide), cl_nI (by omega), hb i hi]
def lpN (two : Bool) : Nat := if two then 3 else 2
theorem lpN_le (two : Bool) : lpN two ≤ 3 := by cases two <;> decide
section FB
variable {n : Nat} {bk : Nat → Nat} {bh : Nat → Int32} {oth two : Bool} {o : Nat}
theorem bI_neg {b : Nat} (hb : b < 2 ^ 31) : ¬ 0 ≤ bI b ↔ b = 99 := by
  by_cases c : b = 99
  · subst c; exact ⟨fun _ => rfl, fun _ => by decide⟩
  · rw [bI_ne c]; exact ⟨fun e => absurd (nI_pos' hb) e, fun e => absurd e c⟩
theorem bI_lt0 {b : Nat} (hb : b < 2 ^ 31) : bI b < 0 ↔ b = 99 := by
  by_cases c : b = 99
  · subst c; exact ⟨fun _ => rfl, fun _ => by decide⟩
  · rw [bI_ne c]; exact ⟨fun e => absurd e (nI_pos hb), fun e => absurd e c⟩
theorem findBack_lp (hp : PB n bk) (hb : BH n bk bh) (ho : o < 4 ^ 9) {g0 : Nat → Int32} {m : Nat → Nat} {f L c : Nat} (hf : f < n) (hL : L ≤ 3) (hc : c < 4) (hm : m f < 512) : ∀ (d a k z w : Nat), k + d = L + 1 → d < z → a < n →
    ∃ e, lp (fun sg => fX3_findBackFrom_L6 w (nI o) (nI f) (nI c) sg.1 sg.2.1 (nI L) bh sg.2.2 (b01 oth)) z (nI a, nI k, tf g0 m) = some e ∧ e.elim (fun x => x) (fun x => x) = tf g0 (if lnd bk oth o c d a = 99 then m else updN m f (m f ||| 2 ^ lnd bk oth o c d a))
  | d, a, k, 0, w, _, hz, _ => by omega
  | 0, a, k, z + 1, w, hk, hz, ha => by
    refine ⟨.inl (tf g0 m), lp_out ?_, by simp [lnd]⟩
    show fX3_findBackFrom_L6 w (nI o) (nI f) (nI c) (nI a) (nI k) (nI L) bh (tf g0 m) (b01 oth) = _
    unfold fX3_findBackFrom_L6
    rw [if_pos (nI_lt (by omega) (by omega))]
  | d + 1, a, k, z + 1, w, hk, hz, ha => by
    have h9 := hp.1
    have ho2 : o < 2 ^ 31 := Nat.lt_of_lt_of_le ho (by decide)
    have hv := hp.2.2 a ha
    have hbig := hp.big hv
    have e0 : fX3_findBackFrom_L6 w (nI o) (nI f) (nI c) (nI a) (nI k) (nI L) bh (tf g0 m) (b01 oth) = (if 0 ≤ bI (bk a) then (if (fX9_kindAt (nI o) (bI (bk a))) = 0 then agd 9 (nI f) (agd 9 (nI f) (some (.inr (.inr (upd (tf g0 m) (nI f).toNatClampNeg ((tf g0 m (nI f).toNatClampNeg) ||| ((1 : Int32) <<< (bI (bk a) &&& 31)))))))) else (if b01 oth = 0 then some (.inl (bI (bk a), (nI k + 1), tf g0 m)) else (if (fX9_kindAt (nI o) (bI (bk a))) = nI c then some (.inr (.inr (tf g0 m))) else some (.inl (bI (bk a), (nI k + 1), tf g0 m))))) else some (.inr (.inr (tf g0 m)))) := by
      unfold fX3_findBackFrom_L6
      rw [if_neg (nI_nlt (by omega) (by omega)), behind_nI hp hb ha]
      rfl
    rcases hv with q | q
    · have hne : bk a ≠ 99 := by omega
      have k4 := kd_lt o (bk a)
      rw [bI_ne hne, if_pos (nI_pos' hbig), kindAt_nI ho2 (by omega)] at e0
      by_cases c0 : kd o (bk a) = 0
      · rw [if_pos (by rw [c0]; rfl), agd_in (by omega) (by decide), agd_in (by omega) (by decide), cl_nI (by omega), tf_at (by omega), one_sh (by omega), fa_or, tf_upd (by omega)] at e0
        refine ⟨_, lp_out e0, ?_⟩
        have hL : lnd bk oth o c (d + 1) a = bk a := by
          simp only [lnd]
          rw [if_neg hne, if_pos c0]
        rw [hL, if_neg hne]
        rfl
      · rw [if_neg (nI_ne0 (by omega) (by omega))] at e0
        by_cases c1 : oth = true ∧ kd o (bk a) = c
        · obtain ⟨c1, c2⟩ := c1
          subst c1
          rw [if_neg (show ¬ b01 true = 0 by decide), if_pos (by rw [c2])] at e0
          refine ⟨_, lp_out e0, ?_⟩
          have hL : lnd bk true o c (d + 1) a = 99 := by
            simp only [lnd]
            rw [if_neg hne, if_neg c0, if_pos (And.intro trivial c2)]
          rw [hL, if_pos rfl]
          rfl
        · have e1 : fX3_findBackFrom_L6 w (nI o) (nI f) (nI c) (nI a) (nI k) (nI L) bh (tf g0 m) (b01 oth) = some (.inl (nI (bk a), nI (k + 1), tf g0 m)) := by
            rw [e0, nI_1]
            cases oth with
            | false => rw [if_pos (show b01 false = 0 from rfl)]
            | true => rw [if_neg (show ¬ b01 true = 0 by decide), if_neg (fun e => c1 ⟨rfl, (nI_eq (by omega) (by omega)).mp e⟩)]
          obtain ⟨e, h1, h2⟩ := findBack_lp hp hb ho (g0 := g0) hf hL hc hm d (bk a) (k + 1) z w (by omega) (by omega) q
          refine ⟨e, (lp_in e1).trans h1, ?_⟩
          have hL : lnd bk oth o c (d + 1) a = lnd bk oth o c d (bk a) := by
            simp only [lnd]
            rw [if_neg hne, if_neg c0, if_neg c1]
          rw [h2, hL]
    · rw [q, if_neg (show ¬ 0 ≤ bI 99 by decide)] at e0
      refine ⟨_, lp_out e0, ?_⟩
      have hL : lnd bk oth o c (d + 1) a = 99 := by
        simp only [lnd]
        rw [if_pos q]
      rw [hL, if_pos rfl]
      rfl
theorem findBackFrom_nI (hp : PB n bk) (hb : BH n bk bh) (ho : o < 4 ^ 9) {g0 : Nat → Int32} {m : Nat → Nat} {f c z : Nat} (hf : f < n) (hc : c < 4) (hm : m f < 512) (hz : 9 < z) :
    fX3_findBackFrom z (nI o) (nI f) (nI c) (nI (lpN two)) bh (tf g0 m) (b01 oth) = some (tf g0 (if lnd bk oth o c (lpN two) f = 99 then m else updN m f (m f ||| 2 ^ lnd bk oth o c (lpN two) f))) := by
  unfold fX3_findBackFrom
  have hl := lpN_le two
  obtain ⟨e, h1, h2⟩ := findBack_lp (oth := oth) hp hb ho (g0 := g0) hf hl hc hm (lpN two) f 1 z z (by omega) (by omega) hf
  rw [show (nI f, (1 : Int32), tf g0 m) = (nI f, nI 1, tf g0 m) from rfl, h1]
  cases e with
  | inl x => exact congrArg some h2
  | inr x => exact congrArg some h2
end FB
