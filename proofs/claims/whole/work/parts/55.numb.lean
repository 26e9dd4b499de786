/-! ===== the tables number the ORDERS ===== -/
theorem fl_len (p : Nat → Bool) : ∀ N, ((List.range N).filter p).length = fb_ct p N
  | 0 => rfl
  | N + 1 => by
    rw [List.range_succ, List.filter_append, List.length_append, fl_len p N, fb_ct_succ]
    cases h : p N <;> simp [h]
theorem ct_ge4 {k q n : Nat} (hk : 4 ≤ k) : ct k q n = 0 := fb_ct_zero.mpr (fun i _ => by have := kd_lt q i; simp; omega)
theorem bg_mono {N o i j : Nat} (h : i ≤ j) : bg N o i ≤ bg N o j := by
  have := fb_sm_mono (gs N o) i (j - i)
  rw [show i + (j - i) = j by omega] at this
  exact this
theorem sz_mono {c i j : Nat} (h : i ≤ j) : sz i c ≤ sz j c := fb_ct_mono _ h
section NM
variable {m h o : Nat}
/-- the other part's mixture is what is left -/
theorem mx_HC (hm : m ≤ 5) (hh : h ≤ 4) {q : Nat} (ho : o < 4 ^ (m + h)) (hq : VO (m + h) o q) : mx (ct 1 o 9) (ct 2 o 9) (ct 3 o 9) (ct 1 (q % 4 ^ m) 9) (ct 2 (q % 4 ^ m) 9) (ct 3 (q % 4 ^ m) 9) = HC (q / 4 ^ m) ∧ q / 4 ^ m < 4 ^ h := by
  have hp : 0 < 4 ^ m := Nat.pow_pos (by decide)
  have hl : q % 4 ^ m < 4 ^ m := Nat.mod_lt _ hp
  have hd : q / 4 ^ m < 4 ^ h := by
    rw [Nat.div_lt_iff_lt_mul hp, Nat.mul_comm, ← Nat.pow_add]
    exact hq.1
  have hd2 : q / 4 ^ m < 256 := Nat.lt_of_lt_of_le hd (Nat.pow_le_pow_right (by decide) hh)
  have eq : q = (q / 4 ^ m) * 4 ^ m + q % 4 ^ m := by rw [Nat.mul_comm]; exact (Nat.div_add_mod q (4 ^ m)).symm
  have key : ∀ k, k ≠ 0 → ct k o 9 = ct k (q % 4 ^ m) 9 + ct k (q / 4 ^ m) 9 := by
    intro k hk
    rw [ct_9 ho (by omega) hk, ← hq.2 k, ct_9 hl (by omega) hk, ct_9 hd (by omega) hk]
    conv => lhs; rw [eq]
    exact ct_cat hl k h
  refine ⟨?_, hd⟩
  have k1 := key 1 (by decide)
  have k2 := key 2 (by decide)
  have k3 := key 3 (by decide)
  have f1 := ct4 (k := 1) hd2 (by decide)
  have f2 := ct4 (k := 2) hd2 (by decide)
  have f3 := ct4 (k := 3) hd2 (by decide)
  unfold mx HC
  rw [k1, k2, k3, if_pos ⟨⟨by omega, by omega⟩, ⟨by omega, by omega⟩, by omega, by omega⟩]
  omega
def num (m h o q : Nat) : Nat := bg (4 ^ h) o (q % 4 ^ m) + sz (q / 4 ^ m) (HC (q / 4 ^ m))
theorem HC_125 (hh : h ≤ 4) {x : Nat} (hx : x < 4 ^ h) : HC x < 125 := HC_lt (Nat.lt_of_lt_of_le hx (Nat.pow_le_pow_right (by decide) hh))
theorem num_step (hm : m ≤ 5) (hh : h ≤ 4) {q : Nat} (ho : o < 4 ^ (m + h)) (hq : VO (m + h) o q) : num m h o q < bg (4 ^ h) o (q % 4 ^ m + 1) := by
  obtain ⟨e1, e2⟩ := mx_HC hm hh ho hq
  have e3 : bg (4 ^ h) o (q % 4 ^ m + 1) = bg (4 ^ h) o (q % 4 ^ m) + gs (4 ^ h) o (q % 4 ^ m) := rfl
  have h125 := HC_125 hh e2
  have e4 : gs (4 ^ h) o (q % 4 ^ m) = sz (4 ^ h) (HC (q / 4 ^ m)) := by
    unfold gs
    rw [e1, if_neg (by omega)]
  have e5 : sz (q / 4 ^ m + 1) (HC (q / 4 ^ m)) = sz (q / 4 ^ m) (HC (q / 4 ^ m)) + 1 := by rw [sz_succ, if_pos rfl]
  have e6 := sz_mono (c := HC (q / 4 ^ m)) (show q / 4 ^ m + 1 ≤ 4 ^ h from e2)
  unfold num
  omega
theorem num_lt (hm : m ≤ 5) (hh : h ≤ 4) {q : Nat} (ho : o < 4 ^ (m + h)) (hq : VO (m + h) o q) : num m h o q < bg (4 ^ h) o (4 ^ m) :=
  Nat.lt_of_lt_of_le (num_step hm hh ho hq) (bg_mono (Nat.mod_lt _ (Nat.pow_pos (by decide))))
theorem num_inj (hm : m ≤ 5) (hh : h ≤ 4) {q q' : Nat} (ho : o < 4 ^ (m + h)) (hq : VO (m + h) o q) (hq' : VO (m + h) o q') (e : num m h o q = num m h o q') : q = q' := by
  have s1 := num_step hm hh ho hq
  have s2 := num_step hm hh ho hq'
  have g1 : bg (4 ^ h) o (q % 4 ^ m) ≤ num m h o q := Nat.le_add_right _ _
  have g2 : bg (4 ^ h) o (q' % 4 ^ m) ≤ num m h o q' := Nat.le_add_right _ _
  have el : q % 4 ^ m = q' % 4 ^ m := by
    rcases Nat.lt_trichotomy (q % 4 ^ m) (q' % 4 ^ m) with c | c | c
    · have := bg_mono (N := 4 ^ h) (o := o) (show q % 4 ^ m + 1 ≤ q' % 4 ^ m from c)
      omega
    · exact c
    · have := bg_mono (N := 4 ^ h) (o := o) (show q' % 4 ^ m + 1 ≤ q % 4 ^ m from c)
      omega
  have m1 := (mx_HC hm hh ho hq).1
  have m2 := (mx_HC hm hh ho hq').1
  rw [el] at m1
  have eh : HC (q / 4 ^ m) = HC (q' / 4 ^ m) := m1.symm.trans m2
  unfold num at e
  rw [el, eh] at e
  have e : sz (q / 4 ^ m) (HC (q' / 4 ^ m)) = sz (q' / 4 ^ m) (HC (q' / 4 ^ m)) := by omega
  have ed : q / 4 ^ m = q' / 4 ^ m := by
    rcases Nat.lt_trichotomy (q / 4 ^ m) (q' / 4 ^ m) with c | c | c
    · have a := sz_mono (c := HC (q' / 4 ^ m)) (show q / 4 ^ m + 1 ≤ q' / 4 ^ m from c)
      have b : sz (q / 4 ^ m + 1) (HC (q' / 4 ^ m)) = sz (q / 4 ^ m) (HC (q' / 4 ^ m)) + 1 := by rw [sz_succ, if_pos eh]
      omega
    · exact c
    · have a := sz_mono (c := HC (q' / 4 ^ m)) (show q' / 4 ^ m + 1 ≤ q / 4 ^ m from c)
      have b : sz (q' / 4 ^ m + 1) (HC (q' / 4 ^ m)) = sz (q' / 4 ^ m) (HC (q' / 4 ^ m)) + 1 := by rw [sz_succ, if_pos rfl]
      omega
  rw [← Nat.div_add_mod q (4 ^ m), ← Nat.div_add_mod q' (4 ^ m), el, ed]
/-- all ORDERS, by their low parts -/
def Ls (m h o : Nat) : Nat → List Nat
  | 0 => []
  | l + 1 => Ls m h o l ++ (if mx (ct 1 o 9) (ct 2 o 9) (ct 3 o 9) (ct 1 l 9) (ct 2 l 9) (ct 3 l 9) = 999 then [] else ((List.range (4 ^ h)).filter (fun x => HC x == mx (ct 1 o 9) (ct 2 o 9) (ct 3 o 9) (ct 1 l 9) (ct 2 l 9) (ct 3 l 9))).map (fun x => x * 4 ^ m + l))
theorem Ls_len : ∀ l, (Ls m h o l).length = bg (4 ^ h) o l
  | 0 => rfl
  | l + 1 => by
    have ih := Ls_len l
    show _ = bg (4 ^ h) o l + gs (4 ^ h) o l
    simp only [Ls]
    rw [List.length_append, ih]
    congr 1
    unfold gs
    split
    · rfl
    · rw [List.length_map, fl_len]
      rfl
theorem Ls_in (hm : m ≤ 5) (hh : h ≤ 4) (ho : o < 4 ^ (m + h)) : ∀ l, l ≤ 4 ^ m → (Ls m h o l).Nodup ∧ ∀ q ∈ Ls m h o l, VO (m + h) o q ∧ q % 4 ^ m < l
  | 0, _ => ⟨by simp [Ls], fun q hq => by simp [Ls] at hq⟩
  | l + 1, hl => by
    obtain ⟨i1, i2⟩ := Ls_in hm hh ho l (by omega)
    have hp : 0 < 4 ^ m := Nat.pow_pos (by decide)
    have new : ∀ q ∈ (if mx (ct 1 o 9) (ct 2 o 9) (ct 3 o 9) (ct 1 l 9) (ct 2 l 9) (ct 3 l 9) = 999 then [] else ((List.range (4 ^ h)).filter (fun x => HC x == mx (ct 1 o 9) (ct 2 o 9) (ct 3 o 9) (ct 1 l 9) (ct 2 l 9) (ct 3 l 9))).map (fun x => x * 4 ^ m + l)), VO (m + h) o q ∧ q % 4 ^ m = l := by
      intro q hq
      split at hq
      · simp at hq
      · rename_i h9
        obtain ⟨x, hx, rfl⟩ := List.mem_map.mp hq
        obtain ⟨x1, x2⟩ := List.mem_filter.mp hx
        have x1 : x < 4 ^ h := List.mem_range.mp x1
        have x2 : HC x = mx (ct 1 o 9) (ct 2 o 9) (ct 3 o 9) (ct 1 l 9) (ct 2 l 9) (ct 3 l 9) := by simpa using x2
        have hll : l < 4 ^ m := by omega
        have hx256 : x < 256 := Nat.lt_of_lt_of_le x1 (Nat.pow_le_pow_right (by decide) hh)
        have f1 := ct4 (k := 1) hx256 (by decide)
        have f2 := ct4 (k := 2) hx256 (by decide)
        have f3 := ct4 (k := 3) hx256 (by decide)
        have s123 : ct 1 o 9 = ct 1 l 9 + ct 1 x 9 ∧ ct 2 o 9 = ct 2 l 9 + ct 2 x 9 ∧ ct 3 o 9 = ct 3 l 9 + ct 3 x 9 := by
          unfold mx at x2 h9
          split at x2
          · unfold HC at x2
            omega
          · rename_i hneg
            rw [if_neg hneg] at h9
            exact absurd rfl h9
        have lt : x * 4 ^ m + l < 4 ^ (m + h) := by
          rw [Nat.pow_add, Nat.mul_comm (4 ^ m)]
          have : (x + 1) * 4 ^ m ≤ 4 ^ h * 4 ^ m := Nat.mul_le_mul_right _ x1
          rw [Nat.add_mul, Nat.one_mul] at this
          omega
        have hk : ∀ k, k ≠ 0 → ct k o 9 = ct k l 9 + ct k x 9 → ct k (x * 4 ^ m + l) (m + h) = ct k o (m + h) := by
          intro k hk e
          rw [ct_cat hll, ← ct_9 ho (by omega) hk, e, ct_9 hll (by omega) hk, ct_9 x1 (by omega) hk]
        refine ⟨⟨lt, fun k => ?_⟩, ?_⟩
        · rcases Nat.lt_or_ge k 4 with q4 | q4
          · have a1 := hk 1 (by decide) s123.1
            have a2 := hk 2 (by decide) s123.2.1
            have a3 := hk 3 (by decide) s123.2.2
            have t1 := ct_sum (x * 4 ^ m + l) (m + h)
            have t2 := ct_sum o (m + h)
            have : k = 0 ∨ k = 1 ∨ k = 2 ∨ k = 3 := by omega
            rcases this with e | e | e | e <;> subst e
            · omega
            · exact a1
            · exact a2
            · exact a3
          · rw [ct_ge4 q4, ct_ge4 q4]
        · rw [Nat.mul_comm, Nat.mul_add_mod, Nat.mod_eq_of_lt hll]
    simp only [Ls]
    refine ⟨?_, fun q hq => ?_⟩
    · rw [List.nodup_append]
      refine ⟨i1, ?_, fun a ha b hb e => ?_⟩
      · split
        · simp
        · refine nodup_map (nodup_filter List.nodup_range _) (fun x _ y _ e => ?_)
          have : x * 4 ^ m = y * 4 ^ m := by omega
          exact Nat.eq_of_mul_eq_mul_right hp this
      · subst e
        have := (i2 a ha).2
        have := (new a hb).2
        omega
    · rcases List.mem_append.mp hq with a | a
      · obtain ⟨b1, b2⟩ := i2 q a
        exact ⟨b1, by omega⟩
      · obtain ⟨b1, b2⟩ := new q a
        exact ⟨b1, by omega⟩
theorem bg_7560 (hm : m ≤ 5) (hh : h ≤ 4) (ho : o < 4 ^ (m + h)) : bg (4 ^ h) o (4 ^ m) ≤ 7560 := by
  obtain ⟨a, b⟩ := Ls_in hm hh ho (4 ^ m) (Nat.le_refl _)
  rw [← Ls_len (m := m)]
  exact VO_len (n := m + h) (by omega) a (fun q hq => (b q hq).1)
theorem bg_1680 (hm : m ≤ 5) (hh : h ≤ 4) (ho : o < 4 ^ (m + h)) (h3 : ct 3 o (m + h) = 0) : bg (4 ^ h) o (4 ^ m) ≤ 1680 := by
  obtain ⟨a, b⟩ := Ls_in hm hh ho (4 ^ m) (Nat.le_refl _)
  rw [← Ls_len (m := m)]
  exact VO_len2 (n := m + h) (by omega) h3 a (fun q hq => (b q hq).1)
end NM
/-- what the tables hold -/
def TB (m h o : Nat) (lb : Int32) (ls hn : Nat → Int32) (al : Int32) : Prop :=
  lb = nI (2 * m) ∧ (∀ x, x < 4 ^ h → hn x = nI (sz x (HC x))) ∧ (∀ l, l < 4 ^ m → ls l = nI (bg (4 ^ h) o l)) ∧ al = nI (bg (4 ^ h) o (4 ^ m))
theorem numberOf_nI {m h o q z : Nat} {lb al : Int32} {ls hn : Nat → Int32} (hm : m ≤ 5) (hh : h ≤ 4) (ho : o < 4 ^ (m + h)) (hT : TB m h o lb ls hn al) (hq : VO (m + h) o q) : fX4_numberOf z (nI q) lb ls hn al = some (nI (num m h o q)) := by
  obtain ⟨t1, t2, t3, t4⟩ := hT
  have hp : 0 < 4 ^ m := Nat.pow_pos (by decide)
  have hl : q % 4 ^ m < 4 ^ m := Nat.mod_lt _ hp
  have hl2 : q % 4 ^ m < 1024 := Nat.lt_of_lt_of_le hl (Nat.pow_le_pow_right (by decide) hm : 4 ^ m ≤ 4 ^ 5)
  have hd := (mx_HC hm hh ho hq).2
  have hd2 : q / 4 ^ m < 256 := Nat.lt_of_lt_of_le hd (Nat.pow_le_pow_right (by decide) hh)
  have hq2 : q < 2 ^ 31 := Nat.lt_of_lt_of_le hq.1 (Nat.le_trans (Nat.pow_le_pow_right (by decide) (show m + h ≤ 9 by omega) : 4 ^ (m + h) ≤ 4 ^ 9) (by decide))
  have elow : nI q &&& (((1 : Int32) <<< (lb &&& 31)) - 1) = nI (q % 4 ^ m) := by
    rw [t1, one_sh (by omega), show nI (2 ^ (2 * m)) - 1 = nI (2 ^ (2 * m) - 1) from pk_sub (a := 2 ^ (2 * m)) (b := 1) (Nat.pow_pos (by decide)), fa_mask, p42]
  have ehi : nI q >>> (lb &&& 31) = nI (q / 4 ^ m) := by
    rw [t1, pk_shrN hq2 _ (2 * m) (s_l (2 * m) (by omega)), p42]
  unfold fX4_numberOf
  rw [elow, ehi, if_neg (nI_pos (by omega)), if_neg (show ¬ (1024 : Int32) ≤ nI (q % 4 ^ m) from nI_ge (a := q % 4 ^ m) (b := 1024) hl2 (by decide)), if_neg (nI_pos (by omega)), if_pos (show nI (q / 4 ^ m) < 256 from nI_lt (a := q / 4 ^ m) (b := 256) hd2 (by decide)), agd_in hl2 (by decide), agd_in hd2 (by decide), cl_nI (by omega), cl_nI (by omega), t3 _ hl, t2 _ hd, nI_add, t4]
  have hb := bg_7560 hm hh ho
  have hnl := num_lt hm hh ho hq
  rw [if_neg (show ¬ nI (bg (4 ^ h) o (4 ^ m)) ≤ nI (bg (4 ^ h) o (q % 4 ^ m) + sz (q / 4 ^ m) (HC (q / 4 ^ m))) from nI_ge hnl (by omega))]
  rfl
theorem TB_NB {m h o : Nat} {lb al : Int32} {ls hn : Nat → Int32} (hm : m ≤ 5) (hh : h ≤ 4) (ho : o < 4 ^ (m + h)) (hT : TB m h o lb ls hn al) : NB (VO (m + h) o) (num m h o) lb ls hn al := by
  refine ⟨fun q hq => ?_, fun a b ha hb e => num_inj hm hh ho ha hb e, fun z q hq => numberOf_nI hm hh ho hT hq⟩
  have := num_lt hm hh ho hq
  have := bg_7560 hm hh ho
  omega
theorem i_min_nI {a b : Nat} (ha : a < 2 ^ 31) (hb : b < 2 ^ 31) : i_min (nI a) (nI b) = nI (min a b) := by
  unfold i_min
  by_cases c : b < a
  · rw [if_pos (nI_lt c ha), Nat.min_eq_right (by omega)]
  · rw [if_neg (nI_nlt (by omega) hb), Nat.min_eq_left (by omega)]
theorem prepare_nI {m h o z : Nat} {ms hn ls : Nat → Int32} {lb al : Int32} (hm : m ≤ 5) (hmh : h = 4 ∨ (h < 4 ∧ m = 0)) (ho : o < 4 ^ (m + h)) (hz : 2000 < z) :
    ∃ r, fX4_prepare z (nI o) (nI (m + h)) ms hn lb ls al = some r ∧ TB m h o r.1 r.2.2.2.1 r.2.2.1 r.2.2.2.2 := by
  have hh : h ≤ 4 := by omega
  have ho2 : o < 2 ^ 31 := Nat.lt_of_lt_of_le ho (Nat.le_trans (Nat.pow_le_pow_right (by decide) (show m + h ≤ 9 by omega) : 4 ^ (m + h) ≤ 4 ^ 9) (by decide))
  unfold fX4_prepare
  rw [fill_nI (by decide) (by omega)]
  have emin : i_min (nI (m + h)) 4 = nI h := by
    rw [show (4 : Int32) = nI 4 from rfl, i_min_nI (by omega) (by decide)]
    congr 1
    omega
  have e1 : (1 : Int32) <<< ((2 * nI h) &&& 31) = nI (4 ^ h) := by
    rw [show (2 : Int32) * nI h = nI (2 * h) from pk_mul 2 h, one_sh (by omega), p42]
  have e2 : nI (m + h) - nI h = nI m := by rw [pk_sub (by omega), Nat.add_sub_cancel]
  have e3 : (1 : Int32) <<< ((2 * nI m) &&& 31) = nI (4 ^ m) := by
    rw [show (2 : Int32) * nI m = nI (2 * m) from pk_mul 2 m, one_sh (by omega), p42]
  have h256 : 4 ^ h ≤ 256 := (Nat.pow_le_pow_right (by decide) hh : 4 ^ h ≤ 4 ^ 4)
  have h1024 : 4 ^ m ≤ 1024 := (Nat.pow_le_pow_right (by decide) hm : 4 ^ m ≤ 4 ^ 5)
  show ∃ r, (fX4_numberHighs z _ _ hn).bind _ = some r ∧ _
  rw [emin, e1]
  obtain ⟨r1, a1, a2, a3⟩ := highs_nI (z := z) (N := 4 ^ h) (ms := fa_fill (fun _ => (0 : Int32)) ms 125) (hn := hn) h256 (fun c hc => fa_fill_in hc) (by omega)
  rw [a1]
  show ∃ r, (fX4_numberLows z _ _ ls r1.2 al).bind _ = some r ∧ _
  rw [e2, e3]
  obtain ⟨r2, b1, b2, b3⟩ := lows_nI (z := z) (N := 4 ^ h) (L := 4 ^ m) (ls := ls) (ms := r1.2) (al := al) ho2 h1024 a3 (by omega)
  rw [b1]
  refine ⟨_, rfl, ?_, a2, b2, ?_⟩
  · show (2 : Int32) * nI m = _
    exact pk_mul 2 m
  · show r2.2 = _
    have hb := bg_7560 hm hh ho
    rw [b3, show (7560 : Int32) = nI 7560 from rfl, i_min_nI (by omega) (by decide)]
    congr 1
    omega
