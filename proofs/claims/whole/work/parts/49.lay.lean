/-! ===== a graph of ORDERS ===== -/
def HG (n : Nat) (c : Nat → Nat → Nat → Bool) (V : Nat → Prop) : Prop :=
  (∀ q, V q → q < 4 ^ 9) ∧ (∀ o f t, V o → f < n → t < n → c o f t = true → V (mvd o f t) ∧ mvd o f t ≠ o) ∧ ∀ S, BI V S → S.1.length ≤ 7560
section GR
variable {n : Nat} {c : Nat → Nat → Nat → Bool} {V : Nat → Prop} {o0 : Nat}
theorem ks_mem {S : BS} {o x : Nat} (h : x ∈ S.1) : ∀ k, x ∈ (ks n c S o k).1
  | 0 => h
  | k + 1 => by
    simp only [ks]
    split
    · exact cm_mem (ks_mem h k)
    · exact ks_mem h k
theorem ks_BI (hG : HG n c V) (hn : 0 < n) {S : BS} {o : Nat} (hS : BI V S) (ho : o ∈ S.1) : ∀ k, k ≤ n * n → BI V (ks n c S o k)
  | 0, _ => hS
  | k + 1, hk => by
    have ih := ks_BI hG hn hS ho k (by omega)
    simp only [ks]
    split
    · rename_i h
      exact cm_BI ih (ks_mem ho k) (hG.2.1 o _ _ (hS.2.1 o ho) (Nat.div_lt_of_lt_mul (by omega)) (Nat.mod_lt _ hn) h).1
    · exact ih
theorem ks_len {S : BS} {o : Nat} : ∀ k, S.1.length ≤ (ks n c S o k).1.length
  | 0 => Nat.le_refl _
  | k + 1 => by
    simp only [ks]
    split
    · exact Nat.le_trans (ks_len k) cm_len
    · exact ks_len k
theorem ks_getD {S : BS} {o p : Nat} (h : p < S.1.length) : ∀ k, (ks n c S o k).1.getD p 0 = S.1.getD p 0
  | 0 => rfl
  | k + 1 => by
    simp only [ks]
    split
    · rw [cm_getD (Nat.lt_of_lt_of_le h (ks_len k))]
      exact ks_getD h k
    · exact ks_getD h k
theorem bs0_BI (h : V o0) : BI V (bs0 o0) := by
  refine ⟨by simp [bs0], fun q hq => ?_, fun q _ => by simp [bs0]⟩
  have e : q = o0 := by simpa [bs0] using hq
  subst e
  exact h
theorem ps_BI (hG : HG n c V) (hn : 0 < n) (h0 : V o0) : ∀ p, BI V (ps n c o0 p)
  | 0 => bs0_BI h0
  | p + 1 => by
    simp only [ps]
    split
    · rename_i h
      exact ks_BI hG hn (ps_BI hG hn h0 p) (getD_mem h) _ (Nat.le_refl _)
    · exact ps_BI hG hn h0 p
theorem ps_len_le {p : Nat} : (ps n c o0 p).1.length ≤ (ps n c o0 (p + 1)).1.length := by
  simp only [ps]
  split
  · exact ks_len _
  · exact Nat.le_refl _
theorem ps_stay {p : Nat} (h : (ps n c o0 p).1.length ≤ p) : ∀ k, ps n c o0 (p + k) = ps n c o0 p
  | 0 => rfl
  | k + 1 => by
    have ih := ps_stay h k
    show ps n c o0 (p + k + 1) = _
    simp only [ps]
    rw [ih, if_neg (by omega)]
theorem ps_getD {p j : Nat} (h : j < (ps n c o0 p).1.length) : ∀ k, j < (ps n c o0 (p + k)).1.length ∧ (ps n c o0 (p + k)).1.getD j 0 = (ps n c o0 p).1.getD j 0
  | 0 => ⟨h, rfl⟩
  | k + 1 => by
    obtain ⟨h1, h2⟩ := ps_getD h k
    refine ⟨Nat.lt_of_lt_of_le h1 ps_len_le, ?_⟩
    show (ps n c o0 (p + k + 1)).1.getD j 0 = _
    simp only [ps]
    split
    · rw [ks_getD h1]; exact h2
    · exact h2
/-- the whole row -/
def bf (n : Nat) (c : Nat → Nat → Nat → Bool) (o0 : Nat) : BS := ps n c o0 7560
theorem ps_end (hG : HG n c V) (hn : 0 < n) (h0 : V o0) : ∃ N, N ≤ 7560 ∧ (∀ p, p < N → p < (ps n c o0 p).1.length) ∧ (ps n c o0 N).1.length = N ∧ ps n c o0 N = bf n c o0 := by
  obtain ⟨N, h1, h2⟩ := pk_least (fun p => (ps n c o0 p).1.length ≤ p) ⟨7560, hG.2.2 _ (ps_BI hG hn h0 7560)⟩
  have h3 : N ≤ 7560 := by
    rcases Nat.lt_or_ge 7560 N with q | q
    · exact absurd (hG.2.2 _ (ps_BI hG hn h0 7560)) (h2 7560 q)
    · exact q
  have h4 : ∀ p, p < N → p < (ps n c o0 p).1.length := fun p hp => Nat.not_le.mp (h2 p hp)
  refine ⟨N, h3, h4, ?_, ?_⟩
  · have h1 : (ps n c o0 N).1.length ≤ N := h1
    cases N with
    | zero =>
      have : (ps n c o0 0).1.length = 1 := rfl
      omega
    | succ M =>
      have h5 := h4 M (by omega)
      have h6 := ps_len_le (n := n) (c := c) (o0 := o0) (p := M)
      omega
  · have := ps_stay h1 (7560 - N)
    rw [show N + (7560 - N) = 7560 by omega] at this
    exact this.symm
theorem bf_getD {N p j : Nat} (hN : N ≤ 7560) (hp : p ≤ N) (h : j < (ps n c o0 p).1.length) : (bf n c o0).1.getD j 0 = (ps n c o0 p).1.getD j 0 := by
  have := (ps_getD h (7560 - p)).2
  rw [show p + (7560 - p) = 7560 by omega] at this
  exact this
end GR
theorem agd_0 {β : Type} {n : Nat} {k : Option β} (h : 0 < n) : agd n 0 k = k := by
  unfold agd
  rw [if_neg]
  rintro (q | q)
  · exact absurd q (by decide)
  · have : (0 : Int32).toNatClampNeg = 0 := by decide
    omega
theorem rem_nI {k n : Nat} (hk : k < 2 ^ 31) (hn : 0 < n) (hn2 : n < 2 ^ 31) : i_rem (nI k) (nI n) = nI (k % n) := pk_rem hk hn hn2
theorem cg_facts {bk : Nat → Nat} {two oth : Bool} {o f t : Nat} (h : cg bk two oth o f t = true) : kd o f ≠ 0 ∧ kd o t = 0 ∧ f ≠ t := by
  unfold cg at h
  simp only [Bool.and_eq_true, bne_iff_ne, beq_iff_eq] at h
  exact ⟨h.1.1.1, h.1.1.2, h.1.2⟩
theorem cg_ne {bk : Nat → Nat} {two oth : Bool} {o f t : Nat} (h : cg bk two oth o f t = true) : mvd o f t ≠ o := by
  obtain ⟨h1, h2, h3⟩ := cg_facts h
  intro e
  have := kd_mvd h3 h2 f
  rw [e, if_neg h3, if_pos rfl] at this
  exact h1 this
section ML
variable {n : Nat} {bk : Nat → Nat} {sort : Int32} {par : Nat → Int32} {oth two : Bool} {V : Nat → Prop} {o0 : Nat}
theorem lay54 (hp : PB n bk) (hb : BO n bk sort par) (hG : HG n (cg bk two oth) V) (hn : 0 < n) {S : BS} (hS : BI V S) {p z : Nat} (hps : p < S.1.length) (hz : 90 < z) {pl row far mr : Nat → Int32} {wy : Nat → Int64} (hR : RM S pl row far wy mr) {on : Int32} :
    ∃ e, lp (fun sg => fX10_layRow_L54 z (nI p) sg.1 sg.2.2.1 sg.2.2.2.1 sg.2.1 on sg.2.2.2.2.1 sg.2.2.2.2.2.1 sg.2.2.2.2.2.2 (nI n) (b01 two) sort par (b01 oth)) z (0, pl, nI S.1.length, row, far, wy, mr) = some e ∧
      (RM (ks n (cg bk two oth) S (S.1.getD p 0) (n * n)) e.1 e.2.2.1 e.2.2.2.1 e.2.2.2.2.1 e.2.2.2.2.2 ∧ e.2.1 = nI (ks n (cg bk two oth) S (S.1.getD p 0) (n * n)).1.length) := by
  have h9 := hp.1
  have hnn : n * n ≤ 81 := Nat.mul_le_mul h9 h9
  have ho : S.1.getD p 0 ∈ S.1 := getD_mem hps
  have vo := hS.2.1 _ ho
  have ho9 := hG.1 _ vo
  have hV : ∀ q, V q → q < 262144 := hG.1
  refine lp_rel0 (fun (k : Nat) (s : Int32 × (Nat → Int32) × Int32 × (Nat → Int32) × (Nat → Int32) × (Nat → Int64) × (Nat → Int32)) => s.1 = nI k ∧ RM (ks n (cg bk two oth) S (S.1.getD p 0) k) s.2.1 s.2.2.2.1 s.2.2.2.2.1 s.2.2.2.2.2.1 s.2.2.2.2.2.2 ∧ s.2.2.1 = nI (ks n (cg bk two oth) S (S.1.getD p 0) k).1.length) _ (n * n) ⟨rfl, hR, rfl⟩ (fun k s hk hr => ?_) (fun s hr => ?_) (by omega)
  · obtain ⟨x, pl, rm, row, far, wy, mr⟩ := s
    obtain ⟨r1, r2, r3⟩ := hr
    dsimp only at r1 r2 r3
    subst r1
    subst r3
    have hkB := ks_BI hG hn hS ho k (by omega)
    have hpl := Nat.lt_of_lt_of_le hps (ks_len (n := n) (c := cg bk two oth) (o := S.1.getD p 0) k)
    have hgd := ks_getD (n := n) (c := cg bk two oth) (o := S.1.getD p 0) hps k
    have hl75 := hG.2.2 _ hkB
    have erow : row p = nI (S.1.getD p 0) := by rw [(r2.1 p hpl).1, hgd]
    have hdv : k / n < n := Nat.div_lt_of_lt_mul hk
    have hmd : k % n < n := Nat.mod_lt _ hn
    show ∃ s', fX10_layRow_L54 z (nI p) (nI k) (nI _) row pl on far wy mr (nI n) (b01 two) sort par (b01 oth) = _ ∧ _
    unfold fX10_layRow_L54
    rw [pk_mul, if_neg (nI_ge hk (by omega)), agd_in (by omega) (by decide), dgd_ne (nI_ne0 hn (by omega)), dgd_ne (nI_ne0 hn (by omega)), cl_nI (by omega), erow, pk_div (by omega) hn (by omega), rem_nI (by omega) hn (by omega), canGo_nI hp hb ho9 hdv hmd (by omega)]
    show ∃ s', (if b01 (cg bk two oth (S.1.getD p 0) (k / n) (k % n)) = 0 then _ else _) = _ ∧ _
    simp only [ks]
    cases hc : cg bk two oth (S.1.getD p 0) (k / n) (k % n) with
    | false =>
      rw [if_pos (show b01 false = 0 from rfl)]
      refine ⟨_, rfl, ?_, ?_, ?_⟩
      · exact nI_1 k
      · exact r2
      · rfl
    | true =>
      rw [if_neg (show ¬ b01 true = 0 by decide), agd_in (by omega) (by decide), dgd_ne (nI_ne0 hn (by omega)), dgd_ne (nI_ne0 hn (by omega))]
      obtain ⟨f1, f2, f3⟩ := cg_facts hc
      rw [moved_nI ho9 (by omega) (by omega) f3 f2]
      have vq := (hG.2.1 _ _ _ vo hdv hmd hc).1
      have hB2 := hG.2.2 _ (cm_BI (mv := nI (16 * (k / n) + k % n)) hkB (ks_mem ho k) vq)
      obtain ⟨r, g1, g2, g3⟩ := come_nI (z := z) (mv := nI (16 * (k / n) + k % n)) hV hkB r2 hpl vq (by rw [hgd]; exact cg_ne hc) (by rw [hgd]; exact hB2)
      rw [g1]
      rw [hgd] at g2 g3
      refine ⟨_, rfl, ?_, ?_, ?_⟩
      · exact nI_1 k
      · exact g2
      · exact g3
  · obtain ⟨x, pl, rm, row, far, wy, mr⟩ := s
    obtain ⟨r1, r2, r3⟩ := hr
    dsimp only at r1 r2 r3
    subst r1
    subst r3
    show ∃ e, fX10_layRow_L54 z (nI p) (nI (n * n)) (nI _) row pl on far wy mr (nI n) (b01 two) sort par (b01 oth) = _ ∧ _
    unfold fX10_layRow_L54
    rw [pk_mul, if_pos (nI_le (Nat.le_refl _) (by omega))]
    exact ⟨_, rfl, r2, rfl⟩
/-- no row is left -/
def RZ (rm : Nat) (pl row : Nat → Int32) : Prop := rm ≤ 7560 ∧ (∀ p, p < rm → ∃ q, q < 262144 ∧ row p = nI q) ∧ ∀ q, q < 262144 → ¬ pl q = 0 → ∃ p, p < rm ∧ row p = nI q
theorem layRow_nI (hp : PB n bk) (hb : BO n bk sort par) (hG : HG n (cg bk two oth) V) (hn : 0 < n) (h0 : V o0) {rm z : Nat} (hz : 8000 < z) {pl row far mr : Nat → Int32} {wy : Nat → Int64} (hR : RZ rm pl row) :
    ∃ r, fX10_layRow z (nI rm) row pl (nI o0) far wy mr (nI n) (b01 two) sort par (b01 oth) = some r ∧ RM (bf n (cg bk two oth) o0) r.1 r.2.2.1 r.2.2.2.1 r.2.2.2.2.1 r.2.2.2.2.2 ∧ r.2.1 = nI (bf n (cg bk two oth) o0).1.length := by
  obtain ⟨z1, z2, z3⟩ := hR
  have h09 := hG.1 _ h0
  unfold fX10_layRow
  have clear : ∃ e, lp (fun sg => fX10_layRow_L2 z sg.1 (nI rm) row sg.2 (nI o0) far wy mr (nI n) (b01 two) sort par (b01 oth)) z (0, pl) = some e ∧ ∀ q, q < 262144 → e q = 0 := by
    refine lp_rel0 (fun (k : Nat) (s : Int32 × (Nat → Int32)) => s.1 = nI k ∧ ∀ q, q < 262144 → ¬ s.2 q = 0 → ∃ p, k ≤ p ∧ p < rm ∧ row p = nI q) _ rm ⟨rfl, fun q hq h => ?_⟩ (fun k s hk hr => ?_) (fun s hr => ?_) (by omega)
    · obtain ⟨p, a, b⟩ := z3 q hq h
      exact ⟨p, Nat.zero_le _, a, b⟩
    · obtain ⟨x, pl'⟩ := s
      obtain ⟨r1, r2⟩ := hr
      dsimp only at r1 r2
      subst r1
      obtain ⟨q0, a, b⟩ := z2 k hk
      show ∃ s', fX10_layRow_L2 z (nI k) (nI rm) row pl' (nI o0) far wy mr (nI n) (b01 two) sort par (b01 oth) = _ ∧ _
      unfold fX10_layRow_L2
      rw [if_neg (nI_ge hk (by omega)), agd_in (by omega) (by decide), cl_nI (by omega), b, agd_in a (by decide), cl_nI (by omega)]
      refine ⟨_, rfl, nI_1 k, fun q hq h => ?_⟩
      have h : ¬ upd pl' q0 0 q = 0 := h
      by_cases e : q = q0
      · subst e; rw [pk_us] at h; exact absurd rfl h
      · rw [pk_un e] at h
        obtain ⟨p, c1, c2, c3⟩ := r2 q hq h
        refine ⟨p, ?_, c2, c3⟩
        rcases Nat.eq_or_lt_of_le c1 with g | g
        · subst g
          rw [b] at c3
          exact absurd ((nI_eq (by omega) (by omega)).mp c3).symm e
        · exact g
    · obtain ⟨x, pl'⟩ := s
      obtain ⟨r1, r2⟩ := hr
      dsimp only at r1 r2
      subst r1
      show ∃ e, fX10_layRow_L2 z (nI rm) (nI rm) row pl' (nI o0) far wy mr (nI n) (b01 two) sort par (b01 oth) = _ ∧ _
      unfold fX10_layRow_L2
      rw [if_pos (nI_le (Nat.le_refl _) (by omega))]
      refine ⟨_, rfl, fun q hq => ?_⟩
      by_cases h : pl' q = 0
      · exact h
      · obtain ⟨p, c1, c2, -⟩ := r2 q hq h
        omega
  obtain ⟨pl1, e1, e2⟩ := clear
  rw [e1]
  show ∃ r, fX10_layRow_J28 z (nI rm) row pl1 (nI o0) far wy mr (nI n) (b01 two) sort par (b01 oth) = some r ∧ _
  unfold fX10_layRow_J28 fX10_come
  have o26 : o0 < 262144 := h09
  rw [agd_in o26 (by decide), cl_nI (by omega), e2 o0 o26, if_neg (by decide), agd_in o26 (by decide), agd_0 (n := 7560) (by decide), if_pos rfl]
  unfold fX10_come_J56 fX10_come_J72 fX10_come_J90
  rw [agd_0 (n := 7560) (by decide), if_pos rfl, agd_0 (n := 7560) (by decide), agd_0 (n := 7560) (by decide), if_pos rfl]
  obtain ⟨N, n1, n2, n3, n4⟩ := ps_end hG hn h0
  have start : RM (bs0 o0) (upd pl1 o0 1) (upd row 0 (nI o0)) (upd far 0 0) (vp_updL wy 0 1) (upd mr 0 0) := by
    refine ⟨fun p hp => ?_, fun q hq hnq => ?_⟩
    · have : p = 0 := by have : p < 1 := hp
                         omega
      subst this
      show upd row 0 (nI o0) 0 = nI o0 ∧ upd far 0 0 0 = nI 0 ∧ vp_updL wy 0 1 0 = 1 ∧ upd mr 0 0 0 = 0 ∧ upd pl1 o0 1 o0 = nI 1
      rw [pk_us, pk_us, pk_uLs, pk_us, pk_us]
      exact ⟨rfl, rfl, rfl, rfl, rfl⟩
    · have : q ≠ o0 := by simpa [bs0] using hnq
      rw [pk_un this]
      exact e2 q hq
  have main : ∃ e, lp (fun sg => fX10_layRow_L44 z sg.1 sg.2.2.1 sg.2.2.2.1 sg.2.1 (nI o0) sg.2.2.2.2.1 sg.2.2.2.2.2.1 sg.2.2.2.2.2.2 (nI n) (b01 two) sort par (b01 oth)) z (0, upd pl1 o0 1, 1, upd row 0 (nI o0), upd far 0 0, vp_updL wy 0 1, upd mr 0 0) = some e ∧
      (RM (bf n (cg bk two oth) o0) e.1 e.2.2.1 e.2.2.2.1 e.2.2.2.2.1 e.2.2.2.2.2 ∧ e.2.1 = nI (bf n (cg bk two oth) o0).1.length) := by
    refine lp_rel0 (fun (p : Nat) (s : Int32 × (Nat → Int32) × Int32 × (Nat → Int32) × (Nat → Int32) × (Nat → Int64) × (Nat → Int32)) => s.1 = nI p ∧ RM (ps n (cg bk two oth) o0 p) s.2.1 s.2.2.2.1 s.2.2.2.2.1 s.2.2.2.2.2.1 s.2.2.2.2.2.2 ∧ s.2.2.1 = nI (ps n (cg bk two oth) o0 p).1.length) _ N ⟨rfl, start, rfl⟩ (fun p s hk hr => ?_) (fun s hr => ?_) (by omega)
    · obtain ⟨x, pl', rm', row', far', wy', mr'⟩ := s
      obtain ⟨r1, r2, r3⟩ := hr
      dsimp only at r1 r2 r3
      subst r1
      subst r3
      have hpB := ps_BI hG hn h0 p
      have hl := hG.2.2 _ hpB
      have hpl := n2 p hk
      show ∃ s', fX10_layRow_L44 z (nI p) (nI _) row' pl' (nI o0) far' wy' mr' (nI n) (b01 two) sort par (b01 oth) = _ ∧ _
      unfold fX10_layRow_L44
      rw [if_neg (nI_ge hpl (by omega))]
      obtain ⟨e, g1, g2, g3⟩ := lay54 (z := z) (on := nI o0) hp hb hG hn hpB hpl (by omega) r2
      rw [g1]
      refine ⟨(nI p + 1, e.1, e.2.1, e.2.2.1, e.2.2.2.1, e.2.2.2.2.1, e.2.2.2.2.2), rfl, nI_1 p, ?_, ?_⟩
      · simp only [ps]
        rw [if_pos hpl]
        exact g2
      · simp only [ps]
        rw [if_pos hpl]
        exact g3
    · obtain ⟨x, pl', rm', row', far', wy', mr'⟩ := s
      obtain ⟨r1, r2, r3⟩ := hr
      dsimp only at r1 r2 r3
      subst r1
      subst r3
      show ∃ e, fX10_layRow_L44 z (nI N) (nI _) row' pl' (nI o0) far' wy' mr' (nI n) (b01 two) sort par (b01 oth) = _ ∧ _
      unfold fX10_layRow_L44
      rw [if_pos (nI_le (by omega) (by omega))]
      rw [n4] at r2 ⊢
      exact ⟨_, rfl, r2, rfl⟩
  obtain ⟨e, m1, m2, m3⟩ := main
  refine ⟨(e.1, e.2.1, e.2.2.1, e.2.2.2.1, e.2.2.2.2.1, e.2.2.2.2.2), ?_, m2, m3⟩
  show ((lp _ z (0, upd pl1 o0 1, 1, upd row 0 (nI o0), upd far 0 0, vp_updL wy 0 1, upd mr 0 0)).bind _) = _
  rw [m1]
  rfl
end ML
