-- 57.more: end, forge, whole, edge
theorem scan_all {step : Int32 × Sg → Option ((Int32 × Sg) ⊕ (Sg ⊕ Sg))} {st : Sg} {e : Nat} {P : Nat → Prop} (hx : step (nI e, st) = some (.inr (.inl st))) (hs : ∀ i, i < e → P i → step (nI i, st) = some (.inl (nI (i + 1), st))) (hall : ∀ i, i < e → P i) : ∀ d i N, i + d = e → d < N → lp step N (nI i, st) = some (.inl st) := by
  intro d
  induction d with
  | zero =>
    intro i N hi hN
    obtain ⟨N, rfl⟩ : ∃ M, N = M + 1 := ⟨N - 1, by omega⟩
    have e1 : i = e := by omega
    subst e1
    exact lp_end hx
  | succ d ih =>
    intro i N hi hN
    obtain ⟨N, rfl⟩ : ∃ M, N = M + 1 := ⟨N - 1, by omega⟩
    rw [lp_next (hs i (by omega) (hall i (by omega)))]
    exact ih (i + 1) N (by omega) (by omega)
theorem scan_bad {step : Int32 × Sg → Option ((Int32 × Sg) ⊕ (Sg ⊕ Sg))} {st : Sg} {e : Nat} {P : Nat → Prop} (hs : ∀ i, i < e → P i → step (nI i, st) = some (.inl (nI (i + 1), st))) (hb : ∀ i, i < e → ¬ P i → step (nI i, st) = some (.inr (.inr st))) {k : Nat} (hk : k < e) (hP : ¬ P k) : ∀ d i N, i + d = k → d < N → lp step N (nI i, st) = some (.inr st) := by
  intro d
  induction d with
  | zero =>
    intro i N hi hN
    obtain ⟨N, rfl⟩ : ∃ M, N = M + 1 := ⟨N - 1, by omega⟩
    have e1 : i = k := by omega
    subst e1
    exact lp_end (hb i hk hP)
  | succ d ih =>
    intro i N hi hN
    obtain ⟨N, rfl⟩ : ∃ M, N = M + 1 := ⟨N - 1, by omega⟩
    by_cases h : P i
    · rw [lp_next (hs i (by omega) h)]
      exact ih (i + 1) N (by omega) (by omega)
    · exact lp_end (hb i (by omega) h)
theorem FU_lt {d : Nat} (h : d < 100000) : d < FU := by
  unfold FU
  omega
theorem nI_x3 (n : Nat) : nI n * 3 = nI (3 * n) := by
  have := nI_3w n 0
  rw [show nI 0 = 0 from rfl, Int32.add_zero, Nat.add_zero] at this
  exact this
theorem nI_3x (n : Nat) : 3 * nI n = nI (3 * n) := by
  rw [show (3 : Int32) = nI 3 from rfl, pk_mul]
/-- every operand is an act that there is -/
def WhP (n : Nat) (ofs : Nat → Int32) : Prop := ∀ k, k < 3 * n → (ofs k).toInt < (n : Int)
theorem isWhole_yes {n : Nat} (hn : n ≤ 16) {st : Sg} (e : gI st 1 0 = nI n) (h : WhP n (gA st 1 6)) : m_X0_isWhole st = some (1, st) := by
  have hl : lp (fun s : (Int32 × Sg) => m_X0_isWhole_L2 s.1 s.2) FU (nI 0, st) = some (.inl st) := scan_all (e := 3 * n) (P := fun k => (gA st 1 6 k).toInt < (n : Int)) (by
      simp only [m_X0_isWhole_L2, gIk, e, nI_x3, if_pos (Int32.le_refl _)]) (fun i hi hP => by
      have h1 : ¬ nI (3 * n) ≤ nI i := nI_ge hi (by omega)
      have h2 : gA st 1 6 i < nI n := by rw [fx_lt, nI_toInt (by omega)]; exact hP
      simp only [m_X0_isWhole_L2, gIk, e, nI_x3, if_neg h1, lAk, if_pos (vpb_nI (show i < 48 by omega) (by omega)), nI_clamp (show i < 2 ^ 31 by omega), if_pos h2, nmk, nI_1]) h (3 * n) 0 FU (by omega) (FU_lt (by omega))
  simp only [m_X0_isWhole, nmk, lpk, show (0 : Int32) = nI 0 from rfl, hl]
  rfl
theorem isWhole_no {n : Nat} (hn : n ≤ 16) {st : Sg} (e : gI st 1 0 = nI n) (h : ¬ WhP n (gA st 1 6)) : m_X0_isWhole st = some (0, st) := by
  obtain ⟨k, hk, hP⟩ : ∃ k, k < 3 * n ∧ ¬ (gA st 1 6 k).toInt < (n : Int) := by
    refine Classical.byContradiction fun q => h fun k hk => Classical.byContradiction fun g => q ⟨k, hk, g⟩
  have hl : lp (fun s : (Int32 × Sg) => m_X0_isWhole_L2 s.1 s.2) FU (nI 0, st) = some (.inr st) := scan_bad (e := 3 * n) (P := fun k => (gA st 1 6 k).toInt < (n : Int)) (fun i hi hP => by
      have h1 : ¬ nI (3 * n) ≤ nI i := nI_ge hi (by omega)
      have h2 : gA st 1 6 i < nI n := by rw [fx_lt, nI_toInt (by omega)]; exact hP
      simp only [m_X0_isWhole_L2, gIk, e, nI_x3, if_neg h1, lAk, if_pos (vpb_nI (show i < 48 by omega) (by omega)), nI_clamp (show i < 2 ^ 31 by omega), if_pos h2, nmk, nI_1]) (fun i hi hP => by
      have h1 : ¬ nI (3 * n) ≤ nI i := nI_ge hi (by omega)
      have h2 : ¬ gA st 1 6 i < nI n := by rw [fx_lt, nI_toInt (by omega)]; exact hP
      simp only [m_X0_isWhole_L2, gIk, e, nI_x3, if_neg h1, lAk, if_pos (vpb_nI (show i < 48 by omega) (by omega)), nI_clamp (show i < 2 ^ 31 by omega), if_neg h2]) hk hP k 0 FU (by omega) (FU_lt (by omega))
  simp only [m_X0_isWhole, nmk, lpk, show (0 : Int32) = nI 0 from rfl, hl]
  rfl
theorem wholeM_yes {n : Nat} (hn : n ≤ 16) {st : Sg} (e : gI st 0 9 = nI n) (h : WhP n (gA st 0 5)) : m_X12_whole st = some (1, st) := by
  have hl : lp (fun s : (Int32 × Sg) => m_X12_whole_L2 s.1 s.2) FU (nI 0, st) = some (.inl st) := scan_all (e := 3 * n) (P := fun k => (gA st 0 5 k).toInt < (n : Int)) (by
      simp only [m_X12_whole_L2, gIk, e, nI_3x, if_pos (Int32.le_refl _)]) (fun i hi hP => by
      have h1 : ¬ nI (3 * n) ≤ nI i := nI_ge hi (by omega)
      have h2 : gA st 0 5 i < nI n := by rw [fx_lt, nI_toInt (by omega)]; exact hP
      simp only [m_X12_whole_L2, gIk, e, nI_3x, if_neg h1, lAk, if_pos (vpb_nI (show i < 48 by omega) (by omega)), nI_clamp (show i < 2 ^ 31 by omega), if_pos h2, nmk, nI_1]) h (3 * n) 0 FU (by omega) (FU_lt (by omega))
  simp only [m_X12_whole, nmk, lpk, show (0 : Int32) = nI 0 from rfl, hl]
  rfl
theorem wholeM_no {n : Nat} (hn : n ≤ 16) {st : Sg} (e : gI st 0 9 = nI n) (h : ¬ WhP n (gA st 0 5)) : m_X12_whole st = some (0, st) := by
  obtain ⟨k, hk, hP⟩ : ∃ k, k < 3 * n ∧ ¬ (gA st 0 5 k).toInt < (n : Int) := by
    refine Classical.byContradiction fun q => h fun k hk => Classical.byContradiction fun g => q ⟨k, hk, g⟩
  have hl : lp (fun s : (Int32 × Sg) => m_X12_whole_L2 s.1 s.2) FU (nI 0, st) = some (.inr st) := scan_bad (e := 3 * n) (P := fun k => (gA st 0 5 k).toInt < (n : Int)) (fun i hi hP => by
      have h1 : ¬ nI (3 * n) ≤ nI i := nI_ge hi (by omega)
      have h2 : gA st 0 5 i < nI n := by rw [fx_lt, nI_toInt (by omega)]; exact hP
      simp only [m_X12_whole_L2, gIk, e, nI_3x, if_neg h1, lAk, if_pos (vpb_nI (show i < 48 by omega) (by omega)), nI_clamp (show i < 2 ^ 31 by omega), if_pos h2, nmk, nI_1]) (fun i hi hP => by
      have h1 : ¬ nI (3 * n) ≤ nI i := nI_ge hi (by omega)
      have h2 : ¬ gA st 0 5 i < nI n := by rw [fx_lt, nI_toInt (by omega)]; exact hP
      simp only [m_X12_whole_L2, gIk, e, nI_3x, if_neg h1, lAk, if_pos (vpb_nI (show i < 48 by omega) (by omega)), nI_clamp (show i < 2 ^ 31 by omega), if_neg h2]) hk hP k 0 FU (by omega) (FU_lt (by omega))
  simp only [m_X12_whole, nmk, lpk, show (0 : Int32) = nI 0 from rfl, hl]
  rfl
theorem s_whole {sx sm : Sg} (h : Rel sx sm) : Sim (m_X11_whole sx) (m_X12_whole sm) := by
  obtain ⟨n, t, h1, h2, h3, h4, h5, h6, h7, h8, h9, h10⟩ := id h
  obtain ⟨b0, b1, b2, b3, b4, b5, b6, b7, b8, b9, b10⟩ := id h3
  by_cases c : WhP n (gA sm 0 5)
  · rw [wholeM_yes h1.2.1 h1.1 c]
    simp only [m_X11_whole, isWhole_yes h1.2.1 (b0.trans h1.1) (by rw [b6]; exact c), clk_some, if_neg (show ¬ (1 : Int32) = 0 by decide)]
    exact ⟨_, _, _, rfl, rfl, h⟩
  · rw [wholeM_no h1.2.1 h1.1 c]
    simp only [m_X11_whole, isWhole_no h1.2.1 (b0.trans h1.1) (by rw [b6]; exact c), clk_some, if_pos (show (0 : Int32) = 0 from rfl)]
    exact ⟨_, _, _, rfl, rfl, h⟩
theorem s_end (p : Int32) {sx sm : Sg} (h : Rel sx sm) : Sim (m_X11_end p sx) (m_X12_end p sm) := by
  obtain ⟨n, t, h1, h2, h3, h4, h5, h6, h7, h8, h9, h10⟩ := id h
  obtain ⟨b0, b1, b2, b3, b4, b5, b6, b7, b8, b9, b10⟩ := id h3
  have e1 := x_refuse (r := -3) (inR_lit _ _ rfl) sx
  have e2 := m_no_eq (r := -3) (inR_lit _ _ rfl) sm
  obtain ⟨a0, a1, a2, a3, a4, a5, a6, a7, a8, a9⟩ := id h8
  simp only [m_X11_end, m_X12_end, has_eq, isAct_eq, clk_some, ite10, e1, e2, nmk, b0, gIk, a6]
  by_cases c : 0 ≤ p.toInt ∧ p.toInt < (gI sm 0 9).toInt
  case neg => rw [if_neg c, if_neg c]; exact ⟨_, _, _, rfl, rfl, rel_ref _ h⟩
  obtain ⟨hp1, hp2, hv⟩ := acts_lt h1.1 h1.2.1 c
  rw [if_pos c, if_pos c]
  by_cases d : gI sm 0 44 = 0
  · rw [if_pos d, if_pos (by rw [d]; exact Int32.le_refl _)]
    simp only [lLk, if_pos hv, b9]
    exact ⟨_, _, _, rfl, rfl, h⟩
  · have g1 : 0 < (gI sm 0 44).toInt := by
      rw [fx_eq, ti_0] at d
      have := a8.1
      omega
    have g2 := a8.2
    have g3 := fx_cl (show 0 ≤ (gI sm 0 44).toInt by omega)
    have g4 := fx_nI (show 0 ≤ (gI sm 0 44).toInt by omega)
    have hn := h1.2.1
    rw [if_neg d, if_neg (by rw [fx_le, ti_0]; omega)]
    have e3 : 16 * (gI sm 0 44 - 1) + p = nI (16 * ((gI sm 0 44).toNatClampNeg - 1) + p.toNatClampNeg) := by
      obtain ⟨m, hm⟩ : ∃ m, (gI sm 0 44).toNatClampNeg = m + 1 := ⟨(gI sm 0 44).toNatClampNeg - 1, by omega⟩
      have e4 : gI sm 0 44 - 1 = nI m := by
        rw [hm] at g4
        rw [g4]
        exact nI_pred m
      rw [e4, hm, show (16 : Int32) = nI 16 from rfl, pk_mul]
      conv => lhs; rw [hp2]
      rw [nI_add]
      rfl
    simp only [e3, lLk, if_pos hv, if_pos (vpb_nI (show 16 * ((gI sm 0 44).toNatClampNeg - 1) + p.toNatClampNeg < 3216 by omega) (by omega)), nI_clamp (show 16 * ((gI sm 0 44).toNatClampNeg - 1) + p.toNatClampNeg < 2 ^ 31 by omega), a9 g1 _ hp1]
    exact ⟨_, _, _, rfl, rfl, h⟩
theorem s_forge (p v : Int32) {sx sm : Sg} (h : Rel sx sm) : Sim (m_X11_forge p v sx) (m_X12_forge p v sm) := by
  obtain ⟨n, t, h1, h2, h3, h4, h5, h6, h7, h8, h9, h10⟩ := id h
  obtain ⟨b0, b1, b2, b3, b4, b5, b6, b7, b8, b9, b10⟩ := id h3
  have e1 := x_refuse (r := -3) (inR_lit _ _ rfl) sx
  have e2 := m_no_eq (r := -3) (inR_lit _ _ rfl) sm
  have e3 := x_refuse (r := -9) (inR_lit _ _ rfl) sx
  have e4 := m_no_eq (r := -9) (inR_lit _ _ rfl) sm
  have e5 := x_refuse (r := -4) (inR_lit _ _ rfl) sx
  have e6 := m_no_eq (r := -4) (inR_lit _ _ rfl) sm
  have e7 := x_refuse (r := -2) (inR_lit _ _ rfl) sx
  have e8 := m_no_eq (r := -2) (inR_lit _ _ rfl) sm
  simp only [m_X11_forge, m_X12_forge, gIk, has_eq, isAct_eq, clk_some, ite10, e1, e2, e3, e4, e5, e6, e7, e8, b0, nmk]
  rcases id h10 with ⟨q1, q2⟩ | ⟨q1, q2, q3⟩
  · rw [if_pos q1, if_pos q2]; exact ⟨_, _, _, rfl, rfl, rel_ref _ h⟩
  obtain ⟨l1, l2, l3⟩ := q2
  rw [if_neg (show ¬ gI sx 9 0 = 0 by rw [q1]; decide), if_neg (show ¬ gI sm 0 27 = 0 by rw [fx_eq, ti_0]; have := l2.1; omega)]
  by_cases c : 0 ≤ p.toInt ∧ p.toInt < (gI sm 0 9).toInt
  case neg => rw [if_neg c, if_neg c]; exact ⟨_, _, _, rfl, rfl, rel_ref _ h⟩
  obtain ⟨hp1, hp2, hv⟩ := acts_lt h1.1 h1.2.1 c
  rw [if_pos c, if_pos c]
  by_cases d : 0 ≤ v
  case neg => rw [if_neg d, if_neg d]; exact ⟨_, _, _, rfl, rfl, rel_ref _ h⟩
  rw [if_pos d, if_pos d]
  by_cases g : v ≤ 3000
  case neg => rw [if_neg g, if_neg g]; exact ⟨_, _, _, rfl, rfl, rel_ref _ h⟩
  rw [if_pos g, if_pos g]
  simp only [lAk, sAk, if_pos hv, (l3 _ hp1).2.2.2.1]
  refine ⟨_, _, _, rfl, rfl, n, t, h1, h2, h3, h4, h5, h6, h7, h8, h9, Or.inr ⟨q1, ⟨l1, l2, fun a ha => ?_⟩, q3⟩⟩
  obtain ⟨z1, z2, z3, z4, z5⟩ := l3 a ha
  refine ⟨z1, z2, z3, ?_⟩
  show upd (gA sx 9 6) p.toNatClampNeg v a = upd (gA sm 0 31) p.toNatClampNeg v a ∧ inR (upd (gA sm 0 31) p.toNatClampNeg v a) 0 100000
  simp only [upd_i]
  by_cases q : a = p.toNatClampNeg
  · rw [if_pos q, if_pos q]
    refine ⟨rfl, ?_, ?_⟩
    · rw [fx_le, ti_0] at d; exact d
    · rw [fx_le] at g
      have : (3000 : Int32).toInt = 3000 := rfl
      omega
  · rw [if_neg q, if_neg q]; exact ⟨z4, z5⟩
