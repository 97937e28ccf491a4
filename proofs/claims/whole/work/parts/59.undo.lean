-- 59.undo: undo
def m4 (t : Nat) (a b c d : Int32) (st : Sg) : Sg := pA (pA (pA (pA st 0 11 (upd (gA st 0 11) t a)) 0 12 (upd (gA st 0 12) t b)) 0 13 (upd (gA st 0 13) t c)) 0 14 (upd (gA st 0 14) t d)
def okE (f1 f2 f3 f4 : Nat → Int32) (n q : Nat) : Prop := inR (f1 q) 0 (n - 1) ∧ inR (f2 q) 0 (n - 1) ∧ inR (f3 q) (-50) 50 ∧ inR (f4 q) 0 4
def WBs (sm : Sg) (n : Nat) : Prop := WBo (gI sm 0 9) (gA sm 0 0) (gA sm 0 1) (gA sm 0 2) (gA sm 0 3) (gA sm 0 4) (gA sm 0 5) (gA sm 0 6) (gA sm 0 10) n
theorem wbs_mA {sm : Sg} {n : Nat} (k : Nat) (f : Nat → Int32) (hk : 11 ≤ k) (h : WBs sm n) : WBs (pA sm 0 k f) n := by
  unfold WBs at h ⊢
  simp only [gI_pA, gA_pA2, if_true, if_neg (show ¬ 0 = k by omega), if_neg (show ¬ 1 = k by omega), if_neg (show ¬ 2 = k by omega), if_neg (show ¬ 3 = k by omega), if_neg (show ¬ 4 = k by omega), if_neg (show ¬ 5 = k by omega), if_neg (show ¬ 6 = k by omega), if_neg (show ¬ 10 = k by omega)]
  exact h
theorem wbs_mI {sm : Sg} {n : Nat} (k : Nat) (f : Int32) (hk : 11 ≤ k) (h : WBs sm n) : WBs (pI sm 0 k f) n := by
  unfold WBs at h ⊢
  simp only [gA_pI, gI_pI, if_true, if_neg (show ¬ 9 = k by omega)]
  exact h
def DIn (n t m i : Nat) (sx sm : Sg) : Prop := Fr2 sx sm ∧ WBs sm n ∧ RTo sx sm ∧ gI sm 0 15 = nI t ∧ t ≤ 40 ∧ m ≤ i ∧ (∀ q, q < m → okE (gA sm 0 11) (gA sm 0 12) (gA sm 0 13) (gA sm 0 14) n q) ∧ ∀ q, i ≤ q → q < t → okE (gA sm 0 11) (gA sm 0 12) (gA sm 0 13) (gA sm 0 14) (n + 1) q
theorem din_step {n t m i : Nat} {sx sm : Sg} (h : DIn n t m i sx sm) (hi : i < t) (c1 : ¬ gA sm 0 11 i = nI n) (c2 : ¬ gA sm 0 12 i = nI n) : DIn n t (m + 1) (i + 1) (w4 2 m (gA sm 0 11 i) (gA sm 0 12 i) (gA sm 0 13 i) (gA sm 0 14 i) sx) (m4 m (gA sm 0 11 i) (gA sm 0 12 i) (gA sm 0 13 i) (gA sm 0 14 i) sm) := by
  obtain ⟨d1, d2, d3, d4, d5, d6, d7, d8⟩ := h
  obtain ⟨u0, u1, u2, u3, u4⟩ := id d3
  have hn := d2.2.1
  have o := d8 i (Nat.le_refl i) hi
  refine ⟨f2_xA 4 _ (f2_xA 3 _ (f2_xA 2 _ (f2_xA 1 _ (f2_mA 14 _ (by omega) (f2_mA 13 _ (by omega) (f2_mA 12 _ (by omega) (f2_mA 11 _ (by omega) d1))))))), wbs_mA 14 _ (by omega) (wbs_mA 13 _ (by omega) (wbs_mA 12 _ (by omega) (wbs_mA 11 _ (by omega) d2))), ⟨u0, congrArg (fun f => upd f m (gA sm 0 11 i)) u1, congrArg (fun f => upd f m (gA sm 0 12 i)) u2, congrArg (fun f => upd f m (gA sm 0 13 i)) u3, congrArg (fun f => upd f m (gA sm 0 14 i)) u4⟩, d4, d5, by omega, fun q hq => ?_, fun q h1 h2 => ?_⟩
  · show okE (upd (gA sm 0 11) m _) (upd (gA sm 0 12) m _) (upd (gA sm 0 13) m _) (upd (gA sm 0 14) m _) n q
    unfold okE
    simp only [upd_i]
    by_cases e : q = m
    · simp only [if_pos e]
      obtain ⟨⟨a1, a2⟩, ⟨a3, a4⟩, a5, a6⟩ := o
      rw [fx_eq, nI_toInt (by omega)] at c1 c2
      exact ⟨⟨a1, by omega⟩, ⟨a3, by omega⟩, a5, a6⟩
    · simp only [if_neg e]
      exact d7 q (by omega)
  · show okE (upd (gA sm 0 11) m _) (upd (gA sm 0 12) m _) (upd (gA sm 0 13) m _) (upd (gA sm 0 14) m _) (n + 1) q
    unfold okE
    simp only [upd_i, if_neg (show ¬ q = m by omega)]
    exact d8 q (by omega) h2
theorem din_skip {n t m i : Nat} {sx sm : Sg} (h : DIn n t m i sx sm) : DIn n t m (i + 1) sx sm := by
  obtain ⟨d1, d2, d3, d4, d5, d6, d7, d8⟩ := h
  exact ⟨d1, d2, d3, d4, d5, by omega, d7, fun q h1 h2 => d8 q (by omega) h2⟩
theorem drop_go (n t : Nat) : ∀ (d m i N : Nat) (sx sm : Sg), i + d = t → d < N → DIn n t m i sx sm → ∃ m' sx' sm', lp (fun s : (Int32 × Int32 × Sg) => m_X1_dropAct_L4 2 (nI n) s.1 s.2.1 s.2.2) N (nI m, nI i, sx) = some (nI m', sx') ∧ lp (fun s : (Int32 × Int32 × Sg) => m_X12_undo_L67 (nI n) s.1 s.2.1 s.2.2) N (nI m, nI i, sm) = some (nI m', sm') ∧ DIn n t m' t sx' sm' := by
  intro d
  induction d with
  | zero =>
    intro m i N sx sm hi hN h
    obtain ⟨N, rfl⟩ : ∃ M, N = M + 1 := ⟨N - 1, by omega⟩
    have e : i = t := by omega
    subst e
    obtain ⟨d1, d2, d3, d4, d5, d6, d7, d8⟩ := id h
    refine ⟨m, sx, sm, lp_end ?_, lp_end ?_, h⟩
    · simp only [m_X1_dropAct_L4, gIk, d3.1, d4, if_pos (Int32.le_refl _)]
    · simp only [m_X12_undo_L67, gIk, d4, if_pos (Int32.le_refl _)]
  | succ d ih =>
    intro m i N sx sm hi hN h
    obtain ⟨N, rfl⟩ : ∃ M, N = M + 1 := ⟨N - 1, by omega⟩
    obtain ⟨d1, d2, d3, d4, d5, d6, d7, d8⟩ := id h
    obtain ⟨u0, u1, u2, u3, u4⟩ := id d3
    have hit : i < t := by omega
    have h1 : ¬ nI t ≤ nI i := nI_ge hit (by omega)
    have hv : vpb (nI i) 40 = true := vpb_nI (by omega) (by omega)
    have hvm : vpb (nI m) 40 = true := vpb_nI (by omega) (by omega)
    have hv2 : vpb (nI i) (lnE 2) = true := hv
    have cl := nI_clamp (show i < 2 ^ 31 by omega)
    have clm := nI_clamp (show m < 2 ^ 31 by omega)
    by_cases c1 : gA sm 0 11 i = nI n
    · obtain ⟨m', sx', sm', r1, r2, r3⟩ := ih m (i + 1) N sx sm (by omega) (by omega) (din_skip h)
      refine ⟨m', sx', sm', (lp_next ?_).trans r1, (lp_next ?_).trans r2, r3⟩
      · simp only [m_X1_dropAct_L4, gIk, u0, d4, if_neg h1, lAk, if_pos hv2, cl, u1, if_pos c1, nmk, nI_1]
      · simp only [m_X12_undo_L67, gIk, d4, if_neg h1, lAk, if_pos hv, cl, if_pos c1, nmk, nI_1]
    · by_cases c2 : gA sm 0 12 i = nI n
      · obtain ⟨m', sx', sm', r1, r2, r3⟩ := ih m (i + 1) N sx sm (by omega) (by omega) (din_skip h)
        refine ⟨m', sx', sm', (lp_next ?_).trans r1, (lp_next ?_).trans r2, r3⟩
        · simp only [m_X1_dropAct_L4, gIk, u0, d4, if_neg h1, lAk, if_pos hv2, cl, u1, u2, if_neg c1, if_pos c2, nmk, nI_1]
        · simp only [m_X12_undo_L67, gIk, d4, if_neg h1, lAk, if_pos hv, cl, if_neg c1, if_pos c2, nmk, nI_1]
      · obtain ⟨m', sx', sm', r1, r2, r3⟩ := ih (m + 1) (i + 1) N _ _ (by omega) (by omega) (din_step h hit c1 c2)
        refine ⟨m', sx', sm', (lp_next ?_).trans r1, (lp_next ?_).trans r2, r3⟩
        · simp only [m_X1_dropAct_L4, gIk, u0, d4, if_neg h1, lAk, if_pos hv2, cl, u1, u2, u3, u4, if_neg c1, if_neg c2, write_eq 2 m (show m < lnE 2 by rw [ln2]; omega) (by rw [ln2]; omega), clk_some, nmk, nI_1]
        · have x1 : gA (pA sm 0 11 (upd (gA sm 0 11) m (gA sm 0 11 i))) 0 12 = gA sm 0 12 := rfl
          have x2 : gA (pA (pA sm 0 11 (upd (gA sm 0 11) m (gA sm 0 11 i))) 0 12 (upd (gA sm 0 12) m (gA sm 0 12 i))) 0 13 = gA sm 0 13 := rfl
          have x3 : gA (pA (pA (pA sm 0 11 (upd (gA sm 0 11) m (gA sm 0 11 i))) 0 12 (upd (gA sm 0 12) m (gA sm 0 12 i))) 0 13 (upd (gA sm 0 13) m (gA sm 0 13 i))) 0 14 = gA sm 0 14 := rfl
          simp only [m_X12_undo_L67, gIk, d4, if_neg h1, lAk, sAk, if_pos hv, if_pos hvm, cl, clm, if_neg c1, if_neg c2, x1, x2, x3, nmk, nI_1]
          rfl
theorem wbo_less {acts : Int32} {sort lag kind pat slot ofs back units : Nat → Int32} {n : Nat} (w : WBo acts sort lag kind pat slot ofs back units (n + 1)) : WBo (nI n) sort lag kind pat slot ofs back units n := by
  obtain ⟨w1, w2, w3, w4, w5, w6⟩ := w
  exact ⟨rfl, by omega, fun i hi => w3 i (by omega), fun i hi => w4 i (by omega), fun i hi => w5 i (by omega), w6⟩
theorem s_undo {sx sm : Sg} (h : Rel sx sm) : Sim (m_X11_undo sx) (m_X12_undo sm) := by
  obtain ⟨n, t, h1, h2, h3, h4, h5, h6, h7, h8, h9, h10⟩ := id h
  obtain ⟨b0, b1, b2, b3, b4, b5, b6, b7, b8, b9, b10⟩ := id h3
  have e1 := x_refuse (r := -2) (inR_lit _ _ rfl) sx
  have e2 := m_no_eq (r := -2) (inR_lit _ _ rfl) sm
  have e3 := x_refuse (r := -9) (inR_lit _ _ rfl) sx
  have e4 := m_no_eq (r := -9) (inR_lit _ _ rfl) sm
  have hn := h1.2.1
  have ea := h1.1
  simp only [m_X11_undo, m_X12_undo, gIk, nmk, b0]
  rw [ea]
  rcases n with _ | n
  · rw [if_neg (show ¬ (0 : Int32) ≤ nI 0 - 1 by decide), if_pos (show nI 0 = 0 from rfl), e1, e2]
    exact ⟨_, _, _, rfl, rfl, rel_ref _ h⟩
  rw [nI_pred, if_pos (nI_pos' (show n < 2 ^ 31 by omega)), if_neg (nI_ne0 (show 0 < n + 1 by omega) (by omega))]
  have eo : nI n * 3 = nI (3 * n) := nI_x3 n
  have ex : gI sx 1 0 = nI (n + 1) := b0.trans ea
  have e30 : nI (3 * n) + 3 = nI (3 * n + 3) := by rw [show (3 : Int32) = nI 3 from rfl, nI_add]
  have lt3 : ∀ i, i < 3 * n → nI i < nI (3 * n) := fun i hi => nI_lt hi (by omega)
  by_cases c : ∀ k, k < 3 * n → ¬ gA sm 0 5 k = nI n
  · have l1 : lp (fun s : (Int32 × Sg) => m_X0_isTakenByAnother_L6 (nI n) (nI (3 * n)) s.1 s.2) FU (nI 0, sx) = some (.inl sx) := scan_all (e := 3 * (n + 1)) (P := fun k => k < 3 * n → ¬ gA sm 0 5 k = nI n) (by
        simp only [m_X0_isTakenByAnother_L6, gIk, ex, nI_x3, if_pos (Int32.le_refl _)]) (fun i hi hP => by
        have g1 : ¬ nI (3 * (n + 1)) ≤ nI i := nI_ge hi (by omega)
        simp only [m_X0_isTakenByAnother_L6, gIk, ex, nI_x3, if_neg g1, lAk, if_pos (vpb_nI (show i < 48 by omega) (by omega)), nI_clamp (show i < 2 ^ 31 by omega), b6, nmk, nI_1, e30]
        by_cases q : gA sm 0 5 i = nI n
        · have g2 : ¬ i < 3 * n := fun z => hP z q
          rw [if_pos q, if_neg (nI_nlt (by omega) (by omega)), if_pos (nI_lt (by omega) (by omega))]
        · rw [if_neg q]) (fun k hk z => c k z) (3 * (n + 1)) 0 FU (by omega) (FU_lt (by omega))
    have l2 : lp (fun s : (Int32 × Sg) => m_X12_undo_L23 (nI n) s.1 s.2) FU (nI 0, sm) = some (.inl sm) := scan_all (e := 3 * n) (P := fun k => ¬ gA sm 0 5 k = nI n) (by
        simp only [m_X12_undo_L23, nI_3x, if_pos (Int32.le_refl _)]) (fun i hi hP => by
        have g1 : ¬ nI (3 * n) ≤ nI i := nI_ge hi (by omega)
        simp only [m_X12_undo_L23, nI_3x, if_neg g1, lAk, if_pos (vpb_nI (show i < 48 by omega) (by omega)), nI_clamp (show i < 2 ^ 31 by omega), if_neg hP, nmk, nI_1]) c (3 * n) 0 FU (by omega) (FU_lt (by omega))
    have l1' : m_X0_isTakenByAnother (nI n) sx = some (0, sx) := by
      simp only [m_X0_isTakenByAnother, nmk, lpk, eo, show (0 : Int32) = nI 0 from rfl, l1]
      rfl
    have hD : DIn n t 0 0 (pI sx 1 0 (nI n)) (pI sm 0 9 (nI n)) := by
      have hB : RBo (pI sx 1 0 (nI n)) (pI sm 0 9 (nI n)) := ⟨rfl, b1, b2, b3, b4, b5, b6, b7, b8, b9, b10⟩
      exact ⟨⟨hB, h5, h6, h7⟩, wbo_less h1, h4, h2.1, h2.2.1, Nat.le_refl 0, fun q hq => absurd hq (Nat.not_lt_zero q), fun q _ h2' => h2.2.2 q h2'⟩
    obtain ⟨m', sx', sm', r1, r2, r3⟩ := drop_go n t t 0 0 FU _ _ (by omega) (FU_lt (by have := h2.2.1; omega)) hD
    obtain ⟨d1, d2, d3, d4, d5, d6, d7, d8⟩ := r3
    have l3 : m_X1_dropAct 2 (nI n) (pI sx 1 0 (nI n)) = some ((), pI sx' 2 0 (nI m')) := by
      simp only [m_X1_dropAct, nmk, lpk, show (0 : Int32) = nI 0 from rfl, r1, sIk]
    simp only [l1', clk_some, if_pos (show (0 : Int32) = 0 from rfl), sIk, l3, x_changed, lpk, show (0 : Int32) = nI 0 from rfl, l2, Sum.elim_inl, ea, nI_pred, r2, m_changed]
    refine ⟨nI n, _, _, rfl, ?_, rel_changed n m' (wbs_mI 15 (nI m') (by omega) d2) ⟨rfl, by omega, d7⟩ (f2_xI 0 (nI m') (f2_mI 15 (nI m') (by omega) d1)).1 ⟨rfl, d3.2.1, d3.2.2.1, d3.2.2.2.1, d3.2.2.2.2⟩ d1.2.1 d1.2.2.1 d1.2.2.2⟩
    have e9 : gI (chM (pI sm' 0 15 (nI m'))) 0 9 = gI sm' 0 9 := rfl
    rw [e9, d2.1]
  · obtain ⟨k, hk, hP⟩ : ∃ k, k < 3 * n ∧ ¬ ¬ gA sm 0 5 k = nI n := Classical.byContradiction fun q => c fun k hk g => q ⟨k, hk, fun z => z g⟩
    have l1 : lp (fun s : (Int32 × Sg) => m_X0_isTakenByAnother_L6 (nI n) (nI (3 * n)) s.1 s.2) FU (nI 0, sx) = some (.inr sx) := scan_bad (e := 3 * n) (P := fun k => ¬ gA sm 0 5 k = nI n) (fun i hi hP => by
        have g1 : ¬ nI (3 * (n + 1)) ≤ nI i := nI_ge (by omega) (by omega)
        simp only [m_X0_isTakenByAnother_L6, gIk, ex, nI_x3, if_neg g1, lAk, if_pos (vpb_nI (show i < 48 by omega) (by omega)), nI_clamp (show i < 2 ^ 31 by omega), b6, if_neg hP, nmk, nI_1]) (fun i hi hP => by
        have g1 : ¬ nI (3 * (n + 1)) ≤ nI i := nI_ge (by omega) (by omega)
        simp only [m_X0_isTakenByAnother_L6, gIk, ex, nI_x3, if_neg g1, lAk, if_pos (vpb_nI (show i < 48 by omega) (by omega)), nI_clamp (show i < 2 ^ 31 by omega), b6, if_pos (Decidable.of_not_not hP), if_pos (lt3 i hi)]) hk hP k 0 FU (by omega) (FU_lt (by omega))
    have l2 : lp (fun s : (Int32 × Sg) => m_X12_undo_L23 (nI n) s.1 s.2) FU (nI 0, sm) = some (.inr sm) := scan_bad (e := 3 * n) (P := fun k => ¬ gA sm 0 5 k = nI n) (fun i hi hP => by
        have g1 : ¬ nI (3 * n) ≤ nI i := nI_ge hi (by omega)
        simp only [m_X12_undo_L23, nI_3x, if_neg g1, lAk, if_pos (vpb_nI (show i < 48 by omega) (by omega)), nI_clamp (show i < 2 ^ 31 by omega), if_neg hP, nmk, nI_1]) (fun i hi hP => by
        have g1 : ¬ nI (3 * n) ≤ nI i := nI_ge hi (by omega)
        simp only [m_X12_undo_L23, nI_3x, if_neg g1, lAk, if_pos (vpb_nI (show i < 48 by omega) (by omega)), nI_clamp (show i < 2 ^ 31 by omega), if_pos (Decidable.of_not_not hP)]) hk hP k 0 FU (by omega) (FU_lt (by omega))
    have l1' : m_X0_isTakenByAnother (nI n) sx = some (1, sx) := by
      simp only [m_X0_isTakenByAnother, nmk, lpk, eo, show (0 : Int32) = nI 0 from rfl, l1]
      rfl
    simp only [l1', clk_some, if_neg (show ¬ (1 : Int32) = 0 by decide), e3, lpk, show (0 : Int32) = nI 0 from rfl, l2, Sum.elim_inr, e4]
    exact ⟨_, _, _, rfl, rfl, rel_ref _ h⟩
