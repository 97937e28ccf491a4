-- 66.count: Rel over renew and gather; count
theorem lyX_frW {sx sy : Sg} {n t : Nat} (f : FrW sx sy) (h : LyX sx n t) : LyX sy n t := lyX_congr (fun k => f.1 9 k (by omega) (by omega)) (fun k => f.2.1 1 k (by omega)) (fun k => f.2.1 2 k (by omega)) (fun k _ => f.2.1 9 k (by omega)) (f.2.1 10 0 (by omega)) h
theorem rel_renew {sx sy sm : Sg} {n t : Nat} (h1 : WBo (gI sm 0 9) (gA sm 0 0) (gA sm 0 1) (gA sm 0 2) (gA sm 0 3) (gA sm 0 4) (gA sm 0 5) (gA sm 0 6) (gA sm 0 10) n) (h2 : WTo (gI sm 0 15) (gA sm 0 11) (gA sm 0 12) (gA sm 0 13) (gA sm 0 14) n t) (h3 : RBo sx sm) (h4 : RTo sx sm) (h5 : RRo sx sm) (h6 : RRe sx sm) (h7 : RTr sx sm) (h8 : ROu sx sm n) (h10 : RLy sx sm n t) (f : FrW sx sy) (hz : gI sy 3 2 = 0) (hw : WvOk sy n t) : Rel sy sm := by
  obtain ⟨f1, f2, f3⟩ := id f
  refine ⟨n, t, h1, h2, ?_, ?_, ?_, ?_, ?_, ?_, Or.inr ⟨hz, hw⟩, ?_⟩
  · unfold RBo at h3 ⊢
    rw [f1 1 0 (by omega) (by omega), f2 1 1 (by omega), f2 1 2 (by omega), f2 1 3 (by omega), f2 1 4 (by omega), f2 1 5 (by omega), f2 1 6 (by omega), f2 1 7 (by omega), f3, f3, f2 1 10 (by omega)]
    exact h3
  · unfold RTo at h4 ⊢
    rw [f1 2 0 (by omega) (by omega), f2 2 1 (by omega), f2 2 2 (by omega), f2 2 3 (by omega), f2 2 4 (by omega)]
    exact h4
  · unfold RRo at h5 ⊢
    rw [f2 5 0 (by omega), f2 5 1 (by omega), f3]
    exact h5
  · unfold RRe at h6 ⊢
    rw [f2 0 10 (by omega), f1 0 9 (by omega) (by omega)]
    exact h6
  · unfold RTr at h7 ⊢
    rw [f1 7 10 (by omega) (by omega), f2 11 0 (by omega)]
    exact h7
  · unfold ROu at h8 ⊢
    rw [f1 16 0 (by omega) (by omega), f1 16 1 (by omega) (by omega), f1 16 2 (by omega) (by omega), f1 16 3 (by omega) (by omega), f1 16 4 (by omega) (by omega), f1 16 5 (by omega) (by omega), f1 16 6 (by omega) (by omega), f3]
    exact h8
  · rcases h10 with q | ⟨q1, q2, q3⟩
    · refine Or.inl ?_
      rw [f1 9 0 (by omega) (by omega)]
      exact q
    · refine Or.inr ⟨(f1 9 0 (by omega) (by omega)).trans q1, ?_, lyX_frW f q3⟩
      unfold LyEq at q2 ⊢
      rw [f1 9 1 (by omega) (by omega), f2 9 3 (by omega), f2 9 4 (by omega), f2 9 5 (by omega), f2 9 6 (by omega)]
      exact q2
theorem rel_gather {sx sm sy : Sg} {l : List Ed} (h : Rel sx sm) (f : EM sm sy l) : Rel sx sy := by
  obtain ⟨n, t, h1, h2, h3, h4, h5, h6, h7, h8, h9, h10⟩ := h
  obtain ⟨f1, f2, f3, -⟩ := f
  refine ⟨n, t, ?_, ?_, ?_, ?_, ?_, ?_, ?_, ?_, h9, ?_⟩
  · rw [f1 9 (by omega), f2 0 (by omega), f2 1 (by omega), f2 2 (by omega), f2 3 (by omega), f2 4 (by omega), f2 5 (by omega), f2 6 (by omega), f2 10 (by omega)]
    exact h1
  · rw [f1 15 (by omega), f2 11 (by omega), f2 12 (by omega), f2 13 (by omega), f2 14 (by omega)]
    exact h2
  · unfold RBo at h3 ⊢
    rw [f1 9 (by omega), f2 0 (by omega), f2 1 (by omega), f2 2 (by omega), f2 3 (by omega), f2 4 (by omega), f2 5 (by omega), f2 6 (by omega), f2 10 (by omega), f3, f3]
    exact h3
  · unfold RTo at h4 ⊢
    rw [f1 15 (by omega), f2 11 (by omega), f2 12 (by omega), f2 13 (by omega), f2 14 (by omega)]
    exact h4
  · unfold RRo at h5 ⊢
    rw [f2 23 (by omega), f2 24 (by omega), f3]
    exact h5
  · unfold RRe at h6 ⊢
    rw [f2 25 (by omega), f1 26 (by omega)]
    exact h6
  · unfold RTr at h7 ⊢
    rw [f1 32 (by omega), f2 36 (by omega)]
    exact h7
  · unfold ROu at h8 ⊢
    rw [f1 38 (by omega), f1 39 (by omega), f1 40 (by omega), f1 41 (by omega), f1 42 (by omega), f1 43 (by omega), f1 44 (by omega), f3]
    exact h8
  · rcases h10 with q | ⟨q1, q2, q3⟩
    · refine Or.inl ?_
      rw [f1 27 (by omega)]
      exact q
    · refine Or.inr ⟨q1, ?_, q3⟩
      unfold LyEq at q2 ⊢
      rw [f1 27 (by omega), f2 28 (by omega), f2 29 (by omega), f2 30 (by omega), f2 31 (by omega)]
      exact q2
/-- a loop that counts x2 up to e and gathers a number -/
theorem sum_go {step : Int32 × Int32 × Sg → Option ((Int32 × Int32 × Sg) ⊕ (Int32 × Sg))} {st : Sg} {e : Nat} {f : Nat → Int32} (hx : ∀ v, step (v, nI e, st) = some (.inr (v, st))) (hs : ∀ i v, i < e → step (v, nI i, st) = some (.inl (v + f i, nI (i + 1), st))) : ∀ d i N v, i + d = e → d < N → lp step N (v, nI i, st) = some ((List.range d).foldl (fun w k => w + f (i + k)) v, st) := by
  intro d
  induction d with
  | zero =>
    intro i N v hi hN
    obtain ⟨N, rfl⟩ : ∃ M, N = M + 1 := ⟨N - 1, by omega⟩
    have e1 : i = e := by omega
    subst e1
    exact lp_end (hx v)
  | succ d ih =>
    intro i N v hi hN
    obtain ⟨N, rfl⟩ : ∃ M, N = M + 1 := ⟨N - 1, by omega⟩
    rw [lp_next (hs i v (by omega)), ih (i + 1) N (v + f i) (by omega) (by omega), List.range_succ_eq_map, List.foldl_cons, List.foldl_map]
    have e2 : ∀ k, i + 1 + k = i + (k + 1) := fun k => by omega
    simp only [e2, Nat.add_zero, Nat.succ_eq_add_one]
def stF (sort : Nat → Int32) (i : Nat) : Int32 := if sort i = 5 then 1 else 0
theorem stores_eq {sx : Sg} {n : Nat} (hb : gI sx 1 0 = nI n) (hn : n ≤ 16) : m_X0_stores sx = some ((List.range n).foldl (fun w k => w + stF (gA sx 1 1) (0 + k)) 0, sx) := by
  have h := sum_go (step := fun s : (Int32 × Int32 × Sg) => m_X0_stores_L4 s.1 s.2.1 s.2.2) (st := sx) (e := n) (f := stF (gA sx 1 1)) (fun v => by
      simp only [m_X0_stores_L4, gIk, hb, if_pos (Int32.le_refl _)]) (fun i v hi => by
      have hg : ¬ nI n ≤ nI i := nI_ge hi (by omega)
      simp only [m_X0_stores_L4, gIk, hb, if_neg hg, lAk, if_pos (vpb_nI (show i < 16 by omega) (by omega)), nI_clamp (show i < 2 ^ 31 by omega), nmk, nI_1, stF]
      by_cases c : gA sx 1 1 i = 5
      · rw [if_pos c, if_pos c]
      · rw [if_neg c, if_neg c, Int32.add_zero]) n 0 FU 0 (by omega) (FU_lt (by omega))
  simp only [m_X0_stores, nmk, lpk]
  rw [show (((0 : Int32), (0 : Int32), sx) : Int32 × Int32 × Sg) = (0, nI 0, sx) from rfl, h]
theorem storesM_eq (p : Int32) {sm : Sg} {n : Nat} (hb : gI sm 0 9 = nI n) (hn : n ≤ 16) : lp (fun s : (Int32 × Int32 × Sg) => m_X12_count_L61 p s.1 s.2.1 s.2.2) FU (0, 0, sm) = some ((List.range n).foldl (fun w k => w + stF (gA sm 0 0) (0 + k)) 0, sm) := by
  have h := sum_go (step := fun s : (Int32 × Int32 × Sg) => m_X12_count_L61 p s.1 s.2.1 s.2.2) (st := sm) (e := n) (f := stF (gA sm 0 0)) (fun v => by
      simp only [m_X12_count_L61, gIk, hb, if_pos (Int32.le_refl _)]) (fun i v hi => by
      have hg : ¬ nI n ≤ nI i := nI_ge hi (by omega)
      simp only [m_X12_count_L61, gIk, hb, if_neg hg, lAk, if_pos (vpb_nI (show i < 16 by omega) (by omega)), nI_clamp (show i < 2 ^ 31 by omega), nmk, nI_1, stF]
      by_cases c : gA sm 0 0 i = 5
      · rw [if_pos c, if_pos c]
      · rw [if_neg c, if_neg c]) n 0 FU 0 (by omega) (FU_lt (by omega))
  rw [show (((0 : Int32), (0 : Int32), sm) : Int32 × Int32 × Sg) = (0, nI 0, sm) from rfl]
  exact h
theorem units_eq (sx : Sg) : m_X0_unitsInAll sx = some (gA sx 1 10 0 + gA sx 1 10 1 + gA sx 1 10 2 + gA sx 1 10 3 + gA sx 1 10 4 + gA sx 1 10 5, sx) := by
  have h := sum_go (step := fun s : (Int32 × Int32 × Sg) => m_X0_unitsInAll_L4 s.1 s.2.1 s.2.2) (st := sx) (e := 6) (f := gA sx 1 10) (fun v => by
      simp only [m_X0_unitsInAll_L4, if_pos (show (6 : Int32) ≤ nI 6 by decide)]) (fun i v hi => by
      have hg : ¬ (6 : Int32) ≤ nI i := nI_ge (a := i) (b := 6) hi (by omega)
      simp only [m_X0_unitsInAll_L4, if_neg hg, lAk, if_pos (vpb_nI hi (by omega)), nI_clamp (show i < 2 ^ 31 by omega), nmk, nI_1]) 6 0 FU 0 (by omega) (FU_lt (by omega))
  simp only [m_X0_unitsInAll, nmk, lpk]
  rw [show (((0 : Int32), (0 : Int32), sx) : Int32 × Int32 × Sg) = (0, nI 0, sx) from rfl, h]
  show some ((((((0 + gA sx 1 10 0) + gA sx 1 10 1) + gA sx 1 10 2) + gA sx 1 10 3) + gA sx 1 10 4) + gA sx 1 10 5, sx) = _
  rw [Int32.zero_add]
theorem s_count (p : Int32) {sx sm : Sg} (h : Rel sx sm) : Sim (m_X11_count p sx) (m_X12_count p sm) := by
  obtain ⟨n, t, h1, h2, h3, h4, h5, h6, h7, h8, h9, h10⟩ := id h
  obtain ⟨b0, b1, b2, b3, b4, b5, b6, b7, b8, b9, b10⟩ := id h3
  have e3 := x_refuse (r := -9) (inR_lit _ _ rfl) sx
  have e4 := m_no_eq (r := -9) (inR_lit _ _ rfl) sm
  have hn := h1.2.1
  have ex := b0.trans h1.1
  obtain ⟨sy, g1, g2⟩ := gather_eq h1.1 hn h2.1 h2.2.1
  have hR := rel_gather h g2
  have ey : gI sy 0 9 = nI n := (g2.1 9 (by omega)).trans h1.1
  have e00 : gA sy 0 0 = gA sm 0 0 := g2.2.1 0 (by omega)
  have e10 : gA sy 0 10 = gA sm 0 10 := g2.2.1 10 (by omega)
  simp only [m_X11_count, m_X12_count, isIn_eq, clk_some, ite10, tl_0, tl_4, e3, e4, gIk, b0, h4.1, stores_eq ex hn, units_eq]
  by_cases g : 0 ≤ p.toInt ∧ p.toInt ≤ 4
  case neg =>
    have d0 : ¬ p = 0 := fun e => g (by rw [e]; decide)
    have d1 : ¬ p = 1 := fun e => g (by rw [e]; decide)
    have d2 : ¬ p = 2 := fun e => g (by rw [e]; decide)
    have d3 : ¬ p = 3 := fun e => g (by rw [e]; decide)
    have d4 : ¬ p = 4 := fun e => g (by rw [e]; decide)
    rw [if_neg d0, if_neg d1, if_neg d2, if_neg d3, if_neg d4, if_neg g]
    exact ⟨_, _, _, rfl, rfl, rel_ref _ h⟩
  rw [if_pos g]
  by_cases d0 : p = 0
  · rw [if_pos d0, if_pos d0]; exact ⟨_, _, _, rfl, rfl, h⟩
  rw [if_neg d0, if_neg d0]
  by_cases d1 : p = 1
  · rw [if_pos d1, if_pos d1]; exact ⟨_, _, _, rfl, rfl, h⟩
  rw [if_neg d1, if_neg d1, g1, clk_some]
  by_cases d2 : p = 2
  · obtain ⟨sz, r1, r2, r3, r4⟩ := renew_eq ex hn (h4.1.trans h2.1) h2.2.1 h9
    rw [if_pos d2, if_pos d2, r1, clk_some]
    have hS := rel_renew h1 h2 h3 h4 h5 h6 h7 h8 h10 r2 r3 r4
    refine ⟨gI sz 3 1, sz, sy, rfl, ?_, rel_gather hS g2⟩
    have q1 := r4.2
    have q2 := g2.2.2.2.1
    have q3 : gI sy 0 15 = nI t := (g2.1 15 (by omega)).trans h2.1
    obtain ⟨f1, f2, f3⟩ := r2
    rw [f2 1 1 (by omega), f2 1 2 (by omega), f2 1 5 (by omega), f2 1 6 (by omega), f2 1 7 (by omega), b1, b2, b5, b6, b7] at q1
    rw [q1, q2, q3, (ed_perm n _ _ _ _ _).length_eq]
    unfold allM
    rw [List.length_append]
    have q4 : (toldL t (gA sm 0 11) (gA sm 0 12) (gA sm 0 13) (gA sm 0 14)).length = t := by unfold toldL; rw [List.length_map, List.length_range]
    rw [q4, pk_sub (show t ≤ (edM n (gA sm 0 0) (gA sm 0 1) (gA sm 0 4) (gA sm 0 5) (gA sm 0 6)).length + t by omega), Nat.add_sub_cancel]
  rw [if_neg d2, if_neg d2]
  simp only [nmk, lpk, storesM_eq p ey hn]
  by_cases d3 : p = 3
  · rw [if_pos d3, if_pos d3, e00, b1]; exact ⟨_, _, _, rfl, rfl, hR⟩
  rw [if_neg d3, if_neg d3]
  have d4 : p = 4 := by
    rw [fx_eq] at d0 d1 d2 d3 ⊢
    rw [ti_0] at d0
    rw [ti_1] at d1
    rw [show (2 : Int32).toInt = 2 from rfl] at d2
    rw [ti_3] at d3
    rw [ti_4]
    omega
  rw [if_pos d4]
  simp only [lAk, if_pos (show vpb 0 6 = true by decide), if_pos (show vpb 1 6 = true by decide), if_pos (show vpb 2 6 = true by decide), if_pos (show vpb 3 6 = true by decide), if_pos (show vpb 4 6 = true by decide), if_pos (show vpb 5 6 = true by decide), e10, b10]
  exact ⟨_, _, _, rfl, rfl, hR⟩
