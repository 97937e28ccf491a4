-- 58.edge: edge, act
def Fr2 (sx sm : Sg) : Prop := RBo sx sm ∧ RRo sx sm ∧ RRe sx sm ∧ RTr sx sm
theorem f2_xA {sx sm : Sg} (k : Nat) (f : Nat → Int32) (h : Fr2 sx sm) : Fr2 (pA sx 2 k f) sm := h
theorem f2_xI {sx sm : Sg} (k : Nat) (f : Int32) (h : Fr2 sx sm) : Fr2 (pI sx 2 k f) sm := h
theorem f2_mA {sx sm : Sg} (k : Nat) (f : Nat → Int32) (hk : 11 ≤ k ∧ k ≤ 15) (h : Fr2 sx sm) : Fr2 sx (pA sm 0 k f) := by
  unfold Fr2 RBo RRo RRe RTr at h ⊢
  simp only [gI_pA, gL_pA, gA_pA2, if_true, if_neg (show ¬ 0 = k by omega), if_neg (show ¬ 1 = k by omega), if_neg (show ¬ 2 = k by omega), if_neg (show ¬ 3 = k by omega), if_neg (show ¬ 4 = k by omega), if_neg (show ¬ 5 = k by omega), if_neg (show ¬ 6 = k by omega), if_neg (show ¬ 10 = k by omega), if_neg (show ¬ 23 = k by omega), if_neg (show ¬ 24 = k by omega), if_neg (show ¬ 25 = k by omega), if_neg (show ¬ 36 = k by omega)]
  exact h
theorem f2_mI {sx sm : Sg} (k : Nat) (f : Int32) (hk : 11 ≤ k ∧ k ≤ 15) (h : Fr2 sx sm) : Fr2 sx (pI sm 0 k f) := by
  unfold Fr2 RBo RRo RRe RTr at h ⊢
  simp only [gA_pI, gL_pI, gI_pI, if_true, if_neg (show ¬ 9 = k by omega), if_neg (show ¬ 26 = k by omega), if_neg (show ¬ 32 = k by omega)]
  exact h
def w4 (j t : Nat) (a b c d : Int32) (st : Sg) : Sg := pA (pA (pA (pA st j 1 (upd (gA st j 1) t a)) j 2 (upd (gA st j 2) t b)) j 3 (upd (gA st j 3) t c)) j 4 (upd (gA st j 4) t d)
theorem write_eq (j t : Nat) (ht : t < lnE j) (hl : lnE j < 2 ^ 31) (a b c d : Int32) (st : Sg) : m_X1_write j (nI t) a b c d st = some ((), w4 j t a b c d st) := by
  have hv : vpb (nI t) (lnE j) = true := vpb_nI ht hl
  simp only [m_X1_write, sAk, if_pos hv, nI_clamp (show t < 2 ^ 31 by omega), gA_pA2, if_true, Nat.reduceEqDiff, if_false, reduceIte]
  rfl
theorem join_eq (j t : Nat) (ht : t < lnE j) (hl : lnE j < 2 ^ 31) (a b c d : Int32) (st : Sg) (e : gI st j 0 = nI t) : m_X1_join j a b c d st = some (1, pI (w4 j t a b c d st) j 0 (nI (t + 1))) := by
  have h1 : nI t < Int32.ofNat (lnE j) := nI_lt ht hl
  have e2 : gI (w4 j t a b c d st) j 0 = nI t := e
  simp only [m_X1_join, gIk, e, if_pos h1, write_eq j t ht hl, clk_some, sIk, e2, nI_1]
theorem join_full (j : Nat) (a b c d : Int32) (st : Sg) (e : gI st j 0 = nI (lnE j)) : m_X1_join j a b c d st = some (0, st) := by
  have h1 : ¬ nI (lnE j) < Int32.ofNat (lnE j) := by rw [fx_lt]; exact Int.lt_irrefl _
  simp only [m_X1_join, gIk, e, if_neg h1]
theorem ln2 : lnE 2 = 40 := rfl
theorem s_edge (a b c d : Int32) {sx sm : Sg} (h : Rel sx sm) : Sim (m_X11_edge a b c d sx) (m_X12_edge a b c d sm) := by
  obtain ⟨n, t, h1, h2, h3, h4, h5, h6, h7, h8, h9, h10⟩ := id h
  obtain ⟨b0, b1, b2, b3, b4, b5, b6, b7, b8, b9, b10⟩ := id h3
  obtain ⟨u0, u1, u2, u3, u4⟩ := id h4
  have e1 := x_refuse (r := -3) (inR_lit _ _ rfl) sx
  have e2 := m_no_eq (r := -3) (inR_lit _ _ rfl) sm
  have e3 := x_refuse (r := -9) (inR_lit _ _ rfl) sx
  have e4 := m_no_eq (r := -9) (inR_lit _ _ rfl) sm
  have e5 := x_refuse (r := -10) (inR_lit _ _ rfl) sx
  have e6 := m_no_eq (r := -10) (inR_lit _ _ rfl) sm
  simp only [m_X11_edge, m_X12_edge, has_eq, isAct_eq, isBack_eq, areTurns_eq, isIn_eq, clk_some, ite10, e1, e2, e3, e4, b0, tl_m50, tl_50]
  by_cases c1 : 0 ≤ a.toInt ∧ a.toInt < (gI sm 0 9).toInt
  case neg => rw [if_neg c1, if_neg c1]; exact ⟨_, _, _, rfl, rfl, rel_ref _ h⟩
  rw [if_pos c1, if_pos c1]
  by_cases c2 : 0 ≤ b.toInt ∧ b.toInt < (gI sm 0 9).toInt
  case neg => rw [if_neg c2, if_neg c2]; exact ⟨_, _, _, rfl, rfl, rel_ref _ h⟩
  rw [if_pos c2, if_pos c2, ite_lg, ti_m50, ti_50]
  by_cases c3 : -50 ≤ c.toInt ∧ c.toInt ≤ 50
  case neg => rw [if_neg c3, if_neg c3]; exact ⟨_, _, _, rfl, rfl, rel_ref _ h⟩
  rw [if_pos c3, if_pos c3]
  by_cases c4 : 0 ≤ d.toInt ∧ d.toInt ≤ 4
  case neg => rw [if_neg c4, if_neg c4]; exact ⟨_, _, _, rfl, rfl, rel_ref _ h⟩
  rw [if_pos c4, if_pos c4]
  obtain ⟨w1, w2, w3⟩ := id h2
  rcases Nat.lt_or_ge t 40 with ht | ht
  · have hv : vpb (nI t) 40 = true := vpb_nI ht (by omega)
    have hne : ¬ nI t = 40 := by rw [fx_eq, nI_toInt (by omega), ti_40]; omega
    have g1 : gI sm 0 15 = nI t := w1
    simp only [join_eq 2 t (by rw [ln2]; exact ht) (by rw [ln2]; omega) a b c d sx (u0.trans w1), clk_some, if_neg (show ¬ (1 : Int32) = 0 by decide), x_changed, m_changed, gIk, sAk, sIk, gI_pA, g1, if_neg hne, if_pos hv, nI_clamp (show t < 2 ^ 31 by omega), nI_1]
    refine ⟨nI (t + 1), _, _, rfl, rfl, ?_⟩
    have hF : Fr2 (pI (w4 2 t a b c d sx) 2 0 (nI (t + 1))) (pI (pA (pA (pA (pA sm 0 11 (upd (gA sm 0 11) t a)) 0 12 (upd (gA sm 0 12) t b)) 0 13 (upd (gA sm 0 13) t c)) 0 14 (upd (gA sm 0 14) t d)) 0 15 (nI (t + 1))) := f2_xI 0 _ (f2_xA 4 _ (f2_xA 3 _ (f2_xA 2 _ (f2_xA 1 _ (f2_mI 15 _ (by omega) (f2_mA 14 _ (by omega) (f2_mA 13 _ (by omega) (f2_mA 12 _ (by omega) (f2_mA 11 _ (by omega) ⟨h3, h5, h6, h7⟩)))))))))
    refine rel_changed n (t + 1) h1 ⟨rfl, by omega, fun i hi => ?_⟩ hF.1 ⟨rfl, congrArg (fun f => upd f t a) u1, congrArg (fun f => upd f t b) u2, congrArg (fun f => upd f t c) u3, congrArg (fun f => upd f t d) u4⟩ hF.2.1 hF.2.2.1 hF.2.2.2
    show inR (upd (gA sm 0 11) t a i) 0 (n - 1) ∧ inR (upd (gA sm 0 12) t b i) 0 (n - 1) ∧ inR (upd (gA sm 0 13) t c i) (-50) 50 ∧ inR (upd (gA sm 0 14) t d i) 0 4
    simp only [upd_i]
    by_cases q : i = t
    · simp only [if_pos q]
      have e9 := h1.1
      have hn := h1.2.1
      rw [e9, nI_toInt (by omega)] at c1 c2
      exact ⟨⟨c1.1, by omega⟩, ⟨c2.1, by omega⟩, c3, c4⟩
    · simp only [if_neg q]
      exact w3 i (by omega)
  · have ht2 : t = 40 := by omega
    subst ht2
    have g1 : gI sm 0 15 = nI 40 := w1
    simp only [join_full 2 a b c d sx (u0.trans w1), clk_some, if_pos (show (0 : Int32) = 0 from rfl), gIk, g1, if_pos (show nI 40 = 40 from rfl), e5, e6]
    exact ⟨_, _, _, rfl, rfl, rel_ref _ h⟩
theorem div2 (k : Nat) (hk : k < 1000) : nI k / 2 = nI (k / 2) := by
  rw [show (2 : Int32) = nI 2 from rfl, pk_div (by omega) (by omega) (by omega)]
theorem rem2 (k : Nat) (hk : k < 1000) : nI k - nI k / 2 * 2 = nI (k % 2) := by
  rw [show (2 : Int32) = nI 2 from rfl, pk_rem (by omega) (by omega) (by omega)]
theorem s_act (p q : Int32) {sx sm : Sg} (h : Rel sx sm) : Sim (m_X11_act p q sx) (m_X12_act p q sm) := by
  obtain ⟨n, t, h1, h2, h3, h4, h5, h6, h7, h8, h9, h10⟩ := id h
  obtain ⟨b0, b1, b2, b3, b4, b5, b6, b7, b8, b9, b10⟩ := id h3
  have e1 := x_refuse (r := -3) (inR_lit _ _ rfl) sx
  have e2 := m_no_eq (r := -3) (inR_lit _ _ rfl) sm
  have e3 := x_refuse (r := -9) (inR_lit _ _ rfl) sx
  have e4 := m_no_eq (r := -9) (inR_lit _ _ rfl) sm
  have z10 : (10 : Int32).toInt = 10 := rfl
  simp only [m_X11_act, m_X12_act, has_eq, isAct_eq, isIn_eq, clk_some, ite10, e1, e2, e3, e4, b0, tl_0, show (10 : Int64).toInt = 10 from rfl]
  by_cases c : 0 ≤ p.toInt ∧ p.toInt < (gI sm 0 9).toInt
  case neg => rw [if_neg c, if_neg c]; exact ⟨_, _, _, rfl, rfl, rel_ref _ h⟩
  obtain ⟨hp1, hp2, hv⟩ := acts_lt h1.1 h1.2.1 c
  have hn := h1.2.1
  rw [if_pos c, if_pos c]
  by_cases g : 0 ≤ q.toInt ∧ q.toInt ≤ 10
  case neg =>
    have d0 : ¬ q = 0 := fun e => g (by rw [e]; decide)
    have d1 : ¬ q = 1 := fun e => g (by rw [e]; decide)
    have d2 : ¬ q = 2 := fun e => g (by rw [e]; decide)
    have d3 : ¬ q = 3 := fun e => g (by rw [e]; decide)
    have d4 : ¬ q = 4 := fun e => g (by rw [e]; decide)
    rw [if_neg d0, if_neg d1, if_neg d2, if_neg d3, if_neg d4, if_neg g]
    by_cases k : q < 5
    · rw [if_pos k]; exact ⟨_, _, _, rfl, rfl, rel_ref _ h⟩
    · rw [if_neg k, if_neg (by rw [fx_le, z10]; rw [fx_lt, ti_5] at k; omega)]; exact ⟨_, _, _, rfl, rfl, rel_ref _ h⟩
  rw [if_pos g]
  simp only [lAk, if_pos hv, b1, b2, b3, b4, b5]
  by_cases d0 : q = 0
  · rw [if_pos d0, if_pos d0]; exact ⟨_, _, _, rfl, rfl, h⟩
  rw [if_neg d0, if_neg d0]
  by_cases d1 : q = 1
  · rw [if_pos d1, if_pos d1]; exact ⟨_, _, _, rfl, rfl, h⟩
  rw [if_neg d1, if_neg d1]
  by_cases d2 : q = 2
  · rw [if_pos d2, if_pos d2]; exact ⟨_, _, _, rfl, rfl, h⟩
  rw [if_neg d2, if_neg d2]
  by_cases d3 : q = 3
  · rw [if_pos d3, if_pos d3]; exact ⟨_, _, _, rfl, rfl, h⟩
  rw [if_neg d3, if_neg d3]
  by_cases d4 : q = 4
  · rw [if_pos d4, if_pos d4]; exact ⟨_, _, _, rfl, rfl, h⟩
  rw [if_neg d4, if_neg d4]
  have hq : q = nI q.toNatClampNeg := fx_nI g.1
  have hc := fx_cl g.1
  generalize q.toNatClampNeg = k at hq hc
  subst hq
  have k5 : 5 ≤ k := by
    have a0 : k ≠ 0 := fun e => d0 (by rw [e]; rfl)
    have a1 : k ≠ 1 := fun e => d1 (by rw [e]; rfl)
    have a2 : k ≠ 2 := fun e => d2 (by rw [e]; rfl)
    have a3 : k ≠ 3 := fun e => d3 (by rw [e]; rfl)
    have a4 : k ≠ 4 := fun e => d4 (by rw [e]; rfl)
    omega
  have k10 : k ≤ 10 := by omega
  have s5 : nI k - 5 = nI (k - 5) := pk_sub (b := 5) k5
  generalize hp0 : p.toNatClampNeg = i at *
  subst hp2
  have ix : nI i * 3 + nI ((k - 5) / 2) = nI (3 * i + (k - 5) / 2) := nI_3w i ((k - 5) / 2)
  have im : 3 * nI i + nI ((k - 5) / 2) = nI (3 * i + (k - 5) / 2) := nI_w3 i ((k - 5) / 2)
  have hw : vpb (nI (3 * i + (k - 5) / 2)) 48 = true := vpb_nI (by omega) (by omega)
  have n2 : ¬ (2 : Int32) = 0 := by decide
  have r5 : nI (k - 5) - nI ((k - 5) / 2) * 2 = nI ((k - 5) % 2) := by rw [← div2 (k - 5) (by omega), rem2 (k - 5) (by omega)]
  rw [if_neg (show ¬ nI k < 5 from nI_nlt (b := 5) k5 (by omega)), if_pos (show nI k ≤ 10 from nI_le (b := 10) k10 (by omega))]
  simp only [m_X11_operandPart, dvk, if_neg n2, nmk, s5, div2 (k - 5) (by omega), r5, rem2 k (by omega), ix, im, lAk, if_pos hw, nI_clamp (show 3 * i + (k - 5) / 2 < 2 ^ 31 by omega), b6, b7]
  rcases Nat.mod_two_eq_zero_or_one k with r | r
  · rw [r, show (k - 5) % 2 = 1 by omega, if_neg (show ¬ nI 1 = 0 by decide), if_neg (show ¬ nI 0 = 1 by decide)]
    exact ⟨_, _, _, rfl, rfl, h⟩
  · rw [r, show (k - 5) % 2 = 0 by omega, if_pos (show nI 0 = 0 from rfl), if_pos (show nI 1 = 1 from rfl)]
    exact ⟨_, _, _, rfl, rfl, h⟩
