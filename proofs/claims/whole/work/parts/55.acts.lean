-- 55.acts: put, reckon, fetch, store, pick
theorem up_a (f : Nat → Int32) (a : Nat) (x m1 : Int32) : upd (upd (upd (upd f a m1) (a + 1) m1) (a + 2) m1) a x = upd (upd (upd f a x) (a + 1) m1) (a + 2) m1 := by
  funext q
  simp only [upd_i]
  by_cases h2 : q = a + 2
  · simp [h2]
  · by_cases h1 : q = a + 1
    · simp [h1]
    · by_cases h0 : q = a
      · simp [h0]
      · simp [h0, h1, h2]
theorem up_ab (f : Nat → Int32) (a : Nat) (x y m1 : Int32) : upd (upd (upd (upd (upd f a m1) (a + 1) m1) (a + 2) m1) a x) (a + 1) y = upd (upd (upd f a x) (a + 1) y) (a + 2) m1 := by
  funext q
  simp only [upd_i]
  by_cases h2 : q = a + 2
  · simp [h2]
  · by_cases h1 : q = a + 1
    · simp [h1]
    · by_cases h0 : q = a
      · simp [h0]
      · simp [h0, h1, h2]
theorem up_b (f : Nat → Int32) (a : Nat) (y m1 : Int32) : upd (upd (upd f (a + 1) m1) (a + 2) m1) (a + 1) y = upd (upd f (a + 1) y) (a + 2) m1 := by
  funext q
  simp only [upd_i]
  by_cases h2 : q = a + 2
  · simp [h2]
  · by_cases h1 : q = a + 1
    · simp [h1]
    · simp [h1, h2]
theorem upd_tw (f : Nat → Int32) (k : Nat) (x y : Int32) : upd (upd f k x) k y = upd f k y := by
  funext q
  simp only [upd_i]
  by_cases h : q = k
  · simp [h]
  · simp [h]
theorem nI_nm1 {n : Nat} (hn : n < 2 ^ 31) : ¬ nI n = -1 := by
  rw [fx_eq, nI_toInt hn, ti_m1]
  omega
theorem nI_nneg {n : Nat} (hn : n < 2 ^ 31) : ¬ nI n < 0 := by
  rw [fx_lt, nI_toInt hn, ti_0]
  omega
theorem n_16 {n : Nat} (h : n ≤ 16) : n < 16 ∨ n = 16 := by omega
theorem s_put (v : Int64) {sx sm : Sg} (h : Rel sx sm) : Sim (m_X11_put v sx) (m_X12_put v sm) := by
  obtain ⟨n, t, h1, h2, h3, h4, h5, h6, h7, h8, h9, h10⟩ := id h
  have e1 := x_refuse (r := -10) (inR_lit _ _ rfl) sx
  obtain ⟨b0, b1, b2, b3, b4, b5, b6, b7, b8, b9, b10⟩ := id h3
  rcases n_16 h1.2.1 with hn | hn
  · have hv : vpb (nI n) 16 = true := vpb_nI hn (by omega)
    simp only [m_X11_put, m_X12_put, open_eq n hn 0 sx (b0.trans h1.1), adds_eq n hn 0 (-1) (-1) (-1) (-1) (-1) sm h1.1, clk_some, nmk, if_neg (nI_nm1 (show n < 2 ^ 31 by omega)), if_neg (nI_nneg (show n < 2 ^ 31 by omega)), sLk, if_pos hv, nI_clamp (show n < 2 ^ 31 by omega), x_changed]
    refine ⟨_, _, _, rfl, rfl, ?_⟩
    rw [pL_chM, gL_chM]
    have hF := fr_xL 8 (vp_updL (gL (opnX n 0 sx) 1 8) n v) (fr_opnX n 0 (fr_mL 8 (vp_updL (gL (addM n 0 (-1) (-1) (-1) (-1) (-1) sm) 0 8) n v) (by omega) (fr_addM n 0 (-1) (-1) (-1) (-1) (-1) (⟨h4, h5, h6, h7⟩ : Fr sx sm))))
    refine rel_changed' (n + 1) t ?_ ?_ ?_ hF
    · simp only [ox_0, ox_1, ox_2, ox_3, ox_4, ox_5, ox_6, ox_7, ox_8, ox_9, ox_10, om_0, om_1, om_2, om_3, om_4, om_5, om_6, om_7, om_8, om_9, om_10, om_11, om_12, om_13, om_14, om_15, opx_6, opx_7, opx_I, opx_L, opm_5, opm_6, opm_I, opm_L, opxA_1, opxA_2, opxA_3, opxA_4, opxA_5, opxA_10, opmA_0, opmA_1, opmA_2, opmA_3, opmA_4, opmA_10, opmA_11, opmA_12, opmA_13, opmA_14, gI_pA, gI_pL, gA_pL, gL_pA, q18_8, q18_9, q08_8, q08_7, q15_5, q15_1, q15_2, q15_3, q15_4, q15_6, q15_7, q15_10, Nat.add_zero, upd_tw]
      exact wbo_add h1 hn (srt := 0) (sl := -1) (x := -1) (dx := -1) (y := -1) (dy := -1) (z := -1) (dz := -1) (inR_lit _ _ rfl) (inR_lit _ _ rfl) (fun q => absurd q (by decide)) (no_op n) (no_op n) (no_op n) (fun q => absurd rfl q) (fun q => absurd q (by decide)) (fun q => absurd q (by decide))
    · simp only [ox_0, ox_1, ox_2, ox_3, ox_4, ox_5, ox_6, ox_7, ox_8, ox_9, ox_10, om_0, om_1, om_2, om_3, om_4, om_5, om_6, om_7, om_8, om_9, om_10, om_11, om_12, om_13, om_14, om_15, opx_6, opx_7, opx_I, opx_L, opm_5, opm_6, opm_I, opm_L, opxA_1, opxA_2, opxA_3, opxA_4, opxA_5, opxA_10, opmA_0, opmA_1, opmA_2, opmA_3, opmA_4, opmA_10, opmA_11, opmA_12, opmA_13, opmA_14, gI_pA, gI_pL, gA_pL, gL_pA, q18_8, q18_9, q08_8, q08_7, q15_5, q15_1, q15_2, q15_3, q15_4, q15_6, q15_7, q15_10, Nat.add_zero, upd_tw]
      exact wto_up h2
    · unfold RBo
      simp only [ox_0, ox_1, ox_2, ox_3, ox_4, ox_5, ox_6, ox_7, ox_8, ox_9, ox_10, om_0, om_1, om_2, om_3, om_4, om_5, om_6, om_7, om_8, om_9, om_10, om_11, om_12, om_13, om_14, om_15, opx_6, opx_7, opx_I, opx_L, opm_5, opm_6, opm_I, opm_L, opxA_1, opxA_2, opxA_3, opxA_4, opxA_5, opxA_10, opmA_0, opmA_1, opmA_2, opmA_3, opmA_4, opmA_10, opmA_11, opmA_12, opmA_13, opmA_14, gI_pA, gI_pL, gA_pL, gL_pA, q18_8, q18_9, q08_8, q08_7, q15_5, q15_1, q15_2, q15_3, q15_4, q15_6, q15_7, q15_10, Nat.add_zero, upd_tw, up_a, up_b, b1, b2, b3, b4, b5, b6, b7, b8, b9, b10, and_self]
  · subst hn
    simp only [m_X11_put, m_X12_put, open_full sx 0 (b0.trans h1.1), adds_full sm 0 (-1) (-1) (-1) (-1) (-1) h1.1, clk_some, nmk, if_pos (show (-1 : Int32) = -1 from rfl), if_pos (show (-10 : Int32) < 0 by decide), e1]
    exact ⟨_, _, _, rfl, rfl, rel_ref _ h⟩
/-- the state of the class behind an act with two operands (of which the second may be none) -/
theorem s_reckon (k x dx y dy : Int32) {sx sm : Sg} (h : Rel sx sm) : Sim (m_X11_reckon k x dx y dy sx) (m_X12_reckon k x dx y dy sm) := by
  obtain ⟨n, t, h1, h2, h3, h4, h5, h6, h7, h8, h9, h10⟩ := id h
  have e1 := x_refuse (r := -10) (inR_lit _ _ rfl) sx
  have e2 := x_refuse (r := -9) (inR_lit _ _ rfl) sx
  have e3 := m_no_eq (r := -9) (inR_lit _ _ rfl) sm
  have e4 := x_refuse (r := -3) (inR_lit _ _ rfl) sx
  have e5 := m_no_eq (r := -3) (inR_lit _ _ rfl) sm
  obtain ⟨b0, b1, b2, b3, b4, b5, b6, b7, b8, b9, b10⟩ := id h3
  simp only [m_X11_reckon, m_X12_reckon, isBack_eq, areTurns_eq, isIn_eq, clk_some, ite10, tl_1, tl_3, e2, e3]
  rw [ite_lg, ti_1, ti_3]
  by_cases c1 : 1 ≤ k.toInt ∧ k.toInt ≤ 3
  case neg => rw [if_neg c1, if_neg c1]; exact ⟨_, _, _, rfl, rfl, rel_ref _ h⟩
  rw [if_pos c1, if_pos c1]
  by_cases c2 : 0 ≤ dx.toInt ∧ dx.toInt ≤ 4
  case neg => rw [if_neg c2, if_neg c2]; exact ⟨_, _, _, rfl, rfl, rel_ref _ h⟩
  rw [if_pos c2, if_pos c2]
  by_cases c3 : 0 ≤ dy.toInt ∧ dy.toInt ≤ 4
  case neg => rw [if_neg c3, if_neg c3]; exact ⟨_, _, _, rfl, rfl, rel_ref _ h⟩
  rw [if_pos c3, if_pos c3]
  by_cases c4 : mayT (gI sm 0 9) x dx
  case neg =>
    simp only [mayTake_no x dx c2.1 sx (by rw [b0]; exact c4), isBeyond_no x dx sm c4, clk_some, if_pos (show (0 : Int32) = 0 from rfl), if_neg (show ¬ (1 : Int32) = 0 by decide), e4, e5]
    exact ⟨_, _, _, rfl, rfl, rel_ref _ h⟩
  by_cases c5 : mayT (gI sm 0 9) y dy
  case neg =>
    simp only [mayTake_eq x dx c2.1 sx (by rw [b0]; exact c4), isBeyond_eq x dx sm c4, mayTake_no y dy c3.1 sx (by rw [b0]; exact c5), isBeyond_no y dy sm c5, clk_some, if_pos (show (0 : Int32) = 0 from rfl), if_neg (show ¬ (1 : Int32) = 0 by decide), e4, e5]
    exact ⟨_, _, _, rfl, rfl, rel_ref _ h⟩
  simp only [mayTake_eq x dx c2.1 sx (by rw [b0]; exact c4), isBeyond_eq x dx sm c4, mayTake_eq y dy c3.1 sx (by rw [b0]; exact c5), isBeyond_eq y dy sm c5, clk_some, if_pos (show (0 : Int32) = 0 from rfl), if_neg (show ¬ (1 : Int32) = 0 by decide), nmk]
  rcases n_16 h1.2.1 with hn | hn
  · have t0 := take_eq n 0 hn (by omega) x dx
    have t1 := take_eq n 1 hn (by omega) y dy
    rw [show nI 0 = 0 from rfl] at t0
    rw [show nI 1 = 1 from rfl] at t1
    simp only [open_eq n hn k sx (b0.trans h1.1), adds_eq n hn k (-1) x dx y dy sm h1.1, clk_some, if_neg (nI_nm1 (show n < 2 ^ 31 by omega)), t0, t1, x_changed]
    refine ⟨_, _, _, rfl, rfl, ?_⟩
    have hF := fr_opX (3 * n + 1) y dy (fr_opX (3 * n + 0) x dx (fr_opnX n k (fr_addM n k (-1) x dx y dy (⟨h4, h5, h6, h7⟩ : Fr sx sm))))
    refine rel_changed' (n + 1) t ?_ ?_ ?_ hF
    · simp only [ox_0, ox_1, ox_2, ox_3, ox_4, ox_5, ox_6, ox_7, ox_8, ox_9, ox_10, om_0, om_1, om_2, om_3, om_4, om_5, om_6, om_7, om_8, om_9, om_10, om_11, om_12, om_13, om_14, om_15, opx_6, opx_7, opx_I, opx_L, opm_5, opm_6, opm_I, opm_L, opxA_1, opxA_2, opxA_3, opxA_4, opxA_5, opxA_10, opmA_0, opmA_1, opmA_2, opmA_3, opmA_4, opmA_10, opmA_11, opmA_12, opmA_13, opmA_14, gI_pA, gI_pL, gA_pL, gL_pA, q18_8, q18_9, q08_8, q08_7, q15_5, q15_1, q15_2, q15_3, q15_4, q15_6, q15_7, q15_10, Nat.add_zero, upd_tw]
      refine wbo_add h1 hn (srt := k) (sl := -1) (x := x) (dx := dx) (y := y) (dy := dy) (z := -1) (dz := -1) ⟨by omega, by omega⟩ (inR_lit _ _ rfl) (fun q => ?_) (may_op h1.1 h1.2.1 c2 c4) (may_op h1.1 h1.2.1 c3 c5) (no_op n) (fun _ => c4.1) (fun _ => c5.1) (fun q => ?_)
      · rcases q with q | q <;> rw [q] at c1 <;> exact absurd c1 (by decide)
      · rw [q] at c1; exact absurd c1 (by decide)
    · simp only [ox_0, ox_1, ox_2, ox_3, ox_4, ox_5, ox_6, ox_7, ox_8, ox_9, ox_10, om_0, om_1, om_2, om_3, om_4, om_5, om_6, om_7, om_8, om_9, om_10, om_11, om_12, om_13, om_14, om_15, opx_6, opx_7, opx_I, opx_L, opm_5, opm_6, opm_I, opm_L, opxA_1, opxA_2, opxA_3, opxA_4, opxA_5, opxA_10, opmA_0, opmA_1, opmA_2, opmA_3, opmA_4, opmA_10, opmA_11, opmA_12, opmA_13, opmA_14, gI_pA, gI_pL, gA_pL, gL_pA, q18_8, q18_9, q08_8, q08_7, q15_5, q15_1, q15_2, q15_3, q15_4, q15_6, q15_7, q15_10, Nat.add_zero, upd_tw]
      exact wto_up h2
    · unfold RBo
      simp only [ox_0, ox_1, ox_2, ox_3, ox_4, ox_5, ox_6, ox_7, ox_8, ox_9, ox_10, om_0, om_1, om_2, om_3, om_4, om_5, om_6, om_7, om_8, om_9, om_10, om_11, om_12, om_13, om_14, om_15, opx_6, opx_7, opx_I, opx_L, opm_5, opm_6, opm_I, opm_L, opxA_1, opxA_2, opxA_3, opxA_4, opxA_5, opxA_10, opmA_0, opmA_1, opmA_2, opmA_3, opmA_4, opmA_10, opmA_11, opmA_12, opmA_13, opmA_14, gI_pA, gI_pL, gA_pL, gL_pA, q18_8, q18_9, q08_8, q08_7, q15_5, q15_1, q15_2, q15_3, q15_4, q15_6, q15_7, q15_10, Nat.add_zero, upd_tw, up_a, up_b, b1, b2, b3, b4, b5, b6, b7, b8, b9, b10, and_self]
  · subst hn
    simp only [open_full sx k (b0.trans h1.1), adds_full sm k (-1) x dx y dy h1.1, clk_some, if_pos (show (-1 : Int32) = -1 from rfl), e1]
    exact ⟨_, _, _, rfl, rfl, rel_ref _ h⟩
theorem s_fetch (k x dx : Int32) {sx sm : Sg} (h : Rel sx sm) : Sim (m_X11_fetch k x dx sx) (m_X12_fetch k x dx sm) := by
  obtain ⟨n, t, h1, h2, h3, h4, h5, h6, h7, h8, h9, h10⟩ := id h
  have e1 := x_refuse (r := -10) (inR_lit _ _ rfl) sx
  have e2 := x_refuse (r := -9) (inR_lit _ _ rfl) sx
  have e3 := m_no_eq (r := -9) (inR_lit _ _ rfl) sm
  have e4 := x_refuse (r := -3) (inR_lit _ _ rfl) sx
  have e5 := m_no_eq (r := -3) (inR_lit _ _ rfl) sm
  obtain ⟨b0, b1, b2, b3, b4, b5, b6, b7, b8, b9, b10⟩ := id h3
  simp only [m_X11_fetch, m_X12_fetch, isBack_eq, areTurns_eq, isSlotX_eq, isIn_eq, clk_some, ite10, tl_0, tl_7, e2, e3, e4, e5]
  by_cases c2 : 0 ≤ dx.toInt ∧ dx.toInt ≤ 4
  case neg => rw [if_neg c2, if_neg c2]; exact ⟨_, _, _, rfl, rfl, rel_ref _ h⟩
  rw [if_pos c2, if_pos c2]
  by_cases c1 : 0 ≤ k.toInt ∧ k.toInt ≤ 7
  case neg => rw [if_neg c1, if_neg c1]; exact ⟨_, _, _, rfl, rfl, rel_ref _ h⟩
  rw [if_pos c1, if_pos c1]
  by_cases c4 : mayT (gI sm 0 9) x dx
  case neg =>
    simp only [mayTake_no x dx c2.1 sx (by rw [b0]; exact c4), isBeyond_no x dx sm c4, clk_some, if_pos (show (0 : Int32) = 0 from rfl), if_neg (show ¬ (1 : Int32) = 0 by decide), e4, e5]
    exact ⟨_, _, _, rfl, rfl, rel_ref _ h⟩
  simp only [mayTake_eq x dx c2.1 sx (by rw [b0]; exact c4), isBeyond_eq x dx sm c4, clk_some, if_pos (show (0 : Int32) = 0 from rfl), if_neg (show ¬ (1 : Int32) = 0 by decide), nmk]
  rcases n_16 h1.2.1 with hn | hn
  · have t0 := take_eq n 0 hn (by omega) x dx
    rw [show nI 0 = 0 from rfl] at t0
    have hv : vpb (nI n) 16 = true := vpb_nI hn (by omega)
    simp only [open_eq n hn 4 sx (b0.trans h1.1), adds_eq n hn 4 k x dx (-1) (-1) sm h1.1, clk_some, if_neg (nI_nm1 (show n < 2 ^ 31 by omega)), sAk, if_pos hv, nI_clamp (show n < 2 ^ 31 by omega), t0, x_changed]
    refine ⟨_, _, _, rfl, rfl, ?_⟩
    have hF := fr_opX (3 * n + 0) x dx (fr_xA 5 (upd (gA (opnX n 4 sx) 1 5) n k) (fr_opnX n 4 (fr_addM n 4 k x dx (-1) (-1) (⟨h4, h5, h6, h7⟩ : Fr sx sm))))
    refine rel_changed' (n + 1) t ?_ ?_ ?_ hF
    · simp only [ox_0, ox_1, ox_2, ox_3, ox_4, ox_5, ox_6, ox_7, ox_8, ox_9, ox_10, om_0, om_1, om_2, om_3, om_4, om_5, om_6, om_7, om_8, om_9, om_10, om_11, om_12, om_13, om_14, om_15, opx_6, opx_7, opx_I, opx_L, opm_5, opm_6, opm_I, opm_L, opxA_1, opxA_2, opxA_3, opxA_4, opxA_5, opxA_10, opmA_0, opmA_1, opmA_2, opmA_3, opmA_4, opmA_10, opmA_11, opmA_12, opmA_13, opmA_14, gI_pA, gI_pL, gA_pL, gL_pA, q18_8, q18_9, q08_8, q08_7, q15_5, q15_1, q15_2, q15_3, q15_4, q15_6, q15_7, q15_10, Nat.add_zero, upd_tw]
      exact wbo_add h1 hn (srt := 4) (sl := k) (x := x) (dx := dx) (y := -1) (dy := -1) (z := -1) (dz := -1) (inR_lit _ _ rfl) ⟨by omega, c1.2⟩ (fun _ => c1) (may_op h1.1 h1.2.1 c2 c4) (no_op n) (no_op n) (fun _ => c4.1) (fun q => absurd q (by decide)) (fun q => absurd q (by decide))
    · simp only [ox_0, ox_1, ox_2, ox_3, ox_4, ox_5, ox_6, ox_7, ox_8, ox_9, ox_10, om_0, om_1, om_2, om_3, om_4, om_5, om_6, om_7, om_8, om_9, om_10, om_11, om_12, om_13, om_14, om_15, opx_6, opx_7, opx_I, opx_L, opm_5, opm_6, opm_I, opm_L, opxA_1, opxA_2, opxA_3, opxA_4, opxA_5, opxA_10, opmA_0, opmA_1, opmA_2, opmA_3, opmA_4, opmA_10, opmA_11, opmA_12, opmA_13, opmA_14, gI_pA, gI_pL, gA_pL, gL_pA, q18_8, q18_9, q08_8, q08_7, q15_5, q15_1, q15_2, q15_3, q15_4, q15_6, q15_7, q15_10, Nat.add_zero, upd_tw]
      exact wto_up h2
    · unfold RBo
      simp only [ox_0, ox_1, ox_2, ox_3, ox_4, ox_5, ox_6, ox_7, ox_8, ox_9, ox_10, om_0, om_1, om_2, om_3, om_4, om_5, om_6, om_7, om_8, om_9, om_10, om_11, om_12, om_13, om_14, om_15, opx_6, opx_7, opx_I, opx_L, opm_5, opm_6, opm_I, opm_L, opxA_1, opxA_2, opxA_3, opxA_4, opxA_5, opxA_10, opmA_0, opmA_1, opmA_2, opmA_3, opmA_4, opmA_10, opmA_11, opmA_12, opmA_13, opmA_14, gI_pA, gI_pL, gA_pL, gL_pA, q18_8, q18_9, q08_8, q08_7, q15_5, q15_1, q15_2, q15_3, q15_4, q15_6, q15_7, q15_10, Nat.add_zero, upd_tw, up_a, up_b, b1, b2, b3, b4, b5, b6, b7, b8, b9, b10, and_self]
  · subst hn
    simp only [open_full sx 4 (b0.trans h1.1), adds_full sm 4 k x dx (-1) (-1) h1.1, clk_some, if_pos (show (-1 : Int32) = -1 from rfl), e1]
    exact ⟨_, _, _, rfl, rfl, rel_ref _ h⟩
theorem s_store (k x dx y dy : Int32) {sx sm : Sg} (h : Rel sx sm) : Sim (m_X11_store k x dx y dy sx) (m_X12_store k x dx y dy sm) := by
  obtain ⟨n, t, h1, h2, h3, h4, h5, h6, h7, h8, h9, h10⟩ := id h
  have e1 := x_refuse (r := -10) (inR_lit _ _ rfl) sx
  have e2 := x_refuse (r := -9) (inR_lit _ _ rfl) sx
  have e3 := m_no_eq (r := -9) (inR_lit _ _ rfl) sm
  have e4 := x_refuse (r := -3) (inR_lit _ _ rfl) sx
  have e5 := m_no_eq (r := -3) (inR_lit _ _ rfl) sm
  obtain ⟨b0, b1, b2, b3, b4, b5, b6, b7, b8, b9, b10⟩ := id h3
  simp only [m_X11_store, m_X12_store, isBack_eq, areTurns_eq, isSlotX_eq, isIn_eq, clk_some, ite10, tl_0, tl_7, e2, e3, e4, e5]
  by_cases c2 : 0 ≤ dx.toInt ∧ dx.toInt ≤ 4
  case neg => rw [if_neg c2, if_neg c2]; exact ⟨_, _, _, rfl, rfl, rel_ref _ h⟩
  rw [if_pos c2, if_pos c2]
  by_cases c3 : 0 ≤ dy.toInt ∧ dy.toInt ≤ 4
  case neg => rw [if_neg c3, if_neg c3]; exact ⟨_, _, _, rfl, rfl, rel_ref _ h⟩
  rw [if_pos c3, if_pos c3]
  by_cases c1 : 0 ≤ k.toInt ∧ k.toInt ≤ 7
  case neg => rw [if_neg c1, if_neg c1]; exact ⟨_, _, _, rfl, rfl, rel_ref _ h⟩
  rw [if_pos c1, if_pos c1]
  by_cases c4 : mayT (gI sm 0 9) x dx
  case neg =>
    simp only [mayTake_no x dx c2.1 sx (by rw [b0]; exact c4), isBeyond_no x dx sm c4, clk_some, if_pos (show (0 : Int32) = 0 from rfl), if_neg (show ¬ (1 : Int32) = 0 by decide), e4, e5]
    exact ⟨_, _, _, rfl, rfl, rel_ref _ h⟩
  by_cases c5 : mayT (gI sm 0 9) y dy
  case neg =>
    simp only [mayTake_eq x dx c2.1 sx (by rw [b0]; exact c4), isBeyond_eq x dx sm c4, mayTake_no y dy c3.1 sx (by rw [b0]; exact c5), isBeyond_no y dy sm c5, clk_some, if_pos (show (0 : Int32) = 0 from rfl), if_neg (show ¬ (1 : Int32) = 0 by decide), e4, e5]
    exact ⟨_, _, _, rfl, rfl, rel_ref _ h⟩
  simp only [mayTake_eq x dx c2.1 sx (by rw [b0]; exact c4), isBeyond_eq x dx sm c4, mayTake_eq y dy c3.1 sx (by rw [b0]; exact c5), isBeyond_eq y dy sm c5, clk_some, if_pos (show (0 : Int32) = 0 from rfl), if_neg (show ¬ (1 : Int32) = 0 by decide), nmk]
  rcases n_16 h1.2.1 with hn | hn
  · have t0 := take_eq n 0 hn (by omega) x dx
    have t1 := take_eq n 1 hn (by omega) y dy
    rw [show nI 0 = 0 from rfl] at t0
    rw [show nI 1 = 1 from rfl] at t1
    have hv : vpb (nI n) 16 = true := vpb_nI hn (by omega)
    simp only [open_eq n hn 5 sx (b0.trans h1.1), adds_eq n hn 5 k x dx y dy sm h1.1, clk_some, if_neg (nI_nm1 (show n < 2 ^ 31 by omega)), sAk, if_pos hv, nI_clamp (show n < 2 ^ 31 by omega), t0, t1, x_changed]
    refine ⟨_, _, _, rfl, rfl, ?_⟩
    have hF := fr_opX (3 * n + 1) y dy (fr_opX (3 * n + 0) x dx (fr_xA 5 (upd (gA (opnX n 5 sx) 1 5) n k) (fr_opnX n 5 (fr_addM n 5 k x dx y dy (⟨h4, h5, h6, h7⟩ : Fr sx sm)))))
    refine rel_changed' (n + 1) t ?_ ?_ ?_ hF
    · simp only [ox_0, ox_1, ox_2, ox_3, ox_4, ox_5, ox_6, ox_7, ox_8, ox_9, ox_10, om_0, om_1, om_2, om_3, om_4, om_5, om_6, om_7, om_8, om_9, om_10, om_11, om_12, om_13, om_14, om_15, opx_6, opx_7, opx_I, opx_L, opm_5, opm_6, opm_I, opm_L, opxA_1, opxA_2, opxA_3, opxA_4, opxA_5, opxA_10, opmA_0, opmA_1, opmA_2, opmA_3, opmA_4, opmA_10, opmA_11, opmA_12, opmA_13, opmA_14, gI_pA, gI_pL, gA_pL, gL_pA, q18_8, q18_9, q08_8, q08_7, q15_5, q15_1, q15_2, q15_3, q15_4, q15_6, q15_7, q15_10, Nat.add_zero, upd_tw]
      exact wbo_add h1 hn (srt := 5) (sl := k) (x := x) (dx := dx) (y := y) (dy := dy) (z := -1) (dz := -1) (inR_lit _ _ rfl) ⟨by omega, c1.2⟩ (fun _ => c1) (may_op h1.1 h1.2.1 c2 c4) (may_op h1.1 h1.2.1 c3 c5) (no_op n) (fun _ => c4.1) (fun _ => c5.1) (fun q => absurd q (by decide))
    · simp only [ox_0, ox_1, ox_2, ox_3, ox_4, ox_5, ox_6, ox_7, ox_8, ox_9, ox_10, om_0, om_1, om_2, om_3, om_4, om_5, om_6, om_7, om_8, om_9, om_10, om_11, om_12, om_13, om_14, om_15, opx_6, opx_7, opx_I, opx_L, opm_5, opm_6, opm_I, opm_L, opxA_1, opxA_2, opxA_3, opxA_4, opxA_5, opxA_10, opmA_0, opmA_1, opmA_2, opmA_3, opmA_4, opmA_10, opmA_11, opmA_12, opmA_13, opmA_14, gI_pA, gI_pL, gA_pL, gL_pA, q18_8, q18_9, q08_8, q08_7, q15_5, q15_1, q15_2, q15_3, q15_4, q15_6, q15_7, q15_10, Nat.add_zero, upd_tw]
      exact wto_up h2
    · unfold RBo
      simp only [ox_0, ox_1, ox_2, ox_3, ox_4, ox_5, ox_6, ox_7, ox_8, ox_9, ox_10, om_0, om_1, om_2, om_3, om_4, om_5, om_6, om_7, om_8, om_9, om_10, om_11, om_12, om_13, om_14, om_15, opx_6, opx_7, opx_I, opx_L, opm_5, opm_6, opm_I, opm_L, opxA_1, opxA_2, opxA_3, opxA_4, opxA_5, opxA_10, opmA_0, opmA_1, opmA_2, opmA_3, opmA_4, opmA_10, opmA_11, opmA_12, opmA_13, opmA_14, gI_pA, gI_pL, gA_pL, gL_pA, q18_8, q18_9, q08_8, q08_7, q15_5, q15_1, q15_2, q15_3, q15_4, q15_6, q15_7, q15_10, Nat.add_zero, upd_tw, up_a, up_b, b1, b2, b3, b4, b5, b6, b7, b8, b9, b10, and_self]
  · subst hn
    simp only [open_full sx 5 (b0.trans h1.1), adds_full sm 5 k x dx y dy h1.1, clk_some, if_pos (show (-1 : Int32) = -1 from rfl), e1]
    exact ⟨_, _, _, rfl, rfl, rel_ref _ h⟩
theorem s_pick (x y z dz : Int32) {sx sm : Sg} (h : Rel sx sm) : Sim (m_X11_pick x y z dz sx) (m_X12_pick x y z dz sm) := by
  obtain ⟨n, t, h1, h2, h3, h4, h5, h6, h7, h8, h9, h10⟩ := id h
  have e1 := x_refuse (r := -10) (inR_lit _ _ rfl) sx
  have e2 := x_refuse (r := -9) (inR_lit _ _ rfl) sx
  have e3 := m_no_eq (r := -9) (inR_lit _ _ rfl) sm
  have e4 := x_refuse (r := -3) (inR_lit _ _ rfl) sx
  have e5 := m_no_eq (r := -3) (inR_lit _ _ rfl) sm
  obtain ⟨b0, b1, b2, b3, b4, b5, b6, b7, b8, b9, b10⟩ := id h3
  have c0 : 0 ≤ (0 : Int32).toInt ∧ (0 : Int32).toInt ≤ 4 := by decide
  simp only [m_X11_pick, m_X12_pick, isBack_eq, areTurns_eq, clk_some, ite10, e2, e3]
  by_cases c2 : 0 ≤ dz.toInt ∧ dz.toInt ≤ 4
  case neg => rw [if_neg c2, if_neg c2]; exact ⟨_, _, _, rfl, rfl, rel_ref _ h⟩
  rw [if_pos c2, if_pos c2]
  by_cases c3 : mayT (gI sm 0 9) x 0
  case neg =>
    simp only [mayTake_no x 0 c0.1 sx (by rw [b0]; exact c3), isBeyond_no x 0 sm c3, clk_some, if_pos (show (0 : Int32) = 0 from rfl), if_neg (show ¬ (1 : Int32) = 0 by decide), e4, e5]
    exact ⟨_, _, _, rfl, rfl, rel_ref _ h⟩
  by_cases c4 : mayT (gI sm 0 9) y 0
  case neg =>
    simp only [mayTake_eq x 0 c0.1 sx (by rw [b0]; exact c3), isBeyond_eq x 0 sm c3, mayTake_no y 0 c0.1 sx (by rw [b0]; exact c4), isBeyond_no y 0 sm c4, clk_some, if_pos (show (0 : Int32) = 0 from rfl), if_neg (show ¬ (1 : Int32) = 0 by decide), e4, e5]
    exact ⟨_, _, _, rfl, rfl, rel_ref _ h⟩
  by_cases c5 : mayT (gI sm 0 9) z dz
  case neg =>
    simp only [mayTake_eq x 0 c0.1 sx (by rw [b0]; exact c3), isBeyond_eq x 0 sm c3, mayTake_eq y 0 c0.1 sx (by rw [b0]; exact c4), isBeyond_eq y 0 sm c4, mayTake_no z dz c2.1 sx (by rw [b0]; exact c5), isBeyond_no z dz sm c5, clk_some, if_pos (show (0 : Int32) = 0 from rfl), if_neg (show ¬ (1 : Int32) = 0 by decide), e4, e5]
    exact ⟨_, _, _, rfl, rfl, rel_ref _ h⟩
  simp only [mayTake_eq x 0 c0.1 sx (by rw [b0]; exact c3), isBeyond_eq x 0 sm c3, mayTake_eq y 0 c0.1 sx (by rw [b0]; exact c4), isBeyond_eq y 0 sm c4, mayTake_eq z dz c2.1 sx (by rw [b0]; exact c5), isBeyond_eq z dz sm c5, clk_some, if_pos (show (0 : Int32) = 0 from rfl), if_neg (show ¬ (1 : Int32) = 0 by decide), nmk]
  rcases n_16 h1.2.1 with hn | hn
  · have t0 := take_eq n 0 hn (by omega) x 0
    have t1 := take_eq n 1 hn (by omega) y 0
    have t2 := take_eq n 2 hn (by omega) z dz
    have t3 := operand_eq n 2 hn (by omega) z dz
    rw [show nI 0 = 0 from rfl] at t0
    rw [show nI 1 = 1 from rfl] at t1
    rw [show nI 2 = 2 from rfl] at t2 t3
    simp only [open_eq n hn 6 sx (b0.trans h1.1), adds_eq n hn 6 (-1) x 0 y 0 sm h1.1, clk_some, if_neg (nI_nm1 (show n < 2 ^ 31 by omega)), if_neg (nI_nneg (show n < 2 ^ 31 by omega)), t0, t1, t2, t3, x_changed]
    refine ⟨_, _, _, rfl, rfl, ?_⟩
    rw [opM_chM]
    have hF := fr_opX (3 * n + 2) z dz (fr_opX (3 * n + 1) y 0 (fr_opX (3 * n + 0) x 0 (fr_opnX n 6 (fr_opM (3 * n + 2) z dz (fr_addM n 6 (-1) x 0 y 0 (⟨h4, h5, h6, h7⟩ : Fr sx sm))))))
    refine rel_changed' (n + 1) t ?_ ?_ ?_ hF
    · simp only [ox_0, ox_1, ox_2, ox_3, ox_4, ox_5, ox_6, ox_7, ox_8, ox_9, ox_10, om_0, om_1, om_2, om_3, om_4, om_5, om_6, om_7, om_8, om_9, om_10, om_11, om_12, om_13, om_14, om_15, opx_6, opx_7, opx_I, opx_L, opm_5, opm_6, opm_I, opm_L, opxA_1, opxA_2, opxA_3, opxA_4, opxA_5, opxA_10, opmA_0, opmA_1, opmA_2, opmA_3, opmA_4, opmA_10, opmA_11, opmA_12, opmA_13, opmA_14, gI_pA, gI_pL, gA_pL, gL_pA, q18_8, q18_9, q08_8, q08_7, q15_5, q15_1, q15_2, q15_3, q15_4, q15_6, q15_7, q15_10, Nat.add_zero, upd_tw]
      exact wbo_add h1 hn (srt := 6) (sl := -1) (x := x) (dx := 0) (y := y) (dy := 0) (z := z) (dz := dz) (inR_lit _ _ rfl) (inR_lit _ _ rfl) (fun q => absurd q (by decide)) (may_op h1.1 h1.2.1 c0 c3) (may_op h1.1 h1.2.1 c0 c4) (may_op h1.1 h1.2.1 c2 c5) (fun _ => c3.1) (fun _ => c4.1) (fun _ => c5.1)
    · simp only [ox_0, ox_1, ox_2, ox_3, ox_4, ox_5, ox_6, ox_7, ox_8, ox_9, ox_10, om_0, om_1, om_2, om_3, om_4, om_5, om_6, om_7, om_8, om_9, om_10, om_11, om_12, om_13, om_14, om_15, opx_6, opx_7, opx_I, opx_L, opm_5, opm_6, opm_I, opm_L, opxA_1, opxA_2, opxA_3, opxA_4, opxA_5, opxA_10, opmA_0, opmA_1, opmA_2, opmA_3, opmA_4, opmA_10, opmA_11, opmA_12, opmA_13, opmA_14, gI_pA, gI_pL, gA_pL, gL_pA, q18_8, q18_9, q08_8, q08_7, q15_5, q15_1, q15_2, q15_3, q15_4, q15_6, q15_7, q15_10, Nat.add_zero, upd_tw]
      exact wto_up h2
    · unfold RBo
      simp only [ox_0, ox_1, ox_2, ox_3, ox_4, ox_5, ox_6, ox_7, ox_8, ox_9, ox_10, om_0, om_1, om_2, om_3, om_4, om_5, om_6, om_7, om_8, om_9, om_10, om_11, om_12, om_13, om_14, om_15, opx_6, opx_7, opx_I, opx_L, opm_5, opm_6, opm_I, opm_L, opxA_1, opxA_2, opxA_3, opxA_4, opxA_5, opxA_10, opmA_0, opmA_1, opmA_2, opmA_3, opmA_4, opmA_10, opmA_11, opmA_12, opmA_13, opmA_14, gI_pA, gI_pL, gA_pL, gL_pA, q18_8, q18_9, q08_8, q08_7, q15_5, q15_1, q15_2, q15_3, q15_4, q15_6, q15_7, q15_10, Nat.add_zero, upd_tw, up_a, up_b, b1, b2, b3, b4, b5, b6, b7, b8, b9, b10, and_self]
  · subst hn
    simp only [open_full sx 6 (b0.trans h1.1), adds_full sm 6 (-1) x 0 y 0 h1.1, clk_some, if_pos (show (-1 : Int32) = -1 from rfl), if_pos (show (-10 : Int32) < 0 by decide), e1]
    exact ⟨_, _, _, rfl, rfl, rel_ref _ h⟩
