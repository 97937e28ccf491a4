-- 77.lowest2: the call lowest
theorem lowB_eq {sx sm : Sg} {n t : Nat} (h1 : WBo (gI sm 0 9) (gA sm 0 0) (gA sm 0 1) (gA sm 0 2) (gA sm 0 3) (gA sm 0 4) (gA sm 0 5) (gA sm 0 6) (gA sm 0 10) n) (h2 : WTo (gI sm 0 15) (gA sm 0 11) (gA sm 0 12) (gA sm 0 13) (gA sm 0 14) n t) (h3 : RBo sx sm) (h4 : RTo sx sm) (h9 : RWe sx n t) (hr : 0 < n ∧ WhP n (gA sm 0 5)) : ∃ vx vm sy tm, m_X11_lowestBeat sx = some (vx, sy) ∧ m_X12_lowestBeat sm = some (vm, tm) ∧ FrX sx sy ∧ FrG sm tm ∧ gI sy 7 10 = gI sx 7 10 ∧ gI tm 0 32 = gI sm 0 32 ∧ LR (gI tm 0 20) (gA tm 0 16) (gA tm 0 17) (gA tm 0 18) (gA tm 0 19) (allM sm n t) ∧ RWe sy n t ∧ ((vx = -9 ∧ 60 < vm.toInt) ∨ ∃ c, 1 ≤ c ∧ c ≤ 60 ∧ vx = nI c ∧ vm = nI c ∧ NR (allM sm n t) c ∧ gI sy 3 2 = 0 ∧ WvOk sy n t) := by
  have hn := h1.2.1
  have ex := h3.1.trans h1.1
  have hr' : 0 < n ∧ WhP n (gA sx 1 6) := by rw [h3.2.2.2.2.2.2.1]; exact hr
  obtain ⟨sg, g1, g2⟩ := gather_eq h1.1 hn h2.1 h2.2.1
  have fG := frG_em g2
  have hokM := all_ok h1 h2
  obtain ⟨u, v, u1, u2, u3, u4⟩ := byUnits_eq h1 h3
  obtain ⟨u', v', u1', u2', -⟩ := byUnits_eq (sx := sx) (wb_em fG h1) (rb_em (FrX.refl sx) fG h3)
  have hlM := g2.2.2.2
  have eg9 : gI sg 0 9 = nI n := (g2.1 9 (by omega)).trans h1.1
  -- the two units: the same number over the gathered state
  have ev : v' = v := by
    obtain ⟨a1, a2, a3⟩ := fG
    have e1 : m_X12_byUnits sg = some (v', sg) := u2'
    have hM : ∀ s w, m_X12_byUnits s = some (w, s) → gI s 0 9 = nI n → gA s 0 2 = gA sm 0 2 → gA s 0 3 = gA sm 0 3 → gA s 0 10 = gA sm 0 10 → w = foN (fun i v => uM (gA sm 0 10 i) (nbF n (gA sm 0 2) (gA sm 0 3) (nI i)) v) 6 1 := by
      intro s w hw e9 e2 e3 e10
      have hF := byUnitsM_eq (sm := s) e9 hn
      rw [hF, e2, e3, e10] at hw
      injection hw with hw
      injection hw with hw
      exact hw.symm
    rw [hM sm v u2 h1.1 rfl rfl rfl, hM sg v' u2' eg9 (a2 2 (by omega)) (a2 3 (by omega)) (a2 10 (by omega))]
  subst ev
  obtain ⟨sy, r1, r2, r3, r4⟩ := renew_eq ex hn (h4.1.trans h2.1) h2.2.1 h9
  have fY := frX_w r2
  obtain ⟨lx, hl, hp⟩ := wv_all fY h3 h4 r4
  have hokX : ∀ e ∈ lx, okEd n e := fun e he => hokM e (hp.mem_iff.mp he)
  have hlx : lx.length ≤ 720 := by rw [hp.length_eq]; have := allM_len (sm := sm) hn h2.2.1; omega
  have ey : gI sy 1 0 = nI n := (r2.1 1 0 (by omega) (by omega)).trans ex
  have hdi : ∀ b, b ≤ 60 → NR (allM sm n t) b → ∃ P, LeastG n ((allM sm n t).map (geI b)) P := by
    rintro b hb ⟨q, hq⟩
    obtain ⟨f0, f, k⟩ := ring_eq ey hn hb hl hlx hokX
    rcases k with ⟨-, k2⟩ | ⟨-, k2⟩
    · exact ⟨_, least_perm (hp.map _) k2⟩
    · exact absurd (sol_perm (hp.map _).symm hq) (k2 q)
  obtain ⟨r, f, k1, k2⟩ := byRings_eq eg9 hn hlM (allM_len hn h2.2.1) hokM hdi
  have eM : m_X12_lowestBeat sm = some (if v' ≤ r then r else v', pA sg 0 33 f) := by
    simp only [m_X12_lowestBeat, g1, clk_some, u2', nmk, k1]
    by_cases c : v' ≤ r
    · rw [if_pos c, if_pos c]
    · rw [if_neg c, if_neg c]
  have fM : FrG sm (pA sg 0 33 f) := fG.trans (frG_33 sg f)
  have e32 : gI (pA sg 0 33 f) 0 32 = gI sm 0 32 := g2.1 32 (by omega)
  have big : ∀ x y : Int32, 60 < x.toInt ∨ 60 < y.toInt → 60 < (if x ≤ y then y else x).toInt := by
    intro x y h
    by_cases c : x ≤ y
    · rw [if_pos c]; rw [fx_le] at c; omega
    · rw [if_neg c]; rw [fx_le] at c; omega
  by_cases c60 : u ≤ 60
  case neg =>
    have hu : 60 < u.toInt := by rw [fx_le] at c60; have : (60 : Int32).toInt = 60 := rfl; omega
    refine ⟨-9, _, sx, _, ?_, eM, FrX.refl sx, fM, rfl, e32, hlM, h9, Or.inl ⟨rfl, big _ _ (Or.inl ?_)⟩⟩
    · simp only [m_X11_lowestBeat, (readyX ex hn).1 hr', clk_some, if_neg (show ¬ (1 : Int32) = 0 by decide), u1, nmk, if_neg c60]
    · rcases u4 with q | q
      · rw [← q]; exact hu
      · exact q.2
  have hu60 : u.toInt ≤ 60 := by rw [fx_le] at c60; exact c60
  have euv : v' = u := by
    rcases u4 with q | q
    · exact q.symm
    · omega
  subst euv
  have eu := fx_nI (x := v') (by omega)
  have cu := fx_cl (i := v') (by omega)
  obtain ⟨U, hU⟩ : ∃ U, U = v'.toNatClampNeg := ⟨_, rfl⟩
  rw [← hU] at eu cu
  obtain ⟨f0, f1, k⟩ := ring_eq (b := 60) ey hn (by omega) hl hlx hokX
  have fZ : FrX sx (pA (pA sy 6 0 f0) 6 1 f1) := fY.trans ((frX_6 _ _ _).trans (frX_6 _ _ _))
  rcases k with ⟨q1, q2⟩ | ⟨q1, q2⟩
  · have n60 : NR lx 60 := ⟨_, q2.2.1⟩
    obtain ⟨c, f0', f1', z1, z2, z3, z4, z5⟩ := halve_eq ey hn hl hlx hokX (u := U) (by omega) (by omega) n60 f0 f1
    have hX : m_X11_lowestBeat sx = some (nI c, pA (pA sy 6 0 f0') 6 1 f1') := by
      have q1' : m_X11_hasRingAt 60 sy = some (0, pA (pA sy 6 0 f0) 6 1 f1) := q1
      simp only [m_X11_lowestBeat, (readyX ex hn).1 hr', clk_some, if_neg (show ¬ (1 : Int32) = 0 by decide), u1, nmk, if_pos c60, r1, q1', if_true, lpk]
      rw [eu, show (((nI U : Int32), (60 : Int32), (0 : Int32), pA (pA sy 6 0 f0) 6 1 f1) : Int32 × Int32 × Int32 × Sg) = (nI U, nI 60, nI 0, pA (pA sy 6 0 f0) 6 1 f1) from rfl, z1]
    have nc := nr_perm hp z4
    refine ⟨_, _, _, _, hX, eM, fY.trans ((frX_6 _ _ _).trans (frX_6 _ _ _)), fM, r2.1 7 10 (by omega) (by omega), e32, hlM, Or.inr ⟨r3, r4⟩, Or.inr ⟨c, by omega, z3, rfl, ?_, nc, r3, r4⟩⟩
    have sup : ∀ b b', b ≤ b' → NR (allM sm n t) b → NR (allM sm n t) b' := fun b b' hb h => by
      obtain ⟨q, hq⟩ := h
      exact ⟨q, sol_up hokM hb hq⟩
    rcases k2 with ⟨d, d1, d2, d3, d4, d5⟩ | ⟨d1, d2⟩
    · subst d3
      rw [eu]
      by_cases e : U ≤ d
      · rw [if_pos (show nI U ≤ nI d by rw [fx_le, nI_toInt (by omega), nI_toInt (by omega)]; omega)]
        refine congrArg nI (Nat.le_antisymm ?_ ?_)
        · exact Nat.le_of_not_lt fun g => d5 c (by omega) g nc
        · exact Nat.le_of_not_lt fun g => z5 d e g (nr_perm hp.symm d4)
      · rw [if_neg (show ¬ nI U ≤ nI d by rw [fx_le, nI_toInt (by omega), nI_toInt (by omega)]; omega)]
        refine congrArg nI (Nat.le_antisymm z2 ?_)
        exact Nat.le_of_not_lt fun g => z5 U (Nat.le_refl U) g (nr_perm hp.symm (sup d U (by omega) d4))
    · exact absurd nc (d2 c (by omega) z3)
  · have hX : m_X11_lowestBeat sx = some (-9, pA (pA sy 6 0 f0) 6 1 f1) := by
      have q1' : m_X11_hasRingAt 60 sy = some (1, pA (pA sy 6 0 f0) 6 1 f1) := q1
      simp only [m_X11_lowestBeat, (readyX ex hn).1 hr', clk_some, if_neg (show ¬ (1 : Int32) = 0 by decide), u1, nmk, if_pos c60, r1, q1']
    refine ⟨_, _, _, _, hX, eM, fZ, fM, r2.1 7 10 (by omega) (by omega), e32, hlM, Or.inr ⟨r3, r4⟩, Or.inl ⟨rfl, big _ _ (Or.inr ?_)⟩⟩
    rcases k2 with ⟨d, d1, d2, d3, ⟨q, d4⟩, d5⟩ | ⟨d1, d2⟩
    · exact absurd (sol_perm (hp.map _).symm (sol_up hokM d2 d4)) (q2 q)
    · rw [d1]; decide
theorem s_lowest {sx sm : Sg} (h : Rel sx sm) : Sim (m_X11_lowest sx) (m_X12_lowest sm) := by
  obtain ⟨n, t, h1, h2, h3, h4, h5, h6, h7, h8, h9, h10⟩ := id h
  have hn := h1.2.1
  have ex := h3.1.trans h1.1
  have e6 := h3.2.2.2.2.2.2.1
  by_cases hr : 0 < n ∧ WhP n (gA sm 0 5)
  · obtain ⟨vx, vm, sy, tm, k1, k2, fX, fM, k3, k4, k5, k6, k7⟩ := lowB_eq h1 h2 h3 h4 h9 hr
    have hR : Rel sy tm := rel_fr h1 h2 h3 h4 h5 h6 (k3.trans (h7.1.trans k4.symm)) h7.2 h8 h10 fX fM k6
    rcases k7 with ⟨q1, q2⟩ | ⟨c, c1, c2, c3, c4, -⟩
    · subst q1
      refine ⟨-9, _, _, ?_, ?_, rel_ref (-9) hR⟩
      · simp only [m_X11_lowest, k1, clk_some, nmk, if_neg (show ¬ (0 : Int32) ≤ -9 by decide), x_refuse (r := -9) (inR_lit _ _ rfl)]
      · have c : ¬ vm ≤ 60 := by rw [fx_le]; have : (60 : Int32).toInt = 60 := rfl; omega
        simp only [m_X12_lowest, (readyM h1.1 hn).1 hr, clk_some, if_neg (show ¬ (1 : Int32) = 0 by decide), k2, nmk, if_neg c, m_no_eq (r := -9) (inR_lit _ _ rfl)]
    · subst c3 c4
      refine ⟨nI c, sy, tm, ?_, ?_, hR⟩
      · simp only [m_X11_lowest, k1, clk_some, nmk, if_pos (show (0 : Int32) ≤ nI c by rw [fx_le, ti_0, nI_toInt (by omega)]; omega)]
      · have e : nI c ≤ 60 := by rw [fx_le, nI_toInt (by omega)]; have : (60 : Int32).toInt = 60 := rfl; omega
        simp only [m_X12_lowest, (readyM h1.1 hn).1 hr, clk_some, if_neg (show ¬ (1 : Int32) = 0 by decide), k2, nmk, if_pos e]
  · have hr' : ¬ (0 < n ∧ WhP n (gA sx 1 6)) := by rw [e6]; exact hr
    refine ⟨-2, _, _, ?_, ?_, rel_ref (-2) h⟩
    · simp only [m_X11_lowest, m_X11_lowestBeat, (readyX ex hn).2 hr', clk_some, if_true, nmk, if_neg (show ¬ (0 : Int32) ≤ -2 by decide), x_refuse (r := -2) (inR_lit _ _ rfl)]
    · simp only [m_X12_lowest, (readyM h1.1 hn).2 hr, clk_some, if_true, m_no_eq (r := -2) (inR_lit _ _ rfl)]
