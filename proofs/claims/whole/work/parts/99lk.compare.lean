-- 99lk.compare: the call compare
theorem xc_of {sx sm : Sg} {n : Nat} (h : RunC sx sm n) : XC sx n := by
  obtain ⟨⟨⟨e1, e5, e6, e7, e8, e50, e51⟩, hA, hsz⟩, hx1, -, -, hn, hn0, hops⟩ := h
  refine ⟨hx1, hn, hn0, ?_, ?_, ?_⟩
  · rw [e1, e5, e6, e7]; exact hA
  · rw [e50]; exact hsz
  · rw [e6, e7]; exact hops
theorem xl_of {sx sm : Sg} {n t b : Nat} {T S : Nat → Nat} (hn : n ≤ 16) (e6 : gA sx 1 6 = gA sm 0 5) (e7 : gA sx 1 7 = gA sm 0 6) (h : LayC sx sm n b (fun a => b * S a + T a) T S) (hs : SolG ((allX sx n t).map (geI b)) (fun a => ((b * S a + T a : Nat) : Int))) : XL sx n b (fun a => b * S a + T a) T S := by
  obtain ⟨⟨b1, b2, b3, b4⟩, l1, l2⟩ := h
  refine ⟨⟨b1, b2, b3⟩, fun a ha => ?_, ?_, ?_, ?_⟩
  · obtain ⟨t1, t2, t3, t4, t5, t6⟩ := l1 a ha
    exact ⟨t1, t2, t3, t4, t6⟩
  · rw [e6, e7]; exact l2
  · intro a c u t' ha hc h5 h3 hbe
    exact ord_store (B := fun a => b * S a + T a) hn b1 hs ha hc h5 h3 hbe
  · intro a c u t' ha hc ra rc hsl h5 hbe
    exact ord_clash (B := fun a => b * S a + T a) hn b1 hs ha hc ra rc hsl h5 hbe
theorem agree_eq {sx : Sg} {n K b : Nat} {B T S : Nat → Nat} (hC : XC sx n) (hL : XL sx n b B T S) (hO : RowL (gA sx 9 10) (ordL b T n)) (h92 : gI sx 9 2 = nI (1 + mxN S n)) (hK : K ≤ 200) : ∃ sy, m_X7_bothAgree (nI K) sx = some (1, sy) ∧ (∀ j k, j ≠ 14 → j ≠ 15 → gI sy j k = gI sx j k) ∧ (∀ j k, gA sy j k = gA sx j k) ∧ gL sy 1 8 = gL sx 1 8 ∧ gL sy 1 9 = gL sx 1 9 ∧ gL sy 16 7 = gL sx 16 7 ∧ ∀ s i, s < 8 → i < 40 → gL sy 5 2 (40 * s + i) = gL sx 5 2 (40 * s + i) := by
  have hn := hC.2.1
  have hS960 := mxN_le (S := S) (M := 960) (n := n) (fun v hv => (hL.2.1 v hv).2.1)
  -- the rows are kept
  obtain ⟨s1, hs1⟩ : ∃ s, s = pL sx 13 6 (va_cpy (gL sx 5 2) (gL sx 13 6) 0 0 320) := ⟨_, rfl⟩
  have I1 : ∀ j k, gI s1 j k = gI sx j k := fun j k => by rw [hs1]; rfl
  have A1 : ∀ j k, gA s1 j k = gA sx j k := fun j k => by rw [hs1]; rfl
  have L1 : ∀ j k, j ≠ 13 → gL s1 j k = gL sx j k := fun j k hj => by rw [hs1, gL_pL, if_neg hj]
  have L136 : ∀ i, i < 320 → gL s1 13 6 i = gL sx 5 2 i := fun i hi => by
    rw [hs1, gL_pLs]
    exact cpy320 hi
  have hC1 : XC s1 n := xc_fr (I1 1 0) A1 hC
  -- the plain run
  obtain ⟨r, g1, g2, g3, g4, g5, g6, g7⟩ := go_st s1 14 (nI K) 0
  obtain ⟨sp, Rt, tc, ac, y1, y2⟩ := go_pl (by omega) hC1 hK g2 g3 g4 g5 g6 g7
  have hT1 := pf_tr y2
  have hF1 := pf_fin y2
  have hR0 : Rt 0 0 = gL s1 5 2 := y2.2.2.2.1
  obtain ⟨Ep, hEp⟩ : ∃ E, E = gL sp 13 3 := ⟨_, rfl⟩
  obtain ⟨kd, hkd⟩ : ∃ k, k = gI sp 14 0 := ⟨_, rfl⟩
  rw [← hEp, ← hkd] at hT1 hF1
  have hstop := tr_stop hT1
  obtain ⟨s2, z1, z2, z3, z4⟩ := go_fin (by omega) hC1 hK hT1 hF1
  have X14 : m_X7_go 14 (nI K) 0 s1 = some ((), s2) := by
    rw [g1, if_pos rfl, m_X7_go_66, y1, clk_some, z1]
  -- rows kept and put back
  obtain ⟨s3, hs3⟩ : ∃ s, s = pL s2 13 7 (va_cpy (gL s2 5 2) (gL s2 13 7) 0 0 320) := ⟨_, rfl⟩
  obtain ⟨s4, hs4⟩ : ∃ s, s = pL s3 5 2 (va_cpy (gL s3 13 6) (gL s3 5 2) 0 0 320) := ⟨_, rfl⟩
  have I4 : ∀ j k, gI s4 j k = gI s2 j k := fun j k => by rw [hs4, hs3]; rfl
  have A4 : ∀ j k, gA s4 j k = gA s2 j k := fun j k => by rw [hs4, hs3]; rfl
  have A4' : ∀ j k, gA s4 j k = gA s1 j k := fun j k => (A4 j k).trans (z2.2.1 j k)
  have L4 : ∀ j k, j ≠ 13 → j ≠ 5 → gL s4 j k = gL s2 j k := fun j k h13 h5 => by rw [hs4, gL_pL, if_neg h5, hs3, gL_pL, if_neg h13]
  have L4136 : gL s4 13 6 = gL s1 13 6 := by
    rw [hs4, gL_pL, if_neg (by omega), hs3, gL_pL, if_pos rfl, if_neg (by omega)]
    exact z2.2.2 13 6 (by omega) (by omega) (by omega)
  have L4137 : ∀ i, i < 320 → gL s4 13 7 i = gL s2 5 2 i := fun i hi => by
    rw [hs4, gL_pL, if_neg (by omega), hs3, gL_pLs]
    exact cpy320 hi
  have L452 : ∀ i, i < 320 → gL s4 5 2 i = gL sx 5 2 i := fun i hi => by
    have e3 : gL s3 13 6 = gL s1 13 6 := by
      rw [hs3, gL_pL, if_pos rfl, if_neg (by omega)]
      exact z2.2.2 13 6 (by omega) (by omega) (by omega)
    rw [hs4, gL_pLs, cpy320 hi, e3]
    exact L136 i hi
  have l18 : gL s4 1 8 = gL s1 1 8 := (L4 1 8 (by omega) (by omega)).trans (z2.2.2 1 8 (by omega) (by omega) (by omega))
  have l19 : gL s4 1 9 = gL s1 1 9 := (L4 1 9 (by omega) (by omega)).trans (z2.2.2 1 9 (by omega) (by omega) (by omega))
  have hC4 : XC s4 n := xc_fr ((I4 1 0).trans (z2.1 1 0 (by omega))) A4' hC1
  have hT4 : TrX s4 Ep Rt n K tc ac kd := tr_fr A4' l18 l19 hT1
  have hL4 : XL s4 n b B T S := xl_fr ((I4 9 1).trans ((z2.1 9 1 (by omega)).trans (I1 9 1))) (fun j k => (A4' j k).trans (A1 j k)) hL
  have hO4 : RowL (gA s4 9 10) (ordL b T n) := by rw [A4' 9 10, A1 9 10]; exact hO
  have h924 : gI s4 9 2 = nI (1 + mxN S n) := by rw [I4 9 2, z2.1 9 2 (by omega), I1 9 2]; exact h92
  have out14 : OutX 14 s4 Ep n tc ac kd := by
    unfold OutX at z4 ⊢
    rw [I4, I4, I4, I4, L4 14 7 (by omega) (by omega)]
    exact z4
  have rows0 : ∀ sl i, sl < 8 → i < 40 → gL s4 5 2 (40 * sl + i) = Rt 0 0 (40 * sl + i) := fun sl i hsl hi => by
    rw [L452 _ (by omega), hR0, L1 5 2 (by omega)]
  -- the laid run
  obtain ⟨r', q1, q2, q3, q4, q5, q6, q7⟩ := go_st s4 15 (nI K) 1
  have e92 : gI r' 9 2 = nI (1 + mxN S n) := (q2.1 9 2 (by omega)).trans h924
  have X15 : ∃ s5, m_X7_go 15 (nI K) 1 s4 = some ((), s5) ∧ FrR 15 s4 s5 ∧ (∀ sl i, sl < 8 → i < 40 → gL s5 5 2 (40 * sl + i) = Rt tc ac (40 * sl + i)) ∧ OutX 15 s5 Ep n tc ac kd := by
    rw [q1, if_neg (show ¬ (1 : Int32) = 0 by decide), gIk, e92]
    by_cases d : nI K < nI (1 + mxN S n)
    · rw [if_pos d]
      obtain ⟨sp', Ru, td, ad, w1, w2⟩ := go_pl (by omega) hC4 hK q2 q3 q4 q5 q6 q7
      have hU := pf_tr w2
      have hF := pf_fin w2
      obtain ⟨e1, e2, e3, e4, e5⟩ := tr_det hC4 hT4 hU (fun sl i hsl hi => by rw [← rows0 sl i hsl hi, w2.2.2.2.1])
      subst e1 e2
      rw [← e3] at hF
      have hF' : FinX 15 s4 sp' Ep Rt n K tc ac kd := by
        obtain ⟨f1, f2, f3, f4, f5, f6⟩ := hF
        exact ⟨f1, fun x u hx hu => (e5 x u hx (Or.inl hu)).symm, fun sl i hsl hi => (f3 sl i hsl hi).trans (e4 sl i hsl hi).symm, f4, f5, f6⟩
      obtain ⟨s5, x1, x2, x3, x4⟩ := go_fin (by omega) hC4 hK hT4 hF'
      refine ⟨s5, ?_, x2, x3, x4⟩
      rw [m_X7_go_66, w1, clk_some, x1]
    · rw [if_neg d]
      have hKs : 1 + mxN S n ≤ K := by
        rw [fx_lt, nI_toInt (by omega), nI_toInt (by omega)] at d
        omega
      obtain ⟨sl', w1, w2⟩ := xlaid hC4 hT4 hL4 hO4 hK h924 hKs q2 q3 (fun sl i hsl hi => by rw [q4]; exact rows0 sl i hsl hi) q5 q6 q7
      obtain ⟨s5, x1, x2, x3, x4⟩ := go_fin (by omega) hC4 hK hT4 w2
      refine ⟨s5, ?_, x2, x3, x4⟩
      rw [w1, clk_some, x1]
  obtain ⟨s5, X15, x2, x3, x4⟩ := X15
  have out14' : OutX 14 s5 Ep n tc ac kd := by
    unfold OutX at out14 ⊢
    rw [x2.1 14 0 (by omega), x2.1 14 1 (by omega), x2.1 14 2 (by omega), x2.1 14 6 (by omega), x2.2.2 14 7 (by omega) (by omega) (by omega)]
    exact out14
  have hlike := like_eq hn (show tc ≤ 200 by omega) out14' x4
  have hrows : m_X7_rowsAreAsOfPlain s5 = some (1, s5) := rowsAre_eq (fun i hi => by
    have e : i = 40 * (i / 40) + i % 40 := (Nat.div_add_mod i 40).symm
    rw [x2.2.2 13 7 (by omega) (by omega) (by omega), L4137 i hi, e, x3 (i / 40) (i % 40) (by omega) (by omega), z3 (i / 40) (i % 40) (by omega) (by omega)])
  have ex1 : gI s5 1 0 = nI n := by rw [x2.1 1 0 (by omega)]; exact hC4.1
  refine ⟨pL s5 5 2 (va_cpy (gL s5 13 6) (gL s5 5 2) 0 0 320), ?_, fun j k h14 h15 => ?_, fun j k => ?_, ?_, ?_, ?_, fun s i hs hi => ?_⟩
  · rw [m_X7_bothAgree, cp320, ← hs1, X14, clk_some, cp320, ← hs3, cp320, ← hs4, X15, clk_some, gIk, ex1, hlike, clk_some, if_neg (show ¬ (1 : Int32) = 0 by decide), hrows, clk_some, if_neg (show ¬ (1 : Int32) = 0 by decide), m_X7_bothAgree_116, nmk, cp320, bok, if_neg (show ¬ (1 : Int32) = 0 by decide), if_pos rfl]
  · show gI s5 j k = _
    rw [x2.1 j k h15, I4, z2.1 j k h14, I1]
  · show gA s5 j k = _
    rw [x2.2.1 j k, A4', A1]
  · show gL s5 1 8 = _
    rw [x2.2.2 1 8 (by omega) (by omega) (by omega), l18, L1 1 8 (by omega)]
  · show gL s5 1 9 = _
    rw [x2.2.2 1 9 (by omega) (by omega) (by omega), l19, L1 1 9 (by omega)]
  · show gL s5 16 7 = _
    rw [x2.2.2 16 7 (by omega) (by omega) (by omega), L4 16 7 (by omega) (by omega), z2.2.2 16 7 (by omega) (by omega) (by omega), L1 16 7 (by omega)]
  · rw [gL_pLs, cpy320 (by omega), x2.2.2 13 6 (by omega) (by omega) (by omega), L4136]
    exact L136 _ (by omega)
theorem s_compare (K : Int32) {sx sm : Sg} (h : Rel sx sm) : Sim (m_X11_compare K sx) (m_X12_compare K sm) := by
  obtain ⟨n, t, h1, h2, h3, h4, h5, h6, h7, h8, h9, h10⟩ := id h
  have hn := h1.2.1
  have n10 : ¬ (1 : Int32) = 0 := by decide
  obtain ⟨r, w1, w2, w3⟩ := why_run hn (h3.1.trans h1.1) h1.1 h3.2.2.2.2.2.2.1 h10 K 1
  rw [m_X11_compare, w1, clk_some, nmk, m_X12_compare, w2, clk_some, nmk]
  rcases w3 with ⟨u1, hr, u3, u4, u5⟩ | ⟨u1, u2⟩
  case inr =>
    rw [if_neg u1, if_neg u1, clk_id, clk_id]
    exact sim_ref u2 h
  rw [if_pos u1, if_pos u1]
  obtain ⟨k, hk⟩ : ∃ k, k = K.toNatClampNeg := ⟨_, rfl⟩
  have eK : K = nI k := by rw [hk]; exact fx_nI u4
  have ck := fx_cl u4
  rw [← hk] at ck
  have hC := run_c h1 h3 h5 hr
  rcases ly_b h10 with ⟨q1, q2⟩ | ⟨q1, q2, b, T, S, p, q, hLB, c1, c2, -, -, -, -, c7⟩
  · exact absurd q1 (u3 n10)
  have hL := xl_of hn h3.2.2.2.2.2.2.1 h3.2.2.2.2.2.2.2.1 (lay_c h1 h3 hr hLB c2) c2
  obtain ⟨sy, d1, d2, d3, d4, d5, d6, d7⟩ := agree_eq (K := k) (xc_of hC) hL c7 c1 (by omega)
  refine ⟨1, sy, sm, ?_, rfl, rel_cp h d2 d3 d4 d5 d6 d7⟩
  rw [eK, d1, clk_some, if_neg n10]
