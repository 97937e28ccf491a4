-- 99j.run2: the call run
theorem run_c {sx sm : Sg} {n : Nat} (h1 : WBo (gI sm 0 9) (gA sm 0 0) (gA sm 0 1) (gA sm 0 2) (gA sm 0 3) (gA sm 0 4) (gA sm 0 5) (gA sm 0 6) (gA sm 0 10) n) (h3 : RBo sx sm) (h5 : RRo sx sm) (hr : 0 < n ∧ WhP n (gA sm 0 5)) : RunC sx sm n := by
  obtain ⟨w0, hn, w2, w3, w4, w5⟩ := h1
  obtain ⟨b0, b1, b2, b3, b4, b5, b6, b7, b8, b9, b10⟩ := h3
  obtain ⟨r1, r2, r3, r4⟩ := h5
  refine ⟨⟨⟨b1, b5, b6, b7, b8, r1, r2⟩, fun a ha => ?_, fun k hk => (r3 k hk).1⟩, b0.trans w0, w0, b2, hn, hr.1, fun a w ha hw h0 => ?_⟩
  · obtain ⟨s1, s2, s3, s4, s5, s6⟩ := w2 a ha
    obtain ⟨u1, u2, u3⟩ := w4 a ha
    refine ⟨s1, s6, fun w hw => ?_, u1, u2, u3⟩
    obtain ⟨o1, o2, o3, o4⟩ := w3 (3 * a + w) (by omega)
    exact ⟨o1, fun q => ⟨o3 q, o2.2⟩⟩
  · obtain ⟨o1, o2, o3, o4⟩ := w3 (3 * a + w) (by omega)
    refine ⟨hr.2 (3 * a + w) (by omega), fun q => ?_, o3 h0, o2.2⟩
    have := o4 q
    rw [show (3 * a + w) / 3 = a by omega] at this
    exact this
theorem lay_c {sx sm : Sg} {n t b : Nat} {T S : Nat → Nat} (h1 : WBo (gI sm 0 9) (gA sm 0 0) (gA sm 0 1) (gA sm 0 2) (gA sm 0 3) (gA sm 0 4) (gA sm 0 5) (gA sm 0 6) (gA sm 0 10) n) (h3 : RBo sx sm) (hr : 0 < n ∧ WhP n (gA sm 0 5)) (hL : LyB sx sm n t b T S) (hs : SolG ((allX sx n t).map (geI b)) (fun a => ((b * S a + T a : Nat) : Int))) : LayC sx sm n b (fun a => b * S a + T a) T S := by
  obtain ⟨w0, hn, w2, w3, w4, w5⟩ := h1
  obtain ⟨b0, b1, b2, b3, b4, b5, b6, b7, b8, b9, b10⟩ := h3
  obtain ⟨⟨a1, a2, a3, a4, a5⟩, a6⟩ := hL
  refine ⟨⟨a1, a2, a3, a4⟩, fun a ha => ?_, fun a w ha hw h0 => ?_⟩
  · obtain ⟨z1, z2, ⟨z3, z4⟩, ⟨z5, z6⟩, z7, z8⟩ := a6 a ha
    exact ⟨z1, z2, z3, z5, z8, rfl⟩
  · have hlt := hr.2 (3 * a + w) (by omega)
    obtain ⟨o1, o2, o3, o4⟩ := w3 (3 * a + w) (by omega)
    have c1 := fx_cl h0
    have c2 := fx_cl (o3 h0)
    generalize hx : (gA sm 0 5 (3 * a + w)).toNatClampNeg = x at *
    generalize hk : (gA sm 0 6 (3 * a + w)).toNatClampNeg = k at *
    have hxn : x < n := by omega
    have hlag := (w2 x hxn).2.1.1
    have hmem : (gA sx 1 6 (3 * a + w), nI a, gA sx 1 2 x, gA sx 1 7 (3 * a + w)) ∈ allX sx n t := by
      unfold allX edX
      refine List.mem_append_left _ (List.mem_flatMap.mpr ⟨a, List.mem_range.mpr ha, List.mem_append_left _ (List.mem_append_left _ ?_)⟩)
      unfold opsE
      refine List.mem_flatMap.mpr ⟨w, List.mem_range.mpr hw, ?_⟩
      have cnd : 0 ≤ gA sx 1 6 (3 * a + w) ∧ gA sx 1 6 (3 * a + w) < nI n := by
        rw [b6, fx_le, ti_0, fx_lt, nI_toInt (by omega)]
        exact ⟨h0, hlt⟩
      rw [if_pos cnd, b6, hx]
      exact List.mem_singleton.mpr rfl
    have q := hs _ (List.mem_map.mpr ⟨_, hmem, rfl⟩)
    have q' : ((b * S (gA sx 1 6 (3 * a + w)).toNatClampNeg + T (gA sx 1 6 (3 * a + w)).toNatClampNeg : Nat) : Int) + ((gA sx 1 2 x).toInt - (b : Int) * (gA sx 1 7 (3 * a + w)).toInt) ≤ ((b * S (nI a).toNatClampNeg + T (nI a).toNatClampNeg : Nat) : Int) := q
    rw [b6, b7, b2, hx, nI_clamp (show a < 2 ^ 31 by omega), ← c2] at q'
    have e : (b : Int) * (k : Int) = ((b * k : Nat) : Int) := rfl
    rw [e] at q'
    show b * S x + T x + 1 ≤ b * S a + T a + b * k
    omega
/-- the start of a run on both sides -/
theorem run_start {sx sm : Sg} {n j : Nat} (hj : j = 14 ∨ j = 15 ∨ j = 16) (h3 : RBo sx sm) (h5 : RRo sx sm) (K p2 : Int32) : ∃ f, lp (fun r : (Int32 × Sg) => m_X7_go_L8 j K p2 r.1 r.2) FU (-4, clO j sx) = some (pL (clO j sx) 13 3 f) ∧ PJ j sx sm (pL (clO j sx) 13 3 f) (fgM sm) n 0 0 := by
  obtain ⟨f, k1, k2⟩ := firsts_eq (s := clO j sx) j K p2
  obtain ⟨c0, c1, c2, c3, c4, c5⟩ := clO_at j sx
  refine ⟨f, k1, (clO_fr j sx).trans (frR_13 j _ _), fgM_fr sm, ⟨?_, ?_, ?_⟩, c3, c4, c5, c0, rfl, c1, c2, rfl⟩
  · have e1 : gL (pL (clO j sx) 13 3 f) 5 2 = gL sx 5 2 := rfl
    have e2 : gL (fgM sm) 0 21 = gL sm 0 21 := rfl
    rw [e1, e2]
    exact h5.2.2.2
  · intro x u hd
    obtain ⟨d1, d2⟩ := hd
    omega
  · intro q x hq hx
    show f (16 * q + x) = gL sm 0 7 x
    rw [k2 q x hq hx]
    show gL sx 1 9 x = _
    rw [h3.2.2.2.2.2.2.2.2.2.1]
/-- the end of a run on both sides -/
theorem run_fin {sx sm sx' tm : Sg} {n t K c : Nat} (h1 : WBo (gI sm 0 9) (gA sm 0 0) (gA sm 0 1) (gA sm 0 2) (gA sm 0 3) (gA sm 0 4) (gA sm 0 5) (gA sm 0 6) (gA sm 0 10) n) (h2 : WTo (gI sm 0 15) (gA sm 0 11) (gA sm 0 12) (gA sm 0 13) (gA sm 0 14) n t) (h3 : RBo sx sm) (h4 : RTo sx sm) (h5 : RRo sx sm) (h6 : RRe sx sm) (h7 : RTr sx sm) (h9 : RWe sx n t) (h10 : RLy sx sm n t) (hK : K ≤ 200) (h43 : inR (gI tm 0 43) 0 1) (h : EJ 16 sx sm sx' tm n K c) : ∃ s'', m_X7_go_72 16 (nI K) sx' = some ((), s'') ∧ gI s'' 16 6 = nI c ∧ gI tm 0 44 = nI c ∧ Rel s'' tm := by
  have hn := h1.2.1
  obtain ⟨hc, f, g, e, p3, p4, p5, p0, p1, p2, p6, q⟩ := h
  obtain ⟨s'', k1, k2, k3, k4, k5, k6, k7⟩ := go_end (j := 16) hK hc q
  have k6 := k6 (by omega)
  have F := f.trans k2
  refine ⟨s'', k1, k4, p6, rel_rn h1 h2 h3 h4 ?_ h6 h7 ?_ h9 h10 F g⟩
  · refine ⟨by rw [F.2.1 5 0, g.2.1 23]; exact h5.1, by rw [F.2.1 5 1, g.2.1 24]; exact h5.2.1, by rw [g.2.1 23, g.2.1 24]; exact h5.2.2.1, ?_⟩
    rw [g.2.1 23, k5]
    exact e.1
  · refine ⟨by rw [k3 0 (by omega)]; exact p0, by rw [k3 1 (by omega)]; exact p1, by rw [k3 2 (by omega)]; exact p2, by rw [k3 3 (by omega)]; exact p3, by rw [k3 4 (by omega)]; exact p4, by rw [k3 5 (by omega)]; exact p5, by rw [k4, p6], h43, ?_, ?_⟩
    · unfold inR
      rw [p6, nI_toInt (by omega)]
      omega
    · rw [p6, nI_toInt (by omega), nI_clamp (by omega)]
      intro hc0 a ha
      rw [k7 (by omega) a (by omega), e.2.1 a (c - 1) ⟨ha, by omega⟩]
theorem layM1 {s : Sg} {n b : Nat} {S : Nat → Nat} (hn : n ≤ 16) (hx : gI s 0 9 = nI n) (h27 : ¬ gI s 0 27 = 0) (hS : ∀ a, a < n → S a ≤ 960 ∧ gA s 0 29 a = nI (S a)) : m_X12_laying 1 s = some (nI (1 + mxN S n), s) := by
  have i0 : (0 : Int64).toInt = 0 := rfl
  have i2 : (2 : Int64).toInt = 2 := rfl
  have c : 0 ≤ (1 : Int32).toInt ∧ (1 : Int32).toInt ≤ 2 := by rw [ti_1]; omega
  rw [m_X12_laying, gIk, if_neg h27, isIn_eq, clk_some, i0, i2, if_pos c, if_neg (show ¬ (1 : Int32) = 0 by decide), nmk, nmk, nmk, lpk, layM_loop (S := S) hn hx hS]
  show (if (1 : Int32) = 0 then _ else if (1 : Int32) = 1 then (some (nI (mxN S n) + 1, s)) else _) = _
  rw [if_neg (show ¬ (1 : Int32) = 0 by decide), if_pos rfl, nI_1, Nat.add_comm]
theorem why_run {sx sm : Sg} {n t : Nat} (hn : n ≤ 16) (hx : gI sx 1 0 = nI n) (hm : gI sm 0 9 = nI n) (e6 : gA sx 1 6 = gA sm 0 5) (h10 : RLy sx sm n t) (K p2 : Int32) : ∃ r, m_X11_refusalOfRun K p2 sx = some (r, sx) ∧ m_X12_whyNoRun K p2 sm = some (r, sm) ∧ ((r = 0 ∧ (0 < n ∧ WhP n (gA sm 0 5)) ∧ (¬ p2 = 0 → ¬ gI sx 9 0 = 0) ∧ 0 ≤ K.toInt ∧ K.toInt ≤ 200) ∨ (¬ r = 0 ∧ inR r (-11) (-2))) := by
  have n10 : ¬ (1 : Int32) = 0 := by decide
  have t200 : (200 : Int32).toInt = 200 := rfl
  by_cases hr : 0 < n ∧ WhP n (gA sm 0 5)
  case neg =>
    have hrx : ¬ (0 < n ∧ WhP n (gA sx 1 6)) := by rw [e6]; exact hr
    refine ⟨-2, ?_, ?_, Or.inr ⟨by decide, inR_lit _ _ rfl⟩⟩
    · rw [m_X11_refusalOfRun, (readyX hx hn).2 hrx, clk_some, if_pos rfl]
    · rw [m_X12_whyNoRun, (readyM hm hn).2 hr, clk_some, if_pos rfl]
  have hrx : 0 < n ∧ WhP n (gA sx 1 6) := by rw [e6]; exact hr
  have tail : ∃ r, m_X11_refusalOfRun_27 K sx = some (r, sx) ∧ m_X12_whyNoRun_21 K sm = some (r, sm) ∧ ((r = 0 ∧ 0 ≤ K.toInt ∧ K.toInt ≤ 200) ∨ (¬ r = 0 ∧ inR r (-11) (-2))) := by
    rw [m_X11_refusalOfRun_27, m_X12_whyNoRun_21]
    by_cases c : 0 ≤ K
    · rw [if_pos c, if_pos c]
      by_cases d : K ≤ 200
      · rw [if_pos d, if_pos d]
        rw [fx_le, ti_0] at c
        rw [fx_le, t200] at d
        exact ⟨0, rfl, rfl, Or.inl ⟨rfl, c, d⟩⟩
      · rw [if_neg d, if_neg d]
        exact ⟨-9, rfl, rfl, Or.inr ⟨by decide, inR_lit _ _ rfl⟩⟩
    · rw [if_neg c, if_neg c]
      exact ⟨-4, rfl, rfl, Or.inr ⟨by decide, inR_lit _ _ rfl⟩⟩
  obtain ⟨r, t1, t2, t3⟩ := tail
  rw [m_X11_refusalOfRun, (readyX hx hn).1 hrx, clk_some, if_neg n10, m_X12_whyNoRun, (readyM hm hn).1 hr, clk_some, if_neg n10]
  by_cases c : p2 = 0
  · rw [if_pos c, if_pos c]
    refine ⟨r, t1, t2, ?_⟩
    rcases t3 with ⟨u1, u2⟩ | u
    · exact Or.inl ⟨u1, hr, fun q => absurd c q, u2⟩
    · exact Or.inr u
  · rw [if_neg c, if_neg c, gIk, gIk]
    rcases ly_b h10 with ⟨q1, q2⟩ | ⟨q1, q2, -⟩
    · rw [if_pos q1, if_pos q2]
      exact ⟨-2, rfl, rfl, Or.inr ⟨by decide, inR_lit _ _ rfl⟩⟩
    · rw [if_neg q1, if_neg q2]
      refine ⟨r, t1, t2, ?_⟩
      rcases t3 with ⟨u1, u2⟩ | u
      · exact Or.inl ⟨u1, hr, fun _ => q1, u2⟩
      · exact Or.inr u
theorem s_run (K p2 : Int32) {sx sm : Sg} (h : Rel sx sm) : Sim (m_X11_run K p2 sx) (m_X12_run K p2 sm) := by
  obtain ⟨n, t, h1, h2, h3, h4, h5, h6, h7, h8, h9, h10⟩ := id h
  have hn := h1.2.1
  have n10 : ¬ (1 : Int32) = 0 := by decide
  obtain ⟨r, w1, w2, w3⟩ := why_run hn (h3.1.trans h1.1) h1.1 h3.2.2.2.2.2.2.1 h10 K p2
  rw [m_X11_run, w1, clk_some, nmk, m_X12_run, w2, clk_some, nmk]
  rcases w3 with ⟨u1, hr, u3, u4, u5⟩ | ⟨u1, u2⟩
  case inr =>
    rw [if_neg u1, if_neg u1, clk_id, clk_id]
    exact sim_ref u2 h
  rw [if_pos u1, if_pos u1, forget_eq, clk_some]
  obtain ⟨k, hk⟩ : ∃ k, k = K.toNatClampNeg := ⟨_, rfl⟩
  have eK : K = nI k := by rw [hk]; exact fx_nI u4
  have ck := fx_cl u4
  rw [← hk] at ck
  have hk200 : k ≤ 200 := by omega
  have hC := run_c h1 h3 h5 hr
  obtain ⟨f, s1, s2⟩ := run_start (n := n) (j := 16) (by omega) h3 h5 K p2
  have XG : m_X7_go 16 K p2 sx = if p2 = 0 then m_X7_go_66 16 K (pL (clO 16 sx) 13 3 f) else gIk (pL (clO 16 sx) 13 3 f) 9 2 fun v17 => if K < v17 then (m_X7_go_66 16 K (pL (clO 16 sx) 13 3 f)) else clk (m_X7_goByTicks 16 K (pL (clO 16 sx) 13 3 f)) fun _ s18 => m_X7_go_72 16 K s18 := by
    rw [m_X7_go, clear_eq, clk_some, nmk, lpk, s1]
  -- a plain run
  have plain : Sim (clk (m_X7_go_66 16 K (pL (clO 16 sx) 13 3 f)) fun _ s4 => gIk s4 16 6 fun v5 => some (v5, s4)) (m_X12_run_38 K (fgM sm)) := by
    obtain ⟨sx', sm', c, a1, a2, a3⟩ := plain_eq (by omega) hC hk200 s2
    obtain ⟨s'', d1, d2, d3, d4⟩ := run_fin (tm := pI sm' 0 43 0) h1 h2 h3 h4 h5 h6 h7 h9 h10 hk200 (show inR (0 : Int32) 0 1 from ⟨by decide, by decide⟩) a3
    refine ⟨nI c, s'', pI sm' 0 43 0, ?_, ?_, d4⟩
    · rw [m_X7_go_66, eK, a1, clk_some, d1, clk_some, gIk, d2]
    · rw [m_X12_run_38, m_X12_run_39, nmk, if_pos rfl, eK, a2, clk_some, m_X12_run_59, if_pos rfl, sIk, gIk, d3]
  rw [XG]
  by_cases c : p2 = 0
  · rw [if_pos c, if_pos c]
    exact plain
  rw [if_neg c, if_neg c]
  rcases ly_b h10 with ⟨q1, q2⟩ | ⟨q1, q2, b, T, S, p, q, hLB, c1, c2, -, -, -, -, c7⟩
  · exact absurd q1 (u3 c)
  have hL := lay_c h1 h3 hr hLB c2
  have e92 : gI (pL (clO 16 sx) 13 3 f) 9 2 = nI (1 + mxN S n) := c1
  have eM := layM1 (s := fgM sm) (b := b) (S := S) hn h1.1 q2 (fun a ha => ⟨(hLB.2 a ha).2.1, (hLB.2 a ha).2.2.2.1.2⟩)
  rw [gIk, e92, eM, clk_some]
  by_cases d : K < nI (1 + mxN S n)
  · rw [if_pos d, if_pos d]
    exact plain
  · rw [if_neg d, if_neg d]
    have hS960 := mxN_le (S := S) (M := 960) (n := n) (fun v hv => (hLB.2 v hv).2.1)
    have hKs : 1 + mxN S n ≤ k := by
      rw [eK, fx_lt, nI_toInt (by omega), nI_toInt (by omega)] at d
      omega
    obtain ⟨sx', sm', c', a1, a2, a3⟩ := laid_eq (by omega) hC hL c7 c1 hk200 hKs s2
    obtain ⟨s'', d1, d2, d3, d4⟩ := run_fin (tm := pI sm' 0 43 1) h1 h2 h3 h4 h5 h6 h7 h9 h10 hk200 (show inR (1 : Int32) 0 1 from ⟨by decide, by decide⟩) a3
    refine ⟨nI c', s'', pI sm' 0 43 1, ?_, ?_, d4⟩
    · rw [eK, a1, clk_some, d1, clk_some, gIk, d2]
    · rw [m_X12_run_39, nmk, if_neg n10, eK, a2, clk_some, m_X12_run_59, if_neg n10, sIk, gIk, d3]
