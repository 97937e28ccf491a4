-- 92.lay3: the call lay
theorem wt_fr {sm tm : Sg} {n t : Nat} (g : FrG sm tm) (h2 : WTo (gI sm 0 15) (gA sm 0 11) (gA sm 0 12) (gA sm 0 13) (gA sm 0 14) n t) : WTo (gI tm 0 15) (gA tm 0 11) (gA tm 0 12) (gA tm 0 13) (gA tm 0 14) n t := by
  rw [g.1 15 (by omega) (by omega), g.2.1 11 (by omega), g.2.1 12 (by omega), g.2.1 13 (by omega), g.2.1 14 (by omega)]
  exact h2
theorem rt_fr {sx sy sm tm : Sg} (f : FrX sx sy) (g : FrG sm tm) (h4 : RTo sx sm) : RTo sy tm := by
  unfold RTo at h4 ⊢
  rw [f.1 2 0 (by omega) (by omega) (by omega), f.2.1 2 1 (by omega) (by omega) (by omega) (by omega), f.2.1 2 2 (by omega) (by omega) (by omega) (by omega), f.2.1 2 3 (by omega) (by omega) (by omega) (by omega), f.2.1 2 4 (by omega) (by omega) (by omega) (by omega), g.1 15 (by omega) (by omega), g.2.1 11 (by omega), g.2.1 12 (by omega), g.2.1 13 (by omega), g.2.1 14 (by omega)]
  exact h4
theorem wv_frL {s s' : Sg} {n t : Nat} (f : FrL s s') (h : WvOk s n t) : WvOk s' n t := by
  unfold WvOk at h ⊢
  rw [f.1 3 1 (by omega), f.1 4 0 (by omega), f.2.1 4 1 (by omega) (by omega), f.2.1 4 2 (by omega) (by omega), f.2.1 4 3 (by omega) (by omega), f.2.1 4 4 (by omega) (by omega), f.2.1 1 1 (by omega) (by omega), f.2.1 1 2 (by omega) (by omega), f.2.1 1 5 (by omega) (by omega), f.2.1 1 6 (by omega) (by omega), f.2.1 1 7 (by omega) (by omega), f.2.1 2 1 (by omega) (by omega), f.2.1 2 2 (by omega) (by omega), f.2.1 2 3 (by omega) (by omega), f.2.1 2 4 (by omega) (by omega)]
  exact h
theorem allX_fr {sx sy : Sg} {n t : Nat} (f : FrX sx sy) : allX sy n t = allX sx n t := by
  unfold allX
  rw [f.2.1 1 1 (by omega) (by omega) (by omega) (by omega), f.2.1 1 2 (by omega) (by omega) (by omega) (by omega), f.2.1 1 5 (by omega) (by omega) (by omega) (by omega), f.2.1 1 6 (by omega) (by omega) (by omega) (by omega), f.2.1 1 7 (by omega) (by omega) (by omega) (by omega), f.2.1 2 1 (by omega) (by omega) (by omega) (by omega), f.2.1 2 2 (by omega) (by omega) (by omega) (by omega), f.2.1 2 3 (by omega) (by omega) (by omega) (by omega), f.2.1 2 4 (by omega) (by omega) (by omega) (by omega)]
/-- a finding is kept on both sides -/
theorem found_eq {sx sm sy tm : Sg} {n t tr b : Nat} (h1 : WBo (gI sm 0 9) (gA sm 0 0) (gA sm 0 1) (gA sm 0 2) (gA sm 0 3) (gA sm 0 4) (gA sm 0 5) (gA sm 0 6) (gA sm 0 10) n) (h2 : WTo (gI sm 0 15) (gA sm 0 11) (gA sm 0 12) (gA sm 0 13) (gA sm 0 14) n t) (h3 : RBo sx sm) (h4 : RTo sx sm) (h0 : 0 < n) (hb1 : 1 ≤ b) (hb : b ≤ 60) (hC : SkC sx sm sy tm n t tr) (hG : SkG sm sy tm n t b) : ∃ f s' t', m_X9_join (nI n) sy = some (1, pA sy 6 1 f) ∧ m_X4_settle (pA sy 6 1 f) = some ((), s') ∧ m_X12_lay_54 0 (nI b) tm = some (nI b, t') ∧ FrL (pA sy 6 1 f) s' ∧ (∀ k, k ≠ 27 → gI t' 0 k = gI tm 0 k) ∧ (∀ k, k < 28 ∨ 31 < k → gA t' 0 k = gA tm 0 k) ∧ (∀ k, gL t' 0 k = gL tm 0 k) ∧ RLy s' t' n t := by
  have hn := h1.2.1
  obtain ⟨fX, fM, c3, c4, c5, c6, c7, c8⟩ := hC
  obtain ⟨T, p, g1, g2, g3, g4, g5, g6, g7, g8⟩ := hG
  have hokM := all_ok h1 h2
  have hgb : ∀ j l x, maN n (gA sy 6 0) j l = some x → -290 ≤ x ∧ x ≤ 50 := fun j l x hx => ge_bd hb hokM _ (g5.2 j l x hx)
  have hle := cl_least (l := allM sm n t) hb1 g5 g4
  obtain ⟨-, hbd⟩ := cl_bd (m := n) (l := allM sm n t) hn hb1 g5 hgb (fun v hv => ⟨by omega, by have := g1 v hv; omega⟩) g4
  have hpe : ∀ v, v < n → p v = earO (lvO (gA sy 7 3) (n - 1)) v n := fun v hv => least_uni g8 hle v hv
  obtain ⟨S, hS⟩ : ∃ S : Nat → Nat, S = fun v => (p v).toNat := ⟨_, rfl⟩
  have hSv : ∀ v, v < n → (S v : Int) = p v := fun v hv => by
    have := g8.1 v hv
    rw [hS]
    show ((p v).toNat : Int) = p v
    omega
  have hS960 : ∀ v, v < n → S v ≤ 960 := fun v hv => by
    have a := hSv v hv
    have b := hbd v hv
    rw [← hpe v hv] at b
    omega
  have hsolS : SolG (hdL n b (fun v => (T v : Int)) (allM sm n t)) (fun v => (S v : Int)) := sol_in (hd_in n b _ _) g8.2.1 hSv
  have hsolB := stage_sol hb1 hokM hsolS
  obtain ⟨f, k⟩ := wjoin_eq (sx := sy) hn g5 (ge_bd hb hokM)
  rcases k with ⟨k1, k2⟩ | ⟨k1, k2⟩
  case inr => exact absurd hsolB (k2 _)
  obtain ⟨s, hs⟩ : ∃ s, s = pA sy 6 1 f := ⟨_, rfl⟩
  have fs : FrX sx s := by rw [hs]; exact fX.trans (frX_6 _ _ _)
  have es61 : gA s 6 1 = f := by rw [hs]; rfl
  have es7 : ∀ k, gA s 7 k = gA sy 7 k := fun k => by rw [hs]; rfl
  have hall : (allX s n t).Perm (allM sm n t) := by rw [allX_fr fs]; exact all_perm h3 h4
  have b3 : gA s 1 3 = gA sm 0 2 := (fs.2.1 1 3 (by omega) (by omega) (by omega) (by omega)).trans h3.2.2.2.1
  have b4 : gA s 1 4 = gA sm 0 3 := (fs.2.1 1 4 (by omega) (by omega) (by omega) (by omega)).trans h3.2.2.2.2.1
  have b7 : gA s 1 7 = gA sm 0 6 := (fs.2.1 1 7 (by omega) (by omega) (by omega) (by omega)).trans h3.2.2.2.2.2.2.2.1
  obtain ⟨s', q1, q2, q3, q4, q5, q6⟩ := settle_eq (s := s) (t := t) (T := T) (S := S) hn h0 hb1 hb ((fs.1 1 0 (by omega) (by omega) (by omega)).trans (h3.1.trans h1.1)) (by rw [hs]; exact g2) (fun v hv => ⟨g1 v hv, by rw [es7]; exact g3 v hv⟩) (fun v hv => ⟨hS960 v hv, by rw [es7, ← hpe v hv, hSv v hv]⟩) (fun v hv => by
      rw [b3, b4]
      obtain ⟨-, -, o1, o2, -⟩ := h1.2.2.1 v hv
      exact ⟨o1, by have := o2.1; omega, o2.2⟩) (fun k hk => by
      rw [b7]
      exact (h1.2.2.2.1 k hk).2.1) (fun e he => hokM e (hall.mem_iff.mp he)) (by rw [es61]; exact ch_perm (hall.map _).symm k2) (sol_perm (hall.map _).symm hsolB)
  have tS : ∀ v, v < n → gA tm 0 33 v = nI (S v) := fun v hv => by
    obtain ⟨z1, z2, z3⟩ := g7 v hv
    have := hSv v hv
    rw [fx_eq, z1, nI_toInt (by have := hS960 v hv; omega)]
    omega
  have em9 : gI (pI tm 0 27 (nI b)) 0 9 = nI n := (fM.1 9 (by omega) (by omega)).trans h1.1
  obtain ⟨t', y1, y2, y3, y4, y5⟩ := keep_eq (s := pI tm 0 27 (nI b)) (T := T) (S := S) hn hb em9 g6 tS
  refine ⟨f, s', t', k1, by rw [← hs]; exact q1, ?_, by rw [← hs]; exact q2, fun k hk => ?_, y3, y4, Or.inr ⟨q3, ⟨?_, ?_, fun v hv => ?_⟩, q6⟩⟩
  · have y1' : lp (fun s : (Int32 × Sg) => m_X12_lay_L82 (nI b) s.1 s.2) FU (0, pI tm 0 27 (nI b)) = some t' := y1
    rw [m_X12_lay_54, if_pos rfl, sIk, nmk, lpk, y1']
  · rw [y2, gI_pI, if_pos rfl, if_neg hk]
  · rw [q4, y2, gI_pI, if_pos rfl, if_pos rfl]
  · rw [y2, gI_pI, if_pos rfl, if_pos rfl]
    unfold inR
    rw [nI_toInt (by omega)]
    omega
  · obtain ⟨a1, a2, a3, a4⟩ := q5 v hv
    obtain ⟨b1, b2, b3, b4⟩ := y5 v hv
    rw [a1, a2, a3, a4, b1, b2, b3, b4]
    refine ⟨rfl, rfl, rfl, rfl, ?_⟩
    have m1 := Nat.mul_le_mul hb (hS960 v hv)
    have m2 := g1 v hv
    unfold inR
    rw [nI_toInt (by omega)]
    omega
theorem s_lay {sx sm : Sg} (h : Rel sx sm) : Sim (m_X11_lay sx) (m_X12_lay sm) := by
  obtain ⟨n, t, h1, h2, h3, h4, h5, h6, h7, h8, h9, h10⟩ := id h
  have hn := h1.2.1
  have e6 := h3.2.2.2.2.2.2.1
  obtain ⟨s1, hs1⟩ : ∃ s, s = pI sx 7 10 0 := ⟨_, rfl⟩
  obtain ⟨t1, ht1⟩ : ∃ s, s = pI sm 0 32 0 := ⟨_, rfl⟩
  have F1 : FrX sx s1 := by rw [hs1]; exact frX_7I _ _ _
  have G1 : FrG sm t1 := by rw [ht1]; exact frG_I _ _
  have ex1 : gI s1 1 0 = nI n := (F1.1 1 0 (by omega) (by omega) (by omega)).trans (h3.1.trans h1.1)
  have em1 : gI t1 0 9 = nI n := (G1.1 9 (by omega) (by omega)).trans h1.1
  have x6 : gA s1 1 6 = gA sx 1 6 := F1.2.1 1 6 (by omega) (by omega) (by omega) (by omega)
  have m5 : gA t1 0 5 = gA sm 0 5 := G1.2.1 5 (by omega)
  have tr0 : gI s1 7 10 = nI 0 := by rw [hs1]; rfl
  have tm0 : gI t1 0 32 = nI 0 := by rw [ht1]; rfl
  have w1 : RWe s1 n t := by
    have : RWe sx n t → RWe s1 n t := fun q => by rw [hs1]; exact q
    exact this h9
  have n10 : ¬ (1 : Int32) = 0 := by decide
  have cc : ∀ o : Option (Int32 × Sg), (clk o fun v s => some (v, s)) = o := fun o => by
    cases o with
    | none => rfl
    | some q => rfl
  have ref : ∀ (r : Int32) (sy tm : Sg), inR r (-11) (-2) → Rel sy tm → Sim (m_X11_refuse r sy) (m_X12_no r tm) := fun r sy tm hr hR => ⟨r, _, _, x_refuse hr sy, m_no_eq hr tm, rel_ref r hR⟩
  by_cases hr : 0 < n ∧ WhP n (gA sm 0 5)
  case neg =>
    have hrx : ¬ (0 < n ∧ WhP n (gA s1 1 6)) := by rw [x6, e6]; exact hr
    have hrm : ¬ (0 < n ∧ WhP n (gA t1 0 5)) := by rw [m5]; exact hr
    have hR : Rel s1 t1 := rel_fr h1 h2 h3 h4 h5 h6 (tr0.trans tm0.symm) h7.2 h8 h10 F1 G1 w1
    rw [m_X11_lay, sIk, ← hs1, m_X11_lowestBeat, (readyX ex1 hn).2 hrx, clk_some, if_pos rfl, clk_some, nmk, if_neg (show ¬ (0 : Int32) ≤ -2 by decide), cc, m_X12_lay, sIk, ← ht1, (readyM em1 hn).2 hrm, clk_some, if_pos rfl, cc]
    exact ref (-2) s1 t1 (inR_lit _ _ rfl) hR
  have hrm : 0 < n ∧ WhP n (gA t1 0 5) := by rw [m5]; exact hr
  have h1' := wb_em G1 h1
  have h2' := wt_fr G1 h2
  have h3' := rb_em F1 G1 h3
  have h4' := rt_fr F1 G1 h4
  obtain ⟨vx, vm, sy, tm, k1, k2, fX, fM, k3, k4, k5, k6, k7⟩ := lowB_eq h1' h2' h3' h4' w1 hrm
  have s60 : (60 : Int32).toInt = 60 := rfl
  rcases k7 with ⟨q1, q2⟩ | ⟨c, c1, c2, c3, c4, c5, c6, c7⟩
  · subst q1
    have hR : Rel sy tm := rel_fr h1 h2 h3 h4 h5 h6 ((k3.trans tr0).trans (k4.trans tm0).symm) h7.2 h8 h10 (F1.trans fX) (G1.trans fM) k6
    have hv : (60 : Int32) < vm := by rw [fx_lt, s60]; exact q2
    have hl : lp (fun s : (Int32 × Int32 × Sg) => m_X12_lay_L26 s.1 s.2.1 s.2.2) FU (3, vm, tm) = some (3, vm, tm) := by
      refine lp_end (n := FU - 1) ?_
      show m_X12_lay_L26 3 vm tm = _
      rw [m_X12_lay_L26, if_pos hv]
    rw [m_X11_lay, sIk, ← hs1, k1, clk_some, nmk, if_neg (show ¬ (0 : Int32) ≤ -9 by decide), cc, m_X12_lay, sIk, ← ht1, (readyM em1 hn).1 hrm, clk_some, if_neg n10, nmk, k2, clk_some, nmk, lpk, hl]
    show Sim _ (m_X12_lay_54 3 vm tm)
    rw [m_X12_lay_54, if_neg (show ¬ (3 : Int32) = 0 by decide), if_neg (show ¬ (3 : Int32) = 4 by decide), cc]
    exact ref (-9) sy tm (inR_lit _ _ rfl) hR
  · subst c3 c4
    have hC : SkC s1 t1 sy tm n t 0 := ⟨fX, fM, c6, c7, k5, k3.trans tr0, k4.trans tm0, by omega⟩
    obtain ⟨sy', tm', tr', a1, a2⟩ := lay_go h1' h2' h3' h4' hr.1 (61 - c) c 0 sy tm FU FU (by omega) c1 (FU_lt (by omega)) (FU_lt (by omega)) hC
    obtain ⟨b1, b2, b3, b4, b5, b6, b7, b8⟩ := id a1
    have c0 : (0 : Int32) ≤ nI c := by rw [fx_le, ti_0, nI_toInt (by omega)]; omega
    have hR : Rel sy' tm' := rel_fr h1 h2 h3 h4 h5 h6 (b6.trans b7.symm) h7.2 h8 h10 (F1.trans b1) (G1.trans b2) (Or.inr ⟨b3, b4⟩)
    rw [m_X11_lay, sIk, ← hs1, k1, clk_some, nmk, if_pos c0, nmk, lpk, m_X12_lay, sIk, ← ht1, (readyM em1 hn).1 hrm, clk_some, if_neg n10, nmk, k2, clk_some, nmk, lpk]
    rcases a2 with ⟨z1, x, z2⟩ | ⟨z1, x, z2⟩ | ⟨b, d1, d2, z1, z2, z3⟩
    · rw [z1, z2]
      show Sim (clk (m_X11_refuse (-9) sy') fun v s => some (v, s)) (m_X12_lay_54 3 x tm')
      rw [m_X12_lay_54, if_neg (show ¬ (3 : Int32) = 0 by decide), if_neg (show ¬ (3 : Int32) = 4 by decide), cc, cc]
      exact ref (-9) sy' tm' (inR_lit _ _ rfl) hR
    · rw [z1, z2]
      show Sim (clk (m_X11_refuse (-11) sy') fun v s => some (v, s)) (m_X12_lay_54 4 x tm')
      rw [m_X12_lay_54, if_neg (show ¬ (4 : Int32) = 0 by decide), if_pos rfl, cc, cc]
      exact ref (-11) sy' tm' (inR_lit _ _ rfl) hR
    · obtain ⟨f, s', t', y1, y2, y3, y4, y5, y6, y7, y8⟩ := found_eq h1' h2' h3' h4' hr.1 d1 d2 a1 z3
      have ey : gI sy' 1 0 = nI n := (b1.1 1 0 (by omega) (by omega) (by omega)).trans ex1
      have Fa := (F1.trans b1).trans (frX_6 sy' 1 f)
      have Ga := G1.trans b2
      rw [z1, z2]
      refine ⟨nI b, s', t', ?_, y3, ?_⟩
      · show (gIk sy' 1 0 fun v15 => clk (m_X9_join v15 sy') fun v17 s16 => clk (m_X4_settle s16) fun _ s18 => some (nI b, s18)) = _
        rw [gIk, ey, y1, clk_some, y2, clk_some]
      · refine rel_ly h1 h2 h3 h4 h5 h6 ?_ h7.2 h8 (fun j k a1 a2 a3 a4 => (y4.1 j k a4).trans (Fa.1 j k a1 a2 a3)) (fun j k a1 a2 a3 a4 a5 a6 => (y4.2.1 j k a5 a6).trans (Fa.2.1 j k a1 a2 a3 a4)) (fun j k => (y4.2.2 j k).trans (Fa.2.2 j k)) (fun k a1 a2 a3 => (y5 k a2).trans (Ga.1 k a1 a3)) (fun k hk => (y6 k (by omega)).trans (Ga.2.1 k (by omega))) (fun k => (y7 k).trans (Ga.2.2 k)) (Or.inr ⟨?_, ?_⟩) y8
        · rw [y4.1 7 10 (by omega), y5 32 (by omega)]
          exact b6.trans b7.symm
        · rw [y4.1 3 2 (by omega)]; exact b3
        · exact wv_frL y4 b4
