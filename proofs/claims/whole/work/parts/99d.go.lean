-- 99d.go: the start and the end of a run; what a run leaves
theorem rel_rn {sx sy sm tm : Sg} {n t : Nat} (h1 : WBo (gI sm 0 9) (gA sm 0 0) (gA sm 0 1) (gA sm 0 2) (gA sm 0 3) (gA sm 0 4) (gA sm 0 5) (gA sm 0 6) (gA sm 0 10) n) (h2 : WTo (gI sm 0 15) (gA sm 0 11) (gA sm 0 12) (gA sm 0 13) (gA sm 0 14) n t) (h3 : RBo sx sm) (h4 : RTo sx sm) (h5 : RRo sy tm) (h6 : RRe sx sm) (h7 : RTr sx sm) (h8 : ROu sy tm n) (h9 : RWe sx n t) (h10 : RLy sx sm n t) (f : FrR 16 sx sy) (g : FrN sm tm) : Rel sy tm := by
  obtain ⟨f1, f2, f3⟩ := f
  obtain ⟨g1, g2, g3⟩ := g
  refine ⟨n, t, ?_, ?_, ?_, ?_, h5, ?_, ?_, h8, ?_, ?_⟩
  · rw [g1 9 (by omega), g2 0, g2 1, g2 2, g2 3, g2 4, g2 5, g2 6, g2 10]; exact h1
  · rw [g1 15 (by omega), g2 11, g2 12, g2 13, g2 14]; exact h2
  · unfold RBo at h3 ⊢
    rw [f1 1 0 (by omega), f2 1 1, f2 1 2, f2 1 3, f2 1 4, f2 1 5, f2 1 6, f2 1 7, f3 1 8 (by omega) (by omega) (by omega), f3 1 9 (by omega) (by omega) (by omega), f2 1 10, g1 9 (by omega), g2 0, g2 1, g2 2, g2 3, g2 4, g2 5, g2 6, g2 10, g3 8 (by omega) (by omega), g3 7 (by omega) (by omega)]
    exact h3
  · unfold RTo at h4 ⊢
    rw [f1 2 0 (by omega), f2 2 1, f2 2 2, f2 2 3, f2 2 4, g1 15 (by omega), g2 11, g2 12, g2 13, g2 14]
    exact h4
  · unfold RRe at h6 ⊢
    rw [f2 0 10, f1 0 9 (by omega), g2 25, g1 26 (by omega)]
    exact h6
  · unfold RTr at h7 ⊢
    rw [f1 7 10 (by omega), f2 11 0, g1 32 (by omega), g2 36]
    exact h7
  · unfold RWe WvOk at h9 ⊢
    rw [f1 3 2 (by omega), f1 3 1 (by omega), f1 4 0 (by omega), f2 4 1, f2 4 2, f2 4 3, f2 4 4, f2 1 1, f2 1 2, f2 1 5, f2 1 6, f2 1 7, f2 2 1, f2 2 2, f2 2 3, f2 2 4]
    exact h9
  · rcases h10 with ⟨q1, q2⟩ | ⟨q1, q2, q3⟩
    · exact Or.inl ⟨(f1 9 0 (by omega)).trans q1, (g1 27 (by omega)).trans q2⟩
    · refine Or.inr ⟨(f1 9 0 (by omega)).trans q1, ?_, lyX_congr (fun k => f1 9 k (by omega)) (fun k => f2 1 k) (fun k => f2 2 k) (fun k _ => f2 9 k) (f2 10 0) q3⟩
      unfold LyEq at q2 ⊢
      rw [f1 9 1 (by omega), f2 9 3, f2 9 4, f2 9 5, f2 9 6, g1 27 (by omega), g2 28, g2 29, g2 30, g2 31]
      exact q2
/-- the outcome of object j as it was cleared -/
def clO (j : Nat) (s : Sg) : Sg := pI (pI (pI (pI (pI (pI (pI s j 0 0) j 1 (-1)) j 2 (-1)) j 3 0) j 4 0) j 5 0) j 6 0
theorem clear_eq (j : Nat) (s : Sg) : m_X5_clear j s = some ((), clO j s) := rfl
def fgM (s : Sg) : Sg := pI (pI (pI (pI (pI (pI (pI s 0 38 0) 0 39 (-1)) 0 40 (-1)) 0 41 0) 0 42 0) 0 43 0) 0 44 0
theorem forget_eq (s : Sg) : m_X12_forget s = some ((), fgM s) := rfl
theorem clO_fr (j : Nat) (s : Sg) : FrR j s (clO j s) := by
  unfold clO
  exact ((((((frR_I j _ _ _).trans (frR_I j _ _ _)).trans (frR_I j _ _ _)).trans (frR_I j _ _ _)).trans (frR_I j _ _ _)).trans (frR_I j _ _ _)).trans (frR_I j _ _ _)
theorem fgM_fr (s : Sg) : FrN s (fgM s) := by
  unfold fgM
  exact ((((((frN_I _ (by omega) _).trans (frN_I _ (by omega) _)).trans (frN_I _ (by omega) _)).trans (frN_I _ (by omega) _)).trans (frN_I _ (by omega) _)).trans (frN_I _ (by omega) _)).trans (frN_I _ (by omega) _)
theorem clO_at (j : Nat) (s : Sg) : gI (clO j s) j 0 = 0 ∧ gI (clO j s) j 1 = -1 ∧ gI (clO j s) j 2 = -1 ∧ gI (clO j s) j 3 = 0 ∧ gI (clO j s) j 4 = 0 ∧ gI (clO j s) j 5 = 0 := by
  unfold clO
  refine ⟨?_, ?_, ?_, ?_, ?_, ?_⟩ <;> simp [gI_pI]
theorem min4 {i : Nat} (h : i ≤ 4) : (nI i - 4).toInt = (i : Int) - 4 := by
  have t4 : (4 : Int32).toInt = 4 := rfl
  rw [fx_sub (by rw [nI_toInt (by omega), t4]; omega) (by rw [nI_toInt (by omega), t4]; omega), nI_toInt (by omega), t4]
/-- the firsts are laid ahead of the ends -/
theorem firsts_eq {s : Sg} (j : Nat) (x1 x2 : Int32) : ∃ f, lp (fun r : (Int32 × Sg) => m_X7_go_L8 j x1 x2 r.1 r.2) FU (-4, s) = some (pL s 13 3 f) ∧ ∀ q x, q < 4 → x < 16 → f (16 * q + x) = gL s 1 9 x := by
  have t4 : (4 : Int32).toInt = 4 := rfl
  have t16 : (16 : Int32).toInt = 16 := rfl
  have hI := ok_for (step := fun r : (Int32 × Sg) => m_X7_go_L8 j x1 x2 r.1 r.2) (Q := fun r => ∃ f, r = pL s 13 3 f ∧ ∀ q x, q < 4 → x < 16 → f (16 * q + x) = gL s 1 9 x) 4 (fun i r => ∃ f, r = (nI i - 4, pL s 13 3 f) ∧ ∀ q x, q < i → x < 16 → f (16 * q + x) = gL s 1 9 x) (by
      rintro i r hi ⟨f, rfl, h⟩
      have e4 := min4 (show i ≤ 4 by omega)
      have hg : ¬ (0 : Int32) ≤ nI i - 4 := by rw [fx_le, ti_0, e4]; omega
      have ep : ((4 : Int32) + (nI i - 4)) * 16 + 0 = nI (16 * i) := by
        have e1 : (4 : Int32) + (nI i - 4) = nI i := by
          rw [fx_eq, fx_add (by rw [e4, t4]; omega) (by rw [e4, t4]; omega), e4, t4, nI_toInt (by omega)]
          omega
        rw [e1, Int32.add_zero, show (16 : Int32) = nI 16 from rfl, pk_mul, Nat.mul_comm]
      have en : nI i - 4 + 1 = nI (i + 1) - 4 := by
        rw [fx_eq, fx_add (by rw [e4, ti_1]; omega) (by rw [e4, ti_1]; omega), e4, ti_1, min4 (show i + 1 ≤ 4 by omega)]
        omega
      have c1 : ¬ (0 : Int32) < 0 := by decide
      have c2 : ¬ nI (16 * i) < 0 := by rw [fx_lt, ti_0, nI_toInt (by omega)]; omega
      have c3 : ¬ (16 : Int32) < 0 := by decide
      have k0 : (0 : Int32).toNatClampNeg = 0 := by decide
      have k16 : (16 : Int32).toNatClampNeg = 16 := by decide
      have ki := nI_clamp (show 16 * i < 2 ^ 31 by omega)
      have l19 : gL (pL s 13 3 f) 1 9 = gL s 1 9 := rfl
      have l133 : gL (pL s 13 3 f) 13 3 = f := rfl
      refine ⟨.inl (nI (i + 1) - 4, pL s 13 3 (va_cpy (gL s 1 9) f 0 (16 * i) 16)), ?_, _, rfl, fun q x hq hx => ?_⟩
      · show m_X7_go_L8 j x1 x2 (nI i - 4) (pL s 13 3 f) = _
        rw [m_X7_go_L8, if_neg hg, m_X7_placeOf, ep, clk_some, cpLk, if_neg c1, if_neg c2, if_neg c3, k0, k16, ki, if_pos (by omega), if_pos (by omega), l19, l133, nmk, en]
        congr 3
        exact pL_pL s 13 3 f _
      · by_cases c : q = i
        · subst c
          rw [pk_cpy_in (by omega) (by omega)]
          congr 1
          omega
        · rw [pk_cpy_out (by omega)]
          exact h q x (by omega) hx) (by
      rintro r ⟨f, rfl, h⟩
      have hg : (0 : Int32) ≤ nI 4 - 4 := by rw [fx_le, ti_0, min4 (Nat.le_refl 4)]; omega
      refine ⟨.inr (pL s 13 3 f), ?_, f, rfl, h⟩
      show m_X7_go_L8 j x1 x2 (nI 4 - 4) (pL s 13 3 f) = _
      rw [m_X7_go_L8, if_pos hg]) FU 0 (-4, s) (by omega) (FU_lt (by omega)) ⟨gL s 13 3, by rw [pL_self]; rfl, fun q _ hq => absurd hq (Nat.not_lt_zero q)⟩
  obtain ⟨r, hr, f, rfl, h⟩ := hI
  exact ⟨f, hr, h⟩
/-- the end of a run of c whole turns -/
theorem go_end {j T c : Nat} {s : Sg} (hT : T ≤ 200) (hc : c ≤ T) (h : (gI s j 0 = 0 ∧ c = T) ∨ (¬ gI s j 0 = 0 ∧ gI s j 2 = nI c)) : ∃ s', m_X7_go_72 j (nI T) s = some ((), s') ∧ FrR j s s' ∧ (∀ k, k ≠ 6 → gI s' j k = gI s j k) ∧ gI s' j 6 = nI c ∧ gL s' 5 2 = gL s 5 2 ∧ (j ≠ 13 → gL s' 13 3 = gL s 13 3) ∧ (0 < c → ∀ x, x < 16 → gL s' j 7 x = gL s 13 3 (16 * (4 + (c - 1)) + x)) := by
  have e : m_X7_go_72 j (nI T) s = m_X7_go_88 j (nI c) s := by
    rw [m_X7_go_72, gIk]
    rcases h with ⟨h1, h2⟩ | ⟨h1, h2⟩
    · rw [if_pos h1, h2]
    · rw [if_neg h1, gIk, h2]
  have i6 : gI (pI s j 6 (nI c)) j 6 = nI c := by rw [gI_pI, if_pos rfl, if_pos rfl]
  have fr := frR_I j s 6 (nI c)
  rw [e, m_X7_go_88, sIk, gIk, i6]
  by_cases c0 : c = 0
  · have c' : nI c ≤ 0 := by rw [c0]; decide
    rw [if_pos c']
    exact ⟨pI s j 6 (nI c), rfl, fr, fun k hk => by rw [gI_pI, if_pos rfl, if_neg hk], i6, rfl, fun _ => rfl, fun q => by omega⟩
  · have c' : ¬ nI c ≤ 0 := by rw [fx_le, ti_0, nI_toInt (by omega)]; omega
    rw [if_neg c', gIk, i6]
    have ep : ((4 : Int32) + (nI c - 1)) * 16 + 0 = nI (16 * (4 + (c - 1))) := by
      rw [nI_prd (by omega) (by omega), Int32.add_zero, show (4 : Int32) = nI 4 from rfl, nI_add, show (16 : Int32) = nI 16 from rfl, pk_mul, Nat.mul_comm]
    have c1 : ¬ nI (16 * (4 + (c - 1))) < 0 := by rw [fx_lt, ti_0, nI_toInt (by omega)]; omega
    have c2 : ¬ (0 : Int32) < 0 := by decide
    have c3 : ¬ (16 : Int32) < 0 := by decide
    have k0 : (0 : Int32).toNatClampNeg = 0 := by decide
    have k16 : (16 : Int32).toNatClampNeg = 16 := by decide
    have ki := nI_clamp (show 16 * (4 + (c - 1)) < 2 ^ 31 by omega)
    refine ⟨pL (pI s j 6 (nI c)) j 7 (va_cpy (gL s 13 3) (gL s j 7) (16 * (4 + (c - 1))) 0 16), ?_, fr.trans (frR_7 j _ _), fun k hk => ?_, i6, ?_, fun hj => ?_, fun _ x hx => ?_⟩
    · rw [m_X7_placeOf, ep, clk_some, cpLk, if_neg c1, if_neg c2, if_neg c3, k0, k16, ki, if_pos (by omega), if_pos (by omega)]
      rfl
    · show gI (pI s j 6 (nI c)) j k = _
      rw [gI_pI, if_pos rfl, if_neg hk]
    · rw [gL_pL]
      by_cases q : 5 = j
      · rw [if_pos q, if_neg (by omega)]; rfl
      · rw [if_neg q]; rfl
    · rw [gL_pL, if_neg (by omega)]; rfl
    · rw [gL_pL, if_pos rfl, if_pos rfl, pk_cpy_in (by omega) (by omega)]
      congr 1
