-- 95.check: the call check
theorem rel_ck {sx sy sm tm : Sg} {n t : Nat} (h1 : WBo (gI sm 0 9) (gA sm 0 0) (gA sm 0 1) (gA sm 0 2) (gA sm 0 3) (gA sm 0 4) (gA sm 0 5) (gA sm 0 6) (gA sm 0 10) n) (h2 : WTo (gI sm 0 15) (gA sm 0 11) (gA sm 0 12) (gA sm 0 13) (gA sm 0 14) n t) (h3 : RBo sx sm) (h4 : RTo sx sm) (h5 : RRo sx sm) (h6 : RRe sx sm) (h7 : RTr sy tm) (h8 : ROu sx sm n) (f1 : ∀ j k, j ≠ 3 → j ≠ 4 → gI sy j k = gI sx j k) (f2 : ∀ j k, j ≠ 4 → j ≠ 11 → j ≠ 12 → gA sy j k = gA sx j k) (f3 : ∀ j k, gL sy j k = gL sx j k) (g1 : ∀ k, k ≠ 20 → gI tm 0 k = gI sm 0 k) (g2 : ∀ k, k < 16 ∨ (20 < k ∧ k ≠ 36) → gA tm 0 k = gA sm 0 k) (g3 : ∀ k, gL tm 0 k = gL sm 0 k) (hw : RWe sy n t) (hl : RLy sy tm n t) : Rel sy tm := by
  refine ⟨n, t, ?_, ?_, ?_, ?_, ?_, ?_, h7, ?_, hw, hl⟩
  · rw [g1 9 (by omega), g2 0 (by omega), g2 1 (by omega), g2 2 (by omega), g2 3 (by omega), g2 4 (by omega), g2 5 (by omega), g2 6 (by omega), g2 10 (by omega)]
    exact h1
  · rw [g1 15 (by omega), g2 11 (by omega), g2 12 (by omega), g2 13 (by omega), g2 14 (by omega)]
    exact h2
  · unfold RBo at h3 ⊢
    rw [f1 1 0 (by omega) (by omega), f2 1 1 (by omega) (by omega) (by omega), f2 1 2 (by omega) (by omega) (by omega), f2 1 3 (by omega) (by omega) (by omega), f2 1 4 (by omega) (by omega) (by omega), f2 1 5 (by omega) (by omega) (by omega), f2 1 6 (by omega) (by omega) (by omega), f2 1 7 (by omega) (by omega) (by omega), f3, f3, f2 1 10 (by omega) (by omega) (by omega), g1 9 (by omega), g2 0 (by omega), g2 1 (by omega), g2 2 (by omega), g2 3 (by omega), g2 4 (by omega), g2 5 (by omega), g2 6 (by omega), g2 10 (by omega), g3, g3]
    exact h3
  · unfold RTo at h4 ⊢
    rw [f1 2 0 (by omega) (by omega), f2 2 1 (by omega) (by omega) (by omega), f2 2 2 (by omega) (by omega) (by omega), f2 2 3 (by omega) (by omega) (by omega), f2 2 4 (by omega) (by omega) (by omega), g1 15 (by omega), g2 11 (by omega), g2 12 (by omega), g2 13 (by omega), g2 14 (by omega)]
    exact h4
  · unfold RRo at h5 ⊢
    rw [f2 5 0 (by omega) (by omega) (by omega), f2 5 1 (by omega) (by omega) (by omega), f3, g2 23 (by omega), g2 24 (by omega), g3]
    exact h5
  · unfold RRe at h6 ⊢
    rw [f2 0 10 (by omega) (by omega) (by omega), f1 0 9 (by omega) (by omega), g2 25 (by omega), g1 26 (by omega)]
    exact h6
  · unfold ROu at h8 ⊢
    rw [f1 16 0 (by omega) (by omega), f1 16 1 (by omega) (by omega), f1 16 2 (by omega) (by omega), f1 16 3 (by omega) (by omega), f1 16 4 (by omega) (by omega), f1 16 5 (by omega) (by omega), f1 16 6 (by omega) (by omega), f3, g1 38 (by omega), g1 39 (by omega), g1 40 (by omega), g1 41 (by omega), g1 42 (by omega), g1 43 (by omega), g1 44 (by omega), g3]
    exact h8
/-- an edge is ahead of another: by to, from, ticks, turns -/
def ltE (e g : Ed) : Prop := e.2.1 < g.2.1 ∨ (e.2.1 = g.2.1 ∧ (e.1 < g.1 ∨ (e.1 = g.1 ∧ (e.2.2.1 < g.2.2.1 ∨ (e.2.2.1 = g.2.2.1 ∧ e.2.2.2 < g.2.2.2)))))
theorem lt_tri (a b : Int32) (h1 : ¬ a < b) (h2 : ¬ b < a) : a = b := by
  rw [fx_lt] at h1 h2
  rw [fx_eq]
  omega
theorem ltE_tri {e g : Ed} (h1 : ¬ ltE e g) (h2 : ¬ ltE g e) : e = g := by
  unfold ltE at h1 h2
  have a := lt_tri e.2.1 g.2.1 (fun q => h1 (Or.inl q)) (fun q => h2 (Or.inl q))
  have b := lt_tri e.1 g.1 (fun q => h1 (Or.inr ⟨a, Or.inl q⟩)) (fun q => h2 (Or.inr ⟨a.symm, Or.inl q⟩))
  have c := lt_tri e.2.2.1 g.2.2.1 (fun q => h1 (Or.inr ⟨a, Or.inr ⟨b, Or.inl q⟩⟩)) (fun q => h2 (Or.inr ⟨a.symm, Or.inr ⟨b.symm, Or.inl q⟩⟩))
  have d := lt_tri e.2.2.2 g.2.2.2 (fun q => h1 (Or.inr ⟨a, Or.inr ⟨b, Or.inr ⟨c, q⟩⟩⟩)) (fun q => h2 (Or.inr ⟨a.symm, Or.inr ⟨b.symm, Or.inr ⟨c.symm, q⟩⟩⟩))
  obtain ⟨e1, e2, e3, e4⟩ := e
  obtain ⟨g1, g2, g3, g4⟩ := g
  dsimp only at a b c d
  rw [a, b, c, d]
theorem ltE_trans {e g k : Ed} (h1 : ltE e g) (h2 : ltE g k) : ltE e k := by
  unfold ltE at *
  simp only [fx_lt, fx_eq] at *
  omega
theorem ltE_irr (e : Ed) : ¬ ltE e e := by
  unfold ltE
  simp only [fx_lt, fx_eq]
  omega
theorem ltE_not {e g k : Ed} (h1 : ¬ ltE e g) (h2 : ltE k g) : ¬ ltE e k := fun q => h1 (ltE_trans q h2)
/-- whether an edge is broken by begins F at beat b -/
def brE (F : Nat → Int) (b : Int) (e : Ed) : Prop := F e.2.1.toNatClampNeg - F e.1.toNatClampNeg + b * e.2.2.2.toInt < e.2.2.1.toInt
/-- o is the place of the first broken one among the first i -/
def FbX (l : List Ed) (F : Nat → Int) (b : Int) (i : Nat) (x : Int32) : Prop := (x = -1 ∧ ∀ k (h : k < l.length), k < i → ¬ brE F b l[k]) ∨ ∃ k0, ∃ h0 : k0 < l.length, k0 < i ∧ x = nI k0 ∧ brE F b l[k0] ∧ ∀ k (h : k < l.length), k < i → brE F b l[k] → ¬ ltE l[k] l[k0]
theorem nm1 {k : Nat} (h : k < 2 ^ 31) : ¬ nI k = -1 := fun q => by
  rw [fx_eq, nI_toInt h, neg1] at q
  omega
theorem aheadX {s : Sg} {l : List Ed} (hl : LR (gI s 4 0) (gA s 4 1) (gA s 4 2) (gA s 4 3) (gA s 4 4) l) (hl2 : l.length ≤ 720) {i k : Nat} (hi : i < l.length) (hk : k < l.length) : (m_X1_isAhead 4 (nI i) (nI k) s = some (1, s) ∧ ltE l[i] l[k]) ∨ (m_X1_isAhead 4 (nI i) (nI k) s = some (0, s) ∧ ¬ ltE l[i] l[k]) := by
  have hln : lnE 4 = 720 := rfl
  have vi : vpb (nI i) (lnE 4) = true := by rw [hln]; exact vpb_nI (by omega) (by omega)
  have vk : vpb (nI k) (lnE 4) = true := by rw [hln]; exact vpb_nI (by omega) (by omega)
  have ci := nI_clamp (show i < 2 ^ 31 by omega)
  have ck := nI_clamp (show k < 2 ^ 31 by omega)
  have li := hl.2 i hi
  have lk := hl.2 k hk
  rw [li, lk]
  unfold ltE
  have nlt : ∀ a b : Int32, a ≤ b → ¬ b < a := fun a b h => by rw [fx_le] at h; rw [fx_lt]; omega
  have ylt : ∀ a b : Int32, ¬ a ≤ b → b < a := fun a b h => by rw [fx_le] at h; rw [fx_lt]; omega
  have irr : ∀ a b : Int32, a = b → ¬ a < b := fun a b h => by rw [h, fx_lt]; omega
  dsimp only
  simp only [m_X1_isAhead, lAk, if_pos vi, if_pos vk, ci, ck]
  by_cases c1 : gA s 4 2 i = gA s 4 2 k
  · rw [if_pos c1]
    by_cases c2 : gA s 4 1 i = gA s 4 1 k
    · rw [if_pos c2]
      by_cases c3 : gA s 4 3 i = gA s 4 3 k
      · rw [if_pos c3]
        by_cases c4 : gA s 4 4 k ≤ gA s 4 4 i
        · rw [if_pos c4]
          right
          refine ⟨rfl, ?_⟩
          rintro (q | ⟨-, q | ⟨-, q | ⟨-, q⟩⟩⟩)
          · exact irr _ _ c1 q
          · exact irr _ _ c2 q
          · exact irr _ _ c3 q
          · exact nlt _ _ c4 q
        · rw [if_neg c4]
          exact Or.inl ⟨rfl, Or.inr ⟨c1, Or.inr ⟨c2, Or.inr ⟨c3, ylt _ _ c4⟩⟩⟩⟩
      · rw [if_neg c3]
        by_cases c4 : gA s 4 3 k ≤ gA s 4 3 i
        · rw [if_pos c4]
          right
          refine ⟨rfl, ?_⟩
          rintro (q | ⟨-, q | ⟨-, q | ⟨q, -⟩⟩⟩)
          · exact irr _ _ c1 q
          · exact irr _ _ c2 q
          · exact nlt _ _ c4 q
          · exact c3 q
        · rw [if_neg c4]
          exact Or.inl ⟨rfl, Or.inr ⟨c1, Or.inr ⟨c2, Or.inl (ylt _ _ c4)⟩⟩⟩
    · rw [if_neg c2]
      by_cases c4 : gA s 4 1 k ≤ gA s 4 1 i
      · rw [if_pos c4]
        right
        refine ⟨rfl, ?_⟩
        rintro (q | ⟨-, q | ⟨q, -⟩⟩)
        · exact irr _ _ c1 q
        · exact nlt _ _ c4 q
        · exact c2 q
      · rw [if_neg c4]
        exact Or.inl ⟨rfl, Or.inr ⟨c1, Or.inl (ylt _ _ c4)⟩⟩
  · rw [if_neg c1]
    by_cases c4 : gA s 4 2 k ≤ gA s 4 2 i
    · rw [if_pos c4]
      right
      refine ⟨rfl, ?_⟩
      rintro (q | ⟨q, -⟩)
      · exact nlt _ _ c4 q
      · exact c1 q
    · rw [if_neg c4]
      exact Or.inl ⟨rfl, Or.inl (ylt _ _ c4)⟩
theorem brokenX {s : Sg} {n b : Nat} {l : List Ed} {F : Nat → Int} (hn : n ≤ 16) (hb : b ≤ 60) (h91 : gI s 9 1 = nI b) (hF : ∀ v, v < n → (gA s 9 6 v).toInt = F v ∧ 0 ≤ F v ∧ F v ≤ 100000) (hl : LR (gI s 4 0) (gA s 4 1) (gA s 4 2) (gA s 4 3) (gA s 4 4) l) (hl2 : l.length ≤ 720) (hok : ∀ e ∈ l, okEd n e) : ∃ x, m_X3_firstBroken s = some (x, s) ∧ FbX l F b l.length x := by
  have hln : lnE 4 = 720 := rfl
  have hI := ok_for (step := fun s : (Int32 × Int32 × Sg) => m_X3_firstBroken_L5 s.1 s.2.1 s.2.2) (Q := fun r => ∃ x, r = (x, s) ∧ FbX l F b l.length x) l.length (fun i r => ∃ x, r = (x, nI i, s) ∧ FbX l F b i x) (by
      rintro i r hi ⟨x, rfl, h⟩
      have vi : vpb (nI i) (lnE 4) = true := by rw [hln]; exact vpb_nI (by omega) (by omega)
      have ci := nI_clamp (show i < 2 ^ 31 by omega)
      have li := hl.2 i hi
      obtain ⟨o1, o2, o3, o4⟩ := hok l[i] (List.getElem_mem hi)
      have ebr : brE F b l[i] ↔ F (gA s 4 2 i).toNatClampNeg - F (gA s 4 1 i).toNatClampNeg + (b : Int) * (gA s 4 4 i).toInt < (gA s 4 3 i).toInt := by rw [li]; exact Iff.rfl
      rw [li] at o1 o2 o3 o4
      dsimp only at o1 o2 o3 o4
      have vA : vpb (gA s 4 1 i) 16 = true := by rw [vpb_iff]; have := o1.1; have := o1.2; omega
      have vB : vpb (gA s 4 2 i) 16 = true := by rw [vpb_iff]; have := o2.1; have := o2.2; omega
      have cA := fx_cl o1.1
      have cB := fx_cl o2.1
      obtain ⟨p1, p2, p3⟩ := hF (gA s 4 1 i).toNatClampNeg (by have := o1.2; omega)
      obtain ⟨q1, q2, q3⟩ := hF (gA s 4 2 i).toNatClampNeg (by have := o2.2; omega)
      obtain ⟨m1, m2, m3⟩ := bt_mul hb o4
      have s1 : (gA s 9 6 (gA s 4 2 i).toNatClampNeg - gA s 9 6 (gA s 4 1 i).toNatClampNeg).toInt = F (gA s 4 2 i).toNatClampNeg - F (gA s 4 1 i).toNatClampNeg := by rw [fx_sub (by rw [p1, q1]; omega) (by rw [p1, q1]; omega), p1, q1]
      have s2 : (gA s 9 6 (gA s 4 2 i).toNatClampNeg - gA s 9 6 (gA s 4 1 i).toNatClampNeg + nI b * gA s 4 4 i).toInt = F (gA s 4 2 i).toNatClampNeg - F (gA s 4 1 i).toNatClampNeg + (b : Int) * (gA s 4 4 i).toInt := by rw [fx_add (by rw [s1, m1]; omega) (by rw [s1, m1]; omega), s1, m1]
      have st : m_X3_firstBroken_L5 x (nI i) s = if gA s 9 6 (gA s 4 2 i).toNatClampNeg - gA s 9 6 (gA s 4 1 i).toNatClampNeg + nI b * gA s 4 4 i < gA s 4 3 i then m_X3_firstBroken_71 x (nI i) 0 s else m_X3_firstBroken_71 x (nI i) 1 s := by
        rw [m_X3_firstBroken_L5, gIk, hl.1, if_neg (nI_ge hi (by omega)), lAk, if_pos vi, ci, lAk, if_pos vB, lAk, if_pos vi, ci, lAk, if_pos vA, nmk, gIk, h91, lAk, if_pos vi, ci, lAk, if_pos vi, ci]
      show Ok (m_X3_firstBroken_L5 x (nI i) s) _
      rw [st]
      by_cases c : gA s 9 6 (gA s 4 2 i).toNatClampNeg - gA s 9 6 (gA s 4 1 i).toNatClampNeg + nI b * gA s 4 4 i < gA s 4 3 i
      · rw [if_pos c]
        have hbr : brE F b l[i] := by rw [fx_lt, s2] at c; exact ebr.mpr c
        rw [m_X3_firstBroken_71, nmk, if_pos rfl]
        rcases h with ⟨z1, z2⟩ | ⟨k0, h0, z0, z1, z2, z3⟩
        · rw [if_pos z1, nmk, nmk, nI_1]
          refine ⟨_, rfl, nI i, rfl, Or.inr ⟨i, hi, by omega, rfl, hbr, fun k hk hki hb' => ?_⟩⟩
          by_cases e : k = i
          · subst e; exact ltE_irr _
          · exact absurd hb' (z2 k hk (by omega))
        · subst z1
          rw [if_neg (nm1 (by omega))]
          rcases aheadX hl hl2 hi h0 with ⟨y1, y2⟩ | ⟨y1, y2⟩
          · rw [y1, clk_some, if_neg (show ¬ (1 : Int32) = 0 by decide), nmk, nmk, nI_1]
            refine ⟨_, rfl, nI i, rfl, Or.inr ⟨i, hi, by omega, rfl, hbr, fun k hk hki hb' => ?_⟩⟩
            by_cases e : k = i
            · subst e; exact ltE_irr _
            · exact ltE_not (z3 k hk (by omega) hb') y2
          · rw [y1, clk_some, if_pos rfl, nmk, nI_1]
            refine ⟨_, rfl, nI k0, rfl, Or.inr ⟨k0, h0, by omega, rfl, z2, fun k hk hki hb' => ?_⟩⟩
            by_cases e : k = i
            · subst e; exact y2
            · exact z3 k hk (by omega) hb'
      · rw [if_neg c]
        have hbr : ¬ brE F b l[i] := fun q => c (by rw [fx_lt, s2]; exact ebr.mp q)
        rw [m_X3_firstBroken_71, nmk, if_neg (show ¬ (1 : Int32) = 0 by decide), nmk, nI_1]
        refine ⟨_, rfl, x, rfl, ?_⟩
        rcases h with ⟨z1, z2⟩ | ⟨k0, h0, z0, z1, z2, z3⟩
        · refine Or.inl ⟨z1, fun k hk hki => ?_⟩
          by_cases e : k = i
          · subst e; exact hbr
          · exact z2 k hk (by omega)
        · refine Or.inr ⟨k0, h0, by omega, z1, z2, fun k hk hki hb' => ?_⟩
          by_cases e : k = i
          · subst e; exact absurd hb' hbr
          · exact z3 k hk (by omega) hb') (by
      rintro r ⟨x, rfl, h⟩
      refine ⟨.inr (x, s), ?_, x, rfl, h⟩
      show m_X3_firstBroken_L5 x (nI l.length) s = _
      rw [m_X3_firstBroken_L5, gIk, hl.1, if_pos (Int32.le_refl _)]) FU 0 (-1, 0, s) (by omega) (FU_lt (by omega)) ⟨-1, rfl, Or.inl ⟨rfl, fun k _ hk => absurd hk (Nat.not_lt_zero k)⟩⟩
  obtain ⟨r, hr, x, rfl, h⟩ := hI
  refine ⟨x, ?_, h⟩
  rw [m_X3_firstBroken, nmk, nmk, lpk, hr]
