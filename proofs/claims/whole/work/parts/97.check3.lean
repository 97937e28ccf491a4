-- 97.check3: the reference's first broken edge; the call check
def wrF (f : Nat → Int32) (e : Ed) : Nat → Int32 := upd (upd (upd (upd f 0 e.1) 1 e.2.1) 2 e.2.2.1) 3 e.2.2.2
theorem wr_wr (f : Nat → Int32) (e g : Ed) : wrF (wrF f e) g = wrF f g := by
  funext q
  unfold wrF
  simp only [upd_i]
  by_cases a : q = 3
  · rw [if_pos a, if_pos a]
  · by_cases b : q = 2
    · rw [if_neg a, if_pos b, if_neg a, if_pos b]
    · by_cases c : q = 1
      · rw [if_neg a, if_neg b, if_pos c, if_neg a, if_neg b, if_pos c]
      · by_cases d : q = 0
        · rw [if_neg a, if_neg b, if_neg c, if_pos d, if_neg a, if_neg b, if_neg c, if_pos d]
        · rw [if_neg a, if_neg b, if_neg c, if_neg d, if_neg a, if_neg b, if_neg c, if_neg d, if_neg a, if_neg b, if_neg c, if_neg d]
theorem wr_0 (f : Nat → Int32) (e : Ed) : wrF f e 0 = e.1 ∧ wrF f e 1 = e.2.1 ∧ wrF f e 2 = e.2.2.1 ∧ wrF f e 3 = e.2.2.2 := ⟨rfl, rfl, rfl, rfl⟩
def FbM (l : List Ed) (F : Nat → Int) (b : Int) (i : Nat) (f0 f : Nat → Int32) : Prop := (f = f0 ∧ ∀ k (h : k < l.length), k < i → ¬ brE F b l[k]) ∨ ∃ k0, ∃ h0 : k0 < l.length, k0 < i ∧ f = wrF f0 l[k0] ∧ brE F b l[k0] ∧ ∀ k (h : k < l.length), k < i → brE F b l[k] → ¬ ltE l[k] l[k0]
theorem aheadM {s0 : Sg} {l : List Ed} {n i : Nat} {f0 f : Nat → Int32} (hn : n ≤ 16) (hl : LR (gI s0 0 20) (gA s0 0 16) (gA s0 0 17) (gA s0 0 18) (gA s0 0 19) l) (hl2 : l.length ≤ 704) (hok : ∀ e ∈ l, okEd n e) (hi : i < l.length) (h01 : f0 1 = -1) (hf : f = f0 ∨ ∃ e ∈ l, f = wrF f0 e) : (m_X12_isAhead (nI i) (pA s0 0 36 f) = some (1, pA s0 0 36 f) ∧ (f = f0 ∨ ∃ e ∈ l, f = wrF f0 e ∧ ltE l[i] e)) ∨ (m_X12_isAhead (nI i) (pA s0 0 36 f) = some (0, pA s0 0 36 f) ∧ ∃ e ∈ l, f = wrF f0 e ∧ ¬ ltE l[i] e) := by
  have v0 : vpb (0 : Int32) 6 = true := by decide
  have v1 : vpb (1 : Int32) 6 = true := by decide
  have v2 : vpb (2 : Int32) 6 = true := by decide
  have v3 : vpb (3 : Int32) 6 = true := by decide
  have k0 : (0 : Int32).toNatClampNeg = 0 := by decide
  have k1 : (1 : Int32).toNatClampNeg = 1 := by decide
  have k2 : (2 : Int32).toNatClampNeg = 2 := by decide
  have k3 : (3 : Int32).toNatClampNeg = 3 := by decide
  have vi : vpb (nI i) 704 = true := vpb_nI (by omega) (by omega)
  have ci := nI_clamp (show i < 2 ^ 31 by omega)
  have a36 : gA (pA s0 0 36 f) 0 36 = f := rfl
  have a16 : gA (pA s0 0 36 f) 0 16 = gA s0 0 16 := rfl
  have a17 : gA (pA s0 0 36 f) 0 17 = gA s0 0 17 := rfl
  have a18 : gA (pA s0 0 36 f) 0 18 = gA s0 0 18 := rfl
  have a19 : gA (pA s0 0 36 f) 0 19 = gA s0 0 19 := rfl
  rcases hf with hf | ⟨e, he, hf⟩
  · left
    refine ⟨?_, Or.inl hf⟩
    have hneg : f 1 < 0 := by rw [hf, h01]; decide
    rw [m_X12_isAhead, lAk, if_pos v1, k1, a36, if_pos hneg, m_X12_isAhead_24, lAk, if_pos v1, k1, a36, if_pos hneg]
  have li := hl.2 i hi
  obtain ⟨w0, w1, w2, w3⟩ := wr_0 f0 e
  rw [← hf] at w0 w1 w2 w3
  have o2 := (hok e he).2.1
  have hnn : ¬ e.2.1 < 0 := by rw [fx_lt, ti_0]; have := o2.1; omega
  have nlt : ∀ a b : Int32, a ≤ b → ¬ b < a := fun a b h => by rw [fx_le] at h; rw [fx_lt]; omega
  have ylt : ∀ a b : Int32, ¬ a ≤ b → b < a := fun a b h => by rw [fx_le] at h; rw [fx_lt]; omega
  have irr : ∀ a b : Int32, a = b → ¬ a < b := fun a b h => by rw [h, fx_lt]; omega
  have e24 : m_X12_isAhead_24 (nI i) (pA s0 0 36 f) = if e.2.1 ≤ gA s0 0 17 i then some (0, pA s0 0 36 f) else some (1, pA s0 0 36 f) := by
    rw [m_X12_isAhead_24, lAk, if_pos v1, k1, a36, w1, if_neg hnn, lAk, if_pos vi, ci, a17, lAk, if_pos v1, k1, a36, w1]
  have key : (m_X12_isAhead (nI i) (pA s0 0 36 f) = some (1, pA s0 0 36 f) ∧ ltE l[i] e) ∨ (m_X12_isAhead (nI i) (pA s0 0 36 f) = some (0, pA s0 0 36 f) ∧ ¬ ltE l[i] e) := by
    rw [li]
    unfold ltE
    dsimp only
    rw [m_X12_isAhead, lAk, if_pos v1, k1, a36, w1, if_neg hnn, lAk, if_pos vi, ci, a17, lAk, if_pos v1, k1, a36, w1]
    by_cases c1 : gA s0 0 17 i = e.2.1
    · rw [if_pos c1, lAk, if_pos vi, ci, a16, lAk, if_pos v0, k0, a36, w0]
      by_cases c2 : gA s0 0 16 i = e.1
      · rw [if_pos c2, lAk, if_pos vi, ci, a18, lAk, if_pos v2, k2, a36, w2]
        by_cases c3 : gA s0 0 18 i = e.2.2.1
        · rw [if_pos c3, lAk, if_pos vi, ci, a19, lAk, if_pos v3, k3, a36, w3]
          by_cases c4 : e.2.2.2 ≤ gA s0 0 19 i
          · rw [if_pos c4]
            right
            refine ⟨rfl, ?_⟩
            rintro (q | ⟨-, q | ⟨-, q | ⟨-, q⟩⟩⟩)
            · exact irr _ _ c1 q
            · exact irr _ _ c2 q
            · exact irr _ _ c3 q
            · exact nlt _ _ c4 q
          · rw [if_neg c4]
            exact Or.inl ⟨rfl, Or.inr ⟨c1, Or.inr ⟨c2, Or.inr ⟨c3, ylt _ _ c4⟩⟩⟩⟩
        · rw [if_neg c3, lAk, if_pos vi, ci, a18, lAk, if_pos v2, k2, a36, w2]
          by_cases c4 : e.2.2.1 ≤ gA s0 0 18 i
          · rw [if_pos c4]
            right
            refine ⟨rfl, ?_⟩
            rintro (q | ⟨-, q | ⟨-, q | ⟨q, -⟩⟩⟩)
            · exact irr _ _ c1 q
            · exact irr _ _ c2 q
            · exact nlt _ _ c4 q
            · exact c3 q
          · rw [if_neg c4]
            exact Or.inl ⟨rfl, Or.inr ⟨c1, Or.inr ⟨c2, Or.inl (ylt _ _ c4)⟩⟩⟩
      · rw [if_neg c2, lAk, if_pos vi, ci, a16, lAk, if_pos v0, k0, a36, w0]
        by_cases c4 : e.1 ≤ gA s0 0 16 i
        · rw [if_pos c4]
          right
          refine ⟨rfl, ?_⟩
          rintro (q | ⟨-, q | ⟨q, -⟩⟩)
          · exact irr _ _ c1 q
          · exact nlt _ _ c4 q
          · exact c2 q
        · rw [if_neg c4]
          exact Or.inl ⟨rfl, Or.inr ⟨c1, Or.inl (ylt _ _ c4)⟩⟩
    · rw [if_neg c1, e24]
      by_cases c4 : e.2.1 ≤ gA s0 0 17 i
      · rw [if_pos c4]
        right
        refine ⟨rfl, ?_⟩
        rintro (q | ⟨q, -⟩)
        · exact nlt _ _ c4 q
        · exact c1 q
      · rw [if_neg c4]
        exact Or.inl ⟨rfl, Or.inl (ylt _ _ c4)⟩
  rcases key with ⟨y1, y2⟩ | ⟨y1, y2⟩
  · exact Or.inl ⟨y1, Or.inr ⟨e, he, hf, y2⟩⟩
  · exact Or.inr ⟨y1, e, he, hf, y2⟩
theorem brokenM {s0 : Sg} {n b : Nat} {l : List Ed} {F : Nat → Int} {f0 : Nat → Int32} (hn : n ≤ 16) (hb : b ≤ 60) (h27 : gI s0 0 27 = nI b) (hF : ∀ v, v < n → (gA s0 0 31 v).toInt = F v ∧ 0 ≤ F v ∧ F v ≤ 100000) (hl : LR (gI s0 0 20) (gA s0 0 16) (gA s0 0 17) (gA s0 0 18) (gA s0 0 19) l) (hl2 : l.length ≤ 704) (hok : ∀ e ∈ l, okEd n e) (h01 : f0 1 = -1) : ∃ f, lp (fun s : (Int32 × Sg) => m_X12_check_L24 s.1 s.2) FU (0, pA s0 0 36 f0) = some (pA s0 0 36 f) ∧ FbM l F b l.length f0 f := by
  have hI := ok_for (step := fun s : (Int32 × Sg) => m_X12_check_L24 s.1 s.2) (Q := fun r => ∃ f, r = pA s0 0 36 f ∧ FbM l F b l.length f0 f) l.length (fun i r => ∃ f, r = (nI i, pA s0 0 36 f) ∧ FbM l F b i f0 f) (by
      rintro i r hi ⟨f, rfl, h⟩
      have vi : vpb (nI i) 704 = true := vpb_nI (by omega) (by omega)
      have ci := nI_clamp (show i < 2 ^ 31 by omega)
      have li := hl.2 i hi
      obtain ⟨o1, o2, o3, o4⟩ := hok l[i] (List.getElem_mem hi)
      have ebr : brE F b l[i] ↔ F (gA s0 0 17 i).toNatClampNeg - F (gA s0 0 16 i).toNatClampNeg + (b : Int) * (gA s0 0 19 i).toInt < (gA s0 0 18 i).toInt := by rw [li]; exact Iff.rfl
      rw [li] at o1 o2 o3 o4
      dsimp only at o1 o2 o3 o4
      have vA : vpb (gA s0 0 16 i) 16 = true := by rw [vpb_iff]; have := o1.1; have := o1.2; omega
      have vB : vpb (gA s0 0 17 i) 16 = true := by rw [vpb_iff]; have := o2.1; have := o2.2; omega
      have cA := fx_cl o1.1
      have cB := fx_cl o2.1
      obtain ⟨p1, p2, p3⟩ := hF (gA s0 0 16 i).toNatClampNeg (by have := o1.2; omega)
      obtain ⟨q1, q2, q3⟩ := hF (gA s0 0 17 i).toNatClampNeg (by have := o2.2; omega)
      obtain ⟨m1, m2, m3⟩ := bt_mul hb o4
      have t1 := o3.1
      have t2 := o3.2
      have s1 : (gA s0 0 31 (gA s0 0 17 i).toNatClampNeg + nI b * gA s0 0 19 i).toInt = F (gA s0 0 17 i).toNatClampNeg + (b : Int) * (gA s0 0 19 i).toInt := by rw [fx_add (by rw [q1, m1]; omega) (by rw [q1, m1]; omega), q1, m1]
      have s2 : (gA s0 0 31 (gA s0 0 16 i).toNatClampNeg + gA s0 0 18 i).toInt = F (gA s0 0 16 i).toNatClampNeg + (gA s0 0 18 i).toInt := by rw [fx_add (by rw [p1]; omega) (by rw [p1]; omega), p1]
      have a36 : gA (pA s0 0 36 f) 0 36 = f := rfl
      have a16 : gA (pA s0 0 36 f) 0 16 = gA s0 0 16 := rfl
      have a17 : gA (pA s0 0 36 f) 0 17 = gA s0 0 17 := rfl
      have a18 : gA (pA s0 0 36 f) 0 18 = gA s0 0 18 := rfl
      have a19 : gA (pA s0 0 36 f) 0 19 = gA s0 0 19 := rfl
      have a31 : gA (pA s0 0 36 f) 0 31 = gA s0 0 31 := rfl
      have i20 : gI (pA s0 0 36 f) 0 20 = nI l.length := hl.1
      have i27 : gI (pA s0 0 36 f) 0 27 = nI b := h27
      have st : m_X12_check_L24 (nI i) (pA s0 0 36 f) = if gA s0 0 31 (gA s0 0 17 i).toNatClampNeg + nI b * gA s0 0 19 i < gA s0 0 31 (gA s0 0 16 i).toNatClampNeg + gA s0 0 18 i then m_X12_check_81 (nI i) 0 (pA s0 0 36 f) else m_X12_check_81 (nI i) 1 (pA s0 0 36 f) := by
        rw [m_X12_check_L24, gIk, i20, if_neg (nI_ge hi (by omega)), lAk, if_pos vi, ci, a17, lAk, if_pos vB, a31, gIk, i27, lAk, if_pos vi, ci, a19, lAk, if_pos vi, ci, a16, lAk, if_pos vA, a31, lAk, if_pos vi, ci, a18]
      show Ok (m_X12_check_L24 (nI i) (pA s0 0 36 f)) _
      rw [st]
      have hff : f = f0 ∨ ∃ e ∈ l, f = wrF f0 e := by
        rcases h with ⟨z1, -⟩ | ⟨k0, h0, -, z1, -⟩
        · exact Or.inl z1
        · exact Or.inr ⟨l[k0], List.getElem_mem h0, z1⟩
      have v0 : vpb (0 : Int32) 6 = true := by decide
      have v1 : vpb (1 : Int32) 6 = true := by decide
      have v2 : vpb (2 : Int32) 6 = true := by decide
      have v3 : vpb (3 : Int32) 6 = true := by decide
      have k0 : (0 : Int32).toNatClampNeg = 0 := by decide
      have k1 : (1 : Int32).toNatClampNeg = 1 := by decide
      have k2 : (2 : Int32).toNatClampNeg = 2 := by decide
      have k3 : (3 : Int32).toNatClampNeg = 3 := by decide
      by_cases c : gA s0 0 31 (gA s0 0 17 i).toNatClampNeg + nI b * gA s0 0 19 i < gA s0 0 31 (gA s0 0 16 i).toNatClampNeg + gA s0 0 18 i
      · rw [if_pos c]
        have hbr : brE F b l[i] := by rw [fx_lt, s1, s2] at c; exact ebr.mpr (by omega)
        rw [m_X12_check_81, nmk, if_pos rfl]
        rcases aheadM hn hl hl2 hok hi h01 hff with ⟨y1, y2⟩ | ⟨y1, e, he, y2, y3⟩
        · have set4 : (lAk (pA s0 0 36 f) 0 16 704 (nI i) fun v17 => sAk (pA s0 0 36 f) 0 36 6 0 v17 fun s18 => lAk s18 0 17 704 (nI i) fun v19 => sAk s18 0 36 6 1 v19 fun s20 => lAk s20 0 18 704 (nI i) fun v21 => sAk s20 0 36 6 2 v21 fun s22 => lAk s22 0 19 704 (nI i) fun v23 => sAk s22 0 36 6 3 v23 fun s24 => nmk (nI i + 1) fun a25 => some (.inl (a25, s24)) : Option ((Int32 × Sg) ⊕ (Sg))) = some (.inl (nI (i + 1), pA s0 0 36 (wrF f l[i]))) := by
            have x1 : ∀ g, gA (pA s0 0 36 g) 0 36 = g := fun g => rfl
            have x16 : ∀ g, gA (pA s0 0 36 g) 0 16 = gA s0 0 16 := fun g => rfl
            have x17 : ∀ g, gA (pA s0 0 36 g) 0 17 = gA s0 0 17 := fun g => rfl
            have x18 : ∀ g, gA (pA s0 0 36 g) 0 18 = gA s0 0 18 := fun g => rfl
            have x19 : ∀ g, gA (pA s0 0 36 g) 0 19 = gA s0 0 19 := fun g => rfl
            rw [li]
            simp only [lAk, sAk, if_pos vi, ci, if_pos v0, if_pos v1, if_pos v2, if_pos v3, k0, k1, k2, k3, pA_pA, x1, x16, x17, x18, x19, nmk, nI_1]
            rfl
          rw [y1, clk_some, if_neg (show ¬ (1 : Int32) = 0 by decide), set4]
          have ew : wrF f l[i] = wrF f0 l[i] := by
            rcases hff with q | ⟨e, -, q⟩
            · rw [q]
            · rw [q, wr_wr]
          rw [ew]
          refine ⟨_, rfl, wrF f0 l[i], rfl, Or.inr ⟨i, hi, by omega, rfl, hbr, fun k hk hki hb' => ?_⟩⟩
          by_cases e : k = i
          · subst e; exact ltE_irr _
          · rcases h with ⟨z1, z2⟩ | ⟨j0, h0, z0, z1, z2, z3⟩
            · exact absurd hb' (z2 k hk (by omega))
            · rcases y2 with q | ⟨g, hg, q1', q2'⟩
              · have e1 := congrFun q 1
                rw [z1, h01] at e1
                have e2 : l[j0].2.1 = -1 := e1
                have o := (hok l[j0] (List.getElem_mem h0)).2.1.1
                rw [e2, neg1] at o
                omega
              · have eg : g = l[j0] := by
                  have hw : wrF f0 l[j0] = wrF f0 g := by rw [← z1, ← q1']
                  obtain ⟨a0, a1, a2, a3⟩ := wr_0 f0 l[j0]
                  obtain ⟨b0, b1, b2, b3⟩ := wr_0 f0 g
                  rw [hw] at a0 a1 a2 a3
                  rw [a0] at b0
                  rw [a1] at b1
                  rw [a2] at b2
                  rw [a3] at b3
                  obtain ⟨g1, g2, g3, g4⟩ := g
                  generalize l[j0] = e at b0 b1 b2 b3
                  obtain ⟨e1, e2, e3, e4⟩ := e
                  dsimp only at b0 b1 b2 b3
                  rw [b0, b1, b2, b3]
                rw [eg] at q2'
                exact ltE_not (z3 k hk (by omega) hb') q2'
        · rw [y1, clk_some, if_pos rfl, nmk, nI_1]
          refine ⟨_, rfl, f, rfl, ?_⟩
          rcases h with ⟨z1, z2⟩ | ⟨j0, h0, z0, z1, z2, z3⟩
          · have e1 := congrFun (z1.symm.trans y2) 1
            rw [h01] at e1
            have e2 : e.2.1 = -1 := e1.symm
            have o := (hok e he).2.1.1
            rw [e2, neg1] at o
            omega
          · refine Or.inr ⟨j0, h0, by omega, z1, z2, fun k hk hki hb' => ?_⟩
            by_cases e' : k = i
            · subst e'
              have eg : e = l[j0] := by
                have hw : wrF f0 l[j0] = wrF f0 e := by rw [← z1, ← y2]
                obtain ⟨a0, a1, a2, a3⟩ := wr_0 f0 l[j0]
                obtain ⟨b0, b1, b2, b3⟩ := wr_0 f0 e
                rw [hw] at a0 a1 a2 a3
                rw [a0] at b0
                rw [a1] at b1
                rw [a2] at b2
                rw [a3] at b3
                obtain ⟨g1, g2, g3, g4⟩ := e
                generalize l[j0] = u at b0 b1 b2 b3
                obtain ⟨e1, e2, e3, e4⟩ := u
                dsimp only at b0 b1 b2 b3
                rw [b0, b1, b2, b3]
              rw [← eg]; exact y3
            · exact z3 k hk (by omega) hb'
      · rw [if_neg c]
        have hbr : ¬ brE F b l[i] := fun q => c (by rw [fx_lt, s1, s2]; have := ebr.mp q; omega)
        rw [m_X12_check_81, nmk, if_neg (show ¬ (1 : Int32) = 0 by decide), nmk, nI_1]
        refine ⟨_, rfl, f, rfl, ?_⟩
        rcases h with ⟨z1, z2⟩ | ⟨k0, h0, z0, z1, z2, z3⟩
        · refine Or.inl ⟨z1, fun k hk hki => ?_⟩
          by_cases e : k = i
          · subst e; exact hbr
          · exact z2 k hk (by omega)
        · refine Or.inr ⟨k0, h0, by omega, z1, z2, fun k hk hki hb' => ?_⟩
          by_cases e : k = i
          · subst e; exact absurd hb' hbr
          · exact z3 k hk (by omega) hb') (by
      rintro r ⟨f, rfl, h⟩
      have i20 : gI (pA s0 0 36 f) 0 20 = nI l.length := hl.1
      refine ⟨.inr (pA s0 0 36 f), ?_, f, rfl, h⟩
      show m_X12_check_L24 (nI l.length) (pA s0 0 36 f) = _
      rw [m_X12_check_L24, gIk, i20, if_pos (Int32.le_refl _)]) FU 0 (0, pA s0 0 36 f0) (by omega) (FU_lt (by omega)) ⟨f0, rfl, Or.inl ⟨rfl, fun k _ hk => absurd hk (Nat.not_lt_zero k)⟩⟩
  obtain ⟨r, hr, f, rfl, h⟩ := hI
  exact ⟨f, hr, h⟩
theorem unwrong_eq (s : Sg) : m_X12_unwrong s = some ((), pA s 0 36 (filF 6 (-1) (gA s 0 36))) := by
  have hI := ok_for (step := fun r : (Int32 × Sg) => m_X12_unwrong_L2 r.1 r.2) (Q := fun r => r = pA s 0 36 (filF 6 (-1) (gA s 0 36))) 6 (fun i r => r = (nI i, pA s 0 36 (filF i (-1) (gA s 0 36)))) (by
      rintro i r hi rfl
      have hg : ¬ (6 : Int32) ≤ nI i := nI_ge (a := i) (b := 6) hi (by omega)
      have vi : vpb (nI i) 6 = true := vpb_nI (by omega) (by omega)
      have ci := nI_clamp (show i < 2 ^ 31 by omega)
      have a36 : gA (pA s 0 36 (filF i (-1) (gA s 0 36))) 0 36 = filF i (-1) (gA s 0 36) := rfl
      have h3 : upd (filF i (-1) (gA s 0 36)) i (-1) = filF (i + 1) (-1) (gA s 0 36) := by
        funext q
        by_cases hq : q = i
        · subst hq; simp [upd, filF]
        · have : q < i + 1 ↔ q < i := by omega
          simp [upd, filF, hq, this]
      refine ⟨.inl (nI (i + 1), pA s 0 36 (filF (i + 1) (-1) (gA s 0 36))), ?_, rfl⟩
      show m_X12_unwrong_L2 (nI i) (pA s 0 36 (filF i (-1) (gA s 0 36))) = _
      rw [m_X12_unwrong_L2, if_neg hg, sAk, if_pos vi, ci, a36, h3, pA_pA, nmk, nI_1]) (by
      rintro r rfl
      refine ⟨.inr (pA s 0 36 (filF 6 (-1) (gA s 0 36))), ?_, rfl⟩
      show m_X12_unwrong_L2 (nI 6) (pA s 0 36 (filF 6 (-1) (gA s 0 36))) = _
      rw [m_X12_unwrong_L2, if_pos (show (6 : Int32) ≤ nI 6 by decide)]) FU 0 (0, s) (by omega) (FU_lt (by omega)) (by
        have e : filF 0 (-1) (gA s 0 36) = gA s 0 36 := by funext q; simp [filF]
        rw [e, pA_self]
        rfl)
  obtain ⟨r, hr, rfl⟩ := hI
  rw [m_X12_unwrong, nmk, lpk, hr]
theorem s_check {sx sm : Sg} (h : Rel sx sm) : Sim (m_X11_check sx) (m_X12_check sm) := by
  obtain ⟨n, t, h1, h2, h3, h4, h5, h6, h7, h8, h9, h10⟩ := id h
  have hn := h1.2.1
  have n10 : ¬ (1 : Int32) = 0 := by decide
  rcases ly_b h10 with ⟨q1, q2⟩ | ⟨q1, q2, b, T, S, p, q, ⟨⟨b1, b2, b3, b4, b5⟩, b6⟩, -⟩
  · rw [m_X11_check, gIk, if_pos q1, clk_id, m_X12_check, gIk, if_pos q2, clk_id]
    exact sim_ref (inR_lit _ _ rfl) h
  have ly : LyEq sx sm n ∧ LyX sx n t ∧ gI sx 9 0 = 1 := by
    rcases h10 with ⟨z, -⟩ | ⟨z1, z2, z3⟩
    · exact absurd z q1
    · exact ⟨z2, z3, z1⟩
  obtain ⟨⟨l1, l2, l3⟩, lX, l0⟩ := ly
  obtain ⟨F, hF⟩ : ∃ F : Nat → Nat, F = fun v => (gA sm 0 31 v).toNatClampNeg := ⟨_, rfl⟩
  have F31 : ∀ v, v < n → gA sm 0 31 v = nI (F v) ∧ F v ≤ 100000 := fun v hv => by
    have r := (l3 v hv).2.2.2.2
    have c := fx_cl r.1
    have e : F v = (gA sm 0 31 v).toNatClampNeg := by rw [hF]
    exact ⟨by rw [e]; exact fx_nI r.1, by rw [e]; have := r.2; omega⟩
  have F96 : ∀ v, v < n → gA sx 9 6 v = nI (F v) ∧ F v ≤ 100000 := fun v hv => ⟨by rw [(l3 v hv).2.2.2.1]; exact (F31 v hv).1, (F31 v hv).2⟩
  have hokM := all_ok h1 h2
  -- the class: the weave renewed, the findings cleared
  obtain ⟨sy, r1, r2, r3, r4⟩ := renew_eq (h3.1.trans h1.1) hn (h4.1.trans h2.1) h2.2.1 h9
  have fY : FrX sx sy := frX_w r2
  obtain ⟨lx, hl, hp⟩ := wv_all fY h3 h4 r4
  have hokX : ∀ e ∈ lx, okEd n e := fun e he => hokM e (hp.mem_iff.mp he)
  have hlx : lx.length ≤ 720 := by rw [hp.length_eq]; have := allM_len (sm := sm) hn h2.2.1; omega
  obtain ⟨f0, hf0⟩ : ∃ f0, f0 = filF 6 (-1) (gA sm 0 36) := ⟨_, rfl⟩
  have f01 : f0 1 = -1 := by rw [hf0]; rfl
  have e11 : gA sy 11 0 = gA sm 0 36 := (r2.2.1 11 0 (by omega)).trans h7.2
  have X1 : m_J7_fill_53178 11 0 6 (-1) sy = some ((), pA sy 11 0 f0) := by rw [fill_eq 11 0 6 (-1) (by omega), e11, hf0]
  obtain ⟨x, x1, x2⟩ := brokenX (s := pA sy 11 0 f0) (F := fun v => (F v : Int)) hn b2 ((r2.1 9 1 (by omega) (by omega)).trans b3) (fun v hv => by
      have e : gA (pA sy 11 0 f0) 9 6 = gA sx 9 6 := r2.2.1 9 6 (by omega)
      have := (F96 v hv).2
      rw [e, (F96 v hv).1, nI_toInt (by omega)]
      exact ⟨rfl, by omega, by omega⟩) hl hlx hokX
  -- the reference: the same
  obtain ⟨sg, g1, g2⟩ := gather_eq (sm := pA sm 0 36 f0) (n := n) (t := t) h1.1 hn h2.1 h2.2.1
  have eall : allM (pA sm 0 36 f0) n t = allM sm n t := rfl
  rw [eall] at g2
  have esg : pA sg 0 36 f0 = sg := by
    have : gA sg 0 36 = f0 := g2.2.1 36 (by omega)
    rw [← this, pA_self]
  obtain ⟨f, m1, m2⟩ := brokenM (s0 := sg) (n := n) (b := b) (F := fun v => (F v : Int)) (f0 := f0) hn b2 ((g2.1 27 (by omega)).trans b4) (fun v hv => by
      have e : gA sg 0 31 = gA sm 0 31 := g2.2.1 31 (by omega)
      have := (F31 v hv).2
      rw [e, (F31 v hv).1, nI_toInt (by omega)]
      exact ⟨rfl, by omega, by omega⟩) g2.2.2.2 (allM_len hn h2.2.1) hokM f01
  rw [esg] at m1
  -- frames for the end
  have mkR : ∀ (sz tz : Sg) (w : Nat → Int32), (∀ j k, gI sz j k = gI sy j k) → (∀ j k, j ≠ 11 → j ≠ 12 → gA sz j k = gA sy j k) → (∀ j k, gL sz j k = gL sy j k) → gA sz 11 0 = w → (∀ k, gI tz 0 k = gI sg 0 k) → (∀ k, k ≠ 36 → gA tz 0 k = gA sg 0 k) → (∀ k, gL tz 0 k = gL sg 0 k) → gA tz 0 36 = w → Rel sz tz := fun sz tz w a1 a2 a3 a4 c1 c2 c3 c4 => by
    have f1 : ∀ j k, j ≠ 3 → j ≠ 4 → gI sz j k = gI sx j k := fun j k u1 u2 => (a1 j k).trans (r2.1 j k u1 u2)
    have f2 : ∀ j k, j ≠ 4 → j ≠ 11 → j ≠ 12 → gA sz j k = gA sx j k := fun j k u1 u2 u3 => (a2 j k u2 u3).trans (r2.2.1 j k u1)
    have f3 : ∀ j k, gL sz j k = gL sx j k := fun j k => (a3 j k).trans (r2.2.2 j k)
    have g1' : ∀ k, k ≠ 20 → gI tz 0 k = gI sm 0 k := fun k u => (c1 k).trans (g2.1 k u)
    have g2' : ∀ k, k < 16 ∨ (20 < k ∧ k ≠ 36) → gA tz 0 k = gA sm 0 k := fun k u => (c2 k (by omega)).trans ((g2.2.1 k (by omega)).trans (by rw [gA_pA2, if_pos rfl, if_neg (by omega)]))
    have g3' : ∀ k, gL tz 0 k = gL sm 0 k := fun k => (c3 k).trans (g2.2.2.1 k)
    refine rel_ck h1 h2 h3 h4 h5 h6 ?_ h8 f1 f2 f3 g1' g2' g3' (Or.inr ⟨(a1 3 2).trans r3, ?_⟩) ?_
    · exact ⟨by rw [f1 7 10 (by omega) (by omega), g1' 32 (by omega)]; exact h7.1, by rw [a4, c4]⟩
    · have r4' := r4
      unfold WvOk at r4' ⊢
      rw [a1 3 1, a1 4 0, a2 4 1 (by omega) (by omega), a2 4 2 (by omega) (by omega), a2 4 3 (by omega) (by omega), a2 4 4 (by omega) (by omega), a2 1 1 (by omega) (by omega), a2 1 2 (by omega) (by omega), a2 1 5 (by omega) (by omega), a2 1 6 (by omega) (by omega), a2 1 7 (by omega) (by omega), a2 2 1 (by omega) (by omega), a2 2 2 (by omega) (by omega), a2 2 3 (by omega) (by omega), a2 2 4 (by omega) (by omega)]
      exact r4'
    · refine Or.inr ⟨(f1 9 0 (by omega) (by omega)).trans l0, ?_, lyX_congr (fun k => f1 9 k (by omega) (by omega)) (fun k => f2 1 k (by omega) (by omega) (by omega)) (fun k => f2 2 k (by omega) (by omega) (by omega)) (fun k _ => f2 9 k (by omega) (by omega) (by omega)) (f2 10 0 (by omega) (by omega) (by omega)) lX⟩
      unfold LyEq
      rw [f1 9 1 (by omega) (by omega), f2 9 3 (by omega) (by omega) (by omega), f2 9 4 (by omega) (by omega) (by omega), f2 9 5 (by omega) (by omega) (by omega), f2 9 6 (by omega) (by omega) (by omega), g1' 27 (by omega), g2' 28 (by omega), g2' 29 (by omega), g2' 30 (by omega), g2' 31 (by omega)]
      exact ⟨l1, l2, l3⟩
  have XC : m_X11_check sx = m_X3_look sy := by
    rw [m_X11_check, gIk, if_neg q1, r1, clk_some, clk_id]
  have v1' : vpb (1 : Int32) 6 = true := by decide
  have k1' : (1 : Int32).toNatClampNeg = 1 := by decide
  have MC : m_X12_check sm = if f 1 < 0 then (lpk (fun s : (Int32 × Sg) => m_X12_check_L164 s.1 s.2) FU (0, pA sg 0 36 f) (Sum.elim (fun r38 => some (0, r38)) (fun r38 => sAk r38.2.2 0 36 6 4 r38.1 fun s39 => sAk s39 0 36 6 5 r38.2.1 fun s40 => some (2, s40)))) else some (1, pA sg 0 36 f) := by
    rw [m_X12_check, gIk, if_neg q2, unwrong_eq, clk_some, ← hf0, g1, clk_some, nmk, lpk, m1]
    show (lAk (pA sg 0 36 f) 0 36 6 1 fun v28 => _) = _
    rw [lAk, if_pos v1', k1']
    rfl
  rw [XC, MC]
  -- both find the same edge, or none
  rcases x2 with ⟨z1, z2⟩ | ⟨k0, hk0, -, z1, z2, z3⟩
  · rcases m2 with ⟨y1, y2⟩ | ⟨j0, hj0, -, y1, y2, y3⟩
    case inr =>
      have hm := hp.mem_iff.mpr (List.getElem_mem hj0)
      obtain ⟨k, hk, e⟩ := List.mem_iff_getElem.mp hm
      exact absurd (by rw [e]; exact y2) (z2 k hk hk)
    subst z1
    rw [y1]
    have hneg : f0 1 < 0 := by rw [f01]; decide
    rw [if_pos hneg]
    have hx : gI (pA sy 11 0 f0) 1 0 = nI n := (r2.1 1 0 (by omega) (by omega)).trans (h3.1.trans h1.1)
    have B3 : gA (pA sy 11 0 f0) 1 3 = gA sm 0 2 := (r2.2.1 1 3 (by omega)).trans h3.2.2.2.1
    have B4 : gA (pA sy 11 0 f0) 1 4 = gA sm 0 3 := (r2.2.1 1 4 (by omega)).trans h3.2.2.2.2.1
    have B10 : gA (pA sy 11 0 f0) 1 10 = gA sm 0 10 := (r2.2.1 1 10 (by omega)).trans h3.2.2.2.2.2.2.2.2.2.2
    obtain ⟨fc, cx⟩ := crowdX (s := pA sy 11 0 f0) (F := F) hn b1 b2 hx ((r2.1 9 1 (by omega) (by omega)).trans b3) (fun v hv => by
        have e : gA (pA sy 11 0 f0) 9 6 = gA sx 9 6 := r2.2.1 9 6 (by omega)
        rw [e]; exact F96 v hv) (fun v hv => by
        rw [B3, B4]
        obtain ⟨-, -, o1, o2, -⟩ := h1.2.2.1 v hv
        exact ⟨o1, by have := o2.1; omega, o2.2⟩)
    have M2 : gA (pA sg 0 36 f0) 0 2 = gA sm 0 2 := g2.2.1 2 (by omega)
    have M3 : gA (pA sg 0 36 f0) 0 3 = gA sm 0 3 := g2.2.1 3 (by omega)
    have M10 : gA (pA sg 0 36 f0) 0 10 = gA sm 0 10 := g2.2.1 10 (by omega)
    have cm := crowdM (s := pA sg 0 36 f0) (F := F) hn b1 b2 ((g2.1 9 (by omega)).trans h1.1) ((g2.1 27 (by omega)).trans b4) (fun v hv => by
        have e : gA (pA sg 0 36 f0) 0 31 = gA sm 0 31 := g2.2.1 31 (by omega)
        rw [e]; exact F31 v hv) (fun v hv => by
        rw [M3]
        obtain ⟨-, -, o1, o2, -⟩ := h1.2.2.1 v hv
        exact ⟨by have := o2.1; omega, o2.2⟩)
    rw [B3, B4, B10] at cx
    rw [M2, M3, M10] at cm
    have XL : m_X3_look sy = clk (m_X3_findCrowd (pA sy 11 0 f0)) fun v6 s5 => if v6 = 0 then (some (0, s5)) else some (2, s5) := by
      rw [m_X3_look, X1, clk_some, x1, clk_some, nmk, if_pos rfl]
    rw [XL, lpk]
    rcases cx with ⟨w1, w2⟩ | ⟨k, r, w1, w2⟩
    · rcases cm with ⟨u1, u2⟩ | ⟨k', r', u1, u2⟩
      case inr => exact absurd u2.2.2.1 (w2 k' r' u2.1 u2.2.1)
      rw [w1, u1, clk_some, if_pos rfl]
      refine ⟨0, _, _, rfl, rfl, mkR _ _ f0 (fun _ _ => rfl) (fun j k u v => by rw [gA_pA2, if_neg v, gA_pA2, if_neg u]) (fun _ _ => rfl) rfl (fun _ => rfl) (fun k u => by rw [gA_pA2, if_pos rfl, if_neg u]) (fun _ => rfl) rfl⟩
    · rcases cm with ⟨u1, u2⟩ | ⟨k', r', u1, u2⟩
      · exact absurd w2.2.2.1 (u2 k r w2.1 w2.2.1)
      obtain ⟨ek, er⟩ := crK_uni w2 u2
      subst ek er
      rw [w1, u1, clk_some, if_neg n10]
      have v4 : vpb (4 : Int32) 6 = true := by decide
      have v5 : vpb (5 : Int32) 6 = true := by decide
      have c4 : (4 : Int32).toNatClampNeg = 4 := by decide
      have c5 : (5 : Int32).toNatClampNeg = 5 := by decide
      refine ⟨2, _, pA sg 0 36 (upd (upd f0 4 (nI k)) 5 (nI r)), rfl, ?_, ?_⟩
      · show (sAk (pA sg 0 36 f0) 0 36 6 4 (nI k) fun s39 => sAk s39 0 36 6 5 (nI r) fun s40 => some ((2 : Int32), s40)) = _
        rw [sAk, if_pos v4, c4, sAk, if_pos v5, c5]
        show some ((2 : Int32), pA (pA (pA sg 0 36 f0) 0 36 (upd f0 4 (nI k))) 0 36 (upd (upd f0 4 (nI k)) 5 (nI r))) = _
        rw [pA_pA, pA_pA]
      · exact mkR _ _ (upd (upd f0 4 (nI k)) 5 (nI r)) (fun _ _ => rfl) (fun j k u v => by rw [gA_pA2, if_neg u, gA_pA2, if_neg v, gA_pA2, if_neg u]) (fun _ _ => rfl) rfl (fun _ => rfl) (fun k u => by rw [gA_pA2, if_pos rfl, if_neg u]) (fun _ => rfl) rfl
  · rcases m2 with ⟨y1, y2⟩ | ⟨j0, hj0, -, y1, y2, y3⟩
    · have hm := hp.mem_iff.mp (List.getElem_mem hk0)
      obtain ⟨k, hk, e⟩ := List.mem_iff_getElem.mp hm
      exact absurd (by rw [e]; exact z2) (y2 k hk hk)
    -- the same edge
    have ee : lx[k0] = (allM sm n t)[j0] := by
      refine ltE_tri ?_ ?_
      · have hm := hp.mem_iff.mp (List.getElem_mem hk0)
        obtain ⟨k, hk, e⟩ := List.mem_iff_getElem.mp hm
        have := y3 k hk hk (by rw [e]; exact z2)
        rw [e] at this
        exact this
      · have hm := hp.mem_iff.mpr (List.getElem_mem hj0)
        obtain ⟨k, hk, e⟩ := List.mem_iff_getElem.mp hm
        have := z3 k hk hk (by rw [e]; exact y2)
        rw [e] at this
        exact this
    subst z1
    have o := (hokM _ (List.getElem_mem hj0)).2.1.1
    have hneg : ¬ f 1 < 0 := by
      rw [y1, (wr_0 f0 _).2.1, fx_lt, ti_0]
      omega
    rw [if_neg hneg]
    have hln : lnE 4 = 720 := rfl
    have vk : vpb (nI k0) (lnE 4) = true := by rw [hln]; exact vpb_nI (by omega) (by omega)
    have ck := nI_clamp (show k0 < 2 ^ 31 by omega)
    have v0 : vpb (0 : Int32) 6 = true := by decide
    have v2 : vpb (2 : Int32) 6 = true := by decide
    have v3 : vpb (3 : Int32) 6 = true := by decide
    have c0 : (0 : Int32).toNatClampNeg = 0 := by decide
    have c2 : (2 : Int32).toNatClampNeg = 2 := by decide
    have c3 : (3 : Int32).toNatClampNeg = 3 := by decide
    have XL : m_X3_look sy = some (1, pA sy 11 0 (wrF f0 lx[k0])) := by
      have x11 : ∀ g, gA (pA sy 11 0 g) 11 0 = g := fun g => rfl
      have x4 : ∀ g k, gA (pA sy 11 0 g) 4 k = gA sy 4 k := fun g k => rfl
      rw [m_X3_look, X1, clk_some, x1, clk_some, nmk, if_neg (nm1 (by omega)), hl.2 k0 hk0]
      simp only [lAk, sAk, if_pos vk, ck, if_pos v0, if_pos v1', if_pos v2, if_pos v3, c0, k1', c2, c3, pA_pA, x11, x4]
      rfl
    rw [XL, y1, ee]
    refine ⟨1, _, _, rfl, rfl, mkR _ _ (wrF f0 (allM sm n t)[j0]) (fun _ _ => rfl) (fun j k u v => by rw [gA_pA2, if_neg u]) (fun _ _ => rfl) rfl (fun _ => rfl) (fun k u => by rw [gA_pA2, if_pos rfl, if_neg u]) (fun _ => rfl) rfl⟩
