-- 99b.plain: plain runs on both sides
def FrR (j0 : Nat) (s s' : Sg) : Prop := (∀ j k, j ≠ j0 → gI s' j k = gI s j k) ∧ (∀ j k, gA s' j k = gA s j k) ∧ ∀ j k, ¬ (j = 13 ∧ k = 3) → ¬ (j = 5 ∧ k = 2) → ¬ (j = j0 ∧ k = 7) → gL s' j k = gL s j k
def FrN (s s' : Sg) : Prop := (∀ k, k < 38 ∨ 44 < k → gI s' 0 k = gI s 0 k) ∧ (∀ k, gA s' 0 k = gA s 0 k) ∧ ∀ k, k ≠ 21 → k ≠ 37 → gL s' 0 k = gL s 0 k
theorem FrR.refl (j : Nat) (s : Sg) : FrR j s s := ⟨fun _ _ _ => rfl, fun _ _ => rfl, fun _ _ _ _ _ => rfl⟩
theorem FrR.trans {j : Nat} {a b c : Sg} (h : FrR j a b) (g : FrR j b c) : FrR j a c := ⟨fun i k x => (g.1 i k x).trans (h.1 i k x), fun i k => (g.2.1 i k).trans (h.2.1 i k), fun i k x y z => (g.2.2 i k x y z).trans (h.2.2 i k x y z)⟩
theorem FrN.refl (s : Sg) : FrN s s := ⟨fun _ _ => rfl, fun _ => rfl, fun _ _ _ => rfl⟩
theorem FrN.trans {a b c : Sg} (h : FrN a b) (g : FrN b c) : FrN a c := ⟨fun k x => (g.1 k x).trans (h.1 k x), fun k => (g.2.1 k).trans (h.2.1 k), fun k x y => (g.2.2 k x y).trans (h.2.2 k x y)⟩
theorem frR_I (j : Nat) (s : Sg) (k : Nat) (v : Int32) : FrR j s (pI s j k v) := ⟨fun i k' h => by rw [gI_pI, if_neg h], fun _ _ => rfl, fun _ _ _ _ _ => rfl⟩
theorem frR_13 (j : Nat) (s : Sg) (f : Nat → Int64) : FrR j s (pL s 13 3 f) := ⟨fun _ _ _ => rfl, fun _ _ => rfl, fun i k h _ _ => by
  rw [gL_pL]
  by_cases c : i = 13
  · rw [if_pos c, if_neg (fun q => h ⟨c, q⟩)]
  · rw [if_neg c]⟩
theorem frR_5 (j : Nat) (s : Sg) (f : Nat → Int64) : FrR j s (pL s 5 2 f) := ⟨fun _ _ _ => rfl, fun _ _ => rfl, fun i k _ h _ => by
  rw [gL_pL]
  by_cases c : i = 5
  · rw [if_pos c, if_neg (fun q => h ⟨c, q⟩)]
  · rw [if_neg c]⟩
theorem frR_7 (j : Nat) (s : Sg) (f : Nat → Int64) : FrR j s (pL s j 7 f) := ⟨fun _ _ _ => rfl, fun _ _ => rfl, fun i k _ _ h => by
  rw [gL_pL]
  by_cases c : i = j
  · rw [if_pos c, if_neg (fun q => h ⟨c, q⟩)]
  · rw [if_neg c]⟩
theorem frN_I (s : Sg) {k : Nat} (hk : 38 ≤ k ∧ k ≤ 44) (v : Int32) : FrN s (pI s 0 k v) := ⟨fun k' h => by rw [gI_pI, if_pos rfl, if_neg (by omega)], fun _ => rfl, fun _ _ _ => rfl⟩
theorem frN_L (s : Sg) {k : Nat} (hk : k = 21 ∨ k = 37) (f : Nat → Int64) : FrN s (pL s 0 k f) := ⟨fun _ _ => rfl, fun _ => rfl, fun k' h1 h2 => by rw [gL_pL, if_pos rfl, if_neg (by omega)]⟩
/-- what a run needs of the body -/
def RunC (sx0 sm0 : Sg) (n : Nat) : Prop := BdS sx0 sm0 n ∧ gI sx0 1 0 = nI n ∧ gI sm0 0 9 = nI n ∧ gA sx0 1 2 = gA sm0 0 1 ∧ n ≤ 16 ∧ 0 < n ∧ ∀ a w, a < n → w < 3 → 0 ≤ (gA sm0 0 5 (3 * a + w)).toInt → (gA sm0 0 5 (3 * a + w)).toInt < (n : Int) ∧ ((gA sm0 0 6 (3 * a + w)).toInt = 0 → (gA sm0 0 5 (3 * a + w)).toInt < (a : Int)) ∧ inR (gA sm0 0 6 (3 * a + w)) 0 4
theorem bds_fr {sx0 sm0 sx sm : Sg} {n j : Nat} (hj : j = 14 ∨ j = 15 ∨ j = 16) (h : BdS sx0 sm0 n) (f : FrR j sx0 sx) (g : FrN sm0 sm) : BdS sx sm n := by
  unfold BdS at h ⊢
  rw [f.2.1 1 1, f.2.1 1 5, f.2.1 1 6, f.2.1 1 7, f.2.2 1 8 (by omega) (by omega) (by omega), f.2.1 5 0, f.2.1 5 1, g.2.1 0, g.2.1 4, g.2.1 5, g.2.1 6, g.2.2 8 (by omega) (by omega), g.2.1 23, g.2.1 24]
  exact h
def Dp (n t a : Nat) (x u : Nat) : Prop := x < n ∧ (u < t ∨ (u = t ∧ x < a))
/-- both sides in a plain run, turn t, ahead of act a; nothing refused -/
def PJ (j : Nat) (sx0 sm0 sx sm : Sg) (n t a : Nat) : Prop := FrR j sx0 sx ∧ FrN sm0 sm ∧ JEf (gA sm0 0 23) (gL sm0 0 7) (gL sx 5 2) (gL sm 0 21) (gL sx 13 3) (gL sm 0 37) (Dp n t a) ∧ gI sx j 3 = gI sm 0 41 ∧ gI sx j 4 = gI sm 0 42 ∧ gI sx j 5 = 0 ∧ gI sx j 0 = 0 ∧ gI sm 0 38 = 0 ∧ gI sx j 1 = gI sm 0 39 ∧ gI sx j 2 = gI sm 0 40 ∧ gI sm 0 44 = nI t
/-- both sides behind a refusal in a plain run -/
def RJ (j : Nat) (sx0 sm0 sx sm : Sg) (n t a : Nat) : Prop := FrR j sx0 sx ∧ FrN sm0 sm ∧ JEf (gA sm0 0 23) (gL sm0 0 7) (gL sx 5 2) (gL sm 0 21) (gL sx 13 3) (gL sm 0 37) (Dp n t a) ∧ gI sx j 3 = gI sm 0 41 ∧ gI sx j 4 = gI sm 0 42 ∧ gI sx j 5 = 0 ∧ ¬ gI sx j 0 = 0 ∧ gI sx j 0 = gI sm 0 38 ∧ gI sx j 1 = nI a ∧ gI sx j 2 = nI t ∧ gI sm 0 44 = nI t
section PL
variable {sx0 sm0 : Sg} {n j : Nat}
theorem plain_act (hj : j = 14 ∨ j = 15 ∨ j = 16) (hC : RunC sx0 sm0 n) {sx sm : Sg} {t a T : Nat} (ht : t < T) (hT : T ≤ 200) (ha : a < n) (h : PJ j sx0 sm0 sx sm n t a) (x1 : Int32) : ∃ sx' sm', (m_X7_goPlain_L17 j x1 (nI t) (nI a) sx = some (.inl (nI (a + 1), sx')) ∧ m_X12_plain_L9 (nI T) (nI t) (nI a) sm = some (.inl (nI (a + 1), sm')) ∧ PJ j sx0 sm0 sx' sm' n t (a + 1)) ∨ (m_X7_goPlain_L17 j x1 (nI t) (nI a) sx = some (.inl (nI (a + 1), sx')) ∧ m_X12_plain_L9 (nI T) (nI t) (nI a) sm = some (.inr (.inr (nI a, sm'))) ∧ RJ j sx0 sm0 sx' sm' n t a) := by
  obtain ⟨hB, hx1, hm9, hlag, hn, hn0, hops⟩ := hC
  obtain ⟨f, g, e, p3, p4, p5, p0, q0, p1, p2, p6⟩ := h
  obtain ⟨s8, hs8⟩ : ∃ s, s = pI (pI sm 0 41 (gI sm 0 41 + 1)) 0 42 (gI sm 0 42 + gA sm0 0 1 a) := ⟨_, rfl⟩
  have g8 : FrN sm0 s8 := by rw [hs8]; exact (g.trans (frN_I _ (by omega) _)).trans (frN_I _ (by omega) _)
  have L8 : ∀ k, gL s8 0 k = gL sm 0 k := fun k => by rw [hs8]; rfl
  have va : vpb (nI a) 16 = true := vpb_nI (by omega) (by omega)
  have ca := nI_clamp (show a < 2 ^ 31 by omega)
  have ex1 : gI sx 1 0 = nI n := (f.1 1 0 (by omega)).trans hx1
  have em9 : gI sm 0 9 = nI n := (g.1 9 (by omega)).trans hm9
  have el : gA sm 0 1 = gA sm0 0 1 := g.2.1 1
  obtain ⟨W, RX, RM, EX, EM, k0, k1⟩ := act_joint (sx := sx) (sm := s8) (n := n) (a := a) (t := t) (j := j) (D := Dp n t a) hj hn ha (by omega) (bds_fr hj hB f g8) (by
      rw [g8.2.1 23, g8.2.2 7 (by omega) (by omega), L8, L8]
      exact e) (fun w hw h0 hk => by
      rw [g8.2.1 5] at h0 ⊢
      rw [g8.2.1 6] at hk ⊢
      obtain ⟨r1, r2, r3⟩ := hops a w ha hw h0
      have c1 := fx_cl h0
      have c2 := fx_cl r3.1
      refine ⟨by omega, ?_⟩
      by_cases c : (gA sm0 0 6 (3 * a + w)).toNatClampNeg = 0
      · right
        have := r2 (by omega)
        omega
      · left; omega)
  have M1 : m_X12_plain_L9 (nI T) (nI t) (nI a) sm = clk (m_X12_does (nI a) (nI t) s8) fun v10 s9 => sIk s9 0 38 v10 fun s11 => gIk s11 0 38 fun v12 => if v12 = 0 then (nmk (nI a + 1) fun a13 => some (.inl (a13, s11))) else some (.inr (.inr (nI a, s11))) := by
    rw [m_X12_plain_L9, gIk, em9, if_neg (nI_ge ha (by omega)), gIk, sIk, gIk, lAk, if_pos va, ca]
    show (sIk (pI sm 0 41 (gI sm 0 41 + 1)) 0 42 (gI sm 0 42 + gA sm 0 1 a) fun s8 => _) = _
    rw [el, sIk, ← hs8]
  have X1 : m_X7_goPlain_L17 j x1 (nI t) (nI a) sx = clk (m_X7_begin j (nI a) (nI t) sx) fun _ s6 => gIk s6 j 4 fun v7 => lAk s6 1 2 16 (nI a) fun v8 => sIk s6 j 4 (v7 + v8) fun s9 => nmk (nI a + 1) fun a10 => some (.inl (a10, s9)) := by
    rw [m_X7_goPlain_L17, gIk, ex1, if_neg (nI_ge ha (by omega)), gIk, if_pos p0]
  have nj1 : ¬ 1 = j := by omega
  by_cases c : W = 0
  · obtain ⟨b1, b2, b3⟩ := k0 c
    refine ⟨pI (pL (pL (pI sx j 3 (gI sx j 3 + 1)) 5 2 RX) 13 3 EX) j 4 (gI sx j 4 + gA sm0 0 1 a), pI (pL (pL s8 0 21 RM) 0 37 EM) 0 38 0, Or.inl ⟨?_, ?_, ?_⟩⟩
    · rw [X1, b1, clk_some, gIk, lAk, if_pos va, ca]
      have e1 : gI (pL (pL (pI sx j 3 (gI sx j 3 + 1)) 5 2 RX) 13 3 EX) j 4 = gI sx j 4 := by
        show gI (pI sx j 3 (gI sx j 3 + 1)) j 4 = _
        rw [gI_pI, if_pos rfl, if_neg (by omega)]
      have e2 : gA (pL (pL (pI sx j 3 (gI sx j 3 + 1)) 5 2 RX) 13 3 EX) 1 2 = gA sm0 0 1 := (f.2.1 1 2).trans hlag
      rw [e1, e2, sIk, nmk, nI_1]
    · rw [M1, b2, clk_some, sIk, gIk]
      show (if (0 : Int32) = 0 then _ else _) = _
      rw [if_pos rfl, nmk, nI_1]
    · refine ⟨(((f.trans (frR_I j _ _ _)).trans (frR_5 j _ _)).trans (frR_13 j _ _)).trans (frR_I j _ _ _), ((g8.trans (frN_L _ (by omega) _)).trans (frN_L _ (by omega) _)).trans (frN_I _ (by omega) _), ?_, ?_, ?_, ?_, ?_, rfl, ?_, ?_, ?_⟩
      · have r := b3 (Dp n t (a + 1)) (fun x u hd => by
          obtain ⟨d1, d2⟩ := hd
          refine ⟨by omega, ?_⟩
          by_cases c' : x = a ∧ u = t
          · exact Or.inr c'
          · refine Or.inl ⟨d1, ?_⟩
            rcases d2 with d2 | d2
            · exact Or.inl d2
            · right; omega)
        rw [g8.2.1 23, g8.2.2 7 (by omega) (by omega)] at r
        exact r
      · have : gI (pI (pL (pL (pI sx j 3 (gI sx j 3 + 1)) 5 2 RX) 13 3 EX) j 4 (gI sx j 4 + gA sm0 0 1 a)) j 3 = gI sx j 3 + 1 := by
          rw [gI_pI, if_pos rfl, if_neg (by omega)]
          show gI (pI sx j 3 (gI sx j 3 + 1)) j 3 = _
          rw [gI_pI, if_pos rfl, if_pos rfl]
        rw [this, p3]
        show _ = gI s8 0 41
        rw [hs8]; rfl
      · have : gI (pI (pL (pL (pI sx j 3 (gI sx j 3 + 1)) 5 2 RX) 13 3 EX) j 4 (gI sx j 4 + gA sm0 0 1 a)) j 4 = gI sx j 4 + gA sm0 0 1 a := by
          rw [gI_pI, if_pos rfl, if_pos rfl]
        rw [this, p4]
        show _ = gI s8 0 42
        rw [hs8]; rfl
      · have : gI (pI (pL (pL (pI sx j 3 (gI sx j 3 + 1)) 5 2 RX) 13 3 EX) j 4 (gI sx j 4 + gA sm0 0 1 a)) j 5 = gI sx j 5 := by
          rw [gI_pI, if_pos rfl, if_neg (by omega)]
          show gI (pI sx j 3 (gI sx j 3 + 1)) j 5 = _
          rw [gI_pI, if_pos rfl, if_neg (by omega)]
        rw [this]; exact p5
      · rw [gI_pI, if_pos rfl, if_neg (by omega)]
        show gI (pI sx j 3 (gI sx j 3 + 1)) j 0 = _
        rw [gI_pI, if_pos rfl, if_neg (by omega)]
        exact p0
      · rw [gI_pI, if_pos rfl, if_neg (by omega)]
        show gI (pI sx j 3 (gI sx j 3 + 1)) j 1 = gI s8 0 39
        rw [gI_pI, if_pos rfl, if_neg (by omega), p1, hs8]
        rfl
      · rw [gI_pI, if_pos rfl, if_neg (by omega)]
        show gI (pI sx j 3 (gI sx j 3 + 1)) j 2 = gI s8 0 40
        rw [gI_pI, if_pos rfl, if_neg (by omega), p2, hs8]
        rfl
      · show gI s8 0 44 = _
        rw [hs8]; exact p6
  · obtain ⟨b1, b2⟩ := k1 c
    obtain ⟨s6, hs6⟩ : ∃ s, s = pI (pI (pI (pI sx j 3 (gI sx j 3 + 1)) j 0 W) j 1 (nI a)) j 2 (nI t) := ⟨_, rfl⟩
    rw [← hs6] at b1
    have f6 : FrR j sx0 s6 := by rw [hs6]; exact (((f.trans (frR_I j _ _ _)).trans (frR_I j _ _ _)).trans (frR_I j _ _ _)).trans (frR_I j _ _ _)
    have L6 : ∀ x y, gL s6 x y = gL sx x y := fun x y => by rw [hs6]; rfl
    have i6 : gI s6 j 4 = gI sx j 4 ∧ gI s6 j 3 = gI sx j 3 + 1 ∧ gI s6 j 0 = W ∧ gI s6 j 1 = nI a ∧ gI s6 j 2 = nI t ∧ gI s6 j 5 = gI sx j 5 := by
      rw [hs6]
      refine ⟨?_, ?_, ?_, ?_, ?_, ?_⟩ <;> simp [gI_pI]
    obtain ⟨i1, i2, i3, i4, i5, i6'⟩ := i6
    have lag6 : gA s6 1 2 = gA sm0 0 1 := (f6.2.1 1 2).trans hlag
    refine ⟨pI s6 j 4 (gI sx j 4 + gA sm0 0 1 a), pI s8 0 38 W, Or.inr ⟨?_, ?_, ?_⟩⟩
    · rw [X1, b1, clk_some, gIk, lAk, if_pos va, ca, i1, lag6, sIk, nmk, nI_1]
    · rw [M1, b2, clk_some, sIk, gIk]
      show (if W = 0 then _ else _) = _
      rw [if_neg c]
    · have z : ∀ k, k ≠ 4 → gI (pI s6 j 4 (gI sx j 4 + gA sm0 0 1 a)) j k = gI s6 j k := fun k hk => by rw [gI_pI, if_pos rfl, if_neg hk]
      refine ⟨f6.trans (frR_I j _ _ _), g8.trans (frN_I _ (by omega) _), ?_, ?_, ?_, ?_, ?_, ?_, ?_, ?_, ?_⟩
      · show JEf _ _ (gL s6 5 2) (gL s8 0 21) (gL s6 13 3) (gL s8 0 37) _
        rw [L6, L6, L8, L8]
        exact e
      · rw [z 3 (by omega), i2, p3]
        show _ = gI s8 0 41
        rw [hs8]; rfl
      · rw [gI_pI, if_pos rfl, if_pos rfl, p4]
        show _ = gI s8 0 42
        rw [hs8]; rfl
      · rw [z 5 (by omega), i6']; exact p5
      · rw [z 0 (by omega), i3]; exact c
      · rw [z 0 (by omega), i3]; rfl
      · rw [z 1 (by omega), i4]
      · rw [z 2 (by omega), i5]
      · show gI s8 0 44 = _
        rw [hs8]; exact p6
end PL
