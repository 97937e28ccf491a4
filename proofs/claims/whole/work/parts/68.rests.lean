-- 68.rests: the reference's pushing (rests) is rounds over the gathered edges
def okEd (n : Nat) (e : Ed) : Prop := inR e.1 0 ((n : Int) - 1) ∧ inR e.2.1 0 ((n : Int) - 1) ∧ inR e.2.2.1 (-50) 50 ∧ inR e.2.2.2 0 4
/-- the row f holds the numbers p, of 0 .. M -/
def PRf (f : Nat → Int32) (p : Nat → Int) (n : Nat) (M : Int) : Prop := ∀ v, v < n → (f v).toInt = p v ∧ 0 ≤ p v ∧ p v ≤ M
theorem PRf.mono {f : Nat → Int32} {p : Nat → Int} {n : Nat} {M M' : Int} (h : PRf f p n M) (hM : M ≤ M') : PRf f p n M' := fun v hv => ⟨(h v hv).1, (h v hv).2.1, Int.le_trans (h v hv).2.2 hM⟩
theorem pA_pA' (s : Sg) (f g : Nat → Int32) : pA (pA s 0 33 f) 0 33 g = pA s 0 33 g := pA_pA s 0 33 f g
theorem drop_cons {l : List Ed} {i : Nat} (h : i < l.length) : l.drop i = l[i] :: l.drop (i + 1) := List.drop_eq_getElem_cons h
/-- the numbers of a product of a beat and turns -/
theorem bt_mul {b : Nat} {u : Int32} (hb : b ≤ 60) (hu : inR u 0 4) : (nI b * u).toInt = (b : Int) * u.toInt ∧ 0 ≤ (b : Int) * u.toInt ∧ (b : Int) * u.toInt ≤ 240 := by
  obtain ⟨h1, h2⟩ := hu
  have h3 : 0 ≤ (b : Int) * u.toInt := Int.mul_nonneg (by omega) h1
  have h4 : (b : Int) * u.toInt ≤ 60 * 4 := by
    have a : (b : Int) * u.toInt ≤ 60 * u.toInt := Int.mul_le_mul_of_nonneg_right (by omega) h1
    omega
  have e := nI_toInt (show b < 2 ^ 31 by omega)
  refine ⟨?_, h3, by omega⟩
  rw [fx_mul (by rw [e]; omega) (by rw [e]; omega), e]
theorem rests_round {s0 : Sg} {n b : Nat} {l : List Ed} (hn : n ≤ 16) (hb : b ≤ 60) (hl : LR (gI s0 0 20) (gA s0 0 16) (gA s0 0 17) (gA s0 0 18) (gA s0 0 19) l) (hl2 : l.length ≤ 704) (hok : ∀ e ∈ l, okEd n e) (x2 : Int32) : ∀ (d i N : Nat) (mv : Int32) (f : Nat → Int32) (p : Nat → Int) (M : Int), i + d = l.length → d < N → PRf f p n M → 0 ≤ M → M + 50 * d ≤ 2000000 →
    ∃ mv' f', lp (fun s : (Int32 × Int32 × Sg) => m_X12_rests_L38 (nI b) x2 s.1 s.2.1 s.2.2) N (mv, nI i, pA s0 0 33 f) = some (mv', pA s0 0 33 f') ∧ PRf f' (roundG ((l.drop i).map (geI b)) p) n (M + 50 * d) ∧ ((mv' = mv ∧ roundG ((l.drop i).map (geI b)) p = p) ∨ (mv' = 1 ∧ ∃ v, v < n ∧ p v < roundG ((l.drop i).map (geI b)) p v)) := by
  intro d
  induction d with
  | zero =>
    intro i N mv f p M hi hN hp hM hM2
    obtain ⟨N, rfl⟩ : ∃ M, N = M + 1 := ⟨N - 1, by omega⟩
    have e : l.drop i = [] := List.drop_eq_nil_of_le (by omega)
    rw [e]
    refine ⟨mv, f, lp_end ?_, by simpa [roundG] using hp, Or.inl ⟨rfl, rfl⟩⟩
    have e20 : gI (pA s0 0 33 f) 0 20 = nI l.length := hl.1
    simp only [m_X12_rests_L38, gIk, e20]
    rw [show i = l.length by omega, if_pos (Int32.le_refl _)]
  | succ d ih =>
    intro i N mv f p M hi hN hp hM hM2
    obtain ⟨N, rfl⟩ : ∃ M, N = M + 1 := ⟨N - 1, by omega⟩
    have hil : i < l.length := by omega
    have e20 : gI (pA s0 0 33 f) 0 20 = nI l.length := hl.1
    have hg : ¬ nI l.length ≤ nI i := nI_ge hil (by omega)
    have hv : vpb (nI i) 704 = true := vpb_nI (by omega) (by omega)
    have cl := nI_clamp (show i < 2 ^ 31 by omega)
    have el := hl.2 i hil
    obtain ⟨o1, o2, o3, o4⟩ := hok l[i] (List.getElem_mem hil)
    rw [el] at o1 o2 o3 o4
    dsimp only at o1 o2 o3 o4
    have a16 : gA (pA s0 0 33 f) 0 16 = gA s0 0 16 := rfl
    have a17 : gA (pA s0 0 33 f) 0 17 = gA s0 0 17 := rfl
    have a18 : gA (pA s0 0 33 f) 0 18 = gA s0 0 18 := rfl
    have a19 : gA (pA s0 0 33 f) 0 19 = gA s0 0 19 := rfl
    have a33 : gA (pA s0 0 33 f) 0 33 = f := rfl
    have vA : vpb (gA s0 0 16 i) 16 = true := by rw [vpb_iff]; have := o1.1; have := o1.2; omega
    have vB : vpb (gA s0 0 17 i) 16 = true := by rw [vpb_iff]; have := o2.1; have := o2.2; omega
    have cA := fx_cl o1.1
    have cB := fx_cl o2.1
    have hA : (gA s0 0 16 i).toNatClampNeg < n := by have := o1.2; omega
    have hB : (gA s0 0 17 i).toNatClampNeg < n := by have := o2.2; omega
    obtain ⟨pA1, pA2, pA3⟩ := hp _ hA
    obtain ⟨pB1, pB2, pB3⟩ := hp _ hB
    obtain ⟨m1, m2, m3⟩ := bt_mul hb o4
    have t1 := o3.1
    have t2 := o3.2
    have s1 : (f (gA s0 0 16 i).toNatClampNeg + gA s0 0 18 i).toInt = p (gA s0 0 16 i).toNatClampNeg + (gA s0 0 18 i).toInt := by
      rw [fx_add (by rw [pA1]; omega) (by rw [pA1]; omega), pA1]
    have s2 : (f (gA s0 0 16 i).toNatClampNeg + gA s0 0 18 i - nI b * gA s0 0 19 i).toInt = p (gA s0 0 16 i).toNatClampNeg + ((gA s0 0 18 i).toInt - (b : Int) * (gA s0 0 19 i).toInt) := by
      rw [fx_sub (by rw [s1, m1]; omega) (by rw [s1, m1]; omega), s1, m1]
      omega
    rw [drop_cons hil, List.map_cons]
    have ege : geI b l[i] = ((gA s0 0 16 i).toNatClampNeg, (gA s0 0 17 i).toNatClampNeg, (gA s0 0 18 i).toInt - (b : Int) * (gA s0 0 19 i).toInt) := by rw [el]; rfl
    rw [ege]
    have hr : ∀ q : List Ge, roundG (((gA s0 0 16 i).toNatClampNeg, (gA s0 0 17 i).toNatClampNeg, (gA s0 0 18 i).toInt - (b : Int) * (gA s0 0 19 i).toInt) :: q) p = roundG q (pushG p ((gA s0 0 16 i).toNatClampNeg, (gA s0 0 17 i).toNatClampNeg, (gA s0 0 18 i).toInt - (b : Int) * (gA s0 0 19 i).toInt)) := fun q => rfl
    rw [hr]
    by_cases c : f (gA s0 0 17 i).toNatClampNeg < f (gA s0 0 16 i).toNatClampNeg + gA s0 0 18 i - nI b * gA s0 0 19 i
    · have c' : ¬ p (gA s0 0 16 i).toNatClampNeg + ((gA s0 0 18 i).toInt - (b : Int) * (gA s0 0 19 i).toInt) ≤ p (gA s0 0 17 i).toNatClampNeg := by
        rw [fx_lt, s2, pB1] at c
        omega
      have ep : pushG p ((gA s0 0 16 i).toNatClampNeg, (gA s0 0 17 i).toNatClampNeg, (gA s0 0 18 i).toInt - (b : Int) * (gA s0 0 19 i).toInt) = updG p (gA s0 0 17 i).toNatClampNeg (p (gA s0 0 16 i).toNatClampNeg + ((gA s0 0 18 i).toInt - (b : Int) * (gA s0 0 19 i).toInt)) := if_neg c'
      rw [ep]
      have hp' : PRf (upd f (gA s0 0 17 i).toNatClampNeg (f (gA s0 0 16 i).toNatClampNeg + gA s0 0 18 i - nI b * gA s0 0 19 i)) (updG p (gA s0 0 17 i).toNatClampNeg (p (gA s0 0 16 i).toNatClampNeg + ((gA s0 0 18 i).toInt - (b : Int) * (gA s0 0 19 i).toInt))) n (M + 50) := by
        intro v hv'
        unfold updG
        rw [upd_i]
        by_cases e : v = (gA s0 0 17 i).toNatClampNeg
        · rw [if_pos e, if_pos e]
          exact ⟨s2, by omega, by omega⟩
        · rw [if_neg e, if_neg e]
          obtain ⟨x1, x2, x3⟩ := hp v hv'
          exact ⟨x1, x2, by omega⟩
      obtain ⟨mv', f', r1, r2, r3⟩ := ih (i + 1) N 1 _ _ (M + 50) (by omega) (by omega) hp' (by omega) (by omega)
      refine ⟨mv', f', (lp_next ?_).trans r1, r2.mono (by omega), Or.inr ⟨?_, (gA s0 0 17 i).toNatClampNeg, hB, ?_⟩⟩
      · simp only [m_X12_rests_L38, gIk, e20, if_neg hg, lAk, sAk, if_pos hv, cl, a16, a17, a18, a19, a33, if_pos vA, if_pos vB, nmk, if_pos c, pA_pA', nI_1]
      · rcases r3 with q | q
        · exact q.1
        · exact q.1
      · have := round_ge ((l.drop (i + 1)).map (geI b)) (updG p (gA s0 0 17 i).toNatClampNeg (p (gA s0 0 16 i).toNatClampNeg + ((gA s0 0 18 i).toInt - (b : Int) * (gA s0 0 19 i).toInt))) (gA s0 0 17 i).toNatClampNeg
        have e2 : updG p (gA s0 0 17 i).toNatClampNeg (p (gA s0 0 16 i).toNatClampNeg + ((gA s0 0 18 i).toInt - (b : Int) * (gA s0 0 19 i).toInt)) (gA s0 0 17 i).toNatClampNeg = p (gA s0 0 16 i).toNatClampNeg + ((gA s0 0 18 i).toInt - (b : Int) * (gA s0 0 19 i).toInt) := if_pos rfl
        rw [e2] at this
        omega
    · have c' : p (gA s0 0 16 i).toNatClampNeg + ((gA s0 0 18 i).toInt - (b : Int) * (gA s0 0 19 i).toInt) ≤ p (gA s0 0 17 i).toNatClampNeg := by
        rw [fx_lt, s2, pB1] at c
        omega
      have ep : pushG p ((gA s0 0 16 i).toNatClampNeg, (gA s0 0 17 i).toNatClampNeg, (gA s0 0 18 i).toInt - (b : Int) * (gA s0 0 19 i).toInt) = p := if_pos c'
      rw [ep]
      obtain ⟨mv', f', r1, r2, r3⟩ := ih (i + 1) N mv f p M (by omega) (by omega) hp hM (by omega)
      refine ⟨mv', f', (lp_next ?_).trans r1, r2.mono (by omega), r3⟩
      simp only [m_X12_rests_L38, gIk, e20, if_neg hg, lAk, if_pos hv, cl, a16, a17, a18, a19, a33, if_pos vA, if_pos vB, nmk, if_neg c, nI_1]
