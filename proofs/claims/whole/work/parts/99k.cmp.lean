-- 99k.cmp: compare: what an act comes to hangs on its operands alone
theorem op_congr {sort slot size wide ofs back : Nat → Int32} {number : Nat → Int64} {a : Nat} (hA : ActOk sort slot ofs back a) {X Y Z X' Y' Z' : Int64} (h0 : 0 ≤ (ofs (3 * a)).toInt → X = X') (h1 : 0 ≤ (ofs (3 * a + 1)).toInt → Y = Y') (h2 : 0 ≤ (ofs (3 * a + 2)).toInt → Z = Z') : opW sort slot size wide a X Y = opW sort slot size wide a X' Y' ∧ (∀ R, opV sort slot number a X Y Z R = opV sort slot number a X' Y' Z' R) ∧ ∀ R, opR sort slot a X Y R = opR sort slot a X' Y' R := by
  obtain ⟨o1, o2, o3, o4, o5, o6⟩ := hA
  unfold opW opV opR
  rcases sortcases o1 with c | c | c | c | c | c | c
  · have e4 : ¬ (sort a = 4 ∨ sort a = 5) := by rw [c]; decide
    have e3 : ∀ y : Int64, ¬ (sort a = 3 ∧ y = 0) := fun y q => by rw [c] at q; exact absurd q.1 (by decide)
    have e5 : ¬ sort a = 5 := by rw [c]; decide
    refine ⟨by rw [if_neg e4, if_neg e4, if_neg (e3 Y), if_neg (e3 Y')], fun R => by rw [if_pos c, if_pos c], fun R => by rw [if_neg e5, if_neg e5]⟩
  all_goals
    have n0 : ¬ sort a = 0 := by rw [c]; decide
    have eX := h0 (o4 n0)
    subst eX
  · have eY := h1 (o5 (Or.inl c))
    subst eY
    have e6 : ¬ sort a = 6 := by rw [c]; decide
    refine ⟨rfl, fun R => by rw [if_neg n0, if_neg n0, if_pos c, if_pos c], fun R => rfl⟩
  · have eY := h1 (o5 (Or.inr (Or.inl c)))
    subst eY
    have n1 : ¬ sort a = 1 := by rw [c]; decide
    refine ⟨rfl, fun R => by rw [if_neg n0, if_neg n0, if_neg n1, if_neg n1, if_pos c, if_pos c], fun R => rfl⟩
  · have eY := h1 (o5 (Or.inr (Or.inr (Or.inl c))))
    subst eY
    have n1 : ¬ sort a = 1 := by rw [c]; decide
    have n2 : ¬ sort a = 2 := by rw [c]; decide
    refine ⟨rfl, fun R => by rw [if_neg n0, if_neg n0, if_neg n1, if_neg n1, if_neg n2, if_neg n2, if_pos c, if_pos c], fun R => rfl⟩
  · have n1 : ¬ sort a = 1 := by rw [c]; decide
    have n2 : ¬ sort a = 2 := by rw [c]; decide
    have n3 : ¬ sort a = 3 := by rw [c]; decide
    have n5 : ¬ sort a = 5 := by rw [c]; decide
    refine ⟨by rw [if_pos (Or.inl c), if_pos (Or.inl c)], fun R => by rw [if_neg n0, if_neg n0, if_neg n1, if_neg n1, if_neg n2, if_neg n2, if_neg n3, if_neg n3, if_pos c, if_pos c], fun R => by rw [if_neg n5, if_neg n5]⟩
  · have eY := h1 (o5 (Or.inr (Or.inr (Or.inr (Or.inl c)))))
    subst eY
    have n1 : ¬ sort a = 1 := by rw [c]; decide
    have n2 : ¬ sort a = 2 := by rw [c]; decide
    have n3 : ¬ sort a = 3 := by rw [c]; decide
    have n4 : ¬ sort a = 4 := by rw [c]; decide
    refine ⟨rfl, fun R => by rw [if_neg n0, if_neg n0, if_neg n1, if_neg n1, if_neg n2, if_neg n2, if_neg n3, if_neg n3, if_neg n4, if_neg n4, if_pos c, if_pos c], fun R => rfl⟩
  · have eY := h1 (o5 (Or.inr (Or.inr (Or.inr (Or.inr c)))))
    subst eY
    have eZ := h2 (o6 c)
    subst eZ
    exact ⟨rfl, fun R => rfl, fun R => rfl⟩
/-- an act of a turn as the ends E and the rows ahead of it say -/
def EvX (s0 : Sg) (E R R' : Nat → Int64) (a t : Nat) : Prop := opW (gA s0 1 1) (gA s0 1 5) (gA s0 5 0) (gA s0 5 1) a (tkX E (gA s0 1 6) (gA s0 1 7) a 0 t) (tkX E (gA s0 1 6) (gA s0 1 7) a 1 t) = 0 ∧ E (16 * (4 + t) + a) = opV (gA s0 1 1) (gA s0 1 5) (gL s0 1 8) a (tkX E (gA s0 1 6) (gA s0 1 7) a 0 t) (tkX E (gA s0 1 6) (gA s0 1 7) a 1 t) (tkX E (gA s0 1 6) (gA s0 1 7) a 2 t) R ∧ R' = opR (gA s0 1 1) (gA s0 1 5) a (tkX E (gA s0 1 6) (gA s0 1 7) a 0 t) (tkX E (gA s0 1 6) (gA s0 1 7) a 1 t) R
/-- what a run needs of the class's body -/
def XC (s0 : Sg) (n : Nat) : Prop := gI s0 1 0 = nI n ∧ n ≤ 16 ∧ 0 < n ∧ (∀ a, a < n → ActOk (gA s0 1 1) (gA s0 1 5) (gA s0 1 6) (gA s0 1 7) a) ∧ (∀ k, k < 8 → inR (gA s0 5 0 k) 0 40) ∧ ∀ a w, a < n → w < 3 → 0 ≤ (gA s0 1 6 (3 * a + w)).toInt → (gA s0 1 6 (3 * a + w)).toInt < (n : Int) ∧ ((gA s0 1 7 (3 * a + w)).toInt = 0 → (gA s0 1 6 (3 * a + w)).toInt < (a : Int)) ∧ inR (gA s0 1 7 (3 * a + w)) 0 4
/-- an operand is the same over two rows of ends that agree ahead of (a, t) -/
theorem tk_same {s0 : Sg} {n a t w : Nat} (hC : XC s0 n) (ha : a < n) (hw : w < 3) (h0 : 0 ≤ (gA s0 1 6 (3 * a + w)).toInt) {E E' : Nat → Int64} (hf : ∀ q x, q < 4 → x < 16 → E (16 * q + x) = E' (16 * q + x)) (he : ∀ x u, x < n → (u < t ∨ (u = t ∧ x < a)) → (∃ w, w < 3 ∧ 0 ≤ (gA s0 1 6 (3 * a + w)).toInt ∧ x = (gA s0 1 6 (3 * a + w)).toNatClampNeg ∧ u + (gA s0 1 7 (3 * a + w)).toNatClampNeg = t) → E (16 * (4 + u) + x) = E' (16 * (4 + u) + x)) : tkX E (gA s0 1 6) (gA s0 1 7) a w t = tkX E' (gA s0 1 6) (gA s0 1 7) a w t := by
  obtain ⟨-, hn, -, -, -, hops⟩ := hC
  obtain ⟨r1, r2, r3⟩ := hops a w ha hw h0
  have c1 := fx_cl h0
  have c2 := fx_cl r3.1
  have r4 := r3.2
  unfold tkX
  by_cases c : (gA s0 1 7 (3 * a + w)).toNatClampNeg ≤ t
  · have e : 4 + t - (gA s0 1 7 (3 * a + w)).toNatClampNeg = 4 + (t - (gA s0 1 7 (3 * a + w)).toNatClampNeg) := by omega
    rw [e]
    refine he _ _ (by omega) ?_ ⟨w, hw, h0, rfl, by omega⟩
    by_cases d : (gA s0 1 7 (3 * a + w)).toNatClampNeg = 0
    · right
      have := r2 (by omega)
      omega
    · left; omega
  · exact hf _ _ (by omega) (by omega)
