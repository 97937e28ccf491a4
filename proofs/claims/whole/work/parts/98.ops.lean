-- 98.ops: one act of a turn, on both sides
theorem lgc_eq (a b : Int64) : lg_cmp a b = 0 ↔ a = b := by
  have h1 := lgc_lt a b
  have h2 := lgc_gt a b
  rw [fx_lt, ti_0, Int64.lt_iff_toInt_lt] at h1 h2
  rw [fx_eq, ti_0, ← Int64.toInt_inj]
  constructor
  · intro h
    have n1 : ¬ a.toInt < b.toInt := fun q => by have := h1.mpr q; omega
    have n2 : ¬ b.toInt < a.toInt := fun q => by have := h2.mpr q; omega
    omega
  · intro h
    have n1 : ¬ (lg_cmp a b).toInt < 0 := fun q => by have := h1.mp q; omega
    have n2 : ¬ 0 < (lg_cmp a b).toInt := fun q => by have := h2.mp q; omega
    omega
theorem pL_self (s : Sg) (j k : Nat) : pL s j k (gL s j k) = s := by
  obtain ⟨a, b, c⟩ := s
  unfold pL gL
  congr 2
  funext x y
  by_cases h1 : x = j
  · by_cases h2 : y = k <;> simp [h1, h2]
  · simp [h1]
theorem x32 {x : Int64} (h1 : 0 ≤ x.toInt) (h2 : x.toInt < 40) : x.toInt32 = nI x.toInt.toNat := by
  rw [fx_eq, Int64.toInt_toInt32, fx_bm (by omega) (by omega), nI_toInt (by omega)]
  omega
def plN (slot : Nat → Int32) (a : Nat) (x : Int64) : Nat := 40 * (slot a).toNatClampNeg + x.toInt.toNat
def opW (sort slot size wide : Nat → Int32) (a : Nat) (x y : Int64) : Int32 := if sort a = 4 ∨ sort a = 5 then whyF size wide (slot a).toNatClampNeg x else if sort a = 3 ∧ y = 0 then -8 else 0
def opV (sort slot : Nat → Int32) (number : Nat → Int64) (a : Nat) (x y z : Int64) (R : Nat → Int64) : Int64 := if sort a = 0 then number a else if sort a = 1 then x + y else if sort a = 2 then x * y else if sort a = 3 then x / y else if sort a = 4 then R (plN slot a x) else if sort a = 5 then R (plN slot a x) else if x = 0 then z else y
def opR (sort slot : Nat → Int32) (a : Nat) (x y : Int64) (R : Nat → Int64) : Nat → Int64 := if sort a = 5 then vp_updL R (plN slot a x) y else R
/-- what is wanted of the body for act a -/
def ActOk (sort slot ofs back : Nat → Int32) (a : Nat) : Prop := inR (sort a) 0 6 ∧ (sort a = 4 ∨ sort a = 5 → inR (slot a) 0 7) ∧ (∀ w, w < 3 → inR (ofs (3 * a + w)) (-1) 15 ∧ (0 ≤ (ofs (3 * a + w)).toInt → inR (back (3 * a + w)) 0 4)) ∧ (¬ sort a = 0 → 0 ≤ (ofs (3 * a)).toInt) ∧ (sort a = 1 ∨ sort a = 2 ∨ sort a = 3 ∨ sort a = 5 ∨ sort a = 6 → 0 ≤ (ofs (3 * a + 1)).toInt) ∧ (sort a = 6 → 0 ≤ (ofs (3 * a + 2)).toInt)
theorem why_place {size wide : Nat → Int32} {s : Nat} {x : Int64} (h : whyF size wide s x = 0) (hs : inR (size s) 0 40) : 0 ≤ x.toInt ∧ x.toInt < (size s).toInt ∧ x.toInt < 40 := by
  unfold whyF at h
  by_cases c1 : size s = 0
  · rw [if_pos c1] at h; exact absurd h (by decide)
  · rw [if_neg c1] at h
    by_cases c2 : wide s = 0
    · rw [if_pos c2] at h; exact absurd h (by decide)
    · rw [if_neg c2] at h
      by_cases c3 : 0 ≤ x.toInt ∧ x.toInt < (size s).toInt
      · have := hs.2
        exact ⟨c3.1, c3.2, by omega⟩
      · rw [if_neg c3] at h; exact absurd h (by decide)
theorem nI_48 {a w : Nat} : nI a * 3 + nI w = nI (3 * a + w) := by
  rw [show (3 : Int32) = nI 3 from rfl, pk_mul, nI_add, Nat.mul_comm]
theorem nI_48' {a w : Nat} : 3 * nI a + nI w = nI (3 * a + w) := by
  rw [show (3 : Int32) = nI 3 from rfl, pk_mul, nI_add]
/-- an operand as the class takes it -/
def tkX (ends : Nat → Int64) (ofs back : Nat → Int32) (a w t : Nat) : Int64 := ends (16 * (4 + t - (back (3 * a + w)).toNatClampNeg) + (ofs (3 * a + w)).toNatClampNeg)
theorem taken_eq {s : Sg} {a w t : Nat} (ha : a < 16) (hw : w < 3) (ht : t < 200) (ho : inR (gA s 1 6 (3 * a + w)) 0 15) (hb : inR (gA s 1 7 (3 * a + w)) 0 4) : m_X7_taken (nI a) (nI w) (nI t) s = some (tkX (gL s 13 3) (gA s 1 6) (gA s 1 7) a w t, s) := by
  have v1 : vpb (nI (3 * a + w)) 48 = true := vpb_nI (by omega) (by omega)
  have c1 := nI_clamp (show 3 * a + w < 2 ^ 31 by omega)
  obtain ⟨k, hk⟩ : ∃ k, k = (gA s 1 7 (3 * a + w)).toNatClampNeg := ⟨_, rfl⟩
  obtain ⟨x, hx⟩ : ∃ x, x = (gA s 1 6 (3 * a + w)).toNatClampNeg := ⟨_, rfl⟩
  have ck := fx_cl hb.1
  have cx := fx_cl ho.1
  rw [← hk] at ck
  rw [← hx] at cx
  have ek : gA s 1 7 (3 * a + w) = nI k := by rw [hk]; exact fx_nI hb.1
  have ex : gA s 1 6 (3 * a + w) = nI x := by rw [hx]; exact fx_nI ho.1
  have k4 : k ≤ 4 := by have := hb.2; omega
  have x16 : x < 16 := by have := ho.2; omega
  have e1 : ((4 : Int32) + nI t) - nI k = nI (4 + t - k) := by
    rw [show (4 : Int32) = nI 4 from rfl, nI_add, fx_eq, fx_sub (by rw [nI_toInt (by omega), nI_toInt (by omega)]; omega) (by rw [nI_toInt (by omega), nI_toInt (by omega)]; omega), nI_toInt (by omega), nI_toInt (by omega), nI_toInt (by omega)]
    omega
  have v2 : vpb (nI (16 * (4 + t - k) + x)) 3264 = true := vpb_nI (by omega) (by omega)
  have c2 := nI_clamp (show 16 * (4 + t - k) + x < 2 ^ 31 by omega)
  have et : tkX (gL s 13 3) (gA s 1 6) (gA s 1 7) a w t = gL s 13 3 (16 * (4 + t - k) + x) := by unfold tkX; rw [← hk, ← hx]
  rw [m_X7_taken, nI_48, nmk, lAk, if_pos v1, c1, ek, lAk, if_pos v1, c1, ex, e1, nI_16, lLk, if_pos v2, c2, et]
/-- an operand as the reference takes it -/
def tkM (ends first : Nat → Int64) (ofs back : Nat → Int32) (a w t : Nat) : Int64 := if (back (3 * a + w)).toNatClampNeg ≤ t then ends (16 * (t - (back (3 * a + w)).toNatClampNeg) + (ofs (3 * a + w)).toNatClampNeg) else first (ofs (3 * a + w)).toNatClampNeg
theorem value_eq {s : Sg} {a w t : Nat} (ha : a < 16) (hw : w < 3) (ht : t < 200) (ho : inR (gA s 0 5 (3 * a + w)) 0 15) (hb : inR (gA s 0 6 (3 * a + w)) 0 4) : m_X12_value (nI a) (nI w) (nI t) s = some (tkM (gL s 0 37) (gL s 0 7) (gA s 0 5) (gA s 0 6) a w t, s) := by
  have v1 : vpb (nI (3 * a + w)) 48 = true := vpb_nI (by omega) (by omega)
  have c1 := nI_clamp (show 3 * a + w < 2 ^ 31 by omega)
  obtain ⟨k, hk⟩ : ∃ k, k = (gA s 0 6 (3 * a + w)).toNatClampNeg := ⟨_, rfl⟩
  obtain ⟨x, hx⟩ : ∃ x, x = (gA s 0 5 (3 * a + w)).toNatClampNeg := ⟨_, rfl⟩
  have ck := fx_cl hb.1
  have cx := fx_cl ho.1
  rw [← hk] at ck
  rw [← hx] at cx
  have ek : gA s 0 6 (3 * a + w) = nI k := by rw [hk]; exact fx_nI hb.1
  have ex : gA s 0 5 (3 * a + w) = nI x := by rw [hx]; exact fx_nI ho.1
  have k4 : k ≤ 4 := by have := hb.2; omega
  have x16 : x < 16 := by have := ho.2; omega
  have ed : (nI t - nI k).toInt = (t : Int) - (k : Int) := by rw [fx_sub (by rw [nI_toInt (by omega), nI_toInt (by omega)]; omega) (by rw [nI_toInt (by omega), nI_toInt (by omega)]; omega), nI_toInt (by omega), nI_toInt (by omega)]
  unfold tkM
  rw [← hk, ← hx]
  by_cases c : k ≤ t
  · have e1 : nI t - nI k = nI (t - k) := by rw [fx_eq, ed, nI_toInt (by omega)]; omega
    have h0 : (0 : Int32) ≤ nI (t - k) := by rw [fx_le, ti_0, nI_toInt (by omega)]; omega
    have e2 : 16 * nI (t - k) + nI x = nI (16 * (t - k) + x) := by rw [show (16 : Int32) = nI 16 from rfl, pk_mul, nI_add]
    have v2 : vpb (nI (16 * (t - k) + x)) 3216 = true := vpb_nI (by omega) (by omega)
    have c2 := nI_clamp (show 16 * (t - k) + x < 2 ^ 31 by omega)
    rw [if_pos c, m_X12_value, nI_48', lAk, if_pos v1, c1, ex, nmk, lAk, if_pos v1, c1, ek, nmk, e1, if_pos h0, e2, lLk, if_pos v2, c2]
  · have h0 : ¬ (0 : Int32) ≤ nI t - nI k := by rw [fx_le, ti_0, ed]; omega
    have v2 : vpb (nI x) 16 = true := vpb_nI x16 (by omega)
    have c2 := nI_clamp (show x < 2 ^ 31 by omega)
    rw [if_neg c, m_X12_value, nI_48', lAk, if_pos v1, c1, ex, nmk, lAk, if_pos v1, c1, ek, nmk, if_neg h0, lLk, if_pos v2, c2]
theorem sortcases {x : Int32} (h : inR x 0 6) : x = 0 ∨ x = 1 ∨ x = 2 ∨ x = 3 ∨ x = 4 ∨ x = 5 ∨ x = 6 := by
  have t2 : (2 : Int32).toInt = 2 := rfl
  have t3 : (3 : Int32).toInt = 3 := rfl
  have t4 : (4 : Int32).toInt = 4 := rfl
  have t5 : (5 : Int32).toInt = 5 := rfl
  have t6 : (6 : Int32).toInt = 6 := rfl
  have := h.1
  have := h.2
  simp only [fx_eq, ti_0, ti_1, t2, t3, t4, t5, t6]
  omega
section OPX
variable {s : Sg} {a t : Nat}
/-- the class: why an act is refused -/
theorem refusalOf_eq (ha : a < 16) (ht : t < 200) (hA : ActOk (gA s 1 1) (gA s 1 5) (gA s 1 6) (gA s 1 7) a) : m_X7_refusalOf (nI a) (nI t) s = some (opW (gA s 1 1) (gA s 1 5) (gA s 5 0) (gA s 5 1) a (tkX (gL s 13 3) (gA s 1 6) (gA s 1 7) a 0 t) (tkX (gL s 13 3) (gA s 1 6) (gA s 1 7) a 1 t), s) := by
  obtain ⟨h1, h2, h3, h4, h5, h6⟩ := hA
  have va : vpb (nI a) 16 = true := vpb_nI (by omega) (by omega)
  have ca := nI_clamp (show a < 2 ^ 31 by omega)
  have tk : ∀ w, w < 3 → 0 ≤ (gA s 1 6 (3 * a + w)).toInt → m_X7_taken (nI a) (nI w) (nI t) s = some (tkX (gL s 13 3) (gA s 1 6) (gA s 1 7) a w t, s) := fun w hw h0 => taken_eq ha hw ht ⟨h0, (h3 w hw).1.2⟩ ((h3 w hw).2 h0)
  unfold opW
  by_cases c : gA s 1 1 a = 4 ∨ gA s 1 1 a = 5
  · have ht1 : m_X0_touchesRows (nI a) s = some (1, s) := by
      rw [m_X0_touchesRows, lAk, if_pos va, ca]
      rcases c with c | c
      · rw [if_pos c]
      · rw [if_neg (by rw [c]; decide), lAk, if_pos va, ca, if_pos c]
    have n0 : ¬ gA s 1 1 a = 0 := fun q => by
      rcases c with c | c
      · rw [q] at c; exact absurd c (by decide)
      · rw [q] at c; exact absurd c (by decide)
    rw [if_pos c, m_X7_refusalOf, ht1, clk_some, if_neg (show ¬ (1 : Int32) = 0 by decide), lAk, if_pos va, ca, show (0 : Int32) = nI 0 from rfl, tk 0 (by omega) (h4 n0), clk_some, refAt_eq _ (h2 c), clk_some]
  · have ht1 : m_X0_touchesRows (nI a) s = some (0, s) := by
      rw [m_X0_touchesRows, lAk, if_pos va, ca, if_neg (fun q => c (Or.inl q)), lAk, if_pos va, ca, if_neg (fun q => c (Or.inr q))]
    rw [if_neg c, m_X7_refusalOf, ht1, clk_some, if_pos rfl, lAk, if_pos va, ca]
    by_cases d : gA s 1 1 a = 3
    · rw [if_pos d, show (1 : Int32) = nI 1 from rfl, tk 1 (by omega) (h5 (Or.inr (Or.inr (Or.inl d)))), clk_some]
      by_cases e : tkX (gL s 13 3) (gA s 1 6) (gA s 1 7) a 1 t = 0
      · rw [if_pos ((lgc_eq _ _).mpr e), if_pos ⟨d, e⟩]
      · rw [if_neg (fun q => e ((lgc_eq _ _).mp q)), if_neg (fun q => e q.2)]
    · rw [if_neg d, if_neg (fun q => d q.1)]
theorem endOf_eq (ha : a < 16) (ht : t < 200) (hA : ActOk (gA s 1 1) (gA s 1 5) (gA s 1 6) (gA s 1 7) a) (hsz : ∀ k, k < 8 → inR (gA s 5 0 k) 0 40) (hw : opW (gA s 1 1) (gA s 1 5) (gA s 5 0) (gA s 5 1) a (tkX (gL s 13 3) (gA s 1 6) (gA s 1 7) a 0 t) (tkX (gL s 13 3) (gA s 1 6) (gA s 1 7) a 1 t) = 0) : m_X7_endOf (nI a) (nI t) s = some (opV (gA s 1 1) (gA s 1 5) (gL s 1 8) a (tkX (gL s 13 3) (gA s 1 6) (gA s 1 7) a 0 t) (tkX (gL s 13 3) (gA s 1 6) (gA s 1 7) a 1 t) (tkX (gL s 13 3) (gA s 1 6) (gA s 1 7) a 2 t) (gL s 5 2), pL s 5 2 (opR (gA s 1 1) (gA s 1 5) a (tkX (gL s 13 3) (gA s 1 6) (gA s 1 7) a 0 t) (tkX (gL s 13 3) (gA s 1 6) (gA s 1 7) a 1 t) (gL s 5 2))) := by
  obtain ⟨h1, h2, h3, h4, h5, h6⟩ := hA
  have va : vpb (nI a) 16 = true := vpb_nI (by omega) (by omega)
  have ca := nI_clamp (show a < 2 ^ 31 by omega)
  have tk : ∀ w, w < 3 → 0 ≤ (gA s 1 6 (3 * a + w)).toInt → m_X7_taken (nI a) (nI w) (nI t) s = some (tkX (gL s 13 3) (gA s 1 6) (gA s 1 7) a w t, s) := fun w hw h0 => taken_eq ha hw ht ⟨h0, (h3 w hw).1.2⟩ ((h3 w hw).2 h0)
  generalize hX : tkX (gL s 13 3) (gA s 1 6) (gA s 1 7) a 0 t = X at *
  generalize hY : tkX (gL s 13 3) (gA s 1 6) (gA s 1 7) a 1 t = Y at *
  generalize hZ : tkX (gL s 13 3) (gA s 1 6) (gA s 1 7) a 2 t = Z at *
  have tk0 : ¬ gA s 1 1 a = 0 → m_X7_taken (nI a) 0 (nI t) s = some (X, s) := fun q => by rw [← hX]; exact tk 0 (by omega) (h4 q)
  have tk1 : (gA s 1 1 a = 1 ∨ gA s 1 1 a = 2 ∨ gA s 1 1 a = 3 ∨ gA s 1 1 a = 5 ∨ gA s 1 1 a = 6) → m_X7_taken (nI a) 1 (nI t) s = some (Y, s) := fun q => by rw [← hY]; exact tk 1 (by omega) (h5 q)
  have tk2 : gA s 1 1 a = 6 → m_X7_taken (nI a) 2 (nI t) s = some (Z, s) := fun q => by rw [← hZ]; exact tk 2 (by omega) (h6 q)
  have rowp : gA s 1 1 a = 4 ∨ gA s 1 1 a = 5 → m_X6_placeOf (gA s 1 5 a) X.toInt32 s = some (nI (plN (gA s 1 5) a X), s) ∧ vpb (nI (plN (gA s 1 5) a X)) 320 = true ∧ (nI (plN (gA s 1 5) a X)).toNatClampNeg = plN (gA s 1 5) a X := fun q => by
    have hs := h2 q
    have cs := fx_cl hs.1
    unfold opW at hw
    rw [if_pos q] at hw
    have hp := why_place hw (hsz _ (by have := hs.2; omega))
    have e : gA s 1 5 a = nI (gA s 1 5 a).toNatClampNeg := fx_nI hs.1
    have lt : plN (gA s 1 5) a X < 320 := by unfold plN; have := hs.2; omega
    refine ⟨?_, vpb_nI lt (by omega), nI_clamp (by omega)⟩
    rw [m_X6_placeOf, x32 hp.1 hp.2.2, e, show (40 : Int32) = nI 40 from rfl, pk_mul, nI_add]
    unfold plN
    rw [Nat.mul_comm]
  unfold opV opR
  rw [m_X7_endOf, lAk, if_pos va, ca]
  rcases sortcases h1 with c | c | c | c | c | c | c
  · have v8 : vpb (nI a) 16 = true := va
    rw [if_pos c, if_pos c, lLk, if_pos va, ca, if_neg (by rw [c]; decide), pL_self]
  · have n0 : ¬ gA s 1 1 a = 0 := by rw [c]; decide
    rw [if_neg n0, if_neg n0, if_pos c, if_pos c, tk0 n0, clk_some, tk1 (Or.inl c), clk_some, if_neg (by rw [c]; decide), pL_self]
  · have n0 : ¬ gA s 1 1 a = 0 := by rw [c]; decide
    have n1 : ¬ gA s 1 1 a = 1 := by rw [c]; decide
    rw [if_neg n0, if_neg n0, if_neg n1, if_neg n1, if_pos c, if_pos c, tk0 n0, clk_some, tk1 (Or.inr (Or.inl c)), clk_some, if_neg (by rw [c]; decide), pL_self]
  · have n0 : ¬ gA s 1 1 a = 0 := by rw [c]; decide
    have n1 : ¬ gA s 1 1 a = 1 := by rw [c]; decide
    have n2 : ¬ gA s 1 1 a = 2 := by rw [c]; decide
    have ny : ¬ Y = 0 := fun q => by
      unfold opW at hw
      rw [if_neg (by rw [c]; decide), if_pos ⟨c, q⟩] at hw
      exact absurd hw (by decide)
    rw [if_neg n0, if_neg n0, if_neg n1, if_neg n1, if_neg n2, if_neg n2, if_pos c, if_pos c, tk0 n0, clk_some, tk1 (Or.inr (Or.inr (Or.inl c))), clk_some, m_X7_quotient, if_neg (fun q => ny ((lgc_eq _ _).mp q)), dlk, if_neg ny, clk_some, if_neg (by rw [c]; decide), pL_self]
  · have n0 : ¬ gA s 1 1 a = 0 := by rw [c]; decide
    have n1 : ¬ gA s 1 1 a = 1 := by rw [c]; decide
    have n2 : ¬ gA s 1 1 a = 2 := by rw [c]; decide
    have n3 : ¬ gA s 1 1 a = 3 := by rw [c]; decide
    obtain ⟨r1, r2, r3⟩ := rowp (Or.inl c)
    rw [if_neg n0, if_neg n0, if_neg n1, if_neg n1, if_neg n2, if_neg n2, if_neg n3, if_neg n3, if_pos c, if_pos c, lAk, if_pos va, ca, tk0 n0, clk_some, r1, clk_some, lLk, if_pos r2, r3, if_neg (by rw [c]; decide), pL_self]
  · have n0 : ¬ gA s 1 1 a = 0 := by rw [c]; decide
    have n1 : ¬ gA s 1 1 a = 1 := by rw [c]; decide
    have n2 : ¬ gA s 1 1 a = 2 := by rw [c]; decide
    have n3 : ¬ gA s 1 1 a = 3 := by rw [c]; decide
    have n4 : ¬ gA s 1 1 a = 4 := by rw [c]; decide
    obtain ⟨r1, r2, r3⟩ := rowp (Or.inr c)
    rw [if_neg n0, if_neg n0, if_neg n1, if_neg n1, if_neg n2, if_neg n2, if_neg n3, if_neg n3, if_neg n4, if_neg n4, if_pos c, if_pos c, if_pos c, lAk, if_pos va, ca, tk0 n0, clk_some, r1, clk_some, tk1 (Or.inr (Or.inr (Or.inr (Or.inl c)))), clk_some, m_X7_exchange, lLk, if_pos r2, r3, nmk, sLk, if_pos r2, r3, clk_some]
  · have n0 : ¬ gA s 1 1 a = 0 := by rw [c]; decide
    have n1 : ¬ gA s 1 1 a = 1 := by rw [c]; decide
    have n2 : ¬ gA s 1 1 a = 2 := by rw [c]; decide
    have n3 : ¬ gA s 1 1 a = 3 := by rw [c]; decide
    have n4 : ¬ gA s 1 1 a = 4 := by rw [c]; decide
    have n5 : ¬ gA s 1 1 a = 5 := by rw [c]; decide
    rw [if_neg n0, if_neg n0, if_neg n1, if_neg n1, if_neg n2, if_neg n2, if_neg n3, if_neg n3, if_neg n4, if_neg n4, if_neg n5, if_neg n5, if_neg n5, tk0 n0, clk_some, pL_self]
    by_cases e : X = 0
    · rw [if_pos e, if_pos ((lgc_eq _ _).mpr e), tk2 c, clk_some]
    · rw [if_neg e, if_neg (fun q => e ((lgc_eq _ _).mp q)), tk1 (Or.inr (Or.inr (Or.inr (Or.inr c)))), clk_some]
theorem begin_eq {j : Nat} (hj : j = 14 ∨ j = 15 ∨ j = 16) (ha : a < 16) (ht : t < 200) (hA : ActOk (gA s 1 1) (gA s 1 5) (gA s 1 6) (gA s 1 7) a) (hsz : ∀ k, k < 8 → inR (gA s 5 0 k) 0 40) {W : Int32} (hW : opW (gA s 1 1) (gA s 1 5) (gA s 5 0) (gA s 5 1) a (tkX (gL s 13 3) (gA s 1 6) (gA s 1 7) a 0 t) (tkX (gL s 13 3) (gA s 1 6) (gA s 1 7) a 1 t) = W) : (W = 0 → m_X7_begin j (nI a) (nI t) s = some ((), pL (pL (pI s j 3 (gI s j 3 + 1)) 5 2 (opR (gA s 1 1) (gA s 1 5) a (tkX (gL s 13 3) (gA s 1 6) (gA s 1 7) a 0 t) (tkX (gL s 13 3) (gA s 1 6) (gA s 1 7) a 1 t) (gL s 5 2))) 13 3 (vp_updL (gL s 13 3) (16 * (4 + t) + a) (opV (gA s 1 1) (gA s 1 5) (gL s 1 8) a (tkX (gL s 13 3) (gA s 1 6) (gA s 1 7) a 0 t) (tkX (gL s 13 3) (gA s 1 6) (gA s 1 7) a 1 t) (tkX (gL s 13 3) (gA s 1 6) (gA s 1 7) a 2 t) (gL s 5 2))))) ∧ (¬ W = 0 → m_X7_begin j (nI a) (nI t) s = some ((), pI (pI (pI (pI s j 3 (gI s j 3 + 1)) j 0 W) j 1 (nI a)) j 2 (nI t))) := by
  obtain ⟨s2, hs2⟩ : ∃ s', s' = pI s j 3 (gI s j 3 + 1) := ⟨_, rfl⟩
  have eA : ∀ x y, gA s2 x y = gA s x y := fun x y => by rw [hs2]; rfl
  have eL : ∀ x y, gL s2 x y = gL s x y := fun x y => by rw [hs2]; rfl
  have r := refusalOf_eq (s := s2) ha ht (by rw [eA, eA, eA, eA]; exact hA)
  rw [eA, eA, eA, eA, eA, eA, eL, hW] at r
  have epl : ∀ st, m_X7_placeOf (nI a) (nI t) st = some (nI (16 * (4 + t) + a), st) := fun st => by
    rw [m_X7_placeOf, show (4 : Int32) = nI 4 from rfl, nI_add, nI_16]
  have vp : vpb (nI (16 * (4 + t) + a)) 3264 = true := vpb_nI (by omega) (by omega)
  have cp := nI_clamp (show 16 * (4 + t) + a < 2 ^ 31 by omega)
  constructor
  · intro h0
    have r2 := endOf_eq (s := s2) ha ht (by rw [eA, eA, eA, eA]; exact hA) (by rw [eA]; exact hsz) (by rw [eA, eA, eA, eA, eA, eA, eL, hW]; exact h0)
    rw [eA, eA, eA, eA, eL, eL, eL] at r2
    rw [m_X7_begin, gIk, sIk, ← hs2, r, clk_some, nmk, if_pos h0, epl, clk_some, r2, clk_some, sLk, if_pos vp, cp]
    have e3 : ∀ R, gL (pL s2 5 2 R) 13 3 = gL s 13 3 := fun R => eL 13 3
    rw [e3]
  · intro h0
    rw [m_X7_begin, gIk, sIk, ← hs2, r, clk_some, nmk, if_neg h0, m_X5_refused, sIk, sIk, sIk, clk_some]
end OPX
section OPM
variable {s : Sg} {a t : Nat}
theorem does_eq (ha : a < 16) (ht : t < 200) (hA : ActOk (gA s 0 0) (gA s 0 4) (gA s 0 5) (gA s 0 6) a) (hsz : ∀ k, k < 8 → inR (gA s 0 23 k) 0 40) {X Y Z : Int64} (hX : ¬ gA s 0 0 a = 0 → tkM (gL s 0 37) (gL s 0 7) (gA s 0 5) (gA s 0 6) a 0 t = X) (hY : 0 ≤ (gA s 0 5 (3 * a + 1)).toInt → tkM (gL s 0 37) (gL s 0 7) (gA s 0 5) (gA s 0 6) a 1 t = Y) (hZ : 0 ≤ (gA s 0 5 (3 * a + 2)).toInt → tkM (gL s 0 37) (gL s 0 7) (gA s 0 5) (gA s 0 6) a 2 t = Z) {W : Int32} (hW : opW (gA s 0 0) (gA s 0 4) (gA s 0 23) (gA s 0 24) a X Y = W) : (W = 0 → m_X12_does (nI a) (nI t) s = some (0, pL (pL s 0 21 (opR (gA s 0 0) (gA s 0 4) a X Y (gL s 0 21))) 0 37 (vp_updL (gL s 0 37) (16 * t + a) (opV (gA s 0 0) (gA s 0 4) (gL s 0 8) a X Y Z (gL s 0 21))))) ∧ (¬ W = 0 → m_X12_does (nI a) (nI t) s = some (W, s)) := by
  obtain ⟨h1, h2, h3, h4, h5, h6⟩ := hA
  have va : vpb (nI a) 16 = true := vpb_nI (by omega) (by omega)
  have ca := nI_clamp (show a < 2 ^ 31 by omega)
  have tk : ∀ w, w < 3 → 0 ≤ (gA s 0 5 (3 * a + w)).toInt → m_X12_value (nI a) (nI w) (nI t) s = some (tkM (gL s 0 37) (gL s 0 7) (gA s 0 5) (gA s 0 6) a w t, s) := fun w hw h0 => value_eq ha hw ht ⟨h0, (h3 w hw).1.2⟩ ((h3 w hw).2 h0)
  have tk0 : ¬ gA s 0 0 a = 0 → m_X12_value (nI a) 0 (nI t) s = some (X, s) := fun q => by rw [← hX q]; exact tk 0 (by omega) (h4 q)
  have tk1 : 0 ≤ (gA s 0 5 (3 * a + 1)).toInt → m_X12_value (nI a) 1 (nI t) s = some (Y, s) := fun q => by rw [← hY q]; exact tk 1 (by omega) q
  have tk2 : gA s 0 0 a = 6 → m_X12_value (nI a) 2 (nI t) s = some (Z, s) := fun q => by rw [← hZ (h6 q)]; exact tk 2 (by omega) (h6 q)
  have v31 : vpb (nI (3 * a + 1)) 48 = true := vpb_nI (by omega) (by omega)
  have c31 := nI_clamp (show 3 * a + 1 < 2 ^ 31 by omega)
  have e31 : 3 * nI a + 1 = nI (3 * a + 1) := nI_48' (a := a) (w := 1)
  -- the end's place
  have vq : vpb (nI (16 * t + a)) 3216 = true := vpb_nI (by omega) (by omega)
  have cq := nI_clamp (show 16 * t + a < 2 ^ 31 by omega)
  have eq1 : 16 * nI t + nI a = nI (16 * t + a) := by rw [show (16 : Int32) = nI 16 from rfl, pk_mul, nI_add]
  have d228 : ∀ (st : Sg) (v : Int64), m_X12_does_228 (nI a) (nI t) v st = some (0, pL st 0 37 (vp_updL (gL st 0 37) (16 * t + a) v)) := fun st v => by
    rw [m_X12_does_228, eq1, sLk, if_pos vq, cq]
  -- behind the second operand
  have d25 : ∀ x : Int64, ∃ y : Int64, (0 ≤ (gA s 0 5 (3 * a + 1)).toInt → y = Y) ∧ m_X12_does_25 (nI a) (nI t) x s = m_X12_does_50 (nI a) (nI t) x y s := fun x => by
    by_cases c : 0 ≤ (gA s 0 5 (3 * a + 1)).toInt
    · refine ⟨Y, fun _ => rfl, ?_⟩
      have c' : (0 : Int32) ≤ gA s 0 5 (3 * a + 1) := by rw [fx_le, ti_0]; exact c
      rw [m_X12_does_25, nmk, e31, lAk, if_pos v31, c31, if_pos c', tk1 c, clk_some]
    · refine ⟨0, fun q => absurd q c, ?_⟩
      have c' : ¬ (0 : Int32) ≤ gA s 0 5 (3 * a + 1) := by rw [fx_le, ti_0]; exact c
      rw [m_X12_does_25, nmk, e31, lAk, if_pos v31, c31, if_neg c']
  have nrow : ¬ (gA s 0 0 a = 4 ∨ gA s 0 0 a = 5) → ∀ (x y e : Int64), m_X12_does_157 (nI a) (nI t) x y e s = some (0, pL s 0 37 (vp_updL (gL s 0 37) (16 * t + a) e)) := fun q x y e => by
    have hi : m_X12_isOfRow (nI a) s = some (0, s) := by
      rw [m_X12_isOfRow, lAk, if_pos va, ca, if_neg (fun r => q (Or.inl r)), lAk, if_pos va, ca, if_neg (fun r => q (Or.inr r))]
    rw [m_X12_does_157, hi, clk_some, if_pos rfl, d228]
  have yrow : gA s 0 0 a = 4 ∨ gA s 0 0 a = 5 → ∀ (y e : Int64), m_X12_does_157 (nI a) (nI t) X y e s = if whyF (gA s 0 23) (gA s 0 24) (gA s 0 4 a).toNatClampNeg X = 0 then (if gA s 0 0 a = 5 then m_X12_does_228 (nI a) (nI t) (gL s 0 21 (plN (gA s 0 4) a X)) (pL s 0 21 (vp_updL (gL s 0 21) (plN (gA s 0 4) a X) y)) else m_X12_does_228 (nI a) (nI t) (gL s 0 21 (plN (gA s 0 4) a X)) s) else some (whyF (gA s 0 23) (gA s 0 24) (gA s 0 4 a).toNatClampNeg X, s) := fun q y e => by
    have hs := h2 q
    have cs := fx_cl hs.1
    have hi : m_X12_isOfRow (nI a) s = some (1, s) := by
      rw [m_X12_isOfRow, lAk, if_pos va, ca]
      rcases q with q | q
      · rw [if_pos q]
      · rw [if_neg (by rw [q]; decide), lAk, if_pos va, ca, if_pos q]
    have hs8 : inR (gA s 0 23 (gA s 0 4 a).toNatClampNeg) 0 40 := hsz _ (by have := hs.2; omega)
    rw [m_X12_does_157, hi, clk_some, if_neg (show ¬ (1 : Int32) = 0 by decide), lAk, if_pos va, ca, why_eq _ hs X s hs8, clk_some, nmk]
    by_cases c : whyF (gA s 0 23) (gA s 0 24) (gA s 0 4 a).toNatClampNeg X = 0
    · have hp := why_place c hs8
      have lt : plN (gA s 0 4) a X < 320 := by unfold plN; have := hs.2; omega
      have ep : 40 * gA s 0 4 a + X.toInt32 = nI (plN (gA s 0 4) a X) := by
        rw [x32 hp.1 hp.2.2]
        unfold plN
        rw [← nI_add, ← pk_mul, ← fx_nI hs.1]
        rfl
      have vp := vpb_nI lt (show 320 < 2 ^ 31 by omega)
      have cp := nI_clamp (show plN (gA s 0 4) a X < 2 ^ 31 by omega)
      rw [if_pos c, if_pos c, lAk, if_pos va, ca, nmk, ep, lLk, if_pos vp, cp, nmk, lAk, if_pos va, ca]
      by_cases d : gA s 0 0 a = 5
      · rw [if_pos d, if_pos d, sLk, if_pos vp, cp]
      · rw [if_neg d, if_neg d]
    · rw [if_neg c, if_neg c]
  have main : m_X12_does (nI a) (nI t) s = if W = 0 then some (0, pL (pL s 0 21 (opR (gA s 0 0) (gA s 0 4) a X Y (gL s 0 21))) 0 37 (vp_updL (gL s 0 37) (16 * t + a) (opV (gA s 0 0) (gA s 0 4) (gL s 0 8) a X Y Z (gL s 0 21)))) else some (W, s) := by
    rw [← hW]
    unfold opW opV opR
    rw [m_X12_does, lAk, if_pos va, ca]
    rcases sortcases h1 with c | c | c | c | c | c | c
    · obtain ⟨y, -, r⟩ := d25 (gL s 0 8 a)
      have m1 : ¬ gA s 0 0 a = 1 := by rw [c]; decide
      have m2 : ¬ gA s 0 0 a = 2 := by rw [c]; decide
      have m3 : ¬ gA s 0 0 a = 3 := by rw [c]; decide
      have m5 : ¬ gA s 0 0 a = 5 := by rw [c]; decide
      have m6 : ¬ gA s 0 0 a = 6 := by rw [c]; decide
      have m45 : ¬ (gA s 0 0 a = 4 ∨ gA s 0 0 a = 5) := by rw [c]; decide
      rw [if_pos c, lLk, if_pos va, ca, r, m_X12_does_50, nmk, nmk, nmk, lAk, if_pos va, ca, if_neg m1, m_X12_does_74, lAk, if_pos va, ca, if_neg m2, m_X12_does_90, lAk, if_pos va, ca, if_neg m6, m_X12_does_121, lAk, if_pos va, ca, if_neg m3, m_X12_does_141, lAk, if_pos va, ca, if_neg m3, nrow m45, if_neg m45, if_neg (show ¬ (gA s 0 0 a = 3 ∧ Y = 0) from fun q => m3 q.1), if_pos rfl, if_pos c, if_neg m5, pL_self]
    · have m0 : ¬ gA s 0 0 a = 0 := by rw [c]; decide
      obtain ⟨y, ey, r⟩ := d25 X
      have m2 : ¬ gA s 0 0 a = 2 := by rw [c]; decide
      have m3 : ¬ gA s 0 0 a = 3 := by rw [c]; decide
      have m5 : ¬ gA s 0 0 a = 5 := by rw [c]; decide
      have m6 : ¬ gA s 0 0 a = 6 := by rw [c]; decide
      have m45 : ¬ (gA s 0 0 a = 4 ∨ gA s 0 0 a = 5) := by rw [c]; decide
      rw [if_neg m0, tk0 m0, clk_some, r, ey (h5 (Or.inl c)), m_X12_does_50, nmk, nmk, nmk, lAk, if_pos va, ca, if_pos c, nmk, m_X12_does_74, lAk, if_pos va, ca, if_neg m2, m_X12_does_90, lAk, if_pos va, ca, if_neg m6, m_X12_does_121, lAk, if_pos va, ca, if_neg m3, m_X12_does_141, lAk, if_pos va, ca, if_neg m3, nrow m45, if_neg m45, if_neg (show ¬ (gA s 0 0 a = 3 ∧ Y = 0) from fun q => m3 q.1), if_pos rfl, if_neg m0, if_pos c, if_neg m5, pL_self]
    · have m0 : ¬ gA s 0 0 a = 0 := by rw [c]; decide
      obtain ⟨y, ey, r⟩ := d25 X
      have m1 : ¬ gA s 0 0 a = 1 := by rw [c]; decide
      have m3 : ¬ gA s 0 0 a = 3 := by rw [c]; decide
      have m5 : ¬ gA s 0 0 a = 5 := by rw [c]; decide
      have m6 : ¬ gA s 0 0 a = 6 := by rw [c]; decide
      have m45 : ¬ (gA s 0 0 a = 4 ∨ gA s 0 0 a = 5) := by rw [c]; decide
      rw [if_neg m0, tk0 m0, clk_some, r, ey (h5 (Or.inr (Or.inl c))), m_X12_does_50, nmk, nmk, nmk, lAk, if_pos va, ca, if_neg m1, m_X12_does_74, lAk, if_pos va, ca, if_pos c, nmk, m_X12_does_90, lAk, if_pos va, ca, if_neg m6, m_X12_does_121, lAk, if_pos va, ca, if_neg m3, m_X12_does_141, lAk, if_pos va, ca, if_neg m3, nrow m45, if_neg m45, if_neg (show ¬ (gA s 0 0 a = 3 ∧ Y = 0) from fun q => m3 q.1), if_pos rfl, if_neg m0, if_neg m1, if_pos c, if_neg m5, pL_self]
    · have m0 : ¬ gA s 0 0 a = 0 := by rw [c]; decide
      obtain ⟨y, ey, r⟩ := d25 X
      have m1 : ¬ gA s 0 0 a = 1 := by rw [c]; decide
      have m2 : ¬ gA s 0 0 a = 2 := by rw [c]; decide
      have m5 : ¬ gA s 0 0 a = 5 := by rw [c]; decide
      have m6 : ¬ gA s 0 0 a = 6 := by rw [c]; decide
      have m45 : ¬ (gA s 0 0 a = 4 ∨ gA s 0 0 a = 5) := by rw [c]; decide
      rw [if_neg m0, tk0 m0, clk_some, r, ey (h5 (Or.inr (Or.inr (Or.inl c)))), m_X12_does_50, nmk, nmk, nmk, lAk, if_pos va, ca, if_neg m1, m_X12_does_74, lAk, if_pos va, ca, if_neg m2, m_X12_does_90, lAk, if_pos va, ca, if_neg m6, m_X12_does_121, lAk, if_pos va, ca, if_pos c, if_neg m45]
      by_cases e : Y = 0
      · rw [if_pos ((lgc_eq _ _).mpr e), if_pos (show gA s 0 0 a = 3 ∧ Y = 0 from ⟨c, e⟩), if_neg (show ¬ (-8 : Int32) = 0 by decide)]
      · rw [if_neg (fun q => e ((lgc_eq _ _).mp q)), if_neg (show ¬ (gA s 0 0 a = 3 ∧ Y = 0) from fun q => e q.2), if_pos rfl, m_X12_does_141, lAk, if_pos va, ca, if_pos c, dlk, if_neg e, nmk, nrow m45, if_neg m0, if_neg m1, if_neg m2, if_pos c, if_neg m5, pL_self]
    · have m0 : ¬ gA s 0 0 a = 0 := by rw [c]; decide
      obtain ⟨y, ey, r⟩ := d25 X
      have m1 : ¬ gA s 0 0 a = 1 := by rw [c]; decide
      have m2 : ¬ gA s 0 0 a = 2 := by rw [c]; decide
      have m3 : ¬ gA s 0 0 a = 3 := by rw [c]; decide
      have m5 : ¬ gA s 0 0 a = 5 := by rw [c]; decide
      have m6 : ¬ gA s 0 0 a = 6 := by rw [c]; decide
      have m45 : gA s 0 0 a = 4 ∨ gA s 0 0 a = 5 := Or.inl c
      rw [if_neg m0, tk0 m0, clk_some, r, m_X12_does_50, nmk, nmk, nmk, lAk, if_pos va, ca, if_neg m1, m_X12_does_74, lAk, if_pos va, ca, if_neg m2, m_X12_does_90, lAk, if_pos va, ca, if_neg m6, m_X12_does_121, lAk, if_pos va, ca, if_neg m3, m_X12_does_141, lAk, if_pos va, ca, if_neg m3, yrow m45, if_pos m45, if_neg m5, if_neg m0, if_neg m1, if_neg m2, if_neg m3, if_pos c, if_neg m5, d228, pL_self]
    · have m0 : ¬ gA s 0 0 a = 0 := by rw [c]; decide
      obtain ⟨y, ey, r⟩ := d25 X
      have m1 : ¬ gA s 0 0 a = 1 := by rw [c]; decide
      have m2 : ¬ gA s 0 0 a = 2 := by rw [c]; decide
      have m3 : ¬ gA s 0 0 a = 3 := by rw [c]; decide
      have m4 : ¬ gA s 0 0 a = 4 := by rw [c]; decide
      have m6 : ¬ gA s 0 0 a = 6 := by rw [c]; decide
      have m45 : gA s 0 0 a = 4 ∨ gA s 0 0 a = 5 := Or.inr c
      rw [if_neg m0, tk0 m0, clk_some, r, ey (h5 (Or.inr (Or.inr (Or.inr (Or.inl c))))), m_X12_does_50, nmk, nmk, nmk, lAk, if_pos va, ca, if_neg m1, m_X12_does_74, lAk, if_pos va, ca, if_neg m2, m_X12_does_90, lAk, if_pos va, ca, if_neg m6, m_X12_does_121, lAk, if_pos va, ca, if_neg m3, m_X12_does_141, lAk, if_pos va, ca, if_neg m3, yrow m45, if_pos m45, if_pos c, if_neg m0, if_neg m1, if_neg m2, if_neg m3, if_neg m4, if_pos c, if_pos c, d228]
      rfl
    · have m0 : ¬ gA s 0 0 a = 0 := by rw [c]; decide
      obtain ⟨y, ey, r⟩ := d25 X
      have m1 : ¬ gA s 0 0 a = 1 := by rw [c]; decide
      have m2 : ¬ gA s 0 0 a = 2 := by rw [c]; decide
      have m3 : ¬ gA s 0 0 a = 3 := by rw [c]; decide
      have m4 : ¬ gA s 0 0 a = 4 := by rw [c]; decide
      have m5 : ¬ gA s 0 0 a = 5 := by rw [c]; decide
      have m45 : ¬ (gA s 0 0 a = 4 ∨ gA s 0 0 a = 5) := by rw [c]; decide
      have d121 : ∀ v, m_X12_does_121 (nI a) (nI t) X Y v s = some (0, pL s 0 37 (vp_updL (gL s 0 37) (16 * t + a) v)) := fun v => by
        rw [m_X12_does_121, lAk, if_pos va, ca, if_neg m3, m_X12_does_141, lAk, if_pos va, ca, if_neg m3, nrow m45]
      rw [if_neg m0, tk0 m0, clk_some, r, ey (h5 (Or.inr (Or.inr (Or.inr (Or.inr c))))), m_X12_does_50, nmk, nmk, nmk, lAk, if_pos va, ca, if_neg m1, m_X12_does_74, lAk, if_pos va, ca, if_neg m2, m_X12_does_90, lAk, if_pos va, ca, if_pos c, if_neg m45, if_neg (show ¬ (gA s 0 0 a = 3 ∧ Y = 0) from fun q => m3 q.1), if_pos rfl, if_neg m0, if_neg m1, if_neg m2, if_neg m3, if_neg m4, if_neg m5, if_neg m5, pL_self]
      by_cases e : X = 0
      · rw [if_pos ((lgc_eq _ _).mpr e), if_pos e, tk2 c, clk_some, m_X12_does_119, nmk, d121]
      · rw [if_neg (fun q => e ((lgc_eq _ _).mp q)), if_neg e, m_X12_does_119, nmk, d121]
  exact ⟨fun q => by rw [main, if_pos q], fun q => by rw [main, if_neg q]⟩
end OPM
