-- 56.rows: empty, set, get, row
theorem isInL_eq (a lo hi : Int64) (st : Sg) : m_X12_isIn a lo hi st = some (if lo.toInt ≤ a.toInt ∧ a.toInt ≤ hi.toInt then 1 else 0, st) := by
  simp only [m_X12_isIn, lgc_lt, lgc_gt, Int64.lt_iff_toInt_lt]
  by_cases h1 : a.toInt < lo.toInt
  · rw [if_pos h1, if_neg (by omega)]
  · rw [if_neg h1]
    by_cases h2 : hi.toInt < a.toInt
    · rw [if_pos h2, if_neg (by omega)]
    · rw [if_neg h2, if_pos (by omega)]
/-- why a place can't be used, or 0 -/
def whyF (size wide : Nat → Int32) (s : Nat) (i : Int64) : Int32 := if size s = 0 then -2 else if wide s = 0 then -5 else if 0 ≤ i.toInt ∧ i.toInt < (size s).toInt then 0 else -3
theorem refAt_eq (p : Int32) (hp : 0 ≤ p.toInt ∧ p.toInt ≤ 7) (i : Int64) (st : Sg) : m_X6_refusalAt p i st = some (whyF (gA st 5 0) (gA st 5 1) p.toNatClampNeg i, st) := by
  have hv : vpb p 8 = true := by rw [vpb_iff]; omega
  have e : ∀ v : Int32, v.toInt64.toInt = v.toInt := fun v => Int32.toInt_toInt64 v
  simp only [m_X6_refusalAt, whyF, lgc_lt, Int64.lt_iff_toInt_lt, e, fx_lt p, ti_0, ti_8, tl_0, lAk, if_pos hv]
  rw [if_neg (by omega), if_pos (by omega)]
  by_cases h1 : gA st 5 0 p.toNatClampNeg = 0
  · simp only [if_pos h1]
  · simp only [if_neg h1]
    by_cases h2 : gA st 5 1 p.toNatClampNeg = 0
    · simp only [if_pos h2]
    · simp only [if_neg h2]
      by_cases h3 : i.toInt < 0
      · rw [if_pos h3, if_neg (by omega)]
      · rw [if_neg h3]
        by_cases h4 : i.toInt < (gA st 5 0 p.toNatClampNeg).toInt
        · rw [if_pos h4, if_pos (by omega)]
        · rw [if_neg h4, if_neg (by omega)]
theorem refAt_no (p : Int32) (hp : ¬ (0 ≤ p.toInt ∧ p.toInt ≤ 7)) (i : Int64) (st : Sg) : m_X6_refusalAt p i st = some (-3, st) := by
  simp only [m_X6_refusalAt, fx_lt, ti_0, ti_8]
  by_cases h : p.toInt < 0
  · rw [if_pos h]
  · rw [if_neg h, if_neg (by omega)]
theorem why_eq (p : Int32) (hp : 0 ≤ p.toInt ∧ p.toInt ≤ 7) (i : Int64) (st : Sg) (hs : inR (gA st 0 23 p.toNatClampNeg) 0 40) : m_X12_why p i st = some (whyF (gA st 0 23) (gA st 0 24) p.toNatClampNeg i, st) := by
  have hv : vpb p 8 = true := by rw [vpb_iff]; omega
  have e : ∀ v : Int32, v.toInt64.toInt = v.toInt := fun v => Int32.toInt_toInt64 v
  obtain ⟨s1, s2⟩ := hs
  have e1 : (gA st 0 23 p.toNatClampNeg - 1).toInt = (gA st 0 23 p.toNatClampNeg).toInt - 1 := by rw [fx_sub] <;> rw [ti_1] <;> omega
  simp only [m_X12_why, whyF, lAk, if_pos hv, isInL_eq, clk_some, ite10, tl_0, e, e1]
  by_cases h1 : gA st 0 23 p.toNatClampNeg = 0
  · simp only [if_pos h1]
  · simp only [if_neg h1]
    by_cases h2 : gA st 0 24 p.toNatClampNeg = 0
    · simp only [if_pos h2]
    · simp only [if_neg h2]
      by_cases h3 : 0 ≤ i.toInt ∧ i.toInt < (gA st 0 23 p.toNatClampNeg).toInt
      · rw [if_pos (by omega), if_pos h3]
      · rw [if_neg (by omega), if_neg h3]
theorem whyF_in (size wide : Nat → Int32) (s : Nat) (i : Int64) : whyF size wide s i = 0 ∨ inR (whyF size wide s i) (-11) (-2) := by
  unfold whyF
  by_cases h1 : size s = 0
  · rw [if_pos h1]; exact Or.inr (inR_lit _ _ rfl)
  · rw [if_neg h1]
    by_cases h2 : wide s = 0
    · rw [if_pos h2]; exact Or.inr (inR_lit _ _ rfl)
    · rw [if_neg h2]
      by_cases h3 : 0 ≤ i.toInt ∧ i.toInt < (size s).toInt
      · rw [if_pos h3]; exact Or.inl rfl
      · rw [if_neg h3]; exact Or.inr (inR_lit _ _ rfl)
theorem whyF_0 {size wide : Nat → Int32} {s : Nat} {i : Int64} (h : whyF size wide s i = 0) : 0 ≤ i.toInt ∧ i.toInt < (size s).toInt := by
  unfold whyF at h
  by_cases h1 : size s = 0
  · rw [if_pos h1] at h; exact absurd h (by decide)
  · rw [if_neg h1] at h
    by_cases h2 : wide s = 0
    · rw [if_pos h2] at h; exact absurd h (by decide)
    · rw [if_neg h2] at h
      by_cases h3 : 0 ≤ i.toInt ∧ i.toInt < (size s).toInt
      · exact h3
      · rw [if_neg h3] at h; exact absurd h (by decide)
theorem inR_ne0 {r : Int32} (h : inR r (-11) (-2)) : ¬ r = 0 := fun e => by
  rw [e] at h
  exact absurd h.2 (by decide)
theorem place_x (p q : Int32) {s i : Nat} (hp : p = nI s) (hq : q = nI i) : p * 40 + q = nI (40 * s + i) := by
  rw [hp, hq, show (40 : Int32) = nI 40 from rfl, pk_mul, nI_add, Nat.mul_comm]
theorem place_m (p q : Int32) {s i : Nat} (hp : p = nI s) (hq : q = nI i) : 40 * p + q = nI (40 * s + i) := by
  rw [hp, hq, show (40 : Int32) = nI 40 from rfl, pk_mul, nI_add]
/-- a slot and a place in it -/
theorem slot_place {p q size : Int32} (hp : 0 ≤ p.toInt ∧ p.toInt ≤ 7) (hq : 0 ≤ q.toInt ∧ q.toInt < size.toInt) (hs : inR size 0 40) : ∃ s i : Nat, p = nI s ∧ q = nI i ∧ s = p.toNatClampNeg ∧ s < 8 ∧ i < 40 ∧ (i : Int) < size.toInt ∧ i = q.toNatClampNeg ∧ vpb (nI (40 * s + i)) 320 = true ∧ (nI (40 * s + i)).toNatClampNeg = 40 * s + i := by
  have a := fx_cl hp.1
  have b := fx_cl hq.1
  have c := hs.2
  refine ⟨p.toNatClampNeg, q.toNatClampNeg, fx_nI hp.1, fx_nI hq.1, rfl, by omega, by omega, by omega, rfl, vpb_nI (by omega) (by omega), nI_clamp (by omega)⟩
theorem s_set (p q : Int32) (v : Int64) {sx sm : Sg} (h : Rel sx sm) : Sim (m_X11_set p q v sx) (m_X12_set p q v sm) := by
  obtain ⟨n, t, h1, h2, h3, h4, h5, h6, h7, h8, h9, h10⟩ := id h
  obtain ⟨r0, r1, r2, r3⟩ := id h5
  have e1 := x_refuse (r := -3) (inR_lit _ _ rfl) sx
  have e2 := m_no_eq (r := -3) (inR_lit _ _ rfl) sm
  by_cases c : 0 ≤ p.toInt ∧ p.toInt ≤ 7
  case neg =>
    simp only [m_X11_set, m_X12_set, m_X12_set_19, refAt_no p c, isSlotM_eq, clk_some, ite10, if_neg c, nmk, if_neg (show ¬ (-3 : Int32) = 0 by decide), e1, e2]
    exact ⟨_, _, _, rfl, rfl, rel_ref _ h⟩
  have hc : p.toNatClampNeg < 8 := by have := fx_cl c.1; omega
  simp only [m_X11_set, m_X12_set, m_X12_set_19, refAt_eq p c, isSlotM_eq, clk_some, ite10, if_pos c, why_eq p c _ sm (r2 _ hc).1, nmk, r0, r1]
  by_cases w : whyF (gA sm 0 23) (gA sm 0 24) p.toNatClampNeg q.toInt64 = 0
  · obtain ⟨w1, w2⟩ := whyF_0 w
    rw [Int32.toInt_toInt64] at w1 w2
    obtain ⟨s, i, es, ei, es2, hs, hi, hi2, ei2, hv, hcl⟩ := slot_place c ⟨w1, w2⟩ (r2 _ hc).1
    rw [if_pos w, if_pos w]
    simp only [m_X6_placeOf, clk_some, place_x p q es ei, place_m p q es ei, sLk, if_pos hv, hcl]
    refine ⟨_, _, _, rfl, rfl, n, t, h1, h2, h3, h4, ⟨r0, r1, r2, fun s' i' a b => ?_⟩, h6, h7, h8, h9, h10⟩
    show vp_updL (gL sx 5 2) (40 * s + i) v (40 * s' + i') = vp_updL (gL sm 0 21) (40 * s + i) v (40 * s' + i')
    simp only [updL_i]
    by_cases g : 40 * s' + i' = 40 * s + i
    · rw [if_pos g, if_pos g]
    · rw [if_neg g, if_neg g]; exact r3 s' i' a b
  · have hr := (whyF_in (gA sm 0 23) (gA sm 0 24) p.toNatClampNeg q.toInt64).resolve_left w
    rw [if_neg w, if_neg w, x_refuse hr sx, m_no_eq hr sm]
    exact ⟨_, _, _, rfl, rfl, rel_ref _ h⟩
theorem s_get (p q : Int32) {sx sm : Sg} (h : Rel sx sm) : Sim (m_X11_get p q sx) (m_X12_get p q sm) := by
  obtain ⟨n, t, h1, h2, h3, h4, h5, h6, h7, h8, h9, h10⟩ := id h
  obtain ⟨r0, r1, r2, r3⟩ := id h5
  have e1 := x_refuse (r := -3) (inR_lit _ _ rfl) sx
  have e2 := m_no_eq (r := -3) (inR_lit _ _ rfl) sm
  by_cases c : 0 ≤ p.toInt ∧ p.toInt ≤ 7
  case neg =>
    simp only [m_X11_get, m_X12_get, m_X12_get_19, refAt_no p c, isSlotM_eq, clk_some, ite10, if_neg c, nmk, if_neg (show ¬ (-3 : Int32) = 0 by decide), e1, e2]
    exact ⟨_, _, _, rfl, rfl, rel_ref _ h⟩
  have hc : p.toNatClampNeg < 8 := by have := fx_cl c.1; omega
  simp only [m_X11_get, m_X12_get, m_X12_get_19, refAt_eq p c, isSlotM_eq, clk_some, ite10, if_pos c, why_eq p c _ sm (r2 _ hc).1, nmk, r0, r1]
  by_cases w : whyF (gA sm 0 23) (gA sm 0 24) p.toNatClampNeg q.toInt64 = 0
  · obtain ⟨w1, w2⟩ := whyF_0 w
    rw [Int32.toInt_toInt64] at w1 w2
    obtain ⟨s, i, es, ei, es2, hs, hi, hi2, ei2, hv, hcl⟩ := slot_place c ⟨w1, w2⟩ (r2 _ hc).1
    rw [if_pos w, if_pos w]
    simp only [m_X6_placeOf, clk_some, place_x p q es ei, place_m p q es ei, lLk, if_pos hv, hcl, r3 s i hs (by rw [es2]; exact hi2)]
    exact ⟨_, _, _, rfl, rfl, h⟩
  · have hr := (whyF_in (gA sm 0 23) (gA sm 0 24) p.toNatClampNeg q.toInt64).resolve_left w
    rw [if_neg w, if_neg w, x_refuse hr sx, m_no_eq hr sm]
    exact ⟨_, _, _, rfl, rfl, rel_ref _ h⟩
theorem s_empty (p : Int32) {sx sm : Sg} (h : Rel sx sm) : Sim (m_X11_empty p sx) (m_X12_empty p sm) := by
  obtain ⟨n, t, h1, h2, h3, h4, h5, h6, h7, h8, h9, h10⟩ := id h
  obtain ⟨r0, r1, r2, r3⟩ := id h5
  have e1 := x_refuse (r := -3) (inR_lit _ _ rfl) sx
  have e2 := m_no_eq (r := -3) (inR_lit _ _ rfl) sm
  simp only [m_X11_empty, m_X12_empty, isSlotX_eq, isSlotM_eq, clk_some, ite10, e1, e2]
  by_cases c : 0 ≤ p.toInt ∧ p.toInt ≤ 7
  case neg => rw [if_neg c, if_neg c]; exact ⟨_, _, _, rfl, rfl, rel_ref _ h⟩
  have hv : vpb p 8 = true := by rw [vpb_iff]; omega
  rw [if_pos c, if_pos c]
  have key : Rel (pA sx 5 0 (upd (gA sx 5 0) p.toNatClampNeg 0)) (pA sm 0 23 (upd (gA sm 0 23) p.toNatClampNeg 0)) := by
    refine ⟨n, t, h1, h2, h3, h4, ⟨congrArg (fun f => upd f p.toNatClampNeg 0) r0, r1, fun s hs => ⟨?_, (r2 s hs).2⟩, fun s i hs hi => ?_⟩, h6, h7, h8, h9, h10⟩
    · show inR (upd (gA sm 0 23) p.toNatClampNeg 0 s) 0 40
      simp only [upd_i]
      by_cases g : s = p.toNatClampNeg
      · rw [if_pos g]; exact inR_lit _ _ rfl
      · rw [if_neg g]; exact (r2 s hs).1
    · have hi' : (i : Int) < (upd (gA sm 0 23) p.toNatClampNeg 0 s).toInt := hi
      simp only [upd_i] at hi'
      by_cases g : s = p.toNatClampNeg
      · rw [if_pos g, ti_0] at hi'; omega
      · rw [if_neg g] at hi'; exact r3 s i hs hi'
  simp only [m_X6_drop, m_X6_drop_14, m_X12_empty_28, lAk, sAk, if_pos hv, nmk, r0]
  by_cases g : gA sm 0 23 p.toNatClampNeg ≤ 0
  · rw [if_pos g, if_pos g]
    rw [r0] at key
    exact ⟨0, _, _, rfl, rfl, key⟩
  · rw [if_neg g, if_neg g]
    rw [r0] at key
    exact ⟨1, _, _, rfl, rfl, key⟩
-- row
/-- zeroes from a on, n of them -/
def zrL (a n : Nat) (f : Nat → Int64) : Nat → Int64 := fun q => if a ≤ q ∧ q < a + n then 0 else f q
theorem zrL_0 (a : Nat) (f : Nat → Int64) : zrL a 0 f = f := by
  funext q
  unfold zrL
  rw [if_neg (by omega)]
theorem zrL_s (a n : Nat) (f : Nat → Int64) : vp_updL (zrL a n f) (a + n) 0 = zrL a (n + 1) f := by
  funext q
  simp only [updL_i, zrL]
  by_cases h : q = a + n
  · rw [if_pos h, if_pos (by omega)]
  · rw [if_neg h]
    by_cases g : a ≤ q ∧ q < a + n
    · rw [if_pos g, if_pos (by omega)]
    · rw [if_neg g, if_neg (by omega)]
theorem pL_pL (s : Sg) (j k : Nat) (f g : Nat → Int64) : pL (pL s j k f) j k g = pL s j k g := by
  unfold pL
  congr 2
  funext a b
  by_cases h1 : a = j
  · by_cases h2 : b = k <;> simp [h1, h2]
  · simp [h1]
theorem gL_pLs (s : Sg) (j k : Nat) (f : Nat → Int64) : gL (pL s j k f) j k = f := by simp [gL, pL]
theorem pL_same (s : Sg) (j k : Nat) : pL s j k (gL s j k) = s := by
  obtain ⟨a, b, c⟩ := s
  unfold pL gL
  congr 2
  funext x y
  by_cases h1 : x = j
  · by_cases h2 : y = k <;> simp [h1, h2]
  · simp [h1]
theorem make_go (s : Nat) (hs : s < 8) (f : Nat → Int64) (st : Sg) : ∀ (d i N : Nat), i + d = 40 → d < N → lp (fun s' : (Int32 × Sg) => m_X6_make_L17 (nI s) s'.1 s'.2) N (nI i, pL st 5 2 (zrL (40 * s) i f)) = some (pL st 5 2 (zrL (40 * s) 40 f)) := by
  intro d
  induction d with
  | zero =>
    intro i N hi hN
    obtain ⟨N, rfl⟩ : ∃ M, N = M + 1 := ⟨N - 1, by omega⟩
    have e : i = 40 := by omega
    subst e
    rw [lp_end (r := pL st 5 2 (zrL (40 * s) 40 f))]
    simp only [m_X6_make_L17, if_pos (show (40 : Int32) ≤ nI 40 by decide)]
  | succ d ih =>
    intro i N hi hN
    obtain ⟨N, rfl⟩ : ∃ M, N = M + 1 := ⟨N - 1, by omega⟩
    have h1 : ¬ (40 : Int32) ≤ nI i := nI_ge (a := i) (b := 40) (by omega) (by omega)
    have hv : vpb (nI (40 * s + i)) 320 = true := vpb_nI (by omega) (by omega)
    rw [lp_next (s' := (nI (i + 1), pL st 5 2 (zrL (40 * s) (i + 1) f)))]
    · exact ih (i + 1) N (by omega) (by omega)
    · simp only [m_X6_make_L17, if_neg h1, m_X6_placeOf, clk_some, place_x (nI s) (nI i) rfl rfl, sLk, if_pos hv, nI_clamp (show 40 * s + i < 2 ^ 31 by omega), gL_pLs, pL_pL, zrL_s, nmk, nI_1]
theorem make_eq (s : Nat) (hs : s < 8) (n w : Int32) (st : Sg) : m_X6_make (nI s) n w st = some ((), pL (pA (pA st 5 0 (upd (gA st 5 0) s n)) 5 1 (upd (gA st 5 1) s (vp_nar .boolean w))) 5 2 (zrL (40 * s) 40 (gL st 5 2))) := by
  have hv : vpb (nI s) 8 = true := vpb_nI hs (by omega)
  have e := make_go s hs (gL st 5 2) (pA (pA st 5 0 (upd (gA st 5 0) s n)) 5 1 (upd (gA st 5 1) s (vp_nar .boolean w))) 40 0 FU (by omega) (by unfold FU; omega)
  rw [zrL_0, show gL st 5 2 = gL (pA (pA st 5 0 (upd (gA st 5 0) s n)) 5 1 (upd (gA st 5 1) s (vp_nar .boolean w))) 5 2 from rfl, pL_same] at e
  simp only [m_X6_make, sAk, sZk, if_pos hv, nI_clamp (show s < 2 ^ 31 by omega), nmk, lpk, show (0 : Int32) = nI 0 from rfl]
  rw [show gA (pA st 5 0 (upd (gA st 5 0) s n)) 5 1 = gA st 5 1 from rfl, e]
  rfl
theorem rowM_go (s n : Nat) (hs : s < 8) (hn : n ≤ 40) (f : Nat → Int64) (st : Sg) : ∀ (d i N : Nat), i + d = n → d < N → lp (fun s' : (Int32 × Sg) => m_X12_row_L61 (nI s) (nI n) s'.1 s'.2) N (nI i, pL st 0 21 (zrL (40 * s) i f)) = some (pL st 0 21 (zrL (40 * s) n f)) := by
  intro d
  induction d with
  | zero =>
    intro i N hi hN
    obtain ⟨N, rfl⟩ : ∃ M, N = M + 1 := ⟨N - 1, by omega⟩
    have e : i = n := by omega
    subst e
    rw [lp_end (r := pL st 0 21 (zrL (40 * s) i f))]
    simp only [m_X12_row_L61, if_pos (Int32.le_refl (nI i))]
  | succ d ih =>
    intro i N hi hN
    obtain ⟨N, rfl⟩ : ∃ M, N = M + 1 := ⟨N - 1, by omega⟩
    have h1 : ¬ nI n ≤ nI i := nI_ge (a := i) (b := n) (by omega) (by omega)
    have hv : vpb (nI (40 * s + i)) 320 = true := vpb_nI (by omega) (by omega)
    rw [lp_next (s' := (nI (i + 1), pL st 0 21 (zrL (40 * s) (i + 1) f)))]
    · exact ih (i + 1) N (by omega) (by omega)
    · simp only [m_X12_row_L61, if_neg h1, place_m (nI s) (nI i) rfl rfl, sLk, if_pos hv, nI_clamp (show 40 * s + i < 2 ^ 31 by omega), gL_pLs, pL_pL, zrL_s, nmk, nI_1]
theorem bool_in (w : Int32) (hw : w = 0 ∨ w = 1) : vp_nar .boolean w = w ∧ inR w 0 1 := by
  rcases hw with e | e <;> subst e <;> exact ⟨rfl, inR_lit _ _ rfl⟩
theorem s_row (p v w : Int32) (hw : w = 0 ∨ w = 1) {sx sm : Sg} (h : Rel sx sm) : Sim (m_X11_row p v w sx) (m_X12_row p v w sm) := by
  obtain ⟨n, t, h1, h2, h3, h4, h5, h6, h7, h8, h9, h10⟩ := id h
  obtain ⟨r0, r1, r2, r3⟩ := id h5
  have e1 := x_refuse (r := -3) (inR_lit _ _ rfl) sx
  have e2 := m_no_eq (r := -3) (inR_lit _ _ rfl) sm
  have e3 := x_refuse (r := -9) (inR_lit _ _ rfl) sx
  have e4 := m_no_eq (r := -9) (inR_lit _ _ rfl) sm
  have e5 := x_refuse (r := -4) (inR_lit _ _ rfl) sx
  have e6 := m_no_eq (r := -4) (inR_lit _ _ rfl) sm
  simp only [m_X11_row, m_X12_row, isSlotX_eq, isSlotM_eq, isIn_eq, clk_some, ite10, e1, e2, e3, e4, e5, e6, tl_1, show (40 : Int64).toInt = 40 from rfl]
  by_cases c : 0 ≤ p.toInt ∧ p.toInt ≤ 7
  case neg => rw [if_neg c, if_neg c]; exact ⟨_, _, _, rfl, rfl, rel_ref _ h⟩
  rw [if_pos c, if_pos c]
  by_cases d : 0 ≤ v
  case neg => rw [if_neg d, if_neg d]; exact ⟨_, _, _, rfl, rfl, rel_ref _ h⟩
  rw [if_pos d, if_pos d]
  rw [fx_le, ti_0] at d
  by_cases g : 1 ≤ v.toInt ∧ v.toInt ≤ 40
  case neg =>
    rw [if_neg g]
    by_cases q : v = 0
    · rw [if_pos q]; exact ⟨_, _, _, rfl, rfl, rel_ref _ h⟩
    · have : ¬ v ≤ 40 := by
        rw [fx_le, ti_40]
        rw [fx_eq, ti_0] at q
        omega
      rw [if_neg q, if_neg this]; exact ⟨_, _, _, rfl, rfl, rel_ref _ h⟩
  rw [if_pos g, if_neg (show ¬ v = 0 by rw [fx_eq, ti_0]; omega), if_pos (show v ≤ 40 by rw [fx_le, ti_40]; omega)]
  have a := fx_cl c.1
  have b := fx_cl d
  have ep := fx_nI c.1
  have ev := fx_nI d
  generalize hs0 : p.toNatClampNeg = s at *
  generalize hn0 : v.toNatClampNeg = k at *
  subst ep
  subst ev
  have hs : s < 8 := by omega
  have hk : k ≤ 40 := by omega
  have hv : vpb (nI s) 8 = true := vpb_nI hs (by omega)
  obtain ⟨w1, w2⟩ := bool_in w hw
  have er := rowM_go s k hs hk (gL sm 0 21) (pA (pA sm 0 23 (upd (gA sm 0 23) s (nI k))) 0 24 (upd (gA sm 0 24) s w)) k 0 FU (by omega) (by unfold FU; omega)
  rw [zrL_0, show gL sm 0 21 = gL (pA (pA sm 0 23 (upd (gA sm 0 23) s (nI k))) 0 24 (upd (gA sm 0 24) s w)) 0 21 from rfl, pL_same] at er
  simp only [make_eq s hs (nI k) w sx, clk_some, sAk, sZk, if_pos hv, nI_clamp (show s < 2 ^ 31 by omega), nmk, lpk, show (0 : Int32) = nI 0 from rfl, w1]
  rw [show gA (pA sm 0 23 (upd (gA sm 0 23) s (nI k))) 0 24 = gA sm 0 24 from rfl, er]
  refine ⟨_, _, _, rfl, rfl, n, t, h1, h2, h3, h4, ⟨congrArg (fun f => upd f s (nI k)) r0, congrArg (fun f => upd f s w) r1, fun s' hs' => ?_, fun s' i' hs' hi' => ?_⟩, h6, h7, h8, h9, h10⟩
  · show inR (upd (gA sm 0 23) s (nI k) s') 0 40 ∧ inR (upd (gA sm 0 24) s w s') 0 1
    simp only [upd_i]
    by_cases q : s' = s
    · rw [if_pos q, if_pos q]; exact ⟨⟨by omega, by omega⟩, w2⟩
    · rw [if_neg q, if_neg q]; exact r2 s' hs'
  · have hi2 : (i' : Int) < (upd (gA sm 0 23) s (nI k) s').toInt := hi'
    show zrL (40 * s) 40 (gL sx 5 2) (40 * s' + i') = zrL (40 * s) k (gL sm 0 21) (40 * s' + i')
    simp only [upd_i] at hi2
    unfold zrL
    by_cases q : s' = s
    · subst q
      rw [if_pos rfl, nI_toInt (by omega)] at hi2
      rw [if_pos (by omega), if_pos (by omega)]
    · rw [if_neg q] at hi2
      have := (r2 s' hs').1.2
      rw [if_neg (by omega), if_neg (by omega)]
      exact r3 s' i' hs' hi2
