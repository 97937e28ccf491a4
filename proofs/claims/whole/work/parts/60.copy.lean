-- 60.copy: copy
def cutL (i : Nat) (f g : Nat → Int64) : Nat → Int64 := fun q => if q < i then f q else g q
theorem cutL_s (i : Nat) (f g : Nat → Int64) : vp_updL (cutL i f g) i (f i) = cutL (i + 1) f g := by
  funext q
  simp only [updL_i, cutL]
  by_cases h : q = i
  · rw [if_pos h, if_pos (by omega), h]
  · rw [if_neg h]
    by_cases g2 : q < i
    · rw [if_pos g2, if_pos (by omega)]
    · rw [if_neg g2, if_neg (by omega)]
theorem cpy_0 (f g : Nat → Int64) (a b : Nat) : va_cpy f g a b 0 = g := by
  funext q
  exact pk_cpy_out (by omega)
theorem cpy_s (f g : Nat → Int64) (a b n : Nat) : vp_updL (va_cpy f g a b n) (b + n) (f (a + n)) = va_cpy f g a b (n + 1) := by
  funext q
  rw [updL_i]
  by_cases h : q = b + n
  · rw [if_pos h, pk_cpy_in (by omega) (by omega), h, show b + n - b = n by omega]
  · rw [if_neg h]
    by_cases i : b ≤ q ∧ q < b + n
    · rw [pk_cpy_in i.1 i.2, pk_cpy_in i.1 (by omega)]
    · rw [pk_cpy_out (by omega), pk_cpy_out (by omega)]
theorem now_go (x1 x2 x3 x4 x5 : Int32) (st : Sg) (g : Nat → Int64) : ∀ (d i N : Nat), i + d = 320 → d < N → lp (fun s : (Int32 × Sg) => m_X12_copy_L137 x1 x2 x3 x4 x5 s.1 s.2) N (nI i, pL st 0 22 (cutL i (gL st 0 21) g)) = some (pL st 0 22 (cutL 320 (gL st 0 21) g)) := by
  intro d
  induction d with
  | zero =>
    intro i N hi hN
    obtain ⟨N, rfl⟩ : ∃ M, N = M + 1 := ⟨N - 1, by omega⟩
    have e : i = 320 := by omega
    subst e
    rw [lp_end (r := pL st 0 22 (cutL 320 (gL st 0 21) g))]
    simp only [m_X12_copy_L137, if_pos (show (320 : Int32) ≤ nI 320 by decide)]
  | succ d ih =>
    intro i N hi hN
    obtain ⟨N, rfl⟩ : ∃ M, N = M + 1 := ⟨N - 1, by omega⟩
    have h1 : ¬ (320 : Int32) ≤ nI i := nI_ge (a := i) (b := 320) (by omega) (by omega)
    have hv : vpb (nI i) 320 = true := vpb_nI (by omega) (by omega)
    have e2 : gL (pL st 0 22 (cutL i (gL st 0 21) g)) 0 21 = gL st 0 21 := rfl
    rw [lp_next (s' := (nI (i + 1), pL st 0 22 (cutL (i + 1) (gL st 0 21) g)))]
    · exact ih (i + 1) N (by omega) (by omega)
    · simp only [m_X12_copy_L137, if_neg h1, lLk, sLk, if_pos hv, nI_clamp (show i < 2 ^ 31 by omega), e2, gL_pLs, pL_pL, cutL_s, nmk, nI_1]
theorem cpM_go (s i t j n : Nat) (h1 : 40 * s + i + n ≤ 320) (h2 : 40 * t + j + n ≤ 320) (st : Sg) (f : Nat → Int64) : ∀ (d k N : Nat), k + d = n → d < N → lp (fun s' : (Int32 × Sg) => m_X12_copy_L168 (nI s) (nI i) (nI t) (nI j) (nI n) s'.1 s'.2) N (nI k, pL st 0 21 (va_cpy (gL st 0 22) f (40 * s + i) (40 * t + j) k)) = some (pL st 0 21 (va_cpy (gL st 0 22) f (40 * s + i) (40 * t + j) n)) := by
  intro d
  induction d with
  | zero =>
    intro k N hi hN
    obtain ⟨N, rfl⟩ : ∃ M, N = M + 1 := ⟨N - 1, by omega⟩
    have e : k = n := by omega
    subst e
    rw [lp_end (r := pL st 0 21 (va_cpy (gL st 0 22) f (40 * s + i) (40 * t + j) k))]
    simp only [m_X12_copy_L168, if_pos (Int32.le_refl (nI k))]
  | succ d ih =>
    intro k N hi hN
    obtain ⟨N, rfl⟩ : ∃ M, N = M + 1 := ⟨N - 1, by omega⟩
    have g1 : ¬ nI n ≤ nI k := nI_ge (by omega) (by omega)
    have v1 : vpb (nI (40 * s + i + k)) 320 = true := vpb_nI (by omega) (by omega)
    have v2 : vpb (nI (40 * t + j + k)) 320 = true := vpb_nI (by omega) (by omega)
    have e2 : gL (pL st 0 21 (va_cpy (gL st 0 22) f (40 * s + i) (40 * t + j) k)) 0 22 = gL st 0 22 := rfl
    rw [lp_next (s' := (nI (k + 1), pL st 0 21 (va_cpy (gL st 0 22) f (40 * s + i) (40 * t + j) (k + 1))))]
    · exact ih (k + 1) N (by omega) (by omega)
    · simp only [m_X12_copy_L168, if_neg g1, place_m (nI s) (nI i) rfl rfl, place_m (nI t) (nI j) rfl rfl, nI_add, lLk, sLk, if_pos v1, if_pos v2, nI_clamp (show 40 * s + i + k < 2 ^ 31 by omega), nI_clamp (show 40 * t + j + k < 2 ^ 31 by omega), e2, gL_pLs, pL_pL, cpy_s, nmk, nI_1]
theorem l2sum (a b : Int32) : (a.toInt64 + b.toInt64).toInt = a.toInt + b.toInt := by
  have h1 := fx_rng a
  have h2 := fx_rng b
  rw [Int64.toInt_add, Int32.toInt_toInt64, Int32.toInt_toInt64, Int.bmod_def]
  omega
theorem hasRun_eq (p i n : Int32) (hp : 0 ≤ p.toInt ∧ p.toInt ≤ 7) (st : Sg) : m_X6_hasRun p i n st = some (if 0 ≤ i.toInt ∧ i.toInt + n.toInt ≤ (gA st 5 0 p.toNatClampNeg).toInt then 1 else 0, st) := by
  have hv : vpb p 8 = true := by rw [vpb_iff]; omega
  simp only [m_X6_hasRun, lAk, if_pos hv, lgc_gt, Int64.lt_iff_toInt_lt, Int32.toInt_toInt64, l2sum, fx_lt i, ti_0]
  by_cases h1 : i.toInt < 0
  · rw [if_pos h1, if_neg (by omega)]
  · rw [if_neg h1]
    by_cases h2 : (gA st 5 0 p.toNatClampNeg).toInt < i.toInt + n.toInt
    · rw [if_pos h2, if_neg (by omega)]
    · rw [if_neg h2, if_pos (by omega)]
theorem lgc_le (a b : Int64) : lg_cmp a b ≤ 0 ↔ a.toInt ≤ b.toInt := by
  have := lgc_gt a b
  rw [fx_lt, ti_0, Int64.lt_iff_toInt_lt] at this
  rw [fx_le, ti_0]
  omega
theorem s_copy (p i q j v : Int32) {sx sm : Sg} (h : Rel sx sm) : Sim (m_X11_copy p i q j v sx) (m_X12_copy p i q j v sm) := by
  obtain ⟨n, t, h1, h2, h3, h4, h5, h6, h7, h8, h9, h10⟩ := id h
  obtain ⟨r0, r1, r2, r3⟩ := id h5
  have e1 := x_refuse (r := -3) (inR_lit _ _ rfl) sx
  have e2 := m_no_eq (r := -3) (inR_lit _ _ rfl) sm
  have e3 := x_refuse (r := -2) (inR_lit _ _ rfl) sx
  have e4 := m_no_eq (r := -2) (inR_lit _ _ rfl) sm
  have e5 := x_refuse (r := -5) (inR_lit _ _ rfl) sx
  have e6 := m_no_eq (r := -5) (inR_lit _ _ rfl) sm
  have e7 := x_refuse (r := -6) (inR_lit _ _ rfl) sx
  have e8 := m_no_eq (r := -6) (inR_lit _ _ rfl) sm
  have e9 := x_refuse (r := -4) (inR_lit _ _ rfl) sx
  have e10 := m_no_eq (r := -4) (inR_lit _ _ rfl) sm
  simp only [m_X11_copy, m_X12_copy, isSlotX_eq, isSlotM_eq, clk_some, ite10, e1, e2, e3, e4, e5, e6, e8, e9, e10]
  by_cases c1 : 0 ≤ p.toInt ∧ p.toInt ≤ 7
  case neg => rw [if_neg c1, if_neg c1]; exact ⟨_, _, _, rfl, rfl, rel_ref _ h⟩
  rw [if_pos c1, if_pos c1]
  by_cases c2 : 0 ≤ q.toInt ∧ q.toInt ≤ 7
  case neg => rw [if_neg c2, if_neg c2]; exact ⟨_, _, _, rfl, rfl, rel_ref _ h⟩
  rw [if_pos c2, if_pos c2]
  have hv1 : vpb p 8 = true := by rw [vpb_iff]; omega
  have hv2 : vpb q 8 = true := by rw [vpb_iff]; omega
  have hc1 : p.toNatClampNeg < 8 := by have := fx_cl c1.1; omega
  have hc2 : q.toNatClampNeg < 8 := by have := fx_cl c2.1; omega
  simp only [lAk, if_pos hv1, if_pos hv2, hasRun_eq p i v c1, hasRun_eq q j v c2, clk_some, ite10, e7, r0, r1]
  by_cases c3 : gA sm 0 23 p.toNatClampNeg = 0
  · rw [if_pos c3, if_pos c3]; exact ⟨_, _, _, rfl, rfl, rel_ref _ h⟩
  rw [if_neg c3, if_neg c3]
  by_cases c4 : gA sm 0 23 q.toNatClampNeg = 0
  · rw [if_pos c4, if_pos c4]; exact ⟨_, _, _, rfl, rfl, rel_ref _ h⟩
  rw [if_neg c4, if_neg c4]
  by_cases c5 : gA sm 0 24 p.toNatClampNeg = 0
  · rw [if_pos c5, if_pos c5]; exact ⟨_, _, _, rfl, rfl, rel_ref _ h⟩
  rw [if_neg c5, if_neg c5]
  by_cases c6 : gA sm 0 24 q.toNatClampNeg = 0
  · rw [if_pos c6, if_pos c6]; exact ⟨_, _, _, rfl, rfl, rel_ref _ h⟩
  rw [if_neg c6, if_neg c6]
  by_cases c7 : 0 ≤ v
  case neg => rw [if_neg c7, if_neg c7]; exact ⟨_, _, _, rfl, rfl, rel_ref _ h⟩
  rw [if_pos c7, if_pos c7]
  rw [fx_le, ti_0] at c7
  have s1 := (r2 _ hc1).1
  have s2 := (r2 _ hc2).1
  simp only [lgc_gt, lgc_le, Int64.lt_iff_toInt_lt, Int32.toInt_toInt64, l2sum, fx_lt i, fx_lt j, ti_0]
  by_cases d1 : 0 ≤ i.toInt ∧ i.toInt + v.toInt ≤ (gA sm 0 23 p.toNatClampNeg).toInt
  case neg =>
    rw [if_neg d1]
    refine ⟨-6, refX (-6) sx, refM (-6) sm, rfl, ?_, rel_ref _ h⟩
    by_cases g1 : i.toInt < 0
    · rw [if_pos g1]
    · rw [if_neg g1]
      by_cases g2 : j.toInt < 0
      · rw [if_pos g2]
      · rw [if_neg g2, if_pos (by omega)]
  by_cases d2 : 0 ≤ j.toInt ∧ j.toInt + v.toInt ≤ (gA sm 0 23 q.toNatClampNeg).toInt
  case neg =>
    rw [if_pos d1, if_neg d2]
    refine ⟨-6, refX (-6) sx, refM (-6) sm, rfl, ?_, rel_ref _ h⟩
    rw [if_neg (by omega)]
    by_cases g2 : j.toInt < 0
    · rw [if_pos g2]
    · rw [if_neg g2, if_neg (by omega), if_neg (by omega)]
  rw [if_pos d1, if_pos d2, if_neg (by omega), if_neg (by omega), if_neg (by omega), if_pos (by omega)]
  obtain ⟨s, es, hs⟩ : ∃ s : Nat, p = nI s ∧ s = p.toNatClampNeg := ⟨_, fx_nI c1.1, rfl⟩
  obtain ⟨u, eu, hu⟩ : ∃ s : Nat, q = nI s ∧ s = q.toNatClampNeg := ⟨_, fx_nI c2.1, rfl⟩
  obtain ⟨a, ea, ha⟩ : ∃ s : Nat, i = nI s ∧ (s : Int) = i.toInt := ⟨_, fx_nI d1.1, fx_cl d1.1⟩
  obtain ⟨b, eb, hb⟩ : ∃ s : Nat, j = nI s ∧ (s : Int) = j.toInt := ⟨_, fx_nI d2.1, fx_cl d2.1⟩
  obtain ⟨k, ek, hk⟩ : ∃ s : Nat, v = nI s ∧ (s : Int) = v.toInt := ⟨_, fx_nI c7, fx_cl c7⟩
  rw [← hs] at d1 s1 hc1
  rw [← hu] at d2 s2 hc2
  have b1 := s1.2
  have b2 := s2.2
  have x1 : 40 * s + a + k ≤ 320 := by omega
  have x2 : 40 * u + b + k ≤ 320 := by omega
  have n1 := now_go p i q j v sm (gL sm 0 22) 320 0 FU (by omega) (FU_lt (by omega))
  rw [show cutL 0 (gL sm 0 21) (gL sm 0 22) = gL sm 0 22 from by funext z; simp [cutL], pL_same] at n1
  obtain ⟨S1, hS1⟩ : ∃ z, z = pL sm 0 22 (cutL 320 (gL sm 0 21) (gL sm 0 22)) := ⟨_, rfl⟩
  have hS2 : gL S1 0 21 = gL sm 0 21 := by rw [hS1]; rfl
  have hS3 : gL S1 0 22 = cutL 320 (gL sm 0 21) (gL sm 0 22) := by rw [hS1]; rfl
  rw [← hS1] at n1
  have n2 := cpM_go s a u b k x1 x2 S1 (gL S1 0 21) k 0 FU (by omega) (FU_lt (by omega))
  rw [cpy_0, pL_same, hS2, hS3, ← es, ← ea, ← eu, ← eb, ← ek] at n2
  have p1 : p * 40 + i = nI (40 * s + a) := place_x p i es ea
  have p2 : q * 40 + j = nI (40 * u + b) := place_x q j eu eb
  have q1 : ¬ nI (40 * s + a) < 0 := nI_pos (by omega)
  have q2 : ¬ nI (40 * u + b) < 0 := nI_pos (by omega)
  have q3 : ¬ v < 0 := by rw [fx_lt, ti_0]; omega
  have q4 : v.toNatClampNeg = k := by rw [ek]; exact nI_clamp (by omega)
  simp only [m_X6_placeOf, clk_some, p1, p2, cpLk, if_neg (show ¬ nI (40 * s + a) < nI 0 from q1), if_neg (show ¬ nI (40 * u + b) < nI 0 from q2), if_neg (show ¬ v < nI 0 from q3), q4, nI_clamp (show 40 * s + a < 2 ^ 31 by omega), nI_clamp (show 40 * u + b < 2 ^ 31 by omega), if_pos x1, if_pos x2, nmk, lpk, show (0 : Int32) = nI 0 from rfl, n1, n2]
  subst hS1
  refine ⟨_, _, _, rfl, rfl, n, t, h1, h2, h3, h4, ⟨r0, r1, r2, fun s' i' hs' hi' => ?_⟩, h6, h7, h8, h9, h10⟩
  show va_cpy (gL sx 5 2) (gL sx 5 2) (40 * s + a) (40 * u + b) k (40 * s' + i') = va_cpy (cutL 320 (gL sm 0 21) (gL sm 0 22)) (gL sm 0 21) (40 * s + a) (40 * u + b) k (40 * s' + i')
  by_cases g : 40 * u + b ≤ 40 * s' + i' ∧ 40 * s' + i' < 40 * u + b + k
  · rw [pk_cpy_in g.1 g.2, pk_cpy_in g.1 g.2]
    unfold cutL
    rw [if_pos (by omega)]
    have := r3 s (a + (40 * s' + i' - (40 * u + b))) hc1 (by omega)
    rw [show 40 * s + (a + (40 * s' + i' - (40 * u + b))) = 40 * s + a + (40 * s' + i' - (40 * u + b)) by omega] at this
    exact this
  · rw [pk_cpy_out (by omega), pk_cpy_out (by omega)]
    exact r3 s' i' hs' hi'
