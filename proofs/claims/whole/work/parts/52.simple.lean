-- 52.simple: refusals, and the calls that only read or set one thing
theorem clk_some {β ρ : Type} (a : ρ) (s : Sg) (f : ρ → Sg → Option β) : clk (some (a, s)) f = f a s := rfl
def refX (r : Int32) (sx : Sg) : Sg := pA (pI sx 0 9 r) 0 10 (upd (gA sx 0 10) (-r).toNatClampNeg (gA sx 0 10 (-r).toNatClampNeg + 1))
def refM (r : Int32) (sm : Sg) : Sg := pI (pA sm 0 25 (upd (gA sm 0 25) (-r).toNatClampNeg (gA sm 0 25 (-r).toNatClampNeg + 1))) 0 26 r
theorem ref_in {r : Int32} (h : inR r (-11) (-2)) : vpb (-r) 12 = true := by
  obtain ⟨h1, h2⟩ := h
  rw [vpb_iff, fx_neg (by omega)]
  omega
theorem x_refuse {r : Int32} (h : inR r (-11) (-2)) (sx : Sg) : m_X11_refuse r sx = some (r, refX r sx) := by
  have h1 : ¬ r < (-11) := by rw [fx_lt]; have := h.1; show ¬ r.toInt < -11; omega
  have h2 : ¬ (-2) < r := by rw [fx_lt]; have := h.2; show ¬ -2 < r.toInt; omega
  have h3 := ref_in h
  simp only [m_X11_refuse, if_neg h1, if_neg h2, sIk, lAk, sAk, if_pos h3]
  rfl
theorem m_no_eq {r : Int32} (h : inR r (-11) (-2)) (sm : Sg) : m_X12_no r sm = some (r, refM r sm) := by
  have h3 := ref_in h
  simp only [m_X12_no, sIk, lAk, sAk, if_pos h3]
  rfl
theorem rel_ref (r : Int32) {sx sm : Sg} (h : Rel sx sm) : Rel (refX r sx) (refM r sm) := by
  obtain ⟨n, t, h1, h2, h3, h4, h5, h6, h7, h8, h9, h10⟩ := h
  refine ⟨n, t, h1, h2, h3, h4, h5, ⟨?_, rfl⟩, h7, h8, h9, h10⟩
  show upd (gA sx 0 10) _ _ = upd (gA sm 0 25) _ _
  rw [h6.1]
theorem inR_lit {r : Int32} (a b : Int) (h : (decide (a ≤ r.toInt) && decide (r.toInt ≤ b)) = true) : inR r a b := by
  simpa [inR] using h
theorem s_ref {r : Int32} (hr : inR r (-11) (-2)) {sx sm : Sg} (h : Rel sx sm) : Sim (m_X11_refuse r sx) (m_X12_no r sm) := ⟨r, _, _, x_refuse hr sx, m_no_eq hr sm, rel_ref r h⟩
-- tests
theorem lgc_lt (a b : Int64) : lg_cmp a b < 0 ↔ a < b := by
  unfold lg_cmp
  rcases Int.lt_trichotomy a.toInt b.toInt with h | h | h
  · have h1 : ¬ b < a := by rw [Int64.lt_iff_toInt_lt]; omega
    have h2 : ¬ a = b := fun e => by rw [e] at h; omega
    have h3 : a < b := by rw [Int64.lt_iff_toInt_lt]; omega
    rw [if_neg h1, if_neg h2]
    exact ⟨fun _ => h3, fun _ => by decide⟩
  · have h1 : a = b := Int64.toInt_inj.mp h
    subst h1
    have h2 : ¬ a < a := by rw [Int64.lt_iff_toInt_lt]; omega
    rw [if_neg h2, if_pos rfl]
    exact ⟨fun e => absurd e (by decide), fun e => absurd e h2⟩
  · have h1 : b < a := by rw [Int64.lt_iff_toInt_lt]; omega
    have h2 : ¬ a < b := by rw [Int64.lt_iff_toInt_lt]; omega
    rw [if_pos h1]
    exact ⟨fun e => absurd e (by decide), fun e => absurd e h2⟩
theorem lgc_gt (a b : Int64) : 0 < lg_cmp a b ↔ b < a := by
  unfold lg_cmp
  by_cases h1 : b < a
  · rw [if_pos h1]
    exact ⟨fun _ => h1, fun _ => by decide⟩
  · rw [if_neg h1]
    refine ⟨fun e => absurd e ?_, fun e => absurd e h1⟩
    by_cases h2 : a = b
    · rw [if_pos h2]; decide
    · rw [if_neg h2]; decide
theorem isIn_eq (x : Int32) (lo hi : Int64) (st : Sg) : m_X12_isIn x.toInt64 lo hi st = some (if lo.toInt ≤ x.toInt ∧ x.toInt ≤ hi.toInt then 1 else 0, st) := by
  unfold m_X12_isIn
  have e : x.toInt64.toInt = x.toInt := Int32.toInt_toInt64 x
  by_cases h1 : x.toInt64 < lo
  · rw [if_pos ((lgc_lt _ _).mpr h1), if_neg]
    rw [Int64.lt_iff_toInt_lt, e] at h1
    omega
  · rw [if_neg (fun q => h1 ((lgc_lt _ _).mp q))]
    by_cases h2 : hi < x.toInt64
    · rw [if_pos ((lgc_gt _ _).mpr h2), if_neg]
      rw [Int64.lt_iff_toInt_lt, e] at h2
      omega
    · rw [if_neg (fun q => h2 ((lgc_gt _ _).mp q)), if_pos]
      rw [Int64.lt_iff_toInt_lt, e] at h1 h2
      omega
theorem has_eq (p : Int32) (st : Sg) : m_X0_has p st = some (if 0 ≤ p.toInt ∧ p.toInt < (gI st 1 0).toInt then 1 else 0, st) := by
  simp only [m_X0_has, gIk]
  have z : (0 : Int32).toInt = 0 := rfl
  by_cases h1 : p < 0
  · rw [if_pos h1, if_neg]; rw [fx_lt, z] at h1; omega
  · rw [if_neg h1]
    by_cases h2 : gI st 1 0 ≤ p
    · rw [if_pos h2, if_neg]; rw [fx_le] at h2; omega
    · rw [if_neg h2, if_pos]; rw [fx_le] at h2; rw [fx_lt, z] at h1; omega
theorem isAct_eq (p : Int32) (st : Sg) : m_X12_isAct p st = some (if 0 ≤ p.toInt ∧ p.toInt < (gI st 0 9).toInt then 1 else 0, st) := by
  simp only [m_X12_isAct, gIk]
  have z : (0 : Int32).toInt = 0 := rfl
  by_cases h1 : p < 0
  · rw [if_pos h1, if_neg]; rw [fx_lt, z] at h1; omega
  · rw [if_neg h1]
    by_cases h2 : gI st 0 9 ≤ p
    · rw [if_pos h2, if_neg]; rw [fx_le] at h2; omega
    · rw [if_neg h2, if_pos]; rw [fx_le] at h2; rw [fx_lt, z] at h1; omega
theorem isKind_eq (p : Int32) (st : Sg) : m_X11_isKind p st = some (if 0 ≤ p.toInt ∧ p.toInt ≤ 5 then 1 else 0, st) := by
  simp only [m_X11_isKind]
  have z : (0 : Int32).toInt = 0 := rfl
  have z6 : (6 : Int32).toInt = 6 := rfl
  by_cases h1 : p < 0
  · rw [if_pos h1, if_neg]; rw [fx_lt, z] at h1; omega
  · rw [if_neg h1]
    by_cases h2 : (6 : Int32) ≤ p
    · rw [if_pos h2, if_neg]; rw [fx_le, z6] at h2; omega
    · rw [if_neg h2, if_pos]; rw [fx_le, z6] at h2; rw [fx_lt, z] at h1; omega
-- calls
theorem s_trials {sx sm : Sg} (h : Rel sx sm) : Sim (m_X11_trials sx) (m_X12_trials sm) := by
  obtain ⟨n, t, h1, h2, h3, h4, h5, h6, h7, h8, h9, h10⟩ := id h
  refine ⟨gI sx 7 10, sx, sm, rfl, ?_, h⟩
  rw [h7.1]
  rfl
theorem s_again {sx sm : Sg} (h : Rel sx sm) : Sim (m_X11_again sx) (m_X12_again sm) := by
  obtain ⟨n, t, h1, h2, h3, h4, h5, h6, h7, h8, h9, h10⟩ := id h
  simp only [m_X11_again, m_X12_again, gIk, nmk, sIk, h6.2]
  by_cases h0 : gI sm 0 26 = 0
  · rw [if_pos h0, if_pos h0]
    exact ⟨_, _, _, rfl, rfl, h⟩
  · rw [if_neg h0, if_neg h0]
    exact ⟨_, _, _, rfl, rfl, n, t, h1, h2, h3, h4, h5, ⟨h6.1, rfl⟩, h7, h8, h9, h10⟩
theorem s_status (p : Int32) {sx sm : Sg} (h : Rel sx sm) : Sim (m_X11_status p sx) (m_X12_status p sm) := by
  obtain ⟨n, t, h1, h2, h3, h4, h5, h6, h7, h8, h9, h10⟩ := id h
  have e1 := x_refuse (r := -9) (inR_lit _ _ rfl) sx
  have e2 := m_no_eq (r := -9) (inR_lit _ _ rfl) sm
  have z11 : (-11 : Int32).toInt = -11 := rfl
  have z2 : (-2 : Int32).toInt = -2 := rfl
  have y11 : (-11 : Int64).toInt = -11 := rfl
  have y2 : (-2 : Int64).toInt = -2 := rfl
  simp only [m_X11_status, m_X12_status, isIn_eq, e1, clk_some, y11, y2]
  by_cases c1 : p < -11
  · rw [if_pos c1, if_pos (by rw [if_neg (by rw [fx_lt, z11] at c1; omega)]), e2]
    exact ⟨_, _, _, rfl, rfl, rel_ref _ h⟩
  · rw [if_neg c1]
    by_cases c2 : p ≤ -2
    · have hv : vpb (-p) 12 = true := ref_in ⟨by rw [fx_lt, z11] at c1; omega, by rw [fx_le, z2] at c2; omega⟩
      rw [if_pos c2, if_neg (by rw [if_pos (by rw [fx_lt, z11] at c1; rw [fx_le, z2] at c2; omega)]; decide)]
      simp only [lAk, if_pos hv, h6.1]
      exact ⟨_, _, _, rfl, rfl, h⟩
    · rw [if_neg c2, if_pos (by rw [if_neg (by rw [fx_le, z2] at c2; omega)]), e2]
      exact ⟨_, _, _, rfl, rfl, rel_ref _ h⟩
theorem s_wrong (p : Int32) {sx sm : Sg} (h : Rel sx sm) : Sim (m_X11_wrong p sx) (m_X12_wrong p sm) := by
  obtain ⟨n, t, h1, h2, h3, h4, h5, h6, h7, h8, h9, h10⟩ := id h
  have e1 := x_refuse (r := -9) (inR_lit _ _ rfl) sx
  have e2 := m_no_eq (r := -9) (inR_lit _ _ rfl) sm
  have z0 : (0 : Int32).toInt = 0 := rfl
  have z6 : (6 : Int32).toInt = 6 := rfl
  have y0 : (0 : Int64).toInt = 0 := rfl
  have y5 : (5 : Int64).toInt = 5 := rfl
  simp only [m_X11_wrong, m_X12_wrong, isIn_eq, e1, clk_some, y0, y5]
  by_cases c1 : p < 0
  · rw [if_pos c1, if_pos (by rw [if_neg (by rw [fx_lt, z0] at c1; omega)]), e2]
    exact ⟨_, _, _, rfl, rfl, rel_ref _ h⟩
  · rw [if_neg c1]
    by_cases c2 : p < 6
    · have hv : vpb p 6 = true := by rw [vpb_iff]; rw [fx_lt, z0] at c1; rw [fx_lt, z6] at c2; omega
      rw [if_pos c2, if_neg (by rw [if_pos (by rw [fx_lt, z0] at c1; rw [fx_lt, z6] at c2; omega)]; decide)]
      simp only [lAk, if_pos hv, h7.2]
      exact ⟨_, _, _, rfl, rfl, h⟩
    · rw [if_neg c2, if_pos (by rw [if_neg (by rw [fx_lt, z6] at c2; omega)]), e2]
      exact ⟨_, _, _, rfl, rfl, rel_ref _ h⟩
theorem s_told (p : Int32) {sx sm : Sg} (h : Rel sx sm) : Sim (m_X11_told p sx) (m_X12_told p sm) := by
  obtain ⟨n, t, h1, h2, h3, h4, h5, h6, h7, h8, h9, h10⟩ := id h
  have e1 := x_refuse (r := -9) (inR_lit _ _ rfl) sx
  have e2 := m_no_eq (r := -9) (inR_lit _ _ rfl) sm
  obtain ⟨a0, a1, a2, a3, a4, a5, a6, a7, -⟩ := h8
  simp only [m_X11_told, m_X12_told, gIk, e1, e2, clk_some, a0, a1, a2, a3, a4, a5]
  by_cases c0 : p = 0
  · rw [if_pos c0, if_pos c0]; exact ⟨_, _, _, rfl, rfl, h⟩
  rw [if_neg c0, if_neg c0]
  by_cases c1 : p = 1
  · rw [if_pos c1, if_pos c1]; exact ⟨_, _, _, rfl, rfl, h⟩
  rw [if_neg c1, if_neg c1]
  by_cases c2 : p = 2
  · rw [if_pos c2, if_pos c2]; exact ⟨_, _, _, rfl, rfl, h⟩
  rw [if_neg c2, if_neg c2]
  by_cases c3 : p = 3
  · rw [if_pos c3, if_pos c3]; exact ⟨_, _, _, rfl, rfl, h⟩
  rw [if_neg c3, if_neg c3]
  by_cases c4 : p = 4
  · rw [if_pos c4, if_pos c4]; exact ⟨_, _, _, rfl, rfl, h⟩
  rw [if_neg c4, if_neg c4]
  by_cases c5 : p = 5
  · rw [if_pos c5, if_pos c5]
    by_cases d : gI sm 0 43 = 0
    · rw [if_pos d, d]; exact ⟨_, _, _, rfl, rfl, h⟩
    · have e : gI sm 0 43 = 1 := by
        rw [fx_eq] at d ⊢
        have z0 : (0 : Int32).toInt = 0 := rfl
        have z1 : (1 : Int32).toInt = 1 := rfl
        have := a7.1
        have := a7.2
        omega
      rw [if_neg d, e]; exact ⟨_, _, _, rfl, rfl, h⟩
  rw [if_neg c5, if_neg c5]
  exact ⟨_, _, _, rfl, rfl, rel_ref _ h⟩
theorem s_first (p : Int32) (v : Int64) {sx sm : Sg} (h : Rel sx sm) : Sim (m_X11_first p v sx) (m_X12_first p v sm) := by
  obtain ⟨n, t, h1, h2, h3, h4, h5, h6, h7, h8, h9, h10⟩ := id h
  have e1 := x_refuse (r := -3) (inR_lit _ _ rfl) sx
  have e2 := m_no_eq (r := -3) (inR_lit _ _ rfl) sm
  simp only [m_X11_first, m_X12_first, has_eq, isAct_eq, clk_some, h3.1]
  by_cases c : 0 ≤ p.toInt ∧ p.toInt < (gI sm 0 9).toInt
  · have hv : vpb p 16 = true := by
      rw [vpb_iff]
      have e := h1.1
      rw [e, nI_toInt (by have := h1.2.1; omega)] at c
      have := h1.2.1
      omega
    rw [if_pos c, if_neg (by decide), if_neg (by decide)]
    simp only [sLk, if_pos hv]
    refine ⟨_, _, _, rfl, rfl, n, t, h1, h2, ?_, h4, h5, h6, h7, h8, h9, h10⟩
    obtain ⟨b0, b1, b2, b3, b4, b5, b6, b7, b8, b9, b10⟩ := h3
    refine ⟨b0, b1, b2, b3, b4, b5, b6, b7, b8, ?_, b10⟩
    show vp_updL (gL sx 1 9) _ _ = vp_updL (gL sm 0 7) _ _
    rw [b9]
  · rw [if_neg c, if_pos rfl, if_pos rfl, e1, e2]
    exact ⟨_, _, _, rfl, rfl, rel_ref _ h⟩
