-- 54.adds: the calls that make an act: put, reckon, fetch, store, pick
def opX (i : Nat) (x d : Int32) (s : Sg) : Sg := pA (pA s 1 6 (upd (gA s 1 6) i x)) 1 7 (upd (gA s 1 7) i d)
def opM (i : Nat) (x d : Int32) (s : Sg) : Sg := pA (pA s 0 5 (upd (gA s 0 5) i x)) 0 6 (upd (gA s 0 6) i d)
theorem nI_3w (n w : Nat) : nI n * 3 + nI w = nI (3 * n + w) := by
  rw [show (3 : Int32) = nI 3 from rfl, pk_mul, nI_add, Nat.mul_comm]
theorem nI_w3 (n w : Nat) : 3 * nI n + nI w = nI (3 * n + w) := by
  rw [show (3 : Int32) = nI 3 from rfl, pk_mul, nI_add]
theorem take_eq (n w : Nat) (hn : n < 16) (hw : w < 3) (x d : Int32) (s : Sg) : m_X0_take (nI n) (nI w) x d s = some ((), opX (3 * n + w) x d s) := by
  have hv : vpb (nI (3 * n + w)) 48 = true := vpb_nI (by omega) (by omega)
  simp only [m_X0_take, nI_3w, sAk, if_pos hv, nI_clamp (show 3 * n + w < 2 ^ 31 by omega)]
  rfl
theorem operand_eq (n w : Nat) (hn : n < 16) (hw : w < 3) (x d : Int32) (s : Sg) : m_X12_operand (nI n) (nI w) x d s = some ((), opM (3 * n + w) x d s) := by
  have hv : vpb (nI (3 * n + w)) 48 = true := vpb_nI (by omega) (by omega)
  simp only [m_X12_operand, nI_w3, sAk, if_pos hv, nI_clamp (show 3 * n + w < 2 ^ 31 by omega)]
  rfl
def opn0 (n : Nat) (srt : Int32) (s : Sg) : Sg := pL (pL (pA (pA (pA (pA (pA (pI s 1 0 (nI (n + 1))) 1 1 (upd (gA s 1 1) n srt)) 1 2 (upd (gA s 1 2) n 1)) 1 3 (upd (gA s 1 3) n 0)) 1 4 (upd (gA s 1 4) n 1)) 1 5 (upd (gA s 1 5) n (-1))) 1 8 (vp_updL (gL s 1 8) n 0)) 1 9 (vp_updL (gL s 1 9) n 0)
def opnX (n : Nat) (srt : Int32) (s : Sg) : Sg := opX (3 * n + 2) (-1) (-1) (opX (3 * n + 1) (-1) (-1) (opX (3 * n) (-1) (-1) (opn0 n srt s)))
theorem lp_next {σ ρ : Type} {step : σ → Option (σ ⊕ ρ)} {n : Nat} {s s' : σ} (h : step s = some (.inl s')) : lp step (n + 1) s = lp step n s' := by
  rw [lp, h]
theorem lp_end {σ ρ : Type} {step : σ → Option (σ ⊕ ρ)} {n : Nat} {s : σ} {r : ρ} (h : step s = some (.inr r)) : lp step (n + 1) s = some r := by
  rw [lp, h]
theorem open_loop (n : Nat) (hn : n < 16) (s : Sg) : lp (fun s : (Int32 × Sg) => m_X0_open_L71 (nI n) s.1 s.2) FU (0, s) = some (opX (3 * n + 2) (-1) (-1) (opX (3 * n + 1) (-1) (-1) (opX (3 * n) (-1) (-1) s))) := by
  have t0 := take_eq n 0 hn (by omega) (-1) (-1)
  have t1 := take_eq n 1 hn (by omega) (-1) (-1)
  have t2 := take_eq n 2 hn (by omega) (-1) (-1)
  rw [show nI 0 = 0 from rfl] at t0
  rw [show nI 1 = 1 from rfl] at t1
  rw [show nI 2 = 2 from rfl] at t2
  obtain ⟨N, hN⟩ : ∃ N, FU = N + 1 + 1 + 1 + 1 := ⟨999996, rfl⟩
  rw [hN]
  rw [lp_next (s' := ((1 : Int32), opX (3 * n + 0) (-1) (-1) s)) (by
    simp only [m_X0_open_L71, if_neg (show ¬ (3 : Int32) ≤ 0 by decide), t0, clk_some, nmk]; rfl)]
  rw [lp_next (s' := ((2 : Int32), opX (3 * n + 1) (-1) (-1) (opX (3 * n + 0) (-1) (-1) s))) (by
    simp only [m_X0_open_L71, if_neg (show ¬ (3 : Int32) ≤ 1 by decide), t1, clk_some, nmk]; rfl)]
  rw [lp_next (s' := ((3 : Int32), opX (3 * n + 2) (-1) (-1) (opX (3 * n + 1) (-1) (-1) (opX (3 * n + 0) (-1) (-1) s)))) (by
    simp only [m_X0_open_L71, if_neg (show ¬ (3 : Int32) ≤ 2 by decide), t2, clk_some, nmk]; rfl)]
  rw [lp_end (r := opX (3 * n + 2) (-1) (-1) (opX (3 * n + 1) (-1) (-1) (opX (3 * n + 0) (-1) (-1) s))) (by
    simp only [m_X0_open_L71, if_pos (show (3 : Int32) ≤ 3 by decide)])]
  rfl
theorem open_eq (n : Nat) (hn : n < 16) (srt : Int32) (s : Sg) (h : gI s 1 0 = nI n) : m_X0_open srt s = some (nI n, opnX n srt s) := by
  have hv : vpb (nI n) 16 = true := vpb_nI hn (by omega)
  have hlt : nI n < 16 := by rw [fx_lt, nI_toInt (by omega), ti_16]; omega
  simp only [m_X0_open, gIk, nmk, h, if_pos hlt, sIk, sAk, sLk, if_pos hv, nI_clamp (show n < 2 ^ 31 by omega), lpk, open_loop n hn, nI_1]
  rfl
theorem open_full (s : Sg) (srt : Int32) (h : gI s 1 0 = nI 16) : m_X0_open srt s = some (-1, s) := by
  simp only [m_X0_open, gIk, nmk, h, if_neg (show ¬ nI 16 < 16 by decide)]
def add0 (n : Nat) (srt sl : Int32) (s : Sg) : Sg := pL (pL (pA (pA (pA (pA (pA (pI s 0 9 (nI (n + 1))) 0 0 (upd (gA s 0 0) n srt)) 0 1 (upd (gA s 0 1) n 1)) 0 2 (upd (gA s 0 2) n 0)) 0 3 (upd (gA s 0 3) n 1)) 0 4 (upd (gA s 0 4) n sl)) 0 7 (vp_updL (gL s 0 7) n 0)) 0 8 (vp_updL (gL s 0 8) n 0)
def addM (n : Nat) (srt sl x dx y dy : Int32) (s : Sg) : Sg := opM (3 * n + 2) (-1) (-1) (opM (3 * n + 1) y dy (opM (3 * n) x dx (add0 n srt sl s)))
theorem adds_eq (n : Nat) (hn : n < 16) (srt sl x dx y dy : Int32) (s : Sg) (h : gI s 0 9 = nI n) : m_X12_adds srt sl x dx y dy s = some (nI n, chM (addM n srt sl x dx y dy s)) := by
  have hv : vpb (nI n) 16 = true := vpb_nI hn (by omega)
  have hne : ¬ nI n = 16 := by rw [fx_eq, nI_toInt (by omega), ti_16]; omega
  have t0 := operand_eq n 0 hn (by omega) x dx
  have t1 := operand_eq n 1 hn (by omega) y dy
  have t2 := operand_eq n 2 hn (by omega) (-1) (-1)
  simp only [show nI 0 = 0 from rfl, show nI 1 = 1 from rfl, show nI 2 = 2 from rfl] at t0 t1 t2
  simp only [m_X12_adds, gIk, nmk, h, if_neg hne, sIk, sAk, sLk, if_pos hv, nI_clamp (show n < 2 ^ 31 by omega), t0, t1, t2, clk_some, m_changed, nI_1]
  rfl
theorem adds_full (s : Sg) (srt sl x dx y dy : Int32) (h : gI s 0 9 = nI 16) : m_X12_adds srt sl x dx y dy s = some (-10, refM (-10) s) := by
  have e := m_no_eq (r := -10) (inR_lit _ _ rfl) s
  simp only [m_X12_adds, gIk, h, if_pos (show nI 16 = 16 from rfl), e, clk_some]
theorem updL_i (f : Nat → Int64) (k : Nat) (x : Int64) (i : Nat) : vp_updL f k x i = if i = k then x else f i := rfl
/-- three operands over three that were set to none -/
theorem upd3 (f : Nat → Int32) (a : Nat) (x y z m1 : Int32) : upd (upd (upd (upd (upd (upd f a m1) (a + 1) m1) (a + 2) m1) a x) (a + 1) y) (a + 2) z = upd (upd (upd f a x) (a + 1) y) (a + 2) z := by
  funext q
  simp only [upd_i]
  by_cases h2 : q = a + 2
  · simp [h2]
  · by_cases h1 : q = a + 1
    · simp [h1]
    · by_cases h0 : q = a
      · simp [h0]
      · simp [h0, h1, h2]
theorem upd_none (f : Nat → Int32) (k : Nat) (x : Int32) (h : f k = x) : upd f k x = f := by
  funext q
  simp only [upd_i]
  by_cases e : q = k
  · rw [if_pos e, e, h]
  · rw [if_neg e]
/-- one act more: its numbers are in their ranges -/
theorem wbo_add {acts : Int32} {sort lag kind pat slot ofs back units : Nat → Int32} {n : Nat} (w : WBo acts sort lag kind pat slot ofs back units n) (hn : n < 16) {srt sl x dx y dy z dz : Int32} (h1 : inR srt 0 6) (h2 : inR sl (-1) 7) (h3 : srt = 4 ∨ srt = 5 → inR sl 0 7)
    (hx : inR x (-1) 15 ∧ inR dx (-1) 4 ∧ (0 ≤ x.toInt → 0 ≤ dx.toInt) ∧ (dx.toInt = 0 → x.toInt < (n : Int))) (hy : inR y (-1) 15 ∧ inR dy (-1) 4 ∧ (0 ≤ y.toInt → 0 ≤ dy.toInt) ∧ (dy.toInt = 0 → y.toInt < (n : Int))) (hz : inR z (-1) 15 ∧ inR dz (-1) 4 ∧ (0 ≤ z.toInt → 0 ≤ dz.toInt) ∧ (dz.toInt = 0 → z.toInt < (n : Int)))
    (q0 : ¬ srt = 0 → 0 ≤ x.toInt) (q1 : srt = 1 ∨ srt = 2 ∨ srt = 3 ∨ srt = 5 ∨ srt = 6 → 0 ≤ y.toInt) (q2 : srt = 6 → 0 ≤ z.toInt) :
    WBo (nI (n + 1)) (upd sort n srt) (upd lag n 1) (upd kind n 0) (upd pat n 1) (upd slot n sl) (upd (upd (upd ofs (3 * n) x) (3 * n + 1) y) (3 * n + 2) z) (upd (upd (upd back (3 * n) dx) (3 * n + 1) dy) (3 * n + 2) dz) units (n + 1) := by
  obtain ⟨w1, w2, w3, w4, w5, w6⟩ := w
  refine ⟨rfl, by omega, fun i hi => ?_, fun i hi => ?_, fun i hi => ?_, w6⟩
  · simp only [upd_i]
    by_cases e : i = n
    · simp only [if_pos e]
      exact ⟨h1, inR_lit _ _ rfl, inR_lit _ _ rfl, inR_lit _ _ rfl, h2, h3⟩
    · simp only [if_neg e]
      exact w3 i (by omega)
  · simp only [upd_i]
    by_cases e2 : i = 3 * n + 2
    · simp only [if_pos e2]
      rw [show i / 3 = n by omega]
      exact hz
    · simp only [if_neg e2]
      by_cases e1 : i = 3 * n + 1
      · simp only [if_pos e1]
        rw [show i / 3 = n by omega]
        exact hy
      · simp only [if_neg e1]
        by_cases e0 : i = 3 * n
        · simp only [if_pos e0]
          rw [show i / 3 = n by omega]
          exact hx
        · simp only [if_neg e0]
          exact w4 i (by omega)
  · simp only [upd_i]
    by_cases e : i = n
    · subst e
      simp only [if_pos rfl, if_neg (show ¬ 3 * i = 3 * i + 2 by omega), if_neg (show ¬ 3 * i = 3 * i + 1 by omega), if_neg (show ¬ 3 * i + 1 = 3 * i + 2 by omega)]
      exact ⟨q0, q1, q2⟩
    · simp only [if_neg e, if_neg (show ¬ 3 * i = 3 * n + 2 by omega), if_neg (show ¬ 3 * i = 3 * n + 1 by omega), if_neg (show ¬ 3 * i = 3 * n by omega), if_neg (show ¬ 3 * i + 1 = 3 * n + 2 by omega), if_neg (show ¬ 3 * i + 1 = 3 * n + 1 by omega), if_neg (show ¬ 3 * i + 1 = 3 * n by omega), if_neg (show ¬ 3 * i + 2 = 3 * n + 2 by omega), if_neg (show ¬ 3 * i + 2 = 3 * n + 1 by omega), if_neg (show ¬ 3 * i + 2 = 3 * n by omega)]
      exact w5 i (by omega)
theorem wto_up {size : Int32} {f1 f2 f3 f4 : Nat → Int32} {n t : Nat} (w : WTo size f1 f2 f3 f4 n t) : WTo size f1 f2 f3 f4 (n + 1) t := by
  obtain ⟨w1, w2, w3⟩ := w
  refine ⟨w1, w2, fun i hi => ?_⟩
  obtain ⟨⟨a1, a2⟩, ⟨a3, a4⟩, a5, a6⟩ := w3 i hi
  exact ⟨⟨a1, by omega⟩, ⟨a3, by omega⟩, a5, a6⟩
/-- no operand -/
theorem no_op (n : Nat) : inR (-1 : Int32) (-1) 15 ∧ inR (-1 : Int32) (-1) 4 ∧ (0 ≤ (-1 : Int32).toInt → 0 ≤ (-1 : Int32).toInt) ∧ ((-1 : Int32).toInt = 0 → (-1 : Int32).toInt < (n : Int)) := ⟨inR_lit _ _ rfl, inR_lit _ _ rfl, fun h => h, fun h => absurd h (by decide)⟩
theorem may_op {acts x d : Int32} {n : Nat} (e : acts = nI n) (hn : n ≤ 16) (hd : 0 ≤ d.toInt ∧ d.toInt ≤ 4) (h : mayT acts x d) : inR x (-1) 15 ∧ inR d (-1) 4 ∧ (0 ≤ x.toInt → 0 ≤ d.toInt) ∧ (d.toInt = 0 → x.toInt < (n : Int)) := by
  obtain ⟨h1, h2, h3⟩ := h
  rw [e, nI_toInt (by omega)] at h3
  exact ⟨⟨by omega, h2⟩, ⟨by omega, hd.2⟩, fun _ => hd.1, fun q => by omega⟩
