-- 54.adds: the calls that make an act: put, reckon, fetch, store, pick
def opX (i : Nat) (x d : Int32) (s : Sg) : Sg := pA (pA s 1 6 (upd (gA s 1 6) i x)) 1 7 (upd (gA s 1 7) i d)
def opM (i : Nat) (x d : Int32) (s : Sg) : Sg := pA (pA s 0 5 (upd (gA s 0 5) i x)) 0 6 (upd (gA s 0 6) i d)
theorem nI_3w (n w : Nat) : nI n * 3 + nI w = nI (3 * n + w) := by
  rw [show (3 : Int32) = nI 3 from rfl, pk_mul, nI_add, Nat.mul_comm]
theorem nI_w3 (n w : Nat) : 3 * nI n + nI w = nI (3 * n + w) := by
  rw [show (3 : Int32) = nI 3 from rfl, pk_mul, nI_add]
theorem take_eq (n w : Nat) (hn : n < 16) (hw : w < 3) (x d : Int32) (s : Sg) : m_X0_take (nI n) (nI w) x d s = some ((), opX (3 * n + w) x d s) := by
  have hv : vpb (nI (3 * n + w)) 48 = true := vpb_nI (by omega) (by omega)
  simp only [m_X0_take, nI_3w, sAk, if_pos hv, nI_clamp (show 3 * n + w < 2 ^ 31 by omega)]
  rfl
theorem operand_eq (n w : Nat) (hn : n < 16) (hw : w < 3) (x d : Int32) (s : Sg) : m_X12_operand (nI n) (nI w) x d s = some ((), opM (3 * n + w) x d s) := by
  have hv : vpb (nI (3 * n + w)) 48 = true := vpb_nI (by omega) (by omega)
  simp only [m_X12_operand, nI_w3, sAk, if_pos hv, nI_clamp (show 3 * n + w < 2 ^ 31 by omega)]
  rfl
def opn0 (n : Nat) (srt : Int32) (s : Sg) : Sg := pL (pL (pA (pA (pA (pA (pA (pI s 1 0 (nI (n + 1))) 1 1 (upd (gA s 1 1) n srt)) 1 2 (upd (gA s 1 2) n 1)) 1 3 (upd (gA s 1 3) n 0)) 1 4 (upd (gA s 1 4) n 1)) 1 5 (upd (gA s 1 5) n (-1))) 1 8 (vp_updL (gL s 1 8) n 0)) 1 9 (vp_updL (gL s 1 9) n 0)
def opnX (n : Nat) (srt : Int32) (s : Sg) : Sg := opX (3 * n + 2) (-1) (-1) (opX (3 * n + 1) (-1) (-1) (opX (3 * n) (-1) (-1) (opn0 n srt s)))
theorem lp_next {σ ρ : Type} {step : σ → Option (σ ⊕ ρ)} {n : Nat} {s s' : σ} (h : step s = some (.inl s')) : lp step (n + 1) s = lp step n s' := by
  rw [lp, h]
theorem lp_end {σ ρ : Type} {step : σ → Option (σ ⊕ ρ)} {n : Nat} {s : σ} {r : ρ} (h : step s = some (.inr r)) : lp step (n + 1) s = some r := by
  rw [lp, h]
theorem open_loop (n : Nat) (hn : n < 16) (s : Sg) : lp (fun s : (Int32 × Sg) => m_X0_open_L71 (nI n) s.1 s.2) FU (0, s) = some (opX (3 * n + 2) (-1) (-1) (opX (3 * n + 1) (-1) (-1) (opX (3 * n) (-1) (-1) s))) := by
  have t0 := take_eq n 0 hn (by omega) (-1) (-1)
  have t1 := take_eq n 1 hn (by omega) (-1) (-1)
  have t2 := take_eq n 2 hn (by omega) (-1) (-1)
  rw [show nI 0 = 0 from rfl] at t0
  rw [show nI 1 = 1 from rfl] at t1
  rw [show nI 2 = 2 from rfl] at t2
  obtain ⟨N, hN⟩ : ∃ N, FU = N + 1 + 1 + 1 + 1 := ⟨999996, rfl⟩
  rw [hN]
  rw [lp_next (s' := ((1 : Int32), opX (3 * n + 0) (-1) (-1) s)) (by
    simp only [m_X0_open_L71, if_neg (show ¬ (3 : Int32) ≤ 0 by decide), t0, clk_some, nmk]; rfl)]
  rw [lp_next (s' := ((2 : Int32), opX (3 * n + 1) (-1) (-1) (opX (3 * n + 0) (-1) (-1) s))) (by
    simp only [m_X0_open_L71, if_neg (show ¬ (3 : Int32) ≤ 1 by decide), t1, clk_some, nmk]; rfl)]
  rw [lp_next (s' := ((3 : Int32), opX (3 * n + 2) (-1) (-1) (opX (3 * n + 1) (-1) (-1) (opX (3 * n + 0) (-1) (-1) s)))) (by
    simp only [m_X0_open_L71, if_neg (show ¬ (3 : Int32) ≤ 2 by decide), t2, clk_some, nmk]; rfl)]
  rw [lp_end (r := opX (3 * n + 2) (-1) (-1) (opX (3 * n + 1) (-1) (-1) (opX (3 * n + 0) (-1) (-1) s))) (by
    simp only [m_X0_open_L71, if_pos (show (3 : Int32) ≤ 3 by decide)])]
  rfl
theorem open_eq (n : Nat) (hn : n < 16) (srt : Int32) (s : Sg) (h : gI s 1 0 = nI n) : m_X0_open srt s = some (nI n, opnX n srt s) := by
  have hv : vpb (nI n) 16 = true := vpb_nI hn (by omega)
  have hlt : nI n < 16 := by rw [fx_lt, nI_toInt (by omega), ti_16]; omega
  simp only [m_X0_open, gIk, nmk, h, if_pos hlt, sIk, sAk, sLk, if_pos hv, nI_clamp (show n < 2 ^ 31 by omega), lpk, open_loop n hn, nI_1]
  rfl
theorem open_full (s : Sg) (srt : Int32) (h : gI s 1 0 = nI 16) : m_X0_open srt s = some (-1, s) := by
  simp only [m_X0_open, gIk, nmk, h, if_neg (show ¬ nI 16 < 16 by decide)]
def add0 (n : Nat) (srt sl : Int32) (s : Sg) : Sg := pL (pL (pA (pA (pA (pA (pA (pI s 0 9 (nI (n + 1))) 0 0 (upd (gA s 0 0) n srt)) 0 1 (upd (gA s 0 1) n 1)) 0 2 (upd (gA s 0 2) n 0)) 0 3 (upd (gA s 0 3) n 1)) 0 4 (upd (gA s 0 4) n sl)) 0 7 (vp_updL (gL s 0 7) n 0)) 0 8 (vp_updL (gL s 0 8) n 0)
def addM (n : Nat) (srt sl x dx y dy : Int32) (s : Sg) : Sg := opM (3 * n + 2) (-1) (-1) (opM (3 * n + 1) y dy (opM (3 * n) x dx (add0 n srt sl s)))
theorem adds_eq (n : Nat) (hn : n < 16) (srt sl x dx y dy : Int32) (s : Sg) (h : gI s 0 9 = nI n) : m_X12_adds srt sl x dx y dy s = some (nI n, chM (addM n srt sl x dx y dy s)) := by
  have hv : vpb (nI n) 16 = true := vpb_nI hn (by omega)
  have hne : ¬ nI n = 16 := by rw [fx_eq, nI_toInt (by omega), ti_16]; omega
  have t0 := operand_eq n 0 hn (by omega) x dx
  have t1 := operand_eq n 1 hn (by omega) y dy
  have t2 := operand_eq n 2 hn (by omega) (-1) (-1)
  simp only [show nI 0 = 0 from rfl, show nI 1 = 1 from rfl, show nI 2 = 2 from rfl] at t0 t1 t2
  simp only [m_X12_adds, gIk, nmk, h, if_neg hne, sIk, sAk, sLk, if_pos hv, nI_clamp (show n < 2 ^ 31 by omega), t0, t1, t2, clk_some, m_changed, nI_1]
  rfl
theorem adds_full (s : Sg) (srt sl x dx y dy : Int32) (h : gI s 0 9 = nI 16) : m_X12_adds srt sl x dx y dy s = some (-10, refM (-10) s) := by
  have e := m_no_eq (r := -10) (inR_lit _ _ rfl) s
  simp only [m_X12_adds, gIk, h, if_pos (show nI 16 = 16 from rfl), e, clk_some]
theorem updL_i (f : Nat → Int64) (k : Nat) (x : Int64) (i : Nat) : vp_updL f k x i = if i = k then x else f i := rfl
/-- three operands over three that were set to none -/
theorem upd3 (f : Nat → Int32) (a : Nat) (x y z m1 : Int32) : upd (upd (upd (upd (upd (upd f a m1) (a + 1) m1) (a + 2) m1) a x) (a + 1) y) (a + 2) z = upd (upd (upd f a x) (a + 1) y) (a + 2) z := by
  funext q
  simp only [upd_i]
  by_cases h2 : q = a + 2
  · simp [h2]
  · by_cases h1 : q = a + 1
    · simp [h1]
    · by_cases h0 : q = a
      · simp [h0]
      · simp [h0, h1, h2]
theorem upd_none (f : Nat → Int32) (k : Nat) (x : Int32) (h : f k = x) : upd f k x = f := by
  funext q
  simp only [upd_i]
  by_cases e : q = k
  · rw [if_pos e, e, h]
  · rw [if_neg e]
/-- one act more: its numbers are in their ranges -/
theorem wbo_add {acts : Int32} {sort lag kind pat slot ofs back units : Nat → Int32} {n : Nat} (w : WBo acts sort lag kind pat slot ofs back units n) (hn : n < 16) {srt sl x dx y dy z dz : Int32} (h1 : inR srt 0 6) (h2 : inR sl (-1) 7) (h3 : srt = 4 ∨ srt = 5 → inR sl 0 7)
    (hx : inR x (-1) 15 ∧ inR dx (-1) 4 ∧ (0 ≤ x.toInt → 0 ≤ dx.toInt) ∧ (dx.toInt = 0 → x.toInt < (n : Int))) (hy : inR y (-1) 15 ∧ inR dy (-1) 4 ∧ (0 ≤ y.toInt → 0 ≤ dy.toInt) ∧ (dy.toInt = 0 → y.toInt < (n : Int))) (hz : inR z (-1) 15 ∧ inR dz (-1) 4 ∧ (0 ≤ z.toInt → 0 ≤ dz.toInt) ∧ (dz.toInt = 0 → z.toInt < (n : Int)))
    (q0 : ¬ srt = 0 → 0 ≤ x.toInt) (q1 : srt = 1 ∨ srt = 2 ∨ srt = 3 ∨ srt = 5 ∨ srt = 6 → 0 ≤ y.toInt) (q2 : srt = 6 → 0 ≤ z.toInt) :
    WBo (nI (n + 1)) (upd sort n srt) (upd lag n 1) (upd kind n 0) (upd pat n 1) (upd slot n sl) (upd (upd (upd ofs (3 * n) x) (3 * n + 1) y) (3 * n + 2) z) (upd (upd (upd back (3 * n) dx) (3 * n + 1) dy) (3 * n + 2) dz) units (n + 1) := by
  obtain ⟨w1, w2, w3, w4, w5, w6⟩ := w
  refine ⟨rfl, by omega, fun i hi => ?_, fun i hi => ?_, fun i hi => ?_, w6⟩
  · simp only [upd_i]
    by_cases e : i = n
    · simp only [if_pos e]
      exact ⟨h1, inR_lit _ _ rfl, inR_lit _ _ rfl, inR_lit _ _ rfl, h2, h3⟩
    · simp only [if_neg e]
      exact w3 i (by omega)
  · simp only [upd_i]
    by_cases e2 : i = 3 * n + 2
    · simp only [if_pos e2]
      rw [show i / 3 = n by omega]
      exact hz
    · simp only [if_neg e2]
      by_cases e1 : i = 3 * n + 1
      · simp only [if_pos e1]
        rw [show i / 3 = n by omega]
        exact hy
      · simp only [if_neg e1]
        by_cases e0 : i = 3 * n
        · simp only [if_pos e0]
          rw [show i / 3 = n by omega]
          exact hx
        · simp only [if_neg e0]
          exact w4 i (by omega)
  · simp only [upd_i]
    by_cases e : i = n
    · subst e
      simp only [if_pos rfl, if_neg (show ¬ 3 * i = 3 * i + 2 by omega), if_neg (show ¬ 3 * i = 3 * i + 1 by omega), if_neg (show ¬ 3 * i + 1 = 3 * i + 2 by omega)]
      exact ⟨q0, q1, q2⟩
    · simp only [if_neg e, if_neg (show ¬ 3 * i = 3 * n + 2 by omega), if_neg (show ¬ 3 * i = 3 * n + 1 by omega), if_neg (show ¬ 3 * i = 3 * n by omega), if_neg (show ¬ 3 * i + 1 = 3 * n + 2 by omega), if_neg (show ¬ 3 * i + 1 = 3 * n + 1 by omega), if_neg (show ¬ 3 * i + 1 = 3 * n by omega), if_neg (show ¬ 3 * i + 2 = 3 * n + 2 by omega), if_neg (show ¬ 3 * i + 2 = 3 * n + 1 by omega), if_neg (show ¬ 3 * i + 2 = 3 * n by omega)]
      exact w5 i (by omega)
theorem wto_up {size : Int32} {f1 f2 f3 f4 : Nat → Int32} {n t : Nat} (w : WTo size f1 f2 f3 f4 n t) : WTo size f1 f2 f3 f4 (n + 1) t := by
  obtain ⟨w1, w2, w3⟩ := w
  refine ⟨w1, w2, fun i hi => ?_⟩
  obtain ⟨⟨a1, a2⟩, ⟨a3, a4⟩, a5, a6⟩ := w3 i hi
  exact ⟨⟨a1, by omega⟩, ⟨a3, by omega⟩, a5, a6⟩
/-- no operand -/
theorem no_op (n : Nat) : inR (-1 : Int32) (-1) 15 ∧ inR (-1 : Int32) (-1) 4 ∧ (0 ≤ (-1 : Int32).toInt → 0 ≤ (-1 : Int32).toInt) ∧ ((-1 : Int32).toInt = 0 → (-1 : Int32).toInt < (n : Int)) := ⟨inR_lit _ _ rfl, inR_lit _ _ rfl, fun h => h, fun h => absurd h (by decide)⟩
theorem may_op {acts x d : Int32} {n : Nat} (e : acts = nI n) (hn : n ≤ 16) (hd : 0 ≤ d.toInt ∧ d.toInt ≤ 4) (h : mayT acts x d) : inR x (-1) 15 ∧ inR d (-1) 4 ∧ (0 ≤ x.toInt → 0 ≤ d.toInt) ∧ (d.toInt = 0 → x.toInt < (n : Int)) := by
  obtain ⟨h1, h2, h3⟩ := h
  rw [e, nI_toInt (by omega)] at h3
  exact ⟨⟨by omega, h2⟩, ⟨by omega, hd.2⟩, fun _ => hd.1, fun q => by omega⟩
-- frames: what a change of the body leaves
def Fr (sx sm : Sg) : Prop := RTo sx sm ∧ RRo sx sm ∧ RRe sx sm ∧ RTr sx sm
theorem fr_xA {sx sm : Sg} (k : Nat) (f : Nat → Int32) (h : Fr sx sm) : Fr (pA sx 1 k f) sm := h
theorem fr_xI {sx sm : Sg} (k : Nat) (f : Int32) (h : Fr sx sm) : Fr (pI sx 1 k f) sm := h
theorem fr_xL {sx sm : Sg} (k : Nat) (f : Nat → Int64) (h : Fr sx sm) : Fr (pL sx 1 k f) sm := h
theorem fr_mA {sx sm : Sg} (k : Nat) (f : Nat → Int32) (hk : k < 11) (h : Fr sx sm) : Fr sx (pA sm 0 k f) := by
  unfold Fr RTo RRo RRe RTr at h ⊢
  simp only [gI_pA, gL_pA, gA_pA2, if_true, if_neg (show ¬ 11 = k by omega), if_neg (show ¬ 12 = k by omega), if_neg (show ¬ 13 = k by omega), if_neg (show ¬ 14 = k by omega), if_neg (show ¬ 23 = k by omega), if_neg (show ¬ 24 = k by omega), if_neg (show ¬ 25 = k by omega), if_neg (show ¬ 36 = k by omega)]
  exact h
theorem fr_mI {sx sm : Sg} (k : Nat) (f : Int32) (hk : k < 11) (h : Fr sx sm) : Fr sx (pI sm 0 k f) := by
  unfold Fr RTo RRo RRe RTr at h ⊢
  simp only [gA_pI, gL_pI, gI_pI, if_true, if_neg (show ¬ 15 = k by omega), if_neg (show ¬ 26 = k by omega), if_neg (show ¬ 32 = k by omega)]
  exact h
theorem fr_mL {sx sm : Sg} (k : Nat) (f : Nat → Int64) (hk : k < 11) (h : Fr sx sm) : Fr sx (pL sm 0 k f) := by
  unfold Fr RTo RRo RRe RTr at h ⊢
  simp only [gA_pL, gI_pL, gL_pL, if_true, if_neg (show ¬ 21 = k by omega)]
  exact h
theorem fr_opX {sx sm : Sg} (i : Nat) (x d : Int32) (h : Fr sx sm) : Fr (opX i x d sx) sm := fr_xA 7 _ (fr_xA 6 _ h)
theorem fr_opM {sx sm : Sg} (i : Nat) (x d : Int32) (h : Fr sx sm) : Fr sx (opM i x d sm) := fr_mA 6 _ (by omega) (fr_mA 5 _ (by omega) h)
theorem fr_opnX {sx sm : Sg} (n : Nat) (srt : Int32) (h : Fr sx sm) : Fr (opnX n srt sx) sm := fr_opX _ _ _ (fr_opX _ _ _ (fr_opX _ _ _ (fr_xL 9 _ (fr_xL 8 _ (fr_xA 5 _ (fr_xA 4 _ (fr_xA 3 _ (fr_xA 2 _ (fr_xA 1 _ (fr_xI 0 _ h))))))))))
theorem fr_addM {sx sm : Sg} (n : Nat) (srt sl x dx y dy : Int32) (h : Fr sx sm) : Fr sx (addM n srt sl x dx y dy sm) := fr_opM _ _ _ (fr_opM _ _ _ (fr_opM _ _ _ (fr_mL 8 _ (by omega) (fr_mL 7 _ (by omega) (fr_mA 4 _ (by omega) (fr_mA 3 _ (by omega) (fr_mA 2 _ (by omega) (fr_mA 1 _ (by omega) (fr_mA 0 _ (by omega) (fr_mI 9 _ (by omega) h))))))))))
theorem pL_chM (s : Sg) (j k : Nat) (f : Nat → Int64) : pL (chM s) j k f = chM (pL s j k f) := rfl
theorem opM_chM (s : Sg) (i : Nat) (x d : Int32) : opM i x d (chM s) = chM (opM i x d s) := rfl
theorem gL_chM (s : Sg) (j k : Nat) : gL (chM s) j k = gL s j k := rfl
-- the fields of a body with one act more
section FO
variable (n : Nat) (srt sl x dx y dy : Int32) (s : Sg)
theorem ox_0 : gI (opnX n srt s) 1 0 = nI (n + 1) := rfl
theorem ox_1 : gA (opnX n srt s) 1 1 = upd (gA s 1 1) n srt := rfl
theorem ox_2 : gA (opnX n srt s) 1 2 = upd (gA s 1 2) n 1 := rfl
theorem ox_3 : gA (opnX n srt s) 1 3 = upd (gA s 1 3) n 0 := rfl
theorem ox_4 : gA (opnX n srt s) 1 4 = upd (gA s 1 4) n 1 := rfl
theorem ox_5 : gA (opnX n srt s) 1 5 = upd (gA s 1 5) n (-1) := rfl
theorem ox_6 : gA (opnX n srt s) 1 6 = upd (upd (upd (gA s 1 6) (3 * n) (-1)) (3 * n + 1) (-1)) (3 * n + 2) (-1) := rfl
theorem ox_7 : gA (opnX n srt s) 1 7 = upd (upd (upd (gA s 1 7) (3 * n) (-1)) (3 * n + 1) (-1)) (3 * n + 2) (-1) := rfl
theorem ox_8 : gL (opnX n srt s) 1 8 = vp_updL (gL s 1 8) n 0 := rfl
theorem ox_9 : gL (opnX n srt s) 1 9 = vp_updL (gL s 1 9) n 0 := rfl
theorem ox_10 : gA (opnX n srt s) 1 10 = gA s 1 10 := rfl
theorem om_0 : gI (addM n srt sl x dx y dy s) 0 9 = nI (n + 1) := rfl
theorem om_1 : gA (addM n srt sl x dx y dy s) 0 0 = upd (gA s 0 0) n srt := rfl
theorem om_2 : gA (addM n srt sl x dx y dy s) 0 1 = upd (gA s 0 1) n 1 := rfl
theorem om_3 : gA (addM n srt sl x dx y dy s) 0 2 = upd (gA s 0 2) n 0 := rfl
theorem om_4 : gA (addM n srt sl x dx y dy s) 0 3 = upd (gA s 0 3) n 1 := rfl
theorem om_5 : gA (addM n srt sl x dx y dy s) 0 4 = upd (gA s 0 4) n sl := rfl
theorem om_6 : gA (addM n srt sl x dx y dy s) 0 5 = upd (upd (upd (gA s 0 5) (3 * n) x) (3 * n + 1) y) (3 * n + 2) (-1) := rfl
theorem om_7 : gA (addM n srt sl x dx y dy s) 0 6 = upd (upd (upd (gA s 0 6) (3 * n) dx) (3 * n + 1) dy) (3 * n + 2) (-1) := rfl
theorem om_8 : gL (addM n srt sl x dx y dy s) 0 8 = vp_updL (gL s 0 8) n 0 := rfl
theorem om_9 : gL (addM n srt sl x dx y dy s) 0 7 = vp_updL (gL s 0 7) n 0 := rfl
theorem om_10 : gA (addM n srt sl x dx y dy s) 0 10 = gA s 0 10 := rfl
theorem om_11 : gI (addM n srt sl x dx y dy s) 0 15 = gI s 0 15 := rfl
theorem om_12 : gA (addM n srt sl x dx y dy s) 0 11 = gA s 0 11 := rfl
theorem om_13 : gA (addM n srt sl x dx y dy s) 0 12 = gA s 0 12 := rfl
theorem om_14 : gA (addM n srt sl x dx y dy s) 0 13 = gA s 0 13 := rfl
theorem om_15 : gA (addM n srt sl x dx y dy s) 0 14 = gA s 0 14 := rfl
end FO
theorem opx_6 (i : Nat) (x d : Int32) (s : Sg) : gA (opX i x d s) 1 6 = upd (gA s 1 6) i x := rfl
theorem opx_7 (i : Nat) (x d : Int32) (s : Sg) : gA (opX i x d s) 1 7 = upd (gA s 1 7) i d := rfl
theorem opx_A (i : Nat) (x d : Int32) (s : Sg) (k : Nat) (h : k ≠ 6 ∧ k ≠ 7) : gA (opX i x d s) 1 k = gA s 1 k := by
  unfold opX
  simp only [gA_pA2, if_true, if_neg h.1, if_neg h.2]
theorem opx_I (i : Nat) (x d : Int32) (s : Sg) (j k : Nat) : gI (opX i x d s) j k = gI s j k := rfl
theorem opx_L (i : Nat) (x d : Int32) (s : Sg) (j k : Nat) : gL (opX i x d s) j k = gL s j k := rfl
theorem opm_5 (i : Nat) (x d : Int32) (s : Sg) : gA (opM i x d s) 0 5 = upd (gA s 0 5) i x := rfl
theorem opm_6 (i : Nat) (x d : Int32) (s : Sg) : gA (opM i x d s) 0 6 = upd (gA s 0 6) i d := rfl
theorem opm_A (i : Nat) (x d : Int32) (s : Sg) (k : Nat) (h : k ≠ 5 ∧ k ≠ 6) : gA (opM i x d s) 0 k = gA s 0 k := by
  unfold opM
  simp only [gA_pA2, if_true, if_neg h.1, if_neg h.2]
theorem opm_I (i : Nat) (x d : Int32) (s : Sg) (j k : Nat) : gI (opM i x d s) j k = gI s j k := rfl
theorem opm_L (i : Nat) (x d : Int32) (s : Sg) (j k : Nat) : gL (opM i x d s) j k = gL s j k := rfl
theorem rel_changed' {sx sm : Sg} (n t : Nat) (h1 : WBo (gI sm 0 9) (gA sm 0 0) (gA sm 0 1) (gA sm 0 2) (gA sm 0 3) (gA sm 0 4) (gA sm 0 5) (gA sm 0 6) (gA sm 0 10) n) (h2 : WTo (gI sm 0 15) (gA sm 0 11) (gA sm 0 12) (gA sm 0 13) (gA sm 0 14) n t) (h3 : RBo sx sm) (h4 : Fr sx sm) : Rel (chX sx) (chM sm) := rel_changed n t h1 h2 h3 h4.1 h4.2.1 h4.2.2.1 h4.2.2.2
theorem q18_8 (s : Sg) (f : Nat → Int64) : gL (pL s 1 8 f) 1 8 = f := rfl
theorem q18_9 (s : Sg) (f : Nat → Int64) : gL (pL s 1 8 f) 1 9 = gL s 1 9 := rfl
theorem q08_8 (s : Sg) (f : Nat → Int64) : gL (pL s 0 8 f) 0 8 = f := rfl
theorem q08_7 (s : Sg) (f : Nat → Int64) : gL (pL s 0 8 f) 0 7 = gL s 0 7 := rfl
theorem q15_5 (s : Sg) (f : Nat → Int32) : gA (pA s 1 5 f) 1 5 = f := rfl
theorem q15_1 (s : Sg) (f : Nat → Int32) : gA (pA s 1 5 f) 1 1 = gA s 1 1 := rfl
theorem q15_2 (s : Sg) (f : Nat → Int32) : gA (pA s 1 5 f) 1 2 = gA s 1 2 := rfl
theorem q15_3 (s : Sg) (f : Nat → Int32) : gA (pA s 1 5 f) 1 3 = gA s 1 3 := rfl
theorem q15_4 (s : Sg) (f : Nat → Int32) : gA (pA s 1 5 f) 1 4 = gA s 1 4 := rfl
theorem q15_6 (s : Sg) (f : Nat → Int32) : gA (pA s 1 5 f) 1 6 = gA s 1 6 := rfl
theorem q15_7 (s : Sg) (f : Nat → Int32) : gA (pA s 1 5 f) 1 7 = gA s 1 7 := rfl
theorem q15_10 (s : Sg) (f : Nat → Int32) : gA (pA s 1 5 f) 1 10 = gA s 1 10 := rfl
theorem opxA_1 (i : Nat) (x d : Int32) (s : Sg) : gA (opX i x d s) 1 1 = gA s 1 1 := rfl
theorem opxA_2 (i : Nat) (x d : Int32) (s : Sg) : gA (opX i x d s) 1 2 = gA s 1 2 := rfl
theorem opxA_3 (i : Nat) (x d : Int32) (s : Sg) : gA (opX i x d s) 1 3 = gA s 1 3 := rfl
theorem opxA_4 (i : Nat) (x d : Int32) (s : Sg) : gA (opX i x d s) 1 4 = gA s 1 4 := rfl
theorem opxA_5 (i : Nat) (x d : Int32) (s : Sg) : gA (opX i x d s) 1 5 = gA s 1 5 := rfl
theorem opxA_10 (i : Nat) (x d : Int32) (s : Sg) : gA (opX i x d s) 1 10 = gA s 1 10 := rfl
theorem opmA_0 (i : Nat) (x d : Int32) (s : Sg) : gA (opM i x d s) 0 0 = gA s 0 0 := rfl
theorem opmA_1 (i : Nat) (x d : Int32) (s : Sg) : gA (opM i x d s) 0 1 = gA s 0 1 := rfl
theorem opmA_2 (i : Nat) (x d : Int32) (s : Sg) : gA (opM i x d s) 0 2 = gA s 0 2 := rfl
theorem opmA_3 (i : Nat) (x d : Int32) (s : Sg) : gA (opM i x d s) 0 3 = gA s 0 3 := rfl
theorem opmA_4 (i : Nat) (x d : Int32) (s : Sg) : gA (opM i x d s) 0 4 = gA s 0 4 := rfl
theorem opmA_10 (i : Nat) (x d : Int32) (s : Sg) : gA (opM i x d s) 0 10 = gA s 0 10 := rfl
theorem opmA_11 (i : Nat) (x d : Int32) (s : Sg) : gA (opM i x d s) 0 11 = gA s 0 11 := rfl
theorem opmA_12 (i : Nat) (x d : Int32) (s : Sg) : gA (opM i x d s) 0 12 = gA s 0 12 := rfl
theorem opmA_13 (i : Nat) (x d : Int32) (s : Sg) : gA (opM i x d s) 0 13 = gA s 0 13 := rfl
theorem opmA_14 (i : Nat) (x d : Int32) (s : Sg) : gA (opM i x d s) 0 14 = gA s 0 14 := rfl
