-- 53.body: number, works, unit, edge; the tests of both sides
theorem ti_0 : (0 : Int32).toInt = 0 := rfl
theorem ti_1 : (1 : Int32).toInt = 1 := rfl
theorem ti_3 : (3 : Int32).toInt = 3 := rfl
theorem ti_4 : (4 : Int32).toInt = 4 := rfl
theorem ti_5 : (5 : Int32).toInt = 5 := rfl
theorem ti_6 : (6 : Int32).toInt = 6 := rfl
theorem ti_7 : (7 : Int32).toInt = 7 := rfl
theorem ti_8 : (8 : Int32).toInt = 8 := rfl
theorem ti_12 : (12 : Int32).toInt = 12 := rfl
theorem ti_15 : (15 : Int32).toInt = 15 := rfl
theorem ti_16 : (16 : Int32).toInt = 16 := rfl
theorem ti_40 : (40 : Int32).toInt = 40 := rfl
theorem ti_50 : (50 : Int32).toInt = 50 := rfl
theorem ti_m50 : (-50 : Int32).toInt = -50 := rfl
theorem ti_255 : (255 : Int32).toInt = 255 := rfl
theorem ti_m1 : (-1 : Int32).toInt = -1 := rfl
theorem tl_0 : (0 : Int64).toInt = 0 := rfl
theorem tl_1 : (1 : Int64).toInt = 1 := rfl
theorem tl_3 : (3 : Int64).toInt = 3 := rfl
theorem tl_4 : (4 : Int64).toInt = 4 := rfl
theorem tl_5 : (5 : Int64).toInt = 5 := rfl
theorem tl_7 : (7 : Int64).toInt = 7 := rfl
theorem tl_12 : (12 : Int64).toInt = 12 := rfl
theorem tl_15 : (15 : Int64).toInt = 15 := rfl
theorem tl_50 : (50 : Int64).toInt = 50 := rfl
theorem tl_m50 : (-50 : Int64).toInt = -50 := rfl
theorem tl_255 : (255 : Int64).toInt = 255 := rfl
theorem ite10 {α : Type} {c : Prop} [Decidable c] {a b : α} : (if (if c then (1 : Int32) else 0) = 0 then a else b) = if c then b else a := by
  by_cases h : c
  · rw [if_pos h, if_pos h, if_neg (by decide)]
  · rw [if_neg h, if_neg h, if_pos rfl]
/-- 'less than the least, or more than the most' -/
theorem ite_lg {α : Type} {x a b : Int32} {r e : α} : (if x < a then r else if b < x then r else e) = if a.toInt ≤ x.toInt ∧ x.toInt ≤ b.toInt then e else r := by
  simp only [fx_lt]
  by_cases h1 : x.toInt < a.toInt
  · rw [if_pos h1, if_neg (by omega)]
  · rw [if_neg h1]
    by_cases h2 : b.toInt < x.toInt
    · rw [if_pos h2, if_neg (by omega)]
    · rw [if_neg h2, if_pos (by omega)]
theorem ite_ll {α : Type} {x a b : Int32} {r e : α} : (if x < a then r else if x ≤ b then e else r) = if a.toInt ≤ x.toInt ∧ x.toInt ≤ b.toInt then e else r := by
  simp only [fx_lt, fx_le]
  by_cases h1 : x.toInt < a.toInt
  · rw [if_pos h1, if_neg (by omega)]
  · rw [if_neg h1]
    by_cases h2 : x.toInt ≤ b.toInt
    · rw [if_pos h2, if_pos (by omega)]
    · rw [if_neg h2, if_neg (by omega)]
theorem bok_01 {α : Type} {c : Prop} [Decidable c] {f : Option α} : bok (if c then (1 : Int32) else 0) f = f := by
  by_cases h : c
  · rw [if_pos h]; rfl
  · rw [if_neg h]; rfl
theorem isBack_eq (p : Int32) (st : Sg) : m_X11_isBack p st = some (if 0 ≤ p.toInt ∧ p.toInt ≤ 4 then 1 else 0, st) := by
  simp only [m_X11_isBack, ite_lg, ti_0, ti_4]
  by_cases h : 0 ≤ p.toInt ∧ p.toInt ≤ 4
  · rw [if_pos h, if_pos h]
  · rw [if_neg h, if_neg h]
theorem areTurns_eq (p : Int32) (st : Sg) : m_X12_areTurns p st = some (if 0 ≤ p.toInt ∧ p.toInt ≤ 4 then 1 else 0, st) := by
  simp only [m_X12_areTurns, isIn_eq, clk_some, bok_01, tl_0, tl_4]
theorem isSlotX_eq (p : Int32) (st : Sg) : m_X11_isSlot p st = some (if 0 ≤ p.toInt ∧ p.toInt ≤ 7 then 1 else 0, st) := by
  simp only [m_X11_isSlot, fx_lt, fx_le, ti_0, ti_8]
  by_cases h1 : p.toInt < 0
  · rw [if_pos h1, if_neg (by omega)]
  · rw [if_neg h1]
    by_cases h2 : 8 ≤ p.toInt
    · rw [if_pos h2, if_neg (by omega)]
    · rw [if_neg h2, if_pos (by omega)]
theorem isSlotM_eq (p : Int32) (st : Sg) : m_X12_isSlot p st = some (if 0 ≤ p.toInt ∧ p.toInt ≤ 7 then 1 else 0, st) := by
  simp only [m_X12_isSlot, fx_lt, fx_le, ti_0, ti_8]
  by_cases h1 : p.toInt < 0
  · rw [if_pos h1, if_neg (by omega)]
  · rw [if_neg h1]
    by_cases h2 : 8 ≤ p.toInt
    · rw [if_pos h2, if_neg (by omega)]
    · rw [if_neg h2, if_pos (by omega)]
/-- may the act that comes next take x of d turns before, with so many acts -/
def mayT (acts x d : Int32) : Prop := 0 ≤ x.toInt ∧ x.toInt ≤ 15 ∧ (d.toInt ≠ 0 ∨ x.toInt < acts.toInt)
theorem mayTake_eq (x d : Int32) (hd : 0 ≤ d.toInt) (st : Sg) (h : mayT (gI st 1 0) x d) : m_X0_mayTake x d st = some (1, st) := by
  obtain ⟨h1, h2, h3⟩ := h
  simp only [m_X0_mayTake, gIk, fx_lt, fx_le, ti_0, ti_16]
  rw [if_neg (by omega), if_neg (by omega)]
  by_cases q : 0 < d.toInt
  · rw [if_pos q]
  · rw [if_neg q, if_neg (by omega)]
theorem mayTake_no (x d : Int32) (hd : 0 ≤ d.toInt) (st : Sg) (h : ¬ mayT (gI st 1 0) x d) : m_X0_mayTake x d st = some (0, st) := by
  unfold mayT at h
  simp only [m_X0_mayTake, gIk, fx_lt, fx_le, ti_0, ti_16]
  by_cases a : x.toInt < 0
  · rw [if_pos a]
  rw [if_neg a]
  by_cases b : 16 ≤ x.toInt
  · rw [if_pos b]
  rw [if_neg b, if_neg (by omega), if_pos (by omega)]
theorem isBeyond_eq (x d : Int32) (st : Sg) (h : mayT (gI st 0 9) x d) : m_X12_isBeyond x d st = some (0, st) := by
  obtain ⟨h1, h2, h3⟩ := h
  simp only [m_X12_isBeyond, isIn_eq, clk_some, ite10, gIk, fx_lt, fx_eq d, ti_0, tl_0, tl_15]
  rw [if_pos (by omega)]
  by_cases q : d.toInt = 0
  · rw [if_pos q, if_pos (by omega)]
  · rw [if_neg q]
theorem isBeyond_no (x d : Int32) (st : Sg) (h : ¬ mayT (gI st 0 9) x d) : m_X12_isBeyond x d st = some (1, st) := by
  unfold mayT at h
  simp only [m_X12_isBeyond, isIn_eq, clk_some, ite10, gIk, fx_lt, fx_eq d, ti_0, tl_0, tl_15]
  by_cases q : 0 ≤ x.toInt ∧ x.toInt ≤ 15
  · rw [if_pos q, if_pos (by omega), if_neg (by omega)]
  · rw [if_neg q]
-- a change of the body
def chX (sx : Sg) : Sg := pI (pI (pI (pI (pI (pI (pI (pI (pI sx 3 2 1) 9 0 0) 16 0 0) 16 1 (-1)) 16 2 (-1)) 16 3 0) 16 4 0) 16 5 0) 16 6 0
def chM (sm : Sg) : Sg := pI (pI (pI (pI (pI (pI (pI (pI sm 0 27 0) 0 38 0) 0 39 (-1)) 0 40 (-1)) 0 41 0) 0 42 0) 0 43 0) 0 44 0
theorem x_changed (sx : Sg) : m_X11_bodyChanged sx = some ((), chX sx) := rfl
theorem m_changed (sm : Sg) : m_X12_changes sm = some ((), chM sm) := rfl
theorem rel_changed {sx sm : Sg} (n t : Nat) (h1 : WBo (gI sm 0 9) (gA sm 0 0) (gA sm 0 1) (gA sm 0 2) (gA sm 0 3) (gA sm 0 4) (gA sm 0 5) (gA sm 0 6) (gA sm 0 10) n) (h2 : WTo (gI sm 0 15) (gA sm 0 11) (gA sm 0 12) (gA sm 0 13) (gA sm 0 14) n t) (h3 : RBo sx sm) (h4 : RTo sx sm) (h5 : RRo sx sm) (h6 : RRe sx sm) (h7 : RTr sx sm) : Rel (chX sx) (chM sm) :=
  ⟨n, t, h1, h2, h3, h4, h5, h6, h7, ⟨rfl, rfl, rfl, rfl, rfl, rfl, rfl, inR_lit _ _ rfl, inR_lit _ _ rfl, fun h => absurd (show (0 : Int) < (0 : Int32).toInt from h) (by decide)⟩, Or.inl rfl, Or.inl ⟨rfl, rfl⟩⟩
theorem acts_lt {acts : Int32} {p : Int32} {n : Nat} (e : acts = nI n) (hn : n ≤ 16) (c : 0 ≤ p.toInt ∧ p.toInt < acts.toInt) : p.toNatClampNeg < n ∧ p = nI p.toNatClampNeg ∧ vpb p 16 = true := by
  rw [e, nI_toInt (by omega)] at c
  have := fx_cl c.1
  exact ⟨by omega, fx_nI c.1, by rw [vpb_iff]; omega⟩
theorem s_number (p : Int32) {sx sm : Sg} (h : Rel sx sm) : Sim (m_X11_number p sx) (m_X12_number p sm) := by
  obtain ⟨n, t, h1, h2, h3, h4, h5, h6, h7, h8, h9, h10⟩ := id h
  have e1 := x_refuse (r := -3) (inR_lit _ _ rfl) sx
  have e2 := m_no_eq (r := -3) (inR_lit _ _ rfl) sm
  have e3 := x_refuse (r := -5) (inR_lit _ _ rfl) sx
  have e4 := m_no_eq (r := -5) (inR_lit _ _ rfl) sm
  obtain ⟨b0, b1, b2, b3, b4, b5, b6, b7, b8, b9, b10⟩ := h3
  simp only [m_X11_number, m_X12_number, m_X12_number_28, nmk, has_eq, isAct_eq, clk_some, ite10, b0, e1, e2, e3, e4, if_neg (show ¬ (-3 : Int32) = 0 by decide), if_neg (show ¬ (-5 : Int32) = 0 by decide), if_pos (show (0 : Int32) = 0 from rfl)]
  by_cases c : 0 ≤ p.toInt ∧ p.toInt < (gI sm 0 9).toInt
  · obtain ⟨-, -, hv⟩ := acts_lt h1.1 h1.2.1 c
    rw [if_pos c, if_pos c]
    simp only [lAk, lLk, if_pos hv, b1, b8]
    by_cases d : gA sm 0 0 p.toNatClampNeg = 0
    · rw [if_pos d, if_pos d]; exact ⟨_, _, _, rfl, rfl, h⟩
    · rw [if_neg d, if_neg d]; exact ⟨_, _, _, rfl, rfl, rel_ref _ h⟩
  · rw [if_neg c, if_neg c]
    exact ⟨_, _, _, rfl, rfl, rel_ref _ h⟩
theorem s_unit (p v : Int32) {sx sm : Sg} (h : Rel sx sm) : Sim (m_X11_unit p v sx) (m_X12_unit p v sm) := by
  obtain ⟨n, t, h1, h2, h3, h4, h5, h6, h7, h8, h9, h10⟩ := id h
  have e1 := x_refuse (r := -3) (inR_lit _ _ rfl) sx
  have e2 := m_no_eq (r := -3) (inR_lit _ _ rfl) sm
  have e3 := x_refuse (r := -9) (inR_lit _ _ rfl) sx
  have e4 := m_no_eq (r := -9) (inR_lit _ _ rfl) sm
  have e5 := x_refuse (r := -4) (inR_lit _ _ rfl) sx
  have e6 := m_no_eq (r := -4) (inR_lit _ _ rfl) sm
  obtain ⟨b0, b1, b2, b3, b4, b5, b6, b7, b8, b9, b10⟩ := id h3
  simp only [m_X11_unit, m_X12_unit, nmk, isKind_eq, isIn_eq, clk_some, ite10, tl_0, tl_5, e1, e2, e3, e4, e5, e6]
  by_cases c : 0 ≤ p.toInt ∧ p.toInt ≤ 5
  · have hv : vpb p 6 = true := by rw [vpb_iff]; omega
    rw [if_pos c, if_pos c]
    by_cases d : 0 ≤ v
    · rw [if_pos d, if_pos d]
      by_cases g : v ≤ 4
      · rw [if_pos g, if_pos g]
        simp only [lAk, sAk, if_pos hv, x_changed, m_changed, clk_some, b10]
        refine ⟨_, _, _, rfl, rfl, rel_changed n t ?_ h2 ⟨b0, b1, b2, b3, b4, b5, b6, b7, b8, b9, rfl⟩ h4 h5 h6 h7⟩
        obtain ⟨w1, w2, w3, w4, w5, w6⟩ := h1
        refine ⟨w1, w2, w3, w4, w5, fun i hi => ?_⟩
        show inR (upd (gA sm 0 10) p.toNatClampNeg v i) 0 4
        unfold upd
        by_cases q : i = p.toNatClampNeg
        · rw [if_pos q]
          rw [fx_le, ti_0] at d
          rw [fx_le, ti_4] at g
          exact ⟨d, g⟩
        · rw [if_neg q]; exact w6 i hi
      · rw [if_neg g, if_neg g]; exact ⟨_, _, _, rfl, rfl, rel_ref _ h⟩
    · rw [if_neg d, if_neg d]; exact ⟨_, _, _, rfl, rfl, rel_ref _ h⟩
  · rw [if_neg c, if_neg c]
    exact ⟨_, _, _, rfl, rfl, rel_ref _ h⟩
theorem upd_i (f : Nat → Int32) (k : Nat) (x : Int32) (i : Nat) : upd f k x i = if i = k then x else f i := rfl
theorem s_works (p l u k : Int32) {sx sm : Sg} (h : Rel sx sm) : Sim (m_X11_works p l u k sx) (m_X12_works p l u k sm) := by
  obtain ⟨n, t, h1, h2, h3, h4, h5, h6, h7, h8, h9, h10⟩ := id h
  have e1 := x_refuse (r := -3) (inR_lit _ _ rfl) sx
  have e2 := m_no_eq (r := -3) (inR_lit _ _ rfl) sm
  have e3 := x_refuse (r := -9) (inR_lit _ _ rfl) sx
  have e4 := m_no_eq (r := -9) (inR_lit _ _ rfl) sm
  obtain ⟨b0, b1, b2, b3, b4, b5, b6, b7, b8, b9, b10⟩ := id h3
  simp only [m_X11_works, m_X12_works, has_eq, isAct_eq, isKind_eq, isIn_eq, clk_some, ite10, tl_0, tl_5, tl_1, tl_12, tl_255, e1, e2, e3, e4, b0]
  by_cases c : 0 ≤ p.toInt ∧ p.toInt < (gI sm 0 9).toInt
  · obtain ⟨hp1, hp2, hv⟩ := acts_lt h1.1 h1.2.1 c
    rw [if_pos c, if_pos c]
    by_cases c2 : 0 ≤ u.toInt ∧ u.toInt ≤ 5
    · rw [if_pos c2, if_pos c2, ite_ll, ite_lg, ti_1, ti_12, ti_255]
      by_cases c3 : 1 ≤ l.toInt ∧ l.toInt ≤ 12
      · rw [if_pos c3, if_pos c3]
        by_cases c4 : 1 ≤ k.toInt ∧ k.toInt ≤ 255
        · rw [if_pos c4, if_pos c4]
          simp only [sAk, if_pos hv, x_changed, m_changed, clk_some]
          refine ⟨_, _, _, rfl, rfl, rel_changed n t ?_ h2 ⟨b0, b1, ?_, ?_, ?_, b5, b6, b7, b8, b9, b10⟩ h4 h5 h6 h7⟩
          · obtain ⟨w1, w2, w3, w4, w5, w6⟩ := h1
            refine ⟨w1, w2, fun i hi => ?_, w4, w5, w6⟩
            obtain ⟨v1, v2, v3, v4, v5, v6⟩ := w3 i hi
            show inR (gA sm 0 0 i) 0 6 ∧ inR (upd (gA sm 0 1) p.toNatClampNeg l i) 1 12 ∧ inR (upd (gA sm 0 2) p.toNatClampNeg u i) 0 5 ∧ inR (upd (gA sm 0 3) p.toNatClampNeg k i) 1 255 ∧ inR (gA sm 0 4 i) (-1) 7 ∧ (gA sm 0 0 i = 4 ∨ gA sm 0 0 i = 5 → inR (gA sm 0 4 i) 0 7)
            simp only [upd_i]
            by_cases q : i = p.toNatClampNeg
            · simp only [if_pos q]; exact ⟨v1, c3, c2, c4, v5, v6⟩
            · simp only [if_neg q]; exact ⟨v1, v2, v3, v4, v5, v6⟩
          · show upd (gA sx 1 2) _ _ = upd (gA sm 0 1) _ _
            rw [b2]
          · show upd (gA sx 1 3) _ _ = upd (gA sm 0 2) _ _
            rw [b3]
          · show upd (gA sx 1 4) _ _ = upd (gA sm 0 3) _ _
            rw [b4]
        · rw [if_neg c4, if_neg c4]; exact ⟨_, _, _, rfl, rfl, rel_ref _ h⟩
      · rw [if_neg c3, if_neg c3]; exact ⟨_, _, _, rfl, rfl, rel_ref _ h⟩
    · rw [if_neg c2, if_neg c2]; exact ⟨_, _, _, rfl, rfl, rel_ref _ h⟩
  · rw [if_neg c, if_neg c]
    exact ⟨_, _, _, rfl, rfl, rel_ref _ h⟩
