-- 89.settle2: bounds, places, order of a found laying
theorem earliest_eq {s : Sg} {n v : Nat} (hn : n ≤ 16) (hv : v < n) : ∃ r, m_X9_earliest (nI v) (nI n) s = some (r, s) ∧ r.toInt = earO (maN n (gA s 6 1)) v n := by
  have hI := ok_for (step := fun r : (Int32 × Int32 × Sg) => m_X9_earliest_L5 (nI v) (nI n) r.1 r.2.1 r.2.2) (Q := fun r => ∃ x, r = (x, s) ∧ x.toInt = earO (maN n (gA s 6 1)) v n) n (fun i r => ∃ x, r = (x, nI i, s) ∧ x.toInt = earO (maN n (gA s 6 1)) v i) (by
      rintro i r hi ⟨x, rfl, h⟩
      have vp : vpb (nI (16 * i + v)) 256 = true := vpb_nI (by omega) (by omega)
      have cp := nI_clamp (show 16 * i + v < 2 ^ 31 by omega)
      refine ⟨.inl (mx x (gA s 6 1 (16 * i + v)), nI (i + 1), s), ?_, _, rfl, mx_col h (maN_in hi hv).symm⟩
      simp only [m_X9_earliest_L5, if_neg (nI_ge hi (by omega)), nI_16, lAk, if_pos vp, cp, nmk, nI_1]) (by
      rintro r ⟨x, rfl, h⟩
      exact ⟨.inr (x, s), by simp only [m_X9_earliest_L5, if_pos (Int32.le_refl _)], x, rfl, h⟩) FU 0 (nI 0, nI 0, s) (by omega) (FU_lt (by omega)) ⟨nI 0, rfl, rfl⟩
  obtain ⟨r, hr, x, rfl, h⟩ := hI
  exact ⟨x, by simp only [m_X9_earliest, nmk, lpk, show (0 : Int32) = nI 0 from rfl, hr], h⟩
def trO (D : Nat → Nat → Option Int) (a b : Nat) : Option Int := D b a
theorem farthest_eq {s : Sg} {n v : Nat} (hn : n ≤ 16) (hv : v < n) : ∃ r, m_X9_farthest (nI v) (nI n) s = some (r, s) ∧ r.toInt = earO (trO (maN n (gA s 6 1))) v n := by
  have hI := ok_for (step := fun r : (Int32 × Int32 × Sg) => m_X9_farthest_L5 (nI v) (nI n) r.1 r.2.1 r.2.2) (Q := fun r => ∃ x, r = (x, s) ∧ x.toInt = earO (trO (maN n (gA s 6 1))) v n) n (fun i r => ∃ x, r = (x, nI i, s) ∧ x.toInt = earO (trO (maN n (gA s 6 1))) v i) (by
      rintro i r hi ⟨x, rfl, h⟩
      have vp : vpb (nI (16 * v + i)) 256 = true := vpb_nI (by omega) (by omega)
      have cp := nI_clamp (show 16 * v + i < 2 ^ 31 by omega)
      refine ⟨.inl (mx x (gA s 6 1 (16 * v + i)), nI (i + 1), s), ?_, _, rfl, mx_col h (show oD (gA s 6 1 (16 * v + i)) = maN n (gA s 6 1) v i from (maN_in hv hi).symm)⟩
      simp only [m_X9_farthest_L5, if_neg (nI_ge hi (by omega)), nI_16, lAk, if_pos vp, cp, nmk, nI_1]) (by
      rintro r ⟨x, rfl, h⟩
      exact ⟨.inr (x, s), by simp only [m_X9_farthest_L5, if_pos (Int32.le_refl _)], x, rfl, h⟩) FU 0 (nI 0, nI 0, s) (by omega) (FU_lt (by omega)) ⟨nI 0, rfl, rfl⟩
  obtain ⟨r, hr, x, rfl, h⟩ := hI
  exact ⟨x, by simp only [m_X9_farthest, nmk, lpk, show (0 : Int32) = nI 0 from rfl, hr], h⟩
theorem mxI_s (p : Nat → Int) (m : Nat) : mxI p (m + 1) = if mxI p m < p m then p m else mxI p m := rfl
theorem mxI_bd {p : Nat → Int} {M : Int} (hM : 0 ≤ M) : ∀ {n : Nat}, (∀ v, v < n → p v ≤ M) → 0 ≤ mxI p n ∧ mxI p n ≤ M
  | 0, _ => ⟨Int.le_refl 0, hM⟩
  | n + 1, h => by
    have := mxI_bd (p := p) hM (n := n) (fun v hv => h v (by omega))
    have := h n (by omega)
    rw [mxI_s]
    split <;> omega
/-- the turned chains are done too -/
theorem tr_least {n : Nat} {E : List Ge} {D : Nat → Nat → Option Int} (hi : InG n E) (h : ChO n E D) : LeastG n (E.map turnG) (fun b => earO (trO D) b n) := by
  refine ear_least (fun e he => ?_) (fun v hv a b ha hb x y hx hy => ?_) (fun e he => ?_) (fun q hq a b ha hb x hx => ?_)
  · obtain ⟨g, hg, rfl⟩ := List.mem_map.mp he
    exact ⟨(hi g hg).2, (hi g hg).1⟩
  · obtain ⟨z, z1, z2⟩ := h.1 v hv b a hb ha y x hy hx
    exact ⟨z, z1, by omega⟩
  · obtain ⟨g, hg, rfl⟩ := List.mem_map.mp he
    exact h.2.1 g hg
  · have := h.2.2.1 (fun v => -q v) (fun g hg => by
      have := hq (turnG g) (List.mem_map.mpr ⟨g, hg, rfl⟩)
      have e : q g.2.1 + g.2.2 ≤ q g.1 := this
      show -q g.1 + g.2.2 ≤ -q g.2.1
      omega) b a hb ha x hx
    have e2 : x ≤ (-q a) - (-q b) := this
    omega
theorem bounds_eq {s : Sg} {n : Nat} (hn : n ≤ 16) (h1 : ∀ v, v < n → earO (maN n (gA s 6 1)) v n ≤ 1000) (h2 : ∀ v, v < n → earO (trO (maN n (gA s 6 1))) v n ≤ 1000) : ∃ f7 f8, m_X4_settleBounds (nI n) s = some ((), pA (pA s 9 7 f7) 9 8 f8) ∧ (∀ v, v < n → (f7 v).toInt = earO (maN n (gA s 6 1)) v n) ∧ ∀ v, v < n → (f8 v).toInt = mxI (fun v => earO (maN n (gA s 6 1)) v n) n - earO (trO (maN n (gA s 6 1))) v n := by
  obtain ⟨p, hp⟩ : ∃ p : Nat → Int, p = fun v => earO (maN n (gA s 6 1)) v n := ⟨_, rfl⟩
  have pv : ∀ v, p v = earO (maN n (gA s 6 1)) v n := fun v => by rw [hp]
  rw [← hp]
  have hI := ok_for (step := fun r : (Int32 × Int32 × Sg) => m_X4_settleBounds_L5 (nI n) r.1 r.2.1 r.2.2) (Q := fun r => ∃ x f, r = (x, pA s 9 7 f) ∧ (∀ v, v < n → (f v).toInt = p v) ∧ x.toInt = mxI p n) n (fun i r => ∃ x f, r = (x, nI i, pA s 9 7 f) ∧ (∀ v, v < i → (f v).toInt = p v) ∧ x.toInt = mxI p i) (by
      rintro i r hi ⟨x, f, rfl, h, hx⟩
      have vi : vpb (nI i) 16 = true := vpb_nI (by omega) (by omega)
      have ci := nI_clamp (show i < 2 ^ 31 by omega)
      obtain ⟨y, y1, y2⟩ := earliest_eq (s := pA s 9 7 f) hn hi
      have e6 : gA (pA s 9 7 f) 6 1 = gA s 6 1 := rfl
      rw [e6, ← pv] at y2
      have a7 : gA (pA s 9 7 f) 9 7 = f := rfl
      have uu : gA (pA s 9 7 (upd f i y)) 9 7 i = y := by show upd f i y i = y; rw [upd_i, if_pos rfl]
      refine ⟨.inl (mx x y, nI (i + 1), pA s 9 7 (upd f i y)), ?_, _, _, rfl, fun v hv => ?_, ?_⟩
      · simp only [m_X4_settleBounds_L5, if_neg (nI_ge hi (by omega)), y1, clk_some, sAk, lAk, if_pos vi, ci, a7, pA_pA, uu, nmk, nI_1]
      · rw [upd_i]
        by_cases c : v = i
        · subst c; rw [if_pos rfl]; exact y2
        · rw [if_neg c]; exact h v (by omega)
      · rw [mx_toInt, hx, y2, mxI_s]) (by
      rintro r ⟨x, f, rfl, h, hx⟩
      exact ⟨.inr (x, pA s 9 7 f), by simp only [m_X4_settleBounds_L5, if_pos (Int32.le_refl _)], x, f, rfl, h, hx⟩) FU 0 (nI 0, nI 0, s) (by omega) (FU_lt (by omega)) ⟨nI 0, gA s 9 7, by rw [pA_self], fun v hv => absurd hv (Nat.not_lt_zero v), rfl⟩
  obtain ⟨r, hr, x, f7, rfl, k1, k2⟩ := hI
  have hxb := mxI_bd (p := p) (M := 1000) (by omega) (n := n) (fun v hv => by rw [pv]; exact h1 v hv)
  have hJ := ok_for (step := fun r : (Int32 × Sg) => m_X4_settleBounds_L46 (nI n) x r.1 r.2) (Q := fun r => ∃ f, r = pA (pA s 9 7 f7) 9 8 f ∧ ∀ v, v < n → (f v).toInt = mxI p n - earO (trO (maN n (gA s 6 1))) v n) n (fun i r => ∃ f, r = (nI i, pA (pA s 9 7 f7) 9 8 f) ∧ ∀ v, v < i → (f v).toInt = mxI p n - earO (trO (maN n (gA s 6 1))) v n) (by
      rintro i r hi ⟨f, rfl, h⟩
      have vi : vpb (nI i) 16 = true := vpb_nI (by omega) (by omega)
      have ci := nI_clamp (show i < 2 ^ 31 by omega)
      obtain ⟨y, y1, y2⟩ := farthest_eq (s := pA (pA s 9 7 f7) 9 8 f) hn hi
      have e6 : gA (pA (pA s 9 7 f7) 9 8 f) 6 1 = gA s 6 1 := rfl
      rw [e6] at y2
      have a8 : gA (pA (pA s 9 7 f7) 9 8 f) 9 8 = f := rfl
      have b1 := h2 i hi
      have b2 := ear_0 (trO (maN n (gA s 6 1))) i n
      refine ⟨.inl (nI (i + 1), pA (pA s 9 7 f7) 9 8 (upd f i (x - y))), ?_, _, rfl, fun v hv => ?_⟩
      · simp only [m_X4_settleBounds_L46, if_neg (nI_ge hi (by omega)), y1, clk_some, sAk, if_pos vi, ci, a8, pA_pA, nmk, nI_1]
      · rw [upd_i]
        by_cases c : v = i
        · subst c
          rw [if_pos rfl, fx_sub (by rw [k2, y2]; omega) (by rw [k2, y2]; omega), k2, y2]
        · rw [if_neg c]; exact h v (by omega)) (by
      rintro r ⟨f, rfl, h⟩
      exact ⟨.inr (pA (pA s 9 7 f7) 9 8 f), by simp only [m_X4_settleBounds_L46, if_pos (Int32.le_refl _)], f, rfl, h⟩) FU 0 (nI 0, pA s 9 7 f7) (by omega) (FU_lt (by omega)) ⟨gA (pA s 9 7 f7) 9 8, by rw [pA_self], fun v hv => absurd hv (Nat.not_lt_zero v)⟩
  obtain ⟨r, hr2, f8, rfl, k3⟩ := hJ
  refine ⟨f7, f8, ?_, fun v hv => (k1 v hv).trans (pv v), k3⟩
  simp only [m_X4_settleBounds, nmk, lpk, show (0 : Int32) = nI 0 from rfl, hr, hr2]
-- places
theorem lf_s (B : Nat → Int) (b : Int) (ofs back : Nat → Int32) (a k : Nat) : lfI B b ofs back a (k + 1) = if ofs k = nI a ∧ lfI B b ofs back a k < B (k / 3) + b * (back k).toInt - B a then B (k / 3) + b * (back k).toInt - B a else lfI B b ofs back a k := rfl
theorem lf_bd {B : Nat → Int} {b : Int} {ofs back : Nat → Int32} {a n : Nat} {M : Int} (hM : 0 ≤ M) (h : ∀ k, k < 3 * n → B (k / 3) + b * (back k).toInt - B a ≤ M) : ∀ {k : Nat}, k ≤ 3 * n → 0 ≤ lfI B b ofs back a k ∧ lfI B b ofs back a k ≤ M
  | 0, _ => ⟨Int.le_refl 0, hM⟩
  | k + 1, hk => by
    have i := lf_bd (ofs := ofs) hM h (k := k) (by omega)
    have j := h k (by omega)
    rw [lf_s]
    split
    · rename_i c
      have := c.2
      omega
    · exact i
theorem nI_3 (k : Nat) (h : k < 48) : nI k / 3 = nI (k / 3) := by
  have : ∀ c : Fin 48, nI c.val / 3 = nI (c.val / 3) := by decide
  exact this ⟨k, h⟩
/-- the places of a life, a step: the class's greatest against the greatest life -/
theorem place_mx {b : Nat} {L z : Int} {d : Int32} (hb1 : 1 ≤ b) (hb : b ≤ 60) (hL : 0 ≤ L) (hL2 : L ≤ 1000000) (hd : d.toInt = z) (hz : -1000000 ≤ z) (hz2 : z ≤ 1000000) : mx (nI (L.toNat / b + 1)) (d / nI b + 1) = nI ((if L < z then z else L).toNat / b + 1) := by
  have tb := nI_toInt (show b < 2 ^ 31 by omega)
  have hLd : L.toNat / b ≤ L.toNat := Nat.div_le_self _ _
  by_cases c : 0 ≤ z
  · have e1 : (d / nI b).toInt = z / b := by rw [fx_div (by omega) (by omega), hd, tb]
    have e2 : z / (b : Int) = ((z.toNat / b : Nat) : Int) := by
      obtain ⟨m, rfl⟩ := Int.eq_ofNat_of_zero_le c
      rfl
    have hzd : z.toNat / b ≤ z.toNat := Nat.div_le_self _ _
    have m1 : L < z → L.toNat / b ≤ z.toNat / b := fun k => Nat.div_le_div_right (by omega)
    have m2 : ¬ L < z → z.toNat / b ≤ L.toNat / b := fun k => Nat.div_le_div_right (by omega)
    have eif : (if L < z then z else L).toNat / b = if L < z then z.toNat / b else L.toNat / b := by
      by_cases k : L < z
      · rw [if_pos k, if_pos k]
      · rw [if_neg k, if_neg k]
    rw [eif]
    rw [e2] at e1
    generalize L.toNat / b = x at *
    generalize z.toNat / b = y at *
    have e3 : (d / nI b + 1) = nI (y + 1) := by
      rw [fx_eq, fx_add (by rw [e1, ti_1]; omega) (by rw [e1, ti_1]; omega), e1, ti_1, nI_toInt (by omega)]
      omega
    rw [e3, mx_nI (by omega) (by omega)]
    congr 1
    by_cases k : L < z
    · have := m1 k
      rw [if_pos k]
      split <;> omega
    · have := m2 k
      rw [if_neg k, if_neg (by omega)]
  · have e1 : (d / nI b).toInt = -((-z) / b) := by rw [fx_divn (by omega) (by omega) (by omega), hd, tb]
    have e2 : 0 ≤ (-z) / (b : Int) := Int.ediv_nonneg (by omega) (by omega)
    have e4 : (-z) / (b : Int) ≤ -z := Int.ediv_le_self _ (by omega)
    have e3 : (d / nI b + 1).toInt ≤ 1 := by
      rw [fx_add (by rw [e1, ti_1]; omega) (by rw [e1, ti_1]; omega), e1, ti_1]
      omega
    have k : ¬ L < z := by omega
    rw [if_neg k]
    generalize L.toNat / b = x at *
    have tL := nI_toInt (show x + 1 < 2 ^ 31 by omega)
    have : ¬ nI (x + 1) < d / nI b + 1 := by rw [fx_lt, tL]; omega
    exact if_neg this
theorem places_eq {s : Sg} {n b : Nat} {B : Nat → Nat} (hn : n ≤ 16) (hb1 : 1 ≤ b) (hb : b ≤ 60) (hx : gI s 1 0 = nI n) (h91 : gI s 9 1 = nI b) (hB : ∀ v, v < n → gA s 9 5 v = nI (B v) ∧ B v ≤ 100000) (hop : ∀ k, k < 3 * n → inR (gA s 1 7 k) (-1) 4) : ∃ g, m_X4_settlePlaces s = some ((), pA s 9 9 g) ∧ ∀ a, a < n → g a = nI ((lfI (fun a => (B a : Int)) b (gA s 1 6) (gA s 1 7) a (3 * n)).toNat / b + 1) := by
  have span : ∀ k a, k < 3 * n → a < n → -1000000 ≤ (B (k / 3) : Int) + (b : Int) * (gA s 1 7 k).toInt - (B a : Int) ∧ (B (k / 3) : Int) + (b : Int) * (gA s 1 7 k).toInt - (B a : Int) ≤ 1000000 ∧ -60 ≤ (b : Int) * (gA s 1 7 k).toInt ∧ (b : Int) * (gA s 1 7 k).toInt ≤ 240 := fun k a hk ha => by
    have h1 := (hB (k / 3) (by omega)).2
    have h2 := (hB a ha).2
    obtain ⟨o1, o2⟩ := hop k hk
    have h3 : (b : Int) * (gA s 1 7 k).toInt ≤ (b : Int) * 4 := Int.mul_le_mul_of_nonneg_left o2 (by omega)
    have h4 : (b : Int) * (-1) ≤ (b : Int) * (gA s 1 7 k).toInt := Int.mul_le_mul_of_nonneg_left o1 (by omega)
    omega
  have lfb : ∀ a k, a < n → k ≤ 3 * n → 0 ≤ lfI (fun a => (B a : Int)) b (gA s 1 6) (gA s 1 7) a k ∧ lfI (fun a => (B a : Int)) b (gA s 1 6) (gA s 1 7) a k ≤ 1000000 := fun a k ha hk => lf_bd (n := n) (by omega) (fun k hk => (span k a hk ha).2.1) hk
  have n3 : nI n * 3 = nI (3 * n) := by rw [show (3 : Int32) = nI 3 from rfl, pk_mul, Nat.mul_comm]
  have tb := nI_toInt (show b < 2 ^ 31 by omega)
  have hb' : (1 : Int32) ≤ nI b := by rw [fx_le, ti_1, tb]; omega
  have b0 : ¬ nI b = 0 := nI_ne0 (by omega) (by omega)
  have hI := ok_for (step := fun r : (Int32 × Sg) => m_X4_settlePlaces_L10 r.1 r.2) (Q := fun r => ∃ g, r = pA s 9 9 g ∧ ∀ a, a < n → g a = nI ((lfI (fun a => (B a : Int)) b (gA s 1 6) (gA s 1 7) a (3 * n)).toNat / b + 1)) (3 * n) (fun k r => ∃ g, r = (nI k, pA s 9 9 g) ∧ ∀ a, a < n → g a = nI ((lfI (fun a => (B a : Int)) b (gA s 1 6) (gA s 1 7) a k).toNat / b + 1)) (by
      rintro k r hk ⟨g, rfl, h⟩
      have x1 : gI (pA s 9 9 g) 1 0 = nI n := hx
      have vk : vpb (nI k) 48 = true := vpb_nI (by omega) (by omega)
      have ck := nI_clamp (show k < 2 ^ 31 by omega)
      have e6 : gA (pA s 9 9 g) 1 6 = gA s 1 6 := rfl
      have e7 : gA (pA s 9 9 g) 1 7 = gA s 1 7 := rfl
      have e5 : gA (pA s 9 9 g) 9 5 = gA s 9 5 := rfl
      have e9 : gA (pA s 9 9 g) 9 9 = g := rfl
      have e91 : gI (pA s 9 9 g) 9 1 = nI b := h91
      have tn := nI_toInt (show n < 2 ^ 31 by omega)
      by_cases c : 0 ≤ (gA s 1 6 k).toInt ∧ (gA s 1 6 k).toInt < (n : Int)
      · have hc : 0 ≤ (gA s 1 6 k).toInt ∧ (gA s 1 6 k).toInt < (gI (pA s 9 9 g) 1 0).toInt := by rw [x1, tn]; exact c
        obtain ⟨a, ha⟩ : ∃ a, a = (gA s 1 6 k).toNatClampNeg := ⟨_, rfl⟩
        have ea : gA s 1 6 k = nI a := by rw [ha]; exact fx_nI c.1
        have hcl := fx_cl c.1
        rw [← ha] at hcl
        have han : a < n := by omega
        have c2 : 0 ≤ (nI a).toInt ∧ (nI a).toInt < (n : Int) := by rw [nI_toInt (by omega)]; omega
        have va : vpb (nI a) 16 = true := vpb_nI (by omega) (by omega)
        have ca := nI_clamp (show a < 2 ^ 31 by omega)
        have v3 : vpb (nI (k / 3)) 16 = true := vpb_nI (by omega) (by omega)
        have c3 := nI_clamp (show k / 3 < 2 ^ 31 by omega)
        obtain ⟨p1, p2, p3, p4⟩ := span k a hk han
        have t1 := nI_toInt (show B (k / 3) < 2 ^ 31 by have := (hB (k / 3) (by omega)).2; omega)
        have t2 := nI_toInt (show B a < 2 ^ 31 by have := (hB a han).2; omega)
        have q1 := (hB (k / 3) (by omega)).2
        have q2 := (hB a han).2
        have m1 : (nI b * gA s 1 7 k).toInt = (b : Int) * (gA s 1 7 k).toInt := by rw [fx_mul (by rw [tb]; omega) (by rw [tb]; omega), tb]
        have m2 : (nI (B (k / 3)) + nI b * gA s 1 7 k).toInt = (B (k / 3) : Int) + (b : Int) * (gA s 1 7 k).toInt := by rw [fx_add (by rw [t1, m1]; omega) (by rw [t1, m1]; omega), t1, m1]
        have m3 : (nI (B (k / 3)) + nI b * gA s 1 7 k - nI (B a)).toInt = (B (k / 3) : Int) + (b : Int) * (gA s 1 7 k).toInt - (B a : Int) := by rw [fx_sub (by rw [m2, t2]; omega) (by rw [m2, t2]; omega), m2, t2]
        have lb := lfb a k han (by omega)
        have pm := place_mx hb1 hb lb.1 lb.2 m3 p1 p2
        have B3 : gA s 9 5 (k / 3) = nI (B (k / 3)) := (hB (k / 3) (by omega)).1
        have Ba : gA s 9 5 a = nI (B a) := (hB a han).1
        refine ⟨.inl (nI (k + 1), pA s 9 9 (upd g a (mx (g a) ((nI (B (k / 3)) + nI b * gA s 1 7 k - nI (B a)) / nI b + 1)))), ?_, _, rfl, fun a' ha' => ?_⟩
        · simp only [m_X4_settlePlaces_L10, gIk, x1, n3, if_neg (nI_ge hk (by omega)), lAk, if_pos vk, ck, e6, nmk, has_eq, clk_some, if_pos c2, tn, if_neg (show ¬ (1 : Int32) = 0 by decide), dvk, if_neg (show ¬ (3 : Int32) = 0 by decide), nI_3 k (by omega), if_pos v3, c3, e5, B3, e91, e7, ea, if_pos va, ca, Ba, e9, if_pos hb', if_neg b0, sAk, pA_pA, nI_1]
        · rw [upd_i, lf_s]
          by_cases d : a' = a
          · subst d
            rw [if_pos rfl, h a' ha', pm]
            by_cases z : lfI (fun a => (B a : Int)) b (gA s 1 6) (gA s 1 7) a' k < (B (k / 3) : Int) + (b : Int) * (gA s 1 7 k).toInt - (B a' : Int)
            · rw [if_pos z, if_pos ⟨ea, z⟩]
            · rw [if_neg z, if_neg (fun q => z q.2)]
          · rw [if_neg d, if_neg (fun q => d (nI_inj (by omega) (by omega) (ea.symm.trans q.1)).symm)]
            exact h a' ha'
      · have hc : ¬ (0 ≤ (gA s 1 6 k).toInt ∧ (gA s 1 6 k).toInt < (gI (pA s 9 9 g) 1 0).toInt) := by rw [x1, tn]; exact c
        refine ⟨.inl (nI (k + 1), pA s 9 9 g), ?_, g, rfl, fun a' ha' => ?_⟩
        · simp only [m_X4_settlePlaces_L10, gIk, x1, n3, if_neg (nI_ge hk (by omega)), lAk, if_pos vk, ck, e6, nmk, has_eq, clk_some, tn, if_neg c, if_true, nI_1]
        · rw [lf_s, if_neg (fun q => c (by rw [q.1, nI_toInt (by omega)]; omega))]
          exact h a' ha') (by
      rintro r ⟨g, rfl, h⟩
      have x1 : gI (pA s 9 9 g) 1 0 = nI n := hx
      exact ⟨.inr (pA s 9 9 g), by simp only [m_X4_settlePlaces_L10, gIk, x1, n3, if_pos (Int32.le_refl _)], g, rfl, h⟩) FU 0 (nI 0, pA s 9 9 (filF 16 1 (gA s 9 9))) (by omega) (FU_lt (by omega)) ⟨_, rfl, fun a ha => by
        unfold filF
        rw [if_pos (by omega)]
        show (1 : Int32) = nI (((0 : Int).toNat) / b + 1)
        rw [show (0 : Int).toNat = 0 from rfl, Nat.zero_div]
        rfl⟩
  obtain ⟨r, hr, g, rfl, h⟩ := hI
  refine ⟨g, ?_, h⟩
  simp only [m_X4_settlePlaces, fill_eq 9 9 16 1 (by omega), clk_some, nmk, lpk, show (0 : Int32) = nI 0 from rfl, hr]
-- the order
theorem ord_s (b : Nat) (T : Nat → Nat) (n : Nat) : ordL (b + 1) T n = ordL b T n ++ (List.range n).filter (fun a => decide (T a = b)) := by
  unfold ordL
  rw [List.range_succ, List.flatMap_append, List.flatMap_singleton]
def ordP (r i : Nat) (T : Nat → Nat) (n : Nat) : List Nat := ordL r T n ++ (List.range i).filter (fun a => decide (T a = r))
theorem ordP_s (r i : Nat) (T : Nat → Nat) (n : Nat) : ordP r (i + 1) T n = if T i = r then ordP r i T n ++ [i] else ordP r i T n := by
  unfold ordP
  rw [List.range_succ, List.filter_append]
  by_cases c : T i = r
  · rw [if_pos c, List.filter_cons_of_pos (by simpa using c), List.filter_nil, List.append_assoc]
  · rw [if_neg c, List.filter_cons_of_neg (by simpa using c), List.filter_nil, List.append_nil]
theorem ordP_0 (r : Nat) (T : Nat → Nat) (n : Nat) : ordP r 0 T n = ordL r T n := by
  unfold ordP
  rw [List.range_zero, List.filter_nil, List.append_nil]
theorem ordP_n (r : Nat) (T : Nat → Nat) (n : Nat) : ordP r n T n = ordL (r + 1) T n := (ord_s r T n).symm
/-- the class's row holds the list -/
def RowL (f : Nat → Int32) (L : List Nat) : Prop := ∀ i (h : i < L.length), f i = nI L[i]
theorem rowL_add {f : Nat → Int32} {L : List Nat} {x : Nat} (h : RowL f L) : RowL (upd f L.length (nI x)) (L ++ [x]) := by
  intro i hi
  rw [upd_i]
  rw [List.length_append] at hi
  have hl : [x].length = 1 := rfl
  by_cases c : i = L.length
  · subst c
    rw [if_pos rfl, List.getElem_append_right (Nat.le_refl _)]
    congr 1
    simp
  · rw [if_neg c, List.getElem_append_left (show i < L.length by omega)]
    exact h i _
theorem order_in {s : Sg} {n r : Nat} {T : Nat → Nat} {f : Nat → Int32} (hn : n ≤ 16) (hr : r < 60) (hT : ∀ v, v < n → gA s 9 3 v = nI (T v) ∧ T v < 60) (h0 : RowL f (ordL r T n)) (hc : (ordL r T n).length ≤ cnB (fun v => decide (T v < r)) n) : ∃ f', lp (fun s : (Int32 × Int32 × Sg) => m_X4_settleOrder_L15 (nI n) (nI r) s.1 s.2.1 s.2.2) FU (nI (ordL r T n).length, nI 0, pA s 9 10 f) = some (nI (ordL (r + 1) T n).length, pA s 9 10 f') ∧ RowL f' (ordL (r + 1) T n) ∧ (ordL (r + 1) T n).length ≤ cnB (fun v => decide (T v < r + 1)) n := by
  have hI := ok_for (step := fun s : (Int32 × Int32 × Sg) => m_X4_settleOrder_L15 (nI n) (nI r) s.1 s.2.1 s.2.2) (Q := fun q => ∃ f', q = (nI (ordP r n T n).length, pA s 9 10 f') ∧ RowL f' (ordP r n T n) ∧ (ordP r n T n).length ≤ cnB (fun v => decide (T v < r ∨ (T v = r ∧ v < n))) n) n (fun i q => ∃ f', q = (nI (ordP r i T n).length, nI i, pA s 9 10 f') ∧ RowL f' (ordP r i T n) ∧ (ordP r i T n).length ≤ cnB (fun v => decide (T v < r ∨ (T v = r ∧ v < i))) n) (by
      rintro i q hi ⟨f', rfl, h1, h2⟩
      have vi : vpb (nI i) 16 = true := vpb_nI (by omega) (by omega)
      have ci := nI_clamp (show i < 2 ^ 31 by omega)
      obtain ⟨t1, t2⟩ := hT i hi
      have a3 : gA (pA s 9 10 f') 9 3 = gA s 9 3 := rfl
      have a10 : gA (pA s 9 10 f') 9 10 = f' := rfl
      rw [ordP_s]
      by_cases c : T i = r
      · rw [if_pos c]
        have c1 : nI (T i) = nI r := by rw [c]
        have m1 := cn_more (p := fun v => decide (T v < r ∨ (T v = r ∧ v < i))) (q := fun v => decide (T v < r ∨ (T v = r ∧ v < i + 1))) (k := n) (fun v hv g => by
          simp only [decide_eq_true_eq] at g ⊢
          omega) ⟨i, hi, by simp only [decide_eq_true_eq]; omega, by simp only [decide_eq_true_eq]; omega⟩
        have m2 := cn_le (fun v => decide (T v < r ∨ (T v = r ∧ v < i + 1))) n
        have hl : (ordP r i T n).length < 16 := by omega
        have g16 : ¬ (16 : Int32) ≤ nI (ordP r i T n).length := nI_ge (b := 16) hl (by omega)
        have vl : vpb (nI (ordP r i T n).length) 16 = true := vpb_nI hl (by omega)
        have cl := nI_clamp (show (ordP r i T n).length < 2 ^ 31 by omega)
        have el : (ordP r i T n ++ [i]).length = (ordP r i T n).length + 1 := by rw [List.length_append]; rfl
        refine ⟨.inl (nI (ordP r i T n ++ [i]).length, nI (i + 1), pA s 9 10 (upd f' (ordP r i T n).length (nI i))), ?_, _, rfl, rowL_add h1, by rw [el]; omega⟩
        rw [el]
        simp only [m_X4_settleOrder_L15, if_neg (nI_ge hi (by omega)), lAk, if_pos vi, ci, a3, t1, if_pos c1, if_neg g16, sAk, if_pos vl, cl, a10, pA_pA, nmk, nI_1]
      · rw [if_neg c]
        have c1 : ¬ nI (T i) = nI r := fun q => c (nI_inj (by omega) (by omega) q)
        have m1 := cn_mono (p := fun v => decide (T v < r ∨ (T v = r ∧ v < i))) (q := fun v => decide (T v < r ∨ (T v = r ∧ v < i + 1))) (k := n) (fun v hv g => by
          simp only [decide_eq_true_eq] at g ⊢
          omega)
        refine ⟨.inl (nI (ordP r i T n).length, nI (i + 1), pA s 9 10 f'), ?_, _, rfl, h1, by omega⟩
        simp only [m_X4_settleOrder_L15, if_neg (nI_ge hi (by omega)), lAk, if_pos vi, ci, a3, t1, if_neg c1, nmk, nI_1]) (by
      rintro q ⟨f', rfl, h1, h2⟩
      exact ⟨.inr (nI (ordP r n T n).length, pA s 9 10 f'), by simp only [m_X4_settleOrder_L15, if_pos (Int32.le_refl _)], f', rfl, h1, h2⟩) FU 0 (nI (ordL r T n).length, nI 0, pA s 9 10 f) (by omega) (FU_lt (by omega)) ⟨f, by rw [ordP_0], by rw [ordP_0]; exact h0, by
        rw [ordP_0]
        have := cn_mono (p := fun v => decide (T v < r)) (q := fun v => decide (T v < r ∨ (T v = r ∧ v < 0))) (k := n) (fun v hv g => by
          simp only [decide_eq_true_eq] at g ⊢
          omega)
        omega⟩
  obtain ⟨q, hq, f', rfl, k1, k2⟩ := hI
  rw [ordP_n] at hq k1 k2
  refine ⟨f', hq, k1, ?_⟩
  have := cn_mono (p := fun v => decide (T v < r ∨ (T v = r ∧ v < n))) (q := fun v => decide (T v < r + 1)) (k := n) (fun v hv g => by
    simp only [decide_eq_true_eq] at g ⊢
    omega)
  omega
theorem order_eq {s : Sg} {n b : Nat} {T : Nat → Nat} (hn : n ≤ 16) (hb : b ≤ 60) (h91 : gI s 9 1 = nI b) (hT : ∀ v, v < n → gA s 9 3 v = nI (T v) ∧ T v < 60) : ∃ f, m_X4_settleOrder (nI n) s = some ((), pA s 9 10 f) ∧ RowL f (ordL b T n) := by
  have hI := ok_for (step := fun s : (Int32 × Int32 × Sg) => m_X4_settleOrder_L4 (nI n) s.1 s.2.1 s.2.2) (Q := fun q => ∃ f, q = pA s 9 10 f ∧ RowL f (ordL b T n)) b (fun r q => ∃ f, q = (nI (ordL r T n).length, nI r, pA s 9 10 f) ∧ RowL f (ordL r T n) ∧ (ordL r T n).length ≤ cnB (fun v => decide (T v < r)) n) (by
      rintro r q hr ⟨f, rfl, h1, h2⟩
      obtain ⟨f', k1, k2, k3⟩ := order_in (s := s) hn (show r < 60 by omega) hT h1 h2
      have e91 : gI (pA s 9 10 f) 9 1 = nI b := h91
      have k1' : lp (fun s : (Int32 × Int32 × Sg) => m_X4_settleOrder_L15 (nI n) (nI r) s.1 s.2.1 s.2.2) FU (nI (ordL r T n).length, 0, pA s 9 10 f) = some (nI (ordL (r + 1) T n).length, pA s 9 10 f') := k1
      refine ⟨.inl (nI (ordL (r + 1) T n).length, nI (r + 1), pA s 9 10 f'), ?_, f', rfl, k2, k3⟩
      simp only [m_X4_settleOrder_L4, gIk, e91, if_neg (nI_ge hr (by omega)), nmk, lpk, k1', nI_1]) (by
      rintro q ⟨f, rfl, h1, h2⟩
      have e91 : gI (pA s 9 10 f) 9 1 = nI b := h91
      exact ⟨.inr (pA s 9 10 f), by simp only [m_X4_settleOrder_L4, gIk, e91, if_pos (Int32.le_refl _)], f, rfl, h1⟩) FU 0 (nI 0, nI 0, s) (by omega) (FU_lt (by omega)) ⟨gA s 9 10, by rw [pA_self]; rfl, fun i hi => absurd hi (Nat.not_lt_zero i), Nat.zero_le _⟩
  obtain ⟨q, hq, f, rfl, h⟩ := hI
  exact ⟨f, by simp only [m_X4_settleOrder, nmk, lpk, show (0 : Int32) = nI 0 from rfl, hq], h⟩
