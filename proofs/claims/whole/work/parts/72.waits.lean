-- 72.waits: the class's matrix of waits: load, and one row of the chains
def oD (x : Int32) : Option Int := if x = -1000000 then none else some x.toInt
def maN (n : Nat) (f : Nat → Int32) (a b : Nat) : Option Int := if a < n ∧ b < n then oD (f (16 * a + b)) else none
theorem tA : (-1000000 : Int32).toInt = -1000000 := rfl
theorem oD_no {x : Int32} (h : x = -1000000) : oD x = none := if_pos h
theorem oD_yes {x : Int32} (h : ¬ x = -1000000) : oD x = some x.toInt := if_neg h
theorem oD_none {x : Int32} (h : oD x = none) : x = -1000000 := by
  refine Classical.byContradiction fun c => ?_
  rw [oD_yes c] at h
  cases h
theorem oD_some {x : Int32} {z : Int} (h : oD x = some z) : ¬ x = -1000000 ∧ x.toInt = z := by
  by_cases c : x = -1000000
  · rw [oD_no c] at h; cases h
  · rw [oD_yes c] at h; exact ⟨c, Option.some.inj h⟩
theorem oD_mx {x y : Int32} (hx : -1000000 ≤ x.toInt) (hy : -1000000 < y.toInt) : oD (mx x y) = some (mxO (oD x) y.toInt) := by
  by_cases c : x = -1000000
  · rw [oD_no c]
    have : x < y := by rw [fx_lt, c, tA]; exact hy
    have e : mx x y = y := if_pos this
    rw [e, oD_yes (fun q => by rw [q, tA] at hy; omega)]
    rfl
  · rw [oD_yes c]
    by_cases d : x < y
    · have e : mx x y = y := if_pos d
      rw [e, oD_yes (fun q => by rw [q, tA] at hy; omega)]
      have d' := d
      rw [fx_lt] at d'
      show some y.toInt = some (if x.toInt < y.toInt then y.toInt else x.toInt)
      rw [if_pos d']
    · have e : mx x y = x := if_neg d
      rw [e, oD_yes c]
      have d' := d
      rw [fx_lt] at d'
      show some x.toInt = some (if x.toInt < y.toInt then y.toInt else x.toInt)
      rw [if_neg d']
theorem mx_toInt (x y : Int32) : (mx x y).toInt = if x.toInt < y.toInt then y.toInt else x.toInt := by
  by_cases d : x < y
  · have e : mx x y = y := if_pos d
    rw [fx_lt] at d
    rw [e, if_pos d]
  · have e : mx x y = x := if_neg d
    rw [fx_lt] at d
    rw [e, if_neg d]
theorem maN_in {n : Nat} {f : Nat → Int32} {a b : Nat} (ha : a < n) (hb : b < n) : maN n f a b = oD (f (16 * a + b)) := by
  have hc : a < n ∧ b < n := ⟨ha, hb⟩
  exact if_pos hc
theorem maN_some {n : Nat} {f : Nat → Int32} {a b : Nat} {z : Int} (h : maN n f a b = some z) : a < n ∧ b < n ∧ ¬ f (16 * a + b) = -1000000 ∧ (f (16 * a + b)).toInt = z := by
  unfold maN at h
  by_cases c : a < n ∧ b < n
  · rw [if_pos c] at h
    exact ⟨c.1, c.2, oD_some h⟩
  · rw [if_neg c] at h; cases h
theorem nI_16 (a b : Nat) : nI a * 16 + nI b = nI (16 * a + b) := by
  rw [show (16 : Int32) = nI 16 from rfl, pk_mul, nI_add, Nat.mul_comm]
/-- the matrix says of each two acts the most that an edge asks -/
def WO (E : List Ge) (D : Nat → Nat → Option Int) : Prop := (∀ e ∈ E, ∃ z, D e.1 e.2.1 = some z ∧ e.2.2 ≤ z) ∧ ∀ a b z, D a b = some z → (a, b, z) ∈ E
theorem wo_add {n : Nat} {E : List Ge} {f : Nat → Int32} {a b : Nat} {w : Int32} (hn : n ≤ 16) (ha : a < n) (hb : b < n) (hw : -1000000 < w.toInt) (hf : -1000000 ≤ (f (16 * a + b)).toInt) (h : WO E (maN n f)) : WO (E ++ [(a, b, w.toInt)]) (maN n (upd f (16 * a + b) (mx (f (16 * a + b)) w))) := by
  have ea : maN n (upd f (16 * a + b) (mx (f (16 * a + b)) w)) a b = some (mxO (maN n f a b) w.toInt) := by
    rw [maN_in ha hb, maN_in ha hb, upd_i, if_pos rfl, oD_mx hf hw]
  have eo : ∀ x y, ¬ (x = a ∧ y = b) → maN n (upd f (16 * a + b) (mx (f (16 * a + b)) w)) x y = maN n f x y := by
    intro x y hxy
    unfold maN
    by_cases c : x < n ∧ y < n
    · rw [if_pos c, if_pos c, upd_i, if_neg (by omega)]
    · rw [if_neg c, if_neg c]
  refine ⟨fun e he => ?_, fun x y z hz => ?_⟩
  · rcases List.mem_append.mp he with q | q
    · obtain ⟨z, z1, z2⟩ := h.1 e q
      by_cases c : e.1 = a ∧ e.2.1 = b
      · rw [c.1, c.2] at z1 ⊢
        refine ⟨_, ea, ?_⟩
        have := mxO_ge (y := w.toInt) z1
        omega
      · exact ⟨z, (eo _ _ c).trans z1, z2⟩
    · rw [List.mem_singleton] at q
      subst q
      exact ⟨_, ea, mxO_ge2 _ _⟩
  · by_cases c : x = a ∧ y = b
    · rw [c.1, c.2] at hz ⊢
      rw [ea] at hz
      have hz' := Option.some.inj hz
      rcases mxO_or (maN n f a b) w.toInt with q | q
      · rw [hz'] at q
        exact List.mem_append.mpr (Or.inl (h.2 a b z q))
      · rw [hz'] at q
        subst q
        exact List.mem_append.mpr (Or.inr (List.mem_singleton.mpr rfl))
    · rw [eo _ _ c] at hz
      exact List.mem_append.mpr (Or.inl (h.2 x y z hz))
theorem load_eq {sx : Sg} {n b : Nat} {l : List Ed} (hn : n ≤ 16) (hb : b ≤ 60) (hl : LR (gI sx 4 0) (gA sx 4 1) (gA sx 4 2) (gA sx 4 3) (gA sx 4 4) l) (hl2 : l.length ≤ 720) (hok : ∀ e ∈ l, okEd n e) : ∃ f, m_X9_load (nI b) sx = some ((), pA sx 6 0 f) ∧ WO (l.map (geI b)) (maN n f) ∧ ∀ q, q < 256 → -1000000 ≤ (f q).toInt ∧ (f q).toInt ≤ 50 := by
  have hI := ok_for (step := fun s : (Int32 × Sg) => m_X9_load_L11 (nI b) s.1 s.2) (Q := fun r => ∃ f, r = pA sx 6 0 f ∧ WO (l.map (geI b)) (maN n f) ∧ ∀ q, q < 256 → -1000000 ≤ (f q).toInt ∧ (f q).toInt ≤ 50) l.length (fun i s => ∃ f, s = (nI i, pA sx 6 0 f) ∧ WO ((l.take i).map (geI b)) (maN n f) ∧ ∀ q, q < 256 → -1000000 ≤ (f q).toInt ∧ (f q).toInt ≤ 50) (by
      rintro i s hi ⟨f, rfl, hW, hB⟩
      have e0 : gI (pA sx 6 0 f) 4 0 = nI l.length := hl.1
      have a1 : gA (pA sx 6 0 f) 4 1 = gA sx 4 1 := rfl
      have a2 : gA (pA sx 6 0 f) 4 2 = gA sx 4 2 := rfl
      have a3 : gA (pA sx 6 0 f) 4 3 = gA sx 4 3 := rfl
      have a4 : gA (pA sx 6 0 f) 4 4 = gA sx 4 4 := rfl
      have a6 : gA (pA sx 6 0 f) 6 0 = f := rfl
      have hg : ¬ nI l.length ≤ nI i := nI_ge hi (by omega)
      have hv : vpb (nI i) 720 = true := vpb_nI (by omega) (by omega)
      have cl := nI_clamp (show i < 2 ^ 31 by omega)
      have el := hl.2 i hi
      obtain ⟨o1, o2, o3, o4⟩ := hok l[i] (List.getElem_mem hi)
      rw [el] at o1 o2 o3 o4
      dsimp only at o1 o2 o3 o4
      have cA := fx_cl o1.1
      have cB := fx_cl o2.1
      have hA : (gA sx 4 1 i).toNatClampNeg < n := by have := o1.2; omega
      have hB' : (gA sx 4 2 i).toNatClampNeg < n := by have := o2.2; omega
      have nA := fx_nI o1.1
      have nB := fx_nI o2.1
      have eat : gA sx 4 1 i * 16 + gA sx 4 2 i = nI (16 * (gA sx 4 1 i).toNatClampNeg + (gA sx 4 2 i).toNatClampNeg) := by
        rw [← nI_16, ← nA, ← nB]
      obtain ⟨m1, m2, m3⟩ := bt_mul hb o4
      have t1 := o3.1
      have t2 := o3.2
      have sw : (gA sx 4 3 i - nI b * gA sx 4 4 i).toInt = (gA sx 4 3 i).toInt - (b : Int) * (gA sx 4 4 i).toInt := by
        rw [fx_sub (by rw [m1]; omega) (by rw [m1]; omega), m1]
      obtain ⟨A, hAe⟩ : ∃ A, A = (gA sx 4 1 i).toNatClampNeg := ⟨_, rfl⟩
      obtain ⟨B, hBe⟩ : ∃ B, B = (gA sx 4 2 i).toNatClampNeg := ⟨_, rfl⟩
      rw [← hAe, ← hBe] at eat
      rw [← hAe] at hA
      rw [← hBe] at hB'
      have vat : vpb (nI (16 * A + B)) 256 = true := vpb_nI (by omega) (by omega)
      have cat := nI_clamp (show 16 * A + B < 2 ^ 31 by omega)
      refine ⟨.inl (nI (i + 1), pA sx 6 0 (upd f (16 * A + B) (mx (f (16 * A + B)) (gA sx 4 3 i - nI b * gA sx 4 4 i)))), ?_, _, rfl, ?_, ?_⟩
      · simp only [m_X9_load_L11, gIk, e0, if_neg hg, lAk, sAk, ln4, if_pos hv, cl, a1, a2, a3, a4, a6, nmk, eat, if_pos vat, cat, pA_pA, nI_1]
      · have et : (l.take (i + 1)).map (geI b) = (l.take i).map (geI b) ++ [(A, B, (gA sx 4 3 i - nI b * gA sx 4 4 i).toInt)] := by
          rw [List.take_succ_eq_append_getElem hi, List.map_append, sw, hAe, hBe]
          congr 1
          show [geI b l[i]] = _
          rw [el]
          rfl
        rw [et]
        exact wo_add hn hA hB' (by rw [sw]; omega) (hB _ (by omega)).1 hW
      · intro q hq
        rw [upd_i]
        by_cases c : q = 16 * A + B
        · rw [if_pos c, mx_toInt, sw]
          have := hB (16 * A + B) (by omega)
          split <;> omega
        · rw [if_neg c]; exact hB q hq) (by
      rintro s ⟨f, rfl, hW, hB⟩
      have e0 : gI (pA sx 6 0 f) 4 0 = nI l.length := hl.1
      refine ⟨.inr (pA sx 6 0 f), ?_, f, rfl, ?_, hB⟩
      · simp only [m_X9_load_L11, gIk, e0, if_pos (Int32.le_refl _)]
      · rw [List.take_length] at hW; exact hW) FU 0 (nI 0, pA sx 6 0 (filF 256 (-1000000) (gA sx 6 0))) (by omega) (FU_lt (by omega)) ⟨_, rfl, by
        refine ⟨fun e he => ?_, fun a b z h => ?_⟩
        · rw [List.take_zero] at he; exact absurd he List.not_mem_nil
        · obtain ⟨h1, h2, h3, -⟩ := maN_some h
          refine absurd ?_ h3
          show filF 256 (-1000000) (gA sx 6 0) (16 * a + b) = -1000000
          unfold filF
          rw [if_pos (by omega)], by
        intro q hq
        unfold filF
        rw [if_pos hq, tA]
        omega⟩
  obtain ⟨r, hr, f, rfl, h1, h2⟩ := hI
  refine ⟨f, ?_, h1, h2⟩
  simp only [m_X9_load, fill_eq 6 0 256 (-1000000) (by omega), clk_some, nmk, lpk, show (0 : Int32) = nI 0 from rfl, hr]
def rowF (a v m : Nat) (h : Int32) (f : Nat → Int32) : Nat → Int32 := fun q => if 16 * a ≤ q ∧ q < 16 * a + m then (if f (16 * v + (q - 16 * a)) = -1000000 then f q else mx (f q) (h + f (16 * v + (q - 16 * a)))) else f q
theorem rowF_0 (a v : Nat) (h : Int32) (f : Nat → Int32) : rowF a v 0 h f = f := by
  funext q
  unfold rowF
  rw [if_neg (by omega)]
theorem rowF_at {a v m : Nat} {h : Int32} {f : Nat → Int32} {w : Nat} (hw : ¬ w < m) (hw2 : w < 16) (hm : m ≤ 16) (u : Nat) : rowF a v m h f (16 * u + w) = f (16 * u + w) := by
  unfold rowF
  rw [if_neg (by omega)]
theorem rowF_s (a v m : Nat) (h : Int32) (f : Nat → Int32) (x : Int32) (hx : x = if f (16 * v + m) = -1000000 then f (16 * a + m) else mx (f (16 * a + m)) (h + f (16 * v + m))) : upd (rowF a v m h f) (16 * a + m) x = rowF a v (m + 1) h f := by
  funext q
  rw [upd_i]
  by_cases c : q = 16 * a + m
  · rw [if_pos c, hx, c]
    unfold rowF
    have hc : 16 * a ≤ 16 * a + m ∧ 16 * a + m < 16 * a + (m + 1) := by omega
    rw [if_pos hc, show 16 * a + m - 16 * a = m by omega]
  · rw [if_neg c]
    unfold rowF
    by_cases d : 16 * a ≤ q ∧ q < 16 * a + m
    · have hc : 16 * a ≤ q ∧ q < 16 * a + (m + 1) := by omega
      rw [if_pos d, if_pos hc]
    · have hc : ¬ (16 * a ≤ q ∧ q < 16 * a + (m + 1)) := by omega
      rw [if_neg d, if_neg hc]
theorem joinRow_eq {sx : Sg} {n a v : Nat} (hn : n ≤ 16) (ha : a < 16) (hv : v < 16) (h : Int32) (f : Nat → Int32) : m_X9_joinRow (nI a) h (nI v) (nI n) (pA sx 6 1 f) = some ((), pA sx 6 1 (rowF a v n h f)) := by
  have hI := ok_for (step := fun s : (Int32 × Sg) => m_X9_joinRow_L3 (nI a) h (nI v) (nI n) s.1 s.2) (Q := fun r => r = pA sx 6 1 (rowF a v n h f)) n (fun i s => s = (nI i, pA sx 6 1 (rowF a v i h f))) (by
      rintro i s hi rfl
      have hg : ¬ nI n ≤ nI i := nI_ge hi (by omega)
      have a6 : gA (pA sx 6 1 (rowF a v i h f)) 6 1 = rowF a v i h f := rfl
      have v1 : vpb (nI (16 * v + i)) 256 = true := vpb_nI (by omega) (by omega)
      have v2 : vpb (nI (16 * a + i)) 256 = true := vpb_nI (by omega) (by omega)
      have c1 := nI_clamp (show 16 * v + i < 2 ^ 31 by omega)
      have c2 := nI_clamp (show 16 * a + i < 2 ^ 31 by omega)
      have r1 := rowF_at (a := a) (v := v) (h := h) (f := f) (Nat.lt_irrefl i) (by omega : i < 16) (by omega) v
      have r2 := rowF_at (a := a) (v := v) (h := h) (f := f) (Nat.lt_irrefl i) (by omega : i < 16) (by omega) a
      refine ⟨.inl (nI (i + 1), pA sx 6 1 (rowF a v (i + 1) h f)), ?_, rfl⟩
      by_cases c : f (16 * v + i) = -1000000
      · have e : rowF a v (i + 1) h f = rowF a v i h f := by
          rw [← rowF_s a v i h f (f (16 * a + i)) (by rw [if_pos c])]
          exact upd_none _ _ _ r2
        simp only [m_X9_joinRow_L3, if_neg hg, lAk, nI_16, if_pos v1, c1, a6, r1, nmk, if_pos c, e, nI_1]
      · have e := rowF_s a v i h f (mx (f (16 * a + i)) (h + f (16 * v + i))) (by rw [if_neg c])
        simp only [m_X9_joinRow_L3, if_neg hg, lAk, sAk, nI_16, if_pos v1, if_pos v2, c1, c2, a6, r1, r2, nmk, if_neg c, pA_pA, e, nI_1]) (by
      rintro s rfl
      exact ⟨.inr _, by simp only [m_X9_joinRow_L3, if_pos (Int32.le_refl _)], rfl⟩) FU 0 (nI 0, pA sx 6 1 f) (by omega) (FU_lt (by omega)) (by rw [rowF_0])
  obtain ⟨r, hr, rfl⟩ := hI
  simp only [m_X9_joinRow, nmk, lpk, show (0 : Int32) = nI 0 from rfl, hr]
