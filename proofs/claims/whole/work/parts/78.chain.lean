-- 78.chain: chains among acts one more at a time: the numbers of it
def mxF (g : Nat → Option Int) : Nat → Option Int
  | 0 => none
  | k + 1 => match g k with
    | none => mxF g k
    | some x => some (mxO (mxF g k) x)
theorem mxF_ge {g : Nat → Option Int} : ∀ {k l : Nat} {x : Int}, l < k → g l = some x → ∃ z, mxF g k = some z ∧ x ≤ z
  | 0, l, _, h, _ => absurd h (Nat.not_lt_zero l)
  | k + 1, l, x, h, hx => by
    unfold mxF
    by_cases e : l = k
    · subst e
      rw [hx]
      exact ⟨_, rfl, mxO_ge2 _ _⟩
    · obtain ⟨z, z1, z2⟩ := mxF_ge (g := g) (k := k) (l := l) (by omega) hx
      cases g k with
      | none => exact ⟨z, z1, z2⟩
      | some y => exact ⟨_, rfl, Int.le_trans z2 (mxO_ge z1)⟩
theorem mxF_or {g : Nat → Option Int} : ∀ {k : Nat} {z : Int}, mxF g k = some z → ∃ l, l < k ∧ g l = some z
  | 0, z, h => by cases h
  | k + 1, z, h => by
    unfold mxF at h
    cases e : g k with
    | none =>
      rw [e] at h
      obtain ⟨l, h1, h2⟩ := mxF_or h
      exact ⟨l, by omega, h2⟩
    | some y =>
      rw [e] at h
      have h3 : mxO (mxF g k) y = z := Option.some.inj h
      rcases mxO_or (mxF g k) y with q | q
      · rw [h3] at q
        obtain ⟨l, h1, h2⟩ := mxF_or q
        exact ⟨l, by omega, h2⟩
      · rw [h3] at q
        exact ⟨k, by omega, by rw [e, q]⟩
theorem mxF_congr {g h : Nat → Option Int} : ∀ {k : Nat}, (∀ l, l < k → g l = h l) → mxF g k = mxF h k
  | 0, _ => rfl
  | k + 1, e => by
    unfold mxF
    rw [mxF_congr (g := g) (h := h) (k := k) (fun l hl => e l (by omega)), e k (by omega)]
def adO (x y : Option Int) : Option Int := match x, y with
  | some a, some b => some (a + b)
  | _, _ => none
theorem adO_some {x y : Option Int} {z : Int} (h : adO x y = some z) : ∃ a b, x = some a ∧ y = some b ∧ z = a + b := by
  unfold adO at h
  cases x with
  | none => cases h
  | some a =>
    cases y with
    | none => cases h
    | some b => exact ⟨a, b, rfl, rfl, (Option.some.inj h).symm⟩
theorem adO_mk {x y : Option Int} {a b : Int} (h1 : x = some a) (h2 : y = some b) : adO x y = some (a + b) := by
  subst h1 h2; rfl
/-- the longest chain from j to the new act m, and from m to l -/
def inO (C W : Nat → Nat → Option Int) (m j : Nat) : Option Int := mxF (fun l => adO (C j l) (W l m)) m
def ouO (C W : Nat → Nat → Option Int) (m l : Nat) : Option Int := mxF (fun j => adO (W m j) (C j l)) m
def neO (C W : Nat → Nat → Option Int) (m : Nat) (j l : Nat) : Option Int := if j = m then (if l = m then some 0 else ouO C W m l) else if l = m then inO C W m j else C j l
/-- what the chains among m acts are -/
def CLv (m : Nat) (W C : Nat → Nat → Option Int) : Prop := ClO m m C ∧ baO m W C ∧ (∀ q, snO m q W → snO m q C) ∧ (∀ j, j < m → C j j = some 0) ∧ ∀ j l, j < m → l < m → ∀ x, C j l = some x → 290 - 290 * (cnB (pvO C j l) m : Int) ≤ x
def RgO (C W : Nat → Nat → Option Int) (m : Nat) : Prop := ∃ j l x y z, j < m ∧ l < m ∧ W m j = some x ∧ C j l = some y ∧ W l m = some z ∧ 0 < x + y + z
section CL
variable {m : Nat} {W C : Nat → Nat → Option Int}
theorem ne_mm : neO C W m m m = some 0 := by unfold neO; rw [if_pos rfl, if_pos rfl]
theorem ne_jm {j : Nat} (h : j < m) : neO C W m j m = inO C W m j := by unfold neO; rw [if_neg (by omega), if_pos rfl]
theorem ne_ml {l : Nat} (h : l < m) : neO C W m m l = ouO C W m l := by unfold neO; rw [if_pos rfl, if_neg (by omega)]
theorem ne_jl {j l : Nat} (h : j < m) (h2 : l < m) : neO C W m j l = C j l := by unfold neO; rw [if_neg (by omega), if_neg (by omega)]
theorem in_or {j : Nat} {z : Int} (h : inO C W m j = some z) : ∃ l a b, l < m ∧ C j l = some a ∧ W l m = some b ∧ z = a + b := by
  obtain ⟨l, h1, h2⟩ := mxF_or h
  obtain ⟨a, b, e1, e2, e3⟩ := adO_some h2
  exact ⟨l, a, b, h1, e1, e2, e3⟩
theorem ou_or {l : Nat} {z : Int} (h : ouO C W m l = some z) : ∃ j a b, j < m ∧ W m j = some a ∧ C j l = some b ∧ z = a + b := by
  obtain ⟨j, h1, h2⟩ := mxF_or h
  obtain ⟨a, b, e1, e2, e3⟩ := adO_some h2
  exact ⟨j, a, b, h1, e1, e2, e3⟩
theorem in_ge {j l : Nat} {a b : Int} (hl : l < m) (h1 : C j l = some a) (h2 : W l m = some b) : ∃ z, inO C W m j = some z ∧ a + b ≤ z := mxF_ge hl (adO_mk h1 h2)
theorem ou_ge {j l : Nat} {a b : Int} (hj : j < m) (h1 : W m j = some a) (h2 : C j l = some b) : ∃ z, ouO C W m l = some z ∧ a + b ≤ z := mxF_ge hj (adO_mk h1 h2)
/-- no ring: what goes out of m and back in isn't more than 0 -/
theorem io_le (h : CLv m W C) (hr : ¬ RgO C W m) {v : Nat} (hv : v < m) {x y : Int} (hx : ouO C W m v = some x) (hy : inO C W m v = some y) : x + y ≤ 0 := by
  obtain ⟨j, a, b, hj, a1, a2, a3⟩ := ou_or hx
  obtain ⟨l, c, d, hl, c1, c2, c3⟩ := in_or hy
  obtain ⟨z, z1, z2⟩ := h.1 v hv j l hj hl b c a2 c1
  refine Classical.byContradiction fun no => hr ⟨j, l, a, z, d, hj, hl, a1, z1, c2, by omega⟩
theorem ne_cl (h : CLv m W C) (hr : ¬ RgO C W m) : ClO (m + 1) m (neO C W m) := by
  intro v hv a b ha hb x y hx hy
  by_cases ea : a = m
  · subst ea
    rw [ne_ml hv] at hx
    by_cases eb : b = a
    · subst eb
      rw [ne_jm hv] at hy
      exact ⟨0, ne_mm, io_le h hr hv hx hy⟩
    · rw [ne_jl hv (by omega)] at hy
      obtain ⟨j, p, q, hj, p1, p2, p3⟩ := ou_or hx
      obtain ⟨z, z1, z2⟩ := h.1 v hv j b hj (by omega) q y p2 hy
      obtain ⟨w, w1, w2⟩ := ou_ge hj p1 z1
      exact ⟨w, by rw [ne_ml (by omega)]; exact w1, by omega⟩
  · rw [ne_jl (by omega) hv] at hx
    by_cases eb : b = m
    · subst eb
      rw [ne_jm hv] at hy
      obtain ⟨l, p, q, hl, p1, p2, p3⟩ := in_or hy
      obtain ⟨z, z1, z2⟩ := h.1 v hv a l (by omega) hl x p hx p1
      obtain ⟨w, w1, w2⟩ := in_ge hl z1 p2
      exact ⟨w, by rw [ne_jm (by omega)]; exact w1, by omega⟩
    · rw [ne_jl hv (by omega)] at hy
      rw [ne_jl (by omega) (by omega)]
      exact h.1 v hv a b (by omega) (by omega) x y hx hy
theorem ne_sn (h : CLv m W C) {q : Nat → Int} (hq : snO (m + 1) q W) : snO (m + 1) q (neO C W m) := by
  have hC := h.2.2.1 q (fun a b ha hb x hx => hq a b (by omega) (by omega) x hx)
  intro a b ha hb x hx
  by_cases ea : a = m
  · subst ea
    by_cases eb : b = a
    · subst eb
      rw [ne_mm] at hx
      have := Option.some.inj hx
      omega
    · rw [ne_ml (by omega)] at hx
      obtain ⟨j, p, r, hj, p1, p2, p3⟩ := ou_or hx
      have e1 := hq a j (by omega) (by omega) p p1
      have e2 := hC j b hj (by omega) r p2
      omega
  · by_cases eb : b = m
    · subst eb
      rw [ne_jm (by omega)] at hx
      obtain ⟨l, p, r, hl, p1, p2, p3⟩ := in_or hx
      have e1 := hC a l (by omega) hl p p1
      have e2 := hq l b (by omega) (by omega) r p2
      omega
    · rw [ne_jl (by omega) (by omega)] at hx
      exact hC a b (by omega) (by omega) x hx
theorem ne_ba (h : CLv m W C) (hd : ∀ x, W m m = some x → x ≤ 0) : baO (m + 1) W (neO C W m) := by
  intro a b ha hb x hx
  by_cases ea : a = m
  · subst ea
    by_cases eb : b = a
    · subst eb
      exact ⟨0, ne_mm, hd x hx⟩
    · rw [ne_ml (by omega)]
      obtain ⟨z, z1, z2⟩ := ou_ge (m := a) (by omega) hx (h.2.2.2.1 b (by omega))
      exact ⟨z, z1, by omega⟩
  · by_cases eb : b = m
    · subst eb
      rw [ne_jm (by omega)]
      obtain ⟨z, z1, z2⟩ := in_ge (m := b) (by omega) (h.2.2.2.1 a (by omega)) hx
      exact ⟨z, z1, by omega⟩
    · rw [ne_jl (by omega) (by omega)]
      exact h.2.1 a b (by omega) (by omega) x hx
theorem fw_d0 (h : CLv m W C) (hr : ¬ RgO C W m) {j : Nat} (hj : j < m + 1) : fwO m (neO C W m) j j = some 0 := by
  by_cases e : j = m
  · subst e
    rw [fw_row (fun x hx => by rw [ne_mm] at hx; have := Option.some.inj hx; omega), ne_mm]
  · have e0 : neO C W m j j = some 0 := by rw [ne_jl (by omega) (by omega)]; exact h.2.2.2.1 j (by omega)
    unfold fwO
    rw [ne_jm (by omega), ne_ml (by omega), e0]
    cases e1 : inO C W m j with
    | none => rfl
    | some x =>
      cases e2 : ouO C W m j with
      | none => rfl
      | some y =>
        have := io_le h hr (show j < m by omega) e2 e1
        show some (if (0 : Int) < x + y then x + y else 0) = some 0
        rw [if_neg (by omega)]
theorem fw_low (h : CLv m W C) (hr : ¬ RgO C W m) (hw : ∀ a b, a < m + 1 → b < m + 1 → ∀ x, W a b = some x → -290 ≤ x) : ∀ j l, j < m + 1 → l < m + 1 → ∀ x, fwO m (neO C W m) j l = some x → 290 - 290 * (cnB (pvO (fwO m (neO C W m)) j l) (m + 1) : Int) ≤ x := by
  obtain ⟨N, hN⟩ : ∃ N, N = neO C W m := ⟨_, rfl⟩
  obtain ⟨D, hD⟩ : ∃ D, D = fwO m N := ⟨_, rfl⟩
  rw [← hN, ← hD]
  have dm : ∀ x, N m m = some x → x ≤ 0 := fun x hx => by rw [hN, ne_mm] at hx; have := Option.some.inj hx; omega
  have n0 : N m m = some 0 := by rw [hN, ne_mm]
  have low := h.2.2.2.2
  have mon : ∀ j l, cnB (pvO N j l) (m + 1) ≤ cnB (pvO D j l) (m + 1) := fun j l => cn_mono (fun v _ q => by rw [hD]; exact fw_pv q)
  have add1 : ∀ j l x y, N j m = some x → N m l = some y → cnB (pvO N j l) (m + 1) = cnB (pvO N j l) m + 1 := fun j l x y a b => by
    show cnB (pvO N j l) m + (if pvO N j l m = true then 1 else 0) = _
    rw [if_pos (pv_iff.mpr ⟨x, y, a, b⟩)]
  have colm : ∀ j, j < m → ∀ x, N j m = some x → 290 - 290 * (cnB (pvO N j m) (m + 1) : Int) ≤ x := fun j hj x hx => by
    have hx2 := hx
    rw [hN, ne_jm hj] at hx2
    obtain ⟨l, a, b, hl, c1, c2, c3⟩ := in_or hx2
    have e1 := low j l hj hl a c1
    have e2 := hw l m (by omega) (by omega) b c2
    have e3 : cnB (pvO C j l) m ≤ cnB (pvO N j m) m := cn_mono (fun v hv q => by
      obtain ⟨u1, u2, w1, w2⟩ := pv_iff.mp q
      obtain ⟨z, z1, -⟩ := in_ge (m := m) hl w2 c2
      exact pv_iff.mpr ⟨u1, z, by rw [hN, ne_jl hj hv]; exact w1, by rw [hN, ne_jm hv]; exact z1⟩)
    have e5 := add1 j m x 0 hx n0
    omega
  have rowm : ∀ l, l < m → ∀ x, N m l = some x → 290 - 290 * (cnB (pvO N m l) (m + 1) : Int) ≤ x := fun l hl x hx => by
    have hx2 := hx
    rw [hN, ne_ml hl] at hx2
    obtain ⟨j, a, b, hj, c1, c2, c3⟩ := ou_or hx2
    have e1 := low j l hj hl b c2
    have e2 := hw m j (by omega) (by omega) a c1
    have e3 : cnB (pvO C j l) m ≤ cnB (pvO N m l) m := cn_mono (fun v hv q => by
      obtain ⟨u1, u2, w1, w2⟩ := pv_iff.mp q
      obtain ⟨z, z1, -⟩ := ou_ge (m := m) hj c1 w1
      exact pv_iff.mpr ⟨z, u2, by rw [hN, ne_ml hv]; exact z1, by rw [hN, ne_jl hv hl]; exact w2⟩)
    have e5 := add1 m l 0 x n0 hx
    omega
  intro j l hj hl x hx
  have mo := mon j l
  by_cases ej : j = m
  · subst ej
    have hx2 : N j l = some x := by rw [hD, fw_row dm] at hx; exact hx
    by_cases el : l = j
    · subst el
      have e5 := add1 l l 0 0 n0 n0
      rw [n0] at hx2
      have := Option.some.inj hx2
      omega
    · have := rowm l (by omega) x hx2
      omega
  · by_cases el : l = m
    · subst el
      have hx2 : N j l = some x := by rw [hD, fw_col dm] at hx; exact hx
      have := colm j (by omega) x hx2
      omega
    · have hj' : j < m := by omega
      have hl' : l < m := by omega
      have ejl : N j l = C j l := by rw [hN, ne_jl hj' hl']
      cases ec : C j l with
      | some c =>
        have e1 := low j l hj' hl' c ec
        have e2 : cnB (pvO C j l) m ≤ cnB (pvO N j l) m := cn_mono (fun v hv q => by
          obtain ⟨u1, u2, w1, w2⟩ := pv_iff.mp q
          exact pv_iff.mpr ⟨u1, u2, by rw [hN, ne_jl hj' hv]; exact w1, by rw [hN, ne_jl hv hl']; exact w2⟩)
        have e3 : cnB (pvO N j l) m ≤ cnB (pvO N j l) (m + 1) := by
          show cnB (pvO N j l) m ≤ cnB (pvO N j l) m + _
          omega
        obtain ⟨z, z1, z2⟩ := fw_ge (k := m) (D := N) (show N j l = some c by rw [ejl]; exact ec)
        rw [← hD, hx] at z1
        have := Option.some.inj z1
        omega
      | none =>
        rw [hD] at hx
        rcases fw_or hx with p | ⟨x1, x2, p1, p2, p3⟩
        · rw [ejl, ec] at p; cases p
        · have q1 := colm j hj' x1 p1
          have q2 := rowm l hl' x2 p2
          have k1 := add1 j m x1 0 p1 n0
          have k2 := add1 m l 0 x2 n0 p2
          have k3 : cnB (pvO D j l) (m + 1) = cnB (pvO D j l) m + 1 := by
            show cnB (pvO D j l) m + (if pvO D j l m = true then 1 else 0) = _
            rw [if_pos]
            rw [hD]
            exact fw_pv (pv_iff.mpr ⟨x1, x2, p1, p2⟩)
          have k4 := cn_disj (p := pvO N j m) (q := pvO N m l) (r := pvO D j l) (k := m) (fun v hv q => by
              obtain ⟨u1, u2, w1, w2⟩ := pv_iff.mp q
              obtain ⟨y1, r1, -⟩ := fw_ge (k := m) w1
              obtain ⟨y2, r2, -⟩ := fw_via w2 p2
              rw [hD]
              exact pv_iff.mpr ⟨y1, y2, r1, r2⟩) (fun v hv q => by
              obtain ⟨u1, u2, w1, w2⟩ := pv_iff.mp q
              obtain ⟨y1, r1, -⟩ := fw_via p1 w1
              obtain ⟨y2, r2, -⟩ := fw_ge (k := m) w2
              rw [hD]
              exact pv_iff.mpr ⟨y1, y2, r1, r2⟩) (fun v hv q r => by
              obtain ⟨u1, u2, w1, w2⟩ := pv_iff.mp q
              obtain ⟨u3, u4, w3, w4⟩ := pv_iff.mp r
              rw [hN, ne_jl hj' hv] at w1
              rw [hN, ne_jl hv hl'] at w4
              obtain ⟨z, z1, -⟩ := h.1 v hv j l hj' hl' u1 u4 w1 w4
              rw [ec] at z1; cases z1)
          omega
/-- one act more, where no ring closes -/
theorem cl_step (h : CLv m W C) (hr : ¬ RgO C W m) (hd : ∀ x, W m m = some x → x ≤ 0) (hw : ∀ a b, a < m + 1 → b < m + 1 → ∀ x, W a b = some x → -290 ≤ x) : CLv (m + 1) W (fwO m (neO C W m)) := by
  refine ⟨fw_cl (by omega) (ne_cl h hr) (fun x hx => by rw [ne_mm] at hx; have := Option.some.inj hx; omega), fw_ba (ne_ba h hd), fun q hq => fw_sn (by omega) (ne_sn h hq), fun j hj => fw_d0 h hr hj, fw_low h hr hw⟩
theorem cl_ring (h : CLv m W C) (hr : RgO C W m) (q : Nat → Int) : ¬ snO (m + 1) q W := by
  intro hq
  obtain ⟨j, l, x, y, z, hj, hl, h1, h2, h3, h4⟩ := hr
  have hC := h.2.2.1 q (fun a b ha hb x hx => hq a b (by omega) (by omega) x hx)
  have e1 := hq m j (by omega) (by omega) x h1
  have e2 := hC j l hj hl y h2
  have e3 := hq l m (by omega) (by omega) z h3
  omega
theorem cl_0 : CLv 0 W C := ⟨fun v hv => absurd hv (Nat.not_lt_zero v), fun a _ ha => absurd ha (Nat.not_lt_zero a), fun _ _ a _ ha => absurd ha (Nat.not_lt_zero a), fun j hj => absurd hj (Nat.not_lt_zero j), fun j _ hj => absurd hj (Nat.not_lt_zero j)⟩
/-- it speaks of the numbers below m alone -/
theorem cl_congr {W' C' : Nat → Nat → Option Int} (h : CLv m W C) (hW : ∀ a b, a < m → b < m → W' a b = W a b) (hC : ∀ a b, a < m → b < m → C' a b = C a b) : CLv m W' C' := by
  obtain ⟨h1, h2, h3, h4, h5⟩ := h
  refine ⟨fun v hv a b ha hb x y hx hy => ?_, fun a b ha hb x hx => ?_, fun q hq a b ha hb x hx => ?_, fun j hj => ?_, fun j l hj hl x hx => ?_⟩
  · rw [hC a v ha hv] at hx
    rw [hC v b hv hb] at hy
    rw [hC a b ha hb]
    exact h1 v hv a b ha hb x y hx hy
  · rw [hW a b ha hb] at hx
    rw [hC a b ha hb]
    exact h2 a b ha hb x hx
  · rw [hC a b ha hb] at hx
    exact h3 q (fun a b ha hb x hx => hq a b ha hb x (by rw [hW a b ha hb]; exact hx)) a b ha hb x hx
  · rw [hC j j hj hj]; exact h4 j hj
  · rw [hC j l hj hl] at hx
    have e1 := h5 j l hj hl x hx
    have e2 : cnB (pvO C j l) m ≤ cnB (pvO C' j l) m := cn_mono (fun v hv q => by
      obtain ⟨u1, u2, w1, w2⟩ := pv_iff.mp q
      exact pv_iff.mpr ⟨u1, u2, by rw [hC j v hj hv]; exact w1, by rw [hC v l hv hl]; exact w2⟩)
    omega
end CL
