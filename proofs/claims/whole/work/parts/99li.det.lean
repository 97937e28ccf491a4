-- 99li.det: two plain runs from the same rows are the same
section DT
variable {s0 : Sg} {Ep Ey : Nat → Int64} {Rt Ru : Nat → Nat → Nat → Int64} {n K tc ac td ad : Nat} {kd ke : Int32}
theorem det_step (hC : XC s0 n) (hT : TrX s0 Ep Rt n K tc ac kd) (hU : TrX s0 Ey Ru n K td ad ke) {u x : Nat} (hx : x < n) (h1 : u < tc ∨ (u = tc ∧ x < ac)) (h2 : u < td ∨ (u = td ∧ x < ad)) (hr : ∀ sl i, sl < 8 → i < 40 → Rt u x (40 * sl + i) = Ru u x (40 * sl + i)) (he : ∀ y v, y < n → (v < u ∨ (v = u ∧ y < x)) → Ep (16 * (4 + v) + y) = Ey (16 * (4 + v) + y)) : (∀ sl i, sl < 8 → i < 40 → Rt u (x + 1) (40 * sl + i) = Ru u (x + 1) (40 * sl + i)) ∧ Ep (16 * (4 + u) + x) = Ey (16 * (4 + u) + x) := by
  obtain ⟨t1, t2, t3, t4⟩ := hT
  obtain ⟨u1, u2, u3, u4⟩ := hU
  obtain ⟨a1, a2, a3⟩ := t3 x u hx h1
  obtain ⟨c1, c2, c3⟩ := u3 x u hx h2
  have hA := hC.2.2.2.1 x hx
  have hsz := hC.2.2.2.2.1
  have tk : ∀ w, w < 3 → 0 ≤ (gA s0 1 6 (3 * x + w)).toInt → tkX Ep (gA s0 1 6) (gA s0 1 7) x w u = tkX Ey (gA s0 1 6) (gA s0 1 7) x w u := fun w hw h0 => tk_same hC hx hw h0 (fun q y hq hy => (t1 q y hq hy).trans (u1 q y hq hy).symm) (fun y v hy hv _ => he y v hy hv)
  obtain ⟨g1, g2, g3⟩ := op_congr (size := gA s0 5 0) (wide := gA s0 5 1) (number := gL s0 1 8) hA (tk 0 (by omega)) (tk 1 (by omega)) (tk 2 (by omega))
  refine ⟨fun sl i hsl hi => ?_, ?_⟩
  · rw [a3, c3, g3]
    exact opR_own (hr sl i hsl hi)
  · rw [a2, c2, g2]
    refine opV_rows hA.2.1 hsz c1 (fun c i hi => hr _ i ?_ hi)
    have hs := hA.2.1 c
    have cs := fx_cl hs.1
    have := hs.2
    omega
theorem det_at (hC : XC s0 n) (hT : TrX s0 Ep Rt n K tc ac kd) (hU : TrX s0 Ey Ru n K td ad ke) (h0 : ∀ sl i, sl < 8 → i < 40 → Rt 0 0 (40 * sl + i) = Ru 0 0 (40 * sl + i)) : ∀ u x, CutX n tc ac u x → CutX n td ad u x → (∀ sl i, sl < 8 → i < 40 → Rt u x (40 * sl + i) = Ru u x (40 * sl + i)) ∧ ∀ y v, y < n → (v < u ∨ (v = u ∧ y < x)) → Ep (16 * (4 + v) + y) = Ey (16 * (4 + v) + y) := by
  have row : ∀ u, ((∀ sl i, sl < 8 → i < 40 → Rt u 0 (40 * sl + i) = Ru u 0 (40 * sl + i)) ∧ ∀ y v, y < n → v < u → Ep (16 * (4 + v) + y) = Ey (16 * (4 + v) + y)) → ∀ x, CutX n tc ac u x → CutX n td ad u x → (∀ sl i, sl < 8 → i < 40 → Rt u x (40 * sl + i) = Ru u x (40 * sl + i)) ∧ ∀ y v, y < n → (v < u ∨ (v = u ∧ y < x)) → Ep (16 * (4 + v) + y) = Ey (16 * (4 + v) + y) := by
    intro u hu x
    induction x with
    | zero =>
      intro _ _
      exact ⟨hu.1, fun y v hy hv => hu.2 y v hy (by omega)⟩
    | succ x ih =>
      intro c1 c2
      obtain ⟨c3, c4⟩ := c1
      obtain ⟨c5, c6⟩ := c2
      obtain ⟨i1, i2⟩ := ih ⟨by omega, by omega⟩ ⟨by omega, by omega⟩
      obtain ⟨k1, k2⟩ := det_step hC hT hU (show x < n by omega) (by omega) (by omega) i1 i2
      refine ⟨k1, fun y v hy hv => ?_⟩
      by_cases c : v = u ∧ y = x
      · obtain ⟨rfl, rfl⟩ := c
        exact k2
      · exact i2 y v hy (by omega)
  intro u
  induction u with
  | zero => exact row 0 ⟨h0, fun y v _ hv => absurd hv (Nat.not_lt_zero v)⟩
  | succ u ih =>
    intro x c1 c2
    obtain ⟨i1, i2⟩ := ih n ⟨Nat.le_refl _, Or.inl (by have := c1.2; omega)⟩ ⟨Nat.le_refl _, Or.inl (by have := c2.2; omega)⟩
    refine row (u + 1) ⟨?_, fun y v hy hv => i2 y v hy (by omega)⟩ x c1 c2
    rw [hT.2.1 u (by have := c1.2; omega), hU.2.1 u (by have := c2.2; omega)]
    exact i1
theorem det_stop (hC : XC s0 n) (hT : TrX s0 Ep Rt n K tc ac kd) (hU : TrX s0 Ey Ru n K td ad ke) (h0 : ∀ sl i, sl < 8 → i < 40 → Rt 0 0 (40 * sl + i) = Ru 0 0 (40 * sl + i)) (hlt : tc < td ∨ (tc = td ∧ ac < ad)) : False := by
  have hs := tr_stop hT
  have hs2 := tr_stop hU
  obtain ⟨t1, t2, t3, t4⟩ := id hT
  obtain ⟨u1, u2, u3, u4⟩ := id hU
  rcases t4 with ⟨y1, y2, y3⟩ | ⟨y1, y2, y3, y4⟩
  · omega
  obtain ⟨-, he⟩ := det_at hC hT hU h0 tc ac ⟨by omega, Or.inr ⟨rfl, Nat.le_refl _⟩⟩ ⟨by omega, by omega⟩
  have tk : ∀ w, w < 3 → 0 ≤ (gA s0 1 6 (3 * ac + w)).toInt → tkX Ep (gA s0 1 6) (gA s0 1 7) ac w tc = tkX Ey (gA s0 1 6) (gA s0 1 7) ac w tc := fun w hw h0 => tk_same hC y2 hw h0 (fun q y hq hy => (t1 q y hq hy).trans (u1 q y hq hy).symm) (fun y v hy hv _ => he y v hy hv)
  obtain ⟨g1, g2, g3⟩ := op_congr (size := gA s0 5 0) (wide := gA s0 5 1) (number := gL s0 1 8) (hC.2.2.2.1 ac y2) (tk 0 (by omega)) (tk 1 (by omega)) (tk 2 (by omega))
  obtain ⟨v1, -, -⟩ := u3 ac tc y2 hlt
  rw [y4, v1] at g1
  exact y3 g1
theorem tr_det (hC : XC s0 n) (hT : TrX s0 Ep Rt n K tc ac kd) (hU : TrX s0 Ey Ru n K td ad ke) (h0 : ∀ sl i, sl < 8 → i < 40 → Rt 0 0 (40 * sl + i) = Ru 0 0 (40 * sl + i)) : tc = td ∧ ac = ad ∧ kd = ke ∧ (∀ sl i, sl < 8 → i < 40 → Rt tc ac (40 * sl + i) = Ru tc ac (40 * sl + i)) ∧ ∀ y v, y < n → (v < tc ∨ (v = tc ∧ y < ac)) → Ep (16 * (4 + v) + y) = Ey (16 * (4 + v) + y) := by
  have n1 : ¬ (tc < td ∨ (tc = td ∧ ac < ad)) := fun k => det_stop hC hT hU h0 k
  have n2 : ¬ (td < tc ∨ (td = tc ∧ ad < ac)) := fun k => det_stop hC hU hT (fun sl i hsl hi => (h0 sl i hsl hi).symm) k
  have e1 : td = tc := by omega
  have e2 : ad = ac := by omega
  subst e1 e2
  have hs := tr_stop hT
  have hn0 := hC.2.2.1
  obtain ⟨hr, he⟩ := det_at hC hT hU h0 td ad ⟨by omega, Or.inr ⟨rfl, Nat.le_refl _⟩⟩ ⟨by omega, Or.inr ⟨rfl, Nat.le_refl _⟩⟩
  refine ⟨rfl, rfl, ?_, hr, he⟩
  obtain ⟨t1, t2, t3, t4⟩ := id hT
  obtain ⟨u1, u2, u3, u4⟩ := id hU
  rcases t4 with ⟨y1, y2, y3⟩ | ⟨y1, y2, y3, y4⟩
  · rcases u4 with ⟨z1, z2, z3⟩ | ⟨z1, z2, z3, z4⟩
    · rw [y1, z1]
    · omega
  · rcases u4 with ⟨z1, z2, z3⟩ | ⟨z1, z2, z3, z4⟩
    · omega
    · have tk : ∀ w, w < 3 → 0 ≤ (gA s0 1 6 (3 * ad + w)).toInt → tkX Ep (gA s0 1 6) (gA s0 1 7) ad w td = tkX Ey (gA s0 1 6) (gA s0 1 7) ad w td := fun w hw h0 => tk_same hC y2 hw h0 (fun q y hq hy => (t1 q y hq hy).trans (u1 q y hq hy).symm) (fun y v hy hv _ => he y v hy hv)
      obtain ⟨g1, g2, g3⟩ := op_congr (size := gA s0 5 0) (wide := gA s0 5 1) (number := gL s0 1 8) (hC.2.2.2.1 ad y2) (tk 0 (by omega)) (tk 1 (by omega)) (tk 2 (by omega))
      rw [y4, z4] at g1
      exact g1
end DT
