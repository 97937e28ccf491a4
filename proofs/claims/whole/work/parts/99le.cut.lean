-- 99le.cut: a plain run's trace; its rows at a cut, slot by slot
/-- a plain run's trace: ends Ep, rows Rt ahead of each act, the stop (tc, ac) and its kind -/
def TrX (s0 : Sg) (Ep : Nat → Int64) (Rt : Nat → Nat → Nat → Int64) (n K tc ac : Nat) (kd : Int32) : Prop := (∀ q x, q < 4 → x < 16 → Ep (16 * q + x) = gL s0 1 9 x) ∧ (∀ u, u < tc → Rt (u + 1) 0 = Rt u n) ∧ (∀ x u, x < n → (u < tc ∨ (u = tc ∧ x < ac)) → EvX s0 Ep (Rt u x) (Rt u (x + 1)) x u) ∧ ((kd = 0 ∧ tc = K ∧ ac = 0) ∨ (tc < K ∧ ac < n ∧ ¬ kd = 0 ∧ opW (gA s0 1 1) (gA s0 1 5) (gA s0 5 0) (gA s0 5 1) ac (tkX Ep (gA s0 1 6) (gA s0 1 7) ac 0 tc) (tkX Ep (gA s0 1 6) (gA s0 1 7) ac 1 tc) = kd))
theorem pf_tr {j : Nat} {s0 s : Sg} {Rt : Nat → Nat → Nat → Int64} {n K tc ac : Nat} (h : PF j s0 s Rt n K tc ac) : TrX s0 (gL s 13 3) Rt n K tc ac (gI s j 0) := by
  obtain ⟨-, p1, -, -, p4, p5, q⟩ := h
  refine ⟨p1, p4, p5, ?_⟩
  rcases q with ⟨q1, q2, q3, -, -⟩ | ⟨q1, q2, q3, -, -, q6⟩
  · exact Or.inl ⟨q1, q2, q3⟩
  · exact Or.inr ⟨q1, q2, q3, q6⟩
theorem tr_stop {s0 : Sg} {Ep : Nat → Int64} {Rt : Nat → Nat → Nat → Int64} {n K tc ac : Nat} {kd : Int32} (h : TrX s0 Ep Rt n K tc ac kd) : (tc = K ∧ ac = 0) ∨ (tc < K ∧ ac < n) := by
  obtain ⟨-, -, -, q⟩ := h
  rcases q with ⟨-, q2, q3⟩ | ⟨q1, q2, -, -⟩
  · exact Or.inl ⟨q2, q3⟩
  · exact Or.inr ⟨q1, q2⟩
section CT
variable {s0 : Sg} {n K tc ac sl : Nat} {kd : Int32} {Ep : Nat → Int64} {Rt : Nat → Nat → Nat → Int64}
theorem rt_cut (hC : XC s0 n) (hT : TrX s0 Ep Rt n K tc ac kd) {pu px : Nat} (hpx : px ≤ n) : ∀ (d qx : Nat), (d = 0 → px ≤ qx) → qx ≤ n → (pu + d < tc ∨ (pu + d = tc ∧ qx ≤ ac)) → (∀ c u, c < n → gA s0 1 1 c = 5 → (gA s0 1 5 c).toNatClampNeg = sl → ¬ (u < pu ∨ (u = pu ∧ c < px)) → (u < pu + d ∨ (u = pu + d ∧ c < qx)) → False) → ∀ i, i < 40 → Rt (pu + d) qx (40 * sl + i) = Rt pu px (40 * sl + i) := by
  obtain ⟨-, t2, t3, -⟩ := hT
  intro d
  induction d with
  | zero =>
    intro qx h1 h2 h3 h4 i hi
    obtain ⟨e, he⟩ : ∃ e, qx = px + e := ⟨qx - px, by have := h1 rfl; omega⟩
    subst he
    exact rt_turn (E := Ep) hC e px h2 (fun y y1 y2 => ⟨t3 y pu (by omega) (by omega), fun q => h4 y pu (by omega) q.1 q.2 (by omega) (by omega)⟩) i hi
  | succ d ih =>
    intro qx h1 h2 h3 h4 i hi
    have r := rt_turn hC (E := Ep) (u := pu + (d + 1)) (sl := sl) (Rt := Rt) qx 0 (by omega) (fun y y1 y2 => ⟨t3 y _ (by omega) (by omega), fun q => h4 y (pu + (d + 1)) (by omega) q.1 q.2 (by omega) (by omega)⟩) i hi
    rw [Nat.zero_add] at r
    rw [r, show pu + (d + 1) = (pu + d) + 1 by omega, t2 (pu + d) (by omega)]
    exact ih n (fun _ => hpx) (Nat.le_refl _) (Or.inl (by omega)) (fun c u hc c5 cs k1 k2 => h4 c u hc c5 cs k1 (by omega)) i hi
/-- a place between two acts that the plain run came to -/
def CutX (n tc ac pu px : Nat) : Prop := px ≤ n ∧ (pu < tc ∨ (pu = tc ∧ px ≤ ac))
theorem rt_same (hC : XC s0 n) (hT : TrX s0 Ep Rt n K tc ac kd) {pu px qu qx : Nat} (hp : CutX n tc ac pu px) (hq : CutX n tc ac qu qx) (h : ∀ c u, c < n → u < K → gA s0 1 1 c = 5 → (gA s0 1 5 c).toNatClampNeg = sl → ((u < pu ∨ (u = pu ∧ c < px)) ↔ (u < qu ∨ (u = qu ∧ c < qx)))) : ∀ i, i < 40 → Rt qu qx (40 * sl + i) = Rt pu px (40 * sl + i) := by
  have hs := tr_stop hT
  obtain ⟨p1, p2⟩ := hp
  obtain ⟨q1, q2⟩ := hq
  intro i hi
  by_cases c : pu < qu ∨ (pu = qu ∧ px ≤ qx)
  · obtain ⟨d, hd⟩ : ∃ d, qu = pu + d := ⟨qu - pu, by omega⟩
    subst hd
    exact rt_cut hC hT p1 d qx (by omega) q1 q2 (fun x u hx x5 xs k1 k2 => k1 ((h x u hx (by omega) x5 xs).mpr k2)) i hi
  · obtain ⟨d, hd⟩ : ∃ d, pu = qu + d := ⟨pu - qu, by omega⟩
    subst hd
    exact (rt_cut hC hT q1 d px (by omega) p1 p2 (fun x u hx x5 xs k1 k2 => k1 ((h x u hx (by omega) x5 xs).mp k2)) i hi).symm
end CT
theorem opW_sort {sort slot size wide : Nat → Int32} {a : Nat} {X Y : Int64} (h : ¬ opW sort slot size wide a X Y = 0) : sort a = 3 ∨ sort a = 4 ∨ sort a = 5 := by
  unfold opW at h
  by_cases c : sort a = 4 ∨ sort a = 5
  · exact Or.inr c
  · rw [if_neg c] at h
    by_cases d : sort a = 3 ∧ Y = 0
    · exact Or.inl d.1
    · rw [if_neg d] at h
      exact absurd rfl h
/-- the value hangs on the rows at the act's own place alone -/
theorem opV_rows {sort slot size wide : Nat → Int32} {number : Nat → Int64} {a : Nat} {X Y Z : Int64} {R R' : Nat → Int64} (hsl : sort a = 4 ∨ sort a = 5 → inR (slot a) 0 7) (hsz : ∀ k, k < 8 → inR (size k) 0 40) (hw : opW sort slot size wide a X Y = 0) (h : sort a = 4 ∨ sort a = 5 → ∀ i, i < 40 → R (40 * (slot a).toNatClampNeg + i) = R' (40 * (slot a).toNatClampNeg + i)) : opV sort slot number a X Y Z R = opV sort slot number a X Y Z R' := by
  have key : sort a = 4 ∨ sort a = 5 → R (plN slot a X) = R' (plN slot a X) := fun c => by
    have hs := hsl c
    have cs := fx_cl hs.1
    unfold opW at hw
    rw [if_pos c] at hw
    have hp := why_place hw (hsz _ (by have := hs.2; omega))
    exact h c _ (by omega)
  unfold opV
  by_cases c4 : sort a = 4
  · rw [if_pos c4, if_pos c4, key (Or.inl c4)]
  rw [if_neg c4, if_neg c4]
  by_cases c5 : sort a = 5
  · rw [if_pos c5, if_pos c5, key (Or.inr c5)]
  · rw [if_neg c5, if_neg c5]
theorem opR_own {sort slot : Nat → Int32} {a sl i : Nat} {X Y : Int64} {R R' : Nat → Int64} (h : R (40 * sl + i) = R' (40 * sl + i)) : opR sort slot a X Y R (40 * sl + i) = opR sort slot a X Y R' (40 * sl + i) := by
  unfold opR
  by_cases c : sort a = 5
  · rw [if_pos c, if_pos c, updL_i, updL_i, h]
  · rw [if_neg c, if_neg c, h]
