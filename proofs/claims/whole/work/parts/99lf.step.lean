-- 99lf.step: a laid run of the class against a plain run's trace: one act
/-- the refusal that a laid run has told, ahead of act a at tick now -/
def RfX (s : Sg) (n K b : Nat) (B : Nat → Nat) (tc ac : Nat) (kd : Int32) (now a lim : Nat) : Prop := (gI s 15 0 = 0 ∧ gI s 15 1 = -1 ∧ gI s 15 2 = -1 ∧ lim = 16 * K ∧ (tc < K → ¬ bfr B b now a ac tc)) ∨ ∃ a' t', ¬ gI s 15 0 = 0 ∧ gI s 15 1 = nI a' ∧ gI s 15 2 = nI t' ∧ a' < n ∧ t' < K ∧ lim = 16 * t' + a' ∧ bfr B b now a a' t' ∧ 16 * tc + ac ≤ lim ∧ (bfr B b now a ac tc → lim = 16 * tc + ac ∧ gI s 15 0 = kd)
/-- the rows of each slot are those of a cut of the plain run -/
def RwX (s0 : Sg) (R : Nat → Int64) (Rt : Nat → Nat → Nat → Int64) (n K b : Nat) (B : Nat → Nat) (tc ac now a : Nat) : Prop := ∀ sl, sl < 8 → ∃ pu px, CutX n tc ac pu px ∧ (∀ c u, c < n → u < K → gA s0 1 1 c = 5 → (gA s0 1 5 c).toNatClampNeg = sl → ((bfr B b now a c u ∧ 16 * u + c < 16 * tc + ac) ↔ (u < pu ∨ (u = pu ∧ c < px)))) ∧ ∀ i, i < 40 → R (40 * sl + i) = Rt pu px (40 * sl + i)
/-- the ends of all acts that began ahead of the stop -/
def EnX (E Ep : Nat → Int64) (n K b : Nat) (B : Nat → Nat) (tc ac now a : Nat) : Prop := ∀ x u, x < n → u < K → bfr B b now a x u → 16 * u + x < 16 * tc + ac → E (16 * (4 + u) + x) = Ep (16 * (4 + u) + x)
def LX (s0 s : Sg) (Ep : Nat → Int64) (Rt : Nat → Nat → Nat → Int64) (n K b : Nat) (B : Nat → Nat) (tc ac : Nat) (kd : Int32) (now a lim : Nat) : Prop := FrR 15 s0 s ∧ (∀ q x, q < 4 → x < 16 → gL s 13 3 (16 * q + x) = gL s0 1 9 x) ∧ EnX (gL s 13 3) Ep n K b B tc ac now a ∧ RwX s0 (gL s 5 2) Rt n K b B tc ac now a ∧ RfX s n K b B tc ac kd now a lim
/-- what a laid run needs of the laying, on the class's side -/
def XL (s0 : Sg) (n b : Nat) (B T S : Nat → Nat) : Prop := (1 ≤ b ∧ b ≤ 60 ∧ gI s0 9 1 = nI b) ∧ (∀ a, a < n → T a < b ∧ S a ≤ 960 ∧ gA s0 9 3 a = nI (T a) ∧ gA s0 9 4 a = nI (S a) ∧ B a = b * S a + T a) ∧ (∀ a w, a < n → w < 3 → 0 ≤ (gA s0 1 6 (3 * a + w)).toInt → B (gA s0 1 6 (3 * a + w)).toNatClampNeg + 1 ≤ B a + b * (gA s0 1 7 (3 * a + w)).toNatClampNeg) ∧ (∀ a c u t, a < n → c < n → gA s0 1 1 c = 5 → (gA s0 1 1 a = 3 ∨ gA s0 1 1 a = 4 ∨ gA s0 1 1 a = 5) → (u < t ∨ (u = t ∧ a < c)) → B a + u * b < B c + t * b) ∧ ∀ a c u t, a < n → c < n → (gA s0 1 1 a = 4 ∨ gA s0 1 1 a = 5) → (gA s0 1 1 c = 4 ∨ gA s0 1 1 c = 5) → gA s0 1 5 a = gA s0 1 5 c → (gA s0 1 1 a = 5 ∨ gA s0 1 1 c = 5) → (u < t ∨ (u = t ∧ a < c)) → B a + u * b < B c + t * b
theorem bfr_split {B : Nat → Nat} {b now a x u : Nat} (h : bfr B b now (a + 1) x u) : bfr B b now a x u ∨ (x = a ∧ B a + u * b = now) := by
  unfold bfr at h ⊢
  by_cases c : x = a
  · subst c; omega
  · omega
theorem bfr_at {B : Nat → Nat} {b now a x u t : Nat} (hb : 1 ≤ b) (hn : B a + t * b = now) (h : bfr B b now (a + 1) x u) : bfr B b now a x u ∨ (x = a ∧ u = t) := by
  rcases bfr_split h with h | ⟨h1, h2⟩
  · exact Or.inl h
  · have : u * b = t * b := by omega
    exact Or.inr ⟨h1, Nat.eq_of_mul_eq_mul_right (by omega) this⟩
section LXS
variable {s0 s : Sg} {Ep : Nat → Int64} {Rt : Nat → Nat → Nat → Int64} {n K b tc ac : Nat} {B T S : Nat → Nat} {kd : Int32} {now a lim : Nat}
theorem lx_lim (hn : n ≤ 16) (hs : (tc = K ∧ ac = 0) ∨ (tc < K ∧ ac < n)) (h : RfX s n K b B tc ac kd now a lim) : 16 * tc + ac ≤ lim ∧ lim ≤ 16 * K := by
  rcases h with ⟨-, -, -, q, -⟩ | ⟨a', t', -, -, -, q4, q5, q6, -, q8, -⟩
  · omega
  · omega
/-- act a doesn't begin at tick now: nothing changes -/
theorem lx_skip (hn : n ≤ 16) (hs : (tc = K ∧ ac = 0) ∨ (tc < K ∧ ac < n)) (h : LX s0 s Ep Rt n K b B tc ac kd now a lim) (hk : ∀ u, u < K → B a + u * b = now → lim ≤ 16 * u + a) : LX s0 s Ep Rt n K b B tc ac kd now (a + 1) lim := by
  obtain ⟨f, p1, e, r, q⟩ := h
  have hl := lx_lim hn hs q
  refine ⟨f, p1, fun x u hx hu hb hp => ?_, fun sl hsl => ?_, ?_⟩
  · rcases bfr_split hb with hb | ⟨rfl, hb⟩
    · exact e x u hx hu hb hp
    · have := hk u hu hb
      omega
  · obtain ⟨pu, px, r1, r2, r3⟩ := r sl hsl
    refine ⟨pu, px, r1, fun c u hc hu c5 cs => ?_, r3⟩
    rw [← r2 c u hc hu c5 cs]
    refine ⟨fun ⟨k1, k2⟩ => ?_, fun ⟨k1, k2⟩ => ⟨bfr_up k1, k2⟩⟩
    rcases bfr_split k1 with k1 | ⟨rfl, k1⟩
    · exact ⟨k1, k2⟩
    · have := hk u hu k1
      omega
  · rcases q with ⟨q1, q2, q3, q4, q5⟩ | ⟨a', t', q1, q2, q3, q4, q5, q6, q7, q8, q9⟩
    · refine Or.inl ⟨q1, q2, q3, q4, fun ht hb => ?_⟩
      rcases bfr_split hb with hb | ⟨he, hb⟩
      · exact q5 ht hb
      · have := hk tc ht hb
        omega
    · refine Or.inr ⟨a', t', q1, q2, q3, q4, q5, q6, bfr_up q7, q8, fun hb => ?_⟩
      rcases bfr_split hb with hb | ⟨he, hb⟩
      · exact q9 hb
      · have := hk tc (by omega) hb
        have e1 : t' = tc := by omega
        have e2 : a' = ac := by omega
        rw [e1, e2] at q7
        exact q9 q7
/-- the class looks whether the run has ended ahead of (a, t) -/
theorem lx_ends {t : Nat} (hn : n ≤ 16) (hK : K ≤ 200) (ha : a < n) (ht : t < K) (hnow : B a + t * b = now) (q : RfX s n K b B tc ac kd now a lim) : (16 * t + a < lim → m_X5_endsAheadOf 15 (nI a) (nI t) s = some (0, s)) ∧ (¬ 16 * t + a < lim → m_X5_endsAheadOf 15 (nI a) (nI t) s = some (1, s)) := by
  rcases q with ⟨q1, -, -, q2, -⟩ | ⟨a', t', q1, q2, q3, q4, q5, q6, q7, -, -⟩
  · refine ⟨fun _ => ?_, fun c => by omega⟩
    rw [m_X5_endsAheadOf, gIk, if_pos q1]
  · have hne : ¬ (a = a' ∧ t = t') := fun z => by
      obtain ⟨z1, z2⟩ := z
      subst z1 z2
      unfold bfr at q7
      omega
    rw [m_X5_endsAheadOf, gIk, if_neg q1, gIk, q3]
    by_cases c1 : t' < t
    · rw [if_pos (nI_lt c1 (by omega))]
      exact ⟨fun c => by omega, fun _ => rfl⟩
    · rw [if_neg (nI_nlt (by omega) (by omega)), gIk, q3]
      by_cases c2 : t = t'
      · subst c2
        rw [if_pos rfl, gIk, q2]
        by_cases c3 : a ≤ a'
        · have : nI a ≤ nI a' := by rw [fx_le, nI_toInt (by omega), nI_toInt (by omega)]; omega
          rw [if_pos this]
          exact ⟨fun _ => rfl, fun c => by omega⟩
        · have : ¬ nI a ≤ nI a' := by rw [fx_le, nI_toInt (by omega), nI_toInt (by omega)]; omega
          rw [if_neg this]
          exact ⟨fun c => by omega, fun _ => rfl⟩
      · rw [if_neg (fun z => c2 (nI_inj (by omega) (by omega) z))]
        exact ⟨fun _ => rfl, fun c => by omega⟩
/-- the ends behind an act -/
theorem en_next {t : Nat} {E E' : Nat → Int64} (hn : n ≤ 16) (hb : 1 ≤ b) (ha : a < n) (hnow : B a + t * b = now) (e : EnX E Ep n K b B tc ac now a) (h1 : ∀ x u, x < 16 → ¬ (x = a ∧ u = t) → E' (16 * (4 + u) + x) = E (16 * (4 + u) + x)) (h2 : 16 * t + a < 16 * tc + ac → E' (16 * (4 + t) + a) = Ep (16 * (4 + t) + a)) : EnX E' Ep n K b B tc ac now (a + 1) := by
  intro x u hx hu hbf hp
  by_cases c : x = a ∧ u = t
  · obtain ⟨rfl, rfl⟩ := c
    exact h2 hp
  · rw [h1 x u (by omega) c]
    rcases bfr_at hb hnow hbf with z | z
    · exact e x u hx hu z hp
    · exact absurd z c
/-- the rows behind an act that changes none, or that isn't of this slot's stores -/
theorem rw_next {t : Nat} {R R' : Nat → Int64} (hb : 1 ≤ b) (hnow : B a + t * b = now) (r : RwX s0 R Rt n K b B tc ac now a) {sl : Nat} (hsl : sl < 8) (h1 : ¬ (gA s0 1 1 a = 5 ∧ (gA s0 1 5 a).toNatClampNeg = sl) ∨ 16 * tc + ac ≤ 16 * t + a) (h2 : ∀ i, i < 40 → R' (40 * sl + i) = R (40 * sl + i)) : ∃ pu px, CutX n tc ac pu px ∧ (∀ c u, c < n → u < K → gA s0 1 1 c = 5 → (gA s0 1 5 c).toNatClampNeg = sl → ((bfr B b now (a + 1) c u ∧ 16 * u + c < 16 * tc + ac) ↔ (u < pu ∨ (u = pu ∧ c < px)))) ∧ ∀ i, i < 40 → R' (40 * sl + i) = Rt pu px (40 * sl + i) := by
  obtain ⟨pu, px, r1, r2, r3⟩ := r sl hsl
  refine ⟨pu, px, r1, fun c u hc hu c5 cs => ?_, fun i hi => (h2 i hi).trans (r3 i hi)⟩
  rw [← r2 c u hc hu c5 cs]
  refine ⟨fun ⟨k1, k2⟩ => ?_, fun ⟨k1, k2⟩ => ⟨bfr_up k1, k2⟩⟩
  rcases bfr_at hb hnow k1 with k1 | ⟨rfl, rfl⟩
  · exact ⟨k1, k2⟩
  · rcases h1 with h1 | h1
    · exact absurd ⟨c5, cs⟩ h1
    · omega
/-- the refusal behind an act other than the stop that isn't refused -/
theorem rf_next {t : Nat} {s' : Sg} (hb : 1 ≤ b) (hnow : B a + t * b = now) (q : RfX s n K b B tc ac kd now a lim) (hne : ¬ (ac = a ∧ tc = t)) (i0 : gI s' 15 0 = gI s 15 0) (i1 : gI s' 15 1 = gI s 15 1) (i2 : gI s' 15 2 = gI s 15 2) : RfX s' n K b B tc ac kd now (a + 1) lim := by
  unfold RfX
  rw [i0, i1, i2]
  have key : bfr B b now (a + 1) ac tc → bfr B b now a ac tc := fun z => by
    rcases bfr_at hb hnow z with z | z
    · exact z
    · exact absurd z hne
  rcases q with ⟨q1, q2, q3, q4, q5⟩ | ⟨a', t', q1, q2, q3, q4, q5, q6, q7, q8, q9⟩
  · exact Or.inl ⟨q1, q2, q3, q4, fun ht z => q5 ht (key z)⟩
  · exact Or.inr ⟨a', t', q1, q2, q3, q4, q5, q6, bfr_up q7, q8, fun z => q9 (key z)⟩
/-- rows of the act's own slot are those that the plain run found there -/
theorem rw_own {t : Nat} {R : Nat → Int64} (hC : XC s0 n) (hT : TrX s0 Ep Rt n K tc ac kd) (hL : XL s0 n b B T S) (ha : a < n) (ht : t < K) (hnow : B a + t * b = now) (hp : 16 * t + a < 16 * tc + ac) (hr : gA s0 1 1 a = 4 ∨ gA s0 1 1 a = 5) (r : RwX s0 R Rt n K b B tc ac now a) : ∀ i, i < 40 → R (40 * (gA s0 1 5 a).toNatClampNeg + i) = Rt t a (40 * (gA s0 1 5 a).toNatClampNeg + i) := by
  have hn := hC.2.1
  have hs := tr_stop hT
  have hsl := (hC.2.2.2.1 a ha).2.1 hr
  have csl := fx_cl hsl.1
  have hcl := hL.2.2.2.2
  obtain ⟨pu, px, r1, r2, r3⟩ := r (gA s0 1 5 a).toNatClampNeg (by have := hsl.2; omega)
  intro i hi
  rw [r3 i hi]
  refine (rt_same hC hT r1 (show CutX n tc ac t a from ⟨by omega, by omega⟩) (fun c u hc hu c5 cs => ?_) i hi).symm
  rw [← r2 c u hc hu c5 cs]
  have hslc := (hC.2.2.2.1 c hc).2.1 (Or.inr c5)
  have es : gA s0 1 5 a = gA s0 1 5 c := by rw [fx_nI hsl.1, fx_nI hslc.1, cs]
  constructor
  · rintro ⟨k1, k2⟩
    apply Classical.byContradiction
    intro k3
    by_cases k4 : u = t ∧ c = a
    · obtain ⟨rfl, rfl⟩ := k4
      unfold bfr at k1
      omega
    · have := hcl a c t u ha hc hr (Or.inr c5) es (Or.inr c5) (by omega)
      unfold bfr at k1
      omega
  · intro k
    have := hcl c a u t hc ha (Or.inr c5) hr es.symm (Or.inl c5) k
    refine ⟨?_, by omega⟩
    unfold bfr
    omega
end LXS
