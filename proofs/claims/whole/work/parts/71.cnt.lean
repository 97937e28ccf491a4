-- 71.cnt: counting below a bound; the least solution's bound; the chains' lower bound
def cnB (p : Nat → Bool) : Nat → Nat
  | 0 => 0
  | k + 1 => cnB p k + if p k = true then 1 else 0
theorem cn_le (p : Nat → Bool) : ∀ k, cnB p k ≤ k
  | 0 => Nat.le_refl 0
  | k + 1 => by
    have := cn_le p k
    show cnB p k + (if p k = true then 1 else 0) ≤ k + 1
    split <;> omega
theorem cn_mono {p q : Nat → Bool} : ∀ {k : Nat}, (∀ v, v < k → p v = true → q v = true) → cnB p k ≤ cnB q k
  | 0, _ => Nat.le_refl 0
  | k + 1, h => by
    have ih := cn_mono (k := k) (fun v hv => h v (by omega))
    have hk := h k (by omega)
    show cnB p k + (if p k = true then 1 else 0) ≤ cnB q k + (if q k = true then 1 else 0)
    by_cases c : p k = true
    · rw [if_pos c, if_pos (hk c)]; omega
    · rw [if_neg c]; split <;> omega
theorem cn_more {p q : Nat → Bool} : ∀ {k : Nat}, (∀ v, v < k → p v = true → q v = true) → (∃ v, v < k ∧ ¬ p v = true ∧ q v = true) → cnB p k + 1 ≤ cnB q k
  | 0, _, h => by obtain ⟨v, hv, -⟩ := h; exact absurd hv (Nat.not_lt_zero v)
  | k + 1, h, hx => by
    obtain ⟨v, hv, a, b⟩ := hx
    have hk := h k (by omega)
    show cnB p k + (if p k = true then 1 else 0) + 1 ≤ cnB q k + (if q k = true then 1 else 0)
    by_cases e : v = k
    · subst e
      rw [if_neg a, if_pos b]
      have := cn_mono (k := v) (fun u hu => h u (by omega))
      omega
    · have ih := cn_more (k := k) (fun v hv => h v (by omega)) ⟨v, by omega, a, b⟩
      by_cases c : p k = true
      · rw [if_pos c, if_pos (hk c)]; omega
      · rw [if_neg c]; split <;> omega
theorem cn_disj {p q r : Nat → Bool} : ∀ {k : Nat}, (∀ v, v < k → p v = true → r v = true) → (∀ v, v < k → q v = true → r v = true) → (∀ v, v < k → p v = true → ¬ q v = true) → cnB p k + cnB q k ≤ cnB r k
  | 0, _, _, _ => Nat.le_refl 0
  | k + 1, h1, h2, h3 => by
    have ih := cn_disj (k := k) (fun v hv => h1 v (by omega)) (fun v hv => h2 v (by omega)) (fun v hv => h3 v (by omega))
    have a1 := h1 k (by omega)
    have a2 := h2 k (by omega)
    have a3 := h3 k (by omega)
    show cnB p k + (if p k = true then 1 else 0) + (cnB q k + (if q k = true then 1 else 0)) ≤ cnB r k + (if r k = true then 1 else 0)
    by_cases c : p k = true
    · rw [if_pos c, if_neg (a3 c), if_pos (a1 c)]; omega
    · by_cases d : q k = true
      · rw [if_neg c, if_pos d, if_pos (a2 d)]; omega
      · rw [if_neg c, if_neg d]; split <;> omega
theorem cn_pos {p : Nat → Bool} {k u : Nat} (hu : u < k) (h : p u = true) : 1 ≤ cnB p k := by
  have z : ∀ k, cnB (fun _ => false) k = 0 := fun k => by
    induction k with
    | zero => rfl
    | succ k ih => show cnB (fun _ => false) k + _ = 0; rw [ih]; rfl
  have := cn_more (p := fun _ => false) (q := p) (k := k) (fun v _ h => by cases h) ⟨u, hu, by decide, h⟩
  rw [z] at this
  omega
theorem least_lv {n : Nat} {E : List Ge} {P : Nat → Int} {W : Int} (hi : InG n E) (hP : LeastG n E P) (hW : ∀ e ∈ E, e.2.2 ≤ W) (h0 : 0 ≤ W) : ∀ k : Nat, (∃ v, v < n ∧ (k : Int) * W < P v) → k + 1 ≤ cnB (fun u => decide (P u ≤ (k : Int) * W)) n := by
  intro k
  obtain ⟨p0, p1, p2⟩ := hP
  induction k with
  | zero =>
    intro ⟨v, hv, h⟩
    have c : ∃ u, u < n ∧ P u ≤ 0 := Classical.byContradiction fun no => by
      have h2 := p2 (fun u => P u - 1) (fun u hu => by
        show 0 ≤ P u - 1
        have : ¬ P u ≤ 0 := fun q => no ⟨u, hu, q⟩
        omega) (fun e he => by
        show P e.1 - 1 + e.2.2 ≤ P e.2.1 - 1
        have := p1 e he
        omega) v hv
      have h3 : P v ≤ P v - 1 := h2
      omega
    obtain ⟨u, hu, h2⟩ := c
    exact cn_pos hu (by simpa using h2)
  | succ k ih =>
    intro ⟨v, hv, h⟩
    have e1 : ((k + 1 : Nat) : Int) * W = (k : Int) * W + W := by
      rw [Int.natCast_succ, Int.add_mul, Int.one_mul]
    have hk : 0 ≤ (k : Int) * W := Int.mul_nonneg (by omega) h0
    rw [e1] at h ⊢
    have i1 := ih ⟨v, hv, by omega⟩
    have c : ∃ u, u < n ∧ (k : Int) * W < P u ∧ P u ≤ (k : Int) * W + W := Classical.byContradiction fun no => by
      have h2 := p2 (fun u => if (k : Int) * W + W < P u then P u - 1 else P u) (fun u hu => by
        show 0 ≤ if (k : Int) * W + W < P u then P u - 1 else P u
        have := p0 u hu
        split <;> omega) (fun e he => by
        show (if (k : Int) * W + W < P e.1 then P e.1 - 1 else P e.1) + e.2.2 ≤ if (k : Int) * W + W < P e.2.1 then P e.2.1 - 1 else P e.2.1
        have a := p1 e he
        have b := hW e he
        by_cases c1 : (k : Int) * W + W < P e.1
        · rw [if_pos c1]
          split <;> omega
        · rw [if_neg c1]
          have : ¬ (k : Int) * W < P e.1 := fun q => no ⟨e.1, (hi e he).1, q, by omega⟩
          split <;> omega) v hv
      have h3 : P v ≤ if (k : Int) * W + W < P v then P v - 1 else P v := h2
      rw [if_pos h] at h3
      omega
    obtain ⟨u, hu, u1, u2⟩ := c
    have := cn_more (p := fun u => decide (P u ≤ (k : Int) * W)) (q := fun u => decide (P u ≤ (k : Int) * W + W)) (k := n) (fun v _ h => by
      simp only [decide_eq_true_eq] at h ⊢
      omega) ⟨u, hu, by simp only [decide_eq_true_eq]; omega, by simp only [decide_eq_true_eq]; omega⟩
    omega
theorem least_bd {n : Nat} {E : List Ge} {P : Nat → Int} {W : Int} (hi : InG n E) (hP : LeastG n E P) (hW : ∀ e ∈ E, e.2.2 ≤ W) (h0 : 0 ≤ W) (v : Nat) (hv : v < n) : P v ≤ (n : Int) * W := by
  refine Classical.byContradiction fun no => ?_
  have a := least_lv hi hP hW h0 n ⟨v, hv, by omega⟩
  have b := cn_le (fun u => decide (P u ≤ (n : Int) * W)) n
  omega
def pvO (D : Nat → Nat → Option Int) (a b v : Nat) : Bool := (D a v).isSome && (D v b).isSome
theorem pv_iff {D : Nat → Nat → Option Int} {a b v : Nat} : pvO D a b v = true ↔ ∃ x y, D a v = some x ∧ D v b = some y := by
  unfold pvO
  cases D a v with
  | none => simp
  | some x =>
    cases D v b with
    | none => simp
    | some y => simp
def lbO (n k : Nat) (D : Nat → Nat → Option Int) : Prop := ∀ a b, a < n → b < n → ∀ x, D a b = some x → -(290 + 290 * (cnB (pvO D a b) k : Int)) ≤ x
def ubO (n : Nat) (U : Int) (D : Nat → Nat → Option Int) : Prop := ∀ a b, a < n → b < n → ∀ x, D a b = some x → x ≤ U
theorem fw_ub {n k : Nat} {U : Int} {D : Nat → Nat → Option Int} (hk : k < n) (hU : 0 ≤ U) (h : ubO n U D) : ubO n (2 * U) (fwO k D) := by
  intro a b ha hb x hx
  rcases fw_or hx with p | ⟨x1, x2, p1, p2, p3⟩
  · have := h a b ha hb x p; omega
  · have h1 := h a k ha hk x1 p1
    have h2 := h k b hk hb x2 p2
    omega
theorem fw_pv {k : Nat} {D : Nat → Nat → Option Int} {a b v : Nat} (h : pvO D a b v = true) : pvO (fwO k D) a b v = true := by
  obtain ⟨x, y, h1, h2⟩ := pv_iff.mp h
  obtain ⟨x', a1, -⟩ := fw_ge (k := k) h1
  obtain ⟨y', a2, -⟩ := fw_ge (k := k) h2
  exact pv_iff.mpr ⟨x', y', a1, a2⟩
theorem fw_lb {n k : Nat} {D : Nat → Nat → Option Int} (hk : k < n) (hc : ClO n k D) (h : lbO n k D) : lbO n (k + 1) (fwO k D) := by
  intro a b ha hb x hx
  have ex : cnB (pvO (fwO k D) a b) (k + 1) = cnB (pvO (fwO k D) a b) k + if pvO (fwO k D) a b k = true then 1 else 0 := rfl
  cases e : D a b with
  | some z =>
    obtain ⟨z', z1, z2⟩ := fw_ge (k := k) e
    rw [hx] at z1
    have e1 := Option.some.inj z1
    have e2 := h a b ha hb z e
    have e3 := cn_mono (p := pvO D a b) (q := pvO (fwO k D) a b) (k := k) (fun v _ q => fw_pv q)
    omega
  | none =>
    rcases fw_or hx with p | ⟨x1, x2, p1, p2, p3⟩
    · rw [e] at p; cases p
    · have e1 := h a k ha hk x1 p1
      have e2 := h k b hk hb x2 p2
      obtain ⟨y1, q1, -⟩ := fw_ge (k := k) p1
      obtain ⟨y2, q2, -⟩ := fw_ge (k := k) p2
      have e3 : pvO (fwO k D) a b k = true := pv_iff.mpr ⟨y1, y2, q1, q2⟩
      rw [if_pos e3] at ex
      have e4 := cn_disj (p := pvO D a k) (q := pvO D k b) (r := pvO (fwO k D) a b) (k := k) (fun v hv q => by
          obtain ⟨u1, u2, w1, w2⟩ := pv_iff.mp q
          obtain ⟨y1, q1, -⟩ := fw_ge (k := k) w1
          obtain ⟨y2, q2, -⟩ := fw_via w2 p2
          exact pv_iff.mpr ⟨y1, y2, q1, q2⟩) (fun v hv q => by
          obtain ⟨u1, u2, w1, w2⟩ := pv_iff.mp q
          obtain ⟨y1, q1, -⟩ := fw_via p1 w1
          obtain ⟨y2, q2, -⟩ := fw_ge (k := k) w2
          exact pv_iff.mpr ⟨y1, y2, q1, q2⟩) (fun v hv q r => by
          obtain ⟨u1, u2, w1, w2⟩ := pv_iff.mp q
          obtain ⟨u3, u4, w3, w4⟩ := pv_iff.mp r
          obtain ⟨z, z1, -⟩ := hc v hv a b ha hb u1 u4 w1 w4
          rw [e] at z1; cases z1)
      omega
