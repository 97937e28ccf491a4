-- 70.fw: chains of waits (Floyd-Warshall), as a matter of numbers: none where no edge leads
def mxO (x : Option Int) (y : Int) : Int := match x with
  | none => y
  | some z => if z < y then y else z
def fwO (k : Nat) (D : Nat → Nat → Option Int) (a b : Nat) : Option Int := match D a k, D k b with
  | some x, some y => some (mxO (D a b) (x + y))
  | _, _ => D a b
theorem mxO_ge {x : Option Int} {y z : Int} (h : x = some z) : z ≤ mxO x y := by
  subst h
  show z ≤ if z < y then y else z
  split <;> omega
theorem mxO_ge2 (x : Option Int) (y : Int) : y ≤ mxO x y := by
  cases x with
  | none => exact Int.le_refl _
  | some z =>
    show y ≤ if z < y then y else z
    split <;> omega
theorem mxO_or (x : Option Int) (y : Int) : x = some (mxO x y) ∨ mxO x y = y := by
  cases x with
  | none => exact Or.inr rfl
  | some z =>
    by_cases h : z < y
    · exact Or.inr (if_pos h)
    · refine Or.inl ?_
      show some z = some (if z < y then y else z)
      rw [if_neg h]
section FW
variable {k : Nat} {D : Nat → Nat → Option Int} {a b : Nat}
theorem fw_ge {z : Int} (h : D a b = some z) : ∃ z', fwO k D a b = some z' ∧ z ≤ z' := by
  unfold fwO
  cases h1 : D a k with
  | none => exact ⟨z, h, Int.le_refl _⟩
  | some x =>
    cases h2 : D k b with
    | none => exact ⟨z, h, Int.le_refl _⟩
    | some y => exact ⟨_, rfl, mxO_ge h⟩
theorem fw_via {x y : Int} (h1 : D a k = some x) (h2 : D k b = some y) : ∃ z', fwO k D a b = some z' ∧ x + y ≤ z' := by
  unfold fwO
  rw [h1, h2]
  exact ⟨_, rfl, mxO_ge2 _ _⟩
theorem fw_or {z : Int} (h : fwO k D a b = some z) : D a b = some z ∨ ∃ x y, D a k = some x ∧ D k b = some y ∧ z = x + y := by
  unfold fwO at h
  cases h1 : D a k with
  | none => rw [h1] at h; exact Or.inl h
  | some x =>
    cases h2 : D k b with
    | none => rw [h1, h2] at h; exact Or.inl h
    | some y =>
      rw [h1, h2] at h
      have h3 : mxO (D a b) (x + y) = z := Option.some.inj h
      rcases mxO_or (D a b) (x + y) with q | q
      · left; rw [q, h3]
      · right; exact ⟨x, y, rfl, rfl, by rw [← h3, q]⟩
end FW
def ClO (n k : Nat) (D : Nat → Nat → Option Int) : Prop := ∀ v, v < k → ∀ a b, a < n → b < n → ∀ x y, D a v = some x → D v b = some y → ∃ z, D a b = some z ∧ x + y ≤ z
def diO (n : Nat) (D : Nat → Nat → Option Int) : Prop := ∀ a, a < n → ∀ x, D a a = some x → x ≤ 0
def snO (n : Nat) (q : Nat → Int) (D : Nat → Nat → Option Int) : Prop := ∀ a b, a < n → b < n → ∀ x, D a b = some x → x ≤ q b - q a
def baO (n : Nat) (W D : Nat → Nat → Option Int) : Prop := ∀ a b, a < n → b < n → ∀ x, W a b = some x → ∃ z, D a b = some z ∧ x ≤ z
theorem fw_cl {n k : Nat} {D : Nat → Nat → Option Int} (hk : k < n) (hc : ClO n k D) (hd : ∀ x, D k k = some x → x ≤ 0) : ClO n (k + 1) (fwO k D) := by
  intro v hv a b ha hb X Y hX hY
  rcases fw_or hX with p | ⟨x1, x2, p1, p2, p3⟩
  · rcases fw_or hY with q | ⟨y1, y2, q1, q2, q3⟩
    · by_cases e : v = k
      · subst e
        exact fw_via p q
      · obtain ⟨z, z1, z2⟩ := hc v (by omega) a b ha hb X Y p q
        obtain ⟨w, w1, w2⟩ := fw_ge (k := k) z1
        exact ⟨w, w1, by omega⟩
    · by_cases e : v = k
      · subst e
        obtain ⟨w, w1, w2⟩ := fw_via p q2
        have := hd y1 q1
        exact ⟨w, w1, by omega⟩
      · obtain ⟨z, z1, z2⟩ := hc v (by omega) a k ha hk X y1 p q1
        obtain ⟨w, w1, w2⟩ := fw_via z1 q2
        exact ⟨w, w1, by omega⟩
  · rcases fw_or hY with q | ⟨y1, y2, q1, q2, q3⟩
    · by_cases e : v = k
      · subst e
        obtain ⟨w, w1, w2⟩ := fw_via p1 q
        have := hd x2 p2
        exact ⟨w, w1, by omega⟩
      · obtain ⟨z, z1, z2⟩ := hc v (by omega) k b hk hb x2 Y p2 q
        obtain ⟨w, w1, w2⟩ := fw_via p1 z1
        exact ⟨w, w1, by omega⟩
    · obtain ⟨w, w1, w2⟩ := fw_via p1 q2
      by_cases e : v = k
      · subst e
        have h1 := hd x2 p2
        have h2 := hd y1 q1
        exact ⟨w, w1, by omega⟩
      · obtain ⟨z, z1, z2⟩ := hc v (by omega) k k hk hk x2 y1 p2 q1
        have h1 := hd z z1
        exact ⟨w, w1, by omega⟩
theorem fw_sn {n k : Nat} {q : Nat → Int} {D : Nat → Nat → Option Int} (hk : k < n) (h : snO n q D) : snO n q (fwO k D) := by
  intro a b ha hb x hx
  rcases fw_or hx with p | ⟨x1, x2, p1, p2, p3⟩
  · exact h a b ha hb x p
  · have h1 := h a k ha hk x1 p1
    have h2 := h k b hk hb x2 p2
    omega
theorem fw_ba {n k : Nat} {W D : Nat → Nat → Option Int} (h : baO n W D) : baO n W (fwO k D) := by
  intro a b ha hb x hx
  obtain ⟨z, z1, z2⟩ := h a b ha hb x hx
  obtain ⟨w, w1, w2⟩ := fw_ge (k := k) z1
  exact ⟨w, w1, by omega⟩
/-- row k and column k stay, where no ring is at k -/
theorem fw_row {k : Nat} {D : Nat → Nat → Option Int} (hd : ∀ x, D k k = some x → x ≤ 0) (b : Nat) : fwO k D k b = D k b := by
  unfold fwO
  cases h1 : D k k with
  | none => rfl
  | some x =>
    cases h2 : D k b with
    | none => rfl
    | some y =>
      have := hd x h1
      show some (if y < x + y then x + y else y) = some y
      rw [if_neg (by omega)]
theorem fw_col {k : Nat} {D : Nat → Nat → Option Int} (hd : ∀ x, D k k = some x → x ≤ 0) (a : Nat) : fwO k D a k = D a k := by
  unfold fwO
  cases h2 : D a k with
  | none => rfl
  | some y =>
    cases h1 : D k k with
    | none => rfl
    | some x =>
      have := hd x h1
      show some (if y < y + x then y + x else y) = some y
      rw [if_neg (by omega)]
/-- the most of 0 and what comes in from the first m acts -/
def earO (D : Nat → Nat → Option Int) (b : Nat) : Nat → Int
  | 0 => 0
  | m + 1 => match D m b with
    | none => earO D b m
    | some x => if earO D b m < x then x else earO D b m
theorem ear_0 (D : Nat → Nat → Option Int) (b : Nat) : ∀ m, 0 ≤ earO D b m
  | 0 => Int.le_refl 0
  | m + 1 => by
    have ih := ear_0 D b m
    unfold earO
    cases D m b with
    | none => exact ih
    | some x =>
      show 0 ≤ if earO D b m < x then x else earO D b m
      split <;> omega
theorem ear_ge {D : Nat → Nat → Option Int} {b : Nat} : ∀ {m a : Nat} {x : Int}, a < m → D a b = some x → x ≤ earO D b m
  | 0, a, x, h, _ => absurd h (Nat.not_lt_zero a)
  | m + 1, a, x, h, hx => by
    unfold earO
    by_cases e : a = m
    · subst e
      rw [hx]
      show x ≤ if earO D b a < x then x else earO D b a
      split <;> omega
    · have ih := ear_ge (m := m) (a := a) (by omega) hx
      cases D m b with
      | none => exact ih
      | some y =>
        show x ≤ if earO D b m < y then y else earO D b m
        split <;> omega
theorem ear_or (D : Nat → Nat → Option Int) (b : Nat) : ∀ m, earO D b m = 0 ∨ ∃ a, a < m ∧ D a b = some (earO D b m)
  | 0 => Or.inl rfl
  | m + 1 => by
    unfold earO
    cases h : D m b with
    | none =>
      rcases ear_or D b m with q | ⟨a, q1, q2⟩
      · exact Or.inl q
      · exact Or.inr ⟨a, by omega, q2⟩
    | some x =>
      show (if earO D b m < x then x else earO D b m) = 0 ∨ ∃ a, a < m + 1 ∧ D a b = some (if earO D b m < x then x else earO D b m)
      by_cases g : earO D b m < x
      · rw [if_pos g]; exact Or.inr ⟨m, by omega, h⟩
      · rw [if_neg g]
        rcases ear_or D b m with q | ⟨a, q1, q2⟩
        · exact Or.inl q
        · exact Or.inr ⟨a, by omega, q2⟩
/-- the chains done: what they say of the begins is the least solution -/
theorem ear_least {n : Nat} {E : List Ge} {D : Nat → Nat → Option Int} (hi : InG n E) (hc : ClO n n D) (hb : ∀ e ∈ E, ∃ z, D e.1 e.2.1 = some z ∧ e.2.2 ≤ z) (hs : ∀ q, SolG E q → snO n q D) : LeastG n E (fun b => earO D b n) := by
  refine ⟨fun v _ => ear_0 D v n, fun e he => ?_, fun q h0 hq v hv => ?_⟩
  · obtain ⟨z, z1, z2⟩ := hb e he
    obtain ⟨i1, i2⟩ := hi e he
    show earO D e.1 n + e.2.2 ≤ earO D e.2.1 n
    rcases ear_or D e.1 n with c | ⟨a, c1, c2⟩
    · have := ear_ge i1 z1
      omega
    · obtain ⟨w, w1, w2⟩ := hc e.1 i1 a e.2.1 c1 i2 _ z c2 z1
      have := ear_ge c1 w1
      omega
  · show earO D v n ≤ q v
    rcases ear_or D v n with c | ⟨a, c1, c2⟩
    · rw [c]; exact h0 v hv
    · have h1 := hs q hq a v c1 hv _ c2
      have h2 := h0 a c1
      omega
