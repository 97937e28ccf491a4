-- 67.graph: edges (a, b, w) among n acts, solutions, the least one; rounds of pushing (without walks)
def updG (p : Nat → Int) (k : Nat) (x : Int) : Nat → Int := fun i => if i = k then x else p i
/-- one push along an edge -/
def pushG (p : Nat → Int) (e : Ge) : Nat → Int := if p e.1 + e.2.2 ≤ p e.2.1 then p else updG p e.2.1 (p e.1 + e.2.2)
def roundG (E : List Ge) (p : Nat → Int) : Nat → Int := E.foldl pushG p
theorem push_ge (p : Nat → Int) (e : Ge) (v : Nat) : p v ≤ pushG p e v := by
  unfold pushG
  by_cases h : p e.1 + e.2.2 ≤ p e.2.1
  · rw [if_pos h]; omega
  · rw [if_neg h]
    unfold updG
    by_cases g : v = e.2.1
    · rw [if_pos g, g]; omega
    · rw [if_neg g]; omega
theorem push_got (p : Nat → Int) (e : Ge) : p e.1 + e.2.2 ≤ pushG p e e.2.1 := by
  unfold pushG
  by_cases h : p e.1 + e.2.2 ≤ p e.2.1
  · rw [if_pos h]; exact h
  · rw [if_neg h]
    unfold updG
    rw [if_pos rfl]
    omega
theorem push_le {n : Nat} {p q : Nat → Int} {e : Ge} (hi : e.1 < n ∧ e.2.1 < n) (hq : q e.1 + e.2.2 ≤ q e.2.1) (h : ∀ v, v < n → p v ≤ q v) : ∀ v, v < n → pushG p e v ≤ q v := by
  intro v hv
  unfold pushG
  by_cases g : p e.1 + e.2.2 ≤ p e.2.1
  · rw [if_pos g]; exact h v hv
  · rw [if_neg g]
    unfold updG
    by_cases k : v = e.2.1
    · rw [if_pos k, k]
      have := h e.1 hi.1
      omega
    · rw [if_neg k]; exact h v hv
theorem round_ge (E : List Ge) : ∀ (p : Nat → Int) (v : Nat), p v ≤ roundG E p v := by
  induction E with
  | nil => intro p v; exact Int.le_refl _
  | cons e E ih =>
    intro p v
    show p v ≤ roundG E (pushG p e) v
    have := push_ge p e v
    have := ih (pushG p e) v
    omega
theorem round_le {n : Nat} {q : Nat → Int} (E : List Ge) (hi : InG n E) (hq : SolG E q) : ∀ p : Nat → Int, (∀ v, v < n → p v ≤ q v) → ∀ v, v < n → roundG E p v ≤ q v := by
  induction E with
  | nil => intro p h; exact h
  | cons e E ih =>
    intro p h
    exact ih (fun x hx => hi x (List.mem_cons_of_mem _ hx)) (fun x hx => hq x (List.mem_cons_of_mem _ hx)) (pushG p e) (push_le (hi e List.mem_cons_self) (hq e List.mem_cons_self) h)
/-- along an edge whose tail has its last number, a round gets what the edge asks -/
theorem round_got {n : Nat} {P : Nat → Int} (E : List Ge) (hi : InG n E) (hP : SolG E P) {e : Ge} (he : e ∈ E) : ∀ p : Nat → Int, (∀ v, v < n → p v ≤ P v) → p e.1 = P e.1 → P e.1 + e.2.2 ≤ roundG E p e.2.1 := by
  induction E with
  | nil => exact absurd he List.not_mem_nil
  | cons x E ih =>
    intro p h hp
    have hi' : InG n E := fun y hy => hi y (List.mem_cons_of_mem _ hy)
    have hP' : SolG E P := fun y hy => hP y (List.mem_cons_of_mem _ hy)
    have hx := hi x List.mem_cons_self
    have h' := push_le (p := p) hx (hP x List.mem_cons_self) h
    show P e.1 + e.2.2 ≤ roundG E (pushG p x) e.2.1
    rcases List.mem_cons.mp he with q | q
    · subst q
      have a := push_got p e
      have b := round_ge E (pushG p e) e.2.1
      rw [hp] at a
      omega
    · refine ih hi' hP' q (pushG p x) h' ?_
      have a := push_ge p x e.1
      have b := h' e.1 (hi e he).1
      omega
/-- how many acts haven't their last number yet -/
def offG (P p : Nat → Int) (n : Nat) : Nat := fbs (fun v => if p v = P v then 0 else 1) n
theorem off_le (P p : Nat → Int) : ∀ n, offG P p n ≤ n
  | 0 => Nat.le_refl 0
  | n + 1 => by
    have := off_le P p n
    show offG P p n + (if p n = P n then 0 else 1) ≤ n + 1
    split <;> omega
theorem off_zero {P p : Nat → Int} : ∀ {n}, offG P p n = 0 → ∀ v, v < n → p v = P v
  | 0, _, v, hv => absurd hv (Nat.not_lt_zero v)
  | n + 1, h, v, hv => by
    have h' : offG P p n + (if p n = P n then 0 else 1) = 0 := h
    by_cases q : p n = P n
    · rw [if_pos q] at h'
      by_cases e : v = n
      · rw [e]; exact q
      · exact off_zero (n := n) (by omega) v (by omega)
    · rw [if_neg q] at h'; omega
theorem off_pos {P p : Nat → Int} : ∀ {n}, offG P p n ≠ 0 → ∃ v, v < n ∧ ¬ p v = P v
  | 0, h => absurd rfl h
  | n + 1, h => by
    by_cases q : p n = P n
    · have h' : offG P p n + (if p n = P n then 0 else 1) ≠ 0 := h
      rw [if_pos q] at h'
      obtain ⟨v, a, b⟩ := off_pos (n := n) (P := P) (p := p) (by omega)
      exact ⟨v, by omega, b⟩
    · exact ⟨n, by omega, q⟩
theorem off_mono {P p p' : Nat → Int} : ∀ {n}, (∀ v, v < n → p v = P v → p' v = P v) → offG P p' n ≤ offG P p n
  | 0, _ => Nat.le_refl 0
  | n + 1, h => by
    have ih := off_mono (n := n) (fun v hv => h v (by omega))
    have hn := h n (by omega)
    show offG P p' n + (if p' n = P n then 0 else 1) ≤ offG P p n + (if p n = P n then 0 else 1)
    by_cases q : p n = P n
    · rw [if_pos q, if_pos (hn q)]; omega
    · rw [if_neg q]; split <;> omega
theorem off_less {P p p' : Nat → Int} : ∀ {n}, (∀ v, v < n → p v = P v → p' v = P v) → (∃ v, v < n ∧ ¬ p v = P v ∧ p' v = P v) → offG P p' n < offG P p n
  | 0, _, h => by obtain ⟨v, hv, -⟩ := h; exact absurd hv (Nat.not_lt_zero v)
  | n + 1, h, hx => by
    obtain ⟨v, hv, a, b⟩ := hx
    have hn := h n (by omega)
    show offG P p' n + (if p' n = P n then 0 else 1) < offG P p n + (if p n = P n then 0 else 1)
    by_cases e : v = n
    · subst e
      rw [if_neg a, if_pos b]
      have := off_mono (n := v) (fun v' hv' => h v' (by omega))
      omega
    · have ih := off_less (n := n) (fun v hv => h v (by omega)) ⟨v, by omega, a, b⟩
      by_cases q : p n = P n
      · rw [if_pos q, if_pos (hn q)]; omega
      · rw [if_neg q]; split <;> omega
/-- where some act hasn't its last number, an edge leads from one that has it to one that hasn't, and binds -/
theorem tight {n : Nat} {E : List Ge} {P p : Nat → Int} (hi : InG n E) (hP : LeastG n E P) (h0 : ∀ v, v < n → 0 ≤ p v) (h : ∀ v, v < n → p v ≤ P v) (hx : offG P p n ≠ 0) : ∃ e ∈ E, p e.1 = P e.1 ∧ ¬ p e.2.1 = P e.2.1 ∧ P e.2.1 = P e.1 + e.2.2 := by
  refine Classical.byContradiction fun no => ?_
  obtain ⟨v, hv, hne⟩ := off_pos hx
  obtain ⟨p0, p1, p2⟩ := hP
  have hQ := p2 (fun v => if p v = P v then P v else P v - 1) (fun v hv => by
      show 0 ≤ if p v = P v then P v else P v - 1
      have a := h0 v hv
      have b := h v hv
      have c := p0 v hv
      split <;> omega) (fun e he => by
      show (if p e.1 = P e.1 then P e.1 else P e.1 - 1) + e.2.2 ≤ (if p e.2.1 = P e.2.1 then P e.2.1 else P e.2.1 - 1)
      have a := p1 e he
      by_cases c1 : p e.1 = P e.1
      · by_cases c2 : p e.2.1 = P e.2.1
        · rw [if_pos c1, if_pos c2]; exact a
        · rw [if_pos c1, if_neg c2]
          have : ¬ P e.2.1 = P e.1 + e.2.2 := fun q => no ⟨e, he, c1, c2, q⟩
          omega
      · by_cases c2 : p e.2.1 = P e.2.1
        · rw [if_neg c1, if_pos c2]; omega
        · rw [if_neg c1, if_neg c2]; omega) v hv
  have hQ' : P v ≤ if p v = P v then P v else P v - 1 := hQ
  rw [if_neg hne] at hQ'
  omega
/-- a round brings at least one act more to its last number -/
theorem round_less {n : Nat} {E : List Ge} {P p : Nat → Int} (hi : InG n E) (hP : LeastG n E P) (h0 : ∀ v, v < n → 0 ≤ p v) (h : ∀ v, v < n → p v ≤ P v) (hx : offG P p n ≠ 0) : offG P (roundG E p) n < offG P p n := by
  obtain ⟨e, he, a, b, c⟩ := tight hi hP h0 h hx
  refine off_less (fun v hv q => ?_) ⟨e.2.1, (hi e he).2, b, ?_⟩
  · have r1 := round_ge E p v
    have r2 := round_le E hi hP.2.1 p h v hv
    omega
  · have r1 := round_got E hi hP.2.1 he p h a
    have r2 := round_le E hi hP.2.1 p h e.2.1 (hi e he).2
    omega
/-- nothing moves exactly where the numbers are a solution -/
theorem round_still {E : List Ge} : ∀ {p : Nat → Int}, SolG E p → roundG E p = p := by
  induction E with
  | nil => intro p _; rfl
  | cons e E ih =>
    intro p h
    have h1 : pushG p e = p := if_pos (h e List.mem_cons_self)
    show roundG E (pushG p e) = p
    rw [h1]
    exact ih (fun x hx => h x (List.mem_cons_of_mem _ hx))
theorem still_sol {E : List Ge} : ∀ {p : Nat → Int}, roundG E p = p → SolG E p := by
  induction E with
  | nil => intro p _ e he; exact absurd he List.not_mem_nil
  | cons x E ih =>
    intro p h e he
    have h2 : roundG E (pushG p x) = p := h
    have hx : pushG p x = p := by
      funext v
      have a := push_ge p x v
      have b := round_ge E (pushG p x) v
      rw [h2] at b
      omega
    rw [hx] at h2
    rcases List.mem_cons.mp he with q | q
    · subst q
      have := push_got p e
      rw [hx] at this
      exact this
    · exact ih h2 e q
