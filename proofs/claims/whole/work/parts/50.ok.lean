-- 50.ok: how mirrors are reasoned about: Ok m Q (m is some q with Q q), the state's rows
def Ok {α : Type} (m : Option α) (Q : α → Prop) : Prop := ∃ q, m = some q ∧ Q q
theorem Ok.mono {α : Type} {m : Option α} {Q R : α → Prop} (h : Ok m Q) (hq : ∀ q, Q q → R q) : Ok m R := by
  obtain ⟨q, e, hQ⟩ := h
  exact ⟨q, e, hq q hQ⟩
theorem ok_some {α : Type} {a : α} {Q : α → Prop} : Ok (some a) Q ↔ Q a := ⟨fun ⟨q, e, h⟩ => by cases e; exact h, fun h => ⟨a, rfl, h⟩⟩
theorem ok_none {α : Type} {Q : α → Prop} : Ok none Q ↔ False := ⟨fun h => (by obtain ⟨q, e, -⟩ := h; cases e), False.elim⟩
theorem ok_ite {α : Type} {c : Prop} [Decidable c] {a b : Option α} {Q : α → Prop} : Ok (if c then a else b) Q ↔ (c → Ok a Q) ∧ (¬ c → Ok b Q) := by
  by_cases h : c <;> simp [h]
theorem ok_gIk {β : Type} {st : Sg} {j k : Nat} {f : Int32 → Option β} {Q : β → Prop} : Ok (gIk st j k f) Q ↔ Ok (f (gI st j k)) Q := Iff.rfl
theorem ok_sIk {β : Type} {st : Sg} {j k : Nat} {v : Int32} {f : Sg → Option β} {Q : β → Prop} : Ok (sIk st j k v f) Q ↔ Ok (f (pI st j k v)) Q := Iff.rfl
theorem ok_nmk {β α : Type} {e : α} {f : α → Option β} {Q : β → Prop} : Ok (nmk e f) Q ↔ Ok (f e) Q := Iff.rfl
theorem ok_lAk {β : Type} {st : Sg} {j k n : Nat} {i : Int32} {f : Int32 → Option β} {Q : β → Prop} : Ok (lAk st j k n i f) Q ↔ vpb i n = true ∧ Ok (f (gA st j k i.toNatClampNeg)) Q := by
  unfold lAk
  by_cases h : vpb i n = true <;> simp [h, ok_none]
theorem ok_lLk {β : Type} {st : Sg} {j k n : Nat} {i : Int32} {f : Int64 → Option β} {Q : β → Prop} : Ok (lLk st j k n i f) Q ↔ vpb i n = true ∧ Ok (f (gL st j k i.toNatClampNeg)) Q := by
  unfold lLk
  by_cases h : vpb i n = true <;> simp [h, ok_none]
theorem ok_sAk {β : Type} {st : Sg} {j k n : Nat} {i x : Int32} {f : Sg → Option β} {Q : β → Prop} : Ok (sAk st j k n i x f) Q ↔ vpb i n = true ∧ Ok (f (pA st j k (upd (gA st j k) i.toNatClampNeg x))) Q := by
  unfold sAk
  by_cases h : vpb i n = true <;> simp [h, ok_none]
theorem ok_sZk {β : Type} {st : Sg} {j k n : Nat} {i x : Int32} {f : Sg → Option β} {Q : β → Prop} : Ok (sZk st j k n i x f) Q ↔ vpb i n = true ∧ Ok (f (pA st j k (upd (gA st j k) i.toNatClampNeg (vp_nar .boolean x)))) Q := by
  unfold sZk
  by_cases h : vpb i n = true <;> simp [h, ok_none]
theorem ok_sLk {β : Type} {st : Sg} {j k n : Nat} {i : Int32} {x : Int64} {f : Sg → Option β} {Q : β → Prop} : Ok (sLk st j k n i x f) Q ↔ vpb i n = true ∧ Ok (f (pL st j k (vp_updL (gL st j k) i.toNatClampNeg x))) Q := by
  unfold sLk
  by_cases h : vpb i n = true <;> simp [h, ok_none]
theorem ok_dvk {β : Type} {y : Int32} {f : Option β} {Q : β → Prop} : Ok (dvk y f) Q ↔ ¬ y = 0 ∧ Ok f Q := by
  unfold dvk
  by_cases h : y = 0 <;> simp [h, ok_none]
theorem ok_dlk {β : Type} {y : Int64} {f : Option β} {Q : β → Prop} : Ok (dlk y f) Q ↔ ¬ y = 0 ∧ Ok f Q := by
  unfold dlk
  by_cases h : y = 0 <;> simp [h, ok_none]
theorem ok_clk {β ρ : Type} {m : Option (ρ × Sg)} {f : ρ → Sg → Option β} {Q : β → Prop} : Ok (clk m f) Q ↔ Ok m (fun q => Ok (f q.1 q.2) Q) := by
  unfold clk
  cases m with
  | none => simp [ok_none]
  | some q => simp [ok_some]
theorem ok_lpk {σ ρ β : Type} {step : σ → Option (σ ⊕ ρ)} {n : Nat} {s : σ} {f : ρ → Option β} {Q : β → Prop} : Ok (lpk step n s f) Q ↔ Ok (lp step n s) (fun r => Ok (f r) Q) := by
  unfold lpk
  cases lp step n s with
  | none => simp [ok_none]
  | some q => simp [ok_some]
/-- a loop by an invariant and a measure below the fuel -/
theorem ok_lp {σ ρ : Type} {step : σ → Option (σ ⊕ ρ)} {Q : ρ → Prop} (I : σ → Prop) (μ : σ → Nat) (hs : ∀ s, I s → Ok (step s) (fun o => Sum.elim (fun s' => I s' ∧ μ s' < μ s) Q o)) : ∀ (n : Nat) (s : σ), I s → μ s < n → Ok (lp step n s) Q := by
  intro n
  induction n with
  | zero => intro s _ h; omega
  | succ n ih =>
    intro s hI hm
    obtain ⟨o, e, h⟩ := hs s hI
    unfold lp
    rw [e]
    cases o with
    | inl s' => exact ih s' h.1 (by have := h.2; omega)
    | inr r => exact ⟨r, rfl, h⟩
/-- a loop that counts from i to e, the state a function of the count -/
theorem ok_for {σ ρ : Type} {step : σ → Option (σ ⊕ ρ)} {Q : ρ → Prop} (e : Nat) (I : Nat → σ → Prop) (hs : ∀ i s, i < e → I i s → Ok (step s) (fun o => Sum.elim (fun s' => I (i + 1) s') Q o)) (hx : ∀ s, I e s → Ok (step s) (fun o => Sum.elim (fun _ => False) Q o)) : ∀ (n i : Nat) (s : σ), i ≤ e → e - i < n → I i s → Ok (lp step n s) Q := by
  intro n
  induction n with
  | zero => intro i s _ h; omega
  | succ n ih =>
    intro i s hi hm hI
    unfold lp
    by_cases q : i < e
    · obtain ⟨o, e1, h⟩ := hs i s q hI
      rw [e1]
      cases o with
      | inl s' => exact ih (i + 1) s' (by omega) (by omega) h
      | inr r => exact ⟨r, rfl, h⟩
    · have ee : i = e := by omega
      subst ee
      obtain ⟨o, e1, h⟩ := hx s hI
      rw [e1]
      cases o with
      | inl s' => exact h.elim
      | inr r => exact ⟨r, rfl, h⟩
-- the state's rows
theorem gI_pI (s : Sg) (j k a b : Nat) (v : Int32) : gI (pI s j k v) a b = if a = j then (if b = k then v else gI s a b) else gI s a b := rfl
theorem gA_pA2 (s : Sg) (j k a b : Nat) (v : Nat → Int32) : gA (pA s j k v) a b = if a = j then (if b = k then v else gA s a b) else gA s a b := rfl
theorem gL_pL (s : Sg) (j k a b : Nat) (v : Nat → Int64) : gL (pL s j k v) a b = if a = j then (if b = k then v else gL s a b) else gL s a b := rfl
theorem gI_pA (s : Sg) (j k a b : Nat) (v : Nat → Int32) : gI (pA s j k v) a b = gI s a b := rfl
theorem gI_pL (s : Sg) (j k a b : Nat) (v : Nat → Int64) : gI (pL s j k v) a b = gI s a b := rfl
theorem gA_pI (s : Sg) (j k a b : Nat) (v : Int32) : gA (pI s j k v) a b = gA s a b := rfl
theorem gA_pL (s : Sg) (j k a b : Nat) (v : Nat → Int64) : gA (pL s j k v) a b = gA s a b := rfl
theorem gL_pI (s : Sg) (j k a b : Nat) (v : Int32) : gL (pI s j k v) a b = gL s a b := rfl
theorem gL_pA (s : Sg) (j k a b : Nat) (v : Nat → Int32) : gL (pA s j k v) a b = gL s a b := rfl
-- numbers
theorem fx_lt (a b : Int32) : a < b ↔ a.toInt < b.toInt := Int32.lt_iff_toInt_lt
theorem fx_le (a b : Int32) : a ≤ b ↔ a.toInt ≤ b.toInt := Int32.le_iff_toInt_le
theorem fx_eq (a b : Int32) : a = b ↔ a.toInt = b.toInt := Int32.toInt_inj.symm
theorem vpb_iff {i : Int32} {n : Nat} : vpb i n = true ↔ 0 ≤ i.toInt ∧ i.toInt < (n : Int) := by
  unfold vpb
  have h0 : (0 : Int32).toInt = 0 := rfl
  have hc : (i.toNatClampNeg : Int) = max i.toInt 0 := by
    show ((i.toInt.toNat : Nat) : Int) = max i.toInt 0
    omega
  simp only [Bool.and_eq_true, Bool.not_eq_true', decide_eq_false_iff_not, decide_eq_true_eq, fx_lt, h0]
  omega
theorem vpb_nI {i n : Nat} (h : i < n) (hn : n < 2 ^ 31) : vpb (nI i) n = true := by
  rw [vpb_iff, nI_toInt (by omega)]
  omega
theorem fx_cl {i : Int32} (h : 0 ≤ i.toInt) : (i.toNatClampNeg : Int) = i.toInt := by
  show ((i.toInt.toNat : Nat) : Int) = i.toInt
  omega
theorem fx_rng (x : Int32) : -2147483648 ≤ x.toInt ∧ x.toInt < 2147483648 := ⟨Int32.le_toInt x, Int32.toInt_lt x⟩
theorem fx_bm {z : Int} (h1 : -2147483648 ≤ z) (h2 : z < 2147483648) : z.bmod (2 ^ 32) = z := by
  rw [Int.bmod_def]
  omega
theorem fx_add {x y : Int32} (h1 : -2147483648 ≤ x.toInt + y.toInt) (h2 : x.toInt + y.toInt < 2147483648) : (x + y).toInt = x.toInt + y.toInt := by
  rw [Int32.toInt_add, fx_bm h1 h2]
theorem fx_sub {x y : Int32} (h1 : -2147483648 ≤ x.toInt - y.toInt) (h2 : x.toInt - y.toInt < 2147483648) : (x - y).toInt = x.toInt - y.toInt := by
  rw [Int32.toInt_sub, fx_bm h1 h2]
theorem fx_mul {x y : Int32} (h1 : -2147483648 ≤ x.toInt * y.toInt) (h2 : x.toInt * y.toInt < 2147483648) : (x * y).toInt = x.toInt * y.toInt := by
  rw [Int32.toInt_mul, fx_bm h1 h2]
theorem fx_neg {x : Int32} (h : x.toInt ≠ -2147483648) : (-x).toInt = -x.toInt := by
  have := fx_rng x
  rw [Int32.toInt_neg, fx_bm (by omega) (by omega)]
/-- a number that isn't negative is nI of its size -/
theorem fx_nI {x : Int32} (h : 0 ≤ x.toInt) : x = nI x.toNatClampNeg := by
  rw [fx_eq, nI_toInt (by have := fx_cl h; have := fx_rng x; omega), fx_cl h]
