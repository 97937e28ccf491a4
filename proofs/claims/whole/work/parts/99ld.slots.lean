-- 99ld.slots: a slot's rows change by its own stores alone
theorem opR_slot {sort slot size wide : Nat → Int32} {a sl i : Nat} {X Y : Int64} {R : Nat → Int64} (hsl : sort a = 4 ∨ sort a = 5 → inR (slot a) 0 7) (hsz : ∀ k, k < 8 → inR (size k) 0 40) (hw : opW sort slot size wide a X Y = 0) (hne : ¬ (sort a = 5 ∧ (slot a).toNatClampNeg = sl)) (hi : i < 40) : opR sort slot a X Y R (40 * sl + i) = R (40 * sl + i) := by
  unfold opR
  by_cases c : sort a = 5
  · have hs := hsl (Or.inr c)
    have cs := fx_cl hs.1
    unfold opW at hw
    rw [if_pos (Or.inr c)] at hw
    have hp := why_place hw (hsz _ (by have := hs.2; omega))
    rw [if_pos c, updL_i, if_neg]
    unfold plN
    intro q
    refine hne ⟨c, ?_⟩
    omega
  · rw [if_neg c]
/-- in a turn: from act x to act y without a store of the slot -/
theorem rt_turn {s0 : Sg} {n u sl : Nat} {E : Nat → Int64} {Rt : Nat → Nat → Nat → Int64} (hC : XC s0 n) : ∀ (d x : Nat), x + d ≤ n → (∀ y, x ≤ y → y < x + d → EvX s0 E (Rt u y) (Rt u (y + 1)) y u ∧ ¬ (gA s0 1 1 y = 5 ∧ (gA s0 1 5 y).toNatClampNeg = sl)) → ∀ i, i < 40 → Rt u (x + d) (40 * sl + i) = Rt u x (40 * sl + i) := by
  intro d
  induction d with
  | zero => intro x _ _ i _; rfl
  | succ d ih =>
    intro x hx h i hi
    have r := ih x (by omega) (fun y h1 h2 => h y h1 (by omega)) i hi
    obtain ⟨⟨e1, e2, e3⟩, e4⟩ := h (x + d) (by omega) (by omega)
    rw [show x + (d + 1) = (x + d) + 1 by omega, e3, opR_slot (hC.2.2.2.1 (x + d) (by omega)).2.1 hC.2.2.2.2.1 e1 e4 hi]
    exact r
