-- 99lc.order: what the edges of stores and of clashes say of a laid run's order
section OR
variable {s0 : Sg} {n t0 b : Nat} {B : Nat → Nat}
theorem sol_1 (hn : n ≤ 16) (hs : SolG ((allX s0 n t0).map (geI b)) (fun a => (B a : Int))) {x y k : Nat} (hx : x < n) (hy : y < n) (hk : k ≤ 1) (hm : (nI x, nI y, 1, nI k) ∈ allX s0 n t0) : B x + 1 ≤ B y + b * k := by
  have q := hs _ (List.mem_map.mpr ⟨_, hm, rfl⟩)
  have q' : (B (nI x).toNatClampNeg : Int) + ((1 : Int32).toInt - (b : Int) * (nI k).toInt) ≤ (B (nI y).toNatClampNeg : Int) := q
  rw [nI_clamp (by omega), nI_clamp (by omega), nI_toInt (by omega), ti_1] at q'
  have e : (b : Int) * (k : Int) = ((b * k : Nat) : Int) := rfl
  rw [e] at q'
  omega
/-- a store comes behind every act that may be refused and lies ahead of it -/
theorem ord_store (hn : n ≤ 16) (hb : 1 ≤ b) (hs : SolG ((allX s0 n t0).map (geI b)) (fun a => (B a : Int))) {a c u t : Nat} (ha : a < n) (hc : c < n) (h5 : gA s0 1 1 c = 5) (h3 : gA s0 1 1 a = 3 ∨ gA s0 1 1 a = 4 ∨ gA s0 1 1 a = 5) (hbe : u < t ∨ (u = t ∧ a < c)) : B a + u * b < B c + t * b := by
  by_cases e : a = c
  · subst e
    have : u < t := by omega
    have := Nat.mul_lt_mul_of_pos_right this (show 0 < b by omega)
    omega
  have mem : ∀ x, (x = (nI a, nI c, (1 : Int32), (1 : Int32)) ∨ (a < c ∧ x = (nI a, nI c, (1 : Int32), (0 : Int32)))) → x ∈ allX s0 n t0 := fun x hx => by
    unfold allX edX
    refine List.mem_append_left _ (List.mem_flatMap.mpr ⟨c, List.mem_range.mpr hc, List.mem_append_right _ ?_⟩)
    rw [if_pos h5]
    unfold storeE
    refine List.mem_cons_of_mem _ (List.mem_flatMap.mpr ⟨a, List.mem_range.mpr ha, ?_⟩)
    have cnd : a ≠ c ∧ (gA s0 1 1 a = 3 ∨ gA s0 1 1 a = 4 ∨ gA s0 1 1 a = 5) := ⟨e, h3⟩
    rw [if_pos cnd]
    rcases hx with rfl | ⟨h, rfl⟩
    · exact List.mem_append_right _ (List.mem_singleton.mpr rfl)
    · rw [if_pos h]
      exact List.mem_append_left _ (List.mem_singleton.mpr rfl)
  rcases hbe with hu | ⟨hu, hac⟩
  · have r := sol_1 hn hs ha hc (show 1 ≤ 1 by omega) (mem _ (Or.inl rfl))
    have m := Nat.mul_le_mul_right b (show u + 1 ≤ t by omega)
    rw [Nat.add_mul, Nat.one_mul] at m
    omega
  · have r := sol_1 hn hs ha hc (show 0 ≤ 1 by omega) (mem _ (Or.inr ⟨hac, rfl⟩))
    subst hu
    omega
/-- acts of the same slot, one of them a store, come in program order -/
theorem ord_clash (hn : n ≤ 16) (hb : 1 ≤ b) (hs : SolG ((allX s0 n t0).map (geI b)) (fun a => (B a : Int))) {a c u t : Nat} (ha : a < n) (hc : c < n) (ra : gA s0 1 1 a = 4 ∨ gA s0 1 1 a = 5) (rc : gA s0 1 1 c = 4 ∨ gA s0 1 1 c = 5) (hsl : gA s0 1 5 a = gA s0 1 5 c) (h5 : gA s0 1 1 a = 5 ∨ gA s0 1 1 c = 5) (hbe : u < t ∨ (u = t ∧ a < c)) : B a + u * b < B c + t * b := by
  by_cases e : a = c
  · subst e
    have : u < t := by omega
    have := Nat.mul_lt_mul_of_pos_right this (show 0 < b by omega)
    omega
  have mem : ∀ y z, y < n → z < n → y < z → (gA s0 1 1 y = 4 ∨ gA s0 1 1 y = 5) → (gA s0 1 1 z = 4 ∨ gA s0 1 1 z = 5) → gA s0 1 5 y = gA s0 1 5 z → (gA s0 1 1 y = 5 ∨ gA s0 1 1 z = 5) → (nI y, nI z, (1 : Int32), (0 : Int32)) ∈ allX s0 n t0 ∧ (nI z, nI y, (1 : Int32), (1 : Int32)) ∈ allX s0 n t0 := fun y z hy hz hyz r1 r2 r3 r4 => by
    have sub : ∀ x, x ∈ clashE (gA s0 1 1) (gA s0 1 5) z → x ∈ allX s0 n t0 := fun x hx => by
      unfold allX edX
      exact List.mem_append_left _ (List.mem_flatMap.mpr ⟨z, List.mem_range.mpr hz, List.mem_append_left _ (List.mem_append_right _ hx)⟩)
    have cnd : (gA s0 1 1 y = 4 ∨ gA s0 1 1 y = 5) ∧ (gA s0 1 1 z = 4 ∨ gA s0 1 1 z = 5) ∧ gA s0 1 5 y = gA s0 1 5 z ∧ (gA s0 1 1 y = 5 ∨ gA s0 1 1 z = 5) := ⟨r1, r2, r3, r4⟩
    refine ⟨sub _ ?_, sub _ ?_⟩
    · unfold clashE
      refine List.mem_flatMap.mpr ⟨y, List.mem_range.mpr hyz, ?_⟩
      rw [if_pos cnd]
      exact List.mem_cons_self
    · unfold clashE
      refine List.mem_flatMap.mpr ⟨y, List.mem_range.mpr hyz, ?_⟩
      rw [if_pos cnd]
      exact List.mem_cons_of_mem _ (List.mem_singleton.mpr rfl)
  by_cases hac : a < c
  · have r := sol_1 hn hs ha hc (show 0 ≤ 1 by omega) (mem a c ha hc hac ra rc hsl h5).1
    have m := Nat.mul_le_mul_right b (show u ≤ t by omega)
    omega
  · have hu : u < t := by omega
    have r := sol_1 hn hs ha hc (show 1 ≤ 1 by omega) (mem c a hc ha (by omega) rc ra hsl.symm (by
      rcases h5 with q | q
      · exact Or.inr q
      · exact Or.inl q)).2
    have m := Nat.mul_le_mul_right b (show u + 1 ≤ t by omega)
    rw [Nat.add_mul, Nat.one_mul] at m
    omega
end OR
