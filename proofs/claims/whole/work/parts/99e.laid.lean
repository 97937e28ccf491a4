-- 99e.laid: laid runs: one act that may begin, on both sides
def bfr (B : Nat → Nat) (b now a x u : Nat) : Prop := B x + u * b < now ∨ (B x + u * b = now ∧ x < a)
def Dl (B : Nat → Nat) (b n K now a lim : Nat) (x u : Nat) : Prop := x < n ∧ u < K ∧ bfr B b now a x u ∧ 16 * u + x < lim
/-- both sides in a laid run, ahead of act a at tick now -/
def LJ (j : Nat) (sx0 sm0 sx sm : Sg) (n K b : Nat) (B : Nat → Nat) (now a lim : Nat) : Prop := FrR j sx0 sx ∧ FrN sm0 sm ∧ JEf (gA sm0 0 23) (gL sm0 0 7) (gL sx 5 2) (gL sm 0 21) (gL sx 13 3) (gL sm 0 37) (Dl B b n K now a lim) ∧ gI sx j 3 = gI sm 0 41 ∧ gI sx j 4 = gI sm 0 42 ∧ gI sx j 1 = gI sm 0 39 ∧ gI sx j 2 = gI sm 0 40 ∧ gI sx j 0 = gI sm 0 38 ∧ gI sx j 5 = 1 ∧ ((gI sx j 0 = 0 ∧ lim = 16 * K) ∨ ∃ a' t', ¬ gI sx j 0 = 0 ∧ gI sx j 1 = nI a' ∧ gI sx j 2 = nI t' ∧ a' < n ∧ t' < K ∧ lim = 16 * t' + a' ∧ bfr B b now a a' t')
theorem bfr_up {B : Nat → Nat} {b now a x u : Nat} (h : bfr B b now a x u) : bfr B b now (a + 1) x u := by
  unfold bfr at h ⊢
  omega
section LD
variable {sx0 sm0 : Sg} {n j K b : Nat} {B : Nat → Nat}
/-- act a doesn't begin at tick now: nothing changes -/
theorem lj_skip {sx sm : Sg} {now a lim : Nat} (h : LJ j sx0 sm0 sx sm n K b B now a lim) (hs : ∀ u, u < K → B a + u * b = now → lim ≤ 16 * u + a) : LJ j sx0 sm0 sx sm n K b B now (a + 1) lim := by
  obtain ⟨f, g, e, p3, p4, p1, p2, p0, p5, q⟩ := h
  refine ⟨f, g, ⟨e.1, fun x u hd => e.2.1 x u ?_, e.2.2⟩, p3, p4, p1, p2, p0, p5, ?_⟩
  · obtain ⟨d1, d2, d3, d4⟩ := hd
    refine ⟨d1, d2, ?_, d4⟩
    unfold bfr at d3 ⊢
    rcases d3 with d3 | ⟨d3, d5⟩
    · exact Or.inl d3
    · by_cases c : x = a
      · subst c
        have := hs u d2 d3
        omega
      · exact Or.inr ⟨d3, by omega⟩
  · rcases q with q | ⟨a', t', q1, q2, q3, q4, q5, q6, q7⟩
    · exact Or.inl q
    · exact Or.inr ⟨a', t', q1, q2, q3, q4, q5, q6, bfr_up q7⟩
theorem lim_le2 {sx sm : Sg} {now a lim : Nat} (hn : n ≤ 16) (h : LJ j sx0 sm0 sx sm n K b B now a lim) : lim ≤ 16 * K := by
  obtain ⟨-, -, -, -, -, -, -, -, -, q⟩ := h
  rcases q with q | ⟨a', t', q1, q2, q3, q4, q5, q6, q7⟩
  · omega
  · omega
/-- what the class looks at ahead of a begin -/
theorem ends_ahead {sx sm : Sg} {now a lim t : Nat} (hn : n ≤ 16) (hK : K ≤ 200) (ha : a < n) (ht : t < K) (hb : 1 ≤ b) (hnow : B a + t * b = now) (h : LJ j sx0 sm0 sx sm n K b B now a lim) : (16 * t + a < lim → m_X5_endsAheadOf j (nI a) (nI t) sx = some (0, sx)) ∧ (¬ 16 * t + a < lim → m_X5_endsAheadOf j (nI a) (nI t) sx = some (1, sx)) := by
  obtain ⟨-, -, -, -, -, -, -, -, -, q⟩ := h
  rcases q with ⟨q1, q2⟩ | ⟨a', t', q1, q2, q3, q4, q5, q6, q7⟩
  · refine ⟨fun _ => ?_, fun c => by omega⟩
    rw [m_X5_endsAheadOf, gIk, if_pos q1]
  · have hne : ¬ (a = a' ∧ t = t') := fun z => by
      obtain ⟨z1, z2⟩ := z
      subst z1 z2
      unfold bfr at q7
      omega
    rw [m_X5_endsAheadOf, gIk, if_neg q1, gIk, q3]
    by_cases c1 : t' < t
    · rw [if_pos (nI_lt c1 (by omega))]
      exact ⟨fun c => by omega, fun _ => rfl⟩
    · rw [if_neg (nI_nlt (by omega) (by omega)), gIk, q3]
      by_cases c2 : t = t'
      · subst c2
        rw [if_pos rfl, gIk, q2]
        by_cases c3 : a ≤ a'
        · have : nI a ≤ nI a' := by rw [fx_le, nI_toInt (by omega), nI_toInt (by omega)]; omega
          rw [if_pos this]
          exact ⟨fun _ => rfl, fun c => by omega⟩
        · have : ¬ nI a ≤ nI a' := by rw [fx_le, nI_toInt (by omega), nI_toInt (by omega)]; omega
          rw [if_neg this]
          exact ⟨fun c => by omega, fun _ => rfl⟩
      · rw [if_neg (fun z => c2 (nI_inj (by omega) (by omega) z))]
        exact ⟨fun _ => rfl, fun c => by omega⟩
/-- act a begins at tick now for turn t -/
theorem laid_do {sx sm : Sg} {now a lim t : Nat} (hj : j = 14 ∨ j = 15 ∨ j = 16) (hC : RunC sx0 sm0 n) (hK : K ≤ 200) (hb : 1 ≤ b) (hedge : ∀ a w, a < n → w < 3 → 0 ≤ (gA sm0 0 5 (3 * a + w)).toInt → B (gA sm0 0 5 (3 * a + w)).toNatClampNeg + 1 ≤ B a + b * (gA sm0 0 6 (3 * a + w)).toNatClampNeg) (ha : a < n) (ht : t < K) (hnow : B a + t * b = now) (hl : 16 * t + a < lim) (h : LJ j sx0 sm0 sx sm n K b B now a lim) : ∃ (W : Int32) (s6 s26 : Sg), m_X7_begin j (nI a) (nI t) sx = some ((), s6) ∧ m_X12_does (nI a) (nI t) (pI (pI sm 0 41 (gI sm 0 41 + 1)) 0 42 (nI now + 1)) = some (W, s26) ∧ (W = 0 → LJ j sx0 sm0 (pI s6 j 4 (nI now + 1)) s26 n K b B now (a + 1) lim) ∧ (¬ W = 0 → LJ j sx0 sm0 (pI s6 j 4 (nI now + 1)) (pI (pI (pI s26 0 38 W) 0 39 (nI a)) 0 40 (nI t)) n K b B now (a + 1) (16 * t + a)) := by
  obtain ⟨hB, hx1, hm9, hlag, hn, hn0, hops⟩ := hC
  obtain ⟨f, g, e, p3, p4, p1, p2, p0, p5, q⟩ := h
  obtain ⟨s8, hs8⟩ : ∃ s, s = pI (pI sm 0 41 (gI sm 0 41 + 1)) 0 42 (nI now + 1) := ⟨_, rfl⟩
  have g8 : FrN sm0 s8 := by rw [hs8]; exact (g.trans (frN_I _ (by omega) _)).trans (frN_I _ (by omega) _)
  have L8 : ∀ k, gL s8 0 k = gL sm 0 k := fun k => by rw [hs8]; rfl
  have I8 : gI s8 0 41 = gI sm 0 41 + 1 ∧ gI s8 0 42 = nI now + 1 ∧ gI s8 0 38 = gI sm 0 38 ∧ gI s8 0 39 = gI sm 0 39 ∧ gI s8 0 40 = gI sm 0 40 := by rw [hs8]; exact ⟨rfl, rfl, rfl, rfl, rfl⟩
  obtain ⟨i1, i2, i3, i4, i5⟩ := I8
  obtain ⟨W, RX, RM, EX, EM, k0, k1⟩ := act_joint (sx := sx) (sm := s8) (n := n) (a := a) (t := t) (j := j) (D := Dl B b n K now a lim) hj hn ha (by omega) (bds_fr hj hB f g8) (by
      rw [g8.2.1 23, g8.2.2 7 (by omega) (by omega), L8, L8]
      exact e) (fun w hw h0 hk => by
      rw [g8.2.1 5] at h0 ⊢
      rw [g8.2.1 6] at hk ⊢
      obtain ⟨r1, r2, r3⟩ := hops a w ha hw h0
      have c1 := fx_cl h0
      have c2 := fx_cl r3.1
      have ed := hedge a w ha hw h0
      generalize hx : (gA sm0 0 5 (3 * a + w)).toNatClampNeg = x at *
      generalize hkk : (gA sm0 0 6 (3 * a + w)).toNatClampNeg = k at *
      have hxn : x < n := by omega
      have em : (t - k) * b + b * k = t * b := by
        rw [Nat.mul_comm b k, ← Nat.add_mul]
        congr 1
        omega
      refine ⟨hxn, by omega, Or.inl (by omega), ?_⟩
      by_cases c : k = 0
      · have := r2 (by omega)
        subst c
        omega
      · omega)
  rw [← hs8]
  have z : ∀ (s : Sg) (k : Nat), k ≠ 4 → gI (pI s j 4 (nI now + 1)) j k = gI s j k := fun s k hk => by rw [gI_pI, if_pos rfl, if_neg hk]
  have z4 : ∀ (s : Sg), gI (pI s j 4 (nI now + 1)) j 4 = nI now + 1 := fun s => by rw [gI_pI, if_pos rfl, if_pos rfl]
  by_cases c : W = 0
  · obtain ⟨b1, b2, b3⟩ := k0 c
    refine ⟨W, _, _, b1, by rw [c]; exact b2, fun _ => ?_, fun c' => absurd c c'⟩
    have zi : ∀ k, k ≠ 4 → k ≠ 3 → gI (pI (pL (pL (pI sx j 3 (gI sx j 3 + 1)) 5 2 RX) 13 3 EX) j 4 (nI now + 1)) j k = gI sx j k := fun k h4 h3 => by
      rw [z _ k h4]
      show gI (pI sx j 3 (gI sx j 3 + 1)) j k = _
      rw [gI_pI, if_pos rfl, if_neg h3]
    refine ⟨(((f.trans (frR_I j _ _ _)).trans (frR_5 j _ _)).trans (frR_13 j _ _)).trans (frR_I j _ _ _), (g8.trans (frN_L _ (by omega) _)).trans (frN_L _ (by omega) _), ?_, ?_, ?_, ?_, ?_, ?_, ?_, ?_⟩
    · have r := b3 (Dl B b n K now (a + 1) lim) (fun x u hd => by
        obtain ⟨d1, d2, d3, d4⟩ := hd
        refine ⟨by omega, ?_⟩
        by_cases c' : x = a ∧ u = t
        · exact Or.inr c'
        · refine Or.inl ⟨d1, d2, ?_, d4⟩
          unfold bfr at d3 ⊢
          rcases d3 with d3 | ⟨d3, d5⟩
          · exact Or.inl d3
          · by_cases cx : x = a
            · subst cx
              have : u * b = t * b := by omega
              have := Nat.eq_of_mul_eq_mul_right (by omega) this
              exact absurd ⟨rfl, this⟩ c'
            · exact Or.inr ⟨d3, by omega⟩)
      rw [g8.2.1 23, g8.2.2 7 (by omega) (by omega)] at r
      exact r
    · rw [z _ 3 (by omega)]
      show gI (pI sx j 3 (gI sx j 3 + 1)) j 3 = gI s8 0 41
      rw [gI_pI, if_pos rfl, if_pos rfl, i1, p3]
    · rw [z4]
      exact i2.symm
    · rw [zi 1 (by omega) (by omega), p1]; exact i4.symm
    · rw [zi 2 (by omega) (by omega), p2]; exact i5.symm
    · rw [zi 0 (by omega) (by omega), p0]; exact i3.symm
    · rw [zi 5 (by omega) (by omega)]; exact p5
    · rw [zi 0 (by omega) (by omega), zi 1 (by omega) (by omega), zi 2 (by omega) (by omega)]
      rcases q with q | ⟨a', t', q1, q2, q3, q4, q5, q6, q7⟩
      · exact Or.inl q
      · exact Or.inr ⟨a', t', q1, q2, q3, q4, q5, q6, bfr_up q7⟩
  · obtain ⟨b1, b2⟩ := k1 c
    refine ⟨W, _, _, b1, b2, fun c' => absurd c' c, fun _ => ?_⟩
    obtain ⟨s6, hs6⟩ : ∃ s, s = pI (pI (pI (pI sx j 3 (gI sx j 3 + 1)) j 0 W) j 1 (nI a)) j 2 (nI t) := ⟨_, rfl⟩
    rw [← hs6]
    have f6 : FrR j sx0 s6 := by rw [hs6]; exact (((f.trans (frR_I j _ _ _)).trans (frR_I j _ _ _)).trans (frR_I j _ _ _)).trans (frR_I j _ _ _)
    have L6 : ∀ x y, gL s6 x y = gL sx x y := fun x y => by rw [hs6]; rfl
    have i6 : gI s6 j 3 = gI sx j 3 + 1 ∧ gI s6 j 0 = W ∧ gI s6 j 1 = nI a ∧ gI s6 j 2 = nI t ∧ gI s6 j 5 = gI sx j 5 := by
      rw [hs6]
      refine ⟨?_, ?_, ?_, ?_, ?_⟩ <;> simp [gI_pI]
    obtain ⟨y3, y0, y1, y2, y5⟩ := i6
    have nowlt : ∀ x u, Dl B b n K now (a + 1) (16 * t + a) x u → Dl B b n K now a lim x u := fun x u hd => by
      obtain ⟨d1, d2, d3, d4⟩ := hd
      refine ⟨d1, d2, ?_, by omega⟩
      unfold bfr at d3 ⊢
      rcases d3 with d3 | ⟨d3, d5⟩
      · exact Or.inl d3
      · by_cases cx : x = a
        · subst cx
          have : u * b = t * b := by omega
          have := Nat.eq_of_mul_eq_mul_right (by omega) this
          omega
        · exact Or.inr ⟨d3, by omega⟩
    refine ⟨f6.trans (frR_I j _ _ _), ((g8.trans (frN_I _ (by omega) _)).trans (frN_I _ (by omega) _)).trans (frN_I _ (by omega) _), ?_, ?_, ?_, ?_, ?_, ?_, ?_, ?_⟩
    · show JEf _ _ (gL s6 5 2) (gL s8 0 21) (gL s6 13 3) (gL s8 0 37) _
      rw [L6, L6, L8, L8]
      exact ⟨e.1, fun x u hd => e.2.1 x u (nowlt x u hd), e.2.2⟩
    · rw [z _ 3 (by omega), y3, p3]; exact i1.symm
    · rw [z4]; exact i2.symm
    · rw [z _ 1 (by omega), y1]; rfl
    · rw [z _ 2 (by omega), y2]; rfl
    · rw [z _ 0 (by omega), y0]; rfl
    · rw [z _ 5 (by omega), y5]; exact p5
    · refine Or.inr ⟨a, t, ?_, ?_, ?_, ha, ht, rfl, ?_⟩
      · rw [z _ 0 (by omega), y0]; exact c
      · rw [z _ 1 (by omega), y1]
      · rw [z _ 2 (by omega), y2]
      · unfold bfr; omega
end LD
