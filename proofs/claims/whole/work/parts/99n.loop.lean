-- 99n.loop: the law's loop
theorem law_step {xs : Nat → Int32} {L i : Nat} {sx sm : Sg} (hcmp : ∀ (K : Int32) (sx sm : Sg), Rel sx sm → Sim (m_X11_compare K sx) (m_X12_compare K sm)) (hi : i + 6 ≤ L) (hL : L ≤ 3072) (h : Rel sx sm) : ∃ sx' sm', m_law xs L (nI i) sx sm = some (.inl (nI (i + 6), sx', sm')) ∧ Rel sx' sm' := by
  have t6 : (6 : Int32).toInt = 6 := rfl
  have eL : (Int32.ofNat L).toInt = (L : Int) := nI_toInt (show L < 2 ^ 31 by omega)
  have hg : ¬ Int32.ofNat L - 6 < nI i := by
    rw [fx_lt, fx_sub (by rw [eL, t6]; omega) (by rw [eL, t6]; omega), eL, t6, nI_toInt (by omega)]
    omega
  rw [m_law, if_neg hg, sck, if_pos (vpb_nI (show i < L by omega) (by omega)), nI_clamp (by omega), nmk]
  by_cases z0 : (xs i &&& 63) = 0
  · rw [if_pos z0]
    exact l_c0 hi hL h
  rw [if_neg z0]
  by_cases z1 : (xs i &&& 63) = 1
  · rw [if_pos z1]
    exact l_c1 hi hL h
  rw [if_neg z1]
  by_cases z2 : (xs i &&& 63) = 2
  · rw [if_pos z2]
    exact l_c2 hi hL h
  rw [if_neg z2]
  by_cases z3 : (xs i &&& 63) = 3
  · rw [if_pos z3]
    exact l_c3 hi hL h
  rw [if_neg z3]
  by_cases z4 : (xs i &&& 63) = 4
  · rw [if_pos z4]
    exact l_c4 hi hL h
  rw [if_neg z4]
  by_cases z5 : (xs i &&& 63) = 5
  · rw [if_pos z5]
    exact l_c5 hi hL h
  rw [if_neg z5]
  by_cases z6 : (xs i &&& 63) = 6
  · rw [if_pos z6]
    exact l_c6 hi hL h
  rw [if_neg z6]
  by_cases z7 : (xs i &&& 63) = 7
  · rw [if_pos z7]
    exact l_c7 hi hL h
  rw [if_neg z7]
  by_cases z8 : (xs i &&& 63) = 8
  · rw [if_pos z8]
    exact l_c8 hi hL h
  rw [if_neg z8]
  by_cases z9 : (xs i &&& 63) = 9
  · rw [if_pos z9]
    exact l_c9 hi hL h
  rw [if_neg z9]
  by_cases z10 : (xs i &&& 63) = 10
  · rw [if_pos z10]
    exact l_c10 hi hL h
  rw [if_neg z10]
  by_cases z11 : (xs i &&& 63) = 11
  · rw [if_pos z11]
    exact l_c11 hi hL h
  rw [if_neg z11]
  by_cases z12 : (xs i &&& 63) = 12
  · rw [if_pos z12]
    exact l_c12 hi hL h
  rw [if_neg z12]
  by_cases z13 : (xs i &&& 63) = 13
  · rw [if_pos z13]
    exact l_c13 hi hL h
  rw [if_neg z13]
  by_cases z14 : (xs i &&& 63) = 14
  · rw [if_pos z14]
    exact l_c14 hi hL h
  rw [if_neg z14]
  by_cases z15 : (xs i &&& 63) = 15
  · rw [if_pos z15]
    exact l_c15 hi hL h
  rw [if_neg z15]
  by_cases z16 : (xs i &&& 63) = 16
  · rw [if_pos z16]
    exact l_c16 hi hL h
  rw [if_neg z16]
  by_cases z17 : (xs i &&& 63) = 17
  · rw [if_pos z17]
    exact l_c17 hi hL h
  rw [if_neg z17]
  by_cases z18 : (xs i &&& 63) = 18
  · rw [if_pos z18]
    exact l_c18 hi hL h
  rw [if_neg z18]
  by_cases z19 : (xs i &&& 63) = 19
  · rw [if_pos z19]
    exact l_c19 hi hL h
  rw [if_neg z19]
  by_cases z20 : (xs i &&& 63) = 20
  · rw [if_pos z20]
    exact l_c20 hi hL h
  rw [if_neg z20]
  by_cases z21 : (xs i &&& 63) = 21
  · rw [if_pos z21]
    exact l_c21 hi hL h
  rw [if_neg z21]
  by_cases z22 : (xs i &&& 63) = 22
  · rw [if_pos z22]
    exact l_c22 hi hL h
  rw [if_neg z22]
  by_cases z23 : (xs i &&& 63) = 23
  · rw [if_pos z23]
    exact l_c23 hi hL h
  rw [if_neg z23]
  by_cases z24 : (xs i &&& 63) = 24
  · rw [if_pos z24]
    exact l_c24 hi hL h
  rw [if_neg z24]
  by_cases z25 : (xs i &&& 63) = 25
  · rw [if_pos z25]
    exact l_c25 hi hL h
  rw [if_neg z25]
  by_cases z26 : (xs i &&& 63) = 26
  · rw [if_pos z26]
    exact l_c26 hi hL h
  rw [if_neg z26]
  by_cases z27 : (xs i &&& 63) = 27
  · rw [if_pos z27]
    exact l_c27 hi hL h
  rw [if_neg z27]
  by_cases z28 : (xs i &&& 63) = 28
  · rw [if_pos z28]
    exact l_c28 hi hL h
  rw [if_neg z28]
  by_cases z29 : (xs i &&& 63) = 29
  · rw [if_pos z29]
    exact l_c29 hi hL h
  rw [if_neg z29]
  by_cases z30 : (xs i &&& 63) = 30
  · rw [if_pos z30]
    exact l_c30 hi hL h
  rw [if_neg z30]
  by_cases z31 : (xs i &&& 63) = 31
  · rw [if_pos z31]
    exact l_c31 hi hL h
  rw [if_neg z31]
  by_cases z32 : (xs i &&& 63) = 32
  · rw [if_pos z32]
    exact l_c32 hi hL hcmp h
  rw [if_neg z32]
  by_cases z33 : (xs i &&& 63) = 33
  · rw [if_pos z33]
    exact l_c33 hi hL h
  rw [if_neg z33]
  by_cases z34 : (xs i &&& 63) = 34
  · rw [if_pos z34]
    exact l_c34 hi hL h
  rw [if_neg z34]
  by_cases z35 : (xs i &&& 63) = 35
  · rw [if_pos z35]
    exact l_c35 hi hL h
  rw [if_neg z35]
  by_cases z36 : (xs i &&& 63) = 36
  · rw [if_pos z36]
    exact l_c36 hi hL h
  rw [if_neg z36]
  exact l_cd h
theorem law_loop (hcmp : ∀ (K : Int32) (sx sm : Sg), Rel sx sm → Sim (m_X11_compare K sx) (m_X12_compare K sm)) {xs : Nat → Int32} {L : Nat} (hL : L ≤ 3072) : ∀ (d i : Nat) (sx sm : Sg) (N : Nat), L < i + d → i ≤ L + 6 → d < N → Rel sx sm → ∃ r, lp (fun s : Int32 × Sg × Sg => m_law xs L s.1 s.2.1 s.2.2) N (nI i, sx, sm) = some r := by
  have t6 : (6 : Int32).toInt = 6 := rfl
  have eL : (Int32.ofNat L).toInt = (L : Int) := nI_toInt (show L < 2 ^ 31 by omega)
  have stop : ∀ i sx sm, i ≤ L + 6 → ¬ i + 6 ≤ L → m_law xs L (nI i) sx sm = some (.inr (sx, sm)) := fun i sx sm h1 h2 => by
    have hg : Int32.ofNat L - 6 < nI i := by
      rw [fx_lt, fx_sub (by rw [eL, t6]; omega) (by rw [eL, t6]; omega), eL, t6, nI_toInt (by omega)]
      omega
    rw [m_law, if_pos hg]
  intro d
  induction d with
  | zero =>
    intro i sx sm N h1 h2 h3 h
    obtain ⟨N, rfl⟩ : ∃ M, N = M + 1 := ⟨N - 1, by omega⟩
    exact ⟨_, lp_end (by exact stop i sx sm h2 (by omega))⟩
  | succ d ih =>
    intro i sx sm N h1 h2 h3 h
    obtain ⟨N, rfl⟩ : ∃ M, N = M + 1 := ⟨N - 1, by omega⟩
    by_cases c : i + 6 ≤ L
    · obtain ⟨sx', sm', k1, k2⟩ := law_step (xs := xs) hcmp c hL h
      rw [lp_next (s' := (nI (i + 6), sx', sm')) (by exact k1)]
      exact ih (i + 6) sx' sm' N (by omega) (by omega) (by omega) k2
    · exact ⟨_, lp_end (by exact stop i sx sm h2 c)⟩
theorem goal_of (hcmp : ∀ (K : Int32) (sx sm : Sg), Rel sx sm → Sim (m_X11_compare K sx) (m_X12_compare K sm)) {st1 : Sg} (h1 : m_X12_init st00 = some ((), st1)) (h : Rel stX0 st1) : PureGoal := ⟨st1, h1, fun xs L hL => law_loop hcmp hL (L + 1) 0 stX0 st1 FU (by omega) (by omega) (FU_lt (by omega)) h⟩
