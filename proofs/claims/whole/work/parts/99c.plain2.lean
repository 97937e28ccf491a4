-- 99c.plain2: the loops of plain runs
section PL2
variable {sx0 sm0 : Sg} {n j : Nat}
theorem plain_in (hj : j = 14 ∨ j = 15 ∨ j = 16) (hC : RunC sx0 sm0 n) {t T : Nat} (ht : t < T) (hT : T ≤ 200) (x1 : Int32) : ∀ (d a : Nat) (sx sm : Sg) (N N' : Nat), a + d = n → d + 1 < N → d + 1 < N' → PJ j sx0 sm0 sx sm n t a → ∃ sx' sm', (lp (fun s : (Int32 × Sg) => m_X7_goPlain_L17 j x1 (nI t) s.1 s.2) N (nI a, sx) = some sx' ∧ lp (fun s : (Int32 × Sg) => m_X12_plain_L9 (nI T) (nI t) s.1 s.2) N' (nI a, sm) = some (.inl sm') ∧ PJ j sx0 sm0 sx' sm' n t n) ∨ ∃ a', a' < n ∧ lp (fun s : (Int32 × Sg) => m_X7_goPlain_L17 j x1 (nI t) s.1 s.2) N (nI a, sx) = some sx' ∧ lp (fun s : (Int32 × Sg) => m_X12_plain_L9 (nI T) (nI t) s.1 s.2) N' (nI a, sm) = some (.inr (nI a', sm')) ∧ RJ j sx0 sm0 sx' sm' n t a' := by
  have hn := hC.2.2.2.2.1
  intro d
  induction d with
  | zero =>
    intro a sx sm N N' e n1 n2 h
    obtain ⟨N, rfl⟩ : ∃ M, N = M + 1 := ⟨N - 1, by omega⟩
    obtain ⟨N', rfl⟩ : ∃ M, N' = M + 1 := ⟨N' - 1, by omega⟩
    have ea : a = n := by omega
    subst ea
    refine ⟨sx, sm, Or.inl ⟨lp_end ?_, lp_end ?_, h⟩⟩
    · show m_X7_goPlain_L17 j x1 (nI t) (nI a) sx = _
      rw [m_X7_goPlain_L17, gIk, h.1.1 1 0 (by omega), hC.2.1, if_pos (Int32.le_refl _)]
    · show m_X12_plain_L9 (nI T) (nI t) (nI a) sm = _
      rw [m_X12_plain_L9, gIk, h.2.1.1 9 (by omega), hC.2.2.1, if_pos (Int32.le_refl _)]
  | succ d ih =>
    intro a sx sm N N' e n1 n2 h
    obtain ⟨N, rfl⟩ : ∃ M, N = M + 1 := ⟨N - 1, by omega⟩
    obtain ⟨N', rfl⟩ : ∃ M, N' = M + 1 := ⟨N' - 1, by omega⟩
    obtain ⟨sx', sm', k⟩ := plain_act hj hC ht hT (show a < n by omega) h x1
    rcases k with ⟨k1, k2, k3⟩ | ⟨k1, k2, k3⟩
    · obtain ⟨sx2, sm2, r⟩ := ih (a + 1) sx' sm' N N' (by omega) (by omega) (by omega) k3
      refine ⟨sx2, sm2, ?_⟩
      rw [lp_next (s' := (nI (a + 1), sx')) (by exact k1), lp_next (s' := (nI (a + 1), sm')) (by exact k2)]
      exact r
    · obtain ⟨N, rfl⟩ : ∃ M, N = M + 1 := ⟨N - 1, by omega⟩
      refine ⟨sx', sm', Or.inr ⟨a, by omega, ?_, lp_end (by exact k2), k3⟩⟩
      rw [lp_next (s' := (nI (a + 1), sx')) (by exact k1)]
      refine lp_end ?_
      show m_X7_goPlain_L17 j x1 (nI t) (nI (a + 1)) sx' = _
      rw [m_X7_goPlain_L17, gIk, k3.1.1 1 0 (by omega), hC.2.1]
      by_cases c : nI n ≤ nI (a + 1)
      · rw [if_pos c]
      · rw [if_neg c, gIk, if_neg k3.2.2.2.2.2.2.1]
theorem plain_out (hj : j = 14 ∨ j = 15 ∨ j = 16) (hC : RunC sx0 sm0 n) {T : Nat} (hT : T ≤ 200) : ∀ (d t : Nat) (sx sm : Sg) (N N' : Nat), t + d = T → d + 1 < N → d + 1 < N' → PJ j sx0 sm0 sx sm n t 0 → ∃ sx' sm', (lp (fun s : (Int32 × Sg) => m_X7_goPlain_L2 j (nI T) s.1 s.2) N (nI t, sx) = some sx' ∧ lp (fun s : (Int32 × Sg) => m_X12_plain_L2 (nI T) s.1 s.2) N' (nI t, sm) = some (.inl sm') ∧ PJ j sx0 sm0 sx' sm' n T 0) ∨ ∃ t' a', t' < T ∧ a' < n ∧ lp (fun s : (Int32 × Sg) => m_X7_goPlain_L2 j (nI T) s.1 s.2) N (nI t, sx) = some sx' ∧ lp (fun s : (Int32 × Sg) => m_X12_plain_L2 (nI T) s.1 s.2) N' (nI t, sm) = some (.inr (nI t', nI a', sm')) ∧ RJ j sx0 sm0 sx' sm' n t' a' := by
  have hn := hC.2.2.2.2.1
  intro d
  induction d with
  | zero =>
    intro t sx sm N N' e n1 n2 h
    obtain ⟨N, rfl⟩ : ∃ M, N = M + 1 := ⟨N - 1, by omega⟩
    obtain ⟨N', rfl⟩ : ∃ M, N' = M + 1 := ⟨N' - 1, by omega⟩
    have et : t = T := by omega
    subst et
    refine ⟨sx, sm, Or.inl ⟨lp_end ?_, lp_end ?_, h⟩⟩
    · show m_X7_goPlain_L2 j (nI t) (nI t) sx = _
      rw [m_X7_goPlain_L2, if_pos (Int32.le_refl _)]
    · show m_X12_plain_L2 (nI t) (nI t) sm = _
      rw [m_X12_plain_L2, if_pos (Int32.le_refl _)]
  | succ d ih =>
    intro t sx sm N N' e n1 n2 h
    obtain ⟨N, rfl⟩ : ∃ M, N = M + 1 := ⟨N - 1, by omega⟩
    obtain ⟨N', rfl⟩ : ∃ M, N' = M + 1 := ⟨N' - 1, by omega⟩
    obtain ⟨sx', sm', k⟩ := plain_in hj hC (show t < T by omega) hT (nI T) n 0 sx sm FU FU (by omega) (FU_lt (by omega)) (FU_lt (by omega)) h
    rcases k with ⟨k1, k2, k3⟩ | ⟨a', ha', k1, k2, k3⟩
    · have k1' : lp (fun s : (Int32 × Sg) => m_X7_goPlain_L17 j (nI T) (nI t) s.1 s.2) FU (0, sx) = some sx' := k1
      have k2' : lp (fun s : (Int32 × Sg) => m_X12_plain_L9 (nI T) (nI t) s.1 s.2) FU (0, sm) = some (.inl sm') := k2
      have X1 : m_X7_goPlain_L2 j (nI T) (nI t) sx = some (.inl (nI (t + 1), sx')) := by
        rw [m_X7_goPlain_L2, if_neg (nI_ge (show t < T by omega) (by omega)), gIk, if_pos h.2.2.2.2.2.2.1, nmk, lpk, k1', ← nI_1]
        rfl
      have M1 : m_X12_plain_L2 (nI T) (nI t) sm = some (.inl (nI (t + 1), pI sm' 0 44 (nI (t + 1)))) := by
        rw [m_X12_plain_L2, if_neg (nI_ge (show t < T by omega) (by omega)), nmk, lpk, k2', ← nI_1]
        rfl
      obtain ⟨f, g, e', p3, p4, p5, p0, q0, p1, p2, p6⟩ := k3
      have h' : PJ j sx0 sm0 sx' (pI sm' 0 44 (nI (t + 1))) n (t + 1) 0 := by
        refine ⟨f, g.trans (frN_I _ (by omega) _), ⟨e'.1, fun x u hd => e'.2.1 x u ?_, e'.2.2⟩, p3, p4, p5, p0, q0, p1, p2, rfl⟩
        obtain ⟨d1, d2⟩ := hd
        refine ⟨d1, ?_⟩
        omega
      obtain ⟨sx2, sm2, r⟩ := ih (t + 1) sx' _ N N' (by omega) (by omega) (by omega) h'
      refine ⟨sx2, sm2, ?_⟩
      rw [lp_next (s' := (nI (t + 1), sx')) (by exact X1), lp_next (s' := (nI (t + 1), pI sm' 0 44 (nI (t + 1)))) (by exact M1)]
      exact r
    · have k1' : lp (fun s : (Int32 × Sg) => m_X7_goPlain_L17 j (nI T) (nI t) s.1 s.2) FU (0, sx) = some sx' := k1
      have k2' : lp (fun s : (Int32 × Sg) => m_X12_plain_L9 (nI T) (nI t) s.1 s.2) FU (0, sm) = some (.inr (nI a', sm')) := k2
      have X1 : m_X7_goPlain_L2 j (nI T) (nI t) sx = some (.inl (nI (t + 1), sx')) := by
        rw [m_X7_goPlain_L2, if_neg (nI_ge (show t < T by omega) (by omega)), gIk, if_pos h.2.2.2.2.2.2.1, nmk, lpk, k1', ← nI_1]
        rfl
      have M1 : m_X12_plain_L2 (nI T) (nI t) sm = some (.inr (.inr (nI t, nI a', sm'))) := by
        rw [m_X12_plain_L2, if_neg (nI_ge (show t < T by omega) (by omega)), nmk, lpk, k2']
        rfl
      obtain ⟨N, rfl⟩ : ∃ M, N = M + 1 := ⟨N - 1, by omega⟩
      refine ⟨sx', sm', Or.inr ⟨t, a', by omega, ha', ?_, lp_end (by exact M1), k3⟩⟩
      rw [lp_next (s' := (nI (t + 1), sx')) (by exact X1)]
      refine lp_end ?_
      show m_X7_goPlain_L2 j (nI T) (nI (t + 1)) sx' = _
      rw [m_X7_goPlain_L2]
      by_cases c : nI T ≤ nI (t + 1)
      · rw [if_pos c]
      · rw [if_neg c, gIk, if_neg k3.2.2.2.2.2.2.1]
/-- both sides at the end of a run: T turns, c of them whole -/
def EJ (j : Nat) (sx0 sm0 sx sm : Sg) (n T c : Nat) : Prop := c ≤ T ∧ FrR j sx0 sx ∧ FrN sm0 sm ∧ JEf (gA sm0 0 23) (gL sm0 0 7) (gL sx 5 2) (gL sm 0 21) (gL sx 13 3) (gL sm 0 37) (fun x u => x < n ∧ u < c) ∧ gI sx j 3 = gI sm 0 41 ∧ gI sx j 4 = gI sm 0 42 ∧ gI sx j 5 = gI sm 0 43 ∧ gI sx j 0 = gI sm 0 38 ∧ gI sx j 1 = gI sm 0 39 ∧ gI sx j 2 = gI sm 0 40 ∧ gI sm 0 44 = nI c ∧ ((gI sx j 0 = 0 ∧ c = T) ∨ (¬ gI sx j 0 = 0 ∧ gI sx j 2 = nI c))
theorem plain_eq (hj : j = 14 ∨ j = 15 ∨ j = 16) (hC : RunC sx0 sm0 n) {T : Nat} (hT : T ≤ 200) {sx sm : Sg} (h : PJ j sx0 sm0 sx sm n 0 0) : ∃ sx' sm' c, m_X7_goPlain j (nI T) sx = some ((), sx') ∧ m_X12_plain (nI T) sm = some ((), sm') ∧ EJ j sx0 sm0 sx' (pI sm' 0 43 0) n T c := by
  obtain ⟨sx', sm', k⟩ := plain_out hj hC hT T 0 sx sm FU FU (by omega) (FU_lt (by omega)) (FU_lt (by omega)) h
  rcases k with ⟨k1, k2, f, g, e, p3, p4, p5, p0, q0, p1, p2, p6⟩ | ⟨t', a', ht', ha', k1, k2, f, g, e, p3, p4, p5, p0, q0, p1, p2, p6⟩
  · have k1' : lp (fun s : (Int32 × Sg) => m_X7_goPlain_L2 j (nI T) s.1 s.2) FU (0, sx) = some sx' := k1
    have k2' : lp (fun s : (Int32 × Sg) => m_X12_plain_L2 (nI T) s.1 s.2) FU (0, sm) = some (.inl sm') := k2
    refine ⟨sx', sm', T, ?_, ?_, Nat.le_refl _, f, g.trans (frN_I _ (by omega) _), ⟨e.1, fun x u hd => e.2.1 x u ⟨hd.1, Or.inl hd.2⟩, e.2.2⟩, p3, p4, p5, p0.trans q0.symm, p1, p2, p6, Or.inl ⟨p0, rfl⟩⟩
    · rw [m_X7_goPlain, nmk, lpk, k1']
    · rw [m_X12_plain, nmk, lpk, k2']
      rfl
  · have k1' : lp (fun s : (Int32 × Sg) => m_X7_goPlain_L2 j (nI T) s.1 s.2) FU (0, sx) = some sx' := k1
    have k2' : lp (fun s : (Int32 × Sg) => m_X12_plain_L2 (nI T) s.1 s.2) FU (0, sm) = some (.inr (nI t', nI a', sm')) := k2
    refine ⟨sx', pI (pI sm' 0 39 (nI a')) 0 40 (nI t'), t', ?_, ?_, by omega, f, ((g.trans (frN_I _ (by omega) _)).trans (frN_I _ (by omega) _)).trans (frN_I _ (by omega) _), ⟨e.1, fun x u hd => e.2.1 x u ⟨hd.1, Or.inl hd.2⟩, e.2.2⟩, p3, p4, p5, q0, p1, p2, p6, Or.inr ⟨p0, p2⟩⟩
    · rw [m_X7_goPlain, nmk, lpk, k1']
    · rw [m_X12_plain, nmk, lpk, k2']
      rfl
end PL2
