-- 63.gather: the reference's edges (gather)
/-- st is s0 but for the gathered edges, which are l -/
def EM (s0 st : Sg) (l : List Ed) : Prop := (∀ k, k ≠ 20 → gI st 0 k = gI s0 0 k) ∧ (∀ k, k < 16 ∨ 20 < k → gA st 0 k = gA s0 0 k) ∧ (∀ k, gL st 0 k = gL s0 0 k) ∧ LR (gI st 0 20) (gA st 0 16) (gA st 0 17) (gA st 0 18) (gA st 0 19) l
def e4 (t : Nat) (a b c d : Int32) (st : Sg) : Sg := pA (pA (pA (pA st 0 16 (upd (gA st 0 16) t a)) 0 17 (upd (gA st 0 17) t b)) 0 18 (upd (gA st 0 18) t c)) 0 19 (upd (gA st 0 19) t d)
theorem enter_eq (t : Nat) (ht : t < 704) (a b c d : Int32) (st : Sg) (e : gI st 0 20 = nI t) : m_X12_enter a b c d st = some ((), pI (e4 t a b c d st) 0 20 (nI (t + 1))) := by
  have hv : vpb (nI t) 704 = true := vpb_nI ht (by omega)
  simp only [m_X12_enter, gIk, sAk, sIk, gI_pA, e, if_pos hv, nI_clamp (show t < 2 ^ 31 by omega), nI_1]
  rfl
theorem em_enter {s0 st : Sg} {l : List Ed} (h : EM s0 st l) (hl : l.length < 704) (a b c d : Int32) : ∃ st', m_X12_enter a b c d st = some ((), st') ∧ EM s0 st' (l ++ [(a, b, c, d)]) := by
  obtain ⟨h1, h2, h3, h4⟩ := h
  refine ⟨_, enter_eq l.length hl a b c d st h4.1, fun k hk => ?_, fun k hk => ?_, fun k => h3 k, LR_push h4 a b c d⟩
  · rw [gI_pI, if_pos rfl, if_neg hk]
    exact h1 k hk
  · show gA (e4 l.length a b c d st) 0 k = _
    unfold e4
    simp only [gA_pA2, if_true, if_neg (show ¬ k = 16 by omega), if_neg (show ¬ k = 17 by omega), if_neg (show ¬ k = 18 by omega), if_neg (show ¬ k = 19 by omega)]
    exact h2 k hk
/-- es_for, the counter begun at o -/
theorem es_forO {step : Int32 × Sg → Option ((Int32 × Sg) ⊕ Sg)} {P : Sg → List Ed → Prop} {l0 : List Ed} {g : Nat → List Ed} {e : Nat} (o : Nat) (he : e < 90000) (hx : ∀ st, P st (l0 ++ (List.range e).flatMap g) → step (nI (o + e), st) = some (.inr st)) (hs : ∀ i st, i < e → P st (l0 ++ (List.range i).flatMap g) → ∃ st', step (nI (o + i), st) = some (.inl (nI (o + i + 1), st')) ∧ P st' ((l0 ++ (List.range i).flatMap g) ++ g i)) (st : Sg) (h : P st l0) : ∃ st', lp step FU (nI o, st) = some st' ∧ P st' (l0 ++ (List.range e).flatMap g) := by
  have go : ∀ (d i N : Nat) (st : Sg), i + d = e → d < N → P st (l0 ++ (List.range i).flatMap g) → ∃ st', lp step N (nI (o + i), st) = some st' ∧ P st' (l0 ++ (List.range e).flatMap g) := by
    intro d
    induction d with
    | zero =>
      intro i N st hi hN h
      obtain ⟨N, rfl⟩ : ∃ M, N = M + 1 := ⟨N - 1, by omega⟩
      have e1 : i = e := by omega
      subst e1
      exact ⟨st, lp_end (hx st h), h⟩
    | succ d ih =>
      intro i N st hi hN h
      obtain ⟨N, rfl⟩ : ∃ M, N = M + 1 := ⟨N - 1, by omega⟩
      obtain ⟨st', s1, s2⟩ := hs i st (by omega) h
      obtain ⟨st2, r1, r2⟩ := ih (i + 1) N st' (by omega) (by omega) (by rw [fm_succ, ← List.append_assoc]; exact s2)
      exact ⟨st2, (lp_next s1).trans r1, r2⟩
  exact go e 0 FU st (by omega) (FU_lt (by omega)) (by simpa using h)
section GM
variable {s0 : Sg} {n : Nat}
theorem m_ops (hb : gI s0 0 9 = nI n) (hn : n ≤ 16) {b : Nat} (hbn : b < n) {st : Sg} {l : List Ed} (h : EM s0 st l) (hl : l.length + 3 ≤ 704) : ∃ st', lp (fun s : (Int32 × Sg) => m_X12_gather_L19 (nI b) s.1 s.2) FU (nI (3 * b), st) = some st' ∧ EM s0 st' (l ++ opsE n (gA s0 0 1) (gA s0 0 5) (gA s0 0 6) b) := by
  have e3 : 3 * nI b + 3 = nI (3 * b + 3) := nI_w3 b 3
  exact es_forO (step := fun s : (Int32 × Sg) => m_X12_gather_L19 (nI b) s.1 s.2) (P := EM s0) (l0 := l) (g := fun i => if 0 ≤ gA s0 0 5 (3 * b + i) ∧ gA s0 0 5 (3 * b + i) < nI n then [(gA s0 0 5 (3 * b + i), nI b, gA s0 0 1 (gA s0 0 5 (3 * b + i)).toNatClampNeg, gA s0 0 6 (3 * b + i))] else []) (e := 3) (3 * b) (by omega) (fun st _ => by
      simp only [m_X12_gather_L19, e3, if_pos (Int32.le_refl _)]) (fun i st hi hE => by
      have hg : ¬ nI (3 * b + 3) ≤ nI (3 * b + i) := nI_ge (by omega) (by omega)
      have hv : vpb (nI (3 * b + i)) 48 = true := vpb_nI (by omega) (by omega)
      have cl := nI_clamp (show 3 * b + i < 2 ^ 31 by omega)
      have e5 : gA st 0 5 = gA s0 0 5 := hE.2.1 5 (by omega)
      have e1 : gA st 0 1 = gA s0 0 1 := hE.2.1 1 (by omega)
      have e6 : gA st 0 6 = gA s0 0 6 := hE.2.1 6 (by omega)
      have eI : gI st 0 9 = nI n := (hE.1 9 (by omega)).trans hb
      simp only [m_X12_gather_L19, e3, if_neg hg, lAk, if_pos hv, cl, e5, e1, e6, gIk, eI, nmk, nI_1]
      by_cases c1 : gA s0 0 5 (3 * b + i) < 0
      · have c' : ¬ (0 ≤ gA s0 0 5 (3 * b + i) ∧ gA s0 0 5 (3 * b + i) < nI n) := by
          rw [fx_le, ti_0]; rw [fx_lt, ti_0] at c1; omega
        rw [if_pos c1, if_neg c']
        exact ⟨st, rfl, by simpa using hE⟩
      · rw [if_neg c1]
        by_cases c2 : nI n ≤ gA s0 0 5 (3 * b + i)
        · have c' : ¬ (0 ≤ gA s0 0 5 (3 * b + i) ∧ gA s0 0 5 (3 * b + i) < nI n) := by
            rw [fx_lt]; rw [fx_le] at c2; omega
          rw [if_pos c2, if_neg c']
          exact ⟨st, rfl, by simpa using hE⟩
        · have cc : 0 ≤ (gA s0 0 5 (3 * b + i)).toInt ∧ (gA s0 0 5 (3 * b + i)).toInt < (nI n).toInt := by
            rw [fx_lt, ti_0] at c1; rw [fx_le] at c2; omega
          have c' : 0 ≤ gA s0 0 5 (3 * b + i) ∧ gA s0 0 5 (3 * b + i) < nI n := by
            rw [fx_le, fx_lt, ti_0]; exact cc
          obtain ⟨-, -, hv2⟩ := acts_lt (n := n) rfl hn cc
          have := opsE_len n (gA s0 0 1) (gA s0 0 5) (gA s0 0 6) b i
          obtain ⟨st2, j1, j2⟩ := em_enter hE (by rw [List.length_append]; omega) (gA s0 0 5 (3 * b + i)) (nI b) (gA s0 0 1 (gA s0 0 5 (3 * b + i)).toNatClampNeg) (gA s0 0 6 (3 * b + i))
          rw [if_neg c2, if_pos c']
          simp only [if_pos hv2, j1, clk_some]
          exact ⟨st2, rfl, j2⟩) st h
theorem ofRow_eq {st : Sg} (hA : gA st 0 0 = gA s0 0 0) {a : Nat} (ha : a < 16) : m_X12_isOfRow (nI a) st = some (if gA s0 0 0 a = 4 ∨ gA s0 0 0 a = 5 then 1 else 0, st) := by
  have hv : vpb (nI a) 16 = true := vpb_nI ha (by omega)
  simp only [m_X12_isOfRow, lAk, if_pos hv, nI_clamp (show a < 2 ^ 31 by omega), hA]
  by_cases c1 : gA s0 0 0 a = 4
  · rw [if_pos c1, if_pos (Or.inl c1)]
  · rw [if_neg c1]
    by_cases c2 : gA s0 0 0 a = 5
    · rw [if_pos c2, if_pos (Or.inr c2)]
    · rw [if_neg c2, if_neg (fun q => q.elim c1 c2)]
/-- the second half: what a store waits for -/
theorem m_two2 {a b : Nat} (ha : a < 16) (hb : b < 16) {st : Sg} {l : List Ed} (h : EM s0 st l) (hl : l.length + 2 ≤ 704) : ∃ st', m_X12_gatherTwo_86 (nI a) (nI b) st = some ((), st') ∧ EM s0 st' (l ++ (if gA s0 0 0 b = 5 ∧ a ≠ b ∧ (gA s0 0 0 a = 3 ∨ gA s0 0 0 a = 4 ∨ gA s0 0 0 a = 5) then (if a < b then [((nI a, nI b, 1, 0) : Ed)] else []) ++ [(nI a, nI b, 1, 1)] else [])) := by
  have hva : vpb (nI a) 16 = true := vpb_nI ha (by omega)
  have hvb : vpb (nI b) 16 = true := vpb_nI hb (by omega)
  have e0 : gA st 0 0 = gA s0 0 0 := h.2.1 0 (by omega)
  have no : ∀ st : Sg, m_X12_gatherTwo_125 (nI a) (nI b) st = some ((), st) := fun st => by
    simp only [m_X12_gatherTwo_125, m_X12_gatherTwo_126, m_X12_gatherTwo_146, nmk, if_true]
  simp only [m_X12_gatherTwo_86, lAk, if_pos hva, if_pos hvb, nI_clamp (show a < 2 ^ 31 by omega), nI_clamp (show b < 2 ^ 31 by omega), e0, no]
  by_cases c1 : gA s0 0 0 b = 5
  case neg =>
    rw [if_neg c1, if_neg (fun q => c1 q.1)]
    exact ⟨st, rfl, by simpa using h⟩
  rw [if_pos c1]
  by_cases c2 : a = b
  · subst c2
    rw [if_pos rfl, if_neg (fun q => q.2.1 rfl)]
    exact ⟨st, rfl, by simpa using h⟩
  rw [if_neg (fun q => c2 ((nI_eq (by omega) (by omega)).mp q))]
  by_cases c3 : gA s0 0 0 a = 3 ∨ gA s0 0 0 a = 4 ∨ gA s0 0 0 a = 5
  · have hc : gA s0 0 0 b = 5 ∧ a ≠ b ∧ (gA s0 0 0 a = 3 ∨ gA s0 0 0 a = 4 ∨ gA s0 0 0 a = 5) := ⟨c1, c2, c3⟩
    have n1 : ¬ gA s0 0 0 a < 3 := by rcases c3 with q | q | q <;> rw [q] <;> decide
    have n2 : ¬ 5 < gA s0 0 0 a := by rcases c3 with q | q | q <;> rw [q] <;> decide
    rw [if_neg n1, if_neg n2, if_pos hc]
    simp only [m_X12_gatherTwo_126, m_X12_gatherTwo_146, nmk, if_neg (show ¬ (1 : Int32) = 0 by decide)]
    by_cases g : a < b
    · obtain ⟨st2, j1, j2⟩ := em_enter h (by omega) (nI a) (nI b) 1 0
      obtain ⟨st3, k1, k2⟩ := em_enter j2 (by rw [List.length_append]; simp only [List.length_cons, List.length_nil]; omega) (nI a) (nI b) 1 1
      rw [if_neg (nI_ge g (by omega)), if_pos g, j1, clk_some, k1, clk_some]
      exact ⟨st3, rfl, by simpa using k2⟩
    · obtain ⟨st2, j1, j2⟩ := em_enter h (by omega) (nI a) (nI b) 1 1
      rw [if_pos (nI_le (show b ≤ a by omega) (by omega)), if_neg g, j1, clk_some]
      exact ⟨st2, rfl, by simpa using j2⟩
  · have hnc : ¬ (gA s0 0 0 b = 5 ∧ a ≠ b ∧ (gA s0 0 0 a = 3 ∨ gA s0 0 0 a = 4 ∨ gA s0 0 0 a = 5)) := fun q => c3 q.2.2
    rw [if_neg hnc]
    by_cases n1 : gA s0 0 0 a < 3
    · rw [if_pos n1]; exact ⟨st, rfl, by simpa using h⟩
    · by_cases n2 : 5 < gA s0 0 0 a
      · rw [if_neg n1, if_pos n2]; exact ⟨st, rfl, by simpa using h⟩
      · exfalso
        apply c3
        rw [fx_lt, ti_3] at n1
        rw [fx_lt, ti_5] at n2
        rw [fx_eq _ 3, fx_eq _ 4, fx_eq _ 5, ti_3, ti_4, ti_5]
        omega
theorem m_two {a b : Nat} (ha : a < 16) (hb : b < 16) {st : Sg} {l : List Ed} (h : EM s0 st l) (hl : l.length + (if a < b then 4 else if a = b then 0 else 1) ≤ 704) (hl2 : l.length + 2 ≤ 704) : ∃ st', m_X12_gatherTwo (nI a) (nI b) st = some ((), st') ∧ EM s0 st' (l ++ twoE (gA s0 0 0) (gA s0 0 4) a b) := by
  have hva : vpb (nI a) 16 = true := vpb_nI ha (by omega)
  have hvb : vpb (nI b) 16 = true := vpb_nI hb (by omega)
  have e0 : gA st 0 0 = gA s0 0 0 := h.2.1 0 (by omega)
  have e4' : gA st 0 4 = gA s0 0 4 := h.2.1 4 (by omega)
  have no : m_X12_gatherTwo_60 (nI a) (nI b) st = m_X12_gatherTwo_86 (nI a) (nI b) st := by
    simp only [m_X12_gatherTwo_60, m_X12_gatherTwo_61, m_X12_gatherTwo_74, nmk, if_true]
  by_cases c : a < b ∧ (gA s0 0 0 a = 4 ∨ gA s0 0 0 a = 5) ∧ (gA s0 0 0 b = 4 ∨ gA s0 0 0 b = 5) ∧ gA s0 0 4 a = gA s0 0 4 b ∧ (gA s0 0 0 a = 5 ∨ gA s0 0 0 b = 5)
  · obtain ⟨c0, c1, c2, c3, c4⟩ := id c
    rw [if_pos c0] at hl
    obtain ⟨st2, j1, j2⟩ := em_enter h (by omega) (nI a) (nI b) 1 0
    obtain ⟨st3, k1, k2⟩ := em_enter j2 (by rw [List.length_append]; simp only [List.length_cons, List.length_nil]; omega) (nI b) (nI a) 1 1
    obtain ⟨st4, i1, i2⟩ := m_two2 ha hb k2 (by rw [List.length_append, List.length_append]; simp only [List.length_cons, List.length_nil]; omega)
    have yes : m_X12_gatherTwo_56 (nI a) (nI b) st = some ((), st4) := by
      simp only [m_X12_gatherTwo_56, m_X12_gatherTwo_61, m_X12_gatherTwo_74, nmk, if_neg (show ¬ (1 : Int32) = 0 by decide), j1, k1, clk_some, i1]
    refine ⟨st4, ?_, ?_⟩
    · simp only [m_X12_gatherTwo, if_neg (nI_ge c0 (show b < 2 ^ 31 by omega)), ofRow_eq e0 ha, ofRow_eq e0 hb, clk_some, if_pos c1, if_pos c2, if_neg (show ¬ (1 : Int32) = 0 by decide), lAk, if_pos hva, if_pos hvb, nI_clamp (show a < 2 ^ 31 by omega), nI_clamp (show b < 2 ^ 31 by omega), e0, e4', if_pos c3, yes]
      by_cases g : gA s0 0 0 a = 5
      · rw [if_pos g]
      · rw [if_neg g, if_pos (c4.resolve_left g)]
    · unfold twoE
      rw [if_pos c]
      simpa using i2
  · obtain ⟨st4, i1, i2⟩ := m_two2 ha hb h (by omega)
    refine ⟨st4, ?_, ?_⟩
    · rw [← no] at i1
      simp only [m_X12_gatherTwo, ofRow_eq e0 ha, ofRow_eq e0 hb, clk_some, ite10, lAk, if_pos hva, if_pos hvb, nI_clamp (show a < 2 ^ 31 by omega), nI_clamp (show b < 2 ^ 31 by omega), e0, e4', i1]
      by_cases g0 : a < b
      case neg => rw [if_pos (nI_le (show b ≤ a by omega) (by omega))]
      rw [if_neg (nI_ge g0 (by omega))]
      by_cases g1 : gA s0 0 0 a = 4 ∨ gA s0 0 0 a = 5
      case neg => rw [if_neg g1]
      rw [if_pos g1]
      by_cases g2 : gA s0 0 0 b = 4 ∨ gA s0 0 0 b = 5
      case neg => rw [if_neg g2]
      rw [if_pos g2]
      by_cases g3 : gA s0 0 4 a = gA s0 0 4 b
      case neg => rw [if_neg g3]
      rw [if_pos g3, if_neg (fun q => c ⟨g0, g1, g2, g3, Or.inl q⟩), if_neg (fun q => c ⟨g0, g1, g2, g3, Or.inr q⟩)]
    · unfold twoE
      rw [if_neg c]
      simpa using i2
end GM
