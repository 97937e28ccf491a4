-- 91.lay2: the call lay: both loops, the finding kept
theorem rel_ly {sx sy sm tm : Sg} {n t : Nat} (h1 : WBo (gI sm 0 9) (gA sm 0 0) (gA sm 0 1) (gA sm 0 2) (gA sm 0 3) (gA sm 0 4) (gA sm 0 5) (gA sm 0 6) (gA sm 0 10) n) (h2 : WTo (gI sm 0 15) (gA sm 0 11) (gA sm 0 12) (gA sm 0 13) (gA sm 0 14) n t) (h3 : RBo sx sm) (h4 : RTo sx sm) (h5 : RRo sx sm) (h6 : RRe sx sm) (h7 : gI sy 7 10 = gI tm 0 32) (h7' : gA sx 11 0 = gA sm 0 36) (h8 : ROu sx sm n) (f1 : ∀ j k, j ≠ 3 → j ≠ 4 → j ≠ 7 → j ≠ 9 → gI sy j k = gI sx j k) (f2 : ∀ j k, j ≠ 4 → j ≠ 6 → j ≠ 7 → j ≠ 8 → j ≠ 9 → j ≠ 10 → gA sy j k = gA sx j k) (f3 : ∀ j k, gL sy j k = gL sx j k) (g1 : ∀ k, k ≠ 20 → k ≠ 27 → k ≠ 32 → gI tm 0 k = gI sm 0 k) (g2 : ∀ k, k < 16 ∨ (20 < k ∧ (k < 28 ∨ 31 < k) ∧ k ≠ 33 ∧ k ≠ 34 ∧ k ≠ 35) → gA tm 0 k = gA sm 0 k) (g3 : ∀ k, gL tm 0 k = gL sm 0 k) (hw : RWe sy n t) (hl : RLy sy tm n t) : Rel sy tm := by
  refine ⟨n, t, ?_, ?_, ?_, ?_, ?_, ?_, ?_, ?_, hw, hl⟩
  · rw [g1 9 (by omega) (by omega) (by omega), g2 0 (by omega), g2 1 (by omega), g2 2 (by omega), g2 3 (by omega), g2 4 (by omega), g2 5 (by omega), g2 6 (by omega), g2 10 (by omega)]
    exact h1
  · rw [g1 15 (by omega) (by omega) (by omega), g2 11 (by omega), g2 12 (by omega), g2 13 (by omega), g2 14 (by omega)]
    exact h2
  · unfold RBo at h3 ⊢
    rw [f1 1 0 (by omega) (by omega) (by omega) (by omega), f2 1 1 (by omega) (by omega) (by omega) (by omega) (by omega) (by omega), f2 1 2 (by omega) (by omega) (by omega) (by omega) (by omega) (by omega), f2 1 3 (by omega) (by omega) (by omega) (by omega) (by omega) (by omega), f2 1 4 (by omega) (by omega) (by omega) (by omega) (by omega) (by omega), f2 1 5 (by omega) (by omega) (by omega) (by omega) (by omega) (by omega), f2 1 6 (by omega) (by omega) (by omega) (by omega) (by omega) (by omega), f2 1 7 (by omega) (by omega) (by omega) (by omega) (by omega) (by omega), f3, f3, f2 1 10 (by omega) (by omega) (by omega) (by omega) (by omega) (by omega), g1 9 (by omega) (by omega) (by omega), g2 0 (by omega), g2 1 (by omega), g2 2 (by omega), g2 3 (by omega), g2 4 (by omega), g2 5 (by omega), g2 6 (by omega), g2 10 (by omega), g3, g3]
    exact h3
  · unfold RTo at h4 ⊢
    rw [f1 2 0 (by omega) (by omega) (by omega) (by omega), f2 2 1 (by omega) (by omega) (by omega) (by omega) (by omega) (by omega), f2 2 2 (by omega) (by omega) (by omega) (by omega) (by omega) (by omega), f2 2 3 (by omega) (by omega) (by omega) (by omega) (by omega) (by omega), f2 2 4 (by omega) (by omega) (by omega) (by omega) (by omega) (by omega), g1 15 (by omega) (by omega) (by omega), g2 11 (by omega), g2 12 (by omega), g2 13 (by omega), g2 14 (by omega)]
    exact h4
  · unfold RRo at h5 ⊢
    rw [f2 5 0 (by omega) (by omega) (by omega) (by omega) (by omega) (by omega), f2 5 1 (by omega) (by omega) (by omega) (by omega) (by omega) (by omega), f3, g2 23 (by omega), g2 24 (by omega), g3]
    exact h5
  · unfold RRe at h6 ⊢
    rw [f2 0 10 (by omega) (by omega) (by omega) (by omega) (by omega) (by omega), f1 0 9 (by omega) (by omega) (by omega) (by omega), g2 25 (by omega), g1 26 (by omega) (by omega) (by omega)]
    exact h6
  · unfold RTr
    rw [f2 11 0 (by omega) (by omega) (by omega) (by omega) (by omega) (by omega), g2 36 (by omega)]
    exact ⟨h7, h7'⟩
  · unfold ROu at h8 ⊢
    rw [f1 16 0 (by omega) (by omega) (by omega) (by omega), f1 16 1 (by omega) (by omega) (by omega) (by omega), f1 16 2 (by omega) (by omega) (by omega) (by omega), f1 16 3 (by omega) (by omega) (by omega) (by omega), f1 16 4 (by omega) (by omega) (by omega) (by omega), f1 16 5 (by omega) (by omega) (by omega) (by omega), f1 16 6 (by omega) (by omega) (by omega) (by omega), f3, g1 38 (by omega) (by omega) (by omega), g1 39 (by omega) (by omega) (by omega), g1 40 (by omega) (by omega) (by omega), g1 41 (by omega) (by omega) (by omega), g1 42 (by omega) (by omega) (by omega), g1 43 (by omega) (by omega) (by omega), g1 44 (by omega) (by omega) (by omega), g3]
    exact h8
theorem lay_go {sx sm : Sg} {n t : Nat} (h1 : WBo (gI sm 0 9) (gA sm 0 0) (gA sm 0 1) (gA sm 0 2) (gA sm 0 3) (gA sm 0 4) (gA sm 0 5) (gA sm 0 6) (gA sm 0 10) n) (h2 : WTo (gI sm 0 15) (gA sm 0 11) (gA sm 0 12) (gA sm 0 13) (gA sm 0 14) n t) (h3 : RBo sx sm) (h4 : RTo sx sm) (h0 : 0 < n) : ∀ (d b tr : Nat) (sy tm : Sg) (N1 N2 : Nat), b + d = 61 → 1 ≤ b → d + 1 < N1 → d + 1 < N2 → SkC sx sm sy tm n t tr →
    ∃ sy' tm' tr', SkC sx sm sy' tm' n t tr' ∧ ((lp (fun s : (Int32 × Sg) => m_X11_lay_L25 s.1 s.2) N1 (nI b, sy) = some (.inl sy') ∧ ∃ x, lp (fun s : (Int32 × Int32 × Sg) => m_X12_lay_L26 s.1 s.2.1 s.2.2) N2 (3, nI b, tm) = some (3, x, tm')) ∨ (lp (fun s : (Int32 × Sg) => m_X11_lay_L25 s.1 s.2) N1 (nI b, sy) = some (.inr (.inl sy')) ∧ ∃ x, lp (fun s : (Int32 × Int32 × Sg) => m_X12_lay_L26 s.1 s.2.1 s.2.2) N2 (3, nI b, tm) = some (4, x, tm')) ∨ ∃ c, 1 ≤ c ∧ c ≤ 60 ∧ lp (fun s : (Int32 × Sg) => m_X11_lay_L25 s.1 s.2) N1 (nI b, sy) = some (.inr (.inr (nI c, sy'))) ∧ lp (fun s : (Int32 × Int32 × Sg) => m_X12_lay_L26 s.1 s.2.1 s.2.2) N2 (3, nI b, tm) = some (0, nI c, tm') ∧ SkG sm sy' tm' n t c) := by
  have s60 : (60 : Int32).toInt = 60 := rfl
  intro d
  induction d with
  | zero =>
    intro b tr sy tm N1 N2 e1 hb1 n1 n2 hC
    obtain ⟨N1, rfl⟩ : ∃ M, N1 = M + 1 := ⟨N1 - 1, by omega⟩
    obtain ⟨N2, rfl⟩ : ∃ M, N2 = M + 1 := ⟨N2 - 1, by omega⟩
    have hb : (60 : Int32) < nI b := by rw [fx_lt, s60, nI_toInt (by omega)]; omega
    refine ⟨sy, tm, tr, hC, Or.inl ⟨lp_end ?_, nI b, lp_end ?_⟩⟩
    · show m_X11_lay_L25 (nI b) sy = _
      rw [m_X11_lay_L25, if_pos hb]
    · show m_X12_lay_L26 3 (nI b) tm = _
      rw [m_X12_lay_L26, if_pos hb]
  | succ d ih =>
    intro b tr sy tm N1 N2 e1 hb1 n1 n2 hC
    obtain ⟨N1, rfl⟩ : ∃ M, N1 = M + 1 := ⟨N1 - 1, by omega⟩
    obtain ⟨N2, rfl⟩ : ∃ M, N2 = M + 1 := ⟨N2 - 1, by omega⟩
    have hb : ¬ (60 : Int32) < nI b := by rw [fx_lt, s60, nI_toInt (by omega)]; omega
    obtain ⟨r, sy', tm', tr', a1, a2, a3, a4⟩ := seekAt_eq h1 h2 h3 h4 h0 hC hb1 (show b ≤ 60 by omega)
    rcases a4 with ⟨z, a5⟩ | z | z
    · subst z
      refine ⟨sy', tm', tr', a3, Or.inr (Or.inr ⟨b, hb1, by omega, lp_end ?_, ?_, a5⟩)⟩
      · show m_X11_lay_L25 (nI b) sy = _
        rw [m_X11_lay_L25, if_neg hb, a1, clk_some, nmk, if_neg (show ¬ (0 : Int32) = 4 by decide), if_pos rfl]
      · have st : m_X12_lay_L26 3 (nI b) tm = some (.inl (0, nI b, tm')) := by
          rw [m_X12_lay_L26, if_neg hb, if_pos rfl, a2, clk_some, nmk, if_neg (show ¬ (0 : Int32) = 3 by decide)]
        have st2 : m_X12_lay_L26 0 (nI b) tm' = some (.inr (0, nI b, tm')) := by
          rw [m_X12_lay_L26, if_neg hb, if_neg (show ¬ (0 : Int32) = 3 by decide)]
        obtain ⟨N2, rfl⟩ : ∃ M, N2 = M + 1 := ⟨N2 - 1, by omega⟩
        rw [lp_next (s' := (0, nI b, tm')) (by exact st)]
        exact lp_end st2
    · subst z
      obtain ⟨sy2, tm2, tr2, k⟩ := ih (b + 1) tr' sy' tm' N1 N2 (by omega) (by omega) (by omega) (by omega) a3
      have X1 : lp (fun s : (Int32 × Sg) => m_X11_lay_L25 s.1 s.2) (N1 + 1) (nI b, sy) = lp (fun s : (Int32 × Sg) => m_X11_lay_L25 s.1 s.2) N1 (nI (b + 1), sy') := by
        refine lp_next ?_
        show m_X11_lay_L25 (nI b) sy = _
        rw [m_X11_lay_L25, if_neg hb, a1, clk_some, nmk, if_neg (show ¬ (3 : Int32) = 4 by decide), if_neg (show ¬ (3 : Int32) = 0 by decide), nmk, nI_1]
      have M1 : lp (fun s : (Int32 × Int32 × Sg) => m_X12_lay_L26 s.1 s.2.1 s.2.2) (N2 + 1) (3, nI b, tm) = lp (fun s : (Int32 × Int32 × Sg) => m_X12_lay_L26 s.1 s.2.1 s.2.2) N2 (3, nI (b + 1), tm') := by
        refine lp_next ?_
        show m_X12_lay_L26 3 (nI b) tm = _
        rw [m_X12_lay_L26, if_neg hb, if_pos rfl, a2, clk_some, nmk, if_pos rfl, nmk, nI_1]
      rw [X1, M1]
      exact ⟨sy2, tm2, tr2, k⟩
    · subst z
      refine ⟨sy', tm', tr', a3, Or.inr (Or.inl ⟨lp_end ?_, nI b, ?_⟩)⟩
      · show m_X11_lay_L25 (nI b) sy = _
        rw [m_X11_lay_L25, if_neg hb, a1, clk_some, nmk, if_pos rfl]
      · have st : m_X12_lay_L26 3 (nI b) tm = some (.inl (4, nI b, tm')) := by
          rw [m_X12_lay_L26, if_neg hb, if_pos rfl, a2, clk_some, nmk, if_neg (show ¬ (4 : Int32) = 3 by decide)]
        have st2 : m_X12_lay_L26 4 (nI b) tm' = some (.inr (4, nI b, tm')) := by
          rw [m_X12_lay_L26, if_neg hb, if_neg (show ¬ (4 : Int32) = 3 by decide)]
        obtain ⟨N2, rfl⟩ : ∃ M, N2 = M + 1 := ⟨N2 - 1, by omega⟩
        rw [lp_next (s' := (4, nI b, tm')) (by exact st)]
        exact lp_end st2
/-- the reference keeps a finding -/
theorem keep_eq {s : Sg} {n b : Nat} {T S : Nat → Nat} (hn : n ≤ 16) (hb : b ≤ 60) (hx : gI s 0 9 = nI n) (hT : ∀ v, v < n → gA s 0 34 v = nI (T v)) (hS : ∀ v, v < n → gA s 0 33 v = nI (S v)) : ∃ s', lp (fun s : (Int32 × Sg) => m_X12_lay_L82 (nI b) s.1 s.2) FU (nI 0, s) = some s' ∧ (∀ k, gI s' 0 k = gI s 0 k) ∧ (∀ k, k < 28 ∨ 31 < k → gA s' 0 k = gA s 0 k) ∧ (∀ k, gL s' 0 k = gL s 0 k) ∧ ∀ v, v < n → gA s' 0 28 v = nI (T v) ∧ gA s' 0 29 v = nI (S v) ∧ gA s' 0 30 v = nI (b * S v + T v) ∧ gA s' 0 31 v = nI (b * S v + T v) := by
  have hI := ok_for (step := fun s : (Int32 × Sg) => m_X12_lay_L82 (nI b) s.1 s.2) (Q := fun r => (∀ k, gI r 0 k = gI s 0 k) ∧ (∀ k, k < 28 ∨ 31 < k → gA r 0 k = gA s 0 k) ∧ (∀ k, gL r 0 k = gL s 0 k) ∧ ∀ v, v < n → gA r 0 28 v = nI (T v) ∧ gA r 0 29 v = nI (S v) ∧ gA r 0 30 v = nI (b * S v + T v) ∧ gA r 0 31 v = nI (b * S v + T v)) n (fun i q => ∃ r, q = (nI i, r) ∧ (∀ k, gI r 0 k = gI s 0 k) ∧ (∀ k, k < 28 ∨ 31 < k → gA r 0 k = gA s 0 k) ∧ (∀ k, gL r 0 k = gL s 0 k) ∧ ∀ v, v < i → gA r 0 28 v = nI (T v) ∧ gA r 0 29 v = nI (S v) ∧ gA r 0 30 v = nI (b * S v + T v) ∧ gA r 0 31 v = nI (b * S v + T v)) (by
      rintro i q hi ⟨r, rfl, e1, e2, e3, e4⟩
      have vi : vpb (nI i) 16 = true := vpb_nI (by omega) (by omega)
      have ci := nI_clamp (show i < 2 ^ 31 by omega)
      have t34 : gA r 0 34 i = nI (T i) := by rw [e2 34 (by omega)]; exact hT i hi
      have t33 : gA r 0 33 i = nI (S i) := by rw [e2 33 (by omega)]; exact hS i hi
      have eb : nI b * nI (S i) + nI (T i) = nI (b * S i + T i) := by rw [pk_mul, nI_add]
      have x1 : gI r 0 9 = nI n := (e1 9).trans hx
      have uu : ∀ (g : Nat → Int32) (y : Int32), upd g i y i = y := fun g y => by rw [upd_i, if_pos rfl]
      obtain ⟨r', hr'⟩ : ∃ x, x = pA (pA (pA (pA r 0 28 (upd (gA r 0 28) i (nI (T i)))) 0 29 (upd (gA r 0 29) i (nI (S i)))) 0 30 (upd (gA r 0 30) i (nI (b * S i + T i)))) 0 31 (upd (gA r 0 31) i (nI (b * S i + T i))) := ⟨_, rfl⟩
      have step : m_X12_lay_L82 (nI b) (nI i) r = some (.inl (nI (i + 1), r')) := by
        rw [m_X12_lay_L82, gIk, x1, if_neg (nI_ge hi (by omega)), lAk, if_pos vi, ci, t34, sAk, if_pos vi, ci, lAk, if_pos vi, ci]
        show sAk _ 0 29 16 (nI i) (gA r 0 33 i) _ = _
        rw [t33, sAk, if_pos vi, ci, lAk, if_pos vi, ci]
        show lAk _ 0 34 16 (nI i) _ = _
        rw [lAk, if_pos vi, ci]
        show sAk _ 0 30 16 (nI i) (nI b * gA r 0 33 i + gA r 0 34 i) _ = _
        rw [t33, t34, eb, sAk, if_pos vi, ci, lAk, if_pos vi, ci]
        show sAk _ 0 31 16 (nI i) (upd (gA r 0 30) i (nI (b * S i + T i)) i) _ = _
        rw [uu, sAk, if_pos vi, ci, nmk, nI_1, hr']
        rfl
      refine ⟨_, step, r', rfl, fun k => by rw [hr']; exact e1 k, fun k hk => ?_, fun k => by rw [hr']; exact e3 k, fun v hv => ?_⟩
      · rw [hr', gA_pA2, if_pos rfl, if_neg (by omega), gA_pA2, if_pos rfl, if_neg (by omega), gA_pA2, if_pos rfl, if_neg (by omega), gA_pA2, if_pos rfl, if_neg (by omega)]
        exact e2 k hk
      · have y1 : gA r' 0 28 = upd (gA r 0 28) i (nI (T i)) := by rw [hr']; rfl
        have y2 : gA r' 0 29 = upd (gA r 0 29) i (nI (S i)) := by rw [hr']; rfl
        have y3 : gA r' 0 30 = upd (gA r 0 30) i (nI (b * S i + T i)) := by rw [hr']; rfl
        have y4 : gA r' 0 31 = upd (gA r 0 31) i (nI (b * S i + T i)) := by rw [hr']; rfl
        rw [y1, y2, y3, y4, upd_i, upd_i, upd_i, upd_i]
        by_cases c : v = i
        · subst c
          rw [if_pos rfl, if_pos rfl, if_pos rfl, if_pos rfl]
          exact ⟨rfl, rfl, rfl, rfl⟩
        · rw [if_neg c, if_neg c, if_neg c, if_neg c]
          exact e4 v (by omega)) (by
      rintro q ⟨r, rfl, e1, e2, e3, e4⟩
      have x1 : gI r 0 9 = nI n := (e1 9).trans hx
      exact ⟨.inr r, by simp only [m_X12_lay_L82, gIk, x1, if_pos (Int32.le_refl _)], e1, e2, e3, e4⟩) FU 0 (nI 0, s) (by omega) (FU_lt (by omega)) ⟨s, rfl, fun _ => rfl, fun _ _ => rfl, fun _ => rfl, fun v hv => absurd hv (Nat.not_lt_zero v)⟩
  exact hI
