-- 99lb.cmp3: compare: the plain run of the class, whole
/-- the end of a plain run: all of K turns, or the refused act ac of turn tc -/
def PF (j : Nat) (s0 s : Sg) (Rt : Nat → Nat → Nat → Int64) (n K tc ac : Nat) : Prop := FrR j s0 s ∧ (∀ q x, q < 4 → x < 16 → gL s 13 3 (16 * q + x) = gL s0 1 9 x) ∧ gL s 5 2 = Rt tc ac ∧ Rt 0 0 = gL s0 5 2 ∧ (∀ u, u < tc → Rt (u + 1) 0 = Rt u n) ∧ (∀ x u, x < n → (u < tc ∨ (u = tc ∧ x < ac)) → EvX s0 (gL s 13 3) (Rt u x) (Rt u (x + 1)) x u) ∧ ((gI s j 0 = 0 ∧ tc = K ∧ ac = 0 ∧ gI s j 1 = -1 ∧ gI s j 2 = -1) ∨ (tc < K ∧ ac < n ∧ ¬ gI s j 0 = 0 ∧ gI s j 1 = nI ac ∧ gI s j 2 = nI tc ∧ opW (gA s0 1 1) (gA s0 1 5) (gA s0 5 0) (gA s0 5 1) ac (tkX (gL s 13 3) (gA s0 1 6) (gA s0 1 7) ac 0 tc) (tkX (gL s 13 3) (gA s0 1 6) (gA s0 1 7) ac 1 tc) = gI s j 0))
section PXL
variable {s0 : Sg} {n j K : Nat}
theorem px_in (hj : j = 14 ∨ j = 15 ∨ j = 16) (hC : XC s0 n) {t : Nat} (ht : t < K) (hK : K ≤ 200) (x1 : Int32) : ∀ (d a : Nat) (s : Sg) (Rt : Nat → Nat → Nat → Int64) (N : Nat), a + d = n → d + 1 < N → PX j s0 s Rt n t a → ∃ s' Rt', lp (fun s : (Int32 × Sg) => m_X7_goPlain_L17 j x1 (nI t) s.1 s.2) N (nI a, s) = some s' ∧ (PX j s0 s' Rt' n t n ∨ ∃ a', a' < n ∧ ¬ gI s' j 0 = 0 ∧ PF j s0 s' Rt' n K t a') := by
  have hn := hC.2.1
  intro d
  induction d with
  | zero =>
    intro a s Rt N e hN h
    obtain ⟨N, rfl⟩ : ∃ M, N = M + 1 := ⟨N - 1, by omega⟩
    have ea : a = n := by omega
    subst ea
    refine ⟨s, Rt, lp_end ?_, Or.inl h⟩
    show m_X7_goPlain_L17 j x1 (nI t) (nI a) s = _
    rw [m_X7_goPlain_L17, gIk, h.1.1 1 0 (by omega), hC.1, if_pos (Int32.le_refl _)]
  | succ d ih =>
    intro a s Rt N e hN h
    obtain ⟨N, rfl⟩ : ∃ M, N = M + 1 := ⟨N - 1, by omega⟩
    obtain ⟨s', k1, k2⟩ := px_act hj hC (show t < 200 by omega) (show a < n by omega) h x1
    rcases k2 with ⟨Rt', k2⟩ | ⟨f', l1, l2, i0, i1, i2, w⟩
    · obtain ⟨s2, Rt2, r1, r2⟩ := ih (a + 1) s' Rt' N (by omega) (by omega) k2
      refine ⟨s2, Rt2, ?_, r2⟩
      rw [lp_next (s' := (nI (a + 1), s')) (by exact k1)]
      exact r1
    · obtain ⟨f, p1, p2, p3, p4, p5, p6, p7, p8⟩ := h
      obtain ⟨N, rfl⟩ : ∃ M, N = M + 1 := ⟨N - 1, by omega⟩
      refine ⟨s', Rt, ?_, Or.inr ⟨a, by omega, i0, f', by rw [l1]; exact p1, by rw [l2]; exact p2, p3, p4, by rw [l1]; exact p5, Or.inr ⟨ht, by omega, i0, i1, i2, by rw [l1]; exact w⟩⟩⟩
      rw [lp_next (s' := (nI (a + 1), s')) (by exact k1)]
      refine lp_end ?_
      show m_X7_goPlain_L17 j x1 (nI t) (nI (a + 1)) s' = _
      rw [m_X7_goPlain_L17, gIk, f'.1 1 0 (by omega), hC.1]
      by_cases c : nI n ≤ nI (a + 1)
      · rw [if_pos c]
      · rw [if_neg c, gIk, if_neg i0]
theorem px_out (hj : j = 14 ∨ j = 15 ∨ j = 16) (hC : XC s0 n) (hK : K ≤ 200) : ∀ (d t : Nat) (s : Sg) (Rt : Nat → Nat → Nat → Int64) (N : Nat), t + d = K → d + 1 < N → PX j s0 s Rt n t 0 → ∃ s' Rt' tc ac, lp (fun s : (Int32 × Sg) => m_X7_goPlain_L2 j (nI K) s.1 s.2) N (nI t, s) = some s' ∧ PF j s0 s' Rt' n K tc ac := by
  have hn := hC.2.1
  intro d
  induction d with
  | zero =>
    intro t s Rt N e hN h
    obtain ⟨N, rfl⟩ : ∃ M, N = M + 1 := ⟨N - 1, by omega⟩
    have et : t = K := by omega
    subst et
    obtain ⟨f, p1, p2, p3, p4, p5, p6, p7, p8⟩ := h
    refine ⟨s, Rt, t, 0, lp_end ?_, f, p1, p2, p3, p4, p5, Or.inl ⟨p6, rfl, rfl, p7, p8⟩⟩
    show m_X7_goPlain_L2 j (nI t) (nI t) s = _
    rw [m_X7_goPlain_L2, if_pos (Int32.le_refl _)]
  | succ d ih =>
    intro t s Rt N e hN h
    obtain ⟨N, rfl⟩ : ∃ M, N = M + 1 := ⟨N - 1, by omega⟩
    obtain ⟨s', Rt', k1, k2⟩ := px_in hj hC (show t < K by omega) hK (nI K) n 0 s Rt FU (by omega) (FU_lt (by omega)) h
    have k1' : lp (fun s : (Int32 × Sg) => m_X7_goPlain_L17 j (nI K) (nI t) s.1 s.2) FU (0, s) = some s' := k1
    have X1 : m_X7_goPlain_L2 j (nI K) (nI t) s = some (.inl (nI (t + 1), s')) := by
      rw [m_X7_goPlain_L2, if_neg (nI_ge (show t < K by omega) (by omega)), gIk, if_pos h.2.2.2.2.2.2.1, nmk, lpk, k1', ← nI_1]
      rfl
    rcases k2 with k2 | ⟨a', ha', i0, k2⟩
    · obtain ⟨f, p1, p2, p3, p4, p5, p6, p7, p8⟩ := k2
      have h' : PX j s0 s' (fun u x => if u = t + 1 ∧ x = 0 then Rt' t n else Rt' u x) n (t + 1) 0 := by
        refine ⟨f, p1, ?_, ?_, fun u hu => ?_, fun x u hx hu => ?_, p6, p7, p8⟩
        · show _ = if t + 1 = t + 1 ∧ 0 = 0 then Rt' t n else Rt' (t + 1) 0
          rw [if_pos ⟨rfl, rfl⟩]; exact p2
        · show (if 0 = t + 1 ∧ 0 = 0 then Rt' t n else Rt' 0 0) = _
          rw [if_neg (by omega)]; exact p3
        · show (if u + 1 = t + 1 ∧ 0 = 0 then Rt' t n else Rt' (u + 1) 0) = (if u = t + 1 ∧ n = 0 then Rt' t n else Rt' u n)
          rw [if_neg (show ¬ (u = t + 1 ∧ n = 0) by omega)]
          by_cases c : u = t
          · subst c
            rw [if_pos ⟨rfl, rfl⟩]
          · rw [if_neg (by omega)]
            exact p4 u (by omega)
        · show EvX s0 (gL s' 13 3) (if u = t + 1 ∧ x = 0 then Rt' t n else Rt' u x) (if u = t + 1 ∧ x + 1 = 0 then Rt' t n else Rt' u (x + 1)) x u
          rw [if_neg (by omega), if_neg (by omega)]
          exact p5 x u hx (by omega)
      obtain ⟨s2, Rt2, tc, ac, r1, r2⟩ := ih (t + 1) s' _ N (by omega) (by omega) h'
      refine ⟨s2, Rt2, tc, ac, ?_, r2⟩
      rw [lp_next (s' := (nI (t + 1), s')) (by exact X1)]
      exact r1
    · obtain ⟨N, rfl⟩ : ∃ M, N = M + 1 := ⟨N - 1, by omega⟩
      refine ⟨s', Rt', t, a', ?_, k2⟩
      rw [lp_next (s' := (nI (t + 1), s')) (by exact X1)]
      refine lp_end ?_
      show m_X7_goPlain_L2 j (nI K) (nI (t + 1)) s' = _
      rw [m_X7_goPlain_L2]
      by_cases c : nI K ≤ nI (t + 1)
      · rw [if_pos c]
      · rw [if_neg c, gIk, if_neg i0]
end PXL
