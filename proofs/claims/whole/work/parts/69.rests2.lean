-- 69.rests2: rests whole: it answers 1 with the least solution, or there is no least solution
theorem sol_in {n : Nat} {E : List Ge} {p P : Nat → Int} (hi : InG n E) (hP : SolG E P) (h : ∀ v, v < n → p v = P v) : SolG E p := fun e he => by
  rw [h e.1 (hi e he).1, h e.2.1 (hi e he).2]
  exact hP e he
theorem ge_in {n : Nat} {l : List Ed} (b : Int) (hok : ∀ e ∈ l, okEd n e) : InG n (l.map (geI b)) := by
  intro g hg
  obtain ⟨e, he, rfl⟩ := List.mem_map.mp hg
  obtain ⟨o1, o2, -, -⟩ := hok e he
  have c1 := fx_cl o1.1
  have c2 := fx_cl o2.1
  have d1 := o1.2
  have d2 := o2.2
  exact ⟨by show e.1.toNatClampNeg < n; omega, by show e.2.1.toNatClampNeg < n; omega⟩
theorem rests_rounds {s0 : Sg} {n b : Nat} {l : List Ed} (hb9 : gI s0 0 9 = nI n) (hn : n ≤ 16) (hb : b ≤ 60) (hl : LR (gI s0 0 20) (gA s0 0 16) (gA s0 0 17) (gA s0 0 18) (gA s0 0 19) l) (hl2 : l.length ≤ 704) (hok : ∀ e ∈ l, okEd n e) : ∀ (d i N : Nat) (f : Nat → Int32) (p : Nat → Int), i + d = n + 1 → d < N → PRf f p n (35200 * i) → (∀ q : Nat → Int, (∀ v, v < n → 0 ≤ q v) → SolG (l.map (geI b)) q → ∀ v, v < n → p v ≤ q v) → (∀ P, LeastG n (l.map (geI b)) P → offG P p n + i ≤ n ∨ offG P p n = 0) → (∀ P, LeastG n (l.map (geI b)) P → i ≤ n) →
    ∃ f', (lp (fun s : (Int32 × Sg) => m_X12_rests_L25 (nI b) s.1 s.2) N (nI i, pA s0 0 33 f) = some (.inr (pA s0 0 33 f')) ∧ ∃ p', PRf f' p' n 2000000 ∧ LeastG n (l.map (geI b)) p') ∨ (lp (fun s : (Int32 × Sg) => m_X12_rests_L25 (nI b) s.1 s.2) N (nI i, pA s0 0 33 f) = some (.inl (pA s0 0 33 f')) ∧ ∀ P, ¬ LeastG n (l.map (geI b)) P) := by
  intro d
  induction d with
  | zero =>
    intro i N f p hi hN hp hq hP hP2
    obtain ⟨N, rfl⟩ : ∃ M, N = M + 1 := ⟨N - 1, by omega⟩
    refine ⟨f, Or.inr ⟨lp_end ?_, fun P h => ?_⟩⟩
    · have e9 : gI (pA s0 0 33 f) 0 9 = nI n := hb9
      simp only [m_X12_rests_L25, gIk, e9]
      rw [if_pos (nI_lt (show n < i by omega) (by omega))]
    · have := hP2 P h
      omega
  | succ d ih =>
    intro i N f p hi hN hp hq hP hP2
    obtain ⟨N, rfl⟩ : ∃ M, N = M + 1 := ⟨N - 1, by omega⟩
    have e9 : gI (pA s0 0 33 f) 0 9 = nI n := hb9
    have hg : ¬ nI n < nI i := nI_nlt (by omega) (by omega)
    have hiE := ge_in (n := n) (l := l) (b : Int) hok
    obtain ⟨mv', f', r1, r2, r3⟩ := rests_round (s0 := s0) hn hb hl hl2 hok (nI i) l.length 0 FU 0 f p (35200 * i) (by omega) (FU_lt (by omega)) hp (by omega) (by omega)
    rw [List.drop_zero] at r2 r3
    have q2 : ∀ q : Nat → Int, (∀ v, v < n → 0 ≤ q v) → SolG (l.map (geI b)) q → ∀ v, v < n → roundG (l.map (geI b)) p v ≤ q v := fun q a c => round_le _ hiE c p (hq q a c)
    rcases r3 with ⟨z1, z2⟩ | ⟨z1, v, hv, z2⟩
    · refine ⟨f', Or.inl ⟨lp_end ?_, roundG (l.map (geI b)) p, r2.mono (by omega), ?_⟩⟩
      · simp only [m_X12_rests_L25, gIk, e9, if_neg hg, nmk, lpk]
        rw [show (((0 : Int32), (0 : Int32), pA s0 0 33 f) : Int32 × Int32 × Sg) = (0, nI 0, pA s0 0 33 f) from rfl, r1]
        simp only [z1, if_true]
      · refine ⟨fun v hv => (r2 v hv).2.1, ?_, q2⟩
        rw [z2]
        exact still_sol z2
    · have hoff : ∀ P, LeastG n (l.map (geI b)) P → offG P p n ≠ 0 := fun P h h0 => by
        have a := off_zero h0
        have b1 := round_still (sol_in hiE h.2.1 a)
        rw [b1] at z2
        omega
      have hless : ∀ P, LeastG n (l.map (geI b)) P → offG P (roundG (l.map (geI b)) p) n < offG P p n := fun P h => round_less hiE h (fun v hv => (hp v hv).2.1) (fun v hv => hq P h.1 h.2.1 v hv) (hoff P h)
      obtain ⟨f2, k⟩ := ih (i + 1) N f' (roundG (l.map (geI b)) p) (by omega) (by omega) (r2.mono (by omega)) q2 (fun P h => by
          have a := hless P h
          rcases hP P h with c | c
          · left; omega
          · exact absurd c (hoff P h)) (fun P h => by
          have a := hless P h
          rcases hP P h with c | c
          · omega
          · exact absurd c (hoff P h))
      have step : m_X12_rests_L25 (nI b) (nI i) (pA s0 0 33 f) = some (.inl (nI (i + 1), pA s0 0 33 f')) := by
        simp only [m_X12_rests_L25, gIk, e9, if_neg hg, nmk, lpk]
        rw [show (((0 : Int32), (0 : Int32), pA s0 0 33 f) : Int32 × Int32 × Sg) = (0, nI 0, pA s0 0 33 f) from rfl, r1]
        simp only [z1, if_neg (show ¬ (1 : Int32) = 0 by decide), nI_1]
      refine ⟨f2, ?_⟩
      rcases k with ⟨k1, k2⟩ | ⟨k1, k2⟩
      · exact Or.inl ⟨(lp_next step).trans k1, k2⟩
      · exact Or.inr ⟨(lp_next step).trans k1, k2⟩
theorem rests_zero {s0 : Sg} {n : Nat} (hb9 : gI s0 0 9 = nI n) (hn : n ≤ 16) (x1 : Int32) (g : Nat → Int32) : ∀ (d i N : Nat), i + d = n → d < N → lp (fun s : (Int32 × Sg) => m_X12_rests_L2 x1 s.1 s.2) N (nI i, pA s0 0 33 (filF i 0 g)) = some (pA s0 0 33 (filF n 0 g)) := by
  intro d
  induction d with
  | zero =>
    intro i N hi hN
    obtain ⟨N, rfl⟩ : ∃ M, N = M + 1 := ⟨N - 1, by omega⟩
    have e : i = n := by omega
    subst e
    have e9 : gI (pA s0 0 33 (filF i 0 g)) 0 9 = nI i := hb9
    rw [lp_end (r := pA s0 0 33 (filF i 0 g))]
    simp only [m_X12_rests_L2, gIk, e9, if_pos (Int32.le_refl _)]
  | succ d ih =>
    intro i N hi hN
    obtain ⟨N, rfl⟩ : ∃ M, N = M + 1 := ⟨N - 1, by omega⟩
    have e9 : gI (pA s0 0 33 (filF i 0 g)) 0 9 = nI n := hb9
    have hg : ¬ nI n ≤ nI i := nI_ge (by omega) (by omega)
    have h3 : upd (filF i 0 g) i 0 = filF (i + 1) 0 g := by
      funext q
      by_cases hq : q = i
      · subst hq; simp [upd, filF]
      · have : q < i + 1 ↔ q < i := by omega
        simp [upd, filF, hq, this]
    have a33 : gA (pA s0 0 33 (filF i 0 g)) 0 33 = filF i 0 g := rfl
    rw [lp_next (s' := (nI (i + 1), pA s0 0 33 (filF (i + 1) 0 g)))]
    · exact ih (i + 1) N (by omega) (by omega)
    · simp only [m_X12_rests_L2, gIk, e9, if_neg hg, sAk, if_pos (vpb_nI (show i < 16 by omega) (by omega)), nI_clamp (show i < 2 ^ 31 by omega), a33, h3, pA_pA', nmk, nI_1]
theorem pA_same33 (s : Sg) : pA s 0 33 (filF 0 0 (gA s 0 33)) = s := by
  have : filF 0 0 (gA s 0 33) = gA s 0 33 := by funext q; simp [filF]
  rw [this]
  obtain ⟨a, b, c⟩ := s
  unfold pA gA
  congr 2
  funext x y
  by_cases h1 : x = 0
  · by_cases h2 : y = 33 <;> simp [h1, h2]
  · simp [h1]
/-- rests: only the row of pushed numbers changes; 1: it holds the least solution; 0: there is none -/
theorem rests_eq {s0 : Sg} {n b : Nat} {l : List Ed} (hb9 : gI s0 0 9 = nI n) (hn : n ≤ 16) (hb : b ≤ 60) (hl : LR (gI s0 0 20) (gA s0 0 16) (gA s0 0 17) (gA s0 0 18) (gA s0 0 19) l) (hl2 : l.length ≤ 704) (hok : ∀ e ∈ l, okEd n e) : ∃ f', (m_X12_rests (nI b) s0 = some (1, pA s0 0 33 f') ∧ ∃ p, PRf f' p n 2000000 ∧ LeastG n (l.map (geI b)) p) ∨ (m_X12_rests (nI b) s0 = some (0, pA s0 0 33 f') ∧ ∀ P, ¬ LeastG n (l.map (geI b)) P) := by
  have z := rests_zero hb9 hn (nI b) (gA s0 0 33) n 0 FU (by omega) (FU_lt (by omega))
  rw [pA_same33] at z
  obtain ⟨F0, hF0⟩ : ∃ z, z = filF n 0 (gA s0 0 33) := ⟨_, rfl⟩
  rw [← hF0] at z
  obtain ⟨f', k⟩ := rests_rounds hb9 hn hb hl hl2 hok (n + 1) 0 FU F0 (fun _ => 0) (by omega) (FU_lt (by omega)) (fun v hv => by
      refine ⟨?_, Int.le_refl 0, by simp⟩
      show (F0 v).toInt = 0
      rw [hF0]
      unfold filF
      rw [if_pos hv]
      rfl) (fun q a _ v hv => a v hv) (fun P h => Or.inl (by have := off_le P (fun _ => 0) n; omega)) (fun P h => by omega)
  refine ⟨f', ?_⟩
  simp only [m_X12_rests, nmk, lpk, show (0 : Int32) = nI 0 from rfl, z]
  rcases k with ⟨k1, k2⟩ | ⟨k1, k2⟩
  · refine Or.inl ⟨?_, k2⟩
    rw [k1]
    rfl
  · refine Or.inr ⟨?_, k2⟩
    rw [k1]
    rfl
