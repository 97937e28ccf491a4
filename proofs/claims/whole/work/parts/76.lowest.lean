-- 76.lowest: the lowest beat on both sides
def NR (l : List Ed) (b : Nat) : Prop := ∃ q, SolG (l.map (geI b)) q
theorem byRings_eq {s0 : Sg} {n : Nat} {l : List Ed} (hb9 : gI s0 0 9 = nI n) (hn : n ≤ 16) (hl : LR (gI s0 0 20) (gA s0 0 16) (gA s0 0 17) (gA s0 0 18) (gA s0 0 19) l) (hl2 : l.length ≤ 704) (hok : ∀ e ∈ l, okEd n e) (hdi : ∀ b, b ≤ 60 → NR l b → ∃ P, LeastG n (l.map (geI b)) P) : ∃ r f, m_X12_byRings s0 = some (r, pA s0 0 33 f) ∧ ((∃ c : Nat, 1 ≤ c ∧ c ≤ 60 ∧ r = nI c ∧ NR l c ∧ ∀ b, 1 ≤ b → b < c → ¬ NR l b) ∨ (r = 100000 ∧ ∀ b, 1 ≤ b → b ≤ 60 → ¬ NR l b)) := by
  have hI := ok_for (step := fun s : (Int32 × Sg) => m_X12_byRings_L2 s.1 s.2) (Q := fun r => Sum.elim (fun s => ∃ f, s = pA s0 0 33 f ∧ ∀ b, 1 ≤ b → b ≤ 60 → ¬ NR l b) (fun r => ∃ c f, r = (nI c, pA s0 0 33 f) ∧ 1 ≤ c ∧ c ≤ 60 ∧ NR l c ∧ ∀ b, 1 ≤ b → b < c → ¬ NR l b) r) 61 (fun i s => ∃ f, s = (nI i, pA s0 0 33 f) ∧ 1 ≤ i ∧ ∀ b, 1 ≤ b → b < i → ¬ NR l b) (by
      rintro i s hi ⟨f, rfl, h1, h2⟩
      have hg : ¬ (60 : Int32) < nI i := nI_nlt (a := 60) (b := i) (by omega) (by omega)
      obtain ⟨f', k⟩ := rests_eq (s0 := pA s0 0 33 f) (b := i) hb9 hn (by omega) hl hl2 hok
      rw [pA_pA'] at k
      rcases k with ⟨k1, p, k2, k3⟩ | ⟨k1, k2⟩
      · refine ⟨.inr (.inr (nI i, pA s0 0 33 f')), ?_, i, f', rfl, h1, by omega, ⟨p, k3.2.1⟩, h2⟩
        simp only [m_X12_byRings_L2, if_neg hg, k1, clk_some, if_neg (show ¬ (1 : Int32) = 0 by decide)]
      · refine ⟨.inl (nI (i + 1), pA s0 0 33 f'), ?_, f', rfl, by omega, fun b b1 b2 => ?_⟩
        · simp only [m_X12_byRings_L2, if_neg hg, k1, clk_some, if_true, nmk, nI_1]
        · by_cases c : b = i
          · subst c
            intro q
            obtain ⟨P, hP⟩ := hdi b (by omega) q
            exact k2 P hP
          · exact h2 b b1 (by omega)) (by
      rintro s ⟨f, rfl, h1, h2⟩
      refine ⟨.inr (.inl (pA s0 0 33 f)), ?_, f, rfl, fun b b1 b2 => h2 b b1 (by omega)⟩
      simp only [m_X12_byRings_L2, if_pos (show (60 : Int32) < nI 61 by decide)]) FU 1 (nI 1, s0) (by omega) (FU_lt (by omega)) ⟨filF 0 0 (gA s0 0 33), by rw [pA_same33], by omega, fun b b1 b2 => by omega⟩
  obtain ⟨r, hr, hQ⟩ := hI
  cases r with
  | inl s =>
    obtain ⟨f, rfl, q1⟩ := hQ
    refine ⟨100000, f, ?_, Or.inr ⟨rfl, q1⟩⟩
    simp only [m_X12_byRings, nmk, lpk, show (1 : Int32) = nI 1 from rfl, hr, Sum.elim]
  | inr s =>
    obtain ⟨c, f, rfl, q1, q2, q3, q4⟩ := hQ
    refine ⟨nI c, f, ?_, Or.inl ⟨c, q1, q2, rfl, q3, q4⟩⟩
    simp only [m_X12_byRings, nmk, lpk, show (1 : Int32) = nI 1 from rfl, hr, Sum.elim]
theorem half_eq {a b : Nat} (ha : a ≤ 60) (hb : b ≤ 60) : (nI a + nI b) / 2 = nI ((a + b) / 2) := by
  have : ∀ c : Fin 121, nI c.val / 2 = nI (c.val / 2) := by decide
  rw [nI_add]
  exact this ⟨a + b, by omega⟩
/-- halving: from u on the least beat without a ring -/
theorem halve_eq {s0 : Sg} {n u : Nat} {l : List Ed} (hx : gI s0 1 0 = nI n) (hn : n ≤ 16) (hl : LR (gI s0 4 0) (gA s0 4 1) (gA s0 4 2) (gA s0 4 3) (gA s0 4 4) l) (hl2 : l.length ≤ 720) (hok : ∀ e ∈ l, okEd n e) (hu : 1 ≤ u) (hu2 : u ≤ 60) (h60 : NR l 60) (g0 g1 : Nat → Int32) : ∃ c f0 f, lp (fun s : (Int32 × Int32 × Int32 × Sg) => m_X11_lowestBeat_L58 s.1 s.2.1 s.2.2.1 s.2.2.2) FU (nI u, nI 60, nI 0, pA (pA s0 6 0 g0) 6 1 g1) = some (nI c, pA (pA s0 6 0 f0) 6 1 f) ∧ u ≤ c ∧ c ≤ 60 ∧ NR l c ∧ ∀ b, u ≤ b → b < c → ¬ NR l b := by
  have pp : ∀ f0 f f0' f' : Nat → Int32, pA (pA (pA (pA s0 6 0 f0) 6 1 f) 6 0 f0') 6 1 f' = pA (pA s0 6 0 f0') 6 1 f' := by
    intro f0 f f0' f'
    unfold pA
    congr 2
    funext x y
    by_cases h1 : x = 6
    · by_cases h2 : y = 0
      · subst h2; simp [h1]
      · by_cases h3 : y = 1 <;> simp [h1, h2, h3]
    · simp [h1]
  have hI := ok_for (step := fun s : (Int32 × Int32 × Int32 × Sg) => m_X11_lowestBeat_L58 s.1 s.2.1 s.2.2.1 s.2.2.2) (Q := fun r => ∃ c f0 f, r = (nI c, pA (pA s0 6 0 f0) 6 1 f) ∧ u ≤ c ∧ c ≤ 60 ∧ NR l c ∧ ∀ b, u ≤ b → b < c → ¬ NR l b) 60 (fun i s => ∃ lo hi f0 f, s = (nI lo, nI hi, nI i, pA (pA s0 6 0 f0) 6 1 f) ∧ u ≤ lo ∧ lo ≤ hi ∧ hi ≤ 60 ∧ hi + i ≤ 59 + lo ∧ NR l hi ∧ ∀ b, u ≤ b → b < lo → ¬ NR l b) (by
      rintro i s hi ⟨lo, h, f0, f, rfl, h1, h2, h3, h4, h5, h6⟩
      have hg : ¬ (60 : Int32) ≤ nI i := nI_ge (a := i) (b := 60) (by omega) (by omega)
      by_cases c : h ≤ lo
      · have e : h = lo := by omega
        subst e
        refine ⟨.inr (nI h, pA (pA s0 6 0 f0) 6 1 f), ?_, h, f0, f, rfl, h1, h3, h5, h6⟩
        simp only [m_X11_lowestBeat_L58, if_neg hg, if_pos (Int32.le_refl _)]
      · have hc : ¬ nI h ≤ nI lo := nI_ge (by omega) (by omega)
        obtain ⟨f0', f', k⟩ := ring_eq (sx := pA (pA s0 6 0 f0) 6 1 f) (b := (lo + h) / 2) hx hn (by omega) hl hl2 hok
        rw [pp] at k
        have hm := half_eq (a := lo) (b := h) (by omega) (by omega)
        have dv : ∀ x : Option ((Int32 × Int32 × Int32 × Sg) ⊕ (Int32 × Sg)), dvk 2 x = x := fun x => by unfold dvk; rw [if_neg (by decide)]
        rcases k with ⟨k1, k2⟩ | ⟨k1, k2⟩
        · refine ⟨.inl (nI lo, nI ((lo + h) / 2), nI (i + 1), pA (pA s0 6 0 f0') 6 1 f'), ?_, lo, (lo + h) / 2, f0', f', rfl, h1, by omega, by omega, by omega, ⟨_, k2.2.1⟩, h6⟩
          simp only [m_X11_lowestBeat_L58, if_neg hg, if_neg hc, dv, nmk, hm, k1, clk_some, if_true, nI_1]
        · refine ⟨.inl (nI ((lo + h) / 2 + 1), nI h, nI (i + 1), pA (pA s0 6 0 f0') 6 1 f'), ?_, (lo + h) / 2 + 1, h, f0', f', rfl, by omega, by omega, by omega, by omega, h5, fun b b1 b2 => ?_⟩
          · simp only [m_X11_lowestBeat_L58, if_neg hg, if_neg hc, dv, nmk, hm, k1, clk_some, if_neg (show ¬ (1 : Int32) = 0 by decide), nI_1]
          · rintro ⟨q, hq⟩
            exact k2 q (sol_up hok (show b ≤ (lo + h) / 2 by omega) hq)) (by
      rintro s ⟨lo, h, f0, f, rfl, h1, h2, h3, h4, h5, h6⟩
      omega) FU 0 (nI u, nI 60, nI 0, pA (pA s0 6 0 g0) 6 1 g1) (by omega) (FU_lt (by omega)) ⟨u, 60, g0, g1, rfl, by omega, by omega, by omega, by omega, h60, fun b b1 b2 => by omega⟩
  obtain ⟨r, hr, c, f0, f, rfl, q⟩ := hI
  exact ⟨c, f0, f, hr, q⟩
theorem readyX {sx : Sg} {n : Nat} (hx : gI sx 1 0 = nI n) (hn : n ≤ 16) : (0 < n ∧ WhP n (gA sx 1 6) → m_X0_isReady sx = some (1, sx)) ∧ (¬ (0 < n ∧ WhP n (gA sx 1 6)) → m_X0_isReady sx = some (0, sx)) := by
  by_cases c : 0 < n
  · have hc : ¬ nI n ≤ 0 := nI_ge (a := 0) c (by omega)
    by_cases d : WhP n (gA sx 1 6)
    · refine ⟨fun _ => ?_, fun h => absurd ⟨c, d⟩ h⟩
      simp only [m_X0_isReady, gIk, hx, if_neg hc, isWhole_yes hn hx d, clk_some, if_neg (show ¬ (1 : Int32) = 0 by decide)]
    · refine ⟨fun h => absurd h.2 d, fun _ => ?_⟩
      simp only [m_X0_isReady, gIk, hx, if_neg hc, isWhole_no hn hx d, clk_some, if_true]
  · have e : n = 0 := by omega
    subst e
    refine ⟨fun h => absurd h.1 c, fun _ => ?_⟩
    simp only [m_X0_isReady, gIk, hx, if_pos (show nI 0 ≤ 0 by decide)]
theorem readyM {sm : Sg} {n : Nat} (hx : gI sm 0 9 = nI n) (hn : n ≤ 16) : (0 < n ∧ WhP n (gA sm 0 5) → m_X12_isReady sm = some (1, sm)) ∧ (¬ (0 < n ∧ WhP n (gA sm 0 5)) → m_X12_isReady sm = some (0, sm)) := by
  by_cases c : 0 < n
  · have hc : ¬ nI n ≤ 0 := nI_ge (a := 0) c (by omega)
    by_cases d : WhP n (gA sm 0 5)
    · refine ⟨fun _ => ?_, fun h => absurd ⟨c, d⟩ h⟩
      simp only [m_X12_isReady, gIk, hx, if_neg hc, wholeM_yes hn hx d, clk_some, if_true]
    · refine ⟨fun h => absurd h.2 d, fun _ => ?_⟩
      simp only [m_X12_isReady, gIk, hx, if_neg hc, wholeM_no hn hx d, clk_some, if_neg (show ¬ (0 : Int32) = 1 by decide)]
  · have e : n = 0 := by omega
    subst e
    refine ⟨fun h => absurd h.1 c, fun _ => ?_⟩
    simp only [m_X12_isReady, gIk, hx, if_pos (show nI 0 ≤ 0 by decide)]
theorem wb_em {sm tm : Sg} {n : Nat} (g : FrG sm tm) (h1 : WBo (gI sm 0 9) (gA sm 0 0) (gA sm 0 1) (gA sm 0 2) (gA sm 0 3) (gA sm 0 4) (gA sm 0 5) (gA sm 0 6) (gA sm 0 10) n) : WBo (gI tm 0 9) (gA tm 0 0) (gA tm 0 1) (gA tm 0 2) (gA tm 0 3) (gA tm 0 4) (gA tm 0 5) (gA tm 0 6) (gA tm 0 10) n := by
  obtain ⟨g1, g2, g3⟩ := g
  rw [g1 9 (by omega) (by omega), g2 0 (by omega), g2 1 (by omega), g2 2 (by omega), g2 3 (by omega), g2 4 (by omega), g2 5 (by omega), g2 6 (by omega), g2 10 (by omega)]
  exact h1
theorem rb_em {sx sy sm tm : Sg} (f : FrX sx sy) (g : FrG sm tm) (h3 : RBo sx sm) : RBo sy tm := by
  obtain ⟨f1, f2, f3⟩ := f
  obtain ⟨g1, g2, g3⟩ := g
  unfold RBo at h3 ⊢
  rw [f1 1 0 (by omega) (by omega) (by omega), f2 1 1 (by omega) (by omega) (by omega) (by omega), f2 1 2 (by omega) (by omega) (by omega) (by omega), f2 1 3 (by omega) (by omega) (by omega) (by omega), f2 1 4 (by omega) (by omega) (by omega) (by omega), f2 1 5 (by omega) (by omega) (by omega) (by omega), f2 1 6 (by omega) (by omega) (by omega) (by omega), f2 1 7 (by omega) (by omega) (by omega) (by omega), f3, f3, f2 1 10 (by omega) (by omega) (by omega) (by omega), g1 9 (by omega) (by omega), g2 0 (by omega), g2 1 (by omega), g2 2 (by omega), g2 3 (by omega), g2 4 (by omega), g2 5 (by omega), g2 6 (by omega), g2 10 (by omega), g3, g3]
  exact h3
/-- the edges of the class's weave, as the reference gathers them -/
theorem wv_all {sx sy sm : Sg} {n t : Nat} (f : FrX sx sy) (h3 : RBo sx sm) (h4 : RTo sx sm) (hw : WvOk sy n t) : ∃ l, LR (gI sy 4 0) (gA sy 4 1) (gA sy 4 2) (gA sy 4 3) (gA sy 4 4) l ∧ l.Perm (allM sm n t) := by
  refine ⟨_, hw.1, ?_⟩
  obtain ⟨f1, f2, f3⟩ := f
  rw [f2 1 1 (by omega) (by omega) (by omega) (by omega), f2 1 2 (by omega) (by omega) (by omega) (by omega), f2 1 5 (by omega) (by omega) (by omega) (by omega), f2 1 6 (by omega) (by omega) (by omega) (by omega), f2 1 7 (by omega) (by omega) (by omega) (by omega), f2 2 1 (by omega) (by omega) (by omega) (by omega), f2 2 2 (by omega) (by omega) (by omega) (by omega), f2 2 3 (by omega) (by omega) (by omega) (by omega), f2 2 4 (by omega) (by omega) (by omega) (by omega)]
  exact all_perm h3 h4
theorem nr_perm {l l' : List Ed} (h : l.Perm l') {b : Nat} (hr : NR l b) : NR l' b := by
  obtain ⟨q, hq⟩ := hr
  exact ⟨q, sol_perm (h.map _) hq⟩
