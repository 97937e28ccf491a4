-- 64.gather2: gather whole; both lists hold the same edges; count
theorem twoE_len (sort slot : Nat → Int32) (a b : Nat) : (twoE sort slot a b).length ≤ (if a < b then 4 else if a = b then 0 else 1) := by
  unfold twoE
  rw [List.length_append]
  by_cases g : a < b
  · have hb : (if a < b then 4 else if a = b then 0 else 1) = 4 := if_pos g
    rw [hb]
    have h1 : (if a < b ∧ (sort a = 4 ∨ sort a = 5) ∧ (sort b = 4 ∨ sort b = 5) ∧ slot a = slot b ∧ (sort a = 5 ∨ sort b = 5) then [((nI a, nI b, 1, 0) : Ed), (nI b, nI a, 1, 1)] else []).length ≤ 2 := by split <;> simp
    have h2 : (if sort b = 5 ∧ a ≠ b ∧ (sort a = 3 ∨ sort a = 4 ∨ sort a = 5) then (if a < b then [((nI a, nI b, 1, 0) : Ed)] else []) ++ [(nI a, nI b, 1, 1)] else []).length ≤ 2 := by
      rw [if_pos g]
      split <;> simp
    omega
  · have h1 : (if a < b ∧ (sort a = 4 ∨ sort a = 5) ∧ (sort b = 4 ∨ sort b = 5) ∧ slot a = slot b ∧ (sort a = 5 ∨ sort b = 5) then [((nI a, nI b, 1, 0) : Ed), (nI b, nI a, 1, 1)] else []) = [] := if_neg (fun q => g q.1)
    rw [h1]
    by_cases e : a = b
    · have h2 : (if sort b = 5 ∧ a ≠ b ∧ (sort a = 3 ∨ sort a = 4 ∨ sort a = 5) then (if a < b then [((nI a, nI b, 1, 0) : Ed)] else []) ++ [(nI a, nI b, 1, 1)] else []) = [] := if_neg (fun q => q.2.1 e)
      rw [h2]
      simp
    · have hb : (if a < b then 4 else if a = b then 0 else 1) = 1 := by rw [if_neg g, if_neg e]
      rw [hb, if_neg g]
      split <;> simp
theorem two_sum (b : Nat) : ∀ i, fbs (fun a => if a < b then 4 else if a = b then 0 else 1) i = if i ≤ b then 4 * i else 3 * b + (i - 1) := by
  intro i
  induction i with
  | zero => simp [fbs]
  | succ i ih =>
    show fbs _ i + (if i < b then 4 else if i = b then 0 else 1) = _
    rw [ih]
    by_cases g : i < b
    · rw [if_pos g, if_pos (by omega), if_pos (by omega)]; omega
    · rw [if_neg g]
      by_cases g2 : i = b
      · rw [if_pos g2, if_pos (by omega), if_neg (by omega)]; omega
      · rw [if_neg g2, if_neg (by omega), if_neg (by omega)]; omega
theorem twos_len (sort slot : Nat → Int32) (b i : Nat) : ((List.range i).flatMap (fun a => twoE sort slot a b)).length ≤ (if i ≤ b then 4 * i else 3 * b + (i - 1)) := by
  have h := fm_len (g := fun a => twoE sort slot a b) (c := fun a => if a < b then 4 else if a = b then 0 else 1) (fun a => twoE_len sort slot a b) i
  rw [two_sum] at h
  exact h
def oneM (n : Nat) (sort lag slot ofs back : Nat → Int32) (b : Nat) : List Ed := opsE n lag ofs back b ++ (if sort b = 5 then [(nI b, nI b, 1, 1)] else []) ++ (List.range n).flatMap (fun a => twoE sort slot a b)
theorem oneM_len {n : Nat} (sort lag slot ofs back : Nat → Int32) {b : Nat} (hb : b < n) : (oneM n sort lag slot ofs back b).length ≤ 3 + 3 * b + n := by
  have h1 : (opsE n lag ofs back b).length ≤ 3 := opsE_len n lag ofs back b 3
  have h2 := twos_len sort slot b n
  rw [if_neg (show ¬ n ≤ b by omega)] at h2
  unfold oneM
  rw [List.length_append, List.length_append]
  have h4 : (if sort b = 5 then [((nI b, nI b, 1, 1) : Ed)] else []).length ≤ 1 := by split <;> simp
  omega
theorem edG_len {n : Nat} {G : Nat → List Ed} (hG : ∀ b, b < n → (G b).length ≤ 3 + 3 * b + n) : ∀ m, m ≤ n → ((List.range m).flatMap G).length ≤ (3 + n) * m + 3 * (m * (m - 1) / 2)
  | 0, _ => by simp
  | m + 1, hm => by
    rw [fm_succ, List.length_append]
    have h1 := edG_len hG m (by omega)
    have h2 := hG m (by omega)
    have h3 : (m + 1) * (m + 1 - 1) / 2 = m * (m - 1) / 2 + m := by
      rcases m with _ | m
      · rfl
      · show (m + 1 + 1) * (m + 1) / 2 = (m + 1) * m / 2 + (m + 1)
        have : (m + 1 + 1) * (m + 1) = (m + 1) * m + 2 * (m + 1) := by
          rw [Nat.mul_comm (m + 1 + 1), Nat.mul_comm 2, ← Nat.mul_add]
        rw [this, Nat.add_mul_div_left _ _ (by omega)]
    rw [h3, Nat.mul_succ]
    omega
theorem len_600 {m n : Nat} (hm : m < n) (hn : n ≤ 16) : (3 + n) * m + 3 * (m * (m - 1) / 2) ≤ 600 := by
  have h1 : (3 + n) * m ≤ 19 * 15 := Nat.mul_le_mul (by omega) (by omega)
  have h2 : m * (m - 1) ≤ 15 * 14 := Nat.mul_le_mul (by omega) (by omega)
  have h3 : m * (m - 1) / 2 ≤ 15 * 14 / 2 := Nat.div_le_div_right h2
  omega
section GN
variable {s0 : Sg} {n : Nat}
theorem m_twos (hb : gI s0 0 9 = nI n) (hn : n ≤ 16) {b : Nat} (hbn : b < n) {st : Sg} {l : List Ed} (h : EM s0 st l) (hl : l.length + 80 ≤ 704) : ∃ st', lp (fun s : (Int32 × Sg) => m_X12_gather_L104 (nI b) s.1 s.2) FU (nI 0, st) = some st' ∧ EM s0 st' (l ++ (List.range n).flatMap (fun a => twoE (gA s0 0 0) (gA s0 0 4) a b)) :=
  es_for (step := fun s : (Int32 × Sg) => m_X12_gather_L104 (nI b) s.1 s.2) (P := EM s0) (l0 := l) (g := fun a => twoE (gA s0 0 0) (gA s0 0 4) a b) (e := n) (by omega) (fun st hE => by
      have eI : gI st 0 9 = nI n := (hE.1 9 (by omega)).trans hb
      simp only [m_X12_gather_L104, gIk, eI, if_pos (Int32.le_refl _)]) (fun i st hi hE => by
      have eI : gI st 0 9 = nI n := (hE.1 9 (by omega)).trans hb
      have hg : ¬ nI n ≤ nI i := nI_ge hi (by omega)
      have hL := twos_len (gA s0 0 0) (gA s0 0 4) b i
      have hL2 : (if i ≤ b then 4 * i else 3 * b + (i - 1)) ≤ 60 := by split <;> omega
      obtain ⟨st2, j1, j2⟩ := m_two (show i < 16 by omega) (show b < 16 by omega) hE (by rw [List.length_append]; split <;> (try split) <;> omega) (by rw [List.length_append]; omega)
      simp only [m_X12_gather_L104, gIk, eI, if_neg hg, j1, clk_some, nmk, nI_1]
      exact ⟨st2, rfl, j2⟩) st h
theorem m_own (hb : gI s0 0 9 = nI n) (hn : n ≤ 16) {st : Sg} (h : EM s0 st []) : ∃ st', lp (fun s : (Int32 × Sg) => m_X12_gather_L7 s.1 s.2) FU (nI 0, st) = some st' ∧ EM s0 st' (edM n (gA s0 0 0) (gA s0 0 1) (gA s0 0 4) (gA s0 0 5) (gA s0 0 6)) := by
  obtain ⟨st', r1, r2⟩ := es_for (step := fun s : (Int32 × Sg) => m_X12_gather_L7 s.1 s.2) (P := EM s0) (l0 := []) (g := oneM n (gA s0 0 0) (gA s0 0 1) (gA s0 0 4) (gA s0 0 5) (gA s0 0 6)) (e := n) (by omega) (fun st hE => by
      have eI : gI st 0 9 = nI n := (hE.1 9 (by omega)).trans hb
      simp only [m_X12_gather_L7, gIk, eI, if_pos (Int32.le_refl _)]) (fun i st hi hE => by
      have eI : gI st 0 9 = nI n := (hE.1 9 (by omega)).trans hb
      have hg : ¬ nI n ≤ nI i := nI_ge hi (by omega)
      have hv : vpb (nI i) 16 = true := vpb_nI (by omega) (by omega)
      have hL := edG_len (n := n) (G := oneM n (gA s0 0 0) (gA s0 0 1) (gA s0 0 4) (gA s0 0 5) (gA s0 0 6)) (fun b hb => oneM_len _ _ _ _ _ hb) i (by omega)
      have hM := len_lt hi hn
      rw [List.nil_append] at hE
      obtain ⟨s1, a1, a2⟩ := m_ops hb hn hi hE (by omega)
      have l1 : (opsE n (gA s0 0 1) (gA s0 0 5) (gA s0 0 6) i).length ≤ 3 := opsE_len n (gA s0 0 1) (gA s0 0 5) (gA s0 0 6) i 3
      have hM2 := len_600 hi hn
      have e0 : gA s1 0 0 = gA s0 0 0 := a2.2.1 0 (by omega)
      simp only [m_X12_gather_L7, gIk, eI, if_neg hg, nmk, nI_3x, lpk, a1, lAk, if_pos hv, nI_clamp (show i < 2 ^ 31 by omega), e0, List.nil_append, nI_1]
      by_cases c : gA s0 0 0 i = 5
      · have eo : oneM n (gA s0 0 0) (gA s0 0 1) (gA s0 0 4) (gA s0 0 5) (gA s0 0 6) i = opsE n (gA s0 0 1) (gA s0 0 5) (gA s0 0 6) i ++ [(nI i, nI i, 1, 1)] ++ (List.range n).flatMap (fun a => twoE (gA s0 0 0) (gA s0 0 4) a i) := by unfold oneM; rw [if_pos c]
        obtain ⟨s2, b1, b2⟩ := em_enter a2 (by rw [List.length_append]; omega) (nI i) (nI i) 1 1
        obtain ⟨s3, c1, c2⟩ := m_twos hb hn hi b2 (by rw [List.length_append, List.length_append]; simp only [List.length_cons, List.length_nil]; omega)
        rw [if_pos c, b1, clk_some, show (0 : Int32) = nI 0 from rfl, c1, eo]
        exact ⟨s3, rfl, by simpa using c2⟩
      · have eo : oneM n (gA s0 0 0) (gA s0 0 1) (gA s0 0 4) (gA s0 0 5) (gA s0 0 6) i = opsE n (gA s0 0 1) (gA s0 0 5) (gA s0 0 6) i ++ (List.range n).flatMap (fun a => twoE (gA s0 0 0) (gA s0 0 4) a i) := by unfold oneM; rw [if_neg c, List.append_nil]
        obtain ⟨s3, c1, c2⟩ := m_twos hb hn hi a2 (by rw [List.length_append]; omega)
        rw [if_neg c, show (0 : Int32) = nI 0 from rfl, c1, eo]
        exact ⟨s3, rfl, by simpa using c2⟩) st h
  exact ⟨st', r1, by rw [List.nil_append] at r2; exact r2⟩
theorem m_told {t : Nat} (hb : gI s0 0 15 = nI t) (ht : t ≤ 40) {st : Sg} {l : List Ed} (h : EM s0 st l) (hl : l.length + t ≤ 704) : ∃ st', lp (fun s : (Int32 × Sg) => m_X12_gather_L132 s.1 s.2) FU (nI 0, st) = some st' ∧ EM s0 st' (l ++ toldL t (gA s0 0 11) (gA s0 0 12) (gA s0 0 13) (gA s0 0 14)) := by
  have key : ∀ i, ((List.range i).flatMap (fun i => [((gA s0 0 11 i, gA s0 0 12 i, gA s0 0 13 i, gA s0 0 14 i) : Ed)])) = toldL i (gA s0 0 11) (gA s0 0 12) (gA s0 0 13) (gA s0 0 14) := by
    intro i
    induction i with
    | zero => rfl
    | succ i ih =>
      rw [fm_succ, ih]
      unfold toldL
      rw [List.range_succ, List.map_append]
      rfl
  obtain ⟨st', r1, r2⟩ := es_for (step := fun s : (Int32 × Sg) => m_X12_gather_L132 s.1 s.2) (P := EM s0) (l0 := l) (g := fun i => [(gA s0 0 11 i, gA s0 0 12 i, gA s0 0 13 i, gA s0 0 14 i)]) (e := t) (by omega) (fun st hE => by
      have eI : gI st 0 15 = nI t := (hE.1 15 (by omega)).trans hb
      simp only [m_X12_gather_L132, gIk, eI, if_pos (Int32.le_refl _)]) (fun i st hi hE => by
      have eI : gI st 0 15 = nI t := (hE.1 15 (by omega)).trans hb
      have e11 : gA st 0 11 = gA s0 0 11 := hE.2.1 11 (by omega)
      have e12 : gA st 0 12 = gA s0 0 12 := hE.2.1 12 (by omega)
      have e13 : gA st 0 13 = gA s0 0 13 := hE.2.1 13 (by omega)
      have e14 : gA st 0 14 = gA s0 0 14 := hE.2.1 14 (by omega)
      have hg : ¬ nI t ≤ nI i := nI_ge hi (by omega)
      have hv : vpb (nI i) 40 = true := vpb_nI (by omega) (by omega)
      obtain ⟨st2, j1, j2⟩ := em_enter hE (by rw [key, List.length_append]; unfold toldL; rw [List.length_map, List.length_range]; omega) (gA s0 0 11 i) (gA s0 0 12 i) (gA s0 0 13 i) (gA s0 0 14 i)
      simp only [m_X12_gather_L132, gIk, eI, if_neg hg, lAk, if_pos hv, nI_clamp (show i < 2 ^ 31 by omega), e11, e12, e13, e14, j1, clk_some, nmk, nI_1]
      exact ⟨st2, rfl, j2⟩) st h
  rw [key] at r2
  exact ⟨st', r1, r2⟩
end GN
/-- the reference's list of all edges -/
def allM (sm : Sg) (n t : Nat) : List Ed := edM n (gA sm 0 0) (gA sm 0 1) (gA sm 0 4) (gA sm 0 5) (gA sm 0 6) ++ toldL t (gA sm 0 11) (gA sm 0 12) (gA sm 0 13) (gA sm 0 14)
theorem edM_len {n : Nat} (hn : n ≤ 16) (sort lag slot ofs back : Nat → Int32) : (edM n sort lag slot ofs back).length ≤ 664 :=
  Nat.le_trans (edG_len (n := n) (G := oneM n sort lag slot ofs back) (fun b hb => oneM_len _ _ _ _ _ hb) n (Nat.le_refl n)) (len_16 (Nat.le_refl n) hn)
theorem gather_eq {sm : Sg} {n t : Nat} (hb : gI sm 0 9 = nI n) (hn : n ≤ 16) (ht : gI sm 0 15 = nI t) (ht2 : t ≤ 40) : ∃ sy, m_X12_gather sm = some ((), sy) ∧ EM sm sy (allM sm n t) := by
  have h0 : EM (pI sm 0 20 0) (pI sm 0 20 0) [] := ⟨fun _ _ => rfl, fun _ _ => rfl, fun _ => rfl, ⟨rfl, fun i h => absurd h (Nat.not_lt_zero i)⟩⟩
  obtain ⟨s1, a1, a2⟩ := m_own (s0 := pI sm 0 20 0) (n := n) hb hn h0
  have eL := edM_len hn (gA sm 0 0) (gA sm 0 1) (gA sm 0 4) (gA sm 0 5) (gA sm 0 6)
  obtain ⟨s2, b1, b2⟩ := m_told (s0 := pI sm 0 20 0) ht ht2 a2 (by
    show (edM n (gA sm 0 0) (gA sm 0 1) (gA sm 0 4) (gA sm 0 5) (gA sm 0 6)).length + t ≤ 704
    omega)
  refine ⟨s2, ?_, fun k hk => ?_, b2.2.1, b2.2.2.1, b2.2.2.2⟩
  · rw [show pI sm 0 20 0 = pI sm 0 20 (nI 0) from rfl] at a1
    simp only [m_X12_gather, sIk, nmk, lpk, show (0 : Int32) = nI 0 from rfl, a1, b1]
  · refine (b2.1 k hk).trans ?_
    rw [gI_pI, if_pos rfl, if_neg hk]
