-- 62.renew: what a store's edges are, Weave.renew whole
section WY
variable {s0 : Sg} {n : Nat}
theorem mayRef_eq {st : Sg} (hA : gA st 1 1 = gA s0 1 1) {a : Nat} (ha : a < 16) : m_X0_mayBeRefused (nI a) st = some (if gA s0 1 1 a = 3 ∨ gA s0 1 1 a = 4 ∨ gA s0 1 1 a = 5 then 1 else 0, st) := by
  have hv : vpb (nI a) 16 = true := vpb_nI ha (by omega)
  simp only [m_X0_mayBeRefused, touches_eq hA ha, clk_some, ite10, lAk, if_pos hv, nI_clamp (show a < 2 ^ 31 by omega), hA]
  by_cases c1 : gA s0 1 1 a = 3
  · rw [if_pos c1, if_pos (Or.inl c1)]
  · rw [if_neg c1]
    by_cases c2 : gA s0 1 1 a = 4 ∨ gA s0 1 1 a = 5
    · rw [if_pos c2, if_pos (Or.inr c2)]
    · rw [if_neg c2, if_neg (fun q => q.elim c1 c2)]
theorem x_store (hb : gI s0 1 0 = nI n) (hn : n ≤ 16) {b : Nat} (hbn : b < n) {st : Sg} {l : List Ed} (h : ES s0 st l) (hl : l.length + n + b ≤ 720) : ∃ st', m_X10_joinStore (nI b) st = some ((), st') ∧ ES s0 st' (l ++ storeE n (gA s0 1 1) b) := by
  obtain ⟨s1, i1, i2⟩ := es_join h (by omega) (nI b) (nI b) 1 1
  obtain ⟨st', r1, r2⟩ := es_for (step := fun s : (Int32 × Sg) => m_X10_joinStore_L14 (nI b) s.1 s.2) (P := ES s0) (l0 := l ++ [(nI b, nI b, 1, 1)]) (g := fun a => if a ≠ b ∧ (gA s0 1 1 a = 3 ∨ gA s0 1 1 a = 4 ∨ gA s0 1 1 a = 5) then (if a < b then [((nI a, nI b, 1, 0) : Ed)] else []) ++ [(nI a, nI b, 1, 1)] else []) (e := n) (by omega) (fun st hE => by
      have eI : gI st 1 0 = nI n := (hE.1 1 0 (by omega)).trans hb
      simp only [m_X10_joinStore_L14, gIk, eI, if_pos (Int32.le_refl _)]) (fun i st hi hE => by
      have eI : gI st 1 0 = nI n := (hE.1 1 0 (by omega)).trans hb
      have eA : ∀ k, gA st 1 k = gA s0 1 k := fun k => hE.2.1 1 k (by omega)
      have hg : ¬ nI n ≤ nI i := nI_ge hi (by omega)
      have hL := storeE_len (gA s0 1 1) b i
      have hlen : (l ++ [((nI b, nI b, 1, 1) : Ed)]).length = l.length + 1 := by simp
      simp only [m_X10_joinStore_L14, m_X10_joinStore_52, gIk, eI, if_neg hg, mayRef_eq (eA 1) (show i < 16 by omega), clk_some, ite10, nmk, nI_1]
      by_cases e : i = b
      · subst e
        have hnc : ¬ (i ≠ i ∧ (gA s0 1 1 i = 3 ∨ gA s0 1 1 i = 4 ∨ gA s0 1 1 i = 5)) := fun q => q.1 rfl
        rw [if_pos rfl, if_neg hnc]
        exact ⟨st, rfl, by simpa using hE⟩
      · have e' : ¬ nI i = nI b := fun q => e ((nI_eq (by omega) (by omega)).mp q)
        rw [if_neg e']
        by_cases c : gA s0 1 1 i = 3 ∨ gA s0 1 1 i = 4 ∨ gA s0 1 1 i = 5
        · have hc : i ≠ b ∧ (gA s0 1 1 i = 3 ∨ gA s0 1 1 i = 4 ∨ gA s0 1 1 i = 5) := ⟨e, c⟩
          rw [if_pos c, if_pos hc]
          by_cases g : i < b
          · rw [if_pos (show i ≤ b by omega)] at hL
            obtain ⟨st2, j1, j2⟩ := es_join hE (by rw [List.length_append, hlen]; omega) (nI i) (nI b) 1 0
            obtain ⟨st3, k1, k2⟩ := es_join j2 (by rw [List.length_append, List.length_append, hlen]; simp only [List.length_cons, List.length_nil]; omega) (nI i) (nI b) 1 1
            rw [if_neg (nI_ge g (by omega)), if_pos g, j1, clk_some, k1, clk_some]
            exact ⟨st3, rfl, by simpa using k2⟩
          · rw [if_neg (show ¬ i ≤ b by omega)] at hL
            obtain ⟨st2, j1, j2⟩ := es_join hE (by rw [List.length_append, hlen]; omega) (nI i) (nI b) 1 1
            rw [if_pos (nI_le (show b ≤ i by omega) (by omega)), if_neg g, j1, clk_some]
            exact ⟨st2, rfl, by simpa using j2⟩
        · have hnc : ¬ (i ≠ b ∧ (gA s0 1 1 i = 3 ∨ gA s0 1 1 i = 4 ∨ gA s0 1 1 i = 5)) := fun q => c q.2
          rw [if_neg c, if_neg hnc]
          exact ⟨st, rfl, by simpa using hE⟩) s1 i2
  refine ⟨st', ?_, by simpa [storeE] using r2⟩
  simp only [m_X10_joinStore, i1, clk_some, nmk, lpk, show (0 : Int32) = nI 0 from rfl, r1]
/-- the edges of act b -/
def oneX (n : Nat) (sort lag slot ofs back : Nat → Int32) (b : Nat) : List Ed := opsE n lag ofs back b ++ clashE sort slot b ++ (if sort b = 5 then storeE n sort b else [])
theorem oneX_len (sort lag slot ofs back : Nat → Int32) {b : Nat} (hb : b < n) : (oneX n sort lag slot ofs back b).length ≤ 3 + 3 * b + n := by
  have h1 := opsE_len n lag ofs back b 3
  have h2 := clashE_len sort slot b b
  have h3 := storeE_len sort b n
  rw [if_neg (show ¬ n ≤ b by omega)] at h3
  unfold oneX
  rw [List.length_append, List.length_append]
  have h4 : (if sort b = 5 then storeE n sort b else []).length ≤ n + b := by
    split
    · unfold storeE
      rw [List.length_cons]
      omega
    · simp
  have h5 : (opsE n lag ofs back b).length ≤ 3 := h1
  have h6 : (clashE sort slot b).length ≤ 2 * b := h2
  omega
theorem edX_len (sort lag slot ofs back : Nat → Int32) : ∀ m, m ≤ n → ((List.range m).flatMap (oneX n sort lag slot ofs back)).length ≤ (3 + n) * m + 3 * (m * (m - 1) / 2)
  | 0, _ => by simp
  | m + 1, hm => by
    rw [fm_succ, List.length_append]
    have h1 := edX_len sort lag slot ofs back m (by omega)
    have h2 := oneX_len (n := n) sort lag slot ofs back (b := m) (by omega)
    have h3 : (m + 1) * (m + 1 - 1) / 2 = m * (m - 1) / 2 + m := by
      rcases m with _ | m
      · rfl
      · show (m + 1 + 1) * (m + 1) / 2 = (m + 1) * m / 2 + (m + 1)
        have : (m + 1 + 1) * (m + 1) = (m + 1) * m + 2 * (m + 1) := by
          rw [Nat.mul_comm (m + 1 + 1), Nat.mul_comm 2, ← Nat.mul_add]
        rw [this, Nat.add_mul_div_left _ _ (by omega)]
    rw [h3, Nat.mul_succ]
    omega
theorem len_16 {m : Nat} (hm : m ≤ n) (hn : n ≤ 16) : (3 + n) * m + 3 * (m * (m - 1) / 2) ≤ 304 + 360 := by
  have h1 : (3 + n) * m ≤ 19 * 16 := Nat.mul_le_mul (by omega) (by omega)
  have h2 : m * (m - 1) ≤ 16 * 15 := Nat.mul_le_mul (by omega) (by omega)
  have h3 : m * (m - 1) / 2 ≤ 16 * 15 / 2 := Nat.div_le_div_right h2
  omega
theorem len_lt {m : Nat} (hm : m < n) (hn : n ≤ 16) : (3 + n) * m + 3 * (m * (m - 1) / 2) + (3 + 3 * m + n) ≤ 664 := by
  have h1 : (3 + n) * m ≤ 19 * m := Nat.mul_le_mul_right _ (by omega)
  have h2 : m * (m - 1) ≤ 15 * 14 := Nat.mul_le_mul (by omega) (by omega)
  have h3 : m * (m - 1) / 2 ≤ 15 * 14 / 2 := Nat.div_le_div_right h2
  omega
theorem x_own (hb : gI s0 1 0 = nI n) (hn : n ≤ 16) {st : Sg} (h : ES s0 st []) : ∃ st', lp (fun s : (Int32 × Sg) => m_X10_renew_L18 s.1 s.2) FU (nI 0, st) = some st' ∧ ES s0 st' (edX n (gA s0 1 1) (gA s0 1 2) (gA s0 1 5) (gA s0 1 6) (gA s0 1 7)) := by
  obtain ⟨st', r1, r2⟩ := es_for (step := fun s : (Int32 × Sg) => m_X10_renew_L18 s.1 s.2) (P := ES s0) (l0 := []) (g := oneX n (gA s0 1 1) (gA s0 1 2) (gA s0 1 5) (gA s0 1 6) (gA s0 1 7)) (e := n) (by omega) (fun st hE => by
      have eI : gI st 1 0 = nI n := (hE.1 1 0 (by omega)).trans hb
      simp only [m_X10_renew_L18, gIk, eI, if_pos (Int32.le_refl _)]) (fun i st hi hE => by
      have eI : gI st 1 0 = nI n := (hE.1 1 0 (by omega)).trans hb
      have hg : ¬ nI n ≤ nI i := nI_ge hi (by omega)
      have hv : vpb (nI i) 16 = true := vpb_nI (by omega) (by omega)
      have hL := edX_len (n := n) (gA s0 1 1) (gA s0 1 2) (gA s0 1 5) (gA s0 1 6) (gA s0 1 7) i (by omega)
      have hM := len_lt hi hn
      rw [List.nil_append] at hE
      obtain ⟨s1, a1, a2⟩ := x_ops hb hn hi hE (by omega)
      have l1 : (opsE n (gA s0 1 2) (gA s0 1 6) (gA s0 1 7) i).length ≤ 3 := opsE_len n (gA s0 1 2) (gA s0 1 6) (gA s0 1 7) i 3
      have l2 : (clashE (gA s0 1 1) (gA s0 1 5) i).length ≤ 2 * i := clashE_len (gA s0 1 1) (gA s0 1 5) i i
      obtain ⟨s2, b1, b2⟩ := x_clash (show i < 16 by omega) a2 (by rw [List.length_append]; omega)
      have eA : gA s2 1 1 = gA s0 1 1 := b2.2.1 1 1 (by omega)
      simp only [m_X10_renew_L18, gIk, eI, if_neg hg, a1, b1, clk_some, lAk, if_pos hv, nI_clamp (show i < 2 ^ 31 by omega), eA, nmk, nI_1, List.nil_append]
      by_cases c : gA s0 1 1 i = 5
      · have eo : oneX n (gA s0 1 1) (gA s0 1 2) (gA s0 1 5) (gA s0 1 6) (gA s0 1 7) i = opsE n (gA s0 1 2) (gA s0 1 6) (gA s0 1 7) i ++ clashE (gA s0 1 1) (gA s0 1 5) i ++ storeE n (gA s0 1 1) i := by unfold oneX; rw [if_pos c]
        obtain ⟨s3, c1, c2⟩ := x_store hb hn hi b2 (by rw [List.length_append, List.length_append]; omega)
        rw [if_pos c, c1, clk_some, eo]
        exact ⟨s3, rfl, by simpa using c2⟩
      · have eo : oneX n (gA s0 1 1) (gA s0 1 2) (gA s0 1 5) (gA s0 1 6) (gA s0 1 7) i = opsE n (gA s0 1 2) (gA s0 1 6) (gA s0 1 7) i ++ clashE (gA s0 1 1) (gA s0 1 5) i := by unfold oneX; rw [if_neg c, List.append_nil]
        rw [if_neg c, eo]
        exact ⟨s2, rfl, by simpa using b2⟩) st h
  exact ⟨st', r1, by rw [List.nil_append] at r2; exact r2⟩
theorem x_told {t : Nat} (hb : gI s0 2 0 = nI t) (ht : t ≤ 40) {st : Sg} {l : List Ed} (h : ES s0 st l) (hl : l.length + t ≤ 720) : ∃ st', m_X1_joinAll 4 st = some ((), st') ∧ ES s0 st' (l ++ toldL t (gA s0 2 1) (gA s0 2 2) (gA s0 2 3) (gA s0 2 4)) := by
  have key : ∀ i, ((List.range i).flatMap (fun i => [((gA s0 2 1 i, gA s0 2 2 i, gA s0 2 3 i, gA s0 2 4 i) : Ed)])) = toldL i (gA s0 2 1) (gA s0 2 2) (gA s0 2 3) (gA s0 2 4) := by
    intro i
    induction i with
    | zero => rfl
    | succ i ih =>
      rw [fm_succ, ih]
      unfold toldL
      rw [List.range_succ, List.map_append]
      rfl
  obtain ⟨st', r1, r2⟩ := es_for (step := fun s : (Int32 × Sg) => m_X1_joinAll_L2 4 s.1 s.2) (P := ES s0) (l0 := l) (g := fun i => [(gA s0 2 1 i, gA s0 2 2 i, gA s0 2 3 i, gA s0 2 4 i)]) (e := t) (by omega) (fun st hE => by
      have eI : gI st 2 0 = nI t := (hE.1 2 0 (by omega)).trans hb
      simp only [m_X1_joinAll_L2, gIk, eI, if_pos (Int32.le_refl _)]) (fun i st hi hE => by
      have eI : gI st 2 0 = nI t := (hE.1 2 0 (by omega)).trans hb
      have eA : ∀ k, gA st 2 k = gA s0 2 k := fun k => hE.2.1 2 k (by omega)
      have hg : ¬ nI t ≤ nI i := nI_ge hi (by omega)
      have hv : vpb (nI i) (lnE 2) = true := vpb_nI (by rw [ln2]; omega) (by rw [ln2]; omega)
      obtain ⟨st2, j1, j2⟩ := es_join hE (by rw [key, List.length_append]; unfold toldL; rw [List.length_map, List.length_range]; omega) (gA s0 2 1 i) (gA s0 2 2 i) (gA s0 2 3 i) (gA s0 2 4 i)
      simp only [m_X1_joinAll_L2, gIk, eI, if_neg hg, lAk, if_pos hv, nI_clamp (show i < 2 ^ 31 by omega), eA, j1, clk_some, nmk, nI_1]
      exact ⟨st2, rfl, j2⟩) st h
  rw [key] at r2
  refine ⟨st', ?_, r2⟩
  simp only [m_X1_joinAll, nmk, lpk, show (0 : Int32) = nI 0 from rfl, r1]
end WY
/-- what renew leaves: all but the weave and its list -/
def FrW (sx sy : Sg) : Prop := (∀ j k, j ≠ 3 → j ≠ 4 → gI sy j k = gI sx j k) ∧ (∀ j k, j ≠ 4 → gA sy j k = gA sx j k) ∧ ∀ j k, gL sy j k = gL sx j k
theorem renew_eq {sx : Sg} {n t : Nat} (hb : gI sx 1 0 = nI n) (hn : n ≤ 16) (ht : gI sx 2 0 = nI t) (ht2 : t ≤ 40) (hw : RWe sx n t) : ∃ sy, m_X10_renew sx = some ((), sy) ∧ FrW sx sy ∧ gI sy 3 2 = 0 ∧ WvOk sy n t := by
  rcases hw with hw | ⟨hw, hok⟩
  · have h0 : ES (pI sx 4 0 0) (pI sx 4 0 0) [] := ⟨fun _ _ _ => rfl, fun _ _ _ => rfl, fun _ _ => rfl, ⟨rfl, fun i h => absurd h (Nat.not_lt_zero i)⟩⟩
    obtain ⟨s1, a1, a2⟩ := x_own (s0 := pI sx 4 0 0) (n := n) hb hn h0
    have hL := edX_len (n := n) (gA sx 1 1) (gA sx 1 2) (gA sx 1 5) (gA sx 1 6) (gA sx 1 7) n (Nat.le_refl n)
    have hM := len_16 (Nat.le_refl n) hn
    have eL : (edX n (gA sx 1 1) (gA sx 1 2) (gA sx 1 5) (gA sx 1 6) (gA sx 1 7)).length ≤ 664 := Nat.le_trans hL hM
    have own : gI s1 4 0 = nI (edX n (gA sx 1 1) (gA sx 1 2) (gA sx 1 5) (gA sx 1 6) (gA sx 1 7)).length := a2.2.2.2.1
    have h1 : ES (pI s1 3 1 (gI s1 4 0)) (pI s1 3 1 (gI s1 4 0)) (edX n (gA sx 1 1) (gA sx 1 2) (gA sx 1 5) (gA sx 1 6) (gA sx 1 7)) := ⟨fun _ _ _ => rfl, fun _ _ _ => rfl, fun _ _ => rfl, a2.2.2.2⟩
    have g2 : gI (pI s1 3 1 (gI s1 4 0)) 2 0 = nI t := (a2.1 2 0 (by omega)).trans ht
    obtain ⟨s2, b1, b2⟩ := x_told g2 ht2 h1 (by omega)
    have eA : ∀ j k, j ≠ 4 → gA s2 j k = gA sx j k := fun j k hj => (b2.2.1 j k hj).trans (a2.2.1 j k hj)
    refine ⟨pI s2 3 2 0, ?_, ⟨fun j k h3 h4 => ?_, fun j k h4 => eA j k h4, fun j k => (b2.2.2.1 j k).trans (a2.2.2.1 j k)⟩, rfl, ?_, ?_⟩
    · simp only [m_X10_renew, gIk, hw, if_neg (show ¬ (1 : Int32) = 0 by decide), sIk, nmk, lpk]
      rw [show (pI sx 4 0 0) = pI sx 4 0 (nI 0) from rfl] at a1
      simp only [show (0 : Int32) = nI 0 from rfl, a1, b1, clk_some]
    · rw [gI_pI, if_neg h3]
      refine (b2.1 j k h4).trans ?_
      rw [gI_pI, if_neg h3]
      refine (a2.1 j k h4).trans ?_
      rw [gI_pI, if_neg h4]
    · have e4 := b2.2.2.2
      show LR (gI s2 4 0) (gA s2 4 1) (gA s2 4 2) (gA s2 4 3) (gA s2 4 4) (edX n (gA s2 1 1) (gA s2 1 2) (gA s2 1 5) (gA s2 1 6) (gA s2 1 7) ++ toldL t (gA s2 2 1) (gA s2 2 2) (gA s2 2 3) (gA s2 2 4))
      rw [eA 1 1 (by omega), eA 1 2 (by omega), eA 1 5 (by omega), eA 1 6 (by omega), eA 1 7 (by omega), eA 2 1 (by omega), eA 2 2 (by omega), eA 2 3 (by omega), eA 2 4 (by omega)]
      have k : ∀ q, gA (pI s1 3 1 (gI s1 4 0)) 2 q = gA sx 2 q := fun q => a2.2.1 2 q (by omega)
      rw [k 1, k 2, k 3, k 4] at e4
      exact e4
    · show gI s2 3 1 = nI (edX n (gA s2 1 1) (gA s2 1 2) (gA s2 1 5) (gA s2 1 6) (gA s2 1 7)).length
      rw [eA 1 1 (by omega), eA 1 2 (by omega), eA 1 5 (by omega), eA 1 6 (by omega), eA 1 7 (by omega)]
      exact (b2.1 3 1 (by omega)).trans own
  · refine ⟨sx, ?_, ⟨fun _ _ _ _ => rfl, fun _ _ _ => rfl, fun _ _ => rfl⟩, hw, hok⟩
    simp only [m_X10_renew, gIk, if_pos hw]
