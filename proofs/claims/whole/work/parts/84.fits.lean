-- 84.fits: the reference's fits; its filled and filledAs
def FitP (kind pat units : Nat → Int32) (T : Nat → Nat) (b m : Nat) : Prop := ∀ k t, k < 6 → t < b → (celN kind pat T b k t m : Int) ≤ (units k).toInt
theorem fit_up {kind pat units : Nat → Int32} {T : Nat → Nat} {b m m' : Nat} (h : m ≤ m') (hf : FitP kind pat units T b m') : FitP kind pat units T b m := fun k t hk ht => by
  have a := hf k t hk ht
  have b := cel_mono (kind := kind) (pat := pat) (T := T) (b := b) (k := k) (t := t) h
  omega
theorem fill_act {s0 : Sg} {b k a : Nat} {T : Nat → Nat} {f : Nat → Int32} (x1 : Int32) (ha : a < 16) (hb1 : 1 ≤ b) (hb : b ≤ 60) (hT : gA s0 0 34 a = nI (T a)) (hT2 : T a ≤ 100000) (hp : inR (gA s0 0 3 a) 0 255) (h0 : ∀ t, t < b → f t = nI (celN (gA s0 0 2) (gA s0 0 3) T b k t a)) : ∃ f', lp (fun s : (Int32 × Sg) => m_X12_fits_L43 x1 (nI b) (nI k) (nI a) s.1 s.2) FU (nI 0, pA s0 0 35 f) = some (pA s0 0 35 f') ∧ ∀ t, t < b → f' t = nI (celN (gA s0 0 2) (gA s0 0 3) T b k t (a + 1)) := by
  have va : vpb (nI a) 16 = true := vpb_nI (by omega) (by omega)
  have ca := nI_clamp (show a < 2 ^ 31 by omega)
  have cs : ∀ t, celN (gA s0 0 2) (gA s0 0 3) T b k t (a + 1) = celN (gA s0 0 2) (gA s0 0 3) T b k t a + if gA s0 0 2 a = nI k then hiN b (T a) (gA s0 0 3 a) t 8 else 0 := fun t => rfl
  have e2 : ∀ h, gA (pA s0 0 35 h) 0 2 = gA s0 0 2 := fun h => rfl
  have e3 : ∀ h, gA (pA s0 0 35 h) 0 3 = gA s0 0 3 := fun h => rfl
  have e34 : ∀ h, gA (pA s0 0 35 h) 0 34 = gA s0 0 34 := fun h => rfl
  have e35 : ∀ h, gA (pA s0 0 35 h) 0 35 = h := fun h => rfl
  by_cases c : gA s0 0 2 a = nI k
  case neg =>
    refine ⟨f, ?_, fun t ht => by rw [cs, if_neg c, Nat.add_zero]; exact h0 t ht⟩
    have hg : ¬ (8 : Int32) ≤ nI 0 := by decide
    refine lp_end (n := FU - 1) ?_
    simp only [m_X12_fits_L43, if_neg hg, lAk, if_pos va, ca, e2, if_neg c]
  have hI := ok_for (step := fun s : (Int32 × Sg) => m_X12_fits_L43 x1 (nI b) (nI k) (nI a) s.1 s.2) (Q := fun r => ∃ f', r = pA s0 0 35 f' ∧ ∀ t, t < b → f' t = nI (celN (gA s0 0 2) (gA s0 0 3) T b k t (a + 1))) 8 (fun i r => ∃ f', r = (nI i, pA s0 0 35 f') ∧ ∀ t, t < b → f' t = nI (celN (gA s0 0 2) (gA s0 0 3) T b k t a + hiN b (T a) (gA s0 0 3 a) t i)) (by
      rintro i r hi ⟨f', rfl, h⟩
      have hg : ¬ (8 : Int32) ≤ nI i := nI_ge (a := i) (b := 8) hi (by omega)
      have hm := Nat.mod_lt (T a + i) (show 0 < b by omega)
      obtain ⟨u, hu⟩ : ∃ u, u = (T a + i) % b := ⟨_, rfl⟩
      rw [← hu] at hm
      have nb0 : ¬ nI b = 0 := nI_ne0 (by omega) (by omega)
      have em : nI (T a) + nI i - (nI (T a) + nI i) / nI b * nI b = nI u := by
        rw [nI_add, nI_mod hb1 hb (by omega), ← hu]
      have vq : vpb (nI u) 60 = true := vpb_nI (by omega) (by omega)
      have cq := nI_clamp (show u < 2 ^ 31 by omega)
      have eb : (gA s0 0 3 a >>> (nI i &&& 31)) &&& 1 = biF (gA s0 0 3 a) i := rfl
      have bn : biF (gA s0 0 3 a) i = nI (biN (gA s0 0 3 a) i) := by
        unfold biN
        rcases bi_01 hp hi with q | q
        · rw [if_pos q, q]; rfl
        · rw [if_neg (by rw [q]; decide), q]; rfl
      refine ⟨.inl (nI (i + 1), pA s0 0 35 (upd f' u (f' u + biF (gA s0 0 3 a) i))), ?_, _, rfl, fun t ht => ?_⟩
      · simp only [m_X12_fits_L43, if_neg hg, lAk, sAk, if_pos va, ca, e2, if_pos c, e34, hT, dvk, if_neg nb0, em, if_pos vq, cq, e35, e3, eb, pA_pA, nmk, nI_1]
      · have es : hiN b (T a) (gA s0 0 3 a) t (i + 1) = hiN b (T a) (gA s0 0 3 a) t i + if (T a + i) % b = t then biN (gA s0 0 3 a) i else 0 := rfl
        rw [upd_i, es]
        by_cases e : t = u
        · subst e
          rw [if_pos rfl, if_pos hu.symm, h t ht, bn, nI_add, Nat.add_assoc]
        · rw [if_neg e, if_neg (by rw [← hu]; exact fun q => e q.symm), Nat.add_zero]
          exact h t ht) (by
      rintro r ⟨f', rfl, h⟩
      refine ⟨.inr (pA s0 0 35 f'), by simp only [m_X12_fits_L43, if_pos (show (8 : Int32) ≤ nI 8 by decide)], f', rfl, fun t ht => ?_⟩
      rw [cs, if_pos c]
      exact h t ht) FU 0 (nI 0, pA s0 0 35 f) (by omega) (FU_lt (by omega)) ⟨f, rfl, fun t ht => by rw [h0 t ht]; rfl⟩
  obtain ⟨r, hr, f', rfl, h⟩ := hI
  exact ⟨f', hr, h⟩
theorem fits_kind {s0 : Sg} {b k m : Nat} {T : Nat → Nat} {g : Nat → Int32} (hm : m ≤ 16) (hk : k < 6) (hb1 : 1 ≤ b) (hb : b ≤ 60) (hT : ∀ v, v < m → gA s0 0 34 v = nI (T v)) (hT2 : ∀ v, v < m → T v ≤ 100000) (hp : ∀ v, v < m → inR (gA s0 0 3 v) 0 255) (hu : inR (gA s0 0 10 k) 0 4) : ∃ f, (m_X12_fits_L2 (nI m) (nI b) (nI k) (pA s0 0 35 g) = some (.inl (nI (k + 1), pA s0 0 35 f)) ∧ ∀ t, t < b → (celN (gA s0 0 2) (gA s0 0 3) T b k t m : Int) ≤ (gA s0 0 10 k).toInt) ∨ (m_X12_fits_L2 (nI m) (nI b) (nI k) (pA s0 0 35 g) = some (.inr (.inr (pA s0 0 35 f))) ∧ ∃ t, t < b ∧ (gA s0 0 10 k).toInt < (celN (gA s0 0 2) (gA s0 0 3) T b k t m : Int)) := by
  have e35 : ∀ h, gA (pA s0 0 35 h) 0 35 = h := fun h => rfl
  have e10 : ∀ h, gA (pA s0 0 35 h) 0 10 = gA s0 0 10 := fun h => rfl
  -- zeroes
  have h1 : ∃ f, lp (fun s : (Int32 × Sg) => m_X12_fits_L11 (nI m) (nI b) (nI k) s.1 s.2) FU (nI 0, pA s0 0 35 g) = some (pA s0 0 35 f) ∧ ∀ t, t < b → f t = 0 := by
    have hI := ok_for (step := fun s : (Int32 × Sg) => m_X12_fits_L11 (nI m) (nI b) (nI k) s.1 s.2) (Q := fun r => ∃ f, r = pA s0 0 35 f ∧ ∀ t, t < b → f t = 0) b (fun i r => ∃ f, r = (nI i, pA s0 0 35 f) ∧ ∀ t, t < i → f t = 0) (by
        rintro i r hi ⟨f, rfl, h⟩
        refine ⟨.inl (nI (i + 1), pA s0 0 35 (upd f i 0)), ?_, _, rfl, fun t ht => ?_⟩
        · simp only [m_X12_fits_L11, if_neg (nI_ge hi (by omega)), sAk, if_pos (vpb_nI (show i < 60 by omega) (by omega)), nI_clamp (show i < 2 ^ 31 by omega), e35, pA_pA, nmk, nI_1]
        · rw [upd_i]
          by_cases e : t = i
          · rw [if_pos e]
          · rw [if_neg e]; exact h t (by omega)) (by
        rintro r ⟨f, rfl, h⟩
        exact ⟨.inr (pA s0 0 35 f), by simp only [m_X12_fits_L11, if_pos (Int32.le_refl _)], f, rfl, h⟩) FU 0 (nI 0, pA s0 0 35 g) (by omega) (FU_lt (by omega)) ⟨g, rfl, fun t ht => absurd ht (Nat.not_lt_zero t)⟩
    obtain ⟨r, hr, f, rfl, h⟩ := hI
    exact ⟨f, hr, h⟩
  obtain ⟨f1, k1, k2⟩ := h1
  -- the acts
  have h2 : ∃ f, lp (fun s : (Int32 × Sg) => m_X12_fits_L34 (nI m) (nI b) (nI k) s.1 s.2) FU (nI 0, pA s0 0 35 f1) = some (pA s0 0 35 f) ∧ ∀ t, t < b → f t = nI (celN (gA s0 0 2) (gA s0 0 3) T b k t m) := by
    have hI := ok_for (step := fun s : (Int32 × Sg) => m_X12_fits_L34 (nI m) (nI b) (nI k) s.1 s.2) (Q := fun r => ∃ f, r = pA s0 0 35 f ∧ ∀ t, t < b → f t = nI (celN (gA s0 0 2) (gA s0 0 3) T b k t m)) m (fun i r => ∃ f, r = (nI i, pA s0 0 35 f) ∧ ∀ t, t < b → f t = nI (celN (gA s0 0 2) (gA s0 0 3) T b k t i)) (by
        rintro i r hi ⟨f, rfl, h⟩
        obtain ⟨f', q1, q2⟩ := fill_act (s0 := s0) (k := k) (nI m) (show i < 16 by omega) hb1 hb (hT i hi) (hT2 i hi) (hp i hi) h
        refine ⟨.inl (nI (i + 1), pA s0 0 35 f'), ?_, f', rfl, q2⟩
        have q1' : lp (fun s : (Int32 × Sg) => m_X12_fits_L43 (nI m) (nI b) (nI k) (nI i) s.1 s.2) FU (0, pA s0 0 35 f) = some (pA s0 0 35 f') := q1
        simp only [m_X12_fits_L34, if_neg (nI_ge hi (by omega)), nmk, lpk, q1', nI_1]) (by
        rintro r ⟨f, rfl, h⟩
        exact ⟨.inr (pA s0 0 35 f), by simp only [m_X12_fits_L34, if_pos (Int32.le_refl _)], f, rfl, h⟩) FU 0 (nI 0, pA s0 0 35 f1) (by omega) (FU_lt (by omega)) ⟨f1, rfl, fun t ht => by rw [k2 t ht]; rfl⟩
    obtain ⟨r, hr, f, rfl, h⟩ := hI
    exact ⟨f, hr, h⟩
  obtain ⟨f2, k3, k4⟩ := h2
  have tc : ∀ t, (nI (celN (gA s0 0 2) (gA s0 0 3) T b k t m)).toInt = (celN (gA s0 0 2) (gA s0 0 3) T b k t m : Int) := fun t => nI_toInt (by have := cel_le (gA s0 0 2) (gA s0 0 3) T b k t m; omega)
  have hI := ok_for (step := fun s : (Int32 × Sg) => m_X12_fits_L108 (nI m) (nI b) (nI k) s.1 s.2) (Q := fun r => Sum.elim (fun r => r = pA s0 0 35 f2 ∧ ∀ t, t < b → (celN (gA s0 0 2) (gA s0 0 3) T b k t m : Int) ≤ (gA s0 0 10 k).toInt) (fun r => r = pA s0 0 35 f2 ∧ ∃ t, t < b ∧ (gA s0 0 10 k).toInt < (celN (gA s0 0 2) (gA s0 0 3) T b k t m : Int)) r) b (fun i r => r = (nI i, pA s0 0 35 f2) ∧ ∀ t, t < i → (celN (gA s0 0 2) (gA s0 0 3) T b k t m : Int) ≤ (gA s0 0 10 k).toInt) (by
      rintro i r hi ⟨rfl, h⟩
      have vi : vpb (nI i) 60 = true := vpb_nI (by omega) (by omega)
      have ci := nI_clamp (show i < 2 ^ 31 by omega)
      have vk : vpb (nI k) 6 = true := vpb_nI (by omega) (by omega)
      have ck := nI_clamp (show k < 2 ^ 31 by omega)
      by_cases c : f2 i ≤ gA s0 0 10 k
      · refine ⟨.inl (nI (i + 1), pA s0 0 35 f2), ?_, rfl, fun t ht => ?_⟩
        · simp only [m_X12_fits_L108, if_neg (nI_ge hi (by omega)), lAk, if_pos vi, ci, e35, if_pos vk, ck, e10, if_pos c, nmk, nI_1]
        · by_cases e : t = i
          · subst e
            rw [fx_le, k4 t hi, tc] at c
            exact c
          · exact h t (by omega)
      · refine ⟨.inr (.inr (pA s0 0 35 f2)), ?_, rfl, i, hi, ?_⟩
        · simp only [m_X12_fits_L108, if_neg (nI_ge hi (by omega)), lAk, if_pos vi, ci, e35, if_pos vk, ck, e10, if_neg c]
        · rw [fx_le, k4 i hi, tc] at c
          omega) (by
      rintro r ⟨rfl, h⟩
      exact ⟨.inr (.inl (pA s0 0 35 f2)), by simp only [m_X12_fits_L108, if_pos (Int32.le_refl _)], rfl, h⟩) FU 0 (nI 0, pA s0 0 35 f2) (by omega) (FU_lt (by omega)) ⟨rfl, fun t ht => absurd ht (Nat.not_lt_zero t)⟩
  have hg : ¬ (6 : Int32) ≤ nI k := nI_ge (a := k) (b := 6) hk (by omega)
  obtain ⟨r, hr, hQ⟩ := hI
  refine ⟨f2, ?_⟩
  cases r with
  | inl r =>
    obtain ⟨rfl, h⟩ := hQ
    exact Or.inl ⟨by simp only [m_X12_fits_L2, if_neg hg, nmk, lpk, show (0 : Int32) = nI 0 from rfl, k1, k3, hr, Sum.elim, nI_1], h⟩
  | inr r =>
    obtain ⟨rfl, h⟩ := hQ
    exact Or.inr ⟨by simp only [m_X12_fits_L2, if_neg hg, nmk, lpk, show (0 : Int32) = nI 0 from rfl, k1, k3, hr, Sum.elim], h⟩
theorem fits_eq {s0 : Sg} {b m : Nat} {T : Nat → Nat} (hm : m ≤ 16) (hb1 : 1 ≤ b) (hb : b ≤ 60) (hT : ∀ v, v < m → gA s0 0 34 v = nI (T v)) (hT2 : ∀ v, v < m → T v ≤ 100000) (hp : ∀ v, v < m → inR (gA s0 0 3 v) 0 255) (hu : ∀ k, k < 6 → inR (gA s0 0 10 k) 0 4) : ∃ f, (m_X12_fits (nI m) (nI b) s0 = some (1, pA s0 0 35 f) ∧ FitP (gA s0 0 2) (gA s0 0 3) (gA s0 0 10) T b m) ∨ (m_X12_fits (nI m) (nI b) s0 = some (0, pA s0 0 35 f) ∧ ¬ FitP (gA s0 0 2) (gA s0 0 3) (gA s0 0 10) T b m) := by
  have hI := ok_for (step := fun s : (Int32 × Sg) => m_X12_fits_L2 (nI m) (nI b) s.1 s.2) (Q := fun r => Sum.elim (fun r => ∃ f, r = pA s0 0 35 f ∧ FitP (gA s0 0 2) (gA s0 0 3) (gA s0 0 10) T b m) (fun r => ∃ f, r = pA s0 0 35 f ∧ ¬ FitP (gA s0 0 2) (gA s0 0 3) (gA s0 0 10) T b m) r) 6 (fun i r => ∃ f, r = (nI i, pA s0 0 35 f) ∧ ∀ k t, k < i → t < b → (celN (gA s0 0 2) (gA s0 0 3) T b k t m : Int) ≤ (gA s0 0 10 k).toInt) (by
      rintro i r hi ⟨f, rfl, h⟩
      obtain ⟨f', q⟩ := fits_kind (s0 := s0) (g := f) hm hi hb1 hb hT hT2 hp (hu i hi)
      rcases q with ⟨q1, q2⟩ | ⟨q1, t, ht, q2⟩
      · refine ⟨_, q1, f', rfl, fun k t hk ht => ?_⟩
        by_cases e : k = i
        · subst e; exact q2 t ht
        · exact h k t (by omega) ht
      · refine ⟨_, q1, f', rfl, fun hf => ?_⟩
        have := hf i t hi ht
        omega) (by
      rintro r ⟨f, rfl, h⟩
      exact ⟨.inr (.inl (pA s0 0 35 f)), by simp only [m_X12_fits_L2, if_pos (show (6 : Int32) ≤ nI 6 by decide)], f, rfl, h⟩) FU 0 (nI 0, s0) (by omega) (FU_lt (by omega)) ⟨gA s0 0 35, by rw [pA_self], fun k _ hk => absurd hk (Nat.not_lt_zero k)⟩
  obtain ⟨r, hr, hQ⟩ := hI
  cases r with
  | inl r =>
    obtain ⟨f, rfl, h⟩ := hQ
    exact ⟨f, Or.inl ⟨by simp only [m_X12_fits, nmk, lpk, show (0 : Int32) = nI 0 from rfl, hr, Sum.elim], h⟩⟩
  | inr r =>
    obtain ⟨f, rfl, h⟩ := hQ
    exact ⟨f, Or.inr ⟨by simp only [m_X12_fits, nmk, lpk, show (0 : Int32) = nI 0 from rfl, hr, Sum.elim], h⟩⟩
