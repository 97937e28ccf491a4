-- 96.check2: the reference's check; the crowds; the call check
theorem filA_act {s : Sg} {b k r a c : Nat} {T : Nat → Nat} (ha : a < 16) (hb1 : 1 ≤ b) (hb : b ≤ 60) (hr : r < b) (hbe : gI s 0 27 = nI b) (hT : gA s 0 31 a = nI (T a)) (hT2 : T a ≤ 100000) (hp : inR (gA s 0 3 a) 0 255) : lp (fun s : (Int32 × Int32 × Sg) => m_X12_filledAs_L17 (nI k) (nI r) (nI a) s.1 s.2.1 s.2.2) FU (nI c, 0, s) = some (nI (c + if gA s 0 2 a = nI k then hiN b (T a) (gA s 0 3 a) r 8 else 0), s) := by
  have va : vpb (nI a) 16 = true := vpb_nI (by omega) (by omega)
  have ca := nI_clamp (show a < 2 ^ 31 by omega)
  by_cases q : gA s 0 2 a = nI k
  case neg =>
    rw [if_neg q, Nat.add_zero]
    refine lp_end (n := FU - 1) ?_
    show m_X12_filledAs_L17 (nI k) (nI r) (nI a) (nI c) 0 s = _
    rw [m_X12_filledAs_L17, if_neg (show ¬ (8 : Int32) ≤ 0 by decide), lAk, if_pos va, ca, if_neg q]
  rw [if_pos q]
  have hI := ok_for (step := fun s : (Int32 × Int32 × Sg) => m_X12_filledAs_L17 (nI k) (nI r) (nI a) s.1 s.2.1 s.2.2) (Q := fun x => x = (nI (c + hiN b (T a) (gA s 0 3 a) r 8), s)) 8 (fun i x => x = (nI (c + hiN b (T a) (gA s 0 3 a) r i), nI i, s)) (by
      rintro i x hi rfl
      have hg : ¬ (8 : Int32) ≤ nI i := nI_ge (a := i) (b := 8) hi (by omega)
      have nb0 : ¬ nI b = 0 := nI_ne0 (by omega) (by omega)
      have em : nI (T a) + nI i - (nI (T a) + nI i) / nI b * nI b = nI ((T a + i) % b) := by
        rw [nI_add, nI_mod hb1 hb (by omega)]
      have hm := Nat.mod_lt (T a + i) (show 0 < b by omega)
      have eb : (gA s 0 3 a >>> (nI i &&& 31)) &&& 1 = biF (gA s 0 3 a) i := rfl
      have bn : biF (gA s 0 3 a) i = nI (biN (gA s 0 3 a) i) := by
        unfold biN
        rcases bi_01 hp hi with z | z
        · rw [if_pos z, z]; rfl
        · rw [if_neg (by rw [z]; decide), z]; rfl
      have es : hiN b (T a) (gA s 0 3 a) r (i + 1) = hiN b (T a) (gA s 0 3 a) r i + if (T a + i) % b = r then biN (gA s 0 3 a) i else 0 := rfl
      refine ⟨.inl (nI (c + hiN b (T a) (gA s 0 3 a) r (i + 1)), nI (i + 1), s), ?_, rfl⟩
      show m_X12_filledAs_L17 (nI k) (nI r) (nI a) (nI (c + hiN b (T a) (gA s 0 3 a) r i)) (nI i) s = _
      rw [m_X12_filledAs_L17, if_neg hg, lAk, if_pos va, ca, if_pos q, lAk, if_pos va, ca, hT, gIk, hbe, dvk, if_neg nb0, em, es]
      by_cases d : (T a + i) % b = r
      · rw [if_pos d, if_pos (by rw [d]), lAk, if_pos va, ca, eb, bn, nmk, nI_add, nmk, nI_1, Nat.add_assoc]
      · rw [if_neg d, if_neg (fun z => d (nI_inj (by omega) (by omega) z)), nmk, nmk, nI_1, Int32.add_zero]
        rfl) (by
      rintro x rfl
      refine ⟨.inr (nI (c + hiN b (T a) (gA s 0 3 a) r 8), s), ?_, rfl⟩
      show m_X12_filledAs_L17 (nI k) (nI r) (nI a) (nI (c + hiN b (T a) (gA s 0 3 a) r 8)) (nI 8) s = _
      rw [m_X12_filledAs_L17, if_pos (show (8 : Int32) ≤ nI 8 by decide)]) FU 0 (nI c, nI 0, s) (by omega) (FU_lt (by omega)) rfl
  obtain ⟨x, hx, rfl⟩ := hI
  exact hx
theorem filledAs_eq {s : Sg} {n b k r : Nat} {F : Nat → Nat} (hn : n ≤ 16) (hb1 : 1 ≤ b) (hb : b ≤ 60) (hr : r < b) (hx : gI s 0 9 = nI n) (hbe : gI s 0 27 = nI b) (hF : ∀ a, a < n → gA s 0 31 a = nI (F a) ∧ F a ≤ 100000) (hp : ∀ a, a < n → inR (gA s 0 3 a) 0 255) : m_X12_filledAs (nI k) (nI r) s = some (nI (celN (gA s 0 2) (gA s 0 3) F b k r n), s) := by
  have hI := ok_for (step := fun s : (Int32 × Int32 × Sg) => m_X12_filledAs_L5 (nI k) (nI r) s.1 s.2.1 s.2.2) (Q := fun z => z = (nI (celN (gA s 0 2) (gA s 0 3) F b k r n), s)) n (fun i z => z = (nI (celN (gA s 0 2) (gA s 0 3) F b k r i), nI i, s)) (by
      rintro i z hi rfl
      refine ⟨.inl (nI (celN (gA s 0 2) (gA s 0 3) F b k r (i + 1)), nI (i + 1), s), ?_, rfl⟩
      show m_X12_filledAs_L5 (nI k) (nI r) (nI (celN (gA s 0 2) (gA s 0 3) F b k r i)) (nI i) s = _
      rw [m_X12_filledAs_L5, gIk, hx, if_neg (nI_ge hi (by omega)), nmk, lpk, filA_act (k := k) (T := F) (show i < 16 by omega) hb1 hb hr hbe (hF i hi).1 (hF i hi).2 (hp i hi)]
      rw [← nI_1]
      rfl) (by
      rintro z rfl
      refine ⟨.inr (nI (celN (gA s 0 2) (gA s 0 3) F b k r n), s), ?_, rfl⟩
      show m_X12_filledAs_L5 (nI k) (nI r) (nI (celN (gA s 0 2) (gA s 0 3) F b k r n)) (nI n) s = _
      rw [m_X12_filledAs_L5, gIk, hx, if_pos (Int32.le_refl _)]) FU 0 (0, 0, s) (by omega) (FU_lt (by omega)) rfl
  obtain ⟨z, hz, rfl⟩ := hI
  rw [m_X12_filledAs, nmk, nmk, lpk, hz]
/-- the first crowded tick -/
def CrK (cr : Nat → Nat → Prop) (b k t : Nat) : Prop := k < 6 ∧ t < b ∧ cr k t ∧ (∀ k' t', k' < k → t' < b → ¬ cr k' t') ∧ ∀ t', t' < t → ¬ cr k t'
theorem crK_uni {cr : Nat → Nat → Prop} {b k t k' t' : Nat} (h : CrK cr b k t) (g : CrK cr b k' t') : k = k' ∧ t = t' := by
  obtain ⟨h1, h2, h3, h4, h5⟩ := h
  obtain ⟨g1, g2, g3, g4, g5⟩ := g
  have e : k = k' := by
    rcases Nat.lt_trichotomy k k' with q | q | q
    · exact absurd h3 (g4 k t q h2)
    · exact q
    · exact absurd g3 (h4 k' t' q g2)
  subst e
  refine ⟨rfl, ?_⟩
  rcases Nat.lt_trichotomy t t' with q | q | q
  · exact absurd h3 (g5 t q)
  · exact q
  · exact absurd g3 (h5 t' q)
theorem crowdM {s : Sg} {n b : Nat} {F : Nat → Nat} (hn : n ≤ 16) (hb1 : 1 ≤ b) (hb : b ≤ 60) (hx : gI s 0 9 = nI n) (hbe : gI s 0 27 = nI b) (hF : ∀ a, a < n → gA s 0 31 a = nI (F a) ∧ F a ≤ 100000) (hp : ∀ a, a < n → inR (gA s 0 3 a) 0 255) : (lp (fun s : (Int32 × Sg) => m_X12_check_L164 s.1 s.2) FU (0, s) = some (.inl s) ∧ ∀ k t, k < 6 → t < b → ¬ (gA s 0 10 k).toInt < (celN (gA s 0 2) (gA s 0 3) F b k t n : Int)) ∨ ∃ k t, lp (fun s : (Int32 × Sg) => m_X12_check_L164 s.1 s.2) FU (0, s) = some (.inr (nI k, nI t, s)) ∧ CrK (fun k t => (gA s 0 10 k).toInt < (celN (gA s 0 2) (gA s 0 3) F b k t n : Int)) b k t := by
  obtain ⟨cr, hcr⟩ : ∃ cr : Nat → Nat → Prop, cr = fun k t => (gA s 0 10 k).toInt < (celN (gA s 0 2) (gA s 0 3) F b k t n : Int) := ⟨_, rfl⟩
  have tc : ∀ k t, (nI (celN (gA s 0 2) (gA s 0 3) F b k t n)).toInt = (celN (gA s 0 2) (gA s 0 3) F b k t n : Int) := fun k t => nI_toInt (by have := cel_le (gA s 0 2) (gA s 0 3) F b k t n; omega)
  have inner : ∀ k, k < 6 → (lp (fun r : (Int32 × Sg) => m_X12_check_L172 (nI k) r.1 r.2) FU (0, s) = some (.inl s) ∧ ∀ t, t < b → ¬ cr k t) ∨ ∃ t, t < b ∧ lp (fun r : (Int32 × Sg) => m_X12_check_L172 (nI k) r.1 r.2) FU (0, s) = some (.inr (nI t, s)) ∧ cr k t ∧ ∀ t', t' < t → ¬ cr k t' := fun k hk => by
    have vk : vpb (nI k) 6 = true := vpb_nI (by omega) (by omega)
    have ck := nI_clamp (show k < 2 ^ 31 by omega)
    have hI := ok_for (step := fun r : (Int32 × Sg) => m_X12_check_L172 (nI k) r.1 r.2) (Q := fun r => (r = .inl s ∧ ∀ t, t < b → ¬ cr k t) ∨ ∃ t, t < b ∧ r = .inr (nI t, s) ∧ cr k t ∧ ∀ t', t' < t → ¬ cr k t') b (fun i r => r = (nI i, s) ∧ ∀ t, t < i → ¬ cr k t) (by
        rintro i r hi ⟨rfl, h⟩
        have st : m_X12_check_L172 (nI k) (nI i) s = if gA s 0 10 k < nI (celN (gA s 0 2) (gA s 0 3) F b k i n) then some (.inr (.inr (nI i, s))) else some (.inl (nI (i + 1), s)) := by
          rw [m_X12_check_L172, gIk, hbe, if_neg (nI_ge hi (by omega)), filledAs_eq hn hb1 hb hi hx hbe hF hp, clk_some, lAk, if_pos vk, ck, ← nI_1]
          rfl
        show Ok (m_X12_check_L172 (nI k) (nI i) s) _
        rw [st]
        by_cases c : gA s 0 10 k < nI (celN (gA s 0 2) (gA s 0 3) F b k i n)
        · rw [if_pos c]
          refine ⟨_, rfl, Or.inr ⟨i, hi, rfl, ?_, h⟩⟩
          rw [fx_lt, tc] at c
          rw [hcr]; exact c
        · rw [if_neg c]
          refine ⟨_, rfl, rfl, fun t ht => ?_⟩
          by_cases e : t = i
          · subst e
            rw [fx_lt, tc] at c
            rw [hcr]; exact c
          · exact h t (by omega)) (by
        rintro r ⟨rfl, h⟩
        refine ⟨.inr (.inl s), ?_, Or.inl ⟨rfl, h⟩⟩
        show m_X12_check_L172 (nI k) (nI b) s = _
        rw [m_X12_check_L172, gIk, hbe, if_pos (Int32.le_refl _)]) FU 0 (0, s) (by omega) (FU_lt (by omega)) ⟨rfl, fun t ht => absurd ht (Nat.not_lt_zero t)⟩
    obtain ⟨r, hr, ⟨rfl, q⟩ | ⟨t, ht, rfl, q⟩⟩ := hI
    · exact Or.inl ⟨hr, q⟩
    · exact Or.inr ⟨t, ht, hr, q⟩
  have hI := ok_for (step := fun r : (Int32 × Sg) => m_X12_check_L164 r.1 r.2) (Q := fun r => (r = .inl s ∧ ∀ k t, k < 6 → t < b → ¬ cr k t) ∨ ∃ k t, r = .inr (nI k, nI t, s) ∧ CrK cr b k t) 6 (fun i r => r = (nI i, s) ∧ ∀ k t, k < i → t < b → ¬ cr k t) (by
      rintro i r hi ⟨rfl, h⟩
      have hg : ¬ (6 : Int32) ≤ nI i := nI_ge (a := i) (b := 6) hi (by omega)
      show Ok (m_X12_check_L164 (nI i) s) _
      rcases inner i hi with ⟨q1, q2⟩ | ⟨t, ht, q1, q2, q3⟩
      · refine ⟨.inl (nI (i + 1), s), ?_, rfl, fun k t hk ht => ?_⟩
        · rw [m_X12_check_L164, if_neg hg, nmk, lpk, q1, ← nI_1]
          rfl
        · by_cases e : k = i
          · subst e; exact q2 t ht
          · exact h k t (by omega) ht
      · refine ⟨.inr (.inr (nI i, nI t, s)), ?_, Or.inr ⟨i, t, rfl, hi, ht, q2, h, q3⟩⟩
        rw [m_X12_check_L164, if_neg hg, nmk, lpk, q1]
        rfl) (by
      rintro r ⟨rfl, h⟩
      refine ⟨.inr (.inl s), ?_, Or.inl ⟨rfl, h⟩⟩
      show m_X12_check_L164 (nI 6) s = _
      rw [m_X12_check_L164, if_pos (show (6 : Int32) ≤ nI 6 by decide)]) FU 0 (0, s) (by omega) (FU_lt (by omega)) ⟨rfl, fun k _ hk => absurd hk (Nat.not_lt_zero k)⟩
  obtain ⟨r, hr, ⟨rfl, q⟩ | ⟨k, t, rfl, q⟩⟩ := hI
  · refine Or.inl ⟨hr, ?_⟩
    rw [hcr] at q
    exact q
  · refine Or.inr ⟨k, t, hr, ?_⟩
    rw [hcr] at q
    exact q
theorem crowdX {s : Sg} {n b : Nat} {F : Nat → Nat} (hn : n ≤ 16) (hb1 : 1 ≤ b) (hb : b ≤ 60) (hx : gI s 1 0 = nI n) (hbe : gI s 9 1 = nI b) (hF : ∀ a, a < n → gA s 9 6 a = nI (F a) ∧ F a ≤ 100000) (hbo : ∀ v, v < n → inR (gA s 1 3 v) 0 5 ∧ inR (gA s 1 4 v) 0 255) : ∃ f, (m_X3_findCrowd s = some (0, pA s 12 0 f) ∧ ∀ k t, k < 6 → t < b → ¬ (gA s 1 10 k).toInt < (celN (gA s 1 3) (gA s 1 4) F b k t n : Int)) ∨ ∃ k t, m_X3_findCrowd s = some (1, pA (pA s 12 0 f) 11 0 (upd (upd (gA s 11 0) 4 (nI k)) 5 (nI t))) ∧ CrK (fun k t => (gA s 1 10 k).toInt < (celN (gA s 1 3) (gA s 1 4) F b k t n : Int)) b k t := by
  obtain ⟨cr, hcr⟩ : ∃ cr : Nat → Nat → Prop, cr = fun k t => (gA s 1 10 k).toInt < (celN (gA s 1 3) (gA s 1 4) F b k t n : Int) := ⟨_, rfl⟩
  have tc : ∀ k t, (nI (celN (gA s 1 3) (gA s 1 4) F b k t n)).toInt = (celN (gA s 1 3) (gA s 1 4) F b k t n : Int) := fun k t => nI_toInt (by have := cel_le (gA s 1 3) (gA s 1 4) F b k t n; omega)
  have hA := ok_for (step := fun r : (Int32 × Sg) => m_X3_findCrowd_L9 r.1 r.2) (Q := fun r => ∃ f, r = pA s 12 0 f ∧ ∀ k t, k < 6 → t < b → f (60 * k + t) = nI (celN (gA s 1 3) (gA s 1 4) F b k t n)) n (fun i r => ∃ f, r = (nI i, pA s 12 0 f) ∧ ∀ k t, k < 6 → t < b → f (60 * k + t) = nI (celN (gA s 1 3) (gA s 1 4) F b k t i)) (by
      rintro i r hi ⟨f, rfl, h⟩
      have vi : vpb (nI i) 16 = true := vpb_nI (by omega) (by omega)
      have ci := nI_clamp (show i < 2 ^ 31 by omega)
      obtain ⟨k0, hk0, ek⟩ := kind_nI (hbo i hi).1
      obtain ⟨f', most, q1, q2, -⟩ := change_in (s := s) (j := 12) (a := i) (b := b) (k0 := k0) (T := F) (f := f) (by omega) (by omega) hb1 hb (hF i hi).2 hk0 ek (hbo i hi).2 h
      have e1 : gI (pA s 12 0 f) 1 0 = nI n := hx
      have e2 : gI (pA s 12 0 f) 9 1 = nI b := hbe
      have e3 : gA (pA s 12 0 f) 9 6 i = nI (F i) := (hF i hi).1
      refine ⟨.inl (nI (i + 1), pA s 12 0 f'), ?_, f', rfl, q2⟩
      show m_X3_findCrowd_L9 (nI i) (pA s 12 0 f) = _
      rw [m_X3_findCrowd_L9, gIk, e1, if_neg (nI_ge hi (by omega)), lAk, if_pos vi, ci, e3, gIk, e2, q1, clk_some, nmk, nI_1]) (by
      rintro r ⟨f, rfl, h⟩
      have e1 : gI (pA s 12 0 f) 1 0 = nI n := hx
      refine ⟨.inr (pA s 12 0 f), ?_, f, rfl, h⟩
      show m_X3_findCrowd_L9 (nI n) (pA s 12 0 f) = _
      rw [m_X3_findCrowd_L9, gIk, e1, if_pos (Int32.le_refl _)]) FU 0 (0, pA s 12 0 (filF 360 0 (gA s 12 0))) (by omega) (FU_lt (by omega)) ⟨_, rfl, fun k t hk ht => by unfold filF; rw [if_pos (by omega)]; rfl⟩
  obtain ⟨r, hr, f, rfl, hf⟩ := hA
  obtain ⟨s', hs'⟩ : ∃ x, x = pA s 12 0 f := ⟨_, rfl⟩
  rw [← hs'] at hr
  have c12 : gA s' 12 0 = f := by rw [hs']; rfl
  have c10 : gA s' 1 10 = gA s 1 10 := by rw [hs']; rfl
  have c91 : gI s' 9 1 = nI b := by rw [hs']; exact hbe
  have inner : ∀ k, k < 6 → (m_X2_firstCrowded 12 (nI k) (gA s 1 10 k) (nI b) s' = some (-1, s') ∧ ∀ t, t < b → ¬ cr k t) ∨ ∃ t, t < b ∧ m_X2_firstCrowded 12 (nI k) (gA s 1 10 k) (nI b) s' = some (nI t, s') ∧ cr k t ∧ ∀ t', t' < t → ¬ cr k t' := fun k hk => by
    have hI := ok_for (step := fun r : (Int32 × Sg) => m_X2_firstCrowded_L3 12 (nI k) (gA s 1 10 k) (nI b) r.1 r.2) (Q := fun r => (r = .inl s' ∧ ∀ t, t < b → ¬ cr k t) ∨ ∃ t, t < b ∧ r = .inr (nI t, s') ∧ cr k t ∧ ∀ t', t' < t → ¬ cr k t') b (fun i r => r = (nI i, s') ∧ ∀ t, t < i → ¬ cr k t) (by
        rintro i r hi ⟨rfl, h⟩
        have v1 : vpb (nI (60 * k + i)) 360 = true := vpb_nI (by omega) (by omega)
        have c1 := nI_clamp (show 60 * k + i < 2 ^ 31 by omega)
        have st : m_X2_firstCrowded_L3 12 (nI k) (gA s 1 10 k) (nI b) (nI i) s' = if nI (celN (gA s 1 3) (gA s 1 4) F b k i n) ≤ gA s 1 10 k then some (.inl (nI (i + 1), s')) else some (.inr (.inr (nI i, s'))) := by
          rw [m_X2_firstCrowded_L3, if_neg (nI_ge hi (by omega)), nI_60, nI_add, lAk, if_pos v1, c1, c12, hf k i hk hi, ← nI_1]
          rfl
        show Ok (m_X2_firstCrowded_L3 12 (nI k) (gA s 1 10 k) (nI b) (nI i) s') _
        rw [st]
        by_cases c : nI (celN (gA s 1 3) (gA s 1 4) F b k i n) ≤ gA s 1 10 k
        · rw [if_pos c]
          refine ⟨_, rfl, rfl, fun t ht => ?_⟩
          by_cases e : t = i
          · subst e
            rw [fx_le, tc] at c
            rw [hcr]
            show ¬ (gA s 1 10 k).toInt < (celN (gA s 1 3) (gA s 1 4) F b k t n : Int)
            omega
          · exact h t (by omega)
        · rw [if_neg c]
          refine ⟨_, rfl, Or.inr ⟨i, hi, rfl, ?_, h⟩⟩
          rw [fx_le, tc] at c
          rw [hcr]
          show (gA s 1 10 k).toInt < (celN (gA s 1 3) (gA s 1 4) F b k i n : Int)
          omega) (by
        rintro r ⟨rfl, h⟩
        refine ⟨.inr (.inl s'), ?_, Or.inl ⟨rfl, h⟩⟩
        show m_X2_firstCrowded_L3 12 (nI k) (gA s 1 10 k) (nI b) (nI b) s' = _
        rw [m_X2_firstCrowded_L3, if_pos (Int32.le_refl _)]) FU 0 (0, s') (by omega) (FU_lt (by omega)) ⟨rfl, fun t ht => absurd ht (Nat.not_lt_zero t)⟩
    obtain ⟨r, hr, ⟨rfl, q⟩ | ⟨t, ht, rfl, q⟩⟩ := hI
    · refine Or.inl ⟨?_, q⟩
      rw [m_X2_firstCrowded, nmk, lpk, hr]
      rfl
    · refine Or.inr ⟨t, ht, ?_, q⟩
      rw [m_X2_firstCrowded, nmk, lpk, hr]
      rfl
  have hI := ok_for (step := fun r : (Int32 × Sg) => m_X3_findCrowd_L46 r.1 r.2) (Q := fun r => (r = .inl s' ∧ ∀ k t, k < 6 → t < b → ¬ cr k t) ∨ ∃ k t, r = .inr (nI k, nI t, s') ∧ CrK cr b k t) 6 (fun i r => r = (nI i, s') ∧ ∀ k t, k < i → t < b → ¬ cr k t) (by
      rintro i r hi ⟨rfl, h⟩
      have hg : ¬ (6 : Int32) ≤ nI i := nI_ge (a := i) (b := 6) hi (by omega)
      have vi : vpb (nI i) 6 = true := vpb_nI (by omega) (by omega)
      have ci := nI_clamp (show i < 2 ^ 31 by omega)
      show Ok (m_X3_findCrowd_L46 (nI i) s') _
      rcases inner i hi with ⟨q1, q2⟩ | ⟨t, ht, q1, q2, q3⟩
      · refine ⟨.inl (nI (i + 1), s'), ?_, rfl, fun k t hk ht => ?_⟩
        · rw [m_X3_findCrowd_L46, if_neg hg, lAk, if_pos vi, ci, gIk, c10, c91, q1, clk_some, nmk, if_pos rfl, nmk, nI_1]
        · by_cases e : k = i
          · subst e; exact q2 t ht
          · exact h k t (by omega) ht
      · refine ⟨.inr (.inr (nI i, nI t, s')), ?_, Or.inr ⟨i, t, rfl, hi, ht, q2, h, q3⟩⟩
        rw [m_X3_findCrowd_L46, if_neg hg, lAk, if_pos vi, ci, gIk, c10, c91, q1, clk_some, nmk, if_neg (nm1 (by omega))]) (by
      rintro r ⟨rfl, h⟩
      refine ⟨.inr (.inl s'), ?_, Or.inl ⟨rfl, h⟩⟩
      show m_X3_findCrowd_L46 (nI 6) s' = _
      rw [m_X3_findCrowd_L46, if_pos (show (6 : Int32) ≤ nI 6 by decide)]) FU 0 (0, s') (by omega) (FU_lt (by omega)) ⟨rfl, fun k _ hk => absurd hk (Nat.not_lt_zero k)⟩
  have hcl : m_X2_clear 12 s = some ((), pA s 12 0 (filF 360 0 (gA s 12 0))) := by rw [m_X2_clear, fill_eq 12 0 360 0 (by omega), clk_some]
  have v4 : vpb (4 : Int32) 6 = true := by decide
  have v5 : vpb (5 : Int32) 6 = true := by decide
  have k4 : (4 : Int32).toNatClampNeg = 4 := by decide
  have k5 : (5 : Int32).toNatClampNeg = 5 := by decide
  refine ⟨f, ?_⟩
  obtain ⟨r, hr2, ⟨rfl, q⟩ | ⟨k, t, rfl, q⟩⟩ := hI
  · refine Or.inl ⟨?_, ?_⟩
    · rw [m_X3_findCrowd, hcl, clk_some, nmk, lpk, hr]
      show (lpk (fun s : (Int32 × Sg) => m_X3_findCrowd_L46 s.1 s.2) FU (0, s') _) = _
      rw [lpk, hr2, ← hs']
      rfl
    · rw [hcr] at q; exact q
  · refine Or.inr ⟨k, t, ?_, ?_⟩
    · rw [m_X3_findCrowd, hcl, clk_some, nmk, lpk, hr]
      show (lpk (fun s : (Int32 × Sg) => m_X3_findCrowd_L46 s.1 s.2) FU (0, s') _) = _
      rw [lpk, hr2]
      show (sAk s' 11 0 6 4 (nI k) fun s18 => sAk s18 11 0 6 5 (nI t) fun s19 => some ((1 : Int32), s19)) = _
      have e11 : gA s' 11 0 = gA s 11 0 := by rw [hs']; rfl
      rw [sAk, if_pos v4, k4, sAk, if_pos v5, k5, e11]
      show some ((1 : Int32), pA (pA s' 11 0 (upd (gA s 11 0) 4 (nI k))) 11 0 (upd (upd (gA s 11 0) 4 (nI k)) 5 (nI t))) = _
      rw [pA_pA, hs']
    · rw [hcr] at q; exact q
