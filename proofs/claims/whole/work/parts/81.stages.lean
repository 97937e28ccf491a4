-- 81.stages: the class's stages between two acts; can the edges of one act more hold
def WH (n : Nat) (g : Nat → Int32) (b : Nat) (τ : Nat → Int) (j l : Nat) : Option Int := match maN n g j l with
  | none => none
  | some w => some (cdI (w + τ j - τ l) b)
theorem WH_some {n : Nat} {g : Nat → Int32} {b : Nat} {τ : Nat → Int} {j l : Nat} {x : Int} (h : WH n g b τ j l = some x) : ∃ w, maN n g j l = some w ∧ x = cdI (w + τ j - τ l) b := by
  unfold WH at h
  cases e : maN n g j l with
  | none => rw [e] at h; cases h
  | some w => rw [e] at h; exact ⟨w, rfl, (Option.some.inj h).symm⟩
theorem WH_mk {n : Nat} {g : Nat → Int32} {b : Nat} {τ : Nat → Int} {j l : Nat} {w : Int} (h : maN n g j l = some w) : WH n g b τ j l = some (cdI (w + τ j - τ l) b) := by
  unfold WH; rw [h]
/-- the solutions of the stages, and what the matrix asks -/
theorem wh_sol {n m b : Nat} {g : Nat → Int32} {τ : Nat → Int} {l : List Ed} (hb : 1 ≤ b) (hW : WO (l.map (geI b)) (maN n g)) (q : Nat → Int) : SolG (hdL m b τ l) q ↔ snO m q (WH n g b τ) := by
  constructor
  · intro h j k hj hk x hx
    obtain ⟨w, w1, w2⟩ := WH_some hx
    have := h _ (hd_mem.mpr ⟨(j, k, w), hW.2 j k w w1, hj, hk, rfl⟩)
    have e : q j + cdI (w + τ j - τ k) b ≤ q k := this
    omega
  · intro h e he
    obtain ⟨g', g1, g2, g3, rfl⟩ := hd_mem.mp he
    obtain ⟨z, z1, z2⟩ := hW.1 g' g1
    have e1 := h g'.1 g'.2.1 g2 g3 _ (WH_mk z1)
    have e2 := cd_mono (b := (b : Int)) (z := g'.2.2 + τ g'.1 - τ g'.2.1) (z' := z + τ g'.1 - τ g'.2.1) (by omega) (by omega)
    show q g'.1 + cdI (g'.2.2 + τ g'.1 - τ g'.2.1) b ≤ q g'.2.1
    omega
theorem cl_least {n m b : Nat} {g : Nat → Int32} {τ : Nat → Int} {l : List Ed} {C : Nat → Nat → Option Int} (hb : 1 ≤ b) (hW : WO (l.map (geI b)) (maN n g)) (h : CLv m (WH n g b τ) C) : LeastG m (hdL m b τ l) (fun v => earO C v m) := by
  refine ear_least (hd_in m b τ l) h.1 (fun e he => ?_) (fun q hq => h.2.2.1 q ((wh_sol hb hW q).mp hq))
  obtain ⟨g', g1, g2, g3, rfl⟩ := hd_mem.mp he
  obtain ⟨z, z1, z2⟩ := hW.1 g' g1
  obtain ⟨c, c1, c2⟩ := h.2.1 g'.1 g'.2.1 g2 g3 _ (WH_mk (b := b) (τ := τ) z1)
  have e2 := cd_mono (b := (b : Int)) (z := g'.2.2 + τ g'.1 - τ g'.2.1) (z' := z + τ g'.1 - τ g'.2.1) (by omega) (by omega)
  exact ⟨c, c1, by show cdI (g'.2.2 + τ g'.1 - τ g'.2.1) b ≤ c; omega⟩
def BdC (m : Nat) (C : Nat → Nat → Option Int) : Prop := ∀ j l, j < m → l < m → ∀ x, C j l = some x → -5000 ≤ x ∧ x ≤ 1000
theorem wh_bd {n m b : Nat} {g : Nat → Int32} {τ : Nat → Int} (hb1 : 1 ≤ b) (hg : ∀ j l x, maN n g j l = some x → -290 ≤ x ∧ x ≤ 50) (hτ : ∀ v, v < m → 0 ≤ τ v ∧ τ v < (b : Int)) {j l : Nat} (hj : j < m) (hl : l < m) {x : Int} (h : WH n g b τ j l = some x) : -290 ≤ x ∧ x ≤ 60 := by
  obtain ⟨w, w1, rfl⟩ := WH_some h
  obtain ⟨a1, a2⟩ := hg j l w w1
  exact cd_bd hb1 a1 a2 (hτ j hj).1 (hτ j hj).2 (hτ l hl).1 (hτ l hl).2
theorem cl_bd {n m b : Nat} {g : Nat → Int32} {τ : Nat → Int} {l : List Ed} {C : Nat → Nat → Option Int} (hm : m ≤ 16) (hb : 1 ≤ b) (hW : WO (l.map (geI b)) (maN n g)) (hg : ∀ j l x, maN n g j l = some x → -290 ≤ x ∧ x ≤ 50) (hτ : ∀ v, v < m → 0 ≤ τ v ∧ τ v < (b : Int)) (h : CLv m (WH n g b τ) C) : BdC m C ∧ ∀ v, v < m → earO C v m ≤ 960 := by
  have hL := cl_least hb hW h
  have hp : ∀ v, v < m → earO C v m ≤ 960 := fun v hv => by
    have := least_bd (hd_in m b τ l) hL (W := 60) (fun e he => by
      obtain ⟨g', g1, g2, g3, rfl⟩ := hd_mem.mp he
      obtain ⟨z, z1, z2⟩ := hW.1 g' g1
      have e1 := wh_bd (τ := τ) hb hg hτ g2 g3 (WH_mk z1)
      have e2 := cd_mono (b := (b : Int)) (z := g'.2.2 + τ g'.1 - τ g'.2.1) (z' := z + τ g'.1 - τ g'.2.1) (by omega) (by omega)
      show cdI (g'.2.2 + τ g'.1 - τ g'.2.1) b ≤ 60
      omega) (by omega) v hv
    have e3 : (fun v => earO C v m) v = earO C v m := rfl
    omega
  refine ⟨fun j k hj hk x hx => ?_, hp⟩
  have e1 := h.2.2.2.2 j k hj hk x hx
  have e2 := cn_le (pvO C j k) m
  have e3 := h.2.2.1 _ ((wh_sol hb hW _).mp hL.2.1) j k hj hk x hx
  have e4 := hp k hk
  have e5 := ear_0 C j m
  have e6 : (fun v => earO C v m) k = earO C k m := rfl
  have e7 : (fun v => earO C v m) j = earO C j m := rfl
  omega
theorem nI_prd {a : Nat} (h : 1 ≤ a) (h2 : a < 2 ^ 31) : nI a - 1 = nI (a - 1) := by
  rw [fx_eq, fx_sub (by rw [nI_toInt h2, ti_1]; omega) (by rw [nI_toInt h2, ti_1]; omega), nI_toInt h2, nI_toInt (by omega), ti_1]
  omega
def lvO (f : Nat → Int32) (a j l : Nat) : Option Int := oD (f (16 * (16 * a + j) + l))
theorem place_eq (a j l : Nat) (st : Sg) : m_X8_place (nI a) (nI j) (nI l) st = some (nI (16 * (16 * a + j) + l), st) := by
  simp only [m_X8_place, nI_16]
theorem oD_fit {x : Int32} {o : Option Int} {A B : Int} (h : oD x = o) (hA : -1000000 < A) (hAB : ∀ z, o = some z → A ≤ z ∧ z ≤ B) : (x = -1000000 ∧ o = none) ∨ (¬ x = -1000000 ∧ o = some x.toInt ∧ A ≤ x.toInt ∧ x.toInt ≤ B) := by
  by_cases c : x = -1000000
  · exact Or.inl ⟨c, by rw [← h, oD_no c]⟩
  · have e : o = some x.toInt := by rw [← h, oD_yes c]
    exact Or.inr ⟨c, e, hAB _ e⟩
theorem pA_comm (s : Sg) {j k j' k' : Nat} (h : ¬ (j = j' ∧ k = k')) (f g : Nat → Int32) : pA (pA s j k f) j' k' g = pA (pA s j' k' g) j k f := by
  unfold pA
  congr 2
  funext x y
  by_cases h1 : x = j
  · by_cases h2 : y = k
    · subst h1 h2
      by_cases h3 : x = j'
      · by_cases h4 : y = k'
        · exact absurd ⟨h3, h4⟩ h
        · simp [h3, h4]
      · simp [h3]
    · simp [h1, h2]
  · simp [h1]
theorem pA_self (s : Sg) (j k : Nat) : pA s j k (gA s j k) = s := by
  obtain ⟨a, b, c⟩ := s
  unfold pA gA
  congr 2
  funext x y
  by_cases h1 : x = j
  · by_cases h2 : y = k <;> simp [h1, h2]
  · simp [h1]
section SK
variable {s : Sg} {n b a : Nat} {τ : Nat → Int}
theorem stb_eq (hn : n ≤ 16) (hb1 : 1 ≤ b) (hb : b ≤ 60) (h8 : gI s 7 8 = nI b) (hg : ∀ j l x, maN n (gA s 6 0) j l = some x → -290 ≤ x ∧ x ≤ 50) {j l : Nat} (hj : j < n) (hl : l < n) (t1 : (gA s 7 9 j).toInt = τ j ∧ 0 ≤ τ j ∧ τ j < (b : Int)) (t2 : (gA s 7 9 l).toInt = τ l ∧ 0 ≤ τ l ∧ τ l < (b : Int)) : ∃ r, m_X8_stagesBetween (nI j) (nI l) s = some (r, s) ∧ oD r = WH n (gA s 6 0) b τ j l := by
  have v1 : vpb (nI (16 * j + l)) 256 = true := vpb_nI (by omega) (by omega)
  have c1 := nI_clamp (show 16 * j + l < 2 ^ 31 by omega)
  have v2 : vpb (nI j) 16 = true := vpb_nI (by omega) (by omega)
  have v3 : vpb (nI l) 16 = true := vpb_nI (by omega) (by omega)
  have c2 := nI_clamp (show j < 2 ^ 31 by omega)
  have c3 := nI_clamp (show l < 2 ^ 31 by omega)
  by_cases c : gA s 6 0 (16 * j + l) = -1000000
  · refine ⟨-1000000, ?_, ?_⟩
    · simp only [m_X8_stagesBetween, nI_16, lAk, if_pos v1, c1, nmk, if_pos c]
    · have : maN n (gA s 6 0) j l = none := by rw [maN_in hj hl, oD_no c]
      unfold WH
      rw [this]
      exact oD_no rfl
  · have hw : maN n (gA s 6 0) j l = some (gA s 6 0 (16 * j + l)).toInt := by rw [maN_in hj hl, oD_yes c]
    obtain ⟨w1, w2⟩ := hg j l _ hw
    have tb := nI_toInt (show b < 2 ^ 31 by omega)
    obtain ⟨p1, p2, p3⟩ := t1
    obtain ⟨q1, q2, q3⟩ := t2
    have hb' : (1 : Int32) ≤ nI b := by rw [fx_le, ti_1, tb]; omega
    obtain ⟨w, ew⟩ : ∃ w, w = gA s 6 0 (16 * j + l) := ⟨_, rfl⟩
    rw [← ew] at w1 w2 hw c
    have e1 : (w + gA s 7 9 j).toInt = w.toInt + τ j := by rw [fx_add (by rw [p1]; omega) (by rw [p1]; omega), p1]
    have e2 : (w + gA s 7 9 j - gA s 7 9 l).toInt = w.toInt + τ j - τ l := by rw [fx_sub (by rw [e1, q1]; omega) (by rw [e1, q1]; omega), e1, q1]
    have e3 : (w + gA s 7 9 j - gA s 7 9 l + nI b).toInt = w.toInt + τ j - τ l + b := by rw [fx_add (by rw [e2, tb]; omega) (by rw [e2, tb]; omega), e2, tb]
    have e4 : (w + gA s 7 9 j - gA s 7 9 l + nI b - 1).toInt = w.toInt + τ j - τ l + b - 1 := by rw [fx_sub (by rw [e3, ti_1]; omega) (by rw [e3, ti_1]; omega), e3, ti_1]
    obtain ⟨r, r1, r2⟩ := floorDiv_eq (x := w + gA s 7 9 j - gA s 7 9 l + nI b - 1) (y := nI b) (st := s) (by rw [e4]; omega) (by rw [tb]; omega) (by rw [tb]; omega)
    rw [e4, tb, fl_cd (by omega)] at r2
    refine ⟨r, ?_, ?_⟩
    · simp only [m_X8_stagesBetween, nI_16, lAk, if_pos v1, c1, ← ew, nmk, if_neg c, gIk, h8, if_pos hb', if_pos v2, if_pos v3, c2, c3, r1, clk_some]
    · rw [WH_mk hw]
      have hbd := cd_bd hb1 w1 w2 p2 p3 q2 q3
      rw [oD_yes (fun q => by rw [q, tA] at r2; omega), r2]
/-- the rows into and outOf -/
theorem can_fill (hn : n ≤ 16) (ha : a < n) (hb1 : 1 ≤ b) (hb : b ≤ 60) (h8 : gI s 7 8 = nI b) (hg : ∀ j l x, maN n (gA s 6 0) j l = some x → -290 ≤ x ∧ x ≤ 50) (hT : ∀ v, v ≤ a → (gA s 7 9 v).toInt = τ v ∧ 0 ≤ τ v ∧ τ v < (b : Int)) : ∃ f4 f5, lp (fun s : (Int32 × Sg) => m_X8_edgesCanHold_L21 (nI a) s.1 s.2) FU (nI 0, s) = some (pA (pA s 7 4 f4) 7 5 f5) ∧ (∀ j, j < a → oD (f4 j) = WH n (gA s 6 0) b τ j a ∧ oD (f5 j) = WH n (gA s 6 0) b τ a j) := by
  have hI := ok_for (step := fun s : (Int32 × Sg) => m_X8_edgesCanHold_L21 (nI a) s.1 s.2) (Q := fun r => ∃ f4 f5, r = pA (pA s 7 4 f4) 7 5 f5 ∧ (∀ j, j < a → oD (f4 j) = WH n (gA s 6 0) b τ j a ∧ oD (f5 j) = WH n (gA s 6 0) b τ a j)) a (fun i r => ∃ f4 f5, r = (nI i, pA (pA s 7 4 f4) 7 5 f5) ∧ (∀ j, j < i → oD (f4 j) = WH n (gA s 6 0) b τ j a ∧ oD (f5 j) = WH n (gA s 6 0) b τ a j)) (by
      rintro i r hi ⟨f4, f5, rfl, h⟩
      have vi : vpb (nI i) 16 = true := vpb_nI (by omega) (by omega)
      have ci := nI_clamp (show i < 2 ^ 31 by omega)
      obtain ⟨r1, k1, k2⟩ := stb_eq (s := pA (pA s 7 4 f4) 7 5 f5) hn hb1 hb h8 hg (show i < n by omega) ha (hT i (by omega)) (hT a (by omega))
      obtain ⟨r2, k3, k4⟩ := stb_eq (s := pA (pA (pA s 7 4 f4) 7 5 f5) 7 4 (upd f4 i r1)) hn hb1 hb h8 hg ha (show i < n by omega) (hT a (by omega)) (hT i (by omega))
      have a4 : gA (pA (pA s 7 4 f4) 7 5 f5) 7 4 = f4 := rfl
      have a5 : gA (pA (pA (pA s 7 4 f4) 7 5 f5) 7 4 (upd f4 i r1)) 7 5 = f5 := rfl
      have em : pA (pA (pA (pA s 7 4 f4) 7 5 f5) 7 4 (upd f4 i r1)) 7 5 (upd f5 i r2) = pA (pA s 7 4 (upd f4 i r1)) 7 5 (upd f5 i r2) := by
        rw [pA_comm (pA s 7 4 f4) (show ¬ (7 = 7 ∧ 5 = 4) by omega), pA_pA, pA_pA]
      refine ⟨.inl (nI (i + 1), pA (pA s 7 4 (upd f4 i r1)) 7 5 (upd f5 i r2)), ?_, upd f4 i r1, upd f5 i r2, rfl, fun j hj => ?_⟩
      · simp only [m_X8_edgesCanHold_L21, if_neg (nI_ge hi (by omega)), k1, clk_some, sAk, if_pos vi, ci, a4, k3, a5, em, nmk, nI_1]
      · rw [upd_i, upd_i]
        by_cases e : j = i
        · subst e
          rw [if_pos rfl, if_pos rfl]
          exact ⟨k2, k4⟩
        · rw [if_neg e, if_neg e]
          exact h j (by omega)) (by
      rintro r ⟨f4, f5, rfl, h⟩
      exact ⟨.inr (pA (pA s 7 4 f4) 7 5 f5), by simp only [m_X8_edgesCanHold_L21, if_pos (Int32.le_refl _)], f4, f5, rfl, h⟩) FU 0 (nI 0, s) (by omega) (FU_lt (by omega)) ⟨gA s 7 4, gA s 7 5, by
        have e : pA (pA s 7 4 (gA s 7 4)) 7 5 (gA s 7 5) = s := by rw [pA_self, pA_self]
        rw [e], fun j hj => absurd hj (Nat.not_lt_zero j)⟩
  obtain ⟨r, hr, f4, f5, rfl, h⟩ := hI
  exact ⟨f4, f5, hr, h⟩
theorem closes_eq {W : Nat → Nat → Option Int} (ha : a < 16) {j : Nat} (hj : j < a) (hC : BdC a (lvO (gA s 7 3) (a - 1))) (hW : ∀ j l, j < a + 1 → l < a + 1 → ∀ x, W j l = some x → -290 ≤ x ∧ x ≤ 60) (h4 : ∀ j, j < a → oD (gA s 7 4 j) = W j a) (h5 : ∀ j, j < a → oD (gA s 7 5 j) = W a j) (hne : ¬ gA s 7 5 j = -1000000) : (m_X8_closesRing (nI a) (nI j) s = some (0, s) ∧ ∀ l x y z, l < a → W a j = some x → lvO (gA s 7 3) (a - 1) j l = some y → W l a = some z → x + y + z ≤ 0) ∨ (m_X8_closesRing (nI a) (nI j) s = some (1, s) ∧ RgO (lvO (gA s 7 3) (a - 1)) W a) := by
  have hx : W a j = some (gA s 7 5 j).toInt := by rw [← h5 j hj, oD_yes hne]
  have hxb := hW a j (by omega) (by omega) _ hx
  have hI := ok_for (step := fun s : (Int32 × Sg) => m_X8_closesRing_L2 (nI a) (nI j) s.1 s.2) (Q := fun r => Sum.elim (fun r => r = s ∧ ∀ l x y z, l < a → W a j = some x → lvO (gA s 7 3) (a - 1) j l = some y → W l a = some z → x + y + z ≤ 0) (fun r => r = s ∧ RgO (lvO (gA s 7 3) (a - 1)) W a) r) a (fun i r => r = (nI i, s) ∧ ∀ l x y z, l < i → W a j = some x → lvO (gA s 7 3) (a - 1) j l = some y → W l a = some z → x + y + z ≤ 0) (by
      rintro i r hi ⟨rfl, h⟩
      have vi : vpb (nI i) 16 = true := vpb_nI (by omega) (by omega)
      have ci := nI_clamp (show i < 2 ^ 31 by omega)
      have vj : vpb (nI j) 16 = true := vpb_nI (by omega) (by omega)
      have cj := nI_clamp (show j < 2 ^ 31 by omega)
      have vp : vpb (nI (16 * (16 * (a - 1) + j) + i)) 4096 = true := vpb_nI (by omega) (by omega)
      have cp := nI_clamp (show 16 * (16 * (a - 1) + j) + i < 2 ^ 31 by omega)
      have ep := nI_prd (a := a) (by omega) (by omega)
      have hi4 := h4 i hi
      by_cases c : gA s 7 4 i = -1000000
      · refine ⟨.inl (nI (i + 1), s), ?_, rfl, fun l x y z hl e1 e2 e3 => ?_⟩
        · simp only [m_X8_closesRing_L2, if_neg (nI_ge hi (by omega)), ep, place_eq, clk_some, lAk, if_pos vp, cp, nmk, if_pos vi, ci, if_pos c, nI_1]
        · by_cases e : l = i
          · subst e
            rw [← hi4, oD_no c] at e3
            cases e3
          · exact h l x y z (by omega) e1 e2 e3
      by_cases d : gA s 7 3 (16 * (16 * (a - 1) + j) + i) = -1000000
      · refine ⟨.inl (nI (i + 1), s), ?_, rfl, fun l x y z hl e1 e2 e3 => ?_⟩
        · simp only [m_X8_closesRing_L2, if_neg (nI_ge hi (by omega)), ep, place_eq, clk_some, lAk, if_pos vp, cp, nmk, if_pos vi, ci, if_neg c, if_pos d, nI_1]
        · by_cases e : l = i
          · subst e
            unfold lvO at e2
            rw [oD_no d] at e2
            cases e2
          · exact h l x y z (by omega) e1 e2 e3
      have hz : W i a = some (gA s 7 4 i).toInt := by rw [← hi4, oD_yes c]
      have hzb := hW i a (by omega) (by omega) _ hz
      have hy : lvO (gA s 7 3) (a - 1) j i = some (gA s 7 3 (16 * (16 * (a - 1) + j) + i)).toInt := oD_yes d
      have hyb := hC j i hj hi _ hy
      have s1 : (gA s 7 5 j + gA s 7 3 (16 * (16 * (a - 1) + j) + i)).toInt = (gA s 7 5 j).toInt + (gA s 7 3 (16 * (16 * (a - 1) + j) + i)).toInt := fx_add (by omega) (by omega)
      have s2 : (gA s 7 5 j + gA s 7 3 (16 * (16 * (a - 1) + j) + i) + gA s 7 4 i).toInt = (gA s 7 5 j).toInt + (gA s 7 3 (16 * (16 * (a - 1) + j) + i)).toInt + (gA s 7 4 i).toInt := by rw [fx_add (by rw [s1]; omega) (by rw [s1]; omega), s1]
      by_cases k : gA s 7 5 j + gA s 7 3 (16 * (16 * (a - 1) + j) + i) + gA s 7 4 i ≤ 0
      · refine ⟨.inl (nI (i + 1), s), ?_, rfl, fun l x y z hl e1 e2 e3 => ?_⟩
        · simp only [m_X8_closesRing_L2, if_neg (nI_ge hi (by omega)), ep, place_eq, clk_some, lAk, if_pos vp, cp, nmk, if_pos vi, ci, if_neg c, if_neg d, if_pos vj, cj, if_pos k, nI_1]
        · by_cases e : l = i
          · subst e
            rw [hx] at e1
            rw [hy] at e2
            rw [hz] at e3
            have f1 := Option.some.inj e1
            have f2 := Option.some.inj e2
            have f3 := Option.some.inj e3
            rw [fx_le, s2, ti_0] at k
            omega
          · exact h l x y z (by omega) e1 e2 e3
      · refine ⟨.inr (.inr s), ?_, rfl, j, i, _, _, _, hj, hi, hx, hy, hz, ?_⟩
        · simp only [m_X8_closesRing_L2, if_neg (nI_ge hi (by omega)), ep, place_eq, clk_some, lAk, if_pos vp, cp, nmk, if_pos vi, ci, if_neg c, if_neg d, if_pos vj, cj, if_neg k]
        · rw [fx_le, s2, ti_0] at k
          omega) (by
      rintro r ⟨rfl, h⟩
      exact ⟨.inr (.inl s), by simp only [m_X8_closesRing_L2, if_pos (Int32.le_refl _)], rfl, h⟩) FU 0 (nI 0, s) (by omega) (FU_lt (by omega)) ⟨rfl, fun l _ _ _ hl => absurd hl (Nat.not_lt_zero l)⟩
  obtain ⟨r, hr, hQ⟩ := hI
  cases r with
  | inl r =>
    obtain ⟨rfl, h⟩ := hQ
    exact Or.inl ⟨by simp only [m_X8_closesRing, nmk, lpk, show (0 : Int32) = nI 0 from rfl, hr, Sum.elim], h⟩
  | inr r =>
    obtain ⟨rfl, h⟩ := hQ
    exact Or.inr ⟨by simp only [m_X8_closesRing, nmk, lpk, show (0 : Int32) = nI 0 from rfl, hr, Sum.elim], h⟩
/-- can the edges of act a hold with those ahead of it -/
theorem can_eq (hn : n ≤ 16) (ha : a < n) (hb1 : 1 ≤ b) (hb : b ≤ 60) (h8 : gI s 7 8 = nI b) (hg : ∀ j l x, maN n (gA s 6 0) j l = some x → -290 ≤ x ∧ x ≤ 50) (hT : ∀ v, v ≤ a → (gA s 7 9 v).toInt = τ v ∧ 0 ≤ τ v ∧ τ v < (b : Int)) (hC : BdC a (lvO (gA s 7 3) (a - 1))) : ∃ f4 f5, (m_X8_edgesCanHold (nI a) s = some (1, pA (pA s 7 4 f4) 7 5 f5) ∧ (∀ j, j < a → oD (f4 j) = WH n (gA s 6 0) b τ j a ∧ oD (f5 j) = WH n (gA s 6 0) b τ a j) ∧ ¬ RgO (lvO (gA s 7 3) (a - 1)) (WH n (gA s 6 0) b τ) a ∧ ∀ x, WH n (gA s 6 0) b τ a a = some x → x ≤ 0) ∨ (m_X8_edgesCanHold (nI a) s = some (0, pA (pA s 7 4 f4) 7 5 f5) ∧ (RgO (lvO (gA s 7 3) (a - 1)) (WH n (gA s 6 0) b τ) a ∨ ∃ x, WH n (gA s 6 0) b τ a a = some x ∧ 0 < x)) := by
  have v1 : vpb (nI (16 * a + a)) 256 = true := vpb_nI (by omega) (by omega)
  have c1 := nI_clamp (show 16 * a + a < 2 ^ 31 by omega)
  have hbI : 0 < (b : Int) := by omega
  have hWb : ∀ j l, j < a + 1 → l < a + 1 → ∀ x, WH n (gA s 6 0) b τ j l = some x → -290 ≤ x ∧ x ≤ 60 := fun j l hj hl x hx => wh_bd hb1 hg (m := a + 1) (fun v hv => (hT v (by omega)).2) hj hl hx
  by_cases c : gA s 6 0 (16 * a + a) ≤ 0
  case neg =>
    refine ⟨gA s 7 4, gA s 7 5, Or.inr ⟨?_, Or.inr ?_⟩⟩
    · rw [pA_self, pA_self]
      simp only [m_X8_edgesCanHold, nI_16, lAk, if_pos v1, c1, if_neg c]
    · have hne : ¬ gA s 6 0 (16 * a + a) = -1000000 := fun q => c (by rw [q]; decide)
      have hw : maN n (gA s 6 0) a a = some (gA s 6 0 (16 * a + a)).toInt := by rw [maN_in ha ha, oD_yes hne]
      refine ⟨_, WH_mk hw, ?_⟩
      rw [fx_le, ti_0] at c
      have : (1 : Int) ≤ cdI ((gA s 6 0 (16 * a + a)).toInt + τ a - τ a) b := cd_ge hbI (by omega)
      omega
  have hself : ∀ x, WH n (gA s 6 0) b τ a a = some x → x ≤ 0 := fun x hx => by
    obtain ⟨w, w1, rfl⟩ := WH_some hx
    rw [maN_in ha ha] at w1
    have := (oD_some w1).2
    rw [fx_le, ti_0] at c
    exact (cd_le hbI).mpr (by omega)
  obtain ⟨f4, f5, k1, k2⟩ := can_fill (s := s) hn ha hb1 hb h8 hg hT
  have hI := ok_for (step := fun s : (Int32 × Sg) => m_X8_edgesCanHold_L58 (nI a) s.1 s.2) (Q := fun r => Sum.elim (fun r => r = pA (pA s 7 4 f4) 7 5 f5 ∧ ∀ j, j < a → ∀ l x y z, l < a → WH n (gA s 6 0) b τ a j = some x → lvO (gA s 7 3) (a - 1) j l = some y → WH n (gA s 6 0) b τ l a = some z → x + y + z ≤ 0) (fun r => r = pA (pA s 7 4 f4) 7 5 f5 ∧ RgO (lvO (gA s 7 3) (a - 1)) (WH n (gA s 6 0) b τ) a) r) a (fun i r => r = (nI i, pA (pA s 7 4 f4) 7 5 f5) ∧ ∀ j, j < i → ∀ l x y z, l < a → WH n (gA s 6 0) b τ a j = some x → lvO (gA s 7 3) (a - 1) j l = some y → WH n (gA s 6 0) b τ l a = some z → x + y + z ≤ 0) (by
      rintro i r hi ⟨rfl, h⟩
      have vi : vpb (nI i) 16 = true := vpb_nI (by omega) (by omega)
      have ci := nI_clamp (show i < 2 ^ 31 by omega)
      have a5 : gA (pA (pA s 7 4 f4) 7 5 f5) 7 5 = f5 := rfl
      by_cases d : f5 i = -1000000
      · refine ⟨.inl (nI (i + 1), pA (pA s 7 4 f4) 7 5 f5), ?_, rfl, fun j hj l x y z hl e1 e2 e3 => ?_⟩
        · simp only [m_X8_edgesCanHold_L58, if_neg (nI_ge hi (by omega)), lAk, if_pos vi, ci, a5, if_pos d, nmk, nI_1]
        · by_cases e : j = i
          · subst e
            rw [← (k2 j hi).2, oD_no d] at e1
            cases e1
          · exact h j (by omega) l x y z hl e1 e2 e3
      · have q := closes_eq (s := pA (pA s 7 4 f4) 7 5 f5) (a := a) (W := WH n (gA s 6 0) b τ) (by omega) hi hC hWb (fun j hj => (k2 j hj).1) (fun j hj => (k2 j hj).2) d
        rcases q with ⟨q1, q2⟩ | ⟨q1, q2⟩
        · refine ⟨.inl (nI (i + 1), pA (pA s 7 4 f4) 7 5 f5), ?_, rfl, fun j hj l x y z hl e1 e2 e3 => ?_⟩
          · simp only [m_X8_edgesCanHold_L58, if_neg (nI_ge hi (by omega)), lAk, if_pos vi, ci, a5, if_neg d, q1, clk_some, if_true, nmk, nI_1]
          · by_cases e : j = i
            · subst e
              exact q2 l x y z hl e1 e2 e3
            · exact h j (by omega) l x y z hl e1 e2 e3
        · refine ⟨.inr (.inr (pA (pA s 7 4 f4) 7 5 f5)), ?_, rfl, q2⟩
          simp only [m_X8_edgesCanHold_L58, if_neg (nI_ge hi (by omega)), lAk, if_pos vi, ci, a5, if_neg d, q1, clk_some, if_neg (show ¬ (1 : Int32) = 0 by decide)]) (by
      rintro r ⟨rfl, h⟩
      exact ⟨.inr (.inl (pA (pA s 7 4 f4) 7 5 f5)), by simp only [m_X8_edgesCanHold_L58, if_pos (Int32.le_refl _)], rfl, h⟩) FU 0 (nI 0, pA (pA s 7 4 f4) 7 5 f5) (by omega) (FU_lt (by omega)) ⟨rfl, fun j hj => absurd hj (Nat.not_lt_zero j)⟩
  have c0 : gA s 6 0 (16 * a + a) ≤ nI 0 := c
  obtain ⟨r, hr, hQ⟩ := hI
  refine ⟨f4, f5, ?_⟩
  cases r with
  | inl r =>
    obtain ⟨rfl, h⟩ := hQ
    refine Or.inl ⟨by simp only [m_X8_edgesCanHold, nI_16, lAk, if_pos v1, c1, show (0 : Int32) = nI 0 from rfl, if_pos c0, nmk, lpk, k1, hr, Sum.elim], k2, ?_, hself⟩
    rintro ⟨j, l, x, y, z, hj, hl, e1, e2, e3, e4⟩
    have := h j hj l x y z hl e1 e2 e3
    omega
  | inr r =>
    obtain ⟨rfl, h⟩ := hQ
    exact Or.inr ⟨by simp only [m_X8_edgesCanHold, nI_16, lAk, if_pos v1, c1, show (0 : Int32) = nI 0 from rfl, if_pos c0, nmk, lpk, k1, hr, Sum.elim], Or.inl h⟩
end SK
