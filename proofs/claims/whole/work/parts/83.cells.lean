-- 83.cells: how many acts fill a unit's tick; the class's filling changed by one act
set_option maxRecDepth 100000 in
theorem bi_all : ∀ p : Fin 256, ∀ i : Fin 8, biF (nI p.val) i.val = 0 ∨ biF (nI p.val) i.val = 1 := by decide
theorem bi_01 {p : Int32} (h : inR p 0 255) {i : Nat} (hi : i < 8) : biF p i = 0 ∨ biF p i = 1 := by
  have e := fx_nI h.1
  have c := fx_cl h.1
  have d := h.2
  have := bi_all ⟨p.toNatClampNeg, by omega⟩ ⟨i, hi⟩
  dsimp only at this
  rw [← e] at this
  exact this
theorem hi_mono {b T : Nat} {p : Int32} {t : Nat} : ∀ {i j : Nat}, i ≤ j → hiN b T p t i ≤ hiN b T p t j
  | i, 0, h => by have : i = 0 := by omega
                  subst this; exact Nat.le_refl _
  | i, j + 1, h => by
    by_cases e : i = j + 1
    · subst e; exact Nat.le_refl _
    · have := hi_mono (b := b) (T := T) (p := p) (t := t) (i := i) (j := j) (by omega)
      show hiN b T p t i ≤ hiN b T p t j + _
      omega
theorem hi_le (b T : Nat) (p : Int32) (t : Nat) : ∀ i, hiN b T p t i ≤ i
  | 0 => Nat.le_refl 0
  | i + 1 => by
    have := hi_le b T p t i
    show hiN b T p t i + (if (T + i) % b = t then biN p i else 0) ≤ i + 1
    unfold biN
    split
    · split <;> omega
    · omega
theorem cel_le (kind pat : Nat → Int32) (T : Nat → Nat) (b k t : Nat) : ∀ m, celN kind pat T b k t m ≤ 8 * m
  | 0 => Nat.le_refl 0
  | m + 1 => by
    have := cel_le kind pat T b k t m
    have h := hi_le b (T m) (pat m) t 8
    show celN kind pat T b k t m + (if kind m = nI k then hiN b (T m) (pat m) t 8 else 0) ≤ 8 * (m + 1)
    split <;> omega
theorem cel_congr {kind pat : Nat → Int32} {T T' : Nat → Nat} {b k t : Nat} : ∀ {m : Nat}, (∀ v, v < m → T v = T' v) → celN kind pat T b k t m = celN kind pat T' b k t m
  | 0, _ => rfl
  | m + 1, h => by
    have ih := cel_congr (kind := kind) (pat := pat) (T := T) (T' := T') (b := b) (k := k) (t := t) (m := m) (fun v hv => h v (by omega))
    show celN kind pat T b k t m + _ = celN kind pat T' b k t m + _
    rw [ih, h m (by omega)]
theorem cel_mono {kind pat : Nat → Int32} {T : Nat → Nat} {b k t : Nat} : ∀ {m m' : Nat}, m ≤ m' → celN kind pat T b k t m ≤ celN kind pat T b k t m'
  | m, 0, h => by have : m = 0 := by omega
                  subst this; exact Nat.le_refl _
  | m, m' + 1, h => by
    by_cases e : m = m' + 1
    · subst e; exact Nat.le_refl _
    · have := cel_mono (kind := kind) (pat := pat) (T := T) (b := b) (k := k) (t := t) (m := m) (m' := m') (by omega)
      show celN kind pat T b k t m ≤ celN kind pat T b k t m' + _
      omega
theorem nI_mod {x b : Nat} (hb : 1 ≤ b) (hb2 : b ≤ 60) (hx : x < 1000000) : nI x - nI x / nI b * nI b = nI (x % b) := by
  have tx := nI_toInt (show x < 2 ^ 31 by omega)
  have tb := nI_toInt (show b < 2 ^ 31 by omega)
  have hd := Nat.div_add_mod x b
  have hm := Nat.mod_lt x (show 0 < b by omega)
  have hle : x / b ≤ x := Nat.div_le_self x b
  have e1 : (nI x / nI b).toInt = ((x / b : Nat) : Int) := by
    rw [fx_div (by omega) (by omega), tx, tb]
    rfl
  have hml : b * (x / b) ≤ x := by omega
  have e2 : (nI x / nI b * nI b).toInt = ((b * (x / b) : Nat) : Int) := by
    have e3 : ((x / b : Nat) : Int) * (b : Int) = ((b * (x / b) : Nat) : Int) := by rw [Nat.mul_comm]; rfl
    rw [fx_mul (by rw [e1, tb, e3]; omega) (by rw [e1, tb, e3]; omega), e1, tb, e3]
  rw [fx_eq, fx_sub (by rw [tx, e2]; omega) (by rw [tx, e2]; omega), tx, e2, nI_toInt (by omega)]
  omega
theorem nI_inj {x y : Nat} (hx : x < 2 ^ 31) (hy : y < 2 ^ 31) (h : nI x = nI y) : x = y := by
  have := nI_toInt hx
  rw [h, nI_toInt hy] at this
  omega
theorem nI_60 (k : Nat) : nI k * 60 = nI (60 * k) := by
  rw [show (60 : Int32) = nI 60 from rfl, pk_mul, Nat.mul_comm]
theorem change_gen {s : Sg} {j a k0 T b : Nat} {p p5 : Int32} {f : Nat → Int32} {V : Nat → Nat → Nat} (hj : j ≠ 1) (ha : a < 16) (hk : k0 < 6) (hb1 : 1 ≤ b) (hb : b ≤ 60) (hT : T ≤ 100000) (h4 : gA s 1 4 a = p) (h3 : gA s 1 3 a = nI k0) (hV : ∀ t i, V t i ≤ 1000) (h1 : ∀ i, i < 8 → ¬ biF p i = 0 → nI (V ((T + i) % b) i) + p5 = nI (V ((T + i) % b) (i + 1))) (h2 : ∀ i t, i < 8 → (biF p i = 0 ∨ ¬ t = (T + i) % b) → V t (i + 1) = V t i) (h0 : ∀ t, t < b → f (60 * k0 + t) = nI (V t 0)) : ∃ f' most, m_X2_change j (nI a) (nI T) (nI b) p5 (pA s j 0 f) = some (most, pA s j 0 f') ∧ (∀ t, t < b → f' (60 * k0 + t) = nI (V t 8)) ∧ (∀ q, ¬ (60 * k0 ≤ q ∧ q < 60 * k0 + b) → f' q = f q) ∧ (∀ i, i < 8 → ¬ biF p i = 0 → (V ((T + i) % b) (i + 1) : Int) ≤ most.toInt) ∧ (most = 0 ∨ ∃ i, i < 8 ∧ ¬ biF p i = 0 ∧ most.toInt ≤ V ((T + i) % b) (i + 1)) := by
  have hI := ok_for (step := fun r : (Int32 × Int32 × Sg) => m_X2_change_L34 j (nI T) (nI b) p5 p (nI (60 * k0)) r.1 r.2.1 r.2.2) (Q := fun r => ∃ f' most, r = (most, pA s j 0 f') ∧ (∀ t, t < b → f' (60 * k0 + t) = nI (V t 8)) ∧ (∀ q, ¬ (60 * k0 ≤ q ∧ q < 60 * k0 + b) → f' q = f q) ∧ (∀ i, i < 8 → ¬ biF p i = 0 → (V ((T + i) % b) (i + 1) : Int) ≤ most.toInt) ∧ (most = 0 ∨ ∃ i, i < 8 ∧ ¬ biF p i = 0 ∧ most.toInt ≤ V ((T + i) % b) (i + 1))) 8 (fun i r => ∃ f' most, r = (most, nI i, pA s j 0 f') ∧ (∀ t, t < b → f' (60 * k0 + t) = nI (V t i)) ∧ (∀ q, ¬ (60 * k0 ≤ q ∧ q < 60 * k0 + b) → f' q = f q) ∧ (∀ i', i' < i → ¬ biF p i' = 0 → (V ((T + i') % b) (i' + 1) : Int) ≤ most.toInt) ∧ (most = 0 ∨ ∃ i, i < 8 ∧ ¬ biF p i = 0 ∧ most.toInt ≤ V ((T + i) % b) (i + 1))) (by
      rintro i r hi ⟨f', most, rfl, e1, e2, e3, e4⟩
      have hg : ¬ (8 : Int32) ≤ nI i := nI_ge (a := i) (b := 8) hi (by omega)
      have eb : (p >>> (nI i &&& 31)) &&& 1 = biF p i := rfl
      by_cases c : biF p i = 0
      · refine ⟨.inl (most, nI (i + 1), pA s j 0 f'), ?_, f', most, rfl, fun t ht => ?_, e2, fun i' hi' hne => ?_, e4⟩
        · simp only [m_X2_change_L34, if_neg hg, eb, if_pos c, nmk, nI_1]
        · rw [e1 t ht, h2 i t hi (Or.inl c)]
        · by_cases e : i' = i
          · subst e; exact absurd c hne
          · exact e3 i' (by omega) hne
      · have hm := Nat.mod_lt (T + i) (show 0 < b by omega)
        obtain ⟨u, hu⟩ : ∃ u, u = (T + i) % b := ⟨_, rfl⟩
        rw [← hu] at hm
        have nb0 : ¬ nI b = 0 := nI_ne0 (by omega) (by omega)
        have em : nI (60 * k0) + (nI T + nI i - (nI T + nI i) / nI b * nI b) = nI (60 * k0 + u) := by
          rw [nI_add, nI_mod hb1 hb (by omega), ← hu, nI_add]
        have vq : vpb (nI (60 * k0 + u)) 360 = true := vpb_nI (by omega) (by omega)
        have cq := nI_clamp (show 60 * k0 + u < 2 ^ 31 by omega)
        have a0 : ∀ h, gA (pA s j 0 h) j 0 = h := fun h => by rw [gA_pA2, if_pos rfl, if_pos rfl]
        have hv : f' (60 * k0 + u) + p5 = nI (V u (i + 1)) := by
          rw [e1 u hm, hu]
          exact h1 i hi c
        have tv := nI_toInt (show V u (i + 1) < 2 ^ 31 by have := hV u (i + 1); omega)
        have us : upd f' (60 * k0 + u) (nI (V u (i + 1))) (60 * k0 + u) = nI (V u (i + 1)) := by rw [upd_i, if_pos rfl]
        refine ⟨.inl (mx most (nI (V u (i + 1))), nI (i + 1), pA s j 0 (upd f' (60 * k0 + u) (nI (V u (i + 1))))), ?_, _, _, rfl, fun t ht => ?_, fun q hq => ?_, fun i' hi' hne => ?_, ?_⟩
        · simp only [m_X2_change_L34, if_neg hg, eb, if_neg c, dvk, if_neg nb0, nmk, em, lAk, sAk, if_pos vq, cq, a0, hv, pA_pA, us, nI_1]
        · rw [upd_i]
          by_cases e : t = u
          · subst e; rw [if_pos rfl]
          · rw [if_neg (by omega), e1 t ht, h2 i t hi (Or.inr (by rw [← hu]; exact e))]
        · rw [upd_i, if_neg (by omega)]
          exact e2 q hq
        · rw [mx_toInt, tv]
          by_cases e : i' = i
          · subst e
            rw [← hu]
            split <;> omega
          · have := e3 i' (by omega) hne
            split <;> omega
        · by_cases d : most < nI (V u (i + 1))
          · right
            refine ⟨i, hi, c, ?_⟩
            have e5 : mx most (nI (V u (i + 1))) = nI (V u (i + 1)) := if_pos d
            rw [e5, tv, ← hu]
            omega
          · have e5 : mx most (nI (V u (i + 1))) = most := if_neg d
            rw [e5]; exact e4) (by
      rintro r ⟨f', most, rfl, e1, e2, e3, e4⟩
      exact ⟨.inr (most, pA s j 0 f'), by simp only [m_X2_change_L34, if_pos (show (8 : Int32) ≤ nI 8 by decide)], f', most, rfl, e1, e2, e3, e4⟩) FU 0 (0, nI 0, pA s j 0 f) (by omega) (FU_lt (by omega)) ⟨f, 0, rfl, h0, fun _ _ => rfl, fun i' hi' => absurd hi' (Nat.not_lt_zero i'), Or.inl rfl⟩
  obtain ⟨r, hr, f', most, rfl, q⟩ := hI
  refine ⟨f', most, ?_, q⟩
  have hb' : (1 : Int32) ≤ nI b := by rw [fx_le, ti_1, nI_toInt (by omega)]; omega
  have va : vpb (nI a) 16 = true := vpb_nI (by omega) (by omega)
  have ca := nI_clamp (show a < 2 ^ 31 by omega)
  have b4 : gA (pA s j 0 f) 1 4 a = p := by rw [gA_pA2, if_neg (fun h => hj h.symm)]; exact h4
  have b3 : gA (pA s j 0 f) 1 3 a = nI k0 := by rw [gA_pA2, if_neg (fun h => hj h.symm)]; exact h3
  have hr0 : lp (fun r : (Int32 × Int32 × Sg) => m_X2_change_L34 j (nI T) (nI b) p5 p (nI (60 * k0)) r.1 r.2.1 r.2.2) FU (0, 0, pA s j 0 f) = some (most, pA s j 0 f') := hr
  simp only [m_X2_change, if_pos hb', lAk, if_pos va, ca, b4, b3, nI_60, nmk, lpk, hr0]
/-- an act is put in: its cells, and whether they are crowded -/
theorem change_in {s : Sg} {j a b k0 : Nat} {T : Nat → Nat} {f : Nat → Int32} (hj : j ≠ 1) (ha : a < 16) (hb1 : 1 ≤ b) (hb : b ≤ 60) (hT : T a ≤ 100000) (hk : k0 < 6) (h3 : gA s 1 3 a = nI k0) (hp : inR (gA s 1 4 a) 0 255) (h0 : ∀ k t, k < 6 → t < b → f (60 * k + t) = nI (celN (gA s 1 3) (gA s 1 4) T b k t a)) : ∃ f' most, m_X2_change j (nI a) (nI (T a)) (nI b) 1 (pA s j 0 f) = some (most, pA s j 0 f') ∧ (∀ k t, k < 6 → t < b → f' (60 * k + t) = nI (celN (gA s 1 3) (gA s 1 4) T b k t (a + 1))) ∧ (∀ u : Int, 0 ≤ u → (∀ t, t < b → (celN (gA s 1 3) (gA s 1 4) T b k0 t a : Int) ≤ u) → (most.toInt ≤ u ↔ ∀ t, t < b → (celN (gA s 1 3) (gA s 1 4) T b k0 t (a + 1) : Int) ≤ u)) := by
  obtain ⟨c, hc⟩ : ∃ c : Nat → Nat, c = fun t => celN (gA s 1 3) (gA s 1 4) T b k0 t a := ⟨_, rfl⟩
  have cb : ∀ t, c t ≤ 128 := fun t => by have := cel_le (gA s 1 3) (gA s 1 4) T b k0 t a; rw [hc]; show celN _ _ _ _ _ _ _ ≤ 128; omega
  obtain ⟨f', most, k1, k2, k3, k4, k5⟩ := change_gen (s := s) (j := j) (f := f) (V := fun t i => if i ≤ 8 then c t + hiN b (T a) (gA s 1 4 a) t i else 0) (p5 := 1) hj ha hk hb1 hb hT rfl h3 (fun t i => by
      have := cb t
      have := hi_le b (T a) (gA s 1 4 a) t i
      try dsimp only
      split <;> omega) (fun i hi hne => by
      try dsimp only
      rw [if_pos (by omega), if_pos (by omega), nI_1]
      show nI _ = nI (c _ + (hiN b (T a) (gA s 1 4 a) ((T a + i) % b) i + if (T a + i) % b = (T a + i) % b then biN (gA s 1 4 a) i else 0))
      rw [if_pos rfl]
      unfold biN
      rw [if_neg hne]
      exact congrArg nI (by omega)) (fun i t hi h => by
      try dsimp only
      rw [if_pos (by omega), if_pos (by omega)]
      show c t + (hiN b (T a) (gA s 1 4 a) t i + if (T a + i) % b = t then biN (gA s 1 4 a) i else 0) = _
      by_cases e : (T a + i) % b = t
      · rw [if_pos e]
        rcases h with h | h
        · unfold biN; rw [if_pos h]; omega
        · exact absurd e.symm h
      · rw [if_neg e]; omega) (fun t ht => by
      try dsimp only
      rw [if_pos (by omega), h0 k0 t hk ht, hc]
      rfl)
  try dsimp only at k2 k4 k5
  have cs : ∀ t, celN (gA s 1 3) (gA s 1 4) T b k0 t (a + 1) = c t + hiN b (T a) (gA s 1 4 a) t 8 := fun t => by
    show celN (gA s 1 3) (gA s 1 4) T b k0 t a + (if gA s 1 3 a = nI k0 then hiN b (T a) (gA s 1 4 a) t 8 else 0) = _
    rw [if_pos h3, hc]
  refine ⟨f', most, k1, fun k t hk' ht => ?_, fun u hu hcu => ?_⟩
  · by_cases e : k = k0
    · subst e
      rw [k2 t ht, cs]
      rfl
    · rw [k3 _ (by omega), h0 k t hk' ht]
      have : ¬ gA s 1 3 a = nI k := fun q => by
        rw [h3] at q
        exact e (nI_inj (by omega) (by omega) q).symm
      show nI _ = nI (celN (gA s 1 3) (gA s 1 4) T b k t a + (if gA s 1 3 a = nI k then _ else 0))
      rw [if_neg this, Nat.add_zero]
  · constructor
    · intro hm t ht
      rw [cs]
      -- the last place at which t was filled
      have key : ∀ i, i ≤ 8 → (c t + hiN b (T a) (gA s 1 4 a) t i : Int) ≤ u := by
        intro i
        induction i with
        | zero =>
          intro _
          have := hcu t ht
          have e : (c t : Int) = (celN (gA s 1 3) (gA s 1 4) T b k0 t a : Int) := by rw [hc]
          have e2 : hiN b (T a) (gA s 1 4 a) t 0 = 0 := rfl
          rw [e2]
          omega
        | succ i ih =>
          intro hi
          have ih := ih (by omega)
          have es : hiN b (T a) (gA s 1 4 a) t (i + 1) = hiN b (T a) (gA s 1 4 a) t i + if (T a + i) % b = t then biN (gA s 1 4 a) i else 0 := rfl
          by_cases e : (T a + i) % b = t
          · by_cases d : biF (gA s 1 4 a) i = 0
            · rw [es, if_pos e]
              unfold biN
              rw [if_pos d, Nat.add_zero]
              exact ih
            · have := k4 i (by omega) d
              rw [if_pos (by omega), e] at this
              omega
          · rw [es, if_neg e, Nat.add_zero]
            exact ih
      have := key 8 (by omega)
      omega
    · intro h
      rcases k5 with q | ⟨i, hi, hne, q⟩
      · rw [q, ti_0]; exact hu
      · have hm := Nat.mod_lt (T a + i) (show 0 < b by omega)
        have h1 := h ((T a + i) % b) hm
        rw [cs] at h1
        rw [if_pos (by omega)] at q
        have := hi_mono (b := b) (T := T a) (p := gA s 1 4 a) (t := (T a + i) % b) (show i + 1 ≤ 8 by omega)
        omega
/-- an act is taken out -/
theorem change_out {s : Sg} {j a b k0 : Nat} {T : Nat → Nat} {f : Nat → Int32} (hj : j ≠ 1) (ha : a < 16) (hb1 : 1 ≤ b) (hb : b ≤ 60) (hT : T a ≤ 100000) (hk : k0 < 6) (h3 : gA s 1 3 a = nI k0) (h0 : ∀ k t, k < 6 → t < b → f (60 * k + t) = nI (celN (gA s 1 3) (gA s 1 4) T b k t (a + 1))) : ∃ f' most, m_X2_change j (nI a) (nI (T a)) (nI b) (-1) (pA s j 0 f) = some (most, pA s j 0 f') ∧ (∀ k t, k < 6 → t < b → f' (60 * k + t) = nI (celN (gA s 1 3) (gA s 1 4) T b k t a)) := by
  obtain ⟨c, hc⟩ : ∃ c : Nat → Nat, c = fun t => celN (gA s 1 3) (gA s 1 4) T b k0 t a := ⟨_, rfl⟩
  have cb : ∀ t, c t ≤ 128 := fun t => by have := cel_le (gA s 1 3) (gA s 1 4) T b k0 t a; rw [hc]; show celN _ _ _ _ _ _ _ ≤ 128; omega
  have cs : ∀ t, celN (gA s 1 3) (gA s 1 4) T b k0 t (a + 1) = c t + hiN b (T a) (gA s 1 4 a) t 8 := fun t => by
    show celN (gA s 1 3) (gA s 1 4) T b k0 t a + (if gA s 1 3 a = nI k0 then hiN b (T a) (gA s 1 4 a) t 8 else 0) = _
    rw [if_pos h3, hc]
  obtain ⟨f', most, k1, k2, k3, -, -⟩ := change_gen (s := s) (j := j) (f := f) (V := fun t i => c t + (hiN b (T a) (gA s 1 4 a) t 8 - hiN b (T a) (gA s 1 4 a) t i)) (p5 := -1) hj ha hk hb1 hb hT rfl h3 (fun t i => by
      have := cb t
      have := hi_le b (T a) (gA s 1 4 a) t 8
      try dsimp only
      omega) (fun i hi hne => by
      try dsimp only
      have es : hiN b (T a) (gA s 1 4 a) ((T a + i) % b) (i + 1) = hiN b (T a) (gA s 1 4 a) ((T a + i) % b) i + 1 := by
        show hiN b (T a) (gA s 1 4 a) ((T a + i) % b) i + (if (T a + i) % b = (T a + i) % b then biN (gA s 1 4 a) i else 0) = _
        rw [if_pos rfl]
        unfold biN
        rw [if_neg hne]
      have hm := hi_mono (b := b) (T := T a) (p := gA s 1 4 a) (t := (T a + i) % b) (show i + 1 ≤ 8 by omega)
      rw [es] at hm ⊢
      obtain ⟨x, hx⟩ : ∃ x, c ((T a + i) % b) + (hiN b (T a) (gA s 1 4 a) ((T a + i) % b) 8 - hiN b (T a) (gA s 1 4 a) ((T a + i) % b) i) = x + 1 := ⟨c ((T a + i) % b) + (hiN b (T a) (gA s 1 4 a) ((T a + i) % b) 8 - hiN b (T a) (gA s 1 4 a) ((T a + i) % b) i) - 1, by omega⟩
      have cbx := cb ((T a + i) % b)
      have h8 := hi_le b (T a) (gA s 1 4 a) ((T a + i) % b) 8
      have hx2 : x ≤ 1000 := by omega
      rw [hx, show c ((T a + i) % b) + (hiN b (T a) (gA s 1 4 a) ((T a + i) % b) 8 - (hiN b (T a) (gA s 1 4 a) ((T a + i) % b) i + 1)) = x by omega]
      have tm : (-1 : Int32).toInt = -1 := rfl
      rw [fx_eq, fx_add (by rw [nI_toInt (show x + 1 < 2 ^ 31 by omega), tm]; omega) (by rw [nI_toInt (show x + 1 < 2 ^ 31 by omega), tm]; omega), nI_toInt (show x + 1 < 2 ^ 31 by omega), nI_toInt (show x < 2 ^ 31 by omega), tm]
      omega) (fun i t hi h => by
      try dsimp only
      have es : hiN b (T a) (gA s 1 4 a) t (i + 1) = hiN b (T a) (gA s 1 4 a) t i := by
        show hiN b (T a) (gA s 1 4 a) t i + (if (T a + i) % b = t then biN (gA s 1 4 a) i else 0) = _
        by_cases e : (T a + i) % b = t
        · rw [if_pos e]
          rcases h with h | h
          · unfold biN; rw [if_pos h]; omega
          · exact absurd e.symm h
        · rw [if_neg e]; omega
      rw [es]) (fun t ht => by
      try dsimp only
      rw [h0 k0 t hk ht, cs]
      rfl)
  try dsimp only at k2
  refine ⟨f', most, k1, fun k t hk' ht => ?_⟩
  by_cases e : k = k0
  · subst e
    rw [k2 t ht, Nat.sub_self, Nat.add_zero, hc]
  · rw [k3 _ (by omega), h0 k t hk' ht]
    have : ¬ gA s 1 3 a = nI k := fun q => by
      rw [h3] at q
      exact e (nI_inj (by omega) (by omega) q).symm
    show nI (celN (gA s 1 3) (gA s 1 4) T b k t a + (if gA s 1 3 a = nI k then _ else 0)) = _
    rw [if_neg this, Nat.add_zero]
