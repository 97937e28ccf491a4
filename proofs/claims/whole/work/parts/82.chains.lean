-- 82.chains: the class makes the chains of one act more
theorem mxF_s {g : Nat → Option Int} {k : Nat} : mxF g (k + 1) = match g k with
    | none => mxF g k
    | some x => some (mxO (mxF g k) x) := rfl
theorem ad_n1 (y : Option Int) : adO none y = none := rfl
theorem ad_n2 (x : Option Int) : adO x none = none := by cases x <;> rfl
theorem mx_apart {x : Int32} (h : -1000000 ≤ x.toInt) : mx x (-1000000) = x := by
  have : ¬ x < -1000000 := by rw [fx_lt, tA]; omega
  exact if_neg this
section CH
variable {s : Sg} {a : Nat} {W : Nat → Nat → Option Int}
theorem long_in (ha : a < 16) {j : Nat} (hj : j < a) (hC : BdC a (lvO (gA s 7 3) (a - 1))) (hW : ∀ j l, j < a + 1 → l < a + 1 → ∀ x, W j l = some x → -290 ≤ x ∧ x ≤ 60) (h4 : ∀ j, j < a → oD (gA s 7 4 j) = W j a) : ∃ r, m_X8_longestInto (nI a) (nI j) s = some (r, s) ∧ oD r = inO (lvO (gA s 7 3) (a - 1)) W a j := by
  obtain ⟨G, hG⟩ : ∃ G, G = (fun l => adO (lvO (gA s 7 3) (a - 1) j l) (W l a)) := ⟨_, rfl⟩
  have hI := ok_for (step := fun s : (Int32 × Int32 × Sg) => m_X8_longestInto_L6 (nI a) (nI j) s.1 s.2.1 s.2.2) (Q := fun r => ∃ x, r = (x, s) ∧ oD x = mxF G a) a (fun i r => ∃ x, r = (x, nI i, s) ∧ oD x = mxF G i ∧ -1000000 ≤ x.toInt) (by
      rintro i r hi ⟨x, rfl, h, hx⟩
      have vi : vpb (nI i) 16 = true := vpb_nI (by omega) (by omega)
      have ci := nI_clamp (show i < 2 ^ 31 by omega)
      have vp : vpb (nI (16 * (16 * (a - 1) + j) + i)) 4096 = true := vpb_nI (by omega) (by omega)
      have cp := nI_clamp (show 16 * (16 * (a - 1) + j) + i < 2 ^ 31 by omega)
      have ep := nI_prd (a := a) (by omega) (by omega)
      have hi4 := h4 i hi
      have gi : G i = adO (lvO (gA s 7 3) (a - 1) j i) (W i a) := by rw [hG]
      by_cases c : gA s 7 4 i = -1000000
      · refine ⟨.inl (x, nI (i + 1), s), ?_, x, rfl, ?_, hx⟩
        · simp only [m_X8_longestInto_L6, if_neg (nI_ge hi (by omega)), lAk, if_pos vi, ci, if_pos c, nmk, nI_1]
        · rw [mxF_s, gi, ← hi4, oD_no c, ad_n2]; exact h
      by_cases d : gA s 7 3 (16 * (16 * (a - 1) + j) + i) = -1000000
      · refine ⟨.inl (x, nI (i + 1), s), ?_, x, rfl, ?_, hx⟩
        · simp only [m_X8_longestInto_L6, if_neg (nI_ge hi (by omega)), lAk, if_pos vi, ci, if_neg c, ep, place_eq, clk_some, if_pos vp, cp, m_X8_plus, if_pos d, mx_apart hx, nmk, nI_1]
        · have e : lvO (gA s 7 3) (a - 1) j i = none := oD_no d
          rw [mxF_s, gi, e, ad_n1]; exact h
      have hz : W i a = some (gA s 7 4 i).toInt := by rw [← hi4, oD_yes c]
      have hzb := hW i a (by omega) (by omega) _ hz
      have hy : lvO (gA s 7 3) (a - 1) j i = some (gA s 7 3 (16 * (16 * (a - 1) + j) + i)).toInt := oD_yes d
      have hyb := hC j i hj hi _ hy
      have s1 : (gA s 7 3 (16 * (16 * (a - 1) + j) + i) + gA s 7 4 i).toInt = (gA s 7 3 (16 * (16 * (a - 1) + j) + i)).toInt + (gA s 7 4 i).toInt := fx_add (by omega) (by omega)
      refine ⟨.inl (mx x (gA s 7 3 (16 * (16 * (a - 1) + j) + i) + gA s 7 4 i), nI (i + 1), s), ?_, _, rfl, ?_, ?_⟩
      · simp only [m_X8_longestInto_L6, if_neg (nI_ge hi (by omega)), lAk, if_pos vi, ci, if_neg c, ep, place_eq, clk_some, if_pos vp, cp, m_X8_plus, if_neg d, nmk, nI_1]
      · rw [oD_mx hx (by rw [s1]; omega), s1, mxF_s, gi, hy, hz, h]
        rfl
      · rw [mx_toInt, s1]
        split <;> omega) (by
      rintro r ⟨x, rfl, h, hx⟩
      exact ⟨.inr (x, s), by simp only [m_X8_longestInto_L6, if_pos (Int32.le_refl _)], x, rfl, h⟩) FU 0 (-1000000, nI 0, s) (by omega) (FU_lt (by omega)) ⟨-1000000, rfl, oD_no rfl, by rw [tA]; omega⟩
  obtain ⟨r, hr, x, rfl, h⟩ := hI
  refine ⟨x, by simp only [m_X8_longestInto, nmk, lpk, show (0 : Int32) = nI 0 from rfl, hr], ?_⟩
  rw [h, hG]
  rfl
theorem long_ou (ha : a < 16) {j : Nat} (hj : j < a) (hC : BdC a (lvO (gA s 7 3) (a - 1))) (hW : ∀ j l, j < a + 1 → l < a + 1 → ∀ x, W j l = some x → -290 ≤ x ∧ x ≤ 60) (h5 : ∀ j, j < a → oD (gA s 7 5 j) = W a j) : ∃ r, m_X8_longestOutOf (nI a) (nI j) s = some (r, s) ∧ oD r = ouO (lvO (gA s 7 3) (a - 1)) W a j := by
  obtain ⟨G, hG⟩ : ∃ G, G = (fun l => adO (W a l) (lvO (gA s 7 3) (a - 1) l j)) := ⟨_, rfl⟩
  have hI := ok_for (step := fun s : (Int32 × Int32 × Sg) => m_X8_longestOutOf_L6 (nI a) (nI j) s.1 s.2.1 s.2.2) (Q := fun r => ∃ x, r = (x, s) ∧ oD x = mxF G a) a (fun i r => ∃ x, r = (x, nI i, s) ∧ oD x = mxF G i ∧ -1000000 ≤ x.toInt) (by
      rintro i r hi ⟨x, rfl, h, hx⟩
      have vi : vpb (nI i) 16 = true := vpb_nI (by omega) (by omega)
      have ci := nI_clamp (show i < 2 ^ 31 by omega)
      have vp : vpb (nI (16 * (16 * (a - 1) + i) + j)) 4096 = true := vpb_nI (by omega) (by omega)
      have cp := nI_clamp (show 16 * (16 * (a - 1) + i) + j < 2 ^ 31 by omega)
      have ep := nI_prd (a := a) (by omega) (by omega)
      have hi5 := h5 i hi
      have gi : G i = adO (W a i) (lvO (gA s 7 3) (a - 1) i j) := by rw [hG]
      by_cases c : gA s 7 5 i = -1000000
      · refine ⟨.inl (x, nI (i + 1), s), ?_, x, rfl, ?_, hx⟩
        · simp only [m_X8_longestOutOf_L6, if_neg (nI_ge hi (by omega)), lAk, if_pos vi, ci, if_pos c, nmk, nI_1]
        · rw [mxF_s, gi, ← hi5, oD_no c, ad_n1]; exact h
      by_cases d : gA s 7 3 (16 * (16 * (a - 1) + i) + j) = -1000000
      · refine ⟨.inl (x, nI (i + 1), s), ?_, x, rfl, ?_, hx⟩
        · simp only [m_X8_longestOutOf_L6, if_neg (nI_ge hi (by omega)), lAk, if_pos vi, ci, if_neg c, ep, place_eq, clk_some, if_pos vp, cp, m_X8_plus, if_pos d, mx_apart hx, nmk, nI_1]
        · have e : lvO (gA s 7 3) (a - 1) i j = none := oD_no d
          rw [mxF_s, gi, e, ad_n2]; exact h
      have hz : W a i = some (gA s 7 5 i).toInt := by rw [← hi5, oD_yes c]
      have hzb := hW a i (by omega) (by omega) _ hz
      have hy : lvO (gA s 7 3) (a - 1) i j = some (gA s 7 3 (16 * (16 * (a - 1) + i) + j)).toInt := oD_yes d
      have hyb := hC i j hi hj _ hy
      have s1 : (gA s 7 5 i + gA s 7 3 (16 * (16 * (a - 1) + i) + j)).toInt = (gA s 7 5 i).toInt + (gA s 7 3 (16 * (16 * (a - 1) + i) + j)).toInt := fx_add (by omega) (by omega)
      refine ⟨.inl (mx x (gA s 7 5 i + gA s 7 3 (16 * (16 * (a - 1) + i) + j)), nI (i + 1), s), ?_, _, rfl, ?_, ?_⟩
      · simp only [m_X8_longestOutOf_L6, if_neg (nI_ge hi (by omega)), lAk, if_pos vi, ci, if_neg c, ep, place_eq, clk_some, if_pos vp, cp, m_X8_plus, if_neg d, nmk, nI_1]
      · rw [oD_mx hx (by rw [s1]; omega), s1, mxF_s, gi, hy, hz, h]
        rfl
      · rw [mx_toInt, s1]
        split <;> omega) (by
      rintro r ⟨x, rfl, h, hx⟩
      exact ⟨.inr (x, s), by simp only [m_X8_longestOutOf_L6, if_pos (Int32.le_refl _)], x, rfl, h⟩) FU 0 (-1000000, nI 0, s) (by omega) (FU_lt (by omega)) ⟨-1000000, rfl, oD_no rfl, by rw [tA]; omega⟩
  obtain ⟨r, hr, x, rfl, h⟩ := hI
  refine ⟨x, by simp only [m_X8_longestOutOf, nmk, lpk, show (0 : Int32) = nI 0 from rfl, hr], ?_⟩
  rw [h, hG]
  rfl
theorem chain_fill (ha : a < 16) (hC : BdC a (lvO (gA s 7 3) (a - 1))) (hW : ∀ j l, j < a + 1 → l < a + 1 → ∀ x, W j l = some x → -290 ≤ x ∧ x ≤ 60) (h4 : ∀ j, j < a → oD (gA s 7 4 j) = W j a) (h5 : ∀ j, j < a → oD (gA s 7 5 j) = W a j) : ∃ f6 f7, lp (fun s : (Int32 × Sg) => m_X8_chain_L2 (nI a) s.1 s.2) FU (nI 0, s) = some (pA (pA s 7 6 f6) 7 7 f7) ∧ ∀ j, j < a → oD (f6 j) = inO (lvO (gA s 7 3) (a - 1)) W a j ∧ oD (f7 j) = ouO (lvO (gA s 7 3) (a - 1)) W a j := by
  have hI := ok_for (step := fun s : (Int32 × Sg) => m_X8_chain_L2 (nI a) s.1 s.2) (Q := fun r => ∃ f6 f7, r = pA (pA s 7 6 f6) 7 7 f7 ∧ ∀ j, j < a → oD (f6 j) = inO (lvO (gA s 7 3) (a - 1)) W a j ∧ oD (f7 j) = ouO (lvO (gA s 7 3) (a - 1)) W a j) a (fun i r => ∃ f6 f7, r = (nI i, pA (pA s 7 6 f6) 7 7 f7) ∧ ∀ j, j < i → oD (f6 j) = inO (lvO (gA s 7 3) (a - 1)) W a j ∧ oD (f7 j) = ouO (lvO (gA s 7 3) (a - 1)) W a j) (by
      rintro i r hi ⟨f6, f7, rfl, h⟩
      have vi : vpb (nI i) 16 = true := vpb_nI (by omega) (by omega)
      have ci := nI_clamp (show i < 2 ^ 31 by omega)
      obtain ⟨r1, k1, k2⟩ := long_in (s := pA (pA s 7 6 f6) 7 7 f7) ha hi hC hW h4
      obtain ⟨r2, k3, k4⟩ := long_ou (s := pA (pA (pA s 7 6 f6) 7 7 f7) 7 6 (upd f6 i r1)) ha hi hC hW h5
      have a6 : gA (pA (pA s 7 6 f6) 7 7 f7) 7 6 = f6 := rfl
      have a7 : gA (pA (pA (pA s 7 6 f6) 7 7 f7) 7 6 (upd f6 i r1)) 7 7 = f7 := rfl
      have em : pA (pA (pA (pA s 7 6 f6) 7 7 f7) 7 6 (upd f6 i r1)) 7 7 (upd f7 i r2) = pA (pA s 7 6 (upd f6 i r1)) 7 7 (upd f7 i r2) := by
        rw [pA_comm (pA s 7 6 f6) (show ¬ (7 = 7 ∧ 7 = 6) by omega), pA_pA, pA_pA]
      refine ⟨.inl (nI (i + 1), pA (pA s 7 6 (upd f6 i r1)) 7 7 (upd f7 i r2)), ?_, upd f6 i r1, upd f7 i r2, rfl, fun j hj => ?_⟩
      · simp only [m_X8_chain_L2, if_neg (nI_ge hi (by omega)), k1, clk_some, sAk, if_pos vi, ci, a6, k3, a7, em, nmk, nI_1]
      · rw [upd_i, upd_i]
        by_cases e : j = i
        · subst e
          rw [if_pos rfl, if_pos rfl]
          exact ⟨k2, k4⟩
        · rw [if_neg e, if_neg e]
          exact h j (by omega)) (by
      rintro r ⟨f6, f7, rfl, h⟩
      exact ⟨.inr (pA (pA s 7 6 f6) 7 7 f7), by simp only [m_X8_chain_L2, if_pos (Int32.le_refl _)], f6, f7, rfl, h⟩) FU 0 (nI 0, s) (by omega) (FU_lt (by omega)) ⟨gA s 7 6, gA s 7 7, by
        have e : pA (pA s 7 6 (gA s 7 6)) 7 7 (gA s 7 7) = s := by rw [pA_self, pA_self]
        rw [e], fun j hj => absurd hj (Nat.not_lt_zero j)⟩
  obtain ⟨r, hr, f6, f7, rfl, h⟩ := hI
  exact ⟨f6, f7, hr, h⟩
theorem nI_row (x : Nat) (i : Nat) : nI x + nI i = nI (x + i) := nI_add x i
theorem lengthen_eq {f : Nat → Int32} (ha : a < 16) {j : Nat} (hj : j < a) {x : Int} (h6 : (gA s 7 6 j).toInt = x) (hx : -10000 ≤ x ∧ x ≤ 10000) (h7 : ∀ l, l < a → ∀ y, oD (gA s 7 7 l) = some y → -10000 ≤ y ∧ y ≤ 10000) (hf : ∀ l, l < a → -1000000 ≤ (f (16 * (16 * a + j) + l)).toInt) : ∃ f', m_X8_lengthen (nI a) (nI j) (pA s 7 3 f) = some ((), pA s 7 3 f') ∧ (∀ q, ¬ (16 * (16 * a + j) ≤ q ∧ q < 16 * (16 * a + j) + a) → f' q = f q) ∧ ∀ l, l < a → oD (f' (16 * (16 * a + j) + l)) = match oD (gA s 7 7 l) with
    | none => oD (f (16 * (16 * a + j) + l))
    | some y => some (mxO (oD (f (16 * (16 * a + j) + l))) (x + y)) := by
  obtain ⟨R, hR⟩ : ∃ R, R = 16 * (16 * a + j) := ⟨_, rfl⟩
  rw [← hR] at hf ⊢
  have hI := ok_for (step := fun r : (Int32 × Sg) => m_X8_lengthen_L10 (nI a) (nI j) (nI R) r.1 r.2) (Q := fun r => ∃ f', r = pA s 7 3 f' ∧ (∀ q, ¬ (R ≤ q ∧ q < R + a) → f' q = f q) ∧ ∀ l, l < a → oD (f' (R + l)) = match oD (gA s 7 7 l) with
    | none => oD (f (R + l))
    | some y => some (mxO (oD (f (R + l))) (x + y))) a (fun i r => ∃ f', r = (nI i, pA s 7 3 f') ∧ (∀ q, ¬ (R ≤ q ∧ q < R + i) → f' q = f q) ∧ ∀ l, l < i → oD (f' (R + l)) = match oD (gA s 7 7 l) with
    | none => oD (f (R + l))
    | some y => some (mxO (oD (f (R + l))) (x + y))) (by
      rintro i r hi ⟨f', rfl, h1, h2⟩
      have vi : vpb (nI i) 16 = true := vpb_nI (by omega) (by omega)
      have ci := nI_clamp (show i < 2 ^ 31 by omega)
      have vj : vpb (nI j) 16 = true := vpb_nI (by omega) (by omega)
      have cj := nI_clamp (show j < 2 ^ 31 by omega)
      have vp : vpb (nI (R + i)) 4096 = true := vpb_nI (by omega) (by omega)
      have cp := nI_clamp (show R + i < 2 ^ 31 by omega)
      have a7 : gA (pA s 7 3 f') 7 7 = gA s 7 7 := rfl
      have a6 : gA (pA s 7 3 f') 7 6 = gA s 7 6 := rfl
      have a3 : gA (pA s 7 3 f') 7 3 = f' := rfl
      have fi : f' (R + i) = f (R + i) := h1 _ (by omega)
      by_cases c : gA s 7 7 i = -1000000
      · refine ⟨.inl (nI (i + 1), pA s 7 3 f'), ?_, f', rfl, fun q hq => h1 q (by omega), fun l hl => ?_⟩
        · simp only [m_X8_lengthen_L10, if_neg (nI_ge hi (by omega)), lAk, if_pos vi, ci, a7, if_pos c, nmk, nI_1]
        · by_cases e : l = i
          · subst e
            rw [oD_no c, fi]
          · exact h2 l (by omega)
      · have hy := h7 i hi _ (oD_yes c)
        have s1 : (gA s 7 6 j + gA s 7 7 i).toInt = x + (gA s 7 7 i).toInt := by rw [fx_add (by rw [h6]; omega) (by rw [h6]; omega), h6]
        refine ⟨.inl (nI (i + 1), pA s 7 3 (upd f' (R + i) (mx (f (R + i)) (gA s 7 6 j + gA s 7 7 i)))), ?_, _, rfl, fun q hq => ?_, fun l hl => ?_⟩
        · simp only [m_X8_lengthen_L10, if_neg (nI_ge hi (by omega)), lAk, sAk, if_pos vi, ci, a7, if_neg c, nI_row, if_pos vp, cp, a3, a6, if_pos vj, cj, fi, pA_pA, nmk, nI_1]
        · rw [upd_i, if_neg (by omega)]
          exact h1 q (by omega)
        · rw [upd_i]
          by_cases e : l = i
          · subst e
            rw [if_pos rfl, oD_mx (hf l hi) (by rw [s1]; omega), s1, oD_yes c]
          · rw [if_neg (by omega)]
            exact h2 l (by omega)) (by
      rintro r ⟨f', rfl, h1, h2⟩
      exact ⟨.inr (pA s 7 3 f'), by simp only [m_X8_lengthen_L10, if_pos (Int32.le_refl _)], f', rfl, h1, h2⟩) FU 0 (nI 0, pA s 7 3 f) (by omega) (FU_lt (by omega)) ⟨f, rfl, fun _ _ => rfl, fun l hl => absurd hl (Nat.not_lt_zero l)⟩
  obtain ⟨r, hr, f', rfl, h1, h2⟩ := hI
  refine ⟨f', ?_, h1, h2⟩
  have ep : m_X8_place (nI a) (nI j) (nI 0) (pA s 7 3 f) = some (nI R, pA s 7 3 f) := by rw [place_eq, hR]; rfl
  simp only [m_X8_lengthen, show (0 : Int32) = nI 0 from rfl, ep, clk_some, nmk, lpk, hr]
theorem cpA_eq {β : Type} {f : Nat → Int32} {x y m : Nat} (hx : x + m ≤ 4096) (hy : y + m ≤ 4096) (k : Sg → Option β) : cpAk (pA s 7 3 f) 7 3 4096 (nI x) 7 3 4096 (nI y) (nI m) k = k (pA s 7 3 (va_cpy f f x y m)) := by
  have nn : ∀ z : Nat, z ≤ 4096 → ¬ nI z < 0 := fun z hz => by rw [fx_lt, nI_toInt (by omega), ti_0]; omega
  have a3 : gA (pA s 7 3 f) 7 3 = f := rfl
  unfold cpAk
  rw [if_neg (nn x (by omega)), if_neg (nn y (by omega)), if_neg (nn m (by omega)), nI_clamp (show x < 2 ^ 31 by omega), nI_clamp (show y < 2 ^ 31 by omega), nI_clamp (show m < 2 ^ 31 by omega), if_pos hx, if_pos hy, a3, pA_pA]
/-- chain: level a holds the chains among acts 0 .. a; the levels below stay -/
theorem chain_eq (ha : a < 16) (hC : BdC a (lvO (gA s 7 3) (a - 1))) (hW : ∀ j l, j < a + 1 → l < a + 1 → ∀ x, W j l = some x → -290 ≤ x ∧ x ≤ 60) (h4 : ∀ j, j < a → oD (gA s 7 4 j) = W j a) (h5 : ∀ j, j < a → oD (gA s 7 5 j) = W a j) : ∃ f6 f7 f3, m_X8_chain (nI a) s = some ((), pA (pA (pA s 7 6 f6) 7 7 f7) 7 3 f3) ∧ (∀ q, q < 256 * a → f3 q = gA s 7 3 q) ∧ ∀ j l, j < a + 1 → l < a + 1 → lvO f3 a j l = fwO a (neO (lvO (gA s 7 3) (a - 1)) W a) j l := by
  obtain ⟨f6, f7, k1, k2⟩ := chain_fill (s := s) ha hC hW h4 h5
  obtain ⟨C, hCe⟩ : ∃ C, C = lvO (gA s 7 3) (a - 1) := ⟨_, rfl⟩
  rw [← hCe] at k2 hC ⊢
  obtain ⟨N, hN⟩ : ∃ N, N = neO C W a := ⟨_, rfl⟩
  rw [← hN]
  have inb : ∀ j, j < a → ∀ z, inO C W a j = some z → -10000 ≤ z ∧ z ≤ 10000 := fun j hj z hz => by
    obtain ⟨l, p, q, hl, e1, e2, e3⟩ := in_or hz
    have b1 := hC j l hj hl p e1
    have b2 := hW l a (by omega) (by omega) q e2
    omega
  have oub : ∀ j, j < a → ∀ z, ouO C W a j = some z → -10000 ≤ z ∧ z ≤ 10000 := fun j hj z hz => by
    obtain ⟨l, p, q, hl, e1, e2, e3⟩ := ou_or hz
    have b1 := hW a l (by omega) (by omega) p e1
    have b2 := hC l j hl hj q e2
    omega
  have dm : ∀ x, N a a = some x → x ≤ 0 := fun x hx => by rw [hN, ne_mm] at hx; have := Option.some.inj hx; omega
  obtain ⟨t, ht⟩ : ∃ t, t = pA (pA s 7 6 f6) 7 7 f7 := ⟨_, rfl⟩
  have t6 : gA t 7 6 = f6 := by rw [ht]; rfl
  have t7 : gA t 7 7 = f7 := by rw [ht]; rfl
  have t3 : gA t 7 3 = gA s 7 3 := by rw [ht]; rfl
  rw [← ht] at k1
  have lo : ∀ j l, j < a → l < a → -1000000 ≤ (gA s 7 3 (16 * (16 * (a - 1) + j) + l)).toInt := fun j l hj hl => by
    have e1 : C j l = oD (gA s 7 3 (16 * (16 * (a - 1) + j) + l)) := by rw [hCe]; rfl
    by_cases c : gA s 7 3 (16 * (16 * (a - 1) + j) + l) = -1000000
    · rw [c, tA]; omega
    · rw [oD_yes c] at e1
      have := hC j l hj hl _ e1
      omega
  have hI := ok_for (step := fun s : (Int32 × Sg) => m_X8_chain_L39 (nI a) s.1 s.2) (Q := fun r => ∃ f, r = pA t 7 3 f ∧ (∀ q, q < 256 * a → f q = gA s 7 3 q) ∧ ∀ j, j < a → (∀ l, l < a → lvO f a j l = fwO a N j l) ∧ lvO f a j a = N j a ∧ lvO f a a j = N a j) a (fun i r => ∃ f, r = (nI i, pA t 7 3 f) ∧ (∀ q, q < 256 * a → f q = gA s 7 3 q) ∧ ∀ j, j < i → (∀ l, l < a → lvO f a j l = fwO a N j l) ∧ lvO f a j a = N j a ∧ lvO f a a j = N a j) (by
      rintro i r hi ⟨f, rfl, h1, h2⟩
      have vi : vpb (nI i) 16 = true := vpb_nI (by omega) (by omega)
      have ci := nI_clamp (show i < 2 ^ 31 by omega)
      have ep := nI_prd (a := a) (by omega) (by omega)
      have pl1 : ∀ st, m_X8_place (nI (a - 1)) (nI i) 0 st = some (nI (16 * (16 * (a - 1) + i)), st) := fun st => place_eq (a - 1) i 0 st
      have pl2 : ∀ st, m_X8_place (nI a) (nI i) 0 st = some (nI (16 * (16 * a + i)), st) := fun st => place_eq a i 0 st
      obtain ⟨g, hg⟩ : ∃ g, g = va_cpy f f (16 * (16 * (a - 1) + i)) (16 * (16 * a + i)) a := ⟨_, rfl⟩
      have g1 : ∀ l, l < a → g (16 * (16 * a + i) + l) = gA s 7 3 (16 * (16 * (a - 1) + i) + l) := fun l hl => by
        rw [hg, pk_cpy_in (by omega) (by omega), show 16 * (16 * (a - 1) + i) + (16 * (16 * a + i) + l - 16 * (16 * a + i)) = 16 * (16 * (a - 1) + i) + l by omega]
        exact h1 _ (by omega)
      have g2 : ∀ q, ¬ (16 * (16 * a + i) ≤ q ∧ q < 16 * (16 * a + i) + a) → g q = f q := fun q hq => by
        rw [hg, pk_cpy_out (by omega)]
      have g3 : ∀ l, l < a → oD (g (16 * (16 * a + i) + l)) = N i l := fun l hl => by
        rw [g1 l hl, hN, ne_jl hi hl, hCe]; rfl
      -- the row of i, lengthened
      have key : ∃ g', m_X8_chain_L39 (nI a) (nI i) (pA t 7 3 f) = m_X8_chain_87 (nI a) (nI i) (pA t 7 3 g') ∧ (∀ q, ¬ (16 * (16 * a + i) ≤ q ∧ q < 16 * (16 * a + i) + a) → g' q = f q) ∧ ∀ l, l < a → oD (g' (16 * (16 * a + i) + l)) = fwO a N i l := by
        have a6 : ∀ h, gA (pA t 7 3 h) 7 6 = f6 := fun h => t6
        have ni : N i a = oD (f6 i) := by rw [hN, ne_jm hi, (k2 i hi).1]
        by_cases c : f6 i = -1000000
        · refine ⟨g, ?_, g2, fun l hl => ?_⟩
          · simp only [m_X8_chain_L39, if_neg (nI_ge hi (by omega)), ep, pl1, pl2, clk_some, cpA_eq (s := t) (f := f) (show 16 * (16 * (a - 1) + i) + a ≤ 4096 by omega) (show 16 * (16 * a + i) + a ≤ 4096 by omega), ← hg, lAk, if_pos vi, ci, a6, if_pos c]
          · rw [g3 l hl]
            unfold fwO
            rw [ni, oD_no c]
        · have hx6 : inO C W a i = some (f6 i).toInt := by rw [← (k2 i hi).1, oD_yes c]
          obtain ⟨g', l1, l2, l3⟩ := lengthen_eq (s := t) (f := g) ha hi (x := (f6 i).toInt) (by rw [t6]) (inb i hi _ hx6) (fun l hl y hy => by
            rw [t7, (k2 l hl).2] at hy
            exact oub l hl y hy) (fun l hl => by rw [g1 l hl]; exact lo i l hi hl)
          refine ⟨g', ?_, fun q hq => (l2 q hq).trans (g2 q hq), fun l hl => ?_⟩
          · simp only [m_X8_chain_L39, if_neg (nI_ge hi (by omega)), ep, pl1, pl2, clk_some, cpA_eq (s := t) (f := f) (show 16 * (16 * (a - 1) + i) + a ≤ 4096 by omega) (show 16 * (16 * a + i) + a ≤ 4096 by omega), ← hg, lAk, if_pos vi, ci, a6, if_neg c, l1]
          · rw [l3 l hl, t7, g3 l hl]
            have nl : N a l = oD (f7 l) := by rw [hN, ne_ml hl, (k2 l hl).2]
            unfold fwO
            rw [ni, nl, oD_yes c]
            cases oD (f7 l) <;> rfl
      obtain ⟨g', y1, y2, y3⟩ := key
      have v87a : vpb (nI (16 * (16 * a + i) + a)) 4096 = true := vpb_nI (by omega) (by omega)
      have c87a := nI_clamp (show 16 * (16 * a + i) + a < 2 ^ 31 by omega)
      have v87b : vpb (nI (16 * (16 * a + a) + i)) 4096 = true := vpb_nI (by omega) (by omega)
      have c87b := nI_clamp (show 16 * (16 * a + a) + i < 2 ^ 31 by omega)
      have b6 : ∀ h, gA (pA t 7 3 h) 7 6 = f6 := fun h => t6
      have b7 : ∀ h, gA (pA t 7 3 h) 7 7 = f7 := fun h => t7
      have b3 : ∀ h, gA (pA t 7 3 h) 7 3 = h := fun h => rfl
      obtain ⟨h3, eh3⟩ : ∃ h, h = upd (upd g' (16 * (16 * a + i) + a) (f6 i)) (16 * (16 * a + a) + i) (f7 i) := ⟨_, rfl⟩
      have h3_lo : ∀ q, ¬ q = 16 * (16 * a + a) + i → ¬ q = 16 * (16 * a + i) + a → h3 q = g' q := fun q q1 q2 => by rw [eh3, upd_i, if_neg q1, upd_i, if_neg q2]
      refine ⟨.inl (nI (i + 1), pA t 7 3 h3), ?_, h3, rfl, fun q hq => ?_, fun j hj => ?_⟩
      · show m_X8_chain_L39 (nI a) (nI i) (pA t 7 3 f) = _
        rw [y1]
        simp only [m_X8_chain_87, place_eq, clk_some, lAk, sAk, if_pos vi, ci, b6, b7, b3, if_pos v87a, c87a, if_pos v87b, c87b, pA_pA, ← eh3, nmk, nI_1]
      · rw [h3_lo q (by omega) (by omega), y2 q (by omega)]
        exact h1 q hq
      · by_cases e : j = i
        · subst e
          refine ⟨fun l hl => ?_, ?_, ?_⟩
          · unfold lvO
            rw [h3_lo _ (by omega) (by omega)]
            exact y3 l hl
          · unfold lvO
            rw [eh3, upd_i, if_neg (by omega), upd_i, if_pos rfl, (k2 j hi).1, hN, ne_jm hi]
          · unfold lvO
            rw [eh3, upd_i, if_pos rfl, (k2 j hi).2, hN, ne_ml hi]
        · obtain ⟨z1, z2, z3⟩ := h2 j (by omega)
          refine ⟨fun l hl => ?_, ?_, ?_⟩
          · unfold lvO
            rw [h3_lo _ (by omega) (by omega), y2 _ (by omega)]
            exact z1 l hl
          · unfold lvO
            rw [h3_lo _ (by omega) (by omega), y2 _ (by omega)]
            exact z2
          · unfold lvO
            rw [h3_lo _ (by omega) (by omega), y2 _ (by omega)]
            exact z3) (by
      rintro r ⟨f, rfl, h1, h2⟩
      exact ⟨.inr (pA t 7 3 f), by simp only [m_X8_chain_L39, if_pos (Int32.le_refl _)], f, rfl, h1, h2⟩) FU 0 (nI 0, t) (by omega) (FU_lt (by omega)) ⟨gA t 7 3, by rw [pA_self], fun q _ => by rw [t3], fun j hj => absurd hj (Nat.not_lt_zero j)⟩
  obtain ⟨r, hr, f, rfl, h1, h2⟩ := hI
  have vaa : vpb (nI (16 * (16 * a + a) + a)) 4096 = true := vpb_nI (by omega) (by omega)
  have caa := nI_clamp (show 16 * (16 * a + a) + a < 2 ^ 31 by omega)
  have b3 : ∀ h, gA (pA t 7 3 h) 7 3 = h := fun h => rfl
  refine ⟨f6, f7, upd f (16 * (16 * a + a) + a) (nI 0), ?_, fun q hq => ?_, fun j l hj hl => ?_⟩
  · rw [← ht]
    simp only [m_X8_chain, nmk, lpk, show (0 : Int32) = nI 0 from rfl, k1, hr, place_eq, clk_some, sAk, if_pos vaa, caa, b3, pA_pA]
  · rw [upd_i, if_neg (by omega)]
    exact h1 q hq
  · unfold lvO
    rw [upd_i]
    by_cases ej : j = a
    · subst ej
      rw [fw_row dm]
      by_cases el : l = j
      · subst el
        rw [if_pos rfl, hN, ne_mm]
        rfl
      · rw [if_neg (by omega)]
        exact (h2 l (by omega)).2.2
    · by_cases el : l = a
      · subst el
        rw [if_neg (by omega), fw_col dm]
        exact (h2 j (by omega)).2.1
      · rw [if_neg (by omega)]
        exact (h2 j (by omega)).1 l (by omega)
end CH
