-- 88.settle: the class sets the fields of a found laying
def FrL (s s' : Sg) : Prop := (∀ j k, j ≠ 9 → gI s' j k = gI s j k) ∧ (∀ j k, j ≠ 9 → j ≠ 10 → gA s' j k = gA s j k) ∧ ∀ j k, gL s' j k = gL s j k
theorem FrL.refl (s : Sg) : FrL s s := ⟨fun _ _ _ => rfl, fun _ _ _ _ => rfl, fun _ _ => rfl⟩
theorem FrL.trans {a b c : Sg} (h : FrL a b) (g : FrL b c) : FrL a c := ⟨fun j k x => (g.1 j k x).trans (h.1 j k x), fun j k x y => (g.2.1 j k x y).trans (h.2.1 j k x y), fun j k => (g.2.2 j k).trans (h.2.2 j k)⟩
theorem frL_9A (s : Sg) (k : Nat) (f : Nat → Int32) : FrL s (pA s 9 k f) := ⟨fun _ _ _ => rfl, fun j k' h _ => by rw [gA_pA2, if_neg h], fun _ _ => rfl⟩
theorem frL_10A (s : Sg) (k : Nat) (f : Nat → Int32) : FrL s (pA s 10 k f) := ⟨fun _ _ _ => rfl, fun j k' _ h => by rw [gA_pA2, if_neg h], fun _ _ => rfl⟩
theorem frL_9I (s : Sg) (k : Nat) (v : Int32) : FrL s (pI s 9 k v) := ⟨fun j k' h => by rw [gI_pI, if_neg h], fun _ _ _ _ => rfl, fun _ _ => rfl⟩
theorem ear_s (D : Nat → Nat → Option Int) (b m : Nat) : earO D b (m + 1) = match D m b with
    | none => earO D b m
    | some x => if earO D b m < x then x else earO D b m := rfl
/-- the most of 0 and a column of a matrix, as the class takes it -/
theorem mx_col {x v : Int32} {D : Nat → Nat → Option Int} {b m : Nat} (hx : x.toInt = earO D b m) (hv : oD v = D m b) : (mx x v).toInt = earO D b (m + 1) := by
  have h0 := ear_0 D b m
  rw [ear_s, ← hv]
  by_cases c : v = -1000000
  · rw [oD_no c, c, mx_apart (by omega)]
    exact hx
  · rw [oD_yes c, mx_toInt, hx]
theorem stageOf_eq {s : Sg} {n v : Nat} (hn : n ≤ 16) (hv : v < n) (hx : gI s 1 0 = nI n) : ∃ r, m_X8_stageOf (nI v) s = some (r, s) ∧ r.toInt = earO (lvO (gA s 7 3) (n - 1)) v n := by
  have hI := ok_for (step := fun r : (Int32 × Int32 × Sg) => m_X8_stageOf_L4 (nI v) r.1 r.2.1 r.2.2) (Q := fun r => ∃ x, r = (x, s) ∧ x.toInt = earO (lvO (gA s 7 3) (n - 1)) v n) n (fun i r => ∃ x, r = (x, nI i, s) ∧ x.toInt = earO (lvO (gA s 7 3) (n - 1)) v i) (by
      rintro i r hi ⟨x, rfl, h⟩
      have vp : vpb (nI (16 * (16 * (n - 1) + i) + v)) 4096 = true := vpb_nI (by omega) (by omega)
      have cp := nI_clamp (show 16 * (16 * (n - 1) + i) + v < 2 ^ 31 by omega)
      have ep := nI_prd (a := n) (by omega) (by omega)
      refine ⟨.inl (mx x (gA s 7 3 (16 * (16 * (n - 1) + i) + v)), nI (i + 1), s), ?_, _, rfl, mx_col h rfl⟩
      simp only [m_X8_stageOf_L4, gIk, hx, if_neg (nI_ge hi (by omega)), ep, place_eq, clk_some, lAk, if_pos vp, cp, nmk, nI_1]) (by
      rintro r ⟨x, rfl, h⟩
      exact ⟨.inr (x, s), by simp only [m_X8_stageOf_L4, gIk, hx, if_pos (Int32.le_refl _)], x, rfl, h⟩) FU 0 (nI 0, nI 0, s) (by omega) (FU_lt (by omega)) ⟨nI 0, rfl, rfl⟩
  obtain ⟨r, hr, x, rfl, h⟩ := hI
  exact ⟨x, by simp only [m_X8_stageOf, nmk, lpk, show (0 : Int32) = nI 0 from rfl, hr], h⟩
theorem mxN_s (S : Nat → Nat) (m : Nat) : mxN S (m + 1) = if mxN S m < S m then S m else mxN S m := rfl
theorem mxN_le {S : Nat → Nat} {M : Nat} : ∀ {n : Nat}, (∀ v, v < n → S v ≤ M) → mxN S n ≤ M
  | 0, _ => Nat.zero_le _
  | n + 1, h => by
    have := mxN_le (S := S) (M := M) (n := n) (fun v hv => h v (by omega))
    have := h n (by omega)
    rw [mxN_s]
    split <;> omega
theorem mx_nI {x y : Nat} (hx : x < 2 ^ 31) (hy : y < 2 ^ 31) : mx (nI x) (nI y) = nI (if x < y then y else x) := by
  by_cases c : x < y
  · have : nI x < nI y := nI_lt c hy
    rw [if_pos c]; exact if_pos this
  · have : ¬ nI x < nI y := nI_nlt (by omega) hx
    rw [if_neg c]; exact if_neg this
theorem settle_loop {s : Sg} {n b : Nat} {T S : Nat → Nat} (hn : n ≤ 16) (hb1 : 1 ≤ b) (hb : b ≤ 60) (hx : gI s 1 0 = nI n) (hT : ∀ v, v < n → T v < b ∧ gA s 7 9 v = nI (T v)) (hS : ∀ v, v < n → S v ≤ 960 ∧ earO (lvO (gA s 7 3) (n - 1)) v n = (S v : Int)) (hbo : ∀ v, v < n → inR (gA s 1 3 v) 0 5 ∧ inR (gA s 1 4 v) 0 255) (h91 : gI s 9 1 = nI b) (h92 : gI s 9 2 = 1) (h10 : ∀ q, q < 360 → gA s 10 0 q = 0) : ∃ r, lp (fun s : (Int32 × Sg) => m_X4_settle_L32 s.1 s.2) FU (nI 0, s) = some r ∧ FrL s r ∧ gI r 9 0 = gI s 9 0 ∧ gI r 9 1 = nI b ∧ gI r 9 2 = nI (1 + mxN S n) ∧ (∀ v, v < n → gA r 9 3 v = nI (T v) ∧ gA r 9 4 v = nI (S v) ∧ gA r 9 5 v = nI (b * S v + T v) ∧ gA r 9 6 v = nI (b * S v + T v)) ∧ (∀ k t, k < 6 → t < b → gA r 10 0 (60 * k + t) = nI (celN (gA s 1 3) (gA s 1 4) T b k t n)) := by
  have hI := ok_for (step := fun s : (Int32 × Sg) => m_X4_settle_L32 s.1 s.2) (Q := fun r => FrL s r ∧ gI r 9 0 = gI s 9 0 ∧ gI r 9 1 = nI b ∧ gI r 9 2 = nI (1 + mxN S n) ∧ (∀ v, v < n → gA r 9 3 v = nI (T v) ∧ gA r 9 4 v = nI (S v) ∧ gA r 9 5 v = nI (b * S v + T v) ∧ gA r 9 6 v = nI (b * S v + T v)) ∧ (∀ k t, k < 6 → t < b → gA r 10 0 (60 * k + t) = nI (celN (gA s 1 3) (gA s 1 4) T b k t n))) n (fun i q => ∃ r, q = (nI i, r) ∧ FrL s r ∧ gI r 9 0 = gI s 9 0 ∧ gI r 9 1 = nI b ∧ gI r 9 2 = nI (1 + mxN S i) ∧ (∀ v, v < i → gA r 9 3 v = nI (T v) ∧ gA r 9 4 v = nI (S v) ∧ gA r 9 5 v = nI (b * S v + T v) ∧ gA r 9 6 v = nI (b * S v + T v)) ∧ (∀ k t, k < 6 → t < b → gA r 10 0 (60 * k + t) = nI (celN (gA s 1 3) (gA s 1 4) T b k t i))) (by
      rintro i q hi ⟨r, rfl, f, e0, e1, e2, e3, e4⟩
      have vi : vpb (nI i) 16 = true := vpb_nI (by omega) (by omega)
      have ci := nI_clamp (show i < 2 ^ 31 by omega)
      have x1 : gI r 1 0 = nI n := (f.1 1 0 (by omega)).trans hx
      have t9 : gA r 7 9 i = nI (T i) := by rw [f.2.1 7 9 (by omega) (by omega)]; exact (hT i hi).2
      obtain ⟨s3, hs3⟩ : ∃ s', s' = pA r 9 3 (upd (gA r 9 3) i (nI (T i))) := ⟨_, rfl⟩
      have f3 : FrL s s3 := by rw [hs3]; exact f.trans (frL_9A _ _ _)
      obtain ⟨w, w1, w2⟩ := stageOf_eq (s := s3) hn hi ((f3.1 1 0 (by omega)).trans hx)
      rw [f3.2.1 7 3 (by omega) (by omega), (hS i hi).2] at w2
      have hSi := (hS i hi).1
      have hTi := (hT i hi).1
      have ew : w = nI (S i) := by rw [fx_eq, w2, nI_toInt (by omega)]
      subst ew
      have mulb : S i * b ≤ 57600 := by
        have := Nat.mul_le_mul hSi hb
        omega
      have eb : nI (S i) * nI b + nI (T i) = nI (b * S i + T i) := by
        rw [pk_mul, nI_add, Nat.mul_comm]
      have g1 : gI s3 9 1 = nI b := by rw [hs3]; exact e1
      have g2 : gI s3 9 2 = nI (1 + mxN S i) := by rw [hs3]; exact e2
      have g3 : gA s3 9 3 = upd (gA r 9 3) i (nI (T i)) := by rw [hs3]; rfl
      have u3 : upd (gA r 9 3) i (nI (T i)) i = nI (T i) := by rw [upd_i, if_pos rfl]
      have uu : ∀ (g : Nat → Int32) (y : Int32), upd g i y i = y := fun g y => by rw [upd_i, if_pos rfl]
      obtain ⟨s5, hs5⟩ : ∃ s', s' = pI (pA (pA (pA s3 9 4 (upd (gA s3 9 4) i (nI (S i)))) 9 5 (upd (gA s3 9 5) i (nI (b * S i + T i)))) 9 6 (upd (gA s3 9 6) i (nI (b * S i + T i)))) 9 2 (mx (nI (1 + mxN S i)) (1 + nI (S i))) := ⟨_, rfl⟩
      have f5 : FrL s s5 := by rw [hs5]; exact (((f3.trans (frL_9A _ _ _)).trans (frL_9A _ _ _)).trans (frL_9A _ _ _)).trans (frL_9I _ _ _)
      obtain ⟨k0, hk0, ek⟩ := kind_nI (hbo i hi).1
      have b3 : gA s5 1 3 = gA s 1 3 := f5.2.1 1 3 (by omega) (by omega)
      have b4 : gA s5 1 4 = gA s 1 4 := f5.2.1 1 4 (by omega) (by omega)
      have b10 : gA s5 10 0 = gA r 10 0 := by rw [hs5, hs3]; rfl
      obtain ⟨f', most, q1, q2, -⟩ := change_in (s := s5) (j := 10) (a := i) (b := b) (k0 := k0) (T := T) (f := gA s5 10 0) (by omega) (by omega) hb1 hb (by omega) hk0 (by rw [b3]; exact ek) (by rw [b4]; exact (hbo i hi).2) (by rw [b3, b4, b10]; exact e4)
      rw [pA_self] at q1
      rw [b3, b4] at q2
      have step : m_X4_settle_L32 (nI i) r = some (.inl (nI (i + 1), pA s5 10 0 f')) := by
        have a4 : gA (pA s3 9 4 (upd (gA s3 9 4) i (nI (S i)))) 9 4 = upd (gA s3 9 4) i (nI (S i)) := rfl
        have a3 : gA (pA s3 9 4 (upd (gA s3 9 4) i (nI (S i)))) 9 3 = gA s3 9 3 := rfl
        have i1 : gI (pA s3 9 4 (upd (gA s3 9 4) i (nI (S i)))) 9 1 = gI s3 9 1 := rfl
        have a5 : gA (pA s3 9 4 (upd (gA s3 9 4) i (nI (S i)))) 9 5 = gA s3 9 5 := rfl
        rw [m_X4_settle_L32, gIk, x1, if_neg (nI_ge hi (by omega)), lAk, if_pos vi, ci, t9, sAk, if_pos vi, ci, ← hs3, w1, clk_some, sAk, if_pos vi, ci, lAk, if_pos vi, ci, a4, uu, gIk, i1, g1, lAk, if_pos vi, ci, a3, g3, u3, eb, sAk, if_pos vi, ci, a5, lAk, if_pos vi, ci]
        show sAk _ 9 6 16 (nI i) (upd (gA s3 9 5) i (nI (b * S i + T i)) i) _ = _
        rw [uu, sAk, if_pos vi, ci, gIk]
        show lAk _ 9 4 16 (nI i) _ = _
        rw [lAk, if_pos vi, ci]
        show sIk _ 9 2 (mx (gI s3 9 2) (1 + upd (gA s3 9 4) i (nI (S i)) i)) _ = _
        rw [uu, g2, sIk]
        have z3 : gA s5 9 3 i = nI (T i) := by
          have : gA s5 9 3 = gA s3 9 3 := by rw [hs5]; rfl
          rw [this, g3, u3]
        have z1 : gI s5 9 1 = nI b := by
          have : gI s5 9 1 = gI s3 9 1 := by rw [hs5]; rfl
          rw [this, g1]
        have fin : (lAk s5 9 3 16 (nI i) fun v23 => gIk s5 9 1 fun v24 => clk (m_X2_change 10 (nI i) v23 v24 1 s5) fun v26 s25 => nmk (nI i + 1) fun a27 => some (.inl (a27, s25)) : Option ((Int32 × Sg) ⊕ (Sg))) = some (.inl (nI (i + 1), pA s5 10 0 f')) := by
          rw [lAk, if_pos vi, ci, gIk, z3, z1, q1, clk_some, nmk, nI_1]
        rw [hs5] at fin ⊢
        exact fin
      have mxl := mxN_le (S := S) (M := 960) (n := i) (fun v hv => (hS v (by omega)).1)
      refine ⟨_, step, pA s5 10 0 f', rfl, f5.trans (frL_10A _ _ _), ?_, ?_, ?_, fun v hv => ?_, q2⟩
      · show gI s5 9 0 = _
        rw [hs5, hs3]; exact e0
      · show gI s5 9 1 = _
        rw [hs5, hs3]; exact e1
      · show gI s5 9 2 = _
        have : gI s5 9 2 = mx (nI (1 + mxN S i)) (1 + nI (S i)) := by rw [hs5]; rfl
        rw [this, show (1 : Int32) + nI (S i) = nI (1 + S i) from nI_add 1 (S i), mx_nI (by omega) (by omega), mxN_s]
        congr 1
        by_cases c : mxN S i < S i
        · rw [if_pos c, if_pos (by omega)]
        · rw [if_neg c, if_neg (by omega)]
      · have y3 : gA (pA s5 10 0 f') 9 3 = upd (gA r 9 3) i (nI (T i)) := by rw [hs5, hs3]; rfl
        have y4 : gA (pA s5 10 0 f') 9 4 = upd (gA r 9 4) i (nI (S i)) := by rw [hs5, hs3]; rfl
        have y5 : gA (pA s5 10 0 f') 9 5 = upd (gA r 9 5) i (nI (b * S i + T i)) := by rw [hs5, hs3]; rfl
        have y6 : gA (pA s5 10 0 f') 9 6 = upd (gA r 9 6) i (nI (b * S i + T i)) := by rw [hs5, hs3]; rfl
        rw [y3, y4, y5, y6, upd_i, upd_i, upd_i, upd_i]
        by_cases c : v = i
        · subst c
          rw [if_pos rfl, if_pos rfl, if_pos rfl, if_pos rfl]
          exact ⟨rfl, rfl, rfl, rfl⟩
        · rw [if_neg c, if_neg c, if_neg c, if_neg c]
          exact e3 v (by omega)) (by
      rintro q ⟨r, rfl, f, e0, e1, e2, e3, e4⟩
      refine ⟨.inr r, ?_, f, e0, e1, e2, e3, e4⟩
      have x1 : gI r 1 0 = nI n := (f.1 1 0 (by omega)).trans hx
      simp only [m_X4_settle_L32, gIk, x1, if_pos (Int32.le_refl _)]) FU 0 (nI 0, s) (by omega) (FU_lt (by omega)) ⟨s, rfl, FrL.refl s, rfl, h91, by rw [h92]; rfl, fun v hv => absurd hv (Nat.not_lt_zero v), fun k t hk ht => by rw [h10 _ (by omega)]; rfl⟩
  exact hI
