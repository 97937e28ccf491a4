-- 99i.run: laid runs whole; the call run
theorem mxN_ge {S : Nat → Nat} : ∀ {n a : Nat}, a < n → S a ≤ mxN S n
  | 0, a, h => absurd h (Nat.not_lt_zero a)
  | n + 1, a, h => by
    rw [mxN_s]
    by_cases c : a = n
    · subst c
      split <;> omega
    · have := mxN_ge (S := S) (n := n) (a := a) (by omega)
      split <;> omega
theorem lastM_eq {s : Sg} {n : Nat} {B : Nat → Nat} (hn : n ≤ 16) (hx : gI s 0 9 = nI n) (hB : ∀ a, a < n → gA s 0 30 a = nI (B a) ∧ B a ≤ 60000) (x1 x2 : Int32) : lp (fun r : (Int32 × Int32 × Sg) => m_X12_laid_L10 x1 x2 r.1 r.2.1 r.2.2) FU (0, 0, s) = some (nI (mxN B n), s) := by
  have hI := ok_for (step := fun r : (Int32 × Int32 × Sg) => m_X12_laid_L10 x1 x2 r.1 r.2.1 r.2.2) (Q := fun r => r = (nI (mxN B n), s)) n (fun i r => r = (nI (mxN B i), nI i, s)) (by
      rintro i r hi rfl
      have vi : vpb (nI i) 16 = true := vpb_nI (by omega) (by omega)
      have ci := nI_clamp (show i < 2 ^ 31 by omega)
      obtain ⟨s1, s2⟩ := hB i hi
      have mb := mxN_le (S := B) (M := 60000) (n := i) (fun v hv => (hB v (by omega)).2)
      refine ⟨.inl (nI (mxN B (i + 1)), nI (i + 1), s), ?_, rfl⟩
      show m_X12_laid_L10 x1 x2 (nI (mxN B i)) (nI i) s = _
      rw [m_X12_laid_L10, gIk, hx, if_neg (nI_ge hi (by omega)), lAk, if_pos vi, ci, s1, mxN_s]
      by_cases c : mxN B i < B i
      · rw [if_pos c, if_neg (nI_ge c (by omega)), lAk, if_pos vi, ci, s1, nmk, nmk, nI_1]
      · have c' : nI (B i) ≤ nI (mxN B i) := by rw [fx_le, nI_toInt (by omega), nI_toInt (by omega)]; omega
        rw [if_neg c, if_pos c', nmk, nmk, nI_1]) (by
      rintro r rfl
      refine ⟨.inr (nI (mxN B n), s), ?_, rfl⟩
      show m_X12_laid_L10 x1 x2 (nI (mxN B n)) (nI n) s = _
      rw [m_X12_laid_L10, gIk, hx, if_pos (Int32.le_refl _)]) FU 0 (0, 0, s) (by omega) (FU_lt (by omega)) rfl
  obtain ⟨r, hr, rfl⟩ := hI
  exact hr
theorem laid_eq {sx0 sm0 : Sg} {n j K b : Nat} {B T S : Nat → Nat} (hj : j = 14 ∨ j = 15 ∨ j = 16) (hC : RunC sx0 sm0 n) (hL : LayC sx0 sm0 n b B T S) (hO : RowL (gA sx0 9 10) (ordL b T n)) (h92 : gI sx0 9 2 = nI (1 + mxN S n)) (hK : K ≤ 200) (hKs : 1 + mxN S n ≤ K) {sx sm : Sg} (h : PJ j sx0 sm0 sx sm n 0 0) : ∃ sx' sm' c, m_X7_goByTicks j (nI K) sx = some ((), sx') ∧ m_X12_laid (nI K) sm = some ((), sm') ∧ EJ j sx0 sm0 sx' (pI sm' 0 43 1) n K c := by
  have hn := hC.2.2.2.2.1
  have hn0 := hC.2.2.2.2.2.1
  obtain ⟨⟨b1, b2, b3, b4⟩, l1, ledge⟩ := id hL
  obtain ⟨f, g, e, p3, p4, p5, p0, q0, p1, p2, p6⟩ := h
  have hS960 := mxN_le (S := S) (M := 960) (n := n) (fun v hv => (l1 v hv).2.1)
  have hBv : ∀ a, a < n → B a ≤ b * (1 + mxN S n) - 1 := fun a ha => by
    obtain ⟨t1, t2, t3, t4, t5, t6⟩ := l1 a ha
    have := Nat.mul_le_mul_left b (mxN_ge (S := S) ha)
    rw [Nat.mul_add, Nat.mul_one]
    omega
  have mst : b * (1 + mxN S n) ≤ 57660 := by have := Nat.mul_le_mul b2 (show 1 + mxN S n ≤ 961 by omega); omega
  have mst1 : 1 ≤ b * (1 + mxN S n) := Nat.mul_pos (by omega) (by omega)
  have hB6 : ∀ a, a < n → B a ≤ 60000 := fun a ha => by have := hBv a ha; omega
  have hlast := mxN_le (S := B) (M := b * (1 + mxN S n) - 1) (n := n) hBv
  obtain ⟨last, hla⟩ : ∃ l, l = mxN B n := ⟨_, rfl⟩
  rw [← hla] at hlast
  have mK : b * (K - 1) ≤ 12000 := by have := Nat.mul_le_mul b2 (show K - 1 ≤ 200 by omega); omega
  have hln : ∀ a u, a < n → u < K → B a + u * b ≤ last + b * (K - 1) := fun a u ha hu => by
    have m1 := mxN_ge (S := B) ha
    have m2 := Nat.mul_le_mul_right b (show u ≤ K - 1 by omega)
    rw [Nat.mul_comm (K - 1) b] at m2
    omega
  have hE : (K + (1 + mxN S n) - 1) * b = b * (K - 1) + b * (1 + mxN S n) := by
    rw [← Nat.mul_add, Nat.mul_comm]
    congr 1
    omega
  -- the start
  have h0 : LJ j sx0 sm0 (pI sx j 5 1) sm n K b B (0 * b) 0 (16 * K) := by
    have z : ∀ k, k ≠ 5 → gI (pI sx j 5 1) j k = gI sx j k := fun k hk => by rw [gI_pI, if_pos rfl, if_neg hk]
    refine ⟨f.trans (frR_I j _ _ _), g, ⟨e.1, fun x u hd => ?_, e.2.2⟩, ?_, ?_, ?_, ?_, ?_, ?_, Or.inl ⟨?_, rfl⟩⟩
    · obtain ⟨d1, d2, d3, d4⟩ := hd
      unfold bfr at d3
      omega
    · rw [z 3 (by omega)]; exact p3
    · rw [z 4 (by omega)]; exact p4
    · rw [z 1 (by omega)]; exact p1
    · rw [z 2 (by omega)]; exact p2
    · rw [z 0 (by omega), p0, q0]
    · rw [gI_pI, if_pos rfl, if_pos rfl]
    · rw [z 0 (by omega)]; exact p0
  obtain ⟨sx', sm', lim, m, k1, k2, k3, k4⟩ := all_go hj hC hL hO (show 1 ≤ K by omega) hK (show 1 + mxN S n ≤ 961 by omega) (by omega) h92 (show last ≤ 60000 by omega) hln (K + (1 + mxN S n) - 1) 0 (pI sx j 5 1) sm (16 * K) FU (by omega) (FU_lt (by omega)) h0
  have hm : m ≤ 70000 := by
    rw [hE] at k2
    omega
  have k1' : lp (fun s : (Int32 × Sg) => m_X7_goByTicks_L7 j (nI K) s.1 s.2) FU (0, pI sx j 5 1) = some sx' := k1
  have X1 : m_X7_goByTicks j (nI K) sx = some ((), sx') := by
    rw [m_X7_goByTicks, sIk, nmk, lpk, k1']
  have e27 : gI sm' 0 27 = nI b := (k4.2.1.1 27 (by omega)).trans b4
  have eln : nI last + nI b * (nI K - 1) = nI (last + b * (K - 1)) := by rw [nI_prd (by omega) (by omega), pk_mul, nI_add]
  have Ml : lp (fun s : (Int32 × Int32 × Sg) => m_X12_laid_L51 (nI K) (nI last) s.1 s.2.1 s.2.2) FU (nI (16 * K), 0, sm) = some sm' := by
    have hk2 : m + 1 < FU := FU_lt (by omega)
    have r := k3 (FU - m)
    rw [show FU - m + m = FU by omega] at r
    have m0 : min (0 * b) (last + b * (K - 1) + 1) = 0 := by omega
    have m1 : min ((K + (1 + mxN S n) - 1) * b) (last + b * (K - 1) + 1) = last + b * (K - 1) + 1 := by rw [hE]; omega
    rw [m0, m1] at r
    refine (show lp (fun s : (Int32 × Int32 × Sg) => m_X12_laid_L51 (nI K) (nI last) s.1 s.2.1 s.2.2) FU (nI (16 * K), 0, sm) = lp _ (FU - m) _ from r).trans ?_
    rw [show FU - m = (FU - m - 1) + 1 by omega]
    refine lp_end ?_
    show m_X12_laid_L51 (nI K) (nI last) (nI lim) (nI (last + b * (K - 1) + 1)) sm' = _
    rw [m_X12_laid_L51, gIk, e27, eln, if_pos (nI_lt (by omega) (by omega))]
  have e9 : gI sm 0 9 = nI n := (g.1 9 (by omega)).trans hC.2.2.1
  have l10 := lastM_eq (s := sm) (n := n) (B := B) hn e9 (fun a ha => ⟨by rw [g.2.1 30]; exact (l1 a ha).2.2.2.2.1, hB6 a ha⟩) (nI K) (nI (16 * K))
  rw [← hla] at l10
  have e16 : 16 * nI K = nI (16 * K) := by rw [show (16 : Int32) = nI 16 from rfl, pk_mul]
  have M0 : m_X12_laid (nI K) sm = gIk sm' 0 38 fun v41 => if v41 = 0 then (sIk sm' 0 44 (nI K) fun s44 => some ((), s44)) else gIk sm' 0 40 fun v42 => sIk sm' 0 44 v42 fun s43 => some ((), s43) := by
    rw [m_X12_laid, e16, nmk, nmk, nmk, lpk, l10]
    show (lpk (fun s : (Int32 × Int32 × Sg) => m_X12_laid_L51 (nI K) (nI last) s.1 s.2.1 s.2.2) FU (nI (16 * K), 0, sm) fun r40 => _) = _
    rw [lpk, Ml]
  obtain ⟨f', g', e', y3, y4, y1, y2, y0, y5, q⟩ := k4
  have dn : ∀ c, c ≤ K → (∀ x u, x < n → u < c → 16 * u + x < lim) → JEf (gA sm0 0 23) (gL sm0 0 7) (gL sx' 5 2) (gL sm' 0 21) (gL sx' 13 3) (gL sm' 0 37) (fun x u => x < n ∧ u < c) := fun c hc hlim => ⟨e'.1, fun x u hd => e'.2.1 x u ⟨hd.1, by have := hd.2; omega, by
      unfold bfr
      left
      have := hln x u hd.1 (by have := hd.2; omega)
      rw [hE]
      omega, hlim x u hd.1 hd.2⟩, e'.2.2⟩
  rcases q with ⟨q1, q2⟩ | ⟨a', t', q1, q2, q3, q4, q5, q6, q7⟩
  · have z0 : gI sm' 0 38 = 0 := by rw [← y0]; exact q1
    refine ⟨sx', pI sm' 0 44 (nI K), K, X1, ?_, Nat.le_refl _, f', (g'.trans (frN_I _ (by omega) _)).trans (frN_I _ (by omega) _), dn K (Nat.le_refl _) (fun x u hx hu => by omega), y3, y4, y5, y0, y1, y2, rfl, Or.inl ⟨q1, rfl⟩⟩
    rw [M0, gIk, if_pos z0, sIk]
  · have z0 : ¬ gI sm' 0 38 = 0 := by rw [← y0]; exact q1
    have z2 : gI sm' 0 40 = nI t' := by rw [← y2]; exact q3
    refine ⟨sx', pI sm' 0 44 (nI t'), t', X1, ?_, by omega, f', (g'.trans (frN_I _ (by omega) _)).trans (frN_I _ (by omega) _), dn t' (by omega) (fun x u hx hu => by omega), y3, y4, y5, y0, y1, y2, rfl, Or.inr ⟨q1, q3⟩⟩
    rw [M0, gIk, if_neg z0, gIk, z2, sIk]
