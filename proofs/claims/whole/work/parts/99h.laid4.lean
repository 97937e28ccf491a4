-- 99h.laid4: a whole laid run on both sides
section L4
variable {sx0 sm0 : Sg} {n j K b : Nat} {B T S : Nat → Nat}
theorem x_none {sx sm : Sg} {now a lim bt i : Nat} (hC : RunC sx0 sm0 n) (hj : j = 14 ∨ j = 15 ∨ j = 16) (hL : LayC sx0 sm0 n b B T S) (hK : K ≤ 200) (hbt : bt ≤ 2000) (hnow : now = bt * b + T a) (ha : a < n) (hi : i < n) (hO : gA sx0 9 10 i = nI a) (h : LJ j sx0 sm0 sx sm n K b B now a lim) (hno : ∀ u, u < K → ¬ B a + u * b = now) : m_X7_goByTicks_L25 j (nI K) (nI bt) (nI i) sx = some (.inl (nI (i + 1), sx)) := by
  obtain ⟨hB, hx1, hm9, hlag, hn, hn0, hops⟩ := id hC
  obtain ⟨⟨b1, b2, b3, b4⟩, l1, ledge⟩ := hL
  obtain ⟨t1, t2, t3, t4, t5, t6⟩ := l1 a ha
  have va : vpb (nI a) 16 = true := vpb_nI (by omega) (by omega)
  have ca := nI_clamp (show a < 2 ^ 31 by omega)
  have vi : vpb (nI i) 16 = true := vpb_nI (by omega) (by omega)
  have ci := nI_clamp (show i < 2 ^ 31 by omega)
  have ex1 : gI sx 1 0 = nI n := (h.1.1 1 0 (by omega)).trans hx1
  have eo : gA sx 9 10 i = nI a := by rw [h.1.2.1 9 10]; exact hO
  have e94 : gA sx 9 4 a = nI (S a) := by rw [h.1.2.1 9 4]; exact t4
  have edx : (nI bt - nI (S a)).toInt = (bt : Int) - (S a : Int) := by
    rw [fx_sub (by rw [nI_toInt (by omega), nI_toInt (by omega)]; omega) (by rw [nI_toInt (by omega), nI_toInt (by omega)]; omega), nI_toInt (by omega), nI_toInt (by omega)]
  rw [m_X7_goByTicks_L25, gIk, ex1, if_neg (nI_ge hi (by omega)), lAk, if_pos vi, ci, eo, nmk, lAk, if_pos va, ca, e94, nmk]
  by_cases c : bt < S a
  · have c' : nI bt - nI (S a) < 0 := by rw [fx_lt, ti_0, edx]; omega
    rw [if_pos c', nmk, nI_1]
  · obtain ⟨t, ht⟩ : ∃ t, bt = S a + t := ⟨bt - S a, by omega⟩
    have hnt : B a + t * b = now := by
      rw [hnow, t6, ht, Nat.add_mul, Nat.mul_comm b (S a)]
      omega
    have hKt : K ≤ t := Nat.le_of_not_lt fun q => hno t q hnt
    have esx : nI bt - nI (S a) = nI t := by rw [fx_eq, edx, nI_toInt (by omega)]; omega
    have c' : ¬ nI t < 0 := by rw [fx_lt, ti_0, nI_toInt (by omega)]; omega
    have c2 : nI K ≤ nI t := by rw [fx_le, nI_toInt (by omega), nI_toInt (by omega)]; omega
    rw [esx, if_neg c', if_pos c2, nmk, nI_1]
theorem tick_x (hj : j = 14 ∨ j = 15 ∨ j = 16) (hC : RunC sx0 sm0 n) (hL : LayC sx0 sm0 n b B T S) (hO : RowL (gA sx0 9 10) (ordL b T n)) (hK : K ≤ 200) {bt r : Nat} (hbt : bt ≤ 2000) (hr : r < b) (hno : ∀ a u, a < n → u < K → ¬ B a + u * b = bt * b + r) {sx sm : Sg} {lim : Nat} : ∀ (d a : Nat), a + d = n → LJ j sx0 sm0 sx sm n K b B (bt * b + r) a lim → ∃ k, k ≤ d ∧ Rc (fun s : (Int32 × Sg) => m_X7_goByTicks_L25 j (nI K) (nI bt) s.1 s.2) (nI (ordP r a T n).length, sx) (nI (ordP r n T n).length, sx) k ∧ LJ j sx0 sm0 sx sm n K b B (bt * b + r) n lim := by
  intro d
  induction d with
  | zero =>
    intro a e h
    have ea : a = n := by omega
    subst ea
    exact ⟨0, Nat.le_refl _, Rc.refl _ _, h⟩
  | succ d ih =>
    intro a e h
    have ha : a < n := by omega
    obtain ⟨k, hk, r1, r2⟩ := ih (a + 1) (by omega) (lj_skip h (fun u hu q => absurd q (hno a u ha hu)))
    by_cases c : T a = r
    · obtain ⟨o1, o2⟩ := ord_at hO (fun v hv => (hL.2.1 v hv).1) hr ha c
      have k1 := x_none hC hj hL hK hbt (show bt * b + r = bt * b + T a by rw [c]) ha o1 o2 h (fun u hu => hno a u ha hu)
      have el : (ordP r (a + 1) T n).length = (ordP r a T n).length + 1 := by rw [ordP_s, if_pos c, List.length_append]; rfl
      rw [el] at r1
      exact ⟨1 + k, by omega, Rc.trans (Rc.one (by exact k1)) r1, r2⟩
    · have el : ordP r (a + 1) T n = ordP r a T n := by rw [ordP_s, if_neg c]
      rw [el] at r1
      exact ⟨k, by omega, r1, r2⟩
theorem beat_go (hj : j = 14 ∨ j = 15 ∨ j = 16) (hC : RunC sx0 sm0 n) (hL : LayC sx0 sm0 n b B T S) (hO : RowL (gA sx0 9 10) (ordL b T n)) (hK1 : 1 ≤ K) (hK : K ≤ 200) {bt last : Nat} (hbt : bt ≤ 2000) (hla : last ≤ 60000) (hln : ∀ a u, a < n → u < K → B a + u * b ≤ last + b * (K - 1)) : ∀ (d r : Nat) (sx sm : Sg) (lim : Nat), r + d = b → LJ j sx0 sm0 sx sm n K b B (bt * b + r) 0 lim → ∃ sx' sm' lim' k m, k ≤ 16 * d ∧ m ≤ d ∧ Rc (fun s : (Int32 × Sg) => m_X7_goByTicks_L25 j (nI K) (nI bt) s.1 s.2) (nI (ordL r T n).length, sx) (nI (ordL b T n).length, sx') k ∧ Rc (fun s : (Int32 × Int32 × Sg) => m_X12_laid_L51 (nI K) (nI last) s.1 s.2.1 s.2.2) (nI lim, nI (min (bt * b + r) (last + b * (K - 1) + 1)), sm) (nI lim', nI (min (bt * b + b) (last + b * (K - 1) + 1)), sm') m ∧ LJ j sx0 sm0 sx' sm' n K b B (bt * b + b) 0 lim' := by
  have hn := hC.2.2.2.2.1
  obtain ⟨b1, b2, b3, b4⟩ := hL.1
  have mulb : bt * b ≤ 120000 := by have := Nat.mul_le_mul hbt b2; omega
  have mulK : b * (K - 1) ≤ 12000 := by have := Nat.mul_le_mul b2 (show K - 1 ≤ 200 by omega); omega
  intro d
  induction d with
  | zero =>
    intro r sx sm lim e h
    have er : r = b := by omega
    subst er
    exact ⟨sx, sm, lim, 0, 0, Nat.le_refl _, Nat.le_refl _, Rc.refl _ _, Rc.refl _ _, h⟩
  | succ d ih =>
    intro r sx sm lim e h
    have hr : r < b := by omega
    by_cases c : bt * b + r ≤ last + b * (K - 1)
    · obtain ⟨sx1, sm1, lim1, k, hk, r1, r2, r3⟩ := tick_go hj hC hL hO hK hbt hr (nI K) (nI last) n 0 sx sm lim FU (by omega) (FU_lt (by omega)) h
      obtain ⟨sx', sm', lim', k', m', hk', hm', q1, q2, q3⟩ := ih (r + 1) sx1 sm1 lim1 (by omega) (lj_tick r3)
      rw [ordP_0, ordP_n] at r1
      have r2' : lp (fun s : (Int32 × Int32 × Sg) => m_X12_laid_L69 (nI K) (nI last) (nI (bt * b + r)) s.1 s.2.1 s.2.2) FU (nI lim, 0, sm) = some (nI lim1, sm1) := r2
      have e27 : gI sm 0 27 = nI b := (h.2.1.1 27 (by omega)).trans b4
      have eln : nI last + nI b * (nI K - 1) = nI (last + b * (K - 1)) := by rw [nI_prd hK1 (by omega), pk_mul, nI_add]
      have M1 : m_X12_laid_L51 (nI K) (nI last) (nI lim) (nI (bt * b + r)) sm = some (.inl (nI lim1, nI (bt * b + r + 1), sm1)) := by
        rw [m_X12_laid_L51, gIk, e27, eln, if_neg (nI_nlt (by omega) (by omega)), nmk, lpk, r2', ← nI_1]
        rfl
      have m1 : min (bt * b + r) (last + b * (K - 1) + 1) = bt * b + r := by omega
      have m2 : min (bt * b + (r + 1)) (last + b * (K - 1) + 1) = bt * b + r + 1 := by omega
      rw [m2] at q2
      refine ⟨sx', sm', lim', k + k', 1 + m', by omega, by omega, Rc.trans r1 q1, ?_, q3⟩
      rw [m1]
      exact Rc.trans (Rc.one (by exact M1)) q2
    · obtain ⟨k, hk, r1, r2⟩ := tick_x hj hC hL hO hK hbt hr (fun a u ha hu q => by have := hln a u ha hu; omega) n 0 (by omega) h
      obtain ⟨sx', sm', lim', k', m', hk', hm', q1, q2, q3⟩ := ih (r + 1) sx sm lim (by omega) (lj_tick r2)
      rw [ordP_0, ordP_n] at r1
      have m1 : min (bt * b + (r + 1)) (last + b * (K - 1) + 1) = min (bt * b + r) (last + b * (K - 1) + 1) := by omega
      rw [m1] at q2
      exact ⟨sx', sm', lim', k + k', m', by omega, by omega, Rc.trans r1 q1, q2, q3⟩
theorem all_go (hj : j = 14 ∨ j = 15 ∨ j = 16) (hC : RunC sx0 sm0 n) (hL : LayC sx0 sm0 n b B T S) (hO : RowL (gA sx0 9 10) (ordL b T n)) (hK1 : 1 ≤ K) (hK : K ≤ 200) {st last : Nat} (hst : st ≤ 961) (hst1 : 1 ≤ st) (h92 : gI sx0 9 2 = nI st) (hla : last ≤ 60000) (hln : ∀ a u, a < n → u < K → B a + u * b ≤ last + b * (K - 1)) : ∀ (d bt : Nat) (sx sm : Sg) (lim N : Nat), bt + d = K + st - 1 → d < N → LJ j sx0 sm0 sx sm n K b B (bt * b) 0 lim → ∃ sx' sm' lim' m, lp (fun s : (Int32 × Sg) => m_X7_goByTicks_L7 j (nI K) s.1 s.2) N (nI bt, sx) = some sx' ∧ m ≤ d * b ∧ Rc (fun s : (Int32 × Int32 × Sg) => m_X12_laid_L51 (nI K) (nI last) s.1 s.2.1 s.2.2) (nI lim, nI (min (bt * b) (last + b * (K - 1) + 1)), sm) (nI lim', nI (min ((K + st - 1) * b) (last + b * (K - 1) + 1)), sm') m ∧ LJ j sx0 sm0 sx' sm' n K b B ((K + st - 1) * b) 0 lim' := by
  have hn := hC.2.2.2.2.1
  obtain ⟨b1, b2, b3, b4⟩ := hL.1
  have eE : nI K + nI st - 1 = nI (K + st - 1) := by rw [nI_add, nI_prd (by omega) (by omega)]
  intro d
  induction d with
  | zero =>
    intro bt sx sm lim N e hN h
    obtain ⟨N, rfl⟩ : ∃ M, N = M + 1 := ⟨N - 1, by omega⟩
    have eb : bt = K + st - 1 := by omega
    rw [eb] at h
    refine ⟨sx, sm, lim, 0, lp_end ?_, Nat.zero_le _, by rw [eb]; exact Rc.refl _ _, h⟩
    show m_X7_goByTicks_L7 j (nI K) (nI bt) sx = _
    rw [m_X7_goByTicks_L7, gIk, h.1.1 9 2 (by omega), h92, eE, eb, if_pos (Int32.le_refl _)]
  | succ d ih =>
    intro bt sx sm lim N e hN h
    obtain ⟨N, rfl⟩ : ∃ M, N = M + 1 := ⟨N - 1, by omega⟩
    obtain ⟨sx1, sm1, lim1, k, m, hk, hm, r1, r2, r3⟩ := beat_go hj hC hL hO hK1 hK (show bt ≤ 2000 by omega) hla hln b 0 sx sm lim (by omega) h
    have hb1 : (bt + 1) * b = bt * b + b := by rw [Nat.add_mul, Nat.one_mul]
    obtain ⟨sx', sm', lim', m', q1, q2, q3, q4⟩ := ih (bt + 1) sx1 sm1 lim1 N (by omega) (by omega) (by rw [hb1]; exact r3)
    have hfull := ord_full (T := T) (n := n) (b := b) (fun v hv => (hL.2.1 v hv).1)
    rw [hfull] at r1
    have hin : lp (fun s : (Int32 × Sg) => m_X7_goByTicks_L25 j (nI K) (nI bt) s.1 s.2) FU (0, sx) = some sx1 := by
      have hk2 : k + 1 ≤ FU := by
        have : k + 1 < FU := FU_lt (by omega)
        omega
      have r := r1 (FU - k)
      rw [show FU - k + k = FU by omega] at r
      have r' : lp (fun s : (Int32 × Sg) => m_X7_goByTicks_L25 j (nI K) (nI bt) s.1 s.2) FU (0, sx) = lp (fun s : (Int32 × Sg) => m_X7_goByTicks_L25 j (nI K) (nI bt) s.1 s.2) (FU - k) (nI n, sx1) := r
      rw [r', show FU - k = (FU - k - 1) + 1 by omega]
      refine lp_end ?_
      show m_X7_goByTicks_L25 j (nI K) (nI bt) (nI n) sx1 = _
      rw [m_X7_goByTicks_L25, gIk, r3.1.1 1 0 (by omega), hC.2.1, if_pos (Int32.le_refl _)]
    have X1 : m_X7_goByTicks_L7 j (nI K) (nI bt) sx = some (.inl (nI (bt + 1), sx1)) := by
      rw [m_X7_goByTicks_L7, gIk, h.1.1 9 2 (by omega), h92, eE, if_neg (nI_ge (show bt < K + st - 1 by omega) (by omega)), nmk, lpk, hin, ← nI_1]
      rfl
    rw [hb1] at q3
    refine ⟨sx', sm', lim', m + m', ?_, ?_, Rc.trans r2 q3, q4⟩
    · rw [lp_next (s' := (nI (bt + 1), sx1)) (by exact X1)]
      exact q1
    · rw [Nat.add_mul, Nat.one_mul]
      omega
end L4
