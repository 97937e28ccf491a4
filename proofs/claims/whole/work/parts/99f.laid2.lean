-- 99f.laid2: the steps of both loops of a laid run
theorem tb_div {t b : Nat} (hb1 : 1 ≤ b) (hb : b ≤ 60) (h : t * b < 1000000) (ht : t < 100000) : nI (t * b) / nI b = nI t := by
  have e1 : (nI (t * b) / nI b).toInt = ((t * b : Nat) : Int) / (b : Int) := by
    rw [fx_div (by rw [nI_toInt (by omega)]; omega) (by rw [nI_toInt (by omega)]; omega), nI_toInt (by omega), nI_toInt (by omega)]
  have e2 : ((t * b : Nat) : Int) / (b : Int) = (t : Int) := by
    rw [← Int.natCast_ediv, Nat.mul_div_cancel _ (by omega)]
  rw [fx_eq, e1, e2, nI_toInt (by omega)]
section L2
variable {sx0 sm0 : Sg} {n j K b : Nat} {B T S : Nat → Nat}
/-- what a laid run needs of the laying -/
def LayC (sx0 sm0 : Sg) (n b : Nat) (B T S : Nat → Nat) : Prop := (1 ≤ b ∧ b ≤ 60 ∧ gI sx0 9 1 = nI b ∧ gI sm0 0 27 = nI b) ∧ (∀ a, a < n → T a < b ∧ S a ≤ 960 ∧ gA sx0 9 3 a = nI (T a) ∧ gA sx0 9 4 a = nI (S a) ∧ gA sm0 0 30 a = nI (B a) ∧ B a = b * S a + T a) ∧ ∀ a w, a < n → w < 3 → 0 ≤ (gA sm0 0 5 (3 * a + w)).toInt → B (gA sm0 0 5 (3 * a + w)).toNatClampNeg + 1 ≤ B a + b * (gA sm0 0 6 (3 * a + w)).toNatClampNeg
theorem m_none {sx sm : Sg} {now a lim bt r : Nat} (hC : RunC sx0 sm0 n) (hL : LayC sx0 sm0 n b B T S) (hbt : bt ≤ 2000) (hr : r < b) (hnow : now = bt * b + r) (ha : a < n) (hTa : ¬ T a = r) (h : LJ j sx0 sm0 sx sm n K b B now a lim) (x1 x3 : Int32) : m_X12_laid_L69 x1 x3 (nI now) (nI lim) (nI a) sm = some (.inl (nI lim, nI (a + 1), sm)) ∧ LJ j sx0 sm0 sx sm n K b B now (a + 1) lim := by
  obtain ⟨-, hx1, hm9, -, hn, -, -⟩ := hC
  obtain ⟨⟨b1, b2, b3, b4⟩, l1, -⟩ := hL
  obtain ⟨t1, t2, t3, t4, t5, t6⟩ := l1 a ha
  have mulb : bt * b ≤ 120000 := by have := Nat.mul_le_mul hbt b2; omega
  have mulS : b * S a ≤ 57600 := by have := Nat.mul_le_mul b2 t2; omega
  have va : vpb (nI a) 16 = true := vpb_nI (by omega) (by omega)
  have ca := nI_clamp (show a < 2 ^ 31 by omega)
  have e9 : gI sm 0 9 = nI n := (h.2.1.1 9 (by omega)).trans hm9
  have e27 : gI sm 0 27 = nI b := (h.2.1.1 27 (by omega)).trans b4
  have e30 : gA sm 0 30 a = nI (B a) := by rw [h.2.1.2.1 30]; exact t5
  have nou : ∀ u, ¬ B a + u * b = now := fun u q => by
    have m1 : (B a + u * b) % b = T a := by
      rw [t6, show b * S a + T a + u * b = T a + b * (S a + u) by rw [Nat.mul_add, Nat.mul_comm u b]; omega, Nat.add_mul_mod_self_left, Nat.mod_eq_of_lt t1]
    have m2 : now % b = r := by
      rw [hnow, show bt * b + r = r + b * bt by rw [Nat.mul_comm]; omega, Nat.add_mul_mod_self_left, Nat.mod_eq_of_lt hr]
    rw [q, m2] at m1
    exact hTa m1.symm
  refine ⟨?_, lj_skip h (fun u _ q => absurd q (nou u))⟩
  rw [m_X12_laid_L69, gIk, e9, if_neg (nI_ge ha (by omega)), lAk, if_pos va, ca, e30, nmk]
  have ed : (nI now - nI (B a)).toInt = (now : Int) - (B a : Int) := by
    rw [fx_sub (by rw [nI_toInt (by omega), nI_toInt (by omega)]; omega) (by rw [nI_toInt (by omega), nI_toInt (by omega)]; omega), nI_toInt (by omega), nI_toInt (by omega)]
  by_cases c : now < B a
  · have c' : nI now - nI (B a) < 0 := by rw [fx_lt, ti_0, ed]; omega
    rw [if_pos c', nmk, nI_1]
  · have c' : ¬ nI now - nI (B a) < 0 := by rw [fx_lt, ti_0, ed]; omega
    have es : nI now - nI (B a) = nI (now - B a) := by rw [fx_eq, ed, nI_toInt (by omega)]; omega
    have nb0 : ¬ nI b = 0 := nI_ne0 (by omega) (by omega)
    have hm : ¬ nI ((now - B a) % b) = 0 := by
      refine nI_ne0 (Nat.pos_of_ne_zero fun q => ?_) (by have := Nat.mod_lt (now - B a) (show 0 < b by omega); omega)
      have := Nat.div_add_mod (now - B a) b
      rw [q, Nat.add_zero] at this
      exact nou ((now - B a) / b) (by rw [Nat.mul_comm]; omega)
    rw [if_neg c', gIk, e27, dvk, if_neg nb0, es, nI_mod b1 b2 (by omega), if_neg hm, nmk, nI_1]
theorem both_step {sx sm : Sg} {now a lim bt i : Nat} (hj : j = 14 ∨ j = 15 ∨ j = 16) (hC : RunC sx0 sm0 n) (hL : LayC sx0 sm0 n b B T S) (hK : K ≤ 200) (hbt : bt ≤ 2000) (hnow : now = bt * b + T a) (ha : a < n) (hi : i < n) (hO : gA sx0 9 10 i = nI a) (h : LJ j sx0 sm0 sx sm n K b B now a lim) (x1 x3 : Int32) : ∃ sx' sm' lim', m_X7_goByTicks_L25 j (nI K) (nI bt) (nI i) sx = some (.inl (nI (i + 1), sx')) ∧ m_X12_laid_L69 x1 x3 (nI now) (nI lim) (nI a) sm = some (.inl (nI lim', nI (a + 1), sm')) ∧ LJ j sx0 sm0 sx' sm' n K b B now (a + 1) lim' := by
  obtain ⟨hB, hx1, hm9, hlag, hn, hn0, hops⟩ := id hC
  obtain ⟨⟨b1, b2, b3, b4⟩, l1, ledge⟩ := hL
  obtain ⟨t1, t2, t3, t4, t5, t6⟩ := l1 a ha
  have mulb : bt * b ≤ 120000 := by have := Nat.mul_le_mul hbt b2; omega
  have mulS : b * S a ≤ 57600 := by have := Nat.mul_le_mul b2 t2; omega
  have va : vpb (nI a) 16 = true := vpb_nI (by omega) (by omega)
  have ca := nI_clamp (show a < 2 ^ 31 by omega)
  have vi : vpb (nI i) 16 = true := vpb_nI (by omega) (by omega)
  have ci := nI_clamp (show i < 2 ^ 31 by omega)
  have e9 : gI sm 0 9 = nI n := (h.2.1.1 9 (by omega)).trans hm9
  have e27 : gI sm 0 27 = nI b := (h.2.1.1 27 (by omega)).trans b4
  have e30 : gA sm 0 30 a = nI (B a) := by rw [h.2.1.2.1 30]; exact t5
  have ex1 : gI sx 1 0 = nI n := (h.1.1 1 0 (by omega)).trans hx1
  have eo : gA sx 9 10 i = nI a := by rw [h.1.2.1 9 10]; exact hO
  have e94 : gA sx 9 4 a = nI (S a) := by rw [h.1.2.1 9 4]; exact t4
  have nb0 : ¬ nI b = 0 := nI_ne0 (by omega) (by omega)
  have llim := lim_le2 hn h
  have edm : (nI now - nI (B a)).toInt = (now : Int) - (B a : Int) := by
    rw [fx_sub (by rw [nI_toInt (by omega), nI_toInt (by omega)]; omega) (by rw [nI_toInt (by omega), nI_toInt (by omega)]; omega), nI_toInt (by omega), nI_toInt (by omega)]
  have edx : (nI bt - nI (S a)).toInt = (bt : Int) - (S a : Int) := by
    rw [fx_sub (by rw [nI_toInt (by omega), nI_toInt (by omega)]; omega) (by rw [nI_toInt (by omega), nI_toInt (by omega)]; omega), nI_toInt (by omega), nI_toInt (by omega)]
  by_cases c : bt < S a
  · -- its first turn comes later
    have hlt : now < B a := by
      rw [hnow, t6]
      have := Nat.mul_le_mul_left b (show bt + 1 ≤ S a from c)
      rw [Nat.mul_add, Nat.mul_comm b bt] at this
      omega
    refine ⟨sx, sm, lim, ?_, ?_, lj_skip h (fun u _ q => by omega)⟩
    · have c' : nI bt - nI (S a) < 0 := by rw [fx_lt, ti_0, edx]; omega
      rw [m_X7_goByTicks_L25, gIk, ex1, if_neg (nI_ge hi (by omega)), lAk, if_pos vi, ci, eo, nmk, lAk, if_pos va, ca, e94, nmk, if_pos c', nmk, nI_1]
    · have c' : nI now - nI (B a) < 0 := by rw [fx_lt, ti_0, edm]; omega
      rw [m_X12_laid_L69, gIk, e9, if_neg (nI_ge ha (by omega)), lAk, if_pos va, ca, e30, nmk, if_pos c', nmk, nI_1]
  obtain ⟨t, ht⟩ : ∃ t, bt = S a + t := ⟨bt - S a, by omega⟩
  have hnt : B a + t * b = now := by
    rw [hnow, t6, ht, Nat.add_mul, Nat.mul_comm b (S a)]
    omega
  have tb : t * b ≤ bt * b := Nat.mul_le_mul_right b (by omega)
  have esx : nI bt - nI (S a) = nI t := by rw [fx_eq, edx, nI_toInt (by omega)]; omega
  have esm : nI now - nI (B a) = nI (t * b) := by rw [fx_eq, edm, nI_toInt (by omega)]; omega
  have cx' : ¬ nI t < 0 := by rw [fx_lt, ti_0, nI_toInt (by omega)]; omega
  have cm' : ¬ nI (t * b) < 0 := by rw [fx_lt, ti_0, nI_toInt (by omega)]; omega
  have emod : nI (t * b) - nI (t * b) / nI b * nI b = 0 := by
    rw [nI_mod b1 b2 (by omega), Nat.mul_mod_left]
    rfl
  have ediv : nI (t * b) / nI b = nI t := tb_div b1 b2 (by omega) (by omega)
  have epos : 16 * nI t + nI a = nI (16 * t + a) := by rw [show (16 : Int32) = nI 16 from rfl, pk_mul, nI_add]
  have Mpre : m_X12_laid_L69 x1 x3 (nI now) (nI lim) (nI a) sm = if nI (16 * t + a) < nI lim then (clk (m_X12_does (nI a) (nI t) (pI (pI sm 0 41 (gI sm 0 41 + 1)) 0 42 (nI now + 1))) fun v27 s26 => nmk v27 fun (a28 : Int32) => if a28 = 0 then (nmk (nI a + 1) fun a36 => some (.inl (nI lim, a36, s26))) else gIk s26 0 27 fun v29 => dvk v29 <| nmk ((16 * (nI (t * b) / v29)) + nI a) fun (a30 : Int32) => sIk s26 0 38 a28 fun s31 => sIk s31 0 39 (nI a) fun s32 => gIk s32 0 27 fun v33 => dvk v33 <| sIk s32 0 40 (nI (t * b) / v33) fun s34 => nmk (nI a + 1) fun a35 => some (.inl (a30, a35, s34))) else some (.inl (nI lim, nI (a + 1), sm)) := by
    have e27' : gI (pI (pI sm 0 41 (gI sm 0 41 + 1)) 0 42 (nI now + 1)) 0 27 = nI b := e27
    rw [m_X12_laid_L69, gIk, e9, if_neg (nI_ge ha (by omega)), lAk, if_pos va, ca, e30, nmk, esm, if_neg cm', gIk, e27, dvk, if_neg nb0, emod, if_pos rfl, gIk, e27, dvk, if_neg nb0, ediv, epos]
    by_cases z : nI (16 * t + a) < nI lim
    · rw [if_pos z, if_pos z, gIk, sIk, sIk, gIk, e27', dvk, if_neg nb0, ediv]
    · rw [if_neg z, if_neg z, nmk, nI_1]
  have Xpre : m_X7_goByTicks_L25 j (nI K) (nI bt) (nI i) sx = if nI K ≤ nI t then some (.inl (nI (i + 1), sx)) else clk (m_X5_endsAheadOf j (nI a) (nI t) sx) fun v13 s12 => if v13 = 0 then (clk (m_X7_begin j (nI a) (nI t) s12) fun _ s15 => gIk s15 9 1 fun v16 => lAk s15 9 3 16 (nI a) fun v17 => sIk s15 j 4 (((nI bt * v16) + v17) + 1) fun s18 => nmk (nI i + 1) fun a19 => some (.inl (a19, s18))) else nmk (nI i + 1) fun a14 => some (.inl (a14, s12)) := by
    rw [m_X7_goByTicks_L25, gIk, ex1, if_neg (nI_ge hi (by omega)), lAk, if_pos vi, ci, eo, nmk, lAk, if_pos va, ca, e94, nmk, esx, if_neg cx']
    by_cases z : nI K ≤ nI t
    · rw [if_pos z, if_pos z, nmk, nI_1]
    · rw [if_neg z, if_neg z]
  by_cases cK : K ≤ t
  · -- no such turn
    refine ⟨sx, sm, lim, ?_, ?_, lj_skip h (fun u hu q => by
      have : u * b = t * b := by omega
      have := Nat.eq_of_mul_eq_mul_right (by omega) this
      omega)⟩
    · rw [Xpre, if_pos (by rw [fx_le, nI_toInt (by omega), nI_toInt (by omega)]; omega)]
    · rw [Mpre, if_neg (nI_nlt (by omega) (by omega))]
  have cK' : ¬ nI K ≤ nI t := nI_ge (by omega) (by omega)
  obtain ⟨ea1, ea2⟩ := ends_ahead hn hK ha (show t < K by omega) b1 hnt h
  by_cases cl : 16 * t + a < lim
  · obtain ⟨W, s6, s26, d1, d2, d3, d4⟩ := laid_do hj hC hK b1 ledge ha (show t < K by omega) hnt cl h
    have cl' : nI (16 * t + a) < nI lim := nI_lt cl (by omega)
    have f6 : ∀ s26', LJ j sx0 sm0 (pI s6 j 4 (nI now + 1)) s26' n K b B now (a + 1) lim ∨ LJ j sx0 sm0 (pI s6 j 4 (nI now + 1)) s26' n K b B now (a + 1) (16 * t + a) → gI s6 9 1 = nI b ∧ gA s6 9 3 a = nI (T a) := fun s26' q => by
      have fr : FrR j sx0 (pI s6 j 4 (nI now + 1)) := by
        rcases q with q | q
        · exact q.1
        · exact q.1
      have u1 := fr.1 9 1 (by omega)
      have u2 := fr.2.1 9 3
      rw [gI_pI, if_neg (by omega)] at u1
      have u2' : gA s6 9 3 = gA sx0 9 3 := u2
      exact ⟨u1.trans b3, by rw [u2']; exact t3⟩
    have enow : nI bt * nI b + nI (T a) + 1 = nI now + 1 := by rw [pk_mul, nI_add, hnow]
    have Xdo : gI s6 9 1 = nI b ∧ gA s6 9 3 a = nI (T a) → m_X7_goByTicks_L25 j (nI K) (nI bt) (nI i) sx = some (.inl (nI (i + 1), pI s6 j 4 (nI now + 1))) := fun ⟨u1, u2⟩ => by
      rw [Xpre, if_neg cK', ea1 cl, clk_some, if_pos rfl, d1, clk_some, gIk, u1, lAk, if_pos va, ca, u2, enow, sIk, nmk, nI_1]
    by_cases cW : W = 0
    · refine ⟨pI s6 j 4 (nI now + 1), s26, lim, Xdo (f6 _ (Or.inl (d3 cW))), ?_, d3 cW⟩
      rw [Mpre, if_pos cl', d2, clk_some, nmk, if_pos cW, nmk, nI_1]
    · have r := d4 cW
      refine ⟨pI s6 j 4 (nI now + 1), _, 16 * t + a, Xdo (f6 _ (Or.inr r)), ?_, r⟩
      have v27 : gI s26 0 27 = nI b := by
        have u := r.2.1.1 27 (by omega)
        exact (show gI s26 0 27 = gI sm0 0 27 from u).trans b4
      have v27' : gI (pI (pI s26 0 38 W) 0 39 (nI a)) 0 27 = nI b := v27
      rw [Mpre, if_pos cl', d2, clk_some, nmk, if_neg cW, gIk, v27, dvk, if_neg nb0, ediv, epos, nmk, sIk, sIk, gIk, v27', dvk, if_neg nb0, ediv, sIk, nmk, nI_1]
  · refine ⟨sx, sm, lim, ?_, ?_, lj_skip h (fun u hu q => by
      have : u * b = t * b := by omega
      have := Nat.eq_of_mul_eq_mul_right (by omega) this
      omega)⟩
    · rw [Xpre, if_neg cK', ea2 cl, clk_some, if_neg (show ¬ (1 : Int32) = 0 by decide), nmk, nI_1]
    · rw [Mpre, if_neg (nI_nlt (by omega) (by omega))]
end L2
