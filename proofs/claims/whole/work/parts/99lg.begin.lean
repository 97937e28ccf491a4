-- 99lg.begin: a laid run of the class against a plain run's trace: an act that begins
section LXD
variable {s0 s : Sg} {Ep : Nat → Int64} {Rt : Nat → Nat → Nat → Int64} {n K b tc ac : Nat} {B T S : Nat → Nat} {kd : Int32} {now a lim : Nat}
theorem lx_do {t : Nat} (hC : XC s0 n) (hT : TrX s0 Ep Rt n K tc ac kd) (hL : XL s0 n b B T S) (hK : K ≤ 200) (ha : a < n) (ht : t < K) (hnow : B a + t * b = now) (hl : 16 * t + a < lim) (h : LX s0 s Ep Rt n K b B tc ac kd now a lim) (v : Int32) : ∃ s6 lim', m_X7_begin 15 (nI a) (nI t) s = some ((), s6) ∧ LX s0 (pI s6 15 4 v) Ep Rt n K b B tc ac kd now (a + 1) lim' := by
  obtain ⟨hx1, hn, hn0, hAct, hsz, hops⟩ := id hC
  obtain ⟨t1, t2, t3, t4⟩ := id hT
  have hs := tr_stop hT
  obtain ⟨⟨b1, b2, b3⟩, l1, ledge, hst, hcl⟩ := id hL
  obtain ⟨f, p1, e, r, q⟩ := h
  have hlim := lx_lim hn hs q
  have A : ∀ x y, gA s x y = gA s0 x y := fun x y => f.2.1 x y
  have l18 : gL s 1 8 = gL s0 1 8 := f.2.2 1 8 (by omega) (by omega) (by omega)
  generalize hW : opW (gA s0 1 1) (gA s0 1 5) (gA s0 5 0) (gA s0 5 1) a (tkX (gL s 13 3) (gA s0 1 6) (gA s0 1 7) a 0 t) (tkX (gL s 13 3) (gA s0 1 6) (gA s0 1 7) a 1 t) = W
  have bx := begin_eq (s := s) (j := 15) (a := a) (t := t) (W := W) (by omega) (by omega) (by omega) (by rw [A, A, A, A]; exact hAct a ha) (by rw [A]; exact hsz) (by rw [A, A, A, A, A, A]; exact hW)
  rw [A, A, A, A, l18] at bx
  -- the operands, up to the stop
  have tk : 16 * t + a ≤ 16 * tc + ac → ∀ w, w < 3 → 0 ≤ (gA s0 1 6 (3 * a + w)).toInt → tkX (gL s 13 3) (gA s0 1 6) (gA s0 1 7) a w t = tkX Ep (gA s0 1 6) (gA s0 1 7) a w t := fun hp w hw h0 => tk_same hC ha hw h0 (fun q x hq hx => (p1 q x hq hx).trans (t1 q x hq hx).symm) (fun x u hx hu hop => by
    obtain ⟨w', hw', h0', ex, eu⟩ := hop
    have ed := ledge a w' ha hw' h0'
    rw [← ex] at ed
    have em : u * b + b * (gA s0 1 7 (3 * a + w')).toNatClampNeg = t * b := by
      rw [Nat.mul_comm b, ← Nat.add_mul, eu]
    exact e x u hx (by omega) (Or.inl (by omega)) (by omega))
  have cg := fun (hp : 16 * t + a ≤ 16 * tc + ac) => op_congr (size := gA s0 5 0) (wide := gA s0 5 1) (number := gL s0 1 8) (hAct a ha) (tk hp 0 (by omega)) (tk hp 1 (by omega)) (tk hp 2 (by omega))
  -- the states behind a begin
  have z : ∀ (s6 : Sg) (k : Nat), k ≠ 4 → gI (pI s6 15 4 v) 15 k = gI s6 15 k := fun s6 k hk => by rw [gI_pI, if_pos rfl, if_neg hk]
  have done : W = 0 → ∃ s6, m_X7_begin 15 (nI a) (nI t) s = some ((), s6) ∧ FrR 15 s0 (pI s6 15 4 v) ∧ gL (pI s6 15 4 v) 13 3 = vp_updL (gL s 13 3) (16 * (4 + t) + a) (opV (gA s0 1 1) (gA s0 1 5) (gL s0 1 8) a (tkX (gL s 13 3) (gA s0 1 6) (gA s0 1 7) a 0 t) (tkX (gL s 13 3) (gA s0 1 6) (gA s0 1 7) a 1 t) (tkX (gL s 13 3) (gA s0 1 6) (gA s0 1 7) a 2 t) (gL s 5 2)) ∧ gL (pI s6 15 4 v) 5 2 = opR (gA s0 1 1) (gA s0 1 5) a (tkX (gL s 13 3) (gA s0 1 6) (gA s0 1 7) a 0 t) (tkX (gL s 13 3) (gA s0 1 6) (gA s0 1 7) a 1 t) (gL s 5 2) ∧ gI (pI s6 15 4 v) 15 0 = gI s 15 0 ∧ gI (pI s6 15 4 v) 15 1 = gI s 15 1 ∧ gI (pI s6 15 4 v) 15 2 = gI s 15 2 := fun c => by
    refine ⟨_, bx.1 c, (((f.trans (frR_I 15 _ _ _)).trans (frR_5 15 _ _)).trans (frR_13 15 _ _)).trans (frR_I 15 _ _ _), rfl, rfl, ?_, ?_, ?_⟩
    · rw [z _ 0 (by omega)]
      show gI (pI s 15 3 (gI s 15 3 + 1)) 15 0 = _
      rw [gI_pI, if_pos rfl, if_neg (by omega)]
    · rw [z _ 1 (by omega)]
      show gI (pI s 15 3 (gI s 15 3 + 1)) 15 1 = _
      rw [gI_pI, if_pos rfl, if_neg (by omega)]
    · rw [z _ 2 (by omega)]
      show gI (pI s 15 3 (gI s 15 3 + 1)) 15 2 = _
      rw [gI_pI, if_pos rfl, if_neg (by omega)]
  have refd : ¬ W = 0 → ∃ s6, m_X7_begin 15 (nI a) (nI t) s = some ((), s6) ∧ FrR 15 s0 (pI s6 15 4 v) ∧ (∀ x y, gL (pI s6 15 4 v) x y = gL s x y) ∧ gI (pI s6 15 4 v) 15 0 = W ∧ gI (pI s6 15 4 v) 15 1 = nI a ∧ gI (pI s6 15 4 v) 15 2 = nI t := fun c => by
    refine ⟨_, bx.2 c, ((((f.trans (frR_I 15 _ _ _)).trans (frR_I 15 _ _ _)).trans (frR_I 15 _ _ _)).trans (frR_I 15 _ _ _)).trans (frR_I 15 _ _ _), fun _ _ => rfl, ?_, ?_, ?_⟩
    · rw [z _ 0 (by omega)]; simp [gI_pI]
    · rw [z _ 1 (by omega)]; simp [gI_pI]
    · rw [z _ 2 (by omega)]; simp [gI_pI]
  by_cases hp : 16 * t + a < 16 * tc + ac
  · -- ahead of the stop: as the plain run has it
    obtain ⟨g1, g2, g3⟩ := cg (by omega)
    obtain ⟨v1, v2, v3⟩ := t3 a t ha (by omega)
    rw [hW, v1] at g1
    obtain ⟨s6, d1, d2, d3, d4, d5, d6, d7⟩ := done g1
    refine ⟨s6, lim, d1, d2, fun q' x hq hx => ?_, en_next hn b1 ha hnow e (fun x u hx hne => ?_) (fun _ => ?_), fun sl hsl => ?_, rf_next b1 hnow q (by omega) d5 d6 d7⟩
    · rw [d3, updL_i, if_neg (by omega)]
      exact p1 q' x hq hx
    · rw [d3, updL_i, if_neg (by omega)]
    · rw [d3, updL_i, if_pos rfl, v2, g2]
      exact opV_rows (hAct a ha).2.1 hsz v1 (fun c => rw_own hC hT hL ha ht hnow hp c r)
    · by_cases c : gA s0 1 1 a = 5 ∧ (gA s0 1 5 a).toNatClampNeg = sl
      · refine ⟨t, a + 1, ⟨by omega, by omega⟩, fun c' u hc hu c5 cs => ?_, fun i hi => ?_⟩
        · have hsl1 := (hAct a ha).2.1 (Or.inr c.1)
          have hsl2 := (hAct c' hc).2.1 (Or.inr c5)
          have es : gA s0 1 5 a = gA s0 1 5 c' := by rw [fx_nI hsl1.1, fx_nI hsl2.1, cs, c.2]
          constructor
          · rintro ⟨k1, k2⟩
            apply Classical.byContradiction
            intro k3
            have := hcl a c' t u ha hc (Or.inr c.1) (Or.inr c5) es (Or.inr c5) (by omega)
            unfold bfr at k1
            omega
          · intro k
            by_cases k4 : u = t ∧ c' = a
            · obtain ⟨rfl, rfl⟩ := k4
              refine ⟨?_, hp⟩
              unfold bfr
              omega
            · have := hcl c' a u t hc ha (Or.inr c5) (Or.inr c.1) es.symm (Or.inr c.1) (by omega)
              refine ⟨?_, by omega⟩
              unfold bfr
              omega
        · rw [d4, v3, g3, ← c.2]
          exact opR_own (rw_own hC hT hL ha ht hnow hp (Or.inr c.1) r i hi)
      · exact rw_next b1 hnow r hsl (Or.inl c) (fun i hi => by
          rw [d4]
          exact opR_slot (hAct a ha).2.1 hsz (hW.trans g1) c hi)
  by_cases hp2 : 16 * t + a = 16 * tc + ac
  · -- the stop itself
    obtain ⟨g1, g2, g3⟩ := cg (by omega)
    have et : t = tc := by omega
    have ea : a = ac := by omega
    rcases t4 with ⟨-, y2, y3⟩ | ⟨y1, y2, y3, y4⟩
    · omega
    rw [et, ea] at g1
    rw [y4] at g1
    have hW' := hW
    rw [et, ea, g1] at hW'
    obtain ⟨s6, d1, d2, d3, d4, d5, d6⟩ := refd (by rw [← hW']; exact y3)
    refine ⟨s6, 16 * t + a, d1, d2, fun q' x hq hx => ?_, en_next hn b1 ha hnow e (fun x u hx hne => ?_) (fun k => absurd k hp), fun sl hsl => rw_next b1 hnow r hsl (Or.inr (by omega)) (fun i hi => ?_), Or.inr ⟨a, t, ?_, d5, d6, ha, ht, rfl, ?_, by omega, fun _ => ⟨hp2, ?_⟩⟩⟩
    · rw [d3]
      exact p1 q' x hq hx
    · rw [d3]
    · rw [d3]
    · rw [d4, ← hW']; exact y3
    · unfold bfr; omega
    · rw [d4]; exact hW'.symm
  -- behind the stop, which isn't processed yet
  have htc : tc < K ∧ ac < n := by omega
  have nb : ¬ bfr B b now a ac tc := fun k => by
    rcases q with ⟨-, -, -, -, q5⟩ | ⟨a', t', -, -, -, -, -, -, -, -, q9⟩
    · exact q5 htc.1 k
    · have := (q9 k).1
      omega
  have n5 : ¬ gA s0 1 1 a = 5 := fun k => by
    rcases t4 with ⟨-, y2, y3⟩ | ⟨y1, y2, y3, y4⟩
    · omega
    have so := opW_sort (by rw [y4]; exact y3)
    have := hst ac a tc t htc.2 ha k so (by omega)
    refine nb ?_
    unfold bfr
    omega
  by_cases c : W = 0
  · obtain ⟨s6, d1, d2, d3, d4, d5, d6, d7⟩ := done c
    refine ⟨s6, lim, d1, d2, fun q' x hq hx => ?_, en_next hn b1 ha hnow e (fun x u hx hne => ?_) (fun k => absurd k hp), fun sl hsl => rw_next b1 hnow r hsl (Or.inl (fun k => n5 k.1)) (fun i hi => ?_), rf_next b1 hnow q (by omega) d5 d6 d7⟩
    · rw [d3, updL_i, if_neg (by omega)]
      exact p1 q' x hq hx
    · rw [d3, updL_i, if_neg (by omega)]
    · rw [d4]
      unfold opR
      rw [if_neg n5]
  · obtain ⟨s6, d1, d2, d3, d4, d5, d6⟩ := refd c
    refine ⟨s6, 16 * t + a, d1, d2, fun q' x hq hx => ?_, en_next hn b1 ha hnow e (fun x u hx hne => ?_) (fun k => absurd k hp), fun sl hsl => rw_next b1 hnow r hsl (Or.inl (fun k => n5 k.1)) (fun i hi => ?_), Or.inr ⟨a, t, ?_, d5, d6, ha, ht, rfl, ?_, by omega, fun k => ?_⟩⟩
    · rw [d3]
      exact p1 q' x hq hx
    · rw [d3]
    · rw [d3]
    · rw [d4]; exact c
    · unfold bfr; omega
    · rcases bfr_at b1 hnow k with k | ⟨k1, k2⟩
      · exact absurd k nb
      · omega
/-- one act of a tick -/
theorem lx_step {bt i : Nat} (hC : XC s0 n) (hT : TrX s0 Ep Rt n K tc ac kd) (hL : XL s0 n b B T S) (hK : K ≤ 200) (hbt : bt ≤ 2000) (hnow : now = bt * b + T a) (ha : a < n) (hi : i < n) (hO : gA s0 9 10 i = nI a) (h : LX s0 s Ep Rt n K b B tc ac kd now a lim) : ∃ s' lim', m_X7_goByTicks_L25 15 (nI K) (nI bt) (nI i) s = some (.inl (nI (i + 1), s')) ∧ LX s0 s' Ep Rt n K b B tc ac kd now (a + 1) lim' := by
  obtain ⟨hx1, hn, hn0, hAct, hsz, hops⟩ := id hC
  have hs := tr_stop hT
  obtain ⟨⟨b1, b2, b3⟩, l1, -, -, -⟩ := id hL
  obtain ⟨t1, t2, t3, t4, t6⟩ := l1 a ha
  have mulb : bt * b ≤ 120000 := by have := Nat.mul_le_mul hbt b2; omega
  have va : vpb (nI a) 16 = true := vpb_nI (by omega) (by omega)
  have ca := nI_clamp (show a < 2 ^ 31 by omega)
  have vi : vpb (nI i) 16 = true := vpb_nI (by omega) (by omega)
  have ci := nI_clamp (show i < 2 ^ 31 by omega)
  have ex1 : gI s 1 0 = nI n := (h.1.1 1 0 (by omega)).trans hx1
  have eo : gA s 9 10 i = nI a := by rw [h.1.2.1 9 10]; exact hO
  have e94 : gA s 9 4 a = nI (S a) := by rw [h.1.2.1 9 4]; exact t4
  have edx : (nI bt - nI (S a)).toInt = (bt : Int) - (S a : Int) := by
    rw [fx_sub (by rw [nI_toInt (by omega), nI_toInt (by omega)]; omega) (by rw [nI_toInt (by omega), nI_toInt (by omega)]; omega), nI_toInt (by omega), nI_toInt (by omega)]
  by_cases c : bt < S a
  · have hlt : now < B a := by
      rw [hnow, t6]
      have := Nat.mul_le_mul_left b (show bt + 1 ≤ S a from c)
      rw [Nat.mul_add, Nat.mul_comm b bt] at this
      omega
    refine ⟨s, lim, ?_, lx_skip hn hs h (fun u _ q => by omega)⟩
    have c' : nI bt - nI (S a) < 0 := by rw [fx_lt, ti_0, edx]; omega
    rw [m_X7_goByTicks_L25, gIk, ex1, if_neg (nI_ge hi (by omega)), lAk, if_pos vi, ci, eo, nmk, lAk, if_pos va, ca, e94, nmk, if_pos c', nmk, nI_1]
  obtain ⟨t, ht⟩ : ∃ t, bt = S a + t := ⟨bt - S a, by omega⟩
  have hnt : B a + t * b = now := by
    rw [hnow, t6, ht, Nat.add_mul, Nat.mul_comm b (S a)]
    omega
  have esx : nI bt - nI (S a) = nI t := by rw [fx_eq, edx, nI_toInt (by omega)]; omega
  have cx' : ¬ nI t < 0 := by rw [fx_lt, ti_0, nI_toInt (by omega)]; omega
  have Xpre : m_X7_goByTicks_L25 15 (nI K) (nI bt) (nI i) s = if nI K ≤ nI t then some (.inl (nI (i + 1), s)) else clk (m_X5_endsAheadOf 15 (nI a) (nI t) s) fun v13 s12 => if v13 = 0 then (clk (m_X7_begin 15 (nI a) (nI t) s12) fun _ s15 => gIk s15 9 1 fun v16 => lAk s15 9 3 16 (nI a) fun v17 => sIk s15 15 4 (((nI bt * v16) + v17) + 1) fun s18 => nmk (nI i + 1) fun a19 => some (.inl (a19, s18))) else nmk (nI i + 1) fun a14 => some (.inl (a14, s12)) := by
    rw [m_X7_goByTicks_L25, gIk, ex1, if_neg (nI_ge hi (by omega)), lAk, if_pos vi, ci, eo, nmk, lAk, if_pos va, ca, e94, nmk, esx, if_neg cx']
    by_cases z : nI K ≤ nI t
    · rw [if_pos z, if_pos z, nmk, nI_1]
    · rw [if_neg z, if_neg z]
  have same : ∀ u, B a + u * b = now → u = t := fun u q => by
    have : u * b = t * b := by omega
    exact Nat.eq_of_mul_eq_mul_right (by omega) this
  by_cases cK : K ≤ t
  · refine ⟨s, lim, ?_, lx_skip hn hs h (fun u hu q => by
      have := same u q
      omega)⟩
    rw [Xpre, if_pos (by rw [fx_le, nI_toInt (by omega), nI_toInt (by omega)]; omega)]
  have cK' : ¬ nI K ≤ nI t := nI_ge (by omega) (by omega)
  obtain ⟨ea1, ea2⟩ := lx_ends hn hK ha (show t < K by omega) hnt h.2.2.2.2
  by_cases cl : 16 * t + a < lim
  · obtain ⟨s6, lim', d1, d2⟩ := lx_do hC hT hL hK ha (show t < K by omega) hnt cl h (nI now + 1)
    have u1 := d2.1.1 9 1 (by omega)
    rw [gI_pI, if_neg (by omega)] at u1
    have u1' : gI s6 9 1 = nI b := u1.trans b3
    have u2 : gA s6 9 3 = gA s0 9 3 := d2.1.2.1 9 3
    have u2' : gA s6 9 3 a = nI (T a) := by rw [u2]; exact t3
    have enow : nI bt * nI b + nI (T a) + 1 = nI now + 1 := by rw [pk_mul, nI_add, hnow]
    refine ⟨pI s6 15 4 (nI now + 1), lim', ?_, d2⟩
    rw [Xpre, if_neg cK', ea1 cl, clk_some, if_pos rfl, d1, clk_some, gIk, u1', lAk, if_pos va, ca, u2', enow, sIk, nmk, nI_1]
  · refine ⟨s, lim, ?_, lx_skip hn hs h (fun u hu q => by
      have := same u q
      subst this
      omega)⟩
    rw [Xpre, if_neg cK', ea2 cl, clk_some, if_neg (show ¬ (1 : Int32) = 0 by decide), nmk, nI_1]
end LXD
