-- 99lj.agree: compare: both runs whole, and how they are held against each other
theorem cpy320 {f g : Nat → Int64} {k : Nat} (h : k < 320) : va_cpy f g 0 0 320 k = f k := by
  unfold va_cpy
  rw [if_pos (by omega)]
  congr 1
  omega
theorem cp320 {β : Type} (st : Sg) (j0 k0 j1 k1 : Nat) (f : Sg → Option β) : cpLk st j0 k0 320 0 j1 k1 320 0 (Int32.ofNat 320) f = f (pL st j1 k1 (va_cpy (gL st j0 k0) (gL st j1 k1) 0 0 320)) := by
  have c1 : ¬ (0 : Int32) < 0 := by decide
  have c3 : ¬ (Int32.ofNat 320) < 0 := by decide
  have z0 : (0 : Int32).toNatClampNeg = 0 := by decide
  have z3 : (Int32.ofNat 320).toNatClampNeg = 320 := by decide
  rw [cpLk, if_neg c1, if_neg c1, if_neg c3, z0, z3, if_pos (by omega), if_pos (by omega)]
theorem xc_fr {s s' : Sg} {n : Nat} (hI : gI s' 1 0 = gI s 1 0) (hA : ∀ j k, gA s' j k = gA s j k) (h : XC s n) : XC s' n := by
  unfold XC at h ⊢
  rw [hI, hA, hA, hA, hA, hA]
  exact h
theorem ev_fr {s s' : Sg} {E R R' : Nat → Int64} {a t : Nat} (hA : ∀ j k, gA s' j k = gA s j k) (h8 : gL s' 1 8 = gL s 1 8) (h : EvX s E R R' a t) : EvX s' E R R' a t := by
  unfold EvX at h ⊢
  rw [hA, hA, hA, hA, hA, hA, h8]
  exact h
theorem tr_fr {s s' : Sg} {Ep : Nat → Int64} {Rt : Nat → Nat → Nat → Int64} {n K tc ac : Nat} {kd : Int32} (hA : ∀ j k, gA s' j k = gA s j k) (h8 : gL s' 1 8 = gL s 1 8) (h9 : gL s' 1 9 = gL s 1 9) (h : TrX s Ep Rt n K tc ac kd) : TrX s' Ep Rt n K tc ac kd := by
  obtain ⟨t1, t2, t3, t4⟩ := h
  refine ⟨by rw [h9]; exact t1, t2, fun x u hx hu => ev_fr hA h8 (t3 x u hx hu), ?_⟩
  rw [hA, hA, hA, hA, hA, hA]
  exact t4
theorem xl_fr {s s' : Sg} {n b : Nat} {B T S : Nat → Nat} (hI : gI s' 9 1 = gI s 9 1) (hA : ∀ j k, gA s' j k = gA s j k) (h : XL s n b B T S) : XL s' n b B T S := by
  unfold XL at h ⊢
  rw [hI, hA, hA, hA, hA, hA, hA]
  exact h
/-- the start of a run -/
theorem go_st (s : Sg) (j : Nat) (p1 p2 : Int32) : ∃ r, m_X7_go j p1 p2 s = (if p2 = 0 then m_X7_go_66 j p1 r else gIk r 9 2 fun v17 => if p1 < v17 then (m_X7_go_66 j p1 r) else clk (m_X7_goByTicks j p1 r) fun _ s18 => m_X7_go_72 j p1 s18) ∧ FrR j s r ∧ (∀ q x, q < 4 → x < 16 → gL r 13 3 (16 * q + x) = gL s 1 9 x) ∧ gL r 5 2 = gL s 5 2 ∧ gI r j 0 = 0 ∧ gI r j 1 = -1 ∧ gI r j 2 = -1 := by
  obtain ⟨f, k1, k2⟩ := firsts_eq (s := clO j s) j p1 p2
  obtain ⟨c0, c1, c2, -, -, -⟩ := clO_at j s
  refine ⟨pL (clO j s) 13 3 f, ?_, (clO_fr j s).trans (frR_13 j _ _), fun q x hq hx => ?_, rfl, c0, c1, c2⟩
  · rw [m_X7_go, clear_eq, clk_some, nmk, lpk, k1]
  · show f (16 * q + x) = gL s 1 9 x
    rw [k2 q x hq hx]
    rfl
/-- a plain run of the class -/
theorem go_pl {s0 r : Sg} {n j K : Nat} (hj : j = 14 ∨ j = 15 ∨ j = 16) (hC : XC s0 n) (hK : K ≤ 200) (f : FrR j s0 r) (p1 : ∀ q x, q < 4 → x < 16 → gL r 13 3 (16 * q + x) = gL s0 1 9 x) (p2 : gL r 5 2 = gL s0 5 2) (i0 : gI r j 0 = 0) (i1 : gI r j 1 = -1) (i2 : gI r j 2 = -1) : ∃ s' Rt tc ac, m_X7_goPlain j (nI K) r = some ((), s') ∧ PF j s0 s' Rt n K tc ac := by
  have h : PX j s0 r (fun _ _ => gL s0 5 2) n 0 0 := ⟨f, p1, p2, rfl, fun _ _ => rfl, fun x u _ hu => by omega, i0, i1, i2⟩
  obtain ⟨s', Rt, tc, ac, k1, k2⟩ := px_out hj hC hK K 0 r _ FU (by omega) (FU_lt (by omega)) h
  have k1' : lp (fun s : (Int32 × Sg) => m_X7_goPlain_L2 j (nI K) s.1 s.2) FU (0, r) = some s' := k1
  refine ⟨s', Rt, tc, ac, ?_, k2⟩
  rw [m_X7_goPlain, nmk, lpk, k1']
/-- what a run has told, by a plain run's trace -/
def OutX (j : Nat) (s : Sg) (Ep : Nat → Int64) (n tc ac : Nat) (kd : Int32) : Prop := gI s j 0 = kd ∧ gI s j 1 = (if kd = 0 then -1 else nI ac) ∧ gI s j 2 = (if kd = 0 then -1 else nI tc) ∧ gI s j 6 = nI tc ∧ (0 < tc → ∀ x, x < n → gL s j 7 x = Ep (16 * (4 + (tc - 1)) + x))
theorem go_fin {s0 s : Sg} {Ep : Nat → Int64} {Rt : Nat → Nat → Nat → Int64} {n j K tc ac : Nat} {kd : Int32} (hj : j = 14 ∨ j = 15 ∨ j = 16) (hC : XC s0 n) (hK : K ≤ 200) (hT : TrX s0 Ep Rt n K tc ac kd) (h : FinX j s0 s Ep Rt n K tc ac kd) : ∃ s', m_X7_go_72 j (nI K) s = some ((), s') ∧ FrR j s0 s' ∧ (∀ sl i, sl < 8 → i < 40 → gL s' 5 2 (40 * sl + i) = Rt tc ac (40 * sl + i)) ∧ OutX j s' Ep n tc ac kd := by
  have hn := hC.2.1
  have hs := tr_stop hT
  obtain ⟨f, e, r, i0, i1, i2⟩ := h
  have hend : (gI s j 0 = 0 ∧ tc = K) ∨ (¬ gI s j 0 = 0 ∧ gI s j 2 = nI tc) := by
    obtain ⟨-, -, -, t4⟩ := hT
    rcases t4 with ⟨y1, y2, y3⟩ | ⟨y1, y2, y3, y4⟩
    · exact Or.inl ⟨i0.trans y1, y2⟩
    · rw [if_neg y3] at i2
      exact Or.inr ⟨by rw [i0]; exact y3, i2⟩
  obtain ⟨s', k1, k2, k3, k4, k5, k6, k7⟩ := go_end (j := j) hK (show tc ≤ K by omega) hend
  refine ⟨s', k1, f.trans k2, fun sl i hsl hi => by rw [k5]; exact r sl i hsl hi, (k3 0 (by omega)).trans i0, (k3 1 (by omega)).trans i1, (k3 2 (by omega)).trans i2, k4, fun h0 x hx => ?_⟩
  rw [k7 h0 x (by omega)]
  exact e x (tc - 1) hx (by omega)
theorem like_eq {s : Sg} {Ep : Nat → Int64} {n tc ac : Nat} {kd : Int32} (hn : n ≤ 16) (htc : tc ≤ 200) (h1 : OutX 14 s Ep n tc ac kd) (h2 : OutX 15 s Ep n tc ac kd) : m_X5_isLike 14 (nI n) s = some (1, s) := by
  obtain ⟨a0, a1, a2, a6, a7⟩ := h1
  obtain ⟨c0, c1, c2, c6, c7⟩ := h2
  have hI := ok_for (step := fun r : (Int32 × Sg) => m_X5_isLike_L48 14 (nI n) r.1 r.2) (Q := fun r => r = .inl s) n (fun i r => r = (nI i, s)) (by
      rintro i r hi rfl
      have vi : vpb (nI i) 16 = true := vpb_nI (by omega) (by omega)
      have ci := nI_clamp (show i < 2 ^ 31 by omega)
      by_cases c : tc = 0
      · refine ⟨.inr (.inl s), ?_, rfl⟩
        show m_X5_isLike_L48 14 (nI n) (nI i) s = _
        rw [m_X5_isLike_L48, if_neg (nI_ge hi (by omega)), gIk, a6, c, if_pos (show nI 0 ≤ 0 by decide)]
      · have c' : ¬ nI tc ≤ 0 := by rw [fx_le, ti_0, nI_toInt (by omega)]; omega
        refine ⟨.inl (nI (i + 1), s), ?_, rfl⟩
        show m_X5_isLike_L48 14 (nI n) (nI i) s = _
        rw [m_X5_isLike_L48, if_neg (nI_ge hi (by omega)), gIk, a6, if_neg c', lLk, if_pos vi, ci, lLk, if_pos vi, ci, a7 (by omega) i hi, c7 (by omega) i hi, if_pos ((lgc_eq _ _).mpr rfl), nmk, nI_1]) (by
      rintro r rfl
      refine ⟨.inr (.inl s), ?_, rfl⟩
      show m_X5_isLike_L48 14 (nI n) (nI n) s = _
      rw [m_X5_isLike_L48, if_pos (Int32.le_refl _)]) FU 0 (0, s) (by omega) (FU_lt (by omega)) rfl
  obtain ⟨r, hr, rfl⟩ := hI
  rw [m_X5_isLike, gIk, gIk, a0, c0, if_pos rfl, gIk, gIk, a1, c1, if_pos rfl, gIk, gIk, a2, c2, if_pos rfl, gIk, gIk, a6, c6, if_pos rfl, nmk, lpk, hr]
  rfl
theorem rowsAre_eq {s : Sg} (h : ∀ i, i < 320 → gL s 5 2 i = gL s 13 7 i) : m_X7_rowsAreAsOfPlain s = some (1, s) := by
  have hI := ok_for (step := fun r : (Int32 × Sg) => m_X7_rowsAreAsOfPlain_L2 r.1 r.2) (Q := fun r => r = .inl s) 320 (fun i r => r = (nI i, s)) (by
      rintro i r hi rfl
      have vi : vpb (nI i) 320 = true := vpb_nI (by omega) (by omega)
      have ci := nI_clamp (show i < 2 ^ 31 by omega)
      have c' : ¬ (Int32.ofNat 320) ≤ nI i := nI_ge hi (by omega)
      refine ⟨.inl (nI (i + 1), s), ?_, rfl⟩
      show m_X7_rowsAreAsOfPlain_L2 (nI i) s = _
      rw [m_X7_rowsAreAsOfPlain_L2, if_neg c', lLk, if_pos vi, ci, lLk, if_pos vi, ci, h i hi, if_pos ((lgc_eq _ _).mpr rfl), nmk, nI_1]) (by
      rintro r rfl
      have c' : (Int32.ofNat 320) ≤ nI 320 := Int32.le_refl _
      refine ⟨.inr (.inl s), ?_, rfl⟩
      show m_X7_rowsAreAsOfPlain_L2 (nI 320) s = _
      rw [m_X7_rowsAreAsOfPlain_L2, if_pos c']) FU 0 (0, s) (by omega) (FU_lt (by omega)) rfl
  obtain ⟨r, hr, rfl⟩ := hI
  rw [m_X7_rowsAreAsOfPlain, nmk, lpk, hr]
  rfl
/-- what compare leaves -/
theorem rel_cp {sx sy sm : Sg} (h : Rel sx sm) (f1 : ∀ j k, j ≠ 14 → j ≠ 15 → gI sy j k = gI sx j k) (f2 : ∀ j k, gA sy j k = gA sx j k) (f8 : gL sy 1 8 = gL sx 1 8) (f9 : gL sy 1 9 = gL sx 1 9) (f7 : gL sy 16 7 = gL sx 16 7) (fr : ∀ s i, s < 8 → i < 40 → gL sy 5 2 (40 * s + i) = gL sx 5 2 (40 * s + i)) : Rel sy sm := by
  obtain ⟨n, t, h1, h2, h3, h4, h5, h6, h7, h8, h9, h10⟩ := h
  refine ⟨n, t, h1, h2, ?_, ?_, ?_, ?_, ?_, ?_, ?_, ?_⟩
  · unfold RBo at h3 ⊢
    rw [f1 1 0 (by omega) (by omega), f2 1 1, f2 1 2, f2 1 3, f2 1 4, f2 1 5, f2 1 6, f2 1 7, f8, f9, f2 1 10]
    exact h3
  · unfold RTo at h4 ⊢
    rw [f1 2 0 (by omega) (by omega), f2 2 1, f2 2 2, f2 2 3, f2 2 4]
    exact h4
  · obtain ⟨r1, r2, r3, r4⟩ := h5
    refine ⟨by rw [f2 5 0]; exact r1, by rw [f2 5 1]; exact r2, r3, fun s i hs hi => ?_⟩
    have := (r3 s hs).1.2
    rw [fr s i hs (by omega)]
    exact r4 s i hs hi
  · unfold RRe at h6 ⊢
    rw [f2 0 10, f1 0 9 (by omega) (by omega)]
    exact h6
  · unfold RTr at h7 ⊢
    rw [f1 7 10 (by omega) (by omega), f2 11 0]
    exact h7
  · unfold ROu at h8 ⊢
    rw [f1 16 0 (by omega) (by omega), f1 16 1 (by omega) (by omega), f1 16 2 (by omega) (by omega), f1 16 3 (by omega) (by omega), f1 16 4 (by omega) (by omega), f1 16 5 (by omega) (by omega), f1 16 6 (by omega) (by omega), f7]
    exact h8
  · unfold RWe WvOk at h9 ⊢
    rw [f1 3 2 (by omega) (by omega), f1 3 1 (by omega) (by omega), f1 4 0 (by omega) (by omega), f2 4 1, f2 4 2, f2 4 3, f2 4 4, f2 1 1, f2 1 2, f2 1 5, f2 1 6, f2 1 7, f2 2 1, f2 2 2, f2 2 3, f2 2 4]
    exact h9
  · rcases h10 with ⟨q1, q2⟩ | ⟨q1, q2, q3⟩
    · exact Or.inl ⟨(f1 9 0 (by omega) (by omega)).trans q1, q2⟩
    · refine Or.inr ⟨(f1 9 0 (by omega) (by omega)).trans q1, ?_, lyX_congr (fun k => f1 9 k (by omega) (by omega)) (fun k => f2 1 k) (fun k => f2 2 k) (fun k _ => f2 9 k) (f2 10 0) q3⟩
      unfold LyEq at q2 ⊢
      rw [f1 9 1 (by omega) (by omega), f2 9 3, f2 9 4, f2 9 5, f2 9 6]
      exact q2
