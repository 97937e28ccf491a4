-- 90.lay: settle whole; the call lay
theorem ch_perm {n : Nat} {E F : List Ge} (h : E.Perm F) {D : Nat → Nat → Option Int} (hD : ChO n E D) : ChO n F D := ⟨hD.1, fun e he => hD.2.1 e (h.mem_iff.mpr he), fun q hq => hD.2.2.1 q (sol_perm h.symm hq), hD.2.2.2⟩
theorem stage_sol {n b : Nat} {l : List Ed} {T S : Nat → Nat} (hb : 1 ≤ b) (hok : ∀ e ∈ l, okEd n e) (h : SolG (hdL n b (fun v => (T v : Int)) l) (fun v => (S v : Int))) : SolG (l.map (geI b)) (fun a => ((b * S a + T a : Nat) : Int)) := by
  intro e he
  obtain ⟨i1, i2⟩ := ge_in (b : Int) hok e he
  have q := h _ (hd_mem.mpr ⟨e, he, i1, i2, rfl⟩)
  have q' : (S e.1 : Int) + cdI (e.2.2 + (T e.1 : Int) - (T e.2.1 : Int)) b ≤ (S e.2.1 : Int) := q
  have q2 := (cd_le (z := e.2.2 + (T e.1 : Int) - (T e.2.1 : Int)) (b := (b : Int)) (k := (S e.2.1 : Int) - (S e.1 : Int)) (by omega)).mp (by omega)
  rw [Int.sub_mul] at q2
  show ((b * S e.1 + T e.1 : Nat) : Int) + e.2.2 ≤ ((b * S e.2.1 + T e.2.1 : Nat) : Int)
  have c1 : ((b * S e.1 + T e.1 : Nat) : Int) = (S e.1 : Int) * b + T e.1 := by rw [Nat.mul_comm]; rfl
  have c2 : ((b * S e.2.1 + T e.2.1 : Nat) : Int) = (S e.2.1 : Int) * b + T e.2.1 := by rw [Nat.mul_comm]; rfl
  rw [c1, c2]
  omega
theorem settle_eq {s : Sg} {n t b : Nat} {T S : Nat → Nat} (hn : n ≤ 16) (h0 : 0 < n) (hb1 : 1 ≤ b) (hb : b ≤ 60) (hx : gI s 1 0 = nI n) (h78 : gI s 7 8 = nI b) (hT : ∀ v, v < n → T v < b ∧ gA s 7 9 v = nI (T v)) (hS : ∀ v, v < n → S v ≤ 960 ∧ earO (lvO (gA s 7 3) (n - 1)) v n = (S v : Int)) (hbo : ∀ v, v < n → inR (gA s 1 3 v) 0 5 ∧ inR (gA s 1 4 v) 0 255) (hop : ∀ k, k < 3 * n → inR (gA s 1 7 k) (-1) 4) (hok : ∀ e ∈ allX s n t, okEd n e) (hCh : ChO n ((allX s n t).map (geI b)) (maN n (gA s 6 1))) (hSol : SolG ((allX s n t).map (geI b)) (fun a => ((b * S a + T a : Nat) : Int))) : ∃ s', m_X4_settle s = some ((), s') ∧ FrL s s' ∧ gI s' 9 0 = 1 ∧ gI s' 9 1 = nI b ∧ (∀ v, v < n → gA s' 9 3 v = nI (T v) ∧ gA s' 9 4 v = nI (S v) ∧ gA s' 9 5 v = nI (b * S v + T v) ∧ gA s' 9 6 v = nI (b * S v + T v)) ∧ LyX s' n t := by
  have hiE := ge_in (n := n) (b : Int) hok
  have L1 : LeastG n ((allX s n t).map (geI b)) (fun v => earO (maN n (gA s 6 1)) v n) := ear_least hiE hCh.1 hCh.2.1 hCh.2.2.1
  have L2 := tr_least hiE hCh
  have bd := ge_bd hb hok
  have b1 : ∀ v, v < n → earO (maN n (gA s 6 1)) v n ≤ 1000 := fun v hv => by
    have := least_bd hiE L1 (W := 50) (fun e he => (bd e he).2) (by omega) v hv
    have e : (fun v => earO (maN n (gA s 6 1)) v n) v = earO (maN n (gA s 6 1)) v n := rfl
    omega
  have b2 : ∀ v, v < n → earO (trO (maN n (gA s 6 1))) v n ≤ 1000 := fun v hv => by
    have := least_bd (fun e he => by
      obtain ⟨g, hg, rfl⟩ := List.mem_map.mp he
      exact ⟨(hiE g hg).2, (hiE g hg).1⟩) L2 (W := 50) (fun e he => by
      obtain ⟨g, hg, rfl⟩ := List.mem_map.mp he
      exact (bd g hg).2) (by omega) v hv
    have e : (fun v => earO (trO (maN n (gA s 6 1))) v n) v = earO (trO (maN n (gA s 6 1))) v n := rfl
    omega
  have emx : mx 1 (nI b) = nI b := by
    by_cases c : (1 : Int32) < nI b
    · exact if_pos c
    · have e : mx 1 (nI b) = 1 := if_neg c
      rw [fx_lt, ti_1, nI_toInt (by omega)] at c
      rw [e, show b = 1 by omega]
      rfl
  obtain ⟨s5, hs5⟩ : ∃ r, r = pI (pI (pI s 9 0 1) 9 1 (nI b)) 9 2 1 := ⟨_, rfl⟩
  have f5 : FrL s s5 := by rw [hs5]; exact ((frL_9I _ _ _).trans (frL_9I _ _ _)).trans (frL_9I _ _ _)
  obtain ⟨s6, hs6⟩ : ∃ r, r = pA s5 10 0 (filF 360 0 (gA s5 10 0)) := ⟨_, rfl⟩
  have f6 : FrL s s6 := by rw [hs6]; exact f5.trans (frL_10A _ _ _)
  have g7 : ∀ k, gA s6 7 k = gA s 7 k := fun k => f6.2.1 7 k (by omega) (by omega)
  have g1 : ∀ k, gA s6 1 k = gA s 1 k := fun k => f6.2.1 1 k (by omega) (by omega)
  obtain ⟨r, k1, fr, k2, k3, k4, k5, k6⟩ := settle_loop (s := s6) (T := T) (S := S) hn hb1 hb ((f6.1 1 0 (by omega)).trans hx) (fun v hv => by rw [g7]; exact hT v hv) (fun v hv => by rw [g7]; exact hS v hv) (fun v hv => by rw [g1, g1]; exact hbo v hv) (by rw [hs6, hs5]; rfl) (by rw [hs6, hs5]; rfl) (fun q hq => by
    rw [hs6]
    show filF 360 0 (gA s5 10 0) q = 0
    unfold filF
    rw [if_pos hq])
  have fr' : FrL s r := f6.trans fr
  have r6 : gA r 6 1 = gA s 6 1 := fr'.2.1 6 1 (by omega) (by omega)
  have rx : gI r 1 0 = nI n := (fr'.1 1 0 (by omega)).trans hx
  obtain ⟨f7, f8, q1, q2, q3⟩ := bounds_eq (s := r) hn (by rw [r6]; exact b1) (by rw [r6]; exact b2)
  rw [r6] at q2 q3
  obtain ⟨r2, hr2⟩ : ∃ x, x = pA (pA r 9 7 f7) 9 8 f8 := ⟨_, rfl⟩
  rw [← hr2] at q1
  have f2 : FrL s r2 := by rw [hr2]; exact (fr'.trans (frL_9A _ _ _)).trans (frL_9A _ _ _)
  have g2 : ∀ k, gA r2 1 k = gA s 1 k := fun k => f2.2.1 1 k (by omega) (by omega)
  have r91 : gI r2 9 1 = nI b := by rw [hr2]; exact k3
  have r95 : gA r2 9 5 = gA r 9 5 := by rw [hr2]; rfl
  have r93 : gA r2 9 3 = gA r 9 3 := by rw [hr2]; rfl
  have Bb : ∀ v, v < n → b * S v + T v ≤ 100000 := fun v hv => by
    have := Nat.mul_le_mul hb (hS v hv).1
    have := (hT v hv).1
    omega
  obtain ⟨g, p1, p2⟩ := places_eq (s := r2) (B := fun v => b * S v + T v) hn hb1 hb ((f2.1 1 0 (by omega)).trans hx) r91 (fun v hv => ⟨by rw [r95]; exact (k5 v hv).2.2.1, Bb v hv⟩) (by rw [g2]; exact hop)
  rw [g2, g2] at p2
  obtain ⟨r3, hr3⟩ : ∃ x, x = pA r2 9 9 g := ⟨_, rfl⟩
  rw [← hr3] at p1
  have f3 : FrL s r3 := by rw [hr3]; exact f2.trans (frL_9A _ _ _)
  obtain ⟨f10, o1, o2⟩ := order_eq (s := r3) (T := T) hn hb (by rw [hr3]; exact r91) (fun v hv => ⟨by
    have : gA r3 9 3 = gA r 9 3 := by rw [hr3]; exact r93
    rw [this]; exact (k5 v hv).1, by have := (hT v hv).1; omega⟩)
  obtain ⟨s', hs'⟩ : ∃ x, x = pA r3 9 10 f10 := ⟨_, rfl⟩
  rw [← hs'] at o1
  have fs : FrL s s' := by rw [hs']; exact f3.trans (frL_9A _ _ _)
  have y : ∀ k, k ≠ 7 → k ≠ 8 → k ≠ 9 → k ≠ 10 → gA s' 9 k = gA r 9 k := fun k a b c d => by
    rw [hs', hr3, hr2, gA_pA2, if_pos rfl, if_neg d, gA_pA2, if_pos rfl, if_neg c, gA_pA2, if_pos rfl, if_neg b, gA_pA2, if_pos rfl, if_neg a]
  have yI : ∀ k, gI s' 9 k = gI r 9 k := fun k => by rw [hs', hr3, hr2]; rfl
  have y7 : gA s' 9 7 = f7 := by rw [hs', hr3, hr2]; rfl
  have y8 : gA s' 9 8 = f8 := by rw [hs', hr3, hr2]; rfl
  have y9 : gA s' 9 9 = g := by rw [hs', hr3]; rfl
  have y10 : gA s' 9 10 = f10 := by rw [hs']; rfl
  have yF : gA s' 10 0 = gA r 10 0 := by rw [hs', hr3, hr2]; rfl
  have gs : ∀ k, gA s' 1 k = gA s 1 k := fun k => fs.2.1 1 k (by omega) (by omega)
  have gt : ∀ k, gA s' 2 k = gA s 2 k := fun k => fs.2.1 2 k (by omega) (by omega)
  have eall : allX s' n t = allX s n t := by unfold allX; rw [gs, gs, gs, gs, gs, gt, gt, gt, gt]
  have rows : ∀ v, v < n → gA s' 9 3 v = nI (T v) ∧ gA s' 9 4 v = nI (S v) ∧ gA s' 9 5 v = nI (b * S v + T v) ∧ gA s' 9 6 v = nI (b * S v + T v) := fun v hv => by
    rw [y 3 (by omega) (by omega) (by omega) (by omega), y 4 (by omega) (by omega) (by omega) (by omega), y 5 (by omega) (by omega) (by omega) (by omega), y 6 (by omega) (by omega) (by omega) (by omega)]
    exact k5 v hv
  refine ⟨s', ?_, fs, ?_, ?_, rows, ?_⟩
  · have hc : m_X2_clear 10 s5 = some ((), s6) := by rw [m_X2_clear, fill_eq 10 0 360 0 (by omega), clk_some, hs6]
    have h8 : gI (pI s 9 0 1) 7 8 = nI b := h78
    have k1' : lp (fun s : (Int32 × Sg) => m_X4_settle_L32 s.1 s.2) FU (0, s6) = some r := k1
    have rx3 : gI r3 1 0 = nI n := (f3.1 1 0 (by omega)).trans hx
    rw [m_X4_settle, sIk, m_X8_beat, gIk, h8, clk_some, sIk, emx, sIk, ← hs5, hc, clk_some, nmk, lpk, k1']
    show (gIk r 1 0 fun v29 => _) = _
    rw [gIk, rx, q1, clk_some, p1, clk_some, gIk, rx3, o1, clk_some]
  · rw [yI, k2, hs6, hs5]; rfl
  · rw [yI]; exact k3
  · refine ⟨b, T, S, fun v => earO (maN n (gA s 6 1)) v n, fun v => earO (trO (maN n (gA s 6 1))) v n, ⟨hb1, hb, by rw [yI]; exact k3, h0⟩, fun a ha => ⟨(hT a ha).1, (hS a ha).1, (rows a ha).1, (rows a ha).2.1, (rows a ha).2.2.1⟩, by rw [yI]; exact k4, by rw [eall]; exact hSol, ⟨by rw [eall]; exact L1, by rw [y7]; exact q2⟩, ⟨by rw [eall]; exact L2, by rw [y8]; exact q3⟩, ?_, ?_, ?_⟩
    · intro k r' hk hr'
      rw [yF, k6 k r' hk hr', gs, gs, g1, g1]
    · intro a ha
      rw [y9, gs, gs]
      exact p2 a ha
    · rw [y10]; exact o2
