-- 99a.act: one act on both sides at once
/-- the ends and rows of both sides are alike: where D says, and the firsts lie ahead -/
def JEf (size : Nat → Int32) (first RX RM EX EM : Nat → Int64) (D : Nat → Nat → Prop) : Prop := (∀ s i : Nat, s < 8 → (i : Int) < (size s).toInt → RX (40 * s + i) = RM (40 * s + i)) ∧ (∀ x u, D x u → EX (16 * (4 + u) + x) = EM (16 * u + x)) ∧ ∀ q x, q < 4 → x < 16 → EX (16 * q + x) = first x
def BdS (sx sm : Sg) (n : Nat) : Prop := (gA sx 1 1 = gA sm 0 0 ∧ gA sx 1 5 = gA sm 0 4 ∧ gA sx 1 6 = gA sm 0 5 ∧ gA sx 1 7 = gA sm 0 6 ∧ gL sx 1 8 = gL sm 0 8 ∧ gA sx 5 0 = gA sm 0 23 ∧ gA sx 5 1 = gA sm 0 24) ∧ (∀ a, a < n → ActOk (gA sm 0 0) (gA sm 0 4) (gA sm 0 5) (gA sm 0 6) a) ∧ ∀ k, k < 8 → inR (gA sm 0 23 k) 0 40
theorem act_joint {sx sm : Sg} {n a t j : Nat} {D : Nat → Nat → Prop} (hj : j = 14 ∨ j = 15 ∨ j = 16) (hn : n ≤ 16) (ha : a < n) (ht : t < 200) (hB : BdS sx sm n) (hE : JEf (gA sm 0 23) (gL sm 0 7) (gL sx 5 2) (gL sm 0 21) (gL sx 13 3) (gL sm 0 37) D) (hop : ∀ w, w < 3 → 0 ≤ (gA sm 0 5 (3 * a + w)).toInt → (gA sm 0 6 (3 * a + w)).toNatClampNeg ≤ t → D (gA sm 0 5 (3 * a + w)).toNatClampNeg (t - (gA sm 0 6 (3 * a + w)).toNatClampNeg)) : ∃ (W : Int32) (RX RM EX EM : Nat → Int64), (W = 0 → m_X7_begin j (nI a) (nI t) sx = some ((), pL (pL (pI sx j 3 (gI sx j 3 + 1)) 5 2 RX) 13 3 EX) ∧ m_X12_does (nI a) (nI t) sm = some (0, pL (pL sm 0 21 RM) 0 37 EM) ∧ ∀ D' : Nat → Nat → Prop, (∀ x u, D' x u → x < 16 ∧ (D x u ∨ (x = a ∧ u = t))) → JEf (gA sm 0 23) (gL sm 0 7) RX RM EX EM D') ∧ (¬ W = 0 → m_X7_begin j (nI a) (nI t) sx = some ((), pI (pI (pI (pI sx j 3 (gI sx j 3 + 1)) j 0 W) j 1 (nI a)) j 2 (nI t)) ∧ m_X12_does (nI a) (nI t) sm = some (W, sm)) := by
  obtain ⟨⟨b1, b5, b6, b7, b8, b50, b51⟩, hA, hsz⟩ := hB
  obtain ⟨e1, e2, e3⟩ := hE
  have hAa := hA a ha
  obtain ⟨o1, o2, o3, o4, o5, o6⟩ := id hAa
  -- the operands are alike
  have tk : ∀ w, w < 3 → 0 ≤ (gA sm 0 5 (3 * a + w)).toInt → tkM (gL sm 0 37) (gL sm 0 7) (gA sm 0 5) (gA sm 0 6) a w t = tkX (gL sx 13 3) (gA sx 1 6) (gA sx 1 7) a w t := fun w hw h0 => by
    have hb := (o3 w hw).2 h0
    have ho := (o3 w hw).1
    have ck := fx_cl hb.1
    have cx := fx_cl h0
    unfold tkM tkX
    rw [b6, b7]
    have k4 : (gA sm 0 6 (3 * a + w)).toNatClampNeg ≤ 4 := by have := hb.2; omega
    have x16 : (gA sm 0 5 (3 * a + w)).toNatClampNeg < 16 := by have := ho.2; omega
    by_cases c : (gA sm 0 6 (3 * a + w)).toNatClampNeg ≤ t
    · rw [if_pos c, ← e2 _ _ (hop w hw h0 c)]
      congr 1
      omega
    · rw [if_neg c, ← e3 (4 + t - (gA sm 0 6 (3 * a + w)).toNatClampNeg) _ (by omega) x16]
  generalize hX : tkX (gL sx 13 3) (gA sx 1 6) (gA sx 1 7) a 0 t = X
  generalize hY : tkX (gL sx 13 3) (gA sx 1 6) (gA sx 1 7) a 1 t = Y
  generalize hZ : tkX (gL sx 13 3) (gA sx 1 6) (gA sx 1 7) a 2 t = Z
  generalize hW : opW (gA sm 0 0) (gA sm 0 4) (gA sm 0 23) (gA sm 0 24) a X Y = W
  have bx := begin_eq (s := sx) (j := j) (a := a) (t := t) (W := W) hj (by omega) ht (by rw [b1, b5, b6, b7]; exact hAa) (by rw [b50]; exact hsz) (by rw [b1, b5, b50, b51, hX, hY]; exact hW)
  have bm := does_eq (s := sm) (a := a) (t := t) (X := X) (Y := Y) (Z := Z) (W := W) (by omega) ht hAa hsz (fun q => (tk 0 (by omega) (o4 q)).trans hX) (fun q => (tk 1 (by omega) q).trans hY) (fun q => (tk 2 (by omega) q).trans hZ) hW
  rw [hX, hY, hZ, b1, b5, b8] at bx
  refine ⟨W, _, _, _, _, fun q => ⟨bx.1 q, bm.1 q, fun D' hD => ?_⟩, fun q => ⟨bx.2 q, bm.2 q⟩⟩
  -- a row's place is below the size
  have place : gA sm 0 0 a = 4 ∨ gA sm 0 0 a = 5 → ∃ s i : Nat, s < 8 ∧ (i : Int) < (gA sm 0 23 s).toInt ∧ plN (gA sm 0 4) a X = 40 * s + i ∧ i < 40 := fun q' => by
    have hs := o2 q'
    have cs := fx_cl hs.1
    unfold opW at hW
    rw [if_pos q', q] at hW
    have hp := why_place hW (hsz _ (by have := hs.2; omega))
    exact ⟨(gA sm 0 4 a).toNatClampNeg, X.toInt.toNat, by have := hs.2; omega, by omega, rfl, by omega⟩
  have hV : opV (gA sm 0 0) (gA sm 0 4) (gL sm 0 8) a X Y Z (gL sx 5 2) = opV (gA sm 0 0) (gA sm 0 4) (gL sm 0 8) a X Y Z (gL sm 0 21) := by
    unfold opV
    by_cases c0 : gA sm 0 0 a = 0
    · rw [if_pos c0, if_pos c0]
    rw [if_neg c0, if_neg c0]
    by_cases c1 : gA sm 0 0 a = 1
    · rw [if_pos c1, if_pos c1]
    rw [if_neg c1, if_neg c1]
    by_cases c2 : gA sm 0 0 a = 2
    · rw [if_pos c2, if_pos c2]
    rw [if_neg c2, if_neg c2]
    by_cases c3 : gA sm 0 0 a = 3
    · rw [if_pos c3, if_pos c3]
    rw [if_neg c3, if_neg c3]
    by_cases c4 : gA sm 0 0 a = 4
    · obtain ⟨s, i, p1, p2, p3, -⟩ := place (Or.inl c4)
      rw [if_pos c4, if_pos c4, p3, e1 s i p1 p2]
    rw [if_neg c4, if_neg c4]
    by_cases c5 : gA sm 0 0 a = 5
    · obtain ⟨s, i, p1, p2, p3, -⟩ := place (Or.inr c5)
      rw [if_pos c5, if_pos c5, p3, e1 s i p1 p2]
    rw [if_neg c5, if_neg c5]
  refine ⟨fun s i hs hi => ?_, fun x u h => ?_, fun q' x hq hx => ?_⟩
  · unfold opR
    by_cases c5 : gA sm 0 0 a = 5
    · rw [if_pos c5, if_pos c5, updL_i, updL_i]
      by_cases c : 40 * s + i = plN (gA sm 0 4) a X
      · rw [if_pos c, if_pos c]
      · rw [if_neg c, if_neg c]; exact e1 s i hs hi
    · rw [if_neg c5, if_neg c5]; exact e1 s i hs hi
  · obtain ⟨hx, h⟩ := hD x u h
    rw [updL_i, updL_i]
    by_cases c : x = a ∧ u = t
    · rw [c.1, c.2, if_pos rfl, if_pos rfl, hV]
    · rw [if_neg (by omega), if_neg (by omega)]
      rcases h with h | h
      · exact e2 x u h
      · exact absurd h c
  · rw [updL_i, if_neg (by omega)]
    exact e3 q' x hq hx
