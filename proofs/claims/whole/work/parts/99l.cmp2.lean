-- 99l.cmp2: compare: a plain run of the class, told act by act
def PX (j : Nat) (s0 s : Sg) (Rt : Nat → Nat → Nat → Int64) (n t a : Nat) : Prop := FrR j s0 s ∧ (∀ q x, q < 4 → x < 16 → gL s 13 3 (16 * q + x) = gL s0 1 9 x) ∧ gL s 5 2 = Rt t a ∧ Rt 0 0 = gL s0 5 2 ∧ (∀ u, u < t → Rt (u + 1) 0 = Rt u n) ∧ (∀ x u, x < n → (u < t ∨ (u = t ∧ x < a)) → EvX s0 (gL s 13 3) (Rt u x) (Rt u (x + 1)) x u) ∧ gI s j 0 = 0 ∧ gI s j 1 = -1 ∧ gI s j 2 = -1
/-- an earlier act stands, whatever is written at a later place -/
theorem ev_stay {s0 : Sg} {n x u : Nat} (hC : XC s0 n) (hx : x < n) {E E' R R' : Nat → Int64} (hf : ∀ q y, q < 4 → y < 16 → E (16 * q + y) = E' (16 * q + y)) (he : ∀ y v, y < n → (v < u ∨ (v = u ∧ y ≤ x)) → E (16 * (4 + v) + y) = E' (16 * (4 + v) + y)) (h : EvX s0 E R R' x u) : EvX s0 E' R R' x u := by
  obtain ⟨h1, h2, h3⟩ := h
  have tk : ∀ w, w < 3 → 0 ≤ (gA s0 1 6 (3 * x + w)).toInt → tkX E (gA s0 1 6) (gA s0 1 7) x w u = tkX E' (gA s0 1 6) (gA s0 1 7) x w u := fun w hw h0 => tk_same hC hx hw h0 hf (fun y v hy hv _ => he y v hy (by omega))
  obtain ⟨g1, g2, g3⟩ := op_congr (size := gA s0 5 0) (wide := gA s0 5 1) (number := gL s0 1 8) (hC.2.2.2.1 x hx) (tk 0 (by omega)) (tk 1 (by omega)) (tk 2 (by omega))
  refine ⟨g1 ▸ h1, ?_, ?_⟩
  · rw [← he x u hx (by omega), h2, g2]
  · rw [h3, g3]
theorem px_act {s0 s : Sg} {n j t a : Nat} {Rt : Nat → Nat → Nat → Int64} (hj : j = 14 ∨ j = 15 ∨ j = 16) (hC : XC s0 n) (ht : t < 200) (ha : a < n) (h : PX j s0 s Rt n t a) (x1 : Int32) : ∃ s', m_X7_goPlain_L17 j x1 (nI t) (nI a) s = some (.inl (nI (a + 1), s')) ∧ ((∃ Rt', PX j s0 s' Rt' n t (a + 1)) ∨ (FrR j s0 s' ∧ gL s' 13 3 = gL s 13 3 ∧ gL s' 5 2 = gL s 5 2 ∧ ¬ gI s' j 0 = 0 ∧ gI s' j 1 = nI a ∧ gI s' j 2 = nI t ∧ opW (gA s0 1 1) (gA s0 1 5) (gA s0 5 0) (gA s0 5 1) a (tkX (gL s 13 3) (gA s0 1 6) (gA s0 1 7) a 0 t) (tkX (gL s 13 3) (gA s0 1 6) (gA s0 1 7) a 1 t) = gI s' j 0)) := by
  obtain ⟨hx1, hn, hn0, hAct, hsz, hops⟩ := id hC
  obtain ⟨f, p1, p2, p3, p4, p5, p6, p7, p8⟩ := h
  have va : vpb (nI a) 16 = true := vpb_nI (by omega) (by omega)
  have ca := nI_clamp (show a < 2 ^ 31 by omega)
  have ex1 : gI s 1 0 = nI n := (f.1 1 0 (by omega)).trans hx1
  have A : ∀ x y, gA s x y = gA s0 x y := fun x y => f.2.1 x y
  have l18 : gL s 1 8 = gL s0 1 8 := f.2.2 1 8 (by omega) (by omega) (by omega)
  generalize hW : opW (gA s0 1 1) (gA s0 1 5) (gA s0 5 0) (gA s0 5 1) a (tkX (gL s 13 3) (gA s0 1 6) (gA s0 1 7) a 0 t) (tkX (gL s 13 3) (gA s0 1 6) (gA s0 1 7) a 1 t) = W
  have bx := begin_eq (s := s) (j := j) (a := a) (t := t) (W := W) hj (by omega) ht (by rw [A, A, A, A]; exact hAct a ha) (by rw [A]; exact hsz) (by rw [A, A, A, A, A, A]; exact hW)
  rw [A, A, A, A, l18] at bx
  have X1 : m_X7_goPlain_L17 j x1 (nI t) (nI a) s = clk (m_X7_begin j (nI a) (nI t) s) fun _ s6 => gIk s6 j 4 fun v7 => lAk s6 1 2 16 (nI a) fun v8 => sIk s6 j 4 (v7 + v8) fun s9 => nmk (nI a + 1) fun a10 => some (.inl (a10, s9)) := by
    rw [m_X7_goPlain_L17, gIk, ex1, if_neg (nI_ge ha (by omega)), gIk, if_pos p6]
  by_cases c : W = 0
  · have b1 := bx.1 c
    generalize hE' : vp_updL (gL s 13 3) (16 * (4 + t) + a) (opV (gA s0 1 1) (gA s0 1 5) (gL s0 1 8) a (tkX (gL s 13 3) (gA s0 1 6) (gA s0 1 7) a 0 t) (tkX (gL s 13 3) (gA s0 1 6) (gA s0 1 7) a 1 t) (tkX (gL s 13 3) (gA s0 1 6) (gA s0 1 7) a 2 t) (gL s 5 2)) = E' at b1
    generalize hR' : opR (gA s0 1 1) (gA s0 1 5) a (tkX (gL s 13 3) (gA s0 1 6) (gA s0 1 7) a 0 t) (tkX (gL s 13 3) (gA s0 1 6) (gA s0 1 7) a 1 t) (gL s 5 2) = R' at b1
    obtain ⟨s6, hs6⟩ : ∃ x, x = pL (pL (pI s j 3 (gI s j 3 + 1)) 5 2 R') 13 3 E' := ⟨_, rfl⟩
    rw [← hs6] at b1
    have f6 : FrR j s0 s6 := by rw [hs6]; exact ((f.trans (frR_I j _ _ _)).trans (frR_5 j _ _)).trans (frR_13 j _ _)
    have L13 : gL s6 13 3 = E' := by rw [hs6]; rfl
    have L5 : gL s6 5 2 = R' := by rw [hs6]; rfl
    have ii : ∀ k, k ≠ 3 → gI s6 j k = gI s j k := fun k hk => by
      rw [hs6]
      show gI (pI s j 3 (gI s j 3 + 1)) j k = _
      rw [gI_pI, if_pos rfl, if_neg hk]
    have same : ∀ y v, y < 16 → ¬ (y = a ∧ v = t) → gL s 13 3 (16 * (4 + v) + y) = E' (16 * (4 + v) + y) := fun y v hy hne => by rw [← hE', updL_i, if_neg (by omega)]
    have samef : ∀ q y, q < 4 → y < 16 → gL s 13 3 (16 * q + y) = E' (16 * q + y) := fun q y hq hy => by rw [← hE', updL_i, if_neg (by omega)]
    refine ⟨pI s6 j 4 (gI s6 j 4 + gA s6 1 2 a), ?_, Or.inl ⟨fun u x => if u = t ∧ x = a + 1 then R' else Rt u x, f6.trans (frR_I j _ _ _), fun q x hq hx => ?_, ?_, ?_, fun u hu => ?_, fun x u hx hu => ?_, ?_, ?_, ?_⟩⟩
    · rw [X1, b1, clk_some, gIk, lAk, if_pos va, ca, sIk, nmk, nI_1]
    · show gL s6 13 3 (16 * q + x) = _
      rw [L13, ← samef q x hq hx]
      exact p1 q x hq hx
    · show gL s6 5 2 = if t = t ∧ a + 1 = a + 1 then R' else Rt t (a + 1)
      rw [L5, if_pos ⟨rfl, rfl⟩]
    · show (if 0 = t ∧ 0 = a + 1 then R' else Rt 0 0) = _
      rw [if_neg (by omega)]; exact p3
    · show (if u + 1 = t ∧ 0 = a + 1 then R' else Rt (u + 1) 0) = (if u = t ∧ n = a + 1 then R' else Rt u n)
      rw [if_neg (by omega), if_neg (by omega)]
      exact p4 u hu
    · show EvX s0 (gL s6 13 3) (if u = t ∧ x = a + 1 then R' else Rt u x) (if u = t ∧ x + 1 = a + 1 then R' else Rt u (x + 1)) x u
      rw [L13]
      by_cases cx : x = a ∧ u = t
      · obtain ⟨rfl, rfl⟩ := cx
        rw [if_neg (by omega), if_pos ⟨rfl, rfl⟩]
        have tk : ∀ w, w < 3 → 0 ≤ (gA s0 1 6 (3 * x + w)).toInt → tkX (gL s 13 3) (gA s0 1 6) (gA s0 1 7) x w u = tkX E' (gA s0 1 6) (gA s0 1 7) x w u := fun w hw h0 => tk_same hC hx hw h0 samef (fun y v hy hv _ => same y v (by omega) (by omega))
        obtain ⟨g1, g2, g3⟩ := op_congr (size := gA s0 5 0) (wide := gA s0 5 1) (number := gL s0 1 8) (hC.2.2.2.1 x hx) (tk 0 (by omega)) (tk 1 (by omega)) (tk 2 (by omega))
        refine ⟨?_, ?_, ?_⟩
        · rw [← g1, hW]; exact c
        · rw [← g2, ← p2, ← hE', updL_i, if_pos rfl]
        · rw [← g3, ← p2, hR']
      · rw [if_neg (by omega), if_neg (by omega)]
        refine ev_stay hC hx samef (fun y v hy hv => same y v (by omega) (by omega)) (p5 x u hx ?_)
        omega
    · rw [gI_pI, if_pos rfl, if_neg (by omega), ii 0 (by omega)]; exact p6
    · rw [gI_pI, if_pos rfl, if_neg (by omega), ii 1 (by omega)]; exact p7
    · rw [gI_pI, if_pos rfl, if_neg (by omega), ii 2 (by omega)]; exact p8
  · have b1 := bx.2 c
    obtain ⟨s6, hs6⟩ : ∃ x, x = pI (pI (pI (pI s j 3 (gI s j 3 + 1)) j 0 W) j 1 (nI a)) j 2 (nI t) := ⟨_, rfl⟩
    rw [← hs6] at b1
    have f6 : FrR j s0 s6 := by rw [hs6]; exact (((f.trans (frR_I j _ _ _)).trans (frR_I j _ _ _)).trans (frR_I j _ _ _)).trans (frR_I j _ _ _)
    have L6 : ∀ x y, gL s6 x y = gL s x y := fun x y => by rw [hs6]; rfl
    have i6 : gI s6 j 0 = W ∧ gI s6 j 1 = nI a ∧ gI s6 j 2 = nI t := by
      rw [hs6]
      refine ⟨?_, ?_, ?_⟩ <;> simp [gI_pI]
    have z : ∀ k, k ≠ 4 → gI (pI s6 j 4 (gI s6 j 4 + gA s6 1 2 a)) j k = gI s6 j k := fun k hk => by rw [gI_pI, if_pos rfl, if_neg hk]
    refine ⟨pI s6 j 4 (gI s6 j 4 + gA s6 1 2 a), ?_, Or.inr ⟨f6.trans (frR_I j _ _ _), L6 13 3, L6 5 2, ?_, ?_, ?_, ?_⟩⟩
    · rw [X1, b1, clk_some, gIk, lAk, if_pos va, ca, sIk, nmk, nI_1]
    · rw [z 0 (by omega), i6.1]; exact c
    · rw [z 1 (by omega), i6.2.1]
    · rw [z 2 (by omega), i6.2.2]
    · rw [z 0 (by omega), i6.1]
