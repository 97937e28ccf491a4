-- 85.attempt: the class's trial of one act: put in, or taken out again
def updN (T : Nat → Nat) (k x : Nat) : Nat → Nat := fun i => if i = k then x else T i
def SkX (sx0 sx : Sg) (n b a c tr : Nat) (T : Nat → Nat) : Prop := FrX sx0 sx ∧ gA sx 6 0 = gA sx0 6 0 ∧ gI sx 7 8 = nI b ∧ (∀ v, v < c → gA sx 7 9 v = nI (T v)) ∧ gI sx 7 10 = nI tr ∧ (∀ k t, k < 6 → t < b → gA sx 8 0 (60 * k + t) = nI (celN (gA sx0 1 3) (gA sx0 1 4) T b k t a)) ∧ (∀ m, 1 ≤ m → m ≤ a → CLv m (WH n (gA sx0 6 0) b (fun v => (T v : Int))) (lvO (gA sx 7 3) (m - 1))) ∧ FitP (gA sx0 1 3) (gA sx0 1 4) (gA sx0 1 10) T b a ∧ gI sx 3 2 = gI sx0 3 2 ∧ (∀ k, gI sx 4 k = gI sx0 4 k) ∧ (∀ k, gA sx 4 k = gA sx0 4 k) ∧ gI sx 3 1 = gI sx0 3 1
theorem wh_congr {n m b : Nat} {g : Nat → Int32} {τ τ' : Nat → Int} (h : ∀ v, v < m → τ v = τ' v) {j l : Nat} (hj : j < m) (hl : l < m) : WH n g b τ j l = WH n g b τ' j l := by
  unfold WH
  cases maN n g j l with
  | none => rfl
  | some w =>
    show some _ = some _
    rw [h j hj, h l hl]
theorem cl_tick {n m b : Nat} {g : Nat → Int32} {T T' : Nat → Nat} {C : Nat → Nat → Option Int} (h : CLv m (WH n g b (fun v => (T v : Int))) C) (e : ∀ v, v < m → T v = T' v) : CLv m (WH n g b (fun v => (T' v : Int))) C := cl_congr h (fun a b ha hb => wh_congr (m := m) (fun v hv => by show (T' v : Int) = T v; rw [e v hv]) ha hb) (fun _ _ _ _ => rfl)
theorem fit_congr {kind pat units : Nat → Int32} {T T' : Nat → Nat} {b m : Nat} (h : FitP kind pat units T b m) (e : ∀ v, v < m → T v = T' v) : FitP kind pat units T' b m := fun k t hk ht => by
  rw [← cel_congr (kind := kind) (pat := pat) (T := T) (T' := T') e]
  exact h k t hk ht
theorem frX_7A (s : Sg) (k : Nat) (f : Nat → Int32) : FrX s (pA s 7 k f) := ⟨fun _ _ _ _ _ => rfl, fun j k' _ _ h _ => by rw [gA_pA2, if_neg h], fun _ _ => rfl⟩
theorem frX_8A (s : Sg) (k : Nat) (f : Nat → Int32) : FrX s (pA s 8 k f) := ⟨fun _ _ _ _ _ => rfl, fun j k' _ _ _ h => by rw [gA_pA2, if_neg h], fun _ _ => rfl⟩
theorem frX_7I (s : Sg) (k : Nat) (v : Int32) : FrX s (pI s 7 k v) := ⟨fun j k' _ _ h => by rw [gI_pI, if_neg h], fun _ _ _ _ _ _ => rfl, fun _ _ => rfl⟩
/-- what the search needs of the body and of the waits -/
def SkB (sx0 : Sg) (n b : Nat) (l : List Ed) : Prop := n ≤ 16 ∧ 1 ≤ b ∧ b ≤ 60 ∧ (∀ v, v < n → inR (gA sx0 1 3 v) 0 5 ∧ inR (gA sx0 1 4 v) 0 255) ∧ (∀ k, k < 6 → inR (gA sx0 1 10 k) 0 4) ∧ WO (l.map (geI b)) (maN n (gA sx0 6 0)) ∧ ∀ j l x, maN n (gA sx0 6 0) j l = some x → -290 ≤ x ∧ x ≤ 50
theorem kind_nI {x : Int32} (h : inR x 0 5) : ∃ k, k < 6 ∧ x = nI k := ⟨x.toNatClampNeg, by have := fx_cl h.1; have := h.2; omega, fx_nI h.1⟩
theorem leave_eq {s sx0 : Sg} {n b a : Nat} {l : List Ed} {T : Nat → Nat} (hB : SkB sx0 n b l) (ha : a < n) (hT : T a ≤ 60) (hF : FrX sx0 s) (h8 : gI s 7 8 = nI b) (h9 : gA s 7 9 a = nI (T a)) (h0 : ∀ k t, k < 6 → t < b → gA s 8 0 (60 * k + t) = nI (celN (gA sx0 1 3) (gA sx0 1 4) T b k t (a + 1))) : ∃ f', m_X8_leave (nI a) s = some ((), pA (pA s 8 0 f') 7 9 (upd (gA s 7 9) a (nI (T a + 1)))) ∧ ∀ k t, k < 6 → t < b → f' (60 * k + t) = nI (celN (gA sx0 1 3) (gA sx0 1 4) T b k t a) := by
  obtain ⟨hn, hb1, hb, hbo, -⟩ := hB
  obtain ⟨k0, hk0, ek⟩ := kind_nI (hbo a ha).1
  have e3 : gA s 1 3 = gA sx0 1 3 := hF.2.1 1 3 (by omega) (by omega) (by omega) (by omega)
  have e4 : gA s 1 4 = gA sx0 1 4 := hF.2.1 1 4 (by omega) (by omega) (by omega) (by omega)
  obtain ⟨f', most, q1, q2⟩ := change_out (s := s) (j := 8) (a := a) (b := b) (k0 := k0) (T := T) (f := gA s 8 0) (by omega) (by omega) hb1 hb (by omega) hk0 (by rw [e3]; exact ek) (by rw [e3, e4]; exact h0)
  rw [pA_self] at q1
  rw [e3, e4] at q2
  have va : vpb (nI a) 16 = true := vpb_nI (by omega) (by omega)
  have ca := nI_clamp (show a < 2 ^ 31 by omega)
  have hg : ¬ nI a < 0 := by rw [fx_lt, nI_toInt (by omega), ti_0]; omega
  have b9 : gA (pA s 8 0 f') 7 9 = gA s 7 9 := rfl
  refine ⟨f', ?_, q2⟩
  simp only [m_X8_leave, if_neg hg, lAk, sAk, if_pos va, ca, h9, gIk, h8, q1, clk_some, b9, nI_1]
theorem attempt_eq {sx0 sx : Sg} {n b a tr : Nat} {l : List Ed} {T : Nat → Nat} (hB : SkB sx0 n b l) (ha : a < n) (htr : tr < 3000) (hT : ∀ v, v ≤ a → T v < b) (h : SkX sx0 sx n b a (a + 1) tr T) : ∃ sy, (m_X8_attempt (nI a) sx = some (1, sy) ∧ SkX sx0 sy n b (a + 1) (a + 1) (tr + 1) T) ∨ (m_X8_attempt (nI a) sx = some (0, sy) ∧ SkX sx0 sy n b a (a + 1) (tr + 1) (updN T a (T a + 1)) ∧ (¬ FitP (gA sx0 1 3) (gA sx0 1 4) (gA sx0 1 10) T b (a + 1) ∨ ∀ P, ¬ LeastG (a + 1) (hdL (a + 1) b (fun v => (T v : Int)) l) P)) := by
  obtain ⟨hn, hb1, hb, hbo, hun, hWO, hgb⟩ := id hB
  obtain ⟨hF, h60, h78, h79, h710, hc, hlv, hfit, hw⟩ := h
  obtain ⟨k0, hk0, ek⟩ := kind_nI (hbo a ha).1
  obtain ⟨s1, hs1⟩ : ∃ s, s = pI sx 7 10 (nI (tr + 1)) := ⟨_, rfl⟩
  have F1 : FrX sx0 s1 := by rw [hs1]; exact hF.trans (frX_7I _ _ _)
  have e3 : gA s1 1 3 = gA sx0 1 3 := F1.2.1 1 3 (by omega) (by omega) (by omega) (by omega)
  have e4 : gA s1 1 4 = gA sx0 1 4 := F1.2.1 1 4 (by omega) (by omega) (by omega) (by omega)
  have g8 : gA s1 8 0 = gA sx 8 0 := by rw [hs1]; rfl
  have g9 : gA s1 7 9 = gA sx 7 9 := by rw [hs1]; rfl
  have g3 : gA s1 7 3 = gA sx 7 3 := by rw [hs1]; rfl
  have g6 : gA s1 6 0 = gA sx0 6 0 := by rw [hs1]; exact h60
  have i8 : gI s1 7 8 = nI b := by rw [hs1]; exact h78
  have i10 : gI s1 7 10 = nI (tr + 1) := by rw [hs1]; rfl
  have w1 : gI s1 3 2 = gI sx0 3 2 ∧ (∀ k, gI s1 4 k = gI sx0 4 k) ∧ (∀ k, gA s1 4 k = gA sx0 4 k) ∧ gI s1 3 1 = gI sx0 3 1 := by rw [hs1]; exact hw
  obtain ⟨f', most, q1, q2, q3⟩ := change_in (s := s1) (j := 8) (a := a) (b := b) (k0 := k0) (T := T) (f := gA s1 8 0) (by omega) (by omega) hb1 hb (by have := hT a (by omega); omega) hk0 (by rw [e3]; exact ek) (by rw [e4]; exact (hbo a ha).2) (by rw [e3, e4, g8]; exact hc)
  rw [pA_self] at q1
  rw [e3, e4] at q2 q3
  have va : vpb (nI a) 16 = true := vpb_nI (by omega) (by omega)
  have ca := nI_clamp (show a < 2 ^ 31 by omega)
  have vk : vpb (nI k0) 6 = true := vpb_nI (by omega) (by omega)
  have ck := nI_clamp (show k0 < 2 ^ 31 by omega)
  have h9a : gA sx 7 9 a = nI (T a) := h79 a (by omega)
  have hit := q3 (gA sx0 1 10 k0).toInt (hun k0 hk0).1 (fun t ht => hfit k0 t hk0 ht)
  have ek1 : gA s1 1 3 a = nI k0 := by rw [e3]; exact ek
  have e10 : gA s1 1 10 = gA sx0 1 10 := F1.2.1 1 10 (by omega) (by omega) (by omega) (by omega)
  obtain ⟨s2, hs2⟩ : ∃ s, s = pA s1 8 0 f' := ⟨_, rfl⟩
  rw [← hs2] at q1
  have F2 : FrX sx0 s2 := by rw [hs2]; exact F1.trans (frX_8A _ _ _)
  have p13 : gA s2 1 3 = gA s1 1 3 := by rw [hs2]; rfl
  have p110 : gA s2 1 10 = gA s1 1 10 := by rw [hs2]; rfl
  have p9 : gA s2 7 9 = gA sx 7 9 := by rw [hs2]; exact g9
  have p3 : gA s2 7 3 = gA sx 7 3 := by rw [hs2]; exact g3
  have p6 : gA s2 6 0 = gA sx0 6 0 := by rw [hs2]; exact g6
  have p8 : gA s2 8 0 = f' := by rw [hs2]; rfl
  have pi8 : gI s2 7 8 = nI b := by rw [hs2]; exact i8
  have pi10 : gI s2 7 10 = nI (tr + 1) := by rw [hs2]; exact i10
  have w2 : gI s2 3 2 = gI sx0 3 2 ∧ (∀ k, gI s2 4 k = gI sx0 4 k) ∧ (∀ k, gA s2 4 k = gA sx0 4 k) ∧ gI s2 3 1 = gI sx0 3 1 := by rw [hs2]; exact w1
  have add1 : nI tr + 1 = nI (tr + 1) := nI_1 tr
  -- what a failed trial leaves
  have back : ∀ f4 f5, ∃ sy, m_X8_leave (nI a) (pA (pA s2 7 4 f4) 7 5 f5) = some ((), sy) ∧ SkX sx0 sy n b a (a + 1) (tr + 1) (updN T a (T a + 1)) := fun f4 f5 => by
    obtain ⟨f8, y1, y2⟩ := leave_eq (s := pA (pA s2 7 4 f4) 7 5 f5) (T := T) hB ha (by have := hT a (by omega); omega) ((F2.trans (frX_7A _ _ _)).trans (frX_7A _ _ _)) pi8 (by show gA s2 7 9 a = _; rw [p9]; exact h9a) (fun k t hk ht => by
      show gA s2 8 0 (60 * k + t) = _
      rw [p8]; exact q2 k t hk ht)
    refine ⟨_, y1, (((F2.trans (frX_7A _ _ _)).trans (frX_7A _ _ _)).trans (frX_8A _ _ _)).trans (frX_7A _ _ _), p6, pi8, fun v hv => ?_, pi10, fun k t hk ht => ?_, fun m hm1 hm2 => ?_, ?_, w2⟩
    · show upd (gA s2 7 9) a (nI (T a + 1)) v = nI (updN T a (T a + 1) v)
      unfold updN
      rw [upd_i, p9]
      by_cases e : v = a
      · rw [if_pos e, if_pos e]
      · rw [if_neg e, if_neg e]
        exact h79 v hv
    · show f8 (60 * k + t) = _
      rw [y2 k t hk ht]
      exact congrArg nI (cel_congr (fun v hv => by unfold updN; rw [if_neg (by omega)]))
    · show CLv m _ (lvO (gA s2 7 3) (m - 1))
      rw [p3]
      exact cl_tick (hlv m hm1 hm2) (fun v hv => by unfold updN; rw [if_neg (by omega)])
    · exact fit_congr hfit (fun v hv => by unfold updN; rw [if_neg (by omega)])
  have eself : pA (pA s2 7 4 (gA s2 7 4)) 7 5 (gA s2 7 5) = s2 := by rw [pA_self, pA_self]
  by_cases c : gA sx0 1 10 k0 < most
  · obtain ⟨sy, y1, y2⟩ := back (gA s2 7 4) (gA s2 7 5)
    rw [eself] at y1
    refine ⟨sy, Or.inr ⟨?_, y2, Or.inl fun hf => ?_⟩⟩
    · simp only [m_X8_attempt, gIk, h710, sIk, add1, ← hs1, lAk, if_pos va, ca, g9, h9a, i8, q1, clk_some, nmk, p13, ek1, if_pos vk, ck, p110, e10, if_pos c, y1]
    · have := hit.mpr (fun t ht => hf k0 t hk0 ht)
      rw [fx_lt] at c
      omega
  have hfit2 : FitP (gA sx0 1 3) (gA sx0 1 4) (gA sx0 1 10) T b (a + 1) := fun k t hk ht => by
    by_cases e : k = k0
    · subst e
      have c' : most.toInt ≤ (gA sx0 1 10 k).toInt := by rw [fx_lt] at c; omega
      exact hit.mp c' t ht
    · have : ¬ gA sx0 1 3 a = nI k := fun q => by
        rw [ek] at q
        exact e (nI_inj (by omega) (by omega) q).symm
      show ((celN (gA sx0 1 3) (gA sx0 1 4) T b k t a + (if gA sx0 1 3 a = nI k then _ else 0) : Nat) : Int) ≤ _
      rw [if_neg this, Nat.add_zero]
      exact hfit k t hk ht
  have hcl : CLv a (WH n (gA sx0 6 0) b (fun v => (T v : Int))) (lvO (gA sx 7 3) (a - 1)) := by
    by_cases e : a = 0
    · subst e; exact cl_0
    · exact hlv a (by omega) (Nat.le_refl _)
  have hbd := (cl_bd (m := a) (by omega) hb1 hWO hgb (fun v hv => ⟨by omega, by have := hT v (by omega); omega⟩) hcl).1
  have hWb : ∀ j l, j < a + 1 → l < a + 1 → ∀ x, WH n (gA sx0 6 0) b (fun v => (T v : Int)) j l = some x → -290 ≤ x ∧ x ≤ 60 := fun j l hj hl x hx => wh_bd hb1 hgb (m := a + 1) (fun v hv => ⟨by omega, by have := hT v (by omega); omega⟩) hj hl hx
  obtain ⟨f4, f5, k⟩ := can_eq (s := s2) (τ := fun v => (T v : Int)) hn ha hb1 hb pi8 (by rw [p6]; exact hgb) (fun v hv => by
      have := hT v hv
      rw [p9, h79 v (by omega), nI_toInt (by omega)]
      exact ⟨rfl, by omega, by omega⟩) (by rw [p3]; exact hbd)
  rw [p6, p3] at k
  rcases k with ⟨k1, k2, k3, k4⟩ | ⟨k1, k2⟩
  · obtain ⟨f6, f7, f3, y1, y2, y3⟩ := chain_eq (s := pA (pA s2 7 4 f4) 7 5 f5) (a := a) (W := WH n (gA sx0 6 0) b (fun v => (T v : Int))) (by omega) (by show BdC a (lvO (gA s2 7 3) (a - 1)); rw [p3]; exact hbd) hWb (fun j hj => (k2 j hj).1) (fun j hj => (k2 j hj).2)
    have y2' : ∀ q, q < 256 * a → f3 q = gA sx 7 3 q := fun q hq => by
      have e : gA (pA (pA s2 7 4 f4) 7 5 f5) 7 3 = gA sx 7 3 := p3
      rw [y2 q hq, e]
    have y3' : ∀ j l, j < a + 1 → l < a + 1 → lvO f3 a j l = fwO a (neO (lvO (gA sx 7 3) (a - 1)) (WH n (gA sx0 6 0) b (fun v => (T v : Int))) a) j l := fun j l hj hl => by
      have e : gA (pA (pA s2 7 4 f4) 7 5 f5) 7 3 = gA sx 7 3 := p3
      rw [y3 j l hj hl, e]
    refine ⟨pA (pA (pA (pA (pA s2 7 4 f4) 7 5 f5) 7 6 f6) 7 7 f7) 7 3 f3, Or.inl ⟨?_, ((((F2.trans (frX_7A _ _ _)).trans (frX_7A _ _ _)).trans (frX_7A _ _ _)).trans (frX_7A _ _ _)).trans (frX_7A _ _ _), p6, pi8, fun v hv => ?_, pi10, fun k t hk ht => ?_, fun m hm1 hm2 => ?_, hfit2, w2⟩⟩
    · simp only [m_X8_attempt, gIk, h710, sIk, add1, ← hs1, lAk, if_pos va, ca, g9, h9a, i8, q1, clk_some, nmk, p13, ek1, if_pos vk, ck, p110, e10, if_neg c, k1, if_neg (show ¬ (1 : Int32) = 0 by decide), y1]
    · show gA s2 7 9 v = _
      rw [p9]; exact h79 v hv
    · show gA s2 8 0 (60 * k + t) = _
      rw [p8]; exact q2 k t hk ht
    · show CLv m _ (lvO f3 (m - 1))
      by_cases e : m = a + 1
      · subst e
        exact cl_congr (cl_step hcl k3 k4 (fun j l hj hl x hx => (hWb j l hj hl x hx).1)) (fun _ _ _ _ => rfl) (fun j l hj hl => y3' j l hj hl)
      · refine cl_congr (hlv m hm1 (by omega)) (fun _ _ _ _ => rfl) (fun j l hj hl => ?_)
        unfold lvO
        rw [y2' _ (by omega)]
  · obtain ⟨sy, y1, y2⟩ := back f4 f5
    refine ⟨sy, Or.inr ⟨?_, y2, Or.inr fun P hP => ?_⟩⟩
    · simp only [m_X8_attempt, gIk, h710, sIk, add1, ← hs1, lAk, if_pos va, ca, g9, h9a, i8, q1, clk_some, nmk, p13, ek1, if_pos vk, ck, p110, e10, if_neg c, k1, if_true, y1]
    · have hs := (wh_sol hb1 hWO P).mp hP.2.1
      rcases k2 with r | ⟨x, x1, x2⟩
      · exact cl_ring hcl r P hs
      · have := hs a a (by omega) (by omega) x x1
        omega
