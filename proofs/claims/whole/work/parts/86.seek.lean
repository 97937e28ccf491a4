-- 86.seek: the class's seek and the reference's tries go side by side
def SkM (sm0 sm : Sg) (c tr : Nat) (T : Nat → Nat) : Prop := FrG sm0 sm ∧ gI sm 0 20 = gI sm0 0 20 ∧ gA sm 0 16 = gA sm0 0 16 ∧ gA sm 0 17 = gA sm0 0 17 ∧ gA sm 0 18 = gA sm0 0 18 ∧ gA sm 0 19 = gA sm0 0 19 ∧ (∀ v, v < c → gA sm 0 34 v = nI (T v)) ∧ gI sm 0 32 = nI tr
/-- what the search needs of the reference's side -/
def SkN (sx0 sm0 : Sg) (n : Nat) (l : List Ed) : Prop := gA sm0 0 2 = gA sx0 1 3 ∧ gA sm0 0 3 = gA sx0 1 4 ∧ gA sm0 0 10 = gA sx0 1 10 ∧ gI sm0 0 9 = nI n ∧ gI sx0 1 0 = nI n ∧ LR (gI sm0 0 20) (gA sm0 0 16) (gA sm0 0 17) (gA sm0 0 18) (gA sm0 0 19) l ∧ l.length ≤ 704 ∧ ∀ e ∈ l, okEd n e
theorem frG_A (s : Sg) {k : Nat} (hk : k = 33 ∨ k = 34 ∨ k = 35) (f : Nat → Int32) : FrG s (pA s 0 k f) := ⟨fun _ _ _ => rfl, fun k' h => by rw [gA_pA2, if_pos rfl, if_neg (by omega)], fun _ => rfl⟩
theorem frG_I (s : Sg) (v : Int32) : FrG s (pI s 0 32 v) := ⟨fun k h1 h2 => by rw [gI_pI, if_pos rfl, if_neg h2], fun _ _ => rfl, fun _ => rfl⟩
theorem t3000 : (3000 : Int32).toInt = 3000 := rfl
theorem t28_a {b x2 t0 x v : Int32} {sm s7 : Sg} (ht : ¬ x = t0) (h32 : gI sm 0 32 = v) (ne3 : ¬ v = 3000) (k1 : m_X12_fits (x2 + 1) b (pI sm 0 32 (v + 1)) = some (1, s7)) : m_X12_tries_28 b x2 t0 x sm = clk (m_X12_holds (x2 + 1) b s7) fun v12 s11 => if v12 = 0 then (m_X12_tries_95 b x2 s11) else nmk (x2 + 1) fun a13 => gIk s11 0 9 fun v14 => if a13 = v14 then (some (.inr (.inr (.inr s11)))) else sAk s11 0 34 16 a13 0 fun s15 => some (.inl (a13, s15)) := by
  subst h32
  rw [m_X12_tries_28, if_neg ht, gIk, if_neg ne3, gIk, sIk, k1, clk_some, if_neg (show ¬ (1 : Int32) = 0 by decide)]
theorem t28_end {b x2 t0 x v : Int32} {sm s7 s11 : Sg} (ht : ¬ x = t0) (h32 : gI sm 0 32 = v) (ne3 : ¬ v = 3000) (k1 : m_X12_fits (x2 + 1) b (pI sm 0 32 (v + 1)) = some (1, s7)) (k3 : m_X12_holds (x2 + 1) b s7 = some (1, s11)) (ee : x2 + 1 = gI s11 0 9) : m_X12_tries_28 b x2 t0 x sm = some (.inr (.inr (.inr s11))) := by
  rw [t28_a ht h32 ne3 k1, k3, clk_some, if_neg (show ¬ (1 : Int32) = 0 by decide), nmk, gIk, if_pos ee]
theorem t28_on {b x2 t0 x v : Int32} {sm s7 s11 : Sg} (ht : ¬ x = t0) (h32 : gI sm 0 32 = v) (ne3 : ¬ v = 3000) (k1 : m_X12_fits (x2 + 1) b (pI sm 0 32 (v + 1)) = some (1, s7)) (k3 : m_X12_holds (x2 + 1) b s7 = some (1, s11)) (ee : ¬ x2 + 1 = gI s11 0 9) (hv : vpb (x2 + 1) 16 = true) : m_X12_tries_28 b x2 t0 x sm = some (.inl (x2 + 1, pA s11 0 34 (upd (gA s11 0 34) (x2 + 1).toNatClampNeg 0))) := by
  rw [t28_a ht h32 ne3 k1, k3, clk_some, if_neg (show ¬ (1 : Int32) = 0 by decide), nmk, gIk, if_neg ee, sAk, if_pos hv]
theorem tryM {sx0 sm0 sm : Sg} {n b a tr : Nat} {l : List Ed} {T : Nat → Nat} (hB : SkB sx0 n b l) (hN : SkN sx0 sm0 n l) (ha : a < n) (htr : tr < 3000) (hT : ∀ v, v ≤ a → T v < b) (h : SkM sm0 sm (a + 1) tr T) {t0 : Int32} (ht : ¬ nI (T a) = t0) : ∃ sy, (SkM sm0 sy (a + 1) (tr + 1) T ∧ FitP (gA sx0 1 3) (gA sx0 1 4) (gA sx0 1 10) T b (a + 1) ∧ (∃ p, PRf (gA sy 0 33) p (a + 1) 2000000 ∧ LeastG (a + 1) (hdL (a + 1) b (fun v => (T v : Int)) l) p) ∧ (a + 1 = n → m_X12_tries_28 (nI b) (nI a) t0 (nI (T a)) sm = some (.inr (.inr (.inr sy)))) ∧ (a + 1 < n → m_X12_tries_28 (nI b) (nI a) t0 (nI (T a)) sm = some (.inl (nI (a + 1), pA sy 0 34 (upd (gA sy 0 34) (a + 1) 0))))) ∨ (m_X12_tries_28 (nI b) (nI a) t0 (nI (T a)) sm = some (.inl (nI a, sy)) ∧ SkM sm0 sy (a + 1) (tr + 1) (updN T a (T a + 1)) ∧ (¬ FitP (gA sx0 1 3) (gA sx0 1 4) (gA sx0 1 10) T b (a + 1) ∨ ∀ P, ¬ LeastG (a + 1) (hdL (a + 1) b (fun v => (T v : Int)) l) P)) := by
  obtain ⟨hn, hb1, hb, hbo, hun, hWO, hgb⟩ := id hB
  obtain ⟨n2, n3, n10, n9, nx, nl, nl2, nok⟩ := hN
  obtain ⟨hF, h20, h16, h17, h18, h19, h34, h32⟩ := h
  obtain ⟨s1, hs1⟩ : ∃ s, s = pI sm 0 32 (nI (tr + 1)) := ⟨_, rfl⟩
  have F1 : FrG sm0 s1 := by rw [hs1]; exact hF.trans (frG_I _ _)
  have g34 : gA s1 0 34 = gA sm 0 34 := by rw [hs1]; rfl
  have e2 : gA s1 0 2 = gA sx0 1 3 := (F1.2.1 2 (by omega)).trans n2
  have e3 : gA s1 0 3 = gA sx0 1 4 := (F1.2.1 3 (by omega)).trans n3
  have e10 : gA s1 0 10 = gA sx0 1 10 := (F1.2.1 10 (by omega)).trans n10
  have S1 : SkM sm0 s1 (a + 1) (tr + 1) T := ⟨F1, by rw [hs1]; exact h20, by rw [hs1]; exact h16, by rw [hs1]; exact h17, by rw [hs1]; exact h18, by rw [hs1]; exact h19, by rw [g34]; exact h34, by rw [hs1]; rfl⟩
  have ne3 : ¬ nI tr = 3000 := fun q => by
    rw [fx_eq, nI_toInt (by omega), t3000] at q
    omega
  have va : vpb (nI a) 16 = true := vpb_nI (by omega) (by omega)
  have ca := nI_clamp (show a < 2 ^ 31 by omega)
  have add1 : nI tr + 1 = nI (tr + 1) := nI_1 tr
  have fail : ∀ sz, SkM sm0 sz (a + 1) (tr + 1) T → ∃ sy, m_X12_tries_95 (nI b) (nI a) sz = some (.inl (nI a, sy)) ∧ SkM sm0 sy (a + 1) (tr + 1) (updN T a (T a + 1)) := fun sz S => by
    obtain ⟨z1, z2, z3, z4, z5, z6, z7, z8⟩ := S
    refine ⟨pA sz 0 34 (upd (gA sz 0 34) a (nI (T a + 1))), ?_, z1.trans (frG_A _ (by omega) _), z2, z3, z4, z5, z6, fun v hv => ?_, z8⟩
    · simp only [m_X12_tries_95, lAk, sAk, if_pos va, ca, z7 a (by omega), nI_1]
    · show upd (gA sz 0 34) a (nI (T a + 1)) v = nI (updN T a (T a + 1) v)
      unfold updN
      rw [upd_i]
      by_cases e : v = a
      · rw [if_pos e, if_pos e]
      · rw [if_neg e, if_neg e]; exact z7 v hv
  obtain ⟨f, k⟩ := fits_eq (s0 := s1) (T := T) (m := a + 1) (by omega) hb1 hb (by rw [g34]; exact h34) (fun v hv => by have := hT v (by omega); omega) (fun v hv => by rw [e3]; exact (hbo v (by omega)).2) (by rw [e10]; exact hun)
  rw [e2, e3, e10] at k
  have S2 : SkM sm0 (pA s1 0 35 f) (a + 1) (tr + 1) T := by
    obtain ⟨z1, z2, z3, z4, z5, z6, z7, z8⟩ := S1
    exact ⟨z1.trans (frG_A _ (by omega) _), z2, z3, z4, z5, z6, z7, z8⟩
  rcases k with ⟨k1, k2⟩ | ⟨k1, k2⟩
  case inr =>
    obtain ⟨sy, y1, y2⟩ := fail _ S2
    refine ⟨sy, Or.inr ⟨?_, y2, Or.inl k2⟩⟩
    simp only [m_X12_tries_28, if_neg ht, gIk, h32, if_neg ne3, sIk, add1, ← hs1, nI_1, k1, clk_some, if_true, y1]
  obtain ⟨q1, q2, q3, q4, q5, q6, q7, q8⟩ := id S2
  obtain ⟨f2, k⟩ := holds_eq (s0 := pA s1 0 35 f) (n := n) (m := a + 1) (b := b) (l := l) (τ := fun v => (T v : Int)) hn (by omega) hb1 hb (by rw [q2, q3, q4, q5, q6]; exact nl) nl2 nok (fun v hv => by
      have := hT v (by omega)
      rw [q7 v hv, nI_toInt (by omega)]
      exact ⟨rfl, by omega, by omega⟩)
  have S3 : SkM sm0 (pA (pA s1 0 35 f) 0 33 f2) (a + 1) (tr + 1) T := ⟨q1.trans (frG_A _ (by omega) _), q2, q3, q4, q5, q6, q7, q8⟩
  rcases k with ⟨k3, k4⟩ | ⟨k3, k4⟩
  case inr =>
    obtain ⟨sy, y1, y2⟩ := fail _ S3
    refine ⟨sy, Or.inr ⟨?_, y2, Or.inr k4⟩⟩
    simp only [m_X12_tries_28, if_neg ht, gIk, h32, if_neg ne3, sIk, add1, ← hs1, nI_1, k1, clk_some, if_neg (show ¬ (1 : Int32) = 0 by decide), k3, if_true, y1]
  obtain ⟨s3, hs3⟩ : ∃ s, s = pA (pA s1 0 35 f) 0 33 f2 := ⟨_, rfl⟩
  have e33 : gA s3 0 33 = f2 := by rw [hs3]; rfl
  rw [← hs3] at S3 k3
  have e9 : gI s3 0 9 = nI n := (S3.1.1 9 (by omega) (by omega)).trans n9
  refine ⟨s3, Or.inl ⟨S3, k2, by rw [e33]; exact k4, fun e => ?_, fun e => ?_⟩⟩
  · have ee : nI a + 1 = gI s3 0 9 := by rw [nI_1, e9, e]
    refine t28_end ht h32 ne3 (s7 := pA s1 0 35 f) ?_ ?_ ee
    · rw [nI_1, nI_1, ← hs1]; exact k1
    · rw [nI_1]; exact k3
  · have ee : ¬ nI a + 1 = gI s3 0 9 := fun q => by
      rw [nI_1, e9] at q
      have := nI_inj (x := a + 1) (y := n) (by omega) (by omega) q
      omega
    have r := t28_on (b := nI b) (x2 := nI a) ht h32 ne3 (s7 := pA s1 0 35 f) (s11 := s3) (by rw [nI_1, nI_1, ← hs1]; exact k1) (by rw [nI_1]; exact k3) ee (by rw [nI_1]; exact vpb_nI (show a + 1 < 16 by omega) (by omega))
    rw [r, nI_1, nI_clamp (show a + 1 < 2 ^ 31 by omega)]
def limN (b a : Nat) : Nat := if a = 0 then 1 else b
theorem lim_le {b a : Nat} (hb : 1 ≤ b) : limN b a ≤ b := by unfold limN; split <;> omega
theorem lim_1 {b a : Nat} (hb : 1 ≤ b) : 1 ≤ limN b a := by unfold limN; split <;> omega
/-- what a search without a finding leaves -/
def SkW (sx0 sm0 sx sm : Sg) : Prop := FrX sx0 sx ∧ FrG sm0 sm ∧ gA sx 6 0 = gA sx0 6 0 ∧ (gI sm 0 20 = gI sm0 0 20 ∧ gA sm 0 16 = gA sm0 0 16 ∧ gA sm 0 17 = gA sm0 0 17 ∧ gA sm 0 18 = gA sm0 0 18 ∧ gA sm 0 19 = gA sm0 0 19) ∧ (gI sx 3 2 = gI sx0 3 2 ∧ (∀ k, gI sx 4 k = gI sx0 4 k) ∧ (∀ k, gA sx 4 k = gA sx0 4 k) ∧ gI sx 3 1 = gI sx0 3 1) ∧ ∃ tr, tr ≤ 3000 ∧ gI sx 7 10 = nI tr ∧ gI sm 0 32 = nI tr
def SkF (sx0 sm0 sx sm : Sg) (n b : Nat) (l : List Ed) : Prop := ∃ T tr, tr ≤ 3000 ∧ (∀ v, v < n → T v < b) ∧ SkX sx0 sx n b n n tr T ∧ SkM sm0 sm n tr T ∧ ∃ p, PRf (gA sm 0 33) p n 2000000 ∧ LeastG n (hdL n b (fun v => (T v : Int)) l) p
theorem sk_w {sx0 sm0 sx sm : Sg} {n b a c tr c' : Nat} {T T' : Nat → Nat} (h1 : SkX sx0 sx n b a c tr T) (h2 : SkM sm0 sm c' tr T') (h : tr ≤ 3000) : SkW sx0 sm0 sx sm := ⟨h1.1, h2.1, h1.2.1, ⟨h2.2.1, h2.2.2.1, h2.2.2.2.1, h2.2.2.2.2.1, h2.2.2.2.2.2.1⟩, h1.2.2.2.2.2.2.2.2, tr, h, h1.2.2.2.2.1, h2.2.2.2.2.2.2.2⟩
theorem nI_pre (a : Nat) : nI (a + 1) + (-1) = nI a := by
  rw [← nI_1, Int32.add_assoc, show (1 : Int32) + -1 = 0 from rfl, Int32.add_zero]
theorem neg1 : (-1 : Int32).toInt = -1 := rfl
theorem s71_back {x2 x3 t0 t1 : Int32} {st s19 : Sg} (h : ¬ t1 < t0) (hl : m_X8_leave (x2 + (-1)) st = some ((), s19)) : m_X8_seek_71 x2 x3 t0 t1 st = some (.inl (x2 + (-1), x3 + 1, s19)) := by
  rw [m_X8_seek_71, if_neg h, nmk, hl, clk_some, nmk]
theorem s71_out {x2 x3 t0 t1 : Int32} {st : Sg} (h : t1 < t0) (h3 : ¬ gI st 7 10 < 3000) : m_X8_seek_71 x2 x3 t0 t1 st = some (.inr (.inr (.inr (.inr st)))) := by
  rw [m_X8_seek_71, if_pos h, gIk, if_neg h3]
theorem s71_no {x2 x3 t0 t1 : Int32} {st s10 : Sg} (h : t1 < t0) (h3 : gI st 7 10 < 3000) (ha : m_X8_attempt x2 st = some (0, s10)) : m_X8_seek_71 x2 x3 t0 t1 st = some (.inl (x2, x3 + 1, s10)) := by
  rw [m_X8_seek_71, if_pos h, gIk, if_pos h3, ha, clk_some, if_pos rfl, nmk, nmk]
theorem s71_yes {x2 x3 t0 t1 y : Int32} {st s10 s14 : Sg} (h : t1 < t0) (h3 : gI st 7 10 < 3000) (ha : m_X8_attempt x2 st = some (1, s10)) (he : m_X8_enter (x2 + 1) s10 = some (y, s14)) : m_X8_seek_71 x2 x3 t0 t1 st = some (.inl (y, x3 + 1, s14)) := by
  rw [m_X8_seek_71, if_pos h, gIk, if_pos h3, ha, clk_some, if_neg (show ¬ (1 : Int32) = 0 by decide), he, clk_some, nmk, nmk]
theorem sL_in {x2 x3 : Int32} {st : Sg} (h3 : ¬ (10000 : Int32) ≤ x3) (h1 : x2 < gI st 1 0) (h0 : (0 : Int32) ≤ x2) (hv : vpb x2 16 = true) (hz : ¬ x2 = 0) : m_X8_seek_L27 x2 x3 st = m_X8_seek_71 x2 x3 (gI st 7 8) (gA st 7 9 x2.toNatClampNeg) st := by
  rw [m_X8_seek_L27, if_neg h3, gIk, if_pos h1, if_pos h0, lAk, if_pos hv, if_neg hz, gIk]
theorem sL_in0 {x2 x3 : Int32} {st : Sg} (h3 : ¬ (10000 : Int32) ≤ x3) (h1 : x2 < gI st 1 0) (h0 : (0 : Int32) ≤ x2) (hv : vpb x2 16 = true) (hz : x2 = 0) : m_X8_seek_L27 x2 x3 st = m_X8_seek_71 x2 x3 1 (gA st 7 9 x2.toNatClampNeg) st := by
  rw [m_X8_seek_L27, if_neg h3, gIk, if_pos h1, if_pos h0, lAk, if_pos hv, if_pos hz]
theorem sL_low {x2 x3 : Int32} {st : Sg} (h3 : ¬ (10000 : Int32) ≤ x3) (h1 : x2 < gI st 1 0) (h0 : ¬ (0 : Int32) ≤ x2) : m_X8_seek_L27 x2 x3 st = some (.inr (.inr (.inr (.inl st)))) := by
  rw [m_X8_seek_L27, if_neg h3, gIk, if_pos h1, if_neg h0]
theorem sL_top {x2 x3 : Int32} {st : Sg} (h3 : ¬ (10000 : Int32) ≤ x3) (h1 : ¬ x2 < gI st 1 0) : m_X8_seek_L27 x2 x3 st = some (.inr (.inr (.inl st))) := by
  rw [m_X8_seek_L27, if_neg h3, gIk, if_neg h1]
theorem t28_back0 {b x2 t0 t1 : Int32} {st : Sg} (h : t1 = t0) (h2 : x2 + (-1) < 0) : m_X12_tries_28 b x2 t0 t1 st = some (.inl (x2 + (-1), st)) := by
  rw [m_X12_tries_28, if_pos h, nmk, if_pos h2]
theorem t28_back {b x2 t0 t1 : Int32} {st : Sg} (h : t1 = t0) (h2 : ¬ x2 + (-1) < 0) (hv : vpb (x2 + (-1)) 16 = true) : m_X12_tries_28 b x2 t0 t1 st = some (.inl (x2 + (-1), pA st 0 34 (upd (gA st 0 34) (x2 + (-1)).toNatClampNeg (gA st 0 34 (x2 + (-1)).toNatClampNeg + 1)))) := by
  rw [m_X12_tries_28, if_pos h, nmk, if_neg h2, lAk, if_pos hv, sAk, if_pos hv]
theorem t28_out {b x2 t0 t1 : Int32} {st : Sg} (h : ¬ t1 = t0) (h3 : gI st 0 32 = 3000) : m_X12_tries_28 b x2 t0 t1 st = some (.inr (.inr (.inl st))) := by
  rw [m_X12_tries_28, if_neg h, gIk, if_pos h3]
theorem tL_in {b x2 : Int32} {st : Sg} (h : ¬ x2 < 0) (hv : vpb x2 16 = true) (hz : ¬ x2 = 0) : m_X12_tries_L9 b x2 st = m_X12_tries_28 b x2 b (gA st 0 34 x2.toNatClampNeg) st := by
  rw [m_X12_tries_L9, if_neg h, lAk, if_pos hv, if_neg hz]
theorem tL_in0 {b x2 : Int32} {st : Sg} (h : ¬ x2 < 0) (hv : vpb x2 16 = true) (hz : x2 = 0) : m_X12_tries_L9 b x2 st = m_X12_tries_28 b x2 1 (gA st 0 34 x2.toNatClampNeg) st := by
  rw [m_X12_tries_L9, if_neg h, lAk, if_pos hv, if_pos hz]
theorem tL_low {b x2 : Int32} {st : Sg} (h : x2 < 0) : m_X12_tries_L9 b x2 st = some (.inr (.inl st)) := by
  rw [m_X12_tries_L9, if_pos h]
theorem enter_16 {x : Int32} {st : Sg} (h : (16 : Int32) ≤ x) : m_X8_enter x st = some (x, st) := by
  rw [m_X8_enter, if_pos h]
theorem enter_lo {x : Int32} {st : Sg} (h : ¬ (16 : Int32) ≤ x) (hv : vpb x 16 = true) : m_X8_enter x st = some (x, pA st 7 9 (upd (gA st 7 9) x.toNatClampNeg 0)) := by
  rw [m_X8_enter, if_neg h, sAk, if_pos hv]
def stepX (s : Int32 × Int32 × Sg) : Option ((Int32 × Int32 × Sg) ⊕ ((Sg) ⊕ ((Sg) ⊕ ((Sg) ⊕ (Sg))))) := m_X8_seek_L27 s.1 s.2.1 s.2.2
def stepM (b : Int32) (s : Int32 × Sg) : Option ((Int32 × Sg) ⊕ ((Sg) ⊕ ((Sg) ⊕ (Sg)))) := m_X12_tries_L9 b s.1 s.2
theorem seek_go {sx0 sm0 : Sg} {n b : Nat} {l : List Ed} (hB : SkB sx0 n b l) (hN : SkN sx0 sm0 n l) : ∀ (d a stp tr : Nat) (T : Nat → Nat) (sx sm : Sg) (N1 N2 : Nat), stp + d = 6003 → d < N1 → d < N2 → a < n → stp + a ≤ 2 * tr → tr ≤ 3000 → (∀ v, v < a → T v < limN b v) → T a ≤ limN b a → SkX sx0 sx n b a (a + 1) tr T → SkM sm0 sm (a + 1) tr T →
    ∃ sx' sm', (lp stepX N1 (nI a, nI stp, sx) = some (.inr (.inl sx')) ∧ lp (stepM (nI b)) N2 (nI a, sm) = some (.inr (.inr sm')) ∧ SkF sx0 sm0 sx' sm' n b l) ∨ (lp stepX N1 (nI a, nI stp, sx) = some (.inr (.inr (.inl sx'))) ∧ lp (stepM (nI b)) N2 (nI a, sm) = some (.inl sm') ∧ SkW sx0 sm0 sx' sm') ∨ (lp stepX N1 (nI a, nI stp, sx) = some (.inr (.inr (.inr sx'))) ∧ lp (stepM (nI b)) N2 (nI a, sm) = some (.inr (.inl sm')) ∧ SkW sx0 sm0 sx' sm') := by
  obtain ⟨hn, hb1, hb, hbo, hun, hWO, hgb⟩ := id hB
  intro d
  induction d with
  | zero => intro a stp tr T sx sm N1 N2 e1 _ _ ha e2 e3; omega
  | succ d ih =>
    intro a stp tr T sx sm N1 N2 e1 eN1 eN2 ha e2 e3 hT hTa hX hM
    obtain ⟨N1, rfl⟩ : ∃ M, N1 = M + 1 := ⟨N1 - 1, by omega⟩
    obtain ⟨N2, rfl⟩ : ∃ M, N2 = M + 1 := ⟨N2 - 1, by omega⟩
    have xn : ∀ sy, FrX sx0 sy → gI sy 1 0 = nI n := fun sy F => (F.1 1 0 (by omega) (by omega) (by omega)).trans hN.2.2.2.2.1
    have st1 : ∀ x, x ≤ 6003 → ¬ (10000 : Int32) ≤ nI x := fun x hx => by rw [fx_le, nI_toInt (by omega)]; have : (10000 : Int32).toInt = 10000 := rfl; omega
    have a_lt : nI a < nI n := nI_lt ha (by omega)
    have a_0 : (0 : Int32) ≤ nI a := by rw [fx_le, ti_0, nI_toInt (by omega)]; omega
    have a_n : ¬ nI a < 0 := by rw [fx_lt, ti_0, nI_toInt (by omega)]; omega
    have va : vpb (nI a) 16 = true := vpb_nI (by omega) (by omega)
    have ca := nI_clamp (show a < 2 ^ 31 by omega)
    have hx9 : gA sx 7 9 a = nI (T a) := hX.2.2.2.1 a (by omega)
    have hm34 : gA sm 0 34 a = nI (T a) := hM.2.2.2.2.2.2.1 a (by omega)
    have lb := lim_le (b := b) (a := a) hb1
    -- the limit as both sides read it
    have xlt : nI a < gI sx 1 0 := by rw [xn sx hX.1]; exact a_lt
    have xs : stepX (nI a, nI stp, sx) = m_X8_seek_71 (nI a) (nI stp) (nI (limN b a)) (nI (T a)) sx := by
      by_cases c : a = 0
      · have r := sL_in0 (st1 stp (by omega)) xlt a_0 va (show nI a = 0 by rw [c]; rfl)
        rw [ca, hx9] at r
        have el : nI (limN b a) = (1 : Int32) := by unfold limN; rw [if_pos c]; rfl
        rw [el]
        exact r
      · have r := sL_in (st1 stp (by omega)) xlt a_0 va (nI_ne0 (by omega) (by omega))
        have el : limN b a = b := if_neg c
        rw [ca, hx9, hX.2.2.1] at r
        rw [el]
        exact r
    have ms : stepM (nI b) (nI a, sm) = m_X12_tries_28 (nI b) (nI a) (nI (limN b a)) (nI (T a)) sm := by
      by_cases c : a = 0
      · have r := tL_in0 (b := nI b) a_n va (show nI a = 0 by rw [c]; rfl) (st := sm)
        rw [ca, hm34] at r
        have el : nI (limN b a) = (1 : Int32) := by unfold limN; rw [if_pos c]; rfl
        rw [el]
        exact r
      · have r := tL_in (b := nI b) a_n va (nI_ne0 (by omega) (by omega)) (st := sm)
        have el : limN b a = b := if_neg c
        rw [ca, hm34] at r
        rw [el]
        exact r
    by_cases c : T a = limN b a
    · -- the way back
      have c1 : ¬ nI (T a) < nI (limN b a) := by rw [c]; exact Int32.lt_irrefl
      by_cases z : a = 0
      · subst z
        have m1 : nI 0 + (-1) = (-1 : Int32) := rfl
        have hneg : (-1 : Int32) < 0 := by decide
        have X1 : stepX (nI 0, nI stp, sx) = some (.inl (-1, nI (stp + 1), sx)) := by
          have hl : m_X8_leave (nI 0 + (-1)) sx = some ((), sx) := by rw [m1, m_X8_leave, if_pos hneg]
          rw [xs, s71_back c1 hl, m1, nI_1]
        have M1 : stepM (nI b) (nI 0, sm) = some (.inl (-1, sm)) := by
          rw [ms, t28_back0 (by rw [c]) (by rw [m1]; exact hneg), m1]
        obtain ⟨N1, rfl⟩ : ∃ M, N1 = M + 1 := ⟨N1 - 1, by omega⟩
        obtain ⟨N2, rfl⟩ : ∃ M, N2 = M + 1 := ⟨N2 - 1, by omega⟩
        have neg_lt : (-1 : Int32) < nI n := by rw [fx_lt, nI_toInt (by omega), neg1]; omega
        have X2 : stepX (-1, nI (stp + 1), sx) = some (.inr (.inr (.inr (.inl sx)))) := sL_low (st1 (stp + 1) (by omega)) (by rw [xn sx hX.1]; exact neg_lt) (show ¬ (0 : Int32) ≤ -1 by decide)
        have M2 : stepM (nI b) (-1, sm) = some (.inr (.inl sm)) := tL_low hneg
        exact ⟨sx, sm, Or.inr (Or.inl ⟨(lp_next X1).trans (lp_end X2), (lp_next M1).trans (lp_end M2), sk_w hX hM e3⟩)⟩
      · obtain ⟨a, rfl⟩ : ∃ q, a = q + 1 := ⟨a - 1, by omega⟩
        have m1 : nI (a + 1) + (-1) = nI a := nI_pre a
        have hTa' := hT a (by omega)
        have la := lim_le (b := b) (a := a) hb1
        obtain ⟨hF, h60, h78, h79, h710, hc, hlv, hfit, hw⟩ := id hX
        obtain ⟨f', y1, y2⟩ := leave_eq (s := sx) (T := T) hB (show a < n by omega) (by omega) hF h78 (h79 a (by omega)) hc
        have X1 : stepX (nI (a + 1), nI stp, sx) = some (.inl (nI a, nI (stp + 1), pA (pA sx 8 0 f') 7 9 (upd (gA sx 7 9) a (nI (T a + 1))))) := by
          rw [xs, s71_back c1 (show m_X8_leave (nI (a + 1) + (-1)) sx = _ by rw [m1]; exact y1), m1, nI_1]
        have hnn : ¬ nI a < 0 := by rw [fx_lt, ti_0, nI_toInt (by omega)]; omega
        have hm' : gA sm 0 34 a = nI (T a) := hM.2.2.2.2.2.2.1 a (by omega)
        have M1 : stepM (nI b) (nI (a + 1), sm) = some (.inl (nI a, pA sm 0 34 (upd (gA sm 0 34) a (nI (T a + 1))))) := by
          rw [ms, t28_back (by rw [c]) (by rw [m1]; exact hnn) (by rw [m1]; exact vpb_nI (show a < 16 by omega) (by omega)), m1, nI_clamp (show a < 2 ^ 31 by omega), hm', nI_1]
        have hX' : SkX sx0 (pA (pA sx 8 0 f') 7 9 (upd (gA sx 7 9) a (nI (T a + 1)))) n b a (a + 1) tr (updN T a (T a + 1)) := by
          refine ⟨(hF.trans (frX_8A _ _ _)).trans (frX_7A _ _ _), h60, h78, fun v hv => ?_, h710, fun k t hk ht => ?_, fun m hm1 hm2 => ?_, ?_, hw⟩
          · show upd (gA sx 7 9) a (nI (T a + 1)) v = nI (updN T a (T a + 1) v)
            unfold updN
            rw [upd_i]
            by_cases e : v = a
            · rw [if_pos e, if_pos e]
            · rw [if_neg e, if_neg e]; exact h79 v (by omega)
          · show f' (60 * k + t) = _
            rw [y2 k t hk ht]
            exact congrArg nI (cel_congr (fun v hv => by unfold updN; rw [if_neg (by omega)]))
          · exact cl_tick (hlv m hm1 (by omega)) (fun v hv => by unfold updN; rw [if_neg (by omega)])
          · exact fit_congr (fit_up (by omega) hfit) (fun v hv => by unfold updN; rw [if_neg (by omega)])
        have hM' : SkM sm0 (pA sm 0 34 (upd (gA sm 0 34) a (nI (T a + 1)))) (a + 1) tr (updN T a (T a + 1)) := by
          obtain ⟨z1, z2, z3, z4, z5, z6, z7, z8⟩ := id hM
          refine ⟨z1.trans (frG_A _ (by omega) _), z2, z3, z4, z5, z6, fun v hv => ?_, z8⟩
          show upd (gA sm 0 34) a (nI (T a + 1)) v = nI (updN T a (T a + 1) v)
          unfold updN
          rw [upd_i]
          by_cases e : v = a
          · rw [if_pos e, if_pos e]
          · rw [if_neg e, if_neg e]; exact z7 v (by omega)
        obtain ⟨sx', sm', k⟩ := ih a (stp + 1) tr (updN T a (T a + 1)) _ _ N1 N2 (by omega) (by omega) (by omega) (by omega) (by omega) e3 (fun v hv => by
            unfold updN
            rw [if_neg (by omega)]
            exact hT v (by omega)) (by unfold updN; rw [if_pos rfl]; omega) hX' hM'
        refine ⟨sx', sm', ?_⟩
        rw [lp_next X1, lp_next M1]
        exact k
    · have c1 : nI (T a) < nI (limN b a) := nI_lt (by omega) (by omega)
      have c2 : ¬ nI (T a) = nI (limN b a) := fun q => c (nI_inj (by omega) (by omega) q)
      have hTv : ∀ v, v ≤ a → T v < b := fun v hv => by
        have lv := lim_le (b := b) (a := v) hb1
        by_cases e : v = a
        · subst e; omega
        · have := hT v (by omega); omega
      by_cases t : tr = 3000
      · subst t
        have n3 : nI 3000 = (3000 : Int32) := by rw [fx_eq, nI_toInt (by omega), t3000]; rfl
        have X1 : stepX (nI a, nI stp, sx) = some (.inr (.inr (.inr (.inr sx)))) := by
          rw [xs, s71_out c1 (by rw [hX.2.2.2.2.1, n3]; exact Int32.lt_irrefl)]
        have M1 : stepM (nI b) (nI a, sm) = some (.inr (.inr (.inl sm))) := by
          rw [ms, t28_out c2 (by rw [hM.2.2.2.2.2.2.2, n3])]
        exact ⟨sx, sm, Or.inr (Or.inr ⟨lp_end X1, lp_end M1, sk_w hX hM e3⟩)⟩
      have tl : nI tr < (3000 : Int32) := by rw [fx_lt, nI_toInt (by omega)]; rw [t3000]; omega
      obtain ⟨sy, kx⟩ := attempt_eq hB ha (show tr < 3000 by omega) hTv hX
      obtain ⟨sz, km⟩ := tryM hB hN ha (show tr < 3000 by omega) hTv hM c2
      rcases kx with ⟨x1, x2⟩ | ⟨x1, x2, x3⟩
      · -- it fits
        have hcl := x2.2.2.2.2.2.2.1 (a + 1) (by omega) (Nat.le_refl _)
        have hle := cl_least (l := l) hb1 hWO hcl
        rcases km with ⟨m1, m2, m3, m4, m5⟩ | ⟨m1, m2, m3⟩
        case inr =>
          rcases m3 with q | q
          · exact absurd x2.2.2.2.2.2.2.2.1 q
          · exact absurd hle (q _)
        obtain ⟨hF, h60, h78, h79, h710, hc, hlv, hfit, hw⟩ := id x2
        by_cases en : a + 1 = n
        · -- found
          have hent : ∃ s', m_X8_enter (nI (a + 1)) sy = some (nI (a + 1), s') ∧ SkX sx0 s' n b n n (tr + 1) T := by
            have x2' : SkX sx0 sy n b n n (tr + 1) T := by
              have := x2
              rw [en] at this
              exact this
            by_cases e16 : (16 : Int32) ≤ nI (a + 1)
            · exact ⟨sy, enter_16 e16, x2'⟩
            · have hlt : a + 1 < 16 := by
                rw [fx_le, nI_toInt (by omega)] at e16
                have : (16 : Int32).toInt = 16 := rfl
                omega
              refine ⟨pA sy 7 9 (upd (gA sy 7 9) (a + 1) 0), by rw [enter_lo e16 (vpb_nI hlt (by omega)), nI_clamp (show a + 1 < 2 ^ 31 by omega)], ?_⟩
              obtain ⟨hF, h60, h78, h79, h710, hc, hlv, hfit, hw⟩ := x2'
              refine ⟨hF.trans (frX_7A _ _ _), h60, h78, fun v hv => ?_, h710, hc, hlv, hfit, hw⟩
              show upd (gA sy 7 9) (a + 1) 0 v = _
              rw [upd_i, if_neg (by omega)]
              exact h79 v hv
          obtain ⟨s', e1', e2'⟩ := hent
          have X1 : stepX (nI a, nI stp, sx) = some (.inl (nI (a + 1), nI (stp + 1), s')) := by
            rw [xs, s71_yes c1 (by rw [hX.2.2.2.2.1]; exact tl) x1 (by rw [nI_1]; exact e1'), nI_1]
          have M1 : stepM (nI b) (nI a, sm) = some (.inr (.inr (.inr sz))) := by rw [ms]; exact m4 en
          obtain ⟨N1, rfl⟩ : ∃ M, N1 = M + 1 := ⟨N1 - 1, by omega⟩
          have X2 : stepX (nI (a + 1), nI (stp + 1), s') = some (.inr (.inr (.inl s'))) := by
            have : ¬ nI (a + 1) < nI n := by rw [en]; exact Int32.lt_irrefl
            exact sL_top (st1 (stp + 1) (by omega)) (by rw [xn s' e2'.1]; exact this)
          refine ⟨s', sz, Or.inl ⟨(lp_next X1).trans (lp_end X2), lp_end M1, T, tr + 1, by omega, fun v hv => hTv v (by omega), e2', ?_, ?_⟩⟩
          · rw [en] at m1; exact m1
          · rw [en] at m3; exact m3
        · have hlt : a + 1 < 16 := by omega
          have e16 : ¬ (16 : Int32) ≤ nI (a + 1) := by
            rw [fx_le, nI_toInt (by omega)]
            have : (16 : Int32).toInt = 16 := rfl
            omega
          have hent : m_X8_enter (nI (a + 1)) sy = some (nI (a + 1), pA sy 7 9 (upd (gA sy 7 9) (a + 1) 0)) := by
            rw [enter_lo e16 (vpb_nI hlt (by omega)), nI_clamp (show a + 1 < 2 ^ 31 by omega)]
          have X1 : stepX (nI a, nI stp, sx) = some (.inl (nI (a + 1), nI (stp + 1), pA sy 7 9 (upd (gA sy 7 9) (a + 1) 0))) := by
            rw [xs, s71_yes c1 (by rw [hX.2.2.2.2.1]; exact tl) x1 (by rw [nI_1]; exact hent), nI_1]
          have M1 : stepM (nI b) (nI a, sm) = some (.inl (nI (a + 1), pA sz 0 34 (upd (gA sz 0 34) (a + 1) 0))) := by rw [ms]; exact m5 (by omega)
          have agree : ∀ v, v < a + 1 → T v = updN T (a + 1) 0 v := fun v hv => by unfold updN; rw [if_neg (by omega)]
          have hX' : SkX sx0 (pA sy 7 9 (upd (gA sy 7 9) (a + 1) 0)) n b (a + 1) (a + 1 + 1) (tr + 1) (updN T (a + 1) 0) := by
            refine ⟨hF.trans (frX_7A _ _ _), h60, h78, fun v hv => ?_, h710, fun k t hk ht => ?_, fun m hm1 hm2 => ?_, fit_congr hfit agree, hw⟩
            · show upd (gA sy 7 9) (a + 1) 0 v = nI (updN T (a + 1) 0 v)
              unfold updN
              rw [upd_i]
              by_cases e : v = a + 1
              · rw [if_pos e, if_pos e]; rfl
              · rw [if_neg e, if_neg e]; exact h79 v (by omega)
            · exact (hc k t hk ht).trans (congrArg nI (cel_congr agree))
            · exact cl_tick (hlv m hm1 hm2) (fun v hv => agree v (by omega))
          have hM' : SkM sm0 (pA sz 0 34 (upd (gA sz 0 34) (a + 1) 0)) (a + 1 + 1) (tr + 1) (updN T (a + 1) 0) := by
            obtain ⟨z1, z2, z3, z4, z5, z6, z7, z8⟩ := id m1
            refine ⟨z1.trans (frG_A _ (by omega) _), z2, z3, z4, z5, z6, fun v hv => ?_, z8⟩
            show upd (gA sz 0 34) (a + 1) 0 v = nI (updN T (a + 1) 0 v)
            unfold updN
            rw [upd_i]
            by_cases e : v = a + 1
            · rw [if_pos e, if_pos e]; rfl
            · rw [if_neg e, if_neg e]; exact z7 v (by omega)
          obtain ⟨sx', sm', k⟩ := ih (a + 1) (stp + 1) (tr + 1) (updN T (a + 1) 0) _ _ N1 N2 (by omega) (by omega) (by omega) (by omega) (by omega) (by omega) (fun v hv => by
              rw [← agree v hv]
              by_cases e : v = a
              · subst e; omega
              · exact hT v (by omega)) (by unfold updN; rw [if_pos rfl]; omega) hX' hM'
          refine ⟨sx', sm', ?_⟩
          rw [lp_next X1, lp_next M1]
          exact k
      · -- it doesn't
        rcases km with ⟨m1, m2, ⟨p, -, m3⟩, m4, m5⟩ | ⟨m1, m2, m3⟩
        · rcases x3 with q | q
          · exact absurd m2 q
          · exact absurd m3 (q _)
        have X1 : stepX (nI a, nI stp, sx) = some (.inl (nI a, nI (stp + 1), sy)) := by
          rw [xs, s71_no c1 (by rw [hX.2.2.2.2.1]; exact tl) x1, nI_1]
        have M1 : stepM (nI b) (nI a, sm) = some (.inl (nI a, sz)) := by rw [ms]; exact m1
        obtain ⟨sx', sm', k⟩ := ih a (stp + 1) (tr + 1) (updN T a (T a + 1)) sy sz N1 N2 (by omega) (by omega) (by omega) ha (by omega) (by omega) (fun v hv => by
            unfold updN
            rw [if_neg (by omega)]
            exact hT v hv) (by unfold updN; rw [if_pos rfl]; omega) x2 m2
        refine ⟨sx', sm', ?_⟩
        rw [lp_next X1, lp_next M1]
        exact k
/-- both searches at a beat -/
theorem seek_eq {sx0 sm0 : Sg} {n b tr : Nat} {l : List Ed} (hB : SkB sx0 n b l) (hN : SkN sx0 sm0 n l) (h0 : 0 < n) (htr : tr ≤ 3000) (hx : gI sx0 7 10 = nI tr) (hm : gI sm0 0 32 = nI tr) : ∃ r sx' sm', m_X8_seek (nI b) sx0 = some (r, sx') ∧ m_X12_tries (nI b) sm0 = some (r, sm') ∧ ((r = 0 ∧ SkF sx0 sm0 sx' sm' n b l) ∨ (r = 3 ∧ SkW sx0 sm0 sx' sm') ∨ (r = 4 ∧ SkW sx0 sm0 sx' sm')) := by
  obtain ⟨hn, hb1, hb, hbo, hun, hWO, hgb⟩ := id hB
  have emx : mx 1 (nI b) = nI b := by
    by_cases c : (1 : Int32) < nI b
    · exact if_pos c
    · have e : mx 1 (nI b) = 1 := if_neg c
      rw [fx_lt, ti_1, nI_toInt (by omega)] at c
      rw [e, show b = 1 by omega]
      rfl
  have hclear : ∃ g, m_X2_clear 8 (pI sx0 7 8 (nI b)) = some ((), pA (pI sx0 7 8 (nI b)) 8 0 g) ∧ ∀ q, q < 360 → g q = 0 := by
    refine ⟨filF 360 0 (gA (pI sx0 7 8 (nI b)) 8 0), ?_, fun q hq => by unfold filF; rw [if_pos hq]⟩
    simp only [m_X2_clear, fill_eq 8 0 360 0 (by omega), clk_some]
  obtain ⟨g, c1, c2⟩ := hclear
  obtain ⟨s3, hs3⟩ : ∃ s, s = pA (pA (pI sx0 7 8 (nI b)) 8 0 g) 7 9 (upd (gA sx0 7 9) 0 0) := ⟨_, rfl⟩
  obtain ⟨t3, ht3⟩ : ∃ s, s = pA sm0 0 34 (upd (gA sm0 0 34) 0 0) := ⟨_, rfl⟩
  have hX : SkX sx0 s3 n b 0 (0 + 1) tr (fun _ => 0) := by
    rw [hs3]
    refine ⟨((frX_7I _ _ _).trans (frX_8A _ _ _)).trans (frX_7A _ _ _), rfl, rfl, fun v hv => ?_, hx, fun k t hk ht => ?_, fun m h1 h2 => by omega, fun k t hk ht => ?_, rfl, fun _ => rfl, fun _ => rfl, rfl⟩
    · have : v = 0 := by omega
      subst this
      rfl
    · show g (60 * k + t) = _
      rw [c2 _ (by omega)]
      rfl
    · exact (hun k hk).1
  have hM : SkM sm0 t3 (0 + 1) tr (fun _ => 0) := by
    rw [ht3]
    refine ⟨frG_A _ (by omega) _, rfl, rfl, rfl, rfl, rfl, fun v hv => ?_, hm⟩
    have : v = 0 := by omega
    subst this
    rfl
  have v0 : vpb (0 : Int32) 16 = true := by decide
  have cl0 : (0 : Int32).toNatClampNeg = 0 := by decide
  obtain ⟨sx', sm', k⟩ := seek_go hB hN 6003 0 0 tr (fun _ => 0) s3 t3 FU FU (by omega) (FU_lt (by omega)) (FU_lt (by omega)) h0 (by omega) htr (fun v hv => absurd hv (Nat.not_lt_zero v)) (Nat.zero_le _) hX hM
  have e9 : gA (pA (pI sx0 7 8 (nI b)) 8 0 g) 7 9 = gA sx0 7 9 := rfl
  have ex : ∀ r, lp stepX FU (nI 0, nI 0, s3) = some r → m_X8_seek (nI b) sx0 = (Sum.elim (fun r21 => some (4, r21)) (Sum.elim (fun r21 => some (0, r21)) (Sum.elim (fun r21 => some (3, r21)) (fun r21 => some (4, r21)))) r : Option (Int32 × Sg)) := fun r hr => by
    have hr' : lp (fun s : (Int32 × Int32 × Sg) => m_X8_seek_L27 s.1 s.2.1 s.2.2) FU (0, 0, s3) = some r := hr
    simp only [m_X8_seek, emx, sIk, c1, clk_some, sAk, if_pos v0, cl0, e9, ← hs3, nmk, lpk, hr']
  have em : ∀ r, lp (stepM (nI b)) FU (nI 0, t3) = some r → m_X12_tries (nI b) sm0 = (Sum.elim (fun r19 => some (3, r19)) (Sum.elim (fun r19 => some (4, r19)) (fun r19 => some (0, r19))) r : Option (Int32 × Sg)) := fun r hr => by
    have hr' : lp (fun s : (Int32 × Sg) => m_X12_tries_L9 (nI b) s.1 s.2) FU (0, t3) = some r := hr
    simp only [m_X12_tries, nmk, sAk, if_pos v0, cl0, ← ht3, lpk, hr']
  rcases k with ⟨k1, k2, k3⟩ | ⟨k1, k2, k3⟩ | ⟨k1, k2, k3⟩
  · exact ⟨0, sx', sm', ex _ k1, em _ k2, Or.inl ⟨rfl, k3⟩⟩
  · exact ⟨3, sx', sm', ex _ k1, em _ k2, Or.inr (Or.inl ⟨rfl, k3⟩)⟩
  · exact ⟨4, sx', sm', ex _ k1, em _ k2, Or.inr (Or.inr ⟨rfl, k3⟩)⟩
