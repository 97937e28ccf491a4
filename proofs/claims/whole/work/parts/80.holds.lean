-- 80.holds: the reference's holds: the least stages of the first m acts, or none
theorem cd_sub {z b u : Int} (hb : 0 < b) : cdI (z - b * u) b = cdI z b - u := by
  have h1 := (cd_le (z := z) (k := cdI z b) hb).mp (Int.le_refl _)
  have h2 : ¬ z ≤ (cdI z b - 1) * b := fun q => by have := (cd_le hb).mpr q; omega
  have e1 : b * u = u * b := Int.mul_comm b u
  have e2 : (cdI z b - u) * b = cdI z b * b - u * b := Int.sub_mul _ _ _
  have e3 : (cdI z b - u - 1) * b = cdI z b * b - u * b - b := by rw [Int.sub_mul, Int.sub_mul, Int.one_mul]
  rw [Int.sub_mul, Int.one_mul] at h2
  exact cd_uni hb (by omega) (by omega)
def geH (b : Int) (τ : Nat → Int) (e : Ge) : Ge := (e.1, e.2.1, cdI (e.2.2 + τ e.1 - τ e.2.1) b)
def hG (m : Nat) (b : Int) (τ : Nat → Int) (l : List Ed) (i : Nat) : List Ge := if h : i < l.length then (if (geI b l[i]).1 < m ∧ (geI b l[i]).2.1 < m then [geH b τ (geI b l[i])] else []) else []
def hdL (m : Nat) (b : Int) (τ : Nat → Int) (l : List Ed) : List Ge := RGl (hG m b τ l) 0 l.length
theorem hd_mem {m : Nat} {b : Int} {τ : Nat → Int} {l : List Ed} {g : Ge} : g ∈ hdL m b τ l ↔ ∃ e ∈ l.map (geI b), e.1 < m ∧ e.2.1 < m ∧ g = geH b τ e := by
  unfold hdL RGl
  rw [List.mem_flatMap]
  constructor
  · rintro ⟨i, hi, hg⟩
    have hil : i < l.length := by have := List.mem_range'_1.mp hi; omega
    unfold hG at hg
    rw [dif_pos hil] at hg
    by_cases c : (geI b l[i]).1 < m ∧ (geI b l[i]).2.1 < m
    · rw [if_pos c] at hg
      exact ⟨geI b l[i], List.mem_map.mpr ⟨l[i], List.getElem_mem hil, rfl⟩, c.1, c.2, List.mem_singleton.mp hg⟩
    · rw [if_neg c] at hg
      exact absurd hg List.not_mem_nil
  · rintro ⟨e, he, h1, h2, rfl⟩
    obtain ⟨x, hx, rfl⟩ := List.mem_map.mp he
    obtain ⟨i, hil, rfl⟩ := List.mem_iff_getElem.mp hx
    refine ⟨i, List.mem_range'_1.mpr ⟨by omega, by omega⟩, ?_⟩
    unfold hG
    rw [dif_pos hil, if_pos (show (geI b l[i]).1 < m ∧ (geI b l[i]).2.1 < m from ⟨h1, h2⟩)]
    exact List.mem_singleton.mpr rfl
theorem hd_in (m : Nat) (b : Int) (τ : Nat → Int) (l : List Ed) : InG m (hdL m b τ l) := by
  intro g hg
  obtain ⟨e, -, h1, h2, rfl⟩ := hd_mem.mp hg
  exact ⟨h1, h2⟩
/-- the bounds of an upward division of a wait -/
theorem cd_bd {b : Nat} {w s t : Int} (hb : 1 ≤ b) (h1 : -290 ≤ w) (h2 : w ≤ 50) (s1 : 0 ≤ s) (s2 : s < (b : Int)) (t1 : 0 ≤ t) (t2 : t < (b : Int)) : -290 ≤ cdI (w + s - t) b ∧ cdI (w + s - t) b ≤ 60 := by
  refine ⟨cd_ge (by omega) ?_, (cd_le (by omega)).mpr ?_⟩
  · have : ((-290 : Int) - 1) * b = -291 * b := by omega
    omega
  · omega
theorem holds_step {s0 : Sg} {n m b : Nat} {l : List Ed} {τ : Nat → Int} (hn : n ≤ 16) (hm : m ≤ 16) (hb1 : 1 ≤ b) (hb : b ≤ 60) (hl : LR (gI s0 0 20) (gA s0 0 16) (gA s0 0 17) (gA s0 0 18) (gA s0 0 19) l) (hl2 : l.length ≤ 704) (hok : ∀ e ∈ l, okEd n e) (hτ : ∀ v, v < m → (gA s0 0 34 v).toInt = τ v ∧ 0 ≤ τ v ∧ τ v < (b : Int)) (x3 : Int32) : ∀ (i : Nat) (mv : Int32) (f : Nat → Int32) (p : Nat → Int) (M : Int), i < l.length → PRf f p m M → 0 ≤ M → M ≤ 1900000 → ∃ f', (m_X12_holds_L33 (nI m) (nI b) x3 mv (nI i) (pA s0 0 33 f) = some (.inl (mv, nI (i + 1), pA s0 0 33 f')) ∧ PRf f' p m (M + 60) ∧ roundG (hG m b τ l i) p = p) ∨ (m_X12_holds_L33 (nI m) (nI b) x3 mv (nI i) (pA s0 0 33 f) = some (.inl (1, nI (i + 1), pA s0 0 33 f')) ∧ PRf f' (roundG (hG m b τ l i) p) m (M + 60) ∧ ∃ v, v < m ∧ p v < roundG (hG m b τ l i) p v) := by
  intro i mv f p M hil hp hM hM2
  have e20 : gI (pA s0 0 33 f) 0 20 = nI l.length := hl.1
  have hg : ¬ nI l.length ≤ nI i := nI_ge hil (by omega)
  have hv : vpb (nI i) 704 = true := vpb_nI (by omega) (by omega)
  have cl := nI_clamp (show i < 2 ^ 31 by omega)
  have el := hl.2 i hil
  obtain ⟨o1, o2, o3, o4⟩ := hok l[i] (List.getElem_mem hil)
  have hGi : hG m b τ l i = if (geI b l[i]).1 < m ∧ (geI b l[i]).2.1 < m then [geH b τ (geI b l[i])] else [] := dif_pos hil
  rw [hGi]
  rw [el] at o1 o2 o3 o4 ⊢
  dsimp only at o1 o2 o3 o4
  have a16 : gA (pA s0 0 33 f) 0 16 = gA s0 0 16 := rfl
  have a17 : gA (pA s0 0 33 f) 0 17 = gA s0 0 17 := rfl
  have a18 : gA (pA s0 0 33 f) 0 18 = gA s0 0 18 := rfl
  have a19 : gA (pA s0 0 33 f) 0 19 = gA s0 0 19 := rfl
  have a33 : gA (pA s0 0 33 f) 0 33 = f := rfl
  have a34 : gA (pA s0 0 33 f) 0 34 = gA s0 0 34 := rfl
  have vA : vpb (gA s0 0 16 i) 16 = true := by rw [vpb_iff]; have := o1.1; have := o1.2; omega
  have vB : vpb (gA s0 0 17 i) 16 = true := by rw [vpb_iff]; have := o2.1; have := o2.2; omega
  have cA := fx_cl o1.1
  have cB := fx_cl o2.1
  obtain ⟨x, hx⟩ : ∃ x, x = (gA s0 0 16 i).toNatClampNeg := ⟨_, rfl⟩
  obtain ⟨y, hy⟩ : ∃ y, y = (gA s0 0 17 i).toNatClampNeg := ⟨_, rfl⟩
  rw [← hx] at cA
  rw [← hy] at cB
  have tm := nI_toInt (show m < 2 ^ 31 by omega)
  have iA : nI m ≤ gA s0 0 16 i ↔ m ≤ x := by rw [fx_le, tm, ← cA]; omega
  have iB : gA s0 0 17 i < nI m ↔ y < m := by rw [fx_lt, tm, ← cB]; omega
  have eg : geI b (gA s0 0 16 i, gA s0 0 17 i, gA s0 0 18 i, gA s0 0 19 i) = (x, y, (gA s0 0 18 i).toInt - (b : Int) * (gA s0 0 19 i).toInt) := by rw [hx, hy]; rfl
  rw [eg]
  dsimp only
  by_cases c1 : x < m
  case neg =>
    rw [if_neg (fun q => c1 q.1)]
    refine ⟨f, Or.inl ⟨?_, hp.mono (by omega), rfl⟩⟩
    simp only [m_X12_holds_L33, gIk, e20, if_neg hg, lAk, if_pos hv, cl, a16, a17, nmk, if_pos (iA.mpr (by omega)), nI_1]
  have nA : ¬ nI m ≤ gA s0 0 16 i := fun q => by have := iA.mp q; omega
  by_cases c2 : y < m
  case neg =>
    rw [if_neg (fun q => c2 q.2)]
    refine ⟨f, Or.inl ⟨?_, hp.mono (by omega), rfl⟩⟩
    simp only [m_X12_holds_L33, gIk, e20, if_neg hg, lAk, if_pos hv, cl, a16, a17, nmk, if_neg nA, if_neg (fun q => c2 (iB.mp q)), nI_1]
  rw [if_pos ⟨c1, c2⟩]
  obtain ⟨pA1, pA2, pA3⟩ := hp x c1
  obtain ⟨pB1, pB2, pB3⟩ := hp y c2
  obtain ⟨tx1, tx2, tx3⟩ := hτ x c1
  obtain ⟨ty1, ty2, ty3⟩ := hτ y c2
  obtain ⟨-, m2, m3⟩ := bt_mul hb o4
  have t1 := o3.1
  have t2 := o3.2
  have u1 := o4.1
  have u2 := o4.2
  have tb := nI_toInt (show b < 2 ^ 31 by omega)
  have s1 : (gA s0 0 34 y - gA s0 0 34 x).toInt = τ y - τ x := by rw [fx_sub (by rw [ty1, tx1]; omega) (by rw [ty1, tx1]; omega), ty1, tx1]
  have s2 : (gA s0 0 34 y - gA s0 0 34 x - gA s0 0 18 i).toInt = τ y - τ x - (gA s0 0 18 i).toInt := by rw [fx_sub (by rw [s1]; omega) (by rw [s1]; omega), s1]
  obtain ⟨r, r1, r2⟩ := cut_eq (v := gA s0 0 34 y - gA s0 0 34 x - gA s0 0 18 i) (b := nI b) (st := pA s0 0 33 f) (by rw [s2]; omega) (by rw [s2]; omega) (by rw [tb]; omega) (by rw [tb]; omega)
  obtain ⟨w, hw⟩ : ∃ w, w = cdI ((gA s0 0 18 i).toInt - (b : Int) * (gA s0 0 19 i).toInt + τ x - τ y) b := ⟨_, rfl⟩
  have hwb := cd_bd (b := b) (w := (gA s0 0 18 i).toInt - (b : Int) * (gA s0 0 19 i).toInt) hb1 (by omega) (by omega) tx2 tx3 ty2 ty3
  rw [← hw] at hwb
  have hr : r.toInt = -(w + (gA s0 0 19 i).toInt) := by
    rw [r2, s2, tb, hw]
    have := cd_sub (z := (gA s0 0 18 i).toInt + τ x - τ y) (b := b) (u := (gA s0 0 19 i).toInt) (by omega)
    rw [show (gA s0 0 18 i).toInt - (b : Int) * (gA s0 0 19 i).toInt + τ x - τ y = (gA s0 0 18 i).toInt + τ x - τ y - (b : Int) * (gA s0 0 19 i).toInt by omega, this, show -(τ y - τ x - (gA s0 0 18 i).toInt) = (gA s0 0 18 i).toInt + τ x - τ y by omega]
    omega
  have q1 : (f x - gA s0 0 19 i).toInt = p x - (gA s0 0 19 i).toInt := by rw [fx_sub (by rw [pA1]; omega) (by rw [pA1]; omega), pA1]
  have q2 : (f x - gA s0 0 19 i - r).toInt = p x + w := by
    rw [fx_sub (by rw [q1, hr]; omega) (by rw [q1, hr]; omega), q1, hr]
    omega
  have egh : geH b τ (x, y, (gA s0 0 18 i).toInt - (b : Int) * (gA s0 0 19 i).toInt) = (x, y, w) := by rw [hw]; rfl
  rw [egh]
  have er : roundG [((x, y, w) : Ge)] p = pushG p (x, y, w) := rfl
  rw [er]
  by_cases c : f y < f x - gA s0 0 19 i - r
  · have c' : ¬ p x + w ≤ p y := by
      rw [fx_lt, q2, pB1] at c
      omega
    have ep : pushG p (x, y, w) = updG p y (p x + w) := if_neg c'
    rw [ep]
    refine ⟨upd f y (f x - gA s0 0 19 i - r), Or.inr ⟨?_, fun v hv' => ?_, y, c2, ?_⟩⟩
    · simp only [m_X12_holds_L33, gIk, e20, if_neg hg, lAk, sAk, if_pos hv, cl, a16, a17, a18, a19, a33, a34, if_pos vA, if_pos vB, nmk, if_neg nA, if_pos (iB.mpr c2), ← hx, ← hy, r1, clk_some, if_pos c, pA_pA', nI_1]
    · unfold updG
      rw [upd_i]
      by_cases e : v = y
      · rw [if_pos e, if_pos e]
        exact ⟨q2, by omega, by omega⟩
      · rw [if_neg e, if_neg e]
        obtain ⟨z1, z2, z3⟩ := hp v hv'
        exact ⟨z1, z2, by omega⟩
    · have e2 : updG p y (p x + w) y = p x + w := if_pos rfl
      rw [e2]
      omega
  · have c' : p x + w ≤ p y := by
      rw [fx_lt, q2, pB1] at c
      omega
    have ep : pushG p (x, y, w) = p := if_pos c'
    rw [ep]
    refine ⟨f, Or.inl ⟨?_, hp.mono (by omega), rfl⟩⟩
    simp only [m_X12_holds_L33, gIk, e20, if_neg hg, lAk, if_pos hv, cl, a16, a17, a18, a19, a33, a34, if_pos vA, if_pos vB, nmk, if_neg nA, if_pos (iB.mpr c2), ← hx, ← hy, r1, clk_some, if_neg c, nI_1]
theorem holds_rounds {s0 : Sg} {n m b : Nat} {l : List Ed} {τ : Nat → Int} (hn : n ≤ 16) (hm : m ≤ 16) (hb1 : 1 ≤ b) (hb : b ≤ 60) (hl : LR (gI s0 0 20) (gA s0 0 16) (gA s0 0 17) (gA s0 0 18) (gA s0 0 19) l) (hl2 : l.length ≤ 704) (hok : ∀ e ∈ l, okEd n e) (hτ : ∀ v, v < m → (gA s0 0 34 v).toInt = τ v ∧ 0 ≤ τ v ∧ τ v < (b : Int)) : ∀ (d i N : Nat) (f : Nat → Int32), i + d = m + 1 → d < N → PRf f (itG (hdL m b τ l) i) m (42240 * i) → (∀ k, k < i → ¬ roundG (hdL m b τ l) (itG (hdL m b τ l) k) = itG (hdL m b τ l) k) →
    ∃ f', (lp (fun s : (Int32 × Sg) => m_X12_holds_L22 (nI m) (nI b) s.1 s.2) N (nI i, pA s0 0 33 f) = some (.inr (pA s0 0 33 f')) ∧ ∃ p', PRf f' p' m 2000000 ∧ LeastG m (hdL m b τ l) p') ∨ (lp (fun s : (Int32 × Sg) => m_X12_holds_L22 (nI m) (nI b) s.1 s.2) N (nI i, pA s0 0 33 f) = some (.inl (pA s0 0 33 f')) ∧ ∀ P, ¬ LeastG m (hdL m b τ l) P) := by
  intro d
  induction d with
  | zero =>
    intro i N f hi hN hp hq
    obtain ⟨N, rfl⟩ : ∃ M, N = M + 1 := ⟨N - 1, by omega⟩
    refine ⟨f, Or.inr ⟨lp_end ?_, fun P h => hq m (by omega) (it_fix (hd_in m b τ l) h)⟩⟩
    simp only [m_X12_holds_L22]
    rw [if_pos (nI_lt (show m < i by omega) (by omega))]
  | succ d ih =>
    intro i N f hi hN hp hq
    obtain ⟨N, rfl⟩ : ∃ M, N = M + 1 := ⟨N - 1, by omega⟩
    have hg : ¬ nI m < nI i := nI_nlt (by omega) (by omega)
    obtain ⟨mv', f', r1, r2, r3⟩ := gen_round (s0 := s0) (n := m) (L := l.length) (step := fun s : (Int32 × Int32 × Sg) => m_X12_holds_L33 (nI m) (nI b) (nI i) s.1 s.2.1 s.2.2) (G := hG m b τ l) (PR := fun f p M => PRf f p m M) (fun f p M M' h h2 => h.mono h2) (fun i' mv f p M h1 h2 h3 h4 => holds_step hn hm hb1 hb hl hl2 hok hτ (nI i) i' mv f p M h1 h2 h3 h4) (fun mv f => by
        have e20 : gI (pA s0 0 33 f) 0 20 = nI l.length := hl.1
        simp only [m_X12_holds_L33, gIk, e20, if_pos (Int32.le_refl _)]) l.length 0 FU 0 f (itG (hdL m b τ l) i) (42240 * i) (by omega) (FU_lt (by omega)) hp (by omega) (by omega)
    have eH : RGl (hG m b τ l) 0 l.length = hdL m b τ l := rfl
    rw [eH] at r2 r3
    rcases r3 with ⟨z1, z2⟩ | ⟨z1, v, hv, z2⟩
    · refine ⟨f', Or.inl ⟨lp_end ?_, itG (hdL m b τ l) i, ?_, it_least (hd_in m b τ l) z2⟩⟩
      · simp only [m_X12_holds_L22, if_neg hg, nmk, lpk]
        rw [show (((0 : Int32), (0 : Int32), pA s0 0 33 f) : Int32 × Int32 × Sg) = (0, nI 0, pA s0 0 33 f) from rfl, r1]
        simp only [z1, if_true]
      · rw [z2] at r2
        exact PRf.mono r2 (by omega)
    · obtain ⟨f2, k⟩ := ih (i + 1) N f' (by omega) (by omega) (PRf.mono r2 (by omega)) (fun k hk => by
          by_cases e : k = i
          · subst e
            intro q
            rw [q] at z2
            omega
          · exact hq k (by omega))
      have step : m_X12_holds_L22 (nI m) (nI b) (nI i) (pA s0 0 33 f) = some (.inl (nI (i + 1), pA s0 0 33 f')) := by
        simp only [m_X12_holds_L22, if_neg hg, nmk, lpk]
        rw [show (((0 : Int32), (0 : Int32), pA s0 0 33 f) : Int32 × Int32 × Sg) = (0, nI 0, pA s0 0 33 f) from rfl, r1]
        simp only [z1, if_neg (show ¬ (1 : Int32) = 0 by decide), nI_1]
      refine ⟨f2, ?_⟩
      rcases k with ⟨k1, k2⟩ | ⟨k1, k2⟩
      · exact Or.inl ⟨(lp_next step).trans k1, k2⟩
      · exact Or.inr ⟨(lp_next step).trans k1, k2⟩
theorem holds_zero {s0 : Sg} {m : Nat} (hm : m ≤ 16) (x2 : Int32) : ∃ f, lp (fun s : (Int32 × Sg) => m_X12_holds_L2 (nI m) x2 s.1 s.2) FU (nI 0, s0) = some (pA s0 0 33 f) ∧ ∀ v, v < m → f v = 0 := by
  have hI := ok_for (step := fun s : (Int32 × Sg) => m_X12_holds_L2 (nI m) x2 s.1 s.2) (Q := fun r => ∃ f, r = pA s0 0 33 f ∧ ∀ v, v < m → f v = 0) m (fun i s => ∃ f, s = (nI i, pA s0 0 33 f) ∧ ∀ v, v < i → f v = 0) (by
      rintro i s hi ⟨f, rfl, h⟩
      have a33 : gA (pA s0 0 33 f) 0 33 = f := rfl
      refine ⟨.inl (nI (i + 1), pA s0 0 33 (upd f i 0)), ?_, upd f i 0, rfl, fun v hv => ?_⟩
      · simp only [m_X12_holds_L2, if_neg (nI_ge hi (by omega)), sAk, if_pos (vpb_nI (show i < 16 by omega) (by omega)), nI_clamp (show i < 2 ^ 31 by omega), a33, pA_pA', nmk, nI_1]
      · rw [upd_i]
        by_cases e : v = i
        · rw [if_pos e]
        · rw [if_neg e]; exact h v (by omega)) (by
      rintro s ⟨f, rfl, h⟩
      exact ⟨.inr (pA s0 0 33 f), by simp only [m_X12_holds_L2, if_pos (Int32.le_refl _)], f, rfl, h⟩) FU 0 (nI 0, s0) (by omega) (FU_lt (by omega)) ⟨gA s0 0 33, by
        have := pA_same33 s0
        have e : filF 0 0 (gA s0 0 33) = gA s0 0 33 := by funext q; simp [filF]
        rw [e] at this
        rw [this], fun v hv => absurd hv (Nat.not_lt_zero v)⟩
  obtain ⟨r, hr, f, rfl, h⟩ := hI
  exact ⟨f, hr, h⟩
theorem holds_eq {s0 : Sg} {n m b : Nat} {l : List Ed} {τ : Nat → Int} (hn : n ≤ 16) (hm : m ≤ 16) (hb1 : 1 ≤ b) (hb : b ≤ 60) (hl : LR (gI s0 0 20) (gA s0 0 16) (gA s0 0 17) (gA s0 0 18) (gA s0 0 19) l) (hl2 : l.length ≤ 704) (hok : ∀ e ∈ l, okEd n e) (hτ : ∀ v, v < m → (gA s0 0 34 v).toInt = τ v ∧ 0 ≤ τ v ∧ τ v < (b : Int)) : ∃ f', (m_X12_holds (nI m) (nI b) s0 = some (1, pA s0 0 33 f') ∧ ∃ p, PRf f' p m 2000000 ∧ LeastG m (hdL m b τ l) p) ∨ (m_X12_holds (nI m) (nI b) s0 = some (0, pA s0 0 33 f') ∧ ∀ P, ¬ LeastG m (hdL m b τ l) P) := by
  obtain ⟨F0, z, hF0⟩ := holds_zero (s0 := s0) hm (nI b)
  obtain ⟨f', k⟩ := holds_rounds (s0 := s0) hn hm hb1 hb hl hl2 hok hτ (m + 1) 0 FU F0 (by omega) (FU_lt (by omega)) (fun v hv => by
      rw [hF0 v hv]
      exact ⟨rfl, Int.le_refl 0, by show (0 : Int) ≤ _; omega⟩) (fun k hk => absurd hk (Nat.not_lt_zero k))
  refine ⟨f', ?_⟩
  simp only [m_X12_holds, nmk, lpk, show (0 : Int32) = nI 0 from rfl, z]
  rcases k with ⟨k1, k2⟩ | ⟨k1, k2⟩
  · refine Or.inl ⟨?_, k2⟩
    rw [k1]
    rfl
  · refine Or.inr ⟨?_, k2⟩
    rw [k1]
    rfl
