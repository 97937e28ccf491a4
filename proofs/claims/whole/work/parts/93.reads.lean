-- 93.reads: laying, filled, names, fewest
/-- a laying that stands, as both sides hold it -/
def LyB (sx sm : Sg) (n t b : Nat) (T S : Nat → Nat) : Prop := (1 ≤ b ∧ b ≤ 60 ∧ gI sx 9 1 = nI b ∧ gI sm 0 27 = nI b ∧ 0 < n) ∧ ∀ a, a < n → T a < b ∧ S a ≤ 960 ∧ (gA sx 9 3 a = nI (T a) ∧ gA sm 0 28 a = nI (T a)) ∧ (gA sx 9 4 a = nI (S a) ∧ gA sm 0 29 a = nI (S a)) ∧ gA sx 9 5 a = nI (b * S a + T a) ∧ gA sm 0 30 a = nI (b * S a + T a)
theorem ly_b {sx sm : Sg} {n t : Nat} (h : RLy sx sm n t) : (gI sx 9 0 = 0 ∧ gI sm 0 27 = 0) ∨ (¬ gI sx 9 0 = 0 ∧ ¬ gI sm 0 27 = 0 ∧ ∃ (b : Nat) (T S : Nat → Nat) (p q : Nat → Int), LyB sx sm n t b T S ∧ gI sx 9 2 = nI (1 + mxN S n) ∧ SolG ((allX sx n t).map (geI b)) (fun a => ((b * S a + T a : Nat) : Int)) ∧ (LeastG n ((allX sx n t).map (geI b)) p ∧ ∀ a, a < n → (gA sx 9 7 a).toInt = p a) ∧ (LeastG n (((allX sx n t).map (geI b)).map turnG) q ∧ ∀ a, a < n → (gA sx 9 8 a).toInt = mxI p n - q a) ∧ (∀ k r, k < 6 → r < b → gA sx 10 0 (60 * k + r) = nI (celN (gA sx 1 3) (gA sx 1 4) T b k r n)) ∧ (∀ a, a < n → gA sx 9 9 a = nI ((lfI (fun a => ((b * S a + T a : Nat) : Int)) b (gA sx 1 6) (gA sx 1 7) a (3 * n)).toNat / b + 1)) ∧ RowL (gA sx 9 10) (ordL b T n)) := by
  rcases h with q | ⟨q1, ⟨l1, l2, l3⟩, b, T, S, p, q, ⟨a1, a2, a3, a4⟩, a5, a6, a7, a8, a9, a10, a11, a12⟩
  · exact Or.inl q
  · refine Or.inr ⟨by rw [q1]; decide, by rw [fx_eq, ti_0]; have := l2.1; omega, b, T, S, p, q, ⟨⟨a1, a2, a3, by rw [← l1]; exact a3, a4⟩, fun a ha => ?_⟩, a6, a7, a8, a9, a10, a11, a12⟩
    obtain ⟨z1, z2, z3, z4, z5⟩ := a5 a ha
    obtain ⟨y1, y2, y3, -⟩ := l3 a ha
    exact ⟨z1, z2, ⟨z3, by rw [← y1]; exact z3⟩, ⟨z4, by rw [← y2]; exact z4⟩, z5, by rw [← y3]; exact z5⟩
theorem mx_alt (x y : Int32) : (if y ≤ x then x else y) = mx x y := by
  by_cases c : x < y
  · have e : mx x y = y := if_pos c
    rw [e, if_neg]
    rw [fx_lt] at c
    rw [fx_le]
    omega
  · have e : mx x y = x := if_neg c
    rw [e, if_pos]
    rw [fx_lt] at c
    rw [fx_le]
    omega
def enF (f g : Nat → Int32) : Nat → Int32
  | 0 => 0
  | i + 1 => mx (enF f g i) (f i + g i)
theorem enF_congr {f g f' g' : Nat → Int32} : ∀ {n : Nat}, (∀ i, i < n → f i = f' i ∧ g i = g' i) → enF f g n = enF f' g' n
  | 0, _ => rfl
  | n + 1, h => by
    show mx (enF f g n) (f n + g n) = mx (enF f' g' n) (f' n + g' n)
    rw [enF_congr (n := n) (fun i hi => h i (by omega)), (h n (by omega)).1, (h n (by omega)).2]
theorem lastEnd_eq {s : Sg} {n : Nat} (hn : n ≤ 16) (hx : gI s 1 0 = nI n) : m_X4_lastEnd s = some (enF (gA s 9 5) (gA s 1 2) n, s) := by
  have h := fo_go (step := fun s : (Int32 × Int32 × Sg) => m_X4_lastEnd_L4 s.1 s.2.1 s.2.2) (st := s) (e := n) (g := fun i v => mx v (gA s 9 5 i + gA s 1 2 i)) 0 (by omega) (fun v => by
      simp only [m_X4_lastEnd_L4, gIk, hx, if_pos (Int32.le_refl _)]) (fun i v hi => by
      simp only [m_X4_lastEnd_L4, gIk, hx, if_neg (nI_ge hi (by omega)), lAk, if_pos (vpb_nI (show i < 16 by omega) (by omega)), nI_clamp (show i < 2 ^ 31 by omega), nmk, nI_1])
  have e : ∀ k, foN (fun i v => mx v (gA s 9 5 i + gA s 1 2 i)) k 0 = enF (gA s 9 5) (gA s 1 2) k := fun k => by
    induction k with
    | zero => rfl
    | succ k ih =>
      show mx (foN _ k 0) _ = mx (enF _ _ k) _
      rw [ih]
  rw [e] at h
  have h' : lp (fun s : (Int32 × Int32 × Sg) => m_X4_lastEnd_L4 s.1 s.2.1 s.2.2) FU (0, 0, s) = some (enF (gA s 9 5) (gA s 1 2) n, s) := h
  rw [m_X4_lastEnd, nmk, nmk, lpk, h']
theorem layM_loop {s : Sg} {n : Nat} {S : Nat → Nat} (hn : n ≤ 16) (hx : gI s 0 9 = nI n) (hS : ∀ a, a < n → S a ≤ 960 ∧ gA s 0 29 a = nI (S a)) (p1 : Int32) : lp (fun s : (Int32 × Int32 × Int32 × Sg) => m_X12_laying_L40 p1 s.1 s.2.1 s.2.2.1 s.2.2.2) FU (0, 0, 0, s) = some (nI (mxN S n), enF (gA s 0 30) (gA s 0 1) n, s) := by
  have hI := ok_for (step := fun s : (Int32 × Int32 × Int32 × Sg) => m_X12_laying_L40 p1 s.1 s.2.1 s.2.2.1 s.2.2.2) (Q := fun r => r = (nI (mxN S n), enF (gA s 0 30) (gA s 0 1) n, s)) n (fun i r => r = (nI (mxN S i), enF (gA s 0 30) (gA s 0 1) i, nI i, s)) (by
      rintro i r hi rfl
      have vi : vpb (nI i) 16 = true := vpb_nI (by omega) (by omega)
      have ci := nI_clamp (show i < 2 ^ 31 by omega)
      obtain ⟨s1, s2⟩ := hS i hi
      have mb := mxN_le (S := S) (M := 960) (n := i) (fun v hv => (hS v (by omega)).1)
      have q68 : ∀ x2, m_X12_laying_68 p1 x2 (enF (gA s 0 30) (gA s 0 1) i) (nI i) s = some (.inl (x2, enF (gA s 0 30) (gA s 0 1) (i + 1), nI (i + 1), s)) := fun x2 => by
        have e : enF (gA s 0 30) (gA s 0 1) (i + 1) = if gA s 0 30 i + gA s 0 1 i ≤ enF (gA s 0 30) (gA s 0 1) i then enF (gA s 0 30) (gA s 0 1) i else gA s 0 30 i + gA s 0 1 i := (mx_alt _ _).symm
        rw [m_X12_laying_68, lAk, if_pos vi, ci, lAk, if_pos vi, ci, e]
        by_cases c : gA s 0 30 i + gA s 0 1 i ≤ enF (gA s 0 30) (gA s 0 1) i
        · rw [if_pos c, if_pos c, nmk, nI_1]
        · rw [if_neg c, if_neg c, lAk, if_pos vi, ci, lAk, if_pos vi, ci, nmk, nmk, nI_1]
      refine ⟨.inl (nI (mxN S (i + 1)), enF (gA s 0 30) (gA s 0 1) (i + 1), nI (i + 1), s), ?_, rfl⟩
      show m_X12_laying_L40 p1 (nI (mxN S i)) (enF (gA s 0 30) (gA s 0 1) i) (nI i) s = _
      rw [m_X12_laying_L40, gIk, hx, if_neg (nI_ge hi (by omega)), lAk, if_pos vi, ci, s2, mxN_s]
      by_cases c : mxN S i < S i
      · rw [if_pos c, if_neg (nI_ge c (by omega)), lAk, if_pos vi, ci, s2, nmk, q68]
      · have c' : nI (S i) ≤ nI (mxN S i) := by rw [fx_le, nI_toInt (by omega), nI_toInt (by omega)]; omega
        rw [if_neg c, if_pos c', q68]) (by
      rintro r rfl
      refine ⟨.inr (nI (mxN S n), enF (gA s 0 30) (gA s 0 1) n, s), ?_, rfl⟩
      show m_X12_laying_L40 p1 (nI (mxN S n)) (enF (gA s 0 30) (gA s 0 1) n) (nI n) s = _
      rw [m_X12_laying_L40, gIk, hx, if_pos (Int32.le_refl _)]) FU 0 (0, 0, 0, s) (by omega) (FU_lt (by omega)) rfl
  obtain ⟨r, hr, rfl⟩ := hI
  exact hr
theorem clk_id (o : Option (Int32 × Sg)) : (clk o fun v s => some (v, s)) = o := by
  cases o with
  | none => rfl
  | some q => rfl
theorem sim_ref {r : Int32} {sx sm : Sg} (hr : inR r (-11) (-2)) (h : Rel sx sm) : Sim (m_X11_refuse r sx) (m_X12_no r sm) := ⟨r, _, _, x_refuse hr sx, m_no_eq hr sm, rel_ref r h⟩
theorem s_laying (x : Int32) {sx sm : Sg} (h : Rel sx sm) : Sim (m_X11_laying x sx) (m_X12_laying x sm) := by
  obtain ⟨n, t, h1, h2, h3, h4, h5, h6, h7, h8, h9, h10⟩ := id h
  have hn := h1.2.1
  have i0 : (0 : Int64).toInt = 0 := rfl
  have i2 : (2 : Int64).toInt = 2 := rfl
  have t2 : (2 : Int32).toInt = 2 := rfl
  have n10 : ¬ (1 : Int32) = 0 := by decide
  rcases ly_b h10 with ⟨q1, q2⟩ | ⟨q1, q2, b, T, S, p, q, ⟨⟨b1, b2, b3, b4, b5⟩, b6⟩, c1, -⟩
  · rw [m_X11_laying, gIk, if_pos q1, clk_id, m_X12_laying, gIk, if_pos q2, clk_id]
    exact sim_ref (inR_lit _ _ rfl) h
  · rw [m_X12_laying, gIk, if_neg q2, isIn_eq, clk_some, i0, i2, m_X11_laying, gIk, if_neg q1]
    simp only [clk_id]
    by_cases c : 0 ≤ x.toInt ∧ x.toInt ≤ 2
    case neg =>
      have d0 : ¬ x = 0 := fun e => c (by rw [e, ti_0]; omega)
      have d1 : ¬ x = 1 := fun e => c (by rw [e, ti_1]; omega)
      have d2 : ¬ x = 2 := fun e => c (by rw [e, t2]; omega)
      rw [if_neg c, if_pos rfl, if_neg d0, if_neg d1, if_neg d2]
      exact sim_ref (inR_lit _ _ rfl) h
    rw [if_pos c, if_neg n10, nmk, nmk, nmk, lpk, layM_loop (S := S) hn h1.1 (fun a ha => ⟨(b6 a ha).2.1, (b6 a ha).2.2.2.1.2⟩)]
    by_cases d0 : x = 0
    · rw [if_pos d0]
      show Sim _ (if x = 0 then (gIk sm 0 27 fun v19 => some (v19, sm)) else _)
      rw [if_pos d0, gIk, gIk, b3, b4]
      exact ⟨_, _, _, rfl, rfl, h⟩
    rw [if_neg d0]
    show Sim _ (if x = 0 then _ else if x = 1 then (some (nI (mxN S n) + 1, sm)) else some (enF (gA sm 0 30) (gA sm 0 1) n, sm))
    rw [if_neg d0]
    by_cases d1 : x = 1
    · rw [if_pos d1, if_pos d1, gIk, c1, nI_1, Nat.add_comm]
      exact ⟨_, _, _, rfl, rfl, h⟩
    · have d2 : x = 2 := by
        have e0 : ¬ x.toInt = 0 := fun e => d0 (by rw [fx_eq, e, ti_0])
        have e1 : ¬ x.toInt = 1 := fun e => d1 (by rw [fx_eq, e, ti_1])
        rw [fx_eq, t2]; omega
      rw [if_neg d1, if_neg d1, if_pos d2, lastEnd_eq hn (h3.1.trans h1.1), enF_congr (f' := gA sm 0 30) (g' := gA sm 0 1) (fun i hi => ⟨by rw [(b6 i hi).2.2.2.2.1, (b6 i hi).2.2.2.2.2], by rw [h3.2.2.1]⟩)]
      exact ⟨_, _, _, rfl, rfl, h⟩
-- filled
theorem filM_act {s : Sg} {b k r a c : Nat} {T : Nat → Nat} (ha : a < 16) (hb1 : 1 ≤ b) (hb : b ≤ 60) (hr : r < b) (hbe : gI s 0 27 = nI b) (hT : gA s 0 28 a = nI (T a)) (hT2 : T a ≤ 100000) (hp : inR (gA s 0 3 a) 0 255) : lp (fun s : (Int32 × Int32 × Sg) => m_X12_filled_L62 (nI k) (nI r) (nI a) s.1 s.2.1 s.2.2) FU (nI c, 0, s) = some (nI (c + if gA s 0 2 a = nI k then hiN b (T a) (gA s 0 3 a) r 8 else 0), s) := by
  have va : vpb (nI a) 16 = true := vpb_nI (by omega) (by omega)
  have ca := nI_clamp (show a < 2 ^ 31 by omega)
  by_cases q : gA s 0 2 a = nI k
  case neg =>
    rw [if_neg q, Nat.add_zero]
    refine lp_end (n := FU - 1) ?_
    show m_X12_filled_L62 (nI k) (nI r) (nI a) (nI c) 0 s = _
    rw [m_X12_filled_L62, if_neg (show ¬ (8 : Int32) ≤ 0 by decide), lAk, if_pos va, ca, if_neg q]
  rw [if_pos q]
  have hI := ok_for (step := fun s : (Int32 × Int32 × Sg) => m_X12_filled_L62 (nI k) (nI r) (nI a) s.1 s.2.1 s.2.2) (Q := fun x => x = (nI (c + hiN b (T a) (gA s 0 3 a) r 8), s)) 8 (fun i x => x = (nI (c + hiN b (T a) (gA s 0 3 a) r i), nI i, s)) (by
      rintro i x hi rfl
      have hg : ¬ (8 : Int32) ≤ nI i := nI_ge (a := i) (b := 8) hi (by omega)
      have nb0 : ¬ nI b = 0 := nI_ne0 (by omega) (by omega)
      have em : nI (T a) + nI i - (nI (T a) + nI i) / nI b * nI b = nI ((T a + i) % b) := by
        rw [nI_add, nI_mod hb1 hb (by omega)]
      have hm := Nat.mod_lt (T a + i) (show 0 < b by omega)
      have eb : (gA s 0 3 a >>> (nI i &&& 31)) &&& 1 = biF (gA s 0 3 a) i := rfl
      have bn : biF (gA s 0 3 a) i = nI (biN (gA s 0 3 a) i) := by
        unfold biN
        rcases bi_01 hp hi with z | z
        · rw [if_pos z, z]; rfl
        · rw [if_neg (by rw [z]; decide), z]; rfl
      have es : hiN b (T a) (gA s 0 3 a) r (i + 1) = hiN b (T a) (gA s 0 3 a) r i + if (T a + i) % b = r then biN (gA s 0 3 a) i else 0 := rfl
      refine ⟨.inl (nI (c + hiN b (T a) (gA s 0 3 a) r (i + 1)), nI (i + 1), s), ?_, rfl⟩
      show m_X12_filled_L62 (nI k) (nI r) (nI a) (nI (c + hiN b (T a) (gA s 0 3 a) r i)) (nI i) s = _
      rw [m_X12_filled_L62, if_neg hg, lAk, if_pos va, ca, if_pos q, lAk, if_pos va, ca, hT, gIk, hbe, dvk, if_neg nb0, em, es]
      by_cases d : (T a + i) % b = r
      · rw [if_pos d, if_pos (by rw [d]), lAk, if_pos va, ca, eb, bn, nmk, nI_add, nmk, nI_1, Nat.add_assoc]
      · rw [if_neg d, if_neg (fun z => d (nI_inj (by omega) (by omega) z)), nmk, nmk, nI_1, Int32.add_zero]
        rfl) (by
      rintro x rfl
      refine ⟨.inr (nI (c + hiN b (T a) (gA s 0 3 a) r 8), s), ?_, rfl⟩
      show m_X12_filled_L62 (nI k) (nI r) (nI a) (nI (c + hiN b (T a) (gA s 0 3 a) r 8)) (nI 8) s = _
      rw [m_X12_filled_L62, if_pos (show (8 : Int32) ≤ nI 8 by decide)]) FU 0 (nI c, nI 0, s) (by omega) (FU_lt (by omega)) rfl
  obtain ⟨x, hx, rfl⟩ := hI
  exact hx
theorem s_filled (x y : Int32) {sx sm : Sg} (h : Rel sx sm) : Sim (m_X11_filled x y sx) (m_X12_filled x y sm) := by
  obtain ⟨n, t, h1, h2, h3, h4, h5, h6, h7, h8, h9, h10⟩ := id h
  have hn := h1.2.1
  have i0 : (0 : Int64).toInt = 0 := rfl
  have i5 : (5 : Int64).toInt = 5 := rfl
  have n10 : ¬ (1 : Int32) = 0 := by decide
  rcases ly_b h10 with ⟨q1, q2⟩ | ⟨q1, q2, b, T, S, p, q, ⟨⟨b1, b2, b3, b4, b5⟩, b6⟩, -, -, -, -, c1, -⟩
  · rw [m_X11_filled, gIk, if_pos q1, clk_id, m_X12_filled, gIk, if_pos q2, clk_id]
    exact sim_ref (inR_lit _ _ rfl) h
  rw [m_X12_filled, gIk, if_neg q2, isIn_eq, clk_some, i0, i5, m_X11_filled, gIk, if_neg q1, isKind_eq, clk_some]
  simp only [clk_id]
  by_cases c : 0 ≤ x.toInt ∧ x.toInt ≤ 5
  case neg =>
    rw [if_neg c, if_pos rfl, if_pos rfl]
    exact sim_ref (inR_lit _ _ rfl) h
  rw [if_pos c, if_neg n10, if_neg n10]
  by_cases d : y < 0
  · rw [if_pos d, if_pos d]
    exact sim_ref (inR_lit _ _ rfl) h
  rw [if_neg d, if_neg d, gIk, gIk, b3, b4]
  by_cases e : y < nI b
  case neg =>
    rw [if_neg e, if_neg e]
    exact sim_ref (inR_lit _ _ rfl) h
  rw [if_pos e, if_pos e, nmk, nmk, lpk]
  have d' := d
  rw [fx_lt, ti_0] at d'
  rw [fx_lt, nI_toInt (by omega)] at e
  obtain ⟨k, hk⟩ : ∃ k, k = x.toNatClampNeg := ⟨_, rfl⟩
  obtain ⟨r, hr⟩ : ∃ r, r = y.toNatClampNeg := ⟨_, rfl⟩
  have ex : x = nI k := by rw [hk]; exact fx_nI c.1
  have ey : y = nI r := by rw [hr]; exact fx_nI (by omega)
  have ck := fx_cl c.1
  have cr := fx_cl (i := y) (by omega)
  rw [← hk] at ck
  rw [← hr] at cr
  have hk6 : k < 6 := by omega
  have hrb : r < b := by omega
  have hI := ok_for (step := fun s : (Int32 × Int32 × Sg) => m_X12_filled_L50 x y s.1 s.2.1 s.2.2) (Q := fun z => z = (nI (celN (gA sm 0 2) (gA sm 0 3) T b k r n), sm)) n (fun i z => z = (nI (celN (gA sm 0 2) (gA sm 0 3) T b k r i), nI i, sm)) (by
      rintro i z hi rfl
      have hT := b6 i hi
      have hp := (h1.2.2.1 i hi).2.2.2.1
      refine ⟨.inl (nI (celN (gA sm 0 2) (gA sm 0 3) T b k r (i + 1)), nI (i + 1), sm), ?_, rfl⟩
      show m_X12_filled_L50 x y (nI (celN (gA sm 0 2) (gA sm 0 3) T b k r i)) (nI i) sm = _
      rw [m_X12_filled_L50, gIk, h1.1, if_neg (nI_ge hi (by omega)), nmk, lpk, ex, ey, filM_act (k := k) (T := T) (show i < 16 by omega) b1 b2 hrb b4 hT.2.2.1.2 (by omega) ⟨by have := hp.1; omega, hp.2⟩]
      rw [← nI_1]
      rfl) (by
      rintro z rfl
      refine ⟨.inr (nI (celN (gA sm 0 2) (gA sm 0 3) T b k r n), sm), ?_, rfl⟩
      show m_X12_filled_L50 x y (nI (celN (gA sm 0 2) (gA sm 0 3) T b k r n)) (nI n) sm = _
      rw [m_X12_filled_L50, gIk, h1.1, if_pos (Int32.le_refl _)]) FU 0 (0, 0, sm) (by omega) (FU_lt (by omega)) rfl
  obtain ⟨z, hz, rfl⟩ := hI
  rw [hz]
  have v1 : vpb (nI (60 * k + r)) 360 = true := vpb_nI (by omega) (by omega)
  have cl := nI_clamp (show 60 * k + r < 2 ^ 31 by omega)
  refine ⟨nI (celN (gA sm 0 2) (gA sm 0 3) T b k r n), sx, sm, ?_, rfl, h⟩
  rw [m_X2_at, ex, ey, nI_60, nI_add, lAk, if_pos v1, cl, c1 k r hk6 hrb, h3.2.2.2.1, h3.2.2.2.2.1]
-- names, fewest
theorem placesM_eq {s : Sg} {n b a : Nat} {B : Nat → Nat} (hn : n ≤ 16) (ha : a < n) (hb1 : 1 ≤ b) (hb : b ≤ 60) (hx : gI s 0 9 = nI n) (h27 : gI s 0 27 = nI b) (hB : ∀ v, v < n → gA s 0 30 v = nI (B v) ∧ B v ≤ 100000) (hop : ∀ k, k < 3 * n → inR (gA s 0 6 k) (-1) 4) : m_X12_placesOf (nI a) s = some (nI ((lfI (fun a => (B a : Int)) b (gA s 0 5) (gA s 0 6) a (3 * n)).toNat / b + 1), s) := by
  have span : ∀ k, k < 3 * n → -1000000 ≤ (B (k / 3) : Int) + (b : Int) * (gA s 0 6 k).toInt - (B a : Int) ∧ (B (k / 3) : Int) + (b : Int) * (gA s 0 6 k).toInt - (B a : Int) ≤ 1000000 ∧ -60 ≤ (b : Int) * (gA s 0 6 k).toInt ∧ (b : Int) * (gA s 0 6 k).toInt ≤ 240 := fun k hk => by
    have h1 := (hB (k / 3) (by omega)).2
    have h2 := (hB a ha).2
    obtain ⟨o1, o2⟩ := hop k hk
    have h3 : (b : Int) * (gA s 0 6 k).toInt ≤ (b : Int) * 4 := Int.mul_le_mul_of_nonneg_left o2 (by omega)
    have h4 : (b : Int) * (-1) ≤ (b : Int) * (gA s 0 6 k).toInt := Int.mul_le_mul_of_nonneg_left o1 (by omega)
    omega
  have lfb : ∀ k, k ≤ 3 * n → 0 ≤ lfI (fun a => (B a : Int)) b (gA s 0 5) (gA s 0 6) a k ∧ lfI (fun a => (B a : Int)) b (gA s 0 5) (gA s 0 6) a k ≤ 1000000 := fun k hk => lf_bd (n := n) (by omega) (fun k hk => (span k hk).2.1) hk
  have n3 : 3 * nI n = nI (3 * n) := by rw [show (3 : Int32) = nI 3 from rfl, pk_mul]
  have tb := nI_toInt (show b < 2 ^ 31 by omega)
  have b0 : ¬ nI b = 0 := nI_ne0 (by omega) (by omega)
  have va : vpb (nI a) 16 = true := vpb_nI (by omega) (by omega)
  have ca := nI_clamp (show a < 2 ^ 31 by omega)
  have hI := ok_for (step := fun r : (Int32 × Int32 × Sg) => m_X12_placesOf_L4 (nI a) r.1 r.2.1 r.2.2) (Q := fun r => ∃ x, r = (x, s) ∧ x.toInt = lfI (fun a => (B a : Int)) b (gA s 0 5) (gA s 0 6) a (3 * n)) (3 * n) (fun k r => ∃ x, r = (x, nI k, s) ∧ x.toInt = lfI (fun a => (B a : Int)) b (gA s 0 5) (gA s 0 6) a k) (by
      rintro k r hk ⟨x, rfl, h⟩
      have vk : vpb (nI k) 48 = true := vpb_nI (by omega) (by omega)
      have ck := nI_clamp (show k < 2 ^ 31 by omega)
      by_cases c : gA s 0 5 k = nI a
      case neg =>
        refine ⟨.inl (x, nI (k + 1), s), ?_, x, rfl, ?_⟩
        · show m_X12_placesOf_L4 (nI a) x (nI k) s = _
          rw [m_X12_placesOf_L4, gIk, hx, n3, if_neg (nI_ge hk (by omega)), lAk, if_pos vk, ck, if_neg c, nmk, nI_1]
        · rw [lf_s, if_neg (fun q => c q.1)]; exact h
      have v3 : vpb (nI (k / 3)) 16 = true := vpb_nI (by omega) (by omega)
      have c3 := nI_clamp (show k / 3 < 2 ^ 31 by omega)
      obtain ⟨p1, p2, p3, p4⟩ := span k hk
      have t1 := nI_toInt (show B (k / 3) < 2 ^ 31 by have := (hB (k / 3) (by omega)).2; omega)
      have t2 := nI_toInt (show B a < 2 ^ 31 by have := (hB a ha).2; omega)
      have q1 := (hB (k / 3) (by omega)).2
      have q2 := (hB a ha).2
      have m1 : (nI b * gA s 0 6 k).toInt = (b : Int) * (gA s 0 6 k).toInt := by rw [fx_mul (by rw [tb]; omega) (by rw [tb]; omega), tb]
      have m2 : (nI (B (k / 3)) + nI b * gA s 0 6 k).toInt = (B (k / 3) : Int) + (b : Int) * (gA s 0 6 k).toInt := by rw [fx_add (by rw [t1, m1]; omega) (by rw [t1, m1]; omega), t1, m1]
      have m3 : (nI (B (k / 3)) + nI b * gA s 0 6 k - nI (B a)).toInt = (B (k / 3) : Int) + (b : Int) * (gA s 0 6 k).toInt - (B a : Int) := by rw [fx_sub (by rw [m2, t2]; omega) (by rw [m2, t2]; omega), m2, t2]
      have B3 : gA s 0 30 (k / 3) = nI (B (k / 3)) := (hB (k / 3) (by omega)).1
      have Ba : gA s 0 30 a = nI (B a) := (hB a ha).1
      have st : m_X12_placesOf_L4 (nI a) x (nI k) s = if nI (B (k / 3)) + nI b * gA s 0 6 k - nI (B a) ≤ x then some (.inl (x, nI (k + 1), s)) else some (.inl (nI (B (k / 3)) + nI b * gA s 0 6 k - nI (B a), nI (k + 1), s)) := by
        rw [m_X12_placesOf_L4, gIk, hx, n3, if_neg (nI_ge hk (by omega)), lAk, if_pos vk, ck, if_pos c, dvk, if_neg (show ¬ (3 : Int32) = 0 by decide), nI_3 k (by omega), lAk, if_pos v3, c3, B3, gIk, h27, lAk, if_pos vk, ck, lAk, if_pos va, ca, Ba, nmk, nmk, nI_1]
        rfl
      by_cases d : nI (B (k / 3)) + nI b * gA s 0 6 k - nI (B a) ≤ x
      · refine ⟨.inl (x, nI (k + 1), s), st.trans (if_pos d), x, rfl, ?_⟩
        rw [fx_le, m3, h] at d
        rw [lf_s, if_neg (fun q => by have := q.2; omega)]; exact h
      · refine ⟨.inl (nI (B (k / 3)) + nI b * gA s 0 6 k - nI (B a), nI (k + 1), s), st.trans (if_neg d), _, rfl, ?_⟩
        rw [fx_le, m3, h] at d
        rw [lf_s, if_pos ⟨c, by show _ < (B (k / 3) : Int) + (b : Int) * (gA s 0 6 k).toInt - (B a : Int); omega⟩]
        exact m3) (by
      rintro r ⟨x, rfl, h⟩
      refine ⟨.inr (x, s), ?_, x, rfl, h⟩
      show m_X12_placesOf_L4 (nI a) x (nI (3 * n)) s = _
      rw [m_X12_placesOf_L4, gIk, hx, n3, if_pos (Int32.le_refl _)]) FU 0 (0, 0, s) (by omega) (FU_lt (by omega)) ⟨0, rfl, rfl⟩
  obtain ⟨r, hr, x, rfl, h⟩ := hI
  have lb := lfb (3 * n) (Nat.le_refl _)
  have e : x / nI b + 1 = nI ((lfI (fun a => (B a : Int)) b (gA s 0 5) (gA s 0 6) a (3 * n)).toNat / b + 1) := by
    have hd := fx_div (x := x) (y := nI b) (by omega) (by omega)
    rw [h, tb] at hd
    generalize lfI (fun a => (B a : Int)) b (gA s 0 5) (gA s 0 6) a (3 * n) = L at *
    have e2 : L / (b : Int) = ((L.toNat / b : Nat) : Int) := by
      obtain ⟨m, rfl⟩ := Int.eq_ofNat_of_zero_le lb.1
      rfl
    have hld : L.toNat / b ≤ L.toNat := Nat.div_le_self _ _
    rw [e2] at hd
    generalize L.toNat / b = y at *
    rw [fx_eq, fx_add (by rw [hd, ti_1]; omega) (by rw [hd, ti_1]; omega), hd, ti_1, nI_toInt (by omega)]
    omega
  rw [m_X12_placesOf, nmk, nmk, lpk, hr]
  show (gIk s 0 27 fun v15 => dvk v15 <| some (x / v15 + 1, s)) = _
  rw [gIk, h27, dvk, if_neg b0, e]
theorem s_names (x : Int32) {sx sm : Sg} (h : Rel sx sm) : Sim (m_X11_names x sx) (m_X12_names x sm) := by
  obtain ⟨n, t, h1, h2, h3, h4, h5, h6, h7, h8, h9, h10⟩ := id h
  have hn := h1.2.1
  have n10 : ¬ (1 : Int32) = 0 := by decide
  rcases ly_b h10 with ⟨q1, q2⟩ | ⟨q1, q2, b, T, S, p, q, ⟨⟨b1, b2, b3, b4, b5⟩, b6⟩, -, -, -, -, -, c1, -⟩
  · rw [m_X11_names, gIk, if_pos q1, clk_id, m_X12_names, gIk, if_pos q2, clk_id]
    exact sim_ref (inR_lit _ _ rfl) h
  rw [m_X12_names, gIk, if_neg q2, isAct_eq, clk_some, m_X11_names, gIk, if_neg q1, has_eq, clk_some, h3.1]
  simp only [clk_id]
  by_cases c : 0 ≤ x.toInt ∧ x.toInt < (gI sm 0 9).toInt
  case neg =>
    rw [if_neg c, if_pos rfl, if_pos rfl]
    exact sim_ref (inR_lit _ _ rfl) h
  rw [if_pos c, if_neg n10, if_neg n10]
  obtain ⟨hp1, hp2, hv⟩ := acts_lt h1.1 hn c
  obtain ⟨a, ha⟩ : ∃ a, a = x.toNatClampNeg := ⟨_, rfl⟩
  have ex : x = nI a := by rw [ha]; exact fx_nI c.1
  rw [← ha] at hp1
  rw [lAk, if_pos hv, ← ha, c1 a hp1, ex, placesM_eq (B := fun a => b * S a + T a) hn hp1 b1 b2 h1.1 b4 (fun v hv => ⟨(b6 v hv).2.2.2.2.2, by have := Nat.mul_le_mul b2 (b6 v hv).2.1; have := (b6 v hv).1; omega⟩) (fun k hk => (h1.2.2.2.1 k hk).2.1), h3.2.2.2.2.2.2.1, h3.2.2.2.2.2.2.2.1]
  exact ⟨_, _, _, rfl, rfl, h⟩
def smF (P : Nat → Int32) : Nat → Int32
  | 0 => 0
  | i + 1 => smF P i + P i
def mpF (P : Nat → Int32) : Nat → Int32
  | 0 => 0
  | i + 1 => mx (mpF P i) (P i)
theorem inAll_eq {s : Sg} {n : Nat} (hn : n ≤ 16) : m_X4_placesInAll (nI n) s = some (smF (gA s 9 9) n, s) := by
  have hI := ok_for (step := fun s : (Int32 × Int32 × Sg) => m_X4_placesInAll_L4 (nI n) s.1 s.2.1 s.2.2) (Q := fun r => r = (smF (gA s 9 9) n, s)) n (fun i r => r = (smF (gA s 9 9) i, nI i, s)) (by
      rintro i r hi rfl
      refine ⟨.inl (smF (gA s 9 9) (i + 1), nI (i + 1), s), ?_, rfl⟩
      show m_X4_placesInAll_L4 (nI n) (smF (gA s 9 9) i) (nI i) s = _
      rw [m_X4_placesInAll_L4, if_neg (nI_ge hi (by omega)), lAk, if_pos (vpb_nI (show i < 16 by omega) (by omega)), nI_clamp (show i < 2 ^ 31 by omega), nmk, nmk, nI_1]
      rfl) (by
      rintro r rfl
      refine ⟨.inr (smF (gA s 9 9) n, s), ?_, rfl⟩
      show m_X4_placesInAll_L4 (nI n) (smF (gA s 9 9) n) (nI n) s = _
      rw [m_X4_placesInAll_L4, if_pos (Int32.le_refl _)]) FU 0 (0, 0, s) (by omega) (FU_lt (by omega)) rfl
  obtain ⟨r, hr, rfl⟩ := hI
  rw [m_X4_placesInAll, nmk, nmk, lpk, hr]
theorem most_eq {s : Sg} {n : Nat} (hn : n ≤ 16) : m_X4_mostPlaces (nI n) s = some (mpF (gA s 9 9) n, s) := by
  have hI := ok_for (step := fun s : (Int32 × Int32 × Sg) => m_X4_mostPlaces_L4 (nI n) s.1 s.2.1 s.2.2) (Q := fun r => r = (mpF (gA s 9 9) n, s)) n (fun i r => r = (mpF (gA s 9 9) i, nI i, s)) (by
      rintro i r hi rfl
      refine ⟨.inl (mpF (gA s 9 9) (i + 1), nI (i + 1), s), ?_, rfl⟩
      show m_X4_mostPlaces_L4 (nI n) (mpF (gA s 9 9) i) (nI i) s = _
      rw [m_X4_mostPlaces_L4, if_neg (nI_ge hi (by omega)), lAk, if_pos (vpb_nI (show i < 16 by omega) (by omega)), nI_clamp (show i < 2 ^ 31 by omega), nmk, nmk, nI_1]
      rfl) (by
      rintro r rfl
      refine ⟨.inr (mpF (gA s 9 9) n, s), ?_, rfl⟩
      show m_X4_mostPlaces_L4 (nI n) (mpF (gA s 9 9) n) (nI n) s = _
      rw [m_X4_mostPlaces_L4, if_pos (Int32.le_refl _)]) FU 0 (0, 0, s) (by omega) (FU_lt (by omega)) rfl
  obtain ⟨r, hr, rfl⟩ := hI
  rw [m_X4_mostPlaces, nmk, nmk, lpk, hr]
theorem s_fewest (x : Int32) {sx sm : Sg} (h : Rel sx sm) : Sim (m_X11_fewest x sx) (m_X12_fewest x sm) := by
  obtain ⟨n, t, h1, h2, h3, h4, h5, h6, h7, h8, h9, h10⟩ := id h
  have hn := h1.2.1
  have i0 : (0 : Int64).toInt = 0 := rfl
  have i1 : (1 : Int64).toInt = 1 := rfl
  have n10 : ¬ (1 : Int32) = 0 := by decide
  rcases ly_b h10 with ⟨q1, q2⟩ | ⟨q1, q2, b, T, S, p, q, ⟨⟨b1, b2, b3, b4, b5⟩, b6⟩, -, -, -, -, -, c1, -⟩
  · rw [m_X11_fewest, gIk, if_pos q1, clk_id, m_X12_fewest, gIk, if_pos q2, clk_id]
    exact sim_ref (inR_lit _ _ rfl) h
  rw [m_X12_fewest, gIk, if_neg q2, isIn_eq, clk_some, i0, i1, m_X11_fewest, gIk, if_neg q1]
  simp only [clk_id]
  by_cases c : 0 ≤ x.toInt ∧ x.toInt ≤ 1
  case neg =>
    have d0 : ¬ x = 0 := fun e => c (by rw [e, ti_0]; omega)
    have d1 : ¬ x = 1 := fun e => c (by rw [e, ti_1]; omega)
    rw [if_neg c, if_pos rfl, if_neg d0, if_neg d1]
    exact sim_ref (inR_lit _ _ rfl) h
  have hP : ∀ a, a < n → m_X12_placesOf (nI a) sm = some (gA sx 9 9 a, sm) := fun a ha => by
    rw [c1 a ha, placesM_eq (B := fun a => b * S a + T a) hn ha b1 b2 h1.1 b4 (fun v hv => ⟨(b6 v hv).2.2.2.2.2, by have := Nat.mul_le_mul b2 (b6 v hv).2.1; have := (b6 v hv).1; omega⟩) (fun k hk => (h1.2.2.2.1 k hk).2.1), h3.2.2.2.2.2.2.1, h3.2.2.2.2.2.2.2.1]
  have hI := ok_for (step := fun s : (Int32 × Int32 × Int32 × Sg) => m_X12_fewest_L38 x s.1 s.2.1 s.2.2.1 s.2.2.2) (Q := fun r => r = (smF (gA sx 9 9) n, mpF (gA sx 9 9) n, sm)) n (fun i r => r = (smF (gA sx 9 9) i, mpF (gA sx 9 9) i, nI i, sm)) (by
      rintro i r hi rfl
      refine ⟨.inl (smF (gA sx 9 9) (i + 1), mpF (gA sx 9 9) (i + 1), nI (i + 1), sm), ?_, rfl⟩
      show m_X12_fewest_L38 x (smF (gA sx 9 9) i) (mpF (gA sx 9 9) i) (nI i) sm = _
      have e : mpF (gA sx 9 9) (i + 1) = if gA sx 9 9 i ≤ mpF (gA sx 9 9) i then mpF (gA sx 9 9) i else gA sx 9 9 i := (mx_alt _ _).symm
      rw [m_X12_fewest_L38, gIk, h1.1, if_neg (nI_ge hi (by omega)), hP i hi, clk_some, nmk, nmk, e]
      by_cases d : gA sx 9 9 i ≤ mpF (gA sx 9 9) i
      · rw [if_pos d, if_pos d, nmk, nI_1]
        rfl
      · rw [if_neg d, if_neg d, nmk, nmk, nI_1]
        rfl) (by
      rintro r rfl
      refine ⟨.inr (smF (gA sx 9 9) n, mpF (gA sx 9 9) n, sm), ?_, rfl⟩
      show m_X12_fewest_L38 x (smF (gA sx 9 9) n) (mpF (gA sx 9 9) n) (nI n) sm = _
      rw [m_X12_fewest_L38, gIk, h1.1, if_pos (Int32.le_refl _)]) FU 0 (0, 0, 0, sm) (by omega) (FU_lt (by omega)) rfl
  obtain ⟨r, hr, rfl⟩ := hI
  have ex := h3.1.trans h1.1
  rw [if_pos c, if_neg n10, nmk, nmk, nmk, lpk, hr]
  show Sim _ (if x = 0 then (some (smF (gA sx 9 9) n, sm)) else gIk sm 0 9 fun v16 => some (v16 * mpF (gA sx 9 9) n, sm))
  by_cases d0 : x = 0
  · rw [if_pos d0, if_pos d0, gIk, ex, inAll_eq hn]
    exact ⟨_, _, _, rfl, rfl, h⟩
  · have d1 : x = 1 := by
      have e0 : ¬ x.toInt = 0 := fun e => d0 (by rw [fx_eq, e, ti_0])
      rw [fx_eq, ti_1]; omega
    rw [if_neg d0, if_neg d0, if_pos d1, gIk, ex, most_eq hn, clk_some, gIk, ex, gIk, h1.1, Int32.mul_comm]
    exact ⟨_, _, _, rfl, rfl, h⟩
