-- 61.weave: the class's own edges (Weave.renew)
/-- st is s0 but for the list of all edges, which holds l -/
def ES (s0 st : Sg) (l : List Ed) : Prop := (∀ j k, j ≠ 4 → gI st j k = gI s0 j k) ∧ (∀ j k, j ≠ 4 → gA st j k = gA s0 j k) ∧ (∀ j k, gL st j k = gL s0 j k) ∧ LR (gI st 4 0) (gA st 4 1) (gA st 4 2) (gA st 4 3) (gA st 4 4) l
theorem LR_push {f1 f2 f3 f4 : Nat → Int32} {l : List Ed} {sz : Int32} (h : LR sz f1 f2 f3 f4 l) (a b c d : Int32) : LR (nI (l.length + 1)) (upd f1 l.length a) (upd f2 l.length b) (upd f3 l.length c) (upd f4 l.length d) (l ++ [(a, b, c, d)]) := by
  refine ⟨by simp, fun i hi => ?_⟩
  simp only [List.length_append, List.length_cons, List.length_nil] at hi
  simp only [upd_i]
  by_cases e : i = l.length
  · subst e
    simp
  · have hl : i < l.length := by omega
    rw [List.getElem_append_left hl]
    simp only [if_neg e]
    exact h.2 i hl
theorem ln4 : lnE 4 = 720 := rfl
theorem es_join {s0 st : Sg} {l : List Ed} (h : ES s0 st l) (hl : l.length < 720) (a b c d : Int32) : ∃ st', m_X1_join 4 a b c d st = some (1, st') ∧ ES s0 st' (l ++ [(a, b, c, d)]) := by
  obtain ⟨h1, h2, h3, h4⟩ := h
  refine ⟨_, join_eq 4 l.length (by rw [ln4]; exact hl) (by rw [ln4]; omega) a b c d st h4.1, fun j k hj => ?_, fun j k hj => ?_, fun j k => h3 j k, LR_push h4 a b c d⟩
  · rw [gI_pI, if_neg hj]
    exact h1 j k hj
  · show gA (w4 4 l.length a b c d st) j k = _
    unfold w4
    simp only [gA_pA2, if_neg hj]
    exact h2 j k hj
theorem fm_succ (g : Nat → List Ed) (i : Nat) : (List.range (i + 1)).flatMap g = (List.range i).flatMap g ++ g i := by
  rw [List.range_succ, List.flatMap_append]
  simp
theorem es_for {step : Int32 × Sg → Option ((Int32 × Sg) ⊕ Sg)} {P : Sg → List Ed → Prop} {l0 : List Ed} {g : Nat → List Ed} {e : Nat} (he : e < 90000) (hx : ∀ st, P st (l0 ++ (List.range e).flatMap g) → step (nI e, st) = some (.inr st)) (hs : ∀ i st, i < e → P st (l0 ++ (List.range i).flatMap g) → ∃ st', step (nI i, st) = some (.inl (nI (i + 1), st')) ∧ P st' ((l0 ++ (List.range i).flatMap g) ++ g i)) (st : Sg) (h : P st l0) : ∃ st', lp step FU (nI 0, st) = some st' ∧ P st' (l0 ++ (List.range e).flatMap g) := by
  have go : ∀ (d i N : Nat) (st : Sg), i + d = e → d < N → P st (l0 ++ (List.range i).flatMap g) → ∃ st', lp step N (nI i, st) = some st' ∧ P st' (l0 ++ (List.range e).flatMap g) := by
    intro d
    induction d with
    | zero =>
      intro i N st hi hN h
      obtain ⟨N, rfl⟩ : ∃ M, N = M + 1 := ⟨N - 1, by omega⟩
      have e1 : i = e := by omega
      subst e1
      exact ⟨st, lp_end (hx st h), h⟩
    | succ d ih =>
      intro i N st hi hN h
      obtain ⟨N, rfl⟩ : ∃ M, N = M + 1 := ⟨N - 1, by omega⟩
      obtain ⟨st', s1, s2⟩ := hs i st (by omega) h
      obtain ⟨st2, r1, r2⟩ := ih (i + 1) N st' (by omega) (by omega) (by rw [fm_succ, ← List.append_assoc]; exact s2)
      exact ⟨st2, (lp_next s1).trans r1, r2⟩
  exact go e 0 FU st (by omega) (FU_lt (by omega)) (by simpa using h)
-- lengths
def fbs (c : Nat → Nat) : Nat → Nat
  | 0 => 0
  | n + 1 => fbs c n + c n
theorem fm_len {g : Nat → List Ed} {c : Nat → Nat} (h : ∀ i, (g i).length ≤ c i) : ∀ n, ((List.range n).flatMap g).length ≤ fbs c n
  | 0 => by simp
  | n + 1 => by
    rw [fm_succ, List.length_append]
    have h1 := fm_len h n
    have h2 := h n
    show _ ≤ fbs c n + c n
    omega
theorem opsE_len (n : Nat) (lag ofs back : Nat → Int32) (b i : Nat) : ((List.range i).flatMap (fun i => if 0 ≤ ofs (3 * b + i) ∧ ofs (3 * b + i) < nI n then [((ofs (3 * b + i), nI b, lag (ofs (3 * b + i)).toNatClampNeg, back (3 * b + i)) : Ed)] else [])).length ≤ i := by
  have h := fm_len (g := fun i => if 0 ≤ ofs (3 * b + i) ∧ ofs (3 * b + i) < nI n then [((ofs (3 * b + i), nI b, lag (ofs (3 * b + i)).toNatClampNeg, back (3 * b + i)) : Ed)] else []) (c := fun _ => 1) (fun i => by
    show (if _ then _ else _ : List Ed).length ≤ 1
    split <;> simp) i
  have k : ∀ i, fbs (fun _ => 1) i = i := by
    intro i
    induction i with
    | zero => rfl
    | succ i ih => show fbs _ i + 1 = _; omega
  rw [k] at h
  exact h
theorem clashE_len (sort slot : Nat → Int32) (b i : Nat) : ((List.range i).flatMap (fun a => if (sort a = 4 ∨ sort a = 5) ∧ (sort b = 4 ∨ sort b = 5) ∧ slot a = slot b ∧ (sort a = 5 ∨ sort b = 5) then [((nI a, nI b, 1, 0) : Ed), (nI b, nI a, 1, 1)] else [])).length ≤ 2 * i := by
  have h := fm_len (g := fun a => if (sort a = 4 ∨ sort a = 5) ∧ (sort b = 4 ∨ sort b = 5) ∧ slot a = slot b ∧ (sort a = 5 ∨ sort b = 5) then [((nI a, nI b, 1, 0) : Ed), (nI b, nI a, 1, 1)] else []) (c := fun _ => 2) (fun i => by
    show (if _ then _ else _ : List Ed).length ≤ 2
    split <;> simp) i
  have k : ∀ i, fbs (fun _ => 2) i = 2 * i := by
    intro i
    induction i with
    | zero => rfl
    | succ i ih => show fbs _ i + 2 = _; omega
  rw [k] at h
  exact h
theorem storeE_len (sort : Nat → Int32) (b i : Nat) : ((List.range i).flatMap (fun a => if a ≠ b ∧ (sort a = 3 ∨ sort a = 4 ∨ sort a = 5) then (if a < b then [((nI a, nI b, 1, 0) : Ed)] else []) ++ [(nI a, nI b, 1, 1)] else [])).length ≤ (if i ≤ b then 2 * i else b + (i - 1)) := by
  have h := fm_len (g := fun a => if a ≠ b ∧ (sort a = 3 ∨ sort a = 4 ∨ sort a = 5) then (if a < b then [((nI a, nI b, 1, 0) : Ed)] else []) ++ [(nI a, nI b, 1, 1)] else []) (c := fun a => if a < b then 2 else if a = b then 0 else 1) (fun a => by
    show (if _ then _ else _ : List Ed).length ≤ (if a < b then 2 else if a = b then 0 else 1)
    by_cases q : a ≠ b ∧ (sort a = 3 ∨ sort a = 4 ∨ sort a = 5)
    · rw [if_pos q]
      by_cases g : a < b
      · rw [if_pos g, if_pos g]; simp
      · rw [if_neg g, if_neg g, if_neg q.1]; simp
    · rw [if_neg q]; simp) i
  have k : ∀ i, fbs (fun a => if a < b then 2 else if a = b then 0 else 1) i = if i ≤ b then 2 * i else b + (i - 1) := by
    intro i
    induction i with
    | zero => simp [fbs]
    | succ i ih =>
      show fbs _ i + (if i < b then 2 else if i = b then 0 else 1) = _
      rw [ih]
      by_cases g : i < b
      · rw [if_pos g, if_pos (by omega), if_pos (by omega)]; omega
      · rw [if_neg g]
        by_cases g2 : i = b
        · rw [if_pos g2, if_pos (by omega), if_neg (by omega)]; omega
        · rw [if_neg g2, if_neg (by omega), if_neg (by omega)]; omega
  rw [k] at h
  exact h
-- the class's three kinds of own edges; the body's numbers are read from s0
section WX
variable {s0 : Sg} {n : Nat}
theorem x_ops (hb : gI s0 1 0 = nI n) (hn : n ≤ 16) {b : Nat} (hbn : b < n) {st : Sg} {l : List Ed} (h : ES s0 st l) (hl : l.length + 3 ≤ 720) : ∃ st', m_X10_joinOperands (nI b) st = some ((), st') ∧ ES s0 st' (l ++ opsE n (gA s0 1 2) (gA s0 1 6) (gA s0 1 7) b) := by
  obtain ⟨st', r1, r2⟩ := es_for (step := fun s : (Int32 × Sg) => m_X10_joinOperands_L2 (nI b) s.1 s.2) (P := ES s0) (l0 := l) (g := fun i => if 0 ≤ gA s0 1 6 (3 * b + i) ∧ gA s0 1 6 (3 * b + i) < nI n then [(gA s0 1 6 (3 * b + i), nI b, gA s0 1 2 (gA s0 1 6 (3 * b + i)).toNatClampNeg, gA s0 1 7 (3 * b + i))] else []) (e := 3) (by omega) (fun st _ => by
      simp only [m_X10_joinOperands_L2, if_pos (show (3 : Int32) ≤ nI 3 by decide)]) (fun i st hi hE => by
      have hg : ¬ (3 : Int32) ≤ nI i := nI_ge (a := i) (b := 3) hi (by omega)
      have hv : vpb (nI (3 * b + i)) 48 = true := vpb_nI (by omega) (by omega)
      have cl := nI_clamp (show 3 * b + i < 2 ^ 31 by omega)
      have eA : ∀ k, gA st 1 k = gA s0 1 k := fun k => hE.2.1 1 k (by omega)
      have eI : gI st 1 0 = nI n := (hE.1 1 0 (by omega)).trans hb
      simp only [m_X10_joinOperands_L2, if_neg hg, nI_3w, lAk, if_pos hv, cl, eA, nmk, has_eq, clk_some, ite10, eI, nI_1]
      by_cases c : 0 ≤ (gA s0 1 6 (3 * b + i)).toInt ∧ (gA s0 1 6 (3 * b + i)).toInt < (nI n).toInt
      · have c' : 0 ≤ gA s0 1 6 (3 * b + i) ∧ gA s0 1 6 (3 * b + i) < nI n := by rw [fx_le, fx_lt, ti_0]; exact c
        obtain ⟨-, -, hv2⟩ := acts_lt (n := n) rfl hn c
        have := opsE_len n (gA s0 1 2) (gA s0 1 6) (gA s0 1 7) b i
        obtain ⟨st2, j1, j2⟩ := es_join hE (by rw [List.length_append]; omega) (gA s0 1 6 (3 * b + i)) (nI b) (gA s0 1 2 (gA s0 1 6 (3 * b + i)).toNatClampNeg) (gA s0 1 7 (3 * b + i))
        rw [if_pos c, if_pos c']
        simp only [if_pos hv2, j1, clk_some]
        exact ⟨st2, rfl, j2⟩
      · have c' : ¬ (0 ≤ gA s0 1 6 (3 * b + i) ∧ gA s0 1 6 (3 * b + i) < nI n) := by rw [fx_le, fx_lt, ti_0]; exact c
        rw [if_neg c, if_neg c']
        exact ⟨st, rfl, by simpa using hE⟩) st h
  refine ⟨st', ?_, r2⟩
  simp only [m_X10_joinOperands, nmk, lpk, show (0 : Int32) = nI 0 from rfl, r1]
theorem touches_eq {st : Sg} (hA : gA st 1 1 = gA s0 1 1) {a : Nat} (ha : a < 16) : m_X0_touchesRows (nI a) st = some (if gA s0 1 1 a = 4 ∨ gA s0 1 1 a = 5 then 1 else 0, st) := by
  have hv : vpb (nI a) 16 = true := vpb_nI ha (by omega)
  simp only [m_X0_touchesRows, lAk, if_pos hv, nI_clamp (show a < 2 ^ 31 by omega), hA]
  by_cases c1 : gA s0 1 1 a = 4
  · rw [if_pos c1, if_pos (Or.inl c1)]
  · rw [if_neg c1]
    by_cases c2 : gA s0 1 1 a = 5
    · rw [if_pos c2, if_pos (Or.inr c2)]
    · rw [if_neg c2, if_neg (fun q => q.elim c1 c2)]
theorem clash_eq {st : Sg} (hA : gA st 1 1 = gA s0 1 1) (hS : gA st 1 5 = gA s0 1 5) {a b : Nat} (ha : a < 16) (hb : b < 16) : m_X0_clash (nI a) (nI b) st = some (if (gA s0 1 1 a = 4 ∨ gA s0 1 1 a = 5) ∧ (gA s0 1 1 b = 4 ∨ gA s0 1 1 b = 5) ∧ gA s0 1 5 a = gA s0 1 5 b ∧ (gA s0 1 1 a = 5 ∨ gA s0 1 1 b = 5) then 1 else 0, st) := by
  have hva : vpb (nI a) 16 = true := vpb_nI ha (by omega)
  have hvb : vpb (nI b) 16 = true := vpb_nI hb (by omega)
  simp only [m_X0_clash, touches_eq hA ha, touches_eq hA hb, clk_some, ite10, lAk, if_pos hva, if_pos hvb, nI_clamp (show a < 2 ^ 31 by omega), nI_clamp (show b < 2 ^ 31 by omega), hA, hS]
  by_cases c1 : gA s0 1 1 a = 4 ∨ gA s0 1 1 a = 5
  case neg => rw [if_neg c1, if_neg (fun q => c1 q.1)]
  rw [if_pos c1]
  by_cases c2 : gA s0 1 1 b = 4 ∨ gA s0 1 1 b = 5
  case neg => rw [if_neg c2, if_neg (fun q => c2 q.2.1)]
  rw [if_pos c2]
  by_cases c3 : gA s0 1 5 a = gA s0 1 5 b
  case neg => rw [if_neg c3, if_neg (fun q => c3 q.2.2.1)]
  rw [if_pos c3]
  by_cases c4 : gA s0 1 1 a = 5
  · rw [if_pos c4, if_pos ⟨c1, c2, c3, Or.inl c4⟩]
  · rw [if_neg c4]
    by_cases c5 : gA s0 1 1 b = 5
    · rw [if_pos c5, if_pos ⟨c1, c2, c3, Or.inr c5⟩]
    · rw [if_neg c5, if_neg (fun q => q.2.2.2.elim c4 c5)]
theorem x_clash {b : Nat} (hbn : b < 16) {st : Sg} {l : List Ed} (h : ES s0 st l) (hl : l.length + 2 * b ≤ 720) : ∃ st', m_X10_joinClashes (nI b) st = some ((), st') ∧ ES s0 st' (l ++ clashE (gA s0 1 1) (gA s0 1 5) b) := by
  obtain ⟨st', r1, r2⟩ := es_for (step := fun s : (Int32 × Sg) => m_X10_joinClashes_L2 (nI b) s.1 s.2) (P := ES s0) (l0 := l) (g := fun a => if (gA s0 1 1 a = 4 ∨ gA s0 1 1 a = 5) ∧ (gA s0 1 1 b = 4 ∨ gA s0 1 1 b = 5) ∧ gA s0 1 5 a = gA s0 1 5 b ∧ (gA s0 1 1 a = 5 ∨ gA s0 1 1 b = 5) then [(nI a, nI b, 1, 0), (nI b, nI a, 1, 1)] else []) (e := b) (by omega) (fun st _ => by
      simp only [m_X10_joinClashes_L2, if_pos (Int32.le_refl _)]) (fun i st hi hE => by
      have hg : ¬ nI b ≤ nI i := nI_ge hi (by omega)
      have eA : ∀ k, gA st 1 k = gA s0 1 k := fun k => hE.2.1 1 k (by omega)
      simp only [m_X10_joinClashes_L2, if_neg hg, clash_eq (eA 1) (eA 5) (show i < 16 by omega) hbn, clk_some, ite10, nmk, nI_1]
      by_cases c : (gA s0 1 1 i = 4 ∨ gA s0 1 1 i = 5) ∧ (gA s0 1 1 b = 4 ∨ gA s0 1 1 b = 5) ∧ gA s0 1 5 i = gA s0 1 5 b ∧ (gA s0 1 1 i = 5 ∨ gA s0 1 1 b = 5)
      · have := clashE_len (gA s0 1 1) (gA s0 1 5) b i
        obtain ⟨st2, j1, j2⟩ := es_join hE (by rw [List.length_append]; omega) (nI i) (nI b) 1 0
        obtain ⟨st3, k1, k2⟩ := es_join j2 (by rw [List.length_append, List.length_append]; simp only [List.length_cons, List.length_nil]; omega) (nI b) (nI i) 1 1
        rw [if_pos c, if_pos c]
        simp only [j1, k1, clk_some]
        exact ⟨st3, rfl, by simpa using k2⟩
      · rw [if_neg c, if_neg c]
        exact ⟨st, rfl, by simpa using hE⟩) st h
  refine ⟨st', ?_, r2⟩
  simp only [m_X10_joinClashes, nmk, lpk, show (0 : Int32) = nI 0 from rfl, r1]
end WX
