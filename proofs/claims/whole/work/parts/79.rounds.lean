-- 79.rounds: rounds of pushing in general; whole numbers divided upward; the reference's holds
def itG (E : List Ge) : Nat → Nat → Int
  | 0 => fun _ => 0
  | i + 1 => roundG E (itG E i)
theorem it_0 {n : Nat} (E : List Ge) (i v : Nat) (hv : v < n) : 0 ≤ itG E i v := by
  induction i with
  | zero => exact Int.le_refl 0
  | succ i ih => exact Int.le_trans ih (round_ge E (itG E i) v)
theorem it_le {n : Nat} {E : List Ge} (hi : InG n E) {q : Nat → Int} (h0 : ∀ v, v < n → 0 ≤ q v) (hq : SolG E q) : ∀ i v, v < n → itG E i v ≤ q v := by
  intro i
  induction i with
  | zero => exact h0
  | succ i ih => exact round_le E hi hq (itG E i) ih
theorem it_least {n : Nat} {E : List Ge} (hi : InG n E) {i : Nat} (h : roundG E (itG E i) = itG E i) : LeastG n E (itG E i) := ⟨fun v hv => it_0 E i v hv, still_sol h, fun q h0 hq => it_le hi h0 hq i⟩
theorem it_off {n : Nat} {E : List Ge} (hi : InG n E) {P : Nat → Int} (hP : LeastG n E P) : ∀ i, offG P (itG E i) n + i ≤ n ∨ offG P (itG E i) n = 0
  | 0 => Or.inl (by have := off_le P (itG E 0) n; omega)
  | i + 1 => by
    by_cases c : offG P (itG E i) n = 0
    · right
      have a := off_zero c
      have b := round_still (sol_in hi hP.2.1 a)
      show offG P (roundG E (itG E i)) n = 0
      rw [b]; exact c
    · have := round_less hi hP (fun v hv => it_0 E i v hv) (fun v hv => it_le hi hP.1 hP.2.1 i v hv) c
      rcases it_off hi hP i with d | d
      · left
        show offG P (roundG E (itG E i)) n + (i + 1) ≤ n
        omega
      · exact absurd d c
theorem it_fix {n : Nat} {E : List Ge} (hi : InG n E) {P : Nat → Int} (hP : LeastG n E P) : roundG E (itG E n) = itG E n := by
  have h : offG P (itG E n) n = 0 := by
    rcases it_off hi hP n with c | c
    · omega
    · exact c
  exact round_still (sol_in hi hP.2.1 (off_zero h))
theorem least_uni {n : Nat} {E : List Ge} {P Q : Nat → Int} (hP : LeastG n E P) (hQ : LeastG n E Q) (v : Nat) (hv : v < n) : P v = Q v := by
  have a := hP.2.2 Q hQ.1 hQ.2.1 v hv
  have b := hQ.2.2 P hP.1 hP.2.1 v hv
  omega
def RGl (G : Nat → List Ge) (i d : Nat) : List Ge := (List.range' i d).flatMap G
theorem RG_succ (G : Nat → List Ge) (i d : Nat) : RGl G i (d + 1) = G i ++ RGl G (i + 1) d := by
  unfold RGl
  rw [List.range'_succ, List.flatMap_cons]
theorem round_app (E F : List Ge) (p : Nat → Int) : roundG (E ++ F) p = roundG F (roundG E p) := List.foldl_append
theorem gen_round {s0 : Sg} {n L : Nat} {step : Int32 × Int32 × Sg → Option ((Int32 × Int32 × Sg) ⊕ (Int32 × Sg))} {G : Nat → List Ge} {PR : (Nat → Int32) → (Nat → Int) → Int → Prop} (hm : ∀ f p M M', PR f p M → M ≤ M' → PR f p M') (hs : ∀ i mv f p M, i < L → PR f p M → 0 ≤ M → M ≤ 1900000 → ∃ f', (step (mv, nI i, pA s0 0 33 f) = some (.inl (mv, nI (i + 1), pA s0 0 33 f')) ∧ PR f' p (M + 60) ∧ roundG (G i) p = p) ∨ (step (mv, nI i, pA s0 0 33 f) = some (.inl (1, nI (i + 1), pA s0 0 33 f')) ∧ PR f' (roundG (G i) p) (M + 60) ∧ ∃ v, v < n ∧ p v < roundG (G i) p v)) (he : ∀ mv f, step (mv, nI L, pA s0 0 33 f) = some (.inr (mv, pA s0 0 33 f))) : ∀ (d i N : Nat) (mv : Int32) (f : Nat → Int32) (p : Nat → Int) (M : Int), i + d = L → d < N → PR f p M → 0 ≤ M → M + 60 * d ≤ 1900000 →
    ∃ mv' f', lp step N (mv, nI i, pA s0 0 33 f) = some (mv', pA s0 0 33 f') ∧ PR f' (roundG (RGl G i d) p) (M + 60 * d) ∧ ((mv' = mv ∧ roundG (RGl G i d) p = p) ∨ (mv' = 1 ∧ ∃ v, v < n ∧ p v < roundG (RGl G i d) p v)) := by
  intro d
  induction d with
  | zero =>
    intro i N mv f p M hi hN hp hM hM2
    obtain ⟨N, rfl⟩ : ∃ M, N = M + 1 := ⟨N - 1, by omega⟩
    have e : i = L := by omega
    subst e
    exact ⟨mv, f, lp_end (he mv f), hm _ _ _ _ hp (by omega), Or.inl ⟨rfl, rfl⟩⟩
  | succ d ih =>
    intro i N mv f p M hi hN hp hM hM2
    obtain ⟨N, rfl⟩ : ∃ M, N = M + 1 := ⟨N - 1, by omega⟩
    rw [RG_succ, round_app]
    obtain ⟨f1, k⟩ := hs i mv f p M (by omega) hp hM (by omega)
    rcases k with ⟨k1, k2, k3⟩ | ⟨k1, k2, v, hv, k3⟩
    · obtain ⟨mv', f', r1, r2, r3⟩ := ih (i + 1) N mv f1 p (M + 60) (by omega) (by omega) k2 (by omega) (by omega)
      rw [k3]
      exact ⟨mv', f', (lp_next k1).trans r1, hm _ _ _ _ r2 (by omega), r3⟩
    · obtain ⟨mv', f', r1, r2, r3⟩ := ih (i + 1) N 1 f1 _ (M + 60) (by omega) (by omega) k2 (by omega) (by omega)
      refine ⟨mv', f', (lp_next k1).trans r1, hm _ _ _ _ r2 (by omega), Or.inr ⟨?_, v, hv, ?_⟩⟩
      · rcases r3 with q | q
        · exact q.1
        · exact q.1
      · have := round_ge (RGl G (i + 1) d) (roundG (G i) p) v
        omega
-- division upward
def cdI (z b : Int) : Int := -((-z) / b)
theorem cd_le {z b k : Int} (hb : 0 < b) : cdI z b ≤ k ↔ z ≤ k * b := by
  unfold cdI
  have h1 : -k ≤ (-z) / b ↔ -k * b ≤ -z := Int.le_ediv_iff_mul_le hb
  rw [Int.neg_mul] at h1
  constructor
  · intro h
    have := h1.mp (by omega)
    omega
  · intro h
    have := h1.mpr (by omega)
    omega
theorem cd_mono {z z' b : Int} (hb : 0 < b) (h : z ≤ z') : cdI z b ≤ cdI z' b := (cd_le hb).mpr (Int.le_trans h ((cd_le hb).mp (Int.le_refl _)))
theorem cd_ge {z b k : Int} (hb : 0 < b) (h : (k - 1) * b < z) : k ≤ cdI z b := by
  refine Classical.byContradiction fun c => ?_
  have := (cd_le (z := z) (k := k - 1) hb).mp (by omega)
  omega
theorem cd_uni {z b k : Int} (hb : 0 < b) (h1 : z ≤ k * b) (h2 : (k - 1) * b < z) : cdI z b = k := by
  have a := (cd_le hb).mpr h1
  have c := cd_ge hb h2
  omega
theorem fl_cd {z b : Int} (hb : 0 < b) : (z + b - 1) / b = cdI z b := by
  have h1 : ((z + b - 1) / b) * b ≤ z + b - 1 := Int.ediv_mul_le _ (by omega)
  have h2 : z + b - 1 < ((z + b - 1) / b + 1) * b := Int.lt_ediv_add_one_mul_self _ hb
  refine (cd_uni hb ?_ ?_).symm
  · rw [Int.add_mul, Int.one_mul] at h2; omega
  · rw [Int.sub_mul, Int.one_mul]; omega
theorem fx_div {x y : Int32} (hx : 0 ≤ x.toInt) (hy : 0 < y.toInt) : (x / y).toInt = x.toInt / y.toInt := by
  have h2 : x.toInt / y.toInt ≤ x.toInt := Int.ediv_le_self _ hx
  have h3 : 0 ≤ x.toInt / y.toInt := Int.ediv_nonneg hx (by omega)
  have := fx_rng x
  rw [Int32.toInt_div, Int.tdiv_eq_ediv_of_nonneg hx, fx_bm (by omega) (by omega)]
theorem fx_divn {x y : Int32} (hx : x.toInt < 0) (hx2 : -2147483648 < x.toInt) (hy : 0 < y.toInt) : (x / y).toInt = -((-x.toInt) / y.toInt) := by
  have h2 : -x.toInt / y.toInt ≤ -x.toInt := Int.ediv_le_self _ (by omega)
  have h3 : 0 ≤ -x.toInt / y.toInt := Int.ediv_nonneg (by omega) (by omega)
  have e : x.toInt.tdiv y.toInt = -((-x.toInt) / y.toInt) := by
    rw [← Int.tdiv_eq_ediv_of_nonneg (show 0 ≤ -x.toInt by omega), Int.neg_tdiv, Int.neg_neg]
  rw [Int32.toInt_div, e, fx_bm (by omega) (by omega)]
theorem xor_sign {x y : Int32} (hy : 0 ≤ y.toInt) : (0 : Int32) ≤ (x ^^^ y) ↔ 0 ≤ x.toInt := by
  have hm : ∀ z : Int32, 0 ≤ z.toInt ↔ z.toBitVec.msb = false := fun z => by
    rw [BitVec.msb_eq_toInt]
    show 0 ≤ z.toBitVec.toInt ↔ _
    simp
  rw [fx_le, ti_0, hm, hm, Int32.toBitVec_xor, BitVec.msb_xor, (hm y).mp hy]
  simp
theorem floorDiv_eq {x y : Int32} {st : Sg} (hx : -1000000000 < x.toInt) (hy : 0 < y.toInt) (hy2 : y.toInt < 1000) : ∃ r, m_J9_floorDiv_7cf53 x y st = some (r, st) ∧ r.toInt = x.toInt / y.toInt := by
  have y0 : ¬ y = 0 := fun q => by rw [q, ti_0] at hy; omega
  by_cases c : 0 ≤ x.toInt
  · refine ⟨x / y, ?_, fx_div c hy⟩
    simp only [m_J9_floorDiv_7cf53, dvk, if_neg y0, nmk, if_pos ((xor_sign (x := x) (y := y) (by omega)).mpr c)]
  · have hd := fx_divn (x := x) (y := y) (by omega) (by omega) hy
    have h2 : -x.toInt / y.toInt ≤ -x.toInt := Int.ediv_le_self _ (by omega)
    have h3 : 0 ≤ -x.toInt / y.toInt := Int.ediv_nonneg (by omega) (by omega)
    have h4 : (-x.toInt / y.toInt) * y.toInt ≤ -x.toInt := Int.ediv_mul_le _ (by omega)
    have h5 : -x.toInt < (-x.toInt / y.toInt + 1) * y.toInt := Int.lt_ediv_add_one_mul_self _ hy
    have h6 : 0 ≤ (-x.toInt / y.toInt) * y.toInt := Int.mul_nonneg h3 (by omega)
    rw [Int.add_mul, Int.one_mul] at h5
    have hm : ((x / y) * y).toInt = -((-x.toInt / y.toInt) * y.toInt) := by
      rw [fx_mul (by rw [hd, Int.neg_mul]; omega) (by rw [hd, Int.neg_mul]; omega), hd, Int.neg_mul]
    have nx : ¬ (0 : Int32) ≤ (x ^^^ y) := fun q => c ((xor_sign (by omega)).mp q)
    have fl : ∀ k : Int, k * y.toInt ≤ x.toInt → x.toInt < k * y.toInt + y.toInt → x.toInt / y.toInt = k := fun k a b => by
      have e1 : k ≤ x.toInt / y.toInt := (Int.le_ediv_iff_mul_le hy).mpr a
      have e2 : x.toInt / y.toInt < k + 1 := Int.ediv_lt_of_lt_mul hy (by rw [Int.add_mul, Int.one_mul]; exact b)
      omega
    by_cases d : (x / y) * y = x
    · refine ⟨x / y, ?_, ?_⟩
      · simp only [m_J9_floorDiv_7cf53, dvk, if_neg y0, nmk, if_neg nx, if_pos d]
      · rw [hd]
        rw [fx_eq, hm] at d
        exact (fl _ (by rw [Int.neg_mul]; omega) (by rw [Int.neg_mul]; omega)).symm
    · refine ⟨x / y - 1, ?_, ?_⟩
      · simp only [m_J9_floorDiv_7cf53, dvk, if_neg y0, nmk, if_neg nx, if_neg d]
      · rw [fx_eq, hm] at d
        rw [fx_sub (by rw [hd, ti_1]; omega) (by rw [hd, ti_1]; omega), hd, ti_1]
        exact (fl _ (by rw [Int.sub_mul, Int.neg_mul, Int.one_mul]; omega) (by rw [Int.sub_mul, Int.neg_mul, Int.one_mul]; omega)).symm
/-- the reference's cut: the negative of the division upward -/
theorem cut_eq {v b : Int32} {st : Sg} (hv : -1000000 < v.toInt) (hv2 : v.toInt < 1000000) (hb : 0 < b.toInt) (hb2 : b.toInt < 1000) : ∃ r, m_X12_cut v b st = some (r, st) ∧ r.toInt = -cdI (-v.toInt) b.toInt := by
  have b0 : ¬ b = 0 := fun q => by rw [q, ti_0] at hb; omega
  by_cases c : v < 0
  · have c' := c
    rw [fx_lt, ti_0] at c'
    have e1 : (b - 1).toInt = b.toInt - 1 := by rw [fx_sub (by rw [ti_1]; omega) (by rw [ti_1]; omega), ti_1]
    have e2 : (b - 1 - v).toInt = b.toInt - 1 - v.toInt := by rw [fx_sub (by rw [e1]; omega) (by rw [e1]; omega), e1]
    have e3 : ((b - 1 - v) / b).toInt = (b.toInt - 1 - v.toInt) / b.toInt := by rw [fx_div (by rw [e2]; omega) hb, e2]
    have e4 : (b.toInt - 1 - v.toInt) / b.toInt = cdI (-v.toInt) b.toInt := by
      rw [← fl_cd hb]
      congr 1
      omega
    have e5 : (b.toInt - 1 - v.toInt) / b.toInt ≤ b.toInt - 1 - v.toInt := Int.ediv_le_self _ (by omega)
    have e6 : 0 ≤ (b.toInt - 1 - v.toInt) / b.toInt := Int.ediv_nonneg (by omega) (by omega)
    refine ⟨-((b - 1 - v) / b), ?_, ?_⟩
    · simp only [m_X12_cut, if_pos c, dvk, if_neg b0]
    · rw [fx_neg (by rw [e3]; omega), e3, e4]
  · have c' := c
    rw [fx_lt, ti_0] at c'
    refine ⟨v / b, ?_, ?_⟩
    · simp only [m_X12_cut, if_neg c, dvk, if_neg b0]
    · rw [fx_div (by omega) hb]
      unfold cdI
      rw [Int.neg_neg, Int.neg_neg]
