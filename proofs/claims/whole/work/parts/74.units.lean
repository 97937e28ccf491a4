-- 74.units: the beat by units, on both sides
def bcX (p0 : Int32) : Int32 :=
  let a1 := p0 - ((((p0 : Int32).toUInt32 >>> ((1 : Int32).toUInt32 &&& Int32.toUInt32 31)).toInt32) &&& 1431655765)
  let a2 := (a1 &&& 858993459) + ((((a1 : Int32).toUInt32 >>> ((2 : Int32).toUInt32 &&& Int32.toUInt32 31)).toInt32) &&& 858993459)
  let a3 := (a2 + (((a2 : Int32).toUInt32 >>> ((4 : Int32).toUInt32 &&& Int32.toUInt32 31)).toInt32)) &&& 252645135
  let a4 := a3 + (((a3 : Int32).toUInt32 >>> ((8 : Int32).toUInt32 &&& Int32.toUInt32 31)).toInt32)
  let a5 := a4 + (((a4 : Int32).toUInt32 >>> ((16 : Int32).toUInt32 &&& Int32.toUInt32 31)).toInt32)
  a5 &&& 63
def bcF (p : Int32) : Int32 := (List.range 8).foldl (fun w k => w + biF p (0 + k)) 0
theorem bitCount_eq (p : Int32) (st : Sg) : m_J6_bitCount_0f7a4 p st = some (bcX p, st) := rfl
theorem bits_eq (p : Int32) (st : Sg) : m_X12_bits p st = some (bcF p, st) := by
  have h := sum_go (step := fun s : (Int32 × Int32 × Sg) => m_X12_bits_L4 p s.1 s.2.1 s.2.2) (st := st) (e := 8) (f := biF p) (fun v => by
      simp only [m_X12_bits_L4, if_pos (show (8 : Int32) ≤ nI 8 by decide)]) (fun i v hi => by
      have hg : ¬ (8 : Int32) ≤ nI i := nI_ge (a := i) (b := 8) hi (by omega)
      simp only [m_X12_bits_L4, if_neg hg, nmk, nI_1, biF]) 8 0 FU 0 (by omega) (FU_lt (by omega))
  simp only [m_X12_bits, nmk, lpk]
  rw [show (((0 : Int32), (0 : Int32), st) : Int32 × Int32 × Sg) = (0, nI 0, st) from rfl, h]
  rfl
set_option maxRecDepth 100000 in
theorem bc_all : ∀ p : Fin 256, bcX (nI p.val) = bcF (nI p.val) ∧ 0 ≤ (bcF (nI p.val)).toInt ∧ (bcF (nI p.val)).toInt ≤ 8 := by decide
theorem bc_eq {p : Int32} (h : inR p 0 255) : bcX p = bcF p ∧ 0 ≤ (bcF p).toInt ∧ (bcF p).toInt ≤ 8 := by
  have e := fx_nI h.1
  have c := fx_cl h.1
  have d := h.2
  have := bc_all ⟨p.toNatClampNeg, by omega⟩
  dsimp only at this
  rw [← e] at this
  exact this
def bkF (kind pat : Nat → Int32) (k : Int32) (i : Nat) : Int32 := if kind i = k then bcF (pat i) else 0
def nbF (n : Nat) (kind pat : Nat → Int32) (k : Int32) : Int32 := (List.range n).foldl (fun w i => w + bkF kind pat k (0 + i)) 0
theorem nb_bd {n : Nat} {kind pat : Nat → Int32} (hn : n ≤ 16) (hp : ∀ i, i < n → inR (pat i) 1 255) (k : Int32) : 0 ≤ (nbF n kind pat k).toInt ∧ (nbF n kind pat k).toInt ≤ 8 * (n : Int) := by
  unfold nbF
  induction n with
  | zero => exact ⟨Int.le_refl _, Int.le_refl _⟩
  | succ n ih =>
    obtain ⟨i1, i2⟩ := ih (by omega) (fun i hi => hp i (by omega))
    rw [List.range_succ, List.foldl_append]
    show 0 ≤ ((List.range n).foldl (fun w i => w + bkF kind pat k (0 + i)) 0 + bkF kind pat k (0 + n)).toInt ∧ ((List.range n).foldl (fun w i => w + bkF kind pat k (0 + i)) 0 + bkF kind pat k (0 + n)).toInt ≤ _
    have hb : 0 ≤ (bkF kind pat k (0 + n)).toInt ∧ (bkF kind pat k (0 + n)).toInt ≤ 8 := by
      unfold bkF
      rw [Nat.zero_add]
      split
      · have a := hp n (by omega)
        exact (bc_eq ⟨by have := a.1; omega, a.2⟩).2
      · exact ⟨by decide, by decide⟩
    rw [fx_add (by omega) (by omega)]
    omega
theorem bitsOf_eq {sx : Sg} {n : Nat} (hb : gI sx 1 0 = nI n) (hn : n ≤ 16) (hp : ∀ i, i < n → inR (gA sx 1 4 i) 1 255) (k : Int32) : m_X0_bitsOf k sx = some (nbF n (gA sx 1 3) (gA sx 1 4) k, sx) := by
  have h := sum_go (step := fun s : (Int32 × Int32 × Sg) => m_X0_bitsOf_L4 k s.1 s.2.1 s.2.2) (st := sx) (e := n) (f := bkF (gA sx 1 3) (gA sx 1 4) k) (fun v => by
      simp only [m_X0_bitsOf_L4, gIk, hb, if_pos (Int32.le_refl _)]) (fun i v hi => by
      have hg : ¬ nI n ≤ nI i := nI_ge hi (by omega)
      have a := hp i hi
      have e := (bc_eq (p := gA sx 1 4 i) ⟨by have := a.1; omega, a.2⟩).1
      simp only [m_X0_bitsOf_L4, gIk, hb, if_neg hg, lAk, if_pos (vpb_nI (show i < 16 by omega) (by omega)), nI_clamp (show i < 2 ^ 31 by omega), nmk, nI_1, bkF, bitCount_eq, clk_some, e]
      by_cases c : gA sx 1 3 i = k
      · rw [if_pos c, if_pos c]
      · rw [if_neg c, if_neg c, Int32.add_zero]) n 0 FU 0 (by omega) (FU_lt (by omega))
  simp only [m_X0_bitsOf, nmk, lpk]
  rw [show (((0 : Int32), (0 : Int32), sx) : Int32 × Int32 × Sg) = (0, nI 0, sx) from rfl, h]
  rfl
theorem bitsM_eq {sm : Sg} {n : Nat} (hb : gI sm 0 9 = nI n) (hn : n ≤ 16) (x1 k : Int32) : lp (fun s : (Int32 × Int32 × Sg) => m_X12_byUnits_L15 x1 k s.1 s.2.1 s.2.2) FU (0, 0, sm) = some (nbF n (gA sm 0 2) (gA sm 0 3) k, sm) := by
  have h := sum_go (step := fun s : (Int32 × Int32 × Sg) => m_X12_byUnits_L15 x1 k s.1 s.2.1 s.2.2) (st := sm) (e := n) (f := bkF (gA sm 0 2) (gA sm 0 3) k) (fun v => by
      simp only [m_X12_byUnits_L15, gIk, hb, if_pos (Int32.le_refl _)]) (fun i v hi => by
      have hg : ¬ nI n ≤ nI i := nI_ge hi (by omega)
      simp only [m_X12_byUnits_L15, gIk, hb, if_neg hg, lAk, if_pos (vpb_nI (show i < 16 by omega) (by omega)), nI_clamp (show i < 2 ^ 31 by omega), nmk, nI_1, bkF, bits_eq, clk_some]
      by_cases c : gA sm 0 2 i = k
      · rw [if_pos c, if_pos c]
      · rw [if_neg c, if_neg c]) n 0 FU 0 (by omega) (FU_lt (by omega))
  rw [show (((0 : Int32), (0 : Int32), sm) : Int32 × Int32 × Sg) = (0, nI 0, sm) from rfl]
  exact h
def foN (g : Nat → Int32 → Int32) : Nat → Int32 → Int32
  | 0, v => v
  | k + 1, v => g k (foN g k v)
theorem fo_go {step : Int32 × Int32 × Sg → Option ((Int32 × Int32 × Sg) ⊕ (Int32 × Sg))} {st : Sg} {e : Nat} {g : Nat → Int32 → Int32} (v0 : Int32) (he : e < 90000) (hx : ∀ v, step (v, nI e, st) = some (.inr (v, st))) (hs : ∀ i v, i < e → step (v, nI i, st) = some (.inl (g i v, nI (i + 1), st))) : lp step FU (v0, nI 0, st) = some (foN g e v0, st) := by
  have hI := ok_for (step := step) (Q := fun r => r = (foN g e v0, st)) e (fun i s => s = (foN g i v0, nI i, st)) (by
      rintro i s hi rfl
      exact ⟨_, hs i _ hi, rfl⟩) (by
      rintro s rfl
      exact ⟨_, hx _, rfl⟩) FU 0 (v0, nI 0, st) (by omega) (FU_lt (by omega)) rfl
  obtain ⟨r, hr, rfl⟩ := hI
  exact hr
def uX (u nb least : Int32) : Int32 := if nb ≤ 0 then least else if 1 ≤ u then mx least ((nb + u - 1) / u) else mx least 61
def uM (u nb least : Int32) : Int32 := if nb = 0 then (if (1 : Int32) ≤ least then least else 1) else if u = 0 then (if (100000 : Int32) ≤ least then least else 100000) else (if (nb + u - 1) / u ≤ least then least else (nb + u - 1) / u)
def RU (x m : Int32) : Prop := 1 ≤ x.toInt ∧ (x = m ∨ (60 < x.toInt ∧ 60 < m.toInt))
theorem ru_step {x m u nb : Int32} (h : RU x m) (hu : inR u 0 4) (hb : 0 ≤ nb.toInt) : RU (uX u nb x) (uM u nb m) := by
  obtain ⟨h1, h2⟩ := h
  have t1 : (100000 : Int32).toInt = 100000 := rfl
  have t2 : (61 : Int32).toInt = 61 := rfl
  unfold uX uM
  by_cases c : nb = 0
  · have c' : nb ≤ 0 := by rw [c]; decide
    rw [if_pos c, if_pos c']
    have d : (1 : Int32) ≤ m := by
      rw [fx_le, ti_1]
      rcases h2 with q | q
      · rw [← q]; exact h1
      · omega
    rw [if_pos d]
    exact ⟨h1, h2⟩
  · have c' : ¬ nb ≤ 0 := by
      rw [fx_le, ti_0]
      intro q
      exact c (by rw [fx_eq, ti_0]; omega)
    rw [if_neg c, if_neg c']
    by_cases d : u = 0
    · have d' : ¬ (1 : Int32) ≤ u := by rw [d]; decide
      rw [if_pos d, if_neg d']
      have e1 : 60 < (mx x 61).toInt := by rw [mx_toInt, t2]; split <;> omega
      have e2 : 60 < (if (100000 : Int32) ≤ m then m else 100000).toInt := by
        by_cases g : (100000 : Int32) ≤ m
        · rw [if_pos g]; rw [fx_le, t1] at g; omega
        · rw [if_neg g, t1]; omega
      exact ⟨by omega, Or.inr ⟨e1, e2⟩⟩
    · have d' : (1 : Int32) ≤ u := by
        rw [fx_le, ti_1]
        have := hu.1
        refine Classical.byContradiction fun g => d ?_
        rw [fx_eq, ti_0]
        omega
      rw [if_neg d, if_pos d']
      obtain ⟨q, hq⟩ : ∃ q, q = (nb + u - 1) / u := ⟨_, rfl⟩
      rw [← hq]
      rcases h2 with g | g
      · subst g
        refine ⟨by rw [mx_toInt]; split <;> omega, Or.inl ?_⟩
        by_cases k : q ≤ x
        · rw [if_pos k]
          exact if_neg (by rw [fx_lt]; rw [fx_le] at k; omega)
        · rw [if_neg k]
          exact if_pos (by rw [fx_lt]; rw [fx_le] at k; omega)
      · refine ⟨by rw [mx_toInt]; split <;> omega, Or.inr ⟨by rw [mx_toInt]; split <;> omega, ?_⟩⟩
        by_cases k : q ≤ m
        · rw [if_pos k]; exact g.2
        · rw [if_neg k]; rw [fx_le] at k; omega
theorem byUnitsM_eq {sm : Sg} {n : Nat} (w0 : gI sm 0 9 = nI n) (hn : n ≤ 16) : m_X12_byUnits sm = some (foN (fun i v => uM (gA sm 0 10 i) (nbF n (gA sm 0 2) (gA sm 0 3) (nI i)) v) 6 1, sm) := by
  have hM := fo_go (step := fun s : (Int32 × Int32 × Sg) => m_X12_byUnits_L4 s.1 s.2.1 s.2.2) (st := sm) (e := 6) (g := fun i v => uM (gA sm 0 10 i) (nbF n (gA sm 0 2) (gA sm 0 3) (nI i)) v) 1 (by omega) (fun v => by
      simp only [m_X12_byUnits_L4, if_pos (show (6 : Int32) ≤ nI 6 by decide)]) (fun i v hi => by
      have hg : ¬ (6 : Int32) ≤ nI i := nI_ge (a := i) (b := 6) hi (by omega)
      simp only [m_X12_byUnits_L4, if_neg hg, nmk, lpk, bitsM_eq w0 hn, lAk, if_pos (vpb_nI hi (by omega)), nI_clamp (show i < 2 ^ 31 by omega), nI_1, uM, m_X12_byUnits_97]
      by_cases c : nbF n (gA sm 0 2) (gA sm 0 3) (nI i) = 0
      · rw [if_pos c, if_pos c]
        by_cases d : (1 : Int32) ≤ v
        · rw [if_pos d, if_pos d]
        · rw [if_neg d, if_neg d]
      · rw [if_neg c, if_neg c]
        by_cases d : gA sm 0 10 i = 0
        · rw [if_pos d, if_pos d]
          by_cases e : (100000 : Int32) ≤ v
          · rw [if_pos e, if_pos e]
          · rw [if_neg e, if_neg e]
        · rw [if_neg d, if_neg d]
          unfold dvk
          rw [if_neg d]
          by_cases e : (nbF n (gA sm 0 2) (gA sm 0 3) (nI i) + gA sm 0 10 i - 1) / gA sm 0 10 i ≤ v
          · rw [if_pos e, if_pos e]
          · rw [if_neg e, if_neg e])
  simp only [m_X12_byUnits, nmk, lpk]
  rw [show (((1 : Int32), (0 : Int32), sm) : Int32 × Int32 × Sg) = (1, nI 0, sm) from rfl, hM]
theorem byUnits_eq {sx sm : Sg} {n : Nat} (h1 : WBo (gI sm 0 9) (gA sm 0 0) (gA sm 0 1) (gA sm 0 2) (gA sm 0 3) (gA sm 0 4) (gA sm 0 5) (gA sm 0 6) (gA sm 0 10) n) (h3 : RBo sx sm) : ∃ u v, m_X0_beatByUnits sx = some (u, sx) ∧ m_X12_byUnits sm = some (v, sm) ∧ RU u v := by
  obtain ⟨b0, b1, b2, b3, b4, b5, b6, b7, b8, b9, b10⟩ := h3
  obtain ⟨w0, hn, w2, w3, w4, w5⟩ := h1
  have hp : ∀ i, i < n → inR (gA sx 1 4 i) 1 255 := fun i hi => by rw [b4]; exact (w2 i hi).2.2.2.1
  have ex := b0.trans w0
  have hX := fo_go (step := fun s : (Int32 × Int32 × Sg) => m_X0_beatByUnits_L4 s.1 s.2.1 s.2.2) (st := sx) (e := 6) (g := fun i v => uX (gA sx 1 10 i) (nbF n (gA sx 1 3) (gA sx 1 4) (nI i)) v) 1 (by omega) (fun v => by
      simp only [m_X0_beatByUnits_L4, if_pos (show (6 : Int32) ≤ nI 6 by decide)]) (fun i v hi => by
      have hg : ¬ (6 : Int32) ≤ nI i := nI_ge (a := i) (b := 6) hi (by omega)
      simp only [m_X0_beatByUnits_L4, if_neg hg, bitsOf_eq ex hn hp, clk_some, nmk, lAk, if_pos (vpb_nI hi (by omega)), nI_clamp (show i < 2 ^ 31 by omega), nI_1, uX]
      by_cases c : nbF n (gA sx 1 3) (gA sx 1 4) (nI i) ≤ 0
      · rw [if_pos c, if_pos c]
      · rw [if_neg c, if_neg c]
        by_cases d : (1 : Int32) ≤ gA sx 1 10 i
        · rw [if_pos d, if_pos d]
          unfold dvk
          rw [if_neg (fun q => by rw [q] at d; exact absurd d (by decide))]
        · rw [if_neg d, if_neg d])
  refine ⟨foN (fun i v => uX (gA sx 1 10 i) (nbF n (gA sx 1 3) (gA sx 1 4) (nI i)) v) 6 1, foN (fun i v => uM (gA sm 0 10 i) (nbF n (gA sm 0 2) (gA sm 0 3) (nI i)) v) 6 1, ?_, ?_, ?_⟩
  · simp only [m_X0_beatByUnits, nmk, lpk]
    rw [show (((1 : Int32), (0 : Int32), sx) : Int32 × Int32 × Sg) = (1, nI 0, sx) from rfl, hX]
  · exact byUnitsM_eq w0 hn
  · rw [b3, b4, b10]
    have : ∀ k, k ≤ 6 → RU (foN (fun i v => uX (gA sm 0 10 i) (nbF n (gA sm 0 2) (gA sm 0 3) (nI i)) v) k 1) (foN (fun i v => uM (gA sm 0 10 i) (nbF n (gA sm 0 2) (gA sm 0 3) (nI i)) v) k 1) := by
      intro k
      induction k with
      | zero => exact fun _ => ⟨(show (1 : Int) ≤ (1 : Int32).toInt by decide), Or.inl rfl⟩
      | succ k ih => exact fun hk => ru_step (ih (by omega)) (w5 k (by omega)) (nb_bd hn (fun i hi => (w2 i hi).2.2.2.1) _).1
    exact this 6 (by omega)
