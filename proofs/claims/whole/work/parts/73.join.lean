-- 73.join: the class's chains of waits (joinBy, join)
def bdO (n : Nat) (D : Nat → Nat → Option Int) : Prop := ∀ a b, a < n → b < n → ∀ z, D a b = some z → -10000 ≤ z ∧ z ≤ 4000000
theorem row_ma {n a k : Nat} {f : Nat → Int32} (hn : n ≤ 16) (ha : a < n) (hk : k < n) (hb : bdO n (maN n f)) (h : ¬ f (16 * a + k) = -1000000) (x y : Nat) : maN n (rowF a k n (f (16 * a + k)) f) x y = if x = a then fwO k (maN n f) a y else maN n f x y := by
  by_cases hx : x < n
  case neg =>
    have e : ∀ g, maN n g x y = none := fun g => if_neg (by omega)
    rw [e, e, if_neg (by omega)]
  by_cases hy : y < n
  case neg =>
    have e : ∀ g z, maN n g z y = none := fun g z => if_neg (by omega)
    rw [e, e]
    by_cases c : x = a
    · rw [if_pos c]
      unfold fwO
      rw [e, e]
      cases maN n f a k <;> rfl
    · rw [if_neg c]
  rw [maN_in hx hy]
  by_cases c : x = a
  · subst c
    rw [if_pos rfl]
    have e1 : rowF x k n (f (16 * x + k)) f (16 * x + y) = if f (16 * k + y) = -1000000 then f (16 * x + y) else mx (f (16 * x + y)) (f (16 * x + k) + f (16 * k + y)) := by
      unfold rowF
      have hc : 16 * x ≤ 16 * x + y ∧ 16 * x + y < 16 * x + n := by omega
      rw [if_pos hc, show 16 * x + y - 16 * x = y by omega]
    have h1 : maN n f x k = some (f (16 * x + k)).toInt := by rw [maN_in hx hk, oD_yes h]
    rw [e1]
    by_cases d : f (16 * k + y) = -1000000
    · have h2 : maN n f k y = none := by rw [maN_in hk hy, oD_no d]
      rw [if_pos d]
      unfold fwO
      rw [h1, h2, maN_in hx hy]
    · have h2 : maN n f k y = some (f (16 * k + y)).toInt := by rw [maN_in hk hy, oD_yes d]
      obtain ⟨b1, b2⟩ := hb x k hx hk _ h1
      obtain ⟨b3, b4⟩ := hb k y hk hy _ h2
      have s : (f (16 * x + k) + f (16 * k + y)).toInt = (f (16 * x + k)).toInt + (f (16 * k + y)).toInt := fx_add (by omega) (by omega)
      have lo : -1000000 ≤ (f (16 * x + y)).toInt := by
        by_cases g : f (16 * x + y) = -1000000
        · rw [g, tA]; omega
        · have h3 : maN n f x y = some (f (16 * x + y)).toInt := by rw [maN_in hx hy, oD_yes g]
          have := hb x y hx hy _ h3
          omega
      rw [if_neg d, oD_mx lo (by rw [s]; omega), s]
      unfold fwO
      rw [h1, h2, maN_in hx hy]
  · rw [if_neg c, maN_in hx hy]
    have e1 : rowF a k n (f (16 * a + k)) f (16 * x + y) = f (16 * x + y) := by
      unfold rowF
      rw [if_neg (by omega)]
    rw [e1]
theorem joinBy_eq {sx : Sg} {n k : Nat} {f0 : Nat → Int32} (hn : n ≤ 16) (hk : k < n) (hb1 : bdO n (maN n f0)) (hb2 : bdO n (fwO k (maN n f0))) (hd : ∀ z, maN n f0 k k = some z → z ≤ 0) : ∃ f, (m_X9_joinBy (nI k) (nI n) (pA sx 6 1 f0) = some (1, pA sx 6 1 f) ∧ maN n f = fwO k (maN n f0) ∧ diO n (fwO k (maN n f0))) ∨ (m_X9_joinBy (nI k) (nI n) (pA sx 6 1 f0) = some (0, pA sx 6 1 f) ∧ ∃ x z, x < n ∧ fwO k (maN n f0) x x = some z ∧ 0 < z) := by
  obtain ⟨D, hD⟩ : ∃ D, D = maN n f0 := ⟨_, rfl⟩
  rw [← hD] at hb1 hb2 hd ⊢
  have hnone : ∀ x y, D x k = none → fwO k D x y = D x y := fun x y h => by unfold fwO; rw [h]
  have hI := ok_for (step := fun s : (Int32 × Sg) => m_X9_joinBy_L2 (nI k) (nI n) s.1 s.2) (Q := fun r => Sum.elim (fun s => ∃ f, s = pA sx 6 1 f ∧ maN n f = fwO k D ∧ diO n (fwO k D)) (fun s => ∃ f, s = pA sx 6 1 f ∧ ∃ x z, x < n ∧ fwO k D x x = some z ∧ 0 < z) r) n (fun i s => ∃ f, s = (nI i, pA sx 6 1 f) ∧ (∀ x y, maN n f x y = if x < i then fwO k D x y else D x y) ∧ ∀ x, x < i → ∀ z, fwO k D x x = some z → z ≤ 0) (by
      rintro i s hi ⟨f, rfl, hM, hz⟩
      have hg : ¬ nI n ≤ nI i := nI_ge hi (by omega)
      have a6 : ∀ g, gA (pA sx 6 1 g) 6 1 = g := fun g => rfl
      have v1 : vpb (nI (16 * i + k)) 256 = true := vpb_nI (by omega) (by omega)
      have v2 : vpb (nI (16 * i + i)) 256 = true := vpb_nI (by omega) (by omega)
      have c1 := nI_clamp (show 16 * i + k < 2 ^ 31 by omega)
      have c2 := nI_clamp (show 16 * i + i < 2 ^ 31 by omega)
      have hbf : bdO n (maN n f) := by
        intro x y hx hy z h
        rw [hM] at h
        by_cases c : x < i
        · rw [if_pos c] at h; exact hb2 x y hx hy z h
        · rw [if_neg c] at h; exact hb1 x y hx hy z h
      have key : ∃ f', m_X9_joinBy_L2 (nI k) (nI n) (nI i) (pA sx 6 1 f) = m_X9_joinBy_36 (nI k) (nI n) (nI i) (pA sx 6 1 f') ∧ ∀ x y, maN n f' x y = if x < i + 1 then fwO k D x y else D x y := by
        have hik : maN n f i k = D i k := by rw [hM, if_neg (Nat.lt_irrefl i)]
        by_cases c : f (16 * i + k) = -1000000
        · refine ⟨f, ?_, fun x y => ?_⟩
          · simp only [m_X9_joinBy_L2, if_neg hg, lAk, nI_16, if_pos v1, c1, a6, nmk, if_pos c]
          · have h0 : D i k = none := by rw [← hik, maN_in hi hk, oD_no c]
            rw [hM]
            by_cases d : x = i
            · subst d
              rw [if_neg (Nat.lt_irrefl x), if_pos (by omega), hnone _ _ h0]
            · by_cases e : x < i
              · rw [if_pos e, if_pos (by omega)]
              · rw [if_neg e, if_neg (by omega)]
        · refine ⟨rowF i k n (f (16 * i + k)) f, ?_, fun x y => ?_⟩
          · simp only [m_X9_joinBy_L2, if_neg hg, lAk, nI_16, if_pos v1, c1, a6, nmk, if_neg c, joinRow_eq hn (show i < 16 by omega) (show k < 16 by omega), clk_some]
          · rw [row_ma hn hi hk hbf c]
            by_cases d : x = i
            · subst d
              rw [if_pos rfl, if_pos (by omega)]
              have e1 : maN n f x y = D x y := by rw [hM, if_neg (Nat.lt_irrefl x)]
              have e2 : maN n f k y = D k y := by
                rw [hM]
                by_cases g : k < x
                · rw [if_pos g, fw_row hd]
                · rw [if_neg g]
              unfold fwO
              rw [e1, e2, hik]
            · rw [if_neg d, hM]
              by_cases e : x < i
              · rw [if_pos e, if_pos (by omega)]
              · rw [if_neg e, if_neg (by omega)]
      obtain ⟨f', k1, k2⟩ := key
      have hii : maN n f' i i = fwO k D i i := by rw [k2, if_pos (by omega)]
      rw [maN_in hi hi] at hii
      show Ok (m_X9_joinBy_L2 (nI k) (nI n) (nI i) (pA sx 6 1 f)) _
      rw [k1]
      by_cases c : f' (16 * i + i) ≤ 0
      · refine ⟨.inl (nI (i + 1), pA sx 6 1 f'), ?_, f', rfl, k2, fun x hx z h => ?_⟩
        · simp only [m_X9_joinBy_36, lAk, nI_16, if_pos v2, c2, a6, if_pos c, nmk, nI_1]
        · by_cases d : x = i
          · subst d
            rw [← hii] at h
            obtain ⟨-, h2⟩ := oD_some h
            rw [fx_le, ti_0] at c
            omega
          · exact hz x (by omega) z h
      · refine ⟨.inr (.inr (pA sx 6 1 f')), ?_, f', rfl, i, (f' (16 * i + i)).toInt, hi, ?_, ?_⟩
        · simp only [m_X9_joinBy_36, lAk, nI_16, if_pos v2, c2, a6, if_neg c]
        · rw [← hii, oD_yes]
          intro q
          rw [q] at c
          exact c (by decide)
        · rw [fx_le, ti_0] at c
          omega) (by
      rintro s ⟨f, rfl, hM, hz⟩
      refine ⟨.inr (.inl (pA sx 6 1 f)), by simp only [m_X9_joinBy_L2, if_pos (Int32.le_refl _)], f, rfl, ?_, fun x hx z h => hz x hx z h⟩
      funext x y
      rw [hM]
      by_cases c : x < n
      · rw [if_pos c]
      · rw [if_neg c, hnone]
        rw [hD]
        exact if_neg (by omega)) FU 0 (nI 0, pA sx 6 1 f0) (by omega) (FU_lt (by omega)) ⟨f0, rfl, fun x y => by rw [if_neg (Nat.not_lt_zero x), hD], fun x hx => absurd hx (Nat.not_lt_zero x)⟩
  obtain ⟨r, hr, hQ⟩ := hI
  cases r with
  | inl s =>
    obtain ⟨f, rfl, q1, q2⟩ := hQ
    exact ⟨f, Or.inl ⟨by simp only [m_X9_joinBy, nmk, lpk, show (0 : Int32) = nI 0 from rfl, hr, Sum.elim], q1, q2⟩⟩
  | inr s =>
    obtain ⟨f, rfl, q1⟩ := hQ
    exact ⟨f, Or.inr ⟨by simp only [m_X9_joinBy, nmk, lpk, show (0 : Int32) = nI 0 from rfl, hr, Sum.elim], q1⟩⟩
theorem joinBy_bad {sx : Sg} {n : Nat} {f0 : Nat → Int32} (hn : n ≤ 16) (h0 : 0 < n) (hp : 0 < (f0 0).toInt) (hp2 : (f0 0).toInt ≤ 50) : ∃ f, m_X9_joinBy (nI 0) (nI n) (pA sx 6 1 f0) = some (0, pA sx 6 1 f) := by
  have hg : ¬ nI n ≤ nI 0 := nI_ge h0 (by omega)
  have a6 : ∀ g, gA (pA sx 6 1 g) 6 1 = g := fun g => rfl
  have v1 : vpb (nI (16 * 0 + 0)) 256 = true := by decide
  have c1 : (nI (16 * 0 + 0)).toNatClampNeg = 0 := by decide
  have hne : ¬ f0 0 = -1000000 := fun q => by rw [q, tA] at hp; omega
  have hr : rowF 0 0 n (f0 0) f0 0 = mx (f0 0) (f0 0 + f0 0) := by
    unfold rowF
    have hc : 16 * 0 ≤ 0 ∧ 0 < 16 * 0 + n := by omega
    rw [if_pos hc, if_neg hne]
  have hs : (f0 0 + f0 0).toInt = (f0 0).toInt + (f0 0).toInt := fx_add (by omega) (by omega)
  have hc : ¬ rowF 0 0 n (f0 0) f0 0 ≤ 0 := by
    rw [fx_le, hr, mx_toInt, hs, ti_0]
    split <;> omega
  refine ⟨rowF 0 0 n (f0 0) f0, ?_⟩
  have st : m_X9_joinBy_L2 (nI 0) (nI n) (nI 0) (pA sx 6 1 f0) = some (.inr (.inr (pA sx 6 1 (rowF 0 0 n (f0 0) f0)))) := by
    simp only [m_X9_joinBy_L2, if_neg hg, lAk, nI_16, if_pos v1, c1, a6, nmk, if_neg hne, joinRow_eq hn (show 0 < 16 by omega) (show 0 < 16 by omega), clk_some, m_X9_joinBy_36, if_neg hc]
  have hl : lp (fun s : (Int32 × Sg) => m_X9_joinBy_L2 (nI 0) (nI n) s.1 s.2) FU (nI 0, pA sx 6 1 f0) = some (.inr (pA sx 6 1 (rowF 0 0 n (f0 0) f0))) := lp_end st
  simp only [m_X9_joinBy, nmk, lpk, show (0 : Int32) = nI 0 from rfl, hl, Sum.elim]
/-- the chains of E are done -/
def ChO (n : Nat) (E : List Ge) (D : Nat → Nat → Option Int) : Prop := ClO n n D ∧ (∀ e ∈ E, ∃ z, D e.1 e.2.1 = some z ∧ e.2.2 ≤ z) ∧ (∀ q, SolG E q → snO n q D) ∧ bdO n D
theorem lb_bd {n k : Nat} {D : Nat → Nat → Option Int} (hk : k ≤ 16) (h1 : lbO n k D) (h2 : ubO n ((50 * 2 ^ k : Nat) : Int) D) : bdO n D := by
  intro a b ha hb z h
  have e1 := h1 a b ha hb z h
  have e2 := h2 a b ha hb z h
  have e3 := cn_le (pvO D a b) k
  have e4 : 2 ^ k ≤ 2 ^ 16 := Nat.pow_le_pow_right (by omega) hk
  omega
theorem pA_pA6 (s : Sg) (f g : Nat → Int32) : pA (pA s 6 1 f) 6 1 g = pA s 6 1 g := pA_pA s 6 1 f g
theorem wjoin_eq {sx : Sg} {n : Nat} {E : List Ge} (hn : n ≤ 16) (hW : WO E (maN n (gA sx 6 0))) (hE : ∀ e ∈ E, -290 ≤ e.2.2 ∧ e.2.2 ≤ 50) : ∃ f, (m_X9_join (nI n) sx = some (1, pA sx 6 1 f) ∧ ChO n E (maN n f)) ∨ (m_X9_join (nI n) sx = some (0, pA sx 6 1 f) ∧ ∀ q, ¬ SolG E q) := by
  obtain ⟨f0, hf0⟩ : ∃ f, f = va_cpy (gA sx 6 0) (gA sx 6 1) 0 0 256 := ⟨_, rfl⟩
  have ef : ∀ q, q < 256 → f0 q = gA sx 6 0 q := fun q hq => by
    rw [hf0, pk_cpy_in (by omega) (by omega)]
    congr 1
    omega
  have eD : maN n f0 = maN n (gA sx 6 0) := by
    funext a b
    unfold maN
    by_cases c : a < n ∧ b < n
    · rw [if_pos c, if_pos c, ef _ (by omega)]
    · rw [if_neg c, if_neg c]
  rw [← eD] at hW
  obtain ⟨W, hWe⟩ : ∃ W, W = maN n f0 := ⟨_, rfl⟩
  rw [← hWe] at hW
  have hsn : ∀ q, SolG E q → snO n q W := fun q h a b _ _ x hx => by
    have h2 : q a + x ≤ q b := h (a, b, x) (hW.2 a b x hx)
    omega
  have hI := ok_for (step := fun s : (Int32 × Sg) => m_X9_join_L20 (nI n) s.1 s.2) (Q := fun r => Sum.elim (fun s => ∃ f, s = pA sx 6 1 f ∧ ChO n E (maN n f)) (fun s => ∃ f, s = pA sx 6 1 f ∧ ∀ q, ¬ SolG E q) r) n (fun i s => ∃ f, s = (nI i, pA sx 6 1 f) ∧ ClO n i (maN n f) ∧ lbO n i (maN n f) ∧ ubO n ((50 * 2 ^ i : Nat) : Int) (maN n f) ∧ baO n W (maN n f) ∧ (∀ q, SolG E q → snO n q (maN n f)) ∧ (0 < i → diO n (maN n f)) ∧ (i = 0 → f = f0)) (by
      rintro i s hi ⟨f, rfl, h1, h2, h3, h4, h5, h6, h7⟩
      have hg : ¬ nI n ≤ nI i := nI_ge hi (by omega)
      have b1 := lb_bd (by omega) h2 h3
      have g2 := fw_lb hi h1 h2
      have g3 : ubO n ((50 * 2 ^ (i + 1) : Nat) : Int) (fwO i (maN n f)) := by
        have := fw_ub hi (Int.natCast_nonneg _) h3
        rw [show ((50 * 2 ^ (i + 1) : Nat) : Int) = 2 * ((50 * 2 ^ i : Nat) : Int) by rw [Nat.pow_succ]; omega]
        exact this
      have b2 := lb_bd (by omega) g2 g3
      by_cases hz : ∀ z, maN n f i i = some z → z ≤ 0
      · obtain ⟨f', q⟩ := joinBy_eq (sx := sx) hn hi b1 b2 hz
        rcases q with ⟨q1, q2, q3⟩ | ⟨q1, x, z, hx, q2, q3⟩
        · refine ⟨.inl (nI (i + 1), pA sx 6 1 f'), ?_, f', rfl, ?_, ?_, ?_, ?_, ?_, ?_, ?_⟩
          · simp only [m_X9_join_L20, if_neg hg, q1, clk_some, if_neg (show ¬ (1 : Int32) = 0 by decide), nmk, nI_1]
          · rw [q2]; exact fw_cl hi h1 hz
          · rw [q2]; exact g2
          · rw [q2]; exact g3
          · rw [q2]; exact fw_ba h4
          · rw [q2]; exact fun q h => fw_sn hi (h5 q h)
          · rw [q2]; exact fun _ => q3
          · intro h; omega
        · refine ⟨.inr (.inr (pA sx 6 1 f')), ?_, f', rfl, fun q h => ?_⟩
          · simp only [m_X9_join_L20, if_neg hg, q1, clk_some, if_true]
          · have := fw_sn hi (h5 q h) x x hx hx z q2
            omega
      · have i0 : i = 0 := Classical.byContradiction fun c => hz (fun z h => h6 (by omega) i hi z h)
        subst i0
        have e7 := h7 rfl
        subst e7
        have hp : 0 < (f 0).toInt ∧ (f 0).toInt ≤ 50 ∧ maN n f 0 0 = some (f 0).toInt := by
          rw [maN_in hi hi] at hz ⊢
          by_cases c : f (16 * 0 + 0) = -1000000
          · exact absurd (fun z h => by rw [oD_no c] at h; cases h) hz
          · have e1 := oD_yes c
            have e2 : 0 < (f 0).toInt := Classical.byContradiction fun d => hz (fun z h => by
              have := (oD_some h).2
              have e3 : (f (16 * 0 + 0)).toInt = (f 0).toInt := rfl
              omega)
            have e3 : maN n f 0 0 = some (f 0).toInt := by rw [maN_in hi hi]; exact e1
            rw [← hWe] at e3
            exact ⟨e2, (hE _ (hW.2 0 0 _ e3)).2, e1⟩
        obtain ⟨f', q1⟩ := joinBy_bad (sx := sx) hn hi hp.1 hp.2.1
        refine ⟨.inr (.inr (pA sx 6 1 f')), ?_, f', rfl, fun q h => ?_⟩
        · simp only [m_X9_join_L20, if_neg hg, q1, clk_some, if_true]
        · have := h5 q h 0 0 hi hi _ hp.2.2
          omega) (by
      rintro s ⟨f, rfl, h1, h2, h3, h4, h5, h6, h7⟩
      refine ⟨.inr (.inl (pA sx 6 1 f)), by simp only [m_X9_join_L20, if_pos (Int32.le_refl _)], f, rfl, h1, fun e he => ?_, h5, lb_bd hn h2 h3⟩
      obtain ⟨z, z1, z2⟩ := hW.1 e he
      rw [hWe] at z1
      obtain ⟨i1, i2, -, -⟩ := maN_some z1
      rw [← hWe] at z1
      obtain ⟨w, w1, w2⟩ := h4 e.1 e.2.1 i1 i2 z z1
      exact ⟨w, w1, by omega⟩) FU 0 (nI 0, pA sx 6 1 f0) (by omega) (FU_lt (by omega)) ⟨f0, rfl, fun v hv => absurd hv (Nat.not_lt_zero v), fun a b _ _ x hx => by
        rw [← hWe] at hx
        have := (hE _ (hW.2 a b x hx)).1
        have e : cnB (pvO (maN n f0) a b) 0 = 0 := rfl
        rw [e]
        have e2 : ((a, b, x) : Ge).2.2 = x := rfl
        omega, fun a b _ _ x hx => by
        rw [← hWe] at hx
        have := (hE _ (hW.2 a b x hx)).2
        have e2 : ((a, b, x) : Ge).2.2 = x := rfl
        omega, fun a b _ _ x hx => ⟨x, by rw [← hWe]; exact hx, Int.le_refl _⟩, fun q h => by rw [← hWe]; exact hsn q h, fun h => absurd h (Nat.lt_irrefl 0), fun _ => rfl⟩
  have hc : cpAk sx 6 0 256 (nI 0) 6 1 256 (nI 0) (Int32.ofNat 256) = fun (k : Sg → Option (Int32 × Sg)) => k (pA sx 6 1 f0) := by
    funext k
    unfold cpAk
    rw [if_neg (by decide), if_neg (by decide), if_neg (by decide), if_pos (by decide), if_pos (by decide), hf0]
    rfl
  obtain ⟨r, hr, hQ⟩ := hI
  cases r with
  | inl s =>
    obtain ⟨f, rfl, q1⟩ := hQ
    exact ⟨f, Or.inl ⟨by simp only [m_X9_join, hc, nmk, lpk, show (0 : Int32) = nI 0 from rfl, hr, Sum.elim], q1⟩⟩
  | inr s =>
    obtain ⟨f, rfl, q1⟩ := hQ
    exact ⟨f, Or.inr ⟨by simp only [m_X9_join, hc, nmk, lpk, show (0 : Int32) = nI 0 from rfl, hr, Sum.elim], q1⟩⟩
