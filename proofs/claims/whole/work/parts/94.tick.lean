-- 94.tick: the call tick; the latest begins
theorem least_mem {n : Nat} {E F : List Ge} (h : ∀ e, e ∈ E ↔ e ∈ F) {P : Nat → Int} (hP : LeastG n E P) : LeastG n F P := ⟨hP.1, fun e he => hP.2.1 e ((h e).mpr he), fun q a b => hP.2.2 q a (fun e he => b e ((h e).mp he))⟩
/-- the row f holds last less the numbers p -/
def PRt (last : Int) (n : Nat) (f : Nat → Int32) (p : Nat → Int) (M : Int) : Prop := ∀ v, v < n → (f v).toInt = last - p v ∧ 0 ≤ p v ∧ p v ≤ M
def tG (b : Int) (l : List Ed) (i : Nat) : List Ge := if h : i < l.length then [turnG (geI b l[i])] else []
theorem tG_mem {b : Int} {l : List Ed} (e : Ge) : e ∈ RGl (tG b l) 0 l.length ↔ e ∈ (l.map (geI b)).map turnG := by
  unfold RGl
  rw [List.mem_flatMap, List.mem_map]
  constructor
  · rintro ⟨i, hi, he⟩
    have hil : i < l.length := by have := List.mem_range'_1.mp hi; omega
    unfold tG at he
    rw [dif_pos hil] at he
    exact ⟨geI b l[i], List.mem_map.mpr ⟨l[i], List.getElem_mem hil, rfl⟩, (List.mem_singleton.mp he).symm⟩
  · rintro ⟨g, hg, rfl⟩
    obtain ⟨x, hx, rfl⟩ := List.mem_map.mp hg
    obtain ⟨i, hil, rfl⟩ := List.mem_iff_getElem.mp hx
    refine ⟨i, List.mem_range'_1.mpr ⟨by omega, by omega⟩, ?_⟩
    unfold tG
    rw [dif_pos hil]
    exact List.mem_singleton.mpr rfl
theorem late_step {s0 : Sg} {n b : Nat} {l : List Ed} {last : Int} (hn : n ≤ 16) (hb : b ≤ 60) (h27 : gI s0 0 27 = nI b) (hl : LR (gI s0 0 20) (gA s0 0 16) (gA s0 0 17) (gA s0 0 18) (gA s0 0 19) l) (hl2 : l.length ≤ 704) (hok : ∀ e ∈ l, okEd n e) (hla : 0 ≤ last) (hla2 : last ≤ 1000) (x1 x5 : Int32) : ∀ (i : Nat) (mv : Int32) (f : Nat → Int32) (p : Nat → Int) (M : Int), i < l.length → PRt last n f p M → 0 ≤ M → M ≤ 1900000 → ∃ f', (m_X12_latestBegin_L108 x1 x5 mv (nI i) (pA s0 0 33 f) = some (.inl (mv, nI (i + 1), pA s0 0 33 f')) ∧ PRt last n f' p (M + 60) ∧ roundG (tG b l i) p = p) ∨ (m_X12_latestBegin_L108 x1 x5 mv (nI i) (pA s0 0 33 f) = some (.inl (1, nI (i + 1), pA s0 0 33 f')) ∧ PRt last n f' (roundG (tG b l i) p) (M + 60) ∧ ∃ v, v < n ∧ p v < roundG (tG b l i) p v) := by
  intro i mv f p M hil hp hM hM2
  have e20 : gI (pA s0 0 33 f) 0 20 = nI l.length := hl.1
  have hg : ¬ nI l.length ≤ nI i := nI_ge hil (by omega)
  have hv : vpb (nI i) 704 = true := vpb_nI (by omega) (by omega)
  have cl := nI_clamp (show i < 2 ^ 31 by omega)
  have el := hl.2 i hil
  obtain ⟨o1, o2, o3, o4⟩ := hok l[i] (List.getElem_mem hil)
  have hGi : tG b l i = [turnG (geI b l[i])] := dif_pos hil
  rw [hGi]
  rw [el] at o1 o2 o3 o4 ⊢
  dsimp only at o1 o2 o3 o4
  have a16 : gA (pA s0 0 33 f) 0 16 = gA s0 0 16 := rfl
  have a17 : gA (pA s0 0 33 f) 0 17 = gA s0 0 17 := rfl
  have a18 : gA (pA s0 0 33 f) 0 18 = gA s0 0 18 := rfl
  have a19 : gA (pA s0 0 33 f) 0 19 = gA s0 0 19 := rfl
  have a33 : gA (pA s0 0 33 f) 0 33 = f := rfl
  have i27 : gI (pA s0 0 33 f) 0 27 = nI b := h27
  have vA : vpb (gA s0 0 16 i) 16 = true := by rw [vpb_iff]; have := o1.1; have := o1.2; omega
  have vB : vpb (gA s0 0 17 i) 16 = true := by rw [vpb_iff]; have := o2.1; have := o2.2; omega
  have cA := fx_cl o1.1
  have cB := fx_cl o2.1
  obtain ⟨x, hx⟩ : ∃ x, x = (gA s0 0 16 i).toNatClampNeg := ⟨_, rfl⟩
  obtain ⟨y, hy⟩ : ∃ y, y = (gA s0 0 17 i).toNatClampNeg := ⟨_, rfl⟩
  rw [← hx] at cA
  rw [← hy] at cB
  have hxn : x < n := by have := o1.2; omega
  have hyn : y < n := by have := o2.2; omega
  obtain ⟨pA1, pA2, pA3⟩ := hp x hxn
  obtain ⟨pB1, pB2, pB3⟩ := hp y hyn
  obtain ⟨m1, m2, m3⟩ := bt_mul hb o4
  have t1 := o3.1
  have t2 := o3.2
  obtain ⟨w, hw⟩ : ∃ w, w = (gA s0 0 18 i).toInt - (b : Int) * (gA s0 0 19 i).toInt := ⟨_, rfl⟩
  have s1 : (f y - gA s0 0 18 i).toInt = last - p y - (gA s0 0 18 i).toInt := by rw [fx_sub (by rw [pB1]; omega) (by rw [pB1]; omega), pB1]
  have s2 : (f y - gA s0 0 18 i + nI b * gA s0 0 19 i).toInt = last - (p y + w) := by
    rw [fx_add (by rw [s1, m1]; omega) (by rw [s1, m1]; omega), s1, m1]
    omega
  have egt : turnG (geI b (gA s0 0 16 i, gA s0 0 17 i, gA s0 0 18 i, gA s0 0 19 i)) = (y, x, w) := by rw [hx, hy, hw]; rfl
  rw [egt]
  have er : roundG [((y, x, w) : Ge)] p = pushG p (y, x, w) := rfl
  rw [er]
  by_cases c : f y - gA s0 0 18 i + nI b * gA s0 0 19 i < f x
  · have c' : ¬ p y + w ≤ p x := by
      rw [fx_lt, s2, pA1] at c
      omega
    have ep : pushG p (y, x, w) = updG p x (p y + w) := if_neg c'
    rw [ep]
    refine ⟨upd f x (f y - gA s0 0 18 i + nI b * gA s0 0 19 i), Or.inr ⟨?_, fun v hv' => ?_, x, hxn, ?_⟩⟩
    · simp only [m_X12_latestBegin_L108, gIk, e20, if_neg hg, lAk, sAk, if_pos hv, cl, a16, a17, a18, a19, a33, if_pos vA, if_pos vB, nmk, ← hx, ← hy, i27, if_pos c, pA_pA', nI_1]
    · unfold updG
      rw [upd_i]
      by_cases e : v = x
      · rw [if_pos e, if_pos e]
        exact ⟨s2, by omega, by omega⟩
      · rw [if_neg e, if_neg e]
        obtain ⟨z1, z2, z3⟩ := hp v hv'
        exact ⟨z1, z2, by omega⟩
    · have e2 : updG p x (p y + w) x = p y + w := if_pos rfl
      rw [e2]
      omega
  · have c' : p y + w ≤ p x := by
      rw [fx_lt, s2, pA1] at c
      omega
    have ep : pushG p (y, x, w) = p := if_pos c'
    rw [ep]
    refine ⟨f, Or.inl ⟨?_, fun v hv' => ?_, rfl⟩⟩
    · simp only [m_X12_latestBegin_L108, gIk, e20, if_neg hg, lAk, if_pos hv, cl, a16, a17, a18, a19, a33, if_pos vA, if_pos vB, nmk, ← hx, ← hy, i27, if_neg c, nI_1]
    · obtain ⟨z1, z2, z3⟩ := hp v hv'
      exact ⟨z1, z2, by omega⟩
theorem late_rounds {s0 : Sg} {n b : Nat} {l : List Ed} {last : Int} {P : Nat → Int} (hn : n ≤ 16) (hb : b ≤ 60) (h9 : gI s0 0 9 = nI n) (h27 : gI s0 0 27 = nI b) (hl : LR (gI s0 0 20) (gA s0 0 16) (gA s0 0 17) (gA s0 0 18) (gA s0 0 19) l) (hl2 : l.length ≤ 704) (hok : ∀ e ∈ l, okEd n e) (hla : 0 ≤ last) (hla2 : last ≤ 1000) (hP : LeastG n (RGl (tG b l) 0 l.length) P) (x1 : Int32) : ∀ (d i N : Nat) (mv : Int32) (f : Nat → Int32), i + d = n + 1 → d < N → PRt last n f (itG (RGl (tG b l) 0 l.length) i) (42240 * i) → ((mv = 0 ∧ roundG (RGl (tG b l) 0 l.length) (itG (RGl (tG b l) 0 l.length) i) = itG (RGl (tG b l) 0 l.length) i) ∨ (mv = 1 ∧ (i = n + 1 → False))) →
    ∃ f' M, lp (fun s : (Int32 × Int32 × Sg) => m_X12_latestBegin_L88 x1 s.1 s.2.1 s.2.2) N (mv, nI i, pA s0 0 33 f) = some (pA s0 0 33 f') ∧ PRt last n f' P M := by
  have hin : InG n (RGl (tG b l) 0 l.length) := fun e he => by
    obtain ⟨g, hg, rfl⟩ := List.mem_map.mp ((tG_mem e).mp he)
    have := ge_in (n := n) (b : Int) hok g hg
    exact ⟨this.2, this.1⟩
  have fin : ∀ i f M, roundG (RGl (tG b l) 0 l.length) (itG (RGl (tG b l) 0 l.length) i) = itG (RGl (tG b l) 0 l.length) i → PRt last n f (itG (RGl (tG b l) 0 l.length) i) M → PRt last n f P M := fun i f M h1 h2 v hv => by
    have u := least_uni (it_least hin h1) hP v hv
    obtain ⟨z1, z2, z3⟩ := h2 v hv
    rw [u] at z1 z2 z3
    exact ⟨z1, z2, z3⟩
  have n10 : ¬ (1 : Int32) = 0 := by decide
  intro d
  induction d with
  | zero =>
    intro i N mv f hi hN hp hm
    obtain ⟨N, rfl⟩ : ∃ M, N = M + 1 := ⟨N - 1, by omega⟩
    rcases hm with ⟨z1, z2⟩ | ⟨z1, z2⟩
    · refine ⟨f, 42240 * i, lp_end ?_, fin i f _ z2 hp⟩
      show m_X12_latestBegin_L88 x1 mv (nI i) (pA s0 0 33 f) = _
      rw [m_X12_latestBegin_L88, if_pos z1]
    · exact absurd (by omega) z2
  | succ d ih =>
    intro i N mv f hi hN hp hm
    obtain ⟨N, rfl⟩ : ∃ M, N = M + 1 := ⟨N - 1, by omega⟩
    rcases hm with ⟨z1, z2⟩ | ⟨z1, z2⟩
    · refine ⟨f, 42240 * i, lp_end ?_, fin i f _ z2 hp⟩
      show m_X12_latestBegin_L88 x1 mv (nI i) (pA s0 0 33 f) = _
      rw [m_X12_latestBegin_L88, if_pos z1]
    subst z1
    have hg : ¬ gI (pA s0 0 33 f) 0 9 < nI i := by
      show ¬ gI s0 0 9 < nI i
      rw [h9]
      exact nI_nlt (by omega) (by omega)
    obtain ⟨mv', f', r1, r2, r3⟩ := gen_round (s0 := s0) (n := n) (L := l.length) (step := fun s : (Int32 × Int32 × Sg) => m_X12_latestBegin_L108 x1 (nI i) s.1 s.2.1 s.2.2) (G := tG b l) (PR := PRt last n) (fun f p M M' h h2 v hv => ⟨(h v hv).1, (h v hv).2.1, Int.le_trans (h v hv).2.2 h2⟩) (fun i' mv f p M h1 h2 h3 h4 => late_step hn hb h27 hl hl2 hok hla hla2 x1 (nI i) i' mv f p M h1 h2 h3 h4) (fun mv f => by
        have e20 : gI (pA s0 0 33 f) 0 20 = nI l.length := hl.1
        simp only [m_X12_latestBegin_L108, gIk, e20, if_pos (Int32.le_refl _)]) l.length 0 FU 0 f (itG (RGl (tG b l) 0 l.length) i) (42240 * i) (by omega) (FU_lt (by omega)) hp (by omega) (by omega)
    have r1' : lp (fun s : (Int32 × Int32 × Sg) => m_X12_latestBegin_L108 x1 (nI i) s.1 s.2.1 s.2.2) FU (0, 0, pA s0 0 33 f) = some (mv', pA s0 0 33 f') := r1
    have st : m_X12_latestBegin_L88 x1 1 (nI i) (pA s0 0 33 f) = some (.inl (mv', nI (i + 1), pA s0 0 33 f')) := by
      rw [m_X12_latestBegin_L88, if_neg n10, gIk, if_neg hg, nmk, nmk, lpk, r1', ← nI_1]
      rfl
    have r2' : PRt last n f' (itG (RGl (tG b l) 0 l.length) (i + 1)) (42240 * ((i + 1 : Nat) : Int)) := fun v hv => by
      obtain ⟨z1, z2', z3⟩ := r2 v hv
      exact ⟨z1, z2', by
        have e : itG (RGl (tG b l) 0 l.length) (i + 1) v = roundG (RGl (tG b l) 0 l.length) (itG (RGl (tG b l) 0 l.length) i) v := rfl
        rw [e]
        omega⟩
    obtain ⟨f2, M2, k1, k2⟩ := ih (i + 1) N mv' f' (by omega) (by omega) r2' (by
      rcases r3 with ⟨y1, y2⟩ | ⟨y1, v, hv, y2⟩
      · refine Or.inl ⟨y1, ?_⟩
        have e : itG (RGl (tG b l) 0 l.length) (i + 1) = roundG (RGl (tG b l) 0 l.length) (itG (RGl (tG b l) 0 l.length) i) := rfl
        rw [e, y2, y2]
      · refine Or.inr ⟨y1, fun e => ?_⟩
        have ei : i = n := by omega
        subst ei
        rw [it_fix hin hP] at y2
        omega)
    refine ⟨f2, M2, ?_, k2⟩
    rw [lp_next (s' := (mv', nI (i + 1), pA s0 0 33 f')) (by exact st)]
    exact k1
theorem latest_eq {sm sg : Sg} {n b a : Nat} {l : List Ed} {p q : Nat → Int} (hn : n ≤ 16) (ha : a < n) (hb : b ≤ 60) (hga : m_X12_gather sm = some ((), sg)) (h9 : gI sg 0 9 = nI n) (h27 : gI sg 0 27 = nI b) (hl : LR (gI sg 0 20) (gA sg 0 16) (gA sg 0 17) (gA sg 0 18) (gA sg 0 19) l) (hl2 : l.length ≤ 704) (hok : ∀ e ∈ l, okEd n e) (hp : LeastG n (l.map (geI b)) p) (hq : LeastG n ((l.map (geI b)).map turnG) q) : ∃ r f, m_X12_latestBegin (nI a) sm = some (r, pA sg 0 33 f) ∧ r.toInt = mxI p n - q a := by
  obtain ⟨f1, k⟩ := rests_eq (s0 := sg) (b := b) h9 hn hb hl hl2 hok
  rcases k with ⟨k1, p', k2, k3⟩ | ⟨k1, k2⟩
  case inr => exact absurd hp (k2 _)
  have pu : ∀ v, v < n → p' v = p v := fun v hv => least_uni k3 hp v hv
  have bd := ge_bd hb hok
  have pb : ∀ v, v < n → p v ≤ 1000 := fun v hv => by
    have := least_bd (ge_in (b : Int) hok) hp (W := 50) (fun e he => (bd e he).2) (by omega) v hv
    omega
  obtain ⟨s1, hs1⟩ : ∃ s, s = pA sg 0 33 f1 := ⟨_, rfl⟩
  have e9 : gI s1 0 9 = nI n := by rw [hs1]; exact h9
  have e33 : gA s1 0 33 = f1 := by rw [hs1]; rfl
  have hA := ok_for (step := fun s : (Int32 × Int32 × Sg) => m_X12_latestBegin_L18 (nI a) s.1 s.2.1 s.2.2) (Q := fun r => ∃ x, r = (x, s1) ∧ x.toInt = mxI p n) n (fun i r => ∃ x, r = (x, nI i, s1) ∧ x.toInt = mxI p i) (by
      rintro i r hi ⟨x, rfl, h⟩
      have vi : vpb (nI i) 16 = true := vpb_nI (by omega) (by omega)
      have ci := nI_clamp (show i < 2 ^ 31 by omega)
      have ti : (f1 i).toInt = p i := by rw [(k2 i hi).1, pu i hi]
      by_cases c : f1 i ≤ x
      · refine ⟨.inl (x, nI (i + 1), s1), ?_, x, rfl, ?_⟩
        · show m_X12_latestBegin_L18 (nI a) x (nI i) s1 = _
          rw [m_X12_latestBegin_L18, gIk, e9, if_neg (nI_ge hi (by omega)), lAk, if_pos vi, ci, e33, if_pos c, nmk, nmk, nI_1]
        · rw [fx_le, ti, h] at c
          rw [mxI_s, if_neg (by omega)]; exact h
      · refine ⟨.inl (f1 i, nI (i + 1), s1), ?_, _, rfl, ?_⟩
        · show m_X12_latestBegin_L18 (nI a) x (nI i) s1 = _
          rw [m_X12_latestBegin_L18, gIk, e9, if_neg (nI_ge hi (by omega)), lAk, if_pos vi, ci, e33, if_neg c, lAk, if_pos vi, ci, e33, nmk, nmk, nI_1]
        · rw [fx_le, ti, h] at c
          rw [mxI_s, if_pos (by omega)]; exact ti) (by
      rintro r ⟨x, rfl, h⟩
      refine ⟨.inr (x, s1), ?_, x, rfl, h⟩
      show m_X12_latestBegin_L18 (nI a) x (nI n) s1 = _
      rw [m_X12_latestBegin_L18, gIk, e9, if_pos (Int32.le_refl _)]) FU 0 (0, 0, s1) (by omega) (FU_lt (by omega)) ⟨0, rfl, rfl⟩
  obtain ⟨r, hr, last, rfl, hlast⟩ := hA
  have lb := mxI_bd (p := p) (M := 1000) (by omega) (n := n) pb
  have hB := ok_for (step := fun s : (Int32 × Sg) => m_X12_latestBegin_L59 (nI a) last s.1 s.2) (Q := fun r => ∃ f, r = pA sg 0 33 f ∧ ∀ v, v < n → f v = last) n (fun i r => ∃ f, r = (nI i, pA sg 0 33 f) ∧ ∀ v, v < i → f v = last) (by
      rintro i r hi ⟨f, rfl, h⟩
      have vi : vpb (nI i) 16 = true := vpb_nI (by omega) (by omega)
      have ci := nI_clamp (show i < 2 ^ 31 by omega)
      have g9 : gI (pA sg 0 33 f) 0 9 = nI n := h9
      have g33 : gA (pA sg 0 33 f) 0 33 = f := rfl
      refine ⟨.inl (nI (i + 1), pA sg 0 33 (upd f i last)), ?_, _, rfl, fun v hv => ?_⟩
      · show m_X12_latestBegin_L59 (nI a) last (nI i) (pA sg 0 33 f) = _
        rw [m_X12_latestBegin_L59, gIk, g9, if_neg (nI_ge hi (by omega)), sAk, if_pos vi, ci, g33, pA_pA, nmk, nI_1]
      · rw [upd_i]
        by_cases e : v = i
        · rw [if_pos e]
        · rw [if_neg e]; exact h v (by omega)) (by
      rintro r ⟨f, rfl, h⟩
      have g9 : gI (pA sg 0 33 f) 0 9 = nI n := h9
      refine ⟨.inr (pA sg 0 33 f), ?_, f, rfl, h⟩
      show m_X12_latestBegin_L59 (nI a) last (nI n) (pA sg 0 33 f) = _
      rw [m_X12_latestBegin_L59, gIk, g9, if_pos (Int32.le_refl _)]) FU 0 (0, s1) (by omega) (FU_lt (by omega)) ⟨f1, by rw [hs1]; rfl, fun v hv => absurd hv (Nat.not_lt_zero v)⟩
  obtain ⟨r, hr2, f2, rfl, h2⟩ := hB
  have hP : LeastG n (RGl (tG b l) 0 l.length) q := least_mem (fun e => (tG_mem e).symm) hq
  obtain ⟨f3, M, k4, k5⟩ := late_rounds (s0 := sg) (last := mxI p n) hn hb h9 h27 hl hl2 hok lb.1 lb.2 hP (nI a) (n + 1) 0 FU 1 f2 (by omega) (FU_lt (by omega)) (fun v hv => by
      rw [h2 v hv, hlast]
      have e : itG (RGl (tG b l) 0 l.length) 0 v = 0 := rfl
      rw [e]
      omega) (Or.inr ⟨rfl, fun e => by omega⟩)
  have k4' : lp (fun s : (Int32 × Int32 × Sg) => m_X12_latestBegin_L88 (nI a) s.1 s.2.1 s.2.2) FU (1, 0, pA sg 0 33 f2) = some (pA sg 0 33 f3) := k4
  have va : vpb (nI a) 16 = true := vpb_nI (by omega) (by omega)
  have ca := nI_clamp (show a < 2 ^ 31 by omega)
  refine ⟨f3 a, f3, ?_, (k5 a ha).1⟩
  rw [m_X12_latestBegin, hga, clk_some, gIk, h27, k1, clk_some, nmk, nmk, nmk, lpk, ← hs1, hr]
  show (lpk (fun s : (Int32 × Sg) => m_X12_latestBegin_L59 (nI a) last s.1 s.2) FU (0, s1) fun r20 => _) = _
  rw [lpk, hr2]
  show (lpk (fun s : (Int32 × Int32 × Sg) => m_X12_latestBegin_L88 (nI a) s.1 s.2.1 s.2.2) FU (1, 0, pA sg 0 33 f2) fun r42 => _) = _
  rw [lpk, k4']
  show (lAk (pA sg 0 33 f3) 0 33 16 (nI a) fun v43 => some (v43, pA sg 0 33 f3)) = _
  rw [lAk, if_pos va, ca]
  rfl
theorem s_tick (x y : Int32) {sx sm : Sg} (h : Rel sx sm) : Sim (m_X11_tick x y sx) (m_X12_tick x y sm) := by
  obtain ⟨n, t, h1, h2, h3, h4, h5, h6, h7, h8, h9, h10⟩ := id h
  have hn := h1.2.1
  have n10 : ¬ (1 : Int32) = 0 := by decide
  have i0 : (0 : Int64).toInt = 0 := rfl
  have i4 : (4 : Int64).toInt = 4 := rfl
  have t2 : (2 : Int32).toInt = 2 := rfl
  have t3 : (3 : Int32).toInt = 3 := rfl
  have t4 : (4 : Int32).toInt = 4 := rfl
  rcases ly_b h10 with ⟨q1, q2⟩ | ⟨q1, q2, b, T, S, p, q, ⟨⟨b1, b2, b3, b4, b5⟩, b6⟩, -, -, ⟨c1, c2⟩, ⟨c3, c4⟩, -⟩
  · rw [m_X11_tick, gIk, if_pos q1, clk_id, m_X12_tick, gIk, if_pos q2, clk_id]
    exact sim_ref (inR_lit _ _ rfl) h
  rw [m_X12_tick, gIk, if_neg q2, isAct_eq, clk_some, m_X11_tick, gIk, if_neg q1, has_eq, clk_some, h3.1]
  simp only [clk_id]
  by_cases c : 0 ≤ x.toInt ∧ x.toInt < (gI sm 0 9).toInt
  case neg =>
    rw [if_neg c, if_pos rfl, if_pos rfl]
    exact sim_ref (inR_lit _ _ rfl) h
  rw [if_pos c, if_neg n10, if_neg n10, isIn_eq, clk_some, i0, i4]
  obtain ⟨hp1, hp2, hv⟩ := acts_lt h1.1 hn c
  obtain ⟨a, ha⟩ : ∃ a, a = x.toNatClampNeg := ⟨_, rfl⟩
  have ex : x = nI a := by rw [ha]; exact fx_nI c.1
  rw [← ha] at hp1
  obtain ⟨z1, z2, ⟨z3, z4⟩, ⟨z5, z6⟩, z7, z8⟩ := b6 a hp1
  by_cases d : 0 ≤ y.toInt ∧ y.toInt ≤ 4
  case neg =>
    have d0 : ¬ y = 0 := fun e => d (by rw [e, ti_0]; omega)
    have d1 : ¬ y = 1 := fun e => d (by rw [e, ti_1]; omega)
    have d2 : ¬ y = 2 := fun e => d (by rw [e, t2]; omega)
    have d3 : ¬ y = 3 := fun e => d (by rw [e, t3]; omega)
    have d4 : ¬ y = 4 := fun e => d (by rw [e, t4]; omega)
    rw [if_neg d, if_pos rfl, if_neg d0, if_neg d1, if_neg d2, if_neg d3, if_neg d4]
    exact sim_ref (inR_lit _ _ rfl) h
  rw [if_pos d, if_neg n10]
  obtain ⟨sg, g1, g2⟩ := gather_eq h1.1 hn h2.1 h2.2.1
  have fG := frG_em g2
  have hokM := all_ok h1 h2
  have hall := all_perm (n := n) (t := t) h3 h4
  have e9 : gI sg 0 9 = nI n := (g2.1 9 (by omega)).trans h1.1
  have e27 : gI sg 0 27 = nI b := (g2.1 27 (by omega)).trans b4
  have e32 : gI sg 0 32 = gI sm 0 32 := g2.1 32 (by omega)
  have R33 : ∀ f, Rel sx (pA sg 0 33 f) := fun f => rel_fr h1 h2 h3 h4 h5 h6 (h7.1.trans (show gI sm 0 32 = gI (pA sg 0 33 f) 0 32 from e32.symm)) h7.2 h8 h10 (FrX.refl sx) (fG.trans (frG_33 _ _)) h9
  by_cases d4 : y = 4
  · have d0 : ¬ y = 0 := by rw [d4]; decide
    have d1 : ¬ y = 1 := by rw [d4]; decide
    have d2 : ¬ y = 2 := by rw [d4]; decide
    have d3 : ¬ y = 3 := by rw [d4]; decide
    rw [if_pos d4, if_neg d0, if_neg d1, if_neg d2, if_neg d3, if_pos d4, lAk, if_pos hv, ← ha, ex]
    obtain ⟨r, f, k1, k2⟩ := latest_eq hn hp1 b2 g1 e9 e27 g2.2.2.2 (allM_len hn h2.2.1) hokM (least_perm (hall.map _) c1) (least_perm ((hall.map _).map _) c3)
    rw [k1]
    have er : gA sx 9 8 a = r := by rw [fx_eq, k2, c4 a hp1]
    rw [er]
    exact ⟨r, sx, _, rfl, rfl, R33 f⟩
  rw [if_neg d4, if_neg d4]
  by_cases d3 : y = 3
  · have d0 : ¬ y = 0 := by rw [d3]; decide
    have d1 : ¬ y = 1 := by rw [d3]; decide
    have d2 : ¬ y = 2 := by rw [d3]; decide
    rw [if_pos d3, if_neg d0, if_neg d1, if_neg d2, if_pos d3, lAk, if_pos hv, ← ha]
    obtain ⟨f1, k⟩ := rests_eq (s0 := sg) (b := b) e9 hn b2 g2.2.2.2 (allM_len hn h2.2.1) hokM
    have c1' := least_perm (hall.map (geI b)) c1
    rcases k with ⟨k1, p', k2, k3⟩ | ⟨k1, k2⟩
    case inr => exact absurd c1' (k2 _)
    have er : gA sx 9 7 a = f1 a := by rw [fx_eq, (k2 a hp1).1, c2 a hp1, least_uni c1' k3 a hp1]
    rw [g1, clk_some, gIk, e27, k1, clk_some, nmk, lAk, if_pos hv, ← ha, er]
    exact ⟨f1 a, sx, _, rfl, rfl, R33 f1⟩
  rw [if_neg d3, if_neg d3]
  by_cases d0 : y = 0
  · rw [if_pos d0, if_pos d0, lAk, if_pos hv, lAk, if_pos hv, ← ha, z3, z4]
    exact ⟨_, _, _, rfl, rfl, h⟩
  rw [if_neg d0, if_neg d0]
  by_cases d1 : y = 1
  · rw [if_pos d1, if_pos d1, lAk, if_pos hv, lAk, if_pos hv, ← ha, z5, z6]
    exact ⟨_, _, _, rfl, rfl, h⟩
  have d2 : y = 2 := by
    have f0 : ¬ y.toInt = 0 := fun e => d0 (by rw [fx_eq, e, ti_0])
    have f1 : ¬ y.toInt = 1 := fun e => d1 (by rw [fx_eq, e, ti_1])
    have f3 : ¬ y.toInt = 3 := fun e => d3 (by rw [fx_eq, e, t3])
    have f4 : ¬ y.toInt = 4 := fun e => d4 (by rw [fx_eq, e, t4])
    rw [fx_eq, t2]; omega
  rw [if_neg d1, if_neg d1, if_pos d2, lAk, if_pos hv, lAk, if_pos hv, ← ha, z7, z8]
  exact ⟨_, _, _, rfl, rfl, h⟩
