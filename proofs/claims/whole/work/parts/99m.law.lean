-- 99m.law: the law's cases out of the calls
theorem sc_at {β : Type} {xs : Nat → Int32} {L i d : Nat} (h : i + d < L) (hL : L ≤ 3072) (f : Int32 → Option β) : sck xs L (nI i + nI d) f = f (xs (i + d)) := by
  rw [nI_add, sck, if_pos (vpb_nI h (by omega)), nI_clamp (by omega)]
section LAW
variable {xs : Nat → Int32} {L i : Nat} {sx sm : Sg}
theorem l_c0 (hi : i + 6 ≤ L) (hL : L ≤ 3072) (h : Rel sx sm) : ∃ sx' sm', m_law_c0 xs L (nI i) sx sm = some (.inl (nI (i + 6), sx', sm')) ∧ Rel sx' sm' := by
  have c1 : ∀ {β : Type} (f : Int32 → Option β), sck xs L (nI i + 1) f = f (xs (i + 1)) := fun f => sc_at (d := 1) (by omega) hL f
  have c2 : ∀ {β : Type} (f : Int32 → Option β), sck xs L (nI i + 2) f = f (xs (i + 2)) := fun f => sc_at (d := 2) (by omega) hL f
  have c3 : ∀ {β : Type} (f : Int32 → Option β), sck xs L (nI i + 3) f = f (xs (i + 3)) := fun f => sc_at (d := 3) (by omega) hL f
  have c4 : ∀ {β : Type} (f : Int32 → Option β), sck xs L (nI i + 4) f = f (xs (i + 4)) := fun f => sc_at (d := 4) (by omega) hL f
  have c5 : ∀ {β : Type} (f : Int32 → Option β), sck xs L (nI i + 5) f = f (xs (i + 5)) := fun f => sc_at (d := 5) (by omega) hL f
  have a6 : nI i + 6 = nI (i + 6) := nI_add i 6
  have lg : ∀ a : Int64, lg_cmp a a = 0 := fun a => (lgc_eq a a).mpr rfl
  obtain ⟨r, sx', sm', e1, e2, e3⟩ := s_put (((((xs (i + 1)) : Int32).toInt64) <<< ((32 : Int32).toInt64 &&& 63)) ||| ((((xs (i + 2)) : Int32).toInt64) &&& 4294967295)) h
  exact ⟨sx', sm', by simp only [m_law_c0, c1, c2, c3, c4, c5, e1, clk_some, e2, if_true, lg, nmk, a6], e3⟩
theorem l_c1 (hi : i + 6 ≤ L) (hL : L ≤ 3072) (h : Rel sx sm) : ∃ sx' sm', m_law_c1 xs L (nI i) sx sm = some (.inl (nI (i + 6), sx', sm')) ∧ Rel sx' sm' := by
  have c1 : ∀ {β : Type} (f : Int32 → Option β), sck xs L (nI i + 1) f = f (xs (i + 1)) := fun f => sc_at (d := 1) (by omega) hL f
  have c2 : ∀ {β : Type} (f : Int32 → Option β), sck xs L (nI i + 2) f = f (xs (i + 2)) := fun f => sc_at (d := 2) (by omega) hL f
  have c3 : ∀ {β : Type} (f : Int32 → Option β), sck xs L (nI i + 3) f = f (xs (i + 3)) := fun f => sc_at (d := 3) (by omega) hL f
  have c4 : ∀ {β : Type} (f : Int32 → Option β), sck xs L (nI i + 4) f = f (xs (i + 4)) := fun f => sc_at (d := 4) (by omega) hL f
  have c5 : ∀ {β : Type} (f : Int32 → Option β), sck xs L (nI i + 5) f = f (xs (i + 5)) := fun f => sc_at (d := 5) (by omega) hL f
  have a6 : nI i + 6 = nI (i + 6) := nI_add i 6
  have lg : ∀ a : Int64, lg_cmp a a = 0 := fun a => (lgc_eq a a).mpr rfl
  obtain ⟨r, sx', sm', e1, e2, e3⟩ := s_reckon (xs (i + 1)) (xs (i + 2)) (xs (i + 3)) (xs (i + 4)) (xs (i + 5)) h
  exact ⟨sx', sm', by simp only [m_law_c1, c1, c2, c3, c4, c5, e1, clk_some, e2, if_true, lg, nmk, a6], e3⟩
theorem l_c2 (hi : i + 6 ≤ L) (hL : L ≤ 3072) (h : Rel sx sm) : ∃ sx' sm', m_law_c2 xs L (nI i) sx sm = some (.inl (nI (i + 6), sx', sm')) ∧ Rel sx' sm' := by
  have c1 : ∀ {β : Type} (f : Int32 → Option β), sck xs L (nI i + 1) f = f (xs (i + 1)) := fun f => sc_at (d := 1) (by omega) hL f
  have c2 : ∀ {β : Type} (f : Int32 → Option β), sck xs L (nI i + 2) f = f (xs (i + 2)) := fun f => sc_at (d := 2) (by omega) hL f
  have c3 : ∀ {β : Type} (f : Int32 → Option β), sck xs L (nI i + 3) f = f (xs (i + 3)) := fun f => sc_at (d := 3) (by omega) hL f
  have c4 : ∀ {β : Type} (f : Int32 → Option β), sck xs L (nI i + 4) f = f (xs (i + 4)) := fun f => sc_at (d := 4) (by omega) hL f
  have c5 : ∀ {β : Type} (f : Int32 → Option β), sck xs L (nI i + 5) f = f (xs (i + 5)) := fun f => sc_at (d := 5) (by omega) hL f
  have a6 : nI i + 6 = nI (i + 6) := nI_add i 6
  have lg : ∀ a : Int64, lg_cmp a a = 0 := fun a => (lgc_eq a a).mpr rfl
  obtain ⟨r, sx', sm', e1, e2, e3⟩ := s_fetch (xs (i + 1)) (xs (i + 2)) (xs (i + 3)) h
  exact ⟨sx', sm', by simp only [m_law_c2, c1, c2, c3, c4, c5, e1, clk_some, e2, if_true, lg, nmk, a6], e3⟩
theorem l_c3 (hi : i + 6 ≤ L) (hL : L ≤ 3072) (h : Rel sx sm) : ∃ sx' sm', m_law_c3 xs L (nI i) sx sm = some (.inl (nI (i + 6), sx', sm')) ∧ Rel sx' sm' := by
  have c1 : ∀ {β : Type} (f : Int32 → Option β), sck xs L (nI i + 1) f = f (xs (i + 1)) := fun f => sc_at (d := 1) (by omega) hL f
  have c2 : ∀ {β : Type} (f : Int32 → Option β), sck xs L (nI i + 2) f = f (xs (i + 2)) := fun f => sc_at (d := 2) (by omega) hL f
  have c3 : ∀ {β : Type} (f : Int32 → Option β), sck xs L (nI i + 3) f = f (xs (i + 3)) := fun f => sc_at (d := 3) (by omega) hL f
  have c4 : ∀ {β : Type} (f : Int32 → Option β), sck xs L (nI i + 4) f = f (xs (i + 4)) := fun f => sc_at (d := 4) (by omega) hL f
  have c5 : ∀ {β : Type} (f : Int32 → Option β), sck xs L (nI i + 5) f = f (xs (i + 5)) := fun f => sc_at (d := 5) (by omega) hL f
  have a6 : nI i + 6 = nI (i + 6) := nI_add i 6
  have lg : ∀ a : Int64, lg_cmp a a = 0 := fun a => (lgc_eq a a).mpr rfl
  obtain ⟨r, sx', sm', e1, e2, e3⟩ := s_store (xs (i + 1)) (xs (i + 2)) (xs (i + 3)) (xs (i + 4)) (xs (i + 5)) h
  exact ⟨sx', sm', by simp only [m_law_c3, c1, c2, c3, c4, c5, e1, clk_some, e2, if_true, lg, nmk, a6], e3⟩
theorem l_c4 (hi : i + 6 ≤ L) (hL : L ≤ 3072) (h : Rel sx sm) : ∃ sx' sm', m_law_c4 xs L (nI i) sx sm = some (.inl (nI (i + 6), sx', sm')) ∧ Rel sx' sm' := by
  have c1 : ∀ {β : Type} (f : Int32 → Option β), sck xs L (nI i + 1) f = f (xs (i + 1)) := fun f => sc_at (d := 1) (by omega) hL f
  have c2 : ∀ {β : Type} (f : Int32 → Option β), sck xs L (nI i + 2) f = f (xs (i + 2)) := fun f => sc_at (d := 2) (by omega) hL f
  have c3 : ∀ {β : Type} (f : Int32 → Option β), sck xs L (nI i + 3) f = f (xs (i + 3)) := fun f => sc_at (d := 3) (by omega) hL f
  have c4 : ∀ {β : Type} (f : Int32 → Option β), sck xs L (nI i + 4) f = f (xs (i + 4)) := fun f => sc_at (d := 4) (by omega) hL f
  have c5 : ∀ {β : Type} (f : Int32 → Option β), sck xs L (nI i + 5) f = f (xs (i + 5)) := fun f => sc_at (d := 5) (by omega) hL f
  have a6 : nI i + 6 = nI (i + 6) := nI_add i 6
  have lg : ∀ a : Int64, lg_cmp a a = 0 := fun a => (lgc_eq a a).mpr rfl
  obtain ⟨r, sx', sm', e1, e2, e3⟩ := s_pick (xs (i + 1)) (xs (i + 2)) (xs (i + 3)) (xs (i + 4)) h
  exact ⟨sx', sm', by simp only [m_law_c4, c1, c2, c3, c4, c5, e1, clk_some, e2, if_true, lg, nmk, a6], e3⟩
theorem l_c5 (hi : i + 6 ≤ L) (hL : L ≤ 3072) (h : Rel sx sm) : ∃ sx' sm', m_law_c5 xs L (nI i) sx sm = some (.inl (nI (i + 6), sx', sm')) ∧ Rel sx' sm' := by
  have c1 : ∀ {β : Type} (f : Int32 → Option β), sck xs L (nI i + 1) f = f (xs (i + 1)) := fun f => sc_at (d := 1) (by omega) hL f
  have c2 : ∀ {β : Type} (f : Int32 → Option β), sck xs L (nI i + 2) f = f (xs (i + 2)) := fun f => sc_at (d := 2) (by omega) hL f
  have c3 : ∀ {β : Type} (f : Int32 → Option β), sck xs L (nI i + 3) f = f (xs (i + 3)) := fun f => sc_at (d := 3) (by omega) hL f
  have c4 : ∀ {β : Type} (f : Int32 → Option β), sck xs L (nI i + 4) f = f (xs (i + 4)) := fun f => sc_at (d := 4) (by omega) hL f
  have c5 : ∀ {β : Type} (f : Int32 → Option β), sck xs L (nI i + 5) f = f (xs (i + 5)) := fun f => sc_at (d := 5) (by omega) hL f
  have a6 : nI i + 6 = nI (i + 6) := nI_add i 6
  have lg : ∀ a : Int64, lg_cmp a a = 0 := fun a => (lgc_eq a a).mpr rfl
  obtain ⟨r, sx', sm', e1, e2, e3⟩ := s_works (xs (i + 1)) (xs (i + 2)) (xs (i + 3)) (xs (i + 4)) h
  exact ⟨sx', sm', by simp only [m_law_c5, c1, c2, c3, c4, c5, e1, clk_some, e2, if_true, lg, nmk, a6], e3⟩
theorem l_c6 (hi : i + 6 ≤ L) (hL : L ≤ 3072) (h : Rel sx sm) : ∃ sx' sm', m_law_c6 xs L (nI i) sx sm = some (.inl (nI (i + 6), sx', sm')) ∧ Rel sx' sm' := by
  have c1 : ∀ {β : Type} (f : Int32 → Option β), sck xs L (nI i + 1) f = f (xs (i + 1)) := fun f => sc_at (d := 1) (by omega) hL f
  have c2 : ∀ {β : Type} (f : Int32 → Option β), sck xs L (nI i + 2) f = f (xs (i + 2)) := fun f => sc_at (d := 2) (by omega) hL f
  have c3 : ∀ {β : Type} (f : Int32 → Option β), sck xs L (nI i + 3) f = f (xs (i + 3)) := fun f => sc_at (d := 3) (by omega) hL f
  have c4 : ∀ {β : Type} (f : Int32 → Option β), sck xs L (nI i + 4) f = f (xs (i + 4)) := fun f => sc_at (d := 4) (by omega) hL f
  have c5 : ∀ {β : Type} (f : Int32 → Option β), sck xs L (nI i + 5) f = f (xs (i + 5)) := fun f => sc_at (d := 5) (by omega) hL f
  have a6 : nI i + 6 = nI (i + 6) := nI_add i 6
  have lg : ∀ a : Int64, lg_cmp a a = 0 := fun a => (lgc_eq a a).mpr rfl
  obtain ⟨r, sx', sm', e1, e2, e3⟩ := s_first (xs (i + 1)) (((((xs (i + 2)) : Int32).toInt64) <<< ((32 : Int32).toInt64 &&& 63)) ||| ((((xs (i + 3)) : Int32).toInt64) &&& 4294967295)) h
  exact ⟨sx', sm', by simp only [m_law_c6, c1, c2, c3, c4, c5, e1, clk_some, e2, if_true, lg, nmk, a6], e3⟩
theorem l_c7 (hi : i + 6 ≤ L) (hL : L ≤ 3072) (h : Rel sx sm) : ∃ sx' sm', m_law_c7 xs L (nI i) sx sm = some (.inl (nI (i + 6), sx', sm')) ∧ Rel sx' sm' := by
  have c1 : ∀ {β : Type} (f : Int32 → Option β), sck xs L (nI i + 1) f = f (xs (i + 1)) := fun f => sc_at (d := 1) (by omega) hL f
  have c2 : ∀ {β : Type} (f : Int32 → Option β), sck xs L (nI i + 2) f = f (xs (i + 2)) := fun f => sc_at (d := 2) (by omega) hL f
  have c3 : ∀ {β : Type} (f : Int32 → Option β), sck xs L (nI i + 3) f = f (xs (i + 3)) := fun f => sc_at (d := 3) (by omega) hL f
  have c4 : ∀ {β : Type} (f : Int32 → Option β), sck xs L (nI i + 4) f = f (xs (i + 4)) := fun f => sc_at (d := 4) (by omega) hL f
  have c5 : ∀ {β : Type} (f : Int32 → Option β), sck xs L (nI i + 5) f = f (xs (i + 5)) := fun f => sc_at (d := 5) (by omega) hL f
  have a6 : nI i + 6 = nI (i + 6) := nI_add i 6
  have lg : ∀ a : Int64, lg_cmp a a = 0 := fun a => (lgc_eq a a).mpr rfl
  obtain ⟨r, sx', sm', e1, e2, e3⟩ := s_unit (xs (i + 1)) (xs (i + 2)) h
  exact ⟨sx', sm', by simp only [m_law_c7, c1, c2, c3, c4, c5, e1, clk_some, e2, if_true, lg, nmk, a6], e3⟩
theorem l_c8 (hi : i + 6 ≤ L) (hL : L ≤ 3072) (h : Rel sx sm) : ∃ sx' sm', m_law_c8 xs L (nI i) sx sm = some (.inl (nI (i + 6), sx', sm')) ∧ Rel sx' sm' := by
  have c1 : ∀ {β : Type} (f : Int32 → Option β), sck xs L (nI i + 1) f = f (xs (i + 1)) := fun f => sc_at (d := 1) (by omega) hL f
  have c2 : ∀ {β : Type} (f : Int32 → Option β), sck xs L (nI i + 2) f = f (xs (i + 2)) := fun f => sc_at (d := 2) (by omega) hL f
  have c3 : ∀ {β : Type} (f : Int32 → Option β), sck xs L (nI i + 3) f = f (xs (i + 3)) := fun f => sc_at (d := 3) (by omega) hL f
  have c4 : ∀ {β : Type} (f : Int32 → Option β), sck xs L (nI i + 4) f = f (xs (i + 4)) := fun f => sc_at (d := 4) (by omega) hL f
  have c5 : ∀ {β : Type} (f : Int32 → Option β), sck xs L (nI i + 5) f = f (xs (i + 5)) := fun f => sc_at (d := 5) (by omega) hL f
  have a6 : nI i + 6 = nI (i + 6) := nI_add i 6
  have lg : ∀ a : Int64, lg_cmp a a = 0 := fun a => (lgc_eq a a).mpr rfl
  obtain ⟨r, sx', sm', e1, e2, e3⟩ := s_edge (xs (i + 1)) (xs (i + 2)) (xs (i + 3)) (xs (i + 4)) h
  exact ⟨sx', sm', by simp only [m_law_c8, c1, c2, c3, c4, c5, e1, clk_some, e2, if_true, lg, nmk, a6], e3⟩
theorem l_c9 (hi : i + 6 ≤ L) (hL : L ≤ 3072) (h : Rel sx sm) : ∃ sx' sm', m_law_c9 xs L (nI i) sx sm = some (.inl (nI (i + 6), sx', sm')) ∧ Rel sx' sm' := by
  have c1 : ∀ {β : Type} (f : Int32 → Option β), sck xs L (nI i + 1) f = f (xs (i + 1)) := fun f => sc_at (d := 1) (by omega) hL f
  have c2 : ∀ {β : Type} (f : Int32 → Option β), sck xs L (nI i + 2) f = f (xs (i + 2)) := fun f => sc_at (d := 2) (by omega) hL f
  have c3 : ∀ {β : Type} (f : Int32 → Option β), sck xs L (nI i + 3) f = f (xs (i + 3)) := fun f => sc_at (d := 3) (by omega) hL f
  have c4 : ∀ {β : Type} (f : Int32 → Option β), sck xs L (nI i + 4) f = f (xs (i + 4)) := fun f => sc_at (d := 4) (by omega) hL f
  have c5 : ∀ {β : Type} (f : Int32 → Option β), sck xs L (nI i + 5) f = f (xs (i + 5)) := fun f => sc_at (d := 5) (by omega) hL f
  have a6 : nI i + 6 = nI (i + 6) := nI_add i 6
  have lg : ∀ a : Int64, lg_cmp a a = 0 := fun a => (lgc_eq a a).mpr rfl
  obtain ⟨r, sx', sm', e1, e2, e3⟩ := s_undo  h
  exact ⟨sx', sm', by simp only [m_law_c9, c1, c2, c3, c4, c5, e1, clk_some, e2, if_true, lg, nmk, a6], e3⟩
theorem l_c10 (hi : i + 6 ≤ L) (hL : L ≤ 3072) (h : Rel sx sm) : ∃ sx' sm', m_law_c10 xs L (nI i) sx sm = some (.inl (nI (i + 6), sx', sm')) ∧ Rel sx' sm' := by
  have c1 : ∀ {β : Type} (f : Int32 → Option β), sck xs L (nI i + 1) f = f (xs (i + 1)) := fun f => sc_at (d := 1) (by omega) hL f
  have c2 : ∀ {β : Type} (f : Int32 → Option β), sck xs L (nI i + 2) f = f (xs (i + 2)) := fun f => sc_at (d := 2) (by omega) hL f
  have c3 : ∀ {β : Type} (f : Int32 → Option β), sck xs L (nI i + 3) f = f (xs (i + 3)) := fun f => sc_at (d := 3) (by omega) hL f
  have c4 : ∀ {β : Type} (f : Int32 → Option β), sck xs L (nI i + 4) f = f (xs (i + 4)) := fun f => sc_at (d := 4) (by omega) hL f
  have c5 : ∀ {β : Type} (f : Int32 → Option β), sck xs L (nI i + 5) f = f (xs (i + 5)) := fun f => sc_at (d := 5) (by omega) hL f
  have a6 : nI i + 6 = nI (i + 6) := nI_add i 6
  have lg : ∀ a : Int64, lg_cmp a a = 0 := fun a => (lgc_eq a a).mpr rfl
  obtain ⟨r, sx', sm', e1, e2, e3⟩ := s_act (xs (i + 1)) (xs (i + 2)) h
  exact ⟨sx', sm', by simp only [m_law_c10, c1, c2, c3, c4, c5, e1, clk_some, e2, if_true, lg, nmk, a6], e3⟩
theorem l_c11 (hi : i + 6 ≤ L) (hL : L ≤ 3072) (h : Rel sx sm) : ∃ sx' sm', m_law_c11 xs L (nI i) sx sm = some (.inl (nI (i + 6), sx', sm')) ∧ Rel sx' sm' := by
  have c1 : ∀ {β : Type} (f : Int32 → Option β), sck xs L (nI i + 1) f = f (xs (i + 1)) := fun f => sc_at (d := 1) (by omega) hL f
  have c2 : ∀ {β : Type} (f : Int32 → Option β), sck xs L (nI i + 2) f = f (xs (i + 2)) := fun f => sc_at (d := 2) (by omega) hL f
  have c3 : ∀ {β : Type} (f : Int32 → Option β), sck xs L (nI i + 3) f = f (xs (i + 3)) := fun f => sc_at (d := 3) (by omega) hL f
  have c4 : ∀ {β : Type} (f : Int32 → Option β), sck xs L (nI i + 4) f = f (xs (i + 4)) := fun f => sc_at (d := 4) (by omega) hL f
  have c5 : ∀ {β : Type} (f : Int32 → Option β), sck xs L (nI i + 5) f = f (xs (i + 5)) := fun f => sc_at (d := 5) (by omega) hL f
  have a6 : nI i + 6 = nI (i + 6) := nI_add i 6
  have lg : ∀ a : Int64, lg_cmp a a = 0 := fun a => (lgc_eq a a).mpr rfl
  obtain ⟨r, sx', sm', e1, e2, e3⟩ := s_number (xs (i + 1)) h
  exact ⟨sx', sm', by simp only [m_law_c11, c1, c2, c3, c4, c5, e1, clk_some, e2, if_true, lg, nmk, a6], e3⟩
theorem l_c12 (hi : i + 6 ≤ L) (hL : L ≤ 3072) (h : Rel sx sm) : ∃ sx' sm', m_law_c12 xs L (nI i) sx sm = some (.inl (nI (i + 6), sx', sm')) ∧ Rel sx' sm' := by
  have c1 : ∀ {β : Type} (f : Int32 → Option β), sck xs L (nI i + 1) f = f (xs (i + 1)) := fun f => sc_at (d := 1) (by omega) hL f
  have c2 : ∀ {β : Type} (f : Int32 → Option β), sck xs L (nI i + 2) f = f (xs (i + 2)) := fun f => sc_at (d := 2) (by omega) hL f
  have c3 : ∀ {β : Type} (f : Int32 → Option β), sck xs L (nI i + 3) f = f (xs (i + 3)) := fun f => sc_at (d := 3) (by omega) hL f
  have c4 : ∀ {β : Type} (f : Int32 → Option β), sck xs L (nI i + 4) f = f (xs (i + 4)) := fun f => sc_at (d := 4) (by omega) hL f
  have c5 : ∀ {β : Type} (f : Int32 → Option β), sck xs L (nI i + 5) f = f (xs (i + 5)) := fun f => sc_at (d := 5) (by omega) hL f
  have a6 : nI i + 6 = nI (i + 6) := nI_add i 6
  have lg : ∀ a : Int64, lg_cmp a a = 0 := fun a => (lgc_eq a a).mpr rfl
  obtain ⟨r, sx', sm', e1, e2, e3⟩ := s_count (xs (i + 1)) h
  exact ⟨sx', sm', by simp only [m_law_c12, c1, c2, c3, c4, c5, e1, clk_some, e2, if_true, lg, nmk, a6], e3⟩
theorem l_c13 (hi : i + 6 ≤ L) (hL : L ≤ 3072) (h : Rel sx sm) : ∃ sx' sm', m_law_c13 xs L (nI i) sx sm = some (.inl (nI (i + 6), sx', sm')) ∧ Rel sx' sm' := by
  have c1 : ∀ {β : Type} (f : Int32 → Option β), sck xs L (nI i + 1) f = f (xs (i + 1)) := fun f => sc_at (d := 1) (by omega) hL f
  have c2 : ∀ {β : Type} (f : Int32 → Option β), sck xs L (nI i + 2) f = f (xs (i + 2)) := fun f => sc_at (d := 2) (by omega) hL f
  have c3 : ∀ {β : Type} (f : Int32 → Option β), sck xs L (nI i + 3) f = f (xs (i + 3)) := fun f => sc_at (d := 3) (by omega) hL f
  have c4 : ∀ {β : Type} (f : Int32 → Option β), sck xs L (nI i + 4) f = f (xs (i + 4)) := fun f => sc_at (d := 4) (by omega) hL f
  have c5 : ∀ {β : Type} (f : Int32 → Option β), sck xs L (nI i + 5) f = f (xs (i + 5)) := fun f => sc_at (d := 5) (by omega) hL f
  have a6 : nI i + 6 = nI (i + 6) := nI_add i 6
  have lg : ∀ a : Int64, lg_cmp a a = 0 := fun a => (lgc_eq a a).mpr rfl
  obtain ⟨r, sx', sm', e1, e2, e3⟩ := s_whole  h
  exact ⟨sx', sm', by simp only [m_law_c13, c1, c2, c3, c4, c5, e1, clk_some, e2, if_true, lg, nmk, a6], e3⟩
theorem l_c14 (hi : i + 6 ≤ L) (hL : L ≤ 3072) (h : Rel sx sm) : ∃ sx' sm', m_law_c14 xs L (nI i) sx sm = some (.inl (nI (i + 6), sx', sm')) ∧ Rel sx' sm' := by
  have c1 : ∀ {β : Type} (f : Int32 → Option β), sck xs L (nI i + 1) f = f (xs (i + 1)) := fun f => sc_at (d := 1) (by omega) hL f
  have c2 : ∀ {β : Type} (f : Int32 → Option β), sck xs L (nI i + 2) f = f (xs (i + 2)) := fun f => sc_at (d := 2) (by omega) hL f
  have c3 : ∀ {β : Type} (f : Int32 → Option β), sck xs L (nI i + 3) f = f (xs (i + 3)) := fun f => sc_at (d := 3) (by omega) hL f
  have c4 : ∀ {β : Type} (f : Int32 → Option β), sck xs L (nI i + 4) f = f (xs (i + 4)) := fun f => sc_at (d := 4) (by omega) hL f
  have c5 : ∀ {β : Type} (f : Int32 → Option β), sck xs L (nI i + 5) f = f (xs (i + 5)) := fun f => sc_at (d := 5) (by omega) hL f
  have a6 : nI i + 6 = nI (i + 6) := nI_add i 6
  have lg : ∀ a : Int64, lg_cmp a a = 0 := fun a => (lgc_eq a a).mpr rfl
  by_cases z : xs (i + 3) = 0
  · obtain ⟨r, sx', sm', e1, e2, e3⟩ := s_row (xs (i + 1)) (xs (i + 2)) 0 (Or.inl rfl) h
    exact ⟨sx', sm', by simp only [m_law_c14, c1, c2, c3, c4, c5, e1, clk_some, e2, if_true, lg, nmk, a6, if_pos z], e3⟩
  · obtain ⟨r, sx', sm', e1, e2, e3⟩ := s_row (xs (i + 1)) (xs (i + 2)) 1 (Or.inr rfl) h
    exact ⟨sx', sm', by simp only [m_law_c14, c1, c2, c3, c4, c5, e1, clk_some, e2, if_true, lg, nmk, a6, if_neg z], e3⟩
theorem l_c15 (hi : i + 6 ≤ L) (hL : L ≤ 3072) (h : Rel sx sm) : ∃ sx' sm', m_law_c15 xs L (nI i) sx sm = some (.inl (nI (i + 6), sx', sm')) ∧ Rel sx' sm' := by
  have c1 : ∀ {β : Type} (f : Int32 → Option β), sck xs L (nI i + 1) f = f (xs (i + 1)) := fun f => sc_at (d := 1) (by omega) hL f
  have c2 : ∀ {β : Type} (f : Int32 → Option β), sck xs L (nI i + 2) f = f (xs (i + 2)) := fun f => sc_at (d := 2) (by omega) hL f
  have c3 : ∀ {β : Type} (f : Int32 → Option β), sck xs L (nI i + 3) f = f (xs (i + 3)) := fun f => sc_at (d := 3) (by omega) hL f
  have c4 : ∀ {β : Type} (f : Int32 → Option β), sck xs L (nI i + 4) f = f (xs (i + 4)) := fun f => sc_at (d := 4) (by omega) hL f
  have c5 : ∀ {β : Type} (f : Int32 → Option β), sck xs L (nI i + 5) f = f (xs (i + 5)) := fun f => sc_at (d := 5) (by omega) hL f
  have a6 : nI i + 6 = nI (i + 6) := nI_add i 6
  have lg : ∀ a : Int64, lg_cmp a a = 0 := fun a => (lgc_eq a a).mpr rfl
  obtain ⟨r, sx', sm', e1, e2, e3⟩ := s_empty (xs (i + 1)) h
  exact ⟨sx', sm', by simp only [m_law_c15, c1, c2, c3, c4, c5, e1, clk_some, e2, if_true, lg, nmk, a6], e3⟩
theorem l_c16 (hi : i + 6 ≤ L) (hL : L ≤ 3072) (h : Rel sx sm) : ∃ sx' sm', m_law_c16 xs L (nI i) sx sm = some (.inl (nI (i + 6), sx', sm')) ∧ Rel sx' sm' := by
  have c1 : ∀ {β : Type} (f : Int32 → Option β), sck xs L (nI i + 1) f = f (xs (i + 1)) := fun f => sc_at (d := 1) (by omega) hL f
  have c2 : ∀ {β : Type} (f : Int32 → Option β), sck xs L (nI i + 2) f = f (xs (i + 2)) := fun f => sc_at (d := 2) (by omega) hL f
  have c3 : ∀ {β : Type} (f : Int32 → Option β), sck xs L (nI i + 3) f = f (xs (i + 3)) := fun f => sc_at (d := 3) (by omega) hL f
  have c4 : ∀ {β : Type} (f : Int32 → Option β), sck xs L (nI i + 4) f = f (xs (i + 4)) := fun f => sc_at (d := 4) (by omega) hL f
  have c5 : ∀ {β : Type} (f : Int32 → Option β), sck xs L (nI i + 5) f = f (xs (i + 5)) := fun f => sc_at (d := 5) (by omega) hL f
  have a6 : nI i + 6 = nI (i + 6) := nI_add i 6
  have lg : ∀ a : Int64, lg_cmp a a = 0 := fun a => (lgc_eq a a).mpr rfl
  obtain ⟨r, sx', sm', e1, e2, e3⟩ := s_set (xs (i + 1)) (xs (i + 2)) (((((xs (i + 3)) : Int32).toInt64) <<< ((32 : Int32).toInt64 &&& 63)) ||| ((((xs (i + 4)) : Int32).toInt64) &&& 4294967295)) h
  exact ⟨sx', sm', by simp only [m_law_c16, c1, c2, c3, c4, c5, e1, clk_some, e2, if_true, lg, nmk, a6], e3⟩
theorem l_c17 (hi : i + 6 ≤ L) (hL : L ≤ 3072) (h : Rel sx sm) : ∃ sx' sm', m_law_c17 xs L (nI i) sx sm = some (.inl (nI (i + 6), sx', sm')) ∧ Rel sx' sm' := by
  have c1 : ∀ {β : Type} (f : Int32 → Option β), sck xs L (nI i + 1) f = f (xs (i + 1)) := fun f => sc_at (d := 1) (by omega) hL f
  have c2 : ∀ {β : Type} (f : Int32 → Option β), sck xs L (nI i + 2) f = f (xs (i + 2)) := fun f => sc_at (d := 2) (by omega) hL f
  have c3 : ∀ {β : Type} (f : Int32 → Option β), sck xs L (nI i + 3) f = f (xs (i + 3)) := fun f => sc_at (d := 3) (by omega) hL f
  have c4 : ∀ {β : Type} (f : Int32 → Option β), sck xs L (nI i + 4) f = f (xs (i + 4)) := fun f => sc_at (d := 4) (by omega) hL f
  have c5 : ∀ {β : Type} (f : Int32 → Option β), sck xs L (nI i + 5) f = f (xs (i + 5)) := fun f => sc_at (d := 5) (by omega) hL f
  have a6 : nI i + 6 = nI (i + 6) := nI_add i 6
  have lg : ∀ a : Int64, lg_cmp a a = 0 := fun a => (lgc_eq a a).mpr rfl
  obtain ⟨r, sx', sm', e1, e2, e3⟩ := s_get (xs (i + 1)) (xs (i + 2)) h
  exact ⟨sx', sm', by simp only [m_law_c17, c1, c2, c3, c4, c5, e1, clk_some, e2, if_true, lg, nmk, a6], e3⟩
theorem l_c18 (hi : i + 6 ≤ L) (hL : L ≤ 3072) (h : Rel sx sm) : ∃ sx' sm', m_law_c18 xs L (nI i) sx sm = some (.inl (nI (i + 6), sx', sm')) ∧ Rel sx' sm' := by
  have c1 : ∀ {β : Type} (f : Int32 → Option β), sck xs L (nI i + 1) f = f (xs (i + 1)) := fun f => sc_at (d := 1) (by omega) hL f
  have c2 : ∀ {β : Type} (f : Int32 → Option β), sck xs L (nI i + 2) f = f (xs (i + 2)) := fun f => sc_at (d := 2) (by omega) hL f
  have c3 : ∀ {β : Type} (f : Int32 → Option β), sck xs L (nI i + 3) f = f (xs (i + 3)) := fun f => sc_at (d := 3) (by omega) hL f
  have c4 : ∀ {β : Type} (f : Int32 → Option β), sck xs L (nI i + 4) f = f (xs (i + 4)) := fun f => sc_at (d := 4) (by omega) hL f
  have c5 : ∀ {β : Type} (f : Int32 → Option β), sck xs L (nI i + 5) f = f (xs (i + 5)) := fun f => sc_at (d := 5) (by omega) hL f
  have a6 : nI i + 6 = nI (i + 6) := nI_add i 6
  have lg : ∀ a : Int64, lg_cmp a a = 0 := fun a => (lgc_eq a a).mpr rfl
  obtain ⟨r, sx', sm', e1, e2, e3⟩ := s_copy (xs (i + 1)) (xs (i + 2)) (xs (i + 3)) (xs (i + 4)) (xs (i + 5)) h
  exact ⟨sx', sm', by simp only [m_law_c18, c1, c2, c3, c4, c5, e1, clk_some, e2, if_true, lg, nmk, a6], e3⟩
theorem l_c19 (hi : i + 6 ≤ L) (hL : L ≤ 3072) (h : Rel sx sm) : ∃ sx' sm', m_law_c19 xs L (nI i) sx sm = some (.inl (nI (i + 6), sx', sm')) ∧ Rel sx' sm' := by
  have c1 : ∀ {β : Type} (f : Int32 → Option β), sck xs L (nI i + 1) f = f (xs (i + 1)) := fun f => sc_at (d := 1) (by omega) hL f
  have c2 : ∀ {β : Type} (f : Int32 → Option β), sck xs L (nI i + 2) f = f (xs (i + 2)) := fun f => sc_at (d := 2) (by omega) hL f
  have c3 : ∀ {β : Type} (f : Int32 → Option β), sck xs L (nI i + 3) f = f (xs (i + 3)) := fun f => sc_at (d := 3) (by omega) hL f
  have c4 : ∀ {β : Type} (f : Int32 → Option β), sck xs L (nI i + 4) f = f (xs (i + 4)) := fun f => sc_at (d := 4) (by omega) hL f
  have c5 : ∀ {β : Type} (f : Int32 → Option β), sck xs L (nI i + 5) f = f (xs (i + 5)) := fun f => sc_at (d := 5) (by omega) hL f
  have a6 : nI i + 6 = nI (i + 6) := nI_add i 6
  have lg : ∀ a : Int64, lg_cmp a a = 0 := fun a => (lgc_eq a a).mpr rfl
  obtain ⟨r, sx', sm', e1, e2, e3⟩ := s_lowest  h
  exact ⟨sx', sm', by simp only [m_law_c19, c1, c2, c3, c4, c5, e1, clk_some, e2, if_true, lg, nmk, a6], e3⟩
theorem l_c20 (hi : i + 6 ≤ L) (hL : L ≤ 3072) (h : Rel sx sm) : ∃ sx' sm', m_law_c20 xs L (nI i) sx sm = some (.inl (nI (i + 6), sx', sm')) ∧ Rel sx' sm' := by
  have c1 : ∀ {β : Type} (f : Int32 → Option β), sck xs L (nI i + 1) f = f (xs (i + 1)) := fun f => sc_at (d := 1) (by omega) hL f
  have c2 : ∀ {β : Type} (f : Int32 → Option β), sck xs L (nI i + 2) f = f (xs (i + 2)) := fun f => sc_at (d := 2) (by omega) hL f
  have c3 : ∀ {β : Type} (f : Int32 → Option β), sck xs L (nI i + 3) f = f (xs (i + 3)) := fun f => sc_at (d := 3) (by omega) hL f
  have c4 : ∀ {β : Type} (f : Int32 → Option β), sck xs L (nI i + 4) f = f (xs (i + 4)) := fun f => sc_at (d := 4) (by omega) hL f
  have c5 : ∀ {β : Type} (f : Int32 → Option β), sck xs L (nI i + 5) f = f (xs (i + 5)) := fun f => sc_at (d := 5) (by omega) hL f
  have a6 : nI i + 6 = nI (i + 6) := nI_add i 6
  have lg : ∀ a : Int64, lg_cmp a a = 0 := fun a => (lgc_eq a a).mpr rfl
  obtain ⟨r, sx', sm', e1, e2, e3⟩ := s_lay  h
  exact ⟨sx', sm', by simp only [m_law_c20, c1, c2, c3, c4, c5, e1, clk_some, e2, if_true, lg, nmk, a6], e3⟩
theorem l_c21 (hi : i + 6 ≤ L) (hL : L ≤ 3072) (h : Rel sx sm) : ∃ sx' sm', m_law_c21 xs L (nI i) sx sm = some (.inl (nI (i + 6), sx', sm')) ∧ Rel sx' sm' := by
  have c1 : ∀ {β : Type} (f : Int32 → Option β), sck xs L (nI i + 1) f = f (xs (i + 1)) := fun f => sc_at (d := 1) (by omega) hL f
  have c2 : ∀ {β : Type} (f : Int32 → Option β), sck xs L (nI i + 2) f = f (xs (i + 2)) := fun f => sc_at (d := 2) (by omega) hL f
  have c3 : ∀ {β : Type} (f : Int32 → Option β), sck xs L (nI i + 3) f = f (xs (i + 3)) := fun f => sc_at (d := 3) (by omega) hL f
  have c4 : ∀ {β : Type} (f : Int32 → Option β), sck xs L (nI i + 4) f = f (xs (i + 4)) := fun f => sc_at (d := 4) (by omega) hL f
  have c5 : ∀ {β : Type} (f : Int32 → Option β), sck xs L (nI i + 5) f = f (xs (i + 5)) := fun f => sc_at (d := 5) (by omega) hL f
  have a6 : nI i + 6 = nI (i + 6) := nI_add i 6
  have lg : ∀ a : Int64, lg_cmp a a = 0 := fun a => (lgc_eq a a).mpr rfl
  obtain ⟨r, sx', sm', e1, e2, e3⟩ := s_prove (xs (i + 1)) h
  exact ⟨sx', sm', by simp only [m_law_c21, c1, c2, c3, c4, c5, e1, clk_some, e2, if_true, lg, nmk, a6], e3⟩
theorem l_c22 (hi : i + 6 ≤ L) (hL : L ≤ 3072) (h : Rel sx sm) : ∃ sx' sm', m_law_c22 xs L (nI i) sx sm = some (.inl (nI (i + 6), sx', sm')) ∧ Rel sx' sm' := by
  have c1 : ∀ {β : Type} (f : Int32 → Option β), sck xs L (nI i + 1) f = f (xs (i + 1)) := fun f => sc_at (d := 1) (by omega) hL f
  have c2 : ∀ {β : Type} (f : Int32 → Option β), sck xs L (nI i + 2) f = f (xs (i + 2)) := fun f => sc_at (d := 2) (by omega) hL f
  have c3 : ∀ {β : Type} (f : Int32 → Option β), sck xs L (nI i + 3) f = f (xs (i + 3)) := fun f => sc_at (d := 3) (by omega) hL f
  have c4 : ∀ {β : Type} (f : Int32 → Option β), sck xs L (nI i + 4) f = f (xs (i + 4)) := fun f => sc_at (d := 4) (by omega) hL f
  have c5 : ∀ {β : Type} (f : Int32 → Option β), sck xs L (nI i + 5) f = f (xs (i + 5)) := fun f => sc_at (d := 5) (by omega) hL f
  have a6 : nI i + 6 = nI (i + 6) := nI_add i 6
  have lg : ∀ a : Int64, lg_cmp a a = 0 := fun a => (lgc_eq a a).mpr rfl
  obtain ⟨r, sx', sm', e1, e2, e3⟩ := s_trials  h
  exact ⟨sx', sm', by simp only [m_law_c22, c1, c2, c3, c4, c5, e1, clk_some, e2, if_true, lg, nmk, a6], e3⟩
theorem l_c23 (hi : i + 6 ≤ L) (hL : L ≤ 3072) (h : Rel sx sm) : ∃ sx' sm', m_law_c23 xs L (nI i) sx sm = some (.inl (nI (i + 6), sx', sm')) ∧ Rel sx' sm' := by
  have c1 : ∀ {β : Type} (f : Int32 → Option β), sck xs L (nI i + 1) f = f (xs (i + 1)) := fun f => sc_at (d := 1) (by omega) hL f
  have c2 : ∀ {β : Type} (f : Int32 → Option β), sck xs L (nI i + 2) f = f (xs (i + 2)) := fun f => sc_at (d := 2) (by omega) hL f
  have c3 : ∀ {β : Type} (f : Int32 → Option β), sck xs L (nI i + 3) f = f (xs (i + 3)) := fun f => sc_at (d := 3) (by omega) hL f
  have c4 : ∀ {β : Type} (f : Int32 → Option β), sck xs L (nI i + 4) f = f (xs (i + 4)) := fun f => sc_at (d := 4) (by omega) hL f
  have c5 : ∀ {β : Type} (f : Int32 → Option β), sck xs L (nI i + 5) f = f (xs (i + 5)) := fun f => sc_at (d := 5) (by omega) hL f
  have a6 : nI i + 6 = nI (i + 6) := nI_add i 6
  have lg : ∀ a : Int64, lg_cmp a a = 0 := fun a => (lgc_eq a a).mpr rfl
  obtain ⟨r, sx', sm', e1, e2, e3⟩ := s_laying (xs (i + 1)) h
  exact ⟨sx', sm', by simp only [m_law_c23, c1, c2, c3, c4, c5, e1, clk_some, e2, if_true, lg, nmk, a6], e3⟩
theorem l_c24 (hi : i + 6 ≤ L) (hL : L ≤ 3072) (h : Rel sx sm) : ∃ sx' sm', m_law_c24 xs L (nI i) sx sm = some (.inl (nI (i + 6), sx', sm')) ∧ Rel sx' sm' := by
  have c1 : ∀ {β : Type} (f : Int32 → Option β), sck xs L (nI i + 1) f = f (xs (i + 1)) := fun f => sc_at (d := 1) (by omega) hL f
  have c2 : ∀ {β : Type} (f : Int32 → Option β), sck xs L (nI i + 2) f = f (xs (i + 2)) := fun f => sc_at (d := 2) (by omega) hL f
  have c3 : ∀ {β : Type} (f : Int32 → Option β), sck xs L (nI i + 3) f = f (xs (i + 3)) := fun f => sc_at (d := 3) (by omega) hL f
  have c4 : ∀ {β : Type} (f : Int32 → Option β), sck xs L (nI i + 4) f = f (xs (i + 4)) := fun f => sc_at (d := 4) (by omega) hL f
  have c5 : ∀ {β : Type} (f : Int32 → Option β), sck xs L (nI i + 5) f = f (xs (i + 5)) := fun f => sc_at (d := 5) (by omega) hL f
  have a6 : nI i + 6 = nI (i + 6) := nI_add i 6
  have lg : ∀ a : Int64, lg_cmp a a = 0 := fun a => (lgc_eq a a).mpr rfl
  obtain ⟨r, sx', sm', e1, e2, e3⟩ := s_tick (xs (i + 1)) (xs (i + 2)) h
  exact ⟨sx', sm', by simp only [m_law_c24, c1, c2, c3, c4, c5, e1, clk_some, e2, if_true, lg, nmk, a6], e3⟩
theorem l_c25 (hi : i + 6 ≤ L) (hL : L ≤ 3072) (h : Rel sx sm) : ∃ sx' sm', m_law_c25 xs L (nI i) sx sm = some (.inl (nI (i + 6), sx', sm')) ∧ Rel sx' sm' := by
  have c1 : ∀ {β : Type} (f : Int32 → Option β), sck xs L (nI i + 1) f = f (xs (i + 1)) := fun f => sc_at (d := 1) (by omega) hL f
  have c2 : ∀ {β : Type} (f : Int32 → Option β), sck xs L (nI i + 2) f = f (xs (i + 2)) := fun f => sc_at (d := 2) (by omega) hL f
  have c3 : ∀ {β : Type} (f : Int32 → Option β), sck xs L (nI i + 3) f = f (xs (i + 3)) := fun f => sc_at (d := 3) (by omega) hL f
  have c4 : ∀ {β : Type} (f : Int32 → Option β), sck xs L (nI i + 4) f = f (xs (i + 4)) := fun f => sc_at (d := 4) (by omega) hL f
  have c5 : ∀ {β : Type} (f : Int32 → Option β), sck xs L (nI i + 5) f = f (xs (i + 5)) := fun f => sc_at (d := 5) (by omega) hL f
  have a6 : nI i + 6 = nI (i + 6) := nI_add i 6
  have lg : ∀ a : Int64, lg_cmp a a = 0 := fun a => (lgc_eq a a).mpr rfl
  obtain ⟨r, sx', sm', e1, e2, e3⟩ := s_filled (xs (i + 1)) (xs (i + 2)) h
  exact ⟨sx', sm', by simp only [m_law_c25, c1, c2, c3, c4, c5, e1, clk_some, e2, if_true, lg, nmk, a6], e3⟩
theorem l_c26 (hi : i + 6 ≤ L) (hL : L ≤ 3072) (h : Rel sx sm) : ∃ sx' sm', m_law_c26 xs L (nI i) sx sm = some (.inl (nI (i + 6), sx', sm')) ∧ Rel sx' sm' := by
  have c1 : ∀ {β : Type} (f : Int32 → Option β), sck xs L (nI i + 1) f = f (xs (i + 1)) := fun f => sc_at (d := 1) (by omega) hL f
  have c2 : ∀ {β : Type} (f : Int32 → Option β), sck xs L (nI i + 2) f = f (xs (i + 2)) := fun f => sc_at (d := 2) (by omega) hL f
  have c3 : ∀ {β : Type} (f : Int32 → Option β), sck xs L (nI i + 3) f = f (xs (i + 3)) := fun f => sc_at (d := 3) (by omega) hL f
  have c4 : ∀ {β : Type} (f : Int32 → Option β), sck xs L (nI i + 4) f = f (xs (i + 4)) := fun f => sc_at (d := 4) (by omega) hL f
  have c5 : ∀ {β : Type} (f : Int32 → Option β), sck xs L (nI i + 5) f = f (xs (i + 5)) := fun f => sc_at (d := 5) (by omega) hL f
  have a6 : nI i + 6 = nI (i + 6) := nI_add i 6
  have lg : ∀ a : Int64, lg_cmp a a = 0 := fun a => (lgc_eq a a).mpr rfl
  obtain ⟨r, sx', sm', e1, e2, e3⟩ := s_names (xs (i + 1)) h
  exact ⟨sx', sm', by simp only [m_law_c26, c1, c2, c3, c4, c5, e1, clk_some, e2, if_true, lg, nmk, a6], e3⟩
theorem l_c27 (hi : i + 6 ≤ L) (hL : L ≤ 3072) (h : Rel sx sm) : ∃ sx' sm', m_law_c27 xs L (nI i) sx sm = some (.inl (nI (i + 6), sx', sm')) ∧ Rel sx' sm' := by
  have c1 : ∀ {β : Type} (f : Int32 → Option β), sck xs L (nI i + 1) f = f (xs (i + 1)) := fun f => sc_at (d := 1) (by omega) hL f
  have c2 : ∀ {β : Type} (f : Int32 → Option β), sck xs L (nI i + 2) f = f (xs (i + 2)) := fun f => sc_at (d := 2) (by omega) hL f
  have c3 : ∀ {β : Type} (f : Int32 → Option β), sck xs L (nI i + 3) f = f (xs (i + 3)) := fun f => sc_at (d := 3) (by omega) hL f
  have c4 : ∀ {β : Type} (f : Int32 → Option β), sck xs L (nI i + 4) f = f (xs (i + 4)) := fun f => sc_at (d := 4) (by omega) hL f
  have c5 : ∀ {β : Type} (f : Int32 → Option β), sck xs L (nI i + 5) f = f (xs (i + 5)) := fun f => sc_at (d := 5) (by omega) hL f
  have a6 : nI i + 6 = nI (i + 6) := nI_add i 6
  have lg : ∀ a : Int64, lg_cmp a a = 0 := fun a => (lgc_eq a a).mpr rfl
  obtain ⟨r, sx', sm', e1, e2, e3⟩ := s_fewest (xs (i + 1)) h
  exact ⟨sx', sm', by simp only [m_law_c27, c1, c2, c3, c4, c5, e1, clk_some, e2, if_true, lg, nmk, a6], e3⟩
theorem l_c28 (hi : i + 6 ≤ L) (hL : L ≤ 3072) (h : Rel sx sm) : ∃ sx' sm', m_law_c28 xs L (nI i) sx sm = some (.inl (nI (i + 6), sx', sm')) ∧ Rel sx' sm' := by
  have c1 : ∀ {β : Type} (f : Int32 → Option β), sck xs L (nI i + 1) f = f (xs (i + 1)) := fun f => sc_at (d := 1) (by omega) hL f
  have c2 : ∀ {β : Type} (f : Int32 → Option β), sck xs L (nI i + 2) f = f (xs (i + 2)) := fun f => sc_at (d := 2) (by omega) hL f
  have c3 : ∀ {β : Type} (f : Int32 → Option β), sck xs L (nI i + 3) f = f (xs (i + 3)) := fun f => sc_at (d := 3) (by omega) hL f
  have c4 : ∀ {β : Type} (f : Int32 → Option β), sck xs L (nI i + 4) f = f (xs (i + 4)) := fun f => sc_at (d := 4) (by omega) hL f
  have c5 : ∀ {β : Type} (f : Int32 → Option β), sck xs L (nI i + 5) f = f (xs (i + 5)) := fun f => sc_at (d := 5) (by omega) hL f
  have a6 : nI i + 6 = nI (i + 6) := nI_add i 6
  have lg : ∀ a : Int64, lg_cmp a a = 0 := fun a => (lgc_eq a a).mpr rfl
  obtain ⟨r, sx', sm', e1, e2, e3⟩ := s_forge (xs (i + 1)) (xs (i + 2)) h
  exact ⟨sx', sm', by simp only [m_law_c28, c1, c2, c3, c4, c5, e1, clk_some, e2, if_true, lg, nmk, a6], e3⟩
theorem l_c29 (hi : i + 6 ≤ L) (hL : L ≤ 3072) (h : Rel sx sm) : ∃ sx' sm', m_law_c29 xs L (nI i) sx sm = some (.inl (nI (i + 6), sx', sm')) ∧ Rel sx' sm' := by
  have c1 : ∀ {β : Type} (f : Int32 → Option β), sck xs L (nI i + 1) f = f (xs (i + 1)) := fun f => sc_at (d := 1) (by omega) hL f
  have c2 : ∀ {β : Type} (f : Int32 → Option β), sck xs L (nI i + 2) f = f (xs (i + 2)) := fun f => sc_at (d := 2) (by omega) hL f
  have c3 : ∀ {β : Type} (f : Int32 → Option β), sck xs L (nI i + 3) f = f (xs (i + 3)) := fun f => sc_at (d := 3) (by omega) hL f
  have c4 : ∀ {β : Type} (f : Int32 → Option β), sck xs L (nI i + 4) f = f (xs (i + 4)) := fun f => sc_at (d := 4) (by omega) hL f
  have c5 : ∀ {β : Type} (f : Int32 → Option β), sck xs L (nI i + 5) f = f (xs (i + 5)) := fun f => sc_at (d := 5) (by omega) hL f
  have a6 : nI i + 6 = nI (i + 6) := nI_add i 6
  have lg : ∀ a : Int64, lg_cmp a a = 0 := fun a => (lgc_eq a a).mpr rfl
  obtain ⟨r, sx', sm', e1, e2, e3⟩ := s_check  h
  exact ⟨sx', sm', by simp only [m_law_c29, c1, c2, c3, c4, c5, e1, clk_some, e2, if_true, lg, nmk, a6], e3⟩
theorem l_c30 (hi : i + 6 ≤ L) (hL : L ≤ 3072) (h : Rel sx sm) : ∃ sx' sm', m_law_c30 xs L (nI i) sx sm = some (.inl (nI (i + 6), sx', sm')) ∧ Rel sx' sm' := by
  have c1 : ∀ {β : Type} (f : Int32 → Option β), sck xs L (nI i + 1) f = f (xs (i + 1)) := fun f => sc_at (d := 1) (by omega) hL f
  have c2 : ∀ {β : Type} (f : Int32 → Option β), sck xs L (nI i + 2) f = f (xs (i + 2)) := fun f => sc_at (d := 2) (by omega) hL f
  have c3 : ∀ {β : Type} (f : Int32 → Option β), sck xs L (nI i + 3) f = f (xs (i + 3)) := fun f => sc_at (d := 3) (by omega) hL f
  have c4 : ∀ {β : Type} (f : Int32 → Option β), sck xs L (nI i + 4) f = f (xs (i + 4)) := fun f => sc_at (d := 4) (by omega) hL f
  have c5 : ∀ {β : Type} (f : Int32 → Option β), sck xs L (nI i + 5) f = f (xs (i + 5)) := fun f => sc_at (d := 5) (by omega) hL f
  have a6 : nI i + 6 = nI (i + 6) := nI_add i 6
  have lg : ∀ a : Int64, lg_cmp a a = 0 := fun a => (lgc_eq a a).mpr rfl
  obtain ⟨r, sx', sm', e1, e2, e3⟩ := s_wrong (xs (i + 1)) h
  exact ⟨sx', sm', by simp only [m_law_c30, c1, c2, c3, c4, c5, e1, clk_some, e2, if_true, lg, nmk, a6], e3⟩
theorem l_c31 (hi : i + 6 ≤ L) (hL : L ≤ 3072) (h : Rel sx sm) : ∃ sx' sm', m_law_c31 xs L (nI i) sx sm = some (.inl (nI (i + 6), sx', sm')) ∧ Rel sx' sm' := by
  have c1 : ∀ {β : Type} (f : Int32 → Option β), sck xs L (nI i + 1) f = f (xs (i + 1)) := fun f => sc_at (d := 1) (by omega) hL f
  have c2 : ∀ {β : Type} (f : Int32 → Option β), sck xs L (nI i + 2) f = f (xs (i + 2)) := fun f => sc_at (d := 2) (by omega) hL f
  have c3 : ∀ {β : Type} (f : Int32 → Option β), sck xs L (nI i + 3) f = f (xs (i + 3)) := fun f => sc_at (d := 3) (by omega) hL f
  have c4 : ∀ {β : Type} (f : Int32 → Option β), sck xs L (nI i + 4) f = f (xs (i + 4)) := fun f => sc_at (d := 4) (by omega) hL f
  have c5 : ∀ {β : Type} (f : Int32 → Option β), sck xs L (nI i + 5) f = f (xs (i + 5)) := fun f => sc_at (d := 5) (by omega) hL f
  have a6 : nI i + 6 = nI (i + 6) := nI_add i 6
  have lg : ∀ a : Int64, lg_cmp a a = 0 := fun a => (lgc_eq a a).mpr rfl
  by_cases z : xs (i + 2) = 0
  · obtain ⟨r, sx', sm', e1, e2, e3⟩ := s_run (xs (i + 1)) 0 h
    exact ⟨sx', sm', by simp only [m_law_c31, c1, c2, c3, c4, c5, e1, clk_some, e2, if_true, lg, nmk, a6, if_pos z], e3⟩
  · obtain ⟨r, sx', sm', e1, e2, e3⟩ := s_run (xs (i + 1)) 1 h
    exact ⟨sx', sm', by simp only [m_law_c31, c1, c2, c3, c4, c5, e1, clk_some, e2, if_true, lg, nmk, a6, if_neg z], e3⟩
theorem l_c32 (hi : i + 6 ≤ L) (hL : L ≤ 3072) (hcmp : ∀ (K : Int32) (sx sm : Sg), Rel sx sm → Sim (m_X11_compare K sx) (m_X12_compare K sm)) (h : Rel sx sm) : ∃ sx' sm', m_law_c32 xs L (nI i) sx sm = some (.inl (nI (i + 6), sx', sm')) ∧ Rel sx' sm' := by
  have c1 : ∀ {β : Type} (f : Int32 → Option β), sck xs L (nI i + 1) f = f (xs (i + 1)) := fun f => sc_at (d := 1) (by omega) hL f
  have c2 : ∀ {β : Type} (f : Int32 → Option β), sck xs L (nI i + 2) f = f (xs (i + 2)) := fun f => sc_at (d := 2) (by omega) hL f
  have c3 : ∀ {β : Type} (f : Int32 → Option β), sck xs L (nI i + 3) f = f (xs (i + 3)) := fun f => sc_at (d := 3) (by omega) hL f
  have c4 : ∀ {β : Type} (f : Int32 → Option β), sck xs L (nI i + 4) f = f (xs (i + 4)) := fun f => sc_at (d := 4) (by omega) hL f
  have c5 : ∀ {β : Type} (f : Int32 → Option β), sck xs L (nI i + 5) f = f (xs (i + 5)) := fun f => sc_at (d := 5) (by omega) hL f
  have a6 : nI i + 6 = nI (i + 6) := nI_add i 6
  have lg : ∀ a : Int64, lg_cmp a a = 0 := fun a => (lgc_eq a a).mpr rfl
  obtain ⟨r, sx', sm', e1, e2, e3⟩ := hcmp (xs (i + 1)) sx sm h
  exact ⟨sx', sm', by simp only [m_law_c32, c1, c2, c3, c4, c5, e1, clk_some, e2, if_true, lg, nmk, a6], e3⟩
theorem l_c33 (hi : i + 6 ≤ L) (hL : L ≤ 3072) (h : Rel sx sm) : ∃ sx' sm', m_law_c33 xs L (nI i) sx sm = some (.inl (nI (i + 6), sx', sm')) ∧ Rel sx' sm' := by
  have c1 : ∀ {β : Type} (f : Int32 → Option β), sck xs L (nI i + 1) f = f (xs (i + 1)) := fun f => sc_at (d := 1) (by omega) hL f
  have c2 : ∀ {β : Type} (f : Int32 → Option β), sck xs L (nI i + 2) f = f (xs (i + 2)) := fun f => sc_at (d := 2) (by omega) hL f
  have c3 : ∀ {β : Type} (f : Int32 → Option β), sck xs L (nI i + 3) f = f (xs (i + 3)) := fun f => sc_at (d := 3) (by omega) hL f
  have c4 : ∀ {β : Type} (f : Int32 → Option β), sck xs L (nI i + 4) f = f (xs (i + 4)) := fun f => sc_at (d := 4) (by omega) hL f
  have c5 : ∀ {β : Type} (f : Int32 → Option β), sck xs L (nI i + 5) f = f (xs (i + 5)) := fun f => sc_at (d := 5) (by omega) hL f
  have a6 : nI i + 6 = nI (i + 6) := nI_add i 6
  have lg : ∀ a : Int64, lg_cmp a a = 0 := fun a => (lgc_eq a a).mpr rfl
  obtain ⟨r, sx', sm', e1, e2, e3⟩ := s_told (xs (i + 1)) h
  exact ⟨sx', sm', by simp only [m_law_c33, c1, c2, c3, c4, c5, e1, clk_some, e2, if_true, lg, nmk, a6], e3⟩
theorem l_c34 (hi : i + 6 ≤ L) (hL : L ≤ 3072) (h : Rel sx sm) : ∃ sx' sm', m_law_c34 xs L (nI i) sx sm = some (.inl (nI (i + 6), sx', sm')) ∧ Rel sx' sm' := by
  have c1 : ∀ {β : Type} (f : Int32 → Option β), sck xs L (nI i + 1) f = f (xs (i + 1)) := fun f => sc_at (d := 1) (by omega) hL f
  have c2 : ∀ {β : Type} (f : Int32 → Option β), sck xs L (nI i + 2) f = f (xs (i + 2)) := fun f => sc_at (d := 2) (by omega) hL f
  have c3 : ∀ {β : Type} (f : Int32 → Option β), sck xs L (nI i + 3) f = f (xs (i + 3)) := fun f => sc_at (d := 3) (by omega) hL f
  have c4 : ∀ {β : Type} (f : Int32 → Option β), sck xs L (nI i + 4) f = f (xs (i + 4)) := fun f => sc_at (d := 4) (by omega) hL f
  have c5 : ∀ {β : Type} (f : Int32 → Option β), sck xs L (nI i + 5) f = f (xs (i + 5)) := fun f => sc_at (d := 5) (by omega) hL f
  have a6 : nI i + 6 = nI (i + 6) := nI_add i 6
  have lg : ∀ a : Int64, lg_cmp a a = 0 := fun a => (lgc_eq a a).mpr rfl
  obtain ⟨r, sx', sm', e1, e2, e3⟩ := s_end (xs (i + 1)) h
  exact ⟨sx', sm', by simp only [m_law_c34, c1, c2, c3, c4, c5, e1, clk_some, e2, if_true, lg, nmk, a6], e3⟩
theorem l_c35 (hi : i + 6 ≤ L) (hL : L ≤ 3072) (h : Rel sx sm) : ∃ sx' sm', m_law_c35 xs L (nI i) sx sm = some (.inl (nI (i + 6), sx', sm')) ∧ Rel sx' sm' := by
  have c1 : ∀ {β : Type} (f : Int32 → Option β), sck xs L (nI i + 1) f = f (xs (i + 1)) := fun f => sc_at (d := 1) (by omega) hL f
  have c2 : ∀ {β : Type} (f : Int32 → Option β), sck xs L (nI i + 2) f = f (xs (i + 2)) := fun f => sc_at (d := 2) (by omega) hL f
  have c3 : ∀ {β : Type} (f : Int32 → Option β), sck xs L (nI i + 3) f = f (xs (i + 3)) := fun f => sc_at (d := 3) (by omega) hL f
  have c4 : ∀ {β : Type} (f : Int32 → Option β), sck xs L (nI i + 4) f = f (xs (i + 4)) := fun f => sc_at (d := 4) (by omega) hL f
  have c5 : ∀ {β : Type} (f : Int32 → Option β), sck xs L (nI i + 5) f = f (xs (i + 5)) := fun f => sc_at (d := 5) (by omega) hL f
  have a6 : nI i + 6 = nI (i + 6) := nI_add i 6
  have lg : ∀ a : Int64, lg_cmp a a = 0 := fun a => (lgc_eq a a).mpr rfl
  obtain ⟨r, sx', sm', e1, e2, e3⟩ := s_again  h
  exact ⟨sx', sm', by simp only [m_law_c35, c1, c2, c3, c4, c5, e1, clk_some, e2, if_true, lg, nmk, a6], e3⟩
theorem l_c36 (hi : i + 6 ≤ L) (hL : L ≤ 3072) (h : Rel sx sm) : ∃ sx' sm', m_law_c36 xs L (nI i) sx sm = some (.inl (nI (i + 6), sx', sm')) ∧ Rel sx' sm' := by
  have c1 : ∀ {β : Type} (f : Int32 → Option β), sck xs L (nI i + 1) f = f (xs (i + 1)) := fun f => sc_at (d := 1) (by omega) hL f
  have c2 : ∀ {β : Type} (f : Int32 → Option β), sck xs L (nI i + 2) f = f (xs (i + 2)) := fun f => sc_at (d := 2) (by omega) hL f
  have c3 : ∀ {β : Type} (f : Int32 → Option β), sck xs L (nI i + 3) f = f (xs (i + 3)) := fun f => sc_at (d := 3) (by omega) hL f
  have c4 : ∀ {β : Type} (f : Int32 → Option β), sck xs L (nI i + 4) f = f (xs (i + 4)) := fun f => sc_at (d := 4) (by omega) hL f
  have c5 : ∀ {β : Type} (f : Int32 → Option β), sck xs L (nI i + 5) f = f (xs (i + 5)) := fun f => sc_at (d := 5) (by omega) hL f
  have a6 : nI i + 6 = nI (i + 6) := nI_add i 6
  have lg : ∀ a : Int64, lg_cmp a a = 0 := fun a => (lgc_eq a a).mpr rfl
  obtain ⟨r, sx', sm', e1, e2, e3⟩ := s_status (xs (i + 1)) h
  exact ⟨sx', sm', by simp only [m_law_c36, c1, c2, c3, c4, c5, e1, clk_some, e2, if_true, lg, nmk, a6], e3⟩
theorem l_cd (h : Rel sx sm) : ∃ sx' sm', m_law_cd xs L (nI i) sx sm = some (.inl (nI (i + 6), sx', sm')) ∧ Rel sx' sm' := ⟨sx, sm, by
  have a6 : nI i + 6 = nI (i + 6) := nI_add i 6
  rw [m_law_cd, nmk, a6], h⟩
end LAW
