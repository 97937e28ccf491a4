-- 99o.first: the first states are related
def st1F : Sg := pA (fgM (pA st00 0 10 (filF 6 1 (gA st00 0 10)))) 0 36 (filF 6 (-1) (gA st00 0 36))
theorem init_eq : m_X12_init st00 = some ((), st1F) := by
  have hI := ok_for (step := fun r : (Int32 × Sg) => m_X12_init_L269 r.1 r.2) (Q := fun r => r = pA st00 0 10 (filF 6 1 (gA st00 0 10))) 6 (fun i r => r = (nI i, pA st00 0 10 (filF i 1 (gA st00 0 10)))) (by
      rintro i r hi rfl
      have hg : ¬ (6 : Int32) ≤ nI i := nI_ge (a := i) (b := 6) hi (by omega)
      have vi : vpb (nI i) 6 = true := vpb_nI (by omega) (by omega)
      have ci := nI_clamp (show i < 2 ^ 31 by omega)
      have a10 : gA (pA st00 0 10 (filF i 1 (gA st00 0 10))) 0 10 = filF i 1 (gA st00 0 10) := rfl
      have h3 : upd (filF i 1 (gA st00 0 10)) i 1 = filF (i + 1) 1 (gA st00 0 10) := by
        funext q
        by_cases hq : q = i
        · subst hq; simp [upd, filF]
        · have : q < i + 1 ↔ q < i := by omega
          simp [upd, filF, hq, this]
      refine ⟨.inl (nI (i + 1), pA st00 0 10 (filF (i + 1) 1 (gA st00 0 10))), ?_, rfl⟩
      show m_X12_init_L269 (nI i) (pA st00 0 10 (filF i 1 (gA st00 0 10))) = _
      rw [m_X12_init_L269, if_neg hg, sAk, if_pos vi, ci, a10, h3, pA_pA, nmk, nI_1]) (by
      rintro r rfl
      refine ⟨.inr (pA st00 0 10 (filF 6 1 (gA st00 0 10))), ?_, rfl⟩
      show m_X12_init_L269 (nI 6) (pA st00 0 10 (filF 6 1 (gA st00 0 10))) = _
      rw [m_X12_init_L269, if_pos (show (6 : Int32) ≤ nI 6 by decide)]) FU 0 (0, st00) (by omega) (FU_lt (by omega)) (by
        have e : filF 0 1 (gA st00 0 10) = gA st00 0 10 := by funext q; simp [filF]
        rw [e, pA_self]
        rfl)
  obtain ⟨r, hr, rfl⟩ := hI
  rw [m_X12_init, nmk, lpk, hr]
  show (clk (m_X12_forget (pA st00 0 10 (filF 6 1 (gA st00 0 10)))) fun _ s5 => clk (m_X12_unwrong s5) fun _ s6 => some ((), s6)) = _
  rw [forget_eq, clk_some, unwrong_eq, clk_some]
  rfl
theorem first_rel : Rel stX0 st1F := by
  refine ⟨0, 0, ⟨rfl, by omega, fun i hi => absurd hi (Nat.not_lt_zero i), fun i hi => absurd hi (by omega), fun i hi => absurd hi (Nat.not_lt_zero i), fun i hi => ?_⟩, ⟨rfl, by omega, fun i hi => absurd hi (Nat.not_lt_zero i)⟩, ⟨rfl, rfl, rfl, rfl, rfl, rfl, rfl, rfl, rfl, rfl, rfl⟩, ⟨rfl, rfl, rfl, rfl, rfl⟩, ⟨rfl, rfl, fun s _ => ⟨(show inR (0 : Int32) 0 40 from ⟨by decide, by decide⟩), (show inR (0 : Int32) 0 1 from ⟨by decide, by decide⟩)⟩, fun s i _ h => ?_⟩, ⟨rfl, rfl⟩, ⟨rfl, rfl⟩, ⟨rfl, rfl, rfl, rfl, rfl, rfl, rfl, (show inR (0 : Int32) 0 1 from ⟨by decide, by decide⟩), (show inR (0 : Int32) 0 200 from ⟨by decide, by decide⟩), fun h => ?_⟩, Or.inl rfl, Or.inl ⟨rfl, rfl⟩⟩
  · have e : gA st1F 0 10 i = 1 := by
      show filF 6 1 (gA st00 0 10) i = 1
      unfold filF
      rw [if_pos hi]
    rw [e]
    exact ⟨by decide, by decide⟩
  · have e : (gA st1F 0 23 s).toInt = 0 := rfl
    rw [e] at h
    omega
  · have e : (gI st1F 0 44).toInt = 0 := rfl
    rw [e] at h
    omega
