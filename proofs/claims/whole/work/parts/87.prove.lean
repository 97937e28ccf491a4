-- 87.prove: seekAt against tries; the call prove
def SkC (sx sm sy tm : Sg) (n t tr : Nat) : Prop := FrX sx sy ∧ FrG sm tm ∧ gI sy 3 2 = 0 ∧ WvOk sy n t ∧ LR (gI tm 0 20) (gA tm 0 16) (gA tm 0 17) (gA tm 0 18) (gA tm 0 19) (allM sm n t) ∧ gI sy 7 10 = nI tr ∧ gI tm 0 32 = nI tr ∧ tr ≤ 3000
/-- what a finding leaves -/
def SkG (sm sy tm : Sg) (n t b : Nat) : Prop := ∃ (T : Nat → Nat) (p : Nat → Int), (∀ v, v < n → T v < b) ∧ gI sy 7 8 = nI b ∧ (∀ v, v < n → gA sy 7 9 v = nI (T v)) ∧ CLv n (WH n (gA sy 6 0) b (fun v => (T v : Int))) (lvO (gA sy 7 3) (n - 1)) ∧ WO ((allM sm n t).map (geI b)) (maN n (gA sy 6 0)) ∧ (∀ v, v < n → gA tm 0 34 v = nI (T v)) ∧ PRf (gA tm 0 33) p n 2000000 ∧ LeastG n (hdL n b (fun v => (T v : Int)) (allM sm n t)) p
theorem wo_perm {E F : List Ge} (h : E.Perm F) {D : Nat → Nat → Option Int} (hD : WO E D) : WO F D := ⟨fun e he => hD.1 e (h.mem_iff.mpr he), fun a b z hz => h.mem_iff.mp (hD.2 a b z hz)⟩
theorem wv_same {sx sy : Sg} {n t : Nat} (f : FrX sx sy) (h1 : gI sy 3 1 = gI sx 3 1) (h4 : ∀ k, gI sy 4 k = gI sx 4 k) (h5 : ∀ k, gA sy 4 k = gA sx 4 k) (h : WvOk sx n t) : WvOk sy n t := by
  unfold WvOk at h ⊢
  rw [h1, h4, h5, h5, h5, h5, f.2.1 1 1 (by omega) (by omega) (by omega) (by omega), f.2.1 1 2 (by omega) (by omega) (by omega) (by omega), f.2.1 1 5 (by omega) (by omega) (by omega) (by omega), f.2.1 1 6 (by omega) (by omega) (by omega) (by omega), f.2.1 1 7 (by omega) (by omega) (by omega) (by omega), f.2.1 2 1 (by omega) (by omega) (by omega) (by omega), f.2.1 2 2 (by omega) (by omega) (by omega) (by omega), f.2.1 2 3 (by omega) (by omega) (by omega) (by omega), f.2.1 2 4 (by omega) (by omega) (by omega) (by omega)]
  exact h
section SA
variable {sx sm : Sg} {n t : Nat}
theorem seekAt_eq (h1 : WBo (gI sm 0 9) (gA sm 0 0) (gA sm 0 1) (gA sm 0 2) (gA sm 0 3) (gA sm 0 4) (gA sm 0 5) (gA sm 0 6) (gA sm 0 10) n) (h2 : WTo (gI sm 0 15) (gA sm 0 11) (gA sm 0 12) (gA sm 0 13) (gA sm 0 14) n t) (h3 : RBo sx sm) (h4 : RTo sx sm) (h0 : 0 < n) {sy tm : Sg} {tr b : Nat} (hC : SkC sx sm sy tm n t tr) (hb1 : 1 ≤ b) (hb : b ≤ 60) : ∃ r sy' tm' tr', m_X11_seekAt (nI b) sy = some (r, sy') ∧ m_X12_tries (nI b) tm = some (r, tm') ∧ SkC sx sm sy' tm' n t tr' ∧ ((r = 0 ∧ SkG sm sy' tm' n t b) ∨ r = 3 ∨ r = 4) := by
  obtain ⟨fX, fM, c3, c4, c5, c6, c7, c8⟩ := hC
  have hn := h1.2.1
  have h3' := rb_em fX fM h3
  have h1' := wb_em fM h1
  have hokM := all_ok h1 h2
  obtain ⟨lx, hl, hp⟩ := wv_all fX h3 h4 c4
  have hokX : ∀ e ∈ lx, okEd n e := fun e he => hokM e (hp.mem_iff.mp he)
  have hlx : lx.length ≤ 720 := by rw [hp.length_eq]; have := allM_len (sm := sm) hn h2.2.1; omega
  obtain ⟨f0, q1, q2, q3⟩ := load_eq hn hb hl hlx hokX
  have hWO := wo_perm (hp.map (geI b)) q2
  obtain ⟨s0, hs0⟩ : ∃ s, s = pA sy 6 0 f0 := ⟨_, rfl⟩
  have e60 : gA s0 6 0 = f0 := by rw [hs0]; rfl
  obtain ⟨b0, b1, b2, b3, b4, b5, b6, b7, b8, b9, b10⟩ := id h3'
  obtain ⟨w0, -, w2, w3, w4, w5⟩ := id h1'
  have hB : SkB s0 n b (allM sm n t) := by
    refine ⟨hn, hb1, hb, fun v hv => ?_, fun k hk => ?_, by rw [e60]; exact hWO, fun j l x hx => ?_⟩
    · have k3 : gA s0 1 3 = gA tm 0 2 := by rw [hs0]; exact b3
      have k4 : gA s0 1 4 = gA tm 0 3 := by rw [hs0]; exact b4
      rw [k3, k4]
      obtain ⟨-, -, o1, o2, -⟩ := w2 v hv
      exact ⟨o1, by have := o2.1; omega, o2.2⟩
    · have k10 : gA s0 1 10 = gA tm 0 10 := by rw [hs0]; exact b10
      rw [k10]; exact w5 k hk
    · rw [e60] at hx
      exact ge_bd hb hokM _ (hWO.2 j l x hx)
  have hN : SkN s0 tm n (allM sm n t) := by
    refine ⟨by rw [hs0]; exact b3.symm, by rw [hs0]; exact b4.symm, by rw [hs0]; exact b10.symm, w0, by rw [hs0]; exact b0.trans w0, c5, allM_len hn h2.2.1, hokM⟩
  obtain ⟨r, sy', tm', k1, k2, k3⟩ := seek_eq (tr := tr) hB hN h0 c8 (by rw [hs0]; exact c6) c7
  have f60 : FrX sy s0 := by rw [hs0]; exact frX_6 _ _ _
  have X1 : m_X11_seekAt (nI b) sy = some (r, sy') := by
    rw [m_X11_seekAt, q1, clk_some, ← hs0, k1, clk_some]
  have mk : ∀ tr', FrX s0 sy' → FrG tm tm' → (gI tm' 0 20 = gI tm 0 20 ∧ gA tm' 0 16 = gA tm 0 16 ∧ gA tm' 0 17 = gA tm 0 17 ∧ gA tm' 0 18 = gA tm 0 18 ∧ gA tm' 0 19 = gA tm 0 19) → (gI sy' 3 2 = gI s0 3 2 ∧ (∀ k, gI sy' 4 k = gI s0 4 k) ∧ (∀ k, gA sy' 4 k = gA s0 4 k) ∧ gI sy' 3 1 = gI s0 3 1) → tr' ≤ 3000 → gI sy' 7 10 = nI tr' → gI tm' 0 32 = nI tr' → SkC sx sm sy' tm' n t tr' := fun tr' a1 a2 a3 a4 a5 a6 a7 => by
    have z0 : gI s0 3 2 = gI sy 3 2 := by rw [hs0]; rfl
    have z1 : gI s0 3 1 = gI sy 3 1 := by rw [hs0]; rfl
    have z2 : ∀ k, gI s0 4 k = gI sy 4 k := fun k => by rw [hs0]; rfl
    have z3 : ∀ k, gA s0 4 k = gA sy 4 k := fun k => by rw [hs0, gA_pA2, if_neg (by omega)]
    refine ⟨(fX.trans f60).trans a1, fM.trans a2, by rw [a4.1, z0]; exact c3, ?_, ?_, a6, a7, a5⟩
    · exact wv_same (f60.trans a1) (by rw [a4.2.2.2, z1]) (fun k => by rw [a4.2.1, z2]) (fun k => by rw [a4.2.2.1, z3]) c4
    · rw [a3.1, a3.2.1, a3.2.2.1, a3.2.2.2.1, a3.2.2.2.2]
      exact c5
  rcases k3 with ⟨z, kF⟩ | ⟨z, kW⟩ | ⟨z, kW⟩
  · obtain ⟨T, tr', a1, a2, a3, a4, p, a5, a6⟩ := kF
    obtain ⟨y1, y2, y3, y4, y5, y6, y7, y8, y9⟩ := id a3
    obtain ⟨m1, m2, m3, m4, m5, m6, m7, m8⟩ := id a4
    refine ⟨r, sy', tm', tr', X1, k2, mk tr' y1 m1 ⟨m2, m3, m4, m5, m6⟩ y9 a1 y5 m8, Or.inl ⟨z, T, p, a2, y3, y4, ?_, ?_, m7, a5, a6⟩⟩
    · rw [y2]; exact y7 n h0 (Nat.le_refl _)
    · rw [y2, e60]; exact hWO
  · obtain ⟨x1, x2, x3, x4, x5, tr', x6, x7, x8⟩ := kW
    exact ⟨r, sy', tm', tr', X1, k2, mk tr' x1 x2 x4 x5 x6 x7 x8, Or.inr (Or.inl z)⟩
  · obtain ⟨x1, x2, x3, x4, x5, tr', x6, x7, x8⟩ := kW
    exact ⟨r, sy', tm', tr', X1, k2, mk tr' x1 x2 x4 x5 x6 x7 x8, Or.inr (Or.inr z)⟩
end SA
theorem s_prove {sx sm : Sg} (x : Int32) (h : Rel sx sm) : Sim (m_X11_prove x sx) (m_X12_prove x sm) := by
  obtain ⟨n, t, h1, h2, h3, h4, h5, h6, h7, h8, h9, h10⟩ := id h
  have hn := h1.2.1
  have e6 := h3.2.2.2.2.2.2.1
  obtain ⟨s1, hs1⟩ : ∃ s, s = pI sx 7 10 0 := ⟨_, rfl⟩
  obtain ⟨t1, ht1⟩ : ∃ s, s = pI sm 0 32 0 := ⟨_, rfl⟩
  have F1 : FrX sx s1 := by rw [hs1]; exact frX_7I _ _ _
  have G1 : FrG sm t1 := by rw [ht1]; exact frG_I _ _
  have ex1 : gI s1 1 0 = nI n := (F1.1 1 0 (by omega) (by omega) (by omega)).trans (h3.1.trans h1.1)
  have em1 : gI t1 0 9 = nI n := (G1.1 9 (by omega) (by omega)).trans h1.1
  have x6 : gA s1 1 6 = gA sx 1 6 := F1.2.1 1 6 (by omega) (by omega) (by omega) (by omega)
  have m5 : gA t1 0 5 = gA sm 0 5 := G1.2.1 5 (by omega)
  have tr0 : gI s1 7 10 = nI 0 := by rw [hs1]; rfl
  have tm0 : gI t1 0 32 = nI 0 := by rw [ht1]; rfl
  have w1 : RWe s1 n t := by
    have : RWe sx n t → RWe s1 n t := fun q => by rw [hs1]; exact q
    exact this h9
  have hR : Rel s1 t1 := rel_fr h1 h2 h3 h4 h5 h6 (tr0.trans tm0.symm) h7.2 h8 h10 F1 G1 w1
  have ref : ∀ r : Int32, inR r (-11) (-2) → ∀ mx mm, mx = m_X11_refuse r s1 → mm = m_X12_no r t1 → Sim mx mm := fun r hr mx mm ex em => by
    rw [ex, em]
    exact ⟨r, _, _, x_refuse hr s1, m_no_eq hr t1, rel_ref r hR⟩
  have cc : ∀ o : Option (Int32 × Sg), (clk o fun v s => some (v, s)) = o := fun o => by
    cases o with
    | none => rfl
    | some q => rfl
  have X0 : m_X11_prove x sx = clk (m_X0_isReady s1) fun v3 s2 => if v3 = 0 then (m_X11_refuse (-2) s2) else if 0 ≤ x then (if x = 0 then (m_X11_refuse (-9) s2) else if x ≤ 60 then (clk (m_X0_beatByUnits s2) fun v7 s6 => if v7 ≤ x then (clk (m_X10_renew s6) fun _ s8 => clk (m_X11_hasRingAt x s8) fun v10 s9 => if v10 = 0 then (m_X11_seekAt x s9) else some (2, s9)) else some (1, s6)) else m_X11_refuse (-9) s2) else m_X11_refuse (-4) s2 := by
    rw [m_X11_prove, sIk, ← hs1]
    simp only [cc]
  have M0 : m_X12_prove x sm = clk (m_X12_isReady t1) fun v3 s2 => if v3 = 0 then (m_X12_no (-2) s2) else if 0 ≤ x then (clk (m_X12_isIn ((x : Int32).toInt64) 1 60 s2) fun v5 s4 => if v5 = 0 then (m_X12_no (-9) s4) else clk (m_X12_gather s4) fun _ s6 => clk (m_X12_byUnits s6) fun v8 s7 => if v8 ≤ x then (clk (m_X12_rests x s7) fun v10 s9 => if v10 = 0 then (some (2, s9)) else m_X12_tries x s9) else some (1, s7)) else m_X12_no (-4) s2 := by
    rw [m_X12_prove, sIk, ← ht1]
    simp only [cc]
  by_cases hr : 0 < n ∧ WhP n (gA sm 0 5)
  case neg =>
    have hrx : ¬ (0 < n ∧ WhP n (gA s1 1 6)) := by rw [x6, e6]; exact hr
    have hrm : ¬ (0 < n ∧ WhP n (gA t1 0 5)) := by rw [m5]; exact hr
    refine ref (-2) (inR_lit _ _ rfl) _ _ ?_ ?_
    · rw [X0, (readyX ex1 hn).2 hrx, clk_some, if_pos rfl]
    · rw [M0, (readyM em1 hn).2 hrm, clk_some, if_pos rfl]
  have hrx : 0 < n ∧ WhP n (gA s1 1 6) := by rw [x6, e6]; exact hr
  have hrm : 0 < n ∧ WhP n (gA t1 0 5) := by rw [m5]; exact hr
  have n10 : ¬ (1 : Int32) = 0 := by decide
  rw [X0, M0, (readyX ex1 hn).1 hrx, (readyM em1 hn).1 hrm, clk_some, clk_some, if_neg n10, if_neg n10]
  by_cases c0 : 0 ≤ x
  case neg =>
    rw [if_neg c0, if_neg c0]
    exact ref (-4) (inR_lit _ _ rfl) _ _ rfl rfl
  rw [if_pos c0, if_pos c0, isIn_eq, clk_some]
  have i1 : (1 : Int64).toInt = 1 := rfl
  have i60 : (60 : Int64).toInt = 60 := rfl
  have s60 : (60 : Int32).toInt = 60 := rfl
  rw [i1, i60]
  have c0' := c0
  rw [fx_le, ti_0] at c0'
  by_cases cz : x = 0
  · have nz : ¬ (1 ≤ x.toInt ∧ x.toInt ≤ 60) := by rw [cz, ti_0]; omega
    rw [if_pos cz, if_neg nz, if_pos rfl]
    exact ref (-9) (inR_lit _ _ rfl) _ _ rfl rfl
  have x1 : 1 ≤ x.toInt := by
    have : ¬ x.toInt = 0 := fun q => cz (by rw [fx_eq, q, ti_0])
    omega
  rw [if_neg cz]
  by_cases c60 : x ≤ 60
  case neg =>
    have nz : ¬ (1 ≤ x.toInt ∧ x.toInt ≤ 60) := by rw [fx_le, s60] at c60; omega
    rw [if_neg c60, if_neg nz, if_pos rfl]
    exact ref (-9) (inR_lit _ _ rfl) _ _ rfl rfl
  have x60 : x.toInt ≤ 60 := by rw [fx_le, s60] at c60; exact c60
  have nz : 1 ≤ x.toInt ∧ x.toInt ≤ 60 := ⟨x1, x60⟩
  rw [if_pos c60, if_pos nz, if_neg n10]
  obtain ⟨b, hb⟩ : ∃ b, b = x.toNatClampNeg := ⟨_, rfl⟩
  have ex : x = nI b := by rw [hb]; exact fx_nI c0'
  have hbx := fx_cl c0'
  rw [← hb] at hbx
  have hb1 : 1 ≤ b := by omega
  have hb60 : b ≤ 60 := by omega
  -- the same body for both
  have h1' := wb_em G1 h1
  have h3' := rb_em F1 G1 h3
  have ht' : gI t1 0 15 = nI t := (G1.1 15 (by omega) (by omega)).trans h2.1
  obtain ⟨sg, g1, g2⟩ := gather_eq em1 hn ht' h2.2.1
  have eall : allM t1 n t = allM sm n t := by
    unfold allM
    rw [G1.2.1 0 (by omega), G1.2.1 1 (by omega), G1.2.1 4 (by omega), G1.2.1 5 (by omega), G1.2.1 6 (by omega), G1.2.1 11 (by omega), G1.2.1 12 (by omega), G1.2.1 13 (by omega), G1.2.1 14 (by omega)]
  rw [eall] at g2
  have Gg : FrG sm sg := G1.trans (frG_em g2)
  obtain ⟨u, v, u1, u2, u3⟩ := byUnits_eq (sx := s1) (wb_em (frG_em g2) h1') (rb_em (FrX.refl s1) (frG_em g2) h3')
  have uv : u ≤ x ↔ v ≤ x := by
    rcases u3.2 with q | q
    · rw [q]
    · rw [fx_le, fx_le]; omega
  rw [g1, clk_some, u1, clk_some, u2, clk_some]
  have g32 : gI sg 0 32 = nI 0 := (g2.1 32 (by omega)).trans tm0
  by_cases cu : u ≤ x
  case neg =>
    rw [if_neg cu, if_neg (fun q => cu (uv.mpr q))]
    exact ⟨1, s1, sg, rfl, rfl, rel_fr h1 h2 h3 h4 h5 h6 (tr0.trans g32.symm) h7.2 h8 h10 F1 Gg w1⟩
  rw [if_pos cu, if_pos (uv.mp cu)]
  obtain ⟨sy, r1, r2, r3, r4⟩ := renew_eq ex1 hn ((F1.1 2 0 (by omega) (by omega) (by omega)).trans (h4.1.trans h2.1)) h2.2.1 w1
  have fY : FrX sx sy := F1.trans (frX_w r2)
  obtain ⟨lx, hl, hp⟩ := wv_all fY h3 h4 r4
  have hokM := all_ok h1 h2
  have hokX : ∀ e ∈ lx, okEd n e := fun e he => hokM e (hp.mem_iff.mp he)
  have hlx : lx.length ≤ 720 := by rw [hp.length_eq]; have := allM_len (sm := sm) hn h2.2.1; omega
  have ey : gI sy 1 0 = nI n := (r2.1 1 0 (by omega) (by omega)).trans ex1
  obtain ⟨f0, f1, k⟩ := ring_eq (b := b) ey hn hb60 hl hlx hokX
  obtain ⟨f2, k'⟩ := rests_eq (s0 := sg) (b := b) ((g2.1 9 (by omega)).trans em1) hn hb60 g2.2.2.2 (allM_len hn h2.2.1) hokM
  have fZ : FrX sx (pA (pA sy 6 0 f0) 6 1 f1) := fY.trans ((frX_6 _ _ _).trans (frX_6 _ _ _))
  have gZ : FrG sm (pA sg 0 33 f2) := Gg.trans (frG_33 _ _)
  have w2 : WvOk (pA (pA sy 6 0 f0) 6 1 f1) n t := r4
  have y10 : gI sy 7 10 = nI 0 := (r2.1 7 10 (by omega) (by omega)).trans tr0
  rw [r1, clk_some, ex]
  rcases k with ⟨k1, k2⟩ | ⟨k1, k2⟩
  · rcases k' with ⟨k3, k4⟩ | ⟨k3, k4⟩
    case inr => exact absurd (least_perm (hp.map _) k2) (k4 _)
    rw [k1, clk_some, if_pos rfl, k3, clk_some, if_neg n10]
    have hC : SkC sx sm (pA (pA sy 6 0 f0) 6 1 f1) (pA sg 0 33 f2) n t 0 := ⟨fZ, gZ, r3, w2, g2.2.2.2, y10, g32, by omega⟩
    obtain ⟨r, sy', tm', tr', a1, a2, a3, -⟩ := seekAt_eq h1 h2 h3 h4 hr.1 hC hb1 hb60
    obtain ⟨b1, b2, b3, b4, b5, b6, b7, b8⟩ := a3
    exact ⟨r, sy', tm', a1, a2, rel_fr h1 h2 h3 h4 h5 h6 (b6.trans b7.symm) h7.2 h8 h10 b1 b2 (Or.inr ⟨b3, b4⟩)⟩
  · rcases k' with ⟨k3, p, k5, k4⟩ | ⟨k3, k4⟩
    · exact absurd (sol_perm (hp.map _).symm k4.2.1) (k2 p)
    rw [k1, clk_some, if_neg n10, k3, clk_some, if_pos rfl]
    exact ⟨2, _, _, rfl, rfl, rel_fr h1 h2 h3 h4 h5 h6 (y10.trans g32.symm) h7.2 h8 h10 fZ gZ (Or.inr ⟨r3, w2⟩)⟩
