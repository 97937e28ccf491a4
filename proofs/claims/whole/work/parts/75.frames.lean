-- 75.frames: what a search may change on each side; all edges are in range; rings
def FrX (sx sy : Sg) : Prop := (∀ j k, j ≠ 3 → j ≠ 4 → j ≠ 7 → gI sy j k = gI sx j k) ∧ (∀ j k, j ≠ 4 → j ≠ 6 → j ≠ 7 → j ≠ 8 → gA sy j k = gA sx j k) ∧ ∀ j k, gL sy j k = gL sx j k
def FrG (sm tm : Sg) : Prop := (∀ k, k ≠ 20 → k ≠ 32 → gI tm 0 k = gI sm 0 k) ∧ (∀ k, k < 16 ∨ (20 < k ∧ k ≠ 33 ∧ k ≠ 34 ∧ k ≠ 35) → gA tm 0 k = gA sm 0 k) ∧ ∀ k, gL tm 0 k = gL sm 0 k
theorem lyX_frX {sx sy : Sg} {n t : Nat} (f : FrX sx sy) (h : LyX sx n t) : LyX sy n t := lyX_congr (fun k => f.1 9 k (by omega) (by omega) (by omega)) (fun k => f.2.1 1 k (by omega) (by omega) (by omega) (by omega)) (fun k => f.2.1 2 k (by omega) (by omega) (by omega) (by omega)) (fun k _ => f.2.1 9 k (by omega) (by omega) (by omega) (by omega)) (f.2.1 10 0 (by omega) (by omega) (by omega) (by omega)) h
theorem FrX.refl (s : Sg) : FrX s s := ⟨fun _ _ _ _ _ => rfl, fun _ _ _ _ _ _ => rfl, fun _ _ => rfl⟩
theorem FrX.trans {a b c : Sg} (h : FrX a b) (g : FrX b c) : FrX a c := ⟨fun j k x y z => (g.1 j k x y z).trans (h.1 j k x y z), fun j k x y z w => (g.2.1 j k x y z w).trans (h.2.1 j k x y z w), fun j k => (g.2.2 j k).trans (h.2.2 j k)⟩
theorem FrG.refl (s : Sg) : FrG s s := ⟨fun _ _ _ => rfl, fun _ _ => rfl, fun _ => rfl⟩
theorem FrG.trans {a b c : Sg} (h : FrG a b) (g : FrG b c) : FrG a c := ⟨fun k x y => (g.1 k x y).trans (h.1 k x y), fun k x => (g.2.1 k x).trans (h.2.1 k x), fun k => (g.2.2 k).trans (h.2.2 k)⟩
theorem frX_w {sx sy : Sg} (h : FrW sx sy) : FrX sx sy := ⟨fun j k x y _ => h.1 j k x y, fun j k x _ _ _ => h.2.1 j k x, h.2.2⟩
theorem frG_em {sm sy : Sg} {l : List Ed} (h : EM sm sy l) : FrG sm sy := ⟨fun k x _ => h.1 k x, fun k x => h.2.1 k (by omega), h.2.2.1⟩
theorem frX_6 (s : Sg) (k : Nat) (f : Nat → Int32) : FrX s (pA s 6 k f) := ⟨fun _ _ _ _ _ => rfl, fun j k' _ h _ _ => by rw [gA_pA2, if_neg h], fun _ _ => rfl⟩
theorem frG_33 (s : Sg) (f : Nat → Int32) : FrG s (pA s 0 33 f) := ⟨fun _ _ _ => rfl, fun k h => by rw [gA_pA2, if_pos rfl, if_neg (by omega)], fun _ => rfl⟩
theorem rel_fr {sx sy sm tm : Sg} {n t : Nat} (h1 : WBo (gI sm 0 9) (gA sm 0 0) (gA sm 0 1) (gA sm 0 2) (gA sm 0 3) (gA sm 0 4) (gA sm 0 5) (gA sm 0 6) (gA sm 0 10) n) (h2 : WTo (gI sm 0 15) (gA sm 0 11) (gA sm 0 12) (gA sm 0 13) (gA sm 0 14) n t) (h3 : RBo sx sm) (h4 : RTo sx sm) (h5 : RRo sx sm) (h6 : RRe sx sm) (h7 : gI sy 7 10 = gI tm 0 32) (h7' : gA sx 11 0 = gA sm 0 36) (h8 : ROu sx sm n) (h10 : RLy sx sm n t) (f : FrX sx sy) (g : FrG sm tm) (hw : RWe sy n t) : Rel sy tm := by
  obtain ⟨f1, f2, f3⟩ := id f
  obtain ⟨g1, g2, g3⟩ := g
  refine ⟨n, t, ?_, ?_, ?_, ?_, ?_, ?_, ?_, ?_, hw, ?_⟩
  · rw [g1 9 (by omega) (by omega), g2 0 (by omega), g2 1 (by omega), g2 2 (by omega), g2 3 (by omega), g2 4 (by omega), g2 5 (by omega), g2 6 (by omega), g2 10 (by omega)]
    exact h1
  · rw [g1 15 (by omega) (by omega), g2 11 (by omega), g2 12 (by omega), g2 13 (by omega), g2 14 (by omega)]
    exact h2
  · unfold RBo at h3 ⊢
    rw [f1 1 0 (by omega) (by omega) (by omega), f2 1 1 (by omega) (by omega) (by omega) (by omega), f2 1 2 (by omega) (by omega) (by omega) (by omega), f2 1 3 (by omega) (by omega) (by omega) (by omega), f2 1 4 (by omega) (by omega) (by omega) (by omega), f2 1 5 (by omega) (by omega) (by omega) (by omega), f2 1 6 (by omega) (by omega) (by omega) (by omega), f2 1 7 (by omega) (by omega) (by omega) (by omega), f3, f3, f2 1 10 (by omega) (by omega) (by omega) (by omega), g1 9 (by omega) (by omega), g2 0 (by omega), g2 1 (by omega), g2 2 (by omega), g2 3 (by omega), g2 4 (by omega), g2 5 (by omega), g2 6 (by omega), g2 10 (by omega), g3, g3]
    exact h3
  · unfold RTo at h4 ⊢
    rw [f1 2 0 (by omega) (by omega) (by omega), f2 2 1 (by omega) (by omega) (by omega) (by omega), f2 2 2 (by omega) (by omega) (by omega) (by omega), f2 2 3 (by omega) (by omega) (by omega) (by omega), f2 2 4 (by omega) (by omega) (by omega) (by omega), g1 15 (by omega) (by omega), g2 11 (by omega), g2 12 (by omega), g2 13 (by omega), g2 14 (by omega)]
    exact h4
  · unfold RRo at h5 ⊢
    rw [f2 5 0 (by omega) (by omega) (by omega) (by omega), f2 5 1 (by omega) (by omega) (by omega) (by omega), f3, g2 23 (by omega), g2 24 (by omega), g3]
    exact h5
  · unfold RRe at h6 ⊢
    rw [f2 0 10 (by omega) (by omega) (by omega) (by omega), f1 0 9 (by omega) (by omega) (by omega), g2 25 (by omega), g1 26 (by omega) (by omega)]
    exact h6
  · unfold RTr
    rw [f2 11 0 (by omega) (by omega) (by omega) (by omega), g2 36 (by omega)]
    exact ⟨h7, h7'⟩
  · unfold ROu at h8 ⊢
    rw [f1 16 0 (by omega) (by omega) (by omega), f1 16 1 (by omega) (by omega) (by omega), f1 16 2 (by omega) (by omega) (by omega), f1 16 3 (by omega) (by omega) (by omega), f1 16 4 (by omega) (by omega) (by omega), f1 16 5 (by omega) (by omega) (by omega), f1 16 6 (by omega) (by omega) (by omega), f3, g1 38 (by omega) (by omega), g1 39 (by omega) (by omega), g1 40 (by omega) (by omega), g1 41 (by omega) (by omega), g1 42 (by omega) (by omega), g1 43 (by omega) (by omega), g1 44 (by omega) (by omega), g3]
    exact h8
  · rcases h10 with q | ⟨q1, q2, q3⟩
    · refine Or.inl ?_
      rw [f1 9 0 (by omega) (by omega) (by omega), g1 27 (by omega) (by omega)]
      exact q
    · refine Or.inr ⟨(f1 9 0 (by omega) (by omega) (by omega)).trans q1, ?_, lyX_frX f q3⟩
      unfold LyEq at q2 ⊢
      rw [f1 9 1 (by omega) (by omega) (by omega), f2 9 3 (by omega) (by omega) (by omega) (by omega), f2 9 4 (by omega) (by omega) (by omega) (by omega), f2 9 5 (by omega) (by omega) (by omega) (by omega), f2 9 6 (by omega) (by omega) (by omega) (by omega), g1 27 (by omega) (by omega), g2 28 (by omega), g2 29 (by omega), g2 30 (by omega), g2 31 (by omega)]
      exact q2
-- the edges are in range
theorem inR_nI {i n : Nat} (h : i < n) (hn : n ≤ 16) : inR (nI i) 0 ((n : Int) - 1) := by
  unfold inR
  rw [nI_toInt (by omega)]
  omega
theorem two_ok {n a b : Nat} {sort slot : Nat → Int32} (hn : n ≤ 16) (ha : a < n) (hb : b < n) : ∀ e ∈ twoE sort slot a b, okEd n e := by
  intro e he
  have A := inR_nI ha hn
  have B := inR_nI hb hn
  have k1 : inR (1 : Int32) (-50) 50 := ⟨by decide, by decide⟩
  have k2 : inR (0 : Int32) 0 4 := ⟨by decide, by decide⟩
  have k3 : inR (1 : Int32) 0 4 := ⟨by decide, by decide⟩
  unfold twoE at he
  rcases List.mem_append.mp he with q | q
  · split at q
    · rcases List.mem_cons.mp q with r | r
      · subst r; exact ⟨A, B, k1, k2⟩
      · rw [List.mem_singleton] at r; subst r; exact ⟨B, A, k1, k3⟩
    · exact absurd q List.not_mem_nil
  · split at q
    · rcases List.mem_append.mp q with r | r
      · split at r
        · rw [List.mem_singleton] at r; subst r; exact ⟨A, B, k1, k2⟩
        · exact absurd r List.not_mem_nil
      · rw [List.mem_singleton] at r; subst r; exact ⟨A, B, k1, k3⟩
    · exact absurd q List.not_mem_nil
theorem all_ok {sm : Sg} {n t : Nat} (h1 : WBo (gI sm 0 9) (gA sm 0 0) (gA sm 0 1) (gA sm 0 2) (gA sm 0 3) (gA sm 0 4) (gA sm 0 5) (gA sm 0 6) (gA sm 0 10) n) (h2 : WTo (gI sm 0 15) (gA sm 0 11) (gA sm 0 12) (gA sm 0 13) (gA sm 0 14) n t) : ∀ e ∈ allM sm n t, okEd n e := by
  obtain ⟨w0, hn, w2, w3, w4, w5⟩ := h1
  intro e he
  unfold allM at he
  rcases List.mem_append.mp he with q | q
  · unfold edM at q
    obtain ⟨b, hb, q⟩ := List.mem_flatMap.mp q
    have hb' := List.mem_range.mp hb
    have B := inR_nI hb' hn
    rcases List.mem_append.mp q with q | q
    · rcases List.mem_append.mp q with q | q
      · unfold opsE at q
        obtain ⟨i, hi, q⟩ := List.mem_flatMap.mp q
        have hi' := List.mem_range.mp hi
        split at q
        case isTrue c =>
          rw [List.mem_singleton] at q
          subst q
          obtain ⟨c1, c2⟩ := c
          rw [fx_le, ti_0] at c1
          rw [fx_lt, nI_toInt (by omega)] at c2
          have cc := fx_cl c1
          obtain ⟨o1, o2, o3, o4⟩ := w3 (3 * b + i) (by omega)
          obtain ⟨l1, l2⟩ := (w2 (gA sm 0 5 (3 * b + i)).toNatClampNeg (by omega)).2.1
          exact ⟨⟨c1, by show (gA sm 0 5 (3 * b + i)).toInt ≤ _; omega⟩, B, ⟨by show _ ≤ (gA sm 0 1 (gA sm 0 5 (3 * b + i)).toNatClampNeg).toInt; omega, by show (gA sm 0 1 (gA sm 0 5 (3 * b + i)).toNatClampNeg).toInt ≤ _; omega⟩, ⟨o3 c1, o2.2⟩⟩
        case isFalse => exact absurd q List.not_mem_nil
      · split at q
        · rw [List.mem_singleton] at q; subst q
          exact ⟨B, B, (show inR (1 : Int32) (-50) 50 from ⟨by decide, by decide⟩), (show inR (1 : Int32) 0 4 from ⟨by decide, by decide⟩)⟩
        · exact absurd q List.not_mem_nil
    · obtain ⟨a, ha, q⟩ := List.mem_flatMap.mp q
      exact two_ok hn (List.mem_range.mp ha) hb' e q
  · unfold toldL at q
    obtain ⟨i, hi, rfl⟩ := List.mem_map.mp q
    obtain ⟨o1, o2, o3, o4⟩ := h2.2.2 i (List.mem_range.mp hi)
    exact ⟨o1, o2, o3, o4⟩
theorem ge_bd {n b : Nat} {l : List Ed} (hb : b ≤ 60) (hok : ∀ e ∈ l, okEd n e) : ∀ e ∈ l.map (geI b), -290 ≤ e.2.2 ∧ e.2.2 ≤ 50 := by
  intro g hg
  obtain ⟨e, he, rfl⟩ := List.mem_map.mp hg
  obtain ⟨-, -, o3, o4⟩ := hok e he
  obtain ⟨-, m2, m3⟩ := bt_mul hb o4
  have := o3.1
  have := o3.2
  show -290 ≤ e.2.2.1.toInt - (b : Int) * e.2.2.2.toInt ∧ e.2.2.1.toInt - (b : Int) * e.2.2.2.toInt ≤ 50
  omega
theorem sol_perm {l l' : List Ge} (h : l.Perm l') {q : Nat → Int} (hq : SolG l q) : SolG l' q := fun e he => hq e (h.mem_iff.mpr he)
theorem least_perm {n : Nat} {l l' : List Ge} (h : l.Perm l') {P : Nat → Int} (hq : LeastG n l P) : LeastG n l' P := ⟨hq.1, sol_perm h hq.2.1, fun q a b => hq.2.2 q a (sol_perm h.symm b)⟩
/-- a beat that admits a solution: every greater one does -/
theorem sol_up {n : Nat} {l : List Ed} (hok : ∀ e ∈ l, okEd n e) {b c : Nat} (hbc : b ≤ c) {q : Nat → Int} (h : SolG (l.map (geI b)) q) : SolG (l.map (geI c)) q := by
  intro g hg
  obtain ⟨e, he, rfl⟩ := List.mem_map.mp hg
  have a := h _ (List.mem_map.mpr ⟨e, he, rfl⟩)
  obtain ⟨-, -, -, o4⟩ := hok e he
  have a' : q e.1.toNatClampNeg + (e.2.2.1.toInt - (b : Int) * e.2.2.2.toInt) ≤ q e.2.1.toNatClampNeg := a
  show q e.1.toNatClampNeg + (e.2.2.1.toInt - (c : Int) * e.2.2.2.toInt) ≤ q e.2.1.toNatClampNeg
  have := Int.mul_le_mul_of_nonneg_right (show (b : Int) ≤ (c : Int) by omega) o4.1
  omega
theorem all_perm {sx sm : Sg} {n t : Nat} (h3 : RBo sx sm) (h4 : RTo sx sm) : (allX sx n t).Perm (allM sm n t) := by
  obtain ⟨b0, b1, b2, b3, b4, b5, b6, b7, b8, b9, b10⟩ := h3
  obtain ⟨t0, t1, t2, t3, t4⟩ := h4
  unfold allX allM
  rw [b1, b2, b5, b6, b7, t1, t2, t3, t4]
  exact (ed_perm n _ _ _ _ _).append_right _
theorem allM_len {sm : Sg} {n t : Nat} (hn : n ≤ 16) (ht : t ≤ 40) : (allM sm n t).length ≤ 704 := by
  unfold allM
  rw [List.length_append]
  have := edM_len hn (gA sm 0 0) (gA sm 0 1) (gA sm 0 4) (gA sm 0 5) (gA sm 0 6)
  have : (toldL t (gA sm 0 11) (gA sm 0 12) (gA sm 0 13) (gA sm 0 14)).length = t := by unfold toldL; rw [List.length_map, List.length_range]
  omega
theorem ring_eq {sx : Sg} {n b : Nat} {l : List Ed} (hx : gI sx 1 0 = nI n) (hn : n ≤ 16) (hb : b ≤ 60) (hl : LR (gI sx 4 0) (gA sx 4 1) (gA sx 4 2) (gA sx 4 3) (gA sx 4 4) l) (hl2 : l.length ≤ 720) (hok : ∀ e ∈ l, okEd n e) : ∃ f0 f, (m_X11_hasRingAt (nI b) sx = some (0, pA (pA sx 6 0 f0) 6 1 f) ∧ LeastG n (l.map (geI b)) (fun v => earO (maN n f) v n)) ∨ (m_X11_hasRingAt (nI b) sx = some (1, pA (pA sx 6 0 f0) 6 1 f) ∧ ∀ q, ¬ SolG (l.map (geI b)) q) := by
  obtain ⟨f0, q1, q2, q3⟩ := load_eq hn hb hl hl2 hok
  obtain ⟨f, k⟩ := wjoin_eq (sx := pA sx 6 0 f0) hn q2 (ge_bd hb hok)
  have e1 : gI (pA sx 6 0 f0) 1 0 = nI n := hx
  refine ⟨f0, f, ?_⟩
  rcases k with ⟨k1, k2, k3, k4, k5⟩ | ⟨k1, k2⟩
  · refine Or.inl ⟨?_, ear_least (ge_in (b : Int) hok) k2 k3 k4⟩
    simp only [m_X11_hasRingAt, q1, clk_some, gIk, e1, k1, if_neg (show ¬ (1 : Int32) = 0 by decide)]
  · refine Or.inr ⟨?_, k2⟩
    simp only [m_X11_hasRingAt, q1, clk_some, gIk, e1, k1, if_true]
