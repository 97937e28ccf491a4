-- 99lh.loops: a laid run of the class against a plain run's trace: the loops
section LXL
variable {s0 : Sg} {Ep : Nat → Int64} {Rt : Nat → Nat → Nat → Int64} {n K b tc ac : Nat} {B T S : Nat → Nat} {kd : Int32}
theorem bfr_tick {now x u : Nat} (hx : x < n) : bfr B b (now + 1) 0 x u ↔ bfr B b now n x u := by
  unfold bfr
  omega
theorem lx_tick {s : Sg} {now lim : Nat} (hn0 : 0 < n) (hs : (tc = K ∧ ac = 0) ∨ (tc < K ∧ ac < n)) (h : LX s0 s Ep Rt n K b B tc ac kd now n lim) : LX s0 s Ep Rt n K b B tc ac kd (now + 1) 0 lim := by
  obtain ⟨f, p1, e, r, q⟩ := h
  have hac : ac < n := by omega
  refine ⟨f, p1, fun x u hx hu hb hp => e x u hx hu ((bfr_tick hx).mp hb) hp, fun sl hsl => ?_, ?_⟩
  · obtain ⟨pu, px, r1, r2, r3⟩ := r sl hsl
    refine ⟨pu, px, r1, fun c u hc hu c5 cs => ?_, r3⟩
    rw [bfr_tick hc]
    exact r2 c u hc hu c5 cs
  · rcases q with ⟨q1, q2, q3, q4, q5⟩ | ⟨a', t', q1, q2, q3, q4, q5, q6, q7, q8, q9⟩
    · exact Or.inl ⟨q1, q2, q3, q4, fun ht z => q5 ht ((bfr_tick hac).mp z)⟩
    · exact Or.inr ⟨a', t', q1, q2, q3, q4, q5, q6, (bfr_tick q4).mpr q7, q8, fun z => q9 ((bfr_tick hac).mp z)⟩
theorem no_turn {a bt r now : Nat} (hL : XL s0 n b B T S) (ha : a < n) (hr : r < b) (hnow : now = bt * b + r) (hTa : ¬ T a = r) (u : Nat) : ¬ B a + u * b = now := fun q => by
  obtain ⟨t1, t2, t3, t4, t6⟩ := hL.2.1 a ha
  have m1 : (B a + u * b) % b = T a := by
    rw [t6, show b * S a + T a + u * b = T a + b * (S a + u) by rw [Nat.mul_add, Nat.mul_comm u b]; omega, Nat.add_mul_mod_self_left, Nat.mod_eq_of_lt t1]
  have m2 : now % b = r := by
    rw [hnow, show bt * b + r = r + b * bt by rw [Nat.mul_comm]; omega, Nat.add_mul_mod_self_left, Nat.mod_eq_of_lt hr]
  rw [q, m2] at m1
  exact hTa m1.symm
theorem xtick_go (hC : XC s0 n) (hT : TrX s0 Ep Rt n K tc ac kd) (hL : XL s0 n b B T S) (hO : RowL (gA s0 9 10) (ordL b T n)) (hK : K ≤ 200) {bt r : Nat} (hbt : bt ≤ 2000) (hr : r < b) : ∀ (d a : Nat) (s : Sg) (lim : Nat), a + d = n → LX s0 s Ep Rt n K b B tc ac kd (bt * b + r) a lim → ∃ s' lim' k, k ≤ d ∧ Rc (fun s : (Int32 × Sg) => m_X7_goByTicks_L25 15 (nI K) (nI bt) s.1 s.2) (nI (ordP r a T n).length, s) (nI (ordP r n T n).length, s') k ∧ LX s0 s' Ep Rt n K b B tc ac kd (bt * b + r) n lim' := by
  have hn := hC.2.1
  intro d
  induction d with
  | zero =>
    intro a s lim e h
    have ea : a = n := by omega
    subst ea
    exact ⟨s, lim, 0, Nat.le_refl _, Rc.refl _ _, h⟩
  | succ d ih =>
    intro a s lim e h
    have ha : a < n := by omega
    by_cases c : T a = r
    · obtain ⟨o1, o2⟩ := ord_at hO (fun v hv => (hL.2.1 v hv).1) hr ha c
      obtain ⟨s1, lim1, k1, k3⟩ := lx_step hC hT hL hK hbt (show bt * b + r = bt * b + T a by rw [c]) ha o1 o2 h
      obtain ⟨s', lim', k, hk, r1, r3⟩ := ih (a + 1) s1 lim1 (by omega) k3
      have el : (ordP r (a + 1) T n).length = (ordP r a T n).length + 1 := by rw [ordP_s, if_pos c, List.length_append]; rfl
      rw [el] at r1
      exact ⟨s', lim', 1 + k, by omega, Rc.trans (Rc.one (by exact k1)) r1, r3⟩
    · have k3 := lx_skip hn (tr_stop hT) h (fun u _ q => absurd q (no_turn hL ha hr rfl c u))
      obtain ⟨s', lim', k, hk, r1, r3⟩ := ih (a + 1) s lim (by omega) k3
      have el : ordP r (a + 1) T n = ordP r a T n := by rw [ordP_s, if_neg c]
      rw [el] at r1
      exact ⟨s', lim', k, by omega, r1, r3⟩
theorem xbeat_go (hC : XC s0 n) (hT : TrX s0 Ep Rt n K tc ac kd) (hL : XL s0 n b B T S) (hO : RowL (gA s0 9 10) (ordL b T n)) (hK : K ≤ 200) {bt : Nat} (hbt : bt ≤ 2000) : ∀ (d r : Nat) (s : Sg) (lim : Nat), r + d = b → LX s0 s Ep Rt n K b B tc ac kd (bt * b + r) 0 lim → ∃ s' lim' k, k ≤ 16 * d ∧ Rc (fun s : (Int32 × Sg) => m_X7_goByTicks_L25 15 (nI K) (nI bt) s.1 s.2) (nI (ordL r T n).length, s) (nI (ordL b T n).length, s') k ∧ LX s0 s' Ep Rt n K b B tc ac kd (bt * b + b) 0 lim' := by
  have hn := hC.2.1
  intro d
  induction d with
  | zero =>
    intro r s lim e h
    have er : r = b := by omega
    subst er
    exact ⟨s, lim, 0, Nat.le_refl _, Rc.refl _ _, h⟩
  | succ d ih =>
    intro r s lim e h
    have hr : r < b := by omega
    obtain ⟨s1, lim1, k, hk, r1, r3⟩ := xtick_go hC hT hL hO hK hbt hr n 0 s lim (by omega) h
    obtain ⟨s', lim', k', hk', q1, q3⟩ := ih (r + 1) s1 lim1 (by omega) (lx_tick hC.2.2.1 (tr_stop hT) r3)
    rw [ordP_0, ordP_n] at r1
    exact ⟨s', lim', k + k', by omega, Rc.trans r1 q1, q3⟩
theorem xall_go (hC : XC s0 n) (hT : TrX s0 Ep Rt n K tc ac kd) (hL : XL s0 n b B T S) (hO : RowL (gA s0 9 10) (ordL b T n)) (hK : K ≤ 200) {st : Nat} (hst : st ≤ 961) (hst1 : 1 ≤ st) (h92 : gI s0 9 2 = nI st) : ∀ (d bt : Nat) (s : Sg) (lim N : Nat), bt + d = K + st - 1 → d < N → LX s0 s Ep Rt n K b B tc ac kd (bt * b) 0 lim → ∃ s' lim', lp (fun s : (Int32 × Sg) => m_X7_goByTicks_L7 15 (nI K) s.1 s.2) N (nI bt, s) = some s' ∧ LX s0 s' Ep Rt n K b B tc ac kd ((K + st - 1) * b) 0 lim' := by
  have hn := hC.2.1
  obtain ⟨b1, b2, b3⟩ := hL.1
  have eE : nI K + nI st - 1 = nI (K + st - 1) := by rw [nI_add, nI_prd (by omega) (by omega)]
  intro d
  induction d with
  | zero =>
    intro bt s lim N e hN h
    obtain ⟨N, rfl⟩ : ∃ M, N = M + 1 := ⟨N - 1, by omega⟩
    have eb : bt = K + st - 1 := by omega
    rw [eb] at h
    refine ⟨s, lim, lp_end ?_, h⟩
    show m_X7_goByTicks_L7 15 (nI K) (nI bt) s = _
    rw [m_X7_goByTicks_L7, gIk, h.1.1 9 2 (by omega), h92, eE, eb, if_pos (Int32.le_refl _)]
  | succ d ih =>
    intro bt s lim N e hN h
    obtain ⟨N, rfl⟩ : ∃ M, N = M + 1 := ⟨N - 1, by omega⟩
    obtain ⟨s1, lim1, k, hk, r1, r3⟩ := xbeat_go hC hT hL hO hK (show bt ≤ 2000 by omega) b 0 s lim (by omega) h
    have hb1 : (bt + 1) * b = bt * b + b := by rw [Nat.add_mul, Nat.one_mul]
    obtain ⟨s', lim', q1, q4⟩ := ih (bt + 1) s1 lim1 N (by omega) (by omega) (by rw [hb1]; exact r3)
    have hfull := ord_full (T := T) (n := n) (b := b) (fun v hv => (hL.2.1 v hv).1)
    rw [hfull] at r1
    have hin : lp (fun s : (Int32 × Sg) => m_X7_goByTicks_L25 15 (nI K) (nI bt) s.1 s.2) FU (0, s) = some s1 := by
      have hk2 : k + 1 ≤ FU := by
        have : k + 1 < FU := FU_lt (by omega)
        omega
      have r := r1 (FU - k)
      rw [show FU - k + k = FU by omega] at r
      have r' : lp (fun s : (Int32 × Sg) => m_X7_goByTicks_L25 15 (nI K) (nI bt) s.1 s.2) FU (0, s) = lp (fun s : (Int32 × Sg) => m_X7_goByTicks_L25 15 (nI K) (nI bt) s.1 s.2) (FU - k) (nI n, s1) := r
      rw [r', show FU - k = (FU - k - 1) + 1 by omega]
      refine lp_end ?_
      show m_X7_goByTicks_L25 15 (nI K) (nI bt) (nI n) s1 = _
      rw [m_X7_goByTicks_L25, gIk, r3.1.1 1 0 (by omega), hC.1, if_pos (Int32.le_refl _)]
    have X1 : m_X7_goByTicks_L7 15 (nI K) (nI bt) s = some (.inl (nI (bt + 1), s1)) := by
      rw [m_X7_goByTicks_L7, gIk, h.1.1 9 2 (by omega), h92, eE, if_neg (nI_ge (show bt < K + st - 1 by omega) (by omega)), nmk, lpk, hin, ← nI_1]
      rfl
    refine ⟨s', lim', ?_, q4⟩
    rw [lp_next (s' := (nI (bt + 1), s1)) (by exact X1)]
    exact q1
end LXL
/-- a run's end, told by a plain run's trace -/
def FinX (j : Nat) (s0 s : Sg) (Ep : Nat → Int64) (Rt : Nat → Nat → Nat → Int64) (n K tc ac : Nat) (kd : Int32) : Prop := FrR j s0 s ∧ (∀ x u, x < n → u < tc → gL s 13 3 (16 * (4 + u) + x) = Ep (16 * (4 + u) + x)) ∧ (∀ sl i, sl < 8 → i < 40 → gL s 5 2 (40 * sl + i) = Rt tc ac (40 * sl + i)) ∧ gI s j 0 = kd ∧ gI s j 1 = (if kd = 0 then -1 else nI ac) ∧ gI s j 2 = (if kd = 0 then -1 else nI tc)
theorem pf_fin {j : Nat} {s0 s : Sg} {Rt : Nat → Nat → Nat → Int64} {n K tc ac : Nat} (h : PF j s0 s Rt n K tc ac) : FinX j s0 s (gL s 13 3) Rt n K tc ac (gI s j 0) := by
  obtain ⟨f, p1, p2, -, p4, p5, q⟩ := h
  refine ⟨f, fun _ _ _ _ => rfl, fun sl i _ _ => by rw [p2], rfl, ?_, ?_⟩
  · rcases q with ⟨q1, q2, q3, q4, q5⟩ | ⟨q1, q2, q3, q4, q5, q6⟩
    · rw [if_pos q1]; exact q4
    · rw [if_neg q3]; exact q4
  · rcases q with ⟨q1, q2, q3, q4, q5⟩ | ⟨q1, q2, q3, q4, q5, q6⟩
    · rw [if_pos q1]; exact q5
    · rw [if_neg q3]; exact q5
theorem lx_fin {s0 s : Sg} {Ep : Nat → Int64} {Rt : Nat → Nat → Nat → Int64} {n K b tc ac now lim : Nat} {B : Nat → Nat} {kd : Int32} (hC : XC s0 n) (hT : TrX s0 Ep Rt n K tc ac kd) (hall : ∀ x u, x < n → u < K → B x + u * b < now) (h : LX s0 s Ep Rt n K b B tc ac kd now 0 lim) : FinX 15 s0 s Ep Rt n K tc ac kd := by
  have hn := hC.2.1
  have hn0 := hC.2.2.1
  have hs := tr_stop hT
  obtain ⟨f, p1, e, r, q⟩ := h
  have bf : ∀ x u, x < n → u < K → bfr B b now 0 x u := fun x u hx hu => Or.inl (hall x u hx hu)
  have key : gI s 15 0 = kd ∧ gI s 15 1 = (if kd = 0 then -1 else nI ac) ∧ gI s 15 2 = (if kd = 0 then -1 else nI tc) := by
    obtain ⟨-, -, -, t4⟩ := hT
    rcases q with ⟨q1, q2, q3, q4, q5⟩ | ⟨a', t', q1, q2, q3, q4, q5, q6, q7, q8, q9⟩
    · rcases t4 with ⟨y1, y2, y3⟩ | ⟨y1, y2, y3, y4⟩
      · rw [if_pos y1, if_pos y1]
        exact ⟨q1.trans y1.symm, q2, q3⟩
      · exact absurd (bf ac tc y2 y1) (q5 y1)
    · rcases t4 with ⟨y1, y2, y3⟩ | ⟨y1, y2, y3, y4⟩
      · omega
      · obtain ⟨z1, z2⟩ := q9 (bf ac tc y2 y1)
        have e1 : t' = tc := by omega
        have e2 : a' = ac := by omega
        rw [if_neg y3, if_neg y3, ← e1, ← e2]
        exact ⟨z2, q2, q3⟩
  refine ⟨f, fun x u hx hu => e x u hx (by omega) (bf x u hx (by omega)) (by omega), fun sl i hsl hi => ?_, key.1, key.2.1, key.2.2⟩
  obtain ⟨pu, px, r1, r2, r3⟩ := r sl hsl
  rw [r3 i hi]
  refine (rt_same hC hT r1 (show CutX n tc ac tc ac from ⟨by omega, Or.inr ⟨rfl, Nat.le_refl _⟩⟩) (fun c u hc hu c5 cs => ?_) i hi).symm
  rw [← r2 c u hc hu c5 cs]
  refine ⟨fun ⟨_, k⟩ => by omega, fun k => ⟨bf c u hc hu, by omega⟩⟩
/-- a laid run of the class, told by the plain run's trace -/
theorem xlaid {s0 s : Sg} {Ep : Nat → Int64} {Rt : Nat → Nat → Nat → Int64} {n K b tc ac : Nat} {B T S : Nat → Nat} {kd : Int32} (hC : XC s0 n) (hT : TrX s0 Ep Rt n K tc ac kd) (hL : XL s0 n b B T S) (hO : RowL (gA s0 9 10) (ordL b T n)) (hK : K ≤ 200) (h92 : gI s0 9 2 = nI (1 + mxN S n)) (hKs : 1 + mxN S n ≤ K) (f : FrR 15 s0 s) (p1 : ∀ q x, q < 4 → x < 16 → gL s 13 3 (16 * q + x) = gL s0 1 9 x) (hR : ∀ sl i, sl < 8 → i < 40 → gL s 5 2 (40 * sl + i) = Rt 0 0 (40 * sl + i)) (i0 : gI s 15 0 = 0) (i1 : gI s 15 1 = -1) (i2 : gI s 15 2 = -1) : ∃ s', m_X7_goByTicks 15 (nI K) s = some ((), s') ∧ FinX 15 s0 s' Ep Rt n K tc ac kd := by
  have hn := hC.2.1
  have hn0 := hC.2.2.1
  have hs := tr_stop hT
  obtain ⟨⟨b1, b2, b3⟩, l1, -, -, -⟩ := id hL
  have hS960 := mxN_le (S := S) (M := 960) (n := n) (fun v hv => (l1 v hv).2.1)
  have z : ∀ k, k ≠ 5 → gI (pI s 15 5 1) 15 k = gI s 15 k := fun k hk => by rw [gI_pI, if_pos rfl, if_neg hk]
  have nob : ∀ x u, ¬ bfr B b (0 * b) 0 x u := fun x u k => by
    unfold bfr at k
    omega
  have h0 : LX s0 (pI s 15 5 1) Ep Rt n K b B tc ac kd (0 * b) 0 (16 * K) := by
    refine ⟨f.trans (frR_I 15 _ _ _), p1, fun x u _ _ k _ => absurd k (nob x u), fun sl hsl => ⟨0, 0, ⟨Nat.zero_le _, by omega⟩, fun c u _ _ _ _ => ?_, fun i hi => hR sl i hsl hi⟩, Or.inl ⟨?_, ?_, ?_, rfl, fun _ => nob ac tc⟩⟩
    · refine ⟨fun k => absurd k.1 (nob c u), fun k => by omega⟩
    · rw [z 0 (by omega)]; exact i0
    · rw [z 1 (by omega)]; exact i1
    · rw [z 2 (by omega)]; exact i2
  obtain ⟨s', lim, k1, k4⟩ := xall_go hC hT hL hO hK (show 1 + mxN S n ≤ 961 by omega) (by omega) h92 (K + (1 + mxN S n) - 1) 0 (pI s 15 5 1) (16 * K) FU (by omega) (FU_lt (by omega)) h0
  have k1' : lp (fun s : (Int32 × Sg) => m_X7_goByTicks_L7 15 (nI K) s.1 s.2) FU (0, pI s 15 5 1) = some s' := k1
  refine ⟨s', ?_, lx_fin hC hT (fun x u hx hu => ?_) k4⟩
  · rw [m_X7_goByTicks, sIk, nmk, lpk, k1']
  · obtain ⟨t1, t2, t3, t4, t6⟩ := l1 x hx
    have m1 := mxN_ge (S := S) hx
    have m2 := Nat.mul_le_mul_left b (show S x + 1 + u ≤ K + (1 + mxN S n) - 1 by omega)
    rw [Nat.mul_add, Nat.mul_add, Nat.mul_one] at m2
    rw [t6, Nat.mul_comm (K + (1 + mxN S n) - 1) b, Nat.mul_comm u b]
    omega
