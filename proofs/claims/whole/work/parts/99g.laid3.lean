-- 99g.laid3: the loops of a laid run
def Rc {σ ρ : Type} (step : σ → Option (σ ⊕ ρ)) (s s' : σ) (k : Nat) : Prop := ∀ N, lp step (N + k) s = lp step N s'
theorem Rc.refl {σ ρ : Type} (step : σ → Option (σ ⊕ ρ)) (s : σ) : Rc step s s 0 := fun _ => rfl
theorem Rc.one {σ ρ : Type} {step : σ → Option (σ ⊕ ρ)} {s s' : σ} (h : step s = some (.inl s')) : Rc step s s' 1 := fun _ => lp_next h
theorem Rc.trans {σ ρ : Type} {step : σ → Option (σ ⊕ ρ)} {s s' s'' : σ} {k m : Nat} (h : Rc step s s' k) (g : Rc step s' s'' m) : Rc step s s'' (k + m) := fun N => by
  rw [show N + (k + m) = (N + m) + k by omega, h, g]
theorem cn_add {p q r : Nat → Bool} : ∀ {k : Nat}, (∀ v, v < k → (r v = true ↔ (p v = true ∨ q v = true)) ∧ ¬ (p v = true ∧ q v = true)) → cnB r k = cnB p k + cnB q k
  | 0, _ => rfl
  | k + 1, h => by
    have ih := cn_add (p := p) (q := q) (r := r) (k := k) (fun v hv => h v (by omega))
    obtain ⟨h1, h2⟩ := h k (by omega)
    show cnB r k + (if r k = true then 1 else 0) = cnB p k + (if p k = true then 1 else 0) + (cnB q k + (if q k = true then 1 else 0))
    by_cases c : p k = true
    · have d : ¬ q k = true := fun d => h2 ⟨c, d⟩
      rw [if_pos c, if_neg d, if_pos (h1.mpr (Or.inl c))]
      omega
    · by_cases d : q k = true
      · rw [if_neg c, if_pos d, if_pos (h1.mpr (Or.inr d))]
        omega
      · rw [if_neg c, if_neg d, if_neg (fun z => by
          rcases h1.mp z with z | z
          · exact c z
          · exact d z)]
        omega
theorem filt_len (p : Nat → Bool) : ∀ n, ((List.range n).filter p).length = cnB p n
  | 0 => rfl
  | n + 1 => by
    rw [List.range_succ, List.filter_append, List.length_append, filt_len p n]
    show cnB p n + _ = cnB p n + (if p n = true then 1 else 0)
    by_cases c : p n = true
    · rw [if_pos c, List.filter_cons_of_pos c]; rfl
    · rw [if_neg c, List.filter_cons_of_neg c]; rfl
theorem ord_len (T : Nat → Nat) (n : Nat) : ∀ r, (ordL r T n).length = cnB (fun v => decide (T v < r)) n
  | 0 => by
    have : cnB (fun v => decide (T v < 0)) n = 0 := by
      have := cn_mono (p := fun v => decide (T v < 0)) (q := fun _ => false) (k := n) (fun v _ h => by simp at h)
      have z : ∀ k, cnB (fun _ => false) k = 0 := fun k => by
        induction k with
        | zero => rfl
        | succ k ih => show cnB (fun _ => false) k + _ = 0; rw [ih]; rfl
      rw [z] at this
      omega
    rw [this]
    rfl
  | r + 1 => by
    rw [ord_s, List.length_append, ord_len T n r, filt_len]
    refine (cn_add (fun v _ => ?_)).symm
    simp only [decide_eq_true_eq]
    omega
theorem ord_full {T : Nat → Nat} {n b : Nat} (h : ∀ v, v < n → T v < b) : (ordL b T n).length = n := by
  rw [ord_len]
  have a := cn_le (fun v => decide (T v < b)) n
  have t : ∀ k, cnB (fun _ => true) k = k := fun k => by
    induction k with
    | zero => rfl
    | succ k ih => show cnB (fun _ => true) k + _ = k + 1; rw [ih]; rfl
  have c := cn_mono (p := fun _ => true) (q := fun v => decide (T v < b)) (k := n) (fun v hv _ => by simpa using h v hv)
  rw [t] at c
  omega
theorem ord_pre {T : Nat → Nat} {n : Nat} : ∀ {b r : Nat}, r ≤ b → ∃ l, ordL b T n = ordL r T n ++ l
  | 0, r, h => ⟨[], by rw [show r = 0 by omega, List.append_nil]⟩
  | b + 1, r, h => by
    by_cases c : r = b + 1
    · exact ⟨[], by rw [c, List.append_nil]⟩
    · obtain ⟨l, hl⟩ := ord_pre (T := T) (n := n) (b := b) (r := r) (by omega)
      exact ⟨l ++ (List.range n).filter (fun a => decide (T a = b)), by rw [ord_s, hl, List.append_assoc]⟩
theorem ordP_pre {T : Nat → Nat} {n r : Nat} : ∀ {m i : Nat}, i ≤ m → ∃ l, ordP r m T n = ordP r i T n ++ l
  | 0, i, h => ⟨[], by rw [show i = 0 by omega, List.append_nil]⟩
  | m + 1, i, h => by
    by_cases c : i = m + 1
    · exact ⟨[], by rw [c, List.append_nil]⟩
    · obtain ⟨l, hl⟩ := ordP_pre (T := T) (n := n) (r := r) (m := m) (i := i) (by omega)
      rw [ordP_s]
      by_cases d : T m = r
      · exact ⟨l ++ [m], by rw [if_pos d, hl, List.append_assoc]⟩
      · exact ⟨l, by rw [if_neg d, hl]⟩
/-- act a stands in the order where the class looks for it -/
theorem ord_at {T : Nat → Nat} {n b r a : Nat} {f : Nat → Int32} (h : RowL f (ordL b T n)) (hT : ∀ v, v < n → T v < b) (hr : r < b) (ha : a < n) (hTa : T a = r) : (ordP r a T n).length < n ∧ f (ordP r a T n).length = nI a := by
  obtain ⟨l1, e1⟩ := ord_pre (T := T) (n := n) (show r + 1 ≤ b by omega)
  rw [← ordP_n] at e1
  obtain ⟨l2, e2⟩ := ordP_pre (T := T) (n := n) (r := r) (show a + 1 ≤ n by omega)
  rw [e2, ordP_s, if_pos hTa, List.append_assoc, List.append_assoc] at e1
  have hl := ord_full hT
  have hlt : (ordP r a T n).length < (ordL b T n).length := by
    rw [e1, List.length_append]
    show (ordP r a T n).length < (ordP r a T n).length + ([a] ++ (l2 ++ l1)).length
    rw [List.length_append]
    have : [a].length = 1 := rfl
    omega
  refine ⟨by omega, ?_⟩
  rw [h _ hlt]
  congr 1
  have e3 : (ordL b T n)[(ordP r a T n).length]? = some a := by
    rw [e1, List.getElem?_append_right (Nat.le_refl _), Nat.sub_self]
    rfl
  rw [List.getElem?_eq_getElem hlt] at e3
  exact Option.some.inj e3
section L3
variable {sx0 sm0 : Sg} {n j K b : Nat} {B T S : Nat → Nat}
theorem lj_tick {sx sm : Sg} {now lim : Nat} (h : LJ j sx0 sm0 sx sm n K b B now n lim) : LJ j sx0 sm0 sx sm n K b B (now + 1) 0 lim := by
  obtain ⟨f, g, e, p3, p4, p1, p2, p0, p5, q⟩ := h
  refine ⟨f, g, ⟨e.1, fun x u hd => e.2.1 x u ?_, e.2.2⟩, p3, p4, p1, p2, p0, p5, ?_⟩
  · obtain ⟨d1, d2, d3, d4⟩ := hd
    refine ⟨d1, d2, ?_, d4⟩
    unfold bfr at d3 ⊢
    omega
  · rcases q with q | ⟨a', t', q1, q2, q3, q4, q5, q6, q7⟩
    · exact Or.inl q
    · refine Or.inr ⟨a', t', q1, q2, q3, q4, q5, q6, ?_⟩
      unfold bfr at q7 ⊢
      omega
/-- a tick, on both sides -/
theorem tick_go (hj : j = 14 ∨ j = 15 ∨ j = 16) (hC : RunC sx0 sm0 n) (hL : LayC sx0 sm0 n b B T S) (hO : RowL (gA sx0 9 10) (ordL b T n)) (hK : K ≤ 200) {bt r : Nat} (hbt : bt ≤ 2000) (hr : r < b) (x1 x3 : Int32) : ∀ (d a : Nat) (sx sm : Sg) (lim N' : Nat), a + d = n → d < N' → LJ j sx0 sm0 sx sm n K b B (bt * b + r) a lim → ∃ sx' sm' lim' k, k ≤ d ∧ Rc (fun s : (Int32 × Sg) => m_X7_goByTicks_L25 j (nI K) (nI bt) s.1 s.2) (nI (ordP r a T n).length, sx) (nI (ordP r n T n).length, sx') k ∧ lp (fun s : (Int32 × Int32 × Sg) => m_X12_laid_L69 x1 x3 (nI (bt * b + r)) s.1 s.2.1 s.2.2) N' (nI lim, nI a, sm) = some (nI lim', sm') ∧ LJ j sx0 sm0 sx' sm' n K b B (bt * b + r) n lim' := by
  have hn := hC.2.2.2.2.1
  intro d
  induction d with
  | zero =>
    intro a sx sm lim N' e n2 h
    obtain ⟨N', rfl⟩ : ∃ M, N' = M + 1 := ⟨N' - 1, by omega⟩
    have ea : a = n := by omega
    subst ea
    refine ⟨sx, sm, lim, 0, Nat.le_refl _, Rc.refl _ _, lp_end ?_, h⟩
    show m_X12_laid_L69 x1 x3 (nI (bt * b + r)) (nI lim) (nI a) sm = _
    rw [m_X12_laid_L69, gIk, h.2.1.1 9 (by omega), hC.2.2.1, if_pos (Int32.le_refl _)]
  | succ d ih =>
    intro a sx sm lim N' e n2 h
    obtain ⟨N', rfl⟩ : ∃ M, N' = M + 1 := ⟨N' - 1, by omega⟩
    have ha : a < n := by omega
    by_cases c : T a = r
    · obtain ⟨o1, o2⟩ := ord_at hO (fun v hv => (hL.2.1 v hv).1) hr ha c
      obtain ⟨sx1, sm1, lim1, k1, k2, k3⟩ := both_step hj hC hL hK hbt (show bt * b + r = bt * b + T a by rw [c]) ha o1 o2 h x1 x3
      obtain ⟨sx', sm', lim', k, hk, r1, r2, r3⟩ := ih (a + 1) sx1 sm1 lim1 N' (by omega) (by omega) k3
      have el : (ordP r (a + 1) T n).length = (ordP r a T n).length + 1 := by rw [ordP_s, if_pos c, List.length_append]; rfl
      rw [el] at r1
      refine ⟨sx', sm', lim', 1 + k, by omega, Rc.trans (Rc.one (by exact k1)) r1, ?_, r3⟩
      rw [lp_next (s' := (nI lim1, nI (a + 1), sm1)) (by exact k2)]
      exact r2
    · obtain ⟨k2, k3⟩ := m_none hC hL hbt hr rfl ha c h x1 x3
      obtain ⟨sx', sm', lim', k, hk, r1, r2, r3⟩ := ih (a + 1) sx sm lim N' (by omega) (by omega) k3
      have el : ordP r (a + 1) T n = ordP r a T n := by rw [ordP_s, if_neg c]
      rw [el] at r1
      refine ⟨sx', sm', lim', k, by omega, r1, ?_, r3⟩
      rw [lp_next (s' := (nI lim, nI (a + 1), sm)) (by exact k2)]
      exact r2
end L3
