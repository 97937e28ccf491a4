-- 65.perm: the class's list of edges is the reference's in another order
theorem fm_perm {G H : Nat → List Ed} : ∀ n, (∀ b, b < n → (G b).Perm (H b)) → ((List.range n).flatMap G).Perm ((List.range n).flatMap H)
  | 0, _ => by simp
  | n + 1, h => by
    rw [fm_succ, fm_succ]
    exact (fm_perm n (fun b hb => h b (by omega))).append (h n (by omega))
theorem fm_split (R T : Nat → List Ed) : ∀ n, ((List.range n).flatMap (fun a => R a ++ T a)).Perm ((List.range n).flatMap R ++ (List.range n).flatMap T)
  | 0 => by simp
  | n + 1 => by
    rw [fm_succ, fm_succ, fm_succ]
    have ih := fm_split R T n
    have h1 : ((List.range n).flatMap (fun a => R a ++ T a) ++ (R n ++ T n)).Perm (((List.range n).flatMap R ++ (List.range n).flatMap T) ++ (R n ++ T n)) := ih.append_right _
    refine h1.trans ?_
    rw [List.append_assoc, List.append_assoc, ← List.append_assoc ((List.range n).flatMap T)]
    refine List.Perm.append_left _ ?_
    refine (List.Perm.append_right _ List.perm_append_comm).trans ?_
    rw [List.append_assoc]
theorem fm_cut {R C : Nat → List Ed} {b : Nat} (h1 : ∀ a, a < b → R a = C a) (h2 : ∀ a, ¬ a < b → R a = []) : ∀ n, b ≤ n → (List.range n).flatMap R = (List.range b).flatMap C := by
  have h3 : ∀ m, m ≤ b → (List.range m).flatMap R = (List.range m).flatMap C := by
    intro m
    induction m with
    | zero => intro _; rfl
    | succ m ih =>
      intro hm
      rw [fm_succ, fm_succ, ih (by omega), h1 m (by omega)]
  intro n
  induction n with
  | zero =>
    intro hb
    have : b = 0 := by omega
    subst this
    rfl
  | succ n ih =>
    intro hb
    by_cases e : b = n + 1
    · rw [h3 (n + 1) (by omega), e]
    · rw [fm_succ, ih (by omega), h2 n (by omega), List.append_nil]
theorem fm_nil {T : Nat → List Ed} (h : ∀ a, T a = []) : ∀ n, (List.range n).flatMap T = []
  | 0 => rfl
  | n + 1 => by rw [fm_succ, fm_nil h n, h n]; rfl
theorem one_perm {n : Nat} (sort lag slot ofs back : Nat → Int32) {b : Nat} (hb : b < n) : (oneX n sort lag slot ofs back b).Perm (oneM n sort lag slot ofs back b) := by
  unfold oneX oneM
  have e1 : (List.range n).flatMap (fun a => if a < b ∧ (sort a = 4 ∨ sort a = 5) ∧ (sort b = 4 ∨ sort b = 5) ∧ slot a = slot b ∧ (sort a = 5 ∨ sort b = 5) then [((nI a, nI b, 1, 0) : Ed), (nI b, nI a, 1, 1)] else []) = clashE sort slot b := by
    refine fm_cut (C := fun a => if (sort a = 4 ∨ sort a = 5) ∧ (sort b = 4 ∨ sort b = 5) ∧ slot a = slot b ∧ (sort a = 5 ∨ sort b = 5) then [((nI a, nI b, 1, 0) : Ed), (nI b, nI a, 1, 1)] else []) (fun a ha => ?_) (fun a ha => ?_) n (by omega)
    · by_cases c : (sort a = 4 ∨ sort a = 5) ∧ (sort b = 4 ∨ sort b = 5) ∧ slot a = slot b ∧ (sort a = 5 ∨ sort b = 5)
      · rw [if_pos c, if_pos ⟨ha, c⟩]
      · rw [if_neg c, if_neg (fun q => c q.2)]
    · exact if_neg (fun q => ha q.1)
  have h2 := fm_split (fun a => if a < b ∧ (sort a = 4 ∨ sort a = 5) ∧ (sort b = 4 ∨ sort b = 5) ∧ slot a = slot b ∧ (sort a = 5 ∨ sort b = 5) then [((nI a, nI b, 1, 0) : Ed), (nI b, nI a, 1, 1)] else []) (fun a => if sort b = 5 ∧ a ≠ b ∧ (sort a = 3 ∨ sort a = 4 ∨ sort a = 5) then (if a < b then [((nI a, nI b, 1, 0) : Ed)] else []) ++ [(nI a, nI b, 1, 1)] else []) n
  rw [e1] at h2
  have h3 : ((List.range n).flatMap (fun a => twoE sort slot a b)).Perm (clashE sort slot b ++ (List.range n).flatMap (fun a => if sort b = 5 ∧ a ≠ b ∧ (sort a = 3 ∨ sort a = 4 ∨ sort a = 5) then (if a < b then [((nI a, nI b, 1, 0) : Ed)] else []) ++ [(nI a, nI b, 1, 1)] else [])) := h2
  rw [List.append_assoc, List.append_assoc]
  refine List.Perm.append_left _ ?_
  by_cases c : sort b = 5
  · rw [if_pos c, if_pos c]
    have e2 : (List.range n).flatMap (fun a => if sort b = 5 ∧ a ≠ b ∧ (sort a = 3 ∨ sort a = 4 ∨ sort a = 5) then (if a < b then [((nI a, nI b, 1, 0) : Ed)] else []) ++ [(nI a, nI b, 1, 1)] else []) = (List.range n).flatMap (fun a => if a ≠ b ∧ (sort a = 3 ∨ sort a = 4 ∨ sort a = 5) then (if a < b then [((nI a, nI b, 1, 0) : Ed)] else []) ++ [(nI a, nI b, 1, 1)] else []) := by
      congr 1
      funext a
      by_cases q : a ≠ b ∧ (sort a = 3 ∨ sort a = 4 ∨ sort a = 5)
      · rw [if_pos q, if_pos ⟨c, q⟩]
      · rw [if_neg q, if_neg (fun z => q z.2)]
    rw [e2] at h3
    unfold storeE
    refine List.Perm.trans ?_ (List.Perm.append_left _ h3.symm)
    exact List.perm_middle
  · rw [if_neg c, if_neg c, List.append_nil, List.nil_append]
    rw [fm_nil (T := fun a => if sort b = 5 ∧ a ≠ b ∧ (sort a = 3 ∨ sort a = 4 ∨ sort a = 5) then (if a < b then [((nI a, nI b, 1, 0) : Ed)] else []) ++ [(nI a, nI b, 1, 1)] else []) (fun a => if_neg (fun q => c q.1)) n, List.append_nil] at h3
    exact h3.symm
theorem ed_perm (n : Nat) (sort lag slot ofs back : Nat → Int32) : (edX n sort lag slot ofs back).Perm (edM n sort lag slot ofs back) :=
  fm_perm n (fun _ hb => one_perm sort lag slot ofs back hb)
