-- machine layer (written by gen.py)
def V_X9_joinRow_L3 (C : Cm) (E : Ev) (x1 : Int32) (x2 : Int32) (x3 : Int32) (x4 : Int32) (s : (Int32 × Sg)) : Prop := Vat C (wX E) 8 3 [(0, .ref (oX E 6)), (1, .int x1), (2, .int x2), (3, .int x3), (4, .int x4), (5, .int s.1)] [] s.2
def K_X9_joinRow_L3 (C : Cm) (E : Ev) (x1 : Int32) (x2 : Int32) (x3 : Int32) (x4 : Int32) : (Sg) → Prop := (fun r : (Sg) => Vat C (wX E) 8 67 [] [] r)
set_option maxHeartbeats 4000000 in
set_option maxRecDepth 100000 in
theorem b_X9_joinRow_L3 {C : Cm} {E : Ev} (cx : Cx C (tyE E) cX9_joinRow RX9 8 1 15) (x1 : Int32) (x2 : Int32) (x3 : Int32) (x4 : Int32) : ∀ (s : (Int32 × Sg)) (out : (Int32 × Sg) ⊕ (Sg)), m_X9_joinRow_L3 x1 x2 x3 x4 s.1 s.2 = some out → Sum.elim (V_X9_joinRow_L3 C E x1 x2 x3 x4) (K_X9_joinRow_L3 C E x1 x2 x3 x4) out → V_X9_joinRow_L3 C E x1 x2 x3 x4 s := by
  intro s out h hk
  obtain ⟨x5, st⟩ := s
  show Vat C (wX E) 8 3 [(0, .ref (oX E 6)), (1, .int x1), (2, .int x2), (3, .int x3), (4, .int x4), (5, .int x5)] [] st
  replace h : m_X9_joinRow_L3 x1 x2 x3 x4 x5 st = some out := h
  unfold m_X9_joinRow_L3 at h
  refine v_iload 5 5 cx dX9_joinRow_3 rfl rfl ?_
  refine v_iload 7 4 cx dX9_joinRow_5 rfl rfl ?_
  refine v_icmp_ge 67 10 cx dX9_joinRow_7 (by decide) rfl h (fun h => ?_) (fun h => ?_)
  · cases h
    have hk : Vat C (wX E) 8 67 [] [] st := hk
    exact v_lsub (lv' := []) [] rfl (hk)
  · refine v_aload_n 11 0 cx dX9_joinRow_10 rfl rfl rfl ?_
    refine v_get 14 6 1 cx dX9_joinRow_11 iX9 (wXo_6 E st) rfl (Nat.le_of_ble_eq_true rfl) rfl kf_X9_15 rfl rfl ?_
    refine v_iload_n 15 3 cx dX9_joinRow_14 rfl rfl rfl ?_
    refine v_bipush 17 cx dX9_joinRow_15 bp_16 rfl ?_
    refine v_imul 18 cx dX9_joinRow_17 rfl ?_
    refine v_iload 20 5 cx dX9_joinRow_18 rfl rfl ?_
    refine v_iadd 21 cx dX9_joinRow_20 rfl ?_
    refine v_iald 22 40 0 cx dX9_joinRow_21 (wXa_6_1 E st) rfl rfl h (fun v2 h => ?_)
    refine v_istore 24 (fun a3 => [(6, .int a3), (0, .ref (oX E 6)), (1, .int x1), (2, .int x2), (3, .int x3), (4, .int x4), (5, .int x5)]) cx dX9_joinRow_22 (by decide) (fun _ => rfl) rfl h (fun a3 h => ?_)
    refine v_iload 26 0 cx dX9_joinRow_24 rfl rfl ?_
    refine v_ldc 28 cx dX9_joinRow_26 kc_X9_18 rfl ?_
    refine v_icmp_eq 61 31 cx dX9_joinRow_28 (by decide) rfl h (fun h => ?_) (fun h => ?_)
    · refine v_iinc 64 6 (fun a4 => [(5, .int a4), (6, .int a3), (0, .ref (oX E 6)), (1, .int x1), (2, .int x2), (3, .int x3), (4, .int x4)]) cx dX9_joinRow_61 rfl ic_1 (by decide) (fun _ => rfl) rfl h (fun a4 h => ?_)
      refine v_goto 3 cx dX9_joinRow_64 (by decide) ?_
      cases h
      have hk : Vat C (wX E) 8 3 [(0, .ref (oX E 6)), (1, .int x1), (2, .int x2), (3, .int x3), (4, .int x4), (5, .int a4)] [] st := hk
      exact v_lsub (lv' := [(0, .ref (oX E 6)), (1, .int x1), (2, .int x2), (3, .int x3), (4, .int x4), (5, .int a4)]) [2, 3, 4, 5, 6, 0] rfl (hk)
    · refine v_iload_n 32 2 cx dX9_joinRow_31 rfl rfl rfl ?_
      refine v_bipush 34 cx dX9_joinRow_32 bp_16 rfl ?_
      refine v_imul 35 cx dX9_joinRow_34 rfl ?_
      refine v_iload 37 6 cx dX9_joinRow_35 rfl rfl ?_
      refine v_iadd 38 cx dX9_joinRow_37 rfl ?_
      refine v_istore 40 (fun a5 => [(7, .int a5), (6, .int a3), (0, .ref (oX E 6)), (1, .int x1), (2, .int x2), (3, .int x3), (4, .int x4), (5, .int x5)]) cx dX9_joinRow_38 (by decide) (fun _ => rfl) rfl h (fun a5 h => ?_)
      refine v_aload_n 41 2 cx dX9_joinRow_40 rfl rfl rfl ?_
      refine v_get 44 6 1 cx dX9_joinRow_41 iX9 (wXo_6 E st) rfl (Nat.le_of_ble_eq_true rfl) rfl kf_X9_15 rfl rfl ?_
      refine v_iload 46 0 cx dX9_joinRow_44 rfl rfl ?_
      refine v_aload_n 47 2 cx dX9_joinRow_46 rfl rfl rfl ?_
      refine v_get 50 6 1 cx dX9_joinRow_47 iX9 (wXo_6 E st) rfl (Nat.le_of_ble_eq_true rfl) rfl kf_X9_15 rfl rfl ?_
      refine v_iload 52 0 cx dX9_joinRow_50 rfl rfl ?_
      refine v_iald 53 40 0 cx dX9_joinRow_52 (wXa_6_1 E st) rfl rfl h (fun v6 h => ?_)
      refine v_iload_n 54 4 cx dX9_joinRow_53 rfl rfl rfl ?_
      refine v_iload 56 1 cx dX9_joinRow_54 rfl rfl ?_
      refine v_iadd 57 cx dX9_joinRow_56 rfl ?_
      refine v_mmax 60 cx dX9_joinRow_57 km_X9_43 kmax_s kmax_i kmax_c (by decide) (Nat.le_of_ble_eq_true rfl) rfl ?_
      refine v_iast 61 40 0 cx dX9_joinRow_60 (wXa_6_1 E st) rfl (wXt_6_1 E st) rfl h (fun s7 h => ?_)
      refine v_iinc 64 7 (fun a8 => [(5, .int a8), (7, .int a5), (6, .int a3), (0, .ref (oX E 6)), (1, .int x1), (2, .int x2), (3, .int x3), (4, .int x4)]) cx dX9_joinRow_61 rfl ic_1 (by decide) (fun _ => rfl) rfl h (fun a8 h => ?_)
      refine v_goto 3 cx dX9_joinRow_64 (by decide) ?_
      cases h
      have hk : Vat C (wX E) 8 3 [(0, .ref (oX E 6)), (1, .int x1), (2, .int x2), (3, .int x3), (4, .int x4), (5, .int a8)] [] s7 := hk
      exact v_lsub (lv' := [(0, .ref (oX E 6)), (1, .int x1), (2, .int x2), (3, .int x3), (4, .int x4), (5, .int a8)]) [3, 4, 5, 6, 7, 0] rfl (hk)
set_option maxHeartbeats 4000000 in
set_option maxRecDepth 100000 in
theorem c_X9_joinRow (l : Launch) (E : Ev) (st : Sg) (p1 : Int32) (p2 : Int32) (p3 : Int32) (p4 : Int32) : ∀ q, m_X9_joinRow p1 p2 p3 p4 st = some q → CtV l (wX E) (tyE E) yX9_joinRow cX9_joinRow 8 none 1 15 [.ref (oX E 6), .int p1, .int p2, .int p3, .int p4] st q := by
  intro q h
  refine ctV_of (lv0 := [(0, .ref (oX E 6)), (1, .int p1), (2, .int p2), (3, .int p3), (4, .int p4)]) (by decide) rfl (Nat.le_of_ble_eq_true rfl) (fun C hC cx hk => ?_)
  replace cx : Cx C (tyE E) cX9_joinRow RX9 8 1 15 := cx
  unfold m_X9_joinRow at h
  refine v_iconst 1 cx dX9_joinRow_0 ic_0 rfl ?_
  refine v_istore 3 (fun a1 => [(5, .int a1), (0, .ref (oX E 6)), (1, .int p1), (2, .int p2), (3, .int p3), (4, .int p4)]) cx dX9_joinRow_1 (by decide) (fun _ => rfl) rfl h (fun a1 h => ?_)
  refine v_lsub (lv' := [(0, .ref (oX E 6)), (1, .int p1), (2, .int p2), (3, .int p3), (4, .int p4), (5, .int a1)]) [1, 2, 3, 4, 5, 0] rfl ?_
  refine v_loop (s0 := (a1, st)) (V_X9_joinRow_L3 C E p1 p2 p3 p4) (K_X9_joinRow_L3 C E p1 p2 p3 p4) h (b_X9_joinRow_L3 cx p1 p2 p3 p4) (fun r9 h => ?_)
  show Vat C (wX E) 8 67 [] [] r9
  exact hk _ _ _ _ (Option.some.inj h) dX9_joinRow_67
def V_X9_joinBy_L2 (C : Cm) (E : Ev) (x1 : Int32) (x2 : Int32) (s : (Int32 × Sg)) : Prop := Vat C (wX E) 5 2 [(0, .ref (oX E 6)), (1, .int x1), (2, .int x2), (3, .int s.1)] [] s.2
def K_X9_joinBy_L2 (C : Cm) (E : Ev) (x1 : Int32) (x2 : Int32) : ((Sg) ⊕ (Sg)) → Prop := (Sum.elim (fun r : (Sg) => Vat C (wX E) 5 58 [] [] r) (fun r : (Sg) => Vat C (wX E) 5 50 [] [] r))
set_option maxHeartbeats 4000000 in
set_option maxRecDepth 100000 in
theorem j_X9_joinBy_36 {C : Cm} {E : Ev} (cx : Cx C (tyE E) cX9_joinBy RX9 5 2 42) (x1 : Int32) (x2 : Int32) (x3 : Int32) (st : Sg) (out : (Int32 × Sg) ⊕ ((Sg) ⊕ (Sg))) (h : m_X9_joinBy_36 x1 x2 x3 st = some out) (hk : Sum.elim (V_X9_joinBy_L2 C E x1 x2) (K_X9_joinBy_L2 C E x1 x2) out) : Vat C (wX E) 5 36 [(0, .ref (oX E 6)), (1, .int x1), (2, .int x2), (3, .int x3)] [] st := by
  unfold m_X9_joinBy_36 at h
  refine v_aload_n 37 0 cx dX9_joinBy_36 rfl rfl rfl ?_
  refine v_get 40 6 1 cx dX9_joinBy_37 iX9 (wXo_6 E st) rfl (Nat.le_of_ble_eq_true rfl) rfl kf_X9_15 rfl rfl ?_
  refine v_iload_n 41 3 cx dX9_joinBy_40 rfl rfl rfl ?_
  refine v_bipush 43 cx dX9_joinBy_41 bp_16 rfl ?_
  refine v_imul 44 cx dX9_joinBy_43 rfl ?_
  refine v_iload_n 45 3 cx dX9_joinBy_44 rfl rfl rfl ?_
  refine v_iadd 46 cx dX9_joinBy_45 rfl ?_
  refine v_iald 47 40 0 cx dX9_joinBy_46 (wXa_6_1 E st) rfl rfl h (fun v4 h => ?_)
  refine v_if_le 52 50 cx dX9_joinBy_47 (by decide) rfl h (fun h => ?_) (fun h => ?_)
  · refine v_iinc 55 3 (fun a5 => [(3, .int a5), (0, .ref (oX E 6)), (1, .int x1), (2, .int x2)]) cx dX9_joinBy_52 rfl ic_1 (by decide) (fun _ => rfl) rfl h (fun a5 h => ?_)
    refine v_goto 2 cx dX9_joinBy_55 (by decide) ?_
    cases h
    have hk : Vat C (wX E) 5 2 [(0, .ref (oX E 6)), (1, .int x1), (2, .int x2), (3, .int a5)] [] st := hk
    exact v_lsub (lv' := [(0, .ref (oX E 6)), (1, .int x1), (2, .int x2), (3, .int a5)]) [1, 2, 3, 0] rfl (hk)
  · cases h
    have hk : Vat C (wX E) 5 50 [] [] st := hk
    exact v_lsub (lv' := []) [] rfl (hk)
set_option maxHeartbeats 4000000 in
set_option maxRecDepth 100000 in
theorem b_X9_joinBy_L2 {C : Cm} {E : Ev} (cx : Cx C (tyE E) cX9_joinBy RX9 5 2 42) (x1 : Int32) (x2 : Int32) : ∀ (s : (Int32 × Sg)) (out : (Int32 × Sg) ⊕ ((Sg) ⊕ (Sg))), m_X9_joinBy_L2 x1 x2 s.1 s.2 = some out → Sum.elim (V_X9_joinBy_L2 C E x1 x2) (K_X9_joinBy_L2 C E x1 x2) out → V_X9_joinBy_L2 C E x1 x2 s := by
  intro s out h hk
  obtain ⟨x3, st⟩ := s
  show Vat C (wX E) 5 2 [(0, .ref (oX E 6)), (1, .int x1), (2, .int x2), (3, .int x3)] [] st
  replace h : m_X9_joinBy_L2 x1 x2 x3 st = some out := h
  unfold m_X9_joinBy_L2 at h
  refine v_iload_n 3 3 cx dX9_joinBy_2 rfl rfl rfl ?_
  refine v_iload_n 4 2 cx dX9_joinBy_3 rfl rfl rfl ?_
  refine v_icmp_ge 58 7 cx dX9_joinBy_4 (by decide) rfl h (fun h => ?_) (fun h => ?_)
  · cases h
    have hk : Vat C (wX E) 5 58 [] [] st := hk
    exact v_lsub (lv' := []) [] rfl (hk)
  · refine v_aload_n 8 0 cx dX9_joinBy_7 rfl rfl rfl ?_
    refine v_get 11 6 1 cx dX9_joinBy_8 iX9 (wXo_6 E st) rfl (Nat.le_of_ble_eq_true rfl) rfl kf_X9_15 rfl rfl ?_
    refine v_iload_n 12 3 cx dX9_joinBy_11 rfl rfl rfl ?_
    refine v_bipush 14 cx dX9_joinBy_12 bp_16 rfl ?_
    refine v_imul 15 cx dX9_joinBy_14 rfl ?_
    refine v_iload_n 16 1 cx dX9_joinBy_15 rfl rfl rfl ?_
    refine v_iadd 17 cx dX9_joinBy_16 rfl ?_
    refine v_iald 18 40 0 cx dX9_joinBy_17 (wXa_6_1 E st) rfl rfl h (fun v2 h => ?_)
    refine v_istore 20 (fun a3 => [(4, .int a3), (0, .ref (oX E 6)), (1, .int x1), (2, .int x2), (3, .int x3)]) cx dX9_joinBy_18 (by decide) (fun _ => rfl) rfl h (fun a3 h => ?_)
    refine v_iload 22 0 cx dX9_joinBy_20 rfl rfl ?_
    refine v_ldc 24 cx dX9_joinBy_22 kc_X9_18 rfl ?_
    refine v_icmp_eq 36 27 cx dX9_joinBy_24 (by decide) rfl h (fun h => ?_) (fun h => ?_)
    · exact v_lsub (lv' := [(0, .ref (oX E 6)), (1, .int x1), (2, .int x2), (3, .int x3)]) [1, 2, 3, 4] rfl (j_X9_joinBy_36 cx x1 x2 x3 st _ h hk)
    · refine v_aload_n 28 1 cx dX9_joinBy_27 rfl rfl rfl ?_
      refine v_iload_n 29 4 cx dX9_joinBy_28 rfl rfl rfl ?_
      refine v_iload 31 0 cx dX9_joinBy_29 rfl rfl ?_
      refine v_iload_n 32 2 cx dX9_joinBy_31 rfl rfl rfl ?_
      refine v_iload_n 33 3 cx dX9_joinBy_32 rfl rfl rfl ?_
      refine v_callVV 36 6 cx dX9_joinBy_33 km_X9_59 ca_X9_joinRow (wXo_6 E st) rfl (c_X9_joinRow C.2.1 E st x3 a3 x1 x2 ) rfl (by decide) rfl (Nat.le_of_ble_eq_true rfl) rfl h (fun _ s6 h => ?_)
      exact v_lsub (lv' := [(0, .ref (oX E 6)), (1, .int x1), (2, .int x2), (3, .int x3)]) [1, 2, 3, 4] rfl (j_X9_joinBy_36 cx x1 x2 x3 s6 _ h hk)
set_option maxHeartbeats 4000000 in
set_option maxRecDepth 100000 in
theorem c_X9_joinBy (l : Launch) (E : Ev) (st : Sg) (p1 : Int32) (p2 : Int32) : ∀ q, m_X9_joinBy p1 p2 st = some q → CtI l (wX E) (tyE E) yX9_joinBy cX9_joinBy 5 (some .boolean) 2 42 [.ref (oX E 6), .int p1, .int p2] st q := by
  intro q h
  refine ctZ_of (lv0 := [(0, .ref (oX E 6)), (1, .int p1), (2, .int p2)]) (by decide) rfl (Nat.le_of_ble_eq_true rfl) (fun C hC cx hk => ?_)
  replace cx : Cx C (tyE E) cX9_joinBy RX9 5 2 42 := cx
  unfold m_X9_joinBy at h
  refine v_iconst 1 cx dX9_joinBy_0 ic_0 rfl ?_
  refine v_istore_n 2 (fun a1 => [(3, .int a1), (0, .ref (oX E 6)), (1, .int p1), (2, .int p2)]) cx dX9_joinBy_1 rfl (by decide) (fun _ => rfl) rfl h (fun a1 h => ?_)
  refine v_lsub (lv' := [(0, .ref (oX E 6)), (1, .int p1), (2, .int p2), (3, .int a1)]) [1, 2, 3, 0] rfl ?_
  refine v_loop (s0 := (a1, st)) (V_X9_joinBy_L2 C E p1 p2) (K_X9_joinBy_L2 C E p1 p2) h (b_X9_joinBy_L2 cx p1 p2) (fun r7 h => ?_)
  rcases r7 with r7 | r7
  · rw [Sum.elim_inl] at h
    show Vat C (wX E) 5 58 [] [] r7
    refine v_iconst 59 cx dX9_joinBy_58 ic_1 rfl ?_
    exact hk _ _ _ _ (Option.some.inj h) (Or.inr rfl) dX9_joinBy_59
  · rw [Sum.elim_inr] at h
    show Vat C (wX E) 5 50 [] [] r7
    refine v_iconst 51 cx dX9_joinBy_50 ic_0 rfl ?_
    exact hk _ _ _ _ (Option.some.inj h) (Or.inl rfl) dX9_joinBy_51
def V_X9_join_L20 (C : Cm) (E : Ev) (x1 : Int32) (s : (Int32 × Sg)) : Prop := Vat C (wX E) 3 20 [(0, .ref (oX E 6)), (1, .int x1), (2, .int s.1)] [] s.2
def K_X9_join_L20 (C : Cm) (E : Ev) (x1 : Int32) : ((Sg) ⊕ (Sg)) → Prop := (Sum.elim (fun r : (Sg) => Vat C (wX E) 3 42 [] [] r) (fun r : (Sg) => Vat C (wX E) 3 34 [] [] r))
set_option maxHeartbeats 4000000 in
set_option maxRecDepth 100000 in
theorem b_X9_join_L20 {C : Cm} {E : Ev} (cx : Cx C (tyE E) cX9_join RX9 3 3 66) (x1 : Int32) : ∀ (s : (Int32 × Sg)) (out : (Int32 × Sg) ⊕ ((Sg) ⊕ (Sg))), m_X9_join_L20 x1 s.1 s.2 = some out → Sum.elim (V_X9_join_L20 C E x1) (K_X9_join_L20 C E x1) out → V_X9_join_L20 C E x1 s := by
  intro s out h hk
  obtain ⟨x2, st⟩ := s
  show Vat C (wX E) 3 20 [(0, .ref (oX E 6)), (1, .int x1), (2, .int x2)] [] st
  replace h : m_X9_join_L20 x1 x2 st = some out := h
  unfold m_X9_join_L20 at h
  refine v_iload_n 21 2 cx dX9_join_20 rfl rfl rfl ?_
  refine v_iload_n 22 1 cx dX9_join_21 rfl rfl rfl ?_
  refine v_icmp_ge 42 25 cx dX9_join_22 (by decide) rfl h (fun h => ?_) (fun h => ?_)
  · cases h
    have hk : Vat C (wX E) 3 42 [] [] st := hk
    exact v_lsub (lv' := []) [] rfl (hk)
  · refine v_aload_n 26 0 cx dX9_join_25 rfl rfl rfl ?_
    refine v_iload_n 27 2 cx dX9_join_26 rfl rfl rfl ?_
    refine v_iload_n 28 1 cx dX9_join_27 rfl rfl rfl ?_
    refine v_callVI 31 6 cx dX9_join_28 km_X9_55 ca_X9_joinBy (wXo_6 E st) rfl (c_X9_joinBy C.2.1 E st x2 x1 ) rfl (by decide) rfl (Nat.le_of_ble_eq_true rfl) rfl h (fun v4 s3 h => ?_)
    refine v_if_ne 36 34 cx dX9_join_31 (by decide) rfl h (fun h => ?_) (fun h => ?_)
    · refine v_iinc 39 2 (fun a5 => [(2, .int a5), (0, .ref (oX E 6)), (1, .int x1)]) cx dX9_join_36 rfl ic_1 (by decide) (fun _ => rfl) rfl h (fun a5 h => ?_)
      refine v_goto 20 cx dX9_join_39 (by decide) ?_
      cases h
      have hk : Vat C (wX E) 3 20 [(0, .ref (oX E 6)), (1, .int x1), (2, .int a5)] [] s3 := hk
      exact v_lsub (lv' := [(0, .ref (oX E 6)), (1, .int x1), (2, .int a5)]) [1, 2, 0] rfl (hk)
    · cases h
      have hk : Vat C (wX E) 3 34 [] [] s3 := hk
      exact v_lsub (lv' := []) [] rfl (hk)
set_option maxHeartbeats 4000000 in
set_option maxRecDepth 100000 in
theorem c_X9_join (l : Launch) (E : Ev) (st : Sg) (p1 : Int32) : ∀ q, m_X9_join p1 st = some q → CtI l (wX E) (tyE E) yX9_join cX9_join 3 (some .boolean) 3 66 [.ref (oX E 6), .int p1] st q := by
  intro q h
  refine ctZ_of (lv0 := [(0, .ref (oX E 6)), (1, .int p1)]) (by decide) rfl (Nat.le_of_ble_eq_true rfl) (fun C hC cx hk => ?_)
  replace cx : Cx C (tyE E) cX9_join RX9 3 3 66 := cx
  unfold m_X9_join at h
  refine v_aload_n 1 0 cx dX9_join_0 rfl rfl rfl ?_
  refine v_get 4 6 0 cx dX9_join_1 iX9 (wXo_6 E st) rfl (Nat.le_of_ble_eq_true rfl) rfl kf_X9_9 rfl rfl ?_
  refine v_iconst 5 cx dX9_join_4 ic_0 rfl ?_
  refine v_aload_n 6 0 cx dX9_join_5 rfl rfl rfl ?_
  refine v_get 9 6 1 cx dX9_join_6 iX9 (wXo_6 E st) rfl (Nat.le_of_ble_eq_true rfl) rfl kf_X9_15 rfl rfl ?_
  refine v_iconst 10 cx dX9_join_9 ic_0 rfl ?_
  refine v_aload_n 11 0 cx dX9_join_10 rfl rfl rfl ?_
  refine v_get 14 6 1 cx dX9_join_11 iX9 (wXo_6 E st) rfl (Nat.le_of_ble_eq_true rfl) rfl kf_X9_15 rfl rfl ?_
  refine v_alen 15 40 0 (v := Int32.ofNat 256) cx dX9_join_14 (wXa_6_1 E st) rfl rfl rfl ?_
  refine v_copyi 18 39 40 0 cx dX9_join_15 km_X9_49 kac_n kac_s kac_i (wXa_6_0 E st) (wXa_6_1 E st) rfl (wXt_6_1 E st) (by decide) (by decide +kernel) rfl h (fun s1 h => ?_)
  refine v_iconst 19 cx dX9_join_18 ic_0 rfl ?_
  refine v_istore_n 20 (fun a2 => [(2, .int a2), (0, .ref (oX E 6)), (1, .int p1)]) cx dX9_join_19 rfl (by decide) (fun _ => rfl) rfl h (fun a2 h => ?_)
  refine v_lsub (lv' := [(0, .ref (oX E 6)), (1, .int p1), (2, .int a2)]) [1, 2, 0] rfl ?_
  refine v_loop (s0 := (a2, s1)) (V_X9_join_L20 C E p1) (K_X9_join_L20 C E p1) h (b_X9_join_L20 cx p1) (fun r6 h => ?_)
  rcases r6 with r6 | r6
  · rw [Sum.elim_inl] at h
    show Vat C (wX E) 3 42 [] [] r6
    refine v_iconst 43 cx dX9_join_42 ic_1 rfl ?_
    exact hk _ _ _ _ (Option.some.inj h) (Or.inr rfl) dX9_join_43
  · rw [Sum.elim_inr] at h
    show Vat C (wX E) 3 34 [] [] r6
    refine v_iconst 35 cx dX9_join_34 ic_0 rfl ?_
    exact hk _ _ _ _ (Option.some.inj h) (Or.inl rfl) dX9_join_35
set_option maxHeartbeats 4000000 in
set_option maxRecDepth 100000 in
theorem c_X11_hasRingAt (l : Launch) (E : Ev) (st : Sg) (p1 : Int32) : ∀ q, m_X11_hasRingAt p1 st = some q → CtI l (wX E) (tyE E) yX11_hasRingAt cX11_hasRingAt 2 (some .boolean) 4 88 [.ref (oX E 0), .int p1] st q := by
  intro q h
  refine ctZ_of (lv0 := [(0, .ref (oX E 0)), (1, .int p1)]) (by decide) rfl (Nat.le_of_ble_eq_true rfl) (fun C hC cx hk => ?_)
  replace cx : Cx C (tyE E) cX11_hasRingAt RX11 2 4 88 := cx
  unfold m_X11_hasRingAt at h
  refine v_aload_n 1 0 cx dX11_hasRingAt_0 rfl rfl rfl ?_
  refine v_get 4 0 3 cx dX11_hasRingAt_1 iX11 (wXo_0 E st) rfl (Nat.le_of_ble_eq_true rfl) rfl kf_X11_33 rfl rfl ?_
  refine v_aload_n 5 0 cx dX11_hasRingAt_4 rfl rfl rfl ?_
  refine v_get 8 0 1 cx dX11_hasRingAt_5 iX11 (wXo_0 E st) rfl (Nat.le_of_ble_eq_true rfl) rfl kf_X11_19 rfl rfl ?_
  refine v_get 11 3 0 cx dX11_hasRingAt_8 iX10 (wXo_3 E st) rfl (Nat.le_of_ble_eq_true rfl) rfl kf_X11_291 rfl rfl ?_
  refine v_iload_n 12 1 cx dX11_hasRingAt_11 rfl rfl rfl ?_
  refine v_callVV 15 6 cx dX11_hasRingAt_12 km_X11_348 ca_X9_load (wXo_6 E st) rfl (c_X9_load C.2.1 E st p1 ) rfl (by decide) rfl (Nat.le_of_ble_eq_true rfl) rfl h (fun _ s1 h => ?_)
  refine v_aload_n 16 0 cx dX11_hasRingAt_15 rfl rfl rfl ?_
  refine v_get 19 0 3 cx dX11_hasRingAt_16 iX11 (wXo_0 E s1) rfl (Nat.le_of_ble_eq_true rfl) rfl kf_X11_33 rfl rfl ?_
  refine v_aload_n 20 0 cx dX11_hasRingAt_19 rfl rfl rfl ?_
  refine v_get 23 0 0 cx dX11_hasRingAt_20 iX11 (wXo_0 E s1) rfl (Nat.le_of_ble_eq_true rfl) rfl kf_X11_10 rfl rfl ?_
  refine v_getI 26 1 0 cx dX11_hasRingAt_23 iX0 (wXo_1 E s1) rfl (Nat.le_of_ble_eq_true rfl) rfl kf_X11_149 rfl rfl h (fun v2 h => ?_)
  refine v_callVI 29 6 cx dX11_hasRingAt_26 km_X11_226 ca_X9_join (wXo_6 E s1) rfl (c_X9_join C.2.1 E s1 v2 ) rfl (by decide) rfl (Nat.le_of_ble_eq_true rfl) rfl h (fun v4 s3 h => ?_)
  refine v_if_ne 36 32 cx dX11_hasRingAt_29 (by decide) rfl h (fun h => ?_) (fun h => ?_)
  · refine v_iconst 37 cx dX11_hasRingAt_36 ic_0 rfl ?_
    exact hk _ _ _ _ (Option.some.inj h) (Or.inl rfl) dX11_hasRingAt_37
  · refine v_iconst 33 cx dX11_hasRingAt_32 ic_1 rfl ?_
    refine v_goto 37 cx dX11_hasRingAt_33 (by decide) ?_
    exact hk _ _ _ _ (Option.some.inj h) (Or.inr rfl) dX11_hasRingAt_37
def V_X11_lowestBeat_L58 (C : Cm) (E : Ev) (s : (Int32 × Int32 × Int32 × Sg)) : Prop := Vat C (wX E) 5 58 [(0, .ref (oX E 0)), (1, .int s.1), (2, .int s.2.1), (3, .int s.2.2.1)] [] s.2.2.2
def K_X11_lowestBeat_L58 (C : Cm) (E : Ev) : (Int32 × Sg) → Prop := (fun r : (Int32 × Sg) => Vat C (wX E) 5 102 [(1, .int r.1)] [] r.2)
set_option maxHeartbeats 4000000 in
set_option maxRecDepth 100000 in
theorem b_X11_lowestBeat_L58 {C : Cm} {E : Ev} (cx : Cx C (tyE E) cX11_lowestBeat RX11 5 5 109) : ∀ (s : (Int32 × Int32 × Int32 × Sg)) (out : (Int32 × Int32 × Int32 × Sg) ⊕ (Int32 × Sg)), m_X11_lowestBeat_L58 s.1 s.2.1 s.2.2.1 s.2.2.2 = some out → Sum.elim (V_X11_lowestBeat_L58 C E) (K_X11_lowestBeat_L58 C E) out → V_X11_lowestBeat_L58 C E s := by
  intro s out h hk
  obtain ⟨x1, x2, x3, st⟩ := s
  show Vat C (wX E) 5 58 [(0, .ref (oX E 0)), (1, .int x1), (2, .int x2), (3, .int x3)] [] st
  replace h : m_X11_lowestBeat_L58 x1 x2 x3 st = some out := h
  unfold m_X11_lowestBeat_L58 at h
  refine v_iload_n 59 3 cx dX11_lowestBeat_58 rfl rfl rfl ?_
  refine v_bipush 61 cx dX11_lowestBeat_59 bp_60 rfl ?_
  refine v_icmp_ge 102 64 cx dX11_lowestBeat_61 (by decide) rfl h (fun h => ?_) (fun h => ?_)
  · cases h
    have hk : Vat C (wX E) 5 102 [(1, .int x1)] [] st := hk
    exact v_lsub (lv' := [(1, .int x1)]) [1] rfl (hk)
  · refine v_iload_n 65 1 cx dX11_lowestBeat_64 rfl rfl rfl ?_
    refine v_iload_n 66 2 cx dX11_lowestBeat_65 rfl rfl rfl ?_
    refine v_icmp_ge 102 69 cx dX11_lowestBeat_66 (by decide) rfl h (fun h => ?_) (fun h => ?_)
    · cases h
      have hk : Vat C (wX E) 5 102 [(1, .int x1)] [] st := hk
      exact v_lsub (lv' := [(1, .int x1)]) [1] rfl (hk)
    · refine v_iload_n 70 1 cx dX11_lowestBeat_69 rfl rfl rfl ?_
      refine v_iload_n 71 2 cx dX11_lowestBeat_70 rfl rfl rfl ?_
      refine v_iadd 72 cx dX11_lowestBeat_71 rfl ?_
      refine v_iconst 73 cx dX11_lowestBeat_72 ic_2 rfl ?_
      refine v_idiv 74 cx dX11_lowestBeat_73 rfl h (fun h => ?_)
      refine v_istore 76 (fun a11 => [(4, .int a11), (0, .ref (oX E 0)), (1, .int x1), (2, .int x2), (3, .int x3)]) cx dX11_lowestBeat_74 (by decide) (fun _ => rfl) rfl h (fun a11 h => ?_)
      refine v_aload_n 77 1 cx dX11_lowestBeat_76 rfl rfl rfl ?_
      refine v_iload 79 0 cx dX11_lowestBeat_77 rfl rfl ?_
      refine v_callVI 82 0 cx dX11_lowestBeat_79 km_X11_238 ca_X11_hasRingAt (wXo_0 E st) rfl (c_X11_hasRingAt C.2.1 E st a11 ) rfl (by decide) rfl (Nat.le_of_ble_eq_true rfl) rfl h (fun v13 s12 h => ?_)
      refine v_if_eq 93 85 cx dX11_lowestBeat_82 (by decide) rfl h (fun h => ?_) (fun h => ?_)
      · refine v_iload 95 0 cx dX11_lowestBeat_93 rfl rfl ?_
        refine v_istore_n 96 (fun a14 => [(2, .int a14), (4, .int a11), (0, .ref (oX E 0)), (1, .int x1), (3, .int x3)]) cx dX11_lowestBeat_95 rfl (by decide) (fun _ => rfl) rfl h (fun a14 h => ?_)
        refine v_iinc 99 4 (fun a15 => [(3, .int a15), (2, .int a14), (4, .int a11), (0, .ref (oX E 0)), (1, .int x1)]) cx dX11_lowestBeat_96 rfl ic_1 (by decide) (fun _ => rfl) rfl h (fun a15 h => ?_)
        refine v_goto 58 cx dX11_lowestBeat_99 (by decide) ?_
        cases h
        have hk : Vat C (wX E) 5 58 [(0, .ref (oX E 0)), (1, .int x1), (2, .int a14), (3, .int a15)] [] s12 := hk
        exact v_lsub (lv' := [(0, .ref (oX E 0)), (1, .int x1), (2, .int a14), (3, .int a15)]) [3, 4, 1, 0] rfl (hk)
      · refine v_iload 87 0 cx dX11_lowestBeat_85 rfl rfl ?_
        refine v_iconst 88 cx dX11_lowestBeat_87 ic_1 rfl ?_
        refine v_iadd 89 cx dX11_lowestBeat_88 rfl ?_
        refine v_istore_n 90 (fun a16 => [(1, .int a16), (4, .int a11), (0, .ref (oX E 0)), (2, .int x2), (3, .int x3)]) cx dX11_lowestBeat_89 rfl (by decide) (fun _ => rfl) rfl h (fun a16 h => ?_)
        refine v_goto 96 cx dX11_lowestBeat_90 (by decide) ?_
        refine v_iinc 99 4 (fun a17 => [(3, .int a17), (1, .int a16), (4, .int a11), (0, .ref (oX E 0)), (2, .int x2)]) cx dX11_lowestBeat_96 rfl ic_1 (by decide) (fun _ => rfl) rfl h (fun a17 h => ?_)
        refine v_goto 58 cx dX11_lowestBeat_99 (by decide) ?_
        cases h
        have hk : Vat C (wX E) 5 58 [(0, .ref (oX E 0)), (1, .int a16), (2, .int x2), (3, .int a17)] [] s12 := hk
        exact v_lsub (lv' := [(0, .ref (oX E 0)), (1, .int a16), (2, .int x2), (3, .int a17)]) [3, 1, 4, 0] rfl (hk)
set_option maxHeartbeats 4000000 in
set_option maxRecDepth 100000 in
theorem c_X11_lowestBeat (l : Launch) (E : Ev) (st : Sg) : ∀ q, m_X11_lowestBeat st = some q → CtI l (wX E) (tyE E) yX11_lowestBeat cX11_lowestBeat 5 (some .int) 5 109 [.ref (oX E 0)] st q := by
  intro q h
  refine ctI_of (lv0 := [(0, .ref (oX E 0))]) (by decide) rfl (Nat.le_of_ble_eq_true rfl) (fun C hC cx hk => ?_)
  replace cx : Cx C (tyE E) cX11_lowestBeat RX11 5 5 109 := cx
  unfold m_X11_lowestBeat at h
  refine v_aload_n 1 0 cx dX11_lowestBeat_0 rfl rfl rfl ?_
  refine v_get 4 0 0 cx dX11_lowestBeat_1 iX11 (wXo_0 E st) rfl (Nat.le_of_ble_eq_true rfl) rfl kf_X11_10 rfl rfl ?_
  refine v_callVI 7 1 cx dX11_lowestBeat_4 km_X11_232 ca_X0_isReady (wXo_1 E st) rfl (c_X0_isReady C.2.1 E st ) rfl (by decide) rfl (Nat.le_of_ble_eq_true rfl) rfl h (fun v2 s1 h => ?_)
  refine v_if_ne 13 10 cx dX11_lowestBeat_7 (by decide) rfl h (fun h => ?_) (fun h => ?_)
  · refine v_aload_n 14 0 cx dX11_lowestBeat_13 rfl rfl rfl ?_
    refine v_get 17 0 0 cx dX11_lowestBeat_14 iX11 (wXo_0 E s1) rfl (Nat.le_of_ble_eq_true rfl) rfl kf_X11_10 rfl rfl ?_
    refine v_callVI 20 1 cx dX11_lowestBeat_17 km_X11_235 ca_X0_beatByUnits (wXo_1 E s1) rfl (c_X0_beatByUnits C.2.1 E s1 ) rfl (by decide) rfl (Nat.le_of_ble_eq_true rfl) rfl h (fun v4 s3 h => ?_)
    refine v_istore_n 21 (fun a5 => [(1, .int a5), (0, .ref (oX E 0))]) cx dX11_lowestBeat_20 rfl (by decide) (fun _ => rfl) rfl h (fun a5 h => ?_)
    refine v_iload_n 22 0 cx dX11_lowestBeat_21 rfl rfl rfl ?_
    refine v_bipush 24 cx dX11_lowestBeat_22 bp_60 rfl ?_
    refine v_icmp_le 30 27 cx dX11_lowestBeat_24 (by decide) rfl h (fun h => ?_) (fun h => ?_)
    · refine v_aload_n 31 1 cx dX11_lowestBeat_30 rfl rfl rfl ?_
      refine v_get 34 0 1 cx dX11_lowestBeat_31 iX11 (wXo_0 E s3) rfl (Nat.le_of_ble_eq_true rfl) rfl kf_X11_19 rfl rfl ?_
      refine v_aload_n 35 1 cx dX11_lowestBeat_34 rfl rfl rfl ?_
      refine v_get 38 0 0 cx dX11_lowestBeat_35 iX11 (wXo_0 E s3) rfl (Nat.le_of_ble_eq_true rfl) rfl kf_X11_10 rfl rfl ?_
      refine v_callVV 41 3 cx dX11_lowestBeat_38 km_X11_166 ca_X10_renew (wXo_3 E s3) rfl (c_X10_renew C.2.1 E s3 ) rfl (by decide) rfl (Nat.le_of_ble_eq_true rfl) rfl h (fun _ s6 h => ?_)
      refine v_aload_n 42 1 cx dX11_lowestBeat_41 rfl rfl rfl ?_
      refine v_bipush 44 cx dX11_lowestBeat_42 bp_60 rfl ?_
      refine v_callVI 47 0 cx dX11_lowestBeat_44 km_X11_238 ca_X11_hasRingAt (wXo_0 E s6) rfl (c_X11_hasRingAt C.2.1 E s6 60 ) rfl (by decide) rfl (Nat.le_of_ble_eq_true rfl) rfl h (fun v8 s7 h => ?_)
      refine v_if_eq 53 50 cx dX11_lowestBeat_47 (by decide) rfl h (fun h => ?_) (fun h => ?_)
      · refine v_bipush 55 cx dX11_lowestBeat_53 bp_60 rfl ?_
        refine v_istore_n 56 (fun a9 => [(2, .int a9), (1, .int a5), (0, .ref (oX E 0))]) cx dX11_lowestBeat_55 rfl (by decide) (fun _ => rfl) rfl h (fun a9 h => ?_)
        refine v_iconst 57 cx dX11_lowestBeat_56 ic_0 rfl ?_
        refine v_istore_n 58 (fun a10 => [(3, .int a10), (2, .int a9), (1, .int a5), (0, .ref (oX E 0))]) cx dX11_lowestBeat_57 rfl (by decide) (fun _ => rfl) rfl h (fun a10 h => ?_)
        refine v_lsub (lv' := [(0, .ref (oX E 0)), (1, .int a5), (2, .int a9), (3, .int a10)]) [3, 2, 1, 0] rfl ?_
        refine v_loop (s0 := (a5, a9, a10, s7)) (V_X11_lowestBeat_L58 C E) (K_X11_lowestBeat_L58 C E) h (b_X11_lowestBeat_L58 cx) (fun r18 h => ?_)
        show Vat C (wX E) 5 102 [(1, .int r18.1)] [] r18.2
        refine v_iload_n 103 0 cx dX11_lowestBeat_102 rfl rfl rfl ?_
        exact hk _ _ _ _ (Option.some.inj h) dX11_lowestBeat_103
      · refine v_bipush 52 cx dX11_lowestBeat_50 bp_m9 rfl ?_
        exact hk _ _ _ _ (Option.some.inj h) dX11_lowestBeat_52
    · refine v_bipush 29 cx dX11_lowestBeat_27 bp_m9 rfl ?_
      exact hk _ _ _ _ (Option.some.inj h) dX11_lowestBeat_29
  · refine v_bipush 12 cx dX11_lowestBeat_10 bp_m2 rfl ?_
    exact hk _ _ _ _ (Option.some.inj h) dX11_lowestBeat_12
set_option maxHeartbeats 4000000 in
set_option maxRecDepth 100000 in
theorem c_X8_leave (l : Launch) (E : Ev) (st : Sg) (p1 : Int32) : ∀ q, m_X8_leave p1 st = some q → CtV l (wX E) (tyE E) yX8_leave cX8_leave 2 none 2 43 [.ref (oX E 7), .int p1] st q := by
  intro q h
  refine ctV_of (lv0 := [(0, .ref (oX E 7)), (1, .int p1)]) (by decide) rfl (Nat.le_of_ble_eq_true rfl) (fun C hC cx hk => ?_)
  replace cx : Cx C (tyE E) cX8_leave RX8 2 2 43 := cx
  unfold m_X8_leave at h
  refine v_iload_n 1 1 cx dX8_leave_0 rfl rfl rfl ?_
  refine v_if_lt 38 4 cx dX8_leave_1 (by decide) rfl h (fun h => ?_) (fun h => ?_)
  · exact hk _ _ _ _ (Option.some.inj h) dX8_leave_38
  · refine v_aload_n 5 0 cx dX8_leave_4 rfl rfl rfl ?_
    refine v_get 8 7 2 cx dX8_leave_5 iX8 (wXo_7 E st) rfl (Nat.le_of_ble_eq_true rfl) rfl kf_X8_12 rfl rfl ?_
    refine v_aload_n 9 0 cx dX8_leave_8 rfl rfl rfl ?_
    refine v_get 12 7 0 cx dX8_leave_9 iX8 (wXo_7 E st) rfl (Nat.le_of_ble_eq_true rfl) rfl kf_X8_44 rfl rfl ?_
    refine v_iload_n 13 1 cx dX8_leave_12 rfl rfl rfl ?_
    refine v_aload_n 14 0 cx dX8_leave_13 rfl rfl rfl ?_
    refine v_get 17 7 9 cx dX8_leave_14 iX8 (wXo_7 E st) rfl (Nat.le_of_ble_eq_true rfl) rfl kf_X8_38 rfl rfl ?_
    refine v_iload_n 18 1 cx dX8_leave_17 rfl rfl rfl ?_
    refine v_iald 19 46 0 cx dX8_leave_18 (wXa_7_9 E st) rfl rfl h (fun v1 h => ?_)
    refine v_aload_n 20 0 cx dX8_leave_19 rfl rfl rfl ?_
    refine v_getI 23 7 8 cx dX8_leave_20 iX8 (wXo_7 E st) rfl (Nat.le_of_ble_eq_true rfl) rfl kf_X8_34 rfl rfl h (fun v2 h => ?_)
    refine v_iconst 24 cx dX8_leave_23 ic_m1 rfl ?_
    refine v_callVI 27 8 cx dX8_leave_24 km_X8_78 ca_X2_change (wXo_8 E st) rfl (c_X2_change_8 C.2.1 E st p1 v1 v2 (-1) ) rfl (by decide) rfl (Nat.le_of_ble_eq_true rfl) rfl h (fun v4 s3 h => ?_)
    refine v_pop 28 cx dX8_leave_27 rfl rfl ?_
    refine v_aload_n 29 0 cx dX8_leave_28 rfl rfl rfl ?_
    refine v_get 32 7 9 cx dX8_leave_29 iX8 (wXo_7 E s3) rfl (Nat.le_of_ble_eq_true rfl) rfl kf_X8_38 rfl rfl ?_
    refine v_iload_n 33 1 cx dX8_leave_32 rfl rfl rfl ?_
    refine v_dup2 34 cx dX8_leave_33 rfl rfl rfl ?_
    refine v_iald 35 46 0 cx dX8_leave_34 (wXa_7_9 E s3) rfl rfl h (fun v5 h => ?_)
    refine v_iconst 36 cx dX8_leave_35 ic_1 rfl ?_
    refine v_iadd 37 cx dX8_leave_36 rfl ?_
    refine v_iast 38 46 0 cx dX8_leave_37 (wXa_7_9 E s3) rfl (wXt_7_9 E s3) rfl h (fun s6 h => ?_)
    exact hk _ _ _ _ (Option.some.inj h) dX8_leave_38
set_option maxHeartbeats 4000000 in
set_option maxRecDepth 100000 in
theorem c_X8_stagesBetween (l : Launch) (E : Ev) (st : Sg) (p1 : Int32) (p2 : Int32) : ∀ q, m_X8_stagesBetween p1 p2 st = some q → CtI l (wX E) (tyE E) yX8_stagesBetween cX8_stagesBetween 4 (some .int) 1 22 [.ref (oX E 7), .int p1, .int p2] st q := by
  intro q h
  refine ctI_of (lv0 := [(0, .ref (oX E 7)), (1, .int p1), (2, .int p2)]) (by decide) rfl (Nat.le_of_ble_eq_true rfl) (fun C hC cx hk => ?_)
  replace cx : Cx C (tyE E) cX8_stagesBetween RX8 4 1 22 := cx
  unfold m_X8_stagesBetween at h
  refine v_aload_n 1 0 cx dX8_stagesBetween_0 rfl rfl rfl ?_
  refine v_get 4 7 1 cx dX8_stagesBetween_1 iX8 (wXo_7 E st) rfl (Nat.le_of_ble_eq_true rfl) rfl kf_X8_48 rfl rfl ?_
  refine v_get 7 6 0 cx dX8_stagesBetween_4 iX9 (wXo_6 E st) rfl (Nat.le_of_ble_eq_true rfl) rfl kf_X8_94 rfl rfl ?_
  refine v_iload_n 8 1 cx dX8_stagesBetween_7 rfl rfl rfl ?_
  refine v_bipush 10 cx dX8_stagesBetween_8 bp_16 rfl ?_
  refine v_imul 11 cx dX8_stagesBetween_10 rfl ?_
  refine v_iload_n 12 2 cx dX8_stagesBetween_11 rfl rfl rfl ?_
  refine v_iadd 13 cx dX8_stagesBetween_12 rfl ?_
  refine v_iald 14 39 0 cx dX8_stagesBetween_13 (wXa_6_0 E st) rfl rfl h (fun v1 h => ?_)
  refine v_istore_n 15 (fun a2 => [(3, .int a2), (0, .ref (oX E 7)), (1, .int p1), (2, .int p2)]) cx dX8_stagesBetween_14 rfl (by decide) (fun _ => rfl) rfl h (fun a2 h => ?_)
  refine v_iload_n 16 0 cx dX8_stagesBetween_15 rfl rfl rfl ?_
  refine v_ldc 18 cx dX8_stagesBetween_16 kc_X8_102 rfl ?_
  refine v_icmp_eq 29 21 cx dX8_stagesBetween_18 (by decide) rfl h (fun h => ?_) (fun h => ?_)
  · refine v_ldc 31 cx dX8_stagesBetween_29 kc_X8_102 rfl ?_
    exact hk _ _ _ _ (Option.some.inj h) dX8_stagesBetween_31
  · refine v_aload_n 22 1 cx dX8_stagesBetween_21 rfl rfl rfl ?_
    refine v_getI 25 7 8 cx dX8_stagesBetween_22 iX8 (wXo_7 E st) rfl (Nat.le_of_ble_eq_true rfl) rfl kf_X8_34 rfl rfl h (fun v3 h => ?_)
    refine v_iconst 26 cx dX8_stagesBetween_25 ic_1 rfl ?_
    refine v_icmp_ge 32 29 cx dX8_stagesBetween_26 (by decide) rfl h (fun h => ?_) (fun h => ?_)
    · refine v_iload_n 33 0 cx dX8_stagesBetween_32 rfl rfl rfl ?_
      refine v_aload_n 34 1 cx dX8_stagesBetween_33 rfl rfl rfl ?_
      refine v_get 37 7 9 cx dX8_stagesBetween_34 iX8 (wXo_7 E st) rfl (Nat.le_of_ble_eq_true rfl) rfl kf_X8_38 rfl rfl ?_
      refine v_iload_n 38 2 cx dX8_stagesBetween_37 rfl rfl rfl ?_
      refine v_iald 39 46 0 cx dX8_stagesBetween_38 (wXa_7_9 E st) rfl rfl h (fun v4 h => ?_)
      refine v_iadd 40 cx dX8_stagesBetween_39 rfl ?_
      refine v_aload_n 41 1 cx dX8_stagesBetween_40 rfl rfl rfl ?_
      refine v_get 44 7 9 cx dX8_stagesBetween_41 iX8 (wXo_7 E st) rfl (Nat.le_of_ble_eq_true rfl) rfl kf_X8_38 rfl rfl ?_
      refine v_iload_n 45 3 cx dX8_stagesBetween_44 rfl rfl rfl ?_
      refine v_iald 46 46 0 cx dX8_stagesBetween_45 (wXa_7_9 E st) rfl rfl h (fun v5 h => ?_)
      refine v_isub 47 cx dX8_stagesBetween_46 rfl ?_
      refine v_aload_n 48 1 cx dX8_stagesBetween_47 rfl rfl rfl ?_
      refine v_getI 51 7 8 cx dX8_stagesBetween_48 iX8 (wXo_7 E st) rfl (Nat.le_of_ble_eq_true rfl) rfl kf_X8_34 rfl rfl h (fun v6 h => ?_)
      refine v_iadd 52 cx dX8_stagesBetween_51 rfl ?_
      refine v_iconst 53 cx dX8_stagesBetween_52 ic_1 rfl ?_
      refine v_isub 54 cx dX8_stagesBetween_53 rfl ?_
      refine v_aload_n 55 1 cx dX8_stagesBetween_54 rfl rfl rfl ?_
      refine v_getI 58 7 8 cx dX8_stagesBetween_55 iX8 (wXo_7 E st) rfl (Nat.le_of_ble_eq_true rfl) rfl kf_X8_34 rfl rfl h (fun v7 h => ?_)
      refine v_callSI 61 cx dX8_stagesBetween_58 km_X8_111 ca_J9_floorDiv_7cf53 (c_J9_floorDiv_7cf53 C.2.1 E st ((((a2 + v4) - v5) + v6) - 1) v7 ) rfl (by decide) rfl (Nat.le_of_ble_eq_true rfl) rfl h (fun v9 s8 h => ?_)
      exact hk _ _ _ _ (Option.some.inj h) dX8_stagesBetween_61
    · refine v_ldc 31 cx dX8_stagesBetween_29 kc_X8_102 rfl ?_
      exact hk _ _ _ _ (Option.some.inj h) dX8_stagesBetween_31
set_option maxHeartbeats 4000000 in
set_option maxRecDepth 100000 in
theorem c_X8_place (l : Launch) (E : Ev) (st : Sg) (p0 : Int32) (p1 : Int32) (p2 : Int32) : ∀ q, m_X8_place p0 p1 p2 st = some q → CtI l (wX E) (tyE E) yX8_place cX8_place 3 (some .int) 0 0 [.int p0, .int p1, .int p2] st q := by
  intro q h
  refine ctI_of (lv0 := [(0, .int p0), (1, .int p1), (2, .int p2)]) (by decide) rfl (Nat.le_of_ble_eq_true rfl) (fun C hC cx hk => ?_)
  replace cx : Cx C (tyE E) cX8_place RX8 3 0 0 := cx
  unfold m_X8_place at h
  refine v_iload_n 1 0 cx dX8_place_0 rfl rfl rfl ?_
  refine v_bipush 3 cx dX8_place_1 bp_16 rfl ?_
  refine v_imul 4 cx dX8_place_3 rfl ?_
  refine v_iload_n 5 1 cx dX8_place_4 rfl rfl rfl ?_
  refine v_iadd 6 cx dX8_place_5 rfl ?_
  refine v_bipush 8 cx dX8_place_6 bp_16 rfl ?_
  refine v_imul 9 cx dX8_place_8 rfl ?_
  refine v_iload_n 10 2 cx dX8_place_9 rfl rfl rfl ?_
  refine v_iadd 11 cx dX8_place_10 rfl ?_
  exact hk _ _ _ _ (Option.some.inj h) dX8_place_11
def V_X8_closesRing_L2 (C : Cm) (E : Ev) (x1 : Int32) (x2 : Int32) (s : (Int32 × Sg)) : Prop := Vat C (wX E) 5 2 [(0, .ref (oX E 7)), (1, .int x1), (2, .int x2), (3, .int s.1)] [] s.2
def K_X8_closesRing_L2 (C : Cm) (E : Ev) (x1 : Int32) (x2 : Int32) : ((Sg) ⊕ (Sg)) → Prop := (Sum.elim (fun r : (Sg) => Vat C (wX E) 5 67 [] [] r) (fun r : (Sg) => Vat C (wX E) 5 59 [] [] r))
set_option maxHeartbeats 4000000 in
set_option maxRecDepth 100000 in
theorem b_X8_closesRing_L2 {C : Cm} {E : Ev} (cx : Cx C (tyE E) cX8_closesRing RX8 5 1 22) (x1 : Int32) (x2 : Int32) : ∀ (s : (Int32 × Sg)) (out : (Int32 × Sg) ⊕ ((Sg) ⊕ (Sg))), m_X8_closesRing_L2 x1 x2 s.1 s.2 = some out → Sum.elim (V_X8_closesRing_L2 C E x1 x2) (K_X8_closesRing_L2 C E x1 x2) out → V_X8_closesRing_L2 C E x1 x2 s := by
  intro s out h hk
  obtain ⟨x3, st⟩ := s
  show Vat C (wX E) 5 2 [(0, .ref (oX E 7)), (1, .int x1), (2, .int x2), (3, .int x3)] [] st
  replace h : m_X8_closesRing_L2 x1 x2 x3 st = some out := h
  unfold m_X8_closesRing_L2 at h
  refine v_iload_n 3 3 cx dX8_closesRing_2 rfl rfl rfl ?_
  refine v_iload_n 4 1 cx dX8_closesRing_3 rfl rfl rfl ?_
  refine v_icmp_ge 67 7 cx dX8_closesRing_4 (by decide) rfl h (fun h => ?_) (fun h => ?_)
  · cases h
    have hk : Vat C (wX E) 5 67 [] [] st := hk
    exact v_lsub (lv' := []) [] rfl (hk)
  · refine v_aload_n 8 0 cx dX8_closesRing_7 rfl rfl rfl ?_
    refine v_get 11 7 3 cx dX8_closesRing_8 iX8 (wXo_7 E st) rfl (Nat.le_of_ble_eq_true rfl) rfl kf_X8_18 rfl rfl ?_
    refine v_iload_n 12 1 cx dX8_closesRing_11 rfl rfl rfl ?_
    refine v_iconst 13 cx dX8_closesRing_12 ic_1 rfl ?_
    refine v_isub 14 cx dX8_closesRing_13 rfl ?_
    refine v_iload_n 15 2 cx dX8_closesRing_14 rfl rfl rfl ?_
    refine v_iload_n 16 3 cx dX8_closesRing_15 rfl rfl rfl ?_
    refine v_callSI 19 cx dX8_closesRing_16 km_X8_107 ca_X8_place (c_X8_place C.2.1 E st (x1 - 1) x2 x3 ) rfl (by decide) rfl (Nat.le_of_ble_eq_true rfl) rfl h (fun v3 s2 h => ?_)
    refine v_iald 20 41 0 cx dX8_closesRing_19 (wXa_7_3 E s2) rfl rfl h (fun v4 h => ?_)
    refine v_istore 22 (fun a5 => [(4, .int a5), (0, .ref (oX E 7)), (1, .int x1), (2, .int x2), (3, .int x3)]) cx dX8_closesRing_20 (by decide) (fun _ => rfl) rfl h (fun a5 h => ?_)
    refine v_aload_n 23 1 cx dX8_closesRing_22 rfl rfl rfl ?_
    refine v_get 26 7 4 cx dX8_closesRing_23 iX8 (wXo_7 E s2) rfl (Nat.le_of_ble_eq_true rfl) rfl kf_X8_22 rfl rfl ?_
    refine v_iload_n 27 4 cx dX8_closesRing_26 rfl rfl rfl ?_
    refine v_iald 28 42 0 cx dX8_closesRing_27 (wXa_7_4 E s2) rfl rfl h (fun v6 h => ?_)
    refine v_ldc 30 cx dX8_closesRing_28 kc_X8_102 rfl ?_
    refine v_icmp_eq 61 33 cx dX8_closesRing_30 (by decide) rfl h (fun h => ?_) (fun h => ?_)
    · refine v_iinc 64 4 (fun a7 => [(3, .int a7), (4, .int a5), (0, .ref (oX E 7)), (1, .int x1), (2, .int x2)]) cx dX8_closesRing_61 rfl ic_1 (by decide) (fun _ => rfl) rfl h (fun a7 h => ?_)
      refine v_goto 2 cx dX8_closesRing_64 (by decide) ?_
      cases h
      have hk : Vat C (wX E) 5 2 [(0, .ref (oX E 7)), (1, .int x1), (2, .int x2), (3, .int a7)] [] s2 := hk
      exact v_lsub (lv' := [(0, .ref (oX E 7)), (1, .int x1), (2, .int x2), (3, .int a7)]) [2, 3, 4, 0] rfl (hk)
    · refine v_iload 35 0 cx dX8_closesRing_33 rfl rfl ?_
      refine v_ldc 37 cx dX8_closesRing_35 kc_X8_102 rfl ?_
      refine v_icmp_eq 61 40 cx dX8_closesRing_37 (by decide) rfl h (fun h => ?_) (fun h => ?_)
      · refine v_iinc 64 4 (fun a8 => [(3, .int a8), (4, .int a5), (0, .ref (oX E 7)), (1, .int x1), (2, .int x2)]) cx dX8_closesRing_61 rfl ic_1 (by decide) (fun _ => rfl) rfl h (fun a8 h => ?_)
        refine v_goto 2 cx dX8_closesRing_64 (by decide) ?_
        cases h
        have hk : Vat C (wX E) 5 2 [(0, .ref (oX E 7)), (1, .int x1), (2, .int x2), (3, .int a8)] [] s2 := hk
        exact v_lsub (lv' := [(0, .ref (oX E 7)), (1, .int x1), (2, .int x2), (3, .int a8)]) [2, 3, 4, 0] rfl (hk)
      · refine v_aload_n 41 1 cx dX8_closesRing_40 rfl rfl rfl ?_
        refine v_get 44 7 5 cx dX8_closesRing_41 iX8 (wXo_7 E s2) rfl (Nat.le_of_ble_eq_true rfl) rfl kf_X8_25 rfl rfl ?_
        refine v_iload_n 45 3 cx dX8_closesRing_44 rfl rfl rfl ?_
        refine v_iald 46 43 0 cx dX8_closesRing_45 (wXa_7_5 E s2) rfl rfl h (fun v9 h => ?_)
        refine v_iload 48 0 cx dX8_closesRing_46 rfl rfl ?_
        refine v_iadd 49 cx dX8_closesRing_48 rfl ?_
        refine v_aload_n 50 1 cx dX8_closesRing_49 rfl rfl rfl ?_
        refine v_get 53 7 4 cx dX8_closesRing_50 iX8 (wXo_7 E s2) rfl (Nat.le_of_ble_eq_true rfl) rfl kf_X8_22 rfl rfl ?_
        refine v_iload_n 54 4 cx dX8_closesRing_53 rfl rfl rfl ?_
        refine v_iald 55 42 0 cx dX8_closesRing_54 (wXa_7_4 E s2) rfl rfl h (fun v10 h => ?_)
        refine v_iadd 56 cx dX8_closesRing_55 rfl ?_
        refine v_if_le 61 59 cx dX8_closesRing_56 (by decide) rfl h (fun h => ?_) (fun h => ?_)
        · refine v_iinc 64 4 (fun a11 => [(3, .int a11), (4, .int a5), (0, .ref (oX E 7)), (1, .int x1), (2, .int x2)]) cx dX8_closesRing_61 rfl ic_1 (by decide) (fun _ => rfl) rfl h (fun a11 h => ?_)
          refine v_goto 2 cx dX8_closesRing_64 (by decide) ?_
          cases h
          have hk : Vat C (wX E) 5 2 [(0, .ref (oX E 7)), (1, .int x1), (2, .int x2), (3, .int a11)] [] s2 := hk
          exact v_lsub (lv' := [(0, .ref (oX E 7)), (1, .int x1), (2, .int x2), (3, .int a11)]) [2, 3, 4, 0] rfl (hk)
        · cases h
          have hk : Vat C (wX E) 5 59 [] [] s2 := hk
          exact v_lsub (lv' := []) [] rfl (hk)
set_option maxHeartbeats 4000000 in
set_option maxRecDepth 100000 in
theorem c_X8_closesRing (l : Launch) (E : Ev) (st : Sg) (p1 : Int32) (p2 : Int32) : ∀ q, m_X8_closesRing p1 p2 st = some q → CtI l (wX E) (tyE E) yX8_closesRing cX8_closesRing 5 (some .boolean) 1 22 [.ref (oX E 7), .int p1, .int p2] st q := by
  intro q h
  refine ctZ_of (lv0 := [(0, .ref (oX E 7)), (1, .int p1), (2, .int p2)]) (by decide) rfl (Nat.le_of_ble_eq_true rfl) (fun C hC cx hk => ?_)
  replace cx : Cx C (tyE E) cX8_closesRing RX8 5 1 22 := cx
  unfold m_X8_closesRing at h
  refine v_iconst 1 cx dX8_closesRing_0 ic_0 rfl ?_
  refine v_istore_n 2 (fun a1 => [(3, .int a1), (0, .ref (oX E 7)), (1, .int p1), (2, .int p2)]) cx dX8_closesRing_1 rfl (by decide) (fun _ => rfl) rfl h (fun a1 h => ?_)
  refine v_lsub (lv' := [(0, .ref (oX E 7)), (1, .int p1), (2, .int p2), (3, .int a1)]) [1, 2, 3, 0] rfl ?_
  refine v_loop (s0 := (a1, st)) (V_X8_closesRing_L2 C E p1 p2) (K_X8_closesRing_L2 C E p1 p2) h (b_X8_closesRing_L2 cx p1 p2) (fun r12 h => ?_)
  rcases r12 with r12 | r12
  · rw [Sum.elim_inl] at h
    show Vat C (wX E) 5 67 [] [] r12
    refine v_iconst 68 cx dX8_closesRing_67 ic_0 rfl ?_
    exact hk _ _ _ _ (Option.some.inj h) (Or.inl rfl) dX8_closesRing_68
  · rw [Sum.elim_inr] at h
    show Vat C (wX E) 5 59 [] [] r12
    refine v_iconst 60 cx dX8_closesRing_59 ic_1 rfl ?_
    exact hk _ _ _ _ (Option.some.inj h) (Or.inr rfl) dX8_closesRing_60
def V_X8_edgesCanHold_L21 (C : Cm) (E : Ev) (x1 : Int32) (s : (Int32 × Sg)) : Prop := Vat C (wX E) 3 21 [(0, .ref (oX E 7)), (1, .int x1), (2, .int s.1)] [] s.2
def K_X8_edgesCanHold_L21 (C : Cm) (E : Ev) (x1 : Int32) : (Sg) → Prop := (fun r : (Sg) => Vat C (wX E) 3 56 [(0, .ref (oX E 7)), (1, .int x1)] [] r)
set_option maxHeartbeats 4000000 in
set_option maxRecDepth 100000 in
theorem b_X8_edgesCanHold_L21 {C : Cm} {E : Ev} (cx : Cx C (tyE E) cX8_edgesCanHold RX8 3 2 46) (x1 : Int32) : ∀ (s : (Int32 × Sg)) (out : (Int32 × Sg) ⊕ (Sg)), m_X8_edgesCanHold_L21 x1 s.1 s.2 = some out → Sum.elim (V_X8_edgesCanHold_L21 C E x1) (K_X8_edgesCanHold_L21 C E x1) out → V_X8_edgesCanHold_L21 C E x1 s := by
  intro s out h hk
  obtain ⟨x2, st⟩ := s
  show Vat C (wX E) 3 21 [(0, .ref (oX E 7)), (1, .int x1), (2, .int x2)] [] st
  replace h : m_X8_edgesCanHold_L21 x1 x2 st = some out := h
  unfold m_X8_edgesCanHold_L21 at h
  refine v_iload_n 22 2 cx dX8_edgesCanHold_21 rfl rfl rfl ?_
  refine v_iload_n 23 1 cx dX8_edgesCanHold_22 rfl rfl rfl ?_
  refine v_icmp_ge 56 26 cx dX8_edgesCanHold_23 (by decide) rfl h (fun h => ?_) (fun h => ?_)
  · cases h
    have hk : Vat C (wX E) 3 56 [(0, .ref (oX E 7)), (1, .int x1)] [] st := hk
    exact v_lsub (lv' := [(0, .ref (oX E 7)), (1, .int x1)]) [0, 1] rfl (hk)
  · refine v_aload_n 27 0 cx dX8_edgesCanHold_26 rfl rfl rfl ?_
    refine v_get 30 7 4 cx dX8_edgesCanHold_27 iX8 (wXo_7 E st) rfl (Nat.le_of_ble_eq_true rfl) rfl kf_X8_22 rfl rfl ?_
    refine v_iload_n 31 2 cx dX8_edgesCanHold_30 rfl rfl rfl ?_
    refine v_aload_n 32 0 cx dX8_edgesCanHold_31 rfl rfl rfl ?_
    refine v_iload_n 33 2 cx dX8_edgesCanHold_32 rfl rfl rfl ?_
    refine v_iload_n 34 1 cx dX8_edgesCanHold_33 rfl rfl rfl ?_
    refine v_callVI 37 7 cx dX8_edgesCanHold_34 km_X8_99 ca_X8_stagesBetween (wXo_7 E st) rfl (c_X8_stagesBetween C.2.1 E st x2 x1 ) rfl (by decide) rfl (Nat.le_of_ble_eq_true rfl) rfl h (fun v4 s3 h => ?_)
    refine v_iast 38 42 0 cx dX8_edgesCanHold_37 (wXa_7_4 E s3) rfl (wXt_7_4 E s3) rfl h (fun s5 h => ?_)
    refine v_aload_n 39 0 cx dX8_edgesCanHold_38 rfl rfl rfl ?_
    refine v_get 42 7 5 cx dX8_edgesCanHold_39 iX8 (wXo_7 E s5) rfl (Nat.le_of_ble_eq_true rfl) rfl kf_X8_25 rfl rfl ?_
    refine v_iload_n 43 2 cx dX8_edgesCanHold_42 rfl rfl rfl ?_
    refine v_aload_n 44 0 cx dX8_edgesCanHold_43 rfl rfl rfl ?_
    refine v_iload_n 45 1 cx dX8_edgesCanHold_44 rfl rfl rfl ?_
    refine v_iload_n 46 2 cx dX8_edgesCanHold_45 rfl rfl rfl ?_
    refine v_callVI 49 7 cx dX8_edgesCanHold_46 km_X8_99 ca_X8_stagesBetween (wXo_7 E s5) rfl (c_X8_stagesBetween C.2.1 E s5 x1 x2 ) rfl (by decide) rfl (Nat.le_of_ble_eq_true rfl) rfl h (fun v7 s6 h => ?_)
    refine v_iast 50 43 0 cx dX8_edgesCanHold_49 (wXa_7_5 E s6) rfl (wXt_7_5 E s6) rfl h (fun s8 h => ?_)
    refine v_iinc 53 2 (fun a9 => [(2, .int a9), (0, .ref (oX E 7)), (1, .int x1)]) cx dX8_edgesCanHold_50 rfl ic_1 (by decide) (fun _ => rfl) rfl h (fun a9 h => ?_)
    refine v_goto 21 cx dX8_edgesCanHold_53 (by decide) ?_
    cases h
    have hk : Vat C (wX E) 3 21 [(0, .ref (oX E 7)), (1, .int x1), (2, .int a9)] [] s8 := hk
    exact v_lsub (lv' := [(0, .ref (oX E 7)), (1, .int x1), (2, .int a9)]) [1, 2, 0] rfl (hk)
def V_X8_edgesCanHold_L58 (C : Cm) (E : Ev) (x1 : Int32) (s : (Int32 × Sg)) : Prop := Vat C (wX E) 3 58 [(0, .ref (oX E 7)), (1, .int x1), (2, .int s.1)] [] s.2
def K_X8_edgesCanHold_L58 (C : Cm) (E : Ev) (x1 : Int32) : ((Sg) ⊕ (Sg)) → Prop := (Sum.elim (fun r : (Sg) => Vat C (wX E) 3 91 [] [] r) (fun r : (Sg) => Vat C (wX E) 3 83 [] [] r))
set_option maxHeartbeats 4000000 in
set_option maxRecDepth 100000 in
theorem b_X8_edgesCanHold_L58 {C : Cm} {E : Ev} (cx : Cx C (tyE E) cX8_edgesCanHold RX8 3 2 46) (x1 : Int32) : ∀ (s : (Int32 × Sg)) (out : (Int32 × Sg) ⊕ ((Sg) ⊕ (Sg))), m_X8_edgesCanHold_L58 x1 s.1 s.2 = some out → Sum.elim (V_X8_edgesCanHold_L58 C E x1) (K_X8_edgesCanHold_L58 C E x1) out → V_X8_edgesCanHold_L58 C E x1 s := by
  intro s out h hk
  obtain ⟨x2, st⟩ := s
  show Vat C (wX E) 3 58 [(0, .ref (oX E 7)), (1, .int x1), (2, .int x2)] [] st
  replace h : m_X8_edgesCanHold_L58 x1 x2 st = some out := h
  unfold m_X8_edgesCanHold_L58 at h
  refine v_iload_n 59 2 cx dX8_edgesCanHold_58 rfl rfl rfl ?_
  refine v_iload_n 60 1 cx dX8_edgesCanHold_59 rfl rfl rfl ?_
  refine v_icmp_ge 91 63 cx dX8_edgesCanHold_60 (by decide) rfl h (fun h => ?_) (fun h => ?_)
  · cases h
    have hk : Vat C (wX E) 3 91 [] [] st := hk
    exact v_lsub (lv' := []) [] rfl (hk)
  · refine v_aload_n 64 0 cx dX8_edgesCanHold_63 rfl rfl rfl ?_
    refine v_get 67 7 5 cx dX8_edgesCanHold_64 iX8 (wXo_7 E st) rfl (Nat.le_of_ble_eq_true rfl) rfl kf_X8_25 rfl rfl ?_
    refine v_iload_n 68 2 cx dX8_edgesCanHold_67 rfl rfl rfl ?_
    refine v_iald 69 43 0 cx dX8_edgesCanHold_68 (wXa_7_5 E st) rfl rfl h (fun v12 h => ?_)
    refine v_ldc 71 cx dX8_edgesCanHold_69 kc_X8_102 rfl ?_
    refine v_icmp_eq 85 74 cx dX8_edgesCanHold_71 (by decide) rfl h (fun h => ?_) (fun h => ?_)
    · refine v_iinc 88 2 (fun a13 => [(2, .int a13), (0, .ref (oX E 7)), (1, .int x1)]) cx dX8_edgesCanHold_85 rfl ic_1 (by decide) (fun _ => rfl) rfl h (fun a13 h => ?_)
      refine v_goto 58 cx dX8_edgesCanHold_88 (by decide) ?_
      cases h
      have hk : Vat C (wX E) 3 58 [(0, .ref (oX E 7)), (1, .int x1), (2, .int a13)] [] st := hk
      exact v_lsub (lv' := [(0, .ref (oX E 7)), (1, .int x1), (2, .int a13)]) [1, 2, 0] rfl (hk)
    · refine v_aload_n 75 0 cx dX8_edgesCanHold_74 rfl rfl rfl ?_
      refine v_iload_n 76 1 cx dX8_edgesCanHold_75 rfl rfl rfl ?_
      refine v_iload_n 77 2 cx dX8_edgesCanHold_76 rfl rfl rfl ?_
      refine v_callVI 80 7 cx dX8_edgesCanHold_77 km_X8_103 ca_X8_closesRing (wXo_7 E st) rfl (c_X8_closesRing C.2.1 E st x1 x2 ) rfl (by decide) rfl (Nat.le_of_ble_eq_true rfl) rfl h (fun v15 s14 h => ?_)
      refine v_if_eq 85 83 cx dX8_edgesCanHold_80 (by decide) rfl h (fun h => ?_) (fun h => ?_)
      · refine v_iinc 88 2 (fun a16 => [(2, .int a16), (0, .ref (oX E 7)), (1, .int x1)]) cx dX8_edgesCanHold_85 rfl ic_1 (by decide) (fun _ => rfl) rfl h (fun a16 h => ?_)
        refine v_goto 58 cx dX8_edgesCanHold_88 (by decide) ?_
        cases h
        have hk : Vat C (wX E) 3 58 [(0, .ref (oX E 7)), (1, .int x1), (2, .int a16)] [] s14 := hk
        exact v_lsub (lv' := [(0, .ref (oX E 7)), (1, .int x1), (2, .int a16)]) [1, 2, 0] rfl (hk)
      · cases h
        have hk : Vat C (wX E) 3 83 [] [] s14 := hk
        exact v_lsub (lv' := []) [] rfl (hk)
set_option maxHeartbeats 4000000 in
set_option maxRecDepth 100000 in
theorem c_X8_edgesCanHold (l : Launch) (E : Ev) (st : Sg) (p1 : Int32) : ∀ q, m_X8_edgesCanHold p1 st = some q → CtI l (wX E) (tyE E) yX8_edgesCanHold cX8_edgesCanHold 3 (some .boolean) 2 46 [.ref (oX E 7), .int p1] st q := by
  intro q h
  refine ctZ_of (lv0 := [(0, .ref (oX E 7)), (1, .int p1)]) (by decide) rfl (Nat.le_of_ble_eq_true rfl) (fun C hC cx hk => ?_)
  replace cx : Cx C (tyE E) cX8_edgesCanHold RX8 3 2 46 := cx
  unfold m_X8_edgesCanHold at h
  refine v_aload_n 1 0 cx dX8_edgesCanHold_0 rfl rfl rfl ?_
  refine v_get 4 7 1 cx dX8_edgesCanHold_1 iX8 (wXo_7 E st) rfl (Nat.le_of_ble_eq_true rfl) rfl kf_X8_48 rfl rfl ?_
  refine v_get 7 6 0 cx dX8_edgesCanHold_4 iX9 (wXo_6 E st) rfl (Nat.le_of_ble_eq_true rfl) rfl kf_X8_94 rfl rfl ?_
  refine v_iload_n 8 1 cx dX8_edgesCanHold_7 rfl rfl rfl ?_
  refine v_bipush 10 cx dX8_edgesCanHold_8 bp_16 rfl ?_
  refine v_imul 11 cx dX8_edgesCanHold_10 rfl ?_
  refine v_iload_n 12 1 cx dX8_edgesCanHold_11 rfl rfl rfl ?_
  refine v_iadd 13 cx dX8_edgesCanHold_12 rfl ?_
  refine v_iald 14 39 0 cx dX8_edgesCanHold_13 (wXa_6_0 E st) rfl rfl h (fun v1 h => ?_)
  refine v_if_le 19 17 cx dX8_edgesCanHold_14 (by decide) rfl h (fun h => ?_) (fun h => ?_)
  · refine v_iconst 20 cx dX8_edgesCanHold_19 ic_0 rfl ?_
    refine v_istore_n 21 (fun a2 => [(2, .int a2), (0, .ref (oX E 7)), (1, .int p1)]) cx dX8_edgesCanHold_20 rfl (by decide) (fun _ => rfl) rfl h (fun a2 h => ?_)
    refine v_lsub (lv' := [(0, .ref (oX E 7)), (1, .int p1), (2, .int a2)]) [1, 2, 0] rfl ?_
    refine v_loop (s0 := (a2, st)) (V_X8_edgesCanHold_L21 C E p1) (K_X8_edgesCanHold_L21 C E p1) h (b_X8_edgesCanHold_L21 cx p1) (fun r10 h => ?_)
    show Vat C (wX E) 3 56 [(0, .ref (oX E 7)), (1, .int p1)] [] r10
    refine v_iconst 57 cx dX8_edgesCanHold_56 ic_0 rfl ?_
    refine v_istore_n 58 (fun a11 => [(2, .int a11), (0, .ref (oX E 7)), (1, .int p1)]) cx dX8_edgesCanHold_57 rfl (by decide) (fun _ => rfl) rfl h (fun a11 h => ?_)
    refine v_lsub (lv' := [(0, .ref (oX E 7)), (1, .int p1), (2, .int a11)]) [1, 2, 0] rfl ?_
    refine v_loop (s0 := (a11, r10)) (V_X8_edgesCanHold_L58 C E p1) (K_X8_edgesCanHold_L58 C E p1) h (b_X8_edgesCanHold_L58 cx p1) (fun r17 h => ?_)
    rcases r17 with r17 | r17
    · rw [Sum.elim_inl] at h
      show Vat C (wX E) 3 91 [] [] r17
      refine v_iconst 92 cx dX8_edgesCanHold_91 ic_1 rfl ?_
      exact hk _ _ _ _ (Option.some.inj h) (Or.inr rfl) dX8_edgesCanHold_92
    · rw [Sum.elim_inr] at h
      show Vat C (wX E) 3 83 [] [] r17
      refine v_iconst 84 cx dX8_edgesCanHold_83 ic_0 rfl ?_
      exact hk _ _ _ _ (Option.some.inj h) (Or.inl rfl) dX8_edgesCanHold_84
  · refine v_iconst 18 cx dX8_edgesCanHold_17 ic_0 rfl ?_
    exact hk _ _ _ _ (Option.some.inj h) (Or.inl rfl) dX8_edgesCanHold_18
set_option maxHeartbeats 4000000 in
set_option maxRecDepth 100000 in
theorem c_X8_plus (l : Launch) (E : Ev) (st : Sg) (p0 : Int32) (p1 : Int32) : ∀ q, m_X8_plus p0 p1 st = some q → CtI l (wX E) (tyE E) yX8_plus cX8_plus 2 (some .int) 0 0 [.int p0, .int p1] st q := by
  intro q h
  refine ctI_of (lv0 := [(0, .int p0), (1, .int p1)]) (by decide) rfl (Nat.le_of_ble_eq_true rfl) (fun C hC cx hk => ?_)
  replace cx : Cx C (tyE E) cX8_plus RX8 2 0 0 := cx
  unfold m_X8_plus at h
  refine v_iload_n 1 0 cx dX8_plus_0 rfl rfl rfl ?_
  refine v_ldc 3 cx dX8_plus_1 kc_X8_102 rfl ?_
  refine v_icmp_eq 12 6 cx dX8_plus_3 (by decide) rfl h (fun h => ?_) (fun h => ?_)
  · refine v_ldc 14 cx dX8_plus_12 kc_X8_102 rfl ?_
    refine v_goto 20 cx dX8_plus_14 (by decide) ?_
    exact hk _ _ _ _ (Option.some.inj h) dX8_plus_20
  · refine v_iload_n 7 1 cx dX8_plus_6 rfl rfl rfl ?_
    refine v_ldc 9 cx dX8_plus_7 kc_X8_102 rfl ?_
    refine v_icmp_ne 17 12 cx dX8_plus_9 (by decide) rfl h (fun h => ?_) (fun h => ?_)
    · refine v_iload_n 18 0 cx dX8_plus_17 rfl rfl rfl ?_
      refine v_iload_n 19 1 cx dX8_plus_18 rfl rfl rfl ?_
      refine v_iadd 20 cx dX8_plus_19 rfl ?_
      exact hk _ _ _ _ (Option.some.inj h) dX8_plus_20
    · refine v_ldc 14 cx dX8_plus_12 kc_X8_102 rfl ?_
      refine v_goto 20 cx dX8_plus_14 (by decide) ?_
      exact hk _ _ _ _ (Option.some.inj h) dX8_plus_20
def V_X8_longestInto_L6 (C : Cm) (E : Ev) (x1 : Int32) (x2 : Int32) (s : (Int32 × Int32 × Sg)) : Prop := Vat C (wX E) 5 6 [(0, .ref (oX E 7)), (1, .int x1), (2, .int x2), (3, .int s.1), (4, .int s.2.1)] [] s.2.2
def K_X8_longestInto_L6 (C : Cm) (E : Ev) (x1 : Int32) (x2 : Int32) : (Int32 × Sg) → Prop := (fun r : (Int32 × Sg) => Vat C (wX E) 5 59 [(3, .int r.1)] [] r.2)
set_option maxHeartbeats 4000000 in
set_option maxRecDepth 100000 in
theorem b_X8_longestInto_L6 {C : Cm} {E : Ev} (cx : Cx C (tyE E) cX8_longestInto RX8 5 1 22) (x1 : Int32) (x2 : Int32) : ∀ (s : (Int32 × Int32 × Sg)) (out : (Int32 × Int32 × Sg) ⊕ (Int32 × Sg)), m_X8_longestInto_L6 x1 x2 s.1 s.2.1 s.2.2 = some out → Sum.elim (V_X8_longestInto_L6 C E x1 x2) (K_X8_longestInto_L6 C E x1 x2) out → V_X8_longestInto_L6 C E x1 x2 s := by
  intro s out h hk
  obtain ⟨x3, x4, st⟩ := s
  show Vat C (wX E) 5 6 [(0, .ref (oX E 7)), (1, .int x1), (2, .int x2), (3, .int x3), (4, .int x4)] [] st
  replace h : m_X8_longestInto_L6 x1 x2 x3 x4 st = some out := h
  unfold m_X8_longestInto_L6 at h
  refine v_iload 8 4 cx dX8_longestInto_6 rfl rfl ?_
  refine v_iload_n 9 1 cx dX8_longestInto_8 rfl rfl rfl ?_
  refine v_icmp_ge 59 12 cx dX8_longestInto_9 (by decide) rfl h (fun h => ?_) (fun h => ?_)
  · cases h
    have hk : Vat C (wX E) 5 59 [(3, .int x3)] [] st := hk
    exact v_lsub (lv' := [(3, .int x3)]) [3] rfl (hk)
  · refine v_aload_n 13 0 cx dX8_longestInto_12 rfl rfl rfl ?_
    refine v_get 16 7 4 cx dX8_longestInto_13 iX8 (wXo_7 E st) rfl (Nat.le_of_ble_eq_true rfl) rfl kf_X8_22 rfl rfl ?_
    refine v_iload 18 4 cx dX8_longestInto_16 rfl rfl ?_
    refine v_iald 19 42 0 cx dX8_longestInto_18 (wXa_7_4 E st) rfl rfl h (fun v3 h => ?_)
    refine v_ldc 21 cx dX8_longestInto_19 kc_X8_102 rfl ?_
    refine v_icmp_eq 53 24 cx dX8_longestInto_21 (by decide) rfl h (fun h => ?_) (fun h => ?_)
    · refine v_iinc 56 4 (fun a4 => [(4, .int a4), (0, .ref (oX E 7)), (1, .int x1), (2, .int x2), (3, .int x3)]) cx dX8_longestInto_53 rfl ic_1 (by decide) (fun _ => rfl) rfl h (fun a4 h => ?_)
      refine v_goto 6 cx dX8_longestInto_56 (by decide) ?_
      cases h
      have hk : Vat C (wX E) 5 6 [(0, .ref (oX E 7)), (1, .int x1), (2, .int x2), (3, .int x3), (4, .int a4)] [] st := hk
      exact v_lsub (lv' := [(0, .ref (oX E 7)), (1, .int x1), (2, .int x2), (3, .int x3), (4, .int a4)]) [1, 2, 3, 4, 0] rfl (hk)
    · refine v_iload_n 25 3 cx dX8_longestInto_24 rfl rfl rfl ?_
      refine v_aload_n 26 0 cx dX8_longestInto_25 rfl rfl rfl ?_
      refine v_get 29 7 3 cx dX8_longestInto_26 iX8 (wXo_7 E st) rfl (Nat.le_of_ble_eq_true rfl) rfl kf_X8_18 rfl rfl ?_
      refine v_iload_n 30 1 cx dX8_longestInto_29 rfl rfl rfl ?_
      refine v_iconst 31 cx dX8_longestInto_30 ic_1 rfl ?_
      refine v_isub 32 cx dX8_longestInto_31 rfl ?_
      refine v_iload_n 33 2 cx dX8_longestInto_32 rfl rfl rfl ?_
      refine v_iload 35 4 cx dX8_longestInto_33 rfl rfl ?_
      refine v_callSI 38 cx dX8_longestInto_35 km_X8_107 ca_X8_place (c_X8_place C.2.1 E st (x1 - 1) x2 x4 ) rfl (by decide) rfl (Nat.le_of_ble_eq_true rfl) rfl h (fun v6 s5 h => ?_)
      refine v_iald 39 41 0 cx dX8_longestInto_38 (wXa_7_3 E s5) rfl rfl h (fun v7 h => ?_)
      refine v_aload_n 40 0 cx dX8_longestInto_39 rfl rfl rfl ?_
      refine v_get 43 7 4 cx dX8_longestInto_40 iX8 (wXo_7 E s5) rfl (Nat.le_of_ble_eq_true rfl) rfl kf_X8_22 rfl rfl ?_
      refine v_iload 45 4 cx dX8_longestInto_43 rfl rfl ?_
      refine v_iald 46 42 0 cx dX8_longestInto_45 (wXa_7_4 E s5) rfl rfl h (fun v8 h => ?_)
      refine v_callSI 49 cx dX8_longestInto_46 km_X8_130 ca_X8_plus (c_X8_plus C.2.1 E s5 v7 v8 ) rfl (by decide) rfl (Nat.le_of_ble_eq_true rfl) rfl h (fun v10 s9 h => ?_)
      refine v_mmax 52 cx dX8_longestInto_49 km_X8_52 kmax_s kmax_i kmax_c (by decide) (Nat.le_of_ble_eq_true rfl) rfl ?_
      refine v_istore_n 53 (fun a11 => [(3, .int a11), (0, .ref (oX E 7)), (1, .int x1), (2, .int x2), (4, .int x4)]) cx dX8_longestInto_52 rfl (by decide) (fun _ => rfl) rfl h (fun a11 h => ?_)
      refine v_iinc 56 4 (fun a12 => [(4, .int a12), (3, .int a11), (0, .ref (oX E 7)), (1, .int x1), (2, .int x2)]) cx dX8_longestInto_53 rfl ic_1 (by decide) (fun _ => rfl) rfl h (fun a12 h => ?_)
      refine v_goto 6 cx dX8_longestInto_56 (by decide) ?_
      cases h
      have hk : Vat C (wX E) 5 6 [(0, .ref (oX E 7)), (1, .int x1), (2, .int x2), (3, .int a11), (4, .int a12)] [] s9 := hk
      exact v_lsub (lv' := [(0, .ref (oX E 7)), (1, .int x1), (2, .int x2), (3, .int a11), (4, .int a12)]) [2, 3, 4, 1, 0] rfl (hk)
set_option maxHeartbeats 4000000 in
set_option maxRecDepth 100000 in
theorem c_X8_longestInto (l : Launch) (E : Ev) (st : Sg) (p1 : Int32) (p2 : Int32) : ∀ q, m_X8_longestInto p1 p2 st = some q → CtI l (wX E) (tyE E) yX8_longestInto cX8_longestInto 5 (some .int) 1 22 [.ref (oX E 7), .int p1, .int p2] st q := by
  intro q h
  refine ctI_of (lv0 := [(0, .ref (oX E 7)), (1, .int p1), (2, .int p2)]) (by decide) rfl (Nat.le_of_ble_eq_true rfl) (fun C hC cx hk => ?_)
  replace cx : Cx C (tyE E) cX8_longestInto RX8 5 1 22 := cx
  unfold m_X8_longestInto at h
  refine v_ldc 2 cx dX8_longestInto_0 kc_X8_102 rfl ?_
  refine v_istore_n 3 (fun a1 => [(3, .int a1), (0, .ref (oX E 7)), (1, .int p1), (2, .int p2)]) cx dX8_longestInto_2 rfl (by decide) (fun _ => rfl) rfl h (fun a1 h => ?_)
  refine v_iconst 4 cx dX8_longestInto_3 ic_0 rfl ?_
  refine v_istore 6 (fun a2 => [(4, .int a2), (3, .int a1), (0, .ref (oX E 7)), (1, .int p1), (2, .int p2)]) cx dX8_longestInto_4 (by decide) (fun _ => rfl) rfl h (fun a2 h => ?_)
  refine v_lsub (lv' := [(0, .ref (oX E 7)), (1, .int p1), (2, .int p2), (3, .int a1), (4, .int a2)]) [2, 3, 4, 1, 0] rfl ?_
  refine v_loop (s0 := (a1, a2, st)) (V_X8_longestInto_L6 C E p1 p2) (K_X8_longestInto_L6 C E p1 p2) h (b_X8_longestInto_L6 cx p1 p2) (fun r13 h => ?_)
  show Vat C (wX E) 5 59 [(3, .int r13.1)] [] r13.2
  refine v_iload_n 60 0 cx dX8_longestInto_59 rfl rfl rfl ?_
  exact hk _ _ _ _ (Option.some.inj h) dX8_longestInto_60
def V_X8_longestOutOf_L6 (C : Cm) (E : Ev) (x1 : Int32) (x2 : Int32) (s : (Int32 × Int32 × Sg)) : Prop := Vat C (wX E) 5 6 [(0, .ref (oX E 7)), (1, .int x1), (2, .int x2), (3, .int s.1), (4, .int s.2.1)] [] s.2.2
def K_X8_longestOutOf_L6 (C : Cm) (E : Ev) (x1 : Int32) (x2 : Int32) : (Int32 × Sg) → Prop := (fun r : (Int32 × Sg) => Vat C (wX E) 5 59 [(3, .int r.1)] [] r.2)
set_option maxHeartbeats 4000000 in
set_option maxRecDepth 100000 in
theorem b_X8_longestOutOf_L6 {C : Cm} {E : Ev} (cx : Cx C (tyE E) cX8_longestOutOf RX8 5 1 22) (x1 : Int32) (x2 : Int32) : ∀ (s : (Int32 × Int32 × Sg)) (out : (Int32 × Int32 × Sg) ⊕ (Int32 × Sg)), m_X8_longestOutOf_L6 x1 x2 s.1 s.2.1 s.2.2 = some out → Sum.elim (V_X8_longestOutOf_L6 C E x1 x2) (K_X8_longestOutOf_L6 C E x1 x2) out → V_X8_longestOutOf_L6 C E x1 x2 s := by
  intro s out h hk
  obtain ⟨x3, x4, st⟩ := s
  show Vat C (wX E) 5 6 [(0, .ref (oX E 7)), (1, .int x1), (2, .int x2), (3, .int x3), (4, .int x4)] [] st
  replace h : m_X8_longestOutOf_L6 x1 x2 x3 x4 st = some out := h
  unfold m_X8_longestOutOf_L6 at h
  refine v_iload 8 4 cx dX8_longestOutOf_6 rfl rfl ?_
  refine v_iload_n 9 1 cx dX8_longestOutOf_8 rfl rfl rfl ?_
  refine v_icmp_ge 59 12 cx dX8_longestOutOf_9 (by decide) rfl h (fun h => ?_) (fun h => ?_)
  · cases h
    have hk : Vat C (wX E) 5 59 [(3, .int x3)] [] st := hk
    exact v_lsub (lv' := [(3, .int x3)]) [3] rfl (hk)
  · refine v_aload_n 13 0 cx dX8_longestOutOf_12 rfl rfl rfl ?_
    refine v_get 16 7 5 cx dX8_longestOutOf_13 iX8 (wXo_7 E st) rfl (Nat.le_of_ble_eq_true rfl) rfl kf_X8_25 rfl rfl ?_
    refine v_iload 18 4 cx dX8_longestOutOf_16 rfl rfl ?_
    refine v_iald 19 43 0 cx dX8_longestOutOf_18 (wXa_7_5 E st) rfl rfl h (fun v3 h => ?_)
    refine v_ldc 21 cx dX8_longestOutOf_19 kc_X8_102 rfl ?_
    refine v_icmp_eq 53 24 cx dX8_longestOutOf_21 (by decide) rfl h (fun h => ?_) (fun h => ?_)
    · refine v_iinc 56 4 (fun a4 => [(4, .int a4), (0, .ref (oX E 7)), (1, .int x1), (2, .int x2), (3, .int x3)]) cx dX8_longestOutOf_53 rfl ic_1 (by decide) (fun _ => rfl) rfl h (fun a4 h => ?_)
      refine v_goto 6 cx dX8_longestOutOf_56 (by decide) ?_
      cases h
      have hk : Vat C (wX E) 5 6 [(0, .ref (oX E 7)), (1, .int x1), (2, .int x2), (3, .int x3), (4, .int a4)] [] st := hk
      exact v_lsub (lv' := [(0, .ref (oX E 7)), (1, .int x1), (2, .int x2), (3, .int x3), (4, .int a4)]) [1, 2, 3, 4, 0] rfl (hk)
    · refine v_iload_n 25 3 cx dX8_longestOutOf_24 rfl rfl rfl ?_
      refine v_aload_n 26 0 cx dX8_longestOutOf_25 rfl rfl rfl ?_
      refine v_get 29 7 5 cx dX8_longestOutOf_26 iX8 (wXo_7 E st) rfl (Nat.le_of_ble_eq_true rfl) rfl kf_X8_25 rfl rfl ?_
      refine v_iload 31 4 cx dX8_longestOutOf_29 rfl rfl ?_
      refine v_iald 32 43 0 cx dX8_longestOutOf_31 (wXa_7_5 E st) rfl rfl h (fun v5 h => ?_)
      refine v_aload_n 33 0 cx dX8_longestOutOf_32 rfl rfl rfl ?_
      refine v_get 36 7 3 cx dX8_longestOutOf_33 iX8 (wXo_7 E st) rfl (Nat.le_of_ble_eq_true rfl) rfl kf_X8_18 rfl rfl ?_
      refine v_iload_n 37 1 cx dX8_longestOutOf_36 rfl rfl rfl ?_
      refine v_iconst 38 cx dX8_longestOutOf_37 ic_1 rfl ?_
      refine v_isub 39 cx dX8_longestOutOf_38 rfl ?_
      refine v_iload 41 4 cx dX8_longestOutOf_39 rfl rfl ?_
      refine v_iload_n 42 2 cx dX8_longestOutOf_41 rfl rfl rfl ?_
      refine v_callSI 45 cx dX8_longestOutOf_42 km_X8_107 ca_X8_place (c_X8_place C.2.1 E st (x1 - 1) x4 x2 ) rfl (by decide) rfl (Nat.le_of_ble_eq_true rfl) rfl h (fun v7 s6 h => ?_)
      refine v_iald 46 41 0 cx dX8_longestOutOf_45 (wXa_7_3 E s6) rfl rfl h (fun v8 h => ?_)
      refine v_callSI 49 cx dX8_longestOutOf_46 km_X8_130 ca_X8_plus (c_X8_plus C.2.1 E s6 v5 v8 ) rfl (by decide) rfl (Nat.le_of_ble_eq_true rfl) rfl h (fun v10 s9 h => ?_)
      refine v_mmax 52 cx dX8_longestOutOf_49 km_X8_52 kmax_s kmax_i kmax_c (by decide) (Nat.le_of_ble_eq_true rfl) rfl ?_
      refine v_istore_n 53 (fun a11 => [(3, .int a11), (0, .ref (oX E 7)), (1, .int x1), (2, .int x2), (4, .int x4)]) cx dX8_longestOutOf_52 rfl (by decide) (fun _ => rfl) rfl h (fun a11 h => ?_)
      refine v_iinc 56 4 (fun a12 => [(4, .int a12), (3, .int a11), (0, .ref (oX E 7)), (1, .int x1), (2, .int x2)]) cx dX8_longestOutOf_53 rfl ic_1 (by decide) (fun _ => rfl) rfl h (fun a12 h => ?_)
      refine v_goto 6 cx dX8_longestOutOf_56 (by decide) ?_
      cases h
      have hk : Vat C (wX E) 5 6 [(0, .ref (oX E 7)), (1, .int x1), (2, .int x2), (3, .int a11), (4, .int a12)] [] s9 := hk
      exact v_lsub (lv' := [(0, .ref (oX E 7)), (1, .int x1), (2, .int x2), (3, .int a11), (4, .int a12)]) [2, 3, 4, 1, 0] rfl (hk)
set_option maxHeartbeats 4000000 in
set_option maxRecDepth 100000 in
theorem c_X8_longestOutOf (l : Launch) (E : Ev) (st : Sg) (p1 : Int32) (p2 : Int32) : ∀ q, m_X8_longestOutOf p1 p2 st = some q → CtI l (wX E) (tyE E) yX8_longestOutOf cX8_longestOutOf 5 (some .int) 1 22 [.ref (oX E 7), .int p1, .int p2] st q := by
  intro q h
  refine ctI_of (lv0 := [(0, .ref (oX E 7)), (1, .int p1), (2, .int p2)]) (by decide) rfl (Nat.le_of_ble_eq_true rfl) (fun C hC cx hk => ?_)
  replace cx : Cx C (tyE E) cX8_longestOutOf RX8 5 1 22 := cx
  unfold m_X8_longestOutOf at h
  refine v_ldc 2 cx dX8_longestOutOf_0 kc_X8_102 rfl ?_
  refine v_istore_n 3 (fun a1 => [(3, .int a1), (0, .ref (oX E 7)), (1, .int p1), (2, .int p2)]) cx dX8_longestOutOf_2 rfl (by decide) (fun _ => rfl) rfl h (fun a1 h => ?_)
  refine v_iconst 4 cx dX8_longestOutOf_3 ic_0 rfl ?_
  refine v_istore 6 (fun a2 => [(4, .int a2), (3, .int a1), (0, .ref (oX E 7)), (1, .int p1), (2, .int p2)]) cx dX8_longestOutOf_4 (by decide) (fun _ => rfl) rfl h (fun a2 h => ?_)
  refine v_lsub (lv' := [(0, .ref (oX E 7)), (1, .int p1), (2, .int p2), (3, .int a1), (4, .int a2)]) [2, 3, 4, 1, 0] rfl ?_
  refine v_loop (s0 := (a1, a2, st)) (V_X8_longestOutOf_L6 C E p1 p2) (K_X8_longestOutOf_L6 C E p1 p2) h (b_X8_longestOutOf_L6 cx p1 p2) (fun r13 h => ?_)
  show Vat C (wX E) 5 59 [(3, .int r13.1)] [] r13.2
  refine v_iload_n 60 0 cx dX8_longestOutOf_59 rfl rfl rfl ?_
  exact hk _ _ _ _ (Option.some.inj h) dX8_longestOutOf_60
def V_X8_lengthen_L10 (C : Cm) (E : Ev) (x1 : Int32) (x2 : Int32) (x3 : Int32) (s : (Int32 × Sg)) : Prop := Vat C (wX E) 5 10 [(0, .ref (oX E 7)), (1, .int x1), (2, .int x2), (3, .int x3), (4, .int s.1)] [] s.2
def K_X8_lengthen_L10 (C : Cm) (E : Ev) (x1 : Int32) (x2 : Int32) (x3 : Int32) : (Sg) → Prop := (fun r : (Sg) => Vat C (wX E) 5 69 [] [] r)
set_option maxHeartbeats 4000000 in
set_option maxRecDepth 100000 in
theorem b_X8_lengthen_L10 {C : Cm} {E : Ev} (cx : Cx C (tyE E) cX8_lengthen RX8 5 1 22) (x1 : Int32) (x2 : Int32) (x3 : Int32) : ∀ (s : (Int32 × Sg)) (out : (Int32 × Sg) ⊕ (Sg)), m_X8_lengthen_L10 x1 x2 x3 s.1 s.2 = some out → Sum.elim (V_X8_lengthen_L10 C E x1 x2 x3) (K_X8_lengthen_L10 C E x1 x2 x3) out → V_X8_lengthen_L10 C E x1 x2 x3 s := by
  intro s out h hk
  obtain ⟨x4, st⟩ := s
  show Vat C (wX E) 5 10 [(0, .ref (oX E 7)), (1, .int x1), (2, .int x2), (3, .int x3), (4, .int x4)] [] st
  replace h : m_X8_lengthen_L10 x1 x2 x3 x4 st = some out := h
  unfold m_X8_lengthen_L10 at h
  refine v_iload 12 4 cx dX8_lengthen_10 rfl rfl ?_
  refine v_iload_n 13 1 cx dX8_lengthen_12 rfl rfl rfl ?_
  refine v_icmp_ge 69 16 cx dX8_lengthen_13 (by decide) rfl h (fun h => ?_) (fun h => ?_)
  · cases h
    have hk : Vat C (wX E) 5 69 [] [] st := hk
    exact v_lsub (lv' := []) [] rfl (hk)
  · refine v_aload_n 17 0 cx dX8_lengthen_16 rfl rfl rfl ?_
    refine v_get 20 7 7 cx dX8_lengthen_17 iX8 (wXo_7 E st) rfl (Nat.le_of_ble_eq_true rfl) rfl kf_X8_31 rfl rfl ?_
    refine v_iload 22 4 cx dX8_lengthen_20 rfl rfl ?_
    refine v_iald 23 45 0 cx dX8_lengthen_22 (wXa_7_7 E st) rfl rfl h (fun v5 h => ?_)
    refine v_ldc 25 cx dX8_lengthen_23 kc_X8_102 rfl ?_
    refine v_icmp_eq 63 28 cx dX8_lengthen_25 (by decide) rfl h (fun h => ?_) (fun h => ?_)
    · refine v_iinc 66 4 (fun a6 => [(4, .int a6), (0, .ref (oX E 7)), (1, .int x1), (2, .int x2), (3, .int x3)]) cx dX8_lengthen_63 rfl ic_1 (by decide) (fun _ => rfl) rfl h (fun a6 h => ?_)
      refine v_goto 10 cx dX8_lengthen_66 (by decide) ?_
      cases h
      have hk : Vat C (wX E) 5 10 [(0, .ref (oX E 7)), (1, .int x1), (2, .int x2), (3, .int x3), (4, .int a6)] [] st := hk
      exact v_lsub (lv' := [(0, .ref (oX E 7)), (1, .int x1), (2, .int x2), (3, .int x3), (4, .int a6)]) [1, 2, 3, 4, 0] rfl (hk)
    · refine v_aload_n 29 0 cx dX8_lengthen_28 rfl rfl rfl ?_
      refine v_get 32 7 3 cx dX8_lengthen_29 iX8 (wXo_7 E st) rfl (Nat.le_of_ble_eq_true rfl) rfl kf_X8_18 rfl rfl ?_
      refine v_iload_n 33 3 cx dX8_lengthen_32 rfl rfl rfl ?_
      refine v_iload 35 4 cx dX8_lengthen_33 rfl rfl ?_
      refine v_iadd 36 cx dX8_lengthen_35 rfl ?_
      refine v_aload_n 37 0 cx dX8_lengthen_36 rfl rfl rfl ?_
      refine v_get 40 7 3 cx dX8_lengthen_37 iX8 (wXo_7 E st) rfl (Nat.le_of_ble_eq_true rfl) rfl kf_X8_18 rfl rfl ?_
      refine v_iload_n 41 3 cx dX8_lengthen_40 rfl rfl rfl ?_
      refine v_iload 43 4 cx dX8_lengthen_41 rfl rfl ?_
      refine v_iadd 44 cx dX8_lengthen_43 rfl ?_
      refine v_iald 45 41 0 cx dX8_lengthen_44 (wXa_7_3 E st) rfl rfl h (fun v7 h => ?_)
      refine v_aload_n 46 0 cx dX8_lengthen_45 rfl rfl rfl ?_
      refine v_get 49 7 6 cx dX8_lengthen_46 iX8 (wXo_7 E st) rfl (Nat.le_of_ble_eq_true rfl) rfl kf_X8_28 rfl rfl ?_
      refine v_iload_n 50 2 cx dX8_lengthen_49 rfl rfl rfl ?_
      refine v_iald 51 44 0 cx dX8_lengthen_50 (wXa_7_6 E st) rfl rfl h (fun v8 h => ?_)
      refine v_aload_n 52 0 cx dX8_lengthen_51 rfl rfl rfl ?_
      refine v_get 55 7 7 cx dX8_lengthen_52 iX8 (wXo_7 E st) rfl (Nat.le_of_ble_eq_true rfl) rfl kf_X8_31 rfl rfl ?_
      refine v_iload 57 4 cx dX8_lengthen_55 rfl rfl ?_
      refine v_iald 58 45 0 cx dX8_lengthen_57 (wXa_7_7 E st) rfl rfl h (fun v9 h => ?_)
      refine v_iadd 59 cx dX8_lengthen_58 rfl ?_
      refine v_mmax 62 cx dX8_lengthen_59 km_X8_52 kmax_s kmax_i kmax_c (by decide) (Nat.le_of_ble_eq_true rfl) rfl ?_
      refine v_iast 63 41 0 cx dX8_lengthen_62 (wXa_7_3 E st) rfl (wXt_7_3 E st) rfl h (fun s10 h => ?_)
      refine v_iinc 66 4 (fun a11 => [(4, .int a11), (0, .ref (oX E 7)), (1, .int x1), (2, .int x2), (3, .int x3)]) cx dX8_lengthen_63 rfl ic_1 (by decide) (fun _ => rfl) rfl h (fun a11 h => ?_)
      refine v_goto 10 cx dX8_lengthen_66 (by decide) ?_
      cases h
      have hk : Vat C (wX E) 5 10 [(0, .ref (oX E 7)), (1, .int x1), (2, .int x2), (3, .int x3), (4, .int a11)] [] s10 := hk
      exact v_lsub (lv' := [(0, .ref (oX E 7)), (1, .int x1), (2, .int x2), (3, .int x3), (4, .int a11)]) [1, 2, 3, 4, 0] rfl (hk)
set_option maxHeartbeats 4000000 in
set_option maxRecDepth 100000 in
theorem c_X8_lengthen (l : Launch) (E : Ev) (st : Sg) (p1 : Int32) (p2 : Int32) : ∀ q, m_X8_lengthen p1 p2 st = some q → CtV l (wX E) (tyE E) yX8_lengthen cX8_lengthen 5 none 1 22 [.ref (oX E 7), .int p1, .int p2] st q := by
  intro q h
  refine ctV_of (lv0 := [(0, .ref (oX E 7)), (1, .int p1), (2, .int p2)]) (by decide) rfl (Nat.le_of_ble_eq_true rfl) (fun C hC cx hk => ?_)
  replace cx : Cx C (tyE E) cX8_lengthen RX8 5 1 22 := cx
  unfold m_X8_lengthen at h
  refine v_iload_n 1 1 cx dX8_lengthen_0 rfl rfl rfl ?_
  refine v_iload_n 2 2 cx dX8_lengthen_1 rfl rfl rfl ?_
  refine v_iconst 3 cx dX8_lengthen_2 ic_0 rfl ?_
  refine v_callSI 6 cx dX8_lengthen_3 km_X8_107 ca_X8_place (c_X8_place C.2.1 E st p1 p2 0 ) rfl (by decide) rfl (Nat.le_of_ble_eq_true rfl) rfl h (fun v2 s1 h => ?_)
  refine v_istore_n 7 (fun a3 => [(3, .int a3), (0, .ref (oX E 7)), (1, .int p1), (2, .int p2)]) cx dX8_lengthen_6 rfl (by decide) (fun _ => rfl) rfl h (fun a3 h => ?_)
  refine v_iconst 8 cx dX8_lengthen_7 ic_0 rfl ?_
  refine v_istore 10 (fun a4 => [(4, .int a4), (3, .int a3), (0, .ref (oX E 7)), (1, .int p1), (2, .int p2)]) cx dX8_lengthen_8 (by decide) (fun _ => rfl) rfl h (fun a4 h => ?_)
  refine v_lsub (lv' := [(0, .ref (oX E 7)), (1, .int p1), (2, .int p2), (3, .int a3), (4, .int a4)]) [2, 3, 4, 1, 0] rfl ?_
  refine v_loop (s0 := (a4, s1)) (V_X8_lengthen_L10 C E p1 p2 a3) (K_X8_lengthen_L10 C E p1 p2 a3) h (b_X8_lengthen_L10 cx p1 p2 a3) (fun r12 h => ?_)
  show Vat C (wX E) 5 69 [] [] r12
  exact hk _ _ _ _ (Option.some.inj h) dX8_lengthen_69
def V_X8_chain_L2 (C : Cm) (E : Ev) (x1 : Int32) (s : (Int32 × Sg)) : Prop := Vat C (wX E) 3 2 [(0, .ref (oX E 7)), (1, .int x1), (2, .int s.1)] [] s.2
def K_X8_chain_L2 (C : Cm) (E : Ev) (x1 : Int32) : (Sg) → Prop := (fun r : (Sg) => Vat C (wX E) 3 37 [(0, .ref (oX E 7)), (1, .int x1)] [] r)
set_option maxHeartbeats 4000000 in
set_option maxRecDepth 100000 in
theorem b_X8_chain_L2 {C : Cm} {E : Ev} (cx : Cx C (tyE E) cX8_chain RX8 3 2 46) (x1 : Int32) : ∀ (s : (Int32 × Sg)) (out : (Int32 × Sg) ⊕ (Sg)), m_X8_chain_L2 x1 s.1 s.2 = some out → Sum.elim (V_X8_chain_L2 C E x1) (K_X8_chain_L2 C E x1) out → V_X8_chain_L2 C E x1 s := by
  intro s out h hk
  obtain ⟨x2, st⟩ := s
  show Vat C (wX E) 3 2 [(0, .ref (oX E 7)), (1, .int x1), (2, .int x2)] [] st
  replace h : m_X8_chain_L2 x1 x2 st = some out := h
  unfold m_X8_chain_L2 at h
  refine v_iload_n 3 2 cx dX8_chain_2 rfl rfl rfl ?_
  refine v_iload_n 4 1 cx dX8_chain_3 rfl rfl rfl ?_
  refine v_icmp_ge 37 7 cx dX8_chain_4 (by decide) rfl h (fun h => ?_) (fun h => ?_)
  · cases h
    have hk : Vat C (wX E) 3 37 [(0, .ref (oX E 7)), (1, .int x1)] [] st := hk
    exact v_lsub (lv' := [(0, .ref (oX E 7)), (1, .int x1)]) [0, 1] rfl (hk)
  · refine v_aload_n 8 0 cx dX8_chain_7 rfl rfl rfl ?_
    refine v_get 11 7 6 cx dX8_chain_8 iX8 (wXo_7 E st) rfl (Nat.le_of_ble_eq_true rfl) rfl kf_X8_28 rfl rfl ?_
    refine v_iload_n 12 2 cx dX8_chain_11 rfl rfl rfl ?_
    refine v_aload_n 13 0 cx dX8_chain_12 rfl rfl rfl ?_
    refine v_iload_n 14 1 cx dX8_chain_13 rfl rfl rfl ?_
    refine v_iload_n 15 2 cx dX8_chain_14 rfl rfl rfl ?_
    refine v_callVI 18 7 cx dX8_chain_15 km_X8_114 ca_X8_longestInto (wXo_7 E st) rfl (c_X8_longestInto C.2.1 E st x1 x2 ) rfl (by decide) rfl (Nat.le_of_ble_eq_true rfl) rfl h (fun v3 s2 h => ?_)
    refine v_iast 19 44 0 cx dX8_chain_18 (wXa_7_6 E s2) rfl (wXt_7_6 E s2) rfl h (fun s4 h => ?_)
    refine v_aload_n 20 0 cx dX8_chain_19 rfl rfl rfl ?_
    refine v_get 23 7 7 cx dX8_chain_20 iX8 (wXo_7 E s4) rfl (Nat.le_of_ble_eq_true rfl) rfl kf_X8_31 rfl rfl ?_
    refine v_iload_n 24 2 cx dX8_chain_23 rfl rfl rfl ?_
    refine v_aload_n 25 0 cx dX8_chain_24 rfl rfl rfl ?_
    refine v_iload_n 26 1 cx dX8_chain_25 rfl rfl rfl ?_
    refine v_iload_n 27 2 cx dX8_chain_26 rfl rfl rfl ?_
    refine v_callVI 30 7 cx dX8_chain_27 km_X8_117 ca_X8_longestOutOf (wXo_7 E s4) rfl (c_X8_longestOutOf C.2.1 E s4 x1 x2 ) rfl (by decide) rfl (Nat.le_of_ble_eq_true rfl) rfl h (fun v6 s5 h => ?_)
    refine v_iast 31 45 0 cx dX8_chain_30 (wXa_7_7 E s5) rfl (wXt_7_7 E s5) rfl h (fun s7 h => ?_)
    refine v_iinc 34 2 (fun a8 => [(2, .int a8), (0, .ref (oX E 7)), (1, .int x1)]) cx dX8_chain_31 rfl ic_1 (by decide) (fun _ => rfl) rfl h (fun a8 h => ?_)
    refine v_goto 2 cx dX8_chain_34 (by decide) ?_
    cases h
    have hk : Vat C (wX E) 3 2 [(0, .ref (oX E 7)), (1, .int x1), (2, .int a8)] [] s7 := hk
    exact v_lsub (lv' := [(0, .ref (oX E 7)), (1, .int x1), (2, .int a8)]) [1, 2, 0] rfl (hk)
def V_X8_chain_L39 (C : Cm) (E : Ev) (x1 : Int32) (s : (Int32 × Sg)) : Prop := Vat C (wX E) 3 39 [(0, .ref (oX E 7)), (1, .int x1), (2, .int s.1)] [] s.2
def K_X8_chain_L39 (C : Cm) (E : Ev) (x1 : Int32) : (Sg) → Prop := (fun r : (Sg) => Vat C (wX E) 3 127 [(0, .ref (oX E 7)), (1, .int x1)] [] r)
set_option maxHeartbeats 4000000 in
set_option maxRecDepth 100000 in
theorem j_X8_chain_87 {C : Cm} {E : Ev} (cx : Cx C (tyE E) cX8_chain RX8 3 2 46) (x1 : Int32) (x2 : Int32) (st : Sg) (out : (Int32 × Sg) ⊕ (Sg)) (h : m_X8_chain_87 x1 x2 st = some out) (hk : Sum.elim (V_X8_chain_L39 C E x1) (K_X8_chain_L39 C E x1) out) : Vat C (wX E) 3 87 [(0, .ref (oX E 7)), (1, .int x1), (2, .int x2)] [] st := by
  unfold m_X8_chain_87 at h
  refine v_aload_n 88 0 cx dX8_chain_87 rfl rfl rfl ?_
  refine v_get 91 7 3 cx dX8_chain_88 iX8 (wXo_7 E st) rfl (Nat.le_of_ble_eq_true rfl) rfl kf_X8_18 rfl rfl ?_
  refine v_iload_n 92 1 cx dX8_chain_91 rfl rfl rfl ?_
  refine v_iload_n 93 2 cx dX8_chain_92 rfl rfl rfl ?_
  refine v_iload_n 94 1 cx dX8_chain_93 rfl rfl rfl ?_
  refine v_callSI 97 cx dX8_chain_94 km_X8_107 ca_X8_place (c_X8_place C.2.1 E st x1 x2 x1 ) rfl (by decide) rfl (Nat.le_of_ble_eq_true rfl) rfl h (fun v18 s17 h => ?_)
  refine v_aload_n 98 0 cx dX8_chain_97 rfl rfl rfl ?_
  refine v_get 101 7 6 cx dX8_chain_98 iX8 (wXo_7 E s17) rfl (Nat.le_of_ble_eq_true rfl) rfl kf_X8_28 rfl rfl ?_
  refine v_iload_n 102 2 cx dX8_chain_101 rfl rfl rfl ?_
  refine v_iald 103 44 0 cx dX8_chain_102 (wXa_7_6 E s17) rfl rfl h (fun v19 h => ?_)
  refine v_iast 104 41 0 cx dX8_chain_103 (wXa_7_3 E s17) rfl (wXt_7_3 E s17) rfl h (fun s20 h => ?_)
  refine v_aload_n 105 0 cx dX8_chain_104 rfl rfl rfl ?_
  refine v_get 108 7 3 cx dX8_chain_105 iX8 (wXo_7 E s20) rfl (Nat.le_of_ble_eq_true rfl) rfl kf_X8_18 rfl rfl ?_
  refine v_iload_n 109 1 cx dX8_chain_108 rfl rfl rfl ?_
  refine v_iload_n 110 1 cx dX8_chain_109 rfl rfl rfl ?_
  refine v_iload_n 111 2 cx dX8_chain_110 rfl rfl rfl ?_
  refine v_callSI 114 cx dX8_chain_111 km_X8_107 ca_X8_place (c_X8_place C.2.1 E s20 x1 x1 x2 ) rfl (by decide) rfl (Nat.le_of_ble_eq_true rfl) rfl h (fun v22 s21 h => ?_)
  refine v_aload_n 115 0 cx dX8_chain_114 rfl rfl rfl ?_
  refine v_get 118 7 7 cx dX8_chain_115 iX8 (wXo_7 E s21) rfl (Nat.le_of_ble_eq_true rfl) rfl kf_X8_31 rfl rfl ?_
  refine v_iload_n 119 2 cx dX8_chain_118 rfl rfl rfl ?_
  refine v_iald 120 45 0 cx dX8_chain_119 (wXa_7_7 E s21) rfl rfl h (fun v23 h => ?_)
  refine v_iast 121 41 0 cx dX8_chain_120 (wXa_7_3 E s21) rfl (wXt_7_3 E s21) rfl h (fun s24 h => ?_)
  refine v_iinc 124 2 (fun a25 => [(2, .int a25), (0, .ref (oX E 7)), (1, .int x1)]) cx dX8_chain_121 rfl ic_1 (by decide) (fun _ => rfl) rfl h (fun a25 h => ?_)
  refine v_goto 39 cx dX8_chain_124 (by decide) ?_
  cases h
  have hk : Vat C (wX E) 3 39 [(0, .ref (oX E 7)), (1, .int x1), (2, .int a25)] [] s24 := hk
  exact v_lsub (lv' := [(0, .ref (oX E 7)), (1, .int x1), (2, .int a25)]) [1, 2, 0] rfl (hk)
set_option maxHeartbeats 4000000 in
set_option maxRecDepth 100000 in
theorem b_X8_chain_L39 {C : Cm} {E : Ev} (cx : Cx C (tyE E) cX8_chain RX8 3 2 46) (x1 : Int32) : ∀ (s : (Int32 × Sg)) (out : (Int32 × Sg) ⊕ (Sg)), m_X8_chain_L39 x1 s.1 s.2 = some out → Sum.elim (V_X8_chain_L39 C E x1) (K_X8_chain_L39 C E x1) out → V_X8_chain_L39 C E x1 s := by
  intro s out h hk
  obtain ⟨x2, st⟩ := s
  show Vat C (wX E) 3 39 [(0, .ref (oX E 7)), (1, .int x1), (2, .int x2)] [] st
  replace h : m_X8_chain_L39 x1 x2 st = some out := h
  unfold m_X8_chain_L39 at h
  refine v_iload_n 40 2 cx dX8_chain_39 rfl rfl rfl ?_
  refine v_iload_n 41 1 cx dX8_chain_40 rfl rfl rfl ?_
  refine v_icmp_ge 127 44 cx dX8_chain_41 (by decide) rfl h (fun h => ?_) (fun h => ?_)
  · cases h
    have hk : Vat C (wX E) 3 127 [(0, .ref (oX E 7)), (1, .int x1)] [] st := hk
    exact v_lsub (lv' := [(0, .ref (oX E 7)), (1, .int x1)]) [0, 1] rfl (hk)
  · refine v_aload_n 45 0 cx dX8_chain_44 rfl rfl rfl ?_
    refine v_get 48 7 3 cx dX8_chain_45 iX8 (wXo_7 E st) rfl (Nat.le_of_ble_eq_true rfl) rfl kf_X8_18 rfl rfl ?_
    refine v_iload_n 49 1 cx dX8_chain_48 rfl rfl rfl ?_
    refine v_iconst 50 cx dX8_chain_49 ic_1 rfl ?_
    refine v_isub 51 cx dX8_chain_50 rfl ?_
    refine v_iload_n 52 2 cx dX8_chain_51 rfl rfl rfl ?_
    refine v_iconst 53 cx dX8_chain_52 ic_0 rfl ?_
    refine v_callSI 56 cx dX8_chain_53 km_X8_107 ca_X8_place (c_X8_place C.2.1 E st (x1 - 1) x2 0 ) rfl (by decide) rfl (Nat.le_of_ble_eq_true rfl) rfl h (fun v12 s11 h => ?_)
    refine v_aload_n 57 0 cx dX8_chain_56 rfl rfl rfl ?_
    refine v_get 60 7 3 cx dX8_chain_57 iX8 (wXo_7 E s11) rfl (Nat.le_of_ble_eq_true rfl) rfl kf_X8_18 rfl rfl ?_
    refine v_iload_n 61 1 cx dX8_chain_60 rfl rfl rfl ?_
    refine v_iload_n 62 2 cx dX8_chain_61 rfl rfl rfl ?_
    refine v_iconst 63 cx dX8_chain_62 ic_0 rfl ?_
    refine v_callSI 66 cx dX8_chain_63 km_X8_107 ca_X8_place (c_X8_place C.2.1 E s11 x1 x2 0 ) rfl (by decide) rfl (Nat.le_of_ble_eq_true rfl) rfl h (fun v14 s13 h => ?_)
    refine v_iload_n 67 1 cx dX8_chain_66 rfl rfl rfl ?_
    refine v_copyi 70 41 41 0 cx dX8_chain_67 km_X8_120 kac_n kac_s kac_i (wXa_7_3 E s13) (wXa_7_3 E s13) rfl (wXt_7_3 E s13) (by decide) (by decide +kernel) rfl h (fun s15 h => ?_)
    refine v_aload_n 71 0 cx dX8_chain_70 rfl rfl rfl ?_
    refine v_get 74 7 6 cx dX8_chain_71 iX8 (wXo_7 E s15) rfl (Nat.le_of_ble_eq_true rfl) rfl kf_X8_28 rfl rfl ?_
    refine v_iload_n 75 2 cx dX8_chain_74 rfl rfl rfl ?_
    refine v_iald 76 44 0 cx dX8_chain_75 (wXa_7_6 E s15) rfl rfl h (fun v16 h => ?_)
    refine v_ldc 78 cx dX8_chain_76 kc_X8_102 rfl ?_
    refine v_icmp_eq 87 81 cx dX8_chain_78 (by decide) rfl h (fun h => ?_) (fun h => ?_)
    · exact j_X8_chain_87 cx x1 x2 s15 _ h hk
    · refine v_aload_n 82 0 cx dX8_chain_81 rfl rfl rfl ?_
      refine v_iload_n 83 1 cx dX8_chain_82 rfl rfl rfl ?_
      refine v_iload_n 84 2 cx dX8_chain_83 rfl rfl rfl ?_
      refine v_callVV 87 7 cx dX8_chain_84 km_X8_126 ca_X8_lengthen (wXo_7 E s15) rfl (c_X8_lengthen C.2.1 E s15 x1 x2 ) rfl (by decide) rfl (Nat.le_of_ble_eq_true rfl) rfl h (fun _ s26 h => ?_)
      exact j_X8_chain_87 cx x1 x2 s26 _ h hk
set_option maxHeartbeats 4000000 in
set_option maxRecDepth 100000 in
theorem c_X8_chain (l : Launch) (E : Ev) (st : Sg) (p1 : Int32) : ∀ q, m_X8_chain p1 st = some q → CtV l (wX E) (tyE E) yX8_chain cX8_chain 3 none 2 46 [.ref (oX E 7), .int p1] st q := by
  intro q h
  refine ctV_of (lv0 := [(0, .ref (oX E 7)), (1, .int p1)]) (by decide) rfl (Nat.le_of_ble_eq_true rfl) (fun C hC cx hk => ?_)
  replace cx : Cx C (tyE E) cX8_chain RX8 3 2 46 := cx
  unfold m_X8_chain at h
  refine v_iconst 1 cx dX8_chain_0 ic_0 rfl ?_
  refine v_istore_n 2 (fun a1 => [(2, .int a1), (0, .ref (oX E 7)), (1, .int p1)]) cx dX8_chain_1 rfl (by decide) (fun _ => rfl) rfl h (fun a1 h => ?_)
  refine v_lsub (lv' := [(0, .ref (oX E 7)), (1, .int p1), (2, .int a1)]) [1, 2, 0] rfl ?_
  refine v_loop (s0 := (a1, st)) (V_X8_chain_L2 C E p1) (K_X8_chain_L2 C E p1) h (b_X8_chain_L2 cx p1) (fun r9 h => ?_)
  show Vat C (wX E) 3 37 [(0, .ref (oX E 7)), (1, .int p1)] [] r9
  refine v_iconst 38 cx dX8_chain_37 ic_0 rfl ?_
  refine v_istore_n 39 (fun a10 => [(2, .int a10), (0, .ref (oX E 7)), (1, .int p1)]) cx dX8_chain_38 rfl (by decide) (fun _ => rfl) rfl h (fun a10 h => ?_)
  refine v_lsub (lv' := [(0, .ref (oX E 7)), (1, .int p1), (2, .int a10)]) [1, 2, 0] rfl ?_
  refine v_loop (s0 := (a10, r9)) (V_X8_chain_L39 C E p1) (K_X8_chain_L39 C E p1) h (b_X8_chain_L39 cx p1) (fun r27 h => ?_)
  show Vat C (wX E) 3 127 [(0, .ref (oX E 7)), (1, .int p1)] [] r27
  refine v_aload_n 128 0 cx dX8_chain_127 rfl rfl rfl ?_
  refine v_get 131 7 3 cx dX8_chain_128 iX8 (wXo_7 E r27) rfl (Nat.le_of_ble_eq_true rfl) rfl kf_X8_18 rfl rfl ?_
  refine v_iload_n 132 1 cx dX8_chain_131 rfl rfl rfl ?_
  refine v_iload_n 133 1 cx dX8_chain_132 rfl rfl rfl ?_
  refine v_iload_n 134 1 cx dX8_chain_133 rfl rfl rfl ?_
  refine v_callSI 137 cx dX8_chain_134 km_X8_107 ca_X8_place (c_X8_place C.2.1 E r27 p1 p1 p1 ) rfl (by decide) rfl (Nat.le_of_ble_eq_true rfl) rfl h (fun v29 s28 h => ?_)
  refine v_iconst 138 cx dX8_chain_137 ic_0 rfl ?_
  refine v_iast 139 41 0 cx dX8_chain_138 (wXa_7_3 E s28) rfl (wXt_7_3 E s28) rfl h (fun s30 h => ?_)
  exact hk _ _ _ _ (Option.some.inj h) dX8_chain_139
set_option maxHeartbeats 4000000 in
set_option maxRecDepth 100000 in
theorem c_X8_attempt (l : Launch) (E : Ev) (st : Sg) (p1 : Int32) : ∀ q, m_X8_attempt p1 st = some q → CtI l (wX E) (tyE E) yX8_attempt cX8_attempt 3 (some .boolean) 3 68 [.ref (oX E 7), .int p1] st q := by
  intro q h
  refine ctZ_of (lv0 := [(0, .ref (oX E 7)), (1, .int p1)]) (by decide) rfl (Nat.le_of_ble_eq_true rfl) (fun C hC cx hk => ?_)
  replace cx : Cx C (tyE E) cX8_attempt RX8 3 3 68 := cx
  unfold m_X8_attempt at h
  refine v_aload_n 1 0 cx dX8_attempt_0 rfl rfl rfl ?_
  refine v_dup 2 cx dX8_attempt_1 rfl rfl ?_
  refine v_getI 5 7 10 cx dX8_attempt_2 iX8 (wXo_7 E st) rfl (Nat.le_of_ble_eq_true rfl) rfl kf_X8_41 rfl rfl h (fun v1 h => ?_)
  refine v_iconst 6 cx dX8_attempt_5 ic_1 rfl ?_
  refine v_iadd 7 cx dX8_attempt_6 rfl ?_
  refine v_putI 10 7 10 cx dX8_attempt_7 iX8 tyX8_ok nmX8 (wXo_7 E st) rfl (Nat.le_of_ble_eq_true rfl) rfl kf_X8_41 rfl rfl rfl rfl (Nat.le_of_ble_eq_true rfl) (wXs_7_10 E st _) rfl h (fun s2 h => ?_)
  refine v_aload_n 11 0 cx dX8_attempt_10 rfl rfl rfl ?_
  refine v_get 14 7 2 cx dX8_attempt_11 iX8 (wXo_7 E s2) rfl (Nat.le_of_ble_eq_true rfl) rfl kf_X8_12 rfl rfl ?_
  refine v_aload_n 15 0 cx dX8_attempt_14 rfl rfl rfl ?_
  refine v_get 18 7 0 cx dX8_attempt_15 iX8 (wXo_7 E s2) rfl (Nat.le_of_ble_eq_true rfl) rfl kf_X8_44 rfl rfl ?_
  refine v_iload_n 19 1 cx dX8_attempt_18 rfl rfl rfl ?_
  refine v_aload_n 20 0 cx dX8_attempt_19 rfl rfl rfl ?_
  refine v_get 23 7 9 cx dX8_attempt_20 iX8 (wXo_7 E s2) rfl (Nat.le_of_ble_eq_true rfl) rfl kf_X8_38 rfl rfl ?_
  refine v_iload_n 24 1 cx dX8_attempt_23 rfl rfl rfl ?_
  refine v_iald 25 46 0 cx dX8_attempt_24 (wXa_7_9 E s2) rfl rfl h (fun v3 h => ?_)
  refine v_aload_n 26 0 cx dX8_attempt_25 rfl rfl rfl ?_
  refine v_getI 29 7 8 cx dX8_attempt_26 iX8 (wXo_7 E s2) rfl (Nat.le_of_ble_eq_true rfl) rfl kf_X8_34 rfl rfl h (fun v4 h => ?_)
  refine v_iconst 30 cx dX8_attempt_29 ic_1 rfl ?_
  refine v_callVI 33 8 cx dX8_attempt_30 km_X8_78 ca_X2_change (wXo_8 E s2) rfl (c_X2_change_8 C.2.1 E s2 p1 v3 v4 1 ) rfl (by decide) rfl (Nat.le_of_ble_eq_true rfl) rfl h (fun v6 s5 h => ?_)
  refine v_istore_n 34 (fun a7 => [(2, .int a7), (0, .ref (oX E 7)), (1, .int p1)]) cx dX8_attempt_33 rfl (by decide) (fun _ => rfl) rfl h (fun a7 h => ?_)
  refine v_iload_n 35 0 cx dX8_attempt_34 rfl rfl rfl ?_
  refine v_aload_n 36 1 cx dX8_attempt_35 rfl rfl rfl ?_
  refine v_get 39 7 0 cx dX8_attempt_36 iX8 (wXo_7 E s5) rfl (Nat.le_of_ble_eq_true rfl) rfl kf_X8_44 rfl rfl ?_
  refine v_get 42 1 10 cx dX8_attempt_39 iX0 (wXo_1 E s5) rfl (Nat.le_of_ble_eq_true rfl) rfl kf_X8_82 rfl rfl ?_
  refine v_aload_n 43 1 cx dX8_attempt_42 rfl rfl rfl ?_
  refine v_get 46 7 0 cx dX8_attempt_43 iX8 (wXo_7 E s5) rfl (Nat.le_of_ble_eq_true rfl) rfl kf_X8_44 rfl rfl ?_
  refine v_get 49 1 3 cx dX8_attempt_46 iX0 (wXo_1 E s5) rfl (Nat.le_of_ble_eq_true rfl) rfl kf_X8_85 rfl rfl ?_
  refine v_iload_n 50 2 cx dX8_attempt_49 rfl rfl rfl ?_
  refine v_iald 51 20 0 cx dX8_attempt_50 (wXa_1_3 E s5) rfl rfl h (fun v8 h => ?_)
  refine v_iald 52 27 0 cx dX8_attempt_51 (wXa_1_10 E s5) rfl rfl h (fun v9 h => ?_)
  refine v_icmp_gt 70 55 cx dX8_attempt_52 (by decide) rfl h (fun h => ?_) (fun h => ?_)
  · refine v_aload_n 71 1 cx dX8_attempt_70 rfl rfl rfl ?_
    refine v_iload_n 72 2 cx dX8_attempt_71 rfl rfl rfl ?_
    refine v_callVV 75 7 cx dX8_attempt_72 km_X8_66 ca_X8_leave (wXo_7 E s5) rfl (c_X8_leave C.2.1 E s5 p1 ) rfl (by decide) rfl (Nat.le_of_ble_eq_true rfl) rfl h (fun _ s10 h => ?_)
    refine v_iconst 76 cx dX8_attempt_75 ic_0 rfl ?_
    exact hk _ _ _ _ (Option.some.inj h) (Or.inl rfl) dX8_attempt_76
  · refine v_aload_n 56 1 cx dX8_attempt_55 rfl rfl rfl ?_
    refine v_iload_n 57 2 cx dX8_attempt_56 rfl rfl rfl ?_
    refine v_callVI 60 7 cx dX8_attempt_57 km_X8_88 ca_X8_edgesCanHold (wXo_7 E s5) rfl (c_X8_edgesCanHold C.2.1 E s5 p1 ) rfl (by decide) rfl (Nat.le_of_ble_eq_true rfl) rfl h (fun v12 s11 h => ?_)
    refine v_if_eq 70 63 cx dX8_attempt_60 (by decide) rfl h (fun h => ?_) (fun h => ?_)
    · refine v_aload_n 71 1 cx dX8_attempt_70 rfl rfl rfl ?_
      refine v_iload_n 72 2 cx dX8_attempt_71 rfl rfl rfl ?_
      refine v_callVV 75 7 cx dX8_attempt_72 km_X8_66 ca_X8_leave (wXo_7 E s11) rfl (c_X8_leave C.2.1 E s11 p1 ) rfl (by decide) rfl (Nat.le_of_ble_eq_true rfl) rfl h (fun _ s13 h => ?_)
      refine v_iconst 76 cx dX8_attempt_75 ic_0 rfl ?_
      exact hk _ _ _ _ (Option.some.inj h) (Or.inl rfl) dX8_attempt_76
    · refine v_aload_n 64 1 cx dX8_attempt_63 rfl rfl rfl ?_
      refine v_iload_n 65 2 cx dX8_attempt_64 rfl rfl rfl ?_
      refine v_callVV 68 7 cx dX8_attempt_65 km_X8_91 ca_X8_chain (wXo_7 E s11) rfl (c_X8_chain C.2.1 E s11 p1 ) rfl (by decide) rfl (Nat.le_of_ble_eq_true rfl) rfl h (fun _ s14 h => ?_)
      refine v_iconst 69 cx dX8_attempt_68 ic_1 rfl ?_
      exact hk _ _ _ _ (Option.some.inj h) (Or.inr rfl) dX8_attempt_69
set_option maxHeartbeats 4000000 in
set_option maxRecDepth 100000 in
theorem c_X8_enter (l : Launch) (E : Ev) (st : Sg) (p1 : Int32) : ∀ q, m_X8_enter p1 st = some q → CtI l (wX E) (tyE E) yX8_enter cX8_enter 2 (some .int) 0 0 [.ref (oX E 7), .int p1] st q := by
  intro q h
  refine ctI_of (lv0 := [(0, .ref (oX E 7)), (1, .int p1)]) (by decide) rfl (Nat.le_of_ble_eq_true rfl) (fun C hC cx hk => ?_)
  replace cx : Cx C (tyE E) cX8_enter RX8 2 0 0 := cx
  unfold m_X8_enter at h
  refine v_iload_n 1 1 cx dX8_enter_0 rfl rfl rfl ?_
  refine v_bipush 3 cx dX8_enter_1 bp_16 rfl ?_
  refine v_icmp_ge 13 6 cx dX8_enter_3 (by decide) rfl h (fun h => ?_) (fun h => ?_)
  · refine v_iload_n 14 1 cx dX8_enter_13 rfl rfl rfl ?_
    exact hk _ _ _ _ (Option.some.inj h) dX8_enter_14
  · refine v_aload_n 7 0 cx dX8_enter_6 rfl rfl rfl ?_
    refine v_get 10 7 9 cx dX8_enter_7 iX8 (wXo_7 E st) rfl (Nat.le_of_ble_eq_true rfl) rfl kf_X8_38 rfl rfl ?_
    refine v_iload_n 11 1 cx dX8_enter_10 rfl rfl rfl ?_
    refine v_iconst 12 cx dX8_enter_11 ic_0 rfl ?_
    refine v_iast 13 46 0 cx dX8_enter_12 (wXa_7_9 E st) rfl (wXt_7_9 E st) rfl h (fun s1 h => ?_)
    refine v_iload_n 14 1 cx dX8_enter_13 rfl rfl rfl ?_
    exact hk _ _ _ _ (Option.some.inj h) dX8_enter_14
def V_X8_seek_L27 (C : Cm) (E : Ev) (s : (Int32 × Int32 × Sg)) : Prop := Vat C (wX E) 4 27 [(0, .ref (oX E 7)), (2, .int s.1), (3, .int s.2.1)] [] s.2.2
def K_X8_seek_L27 (C : Cm) (E : Ev) : ((Sg) ⊕ ((Sg) ⊕ ((Sg) ⊕ (Sg)))) → Prop := (Sum.elim (fun r : (Sg) => Vat C (wX E) 4 123 [] [] r) (Sum.elim (fun r : (Sg) => Vat C (wX E) 4 45 [] [] r) (Sum.elim (fun r : (Sg) => Vat C (wX E) 4 51 [] [] r) (fun r : (Sg) => Vat C (wX E) 4 95 [] [] r))))
set_option maxHeartbeats 4000000 in
set_option maxRecDepth 100000 in
theorem j_X8_seek_71 {C : Cm} {E : Ev} (cx : Cx C (tyE E) cX8_seek RX8 4 4 90) (x2 : Int32) (x3 : Int32) (t0 : Int32) (t1 : Int32) (st : Sg) (out : (Int32 × Int32 × Sg) ⊕ ((Sg) ⊕ ((Sg) ⊕ ((Sg) ⊕ (Sg))))) (h : m_X8_seek_71 x2 x3 t0 t1 st = some out) (hk : Sum.elim (V_X8_seek_L27 C E) (K_X8_seek_L27 C E) out) : Vat C (wX E) 4 71 [(0, .ref (oX E 7)), (2, .int x2), (3, .int x3)] [.int t0, .int t1] st := by
  unfold m_X8_seek_71 at h
  refine v_icmp_lt 85 74 cx dX8_seek_71 (by decide) rfl h (fun h => ?_) (fun h => ?_)
  · refine v_aload_n 86 0 cx dX8_seek_85 rfl rfl rfl ?_
    refine v_getI 89 7 10 cx dX8_seek_86 iX8 (wXo_7 E st) rfl (Nat.le_of_ble_eq_true rfl) rfl kf_X8_41 rfl rfl h (fun v9 h => ?_)
    refine v_sipush 92 cx dX8_seek_89 sp_3000 rfl ?_
    refine v_icmp_lt 97 95 cx dX8_seek_92 (by decide) rfl h (fun h => ?_) (fun h => ?_)
    · refine v_aload_n 98 0 cx dX8_seek_97 rfl rfl rfl ?_
      refine v_iload_n 99 1 cx dX8_seek_98 rfl rfl rfl ?_
      refine v_callVI 102 7 cx dX8_seek_99 km_X8_70 ca_X8_attempt (wXo_7 E st) rfl (c_X8_attempt C.2.1 E st x2 ) rfl (by decide) rfl (Nat.le_of_ble_eq_true rfl) rfl h (fun v11 s10 h => ?_)
      refine v_if_eq 115 105 cx dX8_seek_102 (by decide) rfl h (fun h => ?_) (fun h => ?_)
      · refine v_iload_n 116 1 cx dX8_seek_115 rfl rfl rfl ?_
        refine v_istore_n 117 (fun a12 => [(2, .int a12), (0, .ref (oX E 7)), (3, .int x3)]) cx dX8_seek_116 rfl (by decide) (fun _ => rfl) rfl h (fun a12 h => ?_)
        refine v_iinc 120 2 (fun a13 => [(3, .int a13), (2, .int a12), (0, .ref (oX E 7))]) cx dX8_seek_117 rfl ic_1 (by decide) (fun _ => rfl) rfl h (fun a13 h => ?_)
        refine v_goto 27 cx dX8_seek_120 (by decide) ?_
        cases h
        have hk : Vat C (wX E) 4 27 [(0, .ref (oX E 7)), (2, .int a12), (3, .int a13)] [] s10 := hk
        exact v_lsub (lv' := [(0, .ref (oX E 7)), (2, .int a12), (3, .int a13)]) [2, 1, 0] rfl (hk)
      · refine v_aload_n 106 0 cx dX8_seek_105 rfl rfl rfl ?_
        refine v_iload_n 107 1 cx dX8_seek_106 rfl rfl rfl ?_
        refine v_iconst 108 cx dX8_seek_107 ic_1 rfl ?_
        refine v_iadd 109 cx dX8_seek_108 rfl ?_
        refine v_callVI 112 7 cx dX8_seek_109 km_X8_74 ca_X8_enter (wXo_7 E s10) rfl (c_X8_enter C.2.1 E s10 (x2 + 1) ) rfl (by decide) rfl (Nat.le_of_ble_eq_true rfl) rfl h (fun v15 s14 h => ?_)
        refine v_goto 116 cx dX8_seek_112 (by decide) ?_
        refine v_istore_n 117 (fun a16 => [(2, .int a16), (0, .ref (oX E 7)), (3, .int x3)]) cx dX8_seek_116 rfl (by decide) (fun _ => rfl) rfl h (fun a16 h => ?_)
        refine v_iinc 120 2 (fun a17 => [(3, .int a17), (2, .int a16), (0, .ref (oX E 7))]) cx dX8_seek_117 rfl ic_1 (by decide) (fun _ => rfl) rfl h (fun a17 h => ?_)
        refine v_goto 27 cx dX8_seek_120 (by decide) ?_
        cases h
        have hk : Vat C (wX E) 4 27 [(0, .ref (oX E 7)), (2, .int a16), (3, .int a17)] [] s14 := hk
        exact v_lsub (lv' := [(0, .ref (oX E 7)), (2, .int a16), (3, .int a17)]) [2, 1, 0] rfl (hk)
    · cases h
      have hk : Vat C (wX E) 4 95 [] [] st := hk
      exact v_lsub (lv' := []) [] rfl (hk)
  · refine v_iinc 77 1 (fun a18 => [(2, .int a18), (0, .ref (oX E 7)), (3, .int x3)]) cx dX8_seek_74 rfl ic_m1 (by decide) (fun _ => rfl) rfl h (fun a18 h => ?_)
    refine v_aload_n 78 1 cx dX8_seek_77 rfl rfl rfl ?_
    refine v_iload_n 79 0 cx dX8_seek_78 rfl rfl rfl ?_
    refine v_callVV 82 7 cx dX8_seek_79 km_X8_66 ca_X8_leave (wXo_7 E st) rfl (c_X8_leave C.2.1 E st a18 ) rfl (by decide) rfl (Nat.le_of_ble_eq_true rfl) rfl h (fun _ s19 h => ?_)
    refine v_goto 117 cx dX8_seek_82 (by decide) ?_
    refine v_iinc 120 2 (fun a20 => [(3, .int a20), (2, .int a18), (0, .ref (oX E 7))]) cx dX8_seek_117 rfl ic_1 (by decide) (fun _ => rfl) rfl h (fun a20 h => ?_)
    refine v_goto 27 cx dX8_seek_120 (by decide) ?_
    cases h
    have hk : Vat C (wX E) 4 27 [(0, .ref (oX E 7)), (2, .int a18), (3, .int a20)] [] s19 := hk
    exact v_lsub (lv' := [(0, .ref (oX E 7)), (2, .int a18), (3, .int a20)]) [2, 1, 0] rfl (hk)
set_option maxHeartbeats 4000000 in
set_option maxRecDepth 100000 in
theorem b_X8_seek_L27 {C : Cm} {E : Ev} (cx : Cx C (tyE E) cX8_seek RX8 4 4 90) : ∀ (s : (Int32 × Int32 × Sg)) (out : (Int32 × Int32 × Sg) ⊕ ((Sg) ⊕ ((Sg) ⊕ ((Sg) ⊕ (Sg))))), m_X8_seek_L27 s.1 s.2.1 s.2.2 = some out → Sum.elim (V_X8_seek_L27 C E) (K_X8_seek_L27 C E) out → V_X8_seek_L27 C E s := by
  intro s out h hk
  obtain ⟨x2, x3, st⟩ := s
  show Vat C (wX E) 4 27 [(0, .ref (oX E 7)), (2, .int x2), (3, .int x3)] [] st
  replace h : m_X8_seek_L27 x2 x3 st = some out := h
  unfold m_X8_seek_L27 at h
  refine v_iload_n 28 2 cx dX8_seek_27 rfl rfl rfl ?_
  refine v_sipush 31 cx dX8_seek_28 sp_10000 rfl ?_
  refine v_icmp_ge 123 34 cx dX8_seek_31 (by decide) rfl h (fun h => ?_) (fun h => ?_)
  · cases h
    have hk : Vat C (wX E) 4 123 [] [] st := hk
    exact v_lsub (lv' := []) [] rfl (hk)
  · refine v_iload_n 35 1 cx dX8_seek_34 rfl rfl rfl ?_
    refine v_aload_n 36 0 cx dX8_seek_35 rfl rfl rfl ?_
    refine v_get 39 7 0 cx dX8_seek_36 iX8 (wXo_7 E st) rfl (Nat.le_of_ble_eq_true rfl) rfl kf_X8_44 rfl rfl ?_
    refine v_getI 42 1 0 cx dX8_seek_39 iX0 (wXo_1 E st) rfl (Nat.le_of_ble_eq_true rfl) rfl kf_X8_61 rfl rfl h (fun v6 h => ?_)
    refine v_icmp_lt 47 45 cx dX8_seek_42 (by decide) rfl h (fun h => ?_) (fun h => ?_)
    · refine v_iload_n 48 1 cx dX8_seek_47 rfl rfl rfl ?_
      refine v_if_ge 53 51 cx dX8_seek_48 (by decide) rfl h (fun h => ?_) (fun h => ?_)
      · refine v_aload_n 54 0 cx dX8_seek_53 rfl rfl rfl ?_
        refine v_get 57 7 9 cx dX8_seek_54 iX8 (wXo_7 E st) rfl (Nat.le_of_ble_eq_true rfl) rfl kf_X8_38 rfl rfl ?_
        refine v_iload_n 58 1 cx dX8_seek_57 rfl rfl rfl ?_
        refine v_iald 59 46 0 cx dX8_seek_58 (wXa_7_9 E st) rfl rfl h (fun v7 h => ?_)
        refine v_iload_n 60 1 cx dX8_seek_59 rfl rfl rfl ?_
        refine v_if_ne 67 63 cx dX8_seek_60 (by decide) rfl h (fun h => ?_) (fun h => ?_)
        · refine v_aload_n 68 0 cx dX8_seek_67 rfl rfl rfl ?_
          refine v_getI 71 7 8 cx dX8_seek_68 iX8 (wXo_7 E st) rfl (Nat.le_of_ble_eq_true rfl) rfl kf_X8_34 rfl rfl h (fun v8 h => ?_)
          exact j_X8_seek_71 cx x2 x3 v8 v7 st _ h hk
        · refine v_iconst 64 cx dX8_seek_63 ic_1 rfl ?_
          refine v_goto 71 cx dX8_seek_64 (by decide) ?_
          exact j_X8_seek_71 cx x2 x3 1 v7 st _ h hk
      · cases h
        have hk : Vat C (wX E) 4 51 [] [] st := hk
        exact v_lsub (lv' := []) [] rfl (hk)
    · cases h
      have hk : Vat C (wX E) 4 45 [] [] st := hk
      exact v_lsub (lv' := []) [] rfl (hk)
set_option maxHeartbeats 4000000 in
set_option maxRecDepth 100000 in
theorem c_X8_seek (l : Launch) (E : Ev) (st : Sg) (p1 : Int32) : ∀ q, m_X8_seek p1 st = some q → CtI l (wX E) (tyE E) yX8_seek cX8_seek 4 (some .int) 4 90 [.ref (oX E 7), .int p1] st q := by
  intro q h
  refine ctI_of (lv0 := [(0, .ref (oX E 7)), (1, .int p1)]) (by decide) rfl (Nat.le_of_ble_eq_true rfl) (fun C hC cx hk => ?_)
  replace cx : Cx C (tyE E) cX8_seek RX8 4 4 90 := cx
  unfold m_X8_seek at h
  refine v_aload_n 1 0 cx dX8_seek_0 rfl rfl rfl ?_
  refine v_iconst 2 cx dX8_seek_1 ic_1 rfl ?_
  refine v_iload_n 3 1 cx dX8_seek_2 rfl rfl rfl ?_
  refine v_mmax 6 cx dX8_seek_3 km_X8_52 kmax_s kmax_i kmax_c (by decide) (Nat.le_of_ble_eq_true rfl) rfl ?_
  refine v_putI 9 7 8 cx dX8_seek_6 iX8 tyX8_ok nmX8 (wXo_7 E st) rfl (Nat.le_of_ble_eq_true rfl) rfl kf_X8_34 rfl rfl rfl rfl (Nat.le_of_ble_eq_true rfl) (wXs_7_8 E st _) rfl h (fun s1 h => ?_)
  refine v_aload_n 10 0 cx dX8_seek_9 rfl rfl rfl ?_
  refine v_get 13 7 2 cx dX8_seek_10 iX8 (wXo_7 E s1) rfl (Nat.le_of_ble_eq_true rfl) rfl kf_X8_12 rfl rfl ?_
  refine v_callVV 16 8 cx dX8_seek_13 km_X8_58 ca_X2_clear (wXo_8 E s1) rfl (c_X2_clear_8 C.2.1 E s1 ) rfl (by decide) rfl (Nat.le_of_ble_eq_true rfl) rfl h (fun _ s2 h => ?_)
  refine v_aload_n 17 0 cx dX8_seek_16 rfl rfl rfl ?_
  refine v_get 20 7 9 cx dX8_seek_17 iX8 (wXo_7 E s2) rfl (Nat.le_of_ble_eq_true rfl) rfl kf_X8_38 rfl rfl ?_
  refine v_iconst 21 cx dX8_seek_20 ic_0 rfl ?_
  refine v_iconst 22 cx dX8_seek_21 ic_0 rfl ?_
  refine v_iast 23 46 0 cx dX8_seek_22 (wXa_7_9 E s2) rfl (wXt_7_9 E s2) rfl h (fun s3 h => ?_)
  refine v_iconst 24 cx dX8_seek_23 ic_0 rfl ?_
  refine v_istore_n 25 (fun a4 => [(2, .int a4), (0, .ref (oX E 7)), (1, .int p1)]) cx dX8_seek_24 rfl (by decide) (fun _ => rfl) rfl h (fun a4 h => ?_)
  refine v_iconst 26 cx dX8_seek_25 ic_0 rfl ?_
  refine v_istore_n 27 (fun a5 => [(3, .int a5), (2, .int a4), (0, .ref (oX E 7)), (1, .int p1)]) cx dX8_seek_26 rfl (by decide) (fun _ => rfl) rfl h (fun a5 h => ?_)
  refine v_lsub (lv' := [(0, .ref (oX E 7)), (2, .int a4), (3, .int a5)]) [2, 1, 0] rfl ?_
  refine v_loop (s0 := (a4, a5, s3)) (V_X8_seek_L27 C E) (K_X8_seek_L27 C E) h (b_X8_seek_L27 cx) (fun r21 h => ?_)
  rcases r21 with r21 | r21
  · rw [Sum.elim_inl] at h
    show Vat C (wX E) 4 123 [] [] r21
    refine v_iconst 124 cx dX8_seek_123 ic_4 rfl ?_
    exact hk _ _ _ _ (Option.some.inj h) dX8_seek_124
  · rw [Sum.elim_inr] at h
    rcases r21 with r21 | r21
    · rw [Sum.elim_inl] at h
      show Vat C (wX E) 4 45 [] [] r21
      refine v_iconst 46 cx dX8_seek_45 ic_0 rfl ?_
      exact hk _ _ _ _ (Option.some.inj h) dX8_seek_46
    · rw [Sum.elim_inr] at h
      rcases r21 with r21 | r21
      · rw [Sum.elim_inl] at h
        show Vat C (wX E) 4 51 [] [] r21
        refine v_iconst 52 cx dX8_seek_51 ic_3 rfl ?_
        exact hk _ _ _ _ (Option.some.inj h) dX8_seek_52
      · rw [Sum.elim_inr] at h
        show Vat C (wX E) 4 95 [] [] r21
        refine v_iconst 96 cx dX8_seek_95 ic_4 rfl ?_
        exact hk _ _ _ _ (Option.some.inj h) dX8_seek_96
set_option maxHeartbeats 4000000 in
set_option maxRecDepth 100000 in
theorem c_X11_seekAt (l : Launch) (E : Ev) (st : Sg) (p1 : Int32) : ∀ q, m_X11_seekAt p1 st = some q → CtI l (wX E) (tyE E) yX11_seekAt cX11_seekAt 2 (some .int) 5 113 [.ref (oX E 0), .int p1] st q := by
  intro q h
  refine ctI_of (lv0 := [(0, .ref (oX E 0)), (1, .int p1)]) (by decide) rfl (Nat.le_of_ble_eq_true rfl) (fun C hC cx hk => ?_)
  replace cx : Cx C (tyE E) cX11_seekAt RX11 2 5 113 := cx
  unfold m_X11_seekAt at h
  refine v_aload_n 1 0 cx dX11_seekAt_0 rfl rfl rfl ?_
  refine v_get 4 0 3 cx dX11_seekAt_1 iX11 (wXo_0 E st) rfl (Nat.le_of_ble_eq_true rfl) rfl kf_X11_33 rfl rfl ?_
  refine v_aload_n 5 0 cx dX11_seekAt_4 rfl rfl rfl ?_
  refine v_get 8 0 1 cx dX11_seekAt_5 iX11 (wXo_0 E st) rfl (Nat.le_of_ble_eq_true rfl) rfl kf_X11_19 rfl rfl ?_
  refine v_get 11 3 0 cx dX11_seekAt_8 iX10 (wXo_3 E st) rfl (Nat.le_of_ble_eq_true rfl) rfl kf_X11_291 rfl rfl ?_
  refine v_iload_n 12 1 cx dX11_seekAt_11 rfl rfl rfl ?_
  refine v_callVV 15 6 cx dX11_seekAt_12 km_X11_348 ca_X9_load (wXo_6 E st) rfl (c_X9_load C.2.1 E st p1 ) rfl (by decide) rfl (Nat.le_of_ble_eq_true rfl) rfl h (fun _ s1 h => ?_)
  refine v_aload_n 16 0 cx dX11_seekAt_15 rfl rfl rfl ?_
  refine v_get 19 0 4 cx dX11_seekAt_16 iX11 (wXo_0 E s1) rfl (Nat.le_of_ble_eq_true rfl) rfl kf_X11_42 rfl rfl ?_
  refine v_iload_n 20 1 cx dX11_seekAt_19 rfl rfl rfl ?_
  refine v_callVI 23 7 cx dX11_seekAt_20 km_X11_352 ca_X8_seek (wXo_7 E s1) rfl (c_X8_seek C.2.1 E s1 p1 ) rfl (by decide) rfl (Nat.le_of_ble_eq_true rfl) rfl h (fun v3 s2 h => ?_)
  exact hk _ _ _ _ (Option.some.inj h) dX11_seekAt_23
set_option maxHeartbeats 4000000 in
set_option maxRecDepth 100000 in
theorem c_X8_beat (l : Launch) (E : Ev) (st : Sg) : ∀ q, m_X8_beat st = some q → CtI l (wX E) (tyE E) yX8_beat cX8_beat 1 (some .int) 0 0 [.ref (oX E 7)] st q := by
  intro q h
  refine ctI_of (lv0 := [(0, .ref (oX E 7))]) (by decide) rfl (Nat.le_of_ble_eq_true rfl) (fun C hC cx hk => ?_)
  replace cx : Cx C (tyE E) cX8_beat RX8 1 0 0 := cx
  unfold m_X8_beat at h
  refine v_aload_n 1 0 cx dX8_beat_0 rfl rfl rfl ?_
  refine v_getI 4 7 8 cx dX8_beat_1 iX8 (wXo_7 E st) rfl (Nat.le_of_ble_eq_true rfl) rfl kf_X8_34 rfl rfl h (fun v1 h => ?_)
  exact hk _ _ _ _ (Option.some.inj h) dX8_beat_4
def V_X8_stageOf_L4 (C : Cm) (E : Ev) (x1 : Int32) (s : (Int32 × Int32 × Sg)) : Prop := Vat C (wX E) 4 4 [(0, .ref (oX E 7)), (1, .int x1), (2, .int s.1), (3, .int s.2.1)] [] s.2.2
def K_X8_stageOf_L4 (C : Cm) (E : Ev) (x1 : Int32) : (Int32 × Sg) → Prop := (fun r : (Int32 × Sg) => Vat C (wX E) 4 45 [(2, .int r.1)] [] r.2)
set_option maxHeartbeats 4000000 in
set_option maxRecDepth 100000 in
theorem b_X8_stageOf_L4 {C : Cm} {E : Ev} (cx : Cx C (tyE E) cX8_stageOf RX8 4 1 22) (x1 : Int32) : ∀ (s : (Int32 × Int32 × Sg)) (out : (Int32 × Int32 × Sg) ⊕ (Int32 × Sg)), m_X8_stageOf_L4 x1 s.1 s.2.1 s.2.2 = some out → Sum.elim (V_X8_stageOf_L4 C E x1) (K_X8_stageOf_L4 C E x1) out → V_X8_stageOf_L4 C E x1 s := by
  intro s out h hk
  obtain ⟨x2, x3, st⟩ := s
  show Vat C (wX E) 4 4 [(0, .ref (oX E 7)), (1, .int x1), (2, .int x2), (3, .int x3)] [] st
  replace h : m_X8_stageOf_L4 x1 x2 x3 st = some out := h
  unfold m_X8_stageOf_L4 at h
  refine v_iload_n 5 3 cx dX8_stageOf_4 rfl rfl rfl ?_
  refine v_aload_n 6 0 cx dX8_stageOf_5 rfl rfl rfl ?_
  refine v_get 9 7 0 cx dX8_stageOf_6 iX8 (wXo_7 E st) rfl (Nat.le_of_ble_eq_true rfl) rfl kf_X8_44 rfl rfl ?_
  refine v_getI 12 1 0 cx dX8_stageOf_9 iX0 (wXo_1 E st) rfl (Nat.le_of_ble_eq_true rfl) rfl kf_X8_61 rfl rfl h (fun v3 h => ?_)
  refine v_icmp_ge 45 15 cx dX8_stageOf_12 (by decide) rfl h (fun h => ?_) (fun h => ?_)
  · cases h
    have hk : Vat C (wX E) 4 45 [(2, .int x2)] [] st := hk
    exact v_lsub (lv' := [(2, .int x2)]) [2] rfl (hk)
  · refine v_iload_n 16 2 cx dX8_stageOf_15 rfl rfl rfl ?_
    refine v_aload_n 17 0 cx dX8_stageOf_16 rfl rfl rfl ?_
    refine v_get 20 7 3 cx dX8_stageOf_17 iX8 (wXo_7 E st) rfl (Nat.le_of_ble_eq_true rfl) rfl kf_X8_18 rfl rfl ?_
    refine v_aload_n 21 0 cx dX8_stageOf_20 rfl rfl rfl ?_
    refine v_get 24 7 0 cx dX8_stageOf_21 iX8 (wXo_7 E st) rfl (Nat.le_of_ble_eq_true rfl) rfl kf_X8_44 rfl rfl ?_
    refine v_getI 27 1 0 cx dX8_stageOf_24 iX0 (wXo_1 E st) rfl (Nat.le_of_ble_eq_true rfl) rfl kf_X8_61 rfl rfl h (fun v4 h => ?_)
    refine v_iconst 28 cx dX8_stageOf_27 ic_1 rfl ?_
    refine v_isub 29 cx dX8_stageOf_28 rfl ?_
    refine v_iload_n 30 3 cx dX8_stageOf_29 rfl rfl rfl ?_
    refine v_iload_n 31 1 cx dX8_stageOf_30 rfl rfl rfl ?_
    refine v_callSI 34 cx dX8_stageOf_31 km_X8_107 ca_X8_place (c_X8_place C.2.1 E st (v4 - 1) x3 x1 ) rfl (by decide) rfl (Nat.le_of_ble_eq_true rfl) rfl h (fun v6 s5 h => ?_)
    refine v_iald 35 41 0 cx dX8_stageOf_34 (wXa_7_3 E s5) rfl rfl h (fun v7 h => ?_)
    refine v_mmax 38 cx dX8_stageOf_35 km_X8_52 kmax_s kmax_i kmax_c (by decide) (Nat.le_of_ble_eq_true rfl) rfl ?_
    refine v_istore_n 39 (fun a8 => [(2, .int a8), (0, .ref (oX E 7)), (1, .int x1), (3, .int x3)]) cx dX8_stageOf_38 rfl (by decide) (fun _ => rfl) rfl h (fun a8 h => ?_)
    refine v_iinc 42 3 (fun a9 => [(3, .int a9), (2, .int a8), (0, .ref (oX E 7)), (1, .int x1)]) cx dX8_stageOf_39 rfl ic_1 (by decide) (fun _ => rfl) rfl h (fun a9 h => ?_)
    refine v_goto 4 cx dX8_stageOf_42 (by decide) ?_
    cases h
    have hk : Vat C (wX E) 4 4 [(0, .ref (oX E 7)), (1, .int x1), (2, .int a8), (3, .int a9)] [] s5 := hk
    exact v_lsub (lv' := [(0, .ref (oX E 7)), (1, .int x1), (2, .int a8), (3, .int a9)]) [2, 3, 1, 0] rfl (hk)
set_option maxHeartbeats 4000000 in
set_option maxRecDepth 100000 in
theorem c_X8_stageOf (l : Launch) (E : Ev) (st : Sg) (p1 : Int32) : ∀ q, m_X8_stageOf p1 st = some q → CtI l (wX E) (tyE E) yX8_stageOf cX8_stageOf 4 (some .int) 1 22 [.ref (oX E 7), .int p1] st q := by
  intro q h
  refine ctI_of (lv0 := [(0, .ref (oX E 7)), (1, .int p1)]) (by decide) rfl (Nat.le_of_ble_eq_true rfl) (fun C hC cx hk => ?_)
  replace cx : Cx C (tyE E) cX8_stageOf RX8 4 1 22 := cx
  unfold m_X8_stageOf at h
  refine v_iconst 1 cx dX8_stageOf_0 ic_0 rfl ?_
  refine v_istore_n 2 (fun a1 => [(2, .int a1), (0, .ref (oX E 7)), (1, .int p1)]) cx dX8_stageOf_1 rfl (by decide) (fun _ => rfl) rfl h (fun a1 h => ?_)
  refine v_iconst 3 cx dX8_stageOf_2 ic_0 rfl ?_
  refine v_istore_n 4 (fun a2 => [(3, .int a2), (2, .int a1), (0, .ref (oX E 7)), (1, .int p1)]) cx dX8_stageOf_3 rfl (by decide) (fun _ => rfl) rfl h (fun a2 h => ?_)
  refine v_lsub (lv' := [(0, .ref (oX E 7)), (1, .int p1), (2, .int a1), (3, .int a2)]) [2, 3, 1, 0] rfl ?_
  refine v_loop (s0 := (a1, a2, st)) (V_X8_stageOf_L4 C E p1) (K_X8_stageOf_L4 C E p1) h (b_X8_stageOf_L4 cx p1) (fun r10 h => ?_)
  show Vat C (wX E) 4 45 [(2, .int r10.1)] [] r10.2
  refine v_iload_n 46 0 cx dX8_stageOf_45 rfl rfl rfl ?_
  exact hk _ _ _ _ (Option.some.inj h) dX8_stageOf_46
def V_X9_earliest_L5 (C : Cm) (E : Ev) (x1 : Int32) (x2 : Int32) (s : (Int32 × Int32 × Sg)) : Prop := Vat C (wX E) 5 5 [(0, .ref (oX E 6)), (1, .int x1), (2, .int x2), (3, .int s.1), (4, .int s.2.1)] [] s.2.2
def K_X9_earliest_L5 (C : Cm) (E : Ev) (x1 : Int32) (x2 : Int32) : (Int32 × Sg) → Prop := (fun r : (Int32 × Sg) => Vat C (wX E) 5 34 [(3, .int r.1)] [] r.2)
set_option maxHeartbeats 4000000 in
set_option maxRecDepth 100000 in
theorem b_X9_earliest_L5 {C : Cm} {E : Ev} (cx : Cx C (tyE E) cX9_earliest RX9 5 1 13) (x1 : Int32) (x2 : Int32) : ∀ (s : (Int32 × Int32 × Sg)) (out : (Int32 × Int32 × Sg) ⊕ (Int32 × Sg)), m_X9_earliest_L5 x1 x2 s.1 s.2.1 s.2.2 = some out → Sum.elim (V_X9_earliest_L5 C E x1 x2) (K_X9_earliest_L5 C E x1 x2) out → V_X9_earliest_L5 C E x1 x2 s := by
  intro s out h hk
  obtain ⟨x3, x4, st⟩ := s
  show Vat C (wX E) 5 5 [(0, .ref (oX E 6)), (1, .int x1), (2, .int x2), (3, .int x3), (4, .int x4)] [] st
  replace h : m_X9_earliest_L5 x1 x2 x3 x4 st = some out := h
  unfold m_X9_earliest_L5 at h
  refine v_iload 7 4 cx dX9_earliest_5 rfl rfl ?_
  refine v_iload_n 8 2 cx dX9_earliest_7 rfl rfl rfl ?_
  refine v_icmp_ge 34 11 cx dX9_earliest_8 (by decide) rfl h (fun h => ?_) (fun h => ?_)
  · cases h
    have hk : Vat C (wX E) 5 34 [(3, .int x3)] [] st := hk
    exact v_lsub (lv' := [(3, .int x3)]) [3] rfl (hk)
  · refine v_iload_n 12 3 cx dX9_earliest_11 rfl rfl rfl ?_
    refine v_aload_n 13 0 cx dX9_earliest_12 rfl rfl rfl ?_
    refine v_get 16 6 1 cx dX9_earliest_13 iX9 (wXo_6 E st) rfl (Nat.le_of_ble_eq_true rfl) rfl kf_X9_15 rfl rfl ?_
    refine v_iload 18 4 cx dX9_earliest_16 rfl rfl ?_
    refine v_bipush 20 cx dX9_earliest_18 bp_16 rfl ?_
    refine v_imul 21 cx dX9_earliest_20 rfl ?_
    refine v_iload_n 22 1 cx dX9_earliest_21 rfl rfl rfl ?_
    refine v_iadd 23 cx dX9_earliest_22 rfl ?_
    refine v_iald 24 40 0 cx dX9_earliest_23 (wXa_6_1 E st) rfl rfl h (fun v3 h => ?_)
    refine v_mmax 27 cx dX9_earliest_24 km_X9_43 kmax_s kmax_i kmax_c (by decide) (Nat.le_of_ble_eq_true rfl) rfl ?_
    refine v_istore_n 28 (fun a4 => [(3, .int a4), (0, .ref (oX E 6)), (1, .int x1), (2, .int x2), (4, .int x4)]) cx dX9_earliest_27 rfl (by decide) (fun _ => rfl) rfl h (fun a4 h => ?_)
    refine v_iinc 31 4 (fun a5 => [(4, .int a5), (3, .int a4), (0, .ref (oX E 6)), (1, .int x1), (2, .int x2)]) cx dX9_earliest_28 rfl ic_1 (by decide) (fun _ => rfl) rfl h (fun a5 h => ?_)
    refine v_goto 5 cx dX9_earliest_31 (by decide) ?_
    cases h
    have hk : Vat C (wX E) 5 5 [(0, .ref (oX E 6)), (1, .int x1), (2, .int x2), (3, .int a4), (4, .int a5)] [] st := hk
    exact v_lsub (lv' := [(0, .ref (oX E 6)), (1, .int x1), (2, .int x2), (3, .int a4), (4, .int a5)]) [2, 3, 4, 1, 0] rfl (hk)
set_option maxHeartbeats 4000000 in
set_option maxRecDepth 100000 in
theorem c_X9_earliest (l : Launch) (E : Ev) (st : Sg) (p1 : Int32) (p2 : Int32) : ∀ q, m_X9_earliest p1 p2 st = some q → CtI l (wX E) (tyE E) yX9_earliest cX9_earliest 5 (some .int) 1 13 [.ref (oX E 6), .int p1, .int p2] st q := by
  intro q h
  refine ctI_of (lv0 := [(0, .ref (oX E 6)), (1, .int p1), (2, .int p2)]) (by decide) rfl (Nat.le_of_ble_eq_true rfl) (fun C hC cx hk => ?_)
  replace cx : Cx C (tyE E) cX9_earliest RX9 5 1 13 := cx
  unfold m_X9_earliest at h
  refine v_iconst 1 cx dX9_earliest_0 ic_0 rfl ?_
  refine v_istore_n 2 (fun a1 => [(3, .int a1), (0, .ref (oX E 6)), (1, .int p1), (2, .int p2)]) cx dX9_earliest_1 rfl (by decide) (fun _ => rfl) rfl h (fun a1 h => ?_)
  refine v_iconst 3 cx dX9_earliest_2 ic_0 rfl ?_
  refine v_istore 5 (fun a2 => [(4, .int a2), (3, .int a1), (0, .ref (oX E 6)), (1, .int p1), (2, .int p2)]) cx dX9_earliest_3 (by decide) (fun _ => rfl) rfl h (fun a2 h => ?_)
  refine v_lsub (lv' := [(0, .ref (oX E 6)), (1, .int p1), (2, .int p2), (3, .int a1), (4, .int a2)]) [2, 3, 4, 1, 0] rfl ?_
  refine v_loop (s0 := (a1, a2, st)) (V_X9_earliest_L5 C E p1 p2) (K_X9_earliest_L5 C E p1 p2) h (b_X9_earliest_L5 cx p1 p2) (fun r6 h => ?_)
  show Vat C (wX E) 5 34 [(3, .int r6.1)] [] r6.2
  refine v_iload_n 35 0 cx dX9_earliest_34 rfl rfl rfl ?_
  exact hk _ _ _ _ (Option.some.inj h) dX9_earliest_35
def V_X9_farthest_L5 (C : Cm) (E : Ev) (x1 : Int32) (x2 : Int32) (s : (Int32 × Int32 × Sg)) : Prop := Vat C (wX E) 5 5 [(0, .ref (oX E 6)), (1, .int x1), (2, .int x2), (3, .int s.1), (4, .int s.2.1)] [] s.2.2
def K_X9_farthest_L5 (C : Cm) (E : Ev) (x1 : Int32) (x2 : Int32) : (Int32 × Sg) → Prop := (fun r : (Int32 × Sg) => Vat C (wX E) 5 34 [(3, .int r.1)] [] r.2)
set_option maxHeartbeats 4000000 in
set_option maxRecDepth 100000 in
theorem b_X9_farthest_L5 {C : Cm} {E : Ev} (cx : Cx C (tyE E) cX9_farthest RX9 5 1 13) (x1 : Int32) (x2 : Int32) : ∀ (s : (Int32 × Int32 × Sg)) (out : (Int32 × Int32 × Sg) ⊕ (Int32 × Sg)), m_X9_farthest_L5 x1 x2 s.1 s.2.1 s.2.2 = some out → Sum.elim (V_X9_farthest_L5 C E x1 x2) (K_X9_farthest_L5 C E x1 x2) out → V_X9_farthest_L5 C E x1 x2 s := by
  intro s out h hk
  obtain ⟨x3, x4, st⟩ := s
  show Vat C (wX E) 5 5 [(0, .ref (oX E 6)), (1, .int x1), (2, .int x2), (3, .int x3), (4, .int x4)] [] st
  replace h : m_X9_farthest_L5 x1 x2 x3 x4 st = some out := h
  unfold m_X9_farthest_L5 at h
  refine v_iload 7 4 cx dX9_farthest_5 rfl rfl ?_
  refine v_iload_n 8 2 cx dX9_farthest_7 rfl rfl rfl ?_
  refine v_icmp_ge 34 11 cx dX9_farthest_8 (by decide) rfl h (fun h => ?_) (fun h => ?_)
  · cases h
    have hk : Vat C (wX E) 5 34 [(3, .int x3)] [] st := hk
    exact v_lsub (lv' := [(3, .int x3)]) [3] rfl (hk)
  · refine v_iload_n 12 3 cx dX9_farthest_11 rfl rfl rfl ?_
    refine v_aload_n 13 0 cx dX9_farthest_12 rfl rfl rfl ?_
    refine v_get 16 6 1 cx dX9_farthest_13 iX9 (wXo_6 E st) rfl (Nat.le_of_ble_eq_true rfl) rfl kf_X9_15 rfl rfl ?_
    refine v_iload_n 17 1 cx dX9_farthest_16 rfl rfl rfl ?_
    refine v_bipush 19 cx dX9_farthest_17 bp_16 rfl ?_
    refine v_imul 20 cx dX9_farthest_19 rfl ?_
    refine v_iload 22 4 cx dX9_farthest_20 rfl rfl ?_
    refine v_iadd 23 cx dX9_farthest_22 rfl ?_
    refine v_iald 24 40 0 cx dX9_farthest_23 (wXa_6_1 E st) rfl rfl h (fun v3 h => ?_)
    refine v_mmax 27 cx dX9_farthest_24 km_X9_43 kmax_s kmax_i kmax_c (by decide) (Nat.le_of_ble_eq_true rfl) rfl ?_
    refine v_istore_n 28 (fun a4 => [(3, .int a4), (0, .ref (oX E 6)), (1, .int x1), (2, .int x2), (4, .int x4)]) cx dX9_farthest_27 rfl (by decide) (fun _ => rfl) rfl h (fun a4 h => ?_)
    refine v_iinc 31 4 (fun a5 => [(4, .int a5), (3, .int a4), (0, .ref (oX E 6)), (1, .int x1), (2, .int x2)]) cx dX9_farthest_28 rfl ic_1 (by decide) (fun _ => rfl) rfl h (fun a5 h => ?_)
    refine v_goto 5 cx dX9_farthest_31 (by decide) ?_
    cases h
    have hk : Vat C (wX E) 5 5 [(0, .ref (oX E 6)), (1, .int x1), (2, .int x2), (3, .int a4), (4, .int a5)] [] st := hk
    exact v_lsub (lv' := [(0, .ref (oX E 6)), (1, .int x1), (2, .int x2), (3, .int a4), (4, .int a5)]) [2, 3, 4, 1, 0] rfl (hk)
set_option maxHeartbeats 4000000 in
set_option maxRecDepth 100000 in
theorem c_X9_farthest (l : Launch) (E : Ev) (st : Sg) (p1 : Int32) (p2 : Int32) : ∀ q, m_X9_farthest p1 p2 st = some q → CtI l (wX E) (tyE E) yX9_farthest cX9_farthest 5 (some .int) 1 13 [.ref (oX E 6), .int p1, .int p2] st q := by
  intro q h
  refine ctI_of (lv0 := [(0, .ref (oX E 6)), (1, .int p1), (2, .int p2)]) (by decide) rfl (Nat.le_of_ble_eq_true rfl) (fun C hC cx hk => ?_)
  replace cx : Cx C (tyE E) cX9_farthest RX9 5 1 13 := cx
  unfold m_X9_farthest at h
  refine v_iconst 1 cx dX9_farthest_0 ic_0 rfl ?_
  refine v_istore_n 2 (fun a1 => [(3, .int a1), (0, .ref (oX E 6)), (1, .int p1), (2, .int p2)]) cx dX9_farthest_1 rfl (by decide) (fun _ => rfl) rfl h (fun a1 h => ?_)
  refine v_iconst 3 cx dX9_farthest_2 ic_0 rfl ?_
  refine v_istore 5 (fun a2 => [(4, .int a2), (3, .int a1), (0, .ref (oX E 6)), (1, .int p1), (2, .int p2)]) cx dX9_farthest_3 (by decide) (fun _ => rfl) rfl h (fun a2 h => ?_)
  refine v_lsub (lv' := [(0, .ref (oX E 6)), (1, .int p1), (2, .int p2), (3, .int a1), (4, .int a2)]) [2, 3, 4, 1, 0] rfl ?_
  refine v_loop (s0 := (a1, a2, st)) (V_X9_farthest_L5 C E p1 p2) (K_X9_farthest_L5 C E p1 p2) h (b_X9_farthest_L5 cx p1 p2) (fun r6 h => ?_)
  show Vat C (wX E) 5 34 [(3, .int r6.1)] [] r6.2
  refine v_iload_n 35 0 cx dX9_farthest_34 rfl rfl rfl ?_
  exact hk _ _ _ _ (Option.some.inj h) dX9_farthest_35
def V_X4_settleBounds_L5 (C : Cm) (E : Ev) (x1 : Int32) (s : (Int32 × Int32 × Sg)) : Prop := Vat C (wX E) 5 5 [(0, .ref (oX E 9)), (1, .int x1), (2, .ref (oX E 6)), (3, .int s.1), (4, .int s.2.1)] [] s.2.2
def K_X4_settleBounds_L5 (C : Cm) (E : Ev) (x1 : Int32) : (Int32 × Sg) → Prop := (fun r : (Int32 × Sg) => Vat C (wX E) 5 43 [(0, .ref (oX E 9)), (1, .int x1), (2, .ref (oX E 6)), (3, .int r.1)] [] r.2)
set_option maxHeartbeats 4000000 in
set_option maxRecDepth 100000 in
theorem b_X4_settleBounds_L5 {C : Cm} {E : Ev} (cx : Cx C (tyE E) cX4_settleBounds RX4 5 2 37) (x1 : Int32) : ∀ (s : (Int32 × Int32 × Sg)) (out : (Int32 × Int32 × Sg) ⊕ (Int32 × Sg)), m_X4_settleBounds_L5 x1 s.1 s.2.1 s.2.2 = some out → Sum.elim (V_X4_settleBounds_L5 C E x1) (K_X4_settleBounds_L5 C E x1) out → V_X4_settleBounds_L5 C E x1 s := by
  intro s out h hk
  obtain ⟨x3, x4, st⟩ := s
  show Vat C (wX E) 5 5 [(0, .ref (oX E 9)), (1, .int x1), (2, .ref (oX E 6)), (3, .int x3), (4, .int x4)] [] st
  replace h : m_X4_settleBounds_L5 x1 x3 x4 st = some out := h
  unfold m_X4_settleBounds_L5 at h
  refine v_iload 7 4 cx dX4_settleBounds_5 rfl rfl ?_
  refine v_iload_n 8 1 cx dX4_settleBounds_7 rfl rfl rfl ?_
  refine v_icmp_ge 43 11 cx dX4_settleBounds_8 (by decide) rfl h (fun h => ?_) (fun h => ?_)
  · cases h
    have hk : Vat C (wX E) 5 43 [(0, .ref (oX E 9)), (1, .int x1), (2, .ref (oX E 6)), (3, .int x3)] [] st := hk
    exact v_lsub (lv' := [(0, .ref (oX E 9)), (1, .int x1), (2, .ref (oX E 6)), (3, .int x3)]) [0, 1, 2, 3] rfl (hk)
  · refine v_aload_n 12 0 cx dX4_settleBounds_11 rfl rfl rfl ?_
    refine v_get 15 9 7 cx dX4_settleBounds_12 iX4 (wXo_9 E st) rfl (Nat.le_of_ble_eq_true rfl) rfl kf_X4_35 rfl rfl ?_
    refine v_iload 17 4 cx dX4_settleBounds_15 rfl rfl ?_
    refine v_aload_n 18 2 cx dX4_settleBounds_17 rfl rfl rfl ?_
    refine v_iload 20 4 cx dX4_settleBounds_18 rfl rfl ?_
    refine v_iload_n 21 1 cx dX4_settleBounds_20 rfl rfl rfl ?_
    refine v_callVI 24 6 cx dX4_settleBounds_21 km_X4_94 ca_X9_earliest (wXo_6 E st) rfl (c_X9_earliest C.2.1 E st x4 x1 ) rfl (by decide) rfl (Nat.le_of_ble_eq_true rfl) rfl h (fun v4 s3 h => ?_)
    refine v_iast 25 52 0 cx dX4_settleBounds_24 (wXa_9_7 E s3) rfl (wXt_9_7 E s3) rfl h (fun s5 h => ?_)
    refine v_iload_n 26 3 cx dX4_settleBounds_25 rfl rfl rfl ?_
    refine v_aload_n 27 0 cx dX4_settleBounds_26 rfl rfl rfl ?_
    refine v_get 30 9 7 cx dX4_settleBounds_27 iX4 (wXo_9 E s5) rfl (Nat.le_of_ble_eq_true rfl) rfl kf_X4_35 rfl rfl ?_
    refine v_iload 32 4 cx dX4_settleBounds_30 rfl rfl ?_
    refine v_iald 33 52 0 cx dX4_settleBounds_32 (wXa_9_7 E s5) rfl rfl h (fun v6 h => ?_)
    refine v_mmax 36 cx dX4_settleBounds_33 km_X4_59 kmax_s kmax_i kmax_c (by decide) (Nat.le_of_ble_eq_true rfl) rfl ?_
    refine v_istore_n 37 (fun a7 => [(3, .int a7), (0, .ref (oX E 9)), (1, .int x1), (2, .ref (oX E 6)), (4, .int x4)]) cx dX4_settleBounds_36 rfl (by decide) (fun _ => rfl) rfl h (fun a7 h => ?_)
    refine v_iinc 40 4 (fun a8 => [(4, .int a8), (3, .int a7), (0, .ref (oX E 9)), (1, .int x1), (2, .ref (oX E 6))]) cx dX4_settleBounds_37 rfl ic_1 (by decide) (fun _ => rfl) rfl h (fun a8 h => ?_)
    refine v_goto 5 cx dX4_settleBounds_40 (by decide) ?_
    cases h
    have hk : Vat C (wX E) 5 5 [(0, .ref (oX E 9)), (1, .int x1), (2, .ref (oX E 6)), (3, .int a7), (4, .int a8)] [] s5 := hk
    exact v_lsub (lv' := [(0, .ref (oX E 9)), (1, .int x1), (2, .ref (oX E 6)), (3, .int a7), (4, .int a8)]) [2, 3, 4, 1, 0] rfl (hk)
def V_X4_settleBounds_L46 (C : Cm) (E : Ev) (x1 : Int32) (x3 : Int32) (s : (Int32 × Sg)) : Prop := Vat C (wX E) 5 46 [(0, .ref (oX E 9)), (1, .int x1), (2, .ref (oX E 6)), (3, .int x3), (4, .int s.1)] [] s.2
def K_X4_settleBounds_L46 (C : Cm) (E : Ev) (x1 : Int32) (x3 : Int32) : (Sg) → Prop := (fun r : (Sg) => Vat C (wX E) 5 74 [] [] r)
set_option maxHeartbeats 4000000 in
set_option maxRecDepth 100000 in
theorem b_X4_settleBounds_L46 {C : Cm} {E : Ev} (cx : Cx C (tyE E) cX4_settleBounds RX4 5 2 37) (x1 : Int32) (x3 : Int32) : ∀ (s : (Int32 × Sg)) (out : (Int32 × Sg) ⊕ (Sg)), m_X4_settleBounds_L46 x1 x3 s.1 s.2 = some out → Sum.elim (V_X4_settleBounds_L46 C E x1 x3) (K_X4_settleBounds_L46 C E x1 x3) out → V_X4_settleBounds_L46 C E x1 x3 s := by
  intro s out h hk
  obtain ⟨x4, st⟩ := s
  show Vat C (wX E) 5 46 [(0, .ref (oX E 9)), (1, .int x1), (2, .ref (oX E 6)), (3, .int x3), (4, .int x4)] [] st
  replace h : m_X4_settleBounds_L46 x1 x3 x4 st = some out := h
  unfold m_X4_settleBounds_L46 at h
  refine v_iload 48 4 cx dX4_settleBounds_46 rfl rfl ?_
  refine v_iload_n 49 1 cx dX4_settleBounds_48 rfl rfl rfl ?_
  refine v_icmp_ge 74 52 cx dX4_settleBounds_49 (by decide) rfl h (fun h => ?_) (fun h => ?_)
  · cases h
    have hk : Vat C (wX E) 5 74 [] [] st := hk
    exact v_lsub (lv' := []) [] rfl (hk)
  · refine v_aload_n 53 0 cx dX4_settleBounds_52 rfl rfl rfl ?_
    refine v_get 56 9 8 cx dX4_settleBounds_53 iX4 (wXo_9 E st) rfl (Nat.le_of_ble_eq_true rfl) rfl kf_X4_38 rfl rfl ?_
    refine v_iload 58 4 cx dX4_settleBounds_56 rfl rfl ?_
    refine v_iload_n 59 3 cx dX4_settleBounds_58 rfl rfl rfl ?_
    refine v_aload_n 60 2 cx dX4_settleBounds_59 rfl rfl rfl ?_
    refine v_iload 62 4 cx dX4_settleBounds_60 rfl rfl ?_
    refine v_iload_n 63 1 cx dX4_settleBounds_62 rfl rfl rfl ?_
    refine v_callVI 66 6 cx dX4_settleBounds_63 km_X4_99 ca_X9_farthest (wXo_6 E st) rfl (c_X9_farthest C.2.1 E st x4 x1 ) rfl (by decide) rfl (Nat.le_of_ble_eq_true rfl) rfl h (fun v12 s11 h => ?_)
    refine v_isub 67 cx dX4_settleBounds_66 rfl ?_
    refine v_iast 68 53 0 cx dX4_settleBounds_67 (wXa_9_8 E s11) rfl (wXt_9_8 E s11) rfl h (fun s13 h => ?_)
    refine v_iinc 71 4 (fun a14 => [(4, .int a14), (0, .ref (oX E 9)), (1, .int x1), (2, .ref (oX E 6)), (3, .int x3)]) cx dX4_settleBounds_68 rfl ic_1 (by decide) (fun _ => rfl) rfl h (fun a14 h => ?_)
    refine v_goto 46 cx dX4_settleBounds_71 (by decide) ?_
    cases h
    have hk : Vat C (wX E) 5 46 [(0, .ref (oX E 9)), (1, .int x1), (2, .ref (oX E 6)), (3, .int x3), (4, .int a14)] [] s13 := hk
    exact v_lsub (lv' := [(0, .ref (oX E 9)), (1, .int x1), (2, .ref (oX E 6)), (3, .int x3), (4, .int a14)]) [1, 2, 3, 4, 0] rfl (hk)
set_option maxHeartbeats 4000000 in
set_option maxRecDepth 100000 in
theorem c_X4_settleBounds (l : Launch) (E : Ev) (st : Sg) (p1 : Int32) : ∀ q, m_X4_settleBounds p1 st = some q → CtV l (wX E) (tyE E) yX4_settleBounds cX4_settleBounds 5 none 2 37 [.ref (oX E 9), .int p1, .ref (oX E 6)] st q := by
  intro q h
  refine ctV_of (lv0 := [(0, .ref (oX E 9)), (1, .int p1), (2, .ref (oX E 6))]) (by decide) rfl (Nat.le_of_ble_eq_true rfl) (fun C hC cx hk => ?_)
  replace cx : Cx C (tyE E) cX4_settleBounds RX4 5 2 37 := cx
  unfold m_X4_settleBounds at h
  refine v_iconst 1 cx dX4_settleBounds_0 ic_0 rfl ?_
  refine v_istore_n 2 (fun a1 => [(3, .int a1), (0, .ref (oX E 9)), (1, .int p1), (2, .ref (oX E 6))]) cx dX4_settleBounds_1 rfl (by decide) (fun _ => rfl) rfl h (fun a1 h => ?_)
  refine v_iconst 3 cx dX4_settleBounds_2 ic_0 rfl ?_
  refine v_istore 5 (fun a2 => [(4, .int a2), (3, .int a1), (0, .ref (oX E 9)), (1, .int p1), (2, .ref (oX E 6))]) cx dX4_settleBounds_3 (by decide) (fun _ => rfl) rfl h (fun a2 h => ?_)
  refine v_lsub (lv' := [(0, .ref (oX E 9)), (1, .int p1), (2, .ref (oX E 6)), (3, .int a1), (4, .int a2)]) [2, 3, 4, 1, 0] rfl ?_
  refine v_loop (s0 := (a1, a2, st)) (V_X4_settleBounds_L5 C E p1) (K_X4_settleBounds_L5 C E p1) h (b_X4_settleBounds_L5 cx p1) (fun r9 h => ?_)
  show Vat C (wX E) 5 43 [(0, .ref (oX E 9)), (1, .int p1), (2, .ref (oX E 6)), (3, .int r9.1)] [] r9.2
  refine v_iconst 44 cx dX4_settleBounds_43 ic_0 rfl ?_
  refine v_istore 46 (fun a10 => [(4, .int a10), (0, .ref (oX E 9)), (1, .int p1), (2, .ref (oX E 6)), (3, .int r9.1)]) cx dX4_settleBounds_44 (by decide) (fun _ => rfl) rfl h (fun a10 h => ?_)
  refine v_lsub (lv' := [(0, .ref (oX E 9)), (1, .int p1), (2, .ref (oX E 6)), (3, .int r9.1), (4, .int a10)]) [1, 2, 3, 4, 0] rfl ?_
  refine v_loop (s0 := (a10, r9.2)) (V_X4_settleBounds_L46 C E p1 r9.1) (K_X4_settleBounds_L46 C E p1 r9.1) h (b_X4_settleBounds_L46 cx p1 r9.1) (fun r15 h => ?_)
  show Vat C (wX E) 5 74 [] [] r15
  exact hk _ _ _ _ (Option.some.inj h) dX4_settleBounds_74
def V_X4_settlePlaces_L10 (C : Cm) (E : Ev) (s : (Int32 × Sg)) : Prop := Vat C (wX E) 5 10 [(0, .ref (oX E 9)), (1, .ref (oX E 1)), (2, .int s.1)] [] s.2
def K_X4_settlePlaces_L10 (C : Cm) (E : Ev) : (Sg) → Prop := (fun r : (Sg) => Vat C (wX E) 5 106 [] [] r)
set_option maxHeartbeats 4000000 in
set_option maxRecDepth 100000 in
theorem b_X4_settlePlaces_L10 {C : Cm} {E : Ev} (cx : Cx C (tyE E) cX4_settlePlaces RX4 5 1 23) : ∀ (s : (Int32 × Sg)) (out : (Int32 × Sg) ⊕ (Sg)), m_X4_settlePlaces_L10 s.1 s.2 = some out → Sum.elim (V_X4_settlePlaces_L10 C E) (K_X4_settlePlaces_L10 C E) out → V_X4_settlePlaces_L10 C E s := by
  intro s out h hk
  obtain ⟨x2, st⟩ := s
  show Vat C (wX E) 5 10 [(0, .ref (oX E 9)), (1, .ref (oX E 1)), (2, .int x2)] [] st
  replace h : m_X4_settlePlaces_L10 x2 st = some out := h
  unfold m_X4_settlePlaces_L10 at h
  refine v_iload_n 11 2 cx dX4_settlePlaces_10 rfl rfl rfl ?_
  refine v_aload_n 12 1 cx dX4_settlePlaces_11 rfl rfl rfl ?_
  refine v_getI 15 1 0 cx dX4_settlePlaces_12 iX0 (wXo_1 E st) rfl (Nat.le_of_ble_eq_true rfl) rfl kf_X4_68 rfl rfl h (fun v3 h => ?_)
  refine v_iconst 16 cx dX4_settlePlaces_15 ic_3 rfl ?_
  refine v_imul 17 cx dX4_settlePlaces_16 rfl ?_
  refine v_icmp_ge 106 20 cx dX4_settlePlaces_17 (by decide) rfl h (fun h => ?_) (fun h => ?_)
  · cases h
    have hk : Vat C (wX E) 5 106 [] [] st := hk
    exact v_lsub (lv' := []) [] rfl (hk)
  · refine v_aload_n 21 1 cx dX4_settlePlaces_20 rfl rfl rfl ?_
    refine v_get 24 1 6 cx dX4_settlePlaces_21 iX0 (wXo_1 E st) rfl (Nat.le_of_ble_eq_true rfl) rfl kf_X4_108 rfl rfl ?_
    refine v_iload_n 25 2 cx dX4_settlePlaces_24 rfl rfl rfl ?_
    refine v_iald 26 23 0 cx dX4_settlePlaces_25 (wXa_1_6 E st) rfl rfl h (fun v4 h => ?_)
    refine v_istore_n 27 (fun a5 => [(3, .int a5), (0, .ref (oX E 9)), (1, .ref (oX E 1)), (2, .int x2)]) cx dX4_settlePlaces_26 rfl (by decide) (fun _ => rfl) rfl h (fun a5 h => ?_)
    refine v_aload_n 28 2 cx dX4_settlePlaces_27 rfl rfl rfl ?_
    refine v_iload_n 29 0 cx dX4_settlePlaces_28 rfl rfl rfl ?_
    refine v_callVI 32 1 cx dX4_settlePlaces_29 km_X4_111 ca_X0_has (wXo_1 E st) rfl (c_X0_has C.2.1 E st a5 ) rfl (by decide) rfl (Nat.le_of_ble_eq_true rfl) rfl h (fun v7 s6 h => ?_)
    refine v_if_eq 100 35 cx dX4_settlePlaces_32 (by decide) rfl h (fun h => ?_) (fun h => ?_)
    · refine v_iinc 103 3 (fun a8 => [(2, .int a8), (3, .int a5), (0, .ref (oX E 9)), (1, .ref (oX E 1))]) cx dX4_settlePlaces_100 rfl ic_1 (by decide) (fun _ => rfl) rfl h (fun a8 h => ?_)
      refine v_goto 10 cx dX4_settlePlaces_103 (by decide) ?_
      cases h
      have hk : Vat C (wX E) 5 10 [(0, .ref (oX E 9)), (1, .ref (oX E 1)), (2, .int a8)] [] s6 := hk
      exact v_lsub (lv' := [(0, .ref (oX E 9)), (1, .ref (oX E 1)), (2, .int a8)]) [2, 3, 0] rfl (hk)
    · refine v_aload_n 36 1 cx dX4_settlePlaces_35 rfl rfl rfl ?_
      refine v_get 39 9 5 cx dX4_settlePlaces_36 iX4 (wXo_9 E s6) rfl (Nat.le_of_ble_eq_true rfl) rfl kf_X4_29 rfl rfl ?_
      refine v_iload_n 40 3 cx dX4_settlePlaces_39 rfl rfl rfl ?_
      refine v_iconst 41 cx dX4_settlePlaces_40 ic_3 rfl ?_
      refine v_idiv 42 cx dX4_settlePlaces_41 rfl h (fun h => ?_)
      refine v_iald 43 50 0 cx dX4_settlePlaces_42 (wXa_9_5 E s6) rfl rfl h (fun v9 h => ?_)
      refine v_aload_n 44 1 cx dX4_settlePlaces_43 rfl rfl rfl ?_
      refine v_getI 47 9 1 cx dX4_settlePlaces_44 iX4 (wXo_9 E s6) rfl (Nat.le_of_ble_eq_true rfl) rfl kf_X4_15 rfl rfl h (fun v10 h => ?_)
      refine v_aload_n 48 2 cx dX4_settlePlaces_47 rfl rfl rfl ?_
      refine v_get 51 1 7 cx dX4_settlePlaces_48 iX0 (wXo_1 E s6) rfl (Nat.le_of_ble_eq_true rfl) rfl kf_X4_115 rfl rfl ?_
      refine v_iload_n 52 3 cx dX4_settlePlaces_51 rfl rfl rfl ?_
      refine v_iald 53 24 0 cx dX4_settlePlaces_52 (wXa_1_7 E s6) rfl rfl h (fun v11 h => ?_)
      refine v_imul 54 cx dX4_settlePlaces_53 rfl ?_
      refine v_iadd 55 cx dX4_settlePlaces_54 rfl ?_
      refine v_aload_n 56 1 cx dX4_settlePlaces_55 rfl rfl rfl ?_
      refine v_get 59 9 5 cx dX4_settlePlaces_56 iX4 (wXo_9 E s6) rfl (Nat.le_of_ble_eq_true rfl) rfl kf_X4_29 rfl rfl ?_
      refine v_iload_n 60 0 cx dX4_settlePlaces_59 rfl rfl rfl ?_
      refine v_iald 61 50 0 cx dX4_settlePlaces_60 (wXa_9_5 E s6) rfl rfl h (fun v12 h => ?_)
      refine v_isub 62 cx dX4_settlePlaces_61 rfl ?_
      refine v_istore 64 (fun a13 => [(4, .int a13), (3, .int a5), (0, .ref (oX E 9)), (1, .ref (oX E 1)), (2, .int x2)]) cx dX4_settlePlaces_62 (by decide) (fun _ => rfl) rfl h (fun a13 h => ?_)
      refine v_aload_n 65 2 cx dX4_settlePlaces_64 rfl rfl rfl ?_
      refine v_get 68 9 9 cx dX4_settlePlaces_65 iX4 (wXo_9 E s6) rfl (Nat.le_of_ble_eq_true rfl) rfl kf_X4_41 rfl rfl ?_
      refine v_iload_n 69 1 cx dX4_settlePlaces_68 rfl rfl rfl ?_
      refine v_aload_n 70 2 cx dX4_settlePlaces_69 rfl rfl rfl ?_
      refine v_get 73 9 9 cx dX4_settlePlaces_70 iX4 (wXo_9 E s6) rfl (Nat.le_of_ble_eq_true rfl) rfl kf_X4_41 rfl rfl ?_
      refine v_iload_n 74 1 cx dX4_settlePlaces_73 rfl rfl rfl ?_
      refine v_iald 75 54 0 cx dX4_settlePlaces_74 (wXa_9_9 E s6) rfl rfl h (fun v14 h => ?_)
      refine v_aload_n 76 2 cx dX4_settlePlaces_75 rfl rfl rfl ?_
      refine v_getI 79 9 1 cx dX4_settlePlaces_76 iX4 (wXo_9 E s6) rfl (Nat.le_of_ble_eq_true rfl) rfl kf_X4_15 rfl rfl h (fun v15 h => ?_)
      refine v_iconst 80 cx dX4_settlePlaces_79 ic_1 rfl ?_
      refine v_icmp_ge 87 83 cx dX4_settlePlaces_80 (by decide) rfl h (fun h => ?_) (fun h => ?_)
      · refine v_iload 89 0 cx dX4_settlePlaces_87 rfl rfl ?_
        refine v_aload_n 90 2 cx dX4_settlePlaces_89 rfl rfl rfl ?_
        refine v_getI 93 9 1 cx dX4_settlePlaces_90 iX4 (wXo_9 E s6) rfl (Nat.le_of_ble_eq_true rfl) rfl kf_X4_15 rfl rfl h (fun v16 h => ?_)
        refine v_idiv 94 cx dX4_settlePlaces_93 rfl h (fun h => ?_)
        refine v_iconst 95 cx dX4_settlePlaces_94 ic_1 rfl ?_
        refine v_iadd 96 cx dX4_settlePlaces_95 rfl ?_
        refine v_mmax 99 cx dX4_settlePlaces_96 km_X4_59 kmax_s kmax_i kmax_c (by decide) (Nat.le_of_ble_eq_true rfl) rfl ?_
        refine v_iast 100 54 0 cx dX4_settlePlaces_99 (wXa_9_9 E s6) rfl (wXt_9_9 E s6) rfl h (fun s17 h => ?_)
        refine v_iinc 103 4 (fun a18 => [(2, .int a18), (4, .int a13), (3, .int a5), (0, .ref (oX E 9)), (1, .ref (oX E 1))]) cx dX4_settlePlaces_100 rfl ic_1 (by decide) (fun _ => rfl) rfl h (fun a18 h => ?_)
        refine v_goto 10 cx dX4_settlePlaces_103 (by decide) ?_
        cases h
        have hk : Vat C (wX E) 5 10 [(0, .ref (oX E 9)), (1, .ref (oX E 1)), (2, .int a18)] [] s17 := hk
        exact v_lsub (lv' := [(0, .ref (oX E 9)), (1, .ref (oX E 1)), (2, .int a18)]) [3, 4, 0] rfl (hk)
      · refine v_iconst 84 cx dX4_settlePlaces_83 ic_1 rfl ?_
        refine v_goto 96 cx dX4_settlePlaces_84 (by decide) ?_
        refine v_mmax 99 cx dX4_settlePlaces_96 km_X4_59 kmax_s kmax_i kmax_c (by decide) (Nat.le_of_ble_eq_true rfl) rfl ?_
        refine v_iast 100 54 0 cx dX4_settlePlaces_99 (wXa_9_9 E s6) rfl (wXt_9_9 E s6) rfl h (fun s19 h => ?_)
        refine v_iinc 103 4 (fun a20 => [(2, .int a20), (4, .int a13), (3, .int a5), (0, .ref (oX E 9)), (1, .ref (oX E 1))]) cx dX4_settlePlaces_100 rfl ic_1 (by decide) (fun _ => rfl) rfl h (fun a20 h => ?_)
        refine v_goto 10 cx dX4_settlePlaces_103 (by decide) ?_
        cases h
        have hk : Vat C (wX E) 5 10 [(0, .ref (oX E 9)), (1, .ref (oX E 1)), (2, .int a20)] [] s19 := hk
        exact v_lsub (lv' := [(0, .ref (oX E 9)), (1, .ref (oX E 1)), (2, .int a20)]) [3, 4, 0] rfl (hk)
set_option maxHeartbeats 4000000 in
set_option maxRecDepth 100000 in
theorem c_X4_settlePlaces (l : Launch) (E : Ev) (st : Sg) : ∀ q, m_X4_settlePlaces st = some q → CtV l (wX E) (tyE E) yX4_settlePlaces cX4_settlePlaces 5 none 1 23 [.ref (oX E 9), .ref (oX E 1)] st q := by
  intro q h
  refine ctV_of (lv0 := [(0, .ref (oX E 9)), (1, .ref (oX E 1))]) (by decide) rfl (Nat.le_of_ble_eq_true rfl) (fun C hC cx hk => ?_)
  replace cx : Cx C (tyE E) cX4_settlePlaces RX4 5 1 23 := cx
  unfold m_X4_settlePlaces at h
  refine v_aload_n 1 0 cx dX4_settlePlaces_0 rfl rfl rfl ?_
  refine v_get 4 9 9 cx dX4_settlePlaces_1 iX4 (wXo_9 E st) rfl (Nat.le_of_ble_eq_true rfl) rfl kf_X4_41 rfl rfl ?_
  refine v_iconst 5 cx dX4_settlePlaces_4 ic_1 rfl ?_
  refine v_callSV 8 cx dX4_settlePlaces_5 km_X4_102 ca_J7_fill_53178 (c_J7_fill_53178_9_9 C.2.1 E st 1 ) rfl (by decide) rfl (Nat.le_of_ble_eq_true rfl) rfl h (fun _ s1 h => ?_)
  refine v_iconst 9 cx dX4_settlePlaces_8 ic_0 rfl ?_
  refine v_istore_n 10 (fun a2 => [(2, .int a2), (0, .ref (oX E 9)), (1, .ref (oX E 1))]) cx dX4_settlePlaces_9 rfl (by decide) (fun _ => rfl) rfl h (fun a2 h => ?_)
  refine v_lsub (lv' := [(0, .ref (oX E 9)), (1, .ref (oX E 1)), (2, .int a2)]) [1, 2, 0] rfl ?_
  refine v_loop (s0 := (a2, s1)) (V_X4_settlePlaces_L10 C E) (K_X4_settlePlaces_L10 C E) h (b_X4_settlePlaces_L10 cx) (fun r21 h => ?_)
  show Vat C (wX E) 5 106 [] [] r21
  exact hk _ _ _ _ (Option.some.inj h) dX4_settlePlaces_106
def V_X4_settleOrder_L4 (C : Cm) (E : Ev) (x1 : Int32) (s : (Int32 × Int32 × Sg)) : Prop := Vat C (wX E) 5 4 [(0, .ref (oX E 9)), (1, .int x1), (2, .int s.1), (3, .int s.2.1)] [] s.2.2
def K_X4_settleOrder_L4 (C : Cm) (E : Ev) (x1 : Int32) : (Sg) → Prop := (fun r : (Sg) => Vat C (wX E) 5 61 [] [] r)
def V_X4_settleOrder_L15 (C : Cm) (E : Ev) (x1 : Int32) (x3 : Int32) (s : (Int32 × Int32 × Sg)) : Prop := Vat C (wX E) 5 15 [(0, .ref (oX E 9)), (1, .int x1), (2, .int s.1), (3, .int x3), (4, .int s.2.1)] [] s.2.2
def K_X4_settleOrder_L15 (C : Cm) (E : Ev) (x1 : Int32) (x3 : Int32) : (Int32 × Sg) → Prop := (fun r : (Int32 × Sg) => Vat C (wX E) 5 55 [(0, .ref (oX E 9)), (1, .int x1), (2, .int r.1), (3, .int x3)] [] r.2)
set_option maxHeartbeats 4000000 in
set_option maxRecDepth 100000 in
theorem b_X4_settleOrder_L15 {C : Cm} {E : Ev} (cx : Cx C (tyE E) cX4_settleOrder RX4 5 0 0) (x1 : Int32) (x3 : Int32) : ∀ (s : (Int32 × Int32 × Sg)) (out : (Int32 × Int32 × Sg) ⊕ (Int32 × Sg)), m_X4_settleOrder_L15 x1 x3 s.1 s.2.1 s.2.2 = some out → Sum.elim (V_X4_settleOrder_L15 C E x1 x3) (K_X4_settleOrder_L15 C E x1 x3) out → V_X4_settleOrder_L15 C E x1 x3 s := by
  intro s out h hk
  obtain ⟨x2, x4, st⟩ := s
  show Vat C (wX E) 5 15 [(0, .ref (oX E 9)), (1, .int x1), (2, .int x2), (3, .int x3), (4, .int x4)] [] st
  replace h : m_X4_settleOrder_L15 x1 x3 x2 x4 st = some out := h
  unfold m_X4_settleOrder_L15 at h
  refine v_iload 17 4 cx dX4_settleOrder_15 rfl rfl ?_
  refine v_iload_n 18 1 cx dX4_settleOrder_17 rfl rfl rfl ?_
  refine v_icmp_ge 55 21 cx dX4_settleOrder_18 (by decide) rfl h (fun h => ?_) (fun h => ?_)
  · cases h
    have hk : Vat C (wX E) 5 55 [(0, .ref (oX E 9)), (1, .int x1), (2, .int x2), (3, .int x3)] [] st := hk
    exact v_lsub (lv' := [(0, .ref (oX E 9)), (1, .int x1), (2, .int x2), (3, .int x3)]) [0, 1, 2, 3] rfl (hk)
  · refine v_aload_n 22 0 cx dX4_settleOrder_21 rfl rfl rfl ?_
    refine v_get 25 9 3 cx dX4_settleOrder_22 iX4 (wXo_9 E st) rfl (Nat.le_of_ble_eq_true rfl) rfl kf_X4_22 rfl rfl ?_
    refine v_iload 27 4 cx dX4_settleOrder_25 rfl rfl ?_
    refine v_iald 28 48 0 cx dX4_settleOrder_27 (wXa_9_3 E st) rfl rfl h (fun v5 h => ?_)
    refine v_iload_n 29 3 cx dX4_settleOrder_28 rfl rfl rfl ?_
    refine v_icmp_ne 49 32 cx dX4_settleOrder_29 (by decide) rfl h (fun h => ?_) (fun h => ?_)
    · refine v_iinc 52 4 (fun a6 => [(4, .int a6), (0, .ref (oX E 9)), (1, .int x1), (2, .int x2), (3, .int x3)]) cx dX4_settleOrder_49 rfl ic_1 (by decide) (fun _ => rfl) rfl h (fun a6 h => ?_)
      refine v_goto 15 cx dX4_settleOrder_52 (by decide) ?_
      cases h
      have hk : Vat C (wX E) 5 15 [(0, .ref (oX E 9)), (1, .int x1), (2, .int x2), (3, .int x3), (4, .int a6)] [] st := hk
      exact v_lsub (lv' := [(0, .ref (oX E 9)), (1, .int x1), (2, .int x2), (3, .int x3), (4, .int a6)]) [1, 2, 3, 4, 0] rfl (hk)
    · refine v_iload_n 33 2 cx dX4_settleOrder_32 rfl rfl rfl ?_
      refine v_bipush 35 cx dX4_settleOrder_33 bp_16 rfl ?_
      refine v_icmp_ge 49 38 cx dX4_settleOrder_35 (by decide) rfl h (fun h => ?_) (fun h => ?_)
      · refine v_iinc 52 4 (fun a7 => [(4, .int a7), (0, .ref (oX E 9)), (1, .int x1), (2, .int x2), (3, .int x3)]) cx dX4_settleOrder_49 rfl ic_1 (by decide) (fun _ => rfl) rfl h (fun a7 h => ?_)
        refine v_goto 15 cx dX4_settleOrder_52 (by decide) ?_
        cases h
        have hk : Vat C (wX E) 5 15 [(0, .ref (oX E 9)), (1, .int x1), (2, .int x2), (3, .int x3), (4, .int a7)] [] st := hk
        exact v_lsub (lv' := [(0, .ref (oX E 9)), (1, .int x1), (2, .int x2), (3, .int x3), (4, .int a7)]) [1, 2, 3, 4, 0] rfl (hk)
      · refine v_aload_n 39 0 cx dX4_settleOrder_38 rfl rfl rfl ?_
        refine v_get 42 9 10 cx dX4_settleOrder_39 iX4 (wXo_9 E st) rfl (Nat.le_of_ble_eq_true rfl) rfl kf_X4_44 rfl rfl ?_
        refine v_iload_n 43 2 cx dX4_settleOrder_42 rfl rfl rfl ?_
        refine v_iload 45 4 cx dX4_settleOrder_43 rfl rfl ?_
        refine v_iast 46 55 0 cx dX4_settleOrder_45 (wXa_9_10 E st) rfl (wXt_9_10 E st) rfl h (fun s8 h => ?_)
        refine v_iinc 49 2 (fun a9 => [(2, .int a9), (0, .ref (oX E 9)), (1, .int x1), (3, .int x3), (4, .int x4)]) cx dX4_settleOrder_46 rfl ic_1 (by decide) (fun _ => rfl) rfl h (fun a9 h => ?_)
        refine v_iinc 52 4 (fun a10 => [(4, .int a10), (2, .int a9), (0, .ref (oX E 9)), (1, .int x1), (3, .int x3)]) cx dX4_settleOrder_49 rfl ic_1 (by decide) (fun _ => rfl) rfl h (fun a10 h => ?_)
        refine v_goto 15 cx dX4_settleOrder_52 (by decide) ?_
        cases h
        have hk : Vat C (wX E) 5 15 [(0, .ref (oX E 9)), (1, .int x1), (2, .int a9), (3, .int x3), (4, .int a10)] [] s8 := hk
        exact v_lsub (lv' := [(0, .ref (oX E 9)), (1, .int x1), (2, .int a9), (3, .int x3), (4, .int a10)]) [2, 3, 1, 4, 0] rfl (hk)
set_option maxHeartbeats 4000000 in
set_option maxRecDepth 100000 in
theorem b_X4_settleOrder_L4 {C : Cm} {E : Ev} (cx : Cx C (tyE E) cX4_settleOrder RX4 5 0 0) (x1 : Int32) : ∀ (s : (Int32 × Int32 × Sg)) (out : (Int32 × Int32 × Sg) ⊕ (Sg)), m_X4_settleOrder_L4 x1 s.1 s.2.1 s.2.2 = some out → Sum.elim (V_X4_settleOrder_L4 C E x1) (K_X4_settleOrder_L4 C E x1) out → V_X4_settleOrder_L4 C E x1 s := by
  intro s out h hk
  obtain ⟨x2, x3, st⟩ := s
  show Vat C (wX E) 5 4 [(0, .ref (oX E 9)), (1, .int x1), (2, .int x2), (3, .int x3)] [] st
  replace h : m_X4_settleOrder_L4 x1 x2 x3 st = some out := h
  unfold m_X4_settleOrder_L4 at h
  refine v_iload_n 5 3 cx dX4_settleOrder_4 rfl rfl rfl ?_
  refine v_aload_n 6 0 cx dX4_settleOrder_5 rfl rfl rfl ?_
  refine v_getI 9 9 1 cx dX4_settleOrder_6 iX4 (wXo_9 E st) rfl (Nat.le_of_ble_eq_true rfl) rfl kf_X4_15 rfl rfl h (fun v3 h => ?_)
  refine v_icmp_ge 61 12 cx dX4_settleOrder_9 (by decide) rfl h (fun h => ?_) (fun h => ?_)
  · cases h
    have hk : Vat C (wX E) 5 61 [] [] st := hk
    exact v_lsub (lv' := []) [] rfl (hk)
  · refine v_iconst 13 cx dX4_settleOrder_12 ic_0 rfl ?_
    refine v_istore 15 (fun a4 => [(4, .int a4), (0, .ref (oX E 9)), (1, .int x1), (2, .int x2), (3, .int x3)]) cx dX4_settleOrder_13 (by decide) (fun _ => rfl) rfl h (fun a4 h => ?_)
    refine v_lsub (lv' := [(0, .ref (oX E 9)), (1, .int x1), (2, .int x2), (3, .int x3), (4, .int a4)]) [1, 2, 3, 4, 0] rfl ?_
    refine v_loop (s0 := (x2, a4, st)) (V_X4_settleOrder_L15 C E x1 x3) (K_X4_settleOrder_L15 C E x1 x3) h (b_X4_settleOrder_L15 cx x1 x3) (fun r11 h => ?_)
    show Vat C (wX E) 5 55 [(0, .ref (oX E 9)), (1, .int x1), (2, .int r11.1), (3, .int x3)] [] r11.2
    refine v_iinc 58 3 (fun a12 => [(3, .int a12), (0, .ref (oX E 9)), (1, .int x1), (2, .int r11.1)]) cx dX4_settleOrder_55 rfl ic_1 (by decide) (fun _ => rfl) rfl h (fun a12 h => ?_)
    refine v_goto 4 cx dX4_settleOrder_58 (by decide) ?_
    cases h
    have hk : Vat C (wX E) 5 4 [(0, .ref (oX E 9)), (1, .int x1), (2, .int r11.1), (3, .int a12)] [] r11.2 := hk
    exact v_lsub (lv' := [(0, .ref (oX E 9)), (1, .int x1), (2, .int r11.1), (3, .int a12)]) [1, 2, 3, 0] rfl (hk)
set_option maxHeartbeats 4000000 in
set_option maxRecDepth 100000 in
theorem c_X4_settleOrder (l : Launch) (E : Ev) (st : Sg) (p1 : Int32) : ∀ q, m_X4_settleOrder p1 st = some q → CtV l (wX E) (tyE E) yX4_settleOrder cX4_settleOrder 5 none 0 0 [.ref (oX E 9), .int p1] st q := by
  intro q h
  refine ctV_of (lv0 := [(0, .ref (oX E 9)), (1, .int p1)]) (by decide) rfl (Nat.le_of_ble_eq_true rfl) (fun C hC cx hk => ?_)
  replace cx : Cx C (tyE E) cX4_settleOrder RX4 5 0 0 := cx
  unfold m_X4_settleOrder at h
  refine v_iconst 1 cx dX4_settleOrder_0 ic_0 rfl ?_
  refine v_istore_n 2 (fun a1 => [(2, .int a1), (0, .ref (oX E 9)), (1, .int p1)]) cx dX4_settleOrder_1 rfl (by decide) (fun _ => rfl) rfl h (fun a1 h => ?_)
  refine v_iconst 3 cx dX4_settleOrder_2 ic_0 rfl ?_
  refine v_istore_n 4 (fun a2 => [(3, .int a2), (2, .int a1), (0, .ref (oX E 9)), (1, .int p1)]) cx dX4_settleOrder_3 rfl (by decide) (fun _ => rfl) rfl h (fun a2 h => ?_)
  refine v_lsub (lv' := [(0, .ref (oX E 9)), (1, .int p1), (2, .int a1), (3, .int a2)]) [2, 3, 1, 0] rfl ?_
  refine v_loop (s0 := (a1, a2, st)) (V_X4_settleOrder_L4 C E p1) (K_X4_settleOrder_L4 C E p1) h (b_X4_settleOrder_L4 cx p1) (fun r13 h => ?_)
  show Vat C (wX E) 5 61 [] [] r13
  exact hk _ _ _ _ (Option.some.inj h) dX4_settleOrder_61
