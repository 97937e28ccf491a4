-- machine layer (written by gen.py)
def V_X3_firstBroken_L5 (C : Cm) (E : Ev) (s : (Int32 × Int32 × Sg)) : Prop := Vat C (wX E) 7 5 [(1, .ref (oX E 4)), (2, .ref (oX E 9)), (3, .int s.1), (4, .int s.2.1)] [] s.2.2
def K_X3_firstBroken_L5 (C : Cm) (E : Ev) : (Int32 × Sg) → Prop := (fun r : (Int32 × Sg) => Vat C (wX E) 7 102 [(3, .int r.1)] [] r.2)
set_option maxHeartbeats 4000000 in
set_option maxRecDepth 100000 in
theorem j_X3_firstBroken_71 {C : Cm} {E : Ev} (cx : Cx C (tyE E) cX3_firstBroken RX3 7 1 22) (x3 : Int32) (x4 : Int32) (t0 : Int32) (st : Sg) (out : (Int32 × Int32 × Sg) ⊕ (Int32 × Sg)) (h : m_X3_firstBroken_71 x3 x4 t0 st = some out) (hk : Sum.elim (V_X3_firstBroken_L5 C E) (K_X3_firstBroken_L5 C E) out) : Vat C (wX E) 7 71 [(1, .ref (oX E 4)), (2, .ref (oX E 9)), (3, .int x3), (4, .int x4)] [.int t0] st := by
  unfold m_X3_firstBroken_71 at h
  refine v_istore 73 (fun a12 => [(6, .int a12), (1, .ref (oX E 4)), (2, .ref (oX E 9)), (3, .int x3), (4, .int x4)]) cx dX3_firstBroken_71 (by decide) (fun _ => rfl) rfl h (fun a12 h => ?_)
  refine v_iload 75 0 cx dX3_firstBroken_73 rfl rfl ?_
  refine v_if_ne 96 78 cx dX3_firstBroken_75 (by decide) rfl h (fun h => ?_) (fun h => ?_)
  · refine v_iinc 99 4 (fun a13 => [(4, .int a13), (6, .int a12), (1, .ref (oX E 4)), (2, .ref (oX E 9)), (3, .int x3)]) cx dX3_firstBroken_96 rfl ic_1 (by decide) (fun _ => rfl) rfl h (fun a13 h => ?_)
    refine v_goto 5 cx dX3_firstBroken_99 (by decide) ?_
    cases h
    have hk : Vat C (wX E) 7 5 [(1, .ref (oX E 4)), (2, .ref (oX E 9)), (3, .int x3), (4, .int a13)] [] st := hk
    exact v_lsub (lv' := [(1, .ref (oX E 4)), (2, .ref (oX E 9)), (3, .int x3), (4, .int a13)]) [2, 3, 4, 0] rfl (hk)
  · refine v_iload_n 79 3 cx dX3_firstBroken_78 rfl rfl rfl ?_
    refine v_iconst 80 cx dX3_firstBroken_79 ic_m1 rfl ?_
    refine v_icmp_eq 93 83 cx dX3_firstBroken_80 (by decide) rfl h (fun h => ?_) (fun h => ?_)
    · refine v_iload 95 4 cx dX3_firstBroken_93 rfl rfl ?_
      refine v_istore_n 96 (fun a14 => [(3, .int a14), (6, .int a12), (1, .ref (oX E 4)), (2, .ref (oX E 9)), (4, .int x4)]) cx dX3_firstBroken_95 rfl (by decide) (fun _ => rfl) rfl h (fun a14 h => ?_)
      refine v_iinc 99 4 (fun a15 => [(4, .int a15), (3, .int a14), (6, .int a12), (1, .ref (oX E 4)), (2, .ref (oX E 9))]) cx dX3_firstBroken_96 rfl ic_1 (by decide) (fun _ => rfl) rfl h (fun a15 h => ?_)
      refine v_goto 5 cx dX3_firstBroken_99 (by decide) ?_
      cases h
      have hk : Vat C (wX E) 7 5 [(1, .ref (oX E 4)), (2, .ref (oX E 9)), (3, .int a14), (4, .int a15)] [] st := hk
      exact v_lsub (lv' := [(1, .ref (oX E 4)), (2, .ref (oX E 9)), (3, .int a14), (4, .int a15)]) [3, 4, 1, 0] rfl (hk)
    · refine v_aload_n 84 1 cx dX3_firstBroken_83 rfl rfl rfl ?_
      refine v_iload 86 4 cx dX3_firstBroken_84 rfl rfl ?_
      refine v_iload_n 87 3 cx dX3_firstBroken_86 rfl rfl rfl ?_
      refine v_callVI 90 4 cx dX3_firstBroken_87 km_X3_62 ca_X1_isAhead (wXo_4 E st) rfl (c_X1_isAhead_4 C.2.1 E st x4 x3 ) rfl (by decide) rfl (Nat.le_of_ble_eq_true rfl) rfl h (fun v17 s16 h => ?_)
      refine v_if_eq 96 93 cx dX3_firstBroken_90 (by decide) rfl h (fun h => ?_) (fun h => ?_)
      · refine v_iinc 99 4 (fun a18 => [(4, .int a18), (6, .int a12), (1, .ref (oX E 4)), (2, .ref (oX E 9)), (3, .int x3)]) cx dX3_firstBroken_96 rfl ic_1 (by decide) (fun _ => rfl) rfl h (fun a18 h => ?_)
        refine v_goto 5 cx dX3_firstBroken_99 (by decide) ?_
        cases h
        have hk : Vat C (wX E) 7 5 [(1, .ref (oX E 4)), (2, .ref (oX E 9)), (3, .int x3), (4, .int a18)] [] s16 := hk
        exact v_lsub (lv' := [(1, .ref (oX E 4)), (2, .ref (oX E 9)), (3, .int x3), (4, .int a18)]) [2, 3, 4, 0] rfl (hk)
      · refine v_iload 95 4 cx dX3_firstBroken_93 rfl rfl ?_
        refine v_istore_n 96 (fun a19 => [(3, .int a19), (6, .int a12), (1, .ref (oX E 4)), (2, .ref (oX E 9)), (4, .int x4)]) cx dX3_firstBroken_95 rfl (by decide) (fun _ => rfl) rfl h (fun a19 h => ?_)
        refine v_iinc 99 4 (fun a20 => [(4, .int a20), (3, .int a19), (6, .int a12), (1, .ref (oX E 4)), (2, .ref (oX E 9))]) cx dX3_firstBroken_96 rfl ic_1 (by decide) (fun _ => rfl) rfl h (fun a20 h => ?_)
        refine v_goto 5 cx dX3_firstBroken_99 (by decide) ?_
        cases h
        have hk : Vat C (wX E) 7 5 [(1, .ref (oX E 4)), (2, .ref (oX E 9)), (3, .int a19), (4, .int a20)] [] s16 := hk
        exact v_lsub (lv' := [(1, .ref (oX E 4)), (2, .ref (oX E 9)), (3, .int a19), (4, .int a20)]) [3, 4, 1, 0] rfl (hk)
set_option maxHeartbeats 4000000 in
set_option maxRecDepth 100000 in
theorem b_X3_firstBroken_L5 {C : Cm} {E : Ev} (cx : Cx C (tyE E) cX3_firstBroken RX3 7 1 22) : ∀ (s : (Int32 × Int32 × Sg)) (out : (Int32 × Int32 × Sg) ⊕ (Int32 × Sg)), m_X3_firstBroken_L5 s.1 s.2.1 s.2.2 = some out → Sum.elim (V_X3_firstBroken_L5 C E) (K_X3_firstBroken_L5 C E) out → V_X3_firstBroken_L5 C E s := by
  intro s out h hk
  obtain ⟨x3, x4, st⟩ := s
  show Vat C (wX E) 7 5 [(1, .ref (oX E 4)), (2, .ref (oX E 9)), (3, .int x3), (4, .int x4)] [] st
  replace h : m_X3_firstBroken_L5 x3 x4 st = some out := h
  unfold m_X3_firstBroken_L5 at h
  refine v_iload 7 3 cx dX3_firstBroken_5 rfl rfl ?_
  refine v_aload_n 8 0 cx dX3_firstBroken_7 rfl rfl rfl ?_
  refine v_getI 11 4 0 cx dX3_firstBroken_8 iX1 (wXo_4 E st) rfl (Nat.le_of_ble_eq_true rfl) rfl kf_X3_50 rfl rfl h (fun v3 h => ?_)
  refine v_icmp_ge 102 14 cx dX3_firstBroken_11 (by decide) rfl h (fun h => ?_) (fun h => ?_)
  · cases h
    have hk : Vat C (wX E) 7 102 [(3, .int x3)] [] st := hk
    exact v_lsub (lv' := [(3, .int x3)]) [2] rfl (hk)
  · refine v_aload_n 15 1 cx dX3_firstBroken_14 rfl rfl rfl ?_
    refine v_get 18 9 6 cx dX3_firstBroken_15 iX4 (wXo_9 E st) rfl (Nat.le_of_ble_eq_true rfl) rfl kf_X3_54 rfl rfl ?_
    refine v_aload_n 19 0 cx dX3_firstBroken_18 rfl rfl rfl ?_
    refine v_get 22 4 2 cx dX3_firstBroken_19 iX1 (wXo_4 E st) rfl (Nat.le_of_ble_eq_true rfl) rfl kf_X3_37 rfl rfl ?_
    refine v_iload 24 3 cx dX3_firstBroken_22 rfl rfl ?_
    refine v_iald 25 33 0 cx dX3_firstBroken_24 (wXa_4_2 E st) rfl rfl h (fun v4 h => ?_)
    refine v_iald 26 51 0 cx dX3_firstBroken_25 (wXa_9_6 E st) rfl rfl h (fun v5 h => ?_)
    refine v_aload_n 27 1 cx dX3_firstBroken_26 rfl rfl rfl ?_
    refine v_get 30 9 6 cx dX3_firstBroken_27 iX4 (wXo_9 E st) rfl (Nat.le_of_ble_eq_true rfl) rfl kf_X3_54 rfl rfl ?_
    refine v_aload_n 31 0 cx dX3_firstBroken_30 rfl rfl rfl ?_
    refine v_get 34 4 1 cx dX3_firstBroken_31 iX1 (wXo_4 E st) rfl (Nat.le_of_ble_eq_true rfl) rfl kf_X3_32 rfl rfl ?_
    refine v_iload 36 3 cx dX3_firstBroken_34 rfl rfl ?_
    refine v_iald 37 32 0 cx dX3_firstBroken_36 (wXa_4_1 E st) rfl rfl h (fun v6 h => ?_)
    refine v_iald 38 51 0 cx dX3_firstBroken_37 (wXa_9_6 E st) rfl rfl h (fun v7 h => ?_)
    refine v_isub 39 cx dX3_firstBroken_38 rfl ?_
    refine v_istore 41 (fun a8 => [(5, .int a8), (1, .ref (oX E 4)), (2, .ref (oX E 9)), (3, .int x3), (4, .int x4)]) cx dX3_firstBroken_39 (by decide) (fun _ => rfl) rfl h (fun a8 h => ?_)
    refine v_iload 43 0 cx dX3_firstBroken_41 rfl rfl ?_
    refine v_aload_n 44 2 cx dX3_firstBroken_43 rfl rfl rfl ?_
    refine v_getI 47 9 1 cx dX3_firstBroken_44 iX4 (wXo_9 E st) rfl (Nat.le_of_ble_eq_true rfl) rfl kf_X3_59 rfl rfl h (fun v9 h => ?_)
    refine v_aload_n 48 1 cx dX3_firstBroken_47 rfl rfl rfl ?_
    refine v_get 51 4 4 cx dX3_firstBroken_48 iX1 (wXo_4 E st) rfl (Nat.le_of_ble_eq_true rfl) rfl kf_X3_43 rfl rfl ?_
    refine v_iload 53 4 cx dX3_firstBroken_51 rfl rfl ?_
    refine v_iald 54 35 0 cx dX3_firstBroken_53 (wXa_4_4 E st) rfl rfl h (fun v10 h => ?_)
    refine v_imul 55 cx dX3_firstBroken_54 rfl ?_
    refine v_iadd 56 cx dX3_firstBroken_55 rfl ?_
    refine v_aload_n 57 1 cx dX3_firstBroken_56 rfl rfl rfl ?_
    refine v_get 60 4 3 cx dX3_firstBroken_57 iX1 (wXo_4 E st) rfl (Nat.le_of_ble_eq_true rfl) rfl kf_X3_40 rfl rfl ?_
    refine v_iload 62 4 cx dX3_firstBroken_60 rfl rfl ?_
    refine v_iald 63 34 0 cx dX3_firstBroken_62 (wXa_4_3 E st) rfl rfl h (fun v11 h => ?_)
    refine v_icmp_lt 70 66 cx dX3_firstBroken_63 (by decide) rfl h (fun h => ?_) (fun h => ?_)
    · refine v_iconst 71 cx dX3_firstBroken_70 ic_0 rfl ?_
      exact v_lsub (lv' := [(1, .ref (oX E 4)), (2, .ref (oX E 9)), (3, .int x3), (4, .int x4)]) [1, 2, 3, 4] rfl (j_X3_firstBroken_71 cx x3 x4 0 st _ h hk)
    · refine v_iconst 67 cx dX3_firstBroken_66 ic_1 rfl ?_
      refine v_goto 71 cx dX3_firstBroken_67 (by decide) ?_
      exact v_lsub (lv' := [(1, .ref (oX E 4)), (2, .ref (oX E 9)), (3, .int x3), (4, .int x4)]) [1, 2, 3, 4] rfl (j_X3_firstBroken_71 cx x3 x4 1 st _ h hk)
set_option maxHeartbeats 4000000 in
set_option maxRecDepth 100000 in
theorem c_X3_firstBroken (l : Launch) (E : Ev) (st : Sg) : ∀ q, m_X3_firstBroken st = some q → CtI l (wX E) (tyE E) yX3_firstBroken cX3_firstBroken 7 (some .int) 1 22 [.ref (oX E 11), .ref (oX E 4), .ref (oX E 9)] st q := by
  intro q h
  refine ctI_of (lv0 := [(0, .ref (oX E 11)), (1, .ref (oX E 4)), (2, .ref (oX E 9))]) (by decide) rfl (Nat.le_of_ble_eq_true rfl) (fun C hC cx hk => ?_)
  replace cx : Cx C (tyE E) cX3_firstBroken RX3 7 1 22 := cx
  unfold m_X3_firstBroken at h
  refine v_iconst 1 cx dX3_firstBroken_0 ic_m1 rfl ?_
  refine v_istore_n 2 (fun a1 => [(3, .int a1), (0, .ref (oX E 11)), (1, .ref (oX E 4)), (2, .ref (oX E 9))]) cx dX3_firstBroken_1 rfl (by decide) (fun _ => rfl) rfl h (fun a1 h => ?_)
  refine v_iconst 3 cx dX3_firstBroken_2 ic_0 rfl ?_
  refine v_istore 5 (fun a2 => [(4, .int a2), (3, .int a1), (0, .ref (oX E 11)), (1, .ref (oX E 4)), (2, .ref (oX E 9))]) cx dX3_firstBroken_3 (by decide) (fun _ => rfl) rfl h (fun a2 h => ?_)
  refine v_lsub (lv' := [(1, .ref (oX E 4)), (2, .ref (oX E 9)), (3, .int a1), (4, .int a2)]) [3, 4, 1, 0] rfl ?_
  refine v_loop (s0 := (a1, a2, st)) (V_X3_firstBroken_L5 C E) (K_X3_firstBroken_L5 C E) h (b_X3_firstBroken_L5 cx) (fun r21 h => ?_)
  show Vat C (wX E) 7 102 [(3, .int r21.1)] [] r21.2
  refine v_iload_n 103 0 cx dX3_firstBroken_102 rfl rfl rfl ?_
  exact hk _ _ _ _ (Option.some.inj h) dX3_firstBroken_103
set_option maxHeartbeats 4000000 in
set_option maxRecDepth 100000 in
theorem c_X2_clear_8 (l : Launch) (E : Ev) (st : Sg) : ∀ q, m_X2_clear 8 st = some q → CtV l (wX E) (tyE E) yX2_clear cX2_clear 1 none 1 23 [.ref (oX E 8)] st q := by
  intro q h
  refine ctV_of (lv0 := [(0, .ref (oX E 8))]) (by decide) rfl (Nat.le_of_ble_eq_true rfl) (fun C hC cx hk => ?_)
  replace cx : Cx C (tyE E) cX2_clear RX2 1 1 23 := cx
  unfold m_X2_clear at h
  refine v_aload_n 1 0 cx dX2_clear_0 rfl rfl rfl ?_
  refine v_get 4 8 0 cx dX2_clear_1 iX2 (wXo_8 E st) rfl (Nat.le_of_ble_eq_true rfl) rfl kf_X2_9 rfl rfl ?_
  refine v_iconst 5 cx dX2_clear_4 ic_0 rfl ?_
  refine v_callSV 8 cx dX2_clear_5 km_X2_15 ca_J7_fill_53178 (c_J7_fill_53178_8_0 C.2.1 E st 0 ) rfl (by decide) rfl (Nat.le_of_ble_eq_true rfl) rfl h (fun _ s1 h => ?_)
  exact hk _ _ _ _ (Option.some.inj h) dX2_clear_8
set_option maxHeartbeats 4000000 in
set_option maxRecDepth 100000 in
theorem c_X2_clear_10 (l : Launch) (E : Ev) (st : Sg) : ∀ q, m_X2_clear 10 st = some q → CtV l (wX E) (tyE E) yX2_clear cX2_clear 1 none 1 23 [.ref (oX E 10)] st q := by
  intro q h
  refine ctV_of (lv0 := [(0, .ref (oX E 10))]) (by decide) rfl (Nat.le_of_ble_eq_true rfl) (fun C hC cx hk => ?_)
  replace cx : Cx C (tyE E) cX2_clear RX2 1 1 23 := cx
  unfold m_X2_clear at h
  refine v_aload_n 1 0 cx dX2_clear_0 rfl rfl rfl ?_
  refine v_get 4 10 0 cx dX2_clear_1 iX2 (wXo_10 E st) rfl (Nat.le_of_ble_eq_true rfl) rfl kf_X2_9 rfl rfl ?_
  refine v_iconst 5 cx dX2_clear_4 ic_0 rfl ?_
  refine v_callSV 8 cx dX2_clear_5 km_X2_15 ca_J7_fill_53178 (c_J7_fill_53178_10_0 C.2.1 E st 0 ) rfl (by decide) rfl (Nat.le_of_ble_eq_true rfl) rfl h (fun _ s1 h => ?_)
  exact hk _ _ _ _ (Option.some.inj h) dX2_clear_8
set_option maxHeartbeats 4000000 in
set_option maxRecDepth 100000 in
theorem c_X2_clear_12 (l : Launch) (E : Ev) (st : Sg) : ∀ q, m_X2_clear 12 st = some q → CtV l (wX E) (tyE E) yX2_clear cX2_clear 1 none 1 23 [.ref (oX E 12)] st q := by
  intro q h
  refine ctV_of (lv0 := [(0, .ref (oX E 12))]) (by decide) rfl (Nat.le_of_ble_eq_true rfl) (fun C hC cx hk => ?_)
  replace cx : Cx C (tyE E) cX2_clear RX2 1 1 23 := cx
  unfold m_X2_clear at h
  refine v_aload_n 1 0 cx dX2_clear_0 rfl rfl rfl ?_
  refine v_get 4 12 0 cx dX2_clear_1 iX2 (wXo_12 E st) rfl (Nat.le_of_ble_eq_true rfl) rfl kf_X2_9 rfl rfl ?_
  refine v_iconst 5 cx dX2_clear_4 ic_0 rfl ?_
  refine v_callSV 8 cx dX2_clear_5 km_X2_15 ca_J7_fill_53178 (c_J7_fill_53178_12_0 C.2.1 E st 0 ) rfl (by decide) rfl (Nat.le_of_ble_eq_true rfl) rfl h (fun _ s1 h => ?_)
  exact hk _ _ _ _ (Option.some.inj h) dX2_clear_8
def V_X2_change_L34_8 (C : Cm) (E : Ev) (x3 : Int32) (x4 : Int32) (x5 : Int32) (x7 : Int32) (x8 : Int32) (s : (Int32 × Int32 × Sg)) : Prop := Vat C (wX E) 11 34 [(0, .ref (oX E 8)), (3, .int x3), (4, .int x4), (5, .int x5), (6, .int s.1), (7, .int x7), (8, .int x8), (9, .int s.2.1)] [] s.2.2
def K_X2_change_L34_8 (C : Cm) (E : Ev) (x3 : Int32) (x4 : Int32) (x5 : Int32) (x7 : Int32) (x8 : Int32) : (Int32 × Sg) → Prop := (fun r : (Int32 × Sg) => Vat C (wX E) 11 95 [(6, .int r.1)] [] r.2)
set_option maxHeartbeats 4000000 in
set_option maxRecDepth 100000 in
theorem b_X2_change_L34_8 {C : Cm} {E : Ev} (cx : Cx C (tyE E) cX2_change RX2 11 1 13) (x3 : Int32) (x4 : Int32) (x5 : Int32) (x7 : Int32) (x8 : Int32) : ∀ (s : (Int32 × Int32 × Sg)) (out : (Int32 × Int32 × Sg) ⊕ (Int32 × Sg)), m_X2_change_L34 8 x3 x4 x5 x7 x8 s.1 s.2.1 s.2.2 = some out → Sum.elim (V_X2_change_L34_8 C E x3 x4 x5 x7 x8) (K_X2_change_L34_8 C E x3 x4 x5 x7 x8) out → V_X2_change_L34_8 C E x3 x4 x5 x7 x8 s := by
  intro s out h hk
  obtain ⟨x6, x9, st⟩ := s
  show Vat C (wX E) 11 34 [(0, .ref (oX E 8)), (3, .int x3), (4, .int x4), (5, .int x5), (6, .int x6), (7, .int x7), (8, .int x8), (9, .int x9)] [] st
  replace h : m_X2_change_L34 8 x3 x4 x5 x7 x8 x6 x9 st = some out := h
  unfold m_X2_change_L34 at h
  refine v_iload 36 7 cx dX2_change_34 rfl rfl ?_
  refine v_bipush 38 cx dX2_change_36 bp_8 rfl ?_
  refine v_icmp_ge 95 41 cx dX2_change_38 (by decide) rfl h (fun h => ?_) (fun h => ?_)
  · cases h
    have hk : Vat C (wX E) 11 95 [(6, .int x6)] [] st := hk
    exact v_lsub (lv' := [(6, .int x6)]) [4] rfl (hk)
  · refine v_iload 43 5 cx dX2_change_41 rfl rfl ?_
    refine v_iload 45 7 cx dX2_change_43 rfl rfl ?_
    refine v_ishr 46 cx dX2_change_45 rfl ?_
    refine v_iconst 47 cx dX2_change_46 ic_1 rfl ?_
    refine v_iand 48 cx dX2_change_47 rfl ?_
    refine v_if_eq 89 51 cx dX2_change_48 (by decide) rfl h (fun h => ?_) (fun h => ?_)
    · refine v_iinc 92 7 (fun a7 => [(9, .int a7), (0, .ref (oX E 8)), (3, .int x3), (4, .int x4), (5, .int x5), (6, .int x6), (7, .int x7), (8, .int x8)]) cx dX2_change_89 rfl ic_1 (by decide) (fun _ => rfl) rfl h (fun a7 h => ?_)
      refine v_goto 34 cx dX2_change_92 (by decide) ?_
      cases h
      have hk : Vat C (wX E) 11 34 [(0, .ref (oX E 8)), (3, .int x3), (4, .int x4), (5, .int x5), (6, .int x6), (7, .int x7), (8, .int x8), (9, .int a7)] [] st := hk
      exact v_lsub (lv' := [(0, .ref (oX E 8)), (3, .int x3), (4, .int x4), (5, .int x5), (6, .int x6), (7, .int x7), (8, .int x8), (9, .int a7)]) [1, 2, 3, 4, 5, 6, 7, 0] rfl (hk)
    · refine v_iload 53 6 cx dX2_change_51 rfl rfl ?_
      refine v_iload_n 54 1 cx dX2_change_53 rfl rfl rfl ?_
      refine v_iload 56 7 cx dX2_change_54 rfl rfl ?_
      refine v_iadd 57 cx dX2_change_56 rfl ?_
      refine v_iload 59 2 cx dX2_change_57 rfl rfl ?_
      refine v_irem 60 cx dX2_change_59 rfl h (fun h => ?_)
      refine v_iadd 61 cx dX2_change_60 rfl ?_
      refine v_istore 63 (fun a8 => [(10, .int a8), (0, .ref (oX E 8)), (3, .int x3), (4, .int x4), (5, .int x5), (6, .int x6), (7, .int x7), (8, .int x8), (9, .int x9)]) cx dX2_change_61 (by decide) (fun _ => rfl) rfl h (fun a8 h => ?_)
      refine v_aload_n 64 1 cx dX2_change_63 rfl rfl rfl ?_
      refine v_get 67 8 0 cx dX2_change_64 iX2 (wXo_8 E st) rfl (Nat.le_of_ble_eq_true rfl) rfl kf_X2_9 rfl rfl ?_
      refine v_iload 69 0 cx dX2_change_67 rfl rfl ?_
      refine v_dup2 70 cx dX2_change_69 rfl rfl rfl ?_
      refine v_iald 71 47 0 cx dX2_change_70 (wXa_8_0 E st) rfl rfl h (fun v9 h => ?_)
      refine v_iload 73 4 cx dX2_change_71 rfl rfl ?_
      refine v_iadd 74 cx dX2_change_73 rfl ?_
      refine v_iast 75 47 0 cx dX2_change_74 (wXa_8_0 E st) rfl (wXt_8_0 E st) rfl h (fun s10 h => ?_)
      refine v_iload 77 5 cx dX2_change_75 rfl rfl ?_
      refine v_aload_n 78 1 cx dX2_change_77 rfl rfl rfl ?_
      refine v_get 81 8 0 cx dX2_change_78 iX2 (wXo_8 E s10) rfl (Nat.le_of_ble_eq_true rfl) rfl kf_X2_9 rfl rfl ?_
      refine v_iload 83 0 cx dX2_change_81 rfl rfl ?_
      refine v_iald 84 47 0 cx dX2_change_83 (wXa_8_0 E s10) rfl rfl h (fun v11 h => ?_)
      refine v_mmax 87 cx dX2_change_84 km_X2_29 kmax_s kmax_i kmax_c (by decide) (Nat.le_of_ble_eq_true rfl) rfl ?_
      refine v_istore 89 (fun a12 => [(6, .int a12), (10, .int a8), (0, .ref (oX E 8)), (3, .int x3), (4, .int x4), (5, .int x5), (7, .int x7), (8, .int x8), (9, .int x9)]) cx dX2_change_87 (by decide) (fun _ => rfl) rfl h (fun a12 h => ?_)
      refine v_iinc 92 8 (fun a13 => [(9, .int a13), (6, .int a12), (10, .int a8), (0, .ref (oX E 8)), (3, .int x3), (4, .int x4), (5, .int x5), (7, .int x7), (8, .int x8)]) cx dX2_change_89 rfl ic_1 (by decide) (fun _ => rfl) rfl h (fun a13 h => ?_)
      refine v_goto 34 cx dX2_change_92 (by decide) ?_
      cases h
      have hk : Vat C (wX E) 11 34 [(0, .ref (oX E 8)), (3, .int x3), (4, .int x4), (5, .int x5), (6, .int a12), (7, .int x7), (8, .int x8), (9, .int a13)] [] s10 := hk
      exact v_lsub (lv' := [(0, .ref (oX E 8)), (3, .int x3), (4, .int x4), (5, .int x5), (6, .int a12), (7, .int x7), (8, .int x8), (9, .int a13)]) [3, 4, 5, 6, 1, 7, 8, 0] rfl (hk)
set_option maxHeartbeats 4000000 in
set_option maxRecDepth 100000 in
theorem c_X2_change_8 (l : Launch) (E : Ev) (st : Sg) (p2 : Int32) (p3 : Int32) (p4 : Int32) (p5 : Int32) : ∀ q, m_X2_change 8 p2 p3 p4 p5 st = some q → CtI l (wX E) (tyE E) yX2_change cX2_change 11 (some .int) 1 13 [.ref (oX E 8), .ref (oX E 1), .int p2, .int p3, .int p4, .int p5] st q := by
  intro q h
  refine ctI_of (lv0 := [(0, .ref (oX E 8)), (1, .ref (oX E 1)), (2, .int p2), (3, .int p3), (4, .int p4), (5, .int p5)]) (by decide) rfl (Nat.le_of_ble_eq_true rfl) (fun C hC cx hk => ?_)
  replace cx : Cx C (tyE E) cX2_change RX2 11 1 13 := cx
  unfold m_X2_change at h
  refine v_iconst 1 cx dX2_change_0 ic_0 rfl ?_
  refine v_istore 3 (fun a1 => [(6, .int a1), (0, .ref (oX E 8)), (1, .ref (oX E 1)), (2, .int p2), (3, .int p3), (4, .int p4), (5, .int p5)]) cx dX2_change_1 (by decide) (fun _ => rfl) rfl h (fun a1 h => ?_)
  refine v_iload 5 5 cx dX2_change_3 rfl rfl ?_
  refine v_iconst 6 cx dX2_change_5 ic_1 rfl ?_
  refine v_icmp_ge 12 9 cx dX2_change_6 (by decide) rfl h (fun h => ?_) (fun h => ?_)
  · refine v_aload_n 13 2 cx dX2_change_12 rfl rfl rfl ?_
    refine v_get 16 1 4 cx dX2_change_13 iX0 (wXo_1 E st) rfl (Nat.le_of_ble_eq_true rfl) rfl kf_X2_21 rfl rfl ?_
    refine v_iload_n 17 3 cx dX2_change_16 rfl rfl rfl ?_
    refine v_iald 18 21 0 cx dX2_change_17 (wXa_1_4 E st) rfl rfl h (fun v2 h => ?_)
    refine v_istore 20 (fun a3 => [(7, .int a3), (6, .int a1), (0, .ref (oX E 8)), (1, .ref (oX E 1)), (2, .int p2), (3, .int p3), (4, .int p4), (5, .int p5)]) cx dX2_change_18 (by decide) (fun _ => rfl) rfl h (fun a3 h => ?_)
    refine v_aload_n 21 3 cx dX2_change_20 rfl rfl rfl ?_
    refine v_get 24 1 3 cx dX2_change_21 iX0 (wXo_1 E st) rfl (Nat.le_of_ble_eq_true rfl) rfl kf_X2_26 rfl rfl ?_
    refine v_iload_n 25 4 cx dX2_change_24 rfl rfl rfl ?_
    refine v_iald 26 20 0 cx dX2_change_25 (wXa_1_3 E st) rfl rfl h (fun v4 h => ?_)
    refine v_bipush 28 cx dX2_change_26 bp_60 rfl ?_
    refine v_imul 29 cx dX2_change_28 rfl ?_
    refine v_istore 31 (fun a5 => [(8, .int a5), (7, .int a3), (6, .int a1), (0, .ref (oX E 8)), (1, .ref (oX E 1)), (2, .int p2), (3, .int p3), (4, .int p4), (5, .int p5)]) cx dX2_change_29 (by decide) (fun _ => rfl) rfl h (fun a5 h => ?_)
    refine v_iconst 32 cx dX2_change_31 ic_0 rfl ?_
    refine v_istore 34 (fun a6 => [(9, .int a6), (8, .int a5), (7, .int a3), (6, .int a1), (0, .ref (oX E 8)), (1, .ref (oX E 1)), (2, .int p2), (3, .int p3), (4, .int p4), (5, .int p5)]) cx dX2_change_32 (by decide) (fun _ => rfl) rfl h (fun a6 h => ?_)
    refine v_lsub (lv' := [(0, .ref (oX E 8)), (3, .int p3), (4, .int p4), (5, .int p5), (6, .int a1), (7, .int a3), (8, .int a5), (9, .int a6)]) [4, 7, 8, 9, 3, 2, 1, 0] rfl ?_
    refine v_loop (s0 := (a1, a6, st)) (V_X2_change_L34_8 C E p3 p4 p5 a3 a5) (K_X2_change_L34_8 C E p3 p4 p5 a3 a5) h (b_X2_change_L34_8 cx p3 p4 p5 a3 a5) (fun r14 h => ?_)
    show Vat C (wX E) 11 95 [(6, .int r14.1)] [] r14.2
    refine v_iload 97 0 cx dX2_change_95 rfl rfl ?_
    exact hk _ _ _ _ (Option.some.inj h) dX2_change_97
  · refine v_iload 11 0 cx dX2_change_9 rfl rfl ?_
    exact hk _ _ _ _ (Option.some.inj h) dX2_change_11
def V_X2_change_L34_10 (C : Cm) (E : Ev) (x3 : Int32) (x4 : Int32) (x5 : Int32) (x7 : Int32) (x8 : Int32) (s : (Int32 × Int32 × Sg)) : Prop := Vat C (wX E) 11 34 [(0, .ref (oX E 10)), (3, .int x3), (4, .int x4), (5, .int x5), (6, .int s.1), (7, .int x7), (8, .int x8), (9, .int s.2.1)] [] s.2.2
def K_X2_change_L34_10 (C : Cm) (E : Ev) (x3 : Int32) (x4 : Int32) (x5 : Int32) (x7 : Int32) (x8 : Int32) : (Int32 × Sg) → Prop := (fun r : (Int32 × Sg) => Vat C (wX E) 11 95 [(6, .int r.1)] [] r.2)
set_option maxHeartbeats 4000000 in
set_option maxRecDepth 100000 in
theorem b_X2_change_L34_10 {C : Cm} {E : Ev} (cx : Cx C (tyE E) cX2_change RX2 11 1 13) (x3 : Int32) (x4 : Int32) (x5 : Int32) (x7 : Int32) (x8 : Int32) : ∀ (s : (Int32 × Int32 × Sg)) (out : (Int32 × Int32 × Sg) ⊕ (Int32 × Sg)), m_X2_change_L34 10 x3 x4 x5 x7 x8 s.1 s.2.1 s.2.2 = some out → Sum.elim (V_X2_change_L34_10 C E x3 x4 x5 x7 x8) (K_X2_change_L34_10 C E x3 x4 x5 x7 x8) out → V_X2_change_L34_10 C E x3 x4 x5 x7 x8 s := by
  intro s out h hk
  obtain ⟨x6, x9, st⟩ := s
  show Vat C (wX E) 11 34 [(0, .ref (oX E 10)), (3, .int x3), (4, .int x4), (5, .int x5), (6, .int x6), (7, .int x7), (8, .int x8), (9, .int x9)] [] st
  replace h : m_X2_change_L34 10 x3 x4 x5 x7 x8 x6 x9 st = some out := h
  unfold m_X2_change_L34 at h
  refine v_iload 36 7 cx dX2_change_34 rfl rfl ?_
  refine v_bipush 38 cx dX2_change_36 bp_8 rfl ?_
  refine v_icmp_ge 95 41 cx dX2_change_38 (by decide) rfl h (fun h => ?_) (fun h => ?_)
  · cases h
    have hk : Vat C (wX E) 11 95 [(6, .int x6)] [] st := hk
    exact v_lsub (lv' := [(6, .int x6)]) [4] rfl (hk)
  · refine v_iload 43 5 cx dX2_change_41 rfl rfl ?_
    refine v_iload 45 7 cx dX2_change_43 rfl rfl ?_
    refine v_ishr 46 cx dX2_change_45 rfl ?_
    refine v_iconst 47 cx dX2_change_46 ic_1 rfl ?_
    refine v_iand 48 cx dX2_change_47 rfl ?_
    refine v_if_eq 89 51 cx dX2_change_48 (by decide) rfl h (fun h => ?_) (fun h => ?_)
    · refine v_iinc 92 7 (fun a7 => [(9, .int a7), (0, .ref (oX E 10)), (3, .int x3), (4, .int x4), (5, .int x5), (6, .int x6), (7, .int x7), (8, .int x8)]) cx dX2_change_89 rfl ic_1 (by decide) (fun _ => rfl) rfl h (fun a7 h => ?_)
      refine v_goto 34 cx dX2_change_92 (by decide) ?_
      cases h
      have hk : Vat C (wX E) 11 34 [(0, .ref (oX E 10)), (3, .int x3), (4, .int x4), (5, .int x5), (6, .int x6), (7, .int x7), (8, .int x8), (9, .int a7)] [] st := hk
      exact v_lsub (lv' := [(0, .ref (oX E 10)), (3, .int x3), (4, .int x4), (5, .int x5), (6, .int x6), (7, .int x7), (8, .int x8), (9, .int a7)]) [1, 2, 3, 4, 5, 6, 7, 0] rfl (hk)
    · refine v_iload 53 6 cx dX2_change_51 rfl rfl ?_
      refine v_iload_n 54 1 cx dX2_change_53 rfl rfl rfl ?_
      refine v_iload 56 7 cx dX2_change_54 rfl rfl ?_
      refine v_iadd 57 cx dX2_change_56 rfl ?_
      refine v_iload 59 2 cx dX2_change_57 rfl rfl ?_
      refine v_irem 60 cx dX2_change_59 rfl h (fun h => ?_)
      refine v_iadd 61 cx dX2_change_60 rfl ?_
      refine v_istore 63 (fun a8 => [(10, .int a8), (0, .ref (oX E 10)), (3, .int x3), (4, .int x4), (5, .int x5), (6, .int x6), (7, .int x7), (8, .int x8), (9, .int x9)]) cx dX2_change_61 (by decide) (fun _ => rfl) rfl h (fun a8 h => ?_)
      refine v_aload_n 64 1 cx dX2_change_63 rfl rfl rfl ?_
      refine v_get 67 10 0 cx dX2_change_64 iX2 (wXo_10 E st) rfl (Nat.le_of_ble_eq_true rfl) rfl kf_X2_9 rfl rfl ?_
      refine v_iload 69 0 cx dX2_change_67 rfl rfl ?_
      refine v_dup2 70 cx dX2_change_69 rfl rfl rfl ?_
      refine v_iald 71 56 0 cx dX2_change_70 (wXa_10_0 E st) rfl rfl h (fun v9 h => ?_)
      refine v_iload 73 4 cx dX2_change_71 rfl rfl ?_
      refine v_iadd 74 cx dX2_change_73 rfl ?_
      refine v_iast 75 56 0 cx dX2_change_74 (wXa_10_0 E st) rfl (wXt_10_0 E st) rfl h (fun s10 h => ?_)
      refine v_iload 77 5 cx dX2_change_75 rfl rfl ?_
      refine v_aload_n 78 1 cx dX2_change_77 rfl rfl rfl ?_
      refine v_get 81 10 0 cx dX2_change_78 iX2 (wXo_10 E s10) rfl (Nat.le_of_ble_eq_true rfl) rfl kf_X2_9 rfl rfl ?_
      refine v_iload 83 0 cx dX2_change_81 rfl rfl ?_
      refine v_iald 84 56 0 cx dX2_change_83 (wXa_10_0 E s10) rfl rfl h (fun v11 h => ?_)
      refine v_mmax 87 cx dX2_change_84 km_X2_29 kmax_s kmax_i kmax_c (by decide) (Nat.le_of_ble_eq_true rfl) rfl ?_
      refine v_istore 89 (fun a12 => [(6, .int a12), (10, .int a8), (0, .ref (oX E 10)), (3, .int x3), (4, .int x4), (5, .int x5), (7, .int x7), (8, .int x8), (9, .int x9)]) cx dX2_change_87 (by decide) (fun _ => rfl) rfl h (fun a12 h => ?_)
      refine v_iinc 92 8 (fun a13 => [(9, .int a13), (6, .int a12), (10, .int a8), (0, .ref (oX E 10)), (3, .int x3), (4, .int x4), (5, .int x5), (7, .int x7), (8, .int x8)]) cx dX2_change_89 rfl ic_1 (by decide) (fun _ => rfl) rfl h (fun a13 h => ?_)
      refine v_goto 34 cx dX2_change_92 (by decide) ?_
      cases h
      have hk : Vat C (wX E) 11 34 [(0, .ref (oX E 10)), (3, .int x3), (4, .int x4), (5, .int x5), (6, .int a12), (7, .int x7), (8, .int x8), (9, .int a13)] [] s10 := hk
      exact v_lsub (lv' := [(0, .ref (oX E 10)), (3, .int x3), (4, .int x4), (5, .int x5), (6, .int a12), (7, .int x7), (8, .int x8), (9, .int a13)]) [3, 4, 5, 6, 1, 7, 8, 0] rfl (hk)
set_option maxHeartbeats 4000000 in
set_option maxRecDepth 100000 in
theorem c_X2_change_10 (l : Launch) (E : Ev) (st : Sg) (p2 : Int32) (p3 : Int32) (p4 : Int32) (p5 : Int32) : ∀ q, m_X2_change 10 p2 p3 p4 p5 st = some q → CtI l (wX E) (tyE E) yX2_change cX2_change 11 (some .int) 1 13 [.ref (oX E 10), .ref (oX E 1), .int p2, .int p3, .int p4, .int p5] st q := by
  intro q h
  refine ctI_of (lv0 := [(0, .ref (oX E 10)), (1, .ref (oX E 1)), (2, .int p2), (3, .int p3), (4, .int p4), (5, .int p5)]) (by decide) rfl (Nat.le_of_ble_eq_true rfl) (fun C hC cx hk => ?_)
  replace cx : Cx C (tyE E) cX2_change RX2 11 1 13 := cx
  unfold m_X2_change at h
  refine v_iconst 1 cx dX2_change_0 ic_0 rfl ?_
  refine v_istore 3 (fun a1 => [(6, .int a1), (0, .ref (oX E 10)), (1, .ref (oX E 1)), (2, .int p2), (3, .int p3), (4, .int p4), (5, .int p5)]) cx dX2_change_1 (by decide) (fun _ => rfl) rfl h (fun a1 h => ?_)
  refine v_iload 5 5 cx dX2_change_3 rfl rfl ?_
  refine v_iconst 6 cx dX2_change_5 ic_1 rfl ?_
  refine v_icmp_ge 12 9 cx dX2_change_6 (by decide) rfl h (fun h => ?_) (fun h => ?_)
  · refine v_aload_n 13 2 cx dX2_change_12 rfl rfl rfl ?_
    refine v_get 16 1 4 cx dX2_change_13 iX0 (wXo_1 E st) rfl (Nat.le_of_ble_eq_true rfl) rfl kf_X2_21 rfl rfl ?_
    refine v_iload_n 17 3 cx dX2_change_16 rfl rfl rfl ?_
    refine v_iald 18 21 0 cx dX2_change_17 (wXa_1_4 E st) rfl rfl h (fun v2 h => ?_)
    refine v_istore 20 (fun a3 => [(7, .int a3), (6, .int a1), (0, .ref (oX E 10)), (1, .ref (oX E 1)), (2, .int p2), (3, .int p3), (4, .int p4), (5, .int p5)]) cx dX2_change_18 (by decide) (fun _ => rfl) rfl h (fun a3 h => ?_)
    refine v_aload_n 21 3 cx dX2_change_20 rfl rfl rfl ?_
    refine v_get 24 1 3 cx dX2_change_21 iX0 (wXo_1 E st) rfl (Nat.le_of_ble_eq_true rfl) rfl kf_X2_26 rfl rfl ?_
    refine v_iload_n 25 4 cx dX2_change_24 rfl rfl rfl ?_
    refine v_iald 26 20 0 cx dX2_change_25 (wXa_1_3 E st) rfl rfl h (fun v4 h => ?_)
    refine v_bipush 28 cx dX2_change_26 bp_60 rfl ?_
    refine v_imul 29 cx dX2_change_28 rfl ?_
    refine v_istore 31 (fun a5 => [(8, .int a5), (7, .int a3), (6, .int a1), (0, .ref (oX E 10)), (1, .ref (oX E 1)), (2, .int p2), (3, .int p3), (4, .int p4), (5, .int p5)]) cx dX2_change_29 (by decide) (fun _ => rfl) rfl h (fun a5 h => ?_)
    refine v_iconst 32 cx dX2_change_31 ic_0 rfl ?_
    refine v_istore 34 (fun a6 => [(9, .int a6), (8, .int a5), (7, .int a3), (6, .int a1), (0, .ref (oX E 10)), (1, .ref (oX E 1)), (2, .int p2), (3, .int p3), (4, .int p4), (5, .int p5)]) cx dX2_change_32 (by decide) (fun _ => rfl) rfl h (fun a6 h => ?_)
    refine v_lsub (lv' := [(0, .ref (oX E 10)), (3, .int p3), (4, .int p4), (5, .int p5), (6, .int a1), (7, .int a3), (8, .int a5), (9, .int a6)]) [4, 7, 8, 9, 3, 2, 1, 0] rfl ?_
    refine v_loop (s0 := (a1, a6, st)) (V_X2_change_L34_10 C E p3 p4 p5 a3 a5) (K_X2_change_L34_10 C E p3 p4 p5 a3 a5) h (b_X2_change_L34_10 cx p3 p4 p5 a3 a5) (fun r14 h => ?_)
    show Vat C (wX E) 11 95 [(6, .int r14.1)] [] r14.2
    refine v_iload 97 0 cx dX2_change_95 rfl rfl ?_
    exact hk _ _ _ _ (Option.some.inj h) dX2_change_97
  · refine v_iload 11 0 cx dX2_change_9 rfl rfl ?_
    exact hk _ _ _ _ (Option.some.inj h) dX2_change_11
def V_X2_change_L34_12 (C : Cm) (E : Ev) (x3 : Int32) (x4 : Int32) (x5 : Int32) (x7 : Int32) (x8 : Int32) (s : (Int32 × Int32 × Sg)) : Prop := Vat C (wX E) 11 34 [(0, .ref (oX E 12)), (3, .int x3), (4, .int x4), (5, .int x5), (6, .int s.1), (7, .int x7), (8, .int x8), (9, .int s.2.1)] [] s.2.2
def K_X2_change_L34_12 (C : Cm) (E : Ev) (x3 : Int32) (x4 : Int32) (x5 : Int32) (x7 : Int32) (x8 : Int32) : (Int32 × Sg) → Prop := (fun r : (Int32 × Sg) => Vat C (wX E) 11 95 [(6, .int r.1)] [] r.2)
set_option maxHeartbeats 4000000 in
set_option maxRecDepth 100000 in
theorem b_X2_change_L34_12 {C : Cm} {E : Ev} (cx : Cx C (tyE E) cX2_change RX2 11 1 13) (x3 : Int32) (x4 : Int32) (x5 : Int32) (x7 : Int32) (x8 : Int32) : ∀ (s : (Int32 × Int32 × Sg)) (out : (Int32 × Int32 × Sg) ⊕ (Int32 × Sg)), m_X2_change_L34 12 x3 x4 x5 x7 x8 s.1 s.2.1 s.2.2 = some out → Sum.elim (V_X2_change_L34_12 C E x3 x4 x5 x7 x8) (K_X2_change_L34_12 C E x3 x4 x5 x7 x8) out → V_X2_change_L34_12 C E x3 x4 x5 x7 x8 s := by
  intro s out h hk
  obtain ⟨x6, x9, st⟩ := s
  show Vat C (wX E) 11 34 [(0, .ref (oX E 12)), (3, .int x3), (4, .int x4), (5, .int x5), (6, .int x6), (7, .int x7), (8, .int x8), (9, .int x9)] [] st
  replace h : m_X2_change_L34 12 x3 x4 x5 x7 x8 x6 x9 st = some out := h
  unfold m_X2_change_L34 at h
  refine v_iload 36 7 cx dX2_change_34 rfl rfl ?_
  refine v_bipush 38 cx dX2_change_36 bp_8 rfl ?_
  refine v_icmp_ge 95 41 cx dX2_change_38 (by decide) rfl h (fun h => ?_) (fun h => ?_)
  · cases h
    have hk : Vat C (wX E) 11 95 [(6, .int x6)] [] st := hk
    exact v_lsub (lv' := [(6, .int x6)]) [4] rfl (hk)
  · refine v_iload 43 5 cx dX2_change_41 rfl rfl ?_
    refine v_iload 45 7 cx dX2_change_43 rfl rfl ?_
    refine v_ishr 46 cx dX2_change_45 rfl ?_
    refine v_iconst 47 cx dX2_change_46 ic_1 rfl ?_
    refine v_iand 48 cx dX2_change_47 rfl ?_
    refine v_if_eq 89 51 cx dX2_change_48 (by decide) rfl h (fun h => ?_) (fun h => ?_)
    · refine v_iinc 92 7 (fun a7 => [(9, .int a7), (0, .ref (oX E 12)), (3, .int x3), (4, .int x4), (5, .int x5), (6, .int x6), (7, .int x7), (8, .int x8)]) cx dX2_change_89 rfl ic_1 (by decide) (fun _ => rfl) rfl h (fun a7 h => ?_)
      refine v_goto 34 cx dX2_change_92 (by decide) ?_
      cases h
      have hk : Vat C (wX E) 11 34 [(0, .ref (oX E 12)), (3, .int x3), (4, .int x4), (5, .int x5), (6, .int x6), (7, .int x7), (8, .int x8), (9, .int a7)] [] st := hk
      exact v_lsub (lv' := [(0, .ref (oX E 12)), (3, .int x3), (4, .int x4), (5, .int x5), (6, .int x6), (7, .int x7), (8, .int x8), (9, .int a7)]) [1, 2, 3, 4, 5, 6, 7, 0] rfl (hk)
    · refine v_iload 53 6 cx dX2_change_51 rfl rfl ?_
      refine v_iload_n 54 1 cx dX2_change_53 rfl rfl rfl ?_
      refine v_iload 56 7 cx dX2_change_54 rfl rfl ?_
      refine v_iadd 57 cx dX2_change_56 rfl ?_
      refine v_iload 59 2 cx dX2_change_57 rfl rfl ?_
      refine v_irem 60 cx dX2_change_59 rfl h (fun h => ?_)
      refine v_iadd 61 cx dX2_change_60 rfl ?_
      refine v_istore 63 (fun a8 => [(10, .int a8), (0, .ref (oX E 12)), (3, .int x3), (4, .int x4), (5, .int x5), (6, .int x6), (7, .int x7), (8, .int x8), (9, .int x9)]) cx dX2_change_61 (by decide) (fun _ => rfl) rfl h (fun a8 h => ?_)
      refine v_aload_n 64 1 cx dX2_change_63 rfl rfl rfl ?_
      refine v_get 67 12 0 cx dX2_change_64 iX2 (wXo_12 E st) rfl (Nat.le_of_ble_eq_true rfl) rfl kf_X2_9 rfl rfl ?_
      refine v_iload 69 0 cx dX2_change_67 rfl rfl ?_
      refine v_dup2 70 cx dX2_change_69 rfl rfl rfl ?_
      refine v_iald 71 58 0 cx dX2_change_70 (wXa_12_0 E st) rfl rfl h (fun v9 h => ?_)
      refine v_iload 73 4 cx dX2_change_71 rfl rfl ?_
      refine v_iadd 74 cx dX2_change_73 rfl ?_
      refine v_iast 75 58 0 cx dX2_change_74 (wXa_12_0 E st) rfl (wXt_12_0 E st) rfl h (fun s10 h => ?_)
      refine v_iload 77 5 cx dX2_change_75 rfl rfl ?_
      refine v_aload_n 78 1 cx dX2_change_77 rfl rfl rfl ?_
      refine v_get 81 12 0 cx dX2_change_78 iX2 (wXo_12 E s10) rfl (Nat.le_of_ble_eq_true rfl) rfl kf_X2_9 rfl rfl ?_
      refine v_iload 83 0 cx dX2_change_81 rfl rfl ?_
      refine v_iald 84 58 0 cx dX2_change_83 (wXa_12_0 E s10) rfl rfl h (fun v11 h => ?_)
      refine v_mmax 87 cx dX2_change_84 km_X2_29 kmax_s kmax_i kmax_c (by decide) (Nat.le_of_ble_eq_true rfl) rfl ?_
      refine v_istore 89 (fun a12 => [(6, .int a12), (10, .int a8), (0, .ref (oX E 12)), (3, .int x3), (4, .int x4), (5, .int x5), (7, .int x7), (8, .int x8), (9, .int x9)]) cx dX2_change_87 (by decide) (fun _ => rfl) rfl h (fun a12 h => ?_)
      refine v_iinc 92 8 (fun a13 => [(9, .int a13), (6, .int a12), (10, .int a8), (0, .ref (oX E 12)), (3, .int x3), (4, .int x4), (5, .int x5), (7, .int x7), (8, .int x8)]) cx dX2_change_89 rfl ic_1 (by decide) (fun _ => rfl) rfl h (fun a13 h => ?_)
      refine v_goto 34 cx dX2_change_92 (by decide) ?_
      cases h
      have hk : Vat C (wX E) 11 34 [(0, .ref (oX E 12)), (3, .int x3), (4, .int x4), (5, .int x5), (6, .int a12), (7, .int x7), (8, .int x8), (9, .int a13)] [] s10 := hk
      exact v_lsub (lv' := [(0, .ref (oX E 12)), (3, .int x3), (4, .int x4), (5, .int x5), (6, .int a12), (7, .int x7), (8, .int x8), (9, .int a13)]) [3, 4, 5, 6, 1, 7, 8, 0] rfl (hk)
set_option maxHeartbeats 4000000 in
set_option maxRecDepth 100000 in
theorem c_X2_change_12 (l : Launch) (E : Ev) (st : Sg) (p2 : Int32) (p3 : Int32) (p4 : Int32) (p5 : Int32) : ∀ q, m_X2_change 12 p2 p3 p4 p5 st = some q → CtI l (wX E) (tyE E) yX2_change cX2_change 11 (some .int) 1 13 [.ref (oX E 12), .ref (oX E 1), .int p2, .int p3, .int p4, .int p5] st q := by
  intro q h
  refine ctI_of (lv0 := [(0, .ref (oX E 12)), (1, .ref (oX E 1)), (2, .int p2), (3, .int p3), (4, .int p4), (5, .int p5)]) (by decide) rfl (Nat.le_of_ble_eq_true rfl) (fun C hC cx hk => ?_)
  replace cx : Cx C (tyE E) cX2_change RX2 11 1 13 := cx
  unfold m_X2_change at h
  refine v_iconst 1 cx dX2_change_0 ic_0 rfl ?_
  refine v_istore 3 (fun a1 => [(6, .int a1), (0, .ref (oX E 12)), (1, .ref (oX E 1)), (2, .int p2), (3, .int p3), (4, .int p4), (5, .int p5)]) cx dX2_change_1 (by decide) (fun _ => rfl) rfl h (fun a1 h => ?_)
  refine v_iload 5 5 cx dX2_change_3 rfl rfl ?_
  refine v_iconst 6 cx dX2_change_5 ic_1 rfl ?_
  refine v_icmp_ge 12 9 cx dX2_change_6 (by decide) rfl h (fun h => ?_) (fun h => ?_)
  · refine v_aload_n 13 2 cx dX2_change_12 rfl rfl rfl ?_
    refine v_get 16 1 4 cx dX2_change_13 iX0 (wXo_1 E st) rfl (Nat.le_of_ble_eq_true rfl) rfl kf_X2_21 rfl rfl ?_
    refine v_iload_n 17 3 cx dX2_change_16 rfl rfl rfl ?_
    refine v_iald 18 21 0 cx dX2_change_17 (wXa_1_4 E st) rfl rfl h (fun v2 h => ?_)
    refine v_istore 20 (fun a3 => [(7, .int a3), (6, .int a1), (0, .ref (oX E 12)), (1, .ref (oX E 1)), (2, .int p2), (3, .int p3), (4, .int p4), (5, .int p5)]) cx dX2_change_18 (by decide) (fun _ => rfl) rfl h (fun a3 h => ?_)
    refine v_aload_n 21 3 cx dX2_change_20 rfl rfl rfl ?_
    refine v_get 24 1 3 cx dX2_change_21 iX0 (wXo_1 E st) rfl (Nat.le_of_ble_eq_true rfl) rfl kf_X2_26 rfl rfl ?_
    refine v_iload_n 25 4 cx dX2_change_24 rfl rfl rfl ?_
    refine v_iald 26 20 0 cx dX2_change_25 (wXa_1_3 E st) rfl rfl h (fun v4 h => ?_)
    refine v_bipush 28 cx dX2_change_26 bp_60 rfl ?_
    refine v_imul 29 cx dX2_change_28 rfl ?_
    refine v_istore 31 (fun a5 => [(8, .int a5), (7, .int a3), (6, .int a1), (0, .ref (oX E 12)), (1, .ref (oX E 1)), (2, .int p2), (3, .int p3), (4, .int p4), (5, .int p5)]) cx dX2_change_29 (by decide) (fun _ => rfl) rfl h (fun a5 h => ?_)
    refine v_iconst 32 cx dX2_change_31 ic_0 rfl ?_
    refine v_istore 34 (fun a6 => [(9, .int a6), (8, .int a5), (7, .int a3), (6, .int a1), (0, .ref (oX E 12)), (1, .ref (oX E 1)), (2, .int p2), (3, .int p3), (4, .int p4), (5, .int p5)]) cx dX2_change_32 (by decide) (fun _ => rfl) rfl h (fun a6 h => ?_)
    refine v_lsub (lv' := [(0, .ref (oX E 12)), (3, .int p3), (4, .int p4), (5, .int p5), (6, .int a1), (7, .int a3), (8, .int a5), (9, .int a6)]) [4, 7, 8, 9, 3, 2, 1, 0] rfl ?_
    refine v_loop (s0 := (a1, a6, st)) (V_X2_change_L34_12 C E p3 p4 p5 a3 a5) (K_X2_change_L34_12 C E p3 p4 p5 a3 a5) h (b_X2_change_L34_12 cx p3 p4 p5 a3 a5) (fun r14 h => ?_)
    show Vat C (wX E) 11 95 [(6, .int r14.1)] [] r14.2
    refine v_iload 97 0 cx dX2_change_95 rfl rfl ?_
    exact hk _ _ _ _ (Option.some.inj h) dX2_change_97
  · refine v_iload 11 0 cx dX2_change_9 rfl rfl ?_
    exact hk _ _ _ _ (Option.some.inj h) dX2_change_11
def V_X2_firstCrowded_L3_12 (C : Cm) (E : Ev) (x1 : Int32) (x2 : Int32) (x3 : Int32) (s : (Int32 × Sg)) : Prop := Vat C (wX E) 5 3 [(0, .ref (oX E 12)), (1, .int x1), (2, .int x2), (3, .int x3), (4, .int s.1)] [] s.2
def K_X2_firstCrowded_L3_12 (C : Cm) (E : Ev) (x1 : Int32) (x2 : Int32) (x3 : Int32) : ((Sg) ⊕ (Int32 × Sg)) → Prop := (Sum.elim (fun r : (Sg) => Vat C (wX E) 5 34 [] [] r) (fun r : (Int32 × Sg) => Vat C (wX E) 5 25 [(4, .int r.1)] [] r.2))
set_option maxHeartbeats 4000000 in
set_option maxRecDepth 100000 in
theorem b_X2_firstCrowded_L3_12 {C : Cm} {E : Ev} (cx : Cx C (tyE E) cX2_firstCrowded RX2 5 0 0) (x1 : Int32) (x2 : Int32) (x3 : Int32) : ∀ (s : (Int32 × Sg)) (out : (Int32 × Sg) ⊕ ((Sg) ⊕ (Int32 × Sg))), m_X2_firstCrowded_L3 12 x1 x2 x3 s.1 s.2 = some out → Sum.elim (V_X2_firstCrowded_L3_12 C E x1 x2 x3) (K_X2_firstCrowded_L3_12 C E x1 x2 x3) out → V_X2_firstCrowded_L3_12 C E x1 x2 x3 s := by
  intro s out h hk
  obtain ⟨x4, st⟩ := s
  show Vat C (wX E) 5 3 [(0, .ref (oX E 12)), (1, .int x1), (2, .int x2), (3, .int x3), (4, .int x4)] [] st
  replace h : m_X2_firstCrowded_L3 12 x1 x2 x3 x4 st = some out := h
  unfold m_X2_firstCrowded_L3 at h
  refine v_iload 5 4 cx dX2_firstCrowded_3 rfl rfl ?_
  refine v_iload_n 6 3 cx dX2_firstCrowded_5 rfl rfl rfl ?_
  refine v_icmp_ge 34 9 cx dX2_firstCrowded_6 (by decide) rfl h (fun h => ?_) (fun h => ?_)
  · cases h
    have hk : Vat C (wX E) 5 34 [] [] st := hk
    exact v_lsub (lv' := []) [] rfl (hk)
  · refine v_aload_n 10 0 cx dX2_firstCrowded_9 rfl rfl rfl ?_
    refine v_get 13 12 0 cx dX2_firstCrowded_10 iX2 (wXo_12 E st) rfl (Nat.le_of_ble_eq_true rfl) rfl kf_X2_9 rfl rfl ?_
    refine v_iload_n 14 1 cx dX2_firstCrowded_13 rfl rfl rfl ?_
    refine v_bipush 16 cx dX2_firstCrowded_14 bp_60 rfl ?_
    refine v_imul 17 cx dX2_firstCrowded_16 rfl ?_
    refine v_iload 19 4 cx dX2_firstCrowded_17 rfl rfl ?_
    refine v_iadd 20 cx dX2_firstCrowded_19 rfl ?_
    refine v_iald 21 58 0 cx dX2_firstCrowded_20 (wXa_12_0 E st) rfl rfl h (fun v2 h => ?_)
    refine v_iload_n 22 2 cx dX2_firstCrowded_21 rfl rfl rfl ?_
    refine v_icmp_le 28 25 cx dX2_firstCrowded_22 (by decide) rfl h (fun h => ?_) (fun h => ?_)
    · refine v_iinc 31 4 (fun a3 => [(4, .int a3), (0, .ref (oX E 12)), (1, .int x1), (2, .int x2), (3, .int x3)]) cx dX2_firstCrowded_28 rfl ic_1 (by decide) (fun _ => rfl) rfl h (fun a3 h => ?_)
      refine v_goto 3 cx dX2_firstCrowded_31 (by decide) ?_
      cases h
      have hk : Vat C (wX E) 5 3 [(0, .ref (oX E 12)), (1, .int x1), (2, .int x2), (3, .int x3), (4, .int a3)] [] st := hk
      exact v_lsub (lv' := [(0, .ref (oX E 12)), (1, .int x1), (2, .int x2), (3, .int x3), (4, .int a3)]) [1, 2, 3, 4, 0] rfl (hk)
    · cases h
      have hk : Vat C (wX E) 5 25 [(4, .int x4)] [] st := hk
      exact v_lsub (lv' := [(4, .int x4)]) [4] rfl (hk)
set_option maxHeartbeats 4000000 in
set_option maxRecDepth 100000 in
theorem c_X2_firstCrowded_12 (l : Launch) (E : Ev) (st : Sg) (p1 : Int32) (p2 : Int32) (p3 : Int32) : ∀ q, m_X2_firstCrowded 12 p1 p2 p3 st = some q → CtI l (wX E) (tyE E) yX2_firstCrowded cX2_firstCrowded 5 (some .int) 0 0 [.ref (oX E 12), .int p1, .int p2, .int p3] st q := by
  intro q h
  refine ctI_of (lv0 := [(0, .ref (oX E 12)), (1, .int p1), (2, .int p2), (3, .int p3)]) (by decide) rfl (Nat.le_of_ble_eq_true rfl) (fun C hC cx hk => ?_)
  replace cx : Cx C (tyE E) cX2_firstCrowded RX2 5 0 0 := cx
  unfold m_X2_firstCrowded at h
  refine v_iconst 1 cx dX2_firstCrowded_0 ic_0 rfl ?_
  refine v_istore 3 (fun a1 => [(4, .int a1), (0, .ref (oX E 12)), (1, .int p1), (2, .int p2), (3, .int p3)]) cx dX2_firstCrowded_1 (by decide) (fun _ => rfl) rfl h (fun a1 h => ?_)
  refine v_lsub (lv' := [(0, .ref (oX E 12)), (1, .int p1), (2, .int p2), (3, .int p3), (4, .int a1)]) [1, 2, 3, 4, 0] rfl ?_
  refine v_loop (s0 := (a1, st)) (V_X2_firstCrowded_L3_12 C E p1 p2 p3) (K_X2_firstCrowded_L3_12 C E p1 p2 p3) h (b_X2_firstCrowded_L3_12 cx p1 p2 p3) (fun r4 h => ?_)
  rcases r4 with r4 | r4
  · rw [Sum.elim_inl] at h
    show Vat C (wX E) 5 34 [] [] r4
    refine v_iconst 35 cx dX2_firstCrowded_34 ic_m1 rfl ?_
    exact hk _ _ _ _ (Option.some.inj h) dX2_firstCrowded_35
  · rw [Sum.elim_inr] at h
    show Vat C (wX E) 5 25 [(4, .int r4.1)] [] r4.2
    refine v_iload 27 0 cx dX2_firstCrowded_25 rfl rfl ?_
    exact hk _ _ _ _ (Option.some.inj h) dX2_firstCrowded_27
def V_X3_findCrowd_L9 (C : Cm) (E : Ev) (s : (Int32 × Sg)) : Prop := Vat C (wX E) 5 9 [(0, .ref (oX E 11)), (1, .ref (oX E 1)), (2, .ref (oX E 9)), (3, .int s.1)] [] s.2
def K_X3_findCrowd_L9 (C : Cm) (E : Ev) : (Sg) → Prop := (fun r : (Sg) => Vat C (wX E) 5 44 [(0, .ref (oX E 11)), (1, .ref (oX E 1)), (2, .ref (oX E 9))] [] r)
set_option maxHeartbeats 4000000 in
set_option maxRecDepth 100000 in
theorem b_X3_findCrowd_L9 {C : Cm} {E : Ev} (cx : Cx C (tyE E) cX3_findCrowd RX3 5 2 43) : ∀ (s : (Int32 × Sg)) (out : (Int32 × Sg) ⊕ (Sg)), m_X3_findCrowd_L9 s.1 s.2 = some out → Sum.elim (V_X3_findCrowd_L9 C E) (K_X3_findCrowd_L9 C E) out → V_X3_findCrowd_L9 C E s := by
  intro s out h hk
  obtain ⟨x3, st⟩ := s
  show Vat C (wX E) 5 9 [(0, .ref (oX E 11)), (1, .ref (oX E 1)), (2, .ref (oX E 9)), (3, .int x3)] [] st
  replace h : m_X3_findCrowd_L9 x3 st = some out := h
  unfold m_X3_findCrowd_L9 at h
  refine v_iload_n 10 3 cx dX3_findCrowd_9 rfl rfl rfl ?_
  refine v_aload_n 11 1 cx dX3_findCrowd_10 rfl rfl rfl ?_
  refine v_getI 14 1 0 cx dX3_findCrowd_11 iX0 (wXo_1 E st) rfl (Nat.le_of_ble_eq_true rfl) rfl kf_X3_69 rfl rfl h (fun v3 h => ?_)
  refine v_icmp_ge 44 17 cx dX3_findCrowd_14 (by decide) rfl h (fun h => ?_) (fun h => ?_)
  · cases h
    have hk : Vat C (wX E) 5 44 [(0, .ref (oX E 11)), (1, .ref (oX E 1)), (2, .ref (oX E 9))] [] st := hk
    exact v_lsub (lv' := [(0, .ref (oX E 11)), (1, .ref (oX E 1)), (2, .ref (oX E 9))]) [0, 1, 2] rfl (hk)
  · refine v_aload_n 18 0 cx dX3_findCrowd_17 rfl rfl rfl ?_
    refine v_get 21 11 1 cx dX3_findCrowd_18 iX3 (wXo_11 E st) rfl (Nat.le_of_ble_eq_true rfl) rfl kf_X3_18 rfl rfl ?_
    refine v_aload_n 22 1 cx dX3_findCrowd_21 rfl rfl rfl ?_
    refine v_iload_n 23 3 cx dX3_findCrowd_22 rfl rfl rfl ?_
    refine v_aload_n 24 2 cx dX3_findCrowd_23 rfl rfl rfl ?_
    refine v_get 27 9 6 cx dX3_findCrowd_24 iX4 (wXo_9 E st) rfl (Nat.le_of_ble_eq_true rfl) rfl kf_X3_54 rfl rfl ?_
    refine v_iload_n 28 3 cx dX3_findCrowd_27 rfl rfl rfl ?_
    refine v_iald 29 51 0 cx dX3_findCrowd_28 (wXa_9_6 E st) rfl rfl h (fun v4 h => ?_)
    refine v_aload_n 30 2 cx dX3_findCrowd_29 rfl rfl rfl ?_
    refine v_getI 33 9 1 cx dX3_findCrowd_30 iX4 (wXo_9 E st) rfl (Nat.le_of_ble_eq_true rfl) rfl kf_X3_59 rfl rfl h (fun v5 h => ?_)
    refine v_iconst 34 cx dX3_findCrowd_33 ic_1 rfl ?_
    refine v_callVI 37 12 cx dX3_findCrowd_34 km_X3_74 ca_X2_change (wXo_12 E st) rfl (c_X2_change_12 C.2.1 E st x3 v4 v5 1 ) rfl (by decide) rfl (Nat.le_of_ble_eq_true rfl) rfl h (fun v7 s6 h => ?_)
    refine v_pop 38 cx dX3_findCrowd_37 rfl rfl ?_
    refine v_iinc 41 3 (fun a8 => [(3, .int a8), (0, .ref (oX E 11)), (1, .ref (oX E 1)), (2, .ref (oX E 9))]) cx dX3_findCrowd_38 rfl ic_1 (by decide) (fun _ => rfl) rfl h (fun a8 h => ?_)
    refine v_goto 9 cx dX3_findCrowd_41 (by decide) ?_
    cases h
    have hk : Vat C (wX E) 5 9 [(0, .ref (oX E 11)), (1, .ref (oX E 1)), (2, .ref (oX E 9)), (3, .int a8)] [] s6 := hk
    exact v_lsub (lv' := [(0, .ref (oX E 11)), (1, .ref (oX E 1)), (2, .ref (oX E 9)), (3, .int a8)]) [1, 2, 3, 0] rfl (hk)
def V_X3_findCrowd_L46 (C : Cm) (E : Ev) (s : (Int32 × Sg)) : Prop := Vat C (wX E) 5 46 [(0, .ref (oX E 11)), (1, .ref (oX E 1)), (2, .ref (oX E 9)), (3, .int s.1)] [] s.2
def K_X3_findCrowd_L46 (C : Cm) (E : Ev) : ((Sg) ⊕ (Int32 × Int32 × Sg)) → Prop := (Sum.elim (fun r : (Sg) => Vat C (wX E) 5 101 [] [] r) (fun r : (Int32 × Int32 × Sg) => Vat C (wX E) 5 78 [(0, .ref (oX E 11)), (3, .int r.1), (4, .int r.2.1)] [] r.2.2))
set_option maxHeartbeats 4000000 in
set_option maxRecDepth 100000 in
theorem b_X3_findCrowd_L46 {C : Cm} {E : Ev} (cx : Cx C (tyE E) cX3_findCrowd RX3 5 2 43) : ∀ (s : (Int32 × Sg)) (out : (Int32 × Sg) ⊕ ((Sg) ⊕ (Int32 × Int32 × Sg))), m_X3_findCrowd_L46 s.1 s.2 = some out → Sum.elim (V_X3_findCrowd_L46 C E) (K_X3_findCrowd_L46 C E) out → V_X3_findCrowd_L46 C E s := by
  intro s out h hk
  obtain ⟨x3, st⟩ := s
  show Vat C (wX E) 5 46 [(0, .ref (oX E 11)), (1, .ref (oX E 1)), (2, .ref (oX E 9)), (3, .int x3)] [] st
  replace h : m_X3_findCrowd_L46 x3 st = some out := h
  unfold m_X3_findCrowd_L46 at h
  refine v_iload_n 47 3 cx dX3_findCrowd_46 rfl rfl rfl ?_
  refine v_bipush 49 cx dX3_findCrowd_47 bp_6 rfl ?_
  refine v_icmp_ge 101 52 cx dX3_findCrowd_49 (by decide) rfl h (fun h => ?_) (fun h => ?_)
  · cases h
    have hk : Vat C (wX E) 5 101 [] [] st := hk
    exact v_lsub (lv' := []) [] rfl (hk)
  · refine v_aload_n 53 0 cx dX3_findCrowd_52 rfl rfl rfl ?_
    refine v_get 56 11 1 cx dX3_findCrowd_53 iX3 (wXo_11 E st) rfl (Nat.le_of_ble_eq_true rfl) rfl kf_X3_18 rfl rfl ?_
    refine v_iload_n 57 3 cx dX3_findCrowd_56 rfl rfl rfl ?_
    refine v_aload_n 58 1 cx dX3_findCrowd_57 rfl rfl rfl ?_
    refine v_get 61 1 10 cx dX3_findCrowd_58 iX0 (wXo_1 E st) rfl (Nat.le_of_ble_eq_true rfl) rfl kf_X3_78 rfl rfl ?_
    refine v_iload_n 62 3 cx dX3_findCrowd_61 rfl rfl rfl ?_
    refine v_iald 63 27 0 cx dX3_findCrowd_62 (wXa_1_10 E st) rfl rfl h (fun v11 h => ?_)
    refine v_aload_n 64 2 cx dX3_findCrowd_63 rfl rfl rfl ?_
    refine v_getI 67 9 1 cx dX3_findCrowd_64 iX4 (wXo_9 E st) rfl (Nat.le_of_ble_eq_true rfl) rfl kf_X3_59 rfl rfl h (fun v12 h => ?_)
    refine v_callVI 70 12 cx dX3_findCrowd_67 km_X3_81 ca_X2_firstCrowded (wXo_12 E st) rfl (c_X2_firstCrowded_12 C.2.1 E st x3 v11 v12 ) rfl (by decide) rfl (Nat.le_of_ble_eq_true rfl) rfl h (fun v14 s13 h => ?_)
    refine v_istore 72 (fun a15 => [(4, .int a15), (0, .ref (oX E 11)), (1, .ref (oX E 1)), (2, .ref (oX E 9)), (3, .int x3)]) cx dX3_findCrowd_70 (by decide) (fun _ => rfl) rfl h (fun a15 h => ?_)
    refine v_iload 74 0 cx dX3_findCrowd_72 rfl rfl ?_
    refine v_iconst 75 cx dX3_findCrowd_74 ic_m1 rfl ?_
    refine v_icmp_eq 95 78 cx dX3_findCrowd_75 (by decide) rfl h (fun h => ?_) (fun h => ?_)
    · refine v_iinc 98 4 (fun a16 => [(3, .int a16), (4, .int a15), (0, .ref (oX E 11)), (1, .ref (oX E 1)), (2, .ref (oX E 9))]) cx dX3_findCrowd_95 rfl ic_1 (by decide) (fun _ => rfl) rfl h (fun a16 h => ?_)
      refine v_goto 46 cx dX3_findCrowd_98 (by decide) ?_
      cases h
      have hk : Vat C (wX E) 5 46 [(0, .ref (oX E 11)), (1, .ref (oX E 1)), (2, .ref (oX E 9)), (3, .int a16)] [] s13 := hk
      exact v_lsub (lv' := [(0, .ref (oX E 11)), (1, .ref (oX E 1)), (2, .ref (oX E 9)), (3, .int a16)]) [2, 3, 4, 0] rfl (hk)
    · cases h
      have hk : Vat C (wX E) 5 78 [(0, .ref (oX E 11)), (3, .int x3), (4, .int a15)] [] s13 := hk
      exact v_lsub (lv' := [(0, .ref (oX E 11)), (3, .int x3), (4, .int a15)]) [1, 4, 0] rfl (hk)
set_option maxHeartbeats 4000000 in
set_option maxRecDepth 100000 in
theorem c_X3_findCrowd (l : Launch) (E : Ev) (st : Sg) : ∀ q, m_X3_findCrowd st = some q → CtI l (wX E) (tyE E) yX3_findCrowd cX3_findCrowd 5 (some .boolean) 2 43 [.ref (oX E 11), .ref (oX E 1), .ref (oX E 9)] st q := by
  intro q h
  refine ctZ_of (lv0 := [(0, .ref (oX E 11)), (1, .ref (oX E 1)), (2, .ref (oX E 9))]) (by decide) rfl (Nat.le_of_ble_eq_true rfl) (fun C hC cx hk => ?_)
  replace cx : Cx C (tyE E) cX3_findCrowd RX3 5 2 43 := cx
  unfold m_X3_findCrowd at h
  refine v_aload_n 1 0 cx dX3_findCrowd_0 rfl rfl rfl ?_
  refine v_get 4 11 1 cx dX3_findCrowd_1 iX3 (wXo_11 E st) rfl (Nat.le_of_ble_eq_true rfl) rfl kf_X3_18 rfl rfl ?_
  refine v_callVV 7 12 cx dX3_findCrowd_4 km_X3_66 ca_X2_clear (wXo_12 E st) rfl (c_X2_clear_12 C.2.1 E st ) rfl (by decide) rfl (Nat.le_of_ble_eq_true rfl) rfl h (fun _ s1 h => ?_)
  refine v_iconst 8 cx dX3_findCrowd_7 ic_0 rfl ?_
  refine v_istore_n 9 (fun a2 => [(3, .int a2), (0, .ref (oX E 11)), (1, .ref (oX E 1)), (2, .ref (oX E 9))]) cx dX3_findCrowd_8 rfl (by decide) (fun _ => rfl) rfl h (fun a2 h => ?_)
  refine v_lsub (lv' := [(0, .ref (oX E 11)), (1, .ref (oX E 1)), (2, .ref (oX E 9)), (3, .int a2)]) [1, 2, 3, 0] rfl ?_
  refine v_loop (s0 := (a2, s1)) (V_X3_findCrowd_L9 C E) (K_X3_findCrowd_L9 C E) h (b_X3_findCrowd_L9 cx) (fun r9 h => ?_)
  show Vat C (wX E) 5 44 [(0, .ref (oX E 11)), (1, .ref (oX E 1)), (2, .ref (oX E 9))] [] r9
  refine v_iconst 45 cx dX3_findCrowd_44 ic_0 rfl ?_
  refine v_istore_n 46 (fun a10 => [(3, .int a10), (0, .ref (oX E 11)), (1, .ref (oX E 1)), (2, .ref (oX E 9))]) cx dX3_findCrowd_45 rfl (by decide) (fun _ => rfl) rfl h (fun a10 h => ?_)
  refine v_lsub (lv' := [(0, .ref (oX E 11)), (1, .ref (oX E 1)), (2, .ref (oX E 9)), (3, .int a10)]) [1, 2, 3, 0] rfl ?_
  refine v_loop (s0 := (a10, r9)) (V_X3_findCrowd_L46 C E) (K_X3_findCrowd_L46 C E) h (b_X3_findCrowd_L46 cx) (fun r17 h => ?_)
  rcases r17 with r17 | r17
  · rw [Sum.elim_inl] at h
    show Vat C (wX E) 5 101 [] [] r17
    refine v_iconst 102 cx dX3_findCrowd_101 ic_0 rfl ?_
    exact hk _ _ _ _ (Option.some.inj h) (Or.inl rfl) dX3_findCrowd_102
  · rw [Sum.elim_inr] at h
    show Vat C (wX E) 5 78 [(0, .ref (oX E 11)), (3, .int r17.1), (4, .int r17.2.1)] [] r17.2.2
    refine v_aload_n 79 0 cx dX3_findCrowd_78 rfl rfl rfl ?_
    refine v_get 82 11 0 cx dX3_findCrowd_79 iX3 (wXo_11 E r17.2.2) rfl (Nat.le_of_ble_eq_true rfl) rfl kf_X3_11 rfl rfl ?_
    refine v_iconst 83 cx dX3_findCrowd_82 ic_4 rfl ?_
    refine v_iload_n 84 1 cx dX3_findCrowd_83 rfl rfl rfl ?_
    refine v_iast 85 57 0 cx dX3_findCrowd_84 (wXa_11_0 E r17.2.2) rfl (wXt_11_0 E r17.2.2) rfl h (fun s18 h => ?_)
    refine v_aload_n 86 0 cx dX3_findCrowd_85 rfl rfl rfl ?_
    refine v_get 89 11 0 cx dX3_findCrowd_86 iX3 (wXo_11 E s18) rfl (Nat.le_of_ble_eq_true rfl) rfl kf_X3_11 rfl rfl ?_
    refine v_iconst 90 cx dX3_findCrowd_89 ic_5 rfl ?_
    refine v_iload 92 2 cx dX3_findCrowd_90 rfl rfl ?_
    refine v_iast 93 57 0 cx dX3_findCrowd_92 (wXa_11_0 E s18) rfl (wXt_11_0 E s18) rfl h (fun s19 h => ?_)
    refine v_iconst 94 cx dX3_findCrowd_93 ic_1 rfl ?_
    exact hk _ _ _ _ (Option.some.inj h) (Or.inr rfl) dX3_findCrowd_94
set_option maxHeartbeats 4000000 in
set_option maxRecDepth 100000 in
theorem c_X3_look (l : Launch) (E : Ev) (st : Sg) : ∀ q, m_X3_look st = some q → CtI l (wX E) (tyE E) yX3_look cX3_look 5 (some .int) 3 67 [.ref (oX E 11), .ref (oX E 1), .ref (oX E 4), .ref (oX E 9)] st q := by
  intro q h
  refine ctI_of (lv0 := [(0, .ref (oX E 11)), (1, .ref (oX E 1)), (2, .ref (oX E 4)), (3, .ref (oX E 9))]) (by decide) rfl (Nat.le_of_ble_eq_true rfl) (fun C hC cx hk => ?_)
  replace cx : Cx C (tyE E) cX3_look RX3 5 3 67 := cx
  unfold m_X3_look at h
  refine v_aload_n 1 0 cx dX3_look_0 rfl rfl rfl ?_
  refine v_get 4 11 0 cx dX3_look_1 iX3 (wXo_11 E st) rfl (Nat.le_of_ble_eq_true rfl) rfl kf_X3_11 rfl rfl ?_
  refine v_iconst 5 cx dX3_look_4 ic_m1 rfl ?_
  refine v_callSV 8 cx dX3_look_5 km_X3_22 ca_J7_fill_53178 (c_J7_fill_53178_11_0 C.2.1 E st (-1) ) rfl (by decide) rfl (Nat.le_of_ble_eq_true rfl) rfl h (fun _ s1 h => ?_)
  refine v_aload_n 9 0 cx dX3_look_8 rfl rfl rfl ?_
  refine v_aload_n 10 2 cx dX3_look_9 rfl rfl rfl ?_
  refine v_aload_n 11 3 cx dX3_look_10 rfl rfl rfl ?_
  refine v_callVI 14 11 cx dX3_look_11 km_X3_28 ca_X3_firstBroken (wXo_11 E s1) rfl (c_X3_firstBroken C.2.1 E s1 ) rfl (by decide) rfl (Nat.le_of_ble_eq_true rfl) rfl h (fun v3 s2 h => ?_)
  refine v_istore 16 (fun a4 => [(4, .int a4), (0, .ref (oX E 11)), (1, .ref (oX E 1)), (2, .ref (oX E 4)), (3, .ref (oX E 9))]) cx dX3_look_14 (by decide) (fun _ => rfl) rfl h (fun a4 h => ?_)
  refine v_iload 18 0 cx dX3_look_16 rfl rfl ?_
  refine v_iconst 19 cx dX3_look_18 ic_m1 rfl ?_
  refine v_icmp_eq 76 22 cx dX3_look_19 (by decide) rfl h (fun h => ?_) (fun h => ?_)
  · refine v_aload_n 77 1 cx dX3_look_76 rfl rfl rfl ?_
    refine v_aload_n 78 2 cx dX3_look_77 rfl rfl rfl ?_
    refine v_aload_n 79 4 cx dX3_look_78 rfl rfl rfl ?_
    refine v_callVI 82 11 cx dX3_look_79 km_X3_46 ca_X3_findCrowd (wXo_11 E s2) rfl (c_X3_findCrowd C.2.1 E s2 ) rfl (by decide) rfl (Nat.le_of_ble_eq_true rfl) rfl h (fun v6 s5 h => ?_)
    refine v_if_eq 89 85 cx dX3_look_82 (by decide) rfl h (fun h => ?_) (fun h => ?_)
    · refine v_iconst 90 cx dX3_look_89 ic_0 rfl ?_
      exact hk _ _ _ _ (Option.some.inj h) dX3_look_90
    · refine v_iconst 86 cx dX3_look_85 ic_2 rfl ?_
      refine v_goto 90 cx dX3_look_86 (by decide) ?_
      exact hk _ _ _ _ (Option.some.inj h) dX3_look_90
  · refine v_aload_n 23 1 cx dX3_look_22 rfl rfl rfl ?_
    refine v_get 26 11 0 cx dX3_look_23 iX3 (wXo_11 E s2) rfl (Nat.le_of_ble_eq_true rfl) rfl kf_X3_11 rfl rfl ?_
    refine v_iconst 27 cx dX3_look_26 ic_0 rfl ?_
    refine v_aload_n 28 3 cx dX3_look_27 rfl rfl rfl ?_
    refine v_get 31 4 1 cx dX3_look_28 iX1 (wXo_4 E s2) rfl (Nat.le_of_ble_eq_true rfl) rfl kf_X3_32 rfl rfl ?_
    refine v_iload 33 0 cx dX3_look_31 rfl rfl ?_
    refine v_iald 34 32 0 cx dX3_look_33 (wXa_4_1 E s2) rfl rfl h (fun v7 h => ?_)
    refine v_iast 35 57 0 cx dX3_look_34 (wXa_11_0 E s2) rfl (wXt_11_0 E s2) rfl h (fun s8 h => ?_)
    refine v_aload_n 36 1 cx dX3_look_35 rfl rfl rfl ?_
    refine v_get 39 11 0 cx dX3_look_36 iX3 (wXo_11 E s8) rfl (Nat.le_of_ble_eq_true rfl) rfl kf_X3_11 rfl rfl ?_
    refine v_iconst 40 cx dX3_look_39 ic_1 rfl ?_
    refine v_aload_n 41 3 cx dX3_look_40 rfl rfl rfl ?_
    refine v_get 44 4 2 cx dX3_look_41 iX1 (wXo_4 E s8) rfl (Nat.le_of_ble_eq_true rfl) rfl kf_X3_37 rfl rfl ?_
    refine v_iload 46 0 cx dX3_look_44 rfl rfl ?_
    refine v_iald 47 33 0 cx dX3_look_46 (wXa_4_2 E s8) rfl rfl h (fun v9 h => ?_)
    refine v_iast 48 57 0 cx dX3_look_47 (wXa_11_0 E s8) rfl (wXt_11_0 E s8) rfl h (fun s10 h => ?_)
    refine v_aload_n 49 1 cx dX3_look_48 rfl rfl rfl ?_
    refine v_get 52 11 0 cx dX3_look_49 iX3 (wXo_11 E s10) rfl (Nat.le_of_ble_eq_true rfl) rfl kf_X3_11 rfl rfl ?_
    refine v_iconst 53 cx dX3_look_52 ic_2 rfl ?_
    refine v_aload_n 54 3 cx dX3_look_53 rfl rfl rfl ?_
    refine v_get 57 4 3 cx dX3_look_54 iX1 (wXo_4 E s10) rfl (Nat.le_of_ble_eq_true rfl) rfl kf_X3_40 rfl rfl ?_
    refine v_iload 59 0 cx dX3_look_57 rfl rfl ?_
    refine v_iald 60 34 0 cx dX3_look_59 (wXa_4_3 E s10) rfl rfl h (fun v11 h => ?_)
    refine v_iast 61 57 0 cx dX3_look_60 (wXa_11_0 E s10) rfl (wXt_11_0 E s10) rfl h (fun s12 h => ?_)
    refine v_aload_n 62 1 cx dX3_look_61 rfl rfl rfl ?_
    refine v_get 65 11 0 cx dX3_look_62 iX3 (wXo_11 E s12) rfl (Nat.le_of_ble_eq_true rfl) rfl kf_X3_11 rfl rfl ?_
    refine v_iconst 66 cx dX3_look_65 ic_3 rfl ?_
    refine v_aload_n 67 3 cx dX3_look_66 rfl rfl rfl ?_
    refine v_get 70 4 4 cx dX3_look_67 iX1 (wXo_4 E s12) rfl (Nat.le_of_ble_eq_true rfl) rfl kf_X3_43 rfl rfl ?_
    refine v_iload 72 0 cx dX3_look_70 rfl rfl ?_
    refine v_iald 73 35 0 cx dX3_look_72 (wXa_4_4 E s12) rfl rfl h (fun v13 h => ?_)
    refine v_iast 74 57 0 cx dX3_look_73 (wXa_11_0 E s12) rfl (wXt_11_0 E s12) rfl h (fun s14 h => ?_)
    refine v_iconst 75 cx dX3_look_74 ic_1 rfl ?_
    exact hk _ _ _ _ (Option.some.inj h) dX3_look_75
set_option maxHeartbeats 4000000 in
set_option maxRecDepth 100000 in
theorem c_X11_check (l : Launch) (E : Ev) (st : Sg) : ∀ q, m_X11_check st = some q → CtI l (wX E) (tyE E) yX11_check cX11_check 1 (some .int) 4 95 [.ref (oX E 0)] st q := by
  intro q h
  refine ctI_of (lv0 := [(0, .ref (oX E 0))]) (by decide) rfl (Nat.le_of_ble_eq_true rfl) (fun C hC cx hk => ?_)
  replace cx : Cx C (tyE E) cX11_check RX11 1 4 95 := cx
  unfold m_X11_check at h
  refine v_aload_n 1 0 cx dX11_check_0 rfl rfl rfl ?_
  refine v_get 4 0 5 cx dX11_check_1 iX11 (wXo_0 E st) rfl (Nat.le_of_ble_eq_true rfl) rfl kf_X11_49 rfl rfl ?_
  refine v_getI 7 9 0 cx dX11_check_4 iX4 (wXo_9 E st) rfl (Nat.le_of_ble_eq_true rfl) rfl kf_X11_241 rfl rfl h (fun v1 h => ?_)
  refine v_if_ne 17 10 cx dX11_check_7 (by decide) rfl h (fun h => ?_) (fun h => ?_)
  · refine v_aload_n 18 0 cx dX11_check_17 rfl rfl rfl ?_
    refine v_get 21 0 1 cx dX11_check_18 iX11 (wXo_0 E st) rfl (Nat.le_of_ble_eq_true rfl) rfl kf_X11_19 rfl rfl ?_
    refine v_aload_n 22 0 cx dX11_check_21 rfl rfl rfl ?_
    refine v_get 25 0 0 cx dX11_check_22 iX11 (wXo_0 E st) rfl (Nat.le_of_ble_eq_true rfl) rfl kf_X11_10 rfl rfl ?_
    refine v_callVV 28 3 cx dX11_check_25 km_X11_166 ca_X10_renew (wXo_3 E st) rfl (c_X10_renew C.2.1 E st ) rfl (by decide) rfl (Nat.le_of_ble_eq_true rfl) rfl h (fun _ s2 h => ?_)
    refine v_aload_n 29 0 cx dX11_check_28 rfl rfl rfl ?_
    refine v_get 32 0 6 cx dX11_check_29 iX11 (wXo_0 E s2) rfl (Nat.le_of_ble_eq_true rfl) rfl kf_X11_56 rfl rfl ?_
    refine v_aload_n 33 0 cx dX11_check_32 rfl rfl rfl ?_
    refine v_get 36 0 0 cx dX11_check_33 iX11 (wXo_0 E s2) rfl (Nat.le_of_ble_eq_true rfl) rfl kf_X11_10 rfl rfl ?_
    refine v_aload_n 37 0 cx dX11_check_36 rfl rfl rfl ?_
    refine v_get 40 0 1 cx dX11_check_37 iX11 (wXo_0 E s2) rfl (Nat.le_of_ble_eq_true rfl) rfl kf_X11_19 rfl rfl ?_
    refine v_get 43 3 0 cx dX11_check_40 iX10 (wXo_3 E s2) rfl (Nat.le_of_ble_eq_true rfl) rfl kf_X11_291 rfl rfl ?_
    refine v_aload_n 44 0 cx dX11_check_43 rfl rfl rfl ?_
    refine v_get 47 0 5 cx dX11_check_44 iX11 (wXo_0 E s2) rfl (Nat.le_of_ble_eq_true rfl) rfl kf_X11_49 rfl rfl ?_
    refine v_callVI 50 11 cx dX11_check_47 km_X11_294 ca_X3_look (wXo_11 E s2) rfl (c_X3_look C.2.1 E s2 ) rfl (by decide) rfl (Nat.le_of_ble_eq_true rfl) rfl h (fun v4 s3 h => ?_)
    exact hk _ _ _ _ (Option.some.inj h) dX11_check_50
  · refine v_aload_n 11 0 cx dX11_check_10 rfl rfl rfl ?_
    refine v_bipush 13 cx dX11_check_11 bp_m2 rfl ?_
    refine v_callVI 16 0 cx dX11_check_13 km_X11_88 ca_X11_refuse (wXo_0 E st) rfl (c_X11_refuse C.2.1 E st (-2) ) rfl (by decide) rfl (Nat.le_of_ble_eq_true rfl) rfl h (fun v6 s5 h => ?_)
    exact hk _ _ _ _ (Option.some.inj h) dX11_check_16
set_option maxHeartbeats 4000000 in
set_option maxRecDepth 100000 in
theorem j_X11_refusalOfRun_27 {C : Cm} {E : Ev} (cx : Cx C (tyE E) cX11_refusalOfRun RX11 3 2 41) (x1 : Int32) (st : Sg) (out : Int32 × Sg) (h : m_X11_refusalOfRun_27 x1 st = some out) (hk : ReI C (wX E) cX11_refusalOfRun 3 out) : Vat C (wX E) 3 27 [(1, .int x1)] [] st := by
  unfold m_X11_refusalOfRun_27 at h
  refine v_iload_n 28 0 cx dX11_refusalOfRun_27 rfl rfl rfl ?_
  refine v_if_ge 34 31 cx dX11_refusalOfRun_28 (by decide) rfl h (fun h => ?_) (fun h => ?_)
  · refine v_iload_n 35 0 cx dX11_refusalOfRun_34 rfl rfl rfl ?_
    refine v_sipush 38 cx dX11_refusalOfRun_35 sp_200 rfl ?_
    refine v_icmp_le 46 41 cx dX11_refusalOfRun_38 (by decide) rfl h (fun h => ?_) (fun h => ?_)
    · refine v_iconst 47 cx dX11_refusalOfRun_46 ic_0 rfl ?_
      exact hk _ _ _ _ (Option.some.inj h) dX11_refusalOfRun_47
    · refine v_bipush 43 cx dX11_refusalOfRun_41 bp_m9 rfl ?_
      refine v_goto 47 cx dX11_refusalOfRun_43 (by decide) ?_
      exact hk _ _ _ _ (Option.some.inj h) dX11_refusalOfRun_47
  · refine v_bipush 33 cx dX11_refusalOfRun_31 bp_m4 rfl ?_
    exact hk _ _ _ _ (Option.some.inj h) dX11_refusalOfRun_33
set_option maxHeartbeats 4000000 in
set_option maxRecDepth 100000 in
theorem c_X11_refusalOfRun (l : Launch) (E : Ev) (st : Sg) (p1 : Int32) (p2 : Int32) : ∀ q, m_X11_refusalOfRun p1 p2 st = some q → CtI l (wX E) (tyE E) yX11_refusalOfRun cX11_refusalOfRun 3 (some .int) 2 41 [.ref (oX E 0), .int p1, .int p2] st q := by
  intro q h
  refine ctI_of (lv0 := [(0, .ref (oX E 0)), (1, .int p1), (2, .int p2)]) (by decide) rfl (Nat.le_of_ble_eq_true rfl) (fun C hC cx hk => ?_)
  replace cx : Cx C (tyE E) cX11_refusalOfRun RX11 3 2 41 := cx
  unfold m_X11_refusalOfRun at h
  refine v_aload_n 1 0 cx dX11_refusalOfRun_0 rfl rfl rfl ?_
  refine v_get 4 0 0 cx dX11_refusalOfRun_1 iX11 (wXo_0 E st) rfl (Nat.le_of_ble_eq_true rfl) rfl kf_X11_10 rfl rfl ?_
  refine v_callVI 7 1 cx dX11_refusalOfRun_4 km_X11_232 ca_X0_isReady (wXo_1 E st) rfl (c_X0_isReady C.2.1 E st ) rfl (by decide) rfl (Nat.le_of_ble_eq_true rfl) rfl h (fun v2 s1 h => ?_)
  refine v_if_eq 24 10 cx dX11_refusalOfRun_7 (by decide) rfl h (fun h => ?_) (fun h => ?_)
  · refine v_bipush 26 cx dX11_refusalOfRun_24 bp_m2 rfl ?_
    exact hk _ _ _ _ (Option.some.inj h) dX11_refusalOfRun_26
  · refine v_iload_n 11 2 cx dX11_refusalOfRun_10 rfl rfl rfl ?_
    refine v_if_eq 27 14 cx dX11_refusalOfRun_11 (by decide) rfl h (fun h => ?_) (fun h => ?_)
    · exact v_lsub (lv' := [(1, .int p1)]) [1] rfl (j_X11_refusalOfRun_27 cx p1 s1 _ h hk)
    · refine v_aload_n 15 0 cx dX11_refusalOfRun_14 rfl rfl rfl ?_
      refine v_get 18 0 5 cx dX11_refusalOfRun_15 iX11 (wXo_0 E s1) rfl (Nat.le_of_ble_eq_true rfl) rfl kf_X11_49 rfl rfl ?_
      refine v_getI 21 9 0 cx dX11_refusalOfRun_18 iX4 (wXo_9 E s1) rfl (Nat.le_of_ble_eq_true rfl) rfl kf_X11_241 rfl rfl h (fun v3 h => ?_)
      refine v_if_ne 27 24 cx dX11_refusalOfRun_21 (by decide) rfl h (fun h => ?_) (fun h => ?_)
      · exact v_lsub (lv' := [(1, .int p1)]) [1] rfl (j_X11_refusalOfRun_27 cx p1 s1 _ h hk)
      · refine v_bipush 26 cx dX11_refusalOfRun_24 bp_m2 rfl ?_
        exact hk _ _ _ _ (Option.some.inj h) dX11_refusalOfRun_26
set_option maxHeartbeats 4000000 in
set_option maxRecDepth 100000 in
theorem c_X7_placeOf (l : Launch) (E : Ev) (st : Sg) (p0 : Int32) (p1 : Int32) : ∀ q, m_X7_placeOf p0 p1 st = some q → CtI l (wX E) (tyE E) yX7_placeOf cX7_placeOf 2 (some .int) 0 0 [.int p0, .int p1] st q := by
  intro q h
  refine ctI_of (lv0 := [(0, .int p0), (1, .int p1)]) (by decide) rfl (Nat.le_of_ble_eq_true rfl) (fun C hC cx hk => ?_)
  replace cx : Cx C (tyE E) cX7_placeOf RX7 2 0 0 := cx
  unfold m_X7_placeOf at h
  refine v_iconst 1 cx dX7_placeOf_0 ic_4 rfl ?_
  refine v_iload_n 2 1 cx dX7_placeOf_1 rfl rfl rfl ?_
  refine v_iadd 3 cx dX7_placeOf_2 rfl ?_
  refine v_bipush 5 cx dX7_placeOf_3 bp_16 rfl ?_
  refine v_imul 6 cx dX7_placeOf_5 rfl ?_
  refine v_iload_n 7 0 cx dX7_placeOf_6 rfl rfl rfl ?_
  refine v_iadd 8 cx dX7_placeOf_7 rfl ?_
  exact hk _ _ _ _ (Option.some.inj h) dX7_placeOf_8
set_option maxHeartbeats 4000000 in
set_option maxRecDepth 100000 in
theorem c_X5_endsAheadOf_14 (l : Launch) (E : Ev) (st : Sg) (p1 : Int32) (p2 : Int32) : ∀ q, m_X5_endsAheadOf 14 p1 p2 st = some q → CtI l (wX E) (tyE E) yX5_endsAheadOf cX5_endsAheadOf 3 (some .boolean) 0 0 [.ref (oX E 14), .int p1, .int p2] st q := by
  intro q h
  refine ctZ_of (lv0 := [(0, .ref (oX E 14)), (1, .int p1), (2, .int p2)]) (by decide) rfl (Nat.le_of_ble_eq_true rfl) (fun C hC cx hk => ?_)
  replace cx : Cx C (tyE E) cX5_endsAheadOf RX5 3 0 0 := cx
  unfold m_X5_endsAheadOf at h
  refine v_aload_n 1 0 cx dX5_endsAheadOf_0 rfl rfl rfl ?_
  refine v_getI 4 14 0 cx dX5_endsAheadOf_1 iX5 (wXo_14 E st) rfl (Nat.le_of_ble_eq_true rfl) rfl kf_X5_9 rfl rfl h (fun v1 h => ?_)
  refine v_if_eq 35 7 cx dX5_endsAheadOf_4 (by decide) rfl h (fun h => ?_) (fun h => ?_)
  · refine v_iconst 36 cx dX5_endsAheadOf_35 ic_0 rfl ?_
    exact hk _ _ _ _ (Option.some.inj h) (Or.inl rfl) dX5_endsAheadOf_36
  · refine v_iload_n 8 2 cx dX5_endsAheadOf_7 rfl rfl rfl ?_
    refine v_aload_n 9 0 cx dX5_endsAheadOf_8 rfl rfl rfl ?_
    refine v_getI 12 14 2 cx dX5_endsAheadOf_9 iX5 (wXo_14 E st) rfl (Nat.le_of_ble_eq_true rfl) rfl kf_X5_18 rfl rfl h (fun v2 h => ?_)
    refine v_icmp_gt 31 15 cx dX5_endsAheadOf_12 (by decide) rfl h (fun h => ?_) (fun h => ?_)
    · refine v_iconst 32 cx dX5_endsAheadOf_31 ic_1 rfl ?_
      refine v_goto 36 cx dX5_endsAheadOf_32 (by decide) ?_
      exact hk _ _ _ _ (Option.some.inj h) (Or.inr rfl) dX5_endsAheadOf_36
    · refine v_iload_n 16 2 cx dX5_endsAheadOf_15 rfl rfl rfl ?_
      refine v_aload_n 17 0 cx dX5_endsAheadOf_16 rfl rfl rfl ?_
      refine v_getI 20 14 2 cx dX5_endsAheadOf_17 iX5 (wXo_14 E st) rfl (Nat.le_of_ble_eq_true rfl) rfl kf_X5_18 rfl rfl h (fun v3 h => ?_)
      refine v_icmp_ne 35 23 cx dX5_endsAheadOf_20 (by decide) rfl h (fun h => ?_) (fun h => ?_)
      · refine v_iconst 36 cx dX5_endsAheadOf_35 ic_0 rfl ?_
        exact hk _ _ _ _ (Option.some.inj h) (Or.inl rfl) dX5_endsAheadOf_36
      · refine v_iload_n 24 1 cx dX5_endsAheadOf_23 rfl rfl rfl ?_
        refine v_aload_n 25 0 cx dX5_endsAheadOf_24 rfl rfl rfl ?_
        refine v_getI 28 14 1 cx dX5_endsAheadOf_25 iX5 (wXo_14 E st) rfl (Nat.le_of_ble_eq_true rfl) rfl kf_X5_15 rfl rfl h (fun v4 h => ?_)
        refine v_icmp_le 35 31 cx dX5_endsAheadOf_28 (by decide) rfl h (fun h => ?_) (fun h => ?_)
        · refine v_iconst 36 cx dX5_endsAheadOf_35 ic_0 rfl ?_
          exact hk _ _ _ _ (Option.some.inj h) (Or.inl rfl) dX5_endsAheadOf_36
        · refine v_iconst 32 cx dX5_endsAheadOf_31 ic_1 rfl ?_
          refine v_goto 36 cx dX5_endsAheadOf_32 (by decide) ?_
          exact hk _ _ _ _ (Option.some.inj h) (Or.inr rfl) dX5_endsAheadOf_36
set_option maxHeartbeats 4000000 in
set_option maxRecDepth 100000 in
theorem c_X5_endsAheadOf_15 (l : Launch) (E : Ev) (st : Sg) (p1 : Int32) (p2 : Int32) : ∀ q, m_X5_endsAheadOf 15 p1 p2 st = some q → CtI l (wX E) (tyE E) yX5_endsAheadOf cX5_endsAheadOf 3 (some .boolean) 0 0 [.ref (oX E 15), .int p1, .int p2] st q := by
  intro q h
  refine ctZ_of (lv0 := [(0, .ref (oX E 15)), (1, .int p1), (2, .int p2)]) (by decide) rfl (Nat.le_of_ble_eq_true rfl) (fun C hC cx hk => ?_)
  replace cx : Cx C (tyE E) cX5_endsAheadOf RX5 3 0 0 := cx
  unfold m_X5_endsAheadOf at h
  refine v_aload_n 1 0 cx dX5_endsAheadOf_0 rfl rfl rfl ?_
  refine v_getI 4 15 0 cx dX5_endsAheadOf_1 iX5 (wXo_15 E st) rfl (Nat.le_of_ble_eq_true rfl) rfl kf_X5_9 rfl rfl h (fun v1 h => ?_)
  refine v_if_eq 35 7 cx dX5_endsAheadOf_4 (by decide) rfl h (fun h => ?_) (fun h => ?_)
  · refine v_iconst 36 cx dX5_endsAheadOf_35 ic_0 rfl ?_
    exact hk _ _ _ _ (Option.some.inj h) (Or.inl rfl) dX5_endsAheadOf_36
  · refine v_iload_n 8 2 cx dX5_endsAheadOf_7 rfl rfl rfl ?_
    refine v_aload_n 9 0 cx dX5_endsAheadOf_8 rfl rfl rfl ?_
    refine v_getI 12 15 2 cx dX5_endsAheadOf_9 iX5 (wXo_15 E st) rfl (Nat.le_of_ble_eq_true rfl) rfl kf_X5_18 rfl rfl h (fun v2 h => ?_)
    refine v_icmp_gt 31 15 cx dX5_endsAheadOf_12 (by decide) rfl h (fun h => ?_) (fun h => ?_)
    · refine v_iconst 32 cx dX5_endsAheadOf_31 ic_1 rfl ?_
      refine v_goto 36 cx dX5_endsAheadOf_32 (by decide) ?_
      exact hk _ _ _ _ (Option.some.inj h) (Or.inr rfl) dX5_endsAheadOf_36
    · refine v_iload_n 16 2 cx dX5_endsAheadOf_15 rfl rfl rfl ?_
      refine v_aload_n 17 0 cx dX5_endsAheadOf_16 rfl rfl rfl ?_
      refine v_getI 20 15 2 cx dX5_endsAheadOf_17 iX5 (wXo_15 E st) rfl (Nat.le_of_ble_eq_true rfl) rfl kf_X5_18 rfl rfl h (fun v3 h => ?_)
      refine v_icmp_ne 35 23 cx dX5_endsAheadOf_20 (by decide) rfl h (fun h => ?_) (fun h => ?_)
      · refine v_iconst 36 cx dX5_endsAheadOf_35 ic_0 rfl ?_
        exact hk _ _ _ _ (Option.some.inj h) (Or.inl rfl) dX5_endsAheadOf_36
      · refine v_iload_n 24 1 cx dX5_endsAheadOf_23 rfl rfl rfl ?_
        refine v_aload_n 25 0 cx dX5_endsAheadOf_24 rfl rfl rfl ?_
        refine v_getI 28 15 1 cx dX5_endsAheadOf_25 iX5 (wXo_15 E st) rfl (Nat.le_of_ble_eq_true rfl) rfl kf_X5_15 rfl rfl h (fun v4 h => ?_)
        refine v_icmp_le 35 31 cx dX5_endsAheadOf_28 (by decide) rfl h (fun h => ?_) (fun h => ?_)
        · refine v_iconst 36 cx dX5_endsAheadOf_35 ic_0 rfl ?_
          exact hk _ _ _ _ (Option.some.inj h) (Or.inl rfl) dX5_endsAheadOf_36
        · refine v_iconst 32 cx dX5_endsAheadOf_31 ic_1 rfl ?_
          refine v_goto 36 cx dX5_endsAheadOf_32 (by decide) ?_
          exact hk _ _ _ _ (Option.some.inj h) (Or.inr rfl) dX5_endsAheadOf_36
set_option maxHeartbeats 4000000 in
set_option maxRecDepth 100000 in
theorem c_X5_endsAheadOf_16 (l : Launch) (E : Ev) (st : Sg) (p1 : Int32) (p2 : Int32) : ∀ q, m_X5_endsAheadOf 16 p1 p2 st = some q → CtI l (wX E) (tyE E) yX5_endsAheadOf cX5_endsAheadOf 3 (some .boolean) 0 0 [.ref (oX E 16), .int p1, .int p2] st q := by
  intro q h
  refine ctZ_of (lv0 := [(0, .ref (oX E 16)), (1, .int p1), (2, .int p2)]) (by decide) rfl (Nat.le_of_ble_eq_true rfl) (fun C hC cx hk => ?_)
  replace cx : Cx C (tyE E) cX5_endsAheadOf RX5 3 0 0 := cx
  unfold m_X5_endsAheadOf at h
  refine v_aload_n 1 0 cx dX5_endsAheadOf_0 rfl rfl rfl ?_
  refine v_getI 4 16 0 cx dX5_endsAheadOf_1 iX5 (wXo_16 E st) rfl (Nat.le_of_ble_eq_true rfl) rfl kf_X5_9 rfl rfl h (fun v1 h => ?_)
  refine v_if_eq 35 7 cx dX5_endsAheadOf_4 (by decide) rfl h (fun h => ?_) (fun h => ?_)
  · refine v_iconst 36 cx dX5_endsAheadOf_35 ic_0 rfl ?_
    exact hk _ _ _ _ (Option.some.inj h) (Or.inl rfl) dX5_endsAheadOf_36
  · refine v_iload_n 8 2 cx dX5_endsAheadOf_7 rfl rfl rfl ?_
    refine v_aload_n 9 0 cx dX5_endsAheadOf_8 rfl rfl rfl ?_
    refine v_getI 12 16 2 cx dX5_endsAheadOf_9 iX5 (wXo_16 E st) rfl (Nat.le_of_ble_eq_true rfl) rfl kf_X5_18 rfl rfl h (fun v2 h => ?_)
    refine v_icmp_gt 31 15 cx dX5_endsAheadOf_12 (by decide) rfl h (fun h => ?_) (fun h => ?_)
    · refine v_iconst 32 cx dX5_endsAheadOf_31 ic_1 rfl ?_
      refine v_goto 36 cx dX5_endsAheadOf_32 (by decide) ?_
      exact hk _ _ _ _ (Option.some.inj h) (Or.inr rfl) dX5_endsAheadOf_36
    · refine v_iload_n 16 2 cx dX5_endsAheadOf_15 rfl rfl rfl ?_
      refine v_aload_n 17 0 cx dX5_endsAheadOf_16 rfl rfl rfl ?_
      refine v_getI 20 16 2 cx dX5_endsAheadOf_17 iX5 (wXo_16 E st) rfl (Nat.le_of_ble_eq_true rfl) rfl kf_X5_18 rfl rfl h (fun v3 h => ?_)
      refine v_icmp_ne 35 23 cx dX5_endsAheadOf_20 (by decide) rfl h (fun h => ?_) (fun h => ?_)
      · refine v_iconst 36 cx dX5_endsAheadOf_35 ic_0 rfl ?_
        exact hk _ _ _ _ (Option.some.inj h) (Or.inl rfl) dX5_endsAheadOf_36
      · refine v_iload_n 24 1 cx dX5_endsAheadOf_23 rfl rfl rfl ?_
        refine v_aload_n 25 0 cx dX5_endsAheadOf_24 rfl rfl rfl ?_
        refine v_getI 28 16 1 cx dX5_endsAheadOf_25 iX5 (wXo_16 E st) rfl (Nat.le_of_ble_eq_true rfl) rfl kf_X5_15 rfl rfl h (fun v4 h => ?_)
        refine v_icmp_le 35 31 cx dX5_endsAheadOf_28 (by decide) rfl h (fun h => ?_) (fun h => ?_)
        · refine v_iconst 36 cx dX5_endsAheadOf_35 ic_0 rfl ?_
          exact hk _ _ _ _ (Option.some.inj h) (Or.inl rfl) dX5_endsAheadOf_36
        · refine v_iconst 32 cx dX5_endsAheadOf_31 ic_1 rfl ?_
          refine v_goto 36 cx dX5_endsAheadOf_32 (by decide) ?_
          exact hk _ _ _ _ (Option.some.inj h) (Or.inr rfl) dX5_endsAheadOf_36
set_option maxHeartbeats 4000000 in
set_option maxRecDepth 100000 in
theorem c_X7_taken (l : Launch) (E : Ev) (st : Sg) (p1 : Int32) (p2 : Int32) (p3 : Int32) : ∀ q, m_X7_taken p1 p2 p3 st = some q → CtL l (wX E) (tyE E) yX7_taken cX7_taken 5 (some .long) 0 0 [.ref (oX E 13), .int p1, .int p2, .int p3] st q := by
  intro q h
  refine ctL_of (lv0 := [(0, .ref (oX E 13)), (1, .int p1), (2, .int p2), (3, .int p3)]) (by decide) rfl (Nat.le_of_ble_eq_true rfl) (fun C hC cx hk => ?_)
  replace cx : Cx C (tyE E) cX7_taken RX7 5 0 0 := cx
  unfold m_X7_taken at h
  refine v_iload_n 1 1 cx dX7_taken_0 rfl rfl rfl ?_
  refine v_iconst 2 cx dX7_taken_1 ic_3 rfl ?_
  refine v_imul 3 cx dX7_taken_2 rfl ?_
  refine v_iload_n 4 2 cx dX7_taken_3 rfl rfl rfl ?_
  refine v_iadd 5 cx dX7_taken_4 rfl ?_
  refine v_istore 7 (fun a1 => [(4, .int a1), (0, .ref (oX E 13)), (1, .int p1), (2, .int p2), (3, .int p3)]) cx dX7_taken_5 (by decide) (fun _ => rfl) rfl h (fun a1 h => ?_)
  refine v_aload_n 8 1 cx dX7_taken_7 rfl rfl rfl ?_
  refine v_get 11 13 3 cx dX7_taken_8 iX7 (wXo_13 E st) rfl (Nat.le_of_ble_eq_true rfl) rfl kf_X7_9 rfl rfl ?_
  refine v_iconst 12 cx dX7_taken_11 ic_4 rfl ?_
  refine v_iload_n 13 4 cx dX7_taken_12 rfl rfl rfl ?_
  refine v_iadd 14 cx dX7_taken_13 rfl ?_
  refine v_aload_n 15 1 cx dX7_taken_14 rfl rfl rfl ?_
  refine v_get 18 13 0 cx dX7_taken_15 iX7 (wXo_13 E st) rfl (Nat.le_of_ble_eq_true rfl) rfl kf_X7_31 rfl rfl ?_
  refine v_get 21 1 7 cx dX7_taken_18 iX0 (wXo_1 E st) rfl (Nat.le_of_ble_eq_true rfl) rfl kf_X7_179 rfl rfl ?_
  refine v_iload 23 0 cx dX7_taken_21 rfl rfl ?_
  refine v_iald 24 24 0 cx dX7_taken_23 (wXa_1_7 E st) rfl rfl h (fun v2 h => ?_)
  refine v_isub 25 cx dX7_taken_24 rfl ?_
  refine v_bipush 27 cx dX7_taken_25 bp_16 rfl ?_
  refine v_imul 28 cx dX7_taken_27 rfl ?_
  refine v_aload_n 29 1 cx dX7_taken_28 rfl rfl rfl ?_
  refine v_get 32 13 0 cx dX7_taken_29 iX7 (wXo_13 E st) rfl (Nat.le_of_ble_eq_true rfl) rfl kf_X7_31 rfl rfl ?_
  refine v_get 35 1 6 cx dX7_taken_32 iX0 (wXo_1 E st) rfl (Nat.le_of_ble_eq_true rfl) rfl kf_X7_182 rfl rfl ?_
  refine v_iload 37 0 cx dX7_taken_35 rfl rfl ?_
  refine v_iald 38 23 0 cx dX7_taken_37 (wXa_1_6 E st) rfl rfl h (fun v3 h => ?_)
  refine v_iadd 39 cx dX7_taken_38 rfl ?_
  refine v_lald 40 59 1 cx dX7_taken_39 (wXa_13_3 E st) rfl rfl h (fun v4 h => ?_)
  exact hk _ _ _ _ (Option.some.inj h) dX7_taken_40
set_option maxHeartbeats 4000000 in
set_option maxRecDepth 100000 in
theorem c_X6_refusalAt (l : Launch) (E : Ev) (st : Sg) (p1 : Int32) (p2 : Int64) : ∀ q, m_X6_refusalAt p1 p2 st = some q → CtI l (wX E) (tyE E) yX6_refusalAt cX6_refusalAt 4 (some .int) 0 0 [.ref (oX E 5), .int p1, .long p2] st q := by
  intro q h
  refine ctI_of (lv0 := [(0, .ref (oX E 5)), (1, .int p1), (2, .long p2)]) (by decide) rfl (Nat.le_of_ble_eq_true rfl) (fun C hC cx hk => ?_)
  replace cx : Cx C (tyE E) cX6_refusalAt RX6 4 0 0 := cx
  unfold m_X6_refusalAt at h
  refine v_iload_n 1 1 cx dX6_refusalAt_0 rfl rfl rfl ?_
  refine v_if_lt 10 4 cx dX6_refusalAt_1 (by decide) rfl h (fun h => ?_) (fun h => ?_)
  · refine v_bipush 12 cx dX6_refusalAt_10 bp_m3 rfl ?_
    exact hk _ _ _ _ (Option.some.inj h) dX6_refusalAt_12
  · refine v_iload_n 5 1 cx dX6_refusalAt_4 rfl rfl rfl ?_
    refine v_bipush 7 cx dX6_refusalAt_5 bp_8 rfl ?_
    refine v_icmp_lt 13 10 cx dX6_refusalAt_7 (by decide) rfl h (fun h => ?_) (fun h => ?_)
    · refine v_aload_n 14 0 cx dX6_refusalAt_13 rfl rfl rfl ?_
      refine v_get 17 5 0 cx dX6_refusalAt_14 iX6 (wXo_5 E st) rfl (Nat.le_of_ble_eq_true rfl) rfl kf_X6_9 rfl rfl ?_
      refine v_iload_n 18 1 cx dX6_refusalAt_17 rfl rfl rfl ?_
      refine v_iald 19 36 0 cx dX6_refusalAt_18 (wXa_5_0 E st) rfl rfl h (fun v1 h => ?_)
      refine v_if_ne 25 22 cx dX6_refusalAt_19 (by decide) rfl h (fun h => ?_) (fun h => ?_)
      · refine v_aload_n 26 0 cx dX6_refusalAt_25 rfl rfl rfl ?_
        refine v_get 29 5 1 cx dX6_refusalAt_26 iX6 (wXo_5 E st) rfl (Nat.le_of_ble_eq_true rfl) rfl kf_X6_15 rfl rfl ?_
        refine v_iload_n 30 1 cx dX6_refusalAt_29 rfl rfl rfl ?_
        refine v_zald 31 37 2 cx dX6_refusalAt_30 (wXa_5_1 E st) rfl rfl h (fun v2 h => ?_)
        refine v_if_ne 37 34 cx dX6_refusalAt_31 (by decide) rfl h (fun h => ?_) (fun h => ?_)
        · refine v_lload_n 38 2 cx dX6_refusalAt_37 rfl rfl rfl ?_
          refine v_lconst 39 cx dX6_refusalAt_38 lc_0 rfl ?_
          refine v_lcmp 40 cx dX6_refusalAt_39 rfl ?_
          refine v_if_lt 55 43 cx dX6_refusalAt_40 (by decide) rfl h (fun h => ?_) (fun h => ?_)
          · refine v_bipush 57 cx dX6_refusalAt_55 bp_m3 rfl ?_
            refine v_goto 61 cx dX6_refusalAt_57 (by decide) ?_
            exact hk _ _ _ _ (Option.some.inj h) dX6_refusalAt_61
          · refine v_lload_n 44 2 cx dX6_refusalAt_43 rfl rfl rfl ?_
            refine v_aload_n 45 0 cx dX6_refusalAt_44 rfl rfl rfl ?_
            refine v_get 48 5 0 cx dX6_refusalAt_45 iX6 (wXo_5 E st) rfl (Nat.le_of_ble_eq_true rfl) rfl kf_X6_9 rfl rfl ?_
            refine v_iload_n 49 1 cx dX6_refusalAt_48 rfl rfl rfl ?_
            refine v_iald 50 36 0 cx dX6_refusalAt_49 (wXa_5_0 E st) rfl rfl h (fun v3 h => ?_)
            refine v_i2l 51 cx dX6_refusalAt_50 rfl ?_
            refine v_lcmp 52 cx dX6_refusalAt_51 rfl ?_
            refine v_if_lt 60 55 cx dX6_refusalAt_52 (by decide) rfl h (fun h => ?_) (fun h => ?_)
            · refine v_iconst 61 cx dX6_refusalAt_60 ic_0 rfl ?_
              exact hk _ _ _ _ (Option.some.inj h) dX6_refusalAt_61
            · refine v_bipush 57 cx dX6_refusalAt_55 bp_m3 rfl ?_
              refine v_goto 61 cx dX6_refusalAt_57 (by decide) ?_
              exact hk _ _ _ _ (Option.some.inj h) dX6_refusalAt_61
        · refine v_bipush 36 cx dX6_refusalAt_34 bp_m5 rfl ?_
          exact hk _ _ _ _ (Option.some.inj h) dX6_refusalAt_36
      · refine v_bipush 24 cx dX6_refusalAt_22 bp_m2 rfl ?_
        exact hk _ _ _ _ (Option.some.inj h) dX6_refusalAt_24
    · refine v_bipush 12 cx dX6_refusalAt_10 bp_m3 rfl ?_
      exact hk _ _ _ _ (Option.some.inj h) dX6_refusalAt_12
set_option maxHeartbeats 4000000 in
set_option maxRecDepth 100000 in
theorem c_X7_refusalOf (l : Launch) (E : Ev) (st : Sg) (p1 : Int32) (p2 : Int32) : ∀ q, m_X7_refusalOf p1 p2 st = some q → CtI l (wX E) (tyE E) yX7_refusalOf cX7_refusalOf 3 (some .int) 1 24 [.ref (oX E 13), .int p1, .int p2] st q := by
  intro q h
  refine ctI_of (lv0 := [(0, .ref (oX E 13)), (1, .int p1), (2, .int p2)]) (by decide) rfl (Nat.le_of_ble_eq_true rfl) (fun C hC cx hk => ?_)
  replace cx : Cx C (tyE E) cX7_refusalOf RX7 3 1 24 := cx
  unfold m_X7_refusalOf at h
  refine v_aload_n 1 0 cx dX7_refusalOf_0 rfl rfl rfl ?_
  refine v_get 4 13 0 cx dX7_refusalOf_1 iX7 (wXo_13 E st) rfl (Nat.le_of_ble_eq_true rfl) rfl kf_X7_31 rfl rfl ?_
  refine v_iload_n 5 1 cx dX7_refusalOf_4 rfl rfl rfl ?_
  refine v_callVI 8 1 cx dX7_refusalOf_5 km_X7_149 ca_X0_touchesRows (wXo_1 E st) rfl (c_X0_touchesRows C.2.1 E st p1 ) rfl (by decide) rfl (Nat.le_of_ble_eq_true rfl) rfl h (fun v2 s1 h => ?_)
  refine v_if_eq 35 11 cx dX7_refusalOf_8 (by decide) rfl h (fun h => ?_) (fun h => ?_)
  · refine v_aload_n 36 0 cx dX7_refusalOf_35 rfl rfl rfl ?_
    refine v_get 39 13 0 cx dX7_refusalOf_36 iX7 (wXo_13 E s1) rfl (Nat.le_of_ble_eq_true rfl) rfl kf_X7_31 rfl rfl ?_
    refine v_get 42 1 1 cx dX7_refusalOf_39 iX0 (wXo_1 E s1) rfl (Nat.le_of_ble_eq_true rfl) rfl kf_X7_164 rfl rfl ?_
    refine v_iload_n 43 1 cx dX7_refusalOf_42 rfl rfl rfl ?_
    refine v_iald 44 18 0 cx dX7_refusalOf_43 (wXa_1_1 E s1) rfl rfl h (fun v3 h => ?_)
    refine v_iconst 45 cx dX7_refusalOf_44 ic_3 rfl ?_
    refine v_icmp_ne 65 48 cx dX7_refusalOf_45 (by decide) rfl h (fun h => ?_) (fun h => ?_)
    · refine v_iconst 66 cx dX7_refusalOf_65 ic_0 rfl ?_
      exact hk _ _ _ _ (Option.some.inj h) dX7_refusalOf_66
    · refine v_aload_n 49 0 cx dX7_refusalOf_48 rfl rfl rfl ?_
      refine v_iload_n 50 1 cx dX7_refusalOf_49 rfl rfl rfl ?_
      refine v_iconst 51 cx dX7_refusalOf_50 ic_1 rfl ?_
      refine v_iload_n 52 2 cx dX7_refusalOf_51 rfl rfl rfl ?_
      refine v_callVL 55 13 cx dX7_refusalOf_52 km_X7_156 ca_X7_taken (wXo_13 E s1) rfl (c_X7_taken C.2.1 E s1 p1 1 p2 ) rfl (by decide) rfl (Nat.le_of_ble_eq_true rfl) rfl h (fun v5 s4 h => ?_)
      refine v_lconst 56 cx dX7_refusalOf_55 lc_0 rfl ?_
      refine v_lcmp 57 cx dX7_refusalOf_56 rfl ?_
      refine v_if_ne 65 60 cx dX7_refusalOf_57 (by decide) rfl h (fun h => ?_) (fun h => ?_)
      · refine v_iconst 66 cx dX7_refusalOf_65 ic_0 rfl ?_
        exact hk _ _ _ _ (Option.some.inj h) dX7_refusalOf_66
      · refine v_bipush 62 cx dX7_refusalOf_60 bp_m8 rfl ?_
        refine v_goto 66 cx dX7_refusalOf_62 (by decide) ?_
        exact hk _ _ _ _ (Option.some.inj h) dX7_refusalOf_66
  · refine v_aload_n 12 0 cx dX7_refusalOf_11 rfl rfl rfl ?_
    refine v_get 15 13 1 cx dX7_refusalOf_12 iX7 (wXo_13 E s1) rfl (Nat.le_of_ble_eq_true rfl) rfl kf_X7_35 rfl rfl ?_
    refine v_aload_n 16 0 cx dX7_refusalOf_15 rfl rfl rfl ?_
    refine v_get 19 13 0 cx dX7_refusalOf_16 iX7 (wXo_13 E s1) rfl (Nat.le_of_ble_eq_true rfl) rfl kf_X7_31 rfl rfl ?_
    refine v_get 22 1 5 cx dX7_refusalOf_19 iX0 (wXo_1 E s1) rfl (Nat.le_of_ble_eq_true rfl) rfl kf_X7_153 rfl rfl ?_
    refine v_iload_n 23 1 cx dX7_refusalOf_22 rfl rfl rfl ?_
    refine v_iald 24 22 0 cx dX7_refusalOf_23 (wXa_1_5 E s1) rfl rfl h (fun v6 h => ?_)
    refine v_aload_n 25 0 cx dX7_refusalOf_24 rfl rfl rfl ?_
    refine v_iload_n 26 1 cx dX7_refusalOf_25 rfl rfl rfl ?_
    refine v_iconst 27 cx dX7_refusalOf_26 ic_0 rfl ?_
    refine v_iload_n 28 2 cx dX7_refusalOf_27 rfl rfl rfl ?_
    refine v_callVL 31 13 cx dX7_refusalOf_28 km_X7_156 ca_X7_taken (wXo_13 E s1) rfl (c_X7_taken C.2.1 E s1 p1 0 p2 ) rfl (by decide) rfl (Nat.le_of_ble_eq_true rfl) rfl h (fun v8 s7 h => ?_)
    refine v_callVI 34 5 cx dX7_refusalOf_31 km_X7_160 ca_X6_refusalAt (wXo_5 E s7) rfl (c_X6_refusalAt C.2.1 E s7 v6 v8 ) rfl (by decide) rfl (Nat.le_of_ble_eq_true rfl) rfl h (fun v10 s9 h => ?_)
    exact hk _ _ _ _ (Option.some.inj h) dX7_refusalOf_34
set_option maxHeartbeats 4000000 in
set_option maxRecDepth 100000 in
theorem c_X5_refused_14 (l : Launch) (E : Ev) (st : Sg) (p1 : Int32) (p2 : Int32) (p3 : Int32) : ∀ q, m_X5_refused 14 p1 p2 p3 st = some q → CtV l (wX E) (tyE E) yX5_refused cX5_refused 4 none 0 0 [.ref (oX E 14), .int p1, .int p2, .int p3] st q := by
  intro q h
  refine ctV_of (lv0 := [(0, .ref (oX E 14)), (1, .int p1), (2, .int p2), (3, .int p3)]) (by decide) rfl (Nat.le_of_ble_eq_true rfl) (fun C hC cx hk => ?_)
  replace cx : Cx C (tyE E) cX5_refused RX5 4 0 0 := cx
  unfold m_X5_refused at h
  refine v_aload_n 1 0 cx dX5_refused_0 rfl rfl rfl ?_
  refine v_iload_n 2 1 cx dX5_refused_1 rfl rfl rfl ?_
  refine v_putI 5 14 0 cx dX5_refused_2 iX5 tyX5_ok nmX5 (wXo_14 E st) rfl (Nat.le_of_ble_eq_true rfl) rfl kf_X5_9 rfl rfl rfl rfl (Nat.le_of_ble_eq_true rfl) (wXs_14_0 E st _) rfl h (fun s1 h => ?_)
  refine v_aload_n 6 0 cx dX5_refused_5 rfl rfl rfl ?_
  refine v_iload_n 7 2 cx dX5_refused_6 rfl rfl rfl ?_
  refine v_putI 10 14 1 cx dX5_refused_7 iX5 tyX5_ok nmX5 (wXo_14 E s1) rfl (Nat.le_of_ble_eq_true rfl) rfl kf_X5_15 rfl rfl rfl rfl (Nat.le_of_ble_eq_true rfl) (wXs_14_1 E s1 _) rfl h (fun s2 h => ?_)
  refine v_aload_n 11 0 cx dX5_refused_10 rfl rfl rfl ?_
  refine v_iload_n 12 3 cx dX5_refused_11 rfl rfl rfl ?_
  refine v_putI 15 14 2 cx dX5_refused_12 iX5 tyX5_ok nmX5 (wXo_14 E s2) rfl (Nat.le_of_ble_eq_true rfl) rfl kf_X5_18 rfl rfl rfl rfl (Nat.le_of_ble_eq_true rfl) (wXs_14_2 E s2 _) rfl h (fun s3 h => ?_)
  exact hk _ _ _ _ (Option.some.inj h) dX5_refused_15
set_option maxHeartbeats 4000000 in
set_option maxRecDepth 100000 in
theorem c_X5_refused_15 (l : Launch) (E : Ev) (st : Sg) (p1 : Int32) (p2 : Int32) (p3 : Int32) : ∀ q, m_X5_refused 15 p1 p2 p3 st = some q → CtV l (wX E) (tyE E) yX5_refused cX5_refused 4 none 0 0 [.ref (oX E 15), .int p1, .int p2, .int p3] st q := by
  intro q h
  refine ctV_of (lv0 := [(0, .ref (oX E 15)), (1, .int p1), (2, .int p2), (3, .int p3)]) (by decide) rfl (Nat.le_of_ble_eq_true rfl) (fun C hC cx hk => ?_)
  replace cx : Cx C (tyE E) cX5_refused RX5 4 0 0 := cx
  unfold m_X5_refused at h
  refine v_aload_n 1 0 cx dX5_refused_0 rfl rfl rfl ?_
  refine v_iload_n 2 1 cx dX5_refused_1 rfl rfl rfl ?_
  refine v_putI 5 15 0 cx dX5_refused_2 iX5 tyX5_ok nmX5 (wXo_15 E st) rfl (Nat.le_of_ble_eq_true rfl) rfl kf_X5_9 rfl rfl rfl rfl (Nat.le_of_ble_eq_true rfl) (wXs_15_0 E st _) rfl h (fun s1 h => ?_)
  refine v_aload_n 6 0 cx dX5_refused_5 rfl rfl rfl ?_
  refine v_iload_n 7 2 cx dX5_refused_6 rfl rfl rfl ?_
  refine v_putI 10 15 1 cx dX5_refused_7 iX5 tyX5_ok nmX5 (wXo_15 E s1) rfl (Nat.le_of_ble_eq_true rfl) rfl kf_X5_15 rfl rfl rfl rfl (Nat.le_of_ble_eq_true rfl) (wXs_15_1 E s1 _) rfl h (fun s2 h => ?_)
  refine v_aload_n 11 0 cx dX5_refused_10 rfl rfl rfl ?_
  refine v_iload_n 12 3 cx dX5_refused_11 rfl rfl rfl ?_
  refine v_putI 15 15 2 cx dX5_refused_12 iX5 tyX5_ok nmX5 (wXo_15 E s2) rfl (Nat.le_of_ble_eq_true rfl) rfl kf_X5_18 rfl rfl rfl rfl (Nat.le_of_ble_eq_true rfl) (wXs_15_2 E s2 _) rfl h (fun s3 h => ?_)
  exact hk _ _ _ _ (Option.some.inj h) dX5_refused_15
set_option maxHeartbeats 4000000 in
set_option maxRecDepth 100000 in
theorem c_X5_refused_16 (l : Launch) (E : Ev) (st : Sg) (p1 : Int32) (p2 : Int32) (p3 : Int32) : ∀ q, m_X5_refused 16 p1 p2 p3 st = some q → CtV l (wX E) (tyE E) yX5_refused cX5_refused 4 none 0 0 [.ref (oX E 16), .int p1, .int p2, .int p3] st q := by
  intro q h
  refine ctV_of (lv0 := [(0, .ref (oX E 16)), (1, .int p1), (2, .int p2), (3, .int p3)]) (by decide) rfl (Nat.le_of_ble_eq_true rfl) (fun C hC cx hk => ?_)
  replace cx : Cx C (tyE E) cX5_refused RX5 4 0 0 := cx
  unfold m_X5_refused at h
  refine v_aload_n 1 0 cx dX5_refused_0 rfl rfl rfl ?_
  refine v_iload_n 2 1 cx dX5_refused_1 rfl rfl rfl ?_
  refine v_putI 5 16 0 cx dX5_refused_2 iX5 tyX5_ok nmX5 (wXo_16 E st) rfl (Nat.le_of_ble_eq_true rfl) rfl kf_X5_9 rfl rfl rfl rfl (Nat.le_of_ble_eq_true rfl) (wXs_16_0 E st _) rfl h (fun s1 h => ?_)
  refine v_aload_n 6 0 cx dX5_refused_5 rfl rfl rfl ?_
  refine v_iload_n 7 2 cx dX5_refused_6 rfl rfl rfl ?_
  refine v_putI 10 16 1 cx dX5_refused_7 iX5 tyX5_ok nmX5 (wXo_16 E s1) rfl (Nat.le_of_ble_eq_true rfl) rfl kf_X5_15 rfl rfl rfl rfl (Nat.le_of_ble_eq_true rfl) (wXs_16_1 E s1 _) rfl h (fun s2 h => ?_)
  refine v_aload_n 11 0 cx dX5_refused_10 rfl rfl rfl ?_
  refine v_iload_n 12 3 cx dX5_refused_11 rfl rfl rfl ?_
  refine v_putI 15 16 2 cx dX5_refused_12 iX5 tyX5_ok nmX5 (wXo_16 E s2) rfl (Nat.le_of_ble_eq_true rfl) rfl kf_X5_18 rfl rfl rfl rfl (Nat.le_of_ble_eq_true rfl) (wXs_16_2 E s2 _) rfl h (fun s3 h => ?_)
  exact hk _ _ _ _ (Option.some.inj h) dX5_refused_15
set_option maxHeartbeats 4000000 in
set_option maxRecDepth 100000 in
theorem c_X7_quotient (l : Launch) (E : Ev) (st : Sg) (p0 : Int64) (p2 : Int64) : ∀ q, m_X7_quotient p0 p2 st = some q → CtL l (wX E) (tyE E) yX7_quotient cX7_quotient 4 (some .long) 0 0 [.long p0, .long p2] st q := by
  intro q h
  refine ctL_of (lv0 := [(0, .long p0), (2, .long p2)]) (by decide) rfl (Nat.le_of_ble_eq_true rfl) (fun C hC cx hk => ?_)
  replace cx : Cx C (tyE E) cX7_quotient RX7 4 0 0 := cx
  unfold m_X7_quotient at h
  refine v_lload_n 1 1 cx dX7_quotient_0 rfl rfl rfl ?_
  refine v_lconst 2 cx dX7_quotient_1 lc_0 rfl ?_
  refine v_lcmp 3 cx dX7_quotient_2 rfl ?_
  refine v_if_ne 10 6 cx dX7_quotient_3 (by decide) rfl h (fun h => ?_) (fun h => ?_)
  · refine v_lload_n 11 0 cx dX7_quotient_10 rfl rfl rfl ?_
    refine v_lload_n 12 1 cx dX7_quotient_11 rfl rfl rfl ?_
    refine v_ldiv 13 cx dX7_quotient_12 rfl h (fun h => ?_)
    exact hk _ _ _ _ (Option.some.inj h) dX7_quotient_13
  · refine v_lconst 7 cx dX7_quotient_6 lc_0 rfl ?_
    refine v_goto 13 cx dX7_quotient_7 (by decide) ?_
    exact hk _ _ _ _ (Option.some.inj h) dX7_quotient_13
set_option maxHeartbeats 4000000 in
set_option maxRecDepth 100000 in
theorem c_X6_placeOf (l : Launch) (E : Ev) (st : Sg) (p0 : Int32) (p1 : Int32) : ∀ q, m_X6_placeOf p0 p1 st = some q → CtI l (wX E) (tyE E) yX6_placeOf cX6_placeOf 2 (some .int) 0 0 [.int p0, .int p1] st q := by
  intro q h
  refine ctI_of (lv0 := [(0, .int p0), (1, .int p1)]) (by decide) rfl (Nat.le_of_ble_eq_true rfl) (fun C hC cx hk => ?_)
  replace cx : Cx C (tyE E) cX6_placeOf RX6 2 0 0 := cx
  unfold m_X6_placeOf at h
  refine v_iload_n 1 0 cx dX6_placeOf_0 rfl rfl rfl ?_
  refine v_bipush 3 cx dX6_placeOf_1 bp_40 rfl ?_
  refine v_imul 4 cx dX6_placeOf_3 rfl ?_
  refine v_iload_n 5 1 cx dX6_placeOf_4 rfl rfl rfl ?_
  refine v_iadd 6 cx dX6_placeOf_5 rfl ?_
  exact hk _ _ _ _ (Option.some.inj h) dX6_placeOf_6
set_option maxHeartbeats 4000000 in
set_option maxRecDepth 100000 in
theorem c_X7_exchange (l : Launch) (E : Ev) (st : Sg) (p1 : Int32) (p2 : Int64) : ∀ q, m_X7_exchange p1 p2 st = some q → CtL l (wX E) (tyE E) yX7_exchange cX7_exchange 6 (some .long) 0 0 [.ref (oX E 13), .int p1, .long p2] st q := by
  intro q h
  refine ctL_of (lv0 := [(0, .ref (oX E 13)), (1, .int p1), (2, .long p2)]) (by decide) rfl (Nat.le_of_ble_eq_true rfl) (fun C hC cx hk => ?_)
  replace cx : Cx C (tyE E) cX7_exchange RX7 6 0 0 := cx
  unfold m_X7_exchange at h
  refine v_aload_n 1 0 cx dX7_exchange_0 rfl rfl rfl ?_
  refine v_get 4 13 1 cx dX7_exchange_1 iX7 (wXo_13 E st) rfl (Nat.le_of_ble_eq_true rfl) rfl kf_X7_35 rfl rfl ?_
  refine v_get 7 5 2 cx dX7_exchange_4 iX6 (wXo_5 E st) rfl (Nat.le_of_ble_eq_true rfl) rfl kf_X7_84 rfl rfl ?_
  refine v_iload_n 8 1 cx dX7_exchange_7 rfl rfl rfl ?_
  refine v_lald 9 38 1 cx dX7_exchange_8 (wXa_5_2 E st) rfl rfl h (fun v1 h => ?_)
  refine v_lstore 11 (fun a2 => [(4, .long a2), (0, .ref (oX E 13)), (1, .int p1), (2, .long p2)]) cx dX7_exchange_9 (by decide) (fun _ => rfl) rfl h (fun a2 h => ?_)
  refine v_aload_n 12 1 cx dX7_exchange_11 rfl rfl rfl ?_
  refine v_get 15 13 1 cx dX7_exchange_12 iX7 (wXo_13 E st) rfl (Nat.le_of_ble_eq_true rfl) rfl kf_X7_35 rfl rfl ?_
  refine v_get 18 5 2 cx dX7_exchange_15 iX6 (wXo_5 E st) rfl (Nat.le_of_ble_eq_true rfl) rfl kf_X7_84 rfl rfl ?_
  refine v_iload_n 19 2 cx dX7_exchange_18 rfl rfl rfl ?_
  refine v_lload_n 20 3 cx dX7_exchange_19 rfl rfl rfl ?_
  refine v_last 21 38 1 cx dX7_exchange_20 (wXa_5_2 E st) rfl (wXt_5_2 E st) rfl h (fun s3 h => ?_)
  refine v_lload 23 0 cx dX7_exchange_21 rfl rfl ?_
  exact hk _ _ _ _ (Option.some.inj h) dX7_exchange_23
set_option maxHeartbeats 4000000 in
set_option maxRecDepth 100000 in
theorem c_X7_endOf (l : Launch) (E : Ev) (st : Sg) (p1 : Int32) (p2 : Int32) : ∀ q, m_X7_endOf p1 p2 st = some q → CtL l (wX E) (tyE E) yX7_endOf cX7_endOf 3 (some .long) 1 25 [.ref (oX E 13), .int p1, .int p2] st q := by
  intro q h
  refine ctL_of (lv0 := [(0, .ref (oX E 13)), (1, .int p1), (2, .int p2)]) (by decide) rfl (Nat.le_of_ble_eq_true rfl) (fun C hC cx hk => ?_)
  replace cx : Cx C (tyE E) cX7_endOf RX7 3 1 25 := cx
  unfold m_X7_endOf at h
  refine v_aload_n 1 0 cx dX7_endOf_0 rfl rfl rfl ?_
  refine v_get 4 13 0 cx dX7_endOf_1 iX7 (wXo_13 E st) rfl (Nat.le_of_ble_eq_true rfl) rfl kf_X7_31 rfl rfl ?_
  refine v_get 7 1 1 cx dX7_endOf_4 iX0 (wXo_1 E st) rfl (Nat.le_of_ble_eq_true rfl) rfl kf_X7_164 rfl rfl ?_
  refine v_iload_n 8 1 cx dX7_endOf_7 rfl rfl rfl ?_
  refine v_iald 9 18 0 cx dX7_endOf_8 (wXa_1_1 E st) rfl rfl h (fun v1 h => ?_)
  refine v_tabC 48 0 (ck := 0) cx dX7_endOf_9 (by decide) (by decide) rfl (by decide) (fun i hi => absurd hi (Nat.not_lt_zero i)) h (fun h => ?_) (fun hn h => ?_)
  · refine v_aload_n 49 0 cx dX7_endOf_48 rfl rfl rfl ?_
    refine v_get 52 13 0 cx dX7_endOf_49 iX7 (wXo_13 E st) rfl (Nat.le_of_ble_eq_true rfl) rfl kf_X7_31 rfl rfl ?_
    refine v_get 55 1 8 cx dX7_endOf_52 iX0 (wXo_1 E st) rfl (Nat.le_of_ble_eq_true rfl) rfl kf_X7_167 rfl rfl ?_
    refine v_iload_n 56 1 cx dX7_endOf_55 rfl rfl rfl ?_
    refine v_lald 57 25 1 cx dX7_endOf_56 (wXa_1_8 E st) rfl rfl h (fun v2 h => ?_)
    exact hk _ _ _ _ (Option.some.inj h) dX7_endOf_57
  · refine v_tabC 58 1 (ck := 1) cx dX7_endOf_9 (by decide) (by decide) rfl (by decide) hn h (fun h => ?_) (fun hn h => ?_)
    · refine v_aload_n 59 0 cx dX7_endOf_58 rfl rfl rfl ?_
      refine v_iload_n 60 1 cx dX7_endOf_59 rfl rfl rfl ?_
      refine v_iconst 61 cx dX7_endOf_60 ic_0 rfl ?_
      refine v_iload_n 62 2 cx dX7_endOf_61 rfl rfl rfl ?_
      refine v_callVL 65 13 cx dX7_endOf_62 km_X7_156 ca_X7_taken (wXo_13 E st) rfl (c_X7_taken C.2.1 E st p1 0 p2 ) rfl (by decide) rfl (Nat.le_of_ble_eq_true rfl) rfl h (fun v4 s3 h => ?_)
      refine v_aload_n 66 0 cx dX7_endOf_65 rfl rfl rfl ?_
      refine v_iload_n 67 1 cx dX7_endOf_66 rfl rfl rfl ?_
      refine v_iconst 68 cx dX7_endOf_67 ic_1 rfl ?_
      refine v_iload_n 69 2 cx dX7_endOf_68 rfl rfl rfl ?_
      refine v_callVL 72 13 cx dX7_endOf_69 km_X7_156 ca_X7_taken (wXo_13 E s3) rfl (c_X7_taken C.2.1 E s3 p1 1 p2 ) rfl (by decide) rfl (Nat.le_of_ble_eq_true rfl) rfl h (fun v6 s5 h => ?_)
      refine v_ladd 73 cx dX7_endOf_72 rfl ?_
      exact hk _ _ _ _ (Option.some.inj h) dX7_endOf_73
    · refine v_tabC 74 2 (ck := 2) cx dX7_endOf_9 (by decide) (by decide) rfl (by decide) hn h (fun h => ?_) (fun hn h => ?_)
      · refine v_aload_n 75 0 cx dX7_endOf_74 rfl rfl rfl ?_
        refine v_iload_n 76 1 cx dX7_endOf_75 rfl rfl rfl ?_
        refine v_iconst 77 cx dX7_endOf_76 ic_0 rfl ?_
        refine v_iload_n 78 2 cx dX7_endOf_77 rfl rfl rfl ?_
        refine v_callVL 81 13 cx dX7_endOf_78 km_X7_156 ca_X7_taken (wXo_13 E st) rfl (c_X7_taken C.2.1 E st p1 0 p2 ) rfl (by decide) rfl (Nat.le_of_ble_eq_true rfl) rfl h (fun v8 s7 h => ?_)
        refine v_aload_n 82 0 cx dX7_endOf_81 rfl rfl rfl ?_
        refine v_iload_n 83 1 cx dX7_endOf_82 rfl rfl rfl ?_
        refine v_iconst 84 cx dX7_endOf_83 ic_1 rfl ?_
        refine v_iload_n 85 2 cx dX7_endOf_84 rfl rfl rfl ?_
        refine v_callVL 88 13 cx dX7_endOf_85 km_X7_156 ca_X7_taken (wXo_13 E s7) rfl (c_X7_taken C.2.1 E s7 p1 1 p2 ) rfl (by decide) rfl (Nat.le_of_ble_eq_true rfl) rfl h (fun v10 s9 h => ?_)
        refine v_lmul 89 cx dX7_endOf_88 rfl ?_
        exact hk _ _ _ _ (Option.some.inj h) dX7_endOf_89
      · refine v_tabC 90 3 (ck := 3) cx dX7_endOf_9 (by decide) (by decide) rfl (by decide) hn h (fun h => ?_) (fun hn h => ?_)
        · refine v_aload_n 91 0 cx dX7_endOf_90 rfl rfl rfl ?_
          refine v_iload_n 92 1 cx dX7_endOf_91 rfl rfl rfl ?_
          refine v_iconst 93 cx dX7_endOf_92 ic_0 rfl ?_
          refine v_iload_n 94 2 cx dX7_endOf_93 rfl rfl rfl ?_
          refine v_callVL 97 13 cx dX7_endOf_94 km_X7_156 ca_X7_taken (wXo_13 E st) rfl (c_X7_taken C.2.1 E st p1 0 p2 ) rfl (by decide) rfl (Nat.le_of_ble_eq_true rfl) rfl h (fun v12 s11 h => ?_)
          refine v_aload_n 98 0 cx dX7_endOf_97 rfl rfl rfl ?_
          refine v_iload_n 99 1 cx dX7_endOf_98 rfl rfl rfl ?_
          refine v_iconst 100 cx dX7_endOf_99 ic_1 rfl ?_
          refine v_iload_n 101 2 cx dX7_endOf_100 rfl rfl rfl ?_
          refine v_callVL 104 13 cx dX7_endOf_101 km_X7_156 ca_X7_taken (wXo_13 E s11) rfl (c_X7_taken C.2.1 E s11 p1 1 p2 ) rfl (by decide) rfl (Nat.le_of_ble_eq_true rfl) rfl h (fun v14 s13 h => ?_)
          refine v_callSL 107 cx dX7_endOf_104 km_X7_170 ca_X7_quotient (c_X7_quotient C.2.1 E s13 v12 v14 ) rfl (by decide) rfl (Nat.le_of_ble_eq_true rfl) rfl h (fun v16 s15 h => ?_)
          exact hk _ _ _ _ (Option.some.inj h) dX7_endOf_107
        · refine v_tabC 108 4 (ck := 4) cx dX7_endOf_9 (by decide) (by decide) rfl (by decide) hn h (fun h => ?_) (fun hn h => ?_)
          · refine v_aload_n 109 0 cx dX7_endOf_108 rfl rfl rfl ?_
            refine v_get 112 13 1 cx dX7_endOf_109 iX7 (wXo_13 E st) rfl (Nat.le_of_ble_eq_true rfl) rfl kf_X7_35 rfl rfl ?_
            refine v_get 115 5 2 cx dX7_endOf_112 iX6 (wXo_5 E st) rfl (Nat.le_of_ble_eq_true rfl) rfl kf_X7_84 rfl rfl ?_
            refine v_aload_n 116 0 cx dX7_endOf_115 rfl rfl rfl ?_
            refine v_get 119 13 0 cx dX7_endOf_116 iX7 (wXo_13 E st) rfl (Nat.le_of_ble_eq_true rfl) rfl kf_X7_31 rfl rfl ?_
            refine v_get 122 1 5 cx dX7_endOf_119 iX0 (wXo_1 E st) rfl (Nat.le_of_ble_eq_true rfl) rfl kf_X7_153 rfl rfl ?_
            refine v_iload_n 123 1 cx dX7_endOf_122 rfl rfl rfl ?_
            refine v_iald 124 22 0 cx dX7_endOf_123 (wXa_1_5 E st) rfl rfl h (fun v17 h => ?_)
            refine v_aload_n 125 0 cx dX7_endOf_124 rfl rfl rfl ?_
            refine v_iload_n 126 1 cx dX7_endOf_125 rfl rfl rfl ?_
            refine v_iconst 127 cx dX7_endOf_126 ic_0 rfl ?_
            refine v_iload_n 128 2 cx dX7_endOf_127 rfl rfl rfl ?_
            refine v_callVL 131 13 cx dX7_endOf_128 km_X7_156 ca_X7_taken (wXo_13 E st) rfl (c_X7_taken C.2.1 E st p1 0 p2 ) rfl (by decide) rfl (Nat.le_of_ble_eq_true rfl) rfl h (fun v19 s18 h => ?_)
            refine v_l2i 132 cx dX7_endOf_131 rfl ?_
            refine v_callSI 135 cx dX7_endOf_132 km_X7_174 ca_X6_placeOf (c_X6_placeOf C.2.1 E s18 v17 ((v19 : Int64).toInt32) ) rfl (by decide) rfl (Nat.le_of_ble_eq_true rfl) rfl h (fun v21 s20 h => ?_)
            refine v_lald 136 38 1 cx dX7_endOf_135 (wXa_5_2 E s20) rfl rfl h (fun v22 h => ?_)
            exact hk _ _ _ _ (Option.some.inj h) dX7_endOf_136
          · refine v_tabC 137 5 (ck := 5) cx dX7_endOf_9 (by decide) (by decide) rfl (by decide) hn h (fun h => ?_) (fun hn h => ?_)
            · refine v_aload_n 138 0 cx dX7_endOf_137 rfl rfl rfl ?_
              refine v_aload_n 139 0 cx dX7_endOf_138 rfl rfl rfl ?_
              refine v_get 142 13 0 cx dX7_endOf_139 iX7 (wXo_13 E st) rfl (Nat.le_of_ble_eq_true rfl) rfl kf_X7_31 rfl rfl ?_
              refine v_get 145 1 5 cx dX7_endOf_142 iX0 (wXo_1 E st) rfl (Nat.le_of_ble_eq_true rfl) rfl kf_X7_153 rfl rfl ?_
              refine v_iload_n 146 1 cx dX7_endOf_145 rfl rfl rfl ?_
              refine v_iald 147 22 0 cx dX7_endOf_146 (wXa_1_5 E st) rfl rfl h (fun v23 h => ?_)
              refine v_aload_n 148 0 cx dX7_endOf_147 rfl rfl rfl ?_
              refine v_iload_n 149 1 cx dX7_endOf_148 rfl rfl rfl ?_
              refine v_iconst 150 cx dX7_endOf_149 ic_0 rfl ?_
              refine v_iload_n 151 2 cx dX7_endOf_150 rfl rfl rfl ?_
              refine v_callVL 154 13 cx dX7_endOf_151 km_X7_156 ca_X7_taken (wXo_13 E st) rfl (c_X7_taken C.2.1 E st p1 0 p2 ) rfl (by decide) rfl (Nat.le_of_ble_eq_true rfl) rfl h (fun v25 s24 h => ?_)
              refine v_l2i 155 cx dX7_endOf_154 rfl ?_
              refine v_callSI 158 cx dX7_endOf_155 km_X7_174 ca_X6_placeOf (c_X6_placeOf C.2.1 E s24 v23 ((v25 : Int64).toInt32) ) rfl (by decide) rfl (Nat.le_of_ble_eq_true rfl) rfl h (fun v27 s26 h => ?_)
              refine v_aload_n 159 0 cx dX7_endOf_158 rfl rfl rfl ?_
              refine v_iload_n 160 1 cx dX7_endOf_159 rfl rfl rfl ?_
              refine v_iconst 161 cx dX7_endOf_160 ic_1 rfl ?_
              refine v_iload_n 162 2 cx dX7_endOf_161 rfl rfl rfl ?_
              refine v_callVL 165 13 cx dX7_endOf_162 km_X7_156 ca_X7_taken (wXo_13 E s26) rfl (c_X7_taken C.2.1 E s26 p1 1 p2 ) rfl (by decide) rfl (Nat.le_of_ble_eq_true rfl) rfl h (fun v29 s28 h => ?_)
              refine v_callVL 168 13 cx dX7_endOf_165 km_X7_175 ca_X7_exchange (wXo_13 E s28) rfl (c_X7_exchange C.2.1 E s28 v27 v29 ) rfl (by decide) rfl (Nat.le_of_ble_eq_true rfl) rfl h (fun v31 s30 h => ?_)
              exact hk _ _ _ _ (Option.some.inj h) dX7_endOf_168
            · refine v_tabD 169 6 cx dX7_endOf_9 (by decide) (by decide) hn ?_
              refine v_aload_n 170 0 cx dX7_endOf_169 rfl rfl rfl ?_
              refine v_iload_n 171 1 cx dX7_endOf_170 rfl rfl rfl ?_
              refine v_iconst 172 cx dX7_endOf_171 ic_0 rfl ?_
              refine v_iload_n 173 2 cx dX7_endOf_172 rfl rfl rfl ?_
              refine v_callVL 176 13 cx dX7_endOf_173 km_X7_156 ca_X7_taken (wXo_13 E st) rfl (c_X7_taken C.2.1 E st p1 0 p2 ) rfl (by decide) rfl (Nat.le_of_ble_eq_true rfl) rfl h (fun v33 s32 h => ?_)
              refine v_lconst 177 cx dX7_endOf_176 lc_0 rfl ?_
              refine v_lcmp 178 cx dX7_endOf_177 rfl ?_
              refine v_if_eq 191 181 cx dX7_endOf_178 (by decide) rfl h (fun h => ?_) (fun h => ?_)
              · refine v_aload_n 192 0 cx dX7_endOf_191 rfl rfl rfl ?_
                refine v_iload_n 193 1 cx dX7_endOf_192 rfl rfl rfl ?_
                refine v_iconst 194 cx dX7_endOf_193 ic_2 rfl ?_
                refine v_iload_n 195 2 cx dX7_endOf_194 rfl rfl rfl ?_
                refine v_callVL 198 13 cx dX7_endOf_195 km_X7_156 ca_X7_taken (wXo_13 E s32) rfl (c_X7_taken C.2.1 E s32 p1 2 p2 ) rfl (by decide) rfl (Nat.le_of_ble_eq_true rfl) rfl h (fun v35 s34 h => ?_)
                exact hk _ _ _ _ (Option.some.inj h) dX7_endOf_198
              · refine v_aload_n 182 0 cx dX7_endOf_181 rfl rfl rfl ?_
                refine v_iload_n 183 1 cx dX7_endOf_182 rfl rfl rfl ?_
                refine v_iconst 184 cx dX7_endOf_183 ic_1 rfl ?_
                refine v_iload_n 185 2 cx dX7_endOf_184 rfl rfl rfl ?_
                refine v_callVL 188 13 cx dX7_endOf_185 km_X7_156 ca_X7_taken (wXo_13 E s32) rfl (c_X7_taken C.2.1 E s32 p1 1 p2 ) rfl (by decide) rfl (Nat.le_of_ble_eq_true rfl) rfl h (fun v37 s36 h => ?_)
                refine v_goto 198 cx dX7_endOf_188 (by decide) ?_
                exact hk _ _ _ _ (Option.some.inj h) dX7_endOf_198
set_option maxHeartbeats 4000000 in
set_option maxRecDepth 100000 in
theorem c_X7_begin_14 (l : Launch) (E : Ev) (st : Sg) (p1 : Int32) (p2 : Int32) : ∀ q, m_X7_begin 14 p1 p2 st = some q → CtV l (wX E) (tyE E) yX7_begin cX7_begin 5 none 2 47 [.ref (oX E 13), .int p1, .int p2, .ref (oX E 14)] st q := by
  intro q h
  refine ctV_of (lv0 := [(0, .ref (oX E 13)), (1, .int p1), (2, .int p2), (3, .ref (oX E 14))]) (by decide) rfl (Nat.le_of_ble_eq_true rfl) (fun C hC cx hk => ?_)
  replace cx : Cx C (tyE E) cX7_begin RX7 5 2 47 := cx
  unfold m_X7_begin at h
  refine v_aload_n 1 3 cx dX7_begin_0 rfl rfl rfl ?_
  refine v_dup 2 cx dX7_begin_1 rfl rfl ?_
  refine v_getI 5 14 3 cx dX7_begin_2 iX5 (wXo_14 E st) rfl (Nat.le_of_ble_eq_true rfl) rfl kf_X7_135 rfl rfl h (fun v1 h => ?_)
  refine v_iconst 6 cx dX7_begin_5 ic_1 rfl ?_
  refine v_iadd 7 cx dX7_begin_6 rfl ?_
  refine v_putI 10 14 3 cx dX7_begin_7 iX5 tyX5_ok nmX5 (wXo_14 E st) rfl (Nat.le_of_ble_eq_true rfl) rfl kf_X7_135 rfl rfl rfl rfl (Nat.le_of_ble_eq_true rfl) (wXs_14_3 E st _) rfl h (fun s2 h => ?_)
  refine v_aload_n 11 0 cx dX7_begin_10 rfl rfl rfl ?_
  refine v_iload_n 12 1 cx dX7_begin_11 rfl rfl rfl ?_
  refine v_iload_n 13 2 cx dX7_begin_12 rfl rfl rfl ?_
  refine v_callVI 16 13 cx dX7_begin_13 km_X7_138 ca_X7_refusalOf (wXo_13 E s2) rfl (c_X7_refusalOf C.2.1 E s2 p1 p2 ) rfl (by decide) rfl (Nat.le_of_ble_eq_true rfl) rfl h (fun v4 s3 h => ?_)
  refine v_istore 18 (fun a5 => [(4, .int a5), (0, .ref (oX E 13)), (1, .int p1), (2, .int p2), (3, .ref (oX E 14))]) cx dX7_begin_16 (by decide) (fun _ => rfl) rfl h (fun a5 h => ?_)
  refine v_iload 20 0 cx dX7_begin_18 rfl rfl ?_
  refine v_if_eq 34 23 cx dX7_begin_20 (by decide) rfl h (fun h => ?_) (fun h => ?_)
  · refine v_aload_n 35 1 cx dX7_begin_34 rfl rfl rfl ?_
    refine v_get 38 13 3 cx dX7_begin_35 iX7 (wXo_13 E s3) rfl (Nat.le_of_ble_eq_true rfl) rfl kf_X7_9 rfl rfl ?_
    refine v_iload_n 39 2 cx dX7_begin_38 rfl rfl rfl ?_
    refine v_iload_n 40 3 cx dX7_begin_39 rfl rfl rfl ?_
    refine v_callSI 43 cx dX7_begin_40 km_X7_51 ca_X7_placeOf (c_X7_placeOf C.2.1 E s3 p1 p2 ) rfl (by decide) rfl (Nat.le_of_ble_eq_true rfl) rfl h (fun v7 s6 h => ?_)
    refine v_aload_n 44 1 cx dX7_begin_43 rfl rfl rfl ?_
    refine v_iload_n 45 2 cx dX7_begin_44 rfl rfl rfl ?_
    refine v_iload_n 46 3 cx dX7_begin_45 rfl rfl rfl ?_
    refine v_callVL 49 13 cx dX7_begin_46 km_X7_145 ca_X7_endOf (wXo_13 E s6) rfl (c_X7_endOf C.2.1 E s6 p1 p2 ) rfl (by decide) rfl (Nat.le_of_ble_eq_true rfl) rfl h (fun v9 s8 h => ?_)
    refine v_last 50 59 1 cx dX7_begin_49 (wXa_13_3 E s8) rfl (wXt_13_3 E s8) rfl h (fun s10 h => ?_)
    exact hk _ _ _ _ (Option.some.inj h) dX7_begin_50
  · refine v_aload_n 24 4 cx dX7_begin_23 rfl rfl rfl ?_
    refine v_iload 26 0 cx dX7_begin_24 rfl rfl ?_
    refine v_iload_n 27 2 cx dX7_begin_26 rfl rfl rfl ?_
    refine v_iload_n 28 3 cx dX7_begin_27 rfl rfl rfl ?_
    refine v_callVV 31 14 cx dX7_begin_28 km_X7_141 ca_X5_refused (wXo_14 E s3) rfl (c_X5_refused_14 C.2.1 E s3 a5 p1 p2 ) rfl (by decide) rfl (Nat.le_of_ble_eq_true rfl) rfl h (fun _ s11 h => ?_)
    refine v_goto 50 cx dX7_begin_31 (by decide) ?_
    exact hk _ _ _ _ (Option.some.inj h) dX7_begin_50
set_option maxHeartbeats 4000000 in
set_option maxRecDepth 100000 in
theorem c_X7_begin_15 (l : Launch) (E : Ev) (st : Sg) (p1 : Int32) (p2 : Int32) : ∀ q, m_X7_begin 15 p1 p2 st = some q → CtV l (wX E) (tyE E) yX7_begin cX7_begin 5 none 2 47 [.ref (oX E 13), .int p1, .int p2, .ref (oX E 15)] st q := by
  intro q h
  refine ctV_of (lv0 := [(0, .ref (oX E 13)), (1, .int p1), (2, .int p2), (3, .ref (oX E 15))]) (by decide) rfl (Nat.le_of_ble_eq_true rfl) (fun C hC cx hk => ?_)
  replace cx : Cx C (tyE E) cX7_begin RX7 5 2 47 := cx
  unfold m_X7_begin at h
  refine v_aload_n 1 3 cx dX7_begin_0 rfl rfl rfl ?_
  refine v_dup 2 cx dX7_begin_1 rfl rfl ?_
  refine v_getI 5 15 3 cx dX7_begin_2 iX5 (wXo_15 E st) rfl (Nat.le_of_ble_eq_true rfl) rfl kf_X7_135 rfl rfl h (fun v1 h => ?_)
  refine v_iconst 6 cx dX7_begin_5 ic_1 rfl ?_
  refine v_iadd 7 cx dX7_begin_6 rfl ?_
  refine v_putI 10 15 3 cx dX7_begin_7 iX5 tyX5_ok nmX5 (wXo_15 E st) rfl (Nat.le_of_ble_eq_true rfl) rfl kf_X7_135 rfl rfl rfl rfl (Nat.le_of_ble_eq_true rfl) (wXs_15_3 E st _) rfl h (fun s2 h => ?_)
  refine v_aload_n 11 0 cx dX7_begin_10 rfl rfl rfl ?_
  refine v_iload_n 12 1 cx dX7_begin_11 rfl rfl rfl ?_
  refine v_iload_n 13 2 cx dX7_begin_12 rfl rfl rfl ?_
  refine v_callVI 16 13 cx dX7_begin_13 km_X7_138 ca_X7_refusalOf (wXo_13 E s2) rfl (c_X7_refusalOf C.2.1 E s2 p1 p2 ) rfl (by decide) rfl (Nat.le_of_ble_eq_true rfl) rfl h (fun v4 s3 h => ?_)
  refine v_istore 18 (fun a5 => [(4, .int a5), (0, .ref (oX E 13)), (1, .int p1), (2, .int p2), (3, .ref (oX E 15))]) cx dX7_begin_16 (by decide) (fun _ => rfl) rfl h (fun a5 h => ?_)
  refine v_iload 20 0 cx dX7_begin_18 rfl rfl ?_
  refine v_if_eq 34 23 cx dX7_begin_20 (by decide) rfl h (fun h => ?_) (fun h => ?_)
  · refine v_aload_n 35 1 cx dX7_begin_34 rfl rfl rfl ?_
    refine v_get 38 13 3 cx dX7_begin_35 iX7 (wXo_13 E s3) rfl (Nat.le_of_ble_eq_true rfl) rfl kf_X7_9 rfl rfl ?_
    refine v_iload_n 39 2 cx dX7_begin_38 rfl rfl rfl ?_
    refine v_iload_n 40 3 cx dX7_begin_39 rfl rfl rfl ?_
    refine v_callSI 43 cx dX7_begin_40 km_X7_51 ca_X7_placeOf (c_X7_placeOf C.2.1 E s3 p1 p2 ) rfl (by decide) rfl (Nat.le_of_ble_eq_true rfl) rfl h (fun v7 s6 h => ?_)
    refine v_aload_n 44 1 cx dX7_begin_43 rfl rfl rfl ?_
    refine v_iload_n 45 2 cx dX7_begin_44 rfl rfl rfl ?_
    refine v_iload_n 46 3 cx dX7_begin_45 rfl rfl rfl ?_
    refine v_callVL 49 13 cx dX7_begin_46 km_X7_145 ca_X7_endOf (wXo_13 E s6) rfl (c_X7_endOf C.2.1 E s6 p1 p2 ) rfl (by decide) rfl (Nat.le_of_ble_eq_true rfl) rfl h (fun v9 s8 h => ?_)
    refine v_last 50 59 1 cx dX7_begin_49 (wXa_13_3 E s8) rfl (wXt_13_3 E s8) rfl h (fun s10 h => ?_)
    exact hk _ _ _ _ (Option.some.inj h) dX7_begin_50
  · refine v_aload_n 24 4 cx dX7_begin_23 rfl rfl rfl ?_
    refine v_iload 26 0 cx dX7_begin_24 rfl rfl ?_
    refine v_iload_n 27 2 cx dX7_begin_26 rfl rfl rfl ?_
    refine v_iload_n 28 3 cx dX7_begin_27 rfl rfl rfl ?_
    refine v_callVV 31 15 cx dX7_begin_28 km_X7_141 ca_X5_refused (wXo_15 E s3) rfl (c_X5_refused_15 C.2.1 E s3 a5 p1 p2 ) rfl (by decide) rfl (Nat.le_of_ble_eq_true rfl) rfl h (fun _ s11 h => ?_)
    refine v_goto 50 cx dX7_begin_31 (by decide) ?_
    exact hk _ _ _ _ (Option.some.inj h) dX7_begin_50
set_option maxHeartbeats 4000000 in
set_option maxRecDepth 100000 in
theorem c_X7_begin_16 (l : Launch) (E : Ev) (st : Sg) (p1 : Int32) (p2 : Int32) : ∀ q, m_X7_begin 16 p1 p2 st = some q → CtV l (wX E) (tyE E) yX7_begin cX7_begin 5 none 2 47 [.ref (oX E 13), .int p1, .int p2, .ref (oX E 16)] st q := by
  intro q h
  refine ctV_of (lv0 := [(0, .ref (oX E 13)), (1, .int p1), (2, .int p2), (3, .ref (oX E 16))]) (by decide) rfl (Nat.le_of_ble_eq_true rfl) (fun C hC cx hk => ?_)
  replace cx : Cx C (tyE E) cX7_begin RX7 5 2 47 := cx
  unfold m_X7_begin at h
  refine v_aload_n 1 3 cx dX7_begin_0 rfl rfl rfl ?_
  refine v_dup 2 cx dX7_begin_1 rfl rfl ?_
  refine v_getI 5 16 3 cx dX7_begin_2 iX5 (wXo_16 E st) rfl (Nat.le_of_ble_eq_true rfl) rfl kf_X7_135 rfl rfl h (fun v1 h => ?_)
  refine v_iconst 6 cx dX7_begin_5 ic_1 rfl ?_
  refine v_iadd 7 cx dX7_begin_6 rfl ?_
  refine v_putI 10 16 3 cx dX7_begin_7 iX5 tyX5_ok nmX5 (wXo_16 E st) rfl (Nat.le_of_ble_eq_true rfl) rfl kf_X7_135 rfl rfl rfl rfl (Nat.le_of_ble_eq_true rfl) (wXs_16_3 E st _) rfl h (fun s2 h => ?_)
  refine v_aload_n 11 0 cx dX7_begin_10 rfl rfl rfl ?_
  refine v_iload_n 12 1 cx dX7_begin_11 rfl rfl rfl ?_
  refine v_iload_n 13 2 cx dX7_begin_12 rfl rfl rfl ?_
  refine v_callVI 16 13 cx dX7_begin_13 km_X7_138 ca_X7_refusalOf (wXo_13 E s2) rfl (c_X7_refusalOf C.2.1 E s2 p1 p2 ) rfl (by decide) rfl (Nat.le_of_ble_eq_true rfl) rfl h (fun v4 s3 h => ?_)
  refine v_istore 18 (fun a5 => [(4, .int a5), (0, .ref (oX E 13)), (1, .int p1), (2, .int p2), (3, .ref (oX E 16))]) cx dX7_begin_16 (by decide) (fun _ => rfl) rfl h (fun a5 h => ?_)
  refine v_iload 20 0 cx dX7_begin_18 rfl rfl ?_
  refine v_if_eq 34 23 cx dX7_begin_20 (by decide) rfl h (fun h => ?_) (fun h => ?_)
  · refine v_aload_n 35 1 cx dX7_begin_34 rfl rfl rfl ?_
    refine v_get 38 13 3 cx dX7_begin_35 iX7 (wXo_13 E s3) rfl (Nat.le_of_ble_eq_true rfl) rfl kf_X7_9 rfl rfl ?_
    refine v_iload_n 39 2 cx dX7_begin_38 rfl rfl rfl ?_
    refine v_iload_n 40 3 cx dX7_begin_39 rfl rfl rfl ?_
    refine v_callSI 43 cx dX7_begin_40 km_X7_51 ca_X7_placeOf (c_X7_placeOf C.2.1 E s3 p1 p2 ) rfl (by decide) rfl (Nat.le_of_ble_eq_true rfl) rfl h (fun v7 s6 h => ?_)
    refine v_aload_n 44 1 cx dX7_begin_43 rfl rfl rfl ?_
    refine v_iload_n 45 2 cx dX7_begin_44 rfl rfl rfl ?_
    refine v_iload_n 46 3 cx dX7_begin_45 rfl rfl rfl ?_
    refine v_callVL 49 13 cx dX7_begin_46 km_X7_145 ca_X7_endOf (wXo_13 E s6) rfl (c_X7_endOf C.2.1 E s6 p1 p2 ) rfl (by decide) rfl (Nat.le_of_ble_eq_true rfl) rfl h (fun v9 s8 h => ?_)
    refine v_last 50 59 1 cx dX7_begin_49 (wXa_13_3 E s8) rfl (wXt_13_3 E s8) rfl h (fun s10 h => ?_)
    exact hk _ _ _ _ (Option.some.inj h) dX7_begin_50
  · refine v_aload_n 24 4 cx dX7_begin_23 rfl rfl rfl ?_
    refine v_iload 26 0 cx dX7_begin_24 rfl rfl ?_
    refine v_iload_n 27 2 cx dX7_begin_26 rfl rfl rfl ?_
    refine v_iload_n 28 3 cx dX7_begin_27 rfl rfl rfl ?_
    refine v_callVV 31 16 cx dX7_begin_28 km_X7_141 ca_X5_refused (wXo_16 E s3) rfl (c_X5_refused_16 C.2.1 E s3 a5 p1 p2 ) rfl (by decide) rfl (Nat.le_of_ble_eq_true rfl) rfl h (fun _ s11 h => ?_)
    refine v_goto 50 cx dX7_begin_31 (by decide) ?_
    exact hk _ _ _ _ (Option.some.inj h) dX7_begin_50
def V_X7_goByTicks_L7_14 (C : Cm) (E : Ev) (x1 : Int32) (s : (Int32 × Sg)) : Prop := Vat C (wX E) 7 7 [(0, .ref (oX E 13)), (1, .int x1), (2, .ref (oX E 14)), (3, .int s.1)] [] s.2
def K_X7_goByTicks_L7_14 (C : Cm) (E : Ev) (x1 : Int32) : (Sg) → Prop := (fun r : (Sg) => Vat C (wX E) 7 132 [] [] r)
def V_X7_goByTicks_L25_14 (C : Cm) (E : Ev) (x1 : Int32) (x3 : Int32) (s : (Int32 × Sg)) : Prop := Vat C (wX E) 7 25 [(0, .ref (oX E 13)), (1, .int x1), (2, .ref (oX E 14)), (3, .int x3), (4, .int s.1)] [] s.2
def K_X7_goByTicks_L25_14 (C : Cm) (E : Ev) (x1 : Int32) (x3 : Int32) : (Sg) → Prop := (fun r : (Sg) => Vat C (wX E) 7 126 [(0, .ref (oX E 13)), (1, .int x1), (2, .ref (oX E 14)), (3, .int x3)] [] r)
set_option maxHeartbeats 4000000 in
set_option maxRecDepth 100000 in
theorem b_X7_goByTicks_L25_14 {C : Cm} {E : Ev} (cx : Cx C (tyE E) cX7_goByTicks RX7 7 3 71) (x1 : Int32) (x3 : Int32) : ∀ (s : (Int32 × Sg)) (out : (Int32 × Sg) ⊕ (Sg)), m_X7_goByTicks_L25 14 x1 x3 s.1 s.2 = some out → Sum.elim (V_X7_goByTicks_L25_14 C E x1 x3) (K_X7_goByTicks_L25_14 C E x1 x3) out → V_X7_goByTicks_L25_14 C E x1 x3 s := by
  intro s out h hk
  obtain ⟨x4, st⟩ := s
  show Vat C (wX E) 7 25 [(0, .ref (oX E 13)), (1, .int x1), (2, .ref (oX E 14)), (3, .int x3), (4, .int x4)] [] st
  replace h : m_X7_goByTicks_L25 14 x1 x3 x4 st = some out := h
  unfold m_X7_goByTicks_L25 at h
  refine v_iload 27 4 cx dX7_goByTicks_25 rfl rfl ?_
  refine v_aload_n 28 0 cx dX7_goByTicks_27 rfl rfl rfl ?_
  refine v_get 31 13 0 cx dX7_goByTicks_28 iX7 (wXo_13 E st) rfl (Nat.le_of_ble_eq_true rfl) rfl kf_X7_31 rfl rfl ?_
  refine v_getI 34 1 0 cx dX7_goByTicks_31 iX0 (wXo_1 E st) rfl (Nat.le_of_ble_eq_true rfl) rfl kf_X7_93 rfl rfl h (fun v5 h => ?_)
  refine v_icmp_ge 126 37 cx dX7_goByTicks_34 (by decide) rfl h (fun h => ?_) (fun h => ?_)
  · cases h
    have hk : Vat C (wX E) 7 126 [(0, .ref (oX E 13)), (1, .int x1), (2, .ref (oX E 14)), (3, .int x3)] [] st := hk
    exact v_lsub (lv' := [(0, .ref (oX E 13)), (1, .int x1), (2, .ref (oX E 14)), (3, .int x3)]) [0, 1, 2, 3] rfl (hk)
  · refine v_aload_n 38 0 cx dX7_goByTicks_37 rfl rfl rfl ?_
    refine v_get 41 13 2 cx dX7_goByTicks_38 iX7 (wXo_13 E st) rfl (Nat.le_of_ble_eq_true rfl) rfl kf_X7_39 rfl rfl ?_
    refine v_get 44 9 10 cx dX7_goByTicks_41 iX4 (wXo_9 E st) rfl (Nat.le_of_ble_eq_true rfl) rfl kf_X7_119 rfl rfl ?_
    refine v_iload 46 4 cx dX7_goByTicks_44 rfl rfl ?_
    refine v_iald 47 55 0 cx dX7_goByTicks_46 (wXa_9_10 E st) rfl rfl h (fun v6 h => ?_)
    refine v_istore 49 (fun a7 => [(5, .int a7), (0, .ref (oX E 13)), (1, .int x1), (2, .ref (oX E 14)), (3, .int x3), (4, .int x4)]) cx dX7_goByTicks_47 (by decide) (fun _ => rfl) rfl h (fun a7 h => ?_)
    refine v_iload_n 50 4 cx dX7_goByTicks_49 rfl rfl rfl ?_
    refine v_aload_n 51 1 cx dX7_goByTicks_50 rfl rfl rfl ?_
    refine v_get 54 13 2 cx dX7_goByTicks_51 iX7 (wXo_13 E st) rfl (Nat.le_of_ble_eq_true rfl) rfl kf_X7_39 rfl rfl ?_
    refine v_get 57 9 4 cx dX7_goByTicks_54 iX4 (wXo_9 E st) rfl (Nat.le_of_ble_eq_true rfl) rfl kf_X7_122 rfl rfl ?_
    refine v_iload 59 0 cx dX7_goByTicks_57 rfl rfl ?_
    refine v_iald 60 49 0 cx dX7_goByTicks_59 (wXa_9_4 E st) rfl rfl h (fun v8 h => ?_)
    refine v_isub 61 cx dX7_goByTicks_60 rfl ?_
    refine v_istore 63 (fun a9 => [(6, .int a9), (5, .int a7), (0, .ref (oX E 13)), (1, .int x1), (2, .ref (oX E 14)), (3, .int x3), (4, .int x4)]) cx dX7_goByTicks_61 (by decide) (fun _ => rfl) rfl h (fun a9 h => ?_)
    refine v_iload 65 0 cx dX7_goByTicks_63 rfl rfl ?_
    refine v_if_lt 120 68 cx dX7_goByTicks_65 (by decide) rfl h (fun h => ?_) (fun h => ?_)
    · refine v_iinc 123 6 (fun a10 => [(4, .int a10), (6, .int a9), (5, .int a7), (0, .ref (oX E 13)), (1, .int x1), (2, .ref (oX E 14)), (3, .int x3)]) cx dX7_goByTicks_120 rfl ic_1 (by decide) (fun _ => rfl) rfl h (fun a10 h => ?_)
      refine v_goto 25 cx dX7_goByTicks_123 (by decide) ?_
      cases h
      have hk : Vat C (wX E) 7 25 [(0, .ref (oX E 13)), (1, .int x1), (2, .ref (oX E 14)), (3, .int x3), (4, .int a10)] [] st := hk
      exact v_lsub (lv' := [(0, .ref (oX E 13)), (1, .int x1), (2, .ref (oX E 14)), (3, .int x3), (4, .int a10)]) [3, 4, 5, 6, 0] rfl (hk)
    · refine v_iload 70 0 cx dX7_goByTicks_68 rfl rfl ?_
      refine v_iload_n 71 3 cx dX7_goByTicks_70 rfl rfl rfl ?_
      refine v_icmp_ge 120 74 cx dX7_goByTicks_71 (by decide) rfl h (fun h => ?_) (fun h => ?_)
      · refine v_iinc 123 6 (fun a11 => [(4, .int a11), (6, .int a9), (5, .int a7), (0, .ref (oX E 13)), (1, .int x1), (2, .ref (oX E 14)), (3, .int x3)]) cx dX7_goByTicks_120 rfl ic_1 (by decide) (fun _ => rfl) rfl h (fun a11 h => ?_)
        refine v_goto 25 cx dX7_goByTicks_123 (by decide) ?_
        cases h
        have hk : Vat C (wX E) 7 25 [(0, .ref (oX E 13)), (1, .int x1), (2, .ref (oX E 14)), (3, .int x3), (4, .int a11)] [] st := hk
        exact v_lsub (lv' := [(0, .ref (oX E 13)), (1, .int x1), (2, .ref (oX E 14)), (3, .int x3), (4, .int a11)]) [3, 4, 5, 6, 0] rfl (hk)
      · refine v_aload_n 75 4 cx dX7_goByTicks_74 rfl rfl rfl ?_
        refine v_iload 77 1 cx dX7_goByTicks_75 rfl rfl ?_
        refine v_iload 79 0 cx dX7_goByTicks_77 rfl rfl ?_
        refine v_callVI 82 14 cx dX7_goByTicks_79 km_X7_125 ca_X5_endsAheadOf (wXo_14 E st) rfl (c_X5_endsAheadOf_14 C.2.1 E st a7 a9 ) rfl (by decide) rfl (Nat.le_of_ble_eq_true rfl) rfl h (fun v13 s12 h => ?_)
        refine v_if_ne 120 85 cx dX7_goByTicks_82 (by decide) rfl h (fun h => ?_) (fun h => ?_)
        · refine v_iinc 123 6 (fun a14 => [(4, .int a14), (6, .int a9), (5, .int a7), (0, .ref (oX E 13)), (1, .int x1), (2, .ref (oX E 14)), (3, .int x3)]) cx dX7_goByTicks_120 rfl ic_1 (by decide) (fun _ => rfl) rfl h (fun a14 h => ?_)
          refine v_goto 25 cx dX7_goByTicks_123 (by decide) ?_
          cases h
          have hk : Vat C (wX E) 7 25 [(0, .ref (oX E 13)), (1, .int x1), (2, .ref (oX E 14)), (3, .int x3), (4, .int a14)] [] s12 := hk
          exact v_lsub (lv' := [(0, .ref (oX E 13)), (1, .int x1), (2, .ref (oX E 14)), (3, .int x3), (4, .int a14)]) [3, 4, 5, 6, 0] rfl (hk)
        · refine v_aload_n 86 2 cx dX7_goByTicks_85 rfl rfl rfl ?_
          refine v_iload 88 1 cx dX7_goByTicks_86 rfl rfl ?_
          refine v_iload 90 0 cx dX7_goByTicks_88 rfl rfl ?_
          refine v_aload_n 91 4 cx dX7_goByTicks_90 rfl rfl rfl ?_
          refine v_callVV 94 13 cx dX7_goByTicks_91 km_X7_104 ca_X7_begin (wXo_13 E s12) rfl (c_X7_begin_14 C.2.1 E s12 a7 a9 ) rfl (by decide) rfl (Nat.le_of_ble_eq_true rfl) rfl h (fun _ s15 h => ?_)
          refine v_aload_n 95 4 cx dX7_goByTicks_94 rfl rfl rfl ?_
          refine v_iload_n 96 5 cx dX7_goByTicks_95 rfl rfl rfl ?_
          refine v_aload_n 97 2 cx dX7_goByTicks_96 rfl rfl rfl ?_
          refine v_get 100 13 2 cx dX7_goByTicks_97 iX7 (wXo_13 E s15) rfl (Nat.le_of_ble_eq_true rfl) rfl kf_X7_39 rfl rfl ?_
          refine v_getI 103 9 1 cx dX7_goByTicks_100 iX4 (wXo_9 E s15) rfl (Nat.le_of_ble_eq_true rfl) rfl kf_X7_129 rfl rfl h (fun v16 h => ?_)
          refine v_imul 104 cx dX7_goByTicks_103 rfl ?_
          refine v_aload_n 105 2 cx dX7_goByTicks_104 rfl rfl rfl ?_
          refine v_get 108 13 2 cx dX7_goByTicks_105 iX7 (wXo_13 E s15) rfl (Nat.le_of_ble_eq_true rfl) rfl kf_X7_39 rfl rfl ?_
          refine v_get 111 9 3 cx dX7_goByTicks_108 iX4 (wXo_9 E s15) rfl (Nat.le_of_ble_eq_true rfl) rfl kf_X7_132 rfl rfl ?_
          refine v_iload 113 1 cx dX7_goByTicks_111 rfl rfl ?_
          refine v_iald 114 48 0 cx dX7_goByTicks_113 (wXa_9_3 E s15) rfl rfl h (fun v17 h => ?_)
          refine v_iadd 115 cx dX7_goByTicks_114 rfl ?_
          refine v_iconst 116 cx dX7_goByTicks_115 ic_1 rfl ?_
          refine v_iadd 117 cx dX7_goByTicks_116 rfl ?_
          refine v_putI 120 14 4 cx dX7_goByTicks_117 iX5 tyX5_ok nmX5 (wXo_14 E s15) rfl (Nat.le_of_ble_eq_true rfl) rfl kf_X7_108 rfl rfl rfl rfl (Nat.le_of_ble_eq_true rfl) (wXs_14_4 E s15 _) rfl h (fun s18 h => ?_)
          refine v_iinc 123 6 (fun a19 => [(4, .int a19), (6, .int a9), (5, .int a7), (0, .ref (oX E 13)), (1, .int x1), (2, .ref (oX E 14)), (3, .int x3)]) cx dX7_goByTicks_120 rfl ic_1 (by decide) (fun _ => rfl) rfl h (fun a19 h => ?_)
          refine v_goto 25 cx dX7_goByTicks_123 (by decide) ?_
          cases h
          have hk : Vat C (wX E) 7 25 [(0, .ref (oX E 13)), (1, .int x1), (2, .ref (oX E 14)), (3, .int x3), (4, .int a19)] [] s18 := hk
          exact v_lsub (lv' := [(0, .ref (oX E 13)), (1, .int x1), (2, .ref (oX E 14)), (3, .int x3), (4, .int a19)]) [3, 4, 5, 6, 0] rfl (hk)
set_option maxHeartbeats 4000000 in
set_option maxRecDepth 100000 in
theorem b_X7_goByTicks_L7_14 {C : Cm} {E : Ev} (cx : Cx C (tyE E) cX7_goByTicks RX7 7 3 71) (x1 : Int32) : ∀ (s : (Int32 × Sg)) (out : (Int32 × Sg) ⊕ (Sg)), m_X7_goByTicks_L7 14 x1 s.1 s.2 = some out → Sum.elim (V_X7_goByTicks_L7_14 C E x1) (K_X7_goByTicks_L7_14 C E x1) out → V_X7_goByTicks_L7_14 C E x1 s := by
  intro s out h hk
  obtain ⟨x3, st⟩ := s
  show Vat C (wX E) 7 7 [(0, .ref (oX E 13)), (1, .int x1), (2, .ref (oX E 14)), (3, .int x3)] [] st
  replace h : m_X7_goByTicks_L7 14 x1 x3 st = some out := h
  unfold m_X7_goByTicks_L7 at h
  refine v_iload_n 8 3 cx dX7_goByTicks_7 rfl rfl rfl ?_
  refine v_iload_n 9 1 cx dX7_goByTicks_8 rfl rfl rfl ?_
  refine v_aload_n 10 0 cx dX7_goByTicks_9 rfl rfl rfl ?_
  refine v_get 13 13 2 cx dX7_goByTicks_10 iX7 (wXo_13 E st) rfl (Nat.le_of_ble_eq_true rfl) rfl kf_X7_39 rfl rfl ?_
  refine v_getI 16 9 2 cx dX7_goByTicks_13 iX4 (wXo_9 E st) rfl (Nat.le_of_ble_eq_true rfl) rfl kf_X7_61 rfl rfl h (fun v3 h => ?_)
  refine v_iadd 17 cx dX7_goByTicks_16 rfl ?_
  refine v_iconst 18 cx dX7_goByTicks_17 ic_1 rfl ?_
  refine v_isub 19 cx dX7_goByTicks_18 rfl ?_
  refine v_icmp_ge 132 22 cx dX7_goByTicks_19 (by decide) rfl h (fun h => ?_) (fun h => ?_)
  · cases h
    have hk : Vat C (wX E) 7 132 [] [] st := hk
    exact v_lsub (lv' := []) [] rfl (hk)
  · refine v_iconst 23 cx dX7_goByTicks_22 ic_0 rfl ?_
    refine v_istore 25 (fun a4 => [(4, .int a4), (0, .ref (oX E 13)), (1, .int x1), (2, .ref (oX E 14)), (3, .int x3)]) cx dX7_goByTicks_23 (by decide) (fun _ => rfl) rfl h (fun a4 h => ?_)
    refine v_lsub (lv' := [(0, .ref (oX E 13)), (1, .int x1), (2, .ref (oX E 14)), (3, .int x3), (4, .int a4)]) [1, 2, 3, 4, 0] rfl ?_
    refine v_loop (s0 := (a4, st)) (V_X7_goByTicks_L25_14 C E x1 x3) (K_X7_goByTicks_L25_14 C E x1 x3) h (b_X7_goByTicks_L25_14 cx x1 x3) (fun r20 h => ?_)
    show Vat C (wX E) 7 126 [(0, .ref (oX E 13)), (1, .int x1), (2, .ref (oX E 14)), (3, .int x3)] [] r20
    refine v_iinc 129 3 (fun a21 => [(3, .int a21), (0, .ref (oX E 13)), (1, .int x1), (2, .ref (oX E 14))]) cx dX7_goByTicks_126 rfl ic_1 (by decide) (fun _ => rfl) rfl h (fun a21 h => ?_)
    refine v_goto 7 cx dX7_goByTicks_129 (by decide) ?_
    cases h
    have hk : Vat C (wX E) 7 7 [(0, .ref (oX E 13)), (1, .int x1), (2, .ref (oX E 14)), (3, .int a21)] [] r20 := hk
    exact v_lsub (lv' := [(0, .ref (oX E 13)), (1, .int x1), (2, .ref (oX E 14)), (3, .int a21)]) [1, 2, 3, 0] rfl (hk)
set_option maxHeartbeats 4000000 in
set_option maxRecDepth 100000 in
theorem c_X7_goByTicks_14 (l : Launch) (E : Ev) (st : Sg) (p1 : Int32) : ∀ q, m_X7_goByTicks 14 p1 st = some q → CtV l (wX E) (tyE E) yX7_goByTicks cX7_goByTicks 7 none 3 71 [.ref (oX E 13), .int p1, .ref (oX E 14)] st q := by
  intro q h
  refine ctV_of (lv0 := [(0, .ref (oX E 13)), (1, .int p1), (2, .ref (oX E 14))]) (by decide) rfl (Nat.le_of_ble_eq_true rfl) (fun C hC cx hk => ?_)
  replace cx : Cx C (tyE E) cX7_goByTicks RX7 7 3 71 := cx
  unfold m_X7_goByTicks at h
  refine v_aload_n 1 2 cx dX7_goByTicks_0 rfl rfl rfl ?_
  refine v_iconst 2 cx dX7_goByTicks_1 ic_1 rfl ?_
  refine v_putI 5 14 5 cx dX7_goByTicks_2 iX5 tyX5_ok nmX5 (wXo_14 E st) rfl (Nat.le_of_ble_eq_true rfl) rfl kf_X7_115 rfl rfl rfl rfl (Nat.le_of_ble_eq_true rfl) (wXs_14_5 E st _) rfl h (fun s1 h => ?_)
  refine v_iconst 6 cx dX7_goByTicks_5 ic_0 rfl ?_
  refine v_istore_n 7 (fun a2 => [(3, .int a2), (0, .ref (oX E 13)), (1, .int p1), (2, .ref (oX E 14))]) cx dX7_goByTicks_6 rfl (by decide) (fun _ => rfl) rfl h (fun a2 h => ?_)
  refine v_lsub (lv' := [(0, .ref (oX E 13)), (1, .int p1), (2, .ref (oX E 14)), (3, .int a2)]) [1, 2, 3, 0] rfl ?_
  refine v_loop (s0 := (a2, s1)) (V_X7_goByTicks_L7_14 C E p1) (K_X7_goByTicks_L7_14 C E p1) h (b_X7_goByTicks_L7_14 cx p1) (fun r22 h => ?_)
  show Vat C (wX E) 7 132 [] [] r22
  exact hk _ _ _ _ (Option.some.inj h) dX7_goByTicks_132
def V_X7_goByTicks_L7_15 (C : Cm) (E : Ev) (x1 : Int32) (s : (Int32 × Sg)) : Prop := Vat C (wX E) 7 7 [(0, .ref (oX E 13)), (1, .int x1), (2, .ref (oX E 15)), (3, .int s.1)] [] s.2
def K_X7_goByTicks_L7_15 (C : Cm) (E : Ev) (x1 : Int32) : (Sg) → Prop := (fun r : (Sg) => Vat C (wX E) 7 132 [] [] r)
def V_X7_goByTicks_L25_15 (C : Cm) (E : Ev) (x1 : Int32) (x3 : Int32) (s : (Int32 × Sg)) : Prop := Vat C (wX E) 7 25 [(0, .ref (oX E 13)), (1, .int x1), (2, .ref (oX E 15)), (3, .int x3), (4, .int s.1)] [] s.2
def K_X7_goByTicks_L25_15 (C : Cm) (E : Ev) (x1 : Int32) (x3 : Int32) : (Sg) → Prop := (fun r : (Sg) => Vat C (wX E) 7 126 [(0, .ref (oX E 13)), (1, .int x1), (2, .ref (oX E 15)), (3, .int x3)] [] r)
set_option maxHeartbeats 4000000 in
set_option maxRecDepth 100000 in
theorem b_X7_goByTicks_L25_15 {C : Cm} {E : Ev} (cx : Cx C (tyE E) cX7_goByTicks RX7 7 3 71) (x1 : Int32) (x3 : Int32) : ∀ (s : (Int32 × Sg)) (out : (Int32 × Sg) ⊕ (Sg)), m_X7_goByTicks_L25 15 x1 x3 s.1 s.2 = some out → Sum.elim (V_X7_goByTicks_L25_15 C E x1 x3) (K_X7_goByTicks_L25_15 C E x1 x3) out → V_X7_goByTicks_L25_15 C E x1 x3 s := by
  intro s out h hk
  obtain ⟨x4, st⟩ := s
  show Vat C (wX E) 7 25 [(0, .ref (oX E 13)), (1, .int x1), (2, .ref (oX E 15)), (3, .int x3), (4, .int x4)] [] st
  replace h : m_X7_goByTicks_L25 15 x1 x3 x4 st = some out := h
  unfold m_X7_goByTicks_L25 at h
  refine v_iload 27 4 cx dX7_goByTicks_25 rfl rfl ?_
  refine v_aload_n 28 0 cx dX7_goByTicks_27 rfl rfl rfl ?_
  refine v_get 31 13 0 cx dX7_goByTicks_28 iX7 (wXo_13 E st) rfl (Nat.le_of_ble_eq_true rfl) rfl kf_X7_31 rfl rfl ?_
  refine v_getI 34 1 0 cx dX7_goByTicks_31 iX0 (wXo_1 E st) rfl (Nat.le_of_ble_eq_true rfl) rfl kf_X7_93 rfl rfl h (fun v5 h => ?_)
  refine v_icmp_ge 126 37 cx dX7_goByTicks_34 (by decide) rfl h (fun h => ?_) (fun h => ?_)
  · cases h
    have hk : Vat C (wX E) 7 126 [(0, .ref (oX E 13)), (1, .int x1), (2, .ref (oX E 15)), (3, .int x3)] [] st := hk
    exact v_lsub (lv' := [(0, .ref (oX E 13)), (1, .int x1), (2, .ref (oX E 15)), (3, .int x3)]) [0, 1, 2, 3] rfl (hk)
  · refine v_aload_n 38 0 cx dX7_goByTicks_37 rfl rfl rfl ?_
    refine v_get 41 13 2 cx dX7_goByTicks_38 iX7 (wXo_13 E st) rfl (Nat.le_of_ble_eq_true rfl) rfl kf_X7_39 rfl rfl ?_
    refine v_get 44 9 10 cx dX7_goByTicks_41 iX4 (wXo_9 E st) rfl (Nat.le_of_ble_eq_true rfl) rfl kf_X7_119 rfl rfl ?_
    refine v_iload 46 4 cx dX7_goByTicks_44 rfl rfl ?_
    refine v_iald 47 55 0 cx dX7_goByTicks_46 (wXa_9_10 E st) rfl rfl h (fun v6 h => ?_)
    refine v_istore 49 (fun a7 => [(5, .int a7), (0, .ref (oX E 13)), (1, .int x1), (2, .ref (oX E 15)), (3, .int x3), (4, .int x4)]) cx dX7_goByTicks_47 (by decide) (fun _ => rfl) rfl h (fun a7 h => ?_)
    refine v_iload_n 50 4 cx dX7_goByTicks_49 rfl rfl rfl ?_
    refine v_aload_n 51 1 cx dX7_goByTicks_50 rfl rfl rfl ?_
    refine v_get 54 13 2 cx dX7_goByTicks_51 iX7 (wXo_13 E st) rfl (Nat.le_of_ble_eq_true rfl) rfl kf_X7_39 rfl rfl ?_
    refine v_get 57 9 4 cx dX7_goByTicks_54 iX4 (wXo_9 E st) rfl (Nat.le_of_ble_eq_true rfl) rfl kf_X7_122 rfl rfl ?_
    refine v_iload 59 0 cx dX7_goByTicks_57 rfl rfl ?_
    refine v_iald 60 49 0 cx dX7_goByTicks_59 (wXa_9_4 E st) rfl rfl h (fun v8 h => ?_)
    refine v_isub 61 cx dX7_goByTicks_60 rfl ?_
    refine v_istore 63 (fun a9 => [(6, .int a9), (5, .int a7), (0, .ref (oX E 13)), (1, .int x1), (2, .ref (oX E 15)), (3, .int x3), (4, .int x4)]) cx dX7_goByTicks_61 (by decide) (fun _ => rfl) rfl h (fun a9 h => ?_)
    refine v_iload 65 0 cx dX7_goByTicks_63 rfl rfl ?_
    refine v_if_lt 120 68 cx dX7_goByTicks_65 (by decide) rfl h (fun h => ?_) (fun h => ?_)
    · refine v_iinc 123 6 (fun a10 => [(4, .int a10), (6, .int a9), (5, .int a7), (0, .ref (oX E 13)), (1, .int x1), (2, .ref (oX E 15)), (3, .int x3)]) cx dX7_goByTicks_120 rfl ic_1 (by decide) (fun _ => rfl) rfl h (fun a10 h => ?_)
      refine v_goto 25 cx dX7_goByTicks_123 (by decide) ?_
      cases h
      have hk : Vat C (wX E) 7 25 [(0, .ref (oX E 13)), (1, .int x1), (2, .ref (oX E 15)), (3, .int x3), (4, .int a10)] [] st := hk
      exact v_lsub (lv' := [(0, .ref (oX E 13)), (1, .int x1), (2, .ref (oX E 15)), (3, .int x3), (4, .int a10)]) [3, 4, 5, 6, 0] rfl (hk)
    · refine v_iload 70 0 cx dX7_goByTicks_68 rfl rfl ?_
      refine v_iload_n 71 3 cx dX7_goByTicks_70 rfl rfl rfl ?_
      refine v_icmp_ge 120 74 cx dX7_goByTicks_71 (by decide) rfl h (fun h => ?_) (fun h => ?_)
      · refine v_iinc 123 6 (fun a11 => [(4, .int a11), (6, .int a9), (5, .int a7), (0, .ref (oX E 13)), (1, .int x1), (2, .ref (oX E 15)), (3, .int x3)]) cx dX7_goByTicks_120 rfl ic_1 (by decide) (fun _ => rfl) rfl h (fun a11 h => ?_)
        refine v_goto 25 cx dX7_goByTicks_123 (by decide) ?_
        cases h
        have hk : Vat C (wX E) 7 25 [(0, .ref (oX E 13)), (1, .int x1), (2, .ref (oX E 15)), (3, .int x3), (4, .int a11)] [] st := hk
        exact v_lsub (lv' := [(0, .ref (oX E 13)), (1, .int x1), (2, .ref (oX E 15)), (3, .int x3), (4, .int a11)]) [3, 4, 5, 6, 0] rfl (hk)
      · refine v_aload_n 75 4 cx dX7_goByTicks_74 rfl rfl rfl ?_
        refine v_iload 77 1 cx dX7_goByTicks_75 rfl rfl ?_
        refine v_iload 79 0 cx dX7_goByTicks_77 rfl rfl ?_
        refine v_callVI 82 15 cx dX7_goByTicks_79 km_X7_125 ca_X5_endsAheadOf (wXo_15 E st) rfl (c_X5_endsAheadOf_15 C.2.1 E st a7 a9 ) rfl (by decide) rfl (Nat.le_of_ble_eq_true rfl) rfl h (fun v13 s12 h => ?_)
        refine v_if_ne 120 85 cx dX7_goByTicks_82 (by decide) rfl h (fun h => ?_) (fun h => ?_)
        · refine v_iinc 123 6 (fun a14 => [(4, .int a14), (6, .int a9), (5, .int a7), (0, .ref (oX E 13)), (1, .int x1), (2, .ref (oX E 15)), (3, .int x3)]) cx dX7_goByTicks_120 rfl ic_1 (by decide) (fun _ => rfl) rfl h (fun a14 h => ?_)
          refine v_goto 25 cx dX7_goByTicks_123 (by decide) ?_
          cases h
          have hk : Vat C (wX E) 7 25 [(0, .ref (oX E 13)), (1, .int x1), (2, .ref (oX E 15)), (3, .int x3), (4, .int a14)] [] s12 := hk
          exact v_lsub (lv' := [(0, .ref (oX E 13)), (1, .int x1), (2, .ref (oX E 15)), (3, .int x3), (4, .int a14)]) [3, 4, 5, 6, 0] rfl (hk)
        · refine v_aload_n 86 2 cx dX7_goByTicks_85 rfl rfl rfl ?_
          refine v_iload 88 1 cx dX7_goByTicks_86 rfl rfl ?_
          refine v_iload 90 0 cx dX7_goByTicks_88 rfl rfl ?_
          refine v_aload_n 91 4 cx dX7_goByTicks_90 rfl rfl rfl ?_
          refine v_callVV 94 13 cx dX7_goByTicks_91 km_X7_104 ca_X7_begin (wXo_13 E s12) rfl (c_X7_begin_15 C.2.1 E s12 a7 a9 ) rfl (by decide) rfl (Nat.le_of_ble_eq_true rfl) rfl h (fun _ s15 h => ?_)
          refine v_aload_n 95 4 cx dX7_goByTicks_94 rfl rfl rfl ?_
          refine v_iload_n 96 5 cx dX7_goByTicks_95 rfl rfl rfl ?_
          refine v_aload_n 97 2 cx dX7_goByTicks_96 rfl rfl rfl ?_
          refine v_get 100 13 2 cx dX7_goByTicks_97 iX7 (wXo_13 E s15) rfl (Nat.le_of_ble_eq_true rfl) rfl kf_X7_39 rfl rfl ?_
          refine v_getI 103 9 1 cx dX7_goByTicks_100 iX4 (wXo_9 E s15) rfl (Nat.le_of_ble_eq_true rfl) rfl kf_X7_129 rfl rfl h (fun v16 h => ?_)
          refine v_imul 104 cx dX7_goByTicks_103 rfl ?_
          refine v_aload_n 105 2 cx dX7_goByTicks_104 rfl rfl rfl ?_
          refine v_get 108 13 2 cx dX7_goByTicks_105 iX7 (wXo_13 E s15) rfl (Nat.le_of_ble_eq_true rfl) rfl kf_X7_39 rfl rfl ?_
          refine v_get 111 9 3 cx dX7_goByTicks_108 iX4 (wXo_9 E s15) rfl (Nat.le_of_ble_eq_true rfl) rfl kf_X7_132 rfl rfl ?_
          refine v_iload 113 1 cx dX7_goByTicks_111 rfl rfl ?_
          refine v_iald 114 48 0 cx dX7_goByTicks_113 (wXa_9_3 E s15) rfl rfl h (fun v17 h => ?_)
          refine v_iadd 115 cx dX7_goByTicks_114 rfl ?_
          refine v_iconst 116 cx dX7_goByTicks_115 ic_1 rfl ?_
          refine v_iadd 117 cx dX7_goByTicks_116 rfl ?_
          refine v_putI 120 15 4 cx dX7_goByTicks_117 iX5 tyX5_ok nmX5 (wXo_15 E s15) rfl (Nat.le_of_ble_eq_true rfl) rfl kf_X7_108 rfl rfl rfl rfl (Nat.le_of_ble_eq_true rfl) (wXs_15_4 E s15 _) rfl h (fun s18 h => ?_)
          refine v_iinc 123 6 (fun a19 => [(4, .int a19), (6, .int a9), (5, .int a7), (0, .ref (oX E 13)), (1, .int x1), (2, .ref (oX E 15)), (3, .int x3)]) cx dX7_goByTicks_120 rfl ic_1 (by decide) (fun _ => rfl) rfl h (fun a19 h => ?_)
          refine v_goto 25 cx dX7_goByTicks_123 (by decide) ?_
          cases h
          have hk : Vat C (wX E) 7 25 [(0, .ref (oX E 13)), (1, .int x1), (2, .ref (oX E 15)), (3, .int x3), (4, .int a19)] [] s18 := hk
          exact v_lsub (lv' := [(0, .ref (oX E 13)), (1, .int x1), (2, .ref (oX E 15)), (3, .int x3), (4, .int a19)]) [3, 4, 5, 6, 0] rfl (hk)
set_option maxHeartbeats 4000000 in
set_option maxRecDepth 100000 in
theorem b_X7_goByTicks_L7_15 {C : Cm} {E : Ev} (cx : Cx C (tyE E) cX7_goByTicks RX7 7 3 71) (x1 : Int32) : ∀ (s : (Int32 × Sg)) (out : (Int32 × Sg) ⊕ (Sg)), m_X7_goByTicks_L7 15 x1 s.1 s.2 = some out → Sum.elim (V_X7_goByTicks_L7_15 C E x1) (K_X7_goByTicks_L7_15 C E x1) out → V_X7_goByTicks_L7_15 C E x1 s := by
  intro s out h hk
  obtain ⟨x3, st⟩ := s
  show Vat C (wX E) 7 7 [(0, .ref (oX E 13)), (1, .int x1), (2, .ref (oX E 15)), (3, .int x3)] [] st
  replace h : m_X7_goByTicks_L7 15 x1 x3 st = some out := h
  unfold m_X7_goByTicks_L7 at h
  refine v_iload_n 8 3 cx dX7_goByTicks_7 rfl rfl rfl ?_
  refine v_iload_n 9 1 cx dX7_goByTicks_8 rfl rfl rfl ?_
  refine v_aload_n 10 0 cx dX7_goByTicks_9 rfl rfl rfl ?_
  refine v_get 13 13 2 cx dX7_goByTicks_10 iX7 (wXo_13 E st) rfl (Nat.le_of_ble_eq_true rfl) rfl kf_X7_39 rfl rfl ?_
  refine v_getI 16 9 2 cx dX7_goByTicks_13 iX4 (wXo_9 E st) rfl (Nat.le_of_ble_eq_true rfl) rfl kf_X7_61 rfl rfl h (fun v3 h => ?_)
  refine v_iadd 17 cx dX7_goByTicks_16 rfl ?_
  refine v_iconst 18 cx dX7_goByTicks_17 ic_1 rfl ?_
  refine v_isub 19 cx dX7_goByTicks_18 rfl ?_
  refine v_icmp_ge 132 22 cx dX7_goByTicks_19 (by decide) rfl h (fun h => ?_) (fun h => ?_)
  · cases h
    have hk : Vat C (wX E) 7 132 [] [] st := hk
    exact v_lsub (lv' := []) [] rfl (hk)
  · refine v_iconst 23 cx dX7_goByTicks_22 ic_0 rfl ?_
    refine v_istore 25 (fun a4 => [(4, .int a4), (0, .ref (oX E 13)), (1, .int x1), (2, .ref (oX E 15)), (3, .int x3)]) cx dX7_goByTicks_23 (by decide) (fun _ => rfl) rfl h (fun a4 h => ?_)
    refine v_lsub (lv' := [(0, .ref (oX E 13)), (1, .int x1), (2, .ref (oX E 15)), (3, .int x3), (4, .int a4)]) [1, 2, 3, 4, 0] rfl ?_
    refine v_loop (s0 := (a4, st)) (V_X7_goByTicks_L25_15 C E x1 x3) (K_X7_goByTicks_L25_15 C E x1 x3) h (b_X7_goByTicks_L25_15 cx x1 x3) (fun r20 h => ?_)
    show Vat C (wX E) 7 126 [(0, .ref (oX E 13)), (1, .int x1), (2, .ref (oX E 15)), (3, .int x3)] [] r20
    refine v_iinc 129 3 (fun a21 => [(3, .int a21), (0, .ref (oX E 13)), (1, .int x1), (2, .ref (oX E 15))]) cx dX7_goByTicks_126 rfl ic_1 (by decide) (fun _ => rfl) rfl h (fun a21 h => ?_)
    refine v_goto 7 cx dX7_goByTicks_129 (by decide) ?_
    cases h
    have hk : Vat C (wX E) 7 7 [(0, .ref (oX E 13)), (1, .int x1), (2, .ref (oX E 15)), (3, .int a21)] [] r20 := hk
    exact v_lsub (lv' := [(0, .ref (oX E 13)), (1, .int x1), (2, .ref (oX E 15)), (3, .int a21)]) [1, 2, 3, 0] rfl (hk)
set_option maxHeartbeats 4000000 in
set_option maxRecDepth 100000 in
theorem c_X7_goByTicks_15 (l : Launch) (E : Ev) (st : Sg) (p1 : Int32) : ∀ q, m_X7_goByTicks 15 p1 st = some q → CtV l (wX E) (tyE E) yX7_goByTicks cX7_goByTicks 7 none 3 71 [.ref (oX E 13), .int p1, .ref (oX E 15)] st q := by
  intro q h
  refine ctV_of (lv0 := [(0, .ref (oX E 13)), (1, .int p1), (2, .ref (oX E 15))]) (by decide) rfl (Nat.le_of_ble_eq_true rfl) (fun C hC cx hk => ?_)
  replace cx : Cx C (tyE E) cX7_goByTicks RX7 7 3 71 := cx
  unfold m_X7_goByTicks at h
  refine v_aload_n 1 2 cx dX7_goByTicks_0 rfl rfl rfl ?_
  refine v_iconst 2 cx dX7_goByTicks_1 ic_1 rfl ?_
  refine v_putI 5 15 5 cx dX7_goByTicks_2 iX5 tyX5_ok nmX5 (wXo_15 E st) rfl (Nat.le_of_ble_eq_true rfl) rfl kf_X7_115 rfl rfl rfl rfl (Nat.le_of_ble_eq_true rfl) (wXs_15_5 E st _) rfl h (fun s1 h => ?_)
  refine v_iconst 6 cx dX7_goByTicks_5 ic_0 rfl ?_
  refine v_istore_n 7 (fun a2 => [(3, .int a2), (0, .ref (oX E 13)), (1, .int p1), (2, .ref (oX E 15))]) cx dX7_goByTicks_6 rfl (by decide) (fun _ => rfl) rfl h (fun a2 h => ?_)
  refine v_lsub (lv' := [(0, .ref (oX E 13)), (1, .int p1), (2, .ref (oX E 15)), (3, .int a2)]) [1, 2, 3, 0] rfl ?_
  refine v_loop (s0 := (a2, s1)) (V_X7_goByTicks_L7_15 C E p1) (K_X7_goByTicks_L7_15 C E p1) h (b_X7_goByTicks_L7_15 cx p1) (fun r22 h => ?_)
  show Vat C (wX E) 7 132 [] [] r22
  exact hk _ _ _ _ (Option.some.inj h) dX7_goByTicks_132
def V_X7_goByTicks_L7_16 (C : Cm) (E : Ev) (x1 : Int32) (s : (Int32 × Sg)) : Prop := Vat C (wX E) 7 7 [(0, .ref (oX E 13)), (1, .int x1), (2, .ref (oX E 16)), (3, .int s.1)] [] s.2
def K_X7_goByTicks_L7_16 (C : Cm) (E : Ev) (x1 : Int32) : (Sg) → Prop := (fun r : (Sg) => Vat C (wX E) 7 132 [] [] r)
def V_X7_goByTicks_L25_16 (C : Cm) (E : Ev) (x1 : Int32) (x3 : Int32) (s : (Int32 × Sg)) : Prop := Vat C (wX E) 7 25 [(0, .ref (oX E 13)), (1, .int x1), (2, .ref (oX E 16)), (3, .int x3), (4, .int s.1)] [] s.2
def K_X7_goByTicks_L25_16 (C : Cm) (E : Ev) (x1 : Int32) (x3 : Int32) : (Sg) → Prop := (fun r : (Sg) => Vat C (wX E) 7 126 [(0, .ref (oX E 13)), (1, .int x1), (2, .ref (oX E 16)), (3, .int x3)] [] r)
set_option maxHeartbeats 4000000 in
set_option maxRecDepth 100000 in
theorem b_X7_goByTicks_L25_16 {C : Cm} {E : Ev} (cx : Cx C (tyE E) cX7_goByTicks RX7 7 3 71) (x1 : Int32) (x3 : Int32) : ∀ (s : (Int32 × Sg)) (out : (Int32 × Sg) ⊕ (Sg)), m_X7_goByTicks_L25 16 x1 x3 s.1 s.2 = some out → Sum.elim (V_X7_goByTicks_L25_16 C E x1 x3) (K_X7_goByTicks_L25_16 C E x1 x3) out → V_X7_goByTicks_L25_16 C E x1 x3 s := by
  intro s out h hk
  obtain ⟨x4, st⟩ := s
  show Vat C (wX E) 7 25 [(0, .ref (oX E 13)), (1, .int x1), (2, .ref (oX E 16)), (3, .int x3), (4, .int x4)] [] st
  replace h : m_X7_goByTicks_L25 16 x1 x3 x4 st = some out := h
  unfold m_X7_goByTicks_L25 at h
  refine v_iload 27 4 cx dX7_goByTicks_25 rfl rfl ?_
  refine v_aload_n 28 0 cx dX7_goByTicks_27 rfl rfl rfl ?_
  refine v_get 31 13 0 cx dX7_goByTicks_28 iX7 (wXo_13 E st) rfl (Nat.le_of_ble_eq_true rfl) rfl kf_X7_31 rfl rfl ?_
  refine v_getI 34 1 0 cx dX7_goByTicks_31 iX0 (wXo_1 E st) rfl (Nat.le_of_ble_eq_true rfl) rfl kf_X7_93 rfl rfl h (fun v5 h => ?_)
  refine v_icmp_ge 126 37 cx dX7_goByTicks_34 (by decide) rfl h (fun h => ?_) (fun h => ?_)
  · cases h
    have hk : Vat C (wX E) 7 126 [(0, .ref (oX E 13)), (1, .int x1), (2, .ref (oX E 16)), (3, .int x3)] [] st := hk
    exact v_lsub (lv' := [(0, .ref (oX E 13)), (1, .int x1), (2, .ref (oX E 16)), (3, .int x3)]) [0, 1, 2, 3] rfl (hk)
  · refine v_aload_n 38 0 cx dX7_goByTicks_37 rfl rfl rfl ?_
    refine v_get 41 13 2 cx dX7_goByTicks_38 iX7 (wXo_13 E st) rfl (Nat.le_of_ble_eq_true rfl) rfl kf_X7_39 rfl rfl ?_
    refine v_get 44 9 10 cx dX7_goByTicks_41 iX4 (wXo_9 E st) rfl (Nat.le_of_ble_eq_true rfl) rfl kf_X7_119 rfl rfl ?_
    refine v_iload 46 4 cx dX7_goByTicks_44 rfl rfl ?_
    refine v_iald 47 55 0 cx dX7_goByTicks_46 (wXa_9_10 E st) rfl rfl h (fun v6 h => ?_)
    refine v_istore 49 (fun a7 => [(5, .int a7), (0, .ref (oX E 13)), (1, .int x1), (2, .ref (oX E 16)), (3, .int x3), (4, .int x4)]) cx dX7_goByTicks_47 (by decide) (fun _ => rfl) rfl h (fun a7 h => ?_)
    refine v_iload_n 50 4 cx dX7_goByTicks_49 rfl rfl rfl ?_
    refine v_aload_n 51 1 cx dX7_goByTicks_50 rfl rfl rfl ?_
    refine v_get 54 13 2 cx dX7_goByTicks_51 iX7 (wXo_13 E st) rfl (Nat.le_of_ble_eq_true rfl) rfl kf_X7_39 rfl rfl ?_
    refine v_get 57 9 4 cx dX7_goByTicks_54 iX4 (wXo_9 E st) rfl (Nat.le_of_ble_eq_true rfl) rfl kf_X7_122 rfl rfl ?_
    refine v_iload 59 0 cx dX7_goByTicks_57 rfl rfl ?_
    refine v_iald 60 49 0 cx dX7_goByTicks_59 (wXa_9_4 E st) rfl rfl h (fun v8 h => ?_)
    refine v_isub 61 cx dX7_goByTicks_60 rfl ?_
    refine v_istore 63 (fun a9 => [(6, .int a9), (5, .int a7), (0, .ref (oX E 13)), (1, .int x1), (2, .ref (oX E 16)), (3, .int x3), (4, .int x4)]) cx dX7_goByTicks_61 (by decide) (fun _ => rfl) rfl h (fun a9 h => ?_)
    refine v_iload 65 0 cx dX7_goByTicks_63 rfl rfl ?_
    refine v_if_lt 120 68 cx dX7_goByTicks_65 (by decide) rfl h (fun h => ?_) (fun h => ?_)
    · refine v_iinc 123 6 (fun a10 => [(4, .int a10), (6, .int a9), (5, .int a7), (0, .ref (oX E 13)), (1, .int x1), (2, .ref (oX E 16)), (3, .int x3)]) cx dX7_goByTicks_120 rfl ic_1 (by decide) (fun _ => rfl) rfl h (fun a10 h => ?_)
      refine v_goto 25 cx dX7_goByTicks_123 (by decide) ?_
      cases h
      have hk : Vat C (wX E) 7 25 [(0, .ref (oX E 13)), (1, .int x1), (2, .ref (oX E 16)), (3, .int x3), (4, .int a10)] [] st := hk
      exact v_lsub (lv' := [(0, .ref (oX E 13)), (1, .int x1), (2, .ref (oX E 16)), (3, .int x3), (4, .int a10)]) [3, 4, 5, 6, 0] rfl (hk)
    · refine v_iload 70 0 cx dX7_goByTicks_68 rfl rfl ?_
      refine v_iload_n 71 3 cx dX7_goByTicks_70 rfl rfl rfl ?_
      refine v_icmp_ge 120 74 cx dX7_goByTicks_71 (by decide) rfl h (fun h => ?_) (fun h => ?_)
      · refine v_iinc 123 6 (fun a11 => [(4, .int a11), (6, .int a9), (5, .int a7), (0, .ref (oX E 13)), (1, .int x1), (2, .ref (oX E 16)), (3, .int x3)]) cx dX7_goByTicks_120 rfl ic_1 (by decide) (fun _ => rfl) rfl h (fun a11 h => ?_)
        refine v_goto 25 cx dX7_goByTicks_123 (by decide) ?_
        cases h
        have hk : Vat C (wX E) 7 25 [(0, .ref (oX E 13)), (1, .int x1), (2, .ref (oX E 16)), (3, .int x3), (4, .int a11)] [] st := hk
        exact v_lsub (lv' := [(0, .ref (oX E 13)), (1, .int x1), (2, .ref (oX E 16)), (3, .int x3), (4, .int a11)]) [3, 4, 5, 6, 0] rfl (hk)
      · refine v_aload_n 75 4 cx dX7_goByTicks_74 rfl rfl rfl ?_
        refine v_iload 77 1 cx dX7_goByTicks_75 rfl rfl ?_
        refine v_iload 79 0 cx dX7_goByTicks_77 rfl rfl ?_
        refine v_callVI 82 16 cx dX7_goByTicks_79 km_X7_125 ca_X5_endsAheadOf (wXo_16 E st) rfl (c_X5_endsAheadOf_16 C.2.1 E st a7 a9 ) rfl (by decide) rfl (Nat.le_of_ble_eq_true rfl) rfl h (fun v13 s12 h => ?_)
        refine v_if_ne 120 85 cx dX7_goByTicks_82 (by decide) rfl h (fun h => ?_) (fun h => ?_)
        · refine v_iinc 123 6 (fun a14 => [(4, .int a14), (6, .int a9), (5, .int a7), (0, .ref (oX E 13)), (1, .int x1), (2, .ref (oX E 16)), (3, .int x3)]) cx dX7_goByTicks_120 rfl ic_1 (by decide) (fun _ => rfl) rfl h (fun a14 h => ?_)
          refine v_goto 25 cx dX7_goByTicks_123 (by decide) ?_
          cases h
          have hk : Vat C (wX E) 7 25 [(0, .ref (oX E 13)), (1, .int x1), (2, .ref (oX E 16)), (3, .int x3), (4, .int a14)] [] s12 := hk
          exact v_lsub (lv' := [(0, .ref (oX E 13)), (1, .int x1), (2, .ref (oX E 16)), (3, .int x3), (4, .int a14)]) [3, 4, 5, 6, 0] rfl (hk)
        · refine v_aload_n 86 2 cx dX7_goByTicks_85 rfl rfl rfl ?_
          refine v_iload 88 1 cx dX7_goByTicks_86 rfl rfl ?_
          refine v_iload 90 0 cx dX7_goByTicks_88 rfl rfl ?_
          refine v_aload_n 91 4 cx dX7_goByTicks_90 rfl rfl rfl ?_
          refine v_callVV 94 13 cx dX7_goByTicks_91 km_X7_104 ca_X7_begin (wXo_13 E s12) rfl (c_X7_begin_16 C.2.1 E s12 a7 a9 ) rfl (by decide) rfl (Nat.le_of_ble_eq_true rfl) rfl h (fun _ s15 h => ?_)
          refine v_aload_n 95 4 cx dX7_goByTicks_94 rfl rfl rfl ?_
          refine v_iload_n 96 5 cx dX7_goByTicks_95 rfl rfl rfl ?_
          refine v_aload_n 97 2 cx dX7_goByTicks_96 rfl rfl rfl ?_
          refine v_get 100 13 2 cx dX7_goByTicks_97 iX7 (wXo_13 E s15) rfl (Nat.le_of_ble_eq_true rfl) rfl kf_X7_39 rfl rfl ?_
          refine v_getI 103 9 1 cx dX7_goByTicks_100 iX4 (wXo_9 E s15) rfl (Nat.le_of_ble_eq_true rfl) rfl kf_X7_129 rfl rfl h (fun v16 h => ?_)
          refine v_imul 104 cx dX7_goByTicks_103 rfl ?_
          refine v_aload_n 105 2 cx dX7_goByTicks_104 rfl rfl rfl ?_
          refine v_get 108 13 2 cx dX7_goByTicks_105 iX7 (wXo_13 E s15) rfl (Nat.le_of_ble_eq_true rfl) rfl kf_X7_39 rfl rfl ?_
          refine v_get 111 9 3 cx dX7_goByTicks_108 iX4 (wXo_9 E s15) rfl (Nat.le_of_ble_eq_true rfl) rfl kf_X7_132 rfl rfl ?_
          refine v_iload 113 1 cx dX7_goByTicks_111 rfl rfl ?_
          refine v_iald 114 48 0 cx dX7_goByTicks_113 (wXa_9_3 E s15) rfl rfl h (fun v17 h => ?_)
          refine v_iadd 115 cx dX7_goByTicks_114 rfl ?_
          refine v_iconst 116 cx dX7_goByTicks_115 ic_1 rfl ?_
          refine v_iadd 117 cx dX7_goByTicks_116 rfl ?_
          refine v_putI 120 16 4 cx dX7_goByTicks_117 iX5 tyX5_ok nmX5 (wXo_16 E s15) rfl (Nat.le_of_ble_eq_true rfl) rfl kf_X7_108 rfl rfl rfl rfl (Nat.le_of_ble_eq_true rfl) (wXs_16_4 E s15 _) rfl h (fun s18 h => ?_)
          refine v_iinc 123 6 (fun a19 => [(4, .int a19), (6, .int a9), (5, .int a7), (0, .ref (oX E 13)), (1, .int x1), (2, .ref (oX E 16)), (3, .int x3)]) cx dX7_goByTicks_120 rfl ic_1 (by decide) (fun _ => rfl) rfl h (fun a19 h => ?_)
          refine v_goto 25 cx dX7_goByTicks_123 (by decide) ?_
          cases h
          have hk : Vat C (wX E) 7 25 [(0, .ref (oX E 13)), (1, .int x1), (2, .ref (oX E 16)), (3, .int x3), (4, .int a19)] [] s18 := hk
          exact v_lsub (lv' := [(0, .ref (oX E 13)), (1, .int x1), (2, .ref (oX E 16)), (3, .int x3), (4, .int a19)]) [3, 4, 5, 6, 0] rfl (hk)
set_option maxHeartbeats 4000000 in
set_option maxRecDepth 100000 in
theorem b_X7_goByTicks_L7_16 {C : Cm} {E : Ev} (cx : Cx C (tyE E) cX7_goByTicks RX7 7 3 71) (x1 : Int32) : ∀ (s : (Int32 × Sg)) (out : (Int32 × Sg) ⊕ (Sg)), m_X7_goByTicks_L7 16 x1 s.1 s.2 = some out → Sum.elim (V_X7_goByTicks_L7_16 C E x1) (K_X7_goByTicks_L7_16 C E x1) out → V_X7_goByTicks_L7_16 C E x1 s := by
  intro s out h hk
  obtain ⟨x3, st⟩ := s
  show Vat C (wX E) 7 7 [(0, .ref (oX E 13)), (1, .int x1), (2, .ref (oX E 16)), (3, .int x3)] [] st
  replace h : m_X7_goByTicks_L7 16 x1 x3 st = some out := h
  unfold m_X7_goByTicks_L7 at h
  refine v_iload_n 8 3 cx dX7_goByTicks_7 rfl rfl rfl ?_
  refine v_iload_n 9 1 cx dX7_goByTicks_8 rfl rfl rfl ?_
  refine v_aload_n 10 0 cx dX7_goByTicks_9 rfl rfl rfl ?_
  refine v_get 13 13 2 cx dX7_goByTicks_10 iX7 (wXo_13 E st) rfl (Nat.le_of_ble_eq_true rfl) rfl kf_X7_39 rfl rfl ?_
  refine v_getI 16 9 2 cx dX7_goByTicks_13 iX4 (wXo_9 E st) rfl (Nat.le_of_ble_eq_true rfl) rfl kf_X7_61 rfl rfl h (fun v3 h => ?_)
  refine v_iadd 17 cx dX7_goByTicks_16 rfl ?_
  refine v_iconst 18 cx dX7_goByTicks_17 ic_1 rfl ?_
  refine v_isub 19 cx dX7_goByTicks_18 rfl ?_
  refine v_icmp_ge 132 22 cx dX7_goByTicks_19 (by decide) rfl h (fun h => ?_) (fun h => ?_)
  · cases h
    have hk : Vat C (wX E) 7 132 [] [] st := hk
    exact v_lsub (lv' := []) [] rfl (hk)
  · refine v_iconst 23 cx dX7_goByTicks_22 ic_0 rfl ?_
    refine v_istore 25 (fun a4 => [(4, .int a4), (0, .ref (oX E 13)), (1, .int x1), (2, .ref (oX E 16)), (3, .int x3)]) cx dX7_goByTicks_23 (by decide) (fun _ => rfl) rfl h (fun a4 h => ?_)
    refine v_lsub (lv' := [(0, .ref (oX E 13)), (1, .int x1), (2, .ref (oX E 16)), (3, .int x3), (4, .int a4)]) [1, 2, 3, 4, 0] rfl ?_
    refine v_loop (s0 := (a4, st)) (V_X7_goByTicks_L25_16 C E x1 x3) (K_X7_goByTicks_L25_16 C E x1 x3) h (b_X7_goByTicks_L25_16 cx x1 x3) (fun r20 h => ?_)
    show Vat C (wX E) 7 126 [(0, .ref (oX E 13)), (1, .int x1), (2, .ref (oX E 16)), (3, .int x3)] [] r20
    refine v_iinc 129 3 (fun a21 => [(3, .int a21), (0, .ref (oX E 13)), (1, .int x1), (2, .ref (oX E 16))]) cx dX7_goByTicks_126 rfl ic_1 (by decide) (fun _ => rfl) rfl h (fun a21 h => ?_)
    refine v_goto 7 cx dX7_goByTicks_129 (by decide) ?_
    cases h
    have hk : Vat C (wX E) 7 7 [(0, .ref (oX E 13)), (1, .int x1), (2, .ref (oX E 16)), (3, .int a21)] [] r20 := hk
    exact v_lsub (lv' := [(0, .ref (oX E 13)), (1, .int x1), (2, .ref (oX E 16)), (3, .int a21)]) [1, 2, 3, 0] rfl (hk)
set_option maxHeartbeats 4000000 in
set_option maxRecDepth 100000 in
theorem c_X7_goByTicks_16 (l : Launch) (E : Ev) (st : Sg) (p1 : Int32) : ∀ q, m_X7_goByTicks 16 p1 st = some q → CtV l (wX E) (tyE E) yX7_goByTicks cX7_goByTicks 7 none 3 71 [.ref (oX E 13), .int p1, .ref (oX E 16)] st q := by
  intro q h
  refine ctV_of (lv0 := [(0, .ref (oX E 13)), (1, .int p1), (2, .ref (oX E 16))]) (by decide) rfl (Nat.le_of_ble_eq_true rfl) (fun C hC cx hk => ?_)
  replace cx : Cx C (tyE E) cX7_goByTicks RX7 7 3 71 := cx
  unfold m_X7_goByTicks at h
  refine v_aload_n 1 2 cx dX7_goByTicks_0 rfl rfl rfl ?_
  refine v_iconst 2 cx dX7_goByTicks_1 ic_1 rfl ?_
  refine v_putI 5 16 5 cx dX7_goByTicks_2 iX5 tyX5_ok nmX5 (wXo_16 E st) rfl (Nat.le_of_ble_eq_true rfl) rfl kf_X7_115 rfl rfl rfl rfl (Nat.le_of_ble_eq_true rfl) (wXs_16_5 E st _) rfl h (fun s1 h => ?_)
  refine v_iconst 6 cx dX7_goByTicks_5 ic_0 rfl ?_
  refine v_istore_n 7 (fun a2 => [(3, .int a2), (0, .ref (oX E 13)), (1, .int p1), (2, .ref (oX E 16))]) cx dX7_goByTicks_6 rfl (by decide) (fun _ => rfl) rfl h (fun a2 h => ?_)
  refine v_lsub (lv' := [(0, .ref (oX E 13)), (1, .int p1), (2, .ref (oX E 16)), (3, .int a2)]) [1, 2, 3, 0] rfl ?_
  refine v_loop (s0 := (a2, s1)) (V_X7_goByTicks_L7_16 C E p1) (K_X7_goByTicks_L7_16 C E p1) h (b_X7_goByTicks_L7_16 cx p1) (fun r22 h => ?_)
  show Vat C (wX E) 7 132 [] [] r22
  exact hk _ _ _ _ (Option.some.inj h) dX7_goByTicks_132
