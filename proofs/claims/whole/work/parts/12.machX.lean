-- machine layer (written by gen.py)
def V_X7_goPlain_L2_14 (C : Cm) (E : Ev) (x1 : Int32) (s : (Int32 × Sg)) : Prop := Vat C (wX E) 5 2 [(0, .ref (oX E 13)), (1, .int x1), (2, .ref (oX E 14)), (3, .int s.1)] [] s.2
def K_X7_goPlain_L2_14 (C : Cm) (E : Ev) (x1 : Int32) : (Sg) → Prop := (fun r : (Sg) => Vat C (wX E) 5 75 [] [] r)
def V_X7_goPlain_L17_14 (C : Cm) (E : Ev) (x1 : Int32) (x3 : Int32) (s : (Int32 × Sg)) : Prop := Vat C (wX E) 5 17 [(0, .ref (oX E 13)), (1, .int x1), (2, .ref (oX E 14)), (3, .int x3), (4, .int s.1)] [] s.2
def K_X7_goPlain_L17_14 (C : Cm) (E : Ev) (x1 : Int32) (x3 : Int32) : (Sg) → Prop := (fun r : (Sg) => Vat C (wX E) 5 69 [(0, .ref (oX E 13)), (1, .int x1), (2, .ref (oX E 14)), (3, .int x3)] [] r)
set_option maxHeartbeats 4000000 in
set_option maxRecDepth 100000 in
theorem b_X7_goPlain_L17_14 {C : Cm} {E : Ev} (cx : Cx C (tyE E) cX7_goPlain RX7 5 3 71) (x1 : Int32) (x3 : Int32) : ∀ (s : (Int32 × Sg)) (out : (Int32 × Sg) ⊕ (Sg)), m_X7_goPlain_L17 14 x1 x3 s.1 s.2 = some out → Sum.elim (V_X7_goPlain_L17_14 C E x1 x3) (K_X7_goPlain_L17_14 C E x1 x3) out → V_X7_goPlain_L17_14 C E x1 x3 s := by
  intro s out h hk
  obtain ⟨x4, st⟩ := s
  show Vat C (wX E) 5 17 [(0, .ref (oX E 13)), (1, .int x1), (2, .ref (oX E 14)), (3, .int x3), (4, .int x4)] [] st
  replace h : m_X7_goPlain_L17 14 x1 x3 x4 st = some out := h
  unfold m_X7_goPlain_L17 at h
  refine v_iload 19 4 cx dX7_goPlain_17 rfl rfl ?_
  refine v_aload_n 20 0 cx dX7_goPlain_19 rfl rfl rfl ?_
  refine v_get 23 13 0 cx dX7_goPlain_20 iX7 (wXo_13 E st) rfl (Nat.le_of_ble_eq_true rfl) rfl kf_X7_31 rfl rfl ?_
  refine v_getI 26 1 0 cx dX7_goPlain_23 iX0 (wXo_1 E st) rfl (Nat.le_of_ble_eq_true rfl) rfl kf_X7_93 rfl rfl h (fun v4 h => ?_)
  refine v_icmp_ge 69 29 cx dX7_goPlain_26 (by decide) rfl h (fun h => ?_) (fun h => ?_)
  · cases h
    have hk : Vat C (wX E) 5 69 [(0, .ref (oX E 13)), (1, .int x1), (2, .ref (oX E 14)), (3, .int x3)] [] st := hk
    exact v_lsub (lv' := [(0, .ref (oX E 13)), (1, .int x1), (2, .ref (oX E 14)), (3, .int x3)]) [0, 1, 2, 3] rfl (hk)
  · refine v_aload_n 30 2 cx dX7_goPlain_29 rfl rfl rfl ?_
    refine v_getI 33 14 0 cx dX7_goPlain_30 iX5 (wXo_14 E st) rfl (Nat.le_of_ble_eq_true rfl) rfl kf_X7_74 rfl rfl h (fun v5 h => ?_)
    refine v_if_ne 69 36 cx dX7_goPlain_33 (by decide) rfl h (fun h => ?_) (fun h => ?_)
    · cases h
      have hk : Vat C (wX E) 5 69 [(0, .ref (oX E 13)), (1, .int x1), (2, .ref (oX E 14)), (3, .int x3)] [] st := hk
      exact v_lsub (lv' := [(0, .ref (oX E 13)), (1, .int x1), (2, .ref (oX E 14)), (3, .int x3)]) [0, 1, 2, 3] rfl (hk)
    · refine v_aload_n 37 0 cx dX7_goPlain_36 rfl rfl rfl ?_
      refine v_iload 39 4 cx dX7_goPlain_37 rfl rfl ?_
      refine v_iload_n 40 3 cx dX7_goPlain_39 rfl rfl rfl ?_
      refine v_aload_n 41 2 cx dX7_goPlain_40 rfl rfl rfl ?_
      refine v_callVV 44 13 cx dX7_goPlain_41 km_X7_104 ca_X7_begin (wXo_13 E st) rfl (c_X7_begin_14 C.2.1 E st x4 x3 ) rfl (by decide) rfl (Nat.le_of_ble_eq_true rfl) rfl h (fun _ s6 h => ?_)
      refine v_aload_n 45 2 cx dX7_goPlain_44 rfl rfl rfl ?_
      refine v_dup 46 cx dX7_goPlain_45 rfl rfl ?_
      refine v_getI 49 14 4 cx dX7_goPlain_46 iX5 (wXo_14 E s6) rfl (Nat.le_of_ble_eq_true rfl) rfl kf_X7_108 rfl rfl h (fun v7 h => ?_)
      refine v_aload_n 50 0 cx dX7_goPlain_49 rfl rfl rfl ?_
      refine v_get 53 13 0 cx dX7_goPlain_50 iX7 (wXo_13 E s6) rfl (Nat.le_of_ble_eq_true rfl) rfl kf_X7_31 rfl rfl ?_
      refine v_get 56 1 2 cx dX7_goPlain_53 iX0 (wXo_1 E s6) rfl (Nat.le_of_ble_eq_true rfl) rfl kf_X7_111 rfl rfl ?_
      refine v_iload 58 4 cx dX7_goPlain_56 rfl rfl ?_
      refine v_iald 59 19 0 cx dX7_goPlain_58 (wXa_1_2 E s6) rfl rfl h (fun v8 h => ?_)
      refine v_iadd 60 cx dX7_goPlain_59 rfl ?_
      refine v_putI 63 14 4 cx dX7_goPlain_60 iX5 tyX5_ok nmX5 (wXo_14 E s6) rfl (Nat.le_of_ble_eq_true rfl) rfl kf_X7_108 rfl rfl rfl rfl (Nat.le_of_ble_eq_true rfl) (wXs_14_4 E s6 _) rfl h (fun s9 h => ?_)
      refine v_iinc 66 4 (fun a10 => [(4, .int a10), (0, .ref (oX E 13)), (1, .int x1), (2, .ref (oX E 14)), (3, .int x3)]) cx dX7_goPlain_63 rfl ic_1 (by decide) (fun _ => rfl) rfl h (fun a10 h => ?_)
      refine v_goto 17 cx dX7_goPlain_66 (by decide) ?_
      cases h
      have hk : Vat C (wX E) 5 17 [(0, .ref (oX E 13)), (1, .int x1), (2, .ref (oX E 14)), (3, .int x3), (4, .int a10)] [] s9 := hk
      exact v_lsub (lv' := [(0, .ref (oX E 13)), (1, .int x1), (2, .ref (oX E 14)), (3, .int x3), (4, .int a10)]) [1, 2, 3, 4, 0] rfl (hk)
set_option maxHeartbeats 4000000 in
set_option maxRecDepth 100000 in
theorem b_X7_goPlain_L2_14 {C : Cm} {E : Ev} (cx : Cx C (tyE E) cX7_goPlain RX7 5 3 71) (x1 : Int32) : ∀ (s : (Int32 × Sg)) (out : (Int32 × Sg) ⊕ (Sg)), m_X7_goPlain_L2 14 x1 s.1 s.2 = some out → Sum.elim (V_X7_goPlain_L2_14 C E x1) (K_X7_goPlain_L2_14 C E x1) out → V_X7_goPlain_L2_14 C E x1 s := by
  intro s out h hk
  obtain ⟨x3, st⟩ := s
  show Vat C (wX E) 5 2 [(0, .ref (oX E 13)), (1, .int x1), (2, .ref (oX E 14)), (3, .int x3)] [] st
  replace h : m_X7_goPlain_L2 14 x1 x3 st = some out := h
  unfold m_X7_goPlain_L2 at h
  refine v_iload_n 3 3 cx dX7_goPlain_2 rfl rfl rfl ?_
  refine v_iload_n 4 1 cx dX7_goPlain_3 rfl rfl rfl ?_
  refine v_icmp_ge 75 7 cx dX7_goPlain_4 (by decide) rfl h (fun h => ?_) (fun h => ?_)
  · cases h
    have hk : Vat C (wX E) 5 75 [] [] st := hk
    exact v_lsub (lv' := []) [] rfl (hk)
  · refine v_aload_n 8 2 cx dX7_goPlain_7 rfl rfl rfl ?_
    refine v_getI 11 14 0 cx dX7_goPlain_8 iX5 (wXo_14 E st) rfl (Nat.le_of_ble_eq_true rfl) rfl kf_X7_74 rfl rfl h (fun v2 h => ?_)
    refine v_if_ne 75 14 cx dX7_goPlain_11 (by decide) rfl h (fun h => ?_) (fun h => ?_)
    · cases h
      have hk : Vat C (wX E) 5 75 [] [] st := hk
      exact v_lsub (lv' := []) [] rfl (hk)
    · refine v_iconst 15 cx dX7_goPlain_14 ic_0 rfl ?_
      refine v_istore 17 (fun a3 => [(4, .int a3), (0, .ref (oX E 13)), (1, .int x1), (2, .ref (oX E 14)), (3, .int x3)]) cx dX7_goPlain_15 (by decide) (fun _ => rfl) rfl h (fun a3 h => ?_)
      refine v_lsub (lv' := [(0, .ref (oX E 13)), (1, .int x1), (2, .ref (oX E 14)), (3, .int x3), (4, .int a3)]) [1, 2, 3, 4, 0] rfl ?_
      refine v_loop (s0 := (a3, st)) (V_X7_goPlain_L17_14 C E x1 x3) (K_X7_goPlain_L17_14 C E x1 x3) h (b_X7_goPlain_L17_14 cx x1 x3) (fun r11 h => ?_)
      show Vat C (wX E) 5 69 [(0, .ref (oX E 13)), (1, .int x1), (2, .ref (oX E 14)), (3, .int x3)] [] r11
      refine v_iinc 72 3 (fun a12 => [(3, .int a12), (0, .ref (oX E 13)), (1, .int x1), (2, .ref (oX E 14))]) cx dX7_goPlain_69 rfl ic_1 (by decide) (fun _ => rfl) rfl h (fun a12 h => ?_)
      refine v_goto 2 cx dX7_goPlain_72 (by decide) ?_
      cases h
      have hk : Vat C (wX E) 5 2 [(0, .ref (oX E 13)), (1, .int x1), (2, .ref (oX E 14)), (3, .int a12)] [] r11 := hk
      exact v_lsub (lv' := [(0, .ref (oX E 13)), (1, .int x1), (2, .ref (oX E 14)), (3, .int a12)]) [1, 2, 3, 0] rfl (hk)
set_option maxHeartbeats 4000000 in
set_option maxRecDepth 100000 in
theorem c_X7_goPlain_14 (l : Launch) (E : Ev) (st : Sg) (p1 : Int32) : ∀ q, m_X7_goPlain 14 p1 st = some q → CtV l (wX E) (tyE E) yX7_goPlain cX7_goPlain 5 none 3 71 [.ref (oX E 13), .int p1, .ref (oX E 14)] st q := by
  intro q h
  refine ctV_of (lv0 := [(0, .ref (oX E 13)), (1, .int p1), (2, .ref (oX E 14))]) (by decide) rfl (Nat.le_of_ble_eq_true rfl) (fun C hC cx hk => ?_)
  replace cx : Cx C (tyE E) cX7_goPlain RX7 5 3 71 := cx
  unfold m_X7_goPlain at h
  refine v_iconst 1 cx dX7_goPlain_0 ic_0 rfl ?_
  refine v_istore_n 2 (fun a1 => [(3, .int a1), (0, .ref (oX E 13)), (1, .int p1), (2, .ref (oX E 14))]) cx dX7_goPlain_1 rfl (by decide) (fun _ => rfl) rfl h (fun a1 h => ?_)
  refine v_lsub (lv' := [(0, .ref (oX E 13)), (1, .int p1), (2, .ref (oX E 14)), (3, .int a1)]) [1, 2, 3, 0] rfl ?_
  refine v_loop (s0 := (a1, st)) (V_X7_goPlain_L2_14 C E p1) (K_X7_goPlain_L2_14 C E p1) h (b_X7_goPlain_L2_14 cx p1) (fun r13 h => ?_)
  show Vat C (wX E) 5 75 [] [] r13
  exact hk _ _ _ _ (Option.some.inj h) dX7_goPlain_75
def V_X7_goPlain_L2_15 (C : Cm) (E : Ev) (x1 : Int32) (s : (Int32 × Sg)) : Prop := Vat C (wX E) 5 2 [(0, .ref (oX E 13)), (1, .int x1), (2, .ref (oX E 15)), (3, .int s.1)] [] s.2
def K_X7_goPlain_L2_15 (C : Cm) (E : Ev) (x1 : Int32) : (Sg) → Prop := (fun r : (Sg) => Vat C (wX E) 5 75 [] [] r)
def V_X7_goPlain_L17_15 (C : Cm) (E : Ev) (x1 : Int32) (x3 : Int32) (s : (Int32 × Sg)) : Prop := Vat C (wX E) 5 17 [(0, .ref (oX E 13)), (1, .int x1), (2, .ref (oX E 15)), (3, .int x3), (4, .int s.1)] [] s.2
def K_X7_goPlain_L17_15 (C : Cm) (E : Ev) (x1 : Int32) (x3 : Int32) : (Sg) → Prop := (fun r : (Sg) => Vat C (wX E) 5 69 [(0, .ref (oX E 13)), (1, .int x1), (2, .ref (oX E 15)), (3, .int x3)] [] r)
set_option maxHeartbeats 4000000 in
set_option maxRecDepth 100000 in
theorem b_X7_goPlain_L17_15 {C : Cm} {E : Ev} (cx : Cx C (tyE E) cX7_goPlain RX7 5 3 71) (x1 : Int32) (x3 : Int32) : ∀ (s : (Int32 × Sg)) (out : (Int32 × Sg) ⊕ (Sg)), m_X7_goPlain_L17 15 x1 x3 s.1 s.2 = some out → Sum.elim (V_X7_goPlain_L17_15 C E x1 x3) (K_X7_goPlain_L17_15 C E x1 x3) out → V_X7_goPlain_L17_15 C E x1 x3 s := by
  intro s out h hk
  obtain ⟨x4, st⟩ := s
  show Vat C (wX E) 5 17 [(0, .ref (oX E 13)), (1, .int x1), (2, .ref (oX E 15)), (3, .int x3), (4, .int x4)] [] st
  replace h : m_X7_goPlain_L17 15 x1 x3 x4 st = some out := h
  unfold m_X7_goPlain_L17 at h
  refine v_iload 19 4 cx dX7_goPlain_17 rfl rfl ?_
  refine v_aload_n 20 0 cx dX7_goPlain_19 rfl rfl rfl ?_
  refine v_get 23 13 0 cx dX7_goPlain_20 iX7 (wXo_13 E st) rfl (Nat.le_of_ble_eq_true rfl) rfl kf_X7_31 rfl rfl ?_
  refine v_getI 26 1 0 cx dX7_goPlain_23 iX0 (wXo_1 E st) rfl (Nat.le_of_ble_eq_true rfl) rfl kf_X7_93 rfl rfl h (fun v4 h => ?_)
  refine v_icmp_ge 69 29 cx dX7_goPlain_26 (by decide) rfl h (fun h => ?_) (fun h => ?_)
  · cases h
    have hk : Vat C (wX E) 5 69 [(0, .ref (oX E 13)), (1, .int x1), (2, .ref (oX E 15)), (3, .int x3)] [] st := hk
    exact v_lsub (lv' := [(0, .ref (oX E 13)), (1, .int x1), (2, .ref (oX E 15)), (3, .int x3)]) [0, 1, 2, 3] rfl (hk)
  · refine v_aload_n 30 2 cx dX7_goPlain_29 rfl rfl rfl ?_
    refine v_getI 33 15 0 cx dX7_goPlain_30 iX5 (wXo_15 E st) rfl (Nat.le_of_ble_eq_true rfl) rfl kf_X7_74 rfl rfl h (fun v5 h => ?_)
    refine v_if_ne 69 36 cx dX7_goPlain_33 (by decide) rfl h (fun h => ?_) (fun h => ?_)
    · cases h
      have hk : Vat C (wX E) 5 69 [(0, .ref (oX E 13)), (1, .int x1), (2, .ref (oX E 15)), (3, .int x3)] [] st := hk
      exact v_lsub (lv' := [(0, .ref (oX E 13)), (1, .int x1), (2, .ref (oX E 15)), (3, .int x3)]) [0, 1, 2, 3] rfl (hk)
    · refine v_aload_n 37 0 cx dX7_goPlain_36 rfl rfl rfl ?_
      refine v_iload 39 4 cx dX7_goPlain_37 rfl rfl ?_
      refine v_iload_n 40 3 cx dX7_goPlain_39 rfl rfl rfl ?_
      refine v_aload_n 41 2 cx dX7_goPlain_40 rfl rfl rfl ?_
      refine v_callVV 44 13 cx dX7_goPlain_41 km_X7_104 ca_X7_begin (wXo_13 E st) rfl (c_X7_begin_15 C.2.1 E st x4 x3 ) rfl (by decide) rfl (Nat.le_of_ble_eq_true rfl) rfl h (fun _ s6 h => ?_)
      refine v_aload_n 45 2 cx dX7_goPlain_44 rfl rfl rfl ?_
      refine v_dup 46 cx dX7_goPlain_45 rfl rfl ?_
      refine v_getI 49 15 4 cx dX7_goPlain_46 iX5 (wXo_15 E s6) rfl (Nat.le_of_ble_eq_true rfl) rfl kf_X7_108 rfl rfl h (fun v7 h => ?_)
      refine v_aload_n 50 0 cx dX7_goPlain_49 rfl rfl rfl ?_
      refine v_get 53 13 0 cx dX7_goPlain_50 iX7 (wXo_13 E s6) rfl (Nat.le_of_ble_eq_true rfl) rfl kf_X7_31 rfl rfl ?_
      refine v_get 56 1 2 cx dX7_goPlain_53 iX0 (wXo_1 E s6) rfl (Nat.le_of_ble_eq_true rfl) rfl kf_X7_111 rfl rfl ?_
      refine v_iload 58 4 cx dX7_goPlain_56 rfl rfl ?_
      refine v_iald 59 19 0 cx dX7_goPlain_58 (wXa_1_2 E s6) rfl rfl h (fun v8 h => ?_)
      refine v_iadd 60 cx dX7_goPlain_59 rfl ?_
      refine v_putI 63 15 4 cx dX7_goPlain_60 iX5 tyX5_ok nmX5 (wXo_15 E s6) rfl (Nat.le_of_ble_eq_true rfl) rfl kf_X7_108 rfl rfl rfl rfl (Nat.le_of_ble_eq_true rfl) (wXs_15_4 E s6 _) rfl h (fun s9 h => ?_)
      refine v_iinc 66 4 (fun a10 => [(4, .int a10), (0, .ref (oX E 13)), (1, .int x1), (2, .ref (oX E 15)), (3, .int x3)]) cx dX7_goPlain_63 rfl ic_1 (by decide) (fun _ => rfl) rfl h (fun a10 h => ?_)
      refine v_goto 17 cx dX7_goPlain_66 (by decide) ?_
      cases h
      have hk : Vat C (wX E) 5 17 [(0, .ref (oX E 13)), (1, .int x1), (2, .ref (oX E 15)), (3, .int x3), (4, .int a10)] [] s9 := hk
      exact v_lsub (lv' := [(0, .ref (oX E 13)), (1, .int x1), (2, .ref (oX E 15)), (3, .int x3), (4, .int a10)]) [1, 2, 3, 4, 0] rfl (hk)
set_option maxHeartbeats 4000000 in
set_option maxRecDepth 100000 in
theorem b_X7_goPlain_L2_15 {C : Cm} {E : Ev} (cx : Cx C (tyE E) cX7_goPlain RX7 5 3 71) (x1 : Int32) : ∀ (s : (Int32 × Sg)) (out : (Int32 × Sg) ⊕ (Sg)), m_X7_goPlain_L2 15 x1 s.1 s.2 = some out → Sum.elim (V_X7_goPlain_L2_15 C E x1) (K_X7_goPlain_L2_15 C E x1) out → V_X7_goPlain_L2_15 C E x1 s := by
  intro s out h hk
  obtain ⟨x3, st⟩ := s
  show Vat C (wX E) 5 2 [(0, .ref (oX E 13)), (1, .int x1), (2, .ref (oX E 15)), (3, .int x3)] [] st
  replace h : m_X7_goPlain_L2 15 x1 x3 st = some out := h
  unfold m_X7_goPlain_L2 at h
  refine v_iload_n 3 3 cx dX7_goPlain_2 rfl rfl rfl ?_
  refine v_iload_n 4 1 cx dX7_goPlain_3 rfl rfl rfl ?_
  refine v_icmp_ge 75 7 cx dX7_goPlain_4 (by decide) rfl h (fun h => ?_) (fun h => ?_)
  · cases h
    have hk : Vat C (wX E) 5 75 [] [] st := hk
    exact v_lsub (lv' := []) [] rfl (hk)
  · refine v_aload_n 8 2 cx dX7_goPlain_7 rfl rfl rfl ?_
    refine v_getI 11 15 0 cx dX7_goPlain_8 iX5 (wXo_15 E st) rfl (Nat.le_of_ble_eq_true rfl) rfl kf_X7_74 rfl rfl h (fun v2 h => ?_)
    refine v_if_ne 75 14 cx dX7_goPlain_11 (by decide) rfl h (fun h => ?_) (fun h => ?_)
    · cases h
      have hk : Vat C (wX E) 5 75 [] [] st := hk
      exact v_lsub (lv' := []) [] rfl (hk)
    · refine v_iconst 15 cx dX7_goPlain_14 ic_0 rfl ?_
      refine v_istore 17 (fun a3 => [(4, .int a3), (0, .ref (oX E 13)), (1, .int x1), (2, .ref (oX E 15)), (3, .int x3)]) cx dX7_goPlain_15 (by decide) (fun _ => rfl) rfl h (fun a3 h => ?_)
      refine v_lsub (lv' := [(0, .ref (oX E 13)), (1, .int x1), (2, .ref (oX E 15)), (3, .int x3), (4, .int a3)]) [1, 2, 3, 4, 0] rfl ?_
      refine v_loop (s0 := (a3, st)) (V_X7_goPlain_L17_15 C E x1 x3) (K_X7_goPlain_L17_15 C E x1 x3) h (b_X7_goPlain_L17_15 cx x1 x3) (fun r11 h => ?_)
      show Vat C (wX E) 5 69 [(0, .ref (oX E 13)), (1, .int x1), (2, .ref (oX E 15)), (3, .int x3)] [] r11
      refine v_iinc 72 3 (fun a12 => [(3, .int a12), (0, .ref (oX E 13)), (1, .int x1), (2, .ref (oX E 15))]) cx dX7_goPlain_69 rfl ic_1 (by decide) (fun _ => rfl) rfl h (fun a12 h => ?_)
      refine v_goto 2 cx dX7_goPlain_72 (by decide) ?_
      cases h
      have hk : Vat C (wX E) 5 2 [(0, .ref (oX E 13)), (1, .int x1), (2, .ref (oX E 15)), (3, .int a12)] [] r11 := hk
      exact v_lsub (lv' := [(0, .ref (oX E 13)), (1, .int x1), (2, .ref (oX E 15)), (3, .int a12)]) [1, 2, 3, 0] rfl (hk)
set_option maxHeartbeats 4000000 in
set_option maxRecDepth 100000 in
theorem c_X7_goPlain_15 (l : Launch) (E : Ev) (st : Sg) (p1 : Int32) : ∀ q, m_X7_goPlain 15 p1 st = some q → CtV l (wX E) (tyE E) yX7_goPlain cX7_goPlain 5 none 3 71 [.ref (oX E 13), .int p1, .ref (oX E 15)] st q := by
  intro q h
  refine ctV_of (lv0 := [(0, .ref (oX E 13)), (1, .int p1), (2, .ref (oX E 15))]) (by decide) rfl (Nat.le_of_ble_eq_true rfl) (fun C hC cx hk => ?_)
  replace cx : Cx C (tyE E) cX7_goPlain RX7 5 3 71 := cx
  unfold m_X7_goPlain at h
  refine v_iconst 1 cx dX7_goPlain_0 ic_0 rfl ?_
  refine v_istore_n 2 (fun a1 => [(3, .int a1), (0, .ref (oX E 13)), (1, .int p1), (2, .ref (oX E 15))]) cx dX7_goPlain_1 rfl (by decide) (fun _ => rfl) rfl h (fun a1 h => ?_)
  refine v_lsub (lv' := [(0, .ref (oX E 13)), (1, .int p1), (2, .ref (oX E 15)), (3, .int a1)]) [1, 2, 3, 0] rfl ?_
  refine v_loop (s0 := (a1, st)) (V_X7_goPlain_L2_15 C E p1) (K_X7_goPlain_L2_15 C E p1) h (b_X7_goPlain_L2_15 cx p1) (fun r13 h => ?_)
  show Vat C (wX E) 5 75 [] [] r13
  exact hk _ _ _ _ (Option.some.inj h) dX7_goPlain_75
def V_X7_goPlain_L2_16 (C : Cm) (E : Ev) (x1 : Int32) (s : (Int32 × Sg)) : Prop := Vat C (wX E) 5 2 [(0, .ref (oX E 13)), (1, .int x1), (2, .ref (oX E 16)), (3, .int s.1)] [] s.2
def K_X7_goPlain_L2_16 (C : Cm) (E : Ev) (x1 : Int32) : (Sg) → Prop := (fun r : (Sg) => Vat C (wX E) 5 75 [] [] r)
def V_X7_goPlain_L17_16 (C : Cm) (E : Ev) (x1 : Int32) (x3 : Int32) (s : (Int32 × Sg)) : Prop := Vat C (wX E) 5 17 [(0, .ref (oX E 13)), (1, .int x1), (2, .ref (oX E 16)), (3, .int x3), (4, .int s.1)] [] s.2
def K_X7_goPlain_L17_16 (C : Cm) (E : Ev) (x1 : Int32) (x3 : Int32) : (Sg) → Prop := (fun r : (Sg) => Vat C (wX E) 5 69 [(0, .ref (oX E 13)), (1, .int x1), (2, .ref (oX E 16)), (3, .int x3)] [] r)
set_option maxHeartbeats 4000000 in
set_option maxRecDepth 100000 in
theorem b_X7_goPlain_L17_16 {C : Cm} {E : Ev} (cx : Cx C (tyE E) cX7_goPlain RX7 5 3 71) (x1 : Int32) (x3 : Int32) : ∀ (s : (Int32 × Sg)) (out : (Int32 × Sg) ⊕ (Sg)), m_X7_goPlain_L17 16 x1 x3 s.1 s.2 = some out → Sum.elim (V_X7_goPlain_L17_16 C E x1 x3) (K_X7_goPlain_L17_16 C E x1 x3) out → V_X7_goPlain_L17_16 C E x1 x3 s := by
  intro s out h hk
  obtain ⟨x4, st⟩ := s
  show Vat C (wX E) 5 17 [(0, .ref (oX E 13)), (1, .int x1), (2, .ref (oX E 16)), (3, .int x3), (4, .int x4)] [] st
  replace h : m_X7_goPlain_L17 16 x1 x3 x4 st = some out := h
  unfold m_X7_goPlain_L17 at h
  refine v_iload 19 4 cx dX7_goPlain_17 rfl rfl ?_
  refine v_aload_n 20 0 cx dX7_goPlain_19 rfl rfl rfl ?_
  refine v_get 23 13 0 cx dX7_goPlain_20 iX7 (wXo_13 E st) rfl (Nat.le_of_ble_eq_true rfl) rfl kf_X7_31 rfl rfl ?_
  refine v_getI 26 1 0 cx dX7_goPlain_23 iX0 (wXo_1 E st) rfl (Nat.le_of_ble_eq_true rfl) rfl kf_X7_93 rfl rfl h (fun v4 h => ?_)
  refine v_icmp_ge 69 29 cx dX7_goPlain_26 (by decide) rfl h (fun h => ?_) (fun h => ?_)
  · cases h
    have hk : Vat C (wX E) 5 69 [(0, .ref (oX E 13)), (1, .int x1), (2, .ref (oX E 16)), (3, .int x3)] [] st := hk
    exact v_lsub (lv' := [(0, .ref (oX E 13)), (1, .int x1), (2, .ref (oX E 16)), (3, .int x3)]) [0, 1, 2, 3] rfl (hk)
  · refine v_aload_n 30 2 cx dX7_goPlain_29 rfl rfl rfl ?_
    refine v_getI 33 16 0 cx dX7_goPlain_30 iX5 (wXo_16 E st) rfl (Nat.le_of_ble_eq_true rfl) rfl kf_X7_74 rfl rfl h (fun v5 h => ?_)
    refine v_if_ne 69 36 cx dX7_goPlain_33 (by decide) rfl h (fun h => ?_) (fun h => ?_)
    · cases h
      have hk : Vat C (wX E) 5 69 [(0, .ref (oX E 13)), (1, .int x1), (2, .ref (oX E 16)), (3, .int x3)] [] st := hk
      exact v_lsub (lv' := [(0, .ref (oX E 13)), (1, .int x1), (2, .ref (oX E 16)), (3, .int x3)]) [0, 1, 2, 3] rfl (hk)
    · refine v_aload_n 37 0 cx dX7_goPlain_36 rfl rfl rfl ?_
      refine v_iload 39 4 cx dX7_goPlain_37 rfl rfl ?_
      refine v_iload_n 40 3 cx dX7_goPlain_39 rfl rfl rfl ?_
      refine v_aload_n 41 2 cx dX7_goPlain_40 rfl rfl rfl ?_
      refine v_callVV 44 13 cx dX7_goPlain_41 km_X7_104 ca_X7_begin (wXo_13 E st) rfl (c_X7_begin_16 C.2.1 E st x4 x3 ) rfl (by decide) rfl (Nat.le_of_ble_eq_true rfl) rfl h (fun _ s6 h => ?_)
      refine v_aload_n 45 2 cx dX7_goPlain_44 rfl rfl rfl ?_
      refine v_dup 46 cx dX7_goPlain_45 rfl rfl ?_
      refine v_getI 49 16 4 cx dX7_goPlain_46 iX5 (wXo_16 E s6) rfl (Nat.le_of_ble_eq_true rfl) rfl kf_X7_108 rfl rfl h (fun v7 h => ?_)
      refine v_aload_n 50 0 cx dX7_goPlain_49 rfl rfl rfl ?_
      refine v_get 53 13 0 cx dX7_goPlain_50 iX7 (wXo_13 E s6) rfl (Nat.le_of_ble_eq_true rfl) rfl kf_X7_31 rfl rfl ?_
      refine v_get 56 1 2 cx dX7_goPlain_53 iX0 (wXo_1 E s6) rfl (Nat.le_of_ble_eq_true rfl) rfl kf_X7_111 rfl rfl ?_
      refine v_iload 58 4 cx dX7_goPlain_56 rfl rfl ?_
      refine v_iald 59 19 0 cx dX7_goPlain_58 (wXa_1_2 E s6) rfl rfl h (fun v8 h => ?_)
      refine v_iadd 60 cx dX7_goPlain_59 rfl ?_
      refine v_putI 63 16 4 cx dX7_goPlain_60 iX5 tyX5_ok nmX5 (wXo_16 E s6) rfl (Nat.le_of_ble_eq_true rfl) rfl kf_X7_108 rfl rfl rfl rfl (Nat.le_of_ble_eq_true rfl) (wXs_16_4 E s6 _) rfl h (fun s9 h => ?_)
      refine v_iinc 66 4 (fun a10 => [(4, .int a10), (0, .ref (oX E 13)), (1, .int x1), (2, .ref (oX E 16)), (3, .int x3)]) cx dX7_goPlain_63 rfl ic_1 (by decide) (fun _ => rfl) rfl h (fun a10 h => ?_)
      refine v_goto 17 cx dX7_goPlain_66 (by decide) ?_
      cases h
      have hk : Vat C (wX E) 5 17 [(0, .ref (oX E 13)), (1, .int x1), (2, .ref (oX E 16)), (3, .int x3), (4, .int a10)] [] s9 := hk
      exact v_lsub (lv' := [(0, .ref (oX E 13)), (1, .int x1), (2, .ref (oX E 16)), (3, .int x3), (4, .int a10)]) [1, 2, 3, 4, 0] rfl (hk)
set_option maxHeartbeats 4000000 in
set_option maxRecDepth 100000 in
theorem b_X7_goPlain_L2_16 {C : Cm} {E : Ev} (cx : Cx C (tyE E) cX7_goPlain RX7 5 3 71) (x1 : Int32) : ∀ (s : (Int32 × Sg)) (out : (Int32 × Sg) ⊕ (Sg)), m_X7_goPlain_L2 16 x1 s.1 s.2 = some out → Sum.elim (V_X7_goPlain_L2_16 C E x1) (K_X7_goPlain_L2_16 C E x1) out → V_X7_goPlain_L2_16 C E x1 s := by
  intro s out h hk
  obtain ⟨x3, st⟩ := s
  show Vat C (wX E) 5 2 [(0, .ref (oX E 13)), (1, .int x1), (2, .ref (oX E 16)), (3, .int x3)] [] st
  replace h : m_X7_goPlain_L2 16 x1 x3 st = some out := h
  unfold m_X7_goPlain_L2 at h
  refine v_iload_n 3 3 cx dX7_goPlain_2 rfl rfl rfl ?_
  refine v_iload_n 4 1 cx dX7_goPlain_3 rfl rfl rfl ?_
  refine v_icmp_ge 75 7 cx dX7_goPlain_4 (by decide) rfl h (fun h => ?_) (fun h => ?_)
  · cases h
    have hk : Vat C (wX E) 5 75 [] [] st := hk
    exact v_lsub (lv' := []) [] rfl (hk)
  · refine v_aload_n 8 2 cx dX7_goPlain_7 rfl rfl rfl ?_
    refine v_getI 11 16 0 cx dX7_goPlain_8 iX5 (wXo_16 E st) rfl (Nat.le_of_ble_eq_true rfl) rfl kf_X7_74 rfl rfl h (fun v2 h => ?_)
    refine v_if_ne 75 14 cx dX7_goPlain_11 (by decide) rfl h (fun h => ?_) (fun h => ?_)
    · cases h
      have hk : Vat C (wX E) 5 75 [] [] st := hk
      exact v_lsub (lv' := []) [] rfl (hk)
    · refine v_iconst 15 cx dX7_goPlain_14 ic_0 rfl ?_
      refine v_istore 17 (fun a3 => [(4, .int a3), (0, .ref (oX E 13)), (1, .int x1), (2, .ref (oX E 16)), (3, .int x3)]) cx dX7_goPlain_15 (by decide) (fun _ => rfl) rfl h (fun a3 h => ?_)
      refine v_lsub (lv' := [(0, .ref (oX E 13)), (1, .int x1), (2, .ref (oX E 16)), (3, .int x3), (4, .int a3)]) [1, 2, 3, 4, 0] rfl ?_
      refine v_loop (s0 := (a3, st)) (V_X7_goPlain_L17_16 C E x1 x3) (K_X7_goPlain_L17_16 C E x1 x3) h (b_X7_goPlain_L17_16 cx x1 x3) (fun r11 h => ?_)
      show Vat C (wX E) 5 69 [(0, .ref (oX E 13)), (1, .int x1), (2, .ref (oX E 16)), (3, .int x3)] [] r11
      refine v_iinc 72 3 (fun a12 => [(3, .int a12), (0, .ref (oX E 13)), (1, .int x1), (2, .ref (oX E 16))]) cx dX7_goPlain_69 rfl ic_1 (by decide) (fun _ => rfl) rfl h (fun a12 h => ?_)
      refine v_goto 2 cx dX7_goPlain_72 (by decide) ?_
      cases h
      have hk : Vat C (wX E) 5 2 [(0, .ref (oX E 13)), (1, .int x1), (2, .ref (oX E 16)), (3, .int a12)] [] r11 := hk
      exact v_lsub (lv' := [(0, .ref (oX E 13)), (1, .int x1), (2, .ref (oX E 16)), (3, .int a12)]) [1, 2, 3, 0] rfl (hk)
set_option maxHeartbeats 4000000 in
set_option maxRecDepth 100000 in
theorem c_X7_goPlain_16 (l : Launch) (E : Ev) (st : Sg) (p1 : Int32) : ∀ q, m_X7_goPlain 16 p1 st = some q → CtV l (wX E) (tyE E) yX7_goPlain cX7_goPlain 5 none 3 71 [.ref (oX E 13), .int p1, .ref (oX E 16)] st q := by
  intro q h
  refine ctV_of (lv0 := [(0, .ref (oX E 13)), (1, .int p1), (2, .ref (oX E 16))]) (by decide) rfl (Nat.le_of_ble_eq_true rfl) (fun C hC cx hk => ?_)
  replace cx : Cx C (tyE E) cX7_goPlain RX7 5 3 71 := cx
  unfold m_X7_goPlain at h
  refine v_iconst 1 cx dX7_goPlain_0 ic_0 rfl ?_
  refine v_istore_n 2 (fun a1 => [(3, .int a1), (0, .ref (oX E 13)), (1, .int p1), (2, .ref (oX E 16))]) cx dX7_goPlain_1 rfl (by decide) (fun _ => rfl) rfl h (fun a1 h => ?_)
  refine v_lsub (lv' := [(0, .ref (oX E 13)), (1, .int p1), (2, .ref (oX E 16)), (3, .int a1)]) [1, 2, 3, 0] rfl ?_
  refine v_loop (s0 := (a1, st)) (V_X7_goPlain_L2_16 C E p1) (K_X7_goPlain_L2_16 C E p1) h (b_X7_goPlain_L2_16 cx p1) (fun r13 h => ?_)
  show Vat C (wX E) 5 75 [] [] r13
  exact hk _ _ _ _ (Option.some.inj h) dX7_goPlain_75
def V_X7_go_L8_14 (C : Cm) (E : Ev) (x1 : Int32) (x2 : Int32) (s : (Int32 × Sg)) : Prop := Vat C (wX E) 5 8 [(0, .ref (oX E 13)), (1, .int x1), (2, .int x2), (3, .ref (oX E 14)), (4, .int s.1)] [] s.2
def K_X7_go_L8_14 (C : Cm) (E : Ev) (x1 : Int32) (x2 : Int32) : (Sg) → Prop := (fun r : (Sg) => Vat C (wX E) 5 42 [(0, .ref (oX E 13)), (1, .int x1), (2, .int x2), (3, .ref (oX E 14))] [] r)
set_option maxHeartbeats 4000000 in
set_option maxRecDepth 100000 in
theorem b_X7_go_L8_14 {C : Cm} {E : Ev} (cx : Cx C (tyE E) cX7_go RX7 5 4 97) (x1 : Int32) (x2 : Int32) : ∀ (s : (Int32 × Sg)) (out : (Int32 × Sg) ⊕ (Sg)), m_X7_go_L8 14 x1 x2 s.1 s.2 = some out → Sum.elim (V_X7_go_L8_14 C E x1 x2) (K_X7_go_L8_14 C E x1 x2) out → V_X7_go_L8_14 C E x1 x2 s := by
  intro s out h hk
  obtain ⟨x4, st⟩ := s
  show Vat C (wX E) 5 8 [(0, .ref (oX E 13)), (1, .int x1), (2, .int x2), (3, .ref (oX E 14)), (4, .int x4)] [] st
  replace h : m_X7_go_L8 14 x1 x2 x4 st = some out := h
  unfold m_X7_go_L8 at h
  refine v_iload 10 4 cx dX7_go_8 rfl rfl ?_
  refine v_if_ge 42 13 cx dX7_go_10 (by decide) rfl h (fun h => ?_) (fun h => ?_)
  · cases h
    have hk : Vat C (wX E) 5 42 [(0, .ref (oX E 13)), (1, .int x1), (2, .int x2), (3, .ref (oX E 14))] [] st := hk
    exact v_lsub (lv' := [(0, .ref (oX E 13)), (1, .int x1), (2, .int x2), (3, .ref (oX E 14))]) [0, 1, 2, 3] rfl (hk)
  · refine v_aload_n 14 0 cx dX7_go_13 rfl rfl rfl ?_
    refine v_get 17 13 0 cx dX7_go_14 iX7 (wXo_13 E st) rfl (Nat.le_of_ble_eq_true rfl) rfl kf_X7_31 rfl rfl ?_
    refine v_get 20 1 9 cx dX7_go_17 iX0 (wXo_1 E st) rfl (Nat.le_of_ble_eq_true rfl) rfl kf_X7_46 rfl rfl ?_
    refine v_iconst 21 cx dX7_go_20 ic_0 rfl ?_
    refine v_aload_n 22 0 cx dX7_go_21 rfl rfl rfl ?_
    refine v_get 25 13 3 cx dX7_go_22 iX7 (wXo_13 E st) rfl (Nat.le_of_ble_eq_true rfl) rfl kf_X7_9 rfl rfl ?_
    refine v_iconst 26 cx dX7_go_25 ic_0 rfl ?_
    refine v_iload 28 4 cx dX7_go_26 rfl rfl ?_
    refine v_callSI 31 cx dX7_go_28 km_X7_51 ca_X7_placeOf (c_X7_placeOf C.2.1 E st 0 x4 ) rfl (by decide) rfl (Nat.le_of_ble_eq_true rfl) rfl h (fun v4 s3 h => ?_)
    refine v_bipush 33 cx dX7_go_31 bp_16 rfl ?_
    refine v_copyl 36 26 59 1 cx dX7_go_33 km_X7_55 kac_n kac_s kac_i (wXa_1_9 E s3) (wXa_13_3 E s3) rfl (wXt_13_3 E s3) (by decide) (by decide +kernel) rfl h (fun s5 h => ?_)
    refine v_iinc 39 4 (fun a6 => [(4, .int a6), (0, .ref (oX E 13)), (1, .int x1), (2, .int x2), (3, .ref (oX E 14))]) cx dX7_go_36 rfl ic_1 (by decide) (fun _ => rfl) rfl h (fun a6 h => ?_)
    refine v_goto 8 cx dX7_go_39 (by decide) ?_
    cases h
    have hk : Vat C (wX E) 5 8 [(0, .ref (oX E 13)), (1, .int x1), (2, .int x2), (3, .ref (oX E 14)), (4, .int a6)] [] s5 := hk
    exact v_lsub (lv' := [(0, .ref (oX E 13)), (1, .int x1), (2, .int x2), (3, .ref (oX E 14)), (4, .int a6)]) [1, 2, 3, 4, 0] rfl (hk)
set_option maxHeartbeats 4000000 in
set_option maxRecDepth 100000 in
theorem j_X7_go_88_14 {C : Cm} {E : Ev} (cx : Cx C (tyE E) cX7_go RX7 5 4 97) (t0 : Int32) (st : Sg) (out : Unit × Sg) (h : m_X7_go_88 14 t0 st = some out) (hk : ReV C (wX E) cX7_go 5 out) : Vat C (wX E) 5 88 [(0, .ref (oX E 13)), (3, .ref (oX E 14))] [.int t0, .ref (oX E 14)] st := by
  unfold m_X7_go_88 at h
  refine v_putI 91 14 6 cx dX7_go_88 iX5 tyX5_ok nmX5 (wXo_14 E st) rfl (Nat.le_of_ble_eq_true rfl) rfl kf_X7_80 rfl rfl rfl rfl (Nat.le_of_ble_eq_true rfl) (wXs_14_6 E st _) rfl h (fun s11 h => ?_)
  refine v_aload_n 92 1 cx dX7_go_91 rfl rfl rfl ?_
  refine v_getI 95 14 6 cx dX7_go_92 iX5 (wXo_14 E s11) rfl (Nat.le_of_ble_eq_true rfl) rfl kf_X7_80 rfl rfl h (fun v12 h => ?_)
  refine v_if_le 122 98 cx dX7_go_95 (by decide) rfl h (fun h => ?_) (fun h => ?_)
  · exact hk _ _ _ _ (Option.some.inj h) dX7_go_122
  · refine v_aload_n 99 0 cx dX7_go_98 rfl rfl rfl ?_
    refine v_get 102 13 3 cx dX7_go_99 iX7 (wXo_13 E s11) rfl (Nat.le_of_ble_eq_true rfl) rfl kf_X7_9 rfl rfl ?_
    refine v_iconst 103 cx dX7_go_102 ic_0 rfl ?_
    refine v_aload_n 104 1 cx dX7_go_103 rfl rfl rfl ?_
    refine v_getI 107 14 6 cx dX7_go_104 iX5 (wXo_14 E s11) rfl (Nat.le_of_ble_eq_true rfl) rfl kf_X7_80 rfl rfl h (fun v13 h => ?_)
    refine v_iconst 108 cx dX7_go_107 ic_1 rfl ?_
    refine v_isub 109 cx dX7_go_108 rfl ?_
    refine v_callSI 112 cx dX7_go_109 km_X7_51 ca_X7_placeOf (c_X7_placeOf C.2.1 E s11 0 (v13 - 1) ) rfl (by decide) rfl (Nat.le_of_ble_eq_true rfl) rfl h (fun v15 s14 h => ?_)
    refine v_aload_n 113 1 cx dX7_go_112 rfl rfl rfl ?_
    refine v_get 116 14 7 cx dX7_go_113 iX5 (wXo_14 E s14) rfl (Nat.le_of_ble_eq_true rfl) rfl kf_X7_83 rfl rfl ?_
    refine v_iconst 117 cx dX7_go_116 ic_0 rfl ?_
    refine v_bipush 119 cx dX7_go_117 bp_16 rfl ?_
    refine v_copyl 122 59 62 1 cx dX7_go_119 km_X7_55 kac_n kac_s kac_i (wXa_13_3 E s14) (wXa_14_7 E s14) rfl (wXt_14_7 E s14) (by decide) (by decide +kernel) rfl h (fun s16 h => ?_)
    exact hk _ _ _ _ (Option.some.inj h) dX7_go_122
set_option maxHeartbeats 4000000 in
set_option maxRecDepth 100000 in
theorem j_X7_go_72_14 {C : Cm} {E : Ev} (cx : Cx C (tyE E) cX7_go RX7 5 4 97) (x1 : Int32) (st : Sg) (out : Unit × Sg) (h : m_X7_go_72 14 x1 st = some out) (hk : ReV C (wX E) cX7_go 5 out) : Vat C (wX E) 5 72 [(0, .ref (oX E 13)), (1, .int x1), (3, .ref (oX E 14))] [] st := by
  unfold m_X7_go_72 at h
  refine v_aload_n 73 2 cx dX7_go_72 rfl rfl rfl ?_
  refine v_aload_n 74 2 cx dX7_go_73 rfl rfl rfl ?_
  refine v_getI 77 14 0 cx dX7_go_74 iX5 (wXo_14 E st) rfl (Nat.le_of_ble_eq_true rfl) rfl kf_X7_74 rfl rfl h (fun v9 h => ?_)
  refine v_if_ne 84 80 cx dX7_go_77 (by decide) rfl h (fun h => ?_) (fun h => ?_)
  · refine v_aload_n 85 2 cx dX7_go_84 rfl rfl rfl ?_
    refine v_getI 88 14 2 cx dX7_go_85 iX5 (wXo_14 E st) rfl (Nat.le_of_ble_eq_true rfl) rfl kf_X7_77 rfl rfl h (fun v10 h => ?_)
    exact v_lsub (lv' := [(0, .ref (oX E 13)), (3, .ref (oX E 14))]) [0, 2] rfl (j_X7_go_88_14 cx v10 st _ h hk)
  · refine v_iload_n 81 1 cx dX7_go_80 rfl rfl rfl ?_
    refine v_goto 88 cx dX7_go_81 (by decide) ?_
    exact v_lsub (lv' := [(0, .ref (oX E 13)), (3, .ref (oX E 14))]) [0, 2] rfl (j_X7_go_88_14 cx x1 st _ h hk)
set_option maxHeartbeats 4000000 in
set_option maxRecDepth 100000 in
theorem j_X7_go_66_14 {C : Cm} {E : Ev} (cx : Cx C (tyE E) cX7_go RX7 5 4 97) (x1 : Int32) (st : Sg) (out : Unit × Sg) (h : m_X7_go_66 14 x1 st = some out) (hk : ReV C (wX E) cX7_go 5 out) : Vat C (wX E) 5 66 [(0, .ref (oX E 13)), (1, .int x1), (3, .ref (oX E 14))] [] st := by
  unfold m_X7_go_66 at h
  refine v_aload_n 67 0 cx dX7_go_66 rfl rfl rfl ?_
  refine v_iload_n 68 1 cx dX7_go_67 rfl rfl rfl ?_
  refine v_aload_n 69 2 cx dX7_go_68 rfl rfl rfl ?_
  refine v_callVV 72 13 cx dX7_go_69 km_X7_71 ca_X7_goPlain (wXo_13 E st) rfl (c_X7_goPlain_14 C.2.1 E st x1 ) rfl (by decide) rfl (Nat.le_of_ble_eq_true rfl) rfl h (fun _ s8 h => ?_)
  exact j_X7_go_72_14 cx x1 s8 _ h hk
set_option maxHeartbeats 4000000 in
set_option maxRecDepth 100000 in
theorem c_X7_go_14 (l : Launch) (E : Ev) (st : Sg) (p1 : Int32) (p2 : Int32) : ∀ q, m_X7_go 14 p1 p2 st = some q → CtV l (wX E) (tyE E) yX7_go cX7_go 5 none 4 97 [.ref (oX E 13), .int p1, .int p2, .ref (oX E 14)] st q := by
  intro q h
  refine ctV_of (lv0 := [(0, .ref (oX E 13)), (1, .int p1), (2, .int p2), (3, .ref (oX E 14))]) (by decide) rfl (Nat.le_of_ble_eq_true rfl) (fun C hC cx hk => ?_)
  replace cx : Cx C (tyE E) cX7_go RX7 5 4 97 := cx
  unfold m_X7_go at h
  refine v_aload_n 1 3 cx dX7_go_0 rfl rfl rfl ?_
  refine v_callVV 4 14 cx dX7_go_1 km_X7_43 ca_X5_clear (wXo_14 E st) rfl (c_X5_clear_14 C.2.1 E st ) rfl (by decide) rfl (Nat.le_of_ble_eq_true rfl) rfl h (fun _ s1 h => ?_)
  refine v_bipush 6 cx dX7_go_4 bp_m4 rfl ?_
  refine v_istore 8 (fun a2 => [(4, .int a2), (0, .ref (oX E 13)), (1, .int p1), (2, .int p2), (3, .ref (oX E 14))]) cx dX7_go_6 (by decide) (fun _ => rfl) rfl h (fun a2 h => ?_)
  refine v_lsub (lv' := [(0, .ref (oX E 13)), (1, .int p1), (2, .int p2), (3, .ref (oX E 14)), (4, .int a2)]) [1, 2, 3, 4, 0] rfl ?_
  refine v_loop (s0 := (a2, s1)) (V_X7_go_L8_14 C E p1 p2) (K_X7_go_L8_14 C E p1 p2) h (b_X7_go_L8_14 cx p1 p2) (fun r7 h => ?_)
  show Vat C (wX E) 5 42 [(0, .ref (oX E 13)), (1, .int p1), (2, .int p2), (3, .ref (oX E 14))] [] r7
  refine v_iload_n 43 2 cx dX7_go_42 rfl rfl rfl ?_
  refine v_if_eq 66 46 cx dX7_go_43 (by decide) rfl h (fun h => ?_) (fun h => ?_)
  · exact v_lsub (lv' := [(0, .ref (oX E 13)), (1, .int p1), (3, .ref (oX E 14))]) [0, 1, 3] rfl (j_X7_go_66_14 cx p1 r7 _ h hk)
  · refine v_iload_n 47 1 cx dX7_go_46 rfl rfl rfl ?_
    refine v_aload_n 48 0 cx dX7_go_47 rfl rfl rfl ?_
    refine v_get 51 13 2 cx dX7_go_48 iX7 (wXo_13 E r7) rfl (Nat.le_of_ble_eq_true rfl) rfl kf_X7_39 rfl rfl ?_
    refine v_getI 54 9 2 cx dX7_go_51 iX4 (wXo_9 E r7) rfl (Nat.le_of_ble_eq_true rfl) rfl kf_X7_61 rfl rfl h (fun v17 h => ?_)
    refine v_icmp_lt 66 57 cx dX7_go_54 (by decide) rfl h (fun h => ?_) (fun h => ?_)
    · exact v_lsub (lv' := [(0, .ref (oX E 13)), (1, .int p1), (3, .ref (oX E 14))]) [0, 1, 3] rfl (j_X7_go_66_14 cx p1 r7 _ h hk)
    · refine v_aload_n 58 0 cx dX7_go_57 rfl rfl rfl ?_
      refine v_iload_n 59 1 cx dX7_go_58 rfl rfl rfl ?_
      refine v_aload_n 60 3 cx dX7_go_59 rfl rfl rfl ?_
      refine v_callVV 63 13 cx dX7_go_60 km_X7_67 ca_X7_goByTicks (wXo_13 E r7) rfl (c_X7_goByTicks_14 C.2.1 E r7 p1 ) rfl (by decide) rfl (Nat.le_of_ble_eq_true rfl) rfl h (fun _ s18 h => ?_)
      refine v_goto 72 cx dX7_go_63 (by decide) ?_
      exact v_lsub (lv' := [(0, .ref (oX E 13)), (1, .int p1), (3, .ref (oX E 14))]) [0, 1, 3] rfl (j_X7_go_72_14 cx p1 s18 _ h hk)
def V_X7_go_L8_15 (C : Cm) (E : Ev) (x1 : Int32) (x2 : Int32) (s : (Int32 × Sg)) : Prop := Vat C (wX E) 5 8 [(0, .ref (oX E 13)), (1, .int x1), (2, .int x2), (3, .ref (oX E 15)), (4, .int s.1)] [] s.2
def K_X7_go_L8_15 (C : Cm) (E : Ev) (x1 : Int32) (x2 : Int32) : (Sg) → Prop := (fun r : (Sg) => Vat C (wX E) 5 42 [(0, .ref (oX E 13)), (1, .int x1), (2, .int x2), (3, .ref (oX E 15))] [] r)
set_option maxHeartbeats 4000000 in
set_option maxRecDepth 100000 in
theorem b_X7_go_L8_15 {C : Cm} {E : Ev} (cx : Cx C (tyE E) cX7_go RX7 5 4 97) (x1 : Int32) (x2 : Int32) : ∀ (s : (Int32 × Sg)) (out : (Int32 × Sg) ⊕ (Sg)), m_X7_go_L8 15 x1 x2 s.1 s.2 = some out → Sum.elim (V_X7_go_L8_15 C E x1 x2) (K_X7_go_L8_15 C E x1 x2) out → V_X7_go_L8_15 C E x1 x2 s := by
  intro s out h hk
  obtain ⟨x4, st⟩ := s
  show Vat C (wX E) 5 8 [(0, .ref (oX E 13)), (1, .int x1), (2, .int x2), (3, .ref (oX E 15)), (4, .int x4)] [] st
  replace h : m_X7_go_L8 15 x1 x2 x4 st = some out := h
  unfold m_X7_go_L8 at h
  refine v_iload 10 4 cx dX7_go_8 rfl rfl ?_
  refine v_if_ge 42 13 cx dX7_go_10 (by decide) rfl h (fun h => ?_) (fun h => ?_)
  · cases h
    have hk : Vat C (wX E) 5 42 [(0, .ref (oX E 13)), (1, .int x1), (2, .int x2), (3, .ref (oX E 15))] [] st := hk
    exact v_lsub (lv' := [(0, .ref (oX E 13)), (1, .int x1), (2, .int x2), (3, .ref (oX E 15))]) [0, 1, 2, 3] rfl (hk)
  · refine v_aload_n 14 0 cx dX7_go_13 rfl rfl rfl ?_
    refine v_get 17 13 0 cx dX7_go_14 iX7 (wXo_13 E st) rfl (Nat.le_of_ble_eq_true rfl) rfl kf_X7_31 rfl rfl ?_
    refine v_get 20 1 9 cx dX7_go_17 iX0 (wXo_1 E st) rfl (Nat.le_of_ble_eq_true rfl) rfl kf_X7_46 rfl rfl ?_
    refine v_iconst 21 cx dX7_go_20 ic_0 rfl ?_
    refine v_aload_n 22 0 cx dX7_go_21 rfl rfl rfl ?_
    refine v_get 25 13 3 cx dX7_go_22 iX7 (wXo_13 E st) rfl (Nat.le_of_ble_eq_true rfl) rfl kf_X7_9 rfl rfl ?_
    refine v_iconst 26 cx dX7_go_25 ic_0 rfl ?_
    refine v_iload 28 4 cx dX7_go_26 rfl rfl ?_
    refine v_callSI 31 cx dX7_go_28 km_X7_51 ca_X7_placeOf (c_X7_placeOf C.2.1 E st 0 x4 ) rfl (by decide) rfl (Nat.le_of_ble_eq_true rfl) rfl h (fun v4 s3 h => ?_)
    refine v_bipush 33 cx dX7_go_31 bp_16 rfl ?_
    refine v_copyl 36 26 59 1 cx dX7_go_33 km_X7_55 kac_n kac_s kac_i (wXa_1_9 E s3) (wXa_13_3 E s3) rfl (wXt_13_3 E s3) (by decide) (by decide +kernel) rfl h (fun s5 h => ?_)
    refine v_iinc 39 4 (fun a6 => [(4, .int a6), (0, .ref (oX E 13)), (1, .int x1), (2, .int x2), (3, .ref (oX E 15))]) cx dX7_go_36 rfl ic_1 (by decide) (fun _ => rfl) rfl h (fun a6 h => ?_)
    refine v_goto 8 cx dX7_go_39 (by decide) ?_
    cases h
    have hk : Vat C (wX E) 5 8 [(0, .ref (oX E 13)), (1, .int x1), (2, .int x2), (3, .ref (oX E 15)), (4, .int a6)] [] s5 := hk
    exact v_lsub (lv' := [(0, .ref (oX E 13)), (1, .int x1), (2, .int x2), (3, .ref (oX E 15)), (4, .int a6)]) [1, 2, 3, 4, 0] rfl (hk)
set_option maxHeartbeats 4000000 in
set_option maxRecDepth 100000 in
theorem j_X7_go_88_15 {C : Cm} {E : Ev} (cx : Cx C (tyE E) cX7_go RX7 5 4 97) (t0 : Int32) (st : Sg) (out : Unit × Sg) (h : m_X7_go_88 15 t0 st = some out) (hk : ReV C (wX E) cX7_go 5 out) : Vat C (wX E) 5 88 [(0, .ref (oX E 13)), (3, .ref (oX E 15))] [.int t0, .ref (oX E 15)] st := by
  unfold m_X7_go_88 at h
  refine v_putI 91 15 6 cx dX7_go_88 iX5 tyX5_ok nmX5 (wXo_15 E st) rfl (Nat.le_of_ble_eq_true rfl) rfl kf_X7_80 rfl rfl rfl rfl (Nat.le_of_ble_eq_true rfl) (wXs_15_6 E st _) rfl h (fun s11 h => ?_)
  refine v_aload_n 92 1 cx dX7_go_91 rfl rfl rfl ?_
  refine v_getI 95 15 6 cx dX7_go_92 iX5 (wXo_15 E s11) rfl (Nat.le_of_ble_eq_true rfl) rfl kf_X7_80 rfl rfl h (fun v12 h => ?_)
  refine v_if_le 122 98 cx dX7_go_95 (by decide) rfl h (fun h => ?_) (fun h => ?_)
  · exact hk _ _ _ _ (Option.some.inj h) dX7_go_122
  · refine v_aload_n 99 0 cx dX7_go_98 rfl rfl rfl ?_
    refine v_get 102 13 3 cx dX7_go_99 iX7 (wXo_13 E s11) rfl (Nat.le_of_ble_eq_true rfl) rfl kf_X7_9 rfl rfl ?_
    refine v_iconst 103 cx dX7_go_102 ic_0 rfl ?_
    refine v_aload_n 104 1 cx dX7_go_103 rfl rfl rfl ?_
    refine v_getI 107 15 6 cx dX7_go_104 iX5 (wXo_15 E s11) rfl (Nat.le_of_ble_eq_true rfl) rfl kf_X7_80 rfl rfl h (fun v13 h => ?_)
    refine v_iconst 108 cx dX7_go_107 ic_1 rfl ?_
    refine v_isub 109 cx dX7_go_108 rfl ?_
    refine v_callSI 112 cx dX7_go_109 km_X7_51 ca_X7_placeOf (c_X7_placeOf C.2.1 E s11 0 (v13 - 1) ) rfl (by decide) rfl (Nat.le_of_ble_eq_true rfl) rfl h (fun v15 s14 h => ?_)
    refine v_aload_n 113 1 cx dX7_go_112 rfl rfl rfl ?_
    refine v_get 116 15 7 cx dX7_go_113 iX5 (wXo_15 E s14) rfl (Nat.le_of_ble_eq_true rfl) rfl kf_X7_83 rfl rfl ?_
    refine v_iconst 117 cx dX7_go_116 ic_0 rfl ?_
    refine v_bipush 119 cx dX7_go_117 bp_16 rfl ?_
    refine v_copyl 122 59 63 1 cx dX7_go_119 km_X7_55 kac_n kac_s kac_i (wXa_13_3 E s14) (wXa_15_7 E s14) rfl (wXt_15_7 E s14) (by decide) (by decide +kernel) rfl h (fun s16 h => ?_)
    exact hk _ _ _ _ (Option.some.inj h) dX7_go_122
set_option maxHeartbeats 4000000 in
set_option maxRecDepth 100000 in
theorem j_X7_go_72_15 {C : Cm} {E : Ev} (cx : Cx C (tyE E) cX7_go RX7 5 4 97) (x1 : Int32) (st : Sg) (out : Unit × Sg) (h : m_X7_go_72 15 x1 st = some out) (hk : ReV C (wX E) cX7_go 5 out) : Vat C (wX E) 5 72 [(0, .ref (oX E 13)), (1, .int x1), (3, .ref (oX E 15))] [] st := by
  unfold m_X7_go_72 at h
  refine v_aload_n 73 2 cx dX7_go_72 rfl rfl rfl ?_
  refine v_aload_n 74 2 cx dX7_go_73 rfl rfl rfl ?_
  refine v_getI 77 15 0 cx dX7_go_74 iX5 (wXo_15 E st) rfl (Nat.le_of_ble_eq_true rfl) rfl kf_X7_74 rfl rfl h (fun v9 h => ?_)
  refine v_if_ne 84 80 cx dX7_go_77 (by decide) rfl h (fun h => ?_) (fun h => ?_)
  · refine v_aload_n 85 2 cx dX7_go_84 rfl rfl rfl ?_
    refine v_getI 88 15 2 cx dX7_go_85 iX5 (wXo_15 E st) rfl (Nat.le_of_ble_eq_true rfl) rfl kf_X7_77 rfl rfl h (fun v10 h => ?_)
    exact v_lsub (lv' := [(0, .ref (oX E 13)), (3, .ref (oX E 15))]) [0, 2] rfl (j_X7_go_88_15 cx v10 st _ h hk)
  · refine v_iload_n 81 1 cx dX7_go_80 rfl rfl rfl ?_
    refine v_goto 88 cx dX7_go_81 (by decide) ?_
    exact v_lsub (lv' := [(0, .ref (oX E 13)), (3, .ref (oX E 15))]) [0, 2] rfl (j_X7_go_88_15 cx x1 st _ h hk)
set_option maxHeartbeats 4000000 in
set_option maxRecDepth 100000 in
theorem j_X7_go_66_15 {C : Cm} {E : Ev} (cx : Cx C (tyE E) cX7_go RX7 5 4 97) (x1 : Int32) (st : Sg) (out : Unit × Sg) (h : m_X7_go_66 15 x1 st = some out) (hk : ReV C (wX E) cX7_go 5 out) : Vat C (wX E) 5 66 [(0, .ref (oX E 13)), (1, .int x1), (3, .ref (oX E 15))] [] st := by
  unfold m_X7_go_66 at h
  refine v_aload_n 67 0 cx dX7_go_66 rfl rfl rfl ?_
  refine v_iload_n 68 1 cx dX7_go_67 rfl rfl rfl ?_
  refine v_aload_n 69 2 cx dX7_go_68 rfl rfl rfl ?_
  refine v_callVV 72 13 cx dX7_go_69 km_X7_71 ca_X7_goPlain (wXo_13 E st) rfl (c_X7_goPlain_15 C.2.1 E st x1 ) rfl (by decide) rfl (Nat.le_of_ble_eq_true rfl) rfl h (fun _ s8 h => ?_)
  exact j_X7_go_72_15 cx x1 s8 _ h hk
set_option maxHeartbeats 4000000 in
set_option maxRecDepth 100000 in
theorem c_X7_go_15 (l : Launch) (E : Ev) (st : Sg) (p1 : Int32) (p2 : Int32) : ∀ q, m_X7_go 15 p1 p2 st = some q → CtV l (wX E) (tyE E) yX7_go cX7_go 5 none 4 97 [.ref (oX E 13), .int p1, .int p2, .ref (oX E 15)] st q := by
  intro q h
  refine ctV_of (lv0 := [(0, .ref (oX E 13)), (1, .int p1), (2, .int p2), (3, .ref (oX E 15))]) (by decide) rfl (Nat.le_of_ble_eq_true rfl) (fun C hC cx hk => ?_)
  replace cx : Cx C (tyE E) cX7_go RX7 5 4 97 := cx
  unfold m_X7_go at h
  refine v_aload_n 1 3 cx dX7_go_0 rfl rfl rfl ?_
  refine v_callVV 4 15 cx dX7_go_1 km_X7_43 ca_X5_clear (wXo_15 E st) rfl (c_X5_clear_15 C.2.1 E st ) rfl (by decide) rfl (Nat.le_of_ble_eq_true rfl) rfl h (fun _ s1 h => ?_)
  refine v_bipush 6 cx dX7_go_4 bp_m4 rfl ?_
  refine v_istore 8 (fun a2 => [(4, .int a2), (0, .ref (oX E 13)), (1, .int p1), (2, .int p2), (3, .ref (oX E 15))]) cx dX7_go_6 (by decide) (fun _ => rfl) rfl h (fun a2 h => ?_)
  refine v_lsub (lv' := [(0, .ref (oX E 13)), (1, .int p1), (2, .int p2), (3, .ref (oX E 15)), (4, .int a2)]) [1, 2, 3, 4, 0] rfl ?_
  refine v_loop (s0 := (a2, s1)) (V_X7_go_L8_15 C E p1 p2) (K_X7_go_L8_15 C E p1 p2) h (b_X7_go_L8_15 cx p1 p2) (fun r7 h => ?_)
  show Vat C (wX E) 5 42 [(0, .ref (oX E 13)), (1, .int p1), (2, .int p2), (3, .ref (oX E 15))] [] r7
  refine v_iload_n 43 2 cx dX7_go_42 rfl rfl rfl ?_
  refine v_if_eq 66 46 cx dX7_go_43 (by decide) rfl h (fun h => ?_) (fun h => ?_)
  · exact v_lsub (lv' := [(0, .ref (oX E 13)), (1, .int p1), (3, .ref (oX E 15))]) [0, 1, 3] rfl (j_X7_go_66_15 cx p1 r7 _ h hk)
  · refine v_iload_n 47 1 cx dX7_go_46 rfl rfl rfl ?_
    refine v_aload_n 48 0 cx dX7_go_47 rfl rfl rfl ?_
    refine v_get 51 13 2 cx dX7_go_48 iX7 (wXo_13 E r7) rfl (Nat.le_of_ble_eq_true rfl) rfl kf_X7_39 rfl rfl ?_
    refine v_getI 54 9 2 cx dX7_go_51 iX4 (wXo_9 E r7) rfl (Nat.le_of_ble_eq_true rfl) rfl kf_X7_61 rfl rfl h (fun v17 h => ?_)
    refine v_icmp_lt 66 57 cx dX7_go_54 (by decide) rfl h (fun h => ?_) (fun h => ?_)
    · exact v_lsub (lv' := [(0, .ref (oX E 13)), (1, .int p1), (3, .ref (oX E 15))]) [0, 1, 3] rfl (j_X7_go_66_15 cx p1 r7 _ h hk)
    · refine v_aload_n 58 0 cx dX7_go_57 rfl rfl rfl ?_
      refine v_iload_n 59 1 cx dX7_go_58 rfl rfl rfl ?_
      refine v_aload_n 60 3 cx dX7_go_59 rfl rfl rfl ?_
      refine v_callVV 63 13 cx dX7_go_60 km_X7_67 ca_X7_goByTicks (wXo_13 E r7) rfl (c_X7_goByTicks_15 C.2.1 E r7 p1 ) rfl (by decide) rfl (Nat.le_of_ble_eq_true rfl) rfl h (fun _ s18 h => ?_)
      refine v_goto 72 cx dX7_go_63 (by decide) ?_
      exact v_lsub (lv' := [(0, .ref (oX E 13)), (1, .int p1), (3, .ref (oX E 15))]) [0, 1, 3] rfl (j_X7_go_72_15 cx p1 s18 _ h hk)
def V_X7_go_L8_16 (C : Cm) (E : Ev) (x1 : Int32) (x2 : Int32) (s : (Int32 × Sg)) : Prop := Vat C (wX E) 5 8 [(0, .ref (oX E 13)), (1, .int x1), (2, .int x2), (3, .ref (oX E 16)), (4, .int s.1)] [] s.2
def K_X7_go_L8_16 (C : Cm) (E : Ev) (x1 : Int32) (x2 : Int32) : (Sg) → Prop := (fun r : (Sg) => Vat C (wX E) 5 42 [(0, .ref (oX E 13)), (1, .int x1), (2, .int x2), (3, .ref (oX E 16))] [] r)
set_option maxHeartbeats 4000000 in
set_option maxRecDepth 100000 in
theorem b_X7_go_L8_16 {C : Cm} {E : Ev} (cx : Cx C (tyE E) cX7_go RX7 5 4 97) (x1 : Int32) (x2 : Int32) : ∀ (s : (Int32 × Sg)) (out : (Int32 × Sg) ⊕ (Sg)), m_X7_go_L8 16 x1 x2 s.1 s.2 = some out → Sum.elim (V_X7_go_L8_16 C E x1 x2) (K_X7_go_L8_16 C E x1 x2) out → V_X7_go_L8_16 C E x1 x2 s := by
  intro s out h hk
  obtain ⟨x4, st⟩ := s
  show Vat C (wX E) 5 8 [(0, .ref (oX E 13)), (1, .int x1), (2, .int x2), (3, .ref (oX E 16)), (4, .int x4)] [] st
  replace h : m_X7_go_L8 16 x1 x2 x4 st = some out := h
  unfold m_X7_go_L8 at h
  refine v_iload 10 4 cx dX7_go_8 rfl rfl ?_
  refine v_if_ge 42 13 cx dX7_go_10 (by decide) rfl h (fun h => ?_) (fun h => ?_)
  · cases h
    have hk : Vat C (wX E) 5 42 [(0, .ref (oX E 13)), (1, .int x1), (2, .int x2), (3, .ref (oX E 16))] [] st := hk
    exact v_lsub (lv' := [(0, .ref (oX E 13)), (1, .int x1), (2, .int x2), (3, .ref (oX E 16))]) [0, 1, 2, 3] rfl (hk)
  · refine v_aload_n 14 0 cx dX7_go_13 rfl rfl rfl ?_
    refine v_get 17 13 0 cx dX7_go_14 iX7 (wXo_13 E st) rfl (Nat.le_of_ble_eq_true rfl) rfl kf_X7_31 rfl rfl ?_
    refine v_get 20 1 9 cx dX7_go_17 iX0 (wXo_1 E st) rfl (Nat.le_of_ble_eq_true rfl) rfl kf_X7_46 rfl rfl ?_
    refine v_iconst 21 cx dX7_go_20 ic_0 rfl ?_
    refine v_aload_n 22 0 cx dX7_go_21 rfl rfl rfl ?_
    refine v_get 25 13 3 cx dX7_go_22 iX7 (wXo_13 E st) rfl (Nat.le_of_ble_eq_true rfl) rfl kf_X7_9 rfl rfl ?_
    refine v_iconst 26 cx dX7_go_25 ic_0 rfl ?_
    refine v_iload 28 4 cx dX7_go_26 rfl rfl ?_
    refine v_callSI 31 cx dX7_go_28 km_X7_51 ca_X7_placeOf (c_X7_placeOf C.2.1 E st 0 x4 ) rfl (by decide) rfl (Nat.le_of_ble_eq_true rfl) rfl h (fun v4 s3 h => ?_)
    refine v_bipush 33 cx dX7_go_31 bp_16 rfl ?_
    refine v_copyl 36 26 59 1 cx dX7_go_33 km_X7_55 kac_n kac_s kac_i (wXa_1_9 E s3) (wXa_13_3 E s3) rfl (wXt_13_3 E s3) (by decide) (by decide +kernel) rfl h (fun s5 h => ?_)
    refine v_iinc 39 4 (fun a6 => [(4, .int a6), (0, .ref (oX E 13)), (1, .int x1), (2, .int x2), (3, .ref (oX E 16))]) cx dX7_go_36 rfl ic_1 (by decide) (fun _ => rfl) rfl h (fun a6 h => ?_)
    refine v_goto 8 cx dX7_go_39 (by decide) ?_
    cases h
    have hk : Vat C (wX E) 5 8 [(0, .ref (oX E 13)), (1, .int x1), (2, .int x2), (3, .ref (oX E 16)), (4, .int a6)] [] s5 := hk
    exact v_lsub (lv' := [(0, .ref (oX E 13)), (1, .int x1), (2, .int x2), (3, .ref (oX E 16)), (4, .int a6)]) [1, 2, 3, 4, 0] rfl (hk)
set_option maxHeartbeats 4000000 in
set_option maxRecDepth 100000 in
theorem j_X7_go_88_16 {C : Cm} {E : Ev} (cx : Cx C (tyE E) cX7_go RX7 5 4 97) (t0 : Int32) (st : Sg) (out : Unit × Sg) (h : m_X7_go_88 16 t0 st = some out) (hk : ReV C (wX E) cX7_go 5 out) : Vat C (wX E) 5 88 [(0, .ref (oX E 13)), (3, .ref (oX E 16))] [.int t0, .ref (oX E 16)] st := by
  unfold m_X7_go_88 at h
  refine v_putI 91 16 6 cx dX7_go_88 iX5 tyX5_ok nmX5 (wXo_16 E st) rfl (Nat.le_of_ble_eq_true rfl) rfl kf_X7_80 rfl rfl rfl rfl (Nat.le_of_ble_eq_true rfl) (wXs_16_6 E st _) rfl h (fun s11 h => ?_)
  refine v_aload_n 92 1 cx dX7_go_91 rfl rfl rfl ?_
  refine v_getI 95 16 6 cx dX7_go_92 iX5 (wXo_16 E s11) rfl (Nat.le_of_ble_eq_true rfl) rfl kf_X7_80 rfl rfl h (fun v12 h => ?_)
  refine v_if_le 122 98 cx dX7_go_95 (by decide) rfl h (fun h => ?_) (fun h => ?_)
  · exact hk _ _ _ _ (Option.some.inj h) dX7_go_122
  · refine v_aload_n 99 0 cx dX7_go_98 rfl rfl rfl ?_
    refine v_get 102 13 3 cx dX7_go_99 iX7 (wXo_13 E s11) rfl (Nat.le_of_ble_eq_true rfl) rfl kf_X7_9 rfl rfl ?_
    refine v_iconst 103 cx dX7_go_102 ic_0 rfl ?_
    refine v_aload_n 104 1 cx dX7_go_103 rfl rfl rfl ?_
    refine v_getI 107 16 6 cx dX7_go_104 iX5 (wXo_16 E s11) rfl (Nat.le_of_ble_eq_true rfl) rfl kf_X7_80 rfl rfl h (fun v13 h => ?_)
    refine v_iconst 108 cx dX7_go_107 ic_1 rfl ?_
    refine v_isub 109 cx dX7_go_108 rfl ?_
    refine v_callSI 112 cx dX7_go_109 km_X7_51 ca_X7_placeOf (c_X7_placeOf C.2.1 E s11 0 (v13 - 1) ) rfl (by decide) rfl (Nat.le_of_ble_eq_true rfl) rfl h (fun v15 s14 h => ?_)
    refine v_aload_n 113 1 cx dX7_go_112 rfl rfl rfl ?_
    refine v_get 116 16 7 cx dX7_go_113 iX5 (wXo_16 E s14) rfl (Nat.le_of_ble_eq_true rfl) rfl kf_X7_83 rfl rfl ?_
    refine v_iconst 117 cx dX7_go_116 ic_0 rfl ?_
    refine v_bipush 119 cx dX7_go_117 bp_16 rfl ?_
    refine v_copyl 122 59 64 1 cx dX7_go_119 km_X7_55 kac_n kac_s kac_i (wXa_13_3 E s14) (wXa_16_7 E s14) rfl (wXt_16_7 E s14) (by decide) (by decide +kernel) rfl h (fun s16 h => ?_)
    exact hk _ _ _ _ (Option.some.inj h) dX7_go_122
set_option maxHeartbeats 4000000 in
set_option maxRecDepth 100000 in
theorem j_X7_go_72_16 {C : Cm} {E : Ev} (cx : Cx C (tyE E) cX7_go RX7 5 4 97) (x1 : Int32) (st : Sg) (out : Unit × Sg) (h : m_X7_go_72 16 x1 st = some out) (hk : ReV C (wX E) cX7_go 5 out) : Vat C (wX E) 5 72 [(0, .ref (oX E 13)), (1, .int x1), (3, .ref (oX E 16))] [] st := by
  unfold m_X7_go_72 at h
  refine v_aload_n 73 2 cx dX7_go_72 rfl rfl rfl ?_
  refine v_aload_n 74 2 cx dX7_go_73 rfl rfl rfl ?_
  refine v_getI 77 16 0 cx dX7_go_74 iX5 (wXo_16 E st) rfl (Nat.le_of_ble_eq_true rfl) rfl kf_X7_74 rfl rfl h (fun v9 h => ?_)
  refine v_if_ne 84 80 cx dX7_go_77 (by decide) rfl h (fun h => ?_) (fun h => ?_)
  · refine v_aload_n 85 2 cx dX7_go_84 rfl rfl rfl ?_
    refine v_getI 88 16 2 cx dX7_go_85 iX5 (wXo_16 E st) rfl (Nat.le_of_ble_eq_true rfl) rfl kf_X7_77 rfl rfl h (fun v10 h => ?_)
    exact v_lsub (lv' := [(0, .ref (oX E 13)), (3, .ref (oX E 16))]) [0, 2] rfl (j_X7_go_88_16 cx v10 st _ h hk)
  · refine v_iload_n 81 1 cx dX7_go_80 rfl rfl rfl ?_
    refine v_goto 88 cx dX7_go_81 (by decide) ?_
    exact v_lsub (lv' := [(0, .ref (oX E 13)), (3, .ref (oX E 16))]) [0, 2] rfl (j_X7_go_88_16 cx x1 st _ h hk)
set_option maxHeartbeats 4000000 in
set_option maxRecDepth 100000 in
theorem j_X7_go_66_16 {C : Cm} {E : Ev} (cx : Cx C (tyE E) cX7_go RX7 5 4 97) (x1 : Int32) (st : Sg) (out : Unit × Sg) (h : m_X7_go_66 16 x1 st = some out) (hk : ReV C (wX E) cX7_go 5 out) : Vat C (wX E) 5 66 [(0, .ref (oX E 13)), (1, .int x1), (3, .ref (oX E 16))] [] st := by
  unfold m_X7_go_66 at h
  refine v_aload_n 67 0 cx dX7_go_66 rfl rfl rfl ?_
  refine v_iload_n 68 1 cx dX7_go_67 rfl rfl rfl ?_
  refine v_aload_n 69 2 cx dX7_go_68 rfl rfl rfl ?_
  refine v_callVV 72 13 cx dX7_go_69 km_X7_71 ca_X7_goPlain (wXo_13 E st) rfl (c_X7_goPlain_16 C.2.1 E st x1 ) rfl (by decide) rfl (Nat.le_of_ble_eq_true rfl) rfl h (fun _ s8 h => ?_)
  exact j_X7_go_72_16 cx x1 s8 _ h hk
set_option maxHeartbeats 4000000 in
set_option maxRecDepth 100000 in
theorem c_X7_go_16 (l : Launch) (E : Ev) (st : Sg) (p1 : Int32) (p2 : Int32) : ∀ q, m_X7_go 16 p1 p2 st = some q → CtV l (wX E) (tyE E) yX7_go cX7_go 5 none 4 97 [.ref (oX E 13), .int p1, .int p2, .ref (oX E 16)] st q := by
  intro q h
  refine ctV_of (lv0 := [(0, .ref (oX E 13)), (1, .int p1), (2, .int p2), (3, .ref (oX E 16))]) (by decide) rfl (Nat.le_of_ble_eq_true rfl) (fun C hC cx hk => ?_)
  replace cx : Cx C (tyE E) cX7_go RX7 5 4 97 := cx
  unfold m_X7_go at h
  refine v_aload_n 1 3 cx dX7_go_0 rfl rfl rfl ?_
  refine v_callVV 4 16 cx dX7_go_1 km_X7_43 ca_X5_clear (wXo_16 E st) rfl (c_X5_clear_16 C.2.1 E st ) rfl (by decide) rfl (Nat.le_of_ble_eq_true rfl) rfl h (fun _ s1 h => ?_)
  refine v_bipush 6 cx dX7_go_4 bp_m4 rfl ?_
  refine v_istore 8 (fun a2 => [(4, .int a2), (0, .ref (oX E 13)), (1, .int p1), (2, .int p2), (3, .ref (oX E 16))]) cx dX7_go_6 (by decide) (fun _ => rfl) rfl h (fun a2 h => ?_)
  refine v_lsub (lv' := [(0, .ref (oX E 13)), (1, .int p1), (2, .int p2), (3, .ref (oX E 16)), (4, .int a2)]) [1, 2, 3, 4, 0] rfl ?_
  refine v_loop (s0 := (a2, s1)) (V_X7_go_L8_16 C E p1 p2) (K_X7_go_L8_16 C E p1 p2) h (b_X7_go_L8_16 cx p1 p2) (fun r7 h => ?_)
  show Vat C (wX E) 5 42 [(0, .ref (oX E 13)), (1, .int p1), (2, .int p2), (3, .ref (oX E 16))] [] r7
  refine v_iload_n 43 2 cx dX7_go_42 rfl rfl rfl ?_
  refine v_if_eq 66 46 cx dX7_go_43 (by decide) rfl h (fun h => ?_) (fun h => ?_)
  · exact v_lsub (lv' := [(0, .ref (oX E 13)), (1, .int p1), (3, .ref (oX E 16))]) [0, 1, 3] rfl (j_X7_go_66_16 cx p1 r7 _ h hk)
  · refine v_iload_n 47 1 cx dX7_go_46 rfl rfl rfl ?_
    refine v_aload_n 48 0 cx dX7_go_47 rfl rfl rfl ?_
    refine v_get 51 13 2 cx dX7_go_48 iX7 (wXo_13 E r7) rfl (Nat.le_of_ble_eq_true rfl) rfl kf_X7_39 rfl rfl ?_
    refine v_getI 54 9 2 cx dX7_go_51 iX4 (wXo_9 E r7) rfl (Nat.le_of_ble_eq_true rfl) rfl kf_X7_61 rfl rfl h (fun v17 h => ?_)
    refine v_icmp_lt 66 57 cx dX7_go_54 (by decide) rfl h (fun h => ?_) (fun h => ?_)
    · exact v_lsub (lv' := [(0, .ref (oX E 13)), (1, .int p1), (3, .ref (oX E 16))]) [0, 1, 3] rfl (j_X7_go_66_16 cx p1 r7 _ h hk)
    · refine v_aload_n 58 0 cx dX7_go_57 rfl rfl rfl ?_
      refine v_iload_n 59 1 cx dX7_go_58 rfl rfl rfl ?_
      refine v_aload_n 60 3 cx dX7_go_59 rfl rfl rfl ?_
      refine v_callVV 63 13 cx dX7_go_60 km_X7_67 ca_X7_goByTicks (wXo_13 E r7) rfl (c_X7_goByTicks_16 C.2.1 E r7 p1 ) rfl (by decide) rfl (Nat.le_of_ble_eq_true rfl) rfl h (fun _ s18 h => ?_)
      refine v_goto 72 cx dX7_go_63 (by decide) ?_
      exact v_lsub (lv' := [(0, .ref (oX E 13)), (1, .int p1), (3, .ref (oX E 16))]) [0, 1, 3] rfl (j_X7_go_72_16 cx p1 s18 _ h hk)
def V_X5_isLike_L48_14 (C : Cm) (E : Ev) (x2 : Int32) (s : (Int32 × Sg)) : Prop := Vat C (wX E) 4 48 [(0, .ref (oX E 14)), (1, .ref (oX E 15)), (2, .int x2), (3, .int s.1)] [] s.2
def K_X5_isLike_L48_14 (C : Cm) (E : Ev) (x2 : Int32) : ((Sg) ⊕ (Sg)) → Prop := (Sum.elim (fun r : (Sg) => Vat C (wX E) 4 84 [] [] r) (fun r : (Sg) => Vat C (wX E) 4 76 [] [] r))
set_option maxHeartbeats 4000000 in
set_option maxRecDepth 100000 in
theorem b_X5_isLike_L48_14 {C : Cm} {E : Ev} (cx : Cx C (tyE E) cX5_isLike RX5 4 0 0) (x2 : Int32) : ∀ (s : (Int32 × Sg)) (out : (Int32 × Sg) ⊕ ((Sg) ⊕ (Sg))), m_X5_isLike_L48 14 x2 s.1 s.2 = some out → Sum.elim (V_X5_isLike_L48_14 C E x2) (K_X5_isLike_L48_14 C E x2) out → V_X5_isLike_L48_14 C E x2 s := by
  intro s out h hk
  obtain ⟨x3, st⟩ := s
  show Vat C (wX E) 4 48 [(0, .ref (oX E 14)), (1, .ref (oX E 15)), (2, .int x2), (3, .int x3)] [] st
  replace h : m_X5_isLike_L48 14 x2 x3 st = some out := h
  unfold m_X5_isLike_L48 at h
  refine v_iload_n 49 3 cx dX5_isLike_48 rfl rfl rfl ?_
  refine v_iload_n 50 2 cx dX5_isLike_49 rfl rfl rfl ?_
  refine v_icmp_ge 84 53 cx dX5_isLike_50 (by decide) rfl h (fun h => ?_) (fun h => ?_)
  · cases h
    have hk : Vat C (wX E) 4 84 [] [] st := hk
    exact v_lsub (lv' := []) [] rfl (hk)
  · refine v_aload_n 54 0 cx dX5_isLike_53 rfl rfl rfl ?_
    refine v_getI 57 14 6 cx dX5_isLike_54 iX5 (wXo_14 E st) rfl (Nat.le_of_ble_eq_true rfl) rfl kf_X5_31 rfl rfl h (fun v10 h => ?_)
    refine v_if_le 84 60 cx dX5_isLike_57 (by decide) rfl h (fun h => ?_) (fun h => ?_)
    · cases h
      have hk : Vat C (wX E) 4 84 [] [] st := hk
      exact v_lsub (lv' := []) [] rfl (hk)
    · refine v_aload_n 61 0 cx dX5_isLike_60 rfl rfl rfl ?_
      refine v_get 64 14 7 cx dX5_isLike_61 iX5 (wXo_14 E st) rfl (Nat.le_of_ble_eq_true rfl) rfl kf_X5_34 rfl rfl ?_
      refine v_iload_n 65 3 cx dX5_isLike_64 rfl rfl rfl ?_
      refine v_lald 66 62 1 cx dX5_isLike_65 (wXa_14_7 E st) rfl rfl h (fun v11 h => ?_)
      refine v_aload_n 67 1 cx dX5_isLike_66 rfl rfl rfl ?_
      refine v_get 70 15 7 cx dX5_isLike_67 iX5 (wXo_15 E st) rfl (Nat.le_of_ble_eq_true rfl) rfl kf_X5_34 rfl rfl ?_
      refine v_iload_n 71 3 cx dX5_isLike_70 rfl rfl rfl ?_
      refine v_lald 72 63 1 cx dX5_isLike_71 (wXa_15_7 E st) rfl rfl h (fun v12 h => ?_)
      refine v_lcmp 73 cx dX5_isLike_72 rfl ?_
      refine v_if_eq 78 76 cx dX5_isLike_73 (by decide) rfl h (fun h => ?_) (fun h => ?_)
      · refine v_iinc 81 3 (fun a13 => [(3, .int a13), (0, .ref (oX E 14)), (1, .ref (oX E 15)), (2, .int x2)]) cx dX5_isLike_78 rfl ic_1 (by decide) (fun _ => rfl) rfl h (fun a13 h => ?_)
        refine v_goto 48 cx dX5_isLike_81 (by decide) ?_
        cases h
        have hk : Vat C (wX E) 4 48 [(0, .ref (oX E 14)), (1, .ref (oX E 15)), (2, .int x2), (3, .int a13)] [] st := hk
        exact v_lsub (lv' := [(0, .ref (oX E 14)), (1, .ref (oX E 15)), (2, .int x2), (3, .int a13)]) [1, 2, 3, 0] rfl (hk)
      · cases h
        have hk : Vat C (wX E) 4 76 [] [] st := hk
        exact v_lsub (lv' := []) [] rfl (hk)
set_option maxHeartbeats 4000000 in
set_option maxRecDepth 100000 in
theorem c_X5_isLike_14 (l : Launch) (E : Ev) (st : Sg) (p2 : Int32) : ∀ q, m_X5_isLike 14 p2 st = some q → CtI l (wX E) (tyE E) yX5_isLike cX5_isLike 4 (some .boolean) 0 0 [.ref (oX E 14), .ref (oX E 15), .int p2] st q := by
  intro q h
  refine ctZ_of (lv0 := [(0, .ref (oX E 14)), (1, .ref (oX E 15)), (2, .int p2)]) (by decide) rfl (Nat.le_of_ble_eq_true rfl) (fun C hC cx hk => ?_)
  replace cx : Cx C (tyE E) cX5_isLike RX5 4 0 0 := cx
  unfold m_X5_isLike at h
  refine v_aload_n 1 0 cx dX5_isLike_0 rfl rfl rfl ?_
  refine v_getI 4 14 0 cx dX5_isLike_1 iX5 (wXo_14 E st) rfl (Nat.le_of_ble_eq_true rfl) rfl kf_X5_9 rfl rfl h (fun v1 h => ?_)
  refine v_aload_n 5 1 cx dX5_isLike_4 rfl rfl rfl ?_
  refine v_getI 8 15 0 cx dX5_isLike_5 iX5 (wXo_15 E st) rfl (Nat.le_of_ble_eq_true rfl) rfl kf_X5_9 rfl rfl h (fun v2 h => ?_)
  refine v_icmp_ne 44 11 cx dX5_isLike_8 (by decide) rfl h (fun h => ?_) (fun h => ?_)
  · refine v_iconst 45 cx dX5_isLike_44 ic_0 rfl ?_
    exact hk _ _ _ _ (Option.some.inj h) (Or.inl rfl) dX5_isLike_45
  · refine v_aload_n 12 0 cx dX5_isLike_11 rfl rfl rfl ?_
    refine v_getI 15 14 1 cx dX5_isLike_12 iX5 (wXo_14 E st) rfl (Nat.le_of_ble_eq_true rfl) rfl kf_X5_15 rfl rfl h (fun v3 h => ?_)
    refine v_aload_n 16 1 cx dX5_isLike_15 rfl rfl rfl ?_
    refine v_getI 19 15 1 cx dX5_isLike_16 iX5 (wXo_15 E st) rfl (Nat.le_of_ble_eq_true rfl) rfl kf_X5_15 rfl rfl h (fun v4 h => ?_)
    refine v_icmp_ne 44 22 cx dX5_isLike_19 (by decide) rfl h (fun h => ?_) (fun h => ?_)
    · refine v_iconst 45 cx dX5_isLike_44 ic_0 rfl ?_
      exact hk _ _ _ _ (Option.some.inj h) (Or.inl rfl) dX5_isLike_45
    · refine v_aload_n 23 0 cx dX5_isLike_22 rfl rfl rfl ?_
      refine v_getI 26 14 2 cx dX5_isLike_23 iX5 (wXo_14 E st) rfl (Nat.le_of_ble_eq_true rfl) rfl kf_X5_18 rfl rfl h (fun v5 h => ?_)
      refine v_aload_n 27 1 cx dX5_isLike_26 rfl rfl rfl ?_
      refine v_getI 30 15 2 cx dX5_isLike_27 iX5 (wXo_15 E st) rfl (Nat.le_of_ble_eq_true rfl) rfl kf_X5_18 rfl rfl h (fun v6 h => ?_)
      refine v_icmp_ne 44 33 cx dX5_isLike_30 (by decide) rfl h (fun h => ?_) (fun h => ?_)
      · refine v_iconst 45 cx dX5_isLike_44 ic_0 rfl ?_
        exact hk _ _ _ _ (Option.some.inj h) (Or.inl rfl) dX5_isLike_45
      · refine v_aload_n 34 0 cx dX5_isLike_33 rfl rfl rfl ?_
        refine v_getI 37 14 6 cx dX5_isLike_34 iX5 (wXo_14 E st) rfl (Nat.le_of_ble_eq_true rfl) rfl kf_X5_31 rfl rfl h (fun v7 h => ?_)
        refine v_aload_n 38 1 cx dX5_isLike_37 rfl rfl rfl ?_
        refine v_getI 41 15 6 cx dX5_isLike_38 iX5 (wXo_15 E st) rfl (Nat.le_of_ble_eq_true rfl) rfl kf_X5_31 rfl rfl h (fun v8 h => ?_)
        refine v_icmp_eq 46 44 cx dX5_isLike_41 (by decide) rfl h (fun h => ?_) (fun h => ?_)
        · refine v_iconst 47 cx dX5_isLike_46 ic_0 rfl ?_
          refine v_istore_n 48 (fun a9 => [(3, .int a9), (0, .ref (oX E 14)), (1, .ref (oX E 15)), (2, .int p2)]) cx dX5_isLike_47 rfl (by decide) (fun _ => rfl) rfl h (fun a9 h => ?_)
          refine v_lsub (lv' := [(0, .ref (oX E 14)), (1, .ref (oX E 15)), (2, .int p2), (3, .int a9)]) [1, 2, 3, 0] rfl ?_
          refine v_loop (s0 := (a9, st)) (V_X5_isLike_L48_14 C E p2) (K_X5_isLike_L48_14 C E p2) h (b_X5_isLike_L48_14 cx p2) (fun r14 h => ?_)
          rcases r14 with r14 | r14
          · rw [Sum.elim_inl] at h
            show Vat C (wX E) 4 84 [] [] r14
            refine v_iconst 85 cx dX5_isLike_84 ic_1 rfl ?_
            exact hk _ _ _ _ (Option.some.inj h) (Or.inr rfl) dX5_isLike_85
          · rw [Sum.elim_inr] at h
            show Vat C (wX E) 4 76 [] [] r14
            refine v_iconst 77 cx dX5_isLike_76 ic_0 rfl ?_
            exact hk _ _ _ _ (Option.some.inj h) (Or.inl rfl) dX5_isLike_77
        · refine v_iconst 45 cx dX5_isLike_44 ic_0 rfl ?_
          exact hk _ _ _ _ (Option.some.inj h) (Or.inl rfl) dX5_isLike_45
def V_X7_rowsAreAsOfPlain_L2 (C : Cm) (E : Ev) (s : (Int32 × Sg)) : Prop := Vat C (wX E) 2 2 [(0, .ref (oX E 13)), (1, .int s.1)] [] s.2
def K_X7_rowsAreAsOfPlain_L2 (C : Cm) (E : Ev) : ((Sg) ⊕ (Sg)) → Prop := (Sum.elim (fun r : (Sg) => Vat C (wX E) 2 38 [] [] r) (fun r : (Sg) => Vat C (wX E) 2 30 [] [] r))
set_option maxHeartbeats 4000000 in
set_option maxRecDepth 100000 in
theorem b_X7_rowsAreAsOfPlain_L2 {C : Cm} {E : Ev} (cx : Cx C (tyE E) cX7_rowsAreAsOfPlain RX7 2 0 0) : ∀ (s : (Int32 × Sg)) (out : (Int32 × Sg) ⊕ ((Sg) ⊕ (Sg))), m_X7_rowsAreAsOfPlain_L2 s.1 s.2 = some out → Sum.elim (V_X7_rowsAreAsOfPlain_L2 C E) (K_X7_rowsAreAsOfPlain_L2 C E) out → V_X7_rowsAreAsOfPlain_L2 C E s := by
  intro s out h hk
  obtain ⟨x1, st⟩ := s
  show Vat C (wX E) 2 2 [(0, .ref (oX E 13)), (1, .int x1)] [] st
  replace h : m_X7_rowsAreAsOfPlain_L2 x1 st = some out := h
  unfold m_X7_rowsAreAsOfPlain_L2 at h
  refine v_iload_n 3 1 cx dX7_rowsAreAsOfPlain_2 rfl rfl rfl ?_
  refine v_aload_n 4 0 cx dX7_rowsAreAsOfPlain_3 rfl rfl rfl ?_
  refine v_get 7 13 7 cx dX7_rowsAreAsOfPlain_4 iX7 (wXo_13 E st) rfl (Nat.le_of_ble_eq_true rfl) rfl kf_X7_28 rfl rfl ?_
  refine v_alen 8 61 1 (v := Int32.ofNat 320) cx dX7_rowsAreAsOfPlain_7 (wXa_13_7 E st) rfl rfl rfl ?_
  refine v_icmp_ge 38 11 cx dX7_rowsAreAsOfPlain_8 (by decide) rfl h (fun h => ?_) (fun h => ?_)
  · cases h
    have hk : Vat C (wX E) 2 38 [] [] st := hk
    exact v_lsub (lv' := []) [] rfl (hk)
  · refine v_aload_n 12 0 cx dX7_rowsAreAsOfPlain_11 rfl rfl rfl ?_
    refine v_get 15 13 1 cx dX7_rowsAreAsOfPlain_12 iX7 (wXo_13 E st) rfl (Nat.le_of_ble_eq_true rfl) rfl kf_X7_35 rfl rfl ?_
    refine v_get 18 5 2 cx dX7_rowsAreAsOfPlain_15 iX6 (wXo_5 E st) rfl (Nat.le_of_ble_eq_true rfl) rfl kf_X7_84 rfl rfl ?_
    refine v_iload_n 19 1 cx dX7_rowsAreAsOfPlain_18 rfl rfl rfl ?_
    refine v_lald 20 38 1 cx dX7_rowsAreAsOfPlain_19 (wXa_5_2 E st) rfl rfl h (fun v2 h => ?_)
    refine v_aload_n 21 0 cx dX7_rowsAreAsOfPlain_20 rfl rfl rfl ?_
    refine v_get 24 13 7 cx dX7_rowsAreAsOfPlain_21 iX7 (wXo_13 E st) rfl (Nat.le_of_ble_eq_true rfl) rfl kf_X7_28 rfl rfl ?_
    refine v_iload_n 25 1 cx dX7_rowsAreAsOfPlain_24 rfl rfl rfl ?_
    refine v_lald 26 61 1 cx dX7_rowsAreAsOfPlain_25 (wXa_13_7 E st) rfl rfl h (fun v3 h => ?_)
    refine v_lcmp 27 cx dX7_rowsAreAsOfPlain_26 rfl ?_
    refine v_if_eq 32 30 cx dX7_rowsAreAsOfPlain_27 (by decide) rfl h (fun h => ?_) (fun h => ?_)
    · refine v_iinc 35 1 (fun a4 => [(1, .int a4), (0, .ref (oX E 13))]) cx dX7_rowsAreAsOfPlain_32 rfl ic_1 (by decide) (fun _ => rfl) rfl h (fun a4 h => ?_)
      refine v_goto 2 cx dX7_rowsAreAsOfPlain_35 (by decide) ?_
      cases h
      have hk : Vat C (wX E) 2 2 [(0, .ref (oX E 13)), (1, .int a4)] [] st := hk
      exact v_lsub (lv' := [(0, .ref (oX E 13)), (1, .int a4)]) [1, 0] rfl (hk)
    · cases h
      have hk : Vat C (wX E) 2 30 [] [] st := hk
      exact v_lsub (lv' := []) [] rfl (hk)
set_option maxHeartbeats 4000000 in
set_option maxRecDepth 100000 in
theorem c_X7_rowsAreAsOfPlain (l : Launch) (E : Ev) (st : Sg) : ∀ q, m_X7_rowsAreAsOfPlain st = some q → CtI l (wX E) (tyE E) yX7_rowsAreAsOfPlain cX7_rowsAreAsOfPlain 2 (some .boolean) 0 0 [.ref (oX E 13)] st q := by
  intro q h
  refine ctZ_of (lv0 := [(0, .ref (oX E 13))]) (by decide) rfl (Nat.le_of_ble_eq_true rfl) (fun C hC cx hk => ?_)
  replace cx : Cx C (tyE E) cX7_rowsAreAsOfPlain RX7 2 0 0 := cx
  unfold m_X7_rowsAreAsOfPlain at h
  refine v_iconst 1 cx dX7_rowsAreAsOfPlain_0 ic_0 rfl ?_
  refine v_istore_n 2 (fun a1 => [(1, .int a1), (0, .ref (oX E 13))]) cx dX7_rowsAreAsOfPlain_1 rfl (by decide) (fun _ => rfl) rfl h (fun a1 h => ?_)
  refine v_lsub (lv' := [(0, .ref (oX E 13)), (1, .int a1)]) [1, 0] rfl ?_
  refine v_loop (s0 := (a1, st)) (V_X7_rowsAreAsOfPlain_L2 C E) (K_X7_rowsAreAsOfPlain_L2 C E) h (b_X7_rowsAreAsOfPlain_L2 cx) (fun r5 h => ?_)
  rcases r5 with r5 | r5
  · rw [Sum.elim_inl] at h
    show Vat C (wX E) 2 38 [] [] r5
    refine v_iconst 39 cx dX7_rowsAreAsOfPlain_38 ic_1 rfl ?_
    exact hk _ _ _ _ (Option.some.inj h) (Or.inr rfl) dX7_rowsAreAsOfPlain_39
  · rw [Sum.elim_inr] at h
    show Vat C (wX E) 2 30 [] [] r5
    refine v_iconst 31 cx dX7_rowsAreAsOfPlain_30 ic_0 rfl ?_
    exact hk _ _ _ _ (Option.some.inj h) (Or.inl rfl) dX7_rowsAreAsOfPlain_31
set_option maxHeartbeats 4000000 in
set_option maxRecDepth 100000 in
theorem j_X7_bothAgree_116 {C : Cm} {E : Ev} (cx : Cx C (tyE E) cX7_bothAgree RX7 3 5 121) (t0 : Int32) (st : Sg) (out : Int32 × Sg) (h : m_X7_bothAgree_116 t0 st = some out) (hk : ReZ C (wX E) cX7_bothAgree 3 out) : Vat C (wX E) 3 116 [(0, .ref (oX E 13))] [.int t0] st := by
  unfold m_X7_bothAgree_116 at h
  refine v_istore_n 117 (fun a9 => [(2, .int a9), (0, .ref (oX E 13))]) cx dX7_bothAgree_116 rfl (by decide) (fun _ => rfl) rfl h (fun a9 h => ?_)
  refine v_aload_n 118 1 cx dX7_bothAgree_117 rfl rfl rfl ?_
  refine v_get 121 13 6 cx dX7_bothAgree_118 iX7 (wXo_13 E st) rfl (Nat.le_of_ble_eq_true rfl) rfl kf_X7_25 rfl rfl ?_
  refine v_iconst 122 cx dX7_bothAgree_121 ic_0 rfl ?_
  refine v_aload_n 123 1 cx dX7_bothAgree_122 rfl rfl rfl ?_
  refine v_get 126 13 1 cx dX7_bothAgree_123 iX7 (wXo_13 E st) rfl (Nat.le_of_ble_eq_true rfl) rfl kf_X7_35 rfl rfl ?_
  refine v_get 129 5 2 cx dX7_bothAgree_126 iX6 (wXo_5 E st) rfl (Nat.le_of_ble_eq_true rfl) rfl kf_X7_84 rfl rfl ?_
  refine v_iconst 130 cx dX7_bothAgree_129 ic_0 rfl ?_
  refine v_aload_n 131 1 cx dX7_bothAgree_130 rfl rfl rfl ?_
  refine v_get 134 13 6 cx dX7_bothAgree_131 iX7 (wXo_13 E st) rfl (Nat.le_of_ble_eq_true rfl) rfl kf_X7_25 rfl rfl ?_
  refine v_alen 135 60 1 (v := Int32.ofNat 320) cx dX7_bothAgree_134 (wXa_13_6 E st) rfl rfl rfl ?_
  refine v_copyl 138 60 38 1 cx dX7_bothAgree_135 km_X7_55 kac_n kac_s kac_i (wXa_13_6 E st) (wXa_5_2 E st) rfl (wXt_5_2 E st) (by decide) (by decide +kernel) rfl h (fun s10 h => ?_)
  refine v_iload_n 139 0 cx dX7_bothAgree_138 rfl rfl rfl ?_
  obtain ⟨hz, h⟩ := bok_inv h
  exact hk _ _ _ _ (Option.some.inj h) hz dX7_bothAgree_139
set_option maxHeartbeats 4000000 in
set_option maxRecDepth 100000 in
theorem j_X7_bothAgree_115 {C : Cm} {E : Ev} (cx : Cx C (tyE E) cX7_bothAgree RX7 3 5 121) (st : Sg) (out : Int32 × Sg) (h : m_X7_bothAgree_115 st = some out) (hk : ReZ C (wX E) cX7_bothAgree 3 out) : Vat C (wX E) 3 115 [(0, .ref (oX E 13))] [] st := by
  unfold m_X7_bothAgree_115 at h
  refine v_iconst 116 cx dX7_bothAgree_115 ic_0 rfl ?_
  exact j_X7_bothAgree_116 cx 0 st _ h hk
set_option maxHeartbeats 4000000 in
set_option maxRecDepth 100000 in
theorem c_X7_bothAgree (l : Launch) (E : Ev) (st : Sg) (p1 : Int32) : ∀ q, m_X7_bothAgree p1 st = some q → CtI l (wX E) (tyE E) yX7_bothAgree cX7_bothAgree 3 (some .boolean) 5 121 [.ref (oX E 13), .int p1] st q := by
  intro q h
  refine ctZ_of (lv0 := [(0, .ref (oX E 13)), (1, .int p1)]) (by decide) rfl (Nat.le_of_ble_eq_true rfl) (fun C hC cx hk => ?_)
  replace cx : Cx C (tyE E) cX7_bothAgree RX7 3 5 121 := cx
  unfold m_X7_bothAgree at h
  refine v_aload_n 1 0 cx dX7_bothAgree_0 rfl rfl rfl ?_
  refine v_get 4 13 1 cx dX7_bothAgree_1 iX7 (wXo_13 E st) rfl (Nat.le_of_ble_eq_true rfl) rfl kf_X7_35 rfl rfl ?_
  refine v_get 7 5 2 cx dX7_bothAgree_4 iX6 (wXo_5 E st) rfl (Nat.le_of_ble_eq_true rfl) rfl kf_X7_84 rfl rfl ?_
  refine v_iconst 8 cx dX7_bothAgree_7 ic_0 rfl ?_
  refine v_aload_n 9 0 cx dX7_bothAgree_8 rfl rfl rfl ?_
  refine v_get 12 13 6 cx dX7_bothAgree_9 iX7 (wXo_13 E st) rfl (Nat.le_of_ble_eq_true rfl) rfl kf_X7_25 rfl rfl ?_
  refine v_iconst 13 cx dX7_bothAgree_12 ic_0 rfl ?_
  refine v_aload_n 14 0 cx dX7_bothAgree_13 rfl rfl rfl ?_
  refine v_get 17 13 6 cx dX7_bothAgree_14 iX7 (wXo_13 E st) rfl (Nat.le_of_ble_eq_true rfl) rfl kf_X7_25 rfl rfl ?_
  refine v_alen 18 60 1 (v := Int32.ofNat 320) cx dX7_bothAgree_17 (wXa_13_6 E st) rfl rfl rfl ?_
  refine v_copyl 21 38 60 1 cx dX7_bothAgree_18 km_X7_55 kac_n kac_s kac_i (wXa_5_2 E st) (wXa_13_6 E st) rfl (wXt_13_6 E st) (by decide) (by decide +kernel) rfl h (fun s1 h => ?_)
  refine v_aload_n 22 0 cx dX7_bothAgree_21 rfl rfl rfl ?_
  refine v_iload_n 23 1 cx dX7_bothAgree_22 rfl rfl rfl ?_
  refine v_iconst 24 cx dX7_bothAgree_23 ic_0 rfl ?_
  refine v_aload_n 25 0 cx dX7_bothAgree_24 rfl rfl rfl ?_
  refine v_get 28 13 4 cx dX7_bothAgree_25 iX7 (wXo_13 E s1) rfl (Nat.le_of_ble_eq_true rfl) rfl kf_X7_18 rfl rfl ?_
  refine v_callVV 31 13 cx dX7_bothAgree_28 km_X7_89 ca_X7_go (wXo_13 E s1) rfl (c_X7_go_14 C.2.1 E s1 p1 0 ) rfl (by decide) rfl (Nat.le_of_ble_eq_true rfl) rfl h (fun _ s2 h => ?_)
  refine v_aload_n 32 0 cx dX7_bothAgree_31 rfl rfl rfl ?_
  refine v_get 35 13 1 cx dX7_bothAgree_32 iX7 (wXo_13 E s2) rfl (Nat.le_of_ble_eq_true rfl) rfl kf_X7_35 rfl rfl ?_
  refine v_get 38 5 2 cx dX7_bothAgree_35 iX6 (wXo_5 E s2) rfl (Nat.le_of_ble_eq_true rfl) rfl kf_X7_84 rfl rfl ?_
  refine v_iconst 39 cx dX7_bothAgree_38 ic_0 rfl ?_
  refine v_aload_n 40 0 cx dX7_bothAgree_39 rfl rfl rfl ?_
  refine v_get 43 13 7 cx dX7_bothAgree_40 iX7 (wXo_13 E s2) rfl (Nat.le_of_ble_eq_true rfl) rfl kf_X7_28 rfl rfl ?_
  refine v_iconst 44 cx dX7_bothAgree_43 ic_0 rfl ?_
  refine v_aload_n 45 0 cx dX7_bothAgree_44 rfl rfl rfl ?_
  refine v_get 48 13 7 cx dX7_bothAgree_45 iX7 (wXo_13 E s2) rfl (Nat.le_of_ble_eq_true rfl) rfl kf_X7_28 rfl rfl ?_
  refine v_alen 49 61 1 (v := Int32.ofNat 320) cx dX7_bothAgree_48 (wXa_13_7 E s2) rfl rfl rfl ?_
  refine v_copyl 52 38 61 1 cx dX7_bothAgree_49 km_X7_55 kac_n kac_s kac_i (wXa_5_2 E s2) (wXa_13_7 E s2) rfl (wXt_13_7 E s2) (by decide) (by decide +kernel) rfl h (fun s3 h => ?_)
  refine v_aload_n 53 0 cx dX7_bothAgree_52 rfl rfl rfl ?_
  refine v_get 56 13 6 cx dX7_bothAgree_53 iX7 (wXo_13 E s3) rfl (Nat.le_of_ble_eq_true rfl) rfl kf_X7_25 rfl rfl ?_
  refine v_iconst 57 cx dX7_bothAgree_56 ic_0 rfl ?_
  refine v_aload_n 58 0 cx dX7_bothAgree_57 rfl rfl rfl ?_
  refine v_get 61 13 1 cx dX7_bothAgree_58 iX7 (wXo_13 E s3) rfl (Nat.le_of_ble_eq_true rfl) rfl kf_X7_35 rfl rfl ?_
  refine v_get 64 5 2 cx dX7_bothAgree_61 iX6 (wXo_5 E s3) rfl (Nat.le_of_ble_eq_true rfl) rfl kf_X7_84 rfl rfl ?_
  refine v_iconst 65 cx dX7_bothAgree_64 ic_0 rfl ?_
  refine v_aload_n 66 0 cx dX7_bothAgree_65 rfl rfl rfl ?_
  refine v_get 69 13 6 cx dX7_bothAgree_66 iX7 (wXo_13 E s3) rfl (Nat.le_of_ble_eq_true rfl) rfl kf_X7_25 rfl rfl ?_
  refine v_alen 70 60 1 (v := Int32.ofNat 320) cx dX7_bothAgree_69 (wXa_13_6 E s3) rfl rfl rfl ?_
  refine v_copyl 73 60 38 1 cx dX7_bothAgree_70 km_X7_55 kac_n kac_s kac_i (wXa_13_6 E s3) (wXa_5_2 E s3) rfl (wXt_5_2 E s3) (by decide) (by decide +kernel) rfl h (fun s4 h => ?_)
  refine v_aload_n 74 0 cx dX7_bothAgree_73 rfl rfl rfl ?_
  refine v_iload_n 75 1 cx dX7_bothAgree_74 rfl rfl rfl ?_
  refine v_iconst 76 cx dX7_bothAgree_75 ic_1 rfl ?_
  refine v_aload_n 77 0 cx dX7_bothAgree_76 rfl rfl rfl ?_
  refine v_get 80 13 5 cx dX7_bothAgree_77 iX7 (wXo_13 E s4) rfl (Nat.le_of_ble_eq_true rfl) rfl kf_X7_22 rfl rfl ?_
  refine v_callVV 83 13 cx dX7_bothAgree_80 km_X7_89 ca_X7_go (wXo_13 E s4) rfl (c_X7_go_15 C.2.1 E s4 p1 1 ) rfl (by decide) rfl (Nat.le_of_ble_eq_true rfl) rfl h (fun _ s5 h => ?_)
  refine v_aload_n 84 0 cx dX7_bothAgree_83 rfl rfl rfl ?_
  refine v_get 87 13 4 cx dX7_bothAgree_84 iX7 (wXo_13 E s5) rfl (Nat.le_of_ble_eq_true rfl) rfl kf_X7_18 rfl rfl ?_
  refine v_aload_n 88 0 cx dX7_bothAgree_87 rfl rfl rfl ?_
  refine v_get 91 13 5 cx dX7_bothAgree_88 iX7 (wXo_13 E s5) rfl (Nat.le_of_ble_eq_true rfl) rfl kf_X7_22 rfl rfl ?_
  refine v_aload_n 92 0 cx dX7_bothAgree_91 rfl rfl rfl ?_
  refine v_get 95 13 0 cx dX7_bothAgree_92 iX7 (wXo_13 E s5) rfl (Nat.le_of_ble_eq_true rfl) rfl kf_X7_31 rfl rfl ?_
  refine v_getI 98 1 0 cx dX7_bothAgree_95 iX0 (wXo_1 E s5) rfl (Nat.le_of_ble_eq_true rfl) rfl kf_X7_93 rfl rfl h (fun v6 h => ?_)
  refine v_callVI 101 14 cx dX7_bothAgree_98 km_X7_96 ca_X5_isLike (wXo_14 E s5) rfl (c_X5_isLike_14 C.2.1 E s5 v6 ) rfl (by decide) rfl (Nat.le_of_ble_eq_true rfl) rfl h (fun v8 s7 h => ?_)
  refine v_if_eq 115 104 cx dX7_bothAgree_101 (by decide) rfl h (fun h => ?_) (fun h => ?_)
  · exact v_lsub (lv' := [(0, .ref (oX E 13))]) [0] rfl (j_X7_bothAgree_115 cx s7 _ h hk)
  · refine v_aload_n 105 0 cx dX7_bothAgree_104 rfl rfl rfl ?_
    refine v_callVI 108 13 cx dX7_bothAgree_105 km_X7_100 ca_X7_rowsAreAsOfPlain (wXo_13 E s7) rfl (c_X7_rowsAreAsOfPlain C.2.1 E s7 ) rfl (by decide) rfl (Nat.le_of_ble_eq_true rfl) rfl h (fun v12 s11 h => ?_)
    refine v_if_eq 115 111 cx dX7_bothAgree_108 (by decide) rfl h (fun h => ?_) (fun h => ?_)
    · exact v_lsub (lv' := [(0, .ref (oX E 13))]) [0] rfl (j_X7_bothAgree_115 cx s11 _ h hk)
    · refine v_iconst 112 cx dX7_bothAgree_111 ic_1 rfl ?_
      refine v_goto 116 cx dX7_bothAgree_112 (by decide) ?_
      exact v_lsub (lv' := [(0, .ref (oX E 13))]) [0] rfl (j_X7_bothAgree_116 cx 1 s11 _ h hk)
set_option maxHeartbeats 4000000 in
set_option maxRecDepth 100000 in
theorem c_X11_compare (l : Launch) (E : Ev) (st : Sg) (p1 : Int32) : ∀ q, m_X11_compare p1 st = some q → CtI l (wX E) (tyE E) yX11_compare cX11_compare 3 (some .int) 6 143 [.ref (oX E 0), .int p1] st q := by
  intro q h
  refine ctI_of (lv0 := [(0, .ref (oX E 0)), (1, .int p1)]) (by decide) rfl (Nat.le_of_ble_eq_true rfl) (fun C hC cx hk => ?_)
  replace cx : Cx C (tyE E) cX11_compare RX11 3 6 143 := cx
  unfold m_X11_compare at h
  refine v_aload_n 1 0 cx dX11_compare_0 rfl rfl rfl ?_
  refine v_iload_n 2 1 cx dX11_compare_1 rfl rfl rfl ?_
  refine v_iconst 3 cx dX11_compare_2 ic_1 rfl ?_
  refine v_callVI 6 0 cx dX11_compare_3 km_X11_301 ca_X11_refusalOfRun (wXo_0 E st) rfl (c_X11_refusalOfRun C.2.1 E st p1 1 ) rfl (by decide) rfl (Nat.le_of_ble_eq_true rfl) rfl h (fun v2 s1 h => ?_)
  refine v_istore_n 7 (fun a3 => [(2, .int a3), (0, .ref (oX E 0)), (1, .int p1)]) cx dX11_compare_6 rfl (by decide) (fun _ => rfl) rfl h (fun a3 h => ?_)
  refine v_iload_n 8 0 cx dX11_compare_7 rfl rfl rfl ?_
  refine v_if_eq 17 11 cx dX11_compare_8 (by decide) rfl h (fun h => ?_) (fun h => ?_)
  · refine v_aload_n 18 1 cx dX11_compare_17 rfl rfl rfl ?_
    refine v_get 21 0 7 cx dX11_compare_18 iX11 (wXo_0 E s1) rfl (Nat.le_of_ble_eq_true rfl) rfl kf_X11_65 rfl rfl ?_
    refine v_iload_n 22 2 cx dX11_compare_21 rfl rfl rfl ?_
    refine v_callVI 25 13 cx dX11_compare_22 km_X11_312 ca_X7_bothAgree (wXo_13 E s1) rfl (c_X7_bothAgree C.2.1 E s1 p1 ) rfl (by decide) rfl (Nat.le_of_ble_eq_true rfl) rfl h (fun v5 s4 h => ?_)
    refine v_if_eq 32 28 cx dX11_compare_25 (by decide) rfl h (fun h => ?_) (fun h => ?_)
    · refine v_iconst 33 cx dX11_compare_32 ic_0 rfl ?_
      exact hk _ _ _ _ (Option.some.inj h) dX11_compare_33
    · refine v_iconst 29 cx dX11_compare_28 ic_1 rfl ?_
      refine v_goto 33 cx dX11_compare_29 (by decide) ?_
      exact hk _ _ _ _ (Option.some.inj h) dX11_compare_33
  · refine v_aload_n 12 1 cx dX11_compare_11 rfl rfl rfl ?_
    refine v_iload_n 13 0 cx dX11_compare_12 rfl rfl rfl ?_
    refine v_callVI 16 0 cx dX11_compare_13 km_X11_88 ca_X11_refuse (wXo_0 E s1) rfl (c_X11_refuse C.2.1 E s1 a3 ) rfl (by decide) rfl (Nat.le_of_ble_eq_true rfl) rfl h (fun v7 s6 h => ?_)
    exact hk _ _ _ _ (Option.some.inj h) dX11_compare_16
set_option maxHeartbeats 4000000 in
set_option maxRecDepth 100000 in
theorem c_X11_isSlot (l : Launch) (E : Ev) (st : Sg) (p0 : Int32) : ∀ q, m_X11_isSlot p0 st = some q → CtI l (wX E) (tyE E) yX11_isSlot cX11_isSlot 1 (some .boolean) 0 0 [.int p0] st q := by
  intro q h
  refine ctZ_of (lv0 := [(0, .int p0)]) (by decide) rfl (Nat.le_of_ble_eq_true rfl) (fun C hC cx hk => ?_)
  replace cx : Cx C (tyE E) cX11_isSlot RX11 1 0 0 := cx
  unfold m_X11_isSlot at h
  refine v_iload_n 1 0 cx dX11_isSlot_0 rfl rfl rfl ?_
  refine v_if_lt 14 4 cx dX11_isSlot_1 (by decide) rfl h (fun h => ?_) (fun h => ?_)
  · refine v_iconst 15 cx dX11_isSlot_14 ic_0 rfl ?_
    exact hk _ _ _ _ (Option.some.inj h) (Or.inl rfl) dX11_isSlot_15
  · refine v_iload_n 5 0 cx dX11_isSlot_4 rfl rfl rfl ?_
    refine v_bipush 7 cx dX11_isSlot_5 bp_8 rfl ?_
    refine v_icmp_ge 14 10 cx dX11_isSlot_7 (by decide) rfl h (fun h => ?_) (fun h => ?_)
    · refine v_iconst 15 cx dX11_isSlot_14 ic_0 rfl ?_
      exact hk _ _ _ _ (Option.some.inj h) (Or.inl rfl) dX11_isSlot_15
    · refine v_iconst 11 cx dX11_isSlot_10 ic_1 rfl ?_
      refine v_goto 15 cx dX11_isSlot_11 (by decide) ?_
      exact hk _ _ _ _ (Option.some.inj h) (Or.inr rfl) dX11_isSlot_15
set_option maxHeartbeats 4000000 in
set_option maxRecDepth 100000 in
theorem c_X6_hasRun (l : Launch) (E : Ev) (st : Sg) (p1 : Int32) (p2 : Int32) (p3 : Int32) : ∀ q, m_X6_hasRun p1 p2 p3 st = some q → CtI l (wX E) (tyE E) yX6_hasRun cX6_hasRun 4 (some .boolean) 0 0 [.ref (oX E 5), .int p1, .int p2, .int p3] st q := by
  intro q h
  refine ctZ_of (lv0 := [(0, .ref (oX E 5)), (1, .int p1), (2, .int p2), (3, .int p3)]) (by decide) rfl (Nat.le_of_ble_eq_true rfl) (fun C hC cx hk => ?_)
  replace cx : Cx C (tyE E) cX6_hasRun RX6 4 0 0 := cx
  unfold m_X6_hasRun at h
  refine v_iload_n 1 2 cx dX6_hasRun_0 rfl rfl rfl ?_
  refine v_if_lt 24 4 cx dX6_hasRun_1 (by decide) rfl h (fun h => ?_) (fun h => ?_)
  · refine v_iconst 25 cx dX6_hasRun_24 ic_0 rfl ?_
    exact hk _ _ _ _ (Option.some.inj h) (Or.inl rfl) dX6_hasRun_25
  · refine v_iload_n 5 2 cx dX6_hasRun_4 rfl rfl rfl ?_
    refine v_i2l 6 cx dX6_hasRun_5 rfl ?_
    refine v_iload_n 7 3 cx dX6_hasRun_6 rfl rfl rfl ?_
    refine v_i2l 8 cx dX6_hasRun_7 rfl ?_
    refine v_ladd 9 cx dX6_hasRun_8 rfl ?_
    refine v_aload_n 10 0 cx dX6_hasRun_9 rfl rfl rfl ?_
    refine v_get 13 5 0 cx dX6_hasRun_10 iX6 (wXo_5 E st) rfl (Nat.le_of_ble_eq_true rfl) rfl kf_X6_9 rfl rfl ?_
    refine v_iload_n 14 1 cx dX6_hasRun_13 rfl rfl rfl ?_
    refine v_iald 15 36 0 cx dX6_hasRun_14 (wXa_5_0 E st) rfl rfl h (fun v1 h => ?_)
    refine v_i2l 16 cx dX6_hasRun_15 rfl ?_
    refine v_lcmp 17 cx dX6_hasRun_16 rfl ?_
    refine v_if_gt 24 20 cx dX6_hasRun_17 (by decide) rfl h (fun h => ?_) (fun h => ?_)
    · refine v_iconst 25 cx dX6_hasRun_24 ic_0 rfl ?_
      exact hk _ _ _ _ (Option.some.inj h) (Or.inl rfl) dX6_hasRun_25
    · refine v_iconst 21 cx dX6_hasRun_20 ic_1 rfl ?_
      refine v_goto 25 cx dX6_hasRun_21 (by decide) ?_
      exact hk _ _ _ _ (Option.some.inj h) (Or.inr rfl) dX6_hasRun_25
set_option maxHeartbeats 4000000 in
set_option maxRecDepth 100000 in
theorem c_X11_copy (l : Launch) (E : Ev) (st : Sg) (p1 : Int32) (p2 : Int32) (p3 : Int32) (p4 : Int32) (p5 : Int32) : ∀ q, m_X11_copy p1 p2 p3 p4 p5 st = some q → CtI l (wX E) (tyE E) yX11_copy cX11_copy 6 (some .int) 1 23 [.ref (oX E 0), .int p1, .int p2, .int p3, .int p4, .int p5] st q := by
  intro q h
  refine ctI_of (lv0 := [(0, .ref (oX E 0)), (1, .int p1), (2, .int p2), (3, .int p3), (4, .int p4), (5, .int p5)]) (by decide) rfl (Nat.le_of_ble_eq_true rfl) (fun C hC cx hk => ?_)
  replace cx : Cx C (tyE E) cX11_copy RX11 6 1 23 := cx
  unfold m_X11_copy at h
  refine v_iload_n 1 1 cx dX11_copy_0 rfl rfl rfl ?_
  refine v_callSI 4 cx dX11_copy_1 km_X11_110 ca_X11_isSlot (c_X11_isSlot C.2.1 E st p1 ) rfl (by decide) rfl (Nat.le_of_ble_eq_true rfl) rfl h (fun v2 s1 h => ?_)
  refine v_if_eq 14 7 cx dX11_copy_4 (by decide) rfl h (fun h => ?_) (fun h => ?_)
  · refine v_aload_n 15 0 cx dX11_copy_14 rfl rfl rfl ?_
    refine v_bipush 17 cx dX11_copy_15 bp_m3 rfl ?_
    refine v_callVI 20 0 cx dX11_copy_17 km_X11_88 ca_X11_refuse (wXo_0 E s1) rfl (c_X11_refuse C.2.1 E s1 (-3) ) rfl (by decide) rfl (Nat.le_of_ble_eq_true rfl) rfl h (fun v4 s3 h => ?_)
    exact hk _ _ _ _ (Option.some.inj h) dX11_copy_20
  · refine v_iload_n 8 3 cx dX11_copy_7 rfl rfl rfl ?_
    refine v_callSI 11 cx dX11_copy_8 km_X11_110 ca_X11_isSlot (c_X11_isSlot C.2.1 E s1 p3 ) rfl (by decide) rfl (Nat.le_of_ble_eq_true rfl) rfl h (fun v6 s5 h => ?_)
    refine v_if_ne 21 14 cx dX11_copy_11 (by decide) rfl h (fun h => ?_) (fun h => ?_)
    · refine v_aload_n 22 0 cx dX11_copy_21 rfl rfl rfl ?_
      refine v_get 25 0 2 cx dX11_copy_22 iX11 (wXo_0 E s5) rfl (Nat.le_of_ble_eq_true rfl) rfl kf_X11_26 rfl rfl ?_
      refine v_get 28 5 0 cx dX11_copy_25 iX6 (wXo_5 E s5) rfl (Nat.le_of_ble_eq_true rfl) rfl kf_X11_201 rfl rfl ?_
      refine v_iload_n 29 1 cx dX11_copy_28 rfl rfl rfl ?_
      refine v_iald 30 36 0 cx dX11_copy_29 (wXa_5_0 E s5) rfl rfl h (fun v7 h => ?_)
      refine v_if_eq 45 33 cx dX11_copy_30 (by decide) rfl h (fun h => ?_) (fun h => ?_)
      · refine v_aload_n 46 0 cx dX11_copy_45 rfl rfl rfl ?_
        refine v_bipush 48 cx dX11_copy_46 bp_m2 rfl ?_
        refine v_callVI 51 0 cx dX11_copy_48 km_X11_88 ca_X11_refuse (wXo_0 E s5) rfl (c_X11_refuse C.2.1 E s5 (-2) ) rfl (by decide) rfl (Nat.le_of_ble_eq_true rfl) rfl h (fun v9 s8 h => ?_)
        exact hk _ _ _ _ (Option.some.inj h) dX11_copy_51
      · refine v_aload_n 34 0 cx dX11_copy_33 rfl rfl rfl ?_
        refine v_get 37 0 2 cx dX11_copy_34 iX11 (wXo_0 E s5) rfl (Nat.le_of_ble_eq_true rfl) rfl kf_X11_26 rfl rfl ?_
        refine v_get 40 5 0 cx dX11_copy_37 iX6 (wXo_5 E s5) rfl (Nat.le_of_ble_eq_true rfl) rfl kf_X11_201 rfl rfl ?_
        refine v_iload_n 41 3 cx dX11_copy_40 rfl rfl rfl ?_
        refine v_iald 42 36 0 cx dX11_copy_41 (wXa_5_0 E s5) rfl rfl h (fun v10 h => ?_)
        refine v_if_ne 52 45 cx dX11_copy_42 (by decide) rfl h (fun h => ?_) (fun h => ?_)
        · refine v_aload_n 53 0 cx dX11_copy_52 rfl rfl rfl ?_
          refine v_get 56 0 2 cx dX11_copy_53 iX11 (wXo_0 E s5) rfl (Nat.le_of_ble_eq_true rfl) rfl kf_X11_26 rfl rfl ?_
          refine v_get 59 5 1 cx dX11_copy_56 iX6 (wXo_5 E s5) rfl (Nat.le_of_ble_eq_true rfl) rfl kf_X11_203 rfl rfl ?_
          refine v_iload_n 60 1 cx dX11_copy_59 rfl rfl rfl ?_
          refine v_zald 61 37 2 cx dX11_copy_60 (wXa_5_1 E s5) rfl rfl h (fun v11 h => ?_)
          refine v_if_eq 76 64 cx dX11_copy_61 (by decide) rfl h (fun h => ?_) (fun h => ?_)
          · refine v_aload_n 77 0 cx dX11_copy_76 rfl rfl rfl ?_
            refine v_bipush 79 cx dX11_copy_77 bp_m5 rfl ?_
            refine v_callVI 82 0 cx dX11_copy_79 km_X11_88 ca_X11_refuse (wXo_0 E s5) rfl (c_X11_refuse C.2.1 E s5 (-5) ) rfl (by decide) rfl (Nat.le_of_ble_eq_true rfl) rfl h (fun v13 s12 h => ?_)
            exact hk _ _ _ _ (Option.some.inj h) dX11_copy_82
          · refine v_aload_n 65 0 cx dX11_copy_64 rfl rfl rfl ?_
            refine v_get 68 0 2 cx dX11_copy_65 iX11 (wXo_0 E s5) rfl (Nat.le_of_ble_eq_true rfl) rfl kf_X11_26 rfl rfl ?_
            refine v_get 71 5 1 cx dX11_copy_68 iX6 (wXo_5 E s5) rfl (Nat.le_of_ble_eq_true rfl) rfl kf_X11_203 rfl rfl ?_
            refine v_iload_n 72 3 cx dX11_copy_71 rfl rfl rfl ?_
            refine v_zald 73 37 2 cx dX11_copy_72 (wXa_5_1 E s5) rfl rfl h (fun v14 h => ?_)
            refine v_if_ne 83 76 cx dX11_copy_73 (by decide) rfl h (fun h => ?_) (fun h => ?_)
            · refine v_iload 85 5 cx dX11_copy_83 rfl rfl ?_
              refine v_if_ge 95 88 cx dX11_copy_85 (by decide) rfl h (fun h => ?_) (fun h => ?_)
              · refine v_aload_n 96 0 cx dX11_copy_95 rfl rfl rfl ?_
                refine v_get 99 0 2 cx dX11_copy_96 iX11 (wXo_0 E s5) rfl (Nat.le_of_ble_eq_true rfl) rfl kf_X11_26 rfl rfl ?_
                refine v_iload_n 100 1 cx dX11_copy_99 rfl rfl rfl ?_
                refine v_iload_n 101 2 cx dX11_copy_100 rfl rfl rfl ?_
                refine v_iload 103 5 cx dX11_copy_101 rfl rfl ?_
                refine v_callVI 106 5 cx dX11_copy_103 km_X11_207 ca_X6_hasRun (wXo_5 E s5) rfl (c_X6_hasRun C.2.1 E s5 p1 p2 p5 ) rfl (by decide) rfl (Nat.le_of_ble_eq_true rfl) rfl h (fun v16 s15 h => ?_)
                refine v_if_eq 124 109 cx dX11_copy_106 (by decide) rfl h (fun h => ?_) (fun h => ?_)
                · refine v_aload_n 125 0 cx dX11_copy_124 rfl rfl rfl ?_
                  refine v_bipush 127 cx dX11_copy_125 bp_m6 rfl ?_
                  refine v_callVI 130 0 cx dX11_copy_127 km_X11_88 ca_X11_refuse (wXo_0 E s15) rfl (c_X11_refuse C.2.1 E s15 (-6) ) rfl (by decide) rfl (Nat.le_of_ble_eq_true rfl) rfl h (fun v18 s17 h => ?_)
                  exact hk _ _ _ _ (Option.some.inj h) dX11_copy_130
                · refine v_aload_n 110 0 cx dX11_copy_109 rfl rfl rfl ?_
                  refine v_get 113 0 2 cx dX11_copy_110 iX11 (wXo_0 E s15) rfl (Nat.le_of_ble_eq_true rfl) rfl kf_X11_26 rfl rfl ?_
                  refine v_iload_n 114 3 cx dX11_copy_113 rfl rfl rfl ?_
                  refine v_iload 116 4 cx dX11_copy_114 rfl rfl ?_
                  refine v_iload 118 5 cx dX11_copy_116 rfl rfl ?_
                  refine v_callVI 121 5 cx dX11_copy_118 km_X11_207 ca_X6_hasRun (wXo_5 E s15) rfl (c_X6_hasRun C.2.1 E s15 p3 p4 p5 ) rfl (by decide) rfl (Nat.le_of_ble_eq_true rfl) rfl h (fun v20 s19 h => ?_)
                  refine v_if_ne 131 124 cx dX11_copy_121 (by decide) rfl h (fun h => ?_) (fun h => ?_)
                  · refine v_aload_n 132 0 cx dX11_copy_131 rfl rfl rfl ?_
                    refine v_get 135 0 2 cx dX11_copy_132 iX11 (wXo_0 E s19) rfl (Nat.le_of_ble_eq_true rfl) rfl kf_X11_26 rfl rfl ?_
                    refine v_get 138 5 2 cx dX11_copy_135 iX6 (wXo_5 E s19) rfl (Nat.le_of_ble_eq_true rfl) rfl kf_X11_195 rfl rfl ?_
                    refine v_iload_n 139 1 cx dX11_copy_138 rfl rfl rfl ?_
                    refine v_iload_n 140 2 cx dX11_copy_139 rfl rfl rfl ?_
                    refine v_callSI 143 cx dX11_copy_140 km_X11_198 ca_X6_placeOf (c_X6_placeOf C.2.1 E s19 p1 p2 ) rfl (by decide) rfl (Nat.le_of_ble_eq_true rfl) rfl h (fun v22 s21 h => ?_)
                    refine v_aload_n 144 0 cx dX11_copy_143 rfl rfl rfl ?_
                    refine v_get 147 0 2 cx dX11_copy_144 iX11 (wXo_0 E s21) rfl (Nat.le_of_ble_eq_true rfl) rfl kf_X11_26 rfl rfl ?_
                    refine v_get 150 5 2 cx dX11_copy_147 iX6 (wXo_5 E s21) rfl (Nat.le_of_ble_eq_true rfl) rfl kf_X11_195 rfl rfl ?_
                    refine v_iload_n 151 3 cx dX11_copy_150 rfl rfl rfl ?_
                    refine v_iload 153 4 cx dX11_copy_151 rfl rfl ?_
                    refine v_callSI 156 cx dX11_copy_153 km_X11_198 ca_X6_placeOf (c_X6_placeOf C.2.1 E s21 p3 p4 ) rfl (by decide) rfl (Nat.le_of_ble_eq_true rfl) rfl h (fun v24 s23 h => ?_)
                    refine v_iload 158 5 cx dX11_copy_156 rfl rfl ?_
                    refine v_copyl 161 38 38 1 cx dX11_copy_158 km_X11_211 kac_n kac_s kac_i (wXa_5_2 E s23) (wXa_5_2 E s23) rfl (wXt_5_2 E s23) (by decide) (by decide +kernel) rfl h (fun s25 h => ?_)
                    refine v_iload 163 5 cx dX11_copy_161 rfl rfl ?_
                    exact hk _ _ _ _ (Option.some.inj h) dX11_copy_163
                  · refine v_aload_n 125 0 cx dX11_copy_124 rfl rfl rfl ?_
                    refine v_bipush 127 cx dX11_copy_125 bp_m6 rfl ?_
                    refine v_callVI 130 0 cx dX11_copy_127 km_X11_88 ca_X11_refuse (wXo_0 E s19) rfl (c_X11_refuse C.2.1 E s19 (-6) ) rfl (by decide) rfl (Nat.le_of_ble_eq_true rfl) rfl h (fun v27 s26 h => ?_)
                    exact hk _ _ _ _ (Option.some.inj h) dX11_copy_130
              · refine v_aload_n 89 0 cx dX11_copy_88 rfl rfl rfl ?_
                refine v_bipush 91 cx dX11_copy_89 bp_m4 rfl ?_
                refine v_callVI 94 0 cx dX11_copy_91 km_X11_88 ca_X11_refuse (wXo_0 E s5) rfl (c_X11_refuse C.2.1 E s5 (-4) ) rfl (by decide) rfl (Nat.le_of_ble_eq_true rfl) rfl h (fun v29 s28 h => ?_)
                exact hk _ _ _ _ (Option.some.inj h) dX11_copy_94
            · refine v_aload_n 77 0 cx dX11_copy_76 rfl rfl rfl ?_
              refine v_bipush 79 cx dX11_copy_77 bp_m5 rfl ?_
              refine v_callVI 82 0 cx dX11_copy_79 km_X11_88 ca_X11_refuse (wXo_0 E s5) rfl (c_X11_refuse C.2.1 E s5 (-5) ) rfl (by decide) rfl (Nat.le_of_ble_eq_true rfl) rfl h (fun v31 s30 h => ?_)
              exact hk _ _ _ _ (Option.some.inj h) dX11_copy_82
        · refine v_aload_n 46 0 cx dX11_copy_45 rfl rfl rfl ?_
          refine v_bipush 48 cx dX11_copy_46 bp_m2 rfl ?_
          refine v_callVI 51 0 cx dX11_copy_48 km_X11_88 ca_X11_refuse (wXo_0 E s5) rfl (c_X11_refuse C.2.1 E s5 (-2) ) rfl (by decide) rfl (Nat.le_of_ble_eq_true rfl) rfl h (fun v33 s32 h => ?_)
          exact hk _ _ _ _ (Option.some.inj h) dX11_copy_51
    · refine v_aload_n 15 0 cx dX11_copy_14 rfl rfl rfl ?_
      refine v_bipush 17 cx dX11_copy_15 bp_m3 rfl ?_
      refine v_callVI 20 0 cx dX11_copy_17 km_X11_88 ca_X11_refuse (wXo_0 E s5) rfl (c_X11_refuse C.2.1 E s5 (-3) ) rfl (by decide) rfl (Nat.le_of_ble_eq_true rfl) rfl h (fun v35 s34 h => ?_)
      exact hk _ _ _ _ (Option.some.inj h) dX11_copy_20
set_option maxHeartbeats 4000000 in
set_option maxRecDepth 100000 in
theorem c_X11_count (l : Launch) (E : Ev) (st : Sg) (p1 : Int32) : ∀ q, m_X11_count p1 st = some q → CtI l (wX E) (tyE E) yX11_count cX11_count 2 (some .int) 4 95 [.ref (oX E 0), .int p1] st q := by
  intro q h
  refine ctI_of (lv0 := [(0, .ref (oX E 0)), (1, .int p1)]) (by decide) rfl (Nat.le_of_ble_eq_true rfl) (fun C hC cx hk => ?_)
  replace cx : Cx C (tyE E) cX11_count RX11 2 4 95 := cx
  unfold m_X11_count at h
  refine v_iload_n 1 1 cx dX11_count_0 rfl rfl rfl ?_
  refine v_tabC 36 0 (ck := 0) cx dX11_count_1 (by decide) (by decide) rfl (by decide) (fun i hi => absurd hi (Nat.not_lt_zero i)) h (fun h => ?_) (fun hn h => ?_)
  · refine v_aload_n 37 0 cx dX11_count_36 rfl rfl rfl ?_
    refine v_get 40 0 0 cx dX11_count_37 iX11 (wXo_0 E st) rfl (Nat.le_of_ble_eq_true rfl) rfl kf_X11_10 rfl rfl ?_
    refine v_getI 43 1 0 cx dX11_count_40 iX0 (wXo_1 E st) rfl (Nat.le_of_ble_eq_true rfl) rfl kf_X11_149 rfl rfl h (fun v1 h => ?_)
    exact hk _ _ _ _ (Option.some.inj h) dX11_count_43
  · refine v_tabC 44 1 (ck := 1) cx dX11_count_1 (by decide) (by decide) rfl (by decide) hn h (fun h => ?_) (fun hn h => ?_)
    · refine v_aload_n 45 0 cx dX11_count_44 rfl rfl rfl ?_
      refine v_get 48 0 0 cx dX11_count_45 iX11 (wXo_0 E st) rfl (Nat.le_of_ble_eq_true rfl) rfl kf_X11_10 rfl rfl ?_
      refine v_get 51 1 11 cx dX11_count_48 iX0 (wXo_1 E st) rfl (Nat.le_of_ble_eq_true rfl) rfl kf_X11_137 rfl rfl ?_
      refine v_getI 54 2 0 cx dX11_count_51 iX1 (wXo_2 E st) rfl (Nat.le_of_ble_eq_true rfl) rfl kf_X11_146 rfl rfl h (fun v2 h => ?_)
      exact hk _ _ _ _ (Option.some.inj h) dX11_count_54
    · refine v_tabC 55 2 (ck := 2) cx dX11_count_1 (by decide) (by decide) rfl (by decide) hn h (fun h => ?_) (fun hn h => ?_)
      · refine v_aload_n 56 0 cx dX11_count_55 rfl rfl rfl ?_
        refine v_get 59 0 1 cx dX11_count_56 iX11 (wXo_0 E st) rfl (Nat.le_of_ble_eq_true rfl) rfl kf_X11_19 rfl rfl ?_
        refine v_aload_n 60 0 cx dX11_count_59 rfl rfl rfl ?_
        refine v_get 63 0 0 cx dX11_count_60 iX11 (wXo_0 E st) rfl (Nat.le_of_ble_eq_true rfl) rfl kf_X11_10 rfl rfl ?_
        refine v_callVV 66 3 cx dX11_count_63 km_X11_166 ca_X10_renew (wXo_3 E st) rfl (c_X10_renew C.2.1 E st ) rfl (by decide) rfl (Nat.le_of_ble_eq_true rfl) rfl h (fun _ s3 h => ?_)
        refine v_aload_n 67 0 cx dX11_count_66 rfl rfl rfl ?_
        refine v_get 70 0 1 cx dX11_count_67 iX11 (wXo_0 E s3) rfl (Nat.le_of_ble_eq_true rfl) rfl kf_X11_19 rfl rfl ?_
        refine v_getI 73 3 1 cx dX11_count_70 iX10 (wXo_3 E s3) rfl (Nat.le_of_ble_eq_true rfl) rfl kf_X11_170 rfl rfl h (fun v4 h => ?_)
        exact hk _ _ _ _ (Option.some.inj h) dX11_count_73
      · refine v_tabC 74 3 (ck := 3) cx dX11_count_1 (by decide) (by decide) rfl (by decide) hn h (fun h => ?_) (fun hn h => ?_)
        · refine v_aload_n 75 0 cx dX11_count_74 rfl rfl rfl ?_
          refine v_get 78 0 0 cx dX11_count_75 iX11 (wXo_0 E st) rfl (Nat.le_of_ble_eq_true rfl) rfl kf_X11_10 rfl rfl ?_
          refine v_callVI 81 1 cx dX11_count_78 km_X11_173 ca_X0_stores (wXo_1 E st) rfl (c_X0_stores C.2.1 E st ) rfl (by decide) rfl (Nat.le_of_ble_eq_true rfl) rfl h (fun v6 s5 h => ?_)
          exact hk _ _ _ _ (Option.some.inj h) dX11_count_81
        · refine v_tabC 82 4 (ck := 4) cx dX11_count_1 (by decide) (by decide) rfl (by decide) hn h (fun h => ?_) (fun hn h => ?_)
          · refine v_aload_n 83 0 cx dX11_count_82 rfl rfl rfl ?_
            refine v_get 86 0 0 cx dX11_count_83 iX11 (wXo_0 E st) rfl (Nat.le_of_ble_eq_true rfl) rfl kf_X11_10 rfl rfl ?_
            refine v_callVI 89 1 cx dX11_count_86 km_X11_177 ca_X0_unitsInAll (wXo_1 E st) rfl (c_X0_unitsInAll C.2.1 E st ) rfl (by decide) rfl (Nat.le_of_ble_eq_true rfl) rfl h (fun v8 s7 h => ?_)
            exact hk _ _ _ _ (Option.some.inj h) dX11_count_89
          · refine v_tabD 90 5 cx dX11_count_1 (by decide) (by decide) hn ?_
            refine v_aload_n 91 0 cx dX11_count_90 rfl rfl rfl ?_
            refine v_bipush 93 cx dX11_count_91 bp_m9 rfl ?_
            refine v_callVI 96 0 cx dX11_count_93 km_X11_88 ca_X11_refuse (wXo_0 E st) rfl (c_X11_refuse C.2.1 E st (-9) ) rfl (by decide) rfl (Nat.le_of_ble_eq_true rfl) rfl h (fun v10 s9 h => ?_)
            exact hk _ _ _ _ (Option.some.inj h) dX11_count_96
set_option maxHeartbeats 4000000 in
set_option maxRecDepth 100000 in
theorem c_X11_isBack (l : Launch) (E : Ev) (st : Sg) (p0 : Int32) : ∀ q, m_X11_isBack p0 st = some q → CtI l (wX E) (tyE E) yX11_isBack cX11_isBack 1 (some .boolean) 0 0 [.int p0] st q := by
  intro q h
  refine ctZ_of (lv0 := [(0, .int p0)]) (by decide) rfl (Nat.le_of_ble_eq_true rfl) (fun C hC cx hk => ?_)
  replace cx : Cx C (tyE E) cX11_isBack RX11 1 0 0 := cx
  unfold m_X11_isBack at h
  refine v_iload_n 1 0 cx dX11_isBack_0 rfl rfl rfl ?_
  refine v_if_lt 13 4 cx dX11_isBack_1 (by decide) rfl h (fun h => ?_) (fun h => ?_)
  · refine v_iconst 14 cx dX11_isBack_13 ic_0 rfl ?_
    exact hk _ _ _ _ (Option.some.inj h) (Or.inl rfl) dX11_isBack_14
  · refine v_iload_n 5 0 cx dX11_isBack_4 rfl rfl rfl ?_
    refine v_iconst 6 cx dX11_isBack_5 ic_4 rfl ?_
    refine v_icmp_gt 13 9 cx dX11_isBack_6 (by decide) rfl h (fun h => ?_) (fun h => ?_)
    · refine v_iconst 14 cx dX11_isBack_13 ic_0 rfl ?_
      exact hk _ _ _ _ (Option.some.inj h) (Or.inl rfl) dX11_isBack_14
    · refine v_iconst 10 cx dX11_isBack_9 ic_1 rfl ?_
      refine v_goto 14 cx dX11_isBack_10 (by decide) ?_
      exact hk _ _ _ _ (Option.some.inj h) (Or.inr rfl) dX11_isBack_14
set_option maxHeartbeats 4000000 in
set_option maxRecDepth 100000 in
theorem c_X11_edge (l : Launch) (E : Ev) (st : Sg) (p1 : Int32) (p2 : Int32) (p3 : Int32) (p4 : Int32) : ∀ q, m_X11_edge p1 p2 p3 p4 st = some q → CtI l (wX E) (tyE E) yX11_edge cX11_edge 5 (some .int) 2 49 [.ref (oX E 0), .int p1, .int p2, .int p3, .int p4] st q := by
  intro q h
  refine ctI_of (lv0 := [(0, .ref (oX E 0)), (1, .int p1), (2, .int p2), (3, .int p3), (4, .int p4)]) (by decide) rfl (Nat.le_of_ble_eq_true rfl) (fun C hC cx hk => ?_)
  replace cx : Cx C (tyE E) cX11_edge RX11 5 2 49 := cx
  unfold m_X11_edge at h
  refine v_aload_n 1 0 cx dX11_edge_0 rfl rfl rfl ?_
  refine v_get 4 0 0 cx dX11_edge_1 iX11 (wXo_0 E st) rfl (Nat.le_of_ble_eq_true rfl) rfl kf_X11_10 rfl rfl ?_
  refine v_iload_n 5 1 cx dX11_edge_4 rfl rfl rfl ?_
  refine v_callVI 8 1 cx dX11_edge_5 km_X11_116 ca_X0_has (wXo_1 E st) rfl (c_X0_has C.2.1 E st p1 ) rfl (by decide) rfl (Nat.le_of_ble_eq_true rfl) rfl h (fun v2 s1 h => ?_)
  refine v_if_eq 22 11 cx dX11_edge_8 (by decide) rfl h (fun h => ?_) (fun h => ?_)
  · refine v_aload_n 23 0 cx dX11_edge_22 rfl rfl rfl ?_
    refine v_bipush 25 cx dX11_edge_23 bp_m3 rfl ?_
    refine v_callVI 28 0 cx dX11_edge_25 km_X11_88 ca_X11_refuse (wXo_0 E s1) rfl (c_X11_refuse C.2.1 E s1 (-3) ) rfl (by decide) rfl (Nat.le_of_ble_eq_true rfl) rfl h (fun v4 s3 h => ?_)
    exact hk _ _ _ _ (Option.some.inj h) dX11_edge_28
  · refine v_aload_n 12 0 cx dX11_edge_11 rfl rfl rfl ?_
    refine v_get 15 0 0 cx dX11_edge_12 iX11 (wXo_0 E s1) rfl (Nat.le_of_ble_eq_true rfl) rfl kf_X11_10 rfl rfl ?_
    refine v_iload_n 16 2 cx dX11_edge_15 rfl rfl rfl ?_
    refine v_callVI 19 1 cx dX11_edge_16 km_X11_116 ca_X0_has (wXo_1 E s1) rfl (c_X0_has C.2.1 E s1 p2 ) rfl (by decide) rfl (Nat.le_of_ble_eq_true rfl) rfl h (fun v6 s5 h => ?_)
    refine v_if_ne 29 22 cx dX11_edge_19 (by decide) rfl h (fun h => ?_) (fun h => ?_)
    · refine v_iload_n 30 3 cx dX11_edge_29 rfl rfl rfl ?_
      refine v_bipush 32 cx dX11_edge_30 bp_m50 rfl ?_
      refine v_icmp_lt 49 35 cx dX11_edge_32 (by decide) rfl h (fun h => ?_) (fun h => ?_)
      · refine v_aload_n 50 0 cx dX11_edge_49 rfl rfl rfl ?_
        refine v_bipush 52 cx dX11_edge_50 bp_m9 rfl ?_
        refine v_callVI 55 0 cx dX11_edge_52 km_X11_88 ca_X11_refuse (wXo_0 E s5) rfl (c_X11_refuse C.2.1 E s5 (-9) ) rfl (by decide) rfl (Nat.le_of_ble_eq_true rfl) rfl h (fun v8 s7 h => ?_)
        exact hk _ _ _ _ (Option.some.inj h) dX11_edge_55
      · refine v_iload_n 36 3 cx dX11_edge_35 rfl rfl rfl ?_
        refine v_bipush 38 cx dX11_edge_36 bp_50 rfl ?_
        refine v_icmp_gt 49 41 cx dX11_edge_38 (by decide) rfl h (fun h => ?_) (fun h => ?_)
        · refine v_aload_n 50 0 cx dX11_edge_49 rfl rfl rfl ?_
          refine v_bipush 52 cx dX11_edge_50 bp_m9 rfl ?_
          refine v_callVI 55 0 cx dX11_edge_52 km_X11_88 ca_X11_refuse (wXo_0 E s5) rfl (c_X11_refuse C.2.1 E s5 (-9) ) rfl (by decide) rfl (Nat.le_of_ble_eq_true rfl) rfl h (fun v10 s9 h => ?_)
          exact hk _ _ _ _ (Option.some.inj h) dX11_edge_55
        · refine v_iload 43 4 cx dX11_edge_41 rfl rfl ?_
          refine v_callSI 46 cx dX11_edge_43 km_X11_98 ca_X11_isBack (c_X11_isBack C.2.1 E s5 p4 ) rfl (by decide) rfl (Nat.le_of_ble_eq_true rfl) rfl h (fun v12 s11 h => ?_)
          refine v_if_ne 56 49 cx dX11_edge_46 (by decide) rfl h (fun h => ?_) (fun h => ?_)
          · refine v_aload_n 57 0 cx dX11_edge_56 rfl rfl rfl ?_
            refine v_get 60 0 0 cx dX11_edge_57 iX11 (wXo_0 E s11) rfl (Nat.le_of_ble_eq_true rfl) rfl kf_X11_10 rfl rfl ?_
            refine v_get 63 1 11 cx dX11_edge_60 iX0 (wXo_1 E s11) rfl (Nat.le_of_ble_eq_true rfl) rfl kf_X11_137 rfl rfl ?_
            refine v_iload_n 64 1 cx dX11_edge_63 rfl rfl rfl ?_
            refine v_iload_n 65 2 cx dX11_edge_64 rfl rfl rfl ?_
            refine v_iload_n 66 3 cx dX11_edge_65 rfl rfl rfl ?_
            refine v_iload 68 4 cx dX11_edge_66 rfl rfl ?_
            refine v_callVI 71 2 cx dX11_edge_68 km_X11_140 ca_X1_join (wXo_2 E s11) rfl (c_X1_join_2 C.2.1 E s11 p1 p2 p3 p4 ) rfl (by decide) rfl (Nat.le_of_ble_eq_true rfl) rfl h (fun v14 s13 h => ?_)
            refine v_if_ne 81 74 cx dX11_edge_71 (by decide) rfl h (fun h => ?_) (fun h => ?_)
            · refine v_aload_n 82 0 cx dX11_edge_81 rfl rfl rfl ?_
              refine v_callVV 85 0 cx dX11_edge_82 km_X11_95 ca_X11_bodyChanged (wXo_0 E s13) rfl (c_X11_bodyChanged C.2.1 E s13 ) rfl (by decide) rfl (Nat.le_of_ble_eq_true rfl) rfl h (fun _ s15 h => ?_)
              refine v_aload_n 86 0 cx dX11_edge_85 rfl rfl rfl ?_
              refine v_get 89 0 0 cx dX11_edge_86 iX11 (wXo_0 E s15) rfl (Nat.le_of_ble_eq_true rfl) rfl kf_X11_10 rfl rfl ?_
              refine v_get 92 1 11 cx dX11_edge_89 iX0 (wXo_1 E s15) rfl (Nat.le_of_ble_eq_true rfl) rfl kf_X11_137 rfl rfl ?_
              refine v_getI 95 2 0 cx dX11_edge_92 iX1 (wXo_2 E s15) rfl (Nat.le_of_ble_eq_true rfl) rfl kf_X11_146 rfl rfl h (fun v16 h => ?_)
              exact hk _ _ _ _ (Option.some.inj h) dX11_edge_95
            · refine v_aload_n 75 0 cx dX11_edge_74 rfl rfl rfl ?_
              refine v_bipush 77 cx dX11_edge_75 bp_m10 rfl ?_
              refine v_callVI 80 0 cx dX11_edge_77 km_X11_88 ca_X11_refuse (wXo_0 E s13) rfl (c_X11_refuse C.2.1 E s13 (-10) ) rfl (by decide) rfl (Nat.le_of_ble_eq_true rfl) rfl h (fun v18 s17 h => ?_)
              exact hk _ _ _ _ (Option.some.inj h) dX11_edge_80
          · refine v_aload_n 50 0 cx dX11_edge_49 rfl rfl rfl ?_
            refine v_bipush 52 cx dX11_edge_50 bp_m9 rfl ?_
            refine v_callVI 55 0 cx dX11_edge_52 km_X11_88 ca_X11_refuse (wXo_0 E s11) rfl (c_X11_refuse C.2.1 E s11 (-9) ) rfl (by decide) rfl (Nat.le_of_ble_eq_true rfl) rfl h (fun v20 s19 h => ?_)
            exact hk _ _ _ _ (Option.some.inj h) dX11_edge_55
    · refine v_aload_n 23 0 cx dX11_edge_22 rfl rfl rfl ?_
      refine v_bipush 25 cx dX11_edge_23 bp_m3 rfl ?_
      refine v_callVI 28 0 cx dX11_edge_25 km_X11_88 ca_X11_refuse (wXo_0 E s5) rfl (c_X11_refuse C.2.1 E s5 (-3) ) rfl (by decide) rfl (Nat.le_of_ble_eq_true rfl) rfl h (fun v22 s21 h => ?_)
      exact hk _ _ _ _ (Option.some.inj h) dX11_edge_28
set_option maxHeartbeats 4000000 in
set_option maxRecDepth 100000 in
theorem j_X6_drop_14 {C : Cm} {E : Ev} (cx : Cx C (tyE E) cX6_drop RX6 3 0 0) (x1 : Int32) (t0 : Int32) (st : Sg) (out : Int32 × Sg) (h : m_X6_drop_14 x1 t0 st = some out) (hk : ReZ C (wX E) cX6_drop 3 out) : Vat C (wX E) 3 14 [(0, .ref (oX E 5)), (1, .int x1)] [.int t0] st := by
  unfold m_X6_drop_14 at h
  refine v_istore_n 15 (fun a2 => [(2, .int a2), (0, .ref (oX E 5)), (1, .int x1)]) cx dX6_drop_14 rfl (by decide) (fun _ => rfl) rfl h (fun a2 h => ?_)
  refine v_aload_n 16 1 cx dX6_drop_15 rfl rfl rfl ?_
  refine v_get 19 5 0 cx dX6_drop_16 iX6 (wXo_5 E st) rfl (Nat.le_of_ble_eq_true rfl) rfl kf_X6_9 rfl rfl ?_
  refine v_iload_n 20 2 cx dX6_drop_19 rfl rfl rfl ?_
  refine v_iconst 21 cx dX6_drop_20 ic_0 rfl ?_
  refine v_iast 22 36 0 cx dX6_drop_21 (wXa_5_0 E st) rfl (wXt_5_0 E st) rfl h (fun s3 h => ?_)
  refine v_iload_n 23 0 cx dX6_drop_22 rfl rfl rfl ?_
  obtain ⟨hz, h⟩ := bok_inv h
  exact hk _ _ _ _ (Option.some.inj h) hz dX6_drop_23
set_option maxHeartbeats 4000000 in
set_option maxRecDepth 100000 in
theorem c_X6_drop (l : Launch) (E : Ev) (st : Sg) (p1 : Int32) : ∀ q, m_X6_drop p1 st = some q → CtI l (wX E) (tyE E) yX6_drop cX6_drop 3 (some .boolean) 0 0 [.ref (oX E 5), .int p1] st q := by
  intro q h
  refine ctZ_of (lv0 := [(0, .ref (oX E 5)), (1, .int p1)]) (by decide) rfl (Nat.le_of_ble_eq_true rfl) (fun C hC cx hk => ?_)
  replace cx : Cx C (tyE E) cX6_drop RX6 3 0 0 := cx
  unfold m_X6_drop at h
  refine v_aload_n 1 0 cx dX6_drop_0 rfl rfl rfl ?_
  refine v_get 4 5 0 cx dX6_drop_1 iX6 (wXo_5 E st) rfl (Nat.le_of_ble_eq_true rfl) rfl kf_X6_9 rfl rfl ?_
  refine v_iload_n 5 1 cx dX6_drop_4 rfl rfl rfl ?_
  refine v_iald 6 36 0 cx dX6_drop_5 (wXa_5_0 E st) rfl rfl h (fun v1 h => ?_)
  refine v_if_le 13 9 cx dX6_drop_6 (by decide) rfl h (fun h => ?_) (fun h => ?_)
  · refine v_iconst 14 cx dX6_drop_13 ic_0 rfl ?_
    exact j_X6_drop_14 cx p1 0 st _ h hk
  · refine v_iconst 10 cx dX6_drop_9 ic_1 rfl ?_
    refine v_goto 14 cx dX6_drop_10 (by decide) ?_
    exact j_X6_drop_14 cx p1 1 st _ h hk
set_option maxHeartbeats 4000000 in
set_option maxRecDepth 100000 in
theorem c_X11_empty (l : Launch) (E : Ev) (st : Sg) (p1 : Int32) : ∀ q, m_X11_empty p1 st = some q → CtI l (wX E) (tyE E) yX11_empty cX11_empty 2 (some .int) 1 22 [.ref (oX E 0), .int p1] st q := by
  intro q h
  refine ctI_of (lv0 := [(0, .ref (oX E 0)), (1, .int p1)]) (by decide) rfl (Nat.le_of_ble_eq_true rfl) (fun C hC cx hk => ?_)
  replace cx : Cx C (tyE E) cX11_empty RX11 2 1 22 := cx
  unfold m_X11_empty at h
  refine v_iload_n 1 1 cx dX11_empty_0 rfl rfl rfl ?_
  refine v_callSI 4 cx dX11_empty_1 km_X11_110 ca_X11_isSlot (c_X11_isSlot C.2.1 E st p1 ) rfl (by decide) rfl (Nat.le_of_ble_eq_true rfl) rfl h (fun v2 s1 h => ?_)
  refine v_if_ne 14 7 cx dX11_empty_4 (by decide) rfl h (fun h => ?_) (fun h => ?_)
  · refine v_aload_n 15 0 cx dX11_empty_14 rfl rfl rfl ?_
    refine v_get 18 0 2 cx dX11_empty_15 iX11 (wXo_0 E s1) rfl (Nat.le_of_ble_eq_true rfl) rfl kf_X11_26 rfl rfl ?_
    refine v_iload_n 19 1 cx dX11_empty_18 rfl rfl rfl ?_
    refine v_callVI 22 5 cx dX11_empty_19 km_X11_188 ca_X6_drop (wXo_5 E s1) rfl (c_X6_drop C.2.1 E s1 p1 ) rfl (by decide) rfl (Nat.le_of_ble_eq_true rfl) rfl h (fun v4 s3 h => ?_)
    refine v_if_eq 29 25 cx dX11_empty_22 (by decide) rfl h (fun h => ?_) (fun h => ?_)
    · refine v_iconst 30 cx dX11_empty_29 ic_0 rfl ?_
      exact hk _ _ _ _ (Option.some.inj h) dX11_empty_30
    · refine v_iconst 26 cx dX11_empty_25 ic_1 rfl ?_
      refine v_goto 30 cx dX11_empty_26 (by decide) ?_
      exact hk _ _ _ _ (Option.some.inj h) dX11_empty_30
  · refine v_aload_n 8 0 cx dX11_empty_7 rfl rfl rfl ?_
    refine v_bipush 10 cx dX11_empty_8 bp_m3 rfl ?_
    refine v_callVI 13 0 cx dX11_empty_10 km_X11_88 ca_X11_refuse (wXo_0 E s1) rfl (c_X11_refuse C.2.1 E s1 (-3) ) rfl (by decide) rfl (Nat.le_of_ble_eq_true rfl) rfl h (fun v6 s5 h => ?_)
    exact hk _ _ _ _ (Option.some.inj h) dX11_empty_13
set_option maxHeartbeats 4000000 in
set_option maxRecDepth 100000 in
theorem c_X11_end (l : Launch) (E : Ev) (st : Sg) (p1 : Int32) : ∀ q, m_X11_end p1 st = some q → CtL l (wX E) (tyE E) yX11_end cX11_end 2 (some .long) 1 21 [.ref (oX E 0), .int p1] st q := by
  intro q h
  refine ctL_of (lv0 := [(0, .ref (oX E 0)), (1, .int p1)]) (by decide) rfl (Nat.le_of_ble_eq_true rfl) (fun C hC cx hk => ?_)
  replace cx : Cx C (tyE E) cX11_end RX11 2 1 21 := cx
  unfold m_X11_end at h
  refine v_aload_n 1 0 cx dX11_end_0 rfl rfl rfl ?_
  refine v_get 4 0 0 cx dX11_end_1 iX11 (wXo_0 E st) rfl (Nat.le_of_ble_eq_true rfl) rfl kf_X11_10 rfl rfl ?_
  refine v_iload_n 5 1 cx dX11_end_4 rfl rfl rfl ?_
  refine v_callVI 8 1 cx dX11_end_5 km_X11_116 ca_X0_has (wXo_1 E st) rfl (c_X0_has C.2.1 E st p1 ) rfl (by decide) rfl (Nat.le_of_ble_eq_true rfl) rfl h (fun v2 s1 h => ?_)
  refine v_if_ne 20 11 cx dX11_end_8 (by decide) rfl h (fun h => ?_) (fun h => ?_)
  · refine v_aload_n 21 0 cx dX11_end_20 rfl rfl rfl ?_
    refine v_get 24 0 8 cx dX11_end_21 iX11 (wXo_0 E s1) rfl (Nat.le_of_ble_eq_true rfl) rfl kf_X11_72 rfl rfl ?_
    refine v_getI 27 16 6 cx dX11_end_24 iX5 (wXo_16 E s1) rfl (Nat.le_of_ble_eq_true rfl) rfl kf_X11_309 rfl rfl h (fun v3 h => ?_)
    refine v_if_le 42 30 cx dX11_end_27 (by decide) rfl h (fun h => ?_) (fun h => ?_)
    · refine v_aload_n 43 0 cx dX11_end_42 rfl rfl rfl ?_
      refine v_get 46 0 0 cx dX11_end_43 iX11 (wXo_0 E s1) rfl (Nat.le_of_ble_eq_true rfl) rfl kf_X11_10 rfl rfl ?_
      refine v_get 49 1 9 cx dX11_end_46 iX0 (wXo_1 E s1) rfl (Nat.le_of_ble_eq_true rfl) rfl kf_X11_131 rfl rfl ?_
      refine v_iload_n 50 1 cx dX11_end_49 rfl rfl rfl ?_
      refine v_lald 51 26 1 cx dX11_end_50 (wXa_1_9 E s1) rfl rfl h (fun v4 h => ?_)
      exact hk _ _ _ _ (Option.some.inj h) dX11_end_51
    · refine v_aload_n 31 0 cx dX11_end_30 rfl rfl rfl ?_
      refine v_get 34 0 8 cx dX11_end_31 iX11 (wXo_0 E s1) rfl (Nat.le_of_ble_eq_true rfl) rfl kf_X11_72 rfl rfl ?_
      refine v_get 37 16 7 cx dX11_end_34 iX5 (wXo_16 E s1) rfl (Nat.le_of_ble_eq_true rfl) rfl kf_X11_333 rfl rfl ?_
      refine v_iload_n 38 1 cx dX11_end_37 rfl rfl rfl ?_
      refine v_lald 39 64 1 cx dX11_end_38 (wXa_16_7 E s1) rfl rfl h (fun v5 h => ?_)
      refine v_goto 51 cx dX11_end_39 (by decide) ?_
      exact hk _ _ _ _ (Option.some.inj h) dX11_end_51
  · refine v_aload_n 12 0 cx dX11_end_11 rfl rfl rfl ?_
    refine v_bipush 14 cx dX11_end_12 bp_m3 rfl ?_
    refine v_callVI 17 0 cx dX11_end_14 km_X11_88 ca_X11_refuse (wXo_0 E s1) rfl (c_X11_refuse C.2.1 E s1 (-3) ) rfl (by decide) rfl (Nat.le_of_ble_eq_true rfl) rfl h (fun v7 s6 h => ?_)
    refine v_pop 18 cx dX11_end_17 rfl rfl ?_
    refine v_lconst 19 cx dX11_end_18 lc_0 rfl ?_
    exact hk _ _ _ _ (Option.some.inj h) dX11_end_19
set_option maxHeartbeats 4000000 in
set_option maxRecDepth 100000 in
theorem c_X11_fetch (l : Launch) (E : Ev) (st : Sg) (p1 : Int32) (p2 : Int32) (p3 : Int32) : ∀ q, m_X11_fetch p1 p2 p3 st = some q → CtI l (wX E) (tyE E) yX11_fetch cX11_fetch 5 (some .int) 2 47 [.ref (oX E 0), .int p1, .int p2, .int p3] st q := by
  intro q h
  refine ctI_of (lv0 := [(0, .ref (oX E 0)), (1, .int p1), (2, .int p2), (3, .int p3)]) (by decide) rfl (Nat.le_of_ble_eq_true rfl) (fun C hC cx hk => ?_)
  replace cx : Cx C (tyE E) cX11_fetch RX11 5 2 47 := cx
  unfold m_X11_fetch at h
  refine v_iload_n 1 3 cx dX11_fetch_0 rfl rfl rfl ?_
  refine v_callSI 4 cx dX11_fetch_1 km_X11_98 ca_X11_isBack (c_X11_isBack C.2.1 E st p3 ) rfl (by decide) rfl (Nat.le_of_ble_eq_true rfl) rfl h (fun v2 s1 h => ?_)
  refine v_if_ne 14 7 cx dX11_fetch_4 (by decide) rfl h (fun h => ?_) (fun h => ?_)
  · refine v_iload_n 15 1 cx dX11_fetch_14 rfl rfl rfl ?_
    refine v_callSI 18 cx dX11_fetch_15 km_X11_110 ca_X11_isSlot (c_X11_isSlot C.2.1 E s1 p1 ) rfl (by decide) rfl (Nat.le_of_ble_eq_true rfl) rfl h (fun v4 s3 h => ?_)
    refine v_if_eq 33 21 cx dX11_fetch_18 (by decide) rfl h (fun h => ?_) (fun h => ?_)
    · refine v_aload_n 34 0 cx dX11_fetch_33 rfl rfl rfl ?_
      refine v_bipush 36 cx dX11_fetch_34 bp_m3 rfl ?_
      refine v_callVI 39 0 cx dX11_fetch_36 km_X11_88 ca_X11_refuse (wXo_0 E s3) rfl (c_X11_refuse C.2.1 E s3 (-3) ) rfl (by decide) rfl (Nat.le_of_ble_eq_true rfl) rfl h (fun v6 s5 h => ?_)
      exact hk _ _ _ _ (Option.some.inj h) dX11_fetch_39
    · refine v_aload_n 22 0 cx dX11_fetch_21 rfl rfl rfl ?_
      refine v_get 25 0 0 cx dX11_fetch_22 iX11 (wXo_0 E s3) rfl (Nat.le_of_ble_eq_true rfl) rfl kf_X11_10 rfl rfl ?_
      refine v_iload_n 26 2 cx dX11_fetch_25 rfl rfl rfl ?_
      refine v_iload_n 27 3 cx dX11_fetch_26 rfl rfl rfl ?_
      refine v_callVI 30 1 cx dX11_fetch_27 km_X11_102 ca_X0_mayTake (wXo_1 E s3) rfl (c_X0_mayTake C.2.1 E s3 p2 p3 ) rfl (by decide) rfl (Nat.le_of_ble_eq_true rfl) rfl h (fun v8 s7 h => ?_)
      refine v_if_ne 40 33 cx dX11_fetch_30 (by decide) rfl h (fun h => ?_) (fun h => ?_)
      · refine v_aload_n 41 0 cx dX11_fetch_40 rfl rfl rfl ?_
        refine v_get 44 0 0 cx dX11_fetch_41 iX11 (wXo_0 E s7) rfl (Nat.le_of_ble_eq_true rfl) rfl kf_X11_10 rfl rfl ?_
        refine v_iconst 45 cx dX11_fetch_44 ic_4 rfl ?_
        refine v_callVI 48 1 cx dX11_fetch_45 km_X11_84 ca_X0_open (wXo_1 E s7) rfl (c_X0_open C.2.1 E s7 4 ) rfl (by decide) rfl (Nat.le_of_ble_eq_true rfl) rfl h (fun v10 s9 h => ?_)
        refine v_istore 50 (fun a11 => [(4, .int a11), (0, .ref (oX E 0)), (1, .int p1), (2, .int p2), (3, .int p3)]) cx dX11_fetch_48 (by decide) (fun _ => rfl) rfl h (fun a11 h => ?_)
        refine v_iload 52 0 cx dX11_fetch_50 rfl rfl ?_
        refine v_iconst 53 cx dX11_fetch_52 ic_m1 rfl ?_
        refine v_icmp_ne 63 56 cx dX11_fetch_53 (by decide) rfl h (fun h => ?_) (fun h => ?_)
        · refine v_aload_n 64 1 cx dX11_fetch_63 rfl rfl rfl ?_
          refine v_get 67 0 0 cx dX11_fetch_64 iX11 (wXo_0 E s9) rfl (Nat.le_of_ble_eq_true rfl) rfl kf_X11_10 rfl rfl ?_
          refine v_get 70 1 5 cx dX11_fetch_67 iX0 (wXo_1 E s9) rfl (Nat.le_of_ble_eq_true rfl) rfl kf_X11_113 rfl rfl ?_
          refine v_iload 72 0 cx dX11_fetch_70 rfl rfl ?_
          refine v_iload_n 73 2 cx dX11_fetch_72 rfl rfl rfl ?_
          refine v_iast 74 22 0 cx dX11_fetch_73 (wXa_1_5 E s9) rfl (wXt_1_5 E s9) rfl h (fun s12 h => ?_)
          refine v_aload_n 75 1 cx dX11_fetch_74 rfl rfl rfl ?_
          refine v_get 78 0 0 cx dX11_fetch_75 iX11 (wXo_0 E s12) rfl (Nat.le_of_ble_eq_true rfl) rfl kf_X11_10 rfl rfl ?_
          refine v_iload 80 0 cx dX11_fetch_78 rfl rfl ?_
          refine v_iconst 81 cx dX11_fetch_80 ic_0 rfl ?_
          refine v_iload_n 82 3 cx dX11_fetch_81 rfl rfl rfl ?_
          refine v_iload_n 83 4 cx dX11_fetch_82 rfl rfl rfl ?_
          refine v_callVV 86 1 cx dX11_fetch_83 km_X11_106 ca_X0_take (wXo_1 E s12) rfl (c_X0_take C.2.1 E s12 a11 0 p2 p3 ) rfl (by decide) rfl (Nat.le_of_ble_eq_true rfl) rfl h (fun _ s13 h => ?_)
          refine v_aload_n 87 1 cx dX11_fetch_86 rfl rfl rfl ?_
          refine v_callVV 90 0 cx dX11_fetch_87 km_X11_95 ca_X11_bodyChanged (wXo_0 E s13) rfl (c_X11_bodyChanged C.2.1 E s13 ) rfl (by decide) rfl (Nat.le_of_ble_eq_true rfl) rfl h (fun _ s14 h => ?_)
          refine v_iload 92 0 cx dX11_fetch_90 rfl rfl ?_
          exact hk _ _ _ _ (Option.some.inj h) dX11_fetch_92
        · refine v_aload_n 57 1 cx dX11_fetch_56 rfl rfl rfl ?_
          refine v_bipush 59 cx dX11_fetch_57 bp_m10 rfl ?_
          refine v_callVI 62 0 cx dX11_fetch_59 km_X11_88 ca_X11_refuse (wXo_0 E s9) rfl (c_X11_refuse C.2.1 E s9 (-10) ) rfl (by decide) rfl (Nat.le_of_ble_eq_true rfl) rfl h (fun v16 s15 h => ?_)
          exact hk _ _ _ _ (Option.some.inj h) dX11_fetch_62
      · refine v_aload_n 34 0 cx dX11_fetch_33 rfl rfl rfl ?_
        refine v_bipush 36 cx dX11_fetch_34 bp_m3 rfl ?_
        refine v_callVI 39 0 cx dX11_fetch_36 km_X11_88 ca_X11_refuse (wXo_0 E s7) rfl (c_X11_refuse C.2.1 E s7 (-3) ) rfl (by decide) rfl (Nat.le_of_ble_eq_true rfl) rfl h (fun v18 s17 h => ?_)
        exact hk _ _ _ _ (Option.some.inj h) dX11_fetch_39
  · refine v_aload_n 8 0 cx dX11_fetch_7 rfl rfl rfl ?_
    refine v_bipush 10 cx dX11_fetch_8 bp_m9 rfl ?_
    refine v_callVI 13 0 cx dX11_fetch_10 km_X11_88 ca_X11_refuse (wXo_0 E s1) rfl (c_X11_refuse C.2.1 E s1 (-9) ) rfl (by decide) rfl (Nat.le_of_ble_eq_true rfl) rfl h (fun v20 s19 h => ?_)
    exact hk _ _ _ _ (Option.some.inj h) dX11_fetch_13
def V_X4_placesInAll_L4 (C : Cm) (E : Ev) (x1 : Int32) (s : (Int32 × Int32 × Sg)) : Prop := Vat C (wX E) 4 4 [(0, .ref (oX E 9)), (1, .int x1), (2, .int s.1), (3, .int s.2.1)] [] s.2.2
def K_X4_placesInAll_L4 (C : Cm) (E : Ev) (x1 : Int32) : (Int32 × Sg) → Prop := (fun r : (Int32 × Sg) => Vat C (wX E) 4 24 [(2, .int r.1)] [] r.2)
set_option maxHeartbeats 4000000 in
set_option maxRecDepth 100000 in
theorem b_X4_placesInAll_L4 {C : Cm} {E : Ev} (cx : Cx C (tyE E) cX4_placesInAll RX4 4 0 0) (x1 : Int32) : ∀ (s : (Int32 × Int32 × Sg)) (out : (Int32 × Int32 × Sg) ⊕ (Int32 × Sg)), m_X4_placesInAll_L4 x1 s.1 s.2.1 s.2.2 = some out → Sum.elim (V_X4_placesInAll_L4 C E x1) (K_X4_placesInAll_L4 C E x1) out → V_X4_placesInAll_L4 C E x1 s := by
  intro s out h hk
  obtain ⟨x2, x3, st⟩ := s
  show Vat C (wX E) 4 4 [(0, .ref (oX E 9)), (1, .int x1), (2, .int x2), (3, .int x3)] [] st
  replace h : m_X4_placesInAll_L4 x1 x2 x3 st = some out := h
  unfold m_X4_placesInAll_L4 at h
  refine v_iload_n 5 3 cx dX4_placesInAll_4 rfl rfl rfl ?_
  refine v_iload_n 6 1 cx dX4_placesInAll_5 rfl rfl rfl ?_
  refine v_icmp_ge 24 9 cx dX4_placesInAll_6 (by decide) rfl h (fun h => ?_) (fun h => ?_)
  · cases h
    have hk : Vat C (wX E) 4 24 [(2, .int x2)] [] st := hk
    exact v_lsub (lv' := [(2, .int x2)]) [2] rfl (hk)
  · refine v_iload_n 10 2 cx dX4_placesInAll_9 rfl rfl rfl ?_
    refine v_aload_n 11 0 cx dX4_placesInAll_10 rfl rfl rfl ?_
    refine v_get 14 9 9 cx dX4_placesInAll_11 iX4 (wXo_9 E st) rfl (Nat.le_of_ble_eq_true rfl) rfl kf_X4_41 rfl rfl ?_
    refine v_iload_n 15 3 cx dX4_placesInAll_14 rfl rfl rfl ?_
    refine v_iald 16 54 0 cx dX4_placesInAll_15 (wXa_9_9 E st) rfl rfl h (fun v3 h => ?_)
    refine v_iadd 17 cx dX4_placesInAll_16 rfl ?_
    refine v_istore_n 18 (fun a4 => [(2, .int a4), (0, .ref (oX E 9)), (1, .int x1), (3, .int x3)]) cx dX4_placesInAll_17 rfl (by decide) (fun _ => rfl) rfl h (fun a4 h => ?_)
    refine v_iinc 21 3 (fun a5 => [(3, .int a5), (2, .int a4), (0, .ref (oX E 9)), (1, .int x1)]) cx dX4_placesInAll_18 rfl ic_1 (by decide) (fun _ => rfl) rfl h (fun a5 h => ?_)
    refine v_goto 4 cx dX4_placesInAll_21 (by decide) ?_
    cases h
    have hk : Vat C (wX E) 4 4 [(0, .ref (oX E 9)), (1, .int x1), (2, .int a4), (3, .int a5)] [] st := hk
    exact v_lsub (lv' := [(0, .ref (oX E 9)), (1, .int x1), (2, .int a4), (3, .int a5)]) [2, 3, 1, 0] rfl (hk)
set_option maxHeartbeats 4000000 in
set_option maxRecDepth 100000 in
theorem c_X4_placesInAll (l : Launch) (E : Ev) (st : Sg) (p1 : Int32) : ∀ q, m_X4_placesInAll p1 st = some q → CtI l (wX E) (tyE E) yX4_placesInAll cX4_placesInAll 4 (some .int) 0 0 [.ref (oX E 9), .int p1] st q := by
  intro q h
  refine ctI_of (lv0 := [(0, .ref (oX E 9)), (1, .int p1)]) (by decide) rfl (Nat.le_of_ble_eq_true rfl) (fun C hC cx hk => ?_)
  replace cx : Cx C (tyE E) cX4_placesInAll RX4 4 0 0 := cx
  unfold m_X4_placesInAll at h
  refine v_iconst 1 cx dX4_placesInAll_0 ic_0 rfl ?_
  refine v_istore_n 2 (fun a1 => [(2, .int a1), (0, .ref (oX E 9)), (1, .int p1)]) cx dX4_placesInAll_1 rfl (by decide) (fun _ => rfl) rfl h (fun a1 h => ?_)
  refine v_iconst 3 cx dX4_placesInAll_2 ic_0 rfl ?_
  refine v_istore_n 4 (fun a2 => [(3, .int a2), (2, .int a1), (0, .ref (oX E 9)), (1, .int p1)]) cx dX4_placesInAll_3 rfl (by decide) (fun _ => rfl) rfl h (fun a2 h => ?_)
  refine v_lsub (lv' := [(0, .ref (oX E 9)), (1, .int p1), (2, .int a1), (3, .int a2)]) [2, 3, 1, 0] rfl ?_
  refine v_loop (s0 := (a1, a2, st)) (V_X4_placesInAll_L4 C E p1) (K_X4_placesInAll_L4 C E p1) h (b_X4_placesInAll_L4 cx p1) (fun r6 h => ?_)
  show Vat C (wX E) 4 24 [(2, .int r6.1)] [] r6.2
  refine v_iload_n 25 0 cx dX4_placesInAll_24 rfl rfl rfl ?_
  exact hk _ _ _ _ (Option.some.inj h) dX4_placesInAll_25
def V_X4_mostPlaces_L4 (C : Cm) (E : Ev) (x1 : Int32) (s : (Int32 × Int32 × Sg)) : Prop := Vat C (wX E) 4 4 [(0, .ref (oX E 9)), (1, .int x1), (2, .int s.1), (3, .int s.2.1)] [] s.2.2
def K_X4_mostPlaces_L4 (C : Cm) (E : Ev) (x1 : Int32) : (Int32 × Sg) → Prop := (fun r : (Int32 × Sg) => Vat C (wX E) 4 26 [(2, .int r.1)] [] r.2)
set_option maxHeartbeats 4000000 in
set_option maxRecDepth 100000 in
theorem b_X4_mostPlaces_L4 {C : Cm} {E : Ev} (cx : Cx C (tyE E) cX4_mostPlaces RX4 4 1 13) (x1 : Int32) : ∀ (s : (Int32 × Int32 × Sg)) (out : (Int32 × Int32 × Sg) ⊕ (Int32 × Sg)), m_X4_mostPlaces_L4 x1 s.1 s.2.1 s.2.2 = some out → Sum.elim (V_X4_mostPlaces_L4 C E x1) (K_X4_mostPlaces_L4 C E x1) out → V_X4_mostPlaces_L4 C E x1 s := by
  intro s out h hk
  obtain ⟨x2, x3, st⟩ := s
  show Vat C (wX E) 4 4 [(0, .ref (oX E 9)), (1, .int x1), (2, .int x2), (3, .int x3)] [] st
  replace h : m_X4_mostPlaces_L4 x1 x2 x3 st = some out := h
  unfold m_X4_mostPlaces_L4 at h
  refine v_iload_n 5 3 cx dX4_mostPlaces_4 rfl rfl rfl ?_
  refine v_iload_n 6 1 cx dX4_mostPlaces_5 rfl rfl rfl ?_
  refine v_icmp_ge 26 9 cx dX4_mostPlaces_6 (by decide) rfl h (fun h => ?_) (fun h => ?_)
  · cases h
    have hk : Vat C (wX E) 4 26 [(2, .int x2)] [] st := hk
    exact v_lsub (lv' := [(2, .int x2)]) [2] rfl (hk)
  · refine v_iload_n 10 2 cx dX4_mostPlaces_9 rfl rfl rfl ?_
    refine v_aload_n 11 0 cx dX4_mostPlaces_10 rfl rfl rfl ?_
    refine v_get 14 9 9 cx dX4_mostPlaces_11 iX4 (wXo_9 E st) rfl (Nat.le_of_ble_eq_true rfl) rfl kf_X4_41 rfl rfl ?_
    refine v_iload_n 15 3 cx dX4_mostPlaces_14 rfl rfl rfl ?_
    refine v_iald 16 54 0 cx dX4_mostPlaces_15 (wXa_9_9 E st) rfl rfl h (fun v3 h => ?_)
    refine v_mmax 19 cx dX4_mostPlaces_16 km_X4_59 kmax_s kmax_i kmax_c (by decide) (Nat.le_of_ble_eq_true rfl) rfl ?_
    refine v_istore_n 20 (fun a4 => [(2, .int a4), (0, .ref (oX E 9)), (1, .int x1), (3, .int x3)]) cx dX4_mostPlaces_19 rfl (by decide) (fun _ => rfl) rfl h (fun a4 h => ?_)
    refine v_iinc 23 3 (fun a5 => [(3, .int a5), (2, .int a4), (0, .ref (oX E 9)), (1, .int x1)]) cx dX4_mostPlaces_20 rfl ic_1 (by decide) (fun _ => rfl) rfl h (fun a5 h => ?_)
    refine v_goto 4 cx dX4_mostPlaces_23 (by decide) ?_
    cases h
    have hk : Vat C (wX E) 4 4 [(0, .ref (oX E 9)), (1, .int x1), (2, .int a4), (3, .int a5)] [] st := hk
    exact v_lsub (lv' := [(0, .ref (oX E 9)), (1, .int x1), (2, .int a4), (3, .int a5)]) [2, 3, 1, 0] rfl (hk)
set_option maxHeartbeats 4000000 in
set_option maxRecDepth 100000 in
theorem c_X4_mostPlaces (l : Launch) (E : Ev) (st : Sg) (p1 : Int32) : ∀ q, m_X4_mostPlaces p1 st = some q → CtI l (wX E) (tyE E) yX4_mostPlaces cX4_mostPlaces 4 (some .int) 1 13 [.ref (oX E 9), .int p1] st q := by
  intro q h
  refine ctI_of (lv0 := [(0, .ref (oX E 9)), (1, .int p1)]) (by decide) rfl (Nat.le_of_ble_eq_true rfl) (fun C hC cx hk => ?_)
  replace cx : Cx C (tyE E) cX4_mostPlaces RX4 4 1 13 := cx
  unfold m_X4_mostPlaces at h
  refine v_iconst 1 cx dX4_mostPlaces_0 ic_0 rfl ?_
  refine v_istore_n 2 (fun a1 => [(2, .int a1), (0, .ref (oX E 9)), (1, .int p1)]) cx dX4_mostPlaces_1 rfl (by decide) (fun _ => rfl) rfl h (fun a1 h => ?_)
  refine v_iconst 3 cx dX4_mostPlaces_2 ic_0 rfl ?_
  refine v_istore_n 4 (fun a2 => [(3, .int a2), (2, .int a1), (0, .ref (oX E 9)), (1, .int p1)]) cx dX4_mostPlaces_3 rfl (by decide) (fun _ => rfl) rfl h (fun a2 h => ?_)
  refine v_lsub (lv' := [(0, .ref (oX E 9)), (1, .int p1), (2, .int a1), (3, .int a2)]) [2, 3, 1, 0] rfl ?_
  refine v_loop (s0 := (a1, a2, st)) (V_X4_mostPlaces_L4 C E p1) (K_X4_mostPlaces_L4 C E p1) h (b_X4_mostPlaces_L4 cx p1) (fun r6 h => ?_)
  show Vat C (wX E) 4 26 [(2, .int r6.1)] [] r6.2
  refine v_iload_n 27 0 cx dX4_mostPlaces_26 rfl rfl rfl ?_
  exact hk _ _ _ _ (Option.some.inj h) dX4_mostPlaces_27
set_option maxHeartbeats 4000000 in
set_option maxRecDepth 100000 in
theorem c_X11_fewest (l : Launch) (E : Ev) (st : Sg) (p1 : Int32) : ∀ q, m_X11_fewest p1 st = some q → CtI l (wX E) (tyE E) yX11_fewest cX11_fewest 2 (some .int) 2 36 [.ref (oX E 0), .int p1] st q := by
  intro q h
  refine ctI_of (lv0 := [(0, .ref (oX E 0)), (1, .int p1)]) (by decide) rfl (Nat.le_of_ble_eq_true rfl) (fun C hC cx hk => ?_)
  replace cx : Cx C (tyE E) cX11_fewest RX11 2 2 36 := cx
  unfold m_X11_fewest at h
  refine v_aload_n 1 0 cx dX11_fewest_0 rfl rfl rfl ?_
  refine v_get 4 0 5 cx dX11_fewest_1 iX11 (wXo_0 E st) rfl (Nat.le_of_ble_eq_true rfl) rfl kf_X11_49 rfl rfl ?_
  refine v_getI 7 9 0 cx dX11_fewest_4 iX4 (wXo_9 E st) rfl (Nat.le_of_ble_eq_true rfl) rfl kf_X11_241 rfl rfl h (fun v1 h => ?_)
  refine v_if_ne 17 10 cx dX11_fewest_7 (by decide) rfl h (fun h => ?_) (fun h => ?_)
  · refine v_iload_n 18 1 cx dX11_fewest_17 rfl rfl rfl ?_
    refine v_look2 44 59 82 (k1 := 0) (k2 := 1) cx dX11_fewest_18 (by decide) (by decide) (by decide) (by decide) (by decide) (by decide) h (fun h => ?_) (fun h => ?_) (fun h => ?_)
    · refine v_aload_n 45 0 cx dX11_fewest_44 rfl rfl rfl ?_
      refine v_get 48 0 5 cx dX11_fewest_45 iX11 (wXo_0 E st) rfl (Nat.le_of_ble_eq_true rfl) rfl kf_X11_49 rfl rfl ?_
      refine v_aload_n 49 0 cx dX11_fewest_48 rfl rfl rfl ?_
      refine v_get 52 0 0 cx dX11_fewest_49 iX11 (wXo_0 E st) rfl (Nat.le_of_ble_eq_true rfl) rfl kf_X11_10 rfl rfl ?_
      refine v_getI 55 1 0 cx dX11_fewest_52 iX0 (wXo_1 E st) rfl (Nat.le_of_ble_eq_true rfl) rfl kf_X11_149 rfl rfl h (fun v2 h => ?_)
      refine v_callVI 58 9 cx dX11_fewest_55 km_X11_282 ca_X4_placesInAll (wXo_9 E st) rfl (c_X4_placesInAll C.2.1 E st v2 ) rfl (by decide) rfl (Nat.le_of_ble_eq_true rfl) rfl h (fun v4 s3 h => ?_)
      exact hk _ _ _ _ (Option.some.inj h) dX11_fewest_58
    · refine v_aload_n 60 0 cx dX11_fewest_59 rfl rfl rfl ?_
      refine v_get 63 0 5 cx dX11_fewest_60 iX11 (wXo_0 E st) rfl (Nat.le_of_ble_eq_true rfl) rfl kf_X11_49 rfl rfl ?_
      refine v_aload_n 64 0 cx dX11_fewest_63 rfl rfl rfl ?_
      refine v_get 67 0 0 cx dX11_fewest_64 iX11 (wXo_0 E st) rfl (Nat.le_of_ble_eq_true rfl) rfl kf_X11_10 rfl rfl ?_
      refine v_getI 70 1 0 cx dX11_fewest_67 iX0 (wXo_1 E st) rfl (Nat.le_of_ble_eq_true rfl) rfl kf_X11_149 rfl rfl h (fun v5 h => ?_)
      refine v_callVI 73 9 cx dX11_fewest_70 km_X11_285 ca_X4_mostPlaces (wXo_9 E st) rfl (c_X4_mostPlaces C.2.1 E st v5 ) rfl (by decide) rfl (Nat.le_of_ble_eq_true rfl) rfl h (fun v7 s6 h => ?_)
      refine v_aload_n 74 0 cx dX11_fewest_73 rfl rfl rfl ?_
      refine v_get 77 0 0 cx dX11_fewest_74 iX11 (wXo_0 E s6) rfl (Nat.le_of_ble_eq_true rfl) rfl kf_X11_10 rfl rfl ?_
      refine v_getI 80 1 0 cx dX11_fewest_77 iX0 (wXo_1 E s6) rfl (Nat.le_of_ble_eq_true rfl) rfl kf_X11_149 rfl rfl h (fun v8 h => ?_)
      refine v_imul 81 cx dX11_fewest_80 rfl ?_
      exact hk _ _ _ _ (Option.some.inj h) dX11_fewest_81
    · refine v_aload_n 83 0 cx dX11_fewest_82 rfl rfl rfl ?_
      refine v_bipush 85 cx dX11_fewest_83 bp_m9 rfl ?_
      refine v_callVI 88 0 cx dX11_fewest_85 km_X11_88 ca_X11_refuse (wXo_0 E st) rfl (c_X11_refuse C.2.1 E st (-9) ) rfl (by decide) rfl (Nat.le_of_ble_eq_true rfl) rfl h (fun v10 s9 h => ?_)
      exact hk _ _ _ _ (Option.some.inj h) dX11_fewest_88
  · refine v_aload_n 11 0 cx dX11_fewest_10 rfl rfl rfl ?_
    refine v_bipush 13 cx dX11_fewest_11 bp_m2 rfl ?_
    refine v_callVI 16 0 cx dX11_fewest_13 km_X11_88 ca_X11_refuse (wXo_0 E st) rfl (c_X11_refuse C.2.1 E st (-2) ) rfl (by decide) rfl (Nat.le_of_ble_eq_true rfl) rfl h (fun v12 s11 h => ?_)
    exact hk _ _ _ _ (Option.some.inj h) dX11_fewest_16
set_option maxHeartbeats 4000000 in
set_option maxRecDepth 100000 in
theorem c_X11_isKind (l : Launch) (E : Ev) (st : Sg) (p0 : Int32) : ∀ q, m_X11_isKind p0 st = some q → CtI l (wX E) (tyE E) yX11_isKind cX11_isKind 1 (some .boolean) 0 0 [.int p0] st q := by
  intro q h
  refine ctZ_of (lv0 := [(0, .int p0)]) (by decide) rfl (Nat.le_of_ble_eq_true rfl) (fun C hC cx hk => ?_)
  replace cx : Cx C (tyE E) cX11_isKind RX11 1 0 0 := cx
  unfold m_X11_isKind at h
  refine v_iload_n 1 0 cx dX11_isKind_0 rfl rfl rfl ?_
  refine v_if_lt 14 4 cx dX11_isKind_1 (by decide) rfl h (fun h => ?_) (fun h => ?_)
  · refine v_iconst 15 cx dX11_isKind_14 ic_0 rfl ?_
    exact hk _ _ _ _ (Option.some.inj h) (Or.inl rfl) dX11_isKind_15
  · refine v_iload_n 5 0 cx dX11_isKind_4 rfl rfl rfl ?_
    refine v_bipush 7 cx dX11_isKind_5 bp_6 rfl ?_
    refine v_icmp_ge 14 10 cx dX11_isKind_7 (by decide) rfl h (fun h => ?_) (fun h => ?_)
    · refine v_iconst 15 cx dX11_isKind_14 ic_0 rfl ?_
      exact hk _ _ _ _ (Option.some.inj h) (Or.inl rfl) dX11_isKind_15
    · refine v_iconst 11 cx dX11_isKind_10 ic_1 rfl ?_
      refine v_goto 15 cx dX11_isKind_11 (by decide) ?_
      exact hk _ _ _ _ (Option.some.inj h) (Or.inr rfl) dX11_isKind_15
set_option maxHeartbeats 4000000 in
set_option maxRecDepth 100000 in
theorem c_X2_at_10 (l : Launch) (E : Ev) (st : Sg) (p1 : Int32) (p2 : Int32) : ∀ q, m_X2_at 10 p1 p2 st = some q → CtI l (wX E) (tyE E) yX2_at cX2_at 3 (some .int) 0 0 [.ref (oX E 10), .int p1, .int p2] st q := by
  intro q h
  refine ctI_of (lv0 := [(0, .ref (oX E 10)), (1, .int p1), (2, .int p2)]) (by decide) rfl (Nat.le_of_ble_eq_true rfl) (fun C hC cx hk => ?_)
  replace cx : Cx C (tyE E) cX2_at RX2 3 0 0 := cx
  unfold m_X2_at at h
  refine v_aload_n 1 0 cx dX2_at_0 rfl rfl rfl ?_
  refine v_get 4 10 0 cx dX2_at_1 iX2 (wXo_10 E st) rfl (Nat.le_of_ble_eq_true rfl) rfl kf_X2_9 rfl rfl ?_
  refine v_iload_n 5 1 cx dX2_at_4 rfl rfl rfl ?_
  refine v_bipush 7 cx dX2_at_5 bp_60 rfl ?_
  refine v_imul 8 cx dX2_at_7 rfl ?_
  refine v_iload_n 9 2 cx dX2_at_8 rfl rfl rfl ?_
  refine v_iadd 10 cx dX2_at_9 rfl ?_
  refine v_iald 11 56 0 cx dX2_at_10 (wXa_10_0 E st) rfl rfl h (fun v1 h => ?_)
  exact hk _ _ _ _ (Option.some.inj h) dX2_at_11
set_option maxHeartbeats 4000000 in
set_option maxRecDepth 100000 in
theorem c_X11_filled (l : Launch) (E : Ev) (st : Sg) (p1 : Int32) (p2 : Int32) : ∀ q, m_X11_filled p1 p2 st = some q → CtI l (wX E) (tyE E) yX11_filled cX11_filled 3 (some .int) 1 22 [.ref (oX E 0), .int p1, .int p2] st q := by
  intro q h
  refine ctI_of (lv0 := [(0, .ref (oX E 0)), (1, .int p1), (2, .int p2)]) (by decide) rfl (Nat.le_of_ble_eq_true rfl) (fun C hC cx hk => ?_)
  replace cx : Cx C (tyE E) cX11_filled RX11 3 1 22 := cx
  unfold m_X11_filled at h
  refine v_aload_n 1 0 cx dX11_filled_0 rfl rfl rfl ?_
  refine v_get 4 0 5 cx dX11_filled_1 iX11 (wXo_0 E st) rfl (Nat.le_of_ble_eq_true rfl) rfl kf_X11_49 rfl rfl ?_
  refine v_getI 7 9 0 cx dX11_filled_4 iX4 (wXo_9 E st) rfl (Nat.le_of_ble_eq_true rfl) rfl kf_X11_241 rfl rfl h (fun v1 h => ?_)
  refine v_if_ne 17 10 cx dX11_filled_7 (by decide) rfl h (fun h => ?_) (fun h => ?_)
  · refine v_iload_n 18 1 cx dX11_filled_17 rfl rfl rfl ?_
    refine v_callSI 21 cx dX11_filled_18 km_X11_119 ca_X11_isKind (c_X11_isKind C.2.1 E st p1 ) rfl (by decide) rfl (Nat.le_of_ble_eq_true rfl) rfl h (fun v3 s2 h => ?_)
    refine v_if_eq 39 24 cx dX11_filled_21 (by decide) rfl h (fun h => ?_) (fun h => ?_)
    · refine v_aload_n 40 0 cx dX11_filled_39 rfl rfl rfl ?_
      refine v_bipush 42 cx dX11_filled_40 bp_m3 rfl ?_
      refine v_callVI 45 0 cx dX11_filled_42 km_X11_88 ca_X11_refuse (wXo_0 E s2) rfl (c_X11_refuse C.2.1 E s2 (-3) ) rfl (by decide) rfl (Nat.le_of_ble_eq_true rfl) rfl h (fun v5 s4 h => ?_)
      exact hk _ _ _ _ (Option.some.inj h) dX11_filled_45
    · refine v_iload_n 25 2 cx dX11_filled_24 rfl rfl rfl ?_
      refine v_if_lt 39 28 cx dX11_filled_25 (by decide) rfl h (fun h => ?_) (fun h => ?_)
      · refine v_aload_n 40 0 cx dX11_filled_39 rfl rfl rfl ?_
        refine v_bipush 42 cx dX11_filled_40 bp_m3 rfl ?_
        refine v_callVI 45 0 cx dX11_filled_42 km_X11_88 ca_X11_refuse (wXo_0 E s2) rfl (c_X11_refuse C.2.1 E s2 (-3) ) rfl (by decide) rfl (Nat.le_of_ble_eq_true rfl) rfl h (fun v7 s6 h => ?_)
        exact hk _ _ _ _ (Option.some.inj h) dX11_filled_45
      · refine v_iload_n 29 2 cx dX11_filled_28 rfl rfl rfl ?_
        refine v_aload_n 30 0 cx dX11_filled_29 rfl rfl rfl ?_
        refine v_get 33 0 5 cx dX11_filled_30 iX11 (wXo_0 E s2) rfl (Nat.le_of_ble_eq_true rfl) rfl kf_X11_49 rfl rfl ?_
        refine v_getI 36 9 1 cx dX11_filled_33 iX4 (wXo_9 E s2) rfl (Nat.le_of_ble_eq_true rfl) rfl kf_X11_245 rfl rfl h (fun v8 h => ?_)
        refine v_icmp_lt 46 39 cx dX11_filled_36 (by decide) rfl h (fun h => ?_) (fun h => ?_)
        · refine v_aload_n 47 0 cx dX11_filled_46 rfl rfl rfl ?_
          refine v_get 50 0 5 cx dX11_filled_47 iX11 (wXo_0 E s2) rfl (Nat.le_of_ble_eq_true rfl) rfl kf_X11_49 rfl rfl ?_
          refine v_get 53 9 11 cx dX11_filled_50 iX4 (wXo_9 E s2) rfl (Nat.le_of_ble_eq_true rfl) rfl kf_X11_270 rfl rfl ?_
          refine v_iload_n 54 1 cx dX11_filled_53 rfl rfl rfl ?_
          refine v_iload_n 55 2 cx dX11_filled_54 rfl rfl rfl ?_
          refine v_callVI 58 10 cx dX11_filled_55 km_X11_274 ca_X2_at (wXo_10 E s2) rfl (c_X2_at_10 C.2.1 E s2 p1 p2 ) rfl (by decide) rfl (Nat.le_of_ble_eq_true rfl) rfl h (fun v10 s9 h => ?_)
          exact hk _ _ _ _ (Option.some.inj h) dX11_filled_58
        · refine v_aload_n 40 0 cx dX11_filled_39 rfl rfl rfl ?_
          refine v_bipush 42 cx dX11_filled_40 bp_m3 rfl ?_
          refine v_callVI 45 0 cx dX11_filled_42 km_X11_88 ca_X11_refuse (wXo_0 E s2) rfl (c_X11_refuse C.2.1 E s2 (-3) ) rfl (by decide) rfl (Nat.le_of_ble_eq_true rfl) rfl h (fun v12 s11 h => ?_)
          exact hk _ _ _ _ (Option.some.inj h) dX11_filled_45
  · refine v_aload_n 11 0 cx dX11_filled_10 rfl rfl rfl ?_
    refine v_bipush 13 cx dX11_filled_11 bp_m2 rfl ?_
    refine v_callVI 16 0 cx dX11_filled_13 km_X11_88 ca_X11_refuse (wXo_0 E st) rfl (c_X11_refuse C.2.1 E st (-2) ) rfl (by decide) rfl (Nat.le_of_ble_eq_true rfl) rfl h (fun v14 s13 h => ?_)
    exact hk _ _ _ _ (Option.some.inj h) dX11_filled_16
set_option maxHeartbeats 4000000 in
set_option maxRecDepth 100000 in
theorem c_X11_first (l : Launch) (E : Ev) (st : Sg) (p1 : Int32) (p2 : Int64) : ∀ q, m_X11_first p1 p2 st = some q → CtI l (wX E) (tyE E) yX11_first cX11_first 4 (some .int) 1 21 [.ref (oX E 0), .int p1, .long p2] st q := by
  intro q h
  refine ctI_of (lv0 := [(0, .ref (oX E 0)), (1, .int p1), (2, .long p2)]) (by decide) rfl (Nat.le_of_ble_eq_true rfl) (fun C hC cx hk => ?_)
  replace cx : Cx C (tyE E) cX11_first RX11 4 1 21 := cx
  unfold m_X11_first at h
  refine v_aload_n 1 0 cx dX11_first_0 rfl rfl rfl ?_
  refine v_get 4 0 0 cx dX11_first_1 iX11 (wXo_0 E st) rfl (Nat.le_of_ble_eq_true rfl) rfl kf_X11_10 rfl rfl ?_
  refine v_iload_n 5 1 cx dX11_first_4 rfl rfl rfl ?_
  refine v_callVI 8 1 cx dX11_first_5 km_X11_116 ca_X0_has (wXo_1 E st) rfl (c_X0_has C.2.1 E st p1 ) rfl (by decide) rfl (Nat.le_of_ble_eq_true rfl) rfl h (fun v2 s1 h => ?_)
  refine v_if_ne 18 11 cx dX11_first_8 (by decide) rfl h (fun h => ?_) (fun h => ?_)
  · refine v_aload_n 19 0 cx dX11_first_18 rfl rfl rfl ?_
    refine v_get 22 0 0 cx dX11_first_19 iX11 (wXo_0 E s1) rfl (Nat.le_of_ble_eq_true rfl) rfl kf_X11_10 rfl rfl ?_
    refine v_get 25 1 9 cx dX11_first_22 iX0 (wXo_1 E s1) rfl (Nat.le_of_ble_eq_true rfl) rfl kf_X11_131 rfl rfl ?_
    refine v_iload_n 26 1 cx dX11_first_25 rfl rfl rfl ?_
    refine v_lload_n 27 2 cx dX11_first_26 rfl rfl rfl ?_
    refine v_last 28 26 1 cx dX11_first_27 (wXa_1_9 E s1) rfl (wXt_1_9 E s1) rfl h (fun s3 h => ?_)
    refine v_iconst 29 cx dX11_first_28 ic_1 rfl ?_
    exact hk _ _ _ _ (Option.some.inj h) dX11_first_29
  · refine v_aload_n 12 0 cx dX11_first_11 rfl rfl rfl ?_
    refine v_bipush 14 cx dX11_first_12 bp_m3 rfl ?_
    refine v_callVI 17 0 cx dX11_first_14 km_X11_88 ca_X11_refuse (wXo_0 E s1) rfl (c_X11_refuse C.2.1 E s1 (-3) ) rfl (by decide) rfl (Nat.le_of_ble_eq_true rfl) rfl h (fun v5 s4 h => ?_)
    exact hk _ _ _ _ (Option.some.inj h) dX11_first_17
set_option maxHeartbeats 4000000 in
set_option maxRecDepth 100000 in
theorem c_X11_forge (l : Launch) (E : Ev) (st : Sg) (p1 : Int32) (p2 : Int32) : ∀ q, m_X11_forge p1 p2 st = some q → CtI l (wX E) (tyE E) yX11_forge cX11_forge 4 (some .int) 1 21 [.ref (oX E 0), .int p1, .int p2] st q := by
  intro q h
  refine ctI_of (lv0 := [(0, .ref (oX E 0)), (1, .int p1), (2, .int p2)]) (by decide) rfl (Nat.le_of_ble_eq_true rfl) (fun C hC cx hk => ?_)
  replace cx : Cx C (tyE E) cX11_forge RX11 4 1 21 := cx
  unfold m_X11_forge at h
  refine v_aload_n 1 0 cx dX11_forge_0 rfl rfl rfl ?_
  refine v_get 4 0 5 cx dX11_forge_1 iX11 (wXo_0 E st) rfl (Nat.le_of_ble_eq_true rfl) rfl kf_X11_49 rfl rfl ?_
  refine v_getI 7 9 0 cx dX11_forge_4 iX4 (wXo_9 E st) rfl (Nat.le_of_ble_eq_true rfl) rfl kf_X11_241 rfl rfl h (fun v1 h => ?_)
  refine v_if_ne 17 10 cx dX11_forge_7 (by decide) rfl h (fun h => ?_) (fun h => ?_)
  · refine v_aload_n 18 0 cx dX11_forge_17 rfl rfl rfl ?_
    refine v_get 21 0 0 cx dX11_forge_18 iX11 (wXo_0 E st) rfl (Nat.le_of_ble_eq_true rfl) rfl kf_X11_10 rfl rfl ?_
    refine v_iload_n 22 1 cx dX11_forge_21 rfl rfl rfl ?_
    refine v_callVI 25 1 cx dX11_forge_22 km_X11_116 ca_X0_has (wXo_1 E st) rfl (c_X0_has C.2.1 E st p1 ) rfl (by decide) rfl (Nat.le_of_ble_eq_true rfl) rfl h (fun v3 s2 h => ?_)
    refine v_if_ne 35 28 cx dX11_forge_25 (by decide) rfl h (fun h => ?_) (fun h => ?_)
    · refine v_iload_n 36 2 cx dX11_forge_35 rfl rfl rfl ?_
      refine v_if_ge 46 39 cx dX11_forge_36 (by decide) rfl h (fun h => ?_) (fun h => ?_)
      · refine v_iload_n 47 2 cx dX11_forge_46 rfl rfl rfl ?_
        refine v_sipush 50 cx dX11_forge_47 sp_3000 rfl ?_
        refine v_icmp_le 60 53 cx dX11_forge_50 (by decide) rfl h (fun h => ?_) (fun h => ?_)
        · refine v_aload_n 61 0 cx dX11_forge_60 rfl rfl rfl ?_
          refine v_get 64 0 5 cx dX11_forge_61 iX11 (wXo_0 E s2) rfl (Nat.le_of_ble_eq_true rfl) rfl kf_X11_49 rfl rfl ?_
          refine v_get 67 9 6 cx dX11_forge_64 iX4 (wXo_9 E s2) rfl (Nat.le_of_ble_eq_true rfl) rfl kf_X11_288 rfl rfl ?_
          refine v_iload_n 68 1 cx dX11_forge_67 rfl rfl rfl ?_
          refine v_iald 69 51 0 cx dX11_forge_68 (wXa_9_6 E s2) rfl rfl h (fun v4 h => ?_)
          refine v_istore_n 70 (fun a5 => [(3, .int a5), (0, .ref (oX E 0)), (1, .int p1), (2, .int p2)]) cx dX11_forge_69 rfl (by decide) (fun _ => rfl) rfl h (fun a5 h => ?_)
          refine v_aload_n 71 1 cx dX11_forge_70 rfl rfl rfl ?_
          refine v_get 74 0 5 cx dX11_forge_71 iX11 (wXo_0 E s2) rfl (Nat.le_of_ble_eq_true rfl) rfl kf_X11_49 rfl rfl ?_
          refine v_get 77 9 6 cx dX11_forge_74 iX4 (wXo_9 E s2) rfl (Nat.le_of_ble_eq_true rfl) rfl kf_X11_288 rfl rfl ?_
          refine v_iload_n 78 2 cx dX11_forge_77 rfl rfl rfl ?_
          refine v_iload_n 79 3 cx dX11_forge_78 rfl rfl rfl ?_
          refine v_iast 80 51 0 cx dX11_forge_79 (wXa_9_6 E s2) rfl (wXt_9_6 E s2) rfl h (fun s6 h => ?_)
          refine v_iload_n 81 0 cx dX11_forge_80 rfl rfl rfl ?_
          exact hk _ _ _ _ (Option.some.inj h) dX11_forge_81
        · refine v_aload_n 54 0 cx dX11_forge_53 rfl rfl rfl ?_
          refine v_bipush 56 cx dX11_forge_54 bp_m9 rfl ?_
          refine v_callVI 59 0 cx dX11_forge_56 km_X11_88 ca_X11_refuse (wXo_0 E s2) rfl (c_X11_refuse C.2.1 E s2 (-9) ) rfl (by decide) rfl (Nat.le_of_ble_eq_true rfl) rfl h (fun v8 s7 h => ?_)
          exact hk _ _ _ _ (Option.some.inj h) dX11_forge_59
      · refine v_aload_n 40 0 cx dX11_forge_39 rfl rfl rfl ?_
        refine v_bipush 42 cx dX11_forge_40 bp_m4 rfl ?_
        refine v_callVI 45 0 cx dX11_forge_42 km_X11_88 ca_X11_refuse (wXo_0 E s2) rfl (c_X11_refuse C.2.1 E s2 (-4) ) rfl (by decide) rfl (Nat.le_of_ble_eq_true rfl) rfl h (fun v10 s9 h => ?_)
        exact hk _ _ _ _ (Option.some.inj h) dX11_forge_45
    · refine v_aload_n 29 0 cx dX11_forge_28 rfl rfl rfl ?_
      refine v_bipush 31 cx dX11_forge_29 bp_m3 rfl ?_
      refine v_callVI 34 0 cx dX11_forge_31 km_X11_88 ca_X11_refuse (wXo_0 E s2) rfl (c_X11_refuse C.2.1 E s2 (-3) ) rfl (by decide) rfl (Nat.le_of_ble_eq_true rfl) rfl h (fun v12 s11 h => ?_)
      exact hk _ _ _ _ (Option.some.inj h) dX11_forge_34
  · refine v_aload_n 11 0 cx dX11_forge_10 rfl rfl rfl ?_
    refine v_bipush 13 cx dX11_forge_11 bp_m2 rfl ?_
    refine v_callVI 16 0 cx dX11_forge_13 km_X11_88 ca_X11_refuse (wXo_0 E st) rfl (c_X11_refuse C.2.1 E st (-2) ) rfl (by decide) rfl (Nat.le_of_ble_eq_true rfl) rfl h (fun v14 s13 h => ?_)
    exact hk _ _ _ _ (Option.some.inj h) dX11_forge_16
set_option maxHeartbeats 4000000 in
set_option maxRecDepth 100000 in
theorem c_X11_get (l : Launch) (E : Ev) (st : Sg) (p1 : Int32) (p2 : Int32) : ∀ q, m_X11_get p1 p2 st = some q → CtL l (wX E) (tyE E) yX11_get cX11_get 4 (some .long) 1 23 [.ref (oX E 0), .int p1, .int p2] st q := by
  intro q h
  refine ctL_of (lv0 := [(0, .ref (oX E 0)), (1, .int p1), (2, .int p2)]) (by decide) rfl (Nat.le_of_ble_eq_true rfl) (fun C hC cx hk => ?_)
  replace cx : Cx C (tyE E) cX11_get RX11 4 1 23 := cx
  unfold m_X11_get at h
  refine v_aload_n 1 0 cx dX11_get_0 rfl rfl rfl ?_
  refine v_get 4 0 2 cx dX11_get_1 iX11 (wXo_0 E st) rfl (Nat.le_of_ble_eq_true rfl) rfl kf_X11_26 rfl rfl ?_
  refine v_iload_n 5 1 cx dX11_get_4 rfl rfl rfl ?_
  refine v_iload_n 6 2 cx dX11_get_5 rfl rfl rfl ?_
  refine v_i2l 7 cx dX11_get_6 rfl ?_
  refine v_callVI 10 5 cx dX11_get_7 km_X11_191 ca_X6_refusalAt (wXo_5 E st) rfl (c_X6_refusalAt C.2.1 E st p1 ((p2 : Int32).toInt64) ) rfl (by decide) rfl (Nat.le_of_ble_eq_true rfl) rfl h (fun v2 s1 h => ?_)
  refine v_istore_n 11 (fun a3 => [(3, .int a3), (0, .ref (oX E 0)), (1, .int p1), (2, .int p2)]) cx dX11_get_10 rfl (by decide) (fun _ => rfl) rfl h (fun a3 h => ?_)
  refine v_iload_n 12 0 cx dX11_get_11 rfl rfl rfl ?_
  refine v_if_eq 23 15 cx dX11_get_12 (by decide) rfl h (fun h => ?_) (fun h => ?_)
  · refine v_aload_n 24 1 cx dX11_get_23 rfl rfl rfl ?_
    refine v_get 27 0 2 cx dX11_get_24 iX11 (wXo_0 E s1) rfl (Nat.le_of_ble_eq_true rfl) rfl kf_X11_26 rfl rfl ?_
    refine v_get 30 5 2 cx dX11_get_27 iX6 (wXo_5 E s1) rfl (Nat.le_of_ble_eq_true rfl) rfl kf_X11_195 rfl rfl ?_
    refine v_iload_n 31 2 cx dX11_get_30 rfl rfl rfl ?_
    refine v_iload_n 32 3 cx dX11_get_31 rfl rfl rfl ?_
    refine v_callSI 35 cx dX11_get_32 km_X11_198 ca_X6_placeOf (c_X6_placeOf C.2.1 E s1 p1 p2 ) rfl (by decide) rfl (Nat.le_of_ble_eq_true rfl) rfl h (fun v5 s4 h => ?_)
    refine v_lald 36 38 1 cx dX11_get_35 (wXa_5_2 E s4) rfl rfl h (fun v6 h => ?_)
    exact hk _ _ _ _ (Option.some.inj h) dX11_get_36
  · refine v_aload_n 16 1 cx dX11_get_15 rfl rfl rfl ?_
    refine v_iload_n 17 0 cx dX11_get_16 rfl rfl rfl ?_
    refine v_callVI 20 0 cx dX11_get_17 km_X11_88 ca_X11_refuse (wXo_0 E s1) rfl (c_X11_refuse C.2.1 E s1 a3 ) rfl (by decide) rfl (Nat.le_of_ble_eq_true rfl) rfl h (fun v8 s7 h => ?_)
    refine v_pop 21 cx dX11_get_20 rfl rfl ?_
    refine v_lconst 22 cx dX11_get_21 lc_0 rfl ?_
    exact hk _ _ _ _ (Option.some.inj h) dX11_get_22
def V_X9_load_L11 (C : Cm) (E : Ev) (x2 : Int32) (s : (Int32 × Sg)) : Prop := Vat C (wX E) 5 11 [(0, .ref (oX E 6)), (1, .ref (oX E 4)), (2, .int x2), (3, .int s.1)] [] s.2
def K_X9_load_L11 (C : Cm) (E : Ev) (x2 : Int32) : (Sg) → Prop := (fun r : (Sg) => Vat C (wX E) 5 75 [] [] r)
set_option maxHeartbeats 4000000 in
set_option maxRecDepth 100000 in
theorem b_X9_load_L11 {C : Cm} {E : Ev} (cx : Cx C (tyE E) cX9_load RX9 5 1 23) (x2 : Int32) : ∀ (s : (Int32 × Sg)) (out : (Int32 × Sg) ⊕ (Sg)), m_X9_load_L11 x2 s.1 s.2 = some out → Sum.elim (V_X9_load_L11 C E x2) (K_X9_load_L11 C E x2) out → V_X9_load_L11 C E x2 s := by
  intro s out h hk
  obtain ⟨x3, st⟩ := s
  show Vat C (wX E) 5 11 [(0, .ref (oX E 6)), (1, .ref (oX E 4)), (2, .int x2), (3, .int x3)] [] st
  replace h : m_X9_load_L11 x2 x3 st = some out := h
  unfold m_X9_load_L11 at h
  refine v_iload_n 12 3 cx dX9_load_11 rfl rfl rfl ?_
  refine v_aload_n 13 1 cx dX9_load_12 rfl rfl rfl ?_
  refine v_getI 16 4 0 cx dX9_load_13 iX1 (wXo_4 E st) rfl (Nat.le_of_ble_eq_true rfl) rfl kf_X9_25 rfl rfl h (fun v3 h => ?_)
  refine v_icmp_ge 75 19 cx dX9_load_16 (by decide) rfl h (fun h => ?_) (fun h => ?_)
  · cases h
    have hk : Vat C (wX E) 5 75 [] [] st := hk
    exact v_lsub (lv' := []) [] rfl (hk)
  · refine v_aload_n 20 1 cx dX9_load_19 rfl rfl rfl ?_
    refine v_get 23 4 1 cx dX9_load_20 iX1 (wXo_4 E st) rfl (Nat.le_of_ble_eq_true rfl) rfl kf_X9_31 rfl rfl ?_
    refine v_iload_n 24 3 cx dX9_load_23 rfl rfl rfl ?_
    refine v_iald 25 32 0 cx dX9_load_24 (wXa_4_1 E st) rfl rfl h (fun v4 h => ?_)
    refine v_bipush 27 cx dX9_load_25 bp_16 rfl ?_
    refine v_imul 28 cx dX9_load_27 rfl ?_
    refine v_aload_n 29 1 cx dX9_load_28 rfl rfl rfl ?_
    refine v_get 32 4 2 cx dX9_load_29 iX1 (wXo_4 E st) rfl (Nat.le_of_ble_eq_true rfl) rfl kf_X9_34 rfl rfl ?_
    refine v_iload_n 33 3 cx dX9_load_32 rfl rfl rfl ?_
    refine v_iald 34 33 0 cx dX9_load_33 (wXa_4_2 E st) rfl rfl h (fun v5 h => ?_)
    refine v_iadd 35 cx dX9_load_34 rfl ?_
    refine v_istore 37 (fun a6 => [(4, .int a6), (0, .ref (oX E 6)), (1, .ref (oX E 4)), (2, .int x2), (3, .int x3)]) cx dX9_load_35 (by decide) (fun _ => rfl) rfl h (fun a6 h => ?_)
    refine v_aload_n 38 1 cx dX9_load_37 rfl rfl rfl ?_
    refine v_get 41 6 0 cx dX9_load_38 iX9 (wXo_6 E st) rfl (Nat.le_of_ble_eq_true rfl) rfl kf_X9_9 rfl rfl ?_
    refine v_iload 43 0 cx dX9_load_41 rfl rfl ?_
    refine v_aload_n 44 1 cx dX9_load_43 rfl rfl rfl ?_
    refine v_get 47 6 0 cx dX9_load_44 iX9 (wXo_6 E st) rfl (Nat.le_of_ble_eq_true rfl) rfl kf_X9_9 rfl rfl ?_
    refine v_iload 49 0 cx dX9_load_47 rfl rfl ?_
    refine v_iald 50 39 0 cx dX9_load_49 (wXa_6_0 E st) rfl rfl h (fun v7 h => ?_)
    refine v_aload_n 51 2 cx dX9_load_50 rfl rfl rfl ?_
    refine v_get 54 4 3 cx dX9_load_51 iX1 (wXo_4 E st) rfl (Nat.le_of_ble_eq_true rfl) rfl kf_X9_37 rfl rfl ?_
    refine v_iload_n 55 4 cx dX9_load_54 rfl rfl rfl ?_
    refine v_iald 56 34 0 cx dX9_load_55 (wXa_4_3 E st) rfl rfl h (fun v8 h => ?_)
    refine v_iload_n 57 3 cx dX9_load_56 rfl rfl rfl ?_
    refine v_aload_n 58 2 cx dX9_load_57 rfl rfl rfl ?_
    refine v_get 61 4 4 cx dX9_load_58 iX1 (wXo_4 E st) rfl (Nat.le_of_ble_eq_true rfl) rfl kf_X9_40 rfl rfl ?_
    refine v_iload_n 62 4 cx dX9_load_61 rfl rfl rfl ?_
    refine v_iald 63 35 0 cx dX9_load_62 (wXa_4_4 E st) rfl rfl h (fun v9 h => ?_)
    refine v_imul 64 cx dX9_load_63 rfl ?_
    refine v_isub 65 cx dX9_load_64 rfl ?_
    refine v_mmax 68 cx dX9_load_65 km_X9_43 kmax_s kmax_i kmax_c (by decide) (Nat.le_of_ble_eq_true rfl) rfl ?_
    refine v_iast 69 39 0 cx dX9_load_68 (wXa_6_0 E st) rfl (wXt_6_0 E st) rfl h (fun s10 h => ?_)
    refine v_iinc 72 4 (fun a11 => [(3, .int a11), (4, .int a6), (0, .ref (oX E 6)), (1, .ref (oX E 4)), (2, .int x2)]) cx dX9_load_69 rfl ic_1 (by decide) (fun _ => rfl) rfl h (fun a11 h => ?_)
    refine v_goto 11 cx dX9_load_72 (by decide) ?_
    cases h
    have hk : Vat C (wX E) 5 11 [(0, .ref (oX E 6)), (1, .ref (oX E 4)), (2, .int x2), (3, .int a11)] [] s10 := hk
    exact v_lsub (lv' := [(0, .ref (oX E 6)), (1, .ref (oX E 4)), (2, .int x2), (3, .int a11)]) [2, 3, 4, 0] rfl (hk)
set_option maxHeartbeats 4000000 in
set_option maxRecDepth 100000 in
theorem c_X9_load (l : Launch) (E : Ev) (st : Sg) (p2 : Int32) : ∀ q, m_X9_load p2 st = some q → CtV l (wX E) (tyE E) yX9_load cX9_load 5 none 1 23 [.ref (oX E 6), .ref (oX E 4), .int p2] st q := by
  intro q h
  refine ctV_of (lv0 := [(0, .ref (oX E 6)), (1, .ref (oX E 4)), (2, .int p2)]) (by decide) rfl (Nat.le_of_ble_eq_true rfl) (fun C hC cx hk => ?_)
  replace cx : Cx C (tyE E) cX9_load RX9 5 1 23 := cx
  unfold m_X9_load at h
  refine v_aload_n 1 0 cx dX9_load_0 rfl rfl rfl ?_
  refine v_get 4 6 0 cx dX9_load_1 iX9 (wXo_6 E st) rfl (Nat.le_of_ble_eq_true rfl) rfl kf_X9_9 rfl rfl ?_
  refine v_ldc 6 cx dX9_load_4 kc_X9_18 rfl ?_
  refine v_callSV 9 cx dX9_load_6 km_X9_19 ca_J7_fill_53178 (c_J7_fill_53178_6_0 C.2.1 E st (-1000000) ) rfl (by decide) rfl (Nat.le_of_ble_eq_true rfl) rfl h (fun _ s1 h => ?_)
  refine v_iconst 10 cx dX9_load_9 ic_0 rfl ?_
  refine v_istore_n 11 (fun a2 => [(3, .int a2), (0, .ref (oX E 6)), (1, .ref (oX E 4)), (2, .int p2)]) cx dX9_load_10 rfl (by decide) (fun _ => rfl) rfl h (fun a2 h => ?_)
  refine v_lsub (lv' := [(0, .ref (oX E 6)), (1, .ref (oX E 4)), (2, .int p2), (3, .int a2)]) [1, 2, 3, 0] rfl ?_
  refine v_loop (s0 := (a2, s1)) (V_X9_load_L11 C E p2) (K_X9_load_L11 C E p2) h (b_X9_load_L11 cx p2) (fun r12 h => ?_)
  show Vat C (wX E) 5 75 [] [] r12
  exact hk _ _ _ _ (Option.some.inj h) dX9_load_75
