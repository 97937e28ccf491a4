-- machine layer (written by gen.py)
def V_X4_settle_L32 (C : Cm) (E : Ev) (s : (Int32 × Sg)) : Prop := Vat C (wX E) 5 32 [(0, .ref (oX E 9)), (1, .ref (oX E 1)), (2, .ref (oX E 7)), (3, .ref (oX E 6)), (4, .int s.1)] [] s.2
def K_X4_settle_L32 (C : Cm) (E : Ev) : (Sg) → Prop := (fun r : (Sg) => Vat C (wX E) 5 158 [(0, .ref (oX E 9)), (1, .ref (oX E 1)), (3, .ref (oX E 6))] [] r)
set_option maxHeartbeats 4000000 in
set_option maxRecDepth 100000 in
theorem b_X4_settle_L32 {C : Cm} {E : Ev} (cx : Cx C (tyE E) cX4_settle RX4 5 3 61) : ∀ (s : (Int32 × Sg)) (out : (Int32 × Sg) ⊕ (Sg)), m_X4_settle_L32 s.1 s.2 = some out → Sum.elim (V_X4_settle_L32 C E) (K_X4_settle_L32 C E) out → V_X4_settle_L32 C E s := by
  intro s out h hk
  obtain ⟨x4, st⟩ := s
  show Vat C (wX E) 5 32 [(0, .ref (oX E 9)), (1, .ref (oX E 1)), (2, .ref (oX E 7)), (3, .ref (oX E 6)), (4, .int x4)] [] st
  replace h : m_X4_settle_L32 x4 st = some out := h
  unfold m_X4_settle_L32 at h
  refine v_iload 34 4 cx dX4_settle_32 rfl rfl ?_
  refine v_aload_n 35 1 cx dX4_settle_34 rfl rfl rfl ?_
  refine v_getI 38 1 0 cx dX4_settle_35 iX0 (wXo_1 E st) rfl (Nat.le_of_ble_eq_true rfl) rfl kf_X4_68 rfl rfl h (fun v8 h => ?_)
  refine v_icmp_ge 158 41 cx dX4_settle_38 (by decide) rfl h (fun h => ?_) (fun h => ?_)
  · cases h
    have hk : Vat C (wX E) 5 158 [(0, .ref (oX E 9)), (1, .ref (oX E 1)), (3, .ref (oX E 6))] [] st := hk
    exact v_lsub (lv' := [(0, .ref (oX E 9)), (1, .ref (oX E 1)), (3, .ref (oX E 6))]) [0, 1, 3] rfl (hk)
  · refine v_aload_n 42 0 cx dX4_settle_41 rfl rfl rfl ?_
    refine v_get 45 9 3 cx dX4_settle_42 iX4 (wXo_9 E st) rfl (Nat.le_of_ble_eq_true rfl) rfl kf_X4_22 rfl rfl ?_
    refine v_iload 47 4 cx dX4_settle_45 rfl rfl ?_
    refine v_aload_n 48 2 cx dX4_settle_47 rfl rfl rfl ?_
    refine v_get 51 7 9 cx dX4_settle_48 iX8 (wXo_7 E st) rfl (Nat.le_of_ble_eq_true rfl) rfl kf_X4_73 rfl rfl ?_
    refine v_iload 53 4 cx dX4_settle_51 rfl rfl ?_
    refine v_iald 54 46 0 cx dX4_settle_53 (wXa_7_9 E st) rfl rfl h (fun v9 h => ?_)
    refine v_iast 55 48 0 cx dX4_settle_54 (wXa_9_3 E st) rfl (wXt_9_3 E st) rfl h (fun s10 h => ?_)
    refine v_aload_n 56 0 cx dX4_settle_55 rfl rfl rfl ?_
    refine v_get 59 9 4 cx dX4_settle_56 iX4 (wXo_9 E s10) rfl (Nat.le_of_ble_eq_true rfl) rfl kf_X4_26 rfl rfl ?_
    refine v_iload 61 4 cx dX4_settle_59 rfl rfl ?_
    refine v_aload_n 62 2 cx dX4_settle_61 rfl rfl rfl ?_
    refine v_iload 64 4 cx dX4_settle_62 rfl rfl ?_
    refine v_callVI 67 7 cx dX4_settle_64 km_X4_74 ca_X8_stageOf (wXo_7 E s10) rfl (c_X8_stageOf C.2.1 E s10 x4 ) rfl (by decide) rfl (Nat.le_of_ble_eq_true rfl) rfl h (fun v12 s11 h => ?_)
    refine v_iast 68 49 0 cx dX4_settle_67 (wXa_9_4 E s11) rfl (wXt_9_4 E s11) rfl h (fun s13 h => ?_)
    refine v_aload_n 69 0 cx dX4_settle_68 rfl rfl rfl ?_
    refine v_get 72 9 5 cx dX4_settle_69 iX4 (wXo_9 E s13) rfl (Nat.le_of_ble_eq_true rfl) rfl kf_X4_29 rfl rfl ?_
    refine v_iload 74 4 cx dX4_settle_72 rfl rfl ?_
    refine v_aload_n 75 0 cx dX4_settle_74 rfl rfl rfl ?_
    refine v_get 78 9 4 cx dX4_settle_75 iX4 (wXo_9 E s13) rfl (Nat.le_of_ble_eq_true rfl) rfl kf_X4_26 rfl rfl ?_
    refine v_iload 80 4 cx dX4_settle_78 rfl rfl ?_
    refine v_iald 81 49 0 cx dX4_settle_80 (wXa_9_4 E s13) rfl rfl h (fun v14 h => ?_)
    refine v_aload_n 82 0 cx dX4_settle_81 rfl rfl rfl ?_
    refine v_getI 85 9 1 cx dX4_settle_82 iX4 (wXo_9 E s13) rfl (Nat.le_of_ble_eq_true rfl) rfl kf_X4_15 rfl rfl h (fun v15 h => ?_)
    refine v_imul 86 cx dX4_settle_85 rfl ?_
    refine v_aload_n 87 0 cx dX4_settle_86 rfl rfl rfl ?_
    refine v_get 90 9 3 cx dX4_settle_87 iX4 (wXo_9 E s13) rfl (Nat.le_of_ble_eq_true rfl) rfl kf_X4_22 rfl rfl ?_
    refine v_iload 92 4 cx dX4_settle_90 rfl rfl ?_
    refine v_iald 93 48 0 cx dX4_settle_92 (wXa_9_3 E s13) rfl rfl h (fun v16 h => ?_)
    refine v_iadd 94 cx dX4_settle_93 rfl ?_
    refine v_iast 95 50 0 cx dX4_settle_94 (wXa_9_5 E s13) rfl (wXt_9_5 E s13) rfl h (fun s17 h => ?_)
    refine v_aload_n 96 0 cx dX4_settle_95 rfl rfl rfl ?_
    refine v_get 99 9 6 cx dX4_settle_96 iX4 (wXo_9 E s17) rfl (Nat.le_of_ble_eq_true rfl) rfl kf_X4_32 rfl rfl ?_
    refine v_iload 101 4 cx dX4_settle_99 rfl rfl ?_
    refine v_aload_n 102 0 cx dX4_settle_101 rfl rfl rfl ?_
    refine v_get 105 9 5 cx dX4_settle_102 iX4 (wXo_9 E s17) rfl (Nat.le_of_ble_eq_true rfl) rfl kf_X4_29 rfl rfl ?_
    refine v_iload 107 4 cx dX4_settle_105 rfl rfl ?_
    refine v_iald 108 50 0 cx dX4_settle_107 (wXa_9_5 E s17) rfl rfl h (fun v18 h => ?_)
    refine v_iast 109 51 0 cx dX4_settle_108 (wXa_9_6 E s17) rfl (wXt_9_6 E s17) rfl h (fun s19 h => ?_)
    refine v_aload_n 110 0 cx dX4_settle_109 rfl rfl rfl ?_
    refine v_aload_n 111 0 cx dX4_settle_110 rfl rfl rfl ?_
    refine v_getI 114 9 2 cx dX4_settle_111 iX4 (wXo_9 E s19) rfl (Nat.le_of_ble_eq_true rfl) rfl kf_X4_19 rfl rfl h (fun v20 h => ?_)
    refine v_iconst 115 cx dX4_settle_114 ic_1 rfl ?_
    refine v_aload_n 116 0 cx dX4_settle_115 rfl rfl rfl ?_
    refine v_get 119 9 4 cx dX4_settle_116 iX4 (wXo_9 E s19) rfl (Nat.le_of_ble_eq_true rfl) rfl kf_X4_26 rfl rfl ?_
    refine v_iload 121 4 cx dX4_settle_119 rfl rfl ?_
    refine v_iald 122 49 0 cx dX4_settle_121 (wXa_9_4 E s19) rfl rfl h (fun v21 h => ?_)
    refine v_iadd 123 cx dX4_settle_122 rfl ?_
    refine v_mmax 126 cx dX4_settle_123 km_X4_59 kmax_s kmax_i kmax_c (by decide) (Nat.le_of_ble_eq_true rfl) rfl ?_
    refine v_putI 129 9 2 cx dX4_settle_126 iX4 tyX4_ok nmX4 (wXo_9 E s19) rfl (Nat.le_of_ble_eq_true rfl) rfl kf_X4_19 rfl rfl rfl rfl (Nat.le_of_ble_eq_true rfl) (wXs_9_2 E s19 _) rfl h (fun s22 h => ?_)
    refine v_aload_n 130 0 cx dX4_settle_129 rfl rfl rfl ?_
    refine v_get 133 9 11 cx dX4_settle_130 iX4 (wXo_9 E s22) rfl (Nat.le_of_ble_eq_true rfl) rfl kf_X4_50 rfl rfl ?_
    refine v_aload_n 134 1 cx dX4_settle_133 rfl rfl rfl ?_
    refine v_iload 136 4 cx dX4_settle_134 rfl rfl ?_
    refine v_aload_n 137 0 cx dX4_settle_136 rfl rfl rfl ?_
    refine v_get 140 9 3 cx dX4_settle_137 iX4 (wXo_9 E s22) rfl (Nat.le_of_ble_eq_true rfl) rfl kf_X4_22 rfl rfl ?_
    refine v_iload 142 4 cx dX4_settle_140 rfl rfl ?_
    refine v_iald 143 48 0 cx dX4_settle_142 (wXa_9_3 E s22) rfl rfl h (fun v23 h => ?_)
    refine v_aload_n 144 0 cx dX4_settle_143 rfl rfl rfl ?_
    refine v_getI 147 9 1 cx dX4_settle_144 iX4 (wXo_9 E s22) rfl (Nat.le_of_ble_eq_true rfl) rfl kf_X4_15 rfl rfl h (fun v24 h => ?_)
    refine v_iconst 148 cx dX4_settle_147 ic_1 rfl ?_
    refine v_callVI 151 10 cx dX4_settle_148 km_X4_78 ca_X2_change (wXo_10 E s22) rfl (c_X2_change_10 C.2.1 E s22 x4 v23 v24 1 ) rfl (by decide) rfl (Nat.le_of_ble_eq_true rfl) rfl h (fun v26 s25 h => ?_)
    refine v_pop 152 cx dX4_settle_151 rfl rfl ?_
    refine v_iinc 155 4 (fun a27 => [(4, .int a27), (0, .ref (oX E 9)), (1, .ref (oX E 1)), (2, .ref (oX E 7)), (3, .ref (oX E 6))]) cx dX4_settle_152 rfl ic_1 (by decide) (fun _ => rfl) rfl h (fun a27 h => ?_)
    refine v_goto 32 cx dX4_settle_155 (by decide) ?_
    cases h
    have hk : Vat C (wX E) 5 32 [(0, .ref (oX E 9)), (1, .ref (oX E 1)), (2, .ref (oX E 7)), (3, .ref (oX E 6)), (4, .int a27)] [] s25 := hk
    exact v_lsub (lv' := [(0, .ref (oX E 9)), (1, .ref (oX E 1)), (2, .ref (oX E 7)), (3, .ref (oX E 6)), (4, .int a27)]) [1, 2, 3, 4, 0] rfl (hk)
set_option maxHeartbeats 4000000 in
set_option maxRecDepth 100000 in
theorem c_X4_settle (l : Launch) (E : Ev) (st : Sg) : ∀ q, m_X4_settle st = some q → CtV l (wX E) (tyE E) yX4_settle cX4_settle 5 none 3 61 [.ref (oX E 9), .ref (oX E 1), .ref (oX E 7), .ref (oX E 6)] st q := by
  intro q h
  refine ctV_of (lv0 := [(0, .ref (oX E 9)), (1, .ref (oX E 1)), (2, .ref (oX E 7)), (3, .ref (oX E 6))]) (by decide) rfl (Nat.le_of_ble_eq_true rfl) (fun C hC cx hk => ?_)
  replace cx : Cx C (tyE E) cX4_settle RX4 5 3 61 := cx
  unfold m_X4_settle at h
  refine v_aload_n 1 0 cx dX4_settle_0 rfl rfl rfl ?_
  refine v_iconst 2 cx dX4_settle_1 ic_1 rfl ?_
  refine v_putI 5 9 0 cx dX4_settle_2 iX4 tyX4_ok nmX4 (wXo_9 E st) rfl (Nat.le_of_ble_eq_true rfl) rfl kf_X4_9 rfl rfl rfl rfl (Nat.le_of_ble_eq_true rfl) (wXs_9_0 E st _) rfl h (fun s1 h => ?_)
  refine v_aload_n 6 0 cx dX4_settle_5 rfl rfl rfl ?_
  refine v_iconst 7 cx dX4_settle_6 ic_1 rfl ?_
  refine v_aload_n 8 2 cx dX4_settle_7 rfl rfl rfl ?_
  refine v_callVI 11 7 cx dX4_settle_8 km_X4_54 ca_X8_beat (wXo_7 E s1) rfl (c_X8_beat C.2.1 E s1 ) rfl (by decide) rfl (Nat.le_of_ble_eq_true rfl) rfl h (fun v3 s2 h => ?_)
  refine v_mmax 14 cx dX4_settle_11 km_X4_59 kmax_s kmax_i kmax_c (by decide) (Nat.le_of_ble_eq_true rfl) rfl ?_
  refine v_putI 17 9 1 cx dX4_settle_14 iX4 tyX4_ok nmX4 (wXo_9 E s2) rfl (Nat.le_of_ble_eq_true rfl) rfl kf_X4_15 rfl rfl rfl rfl (Nat.le_of_ble_eq_true rfl) (wXs_9_1 E s2 _) rfl h (fun s4 h => ?_)
  refine v_aload_n 18 0 cx dX4_settle_17 rfl rfl rfl ?_
  refine v_iconst 19 cx dX4_settle_18 ic_1 rfl ?_
  refine v_putI 22 9 2 cx dX4_settle_19 iX4 tyX4_ok nmX4 (wXo_9 E s4) rfl (Nat.le_of_ble_eq_true rfl) rfl kf_X4_19 rfl rfl rfl rfl (Nat.le_of_ble_eq_true rfl) (wXs_9_2 E s4 _) rfl h (fun s5 h => ?_)
  refine v_aload_n 23 0 cx dX4_settle_22 rfl rfl rfl ?_
  refine v_get 26 9 11 cx dX4_settle_23 iX4 (wXo_9 E s5) rfl (Nat.le_of_ble_eq_true rfl) rfl kf_X4_50 rfl rfl ?_
  refine v_callVV 29 10 cx dX4_settle_26 km_X4_65 ca_X2_clear (wXo_10 E s5) rfl (c_X2_clear_10 C.2.1 E s5 ) rfl (by decide) rfl (Nat.le_of_ble_eq_true rfl) rfl h (fun _ s6 h => ?_)
  refine v_iconst 30 cx dX4_settle_29 ic_0 rfl ?_
  refine v_istore 32 (fun a7 => [(4, .int a7), (0, .ref (oX E 9)), (1, .ref (oX E 1)), (2, .ref (oX E 7)), (3, .ref (oX E 6))]) cx dX4_settle_30 (by decide) (fun _ => rfl) rfl h (fun a7 h => ?_)
  refine v_lsub (lv' := [(0, .ref (oX E 9)), (1, .ref (oX E 1)), (2, .ref (oX E 7)), (3, .ref (oX E 6)), (4, .int a7)]) [1, 2, 3, 4, 0] rfl ?_
  refine v_loop (s0 := (a7, s6)) (V_X4_settle_L32 C E) (K_X4_settle_L32 C E) h (b_X4_settle_L32 cx) (fun r28 h => ?_)
  show Vat C (wX E) 5 158 [(0, .ref (oX E 9)), (1, .ref (oX E 1)), (3, .ref (oX E 6))] [] r28
  refine v_aload_n 159 0 cx dX4_settle_158 rfl rfl rfl ?_
  refine v_aload_n 160 1 cx dX4_settle_159 rfl rfl rfl ?_
  refine v_getI 163 1 0 cx dX4_settle_160 iX0 (wXo_1 E r28) rfl (Nat.le_of_ble_eq_true rfl) rfl kf_X4_68 rfl rfl h (fun v29 h => ?_)
  refine v_aload_n 164 2 cx dX4_settle_163 rfl rfl rfl ?_
  refine v_callVV 167 9 cx dX4_settle_164 km_X4_82 ca_X4_settleBounds (wXo_9 E r28) rfl (c_X4_settleBounds C.2.1 E r28 v29 ) rfl (by decide) rfl (Nat.le_of_ble_eq_true rfl) rfl h (fun _ s30 h => ?_)
  refine v_aload_n 168 0 cx dX4_settle_167 rfl rfl rfl ?_
  refine v_aload_n 169 1 cx dX4_settle_168 rfl rfl rfl ?_
  refine v_callVV 172 9 cx dX4_settle_169 km_X4_86 ca_X4_settlePlaces (wXo_9 E s30) rfl (c_X4_settlePlaces C.2.1 E s30 ) rfl (by decide) rfl (Nat.le_of_ble_eq_true rfl) rfl h (fun _ s31 h => ?_)
  refine v_aload_n 173 0 cx dX4_settle_172 rfl rfl rfl ?_
  refine v_aload_n 174 1 cx dX4_settle_173 rfl rfl rfl ?_
  refine v_getI 177 1 0 cx dX4_settle_174 iX0 (wXo_1 E s31) rfl (Nat.le_of_ble_eq_true rfl) rfl kf_X4_68 rfl rfl h (fun v32 h => ?_)
  refine v_callVV 180 9 cx dX4_settle_177 km_X4_90 ca_X4_settleOrder (wXo_9 E s31) rfl (c_X4_settleOrder C.2.1 E s31 v32 ) rfl (by decide) rfl (Nat.le_of_ble_eq_true rfl) rfl h (fun _ s33 h => ?_)
  exact hk _ _ _ _ (Option.some.inj h) dX4_settle_180
def V_X11_lay_L25 (C : Cm) (E : Ev) (s : (Int32 × Sg)) : Prop := Vat C (wX E) 4 25 [(0, .ref (oX E 0)), (2, .int s.1)] [] s.2
def K_X11_lay_L25 (C : Cm) (E : Ev) : ((Sg) ⊕ ((Sg) ⊕ (Int32 × Sg))) → Prop := (Sum.elim (fun r : (Sg) => Vat C (wX E) 4 95 [(0, .ref (oX E 0))] [] r) (Sum.elim (fun r : (Sg) => Vat C (wX E) 4 42 [(0, .ref (oX E 0))] [] r) (fun r : (Int32 × Sg) => Vat C (wX E) 4 53 [(0, .ref (oX E 0)), (2, .int r.1)] [] r.2)))
set_option maxHeartbeats 4000000 in
set_option maxRecDepth 100000 in
theorem b_X11_lay_L25 {C : Cm} {E : Ev} (cx : Cx C (tyE E) cX11_lay RX11 4 6 134) : ∀ (s : (Int32 × Sg)) (out : (Int32 × Sg) ⊕ ((Sg) ⊕ ((Sg) ⊕ (Int32 × Sg)))), m_X11_lay_L25 s.1 s.2 = some out → Sum.elim (V_X11_lay_L25 C E) (K_X11_lay_L25 C E) out → V_X11_lay_L25 C E s := by
  intro s out h hk
  obtain ⟨x2, st⟩ := s
  show Vat C (wX E) 4 25 [(0, .ref (oX E 0)), (2, .int x2)] [] st
  replace h : m_X11_lay_L25 x2 st = some out := h
  unfold m_X11_lay_L25 at h
  refine v_iload_n 26 1 cx dX11_lay_25 rfl rfl rfl ?_
  refine v_bipush 28 cx dX11_lay_26 bp_60 rfl ?_
  refine v_icmp_gt 95 31 cx dX11_lay_28 (by decide) rfl h (fun h => ?_) (fun h => ?_)
  · cases h
    have hk : Vat C (wX E) 4 95 [(0, .ref (oX E 0))] [] st := hk
    exact v_lsub (lv' := [(0, .ref (oX E 0))]) [0] rfl (hk)
  · refine v_aload_n 32 0 cx dX11_lay_31 rfl rfl rfl ?_
    refine v_iload_n 33 1 cx dX11_lay_32 rfl rfl rfl ?_
    refine v_callVI 36 0 cx dX11_lay_33 km_X11_223 ca_X11_seekAt (wXo_0 E st) rfl (c_X11_seekAt C.2.1 E st x2 ) rfl (by decide) rfl (Nat.le_of_ble_eq_true rfl) rfl h (fun v7 s6 h => ?_)
    refine v_istore_n 37 (fun a8 => [(3, .int a8), (0, .ref (oX E 0)), (2, .int x2)]) cx dX11_lay_36 rfl (by decide) (fun _ => rfl) rfl h (fun a8 h => ?_)
    refine v_iload_n 38 0 cx dX11_lay_37 rfl rfl rfl ?_
    refine v_iconst 39 cx dX11_lay_38 ic_4 rfl ?_
    refine v_icmp_ne 49 42 cx dX11_lay_39 (by decide) rfl h (fun h => ?_) (fun h => ?_)
    · refine v_iload_n 50 0 cx dX11_lay_49 rfl rfl rfl ?_
      refine v_if_ne 89 53 cx dX11_lay_50 (by decide) rfl h (fun h => ?_) (fun h => ?_)
      · refine v_iinc 92 2 (fun a9 => [(2, .int a9), (3, .int a8), (0, .ref (oX E 0))]) cx dX11_lay_89 rfl ic_1 (by decide) (fun _ => rfl) rfl h (fun a9 h => ?_)
        refine v_goto 25 cx dX11_lay_92 (by decide) ?_
        cases h
        have hk : Vat C (wX E) 4 25 [(0, .ref (oX E 0)), (2, .int a9)] [] s6 := hk
        exact v_lsub (lv' := [(0, .ref (oX E 0)), (2, .int a9)]) [2, 0] rfl (hk)
      · cases h
        have hk : Vat C (wX E) 4 53 [(0, .ref (oX E 0)), (2, .int x2)] [] s6 := hk
        exact v_lsub (lv' := [(0, .ref (oX E 0)), (2, .int x2)]) [1, 2] rfl (hk)
    · cases h
      have hk : Vat C (wX E) 4 42 [(0, .ref (oX E 0))] [] s6 := hk
      exact v_lsub (lv' := [(0, .ref (oX E 0))]) [1] rfl (hk)
set_option maxHeartbeats 4000000 in
set_option maxRecDepth 100000 in
theorem c_X11_lay (l : Launch) (E : Ev) (st : Sg) : ∀ q, m_X11_lay st = some q → CtI l (wX E) (tyE E) yX11_lay cX11_lay 4 (some .int) 6 134 [.ref (oX E 0)] st q := by
  intro q h
  refine ctI_of (lv0 := [(0, .ref (oX E 0))]) (by decide) rfl (Nat.le_of_ble_eq_true rfl) (fun C hC cx hk => ?_)
  replace cx : Cx C (tyE E) cX11_lay RX11 4 6 134 := cx
  unfold m_X11_lay at h
  refine v_aload_n 1 0 cx dX11_lay_0 rfl rfl rfl ?_
  refine v_get 4 0 4 cx dX11_lay_1 iX11 (wXo_0 E st) rfl (Nat.le_of_ble_eq_true rfl) rfl kf_X11_42 rfl rfl ?_
  refine v_iconst 5 cx dX11_lay_4 ic_0 rfl ?_
  refine v_putI 8 7 10 cx dX11_lay_5 iX8 tyX8_ok nmX8 (wXo_7 E st) rfl (Nat.le_of_ble_eq_true rfl) rfl kf_X11_220 rfl rfl rfl rfl (Nat.le_of_ble_eq_true rfl) (wXs_7_10 E st _) rfl h (fun s1 h => ?_)
  refine v_aload_n 9 0 cx dX11_lay_8 rfl rfl rfl ?_
  refine v_callVI 12 0 cx dX11_lay_9 km_X11_217 ca_X11_lowestBeat (wXo_0 E s1) rfl (c_X11_lowestBeat C.2.1 E s1 ) rfl (by decide) rfl (Nat.le_of_ble_eq_true rfl) rfl h (fun v3 s2 h => ?_)
  refine v_istore_n 13 (fun a4 => [(1, .int a4), (0, .ref (oX E 0))]) cx dX11_lay_12 rfl (by decide) (fun _ => rfl) rfl h (fun a4 h => ?_)
  refine v_iload_n 14 0 cx dX11_lay_13 rfl rfl rfl ?_
  refine v_if_ge 23 17 cx dX11_lay_14 (by decide) rfl h (fun h => ?_) (fun h => ?_)
  · refine v_iload_n 24 0 cx dX11_lay_23 rfl rfl rfl ?_
    refine v_istore_n 25 (fun a5 => [(2, .int a5), (1, .int a4), (0, .ref (oX E 0))]) cx dX11_lay_24 rfl (by decide) (fun _ => rfl) rfl h (fun a5 h => ?_)
    refine v_lsub (lv' := [(0, .ref (oX E 0)), (2, .int a5)]) [2, 0] rfl ?_
    refine v_loop (s0 := (a5, s2)) (V_X11_lay_L25 C E) (K_X11_lay_L25 C E) h (b_X11_lay_L25 cx) (fun r10 h => ?_)
    rcases r10 with r10 | r10
    · rw [Sum.elim_inl] at h
      show Vat C (wX E) 4 95 [(0, .ref (oX E 0))] [] r10
      refine v_aload_n 96 0 cx dX11_lay_95 rfl rfl rfl ?_
      refine v_bipush 98 cx dX11_lay_96 bp_m9 rfl ?_
      refine v_callVI 101 0 cx dX11_lay_98 km_X11_88 ca_X11_refuse (wXo_0 E r10) rfl (c_X11_refuse C.2.1 E r10 (-9) ) rfl (by decide) rfl (Nat.le_of_ble_eq_true rfl) rfl h (fun v12 s11 h => ?_)
      exact hk _ _ _ _ (Option.some.inj h) dX11_lay_101
    · rw [Sum.elim_inr] at h
      rcases r10 with r10 | r10
      · rw [Sum.elim_inl] at h
        show Vat C (wX E) 4 42 [(0, .ref (oX E 0))] [] r10
        refine v_aload_n 43 0 cx dX11_lay_42 rfl rfl rfl ?_
        refine v_bipush 45 cx dX11_lay_43 bp_m11 rfl ?_
        refine v_callVI 48 0 cx dX11_lay_45 km_X11_88 ca_X11_refuse (wXo_0 E r10) rfl (c_X11_refuse C.2.1 E r10 (-11) ) rfl (by decide) rfl (Nat.le_of_ble_eq_true rfl) rfl h (fun v14 s13 h => ?_)
        exact hk _ _ _ _ (Option.some.inj h) dX11_lay_48
      · rw [Sum.elim_inr] at h
        show Vat C (wX E) 4 53 [(0, .ref (oX E 0)), (2, .int r10.1)] [] r10.2
        refine v_aload_n 54 0 cx dX11_lay_53 rfl rfl rfl ?_
        refine v_get 57 0 3 cx dX11_lay_54 iX11 (wXo_0 E r10.2) rfl (Nat.le_of_ble_eq_true rfl) rfl kf_X11_33 rfl rfl ?_
        refine v_aload_n 58 0 cx dX11_lay_57 rfl rfl rfl ?_
        refine v_get 61 0 0 cx dX11_lay_58 iX11 (wXo_0 E r10.2) rfl (Nat.le_of_ble_eq_true rfl) rfl kf_X11_10 rfl rfl ?_
        refine v_getI 64 1 0 cx dX11_lay_61 iX0 (wXo_1 E r10.2) rfl (Nat.le_of_ble_eq_true rfl) rfl kf_X11_149 rfl rfl h (fun v15 h => ?_)
        refine v_callVI 67 6 cx dX11_lay_64 km_X11_226 ca_X9_join (wXo_6 E r10.2) rfl (c_X9_join C.2.1 E r10.2 v15 ) rfl (by decide) rfl (Nat.le_of_ble_eq_true rfl) rfl h (fun v17 s16 h => ?_)
        refine v_pop 68 cx dX11_lay_67 rfl rfl ?_
        refine v_aload_n 69 0 cx dX11_lay_68 rfl rfl rfl ?_
        refine v_get 72 0 5 cx dX11_lay_69 iX11 (wXo_0 E s16) rfl (Nat.le_of_ble_eq_true rfl) rfl kf_X11_49 rfl rfl ?_
        refine v_aload_n 73 0 cx dX11_lay_72 rfl rfl rfl ?_
        refine v_get 76 0 0 cx dX11_lay_73 iX11 (wXo_0 E s16) rfl (Nat.le_of_ble_eq_true rfl) rfl kf_X11_10 rfl rfl ?_
        refine v_aload_n 77 0 cx dX11_lay_76 rfl rfl rfl ?_
        refine v_get 80 0 4 cx dX11_lay_77 iX11 (wXo_0 E s16) rfl (Nat.le_of_ble_eq_true rfl) rfl kf_X11_42 rfl rfl ?_
        refine v_aload_n 81 0 cx dX11_lay_80 rfl rfl rfl ?_
        refine v_get 84 0 3 cx dX11_lay_81 iX11 (wXo_0 E s16) rfl (Nat.le_of_ble_eq_true rfl) rfl kf_X11_33 rfl rfl ?_
        refine v_callVV 87 9 cx dX11_lay_84 km_X11_228 ca_X4_settle (wXo_9 E s16) rfl (c_X4_settle C.2.1 E s16 ) rfl (by decide) rfl (Nat.le_of_ble_eq_true rfl) rfl h (fun _ s18 h => ?_)
        refine v_iload_n 88 1 cx dX11_lay_87 rfl rfl rfl ?_
        exact hk _ _ _ _ (Option.some.inj h) dX11_lay_88
  · refine v_aload_n 18 1 cx dX11_lay_17 rfl rfl rfl ?_
    refine v_iload_n 19 0 cx dX11_lay_18 rfl rfl rfl ?_
    refine v_callVI 22 0 cx dX11_lay_19 km_X11_88 ca_X11_refuse (wXo_0 E s2) rfl (c_X11_refuse C.2.1 E s2 a4 ) rfl (by decide) rfl (Nat.le_of_ble_eq_true rfl) rfl h (fun v20 s19 h => ?_)
    exact hk _ _ _ _ (Option.some.inj h) dX11_lay_22
def V_X4_lastEnd_L4 (C : Cm) (E : Ev) (s : (Int32 × Int32 × Sg)) : Prop := Vat C (wX E) 4 4 [(0, .ref (oX E 9)), (1, .ref (oX E 1)), (2, .int s.1), (3, .int s.2.1)] [] s.2.2
def K_X4_lastEnd_L4 (C : Cm) (E : Ev) : (Int32 × Sg) → Prop := (fun r : (Int32 × Sg) => Vat C (wX E) 4 36 [(2, .int r.1)] [] r.2)
set_option maxHeartbeats 4000000 in
set_option maxRecDepth 100000 in
theorem b_X4_lastEnd_L4 {C : Cm} {E : Ev} (cx : Cx C (tyE E) cX4_lastEnd RX4 4 1 13) : ∀ (s : (Int32 × Int32 × Sg)) (out : (Int32 × Int32 × Sg) ⊕ (Int32 × Sg)), m_X4_lastEnd_L4 s.1 s.2.1 s.2.2 = some out → Sum.elim (V_X4_lastEnd_L4 C E) (K_X4_lastEnd_L4 C E) out → V_X4_lastEnd_L4 C E s := by
  intro s out h hk
  obtain ⟨x2, x3, st⟩ := s
  show Vat C (wX E) 4 4 [(0, .ref (oX E 9)), (1, .ref (oX E 1)), (2, .int x2), (3, .int x3)] [] st
  replace h : m_X4_lastEnd_L4 x2 x3 st = some out := h
  unfold m_X4_lastEnd_L4 at h
  refine v_iload_n 5 3 cx dX4_lastEnd_4 rfl rfl rfl ?_
  refine v_aload_n 6 1 cx dX4_lastEnd_5 rfl rfl rfl ?_
  refine v_getI 9 1 0 cx dX4_lastEnd_6 iX0 (wXo_1 E st) rfl (Nat.le_of_ble_eq_true rfl) rfl kf_X4_68 rfl rfl h (fun v3 h => ?_)
  refine v_icmp_ge 36 12 cx dX4_lastEnd_9 (by decide) rfl h (fun h => ?_) (fun h => ?_)
  · cases h
    have hk : Vat C (wX E) 4 36 [(2, .int x2)] [] st := hk
    exact v_lsub (lv' := [(2, .int x2)]) [2] rfl (hk)
  · refine v_iload_n 13 2 cx dX4_lastEnd_12 rfl rfl rfl ?_
    refine v_aload_n 14 0 cx dX4_lastEnd_13 rfl rfl rfl ?_
    refine v_get 17 9 5 cx dX4_lastEnd_14 iX4 (wXo_9 E st) rfl (Nat.le_of_ble_eq_true rfl) rfl kf_X4_29 rfl rfl ?_
    refine v_iload_n 18 3 cx dX4_lastEnd_17 rfl rfl rfl ?_
    refine v_iald 19 50 0 cx dX4_lastEnd_18 (wXa_9_5 E st) rfl rfl h (fun v4 h => ?_)
    refine v_aload_n 20 1 cx dX4_lastEnd_19 rfl rfl rfl ?_
    refine v_get 23 1 2 cx dX4_lastEnd_20 iX0 (wXo_1 E st) rfl (Nat.le_of_ble_eq_true rfl) rfl kf_X4_118 rfl rfl ?_
    refine v_iload_n 24 3 cx dX4_lastEnd_23 rfl rfl rfl ?_
    refine v_iald 25 19 0 cx dX4_lastEnd_24 (wXa_1_2 E st) rfl rfl h (fun v5 h => ?_)
    refine v_iadd 26 cx dX4_lastEnd_25 rfl ?_
    refine v_mmax 29 cx dX4_lastEnd_26 km_X4_59 kmax_s kmax_i kmax_c (by decide) (Nat.le_of_ble_eq_true rfl) rfl ?_
    refine v_istore_n 30 (fun a6 => [(2, .int a6), (0, .ref (oX E 9)), (1, .ref (oX E 1)), (3, .int x3)]) cx dX4_lastEnd_29 rfl (by decide) (fun _ => rfl) rfl h (fun a6 h => ?_)
    refine v_iinc 33 3 (fun a7 => [(3, .int a7), (2, .int a6), (0, .ref (oX E 9)), (1, .ref (oX E 1))]) cx dX4_lastEnd_30 rfl ic_1 (by decide) (fun _ => rfl) rfl h (fun a7 h => ?_)
    refine v_goto 4 cx dX4_lastEnd_33 (by decide) ?_
    cases h
    have hk : Vat C (wX E) 4 4 [(0, .ref (oX E 9)), (1, .ref (oX E 1)), (2, .int a6), (3, .int a7)] [] st := hk
    exact v_lsub (lv' := [(0, .ref (oX E 9)), (1, .ref (oX E 1)), (2, .int a6), (3, .int a7)]) [2, 3, 1, 0] rfl (hk)
set_option maxHeartbeats 4000000 in
set_option maxRecDepth 100000 in
theorem c_X4_lastEnd (l : Launch) (E : Ev) (st : Sg) : ∀ q, m_X4_lastEnd st = some q → CtI l (wX E) (tyE E) yX4_lastEnd cX4_lastEnd 4 (some .int) 1 13 [.ref (oX E 9), .ref (oX E 1)] st q := by
  intro q h
  refine ctI_of (lv0 := [(0, .ref (oX E 9)), (1, .ref (oX E 1))]) (by decide) rfl (Nat.le_of_ble_eq_true rfl) (fun C hC cx hk => ?_)
  replace cx : Cx C (tyE E) cX4_lastEnd RX4 4 1 13 := cx
  unfold m_X4_lastEnd at h
  refine v_iconst 1 cx dX4_lastEnd_0 ic_0 rfl ?_
  refine v_istore_n 2 (fun a1 => [(2, .int a1), (0, .ref (oX E 9)), (1, .ref (oX E 1))]) cx dX4_lastEnd_1 rfl (by decide) (fun _ => rfl) rfl h (fun a1 h => ?_)
  refine v_iconst 3 cx dX4_lastEnd_2 ic_0 rfl ?_
  refine v_istore_n 4 (fun a2 => [(3, .int a2), (2, .int a1), (0, .ref (oX E 9)), (1, .ref (oX E 1))]) cx dX4_lastEnd_3 rfl (by decide) (fun _ => rfl) rfl h (fun a2 h => ?_)
  refine v_lsub (lv' := [(0, .ref (oX E 9)), (1, .ref (oX E 1)), (2, .int a1), (3, .int a2)]) [2, 3, 1, 0] rfl ?_
  refine v_loop (s0 := (a1, a2, st)) (V_X4_lastEnd_L4 C E) (K_X4_lastEnd_L4 C E) h (b_X4_lastEnd_L4 cx) (fun r8 h => ?_)
  show Vat C (wX E) 4 36 [(2, .int r8.1)] [] r8.2
  refine v_iload_n 37 0 cx dX4_lastEnd_36 rfl rfl rfl ?_
  exact hk _ _ _ _ (Option.some.inj h) dX4_lastEnd_37
set_option maxHeartbeats 4000000 in
set_option maxRecDepth 100000 in
theorem c_X11_laying (l : Launch) (E : Ev) (st : Sg) (p1 : Int32) : ∀ q, m_X11_laying p1 st = some q → CtI l (wX E) (tyE E) yX11_laying cX11_laying 2 (some .int) 2 36 [.ref (oX E 0), .int p1] st q := by
  intro q h
  refine ctI_of (lv0 := [(0, .ref (oX E 0)), (1, .int p1)]) (by decide) rfl (Nat.le_of_ble_eq_true rfl) (fun C hC cx hk => ?_)
  replace cx : Cx C (tyE E) cX11_laying RX11 2 2 36 := cx
  unfold m_X11_laying at h
  refine v_aload_n 1 0 cx dX11_laying_0 rfl rfl rfl ?_
  refine v_get 4 0 5 cx dX11_laying_1 iX11 (wXo_0 E st) rfl (Nat.le_of_ble_eq_true rfl) rfl kf_X11_49 rfl rfl ?_
  refine v_getI 7 9 0 cx dX11_laying_4 iX4 (wXo_9 E st) rfl (Nat.le_of_ble_eq_true rfl) rfl kf_X11_241 rfl rfl h (fun v1 h => ?_)
  refine v_if_ne 17 10 cx dX11_laying_7 (by decide) rfl h (fun h => ?_) (fun h => ?_)
  · refine v_iload_n 18 1 cx dX11_laying_17 rfl rfl rfl ?_
    refine v_tabC 44 0 (ck := 0) cx dX11_laying_18 (by decide) (by decide) rfl (by decide) (fun i hi => absurd hi (Nat.not_lt_zero i)) h (fun h => ?_) (fun hn h => ?_)
    · refine v_aload_n 45 0 cx dX11_laying_44 rfl rfl rfl ?_
      refine v_get 48 0 5 cx dX11_laying_45 iX11 (wXo_0 E st) rfl (Nat.le_of_ble_eq_true rfl) rfl kf_X11_49 rfl rfl ?_
      refine v_getI 51 9 1 cx dX11_laying_48 iX4 (wXo_9 E st) rfl (Nat.le_of_ble_eq_true rfl) rfl kf_X11_245 rfl rfl h (fun v2 h => ?_)
      exact hk _ _ _ _ (Option.some.inj h) dX11_laying_51
    · refine v_tabC 52 1 (ck := 1) cx dX11_laying_18 (by decide) (by decide) rfl (by decide) hn h (fun h => ?_) (fun hn h => ?_)
      · refine v_aload_n 53 0 cx dX11_laying_52 rfl rfl rfl ?_
        refine v_get 56 0 5 cx dX11_laying_53 iX11 (wXo_0 E st) rfl (Nat.le_of_ble_eq_true rfl) rfl kf_X11_49 rfl rfl ?_
        refine v_getI 59 9 2 cx dX11_laying_56 iX4 (wXo_9 E st) rfl (Nat.le_of_ble_eq_true rfl) rfl kf_X11_248 rfl rfl h (fun v3 h => ?_)
        exact hk _ _ _ _ (Option.some.inj h) dX11_laying_59
      · refine v_tabC 60 2 (ck := 2) cx dX11_laying_18 (by decide) (by decide) rfl (by decide) hn h (fun h => ?_) (fun hn h => ?_)
        · refine v_aload_n 61 0 cx dX11_laying_60 rfl rfl rfl ?_
          refine v_get 64 0 5 cx dX11_laying_61 iX11 (wXo_0 E st) rfl (Nat.le_of_ble_eq_true rfl) rfl kf_X11_49 rfl rfl ?_
          refine v_aload_n 65 0 cx dX11_laying_64 rfl rfl rfl ?_
          refine v_get 68 0 0 cx dX11_laying_65 iX11 (wXo_0 E st) rfl (Nat.le_of_ble_eq_true rfl) rfl kf_X11_10 rfl rfl ?_
          refine v_callVI 71 9 cx dX11_laying_68 km_X11_251 ca_X4_lastEnd (wXo_9 E st) rfl (c_X4_lastEnd C.2.1 E st ) rfl (by decide) rfl (Nat.le_of_ble_eq_true rfl) rfl h (fun v5 s4 h => ?_)
          exact hk _ _ _ _ (Option.some.inj h) dX11_laying_71
        · refine v_tabD 72 3 cx dX11_laying_18 (by decide) (by decide) hn ?_
          refine v_aload_n 73 0 cx dX11_laying_72 rfl rfl rfl ?_
          refine v_bipush 75 cx dX11_laying_73 bp_m9 rfl ?_
          refine v_callVI 78 0 cx dX11_laying_75 km_X11_88 ca_X11_refuse (wXo_0 E st) rfl (c_X11_refuse C.2.1 E st (-9) ) rfl (by decide) rfl (Nat.le_of_ble_eq_true rfl) rfl h (fun v7 s6 h => ?_)
          exact hk _ _ _ _ (Option.some.inj h) dX11_laying_78
  · refine v_aload_n 11 0 cx dX11_laying_10 rfl rfl rfl ?_
    refine v_bipush 13 cx dX11_laying_11 bp_m2 rfl ?_
    refine v_callVI 16 0 cx dX11_laying_13 km_X11_88 ca_X11_refuse (wXo_0 E st) rfl (c_X11_refuse C.2.1 E st (-2) ) rfl (by decide) rfl (Nat.le_of_ble_eq_true rfl) rfl h (fun v9 s8 h => ?_)
    exact hk _ _ _ _ (Option.some.inj h) dX11_laying_16
set_option maxHeartbeats 4000000 in
set_option maxRecDepth 100000 in
theorem c_X11_lowest (l : Launch) (E : Ev) (st : Sg) : ∀ q, m_X11_lowest st = some q → CtI l (wX E) (tyE E) yX11_lowest cX11_lowest 2 (some .int) 6 133 [.ref (oX E 0)] st q := by
  intro q h
  refine ctI_of (lv0 := [(0, .ref (oX E 0))]) (by decide) rfl (Nat.le_of_ble_eq_true rfl) (fun C hC cx hk => ?_)
  replace cx : Cx C (tyE E) cX11_lowest RX11 2 6 133 := cx
  unfold m_X11_lowest at h
  refine v_aload_n 1 0 cx dX11_lowest_0 rfl rfl rfl ?_
  refine v_callVI 4 0 cx dX11_lowest_1 km_X11_217 ca_X11_lowestBeat (wXo_0 E st) rfl (c_X11_lowestBeat C.2.1 E st ) rfl (by decide) rfl (Nat.le_of_ble_eq_true rfl) rfl h (fun v2 s1 h => ?_)
  refine v_istore_n 5 (fun a3 => [(1, .int a3), (0, .ref (oX E 0))]) cx dX11_lowest_4 rfl (by decide) (fun _ => rfl) rfl h (fun a3 h => ?_)
  refine v_iload_n 6 0 cx dX11_lowest_5 rfl rfl rfl ?_
  refine v_if_ge 17 9 cx dX11_lowest_6 (by decide) rfl h (fun h => ?_) (fun h => ?_)
  · refine v_iload_n 18 0 cx dX11_lowest_17 rfl rfl rfl ?_
    exact hk _ _ _ _ (Option.some.inj h) dX11_lowest_18
  · refine v_aload_n 10 1 cx dX11_lowest_9 rfl rfl rfl ?_
    refine v_iload_n 11 0 cx dX11_lowest_10 rfl rfl rfl ?_
    refine v_callVI 14 0 cx dX11_lowest_11 km_X11_88 ca_X11_refuse (wXo_0 E s1) rfl (c_X11_refuse C.2.1 E s1 a3 ) rfl (by decide) rfl (Nat.le_of_ble_eq_true rfl) rfl h (fun v5 s4 h => ?_)
    refine v_goto 18 cx dX11_lowest_14 (by decide) ?_
    exact hk _ _ _ _ (Option.some.inj h) dX11_lowest_18
set_option maxHeartbeats 4000000 in
set_option maxRecDepth 100000 in
theorem c_X11_names (l : Launch) (E : Ev) (st : Sg) (p1 : Int32) : ∀ q, m_X11_names p1 st = some q → CtI l (wX E) (tyE E) yX11_names cX11_names 2 (some .int) 1 21 [.ref (oX E 0), .int p1] st q := by
  intro q h
  refine ctI_of (lv0 := [(0, .ref (oX E 0)), (1, .int p1)]) (by decide) rfl (Nat.le_of_ble_eq_true rfl) (fun C hC cx hk => ?_)
  replace cx : Cx C (tyE E) cX11_names RX11 2 1 21 := cx
  unfold m_X11_names at h
  refine v_aload_n 1 0 cx dX11_names_0 rfl rfl rfl ?_
  refine v_get 4 0 5 cx dX11_names_1 iX11 (wXo_0 E st) rfl (Nat.le_of_ble_eq_true rfl) rfl kf_X11_49 rfl rfl ?_
  refine v_getI 7 9 0 cx dX11_names_4 iX4 (wXo_9 E st) rfl (Nat.le_of_ble_eq_true rfl) rfl kf_X11_241 rfl rfl h (fun v1 h => ?_)
  refine v_if_ne 17 10 cx dX11_names_7 (by decide) rfl h (fun h => ?_) (fun h => ?_)
  · refine v_aload_n 18 0 cx dX11_names_17 rfl rfl rfl ?_
    refine v_get 21 0 0 cx dX11_names_18 iX11 (wXo_0 E st) rfl (Nat.le_of_ble_eq_true rfl) rfl kf_X11_10 rfl rfl ?_
    refine v_iload_n 22 1 cx dX11_names_21 rfl rfl rfl ?_
    refine v_callVI 25 1 cx dX11_names_22 km_X11_116 ca_X0_has (wXo_1 E st) rfl (c_X0_has C.2.1 E st p1 ) rfl (by decide) rfl (Nat.le_of_ble_eq_true rfl) rfl h (fun v3 s2 h => ?_)
    refine v_if_ne 35 28 cx dX11_names_25 (by decide) rfl h (fun h => ?_) (fun h => ?_)
    · refine v_aload_n 36 0 cx dX11_names_35 rfl rfl rfl ?_
      refine v_get 39 0 5 cx dX11_names_36 iX11 (wXo_0 E s2) rfl (Nat.le_of_ble_eq_true rfl) rfl kf_X11_49 rfl rfl ?_
      refine v_get 42 9 9 cx dX11_names_39 iX4 (wXo_9 E s2) rfl (Nat.le_of_ble_eq_true rfl) rfl kf_X11_279 rfl rfl ?_
      refine v_iload_n 43 1 cx dX11_names_42 rfl rfl rfl ?_
      refine v_iald 44 54 0 cx dX11_names_43 (wXa_9_9 E s2) rfl rfl h (fun v4 h => ?_)
      exact hk _ _ _ _ (Option.some.inj h) dX11_names_44
    · refine v_aload_n 29 0 cx dX11_names_28 rfl rfl rfl ?_
      refine v_bipush 31 cx dX11_names_29 bp_m3 rfl ?_
      refine v_callVI 34 0 cx dX11_names_31 km_X11_88 ca_X11_refuse (wXo_0 E s2) rfl (c_X11_refuse C.2.1 E s2 (-3) ) rfl (by decide) rfl (Nat.le_of_ble_eq_true rfl) rfl h (fun v6 s5 h => ?_)
      exact hk _ _ _ _ (Option.some.inj h) dX11_names_34
  · refine v_aload_n 11 0 cx dX11_names_10 rfl rfl rfl ?_
    refine v_bipush 13 cx dX11_names_11 bp_m2 rfl ?_
    refine v_callVI 16 0 cx dX11_names_13 km_X11_88 ca_X11_refuse (wXo_0 E st) rfl (c_X11_refuse C.2.1 E st (-2) ) rfl (by decide) rfl (Nat.le_of_ble_eq_true rfl) rfl h (fun v8 s7 h => ?_)
    exact hk _ _ _ _ (Option.some.inj h) dX11_names_16
set_option maxHeartbeats 4000000 in
set_option maxRecDepth 100000 in
theorem c_X11_number (l : Launch) (E : Ev) (st : Sg) (p1 : Int32) : ∀ q, m_X11_number p1 st = some q → CtL l (wX E) (tyE E) yX11_number cX11_number 2 (some .long) 1 21 [.ref (oX E 0), .int p1] st q := by
  intro q h
  refine ctL_of (lv0 := [(0, .ref (oX E 0)), (1, .int p1)]) (by decide) rfl (Nat.le_of_ble_eq_true rfl) (fun C hC cx hk => ?_)
  replace cx : Cx C (tyE E) cX11_number RX11 2 1 21 := cx
  unfold m_X11_number at h
  refine v_aload_n 1 0 cx dX11_number_0 rfl rfl rfl ?_
  refine v_get 4 0 0 cx dX11_number_1 iX11 (wXo_0 E st) rfl (Nat.le_of_ble_eq_true rfl) rfl kf_X11_10 rfl rfl ?_
  refine v_iload_n 5 1 cx dX11_number_4 rfl rfl rfl ?_
  refine v_callVI 8 1 cx dX11_number_5 km_X11_116 ca_X0_has (wXo_1 E st) rfl (c_X0_has C.2.1 E st p1 ) rfl (by decide) rfl (Nat.le_of_ble_eq_true rfl) rfl h (fun v2 s1 h => ?_)
  refine v_if_ne 20 11 cx dX11_number_8 (by decide) rfl h (fun h => ?_) (fun h => ?_)
  · refine v_aload_n 21 0 cx dX11_number_20 rfl rfl rfl ?_
    refine v_get 24 0 0 cx dX11_number_21 iX11 (wXo_0 E s1) rfl (Nat.le_of_ble_eq_true rfl) rfl kf_X11_10 rfl rfl ?_
    refine v_get 27 1 1 cx dX11_number_24 iX0 (wXo_1 E s1) rfl (Nat.le_of_ble_eq_true rfl) rfl kf_X11_159 rfl rfl ?_
    refine v_iload_n 28 1 cx dX11_number_27 rfl rfl rfl ?_
    refine v_iald 29 18 0 cx dX11_number_28 (wXa_1_1 E s1) rfl rfl h (fun v3 h => ?_)
    refine v_if_eq 41 32 cx dX11_number_29 (by decide) rfl h (fun h => ?_) (fun h => ?_)
    · refine v_aload_n 42 0 cx dX11_number_41 rfl rfl rfl ?_
      refine v_get 45 0 0 cx dX11_number_42 iX11 (wXo_0 E s1) rfl (Nat.le_of_ble_eq_true rfl) rfl kf_X11_10 rfl rfl ?_
      refine v_get 48 1 8 cx dX11_number_45 iX0 (wXo_1 E s1) rfl (Nat.le_of_ble_eq_true rfl) rfl kf_X11_91 rfl rfl ?_
      refine v_iload_n 49 1 cx dX11_number_48 rfl rfl rfl ?_
      refine v_lald 50 25 1 cx dX11_number_49 (wXa_1_8 E s1) rfl rfl h (fun v4 h => ?_)
      exact hk _ _ _ _ (Option.some.inj h) dX11_number_50
    · refine v_aload_n 33 0 cx dX11_number_32 rfl rfl rfl ?_
      refine v_bipush 35 cx dX11_number_33 bp_m5 rfl ?_
      refine v_callVI 38 0 cx dX11_number_35 km_X11_88 ca_X11_refuse (wXo_0 E s1) rfl (c_X11_refuse C.2.1 E s1 (-5) ) rfl (by decide) rfl (Nat.le_of_ble_eq_true rfl) rfl h (fun v6 s5 h => ?_)
      refine v_pop 39 cx dX11_number_38 rfl rfl ?_
      refine v_lconst 40 cx dX11_number_39 lc_0 rfl ?_
      exact hk _ _ _ _ (Option.some.inj h) dX11_number_40
  · refine v_aload_n 12 0 cx dX11_number_11 rfl rfl rfl ?_
    refine v_bipush 14 cx dX11_number_12 bp_m3 rfl ?_
    refine v_callVI 17 0 cx dX11_number_14 km_X11_88 ca_X11_refuse (wXo_0 E s1) rfl (c_X11_refuse C.2.1 E s1 (-3) ) rfl (by decide) rfl (Nat.le_of_ble_eq_true rfl) rfl h (fun v8 s7 h => ?_)
    refine v_pop 18 cx dX11_number_17 rfl rfl ?_
    refine v_lconst 19 cx dX11_number_18 lc_0 rfl ?_
    exact hk _ _ _ _ (Option.some.inj h) dX11_number_19
set_option maxHeartbeats 4000000 in
set_option maxRecDepth 100000 in
theorem c_X11_pick (l : Launch) (E : Ev) (st : Sg) (p1 : Int32) (p2 : Int32) (p3 : Int32) (p4 : Int32) : ∀ q, m_X11_pick p1 p2 p3 p4 st = some q → CtI l (wX E) (tyE E) yX11_pick cX11_pick 6 (some .int) 2 47 [.ref (oX E 0), .int p1, .int p2, .int p3, .int p4] st q := by
  intro q h
  refine ctI_of (lv0 := [(0, .ref (oX E 0)), (1, .int p1), (2, .int p2), (3, .int p3), (4, .int p4)]) (by decide) rfl (Nat.le_of_ble_eq_true rfl) (fun C hC cx hk => ?_)
  replace cx : Cx C (tyE E) cX11_pick RX11 6 2 47 := cx
  unfold m_X11_pick at h
  refine v_iload 2 4 cx dX11_pick_0 rfl rfl ?_
  refine v_callSI 5 cx dX11_pick_2 km_X11_98 ca_X11_isBack (c_X11_isBack C.2.1 E st p4 ) rfl (by decide) rfl (Nat.le_of_ble_eq_true rfl) rfl h (fun v2 s1 h => ?_)
  refine v_if_ne 15 8 cx dX11_pick_5 (by decide) rfl h (fun h => ?_) (fun h => ?_)
  · refine v_aload_n 16 0 cx dX11_pick_15 rfl rfl rfl ?_
    refine v_get 19 0 0 cx dX11_pick_16 iX11 (wXo_0 E s1) rfl (Nat.le_of_ble_eq_true rfl) rfl kf_X11_10 rfl rfl ?_
    refine v_iload_n 20 1 cx dX11_pick_19 rfl rfl rfl ?_
    refine v_iconst 21 cx dX11_pick_20 ic_0 rfl ?_
    refine v_callVI 24 1 cx dX11_pick_21 km_X11_102 ca_X0_mayTake (wXo_1 E s1) rfl (c_X0_mayTake C.2.1 E s1 p1 0 ) rfl (by decide) rfl (Nat.le_of_ble_eq_true rfl) rfl h (fun v4 s3 h => ?_)
    refine v_if_eq 52 27 cx dX11_pick_24 (by decide) rfl h (fun h => ?_) (fun h => ?_)
    · refine v_aload_n 53 0 cx dX11_pick_52 rfl rfl rfl ?_
      refine v_bipush 55 cx dX11_pick_53 bp_m3 rfl ?_
      refine v_callVI 58 0 cx dX11_pick_55 km_X11_88 ca_X11_refuse (wXo_0 E s3) rfl (c_X11_refuse C.2.1 E s3 (-3) ) rfl (by decide) rfl (Nat.le_of_ble_eq_true rfl) rfl h (fun v6 s5 h => ?_)
      exact hk _ _ _ _ (Option.some.inj h) dX11_pick_58
    · refine v_aload_n 28 0 cx dX11_pick_27 rfl rfl rfl ?_
      refine v_get 31 0 0 cx dX11_pick_28 iX11 (wXo_0 E s3) rfl (Nat.le_of_ble_eq_true rfl) rfl kf_X11_10 rfl rfl ?_
      refine v_iload_n 32 2 cx dX11_pick_31 rfl rfl rfl ?_
      refine v_iconst 33 cx dX11_pick_32 ic_0 rfl ?_
      refine v_callVI 36 1 cx dX11_pick_33 km_X11_102 ca_X0_mayTake (wXo_1 E s3) rfl (c_X0_mayTake C.2.1 E s3 p2 0 ) rfl (by decide) rfl (Nat.le_of_ble_eq_true rfl) rfl h (fun v8 s7 h => ?_)
      refine v_if_eq 52 39 cx dX11_pick_36 (by decide) rfl h (fun h => ?_) (fun h => ?_)
      · refine v_aload_n 53 0 cx dX11_pick_52 rfl rfl rfl ?_
        refine v_bipush 55 cx dX11_pick_53 bp_m3 rfl ?_
        refine v_callVI 58 0 cx dX11_pick_55 km_X11_88 ca_X11_refuse (wXo_0 E s7) rfl (c_X11_refuse C.2.1 E s7 (-3) ) rfl (by decide) rfl (Nat.le_of_ble_eq_true rfl) rfl h (fun v10 s9 h => ?_)
        exact hk _ _ _ _ (Option.some.inj h) dX11_pick_58
      · refine v_aload_n 40 0 cx dX11_pick_39 rfl rfl rfl ?_
        refine v_get 43 0 0 cx dX11_pick_40 iX11 (wXo_0 E s7) rfl (Nat.le_of_ble_eq_true rfl) rfl kf_X11_10 rfl rfl ?_
        refine v_iload_n 44 3 cx dX11_pick_43 rfl rfl rfl ?_
        refine v_iload 46 4 cx dX11_pick_44 rfl rfl ?_
        refine v_callVI 49 1 cx dX11_pick_46 km_X11_102 ca_X0_mayTake (wXo_1 E s7) rfl (c_X0_mayTake C.2.1 E s7 p3 p4 ) rfl (by decide) rfl (Nat.le_of_ble_eq_true rfl) rfl h (fun v12 s11 h => ?_)
        refine v_if_ne 59 52 cx dX11_pick_49 (by decide) rfl h (fun h => ?_) (fun h => ?_)
        · refine v_aload_n 60 0 cx dX11_pick_59 rfl rfl rfl ?_
          refine v_get 63 0 0 cx dX11_pick_60 iX11 (wXo_0 E s11) rfl (Nat.le_of_ble_eq_true rfl) rfl kf_X11_10 rfl rfl ?_
          refine v_bipush 65 cx dX11_pick_63 bp_6 rfl ?_
          refine v_callVI 68 1 cx dX11_pick_65 km_X11_84 ca_X0_open (wXo_1 E s11) rfl (c_X0_open C.2.1 E s11 6 ) rfl (by decide) rfl (Nat.le_of_ble_eq_true rfl) rfl h (fun v14 s13 h => ?_)
          refine v_istore 70 (fun a15 => [(5, .int a15), (0, .ref (oX E 0)), (1, .int p1), (2, .int p2), (3, .int p3), (4, .int p4)]) cx dX11_pick_68 (by decide) (fun _ => rfl) rfl h (fun a15 h => ?_)
          refine v_iload 72 0 cx dX11_pick_70 rfl rfl ?_
          refine v_iconst 73 cx dX11_pick_72 ic_m1 rfl ?_
          refine v_icmp_ne 83 76 cx dX11_pick_73 (by decide) rfl h (fun h => ?_) (fun h => ?_)
          · refine v_aload_n 84 1 cx dX11_pick_83 rfl rfl rfl ?_
            refine v_get 87 0 0 cx dX11_pick_84 iX11 (wXo_0 E s13) rfl (Nat.le_of_ble_eq_true rfl) rfl kf_X11_10 rfl rfl ?_
            refine v_iload 89 0 cx dX11_pick_87 rfl rfl ?_
            refine v_iconst 90 cx dX11_pick_89 ic_0 rfl ?_
            refine v_iload_n 91 2 cx dX11_pick_90 rfl rfl rfl ?_
            refine v_iconst 92 cx dX11_pick_91 ic_0 rfl ?_
            refine v_callVV 95 1 cx dX11_pick_92 km_X11_106 ca_X0_take (wXo_1 E s13) rfl (c_X0_take C.2.1 E s13 a15 0 p1 0 ) rfl (by decide) rfl (Nat.le_of_ble_eq_true rfl) rfl h (fun _ s16 h => ?_)
            refine v_aload_n 96 1 cx dX11_pick_95 rfl rfl rfl ?_
            refine v_get 99 0 0 cx dX11_pick_96 iX11 (wXo_0 E s16) rfl (Nat.le_of_ble_eq_true rfl) rfl kf_X11_10 rfl rfl ?_
            refine v_iload 101 0 cx dX11_pick_99 rfl rfl ?_
            refine v_iconst 102 cx dX11_pick_101 ic_1 rfl ?_
            refine v_iload_n 103 3 cx dX11_pick_102 rfl rfl rfl ?_
            refine v_iconst 104 cx dX11_pick_103 ic_0 rfl ?_
            refine v_callVV 107 1 cx dX11_pick_104 km_X11_106 ca_X0_take (wXo_1 E s16) rfl (c_X0_take C.2.1 E s16 a15 1 p2 0 ) rfl (by decide) rfl (Nat.le_of_ble_eq_true rfl) rfl h (fun _ s17 h => ?_)
            refine v_aload_n 108 1 cx dX11_pick_107 rfl rfl rfl ?_
            refine v_get 111 0 0 cx dX11_pick_108 iX11 (wXo_0 E s17) rfl (Nat.le_of_ble_eq_true rfl) rfl kf_X11_10 rfl rfl ?_
            refine v_iload 113 0 cx dX11_pick_111 rfl rfl ?_
            refine v_iconst 114 cx dX11_pick_113 ic_2 rfl ?_
            refine v_iload_n 115 4 cx dX11_pick_114 rfl rfl rfl ?_
            refine v_iload 117 5 cx dX11_pick_115 rfl rfl ?_
            refine v_callVV 120 1 cx dX11_pick_117 km_X11_106 ca_X0_take (wXo_1 E s17) rfl (c_X0_take C.2.1 E s17 a15 2 p3 p4 ) rfl (by decide) rfl (Nat.le_of_ble_eq_true rfl) rfl h (fun _ s18 h => ?_)
            refine v_aload_n 121 1 cx dX11_pick_120 rfl rfl rfl ?_
            refine v_callVV 124 0 cx dX11_pick_121 km_X11_95 ca_X11_bodyChanged (wXo_0 E s18) rfl (c_X11_bodyChanged C.2.1 E s18 ) rfl (by decide) rfl (Nat.le_of_ble_eq_true rfl) rfl h (fun _ s19 h => ?_)
            refine v_iload 126 0 cx dX11_pick_124 rfl rfl ?_
            exact hk _ _ _ _ (Option.some.inj h) dX11_pick_126
          · refine v_aload_n 77 1 cx dX11_pick_76 rfl rfl rfl ?_
            refine v_bipush 79 cx dX11_pick_77 bp_m10 rfl ?_
            refine v_callVI 82 0 cx dX11_pick_79 km_X11_88 ca_X11_refuse (wXo_0 E s13) rfl (c_X11_refuse C.2.1 E s13 (-10) ) rfl (by decide) rfl (Nat.le_of_ble_eq_true rfl) rfl h (fun v21 s20 h => ?_)
            exact hk _ _ _ _ (Option.some.inj h) dX11_pick_82
        · refine v_aload_n 53 0 cx dX11_pick_52 rfl rfl rfl ?_
          refine v_bipush 55 cx dX11_pick_53 bp_m3 rfl ?_
          refine v_callVI 58 0 cx dX11_pick_55 km_X11_88 ca_X11_refuse (wXo_0 E s11) rfl (c_X11_refuse C.2.1 E s11 (-3) ) rfl (by decide) rfl (Nat.le_of_ble_eq_true rfl) rfl h (fun v23 s22 h => ?_)
          exact hk _ _ _ _ (Option.some.inj h) dX11_pick_58
  · refine v_aload_n 9 0 cx dX11_pick_8 rfl rfl rfl ?_
    refine v_bipush 11 cx dX11_pick_9 bp_m9 rfl ?_
    refine v_callVI 14 0 cx dX11_pick_11 km_X11_88 ca_X11_refuse (wXo_0 E s1) rfl (c_X11_refuse C.2.1 E s1 (-9) ) rfl (by decide) rfl (Nat.le_of_ble_eq_true rfl) rfl h (fun v25 s24 h => ?_)
    exact hk _ _ _ _ (Option.some.inj h) dX11_pick_14
set_option maxHeartbeats 4000000 in
set_option maxRecDepth 100000 in
theorem c_X11_prove (l : Launch) (E : Ev) (st : Sg) (p1 : Int32) : ∀ q, m_X11_prove p1 st = some q → CtI l (wX E) (tyE E) yX11_prove cX11_prove 2 (some .int) 6 134 [.ref (oX E 0), .int p1] st q := by
  intro q h
  refine ctI_of (lv0 := [(0, .ref (oX E 0)), (1, .int p1)]) (by decide) rfl (Nat.le_of_ble_eq_true rfl) (fun C hC cx hk => ?_)
  replace cx : Cx C (tyE E) cX11_prove RX11 2 6 134 := cx
  unfold m_X11_prove at h
  refine v_aload_n 1 0 cx dX11_prove_0 rfl rfl rfl ?_
  refine v_get 4 0 4 cx dX11_prove_1 iX11 (wXo_0 E st) rfl (Nat.le_of_ble_eq_true rfl) rfl kf_X11_42 rfl rfl ?_
  refine v_iconst 5 cx dX11_prove_4 ic_0 rfl ?_
  refine v_putI 8 7 10 cx dX11_prove_5 iX8 tyX8_ok nmX8 (wXo_7 E st) rfl (Nat.le_of_ble_eq_true rfl) rfl kf_X11_220 rfl rfl rfl rfl (Nat.le_of_ble_eq_true rfl) (wXs_7_10 E st _) rfl h (fun s1 h => ?_)
  refine v_aload_n 9 0 cx dX11_prove_8 rfl rfl rfl ?_
  refine v_get 12 0 0 cx dX11_prove_9 iX11 (wXo_0 E s1) rfl (Nat.le_of_ble_eq_true rfl) rfl kf_X11_10 rfl rfl ?_
  refine v_callVI 15 1 cx dX11_prove_12 km_X11_232 ca_X0_isReady (wXo_1 E s1) rfl (c_X0_isReady C.2.1 E s1 ) rfl (by decide) rfl (Nat.le_of_ble_eq_true rfl) rfl h (fun v3 s2 h => ?_)
  refine v_if_ne 25 18 cx dX11_prove_15 (by decide) rfl h (fun h => ?_) (fun h => ?_)
  · refine v_iload_n 26 1 cx dX11_prove_25 rfl rfl rfl ?_
    refine v_if_ge 36 29 cx dX11_prove_26 (by decide) rfl h (fun h => ?_) (fun h => ?_)
    · refine v_iload_n 37 1 cx dX11_prove_36 rfl rfl rfl ?_
      refine v_if_eq 46 40 cx dX11_prove_37 (by decide) rfl h (fun h => ?_) (fun h => ?_)
      · refine v_aload_n 47 0 cx dX11_prove_46 rfl rfl rfl ?_
        refine v_bipush 49 cx dX11_prove_47 bp_m9 rfl ?_
        refine v_callVI 52 0 cx dX11_prove_49 km_X11_88 ca_X11_refuse (wXo_0 E s2) rfl (c_X11_refuse C.2.1 E s2 (-9) ) rfl (by decide) rfl (Nat.le_of_ble_eq_true rfl) rfl h (fun v5 s4 h => ?_)
        exact hk _ _ _ _ (Option.some.inj h) dX11_prove_52
      · refine v_iload_n 41 1 cx dX11_prove_40 rfl rfl rfl ?_
        refine v_bipush 43 cx dX11_prove_41 bp_60 rfl ?_
        refine v_icmp_le 53 46 cx dX11_prove_43 (by decide) rfl h (fun h => ?_) (fun h => ?_)
        · refine v_aload_n 54 0 cx dX11_prove_53 rfl rfl rfl ?_
          refine v_get 57 0 0 cx dX11_prove_54 iX11 (wXo_0 E s2) rfl (Nat.le_of_ble_eq_true rfl) rfl kf_X11_10 rfl rfl ?_
          refine v_callVI 60 1 cx dX11_prove_57 km_X11_235 ca_X0_beatByUnits (wXo_1 E s2) rfl (c_X0_beatByUnits C.2.1 E s2 ) rfl (by decide) rfl (Nat.le_of_ble_eq_true rfl) rfl h (fun v7 s6 h => ?_)
          refine v_iload_n 61 1 cx dX11_prove_60 rfl rfl rfl ?_
          refine v_icmp_le 66 64 cx dX11_prove_61 (by decide) rfl h (fun h => ?_) (fun h => ?_)
          · refine v_aload_n 67 0 cx dX11_prove_66 rfl rfl rfl ?_
            refine v_get 70 0 1 cx dX11_prove_67 iX11 (wXo_0 E s6) rfl (Nat.le_of_ble_eq_true rfl) rfl kf_X11_19 rfl rfl ?_
            refine v_aload_n 71 0 cx dX11_prove_70 rfl rfl rfl ?_
            refine v_get 74 0 0 cx dX11_prove_71 iX11 (wXo_0 E s6) rfl (Nat.le_of_ble_eq_true rfl) rfl kf_X11_10 rfl rfl ?_
            refine v_callVV 77 3 cx dX11_prove_74 km_X11_166 ca_X10_renew (wXo_3 E s6) rfl (c_X10_renew C.2.1 E s6 ) rfl (by decide) rfl (Nat.le_of_ble_eq_true rfl) rfl h (fun _ s8 h => ?_)
            refine v_aload_n 78 0 cx dX11_prove_77 rfl rfl rfl ?_
            refine v_iload_n 79 1 cx dX11_prove_78 rfl rfl rfl ?_
            refine v_callVI 82 0 cx dX11_prove_79 km_X11_238 ca_X11_hasRingAt (wXo_0 E s8) rfl (c_X11_hasRingAt C.2.1 E s8 p1 ) rfl (by decide) rfl (Nat.le_of_ble_eq_true rfl) rfl h (fun v10 s9 h => ?_)
            refine v_if_eq 87 85 cx dX11_prove_82 (by decide) rfl h (fun h => ?_) (fun h => ?_)
            · refine v_aload_n 88 0 cx dX11_prove_87 rfl rfl rfl ?_
              refine v_iload_n 89 1 cx dX11_prove_88 rfl rfl rfl ?_
              refine v_callVI 92 0 cx dX11_prove_89 km_X11_223 ca_X11_seekAt (wXo_0 E s9) rfl (c_X11_seekAt C.2.1 E s9 p1 ) rfl (by decide) rfl (Nat.le_of_ble_eq_true rfl) rfl h (fun v12 s11 h => ?_)
              exact hk _ _ _ _ (Option.some.inj h) dX11_prove_92
            · refine v_iconst 86 cx dX11_prove_85 ic_2 rfl ?_
              exact hk _ _ _ _ (Option.some.inj h) dX11_prove_86
          · refine v_iconst 65 cx dX11_prove_64 ic_1 rfl ?_
            exact hk _ _ _ _ (Option.some.inj h) dX11_prove_65
        · refine v_aload_n 47 0 cx dX11_prove_46 rfl rfl rfl ?_
          refine v_bipush 49 cx dX11_prove_47 bp_m9 rfl ?_
          refine v_callVI 52 0 cx dX11_prove_49 km_X11_88 ca_X11_refuse (wXo_0 E s2) rfl (c_X11_refuse C.2.1 E s2 (-9) ) rfl (by decide) rfl (Nat.le_of_ble_eq_true rfl) rfl h (fun v14 s13 h => ?_)
          exact hk _ _ _ _ (Option.some.inj h) dX11_prove_52
    · refine v_aload_n 30 0 cx dX11_prove_29 rfl rfl rfl ?_
      refine v_bipush 32 cx dX11_prove_30 bp_m4 rfl ?_
      refine v_callVI 35 0 cx dX11_prove_32 km_X11_88 ca_X11_refuse (wXo_0 E s2) rfl (c_X11_refuse C.2.1 E s2 (-4) ) rfl (by decide) rfl (Nat.le_of_ble_eq_true rfl) rfl h (fun v16 s15 h => ?_)
      exact hk _ _ _ _ (Option.some.inj h) dX11_prove_35
  · refine v_aload_n 19 0 cx dX11_prove_18 rfl rfl rfl ?_
    refine v_bipush 21 cx dX11_prove_19 bp_m2 rfl ?_
    refine v_callVI 24 0 cx dX11_prove_21 km_X11_88 ca_X11_refuse (wXo_0 E s2) rfl (c_X11_refuse C.2.1 E s2 (-2) ) rfl (by decide) rfl (Nat.le_of_ble_eq_true rfl) rfl h (fun v18 s17 h => ?_)
    exact hk _ _ _ _ (Option.some.inj h) dX11_prove_24
set_option maxHeartbeats 4000000 in
set_option maxRecDepth 100000 in
theorem c_X11_put (l : Launch) (E : Ev) (st : Sg) (p1 : Int64) : ∀ q, m_X11_put p1 st = some q → CtI l (wX E) (tyE E) yX11_put cX11_put 4 (some .int) 2 47 [.ref (oX E 0), .long p1] st q := by
  intro q h
  refine ctI_of (lv0 := [(0, .ref (oX E 0)), (1, .long p1)]) (by decide) rfl (Nat.le_of_ble_eq_true rfl) (fun C hC cx hk => ?_)
  replace cx : Cx C (tyE E) cX11_put RX11 4 2 47 := cx
  unfold m_X11_put at h
  refine v_aload_n 1 0 cx dX11_put_0 rfl rfl rfl ?_
  refine v_get 4 0 0 cx dX11_put_1 iX11 (wXo_0 E st) rfl (Nat.le_of_ble_eq_true rfl) rfl kf_X11_10 rfl rfl ?_
  refine v_iconst 5 cx dX11_put_4 ic_0 rfl ?_
  refine v_callVI 8 1 cx dX11_put_5 km_X11_84 ca_X0_open (wXo_1 E st) rfl (c_X0_open C.2.1 E st 0 ) rfl (by decide) rfl (Nat.le_of_ble_eq_true rfl) rfl h (fun v2 s1 h => ?_)
  refine v_istore_n 9 (fun a3 => [(3, .int a3), (0, .ref (oX E 0)), (1, .long p1)]) cx dX11_put_8 rfl (by decide) (fun _ => rfl) rfl h (fun a3 h => ?_)
  refine v_iload_n 10 0 cx dX11_put_9 rfl rfl rfl ?_
  refine v_iconst 11 cx dX11_put_10 ic_m1 rfl ?_
  refine v_icmp_ne 21 14 cx dX11_put_11 (by decide) rfl h (fun h => ?_) (fun h => ?_)
  · refine v_aload_n 22 1 cx dX11_put_21 rfl rfl rfl ?_
    refine v_get 25 0 0 cx dX11_put_22 iX11 (wXo_0 E s1) rfl (Nat.le_of_ble_eq_true rfl) rfl kf_X11_10 rfl rfl ?_
    refine v_get 28 1 8 cx dX11_put_25 iX0 (wXo_1 E s1) rfl (Nat.le_of_ble_eq_true rfl) rfl kf_X11_91 rfl rfl ?_
    refine v_iload_n 29 0 cx dX11_put_28 rfl rfl rfl ?_
    refine v_lload_n 30 2 cx dX11_put_29 rfl rfl rfl ?_
    refine v_last 31 25 1 cx dX11_put_30 (wXa_1_8 E s1) rfl (wXt_1_8 E s1) rfl h (fun s4 h => ?_)
    refine v_aload_n 32 1 cx dX11_put_31 rfl rfl rfl ?_
    refine v_callVV 35 0 cx dX11_put_32 km_X11_95 ca_X11_bodyChanged (wXo_0 E s4) rfl (c_X11_bodyChanged C.2.1 E s4 ) rfl (by decide) rfl (Nat.le_of_ble_eq_true rfl) rfl h (fun _ s5 h => ?_)
    refine v_iload_n 36 0 cx dX11_put_35 rfl rfl rfl ?_
    exact hk _ _ _ _ (Option.some.inj h) dX11_put_36
  · refine v_aload_n 15 1 cx dX11_put_14 rfl rfl rfl ?_
    refine v_bipush 17 cx dX11_put_15 bp_m10 rfl ?_
    refine v_callVI 20 0 cx dX11_put_17 km_X11_88 ca_X11_refuse (wXo_0 E s1) rfl (c_X11_refuse C.2.1 E s1 (-10) ) rfl (by decide) rfl (Nat.le_of_ble_eq_true rfl) rfl h (fun v7 s6 h => ?_)
    exact hk _ _ _ _ (Option.some.inj h) dX11_put_20
set_option maxHeartbeats 4000000 in
set_option maxRecDepth 100000 in
theorem c_X11_reckon (l : Launch) (E : Ev) (st : Sg) (p1 : Int32) (p2 : Int32) (p3 : Int32) (p4 : Int32) (p5 : Int32) : ∀ q, m_X11_reckon p1 p2 p3 p4 p5 st = some q → CtI l (wX E) (tyE E) yX11_reckon cX11_reckon 7 (some .int) 2 47 [.ref (oX E 0), .int p1, .int p2, .int p3, .int p4, .int p5] st q := by
  intro q h
  refine ctI_of (lv0 := [(0, .ref (oX E 0)), (1, .int p1), (2, .int p2), (3, .int p3), (4, .int p4), (5, .int p5)]) (by decide) rfl (Nat.le_of_ble_eq_true rfl) (fun C hC cx hk => ?_)
  replace cx : Cx C (tyE E) cX11_reckon RX11 7 2 47 := cx
  unfold m_X11_reckon at h
  refine v_iload_n 1 1 cx dX11_reckon_0 rfl rfl rfl ?_
  refine v_iconst 2 cx dX11_reckon_1 ic_1 rfl ?_
  refine v_icmp_lt 25 5 cx dX11_reckon_2 (by decide) rfl h (fun h => ?_) (fun h => ?_)
  · refine v_aload_n 26 0 cx dX11_reckon_25 rfl rfl rfl ?_
    refine v_bipush 28 cx dX11_reckon_26 bp_m9 rfl ?_
    refine v_callVI 31 0 cx dX11_reckon_28 km_X11_88 ca_X11_refuse (wXo_0 E st) rfl (c_X11_refuse C.2.1 E st (-9) ) rfl (by decide) rfl (Nat.le_of_ble_eq_true rfl) rfl h (fun v2 s1 h => ?_)
    exact hk _ _ _ _ (Option.some.inj h) dX11_reckon_31
  · refine v_iload_n 6 1 cx dX11_reckon_5 rfl rfl rfl ?_
    refine v_iconst 7 cx dX11_reckon_6 ic_3 rfl ?_
    refine v_icmp_gt 25 10 cx dX11_reckon_7 (by decide) rfl h (fun h => ?_) (fun h => ?_)
    · refine v_aload_n 26 0 cx dX11_reckon_25 rfl rfl rfl ?_
      refine v_bipush 28 cx dX11_reckon_26 bp_m9 rfl ?_
      refine v_callVI 31 0 cx dX11_reckon_28 km_X11_88 ca_X11_refuse (wXo_0 E st) rfl (c_X11_refuse C.2.1 E st (-9) ) rfl (by decide) rfl (Nat.le_of_ble_eq_true rfl) rfl h (fun v4 s3 h => ?_)
      exact hk _ _ _ _ (Option.some.inj h) dX11_reckon_31
    · refine v_iload_n 11 3 cx dX11_reckon_10 rfl rfl rfl ?_
      refine v_callSI 14 cx dX11_reckon_11 km_X11_98 ca_X11_isBack (c_X11_isBack C.2.1 E st p3 ) rfl (by decide) rfl (Nat.le_of_ble_eq_true rfl) rfl h (fun v6 s5 h => ?_)
      refine v_if_eq 25 17 cx dX11_reckon_14 (by decide) rfl h (fun h => ?_) (fun h => ?_)
      · refine v_aload_n 26 0 cx dX11_reckon_25 rfl rfl rfl ?_
        refine v_bipush 28 cx dX11_reckon_26 bp_m9 rfl ?_
        refine v_callVI 31 0 cx dX11_reckon_28 km_X11_88 ca_X11_refuse (wXo_0 E s5) rfl (c_X11_refuse C.2.1 E s5 (-9) ) rfl (by decide) rfl (Nat.le_of_ble_eq_true rfl) rfl h (fun v8 s7 h => ?_)
        exact hk _ _ _ _ (Option.some.inj h) dX11_reckon_31
      · refine v_iload 19 5 cx dX11_reckon_17 rfl rfl ?_
        refine v_callSI 22 cx dX11_reckon_19 km_X11_98 ca_X11_isBack (c_X11_isBack C.2.1 E s5 p5 ) rfl (by decide) rfl (Nat.le_of_ble_eq_true rfl) rfl h (fun v10 s9 h => ?_)
        refine v_if_ne 32 25 cx dX11_reckon_22 (by decide) rfl h (fun h => ?_) (fun h => ?_)
        · refine v_aload_n 33 0 cx dX11_reckon_32 rfl rfl rfl ?_
          refine v_get 36 0 0 cx dX11_reckon_33 iX11 (wXo_0 E s9) rfl (Nat.le_of_ble_eq_true rfl) rfl kf_X11_10 rfl rfl ?_
          refine v_iload_n 37 2 cx dX11_reckon_36 rfl rfl rfl ?_
          refine v_iload_n 38 3 cx dX11_reckon_37 rfl rfl rfl ?_
          refine v_callVI 41 1 cx dX11_reckon_38 km_X11_102 ca_X0_mayTake (wXo_1 E s9) rfl (c_X0_mayTake C.2.1 E s9 p2 p3 ) rfl (by decide) rfl (Nat.le_of_ble_eq_true rfl) rfl h (fun v12 s11 h => ?_)
          refine v_if_eq 58 44 cx dX11_reckon_41 (by decide) rfl h (fun h => ?_) (fun h => ?_)
          · refine v_aload_n 59 0 cx dX11_reckon_58 rfl rfl rfl ?_
            refine v_bipush 61 cx dX11_reckon_59 bp_m3 rfl ?_
            refine v_callVI 64 0 cx dX11_reckon_61 km_X11_88 ca_X11_refuse (wXo_0 E s11) rfl (c_X11_refuse C.2.1 E s11 (-3) ) rfl (by decide) rfl (Nat.le_of_ble_eq_true rfl) rfl h (fun v14 s13 h => ?_)
            exact hk _ _ _ _ (Option.some.inj h) dX11_reckon_64
          · refine v_aload_n 45 0 cx dX11_reckon_44 rfl rfl rfl ?_
            refine v_get 48 0 0 cx dX11_reckon_45 iX11 (wXo_0 E s11) rfl (Nat.le_of_ble_eq_true rfl) rfl kf_X11_10 rfl rfl ?_
            refine v_iload 50 4 cx dX11_reckon_48 rfl rfl ?_
            refine v_iload 52 5 cx dX11_reckon_50 rfl rfl ?_
            refine v_callVI 55 1 cx dX11_reckon_52 km_X11_102 ca_X0_mayTake (wXo_1 E s11) rfl (c_X0_mayTake C.2.1 E s11 p4 p5 ) rfl (by decide) rfl (Nat.le_of_ble_eq_true rfl) rfl h (fun v16 s15 h => ?_)
            refine v_if_ne 65 58 cx dX11_reckon_55 (by decide) rfl h (fun h => ?_) (fun h => ?_)
            · refine v_aload_n 66 0 cx dX11_reckon_65 rfl rfl rfl ?_
              refine v_get 69 0 0 cx dX11_reckon_66 iX11 (wXo_0 E s15) rfl (Nat.le_of_ble_eq_true rfl) rfl kf_X11_10 rfl rfl ?_
              refine v_iload_n 70 1 cx dX11_reckon_69 rfl rfl rfl ?_
              refine v_callVI 73 1 cx dX11_reckon_70 km_X11_84 ca_X0_open (wXo_1 E s15) rfl (c_X0_open C.2.1 E s15 p1 ) rfl (by decide) rfl (Nat.le_of_ble_eq_true rfl) rfl h (fun v18 s17 h => ?_)
              refine v_istore 75 (fun a19 => [(6, .int a19), (0, .ref (oX E 0)), (1, .int p1), (2, .int p2), (3, .int p3), (4, .int p4), (5, .int p5)]) cx dX11_reckon_73 (by decide) (fun _ => rfl) rfl h (fun a19 h => ?_)
              refine v_iload 77 0 cx dX11_reckon_75 rfl rfl ?_
              refine v_iconst 78 cx dX11_reckon_77 ic_m1 rfl ?_
              refine v_icmp_ne 88 81 cx dX11_reckon_78 (by decide) rfl h (fun h => ?_) (fun h => ?_)
              · refine v_aload_n 89 1 cx dX11_reckon_88 rfl rfl rfl ?_
                refine v_get 92 0 0 cx dX11_reckon_89 iX11 (wXo_0 E s17) rfl (Nat.le_of_ble_eq_true rfl) rfl kf_X11_10 rfl rfl ?_
                refine v_iload 94 0 cx dX11_reckon_92 rfl rfl ?_
                refine v_iconst 95 cx dX11_reckon_94 ic_0 rfl ?_
                refine v_iload_n 96 3 cx dX11_reckon_95 rfl rfl rfl ?_
                refine v_iload_n 97 4 cx dX11_reckon_96 rfl rfl rfl ?_
                refine v_callVV 100 1 cx dX11_reckon_97 km_X11_106 ca_X0_take (wXo_1 E s17) rfl (c_X0_take C.2.1 E s17 a19 0 p2 p3 ) rfl (by decide) rfl (Nat.le_of_ble_eq_true rfl) rfl h (fun _ s20 h => ?_)
                refine v_aload_n 101 1 cx dX11_reckon_100 rfl rfl rfl ?_
                refine v_get 104 0 0 cx dX11_reckon_101 iX11 (wXo_0 E s20) rfl (Nat.le_of_ble_eq_true rfl) rfl kf_X11_10 rfl rfl ?_
                refine v_iload 106 0 cx dX11_reckon_104 rfl rfl ?_
                refine v_iconst 107 cx dX11_reckon_106 ic_1 rfl ?_
                refine v_iload 109 5 cx dX11_reckon_107 rfl rfl ?_
                refine v_iload 111 6 cx dX11_reckon_109 rfl rfl ?_
                refine v_callVV 114 1 cx dX11_reckon_111 km_X11_106 ca_X0_take (wXo_1 E s20) rfl (c_X0_take C.2.1 E s20 a19 1 p4 p5 ) rfl (by decide) rfl (Nat.le_of_ble_eq_true rfl) rfl h (fun _ s21 h => ?_)
                refine v_aload_n 115 1 cx dX11_reckon_114 rfl rfl rfl ?_
                refine v_callVV 118 0 cx dX11_reckon_115 km_X11_95 ca_X11_bodyChanged (wXo_0 E s21) rfl (c_X11_bodyChanged C.2.1 E s21 ) rfl (by decide) rfl (Nat.le_of_ble_eq_true rfl) rfl h (fun _ s22 h => ?_)
                refine v_iload 120 0 cx dX11_reckon_118 rfl rfl ?_
                exact hk _ _ _ _ (Option.some.inj h) dX11_reckon_120
              · refine v_aload_n 82 1 cx dX11_reckon_81 rfl rfl rfl ?_
                refine v_bipush 84 cx dX11_reckon_82 bp_m10 rfl ?_
                refine v_callVI 87 0 cx dX11_reckon_84 km_X11_88 ca_X11_refuse (wXo_0 E s17) rfl (c_X11_refuse C.2.1 E s17 (-10) ) rfl (by decide) rfl (Nat.le_of_ble_eq_true rfl) rfl h (fun v24 s23 h => ?_)
                exact hk _ _ _ _ (Option.some.inj h) dX11_reckon_87
            · refine v_aload_n 59 0 cx dX11_reckon_58 rfl rfl rfl ?_
              refine v_bipush 61 cx dX11_reckon_59 bp_m3 rfl ?_
              refine v_callVI 64 0 cx dX11_reckon_61 km_X11_88 ca_X11_refuse (wXo_0 E s15) rfl (c_X11_refuse C.2.1 E s15 (-3) ) rfl (by decide) rfl (Nat.le_of_ble_eq_true rfl) rfl h (fun v26 s25 h => ?_)
              exact hk _ _ _ _ (Option.some.inj h) dX11_reckon_64
        · refine v_aload_n 26 0 cx dX11_reckon_25 rfl rfl rfl ?_
          refine v_bipush 28 cx dX11_reckon_26 bp_m9 rfl ?_
          refine v_callVI 31 0 cx dX11_reckon_28 km_X11_88 ca_X11_refuse (wXo_0 E s9) rfl (c_X11_refuse C.2.1 E s9 (-9) ) rfl (by decide) rfl (Nat.le_of_ble_eq_true rfl) rfl h (fun v28 s27 h => ?_)
          exact hk _ _ _ _ (Option.some.inj h) dX11_reckon_31
def V_X6_make_L17 (C : Cm) (E : Ev) (x1 : Int32) (s : (Int32 × Sg)) : Prop := Vat C (wX E) 5 17 [(0, .ref (oX E 5)), (1, .int x1), (4, .int s.1)] [] s.2
def K_X6_make_L17 (C : Cm) (E : Ev) (x1 : Int32) : (Sg) → Prop := (fun r : (Sg) => Vat C (wX E) 5 42 [] [] r)
set_option maxHeartbeats 4000000 in
set_option maxRecDepth 100000 in
theorem b_X6_make_L17 {C : Cm} {E : Ev} (cx : Cx C (tyE E) cX6_make RX6 5 1 21) (x1 : Int32) : ∀ (s : (Int32 × Sg)) (out : (Int32 × Sg) ⊕ (Sg)), m_X6_make_L17 x1 s.1 s.2 = some out → Sum.elim (V_X6_make_L17 C E x1) (K_X6_make_L17 C E x1) out → V_X6_make_L17 C E x1 s := by
  intro s out h hk
  obtain ⟨x4, st⟩ := s
  show Vat C (wX E) 5 17 [(0, .ref (oX E 5)), (1, .int x1), (4, .int x4)] [] st
  replace h : m_X6_make_L17 x1 x4 st = some out := h
  unfold m_X6_make_L17 at h
  refine v_iload 19 2 cx dX6_make_17 rfl rfl ?_
  refine v_bipush 21 cx dX6_make_19 bp_40 rfl ?_
  refine v_icmp_ge 42 24 cx dX6_make_21 (by decide) rfl h (fun h => ?_) (fun h => ?_)
  · cases h
    have hk : Vat C (wX E) 5 42 [] [] st := hk
    exact v_lsub (lv' := []) [] rfl (hk)
  · refine v_aload_n 25 0 cx dX6_make_24 rfl rfl rfl ?_
    refine v_get 28 5 2 cx dX6_make_25 iX6 (wXo_5 E st) rfl (Nat.le_of_ble_eq_true rfl) rfl kf_X6_19 rfl rfl ?_
    refine v_iload_n 29 1 cx dX6_make_28 rfl rfl rfl ?_
    refine v_iload 31 2 cx dX6_make_29 rfl rfl ?_
    refine v_callSI 34 cx dX6_make_31 km_X6_23 ca_X6_placeOf (c_X6_placeOf C.2.1 E st x1 x4 ) rfl (by decide) rfl (Nat.le_of_ble_eq_true rfl) rfl h (fun v5 s4 h => ?_)
    refine v_lconst 35 cx dX6_make_34 lc_0 rfl ?_
    refine v_last 36 38 1 cx dX6_make_35 (wXa_5_2 E s4) rfl (wXt_5_2 E s4) rfl h (fun s6 h => ?_)
    refine v_iinc 39 2 (fun a7 => [(4, .int a7), (0, .ref (oX E 5)), (1, .int x1)]) cx dX6_make_36 rfl ic_1 (by decide) (fun _ => rfl) rfl h (fun a7 h => ?_)
    refine v_goto 17 cx dX6_make_39 (by decide) ?_
    cases h
    have hk : Vat C (wX E) 5 17 [(0, .ref (oX E 5)), (1, .int x1), (4, .int a7)] [] s6 := hk
    exact v_lsub (lv' := [(0, .ref (oX E 5)), (1, .int x1), (4, .int a7)]) [1, 2, 0] rfl (hk)
set_option maxHeartbeats 4000000 in
set_option maxRecDepth 100000 in
theorem c_X6_make (l : Launch) (E : Ev) (st : Sg) (p1 : Int32) (p2 : Int32) (p3 : Int32) : ∀ q, m_X6_make p1 p2 p3 st = some q → CtV l (wX E) (tyE E) yX6_make cX6_make 5 none 1 21 [.ref (oX E 5), .int p1, .int p2, .int p3] st q := by
  intro q h
  refine ctV_of (lv0 := [(0, .ref (oX E 5)), (1, .int p1), (2, .int p2), (3, .int p3)]) (by decide) rfl (Nat.le_of_ble_eq_true rfl) (fun C hC cx hk => ?_)
  replace cx : Cx C (tyE E) cX6_make RX6 5 1 21 := cx
  unfold m_X6_make at h
  refine v_aload_n 1 0 cx dX6_make_0 rfl rfl rfl ?_
  refine v_get 4 5 0 cx dX6_make_1 iX6 (wXo_5 E st) rfl (Nat.le_of_ble_eq_true rfl) rfl kf_X6_9 rfl rfl ?_
  refine v_iload_n 5 1 cx dX6_make_4 rfl rfl rfl ?_
  refine v_iload_n 6 2 cx dX6_make_5 rfl rfl rfl ?_
  refine v_iast 7 36 0 cx dX6_make_6 (wXa_5_0 E st) rfl (wXt_5_0 E st) rfl h (fun s1 h => ?_)
  refine v_aload_n 8 0 cx dX6_make_7 rfl rfl rfl ?_
  refine v_get 11 5 1 cx dX6_make_8 iX6 (wXo_5 E s1) rfl (Nat.le_of_ble_eq_true rfl) rfl kf_X6_15 rfl rfl ?_
  refine v_iload_n 12 1 cx dX6_make_11 rfl rfl rfl ?_
  refine v_iload_n 13 3 cx dX6_make_12 rfl rfl rfl ?_
  refine v_zast 14 37 2 cx dX6_make_13 (wXa_5_1 E s1) rfl (wXt_5_1 E s1) rfl h (fun s2 h => ?_)
  refine v_iconst 15 cx dX6_make_14 ic_0 rfl ?_
  refine v_istore 17 (fun a3 => [(4, .int a3), (0, .ref (oX E 5)), (1, .int p1), (2, .int p2), (3, .int p3)]) cx dX6_make_15 (by decide) (fun _ => rfl) rfl h (fun a3 h => ?_)
  refine v_lsub (lv' := [(0, .ref (oX E 5)), (1, .int p1), (4, .int a3)]) [1, 2, 0] rfl ?_
  refine v_loop (s0 := (a3, s2)) (V_X6_make_L17 C E p1) (K_X6_make_L17 C E p1) h (b_X6_make_L17 cx p1) (fun r8 h => ?_)
  show Vat C (wX E) 5 42 [] [] r8
  exact hk _ _ _ _ (Option.some.inj h) dX6_make_42
set_option maxHeartbeats 4000000 in
set_option maxRecDepth 100000 in
theorem c_X11_row (l : Launch) (E : Ev) (st : Sg) (p1 : Int32) (p2 : Int32) (p3 : Int32) : ∀ q, m_X11_row p1 p2 p3 st = some q → CtI l (wX E) (tyE E) yX11_row cX11_row 4 (some .int) 2 45 [.ref (oX E 0), .int p1, .int p2, .int p3] st q := by
  intro q h
  refine ctI_of (lv0 := [(0, .ref (oX E 0)), (1, .int p1), (2, .int p2), (3, .int p3)]) (by decide) rfl (Nat.le_of_ble_eq_true rfl) (fun C hC cx hk => ?_)
  replace cx : Cx C (tyE E) cX11_row RX11 4 2 45 := cx
  unfold m_X11_row at h
  refine v_iload_n 1 1 cx dX11_row_0 rfl rfl rfl ?_
  refine v_callSI 4 cx dX11_row_1 km_X11_110 ca_X11_isSlot (c_X11_isSlot C.2.1 E st p1 ) rfl (by decide) rfl (Nat.le_of_ble_eq_true rfl) rfl h (fun v2 s1 h => ?_)
  refine v_if_ne 14 7 cx dX11_row_4 (by decide) rfl h (fun h => ?_) (fun h => ?_)
  · refine v_iload_n 15 2 cx dX11_row_14 rfl rfl rfl ?_
    refine v_if_ge 25 18 cx dX11_row_15 (by decide) rfl h (fun h => ?_) (fun h => ?_)
    · refine v_iload_n 26 2 cx dX11_row_25 rfl rfl rfl ?_
      refine v_if_eq 35 29 cx dX11_row_26 (by decide) rfl h (fun h => ?_) (fun h => ?_)
      · refine v_aload_n 36 0 cx dX11_row_35 rfl rfl rfl ?_
        refine v_bipush 38 cx dX11_row_36 bp_m9 rfl ?_
        refine v_callVI 41 0 cx dX11_row_38 km_X11_88 ca_X11_refuse (wXo_0 E s1) rfl (c_X11_refuse C.2.1 E s1 (-9) ) rfl (by decide) rfl (Nat.le_of_ble_eq_true rfl) rfl h (fun v4 s3 h => ?_)
        exact hk _ _ _ _ (Option.some.inj h) dX11_row_41
      · refine v_iload_n 30 2 cx dX11_row_29 rfl rfl rfl ?_
        refine v_bipush 32 cx dX11_row_30 bp_40 rfl ?_
        refine v_icmp_le 42 35 cx dX11_row_32 (by decide) rfl h (fun h => ?_) (fun h => ?_)
        · refine v_aload_n 43 0 cx dX11_row_42 rfl rfl rfl ?_
          refine v_get 46 0 2 cx dX11_row_43 iX11 (wXo_0 E s1) rfl (Nat.le_of_ble_eq_true rfl) rfl kf_X11_26 rfl rfl ?_
          refine v_iload_n 47 1 cx dX11_row_46 rfl rfl rfl ?_
          refine v_iload_n 48 2 cx dX11_row_47 rfl rfl rfl ?_
          refine v_iload_n 49 3 cx dX11_row_48 rfl rfl rfl ?_
          refine v_callVV 52 5 cx dX11_row_49 km_X11_184 ca_X6_make (wXo_5 E s1) rfl (c_X6_make C.2.1 E s1 p1 p2 p3 ) rfl (by decide) rfl (Nat.le_of_ble_eq_true rfl) rfl h (fun _ s5 h => ?_)
          refine v_iconst 53 cx dX11_row_52 ic_1 rfl ?_
          exact hk _ _ _ _ (Option.some.inj h) dX11_row_53
        · refine v_aload_n 36 0 cx dX11_row_35 rfl rfl rfl ?_
          refine v_bipush 38 cx dX11_row_36 bp_m9 rfl ?_
          refine v_callVI 41 0 cx dX11_row_38 km_X11_88 ca_X11_refuse (wXo_0 E s1) rfl (c_X11_refuse C.2.1 E s1 (-9) ) rfl (by decide) rfl (Nat.le_of_ble_eq_true rfl) rfl h (fun v7 s6 h => ?_)
          exact hk _ _ _ _ (Option.some.inj h) dX11_row_41
    · refine v_aload_n 19 0 cx dX11_row_18 rfl rfl rfl ?_
      refine v_bipush 21 cx dX11_row_19 bp_m4 rfl ?_
      refine v_callVI 24 0 cx dX11_row_21 km_X11_88 ca_X11_refuse (wXo_0 E s1) rfl (c_X11_refuse C.2.1 E s1 (-4) ) rfl (by decide) rfl (Nat.le_of_ble_eq_true rfl) rfl h (fun v9 s8 h => ?_)
      exact hk _ _ _ _ (Option.some.inj h) dX11_row_24
  · refine v_aload_n 8 0 cx dX11_row_7 rfl rfl rfl ?_
    refine v_bipush 10 cx dX11_row_8 bp_m3 rfl ?_
    refine v_callVI 13 0 cx dX11_row_10 km_X11_88 ca_X11_refuse (wXo_0 E s1) rfl (c_X11_refuse C.2.1 E s1 (-3) ) rfl (by decide) rfl (Nat.le_of_ble_eq_true rfl) rfl h (fun v11 s10 h => ?_)
    exact hk _ _ _ _ (Option.some.inj h) dX11_row_13
set_option maxHeartbeats 4000000 in
set_option maxRecDepth 100000 in
theorem c_X11_run (l : Launch) (E : Ev) (st : Sg) (p1 : Int32) (p2 : Int32) : ∀ q, m_X11_run p1 p2 st = some q → CtI l (wX E) (tyE E) yX11_run cX11_run 4 (some .int) 5 121 [.ref (oX E 0), .int p1, .int p2] st q := by
  intro q h
  refine ctI_of (lv0 := [(0, .ref (oX E 0)), (1, .int p1), (2, .int p2)]) (by decide) rfl (Nat.le_of_ble_eq_true rfl) (fun C hC cx hk => ?_)
  replace cx : Cx C (tyE E) cX11_run RX11 4 5 121 := cx
  unfold m_X11_run at h
  refine v_aload_n 1 0 cx dX11_run_0 rfl rfl rfl ?_
  refine v_iload_n 2 1 cx dX11_run_1 rfl rfl rfl ?_
  refine v_iload_n 3 2 cx dX11_run_2 rfl rfl rfl ?_
  refine v_callVI 6 0 cx dX11_run_3 km_X11_301 ca_X11_refusalOfRun (wXo_0 E st) rfl (c_X11_refusalOfRun C.2.1 E st p1 p2 ) rfl (by decide) rfl (Nat.le_of_ble_eq_true rfl) rfl h (fun v2 s1 h => ?_)
  refine v_istore_n 7 (fun a3 => [(3, .int a3), (0, .ref (oX E 0)), (1, .int p1), (2, .int p2)]) cx dX11_run_6 rfl (by decide) (fun _ => rfl) rfl h (fun a3 h => ?_)
  refine v_iload_n 8 0 cx dX11_run_7 rfl rfl rfl ?_
  refine v_if_eq 17 11 cx dX11_run_8 (by decide) rfl h (fun h => ?_) (fun h => ?_)
  · refine v_aload_n 18 1 cx dX11_run_17 rfl rfl rfl ?_
    refine v_get 21 0 7 cx dX11_run_18 iX11 (wXo_0 E s1) rfl (Nat.le_of_ble_eq_true rfl) rfl kf_X11_65 rfl rfl ?_
    refine v_iload_n 22 2 cx dX11_run_21 rfl rfl rfl ?_
    refine v_iload_n 23 3 cx dX11_run_22 rfl rfl rfl ?_
    refine v_aload_n 24 1 cx dX11_run_23 rfl rfl rfl ?_
    refine v_get 27 0 8 cx dX11_run_24 iX11 (wXo_0 E s1) rfl (Nat.le_of_ble_eq_true rfl) rfl kf_X11_72 rfl rfl ?_
    refine v_callVV 30 13 cx dX11_run_27 km_X11_305 ca_X7_go (wXo_13 E s1) rfl (c_X7_go_16 C.2.1 E s1 p1 p2 ) rfl (by decide) rfl (Nat.le_of_ble_eq_true rfl) rfl h (fun _ s4 h => ?_)
    refine v_aload_n 31 1 cx dX11_run_30 rfl rfl rfl ?_
    refine v_get 34 0 8 cx dX11_run_31 iX11 (wXo_0 E s4) rfl (Nat.le_of_ble_eq_true rfl) rfl kf_X11_72 rfl rfl ?_
    refine v_getI 37 16 6 cx dX11_run_34 iX5 (wXo_16 E s4) rfl (Nat.le_of_ble_eq_true rfl) rfl kf_X11_309 rfl rfl h (fun v5 h => ?_)
    exact hk _ _ _ _ (Option.some.inj h) dX11_run_37
  · refine v_aload_n 12 1 cx dX11_run_11 rfl rfl rfl ?_
    refine v_iload_n 13 0 cx dX11_run_12 rfl rfl rfl ?_
    refine v_callVI 16 0 cx dX11_run_13 km_X11_88 ca_X11_refuse (wXo_0 E s1) rfl (c_X11_refuse C.2.1 E s1 a3 ) rfl (by decide) rfl (Nat.le_of_ble_eq_true rfl) rfl h (fun v7 s6 h => ?_)
    exact hk _ _ _ _ (Option.some.inj h) dX11_run_16
set_option maxHeartbeats 4000000 in
set_option maxRecDepth 100000 in
theorem c_X11_set (l : Launch) (E : Ev) (st : Sg) (p1 : Int32) (p2 : Int32) (p3 : Int64) : ∀ q, m_X11_set p1 p2 p3 st = some q → CtI l (wX E) (tyE E) yX11_set cX11_set 6 (some .int) 1 23 [.ref (oX E 0), .int p1, .int p2, .long p3] st q := by
  intro q h
  refine ctI_of (lv0 := [(0, .ref (oX E 0)), (1, .int p1), (2, .int p2), (3, .long p3)]) (by decide) rfl (Nat.le_of_ble_eq_true rfl) (fun C hC cx hk => ?_)
  replace cx : Cx C (tyE E) cX11_set RX11 6 1 23 := cx
  unfold m_X11_set at h
  refine v_aload_n 1 0 cx dX11_set_0 rfl rfl rfl ?_
  refine v_get 4 0 2 cx dX11_set_1 iX11 (wXo_0 E st) rfl (Nat.le_of_ble_eq_true rfl) rfl kf_X11_26 rfl rfl ?_
  refine v_iload_n 5 1 cx dX11_set_4 rfl rfl rfl ?_
  refine v_iload_n 6 2 cx dX11_set_5 rfl rfl rfl ?_
  refine v_i2l 7 cx dX11_set_6 rfl ?_
  refine v_callVI 10 5 cx dX11_set_7 km_X11_191 ca_X6_refusalAt (wXo_5 E st) rfl (c_X6_refusalAt C.2.1 E st p1 ((p2 : Int32).toInt64) ) rfl (by decide) rfl (Nat.le_of_ble_eq_true rfl) rfl h (fun v2 s1 h => ?_)
  refine v_istore 12 (fun a3 => [(5, .int a3), (0, .ref (oX E 0)), (1, .int p1), (2, .int p2), (3, .long p3)]) cx dX11_set_10 (by decide) (fun _ => rfl) rfl h (fun a3 h => ?_)
  refine v_iload 14 0 cx dX11_set_12 rfl rfl ?_
  refine v_if_eq 24 17 cx dX11_set_14 (by decide) rfl h (fun h => ?_) (fun h => ?_)
  · refine v_aload_n 25 1 cx dX11_set_24 rfl rfl rfl ?_
    refine v_get 28 0 2 cx dX11_set_25 iX11 (wXo_0 E s1) rfl (Nat.le_of_ble_eq_true rfl) rfl kf_X11_26 rfl rfl ?_
    refine v_get 31 5 2 cx dX11_set_28 iX6 (wXo_5 E s1) rfl (Nat.le_of_ble_eq_true rfl) rfl kf_X11_195 rfl rfl ?_
    refine v_iload_n 32 2 cx dX11_set_31 rfl rfl rfl ?_
    refine v_iload_n 33 3 cx dX11_set_32 rfl rfl rfl ?_
    refine v_callSI 36 cx dX11_set_33 km_X11_198 ca_X6_placeOf (c_X6_placeOf C.2.1 E s1 p1 p2 ) rfl (by decide) rfl (Nat.le_of_ble_eq_true rfl) rfl h (fun v5 s4 h => ?_)
    refine v_lload_n 37 4 cx dX11_set_36 rfl rfl rfl ?_
    refine v_last 38 38 1 cx dX11_set_37 (wXa_5_2 E s4) rfl (wXt_5_2 E s4) rfl h (fun s6 h => ?_)
    refine v_iconst 39 cx dX11_set_38 ic_1 rfl ?_
    exact hk _ _ _ _ (Option.some.inj h) dX11_set_39
  · refine v_aload_n 18 1 cx dX11_set_17 rfl rfl rfl ?_
    refine v_iload 20 0 cx dX11_set_18 rfl rfl ?_
    refine v_callVI 23 0 cx dX11_set_20 km_X11_88 ca_X11_refuse (wXo_0 E s1) rfl (c_X11_refuse C.2.1 E s1 a3 ) rfl (by decide) rfl (Nat.le_of_ble_eq_true rfl) rfl h (fun v8 s7 h => ?_)
    exact hk _ _ _ _ (Option.some.inj h) dX11_set_23
set_option maxHeartbeats 4000000 in
set_option maxRecDepth 100000 in
theorem c_X11_status (l : Launch) (E : Ev) (st : Sg) (p1 : Int32) : ∀ q, m_X11_status p1 st = some q → CtI l (wX E) (tyE E) yX11_status cX11_status 2 (some .int) 1 21 [.ref (oX E 0), .int p1] st q := by
  intro q h
  refine ctI_of (lv0 := [(0, .ref (oX E 0)), (1, .int p1)]) (by decide) rfl (Nat.le_of_ble_eq_true rfl) (fun C hC cx hk => ?_)
  replace cx : Cx C (tyE E) cX11_status RX11 2 1 21 := cx
  unfold m_X11_status at h
  refine v_iload_n 1 1 cx dX11_status_0 rfl rfl rfl ?_
  refine v_bipush 3 cx dX11_status_1 bp_m11 rfl ?_
  refine v_icmp_lt 12 6 cx dX11_status_3 (by decide) rfl h (fun h => ?_) (fun h => ?_)
  · refine v_aload_n 13 0 cx dX11_status_12 rfl rfl rfl ?_
    refine v_bipush 15 cx dX11_status_13 bp_m9 rfl ?_
    refine v_callVI 18 0 cx dX11_status_15 km_X11_88 ca_X11_refuse (wXo_0 E st) rfl (c_X11_refuse C.2.1 E st (-9) ) rfl (by decide) rfl (Nat.le_of_ble_eq_true rfl) rfl h (fun v2 s1 h => ?_)
    exact hk _ _ _ _ (Option.some.inj h) dX11_status_18
  · refine v_iload_n 7 1 cx dX11_status_6 rfl rfl rfl ?_
    refine v_bipush 9 cx dX11_status_7 bp_m2 rfl ?_
    refine v_icmp_le 19 12 cx dX11_status_9 (by decide) rfl h (fun h => ?_) (fun h => ?_)
    · refine v_aload_n 20 0 cx dX11_status_19 rfl rfl rfl ?_
      refine v_get 23 0 10 cx dX11_status_20 iX11 (wXo_0 E st) rfl (Nat.le_of_ble_eq_true rfl) rfl kf_X11_80 rfl rfl ?_
      refine v_iload_n 24 1 cx dX11_status_23 rfl rfl rfl ?_
      refine v_ineg 25 cx dX11_status_24 rfl ?_
      refine v_iald 26 17 0 cx dX11_status_25 (wXa_0_10 E st) rfl rfl h (fun v3 h => ?_)
      exact hk _ _ _ _ (Option.some.inj h) dX11_status_26
    · refine v_aload_n 13 0 cx dX11_status_12 rfl rfl rfl ?_
      refine v_bipush 15 cx dX11_status_13 bp_m9 rfl ?_
      refine v_callVI 18 0 cx dX11_status_15 km_X11_88 ca_X11_refuse (wXo_0 E st) rfl (c_X11_refuse C.2.1 E st (-9) ) rfl (by decide) rfl (Nat.le_of_ble_eq_true rfl) rfl h (fun v5 s4 h => ?_)
      exact hk _ _ _ _ (Option.some.inj h) dX11_status_18
set_option maxHeartbeats 4000000 in
set_option maxRecDepth 100000 in
theorem c_X11_store (l : Launch) (E : Ev) (st : Sg) (p1 : Int32) (p2 : Int32) (p3 : Int32) (p4 : Int32) (p5 : Int32) : ∀ q, m_X11_store p1 p2 p3 p4 p5 st = some q → CtI l (wX E) (tyE E) yX11_store cX11_store 7 (some .int) 2 47 [.ref (oX E 0), .int p1, .int p2, .int p3, .int p4, .int p5] st q := by
  intro q h
  refine ctI_of (lv0 := [(0, .ref (oX E 0)), (1, .int p1), (2, .int p2), (3, .int p3), (4, .int p4), (5, .int p5)]) (by decide) rfl (Nat.le_of_ble_eq_true rfl) (fun C hC cx hk => ?_)
  replace cx : Cx C (tyE E) cX11_store RX11 7 2 47 := cx
  unfold m_X11_store at h
  refine v_iload_n 1 3 cx dX11_store_0 rfl rfl rfl ?_
  refine v_callSI 4 cx dX11_store_1 km_X11_98 ca_X11_isBack (c_X11_isBack C.2.1 E st p3 ) rfl (by decide) rfl (Nat.le_of_ble_eq_true rfl) rfl h (fun v2 s1 h => ?_)
  refine v_if_eq 15 7 cx dX11_store_4 (by decide) rfl h (fun h => ?_) (fun h => ?_)
  · refine v_aload_n 16 0 cx dX11_store_15 rfl rfl rfl ?_
    refine v_bipush 18 cx dX11_store_16 bp_m9 rfl ?_
    refine v_callVI 21 0 cx dX11_store_18 km_X11_88 ca_X11_refuse (wXo_0 E s1) rfl (c_X11_refuse C.2.1 E s1 (-9) ) rfl (by decide) rfl (Nat.le_of_ble_eq_true rfl) rfl h (fun v4 s3 h => ?_)
    exact hk _ _ _ _ (Option.some.inj h) dX11_store_21
  · refine v_iload 9 5 cx dX11_store_7 rfl rfl ?_
    refine v_callSI 12 cx dX11_store_9 km_X11_98 ca_X11_isBack (c_X11_isBack C.2.1 E s1 p5 ) rfl (by decide) rfl (Nat.le_of_ble_eq_true rfl) rfl h (fun v6 s5 h => ?_)
    refine v_if_ne 22 15 cx dX11_store_12 (by decide) rfl h (fun h => ?_) (fun h => ?_)
    · refine v_iload_n 23 1 cx dX11_store_22 rfl rfl rfl ?_
      refine v_callSI 26 cx dX11_store_23 km_X11_110 ca_X11_isSlot (c_X11_isSlot C.2.1 E s5 p1 ) rfl (by decide) rfl (Nat.le_of_ble_eq_true rfl) rfl h (fun v8 s7 h => ?_)
      refine v_if_eq 55 29 cx dX11_store_26 (by decide) rfl h (fun h => ?_) (fun h => ?_)
      · refine v_aload_n 56 0 cx dX11_store_55 rfl rfl rfl ?_
        refine v_bipush 58 cx dX11_store_56 bp_m3 rfl ?_
        refine v_callVI 61 0 cx dX11_store_58 km_X11_88 ca_X11_refuse (wXo_0 E s7) rfl (c_X11_refuse C.2.1 E s7 (-3) ) rfl (by decide) rfl (Nat.le_of_ble_eq_true rfl) rfl h (fun v10 s9 h => ?_)
        exact hk _ _ _ _ (Option.some.inj h) dX11_store_61
      · refine v_aload_n 30 0 cx dX11_store_29 rfl rfl rfl ?_
        refine v_get 33 0 0 cx dX11_store_30 iX11 (wXo_0 E s7) rfl (Nat.le_of_ble_eq_true rfl) rfl kf_X11_10 rfl rfl ?_
        refine v_iload_n 34 2 cx dX11_store_33 rfl rfl rfl ?_
        refine v_iload_n 35 3 cx dX11_store_34 rfl rfl rfl ?_
        refine v_callVI 38 1 cx dX11_store_35 km_X11_102 ca_X0_mayTake (wXo_1 E s7) rfl (c_X0_mayTake C.2.1 E s7 p2 p3 ) rfl (by decide) rfl (Nat.le_of_ble_eq_true rfl) rfl h (fun v12 s11 h => ?_)
        refine v_if_eq 55 41 cx dX11_store_38 (by decide) rfl h (fun h => ?_) (fun h => ?_)
        · refine v_aload_n 56 0 cx dX11_store_55 rfl rfl rfl ?_
          refine v_bipush 58 cx dX11_store_56 bp_m3 rfl ?_
          refine v_callVI 61 0 cx dX11_store_58 km_X11_88 ca_X11_refuse (wXo_0 E s11) rfl (c_X11_refuse C.2.1 E s11 (-3) ) rfl (by decide) rfl (Nat.le_of_ble_eq_true rfl) rfl h (fun v14 s13 h => ?_)
          exact hk _ _ _ _ (Option.some.inj h) dX11_store_61
        · refine v_aload_n 42 0 cx dX11_store_41 rfl rfl rfl ?_
          refine v_get 45 0 0 cx dX11_store_42 iX11 (wXo_0 E s11) rfl (Nat.le_of_ble_eq_true rfl) rfl kf_X11_10 rfl rfl ?_
          refine v_iload 47 4 cx dX11_store_45 rfl rfl ?_
          refine v_iload 49 5 cx dX11_store_47 rfl rfl ?_
          refine v_callVI 52 1 cx dX11_store_49 km_X11_102 ca_X0_mayTake (wXo_1 E s11) rfl (c_X0_mayTake C.2.1 E s11 p4 p5 ) rfl (by decide) rfl (Nat.le_of_ble_eq_true rfl) rfl h (fun v16 s15 h => ?_)
          refine v_if_ne 62 55 cx dX11_store_52 (by decide) rfl h (fun h => ?_) (fun h => ?_)
          · refine v_aload_n 63 0 cx dX11_store_62 rfl rfl rfl ?_
            refine v_get 66 0 0 cx dX11_store_63 iX11 (wXo_0 E s15) rfl (Nat.le_of_ble_eq_true rfl) rfl kf_X11_10 rfl rfl ?_
            refine v_iconst 67 cx dX11_store_66 ic_5 rfl ?_
            refine v_callVI 70 1 cx dX11_store_67 km_X11_84 ca_X0_open (wXo_1 E s15) rfl (c_X0_open C.2.1 E s15 5 ) rfl (by decide) rfl (Nat.le_of_ble_eq_true rfl) rfl h (fun v18 s17 h => ?_)
            refine v_istore 72 (fun a19 => [(6, .int a19), (0, .ref (oX E 0)), (1, .int p1), (2, .int p2), (3, .int p3), (4, .int p4), (5, .int p5)]) cx dX11_store_70 (by decide) (fun _ => rfl) rfl h (fun a19 h => ?_)
            refine v_iload 74 0 cx dX11_store_72 rfl rfl ?_
            refine v_iconst 75 cx dX11_store_74 ic_m1 rfl ?_
            refine v_icmp_ne 85 78 cx dX11_store_75 (by decide) rfl h (fun h => ?_) (fun h => ?_)
            · refine v_aload_n 86 1 cx dX11_store_85 rfl rfl rfl ?_
              refine v_get 89 0 0 cx dX11_store_86 iX11 (wXo_0 E s17) rfl (Nat.le_of_ble_eq_true rfl) rfl kf_X11_10 rfl rfl ?_
              refine v_get 92 1 5 cx dX11_store_89 iX0 (wXo_1 E s17) rfl (Nat.le_of_ble_eq_true rfl) rfl kf_X11_113 rfl rfl ?_
              refine v_iload 94 0 cx dX11_store_92 rfl rfl ?_
              refine v_iload_n 95 2 cx dX11_store_94 rfl rfl rfl ?_
              refine v_iast 96 22 0 cx dX11_store_95 (wXa_1_5 E s17) rfl (wXt_1_5 E s17) rfl h (fun s20 h => ?_)
              refine v_aload_n 97 1 cx dX11_store_96 rfl rfl rfl ?_
              refine v_get 100 0 0 cx dX11_store_97 iX11 (wXo_0 E s20) rfl (Nat.le_of_ble_eq_true rfl) rfl kf_X11_10 rfl rfl ?_
              refine v_iload 102 0 cx dX11_store_100 rfl rfl ?_
              refine v_iconst 103 cx dX11_store_102 ic_0 rfl ?_
              refine v_iload_n 104 3 cx dX11_store_103 rfl rfl rfl ?_
              refine v_iload_n 105 4 cx dX11_store_104 rfl rfl rfl ?_
              refine v_callVV 108 1 cx dX11_store_105 km_X11_106 ca_X0_take (wXo_1 E s20) rfl (c_X0_take C.2.1 E s20 a19 0 p2 p3 ) rfl (by decide) rfl (Nat.le_of_ble_eq_true rfl) rfl h (fun _ s21 h => ?_)
              refine v_aload_n 109 1 cx dX11_store_108 rfl rfl rfl ?_
              refine v_get 112 0 0 cx dX11_store_109 iX11 (wXo_0 E s21) rfl (Nat.le_of_ble_eq_true rfl) rfl kf_X11_10 rfl rfl ?_
              refine v_iload 114 0 cx dX11_store_112 rfl rfl ?_
              refine v_iconst 115 cx dX11_store_114 ic_1 rfl ?_
              refine v_iload 117 5 cx dX11_store_115 rfl rfl ?_
              refine v_iload 119 6 cx dX11_store_117 rfl rfl ?_
              refine v_callVV 122 1 cx dX11_store_119 km_X11_106 ca_X0_take (wXo_1 E s21) rfl (c_X0_take C.2.1 E s21 a19 1 p4 p5 ) rfl (by decide) rfl (Nat.le_of_ble_eq_true rfl) rfl h (fun _ s22 h => ?_)
              refine v_aload_n 123 1 cx dX11_store_122 rfl rfl rfl ?_
              refine v_callVV 126 0 cx dX11_store_123 km_X11_95 ca_X11_bodyChanged (wXo_0 E s22) rfl (c_X11_bodyChanged C.2.1 E s22 ) rfl (by decide) rfl (Nat.le_of_ble_eq_true rfl) rfl h (fun _ s23 h => ?_)
              refine v_iload 128 0 cx dX11_store_126 rfl rfl ?_
              exact hk _ _ _ _ (Option.some.inj h) dX11_store_128
            · refine v_aload_n 79 1 cx dX11_store_78 rfl rfl rfl ?_
              refine v_bipush 81 cx dX11_store_79 bp_m10 rfl ?_
              refine v_callVI 84 0 cx dX11_store_81 km_X11_88 ca_X11_refuse (wXo_0 E s17) rfl (c_X11_refuse C.2.1 E s17 (-10) ) rfl (by decide) rfl (Nat.le_of_ble_eq_true rfl) rfl h (fun v25 s24 h => ?_)
              exact hk _ _ _ _ (Option.some.inj h) dX11_store_84
          · refine v_aload_n 56 0 cx dX11_store_55 rfl rfl rfl ?_
            refine v_bipush 58 cx dX11_store_56 bp_m3 rfl ?_
            refine v_callVI 61 0 cx dX11_store_58 km_X11_88 ca_X11_refuse (wXo_0 E s15) rfl (c_X11_refuse C.2.1 E s15 (-3) ) rfl (by decide) rfl (Nat.le_of_ble_eq_true rfl) rfl h (fun v27 s26 h => ?_)
            exact hk _ _ _ _ (Option.some.inj h) dX11_store_61
    · refine v_aload_n 16 0 cx dX11_store_15 rfl rfl rfl ?_
      refine v_bipush 18 cx dX11_store_16 bp_m9 rfl ?_
      refine v_callVI 21 0 cx dX11_store_18 km_X11_88 ca_X11_refuse (wXo_0 E s5) rfl (c_X11_refuse C.2.1 E s5 (-9) ) rfl (by decide) rfl (Nat.le_of_ble_eq_true rfl) rfl h (fun v29 s28 h => ?_)
      exact hk _ _ _ _ (Option.some.inj h) dX11_store_21
set_option maxHeartbeats 4000000 in
set_option maxRecDepth 100000 in
theorem c_X11_tick (l : Launch) (E : Ev) (st : Sg) (p1 : Int32) (p2 : Int32) : ∀ q, m_X11_tick p1 p2 st = some q → CtI l (wX E) (tyE E) yX11_tick cX11_tick 3 (some .int) 1 21 [.ref (oX E 0), .int p1, .int p2] st q := by
  intro q h
  refine ctI_of (lv0 := [(0, .ref (oX E 0)), (1, .int p1), (2, .int p2)]) (by decide) rfl (Nat.le_of_ble_eq_true rfl) (fun C hC cx hk => ?_)
  replace cx : Cx C (tyE E) cX11_tick RX11 3 1 21 := cx
  unfold m_X11_tick at h
  refine v_aload_n 1 0 cx dX11_tick_0 rfl rfl rfl ?_
  refine v_get 4 0 5 cx dX11_tick_1 iX11 (wXo_0 E st) rfl (Nat.le_of_ble_eq_true rfl) rfl kf_X11_49 rfl rfl ?_
  refine v_getI 7 9 0 cx dX11_tick_4 iX4 (wXo_9 E st) rfl (Nat.le_of_ble_eq_true rfl) rfl kf_X11_241 rfl rfl h (fun v1 h => ?_)
  refine v_if_ne 17 10 cx dX11_tick_7 (by decide) rfl h (fun h => ?_) (fun h => ?_)
  · refine v_aload_n 18 0 cx dX11_tick_17 rfl rfl rfl ?_
    refine v_get 21 0 0 cx dX11_tick_18 iX11 (wXo_0 E st) rfl (Nat.le_of_ble_eq_true rfl) rfl kf_X11_10 rfl rfl ?_
    refine v_iload_n 22 1 cx dX11_tick_21 rfl rfl rfl ?_
    refine v_callVI 25 1 cx dX11_tick_22 km_X11_116 ca_X0_has (wXo_1 E st) rfl (c_X0_has C.2.1 E st p1 ) rfl (by decide) rfl (Nat.le_of_ble_eq_true rfl) rfl h (fun v3 s2 h => ?_)
    refine v_if_ne 35 28 cx dX11_tick_25 (by decide) rfl h (fun h => ?_) (fun h => ?_)
    · refine v_iload_n 36 2 cx dX11_tick_35 rfl rfl rfl ?_
      refine v_tabC 72 0 (ck := 0) cx dX11_tick_36 (by decide) (by decide) rfl (by decide) (fun i hi => absurd hi (Nat.not_lt_zero i)) h (fun h => ?_) (fun hn h => ?_)
      · refine v_aload_n 73 0 cx dX11_tick_72 rfl rfl rfl ?_
        refine v_get 76 0 5 cx dX11_tick_73 iX11 (wXo_0 E s2) rfl (Nat.le_of_ble_eq_true rfl) rfl kf_X11_49 rfl rfl ?_
        refine v_get 79 9 3 cx dX11_tick_76 iX4 (wXo_9 E s2) rfl (Nat.le_of_ble_eq_true rfl) rfl kf_X11_255 rfl rfl ?_
        refine v_iload_n 80 1 cx dX11_tick_79 rfl rfl rfl ?_
        refine v_iald 81 48 0 cx dX11_tick_80 (wXa_9_3 E s2) rfl rfl h (fun v4 h => ?_)
        exact hk _ _ _ _ (Option.some.inj h) dX11_tick_81
      · refine v_tabC 82 1 (ck := 1) cx dX11_tick_36 (by decide) (by decide) rfl (by decide) hn h (fun h => ?_) (fun hn h => ?_)
        · refine v_aload_n 83 0 cx dX11_tick_82 rfl rfl rfl ?_
          refine v_get 86 0 5 cx dX11_tick_83 iX11 (wXo_0 E s2) rfl (Nat.le_of_ble_eq_true rfl) rfl kf_X11_49 rfl rfl ?_
          refine v_get 89 9 4 cx dX11_tick_86 iX4 (wXo_9 E s2) rfl (Nat.le_of_ble_eq_true rfl) rfl kf_X11_258 rfl rfl ?_
          refine v_iload_n 90 1 cx dX11_tick_89 rfl rfl rfl ?_
          refine v_iald 91 49 0 cx dX11_tick_90 (wXa_9_4 E s2) rfl rfl h (fun v5 h => ?_)
          exact hk _ _ _ _ (Option.some.inj h) dX11_tick_91
        · refine v_tabC 92 2 (ck := 2) cx dX11_tick_36 (by decide) (by decide) rfl (by decide) hn h (fun h => ?_) (fun hn h => ?_)
          · refine v_aload_n 93 0 cx dX11_tick_92 rfl rfl rfl ?_
            refine v_get 96 0 5 cx dX11_tick_93 iX11 (wXo_0 E s2) rfl (Nat.le_of_ble_eq_true rfl) rfl kf_X11_49 rfl rfl ?_
            refine v_get 99 9 5 cx dX11_tick_96 iX4 (wXo_9 E s2) rfl (Nat.le_of_ble_eq_true rfl) rfl kf_X11_261 rfl rfl ?_
            refine v_iload_n 100 1 cx dX11_tick_99 rfl rfl rfl ?_
            refine v_iald 101 50 0 cx dX11_tick_100 (wXa_9_5 E s2) rfl rfl h (fun v6 h => ?_)
            exact hk _ _ _ _ (Option.some.inj h) dX11_tick_101
          · refine v_tabC 102 3 (ck := 3) cx dX11_tick_36 (by decide) (by decide) rfl (by decide) hn h (fun h => ?_) (fun hn h => ?_)
            · refine v_aload_n 103 0 cx dX11_tick_102 rfl rfl rfl ?_
              refine v_get 106 0 5 cx dX11_tick_103 iX11 (wXo_0 E s2) rfl (Nat.le_of_ble_eq_true rfl) rfl kf_X11_49 rfl rfl ?_
              refine v_get 109 9 7 cx dX11_tick_106 iX4 (wXo_9 E s2) rfl (Nat.le_of_ble_eq_true rfl) rfl kf_X11_264 rfl rfl ?_
              refine v_iload_n 110 1 cx dX11_tick_109 rfl rfl rfl ?_
              refine v_iald 111 52 0 cx dX11_tick_110 (wXa_9_7 E s2) rfl rfl h (fun v7 h => ?_)
              exact hk _ _ _ _ (Option.some.inj h) dX11_tick_111
            · refine v_tabC 112 4 (ck := 4) cx dX11_tick_36 (by decide) (by decide) rfl (by decide) hn h (fun h => ?_) (fun hn h => ?_)
              · refine v_aload_n 113 0 cx dX11_tick_112 rfl rfl rfl ?_
                refine v_get 116 0 5 cx dX11_tick_113 iX11 (wXo_0 E s2) rfl (Nat.le_of_ble_eq_true rfl) rfl kf_X11_49 rfl rfl ?_
                refine v_get 119 9 8 cx dX11_tick_116 iX4 (wXo_9 E s2) rfl (Nat.le_of_ble_eq_true rfl) rfl kf_X11_267 rfl rfl ?_
                refine v_iload_n 120 1 cx dX11_tick_119 rfl rfl rfl ?_
                refine v_iald 121 53 0 cx dX11_tick_120 (wXa_9_8 E s2) rfl rfl h (fun v8 h => ?_)
                exact hk _ _ _ _ (Option.some.inj h) dX11_tick_121
              · refine v_tabD 122 5 cx dX11_tick_36 (by decide) (by decide) hn ?_
                refine v_aload_n 123 0 cx dX11_tick_122 rfl rfl rfl ?_
                refine v_bipush 125 cx dX11_tick_123 bp_m9 rfl ?_
                refine v_callVI 128 0 cx dX11_tick_125 km_X11_88 ca_X11_refuse (wXo_0 E s2) rfl (c_X11_refuse C.2.1 E s2 (-9) ) rfl (by decide) rfl (Nat.le_of_ble_eq_true rfl) rfl h (fun v10 s9 h => ?_)
                exact hk _ _ _ _ (Option.some.inj h) dX11_tick_128
    · refine v_aload_n 29 0 cx dX11_tick_28 rfl rfl rfl ?_
      refine v_bipush 31 cx dX11_tick_29 bp_m3 rfl ?_
      refine v_callVI 34 0 cx dX11_tick_31 km_X11_88 ca_X11_refuse (wXo_0 E s2) rfl (c_X11_refuse C.2.1 E s2 (-3) ) rfl (by decide) rfl (Nat.le_of_ble_eq_true rfl) rfl h (fun v12 s11 h => ?_)
      exact hk _ _ _ _ (Option.some.inj h) dX11_tick_34
  · refine v_aload_n 11 0 cx dX11_tick_10 rfl rfl rfl ?_
    refine v_bipush 13 cx dX11_tick_11 bp_m2 rfl ?_
    refine v_callVI 16 0 cx dX11_tick_13 km_X11_88 ca_X11_refuse (wXo_0 E st) rfl (c_X11_refuse C.2.1 E st (-2) ) rfl (by decide) rfl (Nat.le_of_ble_eq_true rfl) rfl h (fun v14 s13 h => ?_)
    exact hk _ _ _ _ (Option.some.inj h) dX11_tick_16
set_option maxHeartbeats 4000000 in
set_option maxRecDepth 100000 in
theorem c_X11_told (l : Launch) (E : Ev) (st : Sg) (p1 : Int32) : ∀ q, m_X11_told p1 st = some q → CtI l (wX E) (tyE E) yX11_told cX11_told 2 (some .int) 1 21 [.ref (oX E 0), .int p1] st q := by
  intro q h
  refine ctI_of (lv0 := [(0, .ref (oX E 0)), (1, .int p1)]) (by decide) rfl (Nat.le_of_ble_eq_true rfl) (fun C hC cx hk => ?_)
  replace cx : Cx C (tyE E) cX11_told RX11 2 1 21 := cx
  unfold m_X11_told at h
  refine v_iload_n 1 1 cx dX11_told_0 rfl rfl rfl ?_
  refine v_tabC 40 0 (ck := 0) cx dX11_told_1 (by decide) (by decide) rfl (by decide) (fun i hi => absurd hi (Nat.not_lt_zero i)) h (fun h => ?_) (fun hn h => ?_)
  · refine v_aload_n 41 0 cx dX11_told_40 rfl rfl rfl ?_
    refine v_get 44 0 8 cx dX11_told_41 iX11 (wXo_0 E st) rfl (Nat.le_of_ble_eq_true rfl) rfl kf_X11_72 rfl rfl ?_
    refine v_getI 47 16 0 cx dX11_told_44 iX5 (wXo_16 E st) rfl (Nat.le_of_ble_eq_true rfl) rfl kf_X11_315 rfl rfl h (fun v1 h => ?_)
    exact hk _ _ _ _ (Option.some.inj h) dX11_told_47
  · refine v_tabC 48 1 (ck := 1) cx dX11_told_1 (by decide) (by decide) rfl (by decide) hn h (fun h => ?_) (fun hn h => ?_)
    · refine v_aload_n 49 0 cx dX11_told_48 rfl rfl rfl ?_
      refine v_get 52 0 8 cx dX11_told_49 iX11 (wXo_0 E st) rfl (Nat.le_of_ble_eq_true rfl) rfl kf_X11_72 rfl rfl ?_
      refine v_getI 55 16 1 cx dX11_told_52 iX5 (wXo_16 E st) rfl (Nat.le_of_ble_eq_true rfl) rfl kf_X11_318 rfl rfl h (fun v2 h => ?_)
      exact hk _ _ _ _ (Option.some.inj h) dX11_told_55
    · refine v_tabC 56 2 (ck := 2) cx dX11_told_1 (by decide) (by decide) rfl (by decide) hn h (fun h => ?_) (fun hn h => ?_)
      · refine v_aload_n 57 0 cx dX11_told_56 rfl rfl rfl ?_
        refine v_get 60 0 8 cx dX11_told_57 iX11 (wXo_0 E st) rfl (Nat.le_of_ble_eq_true rfl) rfl kf_X11_72 rfl rfl ?_
        refine v_getI 63 16 2 cx dX11_told_60 iX5 (wXo_16 E st) rfl (Nat.le_of_ble_eq_true rfl) rfl kf_X11_321 rfl rfl h (fun v3 h => ?_)
        exact hk _ _ _ _ (Option.some.inj h) dX11_told_63
      · refine v_tabC 64 3 (ck := 3) cx dX11_told_1 (by decide) (by decide) rfl (by decide) hn h (fun h => ?_) (fun hn h => ?_)
        · refine v_aload_n 65 0 cx dX11_told_64 rfl rfl rfl ?_
          refine v_get 68 0 8 cx dX11_told_65 iX11 (wXo_0 E st) rfl (Nat.le_of_ble_eq_true rfl) rfl kf_X11_72 rfl rfl ?_
          refine v_getI 71 16 3 cx dX11_told_68 iX5 (wXo_16 E st) rfl (Nat.le_of_ble_eq_true rfl) rfl kf_X11_324 rfl rfl h (fun v4 h => ?_)
          exact hk _ _ _ _ (Option.some.inj h) dX11_told_71
        · refine v_tabC 72 4 (ck := 4) cx dX11_told_1 (by decide) (by decide) rfl (by decide) hn h (fun h => ?_) (fun hn h => ?_)
          · refine v_aload_n 73 0 cx dX11_told_72 rfl rfl rfl ?_
            refine v_get 76 0 8 cx dX11_told_73 iX11 (wXo_0 E st) rfl (Nat.le_of_ble_eq_true rfl) rfl kf_X11_72 rfl rfl ?_
            refine v_getI 79 16 4 cx dX11_told_76 iX5 (wXo_16 E st) rfl (Nat.le_of_ble_eq_true rfl) rfl kf_X11_327 rfl rfl h (fun v5 h => ?_)
            exact hk _ _ _ _ (Option.some.inj h) dX11_told_79
          · refine v_tabC 80 5 (ck := 5) cx dX11_told_1 (by decide) (by decide) rfl (by decide) hn h (fun h => ?_) (fun hn h => ?_)
            · refine v_aload_n 81 0 cx dX11_told_80 rfl rfl rfl ?_
              refine v_get 84 0 8 cx dX11_told_81 iX11 (wXo_0 E st) rfl (Nat.le_of_ble_eq_true rfl) rfl kf_X11_72 rfl rfl ?_
              refine v_getI 87 16 5 cx dX11_told_84 iX5 (wXo_16 E st) rfl (Nat.le_of_ble_eq_true rfl) rfl kf_X11_330 rfl rfl h (fun v6 h => ?_)
              refine v_if_eq 94 90 cx dX11_told_87 (by decide) rfl h (fun h => ?_) (fun h => ?_)
              · refine v_iconst 95 cx dX11_told_94 ic_0 rfl ?_
                exact hk _ _ _ _ (Option.some.inj h) dX11_told_95
              · refine v_iconst 91 cx dX11_told_90 ic_1 rfl ?_
                refine v_goto 95 cx dX11_told_91 (by decide) ?_
                exact hk _ _ _ _ (Option.some.inj h) dX11_told_95
            · refine v_tabD 96 6 cx dX11_told_1 (by decide) (by decide) hn ?_
              refine v_aload_n 97 0 cx dX11_told_96 rfl rfl rfl ?_
              refine v_bipush 99 cx dX11_told_97 bp_m9 rfl ?_
              refine v_callVI 102 0 cx dX11_told_99 km_X11_88 ca_X11_refuse (wXo_0 E st) rfl (c_X11_refuse C.2.1 E st (-9) ) rfl (by decide) rfl (Nat.le_of_ble_eq_true rfl) rfl h (fun v8 s7 h => ?_)
              exact hk _ _ _ _ (Option.some.inj h) dX11_told_102
set_option maxHeartbeats 4000000 in
set_option maxRecDepth 100000 in
theorem c_X11_trials (l : Launch) (E : Ev) (st : Sg) : ∀ q, m_X11_trials st = some q → CtI l (wX E) (tyE E) yX11_trials cX11_trials 1 (some .int) 0 0 [.ref (oX E 0)] st q := by
  intro q h
  refine ctI_of (lv0 := [(0, .ref (oX E 0))]) (by decide) rfl (Nat.le_of_ble_eq_true rfl) (fun C hC cx hk => ?_)
  replace cx : Cx C (tyE E) cX11_trials RX11 1 0 0 := cx
  unfold m_X11_trials at h
  refine v_aload_n 1 0 cx dX11_trials_0 rfl rfl rfl ?_
  refine v_get 4 0 4 cx dX11_trials_1 iX11 (wXo_0 E st) rfl (Nat.le_of_ble_eq_true rfl) rfl kf_X11_42 rfl rfl ?_
  refine v_getI 7 7 10 cx dX11_trials_4 iX8 (wXo_7 E st) rfl (Nat.le_of_ble_eq_true rfl) rfl kf_X11_220 rfl rfl h (fun v1 h => ?_)
  exact hk _ _ _ _ (Option.some.inj h) dX11_trials_7
def V_X1_dropAct_L4_2 (C : Cm) (E : Ev) (x1 : Int32) (s : (Int32 × Int32 × Sg)) : Prop := Vat C (wX E) 4 4 [(0, .ref (oX E 2)), (1, .int x1), (2, .int s.1), (3, .int s.2.1)] [] s.2.2
def K_X1_dropAct_L4_2 (C : Cm) (E : Ev) (x1 : Int32) : (Int32 × Sg) → Prop := (fun r : (Int32 × Sg) => Vat C (wX E) 4 70 [(0, .ref (oX E 2)), (2, .int r.1)] [] r.2)
set_option maxHeartbeats 4000000 in
set_option maxRecDepth 100000 in
theorem b_X1_dropAct_L4_2 {C : Cm} {E : Ev} (cx : Cx C (tyE E) cX1_dropAct RX1 4 1 25) (x1 : Int32) : ∀ (s : (Int32 × Int32 × Sg)) (out : (Int32 × Int32 × Sg) ⊕ (Int32 × Sg)), m_X1_dropAct_L4 2 x1 s.1 s.2.1 s.2.2 = some out → Sum.elim (V_X1_dropAct_L4_2 C E x1) (K_X1_dropAct_L4_2 C E x1) out → V_X1_dropAct_L4_2 C E x1 s := by
  intro s out h hk
  obtain ⟨x2, x3, st⟩ := s
  show Vat C (wX E) 4 4 [(0, .ref (oX E 2)), (1, .int x1), (2, .int x2), (3, .int x3)] [] st
  replace h : m_X1_dropAct_L4 2 x1 x2 x3 st = some out := h
  unfold m_X1_dropAct_L4 at h
  refine v_iload_n 5 3 cx dX1_dropAct_4 rfl rfl rfl ?_
  refine v_aload_n 6 0 cx dX1_dropAct_5 rfl rfl rfl ?_
  refine v_getI 9 2 0 cx dX1_dropAct_6 iX1 (wXo_2 E st) rfl (Nat.le_of_ble_eq_true rfl) rfl kf_X1_7 rfl rfl h (fun v3 h => ?_)
  refine v_icmp_ge 70 12 cx dX1_dropAct_9 (by decide) rfl h (fun h => ?_) (fun h => ?_)
  · cases h
    have hk : Vat C (wX E) 4 70 [(0, .ref (oX E 2)), (2, .int x2)] [] st := hk
    exact v_lsub (lv' := [(0, .ref (oX E 2)), (2, .int x2)]) [0, 2] rfl (hk)
  · refine v_aload_n 13 0 cx dX1_dropAct_12 rfl rfl rfl ?_
    refine v_get 16 2 1 cx dX1_dropAct_13 iX1 (wXo_2 E st) rfl (Nat.le_of_ble_eq_true rfl) rfl kf_X1_19 rfl rfl ?_
    refine v_iload_n 17 3 cx dX1_dropAct_16 rfl rfl rfl ?_
    refine v_iald 18 28 0 cx dX1_dropAct_17 (wXa_2_1 E st) rfl rfl h (fun v4 h => ?_)
    refine v_iload_n 19 1 cx dX1_dropAct_18 rfl rfl rfl ?_
    refine v_icmp_eq 64 22 cx dX1_dropAct_19 (by decide) rfl h (fun h => ?_) (fun h => ?_)
    · refine v_iinc 67 3 (fun a5 => [(3, .int a5), (0, .ref (oX E 2)), (1, .int x1), (2, .int x2)]) cx dX1_dropAct_64 rfl ic_1 (by decide) (fun _ => rfl) rfl h (fun a5 h => ?_)
      refine v_goto 4 cx dX1_dropAct_67 (by decide) ?_
      cases h
      have hk : Vat C (wX E) 4 4 [(0, .ref (oX E 2)), (1, .int x1), (2, .int x2), (3, .int a5)] [] st := hk
      exact v_lsub (lv' := [(0, .ref (oX E 2)), (1, .int x1), (2, .int x2), (3, .int a5)]) [1, 2, 3, 0] rfl (hk)
    · refine v_aload_n 23 0 cx dX1_dropAct_22 rfl rfl rfl ?_
      refine v_get 26 2 2 cx dX1_dropAct_23 iX1 (wXo_2 E st) rfl (Nat.le_of_ble_eq_true rfl) rfl kf_X1_23 rfl rfl ?_
      refine v_iload_n 27 3 cx dX1_dropAct_26 rfl rfl rfl ?_
      refine v_iald 28 29 0 cx dX1_dropAct_27 (wXa_2_2 E st) rfl rfl h (fun v6 h => ?_)
      refine v_iload_n 29 1 cx dX1_dropAct_28 rfl rfl rfl ?_
      refine v_icmp_eq 64 32 cx dX1_dropAct_29 (by decide) rfl h (fun h => ?_) (fun h => ?_)
      · refine v_iinc 67 3 (fun a7 => [(3, .int a7), (0, .ref (oX E 2)), (1, .int x1), (2, .int x2)]) cx dX1_dropAct_64 rfl ic_1 (by decide) (fun _ => rfl) rfl h (fun a7 h => ?_)
        refine v_goto 4 cx dX1_dropAct_67 (by decide) ?_
        cases h
        have hk : Vat C (wX E) 4 4 [(0, .ref (oX E 2)), (1, .int x1), (2, .int x2), (3, .int a7)] [] st := hk
        exact v_lsub (lv' := [(0, .ref (oX E 2)), (1, .int x1), (2, .int x2), (3, .int a7)]) [1, 2, 3, 0] rfl (hk)
      · refine v_aload_n 33 0 cx dX1_dropAct_32 rfl rfl rfl ?_
        refine v_iload_n 34 2 cx dX1_dropAct_33 rfl rfl rfl ?_
        refine v_aload_n 35 0 cx dX1_dropAct_34 rfl rfl rfl ?_
        refine v_get 38 2 1 cx dX1_dropAct_35 iX1 (wXo_2 E st) rfl (Nat.le_of_ble_eq_true rfl) rfl kf_X1_19 rfl rfl ?_
        refine v_iload_n 39 3 cx dX1_dropAct_38 rfl rfl rfl ?_
        refine v_iald 40 28 0 cx dX1_dropAct_39 (wXa_2_1 E st) rfl rfl h (fun v8 h => ?_)
        refine v_aload_n 41 0 cx dX1_dropAct_40 rfl rfl rfl ?_
        refine v_get 44 2 2 cx dX1_dropAct_41 iX1 (wXo_2 E st) rfl (Nat.le_of_ble_eq_true rfl) rfl kf_X1_23 rfl rfl ?_
        refine v_iload_n 45 3 cx dX1_dropAct_44 rfl rfl rfl ?_
        refine v_iald 46 29 0 cx dX1_dropAct_45 (wXa_2_2 E st) rfl rfl h (fun v9 h => ?_)
        refine v_aload_n 47 0 cx dX1_dropAct_46 rfl rfl rfl ?_
        refine v_get 50 2 3 cx dX1_dropAct_47 iX1 (wXo_2 E st) rfl (Nat.le_of_ble_eq_true rfl) rfl kf_X1_26 rfl rfl ?_
        refine v_iload_n 51 3 cx dX1_dropAct_50 rfl rfl rfl ?_
        refine v_iald 52 30 0 cx dX1_dropAct_51 (wXa_2_3 E st) rfl rfl h (fun v10 h => ?_)
        refine v_aload_n 53 0 cx dX1_dropAct_52 rfl rfl rfl ?_
        refine v_get 56 2 4 cx dX1_dropAct_53 iX1 (wXo_2 E st) rfl (Nat.le_of_ble_eq_true rfl) rfl kf_X1_29 rfl rfl ?_
        refine v_iload_n 57 3 cx dX1_dropAct_56 rfl rfl rfl ?_
        refine v_iald 58 31 0 cx dX1_dropAct_57 (wXa_2_4 E st) rfl rfl h (fun v11 h => ?_)
        refine v_callVV 61 2 cx dX1_dropAct_58 km_X1_32 ca_X1_write (wXo_2 E st) rfl (c_X1_write_2 C.2.1 E st x2 v8 v9 v10 v11 ) rfl (by decide) rfl (Nat.le_of_ble_eq_true rfl) rfl h (fun _ s12 h => ?_)
        refine v_iinc 64 2 (fun a13 => [(2, .int a13), (0, .ref (oX E 2)), (1, .int x1), (3, .int x3)]) cx dX1_dropAct_61 rfl ic_1 (by decide) (fun _ => rfl) rfl h (fun a13 h => ?_)
        refine v_iinc 67 3 (fun a14 => [(3, .int a14), (2, .int a13), (0, .ref (oX E 2)), (1, .int x1)]) cx dX1_dropAct_64 rfl ic_1 (by decide) (fun _ => rfl) rfl h (fun a14 h => ?_)
        refine v_goto 4 cx dX1_dropAct_67 (by decide) ?_
        cases h
        have hk : Vat C (wX E) 4 4 [(0, .ref (oX E 2)), (1, .int x1), (2, .int a13), (3, .int a14)] [] s12 := hk
        exact v_lsub (lv' := [(0, .ref (oX E 2)), (1, .int x1), (2, .int a13), (3, .int a14)]) [2, 3, 1, 0] rfl (hk)
set_option maxHeartbeats 4000000 in
set_option maxRecDepth 100000 in
theorem c_X1_dropAct_2 (l : Launch) (E : Ev) (st : Sg) (p1 : Int32) : ∀ q, m_X1_dropAct 2 p1 st = some q → CtV l (wX E) (tyE E) yX1_dropAct cX1_dropAct 4 none 1 25 [.ref (oX E 2), .int p1] st q := by
  intro q h
  refine ctV_of (lv0 := [(0, .ref (oX E 2)), (1, .int p1)]) (by decide) rfl (Nat.le_of_ble_eq_true rfl) (fun C hC cx hk => ?_)
  replace cx : Cx C (tyE E) cX1_dropAct RX1 4 1 25 := cx
  unfold m_X1_dropAct at h
  refine v_iconst 1 cx dX1_dropAct_0 ic_0 rfl ?_
  refine v_istore_n 2 (fun a1 => [(2, .int a1), (0, .ref (oX E 2)), (1, .int p1)]) cx dX1_dropAct_1 rfl (by decide) (fun _ => rfl) rfl h (fun a1 h => ?_)
  refine v_iconst 3 cx dX1_dropAct_2 ic_0 rfl ?_
  refine v_istore_n 4 (fun a2 => [(3, .int a2), (2, .int a1), (0, .ref (oX E 2)), (1, .int p1)]) cx dX1_dropAct_3 rfl (by decide) (fun _ => rfl) rfl h (fun a2 h => ?_)
  refine v_lsub (lv' := [(0, .ref (oX E 2)), (1, .int p1), (2, .int a1), (3, .int a2)]) [2, 3, 1, 0] rfl ?_
  refine v_loop (s0 := (a1, a2, st)) (V_X1_dropAct_L4_2 C E p1) (K_X1_dropAct_L4_2 C E p1) h (b_X1_dropAct_L4_2 cx p1) (fun r15 h => ?_)
  show Vat C (wX E) 4 70 [(0, .ref (oX E 2)), (2, .int r15.1)] [] r15.2
  refine v_aload_n 71 0 cx dX1_dropAct_70 rfl rfl rfl ?_
  refine v_iload_n 72 1 cx dX1_dropAct_71 rfl rfl rfl ?_
  refine v_putI 75 2 0 cx dX1_dropAct_72 iX1 tyX1_ok nmX1 (wXo_2 E r15.2) rfl (Nat.le_of_ble_eq_true rfl) rfl kf_X1_7 rfl rfl rfl rfl (Nat.le_of_ble_eq_true rfl) (wXs_2_0 E r15.2 _) rfl h (fun s16 h => ?_)
  exact hk _ _ _ _ (Option.some.inj h) dX1_dropAct_75
set_option maxHeartbeats 4000000 in
set_option maxRecDepth 100000 in
theorem c_X11_undo (l : Launch) (E : Ev) (st : Sg) : ∀ q, m_X11_undo st = some q → CtI l (wX E) (tyE E) yX11_undo cX11_undo 2 (some .int) 2 48 [.ref (oX E 0)] st q := by
  intro q h
  refine ctI_of (lv0 := [(0, .ref (oX E 0))]) (by decide) rfl (Nat.le_of_ble_eq_true rfl) (fun C hC cx hk => ?_)
  replace cx : Cx C (tyE E) cX11_undo RX11 2 2 48 := cx
  unfold m_X11_undo at h
  refine v_aload_n 1 0 cx dX11_undo_0 rfl rfl rfl ?_
  refine v_get 4 0 0 cx dX11_undo_1 iX11 (wXo_0 E st) rfl (Nat.le_of_ble_eq_true rfl) rfl kf_X11_10 rfl rfl ?_
  refine v_getI 7 1 0 cx dX11_undo_4 iX0 (wXo_1 E st) rfl (Nat.le_of_ble_eq_true rfl) rfl kf_X11_149 rfl rfl h (fun v1 h => ?_)
  refine v_iconst 8 cx dX11_undo_7 ic_1 rfl ?_
  refine v_isub 9 cx dX11_undo_8 rfl ?_
  refine v_istore_n 10 (fun a2 => [(1, .int a2), (0, .ref (oX E 0))]) cx dX11_undo_9 rfl (by decide) (fun _ => rfl) rfl h (fun a2 h => ?_)
  refine v_iload_n 11 0 cx dX11_undo_10 rfl rfl rfl ?_
  refine v_if_ge 21 14 cx dX11_undo_11 (by decide) rfl h (fun h => ?_) (fun h => ?_)
  · refine v_aload_n 22 1 cx dX11_undo_21 rfl rfl rfl ?_
    refine v_get 25 0 0 cx dX11_undo_22 iX11 (wXo_0 E st) rfl (Nat.le_of_ble_eq_true rfl) rfl kf_X11_10 rfl rfl ?_
    refine v_iload_n 26 0 cx dX11_undo_25 rfl rfl rfl ?_
    refine v_callVI 29 1 cx dX11_undo_26 km_X11_152 ca_X0_isTakenByAnother (wXo_1 E st) rfl (c_X0_isTakenByAnother C.2.1 E st a2 ) rfl (by decide) rfl (Nat.le_of_ble_eq_true rfl) rfl h (fun v4 s3 h => ?_)
    refine v_if_eq 39 32 cx dX11_undo_29 (by decide) rfl h (fun h => ?_) (fun h => ?_)
    · refine v_aload_n 40 1 cx dX11_undo_39 rfl rfl rfl ?_
      refine v_get 43 0 0 cx dX11_undo_40 iX11 (wXo_0 E s3) rfl (Nat.le_of_ble_eq_true rfl) rfl kf_X11_10 rfl rfl ?_
      refine v_iload_n 44 0 cx dX11_undo_43 rfl rfl rfl ?_
      refine v_putI 47 1 0 cx dX11_undo_44 iX0 tyX0_ok nmX0 (wXo_1 E s3) rfl (Nat.le_of_ble_eq_true rfl) rfl kf_X11_149 rfl rfl rfl rfl (Nat.le_of_ble_eq_true rfl) (wXs_1_0 E s3 _) rfl h (fun s5 h => ?_)
      refine v_aload_n 48 1 cx dX11_undo_47 rfl rfl rfl ?_
      refine v_get 51 0 0 cx dX11_undo_48 iX11 (wXo_0 E s5) rfl (Nat.le_of_ble_eq_true rfl) rfl kf_X11_10 rfl rfl ?_
      refine v_get 54 1 11 cx dX11_undo_51 iX0 (wXo_1 E s5) rfl (Nat.le_of_ble_eq_true rfl) rfl kf_X11_137 rfl rfl ?_
      refine v_iload_n 55 0 cx dX11_undo_54 rfl rfl rfl ?_
      refine v_callVV 58 2 cx dX11_undo_55 km_X11_155 ca_X1_dropAct (wXo_2 E s5) rfl (c_X1_dropAct_2 C.2.1 E s5 a2 ) rfl (by decide) rfl (Nat.le_of_ble_eq_true rfl) rfl h (fun _ s6 h => ?_)
      refine v_aload_n 59 1 cx dX11_undo_58 rfl rfl rfl ?_
      refine v_callVV 62 0 cx dX11_undo_59 km_X11_95 ca_X11_bodyChanged (wXo_0 E s6) rfl (c_X11_bodyChanged C.2.1 E s6 ) rfl (by decide) rfl (Nat.le_of_ble_eq_true rfl) rfl h (fun _ s7 h => ?_)
      refine v_iload_n 63 0 cx dX11_undo_62 rfl rfl rfl ?_
      exact hk _ _ _ _ (Option.some.inj h) dX11_undo_63
    · refine v_aload_n 33 1 cx dX11_undo_32 rfl rfl rfl ?_
      refine v_bipush 35 cx dX11_undo_33 bp_m9 rfl ?_
      refine v_callVI 38 0 cx dX11_undo_35 km_X11_88 ca_X11_refuse (wXo_0 E s3) rfl (c_X11_refuse C.2.1 E s3 (-9) ) rfl (by decide) rfl (Nat.le_of_ble_eq_true rfl) rfl h (fun v9 s8 h => ?_)
      exact hk _ _ _ _ (Option.some.inj h) dX11_undo_38
  · refine v_aload_n 15 1 cx dX11_undo_14 rfl rfl rfl ?_
    refine v_bipush 17 cx dX11_undo_15 bp_m2 rfl ?_
    refine v_callVI 20 0 cx dX11_undo_17 km_X11_88 ca_X11_refuse (wXo_0 E st) rfl (c_X11_refuse C.2.1 E st (-2) ) rfl (by decide) rfl (Nat.le_of_ble_eq_true rfl) rfl h (fun v11 s10 h => ?_)
    exact hk _ _ _ _ (Option.some.inj h) dX11_undo_20
set_option maxHeartbeats 4000000 in
set_option maxRecDepth 100000 in
theorem c_X11_unit (l : Launch) (E : Ev) (st : Sg) (p1 : Int32) (p2 : Int32) : ∀ q, m_X11_unit p1 p2 st = some q → CtI l (wX E) (tyE E) yX11_unit cX11_unit 4 (some .int) 2 40 [.ref (oX E 0), .int p1, .int p2] st q := by
  intro q h
  refine ctI_of (lv0 := [(0, .ref (oX E 0)), (1, .int p1), (2, .int p2)]) (by decide) rfl (Nat.le_of_ble_eq_true rfl) (fun C hC cx hk => ?_)
  replace cx : Cx C (tyE E) cX11_unit RX11 4 2 40 := cx
  unfold m_X11_unit at h
  refine v_iload_n 1 1 cx dX11_unit_0 rfl rfl rfl ?_
  refine v_callSI 4 cx dX11_unit_1 km_X11_119 ca_X11_isKind (c_X11_isKind C.2.1 E st p1 ) rfl (by decide) rfl (Nat.le_of_ble_eq_true rfl) rfl h (fun v2 s1 h => ?_)
  refine v_if_ne 14 7 cx dX11_unit_4 (by decide) rfl h (fun h => ?_) (fun h => ?_)
  · refine v_iload_n 15 2 cx dX11_unit_14 rfl rfl rfl ?_
    refine v_if_ge 25 18 cx dX11_unit_15 (by decide) rfl h (fun h => ?_) (fun h => ?_)
    · refine v_iload_n 26 2 cx dX11_unit_25 rfl rfl rfl ?_
      refine v_iconst 27 cx dX11_unit_26 ic_4 rfl ?_
      refine v_icmp_le 37 30 cx dX11_unit_27 (by decide) rfl h (fun h => ?_) (fun h => ?_)
      · refine v_aload_n 38 0 cx dX11_unit_37 rfl rfl rfl ?_
        refine v_get 41 0 0 cx dX11_unit_38 iX11 (wXo_0 E s1) rfl (Nat.le_of_ble_eq_true rfl) rfl kf_X11_10 rfl rfl ?_
        refine v_get 44 1 10 cx dX11_unit_41 iX0 (wXo_1 E s1) rfl (Nat.le_of_ble_eq_true rfl) rfl kf_X11_134 rfl rfl ?_
        refine v_iload_n 45 1 cx dX11_unit_44 rfl rfl rfl ?_
        refine v_iald 46 27 0 cx dX11_unit_45 (wXa_1_10 E s1) rfl rfl h (fun v3 h => ?_)
        refine v_istore_n 47 (fun a4 => [(3, .int a4), (0, .ref (oX E 0)), (1, .int p1), (2, .int p2)]) cx dX11_unit_46 rfl (by decide) (fun _ => rfl) rfl h (fun a4 h => ?_)
        refine v_aload_n 48 1 cx dX11_unit_47 rfl rfl rfl ?_
        refine v_get 51 0 0 cx dX11_unit_48 iX11 (wXo_0 E s1) rfl (Nat.le_of_ble_eq_true rfl) rfl kf_X11_10 rfl rfl ?_
        refine v_get 54 1 10 cx dX11_unit_51 iX0 (wXo_1 E s1) rfl (Nat.le_of_ble_eq_true rfl) rfl kf_X11_134 rfl rfl ?_
        refine v_iload_n 55 2 cx dX11_unit_54 rfl rfl rfl ?_
        refine v_iload_n 56 3 cx dX11_unit_55 rfl rfl rfl ?_
        refine v_iast 57 27 0 cx dX11_unit_56 (wXa_1_10 E s1) rfl (wXt_1_10 E s1) rfl h (fun s5 h => ?_)
        refine v_aload_n 58 1 cx dX11_unit_57 rfl rfl rfl ?_
        refine v_callVV 61 0 cx dX11_unit_58 km_X11_95 ca_X11_bodyChanged (wXo_0 E s5) rfl (c_X11_bodyChanged C.2.1 E s5 ) rfl (by decide) rfl (Nat.le_of_ble_eq_true rfl) rfl h (fun _ s6 h => ?_)
        refine v_iload_n 62 0 cx dX11_unit_61 rfl rfl rfl ?_
        exact hk _ _ _ _ (Option.some.inj h) dX11_unit_62
      · refine v_aload_n 31 0 cx dX11_unit_30 rfl rfl rfl ?_
        refine v_bipush 33 cx dX11_unit_31 bp_m9 rfl ?_
        refine v_callVI 36 0 cx dX11_unit_33 km_X11_88 ca_X11_refuse (wXo_0 E s1) rfl (c_X11_refuse C.2.1 E s1 (-9) ) rfl (by decide) rfl (Nat.le_of_ble_eq_true rfl) rfl h (fun v8 s7 h => ?_)
        exact hk _ _ _ _ (Option.some.inj h) dX11_unit_36
    · refine v_aload_n 19 0 cx dX11_unit_18 rfl rfl rfl ?_
      refine v_bipush 21 cx dX11_unit_19 bp_m4 rfl ?_
      refine v_callVI 24 0 cx dX11_unit_21 km_X11_88 ca_X11_refuse (wXo_0 E s1) rfl (c_X11_refuse C.2.1 E s1 (-4) ) rfl (by decide) rfl (Nat.le_of_ble_eq_true rfl) rfl h (fun v10 s9 h => ?_)
      exact hk _ _ _ _ (Option.some.inj h) dX11_unit_24
  · refine v_aload_n 8 0 cx dX11_unit_7 rfl rfl rfl ?_
    refine v_bipush 10 cx dX11_unit_8 bp_m3 rfl ?_
    refine v_callVI 13 0 cx dX11_unit_10 km_X11_88 ca_X11_refuse (wXo_0 E s1) rfl (c_X11_refuse C.2.1 E s1 (-3) ) rfl (by decide) rfl (Nat.le_of_ble_eq_true rfl) rfl h (fun v12 s11 h => ?_)
    exact hk _ _ _ _ (Option.some.inj h) dX11_unit_13
set_option maxHeartbeats 4000000 in
set_option maxRecDepth 100000 in
theorem c_X11_whole (l : Launch) (E : Ev) (st : Sg) : ∀ q, m_X11_whole st = some q → CtI l (wX E) (tyE E) yX11_whole cX11_whole 1 (some .int) 1 21 [.ref (oX E 0)] st q := by
  intro q h
  refine ctI_of (lv0 := [(0, .ref (oX E 0))]) (by decide) rfl (Nat.le_of_ble_eq_true rfl) (fun C hC cx hk => ?_)
  replace cx : Cx C (tyE E) cX11_whole RX11 1 1 21 := cx
  unfold m_X11_whole at h
  refine v_aload_n 1 0 cx dX11_whole_0 rfl rfl rfl ?_
  refine v_get 4 0 0 cx dX11_whole_1 iX11 (wXo_0 E st) rfl (Nat.le_of_ble_eq_true rfl) rfl kf_X11_10 rfl rfl ?_
  refine v_callVI 7 1 cx dX11_whole_4 km_X11_180 ca_X0_isWhole (wXo_1 E st) rfl (c_X0_isWhole C.2.1 E st ) rfl (by decide) rfl (Nat.le_of_ble_eq_true rfl) rfl h (fun v2 s1 h => ?_)
  refine v_if_eq 14 10 cx dX11_whole_7 (by decide) rfl h (fun h => ?_) (fun h => ?_)
  · refine v_iconst 15 cx dX11_whole_14 ic_0 rfl ?_
    exact hk _ _ _ _ (Option.some.inj h) dX11_whole_15
  · refine v_iconst 11 cx dX11_whole_10 ic_1 rfl ?_
    refine v_goto 15 cx dX11_whole_11 (by decide) ?_
    exact hk _ _ _ _ (Option.some.inj h) dX11_whole_15
set_option maxHeartbeats 4000000 in
set_option maxRecDepth 100000 in
theorem c_X11_works (l : Launch) (E : Ev) (st : Sg) (p1 : Int32) (p2 : Int32) (p3 : Int32) (p4 : Int32) : ∀ q, m_X11_works p1 p2 p3 p4 st = some q → CtI l (wX E) (tyE E) yX11_works cX11_works 5 (some .int) 2 40 [.ref (oX E 0), .int p1, .int p2, .int p3, .int p4] st q := by
  intro q h
  refine ctI_of (lv0 := [(0, .ref (oX E 0)), (1, .int p1), (2, .int p2), (3, .int p3), (4, .int p4)]) (by decide) rfl (Nat.le_of_ble_eq_true rfl) (fun C hC cx hk => ?_)
  replace cx : Cx C (tyE E) cX11_works RX11 5 2 40 := cx
  unfold m_X11_works at h
  refine v_aload_n 1 0 cx dX11_works_0 rfl rfl rfl ?_
  refine v_get 4 0 0 cx dX11_works_1 iX11 (wXo_0 E st) rfl (Nat.le_of_ble_eq_true rfl) rfl kf_X11_10 rfl rfl ?_
  refine v_iload_n 5 1 cx dX11_works_4 rfl rfl rfl ?_
  refine v_callVI 8 1 cx dX11_works_5 km_X11_116 ca_X0_has (wXo_1 E st) rfl (c_X0_has C.2.1 E st p1 ) rfl (by decide) rfl (Nat.le_of_ble_eq_true rfl) rfl h (fun v2 s1 h => ?_)
  refine v_if_eq 18 11 cx dX11_works_8 (by decide) rfl h (fun h => ?_) (fun h => ?_)
  · refine v_aload_n 19 0 cx dX11_works_18 rfl rfl rfl ?_
    refine v_bipush 21 cx dX11_works_19 bp_m3 rfl ?_
    refine v_callVI 24 0 cx dX11_works_21 km_X11_88 ca_X11_refuse (wXo_0 E s1) rfl (c_X11_refuse C.2.1 E s1 (-3) ) rfl (by decide) rfl (Nat.le_of_ble_eq_true rfl) rfl h (fun v4 s3 h => ?_)
    exact hk _ _ _ _ (Option.some.inj h) dX11_works_24
  · refine v_iload_n 12 3 cx dX11_works_11 rfl rfl rfl ?_
    refine v_callSI 15 cx dX11_works_12 km_X11_119 ca_X11_isKind (c_X11_isKind C.2.1 E s1 p3 ) rfl (by decide) rfl (Nat.le_of_ble_eq_true rfl) rfl h (fun v6 s5 h => ?_)
    refine v_if_ne 25 18 cx dX11_works_15 (by decide) rfl h (fun h => ?_) (fun h => ?_)
    · refine v_iload_n 26 2 cx dX11_works_25 rfl rfl rfl ?_
      refine v_iconst 27 cx dX11_works_26 ic_1 rfl ?_
      refine v_icmp_lt 50 30 cx dX11_works_27 (by decide) rfl h (fun h => ?_) (fun h => ?_)
      · refine v_aload_n 51 0 cx dX11_works_50 rfl rfl rfl ?_
        refine v_bipush 53 cx dX11_works_51 bp_m9 rfl ?_
        refine v_callVI 56 0 cx dX11_works_53 km_X11_88 ca_X11_refuse (wXo_0 E s5) rfl (c_X11_refuse C.2.1 E s5 (-9) ) rfl (by decide) rfl (Nat.le_of_ble_eq_true rfl) rfl h (fun v8 s7 h => ?_)
        exact hk _ _ _ _ (Option.some.inj h) dX11_works_56
      · refine v_iload_n 31 2 cx dX11_works_30 rfl rfl rfl ?_
        refine v_bipush 33 cx dX11_works_31 bp_12 rfl ?_
        refine v_icmp_gt 50 36 cx dX11_works_33 (by decide) rfl h (fun h => ?_) (fun h => ?_)
        · refine v_aload_n 51 0 cx dX11_works_50 rfl rfl rfl ?_
          refine v_bipush 53 cx dX11_works_51 bp_m9 rfl ?_
          refine v_callVI 56 0 cx dX11_works_53 km_X11_88 ca_X11_refuse (wXo_0 E s5) rfl (c_X11_refuse C.2.1 E s5 (-9) ) rfl (by decide) rfl (Nat.le_of_ble_eq_true rfl) rfl h (fun v10 s9 h => ?_)
          exact hk _ _ _ _ (Option.some.inj h) dX11_works_56
        · refine v_iload 38 4 cx dX11_works_36 rfl rfl ?_
          refine v_iconst 39 cx dX11_works_38 ic_1 rfl ?_
          refine v_icmp_lt 50 42 cx dX11_works_39 (by decide) rfl h (fun h => ?_) (fun h => ?_)
          · refine v_aload_n 51 0 cx dX11_works_50 rfl rfl rfl ?_
            refine v_bipush 53 cx dX11_works_51 bp_m9 rfl ?_
            refine v_callVI 56 0 cx dX11_works_53 km_X11_88 ca_X11_refuse (wXo_0 E s5) rfl (c_X11_refuse C.2.1 E s5 (-9) ) rfl (by decide) rfl (Nat.le_of_ble_eq_true rfl) rfl h (fun v12 s11 h => ?_)
            exact hk _ _ _ _ (Option.some.inj h) dX11_works_56
          · refine v_iload 44 4 cx dX11_works_42 rfl rfl ?_
            refine v_sipush 47 cx dX11_works_44 sp_255 rfl ?_
            refine v_icmp_le 57 50 cx dX11_works_47 (by decide) rfl h (fun h => ?_) (fun h => ?_)
            · refine v_aload_n 58 0 cx dX11_works_57 rfl rfl rfl ?_
              refine v_get 61 0 0 cx dX11_works_58 iX11 (wXo_0 E s5) rfl (Nat.le_of_ble_eq_true rfl) rfl kf_X11_10 rfl rfl ?_
              refine v_get 64 1 2 cx dX11_works_61 iX0 (wXo_1 E s5) rfl (Nat.le_of_ble_eq_true rfl) rfl kf_X11_122 rfl rfl ?_
              refine v_iload_n 65 1 cx dX11_works_64 rfl rfl rfl ?_
              refine v_iload_n 66 2 cx dX11_works_65 rfl rfl rfl ?_
              refine v_iast 67 19 0 cx dX11_works_66 (wXa_1_2 E s5) rfl (wXt_1_2 E s5) rfl h (fun s13 h => ?_)
              refine v_aload_n 68 0 cx dX11_works_67 rfl rfl rfl ?_
              refine v_get 71 0 0 cx dX11_works_68 iX11 (wXo_0 E s13) rfl (Nat.le_of_ble_eq_true rfl) rfl kf_X11_10 rfl rfl ?_
              refine v_get 74 1 3 cx dX11_works_71 iX0 (wXo_1 E s13) rfl (Nat.le_of_ble_eq_true rfl) rfl kf_X11_125 rfl rfl ?_
              refine v_iload_n 75 1 cx dX11_works_74 rfl rfl rfl ?_
              refine v_iload_n 76 3 cx dX11_works_75 rfl rfl rfl ?_
              refine v_iast 77 20 0 cx dX11_works_76 (wXa_1_3 E s13) rfl (wXt_1_3 E s13) rfl h (fun s14 h => ?_)
              refine v_aload_n 78 0 cx dX11_works_77 rfl rfl rfl ?_
              refine v_get 81 0 0 cx dX11_works_78 iX11 (wXo_0 E s14) rfl (Nat.le_of_ble_eq_true rfl) rfl kf_X11_10 rfl rfl ?_
              refine v_get 84 1 4 cx dX11_works_81 iX0 (wXo_1 E s14) rfl (Nat.le_of_ble_eq_true rfl) rfl kf_X11_128 rfl rfl ?_
              refine v_iload_n 85 1 cx dX11_works_84 rfl rfl rfl ?_
              refine v_iload 87 4 cx dX11_works_85 rfl rfl ?_
              refine v_iast 88 21 0 cx dX11_works_87 (wXa_1_4 E s14) rfl (wXt_1_4 E s14) rfl h (fun s15 h => ?_)
              refine v_aload_n 89 0 cx dX11_works_88 rfl rfl rfl ?_
              refine v_callVV 92 0 cx dX11_works_89 km_X11_95 ca_X11_bodyChanged (wXo_0 E s15) rfl (c_X11_bodyChanged C.2.1 E s15 ) rfl (by decide) rfl (Nat.le_of_ble_eq_true rfl) rfl h (fun _ s16 h => ?_)
              refine v_iconst 93 cx dX11_works_92 ic_1 rfl ?_
              exact hk _ _ _ _ (Option.some.inj h) dX11_works_93
            · refine v_aload_n 51 0 cx dX11_works_50 rfl rfl rfl ?_
              refine v_bipush 53 cx dX11_works_51 bp_m9 rfl ?_
              refine v_callVI 56 0 cx dX11_works_53 km_X11_88 ca_X11_refuse (wXo_0 E s5) rfl (c_X11_refuse C.2.1 E s5 (-9) ) rfl (by decide) rfl (Nat.le_of_ble_eq_true rfl) rfl h (fun v18 s17 h => ?_)
              exact hk _ _ _ _ (Option.some.inj h) dX11_works_56
    · refine v_aload_n 19 0 cx dX11_works_18 rfl rfl rfl ?_
      refine v_bipush 21 cx dX11_works_19 bp_m3 rfl ?_
      refine v_callVI 24 0 cx dX11_works_21 km_X11_88 ca_X11_refuse (wXo_0 E s5) rfl (c_X11_refuse C.2.1 E s5 (-3) ) rfl (by decide) rfl (Nat.le_of_ble_eq_true rfl) rfl h (fun v20 s19 h => ?_)
      exact hk _ _ _ _ (Option.some.inj h) dX11_works_24
set_option maxHeartbeats 4000000 in
set_option maxRecDepth 100000 in
theorem c_X11_wrong (l : Launch) (E : Ev) (st : Sg) (p1 : Int32) : ∀ q, m_X11_wrong p1 st = some q → CtI l (wX E) (tyE E) yX11_wrong cX11_wrong 2 (some .int) 1 21 [.ref (oX E 0), .int p1] st q := by
  intro q h
  refine ctI_of (lv0 := [(0, .ref (oX E 0)), (1, .int p1)]) (by decide) rfl (Nat.le_of_ble_eq_true rfl) (fun C hC cx hk => ?_)
  replace cx : Cx C (tyE E) cX11_wrong RX11 2 1 21 := cx
  unfold m_X11_wrong at h
  refine v_iload_n 1 1 cx dX11_wrong_0 rfl rfl rfl ?_
  refine v_if_lt 10 4 cx dX11_wrong_1 (by decide) rfl h (fun h => ?_) (fun h => ?_)
  · refine v_aload_n 11 0 cx dX11_wrong_10 rfl rfl rfl ?_
    refine v_bipush 13 cx dX11_wrong_11 bp_m9 rfl ?_
    refine v_callVI 16 0 cx dX11_wrong_13 km_X11_88 ca_X11_refuse (wXo_0 E st) rfl (c_X11_refuse C.2.1 E st (-9) ) rfl (by decide) rfl (Nat.le_of_ble_eq_true rfl) rfl h (fun v2 s1 h => ?_)
    exact hk _ _ _ _ (Option.some.inj h) dX11_wrong_16
  · refine v_iload_n 5 1 cx dX11_wrong_4 rfl rfl rfl ?_
    refine v_bipush 7 cx dX11_wrong_5 bp_6 rfl ?_
    refine v_icmp_lt 17 10 cx dX11_wrong_7 (by decide) rfl h (fun h => ?_) (fun h => ?_)
    · refine v_aload_n 18 0 cx dX11_wrong_17 rfl rfl rfl ?_
      refine v_get 21 0 6 cx dX11_wrong_18 iX11 (wXo_0 E st) rfl (Nat.le_of_ble_eq_true rfl) rfl kf_X11_56 rfl rfl ?_
      refine v_get 24 11 0 cx dX11_wrong_21 iX3 (wXo_11 E st) rfl (Nat.le_of_ble_eq_true rfl) rfl kf_X11_298 rfl rfl ?_
      refine v_iload_n 25 1 cx dX11_wrong_24 rfl rfl rfl ?_
      refine v_iald 26 57 0 cx dX11_wrong_25 (wXa_11_0 E st) rfl rfl h (fun v3 h => ?_)
      exact hk _ _ _ _ (Option.some.inj h) dX11_wrong_26
    · refine v_aload_n 11 0 cx dX11_wrong_10 rfl rfl rfl ?_
      refine v_bipush 13 cx dX11_wrong_11 bp_m9 rfl ?_
      refine v_callVI 16 0 cx dX11_wrong_13 km_X11_88 ca_X11_refuse (wXo_0 E st) rfl (c_X11_refuse C.2.1 E st (-9) ) rfl (by decide) rfl (Nat.le_of_ble_eq_true rfl) rfl h (fun v5 s4 h => ?_)
      exact hk _ _ _ _ (Option.some.inj h) dX11_wrong_16
