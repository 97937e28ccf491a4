-- machine layer (written by gen.py)
def V_X12_undo_L23 (C : Cm) (E : Ev) (x1 : Int32) (s : (Int32 × Sg)) : Prop := Vat C (wM E) 4 23 [(0, .ref (oX E 0)), (1, .int x1), (2, .int s.1)] [] s.2
def K_X12_undo_L23 (C : Cm) (E : Ev) (x1 : Int32) : ((Sg) ⊕ (Sg)) → Prop := (Sum.elim (fun r : (Sg) => Vat C (wM E) 4 53 [(0, .ref (oX E 0)), (1, .int x1)] [] r) (fun r : (Sg) => Vat C (wM E) 4 40 [(0, .ref (oX E 0))] [] r))
set_option maxHeartbeats 4000000 in
set_option maxRecDepth 100000 in
theorem b_X12_undo_L23 {C : Cm} {E : Ev} (cx : Cx C (tyE E) cX12_undo RX12 4 2 40) (x1 : Int32) : ∀ (s : (Int32 × Sg)) (out : (Int32 × Sg) ⊕ ((Sg) ⊕ (Sg))), m_X12_undo_L23 x1 s.1 s.2 = some out → Sum.elim (V_X12_undo_L23 C E x1) (K_X12_undo_L23 C E x1) out → V_X12_undo_L23 C E x1 s := by
  intro s out h hk
  obtain ⟨x2, st⟩ := s
  show Vat C (wM E) 4 23 [(0, .ref (oX E 0)), (1, .int x1), (2, .int x2)] [] st
  replace h : m_X12_undo_L23 x1 x2 st = some out := h
  unfold m_X12_undo_L23 at h
  refine v_iload_n 24 2 cx dX12_undo_23 rfl rfl rfl ?_
  refine v_iconst 25 cx dX12_undo_24 ic_3 rfl ?_
  refine v_iload_n 26 1 cx dX12_undo_25 rfl rfl rfl ?_
  refine v_imul 27 cx dX12_undo_26 rfl ?_
  refine v_icmp_ge 53 30 cx dX12_undo_27 (by decide) rfl h (fun h => ?_) (fun h => ?_)
  · cases h
    have hk : Vat C (wM E) 4 53 [(0, .ref (oX E 0)), (1, .int x1)] [] st := hk
    exact v_lsub (lv' := [(0, .ref (oX E 0)), (1, .int x1)]) [0, 1] rfl (hk)
  · refine v_aload_n 31 0 cx dX12_undo_30 rfl rfl rfl ?_
    refine v_get 34 0 5 cx dX12_undo_31 iX12 (wMo_0 E st) rfl (Nat.le_of_ble_eq_true rfl) rfl kf_X12_25 rfl rfl ?_
    refine v_iload_n 35 2 cx dX12_undo_34 rfl rfl rfl ?_
    refine v_iald 36 6 0 cx dX12_undo_35 (wMa_0_5 E st) rfl rfl h (fun v5 h => ?_)
    refine v_iload_n 37 1 cx dX12_undo_36 rfl rfl rfl ?_
    refine v_icmp_ne 47 40 cx dX12_undo_37 (by decide) rfl h (fun h => ?_) (fun h => ?_)
    · refine v_iinc 50 2 (fun a6 => [(2, .int a6), (0, .ref (oX E 0)), (1, .int x1)]) cx dX12_undo_47 rfl ic_1 (by decide) (fun _ => rfl) rfl h (fun a6 h => ?_)
      refine v_goto 23 cx dX12_undo_50 (by decide) ?_
      cases h
      have hk : Vat C (wM E) 4 23 [(0, .ref (oX E 0)), (1, .int x1), (2, .int a6)] [] st := hk
      exact v_lsub (lv' := [(0, .ref (oX E 0)), (1, .int x1), (2, .int a6)]) [1, 2, 0] rfl (hk)
    · cases h
      have hk : Vat C (wM E) 4 40 [(0, .ref (oX E 0))] [] st := hk
      exact v_lsub (lv' := [(0, .ref (oX E 0))]) [0] rfl (hk)
def V_X12_undo_L67 (C : Cm) (E : Ev) (x1 : Int32) (s : (Int32 × Int32 × Sg)) : Prop := Vat C (wM E) 4 67 [(0, .ref (oX E 0)), (1, .int x1), (2, .int s.1), (3, .int s.2.1)] [] s.2.2
def K_X12_undo_L67 (C : Cm) (E : Ev) (x1 : Int32) : (Int32 × Sg) → Prop := (fun r : (Int32 × Sg) => Vat C (wM E) 4 155 [(0, .ref (oX E 0)), (2, .int r.1)] [] r.2)
set_option maxHeartbeats 4000000 in
set_option maxRecDepth 100000 in
theorem b_X12_undo_L67 {C : Cm} {E : Ev} (cx : Cx C (tyE E) cX12_undo RX12 4 2 40) (x1 : Int32) : ∀ (s : (Int32 × Int32 × Sg)) (out : (Int32 × Int32 × Sg) ⊕ (Int32 × Sg)), m_X12_undo_L67 x1 s.1 s.2.1 s.2.2 = some out → Sum.elim (V_X12_undo_L67 C E x1) (K_X12_undo_L67 C E x1) out → V_X12_undo_L67 C E x1 s := by
  intro s out h hk
  obtain ⟨x2, x3, st⟩ := s
  show Vat C (wM E) 4 67 [(0, .ref (oX E 0)), (1, .int x1), (2, .int x2), (3, .int x3)] [] st
  replace h : m_X12_undo_L67 x1 x2 x3 st = some out := h
  unfold m_X12_undo_L67 at h
  refine v_iload_n 68 3 cx dX12_undo_67 rfl rfl rfl ?_
  refine v_aload_n 69 0 cx dX12_undo_68 rfl rfl rfl ?_
  refine v_getI 72 0 15 cx dX12_undo_69 iX12 (wMo_0 E st) rfl (Nat.le_of_ble_eq_true rfl) rfl kf_X12_172 rfl rfl h (fun v12 h => ?_)
  refine v_icmp_ge 155 75 cx dX12_undo_72 (by decide) rfl h (fun h => ?_) (fun h => ?_)
  · cases h
    have hk : Vat C (wM E) 4 155 [(0, .ref (oX E 0)), (2, .int x2)] [] st := hk
    exact v_lsub (lv' := [(0, .ref (oX E 0)), (2, .int x2)]) [0, 2] rfl (hk)
  · refine v_aload_n 76 0 cx dX12_undo_75 rfl rfl rfl ?_
    refine v_get 79 0 11 cx dX12_undo_76 iX12 (wMo_0 E st) rfl (Nat.le_of_ble_eq_true rfl) rfl kf_X12_41 rfl rfl ?_
    refine v_iload_n 80 3 cx dX12_undo_79 rfl rfl rfl ?_
    refine v_iald 81 11 0 cx dX12_undo_80 (wMa_0_11 E st) rfl rfl h (fun v13 h => ?_)
    refine v_iload_n 82 1 cx dX12_undo_81 rfl rfl rfl ?_
    refine v_icmp_eq 149 85 cx dX12_undo_82 (by decide) rfl h (fun h => ?_) (fun h => ?_)
    · refine v_iinc 152 3 (fun a14 => [(3, .int a14), (0, .ref (oX E 0)), (1, .int x1), (2, .int x2)]) cx dX12_undo_149 rfl ic_1 (by decide) (fun _ => rfl) rfl h (fun a14 h => ?_)
      refine v_goto 67 cx dX12_undo_152 (by decide) ?_
      cases h
      have hk : Vat C (wM E) 4 67 [(0, .ref (oX E 0)), (1, .int x1), (2, .int x2), (3, .int a14)] [] st := hk
      exact v_lsub (lv' := [(0, .ref (oX E 0)), (1, .int x1), (2, .int x2), (3, .int a14)]) [1, 2, 3, 0] rfl (hk)
    · refine v_aload_n 86 0 cx dX12_undo_85 rfl rfl rfl ?_
      refine v_get 89 0 12 cx dX12_undo_86 iX12 (wMo_0 E st) rfl (Nat.le_of_ble_eq_true rfl) rfl kf_X12_44 rfl rfl ?_
      refine v_iload_n 90 3 cx dX12_undo_89 rfl rfl rfl ?_
      refine v_iald 91 12 0 cx dX12_undo_90 (wMa_0_12 E st) rfl rfl h (fun v15 h => ?_)
      refine v_iload_n 92 1 cx dX12_undo_91 rfl rfl rfl ?_
      refine v_icmp_ne 98 95 cx dX12_undo_92 (by decide) rfl h (fun h => ?_) (fun h => ?_)
      · refine v_aload_n 99 0 cx dX12_undo_98 rfl rfl rfl ?_
        refine v_get 102 0 11 cx dX12_undo_99 iX12 (wMo_0 E st) rfl (Nat.le_of_ble_eq_true rfl) rfl kf_X12_41 rfl rfl ?_
        refine v_iload_n 103 2 cx dX12_undo_102 rfl rfl rfl ?_
        refine v_aload_n 104 0 cx dX12_undo_103 rfl rfl rfl ?_
        refine v_get 107 0 11 cx dX12_undo_104 iX12 (wMo_0 E st) rfl (Nat.le_of_ble_eq_true rfl) rfl kf_X12_41 rfl rfl ?_
        refine v_iload_n 108 3 cx dX12_undo_107 rfl rfl rfl ?_
        refine v_iald 109 11 0 cx dX12_undo_108 (wMa_0_11 E st) rfl rfl h (fun v16 h => ?_)
        refine v_iast 110 11 0 cx dX12_undo_109 (wMa_0_11 E st) rfl (wMt_0_11 E st) rfl h (fun s17 h => ?_)
        refine v_aload_n 111 0 cx dX12_undo_110 rfl rfl rfl ?_
        refine v_get 114 0 12 cx dX12_undo_111 iX12 (wMo_0 E s17) rfl (Nat.le_of_ble_eq_true rfl) rfl kf_X12_44 rfl rfl ?_
        refine v_iload_n 115 2 cx dX12_undo_114 rfl rfl rfl ?_
        refine v_aload_n 116 0 cx dX12_undo_115 rfl rfl rfl ?_
        refine v_get 119 0 12 cx dX12_undo_116 iX12 (wMo_0 E s17) rfl (Nat.le_of_ble_eq_true rfl) rfl kf_X12_44 rfl rfl ?_
        refine v_iload_n 120 3 cx dX12_undo_119 rfl rfl rfl ?_
        refine v_iald 121 12 0 cx dX12_undo_120 (wMa_0_12 E s17) rfl rfl h (fun v18 h => ?_)
        refine v_iast 122 12 0 cx dX12_undo_121 (wMa_0_12 E s17) rfl (wMt_0_12 E s17) rfl h (fun s19 h => ?_)
        refine v_aload_n 123 0 cx dX12_undo_122 rfl rfl rfl ?_
        refine v_get 126 0 13 cx dX12_undo_123 iX12 (wMo_0 E s19) rfl (Nat.le_of_ble_eq_true rfl) rfl kf_X12_47 rfl rfl ?_
        refine v_iload_n 127 2 cx dX12_undo_126 rfl rfl rfl ?_
        refine v_aload_n 128 0 cx dX12_undo_127 rfl rfl rfl ?_
        refine v_get 131 0 13 cx dX12_undo_128 iX12 (wMo_0 E s19) rfl (Nat.le_of_ble_eq_true rfl) rfl kf_X12_47 rfl rfl ?_
        refine v_iload_n 132 3 cx dX12_undo_131 rfl rfl rfl ?_
        refine v_iald 133 13 0 cx dX12_undo_132 (wMa_0_13 E s19) rfl rfl h (fun v20 h => ?_)
        refine v_iast 134 13 0 cx dX12_undo_133 (wMa_0_13 E s19) rfl (wMt_0_13 E s19) rfl h (fun s21 h => ?_)
        refine v_aload_n 135 0 cx dX12_undo_134 rfl rfl rfl ?_
        refine v_get 138 0 14 cx dX12_undo_135 iX12 (wMo_0 E s21) rfl (Nat.le_of_ble_eq_true rfl) rfl kf_X12_50 rfl rfl ?_
        refine v_iload_n 139 2 cx dX12_undo_138 rfl rfl rfl ?_
        refine v_aload_n 140 0 cx dX12_undo_139 rfl rfl rfl ?_
        refine v_get 143 0 14 cx dX12_undo_140 iX12 (wMo_0 E s21) rfl (Nat.le_of_ble_eq_true rfl) rfl kf_X12_50 rfl rfl ?_
        refine v_iload_n 144 3 cx dX12_undo_143 rfl rfl rfl ?_
        refine v_iald 145 14 0 cx dX12_undo_144 (wMa_0_14 E s21) rfl rfl h (fun v22 h => ?_)
        refine v_iast 146 14 0 cx dX12_undo_145 (wMa_0_14 E s21) rfl (wMt_0_14 E s21) rfl h (fun s23 h => ?_)
        refine v_iinc 149 2 (fun a24 => [(2, .int a24), (0, .ref (oX E 0)), (1, .int x1), (3, .int x3)]) cx dX12_undo_146 rfl ic_1 (by decide) (fun _ => rfl) rfl h (fun a24 h => ?_)
        refine v_iinc 152 3 (fun a25 => [(3, .int a25), (2, .int a24), (0, .ref (oX E 0)), (1, .int x1)]) cx dX12_undo_149 rfl ic_1 (by decide) (fun _ => rfl) rfl h (fun a25 h => ?_)
        refine v_goto 67 cx dX12_undo_152 (by decide) ?_
        cases h
        have hk : Vat C (wM E) 4 67 [(0, .ref (oX E 0)), (1, .int x1), (2, .int a24), (3, .int a25)] [] s23 := hk
        exact v_lsub (lv' := [(0, .ref (oX E 0)), (1, .int x1), (2, .int a24), (3, .int a25)]) [2, 3, 1, 0] rfl (hk)
      · refine v_goto 149 cx dX12_undo_95 (by decide) ?_
        refine v_iinc 152 3 (fun a26 => [(3, .int a26), (0, .ref (oX E 0)), (1, .int x1), (2, .int x2)]) cx dX12_undo_149 rfl ic_1 (by decide) (fun _ => rfl) rfl h (fun a26 h => ?_)
        refine v_goto 67 cx dX12_undo_152 (by decide) ?_
        cases h
        have hk : Vat C (wM E) 4 67 [(0, .ref (oX E 0)), (1, .int x1), (2, .int x2), (3, .int a26)] [] st := hk
        exact v_lsub (lv' := [(0, .ref (oX E 0)), (1, .int x1), (2, .int x2), (3, .int a26)]) [1, 2, 3, 0] rfl (hk)
set_option maxHeartbeats 4000000 in
set_option maxRecDepth 100000 in
theorem c_X12_undo (l : Launch) (E : Ev) (st : Sg) : ∀ q, m_X12_undo st = some q → CtI l (wM E) (tyE E) yX12_undo cX12_undo 4 (some .int) 2 40 [.ref (oX E 0)] st q := by
  intro q h
  refine ctI_of (lv0 := [(0, .ref (oX E 0))]) (by decide) rfl (Nat.le_of_ble_eq_true rfl) (fun C hC cx hk => ?_)
  replace cx : Cx C (tyE E) cX12_undo RX12 4 2 40 := cx
  unfold m_X12_undo at h
  refine v_aload_n 1 0 cx dX12_undo_0 rfl rfl rfl ?_
  refine v_getI 4 0 9 cx dX12_undo_1 iX12 (wMo_0 E st) rfl (Nat.le_of_ble_eq_true rfl) rfl kf_X12_118 rfl rfl h (fun v1 h => ?_)
  refine v_if_ne 14 7 cx dX12_undo_4 (by decide) rfl h (fun h => ?_) (fun h => ?_)
  · refine v_aload_n 15 0 cx dX12_undo_14 rfl rfl rfl ?_
    refine v_getI 18 0 9 cx dX12_undo_15 iX12 (wMo_0 E st) rfl (Nat.le_of_ble_eq_true rfl) rfl kf_X12_118 rfl rfl h (fun v2 h => ?_)
    refine v_iconst 19 cx dX12_undo_18 ic_1 rfl ?_
    refine v_isub 20 cx dX12_undo_19 rfl ?_
    refine v_istore_n 21 (fun a3 => [(1, .int a3), (0, .ref (oX E 0))]) cx dX12_undo_20 rfl (by decide) (fun _ => rfl) rfl h (fun a3 h => ?_)
    refine v_iconst 22 cx dX12_undo_21 ic_0 rfl ?_
    refine v_istore_n 23 (fun a4 => [(2, .int a4), (1, .int a3), (0, .ref (oX E 0))]) cx dX12_undo_22 rfl (by decide) (fun _ => rfl) rfl h (fun a4 h => ?_)
    refine v_lsub (lv' := [(0, .ref (oX E 0)), (1, .int a3), (2, .int a4)]) [2, 1, 0] rfl ?_
    refine v_loop (s0 := (a4, st)) (V_X12_undo_L23 C E a3) (K_X12_undo_L23 C E a3) h (b_X12_undo_L23 cx a3) (fun r7 h => ?_)
    rcases r7 with r7 | r7
    · rw [Sum.elim_inl] at h
      show Vat C (wM E) 4 53 [(0, .ref (oX E 0)), (1, .int a3)] [] r7
      refine v_aload_n 54 0 cx dX12_undo_53 rfl rfl rfl ?_
      refine v_dup 55 cx dX12_undo_54 rfl rfl ?_
      refine v_getI 58 0 9 cx dX12_undo_55 iX12 (wMo_0 E r7) rfl (Nat.le_of_ble_eq_true rfl) rfl kf_X12_118 rfl rfl h (fun v8 h => ?_)
      refine v_iconst 59 cx dX12_undo_58 ic_1 rfl ?_
      refine v_isub 60 cx dX12_undo_59 rfl ?_
      refine v_putI 63 0 9 cx dX12_undo_60 iX12 tyX12_ok nmX12 (wMo_0 E r7) rfl (Nat.le_of_ble_eq_true rfl) rfl kf_X12_118 rfl rfl rfl rfl (Nat.le_of_ble_eq_true rfl) (wMs_0_9 E r7 _) rfl h (fun s9 h => ?_)
      refine v_iconst 64 cx dX12_undo_63 ic_0 rfl ?_
      refine v_istore_n 65 (fun a10 => [(2, .int a10), (0, .ref (oX E 0)), (1, .int a3)]) cx dX12_undo_64 rfl (by decide) (fun _ => rfl) rfl h (fun a10 h => ?_)
      refine v_iconst 66 cx dX12_undo_65 ic_0 rfl ?_
      refine v_istore_n 67 (fun a11 => [(3, .int a11), (2, .int a10), (0, .ref (oX E 0)), (1, .int a3)]) cx dX12_undo_66 rfl (by decide) (fun _ => rfl) rfl h (fun a11 h => ?_)
      refine v_lsub (lv' := [(0, .ref (oX E 0)), (1, .int a3), (2, .int a10), (3, .int a11)]) [2, 3, 1, 0] rfl ?_
      refine v_loop (s0 := (a10, a11, s9)) (V_X12_undo_L67 C E a3) (K_X12_undo_L67 C E a3) h (b_X12_undo_L67 cx a3) (fun r27 h => ?_)
      show Vat C (wM E) 4 155 [(0, .ref (oX E 0)), (2, .int r27.1)] [] r27.2
      refine v_aload_n 156 0 cx dX12_undo_155 rfl rfl rfl ?_
      refine v_iload_n 157 1 cx dX12_undo_156 rfl rfl rfl ?_
      refine v_putI 160 0 15 cx dX12_undo_157 iX12 tyX12_ok nmX12 (wMo_0 E r27.2) rfl (Nat.le_of_ble_eq_true rfl) rfl kf_X12_172 rfl rfl rfl rfl (Nat.le_of_ble_eq_true rfl) (wMs_0_15 E r27.2 _) rfl h (fun s28 h => ?_)
      refine v_aload_n 161 0 cx dX12_undo_160 rfl rfl rfl ?_
      refine v_callVV 164 0 cx dX12_undo_161 km_X12_132 ca_X12_changes (wMo_0 E s28) rfl (c_X12_changes C.2.1 E s28 ) rfl (by decide) rfl (Nat.le_of_ble_eq_true rfl) rfl h (fun _ s29 h => ?_)
      refine v_aload_n 165 0 cx dX12_undo_164 rfl rfl rfl ?_
      refine v_getI 168 0 9 cx dX12_undo_165 iX12 (wMo_0 E s29) rfl (Nat.le_of_ble_eq_true rfl) rfl kf_X12_118 rfl rfl h (fun v30 h => ?_)
      exact hk _ _ _ _ (Option.some.inj h) dX12_undo_168
    · rw [Sum.elim_inr] at h
      show Vat C (wM E) 4 40 [(0, .ref (oX E 0))] [] r7
      refine v_aload_n 41 0 cx dX12_undo_40 rfl rfl rfl ?_
      refine v_bipush 43 cx dX12_undo_41 bp_m9 rfl ?_
      refine v_callVI 46 0 cx dX12_undo_43 km_X12_124 ca_X12_no (wMo_0 E r7) rfl (c_X12_no C.2.1 E r7 (-9) ) rfl (by decide) rfl (Nat.le_of_ble_eq_true rfl) rfl h (fun v32 s31 h => ?_)
      exact hk _ _ _ _ (Option.some.inj h) dX12_undo_46
  · refine v_aload_n 8 0 cx dX12_undo_7 rfl rfl rfl ?_
    refine v_bipush 10 cx dX12_undo_8 bp_m2 rfl ?_
    refine v_callVI 13 0 cx dX12_undo_10 km_X12_124 ca_X12_no (wMo_0 E st) rfl (c_X12_no C.2.1 E st (-2) ) rfl (by decide) rfl (Nat.le_of_ble_eq_true rfl) rfl h (fun v34 s33 h => ?_)
    exact hk _ _ _ _ (Option.some.inj h) dX12_undo_13
set_option maxHeartbeats 4000000 in
set_option maxRecDepth 100000 in
theorem c_X12_unit (l : Launch) (E : Ev) (st : Sg) (p1 : Int32) (p2 : Int32) : ∀ q, m_X12_unit p1 p2 st = some q → CtI l (wM E) (tyE E) yX12_unit cX12_unit 4 (some .int) 2 40 [.ref (oX E 0), .int p1, .int p2] st q := by
  intro q h
  refine ctI_of (lv0 := [(0, .ref (oX E 0)), (1, .int p1), (2, .int p2)]) (by decide) rfl (Nat.le_of_ble_eq_true rfl) (fun C hC cx hk => ?_)
  replace cx : Cx C (tyE E) cX12_unit RX12 4 2 40 := cx
  unfold m_X12_unit at h
  refine v_iload_n 1 1 cx dX12_unit_0 rfl rfl rfl ?_
  refine v_i2l 2 cx dX12_unit_1 rfl ?_
  refine v_lconst 3 cx dX12_unit_2 lc_0 rfl ?_
  refine v_ldc2 6 cx dX12_unit_3 kc_X12_162 rfl ?_
  refine v_callSI 9 cx dX12_unit_6 km_X12_137 ca_X12_isIn (c_X12_isIn C.2.1 E st ((p1 : Int32).toInt64) 0 5 ) rfl (by decide) rfl (Nat.le_of_ble_eq_true rfl) rfl h (fun v2 s1 h => ?_)
  refine v_if_ne 19 12 cx dX12_unit_9 (by decide) rfl h (fun h => ?_) (fun h => ?_)
  · refine v_iload_n 20 2 cx dX12_unit_19 rfl rfl rfl ?_
    refine v_if_ge 30 23 cx dX12_unit_20 (by decide) rfl h (fun h => ?_) (fun h => ?_)
    · refine v_iload_n 31 2 cx dX12_unit_30 rfl rfl rfl ?_
      refine v_iconst 32 cx dX12_unit_31 ic_4 rfl ?_
      refine v_icmp_le 42 35 cx dX12_unit_32 (by decide) rfl h (fun h => ?_) (fun h => ?_)
      · refine v_aload_n 43 0 cx dX12_unit_42 rfl rfl rfl ?_
        refine v_get 46 0 10 cx dX12_unit_43 iX12 (wMo_0 E s1) rfl (Nat.le_of_ble_eq_true rfl) rfl kf_X12_38 rfl rfl ?_
        refine v_iload_n 47 1 cx dX12_unit_46 rfl rfl rfl ?_
        refine v_iald 48 10 0 cx dX12_unit_47 (wMa_0_10 E s1) rfl rfl h (fun v3 h => ?_)
        refine v_istore_n 49 (fun a4 => [(3, .int a4), (0, .ref (oX E 0)), (1, .int p1), (2, .int p2)]) cx dX12_unit_48 rfl (by decide) (fun _ => rfl) rfl h (fun a4 h => ?_)
        refine v_aload_n 50 1 cx dX12_unit_49 rfl rfl rfl ?_
        refine v_get 53 0 10 cx dX12_unit_50 iX12 (wMo_0 E s1) rfl (Nat.le_of_ble_eq_true rfl) rfl kf_X12_38 rfl rfl ?_
        refine v_iload_n 54 2 cx dX12_unit_53 rfl rfl rfl ?_
        refine v_iload_n 55 3 cx dX12_unit_54 rfl rfl rfl ?_
        refine v_iast 56 10 0 cx dX12_unit_55 (wMa_0_10 E s1) rfl (wMt_0_10 E s1) rfl h (fun s5 h => ?_)
        refine v_aload_n 57 1 cx dX12_unit_56 rfl rfl rfl ?_
        refine v_callVV 60 0 cx dX12_unit_57 km_X12_132 ca_X12_changes (wMo_0 E s5) rfl (c_X12_changes C.2.1 E s5 ) rfl (by decide) rfl (Nat.le_of_ble_eq_true rfl) rfl h (fun _ s6 h => ?_)
        refine v_iload_n 61 0 cx dX12_unit_60 rfl rfl rfl ?_
        exact hk _ _ _ _ (Option.some.inj h) dX12_unit_61
      · refine v_aload_n 36 0 cx dX12_unit_35 rfl rfl rfl ?_
        refine v_bipush 38 cx dX12_unit_36 bp_m9 rfl ?_
        refine v_callVI 41 0 cx dX12_unit_38 km_X12_124 ca_X12_no (wMo_0 E s1) rfl (c_X12_no C.2.1 E s1 (-9) ) rfl (by decide) rfl (Nat.le_of_ble_eq_true rfl) rfl h (fun v8 s7 h => ?_)
        exact hk _ _ _ _ (Option.some.inj h) dX12_unit_41
    · refine v_aload_n 24 0 cx dX12_unit_23 rfl rfl rfl ?_
      refine v_bipush 26 cx dX12_unit_24 bp_m4 rfl ?_
      refine v_callVI 29 0 cx dX12_unit_26 km_X12_124 ca_X12_no (wMo_0 E s1) rfl (c_X12_no C.2.1 E s1 (-4) ) rfl (by decide) rfl (Nat.le_of_ble_eq_true rfl) rfl h (fun v10 s9 h => ?_)
      exact hk _ _ _ _ (Option.some.inj h) dX12_unit_29
  · refine v_aload_n 13 0 cx dX12_unit_12 rfl rfl rfl ?_
    refine v_bipush 15 cx dX12_unit_13 bp_m3 rfl ?_
    refine v_callVI 18 0 cx dX12_unit_15 km_X12_124 ca_X12_no (wMo_0 E s1) rfl (c_X12_no C.2.1 E s1 (-3) ) rfl (by decide) rfl (Nat.le_of_ble_eq_true rfl) rfl h (fun v12 s11 h => ?_)
    exact hk _ _ _ _ (Option.some.inj h) dX12_unit_18
set_option maxHeartbeats 4000000 in
set_option maxRecDepth 100000 in
theorem c_X12_works (l : Launch) (E : Ev) (st : Sg) (p1 : Int32) (p2 : Int32) (p3 : Int32) (p4 : Int32) : ∀ q, m_X12_works p1 p2 p3 p4 st = some q → CtI l (wM E) (tyE E) yX12_works cX12_works 5 (some .int) 2 40 [.ref (oX E 0), .int p1, .int p2, .int p3, .int p4] st q := by
  intro q h
  refine ctI_of (lv0 := [(0, .ref (oX E 0)), (1, .int p1), (2, .int p2), (3, .int p3), (4, .int p4)]) (by decide) rfl (Nat.le_of_ble_eq_true rfl) (fun C hC cx hk => ?_)
  replace cx : Cx C (tyE E) cX12_works RX12 5 2 40 := cx
  unfold m_X12_works at h
  refine v_aload_n 1 0 cx dX12_works_0 rfl rfl rfl ?_
  refine v_iload_n 2 1 cx dX12_works_1 rfl rfl rfl ?_
  refine v_callVI 5 0 cx dX12_works_2 km_X12_159 ca_X12_isAct (wMo_0 E st) rfl (c_X12_isAct C.2.1 E st p1 ) rfl (by decide) rfl (Nat.le_of_ble_eq_true rfl) rfl h (fun v2 s1 h => ?_)
  refine v_if_eq 20 8 cx dX12_works_5 (by decide) rfl h (fun h => ?_) (fun h => ?_)
  · refine v_aload_n 21 0 cx dX12_works_20 rfl rfl rfl ?_
    refine v_bipush 23 cx dX12_works_21 bp_m3 rfl ?_
    refine v_callVI 26 0 cx dX12_works_23 km_X12_124 ca_X12_no (wMo_0 E s1) rfl (c_X12_no C.2.1 E s1 (-3) ) rfl (by decide) rfl (Nat.le_of_ble_eq_true rfl) rfl h (fun v4 s3 h => ?_)
    exact hk _ _ _ _ (Option.some.inj h) dX12_works_26
  · refine v_iload_n 9 3 cx dX12_works_8 rfl rfl rfl ?_
    refine v_i2l 10 cx dX12_works_9 rfl ?_
    refine v_lconst 11 cx dX12_works_10 lc_0 rfl ?_
    refine v_ldc2 14 cx dX12_works_11 kc_X12_162 rfl ?_
    refine v_callSI 17 cx dX12_works_14 km_X12_137 ca_X12_isIn (c_X12_isIn C.2.1 E s1 ((p3 : Int32).toInt64) 0 5 ) rfl (by decide) rfl (Nat.le_of_ble_eq_true rfl) rfl h (fun v6 s5 h => ?_)
    refine v_if_ne 27 20 cx dX12_works_17 (by decide) rfl h (fun h => ?_) (fun h => ?_)
    · refine v_iload_n 28 2 cx dX12_works_27 rfl rfl rfl ?_
      refine v_i2l 29 cx dX12_works_28 rfl ?_
      refine v_lconst 30 cx dX12_works_29 lc_1 rfl ?_
      refine v_ldc2 33 cx dX12_works_30 kc_X12_164 rfl ?_
      refine v_callSI 36 cx dX12_works_33 km_X12_137 ca_X12_isIn (c_X12_isIn C.2.1 E s5 ((p2 : Int32).toInt64) 1 12 ) rfl (by decide) rfl (Nat.le_of_ble_eq_true rfl) rfl h (fun v8 s7 h => ?_)
      refine v_if_eq 52 39 cx dX12_works_36 (by decide) rfl h (fun h => ?_) (fun h => ?_)
      · refine v_aload_n 53 0 cx dX12_works_52 rfl rfl rfl ?_
        refine v_bipush 55 cx dX12_works_53 bp_m9 rfl ?_
        refine v_callVI 58 0 cx dX12_works_55 km_X12_124 ca_X12_no (wMo_0 E s7) rfl (c_X12_no C.2.1 E s7 (-9) ) rfl (by decide) rfl (Nat.le_of_ble_eq_true rfl) rfl h (fun v10 s9 h => ?_)
        exact hk _ _ _ _ (Option.some.inj h) dX12_works_58
      · refine v_iload 41 4 cx dX12_works_39 rfl rfl ?_
        refine v_i2l 42 cx dX12_works_41 rfl ?_
        refine v_lconst 43 cx dX12_works_42 lc_1 rfl ?_
        refine v_ldc2 46 cx dX12_works_43 kc_X12_166 rfl ?_
        refine v_callSI 49 cx dX12_works_46 km_X12_137 ca_X12_isIn (c_X12_isIn C.2.1 E s7 ((p4 : Int32).toInt64) 1 255 ) rfl (by decide) rfl (Nat.le_of_ble_eq_true rfl) rfl h (fun v12 s11 h => ?_)
        refine v_if_ne 59 52 cx dX12_works_49 (by decide) rfl h (fun h => ?_) (fun h => ?_)
        · refine v_aload_n 60 0 cx dX12_works_59 rfl rfl rfl ?_
          refine v_get 63 0 1 cx dX12_works_60 iX12 (wMo_0 E s11) rfl (Nat.le_of_ble_eq_true rfl) rfl kf_X12_13 rfl rfl ?_
          refine v_iload_n 64 1 cx dX12_works_63 rfl rfl rfl ?_
          refine v_iload_n 65 2 cx dX12_works_64 rfl rfl rfl ?_
          refine v_iast 66 2 0 cx dX12_works_65 (wMa_0_1 E s11) rfl (wMt_0_1 E s11) rfl h (fun s13 h => ?_)
          refine v_aload_n 67 0 cx dX12_works_66 rfl rfl rfl ?_
          refine v_get 70 0 2 cx dX12_works_67 iX12 (wMo_0 E s13) rfl (Nat.le_of_ble_eq_true rfl) rfl kf_X12_16 rfl rfl ?_
          refine v_iload_n 71 1 cx dX12_works_70 rfl rfl rfl ?_
          refine v_iload_n 72 3 cx dX12_works_71 rfl rfl rfl ?_
          refine v_iast 73 3 0 cx dX12_works_72 (wMa_0_2 E s13) rfl (wMt_0_2 E s13) rfl h (fun s14 h => ?_)
          refine v_aload_n 74 0 cx dX12_works_73 rfl rfl rfl ?_
          refine v_get 77 0 3 cx dX12_works_74 iX12 (wMo_0 E s14) rfl (Nat.le_of_ble_eq_true rfl) rfl kf_X12_19 rfl rfl ?_
          refine v_iload_n 78 1 cx dX12_works_77 rfl rfl rfl ?_
          refine v_iload 80 4 cx dX12_works_78 rfl rfl ?_
          refine v_iast 81 4 0 cx dX12_works_80 (wMa_0_3 E s14) rfl (wMt_0_3 E s14) rfl h (fun s15 h => ?_)
          refine v_aload_n 82 0 cx dX12_works_81 rfl rfl rfl ?_
          refine v_callVV 85 0 cx dX12_works_82 km_X12_132 ca_X12_changes (wMo_0 E s15) rfl (c_X12_changes C.2.1 E s15 ) rfl (by decide) rfl (Nat.le_of_ble_eq_true rfl) rfl h (fun _ s16 h => ?_)
          refine v_iconst 86 cx dX12_works_85 ic_1 rfl ?_
          exact hk _ _ _ _ (Option.some.inj h) dX12_works_86
        · refine v_aload_n 53 0 cx dX12_works_52 rfl rfl rfl ?_
          refine v_bipush 55 cx dX12_works_53 bp_m9 rfl ?_
          refine v_callVI 58 0 cx dX12_works_55 km_X12_124 ca_X12_no (wMo_0 E s11) rfl (c_X12_no C.2.1 E s11 (-9) ) rfl (by decide) rfl (Nat.le_of_ble_eq_true rfl) rfl h (fun v18 s17 h => ?_)
          exact hk _ _ _ _ (Option.some.inj h) dX12_works_58
    · refine v_aload_n 21 0 cx dX12_works_20 rfl rfl rfl ?_
      refine v_bipush 23 cx dX12_works_21 bp_m3 rfl ?_
      refine v_callVI 26 0 cx dX12_works_23 km_X12_124 ca_X12_no (wMo_0 E s5) rfl (c_X12_no C.2.1 E s5 (-3) ) rfl (by decide) rfl (Nat.le_of_ble_eq_true rfl) rfl h (fun v20 s19 h => ?_)
      exact hk _ _ _ _ (Option.some.inj h) dX12_works_26
set_option maxHeartbeats 4000000 in
set_option maxRecDepth 100000 in
theorem c_X12_wrong (l : Launch) (E : Ev) (st : Sg) (p1 : Int32) : ∀ q, m_X12_wrong p1 st = some q → CtI l (wM E) (tyE E) yX12_wrong cX12_wrong 2 (some .int) 1 25 [.ref (oX E 0), .int p1] st q := by
  intro q h
  refine ctI_of (lv0 := [(0, .ref (oX E 0)), (1, .int p1)]) (by decide) rfl (Nat.le_of_ble_eq_true rfl) (fun C hC cx hk => ?_)
  replace cx : Cx C (tyE E) cX12_wrong RX12 2 1 25 := cx
  unfold m_X12_wrong at h
  refine v_iload_n 1 1 cx dX12_wrong_0 rfl rfl rfl ?_
  refine v_i2l 2 cx dX12_wrong_1 rfl ?_
  refine v_lconst 3 cx dX12_wrong_2 lc_0 rfl ?_
  refine v_ldc2 6 cx dX12_wrong_3 kc_X12_162 rfl ?_
  refine v_callSI 9 cx dX12_wrong_6 km_X12_137 ca_X12_isIn (c_X12_isIn C.2.1 E st ((p1 : Int32).toInt64) 0 5 ) rfl (by decide) rfl (Nat.le_of_ble_eq_true rfl) rfl h (fun v2 s1 h => ?_)
  refine v_if_eq 21 12 cx dX12_wrong_9 (by decide) rfl h (fun h => ?_) (fun h => ?_)
  · refine v_aload_n 22 0 cx dX12_wrong_21 rfl rfl rfl ?_
    refine v_bipush 24 cx dX12_wrong_22 bp_m9 rfl ?_
    refine v_callVI 27 0 cx dX12_wrong_24 km_X12_124 ca_X12_no (wMo_0 E s1) rfl (c_X12_no C.2.1 E s1 (-9) ) rfl (by decide) rfl (Nat.le_of_ble_eq_true rfl) rfl h (fun v4 s3 h => ?_)
    exact hk _ _ _ _ (Option.some.inj h) dX12_wrong_27
  · refine v_aload_n 13 0 cx dX12_wrong_12 rfl rfl rfl ?_
    refine v_get 16 0 36 cx dX12_wrong_13 iX12 (wMo_0 E s1) rfl (Nat.le_of_ble_eq_true rfl) rfl kf_X12_102 rfl rfl ?_
    refine v_iload_n 17 1 cx dX12_wrong_16 rfl rfl rfl ?_
    refine v_iald 18 31 0 cx dX12_wrong_17 (wMa_0_36 E s1) rfl rfl h (fun v5 h => ?_)
    refine v_goto 27 cx dX12_wrong_18 (by decide) ?_
    exact hk _ _ _ _ (Option.some.inj h) dX12_wrong_27
