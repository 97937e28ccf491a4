-- machine layer (written by gen.py)
def V_X12_copy_L137 (C : Cm) (E : Ev) (x1 : Int32) (x2 : Int32) (x3 : Int32) (x4 : Int32) (x5 : Int32) (s : (Int32 × Sg)) : Prop := Vat C (wM E) 7 137 [(0, .ref (oX E 0)), (1, .int x1), (2, .int x2), (3, .int x3), (4, .int x4), (5, .int x5), (6, .int s.1)] [] s.2
def K_X12_copy_L137 (C : Cm) (E : Ev) (x1 : Int32) (x2 : Int32) (x3 : Int32) (x4 : Int32) (x5 : Int32) : (Sg) → Prop := (fun r : (Sg) => Vat C (wM E) 7 165 [(0, .ref (oX E 0)), (1, .int x1), (2, .int x2), (3, .int x3), (4, .int x4), (5, .int x5)] [] r)
set_option maxHeartbeats 4000000 in
set_option maxRecDepth 100000 in
theorem b_X12_copy_L137 {C : Cm} {E : Ev} (cx : Cx C (tyE E) cX12_copy RX12 7 1 21) (x1 : Int32) (x2 : Int32) (x3 : Int32) (x4 : Int32) (x5 : Int32) : ∀ (s : (Int32 × Sg)) (out : (Int32 × Sg) ⊕ (Sg)), m_X12_copy_L137 x1 x2 x3 x4 x5 s.1 s.2 = some out → Sum.elim (V_X12_copy_L137 C E x1 x2 x3 x4 x5) (K_X12_copy_L137 C E x1 x2 x3 x4 x5) out → V_X12_copy_L137 C E x1 x2 x3 x4 x5 s := by
  intro s out h hk
  obtain ⟨x6, st⟩ := s
  show Vat C (wM E) 7 137 [(0, .ref (oX E 0)), (1, .int x1), (2, .int x2), (3, .int x3), (4, .int x4), (5, .int x5), (6, .int x6)] [] st
  replace h : m_X12_copy_L137 x1 x2 x3 x4 x5 x6 st = some out := h
  unfold m_X12_copy_L137 at h
  refine v_iload 139 6 cx dX12_copy_137 rfl rfl ?_
  refine v_sipush 142 cx dX12_copy_139 sp_320 rfl ?_
  refine v_icmp_ge 165 145 cx dX12_copy_142 (by decide) rfl h (fun h => ?_) (fun h => ?_)
  · cases h
    have hk : Vat C (wM E) 7 165 [(0, .ref (oX E 0)), (1, .int x1), (2, .int x2), (3, .int x3), (4, .int x4), (5, .int x5)] [] st := hk
    exact v_lsub (lv' := [(0, .ref (oX E 0)), (1, .int x1), (2, .int x2), (3, .int x3), (4, .int x4), (5, .int x5)]) [0, 1, 2, 3, 4, 5] rfl (hk)
  · refine v_aload_n 146 0 cx dX12_copy_145 rfl rfl rfl ?_
    refine v_get 149 0 22 cx dX12_copy_146 iX12 (wMo_0 E st) rfl (Nat.le_of_ble_eq_true rfl) rfl kf_X12_68 rfl rfl ?_
    refine v_iload 151 6 cx dX12_copy_149 rfl rfl ?_
    refine v_aload_n 152 0 cx dX12_copy_151 rfl rfl rfl ?_
    refine v_get 155 0 21 cx dX12_copy_152 iX12 (wMo_0 E st) rfl (Nat.le_of_ble_eq_true rfl) rfl kf_X12_65 rfl rfl ?_
    refine v_iload 157 6 cx dX12_copy_155 rfl rfl ?_
    refine v_lald 158 19 1 cx dX12_copy_157 (wMa_0_21 E st) rfl rfl h (fun v24 h => ?_)
    refine v_last 159 20 1 cx dX12_copy_158 (wMa_0_22 E st) rfl (wMt_0_22 E st) rfl h (fun s25 h => ?_)
    refine v_iinc 162 6 (fun a26 => [(6, .int a26), (0, .ref (oX E 0)), (1, .int x1), (2, .int x2), (3, .int x3), (4, .int x4), (5, .int x5)]) cx dX12_copy_159 rfl ic_1 (by decide) (fun _ => rfl) rfl h (fun a26 h => ?_)
    refine v_goto 137 cx dX12_copy_162 (by decide) ?_
    cases h
    have hk : Vat C (wM E) 7 137 [(0, .ref (oX E 0)), (1, .int x1), (2, .int x2), (3, .int x3), (4, .int x4), (5, .int x5), (6, .int a26)] [] s25 := hk
    exact v_lsub (lv' := [(0, .ref (oX E 0)), (1, .int x1), (2, .int x2), (3, .int x3), (4, .int x4), (5, .int x5), (6, .int a26)]) [1, 2, 3, 4, 5, 6, 0] rfl (hk)
def V_X12_copy_L168 (C : Cm) (E : Ev) (x1 : Int32) (x2 : Int32) (x3 : Int32) (x4 : Int32) (x5 : Int32) (s : (Int32 × Sg)) : Prop := Vat C (wM E) 7 168 [(0, .ref (oX E 0)), (1, .int x1), (2, .int x2), (3, .int x3), (4, .int x4), (5, .int x5), (6, .int s.1)] [] s.2
def K_X12_copy_L168 (C : Cm) (E : Ev) (x1 : Int32) (x2 : Int32) (x3 : Int32) (x4 : Int32) (x5 : Int32) : (Sg) → Prop := (fun r : (Sg) => Vat C (wM E) 7 210 [(5, .int x5)] [] r)
set_option maxHeartbeats 4000000 in
set_option maxRecDepth 100000 in
theorem b_X12_copy_L168 {C : Cm} {E : Ev} (cx : Cx C (tyE E) cX12_copy RX12 7 1 21) (x1 : Int32) (x2 : Int32) (x3 : Int32) (x4 : Int32) (x5 : Int32) : ∀ (s : (Int32 × Sg)) (out : (Int32 × Sg) ⊕ (Sg)), m_X12_copy_L168 x1 x2 x3 x4 x5 s.1 s.2 = some out → Sum.elim (V_X12_copy_L168 C E x1 x2 x3 x4 x5) (K_X12_copy_L168 C E x1 x2 x3 x4 x5) out → V_X12_copy_L168 C E x1 x2 x3 x4 x5 s := by
  intro s out h hk
  obtain ⟨x6, st⟩ := s
  show Vat C (wM E) 7 168 [(0, .ref (oX E 0)), (1, .int x1), (2, .int x2), (3, .int x3), (4, .int x4), (5, .int x5), (6, .int x6)] [] st
  replace h : m_X12_copy_L168 x1 x2 x3 x4 x5 x6 st = some out := h
  unfold m_X12_copy_L168 at h
  refine v_iload 170 6 cx dX12_copy_168 rfl rfl ?_
  refine v_iload 172 5 cx dX12_copy_170 rfl rfl ?_
  refine v_icmp_ge 210 175 cx dX12_copy_172 (by decide) rfl h (fun h => ?_) (fun h => ?_)
  · cases h
    have hk : Vat C (wM E) 7 210 [(5, .int x5)] [] st := hk
    exact v_lsub (lv' := [(5, .int x5)]) [5] rfl (hk)
  · refine v_aload_n 176 0 cx dX12_copy_175 rfl rfl rfl ?_
    refine v_get 179 0 21 cx dX12_copy_176 iX12 (wMo_0 E st) rfl (Nat.le_of_ble_eq_true rfl) rfl kf_X12_65 rfl rfl ?_
    refine v_bipush 181 cx dX12_copy_179 bp_40 rfl ?_
    refine v_iload_n 182 3 cx dX12_copy_181 rfl rfl rfl ?_
    refine v_imul 183 cx dX12_copy_182 rfl ?_
    refine v_iload 185 4 cx dX12_copy_183 rfl rfl ?_
    refine v_iadd 186 cx dX12_copy_185 rfl ?_
    refine v_iload 188 6 cx dX12_copy_186 rfl rfl ?_
    refine v_iadd 189 cx dX12_copy_188 rfl ?_
    refine v_aload_n 190 0 cx dX12_copy_189 rfl rfl rfl ?_
    refine v_get 193 0 22 cx dX12_copy_190 iX12 (wMo_0 E st) rfl (Nat.le_of_ble_eq_true rfl) rfl kf_X12_68 rfl rfl ?_
    refine v_bipush 195 cx dX12_copy_193 bp_40 rfl ?_
    refine v_iload_n 196 1 cx dX12_copy_195 rfl rfl rfl ?_
    refine v_imul 197 cx dX12_copy_196 rfl ?_
    refine v_iload_n 198 2 cx dX12_copy_197 rfl rfl rfl ?_
    refine v_iadd 199 cx dX12_copy_198 rfl ?_
    refine v_iload 201 6 cx dX12_copy_199 rfl rfl ?_
    refine v_iadd 202 cx dX12_copy_201 rfl ?_
    refine v_lald 203 20 1 cx dX12_copy_202 (wMa_0_22 E st) rfl rfl h (fun v29 h => ?_)
    refine v_last 204 19 1 cx dX12_copy_203 (wMa_0_21 E st) rfl (wMt_0_21 E st) rfl h (fun s30 h => ?_)
    refine v_iinc 207 6 (fun a31 => [(6, .int a31), (0, .ref (oX E 0)), (1, .int x1), (2, .int x2), (3, .int x3), (4, .int x4), (5, .int x5)]) cx dX12_copy_204 rfl ic_1 (by decide) (fun _ => rfl) rfl h (fun a31 h => ?_)
    refine v_goto 168 cx dX12_copy_207 (by decide) ?_
    cases h
    have hk : Vat C (wM E) 7 168 [(0, .ref (oX E 0)), (1, .int x1), (2, .int x2), (3, .int x3), (4, .int x4), (5, .int x5), (6, .int a31)] [] s30 := hk
    exact v_lsub (lv' := [(0, .ref (oX E 0)), (1, .int x1), (2, .int x2), (3, .int x3), (4, .int x4), (5, .int x5), (6, .int a31)]) [1, 2, 3, 4, 5, 6, 0] rfl (hk)
set_option maxHeartbeats 4000000 in
set_option maxRecDepth 100000 in
theorem c_X12_copy (l : Launch) (E : Ev) (st : Sg) (p1 : Int32) (p2 : Int32) (p3 : Int32) (p4 : Int32) (p5 : Int32) : ∀ q, m_X12_copy p1 p2 p3 p4 p5 st = some q → CtI l (wM E) (tyE E) yX12_copy cX12_copy 7 (some .int) 1 21 [.ref (oX E 0), .int p1, .int p2, .int p3, .int p4, .int p5] st q := by
  intro q h
  refine ctI_of (lv0 := [(0, .ref (oX E 0)), (1, .int p1), (2, .int p2), (3, .int p3), (4, .int p4), (5, .int p5)]) (by decide) rfl (Nat.le_of_ble_eq_true rfl) (fun C hC cx hk => ?_)
  replace cx : Cx C (tyE E) cX12_copy RX12 7 1 21 := cx
  unfold m_X12_copy at h
  refine v_iload_n 1 1 cx dX12_copy_0 rfl rfl rfl ?_
  refine v_callSI 4 cx dX12_copy_1 km_X12_249 ca_X12_isSlot (c_X12_isSlot C.2.1 E st p1 ) rfl (by decide) rfl (Nat.le_of_ble_eq_true rfl) rfl h (fun v2 s1 h => ?_)
  refine v_if_eq 14 7 cx dX12_copy_4 (by decide) rfl h (fun h => ?_) (fun h => ?_)
  · refine v_aload_n 15 0 cx dX12_copy_14 rfl rfl rfl ?_
    refine v_bipush 17 cx dX12_copy_15 bp_m3 rfl ?_
    refine v_callVI 20 0 cx dX12_copy_17 km_X12_124 ca_X12_no (wMo_0 E s1) rfl (c_X12_no C.2.1 E s1 (-3) ) rfl (by decide) rfl (Nat.le_of_ble_eq_true rfl) rfl h (fun v4 s3 h => ?_)
    exact hk _ _ _ _ (Option.some.inj h) dX12_copy_20
  · refine v_iload_n 8 3 cx dX12_copy_7 rfl rfl rfl ?_
    refine v_callSI 11 cx dX12_copy_8 km_X12_249 ca_X12_isSlot (c_X12_isSlot C.2.1 E s1 p3 ) rfl (by decide) rfl (Nat.le_of_ble_eq_true rfl) rfl h (fun v6 s5 h => ?_)
    refine v_if_ne 21 14 cx dX12_copy_11 (by decide) rfl h (fun h => ?_) (fun h => ?_)
    · refine v_aload_n 22 0 cx dX12_copy_21 rfl rfl rfl ?_
      refine v_get 25 0 23 cx dX12_copy_22 iX12 (wMo_0 E s5) rfl (Nat.le_of_ble_eq_true rfl) rfl kf_X12_71 rfl rfl ?_
      refine v_iload_n 26 1 cx dX12_copy_25 rfl rfl rfl ?_
      refine v_iald 27 21 0 cx dX12_copy_26 (wMa_0_23 E s5) rfl rfl h (fun v7 h => ?_)
      refine v_if_eq 39 30 cx dX12_copy_27 (by decide) rfl h (fun h => ?_) (fun h => ?_)
      · refine v_aload_n 40 0 cx dX12_copy_39 rfl rfl rfl ?_
        refine v_bipush 42 cx dX12_copy_40 bp_m2 rfl ?_
        refine v_callVI 45 0 cx dX12_copy_42 km_X12_124 ca_X12_no (wMo_0 E s5) rfl (c_X12_no C.2.1 E s5 (-2) ) rfl (by decide) rfl (Nat.le_of_ble_eq_true rfl) rfl h (fun v9 s8 h => ?_)
        exact hk _ _ _ _ (Option.some.inj h) dX12_copy_45
      · refine v_aload_n 31 0 cx dX12_copy_30 rfl rfl rfl ?_
        refine v_get 34 0 23 cx dX12_copy_31 iX12 (wMo_0 E s5) rfl (Nat.le_of_ble_eq_true rfl) rfl kf_X12_71 rfl rfl ?_
        refine v_iload_n 35 3 cx dX12_copy_34 rfl rfl rfl ?_
        refine v_iald 36 21 0 cx dX12_copy_35 (wMa_0_23 E s5) rfl rfl h (fun v10 h => ?_)
        refine v_if_ne 46 39 cx dX12_copy_36 (by decide) rfl h (fun h => ?_) (fun h => ?_)
        · refine v_aload_n 47 0 cx dX12_copy_46 rfl rfl rfl ?_
          refine v_get 50 0 24 cx dX12_copy_47 iX12 (wMo_0 E s5) rfl (Nat.le_of_ble_eq_true rfl) rfl kf_X12_74 rfl rfl ?_
          refine v_iload_n 51 1 cx dX12_copy_50 rfl rfl rfl ?_
          refine v_zald 52 22 2 cx dX12_copy_51 (wMa_0_24 E s5) rfl rfl h (fun v11 h => ?_)
          refine v_if_eq 64 55 cx dX12_copy_52 (by decide) rfl h (fun h => ?_) (fun h => ?_)
          · refine v_aload_n 65 0 cx dX12_copy_64 rfl rfl rfl ?_
            refine v_bipush 67 cx dX12_copy_65 bp_m5 rfl ?_
            refine v_callVI 70 0 cx dX12_copy_67 km_X12_124 ca_X12_no (wMo_0 E s5) rfl (c_X12_no C.2.1 E s5 (-5) ) rfl (by decide) rfl (Nat.le_of_ble_eq_true rfl) rfl h (fun v13 s12 h => ?_)
            exact hk _ _ _ _ (Option.some.inj h) dX12_copy_70
          · refine v_aload_n 56 0 cx dX12_copy_55 rfl rfl rfl ?_
            refine v_get 59 0 24 cx dX12_copy_56 iX12 (wMo_0 E s5) rfl (Nat.le_of_ble_eq_true rfl) rfl kf_X12_74 rfl rfl ?_
            refine v_iload_n 60 3 cx dX12_copy_59 rfl rfl rfl ?_
            refine v_zald 61 22 2 cx dX12_copy_60 (wMa_0_24 E s5) rfl rfl h (fun v14 h => ?_)
            refine v_if_ne 71 64 cx dX12_copy_61 (by decide) rfl h (fun h => ?_) (fun h => ?_)
            · refine v_iload 73 5 cx dX12_copy_71 rfl rfl ?_
              refine v_if_ge 83 76 cx dX12_copy_73 (by decide) rfl h (fun h => ?_) (fun h => ?_)
              · refine v_iload_n 84 2 cx dX12_copy_83 rfl rfl rfl ?_
                refine v_if_lt 127 87 cx dX12_copy_84 (by decide) rfl h (fun h => ?_) (fun h => ?_)
                · refine v_aload_n 128 0 cx dX12_copy_127 rfl rfl rfl ?_
                  refine v_bipush 130 cx dX12_copy_128 bp_m6 rfl ?_
                  refine v_callVI 133 0 cx dX12_copy_130 km_X12_124 ca_X12_no (wMo_0 E s5) rfl (c_X12_no C.2.1 E s5 (-6) ) rfl (by decide) rfl (Nat.le_of_ble_eq_true rfl) rfl h (fun v16 s15 h => ?_)
                  exact hk _ _ _ _ (Option.some.inj h) dX12_copy_133
                · refine v_iload 89 4 cx dX12_copy_87 rfl rfl ?_
                  refine v_if_lt 127 92 cx dX12_copy_89 (by decide) rfl h (fun h => ?_) (fun h => ?_)
                  · refine v_aload_n 128 0 cx dX12_copy_127 rfl rfl rfl ?_
                    refine v_bipush 130 cx dX12_copy_128 bp_m6 rfl ?_
                    refine v_callVI 133 0 cx dX12_copy_130 km_X12_124 ca_X12_no (wMo_0 E s5) rfl (c_X12_no C.2.1 E s5 (-6) ) rfl (by decide) rfl (Nat.le_of_ble_eq_true rfl) rfl h (fun v18 s17 h => ?_)
                    exact hk _ _ _ _ (Option.some.inj h) dX12_copy_133
                  · refine v_iload_n 93 2 cx dX12_copy_92 rfl rfl rfl ?_
                    refine v_i2l 94 cx dX12_copy_93 rfl ?_
                    refine v_iload 96 5 cx dX12_copy_94 rfl rfl ?_
                    refine v_i2l 97 cx dX12_copy_96 rfl ?_
                    refine v_ladd 98 cx dX12_copy_97 rfl ?_
                    refine v_aload_n 99 0 cx dX12_copy_98 rfl rfl rfl ?_
                    refine v_get 102 0 23 cx dX12_copy_99 iX12 (wMo_0 E s5) rfl (Nat.le_of_ble_eq_true rfl) rfl kf_X12_71 rfl rfl ?_
                    refine v_iload_n 103 1 cx dX12_copy_102 rfl rfl rfl ?_
                    refine v_iald 104 21 0 cx dX12_copy_103 (wMa_0_23 E s5) rfl rfl h (fun v19 h => ?_)
                    refine v_i2l 105 cx dX12_copy_104 rfl ?_
                    refine v_lcmp 106 cx dX12_copy_105 rfl ?_
                    refine v_if_gt 127 109 cx dX12_copy_106 (by decide) rfl h (fun h => ?_) (fun h => ?_)
                    · refine v_aload_n 128 0 cx dX12_copy_127 rfl rfl rfl ?_
                      refine v_bipush 130 cx dX12_copy_128 bp_m6 rfl ?_
                      refine v_callVI 133 0 cx dX12_copy_130 km_X12_124 ca_X12_no (wMo_0 E s5) rfl (c_X12_no C.2.1 E s5 (-6) ) rfl (by decide) rfl (Nat.le_of_ble_eq_true rfl) rfl h (fun v21 s20 h => ?_)
                      exact hk _ _ _ _ (Option.some.inj h) dX12_copy_133
                    · refine v_iload 111 4 cx dX12_copy_109 rfl rfl ?_
                      refine v_i2l 112 cx dX12_copy_111 rfl ?_
                      refine v_iload 114 5 cx dX12_copy_112 rfl rfl ?_
                      refine v_i2l 115 cx dX12_copy_114 rfl ?_
                      refine v_ladd 116 cx dX12_copy_115 rfl ?_
                      refine v_aload_n 117 0 cx dX12_copy_116 rfl rfl rfl ?_
                      refine v_get 120 0 23 cx dX12_copy_117 iX12 (wMo_0 E s5) rfl (Nat.le_of_ble_eq_true rfl) rfl kf_X12_71 rfl rfl ?_
                      refine v_iload_n 121 3 cx dX12_copy_120 rfl rfl rfl ?_
                      refine v_iald 122 21 0 cx dX12_copy_121 (wMa_0_23 E s5) rfl rfl h (fun v22 h => ?_)
                      refine v_i2l 123 cx dX12_copy_122 rfl ?_
                      refine v_lcmp 124 cx dX12_copy_123 rfl ?_
                      refine v_if_le 134 127 cx dX12_copy_124 (by decide) rfl h (fun h => ?_) (fun h => ?_)
                      · refine v_iconst 135 cx dX12_copy_134 ic_0 rfl ?_
                        refine v_istore 137 (fun a23 => [(6, .int a23), (0, .ref (oX E 0)), (1, .int p1), (2, .int p2), (3, .int p3), (4, .int p4), (5, .int p5)]) cx dX12_copy_135 (by decide) (fun _ => rfl) rfl h (fun a23 h => ?_)
                        refine v_lsub (lv' := [(0, .ref (oX E 0)), (1, .int p1), (2, .int p2), (3, .int p3), (4, .int p4), (5, .int p5), (6, .int a23)]) [1, 2, 3, 4, 5, 6, 0] rfl ?_
                        refine v_loop (s0 := (a23, s5)) (V_X12_copy_L137 C E p1 p2 p3 p4 p5) (K_X12_copy_L137 C E p1 p2 p3 p4 p5) h (b_X12_copy_L137 cx p1 p2 p3 p4 p5) (fun r27 h => ?_)
                        show Vat C (wM E) 7 165 [(0, .ref (oX E 0)), (1, .int p1), (2, .int p2), (3, .int p3), (4, .int p4), (5, .int p5)] [] r27
                        refine v_iconst 166 cx dX12_copy_165 ic_0 rfl ?_
                        refine v_istore 168 (fun a28 => [(6, .int a28), (0, .ref (oX E 0)), (1, .int p1), (2, .int p2), (3, .int p3), (4, .int p4), (5, .int p5)]) cx dX12_copy_166 (by decide) (fun _ => rfl) rfl h (fun a28 h => ?_)
                        refine v_lsub (lv' := [(0, .ref (oX E 0)), (1, .int p1), (2, .int p2), (3, .int p3), (4, .int p4), (5, .int p5), (6, .int a28)]) [1, 2, 3, 4, 5, 6, 0] rfl ?_
                        refine v_loop (s0 := (a28, r27)) (V_X12_copy_L168 C E p1 p2 p3 p4 p5) (K_X12_copy_L168 C E p1 p2 p3 p4 p5) h (b_X12_copy_L168 cx p1 p2 p3 p4 p5) (fun r32 h => ?_)
                        show Vat C (wM E) 7 210 [(5, .int p5)] [] r32
                        refine v_iload 212 0 cx dX12_copy_210 rfl rfl ?_
                        exact hk _ _ _ _ (Option.some.inj h) dX12_copy_212
                      · refine v_aload_n 128 0 cx dX12_copy_127 rfl rfl rfl ?_
                        refine v_bipush 130 cx dX12_copy_128 bp_m6 rfl ?_
                        refine v_callVI 133 0 cx dX12_copy_130 km_X12_124 ca_X12_no (wMo_0 E s5) rfl (c_X12_no C.2.1 E s5 (-6) ) rfl (by decide) rfl (Nat.le_of_ble_eq_true rfl) rfl h (fun v34 s33 h => ?_)
                        exact hk _ _ _ _ (Option.some.inj h) dX12_copy_133
              · refine v_aload_n 77 0 cx dX12_copy_76 rfl rfl rfl ?_
                refine v_bipush 79 cx dX12_copy_77 bp_m4 rfl ?_
                refine v_callVI 82 0 cx dX12_copy_79 km_X12_124 ca_X12_no (wMo_0 E s5) rfl (c_X12_no C.2.1 E s5 (-4) ) rfl (by decide) rfl (Nat.le_of_ble_eq_true rfl) rfl h (fun v36 s35 h => ?_)
                exact hk _ _ _ _ (Option.some.inj h) dX12_copy_82
            · refine v_aload_n 65 0 cx dX12_copy_64 rfl rfl rfl ?_
              refine v_bipush 67 cx dX12_copy_65 bp_m5 rfl ?_
              refine v_callVI 70 0 cx dX12_copy_67 km_X12_124 ca_X12_no (wMo_0 E s5) rfl (c_X12_no C.2.1 E s5 (-5) ) rfl (by decide) rfl (Nat.le_of_ble_eq_true rfl) rfl h (fun v38 s37 h => ?_)
              exact hk _ _ _ _ (Option.some.inj h) dX12_copy_70
        · refine v_aload_n 40 0 cx dX12_copy_39 rfl rfl rfl ?_
          refine v_bipush 42 cx dX12_copy_40 bp_m2 rfl ?_
          refine v_callVI 45 0 cx dX12_copy_42 km_X12_124 ca_X12_no (wMo_0 E s5) rfl (c_X12_no C.2.1 E s5 (-2) ) rfl (by decide) rfl (Nat.le_of_ble_eq_true rfl) rfl h (fun v40 s39 h => ?_)
          exact hk _ _ _ _ (Option.some.inj h) dX12_copy_45
    · refine v_aload_n 15 0 cx dX12_copy_14 rfl rfl rfl ?_
      refine v_bipush 17 cx dX12_copy_15 bp_m3 rfl ?_
      refine v_callVI 20 0 cx dX12_copy_17 km_X12_124 ca_X12_no (wMo_0 E s5) rfl (c_X12_no C.2.1 E s5 (-3) ) rfl (by decide) rfl (Nat.le_of_ble_eq_true rfl) rfl h (fun v42 s41 h => ?_)
      exact hk _ _ _ _ (Option.some.inj h) dX12_copy_20
def V_X12_count_L61 (C : Cm) (E : Ev) (x1 : Int32) (s : (Int32 × Int32 × Sg)) : Prop := Vat C (wM E) 4 61 [(0, .ref (oX E 0)), (1, .int x1), (2, .int s.1), (3, .int s.2.1)] [] s.2.2
def K_X12_count_L61 (C : Cm) (E : Ev) (x1 : Int32) : (Int32 × Sg) → Prop := (fun r : (Int32 × Sg) => Vat C (wM E) 4 93 [(0, .ref (oX E 0)), (1, .int x1), (2, .int r.1)] [] r.2)
set_option maxHeartbeats 4000000 in
set_option maxRecDepth 100000 in
theorem b_X12_count_L61 {C : Cm} {E : Ev} (cx : Cx C (tyE E) cX12_count RX12 4 3 70) (x1 : Int32) : ∀ (s : (Int32 × Int32 × Sg)) (out : (Int32 × Int32 × Sg) ⊕ (Int32 × Sg)), m_X12_count_L61 x1 s.1 s.2.1 s.2.2 = some out → Sum.elim (V_X12_count_L61 C E x1) (K_X12_count_L61 C E x1) out → V_X12_count_L61 C E x1 s := by
  intro s out h hk
  obtain ⟨x2, x3, st⟩ := s
  show Vat C (wM E) 4 61 [(0, .ref (oX E 0)), (1, .int x1), (2, .int x2), (3, .int x3)] [] st
  replace h : m_X12_count_L61 x1 x2 x3 st = some out := h
  unfold m_X12_count_L61 at h
  refine v_iload_n 62 3 cx dX12_count_61 rfl rfl rfl ?_
  refine v_aload_n 63 0 cx dX12_count_62 rfl rfl rfl ?_
  refine v_getI 66 0 9 cx dX12_count_63 iX12 (wMo_0 E st) rfl (Nat.le_of_ble_eq_true rfl) rfl kf_X12_118 rfl rfl h (fun v6 h => ?_)
  refine v_icmp_ge 93 69 cx dX12_count_66 (by decide) rfl h (fun h => ?_) (fun h => ?_)
  · cases h
    have hk : Vat C (wM E) 4 93 [(0, .ref (oX E 0)), (1, .int x1), (2, .int x2)] [] st := hk
    exact v_lsub (lv' := [(0, .ref (oX E 0)), (1, .int x1), (2, .int x2)]) [0, 1, 2] rfl (hk)
  · refine v_iload_n 70 2 cx dX12_count_69 rfl rfl rfl ?_
    refine v_aload_n 71 0 cx dX12_count_70 rfl rfl rfl ?_
    refine v_get 74 0 0 cx dX12_count_71 iX12 (wMo_0 E st) rfl (Nat.le_of_ble_eq_true rfl) rfl kf_X12_7 rfl rfl ?_
    refine v_iload_n 75 3 cx dX12_count_74 rfl rfl rfl ?_
    refine v_iald 76 1 0 cx dX12_count_75 (wMa_0_0 E st) rfl rfl h (fun v7 h => ?_)
    refine v_iconst 77 cx dX12_count_76 ic_5 rfl ?_
    refine v_icmp_ne 84 80 cx dX12_count_77 (by decide) rfl h (fun h => ?_) (fun h => ?_)
    · refine v_iconst 85 cx dX12_count_84 ic_0 rfl ?_
      refine v_iadd 86 cx dX12_count_85 rfl ?_
      refine v_istore_n 87 (fun a8 => [(2, .int a8), (0, .ref (oX E 0)), (1, .int x1), (3, .int x3)]) cx dX12_count_86 rfl (by decide) (fun _ => rfl) rfl h (fun a8 h => ?_)
      refine v_iinc 90 3 (fun a9 => [(3, .int a9), (2, .int a8), (0, .ref (oX E 0)), (1, .int x1)]) cx dX12_count_87 rfl ic_1 (by decide) (fun _ => rfl) rfl h (fun a9 h => ?_)
      refine v_goto 61 cx dX12_count_90 (by decide) ?_
      cases h
      have hk : Vat C (wM E) 4 61 [(0, .ref (oX E 0)), (1, .int x1), (2, .int a8), (3, .int a9)] [] st := hk
      exact v_lsub (lv' := [(0, .ref (oX E 0)), (1, .int x1), (2, .int a8), (3, .int a9)]) [2, 3, 1, 0] rfl (hk)
    · refine v_iconst 81 cx dX12_count_80 ic_1 rfl ?_
      refine v_goto 85 cx dX12_count_81 (by decide) ?_
      refine v_iadd 86 cx dX12_count_85 rfl ?_
      refine v_istore_n 87 (fun a10 => [(2, .int a10), (0, .ref (oX E 0)), (1, .int x1), (3, .int x3)]) cx dX12_count_86 rfl (by decide) (fun _ => rfl) rfl h (fun a10 h => ?_)
      refine v_iinc 90 3 (fun a11 => [(3, .int a11), (2, .int a10), (0, .ref (oX E 0)), (1, .int x1)]) cx dX12_count_87 rfl ic_1 (by decide) (fun _ => rfl) rfl h (fun a11 h => ?_)
      refine v_goto 61 cx dX12_count_90 (by decide) ?_
      cases h
      have hk : Vat C (wM E) 4 61 [(0, .ref (oX E 0)), (1, .int x1), (2, .int a10), (3, .int a11)] [] st := hk
      exact v_lsub (lv' := [(0, .ref (oX E 0)), (1, .int x1), (2, .int a10), (3, .int a11)]) [2, 3, 1, 0] rfl (hk)
set_option maxHeartbeats 4000000 in
set_option maxRecDepth 100000 in
theorem c_X12_count (l : Launch) (E : Ev) (st : Sg) (p1 : Int32) : ∀ q, m_X12_count p1 st = some q → CtI l (wM E) (tyE E) yX12_count cX12_count 4 (some .int) 3 70 [.ref (oX E 0), .int p1] st q := by
  intro q h
  refine ctI_of (lv0 := [(0, .ref (oX E 0)), (1, .int p1)]) (by decide) rfl (Nat.le_of_ble_eq_true rfl) (fun C hC cx hk => ?_)
  replace cx : Cx C (tyE E) cX12_count RX12 4 3 70 := cx
  unfold m_X12_count at h
  refine v_iload_n 1 1 cx dX12_count_0 rfl rfl rfl ?_
  refine v_i2l 2 cx dX12_count_1 rfl ?_
  refine v_lconst 3 cx dX12_count_2 lc_0 rfl ?_
  refine v_ldc2 6 cx dX12_count_3 kc_X12_135 rfl ?_
  refine v_callSI 9 cx dX12_count_6 km_X12_137 ca_X12_isIn (c_X12_isIn C.2.1 E st ((p1 : Int32).toInt64) 0 4 ) rfl (by decide) rfl (Nat.le_of_ble_eq_true rfl) rfl h (fun v2 s1 h => ?_)
  refine v_if_ne 19 12 cx dX12_count_9 (by decide) rfl h (fun h => ?_) (fun h => ?_)
  · refine v_iload_n 20 1 cx dX12_count_19 rfl rfl rfl ?_
    refine v_if_ne 28 23 cx dX12_count_20 (by decide) rfl h (fun h => ?_) (fun h => ?_)
    · refine v_iload_n 29 1 cx dX12_count_28 rfl rfl rfl ?_
      refine v_iconst 30 cx dX12_count_29 ic_1 rfl ?_
      refine v_icmp_ne 38 33 cx dX12_count_30 (by decide) rfl h (fun h => ?_) (fun h => ?_)
      · refine v_aload_n 39 0 cx dX12_count_38 rfl rfl rfl ?_
        refine v_callVV 42 0 cx dX12_count_39 km_X12_177 ca_X12_gather (wMo_0 E s1) rfl (c_X12_gather C.2.1 E s1 ) rfl (by decide) rfl (Nat.le_of_ble_eq_true rfl) rfl h (fun _ s3 h => ?_)
        refine v_iload_n 43 1 cx dX12_count_42 rfl rfl rfl ?_
        refine v_iconst 44 cx dX12_count_43 ic_2 rfl ?_
        refine v_icmp_ne 57 47 cx dX12_count_44 (by decide) rfl h (fun h => ?_) (fun h => ?_)
        · refine v_iconst 58 cx dX12_count_57 ic_0 rfl ?_
          refine v_istore_n 59 (fun a4 => [(2, .int a4), (0, .ref (oX E 0)), (1, .int p1)]) cx dX12_count_58 rfl (by decide) (fun _ => rfl) rfl h (fun a4 h => ?_)
          refine v_iconst 60 cx dX12_count_59 ic_0 rfl ?_
          refine v_istore_n 61 (fun a5 => [(3, .int a5), (2, .int a4), (0, .ref (oX E 0)), (1, .int p1)]) cx dX12_count_60 rfl (by decide) (fun _ => rfl) rfl h (fun a5 h => ?_)
          refine v_lsub (lv' := [(0, .ref (oX E 0)), (1, .int p1), (2, .int a4), (3, .int a5)]) [2, 3, 1, 0] rfl ?_
          refine v_loop (s0 := (a4, a5, s3)) (V_X12_count_L61 C E p1) (K_X12_count_L61 C E p1) h (b_X12_count_L61 cx p1) (fun r12 h => ?_)
          show Vat C (wM E) 4 93 [(0, .ref (oX E 0)), (1, .int p1), (2, .int r12.1)] [] r12.2
          refine v_iload_n 94 1 cx dX12_count_93 rfl rfl rfl ?_
          refine v_iconst 95 cx dX12_count_94 ic_3 rfl ?_
          refine v_icmp_ne 102 98 cx dX12_count_95 (by decide) rfl h (fun h => ?_) (fun h => ?_)
          · refine v_aload_n 103 0 cx dX12_count_102 rfl rfl rfl ?_
            refine v_get 106 0 10 cx dX12_count_103 iX12 (wMo_0 E r12.2) rfl (Nat.le_of_ble_eq_true rfl) rfl kf_X12_38 rfl rfl ?_
            refine v_iconst 107 cx dX12_count_106 ic_0 rfl ?_
            refine v_iald 108 10 0 cx dX12_count_107 (wMa_0_10 E r12.2) rfl rfl h (fun v13 h => ?_)
            refine v_aload_n 109 0 cx dX12_count_108 rfl rfl rfl ?_
            refine v_get 112 0 10 cx dX12_count_109 iX12 (wMo_0 E r12.2) rfl (Nat.le_of_ble_eq_true rfl) rfl kf_X12_38 rfl rfl ?_
            refine v_iconst 113 cx dX12_count_112 ic_1 rfl ?_
            refine v_iald 114 10 0 cx dX12_count_113 (wMa_0_10 E r12.2) rfl rfl h (fun v14 h => ?_)
            refine v_iadd 115 cx dX12_count_114 rfl ?_
            refine v_aload_n 116 0 cx dX12_count_115 rfl rfl rfl ?_
            refine v_get 119 0 10 cx dX12_count_116 iX12 (wMo_0 E r12.2) rfl (Nat.le_of_ble_eq_true rfl) rfl kf_X12_38 rfl rfl ?_
            refine v_iconst 120 cx dX12_count_119 ic_2 rfl ?_
            refine v_iald 121 10 0 cx dX12_count_120 (wMa_0_10 E r12.2) rfl rfl h (fun v15 h => ?_)
            refine v_iadd 122 cx dX12_count_121 rfl ?_
            refine v_aload_n 123 0 cx dX12_count_122 rfl rfl rfl ?_
            refine v_get 126 0 10 cx dX12_count_123 iX12 (wMo_0 E r12.2) rfl (Nat.le_of_ble_eq_true rfl) rfl kf_X12_38 rfl rfl ?_
            refine v_iconst 127 cx dX12_count_126 ic_3 rfl ?_
            refine v_iald 128 10 0 cx dX12_count_127 (wMa_0_10 E r12.2) rfl rfl h (fun v16 h => ?_)
            refine v_iadd 129 cx dX12_count_128 rfl ?_
            refine v_aload_n 130 0 cx dX12_count_129 rfl rfl rfl ?_
            refine v_get 133 0 10 cx dX12_count_130 iX12 (wMo_0 E r12.2) rfl (Nat.le_of_ble_eq_true rfl) rfl kf_X12_38 rfl rfl ?_
            refine v_iconst 134 cx dX12_count_133 ic_4 rfl ?_
            refine v_iald 135 10 0 cx dX12_count_134 (wMa_0_10 E r12.2) rfl rfl h (fun v17 h => ?_)
            refine v_iadd 136 cx dX12_count_135 rfl ?_
            refine v_aload_n 137 0 cx dX12_count_136 rfl rfl rfl ?_
            refine v_get 140 0 10 cx dX12_count_137 iX12 (wMo_0 E r12.2) rfl (Nat.le_of_ble_eq_true rfl) rfl kf_X12_38 rfl rfl ?_
            refine v_iconst 141 cx dX12_count_140 ic_5 rfl ?_
            refine v_iald 142 10 0 cx dX12_count_141 (wMa_0_10 E r12.2) rfl rfl h (fun v18 h => ?_)
            refine v_iadd 143 cx dX12_count_142 rfl ?_
            exact hk _ _ _ _ (Option.some.inj h) dX12_count_143
          · refine v_iload_n 99 2 cx dX12_count_98 rfl rfl rfl ?_
            refine v_goto 143 cx dX12_count_99 (by decide) ?_
            exact hk _ _ _ _ (Option.some.inj h) dX12_count_143
        · refine v_aload_n 48 0 cx dX12_count_47 rfl rfl rfl ?_
          refine v_getI 51 0 20 cx dX12_count_48 iX12 (wMo_0 E s3) rfl (Nat.le_of_ble_eq_true rfl) rfl kf_X12_180 rfl rfl h (fun v19 h => ?_)
          refine v_aload_n 52 0 cx dX12_count_51 rfl rfl rfl ?_
          refine v_getI 55 0 15 cx dX12_count_52 iX12 (wMo_0 E s3) rfl (Nat.le_of_ble_eq_true rfl) rfl kf_X12_172 rfl rfl h (fun v20 h => ?_)
          refine v_isub 56 cx dX12_count_55 rfl ?_
          exact hk _ _ _ _ (Option.some.inj h) dX12_count_56
      · refine v_aload_n 34 0 cx dX12_count_33 rfl rfl rfl ?_
        refine v_getI 37 0 15 cx dX12_count_34 iX12 (wMo_0 E s1) rfl (Nat.le_of_ble_eq_true rfl) rfl kf_X12_172 rfl rfl h (fun v21 h => ?_)
        exact hk _ _ _ _ (Option.some.inj h) dX12_count_37
    · refine v_aload_n 24 0 cx dX12_count_23 rfl rfl rfl ?_
      refine v_getI 27 0 9 cx dX12_count_24 iX12 (wMo_0 E s1) rfl (Nat.le_of_ble_eq_true rfl) rfl kf_X12_118 rfl rfl h (fun v22 h => ?_)
      exact hk _ _ _ _ (Option.some.inj h) dX12_count_27
  · refine v_aload_n 13 0 cx dX12_count_12 rfl rfl rfl ?_
    refine v_bipush 15 cx dX12_count_13 bp_m9 rfl ?_
    refine v_callVI 18 0 cx dX12_count_15 km_X12_124 ca_X12_no (wMo_0 E s1) rfl (c_X12_no C.2.1 E s1 (-9) ) rfl (by decide) rfl (Nat.le_of_ble_eq_true rfl) rfl h (fun v24 s23 h => ?_)
    exact hk _ _ _ _ (Option.some.inj h) dX12_count_18
set_option maxHeartbeats 4000000 in
set_option maxRecDepth 100000 in
theorem c_X12_cut (l : Launch) (E : Ev) (st : Sg) (p0 : Int32) (p1 : Int32) : ∀ q, m_X12_cut p0 p1 st = some q → CtI l (wM E) (tyE E) yX12_cut cX12_cut 2 (some .int) 0 0 [.int p0, .int p1] st q := by
  intro q h
  refine ctI_of (lv0 := [(0, .int p0), (1, .int p1)]) (by decide) rfl (Nat.le_of_ble_eq_true rfl) (fun C hC cx hk => ?_)
  replace cx : Cx C (tyE E) cX12_cut RX12 2 0 0 := cx
  unfold m_X12_cut at h
  refine v_iload_n 1 0 cx dX12_cut_0 rfl rfl rfl ?_
  refine v_if_lt 10 4 cx dX12_cut_1 (by decide) rfl h (fun h => ?_) (fun h => ?_)
  · refine v_iload_n 11 1 cx dX12_cut_10 rfl rfl rfl ?_
    refine v_iconst 12 cx dX12_cut_11 ic_1 rfl ?_
    refine v_isub 13 cx dX12_cut_12 rfl ?_
    refine v_iload_n 14 0 cx dX12_cut_13 rfl rfl rfl ?_
    refine v_isub 15 cx dX12_cut_14 rfl ?_
    refine v_iload_n 16 1 cx dX12_cut_15 rfl rfl rfl ?_
    refine v_idiv 17 cx dX12_cut_16 rfl h (fun h => ?_)
    refine v_ineg 18 cx dX12_cut_17 rfl ?_
    exact hk _ _ _ _ (Option.some.inj h) dX12_cut_18
  · refine v_iload_n 5 0 cx dX12_cut_4 rfl rfl rfl ?_
    refine v_iload_n 6 1 cx dX12_cut_5 rfl rfl rfl ?_
    refine v_idiv 7 cx dX12_cut_6 rfl h (fun h => ?_)
    refine v_goto 18 cx dX12_cut_7 (by decide) ?_
    exact hk _ _ _ _ (Option.some.inj h) dX12_cut_18
set_option maxHeartbeats 4000000 in
set_option maxRecDepth 100000 in
theorem c_X12_value (l : Launch) (E : Ev) (st : Sg) (p1 : Int32) (p2 : Int32) (p3 : Int32) : ∀ q, m_X12_value p1 p2 p3 st = some q → CtL l (wM E) (tyE E) yX12_value cX12_value 6 (some .long) 0 0 [.ref (oX E 0), .int p1, .int p2, .int p3] st q := by
  intro q h
  refine ctL_of (lv0 := [(0, .ref (oX E 0)), (1, .int p1), (2, .int p2), (3, .int p3)]) (by decide) rfl (Nat.le_of_ble_eq_true rfl) (fun C hC cx hk => ?_)
  replace cx : Cx C (tyE E) cX12_value RX12 6 0 0 := cx
  unfold m_X12_value at h
  refine v_aload_n 1 0 cx dX12_value_0 rfl rfl rfl ?_
  refine v_get 4 0 5 cx dX12_value_1 iX12 (wMo_0 E st) rfl (Nat.le_of_ble_eq_true rfl) rfl kf_X12_25 rfl rfl ?_
  refine v_iconst 5 cx dX12_value_4 ic_3 rfl ?_
  refine v_iload_n 6 1 cx dX12_value_5 rfl rfl rfl ?_
  refine v_imul 7 cx dX12_value_6 rfl ?_
  refine v_iload_n 8 2 cx dX12_value_7 rfl rfl rfl ?_
  refine v_iadd 9 cx dX12_value_8 rfl ?_
  refine v_iald 10 6 0 cx dX12_value_9 (wMa_0_5 E st) rfl rfl h (fun v1 h => ?_)
  refine v_istore 12 (fun a2 => [(4, .int a2), (0, .ref (oX E 0)), (1, .int p1), (2, .int p2), (3, .int p3)]) cx dX12_value_10 (by decide) (fun _ => rfl) rfl h (fun a2 h => ?_)
  refine v_iload_n 13 4 cx dX12_value_12 rfl rfl rfl ?_
  refine v_aload_n 14 1 cx dX12_value_13 rfl rfl rfl ?_
  refine v_get 17 0 6 cx dX12_value_14 iX12 (wMo_0 E st) rfl (Nat.le_of_ble_eq_true rfl) rfl kf_X12_28 rfl rfl ?_
  refine v_iconst 18 cx dX12_value_17 ic_3 rfl ?_
  refine v_iload_n 19 2 cx dX12_value_18 rfl rfl rfl ?_
  refine v_imul 20 cx dX12_value_19 rfl ?_
  refine v_iload_n 21 3 cx dX12_value_20 rfl rfl rfl ?_
  refine v_iadd 22 cx dX12_value_21 rfl ?_
  refine v_iald 23 7 0 cx dX12_value_22 (wMa_0_6 E st) rfl rfl h (fun v3 h => ?_)
  refine v_isub 24 cx dX12_value_23 rfl ?_
  refine v_istore 26 (fun a4 => [(5, .int a4), (4, .int a2), (0, .ref (oX E 0)), (1, .int p1), (2, .int p2), (3, .int p3)]) cx dX12_value_24 (by decide) (fun _ => rfl) rfl h (fun a4 h => ?_)
  refine v_iload 28 0 cx dX12_value_26 rfl rfl ?_
  refine v_if_ge 41 31 cx dX12_value_28 (by decide) rfl h (fun h => ?_) (fun h => ?_)
  · refine v_aload_n 42 2 cx dX12_value_41 rfl rfl rfl ?_
    refine v_get 45 0 37 cx dX12_value_42 iX12 (wMo_0 E st) rfl (Nat.le_of_ble_eq_true rfl) rfl kf_X12_105 rfl rfl ?_
    refine v_bipush 47 cx dX12_value_45 bp_16 rfl ?_
    refine v_iload 49 0 cx dX12_value_47 rfl rfl ?_
    refine v_imul 50 cx dX12_value_49 rfl ?_
    refine v_iload 52 1 cx dX12_value_50 rfl rfl ?_
    refine v_iadd 53 cx dX12_value_52 rfl ?_
    refine v_lald 54 32 1 cx dX12_value_53 (wMa_0_37 E st) rfl rfl h (fun v5 h => ?_)
    exact hk _ _ _ _ (Option.some.inj h) dX12_value_54
  · refine v_aload_n 32 2 cx dX12_value_31 rfl rfl rfl ?_
    refine v_get 35 0 7 cx dX12_value_32 iX12 (wMo_0 E st) rfl (Nat.le_of_ble_eq_true rfl) rfl kf_X12_31 rfl rfl ?_
    refine v_iload 37 1 cx dX12_value_35 rfl rfl ?_
    refine v_lald 38 8 1 cx dX12_value_37 (wMa_0_7 E st) rfl rfl h (fun v6 h => ?_)
    refine v_goto 54 cx dX12_value_38 (by decide) ?_
    exact hk _ _ _ _ (Option.some.inj h) dX12_value_54
set_option maxHeartbeats 4000000 in
set_option maxRecDepth 100000 in
theorem c_X12_why (l : Launch) (E : Ev) (st : Sg) (p1 : Int32) (p2 : Int64) : ∀ q, m_X12_why p1 p2 st = some q → CtI l (wM E) (tyE E) yX12_why cX12_why 4 (some .int) 1 25 [.ref (oX E 0), .int p1, .long p2] st q := by
  intro q h
  refine ctI_of (lv0 := [(0, .ref (oX E 0)), (1, .int p1), (2, .long p2)]) (by decide) rfl (Nat.le_of_ble_eq_true rfl) (fun C hC cx hk => ?_)
  replace cx : Cx C (tyE E) cX12_why RX12 4 1 25 := cx
  unfold m_X12_why at h
  refine v_aload_n 1 0 cx dX12_why_0 rfl rfl rfl ?_
  refine v_get 4 0 23 cx dX12_why_1 iX12 (wMo_0 E st) rfl (Nat.le_of_ble_eq_true rfl) rfl kf_X12_71 rfl rfl ?_
  refine v_iload_n 5 1 cx dX12_why_4 rfl rfl rfl ?_
  refine v_iald 6 21 0 cx dX12_why_5 (wMa_0_23 E st) rfl rfl h (fun v1 h => ?_)
  refine v_if_ne 12 9 cx dX12_why_6 (by decide) rfl h (fun h => ?_) (fun h => ?_)
  · refine v_aload_n 13 0 cx dX12_why_12 rfl rfl rfl ?_
    refine v_get 16 0 24 cx dX12_why_13 iX12 (wMo_0 E st) rfl (Nat.le_of_ble_eq_true rfl) rfl kf_X12_74 rfl rfl ?_
    refine v_iload_n 17 1 cx dX12_why_16 rfl rfl rfl ?_
    refine v_zald 18 22 2 cx dX12_why_17 (wMa_0_24 E st) rfl rfl h (fun v2 h => ?_)
    refine v_if_ne 24 21 cx dX12_why_18 (by decide) rfl h (fun h => ?_) (fun h => ?_)
    · refine v_lload_n 25 2 cx dX12_why_24 rfl rfl rfl ?_
      refine v_lconst 26 cx dX12_why_25 lc_0 rfl ?_
      refine v_aload_n 27 0 cx dX12_why_26 rfl rfl rfl ?_
      refine v_get 30 0 23 cx dX12_why_27 iX12 (wMo_0 E st) rfl (Nat.le_of_ble_eq_true rfl) rfl kf_X12_71 rfl rfl ?_
      refine v_iload_n 31 1 cx dX12_why_30 rfl rfl rfl ?_
      refine v_iald 32 21 0 cx dX12_why_31 (wMa_0_23 E st) rfl rfl h (fun v3 h => ?_)
      refine v_iconst 33 cx dX12_why_32 ic_1 rfl ?_
      refine v_isub 34 cx dX12_why_33 rfl ?_
      refine v_i2l 35 cx dX12_why_34 rfl ?_
      refine v_callSI 38 cx dX12_why_35 km_X12_137 ca_X12_isIn (c_X12_isIn C.2.1 E st p2 0 (((v3 - 1) : Int32).toInt64) ) rfl (by decide) rfl (Nat.le_of_ble_eq_true rfl) rfl h (fun v5 s4 h => ?_)
      refine v_if_eq 45 41 cx dX12_why_38 (by decide) rfl h (fun h => ?_) (fun h => ?_)
      · refine v_bipush 47 cx dX12_why_45 bp_m3 rfl ?_
        exact hk _ _ _ _ (Option.some.inj h) dX12_why_47
      · refine v_iconst 42 cx dX12_why_41 ic_0 rfl ?_
        refine v_goto 47 cx dX12_why_42 (by decide) ?_
        exact hk _ _ _ _ (Option.some.inj h) dX12_why_47
    · refine v_bipush 23 cx dX12_why_21 bp_m5 rfl ?_
      exact hk _ _ _ _ (Option.some.inj h) dX12_why_23
  · refine v_bipush 11 cx dX12_why_9 bp_m2 rfl ?_
    exact hk _ _ _ _ (Option.some.inj h) dX12_why_11
set_option maxHeartbeats 4000000 in
set_option maxRecDepth 100000 in
theorem j_X12_does_228 {C : Cm} {E : Ev} (cx : Cx C (tyE E) cX12_does RX12 11 2 48) (x1 : Int32) (x2 : Int32) (x7 : Int64) (st : Sg) (out : Int32 × Sg) (h : m_X12_does_228 x1 x2 x7 st = some out) (hk : ReI C (wM E) cX12_does 11 out) : Vat C (wM E) 11 228 [(0, .ref (oX E 0)), (1, .int x1), (2, .int x2), (7, .long x7)] [] st := by
  unfold m_X12_does_228 at h
  refine v_aload_n 229 0 cx dX12_does_228 rfl rfl rfl ?_
  refine v_get 232 0 37 cx dX12_does_229 iX12 (wMo_0 E st) rfl (Nat.le_of_ble_eq_true rfl) rfl kf_X12_105 rfl rfl ?_
  refine v_bipush 234 cx dX12_does_232 bp_16 rfl ?_
  refine v_iload_n 235 2 cx dX12_does_234 rfl rfl rfl ?_
  refine v_imul 236 cx dX12_does_235 rfl ?_
  refine v_iload_n 237 1 cx dX12_does_236 rfl rfl rfl ?_
  refine v_iadd 238 cx dX12_does_237 rfl ?_
  refine v_lload 240 3 cx dX12_does_238 rfl rfl ?_
  refine v_last 241 32 1 cx dX12_does_240 (wMa_0_37 E st) rfl (wMt_0_37 E st) rfl h (fun s18 h => ?_)
  refine v_iconst 242 cx dX12_does_241 ic_0 rfl ?_
  exact hk _ _ _ _ (Option.some.inj h) dX12_does_242
set_option maxHeartbeats 4000000 in
set_option maxRecDepth 100000 in
theorem j_X12_does_157 {C : Cm} {E : Ev} (cx : Cx C (tyE E) cX12_does RX12 11 2 48) (x1 : Int32) (x2 : Int32) (x3 : Int64) (x5 : Int64) (x7 : Int64) (st : Sg) (out : Int32 × Sg) (h : m_X12_does_157 x1 x2 x3 x5 x7 st = some out) (hk : ReI C (wM E) cX12_does 11 out) : Vat C (wM E) 11 157 [(0, .ref (oX E 0)), (1, .int x1), (2, .int x2), (3, .long x3), (5, .long x5), (7, .long x7)] [] st := by
  unfold m_X12_does_157 at h
  refine v_aload_n 158 0 cx dX12_does_157 rfl rfl rfl ?_
  refine v_iload_n 159 1 cx dX12_does_158 rfl rfl rfl ?_
  refine v_callVI 162 0 cx dX12_does_159 km_X12_190 ca_X12_isOfRow (wMo_0 E st) rfl (c_X12_isOfRow C.2.1 E st x1 ) rfl (by decide) rfl (Nat.le_of_ble_eq_true rfl) rfl h (fun v17 s16 h => ?_)
  refine v_if_eq 228 165 cx dX12_does_162 (by decide) rfl h (fun h => ?_) (fun h => ?_)
  · exact v_lsub (lv' := [(0, .ref (oX E 0)), (1, .int x1), (2, .int x2), (7, .long x7)]) [0, 1, 2, 5] rfl (j_X12_does_228 cx x1 x2 x7 s16 _ h hk)
  · refine v_aload_n 166 0 cx dX12_does_165 rfl rfl rfl ?_
    refine v_aload_n 167 0 cx dX12_does_166 rfl rfl rfl ?_
    refine v_get 170 0 4 cx dX12_does_167 iX12 (wMo_0 E s16) rfl (Nat.le_of_ble_eq_true rfl) rfl kf_X12_22 rfl rfl ?_
    refine v_iload_n 171 1 cx dX12_does_170 rfl rfl rfl ?_
    refine v_iald 172 5 0 cx dX12_does_171 (wMa_0_4 E s16) rfl rfl h (fun v19 h => ?_)
    refine v_lload_n 173 3 cx dX12_does_172 rfl rfl rfl ?_
    refine v_callVI 176 0 cx dX12_does_173 km_X12_254 ca_X12_why (wMo_0 E s16) rfl (c_X12_why C.2.1 E s16 v19 x3 ) rfl (by decide) rfl (Nat.le_of_ble_eq_true rfl) rfl h (fun v21 s20 h => ?_)
    refine v_istore 178 (fun a22 => [(9, .int a22), (0, .ref (oX E 0)), (1, .int x1), (2, .int x2), (3, .long x3), (5, .long x5), (7, .long x7)]) cx dX12_does_176 (by decide) (fun _ => rfl) rfl h (fun a22 h => ?_)
    refine v_iload 180 0 cx dX12_does_178 rfl rfl ?_
    refine v_if_eq 186 183 cx dX12_does_180 (by decide) rfl h (fun h => ?_) (fun h => ?_)
    · refine v_bipush 188 cx dX12_does_186 bp_40 rfl ?_
      refine v_aload_n 189 1 cx dX12_does_188 rfl rfl rfl ?_
      refine v_get 192 0 4 cx dX12_does_189 iX12 (wMo_0 E s20) rfl (Nat.le_of_ble_eq_true rfl) rfl kf_X12_22 rfl rfl ?_
      refine v_iload_n 193 2 cx dX12_does_192 rfl rfl rfl ?_
      refine v_iald 194 5 0 cx dX12_does_193 (wMa_0_4 E s20) rfl rfl h (fun v23 h => ?_)
      refine v_imul 195 cx dX12_does_194 rfl ?_
      refine v_lload_n 196 4 cx dX12_does_195 rfl rfl rfl ?_
      refine v_l2i 197 cx dX12_does_196 rfl ?_
      refine v_iadd 198 cx dX12_does_197 rfl ?_
      refine v_istore 200 (fun a24 => [(10, .int a24), (9, .int a22), (0, .ref (oX E 0)), (1, .int x1), (2, .int x2), (3, .long x3), (5, .long x5), (7, .long x7)]) cx dX12_does_198 (by decide) (fun _ => rfl) rfl h (fun a24 h => ?_)
      refine v_aload_n 201 2 cx dX12_does_200 rfl rfl rfl ?_
      refine v_get 204 0 21 cx dX12_does_201 iX12 (wMo_0 E s20) rfl (Nat.le_of_ble_eq_true rfl) rfl kf_X12_65 rfl rfl ?_
      refine v_iload 206 0 cx dX12_does_204 rfl rfl ?_
      refine v_lald 207 19 1 cx dX12_does_206 (wMa_0_21 E s20) rfl rfl h (fun v25 h => ?_)
      refine v_lstore 209 (fun a26 => [(7, .long a26), (10, .int a24), (9, .int a22), (0, .ref (oX E 0)), (1, .int x1), (2, .int x2), (3, .long x3), (5, .long x5)]) cx dX12_does_207 (by decide) (fun _ => rfl) rfl h (fun a26 h => ?_)
      refine v_aload_n 210 3 cx dX12_does_209 rfl rfl rfl ?_
      refine v_get 213 0 0 cx dX12_does_210 iX12 (wMo_0 E s20) rfl (Nat.le_of_ble_eq_true rfl) rfl kf_X12_7 rfl rfl ?_
      refine v_iload_n 214 4 cx dX12_does_213 rfl rfl rfl ?_
      refine v_iald 215 1 0 cx dX12_does_214 (wMa_0_0 E s20) rfl rfl h (fun v27 h => ?_)
      refine v_iconst 216 cx dX12_does_215 ic_5 rfl ?_
      refine v_icmp_ne 228 219 cx dX12_does_216 (by decide) rfl h (fun h => ?_) (fun h => ?_)
      · exact v_lsub (lv' := [(0, .ref (oX E 0)), (1, .int x1), (2, .int x2), (7, .long a26)]) [3, 4, 5, 0] rfl (j_X12_does_228 cx x1 x2 a26 s20 _ h hk)
      · refine v_aload_n 220 3 cx dX12_does_219 rfl rfl rfl ?_
        refine v_get 223 0 21 cx dX12_does_220 iX12 (wMo_0 E s20) rfl (Nat.le_of_ble_eq_true rfl) rfl kf_X12_65 rfl rfl ?_
        refine v_iload 225 1 cx dX12_does_223 rfl rfl ?_
        refine v_lload 227 7 cx dX12_does_225 rfl rfl ?_
        refine v_last 228 19 1 cx dX12_does_227 (wMa_0_21 E s20) rfl (wMt_0_21 E s20) rfl h (fun s28 h => ?_)
        exact v_lsub (lv' := [(0, .ref (oX E 0)), (1, .int x1), (2, .int x2), (7, .long a26)]) [3, 4, 5, 0] rfl (j_X12_does_228 cx x1 x2 a26 s28 _ h hk)
    · refine v_iload 185 0 cx dX12_does_183 rfl rfl ?_
      exact hk _ _ _ _ (Option.some.inj h) dX12_does_185
set_option maxHeartbeats 4000000 in
set_option maxRecDepth 100000 in
theorem j_X12_does_141 {C : Cm} {E : Ev} (cx : Cx C (tyE E) cX12_does RX12 11 2 48) (x1 : Int32) (x2 : Int32) (x3 : Int64) (x5 : Int64) (x7 : Int64) (st : Sg) (out : Int32 × Sg) (h : m_X12_does_141 x1 x2 x3 x5 x7 st = some out) (hk : ReI C (wM E) cX12_does 11 out) : Vat C (wM E) 11 141 [(0, .ref (oX E 0)), (1, .int x1), (2, .int x2), (3, .long x3), (5, .long x5), (7, .long x7)] [] st := by
  unfold m_X12_does_141 at h
  refine v_aload_n 142 0 cx dX12_does_141 rfl rfl rfl ?_
  refine v_get 145 0 0 cx dX12_does_142 iX12 (wMo_0 E st) rfl (Nat.le_of_ble_eq_true rfl) rfl kf_X12_7 rfl rfl ?_
  refine v_iload_n 146 1 cx dX12_does_145 rfl rfl rfl ?_
  refine v_iald 147 1 0 cx dX12_does_146 (wMa_0_0 E st) rfl rfl h (fun v15 h => ?_)
  refine v_iconst 148 cx dX12_does_147 ic_3 rfl ?_
  refine v_icmp_ne 157 151 cx dX12_does_148 (by decide) rfl h (fun h => ?_) (fun h => ?_)
  · exact j_X12_does_157 cx x1 x2 x3 x5 x7 st _ h hk
  · refine v_lload_n 152 3 cx dX12_does_151 rfl rfl rfl ?_
    refine v_lload 154 4 cx dX12_does_152 rfl rfl ?_
    refine v_ldiv 155 cx dX12_does_154 rfl h (fun h => ?_)
    refine v_lstore 157 (fun a29 => [(7, .long a29), (0, .ref (oX E 0)), (1, .int x1), (2, .int x2), (3, .long x3), (5, .long x5)]) cx dX12_does_155 (by decide) (fun _ => rfl) rfl h (fun a29 h => ?_)
    exact v_lsub (lv' := [(0, .ref (oX E 0)), (1, .int x1), (2, .int x2), (3, .long x3), (5, .long x5), (7, .long a29)]) [1, 2, 3, 4, 5, 0] rfl (j_X12_does_157 cx x1 x2 x3 x5 a29 st _ h hk)
set_option maxHeartbeats 4000000 in
set_option maxRecDepth 100000 in
theorem j_X12_does_121 {C : Cm} {E : Ev} (cx : Cx C (tyE E) cX12_does RX12 11 2 48) (x1 : Int32) (x2 : Int32) (x3 : Int64) (x5 : Int64) (x7 : Int64) (st : Sg) (out : Int32 × Sg) (h : m_X12_does_121 x1 x2 x3 x5 x7 st = some out) (hk : ReI C (wM E) cX12_does 11 out) : Vat C (wM E) 11 121 [(0, .ref (oX E 0)), (1, .int x1), (2, .int x2), (3, .long x3), (5, .long x5), (7, .long x7)] [] st := by
  unfold m_X12_does_121 at h
  refine v_aload_n 122 0 cx dX12_does_121 rfl rfl rfl ?_
  refine v_get 125 0 0 cx dX12_does_122 iX12 (wMo_0 E st) rfl (Nat.le_of_ble_eq_true rfl) rfl kf_X12_7 rfl rfl ?_
  refine v_iload_n 126 1 cx dX12_does_125 rfl rfl rfl ?_
  refine v_iald 127 1 0 cx dX12_does_126 (wMa_0_0 E st) rfl rfl h (fun v14 h => ?_)
  refine v_iconst 128 cx dX12_does_127 ic_3 rfl ?_
  refine v_icmp_ne 141 131 cx dX12_does_128 (by decide) rfl h (fun h => ?_) (fun h => ?_)
  · exact j_X12_does_141 cx x1 x2 x3 x5 x7 st _ h hk
  · refine v_lload 133 4 cx dX12_does_131 rfl rfl ?_
    refine v_lconst 134 cx dX12_does_133 lc_0 rfl ?_
    refine v_lcmp 135 cx dX12_does_134 rfl ?_
    refine v_if_ne 141 138 cx dX12_does_135 (by decide) rfl h (fun h => ?_) (fun h => ?_)
    · exact j_X12_does_141 cx x1 x2 x3 x5 x7 st _ h hk
    · refine v_bipush 140 cx dX12_does_138 bp_m8 rfl ?_
      exact hk _ _ _ _ (Option.some.inj h) dX12_does_140
set_option maxHeartbeats 4000000 in
set_option maxRecDepth 100000 in
theorem j_X12_does_119 {C : Cm} {E : Ev} (cx : Cx C (tyE E) cX12_does RX12 11 2 48) (x1 : Int32) (x2 : Int32) (x3 : Int64) (x5 : Int64) (t0 : Int64) (st : Sg) (out : Int32 × Sg) (h : m_X12_does_119 x1 x2 x3 x5 t0 st = some out) (hk : ReI C (wM E) cX12_does 11 out) : Vat C (wM E) 11 119 [(0, .ref (oX E 0)), (1, .int x1), (2, .int x2), (3, .long x3), (5, .long x5)] [.long t0] st := by
  unfold m_X12_does_119 at h
  refine v_lstore 121 (fun a32 => [(7, .long a32), (0, .ref (oX E 0)), (1, .int x1), (2, .int x2), (3, .long x3), (5, .long x5)]) cx dX12_does_119 (by decide) (fun _ => rfl) rfl h (fun a32 h => ?_)
  exact v_lsub (lv' := [(0, .ref (oX E 0)), (1, .int x1), (2, .int x2), (3, .long x3), (5, .long x5), (7, .long a32)]) [1, 2, 3, 4, 5, 0] rfl (j_X12_does_121 cx x1 x2 x3 x5 a32 st _ h hk)
set_option maxHeartbeats 4000000 in
set_option maxRecDepth 100000 in
theorem j_X12_does_90 {C : Cm} {E : Ev} (cx : Cx C (tyE E) cX12_does RX12 11 2 48) (x1 : Int32) (x2 : Int32) (x3 : Int64) (x5 : Int64) (x7 : Int64) (st : Sg) (out : Int32 × Sg) (h : m_X12_does_90 x1 x2 x3 x5 x7 st = some out) (hk : ReI C (wM E) cX12_does 11 out) : Vat C (wM E) 11 90 [(0, .ref (oX E 0)), (1, .int x1), (2, .int x2), (3, .long x3), (5, .long x5), (7, .long x7)] [] st := by
  unfold m_X12_does_90 at h
  refine v_aload_n 91 0 cx dX12_does_90 rfl rfl rfl ?_
  refine v_get 94 0 0 cx dX12_does_91 iX12 (wMo_0 E st) rfl (Nat.le_of_ble_eq_true rfl) rfl kf_X12_7 rfl rfl ?_
  refine v_iload_n 95 1 cx dX12_does_94 rfl rfl rfl ?_
  refine v_iald 96 1 0 cx dX12_does_95 (wMa_0_0 E st) rfl rfl h (fun v13 h => ?_)
  refine v_bipush 98 cx dX12_does_96 bp_6 rfl ?_
  refine v_icmp_ne 121 101 cx dX12_does_98 (by decide) rfl h (fun h => ?_) (fun h => ?_)
  · exact j_X12_does_121 cx x1 x2 x3 x5 x7 st _ h hk
  · refine v_lload_n 102 3 cx dX12_does_101 rfl rfl rfl ?_
    refine v_lconst 103 cx dX12_does_102 lc_0 rfl ?_
    refine v_lcmp 104 cx dX12_does_103 rfl ?_
    refine v_if_eq 112 107 cx dX12_does_104 (by decide) rfl h (fun h => ?_) (fun h => ?_)
    · refine v_aload_n 113 0 cx dX12_does_112 rfl rfl rfl ?_
      refine v_iload_n 114 1 cx dX12_does_113 rfl rfl rfl ?_
      refine v_iconst 115 cx dX12_does_114 ic_2 rfl ?_
      refine v_iload_n 116 2 cx dX12_does_115 rfl rfl rfl ?_
      refine v_callVL 119 0 cx dX12_does_116 km_X12_279 ca_X12_value (wMo_0 E st) rfl (c_X12_value C.2.1 E st x1 2 x2 ) rfl (by decide) rfl (Nat.le_of_ble_eq_true rfl) rfl h (fun v31 s30 h => ?_)
      exact v_lsub (lv' := [(0, .ref (oX E 0)), (1, .int x1), (2, .int x2), (3, .long x3), (5, .long x5)]) [0, 1, 2, 3, 4] rfl (j_X12_does_119 cx x1 x2 x3 x5 v31 s30 _ h hk)
    · refine v_lload 109 4 cx dX12_does_107 rfl rfl ?_
      refine v_goto 119 cx dX12_does_109 (by decide) ?_
      exact v_lsub (lv' := [(0, .ref (oX E 0)), (1, .int x1), (2, .int x2), (3, .long x3), (5, .long x5)]) [0, 1, 2, 3, 4] rfl (j_X12_does_119 cx x1 x2 x3 x5 x5 st _ h hk)
set_option maxHeartbeats 4000000 in
set_option maxRecDepth 100000 in
theorem j_X12_does_74 {C : Cm} {E : Ev} (cx : Cx C (tyE E) cX12_does RX12 11 2 48) (x1 : Int32) (x2 : Int32) (x3 : Int64) (x5 : Int64) (x7 : Int64) (st : Sg) (out : Int32 × Sg) (h : m_X12_does_74 x1 x2 x3 x5 x7 st = some out) (hk : ReI C (wM E) cX12_does 11 out) : Vat C (wM E) 11 74 [(0, .ref (oX E 0)), (1, .int x1), (2, .int x2), (3, .long x3), (5, .long x5), (7, .long x7)] [] st := by
  unfold m_X12_does_74 at h
  refine v_aload_n 75 0 cx dX12_does_74 rfl rfl rfl ?_
  refine v_get 78 0 0 cx dX12_does_75 iX12 (wMo_0 E st) rfl (Nat.le_of_ble_eq_true rfl) rfl kf_X12_7 rfl rfl ?_
  refine v_iload_n 79 1 cx dX12_does_78 rfl rfl rfl ?_
  refine v_iald 80 1 0 cx dX12_does_79 (wMa_0_0 E st) rfl rfl h (fun v12 h => ?_)
  refine v_iconst 81 cx dX12_does_80 ic_2 rfl ?_
  refine v_icmp_ne 90 84 cx dX12_does_81 (by decide) rfl h (fun h => ?_) (fun h => ?_)
  · exact j_X12_does_90 cx x1 x2 x3 x5 x7 st _ h hk
  · refine v_lload_n 85 3 cx dX12_does_84 rfl rfl rfl ?_
    refine v_lload 87 4 cx dX12_does_85 rfl rfl ?_
    refine v_lmul 88 cx dX12_does_87 rfl ?_
    refine v_lstore 90 (fun a33 => [(7, .long a33), (0, .ref (oX E 0)), (1, .int x1), (2, .int x2), (3, .long x3), (5, .long x5)]) cx dX12_does_88 (by decide) (fun _ => rfl) rfl h (fun a33 h => ?_)
    exact v_lsub (lv' := [(0, .ref (oX E 0)), (1, .int x1), (2, .int x2), (3, .long x3), (5, .long x5), (7, .long a33)]) [1, 2, 3, 4, 5, 0] rfl (j_X12_does_90 cx x1 x2 x3 x5 a33 st _ h hk)
set_option maxHeartbeats 4000000 in
set_option maxRecDepth 100000 in
theorem j_X12_does_50 {C : Cm} {E : Ev} (cx : Cx C (tyE E) cX12_does RX12 11 2 48) (x1 : Int32) (x2 : Int32) (x3 : Int64) (t0 : Int64) (st : Sg) (out : Int32 × Sg) (h : m_X12_does_50 x1 x2 x3 t0 st = some out) (hk : ReI C (wM E) cX12_does 11 out) : Vat C (wM E) 11 50 [(0, .ref (oX E 0)), (1, .int x1), (2, .int x2), (3, .long x3)] [.long t0] st := by
  unfold m_X12_does_50 at h
  refine v_lstore 52 (fun a8 => [(5, .long a8), (0, .ref (oX E 0)), (1, .int x1), (2, .int x2), (3, .long x3)]) cx dX12_does_50 (by decide) (fun _ => rfl) rfl h (fun a8 h => ?_)
  refine v_lload_n 53 4 cx dX12_does_52 rfl rfl rfl ?_
  refine v_lstore 55 (fun a9 => [(7, .long a9), (5, .long a8), (0, .ref (oX E 0)), (1, .int x1), (2, .int x2), (3, .long x3)]) cx dX12_does_53 (by decide) (fun _ => rfl) rfl h (fun a9 h => ?_)
  refine v_iconst 56 cx dX12_does_55 ic_0 rfl ?_
  refine v_istore 58 (fun a10 => [(9, .int a10), (7, .long a9), (5, .long a8), (0, .ref (oX E 0)), (1, .int x1), (2, .int x2), (3, .long x3)]) cx dX12_does_56 (by decide) (fun _ => rfl) rfl h (fun a10 h => ?_)
  refine v_aload_n 59 3 cx dX12_does_58 rfl rfl rfl ?_
  refine v_get 62 0 0 cx dX12_does_59 iX12 (wMo_0 E st) rfl (Nat.le_of_ble_eq_true rfl) rfl kf_X12_7 rfl rfl ?_
  refine v_iload_n 63 4 cx dX12_does_62 rfl rfl rfl ?_
  refine v_iald 64 1 0 cx dX12_does_63 (wMa_0_0 E st) rfl rfl h (fun v11 h => ?_)
  refine v_iconst 65 cx dX12_does_64 ic_1 rfl ?_
  refine v_icmp_ne 74 68 cx dX12_does_65 (by decide) rfl h (fun h => ?_) (fun h => ?_)
  · exact v_lsub (lv' := [(0, .ref (oX E 0)), (1, .int x1), (2, .int x2), (3, .long x3), (5, .long a8), (7, .long a9)]) [3, 4, 5, 6, 2, 1] rfl (j_X12_does_74 cx x1 x2 x3 a8 a9 st _ h hk)
  · refine v_lload_n 69 6 cx dX12_does_68 rfl rfl rfl ?_
    refine v_lload 71 2 cx dX12_does_69 rfl rfl ?_
    refine v_ladd 72 cx dX12_does_71 rfl ?_
    refine v_lstore 74 (fun a34 => [(7, .long a34), (9, .int a10), (5, .long a8), (0, .ref (oX E 0)), (1, .int x1), (2, .int x2), (3, .long x3)]) cx dX12_does_72 (by decide) (fun _ => rfl) rfl h (fun a34 h => ?_)
    exact v_lsub (lv' := [(0, .ref (oX E 0)), (1, .int x1), (2, .int x2), (3, .long x3), (5, .long a8), (7, .long a34)]) [3, 4, 5, 6, 2, 0] rfl (j_X12_does_74 cx x1 x2 x3 a8 a34 st _ h hk)
set_option maxHeartbeats 4000000 in
set_option maxRecDepth 100000 in
theorem j_X12_does_25 {C : Cm} {E : Ev} (cx : Cx C (tyE E) cX12_does RX12 11 2 48) (x1 : Int32) (x2 : Int32) (t0 : Int64) (st : Sg) (out : Int32 × Sg) (h : m_X12_does_25 x1 x2 t0 st = some out) (hk : ReI C (wM E) cX12_does 11 out) : Vat C (wM E) 11 25 [(0, .ref (oX E 0)), (1, .int x1), (2, .int x2)] [.long t0] st := by
  unfold m_X12_does_25 at h
  refine v_lstore_n 26 (fun a4 => [(3, .long a4), (0, .ref (oX E 0)), (1, .int x1), (2, .int x2)]) cx dX12_does_25 rfl (by decide) (fun _ => rfl) rfl h (fun a4 h => ?_)
  refine v_aload_n 27 1 cx dX12_does_26 rfl rfl rfl ?_
  refine v_get 30 0 5 cx dX12_does_27 iX12 (wMo_0 E st) rfl (Nat.le_of_ble_eq_true rfl) rfl kf_X12_25 rfl rfl ?_
  refine v_iconst 31 cx dX12_does_30 ic_3 rfl ?_
  refine v_iload_n 32 2 cx dX12_does_31 rfl rfl rfl ?_
  refine v_imul 33 cx dX12_does_32 rfl ?_
  refine v_iconst 34 cx dX12_does_33 ic_1 rfl ?_
  refine v_iadd 35 cx dX12_does_34 rfl ?_
  refine v_iald 36 6 0 cx dX12_does_35 (wMa_0_5 E st) rfl rfl h (fun v5 h => ?_)
  refine v_if_ge 43 39 cx dX12_does_36 (by decide) rfl h (fun h => ?_) (fun h => ?_)
  · refine v_aload_n 44 1 cx dX12_does_43 rfl rfl rfl ?_
    refine v_iload_n 45 2 cx dX12_does_44 rfl rfl rfl ?_
    refine v_iconst 46 cx dX12_does_45 ic_1 rfl ?_
    refine v_iload_n 47 3 cx dX12_does_46 rfl rfl rfl ?_
    refine v_callVL 50 0 cx dX12_does_47 km_X12_279 ca_X12_value (wMo_0 E st) rfl (c_X12_value C.2.1 E st x1 1 x2 ) rfl (by decide) rfl (Nat.le_of_ble_eq_true rfl) rfl h (fun v7 s6 h => ?_)
    exact v_lsub (lv' := [(0, .ref (oX E 0)), (1, .int x1), (2, .int x2), (3, .long a4)]) [1, 2, 3, 0] rfl (j_X12_does_50 cx x1 x2 a4 v7 s6 _ h hk)
  · refine v_lconst 40 cx dX12_does_39 lc_0 rfl ?_
    refine v_goto 50 cx dX12_does_40 (by decide) ?_
    exact v_lsub (lv' := [(0, .ref (oX E 0)), (1, .int x1), (2, .int x2), (3, .long a4)]) [1, 2, 3, 0] rfl (j_X12_does_50 cx x1 x2 a4 0 st _ h hk)
set_option maxHeartbeats 4000000 in
set_option maxRecDepth 100000 in
theorem c_X12_does (l : Launch) (E : Ev) (st : Sg) (p1 : Int32) (p2 : Int32) : ∀ q, m_X12_does p1 p2 st = some q → CtI l (wM E) (tyE E) yX12_does cX12_does 11 (some .int) 2 48 [.ref (oX E 0), .int p1, .int p2] st q := by
  intro q h
  refine ctI_of (lv0 := [(0, .ref (oX E 0)), (1, .int p1), (2, .int p2)]) (by decide) rfl (Nat.le_of_ble_eq_true rfl) (fun C hC cx hk => ?_)
  replace cx : Cx C (tyE E) cX12_does RX12 11 2 48 := cx
  unfold m_X12_does at h
  refine v_aload_n 1 0 cx dX12_does_0 rfl rfl rfl ?_
  refine v_get 4 0 0 cx dX12_does_1 iX12 (wMo_0 E st) rfl (Nat.le_of_ble_eq_true rfl) rfl kf_X12_7 rfl rfl ?_
  refine v_iload_n 5 1 cx dX12_does_4 rfl rfl rfl ?_
  refine v_iald 6 1 0 cx dX12_does_5 (wMa_0_0 E st) rfl rfl h (fun v1 h => ?_)
  refine v_if_ne 18 9 cx dX12_does_6 (by decide) rfl h (fun h => ?_) (fun h => ?_)
  · refine v_aload_n 19 0 cx dX12_does_18 rfl rfl rfl ?_
    refine v_iload_n 20 1 cx dX12_does_19 rfl rfl rfl ?_
    refine v_iconst 21 cx dX12_does_20 ic_0 rfl ?_
    refine v_iload_n 22 2 cx dX12_does_21 rfl rfl rfl ?_
    refine v_callVL 25 0 cx dX12_does_22 km_X12_279 ca_X12_value (wMo_0 E st) rfl (c_X12_value C.2.1 E st p1 0 p2 ) rfl (by decide) rfl (Nat.le_of_ble_eq_true rfl) rfl h (fun v3 s2 h => ?_)
    exact j_X12_does_25 cx p1 p2 v3 s2 _ h hk
  · refine v_aload_n 10 0 cx dX12_does_9 rfl rfl rfl ?_
    refine v_get 13 0 8 cx dX12_does_10 iX12 (wMo_0 E st) rfl (Nat.le_of_ble_eq_true rfl) rfl kf_X12_35 rfl rfl ?_
    refine v_iload_n 14 1 cx dX12_does_13 rfl rfl rfl ?_
    refine v_lald 15 9 1 cx dX12_does_14 (wMa_0_8 E st) rfl rfl h (fun v35 h => ?_)
    refine v_goto 25 cx dX12_does_15 (by decide) ?_
    exact j_X12_does_25 cx p1 p2 v35 st _ h hk
set_option maxHeartbeats 4000000 in
set_option maxRecDepth 100000 in
theorem c_X12_edge (l : Launch) (E : Ev) (st : Sg) (p1 : Int32) (p2 : Int32) (p3 : Int32) (p4 : Int32) : ∀ q, m_X12_edge p1 p2 p3 p4 st = some q → CtI l (wM E) (tyE E) yX12_edge cX12_edge 5 (some .int) 2 45 [.ref (oX E 0), .int p1, .int p2, .int p3, .int p4] st q := by
  intro q h
  refine ctI_of (lv0 := [(0, .ref (oX E 0)), (1, .int p1), (2, .int p2), (3, .int p3), (4, .int p4)]) (by decide) rfl (Nat.le_of_ble_eq_true rfl) (fun C hC cx hk => ?_)
  replace cx : Cx C (tyE E) cX12_edge RX12 5 2 45 := cx
  unfold m_X12_edge at h
  refine v_aload_n 1 0 cx dX12_edge_0 rfl rfl rfl ?_
  refine v_iload_n 2 1 cx dX12_edge_1 rfl rfl rfl ?_
  refine v_callVI 5 0 cx dX12_edge_2 km_X12_159 ca_X12_isAct (wMo_0 E st) rfl (c_X12_isAct C.2.1 E st p1 ) rfl (by decide) rfl (Nat.le_of_ble_eq_true rfl) rfl h (fun v2 s1 h => ?_)
  refine v_if_eq 16 8 cx dX12_edge_5 (by decide) rfl h (fun h => ?_) (fun h => ?_)
  · refine v_aload_n 17 0 cx dX12_edge_16 rfl rfl rfl ?_
    refine v_bipush 19 cx dX12_edge_17 bp_m3 rfl ?_
    refine v_callVI 22 0 cx dX12_edge_19 km_X12_124 ca_X12_no (wMo_0 E s1) rfl (c_X12_no C.2.1 E s1 (-3) ) rfl (by decide) rfl (Nat.le_of_ble_eq_true rfl) rfl h (fun v4 s3 h => ?_)
    exact hk _ _ _ _ (Option.some.inj h) dX12_edge_22
  · refine v_aload_n 9 0 cx dX12_edge_8 rfl rfl rfl ?_
    refine v_iload_n 10 2 cx dX12_edge_9 rfl rfl rfl ?_
    refine v_callVI 13 0 cx dX12_edge_10 km_X12_159 ca_X12_isAct (wMo_0 E s1) rfl (c_X12_isAct C.2.1 E s1 p2 ) rfl (by decide) rfl (Nat.le_of_ble_eq_true rfl) rfl h (fun v6 s5 h => ?_)
    refine v_if_ne 23 16 cx dX12_edge_13 (by decide) rfl h (fun h => ?_) (fun h => ?_)
    · refine v_iload_n 24 3 cx dX12_edge_23 rfl rfl rfl ?_
      refine v_i2l 25 cx dX12_edge_24 rfl ?_
      refine v_ldc2 28 cx dX12_edge_25 kc_X12_168 rfl ?_
      refine v_ldc2 31 cx dX12_edge_28 kc_X12_170 rfl ?_
      refine v_callSI 34 cx dX12_edge_31 km_X12_137 ca_X12_isIn (c_X12_isIn C.2.1 E s5 ((p3 : Int32).toInt64) (-50) 50 ) rfl (by decide) rfl (Nat.le_of_ble_eq_true rfl) rfl h (fun v8 s7 h => ?_)
      refine v_if_eq 45 37 cx dX12_edge_34 (by decide) rfl h (fun h => ?_) (fun h => ?_)
      · refine v_aload_n 46 0 cx dX12_edge_45 rfl rfl rfl ?_
        refine v_bipush 48 cx dX12_edge_46 bp_m9 rfl ?_
        refine v_callVI 51 0 cx dX12_edge_48 km_X12_124 ca_X12_no (wMo_0 E s7) rfl (c_X12_no C.2.1 E s7 (-9) ) rfl (by decide) rfl (Nat.le_of_ble_eq_true rfl) rfl h (fun v10 s9 h => ?_)
        exact hk _ _ _ _ (Option.some.inj h) dX12_edge_51
      · refine v_iload 39 4 cx dX12_edge_37 rfl rfl ?_
        refine v_callSI 42 cx dX12_edge_39 km_X12_149 ca_X12_areTurns (c_X12_areTurns C.2.1 E s7 p4 ) rfl (by decide) rfl (Nat.le_of_ble_eq_true rfl) rfl h (fun v12 s11 h => ?_)
        refine v_if_ne 52 45 cx dX12_edge_42 (by decide) rfl h (fun h => ?_) (fun h => ?_)
        · refine v_aload_n 53 0 cx dX12_edge_52 rfl rfl rfl ?_
          refine v_getI 56 0 15 cx dX12_edge_53 iX12 (wMo_0 E s11) rfl (Nat.le_of_ble_eq_true rfl) rfl kf_X12_172 rfl rfl h (fun v13 h => ?_)
          refine v_bipush 58 cx dX12_edge_56 bp_40 rfl ?_
          refine v_icmp_ne 68 61 cx dX12_edge_58 (by decide) rfl h (fun h => ?_) (fun h => ?_)
          · refine v_aload_n 69 0 cx dX12_edge_68 rfl rfl rfl ?_
            refine v_get 72 0 11 cx dX12_edge_69 iX12 (wMo_0 E s11) rfl (Nat.le_of_ble_eq_true rfl) rfl kf_X12_41 rfl rfl ?_
            refine v_aload_n 73 0 cx dX12_edge_72 rfl rfl rfl ?_
            refine v_getI 76 0 15 cx dX12_edge_73 iX12 (wMo_0 E s11) rfl (Nat.le_of_ble_eq_true rfl) rfl kf_X12_172 rfl rfl h (fun v14 h => ?_)
            refine v_iload_n 77 1 cx dX12_edge_76 rfl rfl rfl ?_
            refine v_iast 78 11 0 cx dX12_edge_77 (wMa_0_11 E s11) rfl (wMt_0_11 E s11) rfl h (fun s15 h => ?_)
            refine v_aload_n 79 0 cx dX12_edge_78 rfl rfl rfl ?_
            refine v_get 82 0 12 cx dX12_edge_79 iX12 (wMo_0 E s15) rfl (Nat.le_of_ble_eq_true rfl) rfl kf_X12_44 rfl rfl ?_
            refine v_aload_n 83 0 cx dX12_edge_82 rfl rfl rfl ?_
            refine v_getI 86 0 15 cx dX12_edge_83 iX12 (wMo_0 E s15) rfl (Nat.le_of_ble_eq_true rfl) rfl kf_X12_172 rfl rfl h (fun v16 h => ?_)
            refine v_iload_n 87 2 cx dX12_edge_86 rfl rfl rfl ?_
            refine v_iast 88 12 0 cx dX12_edge_87 (wMa_0_12 E s15) rfl (wMt_0_12 E s15) rfl h (fun s17 h => ?_)
            refine v_aload_n 89 0 cx dX12_edge_88 rfl rfl rfl ?_
            refine v_get 92 0 13 cx dX12_edge_89 iX12 (wMo_0 E s17) rfl (Nat.le_of_ble_eq_true rfl) rfl kf_X12_47 rfl rfl ?_
            refine v_aload_n 93 0 cx dX12_edge_92 rfl rfl rfl ?_
            refine v_getI 96 0 15 cx dX12_edge_93 iX12 (wMo_0 E s17) rfl (Nat.le_of_ble_eq_true rfl) rfl kf_X12_172 rfl rfl h (fun v18 h => ?_)
            refine v_iload_n 97 3 cx dX12_edge_96 rfl rfl rfl ?_
            refine v_iast 98 13 0 cx dX12_edge_97 (wMa_0_13 E s17) rfl (wMt_0_13 E s17) rfl h (fun s19 h => ?_)
            refine v_aload_n 99 0 cx dX12_edge_98 rfl rfl rfl ?_
            refine v_get 102 0 14 cx dX12_edge_99 iX12 (wMo_0 E s19) rfl (Nat.le_of_ble_eq_true rfl) rfl kf_X12_50 rfl rfl ?_
            refine v_aload_n 103 0 cx dX12_edge_102 rfl rfl rfl ?_
            refine v_getI 106 0 15 cx dX12_edge_103 iX12 (wMo_0 E s19) rfl (Nat.le_of_ble_eq_true rfl) rfl kf_X12_172 rfl rfl h (fun v20 h => ?_)
            refine v_iload 108 4 cx dX12_edge_106 rfl rfl ?_
            refine v_iast 109 14 0 cx dX12_edge_108 (wMa_0_14 E s19) rfl (wMt_0_14 E s19) rfl h (fun s21 h => ?_)
            refine v_aload_n 110 0 cx dX12_edge_109 rfl rfl rfl ?_
            refine v_dup 111 cx dX12_edge_110 rfl rfl ?_
            refine v_getI 114 0 15 cx dX12_edge_111 iX12 (wMo_0 E s21) rfl (Nat.le_of_ble_eq_true rfl) rfl kf_X12_172 rfl rfl h (fun v22 h => ?_)
            refine v_iconst 115 cx dX12_edge_114 ic_1 rfl ?_
            refine v_iadd 116 cx dX12_edge_115 rfl ?_
            refine v_putI 119 0 15 cx dX12_edge_116 iX12 tyX12_ok nmX12 (wMo_0 E s21) rfl (Nat.le_of_ble_eq_true rfl) rfl kf_X12_172 rfl rfl rfl rfl (Nat.le_of_ble_eq_true rfl) (wMs_0_15 E s21 _) rfl h (fun s23 h => ?_)
            refine v_aload_n 120 0 cx dX12_edge_119 rfl rfl rfl ?_
            refine v_callVV 123 0 cx dX12_edge_120 km_X12_132 ca_X12_changes (wMo_0 E s23) rfl (c_X12_changes C.2.1 E s23 ) rfl (by decide) rfl (Nat.le_of_ble_eq_true rfl) rfl h (fun _ s24 h => ?_)
            refine v_aload_n 124 0 cx dX12_edge_123 rfl rfl rfl ?_
            refine v_getI 127 0 15 cx dX12_edge_124 iX12 (wMo_0 E s24) rfl (Nat.le_of_ble_eq_true rfl) rfl kf_X12_172 rfl rfl h (fun v25 h => ?_)
            exact hk _ _ _ _ (Option.some.inj h) dX12_edge_127
          · refine v_aload_n 62 0 cx dX12_edge_61 rfl rfl rfl ?_
            refine v_bipush 64 cx dX12_edge_62 bp_m10 rfl ?_
            refine v_callVI 67 0 cx dX12_edge_64 km_X12_124 ca_X12_no (wMo_0 E s11) rfl (c_X12_no C.2.1 E s11 (-10) ) rfl (by decide) rfl (Nat.le_of_ble_eq_true rfl) rfl h (fun v27 s26 h => ?_)
            exact hk _ _ _ _ (Option.some.inj h) dX12_edge_67
        · refine v_aload_n 46 0 cx dX12_edge_45 rfl rfl rfl ?_
          refine v_bipush 48 cx dX12_edge_46 bp_m9 rfl ?_
          refine v_callVI 51 0 cx dX12_edge_48 km_X12_124 ca_X12_no (wMo_0 E s11) rfl (c_X12_no C.2.1 E s11 (-9) ) rfl (by decide) rfl (Nat.le_of_ble_eq_true rfl) rfl h (fun v29 s28 h => ?_)
          exact hk _ _ _ _ (Option.some.inj h) dX12_edge_51
    · refine v_aload_n 17 0 cx dX12_edge_16 rfl rfl rfl ?_
      refine v_bipush 19 cx dX12_edge_17 bp_m3 rfl ?_
      refine v_callVI 22 0 cx dX12_edge_19 km_X12_124 ca_X12_no (wMo_0 E s5) rfl (c_X12_no C.2.1 E s5 (-3) ) rfl (by decide) rfl (Nat.le_of_ble_eq_true rfl) rfl h (fun v31 s30 h => ?_)
      exact hk _ _ _ _ (Option.some.inj h) dX12_edge_22
set_option maxHeartbeats 4000000 in
set_option maxRecDepth 100000 in
theorem j_X12_empty_28 {C : Cm} {E : Ev} (cx : Cx C (tyE E) cX12_empty RX12 3 1 21) (x1 : Int32) (t0 : Int32) (st : Sg) (out : Int32 × Sg) (h : m_X12_empty_28 x1 t0 st = some out) (hk : ReI C (wM E) cX12_empty 3 out) : Vat C (wM E) 3 28 [(0, .ref (oX E 0)), (1, .int x1)] [.int t0] st := by
  unfold m_X12_empty_28 at h
  refine v_istore_n 29 (fun a4 => [(2, .int a4), (0, .ref (oX E 0)), (1, .int x1)]) cx dX12_empty_28 rfl (by decide) (fun _ => rfl) rfl h (fun a4 h => ?_)
  refine v_aload_n 30 1 cx dX12_empty_29 rfl rfl rfl ?_
  refine v_get 33 0 23 cx dX12_empty_30 iX12 (wMo_0 E st) rfl (Nat.le_of_ble_eq_true rfl) rfl kf_X12_71 rfl rfl ?_
  refine v_iload_n 34 2 cx dX12_empty_33 rfl rfl rfl ?_
  refine v_iconst 35 cx dX12_empty_34 ic_0 rfl ?_
  refine v_iast 36 21 0 cx dX12_empty_35 (wMa_0_23 E st) rfl (wMt_0_23 E st) rfl h (fun s5 h => ?_)
  refine v_iload_n 37 0 cx dX12_empty_36 rfl rfl rfl ?_
  exact hk _ _ _ _ (Option.some.inj h) dX12_empty_37
set_option maxHeartbeats 4000000 in
set_option maxRecDepth 100000 in
theorem c_X12_empty (l : Launch) (E : Ev) (st : Sg) (p1 : Int32) : ∀ q, m_X12_empty p1 st = some q → CtI l (wM E) (tyE E) yX12_empty cX12_empty 3 (some .int) 1 21 [.ref (oX E 0), .int p1] st q := by
  intro q h
  refine ctI_of (lv0 := [(0, .ref (oX E 0)), (1, .int p1)]) (by decide) rfl (Nat.le_of_ble_eq_true rfl) (fun C hC cx hk => ?_)
  replace cx : Cx C (tyE E) cX12_empty RX12 3 1 21 := cx
  unfold m_X12_empty at h
  refine v_iload_n 1 1 cx dX12_empty_0 rfl rfl rfl ?_
  refine v_callSI 4 cx dX12_empty_1 km_X12_249 ca_X12_isSlot (c_X12_isSlot C.2.1 E st p1 ) rfl (by decide) rfl (Nat.le_of_ble_eq_true rfl) rfl h (fun v2 s1 h => ?_)
  refine v_if_ne 14 7 cx dX12_empty_4 (by decide) rfl h (fun h => ?_) (fun h => ?_)
  · refine v_aload_n 15 0 cx dX12_empty_14 rfl rfl rfl ?_
    refine v_get 18 0 23 cx dX12_empty_15 iX12 (wMo_0 E s1) rfl (Nat.le_of_ble_eq_true rfl) rfl kf_X12_71 rfl rfl ?_
    refine v_iload_n 19 1 cx dX12_empty_18 rfl rfl rfl ?_
    refine v_iald 20 21 0 cx dX12_empty_19 (wMa_0_23 E s1) rfl rfl h (fun v3 h => ?_)
    refine v_if_le 27 23 cx dX12_empty_20 (by decide) rfl h (fun h => ?_) (fun h => ?_)
    · refine v_iconst 28 cx dX12_empty_27 ic_0 rfl ?_
      exact j_X12_empty_28 cx p1 0 s1 _ h hk
    · refine v_iconst 24 cx dX12_empty_23 ic_1 rfl ?_
      refine v_goto 28 cx dX12_empty_24 (by decide) ?_
      exact j_X12_empty_28 cx p1 1 s1 _ h hk
  · refine v_aload_n 8 0 cx dX12_empty_7 rfl rfl rfl ?_
    refine v_bipush 10 cx dX12_empty_8 bp_m3 rfl ?_
    refine v_callVI 13 0 cx dX12_empty_10 km_X12_124 ca_X12_no (wMo_0 E s1) rfl (c_X12_no C.2.1 E s1 (-3) ) rfl (by decide) rfl (Nat.le_of_ble_eq_true rfl) rfl h (fun v7 s6 h => ?_)
    exact hk _ _ _ _ (Option.some.inj h) dX12_empty_13
set_option maxHeartbeats 4000000 in
set_option maxRecDepth 100000 in
theorem c_X12_end (l : Launch) (E : Ev) (st : Sg) (p1 : Int32) : ∀ q, m_X12_end p1 st = some q → CtL l (wM E) (tyE E) yX12_end cX12_end 3 (some .long) 1 21 [.ref (oX E 0), .int p1] st q := by
  intro q h
  refine ctL_of (lv0 := [(0, .ref (oX E 0)), (1, .int p1)]) (by decide) rfl (Nat.le_of_ble_eq_true rfl) (fun C hC cx hk => ?_)
  replace cx : Cx C (tyE E) cX12_end RX12 3 1 21 := cx
  unfold m_X12_end at h
  refine v_aload_n 1 0 cx dX12_end_0 rfl rfl rfl ?_
  refine v_iload_n 2 1 cx dX12_end_1 rfl rfl rfl ?_
  refine v_callVI 5 0 cx dX12_end_2 km_X12_159 ca_X12_isAct (wMo_0 E st) rfl (c_X12_isAct C.2.1 E st p1 ) rfl (by decide) rfl (Nat.le_of_ble_eq_true rfl) rfl h (fun v2 s1 h => ?_)
  refine v_if_eq 41 8 cx dX12_end_5 (by decide) rfl h (fun h => ?_) (fun h => ?_)
  · refine v_aload_n 42 0 cx dX12_end_41 rfl rfl rfl ?_
    refine v_bipush 44 cx dX12_end_42 bp_m3 rfl ?_
    refine v_callVI 47 0 cx dX12_end_44 km_X12_124 ca_X12_no (wMo_0 E s1) rfl (c_X12_no C.2.1 E s1 (-3) ) rfl (by decide) rfl (Nat.le_of_ble_eq_true rfl) rfl h (fun v4 s3 h => ?_)
    refine v_istore_n 48 (fun a5 => [(2, .int a5), (0, .ref (oX E 0)), (1, .int p1)]) cx dX12_end_47 rfl (by decide) (fun _ => rfl) rfl h (fun a5 h => ?_)
    refine v_lconst 49 cx dX12_end_48 lc_0 rfl ?_
    exact hk _ _ _ _ (Option.some.inj h) dX12_end_49
  · refine v_aload_n 9 0 cx dX12_end_8 rfl rfl rfl ?_
    refine v_getI 12 0 44 cx dX12_end_9 iX12 (wMo_0 E s1) rfl (Nat.le_of_ble_eq_true rfl) rfl kf_X12_276 rfl rfl h (fun v6 h => ?_)
    refine v_if_ne 24 15 cx dX12_end_12 (by decide) rfl h (fun h => ?_) (fun h => ?_)
    · refine v_aload_n 25 0 cx dX12_end_24 rfl rfl rfl ?_
      refine v_get 28 0 37 cx dX12_end_25 iX12 (wMo_0 E s1) rfl (Nat.le_of_ble_eq_true rfl) rfl kf_X12_105 rfl rfl ?_
      refine v_bipush 30 cx dX12_end_28 bp_16 rfl ?_
      refine v_aload_n 31 0 cx dX12_end_30 rfl rfl rfl ?_
      refine v_getI 34 0 44 cx dX12_end_31 iX12 (wMo_0 E s1) rfl (Nat.le_of_ble_eq_true rfl) rfl kf_X12_276 rfl rfl h (fun v7 h => ?_)
      refine v_iconst 35 cx dX12_end_34 ic_1 rfl ?_
      refine v_isub 36 cx dX12_end_35 rfl ?_
      refine v_imul 37 cx dX12_end_36 rfl ?_
      refine v_iload_n 38 1 cx dX12_end_37 rfl rfl rfl ?_
      refine v_iadd 39 cx dX12_end_38 rfl ?_
      refine v_lald 40 32 1 cx dX12_end_39 (wMa_0_37 E s1) rfl rfl h (fun v8 h => ?_)
      exact hk _ _ _ _ (Option.some.inj h) dX12_end_40
    · refine v_aload_n 16 0 cx dX12_end_15 rfl rfl rfl ?_
      refine v_get 19 0 7 cx dX12_end_16 iX12 (wMo_0 E s1) rfl (Nat.le_of_ble_eq_true rfl) rfl kf_X12_31 rfl rfl ?_
      refine v_iload_n 20 1 cx dX12_end_19 rfl rfl rfl ?_
      refine v_lald 21 8 1 cx dX12_end_20 (wMa_0_7 E s1) rfl rfl h (fun v9 h => ?_)
      refine v_goto 40 cx dX12_end_21 (by decide) ?_
      exact hk _ _ _ _ (Option.some.inj h) dX12_end_40
set_option maxHeartbeats 4000000 in
set_option maxRecDepth 100000 in
theorem c_X12_isBeyond (l : Launch) (E : Ev) (st : Sg) (p1 : Int32) (p2 : Int32) : ∀ q, m_X12_isBeyond p1 p2 st = some q → CtI l (wM E) (tyE E) yX12_isBeyond cX12_isBeyond 3 (some .boolean) 1 25 [.ref (oX E 0), .int p1, .int p2] st q := by
  intro q h
  refine ctZ_of (lv0 := [(0, .ref (oX E 0)), (1, .int p1), (2, .int p2)]) (by decide) rfl (Nat.le_of_ble_eq_true rfl) (fun C hC cx hk => ?_)
  replace cx : Cx C (tyE E) cX12_isBeyond RX12 3 1 25 := cx
  unfold m_X12_isBeyond at h
  refine v_iload_n 1 1 cx dX12_isBeyond_0 rfl rfl rfl ?_
  refine v_i2l 2 cx dX12_isBeyond_1 rfl ?_
  refine v_lconst 3 cx dX12_isBeyond_2 lc_0 rfl ?_
  refine v_ldc2 6 cx dX12_isBeyond_3 kc_X12_141 rfl ?_
  refine v_callSI 9 cx dX12_isBeyond_6 km_X12_137 ca_X12_isIn (c_X12_isIn C.2.1 E st ((p1 : Int32).toInt64) 0 15 ) rfl (by decide) rfl (Nat.le_of_ble_eq_true rfl) rfl h (fun v2 s1 h => ?_)
  refine v_if_eq 24 12 cx dX12_isBeyond_9 (by decide) rfl h (fun h => ?_) (fun h => ?_)
  · refine v_iconst 25 cx dX12_isBeyond_24 ic_1 rfl ?_
    refine v_goto 29 cx dX12_isBeyond_25 (by decide) ?_
    exact hk _ _ _ _ (Option.some.inj h) (Or.inr rfl) dX12_isBeyond_29
  · refine v_iload_n 13 2 cx dX12_isBeyond_12 rfl rfl rfl ?_
    refine v_if_ne 28 16 cx dX12_isBeyond_13 (by decide) rfl h (fun h => ?_) (fun h => ?_)
    · refine v_iconst 29 cx dX12_isBeyond_28 ic_0 rfl ?_
      exact hk _ _ _ _ (Option.some.inj h) (Or.inl rfl) dX12_isBeyond_29
    · refine v_iload_n 17 1 cx dX12_isBeyond_16 rfl rfl rfl ?_
      refine v_aload_n 18 0 cx dX12_isBeyond_17 rfl rfl rfl ?_
      refine v_getI 21 0 9 cx dX12_isBeyond_18 iX12 (wMo_0 E s1) rfl (Nat.le_of_ble_eq_true rfl) rfl kf_X12_118 rfl rfl h (fun v3 h => ?_)
      refine v_icmp_lt 28 24 cx dX12_isBeyond_21 (by decide) rfl h (fun h => ?_) (fun h => ?_)
      · refine v_iconst 29 cx dX12_isBeyond_28 ic_0 rfl ?_
        exact hk _ _ _ _ (Option.some.inj h) (Or.inl rfl) dX12_isBeyond_29
      · refine v_iconst 25 cx dX12_isBeyond_24 ic_1 rfl ?_
        refine v_goto 29 cx dX12_isBeyond_25 (by decide) ?_
        exact hk _ _ _ _ (Option.some.inj h) (Or.inr rfl) dX12_isBeyond_29
set_option maxHeartbeats 4000000 in
set_option maxRecDepth 100000 in
theorem c_X12_fetch (l : Launch) (E : Ev) (st : Sg) (p1 : Int32) (p2 : Int32) (p3 : Int32) : ∀ q, m_X12_fetch p1 p2 p3 st = some q → CtI l (wM E) (tyE E) yX12_fetch cX12_fetch 4 (some .int) 3 67 [.ref (oX E 0), .int p1, .int p2, .int p3] st q := by
  intro q h
  refine ctI_of (lv0 := [(0, .ref (oX E 0)), (1, .int p1), (2, .int p2), (3, .int p3)]) (by decide) rfl (Nat.le_of_ble_eq_true rfl) (fun C hC cx hk => ?_)
  replace cx : Cx C (tyE E) cX12_fetch RX12 4 3 67 := cx
  unfold m_X12_fetch at h
  refine v_iload_n 1 3 cx dX12_fetch_0 rfl rfl rfl ?_
  refine v_callSI 4 cx dX12_fetch_1 km_X12_149 ca_X12_areTurns (c_X12_areTurns C.2.1 E st p3 ) rfl (by decide) rfl (Nat.le_of_ble_eq_true rfl) rfl h (fun v2 s1 h => ?_)
  refine v_if_ne 14 7 cx dX12_fetch_4 (by decide) rfl h (fun h => ?_) (fun h => ?_)
  · refine v_iload_n 15 1 cx dX12_fetch_14 rfl rfl rfl ?_
    refine v_i2l 16 cx dX12_fetch_15 rfl ?_
    refine v_lconst 17 cx dX12_fetch_16 lc_0 rfl ?_
    refine v_ldc2 20 cx dX12_fetch_17 kc_X12_157 rfl ?_
    refine v_callSI 23 cx dX12_fetch_20 km_X12_137 ca_X12_isIn (c_X12_isIn C.2.1 E s1 ((p1 : Int32).toInt64) 0 7 ) rfl (by decide) rfl (Nat.le_of_ble_eq_true rfl) rfl h (fun v4 s3 h => ?_)
    refine v_if_eq 35 26 cx dX12_fetch_23 (by decide) rfl h (fun h => ?_) (fun h => ?_)
    · refine v_aload_n 36 0 cx dX12_fetch_35 rfl rfl rfl ?_
      refine v_bipush 38 cx dX12_fetch_36 bp_m3 rfl ?_
      refine v_callVI 41 0 cx dX12_fetch_38 km_X12_124 ca_X12_no (wMo_0 E s3) rfl (c_X12_no C.2.1 E s3 (-3) ) rfl (by decide) rfl (Nat.le_of_ble_eq_true rfl) rfl h (fun v6 s5 h => ?_)
      exact hk _ _ _ _ (Option.some.inj h) dX12_fetch_41
    · refine v_aload_n 27 0 cx dX12_fetch_26 rfl rfl rfl ?_
      refine v_iload_n 28 2 cx dX12_fetch_27 rfl rfl rfl ?_
      refine v_iload_n 29 3 cx dX12_fetch_28 rfl rfl rfl ?_
      refine v_callVI 32 0 cx dX12_fetch_29 km_X12_153 ca_X12_isBeyond (wMo_0 E s3) rfl (c_X12_isBeyond C.2.1 E s3 p2 p3 ) rfl (by decide) rfl (Nat.le_of_ble_eq_true rfl) rfl h (fun v8 s7 h => ?_)
      refine v_if_eq 42 35 cx dX12_fetch_32 (by decide) rfl h (fun h => ?_) (fun h => ?_)
      · refine v_aload_n 43 0 cx dX12_fetch_42 rfl rfl rfl ?_
        refine v_iconst 44 cx dX12_fetch_43 ic_4 rfl ?_
        refine v_iload_n 45 1 cx dX12_fetch_44 rfl rfl rfl ?_
        refine v_iload_n 46 2 cx dX12_fetch_45 rfl rfl rfl ?_
        refine v_iload_n 47 3 cx dX12_fetch_46 rfl rfl rfl ?_
        refine v_iconst 48 cx dX12_fetch_47 ic_m1 rfl ?_
        refine v_iconst 49 cx dX12_fetch_48 ic_m1 rfl ?_
        refine v_callVI 52 0 cx dX12_fetch_49 km_X12_143 ca_X12_adds (wMo_0 E s7) rfl (c_X12_adds C.2.1 E s7 4 p1 p2 p3 (-1) (-1) ) rfl (by decide) rfl (Nat.le_of_ble_eq_true rfl) rfl h (fun v10 s9 h => ?_)
        exact hk _ _ _ _ (Option.some.inj h) dX12_fetch_52
      · refine v_aload_n 36 0 cx dX12_fetch_35 rfl rfl rfl ?_
        refine v_bipush 38 cx dX12_fetch_36 bp_m3 rfl ?_
        refine v_callVI 41 0 cx dX12_fetch_38 km_X12_124 ca_X12_no (wMo_0 E s7) rfl (c_X12_no C.2.1 E s7 (-3) ) rfl (by decide) rfl (Nat.le_of_ble_eq_true rfl) rfl h (fun v12 s11 h => ?_)
        exact hk _ _ _ _ (Option.some.inj h) dX12_fetch_41
  · refine v_aload_n 8 0 cx dX12_fetch_7 rfl rfl rfl ?_
    refine v_bipush 10 cx dX12_fetch_8 bp_m9 rfl ?_
    refine v_callVI 13 0 cx dX12_fetch_10 km_X12_124 ca_X12_no (wMo_0 E s1) rfl (c_X12_no C.2.1 E s1 (-9) ) rfl (by decide) rfl (Nat.le_of_ble_eq_true rfl) rfl h (fun v14 s13 h => ?_)
    exact hk _ _ _ _ (Option.some.inj h) dX12_fetch_13
def V_X12_placesOf_L4 (C : Cm) (E : Ev) (x1 : Int32) (s : (Int32 × Int32 × Sg)) : Prop := Vat C (wM E) 5 4 [(0, .ref (oX E 0)), (1, .int x1), (2, .int s.1), (3, .int s.2.1)] [] s.2.2
def K_X12_placesOf_L4 (C : Cm) (E : Ev) (x1 : Int32) : (Int32 × Sg) → Prop := (fun r : (Int32 × Sg) => Vat C (wM E) 5 71 [(0, .ref (oX E 0)), (2, .int r.1)] [] r.2)
set_option maxHeartbeats 4000000 in
set_option maxRecDepth 100000 in
theorem b_X12_placesOf_L4 {C : Cm} {E : Ev} (cx : Cx C (tyE E) cX12_placesOf RX12 5 0 0) (x1 : Int32) : ∀ (s : (Int32 × Int32 × Sg)) (out : (Int32 × Int32 × Sg) ⊕ (Int32 × Sg)), m_X12_placesOf_L4 x1 s.1 s.2.1 s.2.2 = some out → Sum.elim (V_X12_placesOf_L4 C E x1) (K_X12_placesOf_L4 C E x1) out → V_X12_placesOf_L4 C E x1 s := by
  intro s out h hk
  obtain ⟨x2, x3, st⟩ := s
  show Vat C (wM E) 5 4 [(0, .ref (oX E 0)), (1, .int x1), (2, .int x2), (3, .int x3)] [] st
  replace h : m_X12_placesOf_L4 x1 x2 x3 st = some out := h
  unfold m_X12_placesOf_L4 at h
  refine v_iload_n 5 3 cx dX12_placesOf_4 rfl rfl rfl ?_
  refine v_iconst 6 cx dX12_placesOf_5 ic_3 rfl ?_
  refine v_aload_n 7 0 cx dX12_placesOf_6 rfl rfl rfl ?_
  refine v_getI 10 0 9 cx dX12_placesOf_7 iX12 (wMo_0 E st) rfl (Nat.le_of_ble_eq_true rfl) rfl kf_X12_118 rfl rfl h (fun v3 h => ?_)
  refine v_imul 11 cx dX12_placesOf_10 rfl ?_
  refine v_icmp_ge 71 14 cx dX12_placesOf_11 (by decide) rfl h (fun h => ?_) (fun h => ?_)
  · cases h
    have hk : Vat C (wM E) 5 71 [(0, .ref (oX E 0)), (2, .int x2)] [] st := hk
    exact v_lsub (lv' := [(0, .ref (oX E 0)), (2, .int x2)]) [0, 2] rfl (hk)
  · refine v_aload_n 15 0 cx dX12_placesOf_14 rfl rfl rfl ?_
    refine v_get 18 0 5 cx dX12_placesOf_15 iX12 (wMo_0 E st) rfl (Nat.le_of_ble_eq_true rfl) rfl kf_X12_25 rfl rfl ?_
    refine v_iload_n 19 3 cx dX12_placesOf_18 rfl rfl rfl ?_
    refine v_iald 20 6 0 cx dX12_placesOf_19 (wMa_0_5 E st) rfl rfl h (fun v4 h => ?_)
    refine v_iload_n 21 1 cx dX12_placesOf_20 rfl rfl rfl ?_
    refine v_icmp_eq 27 24 cx dX12_placesOf_21 (by decide) rfl h (fun h => ?_) (fun h => ?_)
    · refine v_aload_n 28 0 cx dX12_placesOf_27 rfl rfl rfl ?_
      refine v_get 31 0 30 cx dX12_placesOf_28 iX12 (wMo_0 E st) rfl (Nat.le_of_ble_eq_true rfl) rfl kf_X12_87 rfl rfl ?_
      refine v_iload_n 32 3 cx dX12_placesOf_31 rfl rfl rfl ?_
      refine v_iconst 33 cx dX12_placesOf_32 ic_3 rfl ?_
      refine v_idiv 34 cx dX12_placesOf_33 rfl h (fun h => ?_)
      refine v_iald 35 26 0 cx dX12_placesOf_34 (wMa_0_30 E st) rfl rfl h (fun v5 h => ?_)
      refine v_aload_n 36 0 cx dX12_placesOf_35 rfl rfl rfl ?_
      refine v_getI 39 0 27 cx dX12_placesOf_36 iX12 (wMo_0 E st) rfl (Nat.le_of_ble_eq_true rfl) rfl kf_X12_121 rfl rfl h (fun v6 h => ?_)
      refine v_aload_n 40 0 cx dX12_placesOf_39 rfl rfl rfl ?_
      refine v_get 43 0 6 cx dX12_placesOf_40 iX12 (wMo_0 E st) rfl (Nat.le_of_ble_eq_true rfl) rfl kf_X12_28 rfl rfl ?_
      refine v_iload_n 44 3 cx dX12_placesOf_43 rfl rfl rfl ?_
      refine v_iald 45 7 0 cx dX12_placesOf_44 (wMa_0_6 E st) rfl rfl h (fun v7 h => ?_)
      refine v_imul 46 cx dX12_placesOf_45 rfl ?_
      refine v_iadd 47 cx dX12_placesOf_46 rfl ?_
      refine v_aload_n 48 0 cx dX12_placesOf_47 rfl rfl rfl ?_
      refine v_get 51 0 30 cx dX12_placesOf_48 iX12 (wMo_0 E st) rfl (Nat.le_of_ble_eq_true rfl) rfl kf_X12_87 rfl rfl ?_
      refine v_iload_n 52 1 cx dX12_placesOf_51 rfl rfl rfl ?_
      refine v_iald 53 26 0 cx dX12_placesOf_52 (wMa_0_30 E st) rfl rfl h (fun v8 h => ?_)
      refine v_isub 54 cx dX12_placesOf_53 rfl ?_
      refine v_istore 56 (fun a9 => [(4, .int a9), (0, .ref (oX E 0)), (1, .int x1), (2, .int x2), (3, .int x3)]) cx dX12_placesOf_54 (by decide) (fun _ => rfl) rfl h (fun a9 h => ?_)
      refine v_iload 58 0 cx dX12_placesOf_56 rfl rfl ?_
      refine v_iload_n 59 3 cx dX12_placesOf_58 rfl rfl rfl ?_
      refine v_icmp_le 65 62 cx dX12_placesOf_59 (by decide) rfl h (fun h => ?_) (fun h => ?_)
      · refine v_iinc 68 4 (fun a10 => [(3, .int a10), (4, .int a9), (0, .ref (oX E 0)), (1, .int x1), (2, .int x2)]) cx dX12_placesOf_65 rfl ic_1 (by decide) (fun _ => rfl) rfl h (fun a10 h => ?_)
        refine v_goto 4 cx dX12_placesOf_68 (by decide) ?_
        cases h
        have hk : Vat C (wM E) 5 4 [(0, .ref (oX E 0)), (1, .int x1), (2, .int x2), (3, .int a10)] [] st := hk
        exact v_lsub (lv' := [(0, .ref (oX E 0)), (1, .int x1), (2, .int x2), (3, .int a10)]) [2, 3, 4, 0] rfl (hk)
      · refine v_iload 64 0 cx dX12_placesOf_62 rfl rfl ?_
        refine v_istore_n 65 (fun a11 => [(2, .int a11), (4, .int a9), (0, .ref (oX E 0)), (1, .int x1), (3, .int x3)]) cx dX12_placesOf_64 rfl (by decide) (fun _ => rfl) rfl h (fun a11 h => ?_)
        refine v_iinc 68 4 (fun a12 => [(3, .int a12), (2, .int a11), (4, .int a9), (0, .ref (oX E 0)), (1, .int x1)]) cx dX12_placesOf_65 rfl ic_1 (by decide) (fun _ => rfl) rfl h (fun a12 h => ?_)
        refine v_goto 4 cx dX12_placesOf_68 (by decide) ?_
        cases h
        have hk : Vat C (wM E) 5 4 [(0, .ref (oX E 0)), (1, .int x1), (2, .int a11), (3, .int a12)] [] st := hk
        exact v_lsub (lv' := [(0, .ref (oX E 0)), (1, .int x1), (2, .int a11), (3, .int a12)]) [3, 4, 1, 0] rfl (hk)
    · refine v_goto 65 cx dX12_placesOf_24 (by decide) ?_
      refine v_iinc 68 3 (fun a13 => [(3, .int a13), (0, .ref (oX E 0)), (1, .int x1), (2, .int x2)]) cx dX12_placesOf_65 rfl ic_1 (by decide) (fun _ => rfl) rfl h (fun a13 h => ?_)
      refine v_goto 4 cx dX12_placesOf_68 (by decide) ?_
      cases h
      have hk : Vat C (wM E) 5 4 [(0, .ref (oX E 0)), (1, .int x1), (2, .int x2), (3, .int a13)] [] st := hk
      exact v_lsub (lv' := [(0, .ref (oX E 0)), (1, .int x1), (2, .int x2), (3, .int a13)]) [1, 2, 3, 0] rfl (hk)
set_option maxHeartbeats 4000000 in
set_option maxRecDepth 100000 in
theorem c_X12_placesOf (l : Launch) (E : Ev) (st : Sg) (p1 : Int32) : ∀ q, m_X12_placesOf p1 st = some q → CtI l (wM E) (tyE E) yX12_placesOf cX12_placesOf 5 (some .int) 0 0 [.ref (oX E 0), .int p1] st q := by
  intro q h
  refine ctI_of (lv0 := [(0, .ref (oX E 0)), (1, .int p1)]) (by decide) rfl (Nat.le_of_ble_eq_true rfl) (fun C hC cx hk => ?_)
  replace cx : Cx C (tyE E) cX12_placesOf RX12 5 0 0 := cx
  unfold m_X12_placesOf at h
  refine v_iconst 1 cx dX12_placesOf_0 ic_0 rfl ?_
  refine v_istore_n 2 (fun a1 => [(2, .int a1), (0, .ref (oX E 0)), (1, .int p1)]) cx dX12_placesOf_1 rfl (by decide) (fun _ => rfl) rfl h (fun a1 h => ?_)
  refine v_iconst 3 cx dX12_placesOf_2 ic_0 rfl ?_
  refine v_istore_n 4 (fun a2 => [(3, .int a2), (2, .int a1), (0, .ref (oX E 0)), (1, .int p1)]) cx dX12_placesOf_3 rfl (by decide) (fun _ => rfl) rfl h (fun a2 h => ?_)
  refine v_lsub (lv' := [(0, .ref (oX E 0)), (1, .int p1), (2, .int a1), (3, .int a2)]) [2, 3, 1, 0] rfl ?_
  refine v_loop (s0 := (a1, a2, st)) (V_X12_placesOf_L4 C E p1) (K_X12_placesOf_L4 C E p1) h (b_X12_placesOf_L4 cx p1) (fun r14 h => ?_)
  show Vat C (wM E) 5 71 [(0, .ref (oX E 0)), (2, .int r14.1)] [] r14.2
  refine v_iload_n 72 1 cx dX12_placesOf_71 rfl rfl rfl ?_
  refine v_aload_n 73 0 cx dX12_placesOf_72 rfl rfl rfl ?_
  refine v_getI 76 0 27 cx dX12_placesOf_73 iX12 (wMo_0 E r14.2) rfl (Nat.le_of_ble_eq_true rfl) rfl kf_X12_121 rfl rfl h (fun v15 h => ?_)
  refine v_idiv 77 cx dX12_placesOf_76 rfl h (fun h => ?_)
  refine v_iconst 78 cx dX12_placesOf_77 ic_1 rfl ?_
  refine v_iadd 79 cx dX12_placesOf_78 rfl ?_
  exact hk _ _ _ _ (Option.some.inj h) dX12_placesOf_79
def V_X12_fewest_L38 (C : Cm) (E : Ev) (x1 : Int32) (s : (Int32 × Int32 × Int32 × Sg)) : Prop := Vat C (wM E) 6 38 [(0, .ref (oX E 0)), (1, .int x1), (2, .int s.1), (3, .int s.2.1), (4, .int s.2.2.1)] [] s.2.2.2
def K_X12_fewest_L38 (C : Cm) (E : Ev) (x1 : Int32) : (Int32 × Int32 × Sg) → Prop := (fun r : (Int32 × Int32 × Sg) => Vat C (wM E) 6 75 [(0, .ref (oX E 0)), (1, .int x1), (2, .int r.1), (3, .int r.2.1)] [] r.2.2)
set_option maxHeartbeats 4000000 in
set_option maxRecDepth 100000 in
theorem b_X12_fewest_L38 {C : Cm} {E : Ev} (cx : Cx C (tyE E) cX12_fewest RX12 6 1 25) (x1 : Int32) : ∀ (s : (Int32 × Int32 × Int32 × Sg)) (out : (Int32 × Int32 × Int32 × Sg) ⊕ (Int32 × Int32 × Sg)), m_X12_fewest_L38 x1 s.1 s.2.1 s.2.2.1 s.2.2.2 = some out → Sum.elim (V_X12_fewest_L38 C E x1) (K_X12_fewest_L38 C E x1) out → V_X12_fewest_L38 C E x1 s := by
  intro s out h hk
  obtain ⟨x2, x3, x4, st⟩ := s
  show Vat C (wM E) 6 38 [(0, .ref (oX E 0)), (1, .int x1), (2, .int x2), (3, .int x3), (4, .int x4)] [] st
  replace h : m_X12_fewest_L38 x1 x2 x3 x4 st = some out := h
  unfold m_X12_fewest_L38 at h
  refine v_iload 40 4 cx dX12_fewest_38 rfl rfl ?_
  refine v_aload_n 41 0 cx dX12_fewest_40 rfl rfl rfl ?_
  refine v_getI 44 0 9 cx dX12_fewest_41 iX12 (wMo_0 E st) rfl (Nat.le_of_ble_eq_true rfl) rfl kf_X12_118 rfl rfl h (fun v7 h => ?_)
  refine v_icmp_ge 75 47 cx dX12_fewest_44 (by decide) rfl h (fun h => ?_) (fun h => ?_)
  · cases h
    have hk : Vat C (wM E) 6 75 [(0, .ref (oX E 0)), (1, .int x1), (2, .int x2), (3, .int x3)] [] st := hk
    exact v_lsub (lv' := [(0, .ref (oX E 0)), (1, .int x1), (2, .int x2), (3, .int x3)]) [0, 1, 2, 3] rfl (hk)
  · refine v_aload_n 48 0 cx dX12_fewest_47 rfl rfl rfl ?_
    refine v_iload 50 4 cx dX12_fewest_48 rfl rfl ?_
    refine v_callVI 53 0 cx dX12_fewest_50 km_X12_240 ca_X12_placesOf (wMo_0 E st) rfl (c_X12_placesOf C.2.1 E st x4 ) rfl (by decide) rfl (Nat.le_of_ble_eq_true rfl) rfl h (fun v9 s8 h => ?_)
    refine v_istore 55 (fun a10 => [(5, .int a10), (0, .ref (oX E 0)), (1, .int x1), (2, .int x2), (3, .int x3), (4, .int x4)]) cx dX12_fewest_53 (by decide) (fun _ => rfl) rfl h (fun a10 h => ?_)
    refine v_iload_n 56 3 cx dX12_fewest_55 rfl rfl rfl ?_
    refine v_iload 58 0 cx dX12_fewest_56 rfl rfl ?_
    refine v_iadd 59 cx dX12_fewest_58 rfl ?_
    refine v_istore_n 60 (fun a11 => [(2, .int a11), (5, .int a10), (0, .ref (oX E 0)), (1, .int x1), (3, .int x3), (4, .int x4)]) cx dX12_fewest_59 rfl (by decide) (fun _ => rfl) rfl h (fun a11 h => ?_)
    refine v_iload 62 1 cx dX12_fewest_60 rfl rfl ?_
    refine v_iload_n 63 4 cx dX12_fewest_62 rfl rfl rfl ?_
    refine v_icmp_le 69 66 cx dX12_fewest_63 (by decide) rfl h (fun h => ?_) (fun h => ?_)
    · refine v_iinc 72 5 (fun a12 => [(4, .int a12), (2, .int a11), (5, .int a10), (0, .ref (oX E 0)), (1, .int x1), (3, .int x3)]) cx dX12_fewest_69 rfl ic_1 (by decide) (fun _ => rfl) rfl h (fun a12 h => ?_)
      refine v_goto 38 cx dX12_fewest_72 (by decide) ?_
      cases h
      have hk : Vat C (wM E) 6 38 [(0, .ref (oX E 0)), (1, .int x1), (2, .int a11), (3, .int x3), (4, .int a12)] [] s8 := hk
      exact v_lsub (lv' := [(0, .ref (oX E 0)), (1, .int x1), (2, .int a11), (3, .int x3), (4, .int a12)]) [3, 4, 1, 5, 0] rfl (hk)
    · refine v_iload 68 1 cx dX12_fewest_66 rfl rfl ?_
      refine v_istore_n 69 (fun a13 => [(3, .int a13), (2, .int a11), (5, .int a10), (0, .ref (oX E 0)), (1, .int x1), (4, .int x4)]) cx dX12_fewest_68 rfl (by decide) (fun _ => rfl) rfl h (fun a13 h => ?_)
      refine v_iinc 72 5 (fun a14 => [(4, .int a14), (3, .int a13), (2, .int a11), (5, .int a10), (0, .ref (oX E 0)), (1, .int x1)]) cx dX12_fewest_69 rfl ic_1 (by decide) (fun _ => rfl) rfl h (fun a14 h => ?_)
      refine v_goto 38 cx dX12_fewest_72 (by decide) ?_
      cases h
      have hk : Vat C (wM E) 6 38 [(0, .ref (oX E 0)), (1, .int x1), (2, .int a11), (3, .int a13), (4, .int a14)] [] s8 := hk
      exact v_lsub (lv' := [(0, .ref (oX E 0)), (1, .int x1), (2, .int a11), (3, .int a13), (4, .int a14)]) [4, 5, 2, 1, 0] rfl (hk)
set_option maxHeartbeats 4000000 in
set_option maxRecDepth 100000 in
theorem c_X12_fewest (l : Launch) (E : Ev) (st : Sg) (p1 : Int32) : ∀ q, m_X12_fewest p1 st = some q → CtI l (wM E) (tyE E) yX12_fewest cX12_fewest 6 (some .int) 1 25 [.ref (oX E 0), .int p1] st q := by
  intro q h
  refine ctI_of (lv0 := [(0, .ref (oX E 0)), (1, .int p1)]) (by decide) rfl (Nat.le_of_ble_eq_true rfl) (fun C hC cx hk => ?_)
  replace cx : Cx C (tyE E) cX12_fewest RX12 6 1 25 := cx
  unfold m_X12_fewest at h
  refine v_aload_n 1 0 cx dX12_fewest_0 rfl rfl rfl ?_
  refine v_getI 4 0 27 cx dX12_fewest_1 iX12 (wMo_0 E st) rfl (Nat.le_of_ble_eq_true rfl) rfl kf_X12_121 rfl rfl h (fun v1 h => ?_)
  refine v_if_ne 14 7 cx dX12_fewest_4 (by decide) rfl h (fun h => ?_) (fun h => ?_)
  · refine v_iload_n 15 1 cx dX12_fewest_14 rfl rfl rfl ?_
    refine v_i2l 16 cx dX12_fewest_15 rfl ?_
    refine v_lconst 17 cx dX12_fewest_16 lc_0 rfl ?_
    refine v_lconst 18 cx dX12_fewest_17 lc_1 rfl ?_
    refine v_callSI 21 cx dX12_fewest_18 km_X12_137 ca_X12_isIn (c_X12_isIn C.2.1 E st ((p1 : Int32).toInt64) 0 1 ) rfl (by decide) rfl (Nat.le_of_ble_eq_true rfl) rfl h (fun v3 s2 h => ?_)
    refine v_if_ne 31 24 cx dX12_fewest_21 (by decide) rfl h (fun h => ?_) (fun h => ?_)
    · refine v_iconst 32 cx dX12_fewest_31 ic_0 rfl ?_
      refine v_istore_n 33 (fun a4 => [(2, .int a4), (0, .ref (oX E 0)), (1, .int p1)]) cx dX12_fewest_32 rfl (by decide) (fun _ => rfl) rfl h (fun a4 h => ?_)
      refine v_iconst 34 cx dX12_fewest_33 ic_0 rfl ?_
      refine v_istore_n 35 (fun a5 => [(3, .int a5), (2, .int a4), (0, .ref (oX E 0)), (1, .int p1)]) cx dX12_fewest_34 rfl (by decide) (fun _ => rfl) rfl h (fun a5 h => ?_)
      refine v_iconst 36 cx dX12_fewest_35 ic_0 rfl ?_
      refine v_istore 38 (fun a6 => [(4, .int a6), (3, .int a5), (2, .int a4), (0, .ref (oX E 0)), (1, .int p1)]) cx dX12_fewest_36 (by decide) (fun _ => rfl) rfl h (fun a6 h => ?_)
      refine v_lsub (lv' := [(0, .ref (oX E 0)), (1, .int p1), (2, .int a4), (3, .int a5), (4, .int a6)]) [3, 4, 2, 1, 0] rfl ?_
      refine v_loop (s0 := (a4, a5, a6, s2)) (V_X12_fewest_L38 C E p1) (K_X12_fewest_L38 C E p1) h (b_X12_fewest_L38 cx p1) (fun r15 h => ?_)
      show Vat C (wM E) 6 75 [(0, .ref (oX E 0)), (1, .int p1), (2, .int r15.1), (3, .int r15.2.1)] [] r15.2.2
      refine v_iload_n 76 1 cx dX12_fewest_75 rfl rfl rfl ?_
      refine v_if_ne 83 79 cx dX12_fewest_76 (by decide) rfl h (fun h => ?_) (fun h => ?_)
      · refine v_aload_n 84 0 cx dX12_fewest_83 rfl rfl rfl ?_
        refine v_getI 87 0 9 cx dX12_fewest_84 iX12 (wMo_0 E r15.2.2) rfl (Nat.le_of_ble_eq_true rfl) rfl kf_X12_118 rfl rfl h (fun v16 h => ?_)
        refine v_iload_n 88 3 cx dX12_fewest_87 rfl rfl rfl ?_
        refine v_imul 89 cx dX12_fewest_88 rfl ?_
        exact hk _ _ _ _ (Option.some.inj h) dX12_fewest_89
      · refine v_iload_n 80 2 cx dX12_fewest_79 rfl rfl rfl ?_
        refine v_goto 89 cx dX12_fewest_80 (by decide) ?_
        exact hk _ _ _ _ (Option.some.inj h) dX12_fewest_89
    · refine v_aload_n 25 0 cx dX12_fewest_24 rfl rfl rfl ?_
      refine v_bipush 27 cx dX12_fewest_25 bp_m9 rfl ?_
      refine v_callVI 30 0 cx dX12_fewest_27 km_X12_124 ca_X12_no (wMo_0 E s2) rfl (c_X12_no C.2.1 E s2 (-9) ) rfl (by decide) rfl (Nat.le_of_ble_eq_true rfl) rfl h (fun v18 s17 h => ?_)
      exact hk _ _ _ _ (Option.some.inj h) dX12_fewest_30
  · refine v_aload_n 8 0 cx dX12_fewest_7 rfl rfl rfl ?_
    refine v_bipush 10 cx dX12_fewest_8 bp_m2 rfl ?_
    refine v_callVI 13 0 cx dX12_fewest_10 km_X12_124 ca_X12_no (wMo_0 E st) rfl (c_X12_no C.2.1 E st (-2) ) rfl (by decide) rfl (Nat.le_of_ble_eq_true rfl) rfl h (fun v20 s19 h => ?_)
    exact hk _ _ _ _ (Option.some.inj h) dX12_fewest_13
def V_X12_filled_L50 (C : Cm) (E : Ev) (x1 : Int32) (x2 : Int32) (s : (Int32 × Int32 × Sg)) : Prop := Vat C (wM E) 6 50 [(0, .ref (oX E 0)), (1, .int x1), (2, .int x2), (3, .int s.1), (4, .int s.2.1)] [] s.2.2
def K_X12_filled_L50 (C : Cm) (E : Ev) (x1 : Int32) (x2 : Int32) : (Int32 × Sg) → Prop := (fun r : (Int32 × Sg) => Vat C (wM E) 6 130 [(3, .int r.1)] [] r.2)
def V_X12_filled_L62 (C : Cm) (E : Ev) (x1 : Int32) (x2 : Int32) (x4 : Int32) (s : (Int32 × Int32 × Sg)) : Prop := Vat C (wM E) 6 62 [(0, .ref (oX E 0)), (1, .int x1), (2, .int x2), (3, .int s.1), (4, .int x4), (5, .int s.2.1)] [] s.2.2
def K_X12_filled_L62 (C : Cm) (E : Ev) (x1 : Int32) (x2 : Int32) (x4 : Int32) : (Int32 × Sg) → Prop := (fun r : (Int32 × Sg) => Vat C (wM E) 6 124 [(0, .ref (oX E 0)), (1, .int x1), (2, .int x2), (3, .int r.1), (4, .int x4)] [] r.2)
set_option maxHeartbeats 4000000 in
set_option maxRecDepth 100000 in
theorem b_X12_filled_L62 {C : Cm} {E : Ev} (cx : Cx C (tyE E) cX12_filled RX12 6 1 25) (x1 : Int32) (x2 : Int32) (x4 : Int32) : ∀ (s : (Int32 × Int32 × Sg)) (out : (Int32 × Int32 × Sg) ⊕ (Int32 × Sg)), m_X12_filled_L62 x1 x2 x4 s.1 s.2.1 s.2.2 = some out → Sum.elim (V_X12_filled_L62 C E x1 x2 x4) (K_X12_filled_L62 C E x1 x2 x4) out → V_X12_filled_L62 C E x1 x2 x4 s := by
  intro s out h hk
  obtain ⟨x3, x5, st⟩ := s
  show Vat C (wM E) 6 62 [(0, .ref (oX E 0)), (1, .int x1), (2, .int x2), (3, .int x3), (4, .int x4), (5, .int x5)] [] st
  replace h : m_X12_filled_L62 x1 x2 x4 x3 x5 st = some out := h
  unfold m_X12_filled_L62 at h
  refine v_iload 64 5 cx dX12_filled_62 rfl rfl ?_
  refine v_bipush 66 cx dX12_filled_64 bp_8 rfl ?_
  refine v_icmp_ge 124 69 cx dX12_filled_66 (by decide) rfl h (fun h => ?_) (fun h => ?_)
  · cases h
    have hk : Vat C (wM E) 6 124 [(0, .ref (oX E 0)), (1, .int x1), (2, .int x2), (3, .int x3), (4, .int x4)] [] st := hk
    exact v_lsub (lv' := [(0, .ref (oX E 0)), (1, .int x1), (2, .int x2), (3, .int x3), (4, .int x4)]) [0, 1, 2, 3, 4] rfl (hk)
  · refine v_aload_n 70 0 cx dX12_filled_69 rfl rfl rfl ?_
    refine v_get 73 0 2 cx dX12_filled_70 iX12 (wMo_0 E st) rfl (Nat.le_of_ble_eq_true rfl) rfl kf_X12_16 rfl rfl ?_
    refine v_iload 75 4 cx dX12_filled_73 rfl rfl ?_
    refine v_iald 76 3 0 cx dX12_filled_75 (wMa_0_2 E st) rfl rfl h (fun v13 h => ?_)
    refine v_iload_n 77 1 cx dX12_filled_76 rfl rfl rfl ?_
    refine v_icmp_ne 124 80 cx dX12_filled_77 (by decide) rfl h (fun h => ?_) (fun h => ?_)
    · cases h
      have hk : Vat C (wM E) 6 124 [(0, .ref (oX E 0)), (1, .int x1), (2, .int x2), (3, .int x3), (4, .int x4)] [] st := hk
      exact v_lsub (lv' := [(0, .ref (oX E 0)), (1, .int x1), (2, .int x2), (3, .int x3), (4, .int x4)]) [0, 1, 2, 3, 4] rfl (hk)
    · refine v_iload_n 81 3 cx dX12_filled_80 rfl rfl rfl ?_
      refine v_aload_n 82 0 cx dX12_filled_81 rfl rfl rfl ?_
      refine v_get 85 0 28 cx dX12_filled_82 iX12 (wMo_0 E st) rfl (Nat.le_of_ble_eq_true rfl) rfl kf_X12_81 rfl rfl ?_
      refine v_iload 87 4 cx dX12_filled_85 rfl rfl ?_
      refine v_iald 88 24 0 cx dX12_filled_87 (wMa_0_28 E st) rfl rfl h (fun v14 h => ?_)
      refine v_iload 90 5 cx dX12_filled_88 rfl rfl ?_
      refine v_iadd 91 cx dX12_filled_90 rfl ?_
      refine v_aload_n 92 0 cx dX12_filled_91 rfl rfl rfl ?_
      refine v_getI 95 0 27 cx dX12_filled_92 iX12 (wMo_0 E st) rfl (Nat.le_of_ble_eq_true rfl) rfl kf_X12_121 rfl rfl h (fun v15 h => ?_)
      refine v_irem 96 cx dX12_filled_95 rfl h (fun h => ?_)
      refine v_iload_n 97 2 cx dX12_filled_96 rfl rfl rfl ?_
      refine v_icmp_ne 115 100 cx dX12_filled_97 (by decide) rfl h (fun h => ?_) (fun h => ?_)
      · refine v_iconst 116 cx dX12_filled_115 ic_0 rfl ?_
        refine v_iadd 117 cx dX12_filled_116 rfl ?_
        refine v_istore_n 118 (fun a16 => [(3, .int a16), (0, .ref (oX E 0)), (1, .int x1), (2, .int x2), (4, .int x4), (5, .int x5)]) cx dX12_filled_117 rfl (by decide) (fun _ => rfl) rfl h (fun a16 h => ?_)
        refine v_iinc 121 5 (fun a17 => [(5, .int a17), (3, .int a16), (0, .ref (oX E 0)), (1, .int x1), (2, .int x2), (4, .int x4)]) cx dX12_filled_118 rfl ic_1 (by decide) (fun _ => rfl) rfl h (fun a17 h => ?_)
        refine v_goto 62 cx dX12_filled_121 (by decide) ?_
        cases h
        have hk : Vat C (wM E) 6 62 [(0, .ref (oX E 0)), (1, .int x1), (2, .int x2), (3, .int a16), (4, .int x4), (5, .int a17)] [] st := hk
        exact v_lsub (lv' := [(0, .ref (oX E 0)), (1, .int x1), (2, .int x2), (3, .int a16), (4, .int x4), (5, .int a17)]) [2, 3, 4, 1, 5, 0] rfl (hk)
      · refine v_aload_n 101 0 cx dX12_filled_100 rfl rfl rfl ?_
        refine v_get 104 0 3 cx dX12_filled_101 iX12 (wMo_0 E st) rfl (Nat.le_of_ble_eq_true rfl) rfl kf_X12_19 rfl rfl ?_
        refine v_iload 106 4 cx dX12_filled_104 rfl rfl ?_
        refine v_iald 107 4 0 cx dX12_filled_106 (wMa_0_3 E st) rfl rfl h (fun v18 h => ?_)
        refine v_iload 109 5 cx dX12_filled_107 rfl rfl ?_
        refine v_ishr 110 cx dX12_filled_109 rfl ?_
        refine v_iconst 111 cx dX12_filled_110 ic_1 rfl ?_
        refine v_iand 112 cx dX12_filled_111 rfl ?_
        refine v_goto 116 cx dX12_filled_112 (by decide) ?_
        refine v_iadd 117 cx dX12_filled_116 rfl ?_
        refine v_istore_n 118 (fun a19 => [(3, .int a19), (0, .ref (oX E 0)), (1, .int x1), (2, .int x2), (4, .int x4), (5, .int x5)]) cx dX12_filled_117 rfl (by decide) (fun _ => rfl) rfl h (fun a19 h => ?_)
        refine v_iinc 121 5 (fun a20 => [(5, .int a20), (3, .int a19), (0, .ref (oX E 0)), (1, .int x1), (2, .int x2), (4, .int x4)]) cx dX12_filled_118 rfl ic_1 (by decide) (fun _ => rfl) rfl h (fun a20 h => ?_)
        refine v_goto 62 cx dX12_filled_121 (by decide) ?_
        cases h
        have hk : Vat C (wM E) 6 62 [(0, .ref (oX E 0)), (1, .int x1), (2, .int x2), (3, .int a19), (4, .int x4), (5, .int a20)] [] st := hk
        exact v_lsub (lv' := [(0, .ref (oX E 0)), (1, .int x1), (2, .int x2), (3, .int a19), (4, .int x4), (5, .int a20)]) [2, 3, 4, 1, 5, 0] rfl (hk)
set_option maxHeartbeats 4000000 in
set_option maxRecDepth 100000 in
theorem b_X12_filled_L50 {C : Cm} {E : Ev} (cx : Cx C (tyE E) cX12_filled RX12 6 1 25) (x1 : Int32) (x2 : Int32) : ∀ (s : (Int32 × Int32 × Sg)) (out : (Int32 × Int32 × Sg) ⊕ (Int32 × Sg)), m_X12_filled_L50 x1 x2 s.1 s.2.1 s.2.2 = some out → Sum.elim (V_X12_filled_L50 C E x1 x2) (K_X12_filled_L50 C E x1 x2) out → V_X12_filled_L50 C E x1 x2 s := by
  intro s out h hk
  obtain ⟨x3, x4, st⟩ := s
  show Vat C (wM E) 6 50 [(0, .ref (oX E 0)), (1, .int x1), (2, .int x2), (3, .int x3), (4, .int x4)] [] st
  replace h : m_X12_filled_L50 x1 x2 x3 x4 st = some out := h
  unfold m_X12_filled_L50 at h
  refine v_iload 52 4 cx dX12_filled_50 rfl rfl ?_
  refine v_aload_n 53 0 cx dX12_filled_52 rfl rfl rfl ?_
  refine v_getI 56 0 9 cx dX12_filled_53 iX12 (wMo_0 E st) rfl (Nat.le_of_ble_eq_true rfl) rfl kf_X12_118 rfl rfl h (fun v11 h => ?_)
  refine v_icmp_ge 130 59 cx dX12_filled_56 (by decide) rfl h (fun h => ?_) (fun h => ?_)
  · cases h
    have hk : Vat C (wM E) 6 130 [(3, .int x3)] [] st := hk
    exact v_lsub (lv' := [(3, .int x3)]) [3] rfl (hk)
  · refine v_iconst 60 cx dX12_filled_59 ic_0 rfl ?_
    refine v_istore 62 (fun a12 => [(5, .int a12), (0, .ref (oX E 0)), (1, .int x1), (2, .int x2), (3, .int x3), (4, .int x4)]) cx dX12_filled_60 (by decide) (fun _ => rfl) rfl h (fun a12 h => ?_)
    refine v_lsub (lv' := [(0, .ref (oX E 0)), (1, .int x1), (2, .int x2), (3, .int x3), (4, .int x4), (5, .int a12)]) [1, 2, 3, 4, 5, 0] rfl ?_
    refine v_loop (s0 := (x3, a12, st)) (V_X12_filled_L62 C E x1 x2 x4) (K_X12_filled_L62 C E x1 x2 x4) h (b_X12_filled_L62 cx x1 x2 x4) (fun r21 h => ?_)
    show Vat C (wM E) 6 124 [(0, .ref (oX E 0)), (1, .int x1), (2, .int x2), (3, .int r21.1), (4, .int x4)] [] r21.2
    refine v_iinc 127 4 (fun a22 => [(4, .int a22), (0, .ref (oX E 0)), (1, .int x1), (2, .int x2), (3, .int r21.1)]) cx dX12_filled_124 rfl ic_1 (by decide) (fun _ => rfl) rfl h (fun a22 h => ?_)
    refine v_goto 50 cx dX12_filled_127 (by decide) ?_
    cases h
    have hk : Vat C (wM E) 6 50 [(0, .ref (oX E 0)), (1, .int x1), (2, .int x2), (3, .int r21.1), (4, .int a22)] [] r21.2 := hk
    exact v_lsub (lv' := [(0, .ref (oX E 0)), (1, .int x1), (2, .int x2), (3, .int r21.1), (4, .int a22)]) [1, 2, 3, 4, 0] rfl (hk)
set_option maxHeartbeats 4000000 in
set_option maxRecDepth 100000 in
theorem c_X12_filled (l : Launch) (E : Ev) (st : Sg) (p1 : Int32) (p2 : Int32) : ∀ q, m_X12_filled p1 p2 st = some q → CtI l (wM E) (tyE E) yX12_filled cX12_filled 6 (some .int) 1 25 [.ref (oX E 0), .int p1, .int p2] st q := by
  intro q h
  refine ctI_of (lv0 := [(0, .ref (oX E 0)), (1, .int p1), (2, .int p2)]) (by decide) rfl (Nat.le_of_ble_eq_true rfl) (fun C hC cx hk => ?_)
  replace cx : Cx C (tyE E) cX12_filled RX12 6 1 25 := cx
  unfold m_X12_filled at h
  refine v_aload_n 1 0 cx dX12_filled_0 rfl rfl rfl ?_
  refine v_getI 4 0 27 cx dX12_filled_1 iX12 (wMo_0 E st) rfl (Nat.le_of_ble_eq_true rfl) rfl kf_X12_121 rfl rfl h (fun v1 h => ?_)
  refine v_if_ne 14 7 cx dX12_filled_4 (by decide) rfl h (fun h => ?_) (fun h => ?_)
  · refine v_iload_n 15 1 cx dX12_filled_14 rfl rfl rfl ?_
    refine v_i2l 16 cx dX12_filled_15 rfl ?_
    refine v_lconst 17 cx dX12_filled_16 lc_0 rfl ?_
    refine v_ldc2 20 cx dX12_filled_17 kc_X12_162 rfl ?_
    refine v_callSI 23 cx dX12_filled_20 km_X12_137 ca_X12_isIn (c_X12_isIn C.2.1 E st ((p1 : Int32).toInt64) 0 5 ) rfl (by decide) rfl (Nat.le_of_ble_eq_true rfl) rfl h (fun v3 s2 h => ?_)
    refine v_if_eq 38 26 cx dX12_filled_23 (by decide) rfl h (fun h => ?_) (fun h => ?_)
    · refine v_aload_n 39 0 cx dX12_filled_38 rfl rfl rfl ?_
      refine v_bipush 41 cx dX12_filled_39 bp_m3 rfl ?_
      refine v_callVI 44 0 cx dX12_filled_41 km_X12_124 ca_X12_no (wMo_0 E s2) rfl (c_X12_no C.2.1 E s2 (-3) ) rfl (by decide) rfl (Nat.le_of_ble_eq_true rfl) rfl h (fun v5 s4 h => ?_)
      exact hk _ _ _ _ (Option.some.inj h) dX12_filled_44
    · refine v_iload_n 27 2 cx dX12_filled_26 rfl rfl rfl ?_
      refine v_if_lt 38 30 cx dX12_filled_27 (by decide) rfl h (fun h => ?_) (fun h => ?_)
      · refine v_aload_n 39 0 cx dX12_filled_38 rfl rfl rfl ?_
        refine v_bipush 41 cx dX12_filled_39 bp_m3 rfl ?_
        refine v_callVI 44 0 cx dX12_filled_41 km_X12_124 ca_X12_no (wMo_0 E s2) rfl (c_X12_no C.2.1 E s2 (-3) ) rfl (by decide) rfl (Nat.le_of_ble_eq_true rfl) rfl h (fun v7 s6 h => ?_)
        exact hk _ _ _ _ (Option.some.inj h) dX12_filled_44
      · refine v_iload_n 31 2 cx dX12_filled_30 rfl rfl rfl ?_
        refine v_aload_n 32 0 cx dX12_filled_31 rfl rfl rfl ?_
        refine v_getI 35 0 27 cx dX12_filled_32 iX12 (wMo_0 E s2) rfl (Nat.le_of_ble_eq_true rfl) rfl kf_X12_121 rfl rfl h (fun v8 h => ?_)
        refine v_icmp_lt 45 38 cx dX12_filled_35 (by decide) rfl h (fun h => ?_) (fun h => ?_)
        · refine v_iconst 46 cx dX12_filled_45 ic_0 rfl ?_
          refine v_istore_n 47 (fun a9 => [(3, .int a9), (0, .ref (oX E 0)), (1, .int p1), (2, .int p2)]) cx dX12_filled_46 rfl (by decide) (fun _ => rfl) rfl h (fun a9 h => ?_)
          refine v_iconst 48 cx dX12_filled_47 ic_0 rfl ?_
          refine v_istore 50 (fun a10 => [(4, .int a10), (3, .int a9), (0, .ref (oX E 0)), (1, .int p1), (2, .int p2)]) cx dX12_filled_48 (by decide) (fun _ => rfl) rfl h (fun a10 h => ?_)
          refine v_lsub (lv' := [(0, .ref (oX E 0)), (1, .int p1), (2, .int p2), (3, .int a9), (4, .int a10)]) [2, 3, 4, 1, 0] rfl ?_
          refine v_loop (s0 := (a9, a10, s2)) (V_X12_filled_L50 C E p1 p2) (K_X12_filled_L50 C E p1 p2) h (b_X12_filled_L50 cx p1 p2) (fun r23 h => ?_)
          show Vat C (wM E) 6 130 [(3, .int r23.1)] [] r23.2
          refine v_iload_n 131 0 cx dX12_filled_130 rfl rfl rfl ?_
          exact hk _ _ _ _ (Option.some.inj h) dX12_filled_131
        · refine v_aload_n 39 0 cx dX12_filled_38 rfl rfl rfl ?_
          refine v_bipush 41 cx dX12_filled_39 bp_m3 rfl ?_
          refine v_callVI 44 0 cx dX12_filled_41 km_X12_124 ca_X12_no (wMo_0 E s2) rfl (c_X12_no C.2.1 E s2 (-3) ) rfl (by decide) rfl (Nat.le_of_ble_eq_true rfl) rfl h (fun v25 s24 h => ?_)
          exact hk _ _ _ _ (Option.some.inj h) dX12_filled_44
  · refine v_aload_n 8 0 cx dX12_filled_7 rfl rfl rfl ?_
    refine v_bipush 10 cx dX12_filled_8 bp_m2 rfl ?_
    refine v_callVI 13 0 cx dX12_filled_10 km_X12_124 ca_X12_no (wMo_0 E st) rfl (c_X12_no C.2.1 E st (-2) ) rfl (by decide) rfl (Nat.le_of_ble_eq_true rfl) rfl h (fun v27 s26 h => ?_)
    exact hk _ _ _ _ (Option.some.inj h) dX12_filled_13
set_option maxHeartbeats 4000000 in
set_option maxRecDepth 100000 in
theorem c_X12_first (l : Launch) (E : Ev) (st : Sg) (p1 : Int32) (p2 : Int64) : ∀ q, m_X12_first p1 p2 st = some q → CtI l (wM E) (tyE E) yX12_first cX12_first 4 (some .int) 1 21 [.ref (oX E 0), .int p1, .long p2] st q := by
  intro q h
  refine ctI_of (lv0 := [(0, .ref (oX E 0)), (1, .int p1), (2, .long p2)]) (by decide) rfl (Nat.le_of_ble_eq_true rfl) (fun C hC cx hk => ?_)
  replace cx : Cx C (tyE E) cX12_first RX12 4 1 21 := cx
  unfold m_X12_first at h
  refine v_aload_n 1 0 cx dX12_first_0 rfl rfl rfl ?_
  refine v_iload_n 2 1 cx dX12_first_1 rfl rfl rfl ?_
  refine v_callVI 5 0 cx dX12_first_2 km_X12_159 ca_X12_isAct (wMo_0 E st) rfl (c_X12_isAct C.2.1 E st p1 ) rfl (by decide) rfl (Nat.le_of_ble_eq_true rfl) rfl h (fun v2 s1 h => ?_)
  refine v_if_ne 15 8 cx dX12_first_5 (by decide) rfl h (fun h => ?_) (fun h => ?_)
  · refine v_aload_n 16 0 cx dX12_first_15 rfl rfl rfl ?_
    refine v_get 19 0 7 cx dX12_first_16 iX12 (wMo_0 E s1) rfl (Nat.le_of_ble_eq_true rfl) rfl kf_X12_31 rfl rfl ?_
    refine v_iload_n 20 1 cx dX12_first_19 rfl rfl rfl ?_
    refine v_lload_n 21 2 cx dX12_first_20 rfl rfl rfl ?_
    refine v_last 22 8 1 cx dX12_first_21 (wMa_0_7 E s1) rfl (wMt_0_7 E s1) rfl h (fun s3 h => ?_)
    refine v_iconst 23 cx dX12_first_22 ic_1 rfl ?_
    exact hk _ _ _ _ (Option.some.inj h) dX12_first_23
  · refine v_aload_n 9 0 cx dX12_first_8 rfl rfl rfl ?_
    refine v_bipush 11 cx dX12_first_9 bp_m3 rfl ?_
    refine v_callVI 14 0 cx dX12_first_11 km_X12_124 ca_X12_no (wMo_0 E s1) rfl (c_X12_no C.2.1 E s1 (-3) ) rfl (by decide) rfl (Nat.le_of_ble_eq_true rfl) rfl h (fun v5 s4 h => ?_)
    exact hk _ _ _ _ (Option.some.inj h) dX12_first_14
def V_X12_fits_L2 (C : Cm) (E : Ev) (x1 : Int32) (x2 : Int32) (s : (Int32 × Sg)) : Prop := Vat C (wM E) 6 2 [(0, .ref (oX E 0)), (1, .int x1), (2, .int x2), (3, .int s.1)] [] s.2
def K_X12_fits_L2 (C : Cm) (E : Ev) (x1 : Int32) (x2 : Int32) : ((Sg) ⊕ (Sg)) → Prop := (Sum.elim (fun r : (Sg) => Vat C (wM E) 6 144 [] [] r) (fun r : (Sg) => Vat C (wM E) 6 130 [] [] r))
def V_X12_fits_L11 (C : Cm) (E : Ev) (x1 : Int32) (x2 : Int32) (x3 : Int32) (s : (Int32 × Sg)) : Prop := Vat C (wM E) 6 11 [(0, .ref (oX E 0)), (1, .int x1), (2, .int x2), (3, .int x3), (4, .int s.1)] [] s.2
def K_X12_fits_L11 (C : Cm) (E : Ev) (x1 : Int32) (x2 : Int32) (x3 : Int32) : (Sg) → Prop := (fun r : (Sg) => Vat C (wM E) 6 31 [(0, .ref (oX E 0)), (1, .int x1), (2, .int x2), (3, .int x3)] [] r)
set_option maxHeartbeats 4000000 in
set_option maxRecDepth 100000 in
theorem b_X12_fits_L11 {C : Cm} {E : Ev} (cx : Cx C (tyE E) cX12_fits RX12 6 0 0) (x1 : Int32) (x2 : Int32) (x3 : Int32) : ∀ (s : (Int32 × Sg)) (out : (Int32 × Sg) ⊕ (Sg)), m_X12_fits_L11 x1 x2 x3 s.1 s.2 = some out → Sum.elim (V_X12_fits_L11 C E x1 x2 x3) (K_X12_fits_L11 C E x1 x2 x3) out → V_X12_fits_L11 C E x1 x2 x3 s := by
  intro s out h hk
  obtain ⟨x4, st⟩ := s
  show Vat C (wM E) 6 11 [(0, .ref (oX E 0)), (1, .int x1), (2, .int x2), (3, .int x3), (4, .int x4)] [] st
  replace h : m_X12_fits_L11 x1 x2 x3 x4 st = some out := h
  unfold m_X12_fits_L11 at h
  refine v_iload 13 4 cx dX12_fits_11 rfl rfl ?_
  refine v_iload_n 14 2 cx dX12_fits_13 rfl rfl rfl ?_
  refine v_icmp_ge 31 17 cx dX12_fits_14 (by decide) rfl h (fun h => ?_) (fun h => ?_)
  · cases h
    have hk : Vat C (wM E) 6 31 [(0, .ref (oX E 0)), (1, .int x1), (2, .int x2), (3, .int x3)] [] st := hk
    exact v_lsub (lv' := [(0, .ref (oX E 0)), (1, .int x1), (2, .int x2), (3, .int x3)]) [0, 1, 2, 3] rfl (hk)
  · refine v_aload_n 18 0 cx dX12_fits_17 rfl rfl rfl ?_
    refine v_get 21 0 35 cx dX12_fits_18 iX12 (wMo_0 E st) rfl (Nat.le_of_ble_eq_true rfl) rfl kf_X12_99 rfl rfl ?_
    refine v_iload 23 4 cx dX12_fits_21 rfl rfl ?_
    refine v_iconst 24 cx dX12_fits_23 ic_0 rfl ?_
    refine v_iast 25 30 0 cx dX12_fits_24 (wMa_0_35 E st) rfl (wMt_0_35 E st) rfl h (fun s3 h => ?_)
    refine v_iinc 28 4 (fun a4 => [(4, .int a4), (0, .ref (oX E 0)), (1, .int x1), (2, .int x2), (3, .int x3)]) cx dX12_fits_25 rfl ic_1 (by decide) (fun _ => rfl) rfl h (fun a4 h => ?_)
    refine v_goto 11 cx dX12_fits_28 (by decide) ?_
    cases h
    have hk : Vat C (wM E) 6 11 [(0, .ref (oX E 0)), (1, .int x1), (2, .int x2), (3, .int x3), (4, .int a4)] [] s3 := hk
    exact v_lsub (lv' := [(0, .ref (oX E 0)), (1, .int x1), (2, .int x2), (3, .int x3), (4, .int a4)]) [1, 2, 3, 4, 0] rfl (hk)
def V_X12_fits_L34 (C : Cm) (E : Ev) (x1 : Int32) (x2 : Int32) (x3 : Int32) (s : (Int32 × Sg)) : Prop := Vat C (wM E) 6 34 [(0, .ref (oX E 0)), (1, .int x1), (2, .int x2), (3, .int x3), (4, .int s.1)] [] s.2
def K_X12_fits_L34 (C : Cm) (E : Ev) (x1 : Int32) (x2 : Int32) (x3 : Int32) : (Sg) → Prop := (fun r : (Sg) => Vat C (wM E) 6 105 [(0, .ref (oX E 0)), (1, .int x1), (2, .int x2), (3, .int x3)] [] r)
def V_X12_fits_L43 (C : Cm) (E : Ev) (x1 : Int32) (x2 : Int32) (x3 : Int32) (x4 : Int32) (s : (Int32 × Sg)) : Prop := Vat C (wM E) 6 43 [(0, .ref (oX E 0)), (1, .int x1), (2, .int x2), (3, .int x3), (4, .int x4), (5, .int s.1)] [] s.2
def K_X12_fits_L43 (C : Cm) (E : Ev) (x1 : Int32) (x2 : Int32) (x3 : Int32) (x4 : Int32) : (Sg) → Prop := (fun r : (Sg) => Vat C (wM E) 6 99 [(0, .ref (oX E 0)), (1, .int x1), (2, .int x2), (3, .int x3), (4, .int x4)] [] r)
set_option maxHeartbeats 4000000 in
set_option maxRecDepth 100000 in
theorem b_X12_fits_L43 {C : Cm} {E : Ev} (cx : Cx C (tyE E) cX12_fits RX12 6 0 0) (x1 : Int32) (x2 : Int32) (x3 : Int32) (x4 : Int32) : ∀ (s : (Int32 × Sg)) (out : (Int32 × Sg) ⊕ (Sg)), m_X12_fits_L43 x1 x2 x3 x4 s.1 s.2 = some out → Sum.elim (V_X12_fits_L43 C E x1 x2 x3 x4) (K_X12_fits_L43 C E x1 x2 x3 x4) out → V_X12_fits_L43 C E x1 x2 x3 x4 s := by
  intro s out h hk
  obtain ⟨x5, st⟩ := s
  show Vat C (wM E) 6 43 [(0, .ref (oX E 0)), (1, .int x1), (2, .int x2), (3, .int x3), (4, .int x4), (5, .int x5)] [] st
  replace h : m_X12_fits_L43 x1 x2 x3 x4 x5 st = some out := h
  unfold m_X12_fits_L43 at h
  refine v_iload 45 5 cx dX12_fits_43 rfl rfl ?_
  refine v_bipush 47 cx dX12_fits_45 bp_8 rfl ?_
  refine v_icmp_ge 99 50 cx dX12_fits_47 (by decide) rfl h (fun h => ?_) (fun h => ?_)
  · cases h
    have hk : Vat C (wM E) 6 99 [(0, .ref (oX E 0)), (1, .int x1), (2, .int x2), (3, .int x3), (4, .int x4)] [] st := hk
    exact v_lsub (lv' := [(0, .ref (oX E 0)), (1, .int x1), (2, .int x2), (3, .int x3), (4, .int x4)]) [0, 1, 2, 3, 4] rfl (hk)
  · refine v_aload_n 51 0 cx dX12_fits_50 rfl rfl rfl ?_
    refine v_get 54 0 2 cx dX12_fits_51 iX12 (wMo_0 E st) rfl (Nat.le_of_ble_eq_true rfl) rfl kf_X12_16 rfl rfl ?_
    refine v_iload 56 4 cx dX12_fits_54 rfl rfl ?_
    refine v_iald 57 3 0 cx dX12_fits_56 (wMa_0_2 E st) rfl rfl h (fun v8 h => ?_)
    refine v_iload_n 58 3 cx dX12_fits_57 rfl rfl rfl ?_
    refine v_icmp_ne 99 61 cx dX12_fits_58 (by decide) rfl h (fun h => ?_) (fun h => ?_)
    · cases h
      have hk : Vat C (wM E) 6 99 [(0, .ref (oX E 0)), (1, .int x1), (2, .int x2), (3, .int x3), (4, .int x4)] [] st := hk
      exact v_lsub (lv' := [(0, .ref (oX E 0)), (1, .int x1), (2, .int x2), (3, .int x3), (4, .int x4)]) [0, 1, 2, 3, 4] rfl (hk)
    · refine v_aload_n 62 0 cx dX12_fits_61 rfl rfl rfl ?_
      refine v_get 65 0 35 cx dX12_fits_62 iX12 (wMo_0 E st) rfl (Nat.le_of_ble_eq_true rfl) rfl kf_X12_99 rfl rfl ?_
      refine v_aload_n 66 0 cx dX12_fits_65 rfl rfl rfl ?_
      refine v_get 69 0 34 cx dX12_fits_66 iX12 (wMo_0 E st) rfl (Nat.le_of_ble_eq_true rfl) rfl kf_X12_96 rfl rfl ?_
      refine v_iload 71 4 cx dX12_fits_69 rfl rfl ?_
      refine v_iald 72 29 0 cx dX12_fits_71 (wMa_0_34 E st) rfl rfl h (fun v9 h => ?_)
      refine v_iload 74 5 cx dX12_fits_72 rfl rfl ?_
      refine v_iadd 75 cx dX12_fits_74 rfl ?_
      refine v_iload_n 76 2 cx dX12_fits_75 rfl rfl rfl ?_
      refine v_irem 77 cx dX12_fits_76 rfl h (fun h => ?_)
      refine v_dup2 78 cx dX12_fits_77 rfl rfl rfl ?_
      refine v_iald 79 30 0 cx dX12_fits_78 (wMa_0_35 E st) rfl rfl h (fun v10 h => ?_)
      refine v_aload_n 80 0 cx dX12_fits_79 rfl rfl rfl ?_
      refine v_get 83 0 3 cx dX12_fits_80 iX12 (wMo_0 E st) rfl (Nat.le_of_ble_eq_true rfl) rfl kf_X12_19 rfl rfl ?_
      refine v_iload 85 4 cx dX12_fits_83 rfl rfl ?_
      refine v_iald 86 4 0 cx dX12_fits_85 (wMa_0_3 E st) rfl rfl h (fun v11 h => ?_)
      refine v_iload 88 5 cx dX12_fits_86 rfl rfl ?_
      refine v_ishr 89 cx dX12_fits_88 rfl ?_
      refine v_iconst 90 cx dX12_fits_89 ic_1 rfl ?_
      refine v_iand 91 cx dX12_fits_90 rfl ?_
      refine v_iadd 92 cx dX12_fits_91 rfl ?_
      refine v_iast 93 30 0 cx dX12_fits_92 (wMa_0_35 E st) rfl (wMt_0_35 E st) rfl h (fun s12 h => ?_)
      refine v_iinc 96 5 (fun a13 => [(5, .int a13), (0, .ref (oX E 0)), (1, .int x1), (2, .int x2), (3, .int x3), (4, .int x4)]) cx dX12_fits_93 rfl ic_1 (by decide) (fun _ => rfl) rfl h (fun a13 h => ?_)
      refine v_goto 43 cx dX12_fits_96 (by decide) ?_
      cases h
      have hk : Vat C (wM E) 6 43 [(0, .ref (oX E 0)), (1, .int x1), (2, .int x2), (3, .int x3), (4, .int x4), (5, .int a13)] [] s12 := hk
      exact v_lsub (lv' := [(0, .ref (oX E 0)), (1, .int x1), (2, .int x2), (3, .int x3), (4, .int x4), (5, .int a13)]) [1, 2, 3, 4, 5, 0] rfl (hk)
set_option maxHeartbeats 4000000 in
set_option maxRecDepth 100000 in
theorem b_X12_fits_L34 {C : Cm} {E : Ev} (cx : Cx C (tyE E) cX12_fits RX12 6 0 0) (x1 : Int32) (x2 : Int32) (x3 : Int32) : ∀ (s : (Int32 × Sg)) (out : (Int32 × Sg) ⊕ (Sg)), m_X12_fits_L34 x1 x2 x3 s.1 s.2 = some out → Sum.elim (V_X12_fits_L34 C E x1 x2 x3) (K_X12_fits_L34 C E x1 x2 x3) out → V_X12_fits_L34 C E x1 x2 x3 s := by
  intro s out h hk
  obtain ⟨x4, st⟩ := s
  show Vat C (wM E) 6 34 [(0, .ref (oX E 0)), (1, .int x1), (2, .int x2), (3, .int x3), (4, .int x4)] [] st
  replace h : m_X12_fits_L34 x1 x2 x3 x4 st = some out := h
  unfold m_X12_fits_L34 at h
  refine v_iload 36 4 cx dX12_fits_34 rfl rfl ?_
  refine v_iload_n 37 1 cx dX12_fits_36 rfl rfl rfl ?_
  refine v_icmp_ge 105 40 cx dX12_fits_37 (by decide) rfl h (fun h => ?_) (fun h => ?_)
  · cases h
    have hk : Vat C (wM E) 6 105 [(0, .ref (oX E 0)), (1, .int x1), (2, .int x2), (3, .int x3)] [] st := hk
    exact v_lsub (lv' := [(0, .ref (oX E 0)), (1, .int x1), (2, .int x2), (3, .int x3)]) [0, 1, 2, 3] rfl (hk)
  · refine v_iconst 41 cx dX12_fits_40 ic_0 rfl ?_
    refine v_istore 43 (fun a7 => [(5, .int a7), (0, .ref (oX E 0)), (1, .int x1), (2, .int x2), (3, .int x3), (4, .int x4)]) cx dX12_fits_41 (by decide) (fun _ => rfl) rfl h (fun a7 h => ?_)
    refine v_lsub (lv' := [(0, .ref (oX E 0)), (1, .int x1), (2, .int x2), (3, .int x3), (4, .int x4), (5, .int a7)]) [1, 2, 3, 4, 5, 0] rfl ?_
    refine v_loop (s0 := (a7, st)) (V_X12_fits_L43 C E x1 x2 x3 x4) (K_X12_fits_L43 C E x1 x2 x3 x4) h (b_X12_fits_L43 cx x1 x2 x3 x4) (fun r14 h => ?_)
    show Vat C (wM E) 6 99 [(0, .ref (oX E 0)), (1, .int x1), (2, .int x2), (3, .int x3), (4, .int x4)] [] r14
    refine v_iinc 102 4 (fun a15 => [(4, .int a15), (0, .ref (oX E 0)), (1, .int x1), (2, .int x2), (3, .int x3)]) cx dX12_fits_99 rfl ic_1 (by decide) (fun _ => rfl) rfl h (fun a15 h => ?_)
    refine v_goto 34 cx dX12_fits_102 (by decide) ?_
    cases h
    have hk : Vat C (wM E) 6 34 [(0, .ref (oX E 0)), (1, .int x1), (2, .int x2), (3, .int x3), (4, .int a15)] [] r14 := hk
    exact v_lsub (lv' := [(0, .ref (oX E 0)), (1, .int x1), (2, .int x2), (3, .int x3), (4, .int a15)]) [1, 2, 3, 4, 0] rfl (hk)
def V_X12_fits_L108 (C : Cm) (E : Ev) (x1 : Int32) (x2 : Int32) (x3 : Int32) (s : (Int32 × Sg)) : Prop := Vat C (wM E) 6 108 [(0, .ref (oX E 0)), (1, .int x1), (2, .int x2), (3, .int x3), (4, .int s.1)] [] s.2
def K_X12_fits_L108 (C : Cm) (E : Ev) (x1 : Int32) (x2 : Int32) (x3 : Int32) : ((Sg) ⊕ (Sg)) → Prop := (Sum.elim (fun r : (Sg) => Vat C (wM E) 6 138 [(0, .ref (oX E 0)), (1, .int x1), (2, .int x2), (3, .int x3)] [] r) (fun r : (Sg) => Vat C (wM E) 6 130 [] [] r))
set_option maxHeartbeats 4000000 in
set_option maxRecDepth 100000 in
theorem b_X12_fits_L108 {C : Cm} {E : Ev} (cx : Cx C (tyE E) cX12_fits RX12 6 0 0) (x1 : Int32) (x2 : Int32) (x3 : Int32) : ∀ (s : (Int32 × Sg)) (out : (Int32 × Sg) ⊕ ((Sg) ⊕ (Sg))), m_X12_fits_L108 x1 x2 x3 s.1 s.2 = some out → Sum.elim (V_X12_fits_L108 C E x1 x2 x3) (K_X12_fits_L108 C E x1 x2 x3) out → V_X12_fits_L108 C E x1 x2 x3 s := by
  intro s out h hk
  obtain ⟨x4, st⟩ := s
  show Vat C (wM E) 6 108 [(0, .ref (oX E 0)), (1, .int x1), (2, .int x2), (3, .int x3), (4, .int x4)] [] st
  replace h : m_X12_fits_L108 x1 x2 x3 x4 st = some out := h
  unfold m_X12_fits_L108 at h
  refine v_iload 110 4 cx dX12_fits_108 rfl rfl ?_
  refine v_iload_n 111 2 cx dX12_fits_110 rfl rfl rfl ?_
  refine v_icmp_ge 138 114 cx dX12_fits_111 (by decide) rfl h (fun h => ?_) (fun h => ?_)
  · cases h
    have hk : Vat C (wM E) 6 138 [(0, .ref (oX E 0)), (1, .int x1), (2, .int x2), (3, .int x3)] [] st := hk
    exact v_lsub (lv' := [(0, .ref (oX E 0)), (1, .int x1), (2, .int x2), (3, .int x3)]) [0, 1, 2, 3] rfl (hk)
  · refine v_aload_n 115 0 cx dX12_fits_114 rfl rfl rfl ?_
    refine v_get 118 0 35 cx dX12_fits_115 iX12 (wMo_0 E st) rfl (Nat.le_of_ble_eq_true rfl) rfl kf_X12_99 rfl rfl ?_
    refine v_iload 120 4 cx dX12_fits_118 rfl rfl ?_
    refine v_iald 121 30 0 cx dX12_fits_120 (wMa_0_35 E st) rfl rfl h (fun v18 h => ?_)
    refine v_aload_n 122 0 cx dX12_fits_121 rfl rfl rfl ?_
    refine v_get 125 0 10 cx dX12_fits_122 iX12 (wMo_0 E st) rfl (Nat.le_of_ble_eq_true rfl) rfl kf_X12_38 rfl rfl ?_
    refine v_iload_n 126 3 cx dX12_fits_125 rfl rfl rfl ?_
    refine v_iald 127 10 0 cx dX12_fits_126 (wMa_0_10 E st) rfl rfl h (fun v19 h => ?_)
    refine v_icmp_le 132 130 cx dX12_fits_127 (by decide) rfl h (fun h => ?_) (fun h => ?_)
    · refine v_iinc 135 4 (fun a20 => [(4, .int a20), (0, .ref (oX E 0)), (1, .int x1), (2, .int x2), (3, .int x3)]) cx dX12_fits_132 rfl ic_1 (by decide) (fun _ => rfl) rfl h (fun a20 h => ?_)
      refine v_goto 108 cx dX12_fits_135 (by decide) ?_
      cases h
      have hk : Vat C (wM E) 6 108 [(0, .ref (oX E 0)), (1, .int x1), (2, .int x2), (3, .int x3), (4, .int a20)] [] st := hk
      exact v_lsub (lv' := [(0, .ref (oX E 0)), (1, .int x1), (2, .int x2), (3, .int x3), (4, .int a20)]) [1, 2, 3, 4, 0] rfl (hk)
    · cases h
      have hk : Vat C (wM E) 6 130 [] [] st := hk
      exact v_lsub (lv' := []) [] rfl (hk)
set_option maxHeartbeats 4000000 in
set_option maxRecDepth 100000 in
theorem b_X12_fits_L2 {C : Cm} {E : Ev} (cx : Cx C (tyE E) cX12_fits RX12 6 0 0) (x1 : Int32) (x2 : Int32) : ∀ (s : (Int32 × Sg)) (out : (Int32 × Sg) ⊕ ((Sg) ⊕ (Sg))), m_X12_fits_L2 x1 x2 s.1 s.2 = some out → Sum.elim (V_X12_fits_L2 C E x1 x2) (K_X12_fits_L2 C E x1 x2) out → V_X12_fits_L2 C E x1 x2 s := by
  intro s out h hk
  obtain ⟨x3, st⟩ := s
  show Vat C (wM E) 6 2 [(0, .ref (oX E 0)), (1, .int x1), (2, .int x2), (3, .int x3)] [] st
  replace h : m_X12_fits_L2 x1 x2 x3 st = some out := h
  unfold m_X12_fits_L2 at h
  refine v_iload_n 3 3 cx dX12_fits_2 rfl rfl rfl ?_
  refine v_bipush 5 cx dX12_fits_3 bp_6 rfl ?_
  refine v_icmp_ge 144 8 cx dX12_fits_5 (by decide) rfl h (fun h => ?_) (fun h => ?_)
  · cases h
    have hk : Vat C (wM E) 6 144 [] [] st := hk
    exact v_lsub (lv' := []) [] rfl (hk)
  · refine v_iconst 9 cx dX12_fits_8 ic_0 rfl ?_
    refine v_istore 11 (fun a2 => [(4, .int a2), (0, .ref (oX E 0)), (1, .int x1), (2, .int x2), (3, .int x3)]) cx dX12_fits_9 (by decide) (fun _ => rfl) rfl h (fun a2 h => ?_)
    refine v_lsub (lv' := [(0, .ref (oX E 0)), (1, .int x1), (2, .int x2), (3, .int x3), (4, .int a2)]) [1, 2, 3, 4, 0] rfl ?_
    refine v_loop (s0 := (a2, st)) (V_X12_fits_L11 C E x1 x2 x3) (K_X12_fits_L11 C E x1 x2 x3) h (b_X12_fits_L11 cx x1 x2 x3) (fun r5 h => ?_)
    show Vat C (wM E) 6 31 [(0, .ref (oX E 0)), (1, .int x1), (2, .int x2), (3, .int x3)] [] r5
    refine v_iconst 32 cx dX12_fits_31 ic_0 rfl ?_
    refine v_istore 34 (fun a6 => [(4, .int a6), (0, .ref (oX E 0)), (1, .int x1), (2, .int x2), (3, .int x3)]) cx dX12_fits_32 (by decide) (fun _ => rfl) rfl h (fun a6 h => ?_)
    refine v_lsub (lv' := [(0, .ref (oX E 0)), (1, .int x1), (2, .int x2), (3, .int x3), (4, .int a6)]) [1, 2, 3, 4, 0] rfl ?_
    refine v_loop (s0 := (a6, r5)) (V_X12_fits_L34 C E x1 x2 x3) (K_X12_fits_L34 C E x1 x2 x3) h (b_X12_fits_L34 cx x1 x2 x3) (fun r16 h => ?_)
    show Vat C (wM E) 6 105 [(0, .ref (oX E 0)), (1, .int x1), (2, .int x2), (3, .int x3)] [] r16
    refine v_iconst 106 cx dX12_fits_105 ic_0 rfl ?_
    refine v_istore 108 (fun a17 => [(4, .int a17), (0, .ref (oX E 0)), (1, .int x1), (2, .int x2), (3, .int x3)]) cx dX12_fits_106 (by decide) (fun _ => rfl) rfl h (fun a17 h => ?_)
    refine v_lsub (lv' := [(0, .ref (oX E 0)), (1, .int x1), (2, .int x2), (3, .int x3), (4, .int a17)]) [1, 2, 3, 4, 0] rfl ?_
    refine v_loop (s0 := (a17, r16)) (V_X12_fits_L108 C E x1 x2 x3) (K_X12_fits_L108 C E x1 x2 x3) h (b_X12_fits_L108 cx x1 x2 x3) (fun r21 h => ?_)
    rcases r21 with r21 | r21
    · rw [Sum.elim_inl] at h
      show Vat C (wM E) 6 138 [(0, .ref (oX E 0)), (1, .int x1), (2, .int x2), (3, .int x3)] [] r21
      refine v_iinc 141 3 (fun a22 => [(3, .int a22), (0, .ref (oX E 0)), (1, .int x1), (2, .int x2)]) cx dX12_fits_138 rfl ic_1 (by decide) (fun _ => rfl) rfl h (fun a22 h => ?_)
      refine v_goto 2 cx dX12_fits_141 (by decide) ?_
      cases h
      have hk : Vat C (wM E) 6 2 [(0, .ref (oX E 0)), (1, .int x1), (2, .int x2), (3, .int a22)] [] r21 := hk
      exact v_lsub (lv' := [(0, .ref (oX E 0)), (1, .int x1), (2, .int x2), (3, .int a22)]) [1, 2, 3, 0] rfl (hk)
    · rw [Sum.elim_inr] at h
      show Vat C (wM E) 6 130 [] [] r21
      cases h
      have hk : Vat C (wM E) 6 130 [] [] r21 := hk
      exact hk
set_option maxHeartbeats 4000000 in
set_option maxRecDepth 100000 in
theorem c_X12_fits (l : Launch) (E : Ev) (st : Sg) (p1 : Int32) (p2 : Int32) : ∀ q, m_X12_fits p1 p2 st = some q → CtI l (wM E) (tyE E) yX12_fits cX12_fits 6 (some .boolean) 0 0 [.ref (oX E 0), .int p1, .int p2] st q := by
  intro q h
  refine ctZ_of (lv0 := [(0, .ref (oX E 0)), (1, .int p1), (2, .int p2)]) (by decide) rfl (Nat.le_of_ble_eq_true rfl) (fun C hC cx hk => ?_)
  replace cx : Cx C (tyE E) cX12_fits RX12 6 0 0 := cx
  unfold m_X12_fits at h
  refine v_iconst 1 cx dX12_fits_0 ic_0 rfl ?_
  refine v_istore_n 2 (fun a1 => [(3, .int a1), (0, .ref (oX E 0)), (1, .int p1), (2, .int p2)]) cx dX12_fits_1 rfl (by decide) (fun _ => rfl) rfl h (fun a1 h => ?_)
  refine v_lsub (lv' := [(0, .ref (oX E 0)), (1, .int p1), (2, .int p2), (3, .int a1)]) [1, 2, 3, 0] rfl ?_
  refine v_loop (s0 := (a1, st)) (V_X12_fits_L2 C E p1 p2) (K_X12_fits_L2 C E p1 p2) h (b_X12_fits_L2 cx p1 p2) (fun r23 h => ?_)
  rcases r23 with r23 | r23
  · rw [Sum.elim_inl] at h
    show Vat C (wM E) 6 144 [] [] r23
    refine v_iconst 145 cx dX12_fits_144 ic_1 rfl ?_
    exact hk _ _ _ _ (Option.some.inj h) (Or.inr rfl) dX12_fits_145
  · rw [Sum.elim_inr] at h
    show Vat C (wM E) 6 130 [] [] r23
    refine v_iconst 131 cx dX12_fits_130 ic_0 rfl ?_
    exact hk _ _ _ _ (Option.some.inj h) (Or.inl rfl) dX12_fits_131
set_option maxHeartbeats 4000000 in
set_option maxRecDepth 100000 in
theorem c_X12_forge (l : Launch) (E : Ev) (st : Sg) (p1 : Int32) (p2 : Int32) : ∀ q, m_X12_forge p1 p2 st = some q → CtI l (wM E) (tyE E) yX12_forge cX12_forge 4 (some .int) 1 21 [.ref (oX E 0), .int p1, .int p2] st q := by
  intro q h
  refine ctI_of (lv0 := [(0, .ref (oX E 0)), (1, .int p1), (2, .int p2)]) (by decide) rfl (Nat.le_of_ble_eq_true rfl) (fun C hC cx hk => ?_)
  replace cx : Cx C (tyE E) cX12_forge RX12 4 1 21 := cx
  unfold m_X12_forge at h
  refine v_aload_n 1 0 cx dX12_forge_0 rfl rfl rfl ?_
  refine v_getI 4 0 27 cx dX12_forge_1 iX12 (wMo_0 E st) rfl (Nat.le_of_ble_eq_true rfl) rfl kf_X12_121 rfl rfl h (fun v1 h => ?_)
  refine v_if_ne 14 7 cx dX12_forge_4 (by decide) rfl h (fun h => ?_) (fun h => ?_)
  · refine v_aload_n 15 0 cx dX12_forge_14 rfl rfl rfl ?_
    refine v_iload_n 16 1 cx dX12_forge_15 rfl rfl rfl ?_
    refine v_callVI 19 0 cx dX12_forge_16 km_X12_159 ca_X12_isAct (wMo_0 E st) rfl (c_X12_isAct C.2.1 E st p1 ) rfl (by decide) rfl (Nat.le_of_ble_eq_true rfl) rfl h (fun v3 s2 h => ?_)
    refine v_if_ne 29 22 cx dX12_forge_19 (by decide) rfl h (fun h => ?_) (fun h => ?_)
    · refine v_iload_n 30 2 cx dX12_forge_29 rfl rfl rfl ?_
      refine v_if_ge 40 33 cx dX12_forge_30 (by decide) rfl h (fun h => ?_) (fun h => ?_)
      · refine v_iload_n 41 2 cx dX12_forge_40 rfl rfl rfl ?_
        refine v_sipush 44 cx dX12_forge_41 sp_3000 rfl ?_
        refine v_icmp_le 54 47 cx dX12_forge_44 (by decide) rfl h (fun h => ?_) (fun h => ?_)
        · refine v_aload_n 55 0 cx dX12_forge_54 rfl rfl rfl ?_
          refine v_get 58 0 31 cx dX12_forge_55 iX12 (wMo_0 E s2) rfl (Nat.le_of_ble_eq_true rfl) rfl kf_X12_90 rfl rfl ?_
          refine v_iload_n 59 1 cx dX12_forge_58 rfl rfl rfl ?_
          refine v_iald 60 27 0 cx dX12_forge_59 (wMa_0_31 E s2) rfl rfl h (fun v4 h => ?_)
          refine v_istore_n 61 (fun a5 => [(3, .int a5), (0, .ref (oX E 0)), (1, .int p1), (2, .int p2)]) cx dX12_forge_60 rfl (by decide) (fun _ => rfl) rfl h (fun a5 h => ?_)
          refine v_aload_n 62 1 cx dX12_forge_61 rfl rfl rfl ?_
          refine v_get 65 0 31 cx dX12_forge_62 iX12 (wMo_0 E s2) rfl (Nat.le_of_ble_eq_true rfl) rfl kf_X12_90 rfl rfl ?_
          refine v_iload_n 66 2 cx dX12_forge_65 rfl rfl rfl ?_
          refine v_iload_n 67 3 cx dX12_forge_66 rfl rfl rfl ?_
          refine v_iast 68 27 0 cx dX12_forge_67 (wMa_0_31 E s2) rfl (wMt_0_31 E s2) rfl h (fun s6 h => ?_)
          refine v_iload_n 69 0 cx dX12_forge_68 rfl rfl rfl ?_
          exact hk _ _ _ _ (Option.some.inj h) dX12_forge_69
        · refine v_aload_n 48 0 cx dX12_forge_47 rfl rfl rfl ?_
          refine v_bipush 50 cx dX12_forge_48 bp_m9 rfl ?_
          refine v_callVI 53 0 cx dX12_forge_50 km_X12_124 ca_X12_no (wMo_0 E s2) rfl (c_X12_no C.2.1 E s2 (-9) ) rfl (by decide) rfl (Nat.le_of_ble_eq_true rfl) rfl h (fun v8 s7 h => ?_)
          exact hk _ _ _ _ (Option.some.inj h) dX12_forge_53
      · refine v_aload_n 34 0 cx dX12_forge_33 rfl rfl rfl ?_
        refine v_bipush 36 cx dX12_forge_34 bp_m4 rfl ?_
        refine v_callVI 39 0 cx dX12_forge_36 km_X12_124 ca_X12_no (wMo_0 E s2) rfl (c_X12_no C.2.1 E s2 (-4) ) rfl (by decide) rfl (Nat.le_of_ble_eq_true rfl) rfl h (fun v10 s9 h => ?_)
        exact hk _ _ _ _ (Option.some.inj h) dX12_forge_39
    · refine v_aload_n 23 0 cx dX12_forge_22 rfl rfl rfl ?_
      refine v_bipush 25 cx dX12_forge_23 bp_m3 rfl ?_
      refine v_callVI 28 0 cx dX12_forge_25 km_X12_124 ca_X12_no (wMo_0 E s2) rfl (c_X12_no C.2.1 E s2 (-3) ) rfl (by decide) rfl (Nat.le_of_ble_eq_true rfl) rfl h (fun v12 s11 h => ?_)
      exact hk _ _ _ _ (Option.some.inj h) dX12_forge_28
  · refine v_aload_n 8 0 cx dX12_forge_7 rfl rfl rfl ?_
    refine v_bipush 10 cx dX12_forge_8 bp_m2 rfl ?_
    refine v_callVI 13 0 cx dX12_forge_10 km_X12_124 ca_X12_no (wMo_0 E st) rfl (c_X12_no C.2.1 E st (-2) ) rfl (by decide) rfl (Nat.le_of_ble_eq_true rfl) rfl h (fun v14 s13 h => ?_)
    exact hk _ _ _ _ (Option.some.inj h) dX12_forge_13
set_option maxHeartbeats 4000000 in
set_option maxRecDepth 100000 in
theorem j_X12_get_19 {C : Cm} {E : Ev} (cx : Cx C (tyE E) cX12_get RX12 5 2 48) (x1 : Int32) (x2 : Int32) (t0 : Int32) (st : Sg) (out : Int64 × Sg) (h : m_X12_get_19 x1 x2 t0 st = some out) (hk : ReL C (wM E) cX12_get 5 out) : Vat C (wM E) 5 19 [(0, .ref (oX E 0)), (1, .int x1), (2, .int x2)] [.int t0] st := by
  unfold m_X12_get_19 at h
  refine v_istore_n 20 (fun a3 => [(3, .int a3), (0, .ref (oX E 0)), (1, .int x1), (2, .int x2)]) cx dX12_get_19 rfl (by decide) (fun _ => rfl) rfl h (fun a3 h => ?_)
  refine v_iload_n 21 0 cx dX12_get_20 rfl rfl rfl ?_
  refine v_if_ne 36 24 cx dX12_get_21 (by decide) rfl h (fun h => ?_) (fun h => ?_)
  · refine v_aload_n 37 1 cx dX12_get_36 rfl rfl rfl ?_
    refine v_iload_n 38 0 cx dX12_get_37 rfl rfl rfl ?_
    refine v_callVI 41 0 cx dX12_get_38 km_X12_124 ca_X12_no (wMo_0 E st) rfl (c_X12_no C.2.1 E st a3 ) rfl (by decide) rfl (Nat.le_of_ble_eq_true rfl) rfl h (fun v5 s4 h => ?_)
    refine v_istore 43 (fun a6 => [(4, .int a6), (3, .int a3), (0, .ref (oX E 0)), (1, .int x1), (2, .int x2)]) cx dX12_get_41 (by decide) (fun _ => rfl) rfl h (fun a6 h => ?_)
    refine v_lconst 44 cx dX12_get_43 lc_0 rfl ?_
    exact hk _ _ _ _ (Option.some.inj h) dX12_get_44
  · refine v_aload_n 25 1 cx dX12_get_24 rfl rfl rfl ?_
    refine v_get 28 0 21 cx dX12_get_25 iX12 (wMo_0 E st) rfl (Nat.le_of_ble_eq_true rfl) rfl kf_X12_65 rfl rfl ?_
    refine v_bipush 30 cx dX12_get_28 bp_40 rfl ?_
    refine v_iload_n 31 2 cx dX12_get_30 rfl rfl rfl ?_
    refine v_imul 32 cx dX12_get_31 rfl ?_
    refine v_iload_n 33 3 cx dX12_get_32 rfl rfl rfl ?_
    refine v_iadd 34 cx dX12_get_33 rfl ?_
    refine v_lald 35 19 1 cx dX12_get_34 (wMa_0_21 E st) rfl rfl h (fun v7 h => ?_)
    exact hk _ _ _ _ (Option.some.inj h) dX12_get_35
set_option maxHeartbeats 4000000 in
set_option maxRecDepth 100000 in
theorem c_X12_get (l : Launch) (E : Ev) (st : Sg) (p1 : Int32) (p2 : Int32) : ∀ q, m_X12_get p1 p2 st = some q → CtL l (wM E) (tyE E) yX12_get cX12_get 5 (some .long) 2 48 [.ref (oX E 0), .int p1, .int p2] st q := by
  intro q h
  refine ctL_of (lv0 := [(0, .ref (oX E 0)), (1, .int p1), (2, .int p2)]) (by decide) rfl (Nat.le_of_ble_eq_true rfl) (fun C hC cx hk => ?_)
  replace cx : Cx C (tyE E) cX12_get RX12 5 2 48 := cx
  unfold m_X12_get at h
  refine v_iload_n 1 1 cx dX12_get_0 rfl rfl rfl ?_
  refine v_callSI 4 cx dX12_get_1 km_X12_249 ca_X12_isSlot (c_X12_isSlot C.2.1 E st p1 ) rfl (by decide) rfl (Nat.le_of_ble_eq_true rfl) rfl h (fun v2 s1 h => ?_)
  refine v_if_eq 17 7 cx dX12_get_4 (by decide) rfl h (fun h => ?_) (fun h => ?_)
  · refine v_bipush 19 cx dX12_get_17 bp_m3 rfl ?_
    exact j_X12_get_19 cx p1 p2 (-3) s1 _ h hk
  · refine v_aload_n 8 0 cx dX12_get_7 rfl rfl rfl ?_
    refine v_iload_n 9 1 cx dX12_get_8 rfl rfl rfl ?_
    refine v_iload_n 10 2 cx dX12_get_9 rfl rfl rfl ?_
    refine v_i2l 11 cx dX12_get_10 rfl ?_
    refine v_callVI 14 0 cx dX12_get_11 km_X12_254 ca_X12_why (wMo_0 E s1) rfl (c_X12_why C.2.1 E s1 p1 ((p2 : Int32).toInt64) ) rfl (by decide) rfl (Nat.le_of_ble_eq_true rfl) rfl h (fun v9 s8 h => ?_)
    refine v_goto 19 cx dX12_get_14 (by decide) ?_
    exact j_X12_get_19 cx p1 p2 v9 s8 _ h hk
def V_X12_holds_L2 (C : Cm) (E : Ev) (x1 : Int32) (x2 : Int32) (s : (Int32 × Sg)) : Prop := Vat C (wM E) 9 2 [(0, .ref (oX E 0)), (1, .int x1), (2, .int x2), (3, .int s.1)] [] s.2
def K_X12_holds_L2 (C : Cm) (E : Ev) (x1 : Int32) (x2 : Int32) : (Sg) → Prop := (fun r : (Sg) => Vat C (wM E) 9 20 [(0, .ref (oX E 0)), (1, .int x1), (2, .int x2)] [] r)
set_option maxHeartbeats 4000000 in
set_option maxRecDepth 100000 in
theorem b_X12_holds_L2 {C : Cm} {E : Ev} (cx : Cx C (tyE E) cX12_holds RX12 9 1 21) (x1 : Int32) (x2 : Int32) : ∀ (s : (Int32 × Sg)) (out : (Int32 × Sg) ⊕ (Sg)), m_X12_holds_L2 x1 x2 s.1 s.2 = some out → Sum.elim (V_X12_holds_L2 C E x1 x2) (K_X12_holds_L2 C E x1 x2) out → V_X12_holds_L2 C E x1 x2 s := by
  intro s out h hk
  obtain ⟨x3, st⟩ := s
  show Vat C (wM E) 9 2 [(0, .ref (oX E 0)), (1, .int x1), (2, .int x2), (3, .int x3)] [] st
  replace h : m_X12_holds_L2 x1 x2 x3 st = some out := h
  unfold m_X12_holds_L2 at h
  refine v_iload_n 3 3 cx dX12_holds_2 rfl rfl rfl ?_
  refine v_iload_n 4 1 cx dX12_holds_3 rfl rfl rfl ?_
  refine v_icmp_ge 20 7 cx dX12_holds_4 (by decide) rfl h (fun h => ?_) (fun h => ?_)
  · cases h
    have hk : Vat C (wM E) 9 20 [(0, .ref (oX E 0)), (1, .int x1), (2, .int x2)] [] st := hk
    exact v_lsub (lv' := [(0, .ref (oX E 0)), (1, .int x1), (2, .int x2)]) [0, 1, 2] rfl (hk)
  · refine v_aload_n 8 0 cx dX12_holds_7 rfl rfl rfl ?_
    refine v_get 11 0 33 cx dX12_holds_8 iX12 (wMo_0 E st) rfl (Nat.le_of_ble_eq_true rfl) rfl kf_X12_93 rfl rfl ?_
    refine v_iload_n 12 3 cx dX12_holds_11 rfl rfl rfl ?_
    refine v_iconst 13 cx dX12_holds_12 ic_0 rfl ?_
    refine v_iast 14 28 0 cx dX12_holds_13 (wMa_0_33 E st) rfl (wMt_0_33 E st) rfl h (fun s2 h => ?_)
    refine v_iinc 17 3 (fun a3 => [(3, .int a3), (0, .ref (oX E 0)), (1, .int x1), (2, .int x2)]) cx dX12_holds_14 rfl ic_1 (by decide) (fun _ => rfl) rfl h (fun a3 h => ?_)
    refine v_goto 2 cx dX12_holds_17 (by decide) ?_
    cases h
    have hk : Vat C (wM E) 9 2 [(0, .ref (oX E 0)), (1, .int x1), (2, .int x2), (3, .int a3)] [] s2 := hk
    exact v_lsub (lv' := [(0, .ref (oX E 0)), (1, .int x1), (2, .int x2), (3, .int a3)]) [1, 2, 3, 0] rfl (hk)
def V_X12_holds_L22 (C : Cm) (E : Ev) (x1 : Int32) (x2 : Int32) (s : (Int32 × Sg)) : Prop := Vat C (wM E) 9 22 [(0, .ref (oX E 0)), (1, .int x1), (2, .int x2), (3, .int s.1)] [] s.2
def K_X12_holds_L22 (C : Cm) (E : Ev) (x1 : Int32) (x2 : Int32) : ((Sg) ⊕ (Sg)) → Prop := (Sum.elim (fun r : (Sg) => Vat C (wM E) 9 166 [] [] r) (fun r : (Sg) => Vat C (wM E) 9 158 [] [] r))
def V_X12_holds_L33 (C : Cm) (E : Ev) (x1 : Int32) (x2 : Int32) (x3 : Int32) (s : (Int32 × Int32 × Sg)) : Prop := Vat C (wM E) 9 33 [(0, .ref (oX E 0)), (1, .int x1), (2, .int x2), (3, .int x3), (4, .int s.1), (5, .int s.2.1)] [] s.2.2
def K_X12_holds_L33 (C : Cm) (E : Ev) (x1 : Int32) (x2 : Int32) (x3 : Int32) : (Int32 × Sg) → Prop := (fun r : (Int32 × Sg) => Vat C (wM E) 9 153 [(0, .ref (oX E 0)), (1, .int x1), (2, .int x2), (3, .int x3), (4, .int r.1)] [] r.2)
set_option maxHeartbeats 4000000 in
set_option maxRecDepth 100000 in
theorem b_X12_holds_L33 {C : Cm} {E : Ev} (cx : Cx C (tyE E) cX12_holds RX12 9 1 21) (x1 : Int32) (x2 : Int32) (x3 : Int32) : ∀ (s : (Int32 × Int32 × Sg)) (out : (Int32 × Int32 × Sg) ⊕ (Int32 × Sg)), m_X12_holds_L33 x1 x2 x3 s.1 s.2.1 s.2.2 = some out → Sum.elim (V_X12_holds_L33 C E x1 x2 x3) (K_X12_holds_L33 C E x1 x2 x3) out → V_X12_holds_L33 C E x1 x2 x3 s := by
  intro s out h hk
  obtain ⟨x4, x5, st⟩ := s
  show Vat C (wM E) 9 33 [(0, .ref (oX E 0)), (1, .int x1), (2, .int x2), (3, .int x3), (4, .int x4), (5, .int x5)] [] st
  replace h : m_X12_holds_L33 x1 x2 x3 x4 x5 st = some out := h
  unfold m_X12_holds_L33 at h
  refine v_iload 35 5 cx dX12_holds_33 rfl rfl ?_
  refine v_aload_n 36 0 cx dX12_holds_35 rfl rfl rfl ?_
  refine v_getI 39 0 20 cx dX12_holds_36 iX12 (wMo_0 E st) rfl (Nat.le_of_ble_eq_true rfl) rfl kf_X12_180 rfl rfl h (fun v8 h => ?_)
  refine v_icmp_ge 153 42 cx dX12_holds_39 (by decide) rfl h (fun h => ?_) (fun h => ?_)
  · cases h
    have hk : Vat C (wM E) 9 153 [(0, .ref (oX E 0)), (1, .int x1), (2, .int x2), (3, .int x3), (4, .int x4)] [] st := hk
    exact v_lsub (lv' := [(0, .ref (oX E 0)), (1, .int x1), (2, .int x2), (3, .int x3), (4, .int x4)]) [0, 1, 2, 3, 4] rfl (hk)
  · refine v_aload_n 43 0 cx dX12_holds_42 rfl rfl rfl ?_
    refine v_get 46 0 16 cx dX12_holds_43 iX12 (wMo_0 E st) rfl (Nat.le_of_ble_eq_true rfl) rfl kf_X12_53 rfl rfl ?_
    refine v_iload 48 5 cx dX12_holds_46 rfl rfl ?_
    refine v_iald 49 15 0 cx dX12_holds_48 (wMa_0_16 E st) rfl rfl h (fun v9 h => ?_)
    refine v_istore 51 (fun a10 => [(6, .int a10), (0, .ref (oX E 0)), (1, .int x1), (2, .int x2), (3, .int x3), (4, .int x4), (5, .int x5)]) cx dX12_holds_49 (by decide) (fun _ => rfl) rfl h (fun a10 h => ?_)
    refine v_aload_n 52 1 cx dX12_holds_51 rfl rfl rfl ?_
    refine v_get 55 0 17 cx dX12_holds_52 iX12 (wMo_0 E st) rfl (Nat.le_of_ble_eq_true rfl) rfl kf_X12_56 rfl rfl ?_
    refine v_iload 57 6 cx dX12_holds_55 rfl rfl ?_
    refine v_iald 58 16 0 cx dX12_holds_57 (wMa_0_17 E st) rfl rfl h (fun v11 h => ?_)
    refine v_istore 60 (fun a12 => [(7, .int a12), (6, .int a10), (0, .ref (oX E 0)), (1, .int x1), (2, .int x2), (3, .int x3), (4, .int x4), (5, .int x5)]) cx dX12_holds_58 (by decide) (fun _ => rfl) rfl h (fun a12 h => ?_)
    refine v_iload 62 1 cx dX12_holds_60 rfl rfl ?_
    refine v_iload_n 63 3 cx dX12_holds_62 rfl rfl rfl ?_
    refine v_icmp_ge 147 66 cx dX12_holds_63 (by decide) rfl h (fun h => ?_) (fun h => ?_)
    · refine v_iinc 150 7 (fun a13 => [(5, .int a13), (7, .int a12), (6, .int a10), (0, .ref (oX E 0)), (1, .int x1), (2, .int x2), (3, .int x3), (4, .int x4)]) cx dX12_holds_147 rfl ic_1 (by decide) (fun _ => rfl) rfl h (fun a13 h => ?_)
      refine v_goto 33 cx dX12_holds_150 (by decide) ?_
      cases h
      have hk : Vat C (wM E) 9 33 [(0, .ref (oX E 0)), (1, .int x1), (2, .int x2), (3, .int x3), (4, .int x4), (5, .int a13)] [] st := hk
      exact v_lsub (lv' := [(0, .ref (oX E 0)), (1, .int x1), (2, .int x2), (3, .int x3), (4, .int x4), (5, .int a13)]) [3, 4, 5, 6, 7, 0] rfl (hk)
    · refine v_iload 68 0 cx dX12_holds_66 rfl rfl ?_
      refine v_iload_n 69 3 cx dX12_holds_68 rfl rfl rfl ?_
      refine v_icmp_lt 75 72 cx dX12_holds_69 (by decide) rfl h (fun h => ?_) (fun h => ?_)
      · refine v_aload_n 76 2 cx dX12_holds_75 rfl rfl rfl ?_
        refine v_get 79 0 33 cx dX12_holds_76 iX12 (wMo_0 E st) rfl (Nat.le_of_ble_eq_true rfl) rfl kf_X12_93 rfl rfl ?_
        refine v_iload 81 1 cx dX12_holds_79 rfl rfl ?_
        refine v_iald 82 28 0 cx dX12_holds_81 (wMa_0_33 E st) rfl rfl h (fun v14 h => ?_)
        refine v_aload_n 83 2 cx dX12_holds_82 rfl rfl rfl ?_
        refine v_get 86 0 19 cx dX12_holds_83 iX12 (wMo_0 E st) rfl (Nat.le_of_ble_eq_true rfl) rfl kf_X12_62 rfl rfl ?_
        refine v_iload 88 7 cx dX12_holds_86 rfl rfl ?_
        refine v_iald 89 18 0 cx dX12_holds_88 (wMa_0_19 E st) rfl rfl h (fun v15 h => ?_)
        refine v_isub 90 cx dX12_holds_89 rfl ?_
        refine v_aload_n 91 2 cx dX12_holds_90 rfl rfl rfl ?_
        refine v_get 94 0 34 cx dX12_holds_91 iX12 (wMo_0 E st) rfl (Nat.le_of_ble_eq_true rfl) rfl kf_X12_96 rfl rfl ?_
        refine v_iload 96 0 cx dX12_holds_94 rfl rfl ?_
        refine v_iald 97 29 0 cx dX12_holds_96 (wMa_0_34 E st) rfl rfl h (fun v16 h => ?_)
        refine v_aload_n 98 2 cx dX12_holds_97 rfl rfl rfl ?_
        refine v_get 101 0 34 cx dX12_holds_98 iX12 (wMo_0 E st) rfl (Nat.le_of_ble_eq_true rfl) rfl kf_X12_96 rfl rfl ?_
        refine v_iload 103 1 cx dX12_holds_101 rfl rfl ?_
        refine v_iald 104 29 0 cx dX12_holds_103 (wMa_0_34 E st) rfl rfl h (fun v17 h => ?_)
        refine v_isub 105 cx dX12_holds_104 rfl ?_
        refine v_aload_n 106 2 cx dX12_holds_105 rfl rfl rfl ?_
        refine v_get 109 0 18 cx dX12_holds_106 iX12 (wMo_0 E st) rfl (Nat.le_of_ble_eq_true rfl) rfl kf_X12_59 rfl rfl ?_
        refine v_iload 111 7 cx dX12_holds_109 rfl rfl ?_
        refine v_iald 112 17 0 cx dX12_holds_111 (wMa_0_18 E st) rfl rfl h (fun v18 h => ?_)
        refine v_isub 113 cx dX12_holds_112 rfl ?_
        refine v_iload_n 114 4 cx dX12_holds_113 rfl rfl rfl ?_
        refine v_callSI 117 cx dX12_holds_114 km_X12_217 ca_X12_cut (c_X12_cut C.2.1 E st ((v16 - v17) - v18) x2 ) rfl (by decide) rfl (Nat.le_of_ble_eq_true rfl) rfl h (fun v20 s19 h => ?_)
        refine v_isub 118 cx dX12_holds_117 rfl ?_
        refine v_istore 120 (fun a21 => [(8, .int a21), (7, .int a12), (6, .int a10), (0, .ref (oX E 0)), (1, .int x1), (2, .int x2), (3, .int x3), (4, .int x4), (5, .int x5)]) cx dX12_holds_118 (by decide) (fun _ => rfl) rfl h (fun a21 h => ?_)
        refine v_aload_n 121 3 cx dX12_holds_120 rfl rfl rfl ?_
        refine v_get 124 0 33 cx dX12_holds_121 iX12 (wMo_0 E s19) rfl (Nat.le_of_ble_eq_true rfl) rfl kf_X12_93 rfl rfl ?_
        refine v_iload 126 1 cx dX12_holds_124 rfl rfl ?_
        refine v_iald 127 28 0 cx dX12_holds_126 (wMa_0_33 E s19) rfl rfl h (fun v22 h => ?_)
        refine v_iload 129 0 cx dX12_holds_127 rfl rfl ?_
        refine v_icmp_lt 135 132 cx dX12_holds_129 (by decide) rfl h (fun h => ?_) (fun h => ?_)
        · refine v_aload_n 136 3 cx dX12_holds_135 rfl rfl rfl ?_
          refine v_get 139 0 33 cx dX12_holds_136 iX12 (wMo_0 E s19) rfl (Nat.le_of_ble_eq_true rfl) rfl kf_X12_93 rfl rfl ?_
          refine v_iload 141 1 cx dX12_holds_139 rfl rfl ?_
          refine v_iload 143 0 cx dX12_holds_141 rfl rfl ?_
          refine v_iast 144 28 0 cx dX12_holds_143 (wMa_0_33 E s19) rfl (wMt_0_33 E s19) rfl h (fun s23 h => ?_)
          refine v_iconst 145 cx dX12_holds_144 ic_1 rfl ?_
          refine v_istore 147 (fun a24 => [(4, .int a24), (8, .int a21), (7, .int a12), (6, .int a10), (0, .ref (oX E 0)), (1, .int x1), (2, .int x2), (3, .int x3), (5, .int x5)]) cx dX12_holds_145 (by decide) (fun _ => rfl) rfl h (fun a24 h => ?_)
          refine v_iinc 150 8 (fun a25 => [(5, .int a25), (4, .int a24), (8, .int a21), (7, .int a12), (6, .int a10), (0, .ref (oX E 0)), (1, .int x1), (2, .int x2), (3, .int x3)]) cx dX12_holds_147 rfl ic_1 (by decide) (fun _ => rfl) rfl h (fun a25 h => ?_)
          refine v_goto 33 cx dX12_holds_150 (by decide) ?_
          cases h
          have hk : Vat C (wM E) 9 33 [(0, .ref (oX E 0)), (1, .int x1), (2, .int x2), (3, .int x3), (4, .int a24), (5, .int a25)] [] s23 := hk
          exact v_lsub (lv' := [(0, .ref (oX E 0)), (1, .int x1), (2, .int x2), (3, .int x3), (4, .int a24), (5, .int a25)]) [5, 6, 7, 8, 1, 0] rfl (hk)
        · refine v_goto 147 cx dX12_holds_132 (by decide) ?_
          refine v_iinc 150 8 (fun a26 => [(5, .int a26), (8, .int a21), (7, .int a12), (6, .int a10), (0, .ref (oX E 0)), (1, .int x1), (2, .int x2), (3, .int x3), (4, .int x4)]) cx dX12_holds_147 rfl ic_1 (by decide) (fun _ => rfl) rfl h (fun a26 h => ?_)
          refine v_goto 33 cx dX12_holds_150 (by decide) ?_
          cases h
          have hk : Vat C (wM E) 9 33 [(0, .ref (oX E 0)), (1, .int x1), (2, .int x2), (3, .int x3), (4, .int x4), (5, .int a26)] [] s19 := hk
          exact v_lsub (lv' := [(0, .ref (oX E 0)), (1, .int x1), (2, .int x2), (3, .int x3), (4, .int x4), (5, .int a26)]) [4, 5, 6, 7, 8, 0] rfl (hk)
      · refine v_goto 147 cx dX12_holds_72 (by decide) ?_
        refine v_iinc 150 7 (fun a27 => [(5, .int a27), (7, .int a12), (6, .int a10), (0, .ref (oX E 0)), (1, .int x1), (2, .int x2), (3, .int x3), (4, .int x4)]) cx dX12_holds_147 rfl ic_1 (by decide) (fun _ => rfl) rfl h (fun a27 h => ?_)
        refine v_goto 33 cx dX12_holds_150 (by decide) ?_
        cases h
        have hk : Vat C (wM E) 9 33 [(0, .ref (oX E 0)), (1, .int x1), (2, .int x2), (3, .int x3), (4, .int x4), (5, .int a27)] [] st := hk
        exact v_lsub (lv' := [(0, .ref (oX E 0)), (1, .int x1), (2, .int x2), (3, .int x3), (4, .int x4), (5, .int a27)]) [3, 4, 5, 6, 7, 0] rfl (hk)
set_option maxHeartbeats 4000000 in
set_option maxRecDepth 100000 in
theorem b_X12_holds_L22 {C : Cm} {E : Ev} (cx : Cx C (tyE E) cX12_holds RX12 9 1 21) (x1 : Int32) (x2 : Int32) : ∀ (s : (Int32 × Sg)) (out : (Int32 × Sg) ⊕ ((Sg) ⊕ (Sg))), m_X12_holds_L22 x1 x2 s.1 s.2 = some out → Sum.elim (V_X12_holds_L22 C E x1 x2) (K_X12_holds_L22 C E x1 x2) out → V_X12_holds_L22 C E x1 x2 s := by
  intro s out h hk
  obtain ⟨x3, st⟩ := s
  show Vat C (wM E) 9 22 [(0, .ref (oX E 0)), (1, .int x1), (2, .int x2), (3, .int x3)] [] st
  replace h : m_X12_holds_L22 x1 x2 x3 st = some out := h
  unfold m_X12_holds_L22 at h
  refine v_iload_n 23 3 cx dX12_holds_22 rfl rfl rfl ?_
  refine v_iload_n 24 1 cx dX12_holds_23 rfl rfl rfl ?_
  refine v_icmp_gt 166 27 cx dX12_holds_24 (by decide) rfl h (fun h => ?_) (fun h => ?_)
  · cases h
    have hk : Vat C (wM E) 9 166 [] [] st := hk
    exact v_lsub (lv' := []) [] rfl (hk)
  · refine v_iconst 28 cx dX12_holds_27 ic_0 rfl ?_
    refine v_istore 30 (fun a6 => [(4, .int a6), (0, .ref (oX E 0)), (1, .int x1), (2, .int x2), (3, .int x3)]) cx dX12_holds_28 (by decide) (fun _ => rfl) rfl h (fun a6 h => ?_)
    refine v_iconst 31 cx dX12_holds_30 ic_0 rfl ?_
    refine v_istore 33 (fun a7 => [(5, .int a7), (4, .int a6), (0, .ref (oX E 0)), (1, .int x1), (2, .int x2), (3, .int x3)]) cx dX12_holds_31 (by decide) (fun _ => rfl) rfl h (fun a7 h => ?_)
    refine v_lsub (lv' := [(0, .ref (oX E 0)), (1, .int x1), (2, .int x2), (3, .int x3), (4, .int a6), (5, .int a7)]) [2, 3, 4, 5, 1, 0] rfl ?_
    refine v_loop (s0 := (a6, a7, st)) (V_X12_holds_L33 C E x1 x2 x3) (K_X12_holds_L33 C E x1 x2 x3) h (b_X12_holds_L33 cx x1 x2 x3) (fun r28 h => ?_)
    show Vat C (wM E) 9 153 [(0, .ref (oX E 0)), (1, .int x1), (2, .int x2), (3, .int x3), (4, .int r28.1)] [] r28.2
    refine v_iload 155 4 cx dX12_holds_153 rfl rfl ?_
    refine v_if_ne 160 158 cx dX12_holds_155 (by decide) rfl h (fun h => ?_) (fun h => ?_)
    · refine v_iinc 163 3 (fun a29 => [(3, .int a29), (0, .ref (oX E 0)), (1, .int x1), (2, .int x2), (4, .int r28.1)]) cx dX12_holds_160 rfl ic_1 (by decide) (fun _ => rfl) rfl h (fun a29 h => ?_)
      refine v_goto 22 cx dX12_holds_163 (by decide) ?_
      cases h
      have hk : Vat C (wM E) 9 22 [(0, .ref (oX E 0)), (1, .int x1), (2, .int x2), (3, .int a29)] [] r28.2 := hk
      exact v_lsub (lv' := [(0, .ref (oX E 0)), (1, .int x1), (2, .int x2), (3, .int a29)]) [1, 2, 3, 0] rfl (hk)
    · cases h
      have hk : Vat C (wM E) 9 158 [] [] r28.2 := hk
      exact v_lsub (lv' := []) [] rfl (hk)
set_option maxHeartbeats 4000000 in
set_option maxRecDepth 100000 in
theorem c_X12_holds (l : Launch) (E : Ev) (st : Sg) (p1 : Int32) (p2 : Int32) : ∀ q, m_X12_holds p1 p2 st = some q → CtI l (wM E) (tyE E) yX12_holds cX12_holds 9 (some .boolean) 1 21 [.ref (oX E 0), .int p1, .int p2] st q := by
  intro q h
  refine ctZ_of (lv0 := [(0, .ref (oX E 0)), (1, .int p1), (2, .int p2)]) (by decide) rfl (Nat.le_of_ble_eq_true rfl) (fun C hC cx hk => ?_)
  replace cx : Cx C (tyE E) cX12_holds RX12 9 1 21 := cx
  unfold m_X12_holds at h
  refine v_iconst 1 cx dX12_holds_0 ic_0 rfl ?_
  refine v_istore_n 2 (fun a1 => [(3, .int a1), (0, .ref (oX E 0)), (1, .int p1), (2, .int p2)]) cx dX12_holds_1 rfl (by decide) (fun _ => rfl) rfl h (fun a1 h => ?_)
  refine v_lsub (lv' := [(0, .ref (oX E 0)), (1, .int p1), (2, .int p2), (3, .int a1)]) [1, 2, 3, 0] rfl ?_
  refine v_loop (s0 := (a1, st)) (V_X12_holds_L2 C E p1 p2) (K_X12_holds_L2 C E p1 p2) h (b_X12_holds_L2 cx p1 p2) (fun r4 h => ?_)
  show Vat C (wM E) 9 20 [(0, .ref (oX E 0)), (1, .int p1), (2, .int p2)] [] r4
  refine v_iconst 21 cx dX12_holds_20 ic_0 rfl ?_
  refine v_istore_n 22 (fun a5 => [(3, .int a5), (0, .ref (oX E 0)), (1, .int p1), (2, .int p2)]) cx dX12_holds_21 rfl (by decide) (fun _ => rfl) rfl h (fun a5 h => ?_)
  refine v_lsub (lv' := [(0, .ref (oX E 0)), (1, .int p1), (2, .int p2), (3, .int a5)]) [1, 2, 3, 0] rfl ?_
  refine v_loop (s0 := (a5, r4)) (V_X12_holds_L22 C E p1 p2) (K_X12_holds_L22 C E p1 p2) h (b_X12_holds_L22 cx p1 p2) (fun r30 h => ?_)
  rcases r30 with r30 | r30
  · rw [Sum.elim_inl] at h
    show Vat C (wM E) 9 166 [] [] r30
    refine v_iconst 167 cx dX12_holds_166 ic_0 rfl ?_
    exact hk _ _ _ _ (Option.some.inj h) (Or.inl rfl) dX12_holds_167
  · rw [Sum.elim_inr] at h
    show Vat C (wM E) 9 158 [] [] r30
    refine v_iconst 159 cx dX12_holds_158 ic_1 rfl ?_
    exact hk _ _ _ _ (Option.some.inj h) (Or.inr rfl) dX12_holds_159
