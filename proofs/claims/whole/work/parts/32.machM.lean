-- machine layer (written by gen.py)
def V_X12_laid_L10 (C : Cm) (E : Ev) (x1 : Int32) (x2 : Int32) (s : (Int32 × Int32 × Sg)) : Prop := Vat C (wM E) 8 10 [(0, .ref (oX E 0)), (1, .int x1), (2, .int x2), (3, .int s.1), (4, .int s.2.1)] [] s.2.2
def K_X12_laid_L10 (C : Cm) (E : Ev) (x1 : Int32) (x2 : Int32) : (Int32 × Sg) → Prop := (fun r : (Int32 × Sg) => Vat C (wM E) 8 48 [(0, .ref (oX E 0)), (1, .int x1), (2, .int x2), (3, .int r.1)] [] r.2)
set_option maxHeartbeats 4000000 in
set_option maxRecDepth 100000 in
theorem b_X12_laid_L10 {C : Cm} {E : Ev} (cx : Cx C (tyE E) cX12_laid RX12 8 3 78) (x1 : Int32) (x2 : Int32) : ∀ (s : (Int32 × Int32 × Sg)) (out : (Int32 × Int32 × Sg) ⊕ (Int32 × Sg)), m_X12_laid_L10 x1 x2 s.1 s.2.1 s.2.2 = some out → Sum.elim (V_X12_laid_L10 C E x1 x2) (K_X12_laid_L10 C E x1 x2) out → V_X12_laid_L10 C E x1 x2 s := by
  intro s out h hk
  obtain ⟨x3, x4, st⟩ := s
  show Vat C (wM E) 8 10 [(0, .ref (oX E 0)), (1, .int x1), (2, .int x2), (3, .int x3), (4, .int x4)] [] st
  replace h : m_X12_laid_L10 x1 x2 x3 x4 st = some out := h
  unfold m_X12_laid_L10 at h
  refine v_iload 12 4 cx dX12_laid_10 rfl rfl ?_
  refine v_aload_n 13 0 cx dX12_laid_12 rfl rfl rfl ?_
  refine v_getI 16 0 9 cx dX12_laid_13 iX12 (wMo_0 E st) rfl (Nat.le_of_ble_eq_true rfl) rfl kf_X12_118 rfl rfl h (fun v4 h => ?_)
  refine v_icmp_ge 48 19 cx dX12_laid_16 (by decide) rfl h (fun h => ?_) (fun h => ?_)
  · cases h
    have hk : Vat C (wM E) 8 48 [(0, .ref (oX E 0)), (1, .int x1), (2, .int x2), (3, .int x3)] [] st := hk
    exact v_lsub (lv' := [(0, .ref (oX E 0)), (1, .int x1), (2, .int x2), (3, .int x3)]) [0, 1, 2, 3] rfl (hk)
  · refine v_aload_n 20 0 cx dX12_laid_19 rfl rfl rfl ?_
    refine v_get 23 0 30 cx dX12_laid_20 iX12 (wMo_0 E st) rfl (Nat.le_of_ble_eq_true rfl) rfl kf_X12_87 rfl rfl ?_
    refine v_iload 25 4 cx dX12_laid_23 rfl rfl ?_
    refine v_iald 26 26 0 cx dX12_laid_25 (wMa_0_30 E st) rfl rfl h (fun v5 h => ?_)
    refine v_iload_n 27 3 cx dX12_laid_26 rfl rfl rfl ?_
    refine v_icmp_le 40 30 cx dX12_laid_27 (by decide) rfl h (fun h => ?_) (fun h => ?_)
    · refine v_iload_n 41 3 cx dX12_laid_40 rfl rfl rfl ?_
      refine v_istore_n 42 (fun a6 => [(3, .int a6), (0, .ref (oX E 0)), (1, .int x1), (2, .int x2), (4, .int x4)]) cx dX12_laid_41 rfl (by decide) (fun _ => rfl) rfl h (fun a6 h => ?_)
      refine v_iinc 45 4 (fun a7 => [(4, .int a7), (3, .int a6), (0, .ref (oX E 0)), (1, .int x1), (2, .int x2)]) cx dX12_laid_42 rfl ic_1 (by decide) (fun _ => rfl) rfl h (fun a7 h => ?_)
      refine v_goto 10 cx dX12_laid_45 (by decide) ?_
      cases h
      have hk : Vat C (wM E) 8 10 [(0, .ref (oX E 0)), (1, .int x1), (2, .int x2), (3, .int a6), (4, .int a7)] [] st := hk
      exact v_lsub (lv' := [(0, .ref (oX E 0)), (1, .int x1), (2, .int x2), (3, .int a6), (4, .int a7)]) [2, 3, 4, 1, 0] rfl (hk)
    · refine v_aload_n 31 0 cx dX12_laid_30 rfl rfl rfl ?_
      refine v_get 34 0 30 cx dX12_laid_31 iX12 (wMo_0 E st) rfl (Nat.le_of_ble_eq_true rfl) rfl kf_X12_87 rfl rfl ?_
      refine v_iload 36 4 cx dX12_laid_34 rfl rfl ?_
      refine v_iald 37 26 0 cx dX12_laid_36 (wMa_0_30 E st) rfl rfl h (fun v8 h => ?_)
      refine v_goto 41 cx dX12_laid_37 (by decide) ?_
      refine v_istore_n 42 (fun a9 => [(3, .int a9), (0, .ref (oX E 0)), (1, .int x1), (2, .int x2), (4, .int x4)]) cx dX12_laid_41 rfl (by decide) (fun _ => rfl) rfl h (fun a9 h => ?_)
      refine v_iinc 45 4 (fun a10 => [(4, .int a10), (3, .int a9), (0, .ref (oX E 0)), (1, .int x1), (2, .int x2)]) cx dX12_laid_42 rfl ic_1 (by decide) (fun _ => rfl) rfl h (fun a10 h => ?_)
      refine v_goto 10 cx dX12_laid_45 (by decide) ?_
      cases h
      have hk : Vat C (wM E) 8 10 [(0, .ref (oX E 0)), (1, .int x1), (2, .int x2), (3, .int a9), (4, .int a10)] [] st := hk
      exact v_lsub (lv' := [(0, .ref (oX E 0)), (1, .int x1), (2, .int x2), (3, .int a9), (4, .int a10)]) [2, 3, 4, 1, 0] rfl (hk)
def V_X12_laid_L51 (C : Cm) (E : Ev) (x1 : Int32) (x3 : Int32) (s : (Int32 × Int32 × Sg)) : Prop := Vat C (wM E) 8 51 [(0, .ref (oX E 0)), (1, .int x1), (2, .int s.1), (3, .int x3), (4, .int s.2.1)] [] s.2.2
def K_X12_laid_L51 (C : Cm) (E : Ev) (x1 : Int32) (x3 : Int32) : (Sg) → Prop := (fun r : (Sg) => Vat C (wM E) 8 215 [(0, .ref (oX E 0)), (1, .int x1)] [] r)
def V_X12_laid_L69 (C : Cm) (E : Ev) (x1 : Int32) (x3 : Int32) (x4 : Int32) (s : (Int32 × Int32 × Sg)) : Prop := Vat C (wM E) 8 69 [(0, .ref (oX E 0)), (1, .int x1), (2, .int s.1), (3, .int x3), (4, .int x4), (5, .int s.2.1)] [] s.2.2
def K_X12_laid_L69 (C : Cm) (E : Ev) (x1 : Int32) (x3 : Int32) (x4 : Int32) : (Int32 × Sg) → Prop := (fun r : (Int32 × Sg) => Vat C (wM E) 8 209 [(0, .ref (oX E 0)), (1, .int x1), (2, .int r.1), (3, .int x3), (4, .int x4)] [] r.2)
set_option maxHeartbeats 4000000 in
set_option maxRecDepth 100000 in
theorem b_X12_laid_L69 {C : Cm} {E : Ev} (cx : Cx C (tyE E) cX12_laid RX12 8 3 78) (x1 : Int32) (x3 : Int32) (x4 : Int32) : ∀ (s : (Int32 × Int32 × Sg)) (out : (Int32 × Int32 × Sg) ⊕ (Int32 × Sg)), m_X12_laid_L69 x1 x3 x4 s.1 s.2.1 s.2.2 = some out → Sum.elim (V_X12_laid_L69 C E x1 x3 x4) (K_X12_laid_L69 C E x1 x3 x4) out → V_X12_laid_L69 C E x1 x3 x4 s := by
  intro s out h hk
  obtain ⟨x2, x5, st⟩ := s
  show Vat C (wM E) 8 69 [(0, .ref (oX E 0)), (1, .int x1), (2, .int x2), (3, .int x3), (4, .int x4), (5, .int x5)] [] st
  replace h : m_X12_laid_L69 x1 x3 x4 x2 x5 st = some out := h
  unfold m_X12_laid_L69 at h
  refine v_iload 71 5 cx dX12_laid_69 rfl rfl ?_
  refine v_aload_n 72 0 cx dX12_laid_71 rfl rfl rfl ?_
  refine v_getI 75 0 9 cx dX12_laid_72 iX12 (wMo_0 E st) rfl (Nat.le_of_ble_eq_true rfl) rfl kf_X12_118 rfl rfl h (fun v15 h => ?_)
  refine v_icmp_ge 209 78 cx dX12_laid_75 (by decide) rfl h (fun h => ?_) (fun h => ?_)
  · cases h
    have hk : Vat C (wM E) 8 209 [(0, .ref (oX E 0)), (1, .int x1), (2, .int x2), (3, .int x3), (4, .int x4)] [] st := hk
    exact v_lsub (lv' := [(0, .ref (oX E 0)), (1, .int x1), (2, .int x2), (3, .int x3), (4, .int x4)]) [0, 1, 2, 3, 4] rfl (hk)
  · refine v_iload 80 4 cx dX12_laid_78 rfl rfl ?_
    refine v_aload_n 81 0 cx dX12_laid_80 rfl rfl rfl ?_
    refine v_get 84 0 30 cx dX12_laid_81 iX12 (wMo_0 E st) rfl (Nat.le_of_ble_eq_true rfl) rfl kf_X12_87 rfl rfl ?_
    refine v_iload 86 5 cx dX12_laid_84 rfl rfl ?_
    refine v_iald 87 26 0 cx dX12_laid_86 (wMa_0_30 E st) rfl rfl h (fun v16 h => ?_)
    refine v_isub 88 cx dX12_laid_87 rfl ?_
    refine v_istore 90 (fun a17 => [(6, .int a17), (0, .ref (oX E 0)), (1, .int x1), (2, .int x2), (3, .int x3), (4, .int x4), (5, .int x5)]) cx dX12_laid_88 (by decide) (fun _ => rfl) rfl h (fun a17 h => ?_)
    refine v_iload 92 0 cx dX12_laid_90 rfl rfl ?_
    refine v_if_lt 203 95 cx dX12_laid_92 (by decide) rfl h (fun h => ?_) (fun h => ?_)
    · refine v_iinc 206 6 (fun a18 => [(5, .int a18), (6, .int a17), (0, .ref (oX E 0)), (1, .int x1), (2, .int x2), (3, .int x3), (4, .int x4)]) cx dX12_laid_203 rfl ic_1 (by decide) (fun _ => rfl) rfl h (fun a18 h => ?_)
      refine v_goto 69 cx dX12_laid_206 (by decide) ?_
      cases h
      have hk : Vat C (wM E) 8 69 [(0, .ref (oX E 0)), (1, .int x1), (2, .int x2), (3, .int x3), (4, .int x4), (5, .int a18)] [] st := hk
      exact v_lsub (lv' := [(0, .ref (oX E 0)), (1, .int x1), (2, .int x2), (3, .int x3), (4, .int x4), (5, .int a18)]) [2, 3, 4, 5, 6, 0] rfl (hk)
    · refine v_iload 97 0 cx dX12_laid_95 rfl rfl ?_
      refine v_aload_n 98 1 cx dX12_laid_97 rfl rfl rfl ?_
      refine v_getI 101 0 27 cx dX12_laid_98 iX12 (wMo_0 E st) rfl (Nat.le_of_ble_eq_true rfl) rfl kf_X12_121 rfl rfl h (fun v19 h => ?_)
      refine v_irem 102 cx dX12_laid_101 rfl h (fun h => ?_)
      refine v_if_ne 203 105 cx dX12_laid_102 (by decide) rfl h (fun h => ?_) (fun h => ?_)
      · refine v_iinc 206 6 (fun a20 => [(5, .int a20), (6, .int a17), (0, .ref (oX E 0)), (1, .int x1), (2, .int x2), (3, .int x3), (4, .int x4)]) cx dX12_laid_203 rfl ic_1 (by decide) (fun _ => rfl) rfl h (fun a20 h => ?_)
        refine v_goto 69 cx dX12_laid_206 (by decide) ?_
        cases h
        have hk : Vat C (wM E) 8 69 [(0, .ref (oX E 0)), (1, .int x1), (2, .int x2), (3, .int x3), (4, .int x4), (5, .int a20)] [] st := hk
        exact v_lsub (lv' := [(0, .ref (oX E 0)), (1, .int x1), (2, .int x2), (3, .int x3), (4, .int x4), (5, .int a20)]) [2, 3, 4, 5, 6, 0] rfl (hk)
      · refine v_bipush 107 cx dX12_laid_105 bp_16 rfl ?_
        refine v_iload 109 0 cx dX12_laid_107 rfl rfl ?_
        refine v_aload_n 110 1 cx dX12_laid_109 rfl rfl rfl ?_
        refine v_getI 113 0 27 cx dX12_laid_110 iX12 (wMo_0 E st) rfl (Nat.le_of_ble_eq_true rfl) rfl kf_X12_121 rfl rfl h (fun v21 h => ?_)
        refine v_idiv 114 cx dX12_laid_113 rfl h (fun h => ?_)
        refine v_imul 115 cx dX12_laid_114 rfl ?_
        refine v_iload 117 6 cx dX12_laid_115 rfl rfl ?_
        refine v_iadd 118 cx dX12_laid_117 rfl ?_
        refine v_iload_n 119 3 cx dX12_laid_118 rfl rfl rfl ?_
        refine v_icmp_lt 125 122 cx dX12_laid_119 (by decide) rfl h (fun h => ?_) (fun h => ?_)
        · refine v_aload_n 126 1 cx dX12_laid_125 rfl rfl rfl ?_
          refine v_dup 127 cx dX12_laid_126 rfl rfl ?_
          refine v_getI 130 0 41 cx dX12_laid_127 iX12 (wMo_0 E st) rfl (Nat.le_of_ble_eq_true rfl) rfl kf_X12_267 rfl rfl h (fun v22 h => ?_)
          refine v_iconst 131 cx dX12_laid_130 ic_1 rfl ?_
          refine v_iadd 132 cx dX12_laid_131 rfl ?_
          refine v_putI 135 0 41 cx dX12_laid_132 iX12 tyX12_ok nmX12 (wMo_0 E st) rfl (Nat.le_of_ble_eq_true rfl) rfl kf_X12_267 rfl rfl rfl rfl (Nat.le_of_ble_eq_true rfl) (wMs_0_41 E st _) rfl h (fun s23 h => ?_)
          refine v_aload_n 136 1 cx dX12_laid_135 rfl rfl rfl ?_
          refine v_iload 138 5 cx dX12_laid_136 rfl rfl ?_
          refine v_iconst 139 cx dX12_laid_138 ic_1 rfl ?_
          refine v_iadd 140 cx dX12_laid_139 rfl ?_
          refine v_putI 143 0 42 cx dX12_laid_140 iX12 tyX12_ok nmX12 (wMo_0 E s23) rfl (Nat.le_of_ble_eq_true rfl) rfl kf_X12_270 rfl rfl rfl rfl (Nat.le_of_ble_eq_true rfl) (wMs_0_42 E s23 _) rfl h (fun s24 h => ?_)
          refine v_aload_n 144 1 cx dX12_laid_143 rfl rfl rfl ?_
          refine v_iload 146 6 cx dX12_laid_144 rfl rfl ?_
          refine v_iload 148 0 cx dX12_laid_146 rfl rfl ?_
          refine v_aload_n 149 1 cx dX12_laid_148 rfl rfl rfl ?_
          refine v_getI 152 0 27 cx dX12_laid_149 iX12 (wMo_0 E s24) rfl (Nat.le_of_ble_eq_true rfl) rfl kf_X12_121 rfl rfl h (fun v25 h => ?_)
          refine v_idiv 153 cx dX12_laid_152 rfl h (fun h => ?_)
          refine v_callVI 156 0 cx dX12_laid_153 km_X12_283 ca_X12_does (wMo_0 E s24) rfl (c_X12_does C.2.1 E s24 x5 (a17 / v25) ) rfl (by decide) rfl (Nat.le_of_ble_eq_true rfl) rfl h (fun v27 s26 h => ?_)
          refine v_istore 158 (fun a28 => [(7, .int a28), (6, .int a17), (0, .ref (oX E 0)), (1, .int x1), (2, .int x2), (3, .int x3), (4, .int x4), (5, .int x5)]) cx dX12_laid_156 (by decide) (fun _ => rfl) rfl h (fun a28 h => ?_)
          refine v_iload 160 0 cx dX12_laid_158 rfl rfl ?_
          refine v_if_ne 166 163 cx dX12_laid_160 (by decide) rfl h (fun h => ?_) (fun h => ?_)
          · refine v_bipush 168 cx dX12_laid_166 bp_16 rfl ?_
            refine v_iload 170 1 cx dX12_laid_168 rfl rfl ?_
            refine v_aload_n 171 2 cx dX12_laid_170 rfl rfl rfl ?_
            refine v_getI 174 0 27 cx dX12_laid_171 iX12 (wMo_0 E s26) rfl (Nat.le_of_ble_eq_true rfl) rfl kf_X12_121 rfl rfl h (fun v29 h => ?_)
            refine v_idiv 175 cx dX12_laid_174 rfl h (fun h => ?_)
            refine v_imul 176 cx dX12_laid_175 rfl ?_
            refine v_iload 178 7 cx dX12_laid_176 rfl rfl ?_
            refine v_iadd 179 cx dX12_laid_178 rfl ?_
            refine v_istore_n 180 (fun a30 => [(2, .int a30), (7, .int a28), (6, .int a17), (0, .ref (oX E 0)), (1, .int x1), (3, .int x3), (4, .int x4), (5, .int x5)]) cx dX12_laid_179 rfl (by decide) (fun _ => rfl) rfl h (fun a30 h => ?_)
            refine v_aload_n 181 3 cx dX12_laid_180 rfl rfl rfl ?_
            refine v_iload 183 1 cx dX12_laid_181 rfl rfl ?_
            refine v_putI 186 0 38 cx dX12_laid_183 iX12 tyX12_ok nmX12 (wMo_0 E s26) rfl (Nat.le_of_ble_eq_true rfl) rfl kf_X12_258 rfl rfl rfl rfl (Nat.le_of_ble_eq_true rfl) (wMs_0_38 E s26 _) rfl h (fun s31 h => ?_)
            refine v_aload_n 187 3 cx dX12_laid_186 rfl rfl rfl ?_
            refine v_iload 189 7 cx dX12_laid_187 rfl rfl ?_
            refine v_putI 192 0 39 cx dX12_laid_189 iX12 tyX12_ok nmX12 (wMo_0 E s31) rfl (Nat.le_of_ble_eq_true rfl) rfl kf_X12_261 rfl rfl rfl rfl (Nat.le_of_ble_eq_true rfl) (wMs_0_39 E s31 _) rfl h (fun s32 h => ?_)
            refine v_aload_n 193 3 cx dX12_laid_192 rfl rfl rfl ?_
            refine v_iload 195 2 cx dX12_laid_193 rfl rfl ?_
            refine v_aload_n 196 3 cx dX12_laid_195 rfl rfl rfl ?_
            refine v_getI 199 0 27 cx dX12_laid_196 iX12 (wMo_0 E s32) rfl (Nat.le_of_ble_eq_true rfl) rfl kf_X12_121 rfl rfl h (fun v33 h => ?_)
            refine v_idiv 200 cx dX12_laid_199 rfl h (fun h => ?_)
            refine v_putI 203 0 40 cx dX12_laid_200 iX12 tyX12_ok nmX12 (wMo_0 E s32) rfl (Nat.le_of_ble_eq_true rfl) rfl kf_X12_264 rfl rfl rfl rfl (Nat.le_of_ble_eq_true rfl) (wMs_0_40 E s32 _) rfl h (fun s34 h => ?_)
            refine v_iinc 206 7 (fun a35 => [(5, .int a35), (2, .int a30), (7, .int a28), (6, .int a17), (0, .ref (oX E 0)), (1, .int x1), (3, .int x3), (4, .int x4)]) cx dX12_laid_203 rfl ic_1 (by decide) (fun _ => rfl) rfl h (fun a35 h => ?_)
            refine v_goto 69 cx dX12_laid_206 (by decide) ?_
            cases h
            have hk : Vat C (wM E) 8 69 [(0, .ref (oX E 0)), (1, .int x1), (2, .int a30), (3, .int x3), (4, .int x4), (5, .int a35)] [] s34 := hk
            exact v_lsub (lv' := [(0, .ref (oX E 0)), (1, .int x1), (2, .int a30), (3, .int x3), (4, .int x4), (5, .int a35)]) [4, 5, 1, 6, 7, 0] rfl (hk)
          · refine v_goto 203 cx dX12_laid_163 (by decide) ?_
            refine v_iinc 206 7 (fun a36 => [(5, .int a36), (7, .int a28), (6, .int a17), (0, .ref (oX E 0)), (1, .int x1), (2, .int x2), (3, .int x3), (4, .int x4)]) cx dX12_laid_203 rfl ic_1 (by decide) (fun _ => rfl) rfl h (fun a36 h => ?_)
            refine v_goto 69 cx dX12_laid_206 (by decide) ?_
            cases h
            have hk : Vat C (wM E) 8 69 [(0, .ref (oX E 0)), (1, .int x1), (2, .int x2), (3, .int x3), (4, .int x4), (5, .int a36)] [] s26 := hk
            exact v_lsub (lv' := [(0, .ref (oX E 0)), (1, .int x1), (2, .int x2), (3, .int x3), (4, .int x4), (5, .int a36)]) [3, 4, 5, 6, 7, 0] rfl (hk)
        · refine v_goto 203 cx dX12_laid_122 (by decide) ?_
          refine v_iinc 206 6 (fun a37 => [(5, .int a37), (6, .int a17), (0, .ref (oX E 0)), (1, .int x1), (2, .int x2), (3, .int x3), (4, .int x4)]) cx dX12_laid_203 rfl ic_1 (by decide) (fun _ => rfl) rfl h (fun a37 h => ?_)
          refine v_goto 69 cx dX12_laid_206 (by decide) ?_
          cases h
          have hk : Vat C (wM E) 8 69 [(0, .ref (oX E 0)), (1, .int x1), (2, .int x2), (3, .int x3), (4, .int x4), (5, .int a37)] [] st := hk
          exact v_lsub (lv' := [(0, .ref (oX E 0)), (1, .int x1), (2, .int x2), (3, .int x3), (4, .int x4), (5, .int a37)]) [2, 3, 4, 5, 6, 0] rfl (hk)
set_option maxHeartbeats 4000000 in
set_option maxRecDepth 100000 in
theorem b_X12_laid_L51 {C : Cm} {E : Ev} (cx : Cx C (tyE E) cX12_laid RX12 8 3 78) (x1 : Int32) (x3 : Int32) : ∀ (s : (Int32 × Int32 × Sg)) (out : (Int32 × Int32 × Sg) ⊕ (Sg)), m_X12_laid_L51 x1 x3 s.1 s.2.1 s.2.2 = some out → Sum.elim (V_X12_laid_L51 C E x1 x3) (K_X12_laid_L51 C E x1 x3) out → V_X12_laid_L51 C E x1 x3 s := by
  intro s out h hk
  obtain ⟨x2, x4, st⟩ := s
  show Vat C (wM E) 8 51 [(0, .ref (oX E 0)), (1, .int x1), (2, .int x2), (3, .int x3), (4, .int x4)] [] st
  replace h : m_X12_laid_L51 x1 x3 x2 x4 st = some out := h
  unfold m_X12_laid_L51 at h
  refine v_iload 53 4 cx dX12_laid_51 rfl rfl ?_
  refine v_iload_n 54 3 cx dX12_laid_53 rfl rfl rfl ?_
  refine v_aload_n 55 0 cx dX12_laid_54 rfl rfl rfl ?_
  refine v_getI 58 0 27 cx dX12_laid_55 iX12 (wMo_0 E st) rfl (Nat.le_of_ble_eq_true rfl) rfl kf_X12_121 rfl rfl h (fun v13 h => ?_)
  refine v_iload_n 59 1 cx dX12_laid_58 rfl rfl rfl ?_
  refine v_iconst 60 cx dX12_laid_59 ic_1 rfl ?_
  refine v_isub 61 cx dX12_laid_60 rfl ?_
  refine v_imul 62 cx dX12_laid_61 rfl ?_
  refine v_iadd 63 cx dX12_laid_62 rfl ?_
  refine v_icmp_gt 215 66 cx dX12_laid_63 (by decide) rfl h (fun h => ?_) (fun h => ?_)
  · cases h
    have hk : Vat C (wM E) 8 215 [(0, .ref (oX E 0)), (1, .int x1)] [] st := hk
    exact v_lsub (lv' := [(0, .ref (oX E 0)), (1, .int x1)]) [0, 1] rfl (hk)
  · refine v_iconst 67 cx dX12_laid_66 ic_0 rfl ?_
    refine v_istore 69 (fun a14 => [(5, .int a14), (0, .ref (oX E 0)), (1, .int x1), (2, .int x2), (3, .int x3), (4, .int x4)]) cx dX12_laid_67 (by decide) (fun _ => rfl) rfl h (fun a14 h => ?_)
    refine v_lsub (lv' := [(0, .ref (oX E 0)), (1, .int x1), (2, .int x2), (3, .int x3), (4, .int x4), (5, .int a14)]) [1, 2, 3, 4, 5, 0] rfl ?_
    refine v_loop (s0 := (x2, a14, st)) (V_X12_laid_L69 C E x1 x3 x4) (K_X12_laid_L69 C E x1 x3 x4) h (b_X12_laid_L69 cx x1 x3 x4) (fun r38 h => ?_)
    show Vat C (wM E) 8 209 [(0, .ref (oX E 0)), (1, .int x1), (2, .int r38.1), (3, .int x3), (4, .int x4)] [] r38.2
    refine v_iinc 212 4 (fun a39 => [(4, .int a39), (0, .ref (oX E 0)), (1, .int x1), (2, .int r38.1), (3, .int x3)]) cx dX12_laid_209 rfl ic_1 (by decide) (fun _ => rfl) rfl h (fun a39 h => ?_)
    refine v_goto 51 cx dX12_laid_212 (by decide) ?_
    cases h
    have hk : Vat C (wM E) 8 51 [(0, .ref (oX E 0)), (1, .int x1), (2, .int r38.1), (3, .int x3), (4, .int a39)] [] r38.2 := hk
    exact v_lsub (lv' := [(0, .ref (oX E 0)), (1, .int x1), (2, .int r38.1), (3, .int x3), (4, .int a39)]) [1, 2, 3, 4, 0] rfl (hk)
set_option maxHeartbeats 4000000 in
set_option maxRecDepth 100000 in
theorem c_X12_laid (l : Launch) (E : Ev) (st : Sg) (p1 : Int32) : ∀ q, m_X12_laid p1 st = some q → CtV l (wM E) (tyE E) yX12_laid cX12_laid 8 none 3 78 [.ref (oX E 0), .int p1] st q := by
  intro q h
  refine ctV_of (lv0 := [(0, .ref (oX E 0)), (1, .int p1)]) (by decide) rfl (Nat.le_of_ble_eq_true rfl) (fun C hC cx hk => ?_)
  replace cx : Cx C (tyE E) cX12_laid RX12 8 3 78 := cx
  unfold m_X12_laid at h
  refine v_bipush 2 cx dX12_laid_0 bp_16 rfl ?_
  refine v_iload_n 3 1 cx dX12_laid_2 rfl rfl rfl ?_
  refine v_imul 4 cx dX12_laid_3 rfl ?_
  refine v_istore_n 5 (fun a1 => [(2, .int a1), (0, .ref (oX E 0)), (1, .int p1)]) cx dX12_laid_4 rfl (by decide) (fun _ => rfl) rfl h (fun a1 h => ?_)
  refine v_iconst 6 cx dX12_laid_5 ic_0 rfl ?_
  refine v_istore_n 7 (fun a2 => [(3, .int a2), (2, .int a1), (0, .ref (oX E 0)), (1, .int p1)]) cx dX12_laid_6 rfl (by decide) (fun _ => rfl) rfl h (fun a2 h => ?_)
  refine v_iconst 8 cx dX12_laid_7 ic_0 rfl ?_
  refine v_istore 10 (fun a3 => [(4, .int a3), (3, .int a2), (2, .int a1), (0, .ref (oX E 0)), (1, .int p1)]) cx dX12_laid_8 (by decide) (fun _ => rfl) rfl h (fun a3 h => ?_)
  refine v_lsub (lv' := [(0, .ref (oX E 0)), (1, .int p1), (2, .int a1), (3, .int a2), (4, .int a3)]) [3, 4, 2, 1, 0] rfl ?_
  refine v_loop (s0 := (a2, a3, st)) (V_X12_laid_L10 C E p1 a1) (K_X12_laid_L10 C E p1 a1) h (b_X12_laid_L10 cx p1 a1) (fun r11 h => ?_)
  show Vat C (wM E) 8 48 [(0, .ref (oX E 0)), (1, .int p1), (2, .int a1), (3, .int r11.1)] [] r11.2
  refine v_iconst 49 cx dX12_laid_48 ic_0 rfl ?_
  refine v_istore 51 (fun a12 => [(4, .int a12), (0, .ref (oX E 0)), (1, .int p1), (2, .int a1), (3, .int r11.1)]) cx dX12_laid_49 (by decide) (fun _ => rfl) rfl h (fun a12 h => ?_)
  refine v_lsub (lv' := [(0, .ref (oX E 0)), (1, .int p1), (2, .int a1), (3, .int r11.1), (4, .int a12)]) [1, 2, 3, 4, 0] rfl ?_
  refine v_loop (s0 := (a1, a12, r11.2)) (V_X12_laid_L51 C E p1 r11.1) (K_X12_laid_L51 C E p1 r11.1) h (b_X12_laid_L51 cx p1 r11.1) (fun r40 h => ?_)
  show Vat C (wM E) 8 215 [(0, .ref (oX E 0)), (1, .int p1)] [] r40
  refine v_aload_n 216 0 cx dX12_laid_215 rfl rfl rfl ?_
  refine v_aload_n 217 0 cx dX12_laid_216 rfl rfl rfl ?_
  refine v_getI 220 0 38 cx dX12_laid_217 iX12 (wMo_0 E r40) rfl (Nat.le_of_ble_eq_true rfl) rfl kf_X12_258 rfl rfl h (fun v41 h => ?_)
  refine v_if_ne 227 223 cx dX12_laid_220 (by decide) rfl h (fun h => ?_) (fun h => ?_)
  · refine v_aload_n 228 0 cx dX12_laid_227 rfl rfl rfl ?_
    refine v_getI 231 0 40 cx dX12_laid_228 iX12 (wMo_0 E r40) rfl (Nat.le_of_ble_eq_true rfl) rfl kf_X12_264 rfl rfl h (fun v42 h => ?_)
    refine v_putI 234 0 44 cx dX12_laid_231 iX12 tyX12_ok nmX12 (wMo_0 E r40) rfl (Nat.le_of_ble_eq_true rfl) rfl kf_X12_276 rfl rfl rfl rfl (Nat.le_of_ble_eq_true rfl) (wMs_0_44 E r40 _) rfl h (fun s43 h => ?_)
    exact hk _ _ _ _ (Option.some.inj h) dX12_laid_234
  · refine v_iload_n 224 1 cx dX12_laid_223 rfl rfl rfl ?_
    refine v_goto 231 cx dX12_laid_224 (by decide) ?_
    refine v_putI 234 0 44 cx dX12_laid_231 iX12 tyX12_ok nmX12 (wMo_0 E r40) rfl (Nat.le_of_ble_eq_true rfl) rfl kf_X12_276 rfl rfl rfl rfl (Nat.le_of_ble_eq_true rfl) (wMs_0_44 E r40 _) rfl h (fun s44 h => ?_)
    exact hk _ _ _ _ (Option.some.inj h) dX12_laid_234
def V_X12_latestBegin_L18 (C : Cm) (E : Ev) (x1 : Int32) (s : (Int32 × Int32 × Sg)) : Prop := Vat C (wM E) 8 18 [(0, .ref (oX E 0)), (1, .int x1), (3, .int s.1), (4, .int s.2.1)] [] s.2.2
def K_X12_latestBegin_L18 (C : Cm) (E : Ev) (x1 : Int32) : (Int32 × Sg) → Prop := (fun r : (Int32 × Sg) => Vat C (wM E) 8 56 [(0, .ref (oX E 0)), (1, .int x1), (3, .int r.1)] [] r.2)
set_option maxHeartbeats 4000000 in
set_option maxRecDepth 100000 in
theorem b_X12_latestBegin_L18 {C : Cm} {E : Ev} (cx : Cx C (tyE E) cX12_latestBegin RX12 8 3 70) (x1 : Int32) : ∀ (s : (Int32 × Int32 × Sg)) (out : (Int32 × Int32 × Sg) ⊕ (Int32 × Sg)), m_X12_latestBegin_L18 x1 s.1 s.2.1 s.2.2 = some out → Sum.elim (V_X12_latestBegin_L18 C E x1) (K_X12_latestBegin_L18 C E x1) out → V_X12_latestBegin_L18 C E x1 s := by
  intro s out h hk
  obtain ⟨x3, x4, st⟩ := s
  show Vat C (wM E) 8 18 [(0, .ref (oX E 0)), (1, .int x1), (3, .int x3), (4, .int x4)] [] st
  replace h : m_X12_latestBegin_L18 x1 x3 x4 st = some out := h
  unfold m_X12_latestBegin_L18 at h
  refine v_iload 20 3 cx dX12_latestBegin_18 rfl rfl ?_
  refine v_aload_n 21 0 cx dX12_latestBegin_20 rfl rfl rfl ?_
  refine v_getI 24 0 9 cx dX12_latestBegin_21 iX12 (wMo_0 E st) rfl (Nat.le_of_ble_eq_true rfl) rfl kf_X12_118 rfl rfl h (fun v8 h => ?_)
  refine v_icmp_ge 56 27 cx dX12_latestBegin_24 (by decide) rfl h (fun h => ?_) (fun h => ?_)
  · cases h
    have hk : Vat C (wM E) 8 56 [(0, .ref (oX E 0)), (1, .int x1), (3, .int x3)] [] st := hk
    exact v_lsub (lv' := [(0, .ref (oX E 0)), (1, .int x1), (3, .int x3)]) [0, 1, 2] rfl (hk)
  · refine v_aload_n 28 0 cx dX12_latestBegin_27 rfl rfl rfl ?_
    refine v_get 31 0 33 cx dX12_latestBegin_28 iX12 (wMo_0 E st) rfl (Nat.le_of_ble_eq_true rfl) rfl kf_X12_93 rfl rfl ?_
    refine v_iload 33 3 cx dX12_latestBegin_31 rfl rfl ?_
    refine v_iald 34 28 0 cx dX12_latestBegin_33 (wMa_0_33 E st) rfl rfl h (fun v9 h => ?_)
    refine v_iload_n 35 2 cx dX12_latestBegin_34 rfl rfl rfl ?_
    refine v_icmp_le 48 38 cx dX12_latestBegin_35 (by decide) rfl h (fun h => ?_) (fun h => ?_)
    · refine v_iload_n 49 2 cx dX12_latestBegin_48 rfl rfl rfl ?_
      refine v_istore_n 50 (fun a10 => [(3, .int a10), (0, .ref (oX E 0)), (1, .int x1), (4, .int x4)]) cx dX12_latestBegin_49 rfl (by decide) (fun _ => rfl) rfl h (fun a10 h => ?_)
      refine v_iinc 53 3 (fun a11 => [(4, .int a11), (3, .int a10), (0, .ref (oX E 0)), (1, .int x1)]) cx dX12_latestBegin_50 rfl ic_1 (by decide) (fun _ => rfl) rfl h (fun a11 h => ?_)
      refine v_goto 18 cx dX12_latestBegin_53 (by decide) ?_
      cases h
      have hk : Vat C (wM E) 8 18 [(0, .ref (oX E 0)), (1, .int x1), (3, .int a10), (4, .int a11)] [] st := hk
      exact v_lsub (lv' := [(0, .ref (oX E 0)), (1, .int x1), (3, .int a10), (4, .int a11)]) [2, 3, 1, 0] rfl (hk)
    · refine v_aload_n 39 0 cx dX12_latestBegin_38 rfl rfl rfl ?_
      refine v_get 42 0 33 cx dX12_latestBegin_39 iX12 (wMo_0 E st) rfl (Nat.le_of_ble_eq_true rfl) rfl kf_X12_93 rfl rfl ?_
      refine v_iload 44 3 cx dX12_latestBegin_42 rfl rfl ?_
      refine v_iald 45 28 0 cx dX12_latestBegin_44 (wMa_0_33 E st) rfl rfl h (fun v12 h => ?_)
      refine v_goto 49 cx dX12_latestBegin_45 (by decide) ?_
      refine v_istore_n 50 (fun a13 => [(3, .int a13), (0, .ref (oX E 0)), (1, .int x1), (4, .int x4)]) cx dX12_latestBegin_49 rfl (by decide) (fun _ => rfl) rfl h (fun a13 h => ?_)
      refine v_iinc 53 3 (fun a14 => [(4, .int a14), (3, .int a13), (0, .ref (oX E 0)), (1, .int x1)]) cx dX12_latestBegin_50 rfl ic_1 (by decide) (fun _ => rfl) rfl h (fun a14 h => ?_)
      refine v_goto 18 cx dX12_latestBegin_53 (by decide) ?_
      cases h
      have hk : Vat C (wM E) 8 18 [(0, .ref (oX E 0)), (1, .int x1), (3, .int a13), (4, .int a14)] [] st := hk
      exact v_lsub (lv' := [(0, .ref (oX E 0)), (1, .int x1), (3, .int a13), (4, .int a14)]) [2, 3, 1, 0] rfl (hk)
def V_X12_latestBegin_L59 (C : Cm) (E : Ev) (x1 : Int32) (x3 : Int32) (s : (Int32 × Sg)) : Prop := Vat C (wM E) 8 59 [(0, .ref (oX E 0)), (1, .int x1), (3, .int x3), (4, .int s.1)] [] s.2
def K_X12_latestBegin_L59 (C : Cm) (E : Ev) (x1 : Int32) (x3 : Int32) : (Sg) → Prop := (fun r : (Sg) => Vat C (wM E) 8 82 [(0, .ref (oX E 0)), (1, .int x1)] [] r)
set_option maxHeartbeats 4000000 in
set_option maxRecDepth 100000 in
theorem b_X12_latestBegin_L59 {C : Cm} {E : Ev} (cx : Cx C (tyE E) cX12_latestBegin RX12 8 3 70) (x1 : Int32) (x3 : Int32) : ∀ (s : (Int32 × Sg)) (out : (Int32 × Sg) ⊕ (Sg)), m_X12_latestBegin_L59 x1 x3 s.1 s.2 = some out → Sum.elim (V_X12_latestBegin_L59 C E x1 x3) (K_X12_latestBegin_L59 C E x1 x3) out → V_X12_latestBegin_L59 C E x1 x3 s := by
  intro s out h hk
  obtain ⟨x4, st⟩ := s
  show Vat C (wM E) 8 59 [(0, .ref (oX E 0)), (1, .int x1), (3, .int x3), (4, .int x4)] [] st
  replace h : m_X12_latestBegin_L59 x1 x3 x4 st = some out := h
  unfold m_X12_latestBegin_L59 at h
  refine v_iload 61 3 cx dX12_latestBegin_59 rfl rfl ?_
  refine v_aload_n 62 0 cx dX12_latestBegin_61 rfl rfl rfl ?_
  refine v_getI 65 0 9 cx dX12_latestBegin_62 iX12 (wMo_0 E st) rfl (Nat.le_of_ble_eq_true rfl) rfl kf_X12_118 rfl rfl h (fun v17 h => ?_)
  refine v_icmp_ge 82 68 cx dX12_latestBegin_65 (by decide) rfl h (fun h => ?_) (fun h => ?_)
  · cases h
    have hk : Vat C (wM E) 8 82 [(0, .ref (oX E 0)), (1, .int x1)] [] st := hk
    exact v_lsub (lv' := [(0, .ref (oX E 0)), (1, .int x1)]) [0, 1] rfl (hk)
  · refine v_aload_n 69 0 cx dX12_latestBegin_68 rfl rfl rfl ?_
    refine v_get 72 0 33 cx dX12_latestBegin_69 iX12 (wMo_0 E st) rfl (Nat.le_of_ble_eq_true rfl) rfl kf_X12_93 rfl rfl ?_
    refine v_iload 74 3 cx dX12_latestBegin_72 rfl rfl ?_
    refine v_iload_n 75 2 cx dX12_latestBegin_74 rfl rfl rfl ?_
    refine v_iast 76 28 0 cx dX12_latestBegin_75 (wMa_0_33 E st) rfl (wMt_0_33 E st) rfl h (fun s18 h => ?_)
    refine v_iinc 79 3 (fun a19 => [(4, .int a19), (0, .ref (oX E 0)), (1, .int x1), (3, .int x3)]) cx dX12_latestBegin_76 rfl ic_1 (by decide) (fun _ => rfl) rfl h (fun a19 h => ?_)
    refine v_goto 59 cx dX12_latestBegin_79 (by decide) ?_
    cases h
    have hk : Vat C (wM E) 8 59 [(0, .ref (oX E 0)), (1, .int x1), (3, .int x3), (4, .int a19)] [] s18 := hk
    exact v_lsub (lv' := [(0, .ref (oX E 0)), (1, .int x1), (3, .int x3), (4, .int a19)]) [1, 2, 3, 0] rfl (hk)
def V_X12_latestBegin_L88 (C : Cm) (E : Ev) (x1 : Int32) (s : (Int32 × Int32 × Sg)) : Prop := Vat C (wM E) 8 88 [(0, .ref (oX E 0)), (1, .int x1), (4, .int s.1), (5, .int s.2.1)] [] s.2.2
def K_X12_latestBegin_L88 (C : Cm) (E : Ev) (x1 : Int32) : (Sg) → Prop := (fun r : (Sg) => Vat C (wM E) 8 201 [(0, .ref (oX E 0)), (1, .int x1)] [] r)
def V_X12_latestBegin_L108 (C : Cm) (E : Ev) (x1 : Int32) (x5 : Int32) (s : (Int32 × Int32 × Sg)) : Prop := Vat C (wM E) 8 108 [(0, .ref (oX E 0)), (1, .int x1), (4, .int s.1), (5, .int x5), (6, .int s.2.1)] [] s.2.2
def K_X12_latestBegin_L108 (C : Cm) (E : Ev) (x1 : Int32) (x5 : Int32) : (Int32 × Sg) → Prop := (fun r : (Int32 × Sg) => Vat C (wM E) 8 195 [(0, .ref (oX E 0)), (1, .int x1), (4, .int r.1), (5, .int x5)] [] r.2)
set_option maxHeartbeats 4000000 in
set_option maxRecDepth 100000 in
theorem b_X12_latestBegin_L108 {C : Cm} {E : Ev} (cx : Cx C (tyE E) cX12_latestBegin RX12 8 3 70) (x1 : Int32) (x5 : Int32) : ∀ (s : (Int32 × Int32 × Sg)) (out : (Int32 × Int32 × Sg) ⊕ (Int32 × Sg)), m_X12_latestBegin_L108 x1 x5 s.1 s.2.1 s.2.2 = some out → Sum.elim (V_X12_latestBegin_L108 C E x1 x5) (K_X12_latestBegin_L108 C E x1 x5) out → V_X12_latestBegin_L108 C E x1 x5 s := by
  intro s out h hk
  obtain ⟨x4, x6, st⟩ := s
  show Vat C (wM E) 8 108 [(0, .ref (oX E 0)), (1, .int x1), (4, .int x4), (5, .int x5), (6, .int x6)] [] st
  replace h : m_X12_latestBegin_L108 x1 x5 x4 x6 st = some out := h
  unfold m_X12_latestBegin_L108 at h
  refine v_iload 110 4 cx dX12_latestBegin_108 rfl rfl ?_
  refine v_aload_n 111 0 cx dX12_latestBegin_110 rfl rfl rfl ?_
  refine v_getI 114 0 20 cx dX12_latestBegin_111 iX12 (wMo_0 E st) rfl (Nat.le_of_ble_eq_true rfl) rfl kf_X12_180 rfl rfl h (fun v26 h => ?_)
  refine v_icmp_ge 195 117 cx dX12_latestBegin_114 (by decide) rfl h (fun h => ?_) (fun h => ?_)
  · cases h
    have hk : Vat C (wM E) 8 195 [(0, .ref (oX E 0)), (1, .int x1), (4, .int x4), (5, .int x5)] [] st := hk
    exact v_lsub (lv' := [(0, .ref (oX E 0)), (1, .int x1), (4, .int x4), (5, .int x5)]) [0, 1, 2, 3] rfl (hk)
  · refine v_aload_n 118 0 cx dX12_latestBegin_117 rfl rfl rfl ?_
    refine v_get 121 0 33 cx dX12_latestBegin_118 iX12 (wMo_0 E st) rfl (Nat.le_of_ble_eq_true rfl) rfl kf_X12_93 rfl rfl ?_
    refine v_aload_n 122 0 cx dX12_latestBegin_121 rfl rfl rfl ?_
    refine v_get 125 0 17 cx dX12_latestBegin_122 iX12 (wMo_0 E st) rfl (Nat.le_of_ble_eq_true rfl) rfl kf_X12_56 rfl rfl ?_
    refine v_iload 127 4 cx dX12_latestBegin_125 rfl rfl ?_
    refine v_iald 128 16 0 cx dX12_latestBegin_127 (wMa_0_17 E st) rfl rfl h (fun v27 h => ?_)
    refine v_iald 129 28 0 cx dX12_latestBegin_128 (wMa_0_33 E st) rfl rfl h (fun v28 h => ?_)
    refine v_aload_n 130 0 cx dX12_latestBegin_129 rfl rfl rfl ?_
    refine v_get 133 0 18 cx dX12_latestBegin_130 iX12 (wMo_0 E st) rfl (Nat.le_of_ble_eq_true rfl) rfl kf_X12_59 rfl rfl ?_
    refine v_iload 135 4 cx dX12_latestBegin_133 rfl rfl ?_
    refine v_iald 136 17 0 cx dX12_latestBegin_135 (wMa_0_18 E st) rfl rfl h (fun v29 h => ?_)
    refine v_isub 137 cx dX12_latestBegin_136 rfl ?_
    refine v_aload_n 138 0 cx dX12_latestBegin_137 rfl rfl rfl ?_
    refine v_getI 141 0 27 cx dX12_latestBegin_138 iX12 (wMo_0 E st) rfl (Nat.le_of_ble_eq_true rfl) rfl kf_X12_121 rfl rfl h (fun v30 h => ?_)
    refine v_aload_n 142 0 cx dX12_latestBegin_141 rfl rfl rfl ?_
    refine v_get 145 0 19 cx dX12_latestBegin_142 iX12 (wMo_0 E st) rfl (Nat.le_of_ble_eq_true rfl) rfl kf_X12_62 rfl rfl ?_
    refine v_iload 147 4 cx dX12_latestBegin_145 rfl rfl ?_
    refine v_iald 148 18 0 cx dX12_latestBegin_147 (wMa_0_19 E st) rfl rfl h (fun v31 h => ?_)
    refine v_imul 149 cx dX12_latestBegin_148 rfl ?_
    refine v_iadd 150 cx dX12_latestBegin_149 rfl ?_
    refine v_istore 152 (fun a32 => [(7, .int a32), (0, .ref (oX E 0)), (1, .int x1), (4, .int x4), (5, .int x5), (6, .int x6)]) cx dX12_latestBegin_150 (by decide) (fun _ => rfl) rfl h (fun a32 h => ?_)
    refine v_aload_n 153 1 cx dX12_latestBegin_152 rfl rfl rfl ?_
    refine v_get 156 0 33 cx dX12_latestBegin_153 iX12 (wMo_0 E st) rfl (Nat.le_of_ble_eq_true rfl) rfl kf_X12_93 rfl rfl ?_
    refine v_aload_n 157 1 cx dX12_latestBegin_156 rfl rfl rfl ?_
    refine v_get 160 0 16 cx dX12_latestBegin_157 iX12 (wMo_0 E st) rfl (Nat.le_of_ble_eq_true rfl) rfl kf_X12_53 rfl rfl ?_
    refine v_iload 162 5 cx dX12_latestBegin_160 rfl rfl ?_
    refine v_iald 163 15 0 cx dX12_latestBegin_162 (wMa_0_16 E st) rfl rfl h (fun v33 h => ?_)
    refine v_iald 164 28 0 cx dX12_latestBegin_163 (wMa_0_33 E st) rfl rfl h (fun v34 h => ?_)
    refine v_iload 166 0 cx dX12_latestBegin_164 rfl rfl ?_
    refine v_icmp_gt 172 169 cx dX12_latestBegin_166 (by decide) rfl h (fun h => ?_) (fun h => ?_)
    · refine v_aload_n 173 1 cx dX12_latestBegin_172 rfl rfl rfl ?_
      refine v_get 176 0 33 cx dX12_latestBegin_173 iX12 (wMo_0 E st) rfl (Nat.le_of_ble_eq_true rfl) rfl kf_X12_93 rfl rfl ?_
      refine v_aload_n 177 1 cx dX12_latestBegin_176 rfl rfl rfl ?_
      refine v_get 180 0 16 cx dX12_latestBegin_177 iX12 (wMo_0 E st) rfl (Nat.le_of_ble_eq_true rfl) rfl kf_X12_53 rfl rfl ?_
      refine v_iload 182 5 cx dX12_latestBegin_180 rfl rfl ?_
      refine v_iald 183 15 0 cx dX12_latestBegin_182 (wMa_0_16 E st) rfl rfl h (fun v35 h => ?_)
      refine v_iload 185 0 cx dX12_latestBegin_183 rfl rfl ?_
      refine v_iast 186 28 0 cx dX12_latestBegin_185 (wMa_0_33 E st) rfl (wMt_0_33 E st) rfl h (fun s36 h => ?_)
      refine v_iconst 187 cx dX12_latestBegin_186 ic_1 rfl ?_
      refine v_istore 189 (fun a37 => [(4, .int a37), (7, .int a32), (0, .ref (oX E 0)), (1, .int x1), (5, .int x5), (6, .int x6)]) cx dX12_latestBegin_187 (by decide) (fun _ => rfl) rfl h (fun a37 h => ?_)
      refine v_iinc 192 5 (fun a38 => [(6, .int a38), (4, .int a37), (7, .int a32), (0, .ref (oX E 0)), (1, .int x1), (5, .int x5)]) cx dX12_latestBegin_189 rfl ic_1 (by decide) (fun _ => rfl) rfl h (fun a38 h => ?_)
      refine v_goto 108 cx dX12_latestBegin_192 (by decide) ?_
      cases h
      have hk : Vat C (wM E) 8 108 [(0, .ref (oX E 0)), (1, .int x1), (4, .int a37), (5, .int x5), (6, .int a38)] [] s36 := hk
      exact v_lsub (lv' := [(0, .ref (oX E 0)), (1, .int x1), (4, .int a37), (5, .int x5), (6, .int a38)]) [3, 4, 1, 5, 0] rfl (hk)
    · refine v_goto 189 cx dX12_latestBegin_169 (by decide) ?_
      refine v_iinc 192 5 (fun a39 => [(6, .int a39), (7, .int a32), (0, .ref (oX E 0)), (1, .int x1), (4, .int x4), (5, .int x5)]) cx dX12_latestBegin_189 rfl ic_1 (by decide) (fun _ => rfl) rfl h (fun a39 h => ?_)
      refine v_goto 108 cx dX12_latestBegin_192 (by decide) ?_
      cases h
      have hk : Vat C (wM E) 8 108 [(0, .ref (oX E 0)), (1, .int x1), (4, .int x4), (5, .int x5), (6, .int a39)] [] st := hk
      exact v_lsub (lv' := [(0, .ref (oX E 0)), (1, .int x1), (4, .int x4), (5, .int x5), (6, .int a39)]) [2, 3, 4, 5, 0] rfl (hk)
set_option maxHeartbeats 4000000 in
set_option maxRecDepth 100000 in
theorem b_X12_latestBegin_L88 {C : Cm} {E : Ev} (cx : Cx C (tyE E) cX12_latestBegin RX12 8 3 70) (x1 : Int32) : ∀ (s : (Int32 × Int32 × Sg)) (out : (Int32 × Int32 × Sg) ⊕ (Sg)), m_X12_latestBegin_L88 x1 s.1 s.2.1 s.2.2 = some out → Sum.elim (V_X12_latestBegin_L88 C E x1) (K_X12_latestBegin_L88 C E x1) out → V_X12_latestBegin_L88 C E x1 s := by
  intro s out h hk
  obtain ⟨x4, x5, st⟩ := s
  show Vat C (wM E) 8 88 [(0, .ref (oX E 0)), (1, .int x1), (4, .int x4), (5, .int x5)] [] st
  replace h : m_X12_latestBegin_L88 x1 x4 x5 st = some out := h
  unfold m_X12_latestBegin_L88 at h
  refine v_iload 90 2 cx dX12_latestBegin_88 rfl rfl ?_
  refine v_if_eq 201 93 cx dX12_latestBegin_90 (by decide) rfl h (fun h => ?_) (fun h => ?_)
  · cases h
    have hk : Vat C (wM E) 8 201 [(0, .ref (oX E 0)), (1, .int x1)] [] st := hk
    exact v_lsub (lv' := [(0, .ref (oX E 0)), (1, .int x1)]) [0, 1] rfl (hk)
  · refine v_iload 95 3 cx dX12_latestBegin_93 rfl rfl ?_
    refine v_aload_n 96 0 cx dX12_latestBegin_95 rfl rfl rfl ?_
    refine v_getI 99 0 9 cx dX12_latestBegin_96 iX12 (wMo_0 E st) rfl (Nat.le_of_ble_eq_true rfl) rfl kf_X12_118 rfl rfl h (fun v23 h => ?_)
    refine v_icmp_gt 201 102 cx dX12_latestBegin_99 (by decide) rfl h (fun h => ?_) (fun h => ?_)
    · cases h
      have hk : Vat C (wM E) 8 201 [(0, .ref (oX E 0)), (1, .int x1)] [] st := hk
      exact v_lsub (lv' := [(0, .ref (oX E 0)), (1, .int x1)]) [0, 1] rfl (hk)
    · refine v_iconst 103 cx dX12_latestBegin_102 ic_0 rfl ?_
      refine v_istore 105 (fun a24 => [(4, .int a24), (0, .ref (oX E 0)), (1, .int x1), (5, .int x5)]) cx dX12_latestBegin_103 (by decide) (fun _ => rfl) rfl h (fun a24 h => ?_)
      refine v_iconst 106 cx dX12_latestBegin_105 ic_0 rfl ?_
      refine v_istore 108 (fun a25 => [(6, .int a25), (4, .int a24), (0, .ref (oX E 0)), (1, .int x1), (5, .int x5)]) cx dX12_latestBegin_106 (by decide) (fun _ => rfl) rfl h (fun a25 h => ?_)
      refine v_lsub (lv' := [(0, .ref (oX E 0)), (1, .int x1), (4, .int a24), (5, .int x5), (6, .int a25)]) [2, 3, 1, 4, 0] rfl ?_
      refine v_loop (s0 := (a24, a25, st)) (V_X12_latestBegin_L108 C E x1 x5) (K_X12_latestBegin_L108 C E x1 x5) h (b_X12_latestBegin_L108 cx x1 x5) (fun r40 h => ?_)
      show Vat C (wM E) 8 195 [(0, .ref (oX E 0)), (1, .int x1), (4, .int r40.1), (5, .int x5)] [] r40.2
      refine v_iinc 198 3 (fun a41 => [(5, .int a41), (0, .ref (oX E 0)), (1, .int x1), (4, .int r40.1)]) cx dX12_latestBegin_195 rfl ic_1 (by decide) (fun _ => rfl) rfl h (fun a41 h => ?_)
      refine v_goto 88 cx dX12_latestBegin_198 (by decide) ?_
      cases h
      have hk : Vat C (wM E) 8 88 [(0, .ref (oX E 0)), (1, .int x1), (4, .int r40.1), (5, .int a41)] [] r40.2 := hk
      exact v_lsub (lv' := [(0, .ref (oX E 0)), (1, .int x1), (4, .int r40.1), (5, .int a41)]) [1, 2, 3, 0] rfl (hk)
set_option maxHeartbeats 4000000 in
set_option maxRecDepth 100000 in
theorem c_X12_latestBegin (l : Launch) (E : Ev) (st : Sg) (p1 : Int32) : ∀ q, m_X12_latestBegin p1 st = some q → CtI l (wM E) (tyE E) yX12_latestBegin cX12_latestBegin 8 (some .int) 3 70 [.ref (oX E 0), .int p1] st q := by
  intro q h
  refine ctI_of (lv0 := [(0, .ref (oX E 0)), (1, .int p1)]) (by decide) rfl (Nat.le_of_ble_eq_true rfl) (fun C hC cx hk => ?_)
  replace cx : Cx C (tyE E) cX12_latestBegin RX12 8 3 70 := cx
  unfold m_X12_latestBegin at h
  refine v_aload_n 1 0 cx dX12_latestBegin_0 rfl rfl rfl ?_
  refine v_callVV 4 0 cx dX12_latestBegin_1 km_X12_177 ca_X12_gather (wMo_0 E st) rfl (c_X12_gather C.2.1 E st ) rfl (by decide) rfl (Nat.le_of_ble_eq_true rfl) rfl h (fun _ s1 h => ?_)
  refine v_aload_n 5 0 cx dX12_latestBegin_4 rfl rfl rfl ?_
  refine v_aload_n 6 0 cx dX12_latestBegin_5 rfl rfl rfl ?_
  refine v_getI 9 0 27 cx dX12_latestBegin_6 iX12 (wMo_0 E s1) rfl (Nat.le_of_ble_eq_true rfl) rfl kf_X12_121 rfl rfl h (fun v2 h => ?_)
  refine v_callVI 12 0 cx dX12_latestBegin_9 km_X12_197 ca_X12_rests (wMo_0 E s1) rfl (c_X12_rests C.2.1 E s1 v2 ) rfl (by decide) rfl (Nat.le_of_ble_eq_true rfl) rfl h (fun v4 s3 h => ?_)
  refine v_istore_n 13 (fun a5 => [(2, .int a5), (0, .ref (oX E 0)), (1, .int p1)]) cx dX12_latestBegin_12 rfl (by decide) (fun _ => rfl) rfl h (fun a5 h => ?_)
  refine v_iconst 14 cx dX12_latestBegin_13 ic_0 rfl ?_
  refine v_istore_n 15 (fun a6 => [(3, .int a6), (2, .int a5), (0, .ref (oX E 0)), (1, .int p1)]) cx dX12_latestBegin_14 rfl (by decide) (fun _ => rfl) rfl h (fun a6 h => ?_)
  refine v_iconst 16 cx dX12_latestBegin_15 ic_0 rfl ?_
  refine v_istore 18 (fun a7 => [(4, .int a7), (3, .int a6), (2, .int a5), (0, .ref (oX E 0)), (1, .int p1)]) cx dX12_latestBegin_16 (by decide) (fun _ => rfl) rfl h (fun a7 h => ?_)
  refine v_lsub (lv' := [(0, .ref (oX E 0)), (1, .int p1), (3, .int a6), (4, .int a7)]) [3, 4, 1, 0] rfl ?_
  refine v_loop (s0 := (a6, a7, s3)) (V_X12_latestBegin_L18 C E p1) (K_X12_latestBegin_L18 C E p1) h (b_X12_latestBegin_L18 cx p1) (fun r15 h => ?_)
  show Vat C (wM E) 8 56 [(0, .ref (oX E 0)), (1, .int p1), (3, .int r15.1)] [] r15.2
  refine v_iconst 57 cx dX12_latestBegin_56 ic_0 rfl ?_
  refine v_istore 59 (fun a16 => [(4, .int a16), (0, .ref (oX E 0)), (1, .int p1), (3, .int r15.1)]) cx dX12_latestBegin_57 (by decide) (fun _ => rfl) rfl h (fun a16 h => ?_)
  refine v_lsub (lv' := [(0, .ref (oX E 0)), (1, .int p1), (3, .int r15.1), (4, .int a16)]) [1, 2, 3, 0] rfl ?_
  refine v_loop (s0 := (a16, r15.2)) (V_X12_latestBegin_L59 C E p1 r15.1) (K_X12_latestBegin_L59 C E p1 r15.1) h (b_X12_latestBegin_L59 cx p1 r15.1) (fun r20 h => ?_)
  show Vat C (wM E) 8 82 [(0, .ref (oX E 0)), (1, .int p1)] [] r20
  refine v_iconst 83 cx dX12_latestBegin_82 ic_1 rfl ?_
  refine v_istore 85 (fun a21 => [(4, .int a21), (0, .ref (oX E 0)), (1, .int p1)]) cx dX12_latestBegin_83 (by decide) (fun _ => rfl) rfl h (fun a21 h => ?_)
  refine v_iconst 86 cx dX12_latestBegin_85 ic_0 rfl ?_
  refine v_istore 88 (fun a22 => [(5, .int a22), (4, .int a21), (0, .ref (oX E 0)), (1, .int p1)]) cx dX12_latestBegin_86 (by decide) (fun _ => rfl) rfl h (fun a22 h => ?_)
  refine v_lsub (lv' := [(0, .ref (oX E 0)), (1, .int p1), (4, .int a21), (5, .int a22)]) [2, 3, 1, 0] rfl ?_
  refine v_loop (s0 := (a21, a22, r20)) (V_X12_latestBegin_L88 C E p1) (K_X12_latestBegin_L88 C E p1) h (b_X12_latestBegin_L88 cx p1) (fun r42 h => ?_)
  show Vat C (wM E) 8 201 [(0, .ref (oX E 0)), (1, .int p1)] [] r42
  refine v_aload_n 202 0 cx dX12_latestBegin_201 rfl rfl rfl ?_
  refine v_get 205 0 33 cx dX12_latestBegin_202 iX12 (wMo_0 E r42) rfl (Nat.le_of_ble_eq_true rfl) rfl kf_X12_93 rfl rfl ?_
  refine v_iload_n 206 1 cx dX12_latestBegin_205 rfl rfl rfl ?_
  refine v_iald 207 28 0 cx dX12_latestBegin_206 (wMa_0_33 E r42) rfl rfl h (fun v43 h => ?_)
  exact hk _ _ _ _ (Option.some.inj h) dX12_latestBegin_207
set_option maxHeartbeats 4000000 in
set_option maxRecDepth 100000 in
theorem c_X12_lowestBeat (l : Launch) (E : Ev) (st : Sg) : ∀ q, m_X12_lowestBeat st = some q → CtI l (wM E) (tyE E) yX12_lowestBeat cX12_lowestBeat 3 (some .int) 3 70 [.ref (oX E 0)] st q := by
  intro q h
  refine ctI_of (lv0 := [(0, .ref (oX E 0))]) (by decide) rfl (Nat.le_of_ble_eq_true rfl) (fun C hC cx hk => ?_)
  replace cx : Cx C (tyE E) cX12_lowestBeat RX12 3 3 70 := cx
  unfold m_X12_lowestBeat at h
  refine v_aload_n 1 0 cx dX12_lowestBeat_0 rfl rfl rfl ?_
  refine v_callVV 4 0 cx dX12_lowestBeat_1 km_X12_177 ca_X12_gather (wMo_0 E st) rfl (c_X12_gather C.2.1 E st ) rfl (by decide) rfl (Nat.le_of_ble_eq_true rfl) rfl h (fun _ s1 h => ?_)
  refine v_aload_n 5 0 cx dX12_lowestBeat_4 rfl rfl rfl ?_
  refine v_callVI 8 0 cx dX12_lowestBeat_5 km_X12_204 ca_X12_byUnits (wMo_0 E s1) rfl (c_X12_byUnits C.2.1 E s1 ) rfl (by decide) rfl (Nat.le_of_ble_eq_true rfl) rfl h (fun v3 s2 h => ?_)
  refine v_istore_n 9 (fun a4 => [(1, .int a4), (0, .ref (oX E 0))]) cx dX12_lowestBeat_8 rfl (by decide) (fun _ => rfl) rfl h (fun a4 h => ?_)
  refine v_aload_n 10 1 cx dX12_lowestBeat_9 rfl rfl rfl ?_
  refine v_callVI 13 0 cx dX12_lowestBeat_10 km_X12_207 ca_X12_byRings (wMo_0 E s2) rfl (c_X12_byRings C.2.1 E s2 ) rfl (by decide) rfl (Nat.le_of_ble_eq_true rfl) rfl h (fun v6 s5 h => ?_)
  refine v_istore_n 14 (fun a7 => [(2, .int a7), (1, .int a4), (0, .ref (oX E 0))]) cx dX12_lowestBeat_13 rfl (by decide) (fun _ => rfl) rfl h (fun a7 h => ?_)
  refine v_iload_n 15 1 cx dX12_lowestBeat_14 rfl rfl rfl ?_
  refine v_iload_n 16 0 cx dX12_lowestBeat_15 rfl rfl rfl ?_
  refine v_icmp_le 23 19 cx dX12_lowestBeat_16 (by decide) rfl h (fun h => ?_) (fun h => ?_)
  · refine v_iload_n 24 0 cx dX12_lowestBeat_23 rfl rfl rfl ?_
    exact hk _ _ _ _ (Option.some.inj h) dX12_lowestBeat_24
  · refine v_iload_n 20 1 cx dX12_lowestBeat_19 rfl rfl rfl ?_
    refine v_goto 24 cx dX12_lowestBeat_20 (by decide) ?_
    exact hk _ _ _ _ (Option.some.inj h) dX12_lowestBeat_24
def V_X12_tries_L9 (C : Cm) (E : Ev) (x1 : Int32) (s : (Int32 × Sg)) : Prop := Vat C (wM E) 3 9 [(0, .ref (oX E 0)), (1, .int x1), (2, .int s.1)] [] s.2
def K_X12_tries_L9 (C : Cm) (E : Ev) (x1 : Int32) : ((Sg) ⊕ ((Sg) ⊕ (Sg))) → Prop := (Sum.elim (fun r : (Sg) => Vat C (wM E) 3 131 [] [] r) (Sum.elim (fun r : (Sg) => Vat C (wM E) 3 61 [] [] r) (fun r : (Sg) => Vat C (wM E) 3 119 [] [] r)))
set_option maxHeartbeats 4000000 in
set_option maxRecDepth 100000 in
theorem j_X12_tries_95 {C : Cm} {E : Ev} (cx : Cx C (tyE E) cX12_tries RX12 3 2 49) (x1 : Int32) (x2 : Int32) (st : Sg) (out : (Int32 × Sg) ⊕ ((Sg) ⊕ ((Sg) ⊕ (Sg)))) (h : m_X12_tries_95 x1 x2 st = some out) (hk : Sum.elim (V_X12_tries_L9 C E x1) (K_X12_tries_L9 C E x1) out) : Vat C (wM E) 3 95 [(0, .ref (oX E 0)), (1, .int x1), (2, .int x2)] [] st := by
  unfold m_X12_tries_95 at h
  refine v_aload_n 96 0 cx dX12_tries_95 rfl rfl rfl ?_
  refine v_get 99 0 34 cx dX12_tries_96 iX12 (wMo_0 E st) rfl (Nat.le_of_ble_eq_true rfl) rfl kf_X12_96 rfl rfl ?_
  refine v_iload_n 100 2 cx dX12_tries_99 rfl rfl rfl ?_
  refine v_dup2 101 cx dX12_tries_100 rfl rfl rfl ?_
  refine v_iald 102 29 0 cx dX12_tries_101 (wMa_0_34 E st) rfl rfl h (fun v9 h => ?_)
  refine v_iconst 103 cx dX12_tries_102 ic_1 rfl ?_
  refine v_iadd 104 cx dX12_tries_103 rfl ?_
  refine v_iast 105 29 0 cx dX12_tries_104 (wMa_0_34 E st) rfl (wMt_0_34 E st) rfl h (fun s10 h => ?_)
  refine v_goto 9 cx dX12_tries_105 (by decide) ?_
  cases h
  have hk : Vat C (wM E) 3 9 [(0, .ref (oX E 0)), (1, .int x1), (2, .int x2)] [] s10 := hk
  exact hk
set_option maxHeartbeats 4000000 in
set_option maxRecDepth 100000 in
theorem j_X12_tries_28 {C : Cm} {E : Ev} (cx : Cx C (tyE E) cX12_tries RX12 3 2 49) (x1 : Int32) (x2 : Int32) (t0 : Int32) (t1 : Int32) (st : Sg) (out : (Int32 × Sg) ⊕ ((Sg) ⊕ ((Sg) ⊕ (Sg)))) (h : m_X12_tries_28 x1 x2 t0 t1 st = some out) (hk : Sum.elim (V_X12_tries_L9 C E x1) (K_X12_tries_L9 C E x1) out) : Vat C (wM E) 3 28 [(0, .ref (oX E 0)), (1, .int x1), (2, .int x2)] [.int t0, .int t1] st := by
  unfold m_X12_tries_28 at h
  refine v_icmp_ne 51 31 cx dX12_tries_28 (by decide) rfl h (fun h => ?_) (fun h => ?_)
  · refine v_aload_n 52 0 cx dX12_tries_51 rfl rfl rfl ?_
    refine v_getI 55 0 32 cx dX12_tries_52 iX12 (wMo_0 E st) rfl (Nat.le_of_ble_eq_true rfl) rfl kf_X12_221 rfl rfl h (fun v4 h => ?_)
    refine v_sipush 58 cx dX12_tries_55 sp_3000 rfl ?_
    refine v_icmp_ne 63 61 cx dX12_tries_58 (by decide) rfl h (fun h => ?_) (fun h => ?_)
    · refine v_aload_n 64 0 cx dX12_tries_63 rfl rfl rfl ?_
      refine v_dup 65 cx dX12_tries_64 rfl rfl ?_
      refine v_getI 68 0 32 cx dX12_tries_65 iX12 (wMo_0 E st) rfl (Nat.le_of_ble_eq_true rfl) rfl kf_X12_221 rfl rfl h (fun v5 h => ?_)
      refine v_iconst 69 cx dX12_tries_68 ic_1 rfl ?_
      refine v_iadd 70 cx dX12_tries_69 rfl ?_
      refine v_putI 73 0 32 cx dX12_tries_70 iX12 tyX12_ok nmX12 (wMo_0 E st) rfl (Nat.le_of_ble_eq_true rfl) rfl kf_X12_221 rfl rfl rfl rfl (Nat.le_of_ble_eq_true rfl) (wMs_0_32 E st _) rfl h (fun s6 h => ?_)
      refine v_aload_n 74 0 cx dX12_tries_73 rfl rfl rfl ?_
      refine v_iload_n 75 2 cx dX12_tries_74 rfl rfl rfl ?_
      refine v_iconst 76 cx dX12_tries_75 ic_1 rfl ?_
      refine v_iadd 77 cx dX12_tries_76 rfl ?_
      refine v_iload_n 78 1 cx dX12_tries_77 rfl rfl rfl ?_
      refine v_callVI 81 0 cx dX12_tries_78 km_X12_224 ca_X12_fits (wMo_0 E s6) rfl (c_X12_fits C.2.1 E s6 (x2 + 1) x1 ) rfl (by decide) rfl (Nat.le_of_ble_eq_true rfl) rfl h (fun v8 s7 h => ?_)
      refine v_if_eq 95 84 cx dX12_tries_81 (by decide) rfl h (fun h => ?_) (fun h => ?_)
      · exact j_X12_tries_95 cx x1 x2 s7 _ h hk
      · refine v_aload_n 85 0 cx dX12_tries_84 rfl rfl rfl ?_
        refine v_iload_n 86 2 cx dX12_tries_85 rfl rfl rfl ?_
        refine v_iconst 87 cx dX12_tries_86 ic_1 rfl ?_
        refine v_iadd 88 cx dX12_tries_87 rfl ?_
        refine v_iload_n 89 1 cx dX12_tries_88 rfl rfl rfl ?_
        refine v_callVI 92 0 cx dX12_tries_89 km_X12_227 ca_X12_holds (wMo_0 E s7) rfl (c_X12_holds C.2.1 E s7 (x2 + 1) x1 ) rfl (by decide) rfl (Nat.le_of_ble_eq_true rfl) rfl h (fun v12 s11 h => ?_)
        refine v_if_ne 108 95 cx dX12_tries_92 (by decide) rfl h (fun h => ?_) (fun h => ?_)
        · refine v_iinc 111 2 (fun a13 => [(2, .int a13), (0, .ref (oX E 0)), (1, .int x1)]) cx dX12_tries_108 rfl ic_1 (by decide) (fun _ => rfl) rfl h (fun a13 h => ?_)
          refine v_iload_n 112 0 cx dX12_tries_111 rfl rfl rfl ?_
          refine v_aload_n 113 1 cx dX12_tries_112 rfl rfl rfl ?_
          refine v_getI 116 0 9 cx dX12_tries_113 iX12 (wMo_0 E s11) rfl (Nat.le_of_ble_eq_true rfl) rfl kf_X12_118 rfl rfl h (fun v14 h => ?_)
          refine v_icmp_ne 121 119 cx dX12_tries_116 (by decide) rfl h (fun h => ?_) (fun h => ?_)
          · refine v_aload_n 122 1 cx dX12_tries_121 rfl rfl rfl ?_
            refine v_get 125 0 34 cx dX12_tries_122 iX12 (wMo_0 E s11) rfl (Nat.le_of_ble_eq_true rfl) rfl kf_X12_96 rfl rfl ?_
            refine v_iload_n 126 0 cx dX12_tries_125 rfl rfl rfl ?_
            refine v_iconst 127 cx dX12_tries_126 ic_0 rfl ?_
            refine v_iast 128 29 0 cx dX12_tries_127 (wMa_0_34 E s11) rfl (wMt_0_34 E s11) rfl h (fun s15 h => ?_)
            refine v_goto 9 cx dX12_tries_128 (by decide) ?_
            cases h
            have hk : Vat C (wM E) 3 9 [(0, .ref (oX E 0)), (1, .int x1), (2, .int a13)] [] s15 := hk
            exact v_lsub (lv' := [(0, .ref (oX E 0)), (1, .int x1), (2, .int a13)]) [1, 2, 0] rfl (hk)
          · cases h
            have hk : Vat C (wM E) 3 119 [] [] s11 := hk
            exact v_lsub (lv' := []) [] rfl (hk)
        · exact j_X12_tries_95 cx x1 x2 s11 _ h hk
    · cases h
      have hk : Vat C (wM E) 3 61 [] [] st := hk
      exact v_lsub (lv' := []) [] rfl (hk)
  · refine v_iinc 34 2 (fun a16 => [(2, .int a16), (0, .ref (oX E 0)), (1, .int x1)]) cx dX12_tries_31 rfl ic_m1 (by decide) (fun _ => rfl) rfl h (fun a16 h => ?_)
    refine v_iload_n 35 0 cx dX12_tries_34 rfl rfl rfl ?_
    refine v_if_lt 9 38 cx dX12_tries_35 (by decide) rfl h (fun h => ?_) (fun h => ?_)
    · cases h
      have hk : Vat C (wM E) 3 9 [(0, .ref (oX E 0)), (1, .int x1), (2, .int a16)] [] st := hk
      exact v_lsub (lv' := [(0, .ref (oX E 0)), (1, .int x1), (2, .int a16)]) [1, 2, 0] rfl (hk)
    · refine v_aload_n 39 1 cx dX12_tries_38 rfl rfl rfl ?_
      refine v_get 42 0 34 cx dX12_tries_39 iX12 (wMo_0 E st) rfl (Nat.le_of_ble_eq_true rfl) rfl kf_X12_96 rfl rfl ?_
      refine v_iload_n 43 0 cx dX12_tries_42 rfl rfl rfl ?_
      refine v_dup2 44 cx dX12_tries_43 rfl rfl rfl ?_
      refine v_iald 45 29 0 cx dX12_tries_44 (wMa_0_34 E st) rfl rfl h (fun v17 h => ?_)
      refine v_iconst 46 cx dX12_tries_45 ic_1 rfl ?_
      refine v_iadd 47 cx dX12_tries_46 rfl ?_
      refine v_iast 48 29 0 cx dX12_tries_47 (wMa_0_34 E st) rfl (wMt_0_34 E st) rfl h (fun s18 h => ?_)
      refine v_goto 9 cx dX12_tries_48 (by decide) ?_
      cases h
      have hk : Vat C (wM E) 3 9 [(0, .ref (oX E 0)), (1, .int x1), (2, .int a16)] [] s18 := hk
      exact v_lsub (lv' := [(0, .ref (oX E 0)), (1, .int x1), (2, .int a16)]) [1, 2, 0] rfl (hk)
set_option maxHeartbeats 4000000 in
set_option maxRecDepth 100000 in
theorem b_X12_tries_L9 {C : Cm} {E : Ev} (cx : Cx C (tyE E) cX12_tries RX12 3 2 49) (x1 : Int32) : ∀ (s : (Int32 × Sg)) (out : (Int32 × Sg) ⊕ ((Sg) ⊕ ((Sg) ⊕ (Sg)))), m_X12_tries_L9 x1 s.1 s.2 = some out → Sum.elim (V_X12_tries_L9 C E x1) (K_X12_tries_L9 C E x1) out → V_X12_tries_L9 C E x1 s := by
  intro s out h hk
  obtain ⟨x2, st⟩ := s
  show Vat C (wM E) 3 9 [(0, .ref (oX E 0)), (1, .int x1), (2, .int x2)] [] st
  replace h : m_X12_tries_L9 x1 x2 st = some out := h
  unfold m_X12_tries_L9 at h
  refine v_iload_n 10 2 cx dX12_tries_9 rfl rfl rfl ?_
  refine v_if_lt 131 13 cx dX12_tries_10 (by decide) rfl h (fun h => ?_) (fun h => ?_)
  · cases h
    have hk : Vat C (wM E) 3 131 [] [] st := hk
    exact v_lsub (lv' := []) [] rfl (hk)
  · refine v_aload_n 14 0 cx dX12_tries_13 rfl rfl rfl ?_
    refine v_get 17 0 34 cx dX12_tries_14 iX12 (wMo_0 E st) rfl (Nat.le_of_ble_eq_true rfl) rfl kf_X12_96 rfl rfl ?_
    refine v_iload_n 18 2 cx dX12_tries_17 rfl rfl rfl ?_
    refine v_iald 19 29 0 cx dX12_tries_18 (wMa_0_34 E st) rfl rfl h (fun v3 h => ?_)
    refine v_iload_n 20 2 cx dX12_tries_19 rfl rfl rfl ?_
    refine v_if_ne 27 23 cx dX12_tries_20 (by decide) rfl h (fun h => ?_) (fun h => ?_)
    · refine v_iload_n 28 1 cx dX12_tries_27 rfl rfl rfl ?_
      exact j_X12_tries_28 cx x1 x2 x1 v3 st _ h hk
    · refine v_iconst 24 cx dX12_tries_23 ic_1 rfl ?_
      refine v_goto 28 cx dX12_tries_24 (by decide) ?_
      exact j_X12_tries_28 cx x1 x2 1 v3 st _ h hk
set_option maxHeartbeats 4000000 in
set_option maxRecDepth 100000 in
theorem c_X12_tries (l : Launch) (E : Ev) (st : Sg) (p1 : Int32) : ∀ q, m_X12_tries p1 st = some q → CtI l (wM E) (tyE E) yX12_tries cX12_tries 3 (some .int) 2 49 [.ref (oX E 0), .int p1] st q := by
  intro q h
  refine ctI_of (lv0 := [(0, .ref (oX E 0)), (1, .int p1)]) (by decide) rfl (Nat.le_of_ble_eq_true rfl) (fun C hC cx hk => ?_)
  replace cx : Cx C (tyE E) cX12_tries RX12 3 2 49 := cx
  unfold m_X12_tries at h
  refine v_iconst 1 cx dX12_tries_0 ic_0 rfl ?_
  refine v_istore_n 2 (fun a1 => [(2, .int a1), (0, .ref (oX E 0)), (1, .int p1)]) cx dX12_tries_1 rfl (by decide) (fun _ => rfl) rfl h (fun a1 h => ?_)
  refine v_aload_n 3 1 cx dX12_tries_2 rfl rfl rfl ?_
  refine v_get 6 0 34 cx dX12_tries_3 iX12 (wMo_0 E st) rfl (Nat.le_of_ble_eq_true rfl) rfl kf_X12_96 rfl rfl ?_
  refine v_iconst 7 cx dX12_tries_6 ic_0 rfl ?_
  refine v_iconst 8 cx dX12_tries_7 ic_0 rfl ?_
  refine v_iast 9 29 0 cx dX12_tries_8 (wMa_0_34 E st) rfl (wMt_0_34 E st) rfl h (fun s2 h => ?_)
  refine v_lsub (lv' := [(0, .ref (oX E 0)), (1, .int p1), (2, .int a1)]) [1, 2, 0] rfl ?_
  refine v_loop (s0 := (a1, s2)) (V_X12_tries_L9 C E p1) (K_X12_tries_L9 C E p1) h (b_X12_tries_L9 cx p1) (fun r19 h => ?_)
  rcases r19 with r19 | r19
  · rw [Sum.elim_inl] at h
    show Vat C (wM E) 3 131 [] [] r19
    refine v_iconst 132 cx dX12_tries_131 ic_3 rfl ?_
    exact hk _ _ _ _ (Option.some.inj h) dX12_tries_132
  · rw [Sum.elim_inr] at h
    rcases r19 with r19 | r19
    · rw [Sum.elim_inl] at h
      show Vat C (wM E) 3 61 [] [] r19
      refine v_iconst 62 cx dX12_tries_61 ic_4 rfl ?_
      exact hk _ _ _ _ (Option.some.inj h) dX12_tries_62
    · rw [Sum.elim_inr] at h
      show Vat C (wM E) 3 119 [] [] r19
      refine v_iconst 120 cx dX12_tries_119 ic_0 rfl ?_
      exact hk _ _ _ _ (Option.some.inj h) dX12_tries_120
def V_X12_lay_L26 (C : Cm) (E : Ev) (s : (Int32 × Int32 × Sg)) : Prop := Vat C (wM E) 4 26 [(0, .ref (oX E 0)), (1, .int s.1), (2, .int s.2.1)] [] s.2.2
def K_X12_lay_L26 (C : Cm) (E : Ev) : (Int32 × Int32 × Sg) → Prop := (fun r : (Int32 × Int32 × Sg) => Vat C (wM E) 4 54 [(0, .ref (oX E 0)), (1, .int r.1), (2, .int r.2.1)] [] r.2.2)
set_option maxHeartbeats 4000000 in
set_option maxRecDepth 100000 in
theorem b_X12_lay_L26 {C : Cm} {E : Ev} (cx : Cx C (tyE E) cX12_lay RX12 4 4 92) : ∀ (s : (Int32 × Int32 × Sg)) (out : (Int32 × Int32 × Sg) ⊕ (Int32 × Int32 × Sg)), m_X12_lay_L26 s.1 s.2.1 s.2.2 = some out → Sum.elim (V_X12_lay_L26 C E) (K_X12_lay_L26 C E) out → V_X12_lay_L26 C E s := by
  intro s out h hk
  obtain ⟨x1, x2, st⟩ := s
  show Vat C (wM E) 4 26 [(0, .ref (oX E 0)), (1, .int x1), (2, .int x2)] [] st
  replace h : m_X12_lay_L26 x1 x2 st = some out := h
  unfold m_X12_lay_L26 at h
  refine v_iload_n 27 2 cx dX12_lay_26 rfl rfl rfl ?_
  refine v_bipush 29 cx dX12_lay_27 bp_60 rfl ?_
  refine v_icmp_gt 54 32 cx dX12_lay_29 (by decide) rfl h (fun h => ?_) (fun h => ?_)
  · cases h
    have hk : Vat C (wM E) 4 54 [(0, .ref (oX E 0)), (1, .int x1), (2, .int x2)] [] st := hk
    exact hk
  · refine v_iload_n 33 1 cx dX12_lay_32 rfl rfl rfl ?_
    refine v_iconst 34 cx dX12_lay_33 ic_3 rfl ?_
    refine v_icmp_ne 54 37 cx dX12_lay_34 (by decide) rfl h (fun h => ?_) (fun h => ?_)
    · cases h
      have hk : Vat C (wM E) 4 54 [(0, .ref (oX E 0)), (1, .int x1), (2, .int x2)] [] st := hk
      exact hk
    · refine v_aload_n 38 0 cx dX12_lay_37 rfl rfl rfl ?_
      refine v_iload_n 39 2 cx dX12_lay_38 rfl rfl rfl ?_
      refine v_callVI 42 0 cx dX12_lay_39 km_X12_230 ca_X12_tries (wMo_0 E st) rfl (c_X12_tries C.2.1 E st x2 ) rfl (by decide) rfl (Nat.le_of_ble_eq_true rfl) rfl h (fun v9 s8 h => ?_)
      refine v_istore_n 43 (fun a10 => [(1, .int a10), (0, .ref (oX E 0)), (2, .int x2)]) cx dX12_lay_42 rfl (by decide) (fun _ => rfl) rfl h (fun a10 h => ?_)
      refine v_iload_n 44 0 cx dX12_lay_43 rfl rfl rfl ?_
      refine v_iconst 45 cx dX12_lay_44 ic_3 rfl ?_
      refine v_icmp_ne 26 48 cx dX12_lay_45 (by decide) rfl h (fun h => ?_) (fun h => ?_)
      · cases h
        have hk : Vat C (wM E) 4 26 [(0, .ref (oX E 0)), (1, .int a10), (2, .int x2)] [] s8 := hk
        exact v_lsub (lv' := [(0, .ref (oX E 0)), (1, .int a10), (2, .int x2)]) [1, 0, 2] rfl (hk)
      · refine v_iinc 51 2 (fun a11 => [(2, .int a11), (1, .int a10), (0, .ref (oX E 0))]) cx dX12_lay_48 rfl ic_1 (by decide) (fun _ => rfl) rfl h (fun a11 h => ?_)
        refine v_goto 26 cx dX12_lay_51 (by decide) ?_
        cases h
        have hk : Vat C (wM E) 4 26 [(0, .ref (oX E 0)), (1, .int a10), (2, .int a11)] [] s8 := hk
        exact v_lsub (lv' := [(0, .ref (oX E 0)), (1, .int a10), (2, .int a11)]) [2, 1, 0] rfl (hk)
def V_X12_lay_L82 (C : Cm) (E : Ev) (x2 : Int32) (s : (Int32 × Sg)) : Prop := Vat C (wM E) 4 82 [(0, .ref (oX E 0)), (2, .int x2), (3, .int s.1)] [] s.2
def K_X12_lay_L82 (C : Cm) (E : Ev) (x2 : Int32) : (Sg) → Prop := (fun r : (Sg) => Vat C (wM E) 4 153 [(2, .int x2)] [] r)
set_option maxHeartbeats 4000000 in
set_option maxRecDepth 100000 in
theorem b_X12_lay_L82 {C : Cm} {E : Ev} (cx : Cx C (tyE E) cX12_lay RX12 4 4 92) (x2 : Int32) : ∀ (s : (Int32 × Sg)) (out : (Int32 × Sg) ⊕ (Sg)), m_X12_lay_L82 x2 s.1 s.2 = some out → Sum.elim (V_X12_lay_L82 C E x2) (K_X12_lay_L82 C E x2) out → V_X12_lay_L82 C E x2 s := by
  intro s out h hk
  obtain ⟨x3, st⟩ := s
  show Vat C (wM E) 4 82 [(0, .ref (oX E 0)), (2, .int x2), (3, .int x3)] [] st
  replace h : m_X12_lay_L82 x2 x3 st = some out := h
  unfold m_X12_lay_L82 at h
  refine v_iload_n 83 2 cx dX12_lay_82 rfl rfl rfl ?_
  refine v_aload_n 84 0 cx dX12_lay_83 rfl rfl rfl ?_
  refine v_getI 87 0 9 cx dX12_lay_84 iX12 (wMo_0 E st) rfl (Nat.le_of_ble_eq_true rfl) rfl kf_X12_118 rfl rfl h (fun v15 h => ?_)
  refine v_icmp_ge 153 90 cx dX12_lay_87 (by decide) rfl h (fun h => ?_) (fun h => ?_)
  · cases h
    have hk : Vat C (wM E) 4 153 [(2, .int x2)] [] st := hk
    exact v_lsub (lv' := [(2, .int x2)]) [1] rfl (hk)
  · refine v_aload_n 91 0 cx dX12_lay_90 rfl rfl rfl ?_
    refine v_get 94 0 28 cx dX12_lay_91 iX12 (wMo_0 E st) rfl (Nat.le_of_ble_eq_true rfl) rfl kf_X12_81 rfl rfl ?_
    refine v_iload_n 95 2 cx dX12_lay_94 rfl rfl rfl ?_
    refine v_aload_n 96 0 cx dX12_lay_95 rfl rfl rfl ?_
    refine v_get 99 0 34 cx dX12_lay_96 iX12 (wMo_0 E st) rfl (Nat.le_of_ble_eq_true rfl) rfl kf_X12_96 rfl rfl ?_
    refine v_iload_n 100 2 cx dX12_lay_99 rfl rfl rfl ?_
    refine v_iald 101 29 0 cx dX12_lay_100 (wMa_0_34 E st) rfl rfl h (fun v16 h => ?_)
    refine v_iast 102 24 0 cx dX12_lay_101 (wMa_0_28 E st) rfl (wMt_0_28 E st) rfl h (fun s17 h => ?_)
    refine v_aload_n 103 0 cx dX12_lay_102 rfl rfl rfl ?_
    refine v_get 106 0 29 cx dX12_lay_103 iX12 (wMo_0 E s17) rfl (Nat.le_of_ble_eq_true rfl) rfl kf_X12_84 rfl rfl ?_
    refine v_iload_n 107 2 cx dX12_lay_106 rfl rfl rfl ?_
    refine v_aload_n 108 0 cx dX12_lay_107 rfl rfl rfl ?_
    refine v_get 111 0 33 cx dX12_lay_108 iX12 (wMo_0 E s17) rfl (Nat.le_of_ble_eq_true rfl) rfl kf_X12_93 rfl rfl ?_
    refine v_iload_n 112 2 cx dX12_lay_111 rfl rfl rfl ?_
    refine v_iald 113 28 0 cx dX12_lay_112 (wMa_0_33 E s17) rfl rfl h (fun v18 h => ?_)
    refine v_iast 114 25 0 cx dX12_lay_113 (wMa_0_29 E s17) rfl (wMt_0_29 E s17) rfl h (fun s19 h => ?_)
    refine v_aload_n 115 0 cx dX12_lay_114 rfl rfl rfl ?_
    refine v_get 118 0 30 cx dX12_lay_115 iX12 (wMo_0 E s19) rfl (Nat.le_of_ble_eq_true rfl) rfl kf_X12_87 rfl rfl ?_
    refine v_iload_n 119 2 cx dX12_lay_118 rfl rfl rfl ?_
    refine v_iload_n 120 1 cx dX12_lay_119 rfl rfl rfl ?_
    refine v_aload_n 121 0 cx dX12_lay_120 rfl rfl rfl ?_
    refine v_get 124 0 33 cx dX12_lay_121 iX12 (wMo_0 E s19) rfl (Nat.le_of_ble_eq_true rfl) rfl kf_X12_93 rfl rfl ?_
    refine v_iload_n 125 2 cx dX12_lay_124 rfl rfl rfl ?_
    refine v_iald 126 28 0 cx dX12_lay_125 (wMa_0_33 E s19) rfl rfl h (fun v20 h => ?_)
    refine v_imul 127 cx dX12_lay_126 rfl ?_
    refine v_aload_n 128 0 cx dX12_lay_127 rfl rfl rfl ?_
    refine v_get 131 0 34 cx dX12_lay_128 iX12 (wMo_0 E s19) rfl (Nat.le_of_ble_eq_true rfl) rfl kf_X12_96 rfl rfl ?_
    refine v_iload_n 132 2 cx dX12_lay_131 rfl rfl rfl ?_
    refine v_iald 133 29 0 cx dX12_lay_132 (wMa_0_34 E s19) rfl rfl h (fun v21 h => ?_)
    refine v_iadd 134 cx dX12_lay_133 rfl ?_
    refine v_iast 135 26 0 cx dX12_lay_134 (wMa_0_30 E s19) rfl (wMt_0_30 E s19) rfl h (fun s22 h => ?_)
    refine v_aload_n 136 0 cx dX12_lay_135 rfl rfl rfl ?_
    refine v_get 139 0 31 cx dX12_lay_136 iX12 (wMo_0 E s22) rfl (Nat.le_of_ble_eq_true rfl) rfl kf_X12_90 rfl rfl ?_
    refine v_iload_n 140 2 cx dX12_lay_139 rfl rfl rfl ?_
    refine v_aload_n 141 0 cx dX12_lay_140 rfl rfl rfl ?_
    refine v_get 144 0 30 cx dX12_lay_141 iX12 (wMo_0 E s22) rfl (Nat.le_of_ble_eq_true rfl) rfl kf_X12_87 rfl rfl ?_
    refine v_iload_n 145 2 cx dX12_lay_144 rfl rfl rfl ?_
    refine v_iald 146 26 0 cx dX12_lay_145 (wMa_0_30 E s22) rfl rfl h (fun v23 h => ?_)
    refine v_iast 147 27 0 cx dX12_lay_146 (wMa_0_31 E s22) rfl (wMt_0_31 E s22) rfl h (fun s24 h => ?_)
    refine v_iinc 150 2 (fun a25 => [(3, .int a25), (0, .ref (oX E 0)), (2, .int x2)]) cx dX12_lay_147 rfl ic_1 (by decide) (fun _ => rfl) rfl h (fun a25 h => ?_)
    refine v_goto 82 cx dX12_lay_150 (by decide) ?_
    cases h
    have hk : Vat C (wM E) 4 82 [(0, .ref (oX E 0)), (2, .int x2), (3, .int a25)] [] s24 := hk
    exact v_lsub (lv' := [(0, .ref (oX E 0)), (2, .int x2), (3, .int a25)]) [1, 2, 0] rfl (hk)
set_option maxHeartbeats 4000000 in
set_option maxRecDepth 100000 in
theorem j_X12_lay_54 {C : Cm} {E : Ev} (cx : Cx C (tyE E) cX12_lay RX12 4 4 92) (x1 : Int32) (x2 : Int32) (st : Sg) (out : Int32 × Sg) (h : m_X12_lay_54 x1 x2 st = some out) (hk : ReI C (wM E) cX12_lay 4 out) : Vat C (wM E) 4 54 [(0, .ref (oX E 0)), (1, .int x1), (2, .int x2)] [] st := by
  unfold m_X12_lay_54 at h
  refine v_iload_n 55 1 cx dX12_lay_54 rfl rfl rfl ?_
  refine v_if_eq 75 58 cx dX12_lay_55 (by decide) rfl h (fun h => ?_) (fun h => ?_)
  · refine v_aload_n 76 0 cx dX12_lay_75 rfl rfl rfl ?_
    refine v_iload_n 77 2 cx dX12_lay_76 rfl rfl rfl ?_
    refine v_putI 80 0 27 cx dX12_lay_77 iX12 tyX12_ok nmX12 (wMo_0 E st) rfl (Nat.le_of_ble_eq_true rfl) rfl kf_X12_121 rfl rfl rfl rfl (Nat.le_of_ble_eq_true rfl) (wMs_0_27 E st _) rfl h (fun s13 h => ?_)
    refine v_iconst 81 cx dX12_lay_80 ic_0 rfl ?_
    refine v_istore_n 82 (fun a14 => [(3, .int a14), (0, .ref (oX E 0)), (1, .int x1), (2, .int x2)]) cx dX12_lay_81 rfl (by decide) (fun _ => rfl) rfl h (fun a14 h => ?_)
    refine v_lsub (lv' := [(0, .ref (oX E 0)), (2, .int x2), (3, .int a14)]) [1, 3, 0] rfl ?_
    refine v_loop (s0 := (a14, s13)) (V_X12_lay_L82 C E x2) (K_X12_lay_L82 C E x2) h (b_X12_lay_L82 cx x2) (fun r26 h => ?_)
    show Vat C (wM E) 4 153 [(2, .int x2)] [] r26
    refine v_iload_n 154 0 cx dX12_lay_153 rfl rfl rfl ?_
    exact hk _ _ _ _ (Option.some.inj h) dX12_lay_154
  · refine v_aload_n 59 0 cx dX12_lay_58 rfl rfl rfl ?_
    refine v_iload_n 60 1 cx dX12_lay_59 rfl rfl rfl ?_
    refine v_iconst 61 cx dX12_lay_60 ic_4 rfl ?_
    refine v_icmp_ne 69 64 cx dX12_lay_61 (by decide) rfl h (fun h => ?_) (fun h => ?_)
    · refine v_bipush 71 cx dX12_lay_69 bp_m9 rfl ?_
      refine v_callVI 74 0 cx dX12_lay_71 km_X12_124 ca_X12_no (wMo_0 E st) rfl (c_X12_no C.2.1 E st (-9) ) rfl (by decide) rfl (Nat.le_of_ble_eq_true rfl) rfl h (fun v28 s27 h => ?_)
      exact hk _ _ _ _ (Option.some.inj h) dX12_lay_74
    · refine v_bipush 66 cx dX12_lay_64 bp_m11 rfl ?_
      refine v_goto 71 cx dX12_lay_66 (by decide) ?_
      refine v_callVI 74 0 cx dX12_lay_71 km_X12_124 ca_X12_no (wMo_0 E st) rfl (c_X12_no C.2.1 E st (-11) ) rfl (by decide) rfl (Nat.le_of_ble_eq_true rfl) rfl h (fun v30 s29 h => ?_)
      exact hk _ _ _ _ (Option.some.inj h) dX12_lay_74
set_option maxHeartbeats 4000000 in
set_option maxRecDepth 100000 in
theorem c_X12_lay (l : Launch) (E : Ev) (st : Sg) : ∀ q, m_X12_lay st = some q → CtI l (wM E) (tyE E) yX12_lay cX12_lay 4 (some .int) 4 92 [.ref (oX E 0)] st q := by
  intro q h
  refine ctI_of (lv0 := [(0, .ref (oX E 0))]) (by decide) rfl (Nat.le_of_ble_eq_true rfl) (fun C hC cx hk => ?_)
  replace cx : Cx C (tyE E) cX12_lay RX12 4 4 92 := cx
  unfold m_X12_lay at h
  refine v_aload_n 1 0 cx dX12_lay_0 rfl rfl rfl ?_
  refine v_iconst 2 cx dX12_lay_1 ic_0 rfl ?_
  refine v_putI 5 0 32 cx dX12_lay_2 iX12 tyX12_ok nmX12 (wMo_0 E st) rfl (Nat.le_of_ble_eq_true rfl) rfl kf_X12_221 rfl rfl rfl rfl (Nat.le_of_ble_eq_true rfl) (wMs_0_32 E st _) rfl h (fun s1 h => ?_)
  refine v_aload_n 6 0 cx dX12_lay_5 rfl rfl rfl ?_
  refine v_callVI 9 0 cx dX12_lay_6 km_X12_210 ca_X12_isReady (wMo_0 E s1) rfl (c_X12_isReady C.2.1 E s1 ) rfl (by decide) rfl (Nat.le_of_ble_eq_true rfl) rfl h (fun v3 s2 h => ?_)
  refine v_if_ne 19 12 cx dX12_lay_9 (by decide) rfl h (fun h => ?_) (fun h => ?_)
  · refine v_iconst 20 cx dX12_lay_19 ic_3 rfl ?_
    refine v_istore_n 21 (fun a4 => [(1, .int a4), (0, .ref (oX E 0))]) cx dX12_lay_20 rfl (by decide) (fun _ => rfl) rfl h (fun a4 h => ?_)
    refine v_aload_n 22 1 cx dX12_lay_21 rfl rfl rfl ?_
    refine v_callVI 25 0 cx dX12_lay_22 km_X12_214 ca_X12_lowestBeat (wMo_0 E s2) rfl (c_X12_lowestBeat C.2.1 E s2 ) rfl (by decide) rfl (Nat.le_of_ble_eq_true rfl) rfl h (fun v6 s5 h => ?_)
    refine v_istore_n 26 (fun a7 => [(2, .int a7), (1, .int a4), (0, .ref (oX E 0))]) cx dX12_lay_25 rfl (by decide) (fun _ => rfl) rfl h (fun a7 h => ?_)
    refine v_lsub (lv' := [(0, .ref (oX E 0)), (1, .int a4), (2, .int a7)]) [2, 1, 0] rfl ?_
    refine v_loop (s0 := (a4, a7, s5)) (V_X12_lay_L26 C E) (K_X12_lay_L26 C E) h (b_X12_lay_L26 cx) (fun r12 h => ?_)
    show Vat C (wM E) 4 54 [(0, .ref (oX E 0)), (1, .int r12.1), (2, .int r12.2.1)] [] r12.2.2
    exact j_X12_lay_54 cx r12.1 r12.2.1 r12.2.2 _ h hk
  · refine v_aload_n 13 0 cx dX12_lay_12 rfl rfl rfl ?_
    refine v_bipush 15 cx dX12_lay_13 bp_m2 rfl ?_
    refine v_callVI 18 0 cx dX12_lay_15 km_X12_124 ca_X12_no (wMo_0 E s2) rfl (c_X12_no C.2.1 E s2 (-2) ) rfl (by decide) rfl (Nat.le_of_ble_eq_true rfl) rfl h (fun v32 s31 h => ?_)
    exact hk _ _ _ _ (Option.some.inj h) dX12_lay_18
def V_X12_laying_L40 (C : Cm) (E : Ev) (x1 : Int32) (s : (Int32 × Int32 × Int32 × Sg)) : Prop := Vat C (wM E) 5 40 [(0, .ref (oX E 0)), (1, .int x1), (2, .int s.1), (3, .int s.2.1), (4, .int s.2.2.1)] [] s.2.2.2
def K_X12_laying_L40 (C : Cm) (E : Ev) (x1 : Int32) : (Int32 × Int32 × Sg) → Prop := (fun r : (Int32 × Int32 × Sg) => Vat C (wM E) 5 109 [(0, .ref (oX E 0)), (1, .int x1), (2, .int r.1), (3, .int r.2.1)] [] r.2.2)
set_option maxHeartbeats 4000000 in
set_option maxRecDepth 100000 in
theorem j_X12_laying_68 {C : Cm} {E : Ev} (cx : Cx C (tyE E) cX12_laying RX12 5 1 25) (x1 : Int32) (x2 : Int32) (x3 : Int32) (x4 : Int32) (st : Sg) (out : (Int32 × Int32 × Int32 × Sg) ⊕ (Int32 × Int32 × Sg)) (h : m_X12_laying_68 x1 x2 x3 x4 st = some out) (hk : Sum.elim (V_X12_laying_L40 C E x1) (K_X12_laying_L40 C E x1) out) : Vat C (wM E) 5 68 [(0, .ref (oX E 0)), (1, .int x1), (2, .int x2), (3, .int x3), (4, .int x4)] [] st := by
  unfold m_X12_laying_68 at h
  refine v_aload_n 69 0 cx dX12_laying_68 rfl rfl rfl ?_
  refine v_get 72 0 30 cx dX12_laying_69 iX12 (wMo_0 E st) rfl (Nat.le_of_ble_eq_true rfl) rfl kf_X12_87 rfl rfl ?_
  refine v_iload 74 4 cx dX12_laying_72 rfl rfl ?_
  refine v_iald 75 26 0 cx dX12_laying_74 (wMa_0_30 E st) rfl rfl h (fun v9 h => ?_)
  refine v_aload_n 76 0 cx dX12_laying_75 rfl rfl rfl ?_
  refine v_get 79 0 1 cx dX12_laying_76 iX12 (wMo_0 E st) rfl (Nat.le_of_ble_eq_true rfl) rfl kf_X12_13 rfl rfl ?_
  refine v_iload 81 4 cx dX12_laying_79 rfl rfl ?_
  refine v_iald 82 2 0 cx dX12_laying_81 (wMa_0_1 E st) rfl rfl h (fun v10 h => ?_)
  refine v_iadd 83 cx dX12_laying_82 rfl ?_
  refine v_iload_n 84 3 cx dX12_laying_83 rfl rfl rfl ?_
  refine v_icmp_le 103 87 cx dX12_laying_84 (by decide) rfl h (fun h => ?_) (fun h => ?_)
  · refine v_iinc 106 4 (fun a11 => [(4, .int a11), (0, .ref (oX E 0)), (1, .int x1), (2, .int x2), (3, .int x3)]) cx dX12_laying_103 rfl ic_1 (by decide) (fun _ => rfl) rfl h (fun a11 h => ?_)
    refine v_goto 40 cx dX12_laying_106 (by decide) ?_
    cases h
    have hk : Vat C (wM E) 5 40 [(0, .ref (oX E 0)), (1, .int x1), (2, .int x2), (3, .int x3), (4, .int a11)] [] st := hk
    exact v_lsub (lv' := [(0, .ref (oX E 0)), (1, .int x1), (2, .int x2), (3, .int x3), (4, .int a11)]) [1, 2, 3, 4, 0] rfl (hk)
  · refine v_aload_n 88 0 cx dX12_laying_87 rfl rfl rfl ?_
    refine v_get 91 0 30 cx dX12_laying_88 iX12 (wMo_0 E st) rfl (Nat.le_of_ble_eq_true rfl) rfl kf_X12_87 rfl rfl ?_
    refine v_iload 93 4 cx dX12_laying_91 rfl rfl ?_
    refine v_iald 94 26 0 cx dX12_laying_93 (wMa_0_30 E st) rfl rfl h (fun v12 h => ?_)
    refine v_aload_n 95 0 cx dX12_laying_94 rfl rfl rfl ?_
    refine v_get 98 0 1 cx dX12_laying_95 iX12 (wMo_0 E st) rfl (Nat.le_of_ble_eq_true rfl) rfl kf_X12_13 rfl rfl ?_
    refine v_iload 100 4 cx dX12_laying_98 rfl rfl ?_
    refine v_iald 101 2 0 cx dX12_laying_100 (wMa_0_1 E st) rfl rfl h (fun v13 h => ?_)
    refine v_iadd 102 cx dX12_laying_101 rfl ?_
    refine v_istore_n 103 (fun a14 => [(3, .int a14), (0, .ref (oX E 0)), (1, .int x1), (2, .int x2), (4, .int x4)]) cx dX12_laying_102 rfl (by decide) (fun _ => rfl) rfl h (fun a14 h => ?_)
    refine v_iinc 106 4 (fun a15 => [(4, .int a15), (3, .int a14), (0, .ref (oX E 0)), (1, .int x1), (2, .int x2)]) cx dX12_laying_103 rfl ic_1 (by decide) (fun _ => rfl) rfl h (fun a15 h => ?_)
    refine v_goto 40 cx dX12_laying_106 (by decide) ?_
    cases h
    have hk : Vat C (wM E) 5 40 [(0, .ref (oX E 0)), (1, .int x1), (2, .int x2), (3, .int a14), (4, .int a15)] [] st := hk
    exact v_lsub (lv' := [(0, .ref (oX E 0)), (1, .int x1), (2, .int x2), (3, .int a14), (4, .int a15)]) [2, 3, 4, 1, 0] rfl (hk)
set_option maxHeartbeats 4000000 in
set_option maxRecDepth 100000 in
theorem b_X12_laying_L40 {C : Cm} {E : Ev} (cx : Cx C (tyE E) cX12_laying RX12 5 1 25) (x1 : Int32) : ∀ (s : (Int32 × Int32 × Int32 × Sg)) (out : (Int32 × Int32 × Int32 × Sg) ⊕ (Int32 × Int32 × Sg)), m_X12_laying_L40 x1 s.1 s.2.1 s.2.2.1 s.2.2.2 = some out → Sum.elim (V_X12_laying_L40 C E x1) (K_X12_laying_L40 C E x1) out → V_X12_laying_L40 C E x1 s := by
  intro s out h hk
  obtain ⟨x2, x3, x4, st⟩ := s
  show Vat C (wM E) 5 40 [(0, .ref (oX E 0)), (1, .int x1), (2, .int x2), (3, .int x3), (4, .int x4)] [] st
  replace h : m_X12_laying_L40 x1 x2 x3 x4 st = some out := h
  unfold m_X12_laying_L40 at h
  refine v_iload 42 4 cx dX12_laying_40 rfl rfl ?_
  refine v_aload_n 43 0 cx dX12_laying_42 rfl rfl rfl ?_
  refine v_getI 46 0 9 cx dX12_laying_43 iX12 (wMo_0 E st) rfl (Nat.le_of_ble_eq_true rfl) rfl kf_X12_118 rfl rfl h (fun v7 h => ?_)
  refine v_icmp_ge 109 49 cx dX12_laying_46 (by decide) rfl h (fun h => ?_) (fun h => ?_)
  · cases h
    have hk : Vat C (wM E) 5 109 [(0, .ref (oX E 0)), (1, .int x1), (2, .int x2), (3, .int x3)] [] st := hk
    exact v_lsub (lv' := [(0, .ref (oX E 0)), (1, .int x1), (2, .int x2), (3, .int x3)]) [0, 1, 2, 3] rfl (hk)
  · refine v_aload_n 50 0 cx dX12_laying_49 rfl rfl rfl ?_
    refine v_get 53 0 29 cx dX12_laying_50 iX12 (wMo_0 E st) rfl (Nat.le_of_ble_eq_true rfl) rfl kf_X12_84 rfl rfl ?_
    refine v_iload 55 4 cx dX12_laying_53 rfl rfl ?_
    refine v_iald 56 25 0 cx dX12_laying_55 (wMa_0_29 E st) rfl rfl h (fun v8 h => ?_)
    refine v_iload_n 57 2 cx dX12_laying_56 rfl rfl rfl ?_
    refine v_icmp_le 68 60 cx dX12_laying_57 (by decide) rfl h (fun h => ?_) (fun h => ?_)
    · exact j_X12_laying_68 cx x1 x2 x3 x4 st _ h hk
    · refine v_aload_n 61 0 cx dX12_laying_60 rfl rfl rfl ?_
      refine v_get 64 0 29 cx dX12_laying_61 iX12 (wMo_0 E st) rfl (Nat.le_of_ble_eq_true rfl) rfl kf_X12_84 rfl rfl ?_
      refine v_iload 66 4 cx dX12_laying_64 rfl rfl ?_
      refine v_iald 67 25 0 cx dX12_laying_66 (wMa_0_29 E st) rfl rfl h (fun v16 h => ?_)
      refine v_istore_n 68 (fun a17 => [(2, .int a17), (0, .ref (oX E 0)), (1, .int x1), (3, .int x3), (4, .int x4)]) cx dX12_laying_67 rfl (by decide) (fun _ => rfl) rfl h (fun a17 h => ?_)
      exact v_lsub (lv' := [(0, .ref (oX E 0)), (1, .int x1), (2, .int a17), (3, .int x3), (4, .int x4)]) [1, 2, 0, 3, 4] rfl (j_X12_laying_68 cx x1 a17 x3 x4 st _ h hk)
set_option maxHeartbeats 4000000 in
set_option maxRecDepth 100000 in
theorem c_X12_laying (l : Launch) (E : Ev) (st : Sg) (p1 : Int32) : ∀ q, m_X12_laying p1 st = some q → CtI l (wM E) (tyE E) yX12_laying cX12_laying 5 (some .int) 1 25 [.ref (oX E 0), .int p1] st q := by
  intro q h
  refine ctI_of (lv0 := [(0, .ref (oX E 0)), (1, .int p1)]) (by decide) rfl (Nat.le_of_ble_eq_true rfl) (fun C hC cx hk => ?_)
  replace cx : Cx C (tyE E) cX12_laying RX12 5 1 25 := cx
  unfold m_X12_laying at h
  refine v_aload_n 1 0 cx dX12_laying_0 rfl rfl rfl ?_
  refine v_getI 4 0 27 cx dX12_laying_1 iX12 (wMo_0 E st) rfl (Nat.le_of_ble_eq_true rfl) rfl kf_X12_121 rfl rfl h (fun v1 h => ?_)
  refine v_if_ne 14 7 cx dX12_laying_4 (by decide) rfl h (fun h => ?_) (fun h => ?_)
  · refine v_iload_n 15 1 cx dX12_laying_14 rfl rfl rfl ?_
    refine v_i2l 16 cx dX12_laying_15 rfl ?_
    refine v_lconst 17 cx dX12_laying_16 lc_0 rfl ?_
    refine v_ldc2 20 cx dX12_laying_17 kc_X12_235 rfl ?_
    refine v_callSI 23 cx dX12_laying_20 km_X12_137 ca_X12_isIn (c_X12_isIn C.2.1 E st ((p1 : Int32).toInt64) 0 2 ) rfl (by decide) rfl (Nat.le_of_ble_eq_true rfl) rfl h (fun v3 s2 h => ?_)
    refine v_if_ne 33 26 cx dX12_laying_23 (by decide) rfl h (fun h => ?_) (fun h => ?_)
    · refine v_iconst 34 cx dX12_laying_33 ic_0 rfl ?_
      refine v_istore_n 35 (fun a4 => [(2, .int a4), (0, .ref (oX E 0)), (1, .int p1)]) cx dX12_laying_34 rfl (by decide) (fun _ => rfl) rfl h (fun a4 h => ?_)
      refine v_iconst 36 cx dX12_laying_35 ic_0 rfl ?_
      refine v_istore_n 37 (fun a5 => [(3, .int a5), (2, .int a4), (0, .ref (oX E 0)), (1, .int p1)]) cx dX12_laying_36 rfl (by decide) (fun _ => rfl) rfl h (fun a5 h => ?_)
      refine v_iconst 38 cx dX12_laying_37 ic_0 rfl ?_
      refine v_istore 40 (fun a6 => [(4, .int a6), (3, .int a5), (2, .int a4), (0, .ref (oX E 0)), (1, .int p1)]) cx dX12_laying_38 (by decide) (fun _ => rfl) rfl h (fun a6 h => ?_)
      refine v_lsub (lv' := [(0, .ref (oX E 0)), (1, .int p1), (2, .int a4), (3, .int a5), (4, .int a6)]) [3, 4, 2, 1, 0] rfl ?_
      refine v_loop (s0 := (a4, a5, a6, s2)) (V_X12_laying_L40 C E p1) (K_X12_laying_L40 C E p1) h (b_X12_laying_L40 cx p1) (fun r18 h => ?_)
      show Vat C (wM E) 5 109 [(0, .ref (oX E 0)), (1, .int p1), (2, .int r18.1), (3, .int r18.2.1)] [] r18.2.2
      refine v_iload_n 110 1 cx dX12_laying_109 rfl rfl rfl ?_
      refine v_if_ne 120 113 cx dX12_laying_110 (by decide) rfl h (fun h => ?_) (fun h => ?_)
      · refine v_iload_n 121 1 cx dX12_laying_120 rfl rfl rfl ?_
        refine v_iconst 122 cx dX12_laying_121 ic_1 rfl ?_
        refine v_icmp_ne 131 125 cx dX12_laying_122 (by decide) rfl h (fun h => ?_) (fun h => ?_)
        · refine v_iload_n 132 3 cx dX12_laying_131 rfl rfl rfl ?_
          exact hk _ _ _ _ (Option.some.inj h) dX12_laying_132
        · refine v_iload_n 126 2 cx dX12_laying_125 rfl rfl rfl ?_
          refine v_iconst 127 cx dX12_laying_126 ic_1 rfl ?_
          refine v_iadd 128 cx dX12_laying_127 rfl ?_
          refine v_goto 132 cx dX12_laying_128 (by decide) ?_
          exact hk _ _ _ _ (Option.some.inj h) dX12_laying_132
      · refine v_aload_n 114 0 cx dX12_laying_113 rfl rfl rfl ?_
        refine v_getI 117 0 27 cx dX12_laying_114 iX12 (wMo_0 E r18.2.2) rfl (Nat.le_of_ble_eq_true rfl) rfl kf_X12_121 rfl rfl h (fun v19 h => ?_)
        refine v_goto 132 cx dX12_laying_117 (by decide) ?_
        exact hk _ _ _ _ (Option.some.inj h) dX12_laying_132
    · refine v_aload_n 27 0 cx dX12_laying_26 rfl rfl rfl ?_
      refine v_bipush 29 cx dX12_laying_27 bp_m9 rfl ?_
      refine v_callVI 32 0 cx dX12_laying_29 km_X12_124 ca_X12_no (wMo_0 E s2) rfl (c_X12_no C.2.1 E s2 (-9) ) rfl (by decide) rfl (Nat.le_of_ble_eq_true rfl) rfl h (fun v21 s20 h => ?_)
      exact hk _ _ _ _ (Option.some.inj h) dX12_laying_32
  · refine v_aload_n 8 0 cx dX12_laying_7 rfl rfl rfl ?_
    refine v_bipush 10 cx dX12_laying_8 bp_m2 rfl ?_
    refine v_callVI 13 0 cx dX12_laying_10 km_X12_124 ca_X12_no (wMo_0 E st) rfl (c_X12_no C.2.1 E st (-2) ) rfl (by decide) rfl (Nat.le_of_ble_eq_true rfl) rfl h (fun v23 s22 h => ?_)
    exact hk _ _ _ _ (Option.some.inj h) dX12_laying_13
set_option maxHeartbeats 4000000 in
set_option maxRecDepth 100000 in
theorem c_X12_lowest (l : Launch) (E : Ev) (st : Sg) : ∀ q, m_X12_lowest st = some q → CtI l (wM E) (tyE E) yX12_lowest cX12_lowest 2 (some .int) 4 92 [.ref (oX E 0)] st q := by
  intro q h
  refine ctI_of (lv0 := [(0, .ref (oX E 0))]) (by decide) rfl (Nat.le_of_ble_eq_true rfl) (fun C hC cx hk => ?_)
  replace cx : Cx C (tyE E) cX12_lowest RX12 2 4 92 := cx
  unfold m_X12_lowest at h
  refine v_aload_n 1 0 cx dX12_lowest_0 rfl rfl rfl ?_
  refine v_callVI 4 0 cx dX12_lowest_1 km_X12_210 ca_X12_isReady (wMo_0 E st) rfl (c_X12_isReady C.2.1 E st ) rfl (by decide) rfl (Nat.le_of_ble_eq_true rfl) rfl h (fun v2 s1 h => ?_)
  refine v_if_ne 14 7 cx dX12_lowest_4 (by decide) rfl h (fun h => ?_) (fun h => ?_)
  · refine v_aload_n 15 0 cx dX12_lowest_14 rfl rfl rfl ?_
    refine v_callVI 18 0 cx dX12_lowest_15 km_X12_214 ca_X12_lowestBeat (wMo_0 E s1) rfl (c_X12_lowestBeat C.2.1 E s1 ) rfl (by decide) rfl (Nat.le_of_ble_eq_true rfl) rfl h (fun v4 s3 h => ?_)
    refine v_istore_n 19 (fun a5 => [(1, .int a5), (0, .ref (oX E 0))]) cx dX12_lowest_18 rfl (by decide) (fun _ => rfl) rfl h (fun a5 h => ?_)
    refine v_iload_n 20 0 cx dX12_lowest_19 rfl rfl rfl ?_
    refine v_bipush 22 cx dX12_lowest_20 bp_60 rfl ?_
    refine v_icmp_le 34 25 cx dX12_lowest_22 (by decide) rfl h (fun h => ?_) (fun h => ?_)
    · refine v_iload_n 35 0 cx dX12_lowest_34 rfl rfl rfl ?_
      exact hk _ _ _ _ (Option.some.inj h) dX12_lowest_35
    · refine v_aload_n 26 1 cx dX12_lowest_25 rfl rfl rfl ?_
      refine v_bipush 28 cx dX12_lowest_26 bp_m9 rfl ?_
      refine v_callVI 31 0 cx dX12_lowest_28 km_X12_124 ca_X12_no (wMo_0 E s3) rfl (c_X12_no C.2.1 E s3 (-9) ) rfl (by decide) rfl (Nat.le_of_ble_eq_true rfl) rfl h (fun v7 s6 h => ?_)
      refine v_goto 35 cx dX12_lowest_31 (by decide) ?_
      exact hk _ _ _ _ (Option.some.inj h) dX12_lowest_35
  · refine v_aload_n 8 0 cx dX12_lowest_7 rfl rfl rfl ?_
    refine v_bipush 10 cx dX12_lowest_8 bp_m2 rfl ?_
    refine v_callVI 13 0 cx dX12_lowest_10 km_X12_124 ca_X12_no (wMo_0 E s1) rfl (c_X12_no C.2.1 E s1 (-2) ) rfl (by decide) rfl (Nat.le_of_ble_eq_true rfl) rfl h (fun v9 s8 h => ?_)
    exact hk _ _ _ _ (Option.some.inj h) dX12_lowest_13
set_option maxHeartbeats 4000000 in
set_option maxRecDepth 100000 in
theorem c_X12_names (l : Launch) (E : Ev) (st : Sg) (p1 : Int32) : ∀ q, m_X12_names p1 st = some q → CtI l (wM E) (tyE E) yX12_names cX12_names 2 (some .int) 1 24 [.ref (oX E 0), .int p1] st q := by
  intro q h
  refine ctI_of (lv0 := [(0, .ref (oX E 0)), (1, .int p1)]) (by decide) rfl (Nat.le_of_ble_eq_true rfl) (fun C hC cx hk => ?_)
  replace cx : Cx C (tyE E) cX12_names RX12 2 1 24 := cx
  unfold m_X12_names at h
  refine v_aload_n 1 0 cx dX12_names_0 rfl rfl rfl ?_
  refine v_getI 4 0 27 cx dX12_names_1 iX12 (wMo_0 E st) rfl (Nat.le_of_ble_eq_true rfl) rfl kf_X12_121 rfl rfl h (fun v1 h => ?_)
  refine v_if_ne 14 7 cx dX12_names_4 (by decide) rfl h (fun h => ?_) (fun h => ?_)
  · refine v_aload_n 15 0 cx dX12_names_14 rfl rfl rfl ?_
    refine v_iload_n 16 1 cx dX12_names_15 rfl rfl rfl ?_
    refine v_callVI 19 0 cx dX12_names_16 km_X12_159 ca_X12_isAct (wMo_0 E st) rfl (c_X12_isAct C.2.1 E st p1 ) rfl (by decide) rfl (Nat.le_of_ble_eq_true rfl) rfl h (fun v3 s2 h => ?_)
    refine v_if_eq 30 22 cx dX12_names_19 (by decide) rfl h (fun h => ?_) (fun h => ?_)
    · refine v_aload_n 31 0 cx dX12_names_30 rfl rfl rfl ?_
      refine v_bipush 33 cx dX12_names_31 bp_m3 rfl ?_
      refine v_callVI 36 0 cx dX12_names_33 km_X12_124 ca_X12_no (wMo_0 E s2) rfl (c_X12_no C.2.1 E s2 (-3) ) rfl (by decide) rfl (Nat.le_of_ble_eq_true rfl) rfl h (fun v5 s4 h => ?_)
      exact hk _ _ _ _ (Option.some.inj h) dX12_names_36
    · refine v_aload_n 23 0 cx dX12_names_22 rfl rfl rfl ?_
      refine v_iload_n 24 1 cx dX12_names_23 rfl rfl rfl ?_
      refine v_callVI 27 0 cx dX12_names_24 km_X12_240 ca_X12_placesOf (wMo_0 E s2) rfl (c_X12_placesOf C.2.1 E s2 p1 ) rfl (by decide) rfl (Nat.le_of_ble_eq_true rfl) rfl h (fun v7 s6 h => ?_)
      refine v_goto 36 cx dX12_names_27 (by decide) ?_
      exact hk _ _ _ _ (Option.some.inj h) dX12_names_36
  · refine v_aload_n 8 0 cx dX12_names_7 rfl rfl rfl ?_
    refine v_bipush 10 cx dX12_names_8 bp_m2 rfl ?_
    refine v_callVI 13 0 cx dX12_names_10 km_X12_124 ca_X12_no (wMo_0 E st) rfl (c_X12_no C.2.1 E st (-2) ) rfl (by decide) rfl (Nat.le_of_ble_eq_true rfl) rfl h (fun v9 s8 h => ?_)
    exact hk _ _ _ _ (Option.some.inj h) dX12_names_13
set_option maxHeartbeats 4000000 in
set_option maxRecDepth 100000 in
theorem j_X12_number_28 {C : Cm} {E : Ev} (cx : Cx C (tyE E) cX12_number RX12 4 1 21) (x1 : Int32) (t0 : Int32) (st : Sg) (out : Int64 × Sg) (h : m_X12_number_28 x1 t0 st = some out) (hk : ReL C (wM E) cX12_number 4 out) : Vat C (wM E) 4 28 [(0, .ref (oX E 0)), (1, .int x1)] [.int t0] st := by
  unfold m_X12_number_28 at h
  refine v_istore_n 29 (fun a4 => [(2, .int a4), (0, .ref (oX E 0)), (1, .int x1)]) cx dX12_number_28 rfl (by decide) (fun _ => rfl) rfl h (fun a4 h => ?_)
  refine v_iload_n 30 0 cx dX12_number_29 rfl rfl rfl ?_
  refine v_if_ne 40 33 cx dX12_number_30 (by decide) rfl h (fun h => ?_) (fun h => ?_)
  · refine v_aload_n 41 1 cx dX12_number_40 rfl rfl rfl ?_
    refine v_iload_n 42 0 cx dX12_number_41 rfl rfl rfl ?_
    refine v_callVI 45 0 cx dX12_number_42 km_X12_124 ca_X12_no (wMo_0 E st) rfl (c_X12_no C.2.1 E st a4 ) rfl (by decide) rfl (Nat.le_of_ble_eq_true rfl) rfl h (fun v6 s5 h => ?_)
    refine v_istore_n 46 (fun a7 => [(3, .int a7), (2, .int a4), (0, .ref (oX E 0)), (1, .int x1)]) cx dX12_number_45 rfl (by decide) (fun _ => rfl) rfl h (fun a7 h => ?_)
    refine v_lconst 47 cx dX12_number_46 lc_0 rfl ?_
    exact hk _ _ _ _ (Option.some.inj h) dX12_number_47
  · refine v_aload_n 34 1 cx dX12_number_33 rfl rfl rfl ?_
    refine v_get 37 0 8 cx dX12_number_34 iX12 (wMo_0 E st) rfl (Nat.le_of_ble_eq_true rfl) rfl kf_X12_35 rfl rfl ?_
    refine v_iload_n 38 2 cx dX12_number_37 rfl rfl rfl ?_
    refine v_lald 39 9 1 cx dX12_number_38 (wMa_0_8 E st) rfl rfl h (fun v8 h => ?_)
    exact hk _ _ _ _ (Option.some.inj h) dX12_number_39
set_option maxHeartbeats 4000000 in
set_option maxRecDepth 100000 in
theorem c_X12_number (l : Launch) (E : Ev) (st : Sg) (p1 : Int32) : ∀ q, m_X12_number p1 st = some q → CtL l (wM E) (tyE E) yX12_number cX12_number 4 (some .long) 1 21 [.ref (oX E 0), .int p1] st q := by
  intro q h
  refine ctL_of (lv0 := [(0, .ref (oX E 0)), (1, .int p1)]) (by decide) rfl (Nat.le_of_ble_eq_true rfl) (fun C hC cx hk => ?_)
  replace cx : Cx C (tyE E) cX12_number RX12 4 1 21 := cx
  unfold m_X12_number at h
  refine v_aload_n 1 0 cx dX12_number_0 rfl rfl rfl ?_
  refine v_iload_n 2 1 cx dX12_number_1 rfl rfl rfl ?_
  refine v_callVI 5 0 cx dX12_number_2 km_X12_159 ca_X12_isAct (wMo_0 E st) rfl (c_X12_isAct C.2.1 E st p1 ) rfl (by decide) rfl (Nat.le_of_ble_eq_true rfl) rfl h (fun v2 s1 h => ?_)
  refine v_if_ne 13 8 cx dX12_number_5 (by decide) rfl h (fun h => ?_) (fun h => ?_)
  · refine v_aload_n 14 0 cx dX12_number_13 rfl rfl rfl ?_
    refine v_get 17 0 0 cx dX12_number_14 iX12 (wMo_0 E s1) rfl (Nat.le_of_ble_eq_true rfl) rfl kf_X12_7 rfl rfl ?_
    refine v_iload_n 18 1 cx dX12_number_17 rfl rfl rfl ?_
    refine v_iald 19 1 0 cx dX12_number_18 (wMa_0_0 E s1) rfl rfl h (fun v3 h => ?_)
    refine v_if_eq 27 22 cx dX12_number_19 (by decide) rfl h (fun h => ?_) (fun h => ?_)
    · refine v_iconst 28 cx dX12_number_27 ic_0 rfl ?_
      exact j_X12_number_28 cx p1 0 s1 _ h hk
    · refine v_bipush 24 cx dX12_number_22 bp_m5 rfl ?_
      refine v_goto 28 cx dX12_number_24 (by decide) ?_
      exact j_X12_number_28 cx p1 (-5) s1 _ h hk
  · refine v_bipush 10 cx dX12_number_8 bp_m3 rfl ?_
    refine v_goto 28 cx dX12_number_10 (by decide) ?_
    exact j_X12_number_28 cx p1 (-3) s1 _ h hk
set_option maxHeartbeats 4000000 in
set_option maxRecDepth 100000 in
theorem c_X12_pick (l : Launch) (E : Ev) (st : Sg) (p1 : Int32) (p2 : Int32) (p3 : Int32) (p4 : Int32) : ∀ q, m_X12_pick p1 p2 p3 p4 st = some q → CtI l (wM E) (tyE E) yX12_pick cX12_pick 6 (some .int) 3 67 [.ref (oX E 0), .int p1, .int p2, .int p3, .int p4] st q := by
  intro q h
  refine ctI_of (lv0 := [(0, .ref (oX E 0)), (1, .int p1), (2, .int p2), (3, .int p3), (4, .int p4)]) (by decide) rfl (Nat.le_of_ble_eq_true rfl) (fun C hC cx hk => ?_)
  replace cx : Cx C (tyE E) cX12_pick RX12 6 3 67 := cx
  unfold m_X12_pick at h
  refine v_iload 2 4 cx dX12_pick_0 rfl rfl ?_
  refine v_callSI 5 cx dX12_pick_2 km_X12_149 ca_X12_areTurns (c_X12_areTurns C.2.1 E st p4 ) rfl (by decide) rfl (Nat.le_of_ble_eq_true rfl) rfl h (fun v2 s1 h => ?_)
  refine v_if_ne 15 8 cx dX12_pick_5 (by decide) rfl h (fun h => ?_) (fun h => ?_)
  · refine v_aload_n 16 0 cx dX12_pick_15 rfl rfl rfl ?_
    refine v_iload_n 17 1 cx dX12_pick_16 rfl rfl rfl ?_
    refine v_iconst 18 cx dX12_pick_17 ic_0 rfl ?_
    refine v_callVI 21 0 cx dX12_pick_18 km_X12_153 ca_X12_isBeyond (wMo_0 E s1) rfl (c_X12_isBeyond C.2.1 E s1 p1 0 ) rfl (by decide) rfl (Nat.le_of_ble_eq_true rfl) rfl h (fun v4 s3 h => ?_)
    refine v_if_ne 43 24 cx dX12_pick_21 (by decide) rfl h (fun h => ?_) (fun h => ?_)
    · refine v_aload_n 44 0 cx dX12_pick_43 rfl rfl rfl ?_
      refine v_bipush 46 cx dX12_pick_44 bp_m3 rfl ?_
      refine v_callVI 49 0 cx dX12_pick_46 km_X12_124 ca_X12_no (wMo_0 E s3) rfl (c_X12_no C.2.1 E s3 (-3) ) rfl (by decide) rfl (Nat.le_of_ble_eq_true rfl) rfl h (fun v6 s5 h => ?_)
      exact hk _ _ _ _ (Option.some.inj h) dX12_pick_49
    · refine v_aload_n 25 0 cx dX12_pick_24 rfl rfl rfl ?_
      refine v_iload_n 26 2 cx dX12_pick_25 rfl rfl rfl ?_
      refine v_iconst 27 cx dX12_pick_26 ic_0 rfl ?_
      refine v_callVI 30 0 cx dX12_pick_27 km_X12_153 ca_X12_isBeyond (wMo_0 E s3) rfl (c_X12_isBeyond C.2.1 E s3 p2 0 ) rfl (by decide) rfl (Nat.le_of_ble_eq_true rfl) rfl h (fun v8 s7 h => ?_)
      refine v_if_ne 43 33 cx dX12_pick_30 (by decide) rfl h (fun h => ?_) (fun h => ?_)
      · refine v_aload_n 44 0 cx dX12_pick_43 rfl rfl rfl ?_
        refine v_bipush 46 cx dX12_pick_44 bp_m3 rfl ?_
        refine v_callVI 49 0 cx dX12_pick_46 km_X12_124 ca_X12_no (wMo_0 E s7) rfl (c_X12_no C.2.1 E s7 (-3) ) rfl (by decide) rfl (Nat.le_of_ble_eq_true rfl) rfl h (fun v10 s9 h => ?_)
        exact hk _ _ _ _ (Option.some.inj h) dX12_pick_49
      · refine v_aload_n 34 0 cx dX12_pick_33 rfl rfl rfl ?_
        refine v_iload_n 35 3 cx dX12_pick_34 rfl rfl rfl ?_
        refine v_iload 37 4 cx dX12_pick_35 rfl rfl ?_
        refine v_callVI 40 0 cx dX12_pick_37 km_X12_153 ca_X12_isBeyond (wMo_0 E s7) rfl (c_X12_isBeyond C.2.1 E s7 p3 p4 ) rfl (by decide) rfl (Nat.le_of_ble_eq_true rfl) rfl h (fun v12 s11 h => ?_)
        refine v_if_eq 50 43 cx dX12_pick_40 (by decide) rfl h (fun h => ?_) (fun h => ?_)
        · refine v_aload_n 51 0 cx dX12_pick_50 rfl rfl rfl ?_
          refine v_bipush 53 cx dX12_pick_51 bp_6 rfl ?_
          refine v_iconst 54 cx dX12_pick_53 ic_m1 rfl ?_
          refine v_iload_n 55 1 cx dX12_pick_54 rfl rfl rfl ?_
          refine v_iconst 56 cx dX12_pick_55 ic_0 rfl ?_
          refine v_iload_n 57 2 cx dX12_pick_56 rfl rfl rfl ?_
          refine v_iconst 58 cx dX12_pick_57 ic_0 rfl ?_
          refine v_callVI 61 0 cx dX12_pick_58 km_X12_143 ca_X12_adds (wMo_0 E s11) rfl (c_X12_adds C.2.1 E s11 6 (-1) p1 0 p2 0 ) rfl (by decide) rfl (Nat.le_of_ble_eq_true rfl) rfl h (fun v14 s13 h => ?_)
          refine v_istore 63 (fun a15 => [(5, .int a15), (0, .ref (oX E 0)), (1, .int p1), (2, .int p2), (3, .int p3), (4, .int p4)]) cx dX12_pick_61 (by decide) (fun _ => rfl) rfl h (fun a15 h => ?_)
          refine v_iload 65 0 cx dX12_pick_63 rfl rfl ?_
          refine v_if_lt 78 68 cx dX12_pick_65 (by decide) rfl h (fun h => ?_) (fun h => ?_)
          · refine v_iload 80 0 cx dX12_pick_78 rfl rfl ?_
            exact hk _ _ _ _ (Option.some.inj h) dX12_pick_80
          · refine v_aload_n 69 1 cx dX12_pick_68 rfl rfl rfl ?_
            refine v_iload 71 0 cx dX12_pick_69 rfl rfl ?_
            refine v_iconst 72 cx dX12_pick_71 ic_2 rfl ?_
            refine v_iload_n 73 4 cx dX12_pick_72 rfl rfl rfl ?_
            refine v_iload 75 5 cx dX12_pick_73 rfl rfl ?_
            refine v_callVV 78 0 cx dX12_pick_75 km_X12_128 ca_X12_operand (wMo_0 E s13) rfl (c_X12_operand C.2.1 E s13 a15 2 p3 p4 ) rfl (by decide) rfl (Nat.le_of_ble_eq_true rfl) rfl h (fun _ s16 h => ?_)
            refine v_iload 80 0 cx dX12_pick_78 rfl rfl ?_
            exact hk _ _ _ _ (Option.some.inj h) dX12_pick_80
        · refine v_aload_n 44 0 cx dX12_pick_43 rfl rfl rfl ?_
          refine v_bipush 46 cx dX12_pick_44 bp_m3 rfl ?_
          refine v_callVI 49 0 cx dX12_pick_46 km_X12_124 ca_X12_no (wMo_0 E s11) rfl (c_X12_no C.2.1 E s11 (-3) ) rfl (by decide) rfl (Nat.le_of_ble_eq_true rfl) rfl h (fun v18 s17 h => ?_)
          exact hk _ _ _ _ (Option.some.inj h) dX12_pick_49
  · refine v_aload_n 9 0 cx dX12_pick_8 rfl rfl rfl ?_
    refine v_bipush 11 cx dX12_pick_9 bp_m9 rfl ?_
    refine v_callVI 14 0 cx dX12_pick_11 km_X12_124 ca_X12_no (wMo_0 E s1) rfl (c_X12_no C.2.1 E s1 (-9) ) rfl (by decide) rfl (Nat.le_of_ble_eq_true rfl) rfl h (fun v20 s19 h => ?_)
    exact hk _ _ _ _ (Option.some.inj h) dX12_pick_14
def V_X12_plain_L2 (C : Cm) (E : Ev) (x1 : Int32) (s : (Int32 × Sg)) : Prop := Vat C (wM E) 4 2 [(0, .ref (oX E 0)), (1, .int x1), (2, .int s.1)] [] s.2
def K_X12_plain_L2 (C : Cm) (E : Ev) (x1 : Int32) : ((Sg) ⊕ (Int32 × Int32 × Sg)) → Prop := (Sum.elim (fun r : (Sg) => Vat C (wM E) 4 92 [] [] r) (fun r : (Int32 × Int32 × Sg) => Vat C (wM E) 4 62 [(0, .ref (oX E 0)), (2, .int r.1), (3, .int r.2.1)] [] r.2.2))
def V_X12_plain_L9 (C : Cm) (E : Ev) (x1 : Int32) (x2 : Int32) (s : (Int32 × Sg)) : Prop := Vat C (wM E) 4 9 [(0, .ref (oX E 0)), (1, .int x1), (2, .int x2), (3, .int s.1)] [] s.2
def K_X12_plain_L9 (C : Cm) (E : Ev) (x1 : Int32) (x2 : Int32) : ((Sg) ⊕ (Int32 × Sg)) → Prop := (Sum.elim (fun r : (Sg) => Vat C (wM E) 4 79 [(0, .ref (oX E 0)), (1, .int x1), (2, .int x2)] [] r) (fun r : (Int32 × Sg) => Vat C (wM E) 4 62 [(0, .ref (oX E 0)), (2, .int x2), (3, .int r.1)] [] r.2))
set_option maxHeartbeats 4000000 in
set_option maxRecDepth 100000 in
theorem b_X12_plain_L9 {C : Cm} {E : Ev} (cx : Cx C (tyE E) cX12_plain RX12 4 3 78) (x1 : Int32) (x2 : Int32) : ∀ (s : (Int32 × Sg)) (out : (Int32 × Sg) ⊕ ((Sg) ⊕ (Int32 × Sg))), m_X12_plain_L9 x1 x2 s.1 s.2 = some out → Sum.elim (V_X12_plain_L9 C E x1 x2) (K_X12_plain_L9 C E x1 x2) out → V_X12_plain_L9 C E x1 x2 s := by
  intro s out h hk
  obtain ⟨x3, st⟩ := s
  show Vat C (wM E) 4 9 [(0, .ref (oX E 0)), (1, .int x1), (2, .int x2), (3, .int x3)] [] st
  replace h : m_X12_plain_L9 x1 x2 x3 st = some out := h
  unfold m_X12_plain_L9 at h
  refine v_iload_n 10 3 cx dX12_plain_9 rfl rfl rfl ?_
  refine v_aload_n 11 0 cx dX12_plain_10 rfl rfl rfl ?_
  refine v_getI 14 0 9 cx dX12_plain_11 iX12 (wMo_0 E st) rfl (Nat.le_of_ble_eq_true rfl) rfl kf_X12_118 rfl rfl h (fun v3 h => ?_)
  refine v_icmp_ge 79 17 cx dX12_plain_14 (by decide) rfl h (fun h => ?_) (fun h => ?_)
  · cases h
    have hk : Vat C (wM E) 4 79 [(0, .ref (oX E 0)), (1, .int x1), (2, .int x2)] [] st := hk
    exact v_lsub (lv' := [(0, .ref (oX E 0)), (1, .int x1), (2, .int x2)]) [0, 1, 2] rfl (hk)
  · refine v_aload_n 18 0 cx dX12_plain_17 rfl rfl rfl ?_
    refine v_dup 19 cx dX12_plain_18 rfl rfl ?_
    refine v_getI 22 0 41 cx dX12_plain_19 iX12 (wMo_0 E st) rfl (Nat.le_of_ble_eq_true rfl) rfl kf_X12_267 rfl rfl h (fun v4 h => ?_)
    refine v_iconst 23 cx dX12_plain_22 ic_1 rfl ?_
    refine v_iadd 24 cx dX12_plain_23 rfl ?_
    refine v_putI 27 0 41 cx dX12_plain_24 iX12 tyX12_ok nmX12 (wMo_0 E st) rfl (Nat.le_of_ble_eq_true rfl) rfl kf_X12_267 rfl rfl rfl rfl (Nat.le_of_ble_eq_true rfl) (wMs_0_41 E st _) rfl h (fun s5 h => ?_)
    refine v_aload_n 28 0 cx dX12_plain_27 rfl rfl rfl ?_
    refine v_dup 29 cx dX12_plain_28 rfl rfl ?_
    refine v_getI 32 0 42 cx dX12_plain_29 iX12 (wMo_0 E s5) rfl (Nat.le_of_ble_eq_true rfl) rfl kf_X12_270 rfl rfl h (fun v6 h => ?_)
    refine v_aload_n 33 0 cx dX12_plain_32 rfl rfl rfl ?_
    refine v_get 36 0 1 cx dX12_plain_33 iX12 (wMo_0 E s5) rfl (Nat.le_of_ble_eq_true rfl) rfl kf_X12_13 rfl rfl ?_
    refine v_iload_n 37 3 cx dX12_plain_36 rfl rfl rfl ?_
    refine v_iald 38 2 0 cx dX12_plain_37 (wMa_0_1 E s5) rfl rfl h (fun v7 h => ?_)
    refine v_iadd 39 cx dX12_plain_38 rfl ?_
    refine v_putI 42 0 42 cx dX12_plain_39 iX12 tyX12_ok nmX12 (wMo_0 E s5) rfl (Nat.le_of_ble_eq_true rfl) rfl kf_X12_270 rfl rfl rfl rfl (Nat.le_of_ble_eq_true rfl) (wMs_0_42 E s5 _) rfl h (fun s8 h => ?_)
    refine v_aload_n 43 0 cx dX12_plain_42 rfl rfl rfl ?_
    refine v_aload_n 44 0 cx dX12_plain_43 rfl rfl rfl ?_
    refine v_iload_n 45 3 cx dX12_plain_44 rfl rfl rfl ?_
    refine v_iload_n 46 2 cx dX12_plain_45 rfl rfl rfl ?_
    refine v_callVI 49 0 cx dX12_plain_46 km_X12_283 ca_X12_does (wMo_0 E s8) rfl (c_X12_does C.2.1 E s8 x3 x2 ) rfl (by decide) rfl (Nat.le_of_ble_eq_true rfl) rfl h (fun v10 s9 h => ?_)
    refine v_putI 52 0 38 cx dX12_plain_49 iX12 tyX12_ok nmX12 (wMo_0 E s9) rfl (Nat.le_of_ble_eq_true rfl) rfl kf_X12_258 rfl rfl rfl rfl (Nat.le_of_ble_eq_true rfl) (wMs_0_38 E s9 _) rfl h (fun s11 h => ?_)
    refine v_aload_n 53 0 cx dX12_plain_52 rfl rfl rfl ?_
    refine v_getI 56 0 38 cx dX12_plain_53 iX12 (wMo_0 E s11) rfl (Nat.le_of_ble_eq_true rfl) rfl kf_X12_258 rfl rfl h (fun v12 h => ?_)
    refine v_if_ne 62 59 cx dX12_plain_56 (by decide) rfl h (fun h => ?_) (fun h => ?_)
    · cases h
      have hk : Vat C (wM E) 4 62 [(0, .ref (oX E 0)), (2, .int x2), (3, .int x3)] [] s11 := hk
      exact v_lsub (lv' := [(0, .ref (oX E 0)), (2, .int x2), (3, .int x3)]) [0, 2, 3] rfl (hk)
    · refine v_goto 73 cx dX12_plain_59 (by decide) ?_
      refine v_iinc 76 3 (fun a13 => [(3, .int a13), (0, .ref (oX E 0)), (1, .int x1), (2, .int x2)]) cx dX12_plain_73 rfl ic_1 (by decide) (fun _ => rfl) rfl h (fun a13 h => ?_)
      refine v_goto 9 cx dX12_plain_76 (by decide) ?_
      cases h
      have hk : Vat C (wM E) 4 9 [(0, .ref (oX E 0)), (1, .int x1), (2, .int x2), (3, .int a13)] [] s11 := hk
      exact v_lsub (lv' := [(0, .ref (oX E 0)), (1, .int x1), (2, .int x2), (3, .int a13)]) [1, 2, 3, 0] rfl (hk)
set_option maxHeartbeats 4000000 in
set_option maxRecDepth 100000 in
theorem b_X12_plain_L2 {C : Cm} {E : Ev} (cx : Cx C (tyE E) cX12_plain RX12 4 3 78) (x1 : Int32) : ∀ (s : (Int32 × Sg)) (out : (Int32 × Sg) ⊕ ((Sg) ⊕ (Int32 × Int32 × Sg))), m_X12_plain_L2 x1 s.1 s.2 = some out → Sum.elim (V_X12_plain_L2 C E x1) (K_X12_plain_L2 C E x1) out → V_X12_plain_L2 C E x1 s := by
  intro s out h hk
  obtain ⟨x2, st⟩ := s
  show Vat C (wM E) 4 2 [(0, .ref (oX E 0)), (1, .int x1), (2, .int x2)] [] st
  replace h : m_X12_plain_L2 x1 x2 st = some out := h
  unfold m_X12_plain_L2 at h
  refine v_iload_n 3 2 cx dX12_plain_2 rfl rfl rfl ?_
  refine v_iload_n 4 1 cx dX12_plain_3 rfl rfl rfl ?_
  refine v_icmp_ge 92 7 cx dX12_plain_4 (by decide) rfl h (fun h => ?_) (fun h => ?_)
  · cases h
    have hk : Vat C (wM E) 4 92 [] [] st := hk
    exact v_lsub (lv' := []) [] rfl (hk)
  · refine v_iconst 8 cx dX12_plain_7 ic_0 rfl ?_
    refine v_istore_n 9 (fun a2 => [(3, .int a2), (0, .ref (oX E 0)), (1, .int x1), (2, .int x2)]) cx dX12_plain_8 rfl (by decide) (fun _ => rfl) rfl h (fun a2 h => ?_)
    refine v_lsub (lv' := [(0, .ref (oX E 0)), (1, .int x1), (2, .int x2), (3, .int a2)]) [1, 2, 3, 0] rfl ?_
    refine v_loop (s0 := (a2, st)) (V_X12_plain_L9 C E x1 x2) (K_X12_plain_L9 C E x1 x2) h (b_X12_plain_L9 cx x1 x2) (fun r14 h => ?_)
    rcases r14 with r14 | r14
    · rw [Sum.elim_inl] at h
      show Vat C (wM E) 4 79 [(0, .ref (oX E 0)), (1, .int x1), (2, .int x2)] [] r14
      refine v_aload_n 80 0 cx dX12_plain_79 rfl rfl rfl ?_
      refine v_iload_n 81 2 cx dX12_plain_80 rfl rfl rfl ?_
      refine v_iconst 82 cx dX12_plain_81 ic_1 rfl ?_
      refine v_iadd 83 cx dX12_plain_82 rfl ?_
      refine v_putI 86 0 44 cx dX12_plain_83 iX12 tyX12_ok nmX12 (wMo_0 E r14) rfl (Nat.le_of_ble_eq_true rfl) rfl kf_X12_276 rfl rfl rfl rfl (Nat.le_of_ble_eq_true rfl) (wMs_0_44 E r14 _) rfl h (fun s15 h => ?_)
      refine v_iinc 89 2 (fun a16 => [(2, .int a16), (0, .ref (oX E 0)), (1, .int x1)]) cx dX12_plain_86 rfl ic_1 (by decide) (fun _ => rfl) rfl h (fun a16 h => ?_)
      refine v_goto 2 cx dX12_plain_89 (by decide) ?_
      cases h
      have hk : Vat C (wM E) 4 2 [(0, .ref (oX E 0)), (1, .int x1), (2, .int a16)] [] s15 := hk
      exact v_lsub (lv' := [(0, .ref (oX E 0)), (1, .int x1), (2, .int a16)]) [1, 2, 0] rfl (hk)
    · rw [Sum.elim_inr] at h
      show Vat C (wM E) 4 62 [(0, .ref (oX E 0)), (2, .int x2), (3, .int r14.1)] [] r14.2
      cases h
      have hk : Vat C (wM E) 4 62 [(0, .ref (oX E 0)), (2, .int x2), (3, .int r14.1)] [] r14.2 := hk
      exact hk
set_option maxHeartbeats 4000000 in
set_option maxRecDepth 100000 in
theorem c_X12_plain (l : Launch) (E : Ev) (st : Sg) (p1 : Int32) : ∀ q, m_X12_plain p1 st = some q → CtV l (wM E) (tyE E) yX12_plain cX12_plain 4 none 3 78 [.ref (oX E 0), .int p1] st q := by
  intro q h
  refine ctV_of (lv0 := [(0, .ref (oX E 0)), (1, .int p1)]) (by decide) rfl (Nat.le_of_ble_eq_true rfl) (fun C hC cx hk => ?_)
  replace cx : Cx C (tyE E) cX12_plain RX12 4 3 78 := cx
  unfold m_X12_plain at h
  refine v_iconst 1 cx dX12_plain_0 ic_0 rfl ?_
  refine v_istore_n 2 (fun a1 => [(2, .int a1), (0, .ref (oX E 0)), (1, .int p1)]) cx dX12_plain_1 rfl (by decide) (fun _ => rfl) rfl h (fun a1 h => ?_)
  refine v_lsub (lv' := [(0, .ref (oX E 0)), (1, .int p1), (2, .int a1)]) [1, 2, 0] rfl ?_
  refine v_loop (s0 := (a1, st)) (V_X12_plain_L2 C E p1) (K_X12_plain_L2 C E p1) h (b_X12_plain_L2 cx p1) (fun r17 h => ?_)
  rcases r17 with r17 | r17
  · rw [Sum.elim_inl] at h
    show Vat C (wM E) 4 92 [] [] r17
    exact hk _ _ _ _ (Option.some.inj h) dX12_plain_92
  · rw [Sum.elim_inr] at h
    show Vat C (wM E) 4 62 [(0, .ref (oX E 0)), (2, .int r17.1), (3, .int r17.2.1)] [] r17.2.2
    refine v_aload_n 63 0 cx dX12_plain_62 rfl rfl rfl ?_
    refine v_iload_n 64 2 cx dX12_plain_63 rfl rfl rfl ?_
    refine v_putI 67 0 39 cx dX12_plain_64 iX12 tyX12_ok nmX12 (wMo_0 E r17.2.2) rfl (Nat.le_of_ble_eq_true rfl) rfl kf_X12_261 rfl rfl rfl rfl (Nat.le_of_ble_eq_true rfl) (wMs_0_39 E r17.2.2 _) rfl h (fun s18 h => ?_)
    refine v_aload_n 68 0 cx dX12_plain_67 rfl rfl rfl ?_
    refine v_iload_n 69 1 cx dX12_plain_68 rfl rfl rfl ?_
    refine v_putI 72 0 40 cx dX12_plain_69 iX12 tyX12_ok nmX12 (wMo_0 E s18) rfl (Nat.le_of_ble_eq_true rfl) rfl kf_X12_264 rfl rfl rfl rfl (Nat.le_of_ble_eq_true rfl) (wMs_0_40 E s18 _) rfl h (fun s19 h => ?_)
    exact hk _ _ _ _ (Option.some.inj h) dX12_plain_72
set_option maxHeartbeats 4000000 in
set_option maxRecDepth 100000 in
theorem c_X12_prove (l : Launch) (E : Ev) (st : Sg) (p1 : Int32) : ∀ q, m_X12_prove p1 st = some q → CtI l (wM E) (tyE E) yX12_prove cX12_prove 2 (some .int) 3 71 [.ref (oX E 0), .int p1] st q := by
  intro q h
  refine ctI_of (lv0 := [(0, .ref (oX E 0)), (1, .int p1)]) (by decide) rfl (Nat.le_of_ble_eq_true rfl) (fun C hC cx hk => ?_)
  replace cx : Cx C (tyE E) cX12_prove RX12 2 3 71 := cx
  unfold m_X12_prove at h
  refine v_aload_n 1 0 cx dX12_prove_0 rfl rfl rfl ?_
  refine v_iconst 2 cx dX12_prove_1 ic_0 rfl ?_
  refine v_putI 5 0 32 cx dX12_prove_2 iX12 tyX12_ok nmX12 (wMo_0 E st) rfl (Nat.le_of_ble_eq_true rfl) rfl kf_X12_221 rfl rfl rfl rfl (Nat.le_of_ble_eq_true rfl) (wMs_0_32 E st _) rfl h (fun s1 h => ?_)
  refine v_aload_n 6 0 cx dX12_prove_5 rfl rfl rfl ?_
  refine v_callVI 9 0 cx dX12_prove_6 km_X12_210 ca_X12_isReady (wMo_0 E s1) rfl (c_X12_isReady C.2.1 E s1 ) rfl (by decide) rfl (Nat.le_of_ble_eq_true rfl) rfl h (fun v3 s2 h => ?_)
  refine v_if_ne 19 12 cx dX12_prove_9 (by decide) rfl h (fun h => ?_) (fun h => ?_)
  · refine v_iload_n 20 1 cx dX12_prove_19 rfl rfl rfl ?_
    refine v_if_ge 30 23 cx dX12_prove_20 (by decide) rfl h (fun h => ?_) (fun h => ?_)
    · refine v_iload_n 31 1 cx dX12_prove_30 rfl rfl rfl ?_
      refine v_i2l 32 cx dX12_prove_31 rfl ?_
      refine v_lconst 33 cx dX12_prove_32 lc_1 rfl ?_
      refine v_ldc2 36 cx dX12_prove_33 kc_X12_233 rfl ?_
      refine v_callSI 39 cx dX12_prove_36 km_X12_137 ca_X12_isIn (c_X12_isIn C.2.1 E s2 ((p1 : Int32).toInt64) 1 60 ) rfl (by decide) rfl (Nat.le_of_ble_eq_true rfl) rfl h (fun v5 s4 h => ?_)
      refine v_if_ne 49 42 cx dX12_prove_39 (by decide) rfl h (fun h => ?_) (fun h => ?_)
      · refine v_aload_n 50 0 cx dX12_prove_49 rfl rfl rfl ?_
        refine v_callVV 53 0 cx dX12_prove_50 km_X12_177 ca_X12_gather (wMo_0 E s4) rfl (c_X12_gather C.2.1 E s4 ) rfl (by decide) rfl (Nat.le_of_ble_eq_true rfl) rfl h (fun _ s6 h => ?_)
        refine v_aload_n 54 0 cx dX12_prove_53 rfl rfl rfl ?_
        refine v_callVI 57 0 cx dX12_prove_54 km_X12_204 ca_X12_byUnits (wMo_0 E s6) rfl (c_X12_byUnits C.2.1 E s6 ) rfl (by decide) rfl (Nat.le_of_ble_eq_true rfl) rfl h (fun v8 s7 h => ?_)
        refine v_iload_n 58 1 cx dX12_prove_57 rfl rfl rfl ?_
        refine v_icmp_le 63 61 cx dX12_prove_58 (by decide) rfl h (fun h => ?_) (fun h => ?_)
        · refine v_aload_n 64 0 cx dX12_prove_63 rfl rfl rfl ?_
          refine v_iload_n 65 1 cx dX12_prove_64 rfl rfl rfl ?_
          refine v_callVI 68 0 cx dX12_prove_65 km_X12_197 ca_X12_rests (wMo_0 E s7) rfl (c_X12_rests C.2.1 E s7 p1 ) rfl (by decide) rfl (Nat.le_of_ble_eq_true rfl) rfl h (fun v10 s9 h => ?_)
          refine v_if_eq 79 71 cx dX12_prove_68 (by decide) rfl h (fun h => ?_) (fun h => ?_)
          · refine v_iconst 80 cx dX12_prove_79 ic_2 rfl ?_
            exact hk _ _ _ _ (Option.some.inj h) dX12_prove_80
          · refine v_aload_n 72 0 cx dX12_prove_71 rfl rfl rfl ?_
            refine v_iload_n 73 1 cx dX12_prove_72 rfl rfl rfl ?_
            refine v_callVI 76 0 cx dX12_prove_73 km_X12_230 ca_X12_tries (wMo_0 E s9) rfl (c_X12_tries C.2.1 E s9 p1 ) rfl (by decide) rfl (Nat.le_of_ble_eq_true rfl) rfl h (fun v12 s11 h => ?_)
            refine v_goto 80 cx dX12_prove_76 (by decide) ?_
            exact hk _ _ _ _ (Option.some.inj h) dX12_prove_80
        · refine v_iconst 62 cx dX12_prove_61 ic_1 rfl ?_
          exact hk _ _ _ _ (Option.some.inj h) dX12_prove_62
      · refine v_aload_n 43 0 cx dX12_prove_42 rfl rfl rfl ?_
        refine v_bipush 45 cx dX12_prove_43 bp_m9 rfl ?_
        refine v_callVI 48 0 cx dX12_prove_45 km_X12_124 ca_X12_no (wMo_0 E s4) rfl (c_X12_no C.2.1 E s4 (-9) ) rfl (by decide) rfl (Nat.le_of_ble_eq_true rfl) rfl h (fun v14 s13 h => ?_)
        exact hk _ _ _ _ (Option.some.inj h) dX12_prove_48
    · refine v_aload_n 24 0 cx dX12_prove_23 rfl rfl rfl ?_
      refine v_bipush 26 cx dX12_prove_24 bp_m4 rfl ?_
      refine v_callVI 29 0 cx dX12_prove_26 km_X12_124 ca_X12_no (wMo_0 E s2) rfl (c_X12_no C.2.1 E s2 (-4) ) rfl (by decide) rfl (Nat.le_of_ble_eq_true rfl) rfl h (fun v16 s15 h => ?_)
      exact hk _ _ _ _ (Option.some.inj h) dX12_prove_29
  · refine v_aload_n 13 0 cx dX12_prove_12 rfl rfl rfl ?_
    refine v_bipush 15 cx dX12_prove_13 bp_m2 rfl ?_
    refine v_callVI 18 0 cx dX12_prove_15 km_X12_124 ca_X12_no (wMo_0 E s2) rfl (c_X12_no C.2.1 E s2 (-2) ) rfl (by decide) rfl (Nat.le_of_ble_eq_true rfl) rfl h (fun v18 s17 h => ?_)
    exact hk _ _ _ _ (Option.some.inj h) dX12_prove_18
set_option maxHeartbeats 4000000 in
set_option maxRecDepth 100000 in
theorem c_X12_put (l : Launch) (E : Ev) (st : Sg) (p1 : Int64) : ∀ q, m_X12_put p1 st = some q → CtI l (wM E) (tyE E) yX12_put cX12_put 4 (some .int) 3 67 [.ref (oX E 0), .long p1] st q := by
  intro q h
  refine ctI_of (lv0 := [(0, .ref (oX E 0)), (1, .long p1)]) (by decide) rfl (Nat.le_of_ble_eq_true rfl) (fun C hC cx hk => ?_)
  replace cx : Cx C (tyE E) cX12_put RX12 4 3 67 := cx
  unfold m_X12_put at h
  refine v_aload_n 1 0 cx dX12_put_0 rfl rfl rfl ?_
  refine v_iconst 2 cx dX12_put_1 ic_0 rfl ?_
  refine v_iconst 3 cx dX12_put_2 ic_m1 rfl ?_
  refine v_iconst 4 cx dX12_put_3 ic_m1 rfl ?_
  refine v_iconst 5 cx dX12_put_4 ic_m1 rfl ?_
  refine v_iconst 6 cx dX12_put_5 ic_m1 rfl ?_
  refine v_iconst 7 cx dX12_put_6 ic_m1 rfl ?_
  refine v_callVI 10 0 cx dX12_put_7 km_X12_143 ca_X12_adds (wMo_0 E st) rfl (c_X12_adds C.2.1 E st 0 (-1) (-1) (-1) (-1) (-1) ) rfl (by decide) rfl (Nat.le_of_ble_eq_true rfl) rfl h (fun v2 s1 h => ?_)
  refine v_istore_n 11 (fun a3 => [(3, .int a3), (0, .ref (oX E 0)), (1, .long p1)]) cx dX12_put_10 rfl (by decide) (fun _ => rfl) rfl h (fun a3 h => ?_)
  refine v_iload_n 12 0 cx dX12_put_11 rfl rfl rfl ?_
  refine v_if_lt 22 15 cx dX12_put_12 (by decide) rfl h (fun h => ?_) (fun h => ?_)
  · refine v_iload_n 23 0 cx dX12_put_22 rfl rfl rfl ?_
    exact hk _ _ _ _ (Option.some.inj h) dX12_put_23
  · refine v_aload_n 16 1 cx dX12_put_15 rfl rfl rfl ?_
    refine v_get 19 0 8 cx dX12_put_16 iX12 (wMo_0 E s1) rfl (Nat.le_of_ble_eq_true rfl) rfl kf_X12_35 rfl rfl ?_
    refine v_iload_n 20 0 cx dX12_put_19 rfl rfl rfl ?_
    refine v_lload_n 21 2 cx dX12_put_20 rfl rfl rfl ?_
    refine v_last 22 9 1 cx dX12_put_21 (wMa_0_8 E s1) rfl (wMt_0_8 E s1) rfl h (fun s4 h => ?_)
    refine v_iload_n 23 0 cx dX12_put_22 rfl rfl rfl ?_
    exact hk _ _ _ _ (Option.some.inj h) dX12_put_23
set_option maxHeartbeats 4000000 in
set_option maxRecDepth 100000 in
theorem c_X12_reckon (l : Launch) (E : Ev) (st : Sg) (p1 : Int32) (p2 : Int32) (p3 : Int32) (p4 : Int32) (p5 : Int32) : ∀ q, m_X12_reckon p1 p2 p3 p4 p5 st = some q → CtI l (wM E) (tyE E) yX12_reckon cX12_reckon 6 (some .int) 3 67 [.ref (oX E 0), .int p1, .int p2, .int p3, .int p4, .int p5] st q := by
  intro q h
  refine ctI_of (lv0 := [(0, .ref (oX E 0)), (1, .int p1), (2, .int p2), (3, .int p3), (4, .int p4), (5, .int p5)]) (by decide) rfl (Nat.le_of_ble_eq_true rfl) (fun C hC cx hk => ?_)
  replace cx : Cx C (tyE E) cX12_reckon RX12 6 3 67 := cx
  unfold m_X12_reckon at h
  refine v_iload_n 1 1 cx dX12_reckon_0 rfl rfl rfl ?_
  refine v_i2l 2 cx dX12_reckon_1 rfl ?_
  refine v_lconst 3 cx dX12_reckon_2 lc_1 rfl ?_
  refine v_ldc2 6 cx dX12_reckon_3 kc_X12_147 rfl ?_
  refine v_callSI 9 cx dX12_reckon_6 km_X12_137 ca_X12_isIn (c_X12_isIn C.2.1 E st ((p1 : Int32).toInt64) 1 3 ) rfl (by decide) rfl (Nat.le_of_ble_eq_true rfl) rfl h (fun v2 s1 h => ?_)
  refine v_if_eq 27 12 cx dX12_reckon_9 (by decide) rfl h (fun h => ?_) (fun h => ?_)
  · refine v_aload_n 28 0 cx dX12_reckon_27 rfl rfl rfl ?_
    refine v_bipush 30 cx dX12_reckon_28 bp_m9 rfl ?_
    refine v_callVI 33 0 cx dX12_reckon_30 km_X12_124 ca_X12_no (wMo_0 E s1) rfl (c_X12_no C.2.1 E s1 (-9) ) rfl (by decide) rfl (Nat.le_of_ble_eq_true rfl) rfl h (fun v4 s3 h => ?_)
    exact hk _ _ _ _ (Option.some.inj h) dX12_reckon_33
  · refine v_iload_n 13 3 cx dX12_reckon_12 rfl rfl rfl ?_
    refine v_callSI 16 cx dX12_reckon_13 km_X12_149 ca_X12_areTurns (c_X12_areTurns C.2.1 E s1 p3 ) rfl (by decide) rfl (Nat.le_of_ble_eq_true rfl) rfl h (fun v6 s5 h => ?_)
    refine v_if_eq 27 19 cx dX12_reckon_16 (by decide) rfl h (fun h => ?_) (fun h => ?_)
    · refine v_aload_n 28 0 cx dX12_reckon_27 rfl rfl rfl ?_
      refine v_bipush 30 cx dX12_reckon_28 bp_m9 rfl ?_
      refine v_callVI 33 0 cx dX12_reckon_30 km_X12_124 ca_X12_no (wMo_0 E s5) rfl (c_X12_no C.2.1 E s5 (-9) ) rfl (by decide) rfl (Nat.le_of_ble_eq_true rfl) rfl h (fun v8 s7 h => ?_)
      exact hk _ _ _ _ (Option.some.inj h) dX12_reckon_33
    · refine v_iload 21 5 cx dX12_reckon_19 rfl rfl ?_
      refine v_callSI 24 cx dX12_reckon_21 km_X12_149 ca_X12_areTurns (c_X12_areTurns C.2.1 E s5 p5 ) rfl (by decide) rfl (Nat.le_of_ble_eq_true rfl) rfl h (fun v10 s9 h => ?_)
      refine v_if_ne 34 27 cx dX12_reckon_24 (by decide) rfl h (fun h => ?_) (fun h => ?_)
      · refine v_aload_n 35 0 cx dX12_reckon_34 rfl rfl rfl ?_
        refine v_iload_n 36 2 cx dX12_reckon_35 rfl rfl rfl ?_
        refine v_iload_n 37 3 cx dX12_reckon_36 rfl rfl rfl ?_
        refine v_callVI 40 0 cx dX12_reckon_37 km_X12_153 ca_X12_isBeyond (wMo_0 E s9) rfl (c_X12_isBeyond C.2.1 E s9 p2 p3 ) rfl (by decide) rfl (Nat.le_of_ble_eq_true rfl) rfl h (fun v12 s11 h => ?_)
        refine v_if_ne 54 43 cx dX12_reckon_40 (by decide) rfl h (fun h => ?_) (fun h => ?_)
        · refine v_aload_n 55 0 cx dX12_reckon_54 rfl rfl rfl ?_
          refine v_bipush 57 cx dX12_reckon_55 bp_m3 rfl ?_
          refine v_callVI 60 0 cx dX12_reckon_57 km_X12_124 ca_X12_no (wMo_0 E s11) rfl (c_X12_no C.2.1 E s11 (-3) ) rfl (by decide) rfl (Nat.le_of_ble_eq_true rfl) rfl h (fun v14 s13 h => ?_)
          exact hk _ _ _ _ (Option.some.inj h) dX12_reckon_60
        · refine v_aload_n 44 0 cx dX12_reckon_43 rfl rfl rfl ?_
          refine v_iload 46 4 cx dX12_reckon_44 rfl rfl ?_
          refine v_iload 48 5 cx dX12_reckon_46 rfl rfl ?_
          refine v_callVI 51 0 cx dX12_reckon_48 km_X12_153 ca_X12_isBeyond (wMo_0 E s11) rfl (c_X12_isBeyond C.2.1 E s11 p4 p5 ) rfl (by decide) rfl (Nat.le_of_ble_eq_true rfl) rfl h (fun v16 s15 h => ?_)
          refine v_if_eq 61 54 cx dX12_reckon_51 (by decide) rfl h (fun h => ?_) (fun h => ?_)
          · refine v_aload_n 62 0 cx dX12_reckon_61 rfl rfl rfl ?_
            refine v_iload_n 63 1 cx dX12_reckon_62 rfl rfl rfl ?_
            refine v_iconst 64 cx dX12_reckon_63 ic_m1 rfl ?_
            refine v_iload_n 65 2 cx dX12_reckon_64 rfl rfl rfl ?_
            refine v_iload_n 66 3 cx dX12_reckon_65 rfl rfl rfl ?_
            refine v_iload 68 4 cx dX12_reckon_66 rfl rfl ?_
            refine v_iload 70 5 cx dX12_reckon_68 rfl rfl ?_
            refine v_callVI 73 0 cx dX12_reckon_70 km_X12_143 ca_X12_adds (wMo_0 E s15) rfl (c_X12_adds C.2.1 E s15 p1 (-1) p2 p3 p4 p5 ) rfl (by decide) rfl (Nat.le_of_ble_eq_true rfl) rfl h (fun v18 s17 h => ?_)
            exact hk _ _ _ _ (Option.some.inj h) dX12_reckon_73
          · refine v_aload_n 55 0 cx dX12_reckon_54 rfl rfl rfl ?_
            refine v_bipush 57 cx dX12_reckon_55 bp_m3 rfl ?_
            refine v_callVI 60 0 cx dX12_reckon_57 km_X12_124 ca_X12_no (wMo_0 E s15) rfl (c_X12_no C.2.1 E s15 (-3) ) rfl (by decide) rfl (Nat.le_of_ble_eq_true rfl) rfl h (fun v20 s19 h => ?_)
            exact hk _ _ _ _ (Option.some.inj h) dX12_reckon_60
      · refine v_aload_n 28 0 cx dX12_reckon_27 rfl rfl rfl ?_
        refine v_bipush 30 cx dX12_reckon_28 bp_m9 rfl ?_
        refine v_callVI 33 0 cx dX12_reckon_30 km_X12_124 ca_X12_no (wMo_0 E s9) rfl (c_X12_no C.2.1 E s9 (-9) ) rfl (by decide) rfl (Nat.le_of_ble_eq_true rfl) rfl h (fun v22 s21 h => ?_)
        exact hk _ _ _ _ (Option.some.inj h) dX12_reckon_33
def V_X12_row_L61 (C : Cm) (E : Ev) (x1 : Int32) (x2 : Int32) (s : (Int32 × Sg)) : Prop := Vat C (wM E) 5 61 [(0, .ref (oX E 0)), (1, .int x1), (2, .int x2), (4, .int s.1)] [] s.2
def K_X12_row_L61 (C : Cm) (E : Ev) (x1 : Int32) (x2 : Int32) : (Sg) → Prop := (fun r : (Sg) => Vat C (wM E) 5 86 [] [] r)
set_option maxHeartbeats 4000000 in
set_option maxRecDepth 100000 in
theorem b_X12_row_L61 {C : Cm} {E : Ev} (cx : Cx C (tyE E) cX12_row RX12 5 1 25) (x1 : Int32) (x2 : Int32) : ∀ (s : (Int32 × Sg)) (out : (Int32 × Sg) ⊕ (Sg)), m_X12_row_L61 x1 x2 s.1 s.2 = some out → Sum.elim (V_X12_row_L61 C E x1 x2) (K_X12_row_L61 C E x1 x2) out → V_X12_row_L61 C E x1 x2 s := by
  intro s out h hk
  obtain ⟨x4, st⟩ := s
  show Vat C (wM E) 5 61 [(0, .ref (oX E 0)), (1, .int x1), (2, .int x2), (4, .int x4)] [] st
  replace h : m_X12_row_L61 x1 x2 x4 st = some out := h
  unfold m_X12_row_L61 at h
  refine v_iload 63 3 cx dX12_row_61 rfl rfl ?_
  refine v_iload_n 64 2 cx dX12_row_63 rfl rfl rfl ?_
  refine v_icmp_ge 86 67 cx dX12_row_64 (by decide) rfl h (fun h => ?_) (fun h => ?_)
  · cases h
    have hk : Vat C (wM E) 5 86 [] [] st := hk
    exact v_lsub (lv' := []) [] rfl (hk)
  · refine v_aload_n 68 0 cx dX12_row_67 rfl rfl rfl ?_
    refine v_get 71 0 21 cx dX12_row_68 iX12 (wMo_0 E st) rfl (Nat.le_of_ble_eq_true rfl) rfl kf_X12_65 rfl rfl ?_
    refine v_bipush 73 cx dX12_row_71 bp_40 rfl ?_
    refine v_iload_n 74 1 cx dX12_row_73 rfl rfl rfl ?_
    refine v_imul 75 cx dX12_row_74 rfl ?_
    refine v_iload 77 3 cx dX12_row_75 rfl rfl ?_
    refine v_iadd 78 cx dX12_row_77 rfl ?_
    refine v_lconst 79 cx dX12_row_78 lc_0 rfl ?_
    refine v_last 80 19 1 cx dX12_row_79 (wMa_0_21 E st) rfl (wMt_0_21 E st) rfl h (fun s8 h => ?_)
    refine v_iinc 83 3 (fun a9 => [(4, .int a9), (0, .ref (oX E 0)), (1, .int x1), (2, .int x2)]) cx dX12_row_80 rfl ic_1 (by decide) (fun _ => rfl) rfl h (fun a9 h => ?_)
    refine v_goto 61 cx dX12_row_83 (by decide) ?_
    cases h
    have hk : Vat C (wM E) 5 61 [(0, .ref (oX E 0)), (1, .int x1), (2, .int x2), (4, .int a9)] [] s8 := hk
    exact v_lsub (lv' := [(0, .ref (oX E 0)), (1, .int x1), (2, .int x2), (4, .int a9)]) [1, 2, 3, 0] rfl (hk)
set_option maxHeartbeats 4000000 in
set_option maxRecDepth 100000 in
theorem c_X12_row (l : Launch) (E : Ev) (st : Sg) (p1 : Int32) (p2 : Int32) (p3 : Int32) : ∀ q, m_X12_row p1 p2 p3 st = some q → CtI l (wM E) (tyE E) yX12_row cX12_row 5 (some .int) 1 25 [.ref (oX E 0), .int p1, .int p2, .int p3] st q := by
  intro q h
  refine ctI_of (lv0 := [(0, .ref (oX E 0)), (1, .int p1), (2, .int p2), (3, .int p3)]) (by decide) rfl (Nat.le_of_ble_eq_true rfl) (fun C hC cx hk => ?_)
  replace cx : Cx C (tyE E) cX12_row RX12 5 1 25 := cx
  unfold m_X12_row at h
  refine v_iload_n 1 1 cx dX12_row_0 rfl rfl rfl ?_
  refine v_callSI 4 cx dX12_row_1 km_X12_249 ca_X12_isSlot (c_X12_isSlot C.2.1 E st p1 ) rfl (by decide) rfl (Nat.le_of_ble_eq_true rfl) rfl h (fun v2 s1 h => ?_)
  refine v_if_ne 14 7 cx dX12_row_4 (by decide) rfl h (fun h => ?_) (fun h => ?_)
  · refine v_iload_n 15 2 cx dX12_row_14 rfl rfl rfl ?_
    refine v_if_ge 25 18 cx dX12_row_15 (by decide) rfl h (fun h => ?_) (fun h => ?_)
    · refine v_iload_n 26 2 cx dX12_row_25 rfl rfl rfl ?_
      refine v_i2l 27 cx dX12_row_26 rfl ?_
      refine v_lconst 28 cx dX12_row_27 lc_1 rfl ?_
      refine v_ldc2 31 cx dX12_row_28 kc_X12_252 rfl ?_
      refine v_callSI 34 cx dX12_row_31 km_X12_137 ca_X12_isIn (c_X12_isIn C.2.1 E s1 ((p2 : Int32).toInt64) 1 40 ) rfl (by decide) rfl (Nat.le_of_ble_eq_true rfl) rfl h (fun v4 s3 h => ?_)
      refine v_if_ne 44 37 cx dX12_row_34 (by decide) rfl h (fun h => ?_) (fun h => ?_)
      · refine v_aload_n 45 0 cx dX12_row_44 rfl rfl rfl ?_
        refine v_get 48 0 23 cx dX12_row_45 iX12 (wMo_0 E s3) rfl (Nat.le_of_ble_eq_true rfl) rfl kf_X12_71 rfl rfl ?_
        refine v_iload_n 49 1 cx dX12_row_48 rfl rfl rfl ?_
        refine v_iload_n 50 2 cx dX12_row_49 rfl rfl rfl ?_
        refine v_iast 51 21 0 cx dX12_row_50 (wMa_0_23 E s3) rfl (wMt_0_23 E s3) rfl h (fun s5 h => ?_)
        refine v_aload_n 52 0 cx dX12_row_51 rfl rfl rfl ?_
        refine v_get 55 0 24 cx dX12_row_52 iX12 (wMo_0 E s5) rfl (Nat.le_of_ble_eq_true rfl) rfl kf_X12_74 rfl rfl ?_
        refine v_iload_n 56 1 cx dX12_row_55 rfl rfl rfl ?_
        refine v_iload_n 57 3 cx dX12_row_56 rfl rfl rfl ?_
        refine v_zast 58 22 2 cx dX12_row_57 (wMa_0_24 E s5) rfl (wMt_0_24 E s5) rfl h (fun s6 h => ?_)
        refine v_iconst 59 cx dX12_row_58 ic_0 rfl ?_
        refine v_istore 61 (fun a7 => [(4, .int a7), (0, .ref (oX E 0)), (1, .int p1), (2, .int p2), (3, .int p3)]) cx dX12_row_59 (by decide) (fun _ => rfl) rfl h (fun a7 h => ?_)
        refine v_lsub (lv' := [(0, .ref (oX E 0)), (1, .int p1), (2, .int p2), (4, .int a7)]) [1, 2, 3, 0] rfl ?_
        refine v_loop (s0 := (a7, s6)) (V_X12_row_L61 C E p1 p2) (K_X12_row_L61 C E p1 p2) h (b_X12_row_L61 cx p1 p2) (fun r10 h => ?_)
        show Vat C (wM E) 5 86 [] [] r10
        refine v_iconst 87 cx dX12_row_86 ic_1 rfl ?_
        exact hk _ _ _ _ (Option.some.inj h) dX12_row_87
      · refine v_aload_n 38 0 cx dX12_row_37 rfl rfl rfl ?_
        refine v_bipush 40 cx dX12_row_38 bp_m9 rfl ?_
        refine v_callVI 43 0 cx dX12_row_40 km_X12_124 ca_X12_no (wMo_0 E s3) rfl (c_X12_no C.2.1 E s3 (-9) ) rfl (by decide) rfl (Nat.le_of_ble_eq_true rfl) rfl h (fun v12 s11 h => ?_)
        exact hk _ _ _ _ (Option.some.inj h) dX12_row_43
    · refine v_aload_n 19 0 cx dX12_row_18 rfl rfl rfl ?_
      refine v_bipush 21 cx dX12_row_19 bp_m4 rfl ?_
      refine v_callVI 24 0 cx dX12_row_21 km_X12_124 ca_X12_no (wMo_0 E s1) rfl (c_X12_no C.2.1 E s1 (-4) ) rfl (by decide) rfl (Nat.le_of_ble_eq_true rfl) rfl h (fun v14 s13 h => ?_)
      exact hk _ _ _ _ (Option.some.inj h) dX12_row_24
  · refine v_aload_n 8 0 cx dX12_row_7 rfl rfl rfl ?_
    refine v_bipush 10 cx dX12_row_8 bp_m3 rfl ?_
    refine v_callVI 13 0 cx dX12_row_10 km_X12_124 ca_X12_no (wMo_0 E s1) rfl (c_X12_no C.2.1 E s1 (-3) ) rfl (by decide) rfl (Nat.le_of_ble_eq_true rfl) rfl h (fun v16 s15 h => ?_)
    exact hk _ _ _ _ (Option.some.inj h) dX12_row_13
set_option maxHeartbeats 4000000 in
set_option maxRecDepth 100000 in
theorem j_X12_run_59 {C : Cm} {E : Ev} (cx : Cx C (tyE E) cX12_run RX12 5 4 105) (x4 : Int32) (st : Sg) (out : Int32 × Sg) (h : m_X12_run_59 x4 st = some out) (hk : ReI C (wM E) cX12_run 5 out) : Vat C (wM E) 5 59 [(0, .ref (oX E 0)), (4, .int x4)] [] st := by
  unfold m_X12_run_59 at h
  refine v_aload_n 60 0 cx dX12_run_59 rfl rfl rfl ?_
  refine v_iload 62 1 cx dX12_run_60 rfl rfl ?_
  refine v_if_eq 69 65 cx dX12_run_62 (by decide) rfl h (fun h => ?_) (fun h => ?_)
  · refine v_iconst 70 cx dX12_run_69 ic_0 rfl ?_
    refine v_putI 73 0 43 cx dX12_run_70 iX12 tyX12_ok nmX12 (wMo_0 E st) rfl (Nat.le_of_ble_eq_true rfl) rfl kf_X12_273 rfl rfl rfl rfl (Nat.le_of_ble_eq_true rfl) (wMs_0_43 E st _) rfl h (fun s7 h => ?_)
    refine v_aload_n 74 0 cx dX12_run_73 rfl rfl rfl ?_
    refine v_getI 77 0 44 cx dX12_run_74 iX12 (wMo_0 E s7) rfl (Nat.le_of_ble_eq_true rfl) rfl kf_X12_276 rfl rfl h (fun v8 h => ?_)
    exact hk _ _ _ _ (Option.some.inj h) dX12_run_77
  · refine v_iconst 66 cx dX12_run_65 ic_1 rfl ?_
    refine v_goto 70 cx dX12_run_66 (by decide) ?_
    refine v_putI 73 0 43 cx dX12_run_70 iX12 tyX12_ok nmX12 (wMo_0 E st) rfl (Nat.le_of_ble_eq_true rfl) rfl kf_X12_273 rfl rfl rfl rfl (Nat.le_of_ble_eq_true rfl) (wMs_0_43 E st _) rfl h (fun s9 h => ?_)
    refine v_aload_n 74 0 cx dX12_run_73 rfl rfl rfl ?_
    refine v_getI 77 0 44 cx dX12_run_74 iX12 (wMo_0 E s9) rfl (Nat.le_of_ble_eq_true rfl) rfl kf_X12_276 rfl rfl h (fun v10 h => ?_)
    exact hk _ _ _ _ (Option.some.inj h) dX12_run_77
set_option maxHeartbeats 4000000 in
set_option maxRecDepth 100000 in
theorem j_X12_run_39 {C : Cm} {E : Ev} (cx : Cx C (tyE E) cX12_run RX12 5 4 105) (x1 : Int32) (t0 : Int32) (st : Sg) (out : Int32 × Sg) (h : m_X12_run_39 x1 t0 st = some out) (hk : ReI C (wM E) cX12_run 5 out) : Vat C (wM E) 5 39 [(0, .ref (oX E 0)), (1, .int x1)] [.int t0] st := by
  unfold m_X12_run_39 at h
  refine v_istore 41 (fun a5 => [(4, .int a5), (0, .ref (oX E 0)), (1, .int x1)]) cx dX12_run_39 (by decide) (fun _ => rfl) rfl h (fun a5 h => ?_)
  refine v_iload 43 0 cx dX12_run_41 rfl rfl ?_
  refine v_if_eq 54 46 cx dX12_run_43 (by decide) rfl h (fun h => ?_) (fun h => ?_)
  · refine v_aload_n 55 1 cx dX12_run_54 rfl rfl rfl ?_
    refine v_iload_n 56 2 cx dX12_run_55 rfl rfl rfl ?_
    refine v_callVV 59 0 cx dX12_run_56 km_X12_297 ca_X12_plain (wMo_0 E st) rfl (c_X12_plain C.2.1 E st x1 ) rfl (by decide) rfl (Nat.le_of_ble_eq_true rfl) rfl h (fun _ s6 h => ?_)
    exact v_lsub (lv' := [(0, .ref (oX E 0)), (4, .int a5)]) [1, 0] rfl (j_X12_run_59 cx a5 s6 _ h hk)
  · refine v_aload_n 47 1 cx dX12_run_46 rfl rfl rfl ?_
    refine v_iload_n 48 2 cx dX12_run_47 rfl rfl rfl ?_
    refine v_callVV 51 0 cx dX12_run_48 km_X12_293 ca_X12_laid (wMo_0 E st) rfl (c_X12_laid C.2.1 E st x1 ) rfl (by decide) rfl (Nat.le_of_ble_eq_true rfl) rfl h (fun _ s11 h => ?_)
    refine v_goto 59 cx dX12_run_51 (by decide) ?_
    exact v_lsub (lv' := [(0, .ref (oX E 0)), (4, .int a5)]) [1, 0] rfl (j_X12_run_59 cx a5 s11 _ h hk)
set_option maxHeartbeats 4000000 in
set_option maxRecDepth 100000 in
theorem j_X12_run_38 {C : Cm} {E : Ev} (cx : Cx C (tyE E) cX12_run RX12 5 4 105) (x1 : Int32) (st : Sg) (out : Int32 × Sg) (h : m_X12_run_38 x1 st = some out) (hk : ReI C (wM E) cX12_run 5 out) : Vat C (wM E) 5 38 [(0, .ref (oX E 0)), (1, .int x1)] [] st := by
  unfold m_X12_run_38 at h
  refine v_iconst 39 cx dX12_run_38 ic_0 rfl ?_
  exact j_X12_run_39 cx x1 0 st _ h hk
set_option maxHeartbeats 4000000 in
set_option maxRecDepth 100000 in
theorem c_X12_run (l : Launch) (E : Ev) (st : Sg) (p1 : Int32) (p2 : Int32) : ∀ q, m_X12_run p1 p2 st = some q → CtI l (wM E) (tyE E) yX12_run cX12_run 5 (some .int) 4 105 [.ref (oX E 0), .int p1, .int p2] st q := by
  intro q h
  refine ctI_of (lv0 := [(0, .ref (oX E 0)), (1, .int p1), (2, .int p2)]) (by decide) rfl (Nat.le_of_ble_eq_true rfl) (fun C hC cx hk => ?_)
  replace cx : Cx C (tyE E) cX12_run RX12 5 4 105 := cx
  unfold m_X12_run at h
  refine v_aload_n 1 0 cx dX12_run_0 rfl rfl rfl ?_
  refine v_iload_n 2 1 cx dX12_run_1 rfl rfl rfl ?_
  refine v_iload_n 3 2 cx dX12_run_2 rfl rfl rfl ?_
  refine v_callVI 6 0 cx dX12_run_3 km_X12_286 ca_X12_whyNoRun (wMo_0 E st) rfl (c_X12_whyNoRun C.2.1 E st p1 p2 ) rfl (by decide) rfl (Nat.le_of_ble_eq_true rfl) rfl h (fun v2 s1 h => ?_)
  refine v_istore_n 7 (fun a3 => [(3, .int a3), (0, .ref (oX E 0)), (1, .int p1), (2, .int p2)]) cx dX12_run_6 rfl (by decide) (fun _ => rfl) rfl h (fun a3 h => ?_)
  refine v_iload_n 8 0 cx dX12_run_7 rfl rfl rfl ?_
  refine v_if_eq 17 11 cx dX12_run_8 (by decide) rfl h (fun h => ?_) (fun h => ?_)
  · refine v_aload_n 18 1 cx dX12_run_17 rfl rfl rfl ?_
    refine v_callVV 21 0 cx dX12_run_18 km_X12_108 ca_X12_forget (wMo_0 E s1) rfl (c_X12_forget C.2.1 E s1 ) rfl (by decide) rfl (Nat.le_of_ble_eq_true rfl) rfl h (fun _ s4 h => ?_)
    refine v_iload_n 22 3 cx dX12_run_21 rfl rfl rfl ?_
    refine v_if_eq 38 25 cx dX12_run_22 (by decide) rfl h (fun h => ?_) (fun h => ?_)
    · exact v_lsub (lv' := [(0, .ref (oX E 0)), (1, .int p1)]) [1, 2] rfl (j_X12_run_38 cx p1 s4 _ h hk)
    · refine v_iload_n 26 2 cx dX12_run_25 rfl rfl rfl ?_
      refine v_aload_n 27 1 cx dX12_run_26 rfl rfl rfl ?_
      refine v_iconst 28 cx dX12_run_27 ic_1 rfl ?_
      refine v_callVI 31 0 cx dX12_run_28 km_X12_290 ca_X12_laying (wMo_0 E s4) rfl (c_X12_laying C.2.1 E s4 1 ) rfl (by decide) rfl (Nat.le_of_ble_eq_true rfl) rfl h (fun v13 s12 h => ?_)
      refine v_icmp_lt 38 34 cx dX12_run_31 (by decide) rfl h (fun h => ?_) (fun h => ?_)
      · exact v_lsub (lv' := [(0, .ref (oX E 0)), (1, .int p1)]) [1, 2] rfl (j_X12_run_38 cx p1 s12 _ h hk)
      · refine v_iconst 35 cx dX12_run_34 ic_1 rfl ?_
        refine v_goto 39 cx dX12_run_35 (by decide) ?_
        exact v_lsub (lv' := [(0, .ref (oX E 0)), (1, .int p1)]) [1, 2] rfl (j_X12_run_39 cx p1 1 s12 _ h hk)
  · refine v_aload_n 12 1 cx dX12_run_11 rfl rfl rfl ?_
    refine v_iload_n 13 0 cx dX12_run_12 rfl rfl rfl ?_
    refine v_callVI 16 0 cx dX12_run_13 km_X12_124 ca_X12_no (wMo_0 E s1) rfl (c_X12_no C.2.1 E s1 a3 ) rfl (by decide) rfl (Nat.le_of_ble_eq_true rfl) rfl h (fun v15 s14 h => ?_)
    exact hk _ _ _ _ (Option.some.inj h) dX12_run_16
set_option maxHeartbeats 4000000 in
set_option maxRecDepth 100000 in
theorem j_X12_set_19 {C : Cm} {E : Ev} (cx : Cx C (tyE E) cX12_set RX12 6 2 48) (x1 : Int32) (x2 : Int32) (x3 : Int64) (t0 : Int32) (st : Sg) (out : Int32 × Sg) (h : m_X12_set_19 x1 x2 x3 t0 st = some out) (hk : ReI C (wM E) cX12_set 6 out) : Vat C (wM E) 6 19 [(0, .ref (oX E 0)), (1, .int x1), (2, .int x2), (3, .long x3)] [.int t0] st := by
  unfold m_X12_set_19 at h
  refine v_istore 21 (fun a3 => [(5, .int a3), (0, .ref (oX E 0)), (1, .int x1), (2, .int x2), (3, .long x3)]) cx dX12_set_19 (by decide) (fun _ => rfl) rfl h (fun a3 h => ?_)
  refine v_iload 23 0 cx dX12_set_21 rfl rfl ?_
  refine v_if_eq 33 26 cx dX12_set_23 (by decide) rfl h (fun h => ?_) (fun h => ?_)
  · refine v_aload_n 34 1 cx dX12_set_33 rfl rfl rfl ?_
    refine v_get 37 0 21 cx dX12_set_34 iX12 (wMo_0 E st) rfl (Nat.le_of_ble_eq_true rfl) rfl kf_X12_65 rfl rfl ?_
    refine v_bipush 39 cx dX12_set_37 bp_40 rfl ?_
    refine v_iload_n 40 2 cx dX12_set_39 rfl rfl rfl ?_
    refine v_imul 41 cx dX12_set_40 rfl ?_
    refine v_iload_n 42 3 cx dX12_set_41 rfl rfl rfl ?_
    refine v_iadd 43 cx dX12_set_42 rfl ?_
    refine v_lload_n 44 4 cx dX12_set_43 rfl rfl rfl ?_
    refine v_last 45 19 1 cx dX12_set_44 (wMa_0_21 E st) rfl (wMt_0_21 E st) rfl h (fun s4 h => ?_)
    refine v_iconst 46 cx dX12_set_45 ic_1 rfl ?_
    exact hk _ _ _ _ (Option.some.inj h) dX12_set_46
  · refine v_aload_n 27 1 cx dX12_set_26 rfl rfl rfl ?_
    refine v_iload 29 0 cx dX12_set_27 rfl rfl ?_
    refine v_callVI 32 0 cx dX12_set_29 km_X12_124 ca_X12_no (wMo_0 E st) rfl (c_X12_no C.2.1 E st a3 ) rfl (by decide) rfl (Nat.le_of_ble_eq_true rfl) rfl h (fun v6 s5 h => ?_)
    exact hk _ _ _ _ (Option.some.inj h) dX12_set_32
set_option maxHeartbeats 4000000 in
set_option maxRecDepth 100000 in
theorem c_X12_set (l : Launch) (E : Ev) (st : Sg) (p1 : Int32) (p2 : Int32) (p3 : Int64) : ∀ q, m_X12_set p1 p2 p3 st = some q → CtI l (wM E) (tyE E) yX12_set cX12_set 6 (some .int) 2 48 [.ref (oX E 0), .int p1, .int p2, .long p3] st q := by
  intro q h
  refine ctI_of (lv0 := [(0, .ref (oX E 0)), (1, .int p1), (2, .int p2), (3, .long p3)]) (by decide) rfl (Nat.le_of_ble_eq_true rfl) (fun C hC cx hk => ?_)
  replace cx : Cx C (tyE E) cX12_set RX12 6 2 48 := cx
  unfold m_X12_set at h
  refine v_iload_n 1 1 cx dX12_set_0 rfl rfl rfl ?_
  refine v_callSI 4 cx dX12_set_1 km_X12_249 ca_X12_isSlot (c_X12_isSlot C.2.1 E st p1 ) rfl (by decide) rfl (Nat.le_of_ble_eq_true rfl) rfl h (fun v2 s1 h => ?_)
  refine v_if_eq 17 7 cx dX12_set_4 (by decide) rfl h (fun h => ?_) (fun h => ?_)
  · refine v_bipush 19 cx dX12_set_17 bp_m3 rfl ?_
    exact j_X12_set_19 cx p1 p2 p3 (-3) s1 _ h hk
  · refine v_aload_n 8 0 cx dX12_set_7 rfl rfl rfl ?_
    refine v_iload_n 9 1 cx dX12_set_8 rfl rfl rfl ?_
    refine v_iload_n 10 2 cx dX12_set_9 rfl rfl rfl ?_
    refine v_i2l 11 cx dX12_set_10 rfl ?_
    refine v_callVI 14 0 cx dX12_set_11 km_X12_254 ca_X12_why (wMo_0 E s1) rfl (c_X12_why C.2.1 E s1 p1 ((p2 : Int32).toInt64) ) rfl (by decide) rfl (Nat.le_of_ble_eq_true rfl) rfl h (fun v8 s7 h => ?_)
    refine v_goto 19 cx dX12_set_14 (by decide) ?_
    exact j_X12_set_19 cx p1 p2 p3 v8 s7 _ h hk
set_option maxHeartbeats 4000000 in
set_option maxRecDepth 100000 in
theorem c_X12_status (l : Launch) (E : Ev) (st : Sg) (p1 : Int32) : ∀ q, m_X12_status p1 st = some q → CtI l (wM E) (tyE E) yX12_status cX12_status 2 (some .int) 1 25 [.ref (oX E 0), .int p1] st q := by
  intro q h
  refine ctI_of (lv0 := [(0, .ref (oX E 0)), (1, .int p1)]) (by decide) rfl (Nat.le_of_ble_eq_true rfl) (fun C hC cx hk => ?_)
  replace cx : Cx C (tyE E) cX12_status RX12 2 1 25 := cx
  unfold m_X12_status at h
  refine v_iload_n 1 1 cx dX12_status_0 rfl rfl rfl ?_
  refine v_i2l 2 cx dX12_status_1 rfl ?_
  refine v_ldc2 5 cx dX12_status_2 kc_X12_300 rfl ?_
  refine v_ldc2 8 cx dX12_status_5 kc_X12_302 rfl ?_
  refine v_callSI 11 cx dX12_status_8 km_X12_137 ca_X12_isIn (c_X12_isIn C.2.1 E st ((p1 : Int32).toInt64) (-11) (-2) ) rfl (by decide) rfl (Nat.le_of_ble_eq_true rfl) rfl h (fun v2 s1 h => ?_)
  refine v_if_eq 24 14 cx dX12_status_11 (by decide) rfl h (fun h => ?_) (fun h => ?_)
  · refine v_aload_n 25 0 cx dX12_status_24 rfl rfl rfl ?_
    refine v_bipush 27 cx dX12_status_25 bp_m9 rfl ?_
    refine v_callVI 30 0 cx dX12_status_27 km_X12_124 ca_X12_no (wMo_0 E s1) rfl (c_X12_no C.2.1 E s1 (-9) ) rfl (by decide) rfl (Nat.le_of_ble_eq_true rfl) rfl h (fun v4 s3 h => ?_)
    exact hk _ _ _ _ (Option.some.inj h) dX12_status_30
  · refine v_aload_n 15 0 cx dX12_status_14 rfl rfl rfl ?_
    refine v_get 18 0 25 cx dX12_status_15 iX12 (wMo_0 E s1) rfl (Nat.le_of_ble_eq_true rfl) rfl kf_X12_78 rfl rfl ?_
    refine v_iload_n 19 1 cx dX12_status_18 rfl rfl rfl ?_
    refine v_ineg 20 cx dX12_status_19 rfl ?_
    refine v_iald 21 23 0 cx dX12_status_20 (wMa_0_25 E s1) rfl rfl h (fun v5 h => ?_)
    refine v_goto 30 cx dX12_status_21 (by decide) ?_
    exact hk _ _ _ _ (Option.some.inj h) dX12_status_30
set_option maxHeartbeats 4000000 in
set_option maxRecDepth 100000 in
theorem c_X12_store (l : Launch) (E : Ev) (st : Sg) (p1 : Int32) (p2 : Int32) (p3 : Int32) (p4 : Int32) (p5 : Int32) : ∀ q, m_X12_store p1 p2 p3 p4 p5 st = some q → CtI l (wM E) (tyE E) yX12_store cX12_store 6 (some .int) 3 67 [.ref (oX E 0), .int p1, .int p2, .int p3, .int p4, .int p5] st q := by
  intro q h
  refine ctI_of (lv0 := [(0, .ref (oX E 0)), (1, .int p1), (2, .int p2), (3, .int p3), (4, .int p4), (5, .int p5)]) (by decide) rfl (Nat.le_of_ble_eq_true rfl) (fun C hC cx hk => ?_)
  replace cx : Cx C (tyE E) cX12_store RX12 6 3 67 := cx
  unfold m_X12_store at h
  refine v_iload_n 1 3 cx dX12_store_0 rfl rfl rfl ?_
  refine v_callSI 4 cx dX12_store_1 km_X12_149 ca_X12_areTurns (c_X12_areTurns C.2.1 E st p3 ) rfl (by decide) rfl (Nat.le_of_ble_eq_true rfl) rfl h (fun v2 s1 h => ?_)
  refine v_if_eq 15 7 cx dX12_store_4 (by decide) rfl h (fun h => ?_) (fun h => ?_)
  · refine v_aload_n 16 0 cx dX12_store_15 rfl rfl rfl ?_
    refine v_bipush 18 cx dX12_store_16 bp_m9 rfl ?_
    refine v_callVI 21 0 cx dX12_store_18 km_X12_124 ca_X12_no (wMo_0 E s1) rfl (c_X12_no C.2.1 E s1 (-9) ) rfl (by decide) rfl (Nat.le_of_ble_eq_true rfl) rfl h (fun v4 s3 h => ?_)
    exact hk _ _ _ _ (Option.some.inj h) dX12_store_21
  · refine v_iload 9 5 cx dX12_store_7 rfl rfl ?_
    refine v_callSI 12 cx dX12_store_9 km_X12_149 ca_X12_areTurns (c_X12_areTurns C.2.1 E s1 p5 ) rfl (by decide) rfl (Nat.le_of_ble_eq_true rfl) rfl h (fun v6 s5 h => ?_)
    refine v_if_ne 22 15 cx dX12_store_12 (by decide) rfl h (fun h => ?_) (fun h => ?_)
    · refine v_iload_n 23 1 cx dX12_store_22 rfl rfl rfl ?_
      refine v_i2l 24 cx dX12_store_23 rfl ?_
      refine v_lconst 25 cx dX12_store_24 lc_0 rfl ?_
      refine v_ldc2 28 cx dX12_store_25 kc_X12_157 rfl ?_
      refine v_callSI 31 cx dX12_store_28 km_X12_137 ca_X12_isIn (c_X12_isIn C.2.1 E s5 ((p1 : Int32).toInt64) 0 7 ) rfl (by decide) rfl (Nat.le_of_ble_eq_true rfl) rfl h (fun v8 s7 h => ?_)
      refine v_if_eq 54 34 cx dX12_store_31 (by decide) rfl h (fun h => ?_) (fun h => ?_)
      · refine v_aload_n 55 0 cx dX12_store_54 rfl rfl rfl ?_
        refine v_bipush 57 cx dX12_store_55 bp_m3 rfl ?_
        refine v_callVI 60 0 cx dX12_store_57 km_X12_124 ca_X12_no (wMo_0 E s7) rfl (c_X12_no C.2.1 E s7 (-3) ) rfl (by decide) rfl (Nat.le_of_ble_eq_true rfl) rfl h (fun v10 s9 h => ?_)
        exact hk _ _ _ _ (Option.some.inj h) dX12_store_60
      · refine v_aload_n 35 0 cx dX12_store_34 rfl rfl rfl ?_
        refine v_iload_n 36 2 cx dX12_store_35 rfl rfl rfl ?_
        refine v_iload_n 37 3 cx dX12_store_36 rfl rfl rfl ?_
        refine v_callVI 40 0 cx dX12_store_37 km_X12_153 ca_X12_isBeyond (wMo_0 E s7) rfl (c_X12_isBeyond C.2.1 E s7 p2 p3 ) rfl (by decide) rfl (Nat.le_of_ble_eq_true rfl) rfl h (fun v12 s11 h => ?_)
        refine v_if_ne 54 43 cx dX12_store_40 (by decide) rfl h (fun h => ?_) (fun h => ?_)
        · refine v_aload_n 55 0 cx dX12_store_54 rfl rfl rfl ?_
          refine v_bipush 57 cx dX12_store_55 bp_m3 rfl ?_
          refine v_callVI 60 0 cx dX12_store_57 km_X12_124 ca_X12_no (wMo_0 E s11) rfl (c_X12_no C.2.1 E s11 (-3) ) rfl (by decide) rfl (Nat.le_of_ble_eq_true rfl) rfl h (fun v14 s13 h => ?_)
          exact hk _ _ _ _ (Option.some.inj h) dX12_store_60
        · refine v_aload_n 44 0 cx dX12_store_43 rfl rfl rfl ?_
          refine v_iload 46 4 cx dX12_store_44 rfl rfl ?_
          refine v_iload 48 5 cx dX12_store_46 rfl rfl ?_
          refine v_callVI 51 0 cx dX12_store_48 km_X12_153 ca_X12_isBeyond (wMo_0 E s11) rfl (c_X12_isBeyond C.2.1 E s11 p4 p5 ) rfl (by decide) rfl (Nat.le_of_ble_eq_true rfl) rfl h (fun v16 s15 h => ?_)
          refine v_if_eq 61 54 cx dX12_store_51 (by decide) rfl h (fun h => ?_) (fun h => ?_)
          · refine v_aload_n 62 0 cx dX12_store_61 rfl rfl rfl ?_
            refine v_iconst 63 cx dX12_store_62 ic_5 rfl ?_
            refine v_iload_n 64 1 cx dX12_store_63 rfl rfl rfl ?_
            refine v_iload_n 65 2 cx dX12_store_64 rfl rfl rfl ?_
            refine v_iload_n 66 3 cx dX12_store_65 rfl rfl rfl ?_
            refine v_iload 68 4 cx dX12_store_66 rfl rfl ?_
            refine v_iload 70 5 cx dX12_store_68 rfl rfl ?_
            refine v_callVI 73 0 cx dX12_store_70 km_X12_143 ca_X12_adds (wMo_0 E s15) rfl (c_X12_adds C.2.1 E s15 5 p1 p2 p3 p4 p5 ) rfl (by decide) rfl (Nat.le_of_ble_eq_true rfl) rfl h (fun v18 s17 h => ?_)
            exact hk _ _ _ _ (Option.some.inj h) dX12_store_73
          · refine v_aload_n 55 0 cx dX12_store_54 rfl rfl rfl ?_
            refine v_bipush 57 cx dX12_store_55 bp_m3 rfl ?_
            refine v_callVI 60 0 cx dX12_store_57 km_X12_124 ca_X12_no (wMo_0 E s15) rfl (c_X12_no C.2.1 E s15 (-3) ) rfl (by decide) rfl (Nat.le_of_ble_eq_true rfl) rfl h (fun v20 s19 h => ?_)
            exact hk _ _ _ _ (Option.some.inj h) dX12_store_60
    · refine v_aload_n 16 0 cx dX12_store_15 rfl rfl rfl ?_
      refine v_bipush 18 cx dX12_store_16 bp_m9 rfl ?_
      refine v_callVI 21 0 cx dX12_store_18 km_X12_124 ca_X12_no (wMo_0 E s5) rfl (c_X12_no C.2.1 E s5 (-9) ) rfl (by decide) rfl (Nat.le_of_ble_eq_true rfl) rfl h (fun v22 s21 h => ?_)
      exact hk _ _ _ _ (Option.some.inj h) dX12_store_21
set_option maxHeartbeats 4000000 in
set_option maxRecDepth 100000 in
theorem c_X12_tick (l : Launch) (E : Ev) (st : Sg) (p1 : Int32) (p2 : Int32) : ∀ q, m_X12_tick p1 p2 st = some q → CtI l (wM E) (tyE E) yX12_tick cX12_tick 4 (some .int) 4 97 [.ref (oX E 0), .int p1, .int p2] st q := by
  intro q h
  refine ctI_of (lv0 := [(0, .ref (oX E 0)), (1, .int p1), (2, .int p2)]) (by decide) rfl (Nat.le_of_ble_eq_true rfl) (fun C hC cx hk => ?_)
  replace cx : Cx C (tyE E) cX12_tick RX12 4 4 97 := cx
  unfold m_X12_tick at h
  refine v_aload_n 1 0 cx dX12_tick_0 rfl rfl rfl ?_
  refine v_getI 4 0 27 cx dX12_tick_1 iX12 (wMo_0 E st) rfl (Nat.le_of_ble_eq_true rfl) rfl kf_X12_121 rfl rfl h (fun v1 h => ?_)
  refine v_if_ne 14 7 cx dX12_tick_4 (by decide) rfl h (fun h => ?_) (fun h => ?_)
  · refine v_aload_n 15 0 cx dX12_tick_14 rfl rfl rfl ?_
    refine v_iload_n 16 1 cx dX12_tick_15 rfl rfl rfl ?_
    refine v_callVI 19 0 cx dX12_tick_16 km_X12_159 ca_X12_isAct (wMo_0 E st) rfl (c_X12_isAct C.2.1 E st p1 ) rfl (by decide) rfl (Nat.le_of_ble_eq_true rfl) rfl h (fun v3 s2 h => ?_)
    refine v_if_ne 29 22 cx dX12_tick_19 (by decide) rfl h (fun h => ?_) (fun h => ?_)
    · refine v_iload_n 30 2 cx dX12_tick_29 rfl rfl rfl ?_
      refine v_i2l 31 cx dX12_tick_30 rfl ?_
      refine v_lconst 32 cx dX12_tick_31 lc_0 rfl ?_
      refine v_ldc2 35 cx dX12_tick_32 kc_X12_135 rfl ?_
      refine v_callSI 38 cx dX12_tick_35 km_X12_137 ca_X12_isIn (c_X12_isIn C.2.1 E s2 ((p2 : Int32).toInt64) 0 4 ) rfl (by decide) rfl (Nat.le_of_ble_eq_true rfl) rfl h (fun v5 s4 h => ?_)
      refine v_if_ne 48 41 cx dX12_tick_38 (by decide) rfl h (fun h => ?_) (fun h => ?_)
      · refine v_iload_n 49 2 cx dX12_tick_48 rfl rfl rfl ?_
        refine v_iconst 50 cx dX12_tick_49 ic_4 rfl ?_
        refine v_icmp_ne 59 53 cx dX12_tick_50 (by decide) rfl h (fun h => ?_) (fun h => ?_)
        · refine v_iload_n 60 2 cx dX12_tick_59 rfl rfl rfl ?_
          refine v_iconst 61 cx dX12_tick_60 ic_3 rfl ?_
          refine v_icmp_ne 84 64 cx dX12_tick_61 (by decide) rfl h (fun h => ?_) (fun h => ?_)
          · refine v_iload_n 85 2 cx dX12_tick_84 rfl rfl rfl ?_
            refine v_if_ne 97 88 cx dX12_tick_85 (by decide) rfl h (fun h => ?_) (fun h => ?_)
            · refine v_iload_n 98 2 cx dX12_tick_97 rfl rfl rfl ?_
              refine v_iconst 99 cx dX12_tick_98 ic_1 rfl ?_
              refine v_icmp_ne 111 102 cx dX12_tick_99 (by decide) rfl h (fun h => ?_) (fun h => ?_)
              · refine v_aload_n 112 0 cx dX12_tick_111 rfl rfl rfl ?_
                refine v_get 115 0 30 cx dX12_tick_112 iX12 (wMo_0 E s4) rfl (Nat.le_of_ble_eq_true rfl) rfl kf_X12_87 rfl rfl ?_
                refine v_iload_n 116 1 cx dX12_tick_115 rfl rfl rfl ?_
                refine v_iald 117 26 0 cx dX12_tick_116 (wMa_0_30 E s4) rfl rfl h (fun v6 h => ?_)
                exact hk _ _ _ _ (Option.some.inj h) dX12_tick_117
              · refine v_aload_n 103 0 cx dX12_tick_102 rfl rfl rfl ?_
                refine v_get 106 0 29 cx dX12_tick_103 iX12 (wMo_0 E s4) rfl (Nat.le_of_ble_eq_true rfl) rfl kf_X12_84 rfl rfl ?_
                refine v_iload_n 107 1 cx dX12_tick_106 rfl rfl rfl ?_
                refine v_iald 108 25 0 cx dX12_tick_107 (wMa_0_29 E s4) rfl rfl h (fun v7 h => ?_)
                refine v_goto 117 cx dX12_tick_108 (by decide) ?_
                exact hk _ _ _ _ (Option.some.inj h) dX12_tick_117
            · refine v_aload_n 89 0 cx dX12_tick_88 rfl rfl rfl ?_
              refine v_get 92 0 28 cx dX12_tick_89 iX12 (wMo_0 E s4) rfl (Nat.le_of_ble_eq_true rfl) rfl kf_X12_81 rfl rfl ?_
              refine v_iload_n 93 1 cx dX12_tick_92 rfl rfl rfl ?_
              refine v_iald 94 24 0 cx dX12_tick_93 (wMa_0_28 E s4) rfl rfl h (fun v8 h => ?_)
              refine v_goto 117 cx dX12_tick_94 (by decide) ?_
              exact hk _ _ _ _ (Option.some.inj h) dX12_tick_117
          · refine v_aload_n 65 0 cx dX12_tick_64 rfl rfl rfl ?_
            refine v_callVV 68 0 cx dX12_tick_65 km_X12_177 ca_X12_gather (wMo_0 E s4) rfl (c_X12_gather C.2.1 E s4 ) rfl (by decide) rfl (Nat.le_of_ble_eq_true rfl) rfl h (fun _ s9 h => ?_)
            refine v_aload_n 69 0 cx dX12_tick_68 rfl rfl rfl ?_
            refine v_aload_n 70 0 cx dX12_tick_69 rfl rfl rfl ?_
            refine v_getI 73 0 27 cx dX12_tick_70 iX12 (wMo_0 E s9) rfl (Nat.le_of_ble_eq_true rfl) rfl kf_X12_121 rfl rfl h (fun v10 h => ?_)
            refine v_callVI 76 0 cx dX12_tick_73 km_X12_197 ca_X12_rests (wMo_0 E s9) rfl (c_X12_rests C.2.1 E s9 v10 ) rfl (by decide) rfl (Nat.le_of_ble_eq_true rfl) rfl h (fun v12 s11 h => ?_)
            refine v_istore_n 77 (fun a13 => [(3, .int a13), (0, .ref (oX E 0)), (1, .int p1), (2, .int p2)]) cx dX12_tick_76 rfl (by decide) (fun _ => rfl) rfl h (fun a13 h => ?_)
            refine v_aload_n 78 1 cx dX12_tick_77 rfl rfl rfl ?_
            refine v_get 81 0 33 cx dX12_tick_78 iX12 (wMo_0 E s11) rfl (Nat.le_of_ble_eq_true rfl) rfl kf_X12_93 rfl rfl ?_
            refine v_iload_n 82 2 cx dX12_tick_81 rfl rfl rfl ?_
            refine v_iald 83 28 0 cx dX12_tick_82 (wMa_0_33 E s11) rfl rfl h (fun v14 h => ?_)
            exact hk _ _ _ _ (Option.some.inj h) dX12_tick_83
        · refine v_aload_n 54 0 cx dX12_tick_53 rfl rfl rfl ?_
          refine v_iload_n 55 1 cx dX12_tick_54 rfl rfl rfl ?_
          refine v_callVI 58 0 cx dX12_tick_55 km_X12_237 ca_X12_latestBegin (wMo_0 E s4) rfl (c_X12_latestBegin C.2.1 E s4 p1 ) rfl (by decide) rfl (Nat.le_of_ble_eq_true rfl) rfl h (fun v16 s15 h => ?_)
          exact hk _ _ _ _ (Option.some.inj h) dX12_tick_58
      · refine v_aload_n 42 0 cx dX12_tick_41 rfl rfl rfl ?_
        refine v_bipush 44 cx dX12_tick_42 bp_m9 rfl ?_
        refine v_callVI 47 0 cx dX12_tick_44 km_X12_124 ca_X12_no (wMo_0 E s4) rfl (c_X12_no C.2.1 E s4 (-9) ) rfl (by decide) rfl (Nat.le_of_ble_eq_true rfl) rfl h (fun v18 s17 h => ?_)
        exact hk _ _ _ _ (Option.some.inj h) dX12_tick_47
    · refine v_aload_n 23 0 cx dX12_tick_22 rfl rfl rfl ?_
      refine v_bipush 25 cx dX12_tick_23 bp_m3 rfl ?_
      refine v_callVI 28 0 cx dX12_tick_25 km_X12_124 ca_X12_no (wMo_0 E s2) rfl (c_X12_no C.2.1 E s2 (-3) ) rfl (by decide) rfl (Nat.le_of_ble_eq_true rfl) rfl h (fun v20 s19 h => ?_)
      exact hk _ _ _ _ (Option.some.inj h) dX12_tick_28
  · refine v_aload_n 8 0 cx dX12_tick_7 rfl rfl rfl ?_
    refine v_bipush 10 cx dX12_tick_8 bp_m2 rfl ?_
    refine v_callVI 13 0 cx dX12_tick_10 km_X12_124 ca_X12_no (wMo_0 E st) rfl (c_X12_no C.2.1 E st (-2) ) rfl (by decide) rfl (Nat.le_of_ble_eq_true rfl) rfl h (fun v22 s21 h => ?_)
    exact hk _ _ _ _ (Option.some.inj h) dX12_tick_13
set_option maxHeartbeats 4000000 in
set_option maxRecDepth 100000 in
theorem c_X12_told (l : Launch) (E : Ev) (st : Sg) (p1 : Int32) : ∀ q, m_X12_told p1 st = some q → CtI l (wM E) (tyE E) yX12_told cX12_told 2 (some .int) 1 21 [.ref (oX E 0), .int p1] st q := by
  intro q h
  refine ctI_of (lv0 := [(0, .ref (oX E 0)), (1, .int p1)]) (by decide) rfl (Nat.le_of_ble_eq_true rfl) (fun C hC cx hk => ?_)
  replace cx : Cx C (tyE E) cX12_told RX12 2 1 21 := cx
  unfold m_X12_told at h
  refine v_iload_n 1 1 cx dX12_told_0 rfl rfl rfl ?_
  refine v_tabC 40 0 (ck := 0) cx dX12_told_1 (by decide) (by decide) rfl (by decide) (fun i hi => absurd hi (Nat.not_lt_zero i)) h (fun h => ?_) (fun hn h => ?_)
  · refine v_aload_n 41 0 cx dX12_told_40 rfl rfl rfl ?_
    refine v_getI 44 0 38 cx dX12_told_41 iX12 (wMo_0 E st) rfl (Nat.le_of_ble_eq_true rfl) rfl kf_X12_258 rfl rfl h (fun v1 h => ?_)
    exact hk _ _ _ _ (Option.some.inj h) dX12_told_44
  · refine v_tabC 45 1 (ck := 1) cx dX12_told_1 (by decide) (by decide) rfl (by decide) hn h (fun h => ?_) (fun hn h => ?_)
    · refine v_aload_n 46 0 cx dX12_told_45 rfl rfl rfl ?_
      refine v_getI 49 0 39 cx dX12_told_46 iX12 (wMo_0 E st) rfl (Nat.le_of_ble_eq_true rfl) rfl kf_X12_261 rfl rfl h (fun v2 h => ?_)
      exact hk _ _ _ _ (Option.some.inj h) dX12_told_49
    · refine v_tabC 50 2 (ck := 2) cx dX12_told_1 (by decide) (by decide) rfl (by decide) hn h (fun h => ?_) (fun hn h => ?_)
      · refine v_aload_n 51 0 cx dX12_told_50 rfl rfl rfl ?_
        refine v_getI 54 0 40 cx dX12_told_51 iX12 (wMo_0 E st) rfl (Nat.le_of_ble_eq_true rfl) rfl kf_X12_264 rfl rfl h (fun v3 h => ?_)
        exact hk _ _ _ _ (Option.some.inj h) dX12_told_54
      · refine v_tabC 55 3 (ck := 3) cx dX12_told_1 (by decide) (by decide) rfl (by decide) hn h (fun h => ?_) (fun hn h => ?_)
        · refine v_aload_n 56 0 cx dX12_told_55 rfl rfl rfl ?_
          refine v_getI 59 0 41 cx dX12_told_56 iX12 (wMo_0 E st) rfl (Nat.le_of_ble_eq_true rfl) rfl kf_X12_267 rfl rfl h (fun v4 h => ?_)
          exact hk _ _ _ _ (Option.some.inj h) dX12_told_59
        · refine v_tabC 60 4 (ck := 4) cx dX12_told_1 (by decide) (by decide) rfl (by decide) hn h (fun h => ?_) (fun hn h => ?_)
          · refine v_aload_n 61 0 cx dX12_told_60 rfl rfl rfl ?_
            refine v_getI 64 0 42 cx dX12_told_61 iX12 (wMo_0 E st) rfl (Nat.le_of_ble_eq_true rfl) rfl kf_X12_270 rfl rfl h (fun v5 h => ?_)
            exact hk _ _ _ _ (Option.some.inj h) dX12_told_64
          · refine v_tabC 65 5 (ck := 5) cx dX12_told_1 (by decide) (by decide) rfl (by decide) hn h (fun h => ?_) (fun hn h => ?_)
            · refine v_aload_n 66 0 cx dX12_told_65 rfl rfl rfl ?_
              refine v_getI 69 0 43 cx dX12_told_66 iX12 (wMo_0 E st) rfl (Nat.le_of_ble_eq_true rfl) rfl kf_X12_273 rfl rfl h (fun v6 h => ?_)
              exact hk _ _ _ _ (Option.some.inj h) dX12_told_69
            · refine v_tabD 70 6 cx dX12_told_1 (by decide) (by decide) hn ?_
              refine v_aload_n 71 0 cx dX12_told_70 rfl rfl rfl ?_
              refine v_bipush 73 cx dX12_told_71 bp_m9 rfl ?_
              refine v_callVI 76 0 cx dX12_told_73 km_X12_124 ca_X12_no (wMo_0 E st) rfl (c_X12_no C.2.1 E st (-9) ) rfl (by decide) rfl (Nat.le_of_ble_eq_true rfl) rfl h (fun v8 s7 h => ?_)
              exact hk _ _ _ _ (Option.some.inj h) dX12_told_76
set_option maxHeartbeats 4000000 in
set_option maxRecDepth 100000 in
theorem c_X12_trials (l : Launch) (E : Ev) (st : Sg) : ∀ q, m_X12_trials st = some q → CtI l (wM E) (tyE E) yX12_trials cX12_trials 1 (some .int) 0 0 [.ref (oX E 0)] st q := by
  intro q h
  refine ctI_of (lv0 := [(0, .ref (oX E 0))]) (by decide) rfl (Nat.le_of_ble_eq_true rfl) (fun C hC cx hk => ?_)
  replace cx : Cx C (tyE E) cX12_trials RX12 1 0 0 := cx
  unfold m_X12_trials at h
  refine v_aload_n 1 0 cx dX12_trials_0 rfl rfl rfl ?_
  refine v_getI 4 0 32 cx dX12_trials_1 iX12 (wMo_0 E st) rfl (Nat.le_of_ble_eq_true rfl) rfl kf_X12_221 rfl rfl h (fun v1 h => ?_)
  exact hk _ _ _ _ (Option.some.inj h) dX12_trials_4
