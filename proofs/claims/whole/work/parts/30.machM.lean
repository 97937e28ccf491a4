-- machine layer (written by gen.py)
set_option maxHeartbeats 4000000 in
set_option maxRecDepth 100000 in
theorem c_X12_isAct (l : Launch) (E : Ev) (st : Sg) (p1 : Int32) : ∀ q, m_X12_isAct p1 st = some q → CtI l (wM E) (tyE E) yX12_isAct cX12_isAct 2 (some .boolean) 0 0 [.ref (oX E 0), .int p1] st q := by
  intro q h
  refine ctZ_of (lv0 := [(0, .ref (oX E 0)), (1, .int p1)]) (by decide) rfl (Nat.le_of_ble_eq_true rfl) (fun C hC cx hk => ?_)
  replace cx : Cx C (tyE E) cX12_isAct RX12 2 0 0 := cx
  unfold m_X12_isAct at h
  refine v_iload_n 1 1 cx dX12_isAct_0 rfl rfl rfl ?_
  refine v_if_lt 16 4 cx dX12_isAct_1 (by decide) rfl h (fun h => ?_) (fun h => ?_)
  · refine v_iconst 17 cx dX12_isAct_16 ic_0 rfl ?_
    exact hk _ _ _ _ (Option.some.inj h) (Or.inl rfl) dX12_isAct_17
  · refine v_iload_n 5 1 cx dX12_isAct_4 rfl rfl rfl ?_
    refine v_aload_n 6 0 cx dX12_isAct_5 rfl rfl rfl ?_
    refine v_getI 9 0 9 cx dX12_isAct_6 iX12 (wMo_0 E st) rfl (Nat.le_of_ble_eq_true rfl) rfl kf_X12_118 rfl rfl h (fun v1 h => ?_)
    refine v_icmp_ge 16 12 cx dX12_isAct_9 (by decide) rfl h (fun h => ?_) (fun h => ?_)
    · refine v_iconst 17 cx dX12_isAct_16 ic_0 rfl ?_
      exact hk _ _ _ _ (Option.some.inj h) (Or.inl rfl) dX12_isAct_17
    · refine v_iconst 13 cx dX12_isAct_12 ic_1 rfl ?_
      refine v_goto 17 cx dX12_isAct_13 (by decide) ?_
      exact hk _ _ _ _ (Option.some.inj h) (Or.inr rfl) dX12_isAct_17
set_option maxHeartbeats 4000000 in
set_option maxRecDepth 100000 in
theorem c_X12_no (l : Launch) (E : Ev) (st : Sg) (p1 : Int32) : ∀ q, m_X12_no p1 st = some q → CtI l (wM E) (tyE E) yX12_no cX12_no 2 (some .int) 0 0 [.ref (oX E 0), .int p1] st q := by
  intro q h
  refine ctI_of (lv0 := [(0, .ref (oX E 0)), (1, .int p1)]) (by decide) rfl (Nat.le_of_ble_eq_true rfl) (fun C hC cx hk => ?_)
  replace cx : Cx C (tyE E) cX12_no RX12 2 0 0 := cx
  unfold m_X12_no at h
  refine v_aload_n 1 0 cx dX12_no_0 rfl rfl rfl ?_
  refine v_get 4 0 25 cx dX12_no_1 iX12 (wMo_0 E st) rfl (Nat.le_of_ble_eq_true rfl) rfl kf_X12_78 rfl rfl ?_
  refine v_iload_n 5 1 cx dX12_no_4 rfl rfl rfl ?_
  refine v_ineg 6 cx dX12_no_5 rfl ?_
  refine v_dup2 7 cx dX12_no_6 rfl rfl rfl ?_
  refine v_iald 8 23 0 cx dX12_no_7 (wMa_0_25 E st) rfl rfl h (fun v1 h => ?_)
  refine v_iconst 9 cx dX12_no_8 ic_1 rfl ?_
  refine v_iadd 10 cx dX12_no_9 rfl ?_
  refine v_iast 11 23 0 cx dX12_no_10 (wMa_0_25 E st) rfl (wMt_0_25 E st) rfl h (fun s2 h => ?_)
  refine v_aload_n 12 0 cx dX12_no_11 rfl rfl rfl ?_
  refine v_iload_n 13 1 cx dX12_no_12 rfl rfl rfl ?_
  refine v_putI 16 0 26 cx dX12_no_13 iX12 tyX12_ok nmX12 (wMo_0 E s2) rfl (Nat.le_of_ble_eq_true rfl) rfl kf_X12_114 rfl rfl rfl rfl (Nat.le_of_ble_eq_true rfl) (wMs_0_26 E s2 _) rfl h (fun s3 h => ?_)
  refine v_iload_n 17 1 cx dX12_no_16 rfl rfl rfl ?_
  exact hk _ _ _ _ (Option.some.inj h) dX12_no_17
set_option maxHeartbeats 4000000 in
set_option maxRecDepth 100000 in
theorem c_X12_isIn (l : Launch) (E : Ev) (st : Sg) (p0 : Int64) (p2 : Int64) (p4 : Int64) : ∀ q, m_X12_isIn p0 p2 p4 st = some q → CtI l (wM E) (tyE E) yX12_isIn cX12_isIn 6 (some .boolean) 0 0 [.long p0, .long p2, .long p4] st q := by
  intro q h
  refine ctZ_of (lv0 := [(0, .long p0), (2, .long p2), (4, .long p4)]) (by decide) rfl (Nat.le_of_ble_eq_true rfl) (fun C hC cx hk => ?_)
  replace cx : Cx C (tyE E) cX12_isIn RX12 6 0 0 := cx
  unfold m_X12_isIn at h
  refine v_lload_n 1 0 cx dX12_isIn_0 rfl rfl rfl ?_
  refine v_lload_n 2 1 cx dX12_isIn_1 rfl rfl rfl ?_
  refine v_lcmp 3 cx dX12_isIn_2 rfl ?_
  refine v_if_lt 17 6 cx dX12_isIn_3 (by decide) rfl h (fun h => ?_) (fun h => ?_)
  · refine v_iconst 18 cx dX12_isIn_17 ic_0 rfl ?_
    exact hk _ _ _ _ (Option.some.inj h) (Or.inl rfl) dX12_isIn_18
  · refine v_lload_n 7 0 cx dX12_isIn_6 rfl rfl rfl ?_
    refine v_lload 9 2 cx dX12_isIn_7 rfl rfl ?_
    refine v_lcmp 10 cx dX12_isIn_9 rfl ?_
    refine v_if_gt 17 13 cx dX12_isIn_10 (by decide) rfl h (fun h => ?_) (fun h => ?_)
    · refine v_iconst 18 cx dX12_isIn_17 ic_0 rfl ?_
      exact hk _ _ _ _ (Option.some.inj h) (Or.inl rfl) dX12_isIn_18
    · refine v_iconst 14 cx dX12_isIn_13 ic_1 rfl ?_
      refine v_goto 18 cx dX12_isIn_14 (by decide) ?_
      exact hk _ _ _ _ (Option.some.inj h) (Or.inr rfl) dX12_isIn_18
set_option maxHeartbeats 4000000 in
set_option maxRecDepth 100000 in
theorem c_X12_act (l : Launch) (E : Ev) (st : Sg) (p1 : Int32) (p2 : Int32) : ∀ q, m_X12_act p1 p2 st = some q → CtI l (wM E) (tyE E) yX12_act cX12_act 4 (some .int) 1 25 [.ref (oX E 0), .int p1, .int p2] st q := by
  intro q h
  refine ctI_of (lv0 := [(0, .ref (oX E 0)), (1, .int p1), (2, .int p2)]) (by decide) rfl (Nat.le_of_ble_eq_true rfl) (fun C hC cx hk => ?_)
  replace cx : Cx C (tyE E) cX12_act RX12 4 1 25 := cx
  unfold m_X12_act at h
  refine v_aload_n 1 0 cx dX12_act_0 rfl rfl rfl ?_
  refine v_iload_n 2 1 cx dX12_act_1 rfl rfl rfl ?_
  refine v_callVI 5 0 cx dX12_act_2 km_X12_159 ca_X12_isAct (wMo_0 E st) rfl (c_X12_isAct C.2.1 E st p1 ) rfl (by decide) rfl (Nat.le_of_ble_eq_true rfl) rfl h (fun v2 s1 h => ?_)
  refine v_if_ne 15 8 cx dX12_act_5 (by decide) rfl h (fun h => ?_) (fun h => ?_)
  · refine v_iload_n 16 2 cx dX12_act_15 rfl rfl rfl ?_
    refine v_i2l 17 cx dX12_act_16 rfl ?_
    refine v_lconst 18 cx dX12_act_17 lc_0 rfl ?_
    refine v_ldc2 21 cx dX12_act_18 kc_X12_175 rfl ?_
    refine v_callSI 24 cx dX12_act_21 km_X12_137 ca_X12_isIn (c_X12_isIn C.2.1 E s1 ((p2 : Int32).toInt64) 0 10 ) rfl (by decide) rfl (Nat.le_of_ble_eq_true rfl) rfl h (fun v4 s3 h => ?_)
    refine v_if_ne 34 27 cx dX12_act_24 (by decide) rfl h (fun h => ?_) (fun h => ?_)
    · refine v_iload_n 35 2 cx dX12_act_34 rfl rfl rfl ?_
      refine v_tabC 68 0 (ck := 0) cx dX12_act_35 (by decide) (by decide) rfl (by decide) (fun i hi => absurd hi (Nat.not_lt_zero i)) h (fun h => ?_) (fun hn h => ?_)
      · refine v_aload_n 69 0 cx dX12_act_68 rfl rfl rfl ?_
        refine v_get 72 0 0 cx dX12_act_69 iX12 (wMo_0 E s3) rfl (Nat.le_of_ble_eq_true rfl) rfl kf_X12_7 rfl rfl ?_
        refine v_iload_n 73 1 cx dX12_act_72 rfl rfl rfl ?_
        refine v_iald 74 1 0 cx dX12_act_73 (wMa_0_0 E s3) rfl rfl h (fun v5 h => ?_)
        exact hk _ _ _ _ (Option.some.inj h) dX12_act_74
      · refine v_tabC 75 1 (ck := 1) cx dX12_act_35 (by decide) (by decide) rfl (by decide) hn h (fun h => ?_) (fun hn h => ?_)
        · refine v_aload_n 76 0 cx dX12_act_75 rfl rfl rfl ?_
          refine v_get 79 0 1 cx dX12_act_76 iX12 (wMo_0 E s3) rfl (Nat.le_of_ble_eq_true rfl) rfl kf_X12_13 rfl rfl ?_
          refine v_iload_n 80 1 cx dX12_act_79 rfl rfl rfl ?_
          refine v_iald 81 2 0 cx dX12_act_80 (wMa_0_1 E s3) rfl rfl h (fun v6 h => ?_)
          exact hk _ _ _ _ (Option.some.inj h) dX12_act_81
        · refine v_tabC 82 2 (ck := 2) cx dX12_act_35 (by decide) (by decide) rfl (by decide) hn h (fun h => ?_) (fun hn h => ?_)
          · refine v_aload_n 83 0 cx dX12_act_82 rfl rfl rfl ?_
            refine v_get 86 0 2 cx dX12_act_83 iX12 (wMo_0 E s3) rfl (Nat.le_of_ble_eq_true rfl) rfl kf_X12_16 rfl rfl ?_
            refine v_iload_n 87 1 cx dX12_act_86 rfl rfl rfl ?_
            refine v_iald 88 3 0 cx dX12_act_87 (wMa_0_2 E s3) rfl rfl h (fun v7 h => ?_)
            exact hk _ _ _ _ (Option.some.inj h) dX12_act_88
          · refine v_tabC 89 3 (ck := 3) cx dX12_act_35 (by decide) (by decide) rfl (by decide) hn h (fun h => ?_) (fun hn h => ?_)
            · refine v_aload_n 90 0 cx dX12_act_89 rfl rfl rfl ?_
              refine v_get 93 0 3 cx dX12_act_90 iX12 (wMo_0 E s3) rfl (Nat.le_of_ble_eq_true rfl) rfl kf_X12_19 rfl rfl ?_
              refine v_iload_n 94 1 cx dX12_act_93 rfl rfl rfl ?_
              refine v_iald 95 4 0 cx dX12_act_94 (wMa_0_3 E s3) rfl rfl h (fun v8 h => ?_)
              exact hk _ _ _ _ (Option.some.inj h) dX12_act_95
            · refine v_tabC 96 4 (ck := 4) cx dX12_act_35 (by decide) (by decide) rfl (by decide) hn h (fun h => ?_) (fun hn h => ?_)
              · refine v_aload_n 97 0 cx dX12_act_96 rfl rfl rfl ?_
                refine v_get 100 0 4 cx dX12_act_97 iX12 (wMo_0 E s3) rfl (Nat.le_of_ble_eq_true rfl) rfl kf_X12_22 rfl rfl ?_
                refine v_iload_n 101 1 cx dX12_act_100 rfl rfl rfl ?_
                refine v_iald 102 5 0 cx dX12_act_101 (wMa_0_4 E s3) rfl rfl h (fun v9 h => ?_)
                exact hk _ _ _ _ (Option.some.inj h) dX12_act_102
              · refine v_tabD 103 5 cx dX12_act_35 (by decide) (by decide) hn ?_
                refine v_iconst 104 cx dX12_act_103 ic_3 rfl ?_
                refine v_iload_n 105 1 cx dX12_act_104 rfl rfl rfl ?_
                refine v_imul 106 cx dX12_act_105 rfl ?_
                refine v_iload_n 107 2 cx dX12_act_106 rfl rfl rfl ?_
                refine v_iconst 108 cx dX12_act_107 ic_5 rfl ?_
                refine v_isub 109 cx dX12_act_108 rfl ?_
                refine v_iconst 110 cx dX12_act_109 ic_2 rfl ?_
                refine v_idiv 111 cx dX12_act_110 rfl h (fun h => ?_)
                refine v_iadd 112 cx dX12_act_111 rfl ?_
                refine v_istore_n 113 (fun a10 => [(3, .int a10), (0, .ref (oX E 0)), (1, .int p1), (2, .int p2)]) cx dX12_act_112 rfl (by decide) (fun _ => rfl) rfl h (fun a10 h => ?_)
                refine v_iload_n 114 3 cx dX12_act_113 rfl rfl rfl ?_
                refine v_iconst 115 cx dX12_act_114 ic_2 rfl ?_
                refine v_irem 116 cx dX12_act_115 rfl h (fun h => ?_)
                refine v_iconst 117 cx dX12_act_116 ic_1 rfl ?_
                refine v_icmp_ne 129 120 cx dX12_act_117 (by decide) rfl h (fun h => ?_) (fun h => ?_)
                · refine v_aload_n 130 1 cx dX12_act_129 rfl rfl rfl ?_
                  refine v_get 133 0 6 cx dX12_act_130 iX12 (wMo_0 E s3) rfl (Nat.le_of_ble_eq_true rfl) rfl kf_X12_28 rfl rfl ?_
                  refine v_iload_n 134 0 cx dX12_act_133 rfl rfl rfl ?_
                  refine v_iald 135 7 0 cx dX12_act_134 (wMa_0_6 E s3) rfl rfl h (fun v11 h => ?_)
                  exact hk _ _ _ _ (Option.some.inj h) dX12_act_135
                · refine v_aload_n 121 1 cx dX12_act_120 rfl rfl rfl ?_
                  refine v_get 124 0 5 cx dX12_act_121 iX12 (wMo_0 E s3) rfl (Nat.le_of_ble_eq_true rfl) rfl kf_X12_25 rfl rfl ?_
                  refine v_iload_n 125 0 cx dX12_act_124 rfl rfl rfl ?_
                  refine v_iald 126 6 0 cx dX12_act_125 (wMa_0_5 E s3) rfl rfl h (fun v12 h => ?_)
                  refine v_goto 135 cx dX12_act_126 (by decide) ?_
                  exact hk _ _ _ _ (Option.some.inj h) dX12_act_135
    · refine v_aload_n 28 0 cx dX12_act_27 rfl rfl rfl ?_
      refine v_bipush 30 cx dX12_act_28 bp_m9 rfl ?_
      refine v_callVI 33 0 cx dX12_act_30 km_X12_124 ca_X12_no (wMo_0 E s3) rfl (c_X12_no C.2.1 E s3 (-9) ) rfl (by decide) rfl (Nat.le_of_ble_eq_true rfl) rfl h (fun v14 s13 h => ?_)
      exact hk _ _ _ _ (Option.some.inj h) dX12_act_33
  · refine v_aload_n 9 0 cx dX12_act_8 rfl rfl rfl ?_
    refine v_bipush 11 cx dX12_act_9 bp_m3 rfl ?_
    refine v_callVI 14 0 cx dX12_act_11 km_X12_124 ca_X12_no (wMo_0 E s1) rfl (c_X12_no C.2.1 E s1 (-3) ) rfl (by decide) rfl (Nat.le_of_ble_eq_true rfl) rfl h (fun v16 s15 h => ?_)
    exact hk _ _ _ _ (Option.some.inj h) dX12_act_14
set_option maxHeartbeats 4000000 in
set_option maxRecDepth 100000 in
theorem c_X12_operand (l : Launch) (E : Ev) (st : Sg) (p1 : Int32) (p2 : Int32) (p3 : Int32) (p4 : Int32) : ∀ q, m_X12_operand p1 p2 p3 p4 st = some q → CtV l (wM E) (tyE E) yX12_operand cX12_operand 5 none 0 0 [.ref (oX E 0), .int p1, .int p2, .int p3, .int p4] st q := by
  intro q h
  refine ctV_of (lv0 := [(0, .ref (oX E 0)), (1, .int p1), (2, .int p2), (3, .int p3), (4, .int p4)]) (by decide) rfl (Nat.le_of_ble_eq_true rfl) (fun C hC cx hk => ?_)
  replace cx : Cx C (tyE E) cX12_operand RX12 5 0 0 := cx
  unfold m_X12_operand at h
  refine v_aload_n 1 0 cx dX12_operand_0 rfl rfl rfl ?_
  refine v_get 4 0 5 cx dX12_operand_1 iX12 (wMo_0 E st) rfl (Nat.le_of_ble_eq_true rfl) rfl kf_X12_25 rfl rfl ?_
  refine v_iconst 5 cx dX12_operand_4 ic_3 rfl ?_
  refine v_iload_n 6 1 cx dX12_operand_5 rfl rfl rfl ?_
  refine v_imul 7 cx dX12_operand_6 rfl ?_
  refine v_iload_n 8 2 cx dX12_operand_7 rfl rfl rfl ?_
  refine v_iadd 9 cx dX12_operand_8 rfl ?_
  refine v_iload_n 10 3 cx dX12_operand_9 rfl rfl rfl ?_
  refine v_iast 11 6 0 cx dX12_operand_10 (wMa_0_5 E st) rfl (wMt_0_5 E st) rfl h (fun s1 h => ?_)
  refine v_aload_n 12 0 cx dX12_operand_11 rfl rfl rfl ?_
  refine v_get 15 0 6 cx dX12_operand_12 iX12 (wMo_0 E s1) rfl (Nat.le_of_ble_eq_true rfl) rfl kf_X12_28 rfl rfl ?_
  refine v_iconst 16 cx dX12_operand_15 ic_3 rfl ?_
  refine v_iload_n 17 1 cx dX12_operand_16 rfl rfl rfl ?_
  refine v_imul 18 cx dX12_operand_17 rfl ?_
  refine v_iload_n 19 2 cx dX12_operand_18 rfl rfl rfl ?_
  refine v_iadd 20 cx dX12_operand_19 rfl ?_
  refine v_iload 22 4 cx dX12_operand_20 rfl rfl ?_
  refine v_iast 23 7 0 cx dX12_operand_22 (wMa_0_6 E s1) rfl (wMt_0_6 E s1) rfl h (fun s2 h => ?_)
  exact hk _ _ _ _ (Option.some.inj h) dX12_operand_23
set_option maxHeartbeats 4000000 in
set_option maxRecDepth 100000 in
theorem c_X12_forget (l : Launch) (E : Ev) (st : Sg) : ∀ q, m_X12_forget st = some q → CtV l (wM E) (tyE E) yX12_forget cX12_forget 1 none 0 0 [.ref (oX E 0)] st q := by
  intro q h
  refine ctV_of (lv0 := [(0, .ref (oX E 0))]) (by decide) rfl (Nat.le_of_ble_eq_true rfl) (fun C hC cx hk => ?_)
  replace cx : Cx C (tyE E) cX12_forget RX12 1 0 0 := cx
  unfold m_X12_forget at h
  refine v_aload_n 1 0 cx dX12_forget_0 rfl rfl rfl ?_
  refine v_iconst 2 cx dX12_forget_1 ic_0 rfl ?_
  refine v_putI 5 0 38 cx dX12_forget_2 iX12 tyX12_ok nmX12 (wMo_0 E st) rfl (Nat.le_of_ble_eq_true rfl) rfl kf_X12_258 rfl rfl rfl rfl (Nat.le_of_ble_eq_true rfl) (wMs_0_38 E st _) rfl h (fun s1 h => ?_)
  refine v_aload_n 6 0 cx dX12_forget_5 rfl rfl rfl ?_
  refine v_iconst 7 cx dX12_forget_6 ic_m1 rfl ?_
  refine v_putI 10 0 39 cx dX12_forget_7 iX12 tyX12_ok nmX12 (wMo_0 E s1) rfl (Nat.le_of_ble_eq_true rfl) rfl kf_X12_261 rfl rfl rfl rfl (Nat.le_of_ble_eq_true rfl) (wMs_0_39 E s1 _) rfl h (fun s2 h => ?_)
  refine v_aload_n 11 0 cx dX12_forget_10 rfl rfl rfl ?_
  refine v_iconst 12 cx dX12_forget_11 ic_m1 rfl ?_
  refine v_putI 15 0 40 cx dX12_forget_12 iX12 tyX12_ok nmX12 (wMo_0 E s2) rfl (Nat.le_of_ble_eq_true rfl) rfl kf_X12_264 rfl rfl rfl rfl (Nat.le_of_ble_eq_true rfl) (wMs_0_40 E s2 _) rfl h (fun s3 h => ?_)
  refine v_aload_n 16 0 cx dX12_forget_15 rfl rfl rfl ?_
  refine v_iconst 17 cx dX12_forget_16 ic_0 rfl ?_
  refine v_putI 20 0 41 cx dX12_forget_17 iX12 tyX12_ok nmX12 (wMo_0 E s3) rfl (Nat.le_of_ble_eq_true rfl) rfl kf_X12_267 rfl rfl rfl rfl (Nat.le_of_ble_eq_true rfl) (wMs_0_41 E s3 _) rfl h (fun s4 h => ?_)
  refine v_aload_n 21 0 cx dX12_forget_20 rfl rfl rfl ?_
  refine v_iconst 22 cx dX12_forget_21 ic_0 rfl ?_
  refine v_putI 25 0 42 cx dX12_forget_22 iX12 tyX12_ok nmX12 (wMo_0 E s4) rfl (Nat.le_of_ble_eq_true rfl) rfl kf_X12_270 rfl rfl rfl rfl (Nat.le_of_ble_eq_true rfl) (wMs_0_42 E s4 _) rfl h (fun s5 h => ?_)
  refine v_aload_n 26 0 cx dX12_forget_25 rfl rfl rfl ?_
  refine v_iconst 27 cx dX12_forget_26 ic_0 rfl ?_
  refine v_putI 30 0 43 cx dX12_forget_27 iX12 tyX12_ok nmX12 (wMo_0 E s5) rfl (Nat.le_of_ble_eq_true rfl) rfl kf_X12_273 rfl rfl rfl rfl (Nat.le_of_ble_eq_true rfl) (wMs_0_43 E s5 _) rfl h (fun s6 h => ?_)
  refine v_aload_n 31 0 cx dX12_forget_30 rfl rfl rfl ?_
  refine v_iconst 32 cx dX12_forget_31 ic_0 rfl ?_
  refine v_putI 35 0 44 cx dX12_forget_32 iX12 tyX12_ok nmX12 (wMo_0 E s6) rfl (Nat.le_of_ble_eq_true rfl) rfl kf_X12_276 rfl rfl rfl rfl (Nat.le_of_ble_eq_true rfl) (wMs_0_44 E s6 _) rfl h (fun s7 h => ?_)
  exact hk _ _ _ _ (Option.some.inj h) dX12_forget_35
set_option maxHeartbeats 4000000 in
set_option maxRecDepth 100000 in
theorem c_X12_changes (l : Launch) (E : Ev) (st : Sg) : ∀ q, m_X12_changes st = some q → CtV l (wM E) (tyE E) yX12_changes cX12_changes 1 none 1 20 [.ref (oX E 0)] st q := by
  intro q h
  refine ctV_of (lv0 := [(0, .ref (oX E 0))]) (by decide) rfl (Nat.le_of_ble_eq_true rfl) (fun C hC cx hk => ?_)
  replace cx : Cx C (tyE E) cX12_changes RX12 1 1 20 := cx
  unfold m_X12_changes at h
  refine v_aload_n 1 0 cx dX12_changes_0 rfl rfl rfl ?_
  refine v_iconst 2 cx dX12_changes_1 ic_0 rfl ?_
  refine v_putI 5 0 27 cx dX12_changes_2 iX12 tyX12_ok nmX12 (wMo_0 E st) rfl (Nat.le_of_ble_eq_true rfl) rfl kf_X12_121 rfl rfl rfl rfl (Nat.le_of_ble_eq_true rfl) (wMs_0_27 E st _) rfl h (fun s1 h => ?_)
  refine v_aload_n 6 0 cx dX12_changes_5 rfl rfl rfl ?_
  refine v_callVV 9 0 cx dX12_changes_6 km_X12_108 ca_X12_forget (wMo_0 E s1) rfl (c_X12_forget C.2.1 E s1 ) rfl (by decide) rfl (Nat.le_of_ble_eq_true rfl) rfl h (fun _ s2 h => ?_)
  exact hk _ _ _ _ (Option.some.inj h) dX12_changes_9
set_option maxHeartbeats 4000000 in
set_option maxRecDepth 100000 in
theorem c_X12_adds (l : Launch) (E : Ev) (st : Sg) (p1 : Int32) (p2 : Int32) (p3 : Int32) (p4 : Int32) (p5 : Int32) (p6 : Int32) : ∀ q, m_X12_adds p1 p2 p3 p4 p5 p6 st = some q → CtI l (wM E) (tyE E) yX12_adds cX12_adds 8 (some .int) 2 40 [.ref (oX E 0), .int p1, .int p2, .int p3, .int p4, .int p5, .int p6] st q := by
  intro q h
  refine ctI_of (lv0 := [(0, .ref (oX E 0)), (1, .int p1), (2, .int p2), (3, .int p3), (4, .int p4), (5, .int p5), (6, .int p6)]) (by decide) rfl (Nat.le_of_ble_eq_true rfl) (fun C hC cx hk => ?_)
  replace cx : Cx C (tyE E) cX12_adds RX12 8 2 40 := cx
  unfold m_X12_adds at h
  refine v_aload_n 1 0 cx dX12_adds_0 rfl rfl rfl ?_
  refine v_getI 4 0 9 cx dX12_adds_1 iX12 (wMo_0 E st) rfl (Nat.le_of_ble_eq_true rfl) rfl kf_X12_118 rfl rfl h (fun v1 h => ?_)
  refine v_bipush 6 cx dX12_adds_4 bp_16 rfl ?_
  refine v_icmp_ne 16 9 cx dX12_adds_6 (by decide) rfl h (fun h => ?_) (fun h => ?_)
  · refine v_aload_n 17 0 cx dX12_adds_16 rfl rfl rfl ?_
    refine v_getI 20 0 9 cx dX12_adds_17 iX12 (wMo_0 E st) rfl (Nat.le_of_ble_eq_true rfl) rfl kf_X12_118 rfl rfl h (fun v2 h => ?_)
    refine v_istore 22 (fun a3 => [(7, .int a3), (0, .ref (oX E 0)), (1, .int p1), (2, .int p2), (3, .int p3), (4, .int p4), (5, .int p5), (6, .int p6)]) cx dX12_adds_20 (by decide) (fun _ => rfl) rfl h (fun a3 h => ?_)
    refine v_aload_n 23 1 cx dX12_adds_22 rfl rfl rfl ?_
    refine v_dup 24 cx dX12_adds_23 rfl rfl ?_
    refine v_getI 27 0 9 cx dX12_adds_24 iX12 (wMo_0 E st) rfl (Nat.le_of_ble_eq_true rfl) rfl kf_X12_118 rfl rfl h (fun v4 h => ?_)
    refine v_iconst 28 cx dX12_adds_27 ic_1 rfl ?_
    refine v_iadd 29 cx dX12_adds_28 rfl ?_
    refine v_putI 32 0 9 cx dX12_adds_29 iX12 tyX12_ok nmX12 (wMo_0 E st) rfl (Nat.le_of_ble_eq_true rfl) rfl kf_X12_118 rfl rfl rfl rfl (Nat.le_of_ble_eq_true rfl) (wMs_0_9 E st _) rfl h (fun s5 h => ?_)
    refine v_aload_n 33 1 cx dX12_adds_32 rfl rfl rfl ?_
    refine v_get 36 0 0 cx dX12_adds_33 iX12 (wMo_0 E s5) rfl (Nat.le_of_ble_eq_true rfl) rfl kf_X12_7 rfl rfl ?_
    refine v_iload 38 0 cx dX12_adds_36 rfl rfl ?_
    refine v_iload_n 39 2 cx dX12_adds_38 rfl rfl rfl ?_
    refine v_iast 40 1 0 cx dX12_adds_39 (wMa_0_0 E s5) rfl (wMt_0_0 E s5) rfl h (fun s6 h => ?_)
    refine v_aload_n 41 1 cx dX12_adds_40 rfl rfl rfl ?_
    refine v_get 44 0 1 cx dX12_adds_41 iX12 (wMo_0 E s6) rfl (Nat.le_of_ble_eq_true rfl) rfl kf_X12_13 rfl rfl ?_
    refine v_iload 46 0 cx dX12_adds_44 rfl rfl ?_
    refine v_iconst 47 cx dX12_adds_46 ic_1 rfl ?_
    refine v_iast 48 2 0 cx dX12_adds_47 (wMa_0_1 E s6) rfl (wMt_0_1 E s6) rfl h (fun s7 h => ?_)
    refine v_aload_n 49 1 cx dX12_adds_48 rfl rfl rfl ?_
    refine v_get 52 0 2 cx dX12_adds_49 iX12 (wMo_0 E s7) rfl (Nat.le_of_ble_eq_true rfl) rfl kf_X12_16 rfl rfl ?_
    refine v_iload 54 0 cx dX12_adds_52 rfl rfl ?_
    refine v_iconst 55 cx dX12_adds_54 ic_0 rfl ?_
    refine v_iast 56 3 0 cx dX12_adds_55 (wMa_0_2 E s7) rfl (wMt_0_2 E s7) rfl h (fun s8 h => ?_)
    refine v_aload_n 57 1 cx dX12_adds_56 rfl rfl rfl ?_
    refine v_get 60 0 3 cx dX12_adds_57 iX12 (wMo_0 E s8) rfl (Nat.le_of_ble_eq_true rfl) rfl kf_X12_19 rfl rfl ?_
    refine v_iload 62 0 cx dX12_adds_60 rfl rfl ?_
    refine v_iconst 63 cx dX12_adds_62 ic_1 rfl ?_
    refine v_iast 64 4 0 cx dX12_adds_63 (wMa_0_3 E s8) rfl (wMt_0_3 E s8) rfl h (fun s9 h => ?_)
    refine v_aload_n 65 1 cx dX12_adds_64 rfl rfl rfl ?_
    refine v_get 68 0 4 cx dX12_adds_65 iX12 (wMo_0 E s9) rfl (Nat.le_of_ble_eq_true rfl) rfl kf_X12_22 rfl rfl ?_
    refine v_iload 70 0 cx dX12_adds_68 rfl rfl ?_
    refine v_iload_n 71 3 cx dX12_adds_70 rfl rfl rfl ?_
    refine v_iast 72 5 0 cx dX12_adds_71 (wMa_0_4 E s9) rfl (wMt_0_4 E s9) rfl h (fun s10 h => ?_)
    refine v_aload_n 73 1 cx dX12_adds_72 rfl rfl rfl ?_
    refine v_get 76 0 7 cx dX12_adds_73 iX12 (wMo_0 E s10) rfl (Nat.le_of_ble_eq_true rfl) rfl kf_X12_31 rfl rfl ?_
    refine v_iload 78 0 cx dX12_adds_76 rfl rfl ?_
    refine v_lconst 79 cx dX12_adds_78 lc_0 rfl ?_
    refine v_last 80 8 1 cx dX12_adds_79 (wMa_0_7 E s10) rfl (wMt_0_7 E s10) rfl h (fun s11 h => ?_)
    refine v_aload_n 81 1 cx dX12_adds_80 rfl rfl rfl ?_
    refine v_get 84 0 8 cx dX12_adds_81 iX12 (wMo_0 E s11) rfl (Nat.le_of_ble_eq_true rfl) rfl kf_X12_35 rfl rfl ?_
    refine v_iload 86 0 cx dX12_adds_84 rfl rfl ?_
    refine v_lconst 87 cx dX12_adds_86 lc_0 rfl ?_
    refine v_last 88 9 1 cx dX12_adds_87 (wMa_0_8 E s11) rfl (wMt_0_8 E s11) rfl h (fun s12 h => ?_)
    refine v_aload_n 89 1 cx dX12_adds_88 rfl rfl rfl ?_
    refine v_iload 91 0 cx dX12_adds_89 rfl rfl ?_
    refine v_iconst 92 cx dX12_adds_91 ic_0 rfl ?_
    refine v_iload_n 93 4 cx dX12_adds_92 rfl rfl rfl ?_
    refine v_iload 95 5 cx dX12_adds_93 rfl rfl ?_
    refine v_callVV 98 0 cx dX12_adds_95 km_X12_128 ca_X12_operand (wMo_0 E s12) rfl (c_X12_operand C.2.1 E s12 a3 0 p3 p4 ) rfl (by decide) rfl (Nat.le_of_ble_eq_true rfl) rfl h (fun _ s13 h => ?_)
    refine v_aload_n 99 1 cx dX12_adds_98 rfl rfl rfl ?_
    refine v_iload 101 0 cx dX12_adds_99 rfl rfl ?_
    refine v_iconst 102 cx dX12_adds_101 ic_1 rfl ?_
    refine v_iload 104 6 cx dX12_adds_102 rfl rfl ?_
    refine v_iload 106 7 cx dX12_adds_104 rfl rfl ?_
    refine v_callVV 109 0 cx dX12_adds_106 km_X12_128 ca_X12_operand (wMo_0 E s13) rfl (c_X12_operand C.2.1 E s13 a3 1 p5 p6 ) rfl (by decide) rfl (Nat.le_of_ble_eq_true rfl) rfl h (fun _ s14 h => ?_)
    refine v_aload_n 110 1 cx dX12_adds_109 rfl rfl rfl ?_
    refine v_iload 112 0 cx dX12_adds_110 rfl rfl ?_
    refine v_iconst 113 cx dX12_adds_112 ic_2 rfl ?_
    refine v_iconst 114 cx dX12_adds_113 ic_m1 rfl ?_
    refine v_iconst 115 cx dX12_adds_114 ic_m1 rfl ?_
    refine v_callVV 118 0 cx dX12_adds_115 km_X12_128 ca_X12_operand (wMo_0 E s14) rfl (c_X12_operand C.2.1 E s14 a3 2 (-1) (-1) ) rfl (by decide) rfl (Nat.le_of_ble_eq_true rfl) rfl h (fun _ s15 h => ?_)
    refine v_aload_n 119 1 cx dX12_adds_118 rfl rfl rfl ?_
    refine v_callVV 122 0 cx dX12_adds_119 km_X12_132 ca_X12_changes (wMo_0 E s15) rfl (c_X12_changes C.2.1 E s15 ) rfl (by decide) rfl (Nat.le_of_ble_eq_true rfl) rfl h (fun _ s16 h => ?_)
    refine v_iload 124 0 cx dX12_adds_122 rfl rfl ?_
    exact hk _ _ _ _ (Option.some.inj h) dX12_adds_124
  · refine v_aload_n 10 0 cx dX12_adds_9 rfl rfl rfl ?_
    refine v_bipush 12 cx dX12_adds_10 bp_m10 rfl ?_
    refine v_callVI 15 0 cx dX12_adds_12 km_X12_124 ca_X12_no (wMo_0 E st) rfl (c_X12_no C.2.1 E st (-10) ) rfl (by decide) rfl (Nat.le_of_ble_eq_true rfl) rfl h (fun v18 s17 h => ?_)
    exact hk _ _ _ _ (Option.some.inj h) dX12_adds_15
set_option maxHeartbeats 4000000 in
set_option maxRecDepth 100000 in
theorem c_X12_again (l : Launch) (E : Ev) (st : Sg) : ∀ q, m_X12_again st = some q → CtI l (wM E) (tyE E) yX12_again cX12_again 2 (some .int) 0 0 [.ref (oX E 0)] st q := by
  intro q h
  refine ctI_of (lv0 := [(0, .ref (oX E 0))]) (by decide) rfl (Nat.le_of_ble_eq_true rfl) (fun C hC cx hk => ?_)
  replace cx : Cx C (tyE E) cX12_again RX12 2 0 0 := cx
  unfold m_X12_again at h
  refine v_aload_n 1 0 cx dX12_again_0 rfl rfl rfl ?_
  refine v_getI 4 0 26 cx dX12_again_1 iX12 (wMo_0 E st) rfl (Nat.le_of_ble_eq_true rfl) rfl kf_X12_114 rfl rfl h (fun v1 h => ?_)
  refine v_if_ne 10 7 cx dX12_again_4 (by decide) rfl h (fun h => ?_) (fun h => ?_)
  · refine v_aload_n 11 0 cx dX12_again_10 rfl rfl rfl ?_
    refine v_getI 14 0 26 cx dX12_again_11 iX12 (wMo_0 E st) rfl (Nat.le_of_ble_eq_true rfl) rfl kf_X12_114 rfl rfl h (fun v2 h => ?_)
    refine v_istore_n 15 (fun a3 => [(1, .int a3), (0, .ref (oX E 0))]) cx dX12_again_14 rfl (by decide) (fun _ => rfl) rfl h (fun a3 h => ?_)
    refine v_aload_n 16 1 cx dX12_again_15 rfl rfl rfl ?_
    refine v_iconst 17 cx dX12_again_16 ic_0 rfl ?_
    refine v_putI 20 0 26 cx dX12_again_17 iX12 tyX12_ok nmX12 (wMo_0 E st) rfl (Nat.le_of_ble_eq_true rfl) rfl kf_X12_114 rfl rfl rfl rfl (Nat.le_of_ble_eq_true rfl) (wMs_0_26 E st _) rfl h (fun s4 h => ?_)
    refine v_iload_n 21 0 cx dX12_again_20 rfl rfl rfl ?_
    exact hk _ _ _ _ (Option.some.inj h) dX12_again_21
  · refine v_bipush 9 cx dX12_again_7 bp_m7 rfl ?_
    exact hk _ _ _ _ (Option.some.inj h) dX12_again_9
set_option maxHeartbeats 4000000 in
set_option maxRecDepth 100000 in
theorem c_X12_areTurns (l : Launch) (E : Ev) (st : Sg) (p0 : Int32) : ∀ q, m_X12_areTurns p0 st = some q → CtI l (wM E) (tyE E) yX12_areTurns cX12_areTurns 1 (some .boolean) 1 25 [.int p0] st q := by
  intro q h
  refine ctZ_of (lv0 := [(0, .int p0)]) (by decide) rfl (Nat.le_of_ble_eq_true rfl) (fun C hC cx hk => ?_)
  replace cx : Cx C (tyE E) cX12_areTurns RX12 1 1 25 := cx
  unfold m_X12_areTurns at h
  refine v_iload_n 1 0 cx dX12_areTurns_0 rfl rfl rfl ?_
  refine v_i2l 2 cx dX12_areTurns_1 rfl ?_
  refine v_lconst 3 cx dX12_areTurns_2 lc_0 rfl ?_
  refine v_ldc2 6 cx dX12_areTurns_3 kc_X12_135 rfl ?_
  refine v_callSI 9 cx dX12_areTurns_6 km_X12_137 ca_X12_isIn (c_X12_isIn C.2.1 E st ((p0 : Int32).toInt64) 0 4 ) rfl (by decide) rfl (Nat.le_of_ble_eq_true rfl) rfl h (fun v2 s1 h => ?_)
  obtain ⟨hz, h⟩ := bok_inv h
  exact hk _ _ _ _ (Option.some.inj h) hz dX12_areTurns_9
def V_X12_bits_L4 (C : Cm) (E : Ev) (x0 : Int32) (s : (Int32 × Int32 × Sg)) : Prop := Vat C (wM E) 3 4 [(0, .int x0), (1, .int s.1), (2, .int s.2.1)] [] s.2.2
def K_X12_bits_L4 (C : Cm) (E : Ev) (x0 : Int32) : (Int32 × Sg) → Prop := (fun r : (Int32 × Sg) => Vat C (wM E) 3 24 [(1, .int r.1)] [] r.2)
set_option maxHeartbeats 4000000 in
set_option maxRecDepth 100000 in
theorem b_X12_bits_L4 {C : Cm} {E : Ev} (cx : Cx C (tyE E) cX12_bits RX12 3 0 0) (x0 : Int32) : ∀ (s : (Int32 × Int32 × Sg)) (out : (Int32 × Int32 × Sg) ⊕ (Int32 × Sg)), m_X12_bits_L4 x0 s.1 s.2.1 s.2.2 = some out → Sum.elim (V_X12_bits_L4 C E x0) (K_X12_bits_L4 C E x0) out → V_X12_bits_L4 C E x0 s := by
  intro s out h hk
  obtain ⟨x1, x2, st⟩ := s
  show Vat C (wM E) 3 4 [(0, .int x0), (1, .int x1), (2, .int x2)] [] st
  replace h : m_X12_bits_L4 x0 x1 x2 st = some out := h
  unfold m_X12_bits_L4 at h
  refine v_iload_n 5 2 cx dX12_bits_4 rfl rfl rfl ?_
  refine v_bipush 7 cx dX12_bits_5 bp_8 rfl ?_
  refine v_icmp_ge 24 10 cx dX12_bits_7 (by decide) rfl h (fun h => ?_) (fun h => ?_)
  · cases h
    have hk : Vat C (wM E) 3 24 [(1, .int x1)] [] st := hk
    exact v_lsub (lv' := [(1, .int x1)]) [1] rfl (hk)
  · refine v_iload_n 11 1 cx dX12_bits_10 rfl rfl rfl ?_
    refine v_iload_n 12 0 cx dX12_bits_11 rfl rfl rfl ?_
    refine v_iload_n 13 2 cx dX12_bits_12 rfl rfl rfl ?_
    refine v_ishr 14 cx dX12_bits_13 rfl ?_
    refine v_iconst 15 cx dX12_bits_14 ic_1 rfl ?_
    refine v_iand 16 cx dX12_bits_15 rfl ?_
    refine v_iadd 17 cx dX12_bits_16 rfl ?_
    refine v_istore_n 18 (fun a3 => [(1, .int a3), (0, .int x0), (2, .int x2)]) cx dX12_bits_17 rfl (by decide) (fun _ => rfl) rfl h (fun a3 h => ?_)
    refine v_iinc 21 2 (fun a4 => [(2, .int a4), (1, .int a3), (0, .int x0)]) cx dX12_bits_18 rfl ic_1 (by decide) (fun _ => rfl) rfl h (fun a4 h => ?_)
    refine v_goto 4 cx dX12_bits_21 (by decide) ?_
    cases h
    have hk : Vat C (wM E) 3 4 [(0, .int x0), (1, .int a3), (2, .int a4)] [] st := hk
    exact v_lsub (lv' := [(0, .int x0), (1, .int a3), (2, .int a4)]) [2, 1, 0] rfl (hk)
set_option maxHeartbeats 4000000 in
set_option maxRecDepth 100000 in
theorem c_X12_bits (l : Launch) (E : Ev) (st : Sg) (p0 : Int32) : ∀ q, m_X12_bits p0 st = some q → CtI l (wM E) (tyE E) yX12_bits cX12_bits 3 (some .int) 0 0 [.int p0] st q := by
  intro q h
  refine ctI_of (lv0 := [(0, .int p0)]) (by decide) rfl (Nat.le_of_ble_eq_true rfl) (fun C hC cx hk => ?_)
  replace cx : Cx C (tyE E) cX12_bits RX12 3 0 0 := cx
  unfold m_X12_bits at h
  refine v_iconst 1 cx dX12_bits_0 ic_0 rfl ?_
  refine v_istore_n 2 (fun a1 => [(1, .int a1), (0, .int p0)]) cx dX12_bits_1 rfl (by decide) (fun _ => rfl) rfl h (fun a1 h => ?_)
  refine v_iconst 3 cx dX12_bits_2 ic_0 rfl ?_
  refine v_istore_n 4 (fun a2 => [(2, .int a2), (1, .int a1), (0, .int p0)]) cx dX12_bits_3 rfl (by decide) (fun _ => rfl) rfl h (fun a2 h => ?_)
  refine v_lsub (lv' := [(0, .int p0), (1, .int a1), (2, .int a2)]) [2, 1, 0] rfl ?_
  refine v_loop (s0 := (a1, a2, st)) (V_X12_bits_L4 C E p0) (K_X12_bits_L4 C E p0) h (b_X12_bits_L4 cx p0) (fun r5 h => ?_)
  show Vat C (wM E) 3 24 [(1, .int r5.1)] [] r5.2
  refine v_iload_n 25 0 cx dX12_bits_24 rfl rfl rfl ?_
  exact hk _ _ _ _ (Option.some.inj h) dX12_bits_25
def V_X12_rests_L2 (C : Cm) (E : Ev) (x1 : Int32) (s : (Int32 × Sg)) : Prop := Vat C (wM E) 6 2 [(0, .ref (oX E 0)), (1, .int x1), (2, .int s.1)] [] s.2
def K_X12_rests_L2 (C : Cm) (E : Ev) (x1 : Int32) : (Sg) → Prop := (fun r : (Sg) => Vat C (wM E) 6 23 [(0, .ref (oX E 0)), (1, .int x1)] [] r)
set_option maxHeartbeats 4000000 in
set_option maxRecDepth 100000 in
theorem b_X12_rests_L2 {C : Cm} {E : Ev} (cx : Cx C (tyE E) cX12_rests RX12 6 0 0) (x1 : Int32) : ∀ (s : (Int32 × Sg)) (out : (Int32 × Sg) ⊕ (Sg)), m_X12_rests_L2 x1 s.1 s.2 = some out → Sum.elim (V_X12_rests_L2 C E x1) (K_X12_rests_L2 C E x1) out → V_X12_rests_L2 C E x1 s := by
  intro s out h hk
  obtain ⟨x2, st⟩ := s
  show Vat C (wM E) 6 2 [(0, .ref (oX E 0)), (1, .int x1), (2, .int x2)] [] st
  replace h : m_X12_rests_L2 x1 x2 st = some out := h
  unfold m_X12_rests_L2 at h
  refine v_iload_n 3 2 cx dX12_rests_2 rfl rfl rfl ?_
  refine v_aload_n 4 0 cx dX12_rests_3 rfl rfl rfl ?_
  refine v_getI 7 0 9 cx dX12_rests_4 iX12 (wMo_0 E st) rfl (Nat.le_of_ble_eq_true rfl) rfl kf_X12_118 rfl rfl h (fun v2 h => ?_)
  refine v_icmp_ge 23 10 cx dX12_rests_7 (by decide) rfl h (fun h => ?_) (fun h => ?_)
  · cases h
    have hk : Vat C (wM E) 6 23 [(0, .ref (oX E 0)), (1, .int x1)] [] st := hk
    exact v_lsub (lv' := [(0, .ref (oX E 0)), (1, .int x1)]) [0, 1] rfl (hk)
  · refine v_aload_n 11 0 cx dX12_rests_10 rfl rfl rfl ?_
    refine v_get 14 0 33 cx dX12_rests_11 iX12 (wMo_0 E st) rfl (Nat.le_of_ble_eq_true rfl) rfl kf_X12_93 rfl rfl ?_
    refine v_iload_n 15 2 cx dX12_rests_14 rfl rfl rfl ?_
    refine v_iconst 16 cx dX12_rests_15 ic_0 rfl ?_
    refine v_iast 17 28 0 cx dX12_rests_16 (wMa_0_33 E st) rfl (wMt_0_33 E st) rfl h (fun s3 h => ?_)
    refine v_iinc 20 2 (fun a4 => [(2, .int a4), (0, .ref (oX E 0)), (1, .int x1)]) cx dX12_rests_17 rfl ic_1 (by decide) (fun _ => rfl) rfl h (fun a4 h => ?_)
    refine v_goto 2 cx dX12_rests_20 (by decide) ?_
    cases h
    have hk : Vat C (wM E) 6 2 [(0, .ref (oX E 0)), (1, .int x1), (2, .int a4)] [] s3 := hk
    exact v_lsub (lv' := [(0, .ref (oX E 0)), (1, .int x1), (2, .int a4)]) [1, 2, 0] rfl (hk)
def V_X12_rests_L25 (C : Cm) (E : Ev) (x1 : Int32) (s : (Int32 × Sg)) : Prop := Vat C (wM E) 6 25 [(0, .ref (oX E 0)), (1, .int x1), (2, .int s.1)] [] s.2
def K_X12_rests_L25 (C : Cm) (E : Ev) (x1 : Int32) : ((Sg) ⊕ (Sg)) → Prop := (Sum.elim (fun r : (Sg) => Vat C (wM E) 6 133 [] [] r) (fun r : (Sg) => Vat C (wM E) 6 125 [] [] r))
def V_X12_rests_L38 (C : Cm) (E : Ev) (x1 : Int32) (x2 : Int32) (s : (Int32 × Int32 × Sg)) : Prop := Vat C (wM E) 6 38 [(0, .ref (oX E 0)), (1, .int x1), (2, .int x2), (3, .int s.1), (4, .int s.2.1)] [] s.2.2
def K_X12_rests_L38 (C : Cm) (E : Ev) (x1 : Int32) (x2 : Int32) : (Int32 × Sg) → Prop := (fun r : (Int32 × Sg) => Vat C (wM E) 6 121 [(0, .ref (oX E 0)), (1, .int x1), (2, .int x2), (3, .int r.1)] [] r.2)
set_option maxHeartbeats 4000000 in
set_option maxRecDepth 100000 in
theorem b_X12_rests_L38 {C : Cm} {E : Ev} (cx : Cx C (tyE E) cX12_rests RX12 6 0 0) (x1 : Int32) (x2 : Int32) : ∀ (s : (Int32 × Int32 × Sg)) (out : (Int32 × Int32 × Sg) ⊕ (Int32 × Sg)), m_X12_rests_L38 x1 x2 s.1 s.2.1 s.2.2 = some out → Sum.elim (V_X12_rests_L38 C E x1 x2) (K_X12_rests_L38 C E x1 x2) out → V_X12_rests_L38 C E x1 x2 s := by
  intro s out h hk
  obtain ⟨x3, x4, st⟩ := s
  show Vat C (wM E) 6 38 [(0, .ref (oX E 0)), (1, .int x1), (2, .int x2), (3, .int x3), (4, .int x4)] [] st
  replace h : m_X12_rests_L38 x1 x2 x3 x4 st = some out := h
  unfold m_X12_rests_L38 at h
  refine v_iload 40 4 cx dX12_rests_38 rfl rfl ?_
  refine v_aload_n 41 0 cx dX12_rests_40 rfl rfl rfl ?_
  refine v_getI 44 0 20 cx dX12_rests_41 iX12 (wMo_0 E st) rfl (Nat.le_of_ble_eq_true rfl) rfl kf_X12_180 rfl rfl h (fun v10 h => ?_)
  refine v_icmp_ge 121 47 cx dX12_rests_44 (by decide) rfl h (fun h => ?_) (fun h => ?_)
  · cases h
    have hk : Vat C (wM E) 6 121 [(0, .ref (oX E 0)), (1, .int x1), (2, .int x2), (3, .int x3)] [] st := hk
    exact v_lsub (lv' := [(0, .ref (oX E 0)), (1, .int x1), (2, .int x2), (3, .int x3)]) [0, 1, 2, 3] rfl (hk)
  · refine v_aload_n 48 0 cx dX12_rests_47 rfl rfl rfl ?_
    refine v_get 51 0 33 cx dX12_rests_48 iX12 (wMo_0 E st) rfl (Nat.le_of_ble_eq_true rfl) rfl kf_X12_93 rfl rfl ?_
    refine v_aload_n 52 0 cx dX12_rests_51 rfl rfl rfl ?_
    refine v_get 55 0 16 cx dX12_rests_52 iX12 (wMo_0 E st) rfl (Nat.le_of_ble_eq_true rfl) rfl kf_X12_53 rfl rfl ?_
    refine v_iload 57 4 cx dX12_rests_55 rfl rfl ?_
    refine v_iald 58 15 0 cx dX12_rests_57 (wMa_0_16 E st) rfl rfl h (fun v11 h => ?_)
    refine v_iald 59 28 0 cx dX12_rests_58 (wMa_0_33 E st) rfl rfl h (fun v12 h => ?_)
    refine v_aload_n 60 0 cx dX12_rests_59 rfl rfl rfl ?_
    refine v_get 63 0 18 cx dX12_rests_60 iX12 (wMo_0 E st) rfl (Nat.le_of_ble_eq_true rfl) rfl kf_X12_59 rfl rfl ?_
    refine v_iload 65 4 cx dX12_rests_63 rfl rfl ?_
    refine v_iald 66 17 0 cx dX12_rests_65 (wMa_0_18 E st) rfl rfl h (fun v13 h => ?_)
    refine v_iadd 67 cx dX12_rests_66 rfl ?_
    refine v_iload_n 68 1 cx dX12_rests_67 rfl rfl rfl ?_
    refine v_aload_n 69 0 cx dX12_rests_68 rfl rfl rfl ?_
    refine v_get 72 0 19 cx dX12_rests_69 iX12 (wMo_0 E st) rfl (Nat.le_of_ble_eq_true rfl) rfl kf_X12_62 rfl rfl ?_
    refine v_iload 74 4 cx dX12_rests_72 rfl rfl ?_
    refine v_iald 75 18 0 cx dX12_rests_74 (wMa_0_19 E st) rfl rfl h (fun v14 h => ?_)
    refine v_imul 76 cx dX12_rests_75 rfl ?_
    refine v_isub 77 cx dX12_rests_76 rfl ?_
    refine v_istore 79 (fun a15 => [(5, .int a15), (0, .ref (oX E 0)), (1, .int x1), (2, .int x2), (3, .int x3), (4, .int x4)]) cx dX12_rests_77 (by decide) (fun _ => rfl) rfl h (fun a15 h => ?_)
    refine v_aload_n 80 1 cx dX12_rests_79 rfl rfl rfl ?_
    refine v_get 83 0 33 cx dX12_rests_80 iX12 (wMo_0 E st) rfl (Nat.le_of_ble_eq_true rfl) rfl kf_X12_93 rfl rfl ?_
    refine v_aload_n 84 1 cx dX12_rests_83 rfl rfl rfl ?_
    refine v_get 87 0 17 cx dX12_rests_84 iX12 (wMo_0 E st) rfl (Nat.le_of_ble_eq_true rfl) rfl kf_X12_56 rfl rfl ?_
    refine v_iload 89 5 cx dX12_rests_87 rfl rfl ?_
    refine v_iald 90 16 0 cx dX12_rests_89 (wMa_0_17 E st) rfl rfl h (fun v16 h => ?_)
    refine v_iald 91 28 0 cx dX12_rests_90 (wMa_0_33 E st) rfl rfl h (fun v17 h => ?_)
    refine v_iload 93 0 cx dX12_rests_91 rfl rfl ?_
    refine v_icmp_lt 99 96 cx dX12_rests_93 (by decide) rfl h (fun h => ?_) (fun h => ?_)
    · refine v_aload_n 100 1 cx dX12_rests_99 rfl rfl rfl ?_
      refine v_get 103 0 33 cx dX12_rests_100 iX12 (wMo_0 E st) rfl (Nat.le_of_ble_eq_true rfl) rfl kf_X12_93 rfl rfl ?_
      refine v_aload_n 104 1 cx dX12_rests_103 rfl rfl rfl ?_
      refine v_get 107 0 17 cx dX12_rests_104 iX12 (wMo_0 E st) rfl (Nat.le_of_ble_eq_true rfl) rfl kf_X12_56 rfl rfl ?_
      refine v_iload 109 5 cx dX12_rests_107 rfl rfl ?_
      refine v_iald 110 16 0 cx dX12_rests_109 (wMa_0_17 E st) rfl rfl h (fun v18 h => ?_)
      refine v_iload 112 0 cx dX12_rests_110 rfl rfl ?_
      refine v_iast 113 28 0 cx dX12_rests_112 (wMa_0_33 E st) rfl (wMt_0_33 E st) rfl h (fun s19 h => ?_)
      refine v_iconst 114 cx dX12_rests_113 ic_1 rfl ?_
      refine v_istore_n 115 (fun a20 => [(3, .int a20), (5, .int a15), (0, .ref (oX E 0)), (1, .int x1), (2, .int x2), (4, .int x4)]) cx dX12_rests_114 rfl (by decide) (fun _ => rfl) rfl h (fun a20 h => ?_)
      refine v_iinc 118 5 (fun a21 => [(4, .int a21), (3, .int a20), (5, .int a15), (0, .ref (oX E 0)), (1, .int x1), (2, .int x2)]) cx dX12_rests_115 rfl ic_1 (by decide) (fun _ => rfl) rfl h (fun a21 h => ?_)
      refine v_goto 38 cx dX12_rests_118 (by decide) ?_
      cases h
      have hk : Vat C (wM E) 6 38 [(0, .ref (oX E 0)), (1, .int x1), (2, .int x2), (3, .int a20), (4, .int a21)] [] s19 := hk
      exact v_lsub (lv' := [(0, .ref (oX E 0)), (1, .int x1), (2, .int x2), (3, .int a20), (4, .int a21)]) [3, 4, 5, 1, 0] rfl (hk)
    · refine v_goto 115 cx dX12_rests_96 (by decide) ?_
      refine v_iinc 118 5 (fun a22 => [(4, .int a22), (5, .int a15), (0, .ref (oX E 0)), (1, .int x1), (2, .int x2), (3, .int x3)]) cx dX12_rests_115 rfl ic_1 (by decide) (fun _ => rfl) rfl h (fun a22 h => ?_)
      refine v_goto 38 cx dX12_rests_118 (by decide) ?_
      cases h
      have hk : Vat C (wM E) 6 38 [(0, .ref (oX E 0)), (1, .int x1), (2, .int x2), (3, .int x3), (4, .int a22)] [] st := hk
      exact v_lsub (lv' := [(0, .ref (oX E 0)), (1, .int x1), (2, .int x2), (3, .int x3), (4, .int a22)]) [2, 3, 4, 5, 0] rfl (hk)
set_option maxHeartbeats 4000000 in
set_option maxRecDepth 100000 in
theorem b_X12_rests_L25 {C : Cm} {E : Ev} (cx : Cx C (tyE E) cX12_rests RX12 6 0 0) (x1 : Int32) : ∀ (s : (Int32 × Sg)) (out : (Int32 × Sg) ⊕ ((Sg) ⊕ (Sg))), m_X12_rests_L25 x1 s.1 s.2 = some out → Sum.elim (V_X12_rests_L25 C E x1) (K_X12_rests_L25 C E x1) out → V_X12_rests_L25 C E x1 s := by
  intro s out h hk
  obtain ⟨x2, st⟩ := s
  show Vat C (wM E) 6 25 [(0, .ref (oX E 0)), (1, .int x1), (2, .int x2)] [] st
  replace h : m_X12_rests_L25 x1 x2 st = some out := h
  unfold m_X12_rests_L25 at h
  refine v_iload_n 26 2 cx dX12_rests_25 rfl rfl rfl ?_
  refine v_aload_n 27 0 cx dX12_rests_26 rfl rfl rfl ?_
  refine v_getI 30 0 9 cx dX12_rests_27 iX12 (wMo_0 E st) rfl (Nat.le_of_ble_eq_true rfl) rfl kf_X12_118 rfl rfl h (fun v7 h => ?_)
  refine v_icmp_gt 133 33 cx dX12_rests_30 (by decide) rfl h (fun h => ?_) (fun h => ?_)
  · cases h
    have hk : Vat C (wM E) 6 133 [] [] st := hk
    exact v_lsub (lv' := []) [] rfl (hk)
  · refine v_iconst 34 cx dX12_rests_33 ic_0 rfl ?_
    refine v_istore_n 35 (fun a8 => [(3, .int a8), (0, .ref (oX E 0)), (1, .int x1), (2, .int x2)]) cx dX12_rests_34 rfl (by decide) (fun _ => rfl) rfl h (fun a8 h => ?_)
    refine v_iconst 36 cx dX12_rests_35 ic_0 rfl ?_
    refine v_istore 38 (fun a9 => [(4, .int a9), (3, .int a8), (0, .ref (oX E 0)), (1, .int x1), (2, .int x2)]) cx dX12_rests_36 (by decide) (fun _ => rfl) rfl h (fun a9 h => ?_)
    refine v_lsub (lv' := [(0, .ref (oX E 0)), (1, .int x1), (2, .int x2), (3, .int a8), (4, .int a9)]) [2, 3, 4, 1, 0] rfl ?_
    refine v_loop (s0 := (a8, a9, st)) (V_X12_rests_L38 C E x1 x2) (K_X12_rests_L38 C E x1 x2) h (b_X12_rests_L38 cx x1 x2) (fun r23 h => ?_)
    show Vat C (wM E) 6 121 [(0, .ref (oX E 0)), (1, .int x1), (2, .int x2), (3, .int r23.1)] [] r23.2
    refine v_iload_n 122 3 cx dX12_rests_121 rfl rfl rfl ?_
    refine v_if_ne 127 125 cx dX12_rests_122 (by decide) rfl h (fun h => ?_) (fun h => ?_)
    · refine v_iinc 130 2 (fun a24 => [(2, .int a24), (0, .ref (oX E 0)), (1, .int x1), (3, .int r23.1)]) cx dX12_rests_127 rfl ic_1 (by decide) (fun _ => rfl) rfl h (fun a24 h => ?_)
      refine v_goto 25 cx dX12_rests_130 (by decide) ?_
      cases h
      have hk : Vat C (wM E) 6 25 [(0, .ref (oX E 0)), (1, .int x1), (2, .int a24)] [] r23.2 := hk
      exact v_lsub (lv' := [(0, .ref (oX E 0)), (1, .int x1), (2, .int a24)]) [1, 2, 0] rfl (hk)
    · cases h
      have hk : Vat C (wM E) 6 125 [] [] r23.2 := hk
      exact v_lsub (lv' := []) [] rfl (hk)
set_option maxHeartbeats 4000000 in
set_option maxRecDepth 100000 in
theorem c_X12_rests (l : Launch) (E : Ev) (st : Sg) (p1 : Int32) : ∀ q, m_X12_rests p1 st = some q → CtI l (wM E) (tyE E) yX12_rests cX12_rests 6 (some .boolean) 0 0 [.ref (oX E 0), .int p1] st q := by
  intro q h
  refine ctZ_of (lv0 := [(0, .ref (oX E 0)), (1, .int p1)]) (by decide) rfl (Nat.le_of_ble_eq_true rfl) (fun C hC cx hk => ?_)
  replace cx : Cx C (tyE E) cX12_rests RX12 6 0 0 := cx
  unfold m_X12_rests at h
  refine v_iconst 1 cx dX12_rests_0 ic_0 rfl ?_
  refine v_istore_n 2 (fun a1 => [(2, .int a1), (0, .ref (oX E 0)), (1, .int p1)]) cx dX12_rests_1 rfl (by decide) (fun _ => rfl) rfl h (fun a1 h => ?_)
  refine v_lsub (lv' := [(0, .ref (oX E 0)), (1, .int p1), (2, .int a1)]) [1, 2, 0] rfl ?_
  refine v_loop (s0 := (a1, st)) (V_X12_rests_L2 C E p1) (K_X12_rests_L2 C E p1) h (b_X12_rests_L2 cx p1) (fun r5 h => ?_)
  show Vat C (wM E) 6 23 [(0, .ref (oX E 0)), (1, .int p1)] [] r5
  refine v_iconst 24 cx dX12_rests_23 ic_0 rfl ?_
  refine v_istore_n 25 (fun a6 => [(2, .int a6), (0, .ref (oX E 0)), (1, .int p1)]) cx dX12_rests_24 rfl (by decide) (fun _ => rfl) rfl h (fun a6 h => ?_)
  refine v_lsub (lv' := [(0, .ref (oX E 0)), (1, .int p1), (2, .int a6)]) [1, 2, 0] rfl ?_
  refine v_loop (s0 := (a6, r5)) (V_X12_rests_L25 C E p1) (K_X12_rests_L25 C E p1) h (b_X12_rests_L25 cx p1) (fun r25 h => ?_)
  rcases r25 with r25 | r25
  · rw [Sum.elim_inl] at h
    show Vat C (wM E) 6 133 [] [] r25
    refine v_iconst 134 cx dX12_rests_133 ic_0 rfl ?_
    exact hk _ _ _ _ (Option.some.inj h) (Or.inl rfl) dX12_rests_134
  · rw [Sum.elim_inr] at h
    show Vat C (wM E) 6 125 [] [] r25
    refine v_iconst 126 cx dX12_rests_125 ic_1 rfl ?_
    exact hk _ _ _ _ (Option.some.inj h) (Or.inr rfl) dX12_rests_126
def V_X12_byRings_L2 (C : Cm) (E : Ev) (s : (Int32 × Sg)) : Prop := Vat C (wM E) 2 2 [(0, .ref (oX E 0)), (1, .int s.1)] [] s.2
def K_X12_byRings_L2 (C : Cm) (E : Ev) : ((Sg) ⊕ (Int32 × Sg)) → Prop := (Sum.elim (fun r : (Sg) => Vat C (wM E) 2 24 [] [] r) (fun r : (Int32 × Sg) => Vat C (wM E) 2 16 [(1, .int r.1)] [] r.2))
set_option maxHeartbeats 4000000 in
set_option maxRecDepth 100000 in
theorem b_X12_byRings_L2 {C : Cm} {E : Ev} (cx : Cx C (tyE E) cX12_byRings RX12 2 1 25) : ∀ (s : (Int32 × Sg)) (out : (Int32 × Sg) ⊕ ((Sg) ⊕ (Int32 × Sg))), m_X12_byRings_L2 s.1 s.2 = some out → Sum.elim (V_X12_byRings_L2 C E) (K_X12_byRings_L2 C E) out → V_X12_byRings_L2 C E s := by
  intro s out h hk
  obtain ⟨x1, st⟩ := s
  show Vat C (wM E) 2 2 [(0, .ref (oX E 0)), (1, .int x1)] [] st
  replace h : m_X12_byRings_L2 x1 st = some out := h
  unfold m_X12_byRings_L2 at h
  refine v_iload_n 3 1 cx dX12_byRings_2 rfl rfl rfl ?_
  refine v_bipush 5 cx dX12_byRings_3 bp_60 rfl ?_
  refine v_icmp_gt 24 8 cx dX12_byRings_5 (by decide) rfl h (fun h => ?_) (fun h => ?_)
  · cases h
    have hk : Vat C (wM E) 2 24 [] [] st := hk
    exact v_lsub (lv' := []) [] rfl (hk)
  · refine v_aload_n 9 0 cx dX12_byRings_8 rfl rfl rfl ?_
    refine v_iload_n 10 1 cx dX12_byRings_9 rfl rfl rfl ?_
    refine v_callVI 13 0 cx dX12_byRings_10 km_X12_197 ca_X12_rests (wMo_0 E st) rfl (c_X12_rests C.2.1 E st x1 ) rfl (by decide) rfl (Nat.le_of_ble_eq_true rfl) rfl h (fun v3 s2 h => ?_)
    refine v_if_eq 18 16 cx dX12_byRings_13 (by decide) rfl h (fun h => ?_) (fun h => ?_)
    · refine v_iinc 21 1 (fun a4 => [(1, .int a4), (0, .ref (oX E 0))]) cx dX12_byRings_18 rfl ic_1 (by decide) (fun _ => rfl) rfl h (fun a4 h => ?_)
      refine v_goto 2 cx dX12_byRings_21 (by decide) ?_
      cases h
      have hk : Vat C (wM E) 2 2 [(0, .ref (oX E 0)), (1, .int a4)] [] s2 := hk
      exact v_lsub (lv' := [(0, .ref (oX E 0)), (1, .int a4)]) [1, 0] rfl (hk)
    · cases h
      have hk : Vat C (wM E) 2 16 [(1, .int x1)] [] s2 := hk
      exact v_lsub (lv' := [(1, .int x1)]) [1] rfl (hk)
set_option maxHeartbeats 4000000 in
set_option maxRecDepth 100000 in
theorem c_X12_byRings (l : Launch) (E : Ev) (st : Sg) : ∀ q, m_X12_byRings st = some q → CtI l (wM E) (tyE E) yX12_byRings cX12_byRings 2 (some .int) 1 25 [.ref (oX E 0)] st q := by
  intro q h
  refine ctI_of (lv0 := [(0, .ref (oX E 0))]) (by decide) rfl (Nat.le_of_ble_eq_true rfl) (fun C hC cx hk => ?_)
  replace cx : Cx C (tyE E) cX12_byRings RX12 2 1 25 := cx
  unfold m_X12_byRings at h
  refine v_iconst 1 cx dX12_byRings_0 ic_1 rfl ?_
  refine v_istore_n 2 (fun a1 => [(1, .int a1), (0, .ref (oX E 0))]) cx dX12_byRings_1 rfl (by decide) (fun _ => rfl) rfl h (fun a1 h => ?_)
  refine v_lsub (lv' := [(0, .ref (oX E 0)), (1, .int a1)]) [1, 0] rfl ?_
  refine v_loop (s0 := (a1, st)) (V_X12_byRings_L2 C E) (K_X12_byRings_L2 C E) h (b_X12_byRings_L2 cx) (fun r5 h => ?_)
  rcases r5 with r5 | r5
  · rw [Sum.elim_inl] at h
    show Vat C (wM E) 2 24 [] [] r5
    refine v_ldc 26 cx dX12_byRings_24 kc_X12_196 rfl ?_
    exact hk _ _ _ _ (Option.some.inj h) dX12_byRings_26
  · rw [Sum.elim_inr] at h
    show Vat C (wM E) 2 16 [(1, .int r5.1)] [] r5.2
    refine v_iload_n 17 0 cx dX12_byRings_16 rfl rfl rfl ?_
    exact hk _ _ _ _ (Option.some.inj h) dX12_byRings_17
def V_X12_byUnits_L4 (C : Cm) (E : Ev) (s : (Int32 × Int32 × Sg)) : Prop := Vat C (wM E) 5 4 [(0, .ref (oX E 0)), (1, .int s.1), (2, .int s.2.1)] [] s.2.2
def K_X12_byUnits_L4 (C : Cm) (E : Ev) : (Int32 × Sg) → Prop := (fun r : (Int32 × Sg) => Vat C (wM E) 5 114 [(1, .int r.1)] [] r.2)
def V_X12_byUnits_L15 (C : Cm) (E : Ev) (x1 : Int32) (x2 : Int32) (s : (Int32 × Int32 × Sg)) : Prop := Vat C (wM E) 5 15 [(0, .ref (oX E 0)), (1, .int x1), (2, .int x2), (3, .int s.1), (4, .int s.2.1)] [] s.2.2
def K_X12_byUnits_L15 (C : Cm) (E : Ev) (x1 : Int32) (x2 : Int32) : (Int32 × Sg) → Prop := (fun r : (Int32 × Sg) => Vat C (wM E) 5 58 [(0, .ref (oX E 0)), (1, .int x1), (2, .int x2), (3, .int r.1)] [] r.2)
set_option maxHeartbeats 4000000 in
set_option maxRecDepth 100000 in
theorem b_X12_byUnits_L15 {C : Cm} {E : Ev} (cx : Cx C (tyE E) cX12_byUnits RX12 5 1 22) (x1 : Int32) (x2 : Int32) : ∀ (s : (Int32 × Int32 × Sg)) (out : (Int32 × Int32 × Sg) ⊕ (Int32 × Sg)), m_X12_byUnits_L15 x1 x2 s.1 s.2.1 s.2.2 = some out → Sum.elim (V_X12_byUnits_L15 C E x1 x2) (K_X12_byUnits_L15 C E x1 x2) out → V_X12_byUnits_L15 C E x1 x2 s := by
  intro s out h hk
  obtain ⟨x3, x4, st⟩ := s
  show Vat C (wM E) 5 15 [(0, .ref (oX E 0)), (1, .int x1), (2, .int x2), (3, .int x3), (4, .int x4)] [] st
  replace h : m_X12_byUnits_L15 x1 x2 x3 x4 st = some out := h
  unfold m_X12_byUnits_L15 at h
  refine v_iload 17 4 cx dX12_byUnits_15 rfl rfl ?_
  refine v_aload_n 18 0 cx dX12_byUnits_17 rfl rfl rfl ?_
  refine v_getI 21 0 9 cx dX12_byUnits_18 iX12 (wMo_0 E st) rfl (Nat.le_of_ble_eq_true rfl) rfl kf_X12_118 rfl rfl h (fun v5 h => ?_)
  refine v_icmp_ge 58 24 cx dX12_byUnits_21 (by decide) rfl h (fun h => ?_) (fun h => ?_)
  · cases h
    have hk : Vat C (wM E) 5 58 [(0, .ref (oX E 0)), (1, .int x1), (2, .int x2), (3, .int x3)] [] st := hk
    exact v_lsub (lv' := [(0, .ref (oX E 0)), (1, .int x1), (2, .int x2), (3, .int x3)]) [0, 1, 2, 3] rfl (hk)
  · refine v_iload_n 25 3 cx dX12_byUnits_24 rfl rfl rfl ?_
    refine v_aload_n 26 0 cx dX12_byUnits_25 rfl rfl rfl ?_
    refine v_get 29 0 2 cx dX12_byUnits_26 iX12 (wMo_0 E st) rfl (Nat.le_of_ble_eq_true rfl) rfl kf_X12_16 rfl rfl ?_
    refine v_iload 31 4 cx dX12_byUnits_29 rfl rfl ?_
    refine v_iald 32 3 0 cx dX12_byUnits_31 (wMa_0_2 E st) rfl rfl h (fun v6 h => ?_)
    refine v_iload_n 33 2 cx dX12_byUnits_32 rfl rfl rfl ?_
    refine v_icmp_ne 49 36 cx dX12_byUnits_33 (by decide) rfl h (fun h => ?_) (fun h => ?_)
    · refine v_iconst 50 cx dX12_byUnits_49 ic_0 rfl ?_
      refine v_iadd 51 cx dX12_byUnits_50 rfl ?_
      refine v_istore_n 52 (fun a7 => [(3, .int a7), (0, .ref (oX E 0)), (1, .int x1), (2, .int x2), (4, .int x4)]) cx dX12_byUnits_51 rfl (by decide) (fun _ => rfl) rfl h (fun a7 h => ?_)
      refine v_iinc 55 4 (fun a8 => [(4, .int a8), (3, .int a7), (0, .ref (oX E 0)), (1, .int x1), (2, .int x2)]) cx dX12_byUnits_52 rfl ic_1 (by decide) (fun _ => rfl) rfl h (fun a8 h => ?_)
      refine v_goto 15 cx dX12_byUnits_55 (by decide) ?_
      cases h
      have hk : Vat C (wM E) 5 15 [(0, .ref (oX E 0)), (1, .int x1), (2, .int x2), (3, .int a7), (4, .int a8)] [] st := hk
      exact v_lsub (lv' := [(0, .ref (oX E 0)), (1, .int x1), (2, .int x2), (3, .int a7), (4, .int a8)]) [2, 3, 4, 1, 0] rfl (hk)
    · refine v_aload_n 37 0 cx dX12_byUnits_36 rfl rfl rfl ?_
      refine v_get 40 0 3 cx dX12_byUnits_37 iX12 (wMo_0 E st) rfl (Nat.le_of_ble_eq_true rfl) rfl kf_X12_19 rfl rfl ?_
      refine v_iload 42 4 cx dX12_byUnits_40 rfl rfl ?_
      refine v_iald 43 4 0 cx dX12_byUnits_42 (wMa_0_3 E st) rfl rfl h (fun v9 h => ?_)
      refine v_callSI 46 cx dX12_byUnits_43 km_X12_193 ca_X12_bits (c_X12_bits C.2.1 E st v9 ) rfl (by decide) rfl (Nat.le_of_ble_eq_true rfl) rfl h (fun v11 s10 h => ?_)
      refine v_goto 50 cx dX12_byUnits_46 (by decide) ?_
      refine v_iadd 51 cx dX12_byUnits_50 rfl ?_
      refine v_istore_n 52 (fun a12 => [(3, .int a12), (0, .ref (oX E 0)), (1, .int x1), (2, .int x2), (4, .int x4)]) cx dX12_byUnits_51 rfl (by decide) (fun _ => rfl) rfl h (fun a12 h => ?_)
      refine v_iinc 55 4 (fun a13 => [(4, .int a13), (3, .int a12), (0, .ref (oX E 0)), (1, .int x1), (2, .int x2)]) cx dX12_byUnits_52 rfl ic_1 (by decide) (fun _ => rfl) rfl h (fun a13 h => ?_)
      refine v_goto 15 cx dX12_byUnits_55 (by decide) ?_
      cases h
      have hk : Vat C (wM E) 5 15 [(0, .ref (oX E 0)), (1, .int x1), (2, .int x2), (3, .int a12), (4, .int a13)] [] s10 := hk
      exact v_lsub (lv' := [(0, .ref (oX E 0)), (1, .int x1), (2, .int x2), (3, .int a12), (4, .int a13)]) [2, 3, 4, 1, 0] rfl (hk)
set_option maxHeartbeats 4000000 in
set_option maxRecDepth 100000 in
theorem j_X12_byUnits_97 {C : Cm} {E : Ev} (cx : Cx C (tyE E) cX12_byUnits RX12 5 1 22) (x1 : Int32) (x2 : Int32) (t0 : Int32) (st : Sg) (out : (Int32 × Int32 × Sg) ⊕ (Int32 × Sg)) (h : m_X12_byUnits_97 x1 x2 t0 st = some out) (hk : Sum.elim (V_X12_byUnits_L4 C E) (K_X12_byUnits_L4 C E) out) : Vat C (wM E) 5 97 [(0, .ref (oX E 0)), (1, .int x1), (2, .int x2)] [.int t0] st := by
  unfold m_X12_byUnits_97 at h
  refine v_istore 99 (fun a18 => [(4, .int a18), (0, .ref (oX E 0)), (1, .int x1), (2, .int x2)]) cx dX12_byUnits_97 (by decide) (fun _ => rfl) rfl h (fun a18 h => ?_)
  refine v_iload 101 0 cx dX12_byUnits_99 rfl rfl ?_
  refine v_iload_n 102 2 cx dX12_byUnits_101 rfl rfl rfl ?_
  refine v_icmp_le 108 105 cx dX12_byUnits_102 (by decide) rfl h (fun h => ?_) (fun h => ?_)
  · refine v_iinc 111 3 (fun a19 => [(2, .int a19), (4, .int a18), (0, .ref (oX E 0)), (1, .int x1)]) cx dX12_byUnits_108 rfl ic_1 (by decide) (fun _ => rfl) rfl h (fun a19 h => ?_)
    refine v_goto 4 cx dX12_byUnits_111 (by decide) ?_
    cases h
    have hk : Vat C (wM E) 5 4 [(0, .ref (oX E 0)), (1, .int x1), (2, .int a19)] [] st := hk
    exact v_lsub (lv' := [(0, .ref (oX E 0)), (1, .int x1), (2, .int a19)]) [2, 3, 0] rfl (hk)
  · refine v_iload 107 0 cx dX12_byUnits_105 rfl rfl ?_
    refine v_istore_n 108 (fun a20 => [(1, .int a20), (4, .int a18), (0, .ref (oX E 0)), (2, .int x2)]) cx dX12_byUnits_107 rfl (by decide) (fun _ => rfl) rfl h (fun a20 h => ?_)
    refine v_iinc 111 3 (fun a21 => [(2, .int a21), (1, .int a20), (4, .int a18), (0, .ref (oX E 0))]) cx dX12_byUnits_108 rfl ic_1 (by decide) (fun _ => rfl) rfl h (fun a21 h => ?_)
    refine v_goto 4 cx dX12_byUnits_111 (by decide) ?_
    cases h
    have hk : Vat C (wM E) 5 4 [(0, .ref (oX E 0)), (1, .int a20), (2, .int a21)] [] st := hk
    exact v_lsub (lv' := [(0, .ref (oX E 0)), (1, .int a20), (2, .int a21)]) [3, 1, 0] rfl (hk)
set_option maxHeartbeats 4000000 in
set_option maxRecDepth 100000 in
theorem b_X12_byUnits_L4 {C : Cm} {E : Ev} (cx : Cx C (tyE E) cX12_byUnits RX12 5 1 22) : ∀ (s : (Int32 × Int32 × Sg)) (out : (Int32 × Int32 × Sg) ⊕ (Int32 × Sg)), m_X12_byUnits_L4 s.1 s.2.1 s.2.2 = some out → Sum.elim (V_X12_byUnits_L4 C E) (K_X12_byUnits_L4 C E) out → V_X12_byUnits_L4 C E s := by
  intro s out h hk
  obtain ⟨x1, x2, st⟩ := s
  show Vat C (wM E) 5 4 [(0, .ref (oX E 0)), (1, .int x1), (2, .int x2)] [] st
  replace h : m_X12_byUnits_L4 x1 x2 st = some out := h
  unfold m_X12_byUnits_L4 at h
  refine v_iload_n 5 2 cx dX12_byUnits_4 rfl rfl rfl ?_
  refine v_bipush 7 cx dX12_byUnits_5 bp_6 rfl ?_
  refine v_icmp_ge 114 10 cx dX12_byUnits_7 (by decide) rfl h (fun h => ?_) (fun h => ?_)
  · cases h
    have hk : Vat C (wM E) 5 114 [(1, .int x1)] [] st := hk
    exact v_lsub (lv' := [(1, .int x1)]) [1] rfl (hk)
  · refine v_iconst 11 cx dX12_byUnits_10 ic_0 rfl ?_
    refine v_istore_n 12 (fun a3 => [(3, .int a3), (0, .ref (oX E 0)), (1, .int x1), (2, .int x2)]) cx dX12_byUnits_11 rfl (by decide) (fun _ => rfl) rfl h (fun a3 h => ?_)
    refine v_iconst 13 cx dX12_byUnits_12 ic_0 rfl ?_
    refine v_istore 15 (fun a4 => [(4, .int a4), (3, .int a3), (0, .ref (oX E 0)), (1, .int x1), (2, .int x2)]) cx dX12_byUnits_13 (by decide) (fun _ => rfl) rfl h (fun a4 h => ?_)
    refine v_lsub (lv' := [(0, .ref (oX E 0)), (1, .int x1), (2, .int x2), (3, .int a3), (4, .int a4)]) [2, 3, 4, 1, 0] rfl ?_
    refine v_loop (s0 := (a3, a4, st)) (V_X12_byUnits_L15 C E x1 x2) (K_X12_byUnits_L15 C E x1 x2) h (b_X12_byUnits_L15 cx x1 x2) (fun r14 h => ?_)
    show Vat C (wM E) 5 58 [(0, .ref (oX E 0)), (1, .int x1), (2, .int x2), (3, .int r14.1)] [] r14.2
    refine v_iload_n 59 3 cx dX12_byUnits_58 rfl rfl rfl ?_
    refine v_if_ne 66 62 cx dX12_byUnits_59 (by decide) rfl h (fun h => ?_) (fun h => ?_)
    · refine v_aload_n 67 0 cx dX12_byUnits_66 rfl rfl rfl ?_
      refine v_get 70 0 10 cx dX12_byUnits_67 iX12 (wMo_0 E r14.2) rfl (Nat.le_of_ble_eq_true rfl) rfl kf_X12_38 rfl rfl ?_
      refine v_iload_n 71 2 cx dX12_byUnits_70 rfl rfl rfl ?_
      refine v_iald 72 10 0 cx dX12_byUnits_71 (wMa_0_10 E r14.2) rfl rfl h (fun v15 h => ?_)
      refine v_if_ne 80 75 cx dX12_byUnits_72 (by decide) rfl h (fun h => ?_) (fun h => ?_)
      · refine v_iload_n 81 3 cx dX12_byUnits_80 rfl rfl rfl ?_
        refine v_aload_n 82 0 cx dX12_byUnits_81 rfl rfl rfl ?_
        refine v_get 85 0 10 cx dX12_byUnits_82 iX12 (wMo_0 E r14.2) rfl (Nat.le_of_ble_eq_true rfl) rfl kf_X12_38 rfl rfl ?_
        refine v_iload_n 86 2 cx dX12_byUnits_85 rfl rfl rfl ?_
        refine v_iald 87 10 0 cx dX12_byUnits_86 (wMa_0_10 E r14.2) rfl rfl h (fun v16 h => ?_)
        refine v_iadd 88 cx dX12_byUnits_87 rfl ?_
        refine v_iconst 89 cx dX12_byUnits_88 ic_1 rfl ?_
        refine v_isub 90 cx dX12_byUnits_89 rfl ?_
        refine v_aload_n 91 0 cx dX12_byUnits_90 rfl rfl rfl ?_
        refine v_get 94 0 10 cx dX12_byUnits_91 iX12 (wMo_0 E r14.2) rfl (Nat.le_of_ble_eq_true rfl) rfl kf_X12_38 rfl rfl ?_
        refine v_iload_n 95 2 cx dX12_byUnits_94 rfl rfl rfl ?_
        refine v_iald 96 10 0 cx dX12_byUnits_95 (wMa_0_10 E r14.2) rfl rfl h (fun v17 h => ?_)
        refine v_idiv 97 cx dX12_byUnits_96 rfl h (fun h => ?_)
        exact v_lsub (lv' := [(0, .ref (oX E 0)), (1, .int x1), (2, .int x2)]) [0, 1, 2] rfl (j_X12_byUnits_97 cx x1 x2 (((r14.1 + v16) - 1) / v17) r14.2 _ h hk)
      · refine v_ldc 77 cx dX12_byUnits_75 kc_X12_196 rfl ?_
        refine v_goto 97 cx dX12_byUnits_77 (by decide) ?_
        exact v_lsub (lv' := [(0, .ref (oX E 0)), (1, .int x1), (2, .int x2)]) [0, 1, 2] rfl (j_X12_byUnits_97 cx x1 x2 100000 r14.2 _ h hk)
    · refine v_iconst 63 cx dX12_byUnits_62 ic_1 rfl ?_
      refine v_goto 97 cx dX12_byUnits_63 (by decide) ?_
      exact v_lsub (lv' := [(0, .ref (oX E 0)), (1, .int x1), (2, .int x2)]) [0, 1, 2] rfl (j_X12_byUnits_97 cx x1 x2 1 r14.2 _ h hk)
set_option maxHeartbeats 4000000 in
set_option maxRecDepth 100000 in
theorem c_X12_byUnits (l : Launch) (E : Ev) (st : Sg) : ∀ q, m_X12_byUnits st = some q → CtI l (wM E) (tyE E) yX12_byUnits cX12_byUnits 5 (some .int) 1 22 [.ref (oX E 0)] st q := by
  intro q h
  refine ctI_of (lv0 := [(0, .ref (oX E 0))]) (by decide) rfl (Nat.le_of_ble_eq_true rfl) (fun C hC cx hk => ?_)
  replace cx : Cx C (tyE E) cX12_byUnits RX12 5 1 22 := cx
  unfold m_X12_byUnits at h
  refine v_iconst 1 cx dX12_byUnits_0 ic_1 rfl ?_
  refine v_istore_n 2 (fun a1 => [(1, .int a1), (0, .ref (oX E 0))]) cx dX12_byUnits_1 rfl (by decide) (fun _ => rfl) rfl h (fun a1 h => ?_)
  refine v_iconst 3 cx dX12_byUnits_2 ic_0 rfl ?_
  refine v_istore_n 4 (fun a2 => [(2, .int a2), (1, .int a1), (0, .ref (oX E 0))]) cx dX12_byUnits_3 rfl (by decide) (fun _ => rfl) rfl h (fun a2 h => ?_)
  refine v_lsub (lv' := [(0, .ref (oX E 0)), (1, .int a1), (2, .int a2)]) [2, 1, 0] rfl ?_
  refine v_loop (s0 := (a1, a2, st)) (V_X12_byUnits_L4 C E) (K_X12_byUnits_L4 C E) h (b_X12_byUnits_L4 cx) (fun r22 h => ?_)
  show Vat C (wM E) 5 114 [(1, .int r22.1)] [] r22.2
  refine v_iload_n 115 0 cx dX12_byUnits_114 rfl rfl rfl ?_
  exact hk _ _ _ _ (Option.some.inj h) dX12_byUnits_115
def V_X12_unwrong_L2 (C : Cm) (E : Ev) (s : (Int32 × Sg)) : Prop := Vat C (wM E) 2 2 [(0, .ref (oX E 0)), (1, .int s.1)] [] s.2
def K_X12_unwrong_L2 (C : Cm) (E : Ev) : (Sg) → Prop := (fun r : (Sg) => Vat C (wM E) 2 21 [] [] r)
set_option maxHeartbeats 4000000 in
set_option maxRecDepth 100000 in
theorem b_X12_unwrong_L2 {C : Cm} {E : Ev} (cx : Cx C (tyE E) cX12_unwrong RX12 2 0 0) : ∀ (s : (Int32 × Sg)) (out : (Int32 × Sg) ⊕ (Sg)), m_X12_unwrong_L2 s.1 s.2 = some out → Sum.elim (V_X12_unwrong_L2 C E) (K_X12_unwrong_L2 C E) out → V_X12_unwrong_L2 C E s := by
  intro s out h hk
  obtain ⟨x1, st⟩ := s
  show Vat C (wM E) 2 2 [(0, .ref (oX E 0)), (1, .int x1)] [] st
  replace h : m_X12_unwrong_L2 x1 st = some out := h
  unfold m_X12_unwrong_L2 at h
  refine v_iload_n 3 1 cx dX12_unwrong_2 rfl rfl rfl ?_
  refine v_bipush 5 cx dX12_unwrong_3 bp_6 rfl ?_
  refine v_icmp_ge 21 8 cx dX12_unwrong_5 (by decide) rfl h (fun h => ?_) (fun h => ?_)
  · cases h
    have hk : Vat C (wM E) 2 21 [] [] st := hk
    exact v_lsub (lv' := []) [] rfl (hk)
  · refine v_aload_n 9 0 cx dX12_unwrong_8 rfl rfl rfl ?_
    refine v_get 12 0 36 cx dX12_unwrong_9 iX12 (wMo_0 E st) rfl (Nat.le_of_ble_eq_true rfl) rfl kf_X12_102 rfl rfl ?_
    refine v_iload_n 13 1 cx dX12_unwrong_12 rfl rfl rfl ?_
    refine v_iconst 14 cx dX12_unwrong_13 ic_m1 rfl ?_
    refine v_iast 15 31 0 cx dX12_unwrong_14 (wMa_0_36 E st) rfl (wMt_0_36 E st) rfl h (fun s2 h => ?_)
    refine v_iinc 18 1 (fun a3 => [(1, .int a3), (0, .ref (oX E 0))]) cx dX12_unwrong_15 rfl ic_1 (by decide) (fun _ => rfl) rfl h (fun a3 h => ?_)
    refine v_goto 2 cx dX12_unwrong_18 (by decide) ?_
    cases h
    have hk : Vat C (wM E) 2 2 [(0, .ref (oX E 0)), (1, .int a3)] [] s2 := hk
    exact v_lsub (lv' := [(0, .ref (oX E 0)), (1, .int a3)]) [1, 0] rfl (hk)
set_option maxHeartbeats 4000000 in
set_option maxRecDepth 100000 in
theorem c_X12_unwrong (l : Launch) (E : Ev) (st : Sg) : ∀ q, m_X12_unwrong st = some q → CtV l (wM E) (tyE E) yX12_unwrong cX12_unwrong 2 none 0 0 [.ref (oX E 0)] st q := by
  intro q h
  refine ctV_of (lv0 := [(0, .ref (oX E 0))]) (by decide) rfl (Nat.le_of_ble_eq_true rfl) (fun C hC cx hk => ?_)
  replace cx : Cx C (tyE E) cX12_unwrong RX12 2 0 0 := cx
  unfold m_X12_unwrong at h
  refine v_iconst 1 cx dX12_unwrong_0 ic_0 rfl ?_
  refine v_istore_n 2 (fun a1 => [(1, .int a1), (0, .ref (oX E 0))]) cx dX12_unwrong_1 rfl (by decide) (fun _ => rfl) rfl h (fun a1 h => ?_)
  refine v_lsub (lv' := [(0, .ref (oX E 0)), (1, .int a1)]) [1, 0] rfl ?_
  refine v_loop (s0 := (a1, st)) (V_X12_unwrong_L2 C E) (K_X12_unwrong_L2 C E) h (b_X12_unwrong_L2 cx) (fun r4 h => ?_)
  show Vat C (wM E) 2 21 [] [] r4
  exact hk _ _ _ _ (Option.some.inj h) dX12_unwrong_21
set_option maxHeartbeats 4000000 in
set_option maxRecDepth 100000 in
theorem c_X12_enter (l : Launch) (E : Ev) (st : Sg) (p1 : Int32) (p2 : Int32) (p3 : Int32) (p4 : Int32) : ∀ q, m_X12_enter p1 p2 p3 p4 st = some q → CtV l (wM E) (tyE E) yX12_enter cX12_enter 5 none 0 0 [.ref (oX E 0), .int p1, .int p2, .int p3, .int p4] st q := by
  intro q h
  refine ctV_of (lv0 := [(0, .ref (oX E 0)), (1, .int p1), (2, .int p2), (3, .int p3), (4, .int p4)]) (by decide) rfl (Nat.le_of_ble_eq_true rfl) (fun C hC cx hk => ?_)
  replace cx : Cx C (tyE E) cX12_enter RX12 5 0 0 := cx
  unfold m_X12_enter at h
  refine v_aload_n 1 0 cx dX12_enter_0 rfl rfl rfl ?_
  refine v_get 4 0 16 cx dX12_enter_1 iX12 (wMo_0 E st) rfl (Nat.le_of_ble_eq_true rfl) rfl kf_X12_53 rfl rfl ?_
  refine v_aload_n 5 0 cx dX12_enter_4 rfl rfl rfl ?_
  refine v_getI 8 0 20 cx dX12_enter_5 iX12 (wMo_0 E st) rfl (Nat.le_of_ble_eq_true rfl) rfl kf_X12_180 rfl rfl h (fun v1 h => ?_)
  refine v_iload_n 9 1 cx dX12_enter_8 rfl rfl rfl ?_
  refine v_iast 10 15 0 cx dX12_enter_9 (wMa_0_16 E st) rfl (wMt_0_16 E st) rfl h (fun s2 h => ?_)
  refine v_aload_n 11 0 cx dX12_enter_10 rfl rfl rfl ?_
  refine v_get 14 0 17 cx dX12_enter_11 iX12 (wMo_0 E s2) rfl (Nat.le_of_ble_eq_true rfl) rfl kf_X12_56 rfl rfl ?_
  refine v_aload_n 15 0 cx dX12_enter_14 rfl rfl rfl ?_
  refine v_getI 18 0 20 cx dX12_enter_15 iX12 (wMo_0 E s2) rfl (Nat.le_of_ble_eq_true rfl) rfl kf_X12_180 rfl rfl h (fun v3 h => ?_)
  refine v_iload_n 19 2 cx dX12_enter_18 rfl rfl rfl ?_
  refine v_iast 20 16 0 cx dX12_enter_19 (wMa_0_17 E s2) rfl (wMt_0_17 E s2) rfl h (fun s4 h => ?_)
  refine v_aload_n 21 0 cx dX12_enter_20 rfl rfl rfl ?_
  refine v_get 24 0 18 cx dX12_enter_21 iX12 (wMo_0 E s4) rfl (Nat.le_of_ble_eq_true rfl) rfl kf_X12_59 rfl rfl ?_
  refine v_aload_n 25 0 cx dX12_enter_24 rfl rfl rfl ?_
  refine v_getI 28 0 20 cx dX12_enter_25 iX12 (wMo_0 E s4) rfl (Nat.le_of_ble_eq_true rfl) rfl kf_X12_180 rfl rfl h (fun v5 h => ?_)
  refine v_iload_n 29 3 cx dX12_enter_28 rfl rfl rfl ?_
  refine v_iast 30 17 0 cx dX12_enter_29 (wMa_0_18 E s4) rfl (wMt_0_18 E s4) rfl h (fun s6 h => ?_)
  refine v_aload_n 31 0 cx dX12_enter_30 rfl rfl rfl ?_
  refine v_get 34 0 19 cx dX12_enter_31 iX12 (wMo_0 E s6) rfl (Nat.le_of_ble_eq_true rfl) rfl kf_X12_62 rfl rfl ?_
  refine v_aload_n 35 0 cx dX12_enter_34 rfl rfl rfl ?_
  refine v_getI 38 0 20 cx dX12_enter_35 iX12 (wMo_0 E s6) rfl (Nat.le_of_ble_eq_true rfl) rfl kf_X12_180 rfl rfl h (fun v7 h => ?_)
  refine v_iload 40 4 cx dX12_enter_38 rfl rfl ?_
  refine v_iast 41 18 0 cx dX12_enter_40 (wMa_0_19 E s6) rfl (wMt_0_19 E s6) rfl h (fun s8 h => ?_)
  refine v_aload_n 42 0 cx dX12_enter_41 rfl rfl rfl ?_
  refine v_dup 43 cx dX12_enter_42 rfl rfl ?_
  refine v_getI 46 0 20 cx dX12_enter_43 iX12 (wMo_0 E s8) rfl (Nat.le_of_ble_eq_true rfl) rfl kf_X12_180 rfl rfl h (fun v9 h => ?_)
  refine v_iconst 47 cx dX12_enter_46 ic_1 rfl ?_
  refine v_iadd 48 cx dX12_enter_47 rfl ?_
  refine v_putI 51 0 20 cx dX12_enter_48 iX12 tyX12_ok nmX12 (wMo_0 E s8) rfl (Nat.le_of_ble_eq_true rfl) rfl kf_X12_180 rfl rfl rfl rfl (Nat.le_of_ble_eq_true rfl) (wMs_0_20 E s8 _) rfl h (fun s10 h => ?_)
  exact hk _ _ _ _ (Option.some.inj h) dX12_enter_51
set_option maxHeartbeats 4000000 in
set_option maxRecDepth 100000 in
theorem c_X12_isOfRow (l : Launch) (E : Ev) (st : Sg) (p1 : Int32) : ∀ q, m_X12_isOfRow p1 st = some q → CtI l (wM E) (tyE E) yX12_isOfRow cX12_isOfRow 2 (some .boolean) 0 0 [.ref (oX E 0), .int p1] st q := by
  intro q h
  refine ctZ_of (lv0 := [(0, .ref (oX E 0)), (1, .int p1)]) (by decide) rfl (Nat.le_of_ble_eq_true rfl) (fun C hC cx hk => ?_)
  replace cx : Cx C (tyE E) cX12_isOfRow RX12 2 0 0 := cx
  unfold m_X12_isOfRow at h
  refine v_aload_n 1 0 cx dX12_isOfRow_0 rfl rfl rfl ?_
  refine v_get 4 0 0 cx dX12_isOfRow_1 iX12 (wMo_0 E st) rfl (Nat.le_of_ble_eq_true rfl) rfl kf_X12_7 rfl rfl ?_
  refine v_iload_n 5 1 cx dX12_isOfRow_4 rfl rfl rfl ?_
  refine v_iald 6 1 0 cx dX12_isOfRow_5 (wMa_0_0 E st) rfl rfl h (fun v1 h => ?_)
  refine v_iconst 7 cx dX12_isOfRow_6 ic_4 rfl ?_
  refine v_icmp_eq 20 10 cx dX12_isOfRow_7 (by decide) rfl h (fun h => ?_) (fun h => ?_)
  · refine v_iconst 21 cx dX12_isOfRow_20 ic_1 rfl ?_
    refine v_goto 25 cx dX12_isOfRow_21 (by decide) ?_
    exact hk _ _ _ _ (Option.some.inj h) (Or.inr rfl) dX12_isOfRow_25
  · refine v_aload_n 11 0 cx dX12_isOfRow_10 rfl rfl rfl ?_
    refine v_get 14 0 0 cx dX12_isOfRow_11 iX12 (wMo_0 E st) rfl (Nat.le_of_ble_eq_true rfl) rfl kf_X12_7 rfl rfl ?_
    refine v_iload_n 15 1 cx dX12_isOfRow_14 rfl rfl rfl ?_
    refine v_iald 16 1 0 cx dX12_isOfRow_15 (wMa_0_0 E st) rfl rfl h (fun v2 h => ?_)
    refine v_iconst 17 cx dX12_isOfRow_16 ic_5 rfl ?_
    refine v_icmp_ne 24 20 cx dX12_isOfRow_17 (by decide) rfl h (fun h => ?_) (fun h => ?_)
    · refine v_iconst 25 cx dX12_isOfRow_24 ic_0 rfl ?_
      exact hk _ _ _ _ (Option.some.inj h) (Or.inl rfl) dX12_isOfRow_25
    · refine v_iconst 21 cx dX12_isOfRow_20 ic_1 rfl ?_
      refine v_goto 25 cx dX12_isOfRow_21 (by decide) ?_
      exact hk _ _ _ _ (Option.some.inj h) (Or.inr rfl) dX12_isOfRow_25
set_option maxHeartbeats 4000000 in
set_option maxRecDepth 100000 in
theorem j_X12_gatherTwo_146 {C : Cm} {E : Ev} (cx : Cx C (tyE E) cX12_gatherTwo RX12 5 1 24) (x1 : Int32) (x2 : Int32) (x4 : Int32) (st : Sg) (out : Unit × Sg) (h : m_X12_gatherTwo_146 x1 x2 x4 st = some out) (hk : ReV C (wM E) cX12_gatherTwo 5 out) : Vat C (wM E) 5 146 [(0, .ref (oX E 0)), (1, .int x1), (2, .int x2), (4, .int x4)] [] st := by
  unfold m_X12_gatherTwo_146 at h
  refine v_iload 148 3 cx dX12_gatherTwo_146 rfl rfl ?_
  refine v_if_eq 159 151 cx dX12_gatherTwo_148 (by decide) rfl h (fun h => ?_) (fun h => ?_)
  · exact hk _ _ _ _ (Option.some.inj h) dX12_gatherTwo_159
  · refine v_aload_n 152 0 cx dX12_gatherTwo_151 rfl rfl rfl ?_
    refine v_iload_n 153 1 cx dX12_gatherTwo_152 rfl rfl rfl ?_
    refine v_iload_n 154 2 cx dX12_gatherTwo_153 rfl rfl rfl ?_
    refine v_iconst 155 cx dX12_gatherTwo_154 ic_1 rfl ?_
    refine v_iconst 156 cx dX12_gatherTwo_155 ic_1 rfl ?_
    refine v_callVV 159 0 cx dX12_gatherTwo_156 km_X12_183 ca_X12_enter (wMo_0 E st) rfl (c_X12_enter C.2.1 E st x1 x2 1 1 ) rfl (by decide) rfl (Nat.le_of_ble_eq_true rfl) rfl h (fun _ s4 h => ?_)
    exact hk _ _ _ _ (Option.some.inj h) dX12_gatherTwo_159
set_option maxHeartbeats 4000000 in
set_option maxRecDepth 100000 in
theorem j_X12_gatherTwo_126 {C : Cm} {E : Ev} (cx : Cx C (tyE E) cX12_gatherTwo RX12 5 1 24) (x1 : Int32) (x2 : Int32) (t0 : Int32) (st : Sg) (out : Unit × Sg) (h : m_X12_gatherTwo_126 x1 x2 t0 st = some out) (hk : ReV C (wM E) cX12_gatherTwo 5 out) : Vat C (wM E) 5 126 [(0, .ref (oX E 0)), (1, .int x1), (2, .int x2)] [.int t0] st := by
  unfold m_X12_gatherTwo_126 at h
  refine v_istore 128 (fun a3 => [(4, .int a3), (0, .ref (oX E 0)), (1, .int x1), (2, .int x2)]) cx dX12_gatherTwo_126 (by decide) (fun _ => rfl) rfl h (fun a3 h => ?_)
  refine v_iload 130 0 cx dX12_gatherTwo_128 rfl rfl ?_
  refine v_if_eq 146 133 cx dX12_gatherTwo_130 (by decide) rfl h (fun h => ?_) (fun h => ?_)
  · exact v_lsub (lv' := [(0, .ref (oX E 0)), (1, .int x1), (2, .int x2), (4, .int a3)]) [1, 2, 3, 0] rfl (j_X12_gatherTwo_146 cx x1 x2 a3 st _ h hk)
  · refine v_iload_n 134 2 cx dX12_gatherTwo_133 rfl rfl rfl ?_
    refine v_iload_n 135 3 cx dX12_gatherTwo_134 rfl rfl rfl ?_
    refine v_icmp_ge 146 138 cx dX12_gatherTwo_135 (by decide) rfl h (fun h => ?_) (fun h => ?_)
    · exact v_lsub (lv' := [(0, .ref (oX E 0)), (1, .int x1), (2, .int x2), (4, .int a3)]) [1, 2, 3, 0] rfl (j_X12_gatherTwo_146 cx x1 x2 a3 st _ h hk)
    · refine v_aload_n 139 1 cx dX12_gatherTwo_138 rfl rfl rfl ?_
      refine v_iload_n 140 2 cx dX12_gatherTwo_139 rfl rfl rfl ?_
      refine v_iload_n 141 3 cx dX12_gatherTwo_140 rfl rfl rfl ?_
      refine v_iconst 142 cx dX12_gatherTwo_141 ic_1 rfl ?_
      refine v_iconst 143 cx dX12_gatherTwo_142 ic_0 rfl ?_
      refine v_callVV 146 0 cx dX12_gatherTwo_143 km_X12_183 ca_X12_enter (wMo_0 E st) rfl (c_X12_enter C.2.1 E st x1 x2 1 0 ) rfl (by decide) rfl (Nat.le_of_ble_eq_true rfl) rfl h (fun _ s5 h => ?_)
      exact v_lsub (lv' := [(0, .ref (oX E 0)), (1, .int x1), (2, .int x2), (4, .int a3)]) [1, 2, 3, 0] rfl (j_X12_gatherTwo_146 cx x1 x2 a3 s5 _ h hk)
set_option maxHeartbeats 4000000 in
set_option maxRecDepth 100000 in
theorem j_X12_gatherTwo_125 {C : Cm} {E : Ev} (cx : Cx C (tyE E) cX12_gatherTwo RX12 5 1 24) (x1 : Int32) (x2 : Int32) (st : Sg) (out : Unit × Sg) (h : m_X12_gatherTwo_125 x1 x2 st = some out) (hk : ReV C (wM E) cX12_gatherTwo 5 out) : Vat C (wM E) 5 125 [(0, .ref (oX E 0)), (1, .int x1), (2, .int x2)] [] st := by
  unfold m_X12_gatherTwo_125 at h
  refine v_iconst 126 cx dX12_gatherTwo_125 ic_0 rfl ?_
  exact j_X12_gatherTwo_126 cx x1 x2 0 st _ h hk
set_option maxHeartbeats 4000000 in
set_option maxRecDepth 100000 in
theorem j_X12_gatherTwo_86 {C : Cm} {E : Ev} (cx : Cx C (tyE E) cX12_gatherTwo RX12 5 1 24) (x1 : Int32) (x2 : Int32) (st : Sg) (out : Unit × Sg) (h : m_X12_gatherTwo_86 x1 x2 st = some out) (hk : ReV C (wM E) cX12_gatherTwo 5 out) : Vat C (wM E) 5 86 [(0, .ref (oX E 0)), (1, .int x1), (2, .int x2)] [] st := by
  unfold m_X12_gatherTwo_86 at h
  refine v_aload_n 87 0 cx dX12_gatherTwo_86 rfl rfl rfl ?_
  refine v_get 90 0 0 cx dX12_gatherTwo_87 iX12 (wMo_0 E st) rfl (Nat.le_of_ble_eq_true rfl) rfl kf_X12_7 rfl rfl ?_
  refine v_iload_n 91 2 cx dX12_gatherTwo_90 rfl rfl rfl ?_
  refine v_iald 92 1 0 cx dX12_gatherTwo_91 (wMa_0_0 E st) rfl rfl h (fun v2 h => ?_)
  refine v_iconst 93 cx dX12_gatherTwo_92 ic_5 rfl ?_
  refine v_icmp_ne 125 96 cx dX12_gatherTwo_93 (by decide) rfl h (fun h => ?_) (fun h => ?_)
  · exact j_X12_gatherTwo_125 cx x1 x2 st _ h hk
  · refine v_iload_n 97 1 cx dX12_gatherTwo_96 rfl rfl rfl ?_
    refine v_iload_n 98 2 cx dX12_gatherTwo_97 rfl rfl rfl ?_
    refine v_icmp_eq 125 101 cx dX12_gatherTwo_98 (by decide) rfl h (fun h => ?_) (fun h => ?_)
    · exact j_X12_gatherTwo_125 cx x1 x2 st _ h hk
    · refine v_aload_n 102 0 cx dX12_gatherTwo_101 rfl rfl rfl ?_
      refine v_get 105 0 0 cx dX12_gatherTwo_102 iX12 (wMo_0 E st) rfl (Nat.le_of_ble_eq_true rfl) rfl kf_X12_7 rfl rfl ?_
      refine v_iload_n 106 1 cx dX12_gatherTwo_105 rfl rfl rfl ?_
      refine v_iald 107 1 0 cx dX12_gatherTwo_106 (wMa_0_0 E st) rfl rfl h (fun v6 h => ?_)
      refine v_iconst 108 cx dX12_gatherTwo_107 ic_3 rfl ?_
      refine v_icmp_lt 125 111 cx dX12_gatherTwo_108 (by decide) rfl h (fun h => ?_) (fun h => ?_)
      · exact j_X12_gatherTwo_125 cx x1 x2 st _ h hk
      · refine v_aload_n 112 0 cx dX12_gatherTwo_111 rfl rfl rfl ?_
        refine v_get 115 0 0 cx dX12_gatherTwo_112 iX12 (wMo_0 E st) rfl (Nat.le_of_ble_eq_true rfl) rfl kf_X12_7 rfl rfl ?_
        refine v_iload_n 116 1 cx dX12_gatherTwo_115 rfl rfl rfl ?_
        refine v_iald 117 1 0 cx dX12_gatherTwo_116 (wMa_0_0 E st) rfl rfl h (fun v7 h => ?_)
        refine v_iconst 118 cx dX12_gatherTwo_117 ic_5 rfl ?_
        refine v_icmp_gt 125 121 cx dX12_gatherTwo_118 (by decide) rfl h (fun h => ?_) (fun h => ?_)
        · exact j_X12_gatherTwo_125 cx x1 x2 st _ h hk
        · refine v_iconst 122 cx dX12_gatherTwo_121 ic_1 rfl ?_
          refine v_goto 126 cx dX12_gatherTwo_122 (by decide) ?_
          exact j_X12_gatherTwo_126 cx x1 x2 1 st _ h hk
set_option maxHeartbeats 4000000 in
set_option maxRecDepth 100000 in
theorem j_X12_gatherTwo_74 {C : Cm} {E : Ev} (cx : Cx C (tyE E) cX12_gatherTwo RX12 5 1 24) (x1 : Int32) (x2 : Int32) (x3 : Int32) (st : Sg) (out : Unit × Sg) (h : m_X12_gatherTwo_74 x1 x2 x3 st = some out) (hk : ReV C (wM E) cX12_gatherTwo 5 out) : Vat C (wM E) 5 74 [(0, .ref (oX E 0)), (1, .int x1), (2, .int x2), (3, .int x3)] [] st := by
  unfold m_X12_gatherTwo_74 at h
  refine v_iload_n 75 3 cx dX12_gatherTwo_74 rfl rfl rfl ?_
  refine v_if_eq 86 78 cx dX12_gatherTwo_75 (by decide) rfl h (fun h => ?_) (fun h => ?_)
  · exact v_lsub (lv' := [(0, .ref (oX E 0)), (1, .int x1), (2, .int x2)]) [0, 1, 2] rfl (j_X12_gatherTwo_86 cx x1 x2 st _ h hk)
  · refine v_aload_n 79 0 cx dX12_gatherTwo_78 rfl rfl rfl ?_
    refine v_iload_n 80 2 cx dX12_gatherTwo_79 rfl rfl rfl ?_
    refine v_iload_n 81 1 cx dX12_gatherTwo_80 rfl rfl rfl ?_
    refine v_iconst 82 cx dX12_gatherTwo_81 ic_1 rfl ?_
    refine v_iconst 83 cx dX12_gatherTwo_82 ic_1 rfl ?_
    refine v_callVV 86 0 cx dX12_gatherTwo_83 km_X12_183 ca_X12_enter (wMo_0 E st) rfl (c_X12_enter C.2.1 E st x2 x1 1 1 ) rfl (by decide) rfl (Nat.le_of_ble_eq_true rfl) rfl h (fun _ s8 h => ?_)
    exact v_lsub (lv' := [(0, .ref (oX E 0)), (1, .int x1), (2, .int x2)]) [0, 1, 2] rfl (j_X12_gatherTwo_86 cx x1 x2 s8 _ h hk)
set_option maxHeartbeats 4000000 in
set_option maxRecDepth 100000 in
theorem j_X12_gatherTwo_61 {C : Cm} {E : Ev} (cx : Cx C (tyE E) cX12_gatherTwo RX12 5 1 24) (x1 : Int32) (x2 : Int32) (t0 : Int32) (st : Sg) (out : Unit × Sg) (h : m_X12_gatherTwo_61 x1 x2 t0 st = some out) (hk : ReV C (wM E) cX12_gatherTwo 5 out) : Vat C (wM E) 5 61 [(0, .ref (oX E 0)), (1, .int x1), (2, .int x2)] [.int t0] st := by
  unfold m_X12_gatherTwo_61 at h
  refine v_istore_n 62 (fun a1 => [(3, .int a1), (0, .ref (oX E 0)), (1, .int x1), (2, .int x2)]) cx dX12_gatherTwo_61 rfl (by decide) (fun _ => rfl) rfl h (fun a1 h => ?_)
  refine v_iload_n 63 0 cx dX12_gatherTwo_62 rfl rfl rfl ?_
  refine v_if_eq 74 66 cx dX12_gatherTwo_63 (by decide) rfl h (fun h => ?_) (fun h => ?_)
  · exact v_lsub (lv' := [(0, .ref (oX E 0)), (1, .int x1), (2, .int x2), (3, .int a1)]) [1, 2, 3, 0] rfl (j_X12_gatherTwo_74 cx x1 x2 a1 st _ h hk)
  · refine v_aload_n 67 1 cx dX12_gatherTwo_66 rfl rfl rfl ?_
    refine v_iload_n 68 2 cx dX12_gatherTwo_67 rfl rfl rfl ?_
    refine v_iload_n 69 3 cx dX12_gatherTwo_68 rfl rfl rfl ?_
    refine v_iconst 70 cx dX12_gatherTwo_69 ic_1 rfl ?_
    refine v_iconst 71 cx dX12_gatherTwo_70 ic_0 rfl ?_
    refine v_callVV 74 0 cx dX12_gatherTwo_71 km_X12_183 ca_X12_enter (wMo_0 E st) rfl (c_X12_enter C.2.1 E st x1 x2 1 0 ) rfl (by decide) rfl (Nat.le_of_ble_eq_true rfl) rfl h (fun _ s9 h => ?_)
    exact v_lsub (lv' := [(0, .ref (oX E 0)), (1, .int x1), (2, .int x2), (3, .int a1)]) [1, 2, 3, 0] rfl (j_X12_gatherTwo_74 cx x1 x2 a1 s9 _ h hk)
set_option maxHeartbeats 4000000 in
set_option maxRecDepth 100000 in
theorem j_X12_gatherTwo_60 {C : Cm} {E : Ev} (cx : Cx C (tyE E) cX12_gatherTwo RX12 5 1 24) (x1 : Int32) (x2 : Int32) (st : Sg) (out : Unit × Sg) (h : m_X12_gatherTwo_60 x1 x2 st = some out) (hk : ReV C (wM E) cX12_gatherTwo 5 out) : Vat C (wM E) 5 60 [(0, .ref (oX E 0)), (1, .int x1), (2, .int x2)] [] st := by
  unfold m_X12_gatherTwo_60 at h
  refine v_iconst 61 cx dX12_gatherTwo_60 ic_0 rfl ?_
  exact j_X12_gatherTwo_61 cx x1 x2 0 st _ h hk
set_option maxHeartbeats 4000000 in
set_option maxRecDepth 100000 in
theorem j_X12_gatherTwo_56 {C : Cm} {E : Ev} (cx : Cx C (tyE E) cX12_gatherTwo RX12 5 1 24) (x1 : Int32) (x2 : Int32) (st : Sg) (out : Unit × Sg) (h : m_X12_gatherTwo_56 x1 x2 st = some out) (hk : ReV C (wM E) cX12_gatherTwo 5 out) : Vat C (wM E) 5 56 [(0, .ref (oX E 0)), (1, .int x1), (2, .int x2)] [] st := by
  unfold m_X12_gatherTwo_56 at h
  refine v_iconst 57 cx dX12_gatherTwo_56 ic_1 rfl ?_
  refine v_goto 61 cx dX12_gatherTwo_57 (by decide) ?_
  exact j_X12_gatherTwo_61 cx x1 x2 1 st _ h hk
set_option maxHeartbeats 4000000 in
set_option maxRecDepth 100000 in
theorem c_X12_gatherTwo (l : Launch) (E : Ev) (st : Sg) (p1 : Int32) (p2 : Int32) : ∀ q, m_X12_gatherTwo p1 p2 st = some q → CtV l (wM E) (tyE E) yX12_gatherTwo cX12_gatherTwo 5 none 1 24 [.ref (oX E 0), .int p1, .int p2] st q := by
  intro q h
  refine ctV_of (lv0 := [(0, .ref (oX E 0)), (1, .int p1), (2, .int p2)]) (by decide) rfl (Nat.le_of_ble_eq_true rfl) (fun C hC cx hk => ?_)
  replace cx : Cx C (tyE E) cX12_gatherTwo RX12 5 1 24 := cx
  unfold m_X12_gatherTwo at h
  refine v_iload_n 1 1 cx dX12_gatherTwo_0 rfl rfl rfl ?_
  refine v_iload_n 2 2 cx dX12_gatherTwo_1 rfl rfl rfl ?_
  refine v_icmp_ge 60 5 cx dX12_gatherTwo_2 (by decide) rfl h (fun h => ?_) (fun h => ?_)
  · exact j_X12_gatherTwo_60 cx p1 p2 st _ h hk
  · refine v_aload_n 6 0 cx dX12_gatherTwo_5 rfl rfl rfl ?_
    refine v_iload_n 7 1 cx dX12_gatherTwo_6 rfl rfl rfl ?_
    refine v_callVI 10 0 cx dX12_gatherTwo_7 km_X12_190 ca_X12_isOfRow (wMo_0 E st) rfl (c_X12_isOfRow C.2.1 E st p1 ) rfl (by decide) rfl (Nat.le_of_ble_eq_true rfl) rfl h (fun v11 s10 h => ?_)
    refine v_if_eq 60 13 cx dX12_gatherTwo_10 (by decide) rfl h (fun h => ?_) (fun h => ?_)
    · exact j_X12_gatherTwo_60 cx p1 p2 s10 _ h hk
    · refine v_aload_n 14 0 cx dX12_gatherTwo_13 rfl rfl rfl ?_
      refine v_iload_n 15 2 cx dX12_gatherTwo_14 rfl rfl rfl ?_
      refine v_callVI 18 0 cx dX12_gatherTwo_15 km_X12_190 ca_X12_isOfRow (wMo_0 E s10) rfl (c_X12_isOfRow C.2.1 E s10 p2 ) rfl (by decide) rfl (Nat.le_of_ble_eq_true rfl) rfl h (fun v13 s12 h => ?_)
      refine v_if_eq 60 21 cx dX12_gatherTwo_18 (by decide) rfl h (fun h => ?_) (fun h => ?_)
      · exact j_X12_gatherTwo_60 cx p1 p2 s12 _ h hk
      · refine v_aload_n 22 0 cx dX12_gatherTwo_21 rfl rfl rfl ?_
        refine v_get 25 0 4 cx dX12_gatherTwo_22 iX12 (wMo_0 E s12) rfl (Nat.le_of_ble_eq_true rfl) rfl kf_X12_22 rfl rfl ?_
        refine v_iload_n 26 1 cx dX12_gatherTwo_25 rfl rfl rfl ?_
        refine v_iald 27 5 0 cx dX12_gatherTwo_26 (wMa_0_4 E s12) rfl rfl h (fun v14 h => ?_)
        refine v_aload_n 28 0 cx dX12_gatherTwo_27 rfl rfl rfl ?_
        refine v_get 31 0 4 cx dX12_gatherTwo_28 iX12 (wMo_0 E s12) rfl (Nat.le_of_ble_eq_true rfl) rfl kf_X12_22 rfl rfl ?_
        refine v_iload_n 32 2 cx dX12_gatherTwo_31 rfl rfl rfl ?_
        refine v_iald 33 5 0 cx dX12_gatherTwo_32 (wMa_0_4 E s12) rfl rfl h (fun v15 h => ?_)
        refine v_icmp_ne 60 36 cx dX12_gatherTwo_33 (by decide) rfl h (fun h => ?_) (fun h => ?_)
        · exact j_X12_gatherTwo_60 cx p1 p2 s12 _ h hk
        · refine v_aload_n 37 0 cx dX12_gatherTwo_36 rfl rfl rfl ?_
          refine v_get 40 0 0 cx dX12_gatherTwo_37 iX12 (wMo_0 E s12) rfl (Nat.le_of_ble_eq_true rfl) rfl kf_X12_7 rfl rfl ?_
          refine v_iload_n 41 1 cx dX12_gatherTwo_40 rfl rfl rfl ?_
          refine v_iald 42 1 0 cx dX12_gatherTwo_41 (wMa_0_0 E s12) rfl rfl h (fun v16 h => ?_)
          refine v_iconst 43 cx dX12_gatherTwo_42 ic_5 rfl ?_
          refine v_icmp_eq 56 46 cx dX12_gatherTwo_43 (by decide) rfl h (fun h => ?_) (fun h => ?_)
          · exact j_X12_gatherTwo_56 cx p1 p2 s12 _ h hk
          · refine v_aload_n 47 0 cx dX12_gatherTwo_46 rfl rfl rfl ?_
            refine v_get 50 0 0 cx dX12_gatherTwo_47 iX12 (wMo_0 E s12) rfl (Nat.le_of_ble_eq_true rfl) rfl kf_X12_7 rfl rfl ?_
            refine v_iload_n 51 2 cx dX12_gatherTwo_50 rfl rfl rfl ?_
            refine v_iald 52 1 0 cx dX12_gatherTwo_51 (wMa_0_0 E s12) rfl rfl h (fun v17 h => ?_)
            refine v_iconst 53 cx dX12_gatherTwo_52 ic_5 rfl ?_
            refine v_icmp_ne 60 56 cx dX12_gatherTwo_53 (by decide) rfl h (fun h => ?_) (fun h => ?_)
            · exact j_X12_gatherTwo_60 cx p1 p2 s12 _ h hk
            · exact j_X12_gatherTwo_56 cx p1 p2 s12 _ h hk
def V_X12_gather_L7 (C : Cm) (E : Ev) (s : (Int32 × Sg)) : Prop := Vat C (wM E) 3 7 [(0, .ref (oX E 0)), (1, .int s.1)] [] s.2
def K_X12_gather_L7 (C : Cm) (E : Ev) : (Sg) → Prop := (fun r : (Sg) => Vat C (wM E) 3 130 [(0, .ref (oX E 0))] [] r)
def V_X12_gather_L19 (C : Cm) (E : Ev) (x1 : Int32) (s : (Int32 × Sg)) : Prop := Vat C (wM E) 3 19 [(0, .ref (oX E 0)), (1, .int x1), (2, .int s.1)] [] s.2
def K_X12_gather_L19 (C : Cm) (E : Ev) (x1 : Int32) : (Sg) → Prop := (fun r : (Sg) => Vat C (wM E) 3 84 [(0, .ref (oX E 0)), (1, .int x1)] [] r)
set_option maxHeartbeats 4000000 in
set_option maxRecDepth 100000 in
theorem b_X12_gather_L19 {C : Cm} {E : Ev} (cx : Cx C (tyE E) cX12_gather RX12 3 2 48) (x1 : Int32) : ∀ (s : (Int32 × Sg)) (out : (Int32 × Sg) ⊕ (Sg)), m_X12_gather_L19 x1 s.1 s.2 = some out → Sum.elim (V_X12_gather_L19 C E x1) (K_X12_gather_L19 C E x1) out → V_X12_gather_L19 C E x1 s := by
  intro s out h hk
  obtain ⟨x2, st⟩ := s
  show Vat C (wM E) 3 19 [(0, .ref (oX E 0)), (1, .int x1), (2, .int x2)] [] st
  replace h : m_X12_gather_L19 x1 x2 st = some out := h
  unfold m_X12_gather_L19 at h
  refine v_iload_n 20 2 cx dX12_gather_19 rfl rfl rfl ?_
  refine v_iconst 21 cx dX12_gather_20 ic_3 rfl ?_
  refine v_iload_n 22 1 cx dX12_gather_21 rfl rfl rfl ?_
  refine v_imul 23 cx dX12_gather_22 rfl ?_
  refine v_iconst 24 cx dX12_gather_23 ic_3 rfl ?_
  refine v_iadd 25 cx dX12_gather_24 rfl ?_
  refine v_icmp_ge 84 28 cx dX12_gather_25 (by decide) rfl h (fun h => ?_) (fun h => ?_)
  · cases h
    have hk : Vat C (wM E) 3 84 [(0, .ref (oX E 0)), (1, .int x1)] [] st := hk
    exact v_lsub (lv' := [(0, .ref (oX E 0)), (1, .int x1)]) [0, 1] rfl (hk)
  · refine v_aload_n 29 0 cx dX12_gather_28 rfl rfl rfl ?_
    refine v_get 32 0 5 cx dX12_gather_29 iX12 (wMo_0 E st) rfl (Nat.le_of_ble_eq_true rfl) rfl kf_X12_25 rfl rfl ?_
    refine v_iload_n 33 2 cx dX12_gather_32 rfl rfl rfl ?_
    refine v_iald 34 6 0 cx dX12_gather_33 (wMa_0_5 E st) rfl rfl h (fun v5 h => ?_)
    refine v_if_lt 78 37 cx dX12_gather_34 (by decide) rfl h (fun h => ?_) (fun h => ?_)
    · refine v_iinc 81 2 (fun a6 => [(2, .int a6), (0, .ref (oX E 0)), (1, .int x1)]) cx dX12_gather_78 rfl ic_1 (by decide) (fun _ => rfl) rfl h (fun a6 h => ?_)
      refine v_goto 19 cx dX12_gather_81 (by decide) ?_
      cases h
      have hk : Vat C (wM E) 3 19 [(0, .ref (oX E 0)), (1, .int x1), (2, .int a6)] [] st := hk
      exact v_lsub (lv' := [(0, .ref (oX E 0)), (1, .int x1), (2, .int a6)]) [1, 2, 0] rfl (hk)
    · refine v_aload_n 38 0 cx dX12_gather_37 rfl rfl rfl ?_
      refine v_get 41 0 5 cx dX12_gather_38 iX12 (wMo_0 E st) rfl (Nat.le_of_ble_eq_true rfl) rfl kf_X12_25 rfl rfl ?_
      refine v_iload_n 42 2 cx dX12_gather_41 rfl rfl rfl ?_
      refine v_iald 43 6 0 cx dX12_gather_42 (wMa_0_5 E st) rfl rfl h (fun v7 h => ?_)
      refine v_aload_n 44 0 cx dX12_gather_43 rfl rfl rfl ?_
      refine v_getI 47 0 9 cx dX12_gather_44 iX12 (wMo_0 E st) rfl (Nat.le_of_ble_eq_true rfl) rfl kf_X12_118 rfl rfl h (fun v8 h => ?_)
      refine v_icmp_ge 78 50 cx dX12_gather_47 (by decide) rfl h (fun h => ?_) (fun h => ?_)
      · refine v_iinc 81 2 (fun a9 => [(2, .int a9), (0, .ref (oX E 0)), (1, .int x1)]) cx dX12_gather_78 rfl ic_1 (by decide) (fun _ => rfl) rfl h (fun a9 h => ?_)
        refine v_goto 19 cx dX12_gather_81 (by decide) ?_
        cases h
        have hk : Vat C (wM E) 3 19 [(0, .ref (oX E 0)), (1, .int x1), (2, .int a9)] [] st := hk
        exact v_lsub (lv' := [(0, .ref (oX E 0)), (1, .int x1), (2, .int a9)]) [1, 2, 0] rfl (hk)
      · refine v_aload_n 51 0 cx dX12_gather_50 rfl rfl rfl ?_
        refine v_aload_n 52 0 cx dX12_gather_51 rfl rfl rfl ?_
        refine v_get 55 0 5 cx dX12_gather_52 iX12 (wMo_0 E st) rfl (Nat.le_of_ble_eq_true rfl) rfl kf_X12_25 rfl rfl ?_
        refine v_iload_n 56 2 cx dX12_gather_55 rfl rfl rfl ?_
        refine v_iald 57 6 0 cx dX12_gather_56 (wMa_0_5 E st) rfl rfl h (fun v10 h => ?_)
        refine v_iload_n 58 1 cx dX12_gather_57 rfl rfl rfl ?_
        refine v_aload_n 59 0 cx dX12_gather_58 rfl rfl rfl ?_
        refine v_get 62 0 1 cx dX12_gather_59 iX12 (wMo_0 E st) rfl (Nat.le_of_ble_eq_true rfl) rfl kf_X12_13 rfl rfl ?_
        refine v_aload_n 63 0 cx dX12_gather_62 rfl rfl rfl ?_
        refine v_get 66 0 5 cx dX12_gather_63 iX12 (wMo_0 E st) rfl (Nat.le_of_ble_eq_true rfl) rfl kf_X12_25 rfl rfl ?_
        refine v_iload_n 67 2 cx dX12_gather_66 rfl rfl rfl ?_
        refine v_iald 68 6 0 cx dX12_gather_67 (wMa_0_5 E st) rfl rfl h (fun v11 h => ?_)
        refine v_iald 69 2 0 cx dX12_gather_68 (wMa_0_1 E st) rfl rfl h (fun v12 h => ?_)
        refine v_aload_n 70 0 cx dX12_gather_69 rfl rfl rfl ?_
        refine v_get 73 0 6 cx dX12_gather_70 iX12 (wMo_0 E st) rfl (Nat.le_of_ble_eq_true rfl) rfl kf_X12_28 rfl rfl ?_
        refine v_iload_n 74 2 cx dX12_gather_73 rfl rfl rfl ?_
        refine v_iald 75 7 0 cx dX12_gather_74 (wMa_0_6 E st) rfl rfl h (fun v13 h => ?_)
        refine v_callVV 78 0 cx dX12_gather_75 km_X12_183 ca_X12_enter (wMo_0 E st) rfl (c_X12_enter C.2.1 E st v10 x1 v12 v13 ) rfl (by decide) rfl (Nat.le_of_ble_eq_true rfl) rfl h (fun _ s14 h => ?_)
        refine v_iinc 81 2 (fun a15 => [(2, .int a15), (0, .ref (oX E 0)), (1, .int x1)]) cx dX12_gather_78 rfl ic_1 (by decide) (fun _ => rfl) rfl h (fun a15 h => ?_)
        refine v_goto 19 cx dX12_gather_81 (by decide) ?_
        cases h
        have hk : Vat C (wM E) 3 19 [(0, .ref (oX E 0)), (1, .int x1), (2, .int a15)] [] s14 := hk
        exact v_lsub (lv' := [(0, .ref (oX E 0)), (1, .int x1), (2, .int a15)]) [1, 2, 0] rfl (hk)
def V_X12_gather_L104 (C : Cm) (E : Ev) (x1 : Int32) (s : (Int32 × Sg)) : Prop := Vat C (wM E) 3 104 [(0, .ref (oX E 0)), (1, .int x1), (2, .int s.1)] [] s.2
def K_X12_gather_L104 (C : Cm) (E : Ev) (x1 : Int32) : (Sg) → Prop := (fun r : (Sg) => Vat C (wM E) 3 124 [(0, .ref (oX E 0)), (1, .int x1)] [] r)
set_option maxHeartbeats 4000000 in
set_option maxRecDepth 100000 in
theorem b_X12_gather_L104 {C : Cm} {E : Ev} (cx : Cx C (tyE E) cX12_gather RX12 3 2 48) (x1 : Int32) : ∀ (s : (Int32 × Sg)) (out : (Int32 × Sg) ⊕ (Sg)), m_X12_gather_L104 x1 s.1 s.2 = some out → Sum.elim (V_X12_gather_L104 C E x1) (K_X12_gather_L104 C E x1) out → V_X12_gather_L104 C E x1 s := by
  intro s out h hk
  obtain ⟨x2, st⟩ := s
  show Vat C (wM E) 3 104 [(0, .ref (oX E 0)), (1, .int x1), (2, .int x2)] [] st
  replace h : m_X12_gather_L104 x1 x2 st = some out := h
  unfold m_X12_gather_L104 at h
  refine v_iload_n 105 2 cx dX12_gather_104 rfl rfl rfl ?_
  refine v_aload_n 106 0 cx dX12_gather_105 rfl rfl rfl ?_
  refine v_getI 109 0 9 cx dX12_gather_106 iX12 (wMo_0 E st) rfl (Nat.le_of_ble_eq_true rfl) rfl kf_X12_118 rfl rfl h (fun v19 h => ?_)
  refine v_icmp_ge 124 112 cx dX12_gather_109 (by decide) rfl h (fun h => ?_) (fun h => ?_)
  · cases h
    have hk : Vat C (wM E) 3 124 [(0, .ref (oX E 0)), (1, .int x1)] [] st := hk
    exact v_lsub (lv' := [(0, .ref (oX E 0)), (1, .int x1)]) [0, 1] rfl (hk)
  · refine v_aload_n 113 0 cx dX12_gather_112 rfl rfl rfl ?_
    refine v_iload_n 114 2 cx dX12_gather_113 rfl rfl rfl ?_
    refine v_iload_n 115 1 cx dX12_gather_114 rfl rfl rfl ?_
    refine v_callVV 118 0 cx dX12_gather_115 km_X12_186 ca_X12_gatherTwo (wMo_0 E st) rfl (c_X12_gatherTwo C.2.1 E st x2 x1 ) rfl (by decide) rfl (Nat.le_of_ble_eq_true rfl) rfl h (fun _ s20 h => ?_)
    refine v_iinc 121 2 (fun a21 => [(2, .int a21), (0, .ref (oX E 0)), (1, .int x1)]) cx dX12_gather_118 rfl ic_1 (by decide) (fun _ => rfl) rfl h (fun a21 h => ?_)
    refine v_goto 104 cx dX12_gather_121 (by decide) ?_
    cases h
    have hk : Vat C (wM E) 3 104 [(0, .ref (oX E 0)), (1, .int x1), (2, .int a21)] [] s20 := hk
    exact v_lsub (lv' := [(0, .ref (oX E 0)), (1, .int x1), (2, .int a21)]) [1, 2, 0] rfl (hk)
set_option maxHeartbeats 4000000 in
set_option maxRecDepth 100000 in
theorem b_X12_gather_L7 {C : Cm} {E : Ev} (cx : Cx C (tyE E) cX12_gather RX12 3 2 48) : ∀ (s : (Int32 × Sg)) (out : (Int32 × Sg) ⊕ (Sg)), m_X12_gather_L7 s.1 s.2 = some out → Sum.elim (V_X12_gather_L7 C E) (K_X12_gather_L7 C E) out → V_X12_gather_L7 C E s := by
  intro s out h hk
  obtain ⟨x1, st⟩ := s
  show Vat C (wM E) 3 7 [(0, .ref (oX E 0)), (1, .int x1)] [] st
  replace h : m_X12_gather_L7 x1 st = some out := h
  unfold m_X12_gather_L7 at h
  refine v_iload_n 8 1 cx dX12_gather_7 rfl rfl rfl ?_
  refine v_aload_n 9 0 cx dX12_gather_8 rfl rfl rfl ?_
  refine v_getI 12 0 9 cx dX12_gather_9 iX12 (wMo_0 E st) rfl (Nat.le_of_ble_eq_true rfl) rfl kf_X12_118 rfl rfl h (fun v3 h => ?_)
  refine v_icmp_ge 130 15 cx dX12_gather_12 (by decide) rfl h (fun h => ?_) (fun h => ?_)
  · cases h
    have hk : Vat C (wM E) 3 130 [(0, .ref (oX E 0))] [] st := hk
    exact v_lsub (lv' := [(0, .ref (oX E 0))]) [0] rfl (hk)
  · refine v_iconst 16 cx dX12_gather_15 ic_3 rfl ?_
    refine v_iload_n 17 1 cx dX12_gather_16 rfl rfl rfl ?_
    refine v_imul 18 cx dX12_gather_17 rfl ?_
    refine v_istore_n 19 (fun a4 => [(2, .int a4), (0, .ref (oX E 0)), (1, .int x1)]) cx dX12_gather_18 rfl (by decide) (fun _ => rfl) rfl h (fun a4 h => ?_)
    refine v_lsub (lv' := [(0, .ref (oX E 0)), (1, .int x1), (2, .int a4)]) [1, 2, 0] rfl ?_
    refine v_loop (s0 := (a4, st)) (V_X12_gather_L19 C E x1) (K_X12_gather_L19 C E x1) h (b_X12_gather_L19 cx x1) (fun r16 h => ?_)
    show Vat C (wM E) 3 84 [(0, .ref (oX E 0)), (1, .int x1)] [] r16
    refine v_aload_n 85 0 cx dX12_gather_84 rfl rfl rfl ?_
    refine v_get 88 0 0 cx dX12_gather_85 iX12 (wMo_0 E r16) rfl (Nat.le_of_ble_eq_true rfl) rfl kf_X12_7 rfl rfl ?_
    refine v_iload_n 89 1 cx dX12_gather_88 rfl rfl rfl ?_
    refine v_iald 90 1 0 cx dX12_gather_89 (wMa_0_0 E r16) rfl rfl h (fun v17 h => ?_)
    refine v_iconst 91 cx dX12_gather_90 ic_5 rfl ?_
    refine v_icmp_ne 102 94 cx dX12_gather_91 (by decide) rfl h (fun h => ?_) (fun h => ?_)
    · refine v_iconst 103 cx dX12_gather_102 ic_0 rfl ?_
      refine v_istore_n 104 (fun a18 => [(2, .int a18), (0, .ref (oX E 0)), (1, .int x1)]) cx dX12_gather_103 rfl (by decide) (fun _ => rfl) rfl h (fun a18 h => ?_)
      refine v_lsub (lv' := [(0, .ref (oX E 0)), (1, .int x1), (2, .int a18)]) [1, 2, 0] rfl ?_
      refine v_loop (s0 := (a18, r16)) (V_X12_gather_L104 C E x1) (K_X12_gather_L104 C E x1) h (b_X12_gather_L104 cx x1) (fun r22 h => ?_)
      show Vat C (wM E) 3 124 [(0, .ref (oX E 0)), (1, .int x1)] [] r22
      refine v_iinc 127 1 (fun a23 => [(1, .int a23), (0, .ref (oX E 0))]) cx dX12_gather_124 rfl ic_1 (by decide) (fun _ => rfl) rfl h (fun a23 h => ?_)
      refine v_goto 7 cx dX12_gather_127 (by decide) ?_
      cases h
      have hk : Vat C (wM E) 3 7 [(0, .ref (oX E 0)), (1, .int a23)] [] r22 := hk
      exact v_lsub (lv' := [(0, .ref (oX E 0)), (1, .int a23)]) [1, 0] rfl (hk)
    · refine v_aload_n 95 0 cx dX12_gather_94 rfl rfl rfl ?_
      refine v_iload_n 96 1 cx dX12_gather_95 rfl rfl rfl ?_
      refine v_iload_n 97 1 cx dX12_gather_96 rfl rfl rfl ?_
      refine v_iconst 98 cx dX12_gather_97 ic_1 rfl ?_
      refine v_iconst 99 cx dX12_gather_98 ic_1 rfl ?_
      refine v_callVV 102 0 cx dX12_gather_99 km_X12_183 ca_X12_enter (wMo_0 E r16) rfl (c_X12_enter C.2.1 E r16 x1 x1 1 1 ) rfl (by decide) rfl (Nat.le_of_ble_eq_true rfl) rfl h (fun _ s24 h => ?_)
      refine v_iconst 103 cx dX12_gather_102 ic_0 rfl ?_
      refine v_istore_n 104 (fun a25 => [(2, .int a25), (0, .ref (oX E 0)), (1, .int x1)]) cx dX12_gather_103 rfl (by decide) (fun _ => rfl) rfl h (fun a25 h => ?_)
      refine v_lsub (lv' := [(0, .ref (oX E 0)), (1, .int x1), (2, .int a25)]) [1, 2, 0] rfl ?_
      refine v_loop (s0 := (a25, s24)) (V_X12_gather_L104 C E x1) (K_X12_gather_L104 C E x1) h (b_X12_gather_L104 cx x1) (fun r26 h => ?_)
      show Vat C (wM E) 3 124 [(0, .ref (oX E 0)), (1, .int x1)] [] r26
      refine v_iinc 127 1 (fun a27 => [(1, .int a27), (0, .ref (oX E 0))]) cx dX12_gather_124 rfl ic_1 (by decide) (fun _ => rfl) rfl h (fun a27 h => ?_)
      refine v_goto 7 cx dX12_gather_127 (by decide) ?_
      cases h
      have hk : Vat C (wM E) 3 7 [(0, .ref (oX E 0)), (1, .int a27)] [] r26 := hk
      exact v_lsub (lv' := [(0, .ref (oX E 0)), (1, .int a27)]) [1, 0] rfl (hk)
def V_X12_gather_L132 (C : Cm) (E : Ev) (s : (Int32 × Sg)) : Prop := Vat C (wM E) 3 132 [(0, .ref (oX E 0)), (1, .int s.1)] [] s.2
def K_X12_gather_L132 (C : Cm) (E : Ev) : (Sg) → Prop := (fun r : (Sg) => Vat C (wM E) 3 174 [] [] r)
set_option maxHeartbeats 4000000 in
set_option maxRecDepth 100000 in
theorem b_X12_gather_L132 {C : Cm} {E : Ev} (cx : Cx C (tyE E) cX12_gather RX12 3 2 48) : ∀ (s : (Int32 × Sg)) (out : (Int32 × Sg) ⊕ (Sg)), m_X12_gather_L132 s.1 s.2 = some out → Sum.elim (V_X12_gather_L132 C E) (K_X12_gather_L132 C E) out → V_X12_gather_L132 C E s := by
  intro s out h hk
  obtain ⟨x1, st⟩ := s
  show Vat C (wM E) 3 132 [(0, .ref (oX E 0)), (1, .int x1)] [] st
  replace h : m_X12_gather_L132 x1 st = some out := h
  unfold m_X12_gather_L132 at h
  refine v_iload_n 133 1 cx dX12_gather_132 rfl rfl rfl ?_
  refine v_aload_n 134 0 cx dX12_gather_133 rfl rfl rfl ?_
  refine v_getI 137 0 15 cx dX12_gather_134 iX12 (wMo_0 E st) rfl (Nat.le_of_ble_eq_true rfl) rfl kf_X12_172 rfl rfl h (fun v30 h => ?_)
  refine v_icmp_ge 174 140 cx dX12_gather_137 (by decide) rfl h (fun h => ?_) (fun h => ?_)
  · cases h
    have hk : Vat C (wM E) 3 174 [] [] st := hk
    exact v_lsub (lv' := []) [] rfl (hk)
  · refine v_aload_n 141 0 cx dX12_gather_140 rfl rfl rfl ?_
    refine v_aload_n 142 0 cx dX12_gather_141 rfl rfl rfl ?_
    refine v_get 145 0 11 cx dX12_gather_142 iX12 (wMo_0 E st) rfl (Nat.le_of_ble_eq_true rfl) rfl kf_X12_41 rfl rfl ?_
    refine v_iload_n 146 1 cx dX12_gather_145 rfl rfl rfl ?_
    refine v_iald 147 11 0 cx dX12_gather_146 (wMa_0_11 E st) rfl rfl h (fun v31 h => ?_)
    refine v_aload_n 148 0 cx dX12_gather_147 rfl rfl rfl ?_
    refine v_get 151 0 12 cx dX12_gather_148 iX12 (wMo_0 E st) rfl (Nat.le_of_ble_eq_true rfl) rfl kf_X12_44 rfl rfl ?_
    refine v_iload_n 152 1 cx dX12_gather_151 rfl rfl rfl ?_
    refine v_iald 153 12 0 cx dX12_gather_152 (wMa_0_12 E st) rfl rfl h (fun v32 h => ?_)
    refine v_aload_n 154 0 cx dX12_gather_153 rfl rfl rfl ?_
    refine v_get 157 0 13 cx dX12_gather_154 iX12 (wMo_0 E st) rfl (Nat.le_of_ble_eq_true rfl) rfl kf_X12_47 rfl rfl ?_
    refine v_iload_n 158 1 cx dX12_gather_157 rfl rfl rfl ?_
    refine v_iald 159 13 0 cx dX12_gather_158 (wMa_0_13 E st) rfl rfl h (fun v33 h => ?_)
    refine v_aload_n 160 0 cx dX12_gather_159 rfl rfl rfl ?_
    refine v_get 163 0 14 cx dX12_gather_160 iX12 (wMo_0 E st) rfl (Nat.le_of_ble_eq_true rfl) rfl kf_X12_50 rfl rfl ?_
    refine v_iload_n 164 1 cx dX12_gather_163 rfl rfl rfl ?_
    refine v_iald 165 14 0 cx dX12_gather_164 (wMa_0_14 E st) rfl rfl h (fun v34 h => ?_)
    refine v_callVV 168 0 cx dX12_gather_165 km_X12_183 ca_X12_enter (wMo_0 E st) rfl (c_X12_enter C.2.1 E st v31 v32 v33 v34 ) rfl (by decide) rfl (Nat.le_of_ble_eq_true rfl) rfl h (fun _ s35 h => ?_)
    refine v_iinc 171 1 (fun a36 => [(1, .int a36), (0, .ref (oX E 0))]) cx dX12_gather_168 rfl ic_1 (by decide) (fun _ => rfl) rfl h (fun a36 h => ?_)
    refine v_goto 132 cx dX12_gather_171 (by decide) ?_
    cases h
    have hk : Vat C (wM E) 3 132 [(0, .ref (oX E 0)), (1, .int a36)] [] s35 := hk
    exact v_lsub (lv' := [(0, .ref (oX E 0)), (1, .int a36)]) [1, 0] rfl (hk)
set_option maxHeartbeats 4000000 in
set_option maxRecDepth 100000 in
theorem c_X12_gather (l : Launch) (E : Ev) (st : Sg) : ∀ q, m_X12_gather st = some q → CtV l (wM E) (tyE E) yX12_gather cX12_gather 3 none 2 48 [.ref (oX E 0)] st q := by
  intro q h
  refine ctV_of (lv0 := [(0, .ref (oX E 0))]) (by decide) rfl (Nat.le_of_ble_eq_true rfl) (fun C hC cx hk => ?_)
  replace cx : Cx C (tyE E) cX12_gather RX12 3 2 48 := cx
  unfold m_X12_gather at h
  refine v_aload_n 1 0 cx dX12_gather_0 rfl rfl rfl ?_
  refine v_iconst 2 cx dX12_gather_1 ic_0 rfl ?_
  refine v_putI 5 0 20 cx dX12_gather_2 iX12 tyX12_ok nmX12 (wMo_0 E st) rfl (Nat.le_of_ble_eq_true rfl) rfl kf_X12_180 rfl rfl rfl rfl (Nat.le_of_ble_eq_true rfl) (wMs_0_20 E st _) rfl h (fun s1 h => ?_)
  refine v_iconst 6 cx dX12_gather_5 ic_0 rfl ?_
  refine v_istore_n 7 (fun a2 => [(1, .int a2), (0, .ref (oX E 0))]) cx dX12_gather_6 rfl (by decide) (fun _ => rfl) rfl h (fun a2 h => ?_)
  refine v_lsub (lv' := [(0, .ref (oX E 0)), (1, .int a2)]) [1, 0] rfl ?_
  refine v_loop (s0 := (a2, s1)) (V_X12_gather_L7 C E) (K_X12_gather_L7 C E) h (b_X12_gather_L7 cx) (fun r28 h => ?_)
  show Vat C (wM E) 3 130 [(0, .ref (oX E 0))] [] r28
  refine v_iconst 131 cx dX12_gather_130 ic_0 rfl ?_
  refine v_istore_n 132 (fun a29 => [(1, .int a29), (0, .ref (oX E 0))]) cx dX12_gather_131 rfl (by decide) (fun _ => rfl) rfl h (fun a29 h => ?_)
  refine v_lsub (lv' := [(0, .ref (oX E 0)), (1, .int a29)]) [1, 0] rfl ?_
  refine v_loop (s0 := (a29, r28)) (V_X12_gather_L132 C E) (K_X12_gather_L132 C E) h (b_X12_gather_L132 cx) (fun r37 h => ?_)
  show Vat C (wM E) 3 174 [] [] r37
  exact hk _ _ _ _ (Option.some.inj h) dX12_gather_174
set_option maxHeartbeats 4000000 in
set_option maxRecDepth 100000 in
theorem j_X12_isAhead_24 {C : Cm} {E : Ev} (cx : Cx C (tyE E) cX12_isAhead RX12 2 0 0) (x1 : Int32) (st : Sg) (out : Int32 × Sg) (h : m_X12_isAhead_24 x1 st = some out) (hk : ReZ C (wM E) cX12_isAhead 2 out) : Vat C (wM E) 2 24 [(0, .ref (oX E 0)), (1, .int x1)] [] st := by
  unfold m_X12_isAhead_24 at h
  refine v_aload_n 25 0 cx dX12_isAhead_24 rfl rfl rfl ?_
  refine v_get 28 0 36 cx dX12_isAhead_25 iX12 (wMo_0 E st) rfl (Nat.le_of_ble_eq_true rfl) rfl kf_X12_102 rfl rfl ?_
  refine v_iconst 29 cx dX12_isAhead_28 ic_1 rfl ?_
  refine v_iald 30 31 0 cx dX12_isAhead_29 (wMa_0_36 E st) rfl rfl h (fun v2 h => ?_)
  refine v_if_lt 48 33 cx dX12_isAhead_30 (by decide) rfl h (fun h => ?_) (fun h => ?_)
  · refine v_iconst 49 cx dX12_isAhead_48 ic_1 rfl ?_
    refine v_goto 53 cx dX12_isAhead_49 (by decide) ?_
    exact hk _ _ _ _ (Option.some.inj h) (Or.inr rfl) dX12_isAhead_53
  · refine v_aload_n 34 0 cx dX12_isAhead_33 rfl rfl rfl ?_
    refine v_get 37 0 17 cx dX12_isAhead_34 iX12 (wMo_0 E st) rfl (Nat.le_of_ble_eq_true rfl) rfl kf_X12_56 rfl rfl ?_
    refine v_iload_n 38 1 cx dX12_isAhead_37 rfl rfl rfl ?_
    refine v_iald 39 16 0 cx dX12_isAhead_38 (wMa_0_17 E st) rfl rfl h (fun v3 h => ?_)
    refine v_aload_n 40 0 cx dX12_isAhead_39 rfl rfl rfl ?_
    refine v_get 43 0 36 cx dX12_isAhead_40 iX12 (wMo_0 E st) rfl (Nat.le_of_ble_eq_true rfl) rfl kf_X12_102 rfl rfl ?_
    refine v_iconst 44 cx dX12_isAhead_43 ic_1 rfl ?_
    refine v_iald 45 31 0 cx dX12_isAhead_44 (wMa_0_36 E st) rfl rfl h (fun v4 h => ?_)
    refine v_icmp_ge 52 48 cx dX12_isAhead_45 (by decide) rfl h (fun h => ?_) (fun h => ?_)
    · refine v_iconst 53 cx dX12_isAhead_52 ic_0 rfl ?_
      exact hk _ _ _ _ (Option.some.inj h) (Or.inl rfl) dX12_isAhead_53
    · refine v_iconst 49 cx dX12_isAhead_48 ic_1 rfl ?_
      refine v_goto 53 cx dX12_isAhead_49 (by decide) ?_
      exact hk _ _ _ _ (Option.some.inj h) (Or.inr rfl) dX12_isAhead_53
set_option maxHeartbeats 4000000 in
set_option maxRecDepth 100000 in
theorem c_X12_isAhead (l : Launch) (E : Ev) (st : Sg) (p1 : Int32) : ∀ q, m_X12_isAhead p1 st = some q → CtI l (wM E) (tyE E) yX12_isAhead cX12_isAhead 2 (some .boolean) 0 0 [.ref (oX E 0), .int p1] st q := by
  intro q h
  refine ctZ_of (lv0 := [(0, .ref (oX E 0)), (1, .int p1)]) (by decide) rfl (Nat.le_of_ble_eq_true rfl) (fun C hC cx hk => ?_)
  replace cx : Cx C (tyE E) cX12_isAhead RX12 2 0 0 := cx
  unfold m_X12_isAhead at h
  refine v_aload_n 1 0 cx dX12_isAhead_0 rfl rfl rfl ?_
  refine v_get 4 0 36 cx dX12_isAhead_1 iX12 (wMo_0 E st) rfl (Nat.le_of_ble_eq_true rfl) rfl kf_X12_102 rfl rfl ?_
  refine v_iconst 5 cx dX12_isAhead_4 ic_1 rfl ?_
  refine v_iald 6 31 0 cx dX12_isAhead_5 (wMa_0_36 E st) rfl rfl h (fun v1 h => ?_)
  refine v_if_lt 24 9 cx dX12_isAhead_6 (by decide) rfl h (fun h => ?_) (fun h => ?_)
  · exact j_X12_isAhead_24 cx p1 st _ h hk
  · refine v_aload_n 10 0 cx dX12_isAhead_9 rfl rfl rfl ?_
    refine v_get 13 0 17 cx dX12_isAhead_10 iX12 (wMo_0 E st) rfl (Nat.le_of_ble_eq_true rfl) rfl kf_X12_56 rfl rfl ?_
    refine v_iload_n 14 1 cx dX12_isAhead_13 rfl rfl rfl ?_
    refine v_iald 15 16 0 cx dX12_isAhead_14 (wMa_0_17 E st) rfl rfl h (fun v5 h => ?_)
    refine v_aload_n 16 0 cx dX12_isAhead_15 rfl rfl rfl ?_
    refine v_get 19 0 36 cx dX12_isAhead_16 iX12 (wMo_0 E st) rfl (Nat.le_of_ble_eq_true rfl) rfl kf_X12_102 rfl rfl ?_
    refine v_iconst 20 cx dX12_isAhead_19 ic_1 rfl ?_
    refine v_iald 21 31 0 cx dX12_isAhead_20 (wMa_0_36 E st) rfl rfl h (fun v6 h => ?_)
    refine v_icmp_eq 54 24 cx dX12_isAhead_21 (by decide) rfl h (fun h => ?_) (fun h => ?_)
    · refine v_aload_n 55 0 cx dX12_isAhead_54 rfl rfl rfl ?_
      refine v_get 58 0 16 cx dX12_isAhead_55 iX12 (wMo_0 E st) rfl (Nat.le_of_ble_eq_true rfl) rfl kf_X12_53 rfl rfl ?_
      refine v_iload_n 59 1 cx dX12_isAhead_58 rfl rfl rfl ?_
      refine v_iald 60 15 0 cx dX12_isAhead_59 (wMa_0_16 E st) rfl rfl h (fun v7 h => ?_)
      refine v_aload_n 61 0 cx dX12_isAhead_60 rfl rfl rfl ?_
      refine v_get 64 0 36 cx dX12_isAhead_61 iX12 (wMo_0 E st) rfl (Nat.le_of_ble_eq_true rfl) rfl kf_X12_102 rfl rfl ?_
      refine v_iconst 65 cx dX12_isAhead_64 ic_0 rfl ?_
      refine v_iald 66 31 0 cx dX12_isAhead_65 (wMa_0_36 E st) rfl rfl h (fun v8 h => ?_)
      refine v_icmp_eq 90 69 cx dX12_isAhead_66 (by decide) rfl h (fun h => ?_) (fun h => ?_)
      · refine v_aload_n 91 0 cx dX12_isAhead_90 rfl rfl rfl ?_
        refine v_get 94 0 18 cx dX12_isAhead_91 iX12 (wMo_0 E st) rfl (Nat.le_of_ble_eq_true rfl) rfl kf_X12_59 rfl rfl ?_
        refine v_iload_n 95 1 cx dX12_isAhead_94 rfl rfl rfl ?_
        refine v_iald 96 17 0 cx dX12_isAhead_95 (wMa_0_18 E st) rfl rfl h (fun v9 h => ?_)
        refine v_aload_n 97 0 cx dX12_isAhead_96 rfl rfl rfl ?_
        refine v_get 100 0 36 cx dX12_isAhead_97 iX12 (wMo_0 E st) rfl (Nat.le_of_ble_eq_true rfl) rfl kf_X12_102 rfl rfl ?_
        refine v_iconst 101 cx dX12_isAhead_100 ic_2 rfl ?_
        refine v_iald 102 31 0 cx dX12_isAhead_101 (wMa_0_36 E st) rfl rfl h (fun v10 h => ?_)
        refine v_icmp_eq 128 105 cx dX12_isAhead_102 (by decide) rfl h (fun h => ?_) (fun h => ?_)
        · refine v_aload_n 129 0 cx dX12_isAhead_128 rfl rfl rfl ?_
          refine v_get 132 0 19 cx dX12_isAhead_129 iX12 (wMo_0 E st) rfl (Nat.le_of_ble_eq_true rfl) rfl kf_X12_62 rfl rfl ?_
          refine v_iload_n 133 1 cx dX12_isAhead_132 rfl rfl rfl ?_
          refine v_iald 134 18 0 cx dX12_isAhead_133 (wMa_0_19 E st) rfl rfl h (fun v11 h => ?_)
          refine v_aload_n 135 0 cx dX12_isAhead_134 rfl rfl rfl ?_
          refine v_get 138 0 36 cx dX12_isAhead_135 iX12 (wMo_0 E st) rfl (Nat.le_of_ble_eq_true rfl) rfl kf_X12_102 rfl rfl ?_
          refine v_iconst 139 cx dX12_isAhead_138 ic_3 rfl ?_
          refine v_iald 140 31 0 cx dX12_isAhead_139 (wMa_0_36 E st) rfl rfl h (fun v12 h => ?_)
          refine v_icmp_ge 147 143 cx dX12_isAhead_140 (by decide) rfl h (fun h => ?_) (fun h => ?_)
          · refine v_iconst 148 cx dX12_isAhead_147 ic_0 rfl ?_
            exact hk _ _ _ _ (Option.some.inj h) (Or.inl rfl) dX12_isAhead_148
          · refine v_iconst 144 cx dX12_isAhead_143 ic_1 rfl ?_
            refine v_goto 148 cx dX12_isAhead_144 (by decide) ?_
            exact hk _ _ _ _ (Option.some.inj h) (Or.inr rfl) dX12_isAhead_148
        · refine v_aload_n 106 0 cx dX12_isAhead_105 rfl rfl rfl ?_
          refine v_get 109 0 18 cx dX12_isAhead_106 iX12 (wMo_0 E st) rfl (Nat.le_of_ble_eq_true rfl) rfl kf_X12_59 rfl rfl ?_
          refine v_iload_n 110 1 cx dX12_isAhead_109 rfl rfl rfl ?_
          refine v_iald 111 17 0 cx dX12_isAhead_110 (wMa_0_18 E st) rfl rfl h (fun v13 h => ?_)
          refine v_aload_n 112 0 cx dX12_isAhead_111 rfl rfl rfl ?_
          refine v_get 115 0 36 cx dX12_isAhead_112 iX12 (wMo_0 E st) rfl (Nat.le_of_ble_eq_true rfl) rfl kf_X12_102 rfl rfl ?_
          refine v_iconst 116 cx dX12_isAhead_115 ic_2 rfl ?_
          refine v_iald 117 31 0 cx dX12_isAhead_116 (wMa_0_36 E st) rfl rfl h (fun v14 h => ?_)
          refine v_icmp_ge 124 120 cx dX12_isAhead_117 (by decide) rfl h (fun h => ?_) (fun h => ?_)
          · refine v_iconst 125 cx dX12_isAhead_124 ic_0 rfl ?_
            refine v_goto 148 cx dX12_isAhead_125 (by decide) ?_
            exact hk _ _ _ _ (Option.some.inj h) (Or.inl rfl) dX12_isAhead_148
          · refine v_iconst 121 cx dX12_isAhead_120 ic_1 rfl ?_
            refine v_goto 148 cx dX12_isAhead_121 (by decide) ?_
            exact hk _ _ _ _ (Option.some.inj h) (Or.inr rfl) dX12_isAhead_148
      · refine v_aload_n 70 0 cx dX12_isAhead_69 rfl rfl rfl ?_
        refine v_get 73 0 16 cx dX12_isAhead_70 iX12 (wMo_0 E st) rfl (Nat.le_of_ble_eq_true rfl) rfl kf_X12_53 rfl rfl ?_
        refine v_iload_n 74 1 cx dX12_isAhead_73 rfl rfl rfl ?_
        refine v_iald 75 15 0 cx dX12_isAhead_74 (wMa_0_16 E st) rfl rfl h (fun v15 h => ?_)
        refine v_aload_n 76 0 cx dX12_isAhead_75 rfl rfl rfl ?_
        refine v_get 79 0 36 cx dX12_isAhead_76 iX12 (wMo_0 E st) rfl (Nat.le_of_ble_eq_true rfl) rfl kf_X12_102 rfl rfl ?_
        refine v_iconst 80 cx dX12_isAhead_79 ic_0 rfl ?_
        refine v_iald 81 31 0 cx dX12_isAhead_80 (wMa_0_36 E st) rfl rfl h (fun v16 h => ?_)
        refine v_icmp_ge 88 84 cx dX12_isAhead_81 (by decide) rfl h (fun h => ?_) (fun h => ?_)
        · refine v_iconst 89 cx dX12_isAhead_88 ic_0 rfl ?_
          exact hk _ _ _ _ (Option.some.inj h) (Or.inl rfl) dX12_isAhead_89
        · refine v_iconst 85 cx dX12_isAhead_84 ic_1 rfl ?_
          refine v_goto 89 cx dX12_isAhead_85 (by decide) ?_
          exact hk _ _ _ _ (Option.some.inj h) (Or.inr rfl) dX12_isAhead_89
    · exact j_X12_isAhead_24 cx p1 st _ h hk
def V_X12_filledAs_L5 (C : Cm) (E : Ev) (x1 : Int32) (x2 : Int32) (s : (Int32 × Int32 × Sg)) : Prop := Vat C (wM E) 6 5 [(0, .ref (oX E 0)), (1, .int x1), (2, .int x2), (3, .int s.1), (4, .int s.2.1)] [] s.2.2
def K_X12_filledAs_L5 (C : Cm) (E : Ev) (x1 : Int32) (x2 : Int32) : (Int32 × Sg) → Prop := (fun r : (Int32 × Sg) => Vat C (wM E) 6 85 [(3, .int r.1)] [] r.2)
def V_X12_filledAs_L17 (C : Cm) (E : Ev) (x1 : Int32) (x2 : Int32) (x4 : Int32) (s : (Int32 × Int32 × Sg)) : Prop := Vat C (wM E) 6 17 [(0, .ref (oX E 0)), (1, .int x1), (2, .int x2), (3, .int s.1), (4, .int x4), (5, .int s.2.1)] [] s.2.2
def K_X12_filledAs_L17 (C : Cm) (E : Ev) (x1 : Int32) (x2 : Int32) (x4 : Int32) : (Int32 × Sg) → Prop := (fun r : (Int32 × Sg) => Vat C (wM E) 6 79 [(0, .ref (oX E 0)), (1, .int x1), (2, .int x2), (3, .int r.1), (4, .int x4)] [] r.2)
set_option maxHeartbeats 4000000 in
set_option maxRecDepth 100000 in
theorem b_X12_filledAs_L17 {C : Cm} {E : Ev} (cx : Cx C (tyE E) cX12_filledAs RX12 6 0 0) (x1 : Int32) (x2 : Int32) (x4 : Int32) : ∀ (s : (Int32 × Int32 × Sg)) (out : (Int32 × Int32 × Sg) ⊕ (Int32 × Sg)), m_X12_filledAs_L17 x1 x2 x4 s.1 s.2.1 s.2.2 = some out → Sum.elim (V_X12_filledAs_L17 C E x1 x2 x4) (K_X12_filledAs_L17 C E x1 x2 x4) out → V_X12_filledAs_L17 C E x1 x2 x4 s := by
  intro s out h hk
  obtain ⟨x3, x5, st⟩ := s
  show Vat C (wM E) 6 17 [(0, .ref (oX E 0)), (1, .int x1), (2, .int x2), (3, .int x3), (4, .int x4), (5, .int x5)] [] st
  replace h : m_X12_filledAs_L17 x1 x2 x4 x3 x5 st = some out := h
  unfold m_X12_filledAs_L17 at h
  refine v_iload 19 5 cx dX12_filledAs_17 rfl rfl ?_
  refine v_bipush 21 cx dX12_filledAs_19 bp_8 rfl ?_
  refine v_icmp_ge 79 24 cx dX12_filledAs_21 (by decide) rfl h (fun h => ?_) (fun h => ?_)
  · cases h
    have hk : Vat C (wM E) 6 79 [(0, .ref (oX E 0)), (1, .int x1), (2, .int x2), (3, .int x3), (4, .int x4)] [] st := hk
    exact v_lsub (lv' := [(0, .ref (oX E 0)), (1, .int x1), (2, .int x2), (3, .int x3), (4, .int x4)]) [0, 1, 2, 3, 4] rfl (hk)
  · refine v_aload_n 25 0 cx dX12_filledAs_24 rfl rfl rfl ?_
    refine v_get 28 0 2 cx dX12_filledAs_25 iX12 (wMo_0 E st) rfl (Nat.le_of_ble_eq_true rfl) rfl kf_X12_16 rfl rfl ?_
    refine v_iload 30 4 cx dX12_filledAs_28 rfl rfl ?_
    refine v_iald 31 3 0 cx dX12_filledAs_30 (wMa_0_2 E st) rfl rfl h (fun v5 h => ?_)
    refine v_iload_n 32 1 cx dX12_filledAs_31 rfl rfl rfl ?_
    refine v_icmp_ne 79 35 cx dX12_filledAs_32 (by decide) rfl h (fun h => ?_) (fun h => ?_)
    · cases h
      have hk : Vat C (wM E) 6 79 [(0, .ref (oX E 0)), (1, .int x1), (2, .int x2), (3, .int x3), (4, .int x4)] [] st := hk
      exact v_lsub (lv' := [(0, .ref (oX E 0)), (1, .int x1), (2, .int x2), (3, .int x3), (4, .int x4)]) [0, 1, 2, 3, 4] rfl (hk)
    · refine v_iload_n 36 3 cx dX12_filledAs_35 rfl rfl rfl ?_
      refine v_aload_n 37 0 cx dX12_filledAs_36 rfl rfl rfl ?_
      refine v_get 40 0 31 cx dX12_filledAs_37 iX12 (wMo_0 E st) rfl (Nat.le_of_ble_eq_true rfl) rfl kf_X12_90 rfl rfl ?_
      refine v_iload 42 4 cx dX12_filledAs_40 rfl rfl ?_
      refine v_iald 43 27 0 cx dX12_filledAs_42 (wMa_0_31 E st) rfl rfl h (fun v6 h => ?_)
      refine v_iload 45 5 cx dX12_filledAs_43 rfl rfl ?_
      refine v_iadd 46 cx dX12_filledAs_45 rfl ?_
      refine v_aload_n 47 0 cx dX12_filledAs_46 rfl rfl rfl ?_
      refine v_getI 50 0 27 cx dX12_filledAs_47 iX12 (wMo_0 E st) rfl (Nat.le_of_ble_eq_true rfl) rfl kf_X12_121 rfl rfl h (fun v7 h => ?_)
      refine v_irem 51 cx dX12_filledAs_50 rfl h (fun h => ?_)
      refine v_iload_n 52 2 cx dX12_filledAs_51 rfl rfl rfl ?_
      refine v_icmp_ne 70 55 cx dX12_filledAs_52 (by decide) rfl h (fun h => ?_) (fun h => ?_)
      · refine v_iconst 71 cx dX12_filledAs_70 ic_0 rfl ?_
        refine v_iadd 72 cx dX12_filledAs_71 rfl ?_
        refine v_istore_n 73 (fun a8 => [(3, .int a8), (0, .ref (oX E 0)), (1, .int x1), (2, .int x2), (4, .int x4), (5, .int x5)]) cx dX12_filledAs_72 rfl (by decide) (fun _ => rfl) rfl h (fun a8 h => ?_)
        refine v_iinc 76 5 (fun a9 => [(5, .int a9), (3, .int a8), (0, .ref (oX E 0)), (1, .int x1), (2, .int x2), (4, .int x4)]) cx dX12_filledAs_73 rfl ic_1 (by decide) (fun _ => rfl) rfl h (fun a9 h => ?_)
        refine v_goto 17 cx dX12_filledAs_76 (by decide) ?_
        cases h
        have hk : Vat C (wM E) 6 17 [(0, .ref (oX E 0)), (1, .int x1), (2, .int x2), (3, .int a8), (4, .int x4), (5, .int a9)] [] st := hk
        exact v_lsub (lv' := [(0, .ref (oX E 0)), (1, .int x1), (2, .int x2), (3, .int a8), (4, .int x4), (5, .int a9)]) [2, 3, 4, 1, 5, 0] rfl (hk)
      · refine v_aload_n 56 0 cx dX12_filledAs_55 rfl rfl rfl ?_
        refine v_get 59 0 3 cx dX12_filledAs_56 iX12 (wMo_0 E st) rfl (Nat.le_of_ble_eq_true rfl) rfl kf_X12_19 rfl rfl ?_
        refine v_iload 61 4 cx dX12_filledAs_59 rfl rfl ?_
        refine v_iald 62 4 0 cx dX12_filledAs_61 (wMa_0_3 E st) rfl rfl h (fun v10 h => ?_)
        refine v_iload 64 5 cx dX12_filledAs_62 rfl rfl ?_
        refine v_ishr 65 cx dX12_filledAs_64 rfl ?_
        refine v_iconst 66 cx dX12_filledAs_65 ic_1 rfl ?_
        refine v_iand 67 cx dX12_filledAs_66 rfl ?_
        refine v_goto 71 cx dX12_filledAs_67 (by decide) ?_
        refine v_iadd 72 cx dX12_filledAs_71 rfl ?_
        refine v_istore_n 73 (fun a11 => [(3, .int a11), (0, .ref (oX E 0)), (1, .int x1), (2, .int x2), (4, .int x4), (5, .int x5)]) cx dX12_filledAs_72 rfl (by decide) (fun _ => rfl) rfl h (fun a11 h => ?_)
        refine v_iinc 76 5 (fun a12 => [(5, .int a12), (3, .int a11), (0, .ref (oX E 0)), (1, .int x1), (2, .int x2), (4, .int x4)]) cx dX12_filledAs_73 rfl ic_1 (by decide) (fun _ => rfl) rfl h (fun a12 h => ?_)
        refine v_goto 17 cx dX12_filledAs_76 (by decide) ?_
        cases h
        have hk : Vat C (wM E) 6 17 [(0, .ref (oX E 0)), (1, .int x1), (2, .int x2), (3, .int a11), (4, .int x4), (5, .int a12)] [] st := hk
        exact v_lsub (lv' := [(0, .ref (oX E 0)), (1, .int x1), (2, .int x2), (3, .int a11), (4, .int x4), (5, .int a12)]) [2, 3, 4, 1, 5, 0] rfl (hk)
set_option maxHeartbeats 4000000 in
set_option maxRecDepth 100000 in
theorem b_X12_filledAs_L5 {C : Cm} {E : Ev} (cx : Cx C (tyE E) cX12_filledAs RX12 6 0 0) (x1 : Int32) (x2 : Int32) : ∀ (s : (Int32 × Int32 × Sg)) (out : (Int32 × Int32 × Sg) ⊕ (Int32 × Sg)), m_X12_filledAs_L5 x1 x2 s.1 s.2.1 s.2.2 = some out → Sum.elim (V_X12_filledAs_L5 C E x1 x2) (K_X12_filledAs_L5 C E x1 x2) out → V_X12_filledAs_L5 C E x1 x2 s := by
  intro s out h hk
  obtain ⟨x3, x4, st⟩ := s
  show Vat C (wM E) 6 5 [(0, .ref (oX E 0)), (1, .int x1), (2, .int x2), (3, .int x3), (4, .int x4)] [] st
  replace h : m_X12_filledAs_L5 x1 x2 x3 x4 st = some out := h
  unfold m_X12_filledAs_L5 at h
  refine v_iload 7 4 cx dX12_filledAs_5 rfl rfl ?_
  refine v_aload_n 8 0 cx dX12_filledAs_7 rfl rfl rfl ?_
  refine v_getI 11 0 9 cx dX12_filledAs_8 iX12 (wMo_0 E st) rfl (Nat.le_of_ble_eq_true rfl) rfl kf_X12_118 rfl rfl h (fun v3 h => ?_)
  refine v_icmp_ge 85 14 cx dX12_filledAs_11 (by decide) rfl h (fun h => ?_) (fun h => ?_)
  · cases h
    have hk : Vat C (wM E) 6 85 [(3, .int x3)] [] st := hk
    exact v_lsub (lv' := [(3, .int x3)]) [3] rfl (hk)
  · refine v_iconst 15 cx dX12_filledAs_14 ic_0 rfl ?_
    refine v_istore 17 (fun a4 => [(5, .int a4), (0, .ref (oX E 0)), (1, .int x1), (2, .int x2), (3, .int x3), (4, .int x4)]) cx dX12_filledAs_15 (by decide) (fun _ => rfl) rfl h (fun a4 h => ?_)
    refine v_lsub (lv' := [(0, .ref (oX E 0)), (1, .int x1), (2, .int x2), (3, .int x3), (4, .int x4), (5, .int a4)]) [1, 2, 3, 4, 5, 0] rfl ?_
    refine v_loop (s0 := (x3, a4, st)) (V_X12_filledAs_L17 C E x1 x2 x4) (K_X12_filledAs_L17 C E x1 x2 x4) h (b_X12_filledAs_L17 cx x1 x2 x4) (fun r13 h => ?_)
    show Vat C (wM E) 6 79 [(0, .ref (oX E 0)), (1, .int x1), (2, .int x2), (3, .int r13.1), (4, .int x4)] [] r13.2
    refine v_iinc 82 4 (fun a14 => [(4, .int a14), (0, .ref (oX E 0)), (1, .int x1), (2, .int x2), (3, .int r13.1)]) cx dX12_filledAs_79 rfl ic_1 (by decide) (fun _ => rfl) rfl h (fun a14 h => ?_)
    refine v_goto 5 cx dX12_filledAs_82 (by decide) ?_
    cases h
    have hk : Vat C (wM E) 6 5 [(0, .ref (oX E 0)), (1, .int x1), (2, .int x2), (3, .int r13.1), (4, .int a14)] [] r13.2 := hk
    exact v_lsub (lv' := [(0, .ref (oX E 0)), (1, .int x1), (2, .int x2), (3, .int r13.1), (4, .int a14)]) [1, 2, 3, 4, 0] rfl (hk)
set_option maxHeartbeats 4000000 in
set_option maxRecDepth 100000 in
theorem c_X12_filledAs (l : Launch) (E : Ev) (st : Sg) (p1 : Int32) (p2 : Int32) : ∀ q, m_X12_filledAs p1 p2 st = some q → CtI l (wM E) (tyE E) yX12_filledAs cX12_filledAs 6 (some .int) 0 0 [.ref (oX E 0), .int p1, .int p2] st q := by
  intro q h
  refine ctI_of (lv0 := [(0, .ref (oX E 0)), (1, .int p1), (2, .int p2)]) (by decide) rfl (Nat.le_of_ble_eq_true rfl) (fun C hC cx hk => ?_)
  replace cx : Cx C (tyE E) cX12_filledAs RX12 6 0 0 := cx
  unfold m_X12_filledAs at h
  refine v_iconst 1 cx dX12_filledAs_0 ic_0 rfl ?_
  refine v_istore_n 2 (fun a1 => [(3, .int a1), (0, .ref (oX E 0)), (1, .int p1), (2, .int p2)]) cx dX12_filledAs_1 rfl (by decide) (fun _ => rfl) rfl h (fun a1 h => ?_)
  refine v_iconst 3 cx dX12_filledAs_2 ic_0 rfl ?_
  refine v_istore 5 (fun a2 => [(4, .int a2), (3, .int a1), (0, .ref (oX E 0)), (1, .int p1), (2, .int p2)]) cx dX12_filledAs_3 (by decide) (fun _ => rfl) rfl h (fun a2 h => ?_)
  refine v_lsub (lv' := [(0, .ref (oX E 0)), (1, .int p1), (2, .int p2), (3, .int a1), (4, .int a2)]) [2, 3, 4, 1, 0] rfl ?_
  refine v_loop (s0 := (a1, a2, st)) (V_X12_filledAs_L5 C E p1 p2) (K_X12_filledAs_L5 C E p1 p2) h (b_X12_filledAs_L5 cx p1 p2) (fun r15 h => ?_)
  show Vat C (wM E) 6 85 [(3, .int r15.1)] [] r15.2
  refine v_iload_n 86 0 cx dX12_filledAs_85 rfl rfl rfl ?_
  exact hk _ _ _ _ (Option.some.inj h) dX12_filledAs_86
def V_X12_check_L24 (C : Cm) (E : Ev) (s : (Int32 × Sg)) : Prop := Vat C (wM E) 3 24 [(0, .ref (oX E 0)), (1, .int s.1)] [] s.2
def K_X12_check_L24 (C : Cm) (E : Ev) : (Sg) → Prop := (fun r : (Sg) => Vat C (wM E) 3 151 [(0, .ref (oX E 0))] [] r)
set_option maxHeartbeats 4000000 in
set_option maxRecDepth 100000 in
theorem j_X12_check_81 {C : Cm} {E : Ev} (cx : Cx C (tyE E) cX12_check RX12 3 3 70) (x1 : Int32) (t0 : Int32) (st : Sg) (out : (Int32 × Sg) ⊕ (Sg)) (h : m_X12_check_81 x1 t0 st = some out) (hk : Sum.elim (V_X12_check_L24 C E) (K_X12_check_L24 C E) out) : Vat C (wM E) 3 81 [(0, .ref (oX E 0)), (1, .int x1)] [.int t0] st := by
  unfold m_X12_check_81 at h
  refine v_istore_n 82 (fun a13 => [(2, .int a13), (0, .ref (oX E 0)), (1, .int x1)]) cx dX12_check_81 rfl (by decide) (fun _ => rfl) rfl h (fun a13 h => ?_)
  refine v_iload_n 83 0 cx dX12_check_82 rfl rfl rfl ?_
  refine v_if_ne 145 86 cx dX12_check_83 (by decide) rfl h (fun h => ?_) (fun h => ?_)
  · refine v_iinc 148 2 (fun a14 => [(1, .int a14), (2, .int a13), (0, .ref (oX E 0))]) cx dX12_check_145 rfl ic_1 (by decide) (fun _ => rfl) rfl h (fun a14 h => ?_)
    refine v_goto 24 cx dX12_check_148 (by decide) ?_
    cases h
    have hk : Vat C (wM E) 3 24 [(0, .ref (oX E 0)), (1, .int a14)] [] st := hk
    exact v_lsub (lv' := [(0, .ref (oX E 0)), (1, .int a14)]) [2, 0] rfl (hk)
  · refine v_aload_n 87 1 cx dX12_check_86 rfl rfl rfl ?_
    refine v_iload_n 88 2 cx dX12_check_87 rfl rfl rfl ?_
    refine v_callVI 91 0 cx dX12_check_88 km_X12_243 ca_X12_isAhead (wMo_0 E st) rfl (c_X12_isAhead C.2.1 E st x1 ) rfl (by decide) rfl (Nat.le_of_ble_eq_true rfl) rfl h (fun v16 s15 h => ?_)
    refine v_if_ne 97 94 cx dX12_check_91 (by decide) rfl h (fun h => ?_) (fun h => ?_)
    · refine v_aload_n 98 1 cx dX12_check_97 rfl rfl rfl ?_
      refine v_get 101 0 36 cx dX12_check_98 iX12 (wMo_0 E s15) rfl (Nat.le_of_ble_eq_true rfl) rfl kf_X12_102 rfl rfl ?_
      refine v_iconst 102 cx dX12_check_101 ic_0 rfl ?_
      refine v_aload_n 103 1 cx dX12_check_102 rfl rfl rfl ?_
      refine v_get 106 0 16 cx dX12_check_103 iX12 (wMo_0 E s15) rfl (Nat.le_of_ble_eq_true rfl) rfl kf_X12_53 rfl rfl ?_
      refine v_iload_n 107 2 cx dX12_check_106 rfl rfl rfl ?_
      refine v_iald 108 15 0 cx dX12_check_107 (wMa_0_16 E s15) rfl rfl h (fun v17 h => ?_)
      refine v_iast 109 31 0 cx dX12_check_108 (wMa_0_36 E s15) rfl (wMt_0_36 E s15) rfl h (fun s18 h => ?_)
      refine v_aload_n 110 1 cx dX12_check_109 rfl rfl rfl ?_
      refine v_get 113 0 36 cx dX12_check_110 iX12 (wMo_0 E s18) rfl (Nat.le_of_ble_eq_true rfl) rfl kf_X12_102 rfl rfl ?_
      refine v_iconst 114 cx dX12_check_113 ic_1 rfl ?_
      refine v_aload_n 115 1 cx dX12_check_114 rfl rfl rfl ?_
      refine v_get 118 0 17 cx dX12_check_115 iX12 (wMo_0 E s18) rfl (Nat.le_of_ble_eq_true rfl) rfl kf_X12_56 rfl rfl ?_
      refine v_iload_n 119 2 cx dX12_check_118 rfl rfl rfl ?_
      refine v_iald 120 16 0 cx dX12_check_119 (wMa_0_17 E s18) rfl rfl h (fun v19 h => ?_)
      refine v_iast 121 31 0 cx dX12_check_120 (wMa_0_36 E s18) rfl (wMt_0_36 E s18) rfl h (fun s20 h => ?_)
      refine v_aload_n 122 1 cx dX12_check_121 rfl rfl rfl ?_
      refine v_get 125 0 36 cx dX12_check_122 iX12 (wMo_0 E s20) rfl (Nat.le_of_ble_eq_true rfl) rfl kf_X12_102 rfl rfl ?_
      refine v_iconst 126 cx dX12_check_125 ic_2 rfl ?_
      refine v_aload_n 127 1 cx dX12_check_126 rfl rfl rfl ?_
      refine v_get 130 0 18 cx dX12_check_127 iX12 (wMo_0 E s20) rfl (Nat.le_of_ble_eq_true rfl) rfl kf_X12_59 rfl rfl ?_
      refine v_iload_n 131 2 cx dX12_check_130 rfl rfl rfl ?_
      refine v_iald 132 17 0 cx dX12_check_131 (wMa_0_18 E s20) rfl rfl h (fun v21 h => ?_)
      refine v_iast 133 31 0 cx dX12_check_132 (wMa_0_36 E s20) rfl (wMt_0_36 E s20) rfl h (fun s22 h => ?_)
      refine v_aload_n 134 1 cx dX12_check_133 rfl rfl rfl ?_
      refine v_get 137 0 36 cx dX12_check_134 iX12 (wMo_0 E s22) rfl (Nat.le_of_ble_eq_true rfl) rfl kf_X12_102 rfl rfl ?_
      refine v_iconst 138 cx dX12_check_137 ic_3 rfl ?_
      refine v_aload_n 139 1 cx dX12_check_138 rfl rfl rfl ?_
      refine v_get 142 0 19 cx dX12_check_139 iX12 (wMo_0 E s22) rfl (Nat.le_of_ble_eq_true rfl) rfl kf_X12_62 rfl rfl ?_
      refine v_iload_n 143 2 cx dX12_check_142 rfl rfl rfl ?_
      refine v_iald 144 18 0 cx dX12_check_143 (wMa_0_19 E s22) rfl rfl h (fun v23 h => ?_)
      refine v_iast 145 31 0 cx dX12_check_144 (wMa_0_36 E s22) rfl (wMt_0_36 E s22) rfl h (fun s24 h => ?_)
      refine v_iinc 148 2 (fun a25 => [(1, .int a25), (2, .int a13), (0, .ref (oX E 0))]) cx dX12_check_145 rfl ic_1 (by decide) (fun _ => rfl) rfl h (fun a25 h => ?_)
      refine v_goto 24 cx dX12_check_148 (by decide) ?_
      cases h
      have hk : Vat C (wM E) 3 24 [(0, .ref (oX E 0)), (1, .int a25)] [] s24 := hk
      exact v_lsub (lv' := [(0, .ref (oX E 0)), (1, .int a25)]) [2, 0] rfl (hk)
    · refine v_goto 145 cx dX12_check_94 (by decide) ?_
      refine v_iinc 148 2 (fun a26 => [(1, .int a26), (2, .int a13), (0, .ref (oX E 0))]) cx dX12_check_145 rfl ic_1 (by decide) (fun _ => rfl) rfl h (fun a26 h => ?_)
      refine v_goto 24 cx dX12_check_148 (by decide) ?_
      cases h
      have hk : Vat C (wM E) 3 24 [(0, .ref (oX E 0)), (1, .int a26)] [] s15 := hk
      exact v_lsub (lv' := [(0, .ref (oX E 0)), (1, .int a26)]) [2, 0] rfl (hk)
set_option maxHeartbeats 4000000 in
set_option maxRecDepth 100000 in
theorem b_X12_check_L24 {C : Cm} {E : Ev} (cx : Cx C (tyE E) cX12_check RX12 3 3 70) : ∀ (s : (Int32 × Sg)) (out : (Int32 × Sg) ⊕ (Sg)), m_X12_check_L24 s.1 s.2 = some out → Sum.elim (V_X12_check_L24 C E) (K_X12_check_L24 C E) out → V_X12_check_L24 C E s := by
  intro s out h hk
  obtain ⟨x1, st⟩ := s
  show Vat C (wM E) 3 24 [(0, .ref (oX E 0)), (1, .int x1)] [] st
  replace h : m_X12_check_L24 x1 st = some out := h
  unfold m_X12_check_L24 at h
  refine v_iload_n 25 1 cx dX12_check_24 rfl rfl rfl ?_
  refine v_aload_n 26 0 cx dX12_check_25 rfl rfl rfl ?_
  refine v_getI 29 0 20 cx dX12_check_26 iX12 (wMo_0 E st) rfl (Nat.le_of_ble_eq_true rfl) rfl kf_X12_180 rfl rfl h (fun v5 h => ?_)
  refine v_icmp_ge 151 32 cx dX12_check_29 (by decide) rfl h (fun h => ?_) (fun h => ?_)
  · cases h
    have hk : Vat C (wM E) 3 151 [(0, .ref (oX E 0))] [] st := hk
    exact v_lsub (lv' := [(0, .ref (oX E 0))]) [0] rfl (hk)
  · refine v_aload_n 33 0 cx dX12_check_32 rfl rfl rfl ?_
    refine v_get 36 0 31 cx dX12_check_33 iX12 (wMo_0 E st) rfl (Nat.le_of_ble_eq_true rfl) rfl kf_X12_90 rfl rfl ?_
    refine v_aload_n 37 0 cx dX12_check_36 rfl rfl rfl ?_
    refine v_get 40 0 17 cx dX12_check_37 iX12 (wMo_0 E st) rfl (Nat.le_of_ble_eq_true rfl) rfl kf_X12_56 rfl rfl ?_
    refine v_iload_n 41 1 cx dX12_check_40 rfl rfl rfl ?_
    refine v_iald 42 16 0 cx dX12_check_41 (wMa_0_17 E st) rfl rfl h (fun v6 h => ?_)
    refine v_iald 43 27 0 cx dX12_check_42 (wMa_0_31 E st) rfl rfl h (fun v7 h => ?_)
    refine v_aload_n 44 0 cx dX12_check_43 rfl rfl rfl ?_
    refine v_getI 47 0 27 cx dX12_check_44 iX12 (wMo_0 E st) rfl (Nat.le_of_ble_eq_true rfl) rfl kf_X12_121 rfl rfl h (fun v8 h => ?_)
    refine v_aload_n 48 0 cx dX12_check_47 rfl rfl rfl ?_
    refine v_get 51 0 19 cx dX12_check_48 iX12 (wMo_0 E st) rfl (Nat.le_of_ble_eq_true rfl) rfl kf_X12_62 rfl rfl ?_
    refine v_iload_n 52 1 cx dX12_check_51 rfl rfl rfl ?_
    refine v_iald 53 18 0 cx dX12_check_52 (wMa_0_19 E st) rfl rfl h (fun v9 h => ?_)
    refine v_imul 54 cx dX12_check_53 rfl ?_
    refine v_iadd 55 cx dX12_check_54 rfl ?_
    refine v_aload_n 56 0 cx dX12_check_55 rfl rfl rfl ?_
    refine v_get 59 0 31 cx dX12_check_56 iX12 (wMo_0 E st) rfl (Nat.le_of_ble_eq_true rfl) rfl kf_X12_90 rfl rfl ?_
    refine v_aload_n 60 0 cx dX12_check_59 rfl rfl rfl ?_
    refine v_get 63 0 16 cx dX12_check_60 iX12 (wMo_0 E st) rfl (Nat.le_of_ble_eq_true rfl) rfl kf_X12_53 rfl rfl ?_
    refine v_iload_n 64 1 cx dX12_check_63 rfl rfl rfl ?_
    refine v_iald 65 15 0 cx dX12_check_64 (wMa_0_16 E st) rfl rfl h (fun v10 h => ?_)
    refine v_iald 66 27 0 cx dX12_check_65 (wMa_0_31 E st) rfl rfl h (fun v11 h => ?_)
    refine v_aload_n 67 0 cx dX12_check_66 rfl rfl rfl ?_
    refine v_get 70 0 18 cx dX12_check_67 iX12 (wMo_0 E st) rfl (Nat.le_of_ble_eq_true rfl) rfl kf_X12_59 rfl rfl ?_
    refine v_iload_n 71 1 cx dX12_check_70 rfl rfl rfl ?_
    refine v_iald 72 17 0 cx dX12_check_71 (wMa_0_18 E st) rfl rfl h (fun v12 h => ?_)
    refine v_iadd 73 cx dX12_check_72 rfl ?_
    refine v_icmp_lt 80 76 cx dX12_check_73 (by decide) rfl h (fun h => ?_) (fun h => ?_)
    · refine v_iconst 81 cx dX12_check_80 ic_0 rfl ?_
      exact j_X12_check_81 cx x1 0 st _ h hk
    · refine v_iconst 77 cx dX12_check_76 ic_1 rfl ?_
      refine v_goto 81 cx dX12_check_77 (by decide) ?_
      exact j_X12_check_81 cx x1 1 st _ h hk
def V_X12_check_L164 (C : Cm) (E : Ev) (s : (Int32 × Sg)) : Prop := Vat C (wM E) 3 164 [(0, .ref (oX E 0)), (1, .int s.1)] [] s.2
def K_X12_check_L164 (C : Cm) (E : Ev) : ((Sg) ⊕ (Int32 × Int32 × Sg)) → Prop := (Sum.elim (fun r : (Sg) => Vat C (wM E) 3 226 [] [] r) (fun r : (Int32 × Int32 × Sg) => Vat C (wM E) 3 198 [(0, .ref (oX E 0)), (1, .int r.1), (2, .int r.2.1)] [] r.2.2))
def V_X12_check_L172 (C : Cm) (E : Ev) (x1 : Int32) (s : (Int32 × Sg)) : Prop := Vat C (wM E) 3 172 [(0, .ref (oX E 0)), (1, .int x1), (2, .int s.1)] [] s.2
def K_X12_check_L172 (C : Cm) (E : Ev) (x1 : Int32) : ((Sg) ⊕ (Int32 × Sg)) → Prop := (Sum.elim (fun r : (Sg) => Vat C (wM E) 3 220 [(0, .ref (oX E 0)), (1, .int x1)] [] r) (fun r : (Int32 × Sg) => Vat C (wM E) 3 198 [(0, .ref (oX E 0)), (1, .int x1), (2, .int r.1)] [] r.2))
set_option maxHeartbeats 4000000 in
set_option maxRecDepth 100000 in
theorem b_X12_check_L172 {C : Cm} {E : Ev} (cx : Cx C (tyE E) cX12_check RX12 3 3 70) (x1 : Int32) : ∀ (s : (Int32 × Sg)) (out : (Int32 × Sg) ⊕ ((Sg) ⊕ (Int32 × Sg))), m_X12_check_L172 x1 s.1 s.2 = some out → Sum.elim (V_X12_check_L172 C E x1) (K_X12_check_L172 C E x1) out → V_X12_check_L172 C E x1 s := by
  intro s out h hk
  obtain ⟨x2, st⟩ := s
  show Vat C (wM E) 3 172 [(0, .ref (oX E 0)), (1, .int x1), (2, .int x2)] [] st
  replace h : m_X12_check_L172 x1 x2 st = some out := h
  unfold m_X12_check_L172 at h
  refine v_iload_n 173 2 cx dX12_check_172 rfl rfl rfl ?_
  refine v_aload_n 174 0 cx dX12_check_173 rfl rfl rfl ?_
  refine v_getI 177 0 27 cx dX12_check_174 iX12 (wMo_0 E st) rfl (Nat.le_of_ble_eq_true rfl) rfl kf_X12_121 rfl rfl h (fun v31 h => ?_)
  refine v_icmp_ge 220 180 cx dX12_check_177 (by decide) rfl h (fun h => ?_) (fun h => ?_)
  · cases h
    have hk : Vat C (wM E) 3 220 [(0, .ref (oX E 0)), (1, .int x1)] [] st := hk
    exact v_lsub (lv' := [(0, .ref (oX E 0)), (1, .int x1)]) [0, 1] rfl (hk)
  · refine v_aload_n 181 0 cx dX12_check_180 rfl rfl rfl ?_
    refine v_iload_n 182 1 cx dX12_check_181 rfl rfl rfl ?_
    refine v_iload_n 183 2 cx dX12_check_182 rfl rfl rfl ?_
    refine v_callVI 186 0 cx dX12_check_183 km_X12_246 ca_X12_filledAs (wMo_0 E st) rfl (c_X12_filledAs C.2.1 E st x1 x2 ) rfl (by decide) rfl (Nat.le_of_ble_eq_true rfl) rfl h (fun v33 s32 h => ?_)
    refine v_aload_n 187 0 cx dX12_check_186 rfl rfl rfl ?_
    refine v_get 190 0 10 cx dX12_check_187 iX12 (wMo_0 E s32) rfl (Nat.le_of_ble_eq_true rfl) rfl kf_X12_38 rfl rfl ?_
    refine v_iload_n 191 1 cx dX12_check_190 rfl rfl rfl ?_
    refine v_iald 192 10 0 cx dX12_check_191 (wMa_0_10 E s32) rfl rfl h (fun v34 h => ?_)
    refine v_icmp_gt 198 195 cx dX12_check_192 (by decide) rfl h (fun h => ?_) (fun h => ?_)
    · cases h
      have hk : Vat C (wM E) 3 198 [(0, .ref (oX E 0)), (1, .int x1), (2, .int x2)] [] s32 := hk
      exact hk
    · refine v_goto 214 cx dX12_check_195 (by decide) ?_
      refine v_iinc 217 2 (fun a35 => [(2, .int a35), (0, .ref (oX E 0)), (1, .int x1)]) cx dX12_check_214 rfl ic_1 (by decide) (fun _ => rfl) rfl h (fun a35 h => ?_)
      refine v_goto 172 cx dX12_check_217 (by decide) ?_
      cases h
      have hk : Vat C (wM E) 3 172 [(0, .ref (oX E 0)), (1, .int x1), (2, .int a35)] [] s32 := hk
      exact v_lsub (lv' := [(0, .ref (oX E 0)), (1, .int x1), (2, .int a35)]) [1, 2, 0] rfl (hk)
set_option maxHeartbeats 4000000 in
set_option maxRecDepth 100000 in
theorem b_X12_check_L164 {C : Cm} {E : Ev} (cx : Cx C (tyE E) cX12_check RX12 3 3 70) : ∀ (s : (Int32 × Sg)) (out : (Int32 × Sg) ⊕ ((Sg) ⊕ (Int32 × Int32 × Sg))), m_X12_check_L164 s.1 s.2 = some out → Sum.elim (V_X12_check_L164 C E) (K_X12_check_L164 C E) out → V_X12_check_L164 C E s := by
  intro s out h hk
  obtain ⟨x1, st⟩ := s
  show Vat C (wM E) 3 164 [(0, .ref (oX E 0)), (1, .int x1)] [] st
  replace h : m_X12_check_L164 x1 st = some out := h
  unfold m_X12_check_L164 at h
  refine v_iload_n 165 1 cx dX12_check_164 rfl rfl rfl ?_
  refine v_bipush 167 cx dX12_check_165 bp_6 rfl ?_
  refine v_icmp_ge 226 170 cx dX12_check_167 (by decide) rfl h (fun h => ?_) (fun h => ?_)
  · cases h
    have hk : Vat C (wM E) 3 226 [] [] st := hk
    exact v_lsub (lv' := []) [] rfl (hk)
  · refine v_iconst 171 cx dX12_check_170 ic_0 rfl ?_
    refine v_istore_n 172 (fun a30 => [(2, .int a30), (0, .ref (oX E 0)), (1, .int x1)]) cx dX12_check_171 rfl (by decide) (fun _ => rfl) rfl h (fun a30 h => ?_)
    refine v_lsub (lv' := [(0, .ref (oX E 0)), (1, .int x1), (2, .int a30)]) [1, 2, 0] rfl ?_
    refine v_loop (s0 := (a30, st)) (V_X12_check_L172 C E x1) (K_X12_check_L172 C E x1) h (b_X12_check_L172 cx x1) (fun r36 h => ?_)
    rcases r36 with r36 | r36
    · rw [Sum.elim_inl] at h
      show Vat C (wM E) 3 220 [(0, .ref (oX E 0)), (1, .int x1)] [] r36
      refine v_iinc 223 1 (fun a37 => [(1, .int a37), (0, .ref (oX E 0))]) cx dX12_check_220 rfl ic_1 (by decide) (fun _ => rfl) rfl h (fun a37 h => ?_)
      refine v_goto 164 cx dX12_check_223 (by decide) ?_
      cases h
      have hk : Vat C (wM E) 3 164 [(0, .ref (oX E 0)), (1, .int a37)] [] r36 := hk
      exact v_lsub (lv' := [(0, .ref (oX E 0)), (1, .int a37)]) [1, 0] rfl (hk)
    · rw [Sum.elim_inr] at h
      show Vat C (wM E) 3 198 [(0, .ref (oX E 0)), (1, .int x1), (2, .int r36.1)] [] r36.2
      cases h
      have hk : Vat C (wM E) 3 198 [(0, .ref (oX E 0)), (1, .int x1), (2, .int r36.1)] [] r36.2 := hk
      exact hk
set_option maxHeartbeats 4000000 in
set_option maxRecDepth 100000 in
theorem c_X12_check (l : Launch) (E : Ev) (st : Sg) : ∀ q, m_X12_check st = some q → CtI l (wM E) (tyE E) yX12_check cX12_check 3 (some .int) 3 70 [.ref (oX E 0)] st q := by
  intro q h
  refine ctI_of (lv0 := [(0, .ref (oX E 0))]) (by decide) rfl (Nat.le_of_ble_eq_true rfl) (fun C hC cx hk => ?_)
  replace cx : Cx C (tyE E) cX12_check RX12 3 3 70 := cx
  unfold m_X12_check at h
  refine v_aload_n 1 0 cx dX12_check_0 rfl rfl rfl ?_
  refine v_getI 4 0 27 cx dX12_check_1 iX12 (wMo_0 E st) rfl (Nat.le_of_ble_eq_true rfl) rfl kf_X12_121 rfl rfl h (fun v1 h => ?_)
  refine v_if_ne 14 7 cx dX12_check_4 (by decide) rfl h (fun h => ?_) (fun h => ?_)
  · refine v_aload_n 15 0 cx dX12_check_14 rfl rfl rfl ?_
    refine v_callVV 18 0 cx dX12_check_15 km_X12_111 ca_X12_unwrong (wMo_0 E st) rfl (c_X12_unwrong C.2.1 E st ) rfl (by decide) rfl (Nat.le_of_ble_eq_true rfl) rfl h (fun _ s2 h => ?_)
    refine v_aload_n 19 0 cx dX12_check_18 rfl rfl rfl ?_
    refine v_callVV 22 0 cx dX12_check_19 km_X12_177 ca_X12_gather (wMo_0 E s2) rfl (c_X12_gather C.2.1 E s2 ) rfl (by decide) rfl (Nat.le_of_ble_eq_true rfl) rfl h (fun _ s3 h => ?_)
    refine v_iconst 23 cx dX12_check_22 ic_0 rfl ?_
    refine v_istore_n 24 (fun a4 => [(1, .int a4), (0, .ref (oX E 0))]) cx dX12_check_23 rfl (by decide) (fun _ => rfl) rfl h (fun a4 h => ?_)
    refine v_lsub (lv' := [(0, .ref (oX E 0)), (1, .int a4)]) [1, 0] rfl ?_
    refine v_loop (s0 := (a4, s3)) (V_X12_check_L24 C E) (K_X12_check_L24 C E) h (b_X12_check_L24 cx) (fun r27 h => ?_)
    show Vat C (wM E) 3 151 [(0, .ref (oX E 0))] [] r27
    refine v_aload_n 152 0 cx dX12_check_151 rfl rfl rfl ?_
    refine v_get 155 0 36 cx dX12_check_152 iX12 (wMo_0 E r27) rfl (Nat.le_of_ble_eq_true rfl) rfl kf_X12_102 rfl rfl ?_
    refine v_iconst 156 cx dX12_check_155 ic_1 rfl ?_
    refine v_iald 157 31 0 cx dX12_check_156 (wMa_0_36 E r27) rfl rfl h (fun v28 h => ?_)
    refine v_if_lt 162 160 cx dX12_check_157 (by decide) rfl h (fun h => ?_) (fun h => ?_)
    · refine v_iconst 163 cx dX12_check_162 ic_0 rfl ?_
      refine v_istore_n 164 (fun a29 => [(1, .int a29), (0, .ref (oX E 0))]) cx dX12_check_163 rfl (by decide) (fun _ => rfl) rfl h (fun a29 h => ?_)
      refine v_lsub (lv' := [(0, .ref (oX E 0)), (1, .int a29)]) [1, 0] rfl ?_
      refine v_loop (s0 := (a29, r27)) (V_X12_check_L164 C E) (K_X12_check_L164 C E) h (b_X12_check_L164 cx) (fun r38 h => ?_)
      rcases r38 with r38 | r38
      · rw [Sum.elim_inl] at h
        show Vat C (wM E) 3 226 [] [] r38
        refine v_iconst 227 cx dX12_check_226 ic_0 rfl ?_
        exact hk _ _ _ _ (Option.some.inj h) dX12_check_227
      · rw [Sum.elim_inr] at h
        show Vat C (wM E) 3 198 [(0, .ref (oX E 0)), (1, .int r38.1), (2, .int r38.2.1)] [] r38.2.2
        refine v_aload_n 199 0 cx dX12_check_198 rfl rfl rfl ?_
        refine v_get 202 0 36 cx dX12_check_199 iX12 (wMo_0 E r38.2.2) rfl (Nat.le_of_ble_eq_true rfl) rfl kf_X12_102 rfl rfl ?_
        refine v_iconst 203 cx dX12_check_202 ic_4 rfl ?_
        refine v_iload_n 204 1 cx dX12_check_203 rfl rfl rfl ?_
        refine v_iast 205 31 0 cx dX12_check_204 (wMa_0_36 E r38.2.2) rfl (wMt_0_36 E r38.2.2) rfl h (fun s39 h => ?_)
        refine v_aload_n 206 0 cx dX12_check_205 rfl rfl rfl ?_
        refine v_get 209 0 36 cx dX12_check_206 iX12 (wMo_0 E s39) rfl (Nat.le_of_ble_eq_true rfl) rfl kf_X12_102 rfl rfl ?_
        refine v_iconst 210 cx dX12_check_209 ic_5 rfl ?_
        refine v_iload_n 211 2 cx dX12_check_210 rfl rfl rfl ?_
        refine v_iast 212 31 0 cx dX12_check_211 (wMa_0_36 E s39) rfl (wMt_0_36 E s39) rfl h (fun s40 h => ?_)
        refine v_iconst 213 cx dX12_check_212 ic_2 rfl ?_
        exact hk _ _ _ _ (Option.some.inj h) dX12_check_213
    · refine v_iconst 161 cx dX12_check_160 ic_1 rfl ?_
      exact hk _ _ _ _ (Option.some.inj h) dX12_check_161
  · refine v_aload_n 8 0 cx dX12_check_7 rfl rfl rfl ?_
    refine v_bipush 10 cx dX12_check_8 bp_m2 rfl ?_
    refine v_callVI 13 0 cx dX12_check_10 km_X12_124 ca_X12_no (wMo_0 E st) rfl (c_X12_no C.2.1 E st (-2) ) rfl (by decide) rfl (Nat.le_of_ble_eq_true rfl) rfl h (fun v42 s41 h => ?_)
    exact hk _ _ _ _ (Option.some.inj h) dX12_check_13
def V_X12_whole_L2 (C : Cm) (E : Ev) (s : (Int32 × Sg)) : Prop := Vat C (wM E) 2 2 [(0, .ref (oX E 0)), (1, .int s.1)] [] s.2
def K_X12_whole_L2 (C : Cm) (E : Ev) : ((Sg) ⊕ (Sg)) → Prop := (Sum.elim (fun r : (Sg) => Vat C (wM E) 2 33 [] [] r) (fun r : (Sg) => Vat C (wM E) 2 25 [] [] r))
set_option maxHeartbeats 4000000 in
set_option maxRecDepth 100000 in
theorem b_X12_whole_L2 {C : Cm} {E : Ev} (cx : Cx C (tyE E) cX12_whole RX12 2 0 0) : ∀ (s : (Int32 × Sg)) (out : (Int32 × Sg) ⊕ ((Sg) ⊕ (Sg))), m_X12_whole_L2 s.1 s.2 = some out → Sum.elim (V_X12_whole_L2 C E) (K_X12_whole_L2 C E) out → V_X12_whole_L2 C E s := by
  intro s out h hk
  obtain ⟨x1, st⟩ := s
  show Vat C (wM E) 2 2 [(0, .ref (oX E 0)), (1, .int x1)] [] st
  replace h : m_X12_whole_L2 x1 st = some out := h
  unfold m_X12_whole_L2 at h
  refine v_iload_n 3 1 cx dX12_whole_2 rfl rfl rfl ?_
  refine v_iconst 4 cx dX12_whole_3 ic_3 rfl ?_
  refine v_aload_n 5 0 cx dX12_whole_4 rfl rfl rfl ?_
  refine v_getI 8 0 9 cx dX12_whole_5 iX12 (wMo_0 E st) rfl (Nat.le_of_ble_eq_true rfl) rfl kf_X12_118 rfl rfl h (fun v2 h => ?_)
  refine v_imul 9 cx dX12_whole_8 rfl ?_
  refine v_icmp_ge 33 12 cx dX12_whole_9 (by decide) rfl h (fun h => ?_) (fun h => ?_)
  · cases h
    have hk : Vat C (wM E) 2 33 [] [] st := hk
    exact v_lsub (lv' := []) [] rfl (hk)
  · refine v_aload_n 13 0 cx dX12_whole_12 rfl rfl rfl ?_
    refine v_get 16 0 5 cx dX12_whole_13 iX12 (wMo_0 E st) rfl (Nat.le_of_ble_eq_true rfl) rfl kf_X12_25 rfl rfl ?_
    refine v_iload_n 17 1 cx dX12_whole_16 rfl rfl rfl ?_
    refine v_iald 18 6 0 cx dX12_whole_17 (wMa_0_5 E st) rfl rfl h (fun v3 h => ?_)
    refine v_aload_n 19 0 cx dX12_whole_18 rfl rfl rfl ?_
    refine v_getI 22 0 9 cx dX12_whole_19 iX12 (wMo_0 E st) rfl (Nat.le_of_ble_eq_true rfl) rfl kf_X12_118 rfl rfl h (fun v4 h => ?_)
    refine v_icmp_lt 27 25 cx dX12_whole_22 (by decide) rfl h (fun h => ?_) (fun h => ?_)
    · refine v_iinc 30 1 (fun a5 => [(1, .int a5), (0, .ref (oX E 0))]) cx dX12_whole_27 rfl ic_1 (by decide) (fun _ => rfl) rfl h (fun a5 h => ?_)
      refine v_goto 2 cx dX12_whole_30 (by decide) ?_
      cases h
      have hk : Vat C (wM E) 2 2 [(0, .ref (oX E 0)), (1, .int a5)] [] st := hk
      exact v_lsub (lv' := [(0, .ref (oX E 0)), (1, .int a5)]) [1, 0] rfl (hk)
    · cases h
      have hk : Vat C (wM E) 2 25 [] [] st := hk
      exact v_lsub (lv' := []) [] rfl (hk)
set_option maxHeartbeats 4000000 in
set_option maxRecDepth 100000 in
theorem c_X12_whole (l : Launch) (E : Ev) (st : Sg) : ∀ q, m_X12_whole st = some q → CtI l (wM E) (tyE E) yX12_whole cX12_whole 2 (some .int) 0 0 [.ref (oX E 0)] st q := by
  intro q h
  refine ctI_of (lv0 := [(0, .ref (oX E 0))]) (by decide) rfl (Nat.le_of_ble_eq_true rfl) (fun C hC cx hk => ?_)
  replace cx : Cx C (tyE E) cX12_whole RX12 2 0 0 := cx
  unfold m_X12_whole at h
  refine v_iconst 1 cx dX12_whole_0 ic_0 rfl ?_
  refine v_istore_n 2 (fun a1 => [(1, .int a1), (0, .ref (oX E 0))]) cx dX12_whole_1 rfl (by decide) (fun _ => rfl) rfl h (fun a1 h => ?_)
  refine v_lsub (lv' := [(0, .ref (oX E 0)), (1, .int a1)]) [1, 0] rfl ?_
  refine v_loop (s0 := (a1, st)) (V_X12_whole_L2 C E) (K_X12_whole_L2 C E) h (b_X12_whole_L2 cx) (fun r6 h => ?_)
  rcases r6 with r6 | r6
  · rw [Sum.elim_inl] at h
    show Vat C (wM E) 2 33 [] [] r6
    refine v_iconst 34 cx dX12_whole_33 ic_1 rfl ?_
    exact hk _ _ _ _ (Option.some.inj h) dX12_whole_34
  · rw [Sum.elim_inr] at h
    show Vat C (wM E) 2 25 [] [] r6
    refine v_iconst 26 cx dX12_whole_25 ic_0 rfl ?_
    exact hk _ _ _ _ (Option.some.inj h) dX12_whole_26
set_option maxHeartbeats 4000000 in
set_option maxRecDepth 100000 in
theorem c_X12_isReady (l : Launch) (E : Ev) (st : Sg) : ∀ q, m_X12_isReady st = some q → CtI l (wM E) (tyE E) yX12_isReady cX12_isReady 1 (some .boolean) 1 21 [.ref (oX E 0)] st q := by
  intro q h
  refine ctZ_of (lv0 := [(0, .ref (oX E 0))]) (by decide) rfl (Nat.le_of_ble_eq_true rfl) (fun C hC cx hk => ?_)
  replace cx : Cx C (tyE E) cX12_isReady RX12 1 1 21 := cx
  unfold m_X12_isReady at h
  refine v_aload_n 1 0 cx dX12_isReady_0 rfl rfl rfl ?_
  refine v_getI 4 0 9 cx dX12_isReady_1 iX12 (wMo_0 E st) rfl (Nat.le_of_ble_eq_true rfl) rfl kf_X12_118 rfl rfl h (fun v1 h => ?_)
  refine v_if_le 19 7 cx dX12_isReady_4 (by decide) rfl h (fun h => ?_) (fun h => ?_)
  · refine v_iconst 20 cx dX12_isReady_19 ic_0 rfl ?_
    exact hk _ _ _ _ (Option.some.inj h) (Or.inl rfl) dX12_isReady_20
  · refine v_aload_n 8 0 cx dX12_isReady_7 rfl rfl rfl ?_
    refine v_callVI 11 0 cx dX12_isReady_8 km_X12_200 ca_X12_whole (wMo_0 E st) rfl (c_X12_whole C.2.1 E st ) rfl (by decide) rfl (Nat.le_of_ble_eq_true rfl) rfl h (fun v3 s2 h => ?_)
    refine v_iconst 12 cx dX12_isReady_11 ic_1 rfl ?_
    refine v_icmp_ne 19 15 cx dX12_isReady_12 (by decide) rfl h (fun h => ?_) (fun h => ?_)
    · refine v_iconst 20 cx dX12_isReady_19 ic_0 rfl ?_
      exact hk _ _ _ _ (Option.some.inj h) (Or.inl rfl) dX12_isReady_20
    · refine v_iconst 16 cx dX12_isReady_15 ic_1 rfl ?_
      refine v_goto 20 cx dX12_isReady_16 (by decide) ?_
      exact hk _ _ _ _ (Option.some.inj h) (Or.inr rfl) dX12_isReady_20
set_option maxHeartbeats 4000000 in
set_option maxRecDepth 100000 in
theorem j_X12_whyNoRun_21 {C : Cm} {E : Ev} (cx : Cx C (tyE E) cX12_whyNoRun RX12 3 2 41) (x1 : Int32) (st : Sg) (out : Int32 × Sg) (h : m_X12_whyNoRun_21 x1 st = some out) (hk : ReI C (wM E) cX12_whyNoRun 3 out) : Vat C (wM E) 3 21 [(1, .int x1)] [] st := by
  unfold m_X12_whyNoRun_21 at h
  refine v_iload_n 22 0 cx dX12_whyNoRun_21 rfl rfl rfl ?_
  refine v_if_ge 28 25 cx dX12_whyNoRun_22 (by decide) rfl h (fun h => ?_) (fun h => ?_)
  · refine v_iload_n 29 0 cx dX12_whyNoRun_28 rfl rfl rfl ?_
    refine v_sipush 32 cx dX12_whyNoRun_29 sp_200 rfl ?_
    refine v_icmp_le 40 35 cx dX12_whyNoRun_32 (by decide) rfl h (fun h => ?_) (fun h => ?_)
    · refine v_iconst 41 cx dX12_whyNoRun_40 ic_0 rfl ?_
      exact hk _ _ _ _ (Option.some.inj h) dX12_whyNoRun_41
    · refine v_bipush 37 cx dX12_whyNoRun_35 bp_m9 rfl ?_
      refine v_goto 41 cx dX12_whyNoRun_37 (by decide) ?_
      exact hk _ _ _ _ (Option.some.inj h) dX12_whyNoRun_41
  · refine v_bipush 27 cx dX12_whyNoRun_25 bp_m4 rfl ?_
    exact hk _ _ _ _ (Option.some.inj h) dX12_whyNoRun_27
set_option maxHeartbeats 4000000 in
set_option maxRecDepth 100000 in
theorem c_X12_whyNoRun (l : Launch) (E : Ev) (st : Sg) (p1 : Int32) (p2 : Int32) : ∀ q, m_X12_whyNoRun p1 p2 st = some q → CtI l (wM E) (tyE E) yX12_whyNoRun cX12_whyNoRun 3 (some .int) 2 41 [.ref (oX E 0), .int p1, .int p2] st q := by
  intro q h
  refine ctI_of (lv0 := [(0, .ref (oX E 0)), (1, .int p1), (2, .int p2)]) (by decide) rfl (Nat.le_of_ble_eq_true rfl) (fun C hC cx hk => ?_)
  replace cx : Cx C (tyE E) cX12_whyNoRun RX12 3 2 41 := cx
  unfold m_X12_whyNoRun at h
  refine v_aload_n 1 0 cx dX12_whyNoRun_0 rfl rfl rfl ?_
  refine v_callVI 4 0 cx dX12_whyNoRun_1 km_X12_210 ca_X12_isReady (wMo_0 E st) rfl (c_X12_isReady C.2.1 E st ) rfl (by decide) rfl (Nat.le_of_ble_eq_true rfl) rfl h (fun v2 s1 h => ?_)
  refine v_if_eq 18 7 cx dX12_whyNoRun_4 (by decide) rfl h (fun h => ?_) (fun h => ?_)
  · refine v_bipush 20 cx dX12_whyNoRun_18 bp_m2 rfl ?_
    exact hk _ _ _ _ (Option.some.inj h) dX12_whyNoRun_20
  · refine v_iload_n 8 2 cx dX12_whyNoRun_7 rfl rfl rfl ?_
    refine v_if_eq 21 11 cx dX12_whyNoRun_8 (by decide) rfl h (fun h => ?_) (fun h => ?_)
    · exact v_lsub (lv' := [(1, .int p1)]) [1] rfl (j_X12_whyNoRun_21 cx p1 s1 _ h hk)
    · refine v_aload_n 12 0 cx dX12_whyNoRun_11 rfl rfl rfl ?_
      refine v_getI 15 0 27 cx dX12_whyNoRun_12 iX12 (wMo_0 E s1) rfl (Nat.le_of_ble_eq_true rfl) rfl kf_X12_121 rfl rfl h (fun v3 h => ?_)
      refine v_if_ne 21 18 cx dX12_whyNoRun_15 (by decide) rfl h (fun h => ?_) (fun h => ?_)
      · exact v_lsub (lv' := [(1, .int p1)]) [1] rfl (j_X12_whyNoRun_21 cx p1 s1 _ h hk)
      · refine v_bipush 20 cx dX12_whyNoRun_18 bp_m2 rfl ?_
        exact hk _ _ _ _ (Option.some.inj h) dX12_whyNoRun_20
set_option maxHeartbeats 4000000 in
set_option maxRecDepth 100000 in
theorem c_X12_compare (l : Launch) (E : Ev) (st : Sg) (p1 : Int32) : ∀ q, m_X12_compare p1 st = some q → CtI l (wM E) (tyE E) yX12_compare cX12_compare 3 (some .int) 3 63 [.ref (oX E 0), .int p1] st q := by
  intro q h
  refine ctI_of (lv0 := [(0, .ref (oX E 0)), (1, .int p1)]) (by decide) rfl (Nat.le_of_ble_eq_true rfl) (fun C hC cx hk => ?_)
  replace cx : Cx C (tyE E) cX12_compare RX12 3 3 63 := cx
  unfold m_X12_compare at h
  refine v_aload_n 1 0 cx dX12_compare_0 rfl rfl rfl ?_
  refine v_iload_n 2 1 cx dX12_compare_1 rfl rfl rfl ?_
  refine v_iconst 3 cx dX12_compare_2 ic_1 rfl ?_
  refine v_callVI 6 0 cx dX12_compare_3 km_X12_286 ca_X12_whyNoRun (wMo_0 E st) rfl (c_X12_whyNoRun C.2.1 E st p1 1 ) rfl (by decide) rfl (Nat.le_of_ble_eq_true rfl) rfl h (fun v2 s1 h => ?_)
  refine v_istore_n 7 (fun a3 => [(2, .int a3), (0, .ref (oX E 0)), (1, .int p1)]) cx dX12_compare_6 rfl (by decide) (fun _ => rfl) rfl h (fun a3 h => ?_)
  refine v_iload_n 8 0 cx dX12_compare_7 rfl rfl rfl ?_
  refine v_if_eq 19 11 cx dX12_compare_8 (by decide) rfl h (fun h => ?_) (fun h => ?_)
  · refine v_iconst 20 cx dX12_compare_19 ic_1 rfl ?_
    exact hk _ _ _ _ (Option.some.inj h) dX12_compare_20
  · refine v_aload_n 12 1 cx dX12_compare_11 rfl rfl rfl ?_
    refine v_iload_n 13 0 cx dX12_compare_12 rfl rfl rfl ?_
    refine v_callVI 16 0 cx dX12_compare_13 km_X12_124 ca_X12_no (wMo_0 E s1) rfl (c_X12_no C.2.1 E s1 a3 ) rfl (by decide) rfl (Nat.le_of_ble_eq_true rfl) rfl h (fun v5 s4 h => ?_)
    refine v_goto 20 cx dX12_compare_16 (by decide) ?_
    exact hk _ _ _ _ (Option.some.inj h) dX12_compare_20
set_option maxHeartbeats 4000000 in
set_option maxRecDepth 100000 in
theorem c_X12_isSlot (l : Launch) (E : Ev) (st : Sg) (p0 : Int32) : ∀ q, m_X12_isSlot p0 st = some q → CtI l (wM E) (tyE E) yX12_isSlot cX12_isSlot 1 (some .boolean) 0 0 [.int p0] st q := by
  intro q h
  refine ctZ_of (lv0 := [(0, .int p0)]) (by decide) rfl (Nat.le_of_ble_eq_true rfl) (fun C hC cx hk => ?_)
  replace cx : Cx C (tyE E) cX12_isSlot RX12 1 0 0 := cx
  unfold m_X12_isSlot at h
  refine v_iload_n 1 0 cx dX12_isSlot_0 rfl rfl rfl ?_
  refine v_if_lt 14 4 cx dX12_isSlot_1 (by decide) rfl h (fun h => ?_) (fun h => ?_)
  · refine v_iconst 15 cx dX12_isSlot_14 ic_0 rfl ?_
    exact hk _ _ _ _ (Option.some.inj h) (Or.inl rfl) dX12_isSlot_15
  · refine v_iload_n 5 0 cx dX12_isSlot_4 rfl rfl rfl ?_
    refine v_bipush 7 cx dX12_isSlot_5 bp_8 rfl ?_
    refine v_icmp_ge 14 10 cx dX12_isSlot_7 (by decide) rfl h (fun h => ?_) (fun h => ?_)
    · refine v_iconst 15 cx dX12_isSlot_14 ic_0 rfl ?_
      exact hk _ _ _ _ (Option.some.inj h) (Or.inl rfl) dX12_isSlot_15
    · refine v_iconst 11 cx dX12_isSlot_10 ic_1 rfl ?_
      refine v_goto 15 cx dX12_isSlot_11 (by decide) ?_
      exact hk _ _ _ _ (Option.some.inj h) (Or.inr rfl) dX12_isSlot_15
