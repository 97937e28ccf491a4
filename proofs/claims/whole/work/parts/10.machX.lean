-- machine layer (written by gen.py)
set_option maxHeartbeats 4000000 in
set_option maxRecDepth 100000 in
theorem c_J6_bitCount_0f7a4 (l : Launch) (E : Ev) (st : Sg) (p0 : Int32) : ∀ q, m_J6_bitCount_0f7a4 p0 st = some q → CtI l (wX E) (tyE E) yJ6_bitCount_0f7a4 cJ6_bitCount_0f7a4 1 (some .int) 0 0 [.int p0] st q := by
  intro q h
  refine ctI_of (lv0 := [(0, .int p0)]) (by decide) rfl (Nat.le_of_ble_eq_true rfl) (fun C hC cx hk => ?_)
  replace cx : Cx C (tyE E) cJ6_bitCount_0f7a4 RJ6 1 0 0 := cx
  unfold m_J6_bitCount_0f7a4 at h
  refine v_iload_n 1 0 cx dJ6_bitCount_0f7a4_0 rfl rfl rfl ?_
  refine v_iload_n 2 0 cx dJ6_bitCount_0f7a4_1 rfl rfl rfl ?_
  refine v_iconst 3 cx dJ6_bitCount_0f7a4_2 ic_1 rfl ?_
  refine v_iushr 4 cx dJ6_bitCount_0f7a4_3 rfl ?_
  refine v_ldc_w 7 cx dJ6_bitCount_0f7a4_4 kc_J6_265 rfl ?_
  refine v_iand 8 cx dJ6_bitCount_0f7a4_7 rfl ?_
  refine v_isub 9 cx dJ6_bitCount_0f7a4_8 rfl ?_
  refine v_istore_n 10 (fun a1 => [(0, .int a1)]) cx dJ6_bitCount_0f7a4_9 rfl (by decide) (fun _ => rfl) rfl h (fun a1 h => ?_)
  refine v_iload_n 11 0 cx dJ6_bitCount_0f7a4_10 rfl rfl rfl ?_
  refine v_ldc_w 14 cx dJ6_bitCount_0f7a4_11 kc_J6_266 rfl ?_
  refine v_iand 15 cx dJ6_bitCount_0f7a4_14 rfl ?_
  refine v_iload_n 16 0 cx dJ6_bitCount_0f7a4_15 rfl rfl rfl ?_
  refine v_iconst 17 cx dJ6_bitCount_0f7a4_16 ic_2 rfl ?_
  refine v_iushr 18 cx dJ6_bitCount_0f7a4_17 rfl ?_
  refine v_ldc_w 21 cx dJ6_bitCount_0f7a4_18 kc_J6_266 rfl ?_
  refine v_iand 22 cx dJ6_bitCount_0f7a4_21 rfl ?_
  refine v_iadd 23 cx dJ6_bitCount_0f7a4_22 rfl ?_
  refine v_istore_n 24 (fun a2 => [(0, .int a2)]) cx dJ6_bitCount_0f7a4_23 rfl (by decide) (fun _ => rfl) rfl h (fun a2 h => ?_)
  refine v_iload_n 25 0 cx dJ6_bitCount_0f7a4_24 rfl rfl rfl ?_
  refine v_iload_n 26 0 cx dJ6_bitCount_0f7a4_25 rfl rfl rfl ?_
  refine v_iconst 27 cx dJ6_bitCount_0f7a4_26 ic_4 rfl ?_
  refine v_iushr 28 cx dJ6_bitCount_0f7a4_27 rfl ?_
  refine v_iadd 29 cx dJ6_bitCount_0f7a4_28 rfl ?_
  refine v_ldc_w 32 cx dJ6_bitCount_0f7a4_29 kc_J6_267 rfl ?_
  refine v_iand 33 cx dJ6_bitCount_0f7a4_32 rfl ?_
  refine v_istore_n 34 (fun a3 => [(0, .int a3)]) cx dJ6_bitCount_0f7a4_33 rfl (by decide) (fun _ => rfl) rfl h (fun a3 h => ?_)
  refine v_iload_n 35 0 cx dJ6_bitCount_0f7a4_34 rfl rfl rfl ?_
  refine v_iload_n 36 0 cx dJ6_bitCount_0f7a4_35 rfl rfl rfl ?_
  refine v_bipush 38 cx dJ6_bitCount_0f7a4_36 bp_8 rfl ?_
  refine v_iushr 39 cx dJ6_bitCount_0f7a4_38 rfl ?_
  refine v_iadd 40 cx dJ6_bitCount_0f7a4_39 rfl ?_
  refine v_istore_n 41 (fun a4 => [(0, .int a4)]) cx dJ6_bitCount_0f7a4_40 rfl (by decide) (fun _ => rfl) rfl h (fun a4 h => ?_)
  refine v_iload_n 42 0 cx dJ6_bitCount_0f7a4_41 rfl rfl rfl ?_
  refine v_iload_n 43 0 cx dJ6_bitCount_0f7a4_42 rfl rfl rfl ?_
  refine v_bipush 45 cx dJ6_bitCount_0f7a4_43 bp_16 rfl ?_
  refine v_iushr 46 cx dJ6_bitCount_0f7a4_45 rfl ?_
  refine v_iadd 47 cx dJ6_bitCount_0f7a4_46 rfl ?_
  refine v_istore_n 48 (fun a5 => [(0, .int a5)]) cx dJ6_bitCount_0f7a4_47 rfl (by decide) (fun _ => rfl) rfl h (fun a5 h => ?_)
  refine v_iload_n 49 0 cx dJ6_bitCount_0f7a4_48 rfl rfl rfl ?_
  refine v_bipush 51 cx dJ6_bitCount_0f7a4_49 bp_63 rfl ?_
  refine v_iand 52 cx dJ6_bitCount_0f7a4_51 rfl ?_
  exact hk _ _ _ _ (Option.some.inj h) dJ6_bitCount_0f7a4_52
def V_J7_fill_53178_L5_6_0 (C : Cm) (E : Ev) (x1 : Int32) (x3 : Int32) (s : (Int32 × Sg)) : Prop := Vat C (wX E) 4 5 [(0, .ref (aX E 6 0)), (1, .int x1), (2, .int s.1), (3, .int x3)] [] s.2
def K_J7_fill_53178_L5_6_0 (C : Cm) (E : Ev) (x1 : Int32) (x3 : Int32) : (Sg) → Prop := (fun r : (Sg) => Vat C (wX E) 4 20 [] [] r)
set_option maxHeartbeats 4000000 in
set_option maxRecDepth 100000 in
theorem b_J7_fill_53178_L5_6_0 {C : Cm} {E : Ev} (cx : Cx C (tyE E) cJ7_fill_53178 RJ7 4 0 0) (x1 : Int32) (x3 : Int32) : ∀ (s : (Int32 × Sg)) (out : (Int32 × Sg) ⊕ (Sg)), m_J7_fill_53178_L5 6 0 256 x1 x3 s.1 s.2 = some out → Sum.elim (V_J7_fill_53178_L5_6_0 C E x1 x3) (K_J7_fill_53178_L5_6_0 C E x1 x3) out → V_J7_fill_53178_L5_6_0 C E x1 x3 s := by
  intro s out h hk
  obtain ⟨x2, st⟩ := s
  show Vat C (wX E) 4 5 [(0, .ref (aX E 6 0)), (1, .int x1), (2, .int x2), (3, .int x3)] [] st
  replace h : m_J7_fill_53178_L5 6 0 256 x1 x3 x2 st = some out := h
  unfold m_J7_fill_53178_L5 at h
  refine v_iload_n 6 2 cx dJ7_fill_53178_5 rfl rfl rfl ?_
  refine v_iload_n 7 3 cx dJ7_fill_53178_6 rfl rfl rfl ?_
  refine v_icmp_ge 20 10 cx dJ7_fill_53178_7 (by decide) rfl h (fun h => ?_) (fun h => ?_)
  · cases h
    have hk : Vat C (wX E) 4 20 [] [] st := hk
    exact v_lsub (lv' := []) [] rfl (hk)
  · refine v_aload_n 11 0 cx dJ7_fill_53178_10 rfl rfl rfl ?_
    refine v_iload_n 12 2 cx dJ7_fill_53178_11 rfl rfl rfl ?_
    refine v_iload_n 13 1 cx dJ7_fill_53178_12 rfl rfl rfl ?_
    refine v_iast 14 39 0 cx dJ7_fill_53178_13 (wXa_6_0 E st) rfl (wXt_6_0 E st) rfl h (fun s3 h => ?_)
    refine v_iinc 17 2 (fun a4 => [(2, .int a4), (0, .ref (aX E 6 0)), (1, .int x1), (3, .int x3)]) cx dJ7_fill_53178_14 rfl ic_1 (by decide) (fun _ => rfl) rfl h (fun a4 h => ?_)
    refine v_goto 5 cx dJ7_fill_53178_17 (by decide) ?_
    cases h
    have hk : Vat C (wX E) 4 5 [(0, .ref (aX E 6 0)), (1, .int x1), (2, .int a4), (3, .int x3)] [] s3 := hk
    exact v_lsub (lv' := [(0, .ref (aX E 6 0)), (1, .int x1), (2, .int a4), (3, .int x3)]) [1, 2, 0, 3] rfl (hk)
set_option maxHeartbeats 4000000 in
set_option maxRecDepth 100000 in
theorem c_J7_fill_53178_6_0 (l : Launch) (E : Ev) (st : Sg) (p1 : Int32) : ∀ q, m_J7_fill_53178 6 0 256 p1 st = some q → CtV l (wX E) (tyE E) yJ7_fill_53178 cJ7_fill_53178 4 none 0 0 [.ref (aX E 6 0), .int p1] st q := by
  intro q h
  refine ctV_of (lv0 := [(0, .ref (aX E 6 0)), (1, .int p1)]) (by decide) rfl (Nat.le_of_ble_eq_true rfl) (fun C hC cx hk => ?_)
  replace cx : Cx C (tyE E) cJ7_fill_53178 RJ7 4 0 0 := cx
  unfold m_J7_fill_53178 at h
  refine v_iconst 1 cx dJ7_fill_53178_0 ic_0 rfl ?_
  refine v_istore_n 2 (fun a1 => [(2, .int a1), (0, .ref (aX E 6 0)), (1, .int p1)]) cx dJ7_fill_53178_1 rfl (by decide) (fun _ => rfl) rfl h (fun a1 h => ?_)
  refine v_aload_n 3 1 cx dJ7_fill_53178_2 rfl rfl rfl ?_
  refine v_alen 4 39 0 (v := Int32.ofNat 256) cx dJ7_fill_53178_3 (wXa_6_0 E st) rfl rfl rfl ?_
  refine v_istore_n 5 (fun a2 => [(3, .int a2), (2, .int a1), (0, .ref (aX E 6 0)), (1, .int p1)]) cx dJ7_fill_53178_4 rfl (by decide) (fun _ => rfl) rfl h (fun a2 h => ?_)
  refine v_lsub (lv' := [(0, .ref (aX E 6 0)), (1, .int p1), (2, .int a1), (3, .int a2)]) [2, 3, 1, 0] rfl ?_
  refine v_loop (s0 := (a1, st)) (V_J7_fill_53178_L5_6_0 C E p1 a2) (K_J7_fill_53178_L5_6_0 C E p1 a2) h (b_J7_fill_53178_L5_6_0 cx p1 a2) (fun r5 h => ?_)
  show Vat C (wX E) 4 20 [] [] r5
  exact hk _ _ _ _ (Option.some.inj h) dJ7_fill_53178_20
def V_J7_fill_53178_L5_8_0 (C : Cm) (E : Ev) (x1 : Int32) (x3 : Int32) (s : (Int32 × Sg)) : Prop := Vat C (wX E) 4 5 [(0, .ref (aX E 8 0)), (1, .int x1), (2, .int s.1), (3, .int x3)] [] s.2
def K_J7_fill_53178_L5_8_0 (C : Cm) (E : Ev) (x1 : Int32) (x3 : Int32) : (Sg) → Prop := (fun r : (Sg) => Vat C (wX E) 4 20 [] [] r)
set_option maxHeartbeats 4000000 in
set_option maxRecDepth 100000 in
theorem b_J7_fill_53178_L5_8_0 {C : Cm} {E : Ev} (cx : Cx C (tyE E) cJ7_fill_53178 RJ7 4 0 0) (x1 : Int32) (x3 : Int32) : ∀ (s : (Int32 × Sg)) (out : (Int32 × Sg) ⊕ (Sg)), m_J7_fill_53178_L5 8 0 360 x1 x3 s.1 s.2 = some out → Sum.elim (V_J7_fill_53178_L5_8_0 C E x1 x3) (K_J7_fill_53178_L5_8_0 C E x1 x3) out → V_J7_fill_53178_L5_8_0 C E x1 x3 s := by
  intro s out h hk
  obtain ⟨x2, st⟩ := s
  show Vat C (wX E) 4 5 [(0, .ref (aX E 8 0)), (1, .int x1), (2, .int x2), (3, .int x3)] [] st
  replace h : m_J7_fill_53178_L5 8 0 360 x1 x3 x2 st = some out := h
  unfold m_J7_fill_53178_L5 at h
  refine v_iload_n 6 2 cx dJ7_fill_53178_5 rfl rfl rfl ?_
  refine v_iload_n 7 3 cx dJ7_fill_53178_6 rfl rfl rfl ?_
  refine v_icmp_ge 20 10 cx dJ7_fill_53178_7 (by decide) rfl h (fun h => ?_) (fun h => ?_)
  · cases h
    have hk : Vat C (wX E) 4 20 [] [] st := hk
    exact v_lsub (lv' := []) [] rfl (hk)
  · refine v_aload_n 11 0 cx dJ7_fill_53178_10 rfl rfl rfl ?_
    refine v_iload_n 12 2 cx dJ7_fill_53178_11 rfl rfl rfl ?_
    refine v_iload_n 13 1 cx dJ7_fill_53178_12 rfl rfl rfl ?_
    refine v_iast 14 47 0 cx dJ7_fill_53178_13 (wXa_8_0 E st) rfl (wXt_8_0 E st) rfl h (fun s3 h => ?_)
    refine v_iinc 17 2 (fun a4 => [(2, .int a4), (0, .ref (aX E 8 0)), (1, .int x1), (3, .int x3)]) cx dJ7_fill_53178_14 rfl ic_1 (by decide) (fun _ => rfl) rfl h (fun a4 h => ?_)
    refine v_goto 5 cx dJ7_fill_53178_17 (by decide) ?_
    cases h
    have hk : Vat C (wX E) 4 5 [(0, .ref (aX E 8 0)), (1, .int x1), (2, .int a4), (3, .int x3)] [] s3 := hk
    exact v_lsub (lv' := [(0, .ref (aX E 8 0)), (1, .int x1), (2, .int a4), (3, .int x3)]) [1, 2, 0, 3] rfl (hk)
set_option maxHeartbeats 4000000 in
set_option maxRecDepth 100000 in
theorem c_J7_fill_53178_8_0 (l : Launch) (E : Ev) (st : Sg) (p1 : Int32) : ∀ q, m_J7_fill_53178 8 0 360 p1 st = some q → CtV l (wX E) (tyE E) yJ7_fill_53178 cJ7_fill_53178 4 none 0 0 [.ref (aX E 8 0), .int p1] st q := by
  intro q h
  refine ctV_of (lv0 := [(0, .ref (aX E 8 0)), (1, .int p1)]) (by decide) rfl (Nat.le_of_ble_eq_true rfl) (fun C hC cx hk => ?_)
  replace cx : Cx C (tyE E) cJ7_fill_53178 RJ7 4 0 0 := cx
  unfold m_J7_fill_53178 at h
  refine v_iconst 1 cx dJ7_fill_53178_0 ic_0 rfl ?_
  refine v_istore_n 2 (fun a1 => [(2, .int a1), (0, .ref (aX E 8 0)), (1, .int p1)]) cx dJ7_fill_53178_1 rfl (by decide) (fun _ => rfl) rfl h (fun a1 h => ?_)
  refine v_aload_n 3 1 cx dJ7_fill_53178_2 rfl rfl rfl ?_
  refine v_alen 4 47 0 (v := Int32.ofNat 360) cx dJ7_fill_53178_3 (wXa_8_0 E st) rfl rfl rfl ?_
  refine v_istore_n 5 (fun a2 => [(3, .int a2), (2, .int a1), (0, .ref (aX E 8 0)), (1, .int p1)]) cx dJ7_fill_53178_4 rfl (by decide) (fun _ => rfl) rfl h (fun a2 h => ?_)
  refine v_lsub (lv' := [(0, .ref (aX E 8 0)), (1, .int p1), (2, .int a1), (3, .int a2)]) [2, 3, 1, 0] rfl ?_
  refine v_loop (s0 := (a1, st)) (V_J7_fill_53178_L5_8_0 C E p1 a2) (K_J7_fill_53178_L5_8_0 C E p1 a2) h (b_J7_fill_53178_L5_8_0 cx p1 a2) (fun r5 h => ?_)
  show Vat C (wX E) 4 20 [] [] r5
  exact hk _ _ _ _ (Option.some.inj h) dJ7_fill_53178_20
def V_J7_fill_53178_L5_10_0 (C : Cm) (E : Ev) (x1 : Int32) (x3 : Int32) (s : (Int32 × Sg)) : Prop := Vat C (wX E) 4 5 [(0, .ref (aX E 10 0)), (1, .int x1), (2, .int s.1), (3, .int x3)] [] s.2
def K_J7_fill_53178_L5_10_0 (C : Cm) (E : Ev) (x1 : Int32) (x3 : Int32) : (Sg) → Prop := (fun r : (Sg) => Vat C (wX E) 4 20 [] [] r)
set_option maxHeartbeats 4000000 in
set_option maxRecDepth 100000 in
theorem b_J7_fill_53178_L5_10_0 {C : Cm} {E : Ev} (cx : Cx C (tyE E) cJ7_fill_53178 RJ7 4 0 0) (x1 : Int32) (x3 : Int32) : ∀ (s : (Int32 × Sg)) (out : (Int32 × Sg) ⊕ (Sg)), m_J7_fill_53178_L5 10 0 360 x1 x3 s.1 s.2 = some out → Sum.elim (V_J7_fill_53178_L5_10_0 C E x1 x3) (K_J7_fill_53178_L5_10_0 C E x1 x3) out → V_J7_fill_53178_L5_10_0 C E x1 x3 s := by
  intro s out h hk
  obtain ⟨x2, st⟩ := s
  show Vat C (wX E) 4 5 [(0, .ref (aX E 10 0)), (1, .int x1), (2, .int x2), (3, .int x3)] [] st
  replace h : m_J7_fill_53178_L5 10 0 360 x1 x3 x2 st = some out := h
  unfold m_J7_fill_53178_L5 at h
  refine v_iload_n 6 2 cx dJ7_fill_53178_5 rfl rfl rfl ?_
  refine v_iload_n 7 3 cx dJ7_fill_53178_6 rfl rfl rfl ?_
  refine v_icmp_ge 20 10 cx dJ7_fill_53178_7 (by decide) rfl h (fun h => ?_) (fun h => ?_)
  · cases h
    have hk : Vat C (wX E) 4 20 [] [] st := hk
    exact v_lsub (lv' := []) [] rfl (hk)
  · refine v_aload_n 11 0 cx dJ7_fill_53178_10 rfl rfl rfl ?_
    refine v_iload_n 12 2 cx dJ7_fill_53178_11 rfl rfl rfl ?_
    refine v_iload_n 13 1 cx dJ7_fill_53178_12 rfl rfl rfl ?_
    refine v_iast 14 56 0 cx dJ7_fill_53178_13 (wXa_10_0 E st) rfl (wXt_10_0 E st) rfl h (fun s3 h => ?_)
    refine v_iinc 17 2 (fun a4 => [(2, .int a4), (0, .ref (aX E 10 0)), (1, .int x1), (3, .int x3)]) cx dJ7_fill_53178_14 rfl ic_1 (by decide) (fun _ => rfl) rfl h (fun a4 h => ?_)
    refine v_goto 5 cx dJ7_fill_53178_17 (by decide) ?_
    cases h
    have hk : Vat C (wX E) 4 5 [(0, .ref (aX E 10 0)), (1, .int x1), (2, .int a4), (3, .int x3)] [] s3 := hk
    exact v_lsub (lv' := [(0, .ref (aX E 10 0)), (1, .int x1), (2, .int a4), (3, .int x3)]) [1, 2, 0, 3] rfl (hk)
set_option maxHeartbeats 4000000 in
set_option maxRecDepth 100000 in
theorem c_J7_fill_53178_10_0 (l : Launch) (E : Ev) (st : Sg) (p1 : Int32) : ∀ q, m_J7_fill_53178 10 0 360 p1 st = some q → CtV l (wX E) (tyE E) yJ7_fill_53178 cJ7_fill_53178 4 none 0 0 [.ref (aX E 10 0), .int p1] st q := by
  intro q h
  refine ctV_of (lv0 := [(0, .ref (aX E 10 0)), (1, .int p1)]) (by decide) rfl (Nat.le_of_ble_eq_true rfl) (fun C hC cx hk => ?_)
  replace cx : Cx C (tyE E) cJ7_fill_53178 RJ7 4 0 0 := cx
  unfold m_J7_fill_53178 at h
  refine v_iconst 1 cx dJ7_fill_53178_0 ic_0 rfl ?_
  refine v_istore_n 2 (fun a1 => [(2, .int a1), (0, .ref (aX E 10 0)), (1, .int p1)]) cx dJ7_fill_53178_1 rfl (by decide) (fun _ => rfl) rfl h (fun a1 h => ?_)
  refine v_aload_n 3 1 cx dJ7_fill_53178_2 rfl rfl rfl ?_
  refine v_alen 4 56 0 (v := Int32.ofNat 360) cx dJ7_fill_53178_3 (wXa_10_0 E st) rfl rfl rfl ?_
  refine v_istore_n 5 (fun a2 => [(3, .int a2), (2, .int a1), (0, .ref (aX E 10 0)), (1, .int p1)]) cx dJ7_fill_53178_4 rfl (by decide) (fun _ => rfl) rfl h (fun a2 h => ?_)
  refine v_lsub (lv' := [(0, .ref (aX E 10 0)), (1, .int p1), (2, .int a1), (3, .int a2)]) [2, 3, 1, 0] rfl ?_
  refine v_loop (s0 := (a1, st)) (V_J7_fill_53178_L5_10_0 C E p1 a2) (K_J7_fill_53178_L5_10_0 C E p1 a2) h (b_J7_fill_53178_L5_10_0 cx p1 a2) (fun r5 h => ?_)
  show Vat C (wX E) 4 20 [] [] r5
  exact hk _ _ _ _ (Option.some.inj h) dJ7_fill_53178_20
def V_J7_fill_53178_L5_12_0 (C : Cm) (E : Ev) (x1 : Int32) (x3 : Int32) (s : (Int32 × Sg)) : Prop := Vat C (wX E) 4 5 [(0, .ref (aX E 12 0)), (1, .int x1), (2, .int s.1), (3, .int x3)] [] s.2
def K_J7_fill_53178_L5_12_0 (C : Cm) (E : Ev) (x1 : Int32) (x3 : Int32) : (Sg) → Prop := (fun r : (Sg) => Vat C (wX E) 4 20 [] [] r)
set_option maxHeartbeats 4000000 in
set_option maxRecDepth 100000 in
theorem b_J7_fill_53178_L5_12_0 {C : Cm} {E : Ev} (cx : Cx C (tyE E) cJ7_fill_53178 RJ7 4 0 0) (x1 : Int32) (x3 : Int32) : ∀ (s : (Int32 × Sg)) (out : (Int32 × Sg) ⊕ (Sg)), m_J7_fill_53178_L5 12 0 360 x1 x3 s.1 s.2 = some out → Sum.elim (V_J7_fill_53178_L5_12_0 C E x1 x3) (K_J7_fill_53178_L5_12_0 C E x1 x3) out → V_J7_fill_53178_L5_12_0 C E x1 x3 s := by
  intro s out h hk
  obtain ⟨x2, st⟩ := s
  show Vat C (wX E) 4 5 [(0, .ref (aX E 12 0)), (1, .int x1), (2, .int x2), (3, .int x3)] [] st
  replace h : m_J7_fill_53178_L5 12 0 360 x1 x3 x2 st = some out := h
  unfold m_J7_fill_53178_L5 at h
  refine v_iload_n 6 2 cx dJ7_fill_53178_5 rfl rfl rfl ?_
  refine v_iload_n 7 3 cx dJ7_fill_53178_6 rfl rfl rfl ?_
  refine v_icmp_ge 20 10 cx dJ7_fill_53178_7 (by decide) rfl h (fun h => ?_) (fun h => ?_)
  · cases h
    have hk : Vat C (wX E) 4 20 [] [] st := hk
    exact v_lsub (lv' := []) [] rfl (hk)
  · refine v_aload_n 11 0 cx dJ7_fill_53178_10 rfl rfl rfl ?_
    refine v_iload_n 12 2 cx dJ7_fill_53178_11 rfl rfl rfl ?_
    refine v_iload_n 13 1 cx dJ7_fill_53178_12 rfl rfl rfl ?_
    refine v_iast 14 58 0 cx dJ7_fill_53178_13 (wXa_12_0 E st) rfl (wXt_12_0 E st) rfl h (fun s3 h => ?_)
    refine v_iinc 17 2 (fun a4 => [(2, .int a4), (0, .ref (aX E 12 0)), (1, .int x1), (3, .int x3)]) cx dJ7_fill_53178_14 rfl ic_1 (by decide) (fun _ => rfl) rfl h (fun a4 h => ?_)
    refine v_goto 5 cx dJ7_fill_53178_17 (by decide) ?_
    cases h
    have hk : Vat C (wX E) 4 5 [(0, .ref (aX E 12 0)), (1, .int x1), (2, .int a4), (3, .int x3)] [] s3 := hk
    exact v_lsub (lv' := [(0, .ref (aX E 12 0)), (1, .int x1), (2, .int a4), (3, .int x3)]) [1, 2, 0, 3] rfl (hk)
set_option maxHeartbeats 4000000 in
set_option maxRecDepth 100000 in
theorem c_J7_fill_53178_12_0 (l : Launch) (E : Ev) (st : Sg) (p1 : Int32) : ∀ q, m_J7_fill_53178 12 0 360 p1 st = some q → CtV l (wX E) (tyE E) yJ7_fill_53178 cJ7_fill_53178 4 none 0 0 [.ref (aX E 12 0), .int p1] st q := by
  intro q h
  refine ctV_of (lv0 := [(0, .ref (aX E 12 0)), (1, .int p1)]) (by decide) rfl (Nat.le_of_ble_eq_true rfl) (fun C hC cx hk => ?_)
  replace cx : Cx C (tyE E) cJ7_fill_53178 RJ7 4 0 0 := cx
  unfold m_J7_fill_53178 at h
  refine v_iconst 1 cx dJ7_fill_53178_0 ic_0 rfl ?_
  refine v_istore_n 2 (fun a1 => [(2, .int a1), (0, .ref (aX E 12 0)), (1, .int p1)]) cx dJ7_fill_53178_1 rfl (by decide) (fun _ => rfl) rfl h (fun a1 h => ?_)
  refine v_aload_n 3 1 cx dJ7_fill_53178_2 rfl rfl rfl ?_
  refine v_alen 4 58 0 (v := Int32.ofNat 360) cx dJ7_fill_53178_3 (wXa_12_0 E st) rfl rfl rfl ?_
  refine v_istore_n 5 (fun a2 => [(3, .int a2), (2, .int a1), (0, .ref (aX E 12 0)), (1, .int p1)]) cx dJ7_fill_53178_4 rfl (by decide) (fun _ => rfl) rfl h (fun a2 h => ?_)
  refine v_lsub (lv' := [(0, .ref (aX E 12 0)), (1, .int p1), (2, .int a1), (3, .int a2)]) [2, 3, 1, 0] rfl ?_
  refine v_loop (s0 := (a1, st)) (V_J7_fill_53178_L5_12_0 C E p1 a2) (K_J7_fill_53178_L5_12_0 C E p1 a2) h (b_J7_fill_53178_L5_12_0 cx p1 a2) (fun r5 h => ?_)
  show Vat C (wX E) 4 20 [] [] r5
  exact hk _ _ _ _ (Option.some.inj h) dJ7_fill_53178_20
def V_J7_fill_53178_L5_9_9 (C : Cm) (E : Ev) (x1 : Int32) (x3 : Int32) (s : (Int32 × Sg)) : Prop := Vat C (wX E) 4 5 [(0, .ref (aX E 9 9)), (1, .int x1), (2, .int s.1), (3, .int x3)] [] s.2
def K_J7_fill_53178_L5_9_9 (C : Cm) (E : Ev) (x1 : Int32) (x3 : Int32) : (Sg) → Prop := (fun r : (Sg) => Vat C (wX E) 4 20 [] [] r)
set_option maxHeartbeats 4000000 in
set_option maxRecDepth 100000 in
theorem b_J7_fill_53178_L5_9_9 {C : Cm} {E : Ev} (cx : Cx C (tyE E) cJ7_fill_53178 RJ7 4 0 0) (x1 : Int32) (x3 : Int32) : ∀ (s : (Int32 × Sg)) (out : (Int32 × Sg) ⊕ (Sg)), m_J7_fill_53178_L5 9 9 16 x1 x3 s.1 s.2 = some out → Sum.elim (V_J7_fill_53178_L5_9_9 C E x1 x3) (K_J7_fill_53178_L5_9_9 C E x1 x3) out → V_J7_fill_53178_L5_9_9 C E x1 x3 s := by
  intro s out h hk
  obtain ⟨x2, st⟩ := s
  show Vat C (wX E) 4 5 [(0, .ref (aX E 9 9)), (1, .int x1), (2, .int x2), (3, .int x3)] [] st
  replace h : m_J7_fill_53178_L5 9 9 16 x1 x3 x2 st = some out := h
  unfold m_J7_fill_53178_L5 at h
  refine v_iload_n 6 2 cx dJ7_fill_53178_5 rfl rfl rfl ?_
  refine v_iload_n 7 3 cx dJ7_fill_53178_6 rfl rfl rfl ?_
  refine v_icmp_ge 20 10 cx dJ7_fill_53178_7 (by decide) rfl h (fun h => ?_) (fun h => ?_)
  · cases h
    have hk : Vat C (wX E) 4 20 [] [] st := hk
    exact v_lsub (lv' := []) [] rfl (hk)
  · refine v_aload_n 11 0 cx dJ7_fill_53178_10 rfl rfl rfl ?_
    refine v_iload_n 12 2 cx dJ7_fill_53178_11 rfl rfl rfl ?_
    refine v_iload_n 13 1 cx dJ7_fill_53178_12 rfl rfl rfl ?_
    refine v_iast 14 54 0 cx dJ7_fill_53178_13 (wXa_9_9 E st) rfl (wXt_9_9 E st) rfl h (fun s3 h => ?_)
    refine v_iinc 17 2 (fun a4 => [(2, .int a4), (0, .ref (aX E 9 9)), (1, .int x1), (3, .int x3)]) cx dJ7_fill_53178_14 rfl ic_1 (by decide) (fun _ => rfl) rfl h (fun a4 h => ?_)
    refine v_goto 5 cx dJ7_fill_53178_17 (by decide) ?_
    cases h
    have hk : Vat C (wX E) 4 5 [(0, .ref (aX E 9 9)), (1, .int x1), (2, .int a4), (3, .int x3)] [] s3 := hk
    exact v_lsub (lv' := [(0, .ref (aX E 9 9)), (1, .int x1), (2, .int a4), (3, .int x3)]) [1, 2, 0, 3] rfl (hk)
set_option maxHeartbeats 4000000 in
set_option maxRecDepth 100000 in
theorem c_J7_fill_53178_9_9 (l : Launch) (E : Ev) (st : Sg) (p1 : Int32) : ∀ q, m_J7_fill_53178 9 9 16 p1 st = some q → CtV l (wX E) (tyE E) yJ7_fill_53178 cJ7_fill_53178 4 none 0 0 [.ref (aX E 9 9), .int p1] st q := by
  intro q h
  refine ctV_of (lv0 := [(0, .ref (aX E 9 9)), (1, .int p1)]) (by decide) rfl (Nat.le_of_ble_eq_true rfl) (fun C hC cx hk => ?_)
  replace cx : Cx C (tyE E) cJ7_fill_53178 RJ7 4 0 0 := cx
  unfold m_J7_fill_53178 at h
  refine v_iconst 1 cx dJ7_fill_53178_0 ic_0 rfl ?_
  refine v_istore_n 2 (fun a1 => [(2, .int a1), (0, .ref (aX E 9 9)), (1, .int p1)]) cx dJ7_fill_53178_1 rfl (by decide) (fun _ => rfl) rfl h (fun a1 h => ?_)
  refine v_aload_n 3 1 cx dJ7_fill_53178_2 rfl rfl rfl ?_
  refine v_alen 4 54 0 (v := Int32.ofNat 16) cx dJ7_fill_53178_3 (wXa_9_9 E st) rfl rfl rfl ?_
  refine v_istore_n 5 (fun a2 => [(3, .int a2), (2, .int a1), (0, .ref (aX E 9 9)), (1, .int p1)]) cx dJ7_fill_53178_4 rfl (by decide) (fun _ => rfl) rfl h (fun a2 h => ?_)
  refine v_lsub (lv' := [(0, .ref (aX E 9 9)), (1, .int p1), (2, .int a1), (3, .int a2)]) [2, 3, 1, 0] rfl ?_
  refine v_loop (s0 := (a1, st)) (V_J7_fill_53178_L5_9_9 C E p1 a2) (K_J7_fill_53178_L5_9_9 C E p1 a2) h (b_J7_fill_53178_L5_9_9 cx p1 a2) (fun r5 h => ?_)
  show Vat C (wX E) 4 20 [] [] r5
  exact hk _ _ _ _ (Option.some.inj h) dJ7_fill_53178_20
def V_J7_fill_53178_L5_11_0 (C : Cm) (E : Ev) (x1 : Int32) (x3 : Int32) (s : (Int32 × Sg)) : Prop := Vat C (wX E) 4 5 [(0, .ref (aX E 11 0)), (1, .int x1), (2, .int s.1), (3, .int x3)] [] s.2
def K_J7_fill_53178_L5_11_0 (C : Cm) (E : Ev) (x1 : Int32) (x3 : Int32) : (Sg) → Prop := (fun r : (Sg) => Vat C (wX E) 4 20 [] [] r)
set_option maxHeartbeats 4000000 in
set_option maxRecDepth 100000 in
theorem b_J7_fill_53178_L5_11_0 {C : Cm} {E : Ev} (cx : Cx C (tyE E) cJ7_fill_53178 RJ7 4 0 0) (x1 : Int32) (x3 : Int32) : ∀ (s : (Int32 × Sg)) (out : (Int32 × Sg) ⊕ (Sg)), m_J7_fill_53178_L5 11 0 6 x1 x3 s.1 s.2 = some out → Sum.elim (V_J7_fill_53178_L5_11_0 C E x1 x3) (K_J7_fill_53178_L5_11_0 C E x1 x3) out → V_J7_fill_53178_L5_11_0 C E x1 x3 s := by
  intro s out h hk
  obtain ⟨x2, st⟩ := s
  show Vat C (wX E) 4 5 [(0, .ref (aX E 11 0)), (1, .int x1), (2, .int x2), (3, .int x3)] [] st
  replace h : m_J7_fill_53178_L5 11 0 6 x1 x3 x2 st = some out := h
  unfold m_J7_fill_53178_L5 at h
  refine v_iload_n 6 2 cx dJ7_fill_53178_5 rfl rfl rfl ?_
  refine v_iload_n 7 3 cx dJ7_fill_53178_6 rfl rfl rfl ?_
  refine v_icmp_ge 20 10 cx dJ7_fill_53178_7 (by decide) rfl h (fun h => ?_) (fun h => ?_)
  · cases h
    have hk : Vat C (wX E) 4 20 [] [] st := hk
    exact v_lsub (lv' := []) [] rfl (hk)
  · refine v_aload_n 11 0 cx dJ7_fill_53178_10 rfl rfl rfl ?_
    refine v_iload_n 12 2 cx dJ7_fill_53178_11 rfl rfl rfl ?_
    refine v_iload_n 13 1 cx dJ7_fill_53178_12 rfl rfl rfl ?_
    refine v_iast 14 57 0 cx dJ7_fill_53178_13 (wXa_11_0 E st) rfl (wXt_11_0 E st) rfl h (fun s3 h => ?_)
    refine v_iinc 17 2 (fun a4 => [(2, .int a4), (0, .ref (aX E 11 0)), (1, .int x1), (3, .int x3)]) cx dJ7_fill_53178_14 rfl ic_1 (by decide) (fun _ => rfl) rfl h (fun a4 h => ?_)
    refine v_goto 5 cx dJ7_fill_53178_17 (by decide) ?_
    cases h
    have hk : Vat C (wX E) 4 5 [(0, .ref (aX E 11 0)), (1, .int x1), (2, .int a4), (3, .int x3)] [] s3 := hk
    exact v_lsub (lv' := [(0, .ref (aX E 11 0)), (1, .int x1), (2, .int a4), (3, .int x3)]) [1, 2, 0, 3] rfl (hk)
set_option maxHeartbeats 4000000 in
set_option maxRecDepth 100000 in
theorem c_J7_fill_53178_11_0 (l : Launch) (E : Ev) (st : Sg) (p1 : Int32) : ∀ q, m_J7_fill_53178 11 0 6 p1 st = some q → CtV l (wX E) (tyE E) yJ7_fill_53178 cJ7_fill_53178 4 none 0 0 [.ref (aX E 11 0), .int p1] st q := by
  intro q h
  refine ctV_of (lv0 := [(0, .ref (aX E 11 0)), (1, .int p1)]) (by decide) rfl (Nat.le_of_ble_eq_true rfl) (fun C hC cx hk => ?_)
  replace cx : Cx C (tyE E) cJ7_fill_53178 RJ7 4 0 0 := cx
  unfold m_J7_fill_53178 at h
  refine v_iconst 1 cx dJ7_fill_53178_0 ic_0 rfl ?_
  refine v_istore_n 2 (fun a1 => [(2, .int a1), (0, .ref (aX E 11 0)), (1, .int p1)]) cx dJ7_fill_53178_1 rfl (by decide) (fun _ => rfl) rfl h (fun a1 h => ?_)
  refine v_aload_n 3 1 cx dJ7_fill_53178_2 rfl rfl rfl ?_
  refine v_alen 4 57 0 (v := Int32.ofNat 6) cx dJ7_fill_53178_3 (wXa_11_0 E st) rfl rfl rfl ?_
  refine v_istore_n 5 (fun a2 => [(3, .int a2), (2, .int a1), (0, .ref (aX E 11 0)), (1, .int p1)]) cx dJ7_fill_53178_4 rfl (by decide) (fun _ => rfl) rfl h (fun a2 h => ?_)
  refine v_lsub (lv' := [(0, .ref (aX E 11 0)), (1, .int p1), (2, .int a1), (3, .int a2)]) [2, 3, 1, 0] rfl ?_
  refine v_loop (s0 := (a1, st)) (V_J7_fill_53178_L5_11_0 C E p1 a2) (K_J7_fill_53178_L5_11_0 C E p1 a2) h (b_J7_fill_53178_L5_11_0 cx p1 a2) (fun r5 h => ?_)
  show Vat C (wX E) 4 20 [] [] r5
  exact hk _ _ _ _ (Option.some.inj h) dJ7_fill_53178_20
set_option maxHeartbeats 4000000 in
set_option maxRecDepth 100000 in
theorem c_J9_floorDiv_7cf53 (l : Launch) (E : Ev) (st : Sg) (p0 : Int32) (p1 : Int32) : ∀ q, m_J9_floorDiv_7cf53 p0 p1 st = some q → CtI l (wX E) (tyE E) yJ9_floorDiv_7cf53 cJ9_floorDiv_7cf53 3 (some .int) 0 0 [.int p0, .int p1] st q := by
  intro q h
  refine ctI_ofF (lv0 := [(0, .int p0), (1, .int p1)]) (by decide +kernel) rfl (Nat.le_of_ble_eq_true rfl) (fun C hC cx hk => ?_)
  replace cx : Cx C (tyE E) cJ9_floorDiv_7cf53 RJ9 3 0 0 := cx
  unfold m_J9_floorDiv_7cf53 at h
  refine v_iload_n 1 0 cx dJ9_floorDiv_7cf53_0 rfl rfl rfl ?_
  refine v_iload_n 2 1 cx dJ9_floorDiv_7cf53_1 rfl rfl rfl ?_
  refine v_idiv 3 cx dJ9_floorDiv_7cf53_2 rfl h (fun h => ?_)
  refine v_istore_n 4 (fun a1 => [(2, .int a1), (0, .int p0), (1, .int p1)]) cx dJ9_floorDiv_7cf53_3 rfl (by decide) (fun _ => rfl) rfl h (fun a1 h => ?_)
  refine v_iload_n 5 1 cx dJ9_floorDiv_7cf53_4 rfl rfl rfl ?_
  refine v_iload_n 6 2 cx dJ9_floorDiv_7cf53_5 rfl rfl rfl ?_
  refine v_ixor 7 cx dJ9_floorDiv_7cf53_6 rfl ?_
  refine v_if_ge 21 10 cx dJ9_floorDiv_7cf53_7 (by decide) rfl h (fun h => ?_) (fun h => ?_)
  · refine v_iload_n 22 0 cx dJ9_floorDiv_7cf53_21 rfl rfl rfl ?_
    exact hk _ _ _ _ (Option.some.inj h) dJ9_floorDiv_7cf53_22
  · refine v_iload_n 11 0 cx dJ9_floorDiv_7cf53_10 rfl rfl rfl ?_
    refine v_iload_n 12 2 cx dJ9_floorDiv_7cf53_11 rfl rfl rfl ?_
    refine v_imul 13 cx dJ9_floorDiv_7cf53_12 rfl ?_
    refine v_iload_n 14 1 cx dJ9_floorDiv_7cf53_13 rfl rfl rfl ?_
    refine v_icmp_eq 21 17 cx dJ9_floorDiv_7cf53_14 (by decide) rfl h (fun h => ?_) (fun h => ?_)
    · refine v_iload_n 22 0 cx dJ9_floorDiv_7cf53_21 rfl rfl rfl ?_
      exact hk _ _ _ _ (Option.some.inj h) dJ9_floorDiv_7cf53_22
    · refine v_iload_n 18 0 cx dJ9_floorDiv_7cf53_17 rfl rfl rfl ?_
      refine v_iconst 19 cx dJ9_floorDiv_7cf53_18 ic_1 rfl ?_
      refine v_isub 20 cx dJ9_floorDiv_7cf53_19 rfl ?_
      exact hk _ _ _ _ (Option.some.inj h) dJ9_floorDiv_7cf53_20
def V_X0_bitsOf_L4 (C : Cm) (E : Ev) (x1 : Int32) (s : (Int32 × Int32 × Sg)) : Prop := Vat C (wX E) 4 4 [(0, .ref (oX E 1)), (1, .int x1), (2, .int s.1), (3, .int s.2.1)] [] s.2.2
def K_X0_bitsOf_L4 (C : Cm) (E : Ev) (x1 : Int32) : (Int32 × Sg) → Prop := (fun r : (Int32 × Sg) => Vat C (wX E) 4 40 [(2, .int r.1)] [] r.2)
set_option maxHeartbeats 4000000 in
set_option maxRecDepth 100000 in
theorem b_X0_bitsOf_L4 {C : Cm} {E : Ev} (cx : Cx C (tyE E) cX0_bitsOf RX0 4 1 20) (x1 : Int32) : ∀ (s : (Int32 × Int32 × Sg)) (out : (Int32 × Int32 × Sg) ⊕ (Int32 × Sg)), m_X0_bitsOf_L4 x1 s.1 s.2.1 s.2.2 = some out → Sum.elim (V_X0_bitsOf_L4 C E x1) (K_X0_bitsOf_L4 C E x1) out → V_X0_bitsOf_L4 C E x1 s := by
  intro s out h hk
  obtain ⟨x2, x3, st⟩ := s
  show Vat C (wX E) 4 4 [(0, .ref (oX E 1)), (1, .int x1), (2, .int x2), (3, .int x3)] [] st
  replace h : m_X0_bitsOf_L4 x1 x2 x3 st = some out := h
  unfold m_X0_bitsOf_L4 at h
  refine v_iload_n 5 3 cx dX0_bitsOf_4 rfl rfl rfl ?_
  refine v_aload_n 6 0 cx dX0_bitsOf_5 rfl rfl rfl ?_
  refine v_getI 9 1 0 cx dX0_bitsOf_6 iX0 (wXo_1 E st) rfl (Nat.le_of_ble_eq_true rfl) rfl kf_X0_9 rfl rfl h (fun v3 h => ?_)
  refine v_icmp_ge 40 12 cx dX0_bitsOf_9 (by decide) rfl h (fun h => ?_) (fun h => ?_)
  · cases h
    have hk : Vat C (wX E) 4 40 [(2, .int x2)] [] st := hk
    exact v_lsub (lv' := [(2, .int x2)]) [2] rfl (hk)
  · refine v_aload_n 13 0 cx dX0_bitsOf_12 rfl rfl rfl ?_
    refine v_get 16 1 3 cx dX0_bitsOf_13 iX0 (wXo_1 E st) rfl (Nat.le_of_ble_eq_true rfl) rfl kf_X0_22 rfl rfl ?_
    refine v_iload_n 17 3 cx dX0_bitsOf_16 rfl rfl rfl ?_
    refine v_iald 18 20 0 cx dX0_bitsOf_17 (wXa_1_3 E st) rfl rfl h (fun v4 h => ?_)
    refine v_iload_n 19 1 cx dX0_bitsOf_18 rfl rfl rfl ?_
    refine v_icmp_ne 34 22 cx dX0_bitsOf_19 (by decide) rfl h (fun h => ?_) (fun h => ?_)
    · refine v_iinc 37 3 (fun a5 => [(3, .int a5), (0, .ref (oX E 1)), (1, .int x1), (2, .int x2)]) cx dX0_bitsOf_34 rfl ic_1 (by decide) (fun _ => rfl) rfl h (fun a5 h => ?_)
      refine v_goto 4 cx dX0_bitsOf_37 (by decide) ?_
      cases h
      have hk : Vat C (wX E) 4 4 [(0, .ref (oX E 1)), (1, .int x1), (2, .int x2), (3, .int a5)] [] st := hk
      exact v_lsub (lv' := [(0, .ref (oX E 1)), (1, .int x1), (2, .int x2), (3, .int a5)]) [1, 2, 3, 0] rfl (hk)
    · refine v_iload_n 23 2 cx dX0_bitsOf_22 rfl rfl rfl ?_
      refine v_aload_n 24 0 cx dX0_bitsOf_23 rfl rfl rfl ?_
      refine v_get 27 1 4 cx dX0_bitsOf_24 iX0 (wXo_1 E st) rfl (Nat.le_of_ble_eq_true rfl) rfl kf_X0_25 rfl rfl ?_
      refine v_iload_n 28 3 cx dX0_bitsOf_27 rfl rfl rfl ?_
      refine v_iald 29 21 0 cx dX0_bitsOf_28 (wXa_1_4 E st) rfl rfl h (fun v6 h => ?_)
      refine v_callSI 32 cx dX0_bitsOf_29 km_X0_80 ca_J6_bitCount_0f7a4 (c_J6_bitCount_0f7a4 C.2.1 E st v6 ) rfl (by decide) rfl (Nat.le_of_ble_eq_true rfl) rfl h (fun v8 s7 h => ?_)
      refine v_iadd 33 cx dX0_bitsOf_32 rfl ?_
      refine v_istore_n 34 (fun a9 => [(2, .int a9), (0, .ref (oX E 1)), (1, .int x1), (3, .int x3)]) cx dX0_bitsOf_33 rfl (by decide) (fun _ => rfl) rfl h (fun a9 h => ?_)
      refine v_iinc 37 3 (fun a10 => [(3, .int a10), (2, .int a9), (0, .ref (oX E 1)), (1, .int x1)]) cx dX0_bitsOf_34 rfl ic_1 (by decide) (fun _ => rfl) rfl h (fun a10 h => ?_)
      refine v_goto 4 cx dX0_bitsOf_37 (by decide) ?_
      cases h
      have hk : Vat C (wX E) 4 4 [(0, .ref (oX E 1)), (1, .int x1), (2, .int a9), (3, .int a10)] [] s7 := hk
      exact v_lsub (lv' := [(0, .ref (oX E 1)), (1, .int x1), (2, .int a9), (3, .int a10)]) [2, 3, 1, 0] rfl (hk)
set_option maxHeartbeats 4000000 in
set_option maxRecDepth 100000 in
theorem c_X0_bitsOf (l : Launch) (E : Ev) (st : Sg) (p1 : Int32) : ∀ q, m_X0_bitsOf p1 st = some q → CtI l (wX E) (tyE E) yX0_bitsOf cX0_bitsOf 4 (some .int) 1 20 [.ref (oX E 1), .int p1] st q := by
  intro q h
  refine ctI_of (lv0 := [(0, .ref (oX E 1)), (1, .int p1)]) (by decide) rfl (Nat.le_of_ble_eq_true rfl) (fun C hC cx hk => ?_)
  replace cx : Cx C (tyE E) cX0_bitsOf RX0 4 1 20 := cx
  unfold m_X0_bitsOf at h
  refine v_iconst 1 cx dX0_bitsOf_0 ic_0 rfl ?_
  refine v_istore_n 2 (fun a1 => [(2, .int a1), (0, .ref (oX E 1)), (1, .int p1)]) cx dX0_bitsOf_1 rfl (by decide) (fun _ => rfl) rfl h (fun a1 h => ?_)
  refine v_iconst 3 cx dX0_bitsOf_2 ic_0 rfl ?_
  refine v_istore_n 4 (fun a2 => [(3, .int a2), (2, .int a1), (0, .ref (oX E 1)), (1, .int p1)]) cx dX0_bitsOf_3 rfl (by decide) (fun _ => rfl) rfl h (fun a2 h => ?_)
  refine v_lsub (lv' := [(0, .ref (oX E 1)), (1, .int p1), (2, .int a1), (3, .int a2)]) [2, 3, 1, 0] rfl ?_
  refine v_loop (s0 := (a1, a2, st)) (V_X0_bitsOf_L4 C E p1) (K_X0_bitsOf_L4 C E p1) h (b_X0_bitsOf_L4 cx p1) (fun r11 h => ?_)
  show Vat C (wX E) 4 40 [(2, .int r11.1)] [] r11.2
  refine v_iload_n 41 0 cx dX0_bitsOf_40 rfl rfl rfl ?_
  exact hk _ _ _ _ (Option.some.inj h) dX0_bitsOf_41
def V_X0_beatByUnits_L4 (C : Cm) (E : Ev) (s : (Int32 × Int32 × Sg)) : Prop := Vat C (wX E) 5 4 [(0, .ref (oX E 1)), (1, .int s.1), (2, .int s.2.1)] [] s.2.2
def K_X0_beatByUnits_L4 (C : Cm) (E : Ev) : (Int32 × Sg) → Prop := (fun r : (Int32 × Sg) => Vat C (wX E) 5 59 [(1, .int r.1)] [] r.2)
set_option maxHeartbeats 4000000 in
set_option maxRecDepth 100000 in
theorem b_X0_beatByUnits_L4 {C : Cm} {E : Ev} (cx : Cx C (tyE E) cX0_beatByUnits RX0 5 2 43) : ∀ (s : (Int32 × Int32 × Sg)) (out : (Int32 × Int32 × Sg) ⊕ (Int32 × Sg)), m_X0_beatByUnits_L4 s.1 s.2.1 s.2.2 = some out → Sum.elim (V_X0_beatByUnits_L4 C E) (K_X0_beatByUnits_L4 C E) out → V_X0_beatByUnits_L4 C E s := by
  intro s out h hk
  obtain ⟨x1, x2, st⟩ := s
  show Vat C (wX E) 5 4 [(0, .ref (oX E 1)), (1, .int x1), (2, .int x2)] [] st
  replace h : m_X0_beatByUnits_L4 x1 x2 st = some out := h
  unfold m_X0_beatByUnits_L4 at h
  refine v_iload_n 5 2 cx dX0_beatByUnits_4 rfl rfl rfl ?_
  refine v_bipush 7 cx dX0_beatByUnits_5 bp_6 rfl ?_
  refine v_icmp_ge 59 10 cx dX0_beatByUnits_7 (by decide) rfl h (fun h => ?_) (fun h => ?_)
  · cases h
    have hk : Vat C (wX E) 5 59 [(1, .int x1)] [] st := hk
    exact v_lsub (lv' := [(1, .int x1)]) [1] rfl (hk)
  · refine v_aload_n 11 0 cx dX0_beatByUnits_10 rfl rfl rfl ?_
    refine v_iload_n 12 2 cx dX0_beatByUnits_11 rfl rfl rfl ?_
    refine v_callVI 15 1 cx dX0_beatByUnits_12 km_X0_70 ca_X0_bitsOf (wXo_1 E st) rfl (c_X0_bitsOf C.2.1 E st x2 ) rfl (by decide) rfl (Nat.le_of_ble_eq_true rfl) rfl h (fun v4 s3 h => ?_)
    refine v_istore_n 16 (fun a5 => [(3, .int a5), (0, .ref (oX E 1)), (1, .int x1), (2, .int x2)]) cx dX0_beatByUnits_15 rfl (by decide) (fun _ => rfl) rfl h (fun a5 h => ?_)
    refine v_iload_n 17 0 cx dX0_beatByUnits_16 rfl rfl rfl ?_
    refine v_if_le 53 20 cx dX0_beatByUnits_17 (by decide) rfl h (fun h => ?_) (fun h => ?_)
    · refine v_iinc 56 3 (fun a6 => [(2, .int a6), (3, .int a5), (0, .ref (oX E 1)), (1, .int x1)]) cx dX0_beatByUnits_53 rfl ic_1 (by decide) (fun _ => rfl) rfl h (fun a6 h => ?_)
      refine v_goto 4 cx dX0_beatByUnits_56 (by decide) ?_
      cases h
      have hk : Vat C (wX E) 5 4 [(0, .ref (oX E 1)), (1, .int x1), (2, .int a6)] [] s3 := hk
      exact v_lsub (lv' := [(0, .ref (oX E 1)), (1, .int x1), (2, .int a6)]) [2, 3, 0] rfl (hk)
    · refine v_aload_n 21 1 cx dX0_beatByUnits_20 rfl rfl rfl ?_
      refine v_get 24 1 10 cx dX0_beatByUnits_21 iX0 (wXo_1 E s3) rfl (Nat.le_of_ble_eq_true rfl) rfl kf_X0_44 rfl rfl ?_
      refine v_iload_n 25 3 cx dX0_beatByUnits_24 rfl rfl rfl ?_
      refine v_iald 26 27 0 cx dX0_beatByUnits_25 (wXa_1_10 E s3) rfl rfl h (fun v7 h => ?_)
      refine v_istore 28 (fun a8 => [(4, .int a8), (3, .int a5), (0, .ref (oX E 1)), (1, .int x1), (2, .int x2)]) cx dX0_beatByUnits_26 (by decide) (fun _ => rfl) rfl h (fun a8 h => ?_)
      refine v_iload_n 29 3 cx dX0_beatByUnits_28 rfl rfl rfl ?_
      refine v_iload 31 0 cx dX0_beatByUnits_29 rfl rfl ?_
      refine v_iconst 32 cx dX0_beatByUnits_31 ic_1 rfl ?_
      refine v_icmp_ge 40 35 cx dX0_beatByUnits_32 (by decide) rfl h (fun h => ?_) (fun h => ?_)
      · refine v_iload_n 41 1 cx dX0_beatByUnits_40 rfl rfl rfl ?_
        refine v_iload 43 0 cx dX0_beatByUnits_41 rfl rfl ?_
        refine v_iadd 44 cx dX0_beatByUnits_43 rfl ?_
        refine v_iconst 45 cx dX0_beatByUnits_44 ic_1 rfl ?_
        refine v_isub 46 cx dX0_beatByUnits_45 rfl ?_
        refine v_iload 48 0 cx dX0_beatByUnits_46 rfl rfl ?_
        refine v_idiv 49 cx dX0_beatByUnits_48 rfl h (fun h => ?_)
        refine v_mmax 52 cx dX0_beatByUnits_49 km_X0_74 kmax_s kmax_i kmax_c (by decide) (Nat.le_of_ble_eq_true rfl) rfl ?_
        refine v_istore_n 53 (fun a9 => [(1, .int a9), (4, .int a8), (3, .int a5), (0, .ref (oX E 1)), (2, .int x2)]) cx dX0_beatByUnits_52 rfl (by decide) (fun _ => rfl) rfl h (fun a9 h => ?_)
        refine v_iinc 56 4 (fun a10 => [(2, .int a10), (1, .int a9), (4, .int a8), (3, .int a5), (0, .ref (oX E 1))]) cx dX0_beatByUnits_53 rfl ic_1 (by decide) (fun _ => rfl) rfl h (fun a10 h => ?_)
        refine v_goto 4 cx dX0_beatByUnits_56 (by decide) ?_
        cases h
        have hk : Vat C (wX E) 5 4 [(0, .ref (oX E 1)), (1, .int a9), (2, .int a10)] [] s3 := hk
        exact v_lsub (lv' := [(0, .ref (oX E 1)), (1, .int a9), (2, .int a10)]) [4, 1, 0] rfl (hk)
      · refine v_bipush 37 cx dX0_beatByUnits_35 bp_61 rfl ?_
        refine v_goto 49 cx dX0_beatByUnits_37 (by decide) ?_
        refine v_mmax 52 cx dX0_beatByUnits_49 km_X0_74 kmax_s kmax_i kmax_c (by decide) (Nat.le_of_ble_eq_true rfl) rfl ?_
        refine v_istore_n 53 (fun a11 => [(1, .int a11), (4, .int a8), (3, .int a5), (0, .ref (oX E 1)), (2, .int x2)]) cx dX0_beatByUnits_52 rfl (by decide) (fun _ => rfl) rfl h (fun a11 h => ?_)
        refine v_iinc 56 4 (fun a12 => [(2, .int a12), (1, .int a11), (4, .int a8), (3, .int a5), (0, .ref (oX E 1))]) cx dX0_beatByUnits_53 rfl ic_1 (by decide) (fun _ => rfl) rfl h (fun a12 h => ?_)
        refine v_goto 4 cx dX0_beatByUnits_56 (by decide) ?_
        cases h
        have hk : Vat C (wX E) 5 4 [(0, .ref (oX E 1)), (1, .int a11), (2, .int a12)] [] s3 := hk
        exact v_lsub (lv' := [(0, .ref (oX E 1)), (1, .int a11), (2, .int a12)]) [4, 1, 0] rfl (hk)
set_option maxHeartbeats 4000000 in
set_option maxRecDepth 100000 in
theorem c_X0_beatByUnits (l : Launch) (E : Ev) (st : Sg) : ∀ q, m_X0_beatByUnits st = some q → CtI l (wX E) (tyE E) yX0_beatByUnits cX0_beatByUnits 5 (some .int) 2 43 [.ref (oX E 1)] st q := by
  intro q h
  refine ctI_of (lv0 := [(0, .ref (oX E 1))]) (by decide) rfl (Nat.le_of_ble_eq_true rfl) (fun C hC cx hk => ?_)
  replace cx : Cx C (tyE E) cX0_beatByUnits RX0 5 2 43 := cx
  unfold m_X0_beatByUnits at h
  refine v_iconst 1 cx dX0_beatByUnits_0 ic_1 rfl ?_
  refine v_istore_n 2 (fun a1 => [(1, .int a1), (0, .ref (oX E 1))]) cx dX0_beatByUnits_1 rfl (by decide) (fun _ => rfl) rfl h (fun a1 h => ?_)
  refine v_iconst 3 cx dX0_beatByUnits_2 ic_0 rfl ?_
  refine v_istore_n 4 (fun a2 => [(2, .int a2), (1, .int a1), (0, .ref (oX E 1))]) cx dX0_beatByUnits_3 rfl (by decide) (fun _ => rfl) rfl h (fun a2 h => ?_)
  refine v_lsub (lv' := [(0, .ref (oX E 1)), (1, .int a1), (2, .int a2)]) [2, 1, 0] rfl ?_
  refine v_loop (s0 := (a1, a2, st)) (V_X0_beatByUnits_L4 C E) (K_X0_beatByUnits_L4 C E) h (b_X0_beatByUnits_L4 cx) (fun r13 h => ?_)
  show Vat C (wX E) 5 59 [(1, .int r13.1)] [] r13.2
  refine v_iload_n 60 0 cx dX0_beatByUnits_59 rfl rfl rfl ?_
  exact hk _ _ _ _ (Option.some.inj h) dX0_beatByUnits_60
set_option maxHeartbeats 4000000 in
set_option maxRecDepth 100000 in
theorem c_X0_touchesRows (l : Launch) (E : Ev) (st : Sg) (p1 : Int32) : ∀ q, m_X0_touchesRows p1 st = some q → CtI l (wX E) (tyE E) yX0_touchesRows cX0_touchesRows 2 (some .boolean) 0 0 [.ref (oX E 1), .int p1] st q := by
  intro q h
  refine ctZ_of (lv0 := [(0, .ref (oX E 1)), (1, .int p1)]) (by decide) rfl (Nat.le_of_ble_eq_true rfl) (fun C hC cx hk => ?_)
  replace cx : Cx C (tyE E) cX0_touchesRows RX0 2 0 0 := cx
  unfold m_X0_touchesRows at h
  refine v_aload_n 1 0 cx dX0_touchesRows_0 rfl rfl rfl ?_
  refine v_get 4 1 1 cx dX0_touchesRows_1 iX0 (wXo_1 E st) rfl (Nat.le_of_ble_eq_true rfl) rfl kf_X0_15 rfl rfl ?_
  refine v_iload_n 5 1 cx dX0_touchesRows_4 rfl rfl rfl ?_
  refine v_iald 6 18 0 cx dX0_touchesRows_5 (wXa_1_1 E st) rfl rfl h (fun v1 h => ?_)
  refine v_iconst 7 cx dX0_touchesRows_6 ic_4 rfl ?_
  refine v_icmp_eq 20 10 cx dX0_touchesRows_7 (by decide) rfl h (fun h => ?_) (fun h => ?_)
  · refine v_iconst 21 cx dX0_touchesRows_20 ic_1 rfl ?_
    refine v_goto 25 cx dX0_touchesRows_21 (by decide) ?_
    exact hk _ _ _ _ (Option.some.inj h) (Or.inr rfl) dX0_touchesRows_25
  · refine v_aload_n 11 0 cx dX0_touchesRows_10 rfl rfl rfl ?_
    refine v_get 14 1 1 cx dX0_touchesRows_11 iX0 (wXo_1 E st) rfl (Nat.le_of_ble_eq_true rfl) rfl kf_X0_15 rfl rfl ?_
    refine v_iload_n 15 1 cx dX0_touchesRows_14 rfl rfl rfl ?_
    refine v_iald 16 18 0 cx dX0_touchesRows_15 (wXa_1_1 E st) rfl rfl h (fun v2 h => ?_)
    refine v_iconst 17 cx dX0_touchesRows_16 ic_5 rfl ?_
    refine v_icmp_ne 24 20 cx dX0_touchesRows_17 (by decide) rfl h (fun h => ?_) (fun h => ?_)
    · refine v_iconst 25 cx dX0_touchesRows_24 ic_0 rfl ?_
      exact hk _ _ _ _ (Option.some.inj h) (Or.inl rfl) dX0_touchesRows_25
    · refine v_iconst 21 cx dX0_touchesRows_20 ic_1 rfl ?_
      refine v_goto 25 cx dX0_touchesRows_21 (by decide) ?_
      exact hk _ _ _ _ (Option.some.inj h) (Or.inr rfl) dX0_touchesRows_25
set_option maxHeartbeats 4000000 in
set_option maxRecDepth 100000 in
theorem c_X0_clash (l : Launch) (E : Ev) (st : Sg) (p1 : Int32) (p2 : Int32) : ∀ q, m_X0_clash p1 p2 st = some q → CtI l (wX E) (tyE E) yX0_clash cX0_clash 3 (some .boolean) 1 21 [.ref (oX E 1), .int p1, .int p2] st q := by
  intro q h
  refine ctZ_of (lv0 := [(0, .ref (oX E 1)), (1, .int p1), (2, .int p2)]) (by decide) rfl (Nat.le_of_ble_eq_true rfl) (fun C hC cx hk => ?_)
  replace cx : Cx C (tyE E) cX0_clash RX0 3 1 21 := cx
  unfold m_X0_clash at h
  refine v_aload_n 1 0 cx dX0_clash_0 rfl rfl rfl ?_
  refine v_iload_n 2 1 cx dX0_clash_1 rfl rfl rfl ?_
  refine v_callVI 5 1 cx dX0_clash_2 km_X0_85 ca_X0_touchesRows (wXo_1 E st) rfl (c_X0_touchesRows C.2.1 E st p1 ) rfl (by decide) rfl (Nat.le_of_ble_eq_true rfl) rfl h (fun v2 s1 h => ?_)
  refine v_if_eq 55 8 cx dX0_clash_5 (by decide) rfl h (fun h => ?_) (fun h => ?_)
  · refine v_iconst 56 cx dX0_clash_55 ic_0 rfl ?_
    exact hk _ _ _ _ (Option.some.inj h) (Or.inl rfl) dX0_clash_56
  · refine v_aload_n 9 0 cx dX0_clash_8 rfl rfl rfl ?_
    refine v_iload_n 10 2 cx dX0_clash_9 rfl rfl rfl ?_
    refine v_callVI 13 1 cx dX0_clash_10 km_X0_85 ca_X0_touchesRows (wXo_1 E s1) rfl (c_X0_touchesRows C.2.1 E s1 p2 ) rfl (by decide) rfl (Nat.le_of_ble_eq_true rfl) rfl h (fun v4 s3 h => ?_)
    refine v_if_eq 55 16 cx dX0_clash_13 (by decide) rfl h (fun h => ?_) (fun h => ?_)
    · refine v_iconst 56 cx dX0_clash_55 ic_0 rfl ?_
      exact hk _ _ _ _ (Option.some.inj h) (Or.inl rfl) dX0_clash_56
    · refine v_aload_n 17 0 cx dX0_clash_16 rfl rfl rfl ?_
      refine v_get 20 1 5 cx dX0_clash_17 iX0 (wXo_1 E s3) rfl (Nat.le_of_ble_eq_true rfl) rfl kf_X0_28 rfl rfl ?_
      refine v_iload_n 21 1 cx dX0_clash_20 rfl rfl rfl ?_
      refine v_iald 22 22 0 cx dX0_clash_21 (wXa_1_5 E s3) rfl rfl h (fun v5 h => ?_)
      refine v_aload_n 23 0 cx dX0_clash_22 rfl rfl rfl ?_
      refine v_get 26 1 5 cx dX0_clash_23 iX0 (wXo_1 E s3) rfl (Nat.le_of_ble_eq_true rfl) rfl kf_X0_28 rfl rfl ?_
      refine v_iload_n 27 2 cx dX0_clash_26 rfl rfl rfl ?_
      refine v_iald 28 22 0 cx dX0_clash_27 (wXa_1_5 E s3) rfl rfl h (fun v6 h => ?_)
      refine v_icmp_ne 55 31 cx dX0_clash_28 (by decide) rfl h (fun h => ?_) (fun h => ?_)
      · refine v_iconst 56 cx dX0_clash_55 ic_0 rfl ?_
        exact hk _ _ _ _ (Option.some.inj h) (Or.inl rfl) dX0_clash_56
      · refine v_aload_n 32 0 cx dX0_clash_31 rfl rfl rfl ?_
        refine v_get 35 1 1 cx dX0_clash_32 iX0 (wXo_1 E s3) rfl (Nat.le_of_ble_eq_true rfl) rfl kf_X0_15 rfl rfl ?_
        refine v_iload_n 36 1 cx dX0_clash_35 rfl rfl rfl ?_
        refine v_iald 37 18 0 cx dX0_clash_36 (wXa_1_1 E s3) rfl rfl h (fun v7 h => ?_)
        refine v_iconst 38 cx dX0_clash_37 ic_5 rfl ?_
        refine v_icmp_eq 51 41 cx dX0_clash_38 (by decide) rfl h (fun h => ?_) (fun h => ?_)
        · refine v_iconst 52 cx dX0_clash_51 ic_1 rfl ?_
          refine v_goto 56 cx dX0_clash_52 (by decide) ?_
          exact hk _ _ _ _ (Option.some.inj h) (Or.inr rfl) dX0_clash_56
        · refine v_aload_n 42 0 cx dX0_clash_41 rfl rfl rfl ?_
          refine v_get 45 1 1 cx dX0_clash_42 iX0 (wXo_1 E s3) rfl (Nat.le_of_ble_eq_true rfl) rfl kf_X0_15 rfl rfl ?_
          refine v_iload_n 46 2 cx dX0_clash_45 rfl rfl rfl ?_
          refine v_iald 47 18 0 cx dX0_clash_46 (wXa_1_1 E s3) rfl rfl h (fun v8 h => ?_)
          refine v_iconst 48 cx dX0_clash_47 ic_5 rfl ?_
          refine v_icmp_ne 55 51 cx dX0_clash_48 (by decide) rfl h (fun h => ?_) (fun h => ?_)
          · refine v_iconst 56 cx dX0_clash_55 ic_0 rfl ?_
            exact hk _ _ _ _ (Option.some.inj h) (Or.inl rfl) dX0_clash_56
          · refine v_iconst 52 cx dX0_clash_51 ic_1 rfl ?_
            refine v_goto 56 cx dX0_clash_52 (by decide) ?_
            exact hk _ _ _ _ (Option.some.inj h) (Or.inr rfl) dX0_clash_56
set_option maxHeartbeats 4000000 in
set_option maxRecDepth 100000 in
theorem c_X0_has (l : Launch) (E : Ev) (st : Sg) (p1 : Int32) : ∀ q, m_X0_has p1 st = some q → CtI l (wX E) (tyE E) yX0_has cX0_has 2 (some .boolean) 0 0 [.ref (oX E 1), .int p1] st q := by
  intro q h
  refine ctZ_of (lv0 := [(0, .ref (oX E 1)), (1, .int p1)]) (by decide) rfl (Nat.le_of_ble_eq_true rfl) (fun C hC cx hk => ?_)
  replace cx : Cx C (tyE E) cX0_has RX0 2 0 0 := cx
  unfold m_X0_has at h
  refine v_iload_n 1 1 cx dX0_has_0 rfl rfl rfl ?_
  refine v_if_lt 16 4 cx dX0_has_1 (by decide) rfl h (fun h => ?_) (fun h => ?_)
  · refine v_iconst 17 cx dX0_has_16 ic_0 rfl ?_
    exact hk _ _ _ _ (Option.some.inj h) (Or.inl rfl) dX0_has_17
  · refine v_iload_n 5 1 cx dX0_has_4 rfl rfl rfl ?_
    refine v_aload_n 6 0 cx dX0_has_5 rfl rfl rfl ?_
    refine v_getI 9 1 0 cx dX0_has_6 iX0 (wXo_1 E st) rfl (Nat.le_of_ble_eq_true rfl) rfl kf_X0_9 rfl rfl h (fun v1 h => ?_)
    refine v_icmp_ge 16 12 cx dX0_has_9 (by decide) rfl h (fun h => ?_) (fun h => ?_)
    · refine v_iconst 17 cx dX0_has_16 ic_0 rfl ?_
      exact hk _ _ _ _ (Option.some.inj h) (Or.inl rfl) dX0_has_17
    · refine v_iconst 13 cx dX0_has_12 ic_1 rfl ?_
      refine v_goto 17 cx dX0_has_13 (by decide) ?_
      exact hk _ _ _ _ (Option.some.inj h) (Or.inr rfl) dX0_has_17
def V_X0_isWhole_L2 (C : Cm) (E : Ev) (s : (Int32 × Sg)) : Prop := Vat C (wX E) 2 2 [(0, .ref (oX E 1)), (1, .int s.1)] [] s.2
def K_X0_isWhole_L2 (C : Cm) (E : Ev) : ((Sg) ⊕ (Sg)) → Prop := (Sum.elim (fun r : (Sg) => Vat C (wX E) 2 33 [] [] r) (fun r : (Sg) => Vat C (wX E) 2 25 [] [] r))
set_option maxHeartbeats 4000000 in
set_option maxRecDepth 100000 in
theorem b_X0_isWhole_L2 {C : Cm} {E : Ev} (cx : Cx C (tyE E) cX0_isWhole RX0 2 0 0) : ∀ (s : (Int32 × Sg)) (out : (Int32 × Sg) ⊕ ((Sg) ⊕ (Sg))), m_X0_isWhole_L2 s.1 s.2 = some out → Sum.elim (V_X0_isWhole_L2 C E) (K_X0_isWhole_L2 C E) out → V_X0_isWhole_L2 C E s := by
  intro s out h hk
  obtain ⟨x1, st⟩ := s
  show Vat C (wX E) 2 2 [(0, .ref (oX E 1)), (1, .int x1)] [] st
  replace h : m_X0_isWhole_L2 x1 st = some out := h
  unfold m_X0_isWhole_L2 at h
  refine v_iload_n 3 1 cx dX0_isWhole_2 rfl rfl rfl ?_
  refine v_aload_n 4 0 cx dX0_isWhole_3 rfl rfl rfl ?_
  refine v_getI 7 1 0 cx dX0_isWhole_4 iX0 (wXo_1 E st) rfl (Nat.le_of_ble_eq_true rfl) rfl kf_X0_9 rfl rfl h (fun v2 h => ?_)
  refine v_iconst 8 cx dX0_isWhole_7 ic_3 rfl ?_
  refine v_imul 9 cx dX0_isWhole_8 rfl ?_
  refine v_icmp_ge 33 12 cx dX0_isWhole_9 (by decide) rfl h (fun h => ?_) (fun h => ?_)
  · cases h
    have hk : Vat C (wX E) 2 33 [] [] st := hk
    exact v_lsub (lv' := []) [] rfl (hk)
  · refine v_aload_n 13 0 cx dX0_isWhole_12 rfl rfl rfl ?_
    refine v_get 16 1 6 cx dX0_isWhole_13 iX0 (wXo_1 E st) rfl (Nat.le_of_ble_eq_true rfl) rfl kf_X0_31 rfl rfl ?_
    refine v_iload_n 17 1 cx dX0_isWhole_16 rfl rfl rfl ?_
    refine v_iald 18 23 0 cx dX0_isWhole_17 (wXa_1_6 E st) rfl rfl h (fun v3 h => ?_)
    refine v_aload_n 19 0 cx dX0_isWhole_18 rfl rfl rfl ?_
    refine v_getI 22 1 0 cx dX0_isWhole_19 iX0 (wXo_1 E st) rfl (Nat.le_of_ble_eq_true rfl) rfl kf_X0_9 rfl rfl h (fun v4 h => ?_)
    refine v_icmp_lt 27 25 cx dX0_isWhole_22 (by decide) rfl h (fun h => ?_) (fun h => ?_)
    · refine v_iinc 30 1 (fun a5 => [(1, .int a5), (0, .ref (oX E 1))]) cx dX0_isWhole_27 rfl ic_1 (by decide) (fun _ => rfl) rfl h (fun a5 h => ?_)
      refine v_goto 2 cx dX0_isWhole_30 (by decide) ?_
      cases h
      have hk : Vat C (wX E) 2 2 [(0, .ref (oX E 1)), (1, .int a5)] [] st := hk
      exact v_lsub (lv' := [(0, .ref (oX E 1)), (1, .int a5)]) [1, 0] rfl (hk)
    · cases h
      have hk : Vat C (wX E) 2 25 [] [] st := hk
      exact v_lsub (lv' := []) [] rfl (hk)
set_option maxHeartbeats 4000000 in
set_option maxRecDepth 100000 in
theorem c_X0_isWhole (l : Launch) (E : Ev) (st : Sg) : ∀ q, m_X0_isWhole st = some q → CtI l (wX E) (tyE E) yX0_isWhole cX0_isWhole 2 (some .boolean) 0 0 [.ref (oX E 1)] st q := by
  intro q h
  refine ctZ_of (lv0 := [(0, .ref (oX E 1))]) (by decide) rfl (Nat.le_of_ble_eq_true rfl) (fun C hC cx hk => ?_)
  replace cx : Cx C (tyE E) cX0_isWhole RX0 2 0 0 := cx
  unfold m_X0_isWhole at h
  refine v_iconst 1 cx dX0_isWhole_0 ic_0 rfl ?_
  refine v_istore_n 2 (fun a1 => [(1, .int a1), (0, .ref (oX E 1))]) cx dX0_isWhole_1 rfl (by decide) (fun _ => rfl) rfl h (fun a1 h => ?_)
  refine v_lsub (lv' := [(0, .ref (oX E 1)), (1, .int a1)]) [1, 0] rfl ?_
  refine v_loop (s0 := (a1, st)) (V_X0_isWhole_L2 C E) (K_X0_isWhole_L2 C E) h (b_X0_isWhole_L2 cx) (fun r6 h => ?_)
  rcases r6 with r6 | r6
  · rw [Sum.elim_inl] at h
    show Vat C (wX E) 2 33 [] [] r6
    refine v_iconst 34 cx dX0_isWhole_33 ic_1 rfl ?_
    exact hk _ _ _ _ (Option.some.inj h) (Or.inr rfl) dX0_isWhole_34
  · rw [Sum.elim_inr] at h
    show Vat C (wX E) 2 25 [] [] r6
    refine v_iconst 26 cx dX0_isWhole_25 ic_0 rfl ?_
    exact hk _ _ _ _ (Option.some.inj h) (Or.inl rfl) dX0_isWhole_26
set_option maxHeartbeats 4000000 in
set_option maxRecDepth 100000 in
theorem c_X0_isReady (l : Launch) (E : Ev) (st : Sg) : ∀ q, m_X0_isReady st = some q → CtI l (wX E) (tyE E) yX0_isReady cX0_isReady 1 (some .boolean) 1 21 [.ref (oX E 1)] st q := by
  intro q h
  refine ctZ_of (lv0 := [(0, .ref (oX E 1))]) (by decide) rfl (Nat.le_of_ble_eq_true rfl) (fun C hC cx hk => ?_)
  replace cx : Cx C (tyE E) cX0_isReady RX0 1 1 21 := cx
  unfold m_X0_isReady at h
  refine v_aload_n 1 0 cx dX0_isReady_0 rfl rfl rfl ?_
  refine v_getI 4 1 0 cx dX0_isReady_1 iX0 (wXo_1 E st) rfl (Nat.le_of_ble_eq_true rfl) rfl kf_X0_9 rfl rfl h (fun v1 h => ?_)
  refine v_if_le 18 7 cx dX0_isReady_4 (by decide) rfl h (fun h => ?_) (fun h => ?_)
  · refine v_iconst 19 cx dX0_isReady_18 ic_0 rfl ?_
    exact hk _ _ _ _ (Option.some.inj h) (Or.inl rfl) dX0_isReady_19
  · refine v_aload_n 8 0 cx dX0_isReady_7 rfl rfl rfl ?_
    refine v_callVI 11 1 cx dX0_isReady_8 km_X0_66 ca_X0_isWhole (wXo_1 E st) rfl (c_X0_isWhole C.2.1 E st ) rfl (by decide) rfl (Nat.le_of_ble_eq_true rfl) rfl h (fun v3 s2 h => ?_)
    refine v_if_eq 18 14 cx dX0_isReady_11 (by decide) rfl h (fun h => ?_) (fun h => ?_)
    · refine v_iconst 19 cx dX0_isReady_18 ic_0 rfl ?_
      exact hk _ _ _ _ (Option.some.inj h) (Or.inl rfl) dX0_isReady_19
    · refine v_iconst 15 cx dX0_isReady_14 ic_1 rfl ?_
      refine v_goto 19 cx dX0_isReady_15 (by decide) ?_
      exact hk _ _ _ _ (Option.some.inj h) (Or.inr rfl) dX0_isReady_19
def V_X0_isTakenByAnother_L6 (C : Cm) (E : Ev) (x1 : Int32) (x2 : Int32) (s : (Int32 × Sg)) : Prop := Vat C (wX E) 4 6 [(0, .ref (oX E 1)), (1, .int x1), (2, .int x2), (3, .int s.1)] [] s.2
def K_X0_isTakenByAnother_L6 (C : Cm) (E : Ev) (x1 : Int32) (x2 : Int32) : ((Sg) ⊕ (Sg)) → Prop := (Sum.elim (fun r : (Sg) => Vat C (wX E) 4 46 [] [] r) (fun r : (Sg) => Vat C (wX E) 4 38 [] [] r))
set_option maxHeartbeats 4000000 in
set_option maxRecDepth 100000 in
theorem b_X0_isTakenByAnother_L6 {C : Cm} {E : Ev} (cx : Cx C (tyE E) cX0_isTakenByAnother RX0 4 0 0) (x1 : Int32) (x2 : Int32) : ∀ (s : (Int32 × Sg)) (out : (Int32 × Sg) ⊕ ((Sg) ⊕ (Sg))), m_X0_isTakenByAnother_L6 x1 x2 s.1 s.2 = some out → Sum.elim (V_X0_isTakenByAnother_L6 C E x1 x2) (K_X0_isTakenByAnother_L6 C E x1 x2) out → V_X0_isTakenByAnother_L6 C E x1 x2 s := by
  intro s out h hk
  obtain ⟨x3, st⟩ := s
  show Vat C (wX E) 4 6 [(0, .ref (oX E 1)), (1, .int x1), (2, .int x2), (3, .int x3)] [] st
  replace h : m_X0_isTakenByAnother_L6 x1 x2 x3 st = some out := h
  unfold m_X0_isTakenByAnother_L6 at h
  refine v_iload_n 7 3 cx dX0_isTakenByAnother_6 rfl rfl rfl ?_
  refine v_aload_n 8 0 cx dX0_isTakenByAnother_7 rfl rfl rfl ?_
  refine v_getI 11 1 0 cx dX0_isTakenByAnother_8 iX0 (wXo_1 E st) rfl (Nat.le_of_ble_eq_true rfl) rfl kf_X0_9 rfl rfl h (fun v3 h => ?_)
  refine v_iconst 12 cx dX0_isTakenByAnother_11 ic_3 rfl ?_
  refine v_imul 13 cx dX0_isTakenByAnother_12 rfl ?_
  refine v_icmp_ge 46 16 cx dX0_isTakenByAnother_13 (by decide) rfl h (fun h => ?_) (fun h => ?_)
  · cases h
    have hk : Vat C (wX E) 4 46 [] [] st := hk
    exact v_lsub (lv' := []) [] rfl (hk)
  · refine v_aload_n 17 0 cx dX0_isTakenByAnother_16 rfl rfl rfl ?_
    refine v_get 20 1 6 cx dX0_isTakenByAnother_17 iX0 (wXo_1 E st) rfl (Nat.le_of_ble_eq_true rfl) rfl kf_X0_31 rfl rfl ?_
    refine v_iload_n 21 3 cx dX0_isTakenByAnother_20 rfl rfl rfl ?_
    refine v_iald 22 23 0 cx dX0_isTakenByAnother_21 (wXa_1_6 E st) rfl rfl h (fun v4 h => ?_)
    refine v_iload_n 23 1 cx dX0_isTakenByAnother_22 rfl rfl rfl ?_
    refine v_icmp_ne 40 26 cx dX0_isTakenByAnother_23 (by decide) rfl h (fun h => ?_) (fun h => ?_)
    · refine v_iinc 43 3 (fun a5 => [(3, .int a5), (0, .ref (oX E 1)), (1, .int x1), (2, .int x2)]) cx dX0_isTakenByAnother_40 rfl ic_1 (by decide) (fun _ => rfl) rfl h (fun a5 h => ?_)
      refine v_goto 6 cx dX0_isTakenByAnother_43 (by decide) ?_
      cases h
      have hk : Vat C (wX E) 4 6 [(0, .ref (oX E 1)), (1, .int x1), (2, .int x2), (3, .int a5)] [] st := hk
      exact v_lsub (lv' := [(0, .ref (oX E 1)), (1, .int x1), (2, .int x2), (3, .int a5)]) [1, 2, 3, 0] rfl (hk)
    · refine v_iload_n 27 3 cx dX0_isTakenByAnother_26 rfl rfl rfl ?_
      refine v_iload_n 28 2 cx dX0_isTakenByAnother_27 rfl rfl rfl ?_
      refine v_icmp_lt 38 31 cx dX0_isTakenByAnother_28 (by decide) rfl h (fun h => ?_) (fun h => ?_)
      · cases h
        have hk : Vat C (wX E) 4 38 [] [] st := hk
        exact v_lsub (lv' := []) [] rfl (hk)
      · refine v_iload_n 32 3 cx dX0_isTakenByAnother_31 rfl rfl rfl ?_
        refine v_iload_n 33 2 cx dX0_isTakenByAnother_32 rfl rfl rfl ?_
        refine v_iconst 34 cx dX0_isTakenByAnother_33 ic_3 rfl ?_
        refine v_iadd 35 cx dX0_isTakenByAnother_34 rfl ?_
        refine v_icmp_lt 40 38 cx dX0_isTakenByAnother_35 (by decide) rfl h (fun h => ?_) (fun h => ?_)
        · refine v_iinc 43 3 (fun a6 => [(3, .int a6), (0, .ref (oX E 1)), (1, .int x1), (2, .int x2)]) cx dX0_isTakenByAnother_40 rfl ic_1 (by decide) (fun _ => rfl) rfl h (fun a6 h => ?_)
          refine v_goto 6 cx dX0_isTakenByAnother_43 (by decide) ?_
          cases h
          have hk : Vat C (wX E) 4 6 [(0, .ref (oX E 1)), (1, .int x1), (2, .int x2), (3, .int a6)] [] st := hk
          exact v_lsub (lv' := [(0, .ref (oX E 1)), (1, .int x1), (2, .int x2), (3, .int a6)]) [1, 2, 3, 0] rfl (hk)
        · cases h
          have hk : Vat C (wX E) 4 38 [] [] st := hk
          exact v_lsub (lv' := []) [] rfl (hk)
set_option maxHeartbeats 4000000 in
set_option maxRecDepth 100000 in
theorem c_X0_isTakenByAnother (l : Launch) (E : Ev) (st : Sg) (p1 : Int32) : ∀ q, m_X0_isTakenByAnother p1 st = some q → CtI l (wX E) (tyE E) yX0_isTakenByAnother cX0_isTakenByAnother 4 (some .boolean) 0 0 [.ref (oX E 1), .int p1] st q := by
  intro q h
  refine ctZ_of (lv0 := [(0, .ref (oX E 1)), (1, .int p1)]) (by decide) rfl (Nat.le_of_ble_eq_true rfl) (fun C hC cx hk => ?_)
  replace cx : Cx C (tyE E) cX0_isTakenByAnother RX0 4 0 0 := cx
  unfold m_X0_isTakenByAnother at h
  refine v_iload_n 1 1 cx dX0_isTakenByAnother_0 rfl rfl rfl ?_
  refine v_iconst 2 cx dX0_isTakenByAnother_1 ic_3 rfl ?_
  refine v_imul 3 cx dX0_isTakenByAnother_2 rfl ?_
  refine v_istore_n 4 (fun a1 => [(2, .int a1), (0, .ref (oX E 1)), (1, .int p1)]) cx dX0_isTakenByAnother_3 rfl (by decide) (fun _ => rfl) rfl h (fun a1 h => ?_)
  refine v_iconst 5 cx dX0_isTakenByAnother_4 ic_0 rfl ?_
  refine v_istore_n 6 (fun a2 => [(3, .int a2), (2, .int a1), (0, .ref (oX E 1)), (1, .int p1)]) cx dX0_isTakenByAnother_5 rfl (by decide) (fun _ => rfl) rfl h (fun a2 h => ?_)
  refine v_lsub (lv' := [(0, .ref (oX E 1)), (1, .int p1), (2, .int a1), (3, .int a2)]) [2, 3, 1, 0] rfl ?_
  refine v_loop (s0 := (a2, st)) (V_X0_isTakenByAnother_L6 C E p1 a1) (K_X0_isTakenByAnother_L6 C E p1 a1) h (b_X0_isTakenByAnother_L6 cx p1 a1) (fun r7 h => ?_)
  rcases r7 with r7 | r7
  · rw [Sum.elim_inl] at h
    show Vat C (wX E) 4 46 [] [] r7
    refine v_iconst 47 cx dX0_isTakenByAnother_46 ic_0 rfl ?_
    exact hk _ _ _ _ (Option.some.inj h) (Or.inl rfl) dX0_isTakenByAnother_47
  · rw [Sum.elim_inr] at h
    show Vat C (wX E) 4 38 [] [] r7
    refine v_iconst 39 cx dX0_isTakenByAnother_38 ic_1 rfl ?_
    exact hk _ _ _ _ (Option.some.inj h) (Or.inr rfl) dX0_isTakenByAnother_39
set_option maxHeartbeats 4000000 in
set_option maxRecDepth 100000 in
theorem c_X0_mayBeRefused (l : Launch) (E : Ev) (st : Sg) (p1 : Int32) : ∀ q, m_X0_mayBeRefused p1 st = some q → CtI l (wX E) (tyE E) yX0_mayBeRefused cX0_mayBeRefused 2 (some .boolean) 1 21 [.ref (oX E 1), .int p1] st q := by
  intro q h
  refine ctZ_of (lv0 := [(0, .ref (oX E 1)), (1, .int p1)]) (by decide) rfl (Nat.le_of_ble_eq_true rfl) (fun C hC cx hk => ?_)
  replace cx : Cx C (tyE E) cX0_mayBeRefused RX0 2 1 21 := cx
  unfold m_X0_mayBeRefused at h
  refine v_aload_n 1 0 cx dX0_mayBeRefused_0 rfl rfl rfl ?_
  refine v_get 4 1 1 cx dX0_mayBeRefused_1 iX0 (wXo_1 E st) rfl (Nat.le_of_ble_eq_true rfl) rfl kf_X0_15 rfl rfl ?_
  refine v_iload_n 5 1 cx dX0_mayBeRefused_4 rfl rfl rfl ?_
  refine v_iald 6 18 0 cx dX0_mayBeRefused_5 (wXa_1_1 E st) rfl rfl h (fun v1 h => ?_)
  refine v_iconst 7 cx dX0_mayBeRefused_6 ic_3 rfl ?_
  refine v_icmp_eq 18 10 cx dX0_mayBeRefused_7 (by decide) rfl h (fun h => ?_) (fun h => ?_)
  · refine v_iconst 19 cx dX0_mayBeRefused_18 ic_1 rfl ?_
    refine v_goto 23 cx dX0_mayBeRefused_19 (by decide) ?_
    exact hk _ _ _ _ (Option.some.inj h) (Or.inr rfl) dX0_mayBeRefused_23
  · refine v_aload_n 11 0 cx dX0_mayBeRefused_10 rfl rfl rfl ?_
    refine v_iload_n 12 1 cx dX0_mayBeRefused_11 rfl rfl rfl ?_
    refine v_callVI 15 1 cx dX0_mayBeRefused_12 km_X0_85 ca_X0_touchesRows (wXo_1 E st) rfl (c_X0_touchesRows C.2.1 E st p1 ) rfl (by decide) rfl (Nat.le_of_ble_eq_true rfl) rfl h (fun v3 s2 h => ?_)
    refine v_if_eq 22 18 cx dX0_mayBeRefused_15 (by decide) rfl h (fun h => ?_) (fun h => ?_)
    · refine v_iconst 23 cx dX0_mayBeRefused_22 ic_0 rfl ?_
      exact hk _ _ _ _ (Option.some.inj h) (Or.inl rfl) dX0_mayBeRefused_23
    · refine v_iconst 19 cx dX0_mayBeRefused_18 ic_1 rfl ?_
      refine v_goto 23 cx dX0_mayBeRefused_19 (by decide) ?_
      exact hk _ _ _ _ (Option.some.inj h) (Or.inr rfl) dX0_mayBeRefused_23
set_option maxHeartbeats 4000000 in
set_option maxRecDepth 100000 in
theorem c_X0_mayTake (l : Launch) (E : Ev) (st : Sg) (p1 : Int32) (p2 : Int32) : ∀ q, m_X0_mayTake p1 p2 st = some q → CtI l (wX E) (tyE E) yX0_mayTake cX0_mayTake 3 (some .boolean) 0 0 [.ref (oX E 1), .int p1, .int p2] st q := by
  intro q h
  refine ctZ_of (lv0 := [(0, .ref (oX E 1)), (1, .int p1), (2, .int p2)]) (by decide) rfl (Nat.le_of_ble_eq_true rfl) (fun C hC cx hk => ?_)
  replace cx : Cx C (tyE E) cX0_mayTake RX0 3 0 0 := cx
  unfold m_X0_mayTake at h
  refine v_iload_n 1 1 cx dX0_mayTake_0 rfl rfl rfl ?_
  refine v_if_lt 26 4 cx dX0_mayTake_1 (by decide) rfl h (fun h => ?_) (fun h => ?_)
  · refine v_iconst 27 cx dX0_mayTake_26 ic_0 rfl ?_
    exact hk _ _ _ _ (Option.some.inj h) (Or.inl rfl) dX0_mayTake_27
  · refine v_iload_n 5 1 cx dX0_mayTake_4 rfl rfl rfl ?_
    refine v_bipush 7 cx dX0_mayTake_5 bp_16 rfl ?_
    refine v_icmp_ge 26 10 cx dX0_mayTake_7 (by decide) rfl h (fun h => ?_) (fun h => ?_)
    · refine v_iconst 27 cx dX0_mayTake_26 ic_0 rfl ?_
      exact hk _ _ _ _ (Option.some.inj h) (Or.inl rfl) dX0_mayTake_27
    · refine v_iload_n 11 2 cx dX0_mayTake_10 rfl rfl rfl ?_
      refine v_if_gt 22 14 cx dX0_mayTake_11 (by decide) rfl h (fun h => ?_) (fun h => ?_)
      · refine v_iconst 23 cx dX0_mayTake_22 ic_1 rfl ?_
        refine v_goto 27 cx dX0_mayTake_23 (by decide) ?_
        exact hk _ _ _ _ (Option.some.inj h) (Or.inr rfl) dX0_mayTake_27
      · refine v_iload_n 15 1 cx dX0_mayTake_14 rfl rfl rfl ?_
        refine v_aload_n 16 0 cx dX0_mayTake_15 rfl rfl rfl ?_
        refine v_getI 19 1 0 cx dX0_mayTake_16 iX0 (wXo_1 E st) rfl (Nat.le_of_ble_eq_true rfl) rfl kf_X0_9 rfl rfl h (fun v1 h => ?_)
        refine v_icmp_ge 26 22 cx dX0_mayTake_19 (by decide) rfl h (fun h => ?_) (fun h => ?_)
        · refine v_iconst 27 cx dX0_mayTake_26 ic_0 rfl ?_
          exact hk _ _ _ _ (Option.some.inj h) (Or.inl rfl) dX0_mayTake_27
        · refine v_iconst 23 cx dX0_mayTake_22 ic_1 rfl ?_
          refine v_goto 27 cx dX0_mayTake_23 (by decide) ?_
          exact hk _ _ _ _ (Option.some.inj h) (Or.inr rfl) dX0_mayTake_27
set_option maxHeartbeats 4000000 in
set_option maxRecDepth 100000 in
theorem c_X0_take (l : Launch) (E : Ev) (st : Sg) (p1 : Int32) (p2 : Int32) (p3 : Int32) (p4 : Int32) : ∀ q, m_X0_take p1 p2 p3 p4 st = some q → CtV l (wX E) (tyE E) yX0_take cX0_take 5 none 0 0 [.ref (oX E 1), .int p1, .int p2, .int p3, .int p4] st q := by
  intro q h
  refine ctV_of (lv0 := [(0, .ref (oX E 1)), (1, .int p1), (2, .int p2), (3, .int p3), (4, .int p4)]) (by decide) rfl (Nat.le_of_ble_eq_true rfl) (fun C hC cx hk => ?_)
  replace cx : Cx C (tyE E) cX0_take RX0 5 0 0 := cx
  unfold m_X0_take at h
  refine v_aload_n 1 0 cx dX0_take_0 rfl rfl rfl ?_
  refine v_get 4 1 6 cx dX0_take_1 iX0 (wXo_1 E st) rfl (Nat.le_of_ble_eq_true rfl) rfl kf_X0_31 rfl rfl ?_
  refine v_iload_n 5 1 cx dX0_take_4 rfl rfl rfl ?_
  refine v_iconst 6 cx dX0_take_5 ic_3 rfl ?_
  refine v_imul 7 cx dX0_take_6 rfl ?_
  refine v_iload_n 8 2 cx dX0_take_7 rfl rfl rfl ?_
  refine v_iadd 9 cx dX0_take_8 rfl ?_
  refine v_iload_n 10 3 cx dX0_take_9 rfl rfl rfl ?_
  refine v_iast 11 23 0 cx dX0_take_10 (wXa_1_6 E st) rfl (wXt_1_6 E st) rfl h (fun s1 h => ?_)
  refine v_aload_n 12 0 cx dX0_take_11 rfl rfl rfl ?_
  refine v_get 15 1 7 cx dX0_take_12 iX0 (wXo_1 E s1) rfl (Nat.le_of_ble_eq_true rfl) rfl kf_X0_34 rfl rfl ?_
  refine v_iload_n 16 1 cx dX0_take_15 rfl rfl rfl ?_
  refine v_iconst 17 cx dX0_take_16 ic_3 rfl ?_
  refine v_imul 18 cx dX0_take_17 rfl ?_
  refine v_iload_n 19 2 cx dX0_take_18 rfl rfl rfl ?_
  refine v_iadd 20 cx dX0_take_19 rfl ?_
  refine v_iload 22 4 cx dX0_take_20 rfl rfl ?_
  refine v_iast 23 24 0 cx dX0_take_22 (wXa_1_7 E s1) rfl (wXt_1_7 E s1) rfl h (fun s2 h => ?_)
  exact hk _ _ _ _ (Option.some.inj h) dX0_take_23
def V_X0_open_L71 (C : Cm) (E : Ev) (x2 : Int32) (s : (Int32 × Sg)) : Prop := Vat C (wX E) 4 71 [(0, .ref (oX E 1)), (2, .int x2), (3, .int s.1)] [] s.2
def K_X0_open_L71 (C : Cm) (E : Ev) (x2 : Int32) : (Sg) → Prop := (fun r : (Sg) => Vat C (wX E) 4 90 [(2, .int x2)] [] r)
set_option maxHeartbeats 4000000 in
set_option maxRecDepth 100000 in
theorem b_X0_open_L71 {C : Cm} {E : Ev} (cx : Cx C (tyE E) cX0_open RX0 4 1 24) (x2 : Int32) : ∀ (s : (Int32 × Sg)) (out : (Int32 × Sg) ⊕ (Sg)), m_X0_open_L71 x2 s.1 s.2 = some out → Sum.elim (V_X0_open_L71 C E x2) (K_X0_open_L71 C E x2) out → V_X0_open_L71 C E x2 s := by
  intro s out h hk
  obtain ⟨x3, st⟩ := s
  show Vat C (wX E) 4 71 [(0, .ref (oX E 1)), (2, .int x2), (3, .int x3)] [] st
  replace h : m_X0_open_L71 x2 x3 st = some out := h
  unfold m_X0_open_L71 at h
  refine v_iload_n 72 2 cx dX0_open_71 rfl rfl rfl ?_
  refine v_iconst 73 cx dX0_open_72 ic_3 rfl ?_
  refine v_icmp_ge 90 76 cx dX0_open_73 (by decide) rfl h (fun h => ?_) (fun h => ?_)
  · cases h
    have hk : Vat C (wX E) 4 90 [(2, .int x2)] [] st := hk
    exact v_lsub (lv' := [(2, .int x2)]) [1] rfl (hk)
  · refine v_aload_n 77 0 cx dX0_open_76 rfl rfl rfl ?_
    refine v_iload_n 78 1 cx dX0_open_77 rfl rfl rfl ?_
    refine v_iload_n 79 2 cx dX0_open_78 rfl rfl rfl ?_
    refine v_iconst 80 cx dX0_open_79 ic_m1 rfl ?_
    refine v_iconst 81 cx dX0_open_80 ic_m1 rfl ?_
    refine v_callVV 84 1 cx dX0_open_81 km_X0_62 ca_X0_take (wXo_1 E st) rfl (c_X0_take C.2.1 E st x2 x3 (-1) (-1) ) rfl (by decide) rfl (Nat.le_of_ble_eq_true rfl) rfl h (fun _ s12 h => ?_)
    refine v_iinc 87 2 (fun a13 => [(3, .int a13), (0, .ref (oX E 1)), (2, .int x2)]) cx dX0_open_84 rfl ic_1 (by decide) (fun _ => rfl) rfl h (fun a13 h => ?_)
    refine v_goto 71 cx dX0_open_87 (by decide) ?_
    cases h
    have hk : Vat C (wX E) 4 71 [(0, .ref (oX E 1)), (2, .int x2), (3, .int a13)] [] s12 := hk
    exact v_lsub (lv' := [(0, .ref (oX E 1)), (2, .int x2), (3, .int a13)]) [1, 2, 0] rfl (hk)
set_option maxHeartbeats 4000000 in
set_option maxRecDepth 100000 in
theorem c_X0_open (l : Launch) (E : Ev) (st : Sg) (p1 : Int32) : ∀ q, m_X0_open p1 st = some q → CtI l (wX E) (tyE E) yX0_open cX0_open 4 (some .int) 1 24 [.ref (oX E 1), .int p1] st q := by
  intro q h
  refine ctI_of (lv0 := [(0, .ref (oX E 1)), (1, .int p1)]) (by decide) rfl (Nat.le_of_ble_eq_true rfl) (fun C hC cx hk => ?_)
  replace cx : Cx C (tyE E) cX0_open RX0 4 1 24 := cx
  unfold m_X0_open at h
  refine v_aload_n 1 0 cx dX0_open_0 rfl rfl rfl ?_
  refine v_getI 4 1 0 cx dX0_open_1 iX0 (wXo_1 E st) rfl (Nat.le_of_ble_eq_true rfl) rfl kf_X0_9 rfl rfl h (fun v1 h => ?_)
  refine v_istore_n 5 (fun a2 => [(2, .int a2), (0, .ref (oX E 1)), (1, .int p1)]) cx dX0_open_4 rfl (by decide) (fun _ => rfl) rfl h (fun a2 h => ?_)
  refine v_iload_n 6 0 cx dX0_open_5 rfl rfl rfl ?_
  refine v_bipush 8 cx dX0_open_6 bp_16 rfl ?_
  refine v_icmp_lt 13 11 cx dX0_open_8 (by decide) rfl h (fun h => ?_) (fun h => ?_)
  · refine v_aload_n 14 1 cx dX0_open_13 rfl rfl rfl ?_
    refine v_iload_n 15 0 cx dX0_open_14 rfl rfl rfl ?_
    refine v_iconst 16 cx dX0_open_15 ic_1 rfl ?_
    refine v_iadd 17 cx dX0_open_16 rfl ?_
    refine v_putI 20 1 0 cx dX0_open_17 iX0 tyX0_ok nmX0 (wXo_1 E st) rfl (Nat.le_of_ble_eq_true rfl) rfl kf_X0_9 rfl rfl rfl rfl (Nat.le_of_ble_eq_true rfl) (wXs_1_0 E st _) rfl h (fun s3 h => ?_)
    refine v_aload_n 21 1 cx dX0_open_20 rfl rfl rfl ?_
    refine v_get 24 1 1 cx dX0_open_21 iX0 (wXo_1 E s3) rfl (Nat.le_of_ble_eq_true rfl) rfl kf_X0_15 rfl rfl ?_
    refine v_iload_n 25 0 cx dX0_open_24 rfl rfl rfl ?_
    refine v_iload_n 26 2 cx dX0_open_25 rfl rfl rfl ?_
    refine v_iast 27 18 0 cx dX0_open_26 (wXa_1_1 E s3) rfl (wXt_1_1 E s3) rfl h (fun s4 h => ?_)
    refine v_aload_n 28 1 cx dX0_open_27 rfl rfl rfl ?_
    refine v_get 31 1 2 cx dX0_open_28 iX0 (wXo_1 E s4) rfl (Nat.le_of_ble_eq_true rfl) rfl kf_X0_19 rfl rfl ?_
    refine v_iload_n 32 0 cx dX0_open_31 rfl rfl rfl ?_
    refine v_iconst 33 cx dX0_open_32 ic_1 rfl ?_
    refine v_iast 34 19 0 cx dX0_open_33 (wXa_1_2 E s4) rfl (wXt_1_2 E s4) rfl h (fun s5 h => ?_)
    refine v_aload_n 35 1 cx dX0_open_34 rfl rfl rfl ?_
    refine v_get 38 1 3 cx dX0_open_35 iX0 (wXo_1 E s5) rfl (Nat.le_of_ble_eq_true rfl) rfl kf_X0_22 rfl rfl ?_
    refine v_iload_n 39 0 cx dX0_open_38 rfl rfl rfl ?_
    refine v_iconst 40 cx dX0_open_39 ic_0 rfl ?_
    refine v_iast 41 20 0 cx dX0_open_40 (wXa_1_3 E s5) rfl (wXt_1_3 E s5) rfl h (fun s6 h => ?_)
    refine v_aload_n 42 1 cx dX0_open_41 rfl rfl rfl ?_
    refine v_get 45 1 4 cx dX0_open_42 iX0 (wXo_1 E s6) rfl (Nat.le_of_ble_eq_true rfl) rfl kf_X0_25 rfl rfl ?_
    refine v_iload_n 46 0 cx dX0_open_45 rfl rfl rfl ?_
    refine v_iconst 47 cx dX0_open_46 ic_1 rfl ?_
    refine v_iast 48 21 0 cx dX0_open_47 (wXa_1_4 E s6) rfl (wXt_1_4 E s6) rfl h (fun s7 h => ?_)
    refine v_aload_n 49 1 cx dX0_open_48 rfl rfl rfl ?_
    refine v_get 52 1 5 cx dX0_open_49 iX0 (wXo_1 E s7) rfl (Nat.le_of_ble_eq_true rfl) rfl kf_X0_28 rfl rfl ?_
    refine v_iload_n 53 0 cx dX0_open_52 rfl rfl rfl ?_
    refine v_iconst 54 cx dX0_open_53 ic_m1 rfl ?_
    refine v_iast 55 22 0 cx dX0_open_54 (wXa_1_5 E s7) rfl (wXt_1_5 E s7) rfl h (fun s8 h => ?_)
    refine v_aload_n 56 1 cx dX0_open_55 rfl rfl rfl ?_
    refine v_get 59 1 8 cx dX0_open_56 iX0 (wXo_1 E s8) rfl (Nat.le_of_ble_eq_true rfl) rfl kf_X0_37 rfl rfl ?_
    refine v_iload_n 60 0 cx dX0_open_59 rfl rfl rfl ?_
    refine v_lconst 61 cx dX0_open_60 lc_0 rfl ?_
    refine v_last 62 25 1 cx dX0_open_61 (wXa_1_8 E s8) rfl (wXt_1_8 E s8) rfl h (fun s9 h => ?_)
    refine v_aload_n 63 1 cx dX0_open_62 rfl rfl rfl ?_
    refine v_get 66 1 9 cx dX0_open_63 iX0 (wXo_1 E s9) rfl (Nat.le_of_ble_eq_true rfl) rfl kf_X0_41 rfl rfl ?_
    refine v_iload_n 67 0 cx dX0_open_66 rfl rfl rfl ?_
    refine v_lconst 68 cx dX0_open_67 lc_0 rfl ?_
    refine v_last 69 26 1 cx dX0_open_68 (wXa_1_9 E s9) rfl (wXt_1_9 E s9) rfl h (fun s10 h => ?_)
    refine v_iconst 70 cx dX0_open_69 ic_0 rfl ?_
    refine v_istore_n 71 (fun a11 => [(3, .int a11), (2, .int a2), (0, .ref (oX E 1)), (1, .int p1)]) cx dX0_open_70 rfl (by decide) (fun _ => rfl) rfl h (fun a11 h => ?_)
    refine v_lsub (lv' := [(0, .ref (oX E 1)), (2, .int a2), (3, .int a11)]) [2, 1, 0] rfl ?_
    refine v_loop (s0 := (a11, s10)) (V_X0_open_L71 C E a2) (K_X0_open_L71 C E a2) h (b_X0_open_L71 cx a2) (fun r14 h => ?_)
    show Vat C (wX E) 4 90 [(2, .int a2)] [] r14
    refine v_iload_n 91 0 cx dX0_open_90 rfl rfl rfl ?_
    exact hk _ _ _ _ (Option.some.inj h) dX0_open_91
  · refine v_iconst 12 cx dX0_open_11 ic_m1 rfl ?_
    exact hk _ _ _ _ (Option.some.inj h) dX0_open_12
def V_X0_stores_L4 (C : Cm) (E : Ev) (s : (Int32 × Int32 × Sg)) : Prop := Vat C (wX E) 3 4 [(0, .ref (oX E 1)), (1, .int s.1), (2, .int s.2.1)] [] s.2.2
def K_X0_stores_L4 (C : Cm) (E : Ev) : (Int32 × Sg) → Prop := (fun r : (Int32 × Sg) => Vat C (wX E) 3 31 [(1, .int r.1)] [] r.2)
set_option maxHeartbeats 4000000 in
set_option maxRecDepth 100000 in
theorem b_X0_stores_L4 {C : Cm} {E : Ev} (cx : Cx C (tyE E) cX0_stores RX0 3 0 0) : ∀ (s : (Int32 × Int32 × Sg)) (out : (Int32 × Int32 × Sg) ⊕ (Int32 × Sg)), m_X0_stores_L4 s.1 s.2.1 s.2.2 = some out → Sum.elim (V_X0_stores_L4 C E) (K_X0_stores_L4 C E) out → V_X0_stores_L4 C E s := by
  intro s out h hk
  obtain ⟨x1, x2, st⟩ := s
  show Vat C (wX E) 3 4 [(0, .ref (oX E 1)), (1, .int x1), (2, .int x2)] [] st
  replace h : m_X0_stores_L4 x1 x2 st = some out := h
  unfold m_X0_stores_L4 at h
  refine v_iload_n 5 2 cx dX0_stores_4 rfl rfl rfl ?_
  refine v_aload_n 6 0 cx dX0_stores_5 rfl rfl rfl ?_
  refine v_getI 9 1 0 cx dX0_stores_6 iX0 (wXo_1 E st) rfl (Nat.le_of_ble_eq_true rfl) rfl kf_X0_9 rfl rfl h (fun v3 h => ?_)
  refine v_icmp_ge 31 12 cx dX0_stores_9 (by decide) rfl h (fun h => ?_) (fun h => ?_)
  · cases h
    have hk : Vat C (wX E) 3 31 [(1, .int x1)] [] st := hk
    exact v_lsub (lv' := [(1, .int x1)]) [1] rfl (hk)
  · refine v_aload_n 13 0 cx dX0_stores_12 rfl rfl rfl ?_
    refine v_get 16 1 1 cx dX0_stores_13 iX0 (wXo_1 E st) rfl (Nat.le_of_ble_eq_true rfl) rfl kf_X0_15 rfl rfl ?_
    refine v_iload_n 17 2 cx dX0_stores_16 rfl rfl rfl ?_
    refine v_iald 18 18 0 cx dX0_stores_17 (wXa_1_1 E st) rfl rfl h (fun v4 h => ?_)
    refine v_iconst 19 cx dX0_stores_18 ic_5 rfl ?_
    refine v_icmp_ne 25 22 cx dX0_stores_19 (by decide) rfl h (fun h => ?_) (fun h => ?_)
    · refine v_iinc 28 2 (fun a5 => [(2, .int a5), (0, .ref (oX E 1)), (1, .int x1)]) cx dX0_stores_25 rfl ic_1 (by decide) (fun _ => rfl) rfl h (fun a5 h => ?_)
      refine v_goto 4 cx dX0_stores_28 (by decide) ?_
      cases h
      have hk : Vat C (wX E) 3 4 [(0, .ref (oX E 1)), (1, .int x1), (2, .int a5)] [] st := hk
      exact v_lsub (lv' := [(0, .ref (oX E 1)), (1, .int x1), (2, .int a5)]) [1, 2, 0] rfl (hk)
    · refine v_iinc 25 1 (fun a6 => [(1, .int a6), (0, .ref (oX E 1)), (2, .int x2)]) cx dX0_stores_22 rfl ic_1 (by decide) (fun _ => rfl) rfl h (fun a6 h => ?_)
      refine v_iinc 28 2 (fun a7 => [(2, .int a7), (1, .int a6), (0, .ref (oX E 1))]) cx dX0_stores_25 rfl ic_1 (by decide) (fun _ => rfl) rfl h (fun a7 h => ?_)
      refine v_goto 4 cx dX0_stores_28 (by decide) ?_
      cases h
      have hk : Vat C (wX E) 3 4 [(0, .ref (oX E 1)), (1, .int a6), (2, .int a7)] [] st := hk
      exact v_lsub (lv' := [(0, .ref (oX E 1)), (1, .int a6), (2, .int a7)]) [2, 1, 0] rfl (hk)
set_option maxHeartbeats 4000000 in
set_option maxRecDepth 100000 in
theorem c_X0_stores (l : Launch) (E : Ev) (st : Sg) : ∀ q, m_X0_stores st = some q → CtI l (wX E) (tyE E) yX0_stores cX0_stores 3 (some .int) 0 0 [.ref (oX E 1)] st q := by
  intro q h
  refine ctI_of (lv0 := [(0, .ref (oX E 1))]) (by decide) rfl (Nat.le_of_ble_eq_true rfl) (fun C hC cx hk => ?_)
  replace cx : Cx C (tyE E) cX0_stores RX0 3 0 0 := cx
  unfold m_X0_stores at h
  refine v_iconst 1 cx dX0_stores_0 ic_0 rfl ?_
  refine v_istore_n 2 (fun a1 => [(1, .int a1), (0, .ref (oX E 1))]) cx dX0_stores_1 rfl (by decide) (fun _ => rfl) rfl h (fun a1 h => ?_)
  refine v_iconst 3 cx dX0_stores_2 ic_0 rfl ?_
  refine v_istore_n 4 (fun a2 => [(2, .int a2), (1, .int a1), (0, .ref (oX E 1))]) cx dX0_stores_3 rfl (by decide) (fun _ => rfl) rfl h (fun a2 h => ?_)
  refine v_lsub (lv' := [(0, .ref (oX E 1)), (1, .int a1), (2, .int a2)]) [2, 1, 0] rfl ?_
  refine v_loop (s0 := (a1, a2, st)) (V_X0_stores_L4 C E) (K_X0_stores_L4 C E) h (b_X0_stores_L4 cx) (fun r8 h => ?_)
  show Vat C (wX E) 3 31 [(1, .int r8.1)] [] r8.2
  refine v_iload_n 32 0 cx dX0_stores_31 rfl rfl rfl ?_
  exact hk _ _ _ _ (Option.some.inj h) dX0_stores_32
def V_X0_unitsInAll_L4 (C : Cm) (E : Ev) (s : (Int32 × Int32 × Sg)) : Prop := Vat C (wX E) 3 4 [(0, .ref (oX E 1)), (1, .int s.1), (2, .int s.2.1)] [] s.2.2
def K_X0_unitsInAll_L4 (C : Cm) (E : Ev) : (Int32 × Sg) → Prop := (fun r : (Int32 × Sg) => Vat C (wX E) 3 25 [(1, .int r.1)] [] r.2)
set_option maxHeartbeats 4000000 in
set_option maxRecDepth 100000 in
theorem b_X0_unitsInAll_L4 {C : Cm} {E : Ev} (cx : Cx C (tyE E) cX0_unitsInAll RX0 3 0 0) : ∀ (s : (Int32 × Int32 × Sg)) (out : (Int32 × Int32 × Sg) ⊕ (Int32 × Sg)), m_X0_unitsInAll_L4 s.1 s.2.1 s.2.2 = some out → Sum.elim (V_X0_unitsInAll_L4 C E) (K_X0_unitsInAll_L4 C E) out → V_X0_unitsInAll_L4 C E s := by
  intro s out h hk
  obtain ⟨x1, x2, st⟩ := s
  show Vat C (wX E) 3 4 [(0, .ref (oX E 1)), (1, .int x1), (2, .int x2)] [] st
  replace h : m_X0_unitsInAll_L4 x1 x2 st = some out := h
  unfold m_X0_unitsInAll_L4 at h
  refine v_iload_n 5 2 cx dX0_unitsInAll_4 rfl rfl rfl ?_
  refine v_bipush 7 cx dX0_unitsInAll_5 bp_6 rfl ?_
  refine v_icmp_ge 25 10 cx dX0_unitsInAll_7 (by decide) rfl h (fun h => ?_) (fun h => ?_)
  · cases h
    have hk : Vat C (wX E) 3 25 [(1, .int x1)] [] st := hk
    exact v_lsub (lv' := [(1, .int x1)]) [1] rfl (hk)
  · refine v_iload_n 11 1 cx dX0_unitsInAll_10 rfl rfl rfl ?_
    refine v_aload_n 12 0 cx dX0_unitsInAll_11 rfl rfl rfl ?_
    refine v_get 15 1 10 cx dX0_unitsInAll_12 iX0 (wXo_1 E st) rfl (Nat.le_of_ble_eq_true rfl) rfl kf_X0_44 rfl rfl ?_
    refine v_iload_n 16 2 cx dX0_unitsInAll_15 rfl rfl rfl ?_
    refine v_iald 17 27 0 cx dX0_unitsInAll_16 (wXa_1_10 E st) rfl rfl h (fun v3 h => ?_)
    refine v_iadd 18 cx dX0_unitsInAll_17 rfl ?_
    refine v_istore_n 19 (fun a4 => [(1, .int a4), (0, .ref (oX E 1)), (2, .int x2)]) cx dX0_unitsInAll_18 rfl (by decide) (fun _ => rfl) rfl h (fun a4 h => ?_)
    refine v_iinc 22 2 (fun a5 => [(2, .int a5), (1, .int a4), (0, .ref (oX E 1))]) cx dX0_unitsInAll_19 rfl ic_1 (by decide) (fun _ => rfl) rfl h (fun a5 h => ?_)
    refine v_goto 4 cx dX0_unitsInAll_22 (by decide) ?_
    cases h
    have hk : Vat C (wX E) 3 4 [(0, .ref (oX E 1)), (1, .int a4), (2, .int a5)] [] st := hk
    exact v_lsub (lv' := [(0, .ref (oX E 1)), (1, .int a4), (2, .int a5)]) [2, 1, 0] rfl (hk)
set_option maxHeartbeats 4000000 in
set_option maxRecDepth 100000 in
theorem c_X0_unitsInAll (l : Launch) (E : Ev) (st : Sg) : ∀ q, m_X0_unitsInAll st = some q → CtI l (wX E) (tyE E) yX0_unitsInAll cX0_unitsInAll 3 (some .int) 0 0 [.ref (oX E 1)] st q := by
  intro q h
  refine ctI_of (lv0 := [(0, .ref (oX E 1))]) (by decide) rfl (Nat.le_of_ble_eq_true rfl) (fun C hC cx hk => ?_)
  replace cx : Cx C (tyE E) cX0_unitsInAll RX0 3 0 0 := cx
  unfold m_X0_unitsInAll at h
  refine v_iconst 1 cx dX0_unitsInAll_0 ic_0 rfl ?_
  refine v_istore_n 2 (fun a1 => [(1, .int a1), (0, .ref (oX E 1))]) cx dX0_unitsInAll_1 rfl (by decide) (fun _ => rfl) rfl h (fun a1 h => ?_)
  refine v_iconst 3 cx dX0_unitsInAll_2 ic_0 rfl ?_
  refine v_istore_n 4 (fun a2 => [(2, .int a2), (1, .int a1), (0, .ref (oX E 1))]) cx dX0_unitsInAll_3 rfl (by decide) (fun _ => rfl) rfl h (fun a2 h => ?_)
  refine v_lsub (lv' := [(0, .ref (oX E 1)), (1, .int a1), (2, .int a2)]) [2, 1, 0] rfl ?_
  refine v_loop (s0 := (a1, a2, st)) (V_X0_unitsInAll_L4 C E) (K_X0_unitsInAll_L4 C E) h (b_X0_unitsInAll_L4 cx) (fun r6 h => ?_)
  show Vat C (wX E) 3 25 [(1, .int r6.1)] [] r6.2
  refine v_iload_n 26 0 cx dX0_unitsInAll_25 rfl rfl rfl ?_
  exact hk _ _ _ _ (Option.some.inj h) dX0_unitsInAll_26
set_option maxHeartbeats 4000000 in
set_option maxRecDepth 100000 in
theorem c_X1_write_2 (l : Launch) (E : Ev) (st : Sg) (p1 : Int32) (p2 : Int32) (p3 : Int32) (p4 : Int32) (p5 : Int32) : ∀ q, m_X1_write 2 p1 p2 p3 p4 p5 st = some q → CtV l (wX E) (tyE E) yX1_write cX1_write 6 none 0 0 [.ref (oX E 2), .int p1, .int p2, .int p3, .int p4, .int p5] st q := by
  intro q h
  refine ctV_of (lv0 := [(0, .ref (oX E 2)), (1, .int p1), (2, .int p2), (3, .int p3), (4, .int p4), (5, .int p5)]) (by decide) rfl (Nat.le_of_ble_eq_true rfl) (fun C hC cx hk => ?_)
  replace cx : Cx C (tyE E) cX1_write RX1 6 0 0 := cx
  unfold m_X1_write at h
  refine v_aload_n 1 0 cx dX1_write_0 rfl rfl rfl ?_
  refine v_get 4 2 1 cx dX1_write_1 iX1 (wXo_2 E st) rfl (Nat.le_of_ble_eq_true rfl) rfl kf_X1_19 rfl rfl ?_
  refine v_iload_n 5 1 cx dX1_write_4 rfl rfl rfl ?_
  refine v_iload_n 6 2 cx dX1_write_5 rfl rfl rfl ?_
  refine v_iast 7 28 0 cx dX1_write_6 (wXa_2_1 E st) rfl (wXt_2_1 E st) rfl h (fun s1 h => ?_)
  refine v_aload_n 8 0 cx dX1_write_7 rfl rfl rfl ?_
  refine v_get 11 2 2 cx dX1_write_8 iX1 (wXo_2 E s1) rfl (Nat.le_of_ble_eq_true rfl) rfl kf_X1_23 rfl rfl ?_
  refine v_iload_n 12 1 cx dX1_write_11 rfl rfl rfl ?_
  refine v_iload_n 13 3 cx dX1_write_12 rfl rfl rfl ?_
  refine v_iast 14 29 0 cx dX1_write_13 (wXa_2_2 E s1) rfl (wXt_2_2 E s1) rfl h (fun s2 h => ?_)
  refine v_aload_n 15 0 cx dX1_write_14 rfl rfl rfl ?_
  refine v_get 18 2 3 cx dX1_write_15 iX1 (wXo_2 E s2) rfl (Nat.le_of_ble_eq_true rfl) rfl kf_X1_26 rfl rfl ?_
  refine v_iload_n 19 1 cx dX1_write_18 rfl rfl rfl ?_
  refine v_iload 21 4 cx dX1_write_19 rfl rfl ?_
  refine v_iast 22 30 0 cx dX1_write_21 (wXa_2_3 E s2) rfl (wXt_2_3 E s2) rfl h (fun s3 h => ?_)
  refine v_aload_n 23 0 cx dX1_write_22 rfl rfl rfl ?_
  refine v_get 26 2 4 cx dX1_write_23 iX1 (wXo_2 E s3) rfl (Nat.le_of_ble_eq_true rfl) rfl kf_X1_29 rfl rfl ?_
  refine v_iload_n 27 1 cx dX1_write_26 rfl rfl rfl ?_
  refine v_iload 29 5 cx dX1_write_27 rfl rfl ?_
  refine v_iast 30 31 0 cx dX1_write_29 (wXa_2_4 E s3) rfl (wXt_2_4 E s3) rfl h (fun s4 h => ?_)
  exact hk _ _ _ _ (Option.some.inj h) dX1_write_30
set_option maxHeartbeats 4000000 in
set_option maxRecDepth 100000 in
theorem c_X1_write_4 (l : Launch) (E : Ev) (st : Sg) (p1 : Int32) (p2 : Int32) (p3 : Int32) (p4 : Int32) (p5 : Int32) : ∀ q, m_X1_write 4 p1 p2 p3 p4 p5 st = some q → CtV l (wX E) (tyE E) yX1_write cX1_write 6 none 0 0 [.ref (oX E 4), .int p1, .int p2, .int p3, .int p4, .int p5] st q := by
  intro q h
  refine ctV_of (lv0 := [(0, .ref (oX E 4)), (1, .int p1), (2, .int p2), (3, .int p3), (4, .int p4), (5, .int p5)]) (by decide) rfl (Nat.le_of_ble_eq_true rfl) (fun C hC cx hk => ?_)
  replace cx : Cx C (tyE E) cX1_write RX1 6 0 0 := cx
  unfold m_X1_write at h
  refine v_aload_n 1 0 cx dX1_write_0 rfl rfl rfl ?_
  refine v_get 4 4 1 cx dX1_write_1 iX1 (wXo_4 E st) rfl (Nat.le_of_ble_eq_true rfl) rfl kf_X1_19 rfl rfl ?_
  refine v_iload_n 5 1 cx dX1_write_4 rfl rfl rfl ?_
  refine v_iload_n 6 2 cx dX1_write_5 rfl rfl rfl ?_
  refine v_iast 7 32 0 cx dX1_write_6 (wXa_4_1 E st) rfl (wXt_4_1 E st) rfl h (fun s1 h => ?_)
  refine v_aload_n 8 0 cx dX1_write_7 rfl rfl rfl ?_
  refine v_get 11 4 2 cx dX1_write_8 iX1 (wXo_4 E s1) rfl (Nat.le_of_ble_eq_true rfl) rfl kf_X1_23 rfl rfl ?_
  refine v_iload_n 12 1 cx dX1_write_11 rfl rfl rfl ?_
  refine v_iload_n 13 3 cx dX1_write_12 rfl rfl rfl ?_
  refine v_iast 14 33 0 cx dX1_write_13 (wXa_4_2 E s1) rfl (wXt_4_2 E s1) rfl h (fun s2 h => ?_)
  refine v_aload_n 15 0 cx dX1_write_14 rfl rfl rfl ?_
  refine v_get 18 4 3 cx dX1_write_15 iX1 (wXo_4 E s2) rfl (Nat.le_of_ble_eq_true rfl) rfl kf_X1_26 rfl rfl ?_
  refine v_iload_n 19 1 cx dX1_write_18 rfl rfl rfl ?_
  refine v_iload 21 4 cx dX1_write_19 rfl rfl ?_
  refine v_iast 22 34 0 cx dX1_write_21 (wXa_4_3 E s2) rfl (wXt_4_3 E s2) rfl h (fun s3 h => ?_)
  refine v_aload_n 23 0 cx dX1_write_22 rfl rfl rfl ?_
  refine v_get 26 4 4 cx dX1_write_23 iX1 (wXo_4 E s3) rfl (Nat.le_of_ble_eq_true rfl) rfl kf_X1_29 rfl rfl ?_
  refine v_iload_n 27 1 cx dX1_write_26 rfl rfl rfl ?_
  refine v_iload 29 5 cx dX1_write_27 rfl rfl ?_
  refine v_iast 30 35 0 cx dX1_write_29 (wXa_4_4 E s3) rfl (wXt_4_4 E s3) rfl h (fun s4 h => ?_)
  exact hk _ _ _ _ (Option.some.inj h) dX1_write_30
set_option maxHeartbeats 4000000 in
set_option maxRecDepth 100000 in
theorem c_X1_join_2 (l : Launch) (E : Ev) (st : Sg) (p1 : Int32) (p2 : Int32) (p3 : Int32) (p4 : Int32) : ∀ q, m_X1_join 2 p1 p2 p3 p4 st = some q → CtI l (wX E) (tyE E) yX1_join cX1_join 5 (some .boolean) 1 25 [.ref (oX E 2), .int p1, .int p2, .int p3, .int p4] st q := by
  intro q h
  refine ctZ_of (lv0 := [(0, .ref (oX E 2)), (1, .int p1), (2, .int p2), (3, .int p3), (4, .int p4)]) (by decide) rfl (Nat.le_of_ble_eq_true rfl) (fun C hC cx hk => ?_)
  replace cx : Cx C (tyE E) cX1_join RX1 5 1 25 := cx
  unfold m_X1_join at h
  refine v_aload_n 1 0 cx dX1_join_0 rfl rfl rfl ?_
  refine v_getI 4 2 0 cx dX1_join_1 iX1 (wXo_2 E st) rfl (Nat.le_of_ble_eq_true rfl) rfl kf_X1_7 rfl rfl h (fun v1 h => ?_)
  refine v_aload_n 5 0 cx dX1_join_4 rfl rfl rfl ?_
  refine v_get 8 2 1 cx dX1_join_5 iX1 (wXo_2 E st) rfl (Nat.le_of_ble_eq_true rfl) rfl kf_X1_19 rfl rfl ?_
  refine v_alen 9 28 0 (v := Int32.ofNat (lnE 2)) cx dX1_join_8 (wXa_2_1 E st) rfl rfl rfl ?_
  refine v_icmp_lt 14 12 cx dX1_join_9 (by decide) rfl h (fun h => ?_) (fun h => ?_)
  · refine v_aload_n 15 0 cx dX1_join_14 rfl rfl rfl ?_
    refine v_aload_n 16 0 cx dX1_join_15 rfl rfl rfl ?_
    refine v_getI 19 2 0 cx dX1_join_16 iX1 (wXo_2 E st) rfl (Nat.le_of_ble_eq_true rfl) rfl kf_X1_7 rfl rfl h (fun v2 h => ?_)
    refine v_iload_n 20 1 cx dX1_join_19 rfl rfl rfl ?_
    refine v_iload_n 21 2 cx dX1_join_20 rfl rfl rfl ?_
    refine v_iload_n 22 3 cx dX1_join_21 rfl rfl rfl ?_
    refine v_iload 24 4 cx dX1_join_22 rfl rfl ?_
    refine v_callVV 27 2 cx dX1_join_24 km_X1_32 ca_X1_write (wXo_2 E st) rfl (c_X1_write_2 C.2.1 E st v2 p1 p2 p3 p4 ) rfl (by decide) rfl (Nat.le_of_ble_eq_true rfl) rfl h (fun _ s3 h => ?_)
    refine v_aload_n 28 0 cx dX1_join_27 rfl rfl rfl ?_
    refine v_dup 29 cx dX1_join_28 rfl rfl ?_
    refine v_getI 32 2 0 cx dX1_join_29 iX1 (wXo_2 E s3) rfl (Nat.le_of_ble_eq_true rfl) rfl kf_X1_7 rfl rfl h (fun v4 h => ?_)
    refine v_iconst 33 cx dX1_join_32 ic_1 rfl ?_
    refine v_iadd 34 cx dX1_join_33 rfl ?_
    refine v_putI 37 2 0 cx dX1_join_34 iX1 tyX1_ok nmX1 (wXo_2 E s3) rfl (Nat.le_of_ble_eq_true rfl) rfl kf_X1_7 rfl rfl rfl rfl (Nat.le_of_ble_eq_true rfl) (wXs_2_0 E s3 _) rfl h (fun s5 h => ?_)
    refine v_iconst 38 cx dX1_join_37 ic_1 rfl ?_
    exact hk _ _ _ _ (Option.some.inj h) (Or.inr rfl) dX1_join_38
  · refine v_iconst 13 cx dX1_join_12 ic_0 rfl ?_
    exact hk _ _ _ _ (Option.some.inj h) (Or.inl rfl) dX1_join_13
set_option maxHeartbeats 4000000 in
set_option maxRecDepth 100000 in
theorem c_X1_join_4 (l : Launch) (E : Ev) (st : Sg) (p1 : Int32) (p2 : Int32) (p3 : Int32) (p4 : Int32) : ∀ q, m_X1_join 4 p1 p2 p3 p4 st = some q → CtI l (wX E) (tyE E) yX1_join cX1_join 5 (some .boolean) 1 25 [.ref (oX E 4), .int p1, .int p2, .int p3, .int p4] st q := by
  intro q h
  refine ctZ_of (lv0 := [(0, .ref (oX E 4)), (1, .int p1), (2, .int p2), (3, .int p3), (4, .int p4)]) (by decide) rfl (Nat.le_of_ble_eq_true rfl) (fun C hC cx hk => ?_)
  replace cx : Cx C (tyE E) cX1_join RX1 5 1 25 := cx
  unfold m_X1_join at h
  refine v_aload_n 1 0 cx dX1_join_0 rfl rfl rfl ?_
  refine v_getI 4 4 0 cx dX1_join_1 iX1 (wXo_4 E st) rfl (Nat.le_of_ble_eq_true rfl) rfl kf_X1_7 rfl rfl h (fun v1 h => ?_)
  refine v_aload_n 5 0 cx dX1_join_4 rfl rfl rfl ?_
  refine v_get 8 4 1 cx dX1_join_5 iX1 (wXo_4 E st) rfl (Nat.le_of_ble_eq_true rfl) rfl kf_X1_19 rfl rfl ?_
  refine v_alen 9 32 0 (v := Int32.ofNat (lnE 4)) cx dX1_join_8 (wXa_4_1 E st) rfl rfl rfl ?_
  refine v_icmp_lt 14 12 cx dX1_join_9 (by decide) rfl h (fun h => ?_) (fun h => ?_)
  · refine v_aload_n 15 0 cx dX1_join_14 rfl rfl rfl ?_
    refine v_aload_n 16 0 cx dX1_join_15 rfl rfl rfl ?_
    refine v_getI 19 4 0 cx dX1_join_16 iX1 (wXo_4 E st) rfl (Nat.le_of_ble_eq_true rfl) rfl kf_X1_7 rfl rfl h (fun v2 h => ?_)
    refine v_iload_n 20 1 cx dX1_join_19 rfl rfl rfl ?_
    refine v_iload_n 21 2 cx dX1_join_20 rfl rfl rfl ?_
    refine v_iload_n 22 3 cx dX1_join_21 rfl rfl rfl ?_
    refine v_iload 24 4 cx dX1_join_22 rfl rfl ?_
    refine v_callVV 27 4 cx dX1_join_24 km_X1_32 ca_X1_write (wXo_4 E st) rfl (c_X1_write_4 C.2.1 E st v2 p1 p2 p3 p4 ) rfl (by decide) rfl (Nat.le_of_ble_eq_true rfl) rfl h (fun _ s3 h => ?_)
    refine v_aload_n 28 0 cx dX1_join_27 rfl rfl rfl ?_
    refine v_dup 29 cx dX1_join_28 rfl rfl ?_
    refine v_getI 32 4 0 cx dX1_join_29 iX1 (wXo_4 E s3) rfl (Nat.le_of_ble_eq_true rfl) rfl kf_X1_7 rfl rfl h (fun v4 h => ?_)
    refine v_iconst 33 cx dX1_join_32 ic_1 rfl ?_
    refine v_iadd 34 cx dX1_join_33 rfl ?_
    refine v_putI 37 4 0 cx dX1_join_34 iX1 tyX1_ok nmX1 (wXo_4 E s3) rfl (Nat.le_of_ble_eq_true rfl) rfl kf_X1_7 rfl rfl rfl rfl (Nat.le_of_ble_eq_true rfl) (wXs_4_0 E s3 _) rfl h (fun s5 h => ?_)
    refine v_iconst 38 cx dX1_join_37 ic_1 rfl ?_
    exact hk _ _ _ _ (Option.some.inj h) (Or.inr rfl) dX1_join_38
  · refine v_iconst 13 cx dX1_join_12 ic_0 rfl ?_
    exact hk _ _ _ _ (Option.some.inj h) (Or.inl rfl) dX1_join_13
def V_X10_joinClashes_L2 (C : Cm) (E : Ev) (x2 : Int32) (s : (Int32 × Sg)) : Prop := Vat C (wX E) 4 2 [(0, .ref (oX E 3)), (1, .ref (oX E 1)), (2, .int x2), (3, .int s.1)] [] s.2
def K_X10_joinClashes_L2 (C : Cm) (E : Ev) (x2 : Int32) : (Sg) → Prop := (fun r : (Sg) => Vat C (wX E) 4 46 [] [] r)
set_option maxHeartbeats 4000000 in
set_option maxRecDepth 100000 in
theorem b_X10_joinClashes_L2 {C : Cm} {E : Ev} (cx : Cx C (tyE E) cX10_joinClashes RX10 4 2 49) (x2 : Int32) : ∀ (s : (Int32 × Sg)) (out : (Int32 × Sg) ⊕ (Sg)), m_X10_joinClashes_L2 x2 s.1 s.2 = some out → Sum.elim (V_X10_joinClashes_L2 C E x2) (K_X10_joinClashes_L2 C E x2) out → V_X10_joinClashes_L2 C E x2 s := by
  intro s out h hk
  obtain ⟨x3, st⟩ := s
  show Vat C (wX E) 4 2 [(0, .ref (oX E 3)), (1, .ref (oX E 1)), (2, .int x2), (3, .int x3)] [] st
  replace h : m_X10_joinClashes_L2 x2 x3 st = some out := h
  unfold m_X10_joinClashes_L2 at h
  refine v_iload_n 3 3 cx dX10_joinClashes_2 rfl rfl rfl ?_
  refine v_iload_n 4 2 cx dX10_joinClashes_3 rfl rfl rfl ?_
  refine v_icmp_ge 46 7 cx dX10_joinClashes_4 (by decide) rfl h (fun h => ?_) (fun h => ?_)
  · cases h
    have hk : Vat C (wX E) 4 46 [] [] st := hk
    exact v_lsub (lv' := []) [] rfl (hk)
  · refine v_aload_n 8 1 cx dX10_joinClashes_7 rfl rfl rfl ?_
    refine v_iload_n 9 3 cx dX10_joinClashes_8 rfl rfl rfl ?_
    refine v_iload_n 10 2 cx dX10_joinClashes_9 rfl rfl rfl ?_
    refine v_callVI 13 1 cx dX10_joinClashes_10 km_X10_74 ca_X0_clash (wXo_1 E st) rfl (c_X0_clash C.2.1 E st x3 x2 ) rfl (by decide) rfl (Nat.le_of_ble_eq_true rfl) rfl h (fun v3 s2 h => ?_)
    refine v_if_eq 40 16 cx dX10_joinClashes_13 (by decide) rfl h (fun h => ?_) (fun h => ?_)
    · refine v_iinc 43 3 (fun a4 => [(3, .int a4), (0, .ref (oX E 3)), (1, .ref (oX E 1)), (2, .int x2)]) cx dX10_joinClashes_40 rfl ic_1 (by decide) (fun _ => rfl) rfl h (fun a4 h => ?_)
      refine v_goto 2 cx dX10_joinClashes_43 (by decide) ?_
      cases h
      have hk : Vat C (wX E) 4 2 [(0, .ref (oX E 3)), (1, .ref (oX E 1)), (2, .int x2), (3, .int a4)] [] s2 := hk
      exact v_lsub (lv' := [(0, .ref (oX E 3)), (1, .ref (oX E 1)), (2, .int x2), (3, .int a4)]) [1, 2, 3, 0] rfl (hk)
    · refine v_aload_n 17 0 cx dX10_joinClashes_16 rfl rfl rfl ?_
      refine v_get 20 3 0 cx dX10_joinClashes_17 iX10 (wXo_3 E s2) rfl (Nat.le_of_ble_eq_true rfl) rfl kf_X10_14 rfl rfl ?_
      refine v_iload_n 21 3 cx dX10_joinClashes_20 rfl rfl rfl ?_
      refine v_iload_n 22 2 cx dX10_joinClashes_21 rfl rfl rfl ?_
      refine v_iconst 23 cx dX10_joinClashes_22 ic_1 rfl ?_
      refine v_iconst 24 cx dX10_joinClashes_23 ic_0 rfl ?_
      refine v_callVI 27 4 cx dX10_joinClashes_24 km_X10_70 ca_X1_join (wXo_4 E s2) rfl (c_X1_join_4 C.2.1 E s2 x3 x2 1 0 ) rfl (by decide) rfl (Nat.le_of_ble_eq_true rfl) rfl h (fun v6 s5 h => ?_)
      refine v_pop 28 cx dX10_joinClashes_27 rfl rfl ?_
      refine v_aload_n 29 0 cx dX10_joinClashes_28 rfl rfl rfl ?_
      refine v_get 32 3 0 cx dX10_joinClashes_29 iX10 (wXo_3 E s5) rfl (Nat.le_of_ble_eq_true rfl) rfl kf_X10_14 rfl rfl ?_
      refine v_iload_n 33 2 cx dX10_joinClashes_32 rfl rfl rfl ?_
      refine v_iload_n 34 3 cx dX10_joinClashes_33 rfl rfl rfl ?_
      refine v_iconst 35 cx dX10_joinClashes_34 ic_1 rfl ?_
      refine v_iconst 36 cx dX10_joinClashes_35 ic_1 rfl ?_
      refine v_callVI 39 4 cx dX10_joinClashes_36 km_X10_70 ca_X1_join (wXo_4 E s5) rfl (c_X1_join_4 C.2.1 E s5 x2 x3 1 1 ) rfl (by decide) rfl (Nat.le_of_ble_eq_true rfl) rfl h (fun v8 s7 h => ?_)
      refine v_pop 40 cx dX10_joinClashes_39 rfl rfl ?_
      refine v_iinc 43 3 (fun a9 => [(3, .int a9), (0, .ref (oX E 3)), (1, .ref (oX E 1)), (2, .int x2)]) cx dX10_joinClashes_40 rfl ic_1 (by decide) (fun _ => rfl) rfl h (fun a9 h => ?_)
      refine v_goto 2 cx dX10_joinClashes_43 (by decide) ?_
      cases h
      have hk : Vat C (wX E) 4 2 [(0, .ref (oX E 3)), (1, .ref (oX E 1)), (2, .int x2), (3, .int a9)] [] s7 := hk
      exact v_lsub (lv' := [(0, .ref (oX E 3)), (1, .ref (oX E 1)), (2, .int x2), (3, .int a9)]) [1, 2, 3, 0] rfl (hk)
set_option maxHeartbeats 4000000 in
set_option maxRecDepth 100000 in
theorem c_X10_joinClashes (l : Launch) (E : Ev) (st : Sg) (p2 : Int32) : ∀ q, m_X10_joinClashes p2 st = some q → CtV l (wX E) (tyE E) yX10_joinClashes cX10_joinClashes 4 none 2 49 [.ref (oX E 3), .ref (oX E 1), .int p2] st q := by
  intro q h
  refine ctV_of (lv0 := [(0, .ref (oX E 3)), (1, .ref (oX E 1)), (2, .int p2)]) (by decide) rfl (Nat.le_of_ble_eq_true rfl) (fun C hC cx hk => ?_)
  replace cx : Cx C (tyE E) cX10_joinClashes RX10 4 2 49 := cx
  unfold m_X10_joinClashes at h
  refine v_iconst 1 cx dX10_joinClashes_0 ic_0 rfl ?_
  refine v_istore_n 2 (fun a1 => [(3, .int a1), (0, .ref (oX E 3)), (1, .ref (oX E 1)), (2, .int p2)]) cx dX10_joinClashes_1 rfl (by decide) (fun _ => rfl) rfl h (fun a1 h => ?_)
  refine v_lsub (lv' := [(0, .ref (oX E 3)), (1, .ref (oX E 1)), (2, .int p2), (3, .int a1)]) [1, 2, 3, 0] rfl ?_
  refine v_loop (s0 := (a1, st)) (V_X10_joinClashes_L2 C E p2) (K_X10_joinClashes_L2 C E p2) h (b_X10_joinClashes_L2 cx p2) (fun r10 h => ?_)
  show Vat C (wX E) 4 46 [] [] r10
  exact hk _ _ _ _ (Option.some.inj h) dX10_joinClashes_46
def V_X10_joinOperands_L2 (C : Cm) (E : Ev) (x2 : Int32) (s : (Int32 × Sg)) : Prop := Vat C (wX E) 5 2 [(0, .ref (oX E 3)), (1, .ref (oX E 1)), (2, .int x2), (3, .int s.1)] [] s.2
def K_X10_joinOperands_L2 (C : Cm) (E : Ev) (x2 : Int32) : (Sg) → Prop := (fun r : (Sg) => Vat C (wX E) 5 62 [] [] r)
set_option maxHeartbeats 4000000 in
set_option maxRecDepth 100000 in
theorem b_X10_joinOperands_L2 {C : Cm} {E : Ev} (cx : Cx C (tyE E) cX10_joinOperands RX10 5 2 49) (x2 : Int32) : ∀ (s : (Int32 × Sg)) (out : (Int32 × Sg) ⊕ (Sg)), m_X10_joinOperands_L2 x2 s.1 s.2 = some out → Sum.elim (V_X10_joinOperands_L2 C E x2) (K_X10_joinOperands_L2 C E x2) out → V_X10_joinOperands_L2 C E x2 s := by
  intro s out h hk
  obtain ⟨x3, st⟩ := s
  show Vat C (wX E) 5 2 [(0, .ref (oX E 3)), (1, .ref (oX E 1)), (2, .int x2), (3, .int x3)] [] st
  replace h : m_X10_joinOperands_L2 x2 x3 st = some out := h
  unfold m_X10_joinOperands_L2 at h
  refine v_iload_n 3 3 cx dX10_joinOperands_2 rfl rfl rfl ?_
  refine v_iconst 4 cx dX10_joinOperands_3 ic_3 rfl ?_
  refine v_icmp_ge 62 7 cx dX10_joinOperands_4 (by decide) rfl h (fun h => ?_) (fun h => ?_)
  · cases h
    have hk : Vat C (wX E) 5 62 [] [] st := hk
    exact v_lsub (lv' := []) [] rfl (hk)
  · refine v_aload_n 8 1 cx dX10_joinOperands_7 rfl rfl rfl ?_
    refine v_get 11 1 6 cx dX10_joinOperands_8 iX0 (wXo_1 E st) rfl (Nat.le_of_ble_eq_true rfl) rfl kf_X10_57 rfl rfl ?_
    refine v_iload_n 12 2 cx dX10_joinOperands_11 rfl rfl rfl ?_
    refine v_iconst 13 cx dX10_joinOperands_12 ic_3 rfl ?_
    refine v_imul 14 cx dX10_joinOperands_13 rfl ?_
    refine v_iload_n 15 3 cx dX10_joinOperands_14 rfl rfl rfl ?_
    refine v_iadd 16 cx dX10_joinOperands_15 rfl ?_
    refine v_iald 17 23 0 cx dX10_joinOperands_16 (wXa_1_6 E st) rfl rfl h (fun v2 h => ?_)
    refine v_istore 19 (fun a3 => [(4, .int a3), (0, .ref (oX E 3)), (1, .ref (oX E 1)), (2, .int x2), (3, .int x3)]) cx dX10_joinOperands_17 (by decide) (fun _ => rfl) rfl h (fun a3 h => ?_)
    refine v_aload_n 20 2 cx dX10_joinOperands_19 rfl rfl rfl ?_
    refine v_iload 22 0 cx dX10_joinOperands_20 rfl rfl ?_
    refine v_callVI 25 1 cx dX10_joinOperands_22 km_X10_60 ca_X0_has (wXo_1 E st) rfl (c_X0_has C.2.1 E st a3 ) rfl (by decide) rfl (Nat.le_of_ble_eq_true rfl) rfl h (fun v5 s4 h => ?_)
    refine v_if_eq 56 28 cx dX10_joinOperands_25 (by decide) rfl h (fun h => ?_) (fun h => ?_)
    · refine v_iinc 59 4 (fun a6 => [(3, .int a6), (4, .int a3), (0, .ref (oX E 3)), (1, .ref (oX E 1)), (2, .int x2)]) cx dX10_joinOperands_56 rfl ic_1 (by decide) (fun _ => rfl) rfl h (fun a6 h => ?_)
      refine v_goto 2 cx dX10_joinOperands_59 (by decide) ?_
      cases h
      have hk : Vat C (wX E) 5 2 [(0, .ref (oX E 3)), (1, .ref (oX E 1)), (2, .int x2), (3, .int a6)] [] s4 := hk
      exact v_lsub (lv' := [(0, .ref (oX E 3)), (1, .ref (oX E 1)), (2, .int x2), (3, .int a6)]) [2, 3, 4, 0] rfl (hk)
    · refine v_aload_n 29 1 cx dX10_joinOperands_28 rfl rfl rfl ?_
      refine v_get 32 3 0 cx dX10_joinOperands_29 iX10 (wXo_3 E s4) rfl (Nat.le_of_ble_eq_true rfl) rfl kf_X10_14 rfl rfl ?_
      refine v_iload 34 0 cx dX10_joinOperands_32 rfl rfl ?_
      refine v_iload_n 35 3 cx dX10_joinOperands_34 rfl rfl rfl ?_
      refine v_aload_n 36 2 cx dX10_joinOperands_35 rfl rfl rfl ?_
      refine v_get 39 1 2 cx dX10_joinOperands_36 iX0 (wXo_1 E s4) rfl (Nat.le_of_ble_eq_true rfl) rfl kf_X10_64 rfl rfl ?_
      refine v_iload 41 0 cx dX10_joinOperands_39 rfl rfl ?_
      refine v_iald 42 19 0 cx dX10_joinOperands_41 (wXa_1_2 E s4) rfl rfl h (fun v7 h => ?_)
      refine v_aload_n 43 2 cx dX10_joinOperands_42 rfl rfl rfl ?_
      refine v_get 46 1 7 cx dX10_joinOperands_43 iX0 (wXo_1 E s4) rfl (Nat.le_of_ble_eq_true rfl) rfl kf_X10_67 rfl rfl ?_
      refine v_iload_n 47 3 cx dX10_joinOperands_46 rfl rfl rfl ?_
      refine v_iconst 48 cx dX10_joinOperands_47 ic_3 rfl ?_
      refine v_imul 49 cx dX10_joinOperands_48 rfl ?_
      refine v_iload_n 50 4 cx dX10_joinOperands_49 rfl rfl rfl ?_
      refine v_iadd 51 cx dX10_joinOperands_50 rfl ?_
      refine v_iald 52 24 0 cx dX10_joinOperands_51 (wXa_1_7 E s4) rfl rfl h (fun v8 h => ?_)
      refine v_callVI 55 4 cx dX10_joinOperands_52 km_X10_70 ca_X1_join (wXo_4 E s4) rfl (c_X1_join_4 C.2.1 E s4 a3 x2 v7 v8 ) rfl (by decide) rfl (Nat.le_of_ble_eq_true rfl) rfl h (fun v10 s9 h => ?_)
      refine v_pop 56 cx dX10_joinOperands_55 rfl rfl ?_
      refine v_iinc 59 4 (fun a11 => [(3, .int a11), (4, .int a3), (0, .ref (oX E 3)), (1, .ref (oX E 1)), (2, .int x2)]) cx dX10_joinOperands_56 rfl ic_1 (by decide) (fun _ => rfl) rfl h (fun a11 h => ?_)
      refine v_goto 2 cx dX10_joinOperands_59 (by decide) ?_
      cases h
      have hk : Vat C (wX E) 5 2 [(0, .ref (oX E 3)), (1, .ref (oX E 1)), (2, .int x2), (3, .int a11)] [] s9 := hk
      exact v_lsub (lv' := [(0, .ref (oX E 3)), (1, .ref (oX E 1)), (2, .int x2), (3, .int a11)]) [2, 3, 4, 0] rfl (hk)
set_option maxHeartbeats 4000000 in
set_option maxRecDepth 100000 in
theorem c_X10_joinOperands (l : Launch) (E : Ev) (st : Sg) (p2 : Int32) : ∀ q, m_X10_joinOperands p2 st = some q → CtV l (wX E) (tyE E) yX10_joinOperands cX10_joinOperands 5 none 2 49 [.ref (oX E 3), .ref (oX E 1), .int p2] st q := by
  intro q h
  refine ctV_of (lv0 := [(0, .ref (oX E 3)), (1, .ref (oX E 1)), (2, .int p2)]) (by decide) rfl (Nat.le_of_ble_eq_true rfl) (fun C hC cx hk => ?_)
  replace cx : Cx C (tyE E) cX10_joinOperands RX10 5 2 49 := cx
  unfold m_X10_joinOperands at h
  refine v_iconst 1 cx dX10_joinOperands_0 ic_0 rfl ?_
  refine v_istore_n 2 (fun a1 => [(3, .int a1), (0, .ref (oX E 3)), (1, .ref (oX E 1)), (2, .int p2)]) cx dX10_joinOperands_1 rfl (by decide) (fun _ => rfl) rfl h (fun a1 h => ?_)
  refine v_lsub (lv' := [(0, .ref (oX E 3)), (1, .ref (oX E 1)), (2, .int p2), (3, .int a1)]) [1, 2, 3, 0] rfl ?_
  refine v_loop (s0 := (a1, st)) (V_X10_joinOperands_L2 C E p2) (K_X10_joinOperands_L2 C E p2) h (b_X10_joinOperands_L2 cx p2) (fun r12 h => ?_)
  show Vat C (wX E) 5 62 [] [] r12
  exact hk _ _ _ _ (Option.some.inj h) dX10_joinOperands_62
def V_X10_joinStore_L14 (C : Cm) (E : Ev) (x2 : Int32) (s : (Int32 × Sg)) : Prop := Vat C (wX E) 4 14 [(0, .ref (oX E 3)), (1, .ref (oX E 1)), (2, .int x2), (3, .int s.1)] [] s.2
def K_X10_joinStore_L14 (C : Cm) (E : Ev) (x2 : Int32) : (Sg) → Prop := (fun r : (Sg) => Vat C (wX E) 4 70 [] [] r)
set_option maxHeartbeats 4000000 in
set_option maxRecDepth 100000 in
theorem j_X10_joinStore_52 {C : Cm} {E : Ev} (cx : Cx C (tyE E) cX10_joinStore RX10 4 2 49) (x2 : Int32) (x3 : Int32) (st : Sg) (out : (Int32 × Sg) ⊕ (Sg)) (h : m_X10_joinStore_52 x2 x3 st = some out) (hk : Sum.elim (V_X10_joinStore_L14 C E x2) (K_X10_joinStore_L14 C E x2) out) : Vat C (wX E) 4 52 [(0, .ref (oX E 3)), (1, .ref (oX E 1)), (2, .int x2), (3, .int x3)] [] st := by
  unfold m_X10_joinStore_52 at h
  refine v_aload_n 53 0 cx dX10_joinStore_52 rfl rfl rfl ?_
  refine v_get 56 3 0 cx dX10_joinStore_53 iX10 (wXo_3 E st) rfl (Nat.le_of_ble_eq_true rfl) rfl kf_X10_14 rfl rfl ?_
  refine v_iload_n 57 3 cx dX10_joinStore_56 rfl rfl rfl ?_
  refine v_iload_n 58 2 cx dX10_joinStore_57 rfl rfl rfl ?_
  refine v_iconst 59 cx dX10_joinStore_58 ic_1 rfl ?_
  refine v_iconst 60 cx dX10_joinStore_59 ic_1 rfl ?_
  refine v_callVI 63 4 cx dX10_joinStore_60 km_X10_70 ca_X1_join (wXo_4 E st) rfl (c_X1_join_4 C.2.1 E st x3 x2 1 1 ) rfl (by decide) rfl (Nat.le_of_ble_eq_true rfl) rfl h (fun v10 s9 h => ?_)
  refine v_pop 64 cx dX10_joinStore_63 rfl rfl ?_
  refine v_iinc 67 3 (fun a11 => [(3, .int a11), (0, .ref (oX E 3)), (1, .ref (oX E 1)), (2, .int x2)]) cx dX10_joinStore_64 rfl ic_1 (by decide) (fun _ => rfl) rfl h (fun a11 h => ?_)
  refine v_goto 14 cx dX10_joinStore_67 (by decide) ?_
  cases h
  have hk : Vat C (wX E) 4 14 [(0, .ref (oX E 3)), (1, .ref (oX E 1)), (2, .int x2), (3, .int a11)] [] s9 := hk
  exact v_lsub (lv' := [(0, .ref (oX E 3)), (1, .ref (oX E 1)), (2, .int x2), (3, .int a11)]) [1, 2, 3, 0] rfl (hk)
set_option maxHeartbeats 4000000 in
set_option maxRecDepth 100000 in
theorem b_X10_joinStore_L14 {C : Cm} {E : Ev} (cx : Cx C (tyE E) cX10_joinStore RX10 4 2 49) (x2 : Int32) : ∀ (s : (Int32 × Sg)) (out : (Int32 × Sg) ⊕ (Sg)), m_X10_joinStore_L14 x2 s.1 s.2 = some out → Sum.elim (V_X10_joinStore_L14 C E x2) (K_X10_joinStore_L14 C E x2) out → V_X10_joinStore_L14 C E x2 s := by
  intro s out h hk
  obtain ⟨x3, st⟩ := s
  show Vat C (wX E) 4 14 [(0, .ref (oX E 3)), (1, .ref (oX E 1)), (2, .int x2), (3, .int x3)] [] st
  replace h : m_X10_joinStore_L14 x2 x3 st = some out := h
  unfold m_X10_joinStore_L14 at h
  refine v_iload_n 15 3 cx dX10_joinStore_14 rfl rfl rfl ?_
  refine v_aload_n 16 1 cx dX10_joinStore_15 rfl rfl rfl ?_
  refine v_getI 19 1 0 cx dX10_joinStore_16 iX0 (wXo_1 E st) rfl (Nat.le_of_ble_eq_true rfl) rfl kf_X10_31 rfl rfl h (fun v4 h => ?_)
  refine v_icmp_ge 70 22 cx dX10_joinStore_19 (by decide) rfl h (fun h => ?_) (fun h => ?_)
  · cases h
    have hk : Vat C (wX E) 4 70 [] [] st := hk
    exact v_lsub (lv' := []) [] rfl (hk)
  · refine v_iload_n 23 3 cx dX10_joinStore_22 rfl rfl rfl ?_
    refine v_iload_n 24 2 cx dX10_joinStore_23 rfl rfl rfl ?_
    refine v_icmp_eq 64 27 cx dX10_joinStore_24 (by decide) rfl h (fun h => ?_) (fun h => ?_)
    · refine v_iinc 67 3 (fun a5 => [(3, .int a5), (0, .ref (oX E 3)), (1, .ref (oX E 1)), (2, .int x2)]) cx dX10_joinStore_64 rfl ic_1 (by decide) (fun _ => rfl) rfl h (fun a5 h => ?_)
      refine v_goto 14 cx dX10_joinStore_67 (by decide) ?_
      cases h
      have hk : Vat C (wX E) 4 14 [(0, .ref (oX E 3)), (1, .ref (oX E 1)), (2, .int x2), (3, .int a5)] [] st := hk
      exact v_lsub (lv' := [(0, .ref (oX E 3)), (1, .ref (oX E 1)), (2, .int x2), (3, .int a5)]) [1, 2, 3, 0] rfl (hk)
    · refine v_aload_n 28 1 cx dX10_joinStore_27 rfl rfl rfl ?_
      refine v_iload_n 29 3 cx dX10_joinStore_28 rfl rfl rfl ?_
      refine v_callVI 32 1 cx dX10_joinStore_29 km_X10_78 ca_X0_mayBeRefused (wXo_1 E st) rfl (c_X0_mayBeRefused C.2.1 E st x3 ) rfl (by decide) rfl (Nat.le_of_ble_eq_true rfl) rfl h (fun v7 s6 h => ?_)
      refine v_if_eq 64 35 cx dX10_joinStore_32 (by decide) rfl h (fun h => ?_) (fun h => ?_)
      · refine v_iinc 67 3 (fun a8 => [(3, .int a8), (0, .ref (oX E 3)), (1, .ref (oX E 1)), (2, .int x2)]) cx dX10_joinStore_64 rfl ic_1 (by decide) (fun _ => rfl) rfl h (fun a8 h => ?_)
        refine v_goto 14 cx dX10_joinStore_67 (by decide) ?_
        cases h
        have hk : Vat C (wX E) 4 14 [(0, .ref (oX E 3)), (1, .ref (oX E 1)), (2, .int x2), (3, .int a8)] [] s6 := hk
        exact v_lsub (lv' := [(0, .ref (oX E 3)), (1, .ref (oX E 1)), (2, .int x2), (3, .int a8)]) [1, 2, 3, 0] rfl (hk)
      · refine v_iload_n 36 3 cx dX10_joinStore_35 rfl rfl rfl ?_
        refine v_iload_n 37 2 cx dX10_joinStore_36 rfl rfl rfl ?_
        refine v_icmp_ge 52 40 cx dX10_joinStore_37 (by decide) rfl h (fun h => ?_) (fun h => ?_)
        · exact j_X10_joinStore_52 cx x2 x3 s6 _ h hk
        · refine v_aload_n 41 0 cx dX10_joinStore_40 rfl rfl rfl ?_
          refine v_get 44 3 0 cx dX10_joinStore_41 iX10 (wXo_3 E s6) rfl (Nat.le_of_ble_eq_true rfl) rfl kf_X10_14 rfl rfl ?_
          refine v_iload_n 45 3 cx dX10_joinStore_44 rfl rfl rfl ?_
          refine v_iload_n 46 2 cx dX10_joinStore_45 rfl rfl rfl ?_
          refine v_iconst 47 cx dX10_joinStore_46 ic_1 rfl ?_
          refine v_iconst 48 cx dX10_joinStore_47 ic_0 rfl ?_
          refine v_callVI 51 4 cx dX10_joinStore_48 km_X10_70 ca_X1_join (wXo_4 E s6) rfl (c_X1_join_4 C.2.1 E s6 x3 x2 1 0 ) rfl (by decide) rfl (Nat.le_of_ble_eq_true rfl) rfl h (fun v13 s12 h => ?_)
          refine v_pop 52 cx dX10_joinStore_51 rfl rfl ?_
          exact j_X10_joinStore_52 cx x2 x3 s12 _ h hk
set_option maxHeartbeats 4000000 in
set_option maxRecDepth 100000 in
theorem c_X10_joinStore (l : Launch) (E : Ev) (st : Sg) (p2 : Int32) : ∀ q, m_X10_joinStore p2 st = some q → CtV l (wX E) (tyE E) yX10_joinStore cX10_joinStore 4 none 2 49 [.ref (oX E 3), .ref (oX E 1), .int p2] st q := by
  intro q h
  refine ctV_of (lv0 := [(0, .ref (oX E 3)), (1, .ref (oX E 1)), (2, .int p2)]) (by decide) rfl (Nat.le_of_ble_eq_true rfl) (fun C hC cx hk => ?_)
  replace cx : Cx C (tyE E) cX10_joinStore RX10 4 2 49 := cx
  unfold m_X10_joinStore at h
  refine v_aload_n 1 0 cx dX10_joinStore_0 rfl rfl rfl ?_
  refine v_get 4 3 0 cx dX10_joinStore_1 iX10 (wXo_3 E st) rfl (Nat.le_of_ble_eq_true rfl) rfl kf_X10_14 rfl rfl ?_
  refine v_iload_n 5 2 cx dX10_joinStore_4 rfl rfl rfl ?_
  refine v_iload_n 6 2 cx dX10_joinStore_5 rfl rfl rfl ?_
  refine v_iconst 7 cx dX10_joinStore_6 ic_1 rfl ?_
  refine v_iconst 8 cx dX10_joinStore_7 ic_1 rfl ?_
  refine v_callVI 11 4 cx dX10_joinStore_8 km_X10_70 ca_X1_join (wXo_4 E st) rfl (c_X1_join_4 C.2.1 E st p2 p2 1 1 ) rfl (by decide) rfl (Nat.le_of_ble_eq_true rfl) rfl h (fun v2 s1 h => ?_)
  refine v_pop 12 cx dX10_joinStore_11 rfl rfl ?_
  refine v_iconst 13 cx dX10_joinStore_12 ic_0 rfl ?_
  refine v_istore_n 14 (fun a3 => [(3, .int a3), (0, .ref (oX E 3)), (1, .ref (oX E 1)), (2, .int p2)]) cx dX10_joinStore_13 rfl (by decide) (fun _ => rfl) rfl h (fun a3 h => ?_)
  refine v_lsub (lv' := [(0, .ref (oX E 3)), (1, .ref (oX E 1)), (2, .int p2), (3, .int a3)]) [1, 2, 3, 0] rfl ?_
  refine v_loop (s0 := (a3, s1)) (V_X10_joinStore_L14 C E p2) (K_X10_joinStore_L14 C E p2) h (b_X10_joinStore_L14 cx p2) (fun r14 h => ?_)
  show Vat C (wX E) 4 70 [] [] r14
  exact hk _ _ _ _ (Option.some.inj h) dX10_joinStore_70
def V_X1_joinAll_L2_4 (C : Cm) (E : Ev) (s : (Int32 × Sg)) : Prop := Vat C (wX E) 3 2 [(0, .ref (oX E 4)), (1, .ref (oX E 2)), (2, .int s.1)] [] s.2
def K_X1_joinAll_L2_4 (C : Cm) (E : Ev) : (Sg) → Prop := (fun r : (Sg) => Vat C (wX E) 3 45 [] [] r)
set_option maxHeartbeats 4000000 in
set_option maxRecDepth 100000 in
theorem b_X1_joinAll_L2_4 {C : Cm} {E : Ev} (cx : Cx C (tyE E) cX1_joinAll RX1 3 2 49) : ∀ (s : (Int32 × Sg)) (out : (Int32 × Sg) ⊕ (Sg)), m_X1_joinAll_L2 4 s.1 s.2 = some out → Sum.elim (V_X1_joinAll_L2_4 C E) (K_X1_joinAll_L2_4 C E) out → V_X1_joinAll_L2_4 C E s := by
  intro s out h hk
  obtain ⟨x2, st⟩ := s
  show Vat C (wX E) 3 2 [(0, .ref (oX E 4)), (1, .ref (oX E 2)), (2, .int x2)] [] st
  replace h : m_X1_joinAll_L2 4 x2 st = some out := h
  unfold m_X1_joinAll_L2 at h
  refine v_iload_n 3 2 cx dX1_joinAll_2 rfl rfl rfl ?_
  refine v_aload_n 4 1 cx dX1_joinAll_3 rfl rfl rfl ?_
  refine v_getI 7 2 0 cx dX1_joinAll_4 iX1 (wXo_2 E st) rfl (Nat.le_of_ble_eq_true rfl) rfl kf_X1_7 rfl rfl h (fun v2 h => ?_)
  refine v_icmp_ge 45 10 cx dX1_joinAll_7 (by decide) rfl h (fun h => ?_) (fun h => ?_)
  · cases h
    have hk : Vat C (wX E) 3 45 [] [] st := hk
    exact v_lsub (lv' := []) [] rfl (hk)
  · refine v_aload_n 11 0 cx dX1_joinAll_10 rfl rfl rfl ?_
    refine v_aload_n 12 1 cx dX1_joinAll_11 rfl rfl rfl ?_
    refine v_get 15 2 1 cx dX1_joinAll_12 iX1 (wXo_2 E st) rfl (Nat.le_of_ble_eq_true rfl) rfl kf_X1_19 rfl rfl ?_
    refine v_iload_n 16 2 cx dX1_joinAll_15 rfl rfl rfl ?_
    refine v_iald 17 28 0 cx dX1_joinAll_16 (wXa_2_1 E st) rfl rfl h (fun v3 h => ?_)
    refine v_aload_n 18 1 cx dX1_joinAll_17 rfl rfl rfl ?_
    refine v_get 21 2 2 cx dX1_joinAll_18 iX1 (wXo_2 E st) rfl (Nat.le_of_ble_eq_true rfl) rfl kf_X1_23 rfl rfl ?_
    refine v_iload_n 22 2 cx dX1_joinAll_21 rfl rfl rfl ?_
    refine v_iald 23 29 0 cx dX1_joinAll_22 (wXa_2_2 E st) rfl rfl h (fun v4 h => ?_)
    refine v_aload_n 24 1 cx dX1_joinAll_23 rfl rfl rfl ?_
    refine v_get 27 2 3 cx dX1_joinAll_24 iX1 (wXo_2 E st) rfl (Nat.le_of_ble_eq_true rfl) rfl kf_X1_26 rfl rfl ?_
    refine v_iload_n 28 2 cx dX1_joinAll_27 rfl rfl rfl ?_
    refine v_iald 29 30 0 cx dX1_joinAll_28 (wXa_2_3 E st) rfl rfl h (fun v5 h => ?_)
    refine v_aload_n 30 1 cx dX1_joinAll_29 rfl rfl rfl ?_
    refine v_get 33 2 4 cx dX1_joinAll_30 iX1 (wXo_2 E st) rfl (Nat.le_of_ble_eq_true rfl) rfl kf_X1_29 rfl rfl ?_
    refine v_iload_n 34 2 cx dX1_joinAll_33 rfl rfl rfl ?_
    refine v_iald 35 31 0 cx dX1_joinAll_34 (wXa_2_4 E st) rfl rfl h (fun v6 h => ?_)
    refine v_callVI 38 4 cx dX1_joinAll_35 km_X1_36 ca_X1_join (wXo_4 E st) rfl (c_X1_join_4 C.2.1 E st v3 v4 v5 v6 ) rfl (by decide) rfl (Nat.le_of_ble_eq_true rfl) rfl h (fun v8 s7 h => ?_)
    refine v_pop 39 cx dX1_joinAll_38 rfl rfl ?_
    refine v_iinc 42 2 (fun a9 => [(2, .int a9), (0, .ref (oX E 4)), (1, .ref (oX E 2))]) cx dX1_joinAll_39 rfl ic_1 (by decide) (fun _ => rfl) rfl h (fun a9 h => ?_)
    refine v_goto 2 cx dX1_joinAll_42 (by decide) ?_
    cases h
    have hk : Vat C (wX E) 3 2 [(0, .ref (oX E 4)), (1, .ref (oX E 2)), (2, .int a9)] [] s7 := hk
    exact v_lsub (lv' := [(0, .ref (oX E 4)), (1, .ref (oX E 2)), (2, .int a9)]) [1, 2, 0] rfl (hk)
set_option maxHeartbeats 4000000 in
set_option maxRecDepth 100000 in
theorem c_X1_joinAll_4 (l : Launch) (E : Ev) (st : Sg) : ∀ q, m_X1_joinAll 4 st = some q → CtV l (wX E) (tyE E) yX1_joinAll cX1_joinAll 3 none 2 49 [.ref (oX E 4), .ref (oX E 2)] st q := by
  intro q h
  refine ctV_of (lv0 := [(0, .ref (oX E 4)), (1, .ref (oX E 2))]) (by decide) rfl (Nat.le_of_ble_eq_true rfl) (fun C hC cx hk => ?_)
  replace cx : Cx C (tyE E) cX1_joinAll RX1 3 2 49 := cx
  unfold m_X1_joinAll at h
  refine v_iconst 1 cx dX1_joinAll_0 ic_0 rfl ?_
  refine v_istore_n 2 (fun a1 => [(2, .int a1), (0, .ref (oX E 4)), (1, .ref (oX E 2))]) cx dX1_joinAll_1 rfl (by decide) (fun _ => rfl) rfl h (fun a1 h => ?_)
  refine v_lsub (lv' := [(0, .ref (oX E 4)), (1, .ref (oX E 2)), (2, .int a1)]) [1, 2, 0] rfl ?_
  refine v_loop (s0 := (a1, st)) (V_X1_joinAll_L2_4 C E) (K_X1_joinAll_L2_4 C E) h (b_X1_joinAll_L2_4 cx) (fun r10 h => ?_)
  show Vat C (wX E) 3 45 [] [] r10
  exact hk _ _ _ _ (Option.some.inj h) dX1_joinAll_45
def V_X10_renew_L18 (C : Cm) (E : Ev) (s : (Int32 × Sg)) : Prop := Vat C (wX E) 3 18 [(0, .ref (oX E 3)), (1, .ref (oX E 1)), (2, .int s.1)] [] s.2
def K_X10_renew_L18 (C : Cm) (E : Ev) : (Sg) → Prop := (fun r : (Sg) => Vat C (wX E) 3 60 [(0, .ref (oX E 3)), (1, .ref (oX E 1))] [] r)
set_option maxHeartbeats 4000000 in
set_option maxRecDepth 100000 in
theorem b_X10_renew_L18 {C : Cm} {E : Ev} (cx : Cx C (tyE E) cX10_renew RX10 3 3 73) : ∀ (s : (Int32 × Sg)) (out : (Int32 × Sg) ⊕ (Sg)), m_X10_renew_L18 s.1 s.2 = some out → Sum.elim (V_X10_renew_L18 C E) (K_X10_renew_L18 C E) out → V_X10_renew_L18 C E s := by
  intro s out h hk
  obtain ⟨x2, st⟩ := s
  show Vat C (wX E) 3 18 [(0, .ref (oX E 3)), (1, .ref (oX E 1)), (2, .int x2)] [] st
  replace h : m_X10_renew_L18 x2 st = some out := h
  unfold m_X10_renew_L18 at h
  refine v_iload_n 19 2 cx dX10_renew_18 rfl rfl rfl ?_
  refine v_aload_n 20 1 cx dX10_renew_19 rfl rfl rfl ?_
  refine v_getI 23 1 0 cx dX10_renew_20 iX0 (wXo_1 E st) rfl (Nat.le_of_ble_eq_true rfl) rfl kf_X10_31 rfl rfl h (fun v4 h => ?_)
  refine v_icmp_ge 60 26 cx dX10_renew_23 (by decide) rfl h (fun h => ?_) (fun h => ?_)
  · cases h
    have hk : Vat C (wX E) 3 60 [(0, .ref (oX E 3)), (1, .ref (oX E 1))] [] st := hk
    exact v_lsub (lv' := [(0, .ref (oX E 3)), (1, .ref (oX E 1))]) [0, 1] rfl (hk)
  · refine v_aload_n 27 0 cx dX10_renew_26 rfl rfl rfl ?_
    refine v_aload_n 28 1 cx dX10_renew_27 rfl rfl rfl ?_
    refine v_iload_n 29 2 cx dX10_renew_28 rfl rfl rfl ?_
    refine v_callVV 32 3 cx dX10_renew_29 km_X10_36 ca_X10_joinOperands (wXo_3 E st) rfl (c_X10_joinOperands C.2.1 E st x2 ) rfl (by decide) rfl (Nat.le_of_ble_eq_true rfl) rfl h (fun _ s5 h => ?_)
    refine v_aload_n 33 0 cx dX10_renew_32 rfl rfl rfl ?_
    refine v_aload_n 34 1 cx dX10_renew_33 rfl rfl rfl ?_
    refine v_iload_n 35 2 cx dX10_renew_34 rfl rfl rfl ?_
    refine v_callVV 38 3 cx dX10_renew_35 km_X10_40 ca_X10_joinClashes (wXo_3 E s5) rfl (c_X10_joinClashes C.2.1 E s5 x2 ) rfl (by decide) rfl (Nat.le_of_ble_eq_true rfl) rfl h (fun _ s6 h => ?_)
    refine v_aload_n 39 1 cx dX10_renew_38 rfl rfl rfl ?_
    refine v_get 42 1 1 cx dX10_renew_39 iX0 (wXo_1 E s6) rfl (Nat.le_of_ble_eq_true rfl) rfl kf_X10_43 rfl rfl ?_
    refine v_iload_n 43 2 cx dX10_renew_42 rfl rfl rfl ?_
    refine v_iald 44 18 0 cx dX10_renew_43 (wXa_1_1 E s6) rfl rfl h (fun v7 h => ?_)
    refine v_iconst 45 cx dX10_renew_44 ic_5 rfl ?_
    refine v_icmp_ne 54 48 cx dX10_renew_45 (by decide) rfl h (fun h => ?_) (fun h => ?_)
    · refine v_iinc 57 2 (fun a8 => [(2, .int a8), (0, .ref (oX E 3)), (1, .ref (oX E 1))]) cx dX10_renew_54 rfl ic_1 (by decide) (fun _ => rfl) rfl h (fun a8 h => ?_)
      refine v_goto 18 cx dX10_renew_57 (by decide) ?_
      cases h
      have hk : Vat C (wX E) 3 18 [(0, .ref (oX E 3)), (1, .ref (oX E 1)), (2, .int a8)] [] s6 := hk
      exact v_lsub (lv' := [(0, .ref (oX E 3)), (1, .ref (oX E 1)), (2, .int a8)]) [1, 2, 0] rfl (hk)
    · refine v_aload_n 49 0 cx dX10_renew_48 rfl rfl rfl ?_
      refine v_aload_n 50 1 cx dX10_renew_49 rfl rfl rfl ?_
      refine v_iload_n 51 2 cx dX10_renew_50 rfl rfl rfl ?_
      refine v_callVV 54 3 cx dX10_renew_51 km_X10_47 ca_X10_joinStore (wXo_3 E s6) rfl (c_X10_joinStore C.2.1 E s6 x2 ) rfl (by decide) rfl (Nat.le_of_ble_eq_true rfl) rfl h (fun _ s9 h => ?_)
      refine v_iinc 57 2 (fun a10 => [(2, .int a10), (0, .ref (oX E 3)), (1, .ref (oX E 1))]) cx dX10_renew_54 rfl ic_1 (by decide) (fun _ => rfl) rfl h (fun a10 h => ?_)
      refine v_goto 18 cx dX10_renew_57 (by decide) ?_
      cases h
      have hk : Vat C (wX E) 3 18 [(0, .ref (oX E 3)), (1, .ref (oX E 1)), (2, .int a10)] [] s9 := hk
      exact v_lsub (lv' := [(0, .ref (oX E 3)), (1, .ref (oX E 1)), (2, .int a10)]) [1, 2, 0] rfl (hk)
set_option maxHeartbeats 4000000 in
set_option maxRecDepth 100000 in
theorem c_X10_renew (l : Launch) (E : Ev) (st : Sg) : ∀ q, m_X10_renew st = some q → CtV l (wX E) (tyE E) yX10_renew cX10_renew 3 none 3 73 [.ref (oX E 3), .ref (oX E 1)] st q := by
  intro q h
  refine ctV_of (lv0 := [(0, .ref (oX E 3)), (1, .ref (oX E 1))]) (by decide) rfl (Nat.le_of_ble_eq_true rfl) (fun C hC cx hk => ?_)
  replace cx : Cx C (tyE E) cX10_renew RX10 3 3 73 := cx
  unfold m_X10_renew at h
  refine v_aload_n 1 0 cx dX10_renew_0 rfl rfl rfl ?_
  refine v_getI 4 3 2 cx dX10_renew_1 iX10 (wXo_3 E st) rfl (Nat.le_of_ble_eq_true rfl) rfl kf_X10_24 rfl rfl h (fun v1 h => ?_)
  refine v_if_ne 8 7 cx dX10_renew_4 (by decide) rfl h (fun h => ?_) (fun h => ?_)
  · refine v_aload_n 9 0 cx dX10_renew_8 rfl rfl rfl ?_
    refine v_get 12 3 0 cx dX10_renew_9 iX10 (wXo_3 E st) rfl (Nat.le_of_ble_eq_true rfl) rfl kf_X10_14 rfl rfl ?_
    refine v_iconst 13 cx dX10_renew_12 ic_0 rfl ?_
    refine v_putI 16 4 0 cx dX10_renew_13 iX1 tyX1_ok nmX1 (wXo_4 E st) rfl (Nat.le_of_ble_eq_true rfl) rfl kf_X10_28 rfl rfl rfl rfl (Nat.le_of_ble_eq_true rfl) (wXs_4_0 E st _) rfl h (fun s2 h => ?_)
    refine v_iconst 17 cx dX10_renew_16 ic_0 rfl ?_
    refine v_istore_n 18 (fun a3 => [(2, .int a3), (0, .ref (oX E 3)), (1, .ref (oX E 1))]) cx dX10_renew_17 rfl (by decide) (fun _ => rfl) rfl h (fun a3 h => ?_)
    refine v_lsub (lv' := [(0, .ref (oX E 3)), (1, .ref (oX E 1)), (2, .int a3)]) [1, 2, 0] rfl ?_
    refine v_loop (s0 := (a3, s2)) (V_X10_renew_L18 C E) (K_X10_renew_L18 C E) h (b_X10_renew_L18 cx) (fun r11 h => ?_)
    show Vat C (wX E) 3 60 [(0, .ref (oX E 3)), (1, .ref (oX E 1))] [] r11
    refine v_aload_n 61 0 cx dX10_renew_60 rfl rfl rfl ?_
    refine v_aload_n 62 0 cx dX10_renew_61 rfl rfl rfl ?_
    refine v_get 65 3 0 cx dX10_renew_62 iX10 (wXo_3 E r11) rfl (Nat.le_of_ble_eq_true rfl) rfl kf_X10_14 rfl rfl ?_
    refine v_getI 68 4 0 cx dX10_renew_65 iX1 (wXo_4 E r11) rfl (Nat.le_of_ble_eq_true rfl) rfl kf_X10_28 rfl rfl h (fun v12 h => ?_)
    refine v_putI 71 3 1 cx dX10_renew_68 iX10 tyX10_ok nmX10 (wXo_3 E r11) rfl (Nat.le_of_ble_eq_true rfl) rfl kf_X10_20 rfl rfl rfl rfl (Nat.le_of_ble_eq_true rfl) (wXs_3_1 E r11 _) rfl h (fun s13 h => ?_)
    refine v_aload_n 72 0 cx dX10_renew_71 rfl rfl rfl ?_
    refine v_get 75 3 0 cx dX10_renew_72 iX10 (wXo_3 E s13) rfl (Nat.le_of_ble_eq_true rfl) rfl kf_X10_14 rfl rfl ?_
    refine v_aload_n 76 1 cx dX10_renew_75 rfl rfl rfl ?_
    refine v_get 79 1 11 cx dX10_renew_76 iX0 (wXo_1 E s13) rfl (Nat.le_of_ble_eq_true rfl) rfl kf_X10_50 rfl rfl ?_
    refine v_callVV 82 4 cx dX10_renew_79 km_X10_53 ca_X1_joinAll (wXo_4 E s13) rfl (c_X1_joinAll_4 C.2.1 E s13 ) rfl (by decide) rfl (Nat.le_of_ble_eq_true rfl) rfl h (fun _ s14 h => ?_)
    refine v_aload_n 83 0 cx dX10_renew_82 rfl rfl rfl ?_
    refine v_iconst 84 cx dX10_renew_83 ic_0 rfl ?_
    refine v_putI 87 3 2 cx dX10_renew_84 iX10 tyX10_ok nmX10 (wXo_3 E s14) rfl (Nat.le_of_ble_eq_true rfl) rfl kf_X10_24 rfl rfl rfl rfl (Nat.le_of_ble_eq_true rfl) (wXs_3_2 E s14 _) rfl h (fun s15 h => ?_)
    exact hk _ _ _ _ (Option.some.inj h) dX10_renew_87
  · exact hk _ _ _ _ (Option.some.inj h) dX10_renew_7
set_option maxHeartbeats 4000000 in
set_option maxRecDepth 100000 in
theorem c_X11_refuse (l : Launch) (E : Ev) (st : Sg) (p1 : Int32) : ∀ q, m_X11_refuse p1 st = some q → CtI l (wX E) (tyE E) yX11_refuse cX11_refuse 2 (some .int) 0 0 [.ref (oX E 0), .int p1] st q := by
  intro q h
  refine ctI_of (lv0 := [(0, .ref (oX E 0)), (1, .int p1)]) (by decide) rfl (Nat.le_of_ble_eq_true rfl) (fun C hC cx hk => ?_)
  replace cx : Cx C (tyE E) cX11_refuse RX11 2 0 0 := cx
  unfold m_X11_refuse at h
  refine v_iload_n 1 1 cx dX11_refuse_0 rfl rfl rfl ?_
  refine v_bipush 3 cx dX11_refuse_1 bp_m11 rfl ?_
  refine v_icmp_lt 28 6 cx dX11_refuse_3 (by decide) rfl h (fun h => ?_) (fun h => ?_)
  · refine v_iload_n 29 1 cx dX11_refuse_28 rfl rfl rfl ?_
    exact hk _ _ _ _ (Option.some.inj h) dX11_refuse_29
  · refine v_iload_n 7 1 cx dX11_refuse_6 rfl rfl rfl ?_
    refine v_bipush 9 cx dX11_refuse_7 bp_m2 rfl ?_
    refine v_icmp_gt 28 12 cx dX11_refuse_9 (by decide) rfl h (fun h => ?_) (fun h => ?_)
    · refine v_iload_n 29 1 cx dX11_refuse_28 rfl rfl rfl ?_
      exact hk _ _ _ _ (Option.some.inj h) dX11_refuse_29
    · refine v_aload_n 13 0 cx dX11_refuse_12 rfl rfl rfl ?_
      refine v_iload_n 14 1 cx dX11_refuse_13 rfl rfl rfl ?_
      refine v_putI 17 0 9 cx dX11_refuse_14 iX11 tyX11_ok nmX11 (wXo_0 E st) rfl (Nat.le_of_ble_eq_true rfl) rfl kf_X11_76 rfl rfl rfl rfl (Nat.le_of_ble_eq_true rfl) (wXs_0_9 E st _) rfl h (fun s1 h => ?_)
      refine v_aload_n 18 0 cx dX11_refuse_17 rfl rfl rfl ?_
      refine v_get 21 0 10 cx dX11_refuse_18 iX11 (wXo_0 E s1) rfl (Nat.le_of_ble_eq_true rfl) rfl kf_X11_80 rfl rfl ?_
      refine v_iload_n 22 1 cx dX11_refuse_21 rfl rfl rfl ?_
      refine v_ineg 23 cx dX11_refuse_22 rfl ?_
      refine v_dup2 24 cx dX11_refuse_23 rfl rfl rfl ?_
      refine v_iald 25 17 0 cx dX11_refuse_24 (wXa_0_10 E s1) rfl rfl h (fun v2 h => ?_)
      refine v_iconst 26 cx dX11_refuse_25 ic_1 rfl ?_
      refine v_iadd 27 cx dX11_refuse_26 rfl ?_
      refine v_iast 28 17 0 cx dX11_refuse_27 (wXa_0_10 E s1) rfl (wXt_0_10 E s1) rfl h (fun s3 h => ?_)
      refine v_iload_n 29 1 cx dX11_refuse_28 rfl rfl rfl ?_
      exact hk _ _ _ _ (Option.some.inj h) dX11_refuse_29
set_option maxHeartbeats 4000000 in
set_option maxRecDepth 100000 in
theorem c_X11_operandPart (l : Launch) (E : Ev) (st : Sg) (p1 : Int32) (p2 : Int32) : ∀ q, m_X11_operandPart p1 p2 st = some q → CtI l (wX E) (tyE E) yX11_operandPart cX11_operandPart 4 (some .int) 0 0 [.ref (oX E 0), .int p1, .int p2] st q := by
  intro q h
  refine ctI_of (lv0 := [(0, .ref (oX E 0)), (1, .int p1), (2, .int p2)]) (by decide) rfl (Nat.le_of_ble_eq_true rfl) (fun C hC cx hk => ?_)
  replace cx : Cx C (tyE E) cX11_operandPart RX11 4 0 0 := cx
  unfold m_X11_operandPart at h
  refine v_iload_n 1 1 cx dX11_operandPart_0 rfl rfl rfl ?_
  refine v_iconst 2 cx dX11_operandPart_1 ic_3 rfl ?_
  refine v_imul 3 cx dX11_operandPart_2 rfl ?_
  refine v_iload_n 4 2 cx dX11_operandPart_3 rfl rfl rfl ?_
  refine v_iconst 5 cx dX11_operandPart_4 ic_2 rfl ?_
  refine v_idiv 6 cx dX11_operandPart_5 rfl h (fun h => ?_)
  refine v_iadd 7 cx dX11_operandPart_6 rfl ?_
  refine v_istore_n 8 (fun a1 => [(3, .int a1), (0, .ref (oX E 0)), (1, .int p1), (2, .int p2)]) cx dX11_operandPart_7 rfl (by decide) (fun _ => rfl) rfl h (fun a1 h => ?_)
  refine v_iload_n 9 3 cx dX11_operandPart_8 rfl rfl rfl ?_
  refine v_iconst 10 cx dX11_operandPart_9 ic_2 rfl ?_
  refine v_irem 11 cx dX11_operandPart_10 rfl h (fun h => ?_)
  refine v_if_ne 26 14 cx dX11_operandPart_11 (by decide) rfl h (fun h => ?_) (fun h => ?_)
  · refine v_aload_n 27 1 cx dX11_operandPart_26 rfl rfl rfl ?_
    refine v_get 30 0 0 cx dX11_operandPart_27 iX11 (wXo_0 E st) rfl (Nat.le_of_ble_eq_true rfl) rfl kf_X11_10 rfl rfl ?_
    refine v_get 33 1 7 cx dX11_operandPart_30 iX0 (wXo_1 E st) rfl (Nat.le_of_ble_eq_true rfl) rfl kf_X11_345 rfl rfl ?_
    refine v_iload_n 34 0 cx dX11_operandPart_33 rfl rfl rfl ?_
    refine v_iald 35 24 0 cx dX11_operandPart_34 (wXa_1_7 E st) rfl rfl h (fun v2 h => ?_)
    exact hk _ _ _ _ (Option.some.inj h) dX11_operandPart_35
  · refine v_aload_n 15 1 cx dX11_operandPart_14 rfl rfl rfl ?_
    refine v_get 18 0 0 cx dX11_operandPart_15 iX11 (wXo_0 E st) rfl (Nat.le_of_ble_eq_true rfl) rfl kf_X11_10 rfl rfl ?_
    refine v_get 21 1 6 cx dX11_operandPart_18 iX0 (wXo_1 E st) rfl (Nat.le_of_ble_eq_true rfl) rfl kf_X11_342 rfl rfl ?_
    refine v_iload_n 22 0 cx dX11_operandPart_21 rfl rfl rfl ?_
    refine v_iald 23 23 0 cx dX11_operandPart_22 (wXa_1_6 E st) rfl rfl h (fun v3 h => ?_)
    refine v_goto 35 cx dX11_operandPart_23 (by decide) ?_
    exact hk _ _ _ _ (Option.some.inj h) dX11_operandPart_35
set_option maxHeartbeats 4000000 in
set_option maxRecDepth 100000 in
theorem c_X11_act (l : Launch) (E : Ev) (st : Sg) (p1 : Int32) (p2 : Int32) : ∀ q, m_X11_act p1 p2 st = some q → CtI l (wX E) (tyE E) yX11_act cX11_act 3 (some .int) 1 23 [.ref (oX E 0), .int p1, .int p2] st q := by
  intro q h
  refine ctI_of (lv0 := [(0, .ref (oX E 0)), (1, .int p1), (2, .int p2)]) (by decide) rfl (Nat.le_of_ble_eq_true rfl) (fun C hC cx hk => ?_)
  replace cx : Cx C (tyE E) cX11_act RX11 3 1 23 := cx
  unfold m_X11_act at h
  refine v_aload_n 1 0 cx dX11_act_0 rfl rfl rfl ?_
  refine v_get 4 0 0 cx dX11_act_1 iX11 (wXo_0 E st) rfl (Nat.le_of_ble_eq_true rfl) rfl kf_X11_10 rfl rfl ?_
  refine v_iload_n 5 1 cx dX11_act_4 rfl rfl rfl ?_
  refine v_callVI 8 1 cx dX11_act_5 km_X11_116 ca_X0_has (wXo_1 E st) rfl (c_X0_has C.2.1 E st p1 ) rfl (by decide) rfl (Nat.le_of_ble_eq_true rfl) rfl h (fun v2 s1 h => ?_)
  refine v_if_ne 18 11 cx dX11_act_8 (by decide) rfl h (fun h => ?_) (fun h => ?_)
  · refine v_iload_n 19 2 cx dX11_act_18 rfl rfl rfl ?_
    refine v_tabC 52 0 (ck := 0) cx dX11_act_19 (by decide) (by decide) rfl (by decide) (fun i hi => absurd hi (Nat.not_lt_zero i)) h (fun h => ?_) (fun hn h => ?_)
    · refine v_aload_n 53 0 cx dX11_act_52 rfl rfl rfl ?_
      refine v_get 56 0 0 cx dX11_act_53 iX11 (wXo_0 E s1) rfl (Nat.le_of_ble_eq_true rfl) rfl kf_X11_10 rfl rfl ?_
      refine v_get 59 1 1 cx dX11_act_56 iX0 (wXo_1 E s1) rfl (Nat.le_of_ble_eq_true rfl) rfl kf_X11_159 rfl rfl ?_
      refine v_iload_n 60 1 cx dX11_act_59 rfl rfl rfl ?_
      refine v_iald 61 18 0 cx dX11_act_60 (wXa_1_1 E s1) rfl rfl h (fun v3 h => ?_)
      exact hk _ _ _ _ (Option.some.inj h) dX11_act_61
    · refine v_tabC 62 1 (ck := 1) cx dX11_act_19 (by decide) (by decide) rfl (by decide) hn h (fun h => ?_) (fun hn h => ?_)
      · refine v_aload_n 63 0 cx dX11_act_62 rfl rfl rfl ?_
        refine v_get 66 0 0 cx dX11_act_63 iX11 (wXo_0 E s1) rfl (Nat.le_of_ble_eq_true rfl) rfl kf_X11_10 rfl rfl ?_
        refine v_get 69 1 2 cx dX11_act_66 iX0 (wXo_1 E s1) rfl (Nat.le_of_ble_eq_true rfl) rfl kf_X11_122 rfl rfl ?_
        refine v_iload_n 70 1 cx dX11_act_69 rfl rfl rfl ?_
        refine v_iald 71 19 0 cx dX11_act_70 (wXa_1_2 E s1) rfl rfl h (fun v4 h => ?_)
        exact hk _ _ _ _ (Option.some.inj h) dX11_act_71
      · refine v_tabC 72 2 (ck := 2) cx dX11_act_19 (by decide) (by decide) rfl (by decide) hn h (fun h => ?_) (fun hn h => ?_)
        · refine v_aload_n 73 0 cx dX11_act_72 rfl rfl rfl ?_
          refine v_get 76 0 0 cx dX11_act_73 iX11 (wXo_0 E s1) rfl (Nat.le_of_ble_eq_true rfl) rfl kf_X11_10 rfl rfl ?_
          refine v_get 79 1 3 cx dX11_act_76 iX0 (wXo_1 E s1) rfl (Nat.le_of_ble_eq_true rfl) rfl kf_X11_125 rfl rfl ?_
          refine v_iload_n 80 1 cx dX11_act_79 rfl rfl rfl ?_
          refine v_iald 81 20 0 cx dX11_act_80 (wXa_1_3 E s1) rfl rfl h (fun v5 h => ?_)
          exact hk _ _ _ _ (Option.some.inj h) dX11_act_81
        · refine v_tabC 82 3 (ck := 3) cx dX11_act_19 (by decide) (by decide) rfl (by decide) hn h (fun h => ?_) (fun hn h => ?_)
          · refine v_aload_n 83 0 cx dX11_act_82 rfl rfl rfl ?_
            refine v_get 86 0 0 cx dX11_act_83 iX11 (wXo_0 E s1) rfl (Nat.le_of_ble_eq_true rfl) rfl kf_X11_10 rfl rfl ?_
            refine v_get 89 1 4 cx dX11_act_86 iX0 (wXo_1 E s1) rfl (Nat.le_of_ble_eq_true rfl) rfl kf_X11_128 rfl rfl ?_
            refine v_iload_n 90 1 cx dX11_act_89 rfl rfl rfl ?_
            refine v_iald 91 21 0 cx dX11_act_90 (wXa_1_4 E s1) rfl rfl h (fun v6 h => ?_)
            exact hk _ _ _ _ (Option.some.inj h) dX11_act_91
          · refine v_tabC 92 4 (ck := 4) cx dX11_act_19 (by decide) (by decide) rfl (by decide) hn h (fun h => ?_) (fun hn h => ?_)
            · refine v_aload_n 93 0 cx dX11_act_92 rfl rfl rfl ?_
              refine v_get 96 0 0 cx dX11_act_93 iX11 (wXo_0 E s1) rfl (Nat.le_of_ble_eq_true rfl) rfl kf_X11_10 rfl rfl ?_
              refine v_get 99 1 5 cx dX11_act_96 iX0 (wXo_1 E s1) rfl (Nat.le_of_ble_eq_true rfl) rfl kf_X11_113 rfl rfl ?_
              refine v_iload_n 100 1 cx dX11_act_99 rfl rfl rfl ?_
              refine v_iald 101 22 0 cx dX11_act_100 (wXa_1_5 E s1) rfl rfl h (fun v7 h => ?_)
              exact hk _ _ _ _ (Option.some.inj h) dX11_act_101
            · refine v_tabD 102 5 cx dX11_act_19 (by decide) (by decide) hn ?_
              refine v_iload_n 103 2 cx dX11_act_102 rfl rfl rfl ?_
              refine v_iconst 104 cx dX11_act_103 ic_5 rfl ?_
              refine v_icmp_lt 113 107 cx dX11_act_104 (by decide) rfl h (fun h => ?_) (fun h => ?_)
              · refine v_aload_n 114 0 cx dX11_act_113 rfl rfl rfl ?_
                refine v_bipush 116 cx dX11_act_114 bp_m9 rfl ?_
                refine v_callVI 119 0 cx dX11_act_116 km_X11_88 ca_X11_refuse (wXo_0 E s1) rfl (c_X11_refuse C.2.1 E s1 (-9) ) rfl (by decide) rfl (Nat.le_of_ble_eq_true rfl) rfl h (fun v9 s8 h => ?_)
                refine v_goto 130 cx dX11_act_119 (by decide) ?_
                exact hk _ _ _ _ (Option.some.inj h) dX11_act_130
              · refine v_iload_n 108 2 cx dX11_act_107 rfl rfl rfl ?_
                refine v_bipush 110 cx dX11_act_108 bp_10 rfl ?_
                refine v_icmp_le 122 113 cx dX11_act_110 (by decide) rfl h (fun h => ?_) (fun h => ?_)
                · refine v_aload_n 123 0 cx dX11_act_122 rfl rfl rfl ?_
                  refine v_iload_n 124 1 cx dX11_act_123 rfl rfl rfl ?_
                  refine v_iload_n 125 2 cx dX11_act_124 rfl rfl rfl ?_
                  refine v_iconst 126 cx dX11_act_125 ic_5 rfl ?_
                  refine v_isub 127 cx dX11_act_126 rfl ?_
                  refine v_callVI 130 0 cx dX11_act_127 km_X11_162 ca_X11_operandPart (wXo_0 E s1) rfl (c_X11_operandPart C.2.1 E s1 p1 (p2 - 5) ) rfl (by decide) rfl (Nat.le_of_ble_eq_true rfl) rfl h (fun v11 s10 h => ?_)
                  exact hk _ _ _ _ (Option.some.inj h) dX11_act_130
                · refine v_aload_n 114 0 cx dX11_act_113 rfl rfl rfl ?_
                  refine v_bipush 116 cx dX11_act_114 bp_m9 rfl ?_
                  refine v_callVI 119 0 cx dX11_act_116 km_X11_88 ca_X11_refuse (wXo_0 E s1) rfl (c_X11_refuse C.2.1 E s1 (-9) ) rfl (by decide) rfl (Nat.le_of_ble_eq_true rfl) rfl h (fun v13 s12 h => ?_)
                  refine v_goto 130 cx dX11_act_119 (by decide) ?_
                  exact hk _ _ _ _ (Option.some.inj h) dX11_act_130
  · refine v_aload_n 12 0 cx dX11_act_11 rfl rfl rfl ?_
    refine v_bipush 14 cx dX11_act_12 bp_m3 rfl ?_
    refine v_callVI 17 0 cx dX11_act_14 km_X11_88 ca_X11_refuse (wXo_0 E s1) rfl (c_X11_refuse C.2.1 E s1 (-3) ) rfl (by decide) rfl (Nat.le_of_ble_eq_true rfl) rfl h (fun v15 s14 h => ?_)
    exact hk _ _ _ _ (Option.some.inj h) dX11_act_17
set_option maxHeartbeats 4000000 in
set_option maxRecDepth 100000 in
theorem c_X11_again (l : Launch) (E : Ev) (st : Sg) : ∀ q, m_X11_again st = some q → CtI l (wX E) (tyE E) yX11_again cX11_again 2 (some .int) 0 0 [.ref (oX E 0)] st q := by
  intro q h
  refine ctI_of (lv0 := [(0, .ref (oX E 0))]) (by decide) rfl (Nat.le_of_ble_eq_true rfl) (fun C hC cx hk => ?_)
  replace cx : Cx C (tyE E) cX11_again RX11 2 0 0 := cx
  unfold m_X11_again at h
  refine v_aload_n 1 0 cx dX11_again_0 rfl rfl rfl ?_
  refine v_getI 4 0 9 cx dX11_again_1 iX11 (wXo_0 E st) rfl (Nat.le_of_ble_eq_true rfl) rfl kf_X11_76 rfl rfl h (fun v1 h => ?_)
  refine v_if_ne 10 7 cx dX11_again_4 (by decide) rfl h (fun h => ?_) (fun h => ?_)
  · refine v_aload_n 11 0 cx dX11_again_10 rfl rfl rfl ?_
    refine v_getI 14 0 9 cx dX11_again_11 iX11 (wXo_0 E st) rfl (Nat.le_of_ble_eq_true rfl) rfl kf_X11_76 rfl rfl h (fun v2 h => ?_)
    refine v_istore_n 15 (fun a3 => [(1, .int a3), (0, .ref (oX E 0))]) cx dX11_again_14 rfl (by decide) (fun _ => rfl) rfl h (fun a3 h => ?_)
    refine v_aload_n 16 1 cx dX11_again_15 rfl rfl rfl ?_
    refine v_iconst 17 cx dX11_again_16 ic_0 rfl ?_
    refine v_putI 20 0 9 cx dX11_again_17 iX11 tyX11_ok nmX11 (wXo_0 E st) rfl (Nat.le_of_ble_eq_true rfl) rfl kf_X11_76 rfl rfl rfl rfl (Nat.le_of_ble_eq_true rfl) (wXs_0_9 E st _) rfl h (fun s4 h => ?_)
    refine v_iload_n 21 0 cx dX11_again_20 rfl rfl rfl ?_
    exact hk _ _ _ _ (Option.some.inj h) dX11_again_21
  · refine v_bipush 9 cx dX11_again_7 bp_m7 rfl ?_
    exact hk _ _ _ _ (Option.some.inj h) dX11_again_9
set_option maxHeartbeats 4000000 in
set_option maxRecDepth 100000 in
theorem c_X5_clear_14 (l : Launch) (E : Ev) (st : Sg) : ∀ q, m_X5_clear 14 st = some q → CtV l (wX E) (tyE E) yX5_clear cX5_clear 1 none 0 0 [.ref (oX E 14)] st q := by
  intro q h
  refine ctV_of (lv0 := [(0, .ref (oX E 14))]) (by decide) rfl (Nat.le_of_ble_eq_true rfl) (fun C hC cx hk => ?_)
  replace cx : Cx C (tyE E) cX5_clear RX5 1 0 0 := cx
  unfold m_X5_clear at h
  refine v_aload_n 1 0 cx dX5_clear_0 rfl rfl rfl ?_
  refine v_iconst 2 cx dX5_clear_1 ic_0 rfl ?_
  refine v_putI 5 14 0 cx dX5_clear_2 iX5 tyX5_ok nmX5 (wXo_14 E st) rfl (Nat.le_of_ble_eq_true rfl) rfl kf_X5_9 rfl rfl rfl rfl (Nat.le_of_ble_eq_true rfl) (wXs_14_0 E st _) rfl h (fun s1 h => ?_)
  refine v_aload_n 6 0 cx dX5_clear_5 rfl rfl rfl ?_
  refine v_iconst 7 cx dX5_clear_6 ic_m1 rfl ?_
  refine v_putI 10 14 1 cx dX5_clear_7 iX5 tyX5_ok nmX5 (wXo_14 E s1) rfl (Nat.le_of_ble_eq_true rfl) rfl kf_X5_15 rfl rfl rfl rfl (Nat.le_of_ble_eq_true rfl) (wXs_14_1 E s1 _) rfl h (fun s2 h => ?_)
  refine v_aload_n 11 0 cx dX5_clear_10 rfl rfl rfl ?_
  refine v_iconst 12 cx dX5_clear_11 ic_m1 rfl ?_
  refine v_putI 15 14 2 cx dX5_clear_12 iX5 tyX5_ok nmX5 (wXo_14 E s2) rfl (Nat.le_of_ble_eq_true rfl) rfl kf_X5_18 rfl rfl rfl rfl (Nat.le_of_ble_eq_true rfl) (wXs_14_2 E s2 _) rfl h (fun s3 h => ?_)
  refine v_aload_n 16 0 cx dX5_clear_15 rfl rfl rfl ?_
  refine v_iconst 17 cx dX5_clear_16 ic_0 rfl ?_
  refine v_putI 20 14 3 cx dX5_clear_17 iX5 tyX5_ok nmX5 (wXo_14 E s3) rfl (Nat.le_of_ble_eq_true rfl) rfl kf_X5_21 rfl rfl rfl rfl (Nat.le_of_ble_eq_true rfl) (wXs_14_3 E s3 _) rfl h (fun s4 h => ?_)
  refine v_aload_n 21 0 cx dX5_clear_20 rfl rfl rfl ?_
  refine v_iconst 22 cx dX5_clear_21 ic_0 rfl ?_
  refine v_putI 25 14 4 cx dX5_clear_22 iX5 tyX5_ok nmX5 (wXo_14 E s4) rfl (Nat.le_of_ble_eq_true rfl) rfl kf_X5_24 rfl rfl rfl rfl (Nat.le_of_ble_eq_true rfl) (wXs_14_4 E s4 _) rfl h (fun s5 h => ?_)
  refine v_aload_n 26 0 cx dX5_clear_25 rfl rfl rfl ?_
  refine v_iconst 27 cx dX5_clear_26 ic_0 rfl ?_
  refine v_putI 30 14 5 cx dX5_clear_27 iX5 tyX5_ok nmX5 (wXo_14 E s5) rfl (Nat.le_of_ble_eq_true rfl) rfl kf_X5_27 rfl rfl rfl rfl (Nat.le_of_ble_eq_true rfl) (wXs_14_5 E s5 _) rfl h (fun s6 h => ?_)
  refine v_aload_n 31 0 cx dX5_clear_30 rfl rfl rfl ?_
  refine v_iconst 32 cx dX5_clear_31 ic_0 rfl ?_
  refine v_putI 35 14 6 cx dX5_clear_32 iX5 tyX5_ok nmX5 (wXo_14 E s6) rfl (Nat.le_of_ble_eq_true rfl) rfl kf_X5_31 rfl rfl rfl rfl (Nat.le_of_ble_eq_true rfl) (wXs_14_6 E s6 _) rfl h (fun s7 h => ?_)
  exact hk _ _ _ _ (Option.some.inj h) dX5_clear_35
set_option maxHeartbeats 4000000 in
set_option maxRecDepth 100000 in
theorem c_X5_clear_15 (l : Launch) (E : Ev) (st : Sg) : ∀ q, m_X5_clear 15 st = some q → CtV l (wX E) (tyE E) yX5_clear cX5_clear 1 none 0 0 [.ref (oX E 15)] st q := by
  intro q h
  refine ctV_of (lv0 := [(0, .ref (oX E 15))]) (by decide) rfl (Nat.le_of_ble_eq_true rfl) (fun C hC cx hk => ?_)
  replace cx : Cx C (tyE E) cX5_clear RX5 1 0 0 := cx
  unfold m_X5_clear at h
  refine v_aload_n 1 0 cx dX5_clear_0 rfl rfl rfl ?_
  refine v_iconst 2 cx dX5_clear_1 ic_0 rfl ?_
  refine v_putI 5 15 0 cx dX5_clear_2 iX5 tyX5_ok nmX5 (wXo_15 E st) rfl (Nat.le_of_ble_eq_true rfl) rfl kf_X5_9 rfl rfl rfl rfl (Nat.le_of_ble_eq_true rfl) (wXs_15_0 E st _) rfl h (fun s1 h => ?_)
  refine v_aload_n 6 0 cx dX5_clear_5 rfl rfl rfl ?_
  refine v_iconst 7 cx dX5_clear_6 ic_m1 rfl ?_
  refine v_putI 10 15 1 cx dX5_clear_7 iX5 tyX5_ok nmX5 (wXo_15 E s1) rfl (Nat.le_of_ble_eq_true rfl) rfl kf_X5_15 rfl rfl rfl rfl (Nat.le_of_ble_eq_true rfl) (wXs_15_1 E s1 _) rfl h (fun s2 h => ?_)
  refine v_aload_n 11 0 cx dX5_clear_10 rfl rfl rfl ?_
  refine v_iconst 12 cx dX5_clear_11 ic_m1 rfl ?_
  refine v_putI 15 15 2 cx dX5_clear_12 iX5 tyX5_ok nmX5 (wXo_15 E s2) rfl (Nat.le_of_ble_eq_true rfl) rfl kf_X5_18 rfl rfl rfl rfl (Nat.le_of_ble_eq_true rfl) (wXs_15_2 E s2 _) rfl h (fun s3 h => ?_)
  refine v_aload_n 16 0 cx dX5_clear_15 rfl rfl rfl ?_
  refine v_iconst 17 cx dX5_clear_16 ic_0 rfl ?_
  refine v_putI 20 15 3 cx dX5_clear_17 iX5 tyX5_ok nmX5 (wXo_15 E s3) rfl (Nat.le_of_ble_eq_true rfl) rfl kf_X5_21 rfl rfl rfl rfl (Nat.le_of_ble_eq_true rfl) (wXs_15_3 E s3 _) rfl h (fun s4 h => ?_)
  refine v_aload_n 21 0 cx dX5_clear_20 rfl rfl rfl ?_
  refine v_iconst 22 cx dX5_clear_21 ic_0 rfl ?_
  refine v_putI 25 15 4 cx dX5_clear_22 iX5 tyX5_ok nmX5 (wXo_15 E s4) rfl (Nat.le_of_ble_eq_true rfl) rfl kf_X5_24 rfl rfl rfl rfl (Nat.le_of_ble_eq_true rfl) (wXs_15_4 E s4 _) rfl h (fun s5 h => ?_)
  refine v_aload_n 26 0 cx dX5_clear_25 rfl rfl rfl ?_
  refine v_iconst 27 cx dX5_clear_26 ic_0 rfl ?_
  refine v_putI 30 15 5 cx dX5_clear_27 iX5 tyX5_ok nmX5 (wXo_15 E s5) rfl (Nat.le_of_ble_eq_true rfl) rfl kf_X5_27 rfl rfl rfl rfl (Nat.le_of_ble_eq_true rfl) (wXs_15_5 E s5 _) rfl h (fun s6 h => ?_)
  refine v_aload_n 31 0 cx dX5_clear_30 rfl rfl rfl ?_
  refine v_iconst 32 cx dX5_clear_31 ic_0 rfl ?_
  refine v_putI 35 15 6 cx dX5_clear_32 iX5 tyX5_ok nmX5 (wXo_15 E s6) rfl (Nat.le_of_ble_eq_true rfl) rfl kf_X5_31 rfl rfl rfl rfl (Nat.le_of_ble_eq_true rfl) (wXs_15_6 E s6 _) rfl h (fun s7 h => ?_)
  exact hk _ _ _ _ (Option.some.inj h) dX5_clear_35
set_option maxHeartbeats 4000000 in
set_option maxRecDepth 100000 in
theorem c_X5_clear_16 (l : Launch) (E : Ev) (st : Sg) : ∀ q, m_X5_clear 16 st = some q → CtV l (wX E) (tyE E) yX5_clear cX5_clear 1 none 0 0 [.ref (oX E 16)] st q := by
  intro q h
  refine ctV_of (lv0 := [(0, .ref (oX E 16))]) (by decide) rfl (Nat.le_of_ble_eq_true rfl) (fun C hC cx hk => ?_)
  replace cx : Cx C (tyE E) cX5_clear RX5 1 0 0 := cx
  unfold m_X5_clear at h
  refine v_aload_n 1 0 cx dX5_clear_0 rfl rfl rfl ?_
  refine v_iconst 2 cx dX5_clear_1 ic_0 rfl ?_
  refine v_putI 5 16 0 cx dX5_clear_2 iX5 tyX5_ok nmX5 (wXo_16 E st) rfl (Nat.le_of_ble_eq_true rfl) rfl kf_X5_9 rfl rfl rfl rfl (Nat.le_of_ble_eq_true rfl) (wXs_16_0 E st _) rfl h (fun s1 h => ?_)
  refine v_aload_n 6 0 cx dX5_clear_5 rfl rfl rfl ?_
  refine v_iconst 7 cx dX5_clear_6 ic_m1 rfl ?_
  refine v_putI 10 16 1 cx dX5_clear_7 iX5 tyX5_ok nmX5 (wXo_16 E s1) rfl (Nat.le_of_ble_eq_true rfl) rfl kf_X5_15 rfl rfl rfl rfl (Nat.le_of_ble_eq_true rfl) (wXs_16_1 E s1 _) rfl h (fun s2 h => ?_)
  refine v_aload_n 11 0 cx dX5_clear_10 rfl rfl rfl ?_
  refine v_iconst 12 cx dX5_clear_11 ic_m1 rfl ?_
  refine v_putI 15 16 2 cx dX5_clear_12 iX5 tyX5_ok nmX5 (wXo_16 E s2) rfl (Nat.le_of_ble_eq_true rfl) rfl kf_X5_18 rfl rfl rfl rfl (Nat.le_of_ble_eq_true rfl) (wXs_16_2 E s2 _) rfl h (fun s3 h => ?_)
  refine v_aload_n 16 0 cx dX5_clear_15 rfl rfl rfl ?_
  refine v_iconst 17 cx dX5_clear_16 ic_0 rfl ?_
  refine v_putI 20 16 3 cx dX5_clear_17 iX5 tyX5_ok nmX5 (wXo_16 E s3) rfl (Nat.le_of_ble_eq_true rfl) rfl kf_X5_21 rfl rfl rfl rfl (Nat.le_of_ble_eq_true rfl) (wXs_16_3 E s3 _) rfl h (fun s4 h => ?_)
  refine v_aload_n 21 0 cx dX5_clear_20 rfl rfl rfl ?_
  refine v_iconst 22 cx dX5_clear_21 ic_0 rfl ?_
  refine v_putI 25 16 4 cx dX5_clear_22 iX5 tyX5_ok nmX5 (wXo_16 E s4) rfl (Nat.le_of_ble_eq_true rfl) rfl kf_X5_24 rfl rfl rfl rfl (Nat.le_of_ble_eq_true rfl) (wXs_16_4 E s4 _) rfl h (fun s5 h => ?_)
  refine v_aload_n 26 0 cx dX5_clear_25 rfl rfl rfl ?_
  refine v_iconst 27 cx dX5_clear_26 ic_0 rfl ?_
  refine v_putI 30 16 5 cx dX5_clear_27 iX5 tyX5_ok nmX5 (wXo_16 E s5) rfl (Nat.le_of_ble_eq_true rfl) rfl kf_X5_27 rfl rfl rfl rfl (Nat.le_of_ble_eq_true rfl) (wXs_16_5 E s5 _) rfl h (fun s6 h => ?_)
  refine v_aload_n 31 0 cx dX5_clear_30 rfl rfl rfl ?_
  refine v_iconst 32 cx dX5_clear_31 ic_0 rfl ?_
  refine v_putI 35 16 6 cx dX5_clear_32 iX5 tyX5_ok nmX5 (wXo_16 E s6) rfl (Nat.le_of_ble_eq_true rfl) rfl kf_X5_31 rfl rfl rfl rfl (Nat.le_of_ble_eq_true rfl) (wXs_16_6 E s6 _) rfl h (fun s7 h => ?_)
  exact hk _ _ _ _ (Option.some.inj h) dX5_clear_35
set_option maxHeartbeats 4000000 in
set_option maxRecDepth 100000 in
theorem c_X11_bodyChanged (l : Launch) (E : Ev) (st : Sg) : ∀ q, m_X11_bodyChanged st = some q → CtV l (wX E) (tyE E) yX11_bodyChanged cX11_bodyChanged 1 none 1 20 [.ref (oX E 0)] st q := by
  intro q h
  refine ctV_of (lv0 := [(0, .ref (oX E 0))]) (by decide) rfl (Nat.le_of_ble_eq_true rfl) (fun C hC cx hk => ?_)
  replace cx : Cx C (tyE E) cX11_bodyChanged RX11 1 1 20 := cx
  unfold m_X11_bodyChanged at h
  refine v_aload_n 1 0 cx dX11_bodyChanged_0 rfl rfl rfl ?_
  refine v_get 4 0 1 cx dX11_bodyChanged_1 iX11 (wXo_0 E st) rfl (Nat.le_of_ble_eq_true rfl) rfl kf_X11_19 rfl rfl ?_
  refine v_iconst 5 cx dX11_bodyChanged_4 ic_1 rfl ?_
  refine v_putI 8 3 2 cx dX11_bodyChanged_5 iX10 tyX10_ok nmX10 (wXo_3 E st) rfl (Nat.le_of_ble_eq_true rfl) rfl kf_X11_336 rfl rfl rfl rfl (Nat.le_of_ble_eq_true rfl) (wXs_3_2 E st _) rfl h (fun s1 h => ?_)
  refine v_aload_n 9 0 cx dX11_bodyChanged_8 rfl rfl rfl ?_
  refine v_get 12 0 5 cx dX11_bodyChanged_9 iX11 (wXo_0 E s1) rfl (Nat.le_of_ble_eq_true rfl) rfl kf_X11_49 rfl rfl ?_
  refine v_iconst 13 cx dX11_bodyChanged_12 ic_0 rfl ?_
  refine v_putI 16 9 0 cx dX11_bodyChanged_13 iX4 tyX4_ok nmX4 (wXo_9 E s1) rfl (Nat.le_of_ble_eq_true rfl) rfl kf_X11_241 rfl rfl rfl rfl (Nat.le_of_ble_eq_true rfl) (wXs_9_0 E s1 _) rfl h (fun s2 h => ?_)
  refine v_aload_n 17 0 cx dX11_bodyChanged_16 rfl rfl rfl ?_
  refine v_get 20 0 8 cx dX11_bodyChanged_17 iX11 (wXo_0 E s2) rfl (Nat.le_of_ble_eq_true rfl) rfl kf_X11_72 rfl rfl ?_
  refine v_callVV 23 16 cx dX11_bodyChanged_20 km_X11_339 ca_X5_clear (wXo_16 E s2) rfl (c_X5_clear_16 C.2.1 E s2 ) rfl (by decide) rfl (Nat.le_of_ble_eq_true rfl) rfl h (fun _ s3 h => ?_)
  exact hk _ _ _ _ (Option.some.inj h) dX11_bodyChanged_23
set_option maxHeartbeats 4000000 in
set_option maxRecDepth 100000 in
theorem c_X1_isAhead_4 (l : Launch) (E : Ev) (st : Sg) (p1 : Int32) (p2 : Int32) : ∀ q, m_X1_isAhead 4 p1 p2 st = some q → CtI l (wX E) (tyE E) yX1_isAhead cX1_isAhead 3 (some .boolean) 0 0 [.ref (oX E 4), .int p1, .int p2] st q := by
  intro q h
  refine ctZ_of (lv0 := [(0, .ref (oX E 4)), (1, .int p1), (2, .int p2)]) (by decide) rfl (Nat.le_of_ble_eq_true rfl) (fun C hC cx hk => ?_)
  replace cx : Cx C (tyE E) cX1_isAhead RX1 3 0 0 := cx
  unfold m_X1_isAhead at h
  refine v_aload_n 1 0 cx dX1_isAhead_0 rfl rfl rfl ?_
  refine v_get 4 4 2 cx dX1_isAhead_1 iX1 (wXo_4 E st) rfl (Nat.le_of_ble_eq_true rfl) rfl kf_X1_23 rfl rfl ?_
  refine v_iload_n 5 1 cx dX1_isAhead_4 rfl rfl rfl ?_
  refine v_iald 6 33 0 cx dX1_isAhead_5 (wXa_4_2 E st) rfl rfl h (fun v1 h => ?_)
  refine v_aload_n 7 0 cx dX1_isAhead_6 rfl rfl rfl ?_
  refine v_get 10 4 2 cx dX1_isAhead_7 iX1 (wXo_4 E st) rfl (Nat.le_of_ble_eq_true rfl) rfl kf_X1_23 rfl rfl ?_
  refine v_iload_n 11 2 cx dX1_isAhead_10 rfl rfl rfl ?_
  refine v_iald 12 33 0 cx dX1_isAhead_11 (wXa_4_2 E st) rfl rfl h (fun v2 h => ?_)
  refine v_icmp_eq 36 15 cx dX1_isAhead_12 (by decide) rfl h (fun h => ?_) (fun h => ?_)
  · refine v_aload_n 37 0 cx dX1_isAhead_36 rfl rfl rfl ?_
    refine v_get 40 4 1 cx dX1_isAhead_37 iX1 (wXo_4 E st) rfl (Nat.le_of_ble_eq_true rfl) rfl kf_X1_19 rfl rfl ?_
    refine v_iload_n 41 1 cx dX1_isAhead_40 rfl rfl rfl ?_
    refine v_iald 42 32 0 cx dX1_isAhead_41 (wXa_4_1 E st) rfl rfl h (fun v3 h => ?_)
    refine v_aload_n 43 0 cx dX1_isAhead_42 rfl rfl rfl ?_
    refine v_get 46 4 1 cx dX1_isAhead_43 iX1 (wXo_4 E st) rfl (Nat.le_of_ble_eq_true rfl) rfl kf_X1_19 rfl rfl ?_
    refine v_iload_n 47 2 cx dX1_isAhead_46 rfl rfl rfl ?_
    refine v_iald 48 32 0 cx dX1_isAhead_47 (wXa_4_1 E st) rfl rfl h (fun v4 h => ?_)
    refine v_icmp_eq 72 51 cx dX1_isAhead_48 (by decide) rfl h (fun h => ?_) (fun h => ?_)
    · refine v_aload_n 73 0 cx dX1_isAhead_72 rfl rfl rfl ?_
      refine v_get 76 4 3 cx dX1_isAhead_73 iX1 (wXo_4 E st) rfl (Nat.le_of_ble_eq_true rfl) rfl kf_X1_26 rfl rfl ?_
      refine v_iload_n 77 1 cx dX1_isAhead_76 rfl rfl rfl ?_
      refine v_iald 78 34 0 cx dX1_isAhead_77 (wXa_4_3 E st) rfl rfl h (fun v5 h => ?_)
      refine v_aload_n 79 0 cx dX1_isAhead_78 rfl rfl rfl ?_
      refine v_get 82 4 3 cx dX1_isAhead_79 iX1 (wXo_4 E st) rfl (Nat.le_of_ble_eq_true rfl) rfl kf_X1_26 rfl rfl ?_
      refine v_iload_n 83 2 cx dX1_isAhead_82 rfl rfl rfl ?_
      refine v_iald 84 34 0 cx dX1_isAhead_83 (wXa_4_3 E st) rfl rfl h (fun v6 h => ?_)
      refine v_icmp_eq 108 87 cx dX1_isAhead_84 (by decide) rfl h (fun h => ?_) (fun h => ?_)
      · refine v_aload_n 109 0 cx dX1_isAhead_108 rfl rfl rfl ?_
        refine v_get 112 4 4 cx dX1_isAhead_109 iX1 (wXo_4 E st) rfl (Nat.le_of_ble_eq_true rfl) rfl kf_X1_29 rfl rfl ?_
        refine v_iload_n 113 1 cx dX1_isAhead_112 rfl rfl rfl ?_
        refine v_iald 114 35 0 cx dX1_isAhead_113 (wXa_4_4 E st) rfl rfl h (fun v7 h => ?_)
        refine v_aload_n 115 0 cx dX1_isAhead_114 rfl rfl rfl ?_
        refine v_get 118 4 4 cx dX1_isAhead_115 iX1 (wXo_4 E st) rfl (Nat.le_of_ble_eq_true rfl) rfl kf_X1_29 rfl rfl ?_
        refine v_iload_n 119 2 cx dX1_isAhead_118 rfl rfl rfl ?_
        refine v_iald 120 35 0 cx dX1_isAhead_119 (wXa_4_4 E st) rfl rfl h (fun v8 h => ?_)
        refine v_icmp_ge 127 123 cx dX1_isAhead_120 (by decide) rfl h (fun h => ?_) (fun h => ?_)
        · refine v_iconst 128 cx dX1_isAhead_127 ic_0 rfl ?_
          exact hk _ _ _ _ (Option.some.inj h) (Or.inl rfl) dX1_isAhead_128
        · refine v_iconst 124 cx dX1_isAhead_123 ic_1 rfl ?_
          refine v_goto 128 cx dX1_isAhead_124 (by decide) ?_
          exact hk _ _ _ _ (Option.some.inj h) (Or.inr rfl) dX1_isAhead_128
      · refine v_aload_n 88 0 cx dX1_isAhead_87 rfl rfl rfl ?_
        refine v_get 91 4 3 cx dX1_isAhead_88 iX1 (wXo_4 E st) rfl (Nat.le_of_ble_eq_true rfl) rfl kf_X1_26 rfl rfl ?_
        refine v_iload_n 92 1 cx dX1_isAhead_91 rfl rfl rfl ?_
        refine v_iald 93 34 0 cx dX1_isAhead_92 (wXa_4_3 E st) rfl rfl h (fun v9 h => ?_)
        refine v_aload_n 94 0 cx dX1_isAhead_93 rfl rfl rfl ?_
        refine v_get 97 4 3 cx dX1_isAhead_94 iX1 (wXo_4 E st) rfl (Nat.le_of_ble_eq_true rfl) rfl kf_X1_26 rfl rfl ?_
        refine v_iload_n 98 2 cx dX1_isAhead_97 rfl rfl rfl ?_
        refine v_iald 99 34 0 cx dX1_isAhead_98 (wXa_4_3 E st) rfl rfl h (fun v10 h => ?_)
        refine v_icmp_ge 106 102 cx dX1_isAhead_99 (by decide) rfl h (fun h => ?_) (fun h => ?_)
        · refine v_iconst 107 cx dX1_isAhead_106 ic_0 rfl ?_
          exact hk _ _ _ _ (Option.some.inj h) (Or.inl rfl) dX1_isAhead_107
        · refine v_iconst 103 cx dX1_isAhead_102 ic_1 rfl ?_
          refine v_goto 107 cx dX1_isAhead_103 (by decide) ?_
          exact hk _ _ _ _ (Option.some.inj h) (Or.inr rfl) dX1_isAhead_107
    · refine v_aload_n 52 0 cx dX1_isAhead_51 rfl rfl rfl ?_
      refine v_get 55 4 1 cx dX1_isAhead_52 iX1 (wXo_4 E st) rfl (Nat.le_of_ble_eq_true rfl) rfl kf_X1_19 rfl rfl ?_
      refine v_iload_n 56 1 cx dX1_isAhead_55 rfl rfl rfl ?_
      refine v_iald 57 32 0 cx dX1_isAhead_56 (wXa_4_1 E st) rfl rfl h (fun v11 h => ?_)
      refine v_aload_n 58 0 cx dX1_isAhead_57 rfl rfl rfl ?_
      refine v_get 61 4 1 cx dX1_isAhead_58 iX1 (wXo_4 E st) rfl (Nat.le_of_ble_eq_true rfl) rfl kf_X1_19 rfl rfl ?_
      refine v_iload_n 62 2 cx dX1_isAhead_61 rfl rfl rfl ?_
      refine v_iald 63 32 0 cx dX1_isAhead_62 (wXa_4_1 E st) rfl rfl h (fun v12 h => ?_)
      refine v_icmp_ge 70 66 cx dX1_isAhead_63 (by decide) rfl h (fun h => ?_) (fun h => ?_)
      · refine v_iconst 71 cx dX1_isAhead_70 ic_0 rfl ?_
        exact hk _ _ _ _ (Option.some.inj h) (Or.inl rfl) dX1_isAhead_71
      · refine v_iconst 67 cx dX1_isAhead_66 ic_1 rfl ?_
        refine v_goto 71 cx dX1_isAhead_67 (by decide) ?_
        exact hk _ _ _ _ (Option.some.inj h) (Or.inr rfl) dX1_isAhead_71
  · refine v_aload_n 16 0 cx dX1_isAhead_15 rfl rfl rfl ?_
    refine v_get 19 4 2 cx dX1_isAhead_16 iX1 (wXo_4 E st) rfl (Nat.le_of_ble_eq_true rfl) rfl kf_X1_23 rfl rfl ?_
    refine v_iload_n 20 1 cx dX1_isAhead_19 rfl rfl rfl ?_
    refine v_iald 21 33 0 cx dX1_isAhead_20 (wXa_4_2 E st) rfl rfl h (fun v13 h => ?_)
    refine v_aload_n 22 0 cx dX1_isAhead_21 rfl rfl rfl ?_
    refine v_get 25 4 2 cx dX1_isAhead_22 iX1 (wXo_4 E st) rfl (Nat.le_of_ble_eq_true rfl) rfl kf_X1_23 rfl rfl ?_
    refine v_iload_n 26 2 cx dX1_isAhead_25 rfl rfl rfl ?_
    refine v_iald 27 33 0 cx dX1_isAhead_26 (wXa_4_2 E st) rfl rfl h (fun v14 h => ?_)
    refine v_icmp_ge 34 30 cx dX1_isAhead_27 (by decide) rfl h (fun h => ?_) (fun h => ?_)
    · refine v_iconst 35 cx dX1_isAhead_34 ic_0 rfl ?_
      exact hk _ _ _ _ (Option.some.inj h) (Or.inl rfl) dX1_isAhead_35
    · refine v_iconst 31 cx dX1_isAhead_30 ic_1 rfl ?_
      refine v_goto 35 cx dX1_isAhead_31 (by decide) ?_
      exact hk _ _ _ _ (Option.some.inj h) (Or.inr rfl) dX1_isAhead_35
