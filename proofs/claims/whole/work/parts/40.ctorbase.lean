-- 40.ctorbase: the machine over an explicit list of cells, for constructors (written by mk08.py)
theorem kar_I : Cond.arrayClass .int ∈ lwg := lwg_of (List.mem_of_getElem? (i := 136) (by decide +kernel)) (by decide +kernel)
theorem kar_J : Cond.arrayClass .long ∈ lwg := lwg_of (List.mem_of_getElem? (i := 137) (by decide +kernel)) (by decide +kernel)
theorem kar_Z : Cond.arrayClass .boolean ∈ lwg := lwg_of (List.mem_of_getElem? (i := 256) (by decide +kernel)) (by decide +kernel)
theorem kob_i : Cond.instanceMethod objectInit ∈ lwg := lwg_of (List.mem_of_getElem? (i := 91) (by decide +kernel)) (by decide +kernel)
theorem kob_c : Cond.code objectInit ⟨#[0xb1]⟩ 1 none ∈ lwg := lwg_of (List.mem_of_getElem? (i := 92) (by decide +kernel)) (by decide +kernel)
theorem km_X11_1 : Cond.methodLink RX11 1 objectInit ∈ lwg := lwg_of (List.mem_of_getElem? (i := 90) (by decide +kernel)) (by decide +kernel)
theorem km_X0_3 : Cond.methodLink RX0 3 objectInit ∈ lwg := lwg_of (List.mem_of_getElem? (i := 98) (by decide +kernel)) (by decide +kernel)
theorem km_X1_1 : Cond.methodLink RX1 1 objectInit ∈ lwg := lwg_of (List.mem_of_getElem? (i := 104) (by decide +kernel)) (by decide +kernel)
theorem km_X10_3 : Cond.methodLink RX10 3 objectInit ∈ lwg := lwg_of (List.mem_of_getElem? (i := 220) (by decide +kernel)) (by decide +kernel)
theorem km_X6_3 : Cond.methodLink RX6 3 objectInit ∈ lwg := lwg_of (List.mem_of_getElem? (i := 241) (by decide +kernel)) (by decide +kernel)
theorem km_X9_3 : Cond.methodLink RX9 3 objectInit ∈ lwg := lwg_of (List.mem_of_getElem? (i := 262) (by decide +kernel)) (by decide +kernel)
theorem km_X8_3 : Cond.methodLink RX8 3 objectInit ∈ lwg := lwg_of (List.mem_of_getElem? (i := 276) (by decide +kernel)) (by decide +kernel)
theorem km_X2_3 : Cond.methodLink RX2 3 objectInit ∈ lwg := lwg_of (List.mem_of_getElem? (i := 282) (by decide +kernel)) (by decide +kernel)
theorem km_X4_3 : Cond.methodLink RX4 3 objectInit ∈ lwg := lwg_of (List.mem_of_getElem? (i := 328) (by decide +kernel)) (by decide +kernel)
theorem km_X3_3 : Cond.methodLink RX3 3 objectInit ∈ lwg := lwg_of (List.mem_of_getElem? (i := 391) (by decide +kernel)) (by decide +kernel)
theorem km_X7_3 : Cond.methodLink RX7 3 objectInit ∈ lwg := lwg_of (List.mem_of_getElem? (i := 408) (by decide +kernel)) (by decide +kernel)
theorem km_X5_3 : Cond.methodLink RX5 3 objectInit ∈ lwg := lwg_of (List.mem_of_getElem? (i := 414) (by decide +kernel)) (by decide +kernel)
theorem km_X12_1 : Cond.methodLink RX12 1 objectInit ∈ lwg := lwg_of (List.mem_of_getElem? (i := 1058) (by decide +kernel)) (by decide +kernel)
theorem kl_L_7 : Cond.classLink RL 7 RX11 ∈ lwg := lwg_of (List.mem_of_getElem? (i := 85) (by decide +kernel)) (by decide +kernel)
theorem kl_X11_7 : Cond.classLink RX11 7 RX0 ∈ lwg := lwg_of (List.mem_of_getElem? (i := 93) (by decide +kernel)) (by decide +kernel)
theorem kl_X0_47 : Cond.classLink RX0 47 RX1 ∈ lwg := lwg_of (List.mem_of_getElem? (i := 99) (by decide +kernel)) (by decide +kernel)
theorem kl_X11_16 : Cond.classLink RX11 16 RX10 ∈ lwg := lwg_of (List.mem_of_getElem? (i := 215) (by decide +kernel)) (by decide +kernel)
theorem kl_X10_9 : Cond.classLink RX10 9 RX1 ∈ lwg := lwg_of (List.mem_of_getElem? (i := 221) (by decide +kernel)) (by decide +kernel)
theorem kl_X11_23 : Cond.classLink RX11 23 RX6 ∈ lwg := lwg_of (List.mem_of_getElem? (i := 236) (by decide +kernel)) (by decide +kernel)
theorem kl_X11_30 : Cond.classLink RX11 30 RX9 ∈ lwg := lwg_of (List.mem_of_getElem? (i := 257) (by decide +kernel)) (by decide +kernel)
theorem kl_X11_37 : Cond.classLink RX11 37 RX8 ∈ lwg := lwg_of (List.mem_of_getElem? (i := 271) (by decide +kernel)) (by decide +kernel)
theorem kl_X8_9 : Cond.classLink RX8 9 RX2 ∈ lwg := lwg_of (List.mem_of_getElem? (i := 277) (by decide +kernel)) (by decide +kernel)
theorem kl_X11_46 : Cond.classLink RX11 46 RX4 ∈ lwg := lwg_of (List.mem_of_getElem? (i := 323) (by decide +kernel)) (by decide +kernel)
theorem kl_X4_47 : Cond.classLink RX4 47 RX2 ∈ lwg := lwg_of (List.mem_of_getElem? (i := 329) (by decide +kernel)) (by decide +kernel)
theorem kl_X11_53 : Cond.classLink RX11 53 RX3 ∈ lwg := lwg_of (List.mem_of_getElem? (i := 386) (by decide +kernel)) (by decide +kernel)
theorem kl_X3_15 : Cond.classLink RX3 15 RX2 ∈ lwg := lwg_of (List.mem_of_getElem? (i := 392) (by decide +kernel)) (by decide +kernel)
theorem kl_X11_60 : Cond.classLink RX11 60 RX7 ∈ lwg := lwg_of (List.mem_of_getElem? (i := 403) (by decide +kernel)) (by decide +kernel)
theorem kl_X7_15 : Cond.classLink RX7 15 RX5 ∈ lwg := lwg_of (List.mem_of_getElem? (i := 409) (by decide +kernel)) (by decide +kernel)
theorem kl_X11_69 : Cond.classLink RX11 69 RX5 ∈ lwg := lwg_of (List.mem_of_getElem? (i := 480) (by decide +kernel)) (by decide +kernel)
theorem kl_L_10 : Cond.classLink RL 10 RX12 ∈ lwg := lwg_of (List.mem_of_getElem? (i := 1053) (by decide +kernel)) (by decide +kernel)
theorem kn_X0 : Cond.instantiable RX0 12 ∈ lwg := lwg_of (List.mem_of_getElem? (i := 94) (by decide +kernel)) (by decide +kernel)
theorem ki_X0 : Cond.initialized RX0 ∈ lwg := lwg_of (List.mem_of_getElem? (i := 69) (by decide +kernel)) (by decide +kernel)
theorem kn_X1 : Cond.instantiable RX1 5 ∈ lwg := lwg_of (List.mem_of_getElem? (i := 100) (by decide +kernel)) (by decide +kernel)
theorem ki_X1 : Cond.initialized RX1 ∈ lwg := lwg_of (List.mem_of_getElem? (i := 70) (by decide +kernel)) (by decide +kernel)
theorem kn_X2 : Cond.instantiable RX2 1 ∈ lwg := lwg_of (List.mem_of_getElem? (i := 278) (by decide +kernel)) (by decide +kernel)
theorem ki_X2 : Cond.initialized RX2 ∈ lwg := lwg_of (List.mem_of_getElem? (i := 77) (by decide +kernel)) (by decide +kernel)
theorem kn_X3 : Cond.instantiable RX3 2 ∈ lwg := lwg_of (List.mem_of_getElem? (i := 387) (by decide +kernel)) (by decide +kernel)
theorem ki_X3 : Cond.initialized RX3 ∈ lwg := lwg_of (List.mem_of_getElem? (i := 79) (by decide +kernel)) (by decide +kernel)
theorem kn_X4 : Cond.instantiable RX4 12 ∈ lwg := lwg_of (List.mem_of_getElem? (i := 324) (by decide +kernel)) (by decide +kernel)
theorem ki_X4 : Cond.initialized RX4 ∈ lwg := lwg_of (List.mem_of_getElem? (i := 78) (by decide +kernel)) (by decide +kernel)
theorem kn_X5 : Cond.instantiable RX5 8 ∈ lwg := lwg_of (List.mem_of_getElem? (i := 410) (by decide +kernel)) (by decide +kernel)
theorem ki_X5 : Cond.initialized RX5 ∈ lwg := lwg_of (List.mem_of_getElem? (i := 81) (by decide +kernel)) (by decide +kernel)
theorem kn_X6 : Cond.instantiable RX6 3 ∈ lwg := lwg_of (List.mem_of_getElem? (i := 237) (by decide +kernel)) (by decide +kernel)
theorem ki_X6 : Cond.initialized RX6 ∈ lwg := lwg_of (List.mem_of_getElem? (i := 74) (by decide +kernel)) (by decide +kernel)
theorem kn_X7 : Cond.instantiable RX7 8 ∈ lwg := lwg_of (List.mem_of_getElem? (i := 404) (by decide +kernel)) (by decide +kernel)
theorem ki_X7 : Cond.initialized RX7 ∈ lwg := lwg_of (List.mem_of_getElem? (i := 80) (by decide +kernel)) (by decide +kernel)
theorem kn_X8 : Cond.instantiable RX8 11 ∈ lwg := lwg_of (List.mem_of_getElem? (i := 272) (by decide +kernel)) (by decide +kernel)
theorem ki_X8 : Cond.initialized RX8 ∈ lwg := lwg_of (List.mem_of_getElem? (i := 76) (by decide +kernel)) (by decide +kernel)
theorem kn_X9 : Cond.instantiable RX9 2 ∈ lwg := lwg_of (List.mem_of_getElem? (i := 258) (by decide +kernel)) (by decide +kernel)
theorem ki_X9 : Cond.initialized RX9 ∈ lwg := lwg_of (List.mem_of_getElem? (i := 75) (by decide +kernel)) (by decide +kernel)
theorem kn_X10 : Cond.instantiable RX10 3 ∈ lwg := lwg_of (List.mem_of_getElem? (i := 216) (by decide +kernel)) (by decide +kernel)
theorem ki_X10 : Cond.initialized RX10 ∈ lwg := lwg_of (List.mem_of_getElem? (i := 73) (by decide +kernel)) (by decide +kernel)
theorem kn_X11 : Cond.instantiable RX11 11 ∈ lwg := lwg_of (List.mem_of_getElem? (i := 86) (by decide +kernel)) (by decide +kernel)
theorem ki_X11 : Cond.initialized RX11 ∈ lwg := lwg_of (List.mem_of_getElem? (i := 68) (by decide +kernel)) (by decide +kernel)
theorem kn_X12 : Cond.instantiable RX12 45 ∈ lwg := lwg_of (List.mem_of_getElem? (i := 1054) (by decide +kernel)) (by decide +kernel)
theorem ki_X12 : Cond.initialized RX12 ∈ lwg := lwg_of (List.mem_of_getElem? (i := 82) (by decide +kernel)) (by decide +kernel)
def Vaw (C : Cm) (ws : va_W) (nL pc : Nat) (lv : List (Nat × Value)) (stk : List Value) (ce sl : Nat) : Prop := ∀ (H : Heap) (locs : List Loc) (ls : Array Slot), Wo C ws H locs → lv_has ls nL lv → W C.1 C.2.1 C.2.2.1 C.2.2.2.1 C.2.2.2.2.1 C.2.2.2.2.2.1 C.2.2.2.2.2.2.1 C.2.2.2.2.2.2.2.1 C.2.2.2.2.2.2.2.2.1 C.2.2.2.2.2.2.2.2.2.1 H locs ce sl C.2.2.2.2.2.2.2.2.2.2.1 (F0 C.2.2.2.2.2.1 pc ls stk)
def CxN (C : Cm) (tys : List (ClassId × FieldType)) (cc : ByteArray) (own : String) (nL fr lo mc ms : Nat) : Prop := Cx C tys cc own nL fr lo ∧ C.2.2.2.1.cells = mc ∧ C.2.2.2.1.slots = ms ∧ (own ≠ RL → C.2.2.2.2.2.2.2.2.1.name = "<init>")
section VN
variable {C : Cm} {ws ws' : va_W} {nL pc fr lo mc ms ce sl : Nat} {lv : List (Nat × Value)} {stk : List Value} {E : Ev} {cc : ByteArray} {own : String}
theorem n_iconst (pc' : Nat) {n : Int} {v : Int32} (cn : CxN C (tyE E) cc own nL fr lo mc ms) (hd : decode cc pc = .ok (.iconst n, 1)) (hv : Int32.ofInt n = v) (hp : pc + 1 = pc') (k : Vaw C ws nL pc' lv (.int v :: stk) ce sl) : Vaw C ws nL pc lv stk ce sl := by
  subst hp
  obtain ⟨cx, -, -, -⟩ := cn
  exact fun H locs ls hW hl => lv_iconst cx.1 cx.2.1 hd hv (k H locs ls hW hl)
theorem n_bipush (pc' : Nat) {n : Int} {v : Int32} (cn : CxN C (tyE E) cc own nL fr lo mc ms) (hd : decode cc pc = .ok (.bipush n, 2)) (hv : (Int8.ofInt n).toInt32 = v) (hp : pc + 2 = pc') (k : Vaw C ws nL pc' lv (.int v :: stk) ce sl) : Vaw C ws nL pc lv stk ce sl := by
  subst hp
  obtain ⟨cx, -, -, -⟩ := cn
  exact fun H locs ls hW hl => lv_bipush cx.1 cx.2.1 hd hv (k H locs ls hW hl)
theorem n_sipush (pc' : Nat) {n : Int} {v : Int32} (cn : CxN C (tyE E) cc own nL fr lo mc ms) (hd : decode cc pc = .ok (.sipush n, 3)) (hv : (Int16.ofInt n).toInt32 = v) (hp : pc + 3 = pc') (k : Vaw C ws nL pc' lv (.int v :: stk) ce sl) : Vaw C ws nL pc lv stk ce sl := by
  subst hp
  obtain ⟨cx, -, -, -⟩ := cn
  exact fun H locs ls hW hl => lv_sipush cx.1 cx.2.1 hd hv (k H locs ls hW hl)
theorem n_iload_n (pc' : Nat) (q : Nat) {k : Fin 4} {i : Nat} {x : Int32} (cn : CxN C (tyE E) cc own nL fr lo mc ms) (hd : decode cc pc = .ok (.iload_n k, 1)) (hi : (k : Nat) = i) (hk : lv[q]? = some (i, .int x)) (hp : pc + 1 = pc') (k : Vaw C ws nL pc' lv (.int x :: stk) ce sl) : Vaw C ws nL pc lv stk ce sl := by
  subst hp
  obtain ⟨cx, -, -, -⟩ := cn
  exact fun H locs ls hW hl => lv_iload_n cx.1 cx.2.1 hd hi (lv_at hl q hk) (k H locs ls hW hl)
theorem n_aload_n (pc' : Nat) (q : Nat) {k : Fin 4} {i : Nat} {x : Nat} (cn : CxN C (tyE E) cc own nL fr lo mc ms) (hd : decode cc pc = .ok (.aload_n k, 1)) (hi : (k : Nat) = i) (hk : lv[q]? = some (i, .ref x)) (hp : pc + 1 = pc') (k : Vaw C ws nL pc' lv (.ref x :: stk) ce sl) : Vaw C ws nL pc lv stk ce sl := by
  subst hp
  obtain ⟨cx, -, -, -⟩ := cn
  exact fun H locs ls hW hl => lv_aload_n cx.1 cx.2.1 hd hi (lv_at hl q hk) (k H locs ls hW hl)
theorem n_dup (pc' : Nat) {a : Value} (cn : CxN C (tyE E) cc own nL fr lo mc ms) (hd : decode cc pc = .ok (.dup, 1)) (ha : a.category = 1) (hp : pc + 1 = pc') (k : Vaw C ws nL pc' lv (a :: a :: stk) ce sl) : Vaw C ws nL pc lv (a :: stk) ce sl := by
  subst hp
  obtain ⟨cx, -, -, -⟩ := cn
  exact fun H locs ls hW hl => lv_dup cx.1 cx.2.1 hd ha (k H locs ls hW hl)
theorem n_istore_n (pc' : Nat) {k : Fin 4} {i : Nat} {x : Int32} (lv' : List (Nat × Value)) (cn : CxN C (tyE E) cc own nL fr lo mc ms) (hd : decode cc pc = .ok (.istore_n k, 1)) (hi : (k : Nat) = i) (hn : i < nL) (hl : (i, Value.int x) :: lv.filter (fun q => !(q.1 == i) && !(q.1 + 1 == i && q.2.category == 2)) = lv') (hp : pc + 1 = pc') (k : Vaw C ws nL pc' lv' stk ce sl) : Vaw C ws nL pc lv (.int x :: stk) ce sl := by
  subst hp
  obtain ⟨cx, -, -, -⟩ := cn
  exact fun H locs ls hW hq => lv_istore_n cx.1 cx.2.1 hd hi hq hn hl (fun ls' hl' => k H locs ls' hW hl')
theorem n_astore_n (pc' : Nat) {k : Fin 4} {i : Nat} {x : Nat} (lv' : List (Nat × Value)) (cn : CxN C (tyE E) cc own nL fr lo mc ms) (hd : decode cc pc = .ok (.astore_n k, 1)) (hi : (k : Nat) = i) (hn : i < nL) (hl : (i, Value.ref x) :: lv.filter (fun q => !(q.1 == i) && !(q.1 + 1 == i && q.2.category == 2)) = lv') (hp : pc + 1 = pc') (k : Vaw C ws nL pc' lv' stk ce sl) : Vaw C ws nL pc lv (.ref x :: stk) ce sl := by
  subst hp
  obtain ⟨cx, -, -, -⟩ := cn
  exact fun H locs ls hW hq => lv_astore_n cx.1 cx.2.1 hd hi hq hn hl (fun ls' hl' => k H locs ls' hW hl')
theorem n_mmax (pc' : Nat) {index : Nat} {x y : Int32} (cn : CxN C (tyE E) cc own nL fr lo mc ms) (hd : decode cc pc = .ok (.invokestatic index, 3)) (hm : Cond.methodLink own index Lib.Math.max.name ∈ lwg) (hf : 1 ≤ fr) (hlo : (stk.map fun v => v.category).sum + 13 ≤ lo) (hce : ce ≤ mc) (hsl : sl ≤ ms) (hp : pc + 3 = pc') (k : Vaw C ws nL pc' lv (.int (mx x y) :: stk) ce sl) : Vaw C ws nL pc lv (.int y :: .int x :: stk) ce sl := by
  subst hp
  obtain ⟨⟨a1, a2, a3, a4, a5, a6, a7, a8, a9, a10, a11⟩, b1, b2, b3⟩ := cn
  subst a8; subst a9; subst b1; subst b2
  exact fun H locs ls hW hl => va_mmax a1 a2 (a3.trans hl.1.symm) a4 (a5 _ hm) (a5 _ kmax_s) (a5 _ kmax_i) (a5 _ kmax_c) hf hlo hce hsl hd (k H locs ls hW hl)
theorem n_obj (pc' : Nat) {index a : Nat} (cn : CxN C (tyE E) cc own nL fr lo mc ms) (hd : decode cc pc = .ok (.invokespecial index, 3)) (hm : Cond.methodLink own index objectInit ∈ lwg) (h1 : Cond.instanceMethod objectInit ∈ lwg) (h2 : Cond.code objectInit ⟨#[0xb1]⟩ 1 none ∈ lwg) (hf : 1 ≤ fr) (hlo : (stk.map fun v => v.category).sum + 12 ≤ lo) (hp : pc + 3 = pc') (k : Vaw C ws nL pc' lv stk ce sl) : Vaw C ws nL pc lv (.ref a :: stk) ce sl := by
  subst hp
  obtain ⟨⟨a1, a2, a3, a4, a5, a6, a7, a8, a9, a10, a11⟩, b1, b2, b3⟩ := cn
  subst a8; subst a9
  exact fun H locs ls hW hl => W.objInit a1 a2 a4 (a5 _ hm) (a5 _ h1) (a5 _ h2) rfl (by rw [a3]; exact hl.1) rfl hd hf (by show 2 * 0 + _ + 12 ≤ _; omega) (k H locs ls hW hl)
theorem n_new (pc' : Nat) {C0 : String} {T : u_T} {N ci index : Nat} {tyf : Nat → FieldType} (fs : List Value) (cn : CxN C (tyE E) cc own nL fr lo mc ms) (hd : decode cc pc = .ok (.new index, 3)) (hin : ∀ w ∈ u_ws C0 T N, w ∈ lwg) (hty : ∀ k, k < N → parseFieldDescriptor (T k).2.2.1 = some (tyf k)) (hcl : Cond.classLink own index C0 ∈ lwg) (hi2 : Cond.instantiable C0 N ∈ lwg) (hi3 : Cond.initialized C0 ∈ lwg) (hc : vwCl[ci]? = some (C0, T, N)) (hfs : ∀ j, j < N → defaultValue (tyf j) = vp_V fs j) (hce : ce + 1 ≤ mc) (hsl : sl + N ≤ ms) (hp : pc + 3 = pc') (kk : ∀ q : Nat, Vaw C ((q, .inr (ci, fs)) :: ws) nL pc' lv (.ref q :: stk) (ce + 1) (sl + N)) : Vaw C ws nL pc lv stk ce sl := by
  subst hp
  obtain ⟨⟨a1, a2, a3, a4, a5, a6, a7, a8, a9, a10, a11⟩, b1, b2, b3⟩ := cn
  subst b1; subst b2
  exact fun H locs ls hW hl => va_new a1 a2 a5 hin tyf hty a4 (a5 _ hcl) (a5 _ hi2) (a5 _ hi3) a6 hW.1 hW.2.1 hW.2.2 a7 hc hfs hce hsl hd (fun q H1 g1 g2 g3 => kk q H1 locs ls (Wo.perm ⟨g1, g2, g3⟩ (List.perm_append_singleton _ _)) hl)
theorem n_newaI (pc' N' : Nat) {n : Int32} (cn : CxN C (tyE E) cc own nL fr lo mc ms) (hd : decode cc pc = .ok (.newarray .int, 2)) (hn : ¬ n < 0) (hN : n.toNatClampNeg = N') (hby : N' * componentBytes .int ≤ 536870912) (hce : ce + 1 ≤ mc) (hsl : sl + N' ≤ ms) (hp : pc + 2 = pc') (kk : ∀ q : Nat, Vaw C ((q, .inl (cI E, N', .inl (fun _ => (0 : Int32)))) :: ws) nL pc' lv (.ref q :: stk) (ce + 1) (sl + N')) : Vaw C ws nL pc lv (.int n :: stk) ce sl := by
  subst hp
  obtain ⟨⟨a1, a2, a3, a4, a5, a6, a7, a8, a9, a10, a11⟩, b1, b2, b3⟩ := cn
  subst b1; subst b2
  exact fun H locs ls hW hl => va_newa (atype := .int) a1 a2 (a5 _ kar_I) rfl a6 hW.1 hW.2.1 hW.2.2 a7 (a0 := (N', .inl (fun _ => (0 : Int32)))) (fun _ => rfl) hn hN hby hce hsl hd (fun q cA H1 g0 g1 g2 g3 => by
    have e : cA = cI E := by
      have u1 := (g0.2 3 (cA, .int) rfl).2
      have u2 := (a6.2 0 (cI E, .int) rfl).2
      exact Option.some.inj (u1.symm.trans u2)
    subst e
    exact kk q H1 locs ls (Wo.perm ⟨g1, g2, g3⟩ (List.perm_append_singleton _ _)) hl)
theorem n_newaJ (pc' N' : Nat) {n : Int32} (cn : CxN C (tyE E) cc own nL fr lo mc ms) (hd : decode cc pc = .ok (.newarray .long, 2)) (hn : ¬ n < 0) (hN : n.toNatClampNeg = N') (hby : N' * componentBytes .long ≤ 536870912) (hce : ce + 1 ≤ mc) (hsl : sl + N' ≤ ms) (hp : pc + 2 = pc') (kk : ∀ q : Nat, Vaw C ((q, .inl (cJ E, N', .inr (.inl (fun _ => (0 : Int64))))) :: ws) nL pc' lv (.ref q :: stk) (ce + 1) (sl + N')) : Vaw C ws nL pc lv (.int n :: stk) ce sl := by
  subst hp
  obtain ⟨⟨a1, a2, a3, a4, a5, a6, a7, a8, a9, a10, a11⟩, b1, b2, b3⟩ := cn
  subst b1; subst b2
  exact fun H locs ls hW hl => va_newa (atype := .long) a1 a2 (a5 _ kar_J) rfl a6 hW.1 hW.2.1 hW.2.2 a7 (a0 := (N', .inr (.inl (fun _ => (0 : Int64))))) (fun _ => rfl) hn hN hby hce hsl hd (fun q cA H1 g0 g1 g2 g3 => by
    have e : cA = cJ E := by
      have u1 := (g0.2 3 (cA, .long) rfl).2
      have u2 := (a6.2 1 (cJ E, .long) rfl).2
      exact Option.some.inj (u1.symm.trans u2)
    subst e
    exact kk q H1 locs ls (Wo.perm ⟨g1, g2, g3⟩ (List.perm_append_singleton _ _)) hl)
theorem n_newaZ (pc' N' : Nat) {n : Int32} (cn : CxN C (tyE E) cc own nL fr lo mc ms) (hd : decode cc pc = .ok (.newarray .boolean, 2)) (hn : ¬ n < 0) (hN : n.toNatClampNeg = N') (hby : N' * componentBytes .boolean ≤ 536870912) (hce : ce + 1 ≤ mc) (hsl : sl + N' ≤ ms) (hp : pc + 2 = pc') (kk : ∀ q : Nat, Vaw C ((q, .inl (cZ E, N', .inl (fun _ => (0 : Int32)))) :: ws) nL pc' lv (.ref q :: stk) (ce + 1) (sl + N')) : Vaw C ws nL pc lv (.int n :: stk) ce sl := by
  subst hp
  obtain ⟨⟨a1, a2, a3, a4, a5, a6, a7, a8, a9, a10, a11⟩, b1, b2, b3⟩ := cn
  subst b1; subst b2
  exact fun H locs ls hW hl => va_newa (atype := .boolean) a1 a2 (a5 _ kar_Z) rfl a6 hW.1 hW.2.1 hW.2.2 a7 (a0 := (N', .inl (fun _ => (0 : Int32)))) (fun _ => rfl) hn hN hby hce hsl hd (fun q cA H1 g0 g1 g2 g3 => by
    have e : cA = cZ E := by
      have u1 := (g0.2 3 (cA, .boolean) rfl).2
      have u2 := (a6.2 2 (cZ E, .boolean) rfl).2
      exact Option.some.inj (u1.symm.trans u2)
    subst e
    exact kk q H1 locs ls (Wo.perm ⟨g1, g2, g3⟩ (List.perm_append_singleton _ _)) hl)
theorem n_get (pc' q0 k : Nat) {C0 ref : String} {T : u_T} {N ci index a : Nat} {fs : List Value} {v : Value} (cn : CxN C (tyE E) cc own nL fr lo mc ms) (hd : decode cc pc = .ok (.getfield index, 3)) (hin : ∀ w ∈ u_ws C0 T N, w ∈ lwg) (he : ws[q0]? = some (a, .inr (ci, fs))) (hc : vwCl[ci]? = some (C0, T, N)) (hk : k < N) (hr : (T k).1 = ref) (hm : Cond.fieldLink own index ref (T k).2.1 (T k).2.2.1 ∈ lwg) (hv : fs[k]? = some v) (hp : pc + 3 = pc') (kk : Vaw C ws nL pc' lv (v :: stk) ce sl) : Vaw C ws nL pc lv (.ref a :: stk) ce sl := by
  subst hp
  subst hr
  obtain ⟨cx, -, -, -⟩ := cn
  exact fun H locs ls hW hl => va_get cx.1 cx.2.1 cx.2.2.2.2.1 hin cx.2.2.2.1 cx.2.2.2.2.2.1 hW.1 q0 he hc k hk (cx.2.2.2.2.1 _ hm) (fun _ h9 => h9) hv hd (kk H locs ls hW hl)
theorem n_put (pc' q0 k : Nat) {C0 ref : String} {T : u_T} {N ci index a : Nat} {fs : List Value} {v : Value} {ty : FieldType} {tyf : Nat → FieldType} (cn : CxN C (tyE E) cc own nL fr lo mc ms) (hd : decode cc pc = .ok (.putfield index, 3)) (hin : ∀ w ∈ u_ws C0 T N, w ∈ lwg) (hty : ∀ k, k < N → parseFieldDescriptor (T k).2.2.1 = some (tyf k)) (hnm : ∀ a, a < N → ∀ b, b < N → a ≠ b → (T a).2.1 ≠ (T b).2.1) (he : ws[q0]? = some (a, .inr (ci, fs))) (hc : vwCl[ci]? = some (C0, T, N)) (hk : k < N) (hr : (T k).1 = ref) (hm : Cond.fieldLink own index ref (T k).2.1 (T k).2.2.1 ∈ lwg) (hfin : (T k).2.2.2 = false) (ht : tyf k = ty) (hn : narrow ty v = v) (hfit : fits ty v = true) (hlen : k < fs.length) (hs : ws.set q0 (a, .inr (ci, fs.set k v)) = ws') (hp : pc + 3 = pc') (kk : Vaw C ws' nL pc' lv stk ce sl) : Vaw C ws nL pc lv (v :: .ref a :: stk) ce sl := by
  subst hp
  subst hr
  obtain ⟨cx, b1, b2, b3⟩ := cn
  exact fun H locs ls hW hl => va_put cx.1 cx.2.1 cx.2.2.2.2.1 hin tyf hty hnm cx.2.2.2.1 cx.2.2.2.2.2.1 hW.1 hW.2.1 hW.2.2 q0 he hc k hk (cx.2.2.2.2.1 _ hm) (fun _ h9 => h9) hfin ((hty k hk).trans (by rw [ht])) hn hfit hlen hd (fun H1 locs1 g1 g2 g3 => kk H1 locs1 ls (by rw [hs] at g1 g2; exact ⟨g1, g2, g3⟩) hl)
theorem n_putF (pc' q0 k : Nat) {C0 ref : String} {T : u_T} {N ci index a : Nat} {fs : List Value} {v : Value} {ty : FieldType} {tyf : Nat → FieldType} (cn : CxN C (tyE E) cc own nL fr lo mc ms) (hd : decode cc pc = .ok (.putfield index, 3)) (hin : ∀ w ∈ u_ws C0 T N, w ∈ lwg) (hty : ∀ k, k < N → parseFieldDescriptor (T k).2.2.1 = some (tyf k)) (hnm : ∀ a, a < N → ∀ b, b < N → a ≠ b → (T a).2.1 ≠ (T b).2.1) (he : ws[q0]? = some (a, .inr (ci, fs))) (hc : vwCl[ci]? = some (C0, T, N)) (hk : k < N) (hr : (T k).1 = ref) (hm : Cond.fieldLink own index ref (T k).2.1 (T k).2.2.1 ∈ lwg) (hfin : (T k).2.2.2 = true) (hne : own ≠ RL) (hdecl : (T k).1 = own) (ht : tyf k = ty) (hn : narrow ty v = v) (hfit : fits ty v = true) (hlen : k < fs.length) (hs : ws.set q0 (a, .inr (ci, fs.set k v)) = ws') (hp : pc + 3 = pc') (kk : Vaw C ws' nL pc' lv stk ce sl) : Vaw C ws nL pc lv (v :: .ref a :: stk) ce sl := by
  subst hp
  subst hr
  obtain ⟨cx, b1, b2, b3⟩ := cn
  exact fun H locs ls hW hl => va_putF cx.1 cx.2.1 cx.2.2.2.2.1 hin tyf hty hnm cx.2.2.2.1 cx.2.2.2.2.2.1 hW.1 hW.2.1 hW.2.2 q0 he hc k hk (cx.2.2.2.2.1 _ hm) (fun _ h9 => h9) hfin (b3 hne) hdecl ((hty k hk).trans (by rw [ht])) hn hfit hlen hd (fun H1 locs1 g1 g2 g3 => kk H1 locs1 ls (by rw [hs] at g1 g2; exact ⟨g1, g2, g3⟩) hl)
theorem n_move (a b : va_W) {c : Nat × va_E} (h : ws = a ++ c :: b) (k : Vaw C (c :: (a ++ b)) nL pc lv stk ce sl) : Vaw C ws nL pc lv stk ce sl := fun H locs ls hW hl => k H locs ls (hW.perm (by rw [h]; exact List.perm_middle)) hl
end VN
def PcN (D : va_G) (tys : List (ClassId × FieldType)) (as : List Value) (ws : va_W) (sz : Nat) : Array Value → State → Prop := va_Pc as (fun U => U.heap.size = sz ∧ va_P D vwCl ws U.heap ∧ va_K D vwCl tys U ∧ va_D (fun _ => True) ws)
def rmC (fr lo mc ms : Nat) : Room := { frames := fr, cells := mc, slots := ms, locals := lo }
def CtN (l : Launch) (tys : List (ClassId × FieldType)) (y : MethodName) (cc : ByteArray) (nL fr lo mc ms : Nat) (as : List Value) (ws : va_W) (G : (Nat → Nat) → va_W) : Prop := ∀ (D : va_G) (sz : Nat), Met l y (wsm y cc nL none) (rmC fr lo mc ms) (PcN D tys as ws sz) (va_Qv (fun _ : Nat → Nat => True) (fun u t => va_P D vwCl (G u) t.heap ∧ va_K D vwCl tys t ∧ va_D (va_A ws sz) (G u)) (va_A ws sz)) mc ms (va_A ws sz)
theorem pcn_blind {D : va_G} {tys : List (ClassId × FieldType)} {as : List Value} {ws : va_W} {sz : Nat} : FrameBlind (PcN D tys as ws sz) := fun a U g mk q => by
  obtain ⟨q0, q1, qP, qK, qD⟩ := q
  exact ⟨q0, q1, qP, va_K.moved (u := U) (U := U.calling g mk a) (Vm.Alike.refl U.vm) qK, qD⟩
def CaI (y : MethodName) (cc : ByteArray) (nL n : Nat) : Prop := Cond.code y cc nL none ∈ lwg ∧ Cond.initialized y.cls ∈ lwg ∧ Cond.instanceMethod y ∈ lwg ∧ y.name = "<init>" ∧ (y.cls ≠ "java/lang/invoke/MethodHandle" ∧ y.cls ≠ "java/lang/invoke/VarHandle" ∧ (parseMethodDescriptor y.desc).map (fun d => d.parameters.length) = some n)
section VO
variable {C : Cm} {ws : va_W} {nL pc fr lo mc ms ce sl : Nat} {lv : List (Nat × Value)} {stk : List Value} {E : Ev} {cc : ByteArray} {own : String}
theorem n_callI (pc' : Nat) {index nL2 n fr2 lo2 mc2 ms2 b : Nat} {y : MethodName} {cc2 : ByteArray} {as S : List Value} {G : (Nat → Nat) → va_W} (cn : CxN C (tyE E) cc own nL fr lo mc ms) (hd : decode cc pc = .ok (.invokespecial index, 3)) (hm : Cond.methodLink own index y ∈ lwg) (cb : CaI y cc2 nL2 n) (hM : CtN C.2.1 (tyE E) y cc2 nL2 fr2 lo2 mc2 ms2 (.ref b :: as) ws G) (hn : as.length = n) (hR : fr2 + 1 ≤ fr ∧ 8 + (nL2 + 11) + lo2 ≤ lo) (hce : ce + mc2 ≤ mc) (hsl : sl + ms2 ≤ ms) (hs : S = as.reverse ++ .ref b :: stk) (hw : (stk.map fun v => v.category).sum ≤ 8) (hp : pc + 3 = pc') (kk : ∀ u, Vaw C (G u) nL pc' lv stk (ce + mc2) (sl + ms2)) : Vaw C ws nL pc lv S ce sl := by
  subst hp
  subst hs
  obtain ⟨⟨c1, c2, c3, c4, c5, c6, c7, c8, c9, c10, c11⟩, b1, b2, b3⟩ := cn
  subst c8; subst c9; subst b1; subst b2
  intro H locs ls hW hl
  obtain ⟨hP, hD, hS⟩ := hW
  have hM1 := hM C.2.2.2.2.2.2.2.2.2.2.2.1 H.size
  have cw : CallB C.2.2.2.1 C.2.2.2.2.1 C.2.2.2.2.2.2.1 own index y cc2 nL2 none (wsm y cc2 nL2 none) (rmC fr2 lo2 mc2 ms2) mc2 ms2 n ∧ y.name = "<init>" ∧ (Cond.instanceMethod y).before C.2.2.2.2.2.2.1 C.2.2.2.2.1 = true := ⟨callB_of n c5 (wsm_good cb.1) rfl rfl rfl (c5 _ cb.2.1) (c5 _ hm) cb.2.2.2.2 hR, cb.2.2.2.1, c5 _ cb.2.2.1⟩
  have pre : PreS C.2.2.2.2.1 H (PcN C.2.2.2.2.2.2.2.2.2.2.2.1 (tyE E) (.ref b :: as) ws H.size) (.ref b :: as) := ⟨pcn_blind, fun U hU hW => ⟨rfl, by rw [hU], by rw [hU]; exact hP, va_K.moved hW.alike c6, hD.weaken (fun _ _ _ _ => trivial)⟩⟩
  have run := va_runI (locs := locs) (cells := ce) (slots := sl) (below := C.2.2.2.2.2.2.2.1) (meth := C.2.2.2.2.2.2.2.2.1) (e := C.2.2.1) (g := F0 C.2.2.2.2.2.1 pc ls (as.reverse ++ .ref b :: stk)) (rest := stk) ⟨c1, c2, c3, c4, c5⟩ hM1 cw pre rfl hn hl.1 rfl (lv_room hw) hd ⟨hce, hsl⟩
  refine va_callv run hS (fun q _ h => wa_in hD hS c7 q h) (wa_in hD hS c7) (fun u t H1 locs1 ht hvm hw2 hB hz1 hk1 hS1 => ?_)
  obtain ⟨hP1, hK1, hD1⟩ := hB
  rw [ht] at hP1
  exact kk u H1 locs1 ls ⟨hP1, hD1.weaken (fun _ x _ hx => wa_in hD hS c7 x.1 hx), hS1⟩ hl
theorem n_callSV (pc' : Nat) {wl : Sg → va_W} {st st' : Sg} {index nL2 n fr2 lo2 : Nat} {y : MethodName} {cc2 : ByteArray} {as S : List Value} (cn : CxN C (tyE E) cc own nL fr lo mc ms) (hd : decode cc pc = .ok (.invokestatic index, 3)) (hm : Cond.methodLink own index y ∈ lwg) (cb : CaS y cc2 nL2 none n) (hw0 : ws = wl st) (hM : CtV C.2.1 wl (tyE E) y cc2 nL2 none fr2 lo2 as st ((), st')) (hn : as.length = n) (hR : fr2 + 1 ≤ fr ∧ 8 + (nL2 + 11) + lo2 ≤ lo) (hce : ce ≤ mc) (hsl : sl ≤ ms) (hs : S = as.reverse ++ stk) (hw : (stk.map fun v => v.category).sum ≤ 8) (hp : pc + 3 = pc') (kk : Vaw C (wl st') nL pc' lv stk ce sl) : Vaw C ws nL pc lv S ce sl := by
  subst hp
  subst hs
  subst hw0
  obtain ⟨⟨c1, c2, c3, c4, c5, c6, c7, c8, c9, c10, c11⟩, b1, b2, b3⟩ := cn
  subst c8; subst c9; subst b1; subst b2
  intro H locs ls hW hl
  obtain ⟨hP, hD, hS⟩ := hW
  have hM1 := hM C.2.2.2.2.2.2.2.2.2.2.2.1 H.size
  have cw : CallB C.2.2.2.1 C.2.2.2.2.1 C.2.2.2.2.2.2.1 own index y cc2 nL2 none (wsm y cc2 nL2 none) (rmN fr2 lo2) 0 0 n ∧ (Cond.static y).before C.2.2.2.2.2.2.1 C.2.2.2.2.1 = true := ⟨callB_of n c5 (wsm_good cb.1) rfl rfl rfl (c5 _ cb.2.1) (c5 _ hm) cb.2.2.2 hR, c5 _ cb.2.2.1⟩
  have pre : PreS C.2.2.2.2.1 H (PcW C.2.2.2.2.2.2.2.2.2.2.2.1 wl (tyE E) as st H.size) as := ⟨pcw_blind, fun U hU hW => ⟨rfl, by rw [hU], by rw [hU]; exact hP, va_K.moved hW.alike c6, hD.weaken (fun _ _ _ _ => trivial)⟩⟩
  have run := va_runS (locs := locs) (cells := ce) (slots := sl) (below := C.2.2.2.2.2.2.2.1) (meth := C.2.2.2.2.2.2.2.2.1) (e := C.2.2.1) (g := F0 C.2.2.2.2.2.1 pc ls (as.reverse ++ stk)) (rest := stk) ⟨c1, c2, c3, c4, c5⟩ hM1 cw pre rfl hn hl.1 rfl (lv_room hw) hd ⟨hce, hsl⟩
  refine va_callv run hS (fun q _ h => wa_in hD hS c7 q h) (wa_in hD hS c7) (fun u t H1 locs1 ht hvm hw2 hB hz1 hk1 hS1 => ?_)
  cases hw2
  obtain ⟨hP1, hK1, hD1⟩ := hB
  rw [ht] at hP1
  exact kk H1 locs1 ls ⟨hP1, hD1.weaken (fun _ x _ hx => wa_in hD hS c7 x.1 hx), hS1⟩ hl
def ReN (C : Cm) (cc : ByteArray) (nL mc ms : Nat) (G : (Nat → Nat) → va_W) : Prop := ∀ (pc : Nat) (lv : List (Nat × Value)) (u : Nat → Nat), decode cc pc = .ok (.return_, 1) → Vaw C (G u) nL pc lv [] mc ms
theorem ctN_of {l : Launch} {y : MethodName} {as : List Value} {lv0 : List (Nat × Value)} {G : (Nat → Nat) → va_W} (hy : plainName y.cls = true) (hn0 : y.name = "<init>") (hlv : lv_args 0 as = lv0) (hle : (lg_sl as).length ≤ nL) (body : ∀ C : Cm, C.2.1 = l → CxN C (tyE E) cc y.cls nL fr lo mc ms → C.2.2.2.2.2.2.2.2.2.2.2.2.2 = (mc, ms) → ReN C cc nL mc ms G → Vaw C ws nL 0 lv0 [] 0 0) : CtN l (tyE E) y cc nL fr lo mc ms as ws G := by
  intro D sz
  refine Met.ofW (cc := cc) (maxL := nL) (ret := none) hy rfl ?_
  intro p e s m args below meth c s₁ B hml hv
  obtain ⟨rfl, hsz, hP, hK, hD0⟩ := hv
  have hx := B.exec
  have hb := B.bytes
  have hr := B.returns
  have hts0 := atoms_spec (ws := wsm y cc nL none) B.pre
  have hts : ∀ w ∈ lwg, w.before as.toArray s = true := fun w h => hts0 w (List.mem_cons_of_mem _ h)
  have hown : s.vm.findClass y.cls = some m.cls := findClass_of_methodNamed B.named
  have hin : meth.name = "<init>" := (name_of_methodNamed B.named B.method).1.trans hn0
  have hlocks := B.notSynchronized
  subst hsz
  have hD := hD0.self (sz := s.heap.size)
  have hl := lv_entry as (n := nL) hle
  rw [hlv] at hl
  rw [lg_entry_eq]
  refine body (p, l, e, (headSpec (wsm y cc nL none) (rmC fr lo mc ms)).room, s, m, as.toArray, below, meth, c, _, D, va_A ws s.heap.size, mc, ms) rfl ⟨⟨hx, hb, hml, hown, hts, hK, fun q h => Or.inr h, rfl, rfl, Nat.le_refl _, Nat.le_refl _⟩, rfl, rfl, fun _ => hin⟩ rfl ?_ s.heap [] _ ⟨hP, hD, va_S.rf⟩ hl
  intro pc lv u hd H locs ls hW hl1
  obtain ⟨hP1, hD1, hS1⟩ := hW
  refine W.vret hx hb hr (fun t ht hWa => ?_) hS1.2.2 hd
  exact ⟨⟨u, rfl, trivial, by rw [ht]; exact hP1, va_K.moved hWa.alike hK, hD1⟩, hS1.F ht⟩
theorem n_vat {wl : Sg → va_W} {st : Sg} (p : ws.Perm (wl st)) (h1 : ce ≤ C.2.2.2.2.2.2.2.2.2.2.2.2.2.1) (h2 : sl ≤ C.2.2.2.2.2.2.2.2.2.2.2.2.2.2) (k : Vat C wl nL pc lv stk st) : Vaw C ws nL pc lv stk ce sl := fun H locs ls hW hl => W.widen h1 h2 (k H locs ls (hW.perm p) hl)
theorem vat_n {wl : Sg → va_W} {st : Sg} (h : C.2.2.2.2.2.2.2.2.2.2.2.2.2 = (mc, ms)) (k : Vaw C (wl st) nL pc lv stk mc ms) : Vat C wl nL pc lv stk st := fun H locs ls hW hl => by
  have e := k H locs ls hW hl
  rw [show mc = C.2.2.2.2.2.2.2.2.2.2.2.2.2.1 by rw [h], show ms = C.2.2.2.2.2.2.2.2.2.2.2.2.2.2 by rw [h]] at e
  exact e
theorem n_sub (is : List Nat) {ws' : va_W} (h1 : is.map (fun i => ws[i]?) = ws'.map some) (hn : va_nd is = true) (h0 : is.filterMap (fun i => ws[i]?) = ws') (k : Vaw C ws' nL pc lv stk ce sl) : Vaw C ws nL pc lv stk ce sl := fun H locs ls hW hl => k H locs ls ⟨hW.1.sub is h0, hW.2.1.sub is hn h1, hW.2.2⟩ hl
end VO
theorem ca_X0_init : CaI yX0_init cX0_init 1 0 := ⟨lwg_of (List.mem_of_getElem? (i := 97) (by decide +kernel)) (by decide +kernel), ki_X0, lwg_of (List.mem_of_getElem? (i := 96) (by decide +kernel)) (by decide +kernel), rfl, by decide +kernel⟩
theorem ca_X1_init : CaI yX1_init cX1_init 3 1 := ⟨lwg_of (List.mem_of_getElem? (i := 103) (by decide +kernel)) (by decide +kernel), ki_X1, lwg_of (List.mem_of_getElem? (i := 102) (by decide +kernel)) (by decide +kernel), rfl, by decide +kernel⟩
theorem ca_X2_init : CaI yX2_init cX2_init 1 0 := ⟨lwg_of (List.mem_of_getElem? (i := 281) (by decide +kernel)) (by decide +kernel), ki_X2, lwg_of (List.mem_of_getElem? (i := 280) (by decide +kernel)) (by decide +kernel), rfl, by decide +kernel⟩
theorem ca_X3_init : CaI yX3_init cX3_init 1 0 := ⟨lwg_of (List.mem_of_getElem? (i := 390) (by decide +kernel)) (by decide +kernel), ki_X3, lwg_of (List.mem_of_getElem? (i := 389) (by decide +kernel)) (by decide +kernel), rfl, by decide +kernel⟩
theorem ca_X4_init : CaI yX4_init cX4_init 1 0 := ⟨lwg_of (List.mem_of_getElem? (i := 327) (by decide +kernel)) (by decide +kernel), ki_X4, lwg_of (List.mem_of_getElem? (i := 326) (by decide +kernel)) (by decide +kernel), rfl, by decide +kernel⟩
theorem ca_X5_init : CaI yX5_init cX5_init 1 0 := ⟨lwg_of (List.mem_of_getElem? (i := 413) (by decide +kernel)) (by decide +kernel), ki_X5, lwg_of (List.mem_of_getElem? (i := 412) (by decide +kernel)) (by decide +kernel), rfl, by decide +kernel⟩
theorem ca_X6_init : CaI yX6_init cX6_init 1 0 := ⟨lwg_of (List.mem_of_getElem? (i := 240) (by decide +kernel)) (by decide +kernel), ki_X6, lwg_of (List.mem_of_getElem? (i := 239) (by decide +kernel)) (by decide +kernel), rfl, by decide +kernel⟩
theorem ca_X7_init : CaI yX7_init cX7_init 4 3 := ⟨lwg_of (List.mem_of_getElem? (i := 407) (by decide +kernel)) (by decide +kernel), ki_X7, lwg_of (List.mem_of_getElem? (i := 406) (by decide +kernel)) (by decide +kernel), rfl, by decide +kernel⟩
theorem ca_X8_init : CaI yX8_init cX8_init 3 2 := ⟨lwg_of (List.mem_of_getElem? (i := 275) (by decide +kernel)) (by decide +kernel), ki_X8, lwg_of (List.mem_of_getElem? (i := 274) (by decide +kernel)) (by decide +kernel), rfl, by decide +kernel⟩
theorem ca_X9_init : CaI yX9_init cX9_init 1 0 := ⟨lwg_of (List.mem_of_getElem? (i := 261) (by decide +kernel)) (by decide +kernel), ki_X9, lwg_of (List.mem_of_getElem? (i := 260) (by decide +kernel)) (by decide +kernel), rfl, by decide +kernel⟩
theorem ca_X10_init : CaI yX10_init cX10_init 1 0 := ⟨lwg_of (List.mem_of_getElem? (i := 219) (by decide +kernel)) (by decide +kernel), ki_X10, lwg_of (List.mem_of_getElem? (i := 218) (by decide +kernel)) (by decide +kernel), rfl, by decide +kernel⟩
theorem ca_X11_init : CaI yX11_init cX11_init 1 0 := ⟨lwg_of (List.mem_of_getElem? (i := 89) (by decide +kernel)) (by decide +kernel), ki_X11, lwg_of (List.mem_of_getElem? (i := 88) (by decide +kernel)) (by decide +kernel), rfl, by decide +kernel⟩
theorem ca_X12_init : CaI yX12_init cX12_init 2 0 := ⟨lwg_of (List.mem_of_getElem? (i := 1057) (by decide +kernel)) (by decide +kernel), ki_X12, lwg_of (List.mem_of_getElem? (i := 1056) (by decide +kernel)) (by decide +kernel), rfl, by decide +kernel⟩
