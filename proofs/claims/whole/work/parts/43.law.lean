-- 43.law: the law's mirror, its cases, its loop (written by mk10.py; the rows lw_ are the skeleton's)
theorem bp_32 : (Int8.ofInt (32)).toInt32 = 32 := by decide
theorem ic_6 : Int32.ofInt (6) = 6 := by decide
/-! THE CLAIM OUT OF ONE WALK OF THE LAW'S BODY. Your part is whole_start (and what it stands on); all else here is the same for every law, but numbers. -/
def R_law : String := "LoopLaneLaw"
def lw_P (b : Addr) (xs : List Int32) (args : Array Value) (s : State) : Prop := args = #[.ref b] ∧ s.IntsAt b xs ∧ xs.length ≤ 3072 ∧ (Jvm.Cond.and given_1 narrow_1).before args s = true
def lw_Q (_ : Array Value) (s : State) (o : Outcome) (t : State) : Prop := o = .returned (some (.int 1)) ∧ Framed s o t [] 600000 7302250
def lw_Z (below : List Frame) (a : Array Value) (s : State) : State → Prop := fun t => ∃ o, t.status = .running ∧ Ended t below o ∧ lw_Q a s o t
/-- the law's own end, with 1 on the stack, nothing written that was there before, its room as the claim has it -/
theorem lw_ret {p : Program} {l : Launch} {e : Env} {s : State} {m : MethodId} {below : List Frame} {meth : Method} {c : Code} {b : Nat} (hx : p.tables.exec = Jvm.exec) (hb : c.code = code) (hr : meth.sig.returnType = ret) (hlocks : meth.locks = false) {pc : Nat} {H : Heap} {ls : Array Slot} (hdg : decode code pc = .ok (.ireturn, 1)) : W p l e room_1 s m #[Value.ref b] below meth c H [] 600000 7302250 (lw_Z below #[Value.ref b] s) (F0 m pc ls [.int 1]) := by
  intro T hT X
  obtain ⟨fs, hret, hrun, hended, hW, hframe⟩ := X.leave (v := some (.int 1)) (hlocks := hlocks) (fun h => by rw [hr] at h; cases h)
  have hmeth' : T.vm.method? m = some meth := X.method'
  refine ⟨T.setFrames fs, ?_, .returned (some (.int 1)), hrun, hended, rfl, ⟨_, rfl⟩, hW, hframe⟩
  jvm_step X.here [X.here.top, hx, hb, hdg, hmeth', hr, ret, narrow_b1]
  (try refine ⟨rfl, ?_⟩); (try refine ⟨rfl, ?_⟩)
  first | (intro acts; rw [hret _ acts rfl rfl rfl]) | rw [hret _ _ rfl rfl rfl]
  exact Steps.refl _
/-- what holds at the law's entry: the machine, the code, the tables' words (any of lw_tbl by 'hts w (by decide +kernel)'), the script of L ints xs at the cell b, what the Statement gives of the start (any of its parts by flat_of_before) -/
def lw_At (p : Program) (s : State) (m : MethodId) (meth : Method) (c : Code) (b L : Nat) (xs : Nat → Int32) : Prop :=
  p.tables.exec = Jvm.exec ∧ c.code = code ∧ meth.sig.returnType = ret ∧ c.maxLocals = 4 ∧ s.vm.findClass R_law = some m.cls ∧ (∀ w ∈ lw_tbl, w.before #[Value.ref b] s = true) ∧ va_X b L xs s s.heap ∧ b < s.heap.size ∧ meth.locks = false ∧ (Jvm.Cond.and given_1 narrow_1).before #[Value.ref b] s = true
def sck {β : Type} (xs : Nat → Int32) (n : Nat) (i : Int32) (f : Int32 → Option β) : Option β := if vpb i n = true then f (xs i.toNatClampNeg) else none
def CxL (C : Cm) (b n : Nat) (xs : Nat → Int32) : Prop := va_X b n xs C.2.2.2.2.1 C.2.2.2.2.1.heap ∧ b < C.2.2.2.2.1.heap.size ∧ ¬ C.2.2.2.2.2.2.2.2.2.2.2.2.1 b
section VL
variable {C : Cm} {wl : Sg → va_W} {nL pc fr lo b n : Nat} {xs : Nat → Int32} {lv : List (Nat × Value)} {stk : List Value} {st : Sg} {tys : List (ClassId × FieldType)} {cc : ByteArray} {own : String} {β : Type} {o : β}
theorem v_sld (pc' : Nat) {i : Int32} {f : Int32 → Option β} (cx : Cx C tys cc own nL fr lo) (cl : CxL C b n xs) (hd : decode cc pc = .ok (.iaload, 1)) (hp : pc + 1 = pc') (h : sck xs n i f = some o) (kk : ∀ v, f v = some o → Vat C wl nL pc' lv (.int v :: stk) st) : Vat C wl nL pc lv (.int i :: .ref b :: stk) st := by
  subst hp
  unfold sck at h
  by_cases q : vpb i n = true
  · rw [if_pos q] at h
    exact fun H locs ls hW hl => va_sld cx.1 cx.2.1 cl.1 cl.2.1 cl.2.2 hW.2.2 (vpb_in q) hd (kk _ h H locs ls hW hl)
  · rw [if_neg q] at h; cases h
theorem v_slen (pc' : Nat) (cx : Cx C tys cc own nL fr lo) (cl : CxL C b n xs) (hd : decode cc pc = .ok (.arraylength, 1)) (hp : pc + 1 = pc') (k : Vat C wl nL pc' lv (.int (Int32.ofNat n) :: stk) st) : Vat C wl nL pc lv (.ref b :: stk) st := by
  subst hp
  exact fun H locs ls hW hl => va_slen cx.1 cx.2.1 cl.1 cl.2.1 cl.2.2 hW.2.2 hd (k H locs ls hW hl)
end VL
def xR (E : Ev) (R : va_W) : Ev := (E.1, E.2.1, E.2.2.1, R)
def RX (E : Ev) (sx : Sg) : va_W := wX (xR E []) sx
def RM (E : Ev) (oM : Nat) (aM : Nat → Nat) (sm : Sg) : va_W := wM (eM E oM aM []) sm
theorem wX_R (E : Ev) (R : va_W) (st : Sg) : wX (xR E R) st = RX E st ++ R := congrArg (· ++ R) (List.append_nil _).symm
theorem wM_R (E : Ev) (oM : Nat) (aM : Nat → Nat) (R : va_W) (st : Sg) : wM (eM E oM aM R) st = RM E oM aM st ++ R := congrArg (· ++ R) (List.append_nil _).symm
theorem law_XM (E : Ev) (oM : Nat) (aM : Nat → Nat) (sx sm : Sg) : (wX (xR E (RM E oM aM sm)) sx).Perm (wM (eM E oM aM (RX E sx)) sm) := by
  rw [wX_R, wM_R]
  exact List.perm_append_comm
theorem law_MX (E : Ev) (oM : Nat) (aM : Nat → Nat) (sx sm : Sg) : (wM (eM E oM aM (RX E sx)) sm).Perm (wX (xR E (RM E oM aM sm)) sx) := (law_XM E oM aM sx sm).symm
def V_law (C : Cm) (E : Ev) (oM : Nat) (aM : Nat → Nat) (b : Nat) (s : Int32 × Sg × Sg) : Prop := Vat C (wX (xR E (RM E oM aM s.2.2))) 4 18 [(0, .ref b), (1, .ref (oX E 0)), (2, .ref oM), (3, .int s.1)] [] s.2.1
def K_law (C : Cm) (E : Ev) (oM : Nat) (aM : Nat → Nat) (b : Nat) (r : Sg × Sg) : Prop := Vat C (wX (xR E (RM E oM aM r.2))) 4 1458 [(0, .ref b), (1, .ref (oX E 0)), (2, .ref oM)] [] r.1
def m_law_c0 (xs : Nat → Int32) (L : Nat) (x3 : Int32) (sx sm : Sg) : Option ((Int32 × Sg × Sg) ⊕ (Sg × Sg)) :=
  sck xs L (x3 + 1) fun v1 =>
  sck xs L (x3 + 2) fun v2 =>
  clk (m_X11_put ((((v1 : Int32).toInt64) <<< ((32 : Int32).toInt64 &&& 63)) ||| (((v2 : Int32).toInt64) &&& 4294967295)) sx) fun v3 s4 =>
  sck xs L (x3 + 1) fun v5 =>
  sck xs L (x3 + 2) fun v6 =>
  clk (m_X12_put ((((v5 : Int32).toInt64) <<< ((32 : Int32).toInt64 &&& 63)) ||| (((v6 : Int32).toInt64) &&& 4294967295)) sm) fun v7 s8 =>
  if v3 = v7 then (nmk (x3 + 6) fun a9 =>
  some (.inl (a9, s4, s8))) else none
set_option maxHeartbeats 4000000 in
set_option maxRecDepth 100000 in
theorem j_law_c0 {C : Cm} {E : Ev} {oM : Nat} {aM : Nat → Nat} {b L : Nat} {xs : Nat → Int32} (cx : Cx C (tyE E) cL_law RL 4 9 334) (cl : CxL C b L xs) (x3 : Int32) (sx sm : Sg) (out : (Int32 × Sg × Sg) ⊕ (Sg × Sg)) (h : m_law_c0 xs L x3 sx sm = some out) (hk : Sum.elim (V_law C E oM aM b) (K_law C E oM aM b) out) : Vat C (wX (xR E (RM E oM aM sm))) 4 196 [(0, .ref b), (1, .ref (oX E 0)), (2, .ref oM), (3, .int x3)] [] sx := by
  unfold m_law_c0 at h
  refine v_aload_n 197 1 cx dL_law_196 rfl rfl rfl ?_
  refine v_aload_n 198 0 cx dL_law_197 rfl rfl rfl ?_
  refine v_iload_n 199 3 cx dL_law_198 rfl rfl rfl ?_
  refine v_iconst 200 cx dL_law_199 ic_1 rfl ?_
  refine v_iadd 201 cx dL_law_200 rfl ?_
  refine v_sld 202 cx cl dL_law_201 rfl h (fun v1 h => ?_)
  refine v_i2l 203 cx dL_law_202 rfl ?_
  refine v_bipush 205 cx dL_law_203 bp_32 rfl ?_
  refine v_lshl 206 cx dL_law_205 rfl ?_
  refine v_aload_n 207 0 cx dL_law_206 rfl rfl rfl ?_
  refine v_iload_n 208 3 cx dL_law_207 rfl rfl rfl ?_
  refine v_iconst 209 cx dL_law_208 ic_2 rfl ?_
  refine v_iadd 210 cx dL_law_209 rfl ?_
  refine v_sld 211 cx cl dL_law_210 rfl h (fun v2 h => ?_)
  refine v_i2l 212 cx dL_law_211 rfl ?_
  refine v_ldc2 215 cx dL_law_212 kc_L_13 rfl ?_
  refine v_land 216 cx dL_law_215 rfl ?_
  refine v_lor 217 cx dL_law_216 rfl ?_
  refine v_callVI 220 0 cx dL_law_217 km_L_15 ca_X11_put (wXo_0 (xR E (RM E oM aM sm)) sx) rfl (c_X11_put C.2.1 (xR E (RM E oM aM sm)) sx ((((v1 : Int32).toInt64) <<< ((32 : Int32).toInt64 &&& 63)) ||| (((v2 : Int32).toInt64) &&& 4294967295)) ) rfl (by decide) rfl (Nat.le_of_ble_eq_true rfl) rfl h (fun v3 s4 h => ?_)
  refine v_aload_n 221 2 cx dL_law_220 rfl rfl rfl ?_
  refine v_aload_n 222 0 cx dL_law_221 rfl rfl rfl ?_
  refine v_iload_n 223 3 cx dL_law_222 rfl rfl rfl ?_
  refine v_iconst 224 cx dL_law_223 ic_1 rfl ?_
  refine v_iadd 225 cx dL_law_224 rfl ?_
  refine v_sld 226 cx cl dL_law_225 rfl h (fun v5 h => ?_)
  refine v_i2l 227 cx dL_law_226 rfl ?_
  refine v_bipush 229 cx dL_law_227 bp_32 rfl ?_
  refine v_lshl 230 cx dL_law_229 rfl ?_
  refine v_aload_n 231 0 cx dL_law_230 rfl rfl rfl ?_
  refine v_iload_n 232 3 cx dL_law_231 rfl rfl rfl ?_
  refine v_iconst 233 cx dL_law_232 ic_2 rfl ?_
  refine v_iadd 234 cx dL_law_233 rfl ?_
  refine v_sld 235 cx cl dL_law_234 rfl h (fun v6 h => ?_)
  refine v_i2l 236 cx dL_law_235 rfl ?_
  refine v_ldc2 239 cx dL_law_236 kc_L_13 rfl ?_
  refine v_land 240 cx dL_law_239 rfl ?_
  refine v_lor 241 cx dL_law_240 rfl ?_
  refine v_perm (wl2 := wM (eM E oM aM (RX E s4))) (st2 := sm) (law_XM E oM aM s4 sm) ?_
  refine v_callVI 244 0 cx dL_law_241 km_L_19 ca_X12_put (wMo_0 (eM E oM aM (RX E s4)) sm) rfl (c_X12_put C.2.1 (eM E oM aM (RX E s4)) sm ((((v5 : Int32).toInt64) <<< ((32 : Int32).toInt64 &&& 63)) ||| (((v6 : Int32).toInt64) &&& 4294967295)) ) rfl (by decide) rfl (Nat.le_of_ble_eq_true rfl) rfl h (fun v7 s8 h => ?_)
  refine v_perm (wl2 := wX (xR E (RM E oM aM s8))) (st2 := s4) (law_MX E oM aM s4 s8) ?_
  refine v_icmp_eq 1452 247 cx dL_law_244 (by decide) rfl h (fun h => ?_) (fun h => by cases h)
  refine v_iinc 1455 3 (fun a9 => [(3, .int a9), (0, .ref b), (1, .ref (oX E 0)), (2, .ref oM)]) cx dL_law_1452 rfl ic_6 (by decide) (fun _ => rfl) rfl h (fun a9 h => ?_)
  refine v_goto 18 cx dL_law_1455 (by decide) ?_
  cases h
  have hk : Vat C (wX (xR E (RM E oM aM s8))) 4 18 [(0, .ref b), (1, .ref (oX E 0)), (2, .ref oM), (3, .int a9)] [] s4 := hk
  exact v_lsub (lv' := [(0, .ref b), (1, .ref (oX E 0)), (2, .ref oM), (3, .int a9)]) [1, 2, 3, 0] rfl hk
def m_law_c1 (xs : Nat → Int32) (L : Nat) (x3 : Int32) (sx sm : Sg) : Option ((Int32 × Sg × Sg) ⊕ (Sg × Sg)) :=
  sck xs L (x3 + 1) fun v10 =>
  sck xs L (x3 + 2) fun v11 =>
  sck xs L (x3 + 3) fun v12 =>
  sck xs L (x3 + 4) fun v13 =>
  sck xs L (x3 + 5) fun v14 =>
  clk (m_X11_reckon v10 v11 v12 v13 v14 sx) fun v15 s16 =>
  sck xs L (x3 + 1) fun v17 =>
  sck xs L (x3 + 2) fun v18 =>
  sck xs L (x3 + 3) fun v19 =>
  sck xs L (x3 + 4) fun v20 =>
  sck xs L (x3 + 5) fun v21 =>
  clk (m_X12_reckon v17 v18 v19 v20 v21 sm) fun v22 s23 =>
  if v15 = v22 then (nmk (x3 + 6) fun a24 =>
  some (.inl (a24, s16, s23))) else none
set_option maxHeartbeats 4000000 in
set_option maxRecDepth 100000 in
theorem j_law_c1 {C : Cm} {E : Ev} {oM : Nat} {aM : Nat → Nat} {b L : Nat} {xs : Nat → Int32} (cx : Cx C (tyE E) cL_law RL 4 9 334) (cl : CxL C b L xs) (x3 : Int32) (sx sm : Sg) (out : (Int32 × Sg × Sg) ⊕ (Sg × Sg)) (h : m_law_c1 xs L x3 sx sm = some out) (hk : Sum.elim (V_law C E oM aM b) (K_law C E oM aM b) out) : Vat C (wX (xR E (RM E oM aM sm))) 4 249 [(0, .ref b), (1, .ref (oX E 0)), (2, .ref oM), (3, .int x3)] [] sx := by
  unfold m_law_c1 at h
  refine v_aload_n 250 1 cx dL_law_249 rfl rfl rfl ?_
  refine v_aload_n 251 0 cx dL_law_250 rfl rfl rfl ?_
  refine v_iload_n 252 3 cx dL_law_251 rfl rfl rfl ?_
  refine v_iconst 253 cx dL_law_252 ic_1 rfl ?_
  refine v_iadd 254 cx dL_law_253 rfl ?_
  refine v_sld 255 cx cl dL_law_254 rfl h (fun v10 h => ?_)
  refine v_aload_n 256 0 cx dL_law_255 rfl rfl rfl ?_
  refine v_iload_n 257 3 cx dL_law_256 rfl rfl rfl ?_
  refine v_iconst 258 cx dL_law_257 ic_2 rfl ?_
  refine v_iadd 259 cx dL_law_258 rfl ?_
  refine v_sld 260 cx cl dL_law_259 rfl h (fun v11 h => ?_)
  refine v_aload_n 261 0 cx dL_law_260 rfl rfl rfl ?_
  refine v_iload_n 262 3 cx dL_law_261 rfl rfl rfl ?_
  refine v_iconst 263 cx dL_law_262 ic_3 rfl ?_
  refine v_iadd 264 cx dL_law_263 rfl ?_
  refine v_sld 265 cx cl dL_law_264 rfl h (fun v12 h => ?_)
  refine v_aload_n 266 0 cx dL_law_265 rfl rfl rfl ?_
  refine v_iload_n 267 3 cx dL_law_266 rfl rfl rfl ?_
  refine v_iconst 268 cx dL_law_267 ic_4 rfl ?_
  refine v_iadd 269 cx dL_law_268 rfl ?_
  refine v_sld 270 cx cl dL_law_269 rfl h (fun v13 h => ?_)
  refine v_aload_n 271 0 cx dL_law_270 rfl rfl rfl ?_
  refine v_iload_n 272 3 cx dL_law_271 rfl rfl rfl ?_
  refine v_iconst 273 cx dL_law_272 ic_5 rfl ?_
  refine v_iadd 274 cx dL_law_273 rfl ?_
  refine v_sld 275 cx cl dL_law_274 rfl h (fun v14 h => ?_)
  refine v_callVI 278 0 cx dL_law_275 km_L_20 ca_X11_reckon (wXo_0 (xR E (RM E oM aM sm)) sx) rfl (c_X11_reckon C.2.1 (xR E (RM E oM aM sm)) sx v10 v11 v12 v13 v14 ) rfl (by decide) rfl (Nat.le_of_ble_eq_true rfl) rfl h (fun v15 s16 h => ?_)
  refine v_aload_n 279 2 cx dL_law_278 rfl rfl rfl ?_
  refine v_aload_n 280 0 cx dL_law_279 rfl rfl rfl ?_
  refine v_iload_n 281 3 cx dL_law_280 rfl rfl rfl ?_
  refine v_iconst 282 cx dL_law_281 ic_1 rfl ?_
  refine v_iadd 283 cx dL_law_282 rfl ?_
  refine v_sld 284 cx cl dL_law_283 rfl h (fun v17 h => ?_)
  refine v_aload_n 285 0 cx dL_law_284 rfl rfl rfl ?_
  refine v_iload_n 286 3 cx dL_law_285 rfl rfl rfl ?_
  refine v_iconst 287 cx dL_law_286 ic_2 rfl ?_
  refine v_iadd 288 cx dL_law_287 rfl ?_
  refine v_sld 289 cx cl dL_law_288 rfl h (fun v18 h => ?_)
  refine v_aload_n 290 0 cx dL_law_289 rfl rfl rfl ?_
  refine v_iload_n 291 3 cx dL_law_290 rfl rfl rfl ?_
  refine v_iconst 292 cx dL_law_291 ic_3 rfl ?_
  refine v_iadd 293 cx dL_law_292 rfl ?_
  refine v_sld 294 cx cl dL_law_293 rfl h (fun v19 h => ?_)
  refine v_aload_n 295 0 cx dL_law_294 rfl rfl rfl ?_
  refine v_iload_n 296 3 cx dL_law_295 rfl rfl rfl ?_
  refine v_iconst 297 cx dL_law_296 ic_4 rfl ?_
  refine v_iadd 298 cx dL_law_297 rfl ?_
  refine v_sld 299 cx cl dL_law_298 rfl h (fun v20 h => ?_)
  refine v_aload_n 300 0 cx dL_law_299 rfl rfl rfl ?_
  refine v_iload_n 301 3 cx dL_law_300 rfl rfl rfl ?_
  refine v_iconst 302 cx dL_law_301 ic_5 rfl ?_
  refine v_iadd 303 cx dL_law_302 rfl ?_
  refine v_sld 304 cx cl dL_law_303 rfl h (fun v21 h => ?_)
  refine v_perm (wl2 := wM (eM E oM aM (RX E s16))) (st2 := sm) (law_XM E oM aM s16 sm) ?_
  refine v_callVI 307 0 cx dL_law_304 km_L_24 ca_X12_reckon (wMo_0 (eM E oM aM (RX E s16)) sm) rfl (c_X12_reckon C.2.1 (eM E oM aM (RX E s16)) sm v17 v18 v19 v20 v21 ) rfl (by decide) rfl (Nat.le_of_ble_eq_true rfl) rfl h (fun v22 s23 h => ?_)
  refine v_perm (wl2 := wX (xR E (RM E oM aM s23))) (st2 := s16) (law_MX E oM aM s16 s23) ?_
  refine v_icmp_eq 1452 310 cx dL_law_307 (by decide) rfl h (fun h => ?_) (fun h => by cases h)
  refine v_iinc 1455 3 (fun a24 => [(3, .int a24), (0, .ref b), (1, .ref (oX E 0)), (2, .ref oM)]) cx dL_law_1452 rfl ic_6 (by decide) (fun _ => rfl) rfl h (fun a24 h => ?_)
  refine v_goto 18 cx dL_law_1455 (by decide) ?_
  cases h
  have hk : Vat C (wX (xR E (RM E oM aM s23))) 4 18 [(0, .ref b), (1, .ref (oX E 0)), (2, .ref oM), (3, .int a24)] [] s16 := hk
  exact v_lsub (lv' := [(0, .ref b), (1, .ref (oX E 0)), (2, .ref oM), (3, .int a24)]) [1, 2, 3, 0] rfl hk
def m_law_c2 (xs : Nat → Int32) (L : Nat) (x3 : Int32) (sx sm : Sg) : Option ((Int32 × Sg × Sg) ⊕ (Sg × Sg)) :=
  sck xs L (x3 + 1) fun v25 =>
  sck xs L (x3 + 2) fun v26 =>
  sck xs L (x3 + 3) fun v27 =>
  clk (m_X11_fetch v25 v26 v27 sx) fun v28 s29 =>
  sck xs L (x3 + 1) fun v30 =>
  sck xs L (x3 + 2) fun v31 =>
  sck xs L (x3 + 3) fun v32 =>
  clk (m_X12_fetch v30 v31 v32 sm) fun v33 s34 =>
  if v28 = v33 then (nmk (x3 + 6) fun a35 =>
  some (.inl (a35, s29, s34))) else none
set_option maxHeartbeats 4000000 in
set_option maxRecDepth 100000 in
theorem j_law_c2 {C : Cm} {E : Ev} {oM : Nat} {aM : Nat → Nat} {b L : Nat} {xs : Nat → Int32} (cx : Cx C (tyE E) cL_law RL 4 9 334) (cl : CxL C b L xs) (x3 : Int32) (sx sm : Sg) (out : (Int32 × Sg × Sg) ⊕ (Sg × Sg)) (h : m_law_c2 xs L x3 sx sm = some out) (hk : Sum.elim (V_law C E oM aM b) (K_law C E oM aM b) out) : Vat C (wX (xR E (RM E oM aM sm))) 4 312 [(0, .ref b), (1, .ref (oX E 0)), (2, .ref oM), (3, .int x3)] [] sx := by
  unfold m_law_c2 at h
  refine v_aload_n 313 1 cx dL_law_312 rfl rfl rfl ?_
  refine v_aload_n 314 0 cx dL_law_313 rfl rfl rfl ?_
  refine v_iload_n 315 3 cx dL_law_314 rfl rfl rfl ?_
  refine v_iconst 316 cx dL_law_315 ic_1 rfl ?_
  refine v_iadd 317 cx dL_law_316 rfl ?_
  refine v_sld 318 cx cl dL_law_317 rfl h (fun v25 h => ?_)
  refine v_aload_n 319 0 cx dL_law_318 rfl rfl rfl ?_
  refine v_iload_n 320 3 cx dL_law_319 rfl rfl rfl ?_
  refine v_iconst 321 cx dL_law_320 ic_2 rfl ?_
  refine v_iadd 322 cx dL_law_321 rfl ?_
  refine v_sld 323 cx cl dL_law_322 rfl h (fun v26 h => ?_)
  refine v_aload_n 324 0 cx dL_law_323 rfl rfl rfl ?_
  refine v_iload_n 325 3 cx dL_law_324 rfl rfl rfl ?_
  refine v_iconst 326 cx dL_law_325 ic_3 rfl ?_
  refine v_iadd 327 cx dL_law_326 rfl ?_
  refine v_sld 328 cx cl dL_law_327 rfl h (fun v27 h => ?_)
  refine v_callVI 331 0 cx dL_law_328 km_L_25 ca_X11_fetch (wXo_0 (xR E (RM E oM aM sm)) sx) rfl (c_X11_fetch C.2.1 (xR E (RM E oM aM sm)) sx v25 v26 v27 ) rfl (by decide) rfl (Nat.le_of_ble_eq_true rfl) rfl h (fun v28 s29 h => ?_)
  refine v_aload_n 332 2 cx dL_law_331 rfl rfl rfl ?_
  refine v_aload_n 333 0 cx dL_law_332 rfl rfl rfl ?_
  refine v_iload_n 334 3 cx dL_law_333 rfl rfl rfl ?_
  refine v_iconst 335 cx dL_law_334 ic_1 rfl ?_
  refine v_iadd 336 cx dL_law_335 rfl ?_
  refine v_sld 337 cx cl dL_law_336 rfl h (fun v30 h => ?_)
  refine v_aload_n 338 0 cx dL_law_337 rfl rfl rfl ?_
  refine v_iload_n 339 3 cx dL_law_338 rfl rfl rfl ?_
  refine v_iconst 340 cx dL_law_339 ic_2 rfl ?_
  refine v_iadd 341 cx dL_law_340 rfl ?_
  refine v_sld 342 cx cl dL_law_341 rfl h (fun v31 h => ?_)
  refine v_aload_n 343 0 cx dL_law_342 rfl rfl rfl ?_
  refine v_iload_n 344 3 cx dL_law_343 rfl rfl rfl ?_
  refine v_iconst 345 cx dL_law_344 ic_3 rfl ?_
  refine v_iadd 346 cx dL_law_345 rfl ?_
  refine v_sld 347 cx cl dL_law_346 rfl h (fun v32 h => ?_)
  refine v_perm (wl2 := wM (eM E oM aM (RX E s29))) (st2 := sm) (law_XM E oM aM s29 sm) ?_
  refine v_callVI 350 0 cx dL_law_347 km_L_29 ca_X12_fetch (wMo_0 (eM E oM aM (RX E s29)) sm) rfl (c_X12_fetch C.2.1 (eM E oM aM (RX E s29)) sm v30 v31 v32 ) rfl (by decide) rfl (Nat.le_of_ble_eq_true rfl) rfl h (fun v33 s34 h => ?_)
  refine v_perm (wl2 := wX (xR E (RM E oM aM s34))) (st2 := s29) (law_MX E oM aM s29 s34) ?_
  refine v_icmp_eq 1452 353 cx dL_law_350 (by decide) rfl h (fun h => ?_) (fun h => by cases h)
  refine v_iinc 1455 3 (fun a35 => [(3, .int a35), (0, .ref b), (1, .ref (oX E 0)), (2, .ref oM)]) cx dL_law_1452 rfl ic_6 (by decide) (fun _ => rfl) rfl h (fun a35 h => ?_)
  refine v_goto 18 cx dL_law_1455 (by decide) ?_
  cases h
  have hk : Vat C (wX (xR E (RM E oM aM s34))) 4 18 [(0, .ref b), (1, .ref (oX E 0)), (2, .ref oM), (3, .int a35)] [] s29 := hk
  exact v_lsub (lv' := [(0, .ref b), (1, .ref (oX E 0)), (2, .ref oM), (3, .int a35)]) [1, 2, 3, 0] rfl hk
def m_law_c3 (xs : Nat → Int32) (L : Nat) (x3 : Int32) (sx sm : Sg) : Option ((Int32 × Sg × Sg) ⊕ (Sg × Sg)) :=
  sck xs L (x3 + 1) fun v36 =>
  sck xs L (x3 + 2) fun v37 =>
  sck xs L (x3 + 3) fun v38 =>
  sck xs L (x3 + 4) fun v39 =>
  sck xs L (x3 + 5) fun v40 =>
  clk (m_X11_store v36 v37 v38 v39 v40 sx) fun v41 s42 =>
  sck xs L (x3 + 1) fun v43 =>
  sck xs L (x3 + 2) fun v44 =>
  sck xs L (x3 + 3) fun v45 =>
  sck xs L (x3 + 4) fun v46 =>
  sck xs L (x3 + 5) fun v47 =>
  clk (m_X12_store v43 v44 v45 v46 v47 sm) fun v48 s49 =>
  if v41 = v48 then (nmk (x3 + 6) fun a50 =>
  some (.inl (a50, s42, s49))) else none
set_option maxHeartbeats 4000000 in
set_option maxRecDepth 100000 in
theorem j_law_c3 {C : Cm} {E : Ev} {oM : Nat} {aM : Nat → Nat} {b L : Nat} {xs : Nat → Int32} (cx : Cx C (tyE E) cL_law RL 4 9 334) (cl : CxL C b L xs) (x3 : Int32) (sx sm : Sg) (out : (Int32 × Sg × Sg) ⊕ (Sg × Sg)) (h : m_law_c3 xs L x3 sx sm = some out) (hk : Sum.elim (V_law C E oM aM b) (K_law C E oM aM b) out) : Vat C (wX (xR E (RM E oM aM sm))) 4 355 [(0, .ref b), (1, .ref (oX E 0)), (2, .ref oM), (3, .int x3)] [] sx := by
  unfold m_law_c3 at h
  refine v_aload_n 356 1 cx dL_law_355 rfl rfl rfl ?_
  refine v_aload_n 357 0 cx dL_law_356 rfl rfl rfl ?_
  refine v_iload_n 358 3 cx dL_law_357 rfl rfl rfl ?_
  refine v_iconst 359 cx dL_law_358 ic_1 rfl ?_
  refine v_iadd 360 cx dL_law_359 rfl ?_
  refine v_sld 361 cx cl dL_law_360 rfl h (fun v36 h => ?_)
  refine v_aload_n 362 0 cx dL_law_361 rfl rfl rfl ?_
  refine v_iload_n 363 3 cx dL_law_362 rfl rfl rfl ?_
  refine v_iconst 364 cx dL_law_363 ic_2 rfl ?_
  refine v_iadd 365 cx dL_law_364 rfl ?_
  refine v_sld 366 cx cl dL_law_365 rfl h (fun v37 h => ?_)
  refine v_aload_n 367 0 cx dL_law_366 rfl rfl rfl ?_
  refine v_iload_n 368 3 cx dL_law_367 rfl rfl rfl ?_
  refine v_iconst 369 cx dL_law_368 ic_3 rfl ?_
  refine v_iadd 370 cx dL_law_369 rfl ?_
  refine v_sld 371 cx cl dL_law_370 rfl h (fun v38 h => ?_)
  refine v_aload_n 372 0 cx dL_law_371 rfl rfl rfl ?_
  refine v_iload_n 373 3 cx dL_law_372 rfl rfl rfl ?_
  refine v_iconst 374 cx dL_law_373 ic_4 rfl ?_
  refine v_iadd 375 cx dL_law_374 rfl ?_
  refine v_sld 376 cx cl dL_law_375 rfl h (fun v39 h => ?_)
  refine v_aload_n 377 0 cx dL_law_376 rfl rfl rfl ?_
  refine v_iload_n 378 3 cx dL_law_377 rfl rfl rfl ?_
  refine v_iconst 379 cx dL_law_378 ic_5 rfl ?_
  refine v_iadd 380 cx dL_law_379 rfl ?_
  refine v_sld 381 cx cl dL_law_380 rfl h (fun v40 h => ?_)
  refine v_callVI 384 0 cx dL_law_381 km_L_30 ca_X11_store (wXo_0 (xR E (RM E oM aM sm)) sx) rfl (c_X11_store C.2.1 (xR E (RM E oM aM sm)) sx v36 v37 v38 v39 v40 ) rfl (by decide) rfl (Nat.le_of_ble_eq_true rfl) rfl h (fun v41 s42 h => ?_)
  refine v_aload_n 385 2 cx dL_law_384 rfl rfl rfl ?_
  refine v_aload_n 386 0 cx dL_law_385 rfl rfl rfl ?_
  refine v_iload_n 387 3 cx dL_law_386 rfl rfl rfl ?_
  refine v_iconst 388 cx dL_law_387 ic_1 rfl ?_
  refine v_iadd 389 cx dL_law_388 rfl ?_
  refine v_sld 390 cx cl dL_law_389 rfl h (fun v43 h => ?_)
  refine v_aload_n 391 0 cx dL_law_390 rfl rfl rfl ?_
  refine v_iload_n 392 3 cx dL_law_391 rfl rfl rfl ?_
  refine v_iconst 393 cx dL_law_392 ic_2 rfl ?_
  refine v_iadd 394 cx dL_law_393 rfl ?_
  refine v_sld 395 cx cl dL_law_394 rfl h (fun v44 h => ?_)
  refine v_aload_n 396 0 cx dL_law_395 rfl rfl rfl ?_
  refine v_iload_n 397 3 cx dL_law_396 rfl rfl rfl ?_
  refine v_iconst 398 cx dL_law_397 ic_3 rfl ?_
  refine v_iadd 399 cx dL_law_398 rfl ?_
  refine v_sld 400 cx cl dL_law_399 rfl h (fun v45 h => ?_)
  refine v_aload_n 401 0 cx dL_law_400 rfl rfl rfl ?_
  refine v_iload_n 402 3 cx dL_law_401 rfl rfl rfl ?_
  refine v_iconst 403 cx dL_law_402 ic_4 rfl ?_
  refine v_iadd 404 cx dL_law_403 rfl ?_
  refine v_sld 405 cx cl dL_law_404 rfl h (fun v46 h => ?_)
  refine v_aload_n 406 0 cx dL_law_405 rfl rfl rfl ?_
  refine v_iload_n 407 3 cx dL_law_406 rfl rfl rfl ?_
  refine v_iconst 408 cx dL_law_407 ic_5 rfl ?_
  refine v_iadd 409 cx dL_law_408 rfl ?_
  refine v_sld 410 cx cl dL_law_409 rfl h (fun v47 h => ?_)
  refine v_perm (wl2 := wM (eM E oM aM (RX E s42))) (st2 := sm) (law_XM E oM aM s42 sm) ?_
  refine v_callVI 413 0 cx dL_law_410 km_L_33 ca_X12_store (wMo_0 (eM E oM aM (RX E s42)) sm) rfl (c_X12_store C.2.1 (eM E oM aM (RX E s42)) sm v43 v44 v45 v46 v47 ) rfl (by decide) rfl (Nat.le_of_ble_eq_true rfl) rfl h (fun v48 s49 h => ?_)
  refine v_perm (wl2 := wX (xR E (RM E oM aM s49))) (st2 := s42) (law_MX E oM aM s42 s49) ?_
  refine v_icmp_eq 1452 416 cx dL_law_413 (by decide) rfl h (fun h => ?_) (fun h => by cases h)
  refine v_iinc 1455 3 (fun a50 => [(3, .int a50), (0, .ref b), (1, .ref (oX E 0)), (2, .ref oM)]) cx dL_law_1452 rfl ic_6 (by decide) (fun _ => rfl) rfl h (fun a50 h => ?_)
  refine v_goto 18 cx dL_law_1455 (by decide) ?_
  cases h
  have hk : Vat C (wX (xR E (RM E oM aM s49))) 4 18 [(0, .ref b), (1, .ref (oX E 0)), (2, .ref oM), (3, .int a50)] [] s42 := hk
  exact v_lsub (lv' := [(0, .ref b), (1, .ref (oX E 0)), (2, .ref oM), (3, .int a50)]) [1, 2, 3, 0] rfl hk
def m_law_c4 (xs : Nat → Int32) (L : Nat) (x3 : Int32) (sx sm : Sg) : Option ((Int32 × Sg × Sg) ⊕ (Sg × Sg)) :=
  sck xs L (x3 + 1) fun v51 =>
  sck xs L (x3 + 2) fun v52 =>
  sck xs L (x3 + 3) fun v53 =>
  sck xs L (x3 + 4) fun v54 =>
  clk (m_X11_pick v51 v52 v53 v54 sx) fun v55 s56 =>
  sck xs L (x3 + 1) fun v57 =>
  sck xs L (x3 + 2) fun v58 =>
  sck xs L (x3 + 3) fun v59 =>
  sck xs L (x3 + 4) fun v60 =>
  clk (m_X12_pick v57 v58 v59 v60 sm) fun v61 s62 =>
  if v55 = v61 then (nmk (x3 + 6) fun a63 =>
  some (.inl (a63, s56, s62))) else none
set_option maxHeartbeats 4000000 in
set_option maxRecDepth 100000 in
theorem j_law_c4 {C : Cm} {E : Ev} {oM : Nat} {aM : Nat → Nat} {b L : Nat} {xs : Nat → Int32} (cx : Cx C (tyE E) cL_law RL 4 9 334) (cl : CxL C b L xs) (x3 : Int32) (sx sm : Sg) (out : (Int32 × Sg × Sg) ⊕ (Sg × Sg)) (h : m_law_c4 xs L x3 sx sm = some out) (hk : Sum.elim (V_law C E oM aM b) (K_law C E oM aM b) out) : Vat C (wX (xR E (RM E oM aM sm))) 4 418 [(0, .ref b), (1, .ref (oX E 0)), (2, .ref oM), (3, .int x3)] [] sx := by
  unfold m_law_c4 at h
  refine v_aload_n 419 1 cx dL_law_418 rfl rfl rfl ?_
  refine v_aload_n 420 0 cx dL_law_419 rfl rfl rfl ?_
  refine v_iload_n 421 3 cx dL_law_420 rfl rfl rfl ?_
  refine v_iconst 422 cx dL_law_421 ic_1 rfl ?_
  refine v_iadd 423 cx dL_law_422 rfl ?_
  refine v_sld 424 cx cl dL_law_423 rfl h (fun v51 h => ?_)
  refine v_aload_n 425 0 cx dL_law_424 rfl rfl rfl ?_
  refine v_iload_n 426 3 cx dL_law_425 rfl rfl rfl ?_
  refine v_iconst 427 cx dL_law_426 ic_2 rfl ?_
  refine v_iadd 428 cx dL_law_427 rfl ?_
  refine v_sld 429 cx cl dL_law_428 rfl h (fun v52 h => ?_)
  refine v_aload_n 430 0 cx dL_law_429 rfl rfl rfl ?_
  refine v_iload_n 431 3 cx dL_law_430 rfl rfl rfl ?_
  refine v_iconst 432 cx dL_law_431 ic_3 rfl ?_
  refine v_iadd 433 cx dL_law_432 rfl ?_
  refine v_sld 434 cx cl dL_law_433 rfl h (fun v53 h => ?_)
  refine v_aload_n 435 0 cx dL_law_434 rfl rfl rfl ?_
  refine v_iload_n 436 3 cx dL_law_435 rfl rfl rfl ?_
  refine v_iconst 437 cx dL_law_436 ic_4 rfl ?_
  refine v_iadd 438 cx dL_law_437 rfl ?_
  refine v_sld 439 cx cl dL_law_438 rfl h (fun v54 h => ?_)
  refine v_callVI 442 0 cx dL_law_439 km_L_34 ca_X11_pick (wXo_0 (xR E (RM E oM aM sm)) sx) rfl (c_X11_pick C.2.1 (xR E (RM E oM aM sm)) sx v51 v52 v53 v54 ) rfl (by decide) rfl (Nat.le_of_ble_eq_true rfl) rfl h (fun v55 s56 h => ?_)
  refine v_aload_n 443 2 cx dL_law_442 rfl rfl rfl ?_
  refine v_aload_n 444 0 cx dL_law_443 rfl rfl rfl ?_
  refine v_iload_n 445 3 cx dL_law_444 rfl rfl rfl ?_
  refine v_iconst 446 cx dL_law_445 ic_1 rfl ?_
  refine v_iadd 447 cx dL_law_446 rfl ?_
  refine v_sld 448 cx cl dL_law_447 rfl h (fun v57 h => ?_)
  refine v_aload_n 449 0 cx dL_law_448 rfl rfl rfl ?_
  refine v_iload_n 450 3 cx dL_law_449 rfl rfl rfl ?_
  refine v_iconst 451 cx dL_law_450 ic_2 rfl ?_
  refine v_iadd 452 cx dL_law_451 rfl ?_
  refine v_sld 453 cx cl dL_law_452 rfl h (fun v58 h => ?_)
  refine v_aload_n 454 0 cx dL_law_453 rfl rfl rfl ?_
  refine v_iload_n 455 3 cx dL_law_454 rfl rfl rfl ?_
  refine v_iconst 456 cx dL_law_455 ic_3 rfl ?_
  refine v_iadd 457 cx dL_law_456 rfl ?_
  refine v_sld 458 cx cl dL_law_457 rfl h (fun v59 h => ?_)
  refine v_aload_n 459 0 cx dL_law_458 rfl rfl rfl ?_
  refine v_iload_n 460 3 cx dL_law_459 rfl rfl rfl ?_
  refine v_iconst 461 cx dL_law_460 ic_4 rfl ?_
  refine v_iadd 462 cx dL_law_461 rfl ?_
  refine v_sld 463 cx cl dL_law_462 rfl h (fun v60 h => ?_)
  refine v_perm (wl2 := wM (eM E oM aM (RX E s56))) (st2 := sm) (law_XM E oM aM s56 sm) ?_
  refine v_callVI 466 0 cx dL_law_463 km_L_38 ca_X12_pick (wMo_0 (eM E oM aM (RX E s56)) sm) rfl (c_X12_pick C.2.1 (eM E oM aM (RX E s56)) sm v57 v58 v59 v60 ) rfl (by decide) rfl (Nat.le_of_ble_eq_true rfl) rfl h (fun v61 s62 h => ?_)
  refine v_perm (wl2 := wX (xR E (RM E oM aM s62))) (st2 := s56) (law_MX E oM aM s56 s62) ?_
  refine v_icmp_eq 1452 469 cx dL_law_466 (by decide) rfl h (fun h => ?_) (fun h => by cases h)
  refine v_iinc 1455 3 (fun a63 => [(3, .int a63), (0, .ref b), (1, .ref (oX E 0)), (2, .ref oM)]) cx dL_law_1452 rfl ic_6 (by decide) (fun _ => rfl) rfl h (fun a63 h => ?_)
  refine v_goto 18 cx dL_law_1455 (by decide) ?_
  cases h
  have hk : Vat C (wX (xR E (RM E oM aM s62))) 4 18 [(0, .ref b), (1, .ref (oX E 0)), (2, .ref oM), (3, .int a63)] [] s56 := hk
  exact v_lsub (lv' := [(0, .ref b), (1, .ref (oX E 0)), (2, .ref oM), (3, .int a63)]) [1, 2, 3, 0] rfl hk
def m_law_c5 (xs : Nat → Int32) (L : Nat) (x3 : Int32) (sx sm : Sg) : Option ((Int32 × Sg × Sg) ⊕ (Sg × Sg)) :=
  sck xs L (x3 + 1) fun v64 =>
  sck xs L (x3 + 2) fun v65 =>
  sck xs L (x3 + 3) fun v66 =>
  sck xs L (x3 + 4) fun v67 =>
  clk (m_X11_works v64 v65 v66 v67 sx) fun v68 s69 =>
  sck xs L (x3 + 1) fun v70 =>
  sck xs L (x3 + 2) fun v71 =>
  sck xs L (x3 + 3) fun v72 =>
  sck xs L (x3 + 4) fun v73 =>
  clk (m_X12_works v70 v71 v72 v73 sm) fun v74 s75 =>
  if v68 = v74 then (nmk (x3 + 6) fun a76 =>
  some (.inl (a76, s69, s75))) else none
set_option maxHeartbeats 4000000 in
set_option maxRecDepth 100000 in
theorem j_law_c5 {C : Cm} {E : Ev} {oM : Nat} {aM : Nat → Nat} {b L : Nat} {xs : Nat → Int32} (cx : Cx C (tyE E) cL_law RL 4 9 334) (cl : CxL C b L xs) (x3 : Int32) (sx sm : Sg) (out : (Int32 × Sg × Sg) ⊕ (Sg × Sg)) (h : m_law_c5 xs L x3 sx sm = some out) (hk : Sum.elim (V_law C E oM aM b) (K_law C E oM aM b) out) : Vat C (wX (xR E (RM E oM aM sm))) 4 471 [(0, .ref b), (1, .ref (oX E 0)), (2, .ref oM), (3, .int x3)] [] sx := by
  unfold m_law_c5 at h
  refine v_aload_n 472 1 cx dL_law_471 rfl rfl rfl ?_
  refine v_aload_n 473 0 cx dL_law_472 rfl rfl rfl ?_
  refine v_iload_n 474 3 cx dL_law_473 rfl rfl rfl ?_
  refine v_iconst 475 cx dL_law_474 ic_1 rfl ?_
  refine v_iadd 476 cx dL_law_475 rfl ?_
  refine v_sld 477 cx cl dL_law_476 rfl h (fun v64 h => ?_)
  refine v_aload_n 478 0 cx dL_law_477 rfl rfl rfl ?_
  refine v_iload_n 479 3 cx dL_law_478 rfl rfl rfl ?_
  refine v_iconst 480 cx dL_law_479 ic_2 rfl ?_
  refine v_iadd 481 cx dL_law_480 rfl ?_
  refine v_sld 482 cx cl dL_law_481 rfl h (fun v65 h => ?_)
  refine v_aload_n 483 0 cx dL_law_482 rfl rfl rfl ?_
  refine v_iload_n 484 3 cx dL_law_483 rfl rfl rfl ?_
  refine v_iconst 485 cx dL_law_484 ic_3 rfl ?_
  refine v_iadd 486 cx dL_law_485 rfl ?_
  refine v_sld 487 cx cl dL_law_486 rfl h (fun v66 h => ?_)
  refine v_aload_n 488 0 cx dL_law_487 rfl rfl rfl ?_
  refine v_iload_n 489 3 cx dL_law_488 rfl rfl rfl ?_
  refine v_iconst 490 cx dL_law_489 ic_4 rfl ?_
  refine v_iadd 491 cx dL_law_490 rfl ?_
  refine v_sld 492 cx cl dL_law_491 rfl h (fun v67 h => ?_)
  refine v_callVI 495 0 cx dL_law_492 km_L_39 ca_X11_works (wXo_0 (xR E (RM E oM aM sm)) sx) rfl (c_X11_works C.2.1 (xR E (RM E oM aM sm)) sx v64 v65 v66 v67 ) rfl (by decide) rfl (Nat.le_of_ble_eq_true rfl) rfl h (fun v68 s69 h => ?_)
  refine v_aload_n 496 2 cx dL_law_495 rfl rfl rfl ?_
  refine v_aload_n 497 0 cx dL_law_496 rfl rfl rfl ?_
  refine v_iload_n 498 3 cx dL_law_497 rfl rfl rfl ?_
  refine v_iconst 499 cx dL_law_498 ic_1 rfl ?_
  refine v_iadd 500 cx dL_law_499 rfl ?_
  refine v_sld 501 cx cl dL_law_500 rfl h (fun v70 h => ?_)
  refine v_aload_n 502 0 cx dL_law_501 rfl rfl rfl ?_
  refine v_iload_n 503 3 cx dL_law_502 rfl rfl rfl ?_
  refine v_iconst 504 cx dL_law_503 ic_2 rfl ?_
  refine v_iadd 505 cx dL_law_504 rfl ?_
  refine v_sld 506 cx cl dL_law_505 rfl h (fun v71 h => ?_)
  refine v_aload_n 507 0 cx dL_law_506 rfl rfl rfl ?_
  refine v_iload_n 508 3 cx dL_law_507 rfl rfl rfl ?_
  refine v_iconst 509 cx dL_law_508 ic_3 rfl ?_
  refine v_iadd 510 cx dL_law_509 rfl ?_
  refine v_sld 511 cx cl dL_law_510 rfl h (fun v72 h => ?_)
  refine v_aload_n 512 0 cx dL_law_511 rfl rfl rfl ?_
  refine v_iload_n 513 3 cx dL_law_512 rfl rfl rfl ?_
  refine v_iconst 514 cx dL_law_513 ic_4 rfl ?_
  refine v_iadd 515 cx dL_law_514 rfl ?_
  refine v_sld 516 cx cl dL_law_515 rfl h (fun v73 h => ?_)
  refine v_perm (wl2 := wM (eM E oM aM (RX E s69))) (st2 := sm) (law_XM E oM aM s69 sm) ?_
  refine v_callVI 519 0 cx dL_law_516 km_L_42 ca_X12_works (wMo_0 (eM E oM aM (RX E s69)) sm) rfl (c_X12_works C.2.1 (eM E oM aM (RX E s69)) sm v70 v71 v72 v73 ) rfl (by decide) rfl (Nat.le_of_ble_eq_true rfl) rfl h (fun v74 s75 h => ?_)
  refine v_perm (wl2 := wX (xR E (RM E oM aM s75))) (st2 := s69) (law_MX E oM aM s69 s75) ?_
  refine v_icmp_eq 1452 522 cx dL_law_519 (by decide) rfl h (fun h => ?_) (fun h => by cases h)
  refine v_iinc 1455 3 (fun a76 => [(3, .int a76), (0, .ref b), (1, .ref (oX E 0)), (2, .ref oM)]) cx dL_law_1452 rfl ic_6 (by decide) (fun _ => rfl) rfl h (fun a76 h => ?_)
  refine v_goto 18 cx dL_law_1455 (by decide) ?_
  cases h
  have hk : Vat C (wX (xR E (RM E oM aM s75))) 4 18 [(0, .ref b), (1, .ref (oX E 0)), (2, .ref oM), (3, .int a76)] [] s69 := hk
  exact v_lsub (lv' := [(0, .ref b), (1, .ref (oX E 0)), (2, .ref oM), (3, .int a76)]) [1, 2, 3, 0] rfl hk
def m_law_c6 (xs : Nat → Int32) (L : Nat) (x3 : Int32) (sx sm : Sg) : Option ((Int32 × Sg × Sg) ⊕ (Sg × Sg)) :=
  sck xs L (x3 + 1) fun v77 =>
  sck xs L (x3 + 2) fun v78 =>
  sck xs L (x3 + 3) fun v79 =>
  clk (m_X11_first v77 ((((v78 : Int32).toInt64) <<< ((32 : Int32).toInt64 &&& 63)) ||| (((v79 : Int32).toInt64) &&& 4294967295)) sx) fun v80 s81 =>
  sck xs L (x3 + 1) fun v82 =>
  sck xs L (x3 + 2) fun v83 =>
  sck xs L (x3 + 3) fun v84 =>
  clk (m_X12_first v82 ((((v83 : Int32).toInt64) <<< ((32 : Int32).toInt64 &&& 63)) ||| (((v84 : Int32).toInt64) &&& 4294967295)) sm) fun v85 s86 =>
  if v80 = v85 then (nmk (x3 + 6) fun a87 =>
  some (.inl (a87, s81, s86))) else none
set_option maxHeartbeats 4000000 in
set_option maxRecDepth 100000 in
theorem j_law_c6 {C : Cm} {E : Ev} {oM : Nat} {aM : Nat → Nat} {b L : Nat} {xs : Nat → Int32} (cx : Cx C (tyE E) cL_law RL 4 9 334) (cl : CxL C b L xs) (x3 : Int32) (sx sm : Sg) (out : (Int32 × Sg × Sg) ⊕ (Sg × Sg)) (h : m_law_c6 xs L x3 sx sm = some out) (hk : Sum.elim (V_law C E oM aM b) (K_law C E oM aM b) out) : Vat C (wX (xR E (RM E oM aM sm))) 4 524 [(0, .ref b), (1, .ref (oX E 0)), (2, .ref oM), (3, .int x3)] [] sx := by
  unfold m_law_c6 at h
  refine v_aload_n 525 1 cx dL_law_524 rfl rfl rfl ?_
  refine v_aload_n 526 0 cx dL_law_525 rfl rfl rfl ?_
  refine v_iload_n 527 3 cx dL_law_526 rfl rfl rfl ?_
  refine v_iconst 528 cx dL_law_527 ic_1 rfl ?_
  refine v_iadd 529 cx dL_law_528 rfl ?_
  refine v_sld 530 cx cl dL_law_529 rfl h (fun v77 h => ?_)
  refine v_aload_n 531 0 cx dL_law_530 rfl rfl rfl ?_
  refine v_iload_n 532 3 cx dL_law_531 rfl rfl rfl ?_
  refine v_iconst 533 cx dL_law_532 ic_2 rfl ?_
  refine v_iadd 534 cx dL_law_533 rfl ?_
  refine v_sld 535 cx cl dL_law_534 rfl h (fun v78 h => ?_)
  refine v_i2l 536 cx dL_law_535 rfl ?_
  refine v_bipush 538 cx dL_law_536 bp_32 rfl ?_
  refine v_lshl 539 cx dL_law_538 rfl ?_
  refine v_aload_n 540 0 cx dL_law_539 rfl rfl rfl ?_
  refine v_iload_n 541 3 cx dL_law_540 rfl rfl rfl ?_
  refine v_iconst 542 cx dL_law_541 ic_3 rfl ?_
  refine v_iadd 543 cx dL_law_542 rfl ?_
  refine v_sld 544 cx cl dL_law_543 rfl h (fun v79 h => ?_)
  refine v_i2l 545 cx dL_law_544 rfl ?_
  refine v_ldc2 548 cx dL_law_545 kc_L_13 rfl ?_
  refine v_land 549 cx dL_law_548 rfl ?_
  refine v_lor 550 cx dL_law_549 rfl ?_
  refine v_callVI 553 0 cx dL_law_550 km_L_43 ca_X11_first (wXo_0 (xR E (RM E oM aM sm)) sx) rfl (c_X11_first C.2.1 (xR E (RM E oM aM sm)) sx v77 ((((v78 : Int32).toInt64) <<< ((32 : Int32).toInt64 &&& 63)) ||| (((v79 : Int32).toInt64) &&& 4294967295)) ) rfl (by decide) rfl (Nat.le_of_ble_eq_true rfl) rfl h (fun v80 s81 h => ?_)
  refine v_aload_n 554 2 cx dL_law_553 rfl rfl rfl ?_
  refine v_aload_n 555 0 cx dL_law_554 rfl rfl rfl ?_
  refine v_iload_n 556 3 cx dL_law_555 rfl rfl rfl ?_
  refine v_iconst 557 cx dL_law_556 ic_1 rfl ?_
  refine v_iadd 558 cx dL_law_557 rfl ?_
  refine v_sld 559 cx cl dL_law_558 rfl h (fun v82 h => ?_)
  refine v_aload_n 560 0 cx dL_law_559 rfl rfl rfl ?_
  refine v_iload_n 561 3 cx dL_law_560 rfl rfl rfl ?_
  refine v_iconst 562 cx dL_law_561 ic_2 rfl ?_
  refine v_iadd 563 cx dL_law_562 rfl ?_
  refine v_sld 564 cx cl dL_law_563 rfl h (fun v83 h => ?_)
  refine v_i2l 565 cx dL_law_564 rfl ?_
  refine v_bipush 567 cx dL_law_565 bp_32 rfl ?_
  refine v_lshl 568 cx dL_law_567 rfl ?_
  refine v_aload_n 569 0 cx dL_law_568 rfl rfl rfl ?_
  refine v_iload_n 570 3 cx dL_law_569 rfl rfl rfl ?_
  refine v_iconst 571 cx dL_law_570 ic_3 rfl ?_
  refine v_iadd 572 cx dL_law_571 rfl ?_
  refine v_sld 573 cx cl dL_law_572 rfl h (fun v84 h => ?_)
  refine v_i2l 574 cx dL_law_573 rfl ?_
  refine v_ldc2 577 cx dL_law_574 kc_L_13 rfl ?_
  refine v_land 578 cx dL_law_577 rfl ?_
  refine v_lor 579 cx dL_law_578 rfl ?_
  refine v_perm (wl2 := wM (eM E oM aM (RX E s81))) (st2 := sm) (law_XM E oM aM s81 sm) ?_
  refine v_callVI 582 0 cx dL_law_579 km_L_47 ca_X12_first (wMo_0 (eM E oM aM (RX E s81)) sm) rfl (c_X12_first C.2.1 (eM E oM aM (RX E s81)) sm v82 ((((v83 : Int32).toInt64) <<< ((32 : Int32).toInt64 &&& 63)) ||| (((v84 : Int32).toInt64) &&& 4294967295)) ) rfl (by decide) rfl (Nat.le_of_ble_eq_true rfl) rfl h (fun v85 s86 h => ?_)
  refine v_perm (wl2 := wX (xR E (RM E oM aM s86))) (st2 := s81) (law_MX E oM aM s81 s86) ?_
  refine v_icmp_eq 1452 585 cx dL_law_582 (by decide) rfl h (fun h => ?_) (fun h => by cases h)
  refine v_iinc 1455 3 (fun a87 => [(3, .int a87), (0, .ref b), (1, .ref (oX E 0)), (2, .ref oM)]) cx dL_law_1452 rfl ic_6 (by decide) (fun _ => rfl) rfl h (fun a87 h => ?_)
  refine v_goto 18 cx dL_law_1455 (by decide) ?_
  cases h
  have hk : Vat C (wX (xR E (RM E oM aM s86))) 4 18 [(0, .ref b), (1, .ref (oX E 0)), (2, .ref oM), (3, .int a87)] [] s81 := hk
  exact v_lsub (lv' := [(0, .ref b), (1, .ref (oX E 0)), (2, .ref oM), (3, .int a87)]) [1, 2, 3, 0] rfl hk
def m_law_c7 (xs : Nat → Int32) (L : Nat) (x3 : Int32) (sx sm : Sg) : Option ((Int32 × Sg × Sg) ⊕ (Sg × Sg)) :=
  sck xs L (x3 + 1) fun v88 =>
  sck xs L (x3 + 2) fun v89 =>
  clk (m_X11_unit v88 v89 sx) fun v90 s91 =>
  sck xs L (x3 + 1) fun v92 =>
  sck xs L (x3 + 2) fun v93 =>
  clk (m_X12_unit v92 v93 sm) fun v94 s95 =>
  if v90 = v94 then (nmk (x3 + 6) fun a96 =>
  some (.inl (a96, s91, s95))) else none
set_option maxHeartbeats 4000000 in
set_option maxRecDepth 100000 in
theorem j_law_c7 {C : Cm} {E : Ev} {oM : Nat} {aM : Nat → Nat} {b L : Nat} {xs : Nat → Int32} (cx : Cx C (tyE E) cL_law RL 4 9 334) (cl : CxL C b L xs) (x3 : Int32) (sx sm : Sg) (out : (Int32 × Sg × Sg) ⊕ (Sg × Sg)) (h : m_law_c7 xs L x3 sx sm = some out) (hk : Sum.elim (V_law C E oM aM b) (K_law C E oM aM b) out) : Vat C (wX (xR E (RM E oM aM sm))) 4 587 [(0, .ref b), (1, .ref (oX E 0)), (2, .ref oM), (3, .int x3)] [] sx := by
  unfold m_law_c7 at h
  refine v_aload_n 588 1 cx dL_law_587 rfl rfl rfl ?_
  refine v_aload_n 589 0 cx dL_law_588 rfl rfl rfl ?_
  refine v_iload_n 590 3 cx dL_law_589 rfl rfl rfl ?_
  refine v_iconst 591 cx dL_law_590 ic_1 rfl ?_
  refine v_iadd 592 cx dL_law_591 rfl ?_
  refine v_sld 593 cx cl dL_law_592 rfl h (fun v88 h => ?_)
  refine v_aload_n 594 0 cx dL_law_593 rfl rfl rfl ?_
  refine v_iload_n 595 3 cx dL_law_594 rfl rfl rfl ?_
  refine v_iconst 596 cx dL_law_595 ic_2 rfl ?_
  refine v_iadd 597 cx dL_law_596 rfl ?_
  refine v_sld 598 cx cl dL_law_597 rfl h (fun v89 h => ?_)
  refine v_callVI 601 0 cx dL_law_598 km_L_48 ca_X11_unit (wXo_0 (xR E (RM E oM aM sm)) sx) rfl (c_X11_unit C.2.1 (xR E (RM E oM aM sm)) sx v88 v89 ) rfl (by decide) rfl (Nat.le_of_ble_eq_true rfl) rfl h (fun v90 s91 h => ?_)
  refine v_aload_n 602 2 cx dL_law_601 rfl rfl rfl ?_
  refine v_aload_n 603 0 cx dL_law_602 rfl rfl rfl ?_
  refine v_iload_n 604 3 cx dL_law_603 rfl rfl rfl ?_
  refine v_iconst 605 cx dL_law_604 ic_1 rfl ?_
  refine v_iadd 606 cx dL_law_605 rfl ?_
  refine v_sld 607 cx cl dL_law_606 rfl h (fun v92 h => ?_)
  refine v_aload_n 608 0 cx dL_law_607 rfl rfl rfl ?_
  refine v_iload_n 609 3 cx dL_law_608 rfl rfl rfl ?_
  refine v_iconst 610 cx dL_law_609 ic_2 rfl ?_
  refine v_iadd 611 cx dL_law_610 rfl ?_
  refine v_sld 612 cx cl dL_law_611 rfl h (fun v93 h => ?_)
  refine v_perm (wl2 := wM (eM E oM aM (RX E s91))) (st2 := sm) (law_XM E oM aM s91 sm) ?_
  refine v_callVI 615 0 cx dL_law_612 km_L_52 ca_X12_unit (wMo_0 (eM E oM aM (RX E s91)) sm) rfl (c_X12_unit C.2.1 (eM E oM aM (RX E s91)) sm v92 v93 ) rfl (by decide) rfl (Nat.le_of_ble_eq_true rfl) rfl h (fun v94 s95 h => ?_)
  refine v_perm (wl2 := wX (xR E (RM E oM aM s95))) (st2 := s91) (law_MX E oM aM s91 s95) ?_
  refine v_icmp_eq 1452 618 cx dL_law_615 (by decide) rfl h (fun h => ?_) (fun h => by cases h)
  refine v_iinc 1455 3 (fun a96 => [(3, .int a96), (0, .ref b), (1, .ref (oX E 0)), (2, .ref oM)]) cx dL_law_1452 rfl ic_6 (by decide) (fun _ => rfl) rfl h (fun a96 h => ?_)
  refine v_goto 18 cx dL_law_1455 (by decide) ?_
  cases h
  have hk : Vat C (wX (xR E (RM E oM aM s95))) 4 18 [(0, .ref b), (1, .ref (oX E 0)), (2, .ref oM), (3, .int a96)] [] s91 := hk
  exact v_lsub (lv' := [(0, .ref b), (1, .ref (oX E 0)), (2, .ref oM), (3, .int a96)]) [1, 2, 3, 0] rfl hk
def m_law_c8 (xs : Nat → Int32) (L : Nat) (x3 : Int32) (sx sm : Sg) : Option ((Int32 × Sg × Sg) ⊕ (Sg × Sg)) :=
  sck xs L (x3 + 1) fun v97 =>
  sck xs L (x3 + 2) fun v98 =>
  sck xs L (x3 + 3) fun v99 =>
  sck xs L (x3 + 4) fun v100 =>
  clk (m_X11_edge v97 v98 v99 v100 sx) fun v101 s102 =>
  sck xs L (x3 + 1) fun v103 =>
  sck xs L (x3 + 2) fun v104 =>
  sck xs L (x3 + 3) fun v105 =>
  sck xs L (x3 + 4) fun v106 =>
  clk (m_X12_edge v103 v104 v105 v106 sm) fun v107 s108 =>
  if v101 = v107 then (nmk (x3 + 6) fun a109 =>
  some (.inl (a109, s102, s108))) else none
set_option maxHeartbeats 4000000 in
set_option maxRecDepth 100000 in
theorem j_law_c8 {C : Cm} {E : Ev} {oM : Nat} {aM : Nat → Nat} {b L : Nat} {xs : Nat → Int32} (cx : Cx C (tyE E) cL_law RL 4 9 334) (cl : CxL C b L xs) (x3 : Int32) (sx sm : Sg) (out : (Int32 × Sg × Sg) ⊕ (Sg × Sg)) (h : m_law_c8 xs L x3 sx sm = some out) (hk : Sum.elim (V_law C E oM aM b) (K_law C E oM aM b) out) : Vat C (wX (xR E (RM E oM aM sm))) 4 620 [(0, .ref b), (1, .ref (oX E 0)), (2, .ref oM), (3, .int x3)] [] sx := by
  unfold m_law_c8 at h
  refine v_aload_n 621 1 cx dL_law_620 rfl rfl rfl ?_
  refine v_aload_n 622 0 cx dL_law_621 rfl rfl rfl ?_
  refine v_iload_n 623 3 cx dL_law_622 rfl rfl rfl ?_
  refine v_iconst 624 cx dL_law_623 ic_1 rfl ?_
  refine v_iadd 625 cx dL_law_624 rfl ?_
  refine v_sld 626 cx cl dL_law_625 rfl h (fun v97 h => ?_)
  refine v_aload_n 627 0 cx dL_law_626 rfl rfl rfl ?_
  refine v_iload_n 628 3 cx dL_law_627 rfl rfl rfl ?_
  refine v_iconst 629 cx dL_law_628 ic_2 rfl ?_
  refine v_iadd 630 cx dL_law_629 rfl ?_
  refine v_sld 631 cx cl dL_law_630 rfl h (fun v98 h => ?_)
  refine v_aload_n 632 0 cx dL_law_631 rfl rfl rfl ?_
  refine v_iload_n 633 3 cx dL_law_632 rfl rfl rfl ?_
  refine v_iconst 634 cx dL_law_633 ic_3 rfl ?_
  refine v_iadd 635 cx dL_law_634 rfl ?_
  refine v_sld 636 cx cl dL_law_635 rfl h (fun v99 h => ?_)
  refine v_aload_n 637 0 cx dL_law_636 rfl rfl rfl ?_
  refine v_iload_n 638 3 cx dL_law_637 rfl rfl rfl ?_
  refine v_iconst 639 cx dL_law_638 ic_4 rfl ?_
  refine v_iadd 640 cx dL_law_639 rfl ?_
  refine v_sld 641 cx cl dL_law_640 rfl h (fun v100 h => ?_)
  refine v_callVI 644 0 cx dL_law_641 km_L_53 ca_X11_edge (wXo_0 (xR E (RM E oM aM sm)) sx) rfl (c_X11_edge C.2.1 (xR E (RM E oM aM sm)) sx v97 v98 v99 v100 ) rfl (by decide) rfl (Nat.le_of_ble_eq_true rfl) rfl h (fun v101 s102 h => ?_)
  refine v_aload_n 645 2 cx dL_law_644 rfl rfl rfl ?_
  refine v_aload_n 646 0 cx dL_law_645 rfl rfl rfl ?_
  refine v_iload_n 647 3 cx dL_law_646 rfl rfl rfl ?_
  refine v_iconst 648 cx dL_law_647 ic_1 rfl ?_
  refine v_iadd 649 cx dL_law_648 rfl ?_
  refine v_sld 650 cx cl dL_law_649 rfl h (fun v103 h => ?_)
  refine v_aload_n 651 0 cx dL_law_650 rfl rfl rfl ?_
  refine v_iload_n 652 3 cx dL_law_651 rfl rfl rfl ?_
  refine v_iconst 653 cx dL_law_652 ic_2 rfl ?_
  refine v_iadd 654 cx dL_law_653 rfl ?_
  refine v_sld 655 cx cl dL_law_654 rfl h (fun v104 h => ?_)
  refine v_aload_n 656 0 cx dL_law_655 rfl rfl rfl ?_
  refine v_iload_n 657 3 cx dL_law_656 rfl rfl rfl ?_
  refine v_iconst 658 cx dL_law_657 ic_3 rfl ?_
  refine v_iadd 659 cx dL_law_658 rfl ?_
  refine v_sld 660 cx cl dL_law_659 rfl h (fun v105 h => ?_)
  refine v_aload_n 661 0 cx dL_law_660 rfl rfl rfl ?_
  refine v_iload_n 662 3 cx dL_law_661 rfl rfl rfl ?_
  refine v_iconst 663 cx dL_law_662 ic_4 rfl ?_
  refine v_iadd 664 cx dL_law_663 rfl ?_
  refine v_sld 665 cx cl dL_law_664 rfl h (fun v106 h => ?_)
  refine v_perm (wl2 := wM (eM E oM aM (RX E s102))) (st2 := sm) (law_XM E oM aM s102 sm) ?_
  refine v_callVI 668 0 cx dL_law_665 km_L_56 ca_X12_edge (wMo_0 (eM E oM aM (RX E s102)) sm) rfl (c_X12_edge C.2.1 (eM E oM aM (RX E s102)) sm v103 v104 v105 v106 ) rfl (by decide) rfl (Nat.le_of_ble_eq_true rfl) rfl h (fun v107 s108 h => ?_)
  refine v_perm (wl2 := wX (xR E (RM E oM aM s108))) (st2 := s102) (law_MX E oM aM s102 s108) ?_
  refine v_icmp_eq 1452 671 cx dL_law_668 (by decide) rfl h (fun h => ?_) (fun h => by cases h)
  refine v_iinc 1455 3 (fun a109 => [(3, .int a109), (0, .ref b), (1, .ref (oX E 0)), (2, .ref oM)]) cx dL_law_1452 rfl ic_6 (by decide) (fun _ => rfl) rfl h (fun a109 h => ?_)
  refine v_goto 18 cx dL_law_1455 (by decide) ?_
  cases h
  have hk : Vat C (wX (xR E (RM E oM aM s108))) 4 18 [(0, .ref b), (1, .ref (oX E 0)), (2, .ref oM), (3, .int a109)] [] s102 := hk
  exact v_lsub (lv' := [(0, .ref b), (1, .ref (oX E 0)), (2, .ref oM), (3, .int a109)]) [1, 2, 3, 0] rfl hk
def m_law_c9 (xs : Nat → Int32) (L : Nat) (x3 : Int32) (sx sm : Sg) : Option ((Int32 × Sg × Sg) ⊕ (Sg × Sg)) :=
  clk (m_X11_undo sx) fun v110 s111 =>
  clk (m_X12_undo sm) fun v112 s113 =>
  if v110 = v112 then (nmk (x3 + 6) fun a114 =>
  some (.inl (a114, s111, s113))) else none
set_option maxHeartbeats 4000000 in
set_option maxRecDepth 100000 in
theorem j_law_c9 {C : Cm} {E : Ev} {oM : Nat} {aM : Nat → Nat} {b L : Nat} {xs : Nat → Int32} (cx : Cx C (tyE E) cL_law RL 4 9 334) (cl : CxL C b L xs) (x3 : Int32) (sx sm : Sg) (out : (Int32 × Sg × Sg) ⊕ (Sg × Sg)) (h : m_law_c9 xs L x3 sx sm = some out) (hk : Sum.elim (V_law C E oM aM b) (K_law C E oM aM b) out) : Vat C (wX (xR E (RM E oM aM sm))) 4 673 [(0, .ref b), (1, .ref (oX E 0)), (2, .ref oM), (3, .int x3)] [] sx := by
  unfold m_law_c9 at h
  refine v_aload_n 674 1 cx dL_law_673 rfl rfl rfl ?_
  refine v_callVI 677 0 cx dL_law_674 km_L_57 ca_X11_undo (wXo_0 (xR E (RM E oM aM sm)) sx) rfl (c_X11_undo C.2.1 (xR E (RM E oM aM sm)) sx ) rfl (by decide) rfl (Nat.le_of_ble_eq_true rfl) rfl h (fun v110 s111 h => ?_)
  refine v_aload_n 678 2 cx dL_law_677 rfl rfl rfl ?_
  refine v_perm (wl2 := wM (eM E oM aM (RX E s111))) (st2 := sm) (law_XM E oM aM s111 sm) ?_
  refine v_callVI 681 0 cx dL_law_678 km_L_61 ca_X12_undo (wMo_0 (eM E oM aM (RX E s111)) sm) rfl (c_X12_undo C.2.1 (eM E oM aM (RX E s111)) sm ) rfl (by decide) rfl (Nat.le_of_ble_eq_true rfl) rfl h (fun v112 s113 h => ?_)
  refine v_perm (wl2 := wX (xR E (RM E oM aM s113))) (st2 := s111) (law_MX E oM aM s111 s113) ?_
  refine v_icmp_eq 1452 684 cx dL_law_681 (by decide) rfl h (fun h => ?_) (fun h => by cases h)
  refine v_iinc 1455 3 (fun a114 => [(3, .int a114), (0, .ref b), (1, .ref (oX E 0)), (2, .ref oM)]) cx dL_law_1452 rfl ic_6 (by decide) (fun _ => rfl) rfl h (fun a114 h => ?_)
  refine v_goto 18 cx dL_law_1455 (by decide) ?_
  cases h
  have hk : Vat C (wX (xR E (RM E oM aM s113))) 4 18 [(0, .ref b), (1, .ref (oX E 0)), (2, .ref oM), (3, .int a114)] [] s111 := hk
  exact v_lsub (lv' := [(0, .ref b), (1, .ref (oX E 0)), (2, .ref oM), (3, .int a114)]) [1, 2, 3, 0] rfl hk
def m_law_c10 (xs : Nat → Int32) (L : Nat) (x3 : Int32) (sx sm : Sg) : Option ((Int32 × Sg × Sg) ⊕ (Sg × Sg)) :=
  sck xs L (x3 + 1) fun v115 =>
  sck xs L (x3 + 2) fun v116 =>
  clk (m_X11_act v115 v116 sx) fun v117 s118 =>
  sck xs L (x3 + 1) fun v119 =>
  sck xs L (x3 + 2) fun v120 =>
  clk (m_X12_act v119 v120 sm) fun v121 s122 =>
  if v117 = v121 then (nmk (x3 + 6) fun a123 =>
  some (.inl (a123, s118, s122))) else none
set_option maxHeartbeats 4000000 in
set_option maxRecDepth 100000 in
theorem j_law_c10 {C : Cm} {E : Ev} {oM : Nat} {aM : Nat → Nat} {b L : Nat} {xs : Nat → Int32} (cx : Cx C (tyE E) cL_law RL 4 9 334) (cl : CxL C b L xs) (x3 : Int32) (sx sm : Sg) (out : (Int32 × Sg × Sg) ⊕ (Sg × Sg)) (h : m_law_c10 xs L x3 sx sm = some out) (hk : Sum.elim (V_law C E oM aM b) (K_law C E oM aM b) out) : Vat C (wX (xR E (RM E oM aM sm))) 4 686 [(0, .ref b), (1, .ref (oX E 0)), (2, .ref oM), (3, .int x3)] [] sx := by
  unfold m_law_c10 at h
  refine v_aload_n 687 1 cx dL_law_686 rfl rfl rfl ?_
  refine v_aload_n 688 0 cx dL_law_687 rfl rfl rfl ?_
  refine v_iload_n 689 3 cx dL_law_688 rfl rfl rfl ?_
  refine v_iconst 690 cx dL_law_689 ic_1 rfl ?_
  refine v_iadd 691 cx dL_law_690 rfl ?_
  refine v_sld 692 cx cl dL_law_691 rfl h (fun v115 h => ?_)
  refine v_aload_n 693 0 cx dL_law_692 rfl rfl rfl ?_
  refine v_iload_n 694 3 cx dL_law_693 rfl rfl rfl ?_
  refine v_iconst 695 cx dL_law_694 ic_2 rfl ?_
  refine v_iadd 696 cx dL_law_695 rfl ?_
  refine v_sld 697 cx cl dL_law_696 rfl h (fun v116 h => ?_)
  refine v_callVI 700 0 cx dL_law_697 km_L_62 ca_X11_act (wXo_0 (xR E (RM E oM aM sm)) sx) rfl (c_X11_act C.2.1 (xR E (RM E oM aM sm)) sx v115 v116 ) rfl (by decide) rfl (Nat.le_of_ble_eq_true rfl) rfl h (fun v117 s118 h => ?_)
  refine v_aload_n 701 2 cx dL_law_700 rfl rfl rfl ?_
  refine v_aload_n 702 0 cx dL_law_701 rfl rfl rfl ?_
  refine v_iload_n 703 3 cx dL_law_702 rfl rfl rfl ?_
  refine v_iconst 704 cx dL_law_703 ic_1 rfl ?_
  refine v_iadd 705 cx dL_law_704 rfl ?_
  refine v_sld 706 cx cl dL_law_705 rfl h (fun v119 h => ?_)
  refine v_aload_n 707 0 cx dL_law_706 rfl rfl rfl ?_
  refine v_iload_n 708 3 cx dL_law_707 rfl rfl rfl ?_
  refine v_iconst 709 cx dL_law_708 ic_2 rfl ?_
  refine v_iadd 710 cx dL_law_709 rfl ?_
  refine v_sld 711 cx cl dL_law_710 rfl h (fun v120 h => ?_)
  refine v_perm (wl2 := wM (eM E oM aM (RX E s118))) (st2 := sm) (law_XM E oM aM s118 sm) ?_
  refine v_callVI 714 0 cx dL_law_711 km_L_65 ca_X12_act (wMo_0 (eM E oM aM (RX E s118)) sm) rfl (c_X12_act C.2.1 (eM E oM aM (RX E s118)) sm v119 v120 ) rfl (by decide) rfl (Nat.le_of_ble_eq_true rfl) rfl h (fun v121 s122 h => ?_)
  refine v_perm (wl2 := wX (xR E (RM E oM aM s122))) (st2 := s118) (law_MX E oM aM s118 s122) ?_
  refine v_icmp_eq 1452 717 cx dL_law_714 (by decide) rfl h (fun h => ?_) (fun h => by cases h)
  refine v_iinc 1455 3 (fun a123 => [(3, .int a123), (0, .ref b), (1, .ref (oX E 0)), (2, .ref oM)]) cx dL_law_1452 rfl ic_6 (by decide) (fun _ => rfl) rfl h (fun a123 h => ?_)
  refine v_goto 18 cx dL_law_1455 (by decide) ?_
  cases h
  have hk : Vat C (wX (xR E (RM E oM aM s122))) 4 18 [(0, .ref b), (1, .ref (oX E 0)), (2, .ref oM), (3, .int a123)] [] s118 := hk
  exact v_lsub (lv' := [(0, .ref b), (1, .ref (oX E 0)), (2, .ref oM), (3, .int a123)]) [1, 2, 3, 0] rfl hk
def m_law_c11 (xs : Nat → Int32) (L : Nat) (x3 : Int32) (sx sm : Sg) : Option ((Int32 × Sg × Sg) ⊕ (Sg × Sg)) :=
  sck xs L (x3 + 1) fun v124 =>
  clk (m_X11_number v124 sx) fun v125 s126 =>
  sck xs L (x3 + 1) fun v127 =>
  clk (m_X12_number v127 sm) fun v128 s129 =>
  if (lg_cmp v125 v128) = 0 then (nmk (x3 + 6) fun a130 =>
  some (.inl (a130, s126, s129))) else none
set_option maxHeartbeats 4000000 in
set_option maxRecDepth 100000 in
theorem j_law_c11 {C : Cm} {E : Ev} {oM : Nat} {aM : Nat → Nat} {b L : Nat} {xs : Nat → Int32} (cx : Cx C (tyE E) cL_law RL 4 9 334) (cl : CxL C b L xs) (x3 : Int32) (sx sm : Sg) (out : (Int32 × Sg × Sg) ⊕ (Sg × Sg)) (h : m_law_c11 xs L x3 sx sm = some out) (hk : Sum.elim (V_law C E oM aM b) (K_law C E oM aM b) out) : Vat C (wX (xR E (RM E oM aM sm))) 4 719 [(0, .ref b), (1, .ref (oX E 0)), (2, .ref oM), (3, .int x3)] [] sx := by
  unfold m_law_c11 at h
  refine v_aload_n 720 1 cx dL_law_719 rfl rfl rfl ?_
  refine v_aload_n 721 0 cx dL_law_720 rfl rfl rfl ?_
  refine v_iload_n 722 3 cx dL_law_721 rfl rfl rfl ?_
  refine v_iconst 723 cx dL_law_722 ic_1 rfl ?_
  refine v_iadd 724 cx dL_law_723 rfl ?_
  refine v_sld 725 cx cl dL_law_724 rfl h (fun v124 h => ?_)
  refine v_callVL 728 0 cx dL_law_725 km_L_66 ca_X11_number (wXo_0 (xR E (RM E oM aM sm)) sx) rfl (c_X11_number C.2.1 (xR E (RM E oM aM sm)) sx v124 ) rfl (by decide) rfl (Nat.le_of_ble_eq_true rfl) rfl h (fun v125 s126 h => ?_)
  refine v_aload_n 729 2 cx dL_law_728 rfl rfl rfl ?_
  refine v_aload_n 730 0 cx dL_law_729 rfl rfl rfl ?_
  refine v_iload_n 731 3 cx dL_law_730 rfl rfl rfl ?_
  refine v_iconst 732 cx dL_law_731 ic_1 rfl ?_
  refine v_iadd 733 cx dL_law_732 rfl ?_
  refine v_sld 734 cx cl dL_law_733 rfl h (fun v127 h => ?_)
  refine v_perm (wl2 := wM (eM E oM aM (RX E s126))) (st2 := sm) (law_XM E oM aM s126 sm) ?_
  refine v_callVL 737 0 cx dL_law_734 km_L_70 ca_X12_number (wMo_0 (eM E oM aM (RX E s126)) sm) rfl (c_X12_number C.2.1 (eM E oM aM (RX E s126)) sm v127 ) rfl (by decide) rfl (Nat.le_of_ble_eq_true rfl) rfl h (fun v128 s129 h => ?_)
  refine v_perm (wl2 := wX (xR E (RM E oM aM s129))) (st2 := s126) (law_MX E oM aM s126 s129) ?_
  refine v_lcmp 738 cx dL_law_737 rfl ?_
  refine v_if_eq 1452 741 cx dL_law_738 (by decide) rfl h (fun h => ?_) (fun h => by cases h)
  refine v_iinc 1455 3 (fun a130 => [(3, .int a130), (0, .ref b), (1, .ref (oX E 0)), (2, .ref oM)]) cx dL_law_1452 rfl ic_6 (by decide) (fun _ => rfl) rfl h (fun a130 h => ?_)
  refine v_goto 18 cx dL_law_1455 (by decide) ?_
  cases h
  have hk : Vat C (wX (xR E (RM E oM aM s129))) 4 18 [(0, .ref b), (1, .ref (oX E 0)), (2, .ref oM), (3, .int a130)] [] s126 := hk
  exact v_lsub (lv' := [(0, .ref b), (1, .ref (oX E 0)), (2, .ref oM), (3, .int a130)]) [1, 2, 3, 0] rfl hk
def m_law_c12 (xs : Nat → Int32) (L : Nat) (x3 : Int32) (sx sm : Sg) : Option ((Int32 × Sg × Sg) ⊕ (Sg × Sg)) :=
  sck xs L (x3 + 1) fun v131 =>
  clk (m_X11_count v131 sx) fun v132 s133 =>
  sck xs L (x3 + 1) fun v134 =>
  clk (m_X12_count v134 sm) fun v135 s136 =>
  if v132 = v135 then (nmk (x3 + 6) fun a137 =>
  some (.inl (a137, s133, s136))) else none
set_option maxHeartbeats 4000000 in
set_option maxRecDepth 100000 in
theorem j_law_c12 {C : Cm} {E : Ev} {oM : Nat} {aM : Nat → Nat} {b L : Nat} {xs : Nat → Int32} (cx : Cx C (tyE E) cL_law RL 4 9 334) (cl : CxL C b L xs) (x3 : Int32) (sx sm : Sg) (out : (Int32 × Sg × Sg) ⊕ (Sg × Sg)) (h : m_law_c12 xs L x3 sx sm = some out) (hk : Sum.elim (V_law C E oM aM b) (K_law C E oM aM b) out) : Vat C (wX (xR E (RM E oM aM sm))) 4 743 [(0, .ref b), (1, .ref (oX E 0)), (2, .ref oM), (3, .int x3)] [] sx := by
  unfold m_law_c12 at h
  refine v_aload_n 744 1 cx dL_law_743 rfl rfl rfl ?_
  refine v_aload_n 745 0 cx dL_law_744 rfl rfl rfl ?_
  refine v_iload_n 746 3 cx dL_law_745 rfl rfl rfl ?_
  refine v_iconst 747 cx dL_law_746 ic_1 rfl ?_
  refine v_iadd 748 cx dL_law_747 rfl ?_
  refine v_sld 749 cx cl dL_law_748 rfl h (fun v131 h => ?_)
  refine v_callVI 752 0 cx dL_law_749 km_L_71 ca_X11_count (wXo_0 (xR E (RM E oM aM sm)) sx) rfl (c_X11_count C.2.1 (xR E (RM E oM aM sm)) sx v131 ) rfl (by decide) rfl (Nat.le_of_ble_eq_true rfl) rfl h (fun v132 s133 h => ?_)
  refine v_aload_n 753 2 cx dL_law_752 rfl rfl rfl ?_
  refine v_aload_n 754 0 cx dL_law_753 rfl rfl rfl ?_
  refine v_iload_n 755 3 cx dL_law_754 rfl rfl rfl ?_
  refine v_iconst 756 cx dL_law_755 ic_1 rfl ?_
  refine v_iadd 757 cx dL_law_756 rfl ?_
  refine v_sld 758 cx cl dL_law_757 rfl h (fun v134 h => ?_)
  refine v_perm (wl2 := wM (eM E oM aM (RX E s133))) (st2 := sm) (law_XM E oM aM s133 sm) ?_
  refine v_callVI 761 0 cx dL_law_758 km_L_75 ca_X12_count (wMo_0 (eM E oM aM (RX E s133)) sm) rfl (c_X12_count C.2.1 (eM E oM aM (RX E s133)) sm v134 ) rfl (by decide) rfl (Nat.le_of_ble_eq_true rfl) rfl h (fun v135 s136 h => ?_)
  refine v_perm (wl2 := wX (xR E (RM E oM aM s136))) (st2 := s133) (law_MX E oM aM s133 s136) ?_
  refine v_icmp_eq 1452 764 cx dL_law_761 (by decide) rfl h (fun h => ?_) (fun h => by cases h)
  refine v_iinc 1455 3 (fun a137 => [(3, .int a137), (0, .ref b), (1, .ref (oX E 0)), (2, .ref oM)]) cx dL_law_1452 rfl ic_6 (by decide) (fun _ => rfl) rfl h (fun a137 h => ?_)
  refine v_goto 18 cx dL_law_1455 (by decide) ?_
  cases h
  have hk : Vat C (wX (xR E (RM E oM aM s136))) 4 18 [(0, .ref b), (1, .ref (oX E 0)), (2, .ref oM), (3, .int a137)] [] s133 := hk
  exact v_lsub (lv' := [(0, .ref b), (1, .ref (oX E 0)), (2, .ref oM), (3, .int a137)]) [1, 2, 3, 0] rfl hk
def m_law_c13 (xs : Nat → Int32) (L : Nat) (x3 : Int32) (sx sm : Sg) : Option ((Int32 × Sg × Sg) ⊕ (Sg × Sg)) :=
  clk (m_X11_whole sx) fun v138 s139 =>
  clk (m_X12_whole sm) fun v140 s141 =>
  if v138 = v140 then (nmk (x3 + 6) fun a142 =>
  some (.inl (a142, s139, s141))) else none
set_option maxHeartbeats 4000000 in
set_option maxRecDepth 100000 in
theorem j_law_c13 {C : Cm} {E : Ev} {oM : Nat} {aM : Nat → Nat} {b L : Nat} {xs : Nat → Int32} (cx : Cx C (tyE E) cL_law RL 4 9 334) (cl : CxL C b L xs) (x3 : Int32) (sx sm : Sg) (out : (Int32 × Sg × Sg) ⊕ (Sg × Sg)) (h : m_law_c13 xs L x3 sx sm = some out) (hk : Sum.elim (V_law C E oM aM b) (K_law C E oM aM b) out) : Vat C (wX (xR E (RM E oM aM sm))) 4 766 [(0, .ref b), (1, .ref (oX E 0)), (2, .ref oM), (3, .int x3)] [] sx := by
  unfold m_law_c13 at h
  refine v_aload_n 767 1 cx dL_law_766 rfl rfl rfl ?_
  refine v_callVI 770 0 cx dL_law_767 km_L_76 ca_X11_whole (wXo_0 (xR E (RM E oM aM sm)) sx) rfl (c_X11_whole C.2.1 (xR E (RM E oM aM sm)) sx ) rfl (by decide) rfl (Nat.le_of_ble_eq_true rfl) rfl h (fun v138 s139 h => ?_)
  refine v_aload_n 771 2 cx dL_law_770 rfl rfl rfl ?_
  refine v_perm (wl2 := wM (eM E oM aM (RX E s139))) (st2 := sm) (law_XM E oM aM s139 sm) ?_
  refine v_callVI 774 0 cx dL_law_771 km_L_79 ca_X12_whole (wMo_0 (eM E oM aM (RX E s139)) sm) rfl (c_X12_whole C.2.1 (eM E oM aM (RX E s139)) sm ) rfl (by decide) rfl (Nat.le_of_ble_eq_true rfl) rfl h (fun v140 s141 h => ?_)
  refine v_perm (wl2 := wX (xR E (RM E oM aM s141))) (st2 := s139) (law_MX E oM aM s139 s141) ?_
  refine v_icmp_eq 1452 777 cx dL_law_774 (by decide) rfl h (fun h => ?_) (fun h => by cases h)
  refine v_iinc 1455 3 (fun a142 => [(3, .int a142), (0, .ref b), (1, .ref (oX E 0)), (2, .ref oM)]) cx dL_law_1452 rfl ic_6 (by decide) (fun _ => rfl) rfl h (fun a142 h => ?_)
  refine v_goto 18 cx dL_law_1455 (by decide) ?_
  cases h
  have hk : Vat C (wX (xR E (RM E oM aM s141))) 4 18 [(0, .ref b), (1, .ref (oX E 0)), (2, .ref oM), (3, .int a142)] [] s139 := hk
  exact v_lsub (lv' := [(0, .ref b), (1, .ref (oX E 0)), (2, .ref oM), (3, .int a142)]) [1, 2, 3, 0] rfl hk
def m_law_c14 (xs : Nat → Int32) (L : Nat) (x3 : Int32) (sx sm : Sg) : Option ((Int32 × Sg × Sg) ⊕ (Sg × Sg)) :=
  sck xs L (x3 + 1) fun v143 =>
  sck xs L (x3 + 2) fun v144 =>
  sck xs L (x3 + 3) fun v145 =>
  if v145 = 0 then (clk (m_X11_row v143 v144 0 sx) fun v146 s147 =>
  sck xs L (x3 + 1) fun v148 =>
  sck xs L (x3 + 2) fun v149 =>
  sck xs L (x3 + 3) fun v150 =>
  if v150 = 0 then (clk (m_X12_row v148 v149 0 sm) fun v151 s152 =>
  if v146 = v151 then (nmk (x3 + 6) fun a153 =>
  some (.inl (a153, s147, s152))) else none) else
  clk (m_X12_row v148 v149 1 sm) fun v154 s155 =>
  if v146 = v154 then (nmk (x3 + 6) fun a156 =>
  some (.inl (a156, s147, s155))) else none) else
  clk (m_X11_row v143 v144 1 sx) fun v157 s158 =>
  sck xs L (x3 + 1) fun v159 =>
  sck xs L (x3 + 2) fun v160 =>
  sck xs L (x3 + 3) fun v161 =>
  if v161 = 0 then (clk (m_X12_row v159 v160 0 sm) fun v162 s163 =>
  if v157 = v162 then (nmk (x3 + 6) fun a164 =>
  some (.inl (a164, s158, s163))) else none) else
  clk (m_X12_row v159 v160 1 sm) fun v165 s166 =>
  if v157 = v165 then (nmk (x3 + 6) fun a167 =>
  some (.inl (a167, s158, s166))) else none
set_option maxHeartbeats 4000000 in
set_option maxRecDepth 100000 in
theorem j_law_c14 {C : Cm} {E : Ev} {oM : Nat} {aM : Nat → Nat} {b L : Nat} {xs : Nat → Int32} (cx : Cx C (tyE E) cL_law RL 4 9 334) (cl : CxL C b L xs) (x3 : Int32) (sx sm : Sg) (out : (Int32 × Sg × Sg) ⊕ (Sg × Sg)) (h : m_law_c14 xs L x3 sx sm = some out) (hk : Sum.elim (V_law C E oM aM b) (K_law C E oM aM b) out) : Vat C (wX (xR E (RM E oM aM sm))) 4 779 [(0, .ref b), (1, .ref (oX E 0)), (2, .ref oM), (3, .int x3)] [] sx := by
  unfold m_law_c14 at h
  refine v_aload_n 780 1 cx dL_law_779 rfl rfl rfl ?_
  refine v_aload_n 781 0 cx dL_law_780 rfl rfl rfl ?_
  refine v_iload_n 782 3 cx dL_law_781 rfl rfl rfl ?_
  refine v_iconst 783 cx dL_law_782 ic_1 rfl ?_
  refine v_iadd 784 cx dL_law_783 rfl ?_
  refine v_sld 785 cx cl dL_law_784 rfl h (fun v143 h => ?_)
  refine v_aload_n 786 0 cx dL_law_785 rfl rfl rfl ?_
  refine v_iload_n 787 3 cx dL_law_786 rfl rfl rfl ?_
  refine v_iconst 788 cx dL_law_787 ic_2 rfl ?_
  refine v_iadd 789 cx dL_law_788 rfl ?_
  refine v_sld 790 cx cl dL_law_789 rfl h (fun v144 h => ?_)
  refine v_aload_n 791 0 cx dL_law_790 rfl rfl rfl ?_
  refine v_iload_n 792 3 cx dL_law_791 rfl rfl rfl ?_
  refine v_iconst 793 cx dL_law_792 ic_3 rfl ?_
  refine v_iadd 794 cx dL_law_793 rfl ?_
  refine v_sld 795 cx cl dL_law_794 rfl h (fun v145 h => ?_)
  refine v_if_eq 802 798 cx dL_law_795 (by decide) rfl h (fun h => ?_) (fun h => ?_)
  · refine v_iconst 803 cx dL_law_802 ic_0 rfl ?_
    refine v_callVI 806 0 cx dL_law_803 km_L_80 ca_X11_row (wXo_0 (xR E (RM E oM aM sm)) sx) rfl (c_X11_row C.2.1 (xR E (RM E oM aM sm)) sx v143 v144 0 ) rfl (by decide) rfl (Nat.le_of_ble_eq_true rfl) rfl h (fun v146 s147 h => ?_)
    refine v_aload_n 807 2 cx dL_law_806 rfl rfl rfl ?_
    refine v_aload_n 808 0 cx dL_law_807 rfl rfl rfl ?_
    refine v_iload_n 809 3 cx dL_law_808 rfl rfl rfl ?_
    refine v_iconst 810 cx dL_law_809 ic_1 rfl ?_
    refine v_iadd 811 cx dL_law_810 rfl ?_
    refine v_sld 812 cx cl dL_law_811 rfl h (fun v148 h => ?_)
    refine v_aload_n 813 0 cx dL_law_812 rfl rfl rfl ?_
    refine v_iload_n 814 3 cx dL_law_813 rfl rfl rfl ?_
    refine v_iconst 815 cx dL_law_814 ic_2 rfl ?_
    refine v_iadd 816 cx dL_law_815 rfl ?_
    refine v_sld 817 cx cl dL_law_816 rfl h (fun v149 h => ?_)
    refine v_aload_n 818 0 cx dL_law_817 rfl rfl rfl ?_
    refine v_iload_n 819 3 cx dL_law_818 rfl rfl rfl ?_
    refine v_iconst 820 cx dL_law_819 ic_3 rfl ?_
    refine v_iadd 821 cx dL_law_820 rfl ?_
    refine v_sld 822 cx cl dL_law_821 rfl h (fun v150 h => ?_)
    refine v_if_eq 829 825 cx dL_law_822 (by decide) rfl h (fun h => ?_) (fun h => ?_)
    · refine v_iconst 830 cx dL_law_829 ic_0 rfl ?_
      refine v_perm (wl2 := wM (eM E oM aM (RX E s147))) (st2 := sm) (law_XM E oM aM s147 sm) ?_
      refine v_callVI 833 0 cx dL_law_830 km_L_84 ca_X12_row (wMo_0 (eM E oM aM (RX E s147)) sm) rfl (c_X12_row C.2.1 (eM E oM aM (RX E s147)) sm v148 v149 0 ) rfl (by decide) rfl (Nat.le_of_ble_eq_true rfl) rfl h (fun v151 s152 h => ?_)
      refine v_perm (wl2 := wX (xR E (RM E oM aM s152))) (st2 := s147) (law_MX E oM aM s147 s152) ?_
      refine v_icmp_eq 1452 836 cx dL_law_833 (by decide) rfl h (fun h => ?_) (fun h => by cases h)
      refine v_iinc 1455 3 (fun a153 => [(3, .int a153), (0, .ref b), (1, .ref (oX E 0)), (2, .ref oM)]) cx dL_law_1452 rfl ic_6 (by decide) (fun _ => rfl) rfl h (fun a153 h => ?_)
      refine v_goto 18 cx dL_law_1455 (by decide) ?_
      cases h
      have hk : Vat C (wX (xR E (RM E oM aM s152))) 4 18 [(0, .ref b), (1, .ref (oX E 0)), (2, .ref oM), (3, .int a153)] [] s147 := hk
      exact v_lsub (lv' := [(0, .ref b), (1, .ref (oX E 0)), (2, .ref oM), (3, .int a153)]) [1, 2, 3, 0] rfl hk
    · refine v_iconst 826 cx dL_law_825 ic_1 rfl ?_
      refine v_goto 830 cx dL_law_826 (by decide) ?_
      refine v_perm (wl2 := wM (eM E oM aM (RX E s147))) (st2 := sm) (law_XM E oM aM s147 sm) ?_
      refine v_callVI 833 0 cx dL_law_830 km_L_84 ca_X12_row (wMo_0 (eM E oM aM (RX E s147)) sm) rfl (c_X12_row C.2.1 (eM E oM aM (RX E s147)) sm v148 v149 1 ) rfl (by decide) rfl (Nat.le_of_ble_eq_true rfl) rfl h (fun v154 s155 h => ?_)
      refine v_perm (wl2 := wX (xR E (RM E oM aM s155))) (st2 := s147) (law_MX E oM aM s147 s155) ?_
      refine v_icmp_eq 1452 836 cx dL_law_833 (by decide) rfl h (fun h => ?_) (fun h => by cases h)
      refine v_iinc 1455 3 (fun a156 => [(3, .int a156), (0, .ref b), (1, .ref (oX E 0)), (2, .ref oM)]) cx dL_law_1452 rfl ic_6 (by decide) (fun _ => rfl) rfl h (fun a156 h => ?_)
      refine v_goto 18 cx dL_law_1455 (by decide) ?_
      cases h
      have hk : Vat C (wX (xR E (RM E oM aM s155))) 4 18 [(0, .ref b), (1, .ref (oX E 0)), (2, .ref oM), (3, .int a156)] [] s147 := hk
      exact v_lsub (lv' := [(0, .ref b), (1, .ref (oX E 0)), (2, .ref oM), (3, .int a156)]) [1, 2, 3, 0] rfl hk
  · refine v_iconst 799 cx dL_law_798 ic_1 rfl ?_
    refine v_goto 803 cx dL_law_799 (by decide) ?_
    refine v_callVI 806 0 cx dL_law_803 km_L_80 ca_X11_row (wXo_0 (xR E (RM E oM aM sm)) sx) rfl (c_X11_row C.2.1 (xR E (RM E oM aM sm)) sx v143 v144 1 ) rfl (by decide) rfl (Nat.le_of_ble_eq_true rfl) rfl h (fun v157 s158 h => ?_)
    refine v_aload_n 807 2 cx dL_law_806 rfl rfl rfl ?_
    refine v_aload_n 808 0 cx dL_law_807 rfl rfl rfl ?_
    refine v_iload_n 809 3 cx dL_law_808 rfl rfl rfl ?_
    refine v_iconst 810 cx dL_law_809 ic_1 rfl ?_
    refine v_iadd 811 cx dL_law_810 rfl ?_
    refine v_sld 812 cx cl dL_law_811 rfl h (fun v159 h => ?_)
    refine v_aload_n 813 0 cx dL_law_812 rfl rfl rfl ?_
    refine v_iload_n 814 3 cx dL_law_813 rfl rfl rfl ?_
    refine v_iconst 815 cx dL_law_814 ic_2 rfl ?_
    refine v_iadd 816 cx dL_law_815 rfl ?_
    refine v_sld 817 cx cl dL_law_816 rfl h (fun v160 h => ?_)
    refine v_aload_n 818 0 cx dL_law_817 rfl rfl rfl ?_
    refine v_iload_n 819 3 cx dL_law_818 rfl rfl rfl ?_
    refine v_iconst 820 cx dL_law_819 ic_3 rfl ?_
    refine v_iadd 821 cx dL_law_820 rfl ?_
    refine v_sld 822 cx cl dL_law_821 rfl h (fun v161 h => ?_)
    refine v_if_eq 829 825 cx dL_law_822 (by decide) rfl h (fun h => ?_) (fun h => ?_)
    · refine v_iconst 830 cx dL_law_829 ic_0 rfl ?_
      refine v_perm (wl2 := wM (eM E oM aM (RX E s158))) (st2 := sm) (law_XM E oM aM s158 sm) ?_
      refine v_callVI 833 0 cx dL_law_830 km_L_84 ca_X12_row (wMo_0 (eM E oM aM (RX E s158)) sm) rfl (c_X12_row C.2.1 (eM E oM aM (RX E s158)) sm v159 v160 0 ) rfl (by decide) rfl (Nat.le_of_ble_eq_true rfl) rfl h (fun v162 s163 h => ?_)
      refine v_perm (wl2 := wX (xR E (RM E oM aM s163))) (st2 := s158) (law_MX E oM aM s158 s163) ?_
      refine v_icmp_eq 1452 836 cx dL_law_833 (by decide) rfl h (fun h => ?_) (fun h => by cases h)
      refine v_iinc 1455 3 (fun a164 => [(3, .int a164), (0, .ref b), (1, .ref (oX E 0)), (2, .ref oM)]) cx dL_law_1452 rfl ic_6 (by decide) (fun _ => rfl) rfl h (fun a164 h => ?_)
      refine v_goto 18 cx dL_law_1455 (by decide) ?_
      cases h
      have hk : Vat C (wX (xR E (RM E oM aM s163))) 4 18 [(0, .ref b), (1, .ref (oX E 0)), (2, .ref oM), (3, .int a164)] [] s158 := hk
      exact v_lsub (lv' := [(0, .ref b), (1, .ref (oX E 0)), (2, .ref oM), (3, .int a164)]) [1, 2, 3, 0] rfl hk
    · refine v_iconst 826 cx dL_law_825 ic_1 rfl ?_
      refine v_goto 830 cx dL_law_826 (by decide) ?_
      refine v_perm (wl2 := wM (eM E oM aM (RX E s158))) (st2 := sm) (law_XM E oM aM s158 sm) ?_
      refine v_callVI 833 0 cx dL_law_830 km_L_84 ca_X12_row (wMo_0 (eM E oM aM (RX E s158)) sm) rfl (c_X12_row C.2.1 (eM E oM aM (RX E s158)) sm v159 v160 1 ) rfl (by decide) rfl (Nat.le_of_ble_eq_true rfl) rfl h (fun v165 s166 h => ?_)
      refine v_perm (wl2 := wX (xR E (RM E oM aM s166))) (st2 := s158) (law_MX E oM aM s158 s166) ?_
      refine v_icmp_eq 1452 836 cx dL_law_833 (by decide) rfl h (fun h => ?_) (fun h => by cases h)
      refine v_iinc 1455 3 (fun a167 => [(3, .int a167), (0, .ref b), (1, .ref (oX E 0)), (2, .ref oM)]) cx dL_law_1452 rfl ic_6 (by decide) (fun _ => rfl) rfl h (fun a167 h => ?_)
      refine v_goto 18 cx dL_law_1455 (by decide) ?_
      cases h
      have hk : Vat C (wX (xR E (RM E oM aM s166))) 4 18 [(0, .ref b), (1, .ref (oX E 0)), (2, .ref oM), (3, .int a167)] [] s158 := hk
      exact v_lsub (lv' := [(0, .ref b), (1, .ref (oX E 0)), (2, .ref oM), (3, .int a167)]) [1, 2, 3, 0] rfl hk
def m_law_c15 (xs : Nat → Int32) (L : Nat) (x3 : Int32) (sx sm : Sg) : Option ((Int32 × Sg × Sg) ⊕ (Sg × Sg)) :=
  sck xs L (x3 + 1) fun v168 =>
  clk (m_X11_empty v168 sx) fun v169 s170 =>
  sck xs L (x3 + 1) fun v171 =>
  clk (m_X12_empty v171 sm) fun v172 s173 =>
  if v169 = v172 then (nmk (x3 + 6) fun a174 =>
  some (.inl (a174, s170, s173))) else none
set_option maxHeartbeats 4000000 in
set_option maxRecDepth 100000 in
theorem j_law_c15 {C : Cm} {E : Ev} {oM : Nat} {aM : Nat → Nat} {b L : Nat} {xs : Nat → Int32} (cx : Cx C (tyE E) cL_law RL 4 9 334) (cl : CxL C b L xs) (x3 : Int32) (sx sm : Sg) (out : (Int32 × Sg × Sg) ⊕ (Sg × Sg)) (h : m_law_c15 xs L x3 sx sm = some out) (hk : Sum.elim (V_law C E oM aM b) (K_law C E oM aM b) out) : Vat C (wX (xR E (RM E oM aM sm))) 4 838 [(0, .ref b), (1, .ref (oX E 0)), (2, .ref oM), (3, .int x3)] [] sx := by
  unfold m_law_c15 at h
  refine v_aload_n 839 1 cx dL_law_838 rfl rfl rfl ?_
  refine v_aload_n 840 0 cx dL_law_839 rfl rfl rfl ?_
  refine v_iload_n 841 3 cx dL_law_840 rfl rfl rfl ?_
  refine v_iconst 842 cx dL_law_841 ic_1 rfl ?_
  refine v_iadd 843 cx dL_law_842 rfl ?_
  refine v_sld 844 cx cl dL_law_843 rfl h (fun v168 h => ?_)
  refine v_callVI 847 0 cx dL_law_844 km_L_85 ca_X11_empty (wXo_0 (xR E (RM E oM aM sm)) sx) rfl (c_X11_empty C.2.1 (xR E (RM E oM aM sm)) sx v168 ) rfl (by decide) rfl (Nat.le_of_ble_eq_true rfl) rfl h (fun v169 s170 h => ?_)
  refine v_aload_n 848 2 cx dL_law_847 rfl rfl rfl ?_
  refine v_aload_n 849 0 cx dL_law_848 rfl rfl rfl ?_
  refine v_iload_n 850 3 cx dL_law_849 rfl rfl rfl ?_
  refine v_iconst 851 cx dL_law_850 ic_1 rfl ?_
  refine v_iadd 852 cx dL_law_851 rfl ?_
  refine v_sld 853 cx cl dL_law_852 rfl h (fun v171 h => ?_)
  refine v_perm (wl2 := wM (eM E oM aM (RX E s170))) (st2 := sm) (law_XM E oM aM s170 sm) ?_
  refine v_callVI 856 0 cx dL_law_853 km_L_88 ca_X12_empty (wMo_0 (eM E oM aM (RX E s170)) sm) rfl (c_X12_empty C.2.1 (eM E oM aM (RX E s170)) sm v171 ) rfl (by decide) rfl (Nat.le_of_ble_eq_true rfl) rfl h (fun v172 s173 h => ?_)
  refine v_perm (wl2 := wX (xR E (RM E oM aM s173))) (st2 := s170) (law_MX E oM aM s170 s173) ?_
  refine v_icmp_eq 1452 859 cx dL_law_856 (by decide) rfl h (fun h => ?_) (fun h => by cases h)
  refine v_iinc 1455 3 (fun a174 => [(3, .int a174), (0, .ref b), (1, .ref (oX E 0)), (2, .ref oM)]) cx dL_law_1452 rfl ic_6 (by decide) (fun _ => rfl) rfl h (fun a174 h => ?_)
  refine v_goto 18 cx dL_law_1455 (by decide) ?_
  cases h
  have hk : Vat C (wX (xR E (RM E oM aM s173))) 4 18 [(0, .ref b), (1, .ref (oX E 0)), (2, .ref oM), (3, .int a174)] [] s170 := hk
  exact v_lsub (lv' := [(0, .ref b), (1, .ref (oX E 0)), (2, .ref oM), (3, .int a174)]) [1, 2, 3, 0] rfl hk
def m_law_c16 (xs : Nat → Int32) (L : Nat) (x3 : Int32) (sx sm : Sg) : Option ((Int32 × Sg × Sg) ⊕ (Sg × Sg)) :=
  sck xs L (x3 + 1) fun v175 =>
  sck xs L (x3 + 2) fun v176 =>
  sck xs L (x3 + 3) fun v177 =>
  sck xs L (x3 + 4) fun v178 =>
  clk (m_X11_set v175 v176 ((((v177 : Int32).toInt64) <<< ((32 : Int32).toInt64 &&& 63)) ||| (((v178 : Int32).toInt64) &&& 4294967295)) sx) fun v179 s180 =>
  sck xs L (x3 + 1) fun v181 =>
  sck xs L (x3 + 2) fun v182 =>
  sck xs L (x3 + 3) fun v183 =>
  sck xs L (x3 + 4) fun v184 =>
  clk (m_X12_set v181 v182 ((((v183 : Int32).toInt64) <<< ((32 : Int32).toInt64 &&& 63)) ||| (((v184 : Int32).toInt64) &&& 4294967295)) sm) fun v185 s186 =>
  if v179 = v185 then (nmk (x3 + 6) fun a187 =>
  some (.inl (a187, s180, s186))) else none
set_option maxHeartbeats 4000000 in
set_option maxRecDepth 100000 in
theorem j_law_c16 {C : Cm} {E : Ev} {oM : Nat} {aM : Nat → Nat} {b L : Nat} {xs : Nat → Int32} (cx : Cx C (tyE E) cL_law RL 4 9 334) (cl : CxL C b L xs) (x3 : Int32) (sx sm : Sg) (out : (Int32 × Sg × Sg) ⊕ (Sg × Sg)) (h : m_law_c16 xs L x3 sx sm = some out) (hk : Sum.elim (V_law C E oM aM b) (K_law C E oM aM b) out) : Vat C (wX (xR E (RM E oM aM sm))) 4 861 [(0, .ref b), (1, .ref (oX E 0)), (2, .ref oM), (3, .int x3)] [] sx := by
  unfold m_law_c16 at h
  refine v_aload_n 862 1 cx dL_law_861 rfl rfl rfl ?_
  refine v_aload_n 863 0 cx dL_law_862 rfl rfl rfl ?_
  refine v_iload_n 864 3 cx dL_law_863 rfl rfl rfl ?_
  refine v_iconst 865 cx dL_law_864 ic_1 rfl ?_
  refine v_iadd 866 cx dL_law_865 rfl ?_
  refine v_sld 867 cx cl dL_law_866 rfl h (fun v175 h => ?_)
  refine v_aload_n 868 0 cx dL_law_867 rfl rfl rfl ?_
  refine v_iload_n 869 3 cx dL_law_868 rfl rfl rfl ?_
  refine v_iconst 870 cx dL_law_869 ic_2 rfl ?_
  refine v_iadd 871 cx dL_law_870 rfl ?_
  refine v_sld 872 cx cl dL_law_871 rfl h (fun v176 h => ?_)
  refine v_aload_n 873 0 cx dL_law_872 rfl rfl rfl ?_
  refine v_iload_n 874 3 cx dL_law_873 rfl rfl rfl ?_
  refine v_iconst 875 cx dL_law_874 ic_3 rfl ?_
  refine v_iadd 876 cx dL_law_875 rfl ?_
  refine v_sld 877 cx cl dL_law_876 rfl h (fun v177 h => ?_)
  refine v_i2l 878 cx dL_law_877 rfl ?_
  refine v_bipush 880 cx dL_law_878 bp_32 rfl ?_
  refine v_lshl 881 cx dL_law_880 rfl ?_
  refine v_aload_n 882 0 cx dL_law_881 rfl rfl rfl ?_
  refine v_iload_n 883 3 cx dL_law_882 rfl rfl rfl ?_
  refine v_iconst 884 cx dL_law_883 ic_4 rfl ?_
  refine v_iadd 885 cx dL_law_884 rfl ?_
  refine v_sld 886 cx cl dL_law_885 rfl h (fun v178 h => ?_)
  refine v_i2l 887 cx dL_law_886 rfl ?_
  refine v_ldc2 890 cx dL_law_887 kc_L_13 rfl ?_
  refine v_land 891 cx dL_law_890 rfl ?_
  refine v_lor 892 cx dL_law_891 rfl ?_
  refine v_callVI 895 0 cx dL_law_892 km_L_89 ca_X11_set (wXo_0 (xR E (RM E oM aM sm)) sx) rfl (c_X11_set C.2.1 (xR E (RM E oM aM sm)) sx v175 v176 ((((v177 : Int32).toInt64) <<< ((32 : Int32).toInt64 &&& 63)) ||| (((v178 : Int32).toInt64) &&& 4294967295)) ) rfl (by decide) rfl (Nat.le_of_ble_eq_true rfl) rfl h (fun v179 s180 h => ?_)
  refine v_aload_n 896 2 cx dL_law_895 rfl rfl rfl ?_
  refine v_aload_n 897 0 cx dL_law_896 rfl rfl rfl ?_
  refine v_iload_n 898 3 cx dL_law_897 rfl rfl rfl ?_
  refine v_iconst 899 cx dL_law_898 ic_1 rfl ?_
  refine v_iadd 900 cx dL_law_899 rfl ?_
  refine v_sld 901 cx cl dL_law_900 rfl h (fun v181 h => ?_)
  refine v_aload_n 902 0 cx dL_law_901 rfl rfl rfl ?_
  refine v_iload_n 903 3 cx dL_law_902 rfl rfl rfl ?_
  refine v_iconst 904 cx dL_law_903 ic_2 rfl ?_
  refine v_iadd 905 cx dL_law_904 rfl ?_
  refine v_sld 906 cx cl dL_law_905 rfl h (fun v182 h => ?_)
  refine v_aload_n 907 0 cx dL_law_906 rfl rfl rfl ?_
  refine v_iload_n 908 3 cx dL_law_907 rfl rfl rfl ?_
  refine v_iconst 909 cx dL_law_908 ic_3 rfl ?_
  refine v_iadd 910 cx dL_law_909 rfl ?_
  refine v_sld 911 cx cl dL_law_910 rfl h (fun v183 h => ?_)
  refine v_i2l 912 cx dL_law_911 rfl ?_
  refine v_bipush 914 cx dL_law_912 bp_32 rfl ?_
  refine v_lshl 915 cx dL_law_914 rfl ?_
  refine v_aload_n 916 0 cx dL_law_915 rfl rfl rfl ?_
  refine v_iload_n 917 3 cx dL_law_916 rfl rfl rfl ?_
  refine v_iconst 918 cx dL_law_917 ic_4 rfl ?_
  refine v_iadd 919 cx dL_law_918 rfl ?_
  refine v_sld 920 cx cl dL_law_919 rfl h (fun v184 h => ?_)
  refine v_i2l 921 cx dL_law_920 rfl ?_
  refine v_ldc2 924 cx dL_law_921 kc_L_13 rfl ?_
  refine v_land 925 cx dL_law_924 rfl ?_
  refine v_lor 926 cx dL_law_925 rfl ?_
  refine v_perm (wl2 := wM (eM E oM aM (RX E s180))) (st2 := sm) (law_XM E oM aM s180 sm) ?_
  refine v_callVI 929 0 cx dL_law_926 km_L_93 ca_X12_set (wMo_0 (eM E oM aM (RX E s180)) sm) rfl (c_X12_set C.2.1 (eM E oM aM (RX E s180)) sm v181 v182 ((((v183 : Int32).toInt64) <<< ((32 : Int32).toInt64 &&& 63)) ||| (((v184 : Int32).toInt64) &&& 4294967295)) ) rfl (by decide) rfl (Nat.le_of_ble_eq_true rfl) rfl h (fun v185 s186 h => ?_)
  refine v_perm (wl2 := wX (xR E (RM E oM aM s186))) (st2 := s180) (law_MX E oM aM s180 s186) ?_
  refine v_icmp_eq 1452 932 cx dL_law_929 (by decide) rfl h (fun h => ?_) (fun h => by cases h)
  refine v_iinc 1455 3 (fun a187 => [(3, .int a187), (0, .ref b), (1, .ref (oX E 0)), (2, .ref oM)]) cx dL_law_1452 rfl ic_6 (by decide) (fun _ => rfl) rfl h (fun a187 h => ?_)
  refine v_goto 18 cx dL_law_1455 (by decide) ?_
  cases h
  have hk : Vat C (wX (xR E (RM E oM aM s186))) 4 18 [(0, .ref b), (1, .ref (oX E 0)), (2, .ref oM), (3, .int a187)] [] s180 := hk
  exact v_lsub (lv' := [(0, .ref b), (1, .ref (oX E 0)), (2, .ref oM), (3, .int a187)]) [1, 2, 3, 0] rfl hk
def m_law_c17 (xs : Nat → Int32) (L : Nat) (x3 : Int32) (sx sm : Sg) : Option ((Int32 × Sg × Sg) ⊕ (Sg × Sg)) :=
  sck xs L (x3 + 1) fun v188 =>
  sck xs L (x3 + 2) fun v189 =>
  clk (m_X11_get v188 v189 sx) fun v190 s191 =>
  sck xs L (x3 + 1) fun v192 =>
  sck xs L (x3 + 2) fun v193 =>
  clk (m_X12_get v192 v193 sm) fun v194 s195 =>
  if (lg_cmp v190 v194) = 0 then (nmk (x3 + 6) fun a196 =>
  some (.inl (a196, s191, s195))) else none
set_option maxHeartbeats 4000000 in
set_option maxRecDepth 100000 in
theorem j_law_c17 {C : Cm} {E : Ev} {oM : Nat} {aM : Nat → Nat} {b L : Nat} {xs : Nat → Int32} (cx : Cx C (tyE E) cL_law RL 4 9 334) (cl : CxL C b L xs) (x3 : Int32) (sx sm : Sg) (out : (Int32 × Sg × Sg) ⊕ (Sg × Sg)) (h : m_law_c17 xs L x3 sx sm = some out) (hk : Sum.elim (V_law C E oM aM b) (K_law C E oM aM b) out) : Vat C (wX (xR E (RM E oM aM sm))) 4 934 [(0, .ref b), (1, .ref (oX E 0)), (2, .ref oM), (3, .int x3)] [] sx := by
  unfold m_law_c17 at h
  refine v_aload_n 935 1 cx dL_law_934 rfl rfl rfl ?_
  refine v_aload_n 936 0 cx dL_law_935 rfl rfl rfl ?_
  refine v_iload_n 937 3 cx dL_law_936 rfl rfl rfl ?_
  refine v_iconst 938 cx dL_law_937 ic_1 rfl ?_
  refine v_iadd 939 cx dL_law_938 rfl ?_
  refine v_sld 940 cx cl dL_law_939 rfl h (fun v188 h => ?_)
  refine v_aload_n 941 0 cx dL_law_940 rfl rfl rfl ?_
  refine v_iload_n 942 3 cx dL_law_941 rfl rfl rfl ?_
  refine v_iconst 943 cx dL_law_942 ic_2 rfl ?_
  refine v_iadd 944 cx dL_law_943 rfl ?_
  refine v_sld 945 cx cl dL_law_944 rfl h (fun v189 h => ?_)
  refine v_callVL 948 0 cx dL_law_945 km_L_94 ca_X11_get (wXo_0 (xR E (RM E oM aM sm)) sx) rfl (c_X11_get C.2.1 (xR E (RM E oM aM sm)) sx v188 v189 ) rfl (by decide) rfl (Nat.le_of_ble_eq_true rfl) rfl h (fun v190 s191 h => ?_)
  refine v_aload_n 949 2 cx dL_law_948 rfl rfl rfl ?_
  refine v_aload_n 950 0 cx dL_law_949 rfl rfl rfl ?_
  refine v_iload_n 951 3 cx dL_law_950 rfl rfl rfl ?_
  refine v_iconst 952 cx dL_law_951 ic_1 rfl ?_
  refine v_iadd 953 cx dL_law_952 rfl ?_
  refine v_sld 954 cx cl dL_law_953 rfl h (fun v192 h => ?_)
  refine v_aload_n 955 0 cx dL_law_954 rfl rfl rfl ?_
  refine v_iload_n 956 3 cx dL_law_955 rfl rfl rfl ?_
  refine v_iconst 957 cx dL_law_956 ic_2 rfl ?_
  refine v_iadd 958 cx dL_law_957 rfl ?_
  refine v_sld 959 cx cl dL_law_958 rfl h (fun v193 h => ?_)
  refine v_perm (wl2 := wM (eM E oM aM (RX E s191))) (st2 := sm) (law_XM E oM aM s191 sm) ?_
  refine v_callVL 962 0 cx dL_law_959 km_L_98 ca_X12_get (wMo_0 (eM E oM aM (RX E s191)) sm) rfl (c_X12_get C.2.1 (eM E oM aM (RX E s191)) sm v192 v193 ) rfl (by decide) rfl (Nat.le_of_ble_eq_true rfl) rfl h (fun v194 s195 h => ?_)
  refine v_perm (wl2 := wX (xR E (RM E oM aM s195))) (st2 := s191) (law_MX E oM aM s191 s195) ?_
  refine v_lcmp 963 cx dL_law_962 rfl ?_
  refine v_if_eq 1452 966 cx dL_law_963 (by decide) rfl h (fun h => ?_) (fun h => by cases h)
  refine v_iinc 1455 3 (fun a196 => [(3, .int a196), (0, .ref b), (1, .ref (oX E 0)), (2, .ref oM)]) cx dL_law_1452 rfl ic_6 (by decide) (fun _ => rfl) rfl h (fun a196 h => ?_)
  refine v_goto 18 cx dL_law_1455 (by decide) ?_
  cases h
  have hk : Vat C (wX (xR E (RM E oM aM s195))) 4 18 [(0, .ref b), (1, .ref (oX E 0)), (2, .ref oM), (3, .int a196)] [] s191 := hk
  exact v_lsub (lv' := [(0, .ref b), (1, .ref (oX E 0)), (2, .ref oM), (3, .int a196)]) [1, 2, 3, 0] rfl hk
def m_law_c18 (xs : Nat → Int32) (L : Nat) (x3 : Int32) (sx sm : Sg) : Option ((Int32 × Sg × Sg) ⊕ (Sg × Sg)) :=
  sck xs L (x3 + 1) fun v197 =>
  sck xs L (x3 + 2) fun v198 =>
  sck xs L (x3 + 3) fun v199 =>
  sck xs L (x3 + 4) fun v200 =>
  sck xs L (x3 + 5) fun v201 =>
  clk (m_X11_copy v197 v198 v199 v200 v201 sx) fun v202 s203 =>
  sck xs L (x3 + 1) fun v204 =>
  sck xs L (x3 + 2) fun v205 =>
  sck xs L (x3 + 3) fun v206 =>
  sck xs L (x3 + 4) fun v207 =>
  sck xs L (x3 + 5) fun v208 =>
  clk (m_X12_copy v204 v205 v206 v207 v208 sm) fun v209 s210 =>
  if v202 = v209 then (nmk (x3 + 6) fun a211 =>
  some (.inl (a211, s203, s210))) else none
set_option maxHeartbeats 4000000 in
set_option maxRecDepth 100000 in
theorem j_law_c18 {C : Cm} {E : Ev} {oM : Nat} {aM : Nat → Nat} {b L : Nat} {xs : Nat → Int32} (cx : Cx C (tyE E) cL_law RL 4 9 334) (cl : CxL C b L xs) (x3 : Int32) (sx sm : Sg) (out : (Int32 × Sg × Sg) ⊕ (Sg × Sg)) (h : m_law_c18 xs L x3 sx sm = some out) (hk : Sum.elim (V_law C E oM aM b) (K_law C E oM aM b) out) : Vat C (wX (xR E (RM E oM aM sm))) 4 968 [(0, .ref b), (1, .ref (oX E 0)), (2, .ref oM), (3, .int x3)] [] sx := by
  unfold m_law_c18 at h
  refine v_aload_n 969 1 cx dL_law_968 rfl rfl rfl ?_
  refine v_aload_n 970 0 cx dL_law_969 rfl rfl rfl ?_
  refine v_iload_n 971 3 cx dL_law_970 rfl rfl rfl ?_
  refine v_iconst 972 cx dL_law_971 ic_1 rfl ?_
  refine v_iadd 973 cx dL_law_972 rfl ?_
  refine v_sld 974 cx cl dL_law_973 rfl h (fun v197 h => ?_)
  refine v_aload_n 975 0 cx dL_law_974 rfl rfl rfl ?_
  refine v_iload_n 976 3 cx dL_law_975 rfl rfl rfl ?_
  refine v_iconst 977 cx dL_law_976 ic_2 rfl ?_
  refine v_iadd 978 cx dL_law_977 rfl ?_
  refine v_sld 979 cx cl dL_law_978 rfl h (fun v198 h => ?_)
  refine v_aload_n 980 0 cx dL_law_979 rfl rfl rfl ?_
  refine v_iload_n 981 3 cx dL_law_980 rfl rfl rfl ?_
  refine v_iconst 982 cx dL_law_981 ic_3 rfl ?_
  refine v_iadd 983 cx dL_law_982 rfl ?_
  refine v_sld 984 cx cl dL_law_983 rfl h (fun v199 h => ?_)
  refine v_aload_n 985 0 cx dL_law_984 rfl rfl rfl ?_
  refine v_iload_n 986 3 cx dL_law_985 rfl rfl rfl ?_
  refine v_iconst 987 cx dL_law_986 ic_4 rfl ?_
  refine v_iadd 988 cx dL_law_987 rfl ?_
  refine v_sld 989 cx cl dL_law_988 rfl h (fun v200 h => ?_)
  refine v_aload_n 990 0 cx dL_law_989 rfl rfl rfl ?_
  refine v_iload_n 991 3 cx dL_law_990 rfl rfl rfl ?_
  refine v_iconst 992 cx dL_law_991 ic_5 rfl ?_
  refine v_iadd 993 cx dL_law_992 rfl ?_
  refine v_sld 994 cx cl dL_law_993 rfl h (fun v201 h => ?_)
  refine v_callVI 997 0 cx dL_law_994 km_L_99 ca_X11_copy (wXo_0 (xR E (RM E oM aM sm)) sx) rfl (c_X11_copy C.2.1 (xR E (RM E oM aM sm)) sx v197 v198 v199 v200 v201 ) rfl (by decide) rfl (Nat.le_of_ble_eq_true rfl) rfl h (fun v202 s203 h => ?_)
  refine v_aload_n 998 2 cx dL_law_997 rfl rfl rfl ?_
  refine v_aload_n 999 0 cx dL_law_998 rfl rfl rfl ?_
  refine v_iload_n 1000 3 cx dL_law_999 rfl rfl rfl ?_
  refine v_iconst 1001 cx dL_law_1000 ic_1 rfl ?_
  refine v_iadd 1002 cx dL_law_1001 rfl ?_
  refine v_sld 1003 cx cl dL_law_1002 rfl h (fun v204 h => ?_)
  refine v_aload_n 1004 0 cx dL_law_1003 rfl rfl rfl ?_
  refine v_iload_n 1005 3 cx dL_law_1004 rfl rfl rfl ?_
  refine v_iconst 1006 cx dL_law_1005 ic_2 rfl ?_
  refine v_iadd 1007 cx dL_law_1006 rfl ?_
  refine v_sld 1008 cx cl dL_law_1007 rfl h (fun v205 h => ?_)
  refine v_aload_n 1009 0 cx dL_law_1008 rfl rfl rfl ?_
  refine v_iload_n 1010 3 cx dL_law_1009 rfl rfl rfl ?_
  refine v_iconst 1011 cx dL_law_1010 ic_3 rfl ?_
  refine v_iadd 1012 cx dL_law_1011 rfl ?_
  refine v_sld 1013 cx cl dL_law_1012 rfl h (fun v206 h => ?_)
  refine v_aload_n 1014 0 cx dL_law_1013 rfl rfl rfl ?_
  refine v_iload_n 1015 3 cx dL_law_1014 rfl rfl rfl ?_
  refine v_iconst 1016 cx dL_law_1015 ic_4 rfl ?_
  refine v_iadd 1017 cx dL_law_1016 rfl ?_
  refine v_sld 1018 cx cl dL_law_1017 rfl h (fun v207 h => ?_)
  refine v_aload_n 1019 0 cx dL_law_1018 rfl rfl rfl ?_
  refine v_iload_n 1020 3 cx dL_law_1019 rfl rfl rfl ?_
  refine v_iconst 1021 cx dL_law_1020 ic_5 rfl ?_
  refine v_iadd 1022 cx dL_law_1021 rfl ?_
  refine v_sld 1023 cx cl dL_law_1022 rfl h (fun v208 h => ?_)
  refine v_perm (wl2 := wM (eM E oM aM (RX E s203))) (st2 := sm) (law_XM E oM aM s203 sm) ?_
  refine v_callVI 1026 0 cx dL_law_1023 km_L_102 ca_X12_copy (wMo_0 (eM E oM aM (RX E s203)) sm) rfl (c_X12_copy C.2.1 (eM E oM aM (RX E s203)) sm v204 v205 v206 v207 v208 ) rfl (by decide) rfl (Nat.le_of_ble_eq_true rfl) rfl h (fun v209 s210 h => ?_)
  refine v_perm (wl2 := wX (xR E (RM E oM aM s210))) (st2 := s203) (law_MX E oM aM s203 s210) ?_
  refine v_icmp_eq 1452 1029 cx dL_law_1026 (by decide) rfl h (fun h => ?_) (fun h => by cases h)
  refine v_iinc 1455 3 (fun a211 => [(3, .int a211), (0, .ref b), (1, .ref (oX E 0)), (2, .ref oM)]) cx dL_law_1452 rfl ic_6 (by decide) (fun _ => rfl) rfl h (fun a211 h => ?_)
  refine v_goto 18 cx dL_law_1455 (by decide) ?_
  cases h
  have hk : Vat C (wX (xR E (RM E oM aM s210))) 4 18 [(0, .ref b), (1, .ref (oX E 0)), (2, .ref oM), (3, .int a211)] [] s203 := hk
  exact v_lsub (lv' := [(0, .ref b), (1, .ref (oX E 0)), (2, .ref oM), (3, .int a211)]) [1, 2, 3, 0] rfl hk
def m_law_c19 (xs : Nat → Int32) (L : Nat) (x3 : Int32) (sx sm : Sg) : Option ((Int32 × Sg × Sg) ⊕ (Sg × Sg)) :=
  clk (m_X11_lowest sx) fun v212 s213 =>
  clk (m_X12_lowest sm) fun v214 s215 =>
  if v212 = v214 then (nmk (x3 + 6) fun a216 =>
  some (.inl (a216, s213, s215))) else none
set_option maxHeartbeats 4000000 in
set_option maxRecDepth 100000 in
theorem j_law_c19 {C : Cm} {E : Ev} {oM : Nat} {aM : Nat → Nat} {b L : Nat} {xs : Nat → Int32} (cx : Cx C (tyE E) cL_law RL 4 9 334) (cl : CxL C b L xs) (x3 : Int32) (sx sm : Sg) (out : (Int32 × Sg × Sg) ⊕ (Sg × Sg)) (h : m_law_c19 xs L x3 sx sm = some out) (hk : Sum.elim (V_law C E oM aM b) (K_law C E oM aM b) out) : Vat C (wX (xR E (RM E oM aM sm))) 4 1031 [(0, .ref b), (1, .ref (oX E 0)), (2, .ref oM), (3, .int x3)] [] sx := by
  unfold m_law_c19 at h
  refine v_aload_n 1032 1 cx dL_law_1031 rfl rfl rfl ?_
  refine v_callVI 1035 0 cx dL_law_1032 km_L_103 ca_X11_lowest (wXo_0 (xR E (RM E oM aM sm)) sx) rfl (c_X11_lowest C.2.1 (xR E (RM E oM aM sm)) sx ) rfl (by decide) rfl (Nat.le_of_ble_eq_true rfl) rfl h (fun v212 s213 h => ?_)
  refine v_aload_n 1036 2 cx dL_law_1035 rfl rfl rfl ?_
  refine v_perm (wl2 := wM (eM E oM aM (RX E s213))) (st2 := sm) (law_XM E oM aM s213 sm) ?_
  refine v_callVI 1039 0 cx dL_law_1036 km_L_106 ca_X12_lowest (wMo_0 (eM E oM aM (RX E s213)) sm) rfl (c_X12_lowest C.2.1 (eM E oM aM (RX E s213)) sm ) rfl (by decide) rfl (Nat.le_of_ble_eq_true rfl) rfl h (fun v214 s215 h => ?_)
  refine v_perm (wl2 := wX (xR E (RM E oM aM s215))) (st2 := s213) (law_MX E oM aM s213 s215) ?_
  refine v_icmp_eq 1452 1042 cx dL_law_1039 (by decide) rfl h (fun h => ?_) (fun h => by cases h)
  refine v_iinc 1455 3 (fun a216 => [(3, .int a216), (0, .ref b), (1, .ref (oX E 0)), (2, .ref oM)]) cx dL_law_1452 rfl ic_6 (by decide) (fun _ => rfl) rfl h (fun a216 h => ?_)
  refine v_goto 18 cx dL_law_1455 (by decide) ?_
  cases h
  have hk : Vat C (wX (xR E (RM E oM aM s215))) 4 18 [(0, .ref b), (1, .ref (oX E 0)), (2, .ref oM), (3, .int a216)] [] s213 := hk
  exact v_lsub (lv' := [(0, .ref b), (1, .ref (oX E 0)), (2, .ref oM), (3, .int a216)]) [1, 2, 3, 0] rfl hk
def m_law_c20 (xs : Nat → Int32) (L : Nat) (x3 : Int32) (sx sm : Sg) : Option ((Int32 × Sg × Sg) ⊕ (Sg × Sg)) :=
  clk (m_X11_lay sx) fun v217 s218 =>
  clk (m_X12_lay sm) fun v219 s220 =>
  if v217 = v219 then (nmk (x3 + 6) fun a221 =>
  some (.inl (a221, s218, s220))) else none
set_option maxHeartbeats 4000000 in
set_option maxRecDepth 100000 in
theorem j_law_c20 {C : Cm} {E : Ev} {oM : Nat} {aM : Nat → Nat} {b L : Nat} {xs : Nat → Int32} (cx : Cx C (tyE E) cL_law RL 4 9 334) (cl : CxL C b L xs) (x3 : Int32) (sx sm : Sg) (out : (Int32 × Sg × Sg) ⊕ (Sg × Sg)) (h : m_law_c20 xs L x3 sx sm = some out) (hk : Sum.elim (V_law C E oM aM b) (K_law C E oM aM b) out) : Vat C (wX (xR E (RM E oM aM sm))) 4 1044 [(0, .ref b), (1, .ref (oX E 0)), (2, .ref oM), (3, .int x3)] [] sx := by
  unfold m_law_c20 at h
  refine v_aload_n 1045 1 cx dL_law_1044 rfl rfl rfl ?_
  refine v_callVI 1048 0 cx dL_law_1045 km_L_107 ca_X11_lay (wXo_0 (xR E (RM E oM aM sm)) sx) rfl (c_X11_lay C.2.1 (xR E (RM E oM aM sm)) sx ) rfl (by decide) rfl (Nat.le_of_ble_eq_true rfl) rfl h (fun v217 s218 h => ?_)
  refine v_aload_n 1049 2 cx dL_law_1048 rfl rfl rfl ?_
  refine v_perm (wl2 := wM (eM E oM aM (RX E s218))) (st2 := sm) (law_XM E oM aM s218 sm) ?_
  refine v_callVI 1052 0 cx dL_law_1049 km_L_110 ca_X12_lay (wMo_0 (eM E oM aM (RX E s218)) sm) rfl (c_X12_lay C.2.1 (eM E oM aM (RX E s218)) sm ) rfl (by decide) rfl (Nat.le_of_ble_eq_true rfl) rfl h (fun v219 s220 h => ?_)
  refine v_perm (wl2 := wX (xR E (RM E oM aM s220))) (st2 := s218) (law_MX E oM aM s218 s220) ?_
  refine v_icmp_eq 1452 1055 cx dL_law_1052 (by decide) rfl h (fun h => ?_) (fun h => by cases h)
  refine v_iinc 1455 3 (fun a221 => [(3, .int a221), (0, .ref b), (1, .ref (oX E 0)), (2, .ref oM)]) cx dL_law_1452 rfl ic_6 (by decide) (fun _ => rfl) rfl h (fun a221 h => ?_)
  refine v_goto 18 cx dL_law_1455 (by decide) ?_
  cases h
  have hk : Vat C (wX (xR E (RM E oM aM s220))) 4 18 [(0, .ref b), (1, .ref (oX E 0)), (2, .ref oM), (3, .int a221)] [] s218 := hk
  exact v_lsub (lv' := [(0, .ref b), (1, .ref (oX E 0)), (2, .ref oM), (3, .int a221)]) [1, 2, 3, 0] rfl hk
def m_law_c21 (xs : Nat → Int32) (L : Nat) (x3 : Int32) (sx sm : Sg) : Option ((Int32 × Sg × Sg) ⊕ (Sg × Sg)) :=
  sck xs L (x3 + 1) fun v222 =>
  clk (m_X11_prove v222 sx) fun v223 s224 =>
  sck xs L (x3 + 1) fun v225 =>
  clk (m_X12_prove v225 sm) fun v226 s227 =>
  if v223 = v226 then (nmk (x3 + 6) fun a228 =>
  some (.inl (a228, s224, s227))) else none
set_option maxHeartbeats 4000000 in
set_option maxRecDepth 100000 in
theorem j_law_c21 {C : Cm} {E : Ev} {oM : Nat} {aM : Nat → Nat} {b L : Nat} {xs : Nat → Int32} (cx : Cx C (tyE E) cL_law RL 4 9 334) (cl : CxL C b L xs) (x3 : Int32) (sx sm : Sg) (out : (Int32 × Sg × Sg) ⊕ (Sg × Sg)) (h : m_law_c21 xs L x3 sx sm = some out) (hk : Sum.elim (V_law C E oM aM b) (K_law C E oM aM b) out) : Vat C (wX (xR E (RM E oM aM sm))) 4 1057 [(0, .ref b), (1, .ref (oX E 0)), (2, .ref oM), (3, .int x3)] [] sx := by
  unfold m_law_c21 at h
  refine v_aload_n 1058 1 cx dL_law_1057 rfl rfl rfl ?_
  refine v_aload_n 1059 0 cx dL_law_1058 rfl rfl rfl ?_
  refine v_iload_n 1060 3 cx dL_law_1059 rfl rfl rfl ?_
  refine v_iconst 1061 cx dL_law_1060 ic_1 rfl ?_
  refine v_iadd 1062 cx dL_law_1061 rfl ?_
  refine v_sld 1063 cx cl dL_law_1062 rfl h (fun v222 h => ?_)
  refine v_callVI 1066 0 cx dL_law_1063 km_L_111 ca_X11_prove (wXo_0 (xR E (RM E oM aM sm)) sx) rfl (c_X11_prove C.2.1 (xR E (RM E oM aM sm)) sx v222 ) rfl (by decide) rfl (Nat.le_of_ble_eq_true rfl) rfl h (fun v223 s224 h => ?_)
  refine v_aload_n 1067 2 cx dL_law_1066 rfl rfl rfl ?_
  refine v_aload_n 1068 0 cx dL_law_1067 rfl rfl rfl ?_
  refine v_iload_n 1069 3 cx dL_law_1068 rfl rfl rfl ?_
  refine v_iconst 1070 cx dL_law_1069 ic_1 rfl ?_
  refine v_iadd 1071 cx dL_law_1070 rfl ?_
  refine v_sld 1072 cx cl dL_law_1071 rfl h (fun v225 h => ?_)
  refine v_perm (wl2 := wM (eM E oM aM (RX E s224))) (st2 := sm) (law_XM E oM aM s224 sm) ?_
  refine v_callVI 1075 0 cx dL_law_1072 km_L_114 ca_X12_prove (wMo_0 (eM E oM aM (RX E s224)) sm) rfl (c_X12_prove C.2.1 (eM E oM aM (RX E s224)) sm v225 ) rfl (by decide) rfl (Nat.le_of_ble_eq_true rfl) rfl h (fun v226 s227 h => ?_)
  refine v_perm (wl2 := wX (xR E (RM E oM aM s227))) (st2 := s224) (law_MX E oM aM s224 s227) ?_
  refine v_icmp_eq 1452 1078 cx dL_law_1075 (by decide) rfl h (fun h => ?_) (fun h => by cases h)
  refine v_iinc 1455 3 (fun a228 => [(3, .int a228), (0, .ref b), (1, .ref (oX E 0)), (2, .ref oM)]) cx dL_law_1452 rfl ic_6 (by decide) (fun _ => rfl) rfl h (fun a228 h => ?_)
  refine v_goto 18 cx dL_law_1455 (by decide) ?_
  cases h
  have hk : Vat C (wX (xR E (RM E oM aM s227))) 4 18 [(0, .ref b), (1, .ref (oX E 0)), (2, .ref oM), (3, .int a228)] [] s224 := hk
  exact v_lsub (lv' := [(0, .ref b), (1, .ref (oX E 0)), (2, .ref oM), (3, .int a228)]) [1, 2, 3, 0] rfl hk
def m_law_c22 (xs : Nat → Int32) (L : Nat) (x3 : Int32) (sx sm : Sg) : Option ((Int32 × Sg × Sg) ⊕ (Sg × Sg)) :=
  clk (m_X11_trials sx) fun v229 s230 =>
  clk (m_X12_trials sm) fun v231 s232 =>
  if v229 = v231 then (nmk (x3 + 6) fun a233 =>
  some (.inl (a233, s230, s232))) else none
set_option maxHeartbeats 4000000 in
set_option maxRecDepth 100000 in
theorem j_law_c22 {C : Cm} {E : Ev} {oM : Nat} {aM : Nat → Nat} {b L : Nat} {xs : Nat → Int32} (cx : Cx C (tyE E) cL_law RL 4 9 334) (cl : CxL C b L xs) (x3 : Int32) (sx sm : Sg) (out : (Int32 × Sg × Sg) ⊕ (Sg × Sg)) (h : m_law_c22 xs L x3 sx sm = some out) (hk : Sum.elim (V_law C E oM aM b) (K_law C E oM aM b) out) : Vat C (wX (xR E (RM E oM aM sm))) 4 1080 [(0, .ref b), (1, .ref (oX E 0)), (2, .ref oM), (3, .int x3)] [] sx := by
  unfold m_law_c22 at h
  refine v_aload_n 1081 1 cx dL_law_1080 rfl rfl rfl ?_
  refine v_callVI 1084 0 cx dL_law_1081 km_L_115 ca_X11_trials (wXo_0 (xR E (RM E oM aM sm)) sx) rfl (c_X11_trials C.2.1 (xR E (RM E oM aM sm)) sx ) rfl (by decide) rfl (Nat.le_of_ble_eq_true rfl) rfl h (fun v229 s230 h => ?_)
  refine v_aload_n 1085 2 cx dL_law_1084 rfl rfl rfl ?_
  refine v_perm (wl2 := wM (eM E oM aM (RX E s230))) (st2 := sm) (law_XM E oM aM s230 sm) ?_
  refine v_callVI 1088 0 cx dL_law_1085 km_L_118 ca_X12_trials (wMo_0 (eM E oM aM (RX E s230)) sm) rfl (c_X12_trials C.2.1 (eM E oM aM (RX E s230)) sm ) rfl (by decide) rfl (Nat.le_of_ble_eq_true rfl) rfl h (fun v231 s232 h => ?_)
  refine v_perm (wl2 := wX (xR E (RM E oM aM s232))) (st2 := s230) (law_MX E oM aM s230 s232) ?_
  refine v_icmp_eq 1452 1091 cx dL_law_1088 (by decide) rfl h (fun h => ?_) (fun h => by cases h)
  refine v_iinc 1455 3 (fun a233 => [(3, .int a233), (0, .ref b), (1, .ref (oX E 0)), (2, .ref oM)]) cx dL_law_1452 rfl ic_6 (by decide) (fun _ => rfl) rfl h (fun a233 h => ?_)
  refine v_goto 18 cx dL_law_1455 (by decide) ?_
  cases h
  have hk : Vat C (wX (xR E (RM E oM aM s232))) 4 18 [(0, .ref b), (1, .ref (oX E 0)), (2, .ref oM), (3, .int a233)] [] s230 := hk
  exact v_lsub (lv' := [(0, .ref b), (1, .ref (oX E 0)), (2, .ref oM), (3, .int a233)]) [1, 2, 3, 0] rfl hk
def m_law_c23 (xs : Nat → Int32) (L : Nat) (x3 : Int32) (sx sm : Sg) : Option ((Int32 × Sg × Sg) ⊕ (Sg × Sg)) :=
  sck xs L (x3 + 1) fun v234 =>
  clk (m_X11_laying v234 sx) fun v235 s236 =>
  sck xs L (x3 + 1) fun v237 =>
  clk (m_X12_laying v237 sm) fun v238 s239 =>
  if v235 = v238 then (nmk (x3 + 6) fun a240 =>
  some (.inl (a240, s236, s239))) else none
set_option maxHeartbeats 4000000 in
set_option maxRecDepth 100000 in
theorem j_law_c23 {C : Cm} {E : Ev} {oM : Nat} {aM : Nat → Nat} {b L : Nat} {xs : Nat → Int32} (cx : Cx C (tyE E) cL_law RL 4 9 334) (cl : CxL C b L xs) (x3 : Int32) (sx sm : Sg) (out : (Int32 × Sg × Sg) ⊕ (Sg × Sg)) (h : m_law_c23 xs L x3 sx sm = some out) (hk : Sum.elim (V_law C E oM aM b) (K_law C E oM aM b) out) : Vat C (wX (xR E (RM E oM aM sm))) 4 1093 [(0, .ref b), (1, .ref (oX E 0)), (2, .ref oM), (3, .int x3)] [] sx := by
  unfold m_law_c23 at h
  refine v_aload_n 1094 1 cx dL_law_1093 rfl rfl rfl ?_
  refine v_aload_n 1095 0 cx dL_law_1094 rfl rfl rfl ?_
  refine v_iload_n 1096 3 cx dL_law_1095 rfl rfl rfl ?_
  refine v_iconst 1097 cx dL_law_1096 ic_1 rfl ?_
  refine v_iadd 1098 cx dL_law_1097 rfl ?_
  refine v_sld 1099 cx cl dL_law_1098 rfl h (fun v234 h => ?_)
  refine v_callVI 1102 0 cx dL_law_1099 km_L_119 ca_X11_laying (wXo_0 (xR E (RM E oM aM sm)) sx) rfl (c_X11_laying C.2.1 (xR E (RM E oM aM sm)) sx v234 ) rfl (by decide) rfl (Nat.le_of_ble_eq_true rfl) rfl h (fun v235 s236 h => ?_)
  refine v_aload_n 1103 2 cx dL_law_1102 rfl rfl rfl ?_
  refine v_aload_n 1104 0 cx dL_law_1103 rfl rfl rfl ?_
  refine v_iload_n 1105 3 cx dL_law_1104 rfl rfl rfl ?_
  refine v_iconst 1106 cx dL_law_1105 ic_1 rfl ?_
  refine v_iadd 1107 cx dL_law_1106 rfl ?_
  refine v_sld 1108 cx cl dL_law_1107 rfl h (fun v237 h => ?_)
  refine v_perm (wl2 := wM (eM E oM aM (RX E s236))) (st2 := sm) (law_XM E oM aM s236 sm) ?_
  refine v_callVI 1111 0 cx dL_law_1108 km_L_122 ca_X12_laying (wMo_0 (eM E oM aM (RX E s236)) sm) rfl (c_X12_laying C.2.1 (eM E oM aM (RX E s236)) sm v237 ) rfl (by decide) rfl (Nat.le_of_ble_eq_true rfl) rfl h (fun v238 s239 h => ?_)
  refine v_perm (wl2 := wX (xR E (RM E oM aM s239))) (st2 := s236) (law_MX E oM aM s236 s239) ?_
  refine v_icmp_eq 1452 1114 cx dL_law_1111 (by decide) rfl h (fun h => ?_) (fun h => by cases h)
  refine v_iinc 1455 3 (fun a240 => [(3, .int a240), (0, .ref b), (1, .ref (oX E 0)), (2, .ref oM)]) cx dL_law_1452 rfl ic_6 (by decide) (fun _ => rfl) rfl h (fun a240 h => ?_)
  refine v_goto 18 cx dL_law_1455 (by decide) ?_
  cases h
  have hk : Vat C (wX (xR E (RM E oM aM s239))) 4 18 [(0, .ref b), (1, .ref (oX E 0)), (2, .ref oM), (3, .int a240)] [] s236 := hk
  exact v_lsub (lv' := [(0, .ref b), (1, .ref (oX E 0)), (2, .ref oM), (3, .int a240)]) [1, 2, 3, 0] rfl hk
def m_law_c24 (xs : Nat → Int32) (L : Nat) (x3 : Int32) (sx sm : Sg) : Option ((Int32 × Sg × Sg) ⊕ (Sg × Sg)) :=
  sck xs L (x3 + 1) fun v241 =>
  sck xs L (x3 + 2) fun v242 =>
  clk (m_X11_tick v241 v242 sx) fun v243 s244 =>
  sck xs L (x3 + 1) fun v245 =>
  sck xs L (x3 + 2) fun v246 =>
  clk (m_X12_tick v245 v246 sm) fun v247 s248 =>
  if v243 = v247 then (nmk (x3 + 6) fun a249 =>
  some (.inl (a249, s244, s248))) else none
set_option maxHeartbeats 4000000 in
set_option maxRecDepth 100000 in
theorem j_law_c24 {C : Cm} {E : Ev} {oM : Nat} {aM : Nat → Nat} {b L : Nat} {xs : Nat → Int32} (cx : Cx C (tyE E) cL_law RL 4 9 334) (cl : CxL C b L xs) (x3 : Int32) (sx sm : Sg) (out : (Int32 × Sg × Sg) ⊕ (Sg × Sg)) (h : m_law_c24 xs L x3 sx sm = some out) (hk : Sum.elim (V_law C E oM aM b) (K_law C E oM aM b) out) : Vat C (wX (xR E (RM E oM aM sm))) 4 1116 [(0, .ref b), (1, .ref (oX E 0)), (2, .ref oM), (3, .int x3)] [] sx := by
  unfold m_law_c24 at h
  refine v_aload_n 1117 1 cx dL_law_1116 rfl rfl rfl ?_
  refine v_aload_n 1118 0 cx dL_law_1117 rfl rfl rfl ?_
  refine v_iload_n 1119 3 cx dL_law_1118 rfl rfl rfl ?_
  refine v_iconst 1120 cx dL_law_1119 ic_1 rfl ?_
  refine v_iadd 1121 cx dL_law_1120 rfl ?_
  refine v_sld 1122 cx cl dL_law_1121 rfl h (fun v241 h => ?_)
  refine v_aload_n 1123 0 cx dL_law_1122 rfl rfl rfl ?_
  refine v_iload_n 1124 3 cx dL_law_1123 rfl rfl rfl ?_
  refine v_iconst 1125 cx dL_law_1124 ic_2 rfl ?_
  refine v_iadd 1126 cx dL_law_1125 rfl ?_
  refine v_sld 1127 cx cl dL_law_1126 rfl h (fun v242 h => ?_)
  refine v_callVI 1130 0 cx dL_law_1127 km_L_123 ca_X11_tick (wXo_0 (xR E (RM E oM aM sm)) sx) rfl (c_X11_tick C.2.1 (xR E (RM E oM aM sm)) sx v241 v242 ) rfl (by decide) rfl (Nat.le_of_ble_eq_true rfl) rfl h (fun v243 s244 h => ?_)
  refine v_aload_n 1131 2 cx dL_law_1130 rfl rfl rfl ?_
  refine v_aload_n 1132 0 cx dL_law_1131 rfl rfl rfl ?_
  refine v_iload_n 1133 3 cx dL_law_1132 rfl rfl rfl ?_
  refine v_iconst 1134 cx dL_law_1133 ic_1 rfl ?_
  refine v_iadd 1135 cx dL_law_1134 rfl ?_
  refine v_sld 1136 cx cl dL_law_1135 rfl h (fun v245 h => ?_)
  refine v_aload_n 1137 0 cx dL_law_1136 rfl rfl rfl ?_
  refine v_iload_n 1138 3 cx dL_law_1137 rfl rfl rfl ?_
  refine v_iconst 1139 cx dL_law_1138 ic_2 rfl ?_
  refine v_iadd 1140 cx dL_law_1139 rfl ?_
  refine v_sld 1141 cx cl dL_law_1140 rfl h (fun v246 h => ?_)
  refine v_perm (wl2 := wM (eM E oM aM (RX E s244))) (st2 := sm) (law_XM E oM aM s244 sm) ?_
  refine v_callVI 1144 0 cx dL_law_1141 km_L_126 ca_X12_tick (wMo_0 (eM E oM aM (RX E s244)) sm) rfl (c_X12_tick C.2.1 (eM E oM aM (RX E s244)) sm v245 v246 ) rfl (by decide) rfl (Nat.le_of_ble_eq_true rfl) rfl h (fun v247 s248 h => ?_)
  refine v_perm (wl2 := wX (xR E (RM E oM aM s248))) (st2 := s244) (law_MX E oM aM s244 s248) ?_
  refine v_icmp_eq 1452 1147 cx dL_law_1144 (by decide) rfl h (fun h => ?_) (fun h => by cases h)
  refine v_iinc 1455 3 (fun a249 => [(3, .int a249), (0, .ref b), (1, .ref (oX E 0)), (2, .ref oM)]) cx dL_law_1452 rfl ic_6 (by decide) (fun _ => rfl) rfl h (fun a249 h => ?_)
  refine v_goto 18 cx dL_law_1455 (by decide) ?_
  cases h
  have hk : Vat C (wX (xR E (RM E oM aM s248))) 4 18 [(0, .ref b), (1, .ref (oX E 0)), (2, .ref oM), (3, .int a249)] [] s244 := hk
  exact v_lsub (lv' := [(0, .ref b), (1, .ref (oX E 0)), (2, .ref oM), (3, .int a249)]) [1, 2, 3, 0] rfl hk
def m_law_c25 (xs : Nat → Int32) (L : Nat) (x3 : Int32) (sx sm : Sg) : Option ((Int32 × Sg × Sg) ⊕ (Sg × Sg)) :=
  sck xs L (x3 + 1) fun v250 =>
  sck xs L (x3 + 2) fun v251 =>
  clk (m_X11_filled v250 v251 sx) fun v252 s253 =>
  sck xs L (x3 + 1) fun v254 =>
  sck xs L (x3 + 2) fun v255 =>
  clk (m_X12_filled v254 v255 sm) fun v256 s257 =>
  if v252 = v256 then (nmk (x3 + 6) fun a258 =>
  some (.inl (a258, s253, s257))) else none
set_option maxHeartbeats 4000000 in
set_option maxRecDepth 100000 in
theorem j_law_c25 {C : Cm} {E : Ev} {oM : Nat} {aM : Nat → Nat} {b L : Nat} {xs : Nat → Int32} (cx : Cx C (tyE E) cL_law RL 4 9 334) (cl : CxL C b L xs) (x3 : Int32) (sx sm : Sg) (out : (Int32 × Sg × Sg) ⊕ (Sg × Sg)) (h : m_law_c25 xs L x3 sx sm = some out) (hk : Sum.elim (V_law C E oM aM b) (K_law C E oM aM b) out) : Vat C (wX (xR E (RM E oM aM sm))) 4 1149 [(0, .ref b), (1, .ref (oX E 0)), (2, .ref oM), (3, .int x3)] [] sx := by
  unfold m_law_c25 at h
  refine v_aload_n 1150 1 cx dL_law_1149 rfl rfl rfl ?_
  refine v_aload_n 1151 0 cx dL_law_1150 rfl rfl rfl ?_
  refine v_iload_n 1152 3 cx dL_law_1151 rfl rfl rfl ?_
  refine v_iconst 1153 cx dL_law_1152 ic_1 rfl ?_
  refine v_iadd 1154 cx dL_law_1153 rfl ?_
  refine v_sld 1155 cx cl dL_law_1154 rfl h (fun v250 h => ?_)
  refine v_aload_n 1156 0 cx dL_law_1155 rfl rfl rfl ?_
  refine v_iload_n 1157 3 cx dL_law_1156 rfl rfl rfl ?_
  refine v_iconst 1158 cx dL_law_1157 ic_2 rfl ?_
  refine v_iadd 1159 cx dL_law_1158 rfl ?_
  refine v_sld 1160 cx cl dL_law_1159 rfl h (fun v251 h => ?_)
  refine v_callVI 1163 0 cx dL_law_1160 km_L_127 ca_X11_filled (wXo_0 (xR E (RM E oM aM sm)) sx) rfl (c_X11_filled C.2.1 (xR E (RM E oM aM sm)) sx v250 v251 ) rfl (by decide) rfl (Nat.le_of_ble_eq_true rfl) rfl h (fun v252 s253 h => ?_)
  refine v_aload_n 1164 2 cx dL_law_1163 rfl rfl rfl ?_
  refine v_aload_n 1165 0 cx dL_law_1164 rfl rfl rfl ?_
  refine v_iload_n 1166 3 cx dL_law_1165 rfl rfl rfl ?_
  refine v_iconst 1167 cx dL_law_1166 ic_1 rfl ?_
  refine v_iadd 1168 cx dL_law_1167 rfl ?_
  refine v_sld 1169 cx cl dL_law_1168 rfl h (fun v254 h => ?_)
  refine v_aload_n 1170 0 cx dL_law_1169 rfl rfl rfl ?_
  refine v_iload_n 1171 3 cx dL_law_1170 rfl rfl rfl ?_
  refine v_iconst 1172 cx dL_law_1171 ic_2 rfl ?_
  refine v_iadd 1173 cx dL_law_1172 rfl ?_
  refine v_sld 1174 cx cl dL_law_1173 rfl h (fun v255 h => ?_)
  refine v_perm (wl2 := wM (eM E oM aM (RX E s253))) (st2 := sm) (law_XM E oM aM s253 sm) ?_
  refine v_callVI 1177 0 cx dL_law_1174 km_L_130 ca_X12_filled (wMo_0 (eM E oM aM (RX E s253)) sm) rfl (c_X12_filled C.2.1 (eM E oM aM (RX E s253)) sm v254 v255 ) rfl (by decide) rfl (Nat.le_of_ble_eq_true rfl) rfl h (fun v256 s257 h => ?_)
  refine v_perm (wl2 := wX (xR E (RM E oM aM s257))) (st2 := s253) (law_MX E oM aM s253 s257) ?_
  refine v_icmp_eq 1452 1180 cx dL_law_1177 (by decide) rfl h (fun h => ?_) (fun h => by cases h)
  refine v_iinc 1455 3 (fun a258 => [(3, .int a258), (0, .ref b), (1, .ref (oX E 0)), (2, .ref oM)]) cx dL_law_1452 rfl ic_6 (by decide) (fun _ => rfl) rfl h (fun a258 h => ?_)
  refine v_goto 18 cx dL_law_1455 (by decide) ?_
  cases h
  have hk : Vat C (wX (xR E (RM E oM aM s257))) 4 18 [(0, .ref b), (1, .ref (oX E 0)), (2, .ref oM), (3, .int a258)] [] s253 := hk
  exact v_lsub (lv' := [(0, .ref b), (1, .ref (oX E 0)), (2, .ref oM), (3, .int a258)]) [1, 2, 3, 0] rfl hk
def m_law_c26 (xs : Nat → Int32) (L : Nat) (x3 : Int32) (sx sm : Sg) : Option ((Int32 × Sg × Sg) ⊕ (Sg × Sg)) :=
  sck xs L (x3 + 1) fun v259 =>
  clk (m_X11_names v259 sx) fun v260 s261 =>
  sck xs L (x3 + 1) fun v262 =>
  clk (m_X12_names v262 sm) fun v263 s264 =>
  if v260 = v263 then (nmk (x3 + 6) fun a265 =>
  some (.inl (a265, s261, s264))) else none
set_option maxHeartbeats 4000000 in
set_option maxRecDepth 100000 in
theorem j_law_c26 {C : Cm} {E : Ev} {oM : Nat} {aM : Nat → Nat} {b L : Nat} {xs : Nat → Int32} (cx : Cx C (tyE E) cL_law RL 4 9 334) (cl : CxL C b L xs) (x3 : Int32) (sx sm : Sg) (out : (Int32 × Sg × Sg) ⊕ (Sg × Sg)) (h : m_law_c26 xs L x3 sx sm = some out) (hk : Sum.elim (V_law C E oM aM b) (K_law C E oM aM b) out) : Vat C (wX (xR E (RM E oM aM sm))) 4 1182 [(0, .ref b), (1, .ref (oX E 0)), (2, .ref oM), (3, .int x3)] [] sx := by
  unfold m_law_c26 at h
  refine v_aload_n 1183 1 cx dL_law_1182 rfl rfl rfl ?_
  refine v_aload_n 1184 0 cx dL_law_1183 rfl rfl rfl ?_
  refine v_iload_n 1185 3 cx dL_law_1184 rfl rfl rfl ?_
  refine v_iconst 1186 cx dL_law_1185 ic_1 rfl ?_
  refine v_iadd 1187 cx dL_law_1186 rfl ?_
  refine v_sld 1188 cx cl dL_law_1187 rfl h (fun v259 h => ?_)
  refine v_callVI 1191 0 cx dL_law_1188 km_L_131 ca_X11_names (wXo_0 (xR E (RM E oM aM sm)) sx) rfl (c_X11_names C.2.1 (xR E (RM E oM aM sm)) sx v259 ) rfl (by decide) rfl (Nat.le_of_ble_eq_true rfl) rfl h (fun v260 s261 h => ?_)
  refine v_aload_n 1192 2 cx dL_law_1191 rfl rfl rfl ?_
  refine v_aload_n 1193 0 cx dL_law_1192 rfl rfl rfl ?_
  refine v_iload_n 1194 3 cx dL_law_1193 rfl rfl rfl ?_
  refine v_iconst 1195 cx dL_law_1194 ic_1 rfl ?_
  refine v_iadd 1196 cx dL_law_1195 rfl ?_
  refine v_sld 1197 cx cl dL_law_1196 rfl h (fun v262 h => ?_)
  refine v_perm (wl2 := wM (eM E oM aM (RX E s261))) (st2 := sm) (law_XM E oM aM s261 sm) ?_
  refine v_callVI 1200 0 cx dL_law_1197 km_L_134 ca_X12_names (wMo_0 (eM E oM aM (RX E s261)) sm) rfl (c_X12_names C.2.1 (eM E oM aM (RX E s261)) sm v262 ) rfl (by decide) rfl (Nat.le_of_ble_eq_true rfl) rfl h (fun v263 s264 h => ?_)
  refine v_perm (wl2 := wX (xR E (RM E oM aM s264))) (st2 := s261) (law_MX E oM aM s261 s264) ?_
  refine v_icmp_eq 1452 1203 cx dL_law_1200 (by decide) rfl h (fun h => ?_) (fun h => by cases h)
  refine v_iinc 1455 3 (fun a265 => [(3, .int a265), (0, .ref b), (1, .ref (oX E 0)), (2, .ref oM)]) cx dL_law_1452 rfl ic_6 (by decide) (fun _ => rfl) rfl h (fun a265 h => ?_)
  refine v_goto 18 cx dL_law_1455 (by decide) ?_
  cases h
  have hk : Vat C (wX (xR E (RM E oM aM s264))) 4 18 [(0, .ref b), (1, .ref (oX E 0)), (2, .ref oM), (3, .int a265)] [] s261 := hk
  exact v_lsub (lv' := [(0, .ref b), (1, .ref (oX E 0)), (2, .ref oM), (3, .int a265)]) [1, 2, 3, 0] rfl hk
def m_law_c27 (xs : Nat → Int32) (L : Nat) (x3 : Int32) (sx sm : Sg) : Option ((Int32 × Sg × Sg) ⊕ (Sg × Sg)) :=
  sck xs L (x3 + 1) fun v266 =>
  clk (m_X11_fewest v266 sx) fun v267 s268 =>
  sck xs L (x3 + 1) fun v269 =>
  clk (m_X12_fewest v269 sm) fun v270 s271 =>
  if v267 = v270 then (nmk (x3 + 6) fun a272 =>
  some (.inl (a272, s268, s271))) else none
set_option maxHeartbeats 4000000 in
set_option maxRecDepth 100000 in
theorem j_law_c27 {C : Cm} {E : Ev} {oM : Nat} {aM : Nat → Nat} {b L : Nat} {xs : Nat → Int32} (cx : Cx C (tyE E) cL_law RL 4 9 334) (cl : CxL C b L xs) (x3 : Int32) (sx sm : Sg) (out : (Int32 × Sg × Sg) ⊕ (Sg × Sg)) (h : m_law_c27 xs L x3 sx sm = some out) (hk : Sum.elim (V_law C E oM aM b) (K_law C E oM aM b) out) : Vat C (wX (xR E (RM E oM aM sm))) 4 1205 [(0, .ref b), (1, .ref (oX E 0)), (2, .ref oM), (3, .int x3)] [] sx := by
  unfold m_law_c27 at h
  refine v_aload_n 1206 1 cx dL_law_1205 rfl rfl rfl ?_
  refine v_aload_n 1207 0 cx dL_law_1206 rfl rfl rfl ?_
  refine v_iload_n 1208 3 cx dL_law_1207 rfl rfl rfl ?_
  refine v_iconst 1209 cx dL_law_1208 ic_1 rfl ?_
  refine v_iadd 1210 cx dL_law_1209 rfl ?_
  refine v_sld 1211 cx cl dL_law_1210 rfl h (fun v266 h => ?_)
  refine v_callVI 1214 0 cx dL_law_1211 km_L_135 ca_X11_fewest (wXo_0 (xR E (RM E oM aM sm)) sx) rfl (c_X11_fewest C.2.1 (xR E (RM E oM aM sm)) sx v266 ) rfl (by decide) rfl (Nat.le_of_ble_eq_true rfl) rfl h (fun v267 s268 h => ?_)
  refine v_aload_n 1215 2 cx dL_law_1214 rfl rfl rfl ?_
  refine v_aload_n 1216 0 cx dL_law_1215 rfl rfl rfl ?_
  refine v_iload_n 1217 3 cx dL_law_1216 rfl rfl rfl ?_
  refine v_iconst 1218 cx dL_law_1217 ic_1 rfl ?_
  refine v_iadd 1219 cx dL_law_1218 rfl ?_
  refine v_sld 1220 cx cl dL_law_1219 rfl h (fun v269 h => ?_)
  refine v_perm (wl2 := wM (eM E oM aM (RX E s268))) (st2 := sm) (law_XM E oM aM s268 sm) ?_
  refine v_callVI 1223 0 cx dL_law_1220 km_L_138 ca_X12_fewest (wMo_0 (eM E oM aM (RX E s268)) sm) rfl (c_X12_fewest C.2.1 (eM E oM aM (RX E s268)) sm v269 ) rfl (by decide) rfl (Nat.le_of_ble_eq_true rfl) rfl h (fun v270 s271 h => ?_)
  refine v_perm (wl2 := wX (xR E (RM E oM aM s271))) (st2 := s268) (law_MX E oM aM s268 s271) ?_
  refine v_icmp_eq 1452 1226 cx dL_law_1223 (by decide) rfl h (fun h => ?_) (fun h => by cases h)
  refine v_iinc 1455 3 (fun a272 => [(3, .int a272), (0, .ref b), (1, .ref (oX E 0)), (2, .ref oM)]) cx dL_law_1452 rfl ic_6 (by decide) (fun _ => rfl) rfl h (fun a272 h => ?_)
  refine v_goto 18 cx dL_law_1455 (by decide) ?_
  cases h
  have hk : Vat C (wX (xR E (RM E oM aM s271))) 4 18 [(0, .ref b), (1, .ref (oX E 0)), (2, .ref oM), (3, .int a272)] [] s268 := hk
  exact v_lsub (lv' := [(0, .ref b), (1, .ref (oX E 0)), (2, .ref oM), (3, .int a272)]) [1, 2, 3, 0] rfl hk
def m_law_c28 (xs : Nat → Int32) (L : Nat) (x3 : Int32) (sx sm : Sg) : Option ((Int32 × Sg × Sg) ⊕ (Sg × Sg)) :=
  sck xs L (x3 + 1) fun v273 =>
  sck xs L (x3 + 2) fun v274 =>
  clk (m_X11_forge v273 v274 sx) fun v275 s276 =>
  sck xs L (x3 + 1) fun v277 =>
  sck xs L (x3 + 2) fun v278 =>
  clk (m_X12_forge v277 v278 sm) fun v279 s280 =>
  if v275 = v279 then (nmk (x3 + 6) fun a281 =>
  some (.inl (a281, s276, s280))) else none
set_option maxHeartbeats 4000000 in
set_option maxRecDepth 100000 in
theorem j_law_c28 {C : Cm} {E : Ev} {oM : Nat} {aM : Nat → Nat} {b L : Nat} {xs : Nat → Int32} (cx : Cx C (tyE E) cL_law RL 4 9 334) (cl : CxL C b L xs) (x3 : Int32) (sx sm : Sg) (out : (Int32 × Sg × Sg) ⊕ (Sg × Sg)) (h : m_law_c28 xs L x3 sx sm = some out) (hk : Sum.elim (V_law C E oM aM b) (K_law C E oM aM b) out) : Vat C (wX (xR E (RM E oM aM sm))) 4 1228 [(0, .ref b), (1, .ref (oX E 0)), (2, .ref oM), (3, .int x3)] [] sx := by
  unfold m_law_c28 at h
  refine v_aload_n 1229 1 cx dL_law_1228 rfl rfl rfl ?_
  refine v_aload_n 1230 0 cx dL_law_1229 rfl rfl rfl ?_
  refine v_iload_n 1231 3 cx dL_law_1230 rfl rfl rfl ?_
  refine v_iconst 1232 cx dL_law_1231 ic_1 rfl ?_
  refine v_iadd 1233 cx dL_law_1232 rfl ?_
  refine v_sld 1234 cx cl dL_law_1233 rfl h (fun v273 h => ?_)
  refine v_aload_n 1235 0 cx dL_law_1234 rfl rfl rfl ?_
  refine v_iload_n 1236 3 cx dL_law_1235 rfl rfl rfl ?_
  refine v_iconst 1237 cx dL_law_1236 ic_2 rfl ?_
  refine v_iadd 1238 cx dL_law_1237 rfl ?_
  refine v_sld 1239 cx cl dL_law_1238 rfl h (fun v274 h => ?_)
  refine v_callVI 1242 0 cx dL_law_1239 km_L_139 ca_X11_forge (wXo_0 (xR E (RM E oM aM sm)) sx) rfl (c_X11_forge C.2.1 (xR E (RM E oM aM sm)) sx v273 v274 ) rfl (by decide) rfl (Nat.le_of_ble_eq_true rfl) rfl h (fun v275 s276 h => ?_)
  refine v_aload_n 1243 2 cx dL_law_1242 rfl rfl rfl ?_
  refine v_aload_n 1244 0 cx dL_law_1243 rfl rfl rfl ?_
  refine v_iload_n 1245 3 cx dL_law_1244 rfl rfl rfl ?_
  refine v_iconst 1246 cx dL_law_1245 ic_1 rfl ?_
  refine v_iadd 1247 cx dL_law_1246 rfl ?_
  refine v_sld 1248 cx cl dL_law_1247 rfl h (fun v277 h => ?_)
  refine v_aload_n 1249 0 cx dL_law_1248 rfl rfl rfl ?_
  refine v_iload_n 1250 3 cx dL_law_1249 rfl rfl rfl ?_
  refine v_iconst 1251 cx dL_law_1250 ic_2 rfl ?_
  refine v_iadd 1252 cx dL_law_1251 rfl ?_
  refine v_sld 1253 cx cl dL_law_1252 rfl h (fun v278 h => ?_)
  refine v_perm (wl2 := wM (eM E oM aM (RX E s276))) (st2 := sm) (law_XM E oM aM s276 sm) ?_
  refine v_callVI 1256 0 cx dL_law_1253 km_L_142 ca_X12_forge (wMo_0 (eM E oM aM (RX E s276)) sm) rfl (c_X12_forge C.2.1 (eM E oM aM (RX E s276)) sm v277 v278 ) rfl (by decide) rfl (Nat.le_of_ble_eq_true rfl) rfl h (fun v279 s280 h => ?_)
  refine v_perm (wl2 := wX (xR E (RM E oM aM s280))) (st2 := s276) (law_MX E oM aM s276 s280) ?_
  refine v_icmp_eq 1452 1259 cx dL_law_1256 (by decide) rfl h (fun h => ?_) (fun h => by cases h)
  refine v_iinc 1455 3 (fun a281 => [(3, .int a281), (0, .ref b), (1, .ref (oX E 0)), (2, .ref oM)]) cx dL_law_1452 rfl ic_6 (by decide) (fun _ => rfl) rfl h (fun a281 h => ?_)
  refine v_goto 18 cx dL_law_1455 (by decide) ?_
  cases h
  have hk : Vat C (wX (xR E (RM E oM aM s280))) 4 18 [(0, .ref b), (1, .ref (oX E 0)), (2, .ref oM), (3, .int a281)] [] s276 := hk
  exact v_lsub (lv' := [(0, .ref b), (1, .ref (oX E 0)), (2, .ref oM), (3, .int a281)]) [1, 2, 3, 0] rfl hk
def m_law_c29 (xs : Nat → Int32) (L : Nat) (x3 : Int32) (sx sm : Sg) : Option ((Int32 × Sg × Sg) ⊕ (Sg × Sg)) :=
  clk (m_X11_check sx) fun v282 s283 =>
  clk (m_X12_check sm) fun v284 s285 =>
  if v282 = v284 then (nmk (x3 + 6) fun a286 =>
  some (.inl (a286, s283, s285))) else none
set_option maxHeartbeats 4000000 in
set_option maxRecDepth 100000 in
theorem j_law_c29 {C : Cm} {E : Ev} {oM : Nat} {aM : Nat → Nat} {b L : Nat} {xs : Nat → Int32} (cx : Cx C (tyE E) cL_law RL 4 9 334) (cl : CxL C b L xs) (x3 : Int32) (sx sm : Sg) (out : (Int32 × Sg × Sg) ⊕ (Sg × Sg)) (h : m_law_c29 xs L x3 sx sm = some out) (hk : Sum.elim (V_law C E oM aM b) (K_law C E oM aM b) out) : Vat C (wX (xR E (RM E oM aM sm))) 4 1261 [(0, .ref b), (1, .ref (oX E 0)), (2, .ref oM), (3, .int x3)] [] sx := by
  unfold m_law_c29 at h
  refine v_aload_n 1262 1 cx dL_law_1261 rfl rfl rfl ?_
  refine v_callVI 1265 0 cx dL_law_1262 km_L_143 ca_X11_check (wXo_0 (xR E (RM E oM aM sm)) sx) rfl (c_X11_check C.2.1 (xR E (RM E oM aM sm)) sx ) rfl (by decide) rfl (Nat.le_of_ble_eq_true rfl) rfl h (fun v282 s283 h => ?_)
  refine v_aload_n 1266 2 cx dL_law_1265 rfl rfl rfl ?_
  refine v_perm (wl2 := wM (eM E oM aM (RX E s283))) (st2 := sm) (law_XM E oM aM s283 sm) ?_
  refine v_callVI 1269 0 cx dL_law_1266 km_L_146 ca_X12_check (wMo_0 (eM E oM aM (RX E s283)) sm) rfl (c_X12_check C.2.1 (eM E oM aM (RX E s283)) sm ) rfl (by decide) rfl (Nat.le_of_ble_eq_true rfl) rfl h (fun v284 s285 h => ?_)
  refine v_perm (wl2 := wX (xR E (RM E oM aM s285))) (st2 := s283) (law_MX E oM aM s283 s285) ?_
  refine v_icmp_eq 1452 1272 cx dL_law_1269 (by decide) rfl h (fun h => ?_) (fun h => by cases h)
  refine v_iinc 1455 3 (fun a286 => [(3, .int a286), (0, .ref b), (1, .ref (oX E 0)), (2, .ref oM)]) cx dL_law_1452 rfl ic_6 (by decide) (fun _ => rfl) rfl h (fun a286 h => ?_)
  refine v_goto 18 cx dL_law_1455 (by decide) ?_
  cases h
  have hk : Vat C (wX (xR E (RM E oM aM s285))) 4 18 [(0, .ref b), (1, .ref (oX E 0)), (2, .ref oM), (3, .int a286)] [] s283 := hk
  exact v_lsub (lv' := [(0, .ref b), (1, .ref (oX E 0)), (2, .ref oM), (3, .int a286)]) [1, 2, 3, 0] rfl hk
def m_law_c30 (xs : Nat → Int32) (L : Nat) (x3 : Int32) (sx sm : Sg) : Option ((Int32 × Sg × Sg) ⊕ (Sg × Sg)) :=
  sck xs L (x3 + 1) fun v287 =>
  clk (m_X11_wrong v287 sx) fun v288 s289 =>
  sck xs L (x3 + 1) fun v290 =>
  clk (m_X12_wrong v290 sm) fun v291 s292 =>
  if v288 = v291 then (nmk (x3 + 6) fun a293 =>
  some (.inl (a293, s289, s292))) else none
set_option maxHeartbeats 4000000 in
set_option maxRecDepth 100000 in
theorem j_law_c30 {C : Cm} {E : Ev} {oM : Nat} {aM : Nat → Nat} {b L : Nat} {xs : Nat → Int32} (cx : Cx C (tyE E) cL_law RL 4 9 334) (cl : CxL C b L xs) (x3 : Int32) (sx sm : Sg) (out : (Int32 × Sg × Sg) ⊕ (Sg × Sg)) (h : m_law_c30 xs L x3 sx sm = some out) (hk : Sum.elim (V_law C E oM aM b) (K_law C E oM aM b) out) : Vat C (wX (xR E (RM E oM aM sm))) 4 1274 [(0, .ref b), (1, .ref (oX E 0)), (2, .ref oM), (3, .int x3)] [] sx := by
  unfold m_law_c30 at h
  refine v_aload_n 1275 1 cx dL_law_1274 rfl rfl rfl ?_
  refine v_aload_n 1276 0 cx dL_law_1275 rfl rfl rfl ?_
  refine v_iload_n 1277 3 cx dL_law_1276 rfl rfl rfl ?_
  refine v_iconst 1278 cx dL_law_1277 ic_1 rfl ?_
  refine v_iadd 1279 cx dL_law_1278 rfl ?_
  refine v_sld 1280 cx cl dL_law_1279 rfl h (fun v287 h => ?_)
  refine v_callVI 1283 0 cx dL_law_1280 km_L_147 ca_X11_wrong (wXo_0 (xR E (RM E oM aM sm)) sx) rfl (c_X11_wrong C.2.1 (xR E (RM E oM aM sm)) sx v287 ) rfl (by decide) rfl (Nat.le_of_ble_eq_true rfl) rfl h (fun v288 s289 h => ?_)
  refine v_aload_n 1284 2 cx dL_law_1283 rfl rfl rfl ?_
  refine v_aload_n 1285 0 cx dL_law_1284 rfl rfl rfl ?_
  refine v_iload_n 1286 3 cx dL_law_1285 rfl rfl rfl ?_
  refine v_iconst 1287 cx dL_law_1286 ic_1 rfl ?_
  refine v_iadd 1288 cx dL_law_1287 rfl ?_
  refine v_sld 1289 cx cl dL_law_1288 rfl h (fun v290 h => ?_)
  refine v_perm (wl2 := wM (eM E oM aM (RX E s289))) (st2 := sm) (law_XM E oM aM s289 sm) ?_
  refine v_callVI 1292 0 cx dL_law_1289 km_L_150 ca_X12_wrong (wMo_0 (eM E oM aM (RX E s289)) sm) rfl (c_X12_wrong C.2.1 (eM E oM aM (RX E s289)) sm v290 ) rfl (by decide) rfl (Nat.le_of_ble_eq_true rfl) rfl h (fun v291 s292 h => ?_)
  refine v_perm (wl2 := wX (xR E (RM E oM aM s292))) (st2 := s289) (law_MX E oM aM s289 s292) ?_
  refine v_icmp_eq 1452 1295 cx dL_law_1292 (by decide) rfl h (fun h => ?_) (fun h => by cases h)
  refine v_iinc 1455 3 (fun a293 => [(3, .int a293), (0, .ref b), (1, .ref (oX E 0)), (2, .ref oM)]) cx dL_law_1452 rfl ic_6 (by decide) (fun _ => rfl) rfl h (fun a293 h => ?_)
  refine v_goto 18 cx dL_law_1455 (by decide) ?_
  cases h
  have hk : Vat C (wX (xR E (RM E oM aM s292))) 4 18 [(0, .ref b), (1, .ref (oX E 0)), (2, .ref oM), (3, .int a293)] [] s289 := hk
  exact v_lsub (lv' := [(0, .ref b), (1, .ref (oX E 0)), (2, .ref oM), (3, .int a293)]) [1, 2, 3, 0] rfl hk
def m_law_c31 (xs : Nat → Int32) (L : Nat) (x3 : Int32) (sx sm : Sg) : Option ((Int32 × Sg × Sg) ⊕ (Sg × Sg)) :=
  sck xs L (x3 + 1) fun v294 =>
  sck xs L (x3 + 2) fun v295 =>
  if v295 = 0 then (clk (m_X11_run v294 0 sx) fun v296 s297 =>
  sck xs L (x3 + 1) fun v298 =>
  sck xs L (x3 + 2) fun v299 =>
  if v299 = 0 then (clk (m_X12_run v298 0 sm) fun v300 s301 =>
  if v296 = v300 then (nmk (x3 + 6) fun a302 =>
  some (.inl (a302, s297, s301))) else none) else
  clk (m_X12_run v298 1 sm) fun v303 s304 =>
  if v296 = v303 then (nmk (x3 + 6) fun a305 =>
  some (.inl (a305, s297, s304))) else none) else
  clk (m_X11_run v294 1 sx) fun v306 s307 =>
  sck xs L (x3 + 1) fun v308 =>
  sck xs L (x3 + 2) fun v309 =>
  if v309 = 0 then (clk (m_X12_run v308 0 sm) fun v310 s311 =>
  if v306 = v310 then (nmk (x3 + 6) fun a312 =>
  some (.inl (a312, s307, s311))) else none) else
  clk (m_X12_run v308 1 sm) fun v313 s314 =>
  if v306 = v313 then (nmk (x3 + 6) fun a315 =>
  some (.inl (a315, s307, s314))) else none
set_option maxHeartbeats 4000000 in
set_option maxRecDepth 100000 in
theorem j_law_c31 {C : Cm} {E : Ev} {oM : Nat} {aM : Nat → Nat} {b L : Nat} {xs : Nat → Int32} (cx : Cx C (tyE E) cL_law RL 4 9 334) (cl : CxL C b L xs) (x3 : Int32) (sx sm : Sg) (out : (Int32 × Sg × Sg) ⊕ (Sg × Sg)) (h : m_law_c31 xs L x3 sx sm = some out) (hk : Sum.elim (V_law C E oM aM b) (K_law C E oM aM b) out) : Vat C (wX (xR E (RM E oM aM sm))) 4 1297 [(0, .ref b), (1, .ref (oX E 0)), (2, .ref oM), (3, .int x3)] [] sx := by
  unfold m_law_c31 at h
  refine v_aload_n 1298 1 cx dL_law_1297 rfl rfl rfl ?_
  refine v_aload_n 1299 0 cx dL_law_1298 rfl rfl rfl ?_
  refine v_iload_n 1300 3 cx dL_law_1299 rfl rfl rfl ?_
  refine v_iconst 1301 cx dL_law_1300 ic_1 rfl ?_
  refine v_iadd 1302 cx dL_law_1301 rfl ?_
  refine v_sld 1303 cx cl dL_law_1302 rfl h (fun v294 h => ?_)
  refine v_aload_n 1304 0 cx dL_law_1303 rfl rfl rfl ?_
  refine v_iload_n 1305 3 cx dL_law_1304 rfl rfl rfl ?_
  refine v_iconst 1306 cx dL_law_1305 ic_2 rfl ?_
  refine v_iadd 1307 cx dL_law_1306 rfl ?_
  refine v_sld 1308 cx cl dL_law_1307 rfl h (fun v295 h => ?_)
  refine v_if_eq 1315 1311 cx dL_law_1308 (by decide) rfl h (fun h => ?_) (fun h => ?_)
  · refine v_iconst 1316 cx dL_law_1315 ic_0 rfl ?_
    refine v_callVI 1319 0 cx dL_law_1316 km_L_151 ca_X11_run (wXo_0 (xR E (RM E oM aM sm)) sx) rfl (c_X11_run C.2.1 (xR E (RM E oM aM sm)) sx v294 0 ) rfl (by decide) rfl (Nat.le_of_ble_eq_true rfl) rfl h (fun v296 s297 h => ?_)
    refine v_aload_n 1320 2 cx dL_law_1319 rfl rfl rfl ?_
    refine v_aload_n 1321 0 cx dL_law_1320 rfl rfl rfl ?_
    refine v_iload_n 1322 3 cx dL_law_1321 rfl rfl rfl ?_
    refine v_iconst 1323 cx dL_law_1322 ic_1 rfl ?_
    refine v_iadd 1324 cx dL_law_1323 rfl ?_
    refine v_sld 1325 cx cl dL_law_1324 rfl h (fun v298 h => ?_)
    refine v_aload_n 1326 0 cx dL_law_1325 rfl rfl rfl ?_
    refine v_iload_n 1327 3 cx dL_law_1326 rfl rfl rfl ?_
    refine v_iconst 1328 cx dL_law_1327 ic_2 rfl ?_
    refine v_iadd 1329 cx dL_law_1328 rfl ?_
    refine v_sld 1330 cx cl dL_law_1329 rfl h (fun v299 h => ?_)
    refine v_if_eq 1337 1333 cx dL_law_1330 (by decide) rfl h (fun h => ?_) (fun h => ?_)
    · refine v_iconst 1338 cx dL_law_1337 ic_0 rfl ?_
      refine v_perm (wl2 := wM (eM E oM aM (RX E s297))) (st2 := sm) (law_XM E oM aM s297 sm) ?_
      refine v_callVI 1341 0 cx dL_law_1338 km_L_155 ca_X12_run (wMo_0 (eM E oM aM (RX E s297)) sm) rfl (c_X12_run C.2.1 (eM E oM aM (RX E s297)) sm v298 0 ) rfl (by decide) rfl (Nat.le_of_ble_eq_true rfl) rfl h (fun v300 s301 h => ?_)
      refine v_perm (wl2 := wX (xR E (RM E oM aM s301))) (st2 := s297) (law_MX E oM aM s297 s301) ?_
      refine v_icmp_eq 1452 1344 cx dL_law_1341 (by decide) rfl h (fun h => ?_) (fun h => by cases h)
      refine v_iinc 1455 3 (fun a302 => [(3, .int a302), (0, .ref b), (1, .ref (oX E 0)), (2, .ref oM)]) cx dL_law_1452 rfl ic_6 (by decide) (fun _ => rfl) rfl h (fun a302 h => ?_)
      refine v_goto 18 cx dL_law_1455 (by decide) ?_
      cases h
      have hk : Vat C (wX (xR E (RM E oM aM s301))) 4 18 [(0, .ref b), (1, .ref (oX E 0)), (2, .ref oM), (3, .int a302)] [] s297 := hk
      exact v_lsub (lv' := [(0, .ref b), (1, .ref (oX E 0)), (2, .ref oM), (3, .int a302)]) [1, 2, 3, 0] rfl hk
    · refine v_iconst 1334 cx dL_law_1333 ic_1 rfl ?_
      refine v_goto 1338 cx dL_law_1334 (by decide) ?_
      refine v_perm (wl2 := wM (eM E oM aM (RX E s297))) (st2 := sm) (law_XM E oM aM s297 sm) ?_
      refine v_callVI 1341 0 cx dL_law_1338 km_L_155 ca_X12_run (wMo_0 (eM E oM aM (RX E s297)) sm) rfl (c_X12_run C.2.1 (eM E oM aM (RX E s297)) sm v298 1 ) rfl (by decide) rfl (Nat.le_of_ble_eq_true rfl) rfl h (fun v303 s304 h => ?_)
      refine v_perm (wl2 := wX (xR E (RM E oM aM s304))) (st2 := s297) (law_MX E oM aM s297 s304) ?_
      refine v_icmp_eq 1452 1344 cx dL_law_1341 (by decide) rfl h (fun h => ?_) (fun h => by cases h)
      refine v_iinc 1455 3 (fun a305 => [(3, .int a305), (0, .ref b), (1, .ref (oX E 0)), (2, .ref oM)]) cx dL_law_1452 rfl ic_6 (by decide) (fun _ => rfl) rfl h (fun a305 h => ?_)
      refine v_goto 18 cx dL_law_1455 (by decide) ?_
      cases h
      have hk : Vat C (wX (xR E (RM E oM aM s304))) 4 18 [(0, .ref b), (1, .ref (oX E 0)), (2, .ref oM), (3, .int a305)] [] s297 := hk
      exact v_lsub (lv' := [(0, .ref b), (1, .ref (oX E 0)), (2, .ref oM), (3, .int a305)]) [1, 2, 3, 0] rfl hk
  · refine v_iconst 1312 cx dL_law_1311 ic_1 rfl ?_
    refine v_goto 1316 cx dL_law_1312 (by decide) ?_
    refine v_callVI 1319 0 cx dL_law_1316 km_L_151 ca_X11_run (wXo_0 (xR E (RM E oM aM sm)) sx) rfl (c_X11_run C.2.1 (xR E (RM E oM aM sm)) sx v294 1 ) rfl (by decide) rfl (Nat.le_of_ble_eq_true rfl) rfl h (fun v306 s307 h => ?_)
    refine v_aload_n 1320 2 cx dL_law_1319 rfl rfl rfl ?_
    refine v_aload_n 1321 0 cx dL_law_1320 rfl rfl rfl ?_
    refine v_iload_n 1322 3 cx dL_law_1321 rfl rfl rfl ?_
    refine v_iconst 1323 cx dL_law_1322 ic_1 rfl ?_
    refine v_iadd 1324 cx dL_law_1323 rfl ?_
    refine v_sld 1325 cx cl dL_law_1324 rfl h (fun v308 h => ?_)
    refine v_aload_n 1326 0 cx dL_law_1325 rfl rfl rfl ?_
    refine v_iload_n 1327 3 cx dL_law_1326 rfl rfl rfl ?_
    refine v_iconst 1328 cx dL_law_1327 ic_2 rfl ?_
    refine v_iadd 1329 cx dL_law_1328 rfl ?_
    refine v_sld 1330 cx cl dL_law_1329 rfl h (fun v309 h => ?_)
    refine v_if_eq 1337 1333 cx dL_law_1330 (by decide) rfl h (fun h => ?_) (fun h => ?_)
    · refine v_iconst 1338 cx dL_law_1337 ic_0 rfl ?_
      refine v_perm (wl2 := wM (eM E oM aM (RX E s307))) (st2 := sm) (law_XM E oM aM s307 sm) ?_
      refine v_callVI 1341 0 cx dL_law_1338 km_L_155 ca_X12_run (wMo_0 (eM E oM aM (RX E s307)) sm) rfl (c_X12_run C.2.1 (eM E oM aM (RX E s307)) sm v308 0 ) rfl (by decide) rfl (Nat.le_of_ble_eq_true rfl) rfl h (fun v310 s311 h => ?_)
      refine v_perm (wl2 := wX (xR E (RM E oM aM s311))) (st2 := s307) (law_MX E oM aM s307 s311) ?_
      refine v_icmp_eq 1452 1344 cx dL_law_1341 (by decide) rfl h (fun h => ?_) (fun h => by cases h)
      refine v_iinc 1455 3 (fun a312 => [(3, .int a312), (0, .ref b), (1, .ref (oX E 0)), (2, .ref oM)]) cx dL_law_1452 rfl ic_6 (by decide) (fun _ => rfl) rfl h (fun a312 h => ?_)
      refine v_goto 18 cx dL_law_1455 (by decide) ?_
      cases h
      have hk : Vat C (wX (xR E (RM E oM aM s311))) 4 18 [(0, .ref b), (1, .ref (oX E 0)), (2, .ref oM), (3, .int a312)] [] s307 := hk
      exact v_lsub (lv' := [(0, .ref b), (1, .ref (oX E 0)), (2, .ref oM), (3, .int a312)]) [1, 2, 3, 0] rfl hk
    · refine v_iconst 1334 cx dL_law_1333 ic_1 rfl ?_
      refine v_goto 1338 cx dL_law_1334 (by decide) ?_
      refine v_perm (wl2 := wM (eM E oM aM (RX E s307))) (st2 := sm) (law_XM E oM aM s307 sm) ?_
      refine v_callVI 1341 0 cx dL_law_1338 km_L_155 ca_X12_run (wMo_0 (eM E oM aM (RX E s307)) sm) rfl (c_X12_run C.2.1 (eM E oM aM (RX E s307)) sm v308 1 ) rfl (by decide) rfl (Nat.le_of_ble_eq_true rfl) rfl h (fun v313 s314 h => ?_)
      refine v_perm (wl2 := wX (xR E (RM E oM aM s314))) (st2 := s307) (law_MX E oM aM s307 s314) ?_
      refine v_icmp_eq 1452 1344 cx dL_law_1341 (by decide) rfl h (fun h => ?_) (fun h => by cases h)
      refine v_iinc 1455 3 (fun a315 => [(3, .int a315), (0, .ref b), (1, .ref (oX E 0)), (2, .ref oM)]) cx dL_law_1452 rfl ic_6 (by decide) (fun _ => rfl) rfl h (fun a315 h => ?_)
      refine v_goto 18 cx dL_law_1455 (by decide) ?_
      cases h
      have hk : Vat C (wX (xR E (RM E oM aM s314))) 4 18 [(0, .ref b), (1, .ref (oX E 0)), (2, .ref oM), (3, .int a315)] [] s307 := hk
      exact v_lsub (lv' := [(0, .ref b), (1, .ref (oX E 0)), (2, .ref oM), (3, .int a315)]) [1, 2, 3, 0] rfl hk
def m_law_c32 (xs : Nat → Int32) (L : Nat) (x3 : Int32) (sx sm : Sg) : Option ((Int32 × Sg × Sg) ⊕ (Sg × Sg)) :=
  sck xs L (x3 + 1) fun v316 =>
  clk (m_X11_compare v316 sx) fun v317 s318 =>
  sck xs L (x3 + 1) fun v319 =>
  clk (m_X12_compare v319 sm) fun v320 s321 =>
  if v317 = v320 then (nmk (x3 + 6) fun a322 =>
  some (.inl (a322, s318, s321))) else none
set_option maxHeartbeats 4000000 in
set_option maxRecDepth 100000 in
theorem j_law_c32 {C : Cm} {E : Ev} {oM : Nat} {aM : Nat → Nat} {b L : Nat} {xs : Nat → Int32} (cx : Cx C (tyE E) cL_law RL 4 9 334) (cl : CxL C b L xs) (x3 : Int32) (sx sm : Sg) (out : (Int32 × Sg × Sg) ⊕ (Sg × Sg)) (h : m_law_c32 xs L x3 sx sm = some out) (hk : Sum.elim (V_law C E oM aM b) (K_law C E oM aM b) out) : Vat C (wX (xR E (RM E oM aM sm))) 4 1346 [(0, .ref b), (1, .ref (oX E 0)), (2, .ref oM), (3, .int x3)] [] sx := by
  unfold m_law_c32 at h
  refine v_aload_n 1347 1 cx dL_law_1346 rfl rfl rfl ?_
  refine v_aload_n 1348 0 cx dL_law_1347 rfl rfl rfl ?_
  refine v_iload_n 1349 3 cx dL_law_1348 rfl rfl rfl ?_
  refine v_iconst 1350 cx dL_law_1349 ic_1 rfl ?_
  refine v_iadd 1351 cx dL_law_1350 rfl ?_
  refine v_sld 1352 cx cl dL_law_1351 rfl h (fun v316 h => ?_)
  refine v_callVI 1355 0 cx dL_law_1352 km_L_156 ca_X11_compare (wXo_0 (xR E (RM E oM aM sm)) sx) rfl (c_X11_compare C.2.1 (xR E (RM E oM aM sm)) sx v316 ) rfl (by decide) rfl (Nat.le_of_ble_eq_true rfl) rfl h (fun v317 s318 h => ?_)
  refine v_aload_n 1356 2 cx dL_law_1355 rfl rfl rfl ?_
  refine v_aload_n 1357 0 cx dL_law_1356 rfl rfl rfl ?_
  refine v_iload_n 1358 3 cx dL_law_1357 rfl rfl rfl ?_
  refine v_iconst 1359 cx dL_law_1358 ic_1 rfl ?_
  refine v_iadd 1360 cx dL_law_1359 rfl ?_
  refine v_sld 1361 cx cl dL_law_1360 rfl h (fun v319 h => ?_)
  refine v_perm (wl2 := wM (eM E oM aM (RX E s318))) (st2 := sm) (law_XM E oM aM s318 sm) ?_
  refine v_callVI 1364 0 cx dL_law_1361 km_L_159 ca_X12_compare (wMo_0 (eM E oM aM (RX E s318)) sm) rfl (c_X12_compare C.2.1 (eM E oM aM (RX E s318)) sm v319 ) rfl (by decide) rfl (Nat.le_of_ble_eq_true rfl) rfl h (fun v320 s321 h => ?_)
  refine v_perm (wl2 := wX (xR E (RM E oM aM s321))) (st2 := s318) (law_MX E oM aM s318 s321) ?_
  refine v_icmp_eq 1452 1367 cx dL_law_1364 (by decide) rfl h (fun h => ?_) (fun h => by cases h)
  refine v_iinc 1455 3 (fun a322 => [(3, .int a322), (0, .ref b), (1, .ref (oX E 0)), (2, .ref oM)]) cx dL_law_1452 rfl ic_6 (by decide) (fun _ => rfl) rfl h (fun a322 h => ?_)
  refine v_goto 18 cx dL_law_1455 (by decide) ?_
  cases h
  have hk : Vat C (wX (xR E (RM E oM aM s321))) 4 18 [(0, .ref b), (1, .ref (oX E 0)), (2, .ref oM), (3, .int a322)] [] s318 := hk
  exact v_lsub (lv' := [(0, .ref b), (1, .ref (oX E 0)), (2, .ref oM), (3, .int a322)]) [1, 2, 3, 0] rfl hk
def m_law_c33 (xs : Nat → Int32) (L : Nat) (x3 : Int32) (sx sm : Sg) : Option ((Int32 × Sg × Sg) ⊕ (Sg × Sg)) :=
  sck xs L (x3 + 1) fun v323 =>
  clk (m_X11_told v323 sx) fun v324 s325 =>
  sck xs L (x3 + 1) fun v326 =>
  clk (m_X12_told v326 sm) fun v327 s328 =>
  if v324 = v327 then (nmk (x3 + 6) fun a329 =>
  some (.inl (a329, s325, s328))) else none
set_option maxHeartbeats 4000000 in
set_option maxRecDepth 100000 in
theorem j_law_c33 {C : Cm} {E : Ev} {oM : Nat} {aM : Nat → Nat} {b L : Nat} {xs : Nat → Int32} (cx : Cx C (tyE E) cL_law RL 4 9 334) (cl : CxL C b L xs) (x3 : Int32) (sx sm : Sg) (out : (Int32 × Sg × Sg) ⊕ (Sg × Sg)) (h : m_law_c33 xs L x3 sx sm = some out) (hk : Sum.elim (V_law C E oM aM b) (K_law C E oM aM b) out) : Vat C (wX (xR E (RM E oM aM sm))) 4 1369 [(0, .ref b), (1, .ref (oX E 0)), (2, .ref oM), (3, .int x3)] [] sx := by
  unfold m_law_c33 at h
  refine v_aload_n 1370 1 cx dL_law_1369 rfl rfl rfl ?_
  refine v_aload_n 1371 0 cx dL_law_1370 rfl rfl rfl ?_
  refine v_iload_n 1372 3 cx dL_law_1371 rfl rfl rfl ?_
  refine v_iconst 1373 cx dL_law_1372 ic_1 rfl ?_
  refine v_iadd 1374 cx dL_law_1373 rfl ?_
  refine v_sld 1375 cx cl dL_law_1374 rfl h (fun v323 h => ?_)
  refine v_callVI 1378 0 cx dL_law_1375 km_L_160 ca_X11_told (wXo_0 (xR E (RM E oM aM sm)) sx) rfl (c_X11_told C.2.1 (xR E (RM E oM aM sm)) sx v323 ) rfl (by decide) rfl (Nat.le_of_ble_eq_true rfl) rfl h (fun v324 s325 h => ?_)
  refine v_aload_n 1379 2 cx dL_law_1378 rfl rfl rfl ?_
  refine v_aload_n 1380 0 cx dL_law_1379 rfl rfl rfl ?_
  refine v_iload_n 1381 3 cx dL_law_1380 rfl rfl rfl ?_
  refine v_iconst 1382 cx dL_law_1381 ic_1 rfl ?_
  refine v_iadd 1383 cx dL_law_1382 rfl ?_
  refine v_sld 1384 cx cl dL_law_1383 rfl h (fun v326 h => ?_)
  refine v_perm (wl2 := wM (eM E oM aM (RX E s325))) (st2 := sm) (law_XM E oM aM s325 sm) ?_
  refine v_callVI 1387 0 cx dL_law_1384 km_L_163 ca_X12_told (wMo_0 (eM E oM aM (RX E s325)) sm) rfl (c_X12_told C.2.1 (eM E oM aM (RX E s325)) sm v326 ) rfl (by decide) rfl (Nat.le_of_ble_eq_true rfl) rfl h (fun v327 s328 h => ?_)
  refine v_perm (wl2 := wX (xR E (RM E oM aM s328))) (st2 := s325) (law_MX E oM aM s325 s328) ?_
  refine v_icmp_eq 1452 1390 cx dL_law_1387 (by decide) rfl h (fun h => ?_) (fun h => by cases h)
  refine v_iinc 1455 3 (fun a329 => [(3, .int a329), (0, .ref b), (1, .ref (oX E 0)), (2, .ref oM)]) cx dL_law_1452 rfl ic_6 (by decide) (fun _ => rfl) rfl h (fun a329 h => ?_)
  refine v_goto 18 cx dL_law_1455 (by decide) ?_
  cases h
  have hk : Vat C (wX (xR E (RM E oM aM s328))) 4 18 [(0, .ref b), (1, .ref (oX E 0)), (2, .ref oM), (3, .int a329)] [] s325 := hk
  exact v_lsub (lv' := [(0, .ref b), (1, .ref (oX E 0)), (2, .ref oM), (3, .int a329)]) [1, 2, 3, 0] rfl hk
def m_law_c34 (xs : Nat → Int32) (L : Nat) (x3 : Int32) (sx sm : Sg) : Option ((Int32 × Sg × Sg) ⊕ (Sg × Sg)) :=
  sck xs L (x3 + 1) fun v330 =>
  clk (m_X11_end v330 sx) fun v331 s332 =>
  sck xs L (x3 + 1) fun v333 =>
  clk (m_X12_end v333 sm) fun v334 s335 =>
  if (lg_cmp v331 v334) = 0 then (nmk (x3 + 6) fun a336 =>
  some (.inl (a336, s332, s335))) else none
set_option maxHeartbeats 4000000 in
set_option maxRecDepth 100000 in
theorem j_law_c34 {C : Cm} {E : Ev} {oM : Nat} {aM : Nat → Nat} {b L : Nat} {xs : Nat → Int32} (cx : Cx C (tyE E) cL_law RL 4 9 334) (cl : CxL C b L xs) (x3 : Int32) (sx sm : Sg) (out : (Int32 × Sg × Sg) ⊕ (Sg × Sg)) (h : m_law_c34 xs L x3 sx sm = some out) (hk : Sum.elim (V_law C E oM aM b) (K_law C E oM aM b) out) : Vat C (wX (xR E (RM E oM aM sm))) 4 1392 [(0, .ref b), (1, .ref (oX E 0)), (2, .ref oM), (3, .int x3)] [] sx := by
  unfold m_law_c34 at h
  refine v_aload_n 1393 1 cx dL_law_1392 rfl rfl rfl ?_
  refine v_aload_n 1394 0 cx dL_law_1393 rfl rfl rfl ?_
  refine v_iload_n 1395 3 cx dL_law_1394 rfl rfl rfl ?_
  refine v_iconst 1396 cx dL_law_1395 ic_1 rfl ?_
  refine v_iadd 1397 cx dL_law_1396 rfl ?_
  refine v_sld 1398 cx cl dL_law_1397 rfl h (fun v330 h => ?_)
  refine v_callVL 1401 0 cx dL_law_1398 km_L_164 ca_X11_end (wXo_0 (xR E (RM E oM aM sm)) sx) rfl (c_X11_end C.2.1 (xR E (RM E oM aM sm)) sx v330 ) rfl (by decide) rfl (Nat.le_of_ble_eq_true rfl) rfl h (fun v331 s332 h => ?_)
  refine v_aload_n 1402 2 cx dL_law_1401 rfl rfl rfl ?_
  refine v_aload_n 1403 0 cx dL_law_1402 rfl rfl rfl ?_
  refine v_iload_n 1404 3 cx dL_law_1403 rfl rfl rfl ?_
  refine v_iconst 1405 cx dL_law_1404 ic_1 rfl ?_
  refine v_iadd 1406 cx dL_law_1405 rfl ?_
  refine v_sld 1407 cx cl dL_law_1406 rfl h (fun v333 h => ?_)
  refine v_perm (wl2 := wM (eM E oM aM (RX E s332))) (st2 := sm) (law_XM E oM aM s332 sm) ?_
  refine v_callVL 1410 0 cx dL_law_1407 km_L_167 ca_X12_end (wMo_0 (eM E oM aM (RX E s332)) sm) rfl (c_X12_end C.2.1 (eM E oM aM (RX E s332)) sm v333 ) rfl (by decide) rfl (Nat.le_of_ble_eq_true rfl) rfl h (fun v334 s335 h => ?_)
  refine v_perm (wl2 := wX (xR E (RM E oM aM s335))) (st2 := s332) (law_MX E oM aM s332 s335) ?_
  refine v_lcmp 1411 cx dL_law_1410 rfl ?_
  refine v_if_eq 1452 1414 cx dL_law_1411 (by decide) rfl h (fun h => ?_) (fun h => by cases h)
  refine v_iinc 1455 3 (fun a336 => [(3, .int a336), (0, .ref b), (1, .ref (oX E 0)), (2, .ref oM)]) cx dL_law_1452 rfl ic_6 (by decide) (fun _ => rfl) rfl h (fun a336 h => ?_)
  refine v_goto 18 cx dL_law_1455 (by decide) ?_
  cases h
  have hk : Vat C (wX (xR E (RM E oM aM s335))) 4 18 [(0, .ref b), (1, .ref (oX E 0)), (2, .ref oM), (3, .int a336)] [] s332 := hk
  exact v_lsub (lv' := [(0, .ref b), (1, .ref (oX E 0)), (2, .ref oM), (3, .int a336)]) [1, 2, 3, 0] rfl hk
def m_law_c35 (xs : Nat → Int32) (L : Nat) (x3 : Int32) (sx sm : Sg) : Option ((Int32 × Sg × Sg) ⊕ (Sg × Sg)) :=
  clk (m_X11_again sx) fun v337 s338 =>
  clk (m_X12_again sm) fun v339 s340 =>
  if v337 = v339 then (nmk (x3 + 6) fun a341 =>
  some (.inl (a341, s338, s340))) else none
set_option maxHeartbeats 4000000 in
set_option maxRecDepth 100000 in
theorem j_law_c35 {C : Cm} {E : Ev} {oM : Nat} {aM : Nat → Nat} {b L : Nat} {xs : Nat → Int32} (cx : Cx C (tyE E) cL_law RL 4 9 334) (cl : CxL C b L xs) (x3 : Int32) (sx sm : Sg) (out : (Int32 × Sg × Sg) ⊕ (Sg × Sg)) (h : m_law_c35 xs L x3 sx sm = some out) (hk : Sum.elim (V_law C E oM aM b) (K_law C E oM aM b) out) : Vat C (wX (xR E (RM E oM aM sm))) 4 1416 [(0, .ref b), (1, .ref (oX E 0)), (2, .ref oM), (3, .int x3)] [] sx := by
  unfold m_law_c35 at h
  refine v_aload_n 1417 1 cx dL_law_1416 rfl rfl rfl ?_
  refine v_callVI 1420 0 cx dL_law_1417 km_L_168 ca_X11_again (wXo_0 (xR E (RM E oM aM sm)) sx) rfl (c_X11_again C.2.1 (xR E (RM E oM aM sm)) sx ) rfl (by decide) rfl (Nat.le_of_ble_eq_true rfl) rfl h (fun v337 s338 h => ?_)
  refine v_aload_n 1421 2 cx dL_law_1420 rfl rfl rfl ?_
  refine v_perm (wl2 := wM (eM E oM aM (RX E s338))) (st2 := sm) (law_XM E oM aM s338 sm) ?_
  refine v_callVI 1424 0 cx dL_law_1421 km_L_171 ca_X12_again (wMo_0 (eM E oM aM (RX E s338)) sm) rfl (c_X12_again C.2.1 (eM E oM aM (RX E s338)) sm ) rfl (by decide) rfl (Nat.le_of_ble_eq_true rfl) rfl h (fun v339 s340 h => ?_)
  refine v_perm (wl2 := wX (xR E (RM E oM aM s340))) (st2 := s338) (law_MX E oM aM s338 s340) ?_
  refine v_icmp_eq 1452 1427 cx dL_law_1424 (by decide) rfl h (fun h => ?_) (fun h => by cases h)
  refine v_iinc 1455 3 (fun a341 => [(3, .int a341), (0, .ref b), (1, .ref (oX E 0)), (2, .ref oM)]) cx dL_law_1452 rfl ic_6 (by decide) (fun _ => rfl) rfl h (fun a341 h => ?_)
  refine v_goto 18 cx dL_law_1455 (by decide) ?_
  cases h
  have hk : Vat C (wX (xR E (RM E oM aM s340))) 4 18 [(0, .ref b), (1, .ref (oX E 0)), (2, .ref oM), (3, .int a341)] [] s338 := hk
  exact v_lsub (lv' := [(0, .ref b), (1, .ref (oX E 0)), (2, .ref oM), (3, .int a341)]) [1, 2, 3, 0] rfl hk
def m_law_c36 (xs : Nat → Int32) (L : Nat) (x3 : Int32) (sx sm : Sg) : Option ((Int32 × Sg × Sg) ⊕ (Sg × Sg)) :=
  sck xs L (x3 + 1) fun v342 =>
  clk (m_X11_status v342 sx) fun v343 s344 =>
  sck xs L (x3 + 1) fun v345 =>
  clk (m_X12_status v345 sm) fun v346 s347 =>
  if v343 = v346 then (nmk (x3 + 6) fun a348 =>
  some (.inl (a348, s344, s347))) else none
set_option maxHeartbeats 4000000 in
set_option maxRecDepth 100000 in
theorem j_law_c36 {C : Cm} {E : Ev} {oM : Nat} {aM : Nat → Nat} {b L : Nat} {xs : Nat → Int32} (cx : Cx C (tyE E) cL_law RL 4 9 334) (cl : CxL C b L xs) (x3 : Int32) (sx sm : Sg) (out : (Int32 × Sg × Sg) ⊕ (Sg × Sg)) (h : m_law_c36 xs L x3 sx sm = some out) (hk : Sum.elim (V_law C E oM aM b) (K_law C E oM aM b) out) : Vat C (wX (xR E (RM E oM aM sm))) 4 1429 [(0, .ref b), (1, .ref (oX E 0)), (2, .ref oM), (3, .int x3)] [] sx := by
  unfold m_law_c36 at h
  refine v_aload_n 1430 1 cx dL_law_1429 rfl rfl rfl ?_
  refine v_aload_n 1431 0 cx dL_law_1430 rfl rfl rfl ?_
  refine v_iload_n 1432 3 cx dL_law_1431 rfl rfl rfl ?_
  refine v_iconst 1433 cx dL_law_1432 ic_1 rfl ?_
  refine v_iadd 1434 cx dL_law_1433 rfl ?_
  refine v_sld 1435 cx cl dL_law_1434 rfl h (fun v342 h => ?_)
  refine v_callVI 1438 0 cx dL_law_1435 km_L_172 ca_X11_status (wXo_0 (xR E (RM E oM aM sm)) sx) rfl (c_X11_status C.2.1 (xR E (RM E oM aM sm)) sx v342 ) rfl (by decide) rfl (Nat.le_of_ble_eq_true rfl) rfl h (fun v343 s344 h => ?_)
  refine v_aload_n 1439 2 cx dL_law_1438 rfl rfl rfl ?_
  refine v_aload_n 1440 0 cx dL_law_1439 rfl rfl rfl ?_
  refine v_iload_n 1441 3 cx dL_law_1440 rfl rfl rfl ?_
  refine v_iconst 1442 cx dL_law_1441 ic_1 rfl ?_
  refine v_iadd 1443 cx dL_law_1442 rfl ?_
  refine v_sld 1444 cx cl dL_law_1443 rfl h (fun v345 h => ?_)
  refine v_perm (wl2 := wM (eM E oM aM (RX E s344))) (st2 := sm) (law_XM E oM aM s344 sm) ?_
  refine v_callVI 1447 0 cx dL_law_1444 km_L_175 ca_X12_status (wMo_0 (eM E oM aM (RX E s344)) sm) rfl (c_X12_status C.2.1 (eM E oM aM (RX E s344)) sm v345 ) rfl (by decide) rfl (Nat.le_of_ble_eq_true rfl) rfl h (fun v346 s347 h => ?_)
  refine v_perm (wl2 := wX (xR E (RM E oM aM s347))) (st2 := s344) (law_MX E oM aM s344 s347) ?_
  refine v_icmp_eq 1452 1450 cx dL_law_1447 (by decide) rfl h (fun h => ?_) (fun h => by cases h)
  refine v_iinc 1455 3 (fun a348 => [(3, .int a348), (0, .ref b), (1, .ref (oX E 0)), (2, .ref oM)]) cx dL_law_1452 rfl ic_6 (by decide) (fun _ => rfl) rfl h (fun a348 h => ?_)
  refine v_goto 18 cx dL_law_1455 (by decide) ?_
  cases h
  have hk : Vat C (wX (xR E (RM E oM aM s347))) 4 18 [(0, .ref b), (1, .ref (oX E 0)), (2, .ref oM), (3, .int a348)] [] s344 := hk
  exact v_lsub (lv' := [(0, .ref b), (1, .ref (oX E 0)), (2, .ref oM), (3, .int a348)]) [1, 2, 3, 0] rfl hk
def m_law_cd (xs : Nat → Int32) (L : Nat) (x3 : Int32) (sx sm : Sg) : Option ((Int32 × Sg × Sg) ⊕ (Sg × Sg)) :=
  nmk (x3 + 6) fun a349 =>
  some (.inl (a349, sx, sm))
set_option maxHeartbeats 4000000 in
set_option maxRecDepth 100000 in
theorem j_law_cd {C : Cm} {E : Ev} {oM : Nat} {aM : Nat → Nat} {b L : Nat} {xs : Nat → Int32} (cx : Cx C (tyE E) cL_law RL 4 9 334) (cl : CxL C b L xs) (x3 : Int32) (sx sm : Sg) (out : (Int32 × Sg × Sg) ⊕ (Sg × Sg)) (h : m_law_cd xs L x3 sx sm = some out) (hk : Sum.elim (V_law C E oM aM b) (K_law C E oM aM b) out) : Vat C (wX (xR E (RM E oM aM sm))) 4 1452 [(0, .ref b), (1, .ref (oX E 0)), (2, .ref oM), (3, .int x3)] [] sx := by
  unfold m_law_cd at h
  refine v_iinc 1455 3 (fun a349 => [(3, .int a349), (0, .ref b), (1, .ref (oX E 0)), (2, .ref oM)]) cx dL_law_1452 rfl ic_6 (by decide) (fun _ => rfl) rfl h (fun a349 h => ?_)
  refine v_goto 18 cx dL_law_1455 (by decide) ?_
  cases h
  have hk : Vat C (wX (xR E (RM E oM aM sm))) 4 18 [(0, .ref b), (1, .ref (oX E 0)), (2, .ref oM), (3, .int a349)] [] sx := hk
  exact v_lsub (lv' := [(0, .ref b), (1, .ref (oX E 0)), (2, .ref oM), (3, .int a349)]) [1, 2, 3, 0] rfl hk
def m_law (xs : Nat → Int32) (L : Nat) (x3 : Int32) (sx sm : Sg) : Option ((Int32 × Sg × Sg) ⊕ (Sg × Sg)) :=
  if (Int32.ofNat L - 6) < x3 then some (.inr (sx, sm)) else
  sck xs L x3 fun v =>
  nmk (v &&& 63) fun z =>
  if z = 0 then m_law_c0 xs L x3 sx sm else
  if z = 1 then m_law_c1 xs L x3 sx sm else
  if z = 2 then m_law_c2 xs L x3 sx sm else
  if z = 3 then m_law_c3 xs L x3 sx sm else
  if z = 4 then m_law_c4 xs L x3 sx sm else
  if z = 5 then m_law_c5 xs L x3 sx sm else
  if z = 6 then m_law_c6 xs L x3 sx sm else
  if z = 7 then m_law_c7 xs L x3 sx sm else
  if z = 8 then m_law_c8 xs L x3 sx sm else
  if z = 9 then m_law_c9 xs L x3 sx sm else
  if z = 10 then m_law_c10 xs L x3 sx sm else
  if z = 11 then m_law_c11 xs L x3 sx sm else
  if z = 12 then m_law_c12 xs L x3 sx sm else
  if z = 13 then m_law_c13 xs L x3 sx sm else
  if z = 14 then m_law_c14 xs L x3 sx sm else
  if z = 15 then m_law_c15 xs L x3 sx sm else
  if z = 16 then m_law_c16 xs L x3 sx sm else
  if z = 17 then m_law_c17 xs L x3 sx sm else
  if z = 18 then m_law_c18 xs L x3 sx sm else
  if z = 19 then m_law_c19 xs L x3 sx sm else
  if z = 20 then m_law_c20 xs L x3 sx sm else
  if z = 21 then m_law_c21 xs L x3 sx sm else
  if z = 22 then m_law_c22 xs L x3 sx sm else
  if z = 23 then m_law_c23 xs L x3 sx sm else
  if z = 24 then m_law_c24 xs L x3 sx sm else
  if z = 25 then m_law_c25 xs L x3 sx sm else
  if z = 26 then m_law_c26 xs L x3 sx sm else
  if z = 27 then m_law_c27 xs L x3 sx sm else
  if z = 28 then m_law_c28 xs L x3 sx sm else
  if z = 29 then m_law_c29 xs L x3 sx sm else
  if z = 30 then m_law_c30 xs L x3 sx sm else
  if z = 31 then m_law_c31 xs L x3 sx sm else
  if z = 32 then m_law_c32 xs L x3 sx sm else
  if z = 33 then m_law_c33 xs L x3 sx sm else
  if z = 34 then m_law_c34 xs L x3 sx sm else
  if z = 35 then m_law_c35 xs L x3 sx sm else
  if z = 36 then m_law_c36 xs L x3 sx sm else
  m_law_cd xs L x3 sx sm
set_option maxHeartbeats 8000000 in
set_option maxRecDepth 100000 in
theorem b_law {C : Cm} {E : Ev} {oM : Nat} {aM : Nat → Nat} {b L : Nat} {xs : Nat → Int32} (cx : Cx C (tyE E) cL_law RL 4 9 334) (cl : CxL C b L xs) : ∀ (s : Int32 × Sg × Sg) (out : (Int32 × Sg × Sg) ⊕ (Sg × Sg)), m_law xs L s.1 s.2.1 s.2.2 = some out → Sum.elim (V_law C E oM aM b) (K_law C E oM aM b) out → V_law C E oM aM b s := by
  intro s out h hk
  obtain ⟨x3, sx, sm⟩ := s
  show Vat C (wX (xR E (RM E oM aM sm))) 4 18 [(0, .ref b), (1, .ref (oX E 0)), (2, .ref oM), (3, .int x3)] [] sx
  replace h : m_law xs L x3 sx sm = some out := h
  unfold m_law at h
  refine v_iload_n 19 3 cx dL_law_18 rfl rfl rfl ?_
  refine v_aload_n 20 0 cx dL_law_19 rfl rfl rfl ?_
  refine v_slen 21 cx cl dL_law_20 rfl ?_
  refine v_bipush 23 cx dL_law_21 bp_6 rfl ?_
  refine v_isub 24 cx dL_law_23 rfl ?_
  refine v_icmp_gt 1458 27 cx dL_law_24 (by decide) rfl h (fun h => ?_) (fun h => ?_)
  · cases h
    have hk : Vat C (wX (xR E (RM E oM aM sm))) 4 1458 [(0, .ref b), (1, .ref (oX E 0)), (2, .ref oM)] [] sx := hk
    exact v_lsub (lv' := [(0, .ref b), (1, .ref (oX E 0)), (2, .ref oM)]) [0, 1, 2] rfl hk
  · refine v_aload_n 28 0 cx dL_law_27 rfl rfl rfl ?_
    refine v_iload_n 29 3 cx dL_law_28 rfl rfl rfl ?_
    refine v_sld 30 cx cl dL_law_29 rfl h (fun v h => ?_)
    refine v_bipush 32 cx dL_law_30 bp_63 rfl ?_
    refine v_iand 33 cx dL_law_32 rfl ?_
    unfold nmk at h
    refine v_tabC 196 0 (ck := 0) cx dL_law_33 (by decide) (by decide) rfl (by decide) (fun i hi => absurd hi (Nat.not_lt_zero i)) h (fun h => j_law_c0 cx cl x3 sx sm out h hk) (fun hn h => ?_)
    refine v_tabC 249 1 (ck := 1) cx dL_law_33 (by decide) (by decide) rfl (by decide) hn h (fun h => j_law_c1 cx cl x3 sx sm out h hk) (fun hn h => ?_)
    refine v_tabC 312 2 (ck := 2) cx dL_law_33 (by decide) (by decide) rfl (by decide) hn h (fun h => j_law_c2 cx cl x3 sx sm out h hk) (fun hn h => ?_)
    refine v_tabC 355 3 (ck := 3) cx dL_law_33 (by decide) (by decide) rfl (by decide) hn h (fun h => j_law_c3 cx cl x3 sx sm out h hk) (fun hn h => ?_)
    refine v_tabC 418 4 (ck := 4) cx dL_law_33 (by decide) (by decide) rfl (by decide) hn h (fun h => j_law_c4 cx cl x3 sx sm out h hk) (fun hn h => ?_)
    refine v_tabC 471 5 (ck := 5) cx dL_law_33 (by decide) (by decide) rfl (by decide) hn h (fun h => j_law_c5 cx cl x3 sx sm out h hk) (fun hn h => ?_)
    refine v_tabC 524 6 (ck := 6) cx dL_law_33 (by decide) (by decide) rfl (by decide) hn h (fun h => j_law_c6 cx cl x3 sx sm out h hk) (fun hn h => ?_)
    refine v_tabC 587 7 (ck := 7) cx dL_law_33 (by decide) (by decide) rfl (by decide) hn h (fun h => j_law_c7 cx cl x3 sx sm out h hk) (fun hn h => ?_)
    refine v_tabC 620 8 (ck := 8) cx dL_law_33 (by decide) (by decide) rfl (by decide) hn h (fun h => j_law_c8 cx cl x3 sx sm out h hk) (fun hn h => ?_)
    refine v_tabC 673 9 (ck := 9) cx dL_law_33 (by decide) (by decide) rfl (by decide) hn h (fun h => j_law_c9 cx cl x3 sx sm out h hk) (fun hn h => ?_)
    refine v_tabC 686 10 (ck := 10) cx dL_law_33 (by decide) (by decide) rfl (by decide) hn h (fun h => j_law_c10 cx cl x3 sx sm out h hk) (fun hn h => ?_)
    refine v_tabC 719 11 (ck := 11) cx dL_law_33 (by decide) (by decide) rfl (by decide) hn h (fun h => j_law_c11 cx cl x3 sx sm out h hk) (fun hn h => ?_)
    refine v_tabC 743 12 (ck := 12) cx dL_law_33 (by decide) (by decide) rfl (by decide) hn h (fun h => j_law_c12 cx cl x3 sx sm out h hk) (fun hn h => ?_)
    refine v_tabC 766 13 (ck := 13) cx dL_law_33 (by decide) (by decide) rfl (by decide) hn h (fun h => j_law_c13 cx cl x3 sx sm out h hk) (fun hn h => ?_)
    refine v_tabC 779 14 (ck := 14) cx dL_law_33 (by decide) (by decide) rfl (by decide) hn h (fun h => j_law_c14 cx cl x3 sx sm out h hk) (fun hn h => ?_)
    refine v_tabC 838 15 (ck := 15) cx dL_law_33 (by decide) (by decide) rfl (by decide) hn h (fun h => j_law_c15 cx cl x3 sx sm out h hk) (fun hn h => ?_)
    refine v_tabC 861 16 (ck := 16) cx dL_law_33 (by decide) (by decide) rfl (by decide) hn h (fun h => j_law_c16 cx cl x3 sx sm out h hk) (fun hn h => ?_)
    refine v_tabC 934 17 (ck := 17) cx dL_law_33 (by decide) (by decide) rfl (by decide) hn h (fun h => j_law_c17 cx cl x3 sx sm out h hk) (fun hn h => ?_)
    refine v_tabC 968 18 (ck := 18) cx dL_law_33 (by decide) (by decide) rfl (by decide) hn h (fun h => j_law_c18 cx cl x3 sx sm out h hk) (fun hn h => ?_)
    refine v_tabC 1031 19 (ck := 19) cx dL_law_33 (by decide) (by decide) rfl (by decide) hn h (fun h => j_law_c19 cx cl x3 sx sm out h hk) (fun hn h => ?_)
    refine v_tabC 1044 20 (ck := 20) cx dL_law_33 (by decide) (by decide) rfl (by decide) hn h (fun h => j_law_c20 cx cl x3 sx sm out h hk) (fun hn h => ?_)
    refine v_tabC 1057 21 (ck := 21) cx dL_law_33 (by decide) (by decide) rfl (by decide) hn h (fun h => j_law_c21 cx cl x3 sx sm out h hk) (fun hn h => ?_)
    refine v_tabC 1080 22 (ck := 22) cx dL_law_33 (by decide) (by decide) rfl (by decide) hn h (fun h => j_law_c22 cx cl x3 sx sm out h hk) (fun hn h => ?_)
    refine v_tabC 1093 23 (ck := 23) cx dL_law_33 (by decide) (by decide) rfl (by decide) hn h (fun h => j_law_c23 cx cl x3 sx sm out h hk) (fun hn h => ?_)
    refine v_tabC 1116 24 (ck := 24) cx dL_law_33 (by decide) (by decide) rfl (by decide) hn h (fun h => j_law_c24 cx cl x3 sx sm out h hk) (fun hn h => ?_)
    refine v_tabC 1149 25 (ck := 25) cx dL_law_33 (by decide) (by decide) rfl (by decide) hn h (fun h => j_law_c25 cx cl x3 sx sm out h hk) (fun hn h => ?_)
    refine v_tabC 1182 26 (ck := 26) cx dL_law_33 (by decide) (by decide) rfl (by decide) hn h (fun h => j_law_c26 cx cl x3 sx sm out h hk) (fun hn h => ?_)
    refine v_tabC 1205 27 (ck := 27) cx dL_law_33 (by decide) (by decide) rfl (by decide) hn h (fun h => j_law_c27 cx cl x3 sx sm out h hk) (fun hn h => ?_)
    refine v_tabC 1228 28 (ck := 28) cx dL_law_33 (by decide) (by decide) rfl (by decide) hn h (fun h => j_law_c28 cx cl x3 sx sm out h hk) (fun hn h => ?_)
    refine v_tabC 1261 29 (ck := 29) cx dL_law_33 (by decide) (by decide) rfl (by decide) hn h (fun h => j_law_c29 cx cl x3 sx sm out h hk) (fun hn h => ?_)
    refine v_tabC 1274 30 (ck := 30) cx dL_law_33 (by decide) (by decide) rfl (by decide) hn h (fun h => j_law_c30 cx cl x3 sx sm out h hk) (fun hn h => ?_)
    refine v_tabC 1297 31 (ck := 31) cx dL_law_33 (by decide) (by decide) rfl (by decide) hn h (fun h => j_law_c31 cx cl x3 sx sm out h hk) (fun hn h => ?_)
    refine v_tabC 1346 32 (ck := 32) cx dL_law_33 (by decide) (by decide) rfl (by decide) hn h (fun h => j_law_c32 cx cl x3 sx sm out h hk) (fun hn h => ?_)
    refine v_tabC 1369 33 (ck := 33) cx dL_law_33 (by decide) (by decide) rfl (by decide) hn h (fun h => j_law_c33 cx cl x3 sx sm out h hk) (fun hn h => ?_)
    refine v_tabC 1392 34 (ck := 34) cx dL_law_33 (by decide) (by decide) rfl (by decide) hn h (fun h => j_law_c34 cx cl x3 sx sm out h hk) (fun hn h => ?_)
    refine v_tabC 1416 35 (ck := 35) cx dL_law_33 (by decide) (by decide) rfl (by decide) hn h (fun h => j_law_c35 cx cl x3 sx sm out h hk) (fun hn h => ?_)
    refine v_tabC 1429 36 (ck := 36) cx dL_law_33 (by decide) (by decide) rfl (by decide) hn h (fun h => j_law_c36 cx cl x3 sx sm out h hk) (fun hn h => ?_)
    exact v_tabD 1452 37 cx dL_law_33 (by decide) (by decide) hn (j_law_cd cx cl x3 sx sm out h hk)
