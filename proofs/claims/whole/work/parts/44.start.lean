-- 44.start: the law from its entry, out of the pure goal (written by mk10.py; the rows lw_ are the skeleton's)
def stX0 : Sg := (fun j k => if j = 3 then (if k = 2 then 1 else 0) else if j = 7 then (if k = 8 then 1 else 0) else if j = 9 then (if k = 1 then 1 else if k = 2 then 1 else 0) else if j = 14 then (if k = 1 then (-1) else if k = 2 then (-1) else 0) else if j = 15 then (if k = 1 then (-1) else if k = 2 then (-1) else 0) else if j = 16 then (if k = 1 then (-1) else if k = 2 then (-1) else 0) else 0, fun j k => if j = 1 then (if k = 10 then (filF 6 1 (fun _ => (0 : Int32))) else (fun _ => (0 : Int32))) else if j = 11 then (if k = 0 then (filF 6 (-1) (fun _ => (0 : Int32))) else (fun _ => (0 : Int32))) else (fun _ => (0 : Int32)), fun _ _ _ => 0)
def eX (i : ClassId × ClassId × ClassId) (q1 : Nat) (u : Nat → Nat) : Ev := (i, fun j => ([q1, (u 0), (u 11), (u 16), (u 17), (u 22), (u 26), (u 29), (u 30), (u 38), (u 47), (u 49), (u 51), (u 53), (u 55), (u 57), (u 61)] : List Nat).getD j 0, fun j k => (([[0, 0, 0, 0, 0, 0, 0, 0, 0, 0, (u 63)], [0, (u 1), (u 2), (u 3), (u 4), (u 5), (u 6), (u 7), (u 8), (u 9), (u 10)], [0, (u 12), (u 13), (u 14), (u 15)], [], [0, (u 18), (u 19), (u 20), (u 21)], [(u 23), (u 24), (u 25)], [(u 27), (u 28)], [0, 0, 0, (u 32), (u 33), (u 34), (u 35), (u 36), 0, (u 37)], [(u 31)], [0, 0, 0, (u 39), (u 40), (u 41), (u 42), (u 43), (u 44), (u 45), (u 46)], [(u 48)], [(u 50)], [(u 52)], [0, 0, 0, (u 54), 0, 0, (u 59), (u 60)], [0, 0, 0, 0, 0, 0, 0, (u 56)], [0, 0, 0, 0, 0, 0, 0, (u 58)], [0, 0, 0, 0, 0, 0, 0, (u 62)]] : List (List Nat)).getD j []).getD k 0, [])
def PureGoal : Prop := ∃ st1, m_X12_init st00 = some ((), st1) ∧ ∀ (xs : Nat → Int32) (L : Nat), L ≤ 3072 → ∃ r, lp (fun s : Int32 × Sg × Sg => m_law xs L s.1 s.2.1 s.2.2) FU (0, stX0, st1) = some r
theorem arr_known {ty : FieldType} {args : Array Value} {s : State} (h : (Cond.arrayClass ty).before args s = true) (hty : ∀ C, ty ≠ .object C) : ∃ cA, ArrOfT s cA ty ∧ va_RA s cA ty := by
  obtain ⟨cA, kA, comp, h1, h2, h3⟩ := Cond.arrayClass_spec (show (Cond.arrayClass ty).holds args s none s [] = true from h)
  refine ⟨cA, fun n z => ⟨fun k h => (by cases h), kA, h2, comp, h3⟩, ?_⟩
  cases ty with
  | object C => exact absurd rfl (hty C)
  | _ => exact h1
set_option maxHeartbeats 8000000 in
set_option maxRecDepth 100000 in
theorem whole_start_open (hp : PureGoal) {p : Program} {e : Env} {s : State} {m : MethodId} {below : List Frame} {meth : Method} {c : Code} (l : Launch) {b L : Nat} {xs : Nat → Int32} (hL : L ≤ 3072) (C0 : lw_At p s m meth c b L xs) : W p l e room_1 s m #[Value.ref b] below meth c s.heap [] 0 0 (lw_Z below #[Value.ref b] s) (entryFrame m ([Value.ref b] : List Value).toArray 4) := by
  obtain ⟨hx, hb, hr, hml, hown, hts0, hX, hbl, hlocks, hgv⟩ := C0
  have hts : ∀ w ∈ lwg, w.before #[Value.ref b] s = true := fun w h => hts0 w (List.mem_filter.mp h).1
  obtain ⟨c0, iS0, hKn0⟩ := u_known (C := RX0) (T := TX0) (N := 12) (n := 12) hts iX0 (hts _ kn_X0)
  obtain ⟨c1, iS1, hKn1⟩ := u_known (C := RX1) (T := TX1) (N := 5) (n := 5) hts iX1 (hts _ kn_X1)
  obtain ⟨c2, iS2, hKn2⟩ := u_known (C := RX2) (T := TX2) (N := 1) (n := 1) hts iX2 (hts _ kn_X2)
  obtain ⟨c3, iS3, hKn3⟩ := u_known (C := RX3) (T := TX3) (N := 2) (n := 2) hts iX3 (hts _ kn_X3)
  obtain ⟨c4, iS4, hKn4⟩ := u_known (C := RX4) (T := TX4) (N := 12) (n := 12) hts iX4 (hts _ kn_X4)
  obtain ⟨c5, iS5, hKn5⟩ := u_known (C := RX5) (T := TX5) (N := 8) (n := 8) hts iX5 (hts _ kn_X5)
  obtain ⟨c6, iS6, hKn6⟩ := u_known (C := RX6) (T := TX6) (N := 3) (n := 3) hts iX6 (hts _ kn_X6)
  obtain ⟨c7, iS7, hKn7⟩ := u_known (C := RX7) (T := TX7) (N := 8) (n := 8) hts iX7 (hts _ kn_X7)
  obtain ⟨c8, iS8, hKn8⟩ := u_known (C := RX8) (T := TX8) (N := 11) (n := 11) hts iX8 (hts _ kn_X8)
  obtain ⟨c9, iS9, hKn9⟩ := u_known (C := RX9) (T := TX9) (N := 2) (n := 2) hts iX9 (hts _ kn_X9)
  obtain ⟨c10, iS10, hKn10⟩ := u_known (C := RX10) (T := TX10) (N := 3) (n := 3) hts iX10 (hts _ kn_X10)
  obtain ⟨c11, iS11, hKn11⟩ := u_known (C := RX11) (T := TX11) (N := 11) (n := 11) hts iX11 (hts _ kn_X11)
  obtain ⟨c12, iS12, hKn12⟩ := u_known (C := RX12) (T := TX12) (N := 45) (n := 45) hts iX12 (hts _ kn_X12)
  obtain ⟨D, hKc⟩ : ∃ D : va_G, ∀ (k : Nat) (q : vw_C), vwCl[k]? = some q → u_Kn s q.1 q.2.1 q.2.2 (D.1 k) (D.2 k) := by
    refine ⟨(fun k => if k = 0 then c0 else if k = 1 then c1 else if k = 2 then c2 else if k = 3 then c3 else if k = 4 then c4 else if k = 5 then c5 else if k = 6 then c6 else if k = 7 then c7 else if k = 8 then c8 else if k = 9 then c9 else if k = 10 then c10 else if k = 11 then c11 else c12, fun k => if k = 0 then iS0 else if k = 1 then iS1 else if k = 2 then iS2 else if k = 3 then iS3 else if k = 4 then iS4 else if k = 5 then iS5 else if k = 6 then iS6 else if k = 7 then iS7 else if k = 8 then iS8 else if k = 9 then iS9 else if k = 10 then iS10 else if k = 11 then iS11 else iS12), ?_⟩
    intro k q hq
    match k, hq with
    | 0, hq => cases hq; exact hKn0
    | 1, hq => cases hq; exact hKn1
    | 2, hq => cases hq; exact hKn2
    | 3, hq => cases hq; exact hKn3
    | 4, hq => cases hq; exact hKn4
    | 5, hq => cases hq; exact hKn5
    | 6, hq => cases hq; exact hKn6
    | 7, hq => cases hq; exact hKn7
    | 8, hq => cases hq; exact hKn8
    | 9, hq => cases hq; exact hKn9
    | 10, hq => cases hq; exact hKn10
    | 11, hq => cases hq; exact hKn11
    | 12, hq => cases hq; exact hKn12
    | k + 13, hq => simp [vwCl] at hq
  obtain ⟨cyI, hI1, hI2⟩ := arr_known (hts _ kar_I) (fun _ h => by cases h)
  obtain ⟨cyJ, hJ1, hJ2⟩ := arr_known (hts _ kar_J) (fun _ h => by cases h)
  obtain ⟨cyZ, hZ1, hZ2⟩ := arr_known (hts _ kar_Z) (fun _ h => by cases h)
  obtain ⟨E0, hE0⟩ : ∃ E0 : Ev, E0 = ((cyI, cyJ, cyZ), fun _ => 0, fun _ _ => 0, []) := ⟨_, rfl⟩
  have hK : va_K D vwCl (tyE E0) s := by
    subst hE0
    refine ⟨hKc, fun k q hq => ?_⟩
    match k, hq with
    | 0, hq => cases hq; exact ⟨hI1, hI2⟩
    | 1, hq => cases hq; exact ⟨hJ1, hJ2⟩
    | 2, hq => cases hq; exact ⟨hZ1, hZ2⟩
    | k + 3, hq => simp [tyE] at hq
  obtain ⟨C, hC⟩ : ∃ C : Cm, C = (p, l, e, room_1, s, m, #[Value.ref b], below, meth, c, lw_Z below #[Value.ref b] s, D, (fun q : Nat => s.heap.size ≤ q), 600000, 7302250) := ⟨_, rfl⟩
  have cx : Cx C (tyE E0) cL_law RL 4 9 334 := by
    subst hC
    exact ⟨hx, hb, hml, hown, hts, hK, fun _ h => h, rfl, rfl, Nat.le_refl _, Nat.le_refl _⟩
  have cn : CxN C (tyE E0) cL_law RL 4 9 334 600000 7302250 := ⟨cx, by subst hC; rfl, by subst hC; rfl, fun h => absurd rfl h⟩
  have hcl : C.2.2.2.2.2.2.2.2.2.2.2.2.2 = (600000, 7302250) := by subst hC; rfl
  have cl : CxL C b L xs := by
    subst hC
    exact ⟨hX, hbl, Nat.not_le.mpr hbl⟩
  have hl := lv_entry ([.ref b]) (n := 4) (Nat.le_of_ble_eq_true rfl)
  rw [lg_entry_eq]
  obtain ⟨st1, hst1, hpure⟩ := hp
  obtain ⟨r0, hr0⟩ := hpure xs L hL
  have fin : ∀ (E : Ev) (oM : Nat) (aM : Nat → Nat) (r : Sg × Sg), tyE E = tyE E0 → K_law C E oM aM b r := by
    intro E oM aM r hE
    show Vat C (wX (xR E (RM E oM aM r.2))) 4 1458 [(0, .ref b), (1, .ref (oX E 0)), (2, .ref oM)] [] r.1
    refine v_iconst 1459 cx dL_law_1458 ic_1 rfl ?_
    subst hC
    intro H locs ls hW hl
    refine va_forget (fun q hq => hW.2.2.2.2 q hq) ?_
    exact lw_ret hx hb hr hlocks dL_law_1459
  have main : Vaw C [] 4 0 [(0, .ref b)] [] 0 0 := by
    refine n_new 3 (ci := 11) [.null, .null, .null, .null, .null, .null, .null, .null, .null, .int 0, .null] cn dL_law_0 iX11 tyX11_ok kl_L_7 kn_X11 ki_X11 rfl (fun j hj => by rcases (show j = 0 ∨ j = 1 ∨ j = 2 ∨ j = 3 ∨ j = 4 ∨ j = 5 ∨ j = 6 ∨ j = 7 ∨ j = 8 ∨ j = 9 ∨ j = 10 by omega) with rfl | rfl | rfl | rfl | rfl | rfl | rfl | rfl | rfl | rfl | rfl <;> rfl) (by decide) (by decide) rfl (fun q1 => ?_)
    refine n_dup 4 cn dL_law_3 rfl rfl ?_
    refine n_callI 7 cn dL_law_4 km_L_9 ca_X11_init (c_X11_init C.2.1 E0 q1 []) rfl (by decide) (by decide) (by decide) rfl (Nat.le_of_ble_eq_true rfl) rfl (fun u => ?_)
    have hE : tyE (eX E0.1 q1 u) = tyE E0 := rfl
    refine n_sub (ws' := RX (eX E0.1 q1 u) stX0) [64, 63, 53, 47, 46, 41, 37, 34, 33, 25, 16, 14, 13, 10, 8, 6, 2, 0, 62, 61, 60, 59, 58, 57, 56, 55, 54, 48, 52, 51, 50, 49, 45, 44, 43, 42, 40, 39, 38, 36, 35, 31, 30, 29, 28, 27, 26, 32, 24, 23, 22, 21, 20, 19, 18, 17, 15, 11, 12, 9, 4, 3, 7, 5, 1] rfl (by decide) rfl ?_
    refine n_astore_n 8 [(1, .ref q1), (0, .ref b)] cn dL_law_7 rfl (by decide) rfl rfl ?_
    refine n_new 11 (ci := 12) [.null, .null, .null, .null, .null, .null, .null, .null, .null, .int 0, .null, .null, .null, .null, .null, .int 0, .null, .null, .null, .null, .int 0, .null, .null, .null, .null, .null, .int 0, .int 0, .null, .null, .null, .null, .int 0, .null, .null, .null, .null, .null, .int 0, .int 0, .int 0, .int 0, .int 0, .int 0, .int 0] cn dL_law_8 iX12 tyX12_ok kl_L_10 kn_X12 ki_X12 rfl (fun j hj => by rcases (show j = 0 ∨ j = 1 ∨ j = 2 ∨ j = 3 ∨ j = 4 ∨ j = 5 ∨ j = 6 ∨ j = 7 ∨ j = 8 ∨ j = 9 ∨ j = 10 ∨ j = 11 ∨ j = 12 ∨ j = 13 ∨ j = 14 ∨ j = 15 ∨ j = 16 ∨ j = 17 ∨ j = 18 ∨ j = 19 ∨ j = 20 ∨ j = 21 ∨ j = 22 ∨ j = 23 ∨ j = 24 ∨ j = 25 ∨ j = 26 ∨ j = 27 ∨ j = 28 ∨ j = 29 ∨ j = 30 ∨ j = 31 ∨ j = 32 ∨ j = 33 ∨ j = 34 ∨ j = 35 ∨ j = 36 ∨ j = 37 ∨ j = 38 ∨ j = 39 ∨ j = 40 ∨ j = 41 ∨ j = 42 ∨ j = 43 ∨ j = 44 by omega) with rfl | rfl | rfl | rfl | rfl | rfl | rfl | rfl | rfl | rfl | rfl | rfl | rfl | rfl | rfl | rfl | rfl | rfl | rfl | rfl | rfl | rfl | rfl | rfl | rfl | rfl | rfl | rfl | rfl | rfl | rfl | rfl | rfl | rfl | rfl | rfl | rfl | rfl | rfl | rfl | rfl | rfl | rfl | rfl | rfl <;> rfl) (by decide) (by decide) rfl (fun q2 => ?_)
    refine n_dup 12 cn dL_law_11 rfl rfl ?_
    refine n_callI 15 cn dL_law_12 km_L_12 ca_X12_init (c_X12_init C.2.1 E0 q2 (RX (eX E0.1 q1 u) stX0) st1 hst1) rfl (by decide) (by decide) (by decide) rfl (Nat.le_of_ble_eq_true rfl) rfl (fun u2 => ?_)
    refine n_astore_n 16 [(2, .ref q2), (1, .ref q1), (0, .ref b)] cn dL_law_15 rfl (by decide) rfl rfl ?_
    refine n_iconst 17 cn dL_law_16 ic_0 rfl ?_
    refine n_istore_n 18 [(3, .int 0), (2, .ref q2), (1, .ref q1), (0, .ref b)] cn dL_law_17 rfl (by decide) rfl rfl ?_
    refine n_vat (wl := wX (xR (eX E0.1 q1 u) (RM (eX E0.1 q1 u) q2 u2 st1))) (st := stX0) (law_MX (eX E0.1 q1 u) q2 u2 stX0 st1) (by rw [hcl]; decide) (by rw [hcl]; decide) ?_
    refine v_lsub (lv' := [(0, .ref b), (1, .ref (oX (eX E0.1 q1 u) 0)), (2, .ref q2), (3, .int 0)]) [3, 2, 1, 0] rfl ?_
    exact lp_ind (V_law C (eX E0.1 q1 u) q2 u2 b) (K_law C (eX E0.1 q1 u) q2 u2 b) (b_law cx cl) FU (0, stX0, st1) r0 hr0 (fin _ _ _ _ hE)
  subst hC
  exact main s.heap [] _ ⟨fun k q h => by simp at h, ⟨fun i j p q h => by simp at h, fun k q h => by simp at h⟩, va_S.rf⟩ hl
set_option maxHeartbeats 4000000 in
theorem lw_walk_open (hp : PureGoal) (l : Launch) (b : Addr) (xs : List Int32) : MetFree l x (headSpec (Jvm.Cond.code x code maxLocals ret :: tables_1) room_1) (lw_P b xs) (fun _ _ _ _ _ => True) lw_Q := by
  refine MetFree.of_bodyS (code := code) (maxLocals := maxLocals) (ret := ret) (by decide) ?_ ?_
  · intro args s m h hn
    obtain ⟨meth, c, h1, h2, h3, h4, h5, h6, -, -⟩ := Cond.code_spec hn (atoms_spec (ws := Jvm.Cond.code x code maxLocals ret :: tables_1) h _ List.mem_cons_self)
    exact ⟨meth, c, h1, h2, h3, h4, h5, h6⟩
  · intro p e s m args below meth c s₁ B hml0 hP _
    obtain ⟨rfl, hx, hbd, hgv⟩ := hP
    obtain ⟨scr, harrAt, hlist, hof, hsmall⟩ := hx
    obtain ⟨hcb, hkn, -, -⟩ := State.arrayAt?_spec harrAt
    have hown : s.vm.findClass R_law = some m.cls := findClass_of_methodNamed B.named
    have hts0 : ∀ c ∈ (Jvm.Cond.code x code maxLocals ret :: tables_1), c.before #[Value.ref b] s = true := atoms_spec (ws := Jvm.Cond.code x code maxLocals ret :: tables_1) B.pre
    have hts : ∀ w ∈ lw_tbl, w.before #[Value.ref b] s = true := k2_hts_sels lw_privs (fun w hw => hts0 w (List.mem_cons_of_mem _ hw)) lw_privs_ok
    have hml : c.maxLocals = 4 := B.maxLocals_eq (hts0 _ List.mem_cons_self)
    have X₀ : Stand p l e room_1 s m #[Value.ref b] below meth c s₁ [] 0 0 := Stand.of_body B
    have hh0 : s₁.heap = s.heap := by rw [B.state]; rfl
    have hsz : scr.slots.size = xs.length := by rw [← Array.length_toList, hlist, List.length_map]
    have hval : ∀ j : Nat, j < xs.length → scr.slots[j]? = some (.int (xs.getD j 0)) := fun j hj => by
      rw [← Array.getElem?_toList, hlist]
      simp [hj]
    have hbl : b < s.heap.size := (Array.getElem?_eq_some_iff.mp hcb).1
    have hX : va_X b xs.length (fun j => xs.getD j 0) s s.heap := ⟨scr, hcb, hof, hkn, hsz, hval⟩
    have K : W p l e room_1 s m #[Value.ref b] below meth c s₁.heap [] 0 0 (lw_Z below #[Value.ref b] s) (entryFrame m ([Value.ref b] : List Value).toArray 4) := by
      rw [hh0]
      exact whole_start_open hp l hbd ⟨B.exec, B.bytes, B.returns, hml, hown, hts, hX, hbl, B.notSynchronized, hgv⟩
    obtain ⟨t, a1, o, b1, b2, b3⟩ := K s₁ rfl X₀
    exact ⟨t, o, a1, b1, b2, b3⟩
theorem lw_pre_spec {args : Array Value} {s : State} (h : (Jvm.Cond.and given_1 narrow_1).before args s = true) (hr : rest_1_c.before args s = true) : ∃ (b : Addr) (xs : List Int32), lw_P b xs args s := by
  have hs := flat_of_before _ h
  have hq := flat_of_before _ hr
  have hc : (Cond.count 1).before args s = true := hs _ (by decide +kernel)
  have harr : (Cond.arrayOf (.arg 0) .int).before args s = true := hs _ (by decide +kernel)
  have hle : (Cond.le (.length (.arg 0)) (.int 3072)).before args s = true := hs _ (by decide +kernel)
  have hlen : (Cond.isInt (.length (.arg 0))).before args s = true := hq _ (by decide +kernel)
  have hall : (Cond.all (.arg 0) (.isInt (.elem (.arg 0) (.index 0)))).before args s = true := hq _ (by decide +kernel)
  obtain ⟨b, xs, hb, hx⟩ := State.ints_of_pre rfl harr hlen hall
  have hsm : xs.length < 2 ^ 31 := hx.choose_spec.2.2.2
  have hev : (Term.length (.arg 0)).eval args s none [] s = some (.int xs.length.toInt32) := hx.length_eval hb
  have hv := Cond.le_ints hev (show (Term.int 3072).eval args s none [] s = some (.int 3072) from rfl)
  have hd : xs.length.toInt32 ≤ 3072 := by
    simpa [Cond.before, Cond.holds, hv] using hle
  have hN : xs.length ≤ 3072 := (Int32.ofNat_le_ofNat hsm (by decide)).mp (show Int32.ofNat xs.length ≤ Int32.ofNat 3072 from hd)
  exact ⟨b, xs, Cond.one_arg hc (show args[0]? = some (.ref b) from hb), hx, hN, h⟩
theorem lw_comes_open (hp : PureGoal) (l : Launch) : Comes l x (Jvm.Cond.code x code maxLocals ret :: tables_1) room_1 (fun tb e args s => Calls_1 tb e args s ∧ rest_1 tb e args s ∧ Pre_1 tb e args s)
    (fun _ _ args s o t => lw_Q args s o t) := by
  intro p e ha hc hk s m args below hf hfit hheap happ hpre
  obtain ⟨b, xs, hP⟩ := lw_pre_spec hpre.2.2 hpre.2.1
  obtain ⟨k, o, h1, h2, h3, hQ⟩ := lw_walk_open hp l b xs p e ha hc hk s m args below hf ((Spec.applies_iff_loose hf).mp happ).1 hP trivial
  exact ⟨k, o, h1, h2, h3, hQ⟩
theorem lw_frame {s t : State} {o : Outcome} {args : Array Value} (h : Framed s o t [] 600000 7302250) :
    Framed s o t (fieldLocs frame_1_writes args s ++ arrayLocs frame_1_arrays args s ++ staticLocs frame_1_statics s) 600000 7302250 := h
theorem lw_limb_open (hp : PureGoal) (L : Cond) (hL : ∀ (args : Array Value) (s t : State), L.after args s (.returned (some (.int 1))) t = true) :
    ArmFor flags0 classFile x code maxLocals ret World_1 tables_1 room_1 Calls_1 rest_1 Pre_1
      (fun tb e a s o t => postC L tb e a s o t ∧ Framed s o t (fieldLocs frame_1_writes a s ++ arrayLocs frame_1_arrays a s ++ staticLocs frame_1_statics s) 600000 7302250) := by
  intro l _ _ _ p e ha hc hk s m args below hf hfit hheap happ hpre
  obtain ⟨k, o, h1, h2, h3, rfl, hF⟩ := lw_comes_open hp l p e ha hc hk s m args below hf hfit hheap happ hpre
  exact ⟨k, _, h1, h2, h3, hL args s _, lw_frame hF⟩
theorem i_vc_open (hp : PureGoal) : Claimed_1_1 ∧ Claimed_1_2 := ⟨lw_limb_open hp limb_1_1 (fun args s t => by simp [limb_1_1, Cond.after, Cond.holds, Cond.value]), lw_limb_open hp limb_1_2 (fun args s t => Cond.after_iff.mpr (by
  first | (rw [show limb_1_2 = Cond.eq .result (.int 1) from rfl, Cond.eq_ints (x := 1) (y := 1) rfl rfl]; simp; done) | (simp [limb_1_2, Cond.value, Term.eval]; done)))⟩
