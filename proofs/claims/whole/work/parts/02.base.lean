-- 02.base: the state of a world (Sg), the judgement Vat (the machine at a frame, over a world), its rules; all by the kit's rows
/-- the tables' words that go through calls -/
def lwg : List Cond := lw_tbl.filter goodWord
theorem lwg_of {w : Cond} (h : w ∈ lw_tbl) (g : goodWord w = true) : w ∈ lwg := List.mem_filter.mpr ⟨h, g⟩
abbrev Sg : Type := (Nat → Nat → Int32) × (Nat → Nat → Nat → Int32) × (Nat → Nat → Nat → Int64)
def gI (s : Sg) (j k : Nat) : Int32 := s.1 j k
def gA (s : Sg) (j k : Nat) : Nat → Int32 := s.2.1 j k
def gL (s : Sg) (j k : Nat) : Nat → Int64 := s.2.2 j k
def pI (s : Sg) (j k : Nat) (v : Int32) : Sg := (fun a b => if a = j then (if b = k then v else s.1 a b) else s.1 a b, s.2)
def pA (s : Sg) (j k : Nat) (v : Nat → Int32) : Sg := (s.1, fun a b => if a = j then (if b = k then v else s.2.1 a b) else s.2.1 a b, s.2.2)
def pL (s : Sg) (j k : Nat) (v : Nat → Int64) : Sg := (s.1, s.2.1, fun a b => if a = j then (if b = k then v else s.2.2 a b) else s.2.2 a b)
def vpb (i : Int32) (n : Nat) : Bool := !(decide (i < 0)) && decide (i.toNatClampNeg < n)
theorem vpb_in {i : Int32} {n : Nat} (h : vpb i n = true) : vp_in i n := by
  unfold vpb at h
  unfold vp_in
  simp at h
  intro q
  rcases q with q | q
  · exact absurd q (by simpa using h.1)
  · omega
-- the words of a mirror: each is one step of the machine that may fail, with what follows it
def lAk {β : Type} (st : Sg) (j k n : Nat) (i : Int32) (f : Int32 → Option β) : Option β := if vpb i n = true then f (gA st j k i.toNatClampNeg) else none
def lLk {β : Type} (st : Sg) (j k n : Nat) (i : Int32) (f : Int64 → Option β) : Option β := if vpb i n = true then f (gL st j k i.toNatClampNeg) else none
def sAk {β : Type} (st : Sg) (j k n : Nat) (i x : Int32) (f : Sg → Option β) : Option β := if vpb i n = true then f (pA st j k (upd (gA st j k) i.toNatClampNeg x)) else none
def sZk {β : Type} (st : Sg) (j k n : Nat) (i x : Int32) (f : Sg → Option β) : Option β := if vpb i n = true then f (pA st j k (upd (gA st j k) i.toNatClampNeg (vp_nar .boolean x))) else none
def sLk {β : Type} (st : Sg) (j k n : Nat) (i : Int32) (x : Int64) (f : Sg → Option β) : Option β := if vpb i n = true then f (pL st j k (vp_updL (gL st j k) i.toNatClampNeg x)) else none
def gIk {β : Type} (st : Sg) (j k : Nat) (f : Int32 → Option β) : Option β := f (gI st j k)
def sIk {β : Type} (st : Sg) (j k : Nat) (v : Int32) (f : Sg → Option β) : Option β := f (pI st j k v)
def nmk {β α : Type} (e : α) (f : α → Option β) : Option β := f e
def dvk {β : Type} (y : Int32) (f : Option β) : Option β := if y = 0 then none else f
def dlk {β : Type} (y : Int64) (f : Option β) : Option β := if y = 0 then none else f
def bok {β : Type} (v : Int32) (f : Option β) : Option β := if v = 0 then f else if v = 1 then f else none
def clk {β ρ : Type} (m : Option (ρ × Sg)) (f : ρ → Sg → Option β) : Option β := match m with
  | none => none
  | some q => f q.1 q.2
def cpAk {β : Type} (st : Sg) (j0 k0 n0 : Nat) (sp : Int32) (j1 k1 n1 : Nat) (dp n : Int32) (f : Sg → Option β) : Option β := if sp < 0 then none else if dp < 0 then none else if n < 0 then none else if sp.toNatClampNeg + n.toNatClampNeg ≤ n0 then if dp.toNatClampNeg + n.toNatClampNeg ≤ n1 then f (pA st j1 k1 (va_cpy (gA st j0 k0) (gA st j1 k1) sp.toNatClampNeg dp.toNatClampNeg n.toNatClampNeg)) else none else none
def cpLk {β : Type} (st : Sg) (j0 k0 n0 : Nat) (sp : Int32) (j1 k1 n1 : Nat) (dp n : Int32) (f : Sg → Option β) : Option β := if sp < 0 then none else if dp < 0 then none else if n < 0 then none else if sp.toNatClampNeg + n.toNatClampNeg ≤ n0 then if dp.toNatClampNeg + n.toNatClampNeg ≤ n1 then f (pL st j1 k1 (va_cpy (gL st j0 k0) (gL st j1 k1) sp.toNatClampNeg dp.toNatClampNeg n.toNatClampNeg)) else none else none
def lp {σ ρ : Type} (step : σ → Option (σ ⊕ ρ)) : Nat → σ → Option ρ
  | 0, _ => none
  | n + 1, s => match step s with
    | none => none
    | some (.inl s') => lp step n s'
    | some (.inr r) => some r
def FU : Nat := 1000000
def lpk {σ ρ β : Type} (step : σ → Option (σ ⊕ ρ)) (n : Nat) (s : σ) (f : ρ → Option β) : Option β := match lp step n s with
  | none => none
  | some r => f r
abbrev mx (x y : Int32) : Int32 := if x < y then y else x
theorem lp_ind {σ ρ : Type} {step : σ → Option (σ ⊕ ρ)} (V : σ → Prop) (K : ρ → Prop) (hb : ∀ s out, step s = some out → Sum.elim V K out → V s) : ∀ n s r, lp step n s = some r → K r → V s := by
  intro n
  induction n with
  | zero => intro s r h; cases h
  | succ n ih =>
    intro s r h hk
    unfold lp at h
    cases hs : step s with
    | none => rw [hs] at h; cases h
    | some out =>
      rw [hs] at h
      cases out with
      | inl s' => exact hb s _ hs (ih s' r h hk)
      | inr q => cases h; exact hb s _ hs hk
theorem v_loop {σ ρ β : Type} {step : σ → Option (σ ⊕ ρ)} {n : Nat} {s0 : σ} {f : ρ → Option β} {o : β} (V : σ → Prop) (K : ρ → Prop) (h : lpk step n s0 f = some o) (hb : ∀ s out, step s = some out → Sum.elim V K out → V s) (hK : ∀ r, f r = some o → K r) : V s0 := by
  unfold lpk at h
  cases hl : lp step n s0 with
  | none => rw [hl] at h; cases h
  | some r => rw [hl] at h; exact lp_ind V K hb n s0 r hl (hK r h)
-- the machine's fixed things: program, launch, env, room, state at entry, method, args, below, method, code, goal, classes' numbers, the cells that may change
abbrev Cm : Type := Program × Launch × Env × Room × State × MethodId × Array Value × List Frame × Method × Code × (State → Prop) × va_G × (Nat → Prop) × Nat × Nat
def Wo (C : Cm) (ws : va_W) (H : Heap) (locs : List Loc) : Prop := va_P C.2.2.2.2.2.2.2.2.2.2.2.1 vwCl ws H ∧ va_D C.2.2.2.2.2.2.2.2.2.2.2.2.1 ws ∧ va_S C.2.2.2.2.2.2.2.2.2.2.2.2.1 C.2.2.2.2.1.heap H locs
def Vat (C : Cm) (wl : Sg → va_W) (nL pc : Nat) (lv : List (Nat × Value)) (stk : List Value) (st : Sg) : Prop := ∀ (H : Heap) (locs : List Loc) (ls : Array Slot), Wo C (wl st) H locs → lv_has ls nL lv → W C.1 C.2.1 C.2.2.1 C.2.2.2.1 C.2.2.2.2.1 C.2.2.2.2.2.1 C.2.2.2.2.2.2.1 C.2.2.2.2.2.2.2.1 C.2.2.2.2.2.2.2.2.1 C.2.2.2.2.2.2.2.2.2.1 H locs C.2.2.2.2.2.2.2.2.2.2.2.2.2.1 C.2.2.2.2.2.2.2.2.2.2.2.2.2.2 C.2.2.2.2.2.2.2.2.2.2.1 (F0 C.2.2.2.2.2.1 pc ls stk)
def Cx (C : Cm) (tys : List (ClassId × FieldType)) (cc : ByteArray) (own : String) (nL fr lo : Nat) : Prop := C.1.tables.exec = Jvm.exec ∧ C.2.2.2.2.2.2.2.2.2.1.code = cc ∧ C.2.2.2.2.2.2.2.2.2.1.maxLocals = nL ∧ C.2.2.2.2.1.vm.findClass own = some C.2.2.2.2.2.1.cls ∧ (∀ w ∈ lwg, w.before C.2.2.2.2.2.2.1 C.2.2.2.2.1 = true) ∧ va_K C.2.2.2.2.2.2.2.2.2.2.2.1 vwCl tys C.2.2.2.2.1 ∧ (∀ q, C.2.2.2.2.1.heap.size ≤ q → C.2.2.2.2.2.2.2.2.2.2.2.2.1 q) ∧ C.2.2.2.1.frames = fr ∧ C.2.2.2.1.locals = lo ∧ C.2.2.2.2.2.2.2.2.2.2.2.2.2.1 ≤ C.2.2.2.1.cells ∧ C.2.2.2.2.2.2.2.2.2.2.2.2.2.2 ≤ C.2.2.2.1.slots
section VR
variable {C : Cm} {wl : Sg → va_W} {nL pc fr lo : Nat} {lv lv' : List (Nat × Value)} {stk : List Value} {st : Sg} {tys : List (ClassId × FieldType)} {cc : ByteArray} {own : String} {β : Type} {o : β}
theorem v_lsub (ks : List Nat) (h : lv_pick lv ks = lv') (k : Vat C wl nL pc lv' stk st) : Vat C wl nL pc lv stk st := fun H locs ls hW hl => k H locs ls hW (lv_sub hl ks h)
theorem v_iconst (pc' : Nat) {n : Int} {v : Int32} (cx : Cx C tys cc own nL fr lo) (hd : decode cc pc = .ok (.iconst n, 1)) (hv : Int32.ofInt n = v) (hp : pc + 1 = pc') (k : Vat C wl nL pc' lv (.int v :: stk) st) : Vat C wl nL pc lv stk st := by
  subst hp
  exact fun H locs ls hW hl => lv_iconst cx.1 cx.2.1 hd hv (k H locs ls hW hl)
theorem v_bipush (pc' : Nat) {n : Int} {v : Int32} (cx : Cx C tys cc own nL fr lo) (hd : decode cc pc = .ok (.bipush n, 2)) (hv : (Int8.ofInt n).toInt32 = v) (hp : pc + 2 = pc') (k : Vat C wl nL pc' lv (.int v :: stk) st) : Vat C wl nL pc lv stk st := by
  subst hp
  exact fun H locs ls hW hl => lv_bipush cx.1 cx.2.1 hd hv (k H locs ls hW hl)
theorem v_sipush (pc' : Nat) {n : Int} {v : Int32} (cx : Cx C tys cc own nL fr lo) (hd : decode cc pc = .ok (.sipush n, 3)) (hv : (Int16.ofInt n).toInt32 = v) (hp : pc + 3 = pc') (k : Vat C wl nL pc' lv (.int v :: stk) st) : Vat C wl nL pc lv stk st := by
  subst hp
  exact fun H locs ls hW hl => lv_sipush cx.1 cx.2.1 hd hv (k H locs ls hW hl)
theorem v_lconst (pc' : Nat) {n : Fin 2} {v : Int64} (cx : Cx C tys cc own nL fr lo) (hd : decode cc pc = .ok (.lconst n, 1)) (hv : Int64.ofNat (n : Nat) = v) (hp : pc + 1 = pc') (k : Vat C wl nL pc' lv (.long v :: stk) st) : Vat C wl nL pc lv stk st := by
  subst hp
  exact fun H locs ls hW hl => lv_lconst cx.1 cx.2.1 hd hv (k H locs ls hW hl)
theorem v_ldc (pc' : Nat) {index : Nat} {v : Int32} (cx : Cx C tys cc own nL fr lo) (hd : decode cc pc = .ok (.ldc index, 2)) (hm : Jvm.Cond.constant own index v ∈ lwg) (hp : pc + 2 = pc') (k : Vat C wl nL pc' lv (.int v :: stk) st) : Vat C wl nL pc lv stk st := by
  subst hp
  exact fun H locs ls hW hl => lv_ldc cx.1 cx.2.1 cx.2.2.2.1 (cx.2.2.2.2.1 _ hm) hd (k H locs ls hW hl)
theorem v_ldc2 (pc' : Nat) {index : Nat} {v : Int64} (cx : Cx C tys cc own nL fr lo) (hd : decode cc pc = .ok (.ldc2_w index, 3)) (hm : Jvm.Cond.constantLong own index v ∈ lwg) (hp : pc + 3 = pc') (k : Vat C wl nL pc' lv (.long v :: stk) st) : Vat C wl nL pc lv stk st := by
  subst hp
  exact fun H locs ls hW hl => lv_ldc2 cx.1 cx.2.1 cx.2.2.2.1 (cx.2.2.2.2.1 _ hm) hd (k H locs ls hW hl)
theorem v_iload_n (pc' : Nat) (q : Nat) {k : Fin 4} {i : Nat} {x : Int32} (cx : Cx C tys cc own nL fr lo) (hd : decode cc pc = .ok (.iload_n k, 1)) (hi : (k : Nat) = i) (hk : lv[q]? = some (i, .int x)) (hp : pc + 1 = pc') (k : Vat C wl nL pc' lv (.int x :: stk) st) : Vat C wl nL pc lv stk st := by
  subst hp
  exact fun H locs ls hW hl => lv_iload_n cx.1 cx.2.1 hd hi (lv_at hl q hk) (k H locs ls hW hl)
theorem v_iload (pc' : Nat) (q : Nat) {i : Nat} {x : Int32} (cx : Cx C tys cc own nL fr lo) (hd : decode cc pc = .ok (.iload i, 2)) (hk : lv[q]? = some (i, .int x)) (hp : pc + 2 = pc') (k : Vat C wl nL pc' lv (.int x :: stk) st) : Vat C wl nL pc lv stk st := by
  subst hp
  exact fun H locs ls hW hl => lv_iload cx.1 cx.2.1 hd (lv_at hl q hk) (k H locs ls hW hl)
theorem v_lload_n (pc' : Nat) (q : Nat) {k : Fin 4} {i : Nat} {x : Int64} (cx : Cx C tys cc own nL fr lo) (hd : decode cc pc = .ok (.lload_n k, 1)) (hi : (k : Nat) = i) (hk : lv[q]? = some (i, .long x)) (hp : pc + 1 = pc') (k : Vat C wl nL pc' lv (.long x :: stk) st) : Vat C wl nL pc lv stk st := by
  subst hp
  exact fun H locs ls hW hl => lv_lload_n cx.1 cx.2.1 hd hi (lv_at hl q hk) (k H locs ls hW hl)
theorem v_lload (pc' : Nat) (q : Nat) {i : Nat} {x : Int64} (cx : Cx C tys cc own nL fr lo) (hd : decode cc pc = .ok (.lload i, 2)) (hk : lv[q]? = some (i, .long x)) (hp : pc + 2 = pc') (k : Vat C wl nL pc' lv (.long x :: stk) st) : Vat C wl nL pc lv stk st := by
  subst hp
  exact fun H locs ls hW hl => lv_lload cx.1 cx.2.1 hd (lv_at hl q hk) (k H locs ls hW hl)
theorem v_aload_n (pc' : Nat) (q : Nat) {k : Fin 4} {i : Nat} {x : Nat} (cx : Cx C tys cc own nL fr lo) (hd : decode cc pc = .ok (.aload_n k, 1)) (hi : (k : Nat) = i) (hk : lv[q]? = some (i, .ref x)) (hp : pc + 1 = pc') (k : Vat C wl nL pc' lv (.ref x :: stk) st) : Vat C wl nL pc lv stk st := by
  subst hp
  exact fun H locs ls hW hl => lv_aload_n cx.1 cx.2.1 hd hi (lv_at hl q hk) (k H locs ls hW hl)
theorem v_aload (pc' : Nat) (q : Nat) {i : Nat} {x : Nat} (cx : Cx C tys cc own nL fr lo) (hd : decode cc pc = .ok (.aload i, 2)) (hk : lv[q]? = some (i, .ref x)) (hp : pc + 2 = pc') (k : Vat C wl nL pc' lv (.ref x :: stk) st) : Vat C wl nL pc lv stk st := by
  subst hp
  exact fun H locs ls hW hl => lv_aload cx.1 cx.2.1 hd (lv_at hl q hk) (k H locs ls hW hl)
theorem v_istore_n (pc' : Nat) {k : Fin 4} {i : Nat} {x : Int32} {f : Int32 → Option β} (lf : Int32 → List (Nat × Value)) (cx : Cx C tys cc own nL fr lo) (hd : decode cc pc = .ok (.istore_n k, 1)) (hi : (k : Nat) = i) (hn : i < nL) (hl : ∀ v, (i, Value.int v) :: lv.filter (fun q => !(q.1 == i) && !(q.1 + 1 == i && q.2.category == 2)) = lf v) (hp : pc + 1 = pc') (h : nmk x f = some o) (k : ∀ v, f v = some o → Vat C wl nL pc' (lf v) stk st) : Vat C wl nL pc lv (.int x :: stk) st := by
  subst hp
  exact fun H locs ls hW hq => lv_istore_n cx.1 cx.2.1 hd hi hq hn (hl x) (fun ls' hl' => k x h H locs ls' hW hl')
theorem v_istore (pc' : Nat) {i : Nat} {x : Int32} {f : Int32 → Option β} (lf : Int32 → List (Nat × Value)) (cx : Cx C tys cc own nL fr lo) (hd : decode cc pc = .ok (.istore i, 2)) (hn : i < nL) (hl : ∀ v, (i, Value.int v) :: lv.filter (fun q => !(q.1 == i) && !(q.1 + 1 == i && q.2.category == 2)) = lf v) (hp : pc + 2 = pc') (h : nmk x f = some o) (k : ∀ v, f v = some o → Vat C wl nL pc' (lf v) stk st) : Vat C wl nL pc lv (.int x :: stk) st := by
  subst hp
  exact fun H locs ls hW hq => lv_istore cx.1 cx.2.1 hd hq hn (hl x) (fun ls' hl' => k x h H locs ls' hW hl')
theorem v_lstore_n (pc' : Nat) {k : Fin 4} {i : Nat} {x : Int64} {f : Int64 → Option β} (lf : Int64 → List (Nat × Value)) (cx : Cx C tys cc own nL fr lo) (hd : decode cc pc = .ok (.lstore_n k, 1)) (hi : (k : Nat) = i) (hn : i + 1 < nL) (hl : ∀ v, (i, Value.long v) :: lv.filter (fun q => !(q.1 == i) && (!(q.1 == i + 1) && !(q.1 + 1 == i && q.2.category == 2))) = lf v) (hp : pc + 1 = pc') (h : nmk x f = some o) (k : ∀ v, f v = some o → Vat C wl nL pc' (lf v) stk st) : Vat C wl nL pc lv (.long x :: stk) st := by
  subst hp
  exact fun H locs ls hW hq => lv_lstore_n cx.1 cx.2.1 hd hi hq hn (hl x) (fun ls' hl' => k x h H locs ls' hW hl')
theorem v_lstore (pc' : Nat) {i : Nat} {x : Int64} {f : Int64 → Option β} (lf : Int64 → List (Nat × Value)) (cx : Cx C tys cc own nL fr lo) (hd : decode cc pc = .ok (.lstore i, 2)) (hn : i + 1 < nL) (hl : ∀ v, (i, Value.long v) :: lv.filter (fun q => !(q.1 == i) && (!(q.1 == i + 1) && !(q.1 + 1 == i && q.2.category == 2))) = lf v) (hp : pc + 2 = pc') (h : nmk x f = some o) (k : ∀ v, f v = some o → Vat C wl nL pc' (lf v) stk st) : Vat C wl nL pc lv (.long x :: stk) st := by
  subst hp
  exact fun H locs ls hW hq => lv_lstore cx.1 cx.2.1 hd hq hn (hl x) (fun ls' hl' => k x h H locs ls' hW hl')
theorem v_iinc (pc' q : Nat) {i : Nat} {n : Int} {x d : Int32} {f : Int32 → Option β} (lf : Int32 → List (Nat × Value)) (cx : Cx C tys cc own nL fr lo) (hd : decode cc pc = .ok (.iinc i n, 3)) (hk : lv[q]? = some (i, .int x)) (hd2 : Int32.ofInt n = d) (hn : i < nL) (hl : ∀ v, (i, Value.int v) :: lv.filter (fun q => !(q.1 == i) && !(q.1 + 1 == i && q.2.category == 2)) = lf v) (hp : pc + 3 = pc') (h : nmk (x + d) f = some o) (k : ∀ v, f v = some o → Vat C wl nL pc' (lf v) stk st) : Vat C wl nL pc lv stk st := by
  subst hp
  exact fun H locs ls hW hq => lv_iinc cx.1 cx.2.1 hd hq hk rfl hn (hl _) (fun ls' hl' => k _ (by rw [hd2]; exact h) H locs ls' hW hl')
theorem v_iadd (pc' : Nat) {x y : Int32} (cx : Cx C tys cc own nL fr lo) (hd : decode cc pc = .ok (.iadd, 1)) (hp : pc + 1 = pc') (k : Vat C wl nL pc' lv (.int (x + y) :: stk) st) : Vat C wl nL pc lv (.int y :: .int x :: stk) st := by
  subst hp
  exact fun H locs ls hW hl => lv_iadd cx.1 cx.2.1 hd (k H locs ls hW hl)
theorem v_isub (pc' : Nat) {x y : Int32} (cx : Cx C tys cc own nL fr lo) (hd : decode cc pc = .ok (.isub, 1)) (hp : pc + 1 = pc') (k : Vat C wl nL pc' lv (.int (x - y) :: stk) st) : Vat C wl nL pc lv (.int y :: .int x :: stk) st := by
  subst hp
  exact fun H locs ls hW hl => lv_isub cx.1 cx.2.1 hd (k H locs ls hW hl)
theorem v_imul (pc' : Nat) {x y : Int32} (cx : Cx C tys cc own nL fr lo) (hd : decode cc pc = .ok (.imul, 1)) (hp : pc + 1 = pc') (k : Vat C wl nL pc' lv (.int (x * y) :: stk) st) : Vat C wl nL pc lv (.int y :: .int x :: stk) st := by
  subst hp
  exact fun H locs ls hW hl => lv_imul cx.1 cx.2.1 hd (k H locs ls hW hl)
theorem v_iand (pc' : Nat) {x y : Int32} (cx : Cx C tys cc own nL fr lo) (hd : decode cc pc = .ok (.iand, 1)) (hp : pc + 1 = pc') (k : Vat C wl nL pc' lv (.int (x &&& y) :: stk) st) : Vat C wl nL pc lv (.int y :: .int x :: stk) st := by
  subst hp
  exact fun H locs ls hW hl => lv_iand cx.1 cx.2.1 hd (k H locs ls hW hl)
theorem v_ixor (pc' : Nat) {x y : Int32} (cx : Cx C tys cc own nL fr lo) (hd : decode cc pc = .ok (.ixor, 1)) (hp : pc + 1 = pc') (k : Vat C wl nL pc' lv (.int (x ^^^ y) :: stk) st) : Vat C wl nL pc lv (.int y :: .int x :: stk) st := by
  subst hp
  exact fun H locs ls hW hl => lv_ixor cx.1 cx.2.1 hd (k H locs ls hW hl)
theorem v_ishr (pc' : Nat) {x y : Int32} (cx : Cx C tys cc own nL fr lo) (hd : decode cc pc = .ok (.ishr, 1)) (hp : pc + 1 = pc') (k : Vat C wl nL pc' lv (.int (x >>> (y &&& 31)) :: stk) st) : Vat C wl nL pc lv (.int y :: .int x :: stk) st := by
  subst hp
  exact fun H locs ls hW hl => lv_ishr cx.1 cx.2.1 hd (k H locs ls hW hl)
theorem v_iushr (pc' : Nat) {x y : Int32} (cx : Cx C tys cc own nL fr lo) (hd : decode cc pc = .ok (.iushr, 1)) (hp : pc + 1 = pc') (k : Vat C wl nL pc' lv (.int ((x.toUInt32 >>> (y.toUInt32 &&& Int32.toUInt32 31)).toInt32) :: stk) st) : Vat C wl nL pc lv (.int y :: .int x :: stk) st := by
  subst hp
  exact fun H locs ls hW hl => lv_iushr cx.1 cx.2.1 hd rfl (k H locs ls hW hl)
theorem v_ladd (pc' : Nat) {x y : Int64} (cx : Cx C tys cc own nL fr lo) (hd : decode cc pc = .ok (.ladd, 1)) (hp : pc + 1 = pc') (k : Vat C wl nL pc' lv (.long (x + y) :: stk) st) : Vat C wl nL pc lv (.long y :: .long x :: stk) st := by
  subst hp
  exact fun H locs ls hW hl => lv_ladd cx.1 cx.2.1 hd (k H locs ls hW hl)
theorem v_lmul (pc' : Nat) {x y : Int64} (cx : Cx C tys cc own nL fr lo) (hd : decode cc pc = .ok (.lmul, 1)) (hp : pc + 1 = pc') (k : Vat C wl nL pc' lv (.long (x * y) :: stk) st) : Vat C wl nL pc lv (.long y :: .long x :: stk) st := by
  subst hp
  exact fun H locs ls hW hl => lv_lmul cx.1 cx.2.1 hd (k H locs ls hW hl)
theorem v_land (pc' : Nat) {x y : Int64} (cx : Cx C tys cc own nL fr lo) (hd : decode cc pc = .ok (.land, 1)) (hp : pc + 1 = pc') (k : Vat C wl nL pc' lv (.long (x &&& y) :: stk) st) : Vat C wl nL pc lv (.long y :: .long x :: stk) st := by
  subst hp
  exact fun H locs ls hW hl => lv_land cx.1 cx.2.1 hd (k H locs ls hW hl)
theorem v_lor (pc' : Nat) {x y : Int64} (cx : Cx C tys cc own nL fr lo) (hd : decode cc pc = .ok (.lor, 1)) (hp : pc + 1 = pc') (k : Vat C wl nL pc' lv (.long (x ||| y) :: stk) st) : Vat C wl nL pc lv (.long y :: .long x :: stk) st := by
  subst hp
  exact fun H locs ls hW hl => lv_lor cx.1 cx.2.1 hd (k H locs ls hW hl)
theorem v_lshl (pc' : Nat) {x : Int64} {y : Int32} (cx : Cx C tys cc own nL fr lo) (hd : decode cc pc = .ok (.lshl, 1)) (hp : pc + 1 = pc') (k : Vat C wl nL pc' lv (.long (x <<< (y.toInt64 &&& 63)) :: stk) st) : Vat C wl nL pc lv (.int y :: .long x :: stk) st := by
  subst hp
  exact fun H locs ls hW hl => lv_lshl cx.1 cx.2.1 hd rfl (k H locs ls hW hl)
theorem v_ineg (pc' : Nat) {x : Int32} (cx : Cx C tys cc own nL fr lo) (hd : decode cc pc = .ok (.ineg, 1)) (hp : pc + 1 = pc') (k : Vat C wl nL pc' lv (.int (-x) :: stk) st) : Vat C wl nL pc lv (.int x :: stk) st := by
  subst hp
  exact fun H locs ls hW hl => lv_ineg cx.1 cx.2.1 hd (k H locs ls hW hl)
theorem v_i2l (pc' : Nat) {x : Int32} (cx : Cx C tys cc own nL fr lo) (hd : decode cc pc = .ok (.i2l, 1)) (hp : pc + 1 = pc') (k : Vat C wl nL pc' lv (.long x.toInt64 :: stk) st) : Vat C wl nL pc lv (.int x :: stk) st := by
  subst hp
  exact fun H locs ls hW hl => lv_i2l cx.1 cx.2.1 hd rfl (k H locs ls hW hl)
theorem v_l2i (pc' : Nat) {x : Int64} (cx : Cx C tys cc own nL fr lo) (hd : decode cc pc = .ok (.l2i, 1)) (hp : pc + 1 = pc') (k : Vat C wl nL pc' lv (.int x.toInt32 :: stk) st) : Vat C wl nL pc lv (.long x :: stk) st := by
  subst hp
  exact fun H locs ls hW hl => lv_l2i cx.1 cx.2.1 hd rfl (k H locs ls hW hl)
theorem v_lcmp (pc' : Nat) {x y : Int64} (cx : Cx C tys cc own nL fr lo) (hd : decode cc pc = .ok (.lcmp, 1)) (hp : pc + 1 = pc') (k : Vat C wl nL pc' lv (.int (lg_cmp x y) :: stk) st) : Vat C wl nL pc lv (.long y :: .long x :: stk) st := by
  subst hp
  exact fun H locs ls hW hl => W.lcmp cx.1 cx.2.1 hd (k H locs ls hW hl)
theorem v_dup (pc' : Nat) {a : Value} (cx : Cx C tys cc own nL fr lo) (hd : decode cc pc = .ok (.dup, 1)) (ha : a.category = 1) (hp : pc + 1 = pc') (k : Vat C wl nL pc' lv (a :: a :: stk) st) : Vat C wl nL pc lv (a :: stk) st := by
  subst hp
  exact fun H locs ls hW hl => lv_dup cx.1 cx.2.1 hd ha (k H locs ls hW hl)
theorem v_pop (pc' : Nat) {a : Value} (cx : Cx C tys cc own nL fr lo) (hd : decode cc pc = .ok (.pop, 1)) (ha : a.category = 1) (hp : pc + 1 = pc') (k : Vat C wl nL pc' lv stk st) : Vat C wl nL pc lv (a :: stk) st := by
  subst hp
  exact fun H locs ls hW hl => lv_pop cx.1 cx.2.1 hd ha (k H locs ls hW hl)
theorem v_pop2 (pc' : Nat) {a : Value} (cx : Cx C tys cc own nL fr lo) (hd : decode cc pc = .ok (.pop2, 1)) (ha : a.category = 2) (hp : pc + 1 = pc') (k : Vat C wl nL pc' lv stk st) : Vat C wl nL pc lv (a :: stk) st := by
  subst hp
  exact fun H locs ls hW hl => lv_pop2_2 cx.1 cx.2.1 hd ha (k H locs ls hW hl)
theorem v_dup2 (pc' : Nat) {a b : Value} (cx : Cx C tys cc own nL fr lo) (hd : decode cc pc = .ok (.dup2, 1)) (ha : a.category = 1) (hb : b.category = 1) (hp : pc + 1 = pc') (k : Vat C wl nL pc' lv (a :: b :: a :: b :: stk) st) : Vat C wl nL pc lv (a :: b :: stk) st := by
  subst hp
  exact fun H locs ls hW hl => lv_dup2_11 cx.1 cx.2.1 hd ha hb (k H locs ls hW hl)
theorem v_idiv (pc' : Nat) {x y : Int32} {f : Option β} (cx : Cx C tys cc own nL fr lo) (hd : decode cc pc = .ok (.idiv, 1)) (hp : pc + 1 = pc') (h : dvk y f = some o) (k : f = some o → Vat C wl nL pc' lv (.int (x / y) :: stk) st) : Vat C wl nL pc lv (.int y :: .int x :: stk) st := by
  subst hp
  unfold dvk at h
  by_cases h0 : y = 0
  · rw [if_pos h0] at h; cases h
  · rw [if_neg h0] at h
    exact fun H locs ls hW hl => lv_idiv cx.1 cx.2.1 hd h0 (k h H locs ls hW hl)
theorem v_irem (pc' : Nat) {x y : Int32} {f : Option β} (cx : Cx C tys cc own nL fr lo) (hd : decode cc pc = .ok (.irem, 1)) (hp : pc + 1 = pc') (h : dvk y f = some o) (k : f = some o → Vat C wl nL pc' lv (.int (x - x / y * y) :: stk) st) : Vat C wl nL pc lv (.int y :: .int x :: stk) st := by
  subst hp
  unfold dvk at h
  by_cases h0 : y = 0
  · rw [if_pos h0] at h; cases h
  · rw [if_neg h0] at h
    exact fun H locs ls hW hl => lv_irem cx.1 cx.2.1 hd h0 (k h H locs ls hW hl)
theorem v_ldiv (pc' : Nat) {x y : Int64} {f : Option β} (cx : Cx C tys cc own nL fr lo) (hd : decode cc pc = .ok (.ldiv, 1)) (hp : pc + 1 = pc') (h : dlk y f = some o) (k : f = some o → Vat C wl nL pc' lv (.long (x / y) :: stk) st) : Vat C wl nL pc lv (.long y :: .long x :: stk) st := by
  subst hp
  unfold dlk at h
  by_cases h0 : y = 0
  · rw [if_pos h0] at h; cases h
  · rw [if_neg h0] at h
    exact fun H locs ls hW hl => lv_ldiv cx.1 cx.2.1 hd h0 (k h H locs ls hW hl)
theorem v_if_eq (tgt pc' : Nat) {x : Int32} {off : Int} {E1 E2 : Option β} (cx : Cx C tys cc own nL fr lo) (hd : decode cc pc = .ok (.ifCond .eq off, 3)) (ht : (pc : Int) + off = (tgt : Int)) (hp : pc + 3 = pc') (h : (if x = 0 then E1 else E2) = some o) (k1 : E1 = some o → Vat C wl nL tgt lv stk st) (k2 : E2 = some o → Vat C wl nL pc' lv stk st) : Vat C wl nL pc lv (.int x :: stk) st := by
  subst hp
  exact fun H locs ls hW hl => lv_if_eq cx.1 cx.2.1 hd ht (fun q => k1 (by rw [if_pos q] at h; exact h) H locs ls hW hl) (fun q => k2 (by rw [if_neg q] at h; exact h) H locs ls hW hl)
theorem v_if_lt (tgt pc' : Nat) {x : Int32} {off : Int} {E1 E2 : Option β} (cx : Cx C tys cc own nL fr lo) (hd : decode cc pc = .ok (.ifCond .lt off, 3)) (ht : (pc : Int) + off = (tgt : Int)) (hp : pc + 3 = pc') (h : (if x < 0 then E1 else E2) = some o) (k1 : E1 = some o → Vat C wl nL tgt lv stk st) (k2 : E2 = some o → Vat C wl nL pc' lv stk st) : Vat C wl nL pc lv (.int x :: stk) st := by
  subst hp
  exact fun H locs ls hW hl => lv_if_lt cx.1 cx.2.1 hd ht (fun q => k1 (by rw [if_pos q] at h; exact h) H locs ls hW hl) (fun q => k2 (by rw [if_neg q] at h; exact h) H locs ls hW hl)
theorem v_if_ge (tgt pc' : Nat) {x : Int32} {off : Int} {E1 E2 : Option β} (cx : Cx C tys cc own nL fr lo) (hd : decode cc pc = .ok (.ifCond .ge off, 3)) (ht : (pc : Int) + off = (tgt : Int)) (hp : pc + 3 = pc') (h : (if 0 ≤ x then E1 else E2) = some o) (k1 : E1 = some o → Vat C wl nL tgt lv stk st) (k2 : E2 = some o → Vat C wl nL pc' lv stk st) : Vat C wl nL pc lv (.int x :: stk) st := by
  subst hp
  exact fun H locs ls hW hl => lv_if_ge cx.1 cx.2.1 hd ht (fun q => k1 (by rw [if_pos q] at h; exact h) H locs ls hW hl) (fun q => k2 (by rw [if_neg q] at h; exact h) H locs ls hW hl)
theorem v_if_gt (tgt pc' : Nat) {x : Int32} {off : Int} {E1 E2 : Option β} (cx : Cx C tys cc own nL fr lo) (hd : decode cc pc = .ok (.ifCond .gt off, 3)) (ht : (pc : Int) + off = (tgt : Int)) (hp : pc + 3 = pc') (h : (if 0 < x then E1 else E2) = some o) (k1 : E1 = some o → Vat C wl nL tgt lv stk st) (k2 : E2 = some o → Vat C wl nL pc' lv stk st) : Vat C wl nL pc lv (.int x :: stk) st := by
  subst hp
  exact fun H locs ls hW hl => lv_if_gt cx.1 cx.2.1 hd ht (fun q => k1 (by rw [if_pos q] at h; exact h) H locs ls hW hl) (fun q => k2 (by rw [if_neg q] at h; exact h) H locs ls hW hl)
theorem v_if_le (tgt pc' : Nat) {x : Int32} {off : Int} {E1 E2 : Option β} (cx : Cx C tys cc own nL fr lo) (hd : decode cc pc = .ok (.ifCond .le off, 3)) (ht : (pc : Int) + off = (tgt : Int)) (hp : pc + 3 = pc') (h : (if x ≤ 0 then E1 else E2) = some o) (k1 : E1 = some o → Vat C wl nL tgt lv stk st) (k2 : E2 = some o → Vat C wl nL pc' lv stk st) : Vat C wl nL pc lv (.int x :: stk) st := by
  subst hp
  exact fun H locs ls hW hl => lv_if_le cx.1 cx.2.1 hd ht (fun q => k1 (by rw [if_pos q] at h; exact h) H locs ls hW hl) (fun q => k2 (by rw [if_neg q] at h; exact h) H locs ls hW hl)
theorem v_icmp_eq (tgt pc' : Nat) {x y : Int32} {off : Int} {E1 E2 : Option β} (cx : Cx C tys cc own nL fr lo) (hd : decode cc pc = .ok (.if_icmp .eq off, 3)) (ht : (pc : Int) + off = (tgt : Int)) (hp : pc + 3 = pc') (h : (if x = y then E1 else E2) = some o) (k1 : E1 = some o → Vat C wl nL tgt lv stk st) (k2 : E2 = some o → Vat C wl nL pc' lv stk st) : Vat C wl nL pc lv (.int y :: .int x :: stk) st := by
  subst hp
  exact fun H locs ls hW hl => lv_icmp_eq cx.1 cx.2.1 hd ht (fun q => k1 (by rw [if_pos q] at h; exact h) H locs ls hW hl) (fun q => k2 (by rw [if_neg q] at h; exact h) H locs ls hW hl)
theorem v_icmp_lt (tgt pc' : Nat) {x y : Int32} {off : Int} {E1 E2 : Option β} (cx : Cx C tys cc own nL fr lo) (hd : decode cc pc = .ok (.if_icmp .lt off, 3)) (ht : (pc : Int) + off = (tgt : Int)) (hp : pc + 3 = pc') (h : (if x < y then E1 else E2) = some o) (k1 : E1 = some o → Vat C wl nL tgt lv stk st) (k2 : E2 = some o → Vat C wl nL pc' lv stk st) : Vat C wl nL pc lv (.int y :: .int x :: stk) st := by
  subst hp
  exact fun H locs ls hW hl => lv_icmp_lt cx.1 cx.2.1 hd ht (fun q => k1 (by rw [if_pos q] at h; exact h) H locs ls hW hl) (fun q => k2 (by rw [if_neg q] at h; exact h) H locs ls hW hl)
theorem v_icmp_ge (tgt pc' : Nat) {x y : Int32} {off : Int} {E1 E2 : Option β} (cx : Cx C tys cc own nL fr lo) (hd : decode cc pc = .ok (.if_icmp .ge off, 3)) (ht : (pc : Int) + off = (tgt : Int)) (hp : pc + 3 = pc') (h : (if y ≤ x then E1 else E2) = some o) (k1 : E1 = some o → Vat C wl nL tgt lv stk st) (k2 : E2 = some o → Vat C wl nL pc' lv stk st) : Vat C wl nL pc lv (.int y :: .int x :: stk) st := by
  subst hp
  exact fun H locs ls hW hl => lv_icmp_ge cx.1 cx.2.1 hd ht (fun q => k1 (by rw [if_pos q] at h; exact h) H locs ls hW hl) (fun q => k2 (by rw [if_neg q] at h; exact h) H locs ls hW hl)
theorem v_icmp_gt (tgt pc' : Nat) {x y : Int32} {off : Int} {E1 E2 : Option β} (cx : Cx C tys cc own nL fr lo) (hd : decode cc pc = .ok (.if_icmp .gt off, 3)) (ht : (pc : Int) + off = (tgt : Int)) (hp : pc + 3 = pc') (h : (if y < x then E1 else E2) = some o) (k1 : E1 = some o → Vat C wl nL tgt lv stk st) (k2 : E2 = some o → Vat C wl nL pc' lv stk st) : Vat C wl nL pc lv (.int y :: .int x :: stk) st := by
  subst hp
  exact fun H locs ls hW hl => lv_icmp_gt cx.1 cx.2.1 hd ht (fun q => k1 (by rw [if_pos q] at h; exact h) H locs ls hW hl) (fun q => k2 (by rw [if_neg q] at h; exact h) H locs ls hW hl)
theorem v_icmp_le (tgt pc' : Nat) {x y : Int32} {off : Int} {E1 E2 : Option β} (cx : Cx C tys cc own nL fr lo) (hd : decode cc pc = .ok (.if_icmp .le off, 3)) (ht : (pc : Int) + off = (tgt : Int)) (hp : pc + 3 = pc') (h : (if x ≤ y then E1 else E2) = some o) (k1 : E1 = some o → Vat C wl nL tgt lv stk st) (k2 : E2 = some o → Vat C wl nL pc' lv stk st) : Vat C wl nL pc lv (.int y :: .int x :: stk) st := by
  subst hp
  exact fun H locs ls hW hl => lv_icmp_le cx.1 cx.2.1 hd ht (fun q => k1 (by rw [if_pos q] at h; exact h) H locs ls hW hl) (fun q => k2 (by rw [if_neg q] at h; exact h) H locs ls hW hl)
theorem v_if_ne (tgt pc' : Nat) {x : Int32} {off : Int} {E1 E2 : Option β} (cx : Cx C tys cc own nL fr lo) (hd : decode cc pc = .ok (.ifCond .ne off, 3)) (ht : (pc : Int) + off = (tgt : Int)) (hp : pc + 3 = pc') (h : (if x = 0 then E2 else E1) = some o) (k1 : E1 = some o → Vat C wl nL tgt lv stk st) (k2 : E2 = some o → Vat C wl nL pc' lv stk st) : Vat C wl nL pc lv (.int x :: stk) st := by
  subst hp
  exact fun H locs ls hW hl => lv_if_ne cx.1 cx.2.1 hd ht (fun q => k1 (by rw [if_neg q] at h; exact h) H locs ls hW hl) (fun q => k2 (by rw [if_pos q] at h; exact h) H locs ls hW hl)
theorem v_icmp_ne (tgt pc' : Nat) {x y : Int32} {off : Int} {E1 E2 : Option β} (cx : Cx C tys cc own nL fr lo) (hd : decode cc pc = .ok (.if_icmp .ne off, 3)) (ht : (pc : Int) + off = (tgt : Int)) (hp : pc + 3 = pc') (h : (if x = y then E2 else E1) = some o) (k1 : E1 = some o → Vat C wl nL tgt lv stk st) (k2 : E2 = some o → Vat C wl nL pc' lv stk st) : Vat C wl nL pc lv (.int y :: .int x :: stk) st := by
  subst hp
  exact fun H locs ls hW hl => lv_icmp_ne cx.1 cx.2.1 hd ht (fun q => k1 (by rw [if_neg q] at h; exact h) H locs ls hW hl) (fun q => k2 (by rw [if_pos q] at h; exact h) H locs ls hW hl)
theorem v_goto (tgt : Nat) {off : Int} (cx : Cx C tys cc own nL fr lo) (hd : decode cc pc = .ok (.goto off, 3)) (ht : (pc : Int) + off = (tgt : Int)) (k : Vat C wl nL tgt lv stk st) : Vat C wl nL pc lv stk st := fun H locs ls hW hl => lv_goto cx.1 cx.2.1 hd ht (k H locs ls hW hl)
theorem v_tabC (tgt k : Nat) {x ck : Int32} {dflt l0 h0 off : Int} {offs : Array Int} {len : Nat} {E1 E2 : Option β} (cx : Cx C tys cc own nL fr lo) (hd : decode cc pc = .ok (.tableswitch dflt l0 h0 offs, len)) (hc : ck.toInt = l0 + (k : Int)) (hh : l0 + (k : Int) ≤ h0) (ho : offs[k]? = some off) (ht : (pc : Int) + off = (tgt : Int)) (hn : ∀ i : Nat, i < k → x.toInt ≠ l0 + (i : Int)) (h : (if x = ck then E1 else E2) = some o) (k1 : E1 = some o → Vat C wl nL tgt lv stk st) (k2 : (∀ i : Nat, i < k + 1 → x.toInt ≠ l0 + (i : Int)) → E2 = some o → Vat C wl nL pc lv (.int x :: stk) st) : Vat C wl nL pc lv (.int x :: stk) st := by
  by_cases q : x = ck
  · rw [if_pos q] at h
    subst q
    exact fun H locs ls hW hl => lv_tableIn cx.1 cx.2.1 hd (by omega) (by omega) (by rw [hc, show (l0 + (k : Int) - l0).toNat = k by omega]; exact ho) ht (k1 h H locs ls hW hl)
  · rw [if_neg q] at h
    refine k2 (fun i hi => ?_) h
    rcases Nat.lt_succ_iff_lt_or_eq.mp hi with g | g
    · exact hn i g
    · subst g
      intro e
      exact q (Int32.toInt_inj.mp (e.trans hc.symm))
theorem v_tabD (tgt k : Nat) {x : Int32} {dflt l0 h0 : Int} {offs : Array Int} {len : Nat} (cx : Cx C tys cc own nL fr lo) (hd : decode cc pc = .ok (.tableswitch dflt l0 h0 offs, len)) (hh : h0 < l0 + (k : Int)) (ht : (pc : Int) + dflt = (tgt : Int)) (hn : ∀ i : Nat, i < k → x.toInt ≠ l0 + (i : Int)) (kk : Vat C wl nL tgt lv stk st) : Vat C wl nL pc lv (.int x :: stk) st := by
  have hx : x.toInt < l0 ∨ h0 < x.toInt := by
    by_cases a : x.toInt < l0
    · exact Or.inl a
    · refine Or.inr ?_
      by_cases b : h0 < x.toInt
      · exact b
      · exact absurd (show x.toInt = l0 + (((x.toInt - l0).toNat : Nat) : Int) by omega) (hn _ (by omega))
  exact fun H locs ls hW hl => lv_tableOut cx.1 cx.2.1 hd hx ht (kk H locs ls hW hl)
theorem v_mmax (pc' : Nat) {index : Nat} {x y : Int32} (cx : Cx C tys cc own nL fr lo) (hd : decode cc pc = .ok (.invokestatic index, 3)) (hm : Cond.methodLink own index Lib.Math.max.name ∈ lwg) (h1 : Cond.static Lib.Math.max.name ∈ lwg) (h2 : Cond.initialized "java/lang/Math" ∈ lwg) (h3 : Cond.code Lib.Math.max.name Lib.Math.max.code 2 (some .int) ∈ lwg) (hf : 1 ≤ fr) (hlo : (stk.map fun v => v.category).sum + 13 ≤ lo) (hp : pc + 3 = pc') (k : Vat C wl nL pc' lv (.int (mx x y) :: stk) st) : Vat C wl nL pc lv (.int y :: .int x :: stk) st := by
  subst hp
  obtain ⟨a1, a2, a3, a4, a5, a6, a7, a8, a9, a10, a11⟩ := cx
  subst a8; subst a9
  exact fun H locs ls hW hl => va_mmax a1 a2 (a3.trans hl.1.symm) a4 (a5 _ hm) (a5 _ h1) (a5 _ h2) (a5 _ h3) hf hlo a10 a11 hd (k H locs ls hW hl)
theorem v_get (pc' q0 k : Nat) {C0 ref : String} {T : u_T} {N ci index a : Nat} {fs : List Value} {v : Value} (cx : Cx C tys cc own nL fr lo) (hd : decode cc pc = .ok (.getfield index, 3)) (hin : ∀ w ∈ u_ws C0 T N, w ∈ lwg) (he : (wl st)[q0]? = some (a, .inr (ci, fs))) (hc : vwCl[ci]? = some (C0, T, N)) (hk : k < N) (hr : (T k).1 = ref) (hm : Cond.fieldLink own index ref (T k).2.1 (T k).2.2.1 ∈ lwg) (hv : fs[k]? = some v) (hp : pc + 3 = pc') (kk : Vat C wl nL pc' lv (v :: stk) st) : Vat C wl nL pc lv (.ref a :: stk) st := by
  subst hp
  subst hr
  exact fun H locs ls hW hl => va_get cx.1 cx.2.1 cx.2.2.2.2.1 hin cx.2.2.2.1 cx.2.2.2.2.2.1 hW.1 q0 he hc k hk (cx.2.2.2.2.1 _ hm) (fun _ h9 => h9) hv hd (kk H locs ls hW hl)
theorem v_put (pc' q0 k : Nat) {C0 ref : String} {T : u_T} {N ci index a : Nat} {fs : List Value} {v : Value} {ty : FieldType} {tyf : Nat → FieldType} {st' : Sg} (cx : Cx C tys cc own nL fr lo) (hd : decode cc pc = .ok (.putfield index, 3)) (hin : ∀ w ∈ u_ws C0 T N, w ∈ lwg) (hty : ∀ k, k < N → parseFieldDescriptor (T k).2.2.1 = some (tyf k)) (hnm : ∀ a, a < N → ∀ b, b < N → a ≠ b → (T a).2.1 ≠ (T b).2.1) (he : (wl st)[q0]? = some (a, .inr (ci, fs))) (hc : vwCl[ci]? = some (C0, T, N)) (hk : k < N) (hr : (T k).1 = ref) (hm : Cond.fieldLink own index ref (T k).2.1 (T k).2.2.1 ∈ lwg) (hfin : (T k).2.2.2 = false) (ht : tyf k = ty) (hn : narrow ty v = v) (hfit : fits ty v = true) (hlen : k < fs.length) (hs : (wl st).set q0 (a, .inr (ci, fs.set k v)) = wl st') (hp : pc + 3 = pc') (kk : Vat C wl nL pc' lv stk st') : Vat C wl nL pc lv (v :: .ref a :: stk) st := by
  subst hp
  subst hr
  exact fun H locs ls hW hl => va_put cx.1 cx.2.1 cx.2.2.2.2.1 hin tyf hty hnm cx.2.2.2.1 cx.2.2.2.2.2.1 hW.1 hW.2.1 hW.2.2 q0 he hc k hk (cx.2.2.2.2.1 _ hm) (fun _ h9 => h9) hfin ((hty k hk).trans (by rw [ht])) hn hfit hlen hd (fun H1 locs1 g1 g2 g3 => kk H1 locs1 ls (by rw [hs] at g1 g2; exact ⟨g1, g2, g3⟩) hl)
theorem v_iald (pc' q0 t0 : Nat) {cA : ClassId} {j k n a : Nat} {i : Int32} {f : Int32 → Option β} (cx : Cx C tys cc own nL fr lo) (hd : decode cc pc = .ok (.iaload, 1)) (ha : (wl st)[q0]? = some (a, .inl (cA, n, .inl (gA st j k)))) (ht : tys[t0]? = some (cA, .int)) (hp : pc + 1 = pc') (h : lAk st j k n i f = some o) (kk : ∀ v, f v = some o → Vat C wl nL pc' lv (.int v :: stk) st) : Vat C wl nL pc lv (.int i :: .ref a :: stk) st := by
  subst hp
  unfold lAk at h
  by_cases q : vpb i n = true
  · rw [if_pos q] at h
    exact fun H locs ls hW hl => va_iald cx.1 cx.2.1 cx.2.2.2.2.2.1 hW.1 q0 t0 ha ht (vpb_in q) hd (kk _ h H locs ls hW hl)
  · rw [if_neg q] at h; cases h
theorem v_zald (pc' q0 t0 : Nat) {cA : ClassId} {j k n a : Nat} {i : Int32} {f : Int32 → Option β} (cx : Cx C tys cc own nL fr lo) (hd : decode cc pc = .ok (.baload, 1)) (ha : (wl st)[q0]? = some (a, .inl (cA, n, .inl (gA st j k)))) (ht : tys[t0]? = some (cA, .boolean)) (hp : pc + 1 = pc') (h : lAk st j k n i f = some o) (kk : ∀ v, f v = some o → Vat C wl nL pc' lv (.int v :: stk) st) : Vat C wl nL pc lv (.int i :: .ref a :: stk) st := by
  subst hp
  unfold lAk at h
  by_cases q : vpb i n = true
  · rw [if_pos q] at h
    exact fun H locs ls hW hl => va_zald cx.1 cx.2.1 cx.2.2.2.2.2.1 hW.1 q0 t0 ha ht (vpb_in q) hd (kk _ h H locs ls hW hl)
  · rw [if_neg q] at h; cases h
theorem v_lald (pc' q0 t0 : Nat) {cA : ClassId} {j k n a : Nat} {i : Int32} {f : Int64 → Option β} (cx : Cx C tys cc own nL fr lo) (hd : decode cc pc = .ok (.laload, 1)) (ha : (wl st)[q0]? = some (a, .inl (cA, n, .inr (.inl (gL st j k))))) (ht : tys[t0]? = some (cA, .long)) (hp : pc + 1 = pc') (h : lLk st j k n i f = some o) (kk : ∀ v, f v = some o → Vat C wl nL pc' lv (.long v :: stk) st) : Vat C wl nL pc lv (.int i :: .ref a :: stk) st := by
  subst hp
  unfold lLk at h
  by_cases q : vpb i n = true
  · rw [if_pos q] at h
    exact fun H locs ls hW hl => va_lald cx.1 cx.2.1 cx.2.2.2.2.2.1 hW.1 q0 t0 ha ht (vpb_in q) hd (kk _ h H locs ls hW hl)
  · rw [if_neg q] at h; cases h
theorem v_iast (pc' q0 t0 : Nat) {cA : ClassId} {j k n a : Nat} {i : Int32} {x : Int32} {f : Sg → Option β} (cx : Cx C tys cc own nL fr lo) (hd : decode cc pc = .ok (.iastore, 1)) (ha : (wl st)[q0]? = some (a, .inl (cA, n, .inl (gA st j k)))) (ht : tys[t0]? = some (cA, .int)) (hs : ∀ z, (wl st).set q0 (a, .inl (cA, n, .inl z)) = wl (pA st j k z)) (hp : pc + 1 = pc') (h : sAk st j k n i x f = some o) (kk : ∀ st', f st' = some o → Vat C wl nL pc' lv stk st') : Vat C wl nL pc lv (.int x :: .int i :: .ref a :: stk) st := by
  subst hp
  unfold sAk at h
  by_cases q : vpb i n = true
  · rw [if_pos q] at h
    exact fun H locs ls hW hl => va_iast cx.1 cx.2.1 cx.2.2.2.2.2.1 hW.1 hW.2.1 hW.2.2 q0 t0 ha ht (vpb_in q) hd (fun H1 locs1 g1 g2 g3 => kk _ h H1 locs1 ls (by rw [hs] at g1 g2; exact ⟨g1, g2, g3⟩) hl)
  · rw [if_neg q] at h; cases h
theorem v_zast (pc' q0 t0 : Nat) {cA : ClassId} {j k n a : Nat} {i : Int32} {x : Int32} {f : Sg → Option β} (cx : Cx C tys cc own nL fr lo) (hd : decode cc pc = .ok (.bastore, 1)) (ha : (wl st)[q0]? = some (a, .inl (cA, n, .inl (gA st j k)))) (ht : tys[t0]? = some (cA, .boolean)) (hs : ∀ z, (wl st).set q0 (a, .inl (cA, n, .inl z)) = wl (pA st j k z)) (hp : pc + 1 = pc') (h : sZk st j k n i x f = some o) (kk : ∀ st', f st' = some o → Vat C wl nL pc' lv stk st') : Vat C wl nL pc lv (.int x :: .int i :: .ref a :: stk) st := by
  subst hp
  unfold sZk at h
  by_cases q : vpb i n = true
  · rw [if_pos q] at h
    exact fun H locs ls hW hl => va_zast cx.1 cx.2.1 cx.2.2.2.2.2.1 hW.1 hW.2.1 hW.2.2 q0 t0 ha ht (vpb_in q) hd (fun H1 locs1 g1 g2 g3 => kk _ h H1 locs1 ls (by rw [hs] at g1 g2; exact ⟨g1, g2, g3⟩) hl)
  · rw [if_neg q] at h; cases h
theorem v_last (pc' q0 t0 : Nat) {cA : ClassId} {j k n a : Nat} {i : Int32} {x : Int64} {f : Sg → Option β} (cx : Cx C tys cc own nL fr lo) (hd : decode cc pc = .ok (.lastore, 1)) (ha : (wl st)[q0]? = some (a, .inl (cA, n, .inr (.inl (gL st j k))))) (ht : tys[t0]? = some (cA, .long)) (hs : ∀ z, (wl st).set q0 (a, .inl (cA, n, .inr (.inl z))) = wl (pL st j k z)) (hp : pc + 1 = pc') (h : sLk st j k n i x f = some o) (kk : ∀ st', f st' = some o → Vat C wl nL pc' lv stk st') : Vat C wl nL pc lv (.long x :: .int i :: .ref a :: stk) st := by
  subst hp
  unfold sLk at h
  by_cases q : vpb i n = true
  · rw [if_pos q] at h
    exact fun H locs ls hW hl => va_last cx.1 cx.2.1 cx.2.2.2.2.2.1 hW.1 hW.2.1 hW.2.2 q0 t0 ha ht (vpb_in q) hd (fun H1 locs1 g1 g2 g3 => kk _ h H1 locs1 ls (by rw [hs] at g1 g2; exact ⟨g1, g2, g3⟩) hl)
  · rw [if_neg q] at h; cases h
theorem v_alen (pc' q0 t0 : Nat) {cA : ClassId} {a : Nat} {x : vp_A} {ty : FieldType} {v : Int32} (cx : Cx C tys cc own nL fr lo) (hd : decode cc pc = .ok (.arraylength, 1)) (ha : (wl st)[q0]? = some (a, .inl (cA, x))) (ht : tys[t0]? = some (cA, ty)) (hv : Int32.ofNat x.1 = v) (hp : pc + 1 = pc') (kk : Vat C wl nL pc' lv (.int v :: stk) st) : Vat C wl nL pc lv (.ref a :: stk) st := by
  subst hp
  exact fun H locs ls hW hl => va_alen cx.1 cx.2.1 cx.2.2.2.2.2.1 hW.1 q0 t0 ha ht hv hd (kk H locs ls hW hl)
theorem v_copyi (pc' q0 q1 t0 : Nat) {cA : ClassId} {index j0 k0 n0 a0 j1 k1 n1 a1 : Nat} {sp dp n : Int32} {f : Sg → Option β} (cx : Cx C tys cc own nL fr lo) (hd : decode cc pc = .ok (.invokestatic index, 3)) (hm : Cond.methodLink own index arraycopyName ∈ lwg) (h1 : Cond.native arraycopyName ∈ lwg) (h2 : Cond.static arraycopyName ∈ lwg) (h3 : Cond.initialized "java/lang/System" ∈ lwg) (ha0 : (wl st)[q0]? = some (a0, .inl (cA, n0, .inl (gA st j0 k0)))) (ha1 : (wl st)[q1]? = some (a1, .inl (cA, n1, .inl (gA st j1 k1)))) (ht : tys[t0]? = some (cA, .int)) (hs : ∀ z, (wl st).set q1 (a1, .inl (cA, n1, .inl z)) = wl (pA st j1 k1 z)) (hf : 1 ≤ fr) (hlo : (stk.map fun v => v.category).sum + (nativeFrameWords "java/lang/System" "arraycopy" 5 + 11) ≤ lo) (hp : pc + 3 = pc') (h : cpAk st j0 k0 n0 sp j1 k1 n1 dp n f = some o) (kk : ∀ st', f st' = some o → Vat C wl nL pc' lv stk st') : Vat C wl nL pc lv (.int n :: .int dp :: .ref a1 :: .int sp :: .ref a0 :: stk) st := by
  subst hp
  obtain ⟨c1, c2, c3, c4, c5, c6, c7, c8, c9, c10, c11⟩ := cx
  subst c8; subst c9
  unfold cpAk at h
  by_cases b1 : sp < 0
  · rw [if_pos b1] at h; cases h
  rw [if_neg b1] at h
  by_cases b2 : dp < 0
  · rw [if_pos b2] at h; cases h
  rw [if_neg b2] at h
  by_cases b3 : n < 0
  · rw [if_pos b3] at h; cases h
  rw [if_neg b3] at h
  by_cases b4 : sp.toNatClampNeg + n.toNatClampNeg ≤ n0
  · rw [if_pos b4] at h
    by_cases b5 : dp.toNatClampNeg + n.toNatClampNeg ≤ n1
    · rw [if_pos b5] at h
      exact fun H locs ls hW hl => va_copyi c1 c2 (c3.trans hl.1.symm) c4 (c5 _ hm) (c5 _ h1) (c5 _ h2) (c5 _ h3) c6 hW.1 hW.2.1 hW.2.2 q0 q1 t0 t0 ha0 ha1 ht ht rfl b1 b2 b3 b4 b5 (fun _ _ => rfl) hf hlo hd (fun H1 locs1 g1 g2 g3 => kk _ h H1 locs1 ls (by rw [hs] at g1 g2; exact ⟨g1, g2, g3⟩) hl)
    · rw [if_neg b5] at h; cases h
  · rw [if_neg b4] at h; cases h
theorem v_copyl (pc' q0 q1 t0 : Nat) {cA : ClassId} {index j0 k0 n0 a0 j1 k1 n1 a1 : Nat} {sp dp n : Int32} {f : Sg → Option β} (cx : Cx C tys cc own nL fr lo) (hd : decode cc pc = .ok (.invokestatic index, 3)) (hm : Cond.methodLink own index arraycopyName ∈ lwg) (h1 : Cond.native arraycopyName ∈ lwg) (h2 : Cond.static arraycopyName ∈ lwg) (h3 : Cond.initialized "java/lang/System" ∈ lwg) (ha0 : (wl st)[q0]? = some (a0, .inl (cA, n0, .inr (.inl (gL st j0 k0))))) (ha1 : (wl st)[q1]? = some (a1, .inl (cA, n1, .inr (.inl (gL st j1 k1))))) (ht : tys[t0]? = some (cA, .long)) (hs : ∀ z, (wl st).set q1 (a1, .inl (cA, n1, .inr (.inl z))) = wl (pL st j1 k1 z)) (hf : 1 ≤ fr) (hlo : (stk.map fun v => v.category).sum + (nativeFrameWords "java/lang/System" "arraycopy" 5 + 11) ≤ lo) (hp : pc + 3 = pc') (h : cpLk st j0 k0 n0 sp j1 k1 n1 dp n f = some o) (kk : ∀ st', f st' = some o → Vat C wl nL pc' lv stk st') : Vat C wl nL pc lv (.int n :: .int dp :: .ref a1 :: .int sp :: .ref a0 :: stk) st := by
  subst hp
  obtain ⟨c1, c2, c3, c4, c5, c6, c7, c8, c9, c10, c11⟩ := cx
  subst c8; subst c9
  unfold cpLk at h
  by_cases b1 : sp < 0
  · rw [if_pos b1] at h; cases h
  rw [if_neg b1] at h
  by_cases b2 : dp < 0
  · rw [if_pos b2] at h; cases h
  rw [if_neg b2] at h
  by_cases b3 : n < 0
  · rw [if_pos b3] at h; cases h
  rw [if_neg b3] at h
  by_cases b4 : sp.toNatClampNeg + n.toNatClampNeg ≤ n0
  · rw [if_pos b4] at h
    by_cases b5 : dp.toNatClampNeg + n.toNatClampNeg ≤ n1
    · rw [if_pos b5] at h
      exact fun H locs ls hW hl => va_copyl c1 c2 (c3.trans hl.1.symm) c4 (c5 _ hm) (c5 _ h1) (c5 _ h2) (c5 _ h3) c6 hW.1 hW.2.1 hW.2.2 q0 q1 t0 t0 ha0 ha1 ht ht rfl b1 b2 b3 b4 b5 (fun _ _ => rfl) hf hlo hd (fun H1 locs1 g1 g2 g3 => kk _ h H1 locs1 ls (by rw [hs] at g1 g2; exact ⟨g1, g2, g3⟩) hl)
    · rw [if_neg b5] at h; cases h
  · rw [if_neg b4] at h; cases h
theorem v_ldc_w (pc' : Nat) {index : Nat} {v : Int32} (cx : Cx C tys cc own nL fr lo) (hd : decode cc pc = .ok (.ldc_w index, 3)) (hm : Jvm.Cond.constant own index v ∈ lwg) (hp : pc + 3 = pc') (k : Vat C wl nL pc' lv (.int v :: stk) st) : Vat C wl nL pc lv stk st := by
  subst hp
  exact fun H locs ls hW hl => lv_ldcw cx.1 cx.2.1 cx.2.2.2.1 (cx.2.2.2.2.1 _ hm) hd (k H locs ls hW hl)
theorem v_getI (pc' q0 k : Nat) {C0 ref : String} {T : u_T} {N ci index a j : Nat} {fs : List Value} {f : Int32 → Option β} (cx : Cx C tys cc own nL fr lo) (hd : decode cc pc = .ok (.getfield index, 3)) (hin : ∀ w ∈ u_ws C0 T N, w ∈ lwg) (he : (wl st)[q0]? = some (a, .inr (ci, fs))) (hc : vwCl[ci]? = some (C0, T, N)) (hk : k < N) (hr : (T k).1 = ref) (hm : Cond.fieldLink own index ref (T k).2.1 (T k).2.2.1 ∈ lwg) (hv : fs[k]? = some (.int (gI st j k))) (hp : pc + 3 = pc') (h : gIk st j k f = some o) (kk : ∀ v, f v = some o → Vat C wl nL pc' lv (.int v :: stk) st) : Vat C wl nL pc lv (.ref a :: stk) st := v_get pc' q0 k cx hd hin he hc hk hr hm hv hp (kk _ h)
theorem v_putI (pc' q0 k : Nat) {C0 ref : String} {T : u_T} {N ci index a j : Nat} {fs : List Value} {x : Int32} {ty : FieldType} {tyf : Nat → FieldType} {f : Sg → Option β} (cx : Cx C tys cc own nL fr lo) (hd : decode cc pc = .ok (.putfield index, 3)) (hin : ∀ w ∈ u_ws C0 T N, w ∈ lwg) (hty : ∀ k, k < N → parseFieldDescriptor (T k).2.2.1 = some (tyf k)) (hnm : ∀ a, a < N → ∀ b, b < N → a ≠ b → (T a).2.1 ≠ (T b).2.1) (he : (wl st)[q0]? = some (a, .inr (ci, fs))) (hc : vwCl[ci]? = some (C0, T, N)) (hk : k < N) (hr : (T k).1 = ref) (hm : Cond.fieldLink own index ref (T k).2.1 (T k).2.2.1 ∈ lwg) (hfin : (T k).2.2.2 = false) (ht : tyf k = ty) (hn : narrow ty (.int x) = .int x) (hfit : fits ty (.int x) = true) (hlen : k < fs.length) (hs : (wl st).set q0 (a, .inr (ci, fs.set k (.int x))) = wl (pI st j k x)) (hp : pc + 3 = pc') (h : sIk st j k x f = some o) (kk : ∀ st', f st' = some o → Vat C wl nL pc' lv stk st') : Vat C wl nL pc lv (.int x :: .ref a :: stk) st := v_put pc' q0 k cx hd hin hty hnm he hc hk hr hm hfin ht hn hfit hlen hs hp (kk _ h)
theorem v_look2 (t1 t2 t3 : Nat) {x k1 k2 : Int32} {dflt i1 o1 i2 o2 : Int} {len : Nat} {E1 E2 E3 : Option β} (cx : Cx C tys cc own nL fr lo) (hd : decode cc pc = .ok (.lookupswitch dflt #[(i1, o1), (i2, o2)], len)) (hlt : i1 < i2) (hk1 : k1.toInt = i1) (hk2 : k2.toInt = i2) (ht1 : (pc : Int) + o1 = (t1 : Int)) (ht2 : (pc : Int) + o2 = (t2 : Int)) (ht3 : (pc : Int) + dflt = (t3 : Int)) (h : (if x = k1 then E1 else if x = k2 then E2 else E3) = some o) (g1 : E1 = some o → Vat C wl nL t1 lv stk st) (g2 : E2 = some o → Vat C wl nL t2 lv stk st) (g3 : E3 = some o → Vat C wl nL t3 lv stk st) : Vat C wl nL pc lv (.int x :: stk) st := by
  have hs : (([(i1, o1), (i2, o2)] : List (Int × Int)).zip (([(i1, o1), (i2, o2)] : List (Int × Int)).drop 1)).all (fun (a, next) => a.1 < next.1) = true := by simp [hlt]
  by_cases q1 : x = k1
  · rw [if_pos q1] at h
    subst q1
    exact fun H locs ls hW hl => lv_lookup cx.1 cx.2.1 hd hs (by simp [Op.lookupswitch.offset, hk1]) ht1 (g1 h H locs ls hW hl)
  · rw [if_neg q1] at h
    have n1 : ¬ i1 = x.toInt := fun e => q1 (Int32.toInt_inj.mp (e.symm.trans hk1.symm))
    by_cases q2 : x = k2
    · rw [if_pos q2] at h
      subst q2
      exact fun H locs ls hW hl => lv_lookup cx.1 cx.2.1 hd hs (by simp [Op.lookupswitch.offset, hk2, n1]; try omega) ht2 (g2 h H locs ls hW hl)
    · rw [if_neg q2] at h
      have n2 : ¬ i2 = x.toInt := fun e => q2 (Int32.toInt_inj.mp (e.symm.trans hk2.symm))
      exact fun H locs ls hW hl => lv_lookup cx.1 cx.2.1 hd hs (by simp [Op.lookupswitch.offset, n1, n2]) ht3 (g3 h H locs ls hW hl)
end VR
/-- the words of a method -/
abbrev wsm (y : MethodName) (cc : ByteArray) (nL : Nat) (ret : Option FieldType) : List Cond := Cond.code y cc nL ret :: lwg
def rmN (fr lo : Nat) : Room := { frames := fr, cells := 0, slots := 0, locals := lo }
def PcW (D : va_G) (wl : Sg → va_W) (tys : List (ClassId × FieldType)) (as : List Value) (st : Sg) (sz : Nat) : Array Value → State → Prop := va_Pc as (fun U => U.heap.size = sz ∧ va_P D vwCl (wl st) U.heap ∧ va_K D vwCl tys U ∧ va_D (fun _ => True) (wl st))
def PoW (D : va_G) (wl : Sg → va_W) (tys : List (ClassId × FieldType)) (A : Nat → Prop) (u : Sg) (t : State) : Prop := va_P D vwCl (wl u) t.heap ∧ va_K D vwCl tys t ∧ va_D A (wl u)
def CtI (l : Launch) (wl : Sg → va_W) (tys : List (ClassId × FieldType)) (y : MethodName) (cc : ByteArray) (nL : Nat) (ret : Option FieldType) (fr lo : Nat) (as : List Value) (st : Sg) (o : Int32 × Sg) : Prop := ∀ (D : va_G) (sz : Nat), Met l y (wsm y cc nL ret) (rmN fr lo) (PcW D wl tys as st sz) (va_Qi (fun r u => (r, u) = o) (PoW D wl tys (va_A (wl st) sz)) (va_A (wl st) sz)) 0 0 (va_A (wl st) sz)
def CtL (l : Launch) (wl : Sg → va_W) (tys : List (ClassId × FieldType)) (y : MethodName) (cc : ByteArray) (nL : Nat) (ret : Option FieldType) (fr lo : Nat) (as : List Value) (st : Sg) (o : Int64 × Sg) : Prop := ∀ (D : va_G) (sz : Nat), Met l y (wsm y cc nL ret) (rmN fr lo) (PcW D wl tys as st sz) (va_Ql (fun r u => (r, u) = o) (PoW D wl tys (va_A (wl st) sz)) (va_A (wl st) sz)) 0 0 (va_A (wl st) sz)
def CtV (l : Launch) (wl : Sg → va_W) (tys : List (ClassId × FieldType)) (y : MethodName) (cc : ByteArray) (nL : Nat) (ret : Option FieldType) (fr lo : Nat) (as : List Value) (st : Sg) (o : Unit × Sg) : Prop := ∀ (D : va_G) (sz : Nat), Met l y (wsm y cc nL ret) (rmN fr lo) (PcW D wl tys as st sz) (va_Qv (fun u => ((), u) = o) (PoW D wl tys (va_A (wl st) sz)) (va_A (wl st) sz)) 0 0 (va_A (wl st) sz)
theorem pcw_blind {D : va_G} {wl : Sg → va_W} {tys : List (ClassId × FieldType)} {as : List Value} {st : Sg} {sz : Nat} : FrameBlind (PcW D wl tys as st sz) := fun a U g mk q => by
  obtain ⟨q0, q1, qP, qK, qD⟩ := q
  exact ⟨q0, q1, qP, va_K.moved (u := U) (U := U.calling g mk a) (Vm.Alike.refl U.vm) qK, qD⟩
theorem wa_in {A : Nat → Prop} {ws : va_W} {H0 H : Heap} {locs : List Loc} (hD : va_D A ws) (hS : va_S A H0 H locs) (hA : ∀ q, H0.size ≤ q → A q) : ∀ q, va_A ws H.size q → A q := by
  intro q h
  rcases h with ⟨k, e, h⟩ | h
  · exact hD.2 k (q, e) h
  · exact hA q (Nat.le_trans hS.1 h)
/-- what the tables say of a method that is called -/
def CaV (y : MethodName) (cc : ByteArray) (nL : Nat) (ret : Option FieldType) (n : Nat) : Prop := Cond.code y cc nL ret ∈ lwg ∧ Cond.initialized y.cls ∈ lwg ∧ Cond.instanceMethod y ∈ lwg ∧ Cond.selects y.cls y y ∈ lwg ∧ (y.cls ≠ "java/lang/invoke/MethodHandle" ∧ y.cls ≠ "java/lang/invoke/VarHandle" ∧ (parseMethodDescriptor y.desc).map (fun d => d.parameters.length) = some n)
def CaS (y : MethodName) (cc : ByteArray) (nL : Nat) (ret : Option FieldType) (n : Nat) : Prop := Cond.code y cc nL ret ∈ lwg ∧ Cond.initialized y.cls ∈ lwg ∧ Cond.static y ∈ lwg ∧ (y.cls ≠ "java/lang/invoke/MethodHandle" ∧ y.cls ≠ "java/lang/invoke/VarHandle" ∧ (parseMethodDescriptor y.desc).map (fun d => d.parameters.length) = some n)
theorem tbl_good : ∀ w ∈ lwg, goodWord w = true := fun w h => (List.mem_filter.mp h).2
theorem wsm_good {y : MethodName} {cc : ByteArray} {nL : Nat} {ret : Option FieldType} (h : Cond.code y cc nL ret ∈ lwg) : GoodIn lwg (wsm y cc nL ret) := fun w hw => by
  rcases List.mem_cons.mp hw with e | e
  · subst e; exact ⟨h, good_of_word (tbl_good _ h)⟩
  · exact ⟨e, good_of_word (tbl_good _ e)⟩
section VC
variable {C : Cm} {wl : Sg → va_W} {nL pc fr lo : Nat} {lv lv' : List (Nat × Value)} {stk : List Value} {st : Sg} {tys : List (ClassId × FieldType)} {cc : ByteArray} {own : String} {β : Type} {o : β}
theorem v_callVI (pc' : Nat) (q0 : Nat) {b ci N : Nat} {fs : List Value} {T : u_T} {index nL2 n fr2 lo2 : Nat} {y : MethodName} {cc2 : ByteArray} {ret : Option FieldType} {as S : List Value} {mf : Option (Int32 × Sg)} {f : Int32 → Sg → Option β} (cx : Cx C tys cc own nL fr lo) (hd : decode cc pc = .ok (.invokevirtual index, 3)) (hm : Cond.methodLink own index y ∈ lwg) (cb : CaV y cc2 nL2 ret n) (he : (wl st)[q0]? = some (b, .inr (ci, fs))) (hc : vwCl[ci]? = some (y.cls, T, N)) (hM : ∀ q, mf = some q → CtI C.2.1 wl tys y cc2 nL2 ret fr2 lo2 (.ref b :: as) st q) (hn : as.length = n) (hR : fr2 + 1 ≤ fr ∧ 8 + (nL2 + 11) + lo2 ≤ lo) (hs : S = as.reverse ++ .ref b :: stk) (hw : (stk.map fun v => v.category).sum ≤ 8) (hp : pc + 3 = pc') (h : clk mf f = some o) (kk : ∀ r st', f r st' = some o → Vat C wl nL pc' lv (.int r :: stk) st') : Vat C wl nL pc lv S st := by
  subst hp
  subst hs
  cases hmf : mf with
  | none => rw [hmf] at h; cases h
  | some q =>
    rw [hmf] at h
    obtain ⟨r, st'⟩ := q
    have h : f r st' = some o := h
    obtain ⟨c1, c2, c3, c4, c5, c6, c7, c8, c9, c10, c11⟩ := cx
    subst c8; subst c9
    intro H locs ls hW hl
    obtain ⟨hP, hD, hS⟩ := hW
    have hM1 := hM _ hmf C.2.2.2.2.2.2.2.2.2.2.2.1 H.size
    have cw : CallW C.2.2.2.1 C.2.2.2.2.1 C.2.2.2.2.2.2.1 own y.cls index y cc2 nL2 ret (wsm y cc2 nL2 ret) (rmN fr2 lo2) 0 0 n := ⟨callB_of n c5 (wsm_good cb.1) rfl rfl rfl (c5 _ cb.2.1) (c5 _ hm) cb.2.2.2.2 hR, c5 _ cb.2.2.1, c5 _ cb.2.2.2.1⟩
    have pre : PreV C.2.2.2.2.1 H y.cls b (PcW C.2.2.2.2.2.2.2.2.2.2.2.1 wl tys (.ref b :: as) st H.size) as := ⟨pcw_blind, va_recv c6 hP (q0 := q0) hc he, fun U hU hW => ⟨rfl, by rw [hU], by rw [hU]; exact hP, va_K.moved hW.alike c6, hD.weaken (fun _ _ _ _ => trivial)⟩⟩
    have run := va_runV (locs := locs) (cells := C.2.2.2.2.2.2.2.2.2.2.2.2.2.1) (slots := C.2.2.2.2.2.2.2.2.2.2.2.2.2.2) (below := C.2.2.2.2.2.2.2.1) (meth := C.2.2.2.2.2.2.2.2.1) (e := C.2.2.1) (g := F0 C.2.2.2.2.2.1 pc ls (as.reverse ++ .ref b :: stk)) (rest := stk) ⟨c1, c2, c3, c4, c5⟩ hM1 cw pre rfl hn hl.1 rfl (lv_room hw) hd ⟨c10, c11⟩
    refine va_calli run hS (fun q _ h => wa_in hD hS c7 q h) (wa_in hD hS c7) (fun r1 u t H1 locs1 ht hvm hw2 hB hz1 hk1 hS1 => ?_)
    cases hw2
    obtain ⟨hP1, hK1, hD1⟩ := hB
    rw [ht] at hP1
    exact kk _ _ h H1 locs1 ls ⟨hP1, hD1.weaken (fun _ x _ hx => wa_in hD hS c7 x.1 hx), hS1⟩ hl
theorem v_callVL (pc' : Nat) (q0 : Nat) {b ci N : Nat} {fs : List Value} {T : u_T} {index nL2 n fr2 lo2 : Nat} {y : MethodName} {cc2 : ByteArray} {ret : Option FieldType} {as S : List Value} {mf : Option (Int64 × Sg)} {f : Int64 → Sg → Option β} (cx : Cx C tys cc own nL fr lo) (hd : decode cc pc = .ok (.invokevirtual index, 3)) (hm : Cond.methodLink own index y ∈ lwg) (cb : CaV y cc2 nL2 ret n) (he : (wl st)[q0]? = some (b, .inr (ci, fs))) (hc : vwCl[ci]? = some (y.cls, T, N)) (hM : ∀ q, mf = some q → CtL C.2.1 wl tys y cc2 nL2 ret fr2 lo2 (.ref b :: as) st q) (hn : as.length = n) (hR : fr2 + 1 ≤ fr ∧ 8 + (nL2 + 11) + lo2 ≤ lo) (hs : S = as.reverse ++ .ref b :: stk) (hw : (stk.map fun v => v.category).sum ≤ 8) (hp : pc + 3 = pc') (h : clk mf f = some o) (kk : ∀ r st', f r st' = some o → Vat C wl nL pc' lv (.long r :: stk) st') : Vat C wl nL pc lv S st := by
  subst hp
  subst hs
  cases hmf : mf with
  | none => rw [hmf] at h; cases h
  | some q =>
    rw [hmf] at h
    obtain ⟨r, st'⟩ := q
    have h : f r st' = some o := h
    obtain ⟨c1, c2, c3, c4, c5, c6, c7, c8, c9, c10, c11⟩ := cx
    subst c8; subst c9
    intro H locs ls hW hl
    obtain ⟨hP, hD, hS⟩ := hW
    have hM1 := hM _ hmf C.2.2.2.2.2.2.2.2.2.2.2.1 H.size
    have cw : CallW C.2.2.2.1 C.2.2.2.2.1 C.2.2.2.2.2.2.1 own y.cls index y cc2 nL2 ret (wsm y cc2 nL2 ret) (rmN fr2 lo2) 0 0 n := ⟨callB_of n c5 (wsm_good cb.1) rfl rfl rfl (c5 _ cb.2.1) (c5 _ hm) cb.2.2.2.2 hR, c5 _ cb.2.2.1, c5 _ cb.2.2.2.1⟩
    have pre : PreV C.2.2.2.2.1 H y.cls b (PcW C.2.2.2.2.2.2.2.2.2.2.2.1 wl tys (.ref b :: as) st H.size) as := ⟨pcw_blind, va_recv c6 hP (q0 := q0) hc he, fun U hU hW => ⟨rfl, by rw [hU], by rw [hU]; exact hP, va_K.moved hW.alike c6, hD.weaken (fun _ _ _ _ => trivial)⟩⟩
    have run := va_runV (locs := locs) (cells := C.2.2.2.2.2.2.2.2.2.2.2.2.2.1) (slots := C.2.2.2.2.2.2.2.2.2.2.2.2.2.2) (below := C.2.2.2.2.2.2.2.1) (meth := C.2.2.2.2.2.2.2.2.1) (e := C.2.2.1) (g := F0 C.2.2.2.2.2.1 pc ls (as.reverse ++ .ref b :: stk)) (rest := stk) ⟨c1, c2, c3, c4, c5⟩ hM1 cw pre rfl hn hl.1 rfl (lv_room hw) hd ⟨c10, c11⟩
    refine va_calll run hS (fun q _ h => wa_in hD hS c7 q h) (wa_in hD hS c7) (fun r1 u t H1 locs1 ht hvm hw2 hB hz1 hk1 hS1 => ?_)
    cases hw2
    obtain ⟨hP1, hK1, hD1⟩ := hB
    rw [ht] at hP1
    exact kk _ _ h H1 locs1 ls ⟨hP1, hD1.weaken (fun _ x _ hx => wa_in hD hS c7 x.1 hx), hS1⟩ hl
theorem v_callVV (pc' : Nat) (q0 : Nat) {b ci N : Nat} {fs : List Value} {T : u_T} {index nL2 n fr2 lo2 : Nat} {y : MethodName} {cc2 : ByteArray} {ret : Option FieldType} {as S : List Value} {mf : Option (Unit × Sg)} {f : Unit → Sg → Option β} (cx : Cx C tys cc own nL fr lo) (hd : decode cc pc = .ok (.invokevirtual index, 3)) (hm : Cond.methodLink own index y ∈ lwg) (cb : CaV y cc2 nL2 ret n) (he : (wl st)[q0]? = some (b, .inr (ci, fs))) (hc : vwCl[ci]? = some (y.cls, T, N)) (hM : ∀ q, mf = some q → CtV C.2.1 wl tys y cc2 nL2 ret fr2 lo2 (.ref b :: as) st q) (hn : as.length = n) (hR : fr2 + 1 ≤ fr ∧ 8 + (nL2 + 11) + lo2 ≤ lo) (hs : S = as.reverse ++ .ref b :: stk) (hw : (stk.map fun v => v.category).sum ≤ 8) (hp : pc + 3 = pc') (h : clk mf f = some o) (kk : ∀ r st', f r st' = some o → Vat C wl nL pc' lv stk st') : Vat C wl nL pc lv S st := by
  subst hp
  subst hs
  cases hmf : mf with
  | none => rw [hmf] at h; cases h
  | some q =>
    rw [hmf] at h
    obtain ⟨r, st'⟩ := q
    have h : f r st' = some o := h
    obtain ⟨c1, c2, c3, c4, c5, c6, c7, c8, c9, c10, c11⟩ := cx
    subst c8; subst c9
    intro H locs ls hW hl
    obtain ⟨hP, hD, hS⟩ := hW
    have hM1 := hM _ hmf C.2.2.2.2.2.2.2.2.2.2.2.1 H.size
    have cw : CallW C.2.2.2.1 C.2.2.2.2.1 C.2.2.2.2.2.2.1 own y.cls index y cc2 nL2 ret (wsm y cc2 nL2 ret) (rmN fr2 lo2) 0 0 n := ⟨callB_of n c5 (wsm_good cb.1) rfl rfl rfl (c5 _ cb.2.1) (c5 _ hm) cb.2.2.2.2 hR, c5 _ cb.2.2.1, c5 _ cb.2.2.2.1⟩
    have pre : PreV C.2.2.2.2.1 H y.cls b (PcW C.2.2.2.2.2.2.2.2.2.2.2.1 wl tys (.ref b :: as) st H.size) as := ⟨pcw_blind, va_recv c6 hP (q0 := q0) hc he, fun U hU hW => ⟨rfl, by rw [hU], by rw [hU]; exact hP, va_K.moved hW.alike c6, hD.weaken (fun _ _ _ _ => trivial)⟩⟩
    have run := va_runV (locs := locs) (cells := C.2.2.2.2.2.2.2.2.2.2.2.2.2.1) (slots := C.2.2.2.2.2.2.2.2.2.2.2.2.2.2) (below := C.2.2.2.2.2.2.2.1) (meth := C.2.2.2.2.2.2.2.2.1) (e := C.2.2.1) (g := F0 C.2.2.2.2.2.1 pc ls (as.reverse ++ .ref b :: stk)) (rest := stk) ⟨c1, c2, c3, c4, c5⟩ hM1 cw pre rfl hn hl.1 rfl (lv_room hw) hd ⟨c10, c11⟩
    refine va_callv run hS (fun q _ h => wa_in hD hS c7 q h) (wa_in hD hS c7) (fun u t H1 locs1 ht hvm hw2 hB hz1 hk1 hS1 => ?_)
    cases hw2
    obtain ⟨hP1, hK1, hD1⟩ := hB
    rw [ht] at hP1
    exact kk _ _ h H1 locs1 ls ⟨hP1, hD1.weaken (fun _ x _ hx => wa_in hD hS c7 x.1 hx), hS1⟩ hl
theorem v_callSI (pc' : Nat)  {index nL2 n fr2 lo2 : Nat} {y : MethodName} {cc2 : ByteArray} {ret : Option FieldType} {as S : List Value} {mf : Option (Int32 × Sg)} {f : Int32 → Sg → Option β} (cx : Cx C tys cc own nL fr lo) (hd : decode cc pc = .ok (.invokestatic index, 3)) (hm : Cond.methodLink own index y ∈ lwg) (cb : CaS y cc2 nL2 ret n) (hM : ∀ q, mf = some q → CtI C.2.1 wl tys y cc2 nL2 ret fr2 lo2 as st q) (hn : as.length = n) (hR : fr2 + 1 ≤ fr ∧ 8 + (nL2 + 11) + lo2 ≤ lo) (hs : S = as.reverse ++ stk) (hw : (stk.map fun v => v.category).sum ≤ 8) (hp : pc + 3 = pc') (h : clk mf f = some o) (kk : ∀ r st', f r st' = some o → Vat C wl nL pc' lv (.int r :: stk) st') : Vat C wl nL pc lv S st := by
  subst hp
  subst hs
  cases hmf : mf with
  | none => rw [hmf] at h; cases h
  | some q =>
    rw [hmf] at h
    obtain ⟨r, st'⟩ := q
    have h : f r st' = some o := h
    obtain ⟨c1, c2, c3, c4, c5, c6, c7, c8, c9, c10, c11⟩ := cx
    subst c8; subst c9
    intro H locs ls hW hl
    obtain ⟨hP, hD, hS⟩ := hW
    have hM1 := hM _ hmf C.2.2.2.2.2.2.2.2.2.2.2.1 H.size
    have cw : CallB C.2.2.2.1 C.2.2.2.2.1 C.2.2.2.2.2.2.1 own index y cc2 nL2 ret (wsm y cc2 nL2 ret) (rmN fr2 lo2) 0 0 n ∧ (Cond.static y).before C.2.2.2.2.2.2.1 C.2.2.2.2.1 = true := ⟨callB_of n c5 (wsm_good cb.1) rfl rfl rfl (c5 _ cb.2.1) (c5 _ hm) cb.2.2.2 hR, c5 _ cb.2.2.1⟩
    have pre : PreS C.2.2.2.2.1 H (PcW C.2.2.2.2.2.2.2.2.2.2.2.1 wl tys as st H.size) as := ⟨pcw_blind, fun U hU hW => ⟨rfl, by rw [hU], by rw [hU]; exact hP, va_K.moved hW.alike c6, hD.weaken (fun _ _ _ _ => trivial)⟩⟩
    have run := va_runS (locs := locs) (cells := C.2.2.2.2.2.2.2.2.2.2.2.2.2.1) (slots := C.2.2.2.2.2.2.2.2.2.2.2.2.2.2) (below := C.2.2.2.2.2.2.2.1) (meth := C.2.2.2.2.2.2.2.2.1) (e := C.2.2.1) (g := F0 C.2.2.2.2.2.1 pc ls (as.reverse ++ stk)) (rest := stk) ⟨c1, c2, c3, c4, c5⟩ hM1 cw pre rfl hn hl.1 rfl (lv_room hw) hd ⟨c10, c11⟩
    refine va_calli run hS (fun q _ h => wa_in hD hS c7 q h) (wa_in hD hS c7) (fun r1 u t H1 locs1 ht hvm hw2 hB hz1 hk1 hS1 => ?_)
    cases hw2
    obtain ⟨hP1, hK1, hD1⟩ := hB
    rw [ht] at hP1
    exact kk _ _ h H1 locs1 ls ⟨hP1, hD1.weaken (fun _ x _ hx => wa_in hD hS c7 x.1 hx), hS1⟩ hl
theorem v_callSL (pc' : Nat)  {index nL2 n fr2 lo2 : Nat} {y : MethodName} {cc2 : ByteArray} {ret : Option FieldType} {as S : List Value} {mf : Option (Int64 × Sg)} {f : Int64 → Sg → Option β} (cx : Cx C tys cc own nL fr lo) (hd : decode cc pc = .ok (.invokestatic index, 3)) (hm : Cond.methodLink own index y ∈ lwg) (cb : CaS y cc2 nL2 ret n) (hM : ∀ q, mf = some q → CtL C.2.1 wl tys y cc2 nL2 ret fr2 lo2 as st q) (hn : as.length = n) (hR : fr2 + 1 ≤ fr ∧ 8 + (nL2 + 11) + lo2 ≤ lo) (hs : S = as.reverse ++ stk) (hw : (stk.map fun v => v.category).sum ≤ 8) (hp : pc + 3 = pc') (h : clk mf f = some o) (kk : ∀ r st', f r st' = some o → Vat C wl nL pc' lv (.long r :: stk) st') : Vat C wl nL pc lv S st := by
  subst hp
  subst hs
  cases hmf : mf with
  | none => rw [hmf] at h; cases h
  | some q =>
    rw [hmf] at h
    obtain ⟨r, st'⟩ := q
    have h : f r st' = some o := h
    obtain ⟨c1, c2, c3, c4, c5, c6, c7, c8, c9, c10, c11⟩ := cx
    subst c8; subst c9
    intro H locs ls hW hl
    obtain ⟨hP, hD, hS⟩ := hW
    have hM1 := hM _ hmf C.2.2.2.2.2.2.2.2.2.2.2.1 H.size
    have cw : CallB C.2.2.2.1 C.2.2.2.2.1 C.2.2.2.2.2.2.1 own index y cc2 nL2 ret (wsm y cc2 nL2 ret) (rmN fr2 lo2) 0 0 n ∧ (Cond.static y).before C.2.2.2.2.2.2.1 C.2.2.2.2.1 = true := ⟨callB_of n c5 (wsm_good cb.1) rfl rfl rfl (c5 _ cb.2.1) (c5 _ hm) cb.2.2.2 hR, c5 _ cb.2.2.1⟩
    have pre : PreS C.2.2.2.2.1 H (PcW C.2.2.2.2.2.2.2.2.2.2.2.1 wl tys as st H.size) as := ⟨pcw_blind, fun U hU hW => ⟨rfl, by rw [hU], by rw [hU]; exact hP, va_K.moved hW.alike c6, hD.weaken (fun _ _ _ _ => trivial)⟩⟩
    have run := va_runS (locs := locs) (cells := C.2.2.2.2.2.2.2.2.2.2.2.2.2.1) (slots := C.2.2.2.2.2.2.2.2.2.2.2.2.2.2) (below := C.2.2.2.2.2.2.2.1) (meth := C.2.2.2.2.2.2.2.2.1) (e := C.2.2.1) (g := F0 C.2.2.2.2.2.1 pc ls (as.reverse ++ stk)) (rest := stk) ⟨c1, c2, c3, c4, c5⟩ hM1 cw pre rfl hn hl.1 rfl (lv_room hw) hd ⟨c10, c11⟩
    refine va_calll run hS (fun q _ h => wa_in hD hS c7 q h) (wa_in hD hS c7) (fun r1 u t H1 locs1 ht hvm hw2 hB hz1 hk1 hS1 => ?_)
    cases hw2
    obtain ⟨hP1, hK1, hD1⟩ := hB
    rw [ht] at hP1
    exact kk _ _ h H1 locs1 ls ⟨hP1, hD1.weaken (fun _ x _ hx => wa_in hD hS c7 x.1 hx), hS1⟩ hl
theorem v_callSV (pc' : Nat)  {index nL2 n fr2 lo2 : Nat} {y : MethodName} {cc2 : ByteArray} {ret : Option FieldType} {as S : List Value} {mf : Option (Unit × Sg)} {f : Unit → Sg → Option β} (cx : Cx C tys cc own nL fr lo) (hd : decode cc pc = .ok (.invokestatic index, 3)) (hm : Cond.methodLink own index y ∈ lwg) (cb : CaS y cc2 nL2 ret n) (hM : ∀ q, mf = some q → CtV C.2.1 wl tys y cc2 nL2 ret fr2 lo2 as st q) (hn : as.length = n) (hR : fr2 + 1 ≤ fr ∧ 8 + (nL2 + 11) + lo2 ≤ lo) (hs : S = as.reverse ++ stk) (hw : (stk.map fun v => v.category).sum ≤ 8) (hp : pc + 3 = pc') (h : clk mf f = some o) (kk : ∀ r st', f r st' = some o → Vat C wl nL pc' lv stk st') : Vat C wl nL pc lv S st := by
  subst hp
  subst hs
  cases hmf : mf with
  | none => rw [hmf] at h; cases h
  | some q =>
    rw [hmf] at h
    obtain ⟨r, st'⟩ := q
    have h : f r st' = some o := h
    obtain ⟨c1, c2, c3, c4, c5, c6, c7, c8, c9, c10, c11⟩ := cx
    subst c8; subst c9
    intro H locs ls hW hl
    obtain ⟨hP, hD, hS⟩ := hW
    have hM1 := hM _ hmf C.2.2.2.2.2.2.2.2.2.2.2.1 H.size
    have cw : CallB C.2.2.2.1 C.2.2.2.2.1 C.2.2.2.2.2.2.1 own index y cc2 nL2 ret (wsm y cc2 nL2 ret) (rmN fr2 lo2) 0 0 n ∧ (Cond.static y).before C.2.2.2.2.2.2.1 C.2.2.2.2.1 = true := ⟨callB_of n c5 (wsm_good cb.1) rfl rfl rfl (c5 _ cb.2.1) (c5 _ hm) cb.2.2.2 hR, c5 _ cb.2.2.1⟩
    have pre : PreS C.2.2.2.2.1 H (PcW C.2.2.2.2.2.2.2.2.2.2.2.1 wl tys as st H.size) as := ⟨pcw_blind, fun U hU hW => ⟨rfl, by rw [hU], by rw [hU]; exact hP, va_K.moved hW.alike c6, hD.weaken (fun _ _ _ _ => trivial)⟩⟩
    have run := va_runS (locs := locs) (cells := C.2.2.2.2.2.2.2.2.2.2.2.2.2.1) (slots := C.2.2.2.2.2.2.2.2.2.2.2.2.2.2) (below := C.2.2.2.2.2.2.2.1) (meth := C.2.2.2.2.2.2.2.2.1) (e := C.2.2.1) (g := F0 C.2.2.2.2.2.1 pc ls (as.reverse ++ stk)) (rest := stk) ⟨c1, c2, c3, c4, c5⟩ hM1 cw pre rfl hn hl.1 rfl (lv_room hw) hd ⟨c10, c11⟩
    refine va_callv run hS (fun q _ h => wa_in hD hS c7 q h) (wa_in hD hS c7) (fun u t H1 locs1 ht hvm hw2 hB hz1 hk1 hS1 => ?_)
    cases hw2
    obtain ⟨hP1, hK1, hD1⟩ := hB
    rw [ht] at hP1
    exact kk _ _ h H1 locs1 ls ⟨hP1, hD1.weaken (fun _ x _ hx => wa_in hD hS c7 x.1 hx), hS1⟩ hl
end VC
section VE
variable {wl : Sg → va_W} {nL fr lo : Nat} {st : Sg} {tys : List (ClassId × FieldType)} {cc : ByteArray} {y : MethodName} {as : List Value} {lv0 : List (Nat × Value)}
/-- the end of a method, with o -/
def ReI (C : Cm) (wl : Sg → va_W) (cc : ByteArray) (nL : Nat) (o : Int32 × Sg) : Prop := ∀ (pc : Nat) (lv : List (Nat × Value)) (v : Int32) (st : Sg), (v, st) = o → decode cc pc = .ok (.ireturn, 1) → Vat C wl nL pc lv [.int v] st
theorem ctI_of {l : Launch} {o : Int32 × Sg} (hy : plainName y.cls = true) (hlv : lv_args 0 as = lv0) (hle : (lg_sl as).length ≤ nL) (body : ∀ C : Cm, C.2.1 = l → Cx C tys cc y.cls nL fr lo → ReI C wl cc nL o → Vat C wl nL 0 lv0 [] st) : CtI l wl tys y cc nL (some .int) fr lo as st o := by
  intro D sz
  refine Met.ofW (cc := cc) (maxL := nL) (ret := (some .int)) hy rfl ?_
  intro p e s m args below meth c s₁ B hml hv
  obtain ⟨rfl, hsz, hP, hK, hD0⟩ := hv
  have hx := B.exec
  have hb := B.bytes
  have hr := B.returns
  have hts0 := atoms_spec (ws := wsm y cc nL (some .int)) B.pre
  have hts : ∀ w ∈ lwg, w.before as.toArray s = true := fun w h => hts0 w (List.mem_cons_of_mem _ h)
  have hown : s.vm.findClass y.cls = some m.cls := findClass_of_methodNamed B.named
  have hlocks := B.notSynchronized
  subst hsz
  have hD := hD0.self (sz := s.heap.size)
  have hl := lv_entry as (n := nL) hle
  rw [hlv] at hl
  rw [lg_entry_eq]
  refine body (p, l, e, (headSpec (wsm y cc nL (some .int)) (rmN fr lo)).room, s, m, as.toArray, below, meth, c, _, D, va_A (wl st) s.heap.size, 0, 0) rfl ⟨hx, hb, hml, hown, hts, hK, fun q h => Or.inr h, rfl, rfl, Nat.zero_le _, Nat.zero_le _⟩ ?_ s.heap [] _ ⟨hP, hD, va_S.rf⟩ hl
  intro pc lv v st1 heq hd H locs ls hW hl1
  obtain ⟨hP1, hD1, hS1⟩ := hW
  refine W.iret (v := v) hx hb hr (fun t ht hWa => ?_) hS1.2.2 hd
  have PW : PoW D wl tys (va_A (wl st) s.heap.size) st1 t := ⟨by rw [ht]; exact hP1, va_K.moved hWa.alike hK, hD1⟩
  exact ⟨⟨v, st1, rfl, heq, PW⟩, hS1.F ht⟩
/-- the end of a method, with o -/
def ReZ (C : Cm) (wl : Sg → va_W) (cc : ByteArray) (nL : Nat) (o : Int32 × Sg) : Prop := ∀ (pc : Nat) (lv : List (Nat × Value)) (v : Int32) (st : Sg), (v, st) = o → (v = 0 ∨ v = 1) → decode cc pc = .ok (.ireturn, 1) → Vat C wl nL pc lv [.int v] st
theorem ctZ_of {l : Launch} {o : Int32 × Sg} (hy : plainName y.cls = true) (hlv : lv_args 0 as = lv0) (hle : (lg_sl as).length ≤ nL) (body : ∀ C : Cm, C.2.1 = l → Cx C tys cc y.cls nL fr lo → ReZ C wl cc nL o → Vat C wl nL 0 lv0 [] st) : CtI l wl tys y cc nL (some .boolean) fr lo as st o := by
  intro D sz
  refine Met.ofW (cc := cc) (maxL := nL) (ret := (some .boolean)) hy rfl ?_
  intro p e s m args below meth c s₁ B hml hv
  obtain ⟨rfl, hsz, hP, hK, hD0⟩ := hv
  have hx := B.exec
  have hb := B.bytes
  have hr := B.returns
  have hts0 := atoms_spec (ws := wsm y cc nL (some .boolean)) B.pre
  have hts : ∀ w ∈ lwg, w.before as.toArray s = true := fun w h => hts0 w (List.mem_cons_of_mem _ h)
  have hown : s.vm.findClass y.cls = some m.cls := findClass_of_methodNamed B.named
  have hlocks := B.notSynchronized
  subst hsz
  have hD := hD0.self (sz := s.heap.size)
  have hl := lv_entry as (n := nL) hle
  rw [hlv] at hl
  rw [lg_entry_eq]
  refine body (p, l, e, (headSpec (wsm y cc nL (some .boolean)) (rmN fr lo)).room, s, m, as.toArray, below, meth, c, _, D, va_A (wl st) s.heap.size, 0, 0) rfl ⟨hx, hb, hml, hown, hts, hK, fun q h => Or.inr h, rfl, rfl, Nat.zero_le _, Nat.zero_le _⟩ ?_ s.heap [] _ ⟨hP, hD, va_S.rf⟩ hl
  intro pc lv v st1 heq hz hd H locs ls hW hl1
  obtain ⟨hP1, hD1, hS1⟩ := hW
  refine W.zret (v := v) hx hb hr (by rcases hz with e | e <;> subst e <;> rfl) (fun t ht hWa => ?_) hS1.2.2 hd
  have PW : PoW D wl tys (va_A (wl st) s.heap.size) st1 t := ⟨by rw [ht]; exact hP1, va_K.moved hWa.alike hK, hD1⟩
  exact ⟨⟨v, st1, rfl, heq, PW⟩, hS1.F ht⟩
/-- the end of a method, with o -/
def ReL (C : Cm) (wl : Sg → va_W) (cc : ByteArray) (nL : Nat) (o : Int64 × Sg) : Prop := ∀ (pc : Nat) (lv : List (Nat × Value)) (v : Int64) (st : Sg), (v, st) = o → decode cc pc = .ok (.lreturn, 1) → Vat C wl nL pc lv [.long v] st
theorem ctL_of {l : Launch} {o : Int64 × Sg} (hy : plainName y.cls = true) (hlv : lv_args 0 as = lv0) (hle : (lg_sl as).length ≤ nL) (body : ∀ C : Cm, C.2.1 = l → Cx C tys cc y.cls nL fr lo → ReL C wl cc nL o → Vat C wl nL 0 lv0 [] st) : CtL l wl tys y cc nL (some .long) fr lo as st o := by
  intro D sz
  refine Met.ofW (cc := cc) (maxL := nL) (ret := (some .long)) hy rfl ?_
  intro p e s m args below meth c s₁ B hml hv
  obtain ⟨rfl, hsz, hP, hK, hD0⟩ := hv
  have hx := B.exec
  have hb := B.bytes
  have hr := B.returns
  have hts0 := atoms_spec (ws := wsm y cc nL (some .long)) B.pre
  have hts : ∀ w ∈ lwg, w.before as.toArray s = true := fun w h => hts0 w (List.mem_cons_of_mem _ h)
  have hown : s.vm.findClass y.cls = some m.cls := findClass_of_methodNamed B.named
  have hlocks := B.notSynchronized
  subst hsz
  have hD := hD0.self (sz := s.heap.size)
  have hl := lv_entry as (n := nL) hle
  rw [hlv] at hl
  rw [lg_entry_eq]
  refine body (p, l, e, (headSpec (wsm y cc nL (some .long)) (rmN fr lo)).room, s, m, as.toArray, below, meth, c, _, D, va_A (wl st) s.heap.size, 0, 0) rfl ⟨hx, hb, hml, hown, hts, hK, fun q h => Or.inr h, rfl, rfl, Nat.zero_le _, Nat.zero_le _⟩ ?_ s.heap [] _ ⟨hP, hD, va_S.rf⟩ hl
  intro pc lv v st1 heq hd H locs ls hW hl1
  obtain ⟨hP1, hD1, hS1⟩ := hW
  refine W.lret (v := v) hx hb hr (fun t ht hWa => ?_) hS1.2.2 hd
  have PW : PoW D wl tys (va_A (wl st) s.heap.size) st1 t := ⟨by rw [ht]; exact hP1, va_K.moved hWa.alike hK, hD1⟩
  exact ⟨⟨v, st1, rfl, heq, PW⟩, hS1.F ht⟩
/-- the end of a method, with o -/
def ReV (C : Cm) (wl : Sg → va_W) (cc : ByteArray) (nL : Nat) (o : Unit × Sg) : Prop := ∀ (pc : Nat) (lv : List (Nat × Value)) (v : Unit) (st : Sg), (v, st) = o → decode cc pc = .ok (.return_, 1) → Vat C wl nL pc lv [] st
theorem ctV_of {l : Launch} {o : Unit × Sg} (hy : plainName y.cls = true) (hlv : lv_args 0 as = lv0) (hle : (lg_sl as).length ≤ nL) (body : ∀ C : Cm, C.2.1 = l → Cx C tys cc y.cls nL fr lo → ReV C wl cc nL o → Vat C wl nL 0 lv0 [] st) : CtV l wl tys y cc nL none fr lo as st o := by
  intro D sz
  refine Met.ofW (cc := cc) (maxL := nL) (ret := none) hy rfl ?_
  intro p e s m args below meth c s₁ B hml hv
  obtain ⟨rfl, hsz, hP, hK, hD0⟩ := hv
  have hx := B.exec
  have hb := B.bytes
  have hr := B.returns
  have hts0 := atoms_spec (ws := wsm y cc nL none) B.pre
  have hts : ∀ w ∈ lwg, w.before as.toArray s = true := fun w h => hts0 w (List.mem_cons_of_mem _ h)
  have hown : s.vm.findClass y.cls = some m.cls := findClass_of_methodNamed B.named
  have hlocks := B.notSynchronized
  subst hsz
  have hD := hD0.self (sz := s.heap.size)
  have hl := lv_entry as (n := nL) hle
  rw [hlv] at hl
  rw [lg_entry_eq]
  refine body (p, l, e, (headSpec (wsm y cc nL none) (rmN fr lo)).room, s, m, as.toArray, below, meth, c, _, D, va_A (wl st) s.heap.size, 0, 0) rfl ⟨hx, hb, hml, hown, hts, hK, fun q h => Or.inr h, rfl, rfl, Nat.zero_le _, Nat.zero_le _⟩ ?_ s.heap [] _ ⟨hP, hD, va_S.rf⟩ hl
  intro pc lv v st1 heq hd H locs ls hW hl1
  obtain ⟨hP1, hD1, hS1⟩ := hW
  refine W.vret hx hb hr (fun t ht hWa => ?_) hS1.2.2 hd
  have PW : PoW D wl tys (va_A (wl st) s.heap.size) st1 t := ⟨by rw [ht]; exact hP1, va_K.moved hWa.alike hK, hD1⟩
  exact ⟨⟨st1, rfl, heq, PW⟩, hS1.F ht⟩
end VE
theorem vaP_iff {D : va_G} {cl : List vw_C} {ws : va_W} {H : Heap} : va_P D cl ws H ↔ ∀ q ∈ ws, va_at D cl q H := ⟨fun h q hq => by
    obtain ⟨k, hk⟩ := List.getElem?_of_mem hq
    exact h k q hk, fun h k q hk => h q (List.mem_of_getElem? hk)⟩
theorem vaD_iff {A : Nat → Prop} {ws : va_W} : va_D A ws ↔ (ws.map Prod.fst).Nodup ∧ ∀ q ∈ ws, A q.1 := by
  constructor
  · intro h
    refine ⟨?_, fun q hq => ?_⟩
    · rw [List.Nodup, List.pairwise_iff_getElem]
      intro i j hi hj hij e
      simp only [List.length_map] at hi hj
      simp only [List.getElem_map] at e
      have := h.1 i j ws[i] ws[j] (List.getElem?_eq_getElem hi) (List.getElem?_eq_getElem hj) e
      omega
    · obtain ⟨k, hk⟩ := List.getElem?_of_mem hq
      exact h.2 k q hk
  · intro h
    refine ⟨fun i j p q hi hj e => ?_, fun k q hk => h.2 q (List.mem_of_getElem? hk)⟩
    have hn := h.1
    rw [List.Nodup, List.pairwise_iff_getElem] at hn
    obtain ⟨hi1, hi2⟩ := List.getElem?_eq_some_iff.mp hi
    obtain ⟨hj1, hj2⟩ := List.getElem?_eq_some_iff.mp hj
    rcases Nat.lt_trichotomy i j with g | g | g
    · exact absurd (by rw [List.getElem_map, List.getElem_map, hi2, hj2]; exact e) (hn i j (by simpa using hi1) (by simpa using hj1) g)
    · exact g
    · exact absurd (by rw [List.getElem_map, List.getElem_map, hi2, hj2]; exact e.symm) (hn j i (by simpa using hj1) (by simpa using hi1) g)
theorem Wo.perm {C : Cm} {ws ws' : va_W} {H : Heap} {locs : List Loc} (h : Wo C ws H locs) (p : ws.Perm ws') : Wo C ws' H locs := by
  obtain ⟨h1, h2, h3⟩ := h
  refine ⟨vaP_iff.mpr (fun q hq => vaP_iff.mp h1 q (p.mem_iff.mpr hq)), vaD_iff.mpr ?_, h3⟩
  have h4 := vaD_iff.mp h2
  exact ⟨(p.map Prod.fst).nodup_iff.mp h4.1, fun q hq => h4.2 q (p.mem_iff.mpr hq)⟩
theorem v_perm {C : Cm} {wl wl2 : Sg → va_W} {nL pc : Nat} {lv : List (Nat × Value)} {stk : List Value} {st st2 : Sg} (p : (wl st).Perm (wl2 st2)) (k : Vat C wl2 nL pc lv stk st2) : Vat C wl nL pc lv stk st := fun H locs ls hW hl => k H locs ls (hW.perm p) hl
