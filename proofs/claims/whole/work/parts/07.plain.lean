-- 07.plain: a method of a class some of whose methods are run by an entry (java.lang.Math), itself none of them
theorem metF_ofW {l : Launch} {y : MethodName} {ws ws' : List Cond} {rm : Room} {Pc : Array Value → State → Prop} {Qc : Array Value → State → Outcome → State → Prop} {mc ms : Nat} {free : Addr → Prop} {cc : ByteArray} {maxL : Nat} {ret : Option FieldType}
    (hy : plainFor y = true) (hw : ws = Cond.code y cc maxL ret :: ws')
    (body : ∀ p e s m args below meth c s₁, BodyLoose p l y (headSpec ws rm) cc maxL ret e s m args below meth c s₁ → c.maxLocals = maxL → Pc args s →
      W p l e (headSpec ws rm).room s m args below meth c s.heap [] 0 0 (MQ below Qc args s mc ms free) (entryFrame m args maxL)) : Met l y ws rm Pc Qc mc ms free := by
  refine MetFree.of_bodySF (code := cc) (maxLocals := maxL) (ret := ret) hy ?_ ?_
  · intro args s m h hn
    obtain ⟨meth, c, h1, h2, h3, h4, h5, h6, -, -⟩ := Cond.code_spec hn (atoms_spec (ws := ws) h _ (by rw [hw]; exact List.mem_cons_self))
    exact ⟨meth, c, h1, h2, h3, h4, h5, h6⟩
  · intro p e s m args below meth c s₁ B hml hP _
    have hh0 : s₁.heap = s.heap := by rw [B.state]; rfl
    obtain ⟨t, a1, o, b1, b2, b3⟩ := body p e s m args below meth c s₁ B hml hP s₁ hh0 (Stand.of_body B)
    exact ⟨t, o, a1, b1, b2, ⟨b3.1, b3.2⟩⟩
section VF
variable {wl : Sg → va_W} {nL fr lo : Nat} {st : Sg} {tys : List (ClassId × FieldType)} {cc : ByteArray} {y : MethodName} {as : List Value} {lv0 : List (Nat × Value)}
theorem ctI_ofF {l : Launch} {o : Int32 × Sg} (hy : plainFor y = true) (hlv : lv_args 0 as = lv0) (hle : (lg_sl as).length ≤ nL) (body : ∀ C : Cm, C.2.1 = l → Cx C tys cc y.cls nL fr lo → ReI C wl cc nL o → Vat C wl nL 0 lv0 [] st) : CtI l wl tys y cc nL (some .int) fr lo as st o := by
  intro D sz
  refine metF_ofW (cc := cc) (maxL := nL) (ret := (some .int)) hy rfl ?_
  intro p e s m args below meth c s₁ B hml hv
  obtain ⟨rfl, hsz, hP, hK, hD0⟩ := hv
  have hx := B.exec
  have hb := B.bytes
  have hr := B.returns
  have hts0 := atoms_spec (ws := wsm y cc nL (some .int)) B.pre
  have hts : ∀ w ∈ lwg, w.before as.toArray s = true := fun w h => hts0 w (List.mem_cons_of_mem _ h)
  have hown : s.vm.findClass y.cls = some m.cls := findClass_of_methodNamed B.named
  have hlocks := B.notSynchronized
  subst hsz
  have hD := hD0.self (sz := s.heap.size)
  have hl := lv_entry as (n := nL) hle
  rw [hlv] at hl
  rw [lg_entry_eq]
  refine body (p, l, e, (headSpec (wsm y cc nL (some .int)) (rmN fr lo)).room, s, m, as.toArray, below, meth, c, _, D, va_A (wl st) s.heap.size, 0, 0) rfl ⟨hx, hb, hml, hown, hts, hK, fun q h => Or.inr h, rfl, rfl, Nat.zero_le _, Nat.zero_le _⟩ ?_ s.heap [] _ ⟨hP, hD, va_S.rf⟩ hl
  intro pc lv v st1 heq hd H locs ls hW hl1
  obtain ⟨hP1, hD1, hS1⟩ := hW
  refine W.iret (v := v) hx hb hr (fun t ht hWa => ?_) hS1.2.2 hd
  have PW : PoW D wl tys (va_A (wl st) s.heap.size) st1 t := ⟨by rw [ht]; exact hP1, va_K.moved hWa.alike hK, hD1⟩
  exact ⟨⟨v, st1, rfl, heq, PW⟩, hS1.F ht⟩
end VF
