-- 05.mirror: the mirrors (written by gen.py)
def m_J6_bitCount_0f7a4 (p0 : Int32) (st : Sg) : Option (Int32 × Sg) :=
  nmk (p0 - ((((p0 : Int32).toUInt32 >>> ((1 : Int32).toUInt32 &&& Int32.toUInt32 31)).toInt32) &&& 1431655765)) fun (a1 : Int32) =>
  nmk ((a1 &&& 858993459) + ((((a1 : Int32).toUInt32 >>> ((2 : Int32).toUInt32 &&& Int32.toUInt32 31)).toInt32) &&& 858993459)) fun (a2 : Int32) =>
  nmk ((a2 + (((a2 : Int32).toUInt32 >>> ((4 : Int32).toUInt32 &&& Int32.toUInt32 31)).toInt32)) &&& 252645135) fun (a3 : Int32) =>
  nmk (a3 + (((a3 : Int32).toUInt32 >>> ((8 : Int32).toUInt32 &&& Int32.toUInt32 31)).toInt32)) fun (a4 : Int32) =>
  nmk (a4 + (((a4 : Int32).toUInt32 >>> ((16 : Int32).toUInt32 &&& Int32.toUInt32 31)).toInt32)) fun (a5 : Int32) =>
  some ((a5 &&& 63), st)
def m_J7_fill_53178_L5 (j k n : Nat) (x1 : Int32) (x3 : Int32) (x2 : Int32) (st : Sg) : Option ((Int32 × Sg) ⊕ (Sg)) :=
  if x3 ≤ x2 then (some (.inr st)) else
  sAk st j k n x2 x1 fun s3 =>
  nmk (x2 + 1) fun a4 =>
  some (.inl (a4, s3))
def m_J7_fill_53178 (j k n : Nat) (p1 : Int32) (st : Sg) : Option (Unit × Sg) :=
  nmk 0 fun (a1 : Int32) =>
  nmk (Int32.ofNat n) fun (a2 : Int32) =>
  lpk (fun s : (Int32 × Sg) => m_J7_fill_53178_L5 j k n p1 a2 s.1 s.2) FU (a1, st) fun r5 =>
  some ((), r5)
def m_J9_floorDiv_7cf53 (p0 : Int32) (p1 : Int32) (st : Sg) : Option (Int32 × Sg) :=
  dvk p1 <|
  nmk (p0 / p1) fun (a1 : Int32) =>
  if 0 ≤ (p0 ^^^ p1) then (some (a1, st)) else
  if (a1 * p1) = p0 then (some (a1, st)) else
  some ((a1 - 1), st)
def m_X0_bitsOf_L4 (x1 : Int32) (x2 : Int32) (x3 : Int32) (st : Sg) : Option ((Int32 × Int32 × Sg) ⊕ (Int32 × Sg)) :=
  gIk st 1 0 fun v3 =>
  if v3 ≤ x3 then (some (.inr (x2, st))) else
  lAk st 1 3 16 x3 fun v4 =>
  if v4 = x1 then (lAk st 1 4 16 x3 fun v6 =>
  clk (m_J6_bitCount_0f7a4 v6 st) fun v8 s7 =>
  nmk (x2 + v8) fun (a9 : Int32) =>
  nmk (x3 + 1) fun a10 =>
  some (.inl (a9, a10, s7))) else
  nmk (x3 + 1) fun a5 =>
  some (.inl (x2, a5, st))
def m_X0_bitsOf (p1 : Int32) (st : Sg) : Option (Int32 × Sg) :=
  nmk 0 fun (a1 : Int32) =>
  nmk 0 fun (a2 : Int32) =>
  lpk (fun s : (Int32 × Int32 × Sg) => m_X0_bitsOf_L4 p1 s.1 s.2.1 s.2.2) FU (a1, a2, st) fun r11 =>
  some (r11.1, r11.2)
def m_X0_beatByUnits_L4 (x1 : Int32) (x2 : Int32) (st : Sg) : Option ((Int32 × Int32 × Sg) ⊕ (Int32 × Sg)) :=
  if 6 ≤ x2 then (some (.inr (x1, st))) else
  clk (m_X0_bitsOf x2 st) fun v4 s3 =>
  nmk v4 fun (a5 : Int32) =>
  if a5 ≤ 0 then (nmk (x2 + 1) fun a6 =>
  some (.inl (x1, a6, s3))) else
  lAk s3 1 10 6 x2 fun v7 =>
  nmk v7 fun (a8 : Int32) =>
  if 1 ≤ a8 then (dvk a8 <|
  nmk (mx x1 (((a5 + a8) - 1) / a8)) fun (a9 : Int32) =>
  nmk (x2 + 1) fun a10 =>
  some (.inl (a9, a10, s3))) else
  nmk (mx x1 61) fun (a11 : Int32) =>
  nmk (x2 + 1) fun a12 =>
  some (.inl (a11, a12, s3))
def m_X0_beatByUnits (st : Sg) : Option (Int32 × Sg) :=
  nmk 1 fun (a1 : Int32) =>
  nmk 0 fun (a2 : Int32) =>
  lpk (fun s : (Int32 × Int32 × Sg) => m_X0_beatByUnits_L4 s.1 s.2.1 s.2.2) FU (a1, a2, st) fun r13 =>
  some (r13.1, r13.2)
def m_X0_touchesRows (p1 : Int32) (st : Sg) : Option (Int32 × Sg) :=
  lAk st 1 1 16 p1 fun v1 =>
  if v1 = 4 then (some (1, st)) else
  lAk st 1 1 16 p1 fun v2 =>
  if v2 = 5 then (some (1, st)) else
  some (0, st)
def m_X0_clash (p1 : Int32) (p2 : Int32) (st : Sg) : Option (Int32 × Sg) :=
  clk (m_X0_touchesRows p1 st) fun v2 s1 =>
  if v2 = 0 then (some (0, s1)) else
  clk (m_X0_touchesRows p2 s1) fun v4 s3 =>
  if v4 = 0 then (some (0, s3)) else
  lAk s3 1 5 16 p1 fun v5 =>
  lAk s3 1 5 16 p2 fun v6 =>
  if v5 = v6 then (lAk s3 1 1 16 p1 fun v7 =>
  if v7 = 5 then (some (1, s3)) else
  lAk s3 1 1 16 p2 fun v8 =>
  if v8 = 5 then (some (1, s3)) else
  some (0, s3)) else
  some (0, s3)
def m_X0_has (p1 : Int32) (st : Sg) : Option (Int32 × Sg) :=
  if p1 < 0 then (some (0, st)) else
  gIk st 1 0 fun v1 =>
  if v1 ≤ p1 then (some (0, st)) else
  some (1, st)
def m_X0_isWhole_L2 (x1 : Int32) (st : Sg) : Option ((Int32 × Sg) ⊕ ((Sg) ⊕ (Sg))) :=
  gIk st 1 0 fun v2 =>
  if (v2 * 3) ≤ x1 then (some (.inr (.inl st))) else
  lAk st 1 6 48 x1 fun v3 =>
  gIk st 1 0 fun v4 =>
  if v3 < v4 then (nmk (x1 + 1) fun a5 =>
  some (.inl (a5, st))) else
  some (.inr (.inr st))
def m_X0_isWhole (st : Sg) : Option (Int32 × Sg) :=
  nmk 0 fun (a1 : Int32) =>
  lpk (fun s : (Int32 × Sg) => m_X0_isWhole_L2 s.1 s.2) FU (a1, st) (Sum.elim (fun r6 => some (1, r6)) (fun r6 => some (0, r6)))
def m_X0_isReady (st : Sg) : Option (Int32 × Sg) :=
  gIk st 1 0 fun v1 =>
  if v1 ≤ 0 then (some (0, st)) else
  clk (m_X0_isWhole st) fun v3 s2 =>
  if v3 = 0 then (some (0, s2)) else
  some (1, s2)
def m_X0_isTakenByAnother_L6 (x1 : Int32) (x2 : Int32) (x3 : Int32) (st : Sg) : Option ((Int32 × Sg) ⊕ ((Sg) ⊕ (Sg))) :=
  gIk st 1 0 fun v3 =>
  if (v3 * 3) ≤ x3 then (some (.inr (.inl st))) else
  lAk st 1 6 48 x3 fun v4 =>
  if v4 = x1 then (if x3 < x2 then (some (.inr (.inr st))) else
  if x3 < (x2 + 3) then (nmk (x3 + 1) fun a6 =>
  some (.inl (a6, st))) else
  some (.inr (.inr st))) else
  nmk (x3 + 1) fun a5 =>
  some (.inl (a5, st))
def m_X0_isTakenByAnother (p1 : Int32) (st : Sg) : Option (Int32 × Sg) :=
  nmk (p1 * 3) fun (a1 : Int32) =>
  nmk 0 fun (a2 : Int32) =>
  lpk (fun s : (Int32 × Sg) => m_X0_isTakenByAnother_L6 p1 a1 s.1 s.2) FU (a2, st) (Sum.elim (fun r7 => some (0, r7)) (fun r7 => some (1, r7)))
def m_X0_mayBeRefused (p1 : Int32) (st : Sg) : Option (Int32 × Sg) :=
  lAk st 1 1 16 p1 fun v1 =>
  if v1 = 3 then (some (1, st)) else
  clk (m_X0_touchesRows p1 st) fun v3 s2 =>
  if v3 = 0 then (some (0, s2)) else
  some (1, s2)
def m_X0_mayTake (p1 : Int32) (p2 : Int32) (st : Sg) : Option (Int32 × Sg) :=
  if p1 < 0 then (some (0, st)) else
  if 16 ≤ p1 then (some (0, st)) else
  if 0 < p2 then (some (1, st)) else
  gIk st 1 0 fun v1 =>
  if v1 ≤ p1 then (some (0, st)) else
  some (1, st)
def m_X0_take (p1 : Int32) (p2 : Int32) (p3 : Int32) (p4 : Int32) (st : Sg) : Option (Unit × Sg) :=
  sAk st 1 6 48 ((p1 * 3) + p2) p3 fun s1 =>
  sAk s1 1 7 48 ((p1 * 3) + p2) p4 fun s2 =>
  some ((), s2)
def m_X0_open_L71 (x2 : Int32) (x3 : Int32) (st : Sg) : Option ((Int32 × Sg) ⊕ (Sg)) :=
  if 3 ≤ x3 then (some (.inr st)) else
  clk (m_X0_take x2 x3 (-1) (-1) st) fun _ s12 =>
  nmk (x3 + 1) fun a13 =>
  some (.inl (a13, s12))
def m_X0_open (p1 : Int32) (st : Sg) : Option (Int32 × Sg) :=
  gIk st 1 0 fun v1 =>
  nmk v1 fun (a2 : Int32) =>
  if a2 < 16 then (sIk st 1 0 (a2 + 1) fun s3 =>
  sAk s3 1 1 16 a2 p1 fun s4 =>
  sAk s4 1 2 16 a2 1 fun s5 =>
  sAk s5 1 3 16 a2 0 fun s6 =>
  sAk s6 1 4 16 a2 1 fun s7 =>
  sAk s7 1 5 16 a2 (-1) fun s8 =>
  sLk s8 1 8 16 a2 0 fun s9 =>
  sLk s9 1 9 16 a2 0 fun s10 =>
  nmk 0 fun (a11 : Int32) =>
  lpk (fun s : (Int32 × Sg) => m_X0_open_L71 a2 s.1 s.2) FU (a11, s10) fun r14 =>
  some (a2, r14)) else
  some ((-1), st)
def m_X0_stores_L4 (x1 : Int32) (x2 : Int32) (st : Sg) : Option ((Int32 × Int32 × Sg) ⊕ (Int32 × Sg)) :=
  gIk st 1 0 fun v3 =>
  if v3 ≤ x2 then (some (.inr (x1, st))) else
  lAk st 1 1 16 x2 fun v4 =>
  if v4 = 5 then (nmk (x1 + 1) fun a6 =>
  nmk (x2 + 1) fun a7 =>
  some (.inl (a6, a7, st))) else
  nmk (x2 + 1) fun a5 =>
  some (.inl (x1, a5, st))
def m_X0_stores (st : Sg) : Option (Int32 × Sg) :=
  nmk 0 fun (a1 : Int32) =>
  nmk 0 fun (a2 : Int32) =>
  lpk (fun s : (Int32 × Int32 × Sg) => m_X0_stores_L4 s.1 s.2.1 s.2.2) FU (a1, a2, st) fun r8 =>
  some (r8.1, r8.2)
def m_X0_unitsInAll_L4 (x1 : Int32) (x2 : Int32) (st : Sg) : Option ((Int32 × Int32 × Sg) ⊕ (Int32 × Sg)) :=
  if 6 ≤ x2 then (some (.inr (x1, st))) else
  lAk st 1 10 6 x2 fun v3 =>
  nmk (x1 + v3) fun (a4 : Int32) =>
  nmk (x2 + 1) fun a5 =>
  some (.inl (a4, a5, st))
def m_X0_unitsInAll (st : Sg) : Option (Int32 × Sg) :=
  nmk 0 fun (a1 : Int32) =>
  nmk 0 fun (a2 : Int32) =>
  lpk (fun s : (Int32 × Int32 × Sg) => m_X0_unitsInAll_L4 s.1 s.2.1 s.2.2) FU (a1, a2, st) fun r6 =>
  some (r6.1, r6.2)
def m_X1_write (j : Nat) (p1 : Int32) (p2 : Int32) (p3 : Int32) (p4 : Int32) (p5 : Int32) (st : Sg) : Option (Unit × Sg) :=
  sAk st j 1 (lnE j) p1 p2 fun s1 =>
  sAk s1 j 2 (lnE j) p1 p3 fun s2 =>
  sAk s2 j 3 (lnE j) p1 p4 fun s3 =>
  sAk s3 j 4 (lnE j) p1 p5 fun s4 =>
  some ((), s4)
def m_X1_join (j : Nat) (p1 : Int32) (p2 : Int32) (p3 : Int32) (p4 : Int32) (st : Sg) : Option (Int32 × Sg) :=
  gIk st j 0 fun v1 =>
  if v1 < (Int32.ofNat (lnE j)) then (gIk st j 0 fun v2 =>
  clk (m_X1_write j v2 p1 p2 p3 p4 st) fun _ s3 =>
  gIk s3 j 0 fun v4 =>
  sIk s3 j 0 (v4 + 1) fun s5 =>
  some (1, s5)) else
  some (0, st)
def m_X10_joinClashes_L2 (x2 : Int32) (x3 : Int32) (st : Sg) : Option ((Int32 × Sg) ⊕ (Sg)) :=
  if x2 ≤ x3 then (some (.inr st)) else
  clk (m_X0_clash x3 x2 st) fun v3 s2 =>
  if v3 = 0 then (nmk (x3 + 1) fun a4 =>
  some (.inl (a4, s2))) else
  clk (m_X1_join 4 x3 x2 1 0 s2) fun v6 s5 =>
  clk (m_X1_join 4 x2 x3 1 1 s5) fun v8 s7 =>
  nmk (x3 + 1) fun a9 =>
  some (.inl (a9, s7))
def m_X10_joinClashes (p2 : Int32) (st : Sg) : Option (Unit × Sg) :=
  nmk 0 fun (a1 : Int32) =>
  lpk (fun s : (Int32 × Sg) => m_X10_joinClashes_L2 p2 s.1 s.2) FU (a1, st) fun r10 =>
  some ((), r10)
def m_X10_joinOperands_L2 (x2 : Int32) (x3 : Int32) (st : Sg) : Option ((Int32 × Sg) ⊕ (Sg)) :=
  if 3 ≤ x3 then (some (.inr st)) else
  lAk st 1 6 48 ((x2 * 3) + x3) fun v2 =>
  nmk v2 fun (a3 : Int32) =>
  clk (m_X0_has a3 st) fun v5 s4 =>
  if v5 = 0 then (nmk (x3 + 1) fun a6 =>
  some (.inl (a6, s4))) else
  lAk s4 1 2 16 a3 fun v7 =>
  lAk s4 1 7 48 ((x2 * 3) + x3) fun v8 =>
  clk (m_X1_join 4 a3 x2 v7 v8 s4) fun v10 s9 =>
  nmk (x3 + 1) fun a11 =>
  some (.inl (a11, s9))
def m_X10_joinOperands (p2 : Int32) (st : Sg) : Option (Unit × Sg) :=
  nmk 0 fun (a1 : Int32) =>
  lpk (fun s : (Int32 × Sg) => m_X10_joinOperands_L2 p2 s.1 s.2) FU (a1, st) fun r12 =>
  some ((), r12)
def m_X10_joinStore_52 (x2 : Int32) (x3 : Int32) (st : Sg) : Option ((Int32 × Sg) ⊕ (Sg)) :=
  clk (m_X1_join 4 x3 x2 1 1 st) fun v10 s9 =>
  nmk (x3 + 1) fun a11 =>
  some (.inl (a11, s9))
def m_X10_joinStore_L14 (x2 : Int32) (x3 : Int32) (st : Sg) : Option ((Int32 × Sg) ⊕ (Sg)) :=
  gIk st 1 0 fun v4 =>
  if v4 ≤ x3 then (some (.inr st)) else
  if x3 = x2 then (nmk (x3 + 1) fun a5 =>
  some (.inl (a5, st))) else
  clk (m_X0_mayBeRefused x3 st) fun v7 s6 =>
  if v7 = 0 then (nmk (x3 + 1) fun a8 =>
  some (.inl (a8, s6))) else
  if x2 ≤ x3 then (m_X10_joinStore_52 x2 x3 s6) else
  clk (m_X1_join 4 x3 x2 1 0 s6) fun v13 s12 =>
  m_X10_joinStore_52 x2 x3 s12
def m_X10_joinStore (p2 : Int32) (st : Sg) : Option (Unit × Sg) :=
  clk (m_X1_join 4 p2 p2 1 1 st) fun v2 s1 =>
  nmk 0 fun (a3 : Int32) =>
  lpk (fun s : (Int32 × Sg) => m_X10_joinStore_L14 p2 s.1 s.2) FU (a3, s1) fun r14 =>
  some ((), r14)
def m_X1_joinAll_L2 (j : Nat) (x2 : Int32) (st : Sg) : Option ((Int32 × Sg) ⊕ (Sg)) :=
  gIk st 2 0 fun v2 =>
  if v2 ≤ x2 then (some (.inr st)) else
  lAk st 2 1 (lnE 2) x2 fun v3 =>
  lAk st 2 2 (lnE 2) x2 fun v4 =>
  lAk st 2 3 (lnE 2) x2 fun v5 =>
  lAk st 2 4 (lnE 2) x2 fun v6 =>
  clk (m_X1_join j v3 v4 v5 v6 st) fun v8 s7 =>
  nmk (x2 + 1) fun a9 =>
  some (.inl (a9, s7))
def m_X1_joinAll (j : Nat) (st : Sg) : Option (Unit × Sg) :=
  nmk 0 fun (a1 : Int32) =>
  lpk (fun s : (Int32 × Sg) => m_X1_joinAll_L2 j s.1 s.2) FU (a1, st) fun r10 =>
  some ((), r10)
def m_X10_renew_L18 (x2 : Int32) (st : Sg) : Option ((Int32 × Sg) ⊕ (Sg)) :=
  gIk st 1 0 fun v4 =>
  if v4 ≤ x2 then (some (.inr st)) else
  clk (m_X10_joinOperands x2 st) fun _ s5 =>
  clk (m_X10_joinClashes x2 s5) fun _ s6 =>
  lAk s6 1 1 16 x2 fun v7 =>
  if v7 = 5 then (clk (m_X10_joinStore x2 s6) fun _ s9 =>
  nmk (x2 + 1) fun a10 =>
  some (.inl (a10, s9))) else
  nmk (x2 + 1) fun a8 =>
  some (.inl (a8, s6))
def m_X10_renew (st : Sg) : Option (Unit × Sg) :=
  gIk st 3 2 fun v1 =>
  if v1 = 0 then (some ((), st)) else
  sIk st 4 0 0 fun s2 =>
  nmk 0 fun (a3 : Int32) =>
  lpk (fun s : (Int32 × Sg) => m_X10_renew_L18 s.1 s.2) FU (a3, s2) fun r11 =>
  gIk r11 4 0 fun v12 =>
  sIk r11 3 1 v12 fun s13 =>
  clk (m_X1_joinAll 4 s13) fun _ s14 =>
  sIk s14 3 2 0 fun s15 =>
  some ((), s15)
def m_X11_refuse (p1 : Int32) (st : Sg) : Option (Int32 × Sg) :=
  if p1 < (-11) then (some (p1, st)) else
  if (-2) < p1 then (some (p1, st)) else
  sIk st 0 9 p1 fun s1 =>
  lAk s1 0 10 12 (-p1) fun v2 =>
  sAk s1 0 10 12 (-p1) (v2 + 1) fun s3 =>
  some (p1, s3)
def m_X11_operandPart (p1 : Int32) (p2 : Int32) (st : Sg) : Option (Int32 × Sg) :=
  dvk 2 <|
  nmk ((p1 * 3) + (p2 / 2)) fun (a1 : Int32) =>
  dvk 2 <|
  if (p2 - p2 / 2 * 2) = 0 then (lAk st 1 6 48 a1 fun v3 =>
  some (v3, st)) else
  lAk st 1 7 48 a1 fun v2 =>
  some (v2, st)
def m_X11_act (p1 : Int32) (p2 : Int32) (st : Sg) : Option (Int32 × Sg) :=
  clk (m_X0_has p1 st) fun v2 s1 =>
  if v2 = 0 then (clk (m_X11_refuse (-3) s1) fun v15 s14 =>
  some (v15, s14)) else
  if p2 = 0 then (lAk s1 1 1 16 p1 fun v3 =>
  some (v3, s1)) else
  if p2 = 1 then (lAk s1 1 2 16 p1 fun v4 =>
  some (v4, s1)) else
  if p2 = 2 then (lAk s1 1 3 16 p1 fun v5 =>
  some (v5, s1)) else
  if p2 = 3 then (lAk s1 1 4 16 p1 fun v6 =>
  some (v6, s1)) else
  if p2 = 4 then (lAk s1 1 5 16 p1 fun v7 =>
  some (v7, s1)) else
  if p2 < 5 then (clk (m_X11_refuse (-9) s1) fun v9 s8 =>
  some (v9, s8)) else
  if p2 ≤ 10 then (clk (m_X11_operandPart p1 (p2 - 5) s1) fun v11 s10 =>
  some (v11, s10)) else
  clk (m_X11_refuse (-9) s1) fun v13 s12 =>
  some (v13, s12)
def m_X11_again (st : Sg) : Option (Int32 × Sg) :=
  gIk st 0 9 fun v1 =>
  if v1 = 0 then (some ((-7), st)) else
  gIk st 0 9 fun v2 =>
  nmk v2 fun (a3 : Int32) =>
  sIk st 0 9 0 fun s4 =>
  some (a3, s4)
def m_X5_clear (j : Nat) (st : Sg) : Option (Unit × Sg) :=
  sIk st j 0 0 fun s1 =>
  sIk s1 j 1 (-1) fun s2 =>
  sIk s2 j 2 (-1) fun s3 =>
  sIk s3 j 3 0 fun s4 =>
  sIk s4 j 4 0 fun s5 =>
  sIk s5 j 5 0 fun s6 =>
  sIk s6 j 6 0 fun s7 =>
  some ((), s7)
def m_X11_bodyChanged (st : Sg) : Option (Unit × Sg) :=
  sIk st 3 2 1 fun s1 =>
  sIk s1 9 0 0 fun s2 =>
  clk (m_X5_clear 16 s2) fun _ s3 =>
  some ((), s3)
def m_X1_isAhead (j : Nat) (p1 : Int32) (p2 : Int32) (st : Sg) : Option (Int32 × Sg) :=
  lAk st j 2 (lnE j) p1 fun v1 =>
  lAk st j 2 (lnE j) p2 fun v2 =>
  if v1 = v2 then (lAk st j 1 (lnE j) p1 fun v3 =>
  lAk st j 1 (lnE j) p2 fun v4 =>
  if v3 = v4 then (lAk st j 3 (lnE j) p1 fun v5 =>
  lAk st j 3 (lnE j) p2 fun v6 =>
  if v5 = v6 then (lAk st j 4 (lnE j) p1 fun v7 =>
  lAk st j 4 (lnE j) p2 fun v8 =>
  if v8 ≤ v7 then (some (0, st)) else
  some (1, st)) else
  lAk st j 3 (lnE j) p1 fun v9 =>
  lAk st j 3 (lnE j) p2 fun v10 =>
  if v10 ≤ v9 then (some (0, st)) else
  some (1, st)) else
  lAk st j 1 (lnE j) p1 fun v11 =>
  lAk st j 1 (lnE j) p2 fun v12 =>
  if v12 ≤ v11 then (some (0, st)) else
  some (1, st)) else
  lAk st j 2 (lnE j) p1 fun v13 =>
  lAk st j 2 (lnE j) p2 fun v14 =>
  if v14 ≤ v13 then (some (0, st)) else
  some (1, st)
def m_X3_firstBroken_71 (x3 : Int32) (x4 : Int32) (t0 : Int32) (st : Sg) : Option ((Int32 × Int32 × Sg) ⊕ (Int32 × Sg)) :=
  nmk t0 fun (a12 : Int32) =>
  if a12 = 0 then (if x3 = (-1) then (nmk x4 fun (a14 : Int32) =>
  nmk (x4 + 1) fun a15 =>
  some (.inl (a14, a15, st))) else
  clk (m_X1_isAhead 4 x4 x3 st) fun v17 s16 =>
  if v17 = 0 then (nmk (x4 + 1) fun a18 =>
  some (.inl (x3, a18, s16))) else
  nmk x4 fun (a19 : Int32) =>
  nmk (x4 + 1) fun a20 =>
  some (.inl (a19, a20, s16))) else
  nmk (x4 + 1) fun a13 =>
  some (.inl (x3, a13, st))
def m_X3_firstBroken_L5 (x3 : Int32) (x4 : Int32) (st : Sg) : Option ((Int32 × Int32 × Sg) ⊕ (Int32 × Sg)) :=
  gIk st 4 0 fun v3 =>
  if v3 ≤ x4 then (some (.inr (x3, st))) else
  lAk st 4 2 (lnE 4) x4 fun v4 =>
  lAk st 9 6 16 v4 fun v5 =>
  lAk st 4 1 (lnE 4) x4 fun v6 =>
  lAk st 9 6 16 v6 fun v7 =>
  nmk (v5 - v7) fun (a8 : Int32) =>
  gIk st 9 1 fun v9 =>
  lAk st 4 4 (lnE 4) x4 fun v10 =>
  lAk st 4 3 (lnE 4) x4 fun v11 =>
  if (a8 + (v9 * v10)) < v11 then (m_X3_firstBroken_71 x3 x4 0 st) else
  m_X3_firstBroken_71 x3 x4 1 st
def m_X3_firstBroken (st : Sg) : Option (Int32 × Sg) :=
  nmk (-1) fun (a1 : Int32) =>
  nmk 0 fun (a2 : Int32) =>
  lpk (fun s : (Int32 × Int32 × Sg) => m_X3_firstBroken_L5 s.1 s.2.1 s.2.2) FU (a1, a2, st) fun r21 =>
  some (r21.1, r21.2)
def m_X2_clear (j : Nat) (st : Sg) : Option (Unit × Sg) :=
  clk (m_J7_fill_53178 j 0 360 0 st) fun _ s1 =>
  some ((), s1)
def m_X2_change_L34 (j : Nat) (x3 : Int32) (x4 : Int32) (x5 : Int32) (x7 : Int32) (x8 : Int32) (x6 : Int32) (x9 : Int32) (st : Sg) : Option ((Int32 × Int32 × Sg) ⊕ (Int32 × Sg)) :=
  if 8 ≤ x9 then (some (.inr (x6, st))) else
  if ((x7 >>> (x9 &&& 31)) &&& 1) = 0 then (nmk (x9 + 1) fun a7 =>
  some (.inl (x6, a7, st))) else
  dvk x4 <|
  nmk (x8 + ((x3 + x9) - (x3 + x9) / x4 * x4)) fun (a8 : Int32) =>
  lAk st j 0 360 a8 fun v9 =>
  sAk st j 0 360 a8 (v9 + x5) fun s10 =>
  lAk s10 j 0 360 a8 fun v11 =>
  nmk (mx x6 v11) fun (a12 : Int32) =>
  nmk (x9 + 1) fun a13 =>
  some (.inl (a12, a13, s10))
def m_X2_change (j : Nat) (p2 : Int32) (p3 : Int32) (p4 : Int32) (p5 : Int32) (st : Sg) : Option (Int32 × Sg) :=
  nmk 0 fun (a1 : Int32) =>
  if 1 ≤ p4 then (lAk st 1 4 16 p2 fun v2 =>
  nmk v2 fun (a3 : Int32) =>
  lAk st 1 3 16 p2 fun v4 =>
  nmk (v4 * 60) fun (a5 : Int32) =>
  nmk 0 fun (a6 : Int32) =>
  lpk (fun s : (Int32 × Int32 × Sg) => m_X2_change_L34 j p3 p4 p5 a3 a5 s.1 s.2.1 s.2.2) FU (a1, a6, st) fun r14 =>
  some (r14.1, r14.2)) else
  some (a1, st)
def m_X2_firstCrowded_L3 (j : Nat) (x1 : Int32) (x2 : Int32) (x3 : Int32) (x4 : Int32) (st : Sg) : Option ((Int32 × Sg) ⊕ ((Sg) ⊕ (Int32 × Sg))) :=
  if x3 ≤ x4 then (some (.inr (.inl st))) else
  lAk st j 0 360 ((x1 * 60) + x4) fun v2 =>
  if v2 ≤ x2 then (nmk (x4 + 1) fun a3 =>
  some (.inl (a3, st))) else
  some (.inr (.inr (x4, st)))
def m_X2_firstCrowded (j : Nat) (p1 : Int32) (p2 : Int32) (p3 : Int32) (st : Sg) : Option (Int32 × Sg) :=
  nmk 0 fun (a1 : Int32) =>
  lpk (fun s : (Int32 × Sg) => m_X2_firstCrowded_L3 j p1 p2 p3 s.1 s.2) FU (a1, st) (Sum.elim (fun r4 => some ((-1), r4)) (fun r4 => some (r4.1, r4.2)))
def m_X3_findCrowd_L9 (x3 : Int32) (st : Sg) : Option ((Int32 × Sg) ⊕ (Sg)) :=
  gIk st 1 0 fun v3 =>
  if v3 ≤ x3 then (some (.inr st)) else
  lAk st 9 6 16 x3 fun v4 =>
  gIk st 9 1 fun v5 =>
  clk (m_X2_change 12 x3 v4 v5 1 st) fun v7 s6 =>
  nmk (x3 + 1) fun a8 =>
  some (.inl (a8, s6))
def m_X3_findCrowd_L46 (x3 : Int32) (st : Sg) : Option ((Int32 × Sg) ⊕ ((Sg) ⊕ (Int32 × Int32 × Sg))) :=
  if 6 ≤ x3 then (some (.inr (.inl st))) else
  lAk st 1 10 6 x3 fun v11 =>
  gIk st 9 1 fun v12 =>
  clk (m_X2_firstCrowded 12 x3 v11 v12 st) fun v14 s13 =>
  nmk v14 fun (a15 : Int32) =>
  if a15 = (-1) then (nmk (x3 + 1) fun a16 =>
  some (.inl (a16, s13))) else
  some (.inr (.inr (x3, a15, s13)))
def m_X3_findCrowd (st : Sg) : Option (Int32 × Sg) :=
  clk (m_X2_clear 12 st) fun _ s1 =>
  nmk 0 fun (a2 : Int32) =>
  lpk (fun s : (Int32 × Sg) => m_X3_findCrowd_L9 s.1 s.2) FU (a2, s1) fun r9 =>
  nmk 0 fun (a10 : Int32) =>
  lpk (fun s : (Int32 × Sg) => m_X3_findCrowd_L46 s.1 s.2) FU (a10, r9) (Sum.elim (fun r17 => some (0, r17)) (fun r17 => sAk r17.2.2 11 0 6 4 r17.1 fun s18 =>
  sAk s18 11 0 6 5 r17.2.1 fun s19 =>
  some (1, s19)))
def m_X3_look (st : Sg) : Option (Int32 × Sg) :=
  clk (m_J7_fill_53178 11 0 6 (-1) st) fun _ s1 =>
  clk (m_X3_firstBroken s1) fun v3 s2 =>
  nmk v3 fun (a4 : Int32) =>
  if a4 = (-1) then (clk (m_X3_findCrowd s2) fun v6 s5 =>
  if v6 = 0 then (some (0, s5)) else
  some (2, s5)) else
  lAk s2 4 1 (lnE 4) a4 fun v7 =>
  sAk s2 11 0 6 0 v7 fun s8 =>
  lAk s8 4 2 (lnE 4) a4 fun v9 =>
  sAk s8 11 0 6 1 v9 fun s10 =>
  lAk s10 4 3 (lnE 4) a4 fun v11 =>
  sAk s10 11 0 6 2 v11 fun s12 =>
  lAk s12 4 4 (lnE 4) a4 fun v13 =>
  sAk s12 11 0 6 3 v13 fun s14 =>
  some (1, s14)
def m_X11_check (st : Sg) : Option (Int32 × Sg) :=
  gIk st 9 0 fun v1 =>
  if v1 = 0 then (clk (m_X11_refuse (-2) st) fun v6 s5 =>
  some (v6, s5)) else
  clk (m_X10_renew st) fun _ s2 =>
  clk (m_X3_look s2) fun v4 s3 =>
  some (v4, s3)
def m_X11_refusalOfRun_27 (x1 : Int32) (st : Sg) : Option (Int32 × Sg) :=
  if 0 ≤ x1 then (if x1 ≤ 200 then (some (0, st)) else
  some ((-9), st)) else
  some ((-4), st)
def m_X11_refusalOfRun (p1 : Int32) (p2 : Int32) (st : Sg) : Option (Int32 × Sg) :=
  clk (m_X0_isReady st) fun v2 s1 =>
  if v2 = 0 then (some ((-2), s1)) else
  if p2 = 0 then (m_X11_refusalOfRun_27 p1 s1) else
  gIk s1 9 0 fun v3 =>
  if v3 = 0 then (some ((-2), s1)) else
  m_X11_refusalOfRun_27 p1 s1
def m_X7_placeOf (p0 : Int32) (p1 : Int32) (st : Sg) : Option (Int32 × Sg) :=
  some ((((4 + p1) * 16) + p0), st)
def m_X5_endsAheadOf (j : Nat) (p1 : Int32) (p2 : Int32) (st : Sg) : Option (Int32 × Sg) :=
  gIk st j 0 fun v1 =>
  if v1 = 0 then (some (0, st)) else
  gIk st j 2 fun v2 =>
  if v2 < p2 then (some (1, st)) else
  gIk st j 2 fun v3 =>
  if p2 = v3 then (gIk st j 1 fun v4 =>
  if p1 ≤ v4 then (some (0, st)) else
  some (1, st)) else
  some (0, st)
def m_X7_taken (p1 : Int32) (p2 : Int32) (p3 : Int32) (st : Sg) : Option (Int64 × Sg) :=
  nmk ((p1 * 3) + p2) fun (a1 : Int32) =>
  lAk st 1 7 48 a1 fun v2 =>
  lAk st 1 6 48 a1 fun v3 =>
  lLk st 13 3 3264 ((((4 + p3) - v2) * 16) + v3) fun v4 =>
  some (v4, st)
def m_X6_refusalAt (p1 : Int32) (p2 : Int64) (st : Sg) : Option (Int32 × Sg) :=
  if p1 < 0 then (some ((-3), st)) else
  if p1 < 8 then (lAk st 5 0 8 p1 fun v1 =>
  if v1 = 0 then (some ((-2), st)) else
  lAk st 5 1 8 p1 fun v2 =>
  if v2 = 0 then (some ((-5), st)) else
  if (lg_cmp p2 0) < 0 then (some ((-3), st)) else
  lAk st 5 0 8 p1 fun v3 =>
  if (lg_cmp p2 ((v3 : Int32).toInt64)) < 0 then (some (0, st)) else
  some ((-3), st)) else
  some ((-3), st)
def m_X7_refusalOf (p1 : Int32) (p2 : Int32) (st : Sg) : Option (Int32 × Sg) :=
  clk (m_X0_touchesRows p1 st) fun v2 s1 =>
  if v2 = 0 then (lAk s1 1 1 16 p1 fun v3 =>
  if v3 = 3 then (clk (m_X7_taken p1 1 p2 s1) fun v5 s4 =>
  if (lg_cmp v5 0) = 0 then (some ((-8), s4)) else
  some (0, s4)) else
  some (0, s1)) else
  lAk s1 1 5 16 p1 fun v6 =>
  clk (m_X7_taken p1 0 p2 s1) fun v8 s7 =>
  clk (m_X6_refusalAt v6 v8 s7) fun v10 s9 =>
  some (v10, s9)
def m_X5_refused (j : Nat) (p1 : Int32) (p2 : Int32) (p3 : Int32) (st : Sg) : Option (Unit × Sg) :=
  sIk st j 0 p1 fun s1 =>
  sIk s1 j 1 p2 fun s2 =>
  sIk s2 j 2 p3 fun s3 =>
  some ((), s3)
def m_X7_quotient (p0 : Int64) (p2 : Int64) (st : Sg) : Option (Int64 × Sg) :=
  if (lg_cmp p2 0) = 0 then (some (0, st)) else
  dlk p2 <|
  some ((p0 / p2), st)
def m_X6_placeOf (p0 : Int32) (p1 : Int32) (st : Sg) : Option (Int32 × Sg) :=
  some (((p0 * 40) + p1), st)
def m_X7_exchange (p1 : Int32) (p2 : Int64) (st : Sg) : Option (Int64 × Sg) :=
  lLk st 5 2 320 p1 fun v1 =>
  nmk v1 fun (a2 : Int64) =>
  sLk st 5 2 320 p1 p2 fun s3 =>
  some (a2, s3)
def m_X7_endOf (p1 : Int32) (p2 : Int32) (st : Sg) : Option (Int64 × Sg) :=
  lAk st 1 1 16 p1 fun v1 =>
  if v1 = 0 then (lLk st 1 8 16 p1 fun v2 =>
  some (v2, st)) else
  if v1 = 1 then (clk (m_X7_taken p1 0 p2 st) fun v4 s3 =>
  clk (m_X7_taken p1 1 p2 s3) fun v6 s5 =>
  some ((v4 + v6), s5)) else
  if v1 = 2 then (clk (m_X7_taken p1 0 p2 st) fun v8 s7 =>
  clk (m_X7_taken p1 1 p2 s7) fun v10 s9 =>
  some ((v8 * v10), s9)) else
  if v1 = 3 then (clk (m_X7_taken p1 0 p2 st) fun v12 s11 =>
  clk (m_X7_taken p1 1 p2 s11) fun v14 s13 =>
  clk (m_X7_quotient v12 v14 s13) fun v16 s15 =>
  some (v16, s15)) else
  if v1 = 4 then (lAk st 1 5 16 p1 fun v17 =>
  clk (m_X7_taken p1 0 p2 st) fun v19 s18 =>
  clk (m_X6_placeOf v17 ((v19 : Int64).toInt32) s18) fun v21 s20 =>
  lLk s20 5 2 320 v21 fun v22 =>
  some (v22, s20)) else
  if v1 = 5 then (lAk st 1 5 16 p1 fun v23 =>
  clk (m_X7_taken p1 0 p2 st) fun v25 s24 =>
  clk (m_X6_placeOf v23 ((v25 : Int64).toInt32) s24) fun v27 s26 =>
  clk (m_X7_taken p1 1 p2 s26) fun v29 s28 =>
  clk (m_X7_exchange v27 v29 s28) fun v31 s30 =>
  some (v31, s30)) else
  clk (m_X7_taken p1 0 p2 st) fun v33 s32 =>
  if (lg_cmp v33 0) = 0 then (clk (m_X7_taken p1 2 p2 s32) fun v35 s34 =>
  some (v35, s34)) else
  clk (m_X7_taken p1 1 p2 s32) fun v37 s36 =>
  some (v37, s36)
def m_X7_begin (j : Nat) (p1 : Int32) (p2 : Int32) (st : Sg) : Option (Unit × Sg) :=
  gIk st j 3 fun v1 =>
  sIk st j 3 (v1 + 1) fun s2 =>
  clk (m_X7_refusalOf p1 p2 s2) fun v4 s3 =>
  nmk v4 fun (a5 : Int32) =>
  if a5 = 0 then (clk (m_X7_placeOf p1 p2 s3) fun v7 s6 =>
  clk (m_X7_endOf p1 p2 s6) fun v9 s8 =>
  sLk s8 13 3 3264 v7 v9 fun s10 =>
  some ((), s10)) else
  clk (m_X5_refused j a5 p1 p2 s3) fun _ s11 =>
  some ((), s11)
def m_X7_goByTicks_L25 (j : Nat) (x1 : Int32) (x3 : Int32) (x4 : Int32) (st : Sg) : Option ((Int32 × Sg) ⊕ (Sg)) :=
  gIk st 1 0 fun v5 =>
  if v5 ≤ x4 then (some (.inr st)) else
  lAk st 9 10 16 x4 fun v6 =>
  nmk v6 fun (a7 : Int32) =>
  lAk st 9 4 16 a7 fun v8 =>
  nmk (x3 - v8) fun (a9 : Int32) =>
  if a9 < 0 then (nmk (x4 + 1) fun a10 =>
  some (.inl (a10, st))) else
  if x1 ≤ a9 then (nmk (x4 + 1) fun a11 =>
  some (.inl (a11, st))) else
  clk (m_X5_endsAheadOf j a7 a9 st) fun v13 s12 =>
  if v13 = 0 then (clk (m_X7_begin j a7 a9 s12) fun _ s15 =>
  gIk s15 9 1 fun v16 =>
  lAk s15 9 3 16 a7 fun v17 =>
  sIk s15 j 4 (((x3 * v16) + v17) + 1) fun s18 =>
  nmk (x4 + 1) fun a19 =>
  some (.inl (a19, s18))) else
  nmk (x4 + 1) fun a14 =>
  some (.inl (a14, s12))
def m_X7_goByTicks_L7 (j : Nat) (x1 : Int32) (x3 : Int32) (st : Sg) : Option ((Int32 × Sg) ⊕ (Sg)) :=
  gIk st 9 2 fun v3 =>
  if ((x1 + v3) - 1) ≤ x3 then (some (.inr st)) else
  nmk 0 fun (a4 : Int32) =>
  lpk (fun s : (Int32 × Sg) => m_X7_goByTicks_L25 j x1 x3 s.1 s.2) FU (a4, st) fun r20 =>
  nmk (x3 + 1) fun a21 =>
  some (.inl (a21, r20))
def m_X7_goByTicks (j : Nat) (p1 : Int32) (st : Sg) : Option (Unit × Sg) :=
  sIk st j 5 1 fun s1 =>
  nmk 0 fun (a2 : Int32) =>
  lpk (fun s : (Int32 × Sg) => m_X7_goByTicks_L7 j p1 s.1 s.2) FU (a2, s1) fun r22 =>
  some ((), r22)
def m_X7_goPlain_L17 (j : Nat) (x1 : Int32) (x3 : Int32) (x4 : Int32) (st : Sg) : Option ((Int32 × Sg) ⊕ (Sg)) :=
  gIk st 1 0 fun v4 =>
  if v4 ≤ x4 then (some (.inr st)) else
  gIk st j 0 fun v5 =>
  if v5 = 0 then (clk (m_X7_begin j x4 x3 st) fun _ s6 =>
  gIk s6 j 4 fun v7 =>
  lAk s6 1 2 16 x4 fun v8 =>
  sIk s6 j 4 (v7 + v8) fun s9 =>
  nmk (x4 + 1) fun a10 =>
  some (.inl (a10, s9))) else
  some (.inr st)
def m_X7_goPlain_L2 (j : Nat) (x1 : Int32) (x3 : Int32) (st : Sg) : Option ((Int32 × Sg) ⊕ (Sg)) :=
  if x1 ≤ x3 then (some (.inr st)) else
  gIk st j 0 fun v2 =>
  if v2 = 0 then (nmk 0 fun (a3 : Int32) =>
  lpk (fun s : (Int32 × Sg) => m_X7_goPlain_L17 j x1 x3 s.1 s.2) FU (a3, st) fun r11 =>
  nmk (x3 + 1) fun a12 =>
  some (.inl (a12, r11))) else
  some (.inr st)
def m_X7_goPlain (j : Nat) (p1 : Int32) (st : Sg) : Option (Unit × Sg) :=
  nmk 0 fun (a1 : Int32) =>
  lpk (fun s : (Int32 × Sg) => m_X7_goPlain_L2 j p1 s.1 s.2) FU (a1, st) fun r13 =>
  some ((), r13)
def m_X7_go_L8 (j : Nat) (x1 : Int32) (x2 : Int32) (x4 : Int32) (st : Sg) : Option ((Int32 × Sg) ⊕ (Sg)) :=
  if 0 ≤ x4 then (some (.inr st)) else
  clk (m_X7_placeOf 0 x4 st) fun v4 s3 =>
  cpLk s3 1 9 16 0 13 3 3264 v4 16 fun s5 =>
  nmk (x4 + 1) fun a6 =>
  some (.inl (a6, s5))
def m_X7_go_88 (j : Nat) (t0 : Int32) (st : Sg) : Option (Unit × Sg) :=
  sIk st j 6 t0 fun s11 =>
  gIk s11 j 6 fun v12 =>
  if v12 ≤ 0 then (some ((), s11)) else
  gIk s11 j 6 fun v13 =>
  clk (m_X7_placeOf 0 (v13 - 1) s11) fun v15 s14 =>
  cpLk s14 13 3 3264 v15 j 7 16 0 16 fun s16 =>
  some ((), s16)
def m_X7_go_72 (j : Nat) (x1 : Int32) (st : Sg) : Option (Unit × Sg) :=
  gIk st j 0 fun v9 =>
  if v9 = 0 then (m_X7_go_88 j x1 st) else
  gIk st j 2 fun v10 =>
  m_X7_go_88 j v10 st
def m_X7_go_66 (j : Nat) (x1 : Int32) (st : Sg) : Option (Unit × Sg) :=
  clk (m_X7_goPlain j x1 st) fun _ s8 =>
  m_X7_go_72 j x1 s8
def m_X7_go (j : Nat) (p1 : Int32) (p2 : Int32) (st : Sg) : Option (Unit × Sg) :=
  clk (m_X5_clear j st) fun _ s1 =>
  nmk (-4) fun (a2 : Int32) =>
  lpk (fun s : (Int32 × Sg) => m_X7_go_L8 j p1 p2 s.1 s.2) FU (a2, s1) fun r7 =>
  if p2 = 0 then (m_X7_go_66 j p1 r7) else
  gIk r7 9 2 fun v17 =>
  if p1 < v17 then (m_X7_go_66 j p1 r7) else
  clk (m_X7_goByTicks j p1 r7) fun _ s18 =>
  m_X7_go_72 j p1 s18
def m_X5_isLike_L48 (j : Nat) (x2 : Int32) (x3 : Int32) (st : Sg) : Option ((Int32 × Sg) ⊕ ((Sg) ⊕ (Sg))) :=
  if x2 ≤ x3 then (some (.inr (.inl st))) else
  gIk st j 6 fun v10 =>
  if v10 ≤ 0 then (some (.inr (.inl st))) else
  lLk st j 7 16 x3 fun v11 =>
  lLk st 15 7 16 x3 fun v12 =>
  if (lg_cmp v11 v12) = 0 then (nmk (x3 + 1) fun a13 =>
  some (.inl (a13, st))) else
  some (.inr (.inr st))
def m_X5_isLike (j : Nat) (p2 : Int32) (st : Sg) : Option (Int32 × Sg) :=
  gIk st j 0 fun v1 =>
  gIk st 15 0 fun v2 =>
  if v1 = v2 then (gIk st j 1 fun v3 =>
  gIk st 15 1 fun v4 =>
  if v3 = v4 then (gIk st j 2 fun v5 =>
  gIk st 15 2 fun v6 =>
  if v5 = v6 then (gIk st j 6 fun v7 =>
  gIk st 15 6 fun v8 =>
  if v7 = v8 then (nmk 0 fun (a9 : Int32) =>
  lpk (fun s : (Int32 × Sg) => m_X5_isLike_L48 j p2 s.1 s.2) FU (a9, st) (Sum.elim (fun r14 => some (1, r14)) (fun r14 => some (0, r14)))) else
  some (0, st)) else
  some (0, st)) else
  some (0, st)) else
  some (0, st)
def m_X7_rowsAreAsOfPlain_L2 (x1 : Int32) (st : Sg) : Option ((Int32 × Sg) ⊕ ((Sg) ⊕ (Sg))) :=
  if (Int32.ofNat 320) ≤ x1 then (some (.inr (.inl st))) else
  lLk st 5 2 320 x1 fun v2 =>
  lLk st 13 7 320 x1 fun v3 =>
  if (lg_cmp v2 v3) = 0 then (nmk (x1 + 1) fun a4 =>
  some (.inl (a4, st))) else
  some (.inr (.inr st))
def m_X7_rowsAreAsOfPlain (st : Sg) : Option (Int32 × Sg) :=
  nmk 0 fun (a1 : Int32) =>
  lpk (fun s : (Int32 × Sg) => m_X7_rowsAreAsOfPlain_L2 s.1 s.2) FU (a1, st) (Sum.elim (fun r5 => some (1, r5)) (fun r5 => some (0, r5)))
def m_X7_bothAgree_116 (t0 : Int32) (st : Sg) : Option (Int32 × Sg) :=
  nmk t0 fun (a9 : Int32) =>
  cpLk st 13 6 320 0 5 2 320 0 (Int32.ofNat 320) fun s10 =>
  bok a9 (some (a9, s10))
def m_X7_bothAgree_115 (st : Sg) : Option (Int32 × Sg) :=
  m_X7_bothAgree_116 0 st
def m_X7_bothAgree (p1 : Int32) (st : Sg) : Option (Int32 × Sg) :=
  cpLk st 5 2 320 0 13 6 320 0 (Int32.ofNat 320) fun s1 =>
  clk (m_X7_go 14 p1 0 s1) fun _ s2 =>
  cpLk s2 5 2 320 0 13 7 320 0 (Int32.ofNat 320) fun s3 =>
  cpLk s3 13 6 320 0 5 2 320 0 (Int32.ofNat 320) fun s4 =>
  clk (m_X7_go 15 p1 1 s4) fun _ s5 =>
  gIk s5 1 0 fun v6 =>
  clk (m_X5_isLike 14 v6 s5) fun v8 s7 =>
  if v8 = 0 then (m_X7_bothAgree_115 s7) else
  clk (m_X7_rowsAreAsOfPlain s7) fun v12 s11 =>
  if v12 = 0 then (m_X7_bothAgree_115 s11) else
  m_X7_bothAgree_116 1 s11
def m_X11_compare (p1 : Int32) (st : Sg) : Option (Int32 × Sg) :=
  clk (m_X11_refusalOfRun p1 1 st) fun v2 s1 =>
  nmk v2 fun (a3 : Int32) =>
  if a3 = 0 then (clk (m_X7_bothAgree p1 s1) fun v5 s4 =>
  if v5 = 0 then (some (0, s4)) else
  some (1, s4)) else
  clk (m_X11_refuse a3 s1) fun v7 s6 =>
  some (v7, s6)
def m_X11_isSlot (p0 : Int32) (st : Sg) : Option (Int32 × Sg) :=
  if p0 < 0 then (some (0, st)) else
  if 8 ≤ p0 then (some (0, st)) else
  some (1, st)
def m_X6_hasRun (p1 : Int32) (p2 : Int32) (p3 : Int32) (st : Sg) : Option (Int32 × Sg) :=
  if p2 < 0 then (some (0, st)) else
  lAk st 5 0 8 p1 fun v1 =>
  if 0 < (lg_cmp (((p2 : Int32).toInt64) + ((p3 : Int32).toInt64)) ((v1 : Int32).toInt64)) then (some (0, st)) else
  some (1, st)
def m_X11_copy (p1 : Int32) (p2 : Int32) (p3 : Int32) (p4 : Int32) (p5 : Int32) (st : Sg) : Option (Int32 × Sg) :=
  clk (m_X11_isSlot p1 st) fun v2 s1 =>
  if v2 = 0 then (clk (m_X11_refuse (-3) s1) fun v4 s3 =>
  some (v4, s3)) else
  clk (m_X11_isSlot p3 s1) fun v6 s5 =>
  if v6 = 0 then (clk (m_X11_refuse (-3) s5) fun v35 s34 =>
  some (v35, s34)) else
  lAk s5 5 0 8 p1 fun v7 =>
  if v7 = 0 then (clk (m_X11_refuse (-2) s5) fun v9 s8 =>
  some (v9, s8)) else
  lAk s5 5 0 8 p3 fun v10 =>
  if v10 = 0 then (clk (m_X11_refuse (-2) s5) fun v33 s32 =>
  some (v33, s32)) else
  lAk s5 5 1 8 p1 fun v11 =>
  if v11 = 0 then (clk (m_X11_refuse (-5) s5) fun v13 s12 =>
  some (v13, s12)) else
  lAk s5 5 1 8 p3 fun v14 =>
  if v14 = 0 then (clk (m_X11_refuse (-5) s5) fun v31 s30 =>
  some (v31, s30)) else
  if 0 ≤ p5 then (clk (m_X6_hasRun p1 p2 p5 s5) fun v16 s15 =>
  if v16 = 0 then (clk (m_X11_refuse (-6) s15) fun v18 s17 =>
  some (v18, s17)) else
  clk (m_X6_hasRun p3 p4 p5 s15) fun v20 s19 =>
  if v20 = 0 then (clk (m_X11_refuse (-6) s19) fun v27 s26 =>
  some (v27, s26)) else
  clk (m_X6_placeOf p1 p2 s19) fun v22 s21 =>
  clk (m_X6_placeOf p3 p4 s21) fun v24 s23 =>
  cpLk s23 5 2 320 v22 5 2 320 v24 p5 fun s25 =>
  some (p5, s25)) else
  clk (m_X11_refuse (-4) s5) fun v29 s28 =>
  some (v29, s28)
def m_X11_count (p1 : Int32) (st : Sg) : Option (Int32 × Sg) :=
  if p1 = 0 then (gIk st 1 0 fun v1 =>
  some (v1, st)) else
  if p1 = 1 then (gIk st 2 0 fun v2 =>
  some (v2, st)) else
  if p1 = 2 then (clk (m_X10_renew st) fun _ s3 =>
  gIk s3 3 1 fun v4 =>
  some (v4, s3)) else
  if p1 = 3 then (clk (m_X0_stores st) fun v6 s5 =>
  some (v6, s5)) else
  if p1 = 4 then (clk (m_X0_unitsInAll st) fun v8 s7 =>
  some (v8, s7)) else
  clk (m_X11_refuse (-9) st) fun v10 s9 =>
  some (v10, s9)
def m_X11_isBack (p0 : Int32) (st : Sg) : Option (Int32 × Sg) :=
  if p0 < 0 then (some (0, st)) else
  if 4 < p0 then (some (0, st)) else
  some (1, st)
def m_X11_edge (p1 : Int32) (p2 : Int32) (p3 : Int32) (p4 : Int32) (st : Sg) : Option (Int32 × Sg) :=
  clk (m_X0_has p1 st) fun v2 s1 =>
  if v2 = 0 then (clk (m_X11_refuse (-3) s1) fun v4 s3 =>
  some (v4, s3)) else
  clk (m_X0_has p2 s1) fun v6 s5 =>
  if v6 = 0 then (clk (m_X11_refuse (-3) s5) fun v22 s21 =>
  some (v22, s21)) else
  if p3 < (-50) then (clk (m_X11_refuse (-9) s5) fun v8 s7 =>
  some (v8, s7)) else
  if 50 < p3 then (clk (m_X11_refuse (-9) s5) fun v10 s9 =>
  some (v10, s9)) else
  clk (m_X11_isBack p4 s5) fun v12 s11 =>
  if v12 = 0 then (clk (m_X11_refuse (-9) s11) fun v20 s19 =>
  some (v20, s19)) else
  clk (m_X1_join 2 p1 p2 p3 p4 s11) fun v14 s13 =>
  if v14 = 0 then (clk (m_X11_refuse (-10) s13) fun v18 s17 =>
  some (v18, s17)) else
  clk (m_X11_bodyChanged s13) fun _ s15 =>
  gIk s15 2 0 fun v16 =>
  some (v16, s15)
def m_X6_drop_14 (x1 : Int32) (t0 : Int32) (st : Sg) : Option (Int32 × Sg) :=
  nmk t0 fun (a2 : Int32) =>
  sAk st 5 0 8 x1 0 fun s3 =>
  bok a2 (some (a2, s3))
def m_X6_drop (p1 : Int32) (st : Sg) : Option (Int32 × Sg) :=
  lAk st 5 0 8 p1 fun v1 =>
  if v1 ≤ 0 then (m_X6_drop_14 p1 0 st) else
  m_X6_drop_14 p1 1 st
def m_X11_empty (p1 : Int32) (st : Sg) : Option (Int32 × Sg) :=
  clk (m_X11_isSlot p1 st) fun v2 s1 =>
  if v2 = 0 then (clk (m_X11_refuse (-3) s1) fun v6 s5 =>
  some (v6, s5)) else
  clk (m_X6_drop p1 s1) fun v4 s3 =>
  if v4 = 0 then (some (0, s3)) else
  some (1, s3)
def m_X11_end (p1 : Int32) (st : Sg) : Option (Int64 × Sg) :=
  clk (m_X0_has p1 st) fun v2 s1 =>
  if v2 = 0 then (clk (m_X11_refuse (-3) s1) fun v7 s6 =>
  some (0, s6)) else
  gIk s1 16 6 fun v3 =>
  if v3 ≤ 0 then (lLk s1 1 9 16 p1 fun v4 =>
  some (v4, s1)) else
  lLk s1 16 7 16 p1 fun v5 =>
  some (v5, s1)
def m_X11_fetch (p1 : Int32) (p2 : Int32) (p3 : Int32) (st : Sg) : Option (Int32 × Sg) :=
  clk (m_X11_isBack p3 st) fun v2 s1 =>
  if v2 = 0 then (clk (m_X11_refuse (-9) s1) fun v20 s19 =>
  some (v20, s19)) else
  clk (m_X11_isSlot p1 s1) fun v4 s3 =>
  if v4 = 0 then (clk (m_X11_refuse (-3) s3) fun v6 s5 =>
  some (v6, s5)) else
  clk (m_X0_mayTake p2 p3 s3) fun v8 s7 =>
  if v8 = 0 then (clk (m_X11_refuse (-3) s7) fun v18 s17 =>
  some (v18, s17)) else
  clk (m_X0_open 4 s7) fun v10 s9 =>
  nmk v10 fun (a11 : Int32) =>
  if a11 = (-1) then (clk (m_X11_refuse (-10) s9) fun v16 s15 =>
  some (v16, s15)) else
  sAk s9 1 5 16 a11 p1 fun s12 =>
  clk (m_X0_take a11 0 p2 p3 s12) fun _ s13 =>
  clk (m_X11_bodyChanged s13) fun _ s14 =>
  some (a11, s14)
def m_X4_placesInAll_L4 (x1 : Int32) (x2 : Int32) (x3 : Int32) (st : Sg) : Option ((Int32 × Int32 × Sg) ⊕ (Int32 × Sg)) :=
  if x1 ≤ x3 then (some (.inr (x2, st))) else
  lAk st 9 9 16 x3 fun v3 =>
  nmk (x2 + v3) fun (a4 : Int32) =>
  nmk (x3 + 1) fun a5 =>
  some (.inl (a4, a5, st))
def m_X4_placesInAll (p1 : Int32) (st : Sg) : Option (Int32 × Sg) :=
  nmk 0 fun (a1 : Int32) =>
  nmk 0 fun (a2 : Int32) =>
  lpk (fun s : (Int32 × Int32 × Sg) => m_X4_placesInAll_L4 p1 s.1 s.2.1 s.2.2) FU (a1, a2, st) fun r6 =>
  some (r6.1, r6.2)
def m_X4_mostPlaces_L4 (x1 : Int32) (x2 : Int32) (x3 : Int32) (st : Sg) : Option ((Int32 × Int32 × Sg) ⊕ (Int32 × Sg)) :=
  if x1 ≤ x3 then (some (.inr (x2, st))) else
  lAk st 9 9 16 x3 fun v3 =>
  nmk (mx x2 v3) fun (a4 : Int32) =>
  nmk (x3 + 1) fun a5 =>
  some (.inl (a4, a5, st))
def m_X4_mostPlaces (p1 : Int32) (st : Sg) : Option (Int32 × Sg) :=
  nmk 0 fun (a1 : Int32) =>
  nmk 0 fun (a2 : Int32) =>
  lpk (fun s : (Int32 × Int32 × Sg) => m_X4_mostPlaces_L4 p1 s.1 s.2.1 s.2.2) FU (a1, a2, st) fun r6 =>
  some (r6.1, r6.2)
def m_X11_fewest (p1 : Int32) (st : Sg) : Option (Int32 × Sg) :=
  gIk st 9 0 fun v1 =>
  if v1 = 0 then (clk (m_X11_refuse (-2) st) fun v12 s11 =>
  some (v12, s11)) else
  if p1 = 0 then (gIk st 1 0 fun v2 =>
  clk (m_X4_placesInAll v2 st) fun v4 s3 =>
  some (v4, s3)) else
  if p1 = 1 then (gIk st 1 0 fun v5 =>
  clk (m_X4_mostPlaces v5 st) fun v7 s6 =>
  gIk s6 1 0 fun v8 =>
  some ((v7 * v8), s6)) else
  clk (m_X11_refuse (-9) st) fun v10 s9 =>
  some (v10, s9)
def m_X11_isKind (p0 : Int32) (st : Sg) : Option (Int32 × Sg) :=
  if p0 < 0 then (some (0, st)) else
  if 6 ≤ p0 then (some (0, st)) else
  some (1, st)
def m_X2_at (j : Nat) (p1 : Int32) (p2 : Int32) (st : Sg) : Option (Int32 × Sg) :=
  lAk st j 0 360 ((p1 * 60) + p2) fun v1 =>
  some (v1, st)
def m_X11_filled (p1 : Int32) (p2 : Int32) (st : Sg) : Option (Int32 × Sg) :=
  gIk st 9 0 fun v1 =>
  if v1 = 0 then (clk (m_X11_refuse (-2) st) fun v14 s13 =>
  some (v14, s13)) else
  clk (m_X11_isKind p1 st) fun v3 s2 =>
  if v3 = 0 then (clk (m_X11_refuse (-3) s2) fun v5 s4 =>
  some (v5, s4)) else
  if p2 < 0 then (clk (m_X11_refuse (-3) s2) fun v7 s6 =>
  some (v7, s6)) else
  gIk s2 9 1 fun v8 =>
  if p2 < v8 then (clk (m_X2_at 10 p1 p2 s2) fun v10 s9 =>
  some (v10, s9)) else
  clk (m_X11_refuse (-3) s2) fun v12 s11 =>
  some (v12, s11)
def m_X11_first (p1 : Int32) (p2 : Int64) (st : Sg) : Option (Int32 × Sg) :=
  clk (m_X0_has p1 st) fun v2 s1 =>
  if v2 = 0 then (clk (m_X11_refuse (-3) s1) fun v5 s4 =>
  some (v5, s4)) else
  sLk s1 1 9 16 p1 p2 fun s3 =>
  some (1, s3)
def m_X11_forge (p1 : Int32) (p2 : Int32) (st : Sg) : Option (Int32 × Sg) :=
  gIk st 9 0 fun v1 =>
  if v1 = 0 then (clk (m_X11_refuse (-2) st) fun v14 s13 =>
  some (v14, s13)) else
  clk (m_X0_has p1 st) fun v3 s2 =>
  if v3 = 0 then (clk (m_X11_refuse (-3) s2) fun v12 s11 =>
  some (v12, s11)) else
  if 0 ≤ p2 then (if p2 ≤ 3000 then (lAk s2 9 6 16 p1 fun v4 =>
  nmk v4 fun (a5 : Int32) =>
  sAk s2 9 6 16 p1 p2 fun s6 =>
  some (a5, s6)) else
  clk (m_X11_refuse (-9) s2) fun v8 s7 =>
  some (v8, s7)) else
  clk (m_X11_refuse (-4) s2) fun v10 s9 =>
  some (v10, s9)
def m_X11_get (p1 : Int32) (p2 : Int32) (st : Sg) : Option (Int64 × Sg) :=
  clk (m_X6_refusalAt p1 ((p2 : Int32).toInt64) st) fun v2 s1 =>
  nmk v2 fun (a3 : Int32) =>
  if a3 = 0 then (clk (m_X6_placeOf p1 p2 s1) fun v5 s4 =>
  lLk s4 5 2 320 v5 fun v6 =>
  some (v6, s4)) else
  clk (m_X11_refuse a3 s1) fun v8 s7 =>
  some (0, s7)
def m_X9_load_L11 (x2 : Int32) (x3 : Int32) (st : Sg) : Option ((Int32 × Sg) ⊕ (Sg)) :=
  gIk st 4 0 fun v3 =>
  if v3 ≤ x3 then (some (.inr st)) else
  lAk st 4 1 (lnE 4) x3 fun v4 =>
  lAk st 4 2 (lnE 4) x3 fun v5 =>
  nmk ((v4 * 16) + v5) fun (a6 : Int32) =>
  lAk st 6 0 256 a6 fun v7 =>
  lAk st 4 3 (lnE 4) x3 fun v8 =>
  lAk st 4 4 (lnE 4) x3 fun v9 =>
  sAk st 6 0 256 a6 (mx v7 (v8 - (x2 * v9))) fun s10 =>
  nmk (x3 + 1) fun a11 =>
  some (.inl (a11, s10))
def m_X9_load (p2 : Int32) (st : Sg) : Option (Unit × Sg) :=
  clk (m_J7_fill_53178 6 0 256 (-1000000) st) fun _ s1 =>
  nmk 0 fun (a2 : Int32) =>
  lpk (fun s : (Int32 × Sg) => m_X9_load_L11 p2 s.1 s.2) FU (a2, s1) fun r12 =>
  some ((), r12)
def m_X9_joinRow_L3 (x1 : Int32) (x2 : Int32) (x3 : Int32) (x4 : Int32) (x5 : Int32) (st : Sg) : Option ((Int32 × Sg) ⊕ (Sg)) :=
  if x4 ≤ x5 then (some (.inr st)) else
  lAk st 6 1 256 ((x3 * 16) + x5) fun v2 =>
  nmk v2 fun (a3 : Int32) =>
  if a3 = (-1000000) then (nmk (x5 + 1) fun a4 =>
  some (.inl (a4, st))) else
  nmk ((x1 * 16) + x5) fun (a5 : Int32) =>
  lAk st 6 1 256 a5 fun v6 =>
  sAk st 6 1 256 a5 (mx v6 (x2 + a3)) fun s7 =>
  nmk (x5 + 1) fun a8 =>
  some (.inl (a8, s7))
def m_X9_joinRow (p1 : Int32) (p2 : Int32) (p3 : Int32) (p4 : Int32) (st : Sg) : Option (Unit × Sg) :=
  nmk 0 fun (a1 : Int32) =>
  lpk (fun s : (Int32 × Sg) => m_X9_joinRow_L3 p1 p2 p3 p4 s.1 s.2) FU (a1, st) fun r9 =>
  some ((), r9)
def m_X9_joinBy_36 (x1 : Int32) (x2 : Int32) (x3 : Int32) (st : Sg) : Option ((Int32 × Sg) ⊕ ((Sg) ⊕ (Sg))) :=
  lAk st 6 1 256 ((x3 * 16) + x3) fun v4 =>
  if v4 ≤ 0 then (nmk (x3 + 1) fun a5 =>
  some (.inl (a5, st))) else
  some (.inr (.inr st))
def m_X9_joinBy_L2 (x1 : Int32) (x2 : Int32) (x3 : Int32) (st : Sg) : Option ((Int32 × Sg) ⊕ ((Sg) ⊕ (Sg))) :=
  if x2 ≤ x3 then (some (.inr (.inl st))) else
  lAk st 6 1 256 ((x3 * 16) + x1) fun v2 =>
  nmk v2 fun (a3 : Int32) =>
  if a3 = (-1000000) then (m_X9_joinBy_36 x1 x2 x3 st) else
  clk (m_X9_joinRow x3 a3 x1 x2 st) fun _ s6 =>
  m_X9_joinBy_36 x1 x2 x3 s6
def m_X9_joinBy (p1 : Int32) (p2 : Int32) (st : Sg) : Option (Int32 × Sg) :=
  nmk 0 fun (a1 : Int32) =>
  lpk (fun s : (Int32 × Sg) => m_X9_joinBy_L2 p1 p2 s.1 s.2) FU (a1, st) (Sum.elim (fun r7 => some (1, r7)) (fun r7 => some (0, r7)))
def m_X9_join_L20 (x1 : Int32) (x2 : Int32) (st : Sg) : Option ((Int32 × Sg) ⊕ ((Sg) ⊕ (Sg))) :=
  if x1 ≤ x2 then (some (.inr (.inl st))) else
  clk (m_X9_joinBy x2 x1 st) fun v4 s3 =>
  if v4 = 0 then (some (.inr (.inr s3))) else
  nmk (x2 + 1) fun a5 =>
  some (.inl (a5, s3))
def m_X9_join (p1 : Int32) (st : Sg) : Option (Int32 × Sg) :=
  cpAk st 6 0 256 0 6 1 256 0 (Int32.ofNat 256) fun s1 =>
  nmk 0 fun (a2 : Int32) =>
  lpk (fun s : (Int32 × Sg) => m_X9_join_L20 p1 s.1 s.2) FU (a2, s1) (Sum.elim (fun r6 => some (1, r6)) (fun r6 => some (0, r6)))
def m_X11_hasRingAt (p1 : Int32) (st : Sg) : Option (Int32 × Sg) :=
  clk (m_X9_load p1 st) fun _ s1 =>
  gIk s1 1 0 fun v2 =>
  clk (m_X9_join v2 s1) fun v4 s3 =>
  if v4 = 0 then (some (1, s3)) else
  some (0, s3)
def m_X11_lowestBeat_L58 (x1 : Int32) (x2 : Int32) (x3 : Int32) (st : Sg) : Option ((Int32 × Int32 × Int32 × Sg) ⊕ (Int32 × Sg)) :=
  if 60 ≤ x3 then (some (.inr (x1, st))) else
  if x2 ≤ x1 then (some (.inr (x1, st))) else
  dvk 2 <|
  nmk ((x1 + x2) / 2) fun (a11 : Int32) =>
  clk (m_X11_hasRingAt a11 st) fun v13 s12 =>
  if v13 = 0 then (nmk a11 fun (a14 : Int32) =>
  nmk (x3 + 1) fun a15 =>
  some (.inl (x1, a14, a15, s12))) else
  nmk (a11 + 1) fun (a16 : Int32) =>
  nmk (x3 + 1) fun a17 =>
  some (.inl (a16, x2, a17, s12))
def m_X11_lowestBeat (st : Sg) : Option (Int32 × Sg) :=
  clk (m_X0_isReady st) fun v2 s1 =>
  if v2 = 0 then (some ((-2), s1)) else
  clk (m_X0_beatByUnits s1) fun v4 s3 =>
  nmk v4 fun (a5 : Int32) =>
  if a5 ≤ 60 then (clk (m_X10_renew s3) fun _ s6 =>
  clk (m_X11_hasRingAt 60 s6) fun v8 s7 =>
  if v8 = 0 then (nmk 60 fun (a9 : Int32) =>
  nmk 0 fun (a10 : Int32) =>
  lpk (fun s : (Int32 × Int32 × Int32 × Sg) => m_X11_lowestBeat_L58 s.1 s.2.1 s.2.2.1 s.2.2.2) FU (a5, a9, a10, s7) fun r18 =>
  some (r18.1, r18.2)) else
  some ((-9), s7)) else
  some ((-9), s3)
def m_X8_leave (p1 : Int32) (st : Sg) : Option (Unit × Sg) :=
  if p1 < 0 then (some ((), st)) else
  lAk st 7 9 16 p1 fun v1 =>
  gIk st 7 8 fun v2 =>
  clk (m_X2_change 8 p1 v1 v2 (-1) st) fun v4 s3 =>
  lAk s3 7 9 16 p1 fun v5 =>
  sAk s3 7 9 16 p1 (v5 + 1) fun s6 =>
  some ((), s6)
def m_X8_stagesBetween (p1 : Int32) (p2 : Int32) (st : Sg) : Option (Int32 × Sg) :=
  lAk st 6 0 256 ((p1 * 16) + p2) fun v1 =>
  nmk v1 fun (a2 : Int32) =>
  if a2 = (-1000000) then (some ((-1000000), st)) else
  gIk st 7 8 fun v3 =>
  if 1 ≤ v3 then (lAk st 7 9 16 p1 fun v4 =>
  lAk st 7 9 16 p2 fun v5 =>
  gIk st 7 8 fun v6 =>
  gIk st 7 8 fun v7 =>
  clk (m_J9_floorDiv_7cf53 ((((a2 + v4) - v5) + v6) - 1) v7 st) fun v9 s8 =>
  some (v9, s8)) else
  some ((-1000000), st)
def m_X8_place (p0 : Int32) (p1 : Int32) (p2 : Int32) (st : Sg) : Option (Int32 × Sg) :=
  some (((((p0 * 16) + p1) * 16) + p2), st)
def m_X8_closesRing_L2 (x1 : Int32) (x2 : Int32) (x3 : Int32) (st : Sg) : Option ((Int32 × Sg) ⊕ ((Sg) ⊕ (Sg))) :=
  if x1 ≤ x3 then (some (.inr (.inl st))) else
  clk (m_X8_place (x1 - 1) x2 x3 st) fun v3 s2 =>
  lAk s2 7 3 4096 v3 fun v4 =>
  nmk v4 fun (a5 : Int32) =>
  lAk s2 7 4 16 x3 fun v6 =>
  if v6 = (-1000000) then (nmk (x3 + 1) fun a7 =>
  some (.inl (a7, s2))) else
  if a5 = (-1000000) then (nmk (x3 + 1) fun a8 =>
  some (.inl (a8, s2))) else
  lAk s2 7 5 16 x2 fun v9 =>
  lAk s2 7 4 16 x3 fun v10 =>
  if ((v9 + a5) + v10) ≤ 0 then (nmk (x3 + 1) fun a11 =>
  some (.inl (a11, s2))) else
  some (.inr (.inr s2))
def m_X8_closesRing (p1 : Int32) (p2 : Int32) (st : Sg) : Option (Int32 × Sg) :=
  nmk 0 fun (a1 : Int32) =>
  lpk (fun s : (Int32 × Sg) => m_X8_closesRing_L2 p1 p2 s.1 s.2) FU (a1, st) (Sum.elim (fun r12 => some (0, r12)) (fun r12 => some (1, r12)))
def m_X8_edgesCanHold_L21 (x1 : Int32) (x2 : Int32) (st : Sg) : Option ((Int32 × Sg) ⊕ (Sg)) :=
  if x1 ≤ x2 then (some (.inr st)) else
  clk (m_X8_stagesBetween x2 x1 st) fun v4 s3 =>
  sAk s3 7 4 16 x2 v4 fun s5 =>
  clk (m_X8_stagesBetween x1 x2 s5) fun v7 s6 =>
  sAk s6 7 5 16 x2 v7 fun s8 =>
  nmk (x2 + 1) fun a9 =>
  some (.inl (a9, s8))
def m_X8_edgesCanHold_L58 (x1 : Int32) (x2 : Int32) (st : Sg) : Option ((Int32 × Sg) ⊕ ((Sg) ⊕ (Sg))) :=
  if x1 ≤ x2 then (some (.inr (.inl st))) else
  lAk st 7 5 16 x2 fun v12 =>
  if v12 = (-1000000) then (nmk (x2 + 1) fun a13 =>
  some (.inl (a13, st))) else
  clk (m_X8_closesRing x1 x2 st) fun v15 s14 =>
  if v15 = 0 then (nmk (x2 + 1) fun a16 =>
  some (.inl (a16, s14))) else
  some (.inr (.inr s14))
def m_X8_edgesCanHold (p1 : Int32) (st : Sg) : Option (Int32 × Sg) :=
  lAk st 6 0 256 ((p1 * 16) + p1) fun v1 =>
  if v1 ≤ 0 then (nmk 0 fun (a2 : Int32) =>
  lpk (fun s : (Int32 × Sg) => m_X8_edgesCanHold_L21 p1 s.1 s.2) FU (a2, st) fun r10 =>
  nmk 0 fun (a11 : Int32) =>
  lpk (fun s : (Int32 × Sg) => m_X8_edgesCanHold_L58 p1 s.1 s.2) FU (a11, r10) (Sum.elim (fun r17 => some (1, r17)) (fun r17 => some (0, r17)))) else
  some (0, st)
def m_X8_plus (p0 : Int32) (p1 : Int32) (st : Sg) : Option (Int32 × Sg) :=
  if p0 = (-1000000) then (some ((-1000000), st)) else
  if p1 = (-1000000) then (some ((-1000000), st)) else
  some ((p0 + p1), st)
def m_X8_longestInto_L6 (x1 : Int32) (x2 : Int32) (x3 : Int32) (x4 : Int32) (st : Sg) : Option ((Int32 × Int32 × Sg) ⊕ (Int32 × Sg)) :=
  if x1 ≤ x4 then (some (.inr (x3, st))) else
  lAk st 7 4 16 x4 fun v3 =>
  if v3 = (-1000000) then (nmk (x4 + 1) fun a4 =>
  some (.inl (x3, a4, st))) else
  clk (m_X8_place (x1 - 1) x2 x4 st) fun v6 s5 =>
  lAk s5 7 3 4096 v6 fun v7 =>
  lAk s5 7 4 16 x4 fun v8 =>
  clk (m_X8_plus v7 v8 s5) fun v10 s9 =>
  nmk (mx x3 v10) fun (a11 : Int32) =>
  nmk (x4 + 1) fun a12 =>
  some (.inl (a11, a12, s9))
def m_X8_longestInto (p1 : Int32) (p2 : Int32) (st : Sg) : Option (Int32 × Sg) :=
  nmk (-1000000) fun (a1 : Int32) =>
  nmk 0 fun (a2 : Int32) =>
  lpk (fun s : (Int32 × Int32 × Sg) => m_X8_longestInto_L6 p1 p2 s.1 s.2.1 s.2.2) FU (a1, a2, st) fun r13 =>
  some (r13.1, r13.2)
def m_X8_longestOutOf_L6 (x1 : Int32) (x2 : Int32) (x3 : Int32) (x4 : Int32) (st : Sg) : Option ((Int32 × Int32 × Sg) ⊕ (Int32 × Sg)) :=
  if x1 ≤ x4 then (some (.inr (x3, st))) else
  lAk st 7 5 16 x4 fun v3 =>
  if v3 = (-1000000) then (nmk (x4 + 1) fun a4 =>
  some (.inl (x3, a4, st))) else
  lAk st 7 5 16 x4 fun v5 =>
  clk (m_X8_place (x1 - 1) x4 x2 st) fun v7 s6 =>
  lAk s6 7 3 4096 v7 fun v8 =>
  clk (m_X8_plus v5 v8 s6) fun v10 s9 =>
  nmk (mx x3 v10) fun (a11 : Int32) =>
  nmk (x4 + 1) fun a12 =>
  some (.inl (a11, a12, s9))
def m_X8_longestOutOf (p1 : Int32) (p2 : Int32) (st : Sg) : Option (Int32 × Sg) :=
  nmk (-1000000) fun (a1 : Int32) =>
  nmk 0 fun (a2 : Int32) =>
  lpk (fun s : (Int32 × Int32 × Sg) => m_X8_longestOutOf_L6 p1 p2 s.1 s.2.1 s.2.2) FU (a1, a2, st) fun r13 =>
  some (r13.1, r13.2)
def m_X8_lengthen_L10 (x1 : Int32) (x2 : Int32) (x3 : Int32) (x4 : Int32) (st : Sg) : Option ((Int32 × Sg) ⊕ (Sg)) :=
  if x1 ≤ x4 then (some (.inr st)) else
  lAk st 7 7 16 x4 fun v5 =>
  if v5 = (-1000000) then (nmk (x4 + 1) fun a6 =>
  some (.inl (a6, st))) else
  lAk st 7 3 4096 (x3 + x4) fun v7 =>
  lAk st 7 6 16 x2 fun v8 =>
  lAk st 7 7 16 x4 fun v9 =>
  sAk st 7 3 4096 (x3 + x4) (mx v7 (v8 + v9)) fun s10 =>
  nmk (x4 + 1) fun a11 =>
  some (.inl (a11, s10))
def m_X8_lengthen (p1 : Int32) (p2 : Int32) (st : Sg) : Option (Unit × Sg) :=
  clk (m_X8_place p1 p2 0 st) fun v2 s1 =>
  nmk v2 fun (a3 : Int32) =>
  nmk 0 fun (a4 : Int32) =>
  lpk (fun s : (Int32 × Sg) => m_X8_lengthen_L10 p1 p2 a3 s.1 s.2) FU (a4, s1) fun r12 =>
  some ((), r12)
def m_X8_chain_L2 (x1 : Int32) (x2 : Int32) (st : Sg) : Option ((Int32 × Sg) ⊕ (Sg)) :=
  if x1 ≤ x2 then (some (.inr st)) else
  clk (m_X8_longestInto x1 x2 st) fun v3 s2 =>
  sAk s2 7 6 16 x2 v3 fun s4 =>
  clk (m_X8_longestOutOf x1 x2 s4) fun v6 s5 =>
  sAk s5 7 7 16 x2 v6 fun s7 =>
  nmk (x2 + 1) fun a8 =>
  some (.inl (a8, s7))
def m_X8_chain_87 (x1 : Int32) (x2 : Int32) (st : Sg) : Option ((Int32 × Sg) ⊕ (Sg)) :=
  clk (m_X8_place x1 x2 x1 st) fun v18 s17 =>
  lAk s17 7 6 16 x2 fun v19 =>
  sAk s17 7 3 4096 v18 v19 fun s20 =>
  clk (m_X8_place x1 x1 x2 s20) fun v22 s21 =>
  lAk s21 7 7 16 x2 fun v23 =>
  sAk s21 7 3 4096 v22 v23 fun s24 =>
  nmk (x2 + 1) fun a25 =>
  some (.inl (a25, s24))
def m_X8_chain_L39 (x1 : Int32) (x2 : Int32) (st : Sg) : Option ((Int32 × Sg) ⊕ (Sg)) :=
  if x1 ≤ x2 then (some (.inr st)) else
  clk (m_X8_place (x1 - 1) x2 0 st) fun v12 s11 =>
  clk (m_X8_place x1 x2 0 s11) fun v14 s13 =>
  cpAk s13 7 3 4096 v12 7 3 4096 v14 x1 fun s15 =>
  lAk s15 7 6 16 x2 fun v16 =>
  if v16 = (-1000000) then (m_X8_chain_87 x1 x2 s15) else
  clk (m_X8_lengthen x1 x2 s15) fun _ s26 =>
  m_X8_chain_87 x1 x2 s26
def m_X8_chain (p1 : Int32) (st : Sg) : Option (Unit × Sg) :=
  nmk 0 fun (a1 : Int32) =>
  lpk (fun s : (Int32 × Sg) => m_X8_chain_L2 p1 s.1 s.2) FU (a1, st) fun r9 =>
  nmk 0 fun (a10 : Int32) =>
  lpk (fun s : (Int32 × Sg) => m_X8_chain_L39 p1 s.1 s.2) FU (a10, r9) fun r27 =>
  clk (m_X8_place p1 p1 p1 r27) fun v29 s28 =>
  sAk s28 7 3 4096 v29 0 fun s30 =>
  some ((), s30)
def m_X8_attempt (p1 : Int32) (st : Sg) : Option (Int32 × Sg) :=
  gIk st 7 10 fun v1 =>
  sIk st 7 10 (v1 + 1) fun s2 =>
  lAk s2 7 9 16 p1 fun v3 =>
  gIk s2 7 8 fun v4 =>
  clk (m_X2_change 8 p1 v3 v4 1 s2) fun v6 s5 =>
  nmk v6 fun (a7 : Int32) =>
  lAk s5 1 3 16 p1 fun v8 =>
  lAk s5 1 10 6 v8 fun v9 =>
  if v9 < a7 then (clk (m_X8_leave p1 s5) fun _ s10 =>
  some (0, s10)) else
  clk (m_X8_edgesCanHold p1 s5) fun v12 s11 =>
  if v12 = 0 then (clk (m_X8_leave p1 s11) fun _ s13 =>
  some (0, s13)) else
  clk (m_X8_chain p1 s11) fun _ s14 =>
  some (1, s14)
def m_X8_enter (p1 : Int32) (st : Sg) : Option (Int32 × Sg) :=
  if 16 ≤ p1 then (some (p1, st)) else
  sAk st 7 9 16 p1 0 fun s1 =>
  some (p1, s1)
def m_X8_seek_71 (x2 : Int32) (x3 : Int32) (t0 : Int32) (t1 : Int32) (st : Sg) : Option ((Int32 × Int32 × Sg) ⊕ ((Sg) ⊕ ((Sg) ⊕ ((Sg) ⊕ (Sg))))) :=
  if t1 < t0 then (gIk st 7 10 fun v9 =>
  if v9 < 3000 then (clk (m_X8_attempt x2 st) fun v11 s10 =>
  if v11 = 0 then (nmk x2 fun (a12 : Int32) =>
  nmk (x3 + 1) fun a13 =>
  some (.inl (a12, a13, s10))) else
  clk (m_X8_enter (x2 + 1) s10) fun v15 s14 =>
  nmk v15 fun (a16 : Int32) =>
  nmk (x3 + 1) fun a17 =>
  some (.inl (a16, a17, s14))) else
  some (.inr (.inr (.inr (.inr st))))) else
  nmk (x2 + (-1)) fun a18 =>
  clk (m_X8_leave a18 st) fun _ s19 =>
  nmk (x3 + 1) fun a20 =>
  some (.inl (a18, a20, s19))
def m_X8_seek_L27 (x2 : Int32) (x3 : Int32) (st : Sg) : Option ((Int32 × Int32 × Sg) ⊕ ((Sg) ⊕ ((Sg) ⊕ ((Sg) ⊕ (Sg))))) :=
  if 10000 ≤ x3 then (some (.inr (.inl st))) else
  gIk st 1 0 fun v6 =>
  if x2 < v6 then (if 0 ≤ x2 then (lAk st 7 9 16 x2 fun v7 =>
  if x2 = 0 then (m_X8_seek_71 x2 x3 1 v7 st) else
  gIk st 7 8 fun v8 =>
  m_X8_seek_71 x2 x3 v8 v7 st) else
  some (.inr (.inr (.inr (.inl st))))) else
  some (.inr (.inr (.inl st)))
def m_X8_seek (p1 : Int32) (st : Sg) : Option (Int32 × Sg) :=
  sIk st 7 8 (mx 1 p1) fun s1 =>
  clk (m_X2_clear 8 s1) fun _ s2 =>
  sAk s2 7 9 16 0 0 fun s3 =>
  nmk 0 fun (a4 : Int32) =>
  nmk 0 fun (a5 : Int32) =>
  lpk (fun s : (Int32 × Int32 × Sg) => m_X8_seek_L27 s.1 s.2.1 s.2.2) FU (a4, a5, s3) (Sum.elim (fun r21 => some (4, r21)) (Sum.elim (fun r21 => some (0, r21)) (Sum.elim (fun r21 => some (3, r21)) (fun r21 => some (4, r21)))))
def m_X11_seekAt (p1 : Int32) (st : Sg) : Option (Int32 × Sg) :=
  clk (m_X9_load p1 st) fun _ s1 =>
  clk (m_X8_seek p1 s1) fun v3 s2 =>
  some (v3, s2)
def m_X8_beat (st : Sg) : Option (Int32 × Sg) :=
  gIk st 7 8 fun v1 =>
  some (v1, st)
def m_X8_stageOf_L4 (x1 : Int32) (x2 : Int32) (x3 : Int32) (st : Sg) : Option ((Int32 × Int32 × Sg) ⊕ (Int32 × Sg)) :=
  gIk st 1 0 fun v3 =>
  if v3 ≤ x3 then (some (.inr (x2, st))) else
  gIk st 1 0 fun v4 =>
  clk (m_X8_place (v4 - 1) x3 x1 st) fun v6 s5 =>
  lAk s5 7 3 4096 v6 fun v7 =>
  nmk (mx x2 v7) fun (a8 : Int32) =>
  nmk (x3 + 1) fun a9 =>
  some (.inl (a8, a9, s5))
def m_X8_stageOf (p1 : Int32) (st : Sg) : Option (Int32 × Sg) :=
  nmk 0 fun (a1 : Int32) =>
  nmk 0 fun (a2 : Int32) =>
  lpk (fun s : (Int32 × Int32 × Sg) => m_X8_stageOf_L4 p1 s.1 s.2.1 s.2.2) FU (a1, a2, st) fun r10 =>
  some (r10.1, r10.2)
def m_X9_earliest_L5 (x1 : Int32) (x2 : Int32) (x3 : Int32) (x4 : Int32) (st : Sg) : Option ((Int32 × Int32 × Sg) ⊕ (Int32 × Sg)) :=
  if x2 ≤ x4 then (some (.inr (x3, st))) else
  lAk st 6 1 256 ((x4 * 16) + x1) fun v3 =>
  nmk (mx x3 v3) fun (a4 : Int32) =>
  nmk (x4 + 1) fun a5 =>
  some (.inl (a4, a5, st))
def m_X9_earliest (p1 : Int32) (p2 : Int32) (st : Sg) : Option (Int32 × Sg) :=
  nmk 0 fun (a1 : Int32) =>
  nmk 0 fun (a2 : Int32) =>
  lpk (fun s : (Int32 × Int32 × Sg) => m_X9_earliest_L5 p1 p2 s.1 s.2.1 s.2.2) FU (a1, a2, st) fun r6 =>
  some (r6.1, r6.2)
def m_X9_farthest_L5 (x1 : Int32) (x2 : Int32) (x3 : Int32) (x4 : Int32) (st : Sg) : Option ((Int32 × Int32 × Sg) ⊕ (Int32 × Sg)) :=
  if x2 ≤ x4 then (some (.inr (x3, st))) else
  lAk st 6 1 256 ((x1 * 16) + x4) fun v3 =>
  nmk (mx x3 v3) fun (a4 : Int32) =>
  nmk (x4 + 1) fun a5 =>
  some (.inl (a4, a5, st))
def m_X9_farthest (p1 : Int32) (p2 : Int32) (st : Sg) : Option (Int32 × Sg) :=
  nmk 0 fun (a1 : Int32) =>
  nmk 0 fun (a2 : Int32) =>
  lpk (fun s : (Int32 × Int32 × Sg) => m_X9_farthest_L5 p1 p2 s.1 s.2.1 s.2.2) FU (a1, a2, st) fun r6 =>
  some (r6.1, r6.2)
def m_X4_settleBounds_L5 (x1 : Int32) (x3 : Int32) (x4 : Int32) (st : Sg) : Option ((Int32 × Int32 × Sg) ⊕ (Int32 × Sg)) :=
  if x1 ≤ x4 then (some (.inr (x3, st))) else
  clk (m_X9_earliest x4 x1 st) fun v4 s3 =>
  sAk s3 9 7 16 x4 v4 fun s5 =>
  lAk s5 9 7 16 x4 fun v6 =>
  nmk (mx x3 v6) fun (a7 : Int32) =>
  nmk (x4 + 1) fun a8 =>
  some (.inl (a7, a8, s5))
def m_X4_settleBounds_L46 (x1 : Int32) (x3 : Int32) (x4 : Int32) (st : Sg) : Option ((Int32 × Sg) ⊕ (Sg)) :=
  if x1 ≤ x4 then (some (.inr st)) else
  clk (m_X9_farthest x4 x1 st) fun v12 s11 =>
  sAk s11 9 8 16 x4 (x3 - v12) fun s13 =>
  nmk (x4 + 1) fun a14 =>
  some (.inl (a14, s13))
def m_X4_settleBounds (p1 : Int32) (st : Sg) : Option (Unit × Sg) :=
  nmk 0 fun (a1 : Int32) =>
  nmk 0 fun (a2 : Int32) =>
  lpk (fun s : (Int32 × Int32 × Sg) => m_X4_settleBounds_L5 p1 s.1 s.2.1 s.2.2) FU (a1, a2, st) fun r9 =>
  nmk 0 fun (a10 : Int32) =>
  lpk (fun s : (Int32 × Sg) => m_X4_settleBounds_L46 p1 r9.1 s.1 s.2) FU (a10, r9.2) fun r15 =>
  some ((), r15)
def m_X4_settlePlaces_L10 (x2 : Int32) (st : Sg) : Option ((Int32 × Sg) ⊕ (Sg)) :=
  gIk st 1 0 fun v3 =>
  if (v3 * 3) ≤ x2 then (some (.inr st)) else
  lAk st 1 6 48 x2 fun v4 =>
  nmk v4 fun (a5 : Int32) =>
  clk (m_X0_has a5 st) fun v7 s6 =>
  if v7 = 0 then (nmk (x2 + 1) fun a8 =>
  some (.inl (a8, s6))) else
  dvk 3 <|
  lAk s6 9 5 16 (x2 / 3) fun v9 =>
  gIk s6 9 1 fun v10 =>
  lAk s6 1 7 48 x2 fun v11 =>
  lAk s6 9 5 16 a5 fun v12 =>
  nmk ((v9 + (v10 * v11)) - v12) fun (a13 : Int32) =>
  lAk s6 9 9 16 a5 fun v14 =>
  gIk s6 9 1 fun v15 =>
  if 1 ≤ v15 then (gIk s6 9 1 fun v16 =>
  dvk v16 <|
  sAk s6 9 9 16 a5 (mx v14 ((a13 / v16) + 1)) fun s17 =>
  nmk (x2 + 1) fun a18 =>
  some (.inl (a18, s17))) else
  sAk s6 9 9 16 a5 (mx v14 1) fun s19 =>
  nmk (x2 + 1) fun a20 =>
  some (.inl (a20, s19))
def m_X4_settlePlaces (st : Sg) : Option (Unit × Sg) :=
  clk (m_J7_fill_53178 9 9 16 1 st) fun _ s1 =>
  nmk 0 fun (a2 : Int32) =>
  lpk (fun s : (Int32 × Sg) => m_X4_settlePlaces_L10 s.1 s.2) FU (a2, s1) fun r21 =>
  some ((), r21)
def m_X4_settleOrder_L15 (x1 : Int32) (x3 : Int32) (x2 : Int32) (x4 : Int32) (st : Sg) : Option ((Int32 × Int32 × Sg) ⊕ (Int32 × Sg)) :=
  if x1 ≤ x4 then (some (.inr (x2, st))) else
  lAk st 9 3 16 x4 fun v5 =>
  if v5 = x3 then (if 16 ≤ x2 then (nmk (x4 + 1) fun a7 =>
  some (.inl (x2, a7, st))) else
  sAk st 9 10 16 x2 x4 fun s8 =>
  nmk (x2 + 1) fun a9 =>
  nmk (x4 + 1) fun a10 =>
  some (.inl (a9, a10, s8))) else
  nmk (x4 + 1) fun a6 =>
  some (.inl (x2, a6, st))
def m_X4_settleOrder_L4 (x1 : Int32) (x2 : Int32) (x3 : Int32) (st : Sg) : Option ((Int32 × Int32 × Sg) ⊕ (Sg)) :=
  gIk st 9 1 fun v3 =>
  if v3 ≤ x3 then (some (.inr st)) else
  nmk 0 fun (a4 : Int32) =>
  lpk (fun s : (Int32 × Int32 × Sg) => m_X4_settleOrder_L15 x1 x3 s.1 s.2.1 s.2.2) FU (x2, a4, st) fun r11 =>
  nmk (x3 + 1) fun a12 =>
  some (.inl (r11.1, a12, r11.2))
def m_X4_settleOrder (p1 : Int32) (st : Sg) : Option (Unit × Sg) :=
  nmk 0 fun (a1 : Int32) =>
  nmk 0 fun (a2 : Int32) =>
  lpk (fun s : (Int32 × Int32 × Sg) => m_X4_settleOrder_L4 p1 s.1 s.2.1 s.2.2) FU (a1, a2, st) fun r13 =>
  some ((), r13)
def m_X4_settle_L32 (x4 : Int32) (st : Sg) : Option ((Int32 × Sg) ⊕ (Sg)) :=
  gIk st 1 0 fun v8 =>
  if v8 ≤ x4 then (some (.inr st)) else
  lAk st 7 9 16 x4 fun v9 =>
  sAk st 9 3 16 x4 v9 fun s10 =>
  clk (m_X8_stageOf x4 s10) fun v12 s11 =>
  sAk s11 9 4 16 x4 v12 fun s13 =>
  lAk s13 9 4 16 x4 fun v14 =>
  gIk s13 9 1 fun v15 =>
  lAk s13 9 3 16 x4 fun v16 =>
  sAk s13 9 5 16 x4 ((v14 * v15) + v16) fun s17 =>
  lAk s17 9 5 16 x4 fun v18 =>
  sAk s17 9 6 16 x4 v18 fun s19 =>
  gIk s19 9 2 fun v20 =>
  lAk s19 9 4 16 x4 fun v21 =>
  sIk s19 9 2 (mx v20 (1 + v21)) fun s22 =>
  lAk s22 9 3 16 x4 fun v23 =>
  gIk s22 9 1 fun v24 =>
  clk (m_X2_change 10 x4 v23 v24 1 s22) fun v26 s25 =>
  nmk (x4 + 1) fun a27 =>
  some (.inl (a27, s25))
def m_X4_settle (st : Sg) : Option (Unit × Sg) :=
  sIk st 9 0 1 fun s1 =>
  clk (m_X8_beat s1) fun v3 s2 =>
  sIk s2 9 1 (mx 1 v3) fun s4 =>
  sIk s4 9 2 1 fun s5 =>
  clk (m_X2_clear 10 s5) fun _ s6 =>
  nmk 0 fun (a7 : Int32) =>
  lpk (fun s : (Int32 × Sg) => m_X4_settle_L32 s.1 s.2) FU (a7, s6) fun r28 =>
  gIk r28 1 0 fun v29 =>
  clk (m_X4_settleBounds v29 r28) fun _ s30 =>
  clk (m_X4_settlePlaces s30) fun _ s31 =>
  gIk s31 1 0 fun v32 =>
  clk (m_X4_settleOrder v32 s31) fun _ s33 =>
  some ((), s33)
def m_X11_lay_L25 (x2 : Int32) (st : Sg) : Option ((Int32 × Sg) ⊕ ((Sg) ⊕ ((Sg) ⊕ (Int32 × Sg)))) :=
  if 60 < x2 then (some (.inr (.inl st))) else
  clk (m_X11_seekAt x2 st) fun v7 s6 =>
  nmk v7 fun (a8 : Int32) =>
  if a8 = 4 then (some (.inr (.inr (.inl s6)))) else
  if a8 = 0 then (some (.inr (.inr (.inr (x2, s6))))) else
  nmk (x2 + 1) fun a9 =>
  some (.inl (a9, s6))
def m_X11_lay (st : Sg) : Option (Int32 × Sg) :=
  sIk st 7 10 0 fun s1 =>
  clk (m_X11_lowestBeat s1) fun v3 s2 =>
  nmk v3 fun (a4 : Int32) =>
  if 0 ≤ a4 then (nmk a4 fun (a5 : Int32) =>
  lpk (fun s : (Int32 × Sg) => m_X11_lay_L25 s.1 s.2) FU (a5, s2) (Sum.elim (fun r10 => clk (m_X11_refuse (-9) r10) fun v12 s11 =>
  some (v12, s11)) (Sum.elim (fun r10 => clk (m_X11_refuse (-11) r10) fun v14 s13 =>
  some (v14, s13)) (fun r10 => gIk r10.2 1 0 fun v15 =>
  clk (m_X9_join v15 r10.2) fun v17 s16 =>
  clk (m_X4_settle s16) fun _ s18 =>
  some (r10.1, s18))))) else
  clk (m_X11_refuse a4 s2) fun v20 s19 =>
  some (v20, s19)
def m_X4_lastEnd_L4 (x2 : Int32) (x3 : Int32) (st : Sg) : Option ((Int32 × Int32 × Sg) ⊕ (Int32 × Sg)) :=
  gIk st 1 0 fun v3 =>
  if v3 ≤ x3 then (some (.inr (x2, st))) else
  lAk st 9 5 16 x3 fun v4 =>
  lAk st 1 2 16 x3 fun v5 =>
  nmk (mx x2 (v4 + v5)) fun (a6 : Int32) =>
  nmk (x3 + 1) fun a7 =>
  some (.inl (a6, a7, st))
def m_X4_lastEnd (st : Sg) : Option (Int32 × Sg) :=
  nmk 0 fun (a1 : Int32) =>
  nmk 0 fun (a2 : Int32) =>
  lpk (fun s : (Int32 × Int32 × Sg) => m_X4_lastEnd_L4 s.1 s.2.1 s.2.2) FU (a1, a2, st) fun r8 =>
  some (r8.1, r8.2)
def m_X11_laying (p1 : Int32) (st : Sg) : Option (Int32 × Sg) :=
  gIk st 9 0 fun v1 =>
  if v1 = 0 then (clk (m_X11_refuse (-2) st) fun v9 s8 =>
  some (v9, s8)) else
  if p1 = 0 then (gIk st 9 1 fun v2 =>
  some (v2, st)) else
  if p1 = 1 then (gIk st 9 2 fun v3 =>
  some (v3, st)) else
  if p1 = 2 then (clk (m_X4_lastEnd st) fun v5 s4 =>
  some (v5, s4)) else
  clk (m_X11_refuse (-9) st) fun v7 s6 =>
  some (v7, s6)
def m_X11_lowest (st : Sg) : Option (Int32 × Sg) :=
  clk (m_X11_lowestBeat st) fun v2 s1 =>
  nmk v2 fun (a3 : Int32) =>
  if 0 ≤ a3 then (some (a3, s1)) else
  clk (m_X11_refuse a3 s1) fun v5 s4 =>
  some (v5, s4)
def m_X11_names (p1 : Int32) (st : Sg) : Option (Int32 × Sg) :=
  gIk st 9 0 fun v1 =>
  if v1 = 0 then (clk (m_X11_refuse (-2) st) fun v8 s7 =>
  some (v8, s7)) else
  clk (m_X0_has p1 st) fun v3 s2 =>
  if v3 = 0 then (clk (m_X11_refuse (-3) s2) fun v6 s5 =>
  some (v6, s5)) else
  lAk s2 9 9 16 p1 fun v4 =>
  some (v4, s2)
def m_X11_number (p1 : Int32) (st : Sg) : Option (Int64 × Sg) :=
  clk (m_X0_has p1 st) fun v2 s1 =>
  if v2 = 0 then (clk (m_X11_refuse (-3) s1) fun v8 s7 =>
  some (0, s7)) else
  lAk s1 1 1 16 p1 fun v3 =>
  if v3 = 0 then (lLk s1 1 8 16 p1 fun v4 =>
  some (v4, s1)) else
  clk (m_X11_refuse (-5) s1) fun v6 s5 =>
  some (0, s5)
def m_X11_pick (p1 : Int32) (p2 : Int32) (p3 : Int32) (p4 : Int32) (st : Sg) : Option (Int32 × Sg) :=
  clk (m_X11_isBack p4 st) fun v2 s1 =>
  if v2 = 0 then (clk (m_X11_refuse (-9) s1) fun v25 s24 =>
  some (v25, s24)) else
  clk (m_X0_mayTake p1 0 s1) fun v4 s3 =>
  if v4 = 0 then (clk (m_X11_refuse (-3) s3) fun v6 s5 =>
  some (v6, s5)) else
  clk (m_X0_mayTake p2 0 s3) fun v8 s7 =>
  if v8 = 0 then (clk (m_X11_refuse (-3) s7) fun v10 s9 =>
  some (v10, s9)) else
  clk (m_X0_mayTake p3 p4 s7) fun v12 s11 =>
  if v12 = 0 then (clk (m_X11_refuse (-3) s11) fun v23 s22 =>
  some (v23, s22)) else
  clk (m_X0_open 6 s11) fun v14 s13 =>
  nmk v14 fun (a15 : Int32) =>
  if a15 = (-1) then (clk (m_X11_refuse (-10) s13) fun v21 s20 =>
  some (v21, s20)) else
  clk (m_X0_take a15 0 p1 0 s13) fun _ s16 =>
  clk (m_X0_take a15 1 p2 0 s16) fun _ s17 =>
  clk (m_X0_take a15 2 p3 p4 s17) fun _ s18 =>
  clk (m_X11_bodyChanged s18) fun _ s19 =>
  some (a15, s19)
def m_X11_prove (p1 : Int32) (st : Sg) : Option (Int32 × Sg) :=
  sIk st 7 10 0 fun s1 =>
  clk (m_X0_isReady s1) fun v3 s2 =>
  if v3 = 0 then (clk (m_X11_refuse (-2) s2) fun v18 s17 =>
  some (v18, s17)) else
  if 0 ≤ p1 then (if p1 = 0 then (clk (m_X11_refuse (-9) s2) fun v5 s4 =>
  some (v5, s4)) else
  if p1 ≤ 60 then (clk (m_X0_beatByUnits s2) fun v7 s6 =>
  if v7 ≤ p1 then (clk (m_X10_renew s6) fun _ s8 =>
  clk (m_X11_hasRingAt p1 s8) fun v10 s9 =>
  if v10 = 0 then (clk (m_X11_seekAt p1 s9) fun v12 s11 =>
  some (v12, s11)) else
  some (2, s9)) else
  some (1, s6)) else
  clk (m_X11_refuse (-9) s2) fun v14 s13 =>
  some (v14, s13)) else
  clk (m_X11_refuse (-4) s2) fun v16 s15 =>
  some (v16, s15)
def m_X11_put (p1 : Int64) (st : Sg) : Option (Int32 × Sg) :=
  clk (m_X0_open 0 st) fun v2 s1 =>
  nmk v2 fun (a3 : Int32) =>
  if a3 = (-1) then (clk (m_X11_refuse (-10) s1) fun v7 s6 =>
  some (v7, s6)) else
  sLk s1 1 8 16 a3 p1 fun s4 =>
  clk (m_X11_bodyChanged s4) fun _ s5 =>
  some (a3, s5)
def m_X11_reckon (p1 : Int32) (p2 : Int32) (p3 : Int32) (p4 : Int32) (p5 : Int32) (st : Sg) : Option (Int32 × Sg) :=
  if p1 < 1 then (clk (m_X11_refuse (-9) st) fun v2 s1 =>
  some (v2, s1)) else
  if 3 < p1 then (clk (m_X11_refuse (-9) st) fun v4 s3 =>
  some (v4, s3)) else
  clk (m_X11_isBack p3 st) fun v6 s5 =>
  if v6 = 0 then (clk (m_X11_refuse (-9) s5) fun v8 s7 =>
  some (v8, s7)) else
  clk (m_X11_isBack p5 s5) fun v10 s9 =>
  if v10 = 0 then (clk (m_X11_refuse (-9) s9) fun v28 s27 =>
  some (v28, s27)) else
  clk (m_X0_mayTake p2 p3 s9) fun v12 s11 =>
  if v12 = 0 then (clk (m_X11_refuse (-3) s11) fun v14 s13 =>
  some (v14, s13)) else
  clk (m_X0_mayTake p4 p5 s11) fun v16 s15 =>
  if v16 = 0 then (clk (m_X11_refuse (-3) s15) fun v26 s25 =>
  some (v26, s25)) else
  clk (m_X0_open p1 s15) fun v18 s17 =>
  nmk v18 fun (a19 : Int32) =>
  if a19 = (-1) then (clk (m_X11_refuse (-10) s17) fun v24 s23 =>
  some (v24, s23)) else
  clk (m_X0_take a19 0 p2 p3 s17) fun _ s20 =>
  clk (m_X0_take a19 1 p4 p5 s20) fun _ s21 =>
  clk (m_X11_bodyChanged s21) fun _ s22 =>
  some (a19, s22)
def m_X6_make_L17 (x1 : Int32) (x4 : Int32) (st : Sg) : Option ((Int32 × Sg) ⊕ (Sg)) :=
  if 40 ≤ x4 then (some (.inr st)) else
  clk (m_X6_placeOf x1 x4 st) fun v5 s4 =>
  sLk s4 5 2 320 v5 0 fun s6 =>
  nmk (x4 + 1) fun a7 =>
  some (.inl (a7, s6))
def m_X6_make (p1 : Int32) (p2 : Int32) (p3 : Int32) (st : Sg) : Option (Unit × Sg) :=
  sAk st 5 0 8 p1 p2 fun s1 =>
  sZk s1 5 1 8 p1 p3 fun s2 =>
  nmk 0 fun (a3 : Int32) =>
  lpk (fun s : (Int32 × Sg) => m_X6_make_L17 p1 s.1 s.2) FU (a3, s2) fun r8 =>
  some ((), r8)
def m_X11_row (p1 : Int32) (p2 : Int32) (p3 : Int32) (st : Sg) : Option (Int32 × Sg) :=
  clk (m_X11_isSlot p1 st) fun v2 s1 =>
  if v2 = 0 then (clk (m_X11_refuse (-3) s1) fun v11 s10 =>
  some (v11, s10)) else
  if 0 ≤ p2 then (if p2 = 0 then (clk (m_X11_refuse (-9) s1) fun v4 s3 =>
  some (v4, s3)) else
  if p2 ≤ 40 then (clk (m_X6_make p1 p2 p3 s1) fun _ s5 =>
  some (1, s5)) else
  clk (m_X11_refuse (-9) s1) fun v7 s6 =>
  some (v7, s6)) else
  clk (m_X11_refuse (-4) s1) fun v9 s8 =>
  some (v9, s8)
def m_X11_run (p1 : Int32) (p2 : Int32) (st : Sg) : Option (Int32 × Sg) :=
  clk (m_X11_refusalOfRun p1 p2 st) fun v2 s1 =>
  nmk v2 fun (a3 : Int32) =>
  if a3 = 0 then (clk (m_X7_go 16 p1 p2 s1) fun _ s4 =>
  gIk s4 16 6 fun v5 =>
  some (v5, s4)) else
  clk (m_X11_refuse a3 s1) fun v7 s6 =>
  some (v7, s6)
def m_X11_set (p1 : Int32) (p2 : Int32) (p3 : Int64) (st : Sg) : Option (Int32 × Sg) :=
  clk (m_X6_refusalAt p1 ((p2 : Int32).toInt64) st) fun v2 s1 =>
  nmk v2 fun (a3 : Int32) =>
  if a3 = 0 then (clk (m_X6_placeOf p1 p2 s1) fun v5 s4 =>
  sLk s4 5 2 320 v5 p3 fun s6 =>
  some (1, s6)) else
  clk (m_X11_refuse a3 s1) fun v8 s7 =>
  some (v8, s7)
def m_X11_status (p1 : Int32) (st : Sg) : Option (Int32 × Sg) :=
  if p1 < (-11) then (clk (m_X11_refuse (-9) st) fun v2 s1 =>
  some (v2, s1)) else
  if p1 ≤ (-2) then (lAk st 0 10 12 (-p1) fun v3 =>
  some (v3, st)) else
  clk (m_X11_refuse (-9) st) fun v5 s4 =>
  some (v5, s4)
def m_X11_store (p1 : Int32) (p2 : Int32) (p3 : Int32) (p4 : Int32) (p5 : Int32) (st : Sg) : Option (Int32 × Sg) :=
  clk (m_X11_isBack p3 st) fun v2 s1 =>
  if v2 = 0 then (clk (m_X11_refuse (-9) s1) fun v4 s3 =>
  some (v4, s3)) else
  clk (m_X11_isBack p5 s1) fun v6 s5 =>
  if v6 = 0 then (clk (m_X11_refuse (-9) s5) fun v29 s28 =>
  some (v29, s28)) else
  clk (m_X11_isSlot p1 s5) fun v8 s7 =>
  if v8 = 0 then (clk (m_X11_refuse (-3) s7) fun v10 s9 =>
  some (v10, s9)) else
  clk (m_X0_mayTake p2 p3 s7) fun v12 s11 =>
  if v12 = 0 then (clk (m_X11_refuse (-3) s11) fun v14 s13 =>
  some (v14, s13)) else
  clk (m_X0_mayTake p4 p5 s11) fun v16 s15 =>
  if v16 = 0 then (clk (m_X11_refuse (-3) s15) fun v27 s26 =>
  some (v27, s26)) else
  clk (m_X0_open 5 s15) fun v18 s17 =>
  nmk v18 fun (a19 : Int32) =>
  if a19 = (-1) then (clk (m_X11_refuse (-10) s17) fun v25 s24 =>
  some (v25, s24)) else
  sAk s17 1 5 16 a19 p1 fun s20 =>
  clk (m_X0_take a19 0 p2 p3 s20) fun _ s21 =>
  clk (m_X0_take a19 1 p4 p5 s21) fun _ s22 =>
  clk (m_X11_bodyChanged s22) fun _ s23 =>
  some (a19, s23)
def m_X11_tick (p1 : Int32) (p2 : Int32) (st : Sg) : Option (Int32 × Sg) :=
  gIk st 9 0 fun v1 =>
  if v1 = 0 then (clk (m_X11_refuse (-2) st) fun v14 s13 =>
  some (v14, s13)) else
  clk (m_X0_has p1 st) fun v3 s2 =>
  if v3 = 0 then (clk (m_X11_refuse (-3) s2) fun v12 s11 =>
  some (v12, s11)) else
  if p2 = 0 then (lAk s2 9 3 16 p1 fun v4 =>
  some (v4, s2)) else
  if p2 = 1 then (lAk s2 9 4 16 p1 fun v5 =>
  some (v5, s2)) else
  if p2 = 2 then (lAk s2 9 5 16 p1 fun v6 =>
  some (v6, s2)) else
  if p2 = 3 then (lAk s2 9 7 16 p1 fun v7 =>
  some (v7, s2)) else
  if p2 = 4 then (lAk s2 9 8 16 p1 fun v8 =>
  some (v8, s2)) else
  clk (m_X11_refuse (-9) s2) fun v10 s9 =>
  some (v10, s9)
def m_X11_told (p1 : Int32) (st : Sg) : Option (Int32 × Sg) :=
  if p1 = 0 then (gIk st 16 0 fun v1 =>
  some (v1, st)) else
  if p1 = 1 then (gIk st 16 1 fun v2 =>
  some (v2, st)) else
  if p1 = 2 then (gIk st 16 2 fun v3 =>
  some (v3, st)) else
  if p1 = 3 then (gIk st 16 3 fun v4 =>
  some (v4, st)) else
  if p1 = 4 then (gIk st 16 4 fun v5 =>
  some (v5, st)) else
  if p1 = 5 then (gIk st 16 5 fun v6 =>
  if v6 = 0 then (some (0, st)) else
  some (1, st)) else
  clk (m_X11_refuse (-9) st) fun v8 s7 =>
  some (v8, s7)
def m_X11_trials (st : Sg) : Option (Int32 × Sg) :=
  gIk st 7 10 fun v1 =>
  some (v1, st)
def m_X1_dropAct_L4 (j : Nat) (x1 : Int32) (x2 : Int32) (x3 : Int32) (st : Sg) : Option ((Int32 × Int32 × Sg) ⊕ (Int32 × Sg)) :=
  gIk st j 0 fun v3 =>
  if v3 ≤ x3 then (some (.inr (x2, st))) else
  lAk st j 1 (lnE j) x3 fun v4 =>
  if v4 = x1 then (nmk (x3 + 1) fun a5 =>
  some (.inl (x2, a5, st))) else
  lAk st j 2 (lnE j) x3 fun v6 =>
  if v6 = x1 then (nmk (x3 + 1) fun a7 =>
  some (.inl (x2, a7, st))) else
  lAk st j 1 (lnE j) x3 fun v8 =>
  lAk st j 2 (lnE j) x3 fun v9 =>
  lAk st j 3 (lnE j) x3 fun v10 =>
  lAk st j 4 (lnE j) x3 fun v11 =>
  clk (m_X1_write j x2 v8 v9 v10 v11 st) fun _ s12 =>
  nmk (x2 + 1) fun a13 =>
  nmk (x3 + 1) fun a14 =>
  some (.inl (a13, a14, s12))
def m_X1_dropAct (j : Nat) (p1 : Int32) (st : Sg) : Option (Unit × Sg) :=
  nmk 0 fun (a1 : Int32) =>
  nmk 0 fun (a2 : Int32) =>
  lpk (fun s : (Int32 × Int32 × Sg) => m_X1_dropAct_L4 j p1 s.1 s.2.1 s.2.2) FU (a1, a2, st) fun r15 =>
  sIk r15.2 j 0 r15.1 fun s16 =>
  some ((), s16)
def m_X11_undo (st : Sg) : Option (Int32 × Sg) :=
  gIk st 1 0 fun v1 =>
  nmk (v1 - 1) fun (a2 : Int32) =>
  if 0 ≤ a2 then (clk (m_X0_isTakenByAnother a2 st) fun v4 s3 =>
  if v4 = 0 then (sIk s3 1 0 a2 fun s5 =>
  clk (m_X1_dropAct 2 a2 s5) fun _ s6 =>
  clk (m_X11_bodyChanged s6) fun _ s7 =>
  some (a2, s7)) else
  clk (m_X11_refuse (-9) s3) fun v9 s8 =>
  some (v9, s8)) else
  clk (m_X11_refuse (-2) st) fun v11 s10 =>
  some (v11, s10)
def m_X11_unit (p1 : Int32) (p2 : Int32) (st : Sg) : Option (Int32 × Sg) :=
  clk (m_X11_isKind p1 st) fun v2 s1 =>
  if v2 = 0 then (clk (m_X11_refuse (-3) s1) fun v12 s11 =>
  some (v12, s11)) else
  if 0 ≤ p2 then (if p2 ≤ 4 then (lAk s1 1 10 6 p1 fun v3 =>
  nmk v3 fun (a4 : Int32) =>
  sAk s1 1 10 6 p1 p2 fun s5 =>
  clk (m_X11_bodyChanged s5) fun _ s6 =>
  some (a4, s6)) else
  clk (m_X11_refuse (-9) s1) fun v8 s7 =>
  some (v8, s7)) else
  clk (m_X11_refuse (-4) s1) fun v10 s9 =>
  some (v10, s9)
def m_X11_whole (st : Sg) : Option (Int32 × Sg) :=
  clk (m_X0_isWhole st) fun v2 s1 =>
  if v2 = 0 then (some (0, s1)) else
  some (1, s1)
def m_X11_works (p1 : Int32) (p2 : Int32) (p3 : Int32) (p4 : Int32) (st : Sg) : Option (Int32 × Sg) :=
  clk (m_X0_has p1 st) fun v2 s1 =>
  if v2 = 0 then (clk (m_X11_refuse (-3) s1) fun v4 s3 =>
  some (v4, s3)) else
  clk (m_X11_isKind p3 s1) fun v6 s5 =>
  if v6 = 0 then (clk (m_X11_refuse (-3) s5) fun v20 s19 =>
  some (v20, s19)) else
  if p2 < 1 then (clk (m_X11_refuse (-9) s5) fun v8 s7 =>
  some (v8, s7)) else
  if 12 < p2 then (clk (m_X11_refuse (-9) s5) fun v10 s9 =>
  some (v10, s9)) else
  if p4 < 1 then (clk (m_X11_refuse (-9) s5) fun v12 s11 =>
  some (v12, s11)) else
  if p4 ≤ 255 then (sAk s5 1 2 16 p1 p2 fun s13 =>
  sAk s13 1 3 16 p1 p3 fun s14 =>
  sAk s14 1 4 16 p1 p4 fun s15 =>
  clk (m_X11_bodyChanged s15) fun _ s16 =>
  some (1, s16)) else
  clk (m_X11_refuse (-9) s5) fun v18 s17 =>
  some (v18, s17)
def m_X11_wrong (p1 : Int32) (st : Sg) : Option (Int32 × Sg) :=
  if p1 < 0 then (clk (m_X11_refuse (-9) st) fun v2 s1 =>
  some (v2, s1)) else
  if p1 < 6 then (lAk st 11 0 6 p1 fun v3 =>
  some (v3, st)) else
  clk (m_X11_refuse (-9) st) fun v5 s4 =>
  some (v5, s4)
def m_X12_isAct (p1 : Int32) (st : Sg) : Option (Int32 × Sg) :=
  if p1 < 0 then (some (0, st)) else
  gIk st 0 9 fun v1 =>
  if v1 ≤ p1 then (some (0, st)) else
  some (1, st)
def m_X12_no (p1 : Int32) (st : Sg) : Option (Int32 × Sg) :=
  lAk st 0 25 12 (-p1) fun v1 =>
  sAk st 0 25 12 (-p1) (v1 + 1) fun s2 =>
  sIk s2 0 26 p1 fun s3 =>
  some (p1, s3)
def m_X12_isIn (p0 : Int64) (p2 : Int64) (p4 : Int64) (st : Sg) : Option (Int32 × Sg) :=
  if (lg_cmp p0 p2) < 0 then (some (0, st)) else
  if 0 < (lg_cmp p0 p4) then (some (0, st)) else
  some (1, st)
def m_X12_act (p1 : Int32) (p2 : Int32) (st : Sg) : Option (Int32 × Sg) :=
  clk (m_X12_isAct p1 st) fun v2 s1 =>
  if v2 = 0 then (clk (m_X12_no (-3) s1) fun v16 s15 =>
  some (v16, s15)) else
  clk (m_X12_isIn ((p2 : Int32).toInt64) 0 10 s1) fun v4 s3 =>
  if v4 = 0 then (clk (m_X12_no (-9) s3) fun v14 s13 =>
  some (v14, s13)) else
  if p2 = 0 then (lAk s3 0 0 16 p1 fun v5 =>
  some (v5, s3)) else
  if p2 = 1 then (lAk s3 0 1 16 p1 fun v6 =>
  some (v6, s3)) else
  if p2 = 2 then (lAk s3 0 2 16 p1 fun v7 =>
  some (v7, s3)) else
  if p2 = 3 then (lAk s3 0 3 16 p1 fun v8 =>
  some (v8, s3)) else
  if p2 = 4 then (lAk s3 0 4 16 p1 fun v9 =>
  some (v9, s3)) else
  dvk 2 <|
  nmk ((3 * p1) + ((p2 - 5) / 2)) fun (a10 : Int32) =>
  dvk 2 <|
  if (p2 - p2 / 2 * 2) = 1 then (lAk s3 0 5 48 a10 fun v12 =>
  some (v12, s3)) else
  lAk s3 0 6 48 a10 fun v11 =>
  some (v11, s3)
def m_X12_operand (p1 : Int32) (p2 : Int32) (p3 : Int32) (p4 : Int32) (st : Sg) : Option (Unit × Sg) :=
  sAk st 0 5 48 ((3 * p1) + p2) p3 fun s1 =>
  sAk s1 0 6 48 ((3 * p1) + p2) p4 fun s2 =>
  some ((), s2)
def m_X12_forget (st : Sg) : Option (Unit × Sg) :=
  sIk st 0 38 0 fun s1 =>
  sIk s1 0 39 (-1) fun s2 =>
  sIk s2 0 40 (-1) fun s3 =>
  sIk s3 0 41 0 fun s4 =>
  sIk s4 0 42 0 fun s5 =>
  sIk s5 0 43 0 fun s6 =>
  sIk s6 0 44 0 fun s7 =>
  some ((), s7)
def m_X12_changes (st : Sg) : Option (Unit × Sg) :=
  sIk st 0 27 0 fun s1 =>
  clk (m_X12_forget s1) fun _ s2 =>
  some ((), s2)
def m_X12_adds (p1 : Int32) (p2 : Int32) (p3 : Int32) (p4 : Int32) (p5 : Int32) (p6 : Int32) (st : Sg) : Option (Int32 × Sg) :=
  gIk st 0 9 fun v1 =>
  if v1 = 16 then (clk (m_X12_no (-10) st) fun v18 s17 =>
  some (v18, s17)) else
  gIk st 0 9 fun v2 =>
  nmk v2 fun (a3 : Int32) =>
  gIk st 0 9 fun v4 =>
  sIk st 0 9 (v4 + 1) fun s5 =>
  sAk s5 0 0 16 a3 p1 fun s6 =>
  sAk s6 0 1 16 a3 1 fun s7 =>
  sAk s7 0 2 16 a3 0 fun s8 =>
  sAk s8 0 3 16 a3 1 fun s9 =>
  sAk s9 0 4 16 a3 p2 fun s10 =>
  sLk s10 0 7 16 a3 0 fun s11 =>
  sLk s11 0 8 16 a3 0 fun s12 =>
  clk (m_X12_operand a3 0 p3 p4 s12) fun _ s13 =>
  clk (m_X12_operand a3 1 p5 p6 s13) fun _ s14 =>
  clk (m_X12_operand a3 2 (-1) (-1) s14) fun _ s15 =>
  clk (m_X12_changes s15) fun _ s16 =>
  some (a3, s16)
def m_X12_again (st : Sg) : Option (Int32 × Sg) :=
  gIk st 0 26 fun v1 =>
  if v1 = 0 then (some ((-7), st)) else
  gIk st 0 26 fun v2 =>
  nmk v2 fun (a3 : Int32) =>
  sIk st 0 26 0 fun s4 =>
  some (a3, s4)
def m_X12_areTurns (p0 : Int32) (st : Sg) : Option (Int32 × Sg) :=
  clk (m_X12_isIn ((p0 : Int32).toInt64) 0 4 st) fun v2 s1 =>
  bok v2 (some (v2, s1))
def m_X12_bits_L4 (x0 : Int32) (x1 : Int32) (x2 : Int32) (st : Sg) : Option ((Int32 × Int32 × Sg) ⊕ (Int32 × Sg)) :=
  if 8 ≤ x2 then (some (.inr (x1, st))) else
  nmk (x1 + ((x0 >>> (x2 &&& 31)) &&& 1)) fun (a3 : Int32) =>
  nmk (x2 + 1) fun a4 =>
  some (.inl (a3, a4, st))
def m_X12_bits (p0 : Int32) (st : Sg) : Option (Int32 × Sg) :=
  nmk 0 fun (a1 : Int32) =>
  nmk 0 fun (a2 : Int32) =>
  lpk (fun s : (Int32 × Int32 × Sg) => m_X12_bits_L4 p0 s.1 s.2.1 s.2.2) FU (a1, a2, st) fun r5 =>
  some (r5.1, r5.2)
def m_X12_rests_L2 (x1 : Int32) (x2 : Int32) (st : Sg) : Option ((Int32 × Sg) ⊕ (Sg)) :=
  gIk st 0 9 fun v2 =>
  if v2 ≤ x2 then (some (.inr st)) else
  sAk st 0 33 16 x2 0 fun s3 =>
  nmk (x2 + 1) fun a4 =>
  some (.inl (a4, s3))
def m_X12_rests_L38 (x1 : Int32) (x2 : Int32) (x3 : Int32) (x4 : Int32) (st : Sg) : Option ((Int32 × Int32 × Sg) ⊕ (Int32 × Sg)) :=
  gIk st 0 20 fun v10 =>
  if v10 ≤ x4 then (some (.inr (x3, st))) else
  lAk st 0 16 704 x4 fun v11 =>
  lAk st 0 33 16 v11 fun v12 =>
  lAk st 0 18 704 x4 fun v13 =>
  lAk st 0 19 704 x4 fun v14 =>
  nmk ((v12 + v13) - (x1 * v14)) fun (a15 : Int32) =>
  lAk st 0 17 704 x4 fun v16 =>
  lAk st 0 33 16 v16 fun v17 =>
  if v17 < a15 then (lAk st 0 17 704 x4 fun v18 =>
  sAk st 0 33 16 v18 a15 fun s19 =>
  nmk 1 fun (a20 : Int32) =>
  nmk (x4 + 1) fun a21 =>
  some (.inl (a20, a21, s19))) else
  nmk (x4 + 1) fun a22 =>
  some (.inl (x3, a22, st))
def m_X12_rests_L25 (x1 : Int32) (x2 : Int32) (st : Sg) : Option ((Int32 × Sg) ⊕ ((Sg) ⊕ (Sg))) :=
  gIk st 0 9 fun v7 =>
  if v7 < x2 then (some (.inr (.inl st))) else
  nmk 0 fun (a8 : Int32) =>
  nmk 0 fun (a9 : Int32) =>
  lpk (fun s : (Int32 × Int32 × Sg) => m_X12_rests_L38 x1 x2 s.1 s.2.1 s.2.2) FU (a8, a9, st) fun r23 =>
  if r23.1 = 0 then (some (.inr (.inr r23.2))) else
  nmk (x2 + 1) fun a24 =>
  some (.inl (a24, r23.2))
def m_X12_rests (p1 : Int32) (st : Sg) : Option (Int32 × Sg) :=
  nmk 0 fun (a1 : Int32) =>
  lpk (fun s : (Int32 × Sg) => m_X12_rests_L2 p1 s.1 s.2) FU (a1, st) fun r5 =>
  nmk 0 fun (a6 : Int32) =>
  lpk (fun s : (Int32 × Sg) => m_X12_rests_L25 p1 s.1 s.2) FU (a6, r5) (Sum.elim (fun r25 => some (0, r25)) (fun r25 => some (1, r25)))
def m_X12_byRings_L2 (x1 : Int32) (st : Sg) : Option ((Int32 × Sg) ⊕ ((Sg) ⊕ (Int32 × Sg))) :=
  if 60 < x1 then (some (.inr (.inl st))) else
  clk (m_X12_rests x1 st) fun v3 s2 =>
  if v3 = 0 then (nmk (x1 + 1) fun a4 =>
  some (.inl (a4, s2))) else
  some (.inr (.inr (x1, s2)))
def m_X12_byRings (st : Sg) : Option (Int32 × Sg) :=
  nmk 1 fun (a1 : Int32) =>
  lpk (fun s : (Int32 × Sg) => m_X12_byRings_L2 s.1 s.2) FU (a1, st) (Sum.elim (fun r5 => some (100000, r5)) (fun r5 => some (r5.1, r5.2)))
def m_X12_byUnits_L15 (x1 : Int32) (x2 : Int32) (x3 : Int32) (x4 : Int32) (st : Sg) : Option ((Int32 × Int32 × Sg) ⊕ (Int32 × Sg)) :=
  gIk st 0 9 fun v5 =>
  if v5 ≤ x4 then (some (.inr (x3, st))) else
  lAk st 0 2 16 x4 fun v6 =>
  if v6 = x2 then (lAk st 0 3 16 x4 fun v9 =>
  clk (m_X12_bits v9 st) fun v11 s10 =>
  nmk (x3 + v11) fun (a12 : Int32) =>
  nmk (x4 + 1) fun a13 =>
  some (.inl (a12, a13, s10))) else
  nmk (x3 + 0) fun (a7 : Int32) =>
  nmk (x4 + 1) fun a8 =>
  some (.inl (a7, a8, st))
def m_X12_byUnits_97 (x1 : Int32) (x2 : Int32) (t0 : Int32) (st : Sg) : Option ((Int32 × Int32 × Sg) ⊕ (Int32 × Sg)) :=
  nmk t0 fun (a18 : Int32) =>
  if a18 ≤ x1 then (nmk (x2 + 1) fun a19 =>
  some (.inl (x1, a19, st))) else
  nmk a18 fun (a20 : Int32) =>
  nmk (x2 + 1) fun a21 =>
  some (.inl (a20, a21, st))
def m_X12_byUnits_L4 (x1 : Int32) (x2 : Int32) (st : Sg) : Option ((Int32 × Int32 × Sg) ⊕ (Int32 × Sg)) :=
  if 6 ≤ x2 then (some (.inr (x1, st))) else
  nmk 0 fun (a3 : Int32) =>
  nmk 0 fun (a4 : Int32) =>
  lpk (fun s : (Int32 × Int32 × Sg) => m_X12_byUnits_L15 x1 x2 s.1 s.2.1 s.2.2) FU (a3, a4, st) fun r14 =>
  if r14.1 = 0 then (m_X12_byUnits_97 x1 x2 1 r14.2) else
  lAk r14.2 0 10 6 x2 fun v15 =>
  if v15 = 0 then (m_X12_byUnits_97 x1 x2 100000 r14.2) else
  lAk r14.2 0 10 6 x2 fun v16 =>
  lAk r14.2 0 10 6 x2 fun v17 =>
  dvk v17 <|
  m_X12_byUnits_97 x1 x2 (((r14.1 + v16) - 1) / v17) r14.2
def m_X12_byUnits (st : Sg) : Option (Int32 × Sg) :=
  nmk 1 fun (a1 : Int32) =>
  nmk 0 fun (a2 : Int32) =>
  lpk (fun s : (Int32 × Int32 × Sg) => m_X12_byUnits_L4 s.1 s.2.1 s.2.2) FU (a1, a2, st) fun r22 =>
  some (r22.1, r22.2)
def m_X12_unwrong_L2 (x1 : Int32) (st : Sg) : Option ((Int32 × Sg) ⊕ (Sg)) :=
  if 6 ≤ x1 then (some (.inr st)) else
  sAk st 0 36 6 x1 (-1) fun s2 =>
  nmk (x1 + 1) fun a3 =>
  some (.inl (a3, s2))
def m_X12_unwrong (st : Sg) : Option (Unit × Sg) :=
  nmk 0 fun (a1 : Int32) =>
  lpk (fun s : (Int32 × Sg) => m_X12_unwrong_L2 s.1 s.2) FU (a1, st) fun r4 =>
  some ((), r4)
def m_X12_enter (p1 : Int32) (p2 : Int32) (p3 : Int32) (p4 : Int32) (st : Sg) : Option (Unit × Sg) :=
  gIk st 0 20 fun v1 =>
  sAk st 0 16 704 v1 p1 fun s2 =>
  gIk s2 0 20 fun v3 =>
  sAk s2 0 17 704 v3 p2 fun s4 =>
  gIk s4 0 20 fun v5 =>
  sAk s4 0 18 704 v5 p3 fun s6 =>
  gIk s6 0 20 fun v7 =>
  sAk s6 0 19 704 v7 p4 fun s8 =>
  gIk s8 0 20 fun v9 =>
  sIk s8 0 20 (v9 + 1) fun s10 =>
  some ((), s10)
def m_X12_isOfRow (p1 : Int32) (st : Sg) : Option (Int32 × Sg) :=
  lAk st 0 0 16 p1 fun v1 =>
  if v1 = 4 then (some (1, st)) else
  lAk st 0 0 16 p1 fun v2 =>
  if v2 = 5 then (some (1, st)) else
  some (0, st)
def m_X12_gatherTwo_146 (x1 : Int32) (x2 : Int32) (x4 : Int32) (st : Sg) : Option (Unit × Sg) :=
  if x4 = 0 then (some ((), st)) else
  clk (m_X12_enter x1 x2 1 1 st) fun _ s4 =>
  some ((), s4)
def m_X12_gatherTwo_126 (x1 : Int32) (x2 : Int32) (t0 : Int32) (st : Sg) : Option (Unit × Sg) :=
  nmk t0 fun (a3 : Int32) =>
  if a3 = 0 then (m_X12_gatherTwo_146 x1 x2 a3 st) else
  if x2 ≤ x1 then (m_X12_gatherTwo_146 x1 x2 a3 st) else
  clk (m_X12_enter x1 x2 1 0 st) fun _ s5 =>
  m_X12_gatherTwo_146 x1 x2 a3 s5
def m_X12_gatherTwo_125 (x1 : Int32) (x2 : Int32) (st : Sg) : Option (Unit × Sg) :=
  m_X12_gatherTwo_126 x1 x2 0 st
def m_X12_gatherTwo_86 (x1 : Int32) (x2 : Int32) (st : Sg) : Option (Unit × Sg) :=
  lAk st 0 0 16 x2 fun v2 =>
  if v2 = 5 then (if x1 = x2 then (m_X12_gatherTwo_125 x1 x2 st) else
  lAk st 0 0 16 x1 fun v6 =>
  if v6 < 3 then (m_X12_gatherTwo_125 x1 x2 st) else
  lAk st 0 0 16 x1 fun v7 =>
  if 5 < v7 then (m_X12_gatherTwo_125 x1 x2 st) else
  m_X12_gatherTwo_126 x1 x2 1 st) else
  m_X12_gatherTwo_125 x1 x2 st
def m_X12_gatherTwo_74 (x1 : Int32) (x2 : Int32) (x3 : Int32) (st : Sg) : Option (Unit × Sg) :=
  if x3 = 0 then (m_X12_gatherTwo_86 x1 x2 st) else
  clk (m_X12_enter x2 x1 1 1 st) fun _ s8 =>
  m_X12_gatherTwo_86 x1 x2 s8
def m_X12_gatherTwo_61 (x1 : Int32) (x2 : Int32) (t0 : Int32) (st : Sg) : Option (Unit × Sg) :=
  nmk t0 fun (a1 : Int32) =>
  if a1 = 0 then (m_X12_gatherTwo_74 x1 x2 a1 st) else
  clk (m_X12_enter x1 x2 1 0 st) fun _ s9 =>
  m_X12_gatherTwo_74 x1 x2 a1 s9
def m_X12_gatherTwo_60 (x1 : Int32) (x2 : Int32) (st : Sg) : Option (Unit × Sg) :=
  m_X12_gatherTwo_61 x1 x2 0 st
def m_X12_gatherTwo_56 (x1 : Int32) (x2 : Int32) (st : Sg) : Option (Unit × Sg) :=
  m_X12_gatherTwo_61 x1 x2 1 st
def m_X12_gatherTwo (p1 : Int32) (p2 : Int32) (st : Sg) : Option (Unit × Sg) :=
  if p2 ≤ p1 then (m_X12_gatherTwo_60 p1 p2 st) else
  clk (m_X12_isOfRow p1 st) fun v11 s10 =>
  if v11 = 0 then (m_X12_gatherTwo_60 p1 p2 s10) else
  clk (m_X12_isOfRow p2 s10) fun v13 s12 =>
  if v13 = 0 then (m_X12_gatherTwo_60 p1 p2 s12) else
  lAk s12 0 4 16 p1 fun v14 =>
  lAk s12 0 4 16 p2 fun v15 =>
  if v14 = v15 then (lAk s12 0 0 16 p1 fun v16 =>
  if v16 = 5 then (m_X12_gatherTwo_56 p1 p2 s12) else
  lAk s12 0 0 16 p2 fun v17 =>
  if v17 = 5 then (m_X12_gatherTwo_56 p1 p2 s12) else
  m_X12_gatherTwo_60 p1 p2 s12) else
  m_X12_gatherTwo_60 p1 p2 s12
def m_X12_gather_L19 (x1 : Int32) (x2 : Int32) (st : Sg) : Option ((Int32 × Sg) ⊕ (Sg)) :=
  if ((3 * x1) + 3) ≤ x2 then (some (.inr st)) else
  lAk st 0 5 48 x2 fun v5 =>
  if v5 < 0 then (nmk (x2 + 1) fun a6 =>
  some (.inl (a6, st))) else
  lAk st 0 5 48 x2 fun v7 =>
  gIk st 0 9 fun v8 =>
  if v8 ≤ v7 then (nmk (x2 + 1) fun a9 =>
  some (.inl (a9, st))) else
  lAk st 0 5 48 x2 fun v10 =>
  lAk st 0 5 48 x2 fun v11 =>
  lAk st 0 1 16 v11 fun v12 =>
  lAk st 0 6 48 x2 fun v13 =>
  clk (m_X12_enter v10 x1 v12 v13 st) fun _ s14 =>
  nmk (x2 + 1) fun a15 =>
  some (.inl (a15, s14))
def m_X12_gather_L104 (x1 : Int32) (x2 : Int32) (st : Sg) : Option ((Int32 × Sg) ⊕ (Sg)) :=
  gIk st 0 9 fun v19 =>
  if v19 ≤ x2 then (some (.inr st)) else
  clk (m_X12_gatherTwo x2 x1 st) fun _ s20 =>
  nmk (x2 + 1) fun a21 =>
  some (.inl (a21, s20))
def m_X12_gather_L7 (x1 : Int32) (st : Sg) : Option ((Int32 × Sg) ⊕ (Sg)) :=
  gIk st 0 9 fun v3 =>
  if v3 ≤ x1 then (some (.inr st)) else
  nmk (3 * x1) fun (a4 : Int32) =>
  lpk (fun s : (Int32 × Sg) => m_X12_gather_L19 x1 s.1 s.2) FU (a4, st) fun r16 =>
  lAk r16 0 0 16 x1 fun v17 =>
  if v17 = 5 then (clk (m_X12_enter x1 x1 1 1 r16) fun _ s24 =>
  nmk 0 fun (a25 : Int32) =>
  lpk (fun s : (Int32 × Sg) => m_X12_gather_L104 x1 s.1 s.2) FU (a25, s24) fun r26 =>
  nmk (x1 + 1) fun a27 =>
  some (.inl (a27, r26))) else
  nmk 0 fun (a18 : Int32) =>
  lpk (fun s : (Int32 × Sg) => m_X12_gather_L104 x1 s.1 s.2) FU (a18, r16) fun r22 =>
  nmk (x1 + 1) fun a23 =>
  some (.inl (a23, r22))
def m_X12_gather_L132 (x1 : Int32) (st : Sg) : Option ((Int32 × Sg) ⊕ (Sg)) :=
  gIk st 0 15 fun v30 =>
  if v30 ≤ x1 then (some (.inr st)) else
  lAk st 0 11 40 x1 fun v31 =>
  lAk st 0 12 40 x1 fun v32 =>
  lAk st 0 13 40 x1 fun v33 =>
  lAk st 0 14 40 x1 fun v34 =>
  clk (m_X12_enter v31 v32 v33 v34 st) fun _ s35 =>
  nmk (x1 + 1) fun a36 =>
  some (.inl (a36, s35))
def m_X12_gather (st : Sg) : Option (Unit × Sg) :=
  sIk st 0 20 0 fun s1 =>
  nmk 0 fun (a2 : Int32) =>
  lpk (fun s : (Int32 × Sg) => m_X12_gather_L7 s.1 s.2) FU (a2, s1) fun r28 =>
  nmk 0 fun (a29 : Int32) =>
  lpk (fun s : (Int32 × Sg) => m_X12_gather_L132 s.1 s.2) FU (a29, r28) fun r37 =>
  some ((), r37)
def m_X12_isAhead_24 (x1 : Int32) (st : Sg) : Option (Int32 × Sg) :=
  lAk st 0 36 6 1 fun v2 =>
  if v2 < 0 then (some (1, st)) else
  lAk st 0 17 704 x1 fun v3 =>
  lAk st 0 36 6 1 fun v4 =>
  if v4 ≤ v3 then (some (0, st)) else
  some (1, st)
def m_X12_isAhead (p1 : Int32) (st : Sg) : Option (Int32 × Sg) :=
  lAk st 0 36 6 1 fun v1 =>
  if v1 < 0 then (m_X12_isAhead_24 p1 st) else
  lAk st 0 17 704 p1 fun v5 =>
  lAk st 0 36 6 1 fun v6 =>
  if v5 = v6 then (lAk st 0 16 704 p1 fun v7 =>
  lAk st 0 36 6 0 fun v8 =>
  if v7 = v8 then (lAk st 0 18 704 p1 fun v9 =>
  lAk st 0 36 6 2 fun v10 =>
  if v9 = v10 then (lAk st 0 19 704 p1 fun v11 =>
  lAk st 0 36 6 3 fun v12 =>
  if v12 ≤ v11 then (some (0, st)) else
  some (1, st)) else
  lAk st 0 18 704 p1 fun v13 =>
  lAk st 0 36 6 2 fun v14 =>
  if v14 ≤ v13 then (some (0, st)) else
  some (1, st)) else
  lAk st 0 16 704 p1 fun v15 =>
  lAk st 0 36 6 0 fun v16 =>
  if v16 ≤ v15 then (some (0, st)) else
  some (1, st)) else
  m_X12_isAhead_24 p1 st
def m_X12_filledAs_L17 (x1 : Int32) (x2 : Int32) (x4 : Int32) (x3 : Int32) (x5 : Int32) (st : Sg) : Option ((Int32 × Int32 × Sg) ⊕ (Int32 × Sg)) :=
  if 8 ≤ x5 then (some (.inr (x3, st))) else
  lAk st 0 2 16 x4 fun v5 =>
  if v5 = x1 then (lAk st 0 31 16 x4 fun v6 =>
  gIk st 0 27 fun v7 =>
  dvk v7 <|
  if ((v6 + x5) - (v6 + x5) / v7 * v7) = x2 then (lAk st 0 3 16 x4 fun v10 =>
  nmk (x3 + ((v10 >>> (x5 &&& 31)) &&& 1)) fun (a11 : Int32) =>
  nmk (x5 + 1) fun a12 =>
  some (.inl (a11, a12, st))) else
  nmk (x3 + 0) fun (a8 : Int32) =>
  nmk (x5 + 1) fun a9 =>
  some (.inl (a8, a9, st))) else
  some (.inr (x3, st))
def m_X12_filledAs_L5 (x1 : Int32) (x2 : Int32) (x3 : Int32) (x4 : Int32) (st : Sg) : Option ((Int32 × Int32 × Sg) ⊕ (Int32 × Sg)) :=
  gIk st 0 9 fun v3 =>
  if v3 ≤ x4 then (some (.inr (x3, st))) else
  nmk 0 fun (a4 : Int32) =>
  lpk (fun s : (Int32 × Int32 × Sg) => m_X12_filledAs_L17 x1 x2 x4 s.1 s.2.1 s.2.2) FU (x3, a4, st) fun r13 =>
  nmk (x4 + 1) fun a14 =>
  some (.inl (r13.1, a14, r13.2))
def m_X12_filledAs (p1 : Int32) (p2 : Int32) (st : Sg) : Option (Int32 × Sg) :=
  nmk 0 fun (a1 : Int32) =>
  nmk 0 fun (a2 : Int32) =>
  lpk (fun s : (Int32 × Int32 × Sg) => m_X12_filledAs_L5 p1 p2 s.1 s.2.1 s.2.2) FU (a1, a2, st) fun r15 =>
  some (r15.1, r15.2)
def m_X12_check_81 (x1 : Int32) (t0 : Int32) (st : Sg) : Option ((Int32 × Sg) ⊕ (Sg)) :=
  nmk t0 fun (a13 : Int32) =>
  if a13 = 0 then (clk (m_X12_isAhead x1 st) fun v16 s15 =>
  if v16 = 0 then (nmk (x1 + 1) fun a26 =>
  some (.inl (a26, s15))) else
  lAk s15 0 16 704 x1 fun v17 =>
  sAk s15 0 36 6 0 v17 fun s18 =>
  lAk s18 0 17 704 x1 fun v19 =>
  sAk s18 0 36 6 1 v19 fun s20 =>
  lAk s20 0 18 704 x1 fun v21 =>
  sAk s20 0 36 6 2 v21 fun s22 =>
  lAk s22 0 19 704 x1 fun v23 =>
  sAk s22 0 36 6 3 v23 fun s24 =>
  nmk (x1 + 1) fun a25 =>
  some (.inl (a25, s24))) else
  nmk (x1 + 1) fun a14 =>
  some (.inl (a14, st))
def m_X12_check_L24 (x1 : Int32) (st : Sg) : Option ((Int32 × Sg) ⊕ (Sg)) :=
  gIk st 0 20 fun v5 =>
  if v5 ≤ x1 then (some (.inr st)) else
  lAk st 0 17 704 x1 fun v6 =>
  lAk st 0 31 16 v6 fun v7 =>
  gIk st 0 27 fun v8 =>
  lAk st 0 19 704 x1 fun v9 =>
  lAk st 0 16 704 x1 fun v10 =>
  lAk st 0 31 16 v10 fun v11 =>
  lAk st 0 18 704 x1 fun v12 =>
  if (v7 + (v8 * v9)) < (v11 + v12) then (m_X12_check_81 x1 0 st) else
  m_X12_check_81 x1 1 st
def m_X12_check_L172 (x1 : Int32) (x2 : Int32) (st : Sg) : Option ((Int32 × Sg) ⊕ ((Sg) ⊕ (Int32 × Sg))) :=
  gIk st 0 27 fun v31 =>
  if v31 ≤ x2 then (some (.inr (.inl st))) else
  clk (m_X12_filledAs x1 x2 st) fun v33 s32 =>
  lAk s32 0 10 6 x1 fun v34 =>
  if v34 < v33 then (some (.inr (.inr (x2, s32)))) else
  nmk (x2 + 1) fun a35 =>
  some (.inl (a35, s32))
def m_X12_check_L164 (x1 : Int32) (st : Sg) : Option ((Int32 × Sg) ⊕ ((Sg) ⊕ (Int32 × Int32 × Sg))) :=
  if 6 ≤ x1 then (some (.inr (.inl st))) else
  nmk 0 fun (a30 : Int32) =>
  lpk (fun s : (Int32 × Sg) => m_X12_check_L172 x1 s.1 s.2) FU (a30, st) (Sum.elim (fun r36 => nmk (x1 + 1) fun a37 =>
  some (.inl (a37, r36))) (fun r36 => some (.inr (.inr (x1, r36.1, r36.2)))))
def m_X12_check (st : Sg) : Option (Int32 × Sg) :=
  gIk st 0 27 fun v1 =>
  if v1 = 0 then (clk (m_X12_no (-2) st) fun v42 s41 =>
  some (v42, s41)) else
  clk (m_X12_unwrong st) fun _ s2 =>
  clk (m_X12_gather s2) fun _ s3 =>
  nmk 0 fun (a4 : Int32) =>
  lpk (fun s : (Int32 × Sg) => m_X12_check_L24 s.1 s.2) FU (a4, s3) fun r27 =>
  lAk r27 0 36 6 1 fun v28 =>
  if v28 < 0 then (nmk 0 fun (a29 : Int32) =>
  lpk (fun s : (Int32 × Sg) => m_X12_check_L164 s.1 s.2) FU (a29, r27) (Sum.elim (fun r38 => some (0, r38)) (fun r38 => sAk r38.2.2 0 36 6 4 r38.1 fun s39 =>
  sAk s39 0 36 6 5 r38.2.1 fun s40 =>
  some (2, s40)))) else
  some (1, r27)
def m_X12_whole_L2 (x1 : Int32) (st : Sg) : Option ((Int32 × Sg) ⊕ ((Sg) ⊕ (Sg))) :=
  gIk st 0 9 fun v2 =>
  if (3 * v2) ≤ x1 then (some (.inr (.inl st))) else
  lAk st 0 5 48 x1 fun v3 =>
  gIk st 0 9 fun v4 =>
  if v3 < v4 then (nmk (x1 + 1) fun a5 =>
  some (.inl (a5, st))) else
  some (.inr (.inr st))
def m_X12_whole (st : Sg) : Option (Int32 × Sg) :=
  nmk 0 fun (a1 : Int32) =>
  lpk (fun s : (Int32 × Sg) => m_X12_whole_L2 s.1 s.2) FU (a1, st) (Sum.elim (fun r6 => some (1, r6)) (fun r6 => some (0, r6)))
def m_X12_isReady (st : Sg) : Option (Int32 × Sg) :=
  gIk st 0 9 fun v1 =>
  if v1 ≤ 0 then (some (0, st)) else
  clk (m_X12_whole st) fun v3 s2 =>
  if v3 = 1 then (some (1, s2)) else
  some (0, s2)
def m_X12_whyNoRun_21 (x1 : Int32) (st : Sg) : Option (Int32 × Sg) :=
  if 0 ≤ x1 then (if x1 ≤ 200 then (some (0, st)) else
  some ((-9), st)) else
  some ((-4), st)
def m_X12_whyNoRun (p1 : Int32) (p2 : Int32) (st : Sg) : Option (Int32 × Sg) :=
  clk (m_X12_isReady st) fun v2 s1 =>
  if v2 = 0 then (some ((-2), s1)) else
  if p2 = 0 then (m_X12_whyNoRun_21 p1 s1) else
  gIk s1 0 27 fun v3 =>
  if v3 = 0 then (some ((-2), s1)) else
  m_X12_whyNoRun_21 p1 s1
def m_X12_compare (p1 : Int32) (st : Sg) : Option (Int32 × Sg) :=
  clk (m_X12_whyNoRun p1 1 st) fun v2 s1 =>
  nmk v2 fun (a3 : Int32) =>
  if a3 = 0 then (some (1, s1)) else
  clk (m_X12_no a3 s1) fun v5 s4 =>
  some (v5, s4)
def m_X12_isSlot (p0 : Int32) (st : Sg) : Option (Int32 × Sg) :=
  if p0 < 0 then (some (0, st)) else
  if 8 ≤ p0 then (some (0, st)) else
  some (1, st)
def m_X12_copy_L137 (x1 : Int32) (x2 : Int32) (x3 : Int32) (x4 : Int32) (x5 : Int32) (x6 : Int32) (st : Sg) : Option ((Int32 × Sg) ⊕ (Sg)) :=
  if 320 ≤ x6 then (some (.inr st)) else
  lLk st 0 21 320 x6 fun v24 =>
  sLk st 0 22 320 x6 v24 fun s25 =>
  nmk (x6 + 1) fun a26 =>
  some (.inl (a26, s25))
def m_X12_copy_L168 (x1 : Int32) (x2 : Int32) (x3 : Int32) (x4 : Int32) (x5 : Int32) (x6 : Int32) (st : Sg) : Option ((Int32 × Sg) ⊕ (Sg)) :=
  if x5 ≤ x6 then (some (.inr st)) else
  lLk st 0 22 320 (((40 * x1) + x2) + x6) fun v29 =>
  sLk st 0 21 320 (((40 * x3) + x4) + x6) v29 fun s30 =>
  nmk (x6 + 1) fun a31 =>
  some (.inl (a31, s30))
def m_X12_copy (p1 : Int32) (p2 : Int32) (p3 : Int32) (p4 : Int32) (p5 : Int32) (st : Sg) : Option (Int32 × Sg) :=
  clk (m_X12_isSlot p1 st) fun v2 s1 =>
  if v2 = 0 then (clk (m_X12_no (-3) s1) fun v4 s3 =>
  some (v4, s3)) else
  clk (m_X12_isSlot p3 s1) fun v6 s5 =>
  if v6 = 0 then (clk (m_X12_no (-3) s5) fun v42 s41 =>
  some (v42, s41)) else
  lAk s5 0 23 8 p1 fun v7 =>
  if v7 = 0 then (clk (m_X12_no (-2) s5) fun v9 s8 =>
  some (v9, s8)) else
  lAk s5 0 23 8 p3 fun v10 =>
  if v10 = 0 then (clk (m_X12_no (-2) s5) fun v40 s39 =>
  some (v40, s39)) else
  lAk s5 0 24 8 p1 fun v11 =>
  if v11 = 0 then (clk (m_X12_no (-5) s5) fun v13 s12 =>
  some (v13, s12)) else
  lAk s5 0 24 8 p3 fun v14 =>
  if v14 = 0 then (clk (m_X12_no (-5) s5) fun v38 s37 =>
  some (v38, s37)) else
  if 0 ≤ p5 then (if p2 < 0 then (clk (m_X12_no (-6) s5) fun v16 s15 =>
  some (v16, s15)) else
  if p4 < 0 then (clk (m_X12_no (-6) s5) fun v18 s17 =>
  some (v18, s17)) else
  lAk s5 0 23 8 p1 fun v19 =>
  if 0 < (lg_cmp (((p2 : Int32).toInt64) + ((p5 : Int32).toInt64)) ((v19 : Int32).toInt64)) then (clk (m_X12_no (-6) s5) fun v21 s20 =>
  some (v21, s20)) else
  lAk s5 0 23 8 p3 fun v22 =>
  if (lg_cmp (((p4 : Int32).toInt64) + ((p5 : Int32).toInt64)) ((v22 : Int32).toInt64)) ≤ 0 then (nmk 0 fun (a23 : Int32) =>
  lpk (fun s : (Int32 × Sg) => m_X12_copy_L137 p1 p2 p3 p4 p5 s.1 s.2) FU (a23, s5) fun r27 =>
  nmk 0 fun (a28 : Int32) =>
  lpk (fun s : (Int32 × Sg) => m_X12_copy_L168 p1 p2 p3 p4 p5 s.1 s.2) FU (a28, r27) fun r32 =>
  some (p5, r32)) else
  clk (m_X12_no (-6) s5) fun v34 s33 =>
  some (v34, s33)) else
  clk (m_X12_no (-4) s5) fun v36 s35 =>
  some (v36, s35)
def m_X12_count_L61 (x1 : Int32) (x2 : Int32) (x3 : Int32) (st : Sg) : Option ((Int32 × Int32 × Sg) ⊕ (Int32 × Sg)) :=
  gIk st 0 9 fun v6 =>
  if v6 ≤ x3 then (some (.inr (x2, st))) else
  lAk st 0 0 16 x3 fun v7 =>
  if v7 = 5 then (nmk (x2 + 1) fun (a10 : Int32) =>
  nmk (x3 + 1) fun a11 =>
  some (.inl (a10, a11, st))) else
  nmk (x2 + 0) fun (a8 : Int32) =>
  nmk (x3 + 1) fun a9 =>
  some (.inl (a8, a9, st))
def m_X12_count (p1 : Int32) (st : Sg) : Option (Int32 × Sg) :=
  clk (m_X12_isIn ((p1 : Int32).toInt64) 0 4 st) fun v2 s1 =>
  if v2 = 0 then (clk (m_X12_no (-9) s1) fun v24 s23 =>
  some (v24, s23)) else
  if p1 = 0 then (gIk s1 0 9 fun v22 =>
  some (v22, s1)) else
  if p1 = 1 then (gIk s1 0 15 fun v21 =>
  some (v21, s1)) else
  clk (m_X12_gather s1) fun _ s3 =>
  if p1 = 2 then (gIk s3 0 20 fun v19 =>
  gIk s3 0 15 fun v20 =>
  some ((v19 - v20), s3)) else
  nmk 0 fun (a4 : Int32) =>
  nmk 0 fun (a5 : Int32) =>
  lpk (fun s : (Int32 × Int32 × Sg) => m_X12_count_L61 p1 s.1 s.2.1 s.2.2) FU (a4, a5, s3) fun r12 =>
  if p1 = 3 then (some (r12.1, r12.2)) else
  lAk r12.2 0 10 6 0 fun v13 =>
  lAk r12.2 0 10 6 1 fun v14 =>
  lAk r12.2 0 10 6 2 fun v15 =>
  lAk r12.2 0 10 6 3 fun v16 =>
  lAk r12.2 0 10 6 4 fun v17 =>
  lAk r12.2 0 10 6 5 fun v18 =>
  some ((((((v13 + v14) + v15) + v16) + v17) + v18), r12.2)
def m_X12_cut (p0 : Int32) (p1 : Int32) (st : Sg) : Option (Int32 × Sg) :=
  if p0 < 0 then (dvk p1 <|
  some ((-(((p1 - 1) - p0) / p1)), st)) else
  dvk p1 <|
  some ((p0 / p1), st)
def m_X12_value (p1 : Int32) (p2 : Int32) (p3 : Int32) (st : Sg) : Option (Int64 × Sg) :=
  lAk st 0 5 48 ((3 * p1) + p2) fun v1 =>
  nmk v1 fun (a2 : Int32) =>
  lAk st 0 6 48 ((3 * p1) + p2) fun v3 =>
  nmk (p3 - v3) fun (a4 : Int32) =>
  if 0 ≤ a4 then (lLk st 0 37 3216 ((16 * a4) + a2) fun v5 =>
  some (v5, st)) else
  lLk st 0 7 16 a2 fun v6 =>
  some (v6, st)
def m_X12_why (p1 : Int32) (p2 : Int64) (st : Sg) : Option (Int32 × Sg) :=
  lAk st 0 23 8 p1 fun v1 =>
  if v1 = 0 then (some ((-2), st)) else
  lAk st 0 24 8 p1 fun v2 =>
  if v2 = 0 then (some ((-5), st)) else
  lAk st 0 23 8 p1 fun v3 =>
  clk (m_X12_isIn p2 0 (((v3 - 1) : Int32).toInt64) st) fun v5 s4 =>
  if v5 = 0 then (some ((-3), s4)) else
  some (0, s4)
def m_X12_does_228 (x1 : Int32) (x2 : Int32) (x7 : Int64) (st : Sg) : Option (Int32 × Sg) :=
  sLk st 0 37 3216 ((16 * x2) + x1) x7 fun s18 =>
  some (0, s18)
def m_X12_does_157 (x1 : Int32) (x2 : Int32) (x3 : Int64) (x5 : Int64) (x7 : Int64) (st : Sg) : Option (Int32 × Sg) :=
  clk (m_X12_isOfRow x1 st) fun v17 s16 =>
  if v17 = 0 then (m_X12_does_228 x1 x2 x7 s16) else
  lAk s16 0 4 16 x1 fun v19 =>
  clk (m_X12_why v19 x3 s16) fun v21 s20 =>
  nmk v21 fun (a22 : Int32) =>
  if a22 = 0 then (lAk s20 0 4 16 x1 fun v23 =>
  nmk ((40 * v23) + ((x3 : Int64).toInt32)) fun (a24 : Int32) =>
  lLk s20 0 21 320 a24 fun v25 =>
  nmk v25 fun (a26 : Int64) =>
  lAk s20 0 0 16 x1 fun v27 =>
  if v27 = 5 then (sLk s20 0 21 320 a24 x5 fun s28 =>
  m_X12_does_228 x1 x2 a26 s28) else
  m_X12_does_228 x1 x2 a26 s20) else
  some (a22, s20)
def m_X12_does_141 (x1 : Int32) (x2 : Int32) (x3 : Int64) (x5 : Int64) (x7 : Int64) (st : Sg) : Option (Int32 × Sg) :=
  lAk st 0 0 16 x1 fun v15 =>
  if v15 = 3 then (dlk x5 <|
  nmk (x3 / x5) fun (a29 : Int64) =>
  m_X12_does_157 x1 x2 x3 x5 a29 st) else
  m_X12_does_157 x1 x2 x3 x5 x7 st
def m_X12_does_121 (x1 : Int32) (x2 : Int32) (x3 : Int64) (x5 : Int64) (x7 : Int64) (st : Sg) : Option (Int32 × Sg) :=
  lAk st 0 0 16 x1 fun v14 =>
  if v14 = 3 then (if (lg_cmp x5 0) = 0 then (some ((-8), st)) else
  m_X12_does_141 x1 x2 x3 x5 x7 st) else
  m_X12_does_141 x1 x2 x3 x5 x7 st
def m_X12_does_119 (x1 : Int32) (x2 : Int32) (x3 : Int64) (x5 : Int64) (t0 : Int64) (st : Sg) : Option (Int32 × Sg) :=
  nmk t0 fun (a32 : Int64) =>
  m_X12_does_121 x1 x2 x3 x5 a32 st
def m_X12_does_90 (x1 : Int32) (x2 : Int32) (x3 : Int64) (x5 : Int64) (x7 : Int64) (st : Sg) : Option (Int32 × Sg) :=
  lAk st 0 0 16 x1 fun v13 =>
  if v13 = 6 then (if (lg_cmp x3 0) = 0 then (clk (m_X12_value x1 2 x2 st) fun v31 s30 =>
  m_X12_does_119 x1 x2 x3 x5 v31 s30) else
  m_X12_does_119 x1 x2 x3 x5 x5 st) else
  m_X12_does_121 x1 x2 x3 x5 x7 st
def m_X12_does_74 (x1 : Int32) (x2 : Int32) (x3 : Int64) (x5 : Int64) (x7 : Int64) (st : Sg) : Option (Int32 × Sg) :=
  lAk st 0 0 16 x1 fun v12 =>
  if v12 = 2 then (nmk (x3 * x5) fun (a33 : Int64) =>
  m_X12_does_90 x1 x2 x3 x5 a33 st) else
  m_X12_does_90 x1 x2 x3 x5 x7 st
def m_X12_does_50 (x1 : Int32) (x2 : Int32) (x3 : Int64) (t0 : Int64) (st : Sg) : Option (Int32 × Sg) :=
  nmk t0 fun (a8 : Int64) =>
  nmk x3 fun (a9 : Int64) =>
  nmk 0 fun (a10 : Int32) =>
  lAk st 0 0 16 x1 fun v11 =>
  if v11 = 1 then (nmk (x3 + a8) fun (a34 : Int64) =>
  m_X12_does_74 x1 x2 x3 a8 a34 st) else
  m_X12_does_74 x1 x2 x3 a8 a9 st
def m_X12_does_25 (x1 : Int32) (x2 : Int32) (t0 : Int64) (st : Sg) : Option (Int32 × Sg) :=
  nmk t0 fun (a4 : Int64) =>
  lAk st 0 5 48 ((3 * x1) + 1) fun v5 =>
  if 0 ≤ v5 then (clk (m_X12_value x1 1 x2 st) fun v7 s6 =>
  m_X12_does_50 x1 x2 a4 v7 s6) else
  m_X12_does_50 x1 x2 a4 0 st
def m_X12_does (p1 : Int32) (p2 : Int32) (st : Sg) : Option (Int32 × Sg) :=
  lAk st 0 0 16 p1 fun v1 =>
  if v1 = 0 then (lLk st 0 8 16 p1 fun v35 =>
  m_X12_does_25 p1 p2 v35 st) else
  clk (m_X12_value p1 0 p2 st) fun v3 s2 =>
  m_X12_does_25 p1 p2 v3 s2
def m_X12_edge (p1 : Int32) (p2 : Int32) (p3 : Int32) (p4 : Int32) (st : Sg) : Option (Int32 × Sg) :=
  clk (m_X12_isAct p1 st) fun v2 s1 =>
  if v2 = 0 then (clk (m_X12_no (-3) s1) fun v4 s3 =>
  some (v4, s3)) else
  clk (m_X12_isAct p2 s1) fun v6 s5 =>
  if v6 = 0 then (clk (m_X12_no (-3) s5) fun v31 s30 =>
  some (v31, s30)) else
  clk (m_X12_isIn ((p3 : Int32).toInt64) (-50) 50 s5) fun v8 s7 =>
  if v8 = 0 then (clk (m_X12_no (-9) s7) fun v10 s9 =>
  some (v10, s9)) else
  clk (m_X12_areTurns p4 s7) fun v12 s11 =>
  if v12 = 0 then (clk (m_X12_no (-9) s11) fun v29 s28 =>
  some (v29, s28)) else
  gIk s11 0 15 fun v13 =>
  if v13 = 40 then (clk (m_X12_no (-10) s11) fun v27 s26 =>
  some (v27, s26)) else
  gIk s11 0 15 fun v14 =>
  sAk s11 0 11 40 v14 p1 fun s15 =>
  gIk s15 0 15 fun v16 =>
  sAk s15 0 12 40 v16 p2 fun s17 =>
  gIk s17 0 15 fun v18 =>
  sAk s17 0 13 40 v18 p3 fun s19 =>
  gIk s19 0 15 fun v20 =>
  sAk s19 0 14 40 v20 p4 fun s21 =>
  gIk s21 0 15 fun v22 =>
  sIk s21 0 15 (v22 + 1) fun s23 =>
  clk (m_X12_changes s23) fun _ s24 =>
  gIk s24 0 15 fun v25 =>
  some (v25, s24)
def m_X12_empty_28 (x1 : Int32) (t0 : Int32) (st : Sg) : Option (Int32 × Sg) :=
  nmk t0 fun (a4 : Int32) =>
  sAk st 0 23 8 x1 0 fun s5 =>
  some (a4, s5)
def m_X12_empty (p1 : Int32) (st : Sg) : Option (Int32 × Sg) :=
  clk (m_X12_isSlot p1 st) fun v2 s1 =>
  if v2 = 0 then (clk (m_X12_no (-3) s1) fun v7 s6 =>
  some (v7, s6)) else
  lAk s1 0 23 8 p1 fun v3 =>
  if v3 ≤ 0 then (m_X12_empty_28 p1 0 s1) else
  m_X12_empty_28 p1 1 s1
def m_X12_end (p1 : Int32) (st : Sg) : Option (Int64 × Sg) :=
  clk (m_X12_isAct p1 st) fun v2 s1 =>
  if v2 = 0 then (clk (m_X12_no (-3) s1) fun v4 s3 =>
  nmk v4 fun (a5 : Int32) =>
  some (0, s3)) else
  gIk s1 0 44 fun v6 =>
  if v6 = 0 then (lLk s1 0 7 16 p1 fun v9 =>
  some (v9, s1)) else
  gIk s1 0 44 fun v7 =>
  lLk s1 0 37 3216 ((16 * (v7 - 1)) + p1) fun v8 =>
  some (v8, s1)
def m_X12_isBeyond (p1 : Int32) (p2 : Int32) (st : Sg) : Option (Int32 × Sg) :=
  clk (m_X12_isIn ((p1 : Int32).toInt64) 0 15 st) fun v2 s1 =>
  if v2 = 0 then (some (1, s1)) else
  if p2 = 0 then (gIk s1 0 9 fun v3 =>
  if p1 < v3 then (some (0, s1)) else
  some (1, s1)) else
  some (0, s1)
def m_X12_fetch (p1 : Int32) (p2 : Int32) (p3 : Int32) (st : Sg) : Option (Int32 × Sg) :=
  clk (m_X12_areTurns p3 st) fun v2 s1 =>
  if v2 = 0 then (clk (m_X12_no (-9) s1) fun v14 s13 =>
  some (v14, s13)) else
  clk (m_X12_isIn ((p1 : Int32).toInt64) 0 7 s1) fun v4 s3 =>
  if v4 = 0 then (clk (m_X12_no (-3) s3) fun v6 s5 =>
  some (v6, s5)) else
  clk (m_X12_isBeyond p2 p3 s3) fun v8 s7 =>
  if v8 = 0 then (clk (m_X12_adds 4 p1 p2 p3 (-1) (-1) s7) fun v10 s9 =>
  some (v10, s9)) else
  clk (m_X12_no (-3) s7) fun v12 s11 =>
  some (v12, s11)
def m_X12_placesOf_L4 (x1 : Int32) (x2 : Int32) (x3 : Int32) (st : Sg) : Option ((Int32 × Int32 × Sg) ⊕ (Int32 × Sg)) :=
  gIk st 0 9 fun v3 =>
  if (3 * v3) ≤ x3 then (some (.inr (x2, st))) else
  lAk st 0 5 48 x3 fun v4 =>
  if v4 = x1 then (dvk 3 <|
  lAk st 0 30 16 (x3 / 3) fun v5 =>
  gIk st 0 27 fun v6 =>
  lAk st 0 6 48 x3 fun v7 =>
  lAk st 0 30 16 x1 fun v8 =>
  nmk ((v5 + (v6 * v7)) - v8) fun (a9 : Int32) =>
  if a9 ≤ x2 then (nmk (x3 + 1) fun a10 =>
  some (.inl (x2, a10, st))) else
  nmk a9 fun (a11 : Int32) =>
  nmk (x3 + 1) fun a12 =>
  some (.inl (a11, a12, st))) else
  nmk (x3 + 1) fun a13 =>
  some (.inl (x2, a13, st))
def m_X12_placesOf (p1 : Int32) (st : Sg) : Option (Int32 × Sg) :=
  nmk 0 fun (a1 : Int32) =>
  nmk 0 fun (a2 : Int32) =>
  lpk (fun s : (Int32 × Int32 × Sg) => m_X12_placesOf_L4 p1 s.1 s.2.1 s.2.2) FU (a1, a2, st) fun r14 =>
  gIk r14.2 0 27 fun v15 =>
  dvk v15 <|
  some (((r14.1 / v15) + 1), r14.2)
def m_X12_fewest_L38 (x1 : Int32) (x2 : Int32) (x3 : Int32) (x4 : Int32) (st : Sg) : Option ((Int32 × Int32 × Int32 × Sg) ⊕ (Int32 × Int32 × Sg)) :=
  gIk st 0 9 fun v7 =>
  if v7 ≤ x4 then (some (.inr (x2, x3, st))) else
  clk (m_X12_placesOf x4 st) fun v9 s8 =>
  nmk v9 fun (a10 : Int32) =>
  nmk (x2 + a10) fun (a11 : Int32) =>
  if a10 ≤ x3 then (nmk (x4 + 1) fun a12 =>
  some (.inl (a11, x3, a12, s8))) else
  nmk a10 fun (a13 : Int32) =>
  nmk (x4 + 1) fun a14 =>
  some (.inl (a11, a13, a14, s8))
def m_X12_fewest (p1 : Int32) (st : Sg) : Option (Int32 × Sg) :=
  gIk st 0 27 fun v1 =>
  if v1 = 0 then (clk (m_X12_no (-2) st) fun v20 s19 =>
  some (v20, s19)) else
  clk (m_X12_isIn ((p1 : Int32).toInt64) 0 1 st) fun v3 s2 =>
  if v3 = 0 then (clk (m_X12_no (-9) s2) fun v18 s17 =>
  some (v18, s17)) else
  nmk 0 fun (a4 : Int32) =>
  nmk 0 fun (a5 : Int32) =>
  nmk 0 fun (a6 : Int32) =>
  lpk (fun s : (Int32 × Int32 × Int32 × Sg) => m_X12_fewest_L38 p1 s.1 s.2.1 s.2.2.1 s.2.2.2) FU (a4, a5, a6, s2) fun r15 =>
  if p1 = 0 then (some (r15.1, r15.2.2)) else
  gIk r15.2.2 0 9 fun v16 =>
  some ((v16 * r15.2.1), r15.2.2)
def m_X12_filled_L62 (x1 : Int32) (x2 : Int32) (x4 : Int32) (x3 : Int32) (x5 : Int32) (st : Sg) : Option ((Int32 × Int32 × Sg) ⊕ (Int32 × Sg)) :=
  if 8 ≤ x5 then (some (.inr (x3, st))) else
  lAk st 0 2 16 x4 fun v13 =>
  if v13 = x1 then (lAk st 0 28 16 x4 fun v14 =>
  gIk st 0 27 fun v15 =>
  dvk v15 <|
  if ((v14 + x5) - (v14 + x5) / v15 * v15) = x2 then (lAk st 0 3 16 x4 fun v18 =>
  nmk (x3 + ((v18 >>> (x5 &&& 31)) &&& 1)) fun (a19 : Int32) =>
  nmk (x5 + 1) fun a20 =>
  some (.inl (a19, a20, st))) else
  nmk (x3 + 0) fun (a16 : Int32) =>
  nmk (x5 + 1) fun a17 =>
  some (.inl (a16, a17, st))) else
  some (.inr (x3, st))
def m_X12_filled_L50 (x1 : Int32) (x2 : Int32) (x3 : Int32) (x4 : Int32) (st : Sg) : Option ((Int32 × Int32 × Sg) ⊕ (Int32 × Sg)) :=
  gIk st 0 9 fun v11 =>
  if v11 ≤ x4 then (some (.inr (x3, st))) else
  nmk 0 fun (a12 : Int32) =>
  lpk (fun s : (Int32 × Int32 × Sg) => m_X12_filled_L62 x1 x2 x4 s.1 s.2.1 s.2.2) FU (x3, a12, st) fun r21 =>
  nmk (x4 + 1) fun a22 =>
  some (.inl (r21.1, a22, r21.2))
def m_X12_filled (p1 : Int32) (p2 : Int32) (st : Sg) : Option (Int32 × Sg) :=
  gIk st 0 27 fun v1 =>
  if v1 = 0 then (clk (m_X12_no (-2) st) fun v27 s26 =>
  some (v27, s26)) else
  clk (m_X12_isIn ((p1 : Int32).toInt64) 0 5 st) fun v3 s2 =>
  if v3 = 0 then (clk (m_X12_no (-3) s2) fun v5 s4 =>
  some (v5, s4)) else
  if p2 < 0 then (clk (m_X12_no (-3) s2) fun v7 s6 =>
  some (v7, s6)) else
  gIk s2 0 27 fun v8 =>
  if p2 < v8 then (nmk 0 fun (a9 : Int32) =>
  nmk 0 fun (a10 : Int32) =>
  lpk (fun s : (Int32 × Int32 × Sg) => m_X12_filled_L50 p1 p2 s.1 s.2.1 s.2.2) FU (a9, a10, s2) fun r23 =>
  some (r23.1, r23.2)) else
  clk (m_X12_no (-3) s2) fun v25 s24 =>
  some (v25, s24)
def m_X12_first (p1 : Int32) (p2 : Int64) (st : Sg) : Option (Int32 × Sg) :=
  clk (m_X12_isAct p1 st) fun v2 s1 =>
  if v2 = 0 then (clk (m_X12_no (-3) s1) fun v5 s4 =>
  some (v5, s4)) else
  sLk s1 0 7 16 p1 p2 fun s3 =>
  some (1, s3)
def m_X12_fits_L11 (x1 : Int32) (x2 : Int32) (x3 : Int32) (x4 : Int32) (st : Sg) : Option ((Int32 × Sg) ⊕ (Sg)) :=
  if x2 ≤ x4 then (some (.inr st)) else
  sAk st 0 35 60 x4 0 fun s3 =>
  nmk (x4 + 1) fun a4 =>
  some (.inl (a4, s3))
def m_X12_fits_L43 (x1 : Int32) (x2 : Int32) (x3 : Int32) (x4 : Int32) (x5 : Int32) (st : Sg) : Option ((Int32 × Sg) ⊕ (Sg)) :=
  if 8 ≤ x5 then (some (.inr st)) else
  lAk st 0 2 16 x4 fun v8 =>
  if v8 = x3 then (lAk st 0 34 16 x4 fun v9 =>
  dvk x2 <|
  lAk st 0 35 60 ((v9 + x5) - (v9 + x5) / x2 * x2) fun v10 =>
  lAk st 0 3 16 x4 fun v11 =>
  sAk st 0 35 60 ((v9 + x5) - (v9 + x5) / x2 * x2) (v10 + ((v11 >>> (x5 &&& 31)) &&& 1)) fun s12 =>
  nmk (x5 + 1) fun a13 =>
  some (.inl (a13, s12))) else
  some (.inr st)
def m_X12_fits_L34 (x1 : Int32) (x2 : Int32) (x3 : Int32) (x4 : Int32) (st : Sg) : Option ((Int32 × Sg) ⊕ (Sg)) :=
  if x1 ≤ x4 then (some (.inr st)) else
  nmk 0 fun (a7 : Int32) =>
  lpk (fun s : (Int32 × Sg) => m_X12_fits_L43 x1 x2 x3 x4 s.1 s.2) FU (a7, st) fun r14 =>
  nmk (x4 + 1) fun a15 =>
  some (.inl (a15, r14))
def m_X12_fits_L108 (x1 : Int32) (x2 : Int32) (x3 : Int32) (x4 : Int32) (st : Sg) : Option ((Int32 × Sg) ⊕ ((Sg) ⊕ (Sg))) :=
  if x2 ≤ x4 then (some (.inr (.inl st))) else
  lAk st 0 35 60 x4 fun v18 =>
  lAk st 0 10 6 x3 fun v19 =>
  if v18 ≤ v19 then (nmk (x4 + 1) fun a20 =>
  some (.inl (a20, st))) else
  some (.inr (.inr st))
def m_X12_fits_L2 (x1 : Int32) (x2 : Int32) (x3 : Int32) (st : Sg) : Option ((Int32 × Sg) ⊕ ((Sg) ⊕ (Sg))) :=
  if 6 ≤ x3 then (some (.inr (.inl st))) else
  nmk 0 fun (a2 : Int32) =>
  lpk (fun s : (Int32 × Sg) => m_X12_fits_L11 x1 x2 x3 s.1 s.2) FU (a2, st) fun r5 =>
  nmk 0 fun (a6 : Int32) =>
  lpk (fun s : (Int32 × Sg) => m_X12_fits_L34 x1 x2 x3 s.1 s.2) FU (a6, r5) fun r16 =>
  nmk 0 fun (a17 : Int32) =>
  lpk (fun s : (Int32 × Sg) => m_X12_fits_L108 x1 x2 x3 s.1 s.2) FU (a17, r16) (Sum.elim (fun r21 => nmk (x3 + 1) fun a22 =>
  some (.inl (a22, r21))) (fun r21 => some (.inr (.inr r21))))
def m_X12_fits (p1 : Int32) (p2 : Int32) (st : Sg) : Option (Int32 × Sg) :=
  nmk 0 fun (a1 : Int32) =>
  lpk (fun s : (Int32 × Sg) => m_X12_fits_L2 p1 p2 s.1 s.2) FU (a1, st) (Sum.elim (fun r23 => some (1, r23)) (fun r23 => some (0, r23)))
def m_X12_forge (p1 : Int32) (p2 : Int32) (st : Sg) : Option (Int32 × Sg) :=
  gIk st 0 27 fun v1 =>
  if v1 = 0 then (clk (m_X12_no (-2) st) fun v14 s13 =>
  some (v14, s13)) else
  clk (m_X12_isAct p1 st) fun v3 s2 =>
  if v3 = 0 then (clk (m_X12_no (-3) s2) fun v12 s11 =>
  some (v12, s11)) else
  if 0 ≤ p2 then (if p2 ≤ 3000 then (lAk s2 0 31 16 p1 fun v4 =>
  nmk v4 fun (a5 : Int32) =>
  sAk s2 0 31 16 p1 p2 fun s6 =>
  some (a5, s6)) else
  clk (m_X12_no (-9) s2) fun v8 s7 =>
  some (v8, s7)) else
  clk (m_X12_no (-4) s2) fun v10 s9 =>
  some (v10, s9)
def m_X12_get_19 (x1 : Int32) (x2 : Int32) (t0 : Int32) (st : Sg) : Option (Int64 × Sg) :=
  nmk t0 fun (a3 : Int32) =>
  if a3 = 0 then (lLk st 0 21 320 ((40 * x1) + x2) fun v7 =>
  some (v7, st)) else
  clk (m_X12_no a3 st) fun v5 s4 =>
  nmk v5 fun (a6 : Int32) =>
  some (0, s4)
def m_X12_get (p1 : Int32) (p2 : Int32) (st : Sg) : Option (Int64 × Sg) :=
  clk (m_X12_isSlot p1 st) fun v2 s1 =>
  if v2 = 0 then (m_X12_get_19 p1 p2 (-3) s1) else
  clk (m_X12_why p1 ((p2 : Int32).toInt64) s1) fun v9 s8 =>
  m_X12_get_19 p1 p2 v9 s8
def m_X12_holds_L2 (x1 : Int32) (x2 : Int32) (x3 : Int32) (st : Sg) : Option ((Int32 × Sg) ⊕ (Sg)) :=
  if x1 ≤ x3 then (some (.inr st)) else
  sAk st 0 33 16 x3 0 fun s2 =>
  nmk (x3 + 1) fun a3 =>
  some (.inl (a3, s2))
def m_X12_holds_L33 (x1 : Int32) (x2 : Int32) (x3 : Int32) (x4 : Int32) (x5 : Int32) (st : Sg) : Option ((Int32 × Int32 × Sg) ⊕ (Int32 × Sg)) :=
  gIk st 0 20 fun v8 =>
  if v8 ≤ x5 then (some (.inr (x4, st))) else
  lAk st 0 16 704 x5 fun v9 =>
  nmk v9 fun (a10 : Int32) =>
  lAk st 0 17 704 x5 fun v11 =>
  nmk v11 fun (a12 : Int32) =>
  if x1 ≤ a10 then (nmk (x5 + 1) fun a13 =>
  some (.inl (x4, a13, st))) else
  if a12 < x1 then (lAk st 0 33 16 a10 fun v14 =>
  lAk st 0 19 704 x5 fun v15 =>
  lAk st 0 34 16 a12 fun v16 =>
  lAk st 0 34 16 a10 fun v17 =>
  lAk st 0 18 704 x5 fun v18 =>
  clk (m_X12_cut ((v16 - v17) - v18) x2 st) fun v20 s19 =>
  nmk ((v14 - v15) - v20) fun (a21 : Int32) =>
  lAk s19 0 33 16 a12 fun v22 =>
  if v22 < a21 then (sAk s19 0 33 16 a12 a21 fun s23 =>
  nmk 1 fun (a24 : Int32) =>
  nmk (x5 + 1) fun a25 =>
  some (.inl (a24, a25, s23))) else
  nmk (x5 + 1) fun a26 =>
  some (.inl (x4, a26, s19))) else
  nmk (x5 + 1) fun a27 =>
  some (.inl (x4, a27, st))
def m_X12_holds_L22 (x1 : Int32) (x2 : Int32) (x3 : Int32) (st : Sg) : Option ((Int32 × Sg) ⊕ ((Sg) ⊕ (Sg))) :=
  if x1 < x3 then (some (.inr (.inl st))) else
  nmk 0 fun (a6 : Int32) =>
  nmk 0 fun (a7 : Int32) =>
  lpk (fun s : (Int32 × Int32 × Sg) => m_X12_holds_L33 x1 x2 x3 s.1 s.2.1 s.2.2) FU (a6, a7, st) fun r28 =>
  if r28.1 = 0 then (some (.inr (.inr r28.2))) else
  nmk (x3 + 1) fun a29 =>
  some (.inl (a29, r28.2))
def m_X12_holds (p1 : Int32) (p2 : Int32) (st : Sg) : Option (Int32 × Sg) :=
  nmk 0 fun (a1 : Int32) =>
  lpk (fun s : (Int32 × Sg) => m_X12_holds_L2 p1 p2 s.1 s.2) FU (a1, st) fun r4 =>
  nmk 0 fun (a5 : Int32) =>
  lpk (fun s : (Int32 × Sg) => m_X12_holds_L22 p1 p2 s.1 s.2) FU (a5, r4) (Sum.elim (fun r30 => some (0, r30)) (fun r30 => some (1, r30)))
def m_X12_laid_L10 (x1 : Int32) (x2 : Int32) (x3 : Int32) (x4 : Int32) (st : Sg) : Option ((Int32 × Int32 × Sg) ⊕ (Int32 × Sg)) :=
  gIk st 0 9 fun v4 =>
  if v4 ≤ x4 then (some (.inr (x3, st))) else
  lAk st 0 30 16 x4 fun v5 =>
  if v5 ≤ x3 then (nmk x3 fun (a6 : Int32) =>
  nmk (x4 + 1) fun a7 =>
  some (.inl (a6, a7, st))) else
  lAk st 0 30 16 x4 fun v8 =>
  nmk v8 fun (a9 : Int32) =>
  nmk (x4 + 1) fun a10 =>
  some (.inl (a9, a10, st))
def m_X12_laid_L69 (x1 : Int32) (x3 : Int32) (x4 : Int32) (x2 : Int32) (x5 : Int32) (st : Sg) : Option ((Int32 × Int32 × Sg) ⊕ (Int32 × Sg)) :=
  gIk st 0 9 fun v15 =>
  if v15 ≤ x5 then (some (.inr (x2, st))) else
  lAk st 0 30 16 x5 fun v16 =>
  nmk (x4 - v16) fun (a17 : Int32) =>
  if a17 < 0 then (nmk (x5 + 1) fun a18 =>
  some (.inl (x2, a18, st))) else
  gIk st 0 27 fun v19 =>
  dvk v19 <|
  if (a17 - a17 / v19 * v19) = 0 then (gIk st 0 27 fun v21 =>
  dvk v21 <|
  if ((16 * (a17 / v21)) + x5) < x2 then (gIk st 0 41 fun v22 =>
  sIk st 0 41 (v22 + 1) fun s23 =>
  sIk s23 0 42 (x4 + 1) fun s24 =>
  gIk s24 0 27 fun v25 =>
  dvk v25 <|
  clk (m_X12_does x5 (a17 / v25) s24) fun v27 s26 =>
  nmk v27 fun (a28 : Int32) =>
  if a28 = 0 then (nmk (x5 + 1) fun a36 =>
  some (.inl (x2, a36, s26))) else
  gIk s26 0 27 fun v29 =>
  dvk v29 <|
  nmk ((16 * (a17 / v29)) + x5) fun (a30 : Int32) =>
  sIk s26 0 38 a28 fun s31 =>
  sIk s31 0 39 x5 fun s32 =>
  gIk s32 0 27 fun v33 =>
  dvk v33 <|
  sIk s32 0 40 (a17 / v33) fun s34 =>
  nmk (x5 + 1) fun a35 =>
  some (.inl (a30, a35, s34))) else
  nmk (x5 + 1) fun a37 =>
  some (.inl (x2, a37, st))) else
  nmk (x5 + 1) fun a20 =>
  some (.inl (x2, a20, st))
def m_X12_laid_L51 (x1 : Int32) (x3 : Int32) (x2 : Int32) (x4 : Int32) (st : Sg) : Option ((Int32 × Int32 × Sg) ⊕ (Sg)) :=
  gIk st 0 27 fun v13 =>
  if (x3 + (v13 * (x1 - 1))) < x4 then (some (.inr st)) else
  nmk 0 fun (a14 : Int32) =>
  lpk (fun s : (Int32 × Int32 × Sg) => m_X12_laid_L69 x1 x3 x4 s.1 s.2.1 s.2.2) FU (x2, a14, st) fun r38 =>
  nmk (x4 + 1) fun a39 =>
  some (.inl (r38.1, a39, r38.2))
def m_X12_laid (p1 : Int32) (st : Sg) : Option (Unit × Sg) :=
  nmk (16 * p1) fun (a1 : Int32) =>
  nmk 0 fun (a2 : Int32) =>
  nmk 0 fun (a3 : Int32) =>
  lpk (fun s : (Int32 × Int32 × Sg) => m_X12_laid_L10 p1 a1 s.1 s.2.1 s.2.2) FU (a2, a3, st) fun r11 =>
  nmk 0 fun (a12 : Int32) =>
  lpk (fun s : (Int32 × Int32 × Sg) => m_X12_laid_L51 p1 r11.1 s.1 s.2.1 s.2.2) FU (a1, a12, r11.2) fun r40 =>
  gIk r40 0 38 fun v41 =>
  if v41 = 0 then (sIk r40 0 44 p1 fun s44 =>
  some ((), s44)) else
  gIk r40 0 40 fun v42 =>
  sIk r40 0 44 v42 fun s43 =>
  some ((), s43)
def m_X12_latestBegin_L18 (x1 : Int32) (x3 : Int32) (x4 : Int32) (st : Sg) : Option ((Int32 × Int32 × Sg) ⊕ (Int32 × Sg)) :=
  gIk st 0 9 fun v8 =>
  if v8 ≤ x4 then (some (.inr (x3, st))) else
  lAk st 0 33 16 x4 fun v9 =>
  if v9 ≤ x3 then (nmk x3 fun (a10 : Int32) =>
  nmk (x4 + 1) fun a11 =>
  some (.inl (a10, a11, st))) else
  lAk st 0 33 16 x4 fun v12 =>
  nmk v12 fun (a13 : Int32) =>
  nmk (x4 + 1) fun a14 =>
  some (.inl (a13, a14, st))
def m_X12_latestBegin_L59 (x1 : Int32) (x3 : Int32) (x4 : Int32) (st : Sg) : Option ((Int32 × Sg) ⊕ (Sg)) :=
  gIk st 0 9 fun v17 =>
  if v17 ≤ x4 then (some (.inr st)) else
  sAk st 0 33 16 x4 x3 fun s18 =>
  nmk (x4 + 1) fun a19 =>
  some (.inl (a19, s18))
def m_X12_latestBegin_L108 (x1 : Int32) (x5 : Int32) (x4 : Int32) (x6 : Int32) (st : Sg) : Option ((Int32 × Int32 × Sg) ⊕ (Int32 × Sg)) :=
  gIk st 0 20 fun v26 =>
  if v26 ≤ x6 then (some (.inr (x4, st))) else
  lAk st 0 17 704 x6 fun v27 =>
  lAk st 0 33 16 v27 fun v28 =>
  lAk st 0 18 704 x6 fun v29 =>
  gIk st 0 27 fun v30 =>
  lAk st 0 19 704 x6 fun v31 =>
  nmk ((v28 - v29) + (v30 * v31)) fun (a32 : Int32) =>
  lAk st 0 16 704 x6 fun v33 =>
  lAk st 0 33 16 v33 fun v34 =>
  if a32 < v34 then (lAk st 0 16 704 x6 fun v35 =>
  sAk st 0 33 16 v35 a32 fun s36 =>
  nmk 1 fun (a37 : Int32) =>
  nmk (x6 + 1) fun a38 =>
  some (.inl (a37, a38, s36))) else
  nmk (x6 + 1) fun a39 =>
  some (.inl (x4, a39, st))
def m_X12_latestBegin_L88 (x1 : Int32) (x4 : Int32) (x5 : Int32) (st : Sg) : Option ((Int32 × Int32 × Sg) ⊕ (Sg)) :=
  if x4 = 0 then (some (.inr st)) else
  gIk st 0 9 fun v23 =>
  if v23 < x5 then (some (.inr st)) else
  nmk 0 fun (a24 : Int32) =>
  nmk 0 fun (a25 : Int32) =>
  lpk (fun s : (Int32 × Int32 × Sg) => m_X12_latestBegin_L108 x1 x5 s.1 s.2.1 s.2.2) FU (a24, a25, st) fun r40 =>
  nmk (x5 + 1) fun a41 =>
  some (.inl (r40.1, a41, r40.2))
def m_X12_latestBegin (p1 : Int32) (st : Sg) : Option (Int32 × Sg) :=
  clk (m_X12_gather st) fun _ s1 =>
  gIk s1 0 27 fun v2 =>
  clk (m_X12_rests v2 s1) fun v4 s3 =>
  nmk v4 fun (a5 : Int32) =>
  nmk 0 fun (a6 : Int32) =>
  nmk 0 fun (a7 : Int32) =>
  lpk (fun s : (Int32 × Int32 × Sg) => m_X12_latestBegin_L18 p1 s.1 s.2.1 s.2.2) FU (a6, a7, s3) fun r15 =>
  nmk 0 fun (a16 : Int32) =>
  lpk (fun s : (Int32 × Sg) => m_X12_latestBegin_L59 p1 r15.1 s.1 s.2) FU (a16, r15.2) fun r20 =>
  nmk 1 fun (a21 : Int32) =>
  nmk 0 fun (a22 : Int32) =>
  lpk (fun s : (Int32 × Int32 × Sg) => m_X12_latestBegin_L88 p1 s.1 s.2.1 s.2.2) FU (a21, a22, r20) fun r42 =>
  lAk r42 0 33 16 p1 fun v43 =>
  some (v43, r42)
def m_X12_lowestBeat (st : Sg) : Option (Int32 × Sg) :=
  clk (m_X12_gather st) fun _ s1 =>
  clk (m_X12_byUnits s1) fun v3 s2 =>
  nmk v3 fun (a4 : Int32) =>
  clk (m_X12_byRings s2) fun v6 s5 =>
  nmk v6 fun (a7 : Int32) =>
  if a4 ≤ a7 then (some (a7, s5)) else
  some (a4, s5)
def m_X12_tries_95 (x1 : Int32) (x2 : Int32) (st : Sg) : Option ((Int32 × Sg) ⊕ ((Sg) ⊕ ((Sg) ⊕ (Sg)))) :=
  lAk st 0 34 16 x2 fun v9 =>
  sAk st 0 34 16 x2 (v9 + 1) fun s10 =>
  some (.inl (x2, s10))
def m_X12_tries_28 (x1 : Int32) (x2 : Int32) (t0 : Int32) (t1 : Int32) (st : Sg) : Option ((Int32 × Sg) ⊕ ((Sg) ⊕ ((Sg) ⊕ (Sg)))) :=
  if t1 = t0 then (nmk (x2 + (-1)) fun a16 =>
  if a16 < 0 then (some (.inl (a16, st))) else
  lAk st 0 34 16 a16 fun v17 =>
  sAk st 0 34 16 a16 (v17 + 1) fun s18 =>
  some (.inl (a16, s18))) else
  gIk st 0 32 fun v4 =>
  if v4 = 3000 then (some (.inr (.inr (.inl st)))) else
  gIk st 0 32 fun v5 =>
  sIk st 0 32 (v5 + 1) fun s6 =>
  clk (m_X12_fits (x2 + 1) x1 s6) fun v8 s7 =>
  if v8 = 0 then (m_X12_tries_95 x1 x2 s7) else
  clk (m_X12_holds (x2 + 1) x1 s7) fun v12 s11 =>
  if v12 = 0 then (m_X12_tries_95 x1 x2 s11) else
  nmk (x2 + 1) fun a13 =>
  gIk s11 0 9 fun v14 =>
  if a13 = v14 then (some (.inr (.inr (.inr s11)))) else
  sAk s11 0 34 16 a13 0 fun s15 =>
  some (.inl (a13, s15))
def m_X12_tries_L9 (x1 : Int32) (x2 : Int32) (st : Sg) : Option ((Int32 × Sg) ⊕ ((Sg) ⊕ ((Sg) ⊕ (Sg)))) :=
  if x2 < 0 then (some (.inr (.inl st))) else
  lAk st 0 34 16 x2 fun v3 =>
  if x2 = 0 then (m_X12_tries_28 x1 x2 1 v3 st) else
  m_X12_tries_28 x1 x2 x1 v3 st
def m_X12_tries (p1 : Int32) (st : Sg) : Option (Int32 × Sg) :=
  nmk 0 fun (a1 : Int32) =>
  sAk st 0 34 16 0 0 fun s2 =>
  lpk (fun s : (Int32 × Sg) => m_X12_tries_L9 p1 s.1 s.2) FU (a1, s2) (Sum.elim (fun r19 => some (3, r19)) (Sum.elim (fun r19 => some (4, r19)) (fun r19 => some (0, r19))))
def m_X12_lay_L26 (x1 : Int32) (x2 : Int32) (st : Sg) : Option ((Int32 × Int32 × Sg) ⊕ (Int32 × Int32 × Sg)) :=
  if 60 < x2 then (some (.inr (x1, x2, st))) else
  if x1 = 3 then (clk (m_X12_tries x2 st) fun v9 s8 =>
  nmk v9 fun (a10 : Int32) =>
  if a10 = 3 then (nmk (x2 + 1) fun a11 =>
  some (.inl (a10, a11, s8))) else
  some (.inl (a10, x2, s8))) else
  some (.inr (x1, x2, st))
def m_X12_lay_L82 (x2 : Int32) (x3 : Int32) (st : Sg) : Option ((Int32 × Sg) ⊕ (Sg)) :=
  gIk st 0 9 fun v15 =>
  if v15 ≤ x3 then (some (.inr st)) else
  lAk st 0 34 16 x3 fun v16 =>
  sAk st 0 28 16 x3 v16 fun s17 =>
  lAk s17 0 33 16 x3 fun v18 =>
  sAk s17 0 29 16 x3 v18 fun s19 =>
  lAk s19 0 33 16 x3 fun v20 =>
  lAk s19 0 34 16 x3 fun v21 =>
  sAk s19 0 30 16 x3 ((x2 * v20) + v21) fun s22 =>
  lAk s22 0 30 16 x3 fun v23 =>
  sAk s22 0 31 16 x3 v23 fun s24 =>
  nmk (x3 + 1) fun a25 =>
  some (.inl (a25, s24))
def m_X12_lay_54 (x1 : Int32) (x2 : Int32) (st : Sg) : Option (Int32 × Sg) :=
  if x1 = 0 then (sIk st 0 27 x2 fun s13 =>
  nmk 0 fun (a14 : Int32) =>
  lpk (fun s : (Int32 × Sg) => m_X12_lay_L82 x2 s.1 s.2) FU (a14, s13) fun r26 =>
  some (x2, r26)) else
  if x1 = 4 then (clk (m_X12_no (-11) st) fun v30 s29 =>
  some (v30, s29)) else
  clk (m_X12_no (-9) st) fun v28 s27 =>
  some (v28, s27)
def m_X12_lay (st : Sg) : Option (Int32 × Sg) :=
  sIk st 0 32 0 fun s1 =>
  clk (m_X12_isReady s1) fun v3 s2 =>
  if v3 = 0 then (clk (m_X12_no (-2) s2) fun v32 s31 =>
  some (v32, s31)) else
  nmk 3 fun (a4 : Int32) =>
  clk (m_X12_lowestBeat s2) fun v6 s5 =>
  nmk v6 fun (a7 : Int32) =>
  lpk (fun s : (Int32 × Int32 × Sg) => m_X12_lay_L26 s.1 s.2.1 s.2.2) FU (a4, a7, s5) fun r12 =>
  m_X12_lay_54 r12.1 r12.2.1 r12.2.2
def m_X12_laying_68 (x1 : Int32) (x2 : Int32) (x3 : Int32) (x4 : Int32) (st : Sg) : Option ((Int32 × Int32 × Int32 × Sg) ⊕ (Int32 × Int32 × Sg)) :=
  lAk st 0 30 16 x4 fun v9 =>
  lAk st 0 1 16 x4 fun v10 =>
  if (v9 + v10) ≤ x3 then (nmk (x4 + 1) fun a11 =>
  some (.inl (x2, x3, a11, st))) else
  lAk st 0 30 16 x4 fun v12 =>
  lAk st 0 1 16 x4 fun v13 =>
  nmk (v12 + v13) fun (a14 : Int32) =>
  nmk (x4 + 1) fun a15 =>
  some (.inl (x2, a14, a15, st))
def m_X12_laying_L40 (x1 : Int32) (x2 : Int32) (x3 : Int32) (x4 : Int32) (st : Sg) : Option ((Int32 × Int32 × Int32 × Sg) ⊕ (Int32 × Int32 × Sg)) :=
  gIk st 0 9 fun v7 =>
  if v7 ≤ x4 then (some (.inr (x2, x3, st))) else
  lAk st 0 29 16 x4 fun v8 =>
  if v8 ≤ x2 then (m_X12_laying_68 x1 x2 x3 x4 st) else
  lAk st 0 29 16 x4 fun v16 =>
  nmk v16 fun (a17 : Int32) =>
  m_X12_laying_68 x1 a17 x3 x4 st
def m_X12_laying (p1 : Int32) (st : Sg) : Option (Int32 × Sg) :=
  gIk st 0 27 fun v1 =>
  if v1 = 0 then (clk (m_X12_no (-2) st) fun v23 s22 =>
  some (v23, s22)) else
  clk (m_X12_isIn ((p1 : Int32).toInt64) 0 2 st) fun v3 s2 =>
  if v3 = 0 then (clk (m_X12_no (-9) s2) fun v21 s20 =>
  some (v21, s20)) else
  nmk 0 fun (a4 : Int32) =>
  nmk 0 fun (a5 : Int32) =>
  nmk 0 fun (a6 : Int32) =>
  lpk (fun s : (Int32 × Int32 × Int32 × Sg) => m_X12_laying_L40 p1 s.1 s.2.1 s.2.2.1 s.2.2.2) FU (a4, a5, a6, s2) fun r18 =>
  if p1 = 0 then (gIk r18.2.2 0 27 fun v19 =>
  some (v19, r18.2.2)) else
  if p1 = 1 then (some ((r18.1 + 1), r18.2.2)) else
  some (r18.2.1, r18.2.2)
def m_X12_lowest (st : Sg) : Option (Int32 × Sg) :=
  clk (m_X12_isReady st) fun v2 s1 =>
  if v2 = 0 then (clk (m_X12_no (-2) s1) fun v9 s8 =>
  some (v9, s8)) else
  clk (m_X12_lowestBeat s1) fun v4 s3 =>
  nmk v4 fun (a5 : Int32) =>
  if a5 ≤ 60 then (some (a5, s3)) else
  clk (m_X12_no (-9) s3) fun v7 s6 =>
  some (v7, s6)
def m_X12_names (p1 : Int32) (st : Sg) : Option (Int32 × Sg) :=
  gIk st 0 27 fun v1 =>
  if v1 = 0 then (clk (m_X12_no (-2) st) fun v9 s8 =>
  some (v9, s8)) else
  clk (m_X12_isAct p1 st) fun v3 s2 =>
  if v3 = 0 then (clk (m_X12_no (-3) s2) fun v5 s4 =>
  some (v5, s4)) else
  clk (m_X12_placesOf p1 s2) fun v7 s6 =>
  some (v7, s6)
def m_X12_number_28 (x1 : Int32) (t0 : Int32) (st : Sg) : Option (Int64 × Sg) :=
  nmk t0 fun (a4 : Int32) =>
  if a4 = 0 then (lLk st 0 8 16 x1 fun v8 =>
  some (v8, st)) else
  clk (m_X12_no a4 st) fun v6 s5 =>
  nmk v6 fun (a7 : Int32) =>
  some (0, s5)
def m_X12_number (p1 : Int32) (st : Sg) : Option (Int64 × Sg) :=
  clk (m_X12_isAct p1 st) fun v2 s1 =>
  if v2 = 0 then (m_X12_number_28 p1 (-3) s1) else
  lAk s1 0 0 16 p1 fun v3 =>
  if v3 = 0 then (m_X12_number_28 p1 0 s1) else
  m_X12_number_28 p1 (-5) s1
def m_X12_pick (p1 : Int32) (p2 : Int32) (p3 : Int32) (p4 : Int32) (st : Sg) : Option (Int32 × Sg) :=
  clk (m_X12_areTurns p4 st) fun v2 s1 =>
  if v2 = 0 then (clk (m_X12_no (-9) s1) fun v20 s19 =>
  some (v20, s19)) else
  clk (m_X12_isBeyond p1 0 s1) fun v4 s3 =>
  if v4 = 0 then (clk (m_X12_isBeyond p2 0 s3) fun v8 s7 =>
  if v8 = 0 then (clk (m_X12_isBeyond p3 p4 s7) fun v12 s11 =>
  if v12 = 0 then (clk (m_X12_adds 6 (-1) p1 0 p2 0 s11) fun v14 s13 =>
  nmk v14 fun (a15 : Int32) =>
  if a15 < 0 then (some (a15, s13)) else
  clk (m_X12_operand a15 2 p3 p4 s13) fun _ s16 =>
  some (a15, s16)) else
  clk (m_X12_no (-3) s11) fun v18 s17 =>
  some (v18, s17)) else
  clk (m_X12_no (-3) s7) fun v10 s9 =>
  some (v10, s9)) else
  clk (m_X12_no (-3) s3) fun v6 s5 =>
  some (v6, s5)
def m_X12_plain_L9 (x1 : Int32) (x2 : Int32) (x3 : Int32) (st : Sg) : Option ((Int32 × Sg) ⊕ ((Sg) ⊕ (Int32 × Sg))) :=
  gIk st 0 9 fun v3 =>
  if v3 ≤ x3 then (some (.inr (.inl st))) else
  gIk st 0 41 fun v4 =>
  sIk st 0 41 (v4 + 1) fun s5 =>
  gIk s5 0 42 fun v6 =>
  lAk s5 0 1 16 x3 fun v7 =>
  sIk s5 0 42 (v6 + v7) fun s8 =>
  clk (m_X12_does x3 x2 s8) fun v10 s9 =>
  sIk s9 0 38 v10 fun s11 =>
  gIk s11 0 38 fun v12 =>
  if v12 = 0 then (nmk (x3 + 1) fun a13 =>
  some (.inl (a13, s11))) else
  some (.inr (.inr (x3, s11)))
def m_X12_plain_L2 (x1 : Int32) (x2 : Int32) (st : Sg) : Option ((Int32 × Sg) ⊕ ((Sg) ⊕ (Int32 × Int32 × Sg))) :=
  if x1 ≤ x2 then (some (.inr (.inl st))) else
  nmk 0 fun (a2 : Int32) =>
  lpk (fun s : (Int32 × Sg) => m_X12_plain_L9 x1 x2 s.1 s.2) FU (a2, st) (Sum.elim (fun r14 => sIk r14 0 44 (x2 + 1) fun s15 =>
  nmk (x2 + 1) fun a16 =>
  some (.inl (a16, s15))) (fun r14 => some (.inr (.inr (x2, r14.1, r14.2)))))
def m_X12_plain (p1 : Int32) (st : Sg) : Option (Unit × Sg) :=
  nmk 0 fun (a1 : Int32) =>
  lpk (fun s : (Int32 × Sg) => m_X12_plain_L2 p1 s.1 s.2) FU (a1, st) (Sum.elim (fun r17 => some ((), r17)) (fun r17 => sIk r17.2.2 0 39 r17.2.1 fun s18 =>
  sIk s18 0 40 r17.1 fun s19 =>
  some ((), s19)))
def m_X12_prove (p1 : Int32) (st : Sg) : Option (Int32 × Sg) :=
  sIk st 0 32 0 fun s1 =>
  clk (m_X12_isReady s1) fun v3 s2 =>
  if v3 = 0 then (clk (m_X12_no (-2) s2) fun v18 s17 =>
  some (v18, s17)) else
  if 0 ≤ p1 then (clk (m_X12_isIn ((p1 : Int32).toInt64) 1 60 s2) fun v5 s4 =>
  if v5 = 0 then (clk (m_X12_no (-9) s4) fun v14 s13 =>
  some (v14, s13)) else
  clk (m_X12_gather s4) fun _ s6 =>
  clk (m_X12_byUnits s6) fun v8 s7 =>
  if v8 ≤ p1 then (clk (m_X12_rests p1 s7) fun v10 s9 =>
  if v10 = 0 then (some (2, s9)) else
  clk (m_X12_tries p1 s9) fun v12 s11 =>
  some (v12, s11)) else
  some (1, s7)) else
  clk (m_X12_no (-4) s2) fun v16 s15 =>
  some (v16, s15)
def m_X12_put (p1 : Int64) (st : Sg) : Option (Int32 × Sg) :=
  clk (m_X12_adds 0 (-1) (-1) (-1) (-1) (-1) st) fun v2 s1 =>
  nmk v2 fun (a3 : Int32) =>
  if a3 < 0 then (some (a3, s1)) else
  sLk s1 0 8 16 a3 p1 fun s4 =>
  some (a3, s4)
def m_X12_reckon (p1 : Int32) (p2 : Int32) (p3 : Int32) (p4 : Int32) (p5 : Int32) (st : Sg) : Option (Int32 × Sg) :=
  clk (m_X12_isIn ((p1 : Int32).toInt64) 1 3 st) fun v2 s1 =>
  if v2 = 0 then (clk (m_X12_no (-9) s1) fun v4 s3 =>
  some (v4, s3)) else
  clk (m_X12_areTurns p3 s1) fun v6 s5 =>
  if v6 = 0 then (clk (m_X12_no (-9) s5) fun v8 s7 =>
  some (v8, s7)) else
  clk (m_X12_areTurns p5 s5) fun v10 s9 =>
  if v10 = 0 then (clk (m_X12_no (-9) s9) fun v22 s21 =>
  some (v22, s21)) else
  clk (m_X12_isBeyond p2 p3 s9) fun v12 s11 =>
  if v12 = 0 then (clk (m_X12_isBeyond p4 p5 s11) fun v16 s15 =>
  if v16 = 0 then (clk (m_X12_adds p1 (-1) p2 p3 p4 p5 s15) fun v18 s17 =>
  some (v18, s17)) else
  clk (m_X12_no (-3) s15) fun v20 s19 =>
  some (v20, s19)) else
  clk (m_X12_no (-3) s11) fun v14 s13 =>
  some (v14, s13)
def m_X12_row_L61 (x1 : Int32) (x2 : Int32) (x4 : Int32) (st : Sg) : Option ((Int32 × Sg) ⊕ (Sg)) :=
  if x2 ≤ x4 then (some (.inr st)) else
  sLk st 0 21 320 ((40 * x1) + x4) 0 fun s8 =>
  nmk (x4 + 1) fun a9 =>
  some (.inl (a9, s8))
def m_X12_row (p1 : Int32) (p2 : Int32) (p3 : Int32) (st : Sg) : Option (Int32 × Sg) :=
  clk (m_X12_isSlot p1 st) fun v2 s1 =>
  if v2 = 0 then (clk (m_X12_no (-3) s1) fun v16 s15 =>
  some (v16, s15)) else
  if 0 ≤ p2 then (clk (m_X12_isIn ((p2 : Int32).toInt64) 1 40 s1) fun v4 s3 =>
  if v4 = 0 then (clk (m_X12_no (-9) s3) fun v12 s11 =>
  some (v12, s11)) else
  sAk s3 0 23 8 p1 p2 fun s5 =>
  sZk s5 0 24 8 p1 p3 fun s6 =>
  nmk 0 fun (a7 : Int32) =>
  lpk (fun s : (Int32 × Sg) => m_X12_row_L61 p1 p2 s.1 s.2) FU (a7, s6) fun r10 =>
  some (1, r10)) else
  clk (m_X12_no (-4) s1) fun v14 s13 =>
  some (v14, s13)
def m_X12_run_59 (x4 : Int32) (st : Sg) : Option (Int32 × Sg) :=
  if x4 = 0 then (sIk st 0 43 0 fun s7 =>
  gIk s7 0 44 fun v8 =>
  some (v8, s7)) else
  sIk st 0 43 1 fun s9 =>
  gIk s9 0 44 fun v10 =>
  some (v10, s9)
def m_X12_run_39 (x1 : Int32) (t0 : Int32) (st : Sg) : Option (Int32 × Sg) :=
  nmk t0 fun (a5 : Int32) =>
  if a5 = 0 then (clk (m_X12_plain x1 st) fun _ s6 =>
  m_X12_run_59 a5 s6) else
  clk (m_X12_laid x1 st) fun _ s11 =>
  m_X12_run_59 a5 s11
def m_X12_run_38 (x1 : Int32) (st : Sg) : Option (Int32 × Sg) :=
  m_X12_run_39 x1 0 st
def m_X12_run (p1 : Int32) (p2 : Int32) (st : Sg) : Option (Int32 × Sg) :=
  clk (m_X12_whyNoRun p1 p2 st) fun v2 s1 =>
  nmk v2 fun (a3 : Int32) =>
  if a3 = 0 then (clk (m_X12_forget s1) fun _ s4 =>
  if p2 = 0 then (m_X12_run_38 p1 s4) else
  clk (m_X12_laying 1 s4) fun v13 s12 =>
  if p1 < v13 then (m_X12_run_38 p1 s12) else
  m_X12_run_39 p1 1 s12) else
  clk (m_X12_no a3 s1) fun v15 s14 =>
  some (v15, s14)
def m_X12_set_19 (x1 : Int32) (x2 : Int32) (x3 : Int64) (t0 : Int32) (st : Sg) : Option (Int32 × Sg) :=
  nmk t0 fun (a3 : Int32) =>
  if a3 = 0 then (sLk st 0 21 320 ((40 * x1) + x2) x3 fun s4 =>
  some (1, s4)) else
  clk (m_X12_no a3 st) fun v6 s5 =>
  some (v6, s5)
def m_X12_set (p1 : Int32) (p2 : Int32) (p3 : Int64) (st : Sg) : Option (Int32 × Sg) :=
  clk (m_X12_isSlot p1 st) fun v2 s1 =>
  if v2 = 0 then (m_X12_set_19 p1 p2 p3 (-3) s1) else
  clk (m_X12_why p1 ((p2 : Int32).toInt64) s1) fun v8 s7 =>
  m_X12_set_19 p1 p2 p3 v8 s7
def m_X12_status (p1 : Int32) (st : Sg) : Option (Int32 × Sg) :=
  clk (m_X12_isIn ((p1 : Int32).toInt64) (-11) (-2) st) fun v2 s1 =>
  if v2 = 0 then (clk (m_X12_no (-9) s1) fun v4 s3 =>
  some (v4, s3)) else
  lAk s1 0 25 12 (-p1) fun v5 =>
  some (v5, s1)
def m_X12_store (p1 : Int32) (p2 : Int32) (p3 : Int32) (p4 : Int32) (p5 : Int32) (st : Sg) : Option (Int32 × Sg) :=
  clk (m_X12_areTurns p3 st) fun v2 s1 =>
  if v2 = 0 then (clk (m_X12_no (-9) s1) fun v4 s3 =>
  some (v4, s3)) else
  clk (m_X12_areTurns p5 s1) fun v6 s5 =>
  if v6 = 0 then (clk (m_X12_no (-9) s5) fun v22 s21 =>
  some (v22, s21)) else
  clk (m_X12_isIn ((p1 : Int32).toInt64) 0 7 s5) fun v8 s7 =>
  if v8 = 0 then (clk (m_X12_no (-3) s7) fun v10 s9 =>
  some (v10, s9)) else
  clk (m_X12_isBeyond p2 p3 s7) fun v12 s11 =>
  if v12 = 0 then (clk (m_X12_isBeyond p4 p5 s11) fun v16 s15 =>
  if v16 = 0 then (clk (m_X12_adds 5 p1 p2 p3 p4 p5 s15) fun v18 s17 =>
  some (v18, s17)) else
  clk (m_X12_no (-3) s15) fun v20 s19 =>
  some (v20, s19)) else
  clk (m_X12_no (-3) s11) fun v14 s13 =>
  some (v14, s13)
def m_X12_tick (p1 : Int32) (p2 : Int32) (st : Sg) : Option (Int32 × Sg) :=
  gIk st 0 27 fun v1 =>
  if v1 = 0 then (clk (m_X12_no (-2) st) fun v22 s21 =>
  some (v22, s21)) else
  clk (m_X12_isAct p1 st) fun v3 s2 =>
  if v3 = 0 then (clk (m_X12_no (-3) s2) fun v20 s19 =>
  some (v20, s19)) else
  clk (m_X12_isIn ((p2 : Int32).toInt64) 0 4 s2) fun v5 s4 =>
  if v5 = 0 then (clk (m_X12_no (-9) s4) fun v18 s17 =>
  some (v18, s17)) else
  if p2 = 4 then (clk (m_X12_latestBegin p1 s4) fun v16 s15 =>
  some (v16, s15)) else
  if p2 = 3 then (clk (m_X12_gather s4) fun _ s9 =>
  gIk s9 0 27 fun v10 =>
  clk (m_X12_rests v10 s9) fun v12 s11 =>
  nmk v12 fun (a13 : Int32) =>
  lAk s11 0 33 16 p1 fun v14 =>
  some (v14, s11)) else
  if p2 = 0 then (lAk s4 0 28 16 p1 fun v8 =>
  some (v8, s4)) else
  if p2 = 1 then (lAk s4 0 29 16 p1 fun v7 =>
  some (v7, s4)) else
  lAk s4 0 30 16 p1 fun v6 =>
  some (v6, s4)
def m_X12_told (p1 : Int32) (st : Sg) : Option (Int32 × Sg) :=
  if p1 = 0 then (gIk st 0 38 fun v1 =>
  some (v1, st)) else
  if p1 = 1 then (gIk st 0 39 fun v2 =>
  some (v2, st)) else
  if p1 = 2 then (gIk st 0 40 fun v3 =>
  some (v3, st)) else
  if p1 = 3 then (gIk st 0 41 fun v4 =>
  some (v4, st)) else
  if p1 = 4 then (gIk st 0 42 fun v5 =>
  some (v5, st)) else
  if p1 = 5 then (gIk st 0 43 fun v6 =>
  some (v6, st)) else
  clk (m_X12_no (-9) st) fun v8 s7 =>
  some (v8, s7)
def m_X12_trials (st : Sg) : Option (Int32 × Sg) :=
  gIk st 0 32 fun v1 =>
  some (v1, st)
def m_X12_undo_L23 (x1 : Int32) (x2 : Int32) (st : Sg) : Option ((Int32 × Sg) ⊕ ((Sg) ⊕ (Sg))) :=
  if (3 * x1) ≤ x2 then (some (.inr (.inl st))) else
  lAk st 0 5 48 x2 fun v5 =>
  if v5 = x1 then (some (.inr (.inr st))) else
  nmk (x2 + 1) fun a6 =>
  some (.inl (a6, st))
def m_X12_undo_L67 (x1 : Int32) (x2 : Int32) (x3 : Int32) (st : Sg) : Option ((Int32 × Int32 × Sg) ⊕ (Int32 × Sg)) :=
  gIk st 0 15 fun v12 =>
  if v12 ≤ x3 then (some (.inr (x2, st))) else
  lAk st 0 11 40 x3 fun v13 =>
  if v13 = x1 then (nmk (x3 + 1) fun a14 =>
  some (.inl (x2, a14, st))) else
  lAk st 0 12 40 x3 fun v15 =>
  if v15 = x1 then (nmk (x3 + 1) fun a26 =>
  some (.inl (x2, a26, st))) else
  lAk st 0 11 40 x3 fun v16 =>
  sAk st 0 11 40 x2 v16 fun s17 =>
  lAk s17 0 12 40 x3 fun v18 =>
  sAk s17 0 12 40 x2 v18 fun s19 =>
  lAk s19 0 13 40 x3 fun v20 =>
  sAk s19 0 13 40 x2 v20 fun s21 =>
  lAk s21 0 14 40 x3 fun v22 =>
  sAk s21 0 14 40 x2 v22 fun s23 =>
  nmk (x2 + 1) fun a24 =>
  nmk (x3 + 1) fun a25 =>
  some (.inl (a24, a25, s23))
def m_X12_undo (st : Sg) : Option (Int32 × Sg) :=
  gIk st 0 9 fun v1 =>
  if v1 = 0 then (clk (m_X12_no (-2) st) fun v34 s33 =>
  some (v34, s33)) else
  gIk st 0 9 fun v2 =>
  nmk (v2 - 1) fun (a3 : Int32) =>
  nmk 0 fun (a4 : Int32) =>
  lpk (fun s : (Int32 × Sg) => m_X12_undo_L23 a3 s.1 s.2) FU (a4, st) (Sum.elim (fun r7 => gIk r7 0 9 fun v8 =>
  sIk r7 0 9 (v8 - 1) fun s9 =>
  nmk 0 fun (a10 : Int32) =>
  nmk 0 fun (a11 : Int32) =>
  lpk (fun s : (Int32 × Int32 × Sg) => m_X12_undo_L67 a3 s.1 s.2.1 s.2.2) FU (a10, a11, s9) fun r27 =>
  sIk r27.2 0 15 r27.1 fun s28 =>
  clk (m_X12_changes s28) fun _ s29 =>
  gIk s29 0 9 fun v30 =>
  some (v30, s29)) (fun r7 => clk (m_X12_no (-9) r7) fun v32 s31 =>
  some (v32, s31)))
def m_X12_unit (p1 : Int32) (p2 : Int32) (st : Sg) : Option (Int32 × Sg) :=
  clk (m_X12_isIn ((p1 : Int32).toInt64) 0 5 st) fun v2 s1 =>
  if v2 = 0 then (clk (m_X12_no (-3) s1) fun v12 s11 =>
  some (v12, s11)) else
  if 0 ≤ p2 then (if p2 ≤ 4 then (lAk s1 0 10 6 p1 fun v3 =>
  nmk v3 fun (a4 : Int32) =>
  sAk s1 0 10 6 p1 p2 fun s5 =>
  clk (m_X12_changes s5) fun _ s6 =>
  some (a4, s6)) else
  clk (m_X12_no (-9) s1) fun v8 s7 =>
  some (v8, s7)) else
  clk (m_X12_no (-4) s1) fun v10 s9 =>
  some (v10, s9)
def m_X12_works (p1 : Int32) (p2 : Int32) (p3 : Int32) (p4 : Int32) (st : Sg) : Option (Int32 × Sg) :=
  clk (m_X12_isAct p1 st) fun v2 s1 =>
  if v2 = 0 then (clk (m_X12_no (-3) s1) fun v4 s3 =>
  some (v4, s3)) else
  clk (m_X12_isIn ((p3 : Int32).toInt64) 0 5 s1) fun v6 s5 =>
  if v6 = 0 then (clk (m_X12_no (-3) s5) fun v20 s19 =>
  some (v20, s19)) else
  clk (m_X12_isIn ((p2 : Int32).toInt64) 1 12 s5) fun v8 s7 =>
  if v8 = 0 then (clk (m_X12_no (-9) s7) fun v10 s9 =>
  some (v10, s9)) else
  clk (m_X12_isIn ((p4 : Int32).toInt64) 1 255 s7) fun v12 s11 =>
  if v12 = 0 then (clk (m_X12_no (-9) s11) fun v18 s17 =>
  some (v18, s17)) else
  sAk s11 0 1 16 p1 p2 fun s13 =>
  sAk s13 0 2 16 p1 p3 fun s14 =>
  sAk s14 0 3 16 p1 p4 fun s15 =>
  clk (m_X12_changes s15) fun _ s16 =>
  some (1, s16)
def m_X12_wrong (p1 : Int32) (st : Sg) : Option (Int32 × Sg) :=
  clk (m_X12_isIn ((p1 : Int32).toInt64) 0 5 st) fun v2 s1 =>
  if v2 = 0 then (clk (m_X12_no (-9) s1) fun v4 s3 =>
  some (v4, s3)) else
  lAk s1 0 36 6 p1 fun v5 =>
  some (v5, s1)
