-- 04.world: the cells of the class's objects and of the reference (written by mk03.py)
abbrev Ev : Type := (ClassId × ClassId × ClassId) × (Nat → Nat) × (Nat → Nat → Nat) × va_W
def oX (E : Ev) (j : Nat) : Nat := E.2.1 j
def aX (E : Ev) (j k : Nat) : Nat := E.2.2.1 j k
def cI (E : Ev) : ClassId := E.1.1
def cJ (E : Ev) : ClassId := E.1.2.1
def cZ (E : Ev) : ClassId := E.1.2.2
def tyE (E : Ev) : List (ClassId × FieldType) := [(cI E, .int), (cJ E, .long), (cZ E, .boolean)]
def lnE (j : Nat) : Nat := if j = 2 then 40 else 720
def fX_0 (E : Ev) (st : Sg) : List Value := [.ref (oX E 1), .ref (oX E 3), .ref (oX E 5), .ref (oX E 6), .ref (oX E 7), .ref (oX E 9), .ref (oX E 11), .ref (oX E 13), .ref (oX E 16), .int (gI st 0 9), .ref (aX E 0 10)]
def fX_1 (E : Ev) (st : Sg) : List Value := [.int (gI st 1 0), .ref (aX E 1 1), .ref (aX E 1 2), .ref (aX E 1 3), .ref (aX E 1 4), .ref (aX E 1 5), .ref (aX E 1 6), .ref (aX E 1 7), .ref (aX E 1 8), .ref (aX E 1 9), .ref (aX E 1 10), .ref (oX E 2)]
def fX_2 (E : Ev) (st : Sg) : List Value := [.int (gI st 2 0), .ref (aX E 2 1), .ref (aX E 2 2), .ref (aX E 2 3), .ref (aX E 2 4)]
def fX_3 (E : Ev) (st : Sg) : List Value := [.ref (oX E 4), .int (gI st 3 1), .int (gI st 3 2)]
def fX_4 (E : Ev) (st : Sg) : List Value := [.int (gI st 4 0), .ref (aX E 4 1), .ref (aX E 4 2), .ref (aX E 4 3), .ref (aX E 4 4)]
def fX_5 (E : Ev) (st : Sg) : List Value := [.ref (aX E 5 0), .ref (aX E 5 1), .ref (aX E 5 2)]
def fX_6 (E : Ev) (st : Sg) : List Value := [.ref (aX E 6 0), .ref (aX E 6 1)]
def fX_7 (E : Ev) (st : Sg) : List Value := [.ref (oX E 1), .ref (oX E 6), .ref (oX E 8), .ref (aX E 7 3), .ref (aX E 7 4), .ref (aX E 7 5), .ref (aX E 7 6), .ref (aX E 7 7), .int (gI st 7 8), .ref (aX E 7 9), .int (gI st 7 10)]
def fX_8 (E : Ev) (st : Sg) : List Value := [.ref (aX E 8 0)]
def fX_9 (E : Ev) (st : Sg) : List Value := [.int (gI st 9 0), .int (gI st 9 1), .int (gI st 9 2), .ref (aX E 9 3), .ref (aX E 9 4), .ref (aX E 9 5), .ref (aX E 9 6), .ref (aX E 9 7), .ref (aX E 9 8), .ref (aX E 9 9), .ref (aX E 9 10), .ref (oX E 10)]
def fX_10 (E : Ev) (st : Sg) : List Value := [.ref (aX E 10 0)]
def fX_11 (E : Ev) (st : Sg) : List Value := [.ref (aX E 11 0), .ref (oX E 12)]
def fX_12 (E : Ev) (st : Sg) : List Value := [.ref (aX E 12 0)]
def fX_13 (E : Ev) (st : Sg) : List Value := [.ref (oX E 1), .ref (oX E 5), .ref (oX E 9), .ref (aX E 13 3), .ref (oX E 14), .ref (oX E 15), .ref (aX E 13 6), .ref (aX E 13 7)]
def fX_14 (E : Ev) (st : Sg) : List Value := [.int (gI st 14 0), .int (gI st 14 1), .int (gI st 14 2), .int (gI st 14 3), .int (gI st 14 4), .int (gI st 14 5), .int (gI st 14 6), .ref (aX E 14 7)]
def fX_15 (E : Ev) (st : Sg) : List Value := [.int (gI st 15 0), .int (gI st 15 1), .int (gI st 15 2), .int (gI st 15 3), .int (gI st 15 4), .int (gI st 15 5), .int (gI st 15 6), .ref (aX E 15 7)]
def fX_16 (E : Ev) (st : Sg) : List Value := [.int (gI st 16 0), .int (gI st 16 1), .int (gI st 16 2), .int (gI st 16 3), .int (gI st 16 4), .int (gI st 16 5), .int (gI st 16 6), .ref (aX E 16 7)]
def wX (E : Ev) (st : Sg) : va_W := [(oX E 0, .inr (11, fX_0 E st)), (oX E 1, .inr (0, fX_1 E st)), (oX E 2, .inr (1, fX_2 E st)), (oX E 3, .inr (10, fX_3 E st)), (oX E 4, .inr (1, fX_4 E st)), (oX E 5, .inr (6, fX_5 E st)), (oX E 6, .inr (9, fX_6 E st)), (oX E 7, .inr (8, fX_7 E st)), (oX E 8, .inr (2, fX_8 E st)), (oX E 9, .inr (4, fX_9 E st)), (oX E 10, .inr (2, fX_10 E st)), (oX E 11, .inr (3, fX_11 E st)), (oX E 12, .inr (2, fX_12 E st)), (oX E 13, .inr (7, fX_13 E st)), (oX E 14, .inr (5, fX_14 E st)), (oX E 15, .inr (5, fX_15 E st)), (oX E 16, .inr (5, fX_16 E st)), (aX E 0 10, .inl (cI E, 12, .inl (gA st 0 10))), (aX E 1 1, .inl (cI E, 16, .inl (gA st 1 1))), (aX E 1 2, .inl (cI E, 16, .inl (gA st 1 2))), (aX E 1 3, .inl (cI E, 16, .inl (gA st 1 3))), (aX E 1 4, .inl (cI E, 16, .inl (gA st 1 4))), (aX E 1 5, .inl (cI E, 16, .inl (gA st 1 5))), (aX E 1 6, .inl (cI E, 48, .inl (gA st 1 6))), (aX E 1 7, .inl (cI E, 48, .inl (gA st 1 7))), (aX E 1 8, .inl (cJ E, 16, .inr (.inl (gL st 1 8)))), (aX E 1 9, .inl (cJ E, 16, .inr (.inl (gL st 1 9)))), (aX E 1 10, .inl (cI E, 6, .inl (gA st 1 10))), (aX E 2 1, .inl (cI E, lnE 2, .inl (gA st 2 1))), (aX E 2 2, .inl (cI E, lnE 2, .inl (gA st 2 2))), (aX E 2 3, .inl (cI E, lnE 2, .inl (gA st 2 3))), (aX E 2 4, .inl (cI E, lnE 2, .inl (gA st 2 4))), (aX E 4 1, .inl (cI E, lnE 4, .inl (gA st 4 1))), (aX E 4 2, .inl (cI E, lnE 4, .inl (gA st 4 2))), (aX E 4 3, .inl (cI E, lnE 4, .inl (gA st 4 3))), (aX E 4 4, .inl (cI E, lnE 4, .inl (gA st 4 4))), (aX E 5 0, .inl (cI E, 8, .inl (gA st 5 0))), (aX E 5 1, .inl (cZ E, 8, .inl (gA st 5 1))), (aX E 5 2, .inl (cJ E, 320, .inr (.inl (gL st 5 2)))), (aX E 6 0, .inl (cI E, 256, .inl (gA st 6 0))), (aX E 6 1, .inl (cI E, 256, .inl (gA st 6 1))), (aX E 7 3, .inl (cI E, 4096, .inl (gA st 7 3))), (aX E 7 4, .inl (cI E, 16, .inl (gA st 7 4))), (aX E 7 5, .inl (cI E, 16, .inl (gA st 7 5))), (aX E 7 6, .inl (cI E, 16, .inl (gA st 7 6))), (aX E 7 7, .inl (cI E, 16, .inl (gA st 7 7))), (aX E 7 9, .inl (cI E, 16, .inl (gA st 7 9))), (aX E 8 0, .inl (cI E, 360, .inl (gA st 8 0))), (aX E 9 3, .inl (cI E, 16, .inl (gA st 9 3))), (aX E 9 4, .inl (cI E, 16, .inl (gA st 9 4))), (aX E 9 5, .inl (cI E, 16, .inl (gA st 9 5))), (aX E 9 6, .inl (cI E, 16, .inl (gA st 9 6))), (aX E 9 7, .inl (cI E, 16, .inl (gA st 9 7))), (aX E 9 8, .inl (cI E, 16, .inl (gA st 9 8))), (aX E 9 9, .inl (cI E, 16, .inl (gA st 9 9))), (aX E 9 10, .inl (cI E, 16, .inl (gA st 9 10))), (aX E 10 0, .inl (cI E, 360, .inl (gA st 10 0))), (aX E 11 0, .inl (cI E, 6, .inl (gA st 11 0))), (aX E 12 0, .inl (cI E, 360, .inl (gA st 12 0))), (aX E 13 3, .inl (cJ E, 3264, .inr (.inl (gL st 13 3)))), (aX E 13 6, .inl (cJ E, 320, .inr (.inl (gL st 13 6)))), (aX E 13 7, .inl (cJ E, 320, .inr (.inl (gL st 13 7)))), (aX E 14 7, .inl (cJ E, 16, .inr (.inl (gL st 14 7)))), (aX E 15 7, .inl (cJ E, 16, .inr (.inl (gL st 15 7)))), (aX E 16 7, .inl (cJ E, 16, .inr (.inl (gL st 16 7))))] ++ E.2.2.2
theorem wXo_0 (E : Ev) (st : Sg) : (wX E st)[0]? = some (oX E 0, .inr (11, fX_0 E st)) := rfl
theorem wXo_1 (E : Ev) (st : Sg) : (wX E st)[1]? = some (oX E 1, .inr (0, fX_1 E st)) := rfl
theorem wXo_2 (E : Ev) (st : Sg) : (wX E st)[2]? = some (oX E 2, .inr (1, fX_2 E st)) := rfl
theorem wXo_3 (E : Ev) (st : Sg) : (wX E st)[3]? = some (oX E 3, .inr (10, fX_3 E st)) := rfl
theorem wXo_4 (E : Ev) (st : Sg) : (wX E st)[4]? = some (oX E 4, .inr (1, fX_4 E st)) := rfl
theorem wXo_5 (E : Ev) (st : Sg) : (wX E st)[5]? = some (oX E 5, .inr (6, fX_5 E st)) := rfl
theorem wXo_6 (E : Ev) (st : Sg) : (wX E st)[6]? = some (oX E 6, .inr (9, fX_6 E st)) := rfl
theorem wXo_7 (E : Ev) (st : Sg) : (wX E st)[7]? = some (oX E 7, .inr (8, fX_7 E st)) := rfl
theorem wXo_8 (E : Ev) (st : Sg) : (wX E st)[8]? = some (oX E 8, .inr (2, fX_8 E st)) := rfl
theorem wXo_9 (E : Ev) (st : Sg) : (wX E st)[9]? = some (oX E 9, .inr (4, fX_9 E st)) := rfl
theorem wXo_10 (E : Ev) (st : Sg) : (wX E st)[10]? = some (oX E 10, .inr (2, fX_10 E st)) := rfl
theorem wXo_11 (E : Ev) (st : Sg) : (wX E st)[11]? = some (oX E 11, .inr (3, fX_11 E st)) := rfl
theorem wXo_12 (E : Ev) (st : Sg) : (wX E st)[12]? = some (oX E 12, .inr (2, fX_12 E st)) := rfl
theorem wXo_13 (E : Ev) (st : Sg) : (wX E st)[13]? = some (oX E 13, .inr (7, fX_13 E st)) := rfl
theorem wXo_14 (E : Ev) (st : Sg) : (wX E st)[14]? = some (oX E 14, .inr (5, fX_14 E st)) := rfl
theorem wXo_15 (E : Ev) (st : Sg) : (wX E st)[15]? = some (oX E 15, .inr (5, fX_15 E st)) := rfl
theorem wXo_16 (E : Ev) (st : Sg) : (wX E st)[16]? = some (oX E 16, .inr (5, fX_16 E st)) := rfl
theorem wXa_0_10 (E : Ev) (st : Sg) : (wX E st)[17]? = some (aX E 0 10, .inl (cI E, 12, .inl (gA st 0 10))) := rfl
theorem wXa_1_1 (E : Ev) (st : Sg) : (wX E st)[18]? = some (aX E 1 1, .inl (cI E, 16, .inl (gA st 1 1))) := rfl
theorem wXa_1_2 (E : Ev) (st : Sg) : (wX E st)[19]? = some (aX E 1 2, .inl (cI E, 16, .inl (gA st 1 2))) := rfl
theorem wXa_1_3 (E : Ev) (st : Sg) : (wX E st)[20]? = some (aX E 1 3, .inl (cI E, 16, .inl (gA st 1 3))) := rfl
theorem wXa_1_4 (E : Ev) (st : Sg) : (wX E st)[21]? = some (aX E 1 4, .inl (cI E, 16, .inl (gA st 1 4))) := rfl
theorem wXa_1_5 (E : Ev) (st : Sg) : (wX E st)[22]? = some (aX E 1 5, .inl (cI E, 16, .inl (gA st 1 5))) := rfl
theorem wXa_1_6 (E : Ev) (st : Sg) : (wX E st)[23]? = some (aX E 1 6, .inl (cI E, 48, .inl (gA st 1 6))) := rfl
theorem wXa_1_7 (E : Ev) (st : Sg) : (wX E st)[24]? = some (aX E 1 7, .inl (cI E, 48, .inl (gA st 1 7))) := rfl
theorem wXa_1_8 (E : Ev) (st : Sg) : (wX E st)[25]? = some (aX E 1 8, .inl (cJ E, 16, .inr (.inl (gL st 1 8)))) := rfl
theorem wXa_1_9 (E : Ev) (st : Sg) : (wX E st)[26]? = some (aX E 1 9, .inl (cJ E, 16, .inr (.inl (gL st 1 9)))) := rfl
theorem wXa_1_10 (E : Ev) (st : Sg) : (wX E st)[27]? = some (aX E 1 10, .inl (cI E, 6, .inl (gA st 1 10))) := rfl
theorem wXa_2_1 (E : Ev) (st : Sg) : (wX E st)[28]? = some (aX E 2 1, .inl (cI E, lnE 2, .inl (gA st 2 1))) := rfl
theorem wXa_2_2 (E : Ev) (st : Sg) : (wX E st)[29]? = some (aX E 2 2, .inl (cI E, lnE 2, .inl (gA st 2 2))) := rfl
theorem wXa_2_3 (E : Ev) (st : Sg) : (wX E st)[30]? = some (aX E 2 3, .inl (cI E, lnE 2, .inl (gA st 2 3))) := rfl
theorem wXa_2_4 (E : Ev) (st : Sg) : (wX E st)[31]? = some (aX E 2 4, .inl (cI E, lnE 2, .inl (gA st 2 4))) := rfl
theorem wXa_4_1 (E : Ev) (st : Sg) : (wX E st)[32]? = some (aX E 4 1, .inl (cI E, lnE 4, .inl (gA st 4 1))) := rfl
theorem wXa_4_2 (E : Ev) (st : Sg) : (wX E st)[33]? = some (aX E 4 2, .inl (cI E, lnE 4, .inl (gA st 4 2))) := rfl
theorem wXa_4_3 (E : Ev) (st : Sg) : (wX E st)[34]? = some (aX E 4 3, .inl (cI E, lnE 4, .inl (gA st 4 3))) := rfl
theorem wXa_4_4 (E : Ev) (st : Sg) : (wX E st)[35]? = some (aX E 4 4, .inl (cI E, lnE 4, .inl (gA st 4 4))) := rfl
theorem wXa_5_0 (E : Ev) (st : Sg) : (wX E st)[36]? = some (aX E 5 0, .inl (cI E, 8, .inl (gA st 5 0))) := rfl
theorem wXa_5_1 (E : Ev) (st : Sg) : (wX E st)[37]? = some (aX E 5 1, .inl (cZ E, 8, .inl (gA st 5 1))) := rfl
theorem wXa_5_2 (E : Ev) (st : Sg) : (wX E st)[38]? = some (aX E 5 2, .inl (cJ E, 320, .inr (.inl (gL st 5 2)))) := rfl
theorem wXa_6_0 (E : Ev) (st : Sg) : (wX E st)[39]? = some (aX E 6 0, .inl (cI E, 256, .inl (gA st 6 0))) := rfl
theorem wXa_6_1 (E : Ev) (st : Sg) : (wX E st)[40]? = some (aX E 6 1, .inl (cI E, 256, .inl (gA st 6 1))) := rfl
theorem wXa_7_3 (E : Ev) (st : Sg) : (wX E st)[41]? = some (aX E 7 3, .inl (cI E, 4096, .inl (gA st 7 3))) := rfl
theorem wXa_7_4 (E : Ev) (st : Sg) : (wX E st)[42]? = some (aX E 7 4, .inl (cI E, 16, .inl (gA st 7 4))) := rfl
theorem wXa_7_5 (E : Ev) (st : Sg) : (wX E st)[43]? = some (aX E 7 5, .inl (cI E, 16, .inl (gA st 7 5))) := rfl
theorem wXa_7_6 (E : Ev) (st : Sg) : (wX E st)[44]? = some (aX E 7 6, .inl (cI E, 16, .inl (gA st 7 6))) := rfl
theorem wXa_7_7 (E : Ev) (st : Sg) : (wX E st)[45]? = some (aX E 7 7, .inl (cI E, 16, .inl (gA st 7 7))) := rfl
theorem wXa_7_9 (E : Ev) (st : Sg) : (wX E st)[46]? = some (aX E 7 9, .inl (cI E, 16, .inl (gA st 7 9))) := rfl
theorem wXa_8_0 (E : Ev) (st : Sg) : (wX E st)[47]? = some (aX E 8 0, .inl (cI E, 360, .inl (gA st 8 0))) := rfl
theorem wXa_9_3 (E : Ev) (st : Sg) : (wX E st)[48]? = some (aX E 9 3, .inl (cI E, 16, .inl (gA st 9 3))) := rfl
theorem wXa_9_4 (E : Ev) (st : Sg) : (wX E st)[49]? = some (aX E 9 4, .inl (cI E, 16, .inl (gA st 9 4))) := rfl
theorem wXa_9_5 (E : Ev) (st : Sg) : (wX E st)[50]? = some (aX E 9 5, .inl (cI E, 16, .inl (gA st 9 5))) := rfl
theorem wXa_9_6 (E : Ev) (st : Sg) : (wX E st)[51]? = some (aX E 9 6, .inl (cI E, 16, .inl (gA st 9 6))) := rfl
theorem wXa_9_7 (E : Ev) (st : Sg) : (wX E st)[52]? = some (aX E 9 7, .inl (cI E, 16, .inl (gA st 9 7))) := rfl
theorem wXa_9_8 (E : Ev) (st : Sg) : (wX E st)[53]? = some (aX E 9 8, .inl (cI E, 16, .inl (gA st 9 8))) := rfl
theorem wXa_9_9 (E : Ev) (st : Sg) : (wX E st)[54]? = some (aX E 9 9, .inl (cI E, 16, .inl (gA st 9 9))) := rfl
theorem wXa_9_10 (E : Ev) (st : Sg) : (wX E st)[55]? = some (aX E 9 10, .inl (cI E, 16, .inl (gA st 9 10))) := rfl
theorem wXa_10_0 (E : Ev) (st : Sg) : (wX E st)[56]? = some (aX E 10 0, .inl (cI E, 360, .inl (gA st 10 0))) := rfl
theorem wXa_11_0 (E : Ev) (st : Sg) : (wX E st)[57]? = some (aX E 11 0, .inl (cI E, 6, .inl (gA st 11 0))) := rfl
theorem wXa_12_0 (E : Ev) (st : Sg) : (wX E st)[58]? = some (aX E 12 0, .inl (cI E, 360, .inl (gA st 12 0))) := rfl
theorem wXa_13_3 (E : Ev) (st : Sg) : (wX E st)[59]? = some (aX E 13 3, .inl (cJ E, 3264, .inr (.inl (gL st 13 3)))) := rfl
theorem wXa_13_6 (E : Ev) (st : Sg) : (wX E st)[60]? = some (aX E 13 6, .inl (cJ E, 320, .inr (.inl (gL st 13 6)))) := rfl
theorem wXa_13_7 (E : Ev) (st : Sg) : (wX E st)[61]? = some (aX E 13 7, .inl (cJ E, 320, .inr (.inl (gL st 13 7)))) := rfl
theorem wXa_14_7 (E : Ev) (st : Sg) : (wX E st)[62]? = some (aX E 14 7, .inl (cJ E, 16, .inr (.inl (gL st 14 7)))) := rfl
theorem wXa_15_7 (E : Ev) (st : Sg) : (wX E st)[63]? = some (aX E 15 7, .inl (cJ E, 16, .inr (.inl (gL st 15 7)))) := rfl
theorem wXa_16_7 (E : Ev) (st : Sg) : (wX E st)[64]? = some (aX E 16 7, .inl (cJ E, 16, .inr (.inl (gL st 16 7)))) := rfl
theorem wXs_0_9 (E : Ev) (st : Sg) (x : Int32) : (wX E st).set 0 (oX E 0, .inr (11, (fX_0 E st).set 9 (.int x))) = wX E (pI st 0 9 x) := rfl
theorem wXs_1_0 (E : Ev) (st : Sg) (x : Int32) : (wX E st).set 1 (oX E 1, .inr (0, (fX_1 E st).set 0 (.int x))) = wX E (pI st 1 0 x) := rfl
theorem wXs_2_0 (E : Ev) (st : Sg) (x : Int32) : (wX E st).set 2 (oX E 2, .inr (1, (fX_2 E st).set 0 (.int x))) = wX E (pI st 2 0 x) := rfl
theorem wXs_3_1 (E : Ev) (st : Sg) (x : Int32) : (wX E st).set 3 (oX E 3, .inr (10, (fX_3 E st).set 1 (.int x))) = wX E (pI st 3 1 x) := rfl
theorem wXs_3_2 (E : Ev) (st : Sg) (x : Int32) : (wX E st).set 3 (oX E 3, .inr (10, (fX_3 E st).set 2 (.int x))) = wX E (pI st 3 2 x) := rfl
theorem wXs_4_0 (E : Ev) (st : Sg) (x : Int32) : (wX E st).set 4 (oX E 4, .inr (1, (fX_4 E st).set 0 (.int x))) = wX E (pI st 4 0 x) := rfl
theorem wXs_7_8 (E : Ev) (st : Sg) (x : Int32) : (wX E st).set 7 (oX E 7, .inr (8, (fX_7 E st).set 8 (.int x))) = wX E (pI st 7 8 x) := rfl
theorem wXs_7_10 (E : Ev) (st : Sg) (x : Int32) : (wX E st).set 7 (oX E 7, .inr (8, (fX_7 E st).set 10 (.int x))) = wX E (pI st 7 10 x) := rfl
theorem wXs_9_0 (E : Ev) (st : Sg) (x : Int32) : (wX E st).set 9 (oX E 9, .inr (4, (fX_9 E st).set 0 (.int x))) = wX E (pI st 9 0 x) := rfl
theorem wXs_9_1 (E : Ev) (st : Sg) (x : Int32) : (wX E st).set 9 (oX E 9, .inr (4, (fX_9 E st).set 1 (.int x))) = wX E (pI st 9 1 x) := rfl
theorem wXs_9_2 (E : Ev) (st : Sg) (x : Int32) : (wX E st).set 9 (oX E 9, .inr (4, (fX_9 E st).set 2 (.int x))) = wX E (pI st 9 2 x) := rfl
theorem wXs_14_0 (E : Ev) (st : Sg) (x : Int32) : (wX E st).set 14 (oX E 14, .inr (5, (fX_14 E st).set 0 (.int x))) = wX E (pI st 14 0 x) := rfl
theorem wXs_14_1 (E : Ev) (st : Sg) (x : Int32) : (wX E st).set 14 (oX E 14, .inr (5, (fX_14 E st).set 1 (.int x))) = wX E (pI st 14 1 x) := rfl
theorem wXs_14_2 (E : Ev) (st : Sg) (x : Int32) : (wX E st).set 14 (oX E 14, .inr (5, (fX_14 E st).set 2 (.int x))) = wX E (pI st 14 2 x) := rfl
theorem wXs_14_3 (E : Ev) (st : Sg) (x : Int32) : (wX E st).set 14 (oX E 14, .inr (5, (fX_14 E st).set 3 (.int x))) = wX E (pI st 14 3 x) := rfl
theorem wXs_14_4 (E : Ev) (st : Sg) (x : Int32) : (wX E st).set 14 (oX E 14, .inr (5, (fX_14 E st).set 4 (.int x))) = wX E (pI st 14 4 x) := rfl
theorem wXs_14_5 (E : Ev) (st : Sg) (x : Int32) : (wX E st).set 14 (oX E 14, .inr (5, (fX_14 E st).set 5 (.int x))) = wX E (pI st 14 5 x) := rfl
theorem wXs_14_6 (E : Ev) (st : Sg) (x : Int32) : (wX E st).set 14 (oX E 14, .inr (5, (fX_14 E st).set 6 (.int x))) = wX E (pI st 14 6 x) := rfl
theorem wXs_15_0 (E : Ev) (st : Sg) (x : Int32) : (wX E st).set 15 (oX E 15, .inr (5, (fX_15 E st).set 0 (.int x))) = wX E (pI st 15 0 x) := rfl
theorem wXs_15_1 (E : Ev) (st : Sg) (x : Int32) : (wX E st).set 15 (oX E 15, .inr (5, (fX_15 E st).set 1 (.int x))) = wX E (pI st 15 1 x) := rfl
theorem wXs_15_2 (E : Ev) (st : Sg) (x : Int32) : (wX E st).set 15 (oX E 15, .inr (5, (fX_15 E st).set 2 (.int x))) = wX E (pI st 15 2 x) := rfl
theorem wXs_15_3 (E : Ev) (st : Sg) (x : Int32) : (wX E st).set 15 (oX E 15, .inr (5, (fX_15 E st).set 3 (.int x))) = wX E (pI st 15 3 x) := rfl
theorem wXs_15_4 (E : Ev) (st : Sg) (x : Int32) : (wX E st).set 15 (oX E 15, .inr (5, (fX_15 E st).set 4 (.int x))) = wX E (pI st 15 4 x) := rfl
theorem wXs_15_5 (E : Ev) (st : Sg) (x : Int32) : (wX E st).set 15 (oX E 15, .inr (5, (fX_15 E st).set 5 (.int x))) = wX E (pI st 15 5 x) := rfl
theorem wXs_15_6 (E : Ev) (st : Sg) (x : Int32) : (wX E st).set 15 (oX E 15, .inr (5, (fX_15 E st).set 6 (.int x))) = wX E (pI st 15 6 x) := rfl
theorem wXs_16_0 (E : Ev) (st : Sg) (x : Int32) : (wX E st).set 16 (oX E 16, .inr (5, (fX_16 E st).set 0 (.int x))) = wX E (pI st 16 0 x) := rfl
theorem wXs_16_1 (E : Ev) (st : Sg) (x : Int32) : (wX E st).set 16 (oX E 16, .inr (5, (fX_16 E st).set 1 (.int x))) = wX E (pI st 16 1 x) := rfl
theorem wXs_16_2 (E : Ev) (st : Sg) (x : Int32) : (wX E st).set 16 (oX E 16, .inr (5, (fX_16 E st).set 2 (.int x))) = wX E (pI st 16 2 x) := rfl
theorem wXs_16_3 (E : Ev) (st : Sg) (x : Int32) : (wX E st).set 16 (oX E 16, .inr (5, (fX_16 E st).set 3 (.int x))) = wX E (pI st 16 3 x) := rfl
theorem wXs_16_4 (E : Ev) (st : Sg) (x : Int32) : (wX E st).set 16 (oX E 16, .inr (5, (fX_16 E st).set 4 (.int x))) = wX E (pI st 16 4 x) := rfl
theorem wXs_16_5 (E : Ev) (st : Sg) (x : Int32) : (wX E st).set 16 (oX E 16, .inr (5, (fX_16 E st).set 5 (.int x))) = wX E (pI st 16 5 x) := rfl
theorem wXs_16_6 (E : Ev) (st : Sg) (x : Int32) : (wX E st).set 16 (oX E 16, .inr (5, (fX_16 E st).set 6 (.int x))) = wX E (pI st 16 6 x) := rfl
theorem wXt_0_10 (E : Ev) (st : Sg) (z : Nat → Int32) : (wX E st).set 17 (aX E 0 10, .inl (cI E, 12, .inl z)) = wX E (pA st 0 10 z) := rfl
theorem wXt_1_1 (E : Ev) (st : Sg) (z : Nat → Int32) : (wX E st).set 18 (aX E 1 1, .inl (cI E, 16, .inl z)) = wX E (pA st 1 1 z) := rfl
theorem wXt_1_2 (E : Ev) (st : Sg) (z : Nat → Int32) : (wX E st).set 19 (aX E 1 2, .inl (cI E, 16, .inl z)) = wX E (pA st 1 2 z) := rfl
theorem wXt_1_3 (E : Ev) (st : Sg) (z : Nat → Int32) : (wX E st).set 20 (aX E 1 3, .inl (cI E, 16, .inl z)) = wX E (pA st 1 3 z) := rfl
theorem wXt_1_4 (E : Ev) (st : Sg) (z : Nat → Int32) : (wX E st).set 21 (aX E 1 4, .inl (cI E, 16, .inl z)) = wX E (pA st 1 4 z) := rfl
theorem wXt_1_5 (E : Ev) (st : Sg) (z : Nat → Int32) : (wX E st).set 22 (aX E 1 5, .inl (cI E, 16, .inl z)) = wX E (pA st 1 5 z) := rfl
theorem wXt_1_6 (E : Ev) (st : Sg) (z : Nat → Int32) : (wX E st).set 23 (aX E 1 6, .inl (cI E, 48, .inl z)) = wX E (pA st 1 6 z) := rfl
theorem wXt_1_7 (E : Ev) (st : Sg) (z : Nat → Int32) : (wX E st).set 24 (aX E 1 7, .inl (cI E, 48, .inl z)) = wX E (pA st 1 7 z) := rfl
theorem wXt_1_8 (E : Ev) (st : Sg) (z : Nat → Int64) : (wX E st).set 25 (aX E 1 8, .inl (cJ E, 16, .inr (.inl z))) = wX E (pL st 1 8 z) := rfl
theorem wXt_1_9 (E : Ev) (st : Sg) (z : Nat → Int64) : (wX E st).set 26 (aX E 1 9, .inl (cJ E, 16, .inr (.inl z))) = wX E (pL st 1 9 z) := rfl
theorem wXt_1_10 (E : Ev) (st : Sg) (z : Nat → Int32) : (wX E st).set 27 (aX E 1 10, .inl (cI E, 6, .inl z)) = wX E (pA st 1 10 z) := rfl
theorem wXt_2_1 (E : Ev) (st : Sg) (z : Nat → Int32) : (wX E st).set 28 (aX E 2 1, .inl (cI E, lnE 2, .inl z)) = wX E (pA st 2 1 z) := rfl
theorem wXt_2_2 (E : Ev) (st : Sg) (z : Nat → Int32) : (wX E st).set 29 (aX E 2 2, .inl (cI E, lnE 2, .inl z)) = wX E (pA st 2 2 z) := rfl
theorem wXt_2_3 (E : Ev) (st : Sg) (z : Nat → Int32) : (wX E st).set 30 (aX E 2 3, .inl (cI E, lnE 2, .inl z)) = wX E (pA st 2 3 z) := rfl
theorem wXt_2_4 (E : Ev) (st : Sg) (z : Nat → Int32) : (wX E st).set 31 (aX E 2 4, .inl (cI E, lnE 2, .inl z)) = wX E (pA st 2 4 z) := rfl
theorem wXt_4_1 (E : Ev) (st : Sg) (z : Nat → Int32) : (wX E st).set 32 (aX E 4 1, .inl (cI E, lnE 4, .inl z)) = wX E (pA st 4 1 z) := rfl
theorem wXt_4_2 (E : Ev) (st : Sg) (z : Nat → Int32) : (wX E st).set 33 (aX E 4 2, .inl (cI E, lnE 4, .inl z)) = wX E (pA st 4 2 z) := rfl
theorem wXt_4_3 (E : Ev) (st : Sg) (z : Nat → Int32) : (wX E st).set 34 (aX E 4 3, .inl (cI E, lnE 4, .inl z)) = wX E (pA st 4 3 z) := rfl
theorem wXt_4_4 (E : Ev) (st : Sg) (z : Nat → Int32) : (wX E st).set 35 (aX E 4 4, .inl (cI E, lnE 4, .inl z)) = wX E (pA st 4 4 z) := rfl
theorem wXt_5_0 (E : Ev) (st : Sg) (z : Nat → Int32) : (wX E st).set 36 (aX E 5 0, .inl (cI E, 8, .inl z)) = wX E (pA st 5 0 z) := rfl
theorem wXt_5_1 (E : Ev) (st : Sg) (z : Nat → Int32) : (wX E st).set 37 (aX E 5 1, .inl (cZ E, 8, .inl z)) = wX E (pA st 5 1 z) := rfl
theorem wXt_5_2 (E : Ev) (st : Sg) (z : Nat → Int64) : (wX E st).set 38 (aX E 5 2, .inl (cJ E, 320, .inr (.inl z))) = wX E (pL st 5 2 z) := rfl
theorem wXt_6_0 (E : Ev) (st : Sg) (z : Nat → Int32) : (wX E st).set 39 (aX E 6 0, .inl (cI E, 256, .inl z)) = wX E (pA st 6 0 z) := rfl
theorem wXt_6_1 (E : Ev) (st : Sg) (z : Nat → Int32) : (wX E st).set 40 (aX E 6 1, .inl (cI E, 256, .inl z)) = wX E (pA st 6 1 z) := rfl
theorem wXt_7_3 (E : Ev) (st : Sg) (z : Nat → Int32) : (wX E st).set 41 (aX E 7 3, .inl (cI E, 4096, .inl z)) = wX E (pA st 7 3 z) := rfl
theorem wXt_7_4 (E : Ev) (st : Sg) (z : Nat → Int32) : (wX E st).set 42 (aX E 7 4, .inl (cI E, 16, .inl z)) = wX E (pA st 7 4 z) := rfl
theorem wXt_7_5 (E : Ev) (st : Sg) (z : Nat → Int32) : (wX E st).set 43 (aX E 7 5, .inl (cI E, 16, .inl z)) = wX E (pA st 7 5 z) := rfl
theorem wXt_7_6 (E : Ev) (st : Sg) (z : Nat → Int32) : (wX E st).set 44 (aX E 7 6, .inl (cI E, 16, .inl z)) = wX E (pA st 7 6 z) := rfl
theorem wXt_7_7 (E : Ev) (st : Sg) (z : Nat → Int32) : (wX E st).set 45 (aX E 7 7, .inl (cI E, 16, .inl z)) = wX E (pA st 7 7 z) := rfl
theorem wXt_7_9 (E : Ev) (st : Sg) (z : Nat → Int32) : (wX E st).set 46 (aX E 7 9, .inl (cI E, 16, .inl z)) = wX E (pA st 7 9 z) := rfl
theorem wXt_8_0 (E : Ev) (st : Sg) (z : Nat → Int32) : (wX E st).set 47 (aX E 8 0, .inl (cI E, 360, .inl z)) = wX E (pA st 8 0 z) := rfl
theorem wXt_9_3 (E : Ev) (st : Sg) (z : Nat → Int32) : (wX E st).set 48 (aX E 9 3, .inl (cI E, 16, .inl z)) = wX E (pA st 9 3 z) := rfl
theorem wXt_9_4 (E : Ev) (st : Sg) (z : Nat → Int32) : (wX E st).set 49 (aX E 9 4, .inl (cI E, 16, .inl z)) = wX E (pA st 9 4 z) := rfl
theorem wXt_9_5 (E : Ev) (st : Sg) (z : Nat → Int32) : (wX E st).set 50 (aX E 9 5, .inl (cI E, 16, .inl z)) = wX E (pA st 9 5 z) := rfl
theorem wXt_9_6 (E : Ev) (st : Sg) (z : Nat → Int32) : (wX E st).set 51 (aX E 9 6, .inl (cI E, 16, .inl z)) = wX E (pA st 9 6 z) := rfl
theorem wXt_9_7 (E : Ev) (st : Sg) (z : Nat → Int32) : (wX E st).set 52 (aX E 9 7, .inl (cI E, 16, .inl z)) = wX E (pA st 9 7 z) := rfl
theorem wXt_9_8 (E : Ev) (st : Sg) (z : Nat → Int32) : (wX E st).set 53 (aX E 9 8, .inl (cI E, 16, .inl z)) = wX E (pA st 9 8 z) := rfl
theorem wXt_9_9 (E : Ev) (st : Sg) (z : Nat → Int32) : (wX E st).set 54 (aX E 9 9, .inl (cI E, 16, .inl z)) = wX E (pA st 9 9 z) := rfl
theorem wXt_9_10 (E : Ev) (st : Sg) (z : Nat → Int32) : (wX E st).set 55 (aX E 9 10, .inl (cI E, 16, .inl z)) = wX E (pA st 9 10 z) := rfl
theorem wXt_10_0 (E : Ev) (st : Sg) (z : Nat → Int32) : (wX E st).set 56 (aX E 10 0, .inl (cI E, 360, .inl z)) = wX E (pA st 10 0 z) := rfl
theorem wXt_11_0 (E : Ev) (st : Sg) (z : Nat → Int32) : (wX E st).set 57 (aX E 11 0, .inl (cI E, 6, .inl z)) = wX E (pA st 11 0 z) := rfl
theorem wXt_12_0 (E : Ev) (st : Sg) (z : Nat → Int32) : (wX E st).set 58 (aX E 12 0, .inl (cI E, 360, .inl z)) = wX E (pA st 12 0 z) := rfl
theorem wXt_13_3 (E : Ev) (st : Sg) (z : Nat → Int64) : (wX E st).set 59 (aX E 13 3, .inl (cJ E, 3264, .inr (.inl z))) = wX E (pL st 13 3 z) := rfl
theorem wXt_13_6 (E : Ev) (st : Sg) (z : Nat → Int64) : (wX E st).set 60 (aX E 13 6, .inl (cJ E, 320, .inr (.inl z))) = wX E (pL st 13 6 z) := rfl
theorem wXt_13_7 (E : Ev) (st : Sg) (z : Nat → Int64) : (wX E st).set 61 (aX E 13 7, .inl (cJ E, 320, .inr (.inl z))) = wX E (pL st 13 7 z) := rfl
theorem wXt_14_7 (E : Ev) (st : Sg) (z : Nat → Int64) : (wX E st).set 62 (aX E 14 7, .inl (cJ E, 16, .inr (.inl z))) = wX E (pL st 14 7 z) := rfl
theorem wXt_15_7 (E : Ev) (st : Sg) (z : Nat → Int64) : (wX E st).set 63 (aX E 15 7, .inl (cJ E, 16, .inr (.inl z))) = wX E (pL st 15 7 z) := rfl
theorem wXt_16_7 (E : Ev) (st : Sg) (z : Nat → Int64) : (wX E st).set 64 (aX E 16 7, .inl (cJ E, 16, .inr (.inl z))) = wX E (pL st 16 7 z) := rfl
def fM_0 (E : Ev) (st : Sg) : List Value := [.ref (aX E 0 0), .ref (aX E 0 1), .ref (aX E 0 2), .ref (aX E 0 3), .ref (aX E 0 4), .ref (aX E 0 5), .ref (aX E 0 6), .ref (aX E 0 7), .ref (aX E 0 8), .int (gI st 0 9), .ref (aX E 0 10), .ref (aX E 0 11), .ref (aX E 0 12), .ref (aX E 0 13), .ref (aX E 0 14), .int (gI st 0 15), .ref (aX E 0 16), .ref (aX E 0 17), .ref (aX E 0 18), .ref (aX E 0 19), .int (gI st 0 20), .ref (aX E 0 21), .ref (aX E 0 22), .ref (aX E 0 23), .ref (aX E 0 24), .ref (aX E 0 25), .int (gI st 0 26), .int (gI st 0 27), .ref (aX E 0 28), .ref (aX E 0 29), .ref (aX E 0 30), .ref (aX E 0 31), .int (gI st 0 32), .ref (aX E 0 33), .ref (aX E 0 34), .ref (aX E 0 35), .ref (aX E 0 36), .ref (aX E 0 37), .int (gI st 0 38), .int (gI st 0 39), .int (gI st 0 40), .int (gI st 0 41), .int (gI st 0 42), .int (gI st 0 43), .int (gI st 0 44)]
def wM (E : Ev) (st : Sg) : va_W := [(oX E 0, .inr (12, fM_0 E st)), (aX E 0 0, .inl (cI E, 16, .inl (gA st 0 0))), (aX E 0 1, .inl (cI E, 16, .inl (gA st 0 1))), (aX E 0 2, .inl (cI E, 16, .inl (gA st 0 2))), (aX E 0 3, .inl (cI E, 16, .inl (gA st 0 3))), (aX E 0 4, .inl (cI E, 16, .inl (gA st 0 4))), (aX E 0 5, .inl (cI E, 48, .inl (gA st 0 5))), (aX E 0 6, .inl (cI E, 48, .inl (gA st 0 6))), (aX E 0 7, .inl (cJ E, 16, .inr (.inl (gL st 0 7)))), (aX E 0 8, .inl (cJ E, 16, .inr (.inl (gL st 0 8)))), (aX E 0 10, .inl (cI E, 6, .inl (gA st 0 10))), (aX E 0 11, .inl (cI E, 40, .inl (gA st 0 11))), (aX E 0 12, .inl (cI E, 40, .inl (gA st 0 12))), (aX E 0 13, .inl (cI E, 40, .inl (gA st 0 13))), (aX E 0 14, .inl (cI E, 40, .inl (gA st 0 14))), (aX E 0 16, .inl (cI E, 704, .inl (gA st 0 16))), (aX E 0 17, .inl (cI E, 704, .inl (gA st 0 17))), (aX E 0 18, .inl (cI E, 704, .inl (gA st 0 18))), (aX E 0 19, .inl (cI E, 704, .inl (gA st 0 19))), (aX E 0 21, .inl (cJ E, 320, .inr (.inl (gL st 0 21)))), (aX E 0 22, .inl (cJ E, 320, .inr (.inl (gL st 0 22)))), (aX E 0 23, .inl (cI E, 8, .inl (gA st 0 23))), (aX E 0 24, .inl (cZ E, 8, .inl (gA st 0 24))), (aX E 0 25, .inl (cI E, 12, .inl (gA st 0 25))), (aX E 0 28, .inl (cI E, 16, .inl (gA st 0 28))), (aX E 0 29, .inl (cI E, 16, .inl (gA st 0 29))), (aX E 0 30, .inl (cI E, 16, .inl (gA st 0 30))), (aX E 0 31, .inl (cI E, 16, .inl (gA st 0 31))), (aX E 0 33, .inl (cI E, 16, .inl (gA st 0 33))), (aX E 0 34, .inl (cI E, 16, .inl (gA st 0 34))), (aX E 0 35, .inl (cI E, 60, .inl (gA st 0 35))), (aX E 0 36, .inl (cI E, 6, .inl (gA st 0 36))), (aX E 0 37, .inl (cJ E, 3216, .inr (.inl (gL st 0 37))))] ++ E.2.2.2
theorem wMo_0 (E : Ev) (st : Sg) : (wM E st)[0]? = some (oX E 0, .inr (12, fM_0 E st)) := rfl
theorem wMa_0_0 (E : Ev) (st : Sg) : (wM E st)[1]? = some (aX E 0 0, .inl (cI E, 16, .inl (gA st 0 0))) := rfl
theorem wMa_0_1 (E : Ev) (st : Sg) : (wM E st)[2]? = some (aX E 0 1, .inl (cI E, 16, .inl (gA st 0 1))) := rfl
theorem wMa_0_2 (E : Ev) (st : Sg) : (wM E st)[3]? = some (aX E 0 2, .inl (cI E, 16, .inl (gA st 0 2))) := rfl
theorem wMa_0_3 (E : Ev) (st : Sg) : (wM E st)[4]? = some (aX E 0 3, .inl (cI E, 16, .inl (gA st 0 3))) := rfl
theorem wMa_0_4 (E : Ev) (st : Sg) : (wM E st)[5]? = some (aX E 0 4, .inl (cI E, 16, .inl (gA st 0 4))) := rfl
theorem wMa_0_5 (E : Ev) (st : Sg) : (wM E st)[6]? = some (aX E 0 5, .inl (cI E, 48, .inl (gA st 0 5))) := rfl
theorem wMa_0_6 (E : Ev) (st : Sg) : (wM E st)[7]? = some (aX E 0 6, .inl (cI E, 48, .inl (gA st 0 6))) := rfl
theorem wMa_0_7 (E : Ev) (st : Sg) : (wM E st)[8]? = some (aX E 0 7, .inl (cJ E, 16, .inr (.inl (gL st 0 7)))) := rfl
theorem wMa_0_8 (E : Ev) (st : Sg) : (wM E st)[9]? = some (aX E 0 8, .inl (cJ E, 16, .inr (.inl (gL st 0 8)))) := rfl
theorem wMa_0_10 (E : Ev) (st : Sg) : (wM E st)[10]? = some (aX E 0 10, .inl (cI E, 6, .inl (gA st 0 10))) := rfl
theorem wMa_0_11 (E : Ev) (st : Sg) : (wM E st)[11]? = some (aX E 0 11, .inl (cI E, 40, .inl (gA st 0 11))) := rfl
theorem wMa_0_12 (E : Ev) (st : Sg) : (wM E st)[12]? = some (aX E 0 12, .inl (cI E, 40, .inl (gA st 0 12))) := rfl
theorem wMa_0_13 (E : Ev) (st : Sg) : (wM E st)[13]? = some (aX E 0 13, .inl (cI E, 40, .inl (gA st 0 13))) := rfl
theorem wMa_0_14 (E : Ev) (st : Sg) : (wM E st)[14]? = some (aX E 0 14, .inl (cI E, 40, .inl (gA st 0 14))) := rfl
theorem wMa_0_16 (E : Ev) (st : Sg) : (wM E st)[15]? = some (aX E 0 16, .inl (cI E, 704, .inl (gA st 0 16))) := rfl
theorem wMa_0_17 (E : Ev) (st : Sg) : (wM E st)[16]? = some (aX E 0 17, .inl (cI E, 704, .inl (gA st 0 17))) := rfl
theorem wMa_0_18 (E : Ev) (st : Sg) : (wM E st)[17]? = some (aX E 0 18, .inl (cI E, 704, .inl (gA st 0 18))) := rfl
theorem wMa_0_19 (E : Ev) (st : Sg) : (wM E st)[18]? = some (aX E 0 19, .inl (cI E, 704, .inl (gA st 0 19))) := rfl
theorem wMa_0_21 (E : Ev) (st : Sg) : (wM E st)[19]? = some (aX E 0 21, .inl (cJ E, 320, .inr (.inl (gL st 0 21)))) := rfl
theorem wMa_0_22 (E : Ev) (st : Sg) : (wM E st)[20]? = some (aX E 0 22, .inl (cJ E, 320, .inr (.inl (gL st 0 22)))) := rfl
theorem wMa_0_23 (E : Ev) (st : Sg) : (wM E st)[21]? = some (aX E 0 23, .inl (cI E, 8, .inl (gA st 0 23))) := rfl
theorem wMa_0_24 (E : Ev) (st : Sg) : (wM E st)[22]? = some (aX E 0 24, .inl (cZ E, 8, .inl (gA st 0 24))) := rfl
theorem wMa_0_25 (E : Ev) (st : Sg) : (wM E st)[23]? = some (aX E 0 25, .inl (cI E, 12, .inl (gA st 0 25))) := rfl
theorem wMa_0_28 (E : Ev) (st : Sg) : (wM E st)[24]? = some (aX E 0 28, .inl (cI E, 16, .inl (gA st 0 28))) := rfl
theorem wMa_0_29 (E : Ev) (st : Sg) : (wM E st)[25]? = some (aX E 0 29, .inl (cI E, 16, .inl (gA st 0 29))) := rfl
theorem wMa_0_30 (E : Ev) (st : Sg) : (wM E st)[26]? = some (aX E 0 30, .inl (cI E, 16, .inl (gA st 0 30))) := rfl
theorem wMa_0_31 (E : Ev) (st : Sg) : (wM E st)[27]? = some (aX E 0 31, .inl (cI E, 16, .inl (gA st 0 31))) := rfl
theorem wMa_0_33 (E : Ev) (st : Sg) : (wM E st)[28]? = some (aX E 0 33, .inl (cI E, 16, .inl (gA st 0 33))) := rfl
theorem wMa_0_34 (E : Ev) (st : Sg) : (wM E st)[29]? = some (aX E 0 34, .inl (cI E, 16, .inl (gA st 0 34))) := rfl
theorem wMa_0_35 (E : Ev) (st : Sg) : (wM E st)[30]? = some (aX E 0 35, .inl (cI E, 60, .inl (gA st 0 35))) := rfl
theorem wMa_0_36 (E : Ev) (st : Sg) : (wM E st)[31]? = some (aX E 0 36, .inl (cI E, 6, .inl (gA st 0 36))) := rfl
theorem wMa_0_37 (E : Ev) (st : Sg) : (wM E st)[32]? = some (aX E 0 37, .inl (cJ E, 3216, .inr (.inl (gL st 0 37)))) := rfl
theorem wMs_0_9 (E : Ev) (st : Sg) (x : Int32) : (wM E st).set 0 (oX E 0, .inr (12, (fM_0 E st).set 9 (.int x))) = wM E (pI st 0 9 x) := rfl
theorem wMs_0_15 (E : Ev) (st : Sg) (x : Int32) : (wM E st).set 0 (oX E 0, .inr (12, (fM_0 E st).set 15 (.int x))) = wM E (pI st 0 15 x) := rfl
theorem wMs_0_20 (E : Ev) (st : Sg) (x : Int32) : (wM E st).set 0 (oX E 0, .inr (12, (fM_0 E st).set 20 (.int x))) = wM E (pI st 0 20 x) := rfl
theorem wMs_0_26 (E : Ev) (st : Sg) (x : Int32) : (wM E st).set 0 (oX E 0, .inr (12, (fM_0 E st).set 26 (.int x))) = wM E (pI st 0 26 x) := rfl
theorem wMs_0_27 (E : Ev) (st : Sg) (x : Int32) : (wM E st).set 0 (oX E 0, .inr (12, (fM_0 E st).set 27 (.int x))) = wM E (pI st 0 27 x) := rfl
theorem wMs_0_32 (E : Ev) (st : Sg) (x : Int32) : (wM E st).set 0 (oX E 0, .inr (12, (fM_0 E st).set 32 (.int x))) = wM E (pI st 0 32 x) := rfl
theorem wMs_0_38 (E : Ev) (st : Sg) (x : Int32) : (wM E st).set 0 (oX E 0, .inr (12, (fM_0 E st).set 38 (.int x))) = wM E (pI st 0 38 x) := rfl
theorem wMs_0_39 (E : Ev) (st : Sg) (x : Int32) : (wM E st).set 0 (oX E 0, .inr (12, (fM_0 E st).set 39 (.int x))) = wM E (pI st 0 39 x) := rfl
theorem wMs_0_40 (E : Ev) (st : Sg) (x : Int32) : (wM E st).set 0 (oX E 0, .inr (12, (fM_0 E st).set 40 (.int x))) = wM E (pI st 0 40 x) := rfl
theorem wMs_0_41 (E : Ev) (st : Sg) (x : Int32) : (wM E st).set 0 (oX E 0, .inr (12, (fM_0 E st).set 41 (.int x))) = wM E (pI st 0 41 x) := rfl
theorem wMs_0_42 (E : Ev) (st : Sg) (x : Int32) : (wM E st).set 0 (oX E 0, .inr (12, (fM_0 E st).set 42 (.int x))) = wM E (pI st 0 42 x) := rfl
theorem wMs_0_43 (E : Ev) (st : Sg) (x : Int32) : (wM E st).set 0 (oX E 0, .inr (12, (fM_0 E st).set 43 (.int x))) = wM E (pI st 0 43 x) := rfl
theorem wMs_0_44 (E : Ev) (st : Sg) (x : Int32) : (wM E st).set 0 (oX E 0, .inr (12, (fM_0 E st).set 44 (.int x))) = wM E (pI st 0 44 x) := rfl
theorem wMt_0_0 (E : Ev) (st : Sg) (z : Nat → Int32) : (wM E st).set 1 (aX E 0 0, .inl (cI E, 16, .inl z)) = wM E (pA st 0 0 z) := rfl
theorem wMt_0_1 (E : Ev) (st : Sg) (z : Nat → Int32) : (wM E st).set 2 (aX E 0 1, .inl (cI E, 16, .inl z)) = wM E (pA st 0 1 z) := rfl
theorem wMt_0_2 (E : Ev) (st : Sg) (z : Nat → Int32) : (wM E st).set 3 (aX E 0 2, .inl (cI E, 16, .inl z)) = wM E (pA st 0 2 z) := rfl
theorem wMt_0_3 (E : Ev) (st : Sg) (z : Nat → Int32) : (wM E st).set 4 (aX E 0 3, .inl (cI E, 16, .inl z)) = wM E (pA st 0 3 z) := rfl
theorem wMt_0_4 (E : Ev) (st : Sg) (z : Nat → Int32) : (wM E st).set 5 (aX E 0 4, .inl (cI E, 16, .inl z)) = wM E (pA st 0 4 z) := rfl
theorem wMt_0_5 (E : Ev) (st : Sg) (z : Nat → Int32) : (wM E st).set 6 (aX E 0 5, .inl (cI E, 48, .inl z)) = wM E (pA st 0 5 z) := rfl
theorem wMt_0_6 (E : Ev) (st : Sg) (z : Nat → Int32) : (wM E st).set 7 (aX E 0 6, .inl (cI E, 48, .inl z)) = wM E (pA st 0 6 z) := rfl
theorem wMt_0_7 (E : Ev) (st : Sg) (z : Nat → Int64) : (wM E st).set 8 (aX E 0 7, .inl (cJ E, 16, .inr (.inl z))) = wM E (pL st 0 7 z) := rfl
theorem wMt_0_8 (E : Ev) (st : Sg) (z : Nat → Int64) : (wM E st).set 9 (aX E 0 8, .inl (cJ E, 16, .inr (.inl z))) = wM E (pL st 0 8 z) := rfl
theorem wMt_0_10 (E : Ev) (st : Sg) (z : Nat → Int32) : (wM E st).set 10 (aX E 0 10, .inl (cI E, 6, .inl z)) = wM E (pA st 0 10 z) := rfl
theorem wMt_0_11 (E : Ev) (st : Sg) (z : Nat → Int32) : (wM E st).set 11 (aX E 0 11, .inl (cI E, 40, .inl z)) = wM E (pA st 0 11 z) := rfl
theorem wMt_0_12 (E : Ev) (st : Sg) (z : Nat → Int32) : (wM E st).set 12 (aX E 0 12, .inl (cI E, 40, .inl z)) = wM E (pA st 0 12 z) := rfl
theorem wMt_0_13 (E : Ev) (st : Sg) (z : Nat → Int32) : (wM E st).set 13 (aX E 0 13, .inl (cI E, 40, .inl z)) = wM E (pA st 0 13 z) := rfl
theorem wMt_0_14 (E : Ev) (st : Sg) (z : Nat → Int32) : (wM E st).set 14 (aX E 0 14, .inl (cI E, 40, .inl z)) = wM E (pA st 0 14 z) := rfl
theorem wMt_0_16 (E : Ev) (st : Sg) (z : Nat → Int32) : (wM E st).set 15 (aX E 0 16, .inl (cI E, 704, .inl z)) = wM E (pA st 0 16 z) := rfl
theorem wMt_0_17 (E : Ev) (st : Sg) (z : Nat → Int32) : (wM E st).set 16 (aX E 0 17, .inl (cI E, 704, .inl z)) = wM E (pA st 0 17 z) := rfl
theorem wMt_0_18 (E : Ev) (st : Sg) (z : Nat → Int32) : (wM E st).set 17 (aX E 0 18, .inl (cI E, 704, .inl z)) = wM E (pA st 0 18 z) := rfl
theorem wMt_0_19 (E : Ev) (st : Sg) (z : Nat → Int32) : (wM E st).set 18 (aX E 0 19, .inl (cI E, 704, .inl z)) = wM E (pA st 0 19 z) := rfl
theorem wMt_0_21 (E : Ev) (st : Sg) (z : Nat → Int64) : (wM E st).set 19 (aX E 0 21, .inl (cJ E, 320, .inr (.inl z))) = wM E (pL st 0 21 z) := rfl
theorem wMt_0_22 (E : Ev) (st : Sg) (z : Nat → Int64) : (wM E st).set 20 (aX E 0 22, .inl (cJ E, 320, .inr (.inl z))) = wM E (pL st 0 22 z) := rfl
theorem wMt_0_23 (E : Ev) (st : Sg) (z : Nat → Int32) : (wM E st).set 21 (aX E 0 23, .inl (cI E, 8, .inl z)) = wM E (pA st 0 23 z) := rfl
theorem wMt_0_24 (E : Ev) (st : Sg) (z : Nat → Int32) : (wM E st).set 22 (aX E 0 24, .inl (cZ E, 8, .inl z)) = wM E (pA st 0 24 z) := rfl
theorem wMt_0_25 (E : Ev) (st : Sg) (z : Nat → Int32) : (wM E st).set 23 (aX E 0 25, .inl (cI E, 12, .inl z)) = wM E (pA st 0 25 z) := rfl
theorem wMt_0_28 (E : Ev) (st : Sg) (z : Nat → Int32) : (wM E st).set 24 (aX E 0 28, .inl (cI E, 16, .inl z)) = wM E (pA st 0 28 z) := rfl
theorem wMt_0_29 (E : Ev) (st : Sg) (z : Nat → Int32) : (wM E st).set 25 (aX E 0 29, .inl (cI E, 16, .inl z)) = wM E (pA st 0 29 z) := rfl
theorem wMt_0_30 (E : Ev) (st : Sg) (z : Nat → Int32) : (wM E st).set 26 (aX E 0 30, .inl (cI E, 16, .inl z)) = wM E (pA st 0 30 z) := rfl
theorem wMt_0_31 (E : Ev) (st : Sg) (z : Nat → Int32) : (wM E st).set 27 (aX E 0 31, .inl (cI E, 16, .inl z)) = wM E (pA st 0 31 z) := rfl
theorem wMt_0_33 (E : Ev) (st : Sg) (z : Nat → Int32) : (wM E st).set 28 (aX E 0 33, .inl (cI E, 16, .inl z)) = wM E (pA st 0 33 z) := rfl
theorem wMt_0_34 (E : Ev) (st : Sg) (z : Nat → Int32) : (wM E st).set 29 (aX E 0 34, .inl (cI E, 16, .inl z)) = wM E (pA st 0 34 z) := rfl
theorem wMt_0_35 (E : Ev) (st : Sg) (z : Nat → Int32) : (wM E st).set 30 (aX E 0 35, .inl (cI E, 60, .inl z)) = wM E (pA st 0 35 z) := rfl
theorem wMt_0_36 (E : Ev) (st : Sg) (z : Nat → Int32) : (wM E st).set 31 (aX E 0 36, .inl (cI E, 6, .inl z)) = wM E (pA st 0 36 z) := rfl
theorem wMt_0_37 (E : Ev) (st : Sg) (z : Nat → Int64) : (wM E st).set 32 (aX E 0 37, .inl (cJ E, 3216, .inr (.inl z))) = wM E (pL st 0 37 z) := rfl
