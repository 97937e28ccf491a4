-- 51.rel: the relation between the class's state and the reference's
-- edges as lists: (from, to, ticks, turns)
abbrev Ed : Type := Int32 × Int32 × Int32 × Int32
/-- a list of edges laid into four rows and a size -/
def LR (sz : Int32) (f1 f2 f3 f4 : Nat → Int32) (l : List Ed) : Prop := sz = nI l.length ∧ ∀ i (h : i < l.length), l[i] = (f1 i, f2 i, f3 i, f4 i)
def opsE (n : Nat) (lag ofs back : Nat → Int32) (b : Nat) : List Ed := (List.range 3).flatMap (fun i => if 0 ≤ ofs (3 * b + i) ∧ ofs (3 * b + i) < nI n then [(ofs (3 * b + i), nI b, lag (ofs (3 * b + i)).toNatClampNeg, back (3 * b + i))] else [])
def isRow (sort : Nat → Int32) (a : Nat) : Prop := sort a = 4 ∨ sort a = 5
def clashP (sort slot : Nat → Int32) (a b : Nat) : Prop := (sort a = 4 ∨ sort a = 5) ∧ (sort b = 4 ∨ sort b = 5) ∧ slot a = slot b ∧ (sort a = 5 ∨ sort b = 5)
def clashE (sort slot : Nat → Int32) (b : Nat) : List Ed := (List.range b).flatMap (fun a => if (sort a = 4 ∨ sort a = 5) ∧ (sort b = 4 ∨ sort b = 5) ∧ slot a = slot b ∧ (sort a = 5 ∨ sort b = 5) then [(nI a, nI b, 1, 0), (nI b, nI a, 1, 1)] else [])
def storeE (n : Nat) (sort : Nat → Int32) (b : Nat) : List Ed := (nI b, nI b, 1, 1) :: (List.range n).flatMap (fun a => if a ≠ b ∧ (sort a = 3 ∨ sort a = 4 ∨ sort a = 5) then (if a < b then [(nI a, nI b, 1, 0)] else []) ++ [(nI a, nI b, 1, 1)] else [])
def edX (n : Nat) (sort lag slot ofs back : Nat → Int32) : List Ed := (List.range n).flatMap (fun b => opsE n lag ofs back b ++ clashE sort slot b ++ (if sort b = 5 then storeE n sort b else []))
def twoE (sort slot : Nat → Int32) (a b : Nat) : List Ed := (if a < b ∧ (sort a = 4 ∨ sort a = 5) ∧ (sort b = 4 ∨ sort b = 5) ∧ slot a = slot b ∧ (sort a = 5 ∨ sort b = 5) then [(nI a, nI b, 1, 0), (nI b, nI a, 1, 1)] else []) ++ (if sort b = 5 ∧ a ≠ b ∧ (sort a = 3 ∨ sort a = 4 ∨ sort a = 5) then (if a < b then [(nI a, nI b, 1, 0)] else []) ++ [(nI a, nI b, 1, 1)] else [])
def edM (n : Nat) (sort lag slot ofs back : Nat → Int32) : List Ed := (List.range n).flatMap (fun b => opsE n lag ofs back b ++ (if sort b = 5 then [(nI b, nI b, 1, 1)] else []) ++ (List.range n).flatMap (fun a => twoE sort slot a b))
/-- the told edges of n -/
def toldL (t : Nat) (f1 f2 f3 f4 : Nat → Int32) : List Ed := (List.range t).map (fun i => (f1 i, f2 i, f3 i, f4 i))
-- the body
def RBo (sx sm : Sg) : Prop := gI sx 1 0 = gI sm 0 9 ∧ gA sx 1 1 = gA sm 0 0 ∧ gA sx 1 2 = gA sm 0 1 ∧ gA sx 1 3 = gA sm 0 2 ∧ gA sx 1 4 = gA sm 0 3 ∧ gA sx 1 5 = gA sm 0 4 ∧ gA sx 1 6 = gA sm 0 5 ∧ gA sx 1 7 = gA sm 0 6 ∧ gL sx 1 8 = gL sm 0 8 ∧ gL sx 1 9 = gL sm 0 7 ∧ gA sx 1 10 = gA sm 0 10
def RTo (sx sm : Sg) : Prop := gI sx 2 0 = gI sm 0 15 ∧ gA sx 2 1 = gA sm 0 11 ∧ gA sx 2 2 = gA sm 0 12 ∧ gA sx 2 3 = gA sm 0 13 ∧ gA sx 2 4 = gA sm 0 14
def inR (x : Int32) (a b : Int) : Prop := a ≤ x.toInt ∧ x.toInt ≤ b
/-- the body's numbers are in their ranges; n acts, t told edges -/
def WBo (acts : Int32) (sort lag kind pat slot ofs back units : Nat → Int32) (n : Nat) : Prop := acts = nI n ∧ n ≤ 16 ∧ (∀ i, i < n → inR (sort i) 0 6 ∧ inR (lag i) 1 12 ∧ inR (kind i) 0 5 ∧ inR (pat i) 1 255 ∧ inR (slot i) (-1) 7 ∧ (sort i = 4 ∨ sort i = 5 → inR (slot i) 0 7)) ∧ (∀ i, i < 3 * n → inR (ofs i) (-1) 15 ∧ inR (back i) (-1) 4 ∧ (0 ≤ (ofs i).toInt → 0 ≤ (back i).toInt) ∧ ((back i).toInt = 0 → (ofs i).toInt < ((i / 3 : Nat) : Int))) ∧ (∀ i, i < n → (¬ sort i = 0 → 0 ≤ (ofs (3 * i)).toInt) ∧ (sort i = 1 ∨ sort i = 2 ∨ sort i = 3 ∨ sort i = 5 ∨ sort i = 6 → 0 ≤ (ofs (3 * i + 1)).toInt) ∧ (sort i = 6 → 0 ≤ (ofs (3 * i + 2)).toInt)) ∧ ∀ i, i < 6 → inR (units i) 0 4
def WTo (size : Int32) (f1 f2 f3 f4 : Nat → Int32) (n t : Nat) : Prop := size = nI t ∧ t ≤ 40 ∧ ∀ i, i < t → inR (f1 i) 0 (n - 1) ∧ inR (f2 i) 0 (n - 1) ∧ inR (f3 i) (-50) 50 ∧ inR (f4 i) 0 4
-- rows
def RRo (sx sm : Sg) : Prop := gA sx 5 0 = gA sm 0 23 ∧ gA sx 5 1 = gA sm 0 24 ∧ (∀ s, s < 8 → inR (gA sm 0 23 s) 0 40 ∧ inR (gA sm 0 24 s) 0 1) ∧ ∀ s i : Nat, s < 8 → (i : Int) < (gA sm 0 23 s).toInt → gL sx 5 2 (40 * s + i) = gL sm 0 21 (40 * s + i)
-- refusals, trials, findings
def RRe (sx sm : Sg) : Prop := gA sx 0 10 = gA sm 0 25 ∧ gI sx 0 9 = gI sm 0 26
def RTr (sx sm : Sg) : Prop := gI sx 7 10 = gI sm 0 32 ∧ gA sx 11 0 = gA sm 0 36
-- the latest run
def ROu (sx sm : Sg) (n : Nat) : Prop := gI sx 16 0 = gI sm 0 38 ∧ gI sx 16 1 = gI sm 0 39 ∧ gI sx 16 2 = gI sm 0 40 ∧ gI sx 16 3 = gI sm 0 41 ∧ gI sx 16 4 = gI sm 0 42 ∧ gI sx 16 5 = gI sm 0 43 ∧ gI sx 16 6 = gI sm 0 44 ∧ inR (gI sm 0 43) 0 1 ∧ inR (gI sm 0 44) 0 200 ∧ (0 < (gI sm 0 44).toInt → ∀ a, a < n → gL sx 16 7 a = gL sm 0 37 (16 * ((gI sm 0 44).toNatClampNeg - 1) + a))
-- the weave
def WvOk (sx : Sg) (n t : Nat) : Prop := LR (gI sx 4 0) (gA sx 4 1) (gA sx 4 2) (gA sx 4 3) (gA sx 4 4) (edX n (gA sx 1 1) (gA sx 1 2) (gA sx 1 5) (gA sx 1 6) (gA sx 1 7) ++ toldL t (gA sx 2 1) (gA sx 2 2) (gA sx 2 3) (gA sx 2 4)) ∧ gI sx 3 1 = nI (edX n (gA sx 1 1) (gA sx 1 2) (gA sx 1 5) (gA sx 1 6) (gA sx 1 7)).length
def RWe (sx : Sg) (n t : Nat) : Prop := gI sx 3 2 = 1 ∨ (gI sx 3 2 = 0 ∧ WvOk sx n t)
/-- what a found laying is: LyP is said where the laying is proved; here what reads need -/
def LyEq (sx sm : Sg) (n : Nat) : Prop := gI sx 9 1 = gI sm 0 27 ∧ inR (gI sm 0 27) 1 60 ∧ ∀ a, a < n → gA sx 9 3 a = gA sm 0 28 a ∧ gA sx 9 4 a = gA sm 0 29 a ∧ gA sx 9 5 a = gA sm 0 30 a ∧ gA sx 9 6 a = gA sm 0 31 a ∧ inR (gA sm 0 31 a) 0 100000
def allX (sx : Sg) (n t : Nat) : List Ed := edX n (gA sx 1 1) (gA sx 1 2) (gA sx 1 5) (gA sx 1 6) (gA sx 1 7) ++ toldL t (gA sx 2 1) (gA sx 2 2) (gA sx 2 3) (gA sx 2 4)
def geI (b : Int) (e : Ed) : Ge := (e.1.toNatClampNeg, e.2.1.toNatClampNeg, e.2.2.1.toInt - b * e.2.2.2.toInt)
/-- what the class's own fields of a found laying are: beat b, ticks T, stages S; it speaks of the class's fields alone -/
def LyX (sx : Sg) (n t : Nat) : Prop := ∃ (b : Nat) (T S : Nat → Nat) (p q : Nat → Int), (1 ≤ b ∧ b ≤ 60 ∧ gI sx 9 1 = nI b ∧ 0 < n) ∧ (∀ a, a < n → T a < b ∧ S a ≤ 960 ∧ gA sx 9 3 a = nI (T a) ∧ gA sx 9 4 a = nI (S a) ∧ gA sx 9 5 a = nI (b * S a + T a)) ∧ gI sx 9 2 = nI (1 + mxN S n) ∧ SolG ((allX sx n t).map (geI b)) (fun a => ((b * S a + T a : Nat) : Int)) ∧ (LeastG n ((allX sx n t).map (geI b)) p ∧ ∀ a, a < n → (gA sx 9 7 a).toInt = p a) ∧ (LeastG n (((allX sx n t).map (geI b)).map turnG) q ∧ ∀ a, a < n → (gA sx 9 8 a).toInt = mxI p n - q a) ∧ (∀ k r, k < 6 → r < b → gA sx 10 0 (60 * k + r) = nI (celN (gA sx 1 3) (gA sx 1 4) T b k r n)) ∧ (∀ a, a < n → gA sx 9 9 a = nI ((lfI (fun a => ((b * S a + T a : Nat) : Int)) b (gA sx 1 6) (gA sx 1 7) a (3 * n)).toNat / b + 1)) ∧ ∀ i (h : i < (ordL b T n).length), gA sx 9 10 i = nI ((ordL b T n)[i])
theorem lyX_congr {sx sy : Sg} {n t : Nat} (hI : ∀ k, gI sy 9 k = gI sx 9 k) (h1 : ∀ k, gA sy 1 k = gA sx 1 k) (h2 : ∀ k, gA sy 2 k = gA sx 2 k) (h9 : ∀ k, k ≠ 6 → gA sy 9 k = gA sx 9 k) (h10 : gA sy 10 0 = gA sx 10 0) (h : LyX sx n t) : LyX sy n t := by
  have e : allX sy n t = allX sx n t := by unfold allX; rw [h1, h1, h1, h1, h1, h2, h2, h2, h2]
  unfold LyX at h ⊢
  rw [e, hI, hI, h1, h1, h1, h1, h9 3 (by omega), h9 4 (by omega), h9 5 (by omega), h9 7 (by omega), h9 8 (by omega), h9 9 (by omega), h9 10 (by omega), h10]
  exact h
def RLy (sx sm : Sg) (n t : Nat) : Prop := (gI sx 9 0 = 0 ∧ gI sm 0 27 = 0) ∨ (gI sx 9 0 = 1 ∧ LyEq sx sm n ∧ LyX sx n t)
def Rel (sx sm : Sg) : Prop := ∃ n t : Nat, WBo (gI sm 0 9) (gA sm 0 0) (gA sm 0 1) (gA sm 0 2) (gA sm 0 3) (gA sm 0 4) (gA sm 0 5) (gA sm 0 6) (gA sm 0 10) n ∧ WTo (gI sm 0 15) (gA sm 0 11) (gA sm 0 12) (gA sm 0 13) (gA sm 0 14) n t ∧ RBo sx sm ∧ RTo sx sm ∧ RRo sx sm ∧ RRe sx sm ∧ RTr sx sm ∧ ROu sx sm n ∧ RWe sx n t ∧ RLy sx sm n t
/-- both sides answer alike, and stay related -/
def Sim {α : Type} (mx mm : Option (α × Sg)) : Prop := ∃ r sx sm, mx = some (r, sx) ∧ mm = some (r, sm) ∧ Rel sx sm
