-- 50.terms: words that the relation needs: graphs, cells, lives, the order of a laid run
abbrev Ge : Type := Nat × Nat × Int
def SolG (E : List Ge) (q : Nat → Int) : Prop := ∀ e ∈ E, q e.1 + e.2.2 ≤ q e.2.1
def InG (n : Nat) (E : List Ge) : Prop := ∀ e ∈ E, e.1 < n ∧ e.2.1 < n
/-- p is the least solution that isn't negative -/
def LeastG (n : Nat) (E : List Ge) (p : Nat → Int) : Prop := (∀ v, v < n → 0 ≤ p v) ∧ SolG E p ∧ ∀ q : Nat → Int, (∀ v, v < n → 0 ≤ q v) → SolG E q → ∀ v, v < n → p v ≤ q v
def biF (p : Int32) (k : Nat) : Int32 := (p >>> (nI k &&& 31)) &&& 1
def biN (p : Int32) (i : Nat) : Nat := if biF p i = 0 then 0 else 1
def hiN (b T : Nat) (p : Int32) (t : Nat) : Nat → Nat
  | 0 => 0
  | i + 1 => hiN b T p t i + if (T + i) % b = t then biN p i else 0
/-- the acts of kind k among the first m that fill tick t -/
def celN (kind pat : Nat → Int32) (T : Nat → Nat) (b k t : Nat) : Nat → Nat
  | 0 => 0
  | m + 1 => celN kind pat T b k t m + if kind m = nI k then hiN b (T m) (pat m) t 8 else 0
def mxN (S : Nat → Nat) : Nat → Nat
  | 0 => 0
  | m + 1 => if mxN S m < S m then S m else mxN S m
def mxI (p : Nat → Int) : Nat → Int
  | 0 => 0
  | m + 1 => if mxI p m < p m then p m else mxI p m
def turnG (e : Ge) : Ge := (e.2.1, e.1, e.2.2)
/-- how long what act a comes to is wanted, by the first k operands -/
def lfI (B : Nat → Int) (b : Int) (ofs back : Nat → Int32) (a : Nat) : Nat → Int
  | 0 => 0
  | k + 1 => if ofs k = nI a ∧ lfI B b ofs back a k < B (k / 3) + b * (back k).toInt - B a then B (k / 3) + b * (back k).toInt - B a else lfI B b ofs back a k
/-- the acts by their ticks, then by their numbers -/
def ordL (b : Nat) (T : Nat → Nat) (n : Nat) : List Nat := (List.range b).flatMap (fun r => (List.range n).filter (fun a => decide (T a = r)))
