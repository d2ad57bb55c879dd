/-! the reference's answers: height, left, fewest, needed -/
def GI (ch sl : Nat → Nat) : Prop := Txt ch sl ∧ Valid ch sl ∧ tot (nN ch sl) 99 10 ≤ 60 ∧ tot (lL ch sl) 99 10 ≤ 3
def lf (P : Nat → Bool) (z : Int) : Nat → Nat → Nat → Int
  | 0, _, n => if z = -1 then n else -6
  | j + 1, k, n => if P k = true then (if (n : Int) = z then k else lf P z j (k + 1) (n + 1)) else lf P z j (k + 1) n
def lefP (ch : Nat → Nat) (a h s : Nat) : Bool := decide (s &&& a = s) && Lv ch one h 0 (a ^^^ s)
def bet (k : Nat) (b : Option Nat) : Bool := match b with
  | none => true
  | some x => decide (pcn k < pcn x)
def fw (P : Nat → Bool) : Nat → Nat → Option Nat → Option Nat
  | 0, _, b => b
  | j + 1, k, b => fw P j (k + 1) (if P k = true then (if bet k b = true then some k else b) else b)
def fewP (ch : Nat → Nat) (a s : Nat) : Bool := decide (s &&& a = s) && Lv ch one 10 0 s
def needP (ch : Nat → Nat) (a n : Nat) : Bool := a.testBit n && !(Lv ch one 10 0 (a ^^^ 2 ^ n))
/-! the calls -/
def hgtA (ch sl : Nat → Nat) (z : Int) : Int32 := if isSub z (all5 sl) = true then (if sl 0 = 0 then I (-3) else hR (hgt ch z.toNat)) else I (-1)
def lefA (ch sl : Nat → Nat) (h i : Int) : Int32 := if (0 ≤ h ∧ h ≤ 10) ∧ -1 ≤ i then (if sl 0 = 0 then I (-3) else I (lf (lefP ch (all5 sl) h.toNat) i 32 0 0)) else I (-2)
def fewA (ch sl : Nat → Nat) : Int32 := if sl 0 = 0 then I (-3) else fpR (fw (fewP ch (all5 sl)) 32 0 none)
def needA (ch sl : Nat → Nat) : Int32 := if sl 0 = 0 then I (-3) else I ((stB (needP ch (all5 sl)) 5 : Nat) : Int)
