/-! the reference over its rows of the graph -/
def numK (k : Nat) : Nat := if k < 24 then 10 * (k / 3) + k % 3 else 100 + 10 * ((k - 24) / 3) + (k - 24) % 3
theorem d3 {k : Nat} (hk : k < 100000) : I (k : Nat) / 3 = I ((k / 3 : Nat) : Int) := by rw [show (3 : Int32) = I ((3 : Nat) : Int) from rfl, I_div (by omega) (by omega)]
theorem r3 {k : Nat} : I (k : Nat) - I ((k / 3 : Nat) : Int) * 3 = I ((k % 3 : Nat) : Int) := by
  rw [I_lit, I_mul, I_sub]
  exact congrArg I (by omega)
def fpR (o : Option Nat) : Int32 := match o with
  | none => I (-6)
  | some k => I (k : Nat)
