/-! the reference lays the first proof: a stack of goals -/
theorem d10 {k : Nat} (hk : k < 100000) : I (k : Nat) / 10 = I ((k / 10 : Nat) : Int) := by rw [show (10 : Int32) = I ((10 : Nat) : Int) from rfl, I_div (by omega) (by omega)]
theorem r10 {k : Nat} : I (k : Nat) - I ((k / 10 : Nat) : Int) * 10 = I ((k % 10 : Nat) : Int) := by
  rw [I_lit, I_mul, I_sub]
  exact congrArg I (by omega)
theorem numK_o {k : Nat} (hk : k < 36) : (if numK k < 100 then numK k / 10 else 8 + (numK k - 100) / 10) = k / 3 ∧ numK k % 10 = k % 3 ∧ (numK k < 100 ↔ k < 24) := by
  unfold numK
  by_cases c : k < 24
  · rw [if_pos c, if_pos (by omega)]; omega
  · rw [if_neg c, if_neg (by omega)]; omega
