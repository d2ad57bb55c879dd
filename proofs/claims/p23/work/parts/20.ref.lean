/-! the reference's reader: one sign at a time, over a row of what is open -/
theorem sIn {σ : St} {a k x y : Nat} {v : Int32} (h : x ≠ a ∨ y ≠ k) : sI (setI σ a k v) x y = sI σ x y := by rw [sI_I, if_neg (by omega)]
theorem sIe {σ : St} {a k : Nat} {v : Int32} : sI (setI σ a k v) a k = v := by rw [sI_I, if_pos ⟨rfl, rfl⟩]
theorem inN {i n : Nat} (h : i < n) (hn : n < 100000) : inR (I (i : Nat)) n = true := by
  rw [inR_I (by omega)]
  simp
  omega
theorem tNI {i : Nat} (h : i < 100000) : (I (i : Nat)).toNatClampNeg = i := by rw [I_nat (by omega) (by omega)]; omega
theorem I_p1 (n : Nat) : I (n : Nat) + 1 = I ((n + 1 : Nat) : Int) := by rw [I_lit, I_add]; rfl
theorem I_m1 {n : Nat} (h : 1 ≤ n) : I (n : Nat) - 1 = I ((n - 1 : Nat) : Int) := by rw [I_lit, I_sub, show ((n - 1 : Nat) : Int) = (n : Int) - 1 by omega]
