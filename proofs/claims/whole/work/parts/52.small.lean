/-! the small calls -/
theorem t10 : (10 : Int32).toNatClampNeg = 10 := by decide
theorem m_wipe {ch sl : Nat → Nat} {σ : St} (hm : MT ch sl σ) : s_X11_wipe 30 σ = some (I (sl 10 : Nat), setI σ 32 10 (I (0 : Nat))) := by
  have hs := hm.1
  have h11 : inR (10 : Int32) 11 = true := by decide
  unfold s_X11_wipe
  rw [if_pos (hs.o 11 30 (by decide)), hs.p 30 1 32 (by decide), op_eq, if_pos (hs.o 13 32 (by decide)), hs.len 32 11 (by decide), if_pos h11, lt_eq, if_pos h11, lt_eq, t10, hm.2.2.1]
  rfl
