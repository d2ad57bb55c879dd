/-! where the law's loop begins -/
def z0 : Nat → Nat := fun _ => 0
def stI (L : Nat) (xs : Nat → Int32) : St := (1, 0, fun _ => (13, L), fun _ i => xs i, fun _ _ => 0, fun _ _ => none)
theorem ds_0 (L : Nat) (xs : Nat → Int32) : Ds L xs 2 12 (fun _ => 0) [] [] (newC (stI L xs) 10 12) := by
  have hg : Gr (fun _ _ => False) (fun _ _ => False) (stI L xs) (newC (stI L xs) 10 12) := new_gr _ 10 12
  refine ⟨rfl, rfl, fun a q1 q2 => ?_, ⟨rfl, fun k => hg.2.2.1 0 k (show 0 < 1 by decide) id⟩, fun a k q1 q2 => ?_, fun a k q1 q2 => ?_, fun a k q1 q2 => ?_, fun q hq => (by cases hq), fun q hq => (by cases hq)⟩
  · obtain rfl : a = 1 := by omega
    rfl
  · obtain rfl : a = 1 := by omega
    rfl
  · obtain rfl : a = 1 := by omega
    rfl
  · obtain rfl : a = 1 := by omega
    rfl
theorem GI_z : GI z0 z0 := ⟨⟨fun s _ => ⟨Nat.zero_le _, fun i q => absurd q (Nat.not_lt_zero i), fun _ _ _ => rfl⟩, fun _ => Nat.zero_le _⟩, fun s _ q => absurd rfl q, by decide, by decide⟩
theorem I_m6 : (-6 : Int32) = I (-6) := rfl
