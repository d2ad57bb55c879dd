theorem Fr.fx {C : Nat → Nat → Prop} {σ σ' : St} (h : Fr C σ σ') (CL : Nat → Nat → Prop) : FX C CL σ σ' :=
  ⟨h.1, h.2.1, h.2.2.1, h.2.2.2.2.1, fun a k q => h.2.2.2.2.2 a k q, fun a k _ => by rw [h.2.2.2.1]⟩
def waysA (ch sl : Nat → Nat) (z h : Int) : Int32 := if isSub z (all5 sl) = true then (if 0 ≤ h ∧ h ≤ 10 then (if sl 0 = 0 then I (-3) else I (Wy ch h.toNat 0 z.toNat : Nat)) else I (-2)) else I (-1)
