/-! the trial of the reference -/
def Tok (t : List Nat) : Prop := t.length ≤ 60 ∧ ∀ x ∈ t, x < 500
theorem Tok.app {t : List Nat} (h : Tok t) {n : Nat} (hl : t.length < 60) (hn : n < 500) : Tok (t ++ [n]) := by
  refine ⟨by rw [List.length_append]; show t.length + 1 ≤ 60; omega, fun x hx => ?_⟩
  rw [List.mem_append] at hx
  rcases hx with hx | hx
  · exact h.2 x hx
  · rw [List.mem_singleton] at hx; omega
def putA (t : List Nat) (z : Int) : Int32 := if 0 ≤ z ∧ z ≤ 499 then (if t.length = 60 then I (-4) else I ((t.length + 1 : Nat) : Int)) else I (-2)
def putT (t : List Nat) (z : Int) : List Nat := if 0 ≤ z ∧ z ≤ 499 then (if t.length = 60 then t else t ++ [z.toNat]) else t
theorem Tok.put {t : List Nat} (h : Tok t) (z : Int) : Tok (putT t z) := by
  unfold putT
  by_cases c : 0 ≤ z ∧ z ≤ 499
  · rw [if_pos c]
    by_cases c2 : t.length = 60
    · rw [if_pos c2]; exact h
    · rw [if_neg c2]; exact h.app (by have := h.1; omega) (by omega)
  · rw [if_neg c]; exact h
theorem take_succ' {l : List Nat} {k : Nat} (h : k < l.length) : l.take (k + 1) = l.take k ++ [l.getD k 0] := by
  rw [List.take_add_one, getD_some h]
  rfl
def triA (ch sl : Nat → Nat) (z : Int) : Int32 := if 0 ≤ z ∧ z ≤ 1 then (if z = 1 then (if sl 0 = 0 then I (-3) else I (((fpL ch sl).take 60).length : Nat)) else I (0 : Nat)) else I (-2)
def triT (ch sl : Nat → Nat) (t : List Nat) (z : Int) : List Nat := if 0 ≤ z ∧ z ≤ 1 then (if z = 1 then (if sl 0 = 0 then t else (fpL ch sl).take 60) else []) else t
theorem Tok.tri {ch sl : Nat → Nat} {t : List Nat} (h : Tok t) (z : Int) : Tok (triT ch sl t z) := by
  unfold triT
  split
  · split
    · split
      · exact h
      · exact ⟨by rw [List.length_take]; omega, fun x hx => fpL_num ch sl x (List.mem_of_mem_take hx)⟩
    · exact ⟨Nat.zero_le _, fun x hx => by cases hx⟩
  · exact h
