/-! a whole text: where its fault is -/
def fG (ch : Nat → Nat) (s n : Nat) : Option Nat := if (G64 ch (64 * s)).1 = true ∧ (G64 ch (64 * s)).2.1 = 64 * s + n then none else some ((G64 ch (64 * s)).2.1 - 64 * s)
def fO (ch : Nat → Nat) (s n : Nat) : Option Nat := if (poff (G64 ch) ch (64 * s)).1 = true ∧ (poff (G64 ch) ch (64 * s)).2.1 = 64 * s + n then none else some ((poff (G64 ch) ch (64 * s)).2.1 - 64 * s)
