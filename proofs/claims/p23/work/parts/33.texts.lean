/-! all texts: how long each is, where each begins -/
def Txt (ch : Nat → Nat) (sl : Nat → Nat) : Prop := (∀ s, s ≤ 10 → sl s ≤ 60 ∧ (∀ i, i < sl s → 33 ≤ ch (64 * s + i)) ∧ (∀ i, sl s ≤ i → i < 64 → ch (64 * s + i) = 0)) ∧ ∀ i, ch i ≤ 126
def Valid (ch : Nat → Nat) (sl : Nat → Nat) : Prop := ∀ s, s < 10 → sl s ≠ 0 → if s = 0 then fG ch s (sl s) = none else fO ch s (sl s) = none
def sR (ch : Nat → Nat) (s : Nat) : PR := if s = 0 then G64 ch (64 * s) else poff (G64 ch) ch (64 * s)
def nN (ch : Nat → Nat) (sl : Nat → Nat) (s : Nat) : Nat := if sl s = 0 then 0 else (sR ch s).2.2.1
def lL (ch : Nat → Nat) (sl : Nat → Nat) (s : Nat) : Nat := if sl s = 0 then 0 else (sR ch s).2.2.2
def tot (f : Nat → Nat) (but : Nat) : Nat → Nat
  | 0 => 0
  | s + 1 => tot f but s + if s = but then 0 else f s
def oS (s : Nat) : Nat := if 6 ≤ s then s + 2 else s - 1
theorem Valid.g {ch sl : Nat → Nat} (h : Valid ch sl) (h0 : sl 0 ≠ 0) : fG ch 0 (sl 0) = none := by
  have := h 0 (by omega) h0
  rw [if_pos rfl] at this
  exact this
theorem Valid.o {ch sl : Nat → Nat} (h : Valid ch sl) {s : Nat} (hs : s < 10) (h0 : sl s ≠ 0) (h1 : s ≠ 0) : fO ch s (sl s) = none := by
  have := h s hs h0
  rw [if_neg h1] at this
  exact this
