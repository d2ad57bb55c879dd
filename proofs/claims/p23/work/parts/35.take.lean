/-! the reference takes a text -/
def bufR (ch : Nat → Nat) (g : Nat) : PR := if g = 1 then G64 ch 640 else poff (G64 ch) ch 640
def bufF (ch sl : Nat → Nat) (g : Nat) : Option Nat := if g = 1 then fG ch 10 (sl 10) else fO ch 10 (sl 10)
def free (sl : Nat → Nat) (a : Nat) : Nat → Option Nat
  | 0 => none
  | c + 1 => if sl a = 0 then some a else free sl (a + 1) c
def oI (o : Option Nat) : Int32 := match o with
  | none => I (-6)
  | some k => I (k : Nat)
theorem free_lt {sl : Nat → Nat} {k : Nat} : ∀ (c a : Nat), free sl a c = some k → a ≤ k ∧ k < a + c ∧ sl k = 0 := by
  intro c
  induction c with
  | zero => intro a h; cases h
  | succ c ih =>
    intro a h
    unfold free at h
    by_cases c0 : sl a = 0
    · rw [if_pos c0] at h
      cases h
      exact ⟨by omega, by omega, c0⟩
    · rw [if_neg c0] at h
      have := ih (a + 1) h
      omega
def slotOf (sl : Nat → Nat) (fr to g : Nat) : Option Nat := if g = 1 then some 0 else free sl fr (to + 1 - fr)
theorem bufR_fits {ch sl : Nat → Nat} (ht : Txt ch sl) {g : Nat} (h : bufF ch sl g = none) : (bufR ch g).2.2.1 ≤ 60 ∧ (bufR ch g).2.2.2 ≤ 60 := by
  have h60 := (ht.1 10 (by omega)).1
  unfold bufF at h
  unfold bufR
  by_cases c : g = 1
  · rw [if_pos c] at h ⊢
    obtain ⟨a, b⟩ := fG_ok h
    have hf := pgoal_fits ch 64 (64 * 10) a
    have : (G64 ch (64 * 10)) = pgoal ch 64 (64 * 10) := rfl
    rw [← this, b] at hf
    show (G64 ch (64 * 10)).2.2.1 ≤ 60 ∧ (G64 ch (64 * 10)).2.2.2 ≤ 60
    omega
  · rw [if_neg c] at h ⊢
    obtain ⟨a, b⟩ := fO_ok h
    have hf := poff_fits (ch := ch) (pgoal_fits ch 64) (64 * 10) a
    have : (poff (G64 ch) ch (64 * 10)) = poff (pgoal ch 64) ch (64 * 10) := rfl
    rw [← this, b] at hf
    show (poff (G64 ch) ch (64 * 10)).2.2.1 ≤ 60 ∧ (poff (G64 ch) ch (64 * 10)).2.2.2 ≤ 60
    omega
