/-! the answers, as functions of what can be proved; and the reference's queries -/
def stB (f : Nat → Bool) : Nat → Nat
  | 0 => 0
  | k + 1 => stB f k ||| (if f k = true then 2 ^ k else 0)
theorem stB_lt (f : Nat → Bool) : ∀ k, stB f k < 2 ^ k := by
  intro k
  induction k with
  | zero => exact Nat.lt_succ_self 0
  | succ k ih =>
    have h1 : 2 ^ k < 2 ^ (k + 1) := Nat.pow_lt_pow_right (by decide) (by omega)
    unfold stB
    refine Nat.or_lt_two_pow (by omega) ?_
    split
    · exact h1
    · omega
theorem stB_bit (f : Nat → Bool) : ∀ k i, (stB f k).testBit i = (decide (i < k) && f i) := by
  intro k
  induction k with
  | zero => intro i; rw [stB, Nat.zero_testBit, decide_eq_false (by omega)]; rfl
  | succ k ih =>
    intro i
    rw [stB, Nat.testBit_or, ih]
    by_cases e : f k = true
    · rw [if_pos e, Nat.testBit_two_pow]
      by_cases e2 : k = i
      · rw [← e2, decide_eq_true rfl, e, decide_eq_true (Nat.lt_succ_self k), Bool.or_true]; rfl
      · rw [decide_eq_false e2, Bool.or_false]
        by_cases e3 : i < k
        · rw [decide_eq_true e3, decide_eq_true (by omega)]
        · rw [decide_eq_false e3, decide_eq_false (by omega)]
    · rw [if_neg e, Nat.zero_testBit, Bool.or_false]
      by_cases e2 : i = k
      · rw [e2, Bool.eq_false_iff.2 e, Bool.and_false, Bool.and_false]
      · by_cases e3 : i < k
        · rw [decide_eq_true e3, decide_eq_true (by omega)]
        · rw [decide_eq_false e3, decide_eq_false (by omega)]
/-- the set of the slots that are taken, from one on -/
def thr (sl : Nat → Nat) (a n : Nat) : Nat := stB (fun k => decide (sl (a + k) ≠ 0)) n
def all5 (sl : Nat → Nat) : Nat := thr sl 1 5
theorem all5_lt (sl : Nat → Nat) : all5 sl < 32 := stB_lt _ 5
/-- whether an int is a set of resources that are there -/
def isSub (z : Int) (a : Nat) : Bool := decide (0 ≤ z ∧ z.toNat &&& a = z.toNat)
theorem sub_le {x a : Nat} (h : x &&& a = x) : x ≤ a := by rw [← h]; exact Nat.and_le_right
/-! the reference's answers -/
def hgt (ch : Nat → Nat) (s : Nat) : Nat := lhM ch 10 0 s
theorem hgt_le (ch : Nat → Nat) (s : Nat) : hgt ch s ≤ 10 := by unfold hgt lhM; generalize (fun g => Lv ch one g 0 s) = P; exact lst_le P 10
def hR (n : Nat) : Int32 := if n = 0 then I (-6) else I (n : Nat)
