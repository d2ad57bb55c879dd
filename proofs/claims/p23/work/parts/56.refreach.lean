/-! the reference: whether a goal is reached, and the least heights -/
theorem kd_ne {ch : Nat → Nat} {p : Nat} (h : ch p ≠ 40) : kd ch p = ch p := by unfold kd; rw [if_neg h]
theorem isAt_iff {c : Nat} : isAt c = true ↔ 97 ≤ c ∧ c ≤ 104 := by unfold isAt; rw [decide_eq_true_iff]
theorem isOp_iff {c : Nat} : isOp c = true ↔ c = 42 ∨ c = 38 ∨ c = 43 := by unfold isOp; rw [decide_eq_true_iff]
theorem stp_at {ch : Nat → Nat} {T : Nat → Bool} {B : Nat → Nat → Bool} {p s : Nat} (h : isAt (kd ch p) = true) : stp ch T B p s = (fstN (tol ch B (kd ch p) s) 36 0).isSome := by
  rw [isAt_iff] at h
  unfold stp
  rw [if_neg (by omega), if_neg (by omega), if_neg (by omega), if_neg (by omega), if_neg (by omega), if_neg (by omega), if_neg (by omega)]
theorem stp_49 {ch : Nat → Nat} {T : Nat → Bool} {B : Nat → Nat → Bool} {p s : Nat} (h : kd ch p = 49) : stp ch T B p s = decide (s = 0) := by unfold stp; rw [h, if_pos rfl]
theorem stp_84 {ch : Nat → Nat} {T : Nat → Bool} {B : Nat → Nat → Bool} {p s : Nat} (h : kd ch p = 84) : stp ch T B p s = T s := by unfold stp; rw [h, if_neg (by decide), if_pos rfl]
theorem stp_33 {ch : Nat → Nat} {T : Nat → Bool} {B : Nat → Nat → Bool} {p s : Nat} (h : kd ch p = 33) : stp ch T B p s = (decide (s = 0) && B (ch1 ch p) 0) := by unfold stp; rw [h, if_neg (by decide), if_neg (by decide), if_pos rfl]
theorem stp_42 {ch : Nat → Nat} {T : Nat → Bool} {B : Nat → Nat → Bool} {p s : Nat} (h : kd ch p = 42) : stp ch T B p s = (fstN (splt ch B p s) 256 0).isSome := by unfold stp; rw [h, if_neg (by decide), if_neg (by decide), if_neg (by decide), if_pos rfl]
theorem stp_38 {ch : Nat → Nat} {T : Nat → Bool} {B : Nat → Nat → Bool} {p s : Nat} (h : kd ch p = 38) : stp ch T B p s = (B (ch1 ch p) s && B (ch2 ch p) s) := by unfold stp; rw [h, if_neg (by decide), if_neg (by decide), if_neg (by decide), if_neg (by decide), if_pos rfl]
theorem stp_43 {ch : Nat → Nat} {T : Nat → Bool} {B : Nat → Nat → Bool} {p s : Nat} (h : kd ch p = 43) : stp ch T B p s = (B (ch1 ch p) s || B (ch2 ch p) s) := by unfold stp; rw [h, if_neg (by decide), if_neg (by decide), if_neg (by decide), if_neg (by decide), if_neg (by decide), if_pos rfl]
theorem stp_91 {ch : Nat → Nat} {T : Nat → Bool} {B : Nat → Nat → Bool} {p s : Nat} (h : kd ch p = 91) : stp ch T B p s = (!(s.testBit (ln ch p)) && B (ch1 ch p) (s ||| 2 ^ ln ch p)) := by unfold stp; rw [h, if_neg (by decide), if_neg (by decide), if_neg (by decide), if_neg (by decide), if_neg (by decide), if_neg (by decide), if_pos rfl]
theorem numK_lt {k : Nat} (h : k < 36) : numK k < 133 := by unfold numK; split <;> omega
theorem fst36 {P : Nat → Bool} : ∀ k, fstN P 36 0 = some k → k < 36 := fun k h => by have := (fstN_some h).2.1; omega
theorem pow8 {n : Nat} (h : n < 8) : 2 ^ n < 256 := by
  have : 2 ^ n ≤ 2 ^ 7 := Nat.pow_le_pow_right (by decide) (by omega)
  omega
theorem neg_if {c : Prop} [Decidable c] {b : Bool} {σ : St} (h : c ↔ b = false) : (if c then some ((0 : Int32), σ) else some (1, σ)) = some (bI b, σ) := by
  cases b with
  | false => rw [if_pos (h.2 rfl)]; rfl
  | true => rw [if_neg (fun q => by have := h.1 q; cases this)]; rfl
