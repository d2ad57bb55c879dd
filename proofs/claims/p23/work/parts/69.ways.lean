/-! how many ways there are -/
def cap (n : Nat) : Nat := if 999999999 < n then 999999999 else n
theorem cap_le (n : Nat) : cap n ≤ 999999999 := by unfold cap; split <;> omega
theorem cap_id {n : Nat} (h : n ≤ 999999999) : cap n = n := by unfold cap; rw [if_neg (by omega)]
theorem cap_l (a b : Nat) : cap (cap a + b) = cap (a + b) := by unfold cap; split <;> split <;> (try split) <;> omega
def tolW (ch : Nat → Nat) (B : Nat → Nat → Nat) (c o f r : Nat) : Nat := match fp ch o f with
  | none => 0
  | some q => if ch q = c then (if ch (q + 1) = 60 then B (q + 2) r else if r = 0 then 1 else 0) else 0
def tlW (ch : Nat → Nat) (B : Nat → Nat → Nat) (c s k : Nat) : Nat := match afU (k / 3) s with
  | none => 0
  | some r => tolW ch B c (k / 3) (k % 3) r
def smW (P : Nat → Nat) : Nat → Nat
  | 0 => 0
  | k + 1 => smW P k + P k
def spW (ch : Nat → Nat) (B : Nat → Nat → Nat) (p s part : Nat) : Nat := if part &&& s = part then B (ch1 ch p) part * B (ch2 ch p) (s ^^^ part) else 0
def stW (ch : Nat → Nat) (B : Nat → Nat → Nat) (p s : Nat) : Nat :=
  if kd ch p = 49 then (if s = 0 then 1 else 0)
  else if kd ch p = 84 then 1
  else if kd ch p = 33 then (if s = 0 then B (ch1 ch p) 0 else 0)
  else if kd ch p = 42 then smW (spW ch B p s) 256
  else if kd ch p = 38 then B (ch1 ch p) s * B (ch2 ch p) s
  else if kd ch p = 43 then B (ch1 ch p) s + B (ch2 ch p) s
  else if kd ch p = 91 then (if s.testBit (ln ch p) = true then 0 else B (ch1 ch p) (s ||| 2 ^ ln ch p))
  else smW (tlW ch B (kd ch p) s) 36
def Wy (ch : Nat → Nat) : Nat → Nat → Nat → Nat
  | 0 => fun _ _ => 0
  | h + 1 => fun p s => cap (stW ch (Wy ch h) p s)
theorem Wy_le {ch : Nat → Nat} {h p s : Nat} : Wy ch h p s ≤ 999999999 := by
  cases h with
  | zero => exact Nat.zero_le _
  | succ h => exact cap_le _
theorem smW_0 {P : Nat → Nat} : ∀ {k : Nat}, (∀ i, i < k → P i = 0) → smW P k = 0 := by
  intro k
  induction k with
  | zero => intro _; rfl
  | succ k ih => intro h; rw [smW, ih (fun i hi => h i (by omega)), h k (by omega)]
theorem fstN_no {P : Nat → Bool} {n : Nat} (h : (fstN P n 0).isSome = false) : ∀ q, q < n → P q = false := by
  intro q hq
  cases e : fstN P n 0 with
  | none => exact fstN_none e q (by omega) (by omega)
  | some i => rw [e] at h; cases h
/-- where nothing can be proved, there is no way -/
theorem stW_0 {ch : Nat → Nat} {B : Nat → Nat → Nat} {C : Nat → Nat → Bool} (hB : ∀ p s, C p s = false → B p s = 0) {p s : Nat} (h : stp ch one C p s = false) : stW ch B p s = 0 := by
  unfold stp at h
  unfold stW
  by_cases c1 : kd ch p = 49
  · rw [if_pos c1] at h ⊢; rw [if_neg (of_decide_eq_false h)]
  rw [if_neg c1] at h ⊢
  by_cases c2 : kd ch p = 84
  · rw [if_pos c2] at h; cases h
  rw [if_neg c2] at h ⊢
  by_cases c3 : kd ch p = 33
  · rw [if_pos c3] at h ⊢
    by_cases c : s = 0
    · rw [decide_eq_true c, Bool.true_and] at h
      rw [if_pos c, hB _ _ h]
    · rw [if_neg c]
  rw [if_neg c3] at h ⊢
  by_cases c4 : kd ch p = 42
  · rw [if_pos c4] at h ⊢
    refine smW_0 (fun q hq => ?_)
    have h1 := fstN_no h q hq
    unfold splt at h1
    unfold spW
    by_cases c : q &&& s = q
    · rw [decide_eq_true c, Bool.true_and] at h1
      rw [if_pos c]
      cases e : C (ch1 ch p) q with
      | false => rw [hB _ _ e, Nat.zero_mul]
      | true => rw [e, Bool.true_and] at h1; rw [hB _ _ h1, Nat.mul_zero]
    · rw [if_neg c]
  rw [if_neg c4] at h ⊢
  by_cases c5 : kd ch p = 38
  · rw [if_pos c5] at h ⊢
    cases e : C (ch1 ch p) s with
    | false => rw [hB _ _ e, Nat.zero_mul]
    | true => rw [e, Bool.true_and] at h; rw [hB _ _ h, Nat.mul_zero]
  rw [if_neg c5] at h ⊢
  by_cases c6 : kd ch p = 43
  · rw [if_pos c6] at h ⊢
    rw [Bool.or_eq_false_iff] at h
    rw [hB _ _ h.1, hB _ _ h.2]
  rw [if_neg c6] at h ⊢
  by_cases c7 : kd ch p = 91
  · rw [if_pos c7] at h ⊢
    cases e : s.testBit (ln ch p) with
    | true => rfl
    | false =>
      rw [e] at h
      rw [if_neg (by decide)]
      exact hB _ _ h
  rw [if_neg c7] at h ⊢
  refine smW_0 (fun q hq => ?_)
  have h1 := fstN_no h q hq
  unfold tol at h1
  unfold tlW
  cases e : afU (q / 3) s with
  | none => rfl
  | some r =>
    rw [e] at h1
    change tolR ch C _ _ _ r = false at h1
    show tolW ch B _ _ _ r = 0
    unfold tolR at h1
    unfold tolW
    cases e2 : fp ch (q / 3) (q % 3) with
    | none => rfl
    | some x =>
      rw [e2] at h1
      change (decide (ch x = _) && _) = false at h1
      show (if ch x = _ then _ else 0) = 0
      by_cases c8 : ch x = kd ch p
      · rw [decide_eq_true c8, Bool.true_and] at h1
        rw [if_pos c8]
        by_cases c9 : ch (x + 1) = 60
        · rw [if_pos c9] at h1 ⊢; exact hB _ _ h1
        · rw [if_neg c9] at h1 ⊢; rw [if_neg (of_decide_eq_false h1)]
      · rw [if_neg c8]
theorem Wy_0 {ch : Nat → Nat} : ∀ {h p s : Nat}, Lv ch one h p s = false → Wy ch h p s = 0 := by
  intro h
  induction h with
  | zero => intro p s _; rfl
  | succ h ih =>
    intro p s q
    show cap (stW ch (Wy ch h) p s) = 0
    rw [stW_0 (fun p s => ih) q]
    rfl
/-! longs -/
theorem L_bv (n : Nat) : (L (n : Int)).toBitVec = BitVec.ofNat 64 n := by
  show (Int64.ofInt (n : Int)).toBitVec = _
  rw [Int64.toBitVec_ofInt]
  exact BitVec.ofInt_natCast 64 n
theorem gb_L (n i : Nat) : gb (L (n : Int)) i = (decide (i < 64) && n.testBit i) := by
  unfold gb
  rw [L_bv, BitVec.getLsbD_ofNat]
theorem pk_bit {st v : Nat} (hv : v < 4294967296) (i : Nat) : (4294967296 * st + v).testBit i = if i < 32 then v.testBit i else st.testBit (i - 32) := Nat.testBit_two_pow_mul_add st (i := 32) hv i
theorem L_hi {st v : Nat} (hst : st < 2147483648) (hv : v < 4294967296) : ((L ((4294967296 * st + v : Nat) : Int)).toUInt64 >>> ((32 : Int32).toInt64.toUInt64 &&& Int64.toUInt64 63)).toInt64 = L (st : Int) := by
  apply gb_ext
  intro i hi
  have := gb_shr (L ((4294967296 * st + v : Nat) : Int)) (n := 32) (by omega) i
  rw [show (32 : Int32) = I ((32 : Nat) : Int) from rfl, this, gb_L, gb_L, pk_bit hv, if_neg (by omega), show 32 + i - 32 = i by omega]
  by_cases c : 32 + i < 64
  · rw [decide_eq_true c, decide_eq_true hi]
  · rw [decide_eq_false c, decide_eq_true hi, hi_bit (by omega) (show ¬ i < 32 by omega)]; rfl
theorem L_lo {st v : Nat} (hv : v < 4294967296) : L ((4294967296 * st + v : Nat) : Int) &&& 4294967295 = L (v : Int) := by
  apply gb_ext
  intro i hi
  rw [show (4294967295 : Int64) = L ((4294967295 : Nat) : Int) from rfl, gb_and, gb_L, gb_L, gb_L, pk_bit hv, show (4294967295 : Nat) = 2 ^ 32 - 1 from rfl, Nat.testBit_two_pow_sub_one, decide_eq_true hi]
  by_cases c : i < 32
  · rw [if_pos c, decide_eq_true c, Bool.and_true, Bool.and_true]
  · rw [if_neg c, decide_eq_false c, hi_bit hv c, Bool.and_false, Bool.and_false]
theorem L_pk {st v : Nat} (hv : v < 4294967296) : (L (st : Int) <<< ((32 : Int32).toInt64 &&& 63)) ||| L (v : Int) = L ((4294967296 * st + v : Nat) : Int) := by
  apply gb_ext
  intro i hi
  have := gb_shl (L (st : Int)) (n := 32) (i := i) (by omega) hi
  rw [gb_or, show (32 : Int32) = I ((32 : Nat) : Int) from rfl, this, gb_L, gb_L, gb_L, pk_bit hv, decide_eq_true hi]
  by_cases c : i < 32
  · rw [if_pos c, decide_eq_false (by omega)]; rfl
  · rw [if_neg c, decide_eq_true (by omega), decide_eq_true (by omega), hi_bit hv c, Bool.and_false, Bool.or_false, Bool.true_and]
theorem q_capped {n : Nat} (h : n < 9000000000000000000) (σ : St) : s_X9_capped (L (n : Int)) σ = some (L (cap n : Nat), σ) := by
  unfold s_X9_capped cap
  have e : ((999999999 : Int64) < L (n : Int)) ↔ 999999999 < n := by rw [L_lit, L_lt (by omega) (by omega)]; omega
  by_cases c : 999999999 < n
  · rw [if_pos (e.2 c), lt_eq, if_pos c]; rfl
  · rw [if_neg (fun q => c (e.1 q)), lt_eq, if_neg c]
theorem mul_lt {a b : Nat} (ha : a ≤ 999999999) (hb : b ≤ 999999999) : a * b ≤ 999999998000000001 := Nat.le_trans (Nat.mul_le_mul ha hb) (by decide)
theorem L_int {n : Nat} (h : n ≤ 999999999) : (L (n : Int)).toInt32 = I (n : Int) := by
  apply Int32.toInt_inj.1
  rw [Int64.toInt_toInt32, L_toInt (by omega) (by omega), I_toInt (by omega) (by omega)]
  exact Int.bmod_eq_of_le (by omega) (by omega)
