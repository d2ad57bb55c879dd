/-! rows of bits: a row has four longs, a bit for each set -/
def gb (x : Int64) (i : Nat) : Bool := x.toBitVec.getLsbD i
theorem gb_and (x y : Int64) (i : Nat) : gb (x &&& y) i = (gb x i && gb y i) := by unfold gb; rw [Int64.toBitVec_and, BitVec.getLsbD_and]
theorem gb_or (x y : Int64) (i : Nat) : gb (x ||| y) i = (gb x i || gb y i) := by unfold gb; rw [Int64.toBitVec_or, BitVec.getLsbD_or]
theorem gb_ge (x : Int64) {i : Nat} (h : 64 ≤ i) : gb x i = false := by unfold gb; exact BitVec.getLsbD_of_ge _ _ h
theorem gb_0 (i : Nat) : gb 0 i = false := by unfold gb; exact BitVec.getLsbD_zero
theorem gb_ext {x y : Int64} (h : ∀ i, i < 64 → gb x i = gb y i) : x = y := by
  apply Int64.toBitVec_inj.1
  apply BitVec.eq_of_getLsbD_eq
  intro i hi
  exact h i hi
theorem shl_n : ∀ n : Nat, n < 64 → (((I (n : Int)).toInt64 &&& 63).toBitVec.smod 64).toNat = n := by decide +kernel
theorem shr_n : ∀ n : Nat, n < 64 → (((I (n : Int)).toInt64.toUInt64 &&& Int64.toUInt64 63).toBitVec % 64).toNat = n := by decide +kernel
theorem gb_shl (x : Int64) {n i : Nat} (hn : n < 64) (hi : i < 64) : gb (x <<< ((I (n : Int)).toInt64 &&& 63)) i = (decide (n ≤ i) && gb x (i - n)) := by
  unfold gb
  rw [Int64.toBitVec_shiftLeft]
  show (x.toBitVec <<< ((I (n : Int)).toInt64 &&& 63).toBitVec.smod 64).getLsbD i = _
  rw [BitVec.shiftLeft_eq', BitVec.getLsbD_shiftLeft, shl_n n hn, decide_eq_true hi, Bool.true_and]
  by_cases c : n ≤ i
  · rw [decide_eq_true c, decide_eq_false (by omega)]; rfl
  · rw [decide_eq_false c, decide_eq_true (by omega)]; rfl
theorem gb_shr (x : Int64) {n : Nat} (hn : n < 64) (i : Nat) : gb ((x.toUInt64 >>> ((I (n : Int)).toInt64.toUInt64 &&& Int64.toUInt64 63)).toInt64) i = gb x (n + i) := by
  unfold gb
  rw [UInt64.toBitVec_toInt64, UInt64.toBitVec_shiftRight, BitVec.ushiftRight_eq', BitVec.getLsbD_ushiftRight, shr_n n hn, Int64.toBitVec_toUInt64]
theorem one_n : ∀ n : Nat, n < 64 → ∀ i : Nat, i < 64 → gb ((1 : Int64) <<< ((I (n : Int)).toInt64 &&& 63)) i = decide (n = i) := by decide +kernel
theorem gb_1 {i : Nat} : gb 1 i = decide (i = 0) := by
  by_cases h : i < 64
  · have : ∀ i : Nat, i < 64 → gb 1 i = decide (i = 0) := by decide +kernel
    exact this i h
  · rw [gb_ge _ (by omega), decide_eq_false (by omega)]
theorem cmp0 (x y : Int64) : lg_cmp x y = 0 ↔ x = y := by
  unfold lg_cmp
  by_cases h : x > y
  · rw [if_pos h]
    constructor
    · intro q; exact absurd q (by decide)
    · intro q; subst q; exact (Int64.lt_irrefl h).elim
  · rw [if_neg h]
    by_cases h2 : x = y
    · rw [if_pos h2]; exact ⟨fun _ => h2, fun _ => rfl⟩
    · rw [if_neg h2]
      constructor
      · intro q; exact absurd q (by decide)
      · intro q; exact absurd q h2
/-- the lowest bit of a word -/
theorem low_bit (x : Int64) : lg_cmp (x &&& 1) 0 = 0 ↔ gb x 0 = false := by
  rw [cmp0]
  constructor
  · intro h
    have : gb (x &&& 1) 0 = gb 0 0 := by rw [h]
    rw [gb_and, gb_1, gb_0] at this
    simpa using this
  · intro h
    apply gb_ext
    intro i _
    rw [gb_and, gb_1, gb_0]
    by_cases c : i = 0
    · rw [c, h]; rfl
    · rw [decide_eq_false c, Bool.and_false]
theorem mask63 (s : Nat) : I (s : Int) &&& 63 = I ((s % 64 : Nat) : Int) := by
  rw [show (63 : Int32) = I ((63 : Nat) : Int) from rfl, I_and, show (63 : Nat) = 2 ^ 6 - 1 from rfl, Nat.and_two_pow_sub_one_eq_mod]
theorem shr6 {s : Nat} (h : s < 2147483648) : I (s : Int) >>> ((6 : Int32) &&& 31) = I ((s / 64 : Nat) : Int) := by
  have := I_shrm s 6 h (by omega)
  rw [Nat.shiftRight_eq_div_pow] at this
  exact this
theorem join6 : ∀ w : Nat, w < 4 → ∀ b : Nat, b < 64 → (I (w : Int) <<< ((6 : Int32) &&& 31)) ||| I (b : Int) = I ((64 * w + b : Nat) : Int) := by decide +kernel
/-- the bit of a set in a row -/
def rb (σ : St) (row s : Nat) : Bool := gb (sL σ 20 (row + s / 64)) (s % 64)
theorem q_wd {σ : St} (hs : SS σ) {r w : Nat} (h : r + w < 2640) : s_X4_wordAt 19 (I (r : Nat)) (I (w : Nat)) σ = some (sL σ 20 (r + w), σ) := by
  rw [q_wordAt hs r w (by omega) (by omega), if_pos (by omega), show ((r : Int) + w).toNat = r + w by omega]
theorem q_orW {σ : St} (hs : SS σ) {r w : Nat} (h : r + w < 2640) (x : Int64) : s_X4_orWord 19 (I (r : Nat)) (I (w : Nat)) x σ = some ((), setL σ 20 (r + w) (sL σ 20 (r + w) ||| x)) := by
  unfold s_X4_orWord
  have e : I (r : Nat) + I (w : Nat) = I ((r + w : Nat) : Int) := by rw [I_add]; rfl
  rw [if_neg (by rw [I_lit, I_lt (by omega) (by omega)]; omega), if_neg (by rw [I_lit, I_lt (by omega) (by omega)]; omega), if_pos (hs.o 4 19 (by decide)), hs.p 19 1 20 (by decide), op_eq, if_pos (hs.o 14 20 (by decide)), hs.len 20 2640 (by decide), e, I_nI, if_neg (by rw [I_le (by omega) (by omega)]; omega), if_pos (inN h (by omega)), if_pos (inN h (by omega)), tNI (by omega), lt_eq]
theorem q_has {σ : St} (hs : SS σ) {r s : Nat} (hr : r + 4 ≤ 2640) (h : s < 256) : s_X4_has 19 (I (r : Nat)) (I (s : Nat)) σ = some (bI (rb σ r s), σ) := by
  unfold s_X4_has rb
  rw [if_pos (hs.o 4 19 (by decide)), shr6 (by omega), q_wd hs (by omega), bd_eq, mask63]
  have e : lg_cmp ((((sL σ 20 (r + s / 64)).toUInt64 >>> ((I ((s % 64 : Nat) : Int)).toInt64.toUInt64 &&& Int64.toUInt64 63)).toInt64) &&& 1) 0 = 0 ↔ gb (sL σ 20 (r + s / 64)) (s % 64) = false := by
    rw [low_bit, gb_shr _ (by omega)]
    rfl
  exact neg_if e
/-- only a row changes -/
def rwL (to : Nat) : Nat → Nat → Prop := fun a k => a = 20 ∧ to ≤ k ∧ k < to + 4
def noC : Nat → Nat → Prop := fun _ _ => False
theorem FX.rb {CI CL : Nat → Nat → Prop} {σ σ' : St} (h : FX CI CL σ σ') {r s : Nat} (hc : ∀ k, r ≤ k → k < r + 4 → ¬ CL 20 k) (hs : s < 256) : rb σ' r s = rb σ r s := by
  show gb (sL σ' 20 (r + s / 64)) (s % 64) = gb (sL σ 20 (r + s / 64)) (s % 64)
  rw [h.l 20 _ (hc _ (by omega) (by omega))]
theorem or_fx {σ : St} {to w : Nat} (hw : w < 4) (x : Int64) : FX noC (rwL to) σ (setL σ 20 (to + w) (sL σ 20 (to + w) ||| x)) := FX.setL 20 _ _ ⟨rfl, by omega, by omega⟩
theorem or_rb {σ : St} {to w : Nat} (x : Int64) (s : Nat) : rb (setL σ 20 (to + w) (sL σ 20 (to + w) ||| x)) to s = if s / 64 = w then rb σ to s || gb x (s % 64) else rb σ to s := by
  unfold rb
  rw [sL_L]
  by_cases c : s / 64 = w
  · rw [if_pos ⟨rfl, by omega⟩, if_pos c, gb_or, c]
  · rw [if_neg (fun q => c (by omega)), if_neg c]
/-- a single set is added -/
theorem q_add1 {σ : St} (hs : SS σ) {to s : Nat} (hr : to + 4 ≤ 2640) (h : s < 256) : ∃ σ', s_X4_add 19 (I (to : Nat)) (I (s : Nat)) σ = some ((), σ') ∧ FX noC (rwL to) σ σ' ∧ ∀ u, u < 256 → rb σ' to u = (rb σ to u || decide (u = s)) := by
  refine ⟨_, ?_, or_fx (w := s / 64) (by omega) ((1 : Int64) <<< ((I ((s % 64 : Nat) : Int)).toInt64 &&& 63)), fun u hu => ?_⟩
  · unfold s_X4_add
    rw [if_pos (hs.o 4 19 (by decide)), shr6 (by omega), mask63, q_orW hs (by omega), bd_eq]
  · rw [or_rb]
    by_cases c : u / 64 = s / 64
    · rw [if_pos c, one_n _ (by omega) _ (by omega)]
      congr 1
      by_cases c2 : s % 64 = u % 64
      · rw [decide_eq_true c2, decide_eq_true (by omega)]
      · rw [decide_eq_false c2, decide_eq_false (by omega)]
    · rw [if_neg c, decide_eq_false (by omega), Bool.or_false]
