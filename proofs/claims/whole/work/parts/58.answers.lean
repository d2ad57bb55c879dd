/-! the answers, as functions of what can be proved; and the reference's queries -/
def stB (f : Nat → Bool) : Nat → Nat
  | 0 => 0
  | k + 1 => stB f k ||| (if f k = true then 2 ^ k else 0)
theorem stB_lt (f : Nat → Bool) : ∀ k, stB f k < 2 ^ k := by
  intro k
  induction k with
  | zero => exact Nat.lt_succ_self 0
  | succ k ih =>
    have h1 : 2 ^ k < 2 ^ (k + 1) := Nat.pow_lt_pow_right (by decide) (by omega)
    unfold stB
    refine Nat.or_lt_two_pow (by omega) ?_
    split
    · exact h1
    · omega
theorem stB_bit (f : Nat → Bool) : ∀ k i, (stB f k).testBit i = (decide (i < k) && f i) := by
  intro k
  induction k with
  | zero => intro i; rw [stB, Nat.zero_testBit, decide_eq_false (by omega)]; rfl
  | succ k ih =>
    intro i
    rw [stB, Nat.testBit_or, ih]
    by_cases e : f k = true
    · rw [if_pos e, Nat.testBit_two_pow]
      by_cases e2 : k = i
      · rw [← e2, decide_eq_true rfl, e, decide_eq_true (Nat.lt_succ_self k), Bool.or_true]; rfl
      · rw [decide_eq_false e2, Bool.or_false]
        by_cases e3 : i < k
        · rw [decide_eq_true e3, decide_eq_true (by omega)]
        · rw [decide_eq_false e3, decide_eq_false (by omega)]
    · rw [if_neg e, Nat.zero_testBit, Bool.or_false]
      by_cases e2 : i = k
      · rw [e2, Bool.eq_false_iff.2 e, Bool.and_false, Bool.and_false]
      · by_cases e3 : i < k
        · rw [decide_eq_true e3, decide_eq_true (by omega)]
        · rw [decide_eq_false e3, decide_eq_false (by omega)]
/-- the set of the slots that are taken, from one on -/
def thr (sl : Nat → Nat) (a n : Nat) : Nat := stB (fun k => decide (sl (a + k) ≠ 0)) n
def all5 (sl : Nat → Nat) : Nat := thr sl 1 5
theorem all5_lt (sl : Nat → Nat) : all5 sl < 32 := stB_lt _ 5
theorem thr_loop {ch sl : Nat → Nat} {σ : St} (hm : MT ch sl σ) (ht : Txt ch sl) {a n : Nat} (han : a + n ≤ 10) (hn : n ≤ 8) : ∀ (j k m : Nat), k + j = n →
    s_X11_there_5 (m + j + 1) 30 (I (a : Nat)) (I ((a + n : Nat) - 1 : Int)) (I ((stB (fun k => decide (sl (a + k) ≠ 0)) k : Nat) : Int)) (I ((a + k : Nat) : Int)) σ = some (I ((thr sl a n : Nat) : Int), σ) := by
  intro j
  induction j with
  | zero =>
    intro k m hk
    obtain rfl : k = n := (by omega)
    show sb_X11_there_5 (s_X11_there_5 m) 30 _ _ _ _ σ = _
    unfold sb_X11_there_5
    rw [if_pos (by rw [I_lt (by omega) (by omega)]; omega)]
    rfl
  | succ j ih =>
    intro k m hk
    have h10 := (ht.1 (a + k) (by omega)).1
    show sb_X11_there_5 (s_X11_there_5 (m + j + 1)) 30 _ _ _ _ σ = _
    unfold sb_X11_there_5
    rw [if_neg (by rw [I_lt (by omega) (by omega)]; omega), if_pos (hm.1.o 11 30 (by decide)), hm.1.p 30 1 32 (by decide), op_eq, if_pos (hm.1.o 13 32 (by decide)), hm.1.len 32 11 (by decide), if_pos (inN (by omega) (by omega)), tNI (by omega), hm.2.1 (a + k) (by omega)]
    by_cases c : sl (a + k) = 0
    · rw [if_pos c, if_pos (by decide)]
      unfold s_X11_there_32
      have e : I ((stB (fun k => decide (sl (a + k) ≠ 0)) k : Nat) : Int) ||| 0 = I ((stB (fun k => decide (sl (a + k) ≠ 0)) (k + 1) : Nat) : Int) := by
        rw [show (0 : Int32) = I ((0 : Nat) : Int) from rfl, I_or, stB, if_neg (by rw [decide_eq_true_iff]; exact fun q => q c)]
      rw [e, lt_eq, I_p1, lt_eq]
      exact ih (k + 1) m (by omega)
    · rw [if_neg c, if_neg (by rw [I_lit, I_lt (by omega) (by omega)]; omega)]
      unfold s_X11_there_32
      have e1 : I ((a + k : Nat) : Int) - I (a : Nat) = I (k : Nat) := by rw [I_sub]; exact congrArg I (by omega)
      have e : I ((stB (fun k => decide (sl (a + k) ≠ 0)) k : Nat) : Int) ||| I ((2 ^ k : Nat) : Int) = I ((stB (fun k => decide (sl (a + k) ≠ 0)) (k + 1) : Nat) : Int) := by
        rw [I_or, stB, if_pos (by rw [decide_eq_true_iff]; exact c)]
      rw [e1, I_shl1 k (by omega), e, lt_eq, I_p1, lt_eq]
      exact ih (k + 1) m (by omega)
theorem q_there {ch sl : Nat → Nat} {σ : St} (hm : MT ch sl σ) (ht : Txt ch sl) {a n : Nat} (han : a + n ≤ 10) (hn : n ≤ 8) : s_X11_there 30 (I (a : Nat)) (I ((a + n : Nat) - 1 : Int)) σ = some (I ((thr sl a n : Nat) : Int), σ) := by
  have := thr_loop hm ht han hn n 0 (15999 - n) (by omega)
  rw [show 15999 - n + n + 1 = 16000 by omega] at this
  exact this
theorem q_all {ch sl : Nat → Nat} {σ : St} (hm : MT ch sl σ) (ht : Txt ch sl) : s_X11_all 30 σ = some (I ((all5 sl : Nat) : Int), σ) := by
  unfold s_X11_all
  have h := q_there hm ht (a := 1) (n := 5) (by omega) (by omega)
  rw [if_pos (hm.1.o 11 30 (by decide))]
  rw [show (1 : Int32) = I ((1 : Nat) : Int) from rfl, show (5 : Int32) = I (((1 + 5 : Nat) : Int) - 1) by decide, h, bd_eq]
  rfl
theorem q_isGoal {ch sl : Nat → Nat} {σ : St} (hm : MT ch sl σ) (ht : Txt ch sl) : s_X11_isGoal 30 σ = some (bI (decide (sl 0 ≠ 0)), σ) := by
  have h10 := (ht.1 0 (by omega)).1
  unfold s_X11_isGoal
  rw [if_pos (hm.1.o 11 30 (by decide)), hm.1.p 30 1 32 (by decide), op_eq, if_pos (hm.1.o 13 32 (by decide)), hm.1.len 32 11 (by decide), if_pos (by decide), show ((0 : Int32).toNatClampNeg) = 0 from rfl, hm.2.1 0 (by omega)]
  by_cases c : sl 0 = 0
  · rw [if_pos c, if_pos (by decide), decide_eq_false (fun q => q c)]; rfl
  · rw [if_neg c, if_neg (by rw [I_lit, I_lt (by omega) (by omega)]; omega), decide_eq_true c]; rfl
/-- whether an int is a set of resources that are there -/
def isSub (z : Int) (a : Nat) : Bool := decide (0 ≤ z ∧ z.toNat &&& a = z.toNat)
theorem sub_le {x a : Nat} (h : x &&& a = x) : x ≤ a := by rw [← h]; exact Nat.and_le_right
theorem q_areThere {ch sl : Nat → Nat} {σ : St} (hm : MT ch sl σ) (ht : Txt ch sl) {z : Int} (hz : -2147483648 ≤ z ∧ z < 2147483648) : s_X11_areThere 30 (I z) σ = some (bI (isSub z (all5 sl)), σ) := by
  unfold s_X11_areThere isSub
  by_cases c : z < 0
  · rw [if_pos (by rw [I_lit, I_lt hz (by omega)]; exact c), decide_eq_false (by omega)]; rfl
  · rw [if_neg (by rw [I_lit, I_lt hz (by omega)]; exact c), if_pos (hm.1.o 11 30 (by decide)), q_all hm ht, bd_eq]
    obtain ⟨n, rfl⟩ := Int.eq_ofNat_of_zero_le (show 0 ≤ z by omega)
    by_cases c2 : n &&& all5 sl = n
    · rw [if_pos ((I_dif0 (by omega)).2 c2), decide_eq_true ⟨by omega, c2⟩]; rfl
    · rw [if_neg (fun q => c2 ((I_dif0 (by omega)).1 q)), decide_eq_false (fun q => c2 q.2)]; rfl
/-! the reference's answers -/
def hgt (ch : Nat → Nat) (s : Nat) : Nat := lhM ch 10 0 s
theorem hgt_le (ch : Nat → Nat) (s : Nat) : hgt ch s ≤ 10 := by unfold hgt lhM; generalize (fun g => Lv ch one g 0 s) = P; exact lst_le P 10
def hR (n : Nat) : Int32 := if n = 0 then I (-6) else I (n : Nat)
theorem Mly.root {ch sl : Nat → Nat} {σ : St} {κ : Nat → Nat} (h : Mly ch sl σ κ) (h0 : sl 0 ≠ 0) {s : Nat} (hs : s < 256) : sI σ 30 10 = I (0 : Nat) ∧ sI σ 44 s = I ((hgt ch s : Nat) : Int) := by
  obtain ⟨_, ⟨_, _, _, r⟩, v⟩ := h
  obtain ⟨r1, r2, r3⟩ := r h0
  refine ⟨r1, ?_⟩
  rw [v s (by omega)]
  unfold lA hgt
  rw [show s / 256 = 0 by omega, show s % 256 = s by omega, r2]
theorem q_heightOf {ch sl : Nat → Nat} {σ : St} {κ : Nat → Nat} (hs : SS σ) (h : Mly ch sl σ κ) (h0 : sl 0 ≠ 0) {s : Nat} (hs2 : s < 256) : s_X11_heightOf 30 (I (s : Nat)) σ = some (hR (hgt ch s), σ) := by
  obtain ⟨r1, r2⟩ := h.root h0 hs2
  have hl := hgt_le ch s
  have e : (256 : Int32) * I ((0 : Nat) : Int) + I (s : Nat) = I (s : Nat) := by rw [I_lit, I_mul, I_add]; exact congrArg I (by omega)
  unfold s_X11_heightOf hR
  rw [if_pos (hs.o 11 30 (by decide)), hs.p 30 22 44 (by decide), op_eq, if_pos (hs.o 13 44 (by decide)), hs.len 44 15360 (by decide), r1, e, if_pos (inN (by omega) (by omega)), tNI (by omega), r2]
  by_cases c : hgt ch s = 0
  · rw [if_pos ((I_z (by omega)).2 c), if_pos c]; rfl
  · rw [if_neg (fun q => c ((I_z (by omega)).1 q)), if_pos (inN (by omega) (by omega)), if_neg c]
theorem Mly.below {ch sl : Nat → Nat} {σ : St} {κ : Nat → Nat} (hs : SS σ) (h : Mly ch sl σ κ) (h0 : sl 0 ≠ 0) {s g : Nat} (hs2 : s < 256) (hg : g ≤ 10) : s_X11_isBelow 30 (sI σ 30 10) (I (s : Nat)) (I ((g + 1 : Nat) : Int)) σ = some (bI (Lv ch one g 0 s), σ) := by
  obtain ⟨r1, r2⟩ := h.root h0 hs2
  have hl := hgt_le ch s
  rw [r1, q_isBelow hs (by omega) hs2 (by omega) (by rw [show 256 * 0 + s = s by omega]; exact r2) (by omega)]
  have := lhM_ok (ch := ch) (p := 0) (s := s) hg
  rw [bI_cg (b := Lv ch one g 0 s) (by rw [← this]; unfold hgt; omega)]
