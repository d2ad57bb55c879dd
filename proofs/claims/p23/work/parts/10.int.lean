/-! numbers: machine ints as integers -/
def I (z : Int) : Int32 := Int32.ofInt z
def L (z : Int) : Int64 := Int64.ofInt z
theorem I_lit (n : Nat) : (OfNat.ofNat n : Int32) = I (OfNat.ofNat n : Int) := by
  show Int32.ofNat n = Int32.ofInt (n : Int)
  exact (Int32.ofInt_eq_ofNat).symm
theorem I_neg (a : Int) : -(I a) = I (-a) := by unfold I; rw [Int32.ofInt_neg]
theorem I_add (a b : Int) : I a + I b = I (a + b) := by unfold I; rw [Int32.ofInt_add]
theorem I_sub (a b : Int) : I a - I b = I (a - b) := by unfold I; rw [Int32.ofInt_sub]
theorem I_mul (a b : Int) : I a * I b = I (a * b) := by unfold I; rw [Int32.ofInt_mul]
theorem I_toInt {a : Int} (h1 : -2147483648 ≤ a) (h2 : a < 2147483648) : (I a).toInt = a := Int32.toInt_ofInt_of_le h1 h2
theorem I_lt {a b : Int} (h1 : -2147483648 ≤ a ∧ a < 2147483648) (h2 : -2147483648 ≤ b ∧ b < 2147483648) : I a < I b ↔ a < b := by
  rw [Int32.lt_iff_toInt_lt, I_toInt h1.1 h1.2, I_toInt h2.1 h2.2]
theorem I_le {a b : Int} (h1 : -2147483648 ≤ a ∧ a < 2147483648) (h2 : -2147483648 ≤ b ∧ b < 2147483648) : I a ≤ I b ↔ a ≤ b := by
  rw [Int32.le_iff_toInt_le, I_toInt h1.1 h1.2, I_toInt h2.1 h2.2]
theorem I_eq {a b : Int} (h1 : -2147483648 ≤ a ∧ a < 2147483648) (h2 : -2147483648 ≤ b ∧ b < 2147483648) : I a = I b ↔ a = b := by
  rw [← Int32.toInt_inj, I_toInt h1.1 h1.2, I_toInt h2.1 h2.2]
theorem I_nat {a : Int} (h1 : 0 ≤ a) (h2 : a < 2147483648) : (I a).toNatClampNeg = a.toNat := by
  show (I a).toInt.toNat = _
  rw [I_toInt (by omega) h2]
theorem I_nI (n : Nat) : nI n = I (n : Int) := (Int32.ofInt_eq_ofNat).symm
theorem inR_I {a : Int} {n : Nat} (h : -2147483648 ≤ a ∧ a < 2147483648) : inR (I a) n = decide (0 ≤ a ∧ a < n) := by
  have h0 : (0 : Int32) = I 0 := rfl
  unfold inR
  rw [h0, Bool.eq_iff_iff]
  simp only [Bool.and_eq_true, decide_eq_true_eq]
  rw [I_le (by omega) h]
  constructor
  · rintro ⟨h1, h2⟩
    rw [I_nat h1 h.2] at h2
    omega
  · rintro ⟨h1, h2⟩
    rw [I_nat h1 h.2]
    omega
theorem L_lit (n : Nat) : (OfNat.ofNat n : Int64) = L (OfNat.ofNat n : Int) := by
  show Int64.ofNat n = Int64.ofInt (n : Int)
  exact (Int64.ofInt_eq_ofNat).symm
theorem L_add (a b : Int) : L a + L b = L (a + b) := by unfold L; rw [Int64.ofInt_add]
theorem L_mul (a b : Int) : L a * L b = L (a * b) := by unfold L; rw [Int64.ofInt_mul]
theorem L_toInt {a : Int} (h1 : -9223372036854775808 ≤ a) (h2 : a < 9223372036854775808) : (L a).toInt = a := Int64.toInt_ofInt_of_le h1 h2
theorem L_lt {a b : Int} (h1 : -9223372036854775808 ≤ a ∧ a < 9223372036854775808) (h2 : -9223372036854775808 ≤ b ∧ b < 9223372036854775808) : L a < L b ↔ a < b := by
  rw [Int64.lt_iff_toInt_lt, L_toInt h1.1 h1.2, L_toInt h2.1 h2.2]
theorem L_eq {a b : Int} (h1 : -9223372036854775808 ≤ a ∧ a < 9223372036854775808) (h2 : -9223372036854775808 ≤ b ∧ b < 9223372036854775808) : L a = L b ↔ a = b := by
  rw [← Int64.toInt_inj, L_toInt h1.1 h1.2, L_toInt h2.1 h2.2]
/-! reading a state behind its changes -/
theorem sI_I (σ : St) (a k x y : Nat) (v : Int32) : sI (setI σ a k v) x y = if x = a ∧ y = k then v else sI σ x y := rfl
theorem sL_L (σ : St) (a k x y : Nat) (v : Int64) : sL (setL σ a k v) x y = if x = a ∧ y = k then v else sL σ x y := rfl
theorem sP_P (σ : St) (a k x y : Nat) (v : Option Nat) : sP (setP σ a k v) x y = if x = a ∧ y = k then v else sP σ x y := rfl
theorem sL_I (σ : St) (a k : Nat) (v : Int32) : sL (setI σ a k v) = sL σ := rfl
theorem sP_I (σ : St) (a k : Nat) (v : Int32) : sP (setI σ a k v) = sP σ := rfl
theorem isO_Ie (σ : St) (a k x y : Nat) (v : Int32) : isO (setI σ a k v) x y = isO σ x y := rfl
theorem alen_I (σ : St) (a k x : Nat) (v : Int32) : alen (setI σ a k v) x = alen σ x := rfl
/-! the cells that the two constructors make: kinds, lengths, fixed references -/
def stS (a : Nat) : Nat × Nat := match a with
  | 1 => (10, 12) | 2 => (7, 2) | 3 => (12, 60) | 4 => (6, 1) | 5 => (16, 10) | 6 => (17, 2)
  | 7 => (3, 8) | 8 => (12, 60) | 9 => (13, 60) | 10 => (13, 60) | 11 => (12, 36) | 12 => (13, 36)
  | 13 => (3, 8) | 14 => (12, 60) | 15 => (13, 60) | 16 => (13, 60) | 17 => (12, 36) | 18 => (13, 36)
  | 19 => (4, 5) | 20 => (14, 2640) | 21 => (14, 4) | 22 => (14, 64) | 23 => (9, 4) | 24 => (14, 153600)
  | 25 => (0, 6) | 26 => (13, 1024) | 27 => (8, 2) | 28 => (13, 60) | 29 => (2, 5)
  | 30 => (11, 36) | 31 => (13, 660) | 32 => (13, 11) | 33 => (13, 60) | 34 => (13, 64) | 35 => (13, 64) | 36 => (13, 64) | 37 => (13, 12) | 38 => (13, 36) | 39 => (13, 36)
  | 40 => (13, 128) | 41 => (13, 128) | 42 => (13, 128) | 43 => (13, 128) | 44 => (13, 15360) | 45 => (14, 15360) | 46 => (14, 15360) | 47 => (13, 1024) | 48 => (13, 64) | 49 => (13, 64) | 50 => (13, 64) | 51 => (13, 1200) | 52 => (13, 20) | _ => (15, 2)
def stP : List (Nat × Nat × Nat) := [(1, 0, 2), (1, 1, 4), (1, 2, 6), (1, 3, 7), (1, 4, 13), (1, 5, 19), (1, 6, 23), (1, 7, 25), (1, 8, 27), (1, 9, 29), (2, 0, 3), (4, 0, 5), (7, 0, 8), (7, 1, 9), (7, 2, 10), (7, 3, 11), (7, 4, 12), (13, 0, 14), (13, 1, 15), (13, 2, 16), (13, 3, 17), (13, 4, 18), (19, 0, 13), (19, 1, 20), (19, 2, 21), (19, 3, 22), (23, 0, 13), (23, 1, 19), (23, 2, 24), (25, 0, 13), (25, 1, 19), (25, 2, 26), (27, 0, 28), (29, 0, 13), (29, 1, 27)]
def SS (σ : St) : Prop := 30 ≤ sn σ ∧ (∀ a, 1 ≤ a → a < 30 → sh σ a = stS a) ∧ ∀ q ∈ stP, sP σ q.1 q.2.1 = some q.2.2
theorem SS.o {σ : St} (h : SS σ) (k a : Nat) (h1 : decide (1 ≤ a ∧ a < 30 ∧ (stS a).1 = k) = true) : isO σ k a = true := by
  have h1 := of_decide_eq_true h1
  have h3 : a < sn σ := Nat.lt_of_lt_of_le h1.2.1 h.1
  have h4 : (sh σ a).1 = k := by rw [h.2.1 a h1.1 h1.2.1]; exact h1.2.2
  unfold isO
  rw [h4, decide_eq_true h1.1, decide_eq_true h3]
  simp
theorem SS.len {σ : St} (h : SS σ) (a n : Nat) (h1 : decide (1 ≤ a ∧ a < 30 ∧ (stS a).2 = n) = true) : alen σ a = n := by
  have h1 := of_decide_eq_true h1
  unfold alen
  rw [h.2.1 a h1.1 h1.2.1, h1.2.2]
theorem SS.p {σ : St} (h : SS σ) (a k v : Nat) (h1 : (a, k, v) ∈ stP) : sP σ a k = some v := h.2.2 (a, k, v) h1
theorem SS.i {σ : St} (h : SS σ) (a k : Nat) (v : Int32) : SS (setI σ a k v) := h
theorem SS.l {σ : St} (h : SS σ) (a k : Nat) (v : Int64) : SS (setL σ a k v) := h
theorem lt_eq {α β : Type} (x : α) (k : α → Option β) : lt x k = k x := rfl
theorem op_eq {α β : Type} (x : α) (k : α → Option β) : op (some x) k = k x := rfl
theorem on_none {α β : Type} (a : Option β) (k : α → Option β) : on none a k = a := rfl
theorem on_some' {α β : Type} (x : α) (a : Option β) (k : α → Option β) : on (some x) a k = k x := rfl
theorem bd_eq {α β : Type} (r : α) (s : St) (k : α → St → Option β) : bd (some (r, s)) k = k r s := rfl
/-! a try -/
theorem q_rowOf (n h : Int) (hn : -1 ≤ n ∧ n < 1000) (hh : -1 ≤ h ∧ h < 1000) (σ : St) : s_X4_rowOf (I n) (I h) σ = some (I (if 0 ≤ n ∧ n < 60 then (h * 60 + n) * 4 else -1), σ) := by
  unfold s_X4_rowOf
  simp (disch := omega) only [I_lit, I_neg, I_add, I_mul, I_lt, I_le]
  split
  · rw [if_neg (by omega)]
  · split
    · rw [if_neg (by omega)]
    · rw [if_pos (by omega)]
theorem q_wordAt {σ : St} (hs : SS σ) (a b : Int) (ha : -2 ≤ a ∧ a < 100000) (hb : -2 ≤ b ∧ b < 100000) : s_X4_wordAt 19 (I a) (I b) σ = some (if 0 ≤ a ∧ 0 ≤ b ∧ a + b < 2640 then sL σ 20 (a + b).toNat else 0, σ) := by
  unfold s_X4_wordAt
  simp (disch := omega) only [I_lit, I_neg, I_add, I_mul, I_lt, I_le, hs.o 4 19 (by decide), hs.o 14 20 (by decide), hs.p 19 1 20 (by decide), hs.len 20 2640 (by decide), op_eq, if_true, I_nI, inR_I]
  split
  · rw [if_neg (by omega)]
  · split
    · rw [if_neg (by omega)]
    · split
      · rw [if_neg (by omega)]
      · rw [if_pos (by simp; omega), if_pos (by omega), I_nat (by omega) (by omega)]
