/-! lists of sets: what is left over, the fewest, the needed -/
def cq (P : Nat → Bool) : Nat → Nat
  | 0 => 0
  | k + 1 => cq P k + b1 (P k)
theorem cq_le (P : Nat → Bool) : ∀ k, cq P k ≤ k := by
  intro k
  induction k with
  | zero => exact Nat.le_refl 0
  | succ k ih => show cq P k + b1 (P k) ≤ k + 1; unfold b1; split <;> omega
theorem cq_mono {P : Nat → Bool} {a b : Nat} (h : a ≤ b) : cq P a ≤ cq P b := by
  induction h with
  | refl => exact Nat.le_refl _
  | step _ ih => exact Nat.le_trans ih (Nat.le_add_right _ _)
theorem cq_t {P : Nat → Bool} {k : Nat} (h : P k = true) : cq P (k + 1) = cq P k + 1 := by show cq P k + b1 (P k) = _; rw [h]; rfl
theorem cq_f {P : Nat → Bool} {k : Nat} (h : ¬ P k = true) : cq P (k + 1) = cq P k := by
  show cq P k + b1 (P k) = _
  unfold b1; rw [if_neg h]; rfl
theorem lf_at {P : Nat → Bool} {s : Nat} (hs : P s = true) : ∀ (j k : Nat), k ≤ s → s < k + j → lf P (cq P s : Nat) j k (cq P k) = (s : Int) := by
  intro j
  induction j with
  | zero => intro k h1 h2; omega
  | succ j ih =>
    intro k h1 h2
    show (if P k = true then (if ((cq P k : Nat) : Int) = ((cq P s : Nat) : Int) then (k : Int) else lf P (cq P s : Nat) j (k + 1) (cq P k + 1)) else lf P (cq P s : Nat) j (k + 1) (cq P k)) = s
    by_cases c : k = s
    · subst c; rw [if_pos hs, if_pos rfl]
    · have ih := ih (k + 1) (by omega) (by omega)
      by_cases c2 : P k = true
      · have h3 := cq_t c2
        have h4 := cq_mono (P := P) (show k + 1 ≤ s by omega)
        rw [h3] at ih
        rw [if_pos c2, if_neg (by omega)]; exact ih
      · rw [cq_f c2] at ih
        rw [if_neg c2]; exact ih
theorem lf_all (P : Nat → Bool) : ∀ (j k : Nat), lf P (-1) j k (cq P k) = ((cq P (k + j) : Nat) : Int) := by
  intro j
  induction j with
  | zero => intro k; show (if (-1 : Int) = -1 then ((cq P k : Nat) : Int) else -6) = _; rw [if_pos rfl]; rfl
  | succ j ih =>
    intro k
    have ih := ih (k + 1)
    rw [show k + 1 + j = k + (j + 1) by omega] at ih
    show (if P k = true then (if ((cq P k : Nat) : Int) = -1 then (k : Int) else lf P (-1) j (k + 1) (cq P k + 1)) else lf P (-1) j (k + 1) (cq P k)) = _
    by_cases c2 : P k = true
    · rw [cq_t c2] at ih
      rw [if_pos c2, if_neg (by omega)]; exact ih
    · rw [cq_f c2] at ih
      rw [if_neg c2]; exact ih
theorem lf_none (P : Nat → Bool) : ∀ (j k : Nat), lf P (cq P (k + j) : Nat) j k (cq P k) = -6 := by
  intro j
  induction j with
  | zero => intro k; show (if ((cq P (k + 0) : Nat) : Int) = -1 then ((cq P k : Nat) : Int) else -6) = _; rw [if_neg (by omega)]
  | succ j ih =>
    intro k
    have ih := ih (k + 1)
    rw [show k + 1 + j = k + (j + 1) by omega] at ih
    show (if P k = true then (if ((cq P k : Nat) : Int) = ((cq P (k + (j + 1)) : Nat) : Int) then (k : Int) else lf P (cq P (k + (j + 1)) : Nat) j (k + 1) (cq P k + 1)) else lf P (cq P (k + (j + 1)) : Nat) j (k + 1) (cq P k)) = _
    by_cases c2 : P k = true
    · have h4 := cq_mono (P := P) (show k + 1 ≤ k + (j + 1) by omega)
      have h3 := cq_t c2
      rw [h3] at ih
      rw [if_pos c2, if_neg (by omega)]; exact ih
    · rw [cq_f c2] at ih
      rw [if_neg c2]; exact ih
/-- the best set below k -/
def fb (P : Nat → Bool) : Nat → Option Nat
  | 0 => none
  | k + 1 => if P k = true then (if bet k (fb P k) = true then some k else fb P k) else fb P k
theorem fw_fb (P : Nat → Bool) : ∀ (j k : Nat), fw P j k (fb P k) = fb P (k + j) := by
  intro j
  induction j with
  | zero => intro k; rfl
  | succ j ih =>
    intro k
    show fw P j (k + 1) (fb P (k + 1)) = _
    rw [ih (k + 1), show k + 1 + j = k + (j + 1) by omega]
def bst (P : Nat → Bool) (m : Nat) (b : Option Nat) : Prop := match b with
  | none => ∀ k, k < m → ¬ P k = true
  | some x => x < m ∧ ∀ k, k < m → P k = true → pcn x < pcn k ∨ (pcn x = pcn k ∧ x ≤ k)
theorem fb_bst (P : Nat → Bool) : ∀ m, bst P m (fb P m) := by
  intro m
  induction m with
  | zero => exact fun k h => absurd h (Nat.not_lt_zero k)
  | succ m ih =>
    have e : fb P (m + 1) = if P m = true then (if bet m (fb P m) = true then some m else fb P m) else fb P m := rfl
    rw [e]
    cases hb : fb P m with
    | none =>
      rw [hb] at ih
      by_cases c : P m = true
      · rw [if_pos c, if_pos (show bet m none = true from rfl)]
        refine ⟨by omega, fun k h1 h2 => ?_⟩
        by_cases c2 : k = m
        · rw [c2]; exact Or.inr ⟨rfl, Nat.le_refl _⟩
        · exact absurd h2 (ih k (by omega))
      · rw [if_neg c]
        intro k h1 h2
        by_cases c2 : k = m
        · rw [c2] at h2; exact c h2
        · exact ih k (by omega) h2
    | some x =>
      rw [hb] at ih
      obtain ⟨i1, i2⟩ := ih
      by_cases c : P m = true
      · rw [if_pos c]
        by_cases c3 : bet m (some x) = true
        · rw [if_pos c3]
          have c3 : pcn m < pcn x := of_decide_eq_true c3
          refine ⟨by omega, fun k h1 h2 => ?_⟩
          by_cases c2 : k = m
          · rw [c2]; exact Or.inr ⟨rfl, Nat.le_refl _⟩
          · have := i2 k (by omega) h2; omega
        · rw [if_neg c3]
          have c3 : ¬ pcn m < pcn x := fun q => c3 (decide_eq_true q)
          refine ⟨by omega, fun k h1 h2 => ?_⟩
          by_cases c2 : k = m
          · rw [c2]; omega
          · exact i2 k (by omega) h2
      · rw [if_neg c]
        refine ⟨by omega, fun k h1 h2 => ?_⟩
        by_cases c2 : k = m
        · rw [c2] at h2; exact absurd h2 c
        · exact i2 k (by omega) h2
/-- the law's own search: the set so far, and its size -/
def fwN (b : Option Nat) : Int := match b with
  | none => -6
  | some x => (x : Int)
def fzN (b : Option Nat) : Nat := match b with
  | none => 9
  | some x => pcn x
/-- whether the law takes the set k -/
def fup (b : Option Nat) (k : Nat) : Prop := pcn k < fzN b ∨ (pcn k = fzN b ∧ (k : Int) < fwN b)
theorem fup_1 {P : Nat → Bool} {k : Nat} (h : P k = true) : (fup (fb P k) k → fb P (k + 1) = some k) ∧ (¬ fup (fb P k) k → fb P (k + 1) = fb P k) := by
  have e : fb P (k + 1) = if P k = true then (if bet k (fb P k) = true then some k else fb P k) else fb P k := rfl
  have hb := fb_bst P k
  rw [e, if_pos h]
  cases c : fb P k with
  | none =>
    rw [if_pos (show bet k none = true from rfl)]
    refine ⟨fun _ => rfl, fun q => absurd (Or.inl ?_) q⟩
    show pcn k < 9
    have := pcn_le (s := k)
    omega
  | some x =>
    rw [c] at hb
    have hx := hb.1
    by_cases c2 : pcn k < pcn x
    · rw [if_pos (show bet k (some x) = true from decide_eq_true c2)]
      exact ⟨fun _ => rfl, fun q => absurd (Or.inl c2) q⟩
    · rw [if_neg (show ¬ bet k (some x) = true from fun q => c2 (of_decide_eq_true q))]
      refine ⟨fun q => ?_, fun _ => rfl⟩
      rcases q with q | ⟨_, q⟩
      · exact absurd q c2
      · exact absurd q (by show ¬ (k : Int) < (x : Int); omega)
theorem fup_2 {P : Nat → Bool} {k : Nat} (h : P k = true) (hk : k < 32) : ¬ fup (fb P 32) k := by
  have hb := fb_bst P 32
  intro q
  cases c : fb P 32 with
  | none => rw [c] at hb; exact hb k hk h
  | some x =>
    rw [c] at hb q
    have := hb.2 k hk h
    rcases q with q | ⟨q1, q2⟩
    · change pcn k < pcn x at q; omega
    · change pcn k = pcn x at q1
      change (k : Int) < (x : Int) at q2
      omega
/-- the sizes, as the law counts them -/
def p5 (s : Nat) : Nat → Nat
  | 0 => 0
  | k + 1 => p5 s k + b1 (s.testBit k)
theorem p5_ok : ∀ s, s < 32 → p5 s 5 = pcn s := by decide
theorem tb_shr (a n : Nat) : (a >>> n) &&& 1 = if a.testBit n = true then 1 else 0 := by
  rw [Nat.and_one_is_mod, Nat.testBit_eq_decide_div_mod_eq, Nat.shiftRight_eq_div_pow]
  by_cases h : a / 2 ^ n % 2 = 1
  · rw [h]; simp
  · rw [if_neg (by simp; omega)]; omega
theorem I_bit (a n : Nat) (ha : a < 2147483648) (hn : n < 32) : (I (a : Int) >>> (I (n : Int) &&& 31)) &&& 1 = I ((if a.testBit n = true then 1 else 0 : Nat) : Int) := by
  rw [I_shrm a n ha hn, show (1 : Int32) = I ((1 : Nat) : Int) from rfl, I_and, tb_shr]
theorem I_bit5 {s k : Nat} (hs : s < 32) (hk : k < 5) : (I (s : Nat) >>> (I (k : Nat) &&& 31)) &&& 1 = I ((b1 (s.testBit k) : Nat) : Int) := I_bit s k (by omega) (by omega)
theorem p5_le (s : Nat) : ∀ k, p5 s k ≤ k := by
  intro k
  induction k with
  | zero => exact Nat.le_refl 0
  | succ k ih => show p5 s k + b1 (s.testBit k) ≤ k + 1; unfold b1; split <;> omega
/-! heights of sets of resources -/
section
variable {ch sl : Nat → Nat}
theorem hA_in (h0 : sl 0 ≠ 0) {s : Nat} (hs : s &&& all5 sl = s) : hgtA ch sl (s : Int) = hR (hgt ch s) := by
  unfold hgtA isSub
  rw [if_pos (decide_eq_true ⟨by omega, by rw [Int.toNat_natCast]; exact hs⟩), if_neg h0, Int.toNat_natCast]
theorem hA_out {s : Nat} (hs : ¬ s &&& all5 sl = s) : hgtA ch sl (s : Int) = I (-1) := by
  unfold hgtA isSub
  rw [if_neg (fun q => hs (by have := of_decide_eq_true q; rw [Int.toNat_natCast] at this; exact this.2))]
theorem wA_in (h0 : sl 0 ≠ 0) {s h : Nat} (hs : s &&& all5 sl = s) (hh : h ≤ 10) : waysA ch sl (s : Int) (h : Int) = I (Wy ch h 0 s : Nat) := by
  unfold waysA isSub
  rw [if_pos (decide_eq_true ⟨by omega, by rw [Int.toNat_natCast]; exact hs⟩), if_pos (by omega), if_neg h0, Int.toNat_natCast, Int.toNat_natCast]
theorem wA_out {s : Nat} {h : Int} (hs : ¬ s &&& all5 sl = s) : waysA ch sl (s : Int) h = I (-1) := by
  unfold waysA isSub
  rw [if_neg (fun q => hs (by have := of_decide_eq_true q; rw [Int.toNat_natCast] at this; exact this.2))]
theorem lA_at (h0 : sl 0 ≠ 0) {h i : Int} (hh : 0 ≤ h ∧ h ≤ 10) (hi : -1 ≤ i) : lefA ch sl h i = I (lf (lefP ch (all5 sl) h.toNat) i 32 0 0) := by
  unfold lefA
  rw [if_pos ⟨hh, hi⟩, if_neg h0]
theorem fA_at (h0 : sl 0 ≠ 0) : fewA ch sl = I (fwN (fb (fewP ch (all5 sl)) 32)) := by
  unfold fewA
  rw [if_neg h0, show fw (fewP ch (all5 sl)) 32 0 none = fb (fewP ch (all5 sl)) 32 from fw_fb (fewP ch (all5 sl)) 32 0]
  cases fb (fewP ch (all5 sl)) 32 <;> rfl
theorem nA_at (h0 : sl 0 ≠ 0) : needA ch sl = I ((stB (needP ch (all5 sl)) 5 : Nat) : Int) := by
  unfold needA
  rw [if_neg h0]
end
