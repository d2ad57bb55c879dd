/-! the reference's answers: height, left, fewest, needed -/
def GI (ch sl : Nat → Nat) : Prop := Txt ch sl ∧ Valid ch sl ∧ tot (nN ch sl) 99 10 ≤ 60 ∧ tot (lL ch sl) 99 10 ≤ 3
def lf (P : Nat → Bool) (z : Int) : Nat → Nat → Nat → Int
  | 0, _, n => if z = -1 then n else -6
  | j + 1, k, n => if P k = true then (if (n : Int) = z then k else lf P z j (k + 1) (n + 1)) else lf P z j (k + 1) n
def lefP (ch : Nat → Nat) (a h s : Nat) : Bool := decide (s &&& a = s) && Lv ch one h 0 (a ^^^ s)
def bet (k : Nat) (b : Option Nat) : Bool := match b with
  | none => true
  | some x => decide (pcn k < pcn x)
def fw (P : Nat → Bool) : Nat → Nat → Option Nat → Option Nat
  | 0, _, b => b
  | j + 1, k, b => fw P j (k + 1) (if P k = true then (if bet k b = true then some k else b) else b)
def fewP (ch : Nat → Nat) (a s : Nat) : Bool := decide (s &&& a = s) && Lv ch one 10 0 s
def needP (ch : Nat → Nat) (a n : Nat) : Bool := a.testBit n && !(Lv ch one 10 0 (a ^^^ 2 ^ n))
theorem hgt_pos {ch : Nat → Nat} {s : Nat} : 0 < hgt ch s ↔ Lv ch one 10 0 s = true := by
  have h := hgt_le ch s
  have h1 := lhM_ok (ch := ch) (h := 10) (g := 10) (p := 0) (s := s) (Nat.le_refl 10)
  unfold hgt at h ⊢
  rw [← h1]
  omega
theorem hR_le {n : Nat} (hn : n ≤ 100) : (hR n ≤ 0) ↔ ¬ 0 < n := by
  unfold hR
  by_cases c : n = 0
  · rw [if_pos c]
    exact ⟨fun _ => by omega, fun _ => by decide⟩
  · rw [if_neg c, I_lit, I_le (by omega) (by omega)]; omega
theorem hR_ge {n : Nat} (hn : n ≤ 100) : ((0 : Int32) ≤ hR n) ↔ 0 < n := by
  unfold hR
  by_cases c : n = 0
  · rw [if_pos c]
    exact ⟨fun q => absurd q (by decide), fun _ => by omega⟩
  · rw [if_neg c, I_lit, I_le (by omega) (by omega)]; omega
theorem sub32 {k a : Nat} (ha : a < 32) (h : k &&& a = k) : a ^^^ k < 256 := by
  have := sub_le h
  exact xor_lt (by omega) (by omega)
theorem x_left {ch sl : Nat → Nat} {σ : St} {κ : Nat → Nat} (hm : MT ch sl σ) (ht : Txt ch sl) (hl : Mly ch sl σ κ) (h0 : sl 0 ≠ 0) {h : Nat} (hh : h ≤ 10) {z : Int} (hz : -2147483648 ≤ z ∧ z < 2147483648) : ∀ (j k n m : Nat), k + j = 32 → n ≤ k →
    s_X11_left_37 (m + j + 1) 30 (I (h : Nat)) (I z) (I (n : Nat)) (I (k : Nat)) σ = some (I (lf (lefP ch (all5 sl) h) z j k n), σ) := by
  have ho := hm.1.o 11 30 (by decide)
  have ha := all5_lt sl
  intro j
  induction j with
  | zero =>
    intro k n m hk hn
    obtain rfl : k = 32 := (by omega)
    show sb_X11_left_37 (s_X11_left_37 m) 30 (I (h : Nat)) (I z) (I (n : Nat)) (I ((32 : Nat) : Int)) σ = _
    unfold sb_X11_left_37 lf
    rw [if_pos (by decide)]
    by_cases c : z = -1
    · rw [if_pos (by rw [c]; rfl), if_pos c]
    · rw [if_neg (by rw [show (-1 : Int32) = I (-1) from rfl, I_eq hz (by omega)]; exact c), if_neg c]; rfl
  | succ j ih =>
    intro k n m hk hn
    show sb_X11_left_37 (s_X11_left_37 (m + j + 1)) 30 (I (h : Nat)) (I z) (I (n : Nat)) (I (k : Nat)) σ = _
    unfold sb_X11_left_37 lf
    rw [if_neg (by rw [I_lit, I_le (by omega) (by omega)]; omega), if_pos ho, q_all hm ht, bd_eq]
    by_cases c : k &&& all5 sl = k
    · rw [if_pos ((I_dif0 (by omega)).2 c), if_pos ho, q_all hm ht, bd_eq, if_pos ho, I_dif (by omega) c, I_p1, hl.below hm.1 h0 (sub32 ha c) hh, bd_eq]
      by_cases c2 : Lv ch one h 0 (all5 sl ^^^ k) = true
      · rw [if_neg (by rw [bI0, c2]; decide), if_pos (show lefP ch (all5 sl) h k = true by unfold lefP; rw [decide_eq_true c, c2]; rfl)]
        by_cases c3 : (n : Int) = z
        · rw [if_pos (by rw [c3]), if_pos c3]
        · rw [if_neg (by rw [I_eq (by omega) hz]; exact c3), if_neg c3, I_p1, I_p1, lt_eq, lt_eq]
          exact ih (k + 1) (n + 1) m (by omega) (by omega)
      · rw [if_pos (by rw [bI0]; exact Bool.eq_false_iff.2 c2), if_neg (show ¬ lefP ch (all5 sl) h k = true by unfold lefP; rw [decide_eq_true c, Bool.eq_false_iff.2 c2]; exact Bool.false_ne_true), I_p1, lt_eq]
        exact ih (k + 1) n m (by omega) (by omega)
    · rw [if_neg (fun q => c ((I_dif0 (by omega)).1 q)), if_neg (show ¬ lefP ch (all5 sl) h k = true by unfold lefP; rw [decide_eq_false c]; exact Bool.false_ne_true), I_p1, lt_eq]
      exact ih (k + 1) n m (by omega) (by omega)
theorem isSub_nat {k a : Nat} : isSub (k : Int) a = decide (k &&& a = k) := by
  unfold isSub
  by_cases c : k &&& a = k
  · rw [decide_eq_true c, decide_eq_true ⟨by omega, c⟩]
  · rw [decide_eq_false c, decide_eq_false (fun q => c q.2)]
theorem x_fewest {ch sl : Nat → Nat} {σ : St} {κ : Nat → Nat} (hm : MT ch sl σ) (ht : Txt ch sl) (hl : Mly ch sl σ κ) (h0 : sl 0 ≠ 0) : ∀ (j k m : Nat) (b : Option Nat), k + j = 32 → (∀ x, b = some x → x < 32) →
    s_X11_fewest_19 (m + j + 1) 30 (fpR b) (I (k : Nat)) σ = some (fpR (fw (fewP ch (all5 sl)) j k b), σ) := by
  have ho := hm.1.o 11 30 (by decide)
  intro j
  induction j with
  | zero =>
    intro k m b hk hb
    obtain rfl : k = 32 := (by omega)
    show sb_X11_fewest_19 (s_X11_fewest_19 m) 30 (fpR b) (I ((32 : Nat) : Int)) σ = _
    unfold sb_X11_fewest_19
    rw [if_pos (by decide)]
    rfl
  | succ j ih =>
    intro k m b hk hb
    show sb_X11_fewest_19 (s_X11_fewest_19 (m + j + 1)) 30 (fpR b) (I (k : Nat)) σ = _
    unfold sb_X11_fewest_19 fw
    rw [if_neg (by rw [I_lit, I_le (by omega) (by omega)]; omega), if_pos ho, q_areThere hm ht (by omega), bd_eq, isSub_nat]
    have hg := hgt_le ch k
    by_cases c : k &&& all5 sl = k
    · rw [decide_eq_true c, if_neg (by decide), if_pos ho, q_heightOf hm.1 hl h0 (by omega), bd_eq]
      by_cases c2 : Lv ch one 10 0 k = true
      · rw [if_neg (by rw [hR_le (by omega)]; exact fun q => q (hgt_pos.2 c2)), if_pos (show fewP ch (all5 sl) k = true by unfold fewP; rw [decide_eq_true c, c2]; rfl)]
        cases b with
        | none =>
          rw [if_pos (by unfold fpR; decide), if_pos (show bet k none = true from rfl)]
          unfold s_X11_fewest_56
          rw [I_p1, lt_eq]
          exact ih (k + 1) m (some k) (by omega) (fun x hx => by cases hx; omega)
        | some x =>
          have hx := hb x rfl
          have p1 := pcn_le (s := x)
          have p2 := pcn_le (s := k)
          rw [if_neg (by unfold fpR; rw [I_lit, I_lt (by omega) (by omega)]; omega), q_bits (by omega), bd_eq, show fpR (some x) = I (x : Nat) from rfl, q_bits (by omega), bd_eq]
          by_cases c4 : pcn k < pcn x
          · rw [if_neg (by rw [I_le (by omega) (by omega)]; omega), if_pos (show bet k (some x) = true from decide_eq_true c4)]
            unfold s_X11_fewest_56
            rw [I_p1, lt_eq]
            exact ih (k + 1) m (some k) (by omega) (fun x hx => by cases hx; omega)
          · rw [if_pos (by rw [I_le (by omega) (by omega)]; omega), if_neg (show ¬ bet k (some x) = true from fun q => c4 (of_decide_eq_true q)), I_p1, lt_eq]
            exact ih (k + 1) m (some x) (by omega) (fun y hy => by cases hy; exact hx)
      · rw [if_pos (by rw [hR_le (by omega)]; exact fun q => c2 (hgt_pos.1 q)), if_neg (show ¬ fewP ch (all5 sl) k = true by unfold fewP; rw [decide_eq_true c, Bool.eq_false_iff.2 c2]; exact Bool.false_ne_true), I_p1, lt_eq]
        exact ih (k + 1) m b (by omega) hb
    · rw [decide_eq_false c, if_pos (by decide), if_neg (show ¬ fewP ch (all5 sl) k = true by unfold fewP; rw [decide_eq_false c]; exact Bool.false_ne_true), I_p1, lt_eq]
      exact ih (k + 1) m b (by omega) hb
theorem x_needed {ch sl : Nat → Nat} {σ : St} {κ : Nat → Nat} (hm : MT ch sl σ) (ht : Txt ch sl) (hl : Mly ch sl σ κ) (h0 : sl 0 ≠ 0) : ∀ (j k m : Nat), k + j = 5 →
    s_X11_needed_18 (m + j + 1) 30 (I ((stB (needP ch (all5 sl)) k : Nat) : Int)) (I (k : Nat)) σ = some (I ((stB (needP ch (all5 sl)) 5 : Nat) : Int), σ) := by
  have ho := hm.1.o 11 30 (by decide)
  have ha := all5_lt sl
  intro j
  induction j with
  | zero =>
    intro k m hk
    obtain rfl : k = 5 := (by omega)
    show sb_X11_needed_18 (s_X11_needed_18 m) 30 _ (I ((5 : Nat) : Int)) σ = _
    unfold sb_X11_needed_18
    rw [if_pos (by decide)]
  | succ j ih =>
    intro k m hk
    have ih := ih (k + 1) m (by omega)
    have e0 : I ((stB (needP ch (all5 sl)) k : Nat) : Int) ||| 0 = I ((stB (needP ch (all5 sl)) k : Nat) : Int) := by
      rw [show (0 : Int32) = I ((0 : Nat) : Int) from rfl, I_or, Nat.or_zero]
    show sb_X11_needed_18 (s_X11_needed_18 (m + j + 1)) 30 _ (I (k : Nat)) σ = _
    unfold sb_X11_needed_18
    rw [if_neg (by rw [I_lit, I_le (by omega) (by omega)]; omega), if_pos ho, q_all hm ht, bd_eq, q_has11 _ _ (by omega) (by omega), bd_eq]
    rw [stB] at ih
    unfold s_X11_needed_58 s_X11_needed_59
    by_cases c : (all5 sl).testBit k = true
    · have hbit : 2 ^ k &&& all5 sl = 2 ^ k := by
        apply Nat.eq_of_testBit_eq
        intro i
        rw [Nat.testBit_and, Nat.testBit_two_pow]
        by_cases e : k = i
        · rw [← e, c, decide_eq_true rfl]; rfl
        · rw [decide_eq_false e]; rfl
      have hg := hgt_le ch (all5 sl ^^^ 2 ^ k)
      rw [if_neg (by rw [bI0, c]; decide), if_pos ho, q_all hm ht, bd_eq, if_pos ho, I_shl1 k (by omega), I_dif (by omega) hbit, q_heightOf hm.1 hl h0 (sub32 ha hbit), bd_eq]
      by_cases c2 : Lv ch one 10 0 (all5 sl ^^^ 2 ^ k) = true
      · rw [if_pos (by rw [hR_ge (by omega)]; exact hgt_pos.2 c2), e0, lt_eq, I_p1, lt_eq]
        rw [if_neg (show ¬ needP ch (all5 sl) k = true by unfold needP; rw [c, c2]; decide), Nat.or_zero] at ih
        exact ih
      · rw [if_neg (by rw [hR_ge (by omega)]; exact fun q => c2 (hgt_pos.1 q)), I_or, lt_eq, I_p1, lt_eq]
        rw [if_pos (show needP ch (all5 sl) k = true by unfold needP; rw [c, Bool.eq_false_iff.2 c2]; rfl)] at ih
        exact ih
    · rw [if_pos (by rw [bI0]; exact Bool.eq_false_iff.2 c), e0, lt_eq, I_p1, lt_eq]
      rw [if_neg (show ¬ needP ch (all5 sl) k = true by unfold needP; rw [Bool.eq_false_iff.2 c]; exact Bool.false_ne_true), Nat.or_zero] at ih
      exact ih
/-! the calls -/
def hgtA (ch sl : Nat → Nat) (z : Int) : Int32 := if isSub z (all5 sl) = true then (if sl 0 = 0 then I (-3) else hR (hgt ch z.toNat)) else I (-1)
def lefA (ch sl : Nat → Nat) (h i : Int) : Int32 := if (0 ≤ h ∧ h ≤ 10) ∧ -1 ≤ i then (if sl 0 = 0 then I (-3) else I (lf (lefP ch (all5 sl) h.toNat) i 32 0 0)) else I (-2)
def fewA (ch sl : Nat → Nat) : Int32 := if sl 0 = 0 then I (-3) else fpR (fw (fewP ch (all5 sl)) 32 0 none)
def needA (ch sl : Nat → Nat) : Int32 := if sl 0 = 0 then I (-3) else I ((stB (needP ch (all5 sl)) 5 : Nat) : Int)
/-- a call of the reference that asks, with its answer -/
def askM (ch sl : Nat → Nat) (C : Nat → Nat → Prop) (σ : St) (r : Option (Int32 × St)) (a : Int32) : Prop := ∃ σ', r = some (a, σ') ∧ Fr C σ σ' ∧ MT ch sl σ' ∧ MOld ch sl σ'
theorem m_height {ch sl : Nat → Nat} (hg : GI ch sl) {σ : St} (hm : MT ch sl σ) (ho : MOld ch sl σ) {z : Int} (hz : -2147483648 ≤ z ∧ z < 2147483648) : askM ch sl lyC σ (s_X11_height 30 (I z) σ) (hgtA ch sl z) := by
  obtain ⟨ht, hv, hN, hL⟩ := hg
  unfold s_X11_height hgtA askM
  rw [if_pos (hm.1.o 11 30 (by decide)), q_areThere hm ht hz, bd_eq]
  by_cases c : isSub z (all5 sl) = true
  · rw [if_neg (by rw [bI0, c]; decide), if_pos (hm.1.o 11 30 (by decide)), q_isGoal hm ht, bd_eq, if_pos c]
    by_cases c0 : sl 0 = 0
    · rw [if_pos (by rw [bI0]; exact decide_eq_false (fun q => q c0)), if_pos c0]
      exact ⟨σ, rfl, Fr.refl σ, hm, ho⟩
    · obtain ⟨σ', κ, a1, a2, a3, a4⟩ := q_lay ht hv hN hL hm ho
      unfold isSub at c
      have c' := of_decide_eq_true c
      have ha := all5_lt sl
      have hle := sub_le c'.2
      obtain ⟨n, rfl⟩ := Int.eq_ofNat_of_zero_le c'.1
      rw [Int.toNat_natCast] at hle
      rw [if_neg (by rw [bI0, decide_eq_true c0]; decide), if_pos (hm.1.o 11 30 (by decide)), a1, bd_eq, if_pos (a3.1.o 11 30 (by decide)), q_heightOf a3.1 a4 c0 (by omega), bd_eq, if_neg c0]
      exact ⟨σ', rfl, a2, a3, Or.inr ⟨κ, a4⟩⟩
  · rw [if_pos (by rw [bI0]; exact Bool.eq_false_iff.2 c), if_neg c]
    exact ⟨σ, rfl, Fr.refl σ, hm, ho⟩
theorem q_inb {z a b : Int} (hz : -2147483648 ≤ z ∧ z < 2147483648) (ha : -2147483648 ≤ a ∧ a < 2147483648) (hb : -2147483648 ≤ b ∧ b < 2147483648) (σ : St) : s_X11_in (I z) (I a) (I b) σ = some (bI (decide (a ≤ z ∧ z ≤ b)), σ) := by
  unfold s_X11_in
  by_cases c : z < a
  · rw [if_pos (by rw [I_lt hz ha]; exact c), decide_eq_false (by omega)]; rfl
  · rw [if_neg (by rw [I_lt hz ha]; exact c)]
    by_cases c2 : b < z
    · rw [if_pos (by rw [I_lt hb hz]; exact c2), decide_eq_false (by omega)]; rfl
    · rw [if_neg (by rw [I_lt hb hz]; exact c2), decide_eq_true (by omega)]; rfl
theorem m_left {ch sl : Nat → Nat} (hg : GI ch sl) {σ : St} (hm : MT ch sl σ) (ho : MOld ch sl σ) {h i : Int} (hh : -2147483648 ≤ h ∧ h < 2147483648) (hi : -2147483648 ≤ i ∧ i < 2147483648) : askM ch sl lyC σ (s_X11_left 30 (I h) (I i) σ) (lefA ch sl h i) := by
  obtain ⟨ht, hv, hN, hL⟩ := hg
  unfold s_X11_left lefA askM
  rw [show (0 : Int32) = I 0 from rfl, show (10 : Int32) = I 10 from rfl, q_inb hh (by omega) (by omega), bd_eq]
  by_cases c : 0 ≤ h ∧ h ≤ 10
  · rw [if_neg (by rw [show I 0 = (0 : Int32) from rfl, bI0, decide_eq_true c]; decide)]
    by_cases c2 : -1 ≤ i
    · rw [if_pos (by rw [show (-1 : Int32) = I (-1) from rfl, I_le (by omega) hi]; exact c2), if_pos (hm.1.o 11 30 (by decide)), q_isGoal hm ht, bd_eq, if_pos (show (0 ≤ h ∧ h ≤ 10) ∧ -1 ≤ i from ⟨c, c2⟩)]
      by_cases c0 : sl 0 = 0
      · rw [if_pos (by rw [show I 0 = (0 : Int32) from rfl, bI0]; exact decide_eq_false (fun q => q c0)), if_pos c0]
        exact ⟨σ, rfl, Fr.refl σ, hm, ho⟩
      · obtain ⟨σ', κ, a1, a2, a3, a4⟩ := q_lay ht hv hN hL hm ho
        obtain ⟨n, rfl⟩ := Int.eq_ofNat_of_zero_le c.1
        rw [if_neg (by rw [show I 0 = (0 : Int32) from rfl, bI0, decide_eq_true c0]; decide), if_pos (hm.1.o 11 30 (by decide)), a1, bd_eq, if_neg c0]
        exact ⟨σ', x_left a3 ht a4 c0 (by omega) hi 32 0 0 15967 rfl (by omega), a2, a3, Or.inr ⟨κ, a4⟩⟩
    · rw [if_neg (by rw [show (-1 : Int32) = I (-1) from rfl, I_le (by omega) hi]; exact c2), if_neg (fun q => c2 q.2)]
      exact ⟨σ, rfl, Fr.refl σ, hm, ho⟩
  · rw [if_pos (by rw [show I 0 = (0 : Int32) from rfl, bI0]; exact decide_eq_false c), if_neg (fun q => c q.1)]
    exact ⟨σ, rfl, Fr.refl σ, hm, ho⟩
theorem m_fewest {ch sl : Nat → Nat} (hg : GI ch sl) {σ : St} (hm : MT ch sl σ) (ho : MOld ch sl σ) : askM ch sl lyC σ (s_X11_fewest 30 σ) (fewA ch sl) := by
  obtain ⟨ht, hv, hN, hL⟩ := hg
  unfold s_X11_fewest fewA askM
  rw [if_pos (hm.1.o 11 30 (by decide)), q_isGoal hm ht, bd_eq]
  by_cases c0 : sl 0 = 0
  · rw [if_pos (by rw [bI0]; exact decide_eq_false (fun q => q c0)), if_pos c0]
    exact ⟨σ, rfl, Fr.refl σ, hm, ho⟩
  · obtain ⟨σ', κ, a1, a2, a3, a4⟩ := q_lay ht hv hN hL hm ho
    rw [if_neg (by rw [bI0, decide_eq_true c0]; decide), if_pos (hm.1.o 11 30 (by decide)), a1, bd_eq, if_neg c0]
    exact ⟨σ', x_fewest a3 ht a4 c0 32 0 15967 none rfl (fun x hx => by cases hx), a2, a3, Or.inr ⟨κ, a4⟩⟩
theorem m_needed {ch sl : Nat → Nat} (hg : GI ch sl) {σ : St} (hm : MT ch sl σ) (ho : MOld ch sl σ) : askM ch sl lyC σ (s_X11_needed 30 σ) (needA ch sl) := by
  obtain ⟨ht, hv, hN, hL⟩ := hg
  unfold s_X11_needed needA askM
  rw [if_pos (hm.1.o 11 30 (by decide)), q_isGoal hm ht, bd_eq]
  by_cases c0 : sl 0 = 0
  · rw [if_pos (by rw [bI0]; exact decide_eq_false (fun q => q c0)), if_pos c0]
    exact ⟨σ, rfl, Fr.refl σ, hm, ho⟩
  · obtain ⟨σ', κ, a1, a2, a3, a4⟩ := q_lay ht hv hN hL hm ho
    rw [if_neg (by rw [bI0, decide_eq_true c0]; decide), if_pos (hm.1.o 11 30 (by decide)), a1, bd_eq, if_neg c0]
    exact ⟨σ', x_needed a3 ht a4 c0 5 0 15994 rfl, a2, a3, Or.inr ⟨κ, a4⟩⟩
