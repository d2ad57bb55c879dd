/-! the law: heights, lefts, ways of all sets -/
theorem Ans.go {c1 c2 L : Nat} {xs : Nat → Int32} {ch1 sl1 ch2 sl2 : Nat → Nat} {t1 t2 : List Nat} {r : Option (Int32 × St)} {a b : Int32} {f : Int32 → St → Option (Int32 × St)} (h : Ans c1 L xs ch1 sl1 t1 r a) (g : ∀ σ', QS c1 L xs ch1 sl1 t1 σ' → Ans c2 L xs ch2 sl2 t2 (f a σ') b) : Ans c2 L xs ch2 sl2 t2 (bd r f) b := by
  obtain ⟨σ', rfl, h2⟩ := h
  rw [bd_eq]
  exact g σ' h2
/-- a call on the object -/
theorem Ans.o {c1 c2 L : Nat} {xs : Nat → Int32} {ch1 sl1 ch2 sl2 : Nat → Nat} {t1 t2 : List Nat} {σ : St} {x : Option (Int32 × St)} {b : Int32} (h : QS c1 L xs ch1 sl1 t1 σ) (g : Ans c2 L xs ch2 sl2 t2 x b) : Ans c2 L xs ch2 sl2 t2 (if isO σ 10 1 = true then x else none) b := by
  rw [if_pos h.o]; exact g
theorem Ans.yes {c2 L : Nat} {xs : Nat → Int32} {ch2 sl2 : Nat → Nat} {t2 : List Nat} {p : Prop} [Decidable p] {x y : Option (Int32 × St)} {b : Int32} (h : p) (g : Ans c2 L xs ch2 sl2 t2 x b) : Ans c2 L xs ch2 sl2 t2 (if p then x else y) b := by
  rw [if_pos h]; exact g
theorem Ans.no {c2 L : Nat} {xs : Nat → Int32} {ch2 sl2 : Nat → Nat} {t2 : List Nat} {p : Prop} [Decidable p] {x y : Option (Int32 × St)} {b : Int32} (h : ¬ p) (g : Ans c2 L xs ch2 sl2 t2 y b) : Ans c2 L xs ch2 sl2 t2 (if p then x else y) b := by
  rw [if_neg h]; exact g
/-! calls out of range -/
theorem m1I : I (-1) = (-1 : Int32) := rfl
theorem m2I : I (-2) = (-2 : Int32) := rfl
theorem l0I : I 0 = (0 : Int32) := rfl
theorem l1I : I 1 = (1 : Int32) := rfl
theorem l2I : I 2 = (2 : Int32) := rfl
theorem l3I : I 3 = (3 : Int32) := rfl
theorem l11I : I 11 = (11 : Int32) := rfl
theorem lA_out {ch sl : Nat → Nat} {h i : Int} (q : ¬ ((0 ≤ h ∧ h ≤ 10) ∧ -1 ≤ i)) : lefA ch sl h i = I (-2) := by unfold lefA; rw [if_neg q]
theorem wA_h {ch sl : Nat → Nat} {h : Int} (q : ¬ (0 ≤ h ∧ h ≤ 10)) : waysA ch sl 0 h = I (-2) := by
  unfold waysA isSub
  rw [if_pos (decide_eq_true ⟨by decide, Nat.zero_and _⟩), if_neg q]
theorem hA_neg {ch sl : Nat → Nat} {z : Int} (q : z < 0) : hgtA ch sl z = I (-1) := by
  unfold hgtA isSub
  rw [if_neg (fun e => by have := of_decide_eq_true e; omega)]
section
variable {c L : Nat} {xs : Nat → Int32} {ch sl : Nat → Nat} {t : List Nat} {σ : St}
theorem a_left11 (hq : QS c L xs ch sl t σ) : Ans c L xs ch sl t (s_X10_left 1 11 0 σ) (-2) := by
  have h := a_left hq (z := 11) (y := 0) (by omega) (by omega)
  rw [lA_out (by omega), l11I, l0I, m2I] at h; exact h
theorem a_leftm1 (hq : QS c L xs ch sl t σ) : Ans c L xs ch sl t (s_X10_left 1 (-1) 0 σ) (-2) := by
  have h := a_left hq (z := -1) (y := 0) (by omega) (by omega)
  rw [lA_out (by omega), m1I, l0I, m2I] at h; exact h
theorem a_leftm2 (hq : QS c L xs ch sl t σ) : Ans c L xs ch sl t (s_X10_left 1 0 (-2) σ) (-2) := by
  have h := a_left hq (z := 0) (y := -2) (by omega) (by omega)
  rw [lA_out (by omega), l0I, m2I] at h; exact h
theorem a_ways11 (hq : QS c L xs ch sl t σ) : Ans c L xs ch sl t (s_X10_ways 1 0 11 σ) (-2) := by
  have h := a_ways hq (z := 0) (y := 11) (by omega) (by omega)
  rw [wA_h (by omega), l0I, l11I, m2I] at h; exact h
theorem a_heightm1 (hq : QS c L xs ch sl t σ) : Ans c L xs ch sl t (s_X10_height 1 (-1) σ) (-1) := by
  have h := a_height hq (z := -1) (by omega)
  rw [hA_neg (by omega), m1I] at h; exact h
end
/-- the best set at the k-th step at the height h -/
def bk (P : Nat → Bool) (h k : Nat) : Option Nat := if h = 0 then fb P k else fb P 32
theorem bk_32 (P : Nat → Bool) (h : Nat) : bk P h 32 = fb P 32 := by unfold bk; split <;> rfl
theorem bk_f {P : Nat → Bool} {h k : Nat} (e : ¬ P k = true) : bk P h (k + 1) = bk P h k := by
  unfold bk
  split
  · show (if P k = true then (if bet k (fb P k) = true then some k else fb P k) else fb P k) = fb P k
    rw [if_neg e]
  · rfl
theorem bk_t {P : Nat → Bool} {h k : Nat} (hk : k < 32) (e : P k = true) : (fup (bk P h k) k → bk P h (k + 1) = some k) ∧ (¬ fup (bk P h k) k → bk P h (k + 1) = bk P h k) := by
  unfold bk
  by_cases c : h = 0
  · rw [if_pos c, if_pos c]; exact fup_1 e
  · rw [if_neg c, if_neg c]; exact ⟨fun q => absurd q (fup_2 e hk), fun _ => rfl⟩
theorem bk_rng (P : Nat → Bool) (h k : Nat) (hk : k ≤ 32) : -6 ≤ fwN (bk P h k) ∧ fwN (bk P h k) < 32 ∧ fzN (bk P h k) ≤ 9 := by
  have key : ∀ m, m ≤ 32 → -6 ≤ fwN (fb P m) ∧ fwN (fb P m) < 32 ∧ fzN (fb P m) ≤ 9 := by
    intro m hm
    have hb := fb_bst P m
    cases c : fb P m with
    | none => exact ⟨by decide, by decide, by decide⟩
    | some x =>
      rw [c] at hb
      have h1 := hb.1
      have h2 := pcn_le (s := x)
      refine ⟨?_, ?_, ?_⟩
      · show -6 ≤ (x : Int); omega
      · show (x : Int) < 32; omega
      · show pcn x ≤ 9; omega
  unfold bk
  split
  · exact key k hk
  · exact key 32 (Nat.le_refl _)
theorem I_p (n : Nat) : I (n : Nat) + 1 = I ((n + 1 : Nat) : Int) := I_s n
section
variable {c L : Nat} {xs : Nat → Int32} {ch sl : Nat → Nat} {t : List Nat} {σ : St}
theorem lp_293 (m a : Nat) (b d e f : Int32) (σ : St) : s_L_areHeights_293 (m + 1) a b d e f σ = sb_L_areHeights_293 (s_L_areHeights_293 m) a b d e f σ := rfl
theorem needP_iff {a n : Nat} : needP ch a n = true ↔ a.testBit n = true ∧ ¬ Lv ch one 10 0 (a ^^^ 2 ^ n) = true := by
  unfold needP
  cases a.testBit n <;> cases Lv ch one 10 0 (a ^^^ 2 ^ n) <;> simp
theorem need_loop (h0 : wSl sl 0 ≠ 0) : ∀ (j k m : Nat) (σ : St), k + j = 5 → QS c L xs ch sl t σ →
    Ans c L xs ch sl t (s_L_areHeights_293 (m + j + 1) 1 (I (all5 (wSl sl) : Nat)) (I (fwN (fb (fewP (wCh ch) (all5 (wSl sl))) 32))) (I (stB (needP (wCh ch) (all5 (wSl sl))) k : Nat)) (I (k : Nat)) σ) 1 := by
  intro j
  have ha := all5_lt (wSl sl)
  induction j with
  | zero =>
    intro k m σ hk hq
    obtain rfl : k = 5 := by omega
    rw [lp_293]
    unfold sb_L_areHeights_293
    refine Ans.yes (by rw [I_lit, I_le (by omega) (by omega)]; omega) (Ans.o hq (Ans.go (a_fewest hq) fun σ hq => ?_))
    refine Ans.yes (fA_at h0) (Ans.o hq (Ans.go (a_needed hq) fun σ hq => ?_))
    refine Ans.yes (nA_at h0) (Ans.o hq (Ans.go (a_left11 hq) fun σ hq => ?_))
    refine Ans.yes rfl (Ans.o hq (Ans.go (a_leftm1 hq) fun σ hq => ?_))
    refine Ans.yes rfl (Ans.o hq (Ans.go (a_leftm2 hq) fun σ hq => ?_))
    refine Ans.yes rfl (Ans.o hq (Ans.go (a_ways11 hq) fun σ hq => ?_))
    refine Ans.yes rfl (Ans.o hq (Ans.go (a_heightm1 hq) fun σ hq => ?_))
    exact Ans.yes rfl (Ans.now hq)
  | succ j ih =>
    intro k m σ hk hq
    rw [show m + (j + 1) + 1 = (m + j + 1) + 1 by omega, lp_293]
    unfold sb_L_areHeights_293
    have ih := fun σ (hq : QS c L xs ch sl t σ) => ih (k + 1) m σ (by omega) hq
    refine Ans.no (by rw [I_lit, I_le (by omega) (by omega)]; omega) ?_
    have e1 : (1 : Int32) <<< (I (k : Nat) &&& 31) = I ((2 ^ k : Nat) : Int) := I_shl1 k (by omega)
    have nxt : ∀ (b : Bool) σ, QS c L xs ch sl t σ → (needP (wCh ch) (all5 (wSl sl)) k = b) → Ans c L xs ch sl t (s_L_areHeights_334 (s_L_areHeights_293 (m + j + 1)) 1 (I (all5 (wSl sl) : Nat)) (I (fwN (fb (fewP (wCh ch) (all5 (wSl sl))) 32))) (I (k : Nat)) (I (stB (needP (wCh ch) (all5 (wSl sl))) k : Nat)) (I ((if b = true then 2 ^ k else 0 : Nat) : Int)) σ) 1 := by
      intro b σ hq hb
      unfold s_L_areHeights_334
      rw [lt_eq, lt_eq, I_p, I_or, ← hb]
      exact ih σ hq
    have nf : ∀ σ, QS c L xs ch sl t σ → ¬ needP (wCh ch) (all5 (wSl sl)) k = true → Ans c L xs ch sl t (s_L_areHeights_333 (s_L_areHeights_293 (m + j + 1)) 1 (I (all5 (wSl sl) : Nat)) (I (fwN (fb (fewP (wCh ch) (all5 (wSl sl))) 32))) (I (k : Nat)) (I (stB (needP (wCh ch) (all5 (wSl sl))) k : Nat)) σ) 1 := fun σ hq hb => nxt false σ hq (Bool.eq_false_iff.2 hb)
    rw [I_bit _ _ (by omega) (by omega), e1]
    by_cases cb : (all5 (wSl sl)).testBit k = true
    · rw [if_pos cb]
      refine Ans.yes rfl (Ans.o hq ?_)
      have hb := bit_sub cb
      have hx := xor_sub hb
      have h32 : all5 (wSl sl) ^^^ 2 ^ k ≤ all5 (wSl sl) := sub_le hx
      rw [I_dif (by omega) hb]
      refine Ans.go (a_height hq (z := ((all5 (wSl sl) ^^^ 2 ^ k : Nat) : Int)) (by omega)) fun σ hq => ?_
      rw [hA_in h0 hx]
      have hg := hgt_le (wCh ch) (all5 (wSl sl) ^^^ 2 ^ k)
      have hi := hgt_lv (ch := wCh ch) (s := all5 (wSl sl) ^^^ 2 ^ k) (Nat.le_refl 10)
      by_cases cn : hgt (wCh ch) (all5 (wSl sl) ^^^ 2 ^ k) = 0
      · rw [show hR (hgt (wCh ch) (all5 (wSl sl) ^^^ 2 ^ k)) = I (-6) by rw [cn]; rfl]
        refine Ans.no (by decide) ?_
        exact nxt true σ hq (needP_iff.2 ⟨cb, fun q => by have := hi.2 q; omega⟩)
      · rw [show hR (hgt (wCh ch) (all5 (wSl sl) ^^^ 2 ^ k)) = I (hgt (wCh ch) (all5 (wSl sl) ^^^ 2 ^ k) : Nat) by unfold hR; rw [if_neg cn]]
        refine Ans.yes (by rw [I_lit, I_le (by omega) (by omega)]; omega) ?_
        exact nf σ hq (fun q => (needP_iff.1 q).2 (hi.1 ⟨by omega, hg⟩))
    · rw [if_neg cb]
      refine Ans.no (by decide) ?_
      exact nf σ hq (fun q => cb (needP_iff.1 q).1)
end
