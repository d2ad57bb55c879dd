/-! the law: the loop over the sets, at one height -/
theorem lefP_t {ch : Nat → Nat} {a h s : Nat} (hs : s &&& a = s) : lefP ch a h s = Lv ch one h 0 (a ^^^ s) := by
  unfold lefP; rw [decide_eq_true hs, Bool.true_and]
theorem lefP_f {ch : Nat → Nat} {a h s : Nat} (hs : ¬ s &&& a = s) : ¬ lefP ch a h s = true := by
  unfold lefP; rw [decide_eq_false hs, Bool.false_and]; exact Bool.false_ne_true
theorem fewP_f {ch : Nat → Nat} {a s : Nat} (hs : ¬ s &&& a = s) : ¬ fewP ch a s = true := by
  unfold fewP; rw [decide_eq_false hs, Bool.false_and]; exact Bool.false_ne_true
theorem fewP_t {ch : Nat → Nat} {a s : Nat} (hs : s &&& a = s) : fewP ch a s = true ↔ 0 < hgt ch s := by
  have hg := hgt_le ch s
  have hi := hgt_lv (ch := ch) (s := s) (Nat.le_refl 10)
  unfold fewP; rw [decide_eq_true hs, Bool.true_and]
  exact ⟨fun q => (hi.2 q).1, fun q => hi.1 ⟨q, hg⟩⟩
section
variable {c L : Nat} {xs : Nat → Int32} {ch sl : Nat → Nat} {t : List Nat} {σ : St}
variable {k9 : Nat → Int32 → Int32 → Int32 → Int32 → St → Option (Int32 × St)} {k22 : Nat → Int32 → Int32 → Int32 → Int32 → Int32 → Int32 → St → Option (Int32 × St)}
/-- what the others reach -/
theorem h206 (h0 : wSl sl 0 ≠ 0) {h k : Nat} (hh : h ≤ 10) (hk : k < 32) (hs : k &&& all5 (wSl sl) = k) {x y : Int32} (hq : QS c L xs ch sl t σ)
    (hk22 : ∀ σ, QS c L xs ch sl t σ → Ans c L xs ch sl t (k22 1 (I (all5 (wSl sl) : Nat)) x y (I (h : Nat)) (I (cq (lefP (wCh ch) (all5 (wSl sl)) h) (k + 1) : Nat)) (I ((k + 1 : Nat) : Int)) σ) 1) :
    Ans c L xs ch sl t (s_L_areHeights_206 k9 k22 1 (I (all5 (wSl sl) : Nat)) x y (I (h : Nat)) (I (cq (lefP (wCh ch) (all5 (wSl sl)) h) k : Nat)) (I (k : Nat)) σ) 1 := by
  have ha := all5_lt (wSl sl)
  have hx := xor_sub hs
  have hle : all5 (wSl sl) ^^^ k ≤ all5 (wSl sl) := sub_le hx
  have hgl := hgt_le (wCh ch) (all5 (wSl sl) ^^^ k)
  have hi := hgt_lv (ch := wCh ch) (s := all5 (wSl sl) ^^^ k) hh
  have hP := lefP_t (ch := wCh ch) (h := h) hs
  have hcq := cq_le (lefP (wCh ch) (all5 (wSl sl)) h) k
  unfold s_L_areHeights_206
  rw [I_dif (by omega) hs]
  refine Ans.o hq (Ans.go (a_height hq (z := ((all5 (wSl sl) ^^^ k : Nat) : Int)) (by omega)) fun σ hq => ?_)
  rw [hA_in h0 hx]
  have nof : ¬ (0 < hgt (wCh ch) (all5 (wSl sl) ^^^ k) ∧ hgt (wCh ch) (all5 (wSl sl) ^^^ k) ≤ h) → cq (lefP (wCh ch) (all5 (wSl sl)) h) (k + 1) = cq (lefP (wCh ch) (all5 (wSl sl)) h) k := fun q => cq_f (fun e => q (hi.2 (by rw [← hP]; exact e)))
  by_cases cn : hgt (wCh ch) (all5 (wSl sl) ^^^ k) = 0
  · rw [show hR (hgt (wCh ch) (all5 (wSl sl) ^^^ k)) = I (-6) by rw [cn]; rfl]
    refine Ans.yes (by decide) ?_
    rw [lt_eq, I_p, ← nof (by omega)]
    exact hk22 σ hq
  · rw [show hR (hgt (wCh ch) (all5 (wSl sl) ^^^ k)) = I (hgt (wCh ch) (all5 (wSl sl) ^^^ k) : Nat) by unfold hR; rw [if_neg cn]]
    refine Ans.no (by rw [I_lit, I_le (by omega) (by omega)]; omega) ?_
    by_cases c2 : h < hgt (wCh ch) (all5 (wSl sl) ^^^ k)
    · refine Ans.yes (by rw [I_lt (by omega) (by omega)]; omega) ?_
      rw [lt_eq, I_p, ← nof (by omega)]
      exact hk22 σ hq
    · have ht : lefP (wCh ch) (all5 (wSl sl)) h k = true := by rw [hP]; exact hi.1 ⟨by omega, by omega⟩
      refine Ans.no (by rw [I_lt (by omega) (by omega)]; omega) (Ans.o hq (Ans.go (a_left hq (z := (h : Int)) (y := ((cq (lefP (wCh ch) (all5 (wSl sl)) h) k : Nat) : Int)) (by omega) (by omega)) fun σ hq => ?_))
      rw [lA_at h0 (by omega) (by omega), Int.toNat_natCast, show lf (lefP (wCh ch) (all5 (wSl sl)) h) ((cq (lefP (wCh ch) (all5 (wSl sl)) h) k : Nat) : Int) 32 0 0 = (k : Int) from lf_at ht 32 0 (Nat.zero_le _) (by omega)]
      refine Ans.yes rfl ?_
      rw [lt_eq, lt_eq, I_p, I_p, ← cq_t ht]
      exact hk22 σ hq
theorem lp_153 (m a : Nat) (b d e f g h i j k : Int32) (σ : St) : s_L_areHeights_153 k9 k22 (m + 1) a b d e f g h i j k σ = sb_L_areHeights_153 k9 k22 (s_L_areHeights_153 k9 k22 m) a b d e f g h i j k σ := rfl
/-- the size of the set, and whether it is the best so far -/
theorem h153 (h0 : wSl sl 0 ≠ 0) {h k : Nat} (hh : h ≤ 10) (hk : k < 32) (hs : k &&& all5 (wSl sl) = k)
    (hk22 : ∀ σ, QS c L xs ch sl t σ → Ans c L xs ch sl t (k22 1 (I (all5 (wSl sl) : Nat)) (I (fwN (bk (fewP (wCh ch) (all5 (wSl sl))) h (k + 1)))) (I (fzN (bk (fewP (wCh ch) (all5 (wSl sl))) h (k + 1)) : Nat)) (I (h : Nat)) (I (cq (lefP (wCh ch) (all5 (wSl sl)) h) (k + 1) : Nat)) (I ((k + 1 : Nat) : Int)) σ) 1) :
    ∀ (j n m : Nat) (σ : St), n + j = 5 → QS c L xs ch sl t σ →
    Ans c L xs ch sl t (s_L_areHeights_153 k9 k22 (m + j + 1) 1 (I (all5 (wSl sl) : Nat)) (I (fwN (bk (fewP (wCh ch) (all5 (wSl sl))) h k))) (I (fzN (bk (fewP (wCh ch) (all5 (wSl sl))) h k) : Nat)) (I (h : Nat)) (I (cq (lefP (wCh ch) (all5 (wSl sl)) h) k : Nat)) (I (k : Nat)) (hR (hgt (wCh ch) k)) (I (p5 k n : Nat)) (I (n : Nat)) σ) 1 := by
  intro j
  have ha := all5_lt (wSl sl)
  have hrg := bk_rng (fewP (wCh ch) (all5 (wSl sl))) h k (by omega)
  have hf := bk_f (P := fewP (wCh ch) (all5 (wSl sl))) (h := h) (k := k)
  have htt := bk_t (P := fewP (wCh ch) (all5 (wSl sl))) (h := h) (k := k) hk
  have hfe := fewP_t (ch := wCh ch) hs
  generalize bk (fewP (wCh ch) (all5 (wSl sl))) h k = b at hrg hf htt ⊢
  generalize bk (fewP (wCh ch) (all5 (wSl sl))) h (k + 1) = b' at hk22 hf htt
  induction j with
  | zero =>
    intro n m σ hn hq
    obtain rfl : n = 5 := by omega
    rw [lp_153, p5_ok k hk]
    have hpc := pcn_le (s := k)
    unfold sb_L_areHeights_153
    refine Ans.yes (by rw [I_lit, I_le (by omega) (by omega)]; omega) ?_
    have hgl := hgt_le (wCh ch) k
    by_cases cn : hgt (wCh ch) k = 0
    · rw [show hR (hgt (wCh ch) k) = I (-6) by rw [cn]; rfl]
      refine Ans.yes (by decide) ?_
      rw [hf (fun q => by have := hfe.1 q; omega)] at hk22
      exact h206 h0 hh hk hs hq hk22
    · rw [show hR (hgt (wCh ch) k) = I (hgt (wCh ch) k : Nat) by unfold hR; rw [if_neg cn]]
      refine Ans.no (by rw [I_lit, I_le (by omega) (by omega)]; omega) ?_
      have ht := htt (hfe.2 (by omega))
      have take : fup b k → Ans c L xs ch sl t (s_L_areHeights_200 k9 k22 1 (I (all5 (wSl sl) : Nat)) (I (h : Nat)) (I (cq (lefP (wCh ch) (all5 (wSl sl)) h) k : Nat)) (I (k : Nat)) (I (pcn k : Nat)) σ) 1 := by
        intro q
        unfold s_L_areHeights_200
        rw [ht.1 q] at hk22
        exact h206 h0 hh hk hs hq hk22
      have stay : ¬ fup b k → Ans c L xs ch sl t (s_L_areHeights_206 k9 k22 1 (I (all5 (wSl sl) : Nat)) (I (fwN b)) (I (fzN b : Nat)) (I (h : Nat)) (I (cq (lefP (wCh ch) (all5 (wSl sl)) h) k : Nat)) (I (k : Nat)) σ) 1 := by
        intro q
        rw [ht.2 q] at hk22
        exact h206 h0 hh hk hs hq hk22
      by_cases c1 : pcn k < fzN b
      · exact Ans.yes (by rw [I_lt (by omega) (by omega)]; omega) (take (Or.inl c1))
      · refine Ans.no (by rw [I_lt (by omega) (by omega)]; omega) ?_
        by_cases c2 : pcn k = fzN b
        · refine Ans.yes (by rw [c2]) ?_
          by_cases c3 : fwN b ≤ (k : Int)
          · exact Ans.yes (by rw [I_le (by omega) (by omega)]; exact c3) (stay (fun q => by unfold fup at q; omega))
          · exact Ans.no (by rw [I_le (by omega) (by omega)]; exact c3) (take (Or.inr ⟨c2, by omega⟩))
        · exact Ans.no (by rw [I_eq (by omega) (by omega)]; omega) (stay (fun q => by unfold fup at q; omega))
  | succ j ih =>
    intro n m σ hn hq
    rw [show m + (j + 1) + 1 = (m + j + 1) + 1 by omega, lp_153]
    unfold sb_L_areHeights_153
    refine Ans.no (by rw [I_lit, I_le (by omega) (by omega)]; omega) ?_
    rw [I_bit5 hk (by omega), lt_eq, lt_eq, I_p, I_add]
    exact ih (n + 1) m σ (by omega) hq
/-- a set of resources that are there -/
theorem h98 (h0 : wSl sl 0 ≠ 0) {h k : Nat} (hh : h ≤ 10) (hk : k < 32) (hs : k &&& all5 (wSl sl) = k) (hq : QS c L xs ch sl t σ)
    (hk22 : ∀ σ, QS c L xs ch sl t σ → Ans c L xs ch sl t (k22 1 (I (all5 (wSl sl) : Nat)) (I (fwN (bk (fewP (wCh ch) (all5 (wSl sl))) h (k + 1)))) (I (fzN (bk (fewP (wCh ch) (all5 (wSl sl))) h (k + 1)) : Nat)) (I (h : Nat)) (I (cq (lefP (wCh ch) (all5 (wSl sl)) h) (k + 1) : Nat)) (I ((k + 1 : Nat) : Int)) σ) 1) :
    Ans c L xs ch sl t (s_L_areHeights_98 k9 k22 1 (I (all5 (wSl sl) : Nat)) (I (fwN (bk (fewP (wCh ch) (all5 (wSl sl))) h k))) (I (fzN (bk (fewP (wCh ch) (all5 (wSl sl))) h k) : Nat)) (I (h : Nat)) (I (cq (lefP (wCh ch) (all5 (wSl sl)) h) k : Nat)) (I (k : Nat)) (hR (hgt (wCh ch) k)) σ) 1 := by
  have hgl := hgt_le (wCh ch) k
  have hi := hgt_lv (ch := wCh ch) (s := k) hh
  have hw := Wy_iff (ch := wCh ch) (h := h) (p := 0) (s := k)
  have hwl : Wy (wCh ch) h 0 k ≤ 999999999 := Wy_le
  have eW : waysA (wCh ch) (wSl sl) (k : Int) (h : Int) = I (Wy (wCh ch) h 0 k : Nat) := wA_in h0 hs hh
  -- behind the comparison
  have b131 : ∀ (x : Int32) σ, QS c L xs ch sl t σ → Ans c L xs ch sl t (s_L_areHeights_131 k9 k22 1 (I (all5 (wSl sl) : Nat)) (I (fwN (bk (fewP (wCh ch) (all5 (wSl sl))) h k))) (I (fzN (bk (fewP (wCh ch) (all5 (wSl sl))) h k) : Nat)) (I (h : Nat)) (I (cq (lefP (wCh ch) (all5 (wSl sl)) h) k : Nat)) (I (k : Nat)) (hR (hgt (wCh ch) k)) x x σ) 1 := by
    intro x σ hq
    unfold s_L_areHeights_131
    refine Ans.yes rfl (Ans.o hq (Ans.go (a_ways hq (z := (k : Int)) (y := (h : Int)) (by omega) (by omega)) fun σ hq => ?_))
    rw [eW]
    refine Ans.yes (by rw [I_lit, I_le (by omega) (by omega)]; omega) ?_
    exact h153 h0 hh hk hs hk22 5 0 15994 σ rfl hq
  have b114 : ∀ σ, QS c L xs ch sl t σ → (0 < hgt (wCh ch) k ∧ hgt (wCh ch) k ≤ h) → Ans c L xs ch sl t (s_L_areHeights_114 k9 k22 1 (I (all5 (wSl sl) : Nat)) (I (fwN (bk (fewP (wCh ch) (all5 (wSl sl))) h k))) (I (fzN (bk (fewP (wCh ch) (all5 (wSl sl))) h k) : Nat)) (I (h : Nat)) (I (cq (lefP (wCh ch) (all5 (wSl sl)) h) k : Nat)) (I (k : Nat)) (hR (hgt (wCh ch) k)) 1 σ) 1 := by
    intro σ hq hc
    have b := b131 1 σ hq
    unfold s_L_areHeights_114
    rw [show hR (hgt (wCh ch) k) = I (hgt (wCh ch) k : Nat) by unfold hR; rw [if_neg (by omega)]] at b ⊢
    exact Ans.no (by rw [I_lit, I_le (by omega) (by omega)]; omega) (Ans.no (by rw [I_lt (by omega) (by omega)]; omega) b)
  have b114n : ∀ σ, QS c L xs ch sl t σ → ¬ (0 < hgt (wCh ch) k ∧ hgt (wCh ch) k ≤ h) → Ans c L xs ch sl t (s_L_areHeights_114 k9 k22 1 (I (all5 (wSl sl) : Nat)) (I (fwN (bk (fewP (wCh ch) (all5 (wSl sl))) h k))) (I (fzN (bk (fewP (wCh ch) (all5 (wSl sl))) h k) : Nat)) (I (h : Nat)) (I (cq (lefP (wCh ch) (all5 (wSl sl)) h) k : Nat)) (I (k : Nat)) (hR (hgt (wCh ch) k)) 0 σ) 1 := by
    intro σ hq hc
    have b := b131 0 σ hq
    unfold s_L_areHeights_114 s_L_areHeights_130
    by_cases cn : hgt (wCh ch) k = 0
    · rw [show hR (hgt (wCh ch) k) = I (-6) by rw [cn]; rfl] at b ⊢
      exact Ans.yes (by decide) b
    · rw [show hR (hgt (wCh ch) k) = I (hgt (wCh ch) k : Nat) by unfold hR; rw [if_neg cn]] at b ⊢
      exact Ans.no (by rw [I_lit, I_le (by omega) (by omega)]; omega) (Ans.yes (by rw [I_lt (by omega) (by omega)]; omega) b)
  unfold s_L_areHeights_98
  refine Ans.o hq (Ans.go (a_ways hq (z := (k : Int)) (y := (h : Int)) (by omega) (by omega)) fun σ hq => ?_)
  rw [eW]
  by_cases cw : Wy (wCh ch) h 0 k = 0
  · refine Ans.yes (by rw [cw]; decide) (b114n σ hq (fun q => ?_))
    have := hw.2 (hi.1 q)
    omega
  · refine Ans.no (by rw [I_lit, I_le (by omega) (by omega)]; omega) (b114 σ hq ?_)
    exact hi.2 (hw.1 (by omega))
theorem lp_22 (m a : Nat) (b d e f g h : Int32) (σ : St) : s_L_areHeights_22 k9 (m + 1) a b d e f g h σ = sb_L_areHeights_22 k9 (s_L_areHeights_22 k9 m) a b d e f g h σ := rfl
theorem sets_loop (h0 : wSl sl 0 ≠ 0) {h : Nat} (hh : h ≤ 10) (hk9 : ∀ σ, QS c L xs ch sl t σ → Ans c L xs ch sl t (k9 1 (I (all5 (wSl sl) : Nat)) (I (fwN (fb (fewP (wCh ch) (all5 (wSl sl))) 32))) (I (fzN (fb (fewP (wCh ch) (all5 (wSl sl))) 32) : Nat)) (I ((h + 1 : Nat) : Int)) σ) 1) :
    ∀ (j k m : Nat) (σ : St), k + j = 32 → QS c L xs ch sl t σ →
    Ans c L xs ch sl t (s_L_areHeights_22 k9 (m + j + 1) 1 (I (all5 (wSl sl) : Nat)) (I (fwN (bk (fewP (wCh ch) (all5 (wSl sl))) h k))) (I (fzN (bk (fewP (wCh ch) (all5 (wSl sl))) h k) : Nat)) (I (h : Nat)) (I (cq (lefP (wCh ch) (all5 (wSl sl)) h) k : Nat)) (I (k : Nat)) σ) 1 := by
  intro j
  have ha := all5_lt (wSl sl)
  induction j with
  | zero =>
    intro k m σ hk hq
    obtain rfl : k = 32 := by omega
    have hcq := cq_le (lefP (wCh ch) (all5 (wSl sl)) h) 32
    rw [lp_22, bk_32]
    unfold sb_L_areHeights_22
    have h1 := a_left hq (z := (h : Int)) (y := -1) (by omega) (by omega)
    rw [lA_at h0 (by omega) (by omega), Int.toNat_natCast, show lf (lefP (wCh ch) (all5 (wSl sl)) h) (-1) 32 0 0 = ((cq (lefP (wCh ch) (all5 (wSl sl)) h) (0 + 32) : Nat) : Int) from lf_all _ 32 0, m1I] at h1
    refine Ans.yes (by rw [I_lit, I_le (by omega) (by omega)]; omega) (Ans.o hq (Ans.go h1 fun σ hq => ?_))
    refine Ans.yes (by rw [Nat.zero_add]) (Ans.o hq (Ans.go (a_left hq (z := (h : Int)) (y := ((cq (lefP (wCh ch) (all5 (wSl sl)) h) 32 : Nat) : Int)) (by omega) (by omega)) fun σ hq => ?_))
    rw [lA_at h0 (by omega) (by omega), Int.toNat_natCast, show lf (lefP (wCh ch) (all5 (wSl sl)) h) ((cq (lefP (wCh ch) (all5 (wSl sl)) h) 32 : Nat) : Int) 32 0 0 = -6 from lf_none _ 32 0]
    refine Ans.yes rfl ?_
    rw [lt_eq, I_p]
    exact hk9 σ hq
  | succ j ih =>
    intro k m σ hk hq
    rw [show m + (j + 1) + 1 = (m + j + 1) + 1 by omega, lp_22]
    unfold sb_L_areHeights_22
    have ih := fun σ (hq : QS c L xs ch sl t σ) => ih (k + 1) m σ (by omega) hq
    refine Ans.no (by rw [I_lit, I_le (by omega) (by omega)]; omega) ?_
    by_cases hs : k &&& all5 (wSl sl) = k
    · refine Ans.yes ((I_dif0 (by omega)).2 hs) ?_
      unfold s_L_areHeights_43
      refine Ans.o hq (Ans.go (a_height hq (z := (k : Int)) (by omega)) fun σ hq => ?_)
      rw [hA_in h0 hs]
      have b := h98 (k9 := k9) h0 hh (show k < 32 by omega) hs hq ih
      have hgl := hgt_le (wCh ch) k
      refine Ans.no (by decide) ?_
      by_cases cn : hgt (wCh ch) k = 0
      · rw [show hR (hgt (wCh ch) k) = I (-6) by rw [cn]; rfl] at b ⊢
        exact Ans.yes rfl b
      · rw [show hR (hgt (wCh ch) k) = I (hgt (wCh ch) k : Nat) by unfold hR; rw [if_neg cn]] at b ⊢
        refine Ans.no (by rw [show (-6 : Int32) = I (-6) from rfl, I_eq (by omega) (by omega)]; omega) (Ans.no (by rw [I_lit, I_lt (by omega) (by omega)]; omega) (Ans.no (by rw [I_lit, I_lt (by omega) (by omega)]; omega) b))
    · refine Ans.no (fun q => hs ((I_dif0 (by omega)).1 q)) ?_
      unfold s_L_areHeights_43
      refine Ans.o hq (Ans.go (a_height hq (z := (k : Int)) (by omega)) fun σ hq => ?_)
      rw [hA_out hs]
      refine Ans.yes rfl (Ans.yes rfl (Ans.o hq (Ans.go (a_ways hq (z := (k : Int)) (y := (h : Int)) (by omega) (by omega)) fun σ hq => ?_)))
      rw [wA_out hs]
      refine Ans.yes rfl ?_
      rw [lt_eq, I_p, ← bk_f (h := h) (fewP_f (ch := wCh ch) hs), ← cq_f (lefP_f (ch := wCh ch) (h := h) hs)]
      exact ih σ hq
theorem lp_h9 (m a : Nat) (b d e f : Int32) (σ : St) : s_L_areHeights_9 (m + 1) a b d e f σ = sb_L_areHeights_9 (s_L_areHeights_9 m) a b d e f σ := rfl
theorem heights_loop (h0 : wSl sl 0 ≠ 0) : ∀ (j h m : Nat) (σ : St), h + j = 11 → QS c L xs ch sl t σ →
    Ans c L xs ch sl t (s_L_areHeights_9 (m + j + 1) 1 (I (all5 (wSl sl) : Nat)) (I (fwN (bk (fewP (wCh ch) (all5 (wSl sl))) h 0))) (I (fzN (bk (fewP (wCh ch) (all5 (wSl sl))) h 0) : Nat)) (I (h : Nat)) σ) 1 := by
  intro j
  induction j with
  | zero =>
    intro h m σ hh hq
    obtain rfl : h = 11 := by omega
    rw [lp_h9]
    unfold sb_L_areHeights_9
    refine Ans.yes (by rw [I_lit, I_lt (by omega) (by omega)]; omega) ?_
    have e : bk (fewP (wCh ch) (all5 (wSl sl))) 11 0 = fb (fewP (wCh ch) (all5 (wSl sl))) 32 := if_neg (by decide)
    rw [e]
    exact need_loop h0 5 0 15994 σ rfl hq
  | succ j ih =>
    intro h m σ hh hq
    rw [show m + (j + 1) + 1 = (m + j + 1) + 1 by omega, lp_h9]
    unfold sb_L_areHeights_9
    refine Ans.no (by rw [I_lit, I_lt (by omega) (by omega)]; omega) ?_
    have e : bk (fewP (wCh ch) (all5 (wSl sl))) (h + 1) 0 = fb (fewP (wCh ch) (all5 (wSl sl))) 32 := if_neg (Nat.succ_ne_zero h)
    have ih := fun σ (hq : QS c L xs ch sl t σ) => ih (h + 1) m σ (by omega) hq
    rw [e] at ih
    exact sets_loop h0 (show h ≤ 10 by omega) ih 32 0 15967 σ rfl hq
theorem law_heights (h0 : wSl sl 0 ≠ 0) (hq : QS c L xs ch sl t σ) : Ans c L xs ch sl t (s_L_areHeights 1 (I (all5 (wSl sl) : Nat)) σ) 1 := heights_loop h0 11 0 15988 σ rfl hq
end
