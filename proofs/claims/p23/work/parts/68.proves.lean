/-! what the class answers from its rows -/
theorem Rdy.fx {ch κ : Nat → Nat} {N : Nat} {σ σ' : St} {CI CL : Nat → Nat → Prop} (h : Rdy ch κ N σ) (hN : N ≤ 60) (hf : FX CI CL σ σ') (h1 : ¬ CI 19 4) (h2 : ∀ k, ¬ CL 20 k) : Rdy ch κ N σ' := by
  obtain ⟨t, a, b, c, d⟩ := h
  exact ⟨t, by rw [hf.i 19 4 h1]; exact a, b, fun x hx => (c x hx).fx hf (fun _ k _ _ _ => h2 k), d⟩
theorem q_proves {ch κ : Nat → Nat} {N : Nat} {σ : St} (hs : SS σ) (hN : N ≤ 60) (hr : Rdy ch κ N σ) {c s h : Nat} (hc : c < N) (hs2 : s < 256) (hh : h ≤ 10) : s_X4_proves 19 (I (c : Nat)) (I (s : Nat)) (I (h : Nat)) σ = some (bI (LvT ch h (κ c) s), σ) := by
  obtain ⟨t, a, b, d, e⟩ := hr
  have ho := hs.o 4 19 (by decide)
  unfold s_X4_proves
  rw [if_neg (by rw [I_lit, I_lt (by omega) (by omega)]; omega), if_neg (by rw [I_lit, I_le (by omega) (by omega)]; omega), if_pos (by rw [I_lit, I_le (by omega) (by omega)]; omega), if_pos ho, a]
  by_cases c1 : t < h
  · rw [if_pos (by rw [I_lt (by omega) (by omega)]; omega), lt_eq, q_row (by omega) (by omega), bd_eq, if_pos ho, q_has hs (rwN_le (by omega) b) hs2, bd_eq, if_pos (zok_bI _), d t (Nat.le_refl t) c s hc hs2, e h c s (by omega) hh hc hs2]
  · rw [if_neg (by rw [I_lt (by omega) (by omega)]; omega), lt_eq, q_row (by omega) (by omega), bd_eq, if_pos ho, q_has hs (rwN_le (by omega) hh) hs2, bd_eq, if_pos (zok_bI _), d h (by omega) c s hc hs2]
theorem lp_least (n a : Nat) (b c d : Int32) (σ : St) : s_X4_leastHeight_2 (n + 1) a b c d σ = sb_X4_leastHeight_2 (s_X4_leastHeight_2 n) a b c d σ := rfl
theorem lst_up {P : Nat → Bool} : ∀ {h k : Nat}, k ≤ h → 0 < lst P k → lst P h = lst P k := by
  intro h
  induction h with
  | zero => intro k hk _; obtain rfl : k = 0 := (by omega); rfl
  | succ h ih =>
    intro k hk hp
    by_cases e : k = h + 1
    · rw [e]
    · have := ih (show k ≤ h by omega) hp
      rw [lst, if_neg (by omega), this]
theorem ls_loop {ch κ : Nat → Nat} {N : Nat} {σ : St} (hs : SS σ) (hN : N ≤ 60) (hr : Rdy ch κ N σ) {c s : Nat} (hc : c < N) (hs2 : s < 256) : ∀ (j k m : Nat), k + j = 10 → lst (fun g => LvT ch g (κ c) s) k = 0 →
    s_X4_leastHeight_2 (m + j + 1) 19 (I (c : Nat)) (I (s : Nat)) (I ((k + 1 : Nat) : Int)) σ = some (hR (lst (fun g => LvT ch g (κ c) s) 10), σ) := by
  intro j
  induction j with
  | zero =>
    intro k m hk h0
    obtain rfl : k = 10 := (by omega)
    rw [lp_least]
    unfold sb_X4_leastHeight_2
    rw [if_pos (by decide), h0]
    rfl
  | succ j ih =>
    intro k m hk h0
    rw [lp_least]
    unfold sb_X4_leastHeight_2
    rw [if_neg (by rw [I_lit, I_lt (by omega) (by omega)]; omega), if_pos (hs.o 4 19 (by decide)), q_proves hs hN hr hc hs2 (by omega), bd_eq]
    by_cases c1 : LvT ch (k + 1) (κ c) s = true
    · have h1 : lst (fun g => LvT ch g (κ c) s) (k + 1) = k + 1 := by rw [lst, if_pos h0]; exact if_pos c1
      rw [if_neg (by rw [bI0, c1]; decide), lst_up (h := 10) (k := k + 1) (by omega) (by omega), h1]
      unfold hR
      rw [if_neg (by omega)]
    · rw [if_pos (by rw [bI0]; exact Bool.eq_false_iff.2 c1), I_p1, lt_eq]
      exact ih (k + 1) m (by omega) (by rw [lst, if_pos h0]; exact if_neg c1)
theorem q_least {ch κ : Nat → Nat} {N : Nat} {σ : St} (hs : SS σ) (hN : N ≤ 60) (hr : Rdy ch κ N σ) {c s : Nat} (hc : c < N) (hs2 : s < 256) : s_X4_leastHeight 19 (I (c : Nat)) (I (s : Nat)) σ = some (hR (lst (fun g => LvT ch g (κ c) s) 10), σ) :=
  ls_loop hs hN hr hc hs2 10 0 15989 rfl rfl
/-- the resources that are there are single-use offers that are there -/
theorem all5_sgl {ch sl : Nat → Nat} (ht : Txt ch sl) : all5 sl &&& sgl ch = all5 sl := by
  apply Nat.eq_of_testBit_eq
  intro i
  rw [Nat.testBit_and]
  unfold all5 thr sgl
  rw [stB_bit, stB_bit]
  by_cases h5 : i < 5
  · by_cases c : sl (1 + i) = 0
    · rw [decide_eq_false (show ¬ (sl (1 + i) ≠ 0) from fun q => q c), Bool.and_false, Bool.false_and]
    · have h33 : 33 ≤ ch (64 * (1 + i) + 0) := (ht.1 (1 + i) (by omega)).2.1 0 (by omega)
      have : (fp ch i 0).isSome = true := by
        unfold fp ost
        rw [if_pos h5, if_neg (by rw [show 64 * (i + 1) = 64 * (1 + i) + 0 by omega]; omega)]
        rfl
      rw [this, decide_eq_true (show i < 8 by omega), Bool.and_true, Bool.and_true]
  · rw [decide_eq_false h5, Bool.false_and, Bool.false_and]
theorem lst_cg {P Q : Nat → Bool} (h : ∀ g, P g = Q g) : ∀ n, lst P n = lst Q n := by
  intro n
  induction n with
  | zero => rfl
  | succ n ih => unfold lst; rw [ih, h]
/-- the class and the reference say the same of the sets of resources -/
theorem LvT_one {ch κ sl : Nat → Nat} {N : Nat} (hC : Clo ch κ N) (ht : Txt ch sl) {h c s : Nat} (hc : c < N) (hs : s &&& all5 sl = s) : LvT ch h (κ c) s = Lv ch one h (κ c) s := Lv_TT hC h c s hc (sub_tr hs (all5_sgl ht))
/-! the class's resources -/
theorem q_pres {ch sl : Nat → Nat} {σ : St} (hs : SS σ) (hst : Stk 5 ch sl σ) {a n : Nat} (han : a + n ≤ 10) (hn : n ≤ 8) : ∀ (j k m : Nat), k + j = n →
    s_X6_present_5 (m + j + 1) 4 (I (a : Nat)) (I (n : Nat)) (I ((stB (fun k => decide (sl (a + k) ≠ 0)) k : Nat) : Int)) (I (k : Nat)) σ = some (I ((thr sl a n : Nat) : Int), σ) := by
  intro j
  induction j with
  | zero =>
    intro k m hk
    obtain rfl : k = n := (by omega)
    show sb_X6_present_5 (s_X6_present_5 m) 4 _ _ _ _ σ = _
    unfold sb_X6_present_5
    rw [if_pos (by rw [I_le (by omega) (by omega)]; omega)]
    rfl
  | succ j ih =>
    intro k m hk
    have ih := ih (k + 1) m (by omega)
    have e : I (a : Nat) + I (k : Nat) = I ((a + k : Nat) : Int) := by rw [I_add]; rfl
    have hit := hst (a + k) (by omega)
    show sb_X6_present_5 (s_X6_present_5 (m + j + 1)) 4 _ _ _ _ σ = _
    unfold sb_X6_present_5
    rw [stB] at ih
    rw [if_neg (by rw [I_le (by omega) (by omega)]; omega), if_pos (hs.o 6 4 (by decide)), e, q_at hs (by omega), bd_eq]
    by_cases c : sl (a + k) = 0
    · rw [if_pos c] at hit
      rw [if_neg (show ¬ decide (sl (a + k) ≠ 0) = true by rw [decide_eq_true_iff]; exact fun q => q c), Nat.or_zero] at ih
      rw [hit, on_none, I_p1, lt_eq]
      exact ih
    · rw [if_neg c] at hit
      obtain ⟨x, h1, _⟩ := hit
      rw [if_pos (show decide (sl (a + k) ≠ 0) = true by rw [decide_eq_true_iff]; exact c)] at ih
      rw [h1, on_some', I_shl1 k (by omega), I_or, lt_eq, I_p1, lt_eq]
      exact ih
theorem q_allRes {ch sl : Nat → Nat} {σ : St} (hs : SS σ) (hst : Stk 5 ch sl σ) : s_X10_allResources 1 σ = some (I ((all5 sl : Nat) : Int), σ) := by
  unfold s_X10_allResources s_X6_present
  rw [if_pos (hs.o 10 1 (by decide)), hs.p 1 1 4 (by decide), op_eq, if_pos (hs.o 6 4 (by decide)), show s_X6_present_5 16000 4 1 5 0 0 σ = some (I ((all5 sl : Nat) : Int), σ) from q_pres hs hst (a := 1) (n := 5) (by omega) (by omega) 5 0 15994 rfl, bd_eq]
theorem q_hasGoal {ch sl : Nat → Nat} {σ : St} (hs : SS σ) (hst : Stk 5 ch sl σ) : s_X10_hasGoal 1 σ = some (bI (decide (sl 0 ≠ 0)), σ) := by
  unfold s_X10_hasGoal
  have hit := hst 0 (by omega)
  have q0 : s_X6_at 4 0 σ = some (sP σ 5 0, σ) := q_at (k := 0) hs (by omega)
  rw [if_pos (hs.o 10 1 (by decide)), hs.p 1 1 4 (by decide), op_eq, if_pos (hs.o 6 4 (by decide)), q0, bd_eq]
  by_cases c : sl 0 = 0
  · rw [if_pos c] at hit
    rw [hit, on_none, decide_eq_false (fun q => q c)]
    rfl
  · rw [if_neg c] at hit
    obtain ⟨x, h1, _⟩ := hit
    rw [h1, on_some', decide_eq_true c]
    rfl
theorem q_isSet {ch sl : Nat → Nat} {σ : St} (hs : SS σ) (hst : Stk 5 ch sl σ) {z : Int} (hz : -2147483648 ≤ z ∧ z < 2147483648) : s_X10_isSetOfResources 1 (I z) σ = some (bI (isSub z (all5 sl)), σ) := by
  unfold s_X10_isSetOfResources isSub
  by_cases c : z < 0
  · rw [if_pos (by rw [I_lit, I_lt hz (by omega)]; exact c), decide_eq_false (by omega)]; rfl
  · rw [if_neg (by rw [I_lit, I_lt hz (by omega)]; exact c), if_pos (hs.o 10 1 (by decide)), q_allRes hs hst, bd_eq]
    obtain ⟨n, rfl⟩ := Int.eq_ofNat_of_zero_le (show 0 ≤ z by omega)
    by_cases c2 : n &&& all5 sl = n
    · rw [if_pos ((I_dif0 (by omega)).2 c2), decide_eq_true ⟨by omega, c2⟩]; rfl
    · rw [if_neg (fun q => c2 ((I_dif0 (by omega)).1 q)), decide_eq_false (fun q => c2 q.2)]; rfl
