/-! the law: the first proof as a trial -/
def AnT (c L : Nat) (xs : Nat → Int32) (ch sl : Nat → Nat) (r : Option (Int32 × St)) (b : Int32) : Prop := ∃ t, Ans c L xs ch sl t r b
section
variable {c L : Nat} {xs : Nat → Int32} {ch sl : Nat → Nat} {t t1 : List Nat} {σ : St}
theorem AnT.go {r : Option (Int32 × St)} {a b : Int32} {f : Int32 → St → Option (Int32 × St)} (h : Ans c L xs ch sl t1 r a) (g : ∀ σ', QS c L xs ch sl t1 σ' → AnT c L xs ch sl (f a σ') b) : AnT c L xs ch sl (bd r f) b := by
  obtain ⟨σ', rfl, h2⟩ := h
  rw [bd_eq]
  exact g σ' h2
theorem AnT.o {x : Option (Int32 × St)} {b : Int32} (h : QS c L xs ch sl t σ) (g : AnT c L xs ch sl x b) : AnT c L xs ch sl (if isO σ 10 1 = true then x else none) b := by
  rw [if_pos h.o]; exact g
theorem AnT.yes {p : Prop} [Decidable p] {x y : Option (Int32 × St)} {b : Int32} (h : p) (g : AnT c L xs ch sl x b) : AnT c L xs ch sl (if p then x else y) b := by
  rw [if_pos h]; exact g
theorem AnT.no {p : Prop} [Decidable p] {x y : Option (Int32 × St)} {b : Int32} (h : ¬ p) (g : AnT c L xs ch sl y b) : AnT c L xs ch sl (if p then x else y) b := by
  rw [if_neg h]; exact g
theorem AnT.now {a : Int32} (h : QS c L xs ch sl t σ) : AnT c L xs ch sl (some (a, σ)) a := ⟨t, Ans.now h⟩
/-! the calls, with the law's own numbers -/
variable (h0 : wSl sl 0 ≠ 0) (hq : QS c L xs ch sl t σ)
theorem b_check0 (h0 : wSl sl 0 ≠ 0) (hq : QS c L xs ch sl t σ) : Ans c L xs ch sl t (s_X10_check 1 0 σ) (I (chkR (wCh ch) (wSl sl) t : Nat)) := by
  have h := a_check hq (z := 0) (by omega)
  unfold chkA at h
  rw [if_pos (by omega), if_neg h0, if_pos rfl, l0I] at h; exact h
theorem b_check1 (h0 : wSl sl 0 ≠ 0) (hq : QS c L xs ch sl t σ) : Ans c L xs ch sl t (s_X10_check 1 1 σ) (I ((chkV (wCh ch) (wSl sl) t).2.1 : Nat)) := by
  have h := a_check hq (z := 1) (by omega)
  unfold chkA at h
  rw [if_pos (by omega), if_neg h0, if_neg (by omega), if_pos rfl, l1I] at h; exact h
theorem b_check2 (h0 : wSl sl 0 ≠ 0) (hq : QS c L xs ch sl t σ) : Ans c L xs ch sl t (s_X10_check 1 2 σ) (I ((chkV (wCh ch) (wSl sl) t).2.2 : Nat)) := by
  have h := a_check hq (z := 2) (by omega)
  unfold chkA at h
  rw [if_pos (by omega), if_neg h0, if_neg (by omega), if_neg (by omega), l2I] at h; exact h
theorem b_trial0 (hq : QS c L xs ch sl t σ) : Ans c L xs ch sl [] (s_X10_trial 1 0 σ) 0 := by
  have h := a_trial hq (z := 0) (by omega)
  unfold triA triT at h
  rw [if_pos (by omega), if_neg (by omega), if_pos (by omega), if_neg (by omega), l0I] at h; exact h
theorem b_trial1 (h0 : wSl sl 0 ≠ 0) (hq : QS c L xs ch sl t σ) : Ans c L xs ch sl ((fpL (wCh ch) (wSl sl)).take 60) (s_X10_trial 1 1 σ) (I (((fpL (wCh ch) (wSl sl)).take 60).length : Nat)) := by
  have h := a_trial hq (z := 1) (by omega)
  unfold triA triT at h
  rw [if_pos (by omega), if_pos rfl, if_neg h0, if_pos (by omega), if_pos rfl, if_neg h0, l1I] at h; exact h
theorem b_put (hq : QS c L xs ch sl t σ) {x : Nat} (hx : x < 500) (hl : t.length < 60) : Ans c L xs ch sl (t ++ [x]) (s_X10_put 1 (I (x : Nat)) σ) (I ((t.length + 1 : Nat) : Int)) := by
  have h := a_put hq (z := (x : Int)) (by omega)
  unfold putA putT at h
  rw [if_pos (by omega), if_neg (by omega), if_pos (by omega), if_neg (by omega), Int.toNat_natCast] at h; exact h
theorem b_term (h0 : wSl sl 0 ≠ 0) (hh : 0 < hgt (wCh ch) (all5 (wSl sl))) (hq : QS c L xs ch sl t σ) {i : Nat} (hi : i < (fpL (wCh ch) (wSl sl)).length) : Ans c L xs ch sl t (s_X10_term 1 (I (i : Nat)) σ) (I ((fpL (wCh ch) (wSl sl)).getD i 0 : Nat)) := by
  have hl := fpL_len (wCh ch) (wSl sl)
  have h := a_term hq (z := (i : Int)) (by omega)
  unfold termA at h
  rw [if_pos (by omega), if_neg h0, if_pos hh, if_neg (by omega), if_pos (by omega), Int.toNat_natCast] at h; exact h
theorem b_uses0 (h0 : wSl sl 0 ≠ 0) (hq : QS c L xs ch sl t σ) {k : Nat} (hk : k < 8) : Ans c L xs ch sl t (s_X10_uses 1 0 (I (k : Nat)) σ) (I (cntL (usF 0 k) (fpL (wCh ch) (wSl sl)) (fpL (wCh ch) (wSl sl)).length : Nat)) := by
  have h := a_uses hq (z := 0) (y := (k : Int)) (by omega) (by omega)
  unfold usesA at h
  rw [if_pos (by omega), if_pos (by rw [if_pos rfl]; omega), if_neg h0, l0I, Int.toNat_natCast] at h; exact h
theorem b_uses1 (h0 : wSl sl 0 ≠ 0) (hq : QS c L xs ch sl t σ) {k : Nat} (hk : k < 4) : Ans c L xs ch sl t (s_X10_uses 1 1 (I (k : Nat)) σ) (I (cntL (usF 1 k) (fpL (wCh ch) (wSl sl)) (fpL (wCh ch) (wSl sl)).length : Nat)) := by
  have h := a_uses hq (z := 1) (y := (k : Int)) (by omega) (by omega)
  unfold usesA at h
  rw [if_pos (by omega), if_pos (by rw [if_neg (by omega)]; omega), if_neg h0, l1I, Int.toNat_natCast] at h; exact h
end
theorem vr_at {v : VR} {n d : Nat} (e : v = (0, n, d)) : v.2.1 = n ∧ v.2.2 = d := by
  subst e; exact ⟨rfl, rfl⟩
theorem take_app {w : List Nat} {k : Nat} (h : k < w.length) : w.take k ++ [w.getD k 0] = w.take (k + 1) := by
  rw [List.take_succ, getD_some h]
  rfl
theorem take_len {w : List Nat} {k : Nat} (h : k ≤ w.length) : (w.take k).length = k := by rw [List.length_take]; omega
section
variable {c L : Nat} {xs : Nat → Int32} {ch sl : Nat → Nat}
theorem lp_436 (m a : Nat) (b d : Int32) (σ : St) : s_L_isWay_436 (m + 1) a b d σ = sb_L_isWay_436 (s_L_isWay_436 m) a b d σ := rfl
/-- the last number is left out -/
theorem w436 (hb : NB (wCh ch)) (h0 : wSl sl 0 ≠ 0) (hh : 0 < hgt (wCh ch) (all5 (wSl sl))) {n : Nat} (hn : n = (fpL (wCh ch) (wSl sl)).length) (hn60 : n ≤ 60) : ∀ (j k m : Nat) (σ : St), n ≤ k + 1 + j → (k = 0 ∨ k + 1 ≤ n) → QS c L xs ch sl ((fpL (wCh ch) (wSl sl)).take k) σ →
    AnT c L xs ch sl (s_L_isWay_436 (m + j + 1) 1 (I (n : Nat)) (I (k : Nat)) σ) 1 := by
  have fin : ∀ (k m : Nat) (σ : St), n ≤ k + 1 → (k = 0 ∨ k + 1 ≤ n) → QS c L xs ch sl ((fpL (wCh ch) (wSl sl)).take k) σ → AnT c L xs ch sl (s_L_isWay_436 (m + 1) 1 (I (n : Nat)) (I (k : Nat)) σ) 1 := by
    intro k m σ h1 h2 hq
    rw [lp_436]
    unfold sb_L_isWay_436
    rw [I_p]
    refine AnT.yes (by rw [I_le (by omega) (by omega)]; omega) ?_
    by_cases cn : n = 0
    · exact AnT.yes (by rw [cn]; rfl) (AnT.now hq)
    · refine AnT.no (by rw [show (0 : Int32) = I ((0 : Nat) : Int) from rfl, I_eq (by omega) (by omega)]; omega) ?_
      have hc := chk_cut (sl := wSl sl) hb hh (show k < (fpL (wCh ch) (wSl sl)).length by omega)
      refine AnT.o hq (AnT.go (b_check0 h0 hq) fun σ hq => ?_)
      rw [hc.1]
      refine AnT.yes rfl (AnT.o hq (AnT.go (b_check1 h0 hq) fun σ hq => ?_))
      rw [hc.2]
      refine AnT.yes ?_ (AnT.now hq)
      rw [show (1 : Int32) = I ((1 : Nat) : Int) from rfl, I_sub]
      exact congrArg I (by omega)
  intro j
  induction j with
  | zero => intro k m σ h1 h2 hq; exact fin k m σ (by omega) h2 hq
  | succ j ih =>
    intro k m σ h1 h2 hq
    by_cases cc : n ≤ k + 1
    · exact fin k (m + (j + 1)) σ cc h2 hq
    rw [show m + (j + 1) + 1 = (m + j + 1) + 1 by omega, lp_436]
    unfold sb_L_isWay_436
    rw [I_p]
    have hk : k < (fpL (wCh ch) (wSl sl)).length := by omega
    refine AnT.no (by rw [I_le (by omega) (by omega)]; omega) (AnT.o hq (AnT.go (b_term h0 hh hq hk) fun σ hq => ?_))
    have hx := fpL_num (wCh ch) (wSl sl) _ (getD_mem hk)
    refine AnT.o hq (AnT.go (b_put hq hx (by rw [take_len (by omega)]; omega)) fun σ hq => ?_)
    rw [lt_eq]
    rw [take_app hk] at hq
    exact ih (k + 1) m σ (by omega) (by omega) hq
theorem w427 (hb : NB (wCh ch)) (h0 : wSl sl 0 ≠ 0) (hh : 0 < hgt (wCh ch) (all5 (wSl sl))) {n : Nat} (hn : n = (fpL (wCh ch) (wSl sl)).length) (hn60 : n ≤ 60) {t : List Nat} {σ : St} (hq : QS c L xs ch sl t σ) : AnT c L xs ch sl (s_L_isWay_427 1 (I (n : Nat)) σ) 1 := by
  unfold s_L_isWay_427
  refine AnT.o hq (AnT.go (b_trial0 hq) fun σ hq => ?_)
  exact w436 hb h0 hh hn hn60 60 0 15939 σ (by omega) (Or.inl rfl) hq
variable {k222 : Nat → Int32 → Int32 → Int32 → Int32 → Int32 → St → Option (Int32 × St)} {k260 : Nat → Int32 → Int32 → Int32 → Int32 → Int32 → Int32 → St → Option (Int32 × St)}
theorem lp_287 (m a : Nat) (b d e f g h i : Int32) (σ : St) : s_L_isWay_287 k222 k260 (m + 1) a b d e f g h i σ = sb_L_isWay_287 k222 k260 (s_L_isWay_287 k222 k260 m) a b d e f g h i σ := rfl
/-- a lesser number at the i-th place -/
theorem w287 (hb : NB (wCh ch)) (h0 : wSl sl 0 ≠ 0) (hh : 0 < hgt (wCh ch) (all5 (wSl sl))) {n i x : Nat} (hn : n = (fpL (wCh ch) (wSl sl)).length) (hn60 : n ≤ 60) (hi : i < n) (hx : x < (fpL (wCh ch) (wSl sl)).getD i 0) {a4 a5 : Int32}
    (hk : ∀ t σ, QS c L xs ch sl t σ → AnT c L xs ch sl (k260 1 (I (hgt (wCh ch) (all5 (wSl sl)) : Nat)) (I (n : Nat)) a4 a5 (I (i : Nat)) (I ((x : Int) + -1)) σ) 1) :
    ∀ (j k m : Nat) (σ : St), k + j = i → QS c L xs ch sl ((fpL (wCh ch) (wSl sl)).take k) σ →
    AnT c L xs ch sl (s_L_isWay_287 k222 k260 (m + j + 1) 1 (I (hgt (wCh ch) (all5 (wSl sl)) : Nat)) (I (n : Nat)) a4 a5 (I (i : Nat)) (I (x : Nat)) (I (k : Nat)) σ) 1 := by
  intro j
  have hil : i < (fpL (wCh ch) (wSl sl)).length := by omega
  have hxx := fpL_num (wCh ch) (wSl sl) _ (getD_mem hil)
  have h10 := hgt_le (wCh ch) (all5 (wSl sl))
  induction j with
  | zero =>
    intro k m σ hk1 hq
    obtain rfl : k = i := by omega
    rw [lp_287]
    unfold sb_L_isWay_287
    refine AnT.yes (by rw [I_le (by omega) (by omega)]; omega) (AnT.o hq (AnT.go (b_put hq (x := x) (by omega) (by rw [take_len (by omega)]; omega)) fun σ hq => ?_))
    rw [take_len (by omega)]
    obtain ⟨c1, c2⟩ := chk_less (sl := wSl sl) hb hh hil hx
    have hv := vis_ok (ch := wCh ch) (t := (fpL (wCh ch) (wSl sl)).take k ++ [x]) (r := 12) (p := 0) (s := all5 (wSl sl)) (u := 0) (dp := 0) (Nat.zero_le _) (by omega)
    have hv1 : (chkV (wCh ch) (wSl sl) ((fpL (wCh ch) (wSl sl)).take k ++ [x])).2.1 ≤ 61 := Nat.le_trans hv.1 (by rw [List.length_append, take_len (by omega), List.length_singleton]; omega)
    have hv2 : (chkV (wCh ch) (wSl sl) ((fpL (wCh ch) (wSl sl)).take k ++ [x])).2.2 ≤ 12 := hv.2.1
    have hv3 : chkR (wCh ch) (wSl sl) ((fpL (wCh ch) (wSl sl)).take k ++ [x]) ≤ 6 := by
      have : (chkV (wCh ch) (wSl sl) ((fpL (wCh ch) (wSl sl)).take k ++ [x])).1 ≤ 5 := hv.2.2
      unfold chkR
      split
      · split <;> omega
      · omega
    have nx : ∀ σ, QS c L xs ch sl ((fpL (wCh ch) (wSl sl)).take k ++ [x]) σ → AnT c L xs ch sl (s_L_isWay_347 k222 k260 1 (I (hgt (wCh ch) (all5 (wSl sl)) : Nat)) (I (n : Nat)) a4 a5 (I (k : Nat)) (I (x : Nat)) σ) 1 := by
      intro σ hq
      unfold s_L_isWay_347
      refine AnT.o hq (AnT.go (b_check1 h0 hq) fun σ hq => ?_)
      refine AnT.yes (by rw [I_le (by omega) (by omega)]; omega) ?_
      rw [lt_eq, show (-1 : Int32) = I (-1) from rfl, I_add]
      exact hk _ σ hq
    refine AnT.yes (by rw [I_p]) (AnT.o hq (AnT.go (b_check0 h0 hq) fun σ hq => ?_))
    by_cases cr : chkR (wCh ch) (wSl sl) ((fpL (wCh ch) (wSl sl)).take k ++ [x]) = 0
    · refine AnT.yes (by rw [cr]; rfl) (AnT.o hq (AnT.go (b_check2 h0 hq) fun σ hq => ?_))
      refine AnT.no (by rw [I_le (by omega) (by omega)]; intro q; exact c1 ⟨cr, by omega⟩) (nx σ hq)
    · refine AnT.no (by rw [show (0 : Int32) = I ((0 : Nat) : Int) from rfl, I_eq (by omega) (by omega)]; omega) (nx σ hq)
  | succ j ih =>
    intro k m σ hk1 hq
    rw [show m + (j + 1) + 1 = (m + j + 1) + 1 by omega, lp_287]
    unfold sb_L_isWay_287
    have hkl : k < (fpL (wCh ch) (wSl sl)).length := by omega
    refine AnT.no (by rw [I_le (by omega) (by omega)]; omega) (AnT.o hq (AnT.go (b_term h0 hh hq hkl) fun σ hq => ?_))
    have hy := fpL_num (wCh ch) (wSl sl) _ (getD_mem hkl)
    refine AnT.o hq (AnT.go (b_put hq hy (by rw [take_len (by omega)]; omega)) fun σ hq => ?_)
    rw [lt_eq, I_p]
    rw [take_app hkl] at hq
    exact ih (k + 1) m σ (by omega) hq
theorem lp_260 (m a : Nat) (b d e f g h : Int32) (σ : St) : s_L_isWay_260 k222 (m + 1) a b d e f g h σ = sb_L_isWay_260 k222 (s_L_isWay_260 k222 m) a b d e f g h σ := rfl
theorem w260 (hb : NB (wCh ch)) (h0 : wSl sl 0 ≠ 0) (hh : 0 < hgt (wCh ch) (all5 (wSl sl))) {n i : Nat} (hn : n = (fpL (wCh ch) (wSl sl)).length) (hn60 : n ≤ 60) (hi : i < n) {a4 a5 : Int32}
    (hk : ∀ t σ, QS c L xs ch sl t σ → AnT c L xs ch sl (k222 1 (I (hgt (wCh ch) (all5 (wSl sl)) : Nat)) (I (n : Nat)) a4 a5 (I ((i + 1 : Nat) : Int)) σ) 1) :
    ∀ (j m : Nat) (z : Int) (t : List Nat) (σ : St), j ≤ 3 → z = ((fpL (wCh ch) (wSl sl)).getD i 0 : Nat) - 4 + j → QS c L xs ch sl t σ →
    AnT c L xs ch sl (s_L_isWay_260 k222 (m + j + 1) 1 (I (hgt (wCh ch) (all5 (wSl sl)) : Nat)) (I (n : Nat)) a4 a5 (I (i : Nat)) (I z) σ) 1 := by
  have hil : i < (fpL (wCh ch) (wSl sl)).length := by omega
  have hxx := fpL_num (wCh ch) (wSl sl) _ (getD_mem hil)
  have e4 : I ((fpL (wCh ch) (wSl sl)).getD i 0 : Nat) - 4 = I (((fpL (wCh ch) (wSl sl)).getD i 0 : Nat) - 4 : Int) := by rw [show (4 : Int32) = I ((4 : Nat) : Int) from rfl, I_sub]; rfl
  intro j
  induction j with
  | zero =>
    intro m z t σ hj hz hq
    rw [lp_260]
    unfold sb_L_isWay_260
    by_cases cz : z < 0
    · refine AnT.yes (by rw [I_lit, I_lt (by omega) (by omega)]; exact cz) ?_
      rw [lt_eq, I_p]
      exact hk t σ hq
    · refine AnT.no (by rw [I_lit, I_lt (by omega) (by omega)]; exact cz) (AnT.o hq (AnT.go (b_term h0 hh hq hil) fun σ hq => ?_))
      refine AnT.yes (by rw [e4, I_le (by omega) (by omega)]; omega) ?_
      rw [lt_eq, I_p]
      exact hk t σ hq
  | succ j ih =>
    intro m z t σ hj hz hq
    rw [show m + (j + 1) + 1 = (m + j + 1) + 1 by omega, lp_260]
    unfold sb_L_isWay_260
    by_cases cz : z < 0
    · refine AnT.yes (by rw [I_lit, I_lt (by omega) (by omega)]; exact cz) ?_
      rw [lt_eq, I_p]
      exact hk t σ hq
    · refine AnT.no (by rw [I_lit, I_lt (by omega) (by omega)]; exact cz) (AnT.o hq (AnT.go (b_term h0 hh hq hil) fun σ hq => ?_))
      refine AnT.no (by rw [e4, I_le (by omega) (by omega)]; omega) (AnT.o hq (AnT.go (b_trial0 hq) fun σ hq => ?_))
      obtain ⟨x, rfl⟩ := Int.eq_ofNat_of_zero_le (show 0 ≤ z by omega)
      have q := w287 (k222 := k222) (k260 := s_L_isWay_260 k222 (m + j + 1)) (a4 := a4) (a5 := a5) hb h0 hh hn hn60 hi (show x < (fpL (wCh ch) (wSl sl)).getD i 0 by omega) (fun t σ hq => ih m _ t σ (by omega) (by omega) hq) i 0 (15999 - i) σ (by omega) hq
      rw [show 15999 - i + i + 1 = 16000 by omega] at q
      exact q
theorem lp_222 (m a : Nat) (b d e f g : Int32) (σ : St) : s_L_isWay_222 (m + 1) a b d e f g σ = sb_L_isWay_222 (s_L_isWay_222 m) a b d e f g σ := rfl
theorem w222 (hb : NB (wCh ch)) (h0 : wSl sl 0 ≠ 0) (hh : 0 < hgt (wCh ch) (all5 (wSl sl))) {n : Nat} (hn : n = (fpL (wCh ch) (wSl sl)).length) (hn60 : n ≤ 60) :
    ∀ (j i m : Nat) (t : List Nat) (σ : St), i + j = n → QS c L xs ch sl t σ →
    AnT c L xs ch sl (s_L_isWay_222 (m + j + 1) 1 (I (hgt (wCh ch) (all5 (wSl sl)) : Nat)) (I (n : Nat)) (I (sumU (fpL (wCh ch) (wSl sl)) n 8 : Nat)) (I (cntL lt200 (fpL (wCh ch) (wSl sl)) i : Nat)) (I (i : Nat)) σ) 1 := by
  intro j
  induction j with
  | zero =>
    intro i m t σ hi hq
    obtain rfl : i = n := by omega
    rw [lp_222]
    unfold sb_L_isWay_222
    refine AnT.yes (by rw [I_le (by omega) (by omega)]; omega) (AnT.yes (by rw [sumU_all (w := fpL (wCh ch) (wSl sl)) (fun x hx => wr_of x hx) i (by omega)]) (AnT.o hq (AnT.go (b_trial1 h0 hq) fun σ hq => ?_)))
    have et : (fpL (wCh ch) (wSl sl)).take 60 = fpL (wCh ch) (wSl sl) := List.take_of_length_le (by omega)
    rw [et] at hq ⊢
    rw [← hn]
    refine AnT.yes rfl ?_
    by_cases c6 : i = 60
    · exact AnT.yes (by rw [I_lit, I_le (by omega) (by omega)]; omega) (w427 hb h0 hh hn hn60 hq)
    · refine AnT.no (by rw [I_lit, I_le (by omega) (by omega)]; omega) (AnT.o hq (AnT.go (show Ans c L xs ch sl (fpL (wCh ch) (wSl sl) ++ [0]) (s_X10_put 1 0 σ) _ from b_put hq (x := 0) (by omega) (by omega)) fun σ hq => ?_))
      rw [← hn]
      obtain ⟨l1, l2⟩ := chk_long (sl := wSl sl) hb hh 0
      refine AnT.yes (by rw [I_p]) (AnT.o hq (AnT.go (b_check0 h0 hq) fun σ hq => ?_))
      rw [l1]
      refine AnT.yes rfl (AnT.o hq (AnT.go (b_check1 h0 hq) fun σ hq => ?_))
      rw [l2, ← hn]
      exact AnT.yes rfl (w427 hb h0 hh hn hn60 hq)
  | succ j ih =>
    intro i m t σ hi hq
    rw [show m + (j + 1) + 1 = (m + j + 1) + 1 by omega, lp_222]
    unfold sb_L_isWay_222
    have hil : i < (fpL (wCh ch) (wSl sl)).length := by omega
    have hxx := fpL_num (wCh ch) (wSl sl) _ (getD_mem hil)
    refine AnT.no (by rw [I_le (by omega) (by omega)]; omega) (AnT.o hq (AnT.go (b_term h0 hh hq hil) fun σ hq => ?_))
    have nx : ∀ (x : Nat) (t : List Nat) σ, QS c L xs ch sl t σ → x = b1 (lt200 ((fpL (wCh ch) (wSl sl)).getD i 0)) → AnT c L xs ch sl (s_L_isWay_247 (s_L_isWay_222 (m + j + 1)) 1 (I (hgt (wCh ch) (all5 (wSl sl)) : Nat)) (I (n : Nat)) (I (sumU (fpL (wCh ch) (wSl sl)) n 8 : Nat)) (I (i : Nat)) (I (cntL lt200 (fpL (wCh ch) (wSl sl)) i : Nat)) (I (x : Nat)) σ) 1 := by
      intro x t σ hq hx
      unfold s_L_isWay_247
      rw [lt_eq, I_add]
      refine AnT.o hq (AnT.go (b_term h0 hh hq hil) fun σ hq => ?_)
      rw [lt_eq, show (1 : Int32) = I ((1 : Nat) : Int) from rfl, I_sub]
      refine w260 hb h0 hh hn hn60 (by omega) (fun t σ hq => ?_) 3 15996 _ t σ (by omega) (by omega) hq
      have := ih (i + 1) m t σ (by omega) hq
      rw [cntL_s, ← hx] at this
      exact this
    by_cases c2 : 200 ≤ (fpL (wCh ch) (wSl sl)).getD i 0
    · refine AnT.yes (by rw [I_lit, I_le (by omega) (by omega)]; omega) (nx 0 t σ hq ?_)
      unfold b1 lt200; rw [if_neg (by rw [decide_eq_true_eq]; omega)]
    · refine AnT.no (by rw [I_lit, I_le (by omega) (by omega)]; omega) (nx 1 t σ hq ?_)
      unfold b1 lt200; rw [if_pos (by rw [decide_eq_true_eq]; omega)]
theorem lp_173 (m a : Nat) (b d e f : Int32) (σ : St) : s_L_isWay_173 (m + 1) a b d e f σ = sb_L_isWay_173 (s_L_isWay_173 m) a b d e f σ := rfl
theorem w173 (hb : NB (wCh ch)) (h0 : wSl sl 0 ≠ 0) (hh : 0 < hgt (wCh ch) (all5 (wSl sl))) {n : Nat} (hn : n = (fpL (wCh ch) (wSl sl)).length) (hn60 : n ≤ 60) {t : List Nat} :
    ∀ (j k m : Nat) (σ : St), k + j = 8 → QS c L xs ch sl t σ →
    AnT c L xs ch sl (s_L_isWay_173 (m + j + 1) 1 (I (hgt (wCh ch) (all5 (wSl sl)) : Nat)) (I (n : Nat)) (I (sumU (fpL (wCh ch) (wSl sl)) n k : Nat)) (I (k : Nat)) σ) 1 := by
  intro j
  induction j with
  | zero =>
    intro k m σ hk hq
    obtain rfl : k = 8 := by omega
    rw [lp_173]
    unfold sb_L_isWay_173
    refine AnT.yes (by rw [I_lit, I_le (by omega) (by omega)]; omega) ?_
    have := w222 hb h0 hh hn hn60 n 0 (15999 - n) t σ (by omega) hq
    rw [show 15999 - n + n + 1 = 16000 by omega] at this
    exact this
  | succ j ih =>
    intro k m σ hk hq
    rw [show m + (j + 1) + 1 = (m + j + 1) + 1 by omega, lp_173]
    unfold sb_L_isWay_173
    refine AnT.no (by rw [I_lit, I_le (by omega) (by omega)]; omega) (AnT.o hq (AnT.go (b_uses0 h0 hq (show k < 8 by omega)) fun σ hq => ?_))
    have nx : ∀ (x : Nat) σ, QS c L xs ch sl t σ → x = (if k < 4 then cntL (usF 1 k) (fpL (wCh ch) (wSl sl)) n else 0) → AnT c L xs ch sl (s_L_isWay_206 (s_L_isWay_173 (m + j + 1)) 1 (I (hgt (wCh ch) (all5 (wSl sl)) : Nat)) (I (n : Nat)) (I (k : Nat)) (I (sumU (fpL (wCh ch) (wSl sl)) n k : Nat)) (I (cntL (usF 0 k) (fpL (wCh ch) (wSl sl)) n : Nat)) (I (x : Nat)) σ) 1 := by
      intro x σ hq hx
      unfold s_L_isWay_206
      rw [lt_eq, lt_eq, I_p, I_add, I_add]
      have := ih (k + 1) m σ (by omega) hq
      rw [show sumU (fpL (wCh ch) (wSl sl)) n (k + 1) = sumU (fpL (wCh ch) (wSl sl)) n k + (cntL (usF 0 k) (fpL (wCh ch) (wSl sl)) n + x) by rw [hx]; rfl] at this
      exact this
    rw [← hn]
    by_cases c4 : 4 ≤ k
    · exact AnT.yes (by rw [I_lit, I_le (by omega) (by omega)]; omega) (nx 0 σ hq (by rw [if_neg (by omega)]))
    · refine AnT.no (by rw [I_lit, I_le (by omega) (by omega)]; omega) (AnT.o hq (AnT.go (b_uses1 h0 hq (show k < 4 by omega)) fun σ hq => ?_))
      rw [← hn]
      exact nx _ σ hq (by rw [if_pos (by omega)])
/-- the law's second half -/
theorem law_way (hb : NB (wCh ch)) (h0 : wSl sl 0 ≠ 0) (hE : hgt (wCh ch) (all5 (wSl sl)) = 0 → chkR (wCh ch) (wSl sl) [] ≠ 0) {t : List Nat} {σ : St} (hq : QS c L xs ch sl t σ) : AnT c L xs ch sl (s_L_isWay 1 (I (all5 (wSl sl) : Nat)) σ) 1 := by
  have ha := all5_lt (wSl sl)
  have h10 := hgt_le (wCh ch) (all5 (wSl sl))
  have hlen := fpL_len (wCh ch) (wSl sl)
  unfold s_L_isWay
  refine AnT.o hq (AnT.go (a_height hq (z := ((all5 (wSl sl) : Nat) : Int)) (by omega)) fun σ hq => ?_)
  rw [hA_in h0 (Nat.and_self _)]
  have ht := a_term hq (z := -1) (by omega)
  unfold termA at ht
  rw [if_pos (by omega), if_neg h0, m1I] at ht
  refine AnT.o hq (AnT.go ht fun σ hq => ?_)
  by_cases hh : 0 < hgt (wCh ch) (all5 (wSl sl))
  · rw [if_pos hh, if_pos rfl, show hR (hgt (wCh ch) (all5 (wSl sl))) = I (hgt (wCh ch) (all5 (wSl sl)) : Nat) by unfold hR; rw [if_neg (by omega)]]
    refine AnT.yes (by rw [I_lit, I_le (by omega) (by omega)]; omega) (AnT.no (by rw [I_lit, I_lt (by omega) (by omega)]; omega) ?_)
    have hte := a_term hq (z := (((fpL (wCh ch) (wSl sl)).length : Nat) : Int)) (by omega)
    unfold termA at hte
    rw [if_pos (by omega), if_neg h0, if_pos hh, if_neg (by omega), if_neg (by omega)] at hte
    refine AnT.o hq (AnT.go hte fun σ hq => AnT.yes rfl (AnT.o hq (AnT.go (b_trial1 h0 hq) fun σ hq => ?_)))
    by_cases c6 : (fpL (wCh ch) (wSl sl)).length ≤ 60
    · have et : (fpL (wCh ch) (wSl sl)).take 60 = fpL (wCh ch) (wSl sl) := List.take_of_length_le c6
      rw [et] at hq ⊢
      refine AnT.yes (by rw [I_lit, I_le (by omega) (by omega)]; omega) ?_
      unfold s_L_isWay_103
      refine AnT.yes rfl (AnT.yes (by rw [I_lit, I_le (by omega) (by omega)]; omega) (AnT.o hq (AnT.go (b_check0 h0 hq) fun σ hq => ?_)))
      have e1 : (chkV (wCh ch) (wSl sl) (fpL (wCh ch) (wSl sl))).2.1 = (fpL (wCh ch) (wSl sl)).length := (vr_at (chk_first hb hh)).1
      have e2 : (chkV (wCh ch) (wSl sl) (fpL (wCh ch) (wSl sl))).2.2 = hgt (wCh ch) (all5 (wSl sl)) := (vr_at (chk_first hb hh)).2
      rw [chkR_first hb hh]
      refine AnT.yes rfl (AnT.o hq (AnT.go (b_check1 h0 hq) fun σ hq => ?_))
      rw [e1]
      refine AnT.yes rfl (AnT.o hq (AnT.go (b_check2 h0 hq) fun σ hq => ?_))
      rw [e2]
      exact AnT.yes rfl (w173 hb h0 hh rfl c6 8 0 15991 σ rfl hq)
    · refine AnT.no (by rw [I_lit, I_le (by omega) (by omega)]; omega) ?_
      have hcut := chk_cut (sl := wSl sl) hb hh (show 60 < (fpL (wCh ch) (wSl sl)).length by omega)
      unfold s_L_isWay_103
      refine AnT.yes (by rw [take_len (by omega)]; rfl) (AnT.no (by rw [I_lit, I_le (by omega) (by omega)]; omega) (AnT.o hq (AnT.go (b_check0 h0 hq) fun σ hq => ?_)))
      rw [hcut.1]
      refine AnT.yes rfl (AnT.o hq (AnT.go (b_check1 h0 hq) fun σ hq => ?_))
      rw [hcut.2]
      exact AnT.yes rfl (AnT.now hq)
  · have hz : hgt (wCh ch) (all5 (wSl sl)) = 0 := by omega
    have ef : fpL (wCh ch) (wSl sl) = [] := by unfold fpL; rw [hz]; rfl
    rw [if_neg hh, show hR (hgt (wCh ch) (all5 (wSl sl))) = I (-6) by rw [hz]; rfl]
    refine AnT.no (by decide) (AnT.yes rfl ?_)
    have hte := a_term hq (z := 0) (by omega)
    unfold termA at hte
    rw [if_pos (by omega), if_neg h0, if_neg hh, l0I] at hte
    refine AnT.o hq (AnT.go hte fun σ hq => AnT.yes rfl (AnT.o hq (AnT.go (b_trial1 h0 hq) fun σ hq => ?_)))
    rw [ef] at hq ⊢
    change QS c L xs ch sl [] σ at hq
    refine AnT.yes rfl (AnT.o hq (AnT.go (b_check0 h0 hq) fun σ hq => ?_))
    have hv := vis_ok (ch := wCh ch) (t := []) (r := 12) (p := 0) (s := all5 (wSl sl)) (u := 0) (dp := 0) (Nat.zero_le _) (by omega)
    have hv3 : chkR (wCh ch) (wSl sl) [] ≤ 6 := by
      have : (chkV (wCh ch) (wSl sl) []).1 ≤ 5 := hv.2.2
      unfold chkR
      split
      · split <;> omega
      · omega
    have hne := hE hz
    refine AnT.no (by rw [show (0 : Int32) = I ((0 : Nat) : Int) from rfl, I_eq (by omega) (by omega)]; omega) (AnT.o hq (AnT.go (show Ans c L xs ch sl [] (s_X10_uses 1 0 0 σ) _ from b_uses0 h0 hq (k := 0) (by omega)) fun σ hq => ?_))
    rw [ef]
    refine AnT.yes rfl (AnT.o hq (AnT.go (show Ans c L xs ch sl [] (s_X10_uses 1 1 3 σ) _ from b_uses1 h0 hq (k := 3) (by omega)) fun σ hq => ?_))
    rw [ef]
    exact AnT.yes rfl (AnT.now hq)
end
