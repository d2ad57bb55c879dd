/-! the two constructors -/
def lkI : List (Nat × Nat × Int32) → Nat → Nat → Int32
  | [], _, _ => 0
  | q :: l, a, k => if a = q.1 ∧ k = q.2.1 then q.2.2 else lkI l a k
def lkP : List (Nat × Nat × Nat) → Nat → Nat → Option Nat
  | [], _, _ => none
  | q :: l, a, k => if a = q.1 ∧ k = q.2.1 then some q.2.2 else lkP l a k
theorem lkI_no {a k : Nat} : ∀ (l : List (Nat × Nat × Int32)), (∀ q ∈ l, q.1 ≠ a) → lkI l a k = 0
  | [], _ => rfl
  | q :: l, h => by
    show (if a = q.1 ∧ k = q.2.1 then q.2.2 else lkI l a k) = 0
    rw [if_neg (fun e => h q (List.mem_cons_self ..) e.1.symm)]
    exact lkI_no l (fun x hx => h x (List.mem_cons_of_mem _ hx))
theorem lkP_no {a k : Nat} : ∀ (l : List (Nat × Nat × Nat)), (∀ q ∈ l, q.1 ≠ a) → lkP l a k = none
  | [], _ => rfl
  | q :: l, h => by
    show (if a = q.1 ∧ k = q.2.1 then some q.2.2 else lkP l a k) = none
    rw [if_neg (fun e => h q (List.mem_cons_self ..) e.1.symm)]
    exact lkP_no l (fun x hx => h x (List.mem_cons_of_mem _ hx))
def Ds (L : Nat) (xs : Nat → Int32) (n z : Nat) (ap : Nat → Int64) (li : List (Nat × Nat × Int32)) (ps : List (Nat × Nat × Nat)) (σ : St) : Prop :=
  sn σ = n ∧ sz σ = z ∧ (∀ a, 1 ≤ a → a < n → sh σ a = stS a) ∧ (sh σ 0 = (13, L) ∧ ∀ k, sI σ 0 k = xs k) ∧ (∀ a k, 1 ≤ a → a < n → sI σ a k = lkI li a k) ∧ (∀ a k, 1 ≤ a → a < n → sL σ a k = if a = 22 then ap k else 0) ∧ (∀ a k, 1 ≤ a → a < n → sP σ a k = lkP ps a k) ∧ (∀ q ∈ li, q.1 < n) ∧ ∀ q ∈ ps, q.1 < n
def Rn (P : St → Prop) (x : Option (Unit × St)) : Prop := ∃ σ', x = some ((), σ') ∧ P σ'
section
variable {L : Nat} {xs : Nat → Int32} {n z : Nat} {ap : Nat → Int64} {li : List (Nat × Nat × Int32)} {ps : List (Nat × Nat × Nat)} {σ : St} {P : St → Prop}
theorem W_sn (h : Ds L xs n z ap li ps σ) {f : Nat → Option (Unit × St)} (g : Rn P (f n)) : Rn P (lt (sn σ) f) := by
  rw [lt_eq, h.1]; exact g
theorem W_new (h : Ds L xs n z ap li ps σ) {n2 z2 kd ln : Nat} (e1 : stS n = (kd, ln)) (e2 : n2 = n + 1 ∧ 1 ≤ n) (e3 : z2 = z + ln) (e4 : n = 22 → ∀ k, ap k = 0) {f : St → Option (Unit × St)} (g : ∀ σ', Ds L xs n2 z2 ap li ps σ' → Rn P (f σ')) : Rn P (lt (newC σ kd ln) f) := by
  obtain ⟨h1, h2, h3, h4, h5, h6, h7, h8, h9⟩ := h
  obtain ⟨rfl, e5⟩ := e2
  have hg : Gr (fun _ _ => False) (fun _ _ => False) σ (newC σ kd ln) := new_gr σ kd ln
  rw [lt_eq]
  refine g _ ⟨by show sn σ + 1 = _; rw [h1], by show sz σ + ln = _; rw [h2, e3], fun a q1 q2 => ?_, ⟨by rw [hg.2.1 0 (by omega)]; exact h4.1, fun k => by rw [hg.2.2.1 0 k (by omega) id]; exact h4.2 k⟩, fun a k q1 q2 => ?_, fun a k q1 q2 => ?_, fun a k q1 q2 => ?_, fun q hq => Nat.lt_succ_of_lt (h8 q hq), fun q hq => Nat.lt_succ_of_lt (h9 q hq)⟩
  · by_cases c : a = n
    · subst c
      rw [e1, ← h1]
      show up1 (sh σ) (sn σ) (kd, ln) (sn σ) = _
      simp [up1]
    · rw [hg.2.1 a (by omega)]; exact h3 a q1 (by omega)
  · by_cases c : a = n
    · subst c
      rw [lkI_no li (fun q hq e => by have := h8 q hq; omega), ← h1]
      show row0 (sI σ) (sn σ) 0 (sn σ) k = 0
      simp [row0]
    · rw [hg.2.2.1 a k (by omega) id]; exact h5 a k q1 (by omega)
  · by_cases c : a = n
    · have e : sL (newC σ kd ln) a k = 0 := by
        rw [c, ← h1]
        show row0 (sL σ) (sn σ) 0 (sn σ) k = 0
        simp [row0]
      rw [e]
      by_cases c2 : a = 22
      · rw [if_pos c2, e4 (by omega) k]
      · rw [if_neg c2]
    · rw [hg.2.2.2.1 a k (by omega)]; exact h6 a k q1 (by omega)
  · by_cases c : a = n
    · subst c
      rw [lkP_no ps (fun q hq e => by have := h9 q hq; omega), ← h1]
      show row0 (sP σ) (sn σ) none (sn σ) k = none
      simp [row0]
    · rw [hg.2.2.2.2 a k (by omega) id]; exact h7 a k q1 (by omega)
theorem Ds.o (h : Ds L xs n z ap li ps σ) {kd a : Nat} (e : decide (1 ≤ a ∧ a < n ∧ (stS a).1 = kd) = true) : isO σ kd a = true := by
  have e := of_decide_eq_true e
  have h4 : (sh σ a).1 = kd := by rw [h.2.2.1 a e.1 e.2.1]; exact e.2.2
  unfold isO
  rw [h4, h.1, decide_eq_true e.1, decide_eq_true e.2.1]
  simp
theorem W_o (h : Ds L xs n z ap li ps σ) {kd a : Nat} (e : decide (1 ≤ a ∧ a < n ∧ (stS a).1 = kd) = true) {x : Option (Unit × St)} (g : Rn P x) : Rn P (if isO σ kd a = true then x else none) := by
  rw [if_pos (h.o e)]; exact g
theorem W_P (h : Ds L xs n z ap li ps σ) {a k v : Nat} (e : 1 ≤ a ∧ a < n) {f : St → Option (Unit × St)} (g : ∀ σ', Ds L xs n z ap li ((a, k, v) :: ps) σ' → Rn P (f σ')) : Rn P (lt (setP σ a k (some v)) f) := by
  obtain ⟨h1, h2, h3, h4, h5, h6, h7, h8, h9⟩ := h
  rw [lt_eq]
  refine g _ ⟨h1, h2, h3, h4, h5, h6, fun x y q1 q2 => ?_, h8, fun q hq => ?_⟩
  · rw [sP_P]
    show _ = (if x = a ∧ y = k then some v else lkP ps x y)
    rw [h7 x y q1 q2]
  · rcases List.mem_cons.1 hq with rfl | hq
    · exact e.2
    · exact h9 q hq
theorem W_I (h : Ds L xs n z ap li ps σ) {a k : Nat} {v : Int32} (e : 1 ≤ a ∧ a < n) {f : St → Option (Unit × St)} (g : ∀ σ', Ds L xs n z ap ((a, k, v) :: li) ps σ' → Rn P (f σ')) : Rn P (lt (setI σ a k v) f) := by
  obtain ⟨h1, h2, h3, h4, h5, h6, h7, h8, h9⟩ := h
  rw [lt_eq]
  refine g _ ⟨h1, h2, h3, ⟨h4.1, fun y => by rw [sIn (by omega)]; exact h4.2 y⟩, fun x y q1 q2 => ?_, h6, h7, fun q hq => ?_, h9⟩
  · rw [sI_I]
    show _ = (if x = a ∧ y = k then v else lkI li x y)
    rw [h5 x y q1 q2]
  · rcases List.mem_cons.1 hq with rfl | hq
    · exact e.2
    · exact h8 q hq
theorem W_L (h : Ds L xs n z ap li ps σ) {a k : Nat} (e : (1 ≤ a ∧ a < n) ∧ a ≠ 22) {f : St → Option (Unit × St)} (g : ∀ σ', Ds L xs n z ap li ps σ' → Rn P (f σ')) : Rn P (lt (setL σ a k 0) f) := by
  obtain ⟨h1, h2, h3, h4, h5, h6, h7, h8, h9⟩ := h
  rw [lt_eq]
  refine g _ ⟨h1, h2, h3, h4, h5, fun x y q1 q2 => ?_, h7, h8, h9⟩
  rw [sL_L]
  by_cases c : x = a ∧ y = k
  · rw [if_pos c, if_neg (by omega)]
  · rw [if_neg c]; exact h6 x y q1 q2
theorem Ds.p (h : Ds L xs n z ap li ps σ) {a k v : Nat} (e : 1 ≤ a ∧ a < n) (e2 : lkP ps a k = some v) : sP σ a k = some v := by rw [h.2.2.2.2.2.2.1 a k e.1 e.2, e2]
theorem W_op (h : Ds L xs n z ap li ps σ) {a k v : Nat} (e : 1 ≤ a ∧ a < n) (e2 : lkP ps a k = some v) {f : Nat → Option (Unit × St)} (g : Rn P (f v)) : Rn P (op (sP σ a k) f) := by
  rw [h.p e e2, op_eq]; exact g
theorem W_bd {Q : St → Prop} {x : Option (Unit × St)} (h : Rn Q x) {f : Unit → St → Option (Unit × St)} (g : ∀ σ', Q σ' → Rn P (f () σ')) : Rn P (bd x f) := by
  obtain ⟨σ', rfl, a2⟩ := h
  rw [bd_eq]; exact g σ' a2
theorem W_ret (h : P σ) : Rn P (some ((), σ)) := ⟨σ, rfl, h⟩
/-- the table of disjoint sets -/
def apP (i : Nat) : Nat → Int64
  | 0 => 0
  | m + 1 => if i &&& m = 0 then apP i m ||| (1 <<< ((I (m : Nat)).toInt64 &&& 63)) else apP i m
def apS (i j : Nat) : Nat → Int64 := fun k => if k < i then apP k 64 else if k = i then apP i j else 0
theorem apS_64 (i : Nat) : apS i 64 = apS (i + 1) 0 := by
  funext k
  unfold apS
  by_cases c : k < i
  · rw [if_pos c, if_pos (by omega)]
  · rw [if_neg c]
    by_cases c2 : k = i
    · rw [if_pos c2, if_pos (by omega), c2]
    · rw [if_neg c2, if_neg (by omega)]
      by_cases c3 : k = i + 1
      · rw [if_pos c3]; rfl
      · rw [if_neg c3]
theorem lp_x451 (k40 : Nat → Int32 → St → Option (Unit × St)) (m a : Nat) (b c : Int32) (σ : St) : s_X4_init_51 k40 (m + 1) a b c σ = sb_X4_init_51 k40 (s_X4_init_51 k40 m) a b c σ := rfl
theorem lp_x440 (m a : Nat) (b : Int32) (σ : St) : s_X4_init_40 (m + 1) a b σ = sb_X4_init_40 (s_X4_init_40 m) a b σ := rfl
theorem Ds.al (h : Ds L xs n z ap li ps σ) {a ln : Nat} (e : 1 ≤ a ∧ a < n) (e2 : (stS a).2 = ln) : alen σ a = ln := by unfold alen; rw [h.2.2.1 a e.1 e.2, e2]
theorem x4_in {i : Nat} (hi : i < 64) (hn : 22 < n) (hq : lkP ps 19 3 = some 22) (k40 : Nat → Int32 → St → Option (Unit × St)) : ∀ (r j m : Nat) (σ : St), j + r = 64 → Ds L xs n z (apS i j) li ps σ → ∃ σ', Ds L xs n z (apS (i + 1) 0) li ps σ' ∧ s_X4_init_51 k40 (m + r + 1) 19 (I (i : Nat)) (I (j : Nat)) σ = k40 19 (I ((i + 1 : Nat) : Int)) σ' := by
  intro r
  induction r with
  | zero =>
    intro j m σ hj h
    obtain rfl : j = 64 := by omega
    rw [apS_64] at h
    refine ⟨σ, h, ?_⟩
    rw [lp_x451]
    unfold sb_X4_init_51
    rw [if_pos (by rw [I_lit, I_lt (by omega) (by omega)]; omega), lt_eq, I_p1]
  | succ r ih =>
    intro j m σ hj h
    have hand : I (i : Nat) &&& I (j : Nat) = I ((i &&& j : Nat) : Int) := I_and i j
    have hlt : i &&& j ≤ i := Nat.and_le_left
    have e : s_X4_init_51 k40 (m + (r + 1) + 1) 19 (I (i : Nat)) (I (j : Nat)) σ = sb_X4_init_51 k40 (s_X4_init_51 k40 (m + r + 1)) 19 (I (i : Nat)) (I (j : Nat)) σ := by
      rw [show m + (r + 1) + 1 = (m + r + 1) + 1 by omega, lp_x451]
    rw [e]
    unfold sb_X4_init_51
    rw [if_neg (by rw [I_lit, I_lt (by omega) (by omega)]; omega), hand]
    by_cases c : i &&& j = 0
    · rw [if_pos (by rw [c]; rfl), if_pos (h.o (show decide (1 ≤ 19 ∧ 19 < n ∧ (stS 19).1 = 4) = true from decide_eq_true ⟨by omega, by omega, rfl⟩)), h.p ⟨by omega, by omega⟩ hq, op_eq, if_pos (h.o (show decide (1 ≤ 22 ∧ 22 < n ∧ (stS 22).1 = 14) = true from decide_eq_true ⟨by omega, by omega, rfl⟩)), h.al ⟨by omega, by omega⟩ (show (stS 22).2 = 64 from rfl), if_pos (inN hi (by omega)), if_pos (inN hi (by omega)), tNI (by omega), lt_eq, lt_eq, I_p1]
      refine ih (j + 1) m _ (by omega) ?_
      obtain ⟨h1, h2, h3, h4, h5, h6, h7, h8, h9⟩ := h
      refine ⟨h1, h2, h3, h4, h5, fun x y q1 q2 => ?_, h7, h8, h9⟩
      have e22 : sL σ 22 i = apP i j := by rw [h6 22 i (by omega) (by omega), if_pos rfl]; unfold apS; rw [if_neg (by omega), if_pos rfl]
      rw [sL_L, e22]
      by_cases c2 : x = 22 ∧ y = i
      · rw [if_pos c2, if_pos c2.1, c2.2]
        unfold apS
        rw [if_neg (by omega), if_pos rfl]
        show _ = (if i &&& j = 0 then apP i j ||| (1 <<< ((I (j : Nat)).toInt64 &&& 63)) else apP i j)
        rw [if_pos c]
      · rw [if_neg c2, h6 x y q1 q2]
        by_cases c3 : x = 22
        · rw [if_pos c3, if_pos c3]
          unfold apS
          by_cases c4 : y < i
          · rw [if_pos c4, if_pos c4]
          · rw [if_neg c4, if_neg c4, if_neg (by omega), if_neg (by omega)]
        · rw [if_neg c3, if_neg c3]
    · rw [if_neg (by rw [show (0 : Int32) = I ((0 : Nat) : Int) from rfl, I_eq (by omega) (by omega)]; omega), lt_eq, I_p1]
      refine ih (j + 1) m _ (by omega) ?_
      have : apS i (j + 1) = apS i j := by
        funext k
        unfold apS
        have e : apP i (j + 1) = apP i j := by
          show (if i &&& j = 0 then _ else apP i j) = apP i j
          rw [if_neg c]
        rw [e]
      rw [this]; exact h
theorem x4_out (hn : 22 < n) (hq : lkP ps 19 3 = some 22) : ∀ (r i m : Nat) (σ : St), i + r = 64 → Ds L xs n z (apS i 0) li ps σ → Rn (Ds L xs n z (apS 64 0) li ps) (s_X4_init_40 (m + r + 1) 19 (I (i : Nat)) σ) := by
  intro r
  induction r with
  | zero =>
    intro i m σ hi h
    obtain rfl : i = 64 := by omega
    refine ⟨σ, ?_, h⟩
    rw [lp_x440]
    unfold sb_X4_init_40
    rw [if_pos (h.o (show decide (1 ≤ 19 ∧ 19 < n ∧ (stS 19).1 = 4) = true from decide_eq_true ⟨by omega, by omega, rfl⟩)), h.p ⟨by omega, by omega⟩ hq, op_eq, if_pos (h.o (show decide (1 ≤ 22 ∧ 22 < n ∧ (stS 22).1 = 14) = true from decide_eq_true ⟨by omega, by omega, rfl⟩)), h.al ⟨by omega, by omega⟩ (show (stS 22).2 = 64 from rfl), I_nI, if_pos (by rw [I_le (by omega) (by omega)]; omega)]
  | succ r ih =>
    intro i m σ hi h
    obtain ⟨σ', a1, a2⟩ := x4_in (L := L) (xs := xs) (z := z) (li := li) (i := i) (by omega) hn hq (s_X4_init_40 (m + r + 1)) 64 0 15935 σ (by omega) h
    obtain ⟨σ2, b1, b2⟩ := ih (i + 1) m σ' (by omega) a1
    refine ⟨σ2, ?_, b2⟩
    rw [← b1, ← a2, show m + (r + 1) + 1 = (m + r + 1) + 1 by omega, lp_x440]
    unfold sb_X4_init_40
    rw [if_pos (h.o (show decide (1 ≤ 19 ∧ 19 < n ∧ (stS 19).1 = 4) = true from decide_eq_true ⟨by omega, by omega, rfl⟩)), h.p ⟨by omega, by omega⟩ hq, op_eq, if_pos (h.o (show decide (1 ≤ 22 ∧ 22 < n ∧ (stS 22).1 = 14) = true from decide_eq_true ⟨by omega, by omega, rfl⟩)), h.al ⟨by omega, by omega⟩ (show (stS 22).2 = 64 from rfl), I_nI, if_neg (by rw [I_le (by omega) (by omega)]; omega)]
    rfl
def apT : Nat → Int64 := apS 64 0
theorem x4_loop (h : Ds L xs n z (fun _ => 0) li ps σ) (hn : 22 < n) (hq : lkP ps 19 3 = some 22) : Rn (Ds L xs n z apT li ps) (s_X4_init_40 16000 19 0 σ) := by
  have e : (fun _ => 0 : Nat → Int64) = apS 0 0 := by
    funext k
    unfold apS
    rw [if_neg (by omega)]
    by_cases c : k = 0
    · rw [if_pos c]; rfl
    · rw [if_neg c]
  rw [e] at h
  exact x4_out hn hq 64 0 15935 σ (by omega) h
end
section
variable {L : Nat} {xs : Nat → Int32}
theorem k_X7_init_1 {σ : St} (h : Ds L xs 3 14 (fun _ => 0) [] [] σ) : Rn (Ds L xs 4 74 (fun _ => 0) [(2, 1, 0)] [(2, 0, 3)]) (s_X7_init 2 σ) := by
  unfold s_X7_init
  refine W_sn h ?_
  refine W_new (n2 := 4) (z2 := 74) h (by decide +kernel) (by decide +kernel) (by decide +kernel) (fun _ _ => rfl) (fun σ h => ?_)
  refine W_o h (by decide) ?_
  refine W_P h (by decide) (fun σ h => ?_)
  refine W_I h (by decide) (fun σ h => ?_)
  exact W_ret h
theorem k_X6_init_2 {σ : St} (h : Ds L xs 5 75 (fun _ => 0) [(2, 1, 0)] [(1, 0, 2), (2, 0, 3)] σ) : Rn (Ds L xs 6 85 (fun _ => 0) [(2, 1, 0)] [(4, 0, 5), (1, 0, 2), (2, 0, 3)]) (s_X6_init 4 σ) := by
  unfold s_X6_init
  refine W_sn h ?_
  refine W_new (n2 := 6) (z2 := 85) h (by decide +kernel) (by decide +kernel) (by decide +kernel) (fun _ _ => rfl) (fun σ h => ?_)
  refine W_o h (by decide) ?_
  refine W_P h (by decide) (fun σ h => ?_)
  exact W_ret h
theorem k_X3_init_3 {σ : St} (h : Ds L xs 8 95 (fun _ => 0) [(2, 1, 0)] [(1, 2, 6), (1, 1, 4), (4, 0, 5), (1, 0, 2), (2, 0, 3)] σ) : Rn (Ds L xs 13 347 (fun _ => 0) [(7, 7, -1), (7, 6, 0), (7, 5, 0), (2, 1, 0)] [(7, 4, 12), (7, 3, 11), (7, 2, 10), (7, 1, 9), (7, 0, 8), (1, 2, 6), (1, 1, 4), (4, 0, 5), (1, 0, 2), (2, 0, 3)]) (s_X3_init 7 σ) := by
  unfold s_X3_init
  refine W_sn h ?_
  refine W_new (n2 := 9) (z2 := 155) h (by decide +kernel) (by decide +kernel) (by decide +kernel) (fun _ _ => rfl) (fun σ h => ?_)
  refine W_o h (by decide) ?_
  refine W_P h (by decide) (fun σ h => ?_)
  refine W_sn h ?_
  refine W_new (n2 := 10) (z2 := 215) h (by decide +kernel) (by decide +kernel) (by decide +kernel) (fun _ _ => rfl) (fun σ h => ?_)
  refine W_P h (by decide) (fun σ h => ?_)
  refine W_sn h ?_
  refine W_new (n2 := 11) (z2 := 275) h (by decide +kernel) (by decide +kernel) (by decide +kernel) (fun _ _ => rfl) (fun σ h => ?_)
  refine W_P h (by decide) (fun σ h => ?_)
  refine W_sn h ?_
  refine W_new (n2 := 12) (z2 := 311) h (by decide +kernel) (by decide +kernel) (by decide +kernel) (fun _ _ => rfl) (fun σ h => ?_)
  refine W_P h (by decide) (fun σ h => ?_)
  refine W_sn h ?_
  refine W_new (n2 := 13) (z2 := 347) h (by decide +kernel) (by decide +kernel) (by decide +kernel) (fun _ _ => rfl) (fun σ h => ?_)
  refine W_P h (by decide) (fun σ h => ?_)
  refine W_I h (by decide) (fun σ h => ?_)
  refine W_I h (by decide) (fun σ h => ?_)
  refine W_I h (by decide) (fun σ h => ?_)
  exact W_ret h
theorem k_X3_init_4 {σ : St} (h : Ds L xs 14 355 (fun _ => 0) [(7, 7, -1), (7, 6, 0), (7, 5, 0), (2, 1, 0)] [(1, 3, 7), (7, 4, 12), (7, 3, 11), (7, 2, 10), (7, 1, 9), (7, 0, 8), (1, 2, 6), (1, 1, 4), (4, 0, 5), (1, 0, 2), (2, 0, 3)] σ) : Rn (Ds L xs 19 607 (fun _ => 0) [(13, 7, -1), (13, 6, 0), (13, 5, 0), (7, 7, -1), (7, 6, 0), (7, 5, 0), (2, 1, 0)] [(13, 4, 18), (13, 3, 17), (13, 2, 16), (13, 1, 15), (13, 0, 14), (1, 3, 7), (7, 4, 12), (7, 3, 11), (7, 2, 10), (7, 1, 9), (7, 0, 8), (1, 2, 6), (1, 1, 4), (4, 0, 5), (1, 0, 2), (2, 0, 3)]) (s_X3_init 13 σ) := by
  unfold s_X3_init
  refine W_sn h ?_
  refine W_new (n2 := 15) (z2 := 415) h (by decide +kernel) (by decide +kernel) (by decide +kernel) (fun _ _ => rfl) (fun σ h => ?_)
  refine W_o h (by decide) ?_
  refine W_P h (by decide) (fun σ h => ?_)
  refine W_sn h ?_
  refine W_new (n2 := 16) (z2 := 475) h (by decide +kernel) (by decide +kernel) (by decide +kernel) (fun _ _ => rfl) (fun σ h => ?_)
  refine W_P h (by decide) (fun σ h => ?_)
  refine W_sn h ?_
  refine W_new (n2 := 17) (z2 := 535) h (by decide +kernel) (by decide +kernel) (by decide +kernel) (fun _ _ => rfl) (fun σ h => ?_)
  refine W_P h (by decide) (fun σ h => ?_)
  refine W_sn h ?_
  refine W_new (n2 := 18) (z2 := 571) h (by decide +kernel) (by decide +kernel) (by decide +kernel) (fun _ _ => rfl) (fun σ h => ?_)
  refine W_P h (by decide) (fun σ h => ?_)
  refine W_sn h ?_
  refine W_new (n2 := 19) (z2 := 607) h (by decide +kernel) (by decide +kernel) (by decide +kernel) (fun _ _ => rfl) (fun σ h => ?_)
  refine W_P h (by decide) (fun σ h => ?_)
  refine W_I h (by decide) (fun σ h => ?_)
  refine W_I h (by decide) (fun σ h => ?_)
  refine W_I h (by decide) (fun σ h => ?_)
  exact W_ret h
theorem k_X4_init_5 {σ : St} (h : Ds L xs 20 612 (fun _ => 0) [(13, 7, -1), (13, 6, 0), (13, 5, 0), (7, 7, -1), (7, 6, 0), (7, 5, 0), (2, 1, 0)] [(1, 4, 13), (13, 4, 18), (13, 3, 17), (13, 2, 16), (13, 1, 15), (13, 0, 14), (1, 3, 7), (7, 4, 12), (7, 3, 11), (7, 2, 10), (7, 1, 9), (7, 0, 8), (1, 2, 6), (1, 1, 4), (4, 0, 5), (1, 0, 2), (2, 0, 3)] σ) : Rn (Ds L xs 23 3320 apT [(19, 4, 0), (13, 7, -1), (13, 6, 0), (13, 5, 0), (7, 7, -1), (7, 6, 0), (7, 5, 0), (2, 1, 0)] [(19, 0, 13), (19, 3, 22), (19, 2, 21), (19, 1, 20), (1, 4, 13), (13, 4, 18), (13, 3, 17), (13, 2, 16), (13, 1, 15), (13, 0, 14), (1, 3, 7), (7, 4, 12), (7, 3, 11), (7, 2, 10), (7, 1, 9), (7, 0, 8), (1, 2, 6), (1, 1, 4), (4, 0, 5), (1, 0, 2), (2, 0, 3)]) (s_X4_init 19 13 σ) := by
  unfold s_X4_init
  refine W_sn h ?_
  refine W_new (n2 := 21) (z2 := 3252) h (by decide +kernel) (by decide +kernel) (by decide +kernel) (fun _ _ => rfl) (fun σ h => ?_)
  refine W_o h (by decide) ?_
  refine W_P h (by decide) (fun σ h => ?_)
  refine W_sn h ?_
  refine W_new (n2 := 22) (z2 := 3256) h (by decide +kernel) (by decide +kernel) (by decide +kernel) (fun _ _ => rfl) (fun σ h => ?_)
  refine W_P h (by decide) (fun σ h => ?_)
  refine W_sn h ?_
  refine W_new (n2 := 23) (z2 := 3320) h (by decide +kernel) (by decide +kernel) (by decide +kernel) (fun _ _ => rfl) (fun σ h => ?_)
  refine W_P h (by decide) (fun σ h => ?_)
  refine W_I h (by decide) (fun σ h => ?_)
  refine W_P h (by decide) (fun σ h => ?_)
  exact x4_loop h (by decide) (by decide)
theorem k_X9_init_6 {σ : St} (h : Ds L xs 24 3324 apT [(19, 4, 0), (13, 7, -1), (13, 6, 0), (13, 5, 0), (7, 7, -1), (7, 6, 0), (7, 5, 0), (2, 1, 0)] [(1, 5, 19), (19, 0, 13), (19, 3, 22), (19, 2, 21), (19, 1, 20), (1, 4, 13), (13, 4, 18), (13, 3, 17), (13, 2, 16), (13, 1, 15), (13, 0, 14), (1, 3, 7), (7, 4, 12), (7, 3, 11), (7, 2, 10), (7, 1, 9), (7, 0, 8), (1, 2, 6), (1, 1, 4), (4, 0, 5), (1, 0, 2), (2, 0, 3)] σ) : Rn (Ds L xs 25 156924 apT [(19, 4, 0), (13, 7, -1), (13, 6, 0), (13, 5, 0), (7, 7, -1), (7, 6, 0), (7, 5, 0), (2, 1, 0)] [(23, 1, 19), (23, 0, 13), (23, 2, 24), (1, 5, 19), (19, 0, 13), (19, 3, 22), (19, 2, 21), (19, 1, 20), (1, 4, 13), (13, 4, 18), (13, 3, 17), (13, 2, 16), (13, 1, 15), (13, 0, 14), (1, 3, 7), (7, 4, 12), (7, 3, 11), (7, 2, 10), (7, 1, 9), (7, 0, 8), (1, 2, 6), (1, 1, 4), (4, 0, 5), (1, 0, 2), (2, 0, 3)]) (s_X9_init 23 13 19 σ) := by
  unfold s_X9_init
  refine W_sn h ?_
  refine W_new (n2 := 25) (z2 := 156924) h (by decide +kernel) (by decide +kernel) (by decide +kernel) (fun q => absurd q (by decide)) (fun σ h => ?_)
  refine W_o h (by decide) ?_
  refine W_P h (by decide) (fun σ h => ?_)
  refine W_L h (by decide) (fun σ h => ?_)
  refine W_P h (by decide) (fun σ h => ?_)
  refine W_P h (by decide) (fun σ h => ?_)
  exact W_ret h
theorem k_X0_init_7 {σ : St} (h : Ds L xs 26 156930 apT [(19, 4, 0), (13, 7, -1), (13, 6, 0), (13, 5, 0), (7, 7, -1), (7, 6, 0), (7, 5, 0), (2, 1, 0)] [(1, 6, 23), (23, 1, 19), (23, 0, 13), (23, 2, 24), (1, 5, 19), (19, 0, 13), (19, 3, 22), (19, 2, 21), (19, 1, 20), (1, 4, 13), (13, 4, 18), (13, 3, 17), (13, 2, 16), (13, 1, 15), (13, 0, 14), (1, 3, 7), (7, 4, 12), (7, 3, 11), (7, 2, 10), (7, 1, 9), (7, 0, 8), (1, 2, 6), (1, 1, 4), (4, 0, 5), (1, 0, 2), (2, 0, 3)] σ) : Rn (Ds L xs 27 157954 apT [(25, 5, 0), (25, 4, 0), (25, 3, 0), (19, 4, 0), (13, 7, -1), (13, 6, 0), (13, 5, 0), (7, 7, -1), (7, 6, 0), (7, 5, 0), (2, 1, 0)] [(25, 1, 19), (25, 0, 13), (25, 2, 26), (1, 6, 23), (23, 1, 19), (23, 0, 13), (23, 2, 24), (1, 5, 19), (19, 0, 13), (19, 3, 22), (19, 2, 21), (19, 1, 20), (1, 4, 13), (13, 4, 18), (13, 3, 17), (13, 2, 16), (13, 1, 15), (13, 0, 14), (1, 3, 7), (7, 4, 12), (7, 3, 11), (7, 2, 10), (7, 1, 9), (7, 0, 8), (1, 2, 6), (1, 1, 4), (4, 0, 5), (1, 0, 2), (2, 0, 3)]) (s_X0_init 25 13 19 σ) := by
  unfold s_X0_init
  refine W_sn h ?_
  refine W_new (n2 := 27) (z2 := 157954) h (by decide +kernel) (by decide +kernel) (by decide +kernel) (fun q => absurd q (by decide)) (fun σ h => ?_)
  refine W_o h (by decide) ?_
  refine W_P h (by decide) (fun σ h => ?_)
  refine W_I h (by decide) (fun σ h => ?_)
  refine W_I h (by decide) (fun σ h => ?_)
  refine W_I h (by decide) (fun σ h => ?_)
  refine W_P h (by decide) (fun σ h => ?_)
  refine W_P h (by decide) (fun σ h => ?_)
  exact W_ret h
theorem k_X8_init_8 {σ : St} (h : Ds L xs 28 157956 apT [(25, 5, 0), (25, 4, 0), (25, 3, 0), (19, 4, 0), (13, 7, -1), (13, 6, 0), (13, 5, 0), (7, 7, -1), (7, 6, 0), (7, 5, 0), (2, 1, 0)] [(1, 7, 25), (25, 1, 19), (25, 0, 13), (25, 2, 26), (1, 6, 23), (23, 1, 19), (23, 0, 13), (23, 2, 24), (1, 5, 19), (19, 0, 13), (19, 3, 22), (19, 2, 21), (19, 1, 20), (1, 4, 13), (13, 4, 18), (13, 3, 17), (13, 2, 16), (13, 1, 15), (13, 0, 14), (1, 3, 7), (7, 4, 12), (7, 3, 11), (7, 2, 10), (7, 1, 9), (7, 0, 8), (1, 2, 6), (1, 1, 4), (4, 0, 5), (1, 0, 2), (2, 0, 3)] σ) : Rn (Ds L xs 29 158016 apT [(27, 1, 0), (25, 5, 0), (25, 4, 0), (25, 3, 0), (19, 4, 0), (13, 7, -1), (13, 6, 0), (13, 5, 0), (7, 7, -1), (7, 6, 0), (7, 5, 0), (2, 1, 0)] [(27, 0, 28), (1, 7, 25), (25, 1, 19), (25, 0, 13), (25, 2, 26), (1, 6, 23), (23, 1, 19), (23, 0, 13), (23, 2, 24), (1, 5, 19), (19, 0, 13), (19, 3, 22), (19, 2, 21), (19, 1, 20), (1, 4, 13), (13, 4, 18), (13, 3, 17), (13, 2, 16), (13, 1, 15), (13, 0, 14), (1, 3, 7), (7, 4, 12), (7, 3, 11), (7, 2, 10), (7, 1, 9), (7, 0, 8), (1, 2, 6), (1, 1, 4), (4, 0, 5), (1, 0, 2), (2, 0, 3)]) (s_X8_init 27 σ) := by
  unfold s_X8_init
  refine W_sn h ?_
  refine W_new (n2 := 29) (z2 := 158016) h (by decide +kernel) (by decide +kernel) (by decide +kernel) (fun q => absurd q (by decide)) (fun σ h => ?_)
  refine W_o h (by decide) ?_
  refine W_P h (by decide) (fun σ h => ?_)
  refine W_I h (by decide) (fun σ h => ?_)
  exact W_ret h
theorem k_X2_init_9 {σ : St} (h : Ds L xs 30 158021 apT [(27, 1, 0), (25, 5, 0), (25, 4, 0), (25, 3, 0), (19, 4, 0), (13, 7, -1), (13, 6, 0), (13, 5, 0), (7, 7, -1), (7, 6, 0), (7, 5, 0), (2, 1, 0)] [(1, 8, 27), (27, 0, 28), (1, 7, 25), (25, 1, 19), (25, 0, 13), (25, 2, 26), (1, 6, 23), (23, 1, 19), (23, 0, 13), (23, 2, 24), (1, 5, 19), (19, 0, 13), (19, 3, 22), (19, 2, 21), (19, 1, 20), (1, 4, 13), (13, 4, 18), (13, 3, 17), (13, 2, 16), (13, 1, 15), (13, 0, 14), (1, 3, 7), (7, 4, 12), (7, 3, 11), (7, 2, 10), (7, 1, 9), (7, 0, 8), (1, 2, 6), (1, 1, 4), (4, 0, 5), (1, 0, 2), (2, 0, 3)] σ) : Rn (Ds L xs 30 158021 apT [(29, 4, 0), (29, 3, 0), (29, 2, 0), (27, 1, 0), (25, 5, 0), (25, 4, 0), (25, 3, 0), (19, 4, 0), (13, 7, -1), (13, 6, 0), (13, 5, 0), (7, 7, -1), (7, 6, 0), (7, 5, 0), (2, 1, 0)] [(29, 1, 27), (29, 0, 13), (1, 8, 27), (27, 0, 28), (1, 7, 25), (25, 1, 19), (25, 0, 13), (25, 2, 26), (1, 6, 23), (23, 1, 19), (23, 0, 13), (23, 2, 24), (1, 5, 19), (19, 0, 13), (19, 3, 22), (19, 2, 21), (19, 1, 20), (1, 4, 13), (13, 4, 18), (13, 3, 17), (13, 2, 16), (13, 1, 15), (13, 0, 14), (1, 3, 7), (7, 4, 12), (7, 3, 11), (7, 2, 10), (7, 1, 9), (7, 0, 8), (1, 2, 6), (1, 1, 4), (4, 0, 5), (1, 0, 2), (2, 0, 3)]) (s_X2_init 29 13 27 σ) := by
  unfold s_X2_init
  refine W_o h (by decide) ?_
  refine W_I h (by decide) (fun σ h => ?_)
  refine W_I h (by decide) (fun σ h => ?_)
  refine W_I h (by decide) (fun σ h => ?_)
  refine W_P h (by decide) (fun σ h => ?_)
  refine W_P h (by decide) (fun σ h => ?_)
  exact W_ret h
theorem k_X10_init_0 {σ : St} (h : Ds L xs 2 12 (fun _ => 0) [] [] σ) : Rn (Ds L xs 30 158021 apT [(1, 11, 1), (1, 10, -6), (29, 4, 0), (29, 3, 0), (29, 2, 0), (27, 1, 0), (25, 5, 0), (25, 4, 0), (25, 3, 0), (19, 4, 0), (13, 7, -1), (13, 6, 0), (13, 5, 0), (7, 7, -1), (7, 6, 0), (7, 5, 0), (2, 1, 0)] [(1, 9, 29), (29, 1, 27), (29, 0, 13), (1, 8, 27), (27, 0, 28), (1, 7, 25), (25, 1, 19), (25, 0, 13), (25, 2, 26), (1, 6, 23), (23, 1, 19), (23, 0, 13), (23, 2, 24), (1, 5, 19), (19, 0, 13), (19, 3, 22), (19, 2, 21), (19, 1, 20), (1, 4, 13), (13, 4, 18), (13, 3, 17), (13, 2, 16), (13, 1, 15), (13, 0, 14), (1, 3, 7), (7, 4, 12), (7, 3, 11), (7, 2, 10), (7, 1, 9), (7, 0, 8), (1, 2, 6), (1, 1, 4), (4, 0, 5), (1, 0, 2), (2, 0, 3)]) (s_X10_init 1 σ) := by
  unfold s_X10_init
  refine W_sn h ?_
  refine W_new (n2 := 3) (z2 := 14) h (by decide +kernel) (by decide +kernel) (by decide +kernel) (fun _ _ => rfl) (fun σ h => ?_)
  refine W_bd (k_X7_init_1 h) (fun σ h => ?_)
  refine W_o h (by decide) ?_
  refine W_P h (by decide) (fun σ h => ?_)
  refine W_sn h ?_
  refine W_new (n2 := 5) (z2 := 75) h (by decide +kernel) (by decide +kernel) (by decide +kernel) (fun _ _ => rfl) (fun σ h => ?_)
  refine W_bd (k_X6_init_2 h) (fun σ h => ?_)
  refine W_o h (by decide) ?_
  refine W_P h (by decide) (fun σ h => ?_)
  refine W_sn h ?_
  refine W_new (n2 := 7) (z2 := 87) h (by decide +kernel) (by decide +kernel) (by decide +kernel) (fun _ _ => rfl) (fun σ h => ?_)
  refine W_P h (by decide) (fun σ h => ?_)
  refine W_sn h ?_
  refine W_new (n2 := 8) (z2 := 95) h (by decide +kernel) (by decide +kernel) (by decide +kernel) (fun _ _ => rfl) (fun σ h => ?_)
  refine W_bd (k_X3_init_3 h) (fun σ h => ?_)
  refine W_o h (by decide) ?_
  refine W_P h (by decide) (fun σ h => ?_)
  refine W_sn h ?_
  refine W_new (n2 := 14) (z2 := 355) h (by decide +kernel) (by decide +kernel) (by decide +kernel) (fun _ _ => rfl) (fun σ h => ?_)
  refine W_bd (k_X3_init_4 h) (fun σ h => ?_)
  refine W_o h (by decide) ?_
  refine W_P h (by decide) (fun σ h => ?_)
  refine W_sn h ?_
  refine W_new (n2 := 20) (z2 := 612) h (by decide +kernel) (by decide +kernel) (by decide +kernel) (fun _ _ => rfl) (fun σ h => ?_)
  refine W_op (v := 13) h (by decide) (by decide) ?_
  refine W_bd (k_X4_init_5 h) (fun σ h => ?_)
  refine W_o h (by decide) ?_
  refine W_P h (by decide) (fun σ h => ?_)
  refine W_sn h ?_
  refine W_new (n2 := 24) (z2 := 3324) h (by decide +kernel) (by decide +kernel) (by decide +kernel) (fun q => absurd q (by decide)) (fun σ h => ?_)
  refine W_op (v := 13) h (by decide) (by decide) ?_
  refine W_op (v := 19) h (by decide) (by decide) ?_
  refine W_bd (k_X9_init_6 h) (fun σ h => ?_)
  refine W_o h (by decide) ?_
  refine W_P h (by decide) (fun σ h => ?_)
  refine W_sn h ?_
  refine W_new (n2 := 26) (z2 := 156930) h (by decide +kernel) (by decide +kernel) (by decide +kernel) (fun q => absurd q (by decide)) (fun σ h => ?_)
  refine W_op (v := 13) h (by decide) (by decide) ?_
  refine W_op (v := 19) h (by decide) (by decide) ?_
  refine W_bd (k_X0_init_7 h) (fun σ h => ?_)
  refine W_o h (by decide) ?_
  refine W_P h (by decide) (fun σ h => ?_)
  refine W_sn h ?_
  refine W_new (n2 := 28) (z2 := 157956) h (by decide +kernel) (by decide +kernel) (by decide +kernel) (fun q => absurd q (by decide)) (fun σ h => ?_)
  refine W_bd (k_X8_init_8 h) (fun σ h => ?_)
  refine W_o h (by decide) ?_
  refine W_P h (by decide) (fun σ h => ?_)
  refine W_sn h ?_
  refine W_new (n2 := 30) (z2 := 158021) h (by decide +kernel) (by decide +kernel) (by decide +kernel) (fun q => absurd q (by decide)) (fun σ h => ?_)
  refine W_op (v := 13) h (by decide) (by decide) ?_
  refine W_op (v := 27) h (by decide) (by decide) ?_
  refine W_bd (k_X2_init_9 h) (fun σ h => ?_)
  refine W_o h (by decide) ?_
  refine W_P h (by decide) (fun σ h => ?_)
  refine W_I h (by decide) (fun σ h => ?_)
  refine W_I h (by decide) (fun σ h => ?_)
  exact W_ret h
end
