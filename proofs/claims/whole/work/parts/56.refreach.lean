/-! the reference: whether a goal is reached, and the least heights -/
theorem kd_ne {ch : Nat → Nat} {p : Nat} (h : ch p ≠ 40) : kd ch p = ch p := by unfold kd; rw [if_neg h]
theorem isAt_iff {c : Nat} : isAt c = true ↔ 97 ≤ c ∧ c ≤ 104 := by unfold isAt; rw [decide_eq_true_iff]
theorem isOp_iff {c : Nat} : isOp c = true ↔ c = 42 ∨ c = 38 ∨ c = 43 := by unfold isOp; rw [decide_eq_true_iff]
theorem stp_at {ch : Nat → Nat} {T : Nat → Bool} {B : Nat → Nat → Bool} {p s : Nat} (h : isAt (kd ch p) = true) : stp ch T B p s = (fstN (tol ch B (kd ch p) s) 36 0).isSome := by
  rw [isAt_iff] at h
  unfold stp
  rw [if_neg (by omega), if_neg (by omega), if_neg (by omega), if_neg (by omega), if_neg (by omega), if_neg (by omega), if_neg (by omega)]
theorem stp_49 {ch : Nat → Nat} {T : Nat → Bool} {B : Nat → Nat → Bool} {p s : Nat} (h : kd ch p = 49) : stp ch T B p s = decide (s = 0) := by unfold stp; rw [h, if_pos rfl]
theorem stp_84 {ch : Nat → Nat} {T : Nat → Bool} {B : Nat → Nat → Bool} {p s : Nat} (h : kd ch p = 84) : stp ch T B p s = T s := by unfold stp; rw [h, if_neg (by decide), if_pos rfl]
theorem stp_33 {ch : Nat → Nat} {T : Nat → Bool} {B : Nat → Nat → Bool} {p s : Nat} (h : kd ch p = 33) : stp ch T B p s = (decide (s = 0) && B (ch1 ch p) 0) := by unfold stp; rw [h, if_neg (by decide), if_neg (by decide), if_pos rfl]
theorem stp_42 {ch : Nat → Nat} {T : Nat → Bool} {B : Nat → Nat → Bool} {p s : Nat} (h : kd ch p = 42) : stp ch T B p s = (fstN (splt ch B p s) 256 0).isSome := by unfold stp; rw [h, if_neg (by decide), if_neg (by decide), if_neg (by decide), if_pos rfl]
theorem stp_38 {ch : Nat → Nat} {T : Nat → Bool} {B : Nat → Nat → Bool} {p s : Nat} (h : kd ch p = 38) : stp ch T B p s = (B (ch1 ch p) s && B (ch2 ch p) s) := by unfold stp; rw [h, if_neg (by decide), if_neg (by decide), if_neg (by decide), if_neg (by decide), if_pos rfl]
theorem stp_43 {ch : Nat → Nat} {T : Nat → Bool} {B : Nat → Nat → Bool} {p s : Nat} (h : kd ch p = 43) : stp ch T B p s = (B (ch1 ch p) s || B (ch2 ch p) s) := by unfold stp; rw [h, if_neg (by decide), if_neg (by decide), if_neg (by decide), if_neg (by decide), if_neg (by decide), if_pos rfl]
theorem stp_91 {ch : Nat → Nat} {T : Nat → Bool} {B : Nat → Nat → Bool} {p s : Nat} (h : kd ch p = 91) : stp ch T B p s = (!(s.testBit (ln ch p)) && B (ch1 ch p) (s ||| 2 ^ ln ch p)) := by unfold stp; rw [h, if_neg (by decide), if_neg (by decide), if_neg (by decide), if_neg (by decide), if_neg (by decide), if_neg (by decide), if_pos rfl]
theorem numK_lt {k : Nat} (h : k < 36) : numK k < 133 := by unfold numK; split <;> omega
theorem ffR_neg {o : Option Nat} (h : ∀ k, o = some k → k < 36) : (ffR o < 0) ↔ o.isSome = false := by
  cases o with
  | none => exact ⟨fun _ => rfl, fun _ => by unfold ffR; decide⟩
  | some k =>
    have h1 := numK_lt (h k rfl)
    unfold ffR
    show (I _ < 0) ↔ true = false
    rw [I_lit, I_lt (by omega) (by omega)]
    constructor
    · intro q; omega
    · intro q; cases q
theorem fpR_neg {o : Option Nat} (h : ∀ k, o = some k → k < 256) : (fpR o < 0) ↔ o.isSome = false := by
  cases o with
  | none => exact ⟨fun _ => rfl, fun _ => by unfold fpR; decide⟩
  | some k =>
    have h1 := h k rfl
    unfold fpR
    show (I _ < 0) ↔ true = false
    rw [I_lit, I_lt (by omega) (by omega)]
    constructor
    · intro q; omega
    · intro q; cases q
theorem fst36 {P : Nat → Bool} : ∀ k, fstN P 36 0 = some k → k < 36 := fun k h => by have := (fstN_some h).2.1; omega
theorem fst256 {P : Nat → Bool} : ∀ k, fstN P 256 0 = some k → k < 256 := fun k h => by have := (fstN_some h).2.1; omega
theorem pow8 {n : Nat} (h : n < 8) : 2 ^ n < 256 := by
  have : 2 ^ n ≤ 2 ^ 7 := Nat.pow_le_pow_right (by decide) (by omega)
  omega
theorem neg_if {c : Prop} [Decidable c] {b : Bool} {σ : St} (h : c ↔ b = false) : (if c then some ((0 : Int32), σ) else some (1, σ)) = some (bI b, σ) := by
  cases b with
  | false => rw [if_pos (h.2 rfl)]; rfl
  | true => rw [if_neg (fun q => by have := h.1 q; cases this)]; rfl
theorem q_isReached {ch κ : Nat → Nat} {N : Nat} {h : Int32} {B : Nat → Nat → Bool} {σ : St} (hg : GM ch κ N σ) (hB : BM κ N h B σ) {c s : Nat} (hc : c < N) (hs2 : s < 256) :
    s_X11_isReached 30 (I (c : Nat)) (I (s : Nat)) h σ = some (bI (stp ch one B (κ c) s), σ) := by
  obtain ⟨n1, n2, n3, n4, n5, n6, n7⟩ := hg.2.2.2.1.1 c hc
  have hN := hg.2.1
  have hs := hg.1
  have ho := hs.o 11 30 (by decide)
  have hz : (I (s : Nat) = 0) ↔ s = 0 := I_z (by omega)
  unfold s_X11_isReached
  rw [if_pos ho, hs.p 30 8 35 (by decide), op_eq, if_pos (hs.o 13 35 (by decide)), hs.len 35 64 (by decide), if_pos (inN (by omega) (by omega)), tNI (by omega), lt_eq, hs.p 30 9 36 (by decide), op_eq, if_pos (hs.o 13 36 (by decide)), hs.len 36 64 (by decide), if_pos (inN (by omega) (by omega)), lt_eq, hs.p 30 7 34 (by decide), op_eq, if_pos (hs.o 13 34 (by decide)), hs.len 34 64 (by decide), if_pos (inN (by omega) (by omega)), lt_eq, n1]
  rcases n6 with a | a | a | a | a | a
  · have a' := a
    rw [isAt_iff] at a'
    have hk : kd ch (κ c) = ch (κ c) := kd_ne (by omega)
    have hm : mk (kd ch (κ c)) = 0 := by rw [hk]; unfold mk; rw [if_neg (by omega), if_neg (by omega), if_neg (by omega), if_neg (by omega), if_neg (by omega), if_neg (by omega), if_neg (by omega)]
    rw [hm, if_pos (by decide), n2 a, q_firstFor hg hB (by omega) hs2, bd_eq, stp_at (by rw [hk]; exact a), hk]
    exact neg_if (ffR_neg fst36)
  · have hk : kd ch (κ c) = 49 := by rw [kd_ne (by omega)]; exact a
    rw [hk, if_neg (by decide), if_pos (by decide), stp_49 hk]
    by_cases c3 : s = 0
    · rw [if_pos (hz.2 c3), decide_eq_true c3]; rfl
    · rw [if_neg (fun q => c3 (hz.1 q)), decide_eq_false c3]; rfl
  · have hk : kd ch (κ c) = 84 := by rw [kd_ne (by omega)]; exact a
    rw [hk, if_neg (by decide), if_neg (by decide), if_pos (by decide), stp_84 hk]
    rfl
  · have hk : kd ch (κ c) = 33 := by rw [kd_ne (by omega)]; exact a
    obtain ⟨c1, p1, p2, p3⟩ := n3 (Or.inl a)
    rw [hk, if_neg (by decide), if_neg (by decide), if_neg (by decide), if_pos (by decide), stp_33 hk]
    by_cases c3 : s = 0
    · rw [if_pos (hz.2 c3), decide_eq_true c3, p2, show (0 : Int32) = I ((0 : Nat) : Int) from rfl, hB c1 0 p1 (by decide), bd_eq, p3, Bool.true_and]
      exact neg_if bI0
    · rw [if_neg (fun q => c3 (hz.1 q)), decide_eq_false c3]; rfl
  · obtain ⟨c1, p1, p2, p3⟩ := n3 (Or.inr (Or.inl a))
    obtain ⟨c2, p4, p5, p6⟩ := n4 a
    have hop := n7 a
    rw [isOp_iff] at hop
    rcases hop with hk | hk | hk
    · rw [hk, if_neg (by decide), if_neg (by decide), if_neg (by decide), if_neg (by decide), if_pos (by decide), stp_42 hk, q_firstPart hg hB hc a hs2, bd_eq]
      exact neg_if (fpR_neg fst256)
    · rw [hk, if_neg (by decide), if_neg (by decide), if_neg (by decide), if_neg (by decide), if_neg (by decide), if_pos (by decide), stp_38 hk, p2, hB c1 s p1 hs2, bd_eq, p3]
      cases e1 : B (ch1 ch (κ c)) s with
      | false => rw [if_pos (by decide)]; rfl
      | true =>
        rw [if_neg (by decide), if_pos ho, p5, hB c2 s p4 hs2, bd_eq, p6, Bool.true_and]
        exact neg_if bI0
    · rw [hk, if_neg (by decide), if_neg (by decide), if_neg (by decide), if_neg (by decide), if_neg (by decide), if_neg (by decide), if_pos (by decide), stp_43 hk, p2, hB c1 s p1 hs2, bd_eq, p3]
      cases e1 : B (ch1 ch (κ c)) s with
      | false =>
        rw [if_pos (by decide), if_pos ho, p5, hB c2 s p4 hs2, bd_eq, p6, Bool.false_or]
        exact neg_if bI0
      | true => rw [if_neg (by decide)]; rfl
  · have hk : kd ch (κ c) = 91 := by rw [kd_ne (by omega)]; exact a
    obtain ⟨c1, p1, p2, p3⟩ := n3 (Or.inr (Or.inr a))
    obtain ⟨p4, p5⟩ := n5 a
    rw [hk, if_neg (by decide), if_neg (by decide), if_neg (by decide), if_neg (by decide), if_neg (by decide), if_neg (by decide), if_neg (by decide), stp_91 hk, p4, q_has11 s _ (by omega) (by omega), bd_eq]
    cases e1 : s.testBit (ln ch (κ c)) with
    | true => rw [if_neg (by decide)]; rfl
    | false =>
      rw [if_pos (by decide), if_pos ho, I_shl1 _ (by omega), I_or, p2, hB c1 _ p1 (or_lt hs2 (pow8 p5)), bd_eq, p3]
      exact neg_if bI0
