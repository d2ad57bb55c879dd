/-! the graph is closed: what a level says of its nodes depends on the level below at its nodes alone -/
def Clo (ch κ : Nat → Nat) (N : Nat) : Prop :=
  (∀ c, c < N → ((ch (κ c) = 33 ∨ ch (κ c) = 40 ∨ ch (κ c) = 91) → ∃ c1, c1 < N ∧ κ c1 = ch1 ch (κ c)) ∧ (ch (κ c) = 40 → ∃ c2, c2 < N ∧ κ c2 = ch2 ch (κ c)) ∧ (ch (κ c) = 91 → ln ch (κ c) < 8 ∧ κ c < 640) ∧
    (isAt (ch (κ c)) = true ∨ ch (κ c) = 49 ∨ ch (κ c) = 84 ∨ ch (κ c) = 33 ∨ ch (κ c) = 40 ∨ ch (κ c) = 91) ∧ (ch (κ c) = 40 → isOp (kd ch (κ c)) = true)) ∧
  (∀ o f q, o < 12 → f < 3 → fp ch o f = some q → isAt (ch q) = true ∧ (ch (q + 1) = 60 → ∃ c, c < N ∧ κ c = q + 2))
theorem Str.clo {ch κ : Nat → Nat} {pl : Nat} {σ : St} {N lam P : Nat} (h : Str ch pl κ (fp ch) σ N lam P) : Clo ch κ N := by
  refine ⟨fun c hc => ?_, fun o f q ho hf e => ?_⟩
  · obtain ⟨z1, z2, z3, z4, z5, z6⟩ := h.1 c hc
    refine ⟨fun q => ?_, fun q => ?_, fun q => (z4 q).2, z5, z6⟩
    · obtain ⟨c1, a, _, b⟩ := z2 q
      exact ⟨c1, by omega, b⟩
    · obtain ⟨c1, a, _, b⟩ := z3 q
      exact ⟨c1, by omega, b⟩
  · have := h.2.1 o f ho hf
    rw [e] at this
    obtain ⟨_, a, b⟩ := this
    refine ⟨a, fun q6 => ?_⟩
    rw [if_pos q6] at b
    obtain ⟨c, b1, _, b2⟩ := b
    exact ⟨c, b1, b2⟩
def SC (ch κ : Nat → Nat) (N : Nat) (S : Nat → Prop) : Prop := (∀ s q, S s → q &&& s = q → S q) ∧ ∀ c s, c < N → ch (κ c) = 91 → S s → S (s ||| 2 ^ ln ch (κ c))
theorem xor_sub {s q : Nat} (h : q &&& s = q) : (s ^^^ q) &&& s = s ^^^ q := by
  apply Nat.eq_of_testBit_eq
  intro i
  have h1 : q.testBit i = (q.testBit i && s.testBit i) := by rw [← Nat.testBit_and, h]
  rw [Nat.testBit_and, Nat.testBit_xor]
  cases e1 : q.testBit i <;> cases e2 : s.testBit i <;> rw [e1, e2] at h1 <;> first | rfl | cases h1
theorem bit_sub {s o : Nat} (h : s.testBit o = true) : 2 ^ o &&& s = 2 ^ o := by
  apply Nat.eq_of_testBit_eq
  intro i
  rw [Nat.testBit_and, Nat.testBit_two_pow]
  by_cases e : o = i
  · rw [← e, h, decide_eq_true rfl]; rfl
  · rw [decide_eq_false e]; rfl
theorem stp_cg {ch κ : Nat → Nat} {N : Nat} (hC : Clo ch κ N) {S : Nat → Prop} (hS : SC ch κ N S) {T T' : Nat → Bool} (hT : ∀ s, S s → T s = T' s) {B B' : Nat → Nat → Bool} (hB : ∀ c s, c < N → S s → B (κ c) s = B' (κ c) s) {c s : Nat} (hc : c < N) (hs : S s) : stp ch T B (κ c) s = stp ch T' B' (κ c) s := by
  obtain ⟨z1, z2, z3, z5, z6⟩ := hC.1 c hc
  have h00 : S 0 := hS.1 s 0 hs (Nat.zero_and s)
  rcases z5 with a | a | a | a | a | a
  · have a' := isAt_iff.1 a
    have hk : kd ch (κ c) = ch (κ c) := kd_ne (by omega)
    rw [stp_at (by rw [hk]; exact a), stp_at (by rw [hk]; exact a)]
    refine congrArg Option.isSome (fstN_congr (fun q _ hq => ?_))
    unfold tol afU
    by_cases c8 : 8 ≤ q / 3
    · rw [if_pos c8]
      show tolR ch B _ _ _ s = tolR ch B' _ _ _ s
      unfold tolR
      cases e : fp ch (q / 3) (q % 3) with
      | none => rfl
      | some x =>
        show (decide _ && _) = (decide _ && _)
        by_cases c6 : ch (x + 1) = 60
        · obtain ⟨c1, b1, b2⟩ := (hC.2 (q / 3) (q % 3) x (by omega) (by omega) e).2 c6
          rw [if_pos c6, if_pos c6, ← b2, hB c1 s b1 hs]
        · rw [if_neg c6, if_neg c6]
    · rw [if_neg c8]
      by_cases cb : s.testBit (q / 3) = true
      · rw [if_pos cb]
        show tolR ch B _ _ _ (s ^^^ 2 ^ (q / 3)) = tolR ch B' _ _ _ (s ^^^ 2 ^ (q / 3))
        unfold tolR
        cases e : fp ch (q / 3) (q % 3) with
        | none => rfl
        | some x =>
          show (decide _ && _) = (decide _ && _)
          by_cases c6 : ch (x + 1) = 60
          · obtain ⟨c1, b1, b2⟩ := (hC.2 (q / 3) (q % 3) x (by omega) (by omega) e).2 c6
            rw [if_pos c6, if_pos c6, ← b2, hB c1 _ b1 (hS.1 s _ hs (xor_sub (bit_sub cb)))]
          · rw [if_neg c6, if_neg c6]
      · rw [if_neg cb]
  · have hk : kd ch (κ c) = 49 := by rw [kd_ne (by omega)]; exact a
    rw [stp_49 hk, stp_49 hk]
  · have hk : kd ch (κ c) = 84 := by rw [kd_ne (by omega)]; exact a
    rw [stp_84 hk, stp_84 hk, hT s hs]
  · have hk : kd ch (κ c) = 33 := by rw [kd_ne (by omega)]; exact a
    obtain ⟨c1, b1, b2⟩ := z1 (Or.inl a)
    rw [stp_33 hk, stp_33 hk, ← b2, hB c1 0 b1 h00]
  · obtain ⟨c1, b1, b2⟩ := z1 (Or.inr (Or.inl a))
    obtain ⟨c2, b3, b4⟩ := z2 a
    rcases isOp_iff.1 (z6 a) with hk | hk | hk
    · rw [stp_42 hk, stp_42 hk]
      refine congrArg Option.isSome (fstN_congr (fun q _ hq => ?_))
      unfold splt
      by_cases e : q &&& s = q
      · rw [← b2, ← b4, hB c1 q b1 (hS.1 s q hs e), hB c2 _ b3 (hS.1 s _ hs (xor_sub e))]
      · rw [decide_eq_false e, Bool.false_and, Bool.false_and]
    · rw [stp_38 hk, stp_38 hk, ← b2, ← b4, hB c1 s b1 hs, hB c2 s b3 hs]
    · rw [stp_43 hk, stp_43 hk, ← b2, ← b4, hB c1 s b1 hs, hB c2 s b3 hs]
  · have hk : kd ch (κ c) = 91 := by rw [kd_ne (by omega)]; exact a
    obtain ⟨c1, b1, b2⟩ := z1 (Or.inr (Or.inr a))
    rw [stp_91 hk, stp_91 hk, ← b2, hB c1 _ b1 (hS.2 c s hc a hs)]
/-- the single-use offers that are there -/
def sgl (ch : Nat → Nat) : Nat := stB (fun o => (fp ch o 0).isSome) 8
def TT (ch : Nat → Nat) (s : Nat) : Bool := decide (s &&& sgl ch = s)
theorem sgl_lt (ch : Nat → Nat) : sgl ch < 256 := stB_lt _ 8
theorem sub_tr {a b c : Nat} (h1 : a &&& b = a) (h2 : b &&& c = b) : a &&& c = a := by
  rw [← h1, Nat.and_assoc, h2]
theorem sub_or {a b c : Nat} (h1 : a &&& c = a) (h2 : b &&& c = b) : (a ||| b) &&& c = a ||| b := by
  apply Nat.eq_of_testBit_eq
  intro i
  have e1 : a.testBit i = (a.testBit i && c.testBit i) := by rw [← Nat.testBit_and, h1]
  have e2 : b.testBit i = (b.testBit i && c.testBit i) := by rw [← Nat.testBit_and, h2]
  rw [Nat.testBit_and, Nat.testBit_or]
  cases x1 : a.testBit i <;> cases x2 : b.testBit i <;> cases x3 : c.testBit i <;> rw [x1, x3] at e1 <;> rw [x2, x3] at e2 <;> first | rfl | exact absurd e1 (by decide) | exact absurd e2 (by decide)
theorem ln_sgl {ch : Nat → Nat} {p : Nat} (h : ch p = 91) (hp : p < 640) (hl : ln ch p < 8) : 2 ^ ln ch p &&& sgl ch = 2 ^ ln ch p := by
  apply bit_sub
  unfold sgl
  rw [stB_bit, decide_eq_true hl, Bool.true_and]
  unfold fp ost ln
  rw [if_neg (by omega), if_pos (by unfold ln at hl; omega), show 5 + cntB ch p - 5 = cntB ch p by omega, nthB_spec h 640 hp]
  rfl
theorem SC_256 {ch κ : Nat → Nat} {N : Nat} (hC : Clo ch κ N) : SC ch κ N (fun s => s < 256) :=
  ⟨fun s q hs h => Nat.lt_of_le_of_lt (sub_le h) hs, fun c s hc h hs => or_lt hs (pow8 ((hC.1 c hc).2.2.1 h).1)⟩
theorem SC_sgl {ch κ : Nat → Nat} {N : Nat} (hC : Clo ch κ N) : SC ch κ N (fun s => s &&& sgl ch = s) :=
  ⟨fun s q hs h => sub_tr h hs, fun c s hc h hs => sub_or hs (ln_sgl h ((hC.1 c hc).2.2.1 h).2 ((hC.1 c hc).2.2.1 h).1)⟩
/-- T told by the sets that are there, or by every set: no difference below the sets that are there -/
theorem Lv_TT {ch κ : Nat → Nat} {N : Nat} (hC : Clo ch κ N) : ∀ h c s, c < N → s &&& sgl ch = s → Lv ch (TT ch) h (κ c) s = Lv ch one h (κ c) s := by
  intro h
  induction h with
  | zero => intro c s _ _; rfl
  | succ h ih => intro c s hc hs; exact stp_cg hC (SC_sgl hC) (fun s hs => decide_eq_true hs) (fun c s hc hs => ih c s hc hs) hc hs
/-- a level that adds nothing is the last -/
theorem Lv_stop {ch κ : Nat → Nat} {N : Nat} (hC : Clo ch κ N) {T : Nat → Bool} {h : Nat} (hh : ∀ c s, c < N → s < 256 → Lv ch T (h + 1) (κ c) s = Lv ch T h (κ c) s) : ∀ j c s, c < N → s < 256 → Lv ch T (h + j) (κ c) s = Lv ch T h (κ c) s := by
  intro j
  induction j with
  | zero => intro c s _ _; rfl
  | succ j ih =>
    intro c s hc hs
    rw [← hh c s hc hs]
    exact stp_cg hC (SC_256 hC) (fun s _ => rfl) ih hc hs
