/-! the class's plan: what its questions answer -/
def FX (CI CL : Nat → Nat → Prop) (σ σ' : St) : Prop := sn σ' = sn σ ∧ sz σ' = sz σ ∧ sh σ' = sh σ ∧ sP σ' = sP σ ∧ (∀ a k, ¬ CI a k → sI σ' a k = sI σ a k) ∧ ∀ a k, ¬ CL a k → sL σ' a k = sL σ a k
theorem FX.refl {CI CL : Nat → Nat → Prop} (σ : St) : FX CI CL σ σ := ⟨rfl, rfl, rfl, rfl, fun _ _ _ => rfl, fun _ _ _ => rfl⟩
theorem FX.trans {CI CL : Nat → Nat → Prop} {σ σ1 σ2 : St} (h : FX CI CL σ σ1) (g : FX CI CL σ1 σ2) : FX CI CL σ σ2 := by
  obtain ⟨a1, a2, a3, a4, a5, a6⟩ := h
  obtain ⟨b1, b2, b3, b4, b5, b6⟩ := g
  exact ⟨b1.trans a1, b2.trans a2, b3.trans a3, b4.trans a4, fun a k q => (b5 a k q).trans (a5 a k q), fun a k q => (b6 a k q).trans (a6 a k q)⟩
theorem FX.mono {CI CL CI' CL' : Nat → Nat → Prop} {σ σ' : St} (h : FX CI CL σ σ') (h1 : ∀ a k, CI a k → CI' a k) (h2 : ∀ a k, CL a k → CL' a k) : FX CI' CL' σ σ' :=
  ⟨h.1, h.2.1, h.2.2.1, h.2.2.2.1, fun a k q => h.2.2.2.2.1 a k (fun p => q (h1 a k p)), fun a k q => h.2.2.2.2.2 a k (fun p => q (h2 a k p))⟩
theorem FX.ss {CI CL : Nat → Nat → Prop} {σ σ' : St} (h : FX CI CL σ σ') (hs : SS σ) : SS σ' := by
  obtain ⟨a1, a2, a3, a4, _, _⟩ := h
  exact ⟨by rw [a1]; exact hs.1, fun a h1 h2 => by rw [a3]; exact hs.2.1 a h1 h2, fun q hq => by rw [a4]; exact hs.2.2 q hq⟩
theorem FX.i {CI CL : Nat → Nat → Prop} {σ σ' : St} (h : FX CI CL σ σ') (a k : Nat) (q : ¬ CI a k) : sI σ' a k = sI σ a k := h.2.2.2.2.1 a k q
theorem FX.l {CI CL : Nat → Nat → Prop} {σ σ' : St} (h : FX CI CL σ σ') (a k : Nat) (q : ¬ CL a k) : sL σ' a k = sL σ a k := h.2.2.2.2.2 a k q
theorem FX.setI {CI CL : Nat → Nat → Prop} {σ : St} (a k : Nat) (v : Int32) (h : CI a k) : FX CI CL σ (setI σ a k v) :=
  ⟨rfl, rfl, rfl, rfl, fun x y q => by rw [sI_I, if_neg]; rintro ⟨rfl, rfl⟩; exact q h, fun _ _ _ => rfl⟩
theorem FX.setL {CI CL : Nat → Nat → Prop} {σ : St} (a k : Nat) (v : Int64) (h : CL a k) : FX CI CL σ (setL σ a k v) :=
  ⟨rfl, rfl, rfl, rfl, fun _ _ _ => rfl, fun x y q => by rw [sL_L, if_neg]; rintro ⟨rfl, rfl⟩; exact q h⟩
def PG (ch κ : Nat → Nat) (N : Nat) (σ : St) : Prop := SS σ ∧ N ≤ 60 ∧ sI σ 13 5 = I (N : Nat) ∧ (∃ lam, Str ch 13 κ (fp ch) σ N lam 640) ∧ ∀ i, ch i ≤ 126
theorem PG.clo {ch κ : Nat → Nat} {N : Nat} {σ : St} (h : PG ch κ N σ) : Clo ch κ N := by
  obtain ⟨_, _, _, ⟨lam, hs⟩, _⟩ := h
  exact hs.clo
theorem PG.fx {ch κ : Nat → Nat} {N : Nat} {σ σ' : St} {CI CL : Nat → Nat → Prop} (h : PG ch κ N σ) (hf : FX CI CL σ σ') (hc : ∀ a k, 13 ≤ a → a ≤ 18 → ¬ CI a k) : PG ch κ N σ' := by
  obtain ⟨h1, h2, h3, ⟨lam, h4⟩, h5⟩ := h
  refine ⟨hf.ss h1, h2, by rw [hf.i 13 5 (hc 13 5 (by omega) (by omega))]; exact h3, ⟨lam, h4.mv (fun a a1 a2 => ?_) rfl⟩, h5⟩
  funext k
  exact hf.i a k (hc a k (by omega) (by omega))
theorem q_isNode {ch κ : Nat → Nat} {N : Nat} {σ : St} (h : PG ch κ N σ) {c : Nat} (hc : c < N) : s_X3_isNode 13 (I (c : Nat)) σ = some (1, σ) := by
  obtain ⟨hs, hN, h5, _, _⟩ := h
  unfold s_X3_isNode
  rw [if_neg (by rw [I_lit, I_lt (by omega) (by omega)]; omega), if_pos (hs.o 3 13 (by decide)), h5, if_neg (by rw [I_le (by omega) (by omega)]; omega), if_neg (by rw [I_lit, I_le (by omega) (by omega)]; omega)]
theorem q_first {ch κ : Nat → Nat} {N : Nat} {σ : St} (h : PG ch κ N σ) {c : Nat} (hc : c < N) : s_X3_first 13 (I (c : Nat)) σ = some (sI σ 15 c, σ) := by
  have hs := h.1
  have hN := h.2.1
  unfold s_X3_first
  rw [if_pos (hs.o 3 13 (by decide)), q_isNode h hc, bd_eq, if_neg (by decide), if_pos (hs.o 3 13 (by decide)), hs.p 13 1 15 (by decide), op_eq, if_pos (hs.o 13 15 (by decide)), hs.len 15 60 (by decide), if_pos (inN (by omega) (by omega)), tNI (by omega)]
theorem q_second {ch κ : Nat → Nat} {N : Nat} {σ : St} (h : PG ch κ N σ) {c : Nat} (hc : c < N) : s_X3_second 13 (I (c : Nat)) σ = some (sI σ 16 c, σ) := by
  have hs := h.1
  have hN := h.2.1
  unfold s_X3_second
  rw [if_pos (hs.o 3 13 (by decide)), q_isNode h hc, bd_eq, if_neg (by decide), if_pos (hs.o 3 13 (by decide)), hs.p 13 2 16 (by decide), op_eq, if_pos (hs.o 13 16 (by decide)), hs.len 16 60 (by decide), if_pos (inN (by omega) (by omega)), tNI (by omega)]
theorem kd_le {ch : Nat → Nat} (h : ∀ i, ch i ≤ 126) (p : Nat) : kd ch p ≤ 126 := by
  unfold kd
  split
  · exact h _
  · exact h _
theorem q_kind {ch κ : Nat → Nat} {N : Nat} {σ : St} (h : PG ch κ N σ) {c : Nat} (hc : c < N) : s_X3_kind 13 (I (c : Nat)) σ = some (I (kd ch (κ c) : Nat), σ) := by
  have hs := h.1
  have hN := h.2.1
  obtain ⟨_, _, _, ⟨lam, hst⟩, h126⟩ := h
  have hk := (hst.1 c hc).1
  have hle := kd_le h126 (κ c)
  unfold s_X3_kind
  rw [if_pos (hs.o 3 13 (by decide)), q_isNode ⟨hs, hN, by assumption, ⟨lam, hst⟩, h126⟩ hc, bd_eq, if_neg (by decide), if_pos (hs.o 3 13 (by decide)), hs.p 13 0 14 (by decide), op_eq, if_pos (hs.o 12 14 (by decide)), hs.len 14 60 (by decide), if_pos (inN (by omega) (by omega)), tNI (by omega), hk, if_pos (chok_I (by omega) (by omega))]
/-- the parts of a node -/
theorem PG.one {ch κ : Nat → Nat} {N : Nat} {σ : St} (h : PG ch κ N σ) {c : Nat} (hc : c < N) (hk : ch (κ c) = 33 ∨ ch (κ c) = 40 ∨ ch (κ c) = 91) : ∃ c1, c1 < N ∧ sI σ 15 c = I (c1 : Nat) ∧ κ c1 = ch1 ch (κ c) := by
  obtain ⟨_, _, _, ⟨lam, hst⟩, _⟩ := h
  obtain ⟨c1, a, b, d⟩ := (hst.1 c hc).2.1 hk
  exact ⟨c1, by omega, b, d⟩
theorem PG.two {ch κ : Nat → Nat} {N : Nat} {σ : St} (h : PG ch κ N σ) {c : Nat} (hc : c < N) (hk : ch (κ c) = 40) : ∃ c1, c1 < N ∧ sI σ 16 c = I (c1 : Nat) ∧ κ c1 = ch2 ch (κ c) := by
  obtain ⟨_, _, _, ⟨lam, hst⟩, _⟩ := h
  obtain ⟨c1, a, b, d⟩ := (hst.1 c hc).2.2.1 hk
  exact ⟨c1, by omega, b, d⟩
theorem PG.loan {ch κ : Nat → Nat} {N : Nat} {σ : St} (h : PG ch κ N σ) {c : Nat} (hc : c < N) (hk : ch (κ c) = 91) : sI σ 16 c = I (ln ch (κ c) : Nat) ∧ ln ch (κ c) < 8 ∧ 5 ≤ ln ch (κ c) := by
  obtain ⟨_, _, _, ⟨lam, hst⟩, _⟩ := h
  obtain ⟨a, b, _⟩ := (hst.1 c hc).2.2.2.1 hk
  exact ⟨a, b, by unfold ln; omega⟩
/-- what kinds of nodes there are -/
theorem Clo.kinds {ch κ : Nat → Nat} {N : Nat} (h : Clo ch κ N) {c : Nat} (hc : c < N) :
    (isAt (kd ch (κ c)) = true ∧ kd ch (κ c) = ch (κ c)) ∨ kd ch (κ c) = 49 ∨ kd ch (κ c) = 84 ∨ (kd ch (κ c) = 33 ∧ ch (κ c) = 33) ∨ ((kd ch (κ c) = 42 ∨ kd ch (κ c) = 38 ∨ kd ch (κ c) = 43) ∧ ch (κ c) = 40) ∨ (kd ch (κ c) = 91 ∧ ch (κ c) = 91) := by
  obtain ⟨_, _, _, a, b⟩ := h.1 c hc
  rcases a with a | a | a | a | a | a
  · have a' := isAt_iff.1 a
    have hk : kd ch (κ c) = ch (κ c) := kd_ne (by omega)
    exact Or.inl ⟨by rw [hk]; exact a, hk⟩
  · have hk : kd ch (κ c) = ch (κ c) := kd_ne (by omega)
    omega
  · have hk : kd ch (κ c) = ch (κ c) := kd_ne (by omega)
    omega
  · have hk : kd ch (κ c) = ch (κ c) := kd_ne (by omega)
    omega
  · have := isOp_iff.1 (b a)
    omega
  · have hk : kd ch (κ c) = ch (κ c) := kd_ne (by omega)
    omega
theorem q_loanBit {ch κ : Nat → Nat} {N : Nat} {σ : St} (h : PG ch κ N σ) {c : Nat} (hc : c < N) (hk : ch (κ c) = 91) : s_X3_loanBit 13 (I (c : Nat)) σ = some (I ((2 ^ ln ch (κ c) : Nat) : Int), σ) := by
  obtain ⟨a, b, b5⟩ := h.loan hc hk
  unfold s_X3_loanBit
  rw [if_pos (h.1.o 3 13 (by decide)), q_second h hc, bd_eq, a, if_neg (by rw [I_lit, I_lt (by omega) (by omega)]; omega), if_neg (by rw [I_lit, I_le (by omega) (by omega)]; omega), I_shl1 _ (by omega)]
theorem q_isFace {o f : Nat} (ho : o < 12) (hf : f < 3) (σ : St) : s_X3_isFace (I (o : Nat)) (I (f : Nat)) σ = some (1, σ) := by
  unfold s_X3_isFace
  rw [if_neg (by rw [I_lit, I_lt (by omega) (by omega)]; omega), if_neg (by rw [I_lit, I_le (by omega) (by omega)]; omega), if_neg (by rw [I_lit, I_lt (by omega) (by omega)]; omega), if_neg (by rw [I_lit, I_le (by omega) (by omega)]; omega)]
/-- whether a face is there, with this head -/
def hdIs (ch : Nat → Nat) (o f cc : Nat) : Bool := match fp ch o f with
  | none => false
  | some q => decide (ch q = cc)
theorem e3of {o f : Nat} : I (o : Nat) * 3 + I (f : Nat) = I ((o * 3 + f : Nat) : Int) := by rw [I_lit, I_mul, I_add]; rfl
theorem q_hasHead {ch κ : Nat → Nat} {N : Nat} {σ : St} (h : PG ch κ N σ) {o f cc : Nat} (ho : o < 12) (hf : f < 3) (hcc : isAt cc = true) : s_X3_hasHead 13 (I (o : Nat)) (I (f : Nat)) (I (cc : Nat)) σ = some (bI (hdIs ch o f cc), σ) := by
  have hs := h.1
  obtain ⟨_, _, _, ⟨lam, hst⟩, h126⟩ := h
  have hc' := isAt_iff.1 hcc
  have hF := hst.2.1 o f ho hf
  unfold s_X3_hasHead hdIs
  rw [q_isFace ho hf, bd_eq, if_neg (by decide), if_neg (by rw [I_lit, I_eq (by omega) (by omega)]; omega), if_pos (hs.o 3 13 (by decide)), hs.p 13 3 17 (by decide), op_eq, if_pos (hs.o 12 17 (by decide)), hs.len 17 36 (by decide), e3of, if_pos (inN (by omega) (by omega)), tNI (by omega)]
  cases e : fp ch o f with
  | none =>
    rw [e] at hF
    rw [hF.1, if_neg (by rw [I_eq (by omega) (by omega)]; omega)]
    rfl
  | some q =>
    rw [e] at hF
    have := h126 q
    rw [hF.1]
    show _ = some (bI (decide (ch q = cc)), σ)
    by_cases c : ch q = cc
    · rw [if_pos (by rw [c]), decide_eq_true c]; rfl
    · rw [if_neg (by rw [I_eq (by omega) (by omega)]; omega), decide_eq_false c]; rfl
theorem q_body {ch κ : Nat → Nat} {N : Nat} {σ : St} (h : PG ch κ N σ) {o f : Nat} (ho : o < 12) (hf : f < 3) : s_X3_body 13 (I (o : Nat)) (I (f : Nat)) σ = some (sI σ 18 (o * 3 + f), σ) := by
  have hs := h.1
  unfold s_X3_body
  rw [q_isFace ho hf, bd_eq, if_neg (by decide), if_pos (hs.o 3 13 (by decide)), hs.p 13 4 18 (by decide), op_eq, if_pos (hs.o 13 18 (by decide)), hs.len 18 36 (by decide), e3of, if_pos (inN (by omega) (by omega)), tNI (by omega)]
theorem PG.face {ch κ : Nat → Nat} {N : Nat} {σ : St} (h : PG ch κ N σ) {o f q : Nat} (ho : o < 12) (hf : f < 3) (e : fp ch o f = some q) : isAt (ch q) = true ∧ (if ch (q + 1) = 60 then ∃ c : Nat, c < N ∧ sI σ 18 (o * 3 + f) = I (c : Nat) ∧ κ c = q + 2 else sI σ 18 (o * 3 + f) = I (-1)) := by
  obtain ⟨_, _, _, ⟨lam, hst⟩, _⟩ := h
  have hF := hst.2.1 o f ho hf
  rw [e] at hF
  exact hF.2
def aR (o : Option Nat) : Int32 := match o with
  | none => I (-1)
  | some r => I (r : Nat)
theorem q_afterUse {o s : Nat} (ho : o < 12) (hs : s < 2147483648) (σ : St) : s_X3_afterUse (I (o : Nat)) (I (s : Nat)) σ = some (aR (afU o s), σ) := by
  unfold s_X3_afterUse afU
  by_cases c : 8 ≤ o
  · rw [if_neg (by rw [I_lit, I_lt (by omega) (by omega)]; omega), if_pos c]
    rfl
  · rw [if_pos (by rw [I_lit, I_lt (by omega) (by omega)]; omega), if_neg c, I_shl1 o ho, lt_eq, I_and]
    have hp := pow8 (show o < 8 by omega)
    by_cases cb : s.testBit o = true
    · have e : s &&& 2 ^ o = 2 ^ o := by rw [Nat.and_comm]; exact bit_sub cb
      have hpos : 0 < 2 ^ o := Nat.two_pow_pos o
      rw [e, if_neg (by rw [I_z (by omega)]; omega), if_pos cb, I_xor]
      rfl
    · have e : s &&& 2 ^ o = 0 := by
        apply Nat.eq_of_testBit_eq
        intro i
        rw [Nat.testBit_and, Nat.testBit_two_pow, Nat.zero_testBit]
        by_cases e2 : o = i
        · rw [← e2, Bool.eq_false_iff.2 cb]; rfl
        · rw [decide_eq_false e2, Bool.and_false]
      rw [e, if_pos (by rw [I_z (by omega)]), if_neg cb]
      rfl
theorem sgl_loop {ch κ : Nat → Nat} {N : Nat} {σ : St} (h : PG ch κ N σ) : ∀ (j k m : Nat), k + j = 8 → s_X3_singles_4 (m + j + 1) 13 (I ((stB (fun o => (fp ch o 0).isSome) k : Nat) : Int)) (I (k : Nat)) σ = some (I ((sgl ch : Nat) : Int), σ) := by
  have hs := h.1
  obtain ⟨_, _, _, ⟨lam, hst⟩, h126⟩ := h
  intro j
  induction j with
  | zero =>
    intro k m hk
    obtain rfl : k = 8 := (by omega)
    show sb_X3_singles_4 (s_X3_singles_4 m) 13 _ (I ((8 : Nat) : Int)) σ = _
    unfold sb_X3_singles_4
    rw [if_pos (by decide)]
    rfl
  | succ j ih =>
    intro k m hk
    have ih := ih (k + 1) m (by omega)
    have hF := hst.2.1 k 0 (by omega) (by omega)
    have e3 : I (k : Nat) * 3 = I ((k * 3 + 0 : Nat) : Int) := by rw [I_lit, I_mul]; rfl
    show sb_X3_singles_4 (s_X3_singles_4 (m + j + 1)) 13 _ (I (k : Nat)) σ = _
    unfold sb_X3_singles_4
    rw [if_neg (by rw [I_lit, I_le (by omega) (by omega)]; omega), if_pos (hs.o 3 13 (by decide)), hs.p 13 3 17 (by decide), op_eq, if_pos (hs.o 12 17 (by decide)), hs.len 17 36 (by decide), e3, if_pos (inN (by omega) (by omega)), tNI (by omega)]
    rw [stB] at ih
    cases e : fp ch k 0 with
    | none =>
      rw [e] at hF
      rw [hF.1, if_pos (by decide), I_p1, lt_eq]
      rw [if_neg (show ¬ (fp ch k 0).isSome = true by rw [e]; decide), Nat.or_zero] at ih
      exact ih
    | some q =>
      rw [e] at hF
      have := isAt_iff.1 hF.2.1
      rw [hF.1, if_neg (by rw [I_z (by omega)]; omega), I_shl1 k (by omega), I_or, lt_eq, I_p1, lt_eq]
      rw [if_pos (show (fp ch k 0).isSome = true by rw [e]; rfl)] at ih
      exact ih
theorem q_singles {ch κ : Nat → Nat} {N : Nat} {σ : St} (h : PG ch κ N σ) : s_X3_singles 13 σ = some (I ((sgl ch : Nat) : Int), σ) := sgl_loop h 8 0 15991 rfl
