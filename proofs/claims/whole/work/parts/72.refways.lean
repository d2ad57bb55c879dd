/-! the reference counts the ways -/
theorem MT.fx {ch sl : Nat → Nat} {σ σ' : St} {CI CL : Nat → Nat → Prop} (h : MT ch sl σ) (hf : FX CI CL σ σ') (hC : ∀ k, ¬ CI 31 k ∧ ¬ CI 32 k) : MT ch sl σ' :=
  ⟨hf.ss h.1, fun s hs => by rw [hf.i 32 s (hC s).2]; exact h.2.1 s hs, fun s hs i hi => by rw [hf.i 31 _ (hC _).1]; exact h.2.2 s hs i hi⟩
theorem GM.fx {ch κ : Nat → Nat} {N : Nat} {σ σ' : St} {CI CL : Nat → Nat → Prop} (h : GM ch κ N σ) (hf : FX CI CL σ σ') (h1 : ¬ CI 30 5) (h2 : ∀ a k, 34 ≤ a → a ≤ 39 → ¬ CI a k) : GM ch κ N σ' :=
  ⟨hf.ss h.1, h.2.1, by rw [hf.i 30 5 h1]; exact h.2.2.1, h.2.2.2.1.fr (fun a k a1 a2 => hf.i a k (h2 a k a1 a2)), h.2.2.2.2⟩
theorem Mly.fx {ch sl κ : Nat → Nat} {σ σ' : St} {CI CL : Nat → Nat → Prop} (h : Mly ch sl σ κ) (hf : FX CI CL σ σ') (h1 : ∀ k, k = 5 ∨ k = 6 ∨ k = 10 ∨ k = 21 → ¬ CI 30 k) (h2 : ∀ a k, 34 ≤ a → a ≤ 39 → ¬ CI a k) (h3 : ∀ k, ¬ CI 44 k) : Mly ch sl σ' κ := by
  obtain ⟨a, ⟨b, c, d, e⟩, f⟩ := h
  refine ⟨by rw [hf.i 30 21 (h1 21 (by omega))]; exact a, ⟨by rw [hf.i 30 5 (h1 5 (by omega))]; exact b, by rw [hf.i 30 6 (h1 6 (by omega))]; exact c, d.fr (fun a k a1 a2 => hf.i a k (h2 a k a1 a2)), fun q => by rw [hf.i 30 10 (h1 10 (by omega))]; exact e q⟩, fun i hi => by rw [hf.i 44 i (h3 i)]; exact f i hi⟩
def BW (κ : Nat → Nat) (N : Nat) (B : Nat → Nat → Nat) (σ : St) : Prop := ∀ c s, c < N → s < 256 → sL σ 45 (256 * c + s) = L (B (κ c) s : Nat)
theorem q_waysBelow {κ : Nat → Nat} {N : Nat} {B : Nat → Nat → Nat} {σ : St} (hs : SS σ) (hN : N ≤ 60) (hB : BW κ N B σ) {c s : Nat} (hc : c < N) (hs2 : s < 256) : s_X11_waysBelow 30 (I (c : Nat)) (I (s : Nat)) σ = some (L (B (κ c) s : Nat), σ) := by
  unfold s_X11_waysBelow
  have e : (256 : Int32) * I (c : Nat) + I (s : Nat) = I ((256 * c + s : Nat) : Int) := by rw [I_lit, I_mul, I_add]; rfl
  rw [if_pos (hs.o 11 30 (by decide)), hs.p 30 23 45 (by decide), op_eq, if_pos (hs.o 14 45 (by decide)), hs.len 45 15360 (by decide), e, if_pos (inN (by omega) (by omega)), tNI (by omega), hB c s hc hs2]
theorem q_capM {n : Nat} (h : n < 9000000000000000000) (σ : St) : s_X11_capped (L (n : Int)) σ = some (L (cap n : Nat), σ) := by
  unfold s_X11_capped cap lg_cmp
  have e1 : (L (n : Int) > 999999999) ↔ 999999999 < n := by
    show (999999999 < L (n : Int)) ↔ _
    rw [L_lit, L_lt (by omega) (by omega)]; omega
  by_cases c : 999999999 < n
  · rw [if_pos (e1.2 c), if_neg (by decide), if_pos c]; rfl
  · rw [if_neg (fun q => c (e1.1 q)), if_neg c]
    by_cases c2 : L (n : Int) = 999999999
    · rw [if_pos c2, if_pos (by decide)]
    · rw [if_neg c2, if_pos (by decide)]
theorem lp_wb (n a : Nat) (b c d : Int32) (e : Int64) (f : Int32) (σ : St) : s_X11_waysBy_6 (n + 1) a b c d e f σ = sb_X11_waysBy_6 (s_X11_waysBy_6 n) a b c d e f σ := rfl
theorem GM.cnt {ch κ : Nat → Nat} {N : Nat} {σ : St} (hg : GM ch κ N σ) {o : Nat} (ho : o < 12) : ∃ n : Nat, sI σ 37 o = I (n : Nat) ∧ n ≤ 3 ∧ ∀ f, f < 3 → ((fp ch o f).isSome = true ↔ f < n) := by
  have hF := hg.2.2.2.1.2 o
  have key : ∀ f, f < 3 → ∃ n : Nat, sI σ 37 o = I (n : Nat) ∧ n ≤ 3 ∧ ((fp ch o f).isSome = true ↔ f < n) := by
    intro f hf
    have h := hF f ho hf
    cases e : fp ch o f with
    | none =>
      rw [e] at h
      obtain ⟨n, a, b⟩ := h
      exact ⟨n, a, by omega, ⟨fun q => (by cases q), fun q => (by omega)⟩⟩
    | some q =>
      rw [e] at h
      obtain ⟨⟨n, a, b, c⟩, _⟩ := h
      exact ⟨n, a, c, ⟨fun _ => b, fun _ => rfl⟩⟩
  obtain ⟨n, a, b, c⟩ := key 0 (by omega)
  refine ⟨n, a, b, fun f hf => ?_⟩
  obtain ⟨n', a', b', c'⟩ := key f hf
  rw [a] at a'
  have : (n : Int) = n' := (I_eq (by omega) (by omega)).1 a'
  obtain rfl : n = n' := by omega
  exact c'
theorem wb_loop {ch κ : Nat → Nat} {N : Nat} {B : Nat → Nat → Nat} {σ : St} (hg : GM ch κ N σ) (hB : BW κ N B σ) {cc o r : Nat} (hcc : cc ≤ 126) (ho : o < 12) (hr : r < 256) : ∀ (j f m : Nat), f + j = 3 →
    s_X11_waysBy_6 (m + j + 1) 30 (I (o : Nat)) (I (cc : Nat)) (I (r : Nat)) (L (smW (fun f => tolW ch B cc o f r) f : Nat)) (I (f : Nat)) σ = some (L (smW (fun f => tolW ch B cc o f r) 3 : Nat), σ) := by
  have hs := hg.1
  have hN := hg.2.1
  obtain ⟨n, n1, n2, n3⟩ := hg.cnt ho
  have hno : ∀ f, f < 3 → n ≤ f → fp ch o f = none := fun f hf hn => by
    cases e : fp ch o f with
    | none => rfl
    | some q =>
      have := (n3 f hf).1 (by rw [e]; rfl)
      omega
  intro j
  induction j with
  | zero =>
    intro f m hf
    obtain rfl : f = 3 := (by omega)
    rw [lp_wb]
    unfold sb_X11_waysBy_6
    rw [if_pos (hs.o 11 30 (by decide)), hs.p 30 11 37 (by decide), op_eq, if_pos (hs.o 13 37 (by decide)), hs.len 37 12 (by decide), if_pos (inN (by omega) (by omega)), tNI (by omega), n1, if_pos (by rw [I_le (by omega) (by omega)]; omega)]
  | succ j ih =>
    intro f m hf
    have ih := ih (f + 1) m (by omega)
    rw [lp_wb]
    unfold sb_X11_waysBy_6
    rw [if_pos (hs.o 11 30 (by decide)), hs.p 30 11 37 (by decide), op_eq, if_pos (hs.o 13 37 (by decide)), hs.len 37 12 (by decide), if_pos (inN (by omega) (by omega)), tNI (by omega), n1]
    by_cases c0 : n ≤ f
    · rw [if_pos (by rw [I_le (by omega) (by omega)]; omega), smW_ext (P := fun f => tolW ch B cc o f r) (a := f) (b := 3) (by omega) (fun q q1 q2 => by unfold tolW; rw [hno q (by omega) (by omega)])]
    · have hsome := (n3 f (by omega)).2 (by omega)
      have e : (3 : Int32) * I (o : Nat) + I (f : Nat) = I ((3 * o + f : Nat) : Int) := by rw [I_lit, I_mul, I_add]; rfl
      have hF := hg.2.2.2.1.2 o f ho (by omega)
      cases e1 : fp ch o f with
      | none => rw [e1] at hsome; cases hsome
      | some q =>
        rw [e1] at hF
        obtain ⟨_, f1, f2, f3⟩ := hF
        have hq := hg.2.2.2.2 q
        have est : tolW ch B cc o f r = if ch q = cc then (if ch (q + 1) = 60 then B (q + 2) r else if r = 0 then 1 else 0) else 0 := by unfold tolW; rw [e1]
        rw [smW, est] at ih
        rw [if_neg (by rw [I_le (by omega) (by omega)]; omega), e, lt_eq, hs.p 30 12 38 (by decide), op_eq, if_pos (hs.o 13 38 (by decide)), hs.len 38 36 (by decide), if_pos (inN (by omega) (by omega)), tNI (by omega), f1]
        by_cases c1 : ch q = cc
        · rw [if_pos c1] at ih
          rw [if_pos (by rw [c1]), hs.p 30 13 39 (by decide), op_eq, if_pos (hs.o 13 39 (by decide)), hs.len 39 36 (by decide), if_pos (inN (by omega) (by omega))]
          by_cases c2 : ch (q + 1) = 60
          · rw [if_pos c2] at f3 ih
            obtain ⟨c, g1, g2, g3⟩ := f3
            rw [g2, if_pos (by rw [I_lit, I_le (by omega) (by omega)]; omega), if_pos (inN (by omega) (by omega)), q_waysBelow hs hN hB g1 hr, bd_eq]
            unfold s_X11_waysBy_72
            rw [L_add, lt_eq, I_p1, lt_eq, g3]
            exact ih
          · rw [if_neg c2] at f3 ih
            rw [f3, if_neg (by decide)]
            by_cases c3 : r = 0
            · rw [if_pos c3] at ih
              rw [if_pos ((I_z (by omega)).2 c3)]
              unfold s_X11_waysBy_72
              rw [show (1 : Int64) = L ((1 : Nat) : Int) from rfl, L_add, lt_eq, I_p1, lt_eq]
              exact ih
            · rw [if_neg c3] at ih
              rw [if_neg (fun q => c3 ((I_z (by omega)).1 q))]
              unfold s_X11_waysBy_72
              rw [show (0 : Int64) = L ((0 : Nat) : Int) from rfl, L_add, lt_eq, I_p1, lt_eq]
              exact ih
        · rw [if_neg c1] at ih
          rw [if_neg (by rw [I_eq (by omega) (by omega)]; omega), I_p1, lt_eq]
          exact ih
theorem q_waysBy {ch κ : Nat → Nat} {N : Nat} {B : Nat → Nat → Nat} {σ : St} (hg : GM ch κ N σ) (hB : BW κ N B σ) {cc o r : Nat} (hcc : cc ≤ 126) (ho : o < 12) (hr : r < 256) : s_X11_waysBy 30 (I (o : Nat)) (I (cc : Nat)) (I (r : Nat)) σ = some (L (smW (fun f => tolW ch B cc o f r) 3 : Nat), σ) := wb_loop hg hB hcc ho hr 3 0 15996 rfl
theorem smW_3 {ch : Nat → Nat} {B : Nat → Nat → Nat} {cc s o : Nat} : smW (tlW ch B cc s) (3 * (o + 1)) = smW (tlW ch B cc s) (3 * o) + (match afU o s with
    | none => 0
    | some r => smW (fun f => tolW ch B cc o f r) 3) := by
  rw [show 3 * (o + 1) = 3 * o + 1 + 1 + 1 by omega]
  simp only [smW]
  have e0 := tlW_3 (ch := ch) (B := B) (cc := cc) (s := s) (o := o) (f := 0) (by omega)
  have e1 := tlW_3 (ch := ch) (B := B) (cc := cc) (s := s) (o := o) (f := 1) (by omega)
  have e2 := tlW_3 (ch := ch) (B := B) (cc := cc) (s := s) (o := o) (f := 2) (by omega)
  rw [Nat.add_zero] at e0
  rw [e0, e1, show 3 * o + 1 + 1 = 3 * o + 2 by omega, e2]
  cases afU o s with
  | none => rfl
  | some r =>
    show smW (tlW ch B cc s) (3 * o) + tolW ch B cc o 0 r + tolW ch B cc o 1 r + tolW ch B cc o 2 r = smW (tlW ch B cc s) (3 * o) + (0 + tolW ch B cc o 0 r + tolW ch B cc o 1 r + tolW ch B cc o 2 r)
    omega
theorem lp_wa (n a : Nat) (b c : Int32) (e : Int64) (f : Int32) (σ : St) : s_X11_waysOfAtom_5 (n + 1) a b c e f σ = sb_X11_waysOfAtom_5 (s_X11_waysOfAtom_5 n) a b c e f σ := rfl
theorem wa_loop {ch κ : Nat → Nat} {N : Nat} {B : Nat → Nat → Nat} {σ : St} (hg : GM ch κ N σ) (hB : BW κ N B σ) {cc s : Nat} (hcc : cc ≤ 126) (hs2 : s < 256) : ∀ (j o m : Nat), o + j = 12 →
    s_X11_waysOfAtom_5 (m + j + 1) 30 (I (cc : Nat)) (I (s : Nat)) (L (smW (tlW ch B cc s) (3 * o) : Nat)) (I (o : Nat)) σ = some (L (smW (tlW ch B cc s) 36 : Nat), σ) := by
  have ho11 := hg.1.o 11 30 (by decide)
  intro j
  induction j with
  | zero =>
    intro o m ho
    obtain rfl : o = 12 := (by omega)
    rw [lp_wa]
    unfold sb_X11_waysOfAtom_5
    rw [if_pos (by decide)]
  | succ j ih =>
    intro o m ho
    have ih := ih (o + 1) m (by omega)
    rw [smW_3] at ih
    rw [lp_wa]
    unfold sb_X11_waysOfAtom_5
    rw [if_neg (by rw [I_lit, I_le (by omega) (by omega)]; omega)]
    by_cases c8 : 8 ≤ o
    · have ea : afU o s = some s := by unfold afU; rw [if_pos c8]
      rw [ea] at ih
      rw [if_neg (by rw [I_lit, I_le (by omega) (by omega)]; omega), if_pos ho11, q_waysBy hg hB hcc (by omega) hs2, bd_eq, L_add, lt_eq, I_p1, lt_eq]
      exact ih
    · rw [if_pos (by rw [I_lit, I_le (by omega) (by omega)]; omega), q_has11 s o (by omega) (by omega), bd_eq]
      by_cases cb : s.testBit o = true
      · have ea : afU o s = some (s ^^^ 2 ^ o) := by unfold afU; rw [if_neg c8, if_pos cb]
        rw [ea] at ih
        rw [if_neg (by rw [bI0, cb]; decide), if_pos ho11, I_shl1 o (by omega), I_dif (by omega) (bit_sub cb), q_waysBy hg hB hcc (by omega) (xor_lt hs2 (pow8 (by omega))), bd_eq, L_add, lt_eq, I_p1, lt_eq]
        exact ih
      · have ea : afU o s = none := by unfold afU; rw [if_neg c8, if_neg cb]
        rw [ea] at ih
        rw [if_pos (by rw [bI0]; exact Bool.eq_false_iff.2 cb), I_p1, lt_eq]
        exact ih
theorem lp_wp (n a : Nat) (b c : Int32) (e : Int64) (f : Int32) (σ : St) : s_X11_waysOfParts_5 (n + 1) a b c e f σ = sb_X11_waysOfParts_5 (s_X11_waysOfParts_5 n) a b c e f σ := rfl
theorem wp_loop {ch κ : Nat → Nat} {N : Nat} {B : Nat → Nat → Nat} {σ : St} (hg : GM ch κ N σ) (hB : BW κ N B σ) (hb : ∀ p s, B p s ≤ 999999999) {c s : Nat} (hc : c < N) (h4 : ch (κ c) = 40) (hs2 : s < 256) : ∀ (j k m : Nat), k + j = 256 →
    s_X11_waysOfParts_5 (m + j + 1) 30 (I (c : Nat)) (I (s : Nat)) (L (cap (smW (spW ch B (κ c) s) k) : Nat)) (I (k : Nat)) σ = some (L (cap (smW (spW ch B (κ c) s) 256) : Nat), σ) := by
  obtain ⟨n1, n2, n3, n4, n5, n6, n7⟩ := hg.2.2.2.1.1 c hc
  obtain ⟨c1, p1, p2, p3⟩ := n3 (Or.inr (Or.inl h4))
  obtain ⟨c2, p4, p5, p6⟩ := n4 h4
  have hN := hg.2.1
  have hs := hg.1
  intro j
  induction j with
  | zero =>
    intro k m hk
    obtain rfl : k = 256 := (by omega)
    rw [lp_wp]
    unfold sb_X11_waysOfParts_5
    rw [if_pos (by decide)]
  | succ j ih =>
    intro k m hk
    have ih := ih (k + 1) m (by omega)
    rw [lp_wp]
    unfold sb_X11_waysOfParts_5
    rw [if_neg (by rw [I_lit, I_le (by omega) (by omega)]; omega)]
    rw [smW] at ih
    by_cases c0 : k &&& s = k
    · have est : spW ch B (κ c) s k = B (κ c1) k * B (κ c2) (s ^^^ k) := by unfold spW; rw [if_pos c0, p3, p6]
      have hm := mul_lt (hb (κ c1) k) (hb (κ c2) (s ^^^ k))
      have hcp := cap_le (B (κ c1) k * B (κ c2) (s ^^^ k))
      have hcq := cap_le (smW (spW ch B (κ c) s) k)
      have eL : L (B (κ c1) k : Nat) * L (B (κ c2) (s ^^^ k) : Nat) = L ((B (κ c1) k * B (κ c2) (s ^^^ k) : Nat) : Int) := by rw [L_mul]; rfl
      have eL2 : L (cap (smW (spW ch B (κ c) s) k) : Nat) + L (cap (B (κ c1) k * B (κ c2) (s ^^^ k)) : Nat) = L ((cap (smW (spW ch B (κ c) s) k) + cap (B (κ c1) k * B (κ c2) (s ^^^ k)) : Nat) : Int) := by rw [L_add]; rfl
      rw [if_pos ((I_dif0 (by omega)).2 c0), if_pos (hs.o 11 30 (by decide)), hs.p 30 8 35 (by decide), op_eq, if_pos (hs.o 13 35 (by decide)), hs.len 35 64 (by decide), if_pos (inN (by omega) (by omega)), tNI (by omega), p2, q_waysBelow hs hN hB p1 (by omega), bd_eq, if_pos (hs.o 11 30 (by decide)), hs.p 30 9 36 (by decide), op_eq, if_pos (hs.o 13 36 (by decide)), hs.len 36 64 (by decide), if_pos (inN (by omega) (by omega)), p5, I_dif (by omega) c0, q_waysBelow hs hN hB p4 (xor_lt hs2 (by omega)), bd_eq, eL, q_capM (by omega), bd_eq, eL2, q_capM (by omega), bd_eq, I_p1, lt_eq, cap_r, cap_l, ← est]
      exact ih
    · have est : spW ch B (κ c) s k = 0 := by unfold spW; rw [if_neg c0]
      rw [est] at ih
      rw [if_neg (fun q => c0 ((I_dif0 (by omega)).1 q)), I_p1, lt_eq]
      exact ih
theorem stW_at {ch : Nat → Nat} {B : Nat → Nat → Nat} {p s : Nat} (h : isAt (kd ch p) = true) : stW ch B p s = smW (tlW ch B (kd ch p) s) 36 := by
  rw [isAt_iff] at h
  unfold stW
  rw [if_neg (by omega), if_neg (by omega), if_neg (by omega), if_neg (by omega), if_neg (by omega), if_neg (by omega), if_neg (by omega)]
theorem stW_49 {ch : Nat → Nat} {B : Nat → Nat → Nat} {p s : Nat} (h : kd ch p = 49) : stW ch B p s = if s = 0 then 1 else 0 := by unfold stW; rw [if_pos h]
theorem stW_84 {ch : Nat → Nat} {B : Nat → Nat → Nat} {p s : Nat} (h : kd ch p = 84) : stW ch B p s = 1 := by unfold stW; rw [if_neg (by omega), if_pos h]
theorem stW_33 {ch : Nat → Nat} {B : Nat → Nat → Nat} {p s : Nat} (h : kd ch p = 33) : stW ch B p s = if s = 0 then B (ch1 ch p) 0 else 0 := by unfold stW; rw [if_neg (by omega), if_neg (by omega), if_pos h]
theorem stW_42 {ch : Nat → Nat} {B : Nat → Nat → Nat} {p s : Nat} (h : kd ch p = 42) : stW ch B p s = smW (spW ch B p s) 256 := by unfold stW; rw [if_neg (by omega), if_neg (by omega), if_neg (by omega), if_pos h]
theorem stW_38 {ch : Nat → Nat} {B : Nat → Nat → Nat} {p s : Nat} (h : kd ch p = 38) : stW ch B p s = B (ch1 ch p) s * B (ch2 ch p) s := by unfold stW; rw [if_neg (by omega), if_neg (by omega), if_neg (by omega), if_neg (by omega), if_pos h]
theorem stW_43 {ch : Nat → Nat} {B : Nat → Nat → Nat} {p s : Nat} (h : kd ch p = 43) : stW ch B p s = B (ch1 ch p) s + B (ch2 ch p) s := by unfold stW; rw [if_neg (by omega), if_neg (by omega), if_neg (by omega), if_neg (by omega), if_neg (by omega), if_pos h]
theorem stW_91 {ch : Nat → Nat} {B : Nat → Nat → Nat} {p s : Nat} (h : kd ch p = 91) : stW ch B p s = if s.testBit (ln ch p) = true then 0 else B (ch1 ch p) (s ||| 2 ^ ln ch p) := by unfold stW; rw [if_neg (by omega), if_neg (by omega), if_neg (by omega), if_neg (by omega), if_neg (by omega), if_neg (by omega), if_pos h]
/-- one layer more, at one node: up to the cut -/
theorem q_waysOf {ch κ : Nat → Nat} {N : Nat} {B : Nat → Nat → Nat} {σ : St} (hg : GM ch κ N σ) (hB : BW κ N B σ) (hb : ∀ p s, B p s ≤ 999999999) {c s : Nat} (hc : c < N) (hs2 : s < 256) :
    ∃ v : Nat, s_X11_waysOf 30 (I (c : Nat)) (I (s : Nat)) σ = some (L (v : Nat), σ) ∧ v < 9000000000000000000 ∧ cap v = cap (stW ch B (κ c) s) := by
  obtain ⟨n1, n2, n3, n4, n5, n6, n7⟩ := hg.2.2.2.1.1 c hc
  have hN := hg.2.1
  have hs := hg.1
  have ho := hs.o 11 30 (by decide)
  have hz : (I (s : Nat) = 0) ↔ s = 0 := I_z (by omega)
  unfold s_X11_waysOf
  rw [if_pos ho, hs.p 30 8 35 (by decide), op_eq, if_pos (hs.o 13 35 (by decide)), hs.len 35 64 (by decide), if_pos (inN (by omega) (by omega)), tNI (by omega), lt_eq, hs.p 30 9 36 (by decide), op_eq, if_pos (hs.o 13 36 (by decide)), hs.len 36 64 (by decide), if_pos (inN (by omega) (by omega)), lt_eq, hs.p 30 7 34 (by decide), op_eq, if_pos (hs.o 13 34 (by decide)), hs.len 34 64 (by decide), if_pos (inN (by omega) (by omega)), lt_eq, n1]
  rcases n6 with a | a | a | a | a | a
  · have a' := isAt_iff.1 a
    have hk : kd ch (κ c) = ch (κ c) := kd_ne (by omega)
    have hm : mk (kd ch (κ c)) = 0 := by rw [hk]; unfold mk; rw [if_neg (by omega), if_neg (by omega), if_neg (by omega), if_neg (by omega), if_neg (by omega), if_neg (by omega), if_neg (by omega)]
    have hw := wa_loop hg hB (cc := ch (κ c)) (s := s) (by omega) hs2 12 0 15987 rfl
    have hw' : s_X11_waysOfAtom 30 (I (ch (κ c) : Nat)) (I (s : Nat)) σ = _ := hw
    rw [hm, if_pos (by decide), n2 a, hw', bd_eq]
    refine ⟨_, rfl, ?_, ?_⟩
    · have : ∀ k, smW (tlW ch B (ch (κ c)) s) k ≤ k * 999999999 := by
        intro k
        induction k with
        | zero => exact Nat.zero_le _
        | succ k ih =>
          have : tlW ch B (ch (κ c)) s k ≤ 999999999 := by
            unfold tlW
            cases afU (k / 3) s with
            | none => exact Nat.zero_le _
            | some r =>
              show tolW ch B _ _ _ r ≤ _
              unfold tolW
              cases fp ch (k / 3) (k % 3) with
              | none => exact Nat.zero_le _
              | some x =>
                show (if _ then _ else _) ≤ _
                split
                · split
                  · exact hb _ _
                  · split <;> omega
                · omega
          rw [smW]
          omega
      have := this 36
      omega
    · rw [stW_at (by rw [hk]; exact a), hk]
  · have hk : kd ch (κ c) = 49 := by rw [kd_ne (by omega)]; exact a
    rw [stW_49 hk, hk, if_neg (by decide), if_pos (by decide)]
    by_cases c3 : s = 0
    · rw [if_pos (hz.2 c3), if_pos c3]; exact ⟨1, rfl, by omega, rfl⟩
    · rw [if_neg (fun q => c3 (hz.1 q)), if_neg c3]; exact ⟨0, rfl, by omega, rfl⟩
  · have hk : kd ch (κ c) = 84 := by rw [kd_ne (by omega)]; exact a
    rw [stW_84 hk, hk, if_neg (by decide), if_neg (by decide), if_pos (by decide)]
    exact ⟨1, rfl, by omega, rfl⟩
  · have hk : kd ch (κ c) = 33 := by rw [kd_ne (by omega)]; exact a
    obtain ⟨c1, p1, p2, p3⟩ := n3 (Or.inl a)
    rw [stW_33 hk, hk, if_neg (by decide), if_neg (by decide), if_neg (by decide), if_pos (by decide)]
    by_cases c3 : s = 0
    · rw [if_pos (hz.2 c3), if_pos c3, p2, show (0 : Int32) = I ((0 : Nat) : Int) from rfl, q_waysBelow hs hN hB p1 (by decide), bd_eq, p3]
      exact ⟨_, rfl, by have := hb (ch1 ch (κ c)) 0; omega, rfl⟩
    · rw [if_neg (fun q => c3 (hz.1 q)), if_neg c3]; exact ⟨0, rfl, by omega, rfl⟩
  · obtain ⟨c1, p1, p2, p3⟩ := n3 (Or.inr (Or.inl a))
    obtain ⟨c2, p4, p5, p6⟩ := n4 a
    have hop := isOp_iff.1 (n7 a)
    have b1 := hb (ch1 ch (κ c)) s
    have b2 := hb (ch2 ch (κ c)) s
    rcases hop with hk | hk | hk
    · have hw := wp_loop hg hB hb hc a hs2 256 0 15743 rfl
      have hw' : s_X11_waysOfParts 30 (I (c : Nat)) (I (s : Nat)) σ = _ := hw
      rw [stW_42 hk, hk, if_neg (by decide), if_neg (by decide), if_neg (by decide), if_neg (by decide), if_pos (by decide), hw', bd_eq]
      exact ⟨_, rfl, by have := cap_le (smW (spW ch B (κ c) s) 256); omega, cap_cap _⟩
    · rw [stW_38 hk, hk, if_neg (by decide), if_neg (by decide), if_neg (by decide), if_neg (by decide), if_neg (by decide), if_pos (by decide), p2, q_waysBelow hs hN hB p1 hs2, bd_eq, if_pos ho, p5, q_waysBelow hs hN hB p4 hs2, bd_eq, p3, p6]
      have hm := mul_lt b1 b2
      exact ⟨B (ch1 ch (κ c)) s * B (ch2 ch (κ c)) s, by rw [L_mul]; rfl, by omega, rfl⟩
    · rw [stW_43 hk, hk, if_neg (by decide), if_neg (by decide), if_neg (by decide), if_neg (by decide), if_neg (by decide), if_neg (by decide), if_pos (by decide), p2, q_waysBelow hs hN hB p1 hs2, bd_eq, if_pos ho, p5, q_waysBelow hs hN hB p4 hs2, bd_eq, p3, p6]
      exact ⟨B (ch1 ch (κ c)) s + B (ch2 ch (κ c)) s, by rw [L_add]; rfl, by omega, rfl⟩
  · have hk : kd ch (κ c) = 91 := by rw [kd_ne (by omega)]; exact a
    obtain ⟨c1, p1, p2, p3⟩ := n3 (Or.inr (Or.inr a))
    obtain ⟨p4, p5⟩ := n5 a
    rw [stW_91 hk, hk, if_neg (by decide), if_neg (by decide), if_neg (by decide), if_neg (by decide), if_neg (by decide), if_neg (by decide), if_neg (by decide), p4, q_has11 s _ (by omega) (by omega), bd_eq]
    cases e1 : s.testBit (ln ch (κ c)) with
    | true => rw [if_neg (by decide), if_pos rfl]; exact ⟨0, rfl, by omega, rfl⟩
    | false =>
      rw [if_pos (by decide), if_pos ho, I_shl1 _ (by omega), I_or, p2, q_waysBelow hs hN hB p1 (or_lt hs2 (pow8 p5)), bd_eq, p3, if_neg (by decide)]
      exact ⟨_, rfl, by have := hb (ch1 ch (κ c)) (s ||| 2 ^ ln ch (κ c)); omega, rfl⟩
