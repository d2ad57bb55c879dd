/-! the reference over its rows of the graph -/
def GM (ch : Nat → Nat) (κ : Nat → Nat) (N : Nat) (σ : St) : Prop := SS σ ∧ N ≤ 60 ∧ sI σ 30 5 = I (N : Nat) ∧ StrM ch κ (fp ch) σ N ∧ ∀ i, ch i ≤ 126
def BM (κ : Nat → Nat) (N : Nat) (h : Int32) (B : Nat → Nat → Bool) (σ : St) : Prop := ∀ c s, c < N → s < 256 → s_X11_isBelow 30 (I (c : Nat)) (I (s : Nat)) h σ = some (bI (B (κ c) s), σ)
theorem q_isBelow {σ : St} (hs : SS σ) {c s h v : Nat} (hc : c < 60) (hs2 : s < 256) (hh : h ≤ 100) (hv : sI σ 44 (256 * c + s) = I (v : Nat)) (hv2 : v ≤ 100) : s_X11_isBelow 30 (I (c : Nat)) (I (s : Nat)) (I (h : Nat)) σ = some (bI (decide (0 < v ∧ v < h)), σ) := by
  unfold s_X11_isBelow
  have e : (256 : Int32) * I (c : Nat) + I (s : Nat) = I ((256 * c + s : Nat) : Int) := by rw [I_lit, I_mul, I_add]; rfl
  rw [if_pos (hs.o 11 30 (by decide)), hs.p 30 22 44 (by decide), op_eq, if_pos (hs.o 13 44 (by decide)), hs.len 44 15360 (by decide), e, if_pos (inN (by omega) (by omega)), tNI (by omega), hv, lt_eq]
  by_cases h1 : 0 < v
  · rw [if_neg (by rw [I_lit, I_le (by omega) (by omega)]; omega)]
    by_cases h2 : v < h
    · rw [if_neg (by rw [I_le (by omega) (by omega)]; omega), decide_eq_true ⟨h1, h2⟩]; rfl
    · rw [if_pos (by rw [I_le (by omega) (by omega)]; omega), decide_eq_false (by omega)]; rfl
  · rw [if_pos (by rw [I_lit, I_le (by omega) (by omega)]; omega), decide_eq_false (by omega)]; rfl
theorem q_isTold {ch κ : Nat → Nat} {N : Nat} {h : Int32} {B : Nat → Nat → Bool} {σ : St} (hg : GM ch κ N σ) (hB : BM κ N h B σ) {cc o f r : Nat} (hcc : cc ≤ 126) (ho : o < 12) (hf : f < 3) (hr : r < 256) :
    s_X11_isTold 30 (I (o : Nat)) (I (f : Nat)) (I (cc : Nat)) (I (r : Nat)) h σ = some (bI (tolR ch B cc o f r), σ) := by
  obtain ⟨hs, hN, h5, ⟨_, hF⟩, hch⟩ := hg
  unfold s_X11_isTold
  have e : (3 : Int32) * I (o : Nat) + I (f : Nat) = I ((3 * o + f : Nat) : Int) := by rw [I_lit, I_mul, I_add]; rfl
  have hf0 := hF o f ho hf
  unfold tolR
  rw [e, lt_eq, if_pos (hs.o 11 30 (by decide)), hs.p 30 11 37 (by decide), op_eq, if_pos (hs.o 13 37 (by decide)), hs.len 37 12 (by decide), if_pos (inN (by omega) (by omega)), tNI (by omega)]
  cases e1 : fp ch o f with
  | none =>
    rw [e1] at hf0
    obtain ⟨n, n1, n2⟩ := hf0
    rw [n1, if_pos (by rw [I_le (by omega) (by omega)]; omega)]
    rfl
  | some q =>
    rw [e1] at hf0
    obtain ⟨⟨n, n1, n2, n3⟩, f1, f2, f3⟩ := hf0
    rw [n1, if_neg (by rw [I_le (by omega) (by omega)]; omega), hs.p 30 12 38 (by decide), op_eq, if_pos (hs.o 13 38 (by decide)), hs.len 38 36 (by decide), if_pos (inN (by omega) (by omega)), tNI (by omega), f1]
    show _ = some (bI (decide (ch q = cc) && (if ch (q + 1) = 60 then B (q + 2) r else decide (r = 0))), σ)
    have hq := hch q
    by_cases c1 : ch q = cc
    · rw [if_pos (by rw [c1]), hs.p 30 13 39 (by decide), op_eq, if_pos (hs.o 13 39 (by decide)), hs.len 39 36 (by decide), if_pos (inN (by omega) (by omega)), decide_eq_true c1, Bool.true_and]
      by_cases c2 : ch (q + 1) = 60
      · rw [if_pos c2] at f3 ⊢
        obtain ⟨c, g1, g2, g3⟩ := f3
        rw [g2, if_pos (by rw [I_lit, I_le (by omega) (by omega)]; omega), if_pos (inN (by omega) (by omega)), hB c r g1 hr, bd_eq, if_pos (zok_bI _), g3]
      · rw [if_neg c2] at f3 ⊢
        rw [f3, if_neg (by decide)]
        by_cases c3 : r = 0
        · rw [if_pos (by rw [c3]; rfl), decide_eq_true c3]; rfl
        · rw [if_neg (by rw [I_z (by omega)]; exact c3), decide_eq_false c3]; rfl
    · rw [if_neg (by rw [I_eq (by omega) (by omega)]; omega), decide_eq_false c1, Bool.false_and]; rfl
def numK (k : Nat) : Nat := if k < 24 then 10 * (k / 3) + k % 3 else 100 + 10 * ((k - 24) / 3) + (k - 24) % 3
def ffR (o : Option Nat) : Int32 := match o with
  | none => I (-6)
  | some k => I (numK k : Nat)
theorem d3 {k : Nat} (hk : k < 100000) : I (k : Nat) / 3 = I ((k / 3 : Nat) : Int) := by rw [show (3 : Int32) = I ((3 : Nat) : Int) from rfl, I_div (by omega) (by omega)]
theorem r3 {k : Nat} : I (k : Nat) - I ((k / 3 : Nat) : Int) * 3 = I ((k % 3 : Nat) : Int) := by
  rw [I_lit, I_mul, I_sub]
  exact congrArg I (by omega)
theorem q_ff68 {ch κ : Nat → Nat} {N : Nat} {h : Int32} {B : Nat → Nat → Bool} {σ : St} (hg : GM ch κ N σ) (hB : BM κ N h B σ) {cc s : Nat} (hcc : cc ≤ 126) (hs2 : s < 256) : ∀ (j k m : Nat), k + j = 12 →
    s_X11_firstFor_68 (m + j + 1) 30 (I (cc : Nat)) (I (s : Nat)) h (I (k : Nat)) σ = some (ffR (fstN (tol ch B cc s) j (24 + k)), σ) := by
  intro j
  induction j with
  | zero =>
    intro k m hk
    obtain rfl : k = 12 := (by omega)
    show sb_X11_firstFor_68 (s_X11_firstFor_68 m) 30 (I (cc : Nat)) (I (s : Nat)) h (I ((12 : Nat) : Int)) σ = _
    unfold sb_X11_firstFor_68
    rw [if_pos (by decide)]
    rfl
  | succ j ih =>
    intro k m hk
    show sb_X11_firstFor_68 (s_X11_firstFor_68 (m + j + 1)) 30 (I (cc : Nat)) (I (s : Nat)) h (I (k : Nat)) σ = _
    unfold sb_X11_firstFor_68
    have e8 : (8 : Int32) + I ((k / 3 : Nat) : Int) = I ((8 + k / 3 : Nat) : Int) := by rw [I_lit, I_add]; rfl
    rw [if_neg (by rw [I_lit, I_le (by omega) (by omega)]; omega), if_pos (hg.1.o 11 30 (by decide)), d3 (by omega), r3, e8, q_isTold hg hB hcc (by omega) (by omega) hs2, bd_eq]
    have e1 : tol ch B cc s (24 + k) = tolR ch B cc (8 + k / 3) (k % 3) s := by
      unfold tol afU
      rw [show (24 + k) / 3 = 8 + k / 3 by omega, show (24 + k) % 3 = k % 3 by omega, if_pos (by omega)]
    unfold fstN
    rw [e1]
    by_cases c1 : tolR ch B cc (8 + k / 3) (k % 3) s = true
    · rw [if_neg (by rw [bI0, c1]; decide), if_pos c1]
      unfold ffR numK
      show some (_, σ) = some (I ((if 24 + k < 24 then _ else _ : Nat) : Int), σ)
      rw [if_neg (by omega), I_lit, I_lit, I_mul, I_add, I_add, show 24 + k - 24 = k by omega]
      rfl
    · rw [if_pos (by rw [bI0]; exact Bool.eq_false_iff.2 c1), if_neg c1, lt_eq, I_p1, ih (k + 1) m (by omega)]
      rfl
theorem q_ff3 {ch κ : Nat → Nat} {N : Nat} {h : Int32} {B : Nat → Nat → Bool} {σ : St} (hg : GM ch κ N σ) (hB : BM κ N h B σ) {cc s : Nat} (hcc : cc ≤ 126) (hs2 : s < 256) : ∀ (j k m : Nat), k + j = 24 →
    s_X11_firstFor_3 (m + j + 1) 30 (I (cc : Nat)) (I (s : Nat)) h (I (k : Nat)) σ = some (ffR (fstN (tol ch B cc s) (j + 12) k), σ) := by
  intro j
  induction j with
  | zero =>
    intro k m hk
    obtain rfl : k = 24 := (by omega)
    show sb_X11_firstFor_3 (s_X11_firstFor_3 m) 30 (I (cc : Nat)) (I (s : Nat)) h (I ((24 : Nat) : Int)) σ = _
    unfold sb_X11_firstFor_3
    rw [if_pos (by decide)]
    exact q_ff68 hg hB hcc hs2 12 0 15987 rfl
  | succ j ih =>
    intro k m hk
    show sb_X11_firstFor_3 (s_X11_firstFor_3 (m + j + 1)) 30 (I (cc : Nat)) (I (s : Nat)) h (I (k : Nat)) σ = _
    unfold sb_X11_firstFor_3
    rw [if_neg (by rw [I_lit, I_le (by omega) (by omega)]; omega), d3 (by omega), r3, lt_eq, q_has11 s (k / 3) (by omega) (by omega), bd_eq, show j + 1 + 12 = (j + 12) + 1 by omega]
    unfold fstN
    by_cases c0 : s.testBit (k / 3) = true
    · have hbit : 2 ^ (k / 3) &&& s = 2 ^ (k / 3) := by
        apply Nat.eq_of_testBit_eq
        intro i
        rw [Nat.testBit_and, Nat.testBit_two_pow]
        by_cases e : k / 3 = i
        · rw [← e, c0, decide_eq_true rfl]; rfl
        · rw [decide_eq_false e]; rfl
      have hlt : 2 ^ (k / 3) < 256 := by
        have : 2 ^ (k / 3) ≤ 2 ^ 7 := Nat.pow_le_pow_right (by decide) (by omega)
        omega
      have e1 : tol ch B cc s k = tolR ch B cc (k / 3) (k % 3) (s ^^^ 2 ^ (k / 3)) := by
        unfold tol afU
        rw [if_neg (by omega), if_pos c0]
      rw [if_neg (by rw [bI0, c0]; decide), if_pos (hg.1.o 11 30 (by decide)), I_shl1 (k / 3) (by omega), I_dif (by omega) hbit, q_isTold hg hB hcc (by omega) (by omega) (xor_lt hs2 hlt), bd_eq, e1]
      by_cases c1 : tolR ch B cc (k / 3) (k % 3) (s ^^^ 2 ^ (k / 3)) = true
      · rw [if_neg (by rw [bI0, c1]; decide), if_pos c1]
        unfold ffR numK
        show some (_, σ) = some (I ((if k < 24 then _ else _ : Nat) : Int), σ)
        rw [if_pos (by omega), I_lit, I_mul, I_add]
        rfl
      · rw [if_pos (by rw [bI0]; exact Bool.eq_false_iff.2 c1), if_neg c1, lt_eq, I_p1, ih (k + 1) m (by omega)]
    · have e1 : tol ch B cc s k = false := by
        unfold tol afU
        rw [if_neg (by omega), if_neg c0]
      rw [if_pos (by rw [bI0]; exact Bool.eq_false_iff.2 c0), e1, if_neg (by decide), lt_eq, I_p1, ih (k + 1) m (by omega)]
theorem q_firstFor {ch κ : Nat → Nat} {N : Nat} {h : Int32} {B : Nat → Nat → Bool} {σ : St} (hg : GM ch κ N σ) (hB : BM κ N h B σ) {cc s : Nat} (hcc : cc ≤ 126) (hs2 : s < 256) :
    s_X11_firstFor 30 (I (cc : Nat)) (I (s : Nat)) h σ = some (ffR (fstN (tol ch B cc s) 36 0), σ) := q_ff3 hg hB hcc hs2 24 0 15975 rfl
def fpR (o : Option Nat) : Int32 := match o with
  | none => I (-6)
  | some k => I (k : Nat)
theorem q_fp3 {ch κ : Nat → Nat} {N : Nat} {h : Int32} {B : Nat → Nat → Bool} {σ : St} (hg : GM ch κ N σ) (hB : BM κ N h B σ) {c s : Nat} (hc : c < N) (h4 : ch (κ c) = 40) (hs2 : s < 256) : ∀ (j k m : Nat), k + j = 256 →
    s_X11_firstPart_3 (m + j + 1) 30 (I (c : Nat)) (I (s : Nat)) h (I (k : Nat)) σ = some (fpR (fstN (splt ch B (κ c) s) j k), σ) := by
  obtain ⟨n1, n2, n3, n4, n5, n6, n7⟩ := hg.2.2.2.1.1 c hc
  obtain ⟨c1, p1, p2, p3⟩ := n3 (Or.inr (Or.inl h4))
  obtain ⟨c2, p4, p5, p6⟩ := n4 h4
  have hN := hg.2.1
  have hs := hg.1
  intro j
  induction j with
  | zero =>
    intro k m hk
    obtain rfl : k = 256 := (by omega)
    show sb_X11_firstPart_3 (s_X11_firstPart_3 m) 30 (I (c : Nat)) (I (s : Nat)) h (I ((256 : Nat) : Int)) σ = _
    unfold sb_X11_firstPart_3
    rw [if_pos (by decide)]
    rfl
  | succ j ih =>
    intro k m hk
    show sb_X11_firstPart_3 (s_X11_firstPart_3 (m + j + 1)) 30 (I (c : Nat)) (I (s : Nat)) h (I (k : Nat)) σ = _
    unfold sb_X11_firstPart_3
    have ih := ih (k + 1) m (by omega)
    rw [if_neg (by rw [I_lit, I_le (by omega) (by omega)]; omega)]
    unfold fstN
    by_cases c0 : k &&& s = k
    · rw [if_pos ((I_dif0 (by omega)).2 c0), if_pos (hs.o 11 30 (by decide)), hs.p 30 8 35 (by decide), op_eq, if_pos (hs.o 13 35 (by decide)), hs.len 35 64 (by decide), if_pos (inN (by omega) (by omega)), tNI (by omega), p2, hB c1 k p1 (by omega), bd_eq, p3]
      by_cases d1 : B (ch1 ch (κ c)) k = true
      · rw [if_neg (by rw [bI0, d1]; decide), if_pos (hs.o 11 30 (by decide)), hs.p 30 9 36 (by decide), op_eq, if_pos (hs.o 13 36 (by decide)), hs.len 36 64 (by decide), if_pos (inN (by omega) (by omega)), p5, I_dif (by omega) c0, hB c2 (s ^^^ k) p4 (xor_lt hs2 (by omega)), bd_eq, p6]
        by_cases d2 : B (ch2 ch (κ c)) (s ^^^ k) = true
        · rw [if_neg (by rw [bI0, d2]; decide), if_pos (by unfold splt; rw [decide_eq_true c0, d1, d2]; rfl)]
          rfl
        · rw [if_pos (by rw [bI0]; exact Bool.eq_false_iff.2 d2), if_neg (by unfold splt; rw [decide_eq_true c0, d1, Bool.eq_false_iff.2 d2]; decide), I_p1, lt_eq]
          exact ih
      · rw [if_pos (by rw [bI0]; exact Bool.eq_false_iff.2 d1), if_neg (by unfold splt; rw [decide_eq_true c0, Bool.eq_false_iff.2 d1]; exact Bool.false_ne_true), I_p1, lt_eq]
        exact ih
    · rw [if_neg (fun q => c0 ((I_dif0 (by omega)).1 q)), if_neg (by unfold splt; rw [decide_eq_false c0]; exact Bool.false_ne_true), I_p1, lt_eq]
      exact ih
theorem q_firstPart {ch κ : Nat → Nat} {N : Nat} {h : Int32} {B : Nat → Nat → Bool} {σ : St} (hg : GM ch κ N σ) (hB : BM κ N h B σ) {c s : Nat} (hc : c < N) (h4 : ch (κ c) = 40) (hs2 : s < 256) :
    s_X11_firstPart 30 (I (c : Nat)) (I (s : Nat)) h σ = some (fpR (fstN (splt ch B (κ c) s) 256 0), σ) := q_fp3 hg hB hc h4 hs2 256 0 15743 rfl
