/-! the first proof, as a list of numbers -/
def wrS (o : Option Nat) (f : Nat → List Nat) : List Nat := match o with
  | none => []
  | some q => f q
def wrB (ch : Nat → Nat) (W : Nat → Nat → List Nat) (s k : Nat) : List Nat := wrS (fp ch (k / 3) (k % 3)) fun q => if ch (q + 1) = 60 then wrS (afU (k / 3) s) (fun r => W (q + 2) r) else []
def stF (ch : Nat → Nat) (B : Nat → Nat → Bool) (W : Nat → Nat → List Nat) (p s : Nat) : List Nat :=
  if kd ch p = 49 then []
  else if kd ch p = 84 then []
  else if kd ch p = 33 then W (ch1 ch p) s
  else if kd ch p = 42 then wrS (fstN (splt ch B p s) 256 0) (fun q => (200 + q) :: (W (ch1 ch p) q ++ W (ch2 ch p) (s ^^^ q)))
  else if kd ch p = 38 then W (ch1 ch p) s ++ W (ch2 ch p) s
  else if kd ch p = 43 then (if B (ch1 ch p) s = true then 300 :: W (ch1 ch p) s else 301 :: W (ch2 ch p) s)
  else if kd ch p = 91 then W (ch1 ch p) (s ||| 2 ^ ln ch p)
  else wrS (fstN (tol ch B (kd ch p) s) 36 0) (fun k => numK k :: wrB ch W s k)
def wr (ch : Nat → Nat) : Nat → Nat → Nat → List Nat
  | 0 => fun _ _ => []
  | h + 1 => stF ch (Lv ch one h) (wr ch h)
theorem stF_at {ch : Nat → Nat} {B : Nat → Nat → Bool} {W : Nat → Nat → List Nat} {p s : Nat} (h : isAt (kd ch p) = true) : stF ch B W p s = wrS (fstN (tol ch B (kd ch p) s) 36 0) (fun k => numK k :: wrB ch W s k) := by
  rw [isAt_iff] at h
  unfold stF
  rw [if_neg (by omega), if_neg (by omega), if_neg (by omega), if_neg (by omega), if_neg (by omega), if_neg (by omega), if_neg (by omega)]
theorem stF_49 {ch : Nat → Nat} {B : Nat → Nat → Bool} {W : Nat → Nat → List Nat} {p s : Nat} (h : kd ch p = 49) : stF ch B W p s = [] := by unfold stF; rw [if_pos h]
theorem stF_84 {ch : Nat → Nat} {B : Nat → Nat → Bool} {W : Nat → Nat → List Nat} {p s : Nat} (h : kd ch p = 84) : stF ch B W p s = [] := by unfold stF; rw [if_neg (by omega), if_pos h]
theorem stF_33 {ch : Nat → Nat} {B : Nat → Nat → Bool} {W : Nat → Nat → List Nat} {p s : Nat} (h : kd ch p = 33) : stF ch B W p s = W (ch1 ch p) s := by unfold stF; rw [if_neg (by omega), if_neg (by omega), if_pos h]
theorem stF_42 {ch : Nat → Nat} {B : Nat → Nat → Bool} {W : Nat → Nat → List Nat} {p s : Nat} (h : kd ch p = 42) : stF ch B W p s = wrS (fstN (splt ch B p s) 256 0) (fun q => (200 + q) :: (W (ch1 ch p) q ++ W (ch2 ch p) (s ^^^ q))) := by unfold stF; rw [if_neg (by omega), if_neg (by omega), if_neg (by omega), if_pos h]
theorem stF_38 {ch : Nat → Nat} {B : Nat → Nat → Bool} {W : Nat → Nat → List Nat} {p s : Nat} (h : kd ch p = 38) : stF ch B W p s = W (ch1 ch p) s ++ W (ch2 ch p) s := by unfold stF; rw [if_neg (by omega), if_neg (by omega), if_neg (by omega), if_neg (by omega), if_pos h]
theorem stF_43 {ch : Nat → Nat} {B : Nat → Nat → Bool} {W : Nat → Nat → List Nat} {p s : Nat} (h : kd ch p = 43) : stF ch B W p s = if B (ch1 ch p) s = true then 300 :: W (ch1 ch p) s else 301 :: W (ch2 ch p) s := by unfold stF; rw [if_neg (by omega), if_neg (by omega), if_neg (by omega), if_neg (by omega), if_neg (by omega), if_pos h]
theorem stF_91 {ch : Nat → Nat} {B : Nat → Nat → Bool} {W : Nat → Nat → List Nat} {p s : Nat} (h : kd ch p = 91) : stF ch B W p s = W (ch1 ch p) (s ||| 2 ^ ln ch p) := by unfold stF; rw [if_neg (by omega), if_neg (by omega), if_neg (by omega), if_neg (by omega), if_neg (by omega), if_neg (by omega), if_pos h]
theorem wrB_le {ch : Nat → Nat} {W : Nat → Nat → List Nat} {s k : Nat} {Q : List Nat → Prop} (h0 : Q []) (h : ∀ p s, Q (W p s)) : Q (wrB ch W s k) := by
  unfold wrB wrS
  cases fp ch (k / 3) (k % 3) with
  | none => exact h0
  | some q =>
    show Q (if ch (q + 1) = 60 then _ else [])
    split
    · cases afU (k / 3) s with
      | none => exact h0
      | some r => exact h _ _
    · exact h0
theorem wr_len {ch : Nat → Nat} : ∀ {h p s : Nat}, (wr ch h p s).length + 1 ≤ 2 ^ h := by
  intro h
  induction h with
  | zero => intro p s; exact Nat.le_refl 1
  | succ h ih =>
    intro p s
    have hp : 1 ≤ 2 ^ h := Nat.one_le_two_pow
    show (stF ch (Lv ch one h) (wr ch h) p s).length + 1 ≤ 2 ^ (h + 1)
    rw [Nat.pow_succ]
    unfold stF
    split
    · show 0 + 1 ≤ _; omega
    split
    · show 0 + 1 ≤ _; omega
    split
    · have := ih (p := ch1 ch p) (s := s); omega
    split
    · cases fstN (splt ch (Lv ch one h) p s) 256 0 with
      | none => show 0 + 1 ≤ _; omega
      | some q =>
        show ((200 + q) :: (wr ch h (ch1 ch p) q ++ wr ch h (ch2 ch p) (s ^^^ q))).length + 1 ≤ _
        rw [List.length_cons, List.length_append]
        have := ih (p := ch1 ch p) (s := q)
        have := ih (p := ch2 ch p) (s := s ^^^ q)
        omega
    split
    · rw [List.length_append]
      have := ih (p := ch1 ch p) (s := s)
      have := ih (p := ch2 ch p) (s := s)
      omega
    split
    · split
      · rw [List.length_cons]; have := ih (p := ch1 ch p) (s := s); omega
      · rw [List.length_cons]; have := ih (p := ch2 ch p) (s := s); omega
    split
    · have := ih (p := ch1 ch p) (s := s ||| 2 ^ ln ch p); omega
    · cases fstN (tol ch (Lv ch one h) (kd ch p) s) 36 0 with
      | none => show 0 + 1 ≤ _; omega
      | some k =>
        show (numK k :: wrB ch (wr ch h) s k).length + 1 ≤ _
        rw [List.length_cons]
        have : (wrB ch (wr ch h) s k).length + 1 ≤ 2 ^ h := wrB_le (Q := fun l => l.length + 1 ≤ 2 ^ h) (by show 0 + 1 ≤ _; omega) (fun p s => ih)
        omega
theorem wr_num {ch : Nat → Nat} : ∀ {h p s : Nat}, ∀ x ∈ wr ch h p s, x < 500 := by
  intro h
  induction h with
  | zero => intro p s x hx; cases hx
  | succ h ih =>
    intro p s x hx
    change x ∈ stF ch (Lv ch one h) (wr ch h) p s at hx
    unfold stF at hx
    split at hx
    · cases hx
    split at hx
    · cases hx
    split at hx
    · exact ih x hx
    split at hx
    · cases e : fstN (splt ch (Lv ch one h) p s) 256 0 with
      | none => rw [e] at hx; cases hx
      | some q =>
        have hq := (fstN_some e).2.1
        rw [e] at hx
        change x ∈ (200 + q) :: (wr ch h (ch1 ch p) q ++ wr ch h (ch2 ch p) (s ^^^ q)) at hx
        rw [List.mem_cons, List.mem_append] at hx
        rcases hx with hx | hx | hx
        · omega
        · exact ih x hx
        · exact ih x hx
    split at hx
    · rw [List.mem_append] at hx
      exact hx.elim (ih x) (ih x)
    split at hx
    · split at hx
      · rw [List.mem_cons] at hx; exact hx.elim (fun q => by omega) (ih x)
      · rw [List.mem_cons] at hx; exact hx.elim (fun q => by omega) (ih x)
    split at hx
    · exact ih x hx
    · cases e : fstN (tol ch (Lv ch one h) (kd ch p) s) 36 0 with
      | none => rw [e] at hx; cases hx
      | some k =>
        have hq := numK_lt (fst36 k e)
        rw [e] at hx
        change x ∈ numK k :: wrB ch (wr ch h) s k at hx
        rw [List.mem_cons] at hx
        refine hx.elim (fun q => by omega) (fun q => ?_)
        exact wrB_le (Q := fun l => ∀ x ∈ l, x < 500) (fun x q => by cases q) (fun p s => fun x q => ih x q) x q
/-! the class writes it -/
def fpI : Nat → Nat → Prop := fun a k => (a = 25 ∧ k = 3) ∨ a = 26
def FPS (σ : St) (l : List Nat) : Prop := sI σ 25 3 = I (l.length : Nat) ∧ ∀ i v : Nat, l[i]? = some v → sI σ 26 i = I (v : Nat)
def WF (ch κ : Nat → Nat) (N : Nat) (σ : St) : Prop := PG ch κ N σ ∧ Rdy ch κ N σ
theorem WF.fx {ch κ : Nat → Nat} {N : Nat} {σ σ' : St} (h : WF ch κ N σ) (hf : FX fpI noC σ σ') : WF ch κ N σ' :=
  ⟨h.1.fx hf (fun a k h1 h2 q => by unfold fpI at q; omega), h.2.fx h.1.2.1 hf (by unfold fpI; omega) (fun _ q => q)⟩
def KW (ch κ : Nat → Nat) (N h : Nat) (kg : Nat → Int32 → Int32 → Int32 → St → Option (Unit × St)) : Prop := ∀ c s σ l, c < N → s &&& sgl ch = s → WF ch κ N σ → FPS σ l → l.length + 2 ^ h ≤ 1024 →
  ∃ σ', kg 25 (I (c : Nat)) (I (s : Nat)) (I (h : Nat)) σ = some ((), σ') ∧ FX fpI noC σ σ' ∧ FPS σ' (l ++ wr ch h (κ c) s)
theorem q_app {σ : St} (hs : SS σ) {l : List Nat} (h : FPS σ l) (hl : l.length < 1024) (n : Nat) : ∃ σ', s_X0_append 25 (I (n : Nat)) σ = some ((), σ') ∧ FX fpI noC σ σ' ∧ FPS σ' (l ++ [n]) := by
  obtain ⟨h1, h2⟩ := h
  have f1 : FX fpI noC σ (setI σ 26 l.length (I (n : Nat))) := FX.setI 26 _ _ (Or.inr rfl)
  have f2 : FX fpI noC (setI σ 26 l.length (I (n : Nat))) (setI (setI σ 26 l.length (I (n : Nat))) 25 3 (I ((l.length + 1 : Nat) : Int))) := FX.setI 25 3 _ (Or.inl ⟨rfl, rfl⟩)
  refine ⟨_, ?_, f1.trans f2, ?_, fun i v hi => ?_⟩
  · unfold s_X0_append
    rw [if_pos (hs.o 0 25 (by decide)), h1, if_neg (by rw [I_lit, I_lt (by omega) (by omega)]; omega), if_neg (by rw [I_lit, I_le (by omega) (by omega)]; omega), hs.p 25 2 26 (by decide), op_eq, if_pos (hs.o 13 26 (by decide)), hs.len 26 1024 (by decide), if_pos (inN hl (by omega)), tNI (by omega), lt_eq, sIn (by omega), h1, I_p1, lt_eq]
  · rw [sIe, List.length_append]; rfl
  · rw [sIn (by omega)]
    rw [List.getElem?_append] at hi
    by_cases c : i < l.length
    · rw [if_pos c] at hi
      rw [sIn (by omega)]
      exact h2 i v hi
    · rw [if_neg c] at hi
      have : i - l.length = 0 := by
        cases e : i - l.length with
        | zero => rfl
        | succ x => rw [e] at hi; cases hi
      rw [this] at hi
      obtain rfl : n = v := Option.some.inj hi
      rw [show i = l.length by omega, sIe]
theorem fstN_skip {P : Nat → Bool} {a b : Nat} (hab : a ≤ b) (hb : b ≤ 256) (h : ∀ q, a ≤ q → q < b → P q = false) : fstN P (256 - a) a = fstN P (256 - b) b := by
  induction b with
  | zero => obtain rfl : a = 0 := (by omega); rfl
  | succ b ih =>
    by_cases e : a = b + 1
    · rw [e]
    · rw [ih (by omega) (by omega) (fun q h1 h2 => h q h1 (by omega)), show 256 - b = (256 - (b + 1)) + 1 by omega, fstN, if_neg (by rw [h b (by omega) (by omega)]; decide)]
theorem lp_ws (kg : Nat → Int32 → Int32 → Int32 → St → Option (Unit × St)) (n a : Nat) (b c d e f g : Int32) (σ : St) : s_X0_writeSplit_9 kg (n + 1) a b c d e f g σ = sb_X0_writeSplit_9 kg (s_X0_writeSplit_9 kg n) a b c d e f g σ := rfl
theorem ws9 {ch κ : Nat → Nat} {N h c c1 c2 s : Nat} {kg : Nat → Int32 → Int32 → Int32 → St → Option (Unit × St)} (hk : KW ch κ N h kg) (hh : h ≤ 9) (h1 : c1 < N) (h2 : c2 < N) (e1 : κ c1 = ch1 ch (κ c)) (e2 : κ c2 = ch2 ch (κ c)) (hs : s &&& sgl ch = s) {σ : St} {l : List Nat} (hw : WF ch κ N σ) (hf : FPS σ l) (hl : l.length + 2 ^ (h + 1) ≤ 1024) :
    ∀ (j p m : Nat), 256 - p ≤ j → p < 256 → p &&& s = p →
    ∃ σ', s_X0_writeSplit_9 kg (m + j + 1) 25 (I (c1 : Nat)) (I (c2 : Nat)) (I (s : Nat)) (I ((h + 1 : Nat) : Int)) (I (p : Nat)) (I (cntP s (256 - p) p : Nat)) σ = some ((), σ') ∧ FX fpI noC σ σ' ∧
      FPS σ' (l ++ wrS (fstN (splt ch (Lv ch one h) (κ c) s) (256 - p) p) (fun q => (200 + q) :: (wr ch h (ch1 ch (κ c)) q ++ wr ch h (ch2 ch (κ c)) (s ^^^ q)))) := by
  have hs2 := sg_lt hs
  have hss := hw.1.1
  have hN := hw.1.2.1
  have h2h : 2 ^ (h + 1) = 2 ^ h + 2 ^ h := by rw [Nat.pow_succ]; omega
  have hp1 : 1 ≤ 2 ^ h := Nat.one_le_two_pow
  intro j
  induction j with
  | zero => intro p m hj hp; omega
  | succ j ih =>
    intro p m hj hp hps
    have hcl := cntP_le (s := s) (j := 256 - p) (q := p)
    have hno : ∀ q, q &&& s ≠ q → splt ch (Lv ch one h) (κ c) s q = false := fun q hq => by unfold splt; rw [decide_eq_false hq, Bool.false_and]
    have hpg := sub_tr hps hs
    have hxg : (s ^^^ p) &&& sgl ch = s ^^^ p := sub_tr (xor_sub hps) hs
    have hpos : 1 ≤ cntP s (256 - p) p := by rcases part_next hs2 hp hps with ⟨_, a2, _⟩ | ⟨_, _, _, a4, _⟩ <;> omega
    have q1 := Lv_TT hw.1.clo h c1 p h1 hpg
    have q2 := Lv_TT hw.1.clo h c2 (s ^^^ p) h2 hxg
    rw [e1] at q1
    rw [e2] at q2
    have espl : splt ch (Lv ch one h) (κ c) s p = (Lv ch one h (ch1 ch (κ c)) p && Lv ch one h (ch2 ch (κ c)) (s ^^^ p)) := by unfold splt; rw [decide_eq_true hps, Bool.true_and]
    have hnext : splt ch (Lv ch one h) (κ c) s p = false → ∃ σ', s_X0_writeSplit_85 kg (s_X0_writeSplit_9 kg (m + j + 1)) 25 (I (c1 : Nat)) (I (c2 : Nat)) (I (s : Nat)) (I ((h + 1 : Nat) : Int)) (I (p : Nat)) (I (cntP s (256 - p) p : Nat)) σ = some ((), σ') ∧ FX fpI noC σ σ' ∧
        FPS σ' (l ++ wrS (fstN (splt ch (Lv ch one h) (κ c) s) (256 - p) p) (fun q => (200 + q) :: (wr ch h (ch1 ch (κ c)) q ++ wr ch h (ch2 ch (κ c)) (s ^^^ q)))) := by
      intro hf0
      unfold s_X0_writeSplit_85
      rw [q_nextPart hs2 hp, bd_eq, show (-1 : Int32) = I (-1) from rfl, I_add, lt_eq]
      rcases part_next hs2 hp hps with ⟨a1, a2, a3⟩ | ⟨a1, a2, a3, a4, a5⟩
      · have : fstN (splt ch (Lv ch one h) (κ c) s) (256 - p) p = none := by
          rw [fstN_skip (a := p) (b := 256) (by omega) (by omega) (fun q g1 g2 => by
            by_cases e : q = p
            · rw [e]; exact hf0
            · exact hno q (a3 q (by omega) g2))]
          rfl
        rw [a1, a2, lp_ws, this]
        unfold sb_X0_writeSplit_9
        rw [if_pos (by decide)]
        exact ⟨σ, rfl, FX.refl σ, by show FPS σ (l ++ []); rw [List.append_nil]; exact hf⟩
      · rw [a4, show ((1 + cntP s (256 - nxtP p s) (nxtP p s) : Nat) : Int) + -1 = (cntP s (256 - nxtP p s) (nxtP p s) : Nat) by omega, fstN_skip (a := p) (b := nxtP p s) (by omega) (by omega) (fun q g1 g2 => by
            by_cases e : q = p
            · rw [e]; exact hf0
            · exact hno q (a5 q (by omega) g2))]
        exact ih (nxtP p s) m (by omega) a2 a3
    rw [lp_ws]
    unfold sb_X0_writeSplit_9
    rw [if_neg (by rw [I_lit, I_le (by omega) (by omega)]; omega), if_pos (hss.o 0 25 (by decide)), hss.p 25 1 19 (by decide), op_eq, if_pos (hss.o 4 19 (by decide)), I_m1 (by omega), show h + 1 - 1 = h by omega, q_proves hss hN hw.2 h1 hp (by omega), bd_eq]
    unfold LvT
    rw [e1, q1]
    by_cases c0 : Lv ch one h (ch1 ch (κ c)) p = true
    · rw [if_neg (by rw [bI0, c0]; decide), if_pos (hss.o 0 25 (by decide)), hss.p 25 1 19 (by decide), op_eq, if_pos (hss.o 4 19 (by decide)), I_xor, q_proves hss hN hw.2 h2 (sg_lt hxg) (by omega), bd_eq]
      unfold LvT
      rw [e2, q2]
      by_cases c3 : Lv ch one h (ch2 ch (κ c)) (s ^^^ p) = true
      · obtain ⟨σ1, a1, a2, a3⟩ := q_app hss hf (by omega) (200 + p)
        have ea : (200 : Int32) + I (p : Nat) = I ((200 + p : Nat) : Int) := by rw [I_lit, I_add]; rfl
        have hw1 := hw.fx a2
        obtain ⟨σ2, b1, b2, b3⟩ := hk c1 p σ1 _ h1 hpg hw1 a3 (by rw [List.length_append]; show l.length + 1 + _ ≤ _; omega)
        have hlen := wr_len (ch := ch) (h := h) (p := κ c1) (s := p)
        obtain ⟨σ3, d1, d2, d3⟩ := hk c2 (s ^^^ p) σ2 _ h2 hxg (hw1.fx b2) b3 (by rw [List.length_append, List.length_append]; show l.length + 1 + _ + _ ≤ _; omega)
        rw [if_neg (by rw [bI0, c3]; decide), if_pos (hss.o 0 25 (by decide)), ea, a1, bd_eq, if_pos (hw1.1.1.o 0 25 (by decide)), b1, bd_eq, if_pos ((hw1.fx b2).1.1.o 0 25 (by decide)), d1, bd_eq]
        refine ⟨σ3, rfl, (a2.trans b2).trans d2, ?_⟩
        rw [show 256 - p = (256 - (p + 1)) + 1 by omega, fstN, if_pos (by rw [espl, c0, c3]; rfl)]
        show FPS σ3 (l ++ ((200 + p) :: (wr ch h (ch1 ch (κ c)) p ++ wr ch h (ch2 ch (κ c)) (s ^^^ p))))
        rw [← e1, ← e2]
        rw [List.append_assoc, List.append_assoc] at d3
        exact d3
      · rw [if_pos (by rw [bI0]; exact Bool.eq_false_iff.2 c3)]
        exact hnext (by rw [espl, Bool.eq_false_iff.2 c3, Bool.and_false])
    · rw [if_pos (by rw [bI0]; exact Bool.eq_false_iff.2 c0)]
      exact hnext (by rw [espl, Bool.eq_false_iff.2 c0, Bool.false_and])
