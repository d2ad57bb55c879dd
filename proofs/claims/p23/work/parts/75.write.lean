theorem fstN_split {P : Nat → Bool} {b : Nat} : ∀ {a k : Nat}, fstN P (a + b) k = (match fstN P a k with
    | some i => some i
    | none => fstN P b (k + a)) := by
  intro a
  induction a with
  | zero => intro k; rw [Nat.zero_add]; rfl
  | succ a ih =>
    intro k
    rw [show a + 1 + b = (a + b) + 1 by omega, fstN, fstN]
    by_cases c : P k = true
    · rw [if_pos c, if_pos c]
    · rw [if_neg c, if_neg c, ih, show k + 1 + a = k + (a + 1) by omega]
theorem lp_wa21 (kg : Nat → Int32 → Int32 → Int32 → St → Option (Unit × St)) (k3 : Nat → Int32 → Int32 → Int32 → Int32 → St → Option (Unit × St)) (n a : Nat) (b c d e f g : Int32) (σ : St) : s_X0_writeAtom_21 kg k3 (n + 1) a b c d e f g σ = sb_X0_writeAtom_21 kg k3 (s_X0_writeAtom_21 kg k3 n) a b c d e f g σ := rfl
theorem lp_wa3 (kg : Nat → Int32 → Int32 → Int32 → St → Option (Unit × St)) (n a : Nat) (b c d e : Int32) (σ : St) : s_X0_writeAtom_3 kg (n + 1) a b c d e σ = sb_X0_writeAtom_3 kg (s_X0_writeAtom_3 kg n) a b c d e σ := rfl
theorem q_numberOf {o f : Nat} (ho : o < 12) (hf : f < 3) (σ : St) : s_X0_numberOf (I (o : Nat)) (I (f : Nat)) σ = some (I (numK (3 * o + f) : Nat), σ) := by
  unfold s_X0_numberOf numK
  by_cases c : 8 ≤ o
  · rw [if_pos (by rw [I_lit, I_le (by omega) (by omega)]; omega), if_neg (by omega), I_lit, I_lit, I_lit, I_sub, I_mul, I_add, I_add]
    exact congrArg (fun z => some (I z, σ)) (by omega)
  · rw [if_neg (by rw [I_lit, I_le (by omega) (by omega)]; omega), if_pos (by omega), I_lit, I_mul, I_add]
    exact congrArg (fun z => some (I z, σ)) (by omega)
theorem wa21 {ch κ : Nat → Nat} {N h s cc : Nat} {kg : Nat → Int32 → Int32 → Int32 → St → Option (Unit × St)} (hk : KW ch κ N h kg) (hh : h ≤ 9) (hcc : isAt cc = true) (hs : s &&& sgl ch = s) {σ : St} {l : List Nat} (hw : WF ch κ N σ) (hf : FPS σ l) (hl : l.length + 2 ^ (h + 1) ≤ 1024) (k3 : Nat → Int32 → Int32 → Int32 → Int32 → St → Option (Unit × St)) {o : Nat} (ho : o < 12) :
    ∀ (j f m : Nat), f + j = 3 →
    (∃ i σ', fstN (tol ch (Lv ch one h) cc s) j (3 * o + f) = some i ∧ s_X0_writeAtom_21 kg k3 (m + j + 1) 25 (I (cc : Nat)) (I (s : Nat)) (I ((h + 1 : Nat) : Int)) (I (o : Nat)) (aR (afU o s)) (I (f : Nat)) σ = some ((), σ') ∧ FX fpI noC σ σ' ∧ FPS σ' (l ++ (numK i :: wrB ch (wr ch h) s i))) ∨
    (fstN (tol ch (Lv ch one h) cc s) j (3 * o + f) = none ∧ s_X0_writeAtom_21 kg k3 (m + j + 1) 25 (I (cc : Nat)) (I (s : Nat)) (I ((h + 1 : Nat) : Int)) (I (o : Nat)) (aR (afU o s)) (I (f : Nat)) σ = k3 25 (I (cc : Nat)) (I (s : Nat)) (I ((h + 1 : Nat) : Int)) (I ((o + 1 : Nat) : Int)) σ) := by
  have hss := hw.1.1
  have hN := hw.1.2.1
  have h2h : 2 ^ (h + 1) = 2 ^ h + 2 ^ h := by rw [Nat.pow_succ]; omega
  have hp1 : 1 ≤ 2 ^ h := Nat.one_le_two_pow
  intro j
  induction j with
  | zero =>
    intro f m hf3
    obtain rfl : f = 3 := (by omega)
    refine Or.inr ⟨rfl, ?_⟩
    rw [lp_wa21]
    unfold sb_X0_writeAtom_21
    rw [if_pos (by decide), I_p1, lt_eq]
  | succ j ih =>
    intro f m hf3
    have ih := ih (f + 1) m (by omega)
    rw [show 3 * o + (f + 1) = 3 * o + f + 1 by omega] at ih
    rw [lp_wa21]
    unfold sb_X0_writeAtom_21
    rw [if_neg (by rw [I_lit, I_le (by omega) (by omega)]; omega)]
    cases ea : afU o s with
    | none =>
      have hn : ∀ q, 3 * o + f ≤ q → q < 3 * o + 3 → tol ch (Lv ch one h) cc s q = false := fun q g1 g2 => by
        rw [show q = 3 * o + (q - 3 * o) by omega, tol_3 (by omega), ea]
      have hn2 : fstN (tol ch (Lv ch one h) cc s) j (3 * o + f + 1) = none := by
        cases e : fstN (tol ch (Lv ch one h) cc s) j (3 * o + f + 1) with
        | none => rfl
        | some i =>
          obtain ⟨g1, g2, g3, _⟩ := fstN_some e
          rw [hn i (by omega) (by omega)] at g3
          cases g3
      refine Or.inr ⟨?_, ?_⟩
      · rw [fstN, if_neg (by rw [hn _ (by omega) (by omega)]; decide)]; exact hn2
      · rw [show aR none = I (-1) from rfl, if_pos (by decide), I_p1, lt_eq]
    | some r =>
      have hr := afU_sg hs ea
      have hr2 := sg_lt hr
      rw [ea] at ih
      rw [show aR (some r) = I (r : Nat) from rfl] at ih ⊢
      have et : tol ch (Lv ch one h) cc s (3 * o + f) = tolR ch (Lv ch one h) cc o f r := by rw [tol_3 (by omega), ea]
      have hd3 : (3 * o + f) / 3 = o := by omega
      have hm3 : (3 * o + f) % 3 = f := by omega
      rw [if_neg (by rw [show (-1 : Int32) = I (-1) from rfl, I_eq (by omega) (by omega)]; omega), if_pos (hss.o 0 25 (by decide)), hss.p 25 0 13 (by decide), op_eq, if_pos (hss.o 3 13 (by decide)), q_body hw.1 ho (by omega), bd_eq, if_pos (hss.o 0 25 (by decide)), hss.p 25 0 13 (by decide), op_eq, if_pos (hss.o 3 13 (by decide)), q_hasHead hw.1 ho (by omega) hcc, bd_eq]
      by_cases c1 : hdIs ch o f cc = true
      · obtain ⟨q, e, hq⟩ := hdIs_some c1
        have hb := (hw.1.face ho (show f < 3 by omega) e).2
        have etr : tolR ch (Lv ch one h) cc o f r = if ch (q + 1) = 60 then Lv ch one h (q + 2) r else decide (r = 0) := by
          unfold tolR
          rw [e]
          show (decide (ch q = cc) && _) = _
          rw [decide_eq_true hq, Bool.true_and]
        have hserv : s_X0_serves 25 (sI σ 18 (o * 3 + f)) (I (r : Nat)) (I ((h + 1 : Nat) : Int)) σ = some (bI (tolR ch (Lv ch one h) cc o f r), σ) := by
          unfold s_X0_serves
          rw [etr]
          by_cases h6 : ch (q + 1) = 60
          · rw [if_pos h6] at hb ⊢
            obtain ⟨c, b1, b2, b3⟩ := hb
            rw [b2, if_neg (by rw [show (-1 : Int32) = I (-1) from rfl, I_eq (by omega) (by omega)]; omega), if_pos (hss.o 0 25 (by decide)), hss.p 25 1 19 (by decide), op_eq, if_pos (hss.o 4 19 (by decide)), I_m1 (by omega), show h + 1 - 1 = h by omega, q_proves hss hN hw.2 b1 hr2 (by omega), bd_eq, if_pos (zok_bI _)]
            unfold LvT
            rw [Lv_TT hw.1.clo h c r b1 hr, b3]
          · rw [if_neg h6] at hb ⊢
            rw [hb, if_pos (by decide)]
            by_cases c0 : r = 0
            · rw [if_pos ((I_z (by omega)).2 c0), decide_eq_true c0]; rfl
            · rw [if_neg (fun q => c0 ((I_z (by omega)).1 q)), decide_eq_false c0]; rfl
        rw [if_neg (by rw [bI0, c1]; decide), if_pos (hss.o 0 25 (by decide)), hserv, bd_eq]
        by_cases c2 : tolR ch (Lv ch one h) cc o f r = true
        · obtain ⟨σ1, a1, a2, a3⟩ := q_app hss hf (by omega) (numK (3 * o + f))
          have hw1 := hw.fx a2
          rw [if_neg (by rw [bI0, c2]; decide), q_numberOf ho (by omega), bd_eq, if_pos (hss.o 0 25 (by decide)), a1, bd_eq, fstN, if_pos (show tol ch (Lv ch one h) cc s (3 * o + f) = true by rw [et]; exact c2)]
          refine Or.inl ⟨3 * o + f, ?_⟩
          by_cases h6 : ch (q + 1) = 60
          · rw [if_pos h6] at hb
            obtain ⟨c, b1, b2, b3⟩ := hb
            obtain ⟨σ2, d1, d2, d3⟩ := hk c r σ1 _ b1 hr hw1 a3 (by rw [List.length_append]; show l.length + 1 + _ ≤ _; omega)
            rw [b2, if_neg (by rw [show (-1 : Int32) = I (-1) from rfl, I_eq (by omega) (by omega)]; omega), if_pos (hw1.1.1.o 0 25 (by decide)), I_m1 (by omega), show h + 1 - 1 = h by omega, d1, bd_eq]
            refine ⟨σ2, rfl, rfl, a2.trans d2, ?_⟩
            unfold wrB
            rw [hd3, hm3, e]
            show FPS σ2 (l ++ (numK (3 * o + f) :: if ch (q + 1) = 60 then wrS (afU o s) (fun r => wr ch h (q + 2) r) else []))
            rw [if_pos h6, ea]
            show FPS σ2 (l ++ (numK (3 * o + f) :: wr ch h (q + 2) r))
            rw [← b3]
            rw [List.append_assoc] at d3
            exact d3
          · rw [if_neg h6] at hb
            rw [hb, if_pos (by decide)]
            refine ⟨σ1, rfl, rfl, a2, ?_⟩
            unfold wrB
            rw [hd3, hm3, e]
            show FPS σ1 (l ++ (numK (3 * o + f) :: if ch (q + 1) = 60 then wrS (afU o s) (fun r => wr ch h (q + 2) r) else []))
            rw [if_neg h6]
            exact a3
        · rw [if_pos (by rw [bI0]; exact Bool.eq_false_iff.2 c2), I_p1, lt_eq, fstN, if_neg (show ¬ tol ch (Lv ch one h) cc s (3 * o + f) = true by rw [et]; exact c2)]
          exact ih
      · have c1' := Bool.eq_false_iff.2 c1
        rw [if_pos (by rw [bI0]; exact c1'), I_p1, lt_eq, fstN, if_neg (show ¬ tol ch (Lv ch one h) cc s (3 * o + f) = true by rw [tol_no (by omega) c1']; decide)]
        exact ih
theorem wa3 {ch κ : Nat → Nat} {N h s cc : Nat} {kg : Nat → Int32 → Int32 → Int32 → St → Option (Unit × St)} (hk : KW ch κ N h kg) (hh : h ≤ 9) (hcc : isAt cc = true) (hs : s &&& sgl ch = s) {σ : St} {l : List Nat} (hw : WF ch κ N σ) (hf : FPS σ l) (hl : l.length + 2 ^ (h + 1) ≤ 1024) :
    ∀ (j o m : Nat), o + j = 12 → ∃ σ', s_X0_writeAtom_3 kg (m + j + 1) 25 (I (cc : Nat)) (I (s : Nat)) (I ((h + 1 : Nat) : Int)) (I (o : Nat)) σ = some ((), σ') ∧ FX fpI noC σ σ' ∧
      FPS σ' (l ++ wrS (fstN (tol ch (Lv ch one h) cc s) (3 * j) (3 * o)) (fun k => numK k :: wrB ch (wr ch h) s k)) := by
  have hs2 := sg_lt hs
  intro j
  induction j with
  | zero =>
    intro o m ho
    obtain rfl : o = 12 := (by omega)
    refine ⟨σ, ?_, FX.refl σ, by show FPS σ (l ++ []); rw [List.append_nil]; exact hf⟩
    rw [lp_wa3]
    unfold sb_X0_writeAtom_3
    rw [if_pos (by decide)]
  | succ j ih =>
    intro o m ho
    rw [lp_wa3]
    unfold sb_X0_writeAtom_3
    rw [if_neg (by rw [I_lit, I_le (by omega) (by omega)]; omega), q_afterUse (by omega) (by omega), bd_eq, show 3 * (j + 1) = 3 + 3 * j by omega, fstN_split]
    rcases wa21 hk hh hcc hs hw hf hl (s_X0_writeAtom_3 kg (m + j + 1)) (show o < 12 by omega) 3 0 15996 rfl with ⟨i, σ', a1, a2, a3, a4⟩ | ⟨a1, a2⟩
    · rw [Nat.add_zero] at a1
      rw [a1]
      exact ⟨σ', a2, a3, a4⟩
    · rw [Nat.add_zero] at a1
      rw [a1]
      obtain ⟨σ', b1, b2, b3⟩ := ih (o + 1) m (by omega)
      exact ⟨σ', a2.trans b1, b2, b3⟩
theorem write_0 {ch κ : Nat → Nat} {N F : Nat} : KW ch κ N 0 (s_X0_write (F + 1)) := by
  intro c s σ l hc hs hw hf hl
  refine ⟨σ, ?_, FX.refl σ, by show FPS σ (l ++ []); rw [List.append_nil]; exact hf⟩
  show sc_X0_write (s_X0_write F) 25 (I (c : Nat)) (I (s : Nat)) (I ((0 : Nat) : Int)) σ = _
  unfold sc_X0_write
  rw [if_neg (by decide)]
theorem write_s {ch κ : Nat → Nat} {N h F : Nat} (hh : h ≤ 9) (hk : KW ch κ N h (s_X0_write F)) : KW ch κ N (h + 1) (s_X0_write (F + 1)) := by
  intro c s σ l hc hs hw hf hl
  have hg := hw.1
  have hss := hg.1
  have hN := hg.2.1
  have hs2 := sg_lt hs
  have ho := hss.o 0 25 (by decide)
  have hh1 : h + 1 - 1 = h := by omega
  have h2h : 2 ^ (h + 1) = 2 ^ h + 2 ^ h := by rw [Nat.pow_succ]; omega
  have hp1 : 1 ≤ 2 ^ h := Nat.one_le_two_pow
  show ∃ σ', sc_X0_write (s_X0_write F) 25 (I (c : Nat)) (I (s : Nat)) (I ((h + 1 : Nat) : Int)) σ = _ ∧ _ ∧ FPS σ' (l ++ stF ch (Lv ch one h) (wr ch h) (κ c) s)
  unfold sc_X0_write
  rw [if_pos (by rw [I_lit, I_lt (by omega) (by omega)]; omega), if_pos ho, hss.p 25 0 13 (by decide), op_eq, if_pos (hss.o 3 13 (by decide)), q_first hg hc, bd_eq, if_pos ho, hss.p 25 0 13 (by decide), op_eq, if_pos (hss.o 3 13 (by decide)), q_second hg hc, bd_eq, if_pos ho, hss.p 25 0 13 (by decide), op_eq, if_pos (hss.o 3 13 (by decide)), q_kind hg hc, bd_eq]
  rcases hg.clo.kinds hc with ⟨ka, kc⟩ | hk' | hk' | ⟨hk', kc⟩ | ⟨hk', kc⟩ | ⟨hk', kc⟩
  · have ka' := isAt_iff.1 ka
    rw [if_neg (by rw [I_lit, I_eq (by omega) (by omega)]; omega), if_neg (by rw [I_lit, I_eq (by omega) (by omega)]; omega), if_neg (by rw [I_lit, I_eq (by omega) (by omega)]; omega), if_neg (by rw [I_lit, I_eq (by omega) (by omega)]; omega), if_neg (by rw [I_lit, I_eq (by omega) (by omega)]; omega), if_neg (by rw [I_lit, I_eq (by omega) (by omega)]; omega), if_neg (by rw [I_lit, I_eq (by omega) (by omega)]; omega), if_pos ho]
    obtain ⟨σ1, a1, a2, a3⟩ := wa3 hk hh ka hs hw hf hl 12 0 15987 rfl
    have a1' : s_X0_writeAtom (s_X0_write F) 25 (I (kd ch (κ c) : Nat)) (I (s : Nat)) (I ((h + 1 : Nat) : Int)) σ = _ := a1
    rw [a1', bd_eq, stF_at ka]
    exact ⟨σ1, rfl, a2, a3⟩
  · rw [hk', if_neg (by decide), if_neg (by decide), if_neg (by decide), if_neg (by decide), if_pos (by decide), stF_49 hk', List.append_nil]
    exact ⟨σ, rfl, FX.refl σ, hf⟩
  · rw [hk', if_neg (by decide), if_neg (by decide), if_neg (by decide), if_neg (by decide), if_neg (by decide), if_pos (by decide), stF_84 hk', List.append_nil]
    exact ⟨σ, rfl, FX.refl σ, hf⟩
  · obtain ⟨c1, p1, p2, p3⟩ := hg.one hc (Or.inl kc)
    obtain ⟨σ1, a1, a2, a3⟩ := hk c1 s σ l p1 hs hw hf (by omega)
    rw [hk', if_pos (by decide), if_pos ho, I_m1 (by omega), hh1, p2, a1, bd_eq, stF_33 hk', ← p3]
    exact ⟨σ1, rfl, a2, a3⟩
  · obtain ⟨c1, p1, p2, p3⟩ := hg.one hc (Or.inr (Or.inl kc))
    obtain ⟨c2, p4, p5, p6⟩ := hg.two hc kc
    rw [p2, p5]
    rcases hk' with hk' | hk' | hk'
    · obtain ⟨σ1, a1, a2, a3⟩ := ws9 hk hh p1 p4 p3 p6 hs hw hf hl 256 0 15743 (by omega) (by omega) (Nat.zero_and s)
      rw [hk', if_neg (by decide), if_neg (by decide), if_pos (by decide), if_pos ho, stF_42 hk']
      unfold s_X0_writeSplit
      rw [q_partsOf hs2, bd_eq, show s_X0_writeSplit_9 (s_X0_write F) 16000 25 (I (c1 : Nat)) (I (c2 : Nat)) (I (s : Nat)) (I ((h + 1 : Nat) : Int)) 0 (I (cntP s 256 0 : Nat)) σ = some ((), σ1) from a1, bd_eq]
      exact ⟨σ1, rfl, a2, a3⟩
    · obtain ⟨σ1, a1, a2, a3⟩ := hk c1 s σ l p1 hs hw hf (by omega)
      have hlen := wr_len (ch := ch) (h := h) (p := κ c1) (s := s)
      obtain ⟨σ2, b1, b2, b3⟩ := hk c2 s σ1 _ p4 hs (hw.fx a2) a3 (by rw [List.length_append]; omega)
      rw [hk', if_neg (by decide), if_pos (by decide), if_pos ho, I_m1 (by omega), hh1, a1, bd_eq, if_pos ((hw.fx a2).1.1.o 0 25 (by decide)), b1, bd_eq, stF_38 hk', ← p3, ← p6, ← List.append_assoc]
      exact ⟨σ2, rfl, a2.trans b2, b3⟩
    · rw [hk', if_neg (by decide), if_neg (by decide), if_neg (by decide), if_pos (by decide), if_pos ho, stF_43 hk']
      unfold s_X0_writeChoice
      rw [if_pos ho, hss.p 25 1 19 (by decide), op_eq, if_pos (hss.o 4 19 (by decide)), I_m1 (by omega), hh1, q_proves hss hN hw.2 p1 hs2 (by omega), bd_eq]
      unfold LvT
      rw [Lv_TT hg.clo h c1 s p1 hs, p3]
      by_cases c0 : Lv ch one h (ch1 ch (κ c)) s = true
      · obtain ⟨σ1, a1, a2, a3⟩ := q_app hss hf (by omega) 300
        obtain ⟨σ2, b1, b2, b3⟩ := hk c1 s σ1 _ p1 hs (hw.fx a2) a3 (by rw [List.length_append]; show l.length + 1 + _ ≤ _; omega)
        rw [if_neg (by rw [bI0, c0]; decide), if_pos ho, show (300 : Int32) = I ((300 : Nat) : Int) from rfl, a1, bd_eq, if_pos ((hw.fx a2).1.1.o 0 25 (by decide)), b1, bd_eq, if_pos c0, bd_eq]
        refine ⟨σ2, rfl, a2.trans b2, ?_⟩
        rw [List.append_assoc] at b3
        rw [← p3]
        exact b3
      · obtain ⟨σ1, a1, a2, a3⟩ := q_app hss hf (by omega) 301
        obtain ⟨σ2, b1, b2, b3⟩ := hk c2 s σ1 _ p4 hs (hw.fx a2) a3 (by rw [List.length_append]; show l.length + 1 + _ ≤ _; omega)
        rw [if_pos (by rw [bI0]; exact Bool.eq_false_iff.2 c0), if_pos ho, show (301 : Int32) = I ((301 : Nat) : Int) from rfl, a1, bd_eq, if_pos ((hw.fx a2).1.1.o 0 25 (by decide)), b1, bd_eq, if_neg c0, bd_eq]
        refine ⟨σ2, rfl, a2.trans b2, ?_⟩
        rw [List.append_assoc] at b3
        rw [← p6]
        exact b3
  · obtain ⟨c1, p1, p2, p3⟩ := hg.one hc (Or.inr (Or.inr kc))
    obtain ⟨p4, p5, p6⟩ := hg.loan hc kc
    obtain ⟨σ1, a1, a2, a3⟩ := hk c1 (s ||| 2 ^ ln ch (κ c)) σ l p1 ((SC_sgl hg.clo).2 c s hc kc hs) hw hf (by omega)
    rw [hk', if_neg (by decide), if_neg (by decide), if_neg (by decide), if_neg (by decide), if_neg (by decide), if_neg (by decide), if_pos (by decide), if_pos ho, hss.p 25 0 13 (by decide), op_eq, if_pos (hss.o 3 13 (by decide)), q_loanBit hg hc kc, bd_eq, if_pos ho, I_or, I_m1 (by omega), hh1, p2, a1, bd_eq, stF_91 hk', ← p3]
    exact ⟨σ1, rfl, a2, a3⟩
theorem q_write {ch κ : Nat → Nat} {N : Nat} : ∀ (h F : Nat), h < F → h ≤ 10 → KW ch κ N h (s_X0_write F) := by
  intro h
  induction h with
  | zero =>
    intro F hF _
    obtain ⟨F, rfl⟩ : ∃ G, F = G + 1 := ⟨F - 1, by omega⟩
    exact write_0
  | succ h ih =>
    intro F hF hh
    obtain ⟨F, rfl⟩ : ∃ G, F = G + 1 := ⟨F - 1, by omega⟩
    exact write_s (by omega) (ih F (by omega) (by omega))
