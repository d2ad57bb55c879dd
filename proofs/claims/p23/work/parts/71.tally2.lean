theorem inM {i n : Nat} (h : i < n) (hn : n < 2000000) : inR (I (i : Nat)) n = true := by
  rw [inR_I (by omega)]
  simp
  omega
theorem tNM {i : Nat} (h : i < 2000000) : (I (i : Nat)).toNatClampNeg = i := by rw [I_nat (by omega) (by omega)]; omega
theorem q_byKind {ch κ : Nat → Nat} {N S h : Nat} {kg : Nat → Int32 → Int32 → Int32 → St → Option (Int64 × St)} (hk : KG ch κ N S h kg) (hh : h ≤ 9) {c s : Nat} (hc : c < N) (hs : s &&& sgl ch = s) (hl : LvT ch (h + 1) (κ c) s = true) {σ : St} (hcw : CW ch κ N S σ) :
    ∃ σ', s_X9_tallyByKind kg 23 (I (c : Nat)) (I (s : Nat)) (I ((h + 1 : Nat) : Int)) σ = some (L (Wy ch (h + 1) (κ c) s : Nat), σ') ∧ FX noC C24 σ σ' ∧ CW ch κ N S σ' := by
  have hg := hcw.1
  have hss := hg.1
  have hs2 := sg_lt hs
  have ho := hss.o 9 23 (by decide)
  have hh1 : h + 1 - 1 = h := by omega
  change stp ch (TT ch) (LvT ch h) (κ c) s = true at hl
  show ∃ σ', _ = some (L (cap (stW ch (Wy ch h) (κ c) s) : Nat), σ') ∧ _
  unfold s_X9_tallyByKind
  rw [if_pos ho, hss.p 23 0 13 (by decide), op_eq, if_pos (hss.o 3 13 (by decide)), q_first hg hc, bd_eq, if_pos ho, hss.p 23 0 13 (by decide), op_eq, if_pos (hss.o 3 13 (by decide)), q_second hg hc, bd_eq, if_pos ho, hss.p 23 0 13 (by decide), op_eq, if_pos (hss.o 3 13 (by decide)), q_kind hg hc, bd_eq]
  rcases hg.clo.kinds hc with ⟨ka, kc⟩ | hk' | hk' | ⟨hk', kc⟩ | ⟨hk', kc⟩ | ⟨hk', kc⟩
  · have ka' := isAt_iff.1 ka
    rw [if_neg (by rw [I_lit, I_eq (by omega) (by omega)]; omega), if_neg (by rw [I_lit, I_eq (by omega) (by omega)]; omega), if_neg (by rw [I_lit, I_eq (by omega) (by omega)]; omega), if_neg (by rw [I_lit, I_eq (by omega) (by omega)]; omega), if_neg (by rw [I_lit, I_eq (by omega) (by omega)]; omega), if_neg (by rw [I_lit, I_eq (by omega) (by omega)]; omega), if_neg (by rw [I_lit, I_eq (by omega) (by omega)]; omega), if_pos ho]
    obtain ⟨σ1, a1, a2, a3⟩ := ta6 hk hs ka hh 12 0 15987 σ rfl hcw
    have a1' : s_X9_tallyAtom kg 23 (I (kd ch (κ c) : Nat)) (I (s : Nat)) (I ((h + 1 : Nat) : Int)) σ = _ := a1
    rw [a1', bd_eq]
    refine ⟨σ1, ?_, a2, a3⟩
    unfold stW
    rw [if_neg (show ¬ kd ch (κ c) = 49 by omega), if_neg (show ¬ kd ch (κ c) = 84 by omega), if_neg (show ¬ kd ch (κ c) = 33 by omega), if_neg (show ¬ kd ch (κ c) = 42 by omega), if_neg (show ¬ kd ch (κ c) = 38 by omega), if_neg (show ¬ kd ch (κ c) = 43 by omega), if_neg (show ¬ kd ch (κ c) = 91 by omega)]
  · rw [stp_49 hk'] at hl
    have h0 := of_decide_eq_true hl
    rw [hk', if_neg (by decide), if_neg (by decide), if_neg (by decide), if_neg (by decide), if_pos (by decide)]
    refine ⟨σ, ?_, FX.refl σ, hcw⟩
    unfold stW
    rw [hk', if_pos rfl, if_pos h0]
    rfl
  · rw [hk', if_neg (by decide), if_neg (by decide), if_neg (by decide), if_neg (by decide), if_neg (by decide), if_pos (by decide)]
    refine ⟨σ, ?_, FX.refl σ, hcw⟩
    unfold stW
    rw [hk', if_neg (by decide), if_pos rfl]
    rfl
  · obtain ⟨c1, p1, p2, p3⟩ := hg.one hc (Or.inl kc)
    rw [stp_33 hk', Bool.and_eq_true] at hl
    have h0 := of_decide_eq_true hl.1
    obtain ⟨σ1, a1, a2, a3⟩ := hk c1 s σ p1 hs hcw
    rw [hk', if_pos (by decide), if_pos ho, I_m1 (by omega), hh1, p2, a1, bd_eq]
    refine ⟨σ1, ?_, a2, a3⟩
    unfold stW
    rw [hk', if_neg (by decide), if_neg (by decide), if_pos rfl, if_pos h0, ← p3, h0, cap_id Wy_le]
  · obtain ⟨c1, p1, p2, p3⟩ := hg.one hc (Or.inr (Or.inl kc))
    obtain ⟨c2, p4, p5, p6⟩ := hg.two hc kc
    rw [p2, p5]
    rcases hk' with hk' | hk' | hk'
    · obtain ⟨σ1, a1, a2, a3⟩ := q_splits hk hh p1 p4 p3 p6 hs hcw
      rw [hk', if_neg (by decide), if_neg (by decide), if_pos (by decide), if_pos ho, a1, bd_eq]
      refine ⟨σ1, ?_, a2, a3⟩
      unfold stW
      rw [hk', if_neg (by decide), if_neg (by decide), if_neg (by decide), if_pos rfl]
    · obtain ⟨σ1, a1, a2, a3⟩ := hk c1 s σ p1 hs hcw
      obtain ⟨σ2, b1, b2, b3⟩ := hk c2 s σ1 p4 hs a3
      have hm := mul_lt (Wy_le (ch := ch) (h := h) (p := κ c1) (s := s)) (Wy_le (ch := ch) (h := h) (p := κ c2) (s := s))
      have eL : L (Wy ch h (κ c1) s : Nat) * L (Wy ch h (κ c2) s : Nat) = L ((Wy ch h (κ c1) s * Wy ch h (κ c2) s : Nat) : Int) := by rw [L_mul]; rfl
      rw [hk', if_neg (by decide), if_pos (by decide), if_pos ho, I_m1 (by omega), hh1, a1, bd_eq, if_pos (a3.1.1.o 9 23 (by decide)), b1, bd_eq, eL, q_capped (by omega), bd_eq]
      refine ⟨σ2, ?_, a2.trans b2, b3⟩
      unfold stW
      rw [hk', if_neg (by decide), if_neg (by decide), if_neg (by decide), if_neg (by decide), if_pos rfl, ← p3, ← p6]
    · obtain ⟨σ1, a1, a2, a3⟩ := hk c1 s σ p1 hs hcw
      obtain ⟨σ2, b1, b2, b3⟩ := hk c2 s σ1 p4 hs a3
      have w1 := Wy_le (ch := ch) (h := h) (p := κ c1) (s := s)
      have w2 := Wy_le (ch := ch) (h := h) (p := κ c2) (s := s)
      have eL : L (Wy ch h (κ c1) s : Nat) + L (Wy ch h (κ c2) s : Nat) = L ((Wy ch h (κ c1) s + Wy ch h (κ c2) s : Nat) : Int) := by rw [L_add]; rfl
      rw [hk', if_neg (by decide), if_neg (by decide), if_neg (by decide), if_pos (by decide), if_pos ho, I_m1 (by omega), hh1, a1, bd_eq, if_pos (a3.1.1.o 9 23 (by decide)), b1, bd_eq, eL, q_capped (by omega), bd_eq]
      refine ⟨σ2, ?_, a2.trans b2, b3⟩
      unfold stW
      rw [hk', if_neg (by decide), if_neg (by decide), if_neg (by decide), if_neg (by decide), if_neg (by decide), if_pos rfl, ← p3, ← p6]
  · obtain ⟨c1, p1, p2, p3⟩ := hg.one hc (Or.inr (Or.inr kc))
    obtain ⟨p4, p5, p6⟩ := hg.loan hc kc
    rw [stp_91 hk', Bool.and_eq_true] at hl
    have hb : s.testBit (ln ch (κ c)) = false := by
      cases e : s.testBit (ln ch (κ c)) with
      | false => rfl
      | true => rw [e] at hl; exact absurd hl.1 (by decide)
    obtain ⟨σ1, a1, a2, a3⟩ := hk c1 (s ||| 2 ^ ln ch (κ c)) σ p1 ((SC_sgl hg.clo).2 c s hc kc hs) hcw
    rw [hk', if_neg (by decide), if_neg (by decide), if_neg (by decide), if_neg (by decide), if_neg (by decide), if_neg (by decide), if_pos (by decide), if_pos ho, hss.p 23 0 13 (by decide), op_eq, if_pos (hss.o 3 13 (by decide)), q_loanBit hg hc kc, bd_eq, if_pos ho, I_or, I_m1 (by omega), hh1, p2, a1, bd_eq]
    refine ⟨σ1, ?_, a2, a3⟩
    unfold stW
    rw [hk', if_neg (by decide), if_neg (by decide), if_neg (by decide), if_neg (by decide), if_neg (by decide), if_neg (by decide), if_pos rfl, hb, if_neg (by decide), ← p3, cap_id Wy_le]
theorem tally_0 {ch κ : Nat → Nat} {N S F : Nat} : KG ch κ N S 0 (s_X9_tally (F + 1)) := by
  intro c s σ hc hs hcw
  refine ⟨σ, ?_, FX.refl σ, hcw⟩
  show sc_X9_tally (s_X9_tally F) 23 (I (c : Nat)) (I (s : Nat)) (I ((0 : Nat) : Int)) σ = _
  unfold sc_X9_tally
  rw [if_pos (by decide)]
  rfl
theorem tally_s {ch κ : Nat → Nat} {N S h F : Nat} (hh : h ≤ 9) (hk : KG ch κ N S h (s_X9_tally F)) : KG ch κ N S (h + 1) (s_X9_tally (F + 1)) := by
  intro c s σ hc hs hcw
  have hg := hcw.1
  have hss := hg.1
  have hN := hg.2.1
  have hs2 := sg_lt hs
  have ho := hss.o 9 23 (by decide)
  show ∃ σ', sc_X9_tally (s_X9_tally F) 23 (I (c : Nat)) (I (s : Nat)) (I ((h + 1 : Nat) : Int)) σ = _ ∧ _
  unfold sc_X9_tally
  rw [if_neg (by rw [I_lit, I_le (by omega) (by omega)]; omega), if_pos ho, hss.p 23 1 19 (by decide), op_eq, if_pos (hss.o 4 19 (by decide)), q_proves hss hN hcw.2.1 hc hs2 (by omega), bd_eq]
  by_cases c0 : LvT ch (h + 1) (κ c) s = true
  · have eat : I (c : Nat) * 256 + I (s : Nat) = I ((c * 256 + s : Nat) : Int) := by rw [I_lit, I_mul, I_add]; rfl
    have eat2 : I ((c * 256 + s : Nat) : Int) * 10 + I ((h + 1 : Nat) : Int) - 1 = I (((c * 256 + s) * 10 + h : Nat) : Int) := by rw [I_lit, I_lit, I_mul, I_add, I_sub]; exact congrArg I (by omega)
    obtain ⟨w1, w2, w3, w4⟩ := hcw.2.2
    obtain ⟨st, v, x1, x2, x3, x4⟩ := w4 ((c * 256 + s) * 10 + h) (by omega)
    rw [if_neg (by rw [bI0, c0]; decide), eat, eat2, lt_eq, if_neg (by rw [I_lit, I_lt (by omega) (by omega)]; omega), if_pos ho, hss.p 23 2 24 (by decide), op_eq, if_pos (hss.o 14 24 (by decide)), hss.len 24 153600 (by decide), I_nI, if_pos (by rw [I_lt (by omega) (by omega)]; omega), if_pos (inM (by omega) (by omega)), tNM (by omega), x1, L_hi (by omega) x2, w1]
    by_cases c1 : st = S
    · rw [if_pos (by rw [cmp0, c1])]
      unfold s_X9_tally_92
      rw [if_pos ho, hss.p 23 2 24 (by decide), op_eq, if_pos (hss.o 14 24 (by decide)), hss.len 24 153600 (by decide), if_pos (inM (by omega) (by omega)), tNM (by omega), x1, L_lo x2, x4 c1 c s h rfl hc (by omega) hs2 hs]
      exact ⟨σ, rfl, FX.refl σ, hcw⟩
    · rw [if_neg (by rw [cmp0, L_eq (by omega) (by omega)]; omega)]
      obtain ⟨σ1, a1, a2, a3⟩ := q_byKind hk hh hc hs c0 hcw
      have hs1 := a3.1.1
      obtain ⟨y1, y2, y3, y4⟩ := a3.2.2
      have wl := Wy_le (ch := ch) (h := h + 1) (p := κ c) (s := s)
      have f1 : FX noC C24 σ1 (setL σ1 24 ((c * 256 + s) * 10 + h) (L ((4294967296 * S + Wy ch (h + 1) (κ c) s : Nat) : Int))) := FX.setL 24 _ _ rfl
      rw [a1, bd_eq, if_pos (hs1.o 14 24 (by decide)), hs1.len 24 153600 (by decide), if_pos (inM (by omega) (by omega)), L_pk (by omega), lt_eq]
      unfold s_X9_tally_92
      have hs3 := f1.ss hs1
      rw [if_pos (hs3.o 9 23 (by decide)), hs3.p 23 2 24 (by decide), op_eq, if_pos (hs3.o 14 24 (by decide)), hs3.len 24 153600 (by decide), if_pos (inM (by omega) (by omega)), tNM (by omega), sL_L, if_pos ⟨rfl, rfl⟩, L_lo (by omega)]
      refine ⟨_, rfl, a2.trans f1, a3.1.fx f1 (fun _ _ _ _ q => q), a3.2.1.fx hN f1 (fun q => q) (fun k => by unfold C24; omega), ?_, y2, y3, fun i hi => ?_⟩
      · rw [sL_L, if_neg (by omega)]; exact y1
      · rw [sL_L]
        by_cases e : i = (c * 256 + s) * 10 + h
        · rw [if_pos ⟨rfl, e⟩]
          refine ⟨S, Wy ch (h + 1) (κ c) s, rfl, by omega, Nat.le_refl S, fun _ c' s' h' q1 q2 q3 q4 q5 => ?_⟩
          obtain ⟨rfl, rfl, rfl⟩ : c' = c ∧ s' = s ∧ h' = h := by omega
          rfl
        · rw [if_neg (fun q => e q.2)]
          exact y4 i hi
  · rw [if_pos (by rw [bI0]; exact Bool.eq_false_iff.2 c0), Wy_0 (h := h + 1) (by rw [← Lv_TT hg.clo (h + 1) c s hc hs]; exact Bool.eq_false_iff.2 c0)]
    exact ⟨σ, rfl, FX.refl σ, hcw⟩
theorem q_tally {ch κ : Nat → Nat} {N S : Nat} : ∀ (h F : Nat), h < F → h ≤ 10 → KG ch κ N S h (s_X9_tally F) := by
  intro h
  induction h with
  | zero =>
    intro F hF _
    obtain ⟨F, rfl⟩ : ∃ G, F = G + 1 := ⟨F - 1, by omega⟩
    exact tally_0
  | succ h ih =>
    intro F hF hh
    obtain ⟨F, rfl⟩ : ∃ G, F = G + 1 := ⟨F - 1, by omega⟩
    exact tally_s (by omega) (ih F (by omega) (by omega))
