theorem visit_0 {ch κ : Nat → Nat} {N F : Nat} {t : List Nat} : VK ch κ N t 0 (s_X2_visit (F + 1)) := by
  intro c s u dp σ hc hs2 hu hd hx hj
  obtain ⟨a1, a2⟩ := hj.v 1
  refine ⟨_, ?_, a2, a1⟩
  show sc_X2_visit (s_X2_visit F) 29 (I (c : Nat)) (I (s : Nat)) (I ((13 : Nat) : Int)) σ = _
  unfold sc_X2_visit
  rw [if_pos (hx.1.1.o 2 29 (by decide)), hj.1, if_pos (show I ((0 : Nat) : Int) = 0 from rfl), if_neg (by decide), lt_eq]
  rfl
theorem visit_s {ch κ : Nat → Nat} {N F r : Nat} {t : List Nat} (htk : Tok t) (hr : r ≤ 11) (hk : VK ch κ N t r (s_X2_visit F)) (hz : VZ (s_X2_visit F)) : VK ch κ N t (r + 1) (s_X2_visit (F + 1)) := by
  intro c s u dp σ hc hs2 hu hd hx hj
  have ho := hx.1.1.o 2 29 (by decide)
  obtain ⟨a1, a2⟩ := hj.d (max dp (12 - r))
  have hx1 := hx.fx a2
  have hd1 : max dp (12 - r) ≤ 12 := by omega
  have hj4 : sI σ 29 4 = I (dp : Nat) := hj.2.2
  have emax : (if sI σ 29 4 < I ((12 - r : Nat) : Int) then I ((12 - r : Nat) : Int) else sI σ 29 4) = I ((max dp (12 - r) : Nat) : Int) := by
    rw [hj4]
    by_cases c1 : dp < 12 - r
    · rw [if_pos (by rw [I_lt (by omega) (by omega)]; omega)]; exact congrArg I (by omega)
    · rw [if_neg (by rw [I_lt (by omega) (by omega)]; omega)]; exact congrArg I (by omega)
  show ∃ σ', sc_X2_visit (s_X2_visit F) 29 (I (c : Nat)) (I (s : Nat)) (I ((13 - (r + 1) : Nat) : Int)) σ = _ ∧ _ ∧ JS σ' (stV ch t (vis ch t r) (κ c) s u (max dp (12 - r)))
  rw [show 13 - (r + 1) = 12 - r by omega]
  unfold sc_X2_visit
  rw [if_pos ho, hj.1, if_pos (show I ((0 : Nat) : Int) = 0 from rfl), if_pos (by rw [I_lit, I_le (by omega) (by omega)]; omega), emax, lt_eq, lt_eq]
  have f0 := a2
  generalize setI σ 29 4 (I ((max dp (12 - r) : Nat) : Int)) = τ at *
  generalize max dp (12 - r) = dp1 at *
  have hg := hx1.1
  have hs := hg.1
  have ho1 := hs.o 2 29 (by decide)
  have e13 : I ((12 - r : Nat) : Int) + 1 = I ((13 - r : Nat) : Int) := by rw [I_p1]; exact congrArg I (by omega)
  rw [hs.p 29 0 13 (by decide), op_eq, if_pos (hs.o 3 13 (by decide)), q_kind hg hc, bd_eq]
  rcases hg.clo.kinds hc with ⟨ka, kc⟩ | hk' | hk' | ⟨hk', kc⟩ | ⟨hk', kc⟩ | ⟨hk', kc⟩
  · have ka' := isAt_iff.1 ka
    obtain ⟨σ1, b1, b2, b3⟩ := q_vAtom hk hr htk ka hs2 hu hd1 hx1 a1
    rw [if_neg (by rw [I_lit, I_eq (by omega) (by omega)]; omega), if_neg (by rw [I_lit, I_eq (by omega) (by omega)]; omega), if_neg (by rw [I_lit, I_eq (by omega) (by omega)]; omega), if_neg (by rw [I_lit, I_eq (by omega) (by omega)]; omega), if_neg (by rw [I_lit, I_eq (by omega) (by omega)]; omega), if_neg (by rw [I_lit, I_eq (by omega) (by omega)]; omega), if_neg (by rw [I_lit, I_eq (by omega) (by omega)]; omega), if_pos ho1, b1, bd_eq, stV_at ka]
    exact ⟨σ1, rfl, f0.trans b2, b3⟩
  · rw [hk', if_neg (by decide), if_neg (by decide), if_neg (by decide), if_neg (by decide), if_pos (by decide), if_pos ho1, q_empty hs hs2, stV_49 hk']
    by_cases c0 : s = 0
    · rw [if_pos c0, bd_eq, if_pos c0]
      exact ⟨τ, rfl, f0, a1⟩
    · obtain ⟨b1, b2⟩ := a1.v 4
      rw [if_neg c0, bd_eq, if_neg c0]
      exact ⟨_, rfl, f0.trans b2, b1⟩
  · rw [hk', if_neg (by decide), if_neg (by decide), if_neg (by decide), if_neg (by decide), if_neg (by decide), if_pos (by decide), stV_84 hk']
    exact ⟨τ, rfl, f0, a1⟩
  · rw [hk', if_pos (by decide), if_pos ho1, q_empty hs hs2, stV_33 hk']
    by_cases c0 : s = 0
    · obtain ⟨c1, p1, p2, p3⟩ := hg.one hc (Or.inl kc)
      obtain ⟨σ1, b1, b2, b3⟩ := hk c1 s u dp1 τ p1 hs2 hu hd1 hx1 a1
      rw [if_pos c0, bd_eq, if_pos ho1, hs.p 29 0 13 (by decide), op_eq, if_pos (hs.o 3 13 (by decide)), q_first hg hc, bd_eq, if_pos ho1, e13, p2, b1, bd_eq, if_pos c0]
      rw [p3] at b3
      exact ⟨σ1, rfl, f0.trans b2, b3⟩
    · obtain ⟨b1, b2⟩ := a1.v 4
      have hx2 := hx1.fx b2
      have hs3 := hx2.1.1
      rw [if_neg c0, bd_eq, if_pos (hs3.o 2 29 (by decide)), hs3.p 29 0 13 (by decide), op_eq, if_pos (hs3.o 3 13 (by decide)), q_first hx2.1 hc, bd_eq, if_pos (hs3.o 2 29 (by decide)), hz _ _ _ _ 4 hs3 b1.1 (by omega) (by omega), bd_eq, if_neg c0]
      exact ⟨_, rfl, f0.trans b2, b1⟩
  · rcases hk' with hk' | hk' | hk'
    · obtain ⟨σ1, b1, b2, b3⟩ := q_vSplit hk hz hr htk hc kc hs2 hu hd1 hx1 a1
      rw [hk', if_neg (by decide), if_neg (by decide), if_pos (by decide), if_pos ho1, b1, bd_eq, stV_42 hk']
      exact ⟨σ1, rfl, f0.trans b2, b3⟩
    · obtain ⟨c1, p1, p2, p3⟩ := hg.one hc (Or.inr (Or.inl kc))
      obtain ⟨σ1, b1, b2, b3⟩ := hk c1 s u dp1 τ p1 hs2 hu hd1 hx1 a1
      have hx2 := hx1.fx b2
      have hs3 := hx2.1.1
      obtain ⟨c2, p4, p5, p6⟩ := hx2.1.two hc kc
      obtain ⟨σ2, y1, y2, y3⟩ := vk_sq hk hz p4 hs2 (vis_ok hu hd1) hx2 b3
      rw [hk', if_neg (by decide), if_pos (by decide), if_pos ho1, hs.p 29 0 13 (by decide), op_eq, if_pos (hs.o 3 13 (by decide)), q_first hg hc, bd_eq, if_pos ho1, e13, p2, b1, bd_eq, if_pos (hs3.o 2 29 (by decide)), hs3.p 29 0 13 (by decide), op_eq, if_pos (hs3.o 3 13 (by decide)), q_second hx2.1 hc, bd_eq, if_pos (hs3.o 2 29 (by decide)), p5, y1, bd_eq, stV_38 hk']
      rw [p3, p6] at y3
      exact ⟨σ2, rfl, (f0.trans b2).trans y2, y3⟩
    · obtain ⟨σ1, b1, b2, b3⟩ := q_vChoice hk hr htk hc kc hs2 hu hd1 hx1 a1
      rw [hk', if_neg (by decide), if_neg (by decide), if_neg (by decide), if_pos (by decide), if_pos ho1, b1, bd_eq, stV_43 hk']
      exact ⟨σ1, rfl, f0.trans b2, b3⟩
  · obtain ⟨c1, p1, p2, p3⟩ := hg.one hc (Or.inr (Or.inr kc))
    obtain ⟨p4, p5, p6⟩ := hg.loan hc kc
    have hpos := Nat.two_pow_pos (ln ch (κ c))
    rw [hk', if_neg (by decide), if_neg (by decide), if_neg (by decide), if_neg (by decide), if_neg (by decide), if_neg (by decide), if_pos (by decide), if_pos ho1, stV_91 hk']
    unfold s_X2_visitLoan
    have hlt : 2 ^ ln ch (κ c) < 256 := pow8 p5
    rw [if_pos ho1, hs.p 29 0 13 (by decide), op_eq, if_pos (hs.o 3 13 (by decide)), q_loanBit hg hc kc, bd_eq, I_and, Nat.and_comm]
    by_cases c0 : s.testBit (ln ch (κ c)) = true
    · obtain ⟨b1, b2⟩ := a1.v 5
      rw [bit_sub c0, if_neg (by rw [I_z (by omega)]; omega), if_pos ho1, lt_eq, bd_eq, if_pos c0]
      exact ⟨_, rfl, f0.trans b2, b1⟩
    · have h0 : 2 ^ ln ch (κ c) &&& s = 0 := of_decide_eq_true (by rw [dis_bit, Bool.eq_false_iff.2 c0]; rfl)
      obtain ⟨σ1, b1, b2, b3⟩ := hk c1 (s ||| 2 ^ ln ch (κ c)) u dp1 τ p1 (or_lt hs2 hlt) hu hd1 hx1 a1
      rw [h0, if_pos (by decide), if_pos ho1, hs.p 29 0 13 (by decide), op_eq, if_pos (hs.o 3 13 (by decide)), q_first hg hc, bd_eq, if_pos ho1, e13, I_or, p2, b1, bd_eq, bd_eq, if_neg c0]
      rw [p3] at b3
      exact ⟨σ1, rfl, f0.trans b2, b3⟩
theorem q_visit {ch κ : Nat → Nat} {N : Nat} {t : List Nat} (htk : Tok t) : ∀ (r F : Nat), r < F → r ≤ 12 → VK ch κ N t r (s_X2_visit F) := by
  intro r
  induction r with
  | zero =>
    intro F hF _
    obtain ⟨F, rfl⟩ : ∃ G, F = G + 1 := ⟨F - 1, by omega⟩
    exact visit_0
  | succ r ih =>
    intro F hF hr
    obtain ⟨F, rfl⟩ : ∃ G, F = G + 1 := ⟨F - 1, by omega⟩
    obtain ⟨F, rfl⟩ : ∃ G, F = G + 1 := ⟨F - 1, by omega⟩
    exact visit_s htk (by omega) (ih (F + 1) (by omega) (by omega)) visit_z
/-- the verdict of a check, with what is left -/
def chkV (ch sl : Nat → Nat) (t : List Nat) : VR := vis ch t 12 0 (all5 sl) 0 0
def chkR (ch sl : Nat → Nat) (t : List Nat) : Nat := if (chkV ch sl t).1 = 0 then (if t.length ≤ (chkV ch sl t).2.1 then 0 else 6) else (chkV ch sl t).1
theorem q_judge {ch κ sl : Nat → Nat} {N : Nat} {t : List Nat} (htk : Tok t) {rt : Nat} (hrt : rt < N) (hk0 : κ rt = 0) {σ : St} (hx : VKx ch κ N t σ) (hroot : sI σ 13 7 = I (rt : Nat)) :
    ∃ σ', s_X2_judge 29 (I (all5 sl : Nat)) σ = some ((), σ') ∧ FX jC noC σ σ' ∧ JS σ' (chkR ch sl t, (chkV ch sl t).2.1, (chkV ch sl t).2.2) := by
  have hs := hx.1.1
  have ha := all5_lt sl
  have hl := htk.1
  have f0 : FX jC noC σ (setI (setI (setI σ 29 2 0) 29 3 0) 29 4 0) := ((FX.setI 29 2 _ ⟨rfl, by omega⟩).trans (FX.setI 29 3 _ ⟨rfl, by omega⟩)).trans (FX.setI 29 4 _ ⟨rfl, by omega⟩)
  have j0 : JS (setI (setI (setI σ 29 2 0) 29 3 0) 29 4 0) (0, 0, 0) := ⟨by rw [sIn (by omega), sIn (by omega), sIe]; rfl, by rw [sIn (by omega), sIe]; rfl, by rw [sIe]; rfl⟩
  have hr0 : sI (setI (setI (setI σ 29 2 0) 29 3 0) 29 4 0) 13 7 = I (rt : Nat) := by rw [f0.i 13 7 (by unfold jC; omega)]; exact hroot
  have hx0 := hx.fx f0
  obtain ⟨σ1, a1, a2, a3⟩ := q_visit (ch := ch) (κ := κ) (N := N) htk 12 15 (by omega) (by omega) rt (all5 sl) 0 0 _ hrt (by omega) (Nat.zero_le _) (by omega) hx0 j0
  rw [hk0] at a3
  change JS σ1 (chkV ch sl t) at a3
  have hv := vis_ok (ch := ch) (t := t) (r := 12) (p := 0) (s := all5 sl) (u := 0) (dp := 0) (Nat.zero_le _) (by omega)
  change vok t (chkV ch sl t) at hv
  have hx1 := hx0.fx a2
  have hs1 := hx1.1.1
  unfold s_X2_judge
  have hs0 := hx0.1.1
  have a1' : s_X2_visit 15 29 (I (rt : Nat)) (I (all5 sl : Nat)) 1 (setI (setI (setI σ 29 2 0) 29 3 0) 29 4 0) = some ((), σ1) := a1
  rw [if_pos (hs.o 2 29 (by decide)), lt_eq, lt_eq, lt_eq, hs0.p 29 0 13 (by decide), op_eq, if_pos (hs0.o 3 13 (by decide))]
  unfold s_X3_root
  rw [if_pos (hs0.o 3 13 (by decide)), bd_eq, if_pos (hs0.o 2 29 (by decide)), hr0, a1', bd_eq, if_pos (hs1.o 2 29 (by decide)), a3.1]
  unfold chkR
  obtain ⟨v1, v2, v3⟩ := hv
  by_cases c0 : (chkV ch sl t).1 = 0
  · rw [if_pos ((I_z (by omega)).2 c0), hs1.p 29 1 27 (by decide), op_eq, if_pos (hs1.o 8 27 (by decide))]
    unfold s_X8_length
    rw [if_pos (hs1.o 8 27 (by decide)), bd_eq, hx1.2.1, a3.2.1, if_pos c0]
    by_cases c1 : t.length ≤ (chkV ch sl t).2.1
    · rw [if_pos (by rw [I_le (by omega) (by omega)]; omega), if_pos c1]
      refine ⟨σ1, rfl, f0.trans a2, ?_⟩
      rw [← c0]
      exact a3
    · rw [if_neg (by rw [I_le (by omega) (by omega)]; omega), if_neg c1, if_pos (hs1.o 2 29 (by decide)), lt_eq]
      obtain ⟨b1, b2⟩ := JS.v (σ := σ1) (v := (chkV ch sl t).1) (u := (chkV ch sl t).2.1) (d := (chkV ch sl t).2.2) a3 6
      exact ⟨_, rfl, (f0.trans a2).trans b2, b1⟩
  · rw [if_neg (fun q => c0 ((I_z (by omega)).1 q)), if_neg c0]
    exact ⟨σ1, rfl, f0.trans a2, a3⟩
