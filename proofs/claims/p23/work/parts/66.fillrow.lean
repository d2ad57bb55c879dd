theorem unF_splt {ch κ : Nat → Nat} {B : Nat → Nat → Bool} {σ : St} {c c1 c2 r1 r2 u : Nat} (hu : u < 256) (h1 : ∀ s, s < 256 → rb σ r1 s = B (κ c1) s) (h2 : ∀ s, s < 256 → rb σ r2 s = B (κ c2) s) (e1 : κ c1 = ch1 ch (κ c)) (e2 : κ c2 = ch2 ch (κ c)) :
    (fstN (unF (rb σ r1) (rb σ r2) u) 256 0).isSome = (fstN (splt ch B (κ c) u) 256 0).isSome := by
  refine congrArg Option.isSome (fstN_congr (fun q _ hq => ?_))
  unfold unF splt
  rw [h1 q (by omega), h2 _ (xor_lt hu (by omega)), e1, e2]
theorem zero_mv {f : Nat → Bool} {u : Nat} : mvF f 0 u = f u := by
  unfold mvF
  rw [Nat.zero_and, decide_eq_true rfl, Nat.xor_zero, Bool.true_and]
theorem q_fillRow {ch κ : Nat → Nat} {N h c : Nat} {B : Nat → Nat → Bool} (hh : h ≤ 9) (hc : c < N) {σ : St} (hg : PG ch κ N σ) (hA : Apt σ) (hT : Als σ (TT ch)) (hR : RS κ N h B σ) :
    ∃ σ', s_X4_fillRow 19 (I (c : Nat)) (I ((h + 1 : Nat) : Int)) σ = some ((), σ') ∧ FX noC (rwL (rwN c (h + 1))) σ σ' ∧ ∀ u, u < 256 → rb σ' (rwN c (h + 1)) u = stp ch (TT ch) B (κ c) u := by
  have hs := hg.1
  have hN := hg.2.1
  have hto := rwN_le (show c < 60 by omega) (show h + 1 ≤ 10 by omega)
  have hrow : ∀ c1, c1 < N → rwN c1 h + 4 ≤ 2640 ∧ (rwN c1 h + 4 ≤ rwN c (h + 1)) := fun c1 h1 => by unfold rwN; omega
  obtain ⟨v1, hv1⟩ := rowOf_ex (sI σ 15 c) (I (h : Nat)) σ
  obtain ⟨v2, hv2⟩ := rowOf_ex (sI σ 16 c) (I (h : Nat)) σ
  have k1 : ∀ c1 : Nat, c1 < N → sI σ 15 c = I (c1 : Nat) → v1 = I (rwN c1 h : Nat) := fun c1 h1 h2 => by
    rw [h2, q_row (by omega) (by omega)] at hv1
    exact (congrArg Prod.fst (Option.some.inj hv1)).symm
  have k2 : ∀ c1 : Nat, c1 < N → sI σ 16 c = I (c1 : Nat) → v2 = I (rwN c1 h : Nat) := fun c1 h1 h2 => by
    rw [h2, q_row (by omega) (by omega)] at hv2
    exact (congrArg Prod.fst (Option.some.inj hv2)).symm
  obtain ⟨σ1, a1, a2, a3⟩ := q_clearRow hto hs
  have hs1 := a2.ss hs
  have hg1 : PG ch κ N σ1 := hg.fx a2 (fun _ _ _ _ q => q)
  have hA1 := hA.fx a2 (fun k => by unfold rwL; omega)
  have hT1 := hT.fx a2 (fun k => by unfold rwL; omega)
  have hR1 := hR.up hN a2
  have ho := hs.o 4 19 (by decide)
  have ho1 := hs1.o 4 19 (by decide)
  have hh1 : h + 1 - 1 = h := by omega
  unfold s_X4_fillRow
  rw [q_row (by omega) (by omega), bd_eq, if_pos ho, hs.p 19 0 13 (by decide), op_eq, if_pos (hs.o 3 13 (by decide)), q_first hg hc, bd_eq, I_m1 (by omega), hh1, hv1, bd_eq, if_pos ho, hs.p 19 0 13 (by decide), op_eq, if_pos (hs.o 3 13 (by decide)), q_second hg hc, bd_eq, hv2, bd_eq, if_pos ho, a1, bd_eq, if_pos ho1, hs1.p 19 0 13 (by decide), op_eq, if_pos (hs1.o 3 13 (by decide)), q_kind hg1 hc, bd_eq]
  rcases hg.clo.kinds hc with ⟨ka, kc⟩ | hk | hk | ⟨hk, kc⟩ | ⟨hk, kc⟩ | ⟨hk, kc⟩
  · have ka' := isAt_iff.1 ka
    rw [if_neg (by rw [I_lit, I_eq (by omega) (by omega)]; omega), if_neg (by rw [I_lit, I_eq (by omega) (by omega)]; omega), if_neg (by rw [I_lit, I_eq (by omega) (by omega)]; omega), if_neg (by rw [I_lit, I_eq (by omega) (by omega)]; omega), if_neg (by rw [I_lit, I_eq (by omega) (by omega)]; omega), if_neg (by rw [I_lit, I_eq (by omega) (by omega)]; omega), if_neg (by rw [I_lit, I_eq (by omega) (by omega)]; omega), if_pos ho1]
    obtain ⟨σ2, b1, b2, b3⟩ := q_addAtom hh (show c < 60 by omega) ka hg1 hA1 hR1 a3
    rw [b1, bd_eq]
    exact ⟨σ2, rfl, a2.trans b2, fun u hu => by rw [b3 u hu, stp_at ka]⟩
  · obtain ⟨σ2, b1, b2, b3⟩ := q_add1 hs1 hto (show 0 < 256 by omega)
    rw [hk, if_neg (by decide), if_neg (by decide), if_neg (by decide), if_neg (by decide), if_pos (by decide), if_pos ho1, show (0 : Int32) = I ((0 : Nat) : Int) from rfl, b1, bd_eq]
    exact ⟨σ2, rfl, a2.trans b2, fun u hu => by rw [b3 u hu, a3 u hu, stp_49 hk, Bool.false_or]⟩
  · obtain ⟨σ2, b1, b2, b3⟩ := q_addAll hto hs1 hT1
    rw [hk, if_neg (by decide), if_neg (by decide), if_neg (by decide), if_neg (by decide), if_neg (by decide), if_pos (by decide), if_pos ho1, b1, bd_eq]
    exact ⟨σ2, rfl, a2.trans b2, fun u hu => by rw [b3 u hu, a3 u hu, stp_84 hk, Bool.false_or]⟩
  · obtain ⟨c1, p1, p2, p3⟩ := hg.one hc (Or.inl kc)
    rw [hk, if_pos (by decide), if_pos ho1, k1 c1 p1 p2, show (0 : Int32) = I ((0 : Nat) : Int) from rfl, q_has hs1 (hrow c1 p1).1 (by omega), bd_eq, hR1 c1 0 p1 (by omega), p3]
    cases e : B (ch1 ch (κ c)) 0 with
    | false =>
      rw [if_pos (by decide)]
      exact ⟨σ1, rfl, a2, fun u hu => by rw [a3 u hu, stp_33 hk, e, Bool.and_false]⟩
    | true =>
      obtain ⟨σ2, b1, b2, b3⟩ := q_add1 hs1 hto (show 0 < 256 by omega)
      rw [if_neg (by decide), if_pos ho1, b1, bd_eq]
      exact ⟨σ2, rfl, a2.trans b2, fun u hu => by rw [b3 u hu, a3 u hu, stp_33 hk, e, Bool.and_true, Bool.false_or]⟩
  · obtain ⟨c1, p1, p2, p3⟩ := hg.one hc (Or.inr (Or.inl kc))
    obtain ⟨c2, p4, p5, p6⟩ := hg.two hc kc
    rw [k1 c1 p1 p2, k2 c2 p4 p5]
    rcases hk with hk | hk | hk
    · obtain ⟨σ2, b1, b2, b3⟩ := q_unions hto (hrow c1 p1).1 (hrow c2 p4).1 (Or.inl (hrow c1 p1).2) (Or.inl (hrow c2 p4).2) hs1 hA1
      rw [hk, if_neg (by decide), if_neg (by decide), if_pos (by decide), if_pos ho1, b1, bd_eq]
      exact ⟨σ2, rfl, a2.trans b2, fun u hu => by rw [b3 u hu, a3 u hu, stp_42 hk, Bool.false_or, unF_splt hu (fun s hs => hR1 c1 s p1 hs) (fun s hs => hR1 c2 s p4 hs) p3 p6]⟩
    · obtain ⟨σ2, b1, b2, b3⟩ := q_shared hto (hrow c1 p1).1 (hrow c2 p4).1 (Or.inl (hrow c1 p1).2) (Or.inl (hrow c2 p4).2) hs1
      rw [hk, if_neg (by decide), if_pos (by decide), if_pos ho1, b1, bd_eq]
      exact ⟨σ2, rfl, a2.trans b2, fun u hu => by rw [b3 u hu, a3 u hu, stp_38 hk, Bool.false_or, hR1 c1 u p1 hu, hR1 c2 u p4 hu, p3, p6]⟩
    · obtain ⟨σ2, b1, b2, b3⟩ := q_moved hto (hrow c1 p1).1 (Or.inl (hrow c1 p1).2) (show 0 < 256 by omega) hs1 hA1
      have hs2 := b2.ss hs1
      obtain ⟨σ3, d1, d2, d3⟩ := q_moved hto (hrow c2 p4).1 (Or.inl (hrow c2 p4).2) (show 0 < 256 by omega) hs2 (hA1.fx b2 (fun k => by unfold rwL; omega))
      rw [hk, if_neg (by decide), if_neg (by decide), if_neg (by decide), if_pos (by decide), if_pos ho1, show (0 : Int32) = I ((0 : Nat) : Int) from rfl, b1, bd_eq, if_pos (hs2.o 4 19 (by decide)), d1, bd_eq]
      exact ⟨σ3, rfl, (a2.trans b2).trans d2, fun u hu => by rw [d3 u hu, b3 u hu, a3 u hu, stp_43 hk, Bool.false_or, zero_mv, zero_mv, hR1 c1 u p1 hu, (hR1.up hN b2) c2 u p4 hu, p3, p6]⟩
  · obtain ⟨c1, p1, p2, p3⟩ := hg.one hc (Or.inr (Or.inr kc))
    obtain ⟨p4, p5, p6⟩ := hg.loan hc kc
    obtain ⟨σ2, b1, b2, b3⟩ := q_reduced hto (hrow c1 p1).1 (Or.inl (hrow c1 p1).2) (pow8 p5) hs1 hA1
    rw [hk, if_neg (by decide), if_neg (by decide), if_neg (by decide), if_neg (by decide), if_neg (by decide), if_neg (by decide), if_pos (by decide), if_pos ho1, hs1.p 19 0 13 (by decide), op_eq, if_pos (hs1.o 3 13 (by decide)), q_loanBit hg1 hc kc, bd_eq, if_pos ho1, k1 c1 p1 p2, b1, bd_eq]
    refine ⟨σ2, rfl, a2.trans b2, fun u hu => ?_⟩
    rw [b3 u hu, a3 u hu, stp_91 hk, Bool.false_or]
    unfold mrF
    rw [dis_bit, hR1 c1 _ p1 (or_lt hu (pow8 p5)), p3]
