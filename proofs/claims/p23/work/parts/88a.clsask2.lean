/-! the class's answers: ways, first proof, check -/
theorem Pln.fx {ch sl κ : Nat → Nat} {σ σ' : St} {CI CL : Nat → Nat → Prop} (h : Pln ch sl σ κ) (hf : FX CI CL σ σ') (hc : ∀ a k, 13 ≤ a → a ≤ 18 → ¬ CI a k) : Pln ch sl σ' κ := by
  obtain ⟨p1, p2, p3⟩ := h
  exact ⟨by rw [hf.i 13 5 (hc 13 5 (by omega) (by omega))]; exact p1, p2.mv (fun a h1 h2 => funext (fun k => hf.i a k (hc a k (by omega) (by omega)))) rfl, fun q => by obtain ⟨r, r1, r2, r3⟩ := p3 q; exact ⟨r, r1, by rw [hf.i 13 7 (hc 13 7 (by omega) (by omega))]; exact r2, r3⟩⟩
theorem Wmem.fx {ch κ : Nat → Nat} {N S : Nat} {σ σ' : St} {CI CL : Nat → Nat → Prop} (h : Wmem ch κ N S σ) (hf : FX CI CL σ σ') (hc : ∀ a k, a = 23 ∨ a = 24 → ¬ CL a k) : Wmem ch κ N S σ' := by
  obtain ⟨a, b, c, d⟩ := h
  exact ⟨by rw [hf.l 23 3 (hc 23 3 (Or.inl rfl))]; exact a, b, c, fun i hi => by obtain ⟨st, v, q1, q2⟩ := d i hi; exact ⟨st, v, by rw [hf.l 24 i (hc 24 i (Or.inr rfl))]; exact q1, q2⟩⟩
theorem FX.itm {CI CL : Nat → Nat → Prop} {σ σ' : St} (h : FX CI CL σ σ') (hc : ∀ a k, CI a k → a < 30) {arr : Nat} {ch sl : Nat → Nat} (ha : arr < sn σ) (hst : Stk arr ch sl σ) : Stk arr ch sl σ' :=
  (h.gx (CI' := CI) (CL' := CL) (fun _ _ q => q) (fun _ _ q => q)).stk hc ha hst
/-- what the class keeps over a change that touches none of it -/
theorem KR.keep {ch sl κ : Nat → Nat} {S : Nat} {σ σ' : St} {CI CL : Nat → Nat → Prop} (hN : tot (nN ch sl) 99 10 ≤ 60) (h : KR ch sl S κ σ) (hf : FX CI CL σ σ') (h0 : ∀ a k, CI a k → a < 30) (h1 : ∀ a k, 13 ≤ a → a ≤ 19 → ¬ CI a k) (h2 : ¬ CI 1 11) (h3 : ∀ a k, CL a k → a = 24) (hw : Wmem ch κ (tot (nN ch sl) 99 10) S σ') (hp : FPc ch sl σ') : KR ch sl S κ σ' := by
  obtain ⟨⟨a1, a2, a3, a4⟩, a5, a6, a7, a8, a9⟩ := h
  have h54 := a1.1
  exact ⟨⟨hf.ss a1, a2.fx hf (fun k q => by have := h3 _ _ q; omega), a3.fx hf (fun k _ q => by have := h3 _ _ q; omega), hf.itm h0 (by omega) a4⟩, by rw [hf.i 1 11 h2]; exact a5, a6.fx hf (fun a k p q => h1 a k p (by omega)), a7.fx hN hf (h1 19 4 (by omega) (by omega)) (fun k q => by have := h3 _ _ q; omega), hw, hp⟩
theorem FPc.fx {ch sl : Nat → Nat} {σ σ' : St} {CI CL : Nat → Nat → Prop} (h : FPc ch sl σ) (hf : FX CI CL σ σ') (hc : ∀ a k, a = 25 ∨ a = 26 → ¬ CI a k) : FPc ch sl σ' := by
  rcases h with h | ⟨h1, h2, h3, h4⟩
  · exact Or.inl (by rw [hf.i 25 5 (hc _ _ (Or.inl rfl))]; exact h)
  · exact Or.inr ⟨by rw [hf.i 25 5 (hc _ _ (Or.inl rfl))]; exact h1, by rw [hf.i 25 4 (hc _ _ (Or.inl rfl))]; exact h2, by rw [hf.i 25 3 (hc _ _ (Or.inl rfl))]; exact h3, fun i v hi => by rw [hf.i 26 i (hc _ _ (Or.inr rfl))]; exact h4 i v hi⟩
theorem c_ways {ch sl : Nat → Nat} (hg : GI ch sl) {S : Nat} (hS : S < 100000) {σ : St} (hk : K ch sl S σ) {z h : Int} (hz : -2147483648 ≤ z ∧ z < 2147483648) (hh : -2147483648 ≤ h ∧ h < 2147483648) : askC ch sl S σ (s_X10_ways 1 (I z) (I h) σ) (waysA ch sl z h) := by
  obtain ⟨⟨hs, hA, hZ, hst⟩, _⟩ := hk.core
  unfold s_X10_ways waysA
  rw [if_pos (hs.o 10 1 (by decide)), q_isSet hs hst hz, bd_eq]
  by_cases c : isSub z (all5 sl) = true
  · rw [if_neg (by rw [bI0, c]; decide), if_pos c]
    by_cases c1 : h < 0
    · rw [if_pos (by rw [I_lit, I_lt hh (by omega)]; exact c1), if_neg (fun q => by omega)]
      exact askC.now hk
    rw [if_neg (by rw [I_lit, I_lt hh (by omega)]; exact c1)]
    by_cases c2 : 10 < h
    · rw [if_neg (by rw [I_lit, I_le hh (by omega)]; omega), if_neg (fun q => by omega)]
      exact askC.now hk
    rw [if_pos (by rw [I_lit, I_le hh (by omega)]; omega), if_pos (hs.o 10 1 (by decide)), q_hasGoal hs hst, bd_eq, if_pos (show 0 ≤ h ∧ h ≤ 10 from ⟨by omega, by omega⟩)]
    by_cases c0 : sl 0 = 0
    · rw [if_pos (by rw [bI0]; exact decide_eq_false (fun q => q c0)), if_pos c0]
      exact askC.now hk
    · obtain ⟨σ1, S1, κ, a1, a2, a3, a4, a5, a6⟩ := q_prepare hg hS hk
      obtain ⟨r, r1, r2, r3⟩ := a2.root c0
      have hs1 := a2.1.1
      unfold isSub at c
      have c' := of_decide_eq_true c
      obtain ⟨n, rfl⟩ := Int.eq_ofNat_of_zero_le c'.1
      obtain ⟨g, rfl⟩ := Int.eq_ofNat_of_zero_le (show 0 ≤ h by omega)
      rw [Int.toNat_natCast] at c'
      have hpg := a2.pg hg
      have hsg : n &&& sgl ch = n := sub_tr c'.2 (all5_sgl hg.1)
      obtain ⟨σ2, b1, b2, b3⟩ := q_tally (ch := ch) (κ := κ) (N := tot (nN ch sl) 99 10) (S := S1) g 12 (by omega) (by omega) r n σ1 r1 hsg ⟨hpg, a2.2.2.2.1, a2.2.2.2.2.1⟩
      rw [if_neg (by rw [bI0, decide_eq_true c0]; decide), if_pos (hs.o 10 1 (by decide)), a1, bd_eq, if_pos (hs1.o 10 1 (by decide)), hs1.p 1 6 23 (by decide), op_eq, if_pos (hs1.o 9 23 (by decide))]
      unfold s_X9_number
      rw [if_pos (hs1.o 9 23 (by decide)), hs1.p 23 0 13 (by decide), op_eq, if_pos (hs1.o 3 13 (by decide)), q_root hs1, bd_eq, if_pos (hs1.o 9 23 (by decide)), r2, b1, bd_eq, bd_eq, L_int Wy_le, if_neg c0, Int.toNat_natCast, Int.toNat_natCast, r3]
      refine ⟨σ2, S1, rfl, Or.inl ⟨κ, a2.keep hg.2.2.1 b2 (fun _ _ q => q.elim) (fun _ _ _ _ q => q) (fun q => q) (fun _ _ q => q) b3.2.2 (a2.2.2.2.2.2.fx b2 (fun _ _ _ q => q))⟩, a3, a4.trans (b2.gx (fun _ _ q => q.elim) (fun a k q => by unfold C24 at q; unfold clL; omega)), ?_, ?_⟩
      · rw [b2.1]; exact a5
      · rw [b2.2.1]; exact a6
  · rw [if_pos (by rw [bI0]; exact Bool.eq_false_iff.2 c), if_neg c]
    exact askC.now hk
/-! the first proof is found -/
def fnI : Nat → Nat → Prop := fun a k => (a = 25 ∧ (k = 3 ∨ k = 4 ∨ k = 5)) ∨ a = 26
def FPd (ch sl : Nat → Nat) (σ : St) : Prop := sI σ 25 5 = 1 ∧ sI σ 25 4 = bI (decide (0 < hgt ch (all5 sl))) ∧ FPS σ (fpL ch sl)
theorem hR_none {n : Nat} (hn : n ≤ 100) : (hR n = I (-6)) ↔ ¬ 0 < n := by
  unfold hR
  by_cases c : n = 0
  · rw [if_pos c]; exact ⟨fun _ => by omega, fun _ => rfl⟩
  · rw [if_neg c, I_eq (by omega) (by omega)]; omega
theorem q_find {ch sl κ : Nat → Nat} {S : Nat} (hg : GI ch sl) {σ : St} (hk : KR ch sl S κ σ) (h0 : sl 0 ≠ 0) : ∃ σ', s_X0_find 25 (I (all5 sl : Nat)) σ = some ((), σ') ∧ FX fnI noC σ σ' ∧ FPd ch sl σ' ∧ KR ch sl S κ σ' := by
  have hs := hk.1.1
  rcases hk.2.2.2.2.2 with h5 | h5
  · obtain ⟨r, r1, r2, r3⟩ := hk.root h0
    have hgl := hgt_le ch (all5 sl)
    have hall : all5 sl &&& all5 sl = all5 sl := Nat.and_self _
    have f1 : FX fnI noC σ (setI σ 25 3 0) := FX.setI 25 3 _ (Or.inl ⟨rfl, Or.inl rfl⟩)
    have kp : ∀ {x y : St}, KR ch sl S κ x → FX fnI noC x y → FPc ch sl y → KR ch sl S κ y := fun hx hf hp => hx.keep hg.2.2.1 hf (fun a k q => by unfold fnI at q; omega) (fun a k h1 h2 q => by unfold fnI at q; omega) (by unfold fnI; omega) (fun _ _ q => q.elim) (hx.2.2.2.2.1.fx hf (fun _ _ _ q => q)) hp
    have k1 := kp hk f1 (Or.inl (by rw [sIn (by omega)]; exact h5))
    have hs1 := k1.1.1
    have hr1 : sI (setI σ 25 3 0) 13 7 = I (r : Nat) := by rw [sIn (by omega)]; exact r2
    have fin : ∀ (b : Bool), b = decide (0 < hgt ch (all5 sl)) → ∃ σ', s_X0_find_41 25 (I (all5 sl : Nat)) (hR (hgt ch (all5 sl))) 25 (bI b) (setI σ 25 3 0) = some ((), σ') ∧ FX fnI noC σ σ' ∧ FPd ch sl σ' ∧ KR ch sl S κ σ' := by
      intro b hb
      have f2 : FX fnI noC (setI σ 25 3 0) (setI (setI σ 25 3 0) 25 4 (bI b)) := FX.setI 25 4 _ (Or.inl ⟨rfl, Or.inr (Or.inl rfl)⟩)
      have k2 := kp k1 f2 (Or.inl (by rw [sIn (by omega), sIn (by omega)]; exact h5))
      have hs2 := k2.1.1
      unfold s_X0_find_41
      rw [if_pos (hs1.o 0 25 (by decide)), if_pos (zok_bI _), lt_eq, if_pos (hs2.o 0 25 (by decide)), sIe]
      by_cases c : 0 < hgt ch (all5 sl)
      · rw [decide_eq_true c] at hb
        subst hb
        have hRv : hR (hgt ch (all5 sl)) = I (hgt ch (all5 sl) : Nat) := by unfold hR; rw [if_neg (by omega)]
        have hp10 : 2 ^ hgt ch (all5 sl) ≤ 2 ^ 10 := Nat.pow_le_pow_right (by decide) hgl
        obtain ⟨σ3, w1, w2, w3⟩ := q_write (ch := ch) (κ := κ) (N := tot (nN ch sl) 99 10) (hgt ch (all5 sl)) 12 (by omega) hgl r (all5 sl) (setI (setI σ 25 3 0) 25 4 (bI true)) [] r1 (all5_sgl hg.1) ⟨k2.pg hg, k2.2.2.2.1⟩ ⟨by rw [sIn (by omega), sIe]; rfl, fun i v hi => by cases hi⟩ (by show 0 + _ ≤ _; omega)
        rw [r3, List.nil_append] at w3
        have w2' : FX fnI noC (setI (setI σ 25 3 0) 25 4 (bI true)) σ3 := w2.mono (fun a k q => by unfold fpI at q; unfold fnI; omega) (fun _ _ q => q)
        have hs3 := w2.ss hs2
        have f4 : FX fnI noC σ3 (setI σ3 25 5 1) := FX.setI 25 5 _ (Or.inl ⟨rfl, Or.inr (Or.inr rfl)⟩)
        have fp : FPd ch sl (setI σ3 25 5 1) := ⟨sIe, by rw [sIn (by omega), w2.i 25 4 (by unfold fpI; omega), sIe, decide_eq_true c], by rw [sIn (by omega)]; exact w3.1, fun i v hi => by rw [sIn (by omega)]; exact w3.2 i v hi⟩
        rw [if_neg (by decide), hs2.p 25 0 13 (by decide), op_eq, if_pos (hs2.o 3 13 (by decide)), q_root hs2, bd_eq, if_pos (hs2.o 0 25 (by decide)), sIn (x := 13) (by omega), hr1, hRv, w1, bd_eq, if_pos (hs3.o 0 25 (by decide)), lt_eq]
        exact ⟨_, rfl, ((f1.trans f2).trans w2').trans f4, fp, kp k2 (w2'.trans f4) (Or.inr fp)⟩
      · rw [decide_eq_false c] at hb
        subst hb
        have f4 : FX fnI noC (setI (setI σ 25 3 0) 25 4 (bI false)) (setI (setI (setI σ 25 3 0) 25 4 (bI false)) 25 5 1) := FX.setI 25 5 _ (Or.inl ⟨rfl, Or.inr (Or.inr rfl)⟩)
        have e : fpL ch sl = [] := by unfold fpL; rw [show hgt ch (all5 sl) = 0 by omega]; rfl
        have fp : FPd ch sl (setI (setI (setI σ 25 3 0) 25 4 (bI false)) 25 5 1) := ⟨sIe, by rw [sIn (by omega), sIe, decide_eq_false c], by rw [e]; exact ⟨by rw [sIn (by omega), sIn (by omega), sIe]; rfl, fun i v hi => by cases hi⟩⟩
        rw [if_pos (by decide), lt_eq]
        exact ⟨_, rfl, (f1.trans f2).trans f4, fp, kp k2 f4 (Or.inr fp)⟩
    unfold s_X0_find
    rw [if_pos (hs.o 0 25 (by decide)), h5, if_pos rfl, lt_eq, hs1.p 25 1 19 (by decide), op_eq, hs1.p 25 0 13 (by decide), op_eq, if_pos (hs1.o 3 13 (by decide)), q_root hs1, bd_eq, if_pos (hs1.o 4 19 (by decide)), hr1, k1.least hg r1 r3 hall, bd_eq]
    by_cases c : 0 < hgt ch (all5 sl)
    · rw [if_neg (by rw [show (-6 : Int32) = I (-6) from rfl, hR_none (by omega)]; exact fun q => q c)]
      exact fin true (decide_eq_true c).symm
    · rw [if_pos (by rw [show (-6 : Int32) = I (-6) from rfl, hR_none (by omega)]; exact c)]
      exact fin false (decide_eq_false c).symm
  · refine ⟨σ, ?_, FX.refl σ, h5, hk⟩
    unfold s_X0_find
    rw [if_pos (hs.o 0 25 (by decide)), h5.1, if_neg (by decide)]
theorem fn_gx {σ σ' : St} (h : FX fnI noC σ σ') : GX clI clL σ σ' := h.gx (fun a k q => by unfold fnI at q; unfold clI; omega) (fun _ _ q => q.elim)
theorem q_fpat {σ : St} (hs : SS σ) {l : List Nat} (h : FPS σ l) (hl : l.length ≤ 1023) {i : Nat} (hi : i < l.length) : s_X0_at 25 (I (i : Nat)) σ = some (I (l.getD i 0 : Nat), σ) := by
  unfold s_X0_at
  rw [if_neg (by rw [I_lit, I_lt (by omega) (by omega)]; omega), if_pos (hs.o 0 25 (by decide)), h.1, if_neg (by rw [I_le (by omega) (by omega)]; omega), if_neg (by rw [I_lit, I_le (by omega) (by omega)]; omega), hs.p 25 2 26 (by decide), op_eq, if_pos (hs.o 13 26 (by decide)), hs.len 26 1024 (by decide), if_pos (inN (by omega) (by omega)), tNI (by omega), h.2 i _ (getD_some hi)]
theorem c_term {ch sl : Nat → Nat} (hg : GI ch sl) {S : Nat} (hS : S < 100000) {σ : St} (hk : K ch sl S σ) {i : Int} (hi : -2147483648 ≤ i ∧ i < 2147483648) : askC ch sl S σ (s_X10_term 1 (I i) σ) (termA ch sl i) := by
  obtain ⟨⟨hs, hA, hZ, hst⟩, _⟩ := hk.core
  have hm1 : (-1 : Int32) = I (-1) := rfl
  unfold s_X10_term termA
  by_cases c : -1 ≤ i
  · rw [if_pos (by rw [hm1, I_le (by omega) hi]; exact c), if_pos (hs.o 10 1 (by decide)), q_hasGoal hs hst, bd_eq, if_pos c]
    by_cases c0 : sl 0 = 0
    · rw [if_pos (by rw [bI0]; exact decide_eq_false (fun q => q c0)), if_pos c0]
      exact askC.now hk
    · obtain ⟨σ1, S1, κ, a1, a2, a3, a4, a5, a6⟩ := q_prepare hg hS hk
      have hs1 := a2.1.1
      obtain ⟨σ2, b1, b2, ⟨b3, b4, b5⟩, b6⟩ := q_find hg a2 c0
      have hs2 := b6.1.1
      have hlen := fpL_len ch sl
      rw [if_neg (by rw [bI0, decide_eq_true c0]; decide), if_pos (hs.o 10 1 (by decide)), a1, bd_eq, if_pos (hs1.o 10 1 (by decide)), hs1.p 1 7 25 (by decide), op_eq, q_allRes hs1 a2.1.2.2.2, bd_eq, if_pos (hs1.o 0 25 (by decide)), b1, bd_eq, if_pos (hs2.o 10 1 (by decide)), hs2.p 1 7 25 (by decide), op_eq, if_pos (hs2.o 0 25 (by decide)), if_neg c0]
      unfold s_X0_exists s_X0_length
      rw [if_pos (hs2.o 0 25 (by decide)), b4, if_pos (zok_bI _), bd_eq]
      have res : ∀ a, askC ch sl S σ (some (a, σ2)) a := fun a => ⟨σ2, S1, rfl, Or.inl ⟨κ, b6⟩, a3, a4.trans (fn_gx b2), by rw [b2.1]; exact a5, by rw [b2.2.1]; exact a6⟩
      by_cases c1 : 0 < hgt ch (all5 sl)
      · rw [if_neg (by rw [bI0, decide_eq_true c1]; decide), if_pos c1]
        by_cases c2 : i = -1
        · rw [if_pos (by rw [c2]; rfl), if_pos (hs2.o 10 1 (by decide)), hs2.p 1 7 25 (by decide), op_eq, if_pos (hs2.o 0 25 (by decide)), if_pos (hs2.o 0 25 (by decide)), bd_eq, b5.1, if_pos c2]
          exact res _
        · rw [if_neg (by rw [hm1, I_eq hi (by omega)]; exact c2), if_pos (hs2.o 10 1 (by decide)), hs2.p 1 7 25 (by decide), op_eq, if_pos (hs2.o 0 25 (by decide)), if_pos (hs2.o 0 25 (by decide)), bd_eq, b5.1, if_neg c2]
          obtain ⟨n, rfl⟩ := Int.eq_ofNat_of_zero_le (show 0 ≤ i by omega)
          by_cases c3 : (n : Int) < (fpL ch sl).length
          · rw [if_neg (by rw [I_le (by omega) hi]; omega), if_pos (hs2.o 10 1 (by decide)), hs2.p 1 7 25 (by decide), op_eq, if_pos (hs2.o 0 25 (by decide)), q_fpat hs2 b5 hlen (by omega), bd_eq, if_pos c3, Int.toNat_natCast]
            exact res _
          · rw [if_pos (by rw [I_le (by omega) hi]; omega), if_neg c3]
            exact res _
      · rw [if_pos (by rw [bI0]; exact decide_eq_false c1), if_neg c1]
        exact res _
  · rw [if_neg (by rw [hm1, I_le (by omega) hi]; exact c), if_neg c]
    exact askC.now hk
