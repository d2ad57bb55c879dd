/-- what the class keeps: it depends on these cells alone -/
def kpI : Nat → Nat → Prop := fun a k => (13 ≤ a ∧ a ≤ 19) ∨ a = 25 ∨ a = 26 ∨ (a = 1 ∧ k = 11)
theorem K.same {ch sl : Nat → Nat} {S : Nat} {σ σ' : St} (hN : tot (nN ch sl) 99 10 ≤ 60) (h : K ch sl S σ) (hs : SS σ') (hst : Stk 5 ch sl σ') (hi : ∀ a k, kpI a k → sI σ' a k = sI σ a k) (hl : ∀ a k, 20 ≤ a → a ≤ 24 → sL σ' a k = sL σ a k) : K ch sl S σ' := by
  have hf : FX (fun a k => ¬ kpI a k) (fun a _ => ¬ (20 ≤ a ∧ a ≤ 24)) σ (sn σ, sz σ, sh σ, sI σ', sL σ', sP σ) := ⟨rfl, rfl, rfl, rfl, fun a k q => hi a k (Classical.not_not.1 q), fun a k q => hl a k (Classical.not_not.1 q).1 (Classical.not_not.1 q).2⟩
  have hA : Apt σ → Apt σ' := fun h i j hi hj => by rw [hl 22 i (by omega) (by omega)]; exact h i j hi hj
  have hZ : Z0 σ → Z0 σ' := fun h k hk => by rw [hl 20 k (by omega) (by omega)]; exact h k hk
  rcases h with ⟨κ, ⟨a1, a2, a3, a4⟩, a5, a6, a7, a8, a9⟩ | ⟨⟨a1, a2, a3, a4⟩, a5, a6, a7⟩
  · have hP : Pln ch sl (sn σ, sz σ, sh σ, sI σ', sL σ', sP σ) κ := a6.fx hf (fun a k h1 h2 q => q (Or.inl ⟨h1, by omega⟩))
    have hR : Rdy ch κ (tot (nN ch sl) 99 10) (sn σ, sz σ, sh σ, sI σ', sL σ', sP σ) := a7.fx hN hf (fun q => q (Or.inl ⟨by omega, by omega⟩)) (fun k q => q (by omega))
    have hW : Wmem ch κ (tot (nN ch sl) 99 10) S (sn σ, sz σ, sh σ, sI σ', sL σ', sP σ) := a8.fx hf (fun a k h1 q => q (by omega))
    have hF : FPc ch sl (sn σ, sz σ, sh σ, sI σ', sL σ', sP σ) := a9.fx hf (fun a k h1 q => q (Or.inr (h1.elim Or.inl (fun x => Or.inr (Or.inl x)))))
    exact Or.inl ⟨κ, ⟨hs, hA a2, hZ a3, hst⟩, by rw [hi 1 11 (Or.inr (Or.inr (Or.inr ⟨rfl, rfl⟩)))]; exact a5, hP, hR, hW, hF⟩
  · exact Or.inr ⟨⟨hs, hA a2, hZ a3, hst⟩, by rw [hi 1 11 (Or.inr (Or.inr (Or.inr ⟨rfl, rfl⟩)))]; exact a5, by rw [hl 23 3 (by omega) (by omega)]; exact a6, fun i hi => by rw [hl 24 i (by omega) (by omega)]; exact a7 i hi⟩
theorem GX.mono {CI CL CI' CL' : Nat → Nat → Prop} {σ σ' : St} (h : GX CI CL σ σ') (h1 : ∀ a k, CI a k → CI' a k) (h2 : ∀ a k, CL a k → CL' a k) : GX CI' CL' σ σ' :=
  ⟨h.1, h.2.1, fun a k ha q => h.2.2.1 a k ha (fun p => q (h1 a k p)), fun a k ha q => h.2.2.2.1 a k ha (fun p => q (h2 a k p)), h.2.2.2.2⟩
theorem K.gx {ch sl : Nat → Nat} {S : Nat} {σ σ' : St} {CI CL : Nat → Nat → Prop} (hN : tot (nN ch sl) 99 10 ≤ 60) (h : K ch sl S σ) (hf : GX CI CL σ σ') (h0 : ∀ a k, CI a k → a < 30) (h1 : ∀ a k, kpI a k → ¬ CI a k) (h2 : ∀ a k, 20 ≤ a → a ≤ 24 → ¬ CL a k) : K ch sl S σ' := by
  have hs := h.core.1.1
  have h54 := hs.1
  exact h.same hN (hf.ss hs) (hf.stk h0 (by omega) h.core.1.2.2.2) (fun a k q => hf.2.2.1 a k (by unfold kpI at q; omega) (h1 a k q)) (fun a k q1 q2 => hf.2.2.2.1 a k (by omega) (h2 a k q1 q2))
theorem K.fx {ch sl : Nat → Nat} {S : Nat} {σ σ' : St} {CI : Nat → Nat → Prop} (hN : tot (nN ch sl) 99 10 ≤ 60) (h : K ch sl S σ) (hf : FX CI noC σ σ') (h0 : ∀ a k, CI a k → a < 30) (h1 : ∀ a k, kpI a k → ¬ CI a k) : K ch sl S σ' :=
  h.gx hN (hf.gx (CI' := CI) (CL' := noC) (fun _ _ q => q) (fun _ _ q => q)) h0 h1 (fun _ _ _ _ q => q)
def ctC : Nat → Nat → Prop := fun a k => (a = 27 ∧ k = 1) ∨ a = 28
theorem CTr.app {σ : St} {t : List Nat} (h : CTr σ t) (n : Nat) : CTr (setI (setI σ 28 t.length (I (n : Nat))) 27 1 (I ((t.length + 1 : Nat) : Int))) (t ++ [n]) := by
  obtain ⟨h1, h2⟩ := h
  refine ⟨by rw [sIe, List.length_append]; rfl, fun i v hi => ?_⟩
  rw [sIn (by omega)]
  rw [List.getElem?_append] at hi
  by_cases c : i < t.length
  · rw [if_pos c] at hi
    rw [sIn (by omega)]
    exact h2 i v hi
  · rw [if_neg c] at hi
    have : i - t.length = 0 := by
      cases e : i - t.length with
      | zero => rfl
      | succ x => rw [e] at hi; cases hi
    rw [this] at hi
    obtain rfl : n = v := Option.some.inj hi
    rw [show i = t.length by omega, sIe]
theorem q_app8 {σ : St} (hs : SS σ) {t : List Nat} (h : CTr σ t) (hl : t.length ≤ 60) (n : Nat) : s_X8_append 27 (I (n : Nat)) σ = if t.length = 60 then some (0, σ) else some (1, setI (setI σ 28 t.length (I (n : Nat))) 27 1 (I ((t.length + 1 : Nat) : Int))) := by
  unfold s_X8_append
  rw [if_pos (hs.o 8 27 (by decide)), h.1, if_neg (by rw [I_lit, I_lt (by omega) (by omega)]; omega), hs.p 27 0 28 (by decide), op_eq, if_pos (hs.o 13 28 (by decide)), hs.len 28 60 (by decide), I_nI]
  by_cases c : t.length = 60
  · rw [if_neg (by rw [I_lt (by omega) (by omega)]; omega), if_pos c]
  · rw [if_pos (by rw [I_lt (by omega) (by omega)]; omega), if_pos (inN (by omega) (by omega)), tNI (by omega), lt_eq, sIn (by omega), h.1, I_p1, lt_eq, if_neg c]
theorem app_fx {σ : St} {t : List Nat} (n : Nat) : FX ctC noC σ (setI (setI σ 28 t.length (I (n : Nat))) 27 1 (I ((t.length + 1 : Nat) : Int))) := (FX.setI 28 _ _ (Or.inr rfl)).trans (FX.setI 27 1 _ (Or.inl ⟨rfl, rfl⟩))
theorem c_put {σ : St} (hs : SS σ) {t : List Nat} (ht : CTr σ t) (hk : Tok t) {z : Int} (hz : -2147483648 ≤ z ∧ z < 2147483648) : ∃ σ', s_X10_put 1 (I z) σ = some (putA t z, σ') ∧ FX ctC noC σ σ' ∧ CTr σ' (putT t z) := by
  have hl := hk.1
  unfold s_X10_put putA putT
  by_cases c1 : z < 0
  · rw [if_pos (by rw [I_lit, I_lt hz (by omega)]; exact c1), if_neg (fun q => by omega), if_neg (fun q => by omega)]
    exact ⟨σ, rfl, FX.refl σ, ht⟩
  rw [if_neg (by rw [I_lit, I_lt hz (by omega)]; exact c1)]
  by_cases c2 : z ≤ 499
  · obtain ⟨n, rfl⟩ := Int.eq_ofNat_of_zero_le (show 0 ≤ z by omega)
    rw [if_pos (by rw [I_lit, I_le hz (by omega)]; exact c2), if_pos (hs.o 10 1 (by decide)), hs.p 1 8 27 (by decide), op_eq, if_pos (hs.o 8 27 (by decide)), q_app8 hs ht hl, if_pos (show (0 : Int) ≤ (n : Nat) ∧ ((n : Nat) : Int) ≤ 499 by omega), if_pos (show (0 : Int) ≤ (n : Nat) ∧ ((n : Nat) : Int) ≤ 499 by omega)]
    by_cases c3 : t.length = 60
    · rw [if_pos c3, bd_eq, if_pos rfl, if_pos c3, if_pos c3]
      exact ⟨σ, rfl, FX.refl σ, ht⟩
    · have f1 := app_fx (σ := σ) (t := t) n
      have hs1 := f1.ss hs
      have ha := ht.app n
      rw [if_neg c3, bd_eq, if_neg (by decide), if_pos (hs1.o 10 1 (by decide)), hs1.p 1 8 27 (by decide), op_eq, if_pos (hs1.o 8 27 (by decide))]
      unfold s_X8_length
      rw [if_pos (hs1.o 8 27 (by decide)), bd_eq, sIe, if_neg c3, if_neg c3]
      exact ⟨_, rfl, f1, ha⟩
  · rw [if_neg (by rw [I_lit, I_le hz (by omega)]; exact c2), if_neg (fun q => c2 q.2), if_neg (fun q => c2 q.2)]
    exact ⟨σ, rfl, FX.refl σ, ht⟩
theorem lp_tri (n a : Nat) (b : Int32) (σ : St) : s_X10_trial_56 (n + 1) a b σ = sb_X10_trial_56 (s_X10_trial_56 n) a b σ := rfl
theorem xt_loop {l : List Nat} (hlen : l.length ≤ 1023) : ∀ (j k m : Nat) (σ : St), k + j = 60 → k ≤ l.length → SS σ → FPS σ l → CTr σ (l.take k) →
    ∃ σ', s_X10_trial_56 (m + j + 1) 1 (I (k : Nat)) σ = some (I ((l.take 60).length : Nat), σ') ∧ FX ctC noC σ σ' ∧ CTr σ' (l.take 60) := by
  intro j
  induction j with
  | zero =>
    intro k m σ hk hkl hs hf ht
    obtain rfl : k = 60 := (by omega)
    refine ⟨σ, ?_, FX.refl σ, ht⟩
    rw [lp_tri]
    unfold sb_X10_trial_56 s_X0_length s_X8_length
    rw [if_pos (hs.o 10 1 (by decide)), hs.p 1 7 25 (by decide), op_eq, if_pos (hs.o 0 25 (by decide)), if_pos (hs.o 0 25 (by decide)), bd_eq, hf.1]
    by_cases c : l.length ≤ 60
    · rw [if_pos (by rw [I_le (by omega) (by omega)]; omega), if_pos (hs.o 10 1 (by decide)), hs.p 1 8 27 (by decide), op_eq, if_pos (hs.o 8 27 (by decide)), if_pos (hs.o 8 27 (by decide)), bd_eq, ht.1]
    · rw [if_neg (by rw [I_le (by omega) (by omega)]; omega), if_pos (by decide), if_pos (hs.o 10 1 (by decide)), hs.p 1 8 27 (by decide), op_eq, if_pos (hs.o 8 27 (by decide)), if_pos (hs.o 8 27 (by decide)), bd_eq, ht.1]
  | succ j ih =>
    intro k m σ hk hkl hs hf ht
    have hkt : (l.take k).length = k := by rw [List.length_take]; omega
    rw [lp_tri]
    unfold sb_X10_trial_56 s_X0_length s_X8_length
    rw [if_pos (hs.o 10 1 (by decide)), hs.p 1 7 25 (by decide), op_eq, if_pos (hs.o 0 25 (by decide)), if_pos (hs.o 0 25 (by decide)), bd_eq, hf.1]
    by_cases c : l.length ≤ k
    · have e : l.take 60 = l.take k := by rw [List.take_of_length_le (by omega), List.take_of_length_le (by omega)]
      rw [if_pos (by rw [I_le (by omega) (by omega)]; omega), if_pos (hs.o 10 1 (by decide)), hs.p 1 8 27 (by decide), op_eq, if_pos (hs.o 8 27 (by decide)), if_pos (hs.o 8 27 (by decide)), bd_eq, ht.1, e]
      exact ⟨σ, rfl, FX.refl σ, ht⟩
    · have f1 := app_fx (σ := σ) (t := l.take k) (l.getD k 0)
      have a := ht.app (l.getD k 0)
      rw [← take_succ' (by omega)] at a
      rw [if_neg (by rw [I_le (by omega) (by omega)]; omega), if_neg (by rw [I_lit, I_le (by omega) (by omega)]; omega), if_pos (hs.o 10 1 (by decide)), hs.p 1 8 27 (by decide), op_eq, hs.p 1 7 25 (by decide), op_eq, if_pos (hs.o 0 25 (by decide)), q_fpat hs hf hlen (by omega), bd_eq, if_pos (hs.o 8 27 (by decide)), q_app8 hs ht (by omega), if_neg (by omega), bd_eq, I_p1, lt_eq]
      obtain ⟨σ', b1, b2, b3⟩ := ih (k + 1) m _ (by omega) (by omega) (f1.ss hs) ⟨by rw [f1.i 25 3 (by unfold ctC; omega)]; exact hf.1, fun i v hi => by rw [f1.i 26 i (by unfold ctC; omega)]; exact hf.2 i v hi⟩ a
      exact ⟨σ', b1, f1.trans b2, b3⟩
theorem Pot.same {S : Nat} {σ σ' : St} (h : sI σ' 1 11 = sI σ 1 11) (h1 : sn σ' = sn σ) (h2 : sz σ' = sz σ) : Pot S σ S σ' := by
  have := ee_cg h
  unfold Pot
  rw [this, h1, h2]
  exact ⟨Nat.le_refl _, Nat.le_refl _, Nat.le_refl _⟩
theorem Pot.trans {S S1 S2 : Nat} {σ σ1 σ2 : St} (h : Pot S σ S1 σ1) (g : Pot S1 σ1 S2 σ2) : Pot S σ S2 σ2 := ⟨Nat.le_trans g.1 h.1, Nat.le_trans g.2.1 h.2.1, Nat.le_trans g.2.2 h.2.2⟩
def clT : Nat → Nat → Prop := fun a k => clI a k ∨ ctC a k
theorem c_trial {ch sl : Nat → Nat} (hg : GI ch sl) {S : Nat} (hS : S < 100000) {σ : St} {t : List Nat} (hk : K ch sl S σ) (ht : CTr σ t) {z : Int} (hz : -2147483648 ≤ z ∧ z < 2147483648) :
    ∃ σ' S', s_X10_trial 1 (I z) σ = some (triA ch sl z, σ') ∧ K ch sl S' σ' ∧ Pot S σ S' σ' ∧ GX clT clL σ σ' ∧ CTr σ' (triT ch sl t z) := by
  obtain ⟨⟨hs, hA, hZ, hst⟩, _⟩ := hk.core
  have f0 : FX ctC noC σ (setI σ 27 1 0) := FX.setI 27 1 _ (Or.inl ⟨rfl, rfl⟩)
  have g0 : GX clT clL σ (setI σ 27 1 0) := f0.gx (fun a k q => Or.inr q) (fun _ _ q => q.elim)
  have ct54 : ∀ a k, ctC a k → a < 30 := fun a k q => by unfold ctC at q; omega
  have ctkp : ∀ a k, kpI a k → ¬ ctC a k := fun a k q => by unfold kpI at q; unfold ctC; omega
  have k0 : K ch sl S (setI σ 27 1 0) := hk.fx hg.2.2.1 f0 ct54 ctkp
  have t0 : CTr (setI σ 27 1 0) [] := ⟨by rw [sIe]; rfl, fun i v hi => by cases hi⟩
  have hs0 := f0.ss hs
  unfold s_X10_trial s_X10_trial_12 s_X10_trial_27 triA triT s_X8_clear s_X8_length
  by_cases c0 : z = 0
  · have c1 : ¬ z = 1 := by omega
    rw [if_pos (by rw [c0]; rfl), if_neg (by rw [show (1 : Int32) = I 1 from rfl, I_eq hz (by omega)]; exact c1), if_pos (hs.o 10 1 (by decide)), hs.p 1 8 27 (by decide), op_eq, if_pos (hs.o 8 27 (by decide)), if_pos (hs.o 8 27 (by decide)), lt_eq, bd_eq, if_neg (by rw [show (1 : Int32) = I 1 from rfl, I_eq hz (by omega)]; exact c1), if_pos (hs0.o 10 1 (by decide)), hs0.p 1 8 27 (by decide), op_eq, if_pos (hs0.o 8 27 (by decide)), if_pos (hs0.o 8 27 (by decide)), bd_eq, sIe, if_pos (show 0 ≤ z ∧ z ≤ 1 by omega), if_neg c1, if_pos (show 0 ≤ z ∧ z ≤ 1 by omega), if_neg c1]
    exact ⟨_, S, rfl, k0, Pot.same (sIn (by omega)) rfl rfl, g0, t0⟩
  · rw [if_neg (by rw [show (0 : Int32) = I 0 from rfl, I_eq hz (by omega)]; exact c0)]
    by_cases c1 : z = 1
    · rw [if_pos (by rw [c1]; rfl), if_pos (by rw [c1]; rfl), if_pos (hs.o 10 1 (by decide)), q_hasGoal hs hst, bd_eq, if_pos (show 0 ≤ z ∧ z ≤ 1 by omega), if_pos c1, if_pos (show 0 ≤ z ∧ z ≤ 1 by omega), if_pos c1]
      by_cases cg : sl 0 = 0
      · rw [if_pos (by rw [bI0]; exact decide_eq_false (fun q => q cg)), if_pos cg, if_pos cg]
        exact ⟨σ, S, rfl, hk, Pot.same rfl rfl rfl, GX.refl σ, ht⟩
      · obtain ⟨σ1, S1, κ, a1, a2, a3, a4, a5, a6⟩ := q_prepare hg hS k0
        have hs1 := a2.1.1
        obtain ⟨σ2, b1, b2, b3, b6⟩ := q_find hg a2 cg
        have hs2 := b6.1.1
        have h54 := hs0.1
        have t2 : CTr σ2 [] := ⟨by rw [b2.i 27 1 (by unfold fnI; omega), a4.2.2.1 27 1 (by omega) (by unfold clI; omega)]; exact t0.1, fun i v hi => by cases hi⟩
        obtain ⟨σ3, d1, d2, d3⟩ := xt_loop (fpL_len ch sl) 60 0 15939 σ2 rfl (Nat.zero_le _) hs2 b3.2.2 t2
        rw [if_neg (by rw [bI0, decide_eq_true cg]; decide), if_pos (hs.o 10 1 (by decide)), hs.p 1 8 27 (by decide), op_eq, if_pos (hs.o 8 27 (by decide)), if_pos (hs.o 8 27 (by decide)), lt_eq, bd_eq, if_pos (by rw [c1]; rfl), if_pos (hs0.o 10 1 (by decide)), a1, bd_eq, if_pos (hs1.o 10 1 (by decide)), hs1.p 1 7 25 (by decide), op_eq, q_allRes hs1 a2.1.2.2.2, bd_eq, if_pos (hs1.o 0 25 (by decide)), b1, bd_eq, if_neg cg, if_neg cg]
        refine ⟨σ3, S1, d1, K.fx hg.2.2.1 (Or.inl ⟨κ, b6⟩) d2 ct54 ctkp, ?_, ((g0.trans (a4.mono (fun a k q => Or.inl q) (fun _ _ q => q))).trans ((fn_gx b2).mono (fun a k q => Or.inl q) (fun _ _ q => q))).trans (d2.gx (fun a k q => Or.inr q) (fun _ _ q => q.elim)), d3⟩
        have e3 : ee σ3 = 0 := ee_0 (by rw [d2.i 1 11 (by unfold ctC; omega)]; exact b6.2.1)
        have e0 : ee (setI σ 27 1 0) = ee σ := ee_cg (sIn (by omega))
        rw [e0] at a3 a5 a6
        have n3 : sn σ3 = sn σ1 := d2.1.trans b2.1
        have z3 : sz σ3 = sz σ1 := d2.2.1.trans b2.2.1
        have q5 : sn σ1 ≤ sn σ + 10 * ee σ := a5
        have q6 : sz σ1 ≤ sz σ + 40 * ee σ := a6
        exact ⟨by omega, by omega, by omega⟩
    · rw [if_neg (by rw [show (1 : Int32) = I 1 from rfl, I_eq hz (by omega)]; exact c1), if_neg (show ¬ (0 ≤ z ∧ z ≤ 1) by omega), if_neg (show ¬ (0 ≤ z ∧ z ≤ 1) by omega)]
      exact ⟨σ, S, rfl, hk, Pot.same rfl rfl rfl, GX.refl σ, ht⟩
