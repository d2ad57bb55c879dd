/-! the trial of the reference -/
def MTr (σ : St) (t : List Nat) : Prop := sI σ 30 4 = I (t.length : Nat) ∧ ∀ i v : Nat, t[i]? = some v → sI σ 33 i = I (v : Nat)
def Tok (t : List Nat) : Prop := t.length ≤ 60 ∧ ∀ x ∈ t, x < 500
theorem MTr.fr {σ σ' : St} {C : Nat → Nat → Prop} {t : List Nat} (h : MTr σ t) (hf : Fr C σ σ') (h1 : ¬ C 30 4) (h2 : ∀ k, ¬ C 33 k) : MTr σ' t :=
  ⟨by rw [hf.i 30 4 h1]; exact h.1, fun i v hi => by rw [hf.i 33 i (h2 i)]; exact h.2 i v hi⟩
theorem MTr.fx {σ σ' : St} {CI CL : Nat → Nat → Prop} {t : List Nat} (h : MTr σ t) (hf : FX CI CL σ σ') (h1 : ¬ CI 30 4) (h2 : ∀ k, ¬ CI 33 k) : MTr σ' t :=
  ⟨by rw [hf.i 30 4 h1]; exact h.1, fun i v hi => by rw [hf.i 33 i (h2 i)]; exact h.2 i v hi⟩
def tmC : Nat → Nat → Prop := fun a k => (a = 30 ∧ k = 4) ∨ a = 33
theorem MTr.app {σ : St} {t : List Nat} (h : MTr σ t) (n : Nat) : MTr (setI (setI σ 33 t.length (I (n : Nat))) 30 4 (I ((t.length + 1 : Nat) : Int))) (t ++ [n]) := by
  obtain ⟨h1, h2⟩ := h
  refine ⟨by rw [sIe, List.length_append]; rfl, fun i v hi => ?_⟩
  rw [sIn (by omega)]
  rw [List.getElem?_append] at hi
  by_cases c : i < t.length
  · rw [if_pos c] at hi
    rw [sIn (by omega)]
    exact h2 i v hi
  · rw [if_neg c] at hi
    have : i - t.length = 0 := by
      cases e : i - t.length with
      | zero => rfl
      | succ x => rw [e] at hi; cases hi
    rw [this] at hi
    obtain rfl : n = v := Option.some.inj hi
    rw [show i = t.length by omega, sIe]
theorem Tok.app {t : List Nat} (h : Tok t) {n : Nat} (hl : t.length < 60) (hn : n < 500) : Tok (t ++ [n]) := by
  refine ⟨by rw [List.length_append]; show t.length + 1 ≤ 60; omega, fun x hx => ?_⟩
  rw [List.mem_append] at hx
  rcases hx with hx | hx
  · exact h.2 x hx
  · rw [List.mem_singleton] at hx; omega
def putA (t : List Nat) (z : Int) : Int32 := if 0 ≤ z ∧ z ≤ 499 then (if t.length = 60 then I (-4) else I ((t.length + 1 : Nat) : Int)) else I (-2)
def putT (t : List Nat) (z : Int) : List Nat := if 0 ≤ z ∧ z ≤ 499 then (if t.length = 60 then t else t ++ [z.toNat]) else t
theorem Tok.put {t : List Nat} (h : Tok t) (z : Int) : Tok (putT t z) := by
  unfold putT
  by_cases c : 0 ≤ z ∧ z ≤ 499
  · rw [if_pos c]
    by_cases c2 : t.length = 60
    · rw [if_pos c2]; exact h
    · rw [if_neg c2]; exact h.app (by have := h.1; omega) (by omega)
  · rw [if_neg c]; exact h
theorem m_put {σ : St} (hs : SS σ) {t : List Nat} (ht : MTr σ t) (hk : Tok t) {z : Int} (hz : -2147483648 ≤ z ∧ z < 2147483648) : ∃ σ', s_X11_put 30 (I z) σ = some (putA t z, σ') ∧ Fr tmC σ σ' ∧ MTr σ' (putT t z) := by
  have hl := hk.1
  unfold s_X11_put putA putT
  rw [show s_X11_in (I z) 0 499 σ = some (bI (decide (0 ≤ z ∧ z ≤ 499)), σ) from q_inb hz (a := 0) (b := 499) (by omega) (by omega) σ, bd_eq]
  by_cases c : 0 ≤ z ∧ z ≤ 499
  · obtain ⟨n, rfl⟩ := Int.eq_ofNat_of_zero_le c.1
    rw [if_neg (by rw [bI0, decide_eq_true c]; decide), if_pos (hs.o 11 30 (by decide)), ht.1, if_pos c, if_pos c]
    by_cases c2 : t.length = 60
    · rw [if_pos (by rw [c2]; rfl), if_pos c2, if_pos c2]
      exact ⟨σ, rfl, Fr.refl σ, ht⟩
    · rw [if_neg (by rw [I_lit, I_eq (by omega) (by omega)]; omega), if_neg c2, if_neg c2, hs.p 30 3 33 (by decide), op_eq, if_pos (hs.o 13 33 (by decide)), hs.len 33 60 (by decide), if_pos (inN (by omega) (by omega)), tNI (by omega), lt_eq, sIn (by omega), ht.1, I_p1, lt_eq, sIe]
      exact ⟨_, rfl, ((Fr.refl σ).put _ (Or.inr rfl)).put _ (Or.inl ⟨rfl, rfl⟩), ht.app n⟩
  · rw [if_pos (by rw [bI0]; exact decide_eq_false c), if_neg c, if_neg c]
    exact ⟨σ, rfl, Fr.refl σ, ht⟩
theorem take_succ' {l : List Nat} {k : Nat} (h : k < l.length) : l.take (k + 1) = l.take k ++ [l.getD k 0] := by
  rw [List.take_add_one, getD_some h]
  rfl
theorem tr_loop {l : List Nat} (hlen : l.length ≤ 1023) : ∀ (j k m : Nat) (σ : St), k + j = 60 → k ≤ l.length → SS σ → RWl σ l → MTr σ (l.take k) →
    ∃ σ', s_X11_trial_44 (m + j + 1) 30 (I (k : Nat)) σ = some (I ((l.take 60).length : Nat), σ') ∧ Fr tmC σ σ' ∧ MTr σ' (l.take 60) := by
  intro j
  induction j with
  | zero =>
    intro k m σ hk hkl hs hr ht
    obtain rfl : k = 60 := (by omega)
    refine ⟨σ, ?_, Fr.refl σ, ht⟩
    show sb_X11_trial_44 (s_X11_trial_44 m) 30 (I ((60 : Nat) : Int)) σ = _
    unfold sb_X11_trial_44
    rw [if_pos (hs.o 11 30 (by decide)), hr.1]
    by_cases c : l.length ≤ 60
    · rw [if_pos (by rw [I_le (by omega) (by omega)]; omega), ht.1]
    · rw [if_neg (by rw [I_le (by omega) (by omega)]; omega), if_pos (by decide), ht.1]
  | succ j ih =>
    intro k m σ hk hkl hs hr ht
    have hkt : (l.take k).length = k := by rw [List.length_take]; omega
    show ∃ σ', sb_X11_trial_44 (s_X11_trial_44 (m + j + 1)) 30 (I (k : Nat)) σ = _ ∧ _
    unfold sb_X11_trial_44
    rw [if_pos (hs.o 11 30 (by decide)), hr.1]
    by_cases c : l.length ≤ k
    · have e : l.take 60 = l.take k := by rw [List.take_of_length_le (by omega), List.take_of_length_le (by omega)]
      rw [if_pos (by rw [I_le (by omega) (by omega)]; omega), ht.1, e]
      exact ⟨σ, rfl, Fr.refl σ, ht⟩
    · have hv := hr.2 k _ (getD_some (show k < l.length by omega))
      rw [if_neg (by rw [I_le (by omega) (by omega)]; omega), if_neg (by rw [I_lit, I_le (by omega) (by omega)]; omega), hs.p 30 3 33 (by decide), op_eq, hs.p 30 25 47 (by decide), op_eq, if_pos (hs.o 13 47 (by decide)), hs.len 47 1024 (by decide), if_pos (inN (by omega) (by omega)), if_pos (hs.o 13 33 (by decide)), hs.len 33 60 (by decide), if_pos (inN (by omega) (by omega)), tNI (by omega), hv, lt_eq, sIn (by omega), ht.1, I_p1, lt_eq, I_p1, lt_eq]
      have f1 : Fr tmC σ (setI (setI σ 33 (l.take k).length (I (l.getD k 0 : Nat))) 30 4 (I (((l.take k).length + 1 : Nat) : Int))) := ((Fr.refl σ).put _ (Or.inr rfl)).put _ (Or.inl ⟨rfl, rfl⟩)
      have a := ht.app (l.getD k 0)
      rw [← take_succ' (by omega)] at a
      obtain ⟨σ', b1, b2, b3⟩ := ih (k + 1) m _ (by omega) (by omega) (f1.ss hs) (hr.fr f1 (by unfold tmC; omega) (fun k => by unfold tmC; omega)) a
      rw [hkt] at b1
      refine ⟨σ', ?_, f1.trans b2, b3⟩
      rw [hkt]
      exact b1
def triA (ch sl : Nat → Nat) (z : Int) : Int32 := if 0 ≤ z ∧ z ≤ 1 then (if z = 1 then (if sl 0 = 0 then I (-3) else I (((fpL ch sl).take 60).length : Nat)) else I (0 : Nat)) else I (-2)
def triT (ch sl : Nat → Nat) (t : List Nat) (z : Int) : List Nat := if 0 ≤ z ∧ z ≤ 1 then (if z = 1 then (if sl 0 = 0 then t else (fpL ch sl).take 60) else []) else t
theorem Tok.tri {ch sl : Nat → Nat} {t : List Nat} (h : Tok t) (z : Int) : Tok (triT ch sl t z) := by
  unfold triT
  split
  · split
    · split
      · exact h
      · exact ⟨by rw [List.length_take]; omega, fun x hx => fpL_num ch sl x (List.mem_of_mem_take hx)⟩
    · exact ⟨Nat.zero_le _, fun x hx => by cases hx⟩
  · exact h
def wtC : Nat → Nat → Prop := fun a k => wyC a k ∨ tmC a k
theorem m_trial {ch sl : Nat → Nat} (hg : GI ch sl) {σ : St} {t : List Nat} (hm : MT ch sl σ) (ho : MOld ch sl σ) (ht : MTr σ t) {z : Int} (hz : -2147483648 ≤ z ∧ z < 2147483648) : ∃ σ', s_X11_trial 30 (I z) σ = some (triA ch sl z, σ') ∧ Fr wtC σ σ' ∧ MT ch sl σ' ∧ MOld ch sl σ' ∧ MTr σ' (triT ch sl t z) := by
  have htx := hg.1
  have f0 : Fr tmC σ (setI σ 30 4 0) := (Fr.refl σ).put _ (Or.inl ⟨rfl, rfl⟩)
  have hm0 : MT ch sl (setI σ 30 4 0) := hm.fr f0 (fun k => by unfold tmC; omega)
  have ho0 : MOld ch sl (setI σ 30 4 0) := ho.elim (fun q => Or.inl (by rw [sIn (by omega)]; exact q)) (fun ⟨κ, q⟩ => Or.inr ⟨κ, q.fx (f0.fx noC) (fun k hk => by unfold tmC; omega) (fun a k h1 h2 => by unfold tmC; omega) (fun k => by unfold tmC; omega)⟩)
  have ht0 : MTr (setI σ 30 4 0) [] := ⟨by rw [sIe]; rfl, fun i v hi => by cases hi⟩
  unfold s_X11_trial triA triT
  rw [show s_X11_in (I z) 0 1 σ = some (bI (decide (0 ≤ z ∧ z ≤ 1)), σ) from q_inb hz (a := 0) (b := 1) (by omega) (by omega) σ, bd_eq]
  by_cases c : 0 ≤ z ∧ z ≤ 1
  · rw [if_neg (by rw [bI0, decide_eq_true c]; decide), if_pos c, if_pos c]
    by_cases c1 : z = 1
    · rw [if_pos (by rw [c1]; rfl), if_pos (hm.1.o 11 30 (by decide)), q_isGoal hm htx, bd_eq, if_pos c1, if_pos c1]
      by_cases c0 : sl 0 = 0
      · rw [if_pos (by rw [bI0]; exact decide_eq_false (fun q => q c0)), if_pos c0, if_pos c0]
        exact ⟨σ, rfl, Fr.refl σ, hm, ho, ht⟩
      · obtain ⟨σ1, a1, a2, a3, a4, a5⟩ := q_layWay hg c0 hm0 ho0
        obtain ⟨σ2, b1, b2, b3⟩ := tr_loop (fpL_len ch sl) 60 0 15939 σ1 rfl (Nat.zero_le _) a3.1 a5 (ht0.fr a2 (by unfold wyC lyC mF lwC; omega) (fun k => by unfold wyC lyC mF lwC; omega))
        rw [if_neg (by rw [bI0, decide_eq_true c0]; decide), if_neg c0, if_neg c0]
        unfold s_X11_trial_27
        rw [if_pos (hm.1.o 11 30 (by decide)), lt_eq, if_pos (by rw [c1]; rfl), a1, bd_eq]
        refine ⟨σ2, b1, ((f0.mono (fun a k q => Or.inr q)).trans (a2.mono (fun a k q => Or.inl q))).trans (b2.mono (fun a k q => Or.inr q)), a3.fr b2 (fun k => by unfold tmC; omega), ?_, b3⟩
        exact a4.elim (fun q => Or.inl (by rw [b2.i 30 21 (by unfold tmC; omega)]; exact q)) (fun ⟨κ, q⟩ => Or.inr ⟨κ, q.fx (b2.fx noC) (fun k hk => by unfold tmC; omega) (fun a k h1 h2 => by unfold tmC; omega) (fun k => by unfold tmC; omega)⟩)
    · rw [if_neg (by rw [show (1 : Int32) = I 1 from rfl, I_eq hz (by omega)]; exact c1), if_neg c1, if_neg c1]
      unfold s_X11_trial_27
      rw [if_pos (hm.1.o 11 30 (by decide)), lt_eq, if_neg (by rw [show (1 : Int32) = I 1 from rfl, I_eq hz (by omega)]; exact c1), sIe]
      exact ⟨_, rfl, f0.mono (fun a k q => Or.inr q), hm0, ho0, ht0⟩
  · rw [if_pos (by rw [bI0]; exact decide_eq_false c), if_neg c, if_neg c]
    exact ⟨σ, rfl, Fr.refl σ, hm, ho, ht⟩
