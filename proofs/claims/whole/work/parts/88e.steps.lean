/-! a call on both sides: the same answer, and the new state -/
def Step2 (ch sl : Nat → Nat) (t : List Nat) (f : Int) (s0 s1 : Option TS) (S : Nat) (σ : St) (cc mc : St → Option (Int32 × St)) : Prop :=
  ∃ a σ1 σ2, cc σ = some (a, σ1) ∧ mc σ1 = some (a, σ2) ∧ (∃ ch' sl' t' f' s0' s1' S', PS ch' sl' t' f' s0' s1' ∧ CR ch' sl' t' f' s0' s1' S' σ2 ∧ MR ch' sl' t' f' s0' s1' σ2 ∧ S' ≤ S + 1) ∧ CF σ σ1 ∧ MF σ1 σ2 ∧ SS σ1 ∧ sn σ1 ≤ sn σ + 12 ∧ sz σ1 ≤ sz σ + 80
/-- the class's half of a call -/
def CHf (ch sl : Nat → Nat) (t : List Nat) (f : Int) (s0 s1 : Option TS) (S : Nat) (σ : St) (r : Option (Int32 × St)) (a : Int32) : Prop := ∃ σ1 S', r = some (a, σ1) ∧ CR ch sl t f s0 s1 S' σ1 ∧ S' ≤ S + 1 ∧ CF σ σ1 ∧ sn σ1 ≤ sn σ + 12 ∧ sz σ1 ≤ sz σ + 80
def MHf (ch sl : Nat → Nat) (t : List Nat) (f : Int) (s0 s1 : Option TS) (σ : St) (r : Option (Int32 × St)) (a : Int32) : Prop := ∃ σ1, r = some (a, σ1) ∧ MR ch sl t f s0 s1 σ1 ∧ MF σ σ1
theorem mkStep {ch sl ch' sl' : Nat → Nat} {t t' : List Nat} {f f' : Int} {s0 s1 s0' s1' : Option TS} {S : Nat} {σ : St} {cc mc : St → Option (Int32 × St)} {a : Int32} (hm : MR ch sl t f s0 s1 σ) (hp : PS ch' sl' t' f' s0' s1') (h1 : CHf ch' sl' t' f' s0' s1' S σ (cc σ) a) (h2 : ∀ σ1, MR ch sl t f s0 s1 σ1 → MHf ch' sl' t' f' s0' s1' σ1 (mc σ1) a) : Step2 ch sl t f s0 s1 S σ cc mc := by
  obtain ⟨σ1, S', a1, a2, a3, a4, a5, a6⟩ := h1
  have hs1 := a2.1.core.1.1
  obtain ⟨σ2, b1, b2, b3⟩ := h2 σ1 (hm.cf a4 hs1)
  exact ⟨a, σ1, σ2, a1, b1, ⟨ch', sl', t', f', s0', s1', S', hp, a2.mf hp.1.wipe.2.2.1 b3, b2, a3⟩, a4, b3, hs1, a5, a6⟩
theorem CR.h54 {ch sl : Nat → Nat} {t : List Nat} {f : Int} {s0 s1 : Option TS} {S : Nat} {σ : St} (h : CR ch sl t f s0 s1 S σ) : SS σ ∧ 54 ≤ sn σ := ⟨h.1.core.1.1, h.1.core.1.1.1⟩
theorem CF.refl (σ : St) : CF σ σ := ⟨Nat.le_refl _, fun _ _ => rfl, fun _ _ _ _ => ⟨rfl, rfl⟩⟩
theorem MF.refl (σ : St) : MF σ σ := ⟨rfl, rfl, rfl, rfl, fun _ _ _ => ⟨rfl, rfl⟩⟩
theorem CHf.now {ch sl : Nat → Nat} {t : List Nat} {f : Int} {s0 s1 : Option TS} {S : Nat} {σ : St} {a : Int32} (h : CR ch sl t f s0 s1 S σ) : CHf ch sl t f s0 s1 S σ (some (a, σ)) a := ⟨σ, S, rfl, h, by omega, CF.refl σ, by omega, by omega⟩
theorem MHf.now {ch sl : Nat → Nat} {t : List Nat} {f : Int} {s0 s1 : Option TS} {σ : St} {a : Int32} (h : MR ch sl t f s0 s1 σ) : MHf ch sl t f s0 s1 σ (some (a, σ)) a := ⟨σ, rfl, h, MF.refl σ⟩
theorem clI_cf : ∀ a k, clI a k → 1 ≤ a ∧ (a < 30 ∨ 54 ≤ a) := fun a k h => by unfold clI at h; omega
theorem clL_cf : ∀ a k, clL a k → 1 ≤ a ∧ (a < 30 ∨ 54 ≤ a) := fun a k h => by unfold clL at h; omega
/-- the class asks itself -/
theorem askC.half {ch sl : Nat → Nat} {t : List Nat} {f : Int} {s0 s1 : Option TS} {S : Nat} {σ : St} {r : Option (Int32 × St)} {a : Int32} (hc : CR ch sl t f s0 s1 S σ) (h : askC (wCh ch) (wSl sl) S σ r a) : CHf ch sl t f s0 s1 S σ r a := by
  obtain ⟨σ1, S1, a1, a2, a3, a4, a5, a6⟩ := h
  obtain ⟨hs, h54⟩ := hc.h54
  obtain ⟨_, ⟨h2, h3⟩, ⟨h4, h5⟩, h6, h7⟩ := hc
  have i := fun a k (q1 : a < 54) (q2 : ¬ clI a k) => a4.2.2.1 a k (by omega) q2
  exact ⟨σ1, S1, a1, ⟨a2, ⟨by rw [i 2 1 (by omega) (by unfold clI; omega)]; exact h2, fun x hx => by rw [i 3 x (by omega) (by unfold clI; omega)]; exact h3 x hx⟩, ⟨by rw [i 27 1 (by omega) (by unfold clI; omega)]; exact h4, fun x v hx => by rw [i 28 x (by omega) (by unfold clI; omega)]; exact h5 x v hx⟩, by rw [i 1 10 (by omega) (by unfold clI; omega)]; exact h6, h7.gx a4 h54 clI_lt⟩, a3, a4.cf h54 clI_cf clL_cf, by omega, by omega⟩
def okC (C : Nat → Nat → Prop) : Prop := ∀ a k, C a k → (a = 30 ∧ k ≠ 2 ∧ k ≠ 4) ∨ (34 ≤ a ∧ a ≤ 50)
theorem ok_ly : okC lyC := fun a k h => by unfold lyC mF at h; omega
theorem ok_wy : okC wyC := fun a k h => by unfold wyC lyC mF lwC at h; omega
theorem ok_wk : okC wkC := fun a k h => by unfold wkC lyC mF ckC at h; omega
theorem MR.keep {ch sl : Nat → Nat} {t : List Nat} {f : Int} {s0 s1 : Option TS} {C : Nat → Nat → Prop} {σ σ1 : St} (hm : MR ch sl t f s0 s1 σ) (hf : FX C mL σ σ1) (hC : okC C) (ho : MOld (wCh ch) (wSl sl) σ1) : MR ch sl t f s0 s1 σ1 ∧ MF σ σ1 := by
  obtain ⟨⟨h1, h4, h5⟩, h6, h7, h9, h10, h11⟩ := hm
  have i := fun a k (q : ¬ ((a = 30 ∧ k ≠ 2 ∧ k ≠ 4) ∨ (34 ≤ a ∧ a ≤ 50))) => hf.i a k (fun p => q (hC a k p))
  exact ⟨⟨⟨h1.fx hf (fun k => ⟨fun q => by have := hC _ _ q; omega, fun q => by have := hC _ _ q; omega⟩), by rw [i 32 10 (by omega)]; exact h4, fun x hx => by rw [i 31 _ (by omega)]; exact h5 x hx⟩, ho, h7.fx hf (fun q => by have := hC _ _ q; omega) (fun k q => by have := hC _ _ q; omega), by rw [i 30 2 (by omega)]; exact h9, h10.cg (fun a j q1 q2 => i a j (by omega)), h11.cg (fun a j q1 q2 => i a j (by omega))⟩, hf.mf (fun a k q => by have := hC a k q; omega) (fun a k q => by unfold mL at q; omega)⟩
theorem askX.half {ch sl : Nat → Nat} {t : List Nat} {f : Int} {s0 s1 : Option TS} {C : Nat → Nat → Prop} {σ : St} {r : Option (Int32 × St)} {a : Int32} (hm : MR ch sl t f s0 s1 σ) (hC : okC C) (h : askX (wCh ch) (wSl sl) C σ r a) : MHf ch sl t f s0 s1 σ r a := by
  obtain ⟨σ1, a1, a2, a3, a4⟩ := h
  obtain ⟨b1, b2⟩ := hm.keep a2 hC a4
  exact ⟨σ1, a1, b1, b2⟩
theorem MR.mt {ch sl : Nat → Nat} {t : List Nat} {f : Int} {s0 s1 : Option TS} {σ : St} (ht : Txt ch sl) (h : MR ch sl t f s0 s1 σ) : MT (wCh ch) (wSl sl) σ := h.1.1.win ht (win_w ch sl)
section
variable {ch sl : Nat → Nat} {t : List Nat} {f : Int} {s0 s1 : Option TS} {S : Nat} {σ : St}
theorem st_height (hp : PS ch sl t f s0 s1) (hS : S < 100000) (hc : CR ch sl t f s0 s1 S σ) (hm : MR ch sl t f s0 s1 σ) {z : Int} (hz : -2147483648 ≤ z ∧ z < 2147483648) : Step2 ch sl t f s0 s1 S σ (s_X10_height 1 (I z)) (s_X11_height 30 (I z)) :=
  mkStep hm hp ((c_height hp.1.wipe hS hc.1 hz).half hc) (fun σ1 h => (m_height hp.1.wipe (h.mt hp.1.1) h.2.1 hz).x.half h ok_ly)
theorem st_left (hp : PS ch sl t f s0 s1) (hS : S < 100000) (hc : CR ch sl t f s0 s1 S σ) (hm : MR ch sl t f s0 s1 σ) {z y : Int} (hz : -2147483648 ≤ z ∧ z < 2147483648) (hy : -2147483648 ≤ y ∧ y < 2147483648) : Step2 ch sl t f s0 s1 S σ (s_X10_left 1 (I z) (I y)) (s_X11_left 30 (I z) (I y)) :=
  mkStep hm hp ((c_left hp.1.wipe hS hc.1 hz hy).half hc) (fun σ1 h => (m_left hp.1.wipe (h.mt hp.1.1) h.2.1 hz hy).x.half h ok_ly)
theorem st_ways (hp : PS ch sl t f s0 s1) (hS : S < 100000) (hc : CR ch sl t f s0 s1 S σ) (hm : MR ch sl t f s0 s1 σ) {z y : Int} (hz : -2147483648 ≤ z ∧ z < 2147483648) (hy : -2147483648 ≤ y ∧ y < 2147483648) : Step2 ch sl t f s0 s1 S σ (s_X10_ways 1 (I z) (I y)) (s_X11_ways 30 (I z) (I y)) :=
  mkStep hm hp ((c_ways hp.1.wipe hS hc.1 hz hy).half hc) (fun σ1 h => (m_ways hp.1.wipe (h.mt hp.1.1) h.2.1 hz hy).half h ok_ly)
theorem st_fewest (hp : PS ch sl t f s0 s1) (hS : S < 100000) (hc : CR ch sl t f s0 s1 S σ) (hm : MR ch sl t f s0 s1 σ) : Step2 ch sl t f s0 s1 S σ (s_X10_fewest 1) (s_X11_fewest 30) :=
  mkStep hm hp ((c_fewest hp.1.wipe hS hc.1).half hc) (fun σ1 h => (m_fewest hp.1.wipe (h.mt hp.1.1) h.2.1).x.half h ok_ly)
theorem st_needed (hp : PS ch sl t f s0 s1) (hS : S < 100000) (hc : CR ch sl t f s0 s1 S σ) (hm : MR ch sl t f s0 s1 σ) : Step2 ch sl t f s0 s1 S σ (s_X10_needed 1) (s_X11_needed 30) :=
  mkStep hm hp ((c_needed hp.1.wipe hS hc.1).half hc) (fun σ1 h => (m_needed hp.1.wipe (h.mt hp.1.1) h.2.1).x.half h ok_ly)
theorem st_term (hp : PS ch sl t f s0 s1) (hS : S < 100000) (hc : CR ch sl t f s0 s1 S σ) (hm : MR ch sl t f s0 s1 σ) {z : Int} (hz : -2147483648 ≤ z ∧ z < 2147483648) : Step2 ch sl t f s0 s1 S σ (s_X10_term 1 (I z)) (s_X11_term 30 (I z)) :=
  mkStep hm hp ((c_term hp.1.wipe hS hc.1 hz).half hc) (fun σ1 h => (m_term hp.1.wipe (h.mt hp.1.1) h.2.1 hz).x.half h ok_wy)
theorem st_uses (hp : PS ch sl t f s0 s1) (hS : S < 100000) (hc : CR ch sl t f s0 s1 S σ) (hm : MR ch sl t f s0 s1 σ) {z y : Int} (hz : -2147483648 ≤ z ∧ z < 2147483648) (hy : -2147483648 ≤ y ∧ y < 2147483648) : Step2 ch sl t f s0 s1 S σ (s_X10_uses 1 (I z) (I y)) (s_X11_uses 30 (I z) (I y)) :=
  mkStep hm hp ((c_uses hp.1.wipe hS hc.1 hz hy).half hc) (fun σ1 h => (m_uses hp.1.wipe (h.mt hp.1.1) h.2.1 hz hy).x.half h ok_wy)
theorem st_check (hp : PS ch sl t f s0 s1) (hS : S < 100000) (hc : CR ch sl t f s0 s1 S σ) (hm : MR ch sl t f s0 s1 σ) {z : Int} (hz : -2147483648 ≤ z ∧ z < 2147483648) : Step2 ch sl t f s0 s1 S σ (s_X10_check 1 (I z)) (s_X11_check 30 (I z)) :=
  mkStep hm hp ((c_check hp.1.wipe hS hp.2.1 hc.1 hc.2.2.1 hz).half hc) (fun σ1 h => (m_check hp.1.wipe hp.2.1 (h.mt hp.1.1) h.2.1 h.2.2.1 hz).x.half h ok_wk)
theorem st_fault (hp : PS ch sl t f s0 s1) (hc : CR ch sl t f s0 s1 S σ) (hm : MR ch sl t f s0 s1 σ) : Step2 ch sl t f s0 s1 S σ (s_X10_fault 1) (s_X11_fault 30) := by
  refine mkStep (a := I f) hm hp ?_ (fun σ1 h => ?_)
  · unfold s_X10_fault
    rw [if_pos (hc.h54.1.o 10 1 (by decide)), hc.2.2.2.1]
    exact CHf.now hc
  · unfold s_X11_fault
    rw [if_pos (h.1.1.1.o 11 30 (by decide)), h.2.2.2.1]
    exact MHf.now h
/-- the trial changes on both sides -/
theorem CR.tri {t' : List Nat} {σ1 : St} {S' : Nat} (hc : CR ch sl t f s0 s1 S σ) (hk : K (wCh ch) (wSl sl) S' σ1) (hg : GX clT clL σ σ1) (ht : CTr σ1 t') : CR ch sl t' f s0 s1 S' σ1 ∧ CF σ σ1 := by
  obtain ⟨hs, h54⟩ := hc.h54
  obtain ⟨_, ⟨h2, h3⟩, _, h6, h7⟩ := hc
  have i := fun a k (q1 : a < 54) (q2 : ¬ clT a k) => hg.2.2.1 a k (by omega) q2
  exact ⟨⟨hk, ⟨by rw [i 2 1 (by omega) (by unfold clT clI ctC; omega)]; exact h2, fun x hx => by rw [i 3 x (by omega) (by unfold clT clI ctC; omega)]; exact h3 x hx⟩, ht, by rw [i 1 10 (by omega) (by unfold clT clI ctC; omega)]; exact h6, h7.gx hg h54 (fun a k q => by unfold clT clI ctC at q; omega)⟩, hg.cf h54 (fun a k q => by unfold clT clI ctC at q; omega) clL_cf⟩
theorem MR.tri {t' : List Nat} {C : Nat → Nat → Prop} {σ1 : St} (hm : MR ch sl t f s0 s1 σ) (hf : Fr C σ σ1) (hC : ∀ a k, C a k → (a = 30 ∧ k ≠ 2) ∨ a = 33 ∨ (34 ≤ a ∧ a ≤ 50)) (ho : MOld (wCh ch) (wSl sl) σ1) (ht : MTr σ1 t') : MR ch sl t' f s0 s1 σ1 ∧ MF σ σ1 := by
  obtain ⟨⟨h1, h4, h5⟩, _, _, h9, h10, h11⟩ := hm
  have i := fun a k (q : ¬ ((a = 30 ∧ k ≠ 2) ∨ a = 33 ∨ (34 ≤ a ∧ a ≤ 50))) => hf.i a k (fun p => q (hC a k p))
  exact ⟨⟨⟨h1.fr hf (fun k => ⟨fun q => by have := hC _ _ q; omega, fun q => by have := hC _ _ q; omega⟩), by rw [i 32 10 (by omega)]; exact h4, fun x hx => by rw [i 31 _ (by omega)]; exact h5 x hx⟩, ho, ht, by rw [i 30 2 (by omega)]; exact h9, h10.cg (fun a j q1 q2 => i a j (by omega)), h11.cg (fun a j q1 q2 => i a j (by omega))⟩, (hf.fx noC).mf (fun a k q => by have := hC a k q; omega) (fun a k q => q.elim)⟩
theorem MOld.fr {ch sl : Nat → Nat} {σ σ' : St} {C : Nat → Nat → Prop} (h : MOld ch sl σ) (hf : Fr C σ σ') (h1 : ∀ k, k = 5 ∨ k = 6 ∨ k = 10 ∨ k = 21 → ¬ C 30 k) (h2 : ∀ a k, 34 ≤ a → a ≤ 39 → ¬ C a k) (h3 : ∀ k, ¬ C 44 k) : MOld ch sl σ' :=
  h.elim (fun q => Or.inl (by rw [hf.i 30 21 (h1 21 (by omega))]; exact q)) (fun ⟨κ, q⟩ => Or.inr ⟨κ, q.fx (hf.fx noC) h1 h2 h3⟩)
theorem st_put (hp : PS ch sl t f s0 s1) (hc : CR ch sl t f s0 s1 S σ) (hm : MR ch sl t f s0 s1 σ) {z : Int} (hz : -2147483648 ≤ z ∧ z < 2147483648) : Step2 ch sl t f s0 s1 S σ (s_X10_put 1 (I z)) (s_X11_put 30 (I z)) := by
  refine mkStep (a := putA t z) (ch' := ch) (sl' := sl) (t' := putT t z) (f' := f) (s0' := s0) (s1' := s1) hm ⟨hp.1, hp.2.1.put z, hp.2.2⟩ ?_ (fun σ1 h => ?_)
  · obtain ⟨σ1, a1, a2, a3⟩ := c_put hc.h54.1 hc.2.2.1 hp.2.1 hz
    have hk := hc.1.fx hp.1.wipe.2.2.1 a2 (fun a k q => by unfold ctC at q; omega) (fun a k q => by unfold kpI at q; unfold ctC; omega)
    obtain ⟨b1, b2⟩ := hc.tri hk (a2.gx (fun a k q => Or.inr q) (fun _ _ q => q.elim)) a3
    exact ⟨σ1, S, a1, b1, by omega, b2, by rw [a2.1]; omega, by rw [a2.2.1]; omega⟩
  · obtain ⟨σ2, a1, a2, a3⟩ := m_put h.1.1.1 h.2.2.1 hp.2.1 hz
    obtain ⟨b1, b2⟩ := h.tri a2 (fun a k q => by unfold tmC at q; omega) (h.2.1.fr a2 (fun k hk => by unfold tmC; omega) (fun a k q1 q2 => by unfold tmC; omega) (fun k => by unfold tmC; omega)) a3
    exact ⟨σ2, a1, b1, b2⟩
theorem st_trial (hp : PS ch sl t f s0 s1) (hS : S < 100000) (hc : CR ch sl t f s0 s1 S σ) (hm : MR ch sl t f s0 s1 σ) {z : Int} (hz : -2147483648 ≤ z ∧ z < 2147483648) : Step2 ch sl t f s0 s1 S σ (s_X10_trial 1 (I z)) (s_X11_trial 30 (I z)) := by
  refine mkStep (a := triA (wCh ch) (wSl sl) z) (ch' := ch) (sl' := sl) (t' := triT (wCh ch) (wSl sl) t z) (f' := f) (s0' := s0) (s1' := s1) hm ⟨hp.1, hp.2.1.tri z, hp.2.2⟩ ?_ (fun σ1 h => ?_)
  · obtain ⟨σ1, S1, a1, a2, a3, a4, a5, a6, a7⟩ := c_trial hp.1.wipe hS hc.1 hc.2.2.1 hz
    obtain ⟨b1, b2⟩ := hc.tri a2 a4 a5
    exact ⟨σ1, S1, a1, b1, a3, b2, by omega, by omega⟩
  · obtain ⟨σ2, a1, a2, a3, a4, a5⟩ := m_trial hp.1.wipe (h.mt hp.1.1) h.2.1 h.2.2.1 hz
    obtain ⟨b1, b2⟩ := h.tri a2 (fun a k q => by unfold wtC wyC lyC mF lwC tmC at q; omega) a4 a5
    exact ⟨σ2, a1, b1, b2⟩
end
