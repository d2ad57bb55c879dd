/-! the class prepares -/
def GX (CI CL : Nat → Nat → Prop) (σ σ' : St) : Prop := sn σ ≤ sn σ' ∧ (∀ a, a < sn σ → sh σ' a = sh σ a) ∧ (∀ a k, a < sn σ → ¬ CI a k → sI σ' a k = sI σ a k) ∧ (∀ a k, a < sn σ → ¬ CL a k → sL σ' a k = sL σ a k) ∧ ∀ a k, a < sn σ → sP σ' a k = sP σ a k
theorem GX.refl {CI CL : Nat → Nat → Prop} (σ : St) : GX CI CL σ σ := ⟨Nat.le_refl _, fun _ _ => rfl, fun _ _ _ _ => rfl, fun _ _ _ _ => rfl, fun _ _ _ => rfl⟩
theorem GX.trans {CI CL : Nat → Nat → Prop} {σ σ1 σ2 : St} (h : GX CI CL σ σ1) (g : GX CI CL σ1 σ2) : GX CI CL σ σ2 := by
  obtain ⟨a1, a2, a3, a4, a5⟩ := h
  obtain ⟨b1, b2, b3, b4, b5⟩ := g
  exact ⟨by omega, fun a h => (b2 a (by omega)).trans (a2 a h), fun a k h q => (b3 a k (by omega) q).trans (a3 a k h q), fun a k h q => (b4 a k (by omega) q).trans (a4 a k h q), fun a k h => (b5 a k (by omega)).trans (a5 a k h)⟩
theorem FX.gx {CI CL CI' CL' : Nat → Nat → Prop} {σ σ' : St} (h : FX CI CL σ σ') (h1 : ∀ a k, CI a k → CI' a k) (h2 : ∀ a k, CL a k → CL' a k) : GX CI' CL' σ σ' :=
  ⟨by rw [h.1]; exact Nat.le_refl _, fun a _ => by rw [h.2.2.1], fun a k _ q => h.i a k (fun p => q (h1 a k p)), fun a k _ q => h.l a k (fun p => q (h2 a k p)), fun a k _ => by rw [h.2.2.2.1]⟩
theorem Gr.gx {CI CI' CL' : Nat → Nat → Prop} {σ σ' : St} (h : Gr CI (fun _ _ => False) σ σ') (h1 : ∀ a k, CI a k → CI' a k) : GX CI' CL' σ σ' :=
  ⟨h.1, h.2.1, fun a k ha q => h.2.2.1 a k ha (fun p => q (h1 a k p)), fun a k ha _ => h.2.2.2.1 a k ha, fun a k ha => h.2.2.2.2 a k ha (fun q => q)⟩
theorem GX.ss {CI CL : Nat → Nat → Prop} {σ σ' : St} (h : GX CI CL σ σ') (hs : SS σ) : SS σ' := by
  obtain ⟨a1, a2, a3, a4, a5⟩ := h
  obtain ⟨s1, s2, s3⟩ := hs
  refine ⟨by omega, fun a h1 h2 => by rw [a2 a (by omega)]; exact s2 a h1 h2, fun q hq => ?_⟩
  have hk : q.1 < 30 := by
    have : ∀ q ∈ stP, q.1 < 30 := by decide
    exact this q hq
  rw [a5 _ _ (by omega)]
  exact s3 q hq
theorem GX.itm {CI CL : Nat → Nat → Prop} {σ σ' : St} (h : GX CI CL σ σ') (hc : ∀ a k, CI a k → a < 30) {it n k l : Nat} {x : Nat → Nat} (hi : Itm σ it n x k l) : Itm σ' it n x k l :=
  hi.gr (CI := CI) (CP := fun _ _ => False) (σ' := (sn σ', sz σ', sh σ', sI σ', sL σ, sP σ')) ⟨h.1, h.2.1, h.2.2.1, fun _ _ _ => rfl, fun a k ha _ => h.2.2.2.2 a k ha⟩ hc (fun a k q => q.elim)
theorem GX.stk {CI CL : Nat → Nat → Prop} {σ σ' : St} (h : GX CI CL σ σ') (hc : ∀ a k, CI a k → a < 30) {arr : Nat} (ha : arr < sn σ) {ch sl : Nat → Nat} (hst : Stk arr ch sl σ) : Stk arr ch sl σ' := by
  intro s hs
  have := hst s hs
  by_cases c : sl s = 0
  · rw [if_pos c] at this ⊢; rw [h.2.2.2.2 arr s ha]; exact this
  · rw [if_neg c] at this ⊢
    obtain ⟨it, b1, b2⟩ := this
    exact ⟨it, by rw [h.2.2.2.2 arr s ha]; exact b1, h.itm hc b2⟩
/-- the class's counts bear no stamp above this -/
def Wst (S : Nat) (σ : St) : Prop := sL σ 23 3 = L (S : Nat) ∧ ∀ i, i < 153600 → ∃ st v : Nat, sL σ 24 i = L ((4294967296 * st + v : Nat) : Int) ∧ v < 4294967296 ∧ st ≤ S
def FPc (ch sl : Nat → Nat) (σ : St) : Prop := sI σ 25 5 = 0 ∨ (sI σ 25 5 = 1 ∧ sI σ 25 4 = bI (decide (0 < hgt ch (all5 sl))) ∧ FPS σ (fpL ch sl))
def KR (ch sl : Nat → Nat) (S : Nat) (κ : Nat → Nat) (σ : St) : Prop := (SS σ ∧ Apt σ ∧ Z0 σ ∧ Stk 5 ch sl σ) ∧ sI σ 1 11 = 0 ∧ Pln ch sl σ κ ∧ Rdy ch κ (tot (nN ch sl) 99 10) σ ∧ Wmem ch κ (tot (nN ch sl) 99 10) S σ ∧ FPc ch sl σ
def K (ch sl : Nat → Nat) (S : Nat) (σ : St) : Prop := (∃ κ, KR ch sl S κ σ) ∨ ((SS σ ∧ Apt σ ∧ Z0 σ ∧ Stk 5 ch sl σ) ∧ sI σ 1 11 = 1 ∧ Wst S σ)
theorem Wmem.st {ch κ : Nat → Nat} {N S : Nat} {σ : St} (h : Wmem ch κ N S σ) : Wst S σ := ⟨h.1, fun i hi => by obtain ⟨st, v, a, b, c, _⟩ := h.2.2.2 i hi; exact ⟨st, v, a, b, c⟩⟩
theorem K.core {ch sl : Nat → Nat} {S : Nat} {σ : St} (h : K ch sl S σ) : (SS σ ∧ Apt σ ∧ Z0 σ ∧ Stk 5 ch sl σ) ∧ Wst S σ := by
  rcases h with ⟨κ, a, _, _, _, b, _⟩ | ⟨a, _, b⟩
  · exact ⟨a, b.st⟩
  · exact ⟨a, b⟩
theorem KR.pg {ch sl κ : Nat → Nat} {S : Nat} {σ : St} (hg : GI ch sl) (h : KR ch sl S κ σ) : PG ch κ (tot (nN ch sl) 99 10) σ := ⟨h.1.1, hg.2.2.1, h.2.2.1.1, ⟨_, h.2.2.1.2.1⟩, hg.1.2⟩
def clI : Nat → Nat → Prop := fun a k => (13 ≤ a ∧ a ≤ 19) ∨ a = 25 ∨ a = 26 ∨ a = 29 ∨ (a = 1 ∧ k = 11)
def clL : Nat → Nat → Prop := fun a _ => 20 ≤ a ∧ a ≤ 24 ∧ a ≠ 22
theorem clI_lt : ∀ a k, clI a k → a < 30 := fun a k h => by unfold clI at h; omega
/-- the class is to prepare anew -/
def ee (σ : St) : Nat := if sI σ 1 11 = 0 then 0 else 1
theorem ee_0 {σ : St} (h : sI σ 1 11 = 0) : ee σ = 0 := by unfold ee; rw [if_pos h]
theorem ee_1 {σ : St} (h : sI σ 1 11 = 1) : ee σ = 1 := by unfold ee; rw [h, if_neg (by decide)]
theorem ee_cg {σ σ' : St} (h : sI σ' 1 11 = sI σ 1 11) : ee σ' = ee σ := by unfold ee; rw [h]
theorem q_prepare {ch sl : Nat → Nat} (hg : GI ch sl) {S : Nat} (hS : S < 100000) {σ : St} (hk : K ch sl S σ) :
    ∃ σ' S' κ, s_X10_prepare 1 σ = some ((), σ') ∧ KR ch sl S' κ σ' ∧ S' ≤ S + ee σ ∧ GX clI clL σ σ' ∧ sn σ' ≤ sn σ + 10 * ee σ ∧ sz σ' ≤ sz σ + 40 * ee σ := by
  obtain ⟨ht, hv, hN, hL⟩ := hg
  rcases hk with ⟨κ, hk⟩ | ⟨⟨hs, hA, hZ, hst⟩, h11, hw⟩
  · refine ⟨σ, S, κ, ?_, hk, by omega, GX.refl σ, by omega, by omega⟩
    unfold s_X10_prepare
    rw [if_pos (hk.1.1.o 10 1 (by decide)), hk.2.1, if_pos rfl]
  · have he := ee_1 h11
    rw [he]
    have h54 := hs.1
    obtain ⟨σ1, κ, a1, a2, a3, a4, a5, a6, a7⟩ := q_build ht hv hN hL hs hst
    have g1 : GX clI clL σ σ1 := a5.gx (fun a k q => by unfold bdI at q; unfold clI; omega)
    have hA1 : Apt σ1 := fun i j hi hj => by rw [a5.2.2.2.1 22 i (by omega)]; exact hA i j hi hj
    have hZ1 : Z0 σ1 := fun k hk => by rw [a5.2.2.2.1 20 k (by omega)]; exact hZ k hk
    have hpg1 : PG ch κ (tot (nN ch sl) 99 10) σ1 := ⟨a3, hN, a2.1, ⟨_, a2.2.1⟩, ht.2⟩
    obtain ⟨σ2, b1, b2, b3⟩ := q_compute hpg1 hA1 hZ1
    have hs2 := b2.ss a3
    have g2 : GX clI clL σ1 σ2 := b2.gx (fun a k q => by unfold cpI at q; unfold clI; omega) (fun a k q => by unfold cpL at q; unfold clL; omega)
    have e23 : sL σ2 23 3 = L (S : Nat) := by rw [b2.l 23 3 (by unfold cpL; omega), a5.2.2.2.1 23 3 (by omega)]; exact hw.1
    have eL1 : L (S : Nat) + 1 = L ((S + 1 : Nat) : Int) := by rw [show (1 : Int64) = L ((1 : Nat) : Int) from rfl, L_add]; rfl
    have f3 : FX (fun a k => (a = 25 ∧ k = 5) ∨ (a = 1 ∧ k = 11)) (fun a k => a = 23 ∧ k = 3) σ2 (setI (setI (setL σ2 23 3 (L ((S + 1 : Nat) : Int))) 25 5 0) 1 11 0) := ((FX.setL 23 3 _ ⟨rfl, rfl⟩).trans (FX.setI 25 5 _ (Or.inl ⟨rfl, rfl⟩))).trans (FX.setI 1 11 _ (Or.inr ⟨rfl, rfl⟩))
    have g3 : GX clI clL σ2 (setI (setI (setL σ2 23 3 (L ((S + 1 : Nat) : Int))) 25 5 0) 1 11 0) := f3.gx (fun a k q => by unfold clI; omega) (fun a k q => by unfold clL; omega)
    have n2 : sn σ2 = sn σ1 := b2.1
    have z2 : sz σ2 = sz σ1 := b2.2.1
    refine ⟨_, S + 1, κ, ?_, ⟨⟨f3.ss hs2, (hA1.fx b2 (fun k => by unfold cpL; omega)).fx f3 (fun k => by omega), (hZ1.fx b2 (fun k hk => by unfold cpL; omega)).fx f3 (fun k hk => by omega), g3.stk clI_lt (by have := hs2.1; omega) (g2.stk clI_lt (by have := a3.1; omega) a4)⟩, sIe, ?_, ?_, ?_, Or.inl (by rw [sIn (by omega), sIe])⟩, by omega, (g1.trans g2).trans g3, by show sn σ2 ≤ _; omega, by show sz σ2 ≤ _; omega⟩
    · unfold s_X10_prepare s_X9_forget s_X0_forget
      have hs3 := (hs2.l 23 3 (L ((S + 1 : Nat) : Int)))
      have hs4 := hs3.i 25 5 0
      rw [if_pos (hs.o 10 1 (by decide)), h11, if_neg (by decide), hs.p 1 4 13 (by decide), op_eq, hs.p 1 1 4 (by decide), op_eq, if_pos (hs.o 3 13 (by decide)), a1, bd_eq, if_pos (a3.o 10 1 (by decide)), a3.p 1 5 19 (by decide), op_eq, if_pos (a3.o 4 19 (by decide)), b1, bd_eq, if_pos (hs2.o 10 1 (by decide)), hs2.p 1 6 23 (by decide), op_eq, if_pos (hs2.o 9 23 (by decide)), if_pos (hs2.o 9 23 (by decide)), e23, eL1, lt_eq, bd_eq, if_pos (hs3.o 10 1 (by decide)), hs3.p 1 7 25 (by decide), op_eq, if_pos (hs3.o 0 25 (by decide)), if_pos (hs3.o 0 25 (by decide)), lt_eq, bd_eq, if_pos (hs4.o 10 1 (by decide)), lt_eq]
    · obtain ⟨p1, p2, p3⟩ := a2
      have f23 : ∀ a k, 13 ≤ a → a ≤ 18 → sI (setI (setI (setL σ2 23 3 (L ((S + 1 : Nat) : Int))) 25 5 0) 1 11 0) a k = sI σ1 a k := fun a k h1 h2 => by rw [f3.i a k (by omega), b2.i a k (by unfold cpI; omega)]
      exact ⟨by rw [f23 13 5 (by omega) (by omega)]; exact p1, p2.mv (fun a h1 h2 => funext (fun k => f23 a k (by omega) (by omega))) rfl, fun q => by obtain ⟨r, r1, r2, r3⟩ := p3 q; exact ⟨r, r1, by rw [f23 13 7 (by omega) (by omega)]; exact r2, r3⟩⟩
    · exact b3.fx hN f3 (by omega) (fun k => by omega)
    · refine ⟨by show sL (setI (setI (setL σ2 23 3 (L ((S + 1 : Nat) : Int))) 25 5 0) 1 11 0) 23 3 = _; rw [sL_I, sL_I, sL_L, if_pos ⟨rfl, rfl⟩], by omega, by omega, fun i hi => ?_⟩
      obtain ⟨st, v, q1, q2, q3⟩ := hw.2 i hi
      refine ⟨st, v, ?_, q2, by omega, fun q => by omega⟩
      rw [f3.l 24 i (by omega), b2.l 24 i (by unfold cpL; omega), a5.2.2.2.1 24 i (by omega)]
      exact q1
