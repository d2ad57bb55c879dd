/-! a call on both sides: the same answer, and the new state -/
/-- the class's half of a call -/
def CHf (ch sl : Nat → Nat) (t : List Nat) (f : Int) (s0 s1 : Option TS) (S : Nat) (σ : St) (r : Option (Int32 × St)) (a : Int32) : Prop := ∃ σ1 S', r = some (a, σ1) ∧ CR ch sl t f s0 s1 S' σ1 ∧ S' ≤ S + 1 ∧ CF σ σ1 ∧ sn σ1 ≤ sn σ + 12 ∧ sz σ1 ≤ sz σ + 80
theorem CR.h54 {ch sl : Nat → Nat} {t : List Nat} {f : Int} {s0 s1 : Option TS} {S : Nat} {σ : St} (h : CR ch sl t f s0 s1 S σ) : SS σ ∧ 30 ≤ sn σ := ⟨h.1.core.1.1, h.1.core.1.1.1⟩
theorem CF.refl (σ : St) : CF σ σ := ⟨Nat.le_refl _, fun _ _ => rfl, fun _ _ _ _ => ⟨rfl, rfl⟩⟩
theorem CHf.now {ch sl : Nat → Nat} {t : List Nat} {f : Int} {s0 s1 : Option TS} {S : Nat} {σ : St} {a : Int32} (h : CR ch sl t f s0 s1 S σ) : CHf ch sl t f s0 s1 S σ (some (a, σ)) a := ⟨σ, S, rfl, h, by omega, CF.refl σ, by omega, by omega⟩
theorem clI_cf : ∀ a k, clI a k → 1 ≤ a ∧ (a < 30 ∨ 30 ≤ a) := fun a k h => by unfold clI at h; omega
theorem clL_cf : ∀ a k, clL a k → 1 ≤ a ∧ (a < 30 ∨ 30 ≤ a) := fun a k h => by unfold clL at h; omega
/-- the class asks itself -/
theorem askC.half {ch sl : Nat → Nat} {t : List Nat} {f : Int} {s0 s1 : Option TS} {S : Nat} {σ : St} {r : Option (Int32 × St)} {a : Int32} (hc : CR ch sl t f s0 s1 S σ) (h : askC (wCh ch) (wSl sl) S σ r a) : CHf ch sl t f s0 s1 S σ r a := by
  obtain ⟨σ1, S1, a1, a2, a3, a4, a5, a6⟩ := h
  obtain ⟨hs, h54⟩ := hc.h54
  obtain ⟨_, ⟨h2, h3⟩, ⟨h4, h5⟩, h6, h7⟩ := hc
  have i := fun a k (q1 : a < 30) (q2 : ¬ clI a k) => a4.2.2.1 a k (by omega) q2
  exact ⟨σ1, S1, a1, ⟨a2, ⟨by rw [i 2 1 (by omega) (by unfold clI; omega)]; exact h2, fun x hx => by rw [i 3 x (by omega) (by unfold clI; omega)]; exact h3 x hx⟩, ⟨by rw [i 27 1 (by omega) (by unfold clI; omega)]; exact h4, fun x v hx => by rw [i 28 x (by omega) (by unfold clI; omega)]; exact h5 x v hx⟩, by rw [i 1 10 (by omega) (by unfold clI; omega)]; exact h6, h7.gx a4 h54 clI_lt⟩, a3, a4.cf h54 clI_cf clL_cf, by omega, by omega⟩
section
variable {ch sl : Nat → Nat} {t : List Nat} {f : Int} {s0 s1 : Option TS} {S : Nat} {σ : St}
/-- the trial changes on both sides -/
theorem CR.tri {t' : List Nat} {σ1 : St} {S' : Nat} (hc : CR ch sl t f s0 s1 S σ) (hk : K (wCh ch) (wSl sl) S' σ1) (hg : GX clT clL σ σ1) (ht : CTr σ1 t') : CR ch sl t' f s0 s1 S' σ1 ∧ CF σ σ1 := by
  obtain ⟨hs, h54⟩ := hc.h54
  obtain ⟨_, ⟨h2, h3⟩, _, h6, h7⟩ := hc
  have i := fun a k (q1 : a < 30) (q2 : ¬ clT a k) => hg.2.2.1 a k (by omega) q2
  exact ⟨⟨hk, ⟨by rw [i 2 1 (by omega) (by unfold clT clI ctC; omega)]; exact h2, fun x hx => by rw [i 3 x (by omega) (by unfold clT clI ctC; omega)]; exact h3 x hx⟩, ht, by rw [i 1 10 (by omega) (by unfold clT clI ctC; omega)]; exact h6, h7.gx hg h54 (fun a k q => by unfold clT clI ctC at q; omega)⟩, hg.cf h54 (fun a k q => by unfold clT clI ctC at q; omega) clL_cf⟩
end
