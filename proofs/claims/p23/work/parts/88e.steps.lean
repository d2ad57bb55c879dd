/-! a call on both sides: the same answer, and the new state -/
theorem CR.h54 {ch sl : Nat → Nat} {t : List Nat} {f : Int} {s0 s1 : Option TS} {S : Nat} {σ : St} (h : CR ch sl t f s0 s1 S σ) : SS σ ∧ 30 ≤ sn σ := ⟨h.1.core.1.1, h.1.core.1.1.1⟩
theorem CF.refl (σ : St) : CF σ σ := ⟨Nat.le_refl _, fun _ _ => rfl, fun _ _ _ _ => ⟨rfl, rfl⟩⟩
theorem clI_cf : ∀ a k, clI a k → 1 ≤ a ∧ (a < 30 ∨ 30 ≤ a) := fun a k h => by unfold clI at h; omega
theorem clL_cf : ∀ a k, clL a k → 1 ≤ a ∧ (a < 30 ∨ 30 ≤ a) := fun a k h => by unfold clL at h; omega
section
variable {ch sl : Nat → Nat} {t : List Nat} {f : Int} {s0 s1 : Option TS} {S : Nat} {σ : St}
/-- the trial changes on both sides -/
theorem CR.tri {t' : List Nat} {σ1 : St} {S' : Nat} (hc : CR ch sl t f s0 s1 S σ) (hk : K (wCh ch) (wSl sl) S' σ1) (hg : GX clT clL σ σ1) (ht : CTr σ1 t') : CR ch sl t' f s0 s1 S' σ1 ∧ CF σ σ1 := by
  obtain ⟨hs, h54⟩ := hc.h54
  obtain ⟨_, ⟨h2, h3⟩, _, h6, h7⟩ := hc
  have i := fun a k (q1 : a < 30) (q2 : ¬ clT a k) => hg.2.2.1 a k (by omega) q2
  exact ⟨⟨hk, ⟨by rw [i 2 1 (by omega) (by unfold clT clI ctC; omega)]; exact h2, fun x hx => by rw [i 3 x (by omega) (by unfold clT clI ctC; omega)]; exact h3 x hx⟩, ht, by rw [i 1 10 (by omega) (by unfold clT clI ctC; omega)]; exact h6, h7.gx hg h54 (fun a k q => by unfold clT clI ctC at q; omega)⟩, hg.cf h54 (fun a k q => by unfold clT clI ctC at q; omega) clL_cf⟩
end
