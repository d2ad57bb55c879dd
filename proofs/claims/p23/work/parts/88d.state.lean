/-! one state of the document, and how both sides hold it -/
abbrev TS : Type := (Nat → Nat) × (Nat → Nat)
def SvC (k st arr : Nat) (o : Option TS) (σ : St) : Prop := match o with
  | none => sP σ 6 k = none
  | some x => sP σ 6 k = some st ∧ 30 ≤ st ∧ isO σ 6 st = true ∧ sP σ st 0 = some arr ∧ 30 ≤ arr ∧ isO σ 16 arr = true ∧ alen σ arr = 10 ∧ Stk arr x.1 x.2 σ
def SvS (s0 s1 : Option TS) (σ : St) : Prop := ∃ st0 arr0 st1 arr1, SvC 0 st0 arr0 s0 σ ∧ SvC 1 st1 arr1 s1 σ ∧ (s0.isSome = true → s1.isSome = true → st0 ≠ st1 ∧ arr0 ≠ arr1)
def CR (ch sl : Nat → Nat) (t : List Nat) (f : Int) (s0 s1 : Option TS) (S : Nat) (σ : St) : Prop := K (wCh ch) (wSl sl) S σ ∧ CB ch sl σ ∧ CTr σ t ∧ sI σ 1 10 = I f ∧ SvS s0 s1 σ
/-- the class's calls leave the reference and the script as they are -/
def CF (σ σ' : St) : Prop := sn σ ≤ sn σ' ∧ (∀ a, a < sn σ → sh σ' a = sh σ a) ∧ ∀ a k, a < 30 → a = 0 ∨ 30 ≤ a → sI σ' a k = sI σ a k ∧ sL σ' a k = sL σ a k
theorem CF.trans {σ σ1 σ2 : St} (h : CF σ σ1) (g : CF σ1 σ2) : CF σ σ2 := by
  obtain ⟨a1, a2, a3⟩ := h
  obtain ⟨b1, b2, b3⟩ := g
  exact ⟨by omega, fun a h => (b2 a (by omega)).trans (a2 a h), fun a k h q => ⟨(b3 a k h q).1.trans (a3 a k h q).1, (b3 a k h q).2.trans (a3 a k h q).2⟩⟩
theorem GX.cf {CI CL : Nat → Nat → Prop} {σ σ' : St} (h : GX CI CL σ σ') (h54 : 30 ≤ sn σ) (h1 : ∀ a k, CI a k → 1 ≤ a ∧ (a < 30 ∨ 30 ≤ a)) (h2 : ∀ a k, CL a k → 1 ≤ a ∧ (a < 30 ∨ 30 ≤ a)) : CF σ σ' :=
  ⟨h.1, h.2.1, fun a k ha q => ⟨h.2.2.1 a k (by omega) (fun p => by have := h1 a k p; omega), h.2.2.2.1 a k (by omega) (fun p => by have := h2 a k p; omega)⟩⟩
theorem SvC.gx {CI CL : Nat → Nat → Prop} {σ σ' : St} (h : GX CI CL σ σ') (h54 : 30 ≤ sn σ) (hc : ∀ a k, CI a k → a < 30) {k st arr : Nat} {o : Option TS} (hv : SvC k st arr o σ) : SvC k st arr o σ' := by
  have io : ∀ {q a : Nat}, isO σ q a = true → isO σ' q a = true ∧ a < sn σ := fun {q a} ho => by
    unfold isO at ho ⊢
    simp only [Bool.and_eq_true, decide_eq_true_eq] at ho ⊢
    obtain ⟨⟨h1, h2⟩, h3⟩ := ho
    rw [h.2.1 a h2]
    exact ⟨⟨⟨h1, by have := h.1; omega⟩, h3⟩, h2⟩
  cases o with
  | none => show sP σ' 6 k = none; rw [h.2.2.2.2 6 k (by omega)]; exact hv
  | some x =>
    obtain ⟨b1, b2, b3, b4, b5, b6, b7, b8⟩ := hv
    have i1 := io b3
    have i2 := io b6
    exact ⟨by rw [h.2.2.2.2 6 k (by omega)]; exact b1, b2, i1.1, by rw [h.2.2.2.2 st 0 i1.2]; exact b4, b5, i2.1, by unfold alen at b7 ⊢; rw [h.2.1 arr i2.2]; exact b7, h.stk hc i2.2 b8⟩
theorem SvS.gx {CI CL : Nat → Nat → Prop} {σ σ' : St} (h : GX CI CL σ σ') (h54 : 30 ≤ sn σ) (hc : ∀ a k, CI a k → a < 30) {s0 s1 : Option TS} (hv : SvS s0 s1 σ) : SvS s0 s1 σ' := by
  obtain ⟨a, b, c, d, h1, h2, h3⟩ := hv
  exact ⟨a, b, c, d, h1.gx h h54 hc, h2.gx h h54 hc, h3⟩
/-- texts of fewer slots -/
def Sub (ch sl ch' sl' : Nat → Nat) : Prop := Txt ch' sl' ∧ ∀ s, s < 10 → sl' s = 0 ∨ (sl' s = sl s ∧ ∀ i, i < 64 → ch' (64 * s + i) = ch (64 * s + i))
theorem Sub.one {ch sl ch' sl' : Nat → Nat} (ht : Txt ch sl) (hv : Valid ch sl) (h : Sub ch sl ch' sl') {s : Nat} (hs : s < 10) : nN ch' sl' s ≤ nN ch sl s ∧ lL ch' sl' s ≤ lL ch sl s ∧ (sl' s ≠ 0 → if s = 0 then fG ch' s (sl' s) = none else fO ch' s (sl' s) = none) := by
  rcases h.2 s hs with h0 | ⟨h1, h2⟩
  · unfold nN lL
    rw [if_pos h0, if_pos h0]
    exact ⟨Nat.zero_le _, Nat.zero_le _, fun q => absurd h0 q⟩
  · obtain ⟨e1, e2⟩ := sR_mv ht (t := s) (by omega) h2
    unfold nN lL sR
    rw [h1]
    by_cases c : sl s = 0
    · rw [if_pos c, if_pos c, if_pos c, if_pos c]
      exact ⟨Nat.le_refl _, Nat.le_refl _, fun q => absurd c q⟩
    · rw [if_neg c, if_neg c, if_neg c, if_neg c]
      by_cases c0 : s = 0
      · rw [if_pos c0, if_pos c0, e1]
        refine ⟨Nat.le_refl _, Nat.le_refl _, fun _ => ?_⟩
        rw [if_pos c0, fG_mv ht (t := s) (by omega) h2]
        have := hv s hs c
        rw [if_pos c0] at this
        exact this
      · rw [if_neg c0, if_neg c0, e2]
        refine ⟨Nat.le_refl _, Nat.le_refl _, fun _ => ?_⟩
        rw [if_neg c0, fO_mv ht (t := s) (by omega) h2]
        have := hv s hs c
        rw [if_neg c0] at this
        exact this
theorem tot_le {f g : Nat → Nat} {b : Nat} : ∀ k, (∀ s, s < k → f s ≤ g s) → tot f b k ≤ tot g b k := by
  intro k
  induction k with
  | zero => intro _; exact Nat.le_refl 0
  | succ k ih =>
    intro h
    have h1 := ih (fun s hs => h s (by omega))
    have h2 := h k (by omega)
    show tot f b k + (if k = b then 0 else f k) ≤ tot g b k + (if k = b then 0 else g k)
    split <;> omega
theorem GI.sub {ch sl ch' sl' : Nat → Nat} (h : GI ch sl) (hs : Sub ch sl ch' sl') : GI ch' sl' := by
  obtain ⟨ht, hv, hN, hL⟩ := h
  refine ⟨hs.1, fun s h1 h2 => (hs.one ht hv h1).2.2 h2, Nat.le_trans (tot_le 10 (fun s h1 => (hs.one ht hv h1).1)) hN, Nat.le_trans (tot_le 10 (fun s h1 => (hs.one ht hv h1).2.1)) hL⟩
theorem GI.wipe {ch sl : Nat → Nat} (h : GI ch sl) : GI (wCh ch) (wSl sl) := h.sub ⟨h.1.wipe, fun s hs => Or.inr ⟨wSl_s sl hs, fun i hi => wCh_s ch hs hi⟩⟩
theorem Stk.win {arr : Nat} {ch sl ch' sl' : Nat → Nat} {σ : St} (ht : Txt ch sl) (h : Stk arr ch sl σ) (hw : ∀ s, s < 10 → sl' s = sl s ∧ ∀ i, i < 64 → ch' (64 * s + i) = ch (64 * s + i)) : Stk arr ch' sl' σ := by
  intro s hs
  obtain ⟨w1, w2⟩ := hw s hs
  have := h s hs
  have h60 := (ht.1 s (by omega)).1
  rw [w1]
  by_cases c : sl s = 0
  · rw [if_pos c] at this ⊢; exact this
  · rw [if_neg c] at this ⊢
    obtain ⟨it, b1, b2⟩ := this
    obtain ⟨e1, e2⟩ := sR_mv ht (t := s) (by omega) w2
    refine ⟨it, b1, b2.ext (fun i hi => w2 i (by omega)) ?_ ?_⟩
    · unfold nN sR
      rw [w1, if_neg c, if_neg c]
      split
      · rw [e1]
      · rw [e2]
    · unfold lL sR
      rw [w1, if_neg c, if_neg c]
      split
      · rw [e1]
      · rw [e2]
