/-! one state of the document, and how both sides hold it -/
abbrev TS : Type := (Nat → Nat) × (Nat → Nat)
def SvC (k st arr : Nat) (o : Option TS) (σ : St) : Prop := match o with
  | none => sP σ 6 k = none
  | some x => sP σ 6 k = some st ∧ 54 ≤ st ∧ isO σ 6 st = true ∧ sP σ st 0 = some arr ∧ 54 ≤ arr ∧ isO σ 16 arr = true ∧ alen σ arr = 10 ∧ Stk arr x.1 x.2 σ
def SvS (s0 s1 : Option TS) (σ : St) : Prop := ∃ st0 arr0 st1 arr1, SvC 0 st0 arr0 s0 σ ∧ SvC 1 st1 arr1 s1 σ ∧ (s0.isSome = true → s1.isSome = true → st0 ≠ st1 ∧ arr0 ≠ arr1)
def SvM (k : Nat) (o : Option TS) (σ : St) : Prop := match o with
  | none => sI σ 53 k = 0
  | some x => sI σ 53 k = 1 ∧ (∀ s, s < 10 → sI σ 52 (10 * k + s) = if x.2 s = 0 then I (-6) else I (x.2 s : Nat)) ∧ ∀ s, s < 10 → ∀ i, i < x.2 s → sI σ 51 (600 * k + (60 * s + i)) = I (x.1 (64 * s + i) : Nat)
def OG (o : Option TS) : Prop := ∀ x, o = some x → GI x.1 x.2
def PS (ch sl : Nat → Nat) (t : List Nat) (f : Int) (s0 s1 : Option TS) : Prop := GI ch sl ∧ Tok t ∧ f = f ∧ OG s0 ∧ OG s1
def CR (ch sl : Nat → Nat) (t : List Nat) (f : Int) (s0 s1 : Option TS) (S : Nat) (σ : St) : Prop := K (wCh ch) (wSl sl) S σ ∧ CB ch sl σ ∧ CTr σ t ∧ sI σ 1 10 = I f ∧ SvS s0 s1 σ
def MR (ch sl : Nat → Nat) (t : List Nat) (f : Int) (s0 s1 : Option TS) (σ : St) : Prop := MTf ch sl σ ∧ MOld (wCh ch) (wSl sl) σ ∧ MTr σ t ∧ sI σ 30 2 = I f ∧ SvM 0 s0 σ ∧ SvM 1 s1 σ
/-- the class's calls leave the reference and the script as they are -/
def CF (σ σ' : St) : Prop := sn σ ≤ sn σ' ∧ (∀ a, a < sn σ → sh σ' a = sh σ a) ∧ ∀ a k, a < 54 → a = 0 ∨ 30 ≤ a → sI σ' a k = sI σ a k ∧ sL σ' a k = sL σ a k
/-- the reference's calls leave the class and the script as they are -/
def MF (σ σ' : St) : Prop := sn σ' = sn σ ∧ sz σ' = sz σ ∧ sh σ' = sh σ ∧ sP σ' = sP σ ∧ ∀ a k, a < 30 ∨ 54 ≤ a → sI σ' a k = sI σ a k ∧ sL σ' a k = sL σ a k
theorem CF.trans {σ σ1 σ2 : St} (h : CF σ σ1) (g : CF σ1 σ2) : CF σ σ2 := by
  obtain ⟨a1, a2, a3⟩ := h
  obtain ⟨b1, b2, b3⟩ := g
  exact ⟨by omega, fun a h => (b2 a (by omega)).trans (a2 a h), fun a k h q => ⟨(b3 a k h q).1.trans (a3 a k h q).1, (b3 a k h q).2.trans (a3 a k h q).2⟩⟩
theorem GX.cf {CI CL : Nat → Nat → Prop} {σ σ' : St} (h : GX CI CL σ σ') (h54 : 54 ≤ sn σ) (h1 : ∀ a k, CI a k → 1 ≤ a ∧ (a < 30 ∨ 54 ≤ a)) (h2 : ∀ a k, CL a k → 1 ≤ a ∧ (a < 30 ∨ 54 ≤ a)) : CF σ σ' :=
  ⟨h.1, h.2.1, fun a k ha q => ⟨h.2.2.1 a k (by omega) (fun p => by have := h1 a k p; omega), h.2.2.2.1 a k (by omega) (fun p => by have := h2 a k p; omega)⟩⟩
theorem FX.mf {CI CL : Nat → Nat → Prop} {σ σ' : St} (h : FX CI CL σ σ') (h1 : ∀ a k, CI a k → 30 ≤ a ∧ a < 54) (h2 : ∀ a k, CL a k → 30 ≤ a ∧ a < 54) : MF σ σ' :=
  ⟨h.1, h.2.1, h.2.2.1, h.2.2.2.1, fun a k q => ⟨h.i a k (fun p => by have := h1 a k p; omega), h.l a k (fun p => by have := h2 a k p; omega)⟩⟩
theorem MF.ss {σ σ' : St} (h : MF σ σ') (hs : SS σ) : SS σ' := by
  obtain ⟨a1, a2, a3, a4, _⟩ := h
  exact ⟨by rw [a1]; exact hs.1, fun a h1 h2 => by rw [a3]; exact hs.2.1 a h1 h2, fun q hq => by rw [a4]; exact hs.2.2 q hq⟩
theorem MF.itm {σ σ' : St} (h : MF σ σ') {it n k l : Nat} {x : Nat → Nat} (hi : Itm σ it n x k l) : Itm σ' it n x k l := by
  obtain ⟨b1, b2, b3, b4, c, b5, b6, b7, b8, b9⟩ := hi
  obtain ⟨a1, a2, a3, a4, a5⟩ := h
  exact ⟨by unfold isO at b1 ⊢; rw [a3, a1]; exact b1, b2, by rw [(a5 it 1 (Or.inr b2)).1]; exact b3, by rw [(a5 it 2 (Or.inr b2)).1]; exact b4, c, by rw [a4]; exact b5, b6, by unfold isO at b7 ⊢; rw [a3, a1]; exact b7, by unfold alen at b8 ⊢; rw [a3]; exact b8, fun i hi => by rw [(a5 c i (Or.inr b6)).1]; exact b9 i hi⟩
theorem MF.stk {σ σ' : St} (h : MF σ σ') {arr : Nat} {ch sl : Nat → Nat} (hst : Stk arr ch sl σ) : Stk arr ch sl σ' := by
  intro s hs
  have := hst s hs
  by_cases c : sl s = 0
  · rw [if_pos c] at this ⊢; rw [h.2.2.2.1]; exact this
  · rw [if_neg c] at this ⊢
    obtain ⟨it, b1, b2⟩ := this
    exact ⟨it, by rw [h.2.2.2.1]; exact b1, h.itm b2⟩
theorem SvC.mf {σ σ' : St} (h : MF σ σ') {k st arr : Nat} {o : Option TS} (hv : SvC k st arr o σ) : SvC k st arr o σ' := by
  cases o with
  | none => show sP σ' 6 k = none; rw [h.2.2.2.1]; exact hv
  | some x =>
    obtain ⟨b1, b2, b3, b4, b5, b6, b7, b8⟩ := hv
    obtain ⟨a1, a2, a3, a4, a5⟩ := h
    exact ⟨by rw [a4]; exact b1, b2, by unfold isO at b3 ⊢; rw [a3, a1]; exact b3, by rw [a4]; exact b4, b5, by unfold isO at b6 ⊢; rw [a3, a1]; exact b6, by unfold alen at b7 ⊢; rw [a3]; exact b7, MF.stk ⟨a1, a2, a3, a4, a5⟩ b8⟩
theorem SvC.gx {CI CL : Nat → Nat → Prop} {σ σ' : St} (h : GX CI CL σ σ') (h54 : 54 ≤ sn σ) (hc : ∀ a k, CI a k → a < 54) {k st arr : Nat} {o : Option TS} (hv : SvC k st arr o σ) : SvC k st arr o σ' := by
  have io : ∀ {q a : Nat}, isO σ q a = true → isO σ' q a = true ∧ a < sn σ := fun {q a} ho => by
    unfold isO at ho ⊢
    simp only [Bool.and_eq_true, decide_eq_true_eq] at ho ⊢
    obtain ⟨⟨h1, h2⟩, h3⟩ := ho
    rw [h.2.1 a h2]
    exact ⟨⟨⟨h1, by have := h.1; omega⟩, h3⟩, h2⟩
  cases o with
  | none => show sP σ' 6 k = none; rw [h.2.2.2.2 6 k (by omega)]; exact hv
  | some x =>
    obtain ⟨b1, b2, b3, b4, b5, b6, b7, b8⟩ := hv
    have i1 := io b3
    have i2 := io b6
    exact ⟨by rw [h.2.2.2.2 6 k (by omega)]; exact b1, b2, i1.1, by rw [h.2.2.2.2 st 0 i1.2]; exact b4, b5, i2.1, by unfold alen at b7 ⊢; rw [h.2.1 arr i2.2]; exact b7, h.stk hc i2.2 b8⟩
theorem SvS.gx {CI CL : Nat → Nat → Prop} {σ σ' : St} (h : GX CI CL σ σ') (h54 : 54 ≤ sn σ) (hc : ∀ a k, CI a k → a < 54) {s0 s1 : Option TS} (hv : SvS s0 s1 σ) : SvS s0 s1 σ' := by
  obtain ⟨a, b, c, d, h1, h2, h3⟩ := hv
  exact ⟨a, b, c, d, h1.gx h h54 hc, h2.gx h h54 hc, h3⟩
theorem CR.mf {ch sl : Nat → Nat} {t : List Nat} {f : Int} {s0 s1 : Option TS} {S : Nat} {σ σ' : St} (hN : tot (nN (wCh ch) (wSl sl)) 99 10 ≤ 60) (h : CR ch sl t f s0 s1 S σ) (hf : MF σ σ') : CR ch sl t f s0 s1 S σ' := by
  obtain ⟨h1, ⟨h2, h3⟩, ⟨h4, h5⟩, h6, a, b, c, d, h7, h8, h9⟩ := h
  have i := fun a k (q : a < 30) => (hf.2.2.2.2 a k (Or.inl q)).1
  exact ⟨h1.same hN (hf.ss h1.core.1.1) (hf.stk h1.core.1.2.2.2) (fun a k q => i a k (by unfold kpI at q; omega)) (fun a k q1 q2 => (hf.2.2.2.2 a k (Or.inl (by omega))).2), ⟨by rw [i 2 1 (by omega)]; exact h2, fun x hx => by rw [i 3 x (by omega)]; exact h3 x hx⟩, ⟨by rw [i 27 1 (by omega)]; exact h4, fun x v hx => by rw [i 28 x (by omega)]; exact h5 x v hx⟩, by rw [i 1 10 (by omega)]; exact h6, a, b, c, d, h7.mf hf, h8.mf hf, h9⟩
theorem SvM.cg {k : Nat} {o : Option TS} {σ σ' : St} (h : SvM k o σ) (hi : ∀ a j, 51 ≤ a → a ≤ 53 → sI σ' a j = sI σ a j) : SvM k o σ' := by
  cases o with
  | none => show sI σ' 53 k = 0; rw [hi 53 k (by omega) (by omega)]; exact h
  | some x =>
    obtain ⟨h1, h2, h3⟩ := h
    exact ⟨by rw [hi 53 k (by omega) (by omega)]; exact h1, fun s hs => by rw [hi 52 _ (by omega) (by omega)]; exact h2 s hs, fun s hs i hi2 => by rw [hi 51 _ (by omega) (by omega)]; exact h3 s hs i hi2⟩
theorem MR.cf {ch sl : Nat → Nat} {t : List Nat} {f : Int} {s0 s1 : Option TS} {σ σ' : St} (h : MR ch sl t f s0 s1 σ) (hf : CF σ σ') (hs : SS σ') : MR ch sl t f s0 s1 σ' := by
  obtain ⟨⟨⟨h1, h2, h3⟩, h4, h5⟩, h6, ⟨h7, h8⟩, h9, h10, h11⟩ := h
  have i := fun a k (q1 : 30 ≤ a) (q2 : a < 54) => (hf.2.2 a k q2 (Or.inr q1)).1
  refine ⟨⟨⟨hs, fun s hs => by rw [i 32 s (by omega) (by omega)]; exact h2 s hs, fun s hs x hx => by rw [i 31 _ (by omega) (by omega)]; exact h3 s hs x hx⟩, by rw [i 32 10 (by omega) (by omega)]; exact h4, fun x hx => by rw [i 31 _ (by omega) (by omega)]; exact h5 x hx⟩, ?_, ⟨by rw [i 30 4 (by omega) (by omega)]; exact h7, fun x v hx => by rw [i 33 x (by omega) (by omega)]; exact h8 x v hx⟩, by rw [i 30 2 (by omega) (by omega)]; exact h9, h10.cg (fun a j q1 q2 => i a j (by omega) (by omega)), h11.cg (fun a j q1 q2 => i a j (by omega) (by omega))⟩
  rcases h6 with h6 | ⟨κ, a, ⟨b, c, d, e⟩, g⟩
  · exact Or.inl (by rw [i 30 21 (by omega) (by omega)]; exact h6)
  · exact Or.inr ⟨κ, by rw [i 30 21 (by omega) (by omega)]; exact a, ⟨by rw [i 30 5 (by omega) (by omega)]; exact b, by rw [i 30 6 (by omega) (by omega)]; exact c, d.fr (fun a k q1 q2 => i a k (by omega) (by omega)), fun q => by rw [i 30 10 (by omega) (by omega)]; exact e q⟩, fun x hx => by rw [i 44 x (by omega) (by omega)]; exact g x hx⟩
/-- texts of fewer slots -/
def Sub (ch sl ch' sl' : Nat → Nat) : Prop := Txt ch' sl' ∧ ∀ s, s < 10 → sl' s = 0 ∨ (sl' s = sl s ∧ ∀ i, i < 64 → ch' (64 * s + i) = ch (64 * s + i))
theorem Sub.one {ch sl ch' sl' : Nat → Nat} (ht : Txt ch sl) (hv : Valid ch sl) (h : Sub ch sl ch' sl') {s : Nat} (hs : s < 10) : nN ch' sl' s ≤ nN ch sl s ∧ lL ch' sl' s ≤ lL ch sl s ∧ (sl' s ≠ 0 → if s = 0 then fG ch' s (sl' s) = none else fO ch' s (sl' s) = none) := by
  rcases h.2 s hs with h0 | ⟨h1, h2⟩
  · unfold nN lL
    rw [if_pos h0, if_pos h0]
    exact ⟨Nat.zero_le _, Nat.zero_le _, fun q => absurd h0 q⟩
  · obtain ⟨e1, e2⟩ := sR_mv ht (t := s) (by omega) h2
    unfold nN lL sR
    rw [h1]
    by_cases c : sl s = 0
    · rw [if_pos c, if_pos c, if_pos c, if_pos c]
      exact ⟨Nat.le_refl _, Nat.le_refl _, fun q => absurd c q⟩
    · rw [if_neg c, if_neg c, if_neg c, if_neg c]
      by_cases c0 : s = 0
      · rw [if_pos c0, if_pos c0, e1]
        refine ⟨Nat.le_refl _, Nat.le_refl _, fun _ => ?_⟩
        rw [if_pos c0, fG_mv ht (t := s) (by omega) h2]
        have := hv s hs c
        rw [if_pos c0] at this
        exact this
      · rw [if_neg c0, if_neg c0, e2]
        refine ⟨Nat.le_refl _, Nat.le_refl _, fun _ => ?_⟩
        rw [if_neg c0, fO_mv ht (t := s) (by omega) h2]
        have := hv s hs c
        rw [if_neg c0] at this
        exact this
theorem tot_le {f g : Nat → Nat} {b : Nat} : ∀ k, (∀ s, s < k → f s ≤ g s) → tot f b k ≤ tot g b k := by
  intro k
  induction k with
  | zero => intro _; exact Nat.le_refl 0
  | succ k ih =>
    intro h
    have h1 := ih (fun s hs => h s (by omega))
    have h2 := h k (by omega)
    show tot f b k + (if k = b then 0 else f k) ≤ tot g b k + (if k = b then 0 else g k)
    split <;> omega
theorem GI.sub {ch sl ch' sl' : Nat → Nat} (h : GI ch sl) (hs : Sub ch sl ch' sl') : GI ch' sl' := by
  obtain ⟨ht, hv, hN, hL⟩ := h
  refine ⟨hs.1, fun s h1 h2 => (hs.one ht hv h1).2.2 h2, Nat.le_trans (tot_le 10 (fun s h1 => (hs.one ht hv h1).1)) hN, Nat.le_trans (tot_le 10 (fun s h1 => (hs.one ht hv h1).2.1)) hL⟩
theorem GI.wipe {ch sl : Nat → Nat} (h : GI ch sl) : GI (wCh ch) (wSl sl) := h.sub ⟨h.1.wipe, fun s hs => Or.inr ⟨wSl_s sl hs, fun i hi => wCh_s ch hs hi⟩⟩
theorem wCh_wCh (ch : Nat → Nat) : wCh (wCh ch) = wCh ch := by
  funext i
  unfold wCh
  by_cases c : 640 ≤ i ∧ i < 704
  · rw [if_pos c, if_pos c]
  · rw [if_neg c, if_neg c]
theorem wSl_wSl (sl : Nat → Nat) : wSl (wSl sl) = wSl sl := by
  funext i
  unfold wSl
  by_cases c : i = 10
  · rw [if_pos c, if_pos c]
  · rw [if_neg c, if_neg c]
theorem Stk.win {arr : Nat} {ch sl ch' sl' : Nat → Nat} {σ : St} (ht : Txt ch sl) (h : Stk arr ch sl σ) (hw : ∀ s, s < 10 → sl' s = sl s ∧ ∀ i, i < 64 → ch' (64 * s + i) = ch (64 * s + i)) : Stk arr ch' sl' σ := by
  intro s hs
  obtain ⟨w1, w2⟩ := hw s hs
  have := h s hs
  have h60 := (ht.1 s (by omega)).1
  rw [w1]
  by_cases c : sl s = 0
  · rw [if_pos c] at this ⊢; exact this
  · rw [if_neg c] at this ⊢
    obtain ⟨it, b1, b2⟩ := this
    obtain ⟨e1, e2⟩ := sR_mv ht (t := s) (by omega) w2
    refine ⟨it, b1, b2.ext (fun i hi => w2 i (by omega)) ?_ ?_⟩
    · unfold nN sR
      rw [w1, if_neg c, if_neg c]
      split
      · rw [e1]
      · rw [e2]
    · unfold lL sR
      rw [w1, if_neg c, if_neg c]
      split
      · rw [e1]
      · rw [e2]
theorem MT.win {ch sl ch' sl' : Nat → Nat} {σ : St} (ht : Txt ch sl) (h : MT ch sl σ) (hw : ∀ s, s < 10 → sl' s = sl s ∧ ∀ i, i < 64 → ch' (64 * s + i) = ch (64 * s + i)) : MT ch' sl' σ :=
  ⟨h.1, fun s hs => by rw [(hw s hs).1]; exact h.2.1 s hs, fun s hs i hi => by rw [(hw s hs).1] at hi; have h60 := (ht.1 s (by omega)).1; rw [(hw s hs).2 i (by omega)]; exact h.2.2 s hs i hi⟩
theorem win_w (ch sl : Nat → Nat) : ∀ s, s < 10 → wSl sl s = sl s ∧ ∀ i, i < 64 → wCh ch (64 * s + i) = ch (64 * s + i) := fun s hs => ⟨wSl_s sl hs, fun i hi => wCh_s ch hs hi⟩
