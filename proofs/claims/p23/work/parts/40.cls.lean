/-! the class's calls make new cells: what stays -/
def Gr (CI CP : Nat → Nat → Prop) (σ σ' : St) : Prop := sn σ ≤ sn σ' ∧ (∀ a, a < sn σ → sh σ' a = sh σ a) ∧ (∀ a k, a < sn σ → ¬ CI a k → sI σ' a k = sI σ a k) ∧ (∀ a k, a < sn σ → sL σ' a k = sL σ a k) ∧ (∀ a k, a < sn σ → ¬ CP a k → sP σ' a k = sP σ a k)
theorem Gr.refl {CI CP : Nat → Nat → Prop} (σ : St) : Gr CI CP σ σ := ⟨Nat.le_refl _, fun _ _ => rfl, fun _ _ _ _ => rfl, fun _ _ _ => rfl, fun _ _ _ _ => rfl⟩
theorem Gr.trans {CI CP : Nat → Nat → Prop} {σ σ1 σ2 : St} (h : Gr CI CP σ σ1) (h2 : Gr CI CP σ1 σ2) : Gr CI CP σ σ2 := by
  obtain ⟨a1, a2, a3, a4, a5⟩ := h
  obtain ⟨b1, b2, b3, b4, b5⟩ := h2
  exact ⟨by omega, fun a ha => (b2 a (by omega)).trans (a2 a ha), fun a k ha hc => (b3 a k (by omega) hc).trans (a3 a k ha hc), fun a k ha => (b4 a k (by omega)).trans (a4 a k ha), fun a k ha hc => (b5 a k (by omega) hc).trans (a5 a k ha hc)⟩
theorem Gr.mono {CI CP CI' CP' : Nat → Nat → Prop} {σ σ' : St} (h : Gr CI CP σ σ') (h1 : ∀ a k, a < sn σ → CI a k → CI' a k) (h2 : ∀ a k, a < sn σ → CP a k → CP' a k) : Gr CI' CP' σ σ' :=
  ⟨h.1, h.2.1, fun a k ha hc => h.2.2.1 a k ha (fun q => hc (h1 a k ha q)), h.2.2.2.1, fun a k ha hc => h.2.2.2.2 a k ha (fun q => hc (h2 a k ha q))⟩
theorem Fr.gr {C CP : Nat → Nat → Prop} {σ σ' : St} (h : Fr C σ σ') : Gr C CP σ σ' :=
  ⟨by rw [h.1]; exact Nat.le_refl _, fun a _ => by rw [h.2.2.1], fun a k _ hc => h.i a k hc, fun a k _ => by rw [h.2.2.2.1], fun a k _ _ => by rw [h.2.2.2.2.1]⟩
theorem Gr.ss {CI CP : Nat → Nat → Prop} {σ σ' : St} (h : Gr CI CP σ σ') (hs : SS σ) (hc : ∀ a k, CP a k → a = 5 ∨ a = 6 ∨ 30 ≤ a) : SS σ' := by
  obtain ⟨a1, a2, a3, a4, a5⟩ := h
  obtain ⟨s1, s2, s3⟩ := hs
  refine ⟨by omega, fun a h1 h2 => by rw [a2 a (by omega)]; exact s2 a h1 h2, fun q hq => ?_⟩
  have hk : q.1 ≠ 5 ∧ q.1 ≠ 6 ∧ q.1 < 30 := by
    have : ∀ q ∈ stP, q.1 ≠ 5 ∧ q.1 ≠ 6 ∧ q.1 < 30 := by decide
    exact this q hq
  rw [a5 q.1 q.2.1 (by omega) (fun q2 => by have := hc _ _ q2; omega)]
  exact s3 q hq
theorem Gr.o {CI CP : Nat → Nat → Prop} {σ σ' : St} (h : Gr CI CP σ σ') {k a : Nat} (ho : isO σ k a = true) : isO σ' k a = true := by
  unfold isO at ho ⊢
  simp only [Bool.and_eq_true, decide_eq_true_eq] at ho ⊢
  obtain ⟨⟨h1, h2⟩, h3⟩ := ho
  rw [h.2.1 a h2]
  exact ⟨⟨h1, Nat.lt_of_lt_of_le h2 h.1⟩, h3⟩
theorem isO_lt {σ : St} {k a : Nat} (ho : isO σ k a = true) : 1 ≤ a ∧ a < sn σ := by
  unfold isO at ho
  simp only [Bool.and_eq_true, decide_eq_true_eq] at ho
  exact ho.1
theorem Gr.len {CI CP : Nat → Nat → Prop} {σ σ' : St} (h : Gr CI CP σ σ') {a : Nat} (ha : a < sn σ) : alen σ' a = alen σ a := by unfold alen; rw [h.2.1 a ha]
theorem new_gr {CI CP : Nat → Nat → Prop} (σ : St) (k n : Nat) : Gr CI CP σ (newC σ k n) :=
  ⟨Nat.le_succ _, fun a ha => by
    have hne : a ≠ sn σ := Nat.ne_of_lt ha
    show up1 (sh σ) (sn σ) (k, n) a = _
    unfold up1
    rw [if_neg hne], fun a x ha _ => congrFun (row0_ne (Nat.ne_of_lt ha) : sI (newC σ k n) a = sI σ a) x, fun a x ha => congrFun (row0_ne (Nat.ne_of_lt ha) : sL (newC σ k n) a = sL σ a) x, fun a x ha _ => congrFun (row0_ne (Nat.ne_of_lt ha) : sP (newC σ k n) a = sP σ a) x⟩
theorem new_o {σ : St} {k n : Nat} (h : 1 ≤ sn σ) : isO (newC σ k n) k (sn σ) = true := by
  have e : (sh (newC σ k n) (sn σ)) = (k, n) := by show up1 _ _ _ _ = _; simp [up1]
  have e2 : sn (newC σ k n) = sn σ + 1 := rfl
  unfold isO
  rw [e, e2]
  simp
  omega
theorem new_len (σ : St) (k n : Nat) : alen (newC σ k n) (sn σ) = n := by
  have e : (sh (newC σ k n) (sn σ)) = (k, n) := by show up1 _ _ _ _ = _; simp [up1]
  unfold alen
  rw [e]
/-- the class's text -/
def CB (ch : Nat → Nat) (sl : Nat → Nat) (σ : St) : Prop := sI σ 2 1 = I (sl 10 : Nat) ∧ ∀ i, i < sl 10 → sI σ 3 i = I (ch (640 + i) : Nat)
theorem cp_loop {ch : Nat → Nat} {n c : Nat} (hn : n ≤ 60) (h126 : ∀ i, ch i ≤ 126) : ∀ (j i m : Nat) {σ : St}, i + j = n → SS σ → isO σ 12 c = true → 30 ≤ c → alen σ c = n → (∀ x, x < n → sI σ 3 x = I (ch (640 + x) : Nat)) → (∀ x, x < i → sI σ c x = I (ch (640 + x) : Nat)) →
    ∃ σ', s_X7_copy_21 (m + j + 1) 2 c (I (i : Nat)) σ = some (some c, σ') ∧ Fr (fun a _ => a = c) σ σ' ∧ ∀ x, x < n → sI σ' c x = I (ch (640 + x) : Nat) := by
  intro j
  induction j with
  | zero =>
    intro i m σ hij hs hc hc54 hl h3 hx
    obtain rfl : i = n := (by omega)
    refine ⟨σ, ?_, Fr.refl _, hx⟩
    show sb_X7_copy_21 (s_X7_copy_21 (m + 0)) 2 c (I (i : Nat)) σ = _
    unfold sb_X7_copy_21
    rw [if_pos hc, hl, I_nI, if_pos (by rw [I_le (by omega) (by omega)]; omega)]
  | succ j ih =>
    intro i m σ hij hs hc hc54 hl h3 hx
    have h := h126 (640 + i)
    obtain ⟨σ', a1, a2, a3⟩ := ih (i + 1) m (σ := setI σ c i (I (ch (640 + i) : Nat))) (by omega) (hs.i _ _ _) hc hc54 hl (fun x hxn => by rw [sIn (by omega)]; exact h3 x hxn) (fun x hxi => by
      by_cases cx : x = i
      · subst cx; exact sIe
      · rw [sIn (by omega)]; exact hx x (by omega))
    refine ⟨σ', ?_, ((Fr.refl σ).put (a := c) (k := i) _ rfl).trans a2, a3⟩
    rw [← a1, show m + (j + 1) + 1 = (m + j + 1) + 1 by omega]
    show sb_X7_copy_21 (s_X7_copy_21 (m + j + 1)) 2 c (I (i : Nat)) σ = _
    unfold sb_X7_copy_21
    rw [if_pos hc, hl, I_nI, if_neg (by rw [I_le (by omega) (by omega)]; omega), if_pos (hs.o 7 2 (by decide)), hs.p 2 0 3 (by decide), op_eq, if_pos (hs.o 12 3 (by decide)), hs.len 3 60 (by decide), I_nI, if_neg (by rw [I_le (by omega) (by omega)]; omega), if_pos (inN (show i < 60 by omega) (by omega)), if_pos (inN (show i < n by omega) (by omega)), tNI (by omega), h3 i (by omega), chN (by omega) (by omega), lt_eq, I_p1, lt_eq]
theorem q_copy {ch sl : Nat → Nat} (ht : Txt ch sl) {σ : St} (hs : SS σ) (hb : CB ch sl σ) : ∃ σ', s_X7_copy 2 σ = some (some (sn σ), σ') ∧ Gr (fun _ _ => False) (fun _ _ => False) σ σ' ∧ sn σ' = sn σ + 1 ∧ sz σ' = sz σ + sl 10 ∧ isO σ' 12 (sn σ) = true ∧ alen σ' (sn σ) = sl 10 ∧ ∀ x, x < sl 10 → sI σ' (sn σ) x = I (ch (640 + x) : Nat) := by
  have hn := (ht.1 10 (by omega)).1
  have hg := new_gr (CI := fun _ _ => False) (CP := fun _ _ => False) σ 12 (sl 10)
  have hs1 := hg.ss hs (fun _ _ q => q.elim)
  have h54 := hs.1
  obtain ⟨σ', a1, a2, a3⟩ := cp_loop (c := sn σ) hn ht.2 (sl 10) 0 (15999 - sl 10) (by omega) hs1 (new_o (by omega)) h54 (new_len σ 12 (sl 10)) (fun x hx => by rw [hg.2.2.1 3 x (by omega) id]; exact hb.2 x hx) (fun x hx => by omega)
  rw [show 15999 - sl 10 + sl 10 + 1 = 16000 by omega] at a1
  have e : s_X7_copy 2 σ = s_X7_copy_21 16000 2 (sn σ) (I (0 : Nat)) (newC σ 12 (sl 10)) := by
    unfold s_X7_copy
    rw [if_pos (hs.o 7 2 (by decide)), hs.p 2 0 3 (by decide), op_eq, if_pos (hs.o 12 3 (by decide)), hs.len 3 60 (by decide), hb.1, I_nI, lt_eq]
    have e1 : (if I (60 : Nat) < I (sl 10 : Nat) then I (60 : Nat) else I (sl 10 : Nat)) = I (sl 10 : Nat) := by
      by_cases c : sl 10 = 60
      · rw [c]; rw [if_neg]; rw [I_lt (by omega) (by omega)]; omega
      · rw [if_neg]; rw [I_lt (by omega) (by omega)]; omega
    have e2 : (if (0 : Int32) < I (sl 10 : Nat) then I (sl 10 : Nat) else 0) = I (sl 10 : Nat) := by
      by_cases c : sl 10 = 0
      · rw [c]; rfl
      · rw [if_pos]; rw [I_lit, I_lt (by omega) (by omega)]; omega
    rw [e1, e2, lt_eq, if_pos (by rw [inR_I (by omega)]; simp; omega), lt_eq, lt_eq, tNI (by omega)]
    rfl
  refine ⟨σ', e.trans a1, ?_, by rw [a2.1]; rfl, by rw [a2.2.1]; rfl, by rw [a2.o]; exact new_o (by omega), by rw [a2.len]; exact new_len _ _ _, a3⟩
  refine ⟨by rw [a2.1]; exact hg.1, fun a ha => by rw [a2.2.2.1]; exact hg.2.1 a ha, fun a k ha hc => by rw [a2.i a k (by omega)]; exact hg.2.2.1 a k ha hc, fun a k ha => by rw [a2.2.2.2.1]; exact hg.2.2.2.1 a k ha, fun a k ha hc => by rw [a2.p]; exact hg.2.2.2.2 a k ha hc⟩
