/-- the offers that the slots below k, and their loans, give -/
def phK (ch : Nat → Nat) (k lam : Nat) : Nat → Nat → Option Nat := fun o f => if (o < 5 ∧ o + 1 < k) ∨ (5 ≤ o ∧ o < 5 + lam) ∨ (8 ≤ o ∧ o < k + 2) then fp ch o f else none
theorem fp_loan {ch : Nat → Nat} {o f : Nat} (h1 : 5 ≤ o) (h2 : o < 8) : fp ch o f = loanF ch o f := by
  unfold fp loanF ost
  rw [if_neg (by omega), if_pos h2]
  cases nthB ch (o - 5) 640 <;> rfl
theorem cntB_const {ch : Nat → Nat} {a : Nat} : ∀ b, a ≤ b → (∀ i, a ≤ i → i < b → ch i ≠ 91) → cntB ch b = cntB ch a := by
  intro b
  induction b with
  | zero => intro h _; obtain rfl : a = 0 := (by omega); rfl
  | succ b ih =>
    intro h hz
    by_cases e : a = b + 1
    · rw [e]
    · rw [cntB_step (hz b (by omega) (by omega)), ih (by omega) (fun i h1 h2 => hz i h1 (by omega))]
theorem nthB_none {ch : Nat → Nat} {k : Nat} : ∀ m, cntB ch m ≤ k → nthB ch k m = none := by
  intro m
  induction m with
  | zero => intro _; rfl
  | succ m ih =>
    intro h
    have h1 : cntB ch (m + 1) = cntB ch m + if ch m = 91 then 1 else 0 := rfl
    unfold nthB
    rw [if_neg, ih (by omega)]
    rintro ⟨a, b⟩
    rw [if_pos a] at h1
    omega
theorem poff_cnt (ch : Nat → Nat) (F p : Nat) (h : (poff (pgoal ch F) ch p).1 = true) : cntB ch (poff (pgoal ch F) ch p).2.1 = cntB ch p + (poff (pgoal ch F) ch p).2.2.2 := by
  obtain ⟨a1, ak, al, f1, hrest⟩ := poff_cases h
  have g1 := pface_cnt ch F p (by rw [f1])
  rw [f1] at g1
  dsimp only at g1
  rcases hrest with ⟨_, r⟩ | ⟨c1, a2, ak2, al2, f2, hrest⟩
  · rw [r]; exact g1
  have g2 := pface_cnt ch F (a1 + 1) (by rw [f2])
  rw [f2] at g2
  dsimp only at g2
  rw [cntB_step (by omega)] at g2
  rcases hrest with ⟨_, r⟩ | ⟨c2, a3, ak3, al3, f3, r⟩
  · rw [r]; dsimp only; omega
  have g3 := pface_cnt ch F (a2 + 1) (by rw [f3])
  rw [f3] at g3
  dsimp only at g3
  rw [cntB_step (by omega)] at g3
  rw [r]; dsimp only; omega
theorem fG_ok {ch : Nat → Nat} {s n : Nat} (h : fG ch s n = none) : (G64 ch (64 * s)).1 = true ∧ (G64 ch (64 * s)).2.1 = 64 * s + n := by
  unfold fG at h
  apply Decidable.byContradiction
  intro q
  rw [if_neg q] at h
  cases h
theorem fO_ok {ch : Nat → Nat} {s n : Nat} (h : fO ch s n = none) : (poff (G64 ch) ch (64 * s)).1 = true ∧ (poff (G64 ch) ch (64 * s)).2.1 = 64 * s + n := by
  unfold fO at h
  apply Decidable.byContradiction
  intro q
  rw [if_neg q] at h
  cases h
theorem cnt_slot {ch sl : Nat → Nat} (ht : Txt ch sl) (hv : Valid ch sl) {k : Nat} (hk : k < 10) : cntB ch (64 * (k + 1)) = cntB ch (64 * k) + lL ch sl k := by
  have hT := ht.1 k (by omega)
  have z : cntB ch (64 * (k + 1)) = cntB ch (64 * k + sl k) := by
    refine cntB_const _ (by omega) (fun i h1 h2 => ?_)
    have := hT.2.2 (i - 64 * k) (by omega) (by omega)
    rw [show 64 * k + (i - 64 * k) = i by omega] at this
    omega
  rw [z]
  unfold lL sR
  by_cases c0 : sl k = 0
  · rw [if_pos c0, c0]; rfl
  · rw [if_neg c0]
    by_cases ck : k = 0
    · subst ck
      obtain ⟨h1, h2⟩ := fG_ok (hv.g c0)
      rw [if_pos rfl, ← h2]
      exact pgoal_cnt ch 64 _ h1
    · obtain ⟨h1, h2⟩ := fO_ok (hv.o hk c0 ck)
      rw [if_neg ck, ← h2]
      exact poff_cnt ch 64 _ h1
theorem tot_mono {f : Nat → Nat} {b : Nat} {i j : Nat} (h : i ≤ j) : tot f b i ≤ tot f b j := by
  induction h with
  | refl => exact Nat.le_refl _
  | step h ih =>
    refine Nat.le_trans ih ?_
    show _ ≤ tot f b _ + _
    omega
theorem tot_cnt {ch sl : Nat → Nat} (ht : Txt ch sl) (hv : Valid ch sl) {b : Nat} (hb : 10 ≤ b) : ∀ k, k ≤ 10 → tot (lL ch sl) b k = cntB ch (64 * k) := by
  intro k
  induction k with
  | zero => intro _; rfl
  | succ k ih =>
    intro hk
    show tot (lL ch sl) b k + (if k = b then 0 else lL ch sl k) = _
    rw [if_neg (by omega), ih (by omega), cnt_slot ht hv (by omega)]
