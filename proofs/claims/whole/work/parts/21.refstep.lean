def cC : Nat → Nat → Prop := fun a k => a = 30 ∧ (k = 18 ∨ k = 19)
theorem pOpen {σ : St} (hs : SS σ) {w : Nat → Nat} {sp : Nat} (hw : WH w sp σ) (h1 : 1 ≤ sp) (h2 : sp ≤ 128) (h : sI σ 30 18 = I (sp : Nat)) : sI σ 30 18 - 1 = I ((sp - 1 : Nat) : Int) ∧ sI σ 40 (sp - 1) = I (w (sp - 1) : Nat) ∧ w (sp - 1) ≤ 6 := by
  rw [h, I_m1 h1]
  exact ⟨rfl, hw (sp - 1) (by omega)⟩
theorem q_complete {w : Nat → Nat} (hw0 : w 0 ≠ 3) : ∀ (sp m : Nat) {σ : St}, SS σ → sI σ 30 18 = I (sp : Nat) → 1 ≤ sp → sp ≤ 128 → WH w sp σ → ∃ σ', s_X11_complete_0 (m + sp) 30 σ = some ((), σ') ∧ Fr cC σ σ' ∧ sI σ' 30 18 = I ((cmp w sp).1 : Nat) ∧ sI σ' 30 19 = I ((cmp w sp).2 : Nat) := by
  intro sp
  induction sp with
  | zero => intro m σ hs h h1; omega
  | succ j ih =>
    intro m σ hs h h1 h2 hw
    obtain ⟨e1, e2, e3⟩ := pOpen hs hw h1 h2 h
    rw [show j + 1 - 1 = j by omega] at e1 e2 e3
    show ∃ σ', sb_X11_complete_0 (s_X11_complete_0 (m + j)) 30 σ = _ ∧ _
    unfold sb_X11_complete_0
    have hin : inR (I (j : Nat)) 128 = true := inN (by omega) (by omega)
    have e0 : ∀ n : Nat, n < 10 → ((I (w j : Nat) = (OfNat.ofNat n : Int32)) ↔ w j = n) := fun n hn => by
      rw [I_lit, show (OfNat.ofNat n : Int) = (n : Int) from rfl, I_eq (by omega) (by omega)]
      omega
    rw [if_pos (hs.o 11 30 (by decide)), hs.p 30 14 40 (by decide), op_eq, if_pos (hs.o 13 40 (by decide)), hs.len 40 128 (by decide), e1, if_pos hin, tNI (by omega), e2]
    unfold cmp
    by_cases c3 : w j = 3
    · rw [if_pos ((e0 3 (by omega)).mpr c3), if_pos c3, lt_eq]
      have hj : 1 ≤ j := by
        apply Nat.lt_of_not_le
        intro hh
        obtain rfl : j = 0 := by omega
        exact hw0 c3
      have hf : Fr cC σ (setI σ 30 18 (I (j : Nat))) := (Fr.refl σ).put _ ⟨rfl, Or.inl rfl⟩
      obtain ⟨σ', k1, k2, k3, k4⟩ := ih m (σ := setI σ 30 18 (I (j : Nat))) (hs.i _ _ _) sIe hj (by omega) (fun i hi => by rw [sIn (by omega)]; exact hw i (by omega))
      exact ⟨σ', k1, hf.trans k2, k3, k4⟩
    · rw [if_neg (fun q => c3 ((e0 3 (by omega)).mp q)), if_neg c3, if_pos hin, lt_eq]
      have fin : ∀ v : Int32, Fr cC σ (setI σ 30 19 v) := fun v => (Fr.refl σ).put _ ⟨rfl, Or.inr rfl⟩
      by_cases c0 : w j = 0
      · rw [if_pos ((e0 0 (by omega)).mpr c0), if_pos c0, lt_eq]
        exact ⟨_, rfl, fin _, by rw [sIn (by omega)]; exact h, sIe⟩
      rw [if_neg (fun q => c0 ((e0 0 (by omega)).mp q)), if_neg c0]
      by_cases c1 : w j = 1
      · rw [if_pos ((e0 1 (by omega)).mpr c1), if_pos c1, lt_eq]
        exact ⟨_, rfl, fin _, by rw [sIn (by omega)]; exact h, sIe⟩
      rw [if_neg (fun q => c1 ((e0 1 (by omega)).mp q)), if_neg c1]
      by_cases c2 : w j = 2
      · rw [if_pos ((e0 2 (by omega)).mpr c2), if_pos c2, lt_eq]
        exact ⟨_, rfl, fin _, by rw [sIn (by omega)]; exact h, sIe⟩
      rw [if_neg (fun q => c2 ((e0 2 (by omega)).mp q)), if_neg c2, lt_eq, lt_eq]
      exact ⟨_, rfl, ((Fr.refl σ).put _ ⟨rfl, Or.inl rfl⟩).put _ ⟨rfl, Or.inr rfl⟩, by rw [sIn (by omega), sIe], sIe⟩
theorem x_complete {w : Nat → Nat} (hw0 : w 0 ≠ 3) {sp : Nat} {σ : St} (hs : SS σ) (h : sI σ 30 18 = I (sp : Nat)) (h1 : 1 ≤ sp) (h2 : sp ≤ 128) (hw : WH w sp σ) : ∃ σ', s_X11_complete 30 σ = some ((), σ') ∧ Fr cC σ σ' ∧ sI σ' 30 18 = I ((cmp w sp).1 : Nat) ∧ sI σ' 30 19 = I ((cmp w sp).2 : Nat) := by
  have := q_complete hw0 sp (16000 - sp) hs h h1 h2 hw
  rw [show 16000 - sp + sp = 16000 by omega] at this
  exact this
theorem q_in {a b c : Int} (ha : -2147483648 ≤ a ∧ a < 2147483648) (hb : -2147483648 ≤ b ∧ b < 2147483648) (hc : -2147483648 ≤ c ∧ c < 2147483648) (σ : St) : s_X11_in (I a) (I b) (I c) σ = some (if b ≤ a ∧ a ≤ c then 1 else 0, σ) := by
  unfold s_X11_in
  simp only [I_lt ha hb, I_lt hc ha]
  by_cases c1 : a < b
  · rw [if_pos c1, if_neg (by omega)]
  · rw [if_neg c1]
    by_cases c2 : c < a
    · rw [if_pos c2, if_neg (by omega)]
    · rw [if_neg c2, if_pos (by omega)]
theorem zok0 : zok 0 = true := by decide
theorem zok1 : zok 1 = true := by decide
theorem zokI {c : Prop} [Decidable c] : zok (if c then 1 else 0) = true := by split; exact zok1; exact zok0
theorem q_letter {c : Nat} (hc : c ≤ 1000) (σ : St) : s_X11_isLetter (I c) σ = some (if isAt c = true then 1 else 0, σ) := by
  unfold s_X11_isLetter
  rw [I_lit, I_lit, q_in (by omega) (by omega) (by omega), bd_eq, if_pos zokI]
  unfold isAt
  by_cases c1 : 97 ≤ c ∧ c ≤ 104
  · rw [if_pos (by omega), if_pos (by simp; omega)]
  · rw [if_neg (by omega), if_neg (by simp; omega)]
/-- one sign: the loop goes on, or stops -/
theorem rd_step {ch : Nat → Nat} {s n : Nat} {σ : St} (h : RM ch s n σ) {i m : Nat} (hi : i < n) :
    s_X11_read_36 (m + 1) 30 (I (s : Nat)) (I (i : Nat)) σ = bd (s_X11_reads 30 (I (ch (64 * s + i) : Nat)) σ) fun r σ' => if r = 0 then some (I (i : Nat), σ') else s_X11_read_36 m 30 (I (s : Nat)) (I ((i + 1 : Nat) : Int)) σ' := by
  obtain ⟨hs, h2, h3, h4, h5, h6, h7⟩ := h
  show sb_X11_read_36 (s_X11_read_36 m) 30 (I (s : Nat)) (I (i : Nat)) σ = _
  unfold sb_X11_read_36
  rw [if_pos (hs.o 11 30 (by decide)), hs.p 30 1 32 (by decide), op_eq, if_pos (hs.o 13 32 (by decide)), hs.len 32 11 (by decide), if_pos (inN (show s < 11 by omega) (by omega)), tNI (by omega), h4, if_neg (by rw [I_le (by omega) (by omega)]; omega)]
  rw [hs.p 30 0 31 (by decide), op_eq, if_pos (hs.o 13 31 (by decide)), hs.len 31 660 (by decide)]
  have e : (60 : Int32) * I (s : Nat) + I (i : Nat) = I ((60 * s + i : Nat) : Int) := by
    rw [I_lit, I_mul, I_add]
    congr 1
  rw [e, if_pos (inN (show 60 * s + i < 660 by omega) (by omega)), tNI (by omega), h5 i hi]
  simp only [lt_eq, I_p1]
