theorem pface_at {g : Nat → PR} {ch : Nat → Nat} {p : Nat} (h : (pface g ch p).1 = true) : isAt (ch p) = true := by
  apply Decidable.byContradiction
  intro q
  unfold pface at h
  rw [if_neg q] at h
  cases h
theorem pface_cnt (ch : Nat → Nat) (F p : Nat) (h : (pface (pgoal ch F) ch p).1 = true) : cntB ch (pface (pgoal ch F) ch p).2.1 = cntB ch p + (pface (pgoal ch F) ch p).2.2.2 := by
  have ha := pface_at h
  have h91 : ch p ≠ 91 := fun e => by rw [e] at ha; exact absurd ha (by decide)
  unfold pface at h ⊢
  rw [if_pos ha] at h ⊢
  by_cases hb : ch (p + 1) = 60
  · rw [if_pos hb] at h ⊢
    rw [pgoal_cnt ch F _ h, show p + 2 = p + 1 + 1 by omega, cntB_step (by omega), cntB_step h91]
  · rw [if_neg hb]
    exact cntB_step h91
