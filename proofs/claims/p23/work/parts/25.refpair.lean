theorem pgoal_cnt (ch : Nat → Nat) : ∀ (F p : Nat), (pgoal ch F p).1 = true → cntB ch (pgoal ch F p).2.1 = cntB ch p + (pgoal ch F p).2.2.2 := by
  intro F
  induction F with
  | zero => intro p h; cases h
  | succ F ih =>
    intro p h
    have fc : ∀ q, (pface (pgoal ch F) ch q).1 = true → cntB ch (pface (pgoal ch F) ch q).2.1 = cntB ch q + (pface (pgoal ch F) ch q).2.2.2 := by
      intro q hq
      unfold pface at hq ⊢
      by_cases ha : isAt (ch q) = true
      · have hq91 : ch q ≠ 91 := fun e => by rw [e] at ha; exact absurd ha (by decide)
        rw [if_pos ha] at hq ⊢
        by_cases hb : ch (q + 1) = 60
        · rw [if_pos hb] at hq ⊢
          rw [ih _ hq, show q + 2 = q + 1 + 1 by omega, cntB_step (by omega), cntB_step hq91]
        · rw [if_neg hb]
          exact cntB_step hq91
      · rw [if_neg ha] at hq; cases hq
    rcases pgoal_cases h with ⟨hc, e⟩ | ⟨hc, q, k, l, hg, e⟩ | ⟨hc, q1, k1, l1, q2, k2, l2, hg, ho, hg2, hc2, e⟩ | ⟨hc, q1, k1, l1, q2, k2, l2, hg, hc2, hg2, e⟩
    · rw [e]
      exact cntB_step (fun q => by rw [q] at hc; revert hc; decide)
    · have := ih (p + 1) (by rw [hg])
      rw [e]
      rw [hg] at this
      dsimp only at this ⊢
      rw [this, cntB_step (by omega)]
    · have h1 := ih (p + 1) (by rw [hg])
      have h2 := ih (q1 + 1) (by rw [hg2])
      rw [hg] at h1
      rw [hg2] at h2
      rw [e]
      dsimp only at h1 h2 ⊢
      have hq1 : ch q1 ≠ 91 := fun q => by rw [q] at ho; revert ho; decide
      rw [cntB_step (by omega), h2, cntB_step hq1, h1, cntB_step (by omega)]
      omega
    · have h2 := ih (q1 + 1) (by rw [hg2])
      rw [hg2] at h2
      have h3 : cntB ch q1 = cntB ch (p + 1) + l1 := by
        obtain ⟨a1, ak, al, f1, hrest⟩ := poff_cases (p := p + 1) (g := pgoal ch F) (ch := ch) (by rw [hg])
        have g1 := fc (p + 1) (by rw [f1])
        rw [f1] at g1
        dsimp only at g1
        rcases hrest with ⟨_, r⟩ | ⟨c1, a2, ak2, al2, f2, hrest⟩
        · rw [r] at hg; cases hg; exact g1
        have g2 := fc (a1 + 1) (by rw [f2])
        rw [f2] at g2
        dsimp only at g2
        rw [cntB_step (by omega)] at g2
        rcases hrest with ⟨_, r⟩ | ⟨c2, a3, ak3, al3, f3, r⟩
        · rw [r] at hg; cases hg; omega
        have g3 := fc (a2 + 1) (by rw [f3])
        rw [f3] at g3
        dsimp only at g3
        rw [cntB_step (by omega)] at g3
        rw [r] at hg; cases hg; omega
      rw [e]
      dsimp only at h2 ⊢
      rw [h2, cntB_step (by omega), h3, cntB_step1 hc]
      omega
