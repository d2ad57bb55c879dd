/-! a text reads the same wherever it stands -/
def shR (b b' : Nat) (R : PR) : PR := (R.1, R.2.1 - b + b', R.2.2.1, R.2.2.2)
theorem pb_shift {b b' : Nat} {r : PR} {k k' : Nat → PR} (h : r.1 = true → k' (r.2.1 - b + b') = shR b b' (k r.2.1)) : pb (shR b b' r) k' = shR b b' (pb r k) := by
  unfold pb
  by_cases hr : r.1 = true
  · rw [if_pos hr, if_pos (show (shR b b' r).1 = true from hr)]
    show ((k' (r.2.1 - b + b')).1, (k' (r.2.1 - b + b')).2.1, r.2.2.1 + (k' (r.2.1 - b + b')).2.2.1, r.2.2.2 + (k' (r.2.1 - b + b')).2.2.2) = _
    rw [h hr]
    rfl
  · rw [if_neg hr, if_neg (show ¬ (shR b b' r).1 = true from hr)]
theorem pface_shift {g g' : Nat → PR} {ch ch' : Nat → Nat} {b b' n : Nat} (hend : ∀ i, b + n ≤ i → i < b + 64 → ch i = 0) (hn : n ≤ 60) (he : ∀ i, i < 64 → ch' (b' + i) = ch (b + i)) {p : Nat} (hp : p ≤ n) (hg : ∀ q, p < q → q ≤ n → g' (b' + q) = shR b b' (g (b + q))) :
    pface g' ch' (b' + p) = shR b b' (pface g ch (b + p)) := by
  unfold pface
  rw [he p (by omega), show b' + p + 1 = b' + (p + 1) by omega, show b + p + 1 = b + (p + 1) by omega, he (p + 1) (by omega)]
  by_cases ha : isAt (ch (b + p)) = true
  · rw [if_pos ha, if_pos ha]
    by_cases hb : ch (b + (p + 1)) = 60
    · have hlt : p + 1 < n := by
        apply Nat.lt_of_not_le
        intro hh
        have := hend (b + (p + 1)) (by omega) (by omega)
        omega
      rw [if_pos hb, if_pos hb]
      exact hg (p + 2) (by omega) (by omega)
    · rw [if_neg hb, if_neg hb]
      unfold shR
      rw [show b + (p + 1) - b + b' = b' + (p + 1) by omega]
  · rw [if_neg ha, if_neg ha]
    unfold shR
    rw [show b + p - b + b' = b' + p by omega]
theorem poff_shift {g g' : Nat → PR} {ch ch' : Nat → Nat} {b b' n : Nat} (hend : ∀ i, b + n ≤ i → i < b + 64 → ch i = 0) (hn : n ≤ 60) (he : ∀ i, i < 64 → ch' (b' + i) = ch (b + i)) {p : Nat} (hp : p ≤ n) (hpos : ∀ p, b ≤ p → p ≤ b + n → p ≤ (g p).2.1 ∧ (g p).2.1 ≤ b + n ∧ ((g p).1 = true → p < (g p).2.1))
    (hg : ∀ q, p < q → q ≤ n → g' (b' + q) = shR b b' (g (b + q))) : poff g' ch' (b' + p) = shR b b' (poff g ch (b + p)) := by
  have hf := pface_pos b n hend hn hpos
  have hlt : ∀ q, q ≤ n → ch (b + q) ≠ 0 → q < n := fun q hq hc => by
    apply Nat.lt_of_not_le
    intro h
    exact hc (hend (b + q) (by omega) (by omega))
  unfold poff
  rw [pface_shift hend hn he hp hg]
  refine pb_shift (fun hr => ?_)
  obtain ⟨f1, f2, f3⟩ := hf (b + p) (by omega) (by omega)
  have f3 := f3 hr
  obtain ⟨Q, hQ⟩ : ∃ Q, (pface g ch (b + p)).2.1 = b + Q := ⟨(pface g ch (b + p)).2.1 - b, by omega⟩
  rw [hQ] at f1 f2 f3 ⊢
  rw [show b + Q - b + b' = b' + Q by omega, he Q (by omega)]
  by_cases c : ch (b + Q) = 124
  · have hQn := hlt Q (by omega) (by omega)
    rw [if_pos c, if_pos c, show b' + Q + 1 = b' + (Q + 1) by omega, show b + Q + 1 = b + (Q + 1) by omega, pface_shift hend hn he (show Q + 1 ≤ n by omega) (fun q h1 h2 => hg q (by omega) h2)]
    refine pb_shift (fun hr2 => ?_)
    obtain ⟨g1, g2, g3⟩ := hf (b + (Q + 1)) (by omega) (by omega)
    have g3 := g3 hr2
    obtain ⟨R, hR⟩ : ∃ R, (pface g ch (b + (Q + 1))).2.1 = b + R := ⟨(pface g ch (b + (Q + 1))).2.1 - b, by omega⟩
    rw [hR] at g1 g2 g3 ⊢
    rw [show b + R - b + b' = b' + R by omega, he R (by omega)]
    by_cases c2 : ch (b + R) = 124
    · have hRn := hlt R (by omega) (by omega)
      rw [if_pos c2, if_pos c2, show b' + R + 1 = b' + (R + 1) by omega, show b + R + 1 = b + (R + 1) by omega, pface_shift hend hn he (show R + 1 ≤ n by omega) (fun q h1 h2 => hg q (by omega) h2)]
    · rw [if_neg c2, if_neg c2]
      unfold shR
      rw [show b + R - b + b' = b' + R by omega]
  · rw [if_neg c, if_neg c]
    unfold shR
    rw [show b + Q - b + b' = b' + Q by omega]
theorem pgoal_shift {ch ch' : Nat → Nat} {b b' n : Nat} (hend : ∀ i, b + n ≤ i → i < b + 64 → ch i = 0) (hn : n ≤ 60) (he : ∀ i, i < 64 → ch' (b' + i) = ch (b + i)) : ∀ (F p : Nat), p ≤ n → pgoal ch' F (b' + p) = shR b b' (pgoal ch F (b + p)) := by
  have hlt : ∀ q, q ≤ n → ch (b + q) ≠ 0 → q < n := fun q hq hc => by
    apply Nat.lt_of_not_le
    intro h
    exact hc (hend (b + q) (by omega) (by omega))
  have hat : ∀ (x : Bool) (p : Nat) (k l : Nat), ((x, b' + p, k, l) : PR) = shR b b' (x, b + p, k, l) := fun x p k l => by
    unfold shR
    rw [show b + p - b + b' = b' + p by omega]
  intro F
  induction F with
  | zero => intro p hp; exact hat false p 0 0
  | succ F ih =>
    intro p hp
    have hpos := pgoal_pos ch b n hend hn F
    rw [pgoal_succ, pgoal_succ]
    unfold pgS
    rw [he p (by omega), show b' + p + 1 = b' + (p + 1) by omega, show b + p + 1 = b + (p + 1) by omega]
    by_cases c1 : isAt (ch (b + p)) = true ∨ ch (b + p) = 49 ∨ ch (b + p) = 84
    · rw [if_pos c1, if_pos c1]; exact hat true (p + 1) 1 0
    rw [if_neg c1, if_neg c1]
    by_cases c2 : ch (b + p) = 33
    · have hpn := hlt p hp (by omega)
      rw [if_pos c2, if_pos c2, ih (p + 1) (by omega)]
      refine pb_shift (fun hr => ?_)
      obtain ⟨g1, g2, g3⟩ := hpos (b + (p + 1)) (by omega) (by omega)
      obtain ⟨Q, hQ⟩ : ∃ Q, (pgoal ch F (b + (p + 1))).2.1 = b + Q := ⟨(pgoal ch F (b + (p + 1))).2.1 - b, by omega⟩
      rw [hQ, show b + Q - b + b' = b' + Q by omega]
      exact hat true Q 1 0
    rw [if_neg c2, if_neg c2]
    by_cases c3 : ch (b + p) = 40
    · have hpn := hlt p hp (by omega)
      rw [if_pos c3, if_pos c3, ih (p + 1) (by omega)]
      refine pb_shift (fun hr => ?_)
      obtain ⟨g1, g2, g3⟩ := hpos (b + (p + 1)) (by omega) (by omega)
      have g3 := g3 hr
      obtain ⟨Q, hQ⟩ : ∃ Q, (pgoal ch F (b + (p + 1))).2.1 = b + Q := ⟨(pgoal ch F (b + (p + 1))).2.1 - b, by omega⟩
      rw [hQ] at g1 g2 g3 ⊢
      rw [show b + Q - b + b' = b' + Q by omega, he Q (by omega)]
      by_cases c4 : isOp (ch (b + Q)) = true
      · have hQn := hlt Q (by omega) (fun q => by rw [q] at c4; exact absurd c4 (by decide))
        rw [if_pos c4, if_pos c4, show b' + Q + 1 = b' + (Q + 1) by omega, show b + Q + 1 = b + (Q + 1) by omega, ih (Q + 1) (by omega)]
        refine pb_shift (fun hr2 => ?_)
        obtain ⟨k1, k2, k3⟩ := hpos (b + (Q + 1)) (by omega) (by omega)
        obtain ⟨R, hR⟩ : ∃ R, (pgoal ch F (b + (Q + 1))).2.1 = b + R := ⟨(pgoal ch F (b + (Q + 1))).2.1 - b, by omega⟩
        rw [hR] at k1 k2 ⊢
        rw [show b + R - b + b' = b' + R by omega, he R (by omega)]
        by_cases c5 : ch (b + R) = 41
        · rw [if_pos c5, if_pos c5]; exact hat true (R + 1) 1 0
        · rw [if_neg c5, if_neg c5]; exact hat false R 0 0
      · rw [if_neg c4, if_neg c4]; exact hat false Q 0 0
    rw [if_neg c3, if_neg c3]
    by_cases c6 : ch (b + p) = 91
    · have hpn := hlt p hp (by omega)
      rw [if_pos c6, if_pos c6, poff_shift hend hn he (show p + 1 ≤ n by omega) hpos (fun q h1 h2 => ih q h2)]
      refine pb_shift (fun hr => ?_)
      obtain ⟨g1, g2, g3⟩ := poff_pos b n hend hn hpos (b + (p + 1)) (by omega) (by omega)
      have g3 := g3 hr
      obtain ⟨Q, hQ⟩ : ∃ Q, (poff (pgoal ch F) ch (b + (p + 1))).2.1 = b + Q := ⟨(poff (pgoal ch F) ch (b + (p + 1))).2.1 - b, by omega⟩
      rw [hQ] at g1 g2 g3 ⊢
      rw [show b + Q - b + b' = b' + Q by omega, he Q (by omega)]
      by_cases c4 : ch (b + Q) = 93
      · have hQn := hlt Q (by omega) (by omega)
        rw [if_pos c4, if_pos c4, show b' + Q + 1 = b' + (Q + 1) by omega, show b + Q + 1 = b + (Q + 1) by omega, ih (Q + 1) (by omega)]
        refine pb_shift (fun hr2 => ?_)
        obtain ⟨k1, k2, k3⟩ := hpos (b + (Q + 1)) (by omega) (by omega)
        obtain ⟨R, hR⟩ : ∃ R, (pgoal ch F (b + (Q + 1))).2.1 = b + R := ⟨(pgoal ch F (b + (Q + 1))).2.1 - b, by omega⟩
        rw [hR, show b + R - b + b' = b' + R by omega]
        exact hat true R 1 1
      · rw [if_neg c4, if_neg c4]; exact hat false Q 0 0
    rw [if_neg c6, if_neg c6]
    exact hat false p 0 0
