theorem pb_pos2 {r : PR} {k : Nat → PR} (h : r.1 = true) : (pb r k).2.1 = (k r.2.1).2.1 ∧ (pb r k).1 = (k r.2.1).1 := by rw [pb_true h]; exact ⟨rfl, rfl⟩
theorem poff_fails {g : Nat → PR} {ch : Nat → Nat} {p : Nat} (h : ¬ (poff g ch p).1 = true) : (¬ (pface g ch p).1 = true ∧ (poff g ch p).2.1 = (pface g ch p).2.1) ∨
    ∃ q1 k1 l1, pface g ch p = (true, q1, k1, l1) ∧ ch q1 = 124 ∧ ((¬ (pface g ch (q1 + 1)).1 = true ∧ (poff g ch p).2.1 = (pface g ch (q1 + 1)).2.1) ∨
      ∃ q2 k2 l2, pface g ch (q1 + 1) = (true, q2, k2, l2) ∧ ch q2 = 124 ∧ ¬ (pface g ch (q2 + 1)).1 = true ∧ (poff g ch p).2.1 = (pface g ch (q2 + 1)).2.1) := by
  unfold poff at h ⊢
  by_cases h1 : (pface g ch p).1 = true
  · right
    rcases hr1 : pface g ch p with ⟨b1, q1, k1, l1⟩
    rw [hr1] at h1 h
    cases h1
    obtain ⟨e1, e2⟩ := pb_pos2 (r := (true, q1, k1, l1)) (k := fun q => if ch q = 124 then pb (pface g ch (q + 1)) fun q2 => (if ch q2 = 124 then pface g ch (q2 + 1) else (true, q2, 0, 0)) else (true, q, 0, 0)) rfl
    rw [e2] at h
    refine ⟨q1, k1, l1, rfl, ?_⟩
    rw [e1]
    dsimp only at h ⊢
    by_cases c1 : ch q1 = 124
    · rw [if_pos c1] at h ⊢
      refine ⟨c1, ?_⟩
      by_cases h2 : (pface g ch (q1 + 1)).1 = true
      · right
        rcases hr2 : pface g ch (q1 + 1) with ⟨b2, q2, k2, l2⟩
        rw [hr2] at h2 h
        cases h2
        obtain ⟨e3, e4⟩ := pb_pos2 (r := (true, q2, k2, l2)) (k := fun q2 => if ch q2 = 124 then pface g ch (q2 + 1) else (true, q2, 0, 0)) rfl
        rw [e4] at h
        refine ⟨q2, k2, l2, rfl, ?_⟩
        rw [e3]
        dsimp only at h ⊢
        by_cases c2 : ch q2 = 124
        · rw [if_pos c2] at h ⊢
          exact ⟨c2, h, rfl⟩
        · rw [if_neg c2] at h; exact absurd rfl h
      · left
        exact ⟨h2, by rw [pb_false h2]⟩
    · rw [if_neg c1] at h; exact absurd rfl h
  · left
    exact ⟨h1, by rw [pb_false h1]⟩
theorem f_off {ch : Nat → Nat} {rd ca pl b n F : Nat} {kg : Nat → Int32 → St → Option (Int32 × St)} (hs : SGoal ch rd ca pl b n F kg) (hk : FGoal ch rd ca pl b n F kg) {σ : St} {d p N lam : Nat} {o : Int} (h : RC ch rd ca pl b n σ) (ha : At rd pl σ p N lam) (hp : p ≤ n) (hd1 : 1 ≤ d) (hd2 : d ≤ p + 1) (hF : 62 ≤ F + p + 1)
    (hR : ¬ (poff (pgoal ch F) ch (b + p)).1 = true) (hN : N + (n - p) ≤ 60) (hlam : lam ≤ 1000 + p) (ho : -1 ≤ o ∧ o ≤ 11) :
    ∃ σ' : St, s_X5_readOffer kg rd (I o) (I d) σ = some ((), σ') ∧ Fr (rdC rd pl) σ σ' ∧ b ≤ (poff (pgoal ch F) ch (b + p)).2.1 ∧ Bad rd pl n σ' ((poff (pgoal ch F) ch (b + p)).2.1 - b) := by
  have hend := h.hend
  have hn := h.hn
  have hpp := pgoal_pos ch b n hend hn F
  have z0 : (0 : Int32) = I ((0 : Nat) : Int) := rfl
  rcases poff_fails hR with ⟨hr1, e⟩ | ⟨q1, k1, l1, hf1, hc1, hrest⟩
  · rw [e]
    obtain ⟨σ1, g1, g2, g3, g4⟩ := f_face hk (o := o) (f := 0) (d := d) h ha hp hd1 hd2 hF hr1 hN hlam ho (by decide)
    refine ⟨σ1, ?_, g2, g3, g4⟩
    unfold s_X5_readOffer
    rw [if_pos h.2.2.2.1, z0, g1, bd_eq]
    exact bad_loop (h.fr g2) g4 kg _ _ _ 15999
  · have hpos1 := pface_pos b n hend hn hpp (b + p) (by omega) (by omega)
    rw [hf1] at hpos1
    have hlt1 := hpos1.2.2 rfl
    have hle1 := hpos1.2.1
    dsimp only at hlt1 hle1
    have hfit := pface_fits (ch := ch) (pgoal_fits ch F) (b + p)
    rw [hf1] at hfit
    have hfit := hfit rfl
    dsimp only at hfit
    obtain ⟨σ1, g1, g2, -⟩ := s_face hs (o := o) (f := 0) (d := d) h ha hp hd1 hd2 hF (by rw [hf1]) (by rw [hf1]; dsimp only; omega) hlam ho (by decide)
    rw [hf1] at g2
    have r1 := h.fr g2.1
    have a1 := g2.2.2
    dsimp only at a1
    have hq1 : b + (q1 - b) = q1 := by omega
    have hq1n := r1.lt (p := q1 - b) (by omega) (by rw [hq1]; omega)
    have hx1 : b + (q1 - b) + 1 = q1 + 1 := by omega
    have unf : s_X5_readOffer kg rd (I o) (I d) σ = s_X5_readOffer_9 kg 16000 rd (I o) (I d) (I (1 : Nat)) σ1 := by
      unfold s_X5_readOffer
      rw [if_pos h.2.2.2.1, z0, g1, bd_eq]
      rfl
    rcases hrest with ⟨hr2, e⟩ | ⟨q2, k2, l2, hf2, hc2, hr3, e⟩
    · rw [e]
      obtain ⟨σ2, j1, j2, j3, j4⟩ := off_moreF hk (o := o) (f := 1) (d := d) (m := 15998) r1 a1 (by omega) hd1 (by omega) (by omega) (by rw [hq1]; exact hc1) (by rw [hx1]; exact hr2) (by omega) (by omega) ho (by decide)
      rw [hx1] at j3 j4
      exact ⟨σ2, by rw [unf]; exact j1, g2.1.trans j2, j3, j4⟩
    · rw [e]
      have hpos2 := pface_pos b n hend hn hpp (q1 + 1) (by omega) (by omega)
      rw [hf2] at hpos2
      have hlt2 := hpos2.2.2 rfl
      have hle2 := hpos2.2.1
      dsimp only at hlt2 hle2
      have hfit2 := pface_fits (ch := ch) (pgoal_fits ch F) (q1 + 1)
      rw [hf2] at hfit2
      have hfit2 := hfit2 rfl
      dsimp only at hfit2
      obtain ⟨σ2, j1, j2, -⟩ := off_more hs (o := o) (f := 1) (d := d) (m := 15999) r1 a1 (by omega) hd1 (by omega) (by omega) (by rw [hq1]; exact hc1) (by rw [hx1, hf2]) (by rw [hx1, hf2]; dsimp only; omega) (by omega) ho (by decide)
      rw [hx1, hf2] at j2
      have r2 := r1.fr j2.1
      have a2 := j2.2.2
      dsimp only at a2
      have hq2 : b + (q2 - b) = q2 := by omega
      have hq2n := r2.lt (p := q2 - b) (by omega) (by rw [hq2]; omega)
      have hx2 : b + (q2 - b) + 1 = q2 + 1 := by omega
      obtain ⟨σ3, i1, i2, i3, i4⟩ := off_moreF hk (o := o) (f := 2) (d := d) (m := 15997) r2 a2 (by omega) hd1 (by omega) (by omega) (by rw [hq2]; exact hc2) (by rw [hx2]; exact hr3) (by omega) (by omega) ho (by decide)
      rw [hx2] at i3 i4
      exact ⟨σ3, by rw [unf, j1]; exact i1, (g2.1.trans j2.1).trans i2, i3, i4⟩
theorem pgoal_fails {ch : Nat → Nat} {F p : Nat} (h : ¬ (pgoal ch (F + 1) p).1 = true) : ¬ (isAt (ch p) = true ∨ ch p = 49 ∨ ch p = 84) ∧
    ((ch p = 33 ∧ ¬ (pgoal ch F (p + 1)).1 = true ∧ (pgoal ch (F + 1) p).2.1 = (pgoal ch F (p + 1)).2.1) ∨
    (ch p = 40 ∧ ((¬ (pgoal ch F (p + 1)).1 = true ∧ (pgoal ch (F + 1) p).2.1 = (pgoal ch F (p + 1)).2.1) ∨
      ∃ q1 k1 l1, pgoal ch F (p + 1) = (true, q1, k1, l1) ∧ ((¬ isOp (ch q1) = true ∧ (pgoal ch (F + 1) p).2.1 = q1) ∨ (isOp (ch q1) = true ∧ ((¬ (pgoal ch F (q1 + 1)).1 = true ∧ (pgoal ch (F + 1) p).2.1 = (pgoal ch F (q1 + 1)).2.1) ∨
        ∃ q2 k2 l2, pgoal ch F (q1 + 1) = (true, q2, k2, l2) ∧ ch q2 ≠ 41 ∧ (pgoal ch (F + 1) p).2.1 = q2))))) ∨
    (ch p = 91 ∧ ((¬ (poff (pgoal ch F) ch (p + 1)).1 = true ∧ (pgoal ch (F + 1) p).2.1 = (poff (pgoal ch F) ch (p + 1)).2.1) ∨
      ∃ q1 k1 l1, poff (pgoal ch F) ch (p + 1) = (true, q1, k1, l1) ∧ ((ch q1 ≠ 93 ∧ (pgoal ch (F + 1) p).2.1 = q1) ∨ (ch q1 = 93 ∧ ¬ (pgoal ch F (q1 + 1)).1 = true ∧ (pgoal ch (F + 1) p).2.1 = (pgoal ch F (q1 + 1)).2.1)))) ∨
    (ch p ≠ 33 ∧ ch p ≠ 40 ∧ ch p ≠ 91 ∧ (pgoal ch (F + 1) p).2.1 = p)) := by
  rw [pgoal_succ] at h ⊢
  unfold pgS at h ⊢
  by_cases c1 : isAt (ch p) = true ∨ ch p = 49 ∨ ch p = 84
  · rw [if_pos c1] at h; exact absurd rfl h
  rw [if_neg c1] at h ⊢
  refine ⟨c1, ?_⟩
  by_cases c2 : ch p = 33
  · rw [if_pos c2] at h ⊢
    left
    refine ⟨c2, ?_⟩
    by_cases h1 : (pgoal ch F (p + 1)).1 = true
    · rw [pb_true h1] at h; exact absurd rfl h
    · exact ⟨h1, by rw [pb_false h1]⟩
  rw [if_neg c2] at h ⊢
  right
  by_cases c3 : ch p = 40
  · rw [if_pos c3] at h ⊢
    left
    refine ⟨c3, ?_⟩
    by_cases h1 : (pgoal ch F (p + 1)).1 = true
    · right
      rcases hr : pgoal ch F (p + 1) with ⟨b1, q1, k1, l1⟩
      rw [hr] at h1 h
      cases h1
      refine ⟨q1, k1, l1, rfl, ?_⟩
      rw [pb_true (rfl : (true, q1, k1, l1).1 = true)] at h ⊢
      dsimp only at h ⊢
      by_cases c4 : isOp (ch q1) = true
      · rw [if_pos c4] at h ⊢
        right
        refine ⟨c4, ?_⟩
        by_cases h2 : (pgoal ch F (q1 + 1)).1 = true
        · right
          rcases hr2 : pgoal ch F (q1 + 1) with ⟨b2, q2, k2, l2⟩
          rw [hr2] at h2 h
          cases h2
          refine ⟨q2, k2, l2, rfl, ?_⟩
          rw [pb_true (rfl : (true, q2, k2, l2).1 = true)] at h ⊢
          dsimp only at h ⊢
          by_cases c5 : ch q2 = 41
          · rw [if_pos c5] at h; exact absurd rfl h
          · rw [if_neg c5]; exact ⟨c5, rfl⟩
        · left
          exact ⟨h2, by rw [pb_false h2]⟩
      · rw [if_neg c4]
        exact Or.inl ⟨c4, rfl⟩
    · left
      exact ⟨h1, by rw [pb_false h1]⟩
  rw [if_neg c3] at h ⊢
  right
  by_cases c6 : ch p = 91
  · rw [if_pos c6] at h ⊢
    left
    refine ⟨c6, ?_⟩
    by_cases h1 : (poff (pgoal ch F) ch (p + 1)).1 = true
    · right
      rcases hr : poff (pgoal ch F) ch (p + 1) with ⟨b1, q1, k1, l1⟩
      rw [hr] at h1 h
      cases h1
      refine ⟨q1, k1, l1, rfl, ?_⟩
      rw [pb_true (rfl : (true, q1, k1, l1).1 = true)] at h ⊢
      dsimp only at h ⊢
      by_cases c4 : ch q1 = 93
      · rw [if_pos c4] at h ⊢
        right
        refine ⟨c4, ?_⟩
        by_cases h2 : (pgoal ch F (q1 + 1)).1 = true
        · rw [pb_true h2] at h; exact absurd rfl h
        · exact ⟨h2, by rw [pb_false h2]⟩
      · rw [if_neg c4]
        exact Or.inl ⟨c4, rfl⟩
    · left
      exact ⟨h1, by rw [pb_false h1]⟩
  · rw [if_neg c6]
    exact Or.inr ⟨c2, c3, c6, rfl⟩
theorem f_goal (ch : Nat → Nat) (rd ca pl b n : Nat) : ∀ F, FGoal ch rd ca pl b n F (s_X5_readGoal F) := by
  intro F
  induction F with
  | zero => intro σ d p N lam h ha hp hd1 hd2 hF; have := h.hn; omega
  | succ F ih =>
    intro σ d p N lam h ha hp hd1 hd2 hF hR hN hlam
    have hs := s_goal ch rd ca pl b n F
    have hn := h.hn
    have hend := h.hend
    have h126 := h.h126 (b + p)
    have n1 := q_next h ha.1 hp ha.2.1 (by omega)
    rw [if_pos rfl] at n1
    obtain ⟨c1, hcase⟩ := pgoal_fails hR
    have nat : ¬ isAt (ch (b + p)) = true := fun q => c1 (Or.inl q)
    -- the first fault here, and refused
    have here : ∀ σ', s_X5_refuse rd σ = some (I (-1), σ') → ch (b + p) ≠ 33 → ch (b + p) ≠ 40 → ch (b + p) ≠ 91 → s_X5_readGoal (F + 1) rd (I d) σ = some (I (-1), σ') := by
      intro σ' hr c33 c40 c91
      show sc_X5_readGoal (s_X5_readGoal F) rd (I d) σ = _
      unfold sc_X5_readGoal
      rw [if_pos h.2.2.2.1, n1, bd_eq, q_isAtom (by omega), bd_eq, if_neg nat, if_pos (show (0 : Int32) = 0 from rfl)]
      have ne : ∀ k : Nat, k ≤ 200 → ch (b + p) ≠ k → ¬ I (ch (b + p) : Nat) = I (k : Nat) := fun k hk hne => by rw [I_eq (by omega) (by omega)]; omega
      rw [if_neg (show ¬ I (ch (b + p) : Nat) = 33 from ne 33 (by omega) c33), if_neg (show ¬ I (ch (b + p) : Nat) = 40 from ne 40 (by omega) c40), if_neg (show ¬ I (ch (b + p) : Nat) = 49 from ne 49 (by omega) (fun q => c1 (Or.inr (Or.inl q)))), if_neg (show ¬ I (ch (b + p) : Nat) = 84 from ne 84 (by omega) (fun q => c1 (Or.inr (Or.inr q)))), if_neg (show ¬ I (ch (b + p) : Nat) = 91 from ne 91 (by omega) c91), if_pos h.2.2.2.1, hr, bd_eq]
      split <;> rfl
    obtain ⟨F', rfl⟩ : ∃ F', F = F' + 1 := ⟨F - 1, by omega⟩
    by_cases hpn : p < n
    case neg =>
      have hz := hend (b + p) (by omega) (by omega)
      obtain ⟨σ', g1, g2, g3⟩ := new_bad h ha hp (by omega) (by omega)
      refine ⟨_, σ', here σ' g1 (by omega) (by omega) (by omega), g2, ?_⟩
      rcases hcase with ⟨c, _⟩ | ⟨c, _⟩ | ⟨c, _⟩ | ⟨_, _, _, e⟩
      · omega
      · omega
      · omega
      · rw [e, show b + p - b = p by omega]; exact ⟨by omega, g3⟩
    have hd60 : I (d : Int) ≤ 60 := by rw [I_lit, I_le (by omega) (by omega)]; omega
    obtain ⟨a1, f1, r1, e1⟩ := step_at h ha
    rcases hcase with ⟨hc, hr, e⟩ | ⟨hc, hcase⟩ | ⟨hc, hcase⟩ | ⟨c33, c40, c91, e⟩
    · rw [e]
      have hop : sP (setI σ rd 2 (I ((p + 1 : Nat) : Int))) rd 1 = some pl := h.2.2.2.2.2.1
      obtain ⟨r, σ2, g1, g2, g3, g4⟩ := ih _ (d + 1) (p + 1) N lam r1 a1 hpn (by omega) (by omega) (by omega) hr (by omega) (by omega)
      have r2 := r1.fr g2
      obtain ⟨r', σ3, j1, j2, j3⟩ := bad_add r2 g4 (I (33 : Nat)) r (I (-1))
      refine ⟨r', σ3, ?_, (f1.trans g2).trans j2, g3, j3⟩
      show sc_X5_readGoal (s_X5_readGoal (F' + 1)) rd (I d) σ = _
      unfold sc_X5_readGoal
      rw [if_pos h.2.2.2.1, n1, hc, bd_eq, if_pos hd60, q_isAtom (by omega), bd_eq, if_neg (show ¬ isAt 33 = true by decide), if_pos rfl, if_pos (by decide), if_pos h.2.2.2.1]
      simp only [ha.1, I_s, lt_eq, hop, op_eq, g1, bd_eq, r2.pl3, if_true, hm1]
      rw [j1, bd_eq]
    · -- a pair
      have hx1 := q_expect (k := 40) h ha hp hc
      have top : ∀ r σ', s_X5_readPair (s_X5_readGoal (F' + 1)) rd (I d) σ = some (r, σ') → s_X5_readGoal (F' + 1 + 1) rd (I d) σ = some (r, σ') := by
        intro r σ' hq
        show sc_X5_readGoal (s_X5_readGoal (F' + 1)) rd (I d) σ = _
        unfold sc_X5_readGoal
        rw [if_pos h.2.2.2.1, n1, hc, bd_eq, if_pos hd60, q_isAtom (by omega), bd_eq, if_neg (show ¬ isAt 40 = true by decide), if_pos rfl, if_neg (by decide), if_pos (by decide), if_pos h.2.2.2.1, hq, bd_eq]
      have unfp : s_X5_readPair (s_X5_readGoal (F' + 1)) rd (I d) σ = bd (s_X5_readGoal (F' + 1) rd (I d + 1) (setI σ rd 2 (I ((p + 1 : Nat) : Int)))) fun r25 σ23 =>
          if isO σ23 5 rd = true then (bd (s_X5_next rd σ23) fun r29 σ27 =>
          if r29 = 42 then (s_X5_readPair_42 (s_X5_readGoal (F' + 1)) rd (I d) r25 r29 σ27) else (if r29 = 38 then (s_X5_readPair_42 (s_X5_readGoal (F' + 1)) rd (I d) r25 r29 σ27) else (if r29 = 43 then (s_X5_readPair_42 (s_X5_readGoal (F' + 1)) rd (I d) r25 r29 σ27) else (if isO σ27 5 rd = true then (bd (s_X5_refuse rd σ27) fun r36 σ34 =>
          some (r36, σ34)) else none)))) else none := by
        unfold s_X5_readPair
        rw [if_pos h.2.2.2.1, show (40 : Int32) = I ((40 : Nat) : Int) from rfl, hx1, bd_eq, if_pos r1.2.2.2.1]
      rw [I_s] at unfp
      rcases hcase with ⟨hr, e⟩ | ⟨q1, k1, l1, hg, hcase⟩
      · rw [e]
        obtain ⟨r, σ2, g1, g2, g3, g4⟩ := ih _ (d + 1) (p + 1) N lam r1 a1 hpn (by omega) (by omega) (by omega) hr (by omega) (by omega)
        have r2 := r1.fr g2
        refine ⟨I (-1), σ2, top _ _ ?_, f1.trans g2, g3, g4⟩
        rw [unfp, g1, bd_eq, if_pos r2.2.2.2.1, bad_next r2 g4, bd_eq, if_neg (show ¬ I ((0 : Nat) : Int) = 42 by decide), if_neg (show ¬ I ((0 : Nat) : Int) = 38 by decide), if_neg (show ¬ I ((0 : Nat) : Int) = 43 by decide), if_pos r2.2.2.2.1, bad_refuse r2 g4, bd_eq]
      · have hg' : pgoal ch (F' + 1) (b + (p + 1)) = (true, q1, k1, l1) := hg
        have hpos1 := pgoal_pos ch b n hend hn (F' + 1) (b + p + 1) (by omega) (by omega)
        rw [hg] at hpos1
        dsimp only at hpos1
        have hlt1 := hpos1.2.2 rfl
        have hfit := pgoal_fits ch (F' + 1) (b + p + 1)
        rw [hg] at hfit
        have hfit := hfit rfl
        dsimp only at hfit
        obtain ⟨σ2, g1, g2, g3, -⟩ := hs _ (d + 1) (p + 1) N lam r1 a1 hpn (by omega) (by omega) (by omega) (by rw [hg']) (by rw [hg']; dsimp only; omega) (by omega)
        rw [hg'] at g1 g2 g3
        dsimp only at g1 g2
        have r2 := r1.fr g3.1
        have a2 := g3.2.2
        dsimp only at a2
        have hq1 : b + (q1 - b) = q1 := by omega
        have n2 := q_next r2 a2.1 (by omega) a2.2.1 (by omega)
        rw [if_pos rfl, hq1] at n2
        have h126q := h.h126 q1
        rcases hcase with ⟨hop, e⟩ | ⟨hop, hcase⟩
        · rw [e]
          obtain ⟨σ3, j1, j2, j3⟩ := new_bad r2 a2 (by omega) (by omega) (by omega)
          have ne : ∀ k : Nat, k ≤ 200 → (k = 42 ∨ k = 38 ∨ k = 43) → ¬ I (ch q1 : Nat) = I (k : Nat) := fun k hk hne => by
            rw [I_eq (by omega) (by omega)]
            intro q
            apply hop
            unfold isOp
            exact decide_eq_true (by omega)
          refine ⟨I (-1), σ3, top _ _ ?_, (f1.trans g3.1).trans j2, by omega, j3⟩
          rw [unfp, g1, bd_eq, if_pos r2.2.2.2.1, n2, bd_eq, if_neg (show ¬ I (ch q1 : Nat) = 42 from ne 42 (by omega) (by omega)), if_neg (show ¬ I (ch q1 : Nat) = 38 from ne 38 (by omega) (by omega)), if_neg (show ¬ I (ch q1 : Nat) = 43 from ne 43 (by omega) (by omega)), if_pos r2.2.2.2.1, j1, bd_eq]
        · have hop3 := isOp_spec hop
          have hq1n := r2.lt (p := q1 - b) (by omega) (by rw [hq1]; omega)
          obtain ⟨a3, f3, r3, e3⟩ := step_at r2 a2
          have top2 : ∀ r σ', s_X5_readPair_42 (s_X5_readGoal (F' + 1)) rd (I d) (I (N + k1 - 1)) (I (ch q1 : Nat)) σ2 = some (r, σ') → s_X5_readGoal (F' + 1 + 1) rd (I d) σ = some (r, σ') := by
            intro r σ' hq
            refine top _ _ ?_
            rw [unfp, g1, bd_eq, if_pos r2.2.2.2.1, n2, bd_eq]
            rcases hop3 with e | e | e
            · rw [e] at hq ⊢
              rw [if_pos (by decide)]; exact hq
            · rw [e] at hq ⊢
              rw [if_neg (by decide), if_pos (by decide)]; exact hq
            · rw [e] at hq ⊢
              rw [if_neg (by decide), if_neg (by decide), if_pos (by decide)]; exact hq
          have hx3 : b + (q1 - b + 1) = q1 + 1 := by omega
          rcases hcase with ⟨hr2, e⟩ | ⟨q2, k2, l2, hg2, hc2, e⟩
          · rw [e]
            obtain ⟨r, σ4, j1, j2, j3, j4⟩ := ih _ (d + 1) (q1 - b + 1) (N + k1) (lam + l1) r3 a3 hq1n (by omega) (by omega) (by omega) (by rw [hx3]; exact hr2) (by omega) (by omega)
            rw [hx3] at j3 j4
            have r4 := r3.fr j2
            obtain ⟨r', σ5, i1, i2, i3⟩ := bad_add r4 j4 (I (ch q1 : Nat)) (I (N + k1 - 1)) r
            refine ⟨r', σ5, top2 _ _ ?_, (((f1.trans g3.1).trans f3).trans j2).trans i2, j3, i3⟩
            unfold s_X5_readPair_42
            rw [if_pos r2.2.2.2.1]
            simp only [a2.1, I_s, lt_eq, j1, bd_eq, r4.2.2.2.1, if_true]
            rw [show (41 : Int32) = I ((41 : Nat) : Int) from rfl, bad_expect r4 j4 (by omega), bd_eq, if_pos r4.2.2.2.1, r4.2.2.2.2.2.1, op_eq, if_pos r4.pl3, i1, bd_eq]
          · rw [e]
            have hgq : pgoal ch (F' + 1) (b + (q1 - b + 1)) = (true, q2, k2, l2) := by rw [hx3]; exact hg2
            have hpos2 := pgoal_pos ch b n hend hn (F' + 1) (q1 + 1) (by omega) (by omega)
            rw [hg2] at hpos2
            dsimp only at hpos2
            have hfit2 := pgoal_fits ch (F' + 1) (q1 + 1)
            rw [hg2] at hfit2
            have hfit2 := hfit2 rfl
            dsimp only at hfit2
            obtain ⟨σ4, j1, j2, j3, -⟩ := hs _ (d + 1) (q1 - b + 1) (N + k1) (lam + l1) r3 a3 hq1n (by omega) (by omega) (by omega) (by rw [hgq]) (by rw [hgq]; dsimp only; omega) (by omega)
            rw [hgq] at j1 j2 j3
            dsimp only at j1 j2
            have r4 := r3.fr j3.1
            have a4 := j3.2.2
            dsimp only at a4
            obtain ⟨σ5, i1, i2, i3⟩ := new_expect (k := 41) r4 a4 (by omega) (by omega) (by omega) (by omega) (by rw [show b + (q2 - b) = q2 by omega]; exact hc2)
            have r5 := r4.fr i2
            obtain ⟨r', σ6, m1, m2, m3⟩ := bad_add r5 i3 (I (ch q1 : Nat)) (I (N + k1 - 1)) (I ((N + k1 : Nat) + k2 - 1))
            refine ⟨r', σ6, top2 _ _ ?_, ((((f1.trans g3.1).trans f3).trans j3.1).trans i2).trans m2, by omega, m3⟩
            unfold s_X5_readPair_42
            rw [if_pos r2.2.2.2.1]
            simp only [a2.1, I_s, lt_eq, j1, bd_eq, r4.2.2.2.1, if_true]
            rw [show (41 : Int32) = I ((41 : Nat) : Int) from rfl, i1, bd_eq, if_pos r5.2.2.2.1, r5.2.2.2.2.2.1, op_eq, if_pos r5.pl3, m1, bd_eq]
    · -- a loan
      have hpl := h.2.1
      have hrd := h.2.2.1.1
      have hx1 := q_expect (k := 91) h ha hp hc
      have hL := q_addLoan r1.1 hpl a1.2.2.2 (by omega)
      generalize hs1 : setI σ rd 2 (I ((p + 1 : Nat) : Int)) = σ1 at a1 f1 r1 e1 hx1 hL
      have hlo : I ((lam : Int) + 1) = I ((lam + 1 : Nat) : Int) := rfl
      rw [hlo] at hL
      have f2 : Fr (rdC rd pl) σ1 (setI σ1 pl 6 (I ((lam + 1 : Nat) : Int))) := (Fr.refl σ1).put _ (Or.inr ⟨by omega, by omega, fun _ => by omega⟩)
      have r2 := r1.fr f2
      have a2 : At rd pl (setI σ1 pl 6 (I ((lam + 1 : Nat) : Int))) (p + 1) N (lam + 1) := by
        obtain ⟨z1, z2, z3, z4⟩ := a1
        refine ⟨?_, ?_, ?_, ?_⟩
        · rw [sI_I, if_neg (by omega)]; exact z1
        · rw [sI_I, if_neg (by omega)]; exact z2
        · rw [sI_I, if_neg (by omega)]; exact z3
        · rw [sI_I, if_pos ⟨rfl, rfl⟩]
      generalize hs2 : setI σ1 pl 6 (I ((lam + 1 : Nat) : Int)) = σ2 at f2 r2 a2 hL
      generalize ho : (if 3 ≤ (lam : Int) then (-1 : Int) else 5 + (lam : Int)) = o at hL
      have ho2 : -1 ≤ o ∧ o ≤ 11 := by rw [← ho]; split <;> omega
      have top : ∀ r σ', s_X5_readLoan (s_X5_readGoal (F' + 1)) rd (I d) σ = some (r, σ') → s_X5_readGoal (F' + 1 + 1) rd (I d) σ = some (r, σ') := by
        intro r σ' hq
        show sc_X5_readGoal (s_X5_readGoal (F' + 1)) rd (I d) σ = _
        unfold sc_X5_readGoal
        rw [if_pos h.2.2.2.1, n1, hc, bd_eq, if_pos hd60, q_isAtom (by omega), bd_eq, if_neg (show ¬ isAt 91 = true by decide), if_pos rfl, if_neg (by decide), if_neg (by decide), if_neg (by decide), if_neg (by decide), if_pos (by decide), if_pos h.2.2.2.1, hq, bd_eq]
      have unfl : s_X5_readLoan (s_X5_readGoal (F' + 1)) rd (I d) σ = bd (s_X5_readOffer (s_X5_readGoal (F' + 1)) rd (I o) (I d) σ2) fun r15 σ13 =>
          if isO σ13 5 rd = true then (bd (s_X5_expect rd (I (93 : Nat)) σ13) fun r19 σ17 =>
          if isO σ17 5 rd = true then (op (sP σ17 rd 1) fun p21 =>
          bd (s_X5_readGoal (F' + 1) rd (I (d + 1 : Nat)) σ17) fun r25 σ23 =>
          if isO σ23 3 p21 = true then (bd (s_X3_addNode p21 (I (91 : Nat)) r25 (I o) σ23) fun r29 σ27 =>
          some (r29, σ27)) else none) else none) else none := by
        unfold s_X5_readLoan
        rw [if_pos h.2.2.2.1, show (91 : Int32) = I ((91 : Nat) : Int) from rfl, show (93 : Int32) = I ((93 : Nat) : Int) from rfl, hx1, bd_eq, if_pos r1.2.2.2.1, r1.2.2.2.2.2.1, op_eq, if_pos r1.pl3, hL, bd_eq, if_pos r2.2.2.2.1, I_s]
      have fin : ∀ σ3 q, RC ch rd ca pl b n σ3 → Fr (rdC rd pl) σ σ3 → Bad rd pl n σ3 q → ∃ r' σ4, (bd (s_X5_readGoal (F' + 1) rd (I (d + 1 : Nat)) σ3) fun r25 σ23 => if isO σ23 3 pl = true then (bd (s_X3_addNode pl (I (91 : Nat)) r25 (I o) σ23) fun r29 σ27 => some (r29, σ27)) else none) = some (r', σ4) ∧ Fr (rdC rd pl) σ σ4 ∧ Bad rd pl n σ4 q := by
        intro σ3 q hr3 hf3 hb3
        obtain ⟨r', σ4, i1, i2, i3⟩ := bad_add hr3 hb3 (I (91 : Nat)) (I (-1)) (I o)
        exact ⟨r', σ4, by rw [bad_goal hr3 hb3, bd_eq, if_pos hr3.pl3, i1, bd_eq], hf3.trans i2, i3⟩
      rcases hcase with ⟨hr, e⟩ | ⟨q1, k1, l1, hg, hcase⟩
      · rw [e]
        obtain ⟨σ3, g1, g2, g3, g4⟩ := f_off hs ih (o := o) (d := d) r2 a2 hpn hd1 (by omega) (by omega) hr (by omega) (by omega) ho2
        have r3 := r2.fr g2
        obtain ⟨r', σ4, i1, i2, i3⟩ := fin σ3 _ r3 ((f1.trans f2).trans g2) g4
        refine ⟨r', σ4, top _ _ ?_, i2, g3, i3⟩
        rw [unfl, g1, bd_eq, if_pos r3.2.2.2.1, bad_expect r3 g4 (by omega), bd_eq, if_pos r3.2.2.2.1, r3.2.2.2.2.2.1, op_eq]
        exact i1
      · have hg' : poff (pgoal ch (F' + 1)) ch (b + (p + 1)) = (true, q1, k1, l1) := hg
        have hpos1 := poff_pos b n hend hn (pgoal_pos ch b n hend hn (F' + 1)) (b + p + 1) (by omega) (by omega)
        rw [hg] at hpos1
        dsimp only at hpos1
        have hlt1 := hpos1.2.2 rfl
        have hfit := poff_fits (ch := ch) (pgoal_fits ch (F' + 1)) (b + p + 1)
        rw [hg] at hfit
        have hfit := hfit rfl
        dsimp only at hfit
        obtain ⟨σ3, g1, g3, -⟩ := s_off hs (o := o) (d := d) r2 a2 hpn hd1 (by omega) (by omega) (by rw [hg']) (by rw [hg']; dsimp only; omega) (by omega) ho2
        rw [hg'] at g3
        have r3 := r2.fr g3.1
        have a3 := g3.2.2
        dsimp only at a3
        have hq1 : b + (q1 - b) = q1 := by omega
        rcases hcase with ⟨hc2, e⟩ | ⟨hc2, hr2, e⟩
        · rw [e]
          obtain ⟨σ4, j1, j2, j3⟩ := new_expect (k := 93) r3 a3 (by omega) (by omega) (by omega) (by omega) (by rw [hq1]; exact hc2)
          have r4 := r3.fr j2
          obtain ⟨r', σ5, i1, i2, i3⟩ := fin σ4 _ r4 (((f1.trans f2).trans g3.1).trans j2) j3
          refine ⟨r', σ5, top _ _ ?_, i2, by omega, i3⟩
          rw [unfl, g1, bd_eq, if_pos r3.2.2.2.1, j1, bd_eq, if_pos r4.2.2.2.1, r4.2.2.2.2.2.1, op_eq]
          exact i1
        · rw [e]
          have hq1n := r3.lt (p := q1 - b) (by omega) (by rw [hq1]; omega)
          have hx2 := q_expect (k := 93) r3 a3 (by omega) (by rw [hq1]; exact hc2)
          obtain ⟨a4, f4, r4, e4⟩ := step_at r3 a3
          have hx3 : b + (q1 - b + 1) = q1 + 1 := by omega
          obtain ⟨r, σ5, j1, j2, j3, j4⟩ := ih _ (d + 1) (q1 - b + 1) (N + k1) (lam + 1 + l1) r4 a4 hq1n (by omega) (by omega) (by omega) (by rw [hx3]; exact hr2) (by omega) (by omega)
          rw [hx3] at j3 j4
          have r5 := r4.fr j2
          obtain ⟨r', σ6, i1, i2, i3⟩ := bad_add r5 j4 (I (91 : Nat)) r (I o)
          refine ⟨r', σ6, top _ _ ?_, ((((f1.trans f2).trans g3.1).trans f4).trans j2).trans i2, j3, i3⟩
          rw [unfl, g1, bd_eq, if_pos r3.2.2.2.1, hx2, bd_eq, if_pos r4.2.2.2.1, r4.2.2.2.2.2.1, op_eq, j1, bd_eq, if_pos r5.pl3, i1, bd_eq]
    · rw [e]
      obtain ⟨σ', g1, g2, g3⟩ := new_bad h ha hp (by omega) (by omega)
      exact ⟨_, σ', here σ' g1 c33 c40 c91, g2, by omega, by rw [show b + p - b = p by omega]; exact g3⟩
