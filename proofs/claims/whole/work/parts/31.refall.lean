theorem e_goal {ch : Nat → Nat} {s n F : Nat} (hk : MGoal ch s n F) (hkf : MFault ch s n F) {σ : St} {p N lam sp : Nat} {w : Nat → Nat} (h : MPre ch s n σ p N lam sp 0 0 w) (hF : 62 ≤ F + 1 + p) (hR : ¬ (pgoal ch (F + 1) (64 * s + p)).1 = true) : 64 * s ≤ (pgoal ch (F + 1) (64 * s + p)).2.1 ∧ Stop s n σ p ((pgoal ch (F + 1) (64 * s + p)).2.1 - 64 * s) := by
  obtain ⟨hr, hm0, hp, hsp1, hsp2, hw, hw0, hlay⟩ := id h
  have hn60 := hr.2.2.1
  have hend := hr.2.2.2.2.2.2
  have h126 := hr.2.2.2.2.2.1
  have l0 : ∀ P : Prop, (0 : Nat) = 1 → P := fun P q => by omega
  have up : ∀ {a b c d e f σ1 σ2} {t : Nat × Nat}, (t = (30, 5) ∨ t = (35, f) ∨ t = (36, f)) → Fr (mC a b c d e t) σ1 σ2 → Fr mF σ1 σ2 := by
    intro a b c d e f σ1 σ2 t ht hf
    refine hf.mono ?_
    rintro x k (q | ⟨rfl, rfl⟩ | q | q | q | q)
    · exact Or.inl ⟨q.1, by omega⟩
    · rcases ht with rfl | rfl | rfl
      · exact Or.inl ⟨rfl, Or.inl rfl⟩
      · exact Or.inr ⟨by show 34 ≤ 35; omega, by show 35 ≤ 43; omega⟩
      · exact Or.inr ⟨by show 34 ≤ 36; omega, by show 36 ≤ 43; omega⟩
    · exact Or.inr (by omega)
    · exact Or.inr (by omega)
    · exact Or.inr (by omega)
    · exact Or.inr (by omega)
  obtain ⟨c1, hcase⟩ := pgoal_fails hR
  rcases hcase with ⟨hc, hr2, e⟩ | ⟨hc, hcase⟩ | ⟨hc, hcase⟩ | ⟨c33, c40, c91, e⟩
  · rw [e]
    have hpn := h.lt (by omega)
    obtain ⟨σ1, σ2, b1, b2, b3, b4, b5, b6, b7, b8⟩ := m_open (x := 0) h hpn (l0 _) 3 (-6) 3 (Or.inr rfl)
    obtain ⟨g1, g2⟩ := hkf σ2 (p + 1) (N + 1) lam (sp + 1) _ b4 (by omega) hr2
    exact ⟨g1, (go1 hr hpn (rg_bang hr.1 hm0.2.2.2.1 hc b1 b2 b3)).stop hpn b6.up g2⟩
  · have hpn := h.lt (by omega)
    obtain ⟨σ1, σ2, b1, b2, b3, b4, b5, b6, b7, b8⟩ := m_open (x := 0) h hpn (l0 _) 4 (-6) 1 (Or.inl rfl)
    have go2 := go1 hr hpn (rg_pair hr.1 hm0.2.2.2.1 hc b1 b2 b3)
    rcases hcase with ⟨hr2, e⟩ | ⟨q1, k1, l1, hg, hcase⟩
    · rw [e]
      obtain ⟨g1, g2⟩ := hkf σ2 (p + 1) (N + 1) lam (sp + 1) _ b4 (by omega) hr2
      exact ⟨g1, go2.stop hpn b6.up g2⟩
    have hg' : pgoal ch F (64 * s + (p + 1)) = (true, q1, k1, l1) := hg
    have hpos1 := pgoal_pos ch (64 * s) n hend hn60 F (64 * s + (p + 1)) (by omega) (by omega)
    rw [hg'] at hpos1
    dsimp only at hpos1
    have hlt1 := hpos1.2.2 rfl
    obtain ⟨P1, rfl⟩ : ∃ P1, q1 = 64 * s + P1 := ⟨q1 - 64 * s, by omega⟩
    have k1' := (hk σ2 (p + 1) (N + 1) lam (sp + 1) 0 (upW w sp 1) N b4 (by omega) (l0 _)).1 (by rw [hg'])
    rw [hg'] at k1'
    obtain ⟨σ3, g1, g2, g3, g4⟩ := k1' (l0 _)
    dsimp only at g1 g2 g3 g4
    rw [upW_top] at g2
    rw [cmp_upW, if_neg (by omega), if_neg (by omega), if_pos rfl] at g3
    rw [show 64 * s + P1 - 64 * s = P1 by omega] at g1
    obtain ⟨hr2, hm2, -, -, -, hw2, -, -⟩ := b4
    have g2s : ∀ a k, a = 41 → k = sp → sI σ3 a k = sI σ2 a k := fun a k ha hk => g2.i a k (mC_not (by omega) (by show ¬ (a = 35 ∧ _); omega) (by omega) (by omega) (by omega) (by omega))
    have hr3 : RM ch s n σ3 := hr2.fr g2 (fun k => ⟨mC_not (by omega) (by show ¬ (31 = 35 ∧ _); omega) (by omega) (by omega) (by omega) (by omega), mC_not (by omega) (by show ¬ (32 = 35 ∧ _); omega) (by omega) (by omega) (by omega) (by omega)⟩)
    have hw3 : WH (upW w sp 1) (sp + 1) σ3 := fun j hj => by
      rw [g2.i 40 j (mC_not (by omega) (by show ¬ (40 = 35 ∧ _); omega) (by omega) (by omega) (by omega) (by omega))]
      exact hw2 j hj
    obtain ⟨m1, m2, m3, m4, m5⟩ := g3
    have go3 := go2.trans g1
    have fr3 : Fr mF σ σ3 := b6.up.trans (up (Or.inr (Or.inl rfl)) g2)
    rcases hcase with ⟨ho, e⟩ | ⟨ho, hcase⟩
    · rw [e, show 64 * s + P1 - 64 * s = P1 by omega]
      exact ⟨by omega, go3.stop (by omega) fr3 (stopAt hr3 (by omega) (fun _ => rej_sign hr3.1 m4 (h126 _) ho) m4 m3 (by omega) (by omega) (hw3 sp (by omega)).1 (hw3 sp (by omega)).2 (by omega))⟩
    have hq1 : P1 < n := h.1.2.2.1 |> fun _ => by
      apply Nat.lt_of_not_le
      intro hh
      have := hend (64 * s + P1) (by omega) (by omega)
      rw [this] at ho
      exact absurd ho (by decide)
    obtain ⟨σ4, s1, s2, s3, s4, s5⟩ := rg_sign (N := N) hr3.1 m4 m3 (by omega) m5 (by omega) (by rw [g2s 41 sp rfl rfl]; exact b8) (l0 _) ho
    have pre4 : MPre ch s n σ4 (P1 + 1) (N + 1 + k1) (lam + l1) (sp + 1) 0 0 (upW w sp 2) := by
      refine ⟨hr3.fr s2 (fun k => ⟨by unfold sgC; omega, by unfold sgC; omega⟩), ⟨by rw [s2.i 30 5 (by unfold sgC; omega)]; exact m1, by rw [s2.i 30 6 (by unfold sgC; omega)]; exact m2, by rw [s2.i 30 18 (by unfold sgC; omega)]; exact m3, s3, by rw [s2.i 30 20 (by unfold sgC; omega)]; exact m5⟩, by omega, by omega, by omega, fun j hj => ?_, by unfold upW; rw [if_neg (by omega)]; exact hw0, by omega⟩
      unfold upW
      by_cases cj : j = sp
      · rw [if_pos cj, cj]; exact ⟨s4, by omega⟩
      · rw [if_neg cj, s2.i 40 j (by unfold sgC; omega)]
        have := hw3 j hj
        unfold upW at this
        rw [if_neg cj] at this
        exact this
    have go4 := go3.trans (go1 hr3 hq1 s1)
    have fr4 : Fr mF σ σ4 := fr3.trans (s2.mono (by
      intro a k
      unfold sgC mF
      omega))
    rcases hcase with ⟨hr4, e⟩ | ⟨q2, k2, l2, hg2, hc2, e⟩
    · rw [e]
      obtain ⟨j1, j2⟩ := hkf σ4 (P1 + 1) _ _ _ _ pre4 (by omega) hr4
      exact ⟨j1, go4.stop hq1 fr4 j2⟩
    have hpos2 := pgoal_pos ch (64 * s) n hend hn60 F (64 * s + P1 + 1) (by omega) (by omega)
    rw [hg2] at hpos2
    dsimp only at hpos2
    have hlt2 := hpos2.2.2 rfl
    obtain ⟨P2, rfl⟩ : ∃ P2, q2 = 64 * s + P2 := ⟨q2 - 64 * s, by omega⟩
    have hg2' : pgoal ch F (64 * s + (P1 + 1)) = (true, 64 * s + P2, k2, l2) := hg2
    have k2' := (hk σ4 (P1 + 1) (N + 1 + k1) (lam + l1) (sp + 1) 0 (upW w sp 2) N pre4 (by omega) (l0 _)).1 (by rw [hg2'])
    rw [hg2'] at k2'
    obtain ⟨σ5, j1, j2, j3, j4⟩ := k2' (l0 _)
    dsimp only at j1 j2 j3 j4
    rw [upW_top] at j2
    rw [cmp_upW, if_neg (by omega), if_neg (by omega), if_neg (by omega), if_pos rfl] at j3
    rw [show 64 * s + P2 - 64 * s = P2 by omega] at j1
    have hr5 : RM ch s n σ5 := pre4.1.fr j2 (fun k => ⟨mC_not (by omega) (by show ¬ (31 = 36 ∧ _); omega) (by omega) (by omega) (by omega) (by omega), mC_not (by omega) (by show ¬ (32 = 36 ∧ _); omega) (by omega) (by omega) (by omega) (by omega)⟩)
    have h405 : sI σ5 40 (sp + 1 - 1) = I (2 : Nat) := by
      rw [show sp + 1 - 1 = sp by omega, j2.i 40 sp (mC_not (by omega) (by show ¬ (40 = 36 ∧ _); omega) (by omega) (by omega) (by omega) (by omega))]
      exact s4
    rw [e, show 64 * s + P2 - 64 * s = P2 by omega]
    exact ⟨by omega, (go4.trans j1).stop (by omega) (fr4.trans (up (Or.inr (Or.inr rfl)) j2)) (stopAt hr5 (by omega) (fun _ => rej_close hr5.1 j3.2.2.2.1 (h126 _) hc2) j3.2.2.2.1 j3.2.2.1 (by omega) (by omega) h405 (by omega) (by omega))⟩
  · have hpn := h.lt (by omega)
    obtain ⟨σ2, b1, b2, b3, b4, b5⟩ := m_lent (x := 0) h hpn (l0 _)
    have go2 := go1 hr hpn (rg_loan hr.1 hm0.2.2.2.1 hc b1)
    rcases hcase with ⟨hr2, e⟩ | ⟨q1, k1, l1, hg, hcase⟩
    · rw [e]
      obtain ⟨g1, g2⟩ := e_off hk hkf b2 (by omega) hr2
      exact ⟨g1, go2.stop hpn b4.up g2⟩
    have hg' : poff (pgoal ch F) ch (64 * s + (p + 1)) = (true, q1, k1, l1) := hg
    obtain ⟨σ3, pos, j, P1, rfl, hP1, hP1n, hA, hj1, hj3, hj4, hfp⟩ := m_off hk b2 (by omega) hg' (l0 _)
    obtain ⟨a1, a2, ⟨nx, n1, n2, n3⟩, a4, aN, al, a5⟩ := hA
    obtain ⟨hr2, hm2, -, -, -, hw2, hw20, -, h42, -, -⟩ := id b2
    have cl : ∀ a k, (a < 34 ∧ a ≠ 30 ∨ (40 ≤ a ∧ a ≤ 42) ∧ k < sp + 1) → sI σ3 a k = sI σ2 a k := fun a k hh => a2.i a k (by
      rintro (e | e)
      · have := mC_split e; omega
      · unfold hdO at e; omega)
    have hr3 : RM ch s n σ3 := hr2.fr a2 (fun k => ⟨by rintro (e | e); have := mC_split e; omega; unfold hdO at e; omega, by rintro (e | e); have := mC_split e; omega; unfold hdO at e; omega⟩)
    obtain ⟨t1, t2, t3, t4, t5⟩ := n3
    have h40 : sI σ3 40 (sp + 1 - 1) = I (6 : Nat) := by
      rw [show sp + 1 - 1 = sp by omega, cl 40 sp (by omega)]
      have := (hw2 sp (by omega)).1
      unfold upW at this
      rw [if_pos rfl] at this
      exact this
    have h42' : sI σ3 42 (sp + 1 - 1) = I ((5 + lam : Nat) : Int) := by rw [cl 42 _ (by omega)]; exact h42
    have go3 := go2.trans a1
    have fr3 : Fr mF σ σ3 := b4.up.trans (a2.mono (by
      rintro a k (e | e)
      · exact mF_mC e
      · exact mF_hdO e))
    rcases hcase with ⟨hc2, e⟩ | ⟨hc2, hr4, e⟩
    · rw [e, show 64 * s + P1 - 64 * s = P1 by omega]
      refine ⟨by omega, go3.stop hP1n fr3 (stopAt hr3 hP1n (fun _ => ?_) t4 t3 (by omega) (by omega) h40 (by omega) (by omega))⟩
      rw [rg_behind hr3.1 t4 n1 t3 (by omega) (by omega) h42' a4 hj3 h40 (by omega) (h126 _), if_neg (fun q => n2 q.2 q.1), if_neg (fun q => by have := hj4 q.1; omega), if_neg (fun q => hc2 q.1)]
    have hq1n : P1 < n := b2.lt hP1n (by omega)
    have e1 : s_X11_reads 30 (I (ch (64 * s + P1) : Nat)) σ3 = some (1, setI (setI σ3 40 sp 3) 30 19 0) := by
      rw [rg_behind hr3.1 t4 n1 t3 (by omega) (by omega) h42' a4 hj3 h40 (by omega) (h126 _), if_neg (by omega), if_neg (by omega), if_pos ⟨hc2, rfl⟩]
      rfl
    have f4 : Fr (fun a k => (a = 40 ∧ k = sp) ∨ (a = 30 ∧ k = 19)) σ3 (setI (setI σ3 40 sp 3) 30 19 0) := ((Fr.refl σ3).put _ (Or.inl ⟨rfl, rfl⟩)).put _ (Or.inr ⟨rfl, rfl⟩)
    generalize hσ4 : setI (setI σ3 40 sp 3) 30 19 0 = σ4 at e1 f4
    have pre4 : MPre ch s n σ4 (P1 + 1) (N + 1 + k1) (lam + 1 + l1) (sp + 1) 0 0 (upW w sp 3) := by
      refine ⟨hr3.fr f4 (fun k => by omega), ⟨by rw [f4.i 30 5 (by omega)]; exact t1, by rw [f4.i 30 6 (by omega)]; exact t2, by rw [f4.i 30 18 (by omega)]; exact t3, by rw [← hσ4]; exact sIe, by rw [f4.i 30 20 (by omega)]; exact t5⟩, by omega, by omega, by omega, fun i hi => ?_, ?_, hlay⟩
      · unfold upW
        by_cases cj : i = sp
        · rw [if_pos cj, cj, ← hσ4, sIn (by omega), sIe]; exact ⟨rfl, by omega⟩
        · rw [if_neg cj, f4.i 40 i (by omega), cl 40 i (by omega)]
          have := hw2 i (by omega)
          unfold upW at this
          rw [if_neg cj] at this
          exact this
      · unfold upW; rw [if_neg (by omega)]; exact hw0
    rw [e]
    obtain ⟨j1, j2⟩ := hkf σ4 (P1 + 1) _ _ _ _ pre4 (by omega) hr4
    exact ⟨j1, (go3.trans (go1 hr3 hq1n e1)).stop hq1n (fr3.trans (f4.mono (by
      intro a k
      unfold mF
      omega))) j2⟩
  · rw [e, show 64 * s + p - 64 * s = p by omega]
    exact ⟨by omega, stopAt hr hp (fun _ => rej_goal hr.1 hm0.2.2.2.1 (h126 _) c1 ⟨c33, c40, c91⟩) hm0.2.2.2.1 hm0.2.2.1 hsp1 (by omega) (hw (sp - 1) (by omega)).1 (hw (sp - 1) (by omega)).2 (by omega)⟩
/-- the reference's reader reads what the document's rules read -/
theorem m_goal (ch : Nat → Nat) (s n : Nat) : ∀ F, MGoal ch s n F := by
  intro F
  induction F with
  | zero => intro σ p N lam sp lay w x h hF; have := h.2.2.1; have := h.1.2.2.1; omega
  | succ F ih =>
    intro σ p N lam sp lay w x h hF ht
    refine ⟨fun hR => ?_, fun hR hl => ?_⟩
    · rcases pgoal_cases hR with ⟨hc, e⟩ | ⟨hc, q, k, l, hg, e⟩ | ⟨hc, q1, k1, l1, q2, k2, l2, hg, ho, hg2, hc2, e⟩ | ⟨hc, q1, k1, l1, q2, k2, l2, hg, hc2, hg2, e⟩
      · rw [e]; exact m_leaf h ht hc
      · rw [e]; exact m_bang ih h hF ht hc hg
      · rw [e]; exact m_pair ih h hF ht hc hg ho hg2 hc2
      · rw [e]; exact m_loan ih h hF ht hc hg hc2 hg2
    · subst hl
      exact e_goal ih (fun σ p N lam sp w h1 h2 h3 => (ih σ p N lam sp 0 w 0 h1 h2 (fun q => by omega)).2 h3 rfl) h hF hR
theorem m_fault (ch : Nat → Nat) (s n F : Nat) : MFault ch s n F := fun σ p N lam sp w h1 h2 h3 => (m_goal ch s n F σ p N lam sp 0 w 0 h1 h2 (fun q => by omega)).2 h3 rfl
