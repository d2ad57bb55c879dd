theorem m_loan {ch : Nat → Nat} {s n F : Nat} (hk : MGoal ch s n F) {σ : St} {p N lam sp lay x q1 k1 l1 q2 k2 l2 : Nat} {w : Nat → Nat} (h : MPre ch s n σ p N lam sp 0 lay w) (hF : 62 ≤ F + 1 + p) (ht : lay = 1 → TF σ sp (w (sp - 1)) x N lam) (hc : ch (64 * s + p) = 91)
    (hg : poff (pgoal ch F) ch (64 * s + p + 1) = (true, q1, k1, l1)) (hc2 : ch q1 = 93) (hg2 : pgoal ch F (q1 + 1) = (true, q2, k2, l2)) : MOK ch s σ p N lam sp lay w x (true, q2, k1 + (k2 + 1), l1 + (l2 + 1)) := by
  intro hl
  dsimp only at hl ⊢
  have hpn := h.lt (by omega)
  obtain ⟨hr, hm0, hp, hsp1, hsp2, hw, hw0, hlay⟩ := id h
  have hn60 := hr.2.2.1
  have hend := hr.2.2.2.2.2.2
  have h126 := hr.2.2.2.2.2.1
  obtain ⟨σ2, b1, b2, b3, b4, b5⟩ := m_lent h hpn (fun q => ⟨by have := hl q; omega, by have := hl q; omega, ht q⟩)
  have hg' : poff (pgoal ch F) ch (64 * s + (p + 1)) = (true, q1, k1, l1) := hg
  obtain ⟨σ3, pos, j, P1, rfl, hP1, hP1n, hA, hj1, hj3, hj4, hfp⟩ := m_off hk b2 (by omega) hg' (fun q => by have := hl q; omega)
  obtain ⟨a1, a2, ⟨nx, n1, n2, n3⟩, a4, aN, al, a5⟩ := hA
  have hq1n : P1 < n := b2.lt hP1n (by omega)
  have hpos2 := pgoal_pos ch (64 * s) n hend hn60 F (64 * s + P1 + 1) (by omega) (by omega)
  have hk2 := pgoal_one ch F (64 * s + P1 + 1) (by rw [hg2])
  rw [hg2] at hk2 hpos2
  dsimp only at hk2 hpos2
  have hlt2 := hpos2.2.2 rfl
  obtain ⟨P2, rfl⟩ : ∃ P2, q2 = 64 * s + P2 := ⟨q2 - 64 * s, by omega⟩
  obtain ⟨hr2, hm2, -, -, -, hw2, hw20, -, h42, -, -⟩ := id b2
  have cl : ∀ a k, (a < 34 ∧ a ≠ 30 ∨ (40 ≤ a ∧ a ≤ 42) ∧ k < sp + 1) → sI σ3 a k = sI σ2 a k := fun a k hh => a2.i a k (by
    rintro (e | e)
    · have := mC_split e; omega
    · unfold hdO at e; omega)
  have hr3 : RM ch s n σ3 := hr2.fr a2 (fun k => ⟨by rintro (e | e); have := mC_split e; omega; unfold hdO at e; omega, by rintro (e | e); have := mC_split e; omega; unfold hdO at e; omega⟩)
  obtain ⟨t1, t2, t3, t4, t5⟩ := n3
  have h40 : sI σ3 40 sp = I (6 : Nat) := by
    rw [cl 40 sp (by omega)]
    have := (hw2 sp (by omega)).1
    unfold upW at this
    rw [if_pos rfl] at this
    exact this
  have h42' : sI σ3 42 (sp + 1 - 1) = I ((5 + lam : Nat) : Int) := by rw [cl 42 _ (by omega)]; exact h42
  have e1 : s_X11_reads 30 (I (ch (64 * s + P1) : Nat)) σ3 = some (1, setI (setI σ3 40 sp 3) 30 19 0) := by
    rw [rg_behind hr3.1 t4 n1 t3 (by omega) (by omega) h42' a4 hj3 h40 (by omega) (h126 _), if_neg (by omega), if_neg (by omega), if_pos ⟨hc2, rfl⟩]
    rfl
  have f4 : Fr (fun a k => (a = 40 ∧ k = sp) ∨ (a = 30 ∧ k = 19)) σ3 (setI (setI σ3 40 sp 3) 30 19 0) := ((Fr.refl σ3).put _ (Or.inl ⟨rfl, rfl⟩)).put _ (Or.inr ⟨rfl, rfl⟩)
  generalize hσ4 : setI (setI σ3 40 sp 3) 30 19 0 = σ4 at e1 f4
  have h41 : sI σ4 41 sp = I (N : Nat) := by rw [f4.i 41 sp (by omega), cl 41 sp (by omega)]; exact b3
  have pre4 : MPre ch s n σ4 (P1 + 1) (N + 1 + k1) (lam + 1 + l1) (sp + 1) 0 lay (upW w sp 3) := by
    refine ⟨hr3.fr f4 (fun k => by omega), ⟨by rw [f4.i 30 5 (by omega)]; exact t1, by rw [f4.i 30 6 (by omega)]; exact t2, by rw [f4.i 30 18 (by omega)]; exact t3, by rw [← hσ4]; exact sIe, by rw [f4.i 30 20 (by omega)]; exact t5⟩, by omega, by omega, by omega, fun i hi => ?_, ?_, hlay⟩
    · unfold upW
      by_cases cj : i = sp
      · rw [if_pos cj, cj, ← hσ4, sIn (by omega), sIe]; exact ⟨rfl, by omega⟩
      · rw [if_neg cj, f4.i 40 i (by omega), cl 40 i (by omega)]
        have := hw2 i (by omega)
        unfold upW at this
        rw [if_neg cj] at this
        exact this
    · unfold upW; rw [if_neg (by omega)]; exact hw0
  have ht4 : lay = 1 → TF σ4 (sp + 1) (upW w sp 3 (sp + 1 - 1)) N (N + 1 + k1) (lam + 1 + l1) := fun _ => by
    rw [upW_top]
    exact Or.inr (Or.inl ⟨by omega, h41, by omega⟩)
  have hg2' : pgoal ch F (64 * s + (P1 + 1)) = (true, 64 * s + P2, k2, l2) := hg2
  have k2' := (hk σ4 (P1 + 1) (N + 1 + k1) (lam + 1 + l1) (sp + 1) lay (upW w sp 3) N pre4 (by omega) ht4).1 (by rw [hg2'])
  rw [hg2'] at k2'
  obtain ⟨σ5, j1, j2, j3, j4⟩ := k2' (fun q => by have := hl q; dsimp only; omega)
  dsimp only at j1 j2 j3 j4
  rw [upW_top] at j2 j4
  rw [cmp_upW, if_pos rfl] at j3
  have eN : N + (k1 + (k2 + 1)) = N + 1 + k1 + k2 := by omega
  have eL : lam + (l1 + (l2 + 1)) = lam + 1 + l1 + l2 := by omega
  rw [eN, eL]
  have j2n : ∀ a k, (a = 30 → k ≠ 5 ∧ k ≠ 6 ∧ k ≠ 18 ∧ k ≠ 19) → ¬ (a = 35 ∧ k = N) → (a = 34 ∨ a = 35 ∨ a = 36 → k < N + 1 + k1) → (a = 37 → k < 5 + (lam + 1 + l1)) → (a = 38 ∨ a = 39 → k < 15 + 3 * (lam + 1 + l1)) → (40 ≤ a → a ≤ 43 → k < sp + 1) → sI σ5 a k = sI σ4 a k := fun a k h1 h2 h3 h4 h5 h6 => j2.i a k (mC_not h1 h2 (fun q => Or.inl (h3 q)) (fun q => Or.inl (h4 q)) (fun q => Or.inl (h5 q)) h6)
  have go : Go s σ p σ5 (64 * s + P2 - 64 * s) := (((go1 hr hpn (rg_loan hr.1 hm0.2.2.2.1 hc b1)).trans a1).trans (go1 hr3 hq1n e1)).trans j1
  have fr : Fr (mC N sp (N + 1 + k1 + k2) lam (lam + 1 + l1 + l2) (tg (w (sp - 1)) x)) σ σ5 := by
    refine (((b4.mono (mC_sub (by omega) mC_t)).trans (a2.mono ?_)).trans (f4.mono ?_)).trans (j2.mono (mC_sub (by omega) (mC_n (Or.inr (Or.inl rfl)) (by show N ≤ N ∧ N < _; omega))))
    · rintro a k (q | q)
      · rcases mC_split q with q | q | q | q | q
        · exact Or.inl q
        · exact mC_n q.1 (by omega)
        · exact Or.inr (Or.inr (Or.inr (Or.inl (by omega))))
        · exact Or.inr (Or.inr (Or.inr (Or.inr (Or.inl (by omega)))))
        · exact Or.inr (Or.inr (Or.inr (Or.inr (Or.inr (by omega)))))
      · rcases q with q | q | q
        · exact Or.inr (Or.inr (Or.inr (Or.inl (by omega))))
        · exact Or.inr (Or.inr (Or.inr (Or.inr (Or.inl (by omega)))))
        · exact Or.inr (Or.inr (Or.inr (Or.inr (Or.inr (by omega)))))
    · rintro a k (⟨rfl, rfl⟩ | ⟨rfl, rfl⟩)
      · exact Or.inr (Or.inr (Or.inr (Or.inr (Or.inr (by omega)))))
      · exact Or.inl ⟨rfl, by omega⟩
  refine ⟨σ5, go, fr, j3, fun y1 y2 y3 => ?_⟩
  have hl1 := hl y1
  have ht1 := ht y1
  obtain ⟨d1, d2, d3⟩ := b5 y1
  have c1' : lam + 1 = cntB ch (64 * s + (p + 1)) := by
    rw [show 64 * s + (p + 1) = 64 * s + p + 1 by omega, cntB_step1 hc, y2]
  obtain ⟨u0, u1, u2⟩ := a5 y1 c1' y3
  have c2' : lam + 1 + l1 = cntB ch (64 * s + (P1 + 1)) := by
    rw [show 64 * s + (P1 + 1) = 64 * s + P1 + 1 by omega, cntB_step (by omega)]
    exact u0
  obtain ⟨v1, v2⟩ := j4 y1 c2' y3
  have c54 : ∀ a k, (a = 34 ∨ a = 36) ∧ k < N + 1 + k1 ∨ a = 35 ∧ k ≠ N ∧ k < N + 1 + k1 ∨ a = 37 ∧ k < 5 + (lam + 1 + l1) ∨ (a = 38 ∨ a = 39) ∧ k < 15 + 3 * (lam + 1 + l1) → sI σ5 a k = sI σ3 a k := fun a k hh => by
    rw [j2n a k (by omega) (by omega) (by omega) (by omega) (by omega) (by omega), f4.i a k (by omega)]
  have c3N : ∀ a, a = 34 ∨ a = 36 → sI σ3 a N = sI σ2 a N := fun a ha => a2.i a N (by
    rintro (e | e)
    · have := mC_split e; omega
    · unfold hdO at e; omega)
  refine ⟨?_, fun κ => ?_⟩
  · have tne := @tg_ne (w (sp - 1)) x
    rw [j2.i _ _ (tg_out ht1 (by omega) (by omega) (by omega) (tg_no35 ht1)), f4.i _ _ (by omega), a2.i _ _ ?_]
    · exact d3
    · rintro (e | e)
      · exact tg_out ht1 (by omega) (by omega) (by omega) (by show ¬ (_ = 30 ∧ _ = 5); omega) e
      · unfold hdO at e
        rcases ht1 with ht1 | ⟨_, _, _⟩ | ⟨_, _, o, f, _, _, _, _, _, _, _⟩
        · omega
        · omega
        · omega
  · obtain ⟨κ1, i1, i2⟩ := u2 (fun c => if c = N then 64 * s + p else κ c)
    obtain ⟨κ2, x1, x2⟩ := v2 κ1
    have i2l := i1.1
    dsimp only at i2l
    have hN1 : κ1 N = 64 * s + p := by rw [i2l N (by omega), if_pos rfl]
    have hN : κ2 N = 64 * s + p := by rw [x2.1 N (by omega)]; exact hN1
    have lt := i1.trans x2 aN (by omega) al (fun a c hc1 hc2 ha => c54 a c (by omega)) (fun o ho1 ho2 => c54 37 o (by omega)) (fun a k hk1 hk2 ha => c54 a k (by omega))
    refine ⟨κ2, hN, fun c hc => ?_, fun c hc1 hc2 => ?_, fun o f ho1 ho2 hf => ?_⟩
    · rw [x2.1 c (by omega), i2l c (by omega), if_neg (by omega)]
    · by_cases cc : c = N
      · subst cc
        have heO : eO ch (64 * s + p + 1) = 64 * s + P1 := by
          unfold eO
          rw [show poff (G64 ch) ch (64 * s + p + 1) = poff (pgoal ch F) ch (64 * s + p + 1) from poff_fuel (64 * s) n hend hn60 (pgoal_pos ch (64 * s) n hend hn60 64) (64 * s + p + 1) (by omega) (by omega) (fun q h1 h2 => pgoal_fuel ch (64 * s) n hend hn60 64 F q (by omega) h2 (by omega) (by omega)), hg]
        have hkd : kd ch (64 * s + p) = 91 := by unfold kd; rw [if_neg (by omega)]; exact hc
        have hln : ln ch (64 * s + p) = 5 + lam := by unfold ln; omega
        unfold nodeM
        rw [hN, c54 34 c (by omega), c54 36 c (by omega), c3N 34 (by omega), c3N 36 (by omega), d1, d2, hkd, hln]
        refine ⟨rfl, fun q => by rw [hc] at q; exact absurd q (by decide), fun _ => ⟨c + 1 + k1, by omega, v1, ?_⟩, fun q => by omega, fun q => ⟨rfl, by omega⟩, by omega, fun q => by omega⟩
        rw [x1]
        unfold ch1
        rw [if_pos hc, heO]
        rfl
      · exact lt.2.1 c (by omega) hc2
    · by_cases co : o = 5 + lam
      · subst co
        have hLF : loanF ch (5 + lam) f = fpos ch (64 * s + (p + 1)) f := by
          unfold loanF
          rw [show 5 + lam - 5 = cntB ch (64 * s + p) by omega, nthB_spec hc 640 (by omega)]
          rfl
        rw [hLF]
        exact faceM_mono (acc_face u1 hj3 i2 hfp f hf) (by omega) x2.1 (c54 37 _ (by omega)) (fun a ha => c54 a _ (by omega))
      · exact lt.2.2 o f (by omega) ho2 hf
