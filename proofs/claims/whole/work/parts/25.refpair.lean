def opk (c : Nat) : Nat := if c = 42 then 4 else if c = 38 then 5 else 6
theorem isOp_cases {c : Nat} (h : isOp c = true) : c = 42 ∨ c = 38 ∨ c = 43 := of_decide_eq_true h
def sgC (N sp : Nat) : Nat → Nat → Prop := fun a k => (a = 30 ∧ k = 19) ∨ (a = 40 ∧ k = sp) ∨ (a = 34 ∧ k = N)
/-- the sign between two goals -/
theorem rg_sign {σ : St} (hs : SS σ) {N sp lay c : Nat} (hnx : sI σ 30 19 = I (1 : Nat)) (hsp : sI σ 30 18 = I ((sp + 1 : Nat) : Int)) (hsp2 : sp < 128) (hlay : sI σ 30 20 = I (lay : Nat)) (hl : lay ≤ 1) (hN : sI σ 41 sp = I (N : Nat)) (hN2 : lay = 1 → N < 64) (hc : isOp c = true) :
    ∃ σ', s_X11_reads 30 (I (c : Nat)) σ = some (1, σ') ∧ Fr (sgC N sp) σ σ' ∧ sI σ' 30 19 = I (0 : Nat) ∧ sI σ' 40 sp = I (2 : Nat) ∧ (lay = 1 → sI σ' 34 N = I (opk c : Nat)) := by
  have f64 : ∀ σ1, SS σ1 → sI σ1 30 18 = I ((sp + 1 : Nat) : Int) → s_X11_readSign_64 30 σ1 = some (1, setI (setI σ1 40 sp 2) 30 19 0) := fun σ1 h1 h2 => by
    unfold s_X11_readSign_64
    have e : sI σ1 30 18 - 1 = I (sp : Nat) := by rw [h2, I_m1 (by omega)]; rfl
    rw [if_pos (h1.o 11 30 (by decide)), pst 128 (h1.p 30 14 40 (by decide)) (h1.o 13 40 (by decide)) (h1.len 40 128 (by decide)) e hsp2 (by omega), lt_eq]
  have f33 : ∃ σ', s_X11_readSign_33 30 (I (opk c : Nat)) σ = some (1, σ') ∧ Fr (sgC N sp) σ σ' ∧ sI σ' 30 19 = I (0 : Nat) ∧ sI σ' 40 sp = I (2 : Nat) ∧ (lay = 1 → sI σ' 34 N = I (opk c : Nat)) := by
    have hk : opk c ≤ 6 := by unfold opk; split; omega; split <;> omega
    unfold s_X11_readSign_33
    rw [if_pos (by rw [I_lit, I_le (by omega) (by omega)]; omega), if_pos (hs.o 11 30 (by decide)), hlay]
    by_cases h0 : lay = 0
    · subst h0
      rw [if_pos (show I ((0 : Nat) : Int) = (0 : Int32) from rfl), f64 σ hs hsp]
      exact ⟨_, rfl, ((Fr.refl σ).put _ (Or.inr (Or.inl ⟨rfl, rfl⟩))).put _ (Or.inl ⟨rfl, rfl⟩), sIe, by rw [sIn (by omega), sIe]; rfl, fun q => by omega⟩
    · obtain rfl : lay = 1 := by omega
      have hN2 := hN2 rfl
      rw [if_neg (by decide), hs.p 30 7 34 (by decide), op_eq, hs.p 30 15 41 (by decide), op_eq, if_pos (hs.o 13 41 (by decide)), hsp, I_m1 (by omega), show sp + 1 - 1 = sp by omega, hs.len 41 128 (by decide), if_pos (inN hsp2 (by omega)), if_pos (hs.o 13 34 (by decide)), tNI (by omega), hN, hs.len 34 64 (by decide), if_pos (inN hN2 (by omega)), lt_eq, tNI (by omega),
        f64 _ (hs.i _ _ _) (by rw [sIn (by omega)]; exact hsp)]
      refine ⟨_, rfl, (((Fr.refl σ).put _ (Or.inr (Or.inr ⟨rfl, rfl⟩))).put _ (Or.inr (Or.inl ⟨rfl, rfl⟩))).put _ (Or.inl ⟨rfl, rfl⟩), sIe, by rw [sIn (by omega), sIe]; rfl, fun q => ?_⟩
      rw [sIn (by omega), sIn (by omega), sIe]
  obtain ⟨σ', g1, g2⟩ := f33
  refine ⟨σ', ?_, g2⟩
  rw [rds hs hnx (by omega), if_neg (by omega), if_pos rfl]
  have : s_X11_readSign 30 (I (c : Nat)) σ = s_X11_readSign_33 30 (I (opk c : Nat)) σ := by
    unfold s_X11_readSign
    rcases isOp_cases hc with rfl | rfl | rfl
    · rw [if_pos (by decide)]; rfl
    · rw [if_neg (by decide), if_pos (by decide)]; rfl
    · rw [if_neg (by decide), if_neg (by decide), if_pos (by decide)]; rfl
  rw [this, g1, bd_eq, if_pos zok1]
/-- the bracket behind two goals -/
theorem rg_close {w : Nat → Nat} (hw0 : w 0 ≠ 3) {σ : St} (hs : SS σ) {sp : Nat} (h1 : 1 ≤ sp) (h2 : sp < 128) (hnx : sI σ 30 19 = I (2 : Nat)) (hsp : sI σ 30 18 = I ((sp + 1 : Nat) : Int)) (hw : WH w sp σ) :
    ∃ σ', s_X11_reads 30 (I (41 : Nat)) σ = some (1, σ') ∧ Fr cC σ σ' ∧ sI σ' 30 18 = I ((cmp w sp).1 : Nat) ∧ sI σ' 30 19 = I ((cmp w sp).2 : Nat) := by
  have e : sI σ 30 18 - 1 = I (sp : Nat) := by rw [hsp, I_m1 (by omega)]; rfl
  obtain ⟨σ', c1, c2, c3⟩ := x_complete hw0 (σ := setI σ 30 18 (I (sp : Nat))) (hs.i _ _ _) sIe h1 (by omega) (fun j hj => by rw [sIn (by omega)]; exact hw j hj)
  refine ⟨σ', ?_, Fr.trans ((Fr.refl σ).put _ ⟨rfl, Or.inl rfl⟩) c2, c3⟩
  rw [rds hs hnx (by omega), if_neg (by omega), if_neg (by omega), if_pos rfl, if_pos (by decide), e, c1, bd_eq]
theorem rg_pair {ch : Nat → Nat} {s p : Nat} {σ σ1 σ2 : St} {N : Nat} (hs : SS σ) (hnx : sI σ 30 19 = I (0 : Nat)) (hc : ch (64 * s + p) = 40) (b1 : s_X11_begin 30 4 (-6) σ = some (I (N : Nat), σ1)) (b2 : isO σ1 11 30 = true) (b3 : s_X11_push 30 (I (1 : Nat)) (I (N : Nat)) (-6) σ1 = some ((), σ2)) : s_X11_reads 30 (I (ch (64 * s + p) : Nat)) σ = some (1, σ2) := by
  rw [rds hs hnx (by omega), if_pos rfl, hc]
  unfold s_X11_readGoal
  rw [q_letter (by omega), if_neg (by decide), bd_eq, if_pos rfl, if_neg (by decide), if_pos (by decide), if_pos (hs.o 11 30 (by decide)), b1, bd_eq, if_pos b2, show (1 : Int32) = I ((1 : Nat) : Int) from rfl, b3, bd_eq, bd_eq, if_pos (show zok (I ((1 : Nat) : Int)) = true from zok1)]
theorem pgoal_cnt (ch : Nat → Nat) : ∀ (F p : Nat), (pgoal ch F p).1 = true → cntB ch (pgoal ch F p).2.1 = cntB ch p + (pgoal ch F p).2.2.2 := by
  intro F
  induction F with
  | zero => intro p h; cases h
  | succ F ih =>
    intro p h
    have fc : ∀ q, (pface (pgoal ch F) ch q).1 = true → cntB ch (pface (pgoal ch F) ch q).2.1 = cntB ch q + (pface (pgoal ch F) ch q).2.2.2 := by
      intro q hq
      unfold pface at hq ⊢
      by_cases ha : isAt (ch q) = true
      · have hq91 : ch q ≠ 91 := fun e => by rw [e] at ha; exact absurd ha (by decide)
        rw [if_pos ha] at hq ⊢
        by_cases hb : ch (q + 1) = 60
        · rw [if_pos hb] at hq ⊢
          rw [ih _ hq, show q + 2 = q + 1 + 1 by omega, cntB_step (by omega), cntB_step hq91]
        · rw [if_neg hb]
          exact cntB_step hq91
      · rw [if_neg ha] at hq; cases hq
    rcases pgoal_cases h with ⟨hc, e⟩ | ⟨hc, q, k, l, hg, e⟩ | ⟨hc, q1, k1, l1, q2, k2, l2, hg, ho, hg2, hc2, e⟩ | ⟨hc, q1, k1, l1, q2, k2, l2, hg, hc2, hg2, e⟩
    · rw [e]
      exact cntB_step (fun q => by rw [q] at hc; revert hc; decide)
    · have := ih (p + 1) (by rw [hg])
      rw [e]
      rw [hg] at this
      dsimp only at this ⊢
      rw [this, cntB_step (by omega)]
    · have h1 := ih (p + 1) (by rw [hg])
      have h2 := ih (q1 + 1) (by rw [hg2])
      rw [hg] at h1
      rw [hg2] at h2
      rw [e]
      dsimp only at h1 h2 ⊢
      have hq1 : ch q1 ≠ 91 := fun q => by rw [q] at ho; revert ho; decide
      rw [cntB_step (by omega), h2, cntB_step hq1, h1, cntB_step (by omega)]
      omega
    · have h2 := ih (q1 + 1) (by rw [hg2])
      rw [hg2] at h2
      have h3 : cntB ch q1 = cntB ch (p + 1) + l1 := by
        obtain ⟨a1, ak, al, f1, hrest⟩ := poff_cases (p := p + 1) (g := pgoal ch F) (ch := ch) (by rw [hg])
        have g1 := fc (p + 1) (by rw [f1])
        rw [f1] at g1
        dsimp only at g1
        rcases hrest with ⟨_, r⟩ | ⟨c1, a2, ak2, al2, f2, hrest⟩
        · rw [r] at hg; cases hg; exact g1
        have g2 := fc (a1 + 1) (by rw [f2])
        rw [f2] at g2
        dsimp only at g2
        rw [cntB_step (by omega)] at g2
        rcases hrest with ⟨_, r⟩ | ⟨c2, a3, ak3, al3, f3, r⟩
        · rw [r] at hg; cases hg; omega
        have g3 := fc (a2 + 1) (by rw [f3])
        rw [f3] at g3
        dsimp only at g3
        rw [cntB_step (by omega)] at g3
        rw [r] at hg; cases hg; omega
      rw [e]
      dsimp only at h2 ⊢
      rw [h2, cntB_step (by omega), h3, cntB_step1 hc]
      omega
theorem cC_tg {w x : Nat} : ¬ cC (tg w x).1 (tg w x).2 := by
  have := @tg_ne w x
  unfold cC
  omega
theorem sgC_tg {w x N sp : Nat} : ¬ sgC N sp (tg w x).1 (tg w x).2 := by
  have := @tg_ne w x
  unfold sgC
  omega
/-- a pair -/
theorem m_pair {ch : Nat → Nat} {s n F : Nat} (hk : MGoal ch s n F) {σ : St} {p N lam sp lay x q1 k1 l1 q2 k2 l2 : Nat} {w : Nat → Nat} (h : MPre ch s n σ p N lam sp 0 lay w) (hF : 62 ≤ F + 1 + p) (ht : lay = 1 → TF σ sp (w (sp - 1)) x N lam) (hc : ch (64 * s + p) = 40)
    (hg : pgoal ch F (64 * s + p + 1) = (true, q1, k1, l1)) (ho : isOp (ch q1) = true) (hg2 : pgoal ch F (q1 + 1) = (true, q2, k2, l2)) (hc2 : ch q2 = 41) : MOK ch s σ p N lam sp lay w x (true, q2 + 1, k1 + (k2 + 1), l1 + l2) := by
  intro hl
  dsimp only at hl ⊢
  have hpn := h.lt (by omega)
  obtain ⟨hr, hm0, hp, hsp1, hsp2, hw, hw0, hlay⟩ := id h
  have hn60 := hr.2.2.1
  have hend := hr.2.2.2.2.2.2
  have hg' : pgoal ch F (64 * s + (p + 1)) = (true, q1, k1, l1) := hg
  have hpos1 := pgoal_pos ch (64 * s) n hend hn60 F (64 * s + (p + 1)) (by omega) (by omega)
  have hk1 := pgoal_one ch F (64 * s + (p + 1)) (by rw [hg'])
  have hcn := pgoal_cnt ch F (64 * s + (p + 1)) (by rw [hg'])
  rw [hg'] at hk1 hpos1 hcn
  dsimp only at hk1 hpos1 hcn
  have hlt1 := hpos1.2.2 rfl
  have lt_of : ∀ q, q ≤ 64 * s + n → ch q ≠ 0 → 64 * s ≤ q → q < 64 * s + n := fun q hq hc hb => by
    apply Nat.lt_of_not_le
    intro h
    exact hc (hend q h (by omega))
  have hq1 := lt_of q1 hpos1.2.1 (fun q => by rw [q] at ho; exact absurd ho (by decide)) (by omega)
  have hq91 : ch q1 ≠ 91 := fun q => by rw [q] at ho; exact absurd ho (by decide)
  have hpos2 := pgoal_pos ch (64 * s) n hend hn60 F (q1 + 1) (by omega) (by omega)
  have hk2 := pgoal_one ch F (q1 + 1) (by rw [hg2])
  rw [hg2] at hk2 hpos2
  dsimp only at hk2 hpos2
  have hlt2 := hpos2.2.2 rfl
  have hq2 := lt_of q2 hpos2.2.1 (by omega) (by omega)
  obtain ⟨P1, rfl⟩ : ∃ P1, q1 = 64 * s + P1 := ⟨q1 - 64 * s, by omega⟩
  obtain ⟨P2, rfl⟩ : ∃ P2, q2 = 64 * s + P2 := ⟨q2 - 64 * s, by omega⟩
  obtain ⟨σ1, σ2, b1, b2, b3, b4, b5, b6, b7, b8⟩ := m_open h hpn (fun q => ⟨by have := hl q; omega, ht q⟩) 4 (-6) 1 (Or.inl rfl)
  have k1' := (hk σ2 (p + 1) (N + 1) lam (sp + 1) lay (upW w sp 1) N b4 (by omega) b5).1 (by rw [hg'])
  rw [hg'] at k1'
  obtain ⟨σ3, g1, g2, g3, g4⟩ := k1' (fun q => by have := hl q; dsimp only; omega)
  dsimp only at g1 g2 g3 g4
  rw [upW_top] at g2 g4
  rw [cmp_upW, if_neg (by omega), if_neg (by omega), if_pos rfl] at g3
  obtain ⟨hr2, hm2, -, -, -, hw2, -, -⟩ := b4
  have g2s : ∀ a k, a = 41 → k = sp → sI σ3 a k = sI σ2 a k := fun a k ha hk => g2.i a k (mC_not (by omega) (by show ¬ (a = 35 ∧ _); omega) (by omega) (by omega) (by omega) (by omega))
  have hr3 : RM ch s n σ3 := hr2.fr g2 (fun k => ⟨mC_not (by omega) (by show ¬ (31 = 35 ∧ _); omega) (by omega) (by omega) (by omega) (by omega), mC_not (by omega) (by show ¬ (32 = 35 ∧ _); omega) (by omega) (by omega) (by omega) (by omega)⟩)
  have hw3 : WH w sp σ3 := fun j hj => by
    have := hw2 j (by omega)
    rw [g2.i 40 j (mC_not (by omega) (by show ¬ (40 = 35 ∧ _); omega) (by omega) (by omega) (by omega) (by omega))]
    unfold upW at this
    rw [if_neg (by omega)] at this
    exact this
  obtain ⟨m1, m2, m3, m4, m5⟩ := g3
  -- the sign
  obtain ⟨σ4, s1, s2, s3, s4, s5⟩ := rg_sign (N := N) hr3.1 m4 m3 (by omega) m5 hlay (by rw [g2s 41 sp rfl rfl]; exact b8) (fun q => by have := hl q; omega) ho
  have hr4 : RM ch s n σ4 := hr3.fr s2 (fun k => ⟨by unfold sgC; omega, by unfold sgC; omega⟩)
  have h41 : sI σ4 41 sp = I (N : Nat) := by rw [s2.i 41 sp (by unfold sgC; omega), g2s 41 sp rfl rfl]; exact b8
  have pre4 : MPre ch s n σ4 (P1 + 1) (N + 1 + k1) (lam + l1) (sp + 1) 0 lay (upW w sp 2) := by
    refine ⟨hr4, ⟨?_, ?_, ?_, s3, ?_⟩, by omega, by omega, by omega, fun j hj => ?_, ?_, hlay⟩
    · rw [s2.i 30 5 (by unfold sgC; omega)]; exact m1
    · rw [s2.i 30 6 (by unfold sgC; omega)]; exact m2
    · rw [s2.i 30 18 (by unfold sgC; omega)]; exact m3
    · rw [s2.i 30 20 (by unfold sgC; omega)]; exact m5
    · unfold upW
      by_cases cj : j = sp
      · rw [if_pos cj, cj]; exact ⟨s4, by omega⟩
      · rw [if_neg cj, s2.i 40 j (by unfold sgC; omega)]; exact hw3 j (by omega)
    · unfold upW; rw [if_neg (by omega)]; exact hw0
  have ht4 : lay = 1 → TF σ4 (sp + 1) (upW w sp 2 (sp + 1 - 1)) N (N + 1 + k1) (lam + l1) := fun _ => by
    rw [upW_top]
    exact Or.inr (Or.inl ⟨by omega, h41, by omega⟩)
  have hg2' : pgoal ch F (64 * s + (P1 + 1)) = (true, 64 * s + P2, k2, l2) := hg2
  have k2' := (hk σ4 (P1 + 1) (N + 1 + k1) (lam + l1) (sp + 1) lay (upW w sp 2) N pre4 (by omega) ht4).1 (by rw [hg2'])
  rw [hg2'] at k2'
  obtain ⟨σ5, j1, j2, j3, j4⟩ := k2' (fun q => by have := hl q; dsimp only; omega)
  dsimp only at j1 j2 j3 j4
  rw [upW_top] at j2 j4
  rw [cmp_upW, if_neg (by omega), if_neg (by omega), if_neg (by omega), if_pos rfl] at j3
  obtain ⟨n1, n2, n3, n4, n5⟩ := j3
  have hr5 : RM ch s n σ5 := hr4.fr j2 (fun k => ⟨mC_not (by omega) (by show ¬ (31 = 36 ∧ _); omega) (by omega) (by omega) (by omega) (by omega), mC_not (by omega) (by show ¬ (32 = 36 ∧ _); omega) (by omega) (by omega) (by omega) (by omega)⟩)
  have hw5 : WH w sp σ5 := fun j hj => by
    rw [j2.i 40 j (mC_not (by omega) (by show ¬ (40 = 36 ∧ _); omega) (by omega) (by omega) (by omega) (by omega)), s2.i 40 j (by unfold sgC; omega)]
    exact hw3 j hj
  obtain ⟨σ6, e1, e2, e3, e4⟩ := rg_close hw0 hr5.1 hsp1 (by omega) n4 n3 hw5
  have eN : N + (k1 + (k2 + 1)) = N + 1 + k1 + k2 := by omega
  have eL : lam + (l1 + l2) = lam + l1 + l2 := by omega
  rw [eN, eL, show 64 * s + P2 + 1 - 64 * s = P2 + 1 by omega]
  rw [show 64 * s + P1 - 64 * s = P1 by omega] at g1
  rw [show 64 * s + P2 - 64 * s = P2 by omega] at j1
  have go : Go s σ p σ6 (P2 + 1) := ((((go1 hr hpn (rg_pair hr.1 hm0.2.2.2.1 hc b1 b2 b3)).trans g1).trans (go1 hr3 (by omega) s1)).trans j1).trans (go1 hr5 (by omega) (by rw [hc2]; exact e1))
  have fr : Fr (mC N sp (N + 1 + k1 + k2) lam (lam + l1 + l2) (tg (w (sp - 1)) x)) σ σ6 := by
    refine ((((b6.mono (mC_sub (by omega) mC_t)).trans (g2.mono (mC_sub (by omega) (mC_n (Or.inr (Or.inl rfl)) (by show N ≤ N ∧ N < _; omega))))).trans (s2.mono ?_)).trans (j2.mono (mC_sub (by omega) (mC_n (Or.inr (Or.inr rfl)) (by show N ≤ N ∧ N < _; omega))))).trans (e2.mono ?_)
    · rintro a k (⟨rfl, rfl⟩ | ⟨rfl, rfl⟩ | ⟨rfl, rfl⟩)
      · exact Or.inl ⟨rfl, by omega⟩
      · exact Or.inr (Or.inr (Or.inr (Or.inr (Or.inr ⟨by omega, by omega, by omega⟩))))
      · exact mC_n (Or.inl rfl) (by omega)
    · rintro a k ⟨rfl, hk⟩
      exact Or.inl ⟨rfl, by omega⟩
  refine ⟨σ6, go, fr, ⟨?_, ?_, e3, e4, ?_⟩, fun y1 y2 y3 => ?_⟩
  · rw [e2.i 30 5 (by unfold cC; omega)]; exact n1
  · rw [e2.i 30 6 (by unfold cC; omega)]; exact n2
  · rw [e2.i 30 20 (by unfold cC; omega)]; exact n5
  obtain ⟨d1, d2, d3⟩ := b7 y1
  have hl1 := hl y1
  have ht1 := ht y1
  have c1' : lam = cntB ch (64 * s + (p + 1)) := y2.trans (cntB_step (by omega)).symm
  obtain ⟨u1, u2⟩ := g4 y1 c1' y3
  have c2' : lam + l1 = cntB ch (64 * s + (P1 + 1)) := by
    rw [show 64 * s + (P1 + 1) = 64 * s + P1 + 1 by omega, cntB_step hq91, hcn]
    omega
  obtain ⟨v1, v2⟩ := j4 y1 c2' y3
  have c6 : ∀ a k, a ≠ 30 → sI σ6 a k = sI σ5 a k := fun a k ha => e2.i a k (by unfold cC; omega)
  have c4 : ∀ a k, (a = 35 ∨ a = 36 ∨ a = 37 ∨ a = 38 ∨ a = 39) → sI σ4 a k = sI σ3 a k := fun a k ha => s2.i a k (by unfold sgC; omega)
  refine ⟨?_, fun κ => ?_⟩
  · rw [e2.i _ _ cC_tg, j2.i _ _ (tg_out ht1 (by omega) (by omega) (by omega) (tg_no36 ht1)), s2.i _ _ sgC_tg, g2.i _ _ (tg_out ht1 (by omega) (by omega) (by omega) (tg_no35 ht1))]
    exact d3
  · obtain ⟨κ1, i1, i2⟩ := u2 (fun c => if c = N then 64 * s + p else κ c)
    obtain ⟨κ2, x1, x2⟩ := v2 κ1
    have i2l := i2.1
    dsimp only at i2l
    have hN1 : κ1 N = 64 * s + p := by rw [i2l N (by omega), if_pos rfl]
    have hN : κ2 N = 64 * s + p := by rw [x2.1 N (by omega)]; exact hN1
    have lt := i2.trans x2 (by omega) (by omega) (by omega) (fun a c hc1 hc2 ha => by
      rw [j2.i a c (mC_not (by omega) (by show ¬ (a = 36 ∧ c = N); omega) (by omega) (by omega) (by omega) (by omega)), s2.i a c (by unfold sgC; omega)]) (fun o ho1 ho2 => by
      rw [j2.i 37 o (mC_not (by omega) (by show ¬ (37 = 36 ∧ _); omega) (by omega) (by omega) (by omega) (by omega)), c4 37 o (by omega)]) (fun a k hk1 hk2 ha => by
      rw [j2.i a k (mC_not (by omega) (by show ¬ (a = 36 ∧ _); omega) (by omega) (by omega) (by omega) (by omega)), c4 a k (by omega)])
    refine ⟨κ2, hN, fun c hc => ?_, fun c hc1 hc2 => ?_, fun o f ho1 ho2 hf => ?_⟩
    · rw [x2.1 c (by omega), i2l c (by omega), if_neg (by omega)]
    · by_cases cc : c = N
      · subst cc
        have q34 : sI σ6 34 c = I (opk (ch (64 * s + P1)) : Nat) := by
          rw [c6 34 c (by omega), j2.i 34 c (mC_not (by omega) (by show ¬ (34 = 36 ∧ _); omega) (by omega) (by omega) (by omega) (by omega))]
          exact s5 y1
        have q35 : sI σ6 35 c = I ((c + 1 : Nat) : Int) := by
          rw [c6 35 c (by omega), j2.i 35 c (mC_not (by omega) (by show ¬ (35 = 36 ∧ _); omega) (by omega) (by omega) (by omega) (by omega)), c4 35 c (by omega)]
          exact u1
        have q36 : sI σ6 36 c = I ((c + 1 + k1 : Nat) : Int) := by
          rw [c6 36 c (by omega)]
          exact v1
        have heG : eG ch (64 * s + (p + 1)) = 64 * s + P1 := by
          unfold eG
          rw [eG_eq (F := F) hend hn60 (by omega) (by omega), hg']
        have hkd : kd ch (64 * s + p) = ch (64 * s + P1) := by
          unfold kd
          rw [if_pos hc, show 64 * s + p + 1 = 64 * s + (p + 1) by omega, heG]
        unfold nodeM
        rw [hN, q34, q35, q36, hkd]
        refine ⟨?_, fun q => by rw [hc] at q; exact absurd q (by decide), fun _ => ⟨c + 1, by omega, rfl, ?_⟩, fun _ => ⟨c + 1 + k1, by omega, rfl, ?_⟩, fun q => by omega, by omega, fun _ => ho⟩
        · rcases isOp_cases ho with e | e | e <;> rw [e] <;> rfl
        · rw [x2.1 (c + 1) (by omega), i1]
          unfold ch1
          rw [if_neg (by omega)]
          rfl
        · rw [x1]
          unfold ch2
          rw [show 64 * s + p + 1 = 64 * s + (p + 1) by omega, heG]
          rfl
      · exact nodeM_mono (lt.2.1 c (by omega) hc2) (Nat.le_refl _) hc2 (fun _ _ => rfl) (fun a ha => c6 a c (by omega))
    · exact faceM_mono (lt.2.2 o f ho1 (by omega) hf) (Nat.le_refl _) (fun _ _ => rfl) (c6 37 o (by omega)) (fun a ha => c6 a _ (by omega))
