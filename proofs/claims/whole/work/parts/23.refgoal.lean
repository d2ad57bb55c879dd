/-! what the reference's rows then hold -/
def mk (c : Nat) : Nat := if c = 49 then 1 else if c = 84 then 2 else if c = 33 then 3 else if c = 42 then 4 else if c = 38 then 5 else if c = 43 then 6 else if c = 91 then 7 else 0
def nodeM (ch : Nat → Nat) (κ : Nat → Nat) (M : Nat) (σ : St) (c : Nat) : Prop :=
  sI σ 34 c = I (mk (kd ch (κ c)) : Nat) ∧
  (isAt (ch (κ c)) = true → sI σ 35 c = I (ch (κ c) : Nat)) ∧
  ((ch (κ c) = 33 ∨ ch (κ c) = 40 ∨ ch (κ c) = 91) → ∃ c1 : Nat, c1 < M ∧ sI σ 35 c = I (c1 : Nat) ∧ κ c1 = ch1 ch (κ c)) ∧
  (ch (κ c) = 40 → ∃ c2 : Nat, c2 < M ∧ sI σ 36 c = I (c2 : Nat) ∧ κ c2 = ch2 ch (κ c)) ∧
  (ch (κ c) = 91 → sI σ 36 c = I (ln ch (κ c) : Nat) ∧ ln ch (κ c) < 8) ∧
  (isAt (ch (κ c)) = true ∨ ch (κ c) = 49 ∨ ch (κ c) = 84 ∨ ch (κ c) = 33 ∨ ch (κ c) = 40 ∨ ch (κ c) = 91) ∧
  (ch (κ c) = 40 → isOp (kd ch (κ c)) = true)
def faceM (ch : Nat → Nat) (κ : Nat → Nat) (M : Nat) (σ : St) (o f : Nat) (q : Option Nat) : Prop := match q with
  | none => ∃ n : Nat, sI σ 37 o = I (n : Nat) ∧ n ≤ f
  | some q => (∃ n : Nat, sI σ 37 o = I (n : Nat) ∧ f < n ∧ n ≤ 3) ∧ sI σ 38 (3 * o + f) = I (ch q : Nat) ∧ isAt (ch q) = true ∧ (if ch (q + 1) = 60 then ∃ c : Nat, c < M ∧ sI σ 39 (3 * o + f) = I (c : Nat) ∧ κ c = q + 2 else sI σ 39 (3 * o + f) = I (-6))
def LayM (ch : Nat → Nat) (κ κ' : Nat → Nat) (σ' : St) (N N' lam lam' : Nat) : Prop :=
  (∀ c, c < N → κ' c = κ c) ∧ (∀ c, N ≤ c → c < N' → nodeM ch κ' N' σ' c) ∧ (∀ o f, 5 + lam ≤ o → o < 5 + lam' → f < 3 → faceM ch κ' N' σ' o f (loanF ch o f))
theorem nodeM_mono {ch : Nat → Nat} {κ κ' : Nat → Nat} {M M' : Nat} {σ σ' : St} {c : Nat} (h : nodeM ch κ M σ c) (hM : M ≤ M') (hc : c < M) (hk : ∀ i, i < M → κ' i = κ i) (hi : ∀ a, a = 34 ∨ a = 35 ∨ a = 36 → sI σ' a c = sI σ a c) : nodeM ch κ' M' σ' c := by
  obtain ⟨h1, h2, h3, h4, h5, h6, h7⟩ := h
  unfold nodeM
  rw [hi 34 (by omega), hi 35 (by omega), hi 36 (by omega), hk c hc]
  refine ⟨h1, h2, fun q => ?_, fun q => ?_, h5, h6, h7⟩
  · obtain ⟨c1, a1, a2, a3⟩ := h3 q
    exact ⟨c1, by omega, a2, by rw [hk c1 a1]; exact a3⟩
  · obtain ⟨c1, a1, a2, a3⟩ := h4 q
    exact ⟨c1, by omega, a2, by rw [hk c1 a1]; exact a3⟩
theorem faceM_mono {ch : Nat → Nat} {κ κ' : Nat → Nat} {M M' : Nat} {σ σ' : St} {o f : Nat} {q : Option Nat} (h : faceM ch κ M σ o f q) (hM : M ≤ M') (hk : ∀ i, i < M → κ' i = κ i) (h37 : sI σ' 37 o = sI σ 37 o) (hi : ∀ a, a = 38 ∨ a = 39 → sI σ' a (3 * o + f) = sI σ a (3 * o + f)) : faceM ch κ' M' σ' o f q := by
  unfold faceM at h ⊢
  cases q with
  | none => dsimp only at h ⊢; rw [h37]; exact h
  | some q =>
    dsimp only at h ⊢
    rw [h37, hi 38 (by omega), hi 39 (by omega)]
    refine ⟨h.1, h.2.1, h.2.2.1, ?_⟩
    have h4 := h.2.2.2
    split
    · rename_i hc
      rw [if_pos hc] at h4
      obtain ⟨c, a1, a2, a3⟩ := h4
      exact ⟨c, by omega, a2, by rw [hk c a1]; exact a3⟩
    · rename_i hc
      rw [if_neg hc] at h4
      exact h4
/-- two pieces, one behind the other -/
theorem LayM.trans {ch : Nat → Nat} {κ κ1 κ2 : Nat → Nat} {σ1 σ2 : St} {N N1 N2 lam lam1 lam2 : Nat} (h1 : LayM ch κ κ1 σ1 N N1 lam lam1) (h2 : LayM ch κ1 κ2 σ2 N1 N2 lam1 lam2) (hN : N ≤ N1) (hN2 : N1 ≤ N2) (hl : lam ≤ lam1)
    (hi : ∀ a c, N ≤ c → c < N1 → a = 34 ∨ a = 35 ∨ a = 36 → sI σ2 a c = sI σ1 a c) (h37 : ∀ o, 5 + lam ≤ o → o < 5 + lam1 → sI σ2 37 o = sI σ1 37 o) (h38 : ∀ a k, 15 + 3 * lam ≤ k → k < 15 + 3 * lam1 → a = 38 ∨ a = 39 → sI σ2 a k = sI σ1 a k) : LayM ch κ κ2 σ2 N N2 lam lam2 := by
  obtain ⟨a1, a2, a3⟩ := h1
  obtain ⟨b1, b2, b3⟩ := h2
  refine ⟨fun c hc => by rw [b1 c (by omega), a1 c hc], fun c h1 h2 => ?_, fun o f h1 h2 h3 => ?_⟩
  · by_cases c1 : c < N1
    · exact nodeM_mono (a2 c h1 c1) hN2 c1 b1 (fun a ha => hi a c h1 c1 ha)
    · exact b2 c (by omega) h2
  · by_cases c1 : o < 5 + lam1
    · exact faceM_mono (a3 o f h1 c1 h3) hN2 b1 (h37 o h1 c1) (fun a ha => h38 a _ (by omega) (by omega) ha)
    · exact b3 o f (by omega) h2 h3
theorem tg_ne {w x : Nat} : (tg w x).1 = 30 ∧ (tg w x).2 = 10 ∨ (tg w x).1 = 36 ∧ (tg w x).2 = x ∧ w = 2 ∨ (tg w x).1 = 39 ∧ (tg w x).2 = x ∧ w = 4 ∨ (tg w x).1 = 35 ∧ (tg w x).2 = x ∧ w ≠ 0 ∧ w ≠ 2 ∧ w ≠ 4 := by
  unfold tg
  by_cases c0 : w = 0
  · rw [if_pos c0]; exact Or.inl ⟨rfl, rfl⟩
  rw [if_neg c0]
  by_cases c2 : w = 2
  · rw [if_pos c2]; exact Or.inr (Or.inl ⟨rfl, rfl, c2⟩)
  rw [if_neg c2]
  by_cases c4 : w = 4
  · rw [if_pos c4]; exact Or.inr (Or.inr (Or.inl ⟨rfl, rfl, c4⟩))
  rw [if_neg c4]
  exact Or.inr (Or.inr (Or.inr ⟨rfl, rfl, c0, c2, c4⟩))
theorem mC_sub {N sp N' lam lam' N1 sp1 N1' lam1 lam1' : Nat} {t t' : Nat × Nat} (h : N ≤ N1 ∧ N1' ≤ N' ∧ lam ≤ lam1 ∧ lam1' ≤ lam' ∧ sp ≤ sp1) (ht : mC N sp N' lam lam' t t'.1 t'.2) : ∀ a k, mC N1 sp1 N1' lam1 lam1' t' a k → mC N sp N' lam lam' t a k := by
  rintro a k (q | ⟨rfl, rfl⟩ | q | q | q | q)
  · exact Or.inl q
  · exact ht
  · exact Or.inr (Or.inr (Or.inl (by omega)))
  · exact Or.inr (Or.inr (Or.inr (Or.inl (by omega))))
  · exact Or.inr (Or.inr (Or.inr (Or.inr (Or.inl (by omega)))))
  · exact Or.inr (Or.inr (Or.inr (Or.inr (Or.inr (by omega)))))
theorem mC_t {N sp N' lam lam' : Nat} {t : Nat × Nat} : mC N sp N' lam lam' t t.1 t.2 := Or.inr (Or.inl ⟨rfl, rfl⟩)
theorem mC_n {N sp N' lam lam' : Nat} {t : Nat × Nat} {a k : Nat} (ha : a = 34 ∨ a = 35 ∨ a = 36) (hk : N ≤ k ∧ k < N') : mC N sp N' lam lam' t a k := Or.inr (Or.inr (Or.inl ⟨ha, hk⟩))
/-- a cell that a goal does not touch -/
theorem mC_not {N sp N' lam lam' : Nat} {t : Nat × Nat} {a k : Nat} (h1 : a = 30 → k ≠ 5 ∧ k ≠ 6 ∧ k ≠ 18 ∧ k ≠ 19) (h2 : ¬ (a = t.1 ∧ k = t.2)) (h3 : a = 34 ∨ a = 35 ∨ a = 36 → k < N ∨ N' ≤ k) (h4 : a = 37 → k < 5 + lam ∨ 5 + lam' ≤ k) (h5 : a = 38 ∨ a = 39 → k < 15 + 3 * lam ∨ 15 + 3 * lam' ≤ k) (h6 : 40 ≤ a → a ≤ 43 → k < sp) : ¬ mC N sp N' lam lam' t a k := by
  rintro (q | q | q | q | q | q)
  · omega
  · exact h2 q
  · omega
  · omega
  · omega
  · omega
/-- where a goal is put: not among what comes behind it -/
theorem tg_out {σ : St} {sp w x N lam N1 sp1 N1' lam1 lam' : Nat} {t' : Nat × Nat} (h : TF σ sp w x N lam) (hN : N ≤ N1) (hl : lam ≤ lam1) (hl' : lam' ≤ 3) (ht : ¬ ((tg w x).1 = t'.1 ∧ (tg w x).2 = t'.2)) : ¬ mC N1 sp1 N1' lam1 lam' t' (tg w x).1 (tg w x).2 := by
  have e := @tg_ne w x
  rcases h with h | ⟨h, _, h3⟩ | ⟨h, h2, o, f, h3, h4, h5, h6, h7, h8, h9⟩
  · exact mC_not (by omega) ht (by omega) (by omega) (by omega) (by omega)
  · exact mC_not (by omega) ht (by omega) (by omega) (by omega) (by omega)
  · exact mC_not (by omega) ht (by omega) (by omega) (by omega) (by omega)
theorem tg_no35 {σ : St} {sp w x N lam : Nat} (h : TF σ sp w x N lam) : ¬ ((tg w x).1 = 35 ∧ (tg w x).2 = N) := by
  have e := @tg_ne w x
  rcases h with h | ⟨h, _, h3⟩ | ⟨h, _⟩ <;> omega
theorem tg_no36 {σ : St} {sp w x N lam : Nat} (h : TF σ sp w x N lam) : ¬ ((tg w x).1 = 36 ∧ (tg w x).2 = N) := by
  have e := @tg_ne w x
  rcases h with h | ⟨h, _, h3⟩ | ⟨h, _⟩ <;> omega
/-- what stands ahead of a goal -/
def MPre (ch : Nat → Nat) (s n : Nat) (σ : St) (p N lam sp nx lay : Nat) (w : Nat → Nat) : Prop :=
  RM ch s n σ ∧ MA σ N lam sp nx lay ∧ p ≤ n ∧ 1 ≤ sp ∧ sp ≤ p + 1 ∧ WH w sp σ ∧ w 0 ≠ 3 ∧ lay ≤ 1
def begC (N : Nat) (t : Nat × Nat) : Nat → Nat → Prop := fun a k => (a = 30 ∧ k = 5) ∨ (a = t.1 ∧ k = t.2) ∨ ((a = 34 ∨ a = 35 ∨ a = 36) ∧ k = N)
theorem q_begin {ch : Nat → Nat} {s n : Nat} {σ : St} {p N lam sp nx lay x : Nat} {w : Nat → Nat} (h : MPre ch s n σ p N lam sp nx lay w) (hl : lay = 1 → N < 60 ∧ TF σ sp (w (sp - 1)) x N lam) (kind one : Int32) :
    ∃ σ1, s_X11_begin 30 kind one σ = some (I (N : Nat), σ1) ∧ Fr (begC N (tg (w (sp - 1)) x)) σ σ1 ∧ sI σ1 30 5 = I ((N + 1 : Nat) : Int) ∧ (lay = 1 → sI σ1 34 N = kind ∧ sI σ1 35 N = one ∧ sI σ1 36 N = I (-6) ∧ sI σ1 (tg (w (sp - 1)) x).1 (tg (w (sp - 1)) x).2 = I (N : Nat)) := by
  obtain ⟨hr, ⟨m1, m2, m3, m4, m5⟩, hp, h1, h2, hw, hw0, hlay⟩ := h
  have hn := hr.2.2.1
  by_cases c : lay = 1
  · obtain ⟨l1, l2⟩ := hl c
    subst c
    have ht := @tg_ne (w (sp - 1)) x
    have hne : ∀ a, a = 34 ∨ a = 35 ∨ a = 36 → ¬ (a = (tg (w (sp - 1)) x).1 ∧ N = (tg (w (sp - 1)) x).2) := by
      intro a ha
      rcases l2 with l2 | l2 | l2
      · omega
      · omega
      · omega
    have ht1 : (tg (w (sp - 1)) x).1 = 30 → (tg (w (sp - 1)) x).2 = 10 := by omega
    refine ⟨_, q_begin1 hr.1 m1 l1 m5 m3 h1 (by omega) (hw (sp - 1) (by omega)).1 l2 kind one, ?_, ?_, fun _ => ⟨?_, ?_, ?_, sIe⟩⟩
    · unfold begS
      exact (((((Fr.refl σ).put _ (Or.inl ⟨rfl, rfl⟩)).put _ (Or.inr (Or.inr ⟨by omega, rfl⟩))).put _ (Or.inr (Or.inr ⟨by omega, rfl⟩))).put _ (Or.inr (Or.inr ⟨by omega, rfl⟩))).put _ (Or.inr (Or.inl ⟨rfl, rfl⟩))
    · unfold begS
      rw [sIn (by omega), sIn (by omega), sIn (by omega), sIn (by omega), sIe]
    · unfold begS
      rw [sI_I, if_neg (hne 34 (by omega)), sIn (by omega), sIn (by omega), sIe]
    · unfold begS
      rw [sI_I, if_neg (hne 35 (by omega)), sIn (by omega), sIe]
    · unfold begS
      rw [sI_I, if_neg (hne 36 (by omega)), sIe]
  · obtain rfl : lay = 0 := by omega
    exact ⟨_, q_begin0 hr.1 m1 m5 kind one, (Fr.refl σ).put _ (Or.inl ⟨rfl, rfl⟩), sIe, fun h => by omega⟩
def MOK (ch : Nat → Nat) (s : Nat) (σ : St) (p N lam sp lay : Nat) (w : Nat → Nat) (x : Nat) (R : PR) : Prop :=
  (lay = 1 → N + R.2.2.1 ≤ 60 ∧ lam + R.2.2.2 ≤ 3) → ∃ σ', Go s σ p σ' (R.2.1 - 64 * s) ∧ Fr (mC N sp (N + R.2.2.1) lam (lam + R.2.2.2) (tg (w (sp - 1)) x)) σ σ' ∧ MA σ' (N + R.2.2.1) (lam + R.2.2.2) (cmp w sp).1 (cmp w sp).2 lay ∧
    (lay = 1 → lam = cntB ch (64 * s + p) → s < 10 → sI σ' (tg (w (sp - 1)) x).1 (tg (w (sp - 1)) x).2 = I (N : Nat) ∧ ∀ κ, ∃ κ', κ' N = 64 * s + p ∧ LayM ch κ κ' σ' N (N + R.2.2.1) lam (lam + R.2.2.2))
def MGoal (ch : Nat → Nat) (s n F : Nat) : Prop := ∀ (σ : St) (p N lam sp lay : Nat) (w : Nat → Nat) (x : Nat), MPre ch s n σ p N lam sp 0 lay w → 62 ≤ F + p → (lay = 1 → TF σ sp (w (sp - 1)) x N lam) →
  ((pgoal ch F (64 * s + p)).1 = true → MOK ch s σ p N lam sp lay w x (pgoal ch F (64 * s + p))) ∧ (¬ (pgoal ch F (64 * s + p)).1 = true → lay = 0 → 64 * s ≤ (pgoal ch F (64 * s + p)).2.1 ∧ Stop s n σ p ((pgoal ch F (64 * s + p)).2.1 - 64 * s))
theorem MPre.lt {ch : Nat → Nat} {s n : Nat} {σ : St} {p N lam sp nx lay : Nat} {w : Nat → Nat} (h : MPre ch s n σ p N lam sp nx lay w) (hc : ch (64 * s + p) ≠ 0) : p < n := by
  obtain ⟨hr, _, hp, _⟩ := h
  have hn := hr.2.2.1
  apply Nat.lt_of_not_le
  intro hh
  exact hc (hr.2.2.2.2.2.2 (64 * s + p) (by omega) (by omega))
/-- an atom, 1, T -/
theorem m_leaf {ch : Nat → Nat} {s n : Nat} {σ : St} {p N lam sp lay x : Nat} {w : Nat → Nat} (h : MPre ch s n σ p N lam sp 0 lay w) (ht : lay = 1 → TF σ sp (w (sp - 1)) x N lam) (hc : isAt (ch (64 * s + p)) = true ∨ ch (64 * s + p) = 49 ∨ ch (64 * s + p) = 84) : MOK ch s σ p N lam sp lay w x (true, 64 * s + p + 1, 1, 0) := by
  intro hl
  dsimp only at hl ⊢
  have hpn := h.lt (by rintro q; rw [q] at hc; revert hc; decide)
  obtain ⟨hr, ⟨m1, m2, m3, m4, m5⟩, hp, h1, h2, hw, hw0, hlay⟩ := id h
  have hn := hr.2.2.1
  have h126 := hr.2.2.2.2.2.1 (64 * s + p)
  have hs := hr.1
  have key : ∀ kind one : Int32, s_X11_readGoal 30 (I (ch (64 * s + p) : Nat)) σ = (bd (s_X11_begin 30 kind one σ) fun _ s2 => bd (s_X11_complete 30 s2) fun _ s3 => some (1, s3)) →
      (isAt (ch (64 * s + p)) = true → kind = 0 ∧ one = I (ch (64 * s + p) : Nat)) → (ch (64 * s + p) = 49 → kind = 1) → (ch (64 * s + p) = 84 → kind = 2) →
      ∃ σ', Go s σ p σ' (64 * s + p + 1 - 64 * s) ∧ Fr (mC N sp (N + 1) lam (lam + 0) (tg (w (sp - 1)) x)) σ σ' ∧ MA σ' (N + 1) (lam + 0) (cmp w sp).1 (cmp w sp).2 lay ∧
    (lay = 1 → lam = cntB ch (64 * s + p) → s < 10 → sI σ' (tg (w (sp - 1)) x).1 (tg (w (sp - 1)) x).2 = I (N : Nat) ∧ ∀ κ, ∃ κ', κ' N = 64 * s + p ∧ LayM ch κ κ' σ' N (N + 1) lam (lam + 0)) := by
    intro kind one hg k1 k2 k3
    obtain ⟨σ1, b1, b2, b3, b4⟩ := q_begin h (fun q => ⟨by have := hl q; omega, ht q⟩) kind one
    have htn := @tg_ne (w (sp - 1)) x
    have hs1 := b2.ss hs
    have hw1 : WH w sp σ1 := fun j hj => by
      rw [b2.i 40 j (by unfold begC; omega)]
      exact hw j hj
    obtain ⟨σ2, c1, c2, c3, c4⟩ := x_complete hw0 hs1 (by rw [b2.i 30 18 (by unfold begC; omega)]; exact m3) h1 (by omega) hw1
    have cells : ∀ a k, a ≠ 30 → sI σ2 a k = sI σ1 a k := fun a k ha => c2.i a k (by unfold cC; omega)
    have c305 : sI σ2 30 5 = sI σ1 30 5 := c2.i 30 5 (by unfold cC; omega)
    have c306 : sI σ2 30 6 = sI σ1 30 6 := c2.i 30 6 (by unfold cC; omega)
    have c3020 : sI σ2 30 20 = sI σ1 30 20 := c2.i 30 20 (by unfold cC; omega)
    refine ⟨σ2, ?_, ?_, ⟨by rw [c305]; exact b3, by rw [c306, b2.i 30 6 (by unfold begC; omega)]; exact m2, c3, c4, by rw [c3020, b2.i 30 20 (by unfold begC; omega)]; exact m5⟩, fun q1 q2 q3 => ?_⟩
    · rw [show 64 * s + p + 1 - 64 * s = p + 1 by omega]
      refine go1 hr hpn ?_
      rw [rds hs m4 (by omega), if_pos rfl, hg, b1, bd_eq, c1, bd_eq, bd_eq, if_pos zok1]
    · refine (b2.mono ?_).trans (c2.mono ?_)
      · intro a k
        unfold begC mC
        omega
      · intro a k
        unfold cC mC
        omega
    · obtain ⟨d1, d2, d3, d4⟩ := b4 q1
      have d4' : sI σ2 (tg (w (sp - 1)) x).1 (tg (w (sp - 1)) x).2 = I (N : Nat) := by
        rw [c2.i _ _ (by unfold cC; omega)]
        exact d4
      refine ⟨d4', fun κ => ⟨fun c => if c = N then 64 * s + p else κ c, if_pos rfl, fun c hc => if_neg (by omega), fun c hc1 hc2 => ?_, fun o f ho1 ho2 => by omega⟩⟩
      obtain rfl : c = N := by omega
      unfold nodeM
      dsimp only
      rw [if_pos rfl, cells 34 c (by omega), cells 35 c (by omega), d1, d2]
      have hkd : kd ch (64 * s + p) = ch (64 * s + p) := by
        unfold kd
        rw [if_neg]
        rintro q
        rw [q] at hc
        revert hc
        decide
      have nots : ∀ v : Nat, v = 33 ∨ v = 40 ∨ v = 91 → ¬ ch (64 * s + p) = v := fun v hv q => by
        rw [q] at hc
        rcases hv with rfl | rfl | rfl <;> revert hc <;> decide
      refine ⟨?_, fun q => (k1 q).2, fun q => ?_, fun q => absurd q (nots 40 (by omega)), fun q => absurd q (nots 91 (by omega)), by rcases hc with hc | hc | hc; exact Or.inl hc; exact Or.inr (Or.inl hc); exact Or.inr (Or.inr (Or.inl hc)), fun q => absurd q (nots 40 (by omega))⟩
      · rw [hkd]
        rcases hc with hc | hc | hc
        · rw [(k1 hc).1]
          have : 97 ≤ ch (64 * s + p) ∧ ch (64 * s + p) ≤ 104 := of_decide_eq_true hc
          unfold mk
          rw [if_neg (by omega), if_neg (by omega), if_neg (by omega), if_neg (by omega), if_neg (by omega), if_neg (by omega), if_neg (by omega)]
          rfl
        · rw [k2 hc, hc]; rfl
        · rw [k3 hc, hc]; rfl
      · rcases q with q | q | q
        · exact absurd q (nots 33 (by omega))
        · exact absurd q (nots 40 (by omega))
        · exact absurd q (nots 91 (by omega))
  have o11 : ∀ {C : Nat → Nat → Prop} {s2 : St}, Fr C σ s2 → isO s2 11 30 = true := fun hf => (hf.ss hs).o 11 30 (by decide)
  by_cases ca : isAt (ch (64 * s + p)) = true
  · refine key 0 (I (ch (64 * s + p) : Nat)) ?_ (fun _ => ⟨rfl, rfl⟩) (fun q => by rw [q] at ca; revert ca; decide) (fun q => by rw [q] at ca; revert ca; decide)
    unfold s_X11_readGoal
    obtain ⟨σ1, b1, b2, -⟩ := q_begin h (fun q => ⟨by have := hl q; omega, ht q⟩) 0 (I (ch (64 * s + p) : Nat))
    rw [q_letter (by omega), if_pos ca, bd_eq, if_neg (by decide), if_pos (hs.o 11 30 (by decide)), b1, bd_eq, bd_eq, if_pos (o11 b2)]
  · have c4 : ch (64 * s + p) = 49 ∨ ch (64 * s + p) = 84 := by rcases hc with hc | hc | hc; exact absurd hc ca; exact Or.inl hc; exact Or.inr hc
    rcases c4 with c4 | c4
    · refine key 1 (I (-6)) ?_ (fun q => absurd q ca) (fun _ => rfl) (fun q => by omega)
      unfold s_X11_readGoal
      obtain ⟨σ1, b1, b2, -⟩ := q_begin h (fun q => ⟨by have := hl q; omega, ht q⟩) 1 (I (-6))
      rw [q_letter (by omega), if_neg ca, bd_eq, if_pos rfl, c4, if_neg (by decide), if_neg (by decide), if_pos (by decide), if_pos (hs.o 11 30 (by decide)), show (-6 : Int32) = I (-6) from rfl, b1, bd_eq, bd_eq, if_pos (o11 b2)]
    · refine key 2 (I (-6)) ?_ (fun q => absurd q ca) (fun q => by omega) (fun _ => rfl)
      unfold s_X11_readGoal
      obtain ⟨σ1, b1, b2, -⟩ := q_begin h (fun q => ⟨by have := hl q; omega, ht q⟩) 2 (I (-6))
      rw [q_letter (by omega), if_neg ca, bd_eq, if_pos rfl, c4, if_neg (by decide), if_neg (by decide), if_neg (by decide), if_pos (by decide), if_pos (hs.o 11 30 (by decide)), show (-6 : Int32) = I (-6) from rfl, b1, bd_eq, bd_eq, if_pos (o11 b2)]
