def hdO (o sp : Nat) : Nat → Nat → Prop := fun a k => (a = 37 ∧ k = o) ∨ ((a = 38 ∨ a = 39) ∧ 3 * o ≤ k ∧ k < 3 * o + 3) ∨ (a = 43 ∧ k = sp - 1)
def faceB (ch : Nat → Nat) (κ : Nat → Nat) (M : Nat) (σ : St) (o f q : Nat) : Prop :=
  sI σ 38 (3 * o + f) = I (ch q : Nat) ∧ isAt (ch q) = true ∧ (if ch (q + 1) = 60 then ∃ c : Nat, c < M ∧ sI σ 39 (3 * o + f) = I (c : Nat) ∧ κ c = q + 2 else sI σ 39 (3 * o + f) = I (-6))
theorem faceB_mono {ch : Nat → Nat} {κ κ' : Nat → Nat} {M M' : Nat} {σ σ' : St} {o f q : Nat} (h : faceB ch κ M σ o f q) (hM : M ≤ M') (hk : ∀ i, i < M → κ' i = κ i) (hi : ∀ a, a = 38 ∨ a = 39 → sI σ' a (3 * o + f) = sI σ a (3 * o + f)) : faceB ch κ' M' σ' o f q := by
  unfold faceB at h ⊢
  rw [hi 38 (by omega), hi 39 (by omega)]
  refine ⟨h.1, h.2.1, ?_⟩
  have h4 := h.2.2
  split
  · rename_i hc
    rw [if_pos hc] at h4
    obtain ⟨c, a1, a2, a3⟩ := h4
    exact ⟨c, by omega, a2, by rw [hk c a1]; exact a3⟩
  · rename_i hc
    rw [if_neg hc] at h4
    exact h4
def Acc (ch : Nat → Nat) (s : Nat) (σ : St) (p N lam sp lay o : Nat) (pos : Nat → Nat) (j q N1 lam1 : Nat) (σ1 : St) : Prop :=
  Go s σ p σ1 q ∧ Fr (fun a k => mC N sp N1 lam lam1 (30, 5) a k ∨ hdO o sp a k) σ σ1 ∧ (∃ nx, (nx = 4 ∨ nx = 5) ∧ (nx = 4 → ch (64 * s + q) ≠ 60) ∧ MA σ1 N1 lam1 sp nx lay) ∧ sI σ1 43 (sp - 1) = I (j : Nat) ∧ N ≤ N1 ∧ lam ≤ lam1 ∧
  (lay = 1 → lam = cntB ch (64 * s + p) → s < 10 → lam1 = cntB ch (64 * s + q) ∧ sI σ1 37 o = I (j : Nat) ∧ ∀ κ, ∃ κ', LayM ch κ κ' σ1 N N1 lam lam1 ∧ ∀ i, i < j → faceB ch κ' N1 σ1 o i (pos i))
theorem pface_at {g : Nat → PR} {ch : Nat → Nat} {p : Nat} (h : (pface g ch p).1 = true) : isAt (ch p) = true := by
  apply Decidable.byContradiction
  intro q
  unfold pface at h
  rw [if_neg q] at h
  cases h
theorem pface_cnt (ch : Nat → Nat) (F p : Nat) (h : (pface (pgoal ch F) ch p).1 = true) : cntB ch (pface (pgoal ch F) ch p).2.1 = cntB ch p + (pface (pgoal ch F) ch p).2.2.2 := by
  have ha := pface_at h
  have h91 : ch p ≠ 91 := fun e => by rw [e] at ha; exact absurd ha (by decide)
  unfold pface at h ⊢
  rw [if_pos ha] at h ⊢
  by_cases hb : ch (p + 1) = 60
  · rw [if_pos hb] at h ⊢
    rw [pgoal_cnt ch F _ h, show p + 2 = p + 1 + 1 by omega, cntB_step (by omega), cntB_step h91]
  · rw [if_neg hb]
    exact cntB_step h91
theorem pface_tail {ch : Nat → Nat} {F p q k l : Nat} (h : pface (pgoal ch F) ch p = (true, q, k, l)) (hb : ¬ ch (p + 1) = 60) : q = p + 1 := by
  have ha := pface_at (g := pgoal ch F) (ch := ch) (p := p) (by rw [h])
  unfold pface at h
  rw [if_pos ha, if_neg hb] at h
  cases h
  rfl
theorem mC_split {N sp N' lam lam' : Nat} {a k : Nat} (h : mC N sp N' lam lam' (30, 5) a k) : (a = 30 ∧ (k = 5 ∨ k = 6 ∨ k = 18 ∨ k = 19)) ∨ ((a = 34 ∨ a = 35 ∨ a = 36) ∧ N ≤ k ∧ k < N') ∨ (a = 37 ∧ 5 + lam ≤ k ∧ k < 5 + lam') ∨ ((a = 38 ∨ a = 39) ∧ 15 + 3 * lam ≤ k ∧ k < 15 + 3 * lam') ∨ (40 ≤ a ∧ a ≤ 43 ∧ sp ≤ k) := by
  rcases h with q | ⟨rfl, rfl⟩ | q | q | q | q
  · exact Or.inl q
  · exact Or.inl ⟨rfl, Or.inl rfl⟩
  · exact Or.inr (Or.inl q)
  · exact Or.inr (Or.inr (Or.inl q))
  · exact Or.inr (Or.inr (Or.inr (Or.inl q)))
  · exact Or.inr (Or.inr (Or.inr (Or.inr q)))
theorem faceB_of {ch : Nat → Nat} {κ : Nat → Nat} {σ : St} {N N1 o f P : Nat} (ha : isAt (ch P) = true) (h1 : sI σ 38 (3 * o + f) = I (ch P : Nat)) {k : Nat} (hk : N1 = N + k) (h2 : if ch (P + 1) = 60 then 1 ≤ k ∧ sI σ 39 (3 * o + f) = I (N : Nat) ∧ κ N = P + 2 else sI σ 39 (3 * o + f) = I (-6)) : faceB ch κ N1 σ o f P := by
  refine ⟨h1, ha, ?_⟩
  split
  · rename_i hc
    rw [if_pos hc] at h2
    exact ⟨N, by omega, h2.2.1, h2.2.2⟩
  · rename_i hc
    rw [if_neg hc] at h2
    exact h2
/-- the first face -/
theorem acc_one {ch : Nat → Nat} {s n F : Nat} (hk : MGoal ch s n F) {σ : St} {p N lam sp lay o q k l : Nat} {w : Nat → Nat} (h : HPre ch s n σ p N lam sp 3 lay w o 0) (hF : 62 ≤ F + p + 1) (hg : pface (pgoal ch F) ch (64 * s + p) = (true, 64 * s + q, k, l)) (hl : lay = 1 → N + k ≤ 60 ∧ lam + l ≤ 3) (pos : Nat → Nat) (hp0 : pos 0 = 64 * s + p) : ∃ σ1, Acc ch s σ p N lam sp lay o pos 1 q (N + k) (lam + l) σ1 := by
  have hR : (pface (pgoal ch F) ch (64 * s + p)).1 = true := by rw [hg]
  have hcn := pface_cnt ch F _ hR
  have hf := m_face hk h (by omega) hF hR
  unfold FOK at hf
  rw [hg] at hf hcn
  dsimp only at hf hcn
  obtain ⟨σ1, a1, a2, a3, a4, a5, a6⟩ := hf hl
  rw [show 64 * s + q - 64 * s = q by omega] at a1
  refine ⟨σ1, a1, a2.mono ?_, ?_, a4, by omega, by omega, fun q1 q2 q3 => ?_⟩
  · rintro a k (e | e)
    · exact Or.inl e
    · refine Or.inr ?_
      unfold hdC at e
      unfold hdO
      omega
  · by_cases hb : ch (64 * s + p + 1) = 60
    · rw [if_pos hb] at a3
      exact ⟨5, Or.inr rfl, fun e => by omega, a3⟩
    · rw [if_neg hb] at a3
      refine ⟨4, Or.inl rfl, fun _ => ?_, a3⟩
      rw [pface_tail hg hb]
      exact hb
  · obtain ⟨b1, b2, b3⟩ := a6 q1 q2 q3
    refine ⟨by rw [hcn]; omega, b1, fun κ => ?_⟩
    obtain ⟨κ', c1, c2⟩ := b3 κ
    refine ⟨κ', c1, fun i hi => ?_⟩
    obtain rfl : i = 0 := by omega
    rw [hp0]
    exact faceB_of a5 b2 rfl c2
/-- a further face -/
theorem acc_more {ch : Nat → Nat} {s n F : Nat} (hk : MGoal ch s n F) {σ : St} {p N lam sp lay o : Nat} {w : Nat → Nat} (h : HPre ch s n σ p N lam sp 3 lay w o 0) {pos : Nat → Nat} {j q1 N1 lam1 : Nat} {σ1 : St} (ha : Acc ch s σ p N lam sp lay o pos j q1 N1 lam1 σ1) (hj1 : 1 ≤ j) (hj : j < 3) (hq1 : q1 ≤ n) (hF : 62 ≤ F + q1 + 2) (hpq : p ≤ q1) (hc : ch (64 * s + q1) = 124) {q k l : Nat}
    (hg : pface (pgoal ch F) ch (64 * s + q1 + 1) = (true, 64 * s + q, k, l)) (hl : lay = 1 → N1 + k ≤ 60 ∧ lam1 + l ≤ 3) (hpos : pos j = 64 * s + q1 + 1) : ∃ σ2, Acc ch s σ p N lam sp lay o pos (j + 1) q (N1 + k) (lam1 + l) σ2 := by
  obtain ⟨hr, ⟨m1, m2, m3, m4, m5⟩, hp, hsp1, hsp2, hw, hw0, hlay, ho, hf, ho2⟩ := id h
  obtain ⟨a1, a2, ⟨nx, n1, n2, n3⟩, a4, aN, al, a5⟩ := ha
  have hn60 := hr.2.2.1
  have h126 := hr.2.2.2.2.2.1
  have hqn : q1 < n := h.lt hq1 (by omega)
  have cl : ∀ a k, a ≠ 30 → (a < 34 ∨ a = 40 ∨ a = 42) → (k < sp ∨ a < 40) → sI σ1 a k = sI σ a k := fun a k h1 h2 h3 => a2.i a k (by
    rintro (e | e)
    · have := mC_split e; omega
    · unfold hdO at e; omega)
  have hr1 : RM ch s n σ1 := hr.fr a2 (fun k => ⟨by rintro (e | e); have := mC_split e; omega; unfold hdO at e; omega, by rintro (e | e); have := mC_split e; omega; unfold hdO at e; omega⟩)
  have hw1 : WH w sp σ1 := fun i hi => by rw [cl 40 i (by omega) (by omega) (by omega)]; exact hw i hi
  have h42 : sI σ1 42 (sp - 1) = I (o : Nat) := by rw [cl 42 (sp - 1) (by omega) (by omega) (by omega)]; exact ho
  obtain ⟨k1, k2, k3, k4, k5⟩ := n3
  have e1 : s_X11_reads 30 (I (ch (64 * s + q1) : Nat)) σ1 = some (1, setI σ1 30 19 3) := by
    rw [rg_behind hr1.1 k4 n1 k3 hsp1 (by omega) h42 a4 (by omega) (hw1 (sp - 1) (by omega)).1 (hw1 (sp - 1) (by omega)).2 (h126 _), if_neg (by omega), if_pos ⟨hc, hj⟩]
  have f2 : Fr (fun a k => a = 30 ∧ k = 19) σ1 (setI σ1 30 19 3) := (Fr.refl σ1).put _ ⟨rfl, rfl⟩
  have r2 : ∀ a k, (a = 30 → k ≠ 19) → sI (setI σ1 30 19 3) a k = sI σ1 a k := fun a k hh => sIn (by omega)
  have pre : HPre ch s n (setI σ1 30 19 3) (q1 + 1) N1 lam1 sp 3 lay w o j := by
    refine ⟨hr1.fr f2 (fun k => ⟨by omega, by omega⟩), ⟨by rw [r2 30 5 (by omega)]; exact k1, by rw [r2 30 6 (by omega)]; exact k2, by rw [r2 30 18 (by omega)]; exact k3, sIe, by rw [r2 30 20 (by omega)]; exact k5⟩, by omega, hsp1, by omega, fun i hi => by rw [r2 40 i (by omega)]; exact hw1 i hi, hw0, hlay, by rw [r2 42 _ (by omega)]; exact h42, by rw [r2 43 _ (by omega)]; exact a4, fun e => ⟨(ho2 e).1, by have := (ho2 e).2; omega⟩⟩
  have hg' : pface (pgoal ch F) ch (64 * s + (q1 + 1)) = (true, 64 * s + q, k, l) := hg
  have hR : (pface (pgoal ch F) ch (64 * s + (q1 + 1))).1 = true := by rw [hg']
  have hcn := pface_cnt ch F _ hR
  have hf := m_face hk pre hj (by omega) hR
  unfold FOK at hf
  rw [hg'] at hf hcn
  dsimp only at hf hcn
  obtain ⟨σ3, b1, b2, b3, b4, b5, b6⟩ := hf hl
  rw [show 64 * s + q - 64 * s = q by omega] at b1
  refine ⟨σ3, (a1.trans (go1 hr1 hqn e1)).trans b1, ((a2.mono ?_).trans (f2.mono ?_)).trans (b2.mono ?_), ?_, b4, by omega, by omega, fun y1 y2 y3 => ?_⟩
  · rintro a c (e | e)
    · exact Or.inl (mC_sub (t' := (30, 5)) ⟨Nat.le_refl _, by omega, Nat.le_refl _, by omega, Nat.le_refl _⟩ mC_t a c e)
    · exact Or.inr e
  · rintro a c ⟨rfl, rfl⟩
    exact Or.inl (Or.inl ⟨rfl, by omega⟩)
  · rintro a c (e | e)
    · exact Or.inl (mC_sub (t' := (30, 5)) ⟨aN, Nat.le_refl _, al, Nat.le_refl _, Nat.le_refl _⟩ mC_t a c e)
    · refine Or.inr ?_
      unfold hdC at e
      unfold hdO
      omega
  · by_cases hb : ch (64 * s + (q1 + 1) + 1) = 60
    · rw [if_pos hb] at b3
      exact ⟨5, Or.inr rfl, fun e => by omega, b3⟩
    · rw [if_neg hb] at b3
      refine ⟨4, Or.inl rfl, fun _ => ?_, b3⟩
      rw [pface_tail hg' hb]
      exact hb
  · have hl1 := hl y1
    have ho1 := ho2 y1
    obtain ⟨c1, c2, c3⟩ := a5 y1 y2 y3
    have c1' : lam1 = cntB ch (64 * s + (q1 + 1)) := by
      rw [show 64 * s + (q1 + 1) = 64 * s + q1 + 1 by omega, cntB_step (by omega)]
      exact c1
    obtain ⟨d1, d2, d3⟩ := b6 y1 c1' y3
    refine ⟨by rw [hcn]; omega, d1, fun κ => ?_⟩
    obtain ⟨κ1, i1, i2⟩ := c3 κ
    obtain ⟨κ2, x1, x2⟩ := d3 κ1
    have st : ∀ a c, (a = 34 ∨ a = 35 ∨ a = 36) ∧ c < N1 ∨ a = 37 ∧ c ≠ o ∧ c < 5 + lam1 ∨ (a = 38 ∨ a = 39) ∧ c ≠ 3 * o + j ∧ (c < 15 + 3 * lam1 ∨ 24 ≤ c) → sI σ3 a c = sI σ1 a c := fun a c hh => by
      rw [b2.i a c (by
        rintro (e | e)
        · have := mC_split e; omega
        · unfold hdC at e; omega), r2 a c (by omega)]
    refine ⟨κ2, i1.trans x1 aN (by omega) al (fun a c hc1 hc2 ha => st a c (Or.inl ⟨ha, hc2⟩)) (fun o' h1 h2 => st 37 o' (Or.inr (Or.inl ⟨rfl, by omega, h2⟩))) (fun a c h1 h2 ha => st a c (Or.inr (Or.inr ⟨ha, by omega, Or.inl h2⟩))), fun i hi => ?_⟩
    by_cases ci : i = j
    · subst ci
      rw [hpos]
      exact faceB_of b5 d2 rfl x2
    · exact faceB_mono (i2 i (by omega)) (by omega) x1.1 (fun a ha => st a _ (Or.inr (Or.inr ⟨ha, by omega, by omega⟩)))
