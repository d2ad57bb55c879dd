def hdC (o f sp : Nat) : Nat → Nat → Prop := fun a k => (a = 37 ∧ k = o) ∨ ((a = 38 ∨ a = 39) ∧ k = 3 * o + f) ∨ (a = 43 ∧ k = sp - 1)
def hdD (o f sp : Nat) : Nat → Nat → Prop := fun a k => hdC o f sp a k ∨ (a = 30 ∧ k = 19)
/-- the head of a face -/
theorem rg_head {σ : St} (hs : SS σ) {sp lay c o f : Nat} (hnx : sI σ 30 19 = I (3 : Nat)) (hsp : sI σ 30 18 = I (sp : Nat)) (hsp1 : 1 ≤ sp) (hsp2 : sp ≤ 128) (hlay : sI σ 30 20 = I (lay : Nat)) (hl : lay ≤ 1) (ho : sI σ 42 (sp - 1) = I (o : Nat)) (hf : sI σ 43 (sp - 1) = I (f : Nat)) (hf3 : f < 3) (ho2 : lay = 1 → o < 12) (hc126 : c ≤ 126) (hc : isAt c = true) :
    ∃ σ', s_X11_reads 30 (I (c : Nat)) σ = some (1, σ') ∧ Fr (hdD o f sp) σ σ' ∧ sI σ' 30 19 = I (4 : Nat) ∧ sI σ' 43 (sp - 1) = I ((f + 1 : Nat) : Int) ∧ (lay = 1 → sI σ' 37 o = I ((f + 1 : Nat) : Int) ∧ sI σ' 38 (3 * o + f) = I (c : Nat) ∧ sI σ' 39 (3 * o + f) = I (-6)) := by
  have hd : sp - 1 < 128 := by omega
  have f73 : ∀ σ1, SS σ1 → sI σ1 43 (sp - 1) = I (f : Nat) → s_X11_readHead_73 30 (I ((sp - 1 : Nat) : Int)) σ1 = some (1, setI (setI σ1 43 (sp - 1) (I ((f + 1 : Nat) : Int))) 30 19 4) := fun σ1 h1 h2 => by
    unfold s_X11_readHead_73
    rw [if_pos (h1.o 11 30 (by decide)), h1.p 30 17 43 (by decide), op_eq, if_pos (h1.o 13 43 (by decide)), h1.len 43 128 (by decide), if_pos (inN hd (by omega)), if_pos (inN hd (by omega)), lt_eq, tNI (by omega), h2, I_p1, lt_eq]
  have top : ∃ σ', s_X11_readHead 30 (I (c : Nat)) σ = some (1, σ') ∧ Fr (hdD o f sp) σ σ' ∧ sI σ' 30 19 = I (4 : Nat) ∧ sI σ' 43 (sp - 1) = I ((f + 1 : Nat) : Int) ∧ (lay = 1 → sI σ' 37 o = I ((f + 1 : Nat) : Int) ∧ sI σ' 38 (3 * o + f) = I (c : Nat) ∧ sI σ' 39 (3 * o + f) = I (-6)) := by
    unfold s_X11_readHead
    rw [q_letter (by omega), if_pos hc, bd_eq, if_neg (by decide), if_pos (hs.o 11 30 (by decide)), hsp, I_m1 hsp1, lt_eq, hlay]
    by_cases h0 : lay = 0
    · subst h0
      rw [if_pos (show I ((0 : Nat) : Int) = (0 : Int32) from rfl), f73 σ hs hf]
      exact ⟨_, rfl, ((Fr.refl σ).put _ (Or.inl (Or.inr (Or.inr ⟨rfl, rfl⟩)))).put _ (Or.inr ⟨rfl, rfl⟩), sIe, by rw [sIn (by omega), sIe], fun q => by omega⟩
    · obtain rfl : lay = 1 := by omega
      have ho2 := ho2 rfl
      have e1 : (3 : Int32) * I (o : Nat) + I (f : Nat) = I ((3 * o + f : Nat) : Int) := by
        rw [I_lit, I_mul, I_add]
        congr 1
      have hi : 3 * o + f < 36 := by omega
      rw [if_neg (by decide), hs.p 30 16 42 (by decide), op_eq, if_pos (hs.o 13 42 (by decide)), hs.len 42 128 (by decide), if_pos (inN hd (by omega)), hs.p 30 17 43 (by decide), op_eq, if_pos (hs.o 13 43 (by decide)), hs.len 43 128 (by decide), if_pos (inN hd (by omega)), lt_eq, tNI (by omega), ho, hf, e1,
        pst 36 (hs.p 30 12 38 (by decide)) (hs.o 13 38 (by decide)) (hs.len 38 36 (by decide)) rfl hi (by omega)]
      have s1 := hs.i 38 (3 * o + f) (I (c : Nat))
      rw [pst 36 (s1.p 30 13 39 (by decide)) (s1.o 13 39 (by decide)) (s1.len 39 36 (by decide)) rfl hi (by omega)]
      have s2 := s1.i 39 (3 * o + f) (-6)
      have r42 : sI (setI (setI σ 38 (3 * o + f) (I (c : Nat))) 39 (3 * o + f) (-6)) 42 (sp - 1) = I (o : Nat) := by rw [sIn (by omega), sIn (by omega)]; exact ho
      have r43 : sI (setI (setI σ 38 (3 * o + f) (I (c : Nat))) 39 (3 * o + f) (-6)) 43 (sp - 1) = I (f : Nat) := by rw [sIn (by omega), sIn (by omega)]; exact hf
      rw [s2.p 30 11 37 (by decide), op_eq, s2.len 42 128 (by decide), if_pos (inN hd (by omega)), s2.len 43 128 (by decide), if_pos (inN hd (by omega)), if_pos (s2.o 13 37 (by decide)), s2.len 37 12 (by decide), r42, if_pos (inN ho2 (by omega)), lt_eq, r43, I_p1, tNI (by omega),
        f73 _ (s2.i _ _ _) (by rw [sIn (by omega)]; exact r43)]
      refine ⟨_, rfl, (((((Fr.refl σ).put _ (Or.inl (Or.inr (Or.inl ⟨by omega, rfl⟩)))).put _ (Or.inl (Or.inr (Or.inl ⟨by omega, rfl⟩)))).put _ (Or.inl (Or.inl ⟨rfl, rfl⟩))).put _ (Or.inl (Or.inr (Or.inr ⟨rfl, rfl⟩)))).put _ (Or.inr ⟨rfl, rfl⟩), sIe, by rw [sIn (by omega), sIe], fun _ => ⟨?_, ?_, ?_⟩⟩
      · rw [sIn (by omega), sIn (by omega), sIe]
      · rw [sIn (by omega), sIn (by omega), sIn (by omega), sIn (by omega), sIe]
      · rw [sIn (by omega), sIn (by omega), sIn (by omega), sIe]; rfl
  obtain ⟨σ', g1, g2⟩ := top
  exact ⟨σ', by rw [rds hs hnx (by omega), if_neg (by omega), if_neg (by omega), if_neg (by omega), if_pos rfl, g1, bd_eq, if_pos zok1], g2⟩
/-- what may stand behind a face -/
theorem rg_behind {σ : St} (hs : SS σ) {sp c o f wt nx : Nat} (hnx : sI σ 30 19 = I (nx : Nat)) (hnx2 : nx = 4 ∨ nx = 5) (hsp : sI σ 30 18 = I (sp : Nat)) (hsp1 : 1 ≤ sp) (hsp2 : sp < 128) (ho : sI σ 42 (sp - 1) = I (o : Nat)) (hf : sI σ 43 (sp - 1) = I (f : Nat)) (hf3 : f ≤ 3) (hw : sI σ 40 (sp - 1) = I (wt : Nat)) (hwt : wt ≤ 6) (hc126 : c ≤ 126) :
    s_X11_reads 30 (I (c : Nat)) σ = if c = 60 ∧ nx = 4 then some (1, setI (pushS σ sp 4 (-6) (I (o : Nat))) 30 19 0) else if c = 124 ∧ f < 3 then some (1, setI σ 30 19 3) else if c = 93 ∧ wt = 6 then some (1, setI (setI σ 40 (sp - 1) 3) 30 19 0) else some (0, σ) := by
  have hd : sp - 1 < 128 := by omega
  have e0 : ∀ n : Nat, n ≤ 126 → ((I (c : Nat) = (OfNat.ofNat n : Int32)) ↔ c = n) := fun n hn => by
    rw [I_lit, show (OfNat.ofNat n : Int) = (n : Int) from rfl, I_eq (by omega) (by omega)]
    omega
  have f64 : s_X11_readBehind_64 30 (I (c : Nat)) (I ((sp - 1 : Nat) : Int)) σ = if c = 93 ∧ wt = 6 then some (1, setI (setI σ 40 (sp - 1) 3) 30 19 0) else some (0, σ) := by
    unfold s_X11_readBehind_64
    by_cases c1 : c = 93
    · rw [if_pos ((e0 93 (by omega)).mpr c1), if_pos (hs.o 11 30 (by decide)), hs.p 30 14 40 (by decide), op_eq, if_pos (hs.o 13 40 (by decide)), hs.len 40 128 (by decide), if_pos (inN hd (by omega)), tNI (by omega), hw]
      by_cases c2 : wt = 6
      · rw [if_pos ((nx_eq 6 (by omega) hwt).mpr c2), if_pos (inN hd (by omega)), if_pos ⟨c1, c2⟩, lt_eq, lt_eq]
      · rw [if_neg (fun q => c2 ((nx_eq 6 (by omega) hwt).mp q)), if_neg (fun q => c2 q.2)]
    · rw [if_neg (fun q => c1 ((e0 93 (by omega)).mp q)), if_neg (fun q => c1 q.1)]
  have f41 : s_X11_readBehind_41 30 (I (c : Nat)) (I ((sp - 1 : Nat) : Int)) σ = if c = 124 ∧ f < 3 then some (1, setI σ 30 19 3) else if c = 93 ∧ wt = 6 then some (1, setI (setI σ 40 (sp - 1) 3) 30 19 0) else some (0, σ) := by
    unfold s_X11_readBehind_41
    by_cases c1 : c = 124
    · rw [if_pos ((e0 124 (by omega)).mpr c1), if_pos (hs.o 11 30 (by decide)), hs.p 30 17 43 (by decide), op_eq, if_pos (hs.o 13 43 (by decide)), hs.len 43 128 (by decide), if_pos (inN hd (by omega)), tNI (by omega), hf]
      by_cases c2 : f < 3
      · rw [if_neg (by rw [I_lit, I_le (by omega) (by omega)]; omega), if_pos ⟨c1, c2⟩, lt_eq]
      · rw [if_pos (by rw [I_lit, I_le (by omega) (by omega)]; omega), if_neg (fun q => c2 q.2), f64]
    · rw [if_neg (fun q => c1 ((e0 124 (by omega)).mp q)), if_neg (fun q => c1 q.1), f64]
  have fB : s_X11_readBehind 30 (I (c : Nat)) σ = if c = 60 ∧ nx = 4 then some (1, setI (pushS σ sp 4 (-6) (I (o : Nat))) 30 19 0) else if c = 124 ∧ f < 3 then some (1, setI σ 30 19 3) else if c = 93 ∧ wt = 6 then some (1, setI (setI σ 40 (sp - 1) 3) 30 19 0) else some (0, σ) := by
    unfold s_X11_readBehind
    rw [if_pos (hs.o 11 30 (by decide)), hsp, I_m1 hsp1, lt_eq]
    by_cases c1 : c = 60
    · rw [if_pos ((e0 60 (by omega)).mpr c1), hnx]
      by_cases c2 : nx = 4
      · have hp : isO (pushS σ sp 4 (-6) (I (o : Nat))) 11 30 = true := ((push_fr σ sp 4 (-6) (I (o : Nat))).1.ss hs).o 11 30 (by decide)
        rw [if_pos ((nx_eq 4 (by omega) (by omega)).mpr c2), hs.p 30 16 42 (by decide), op_eq, if_pos (hs.o 13 42 (by decide)), hs.len 42 128 (by decide), if_pos (inN hd (by omega)), tNI (by omega), ho, q_push hs hsp hsp2, bd_eq, if_pos hp, lt_eq, if_pos ⟨c1, c2⟩]
      · rw [if_neg (fun q => c2 ((nx_eq 4 (by omega) (by omega)).mp q)), if_neg (fun q => c2 q.2), f41]
    · rw [if_neg (fun q => c1 ((e0 60 (by omega)).mp q)), if_neg (fun q => c1 q.1), f41]
  rw [rds hs hnx (by omega), if_neg (by omega), if_neg (by omega), if_neg (by omega), if_neg (by omega), if_pos hnx2, fB]
  split
  · rw [bd_eq, if_pos zok1]
  split
  · rw [bd_eq, if_pos zok1]
  split
  · rw [bd_eq, if_pos zok1]
  · rw [bd_eq, if_pos zok0]
/-- what stands ahead of a face -/
def HPre (ch : Nat → Nat) (s n : Nat) (σ : St) (p N lam sp nx lay : Nat) (w : Nat → Nat) (o f : Nat) : Prop :=
  RM ch s n σ ∧ MA σ N lam sp nx lay ∧ p ≤ n ∧ 1 ≤ sp ∧ sp ≤ p + 1 ∧ WH w sp σ ∧ w 0 ≠ 3 ∧ lay ≤ 1 ∧ sI σ 42 (sp - 1) = I (o : Nat) ∧ sI σ 43 (sp - 1) = I (f : Nat) ∧ (lay = 1 → o < 12 ∧ (o < 5 + lam ∨ 8 ≤ o))
def FOK (ch : Nat → Nat) (s : Nat) (σ : St) (p N lam sp lay o f : Nat) (R : PR) : Prop :=
  (lay = 1 → N + R.2.2.1 ≤ 60 ∧ lam + R.2.2.2 ≤ 3) → ∃ σ', Go s σ p σ' (R.2.1 - 64 * s) ∧ Fr (fun a k => mC N sp (N + R.2.2.1) lam (lam + R.2.2.2) (30, 5) a k ∨ hdC o f sp a k) σ σ' ∧ MA σ' (N + R.2.2.1) (lam + R.2.2.2) sp (if ch (64 * s + p + 1) = 60 then 5 else 4) lay ∧ sI σ' 43 (sp - 1) = I ((f + 1 : Nat) : Int) ∧ isAt (ch (64 * s + p)) = true ∧
    (lay = 1 → lam = cntB ch (64 * s + p) → s < 10 → sI σ' 37 o = I ((f + 1 : Nat) : Int) ∧ sI σ' 38 (3 * o + f) = I (ch (64 * s + p) : Nat) ∧
      ∀ κ, ∃ κ', LayM ch κ κ' σ' N (N + R.2.2.1) lam (lam + R.2.2.2) ∧ (if ch (64 * s + p + 1) = 60 then 1 ≤ R.2.2.1 ∧ sI σ' 39 (3 * o + f) = I (N : Nat) ∧ κ' N = 64 * s + p + 2 else sI σ' 39 (3 * o + f) = I (-6)))
theorem HPre.lt {ch : Nat → Nat} {s n : Nat} {σ : St} {p N lam sp nx lay o f : Nat} {w : Nat → Nat} (h : HPre ch s n σ p N lam sp nx lay w o f) {q : Nat} (hq : q ≤ n) (hc : ch (64 * s + q) ≠ 0) : q < n := by
  obtain ⟨hr, _, hp, _⟩ := h
  have hn := hr.2.2.1
  apply Nat.lt_of_not_le
  intro hh
  exact hc (hr.2.2.2.2.2.2 (64 * s + q) (by omega) (by omega))
theorem m_face {ch : Nat → Nat} {s n F : Nat} (hk : MGoal ch s n F) {σ : St} {p N lam sp lay o f : Nat} {w : Nat → Nat} (h : HPre ch s n σ p N lam sp 3 lay w o f) (hf3 : f < 3) (hF : 62 ≤ F + p + 1) (hR : (pface (pgoal ch F) ch (64 * s + p)).1 = true) : FOK ch s σ p N lam sp lay o f (pface (pgoal ch F) ch (64 * s + p)) := by
  intro hl
  have hat : isAt (ch (64 * s + p)) = true := by
    apply Decidable.byContradiction
    intro q
    unfold pface at hR
    rw [if_neg q] at hR
    cases hR
  have hpn := h.lt h.2.2.1 (fun q => by rw [q] at hat; exact absurd hat (by decide))
  obtain ⟨hr, ⟨m1, m2, m3, m4, m5⟩, hp, hsp1, hsp2, hw, hw0, hlay, ho, hf, ho2⟩ := id h
  have hn60 := hr.2.2.1
  have h126 := hr.2.2.2.2.2.1
  obtain ⟨σ1, a1, a2, a3, a4, a5⟩ := rg_head hr.1 m4 m3 hsp1 (by omega) m5 hlay ho hf hf3 (fun q => (ho2 q).1) (h126 _) hat
  have g1 := go1 hr hpn a1
  have hr1 : RM ch s n σ1 := hr.fr a2 (fun k => ⟨by unfold hdD hdC; omega, by unfold hdD hdC; omega⟩)
  have hw1 : WH w sp σ1 := fun j hj => by
    rw [a2.i 40 j (by unfold hdD hdC; omega)]
    exact hw j hj
  have b1 : sI σ1 30 5 = I (N : Nat) := by rw [a2.i 30 5 (by unfold hdD hdC; omega)]; exact m1
  have b2 : sI σ1 30 6 = I (lam : Nat) := by rw [a2.i 30 6 (by unfold hdD hdC; omega)]; exact m2
  have b3 : sI σ1 30 18 = I (sp : Nat) := by rw [a2.i 30 18 (by unfold hdD hdC; omega)]; exact m3
  have b5 : sI σ1 30 20 = I (lay : Nat) := by rw [a2.i 30 20 (by unfold hdD hdC; omega)]; exact m5
  have b42 : sI σ1 42 (sp - 1) = I (o : Nat) := by rw [a2.i 42 (sp - 1) (by unfold hdD hdC; omega)]; exact ho
  have frA : Fr (fun a k => mC N sp (N + (pface (pgoal ch F) ch (64 * s + p)).2.2.1) lam (lam + (pface (pgoal ch F) ch (64 * s + p)).2.2.2) (30, 5) a k ∨ hdC o f sp a k) σ σ1 := a2.mono (by
    rintro a k (q | ⟨rfl, rfl⟩)
    · exact Or.inr q
    · exact Or.inl (Or.inl ⟨rfl, by omega⟩))
  by_cases hb : ch (64 * s + p + 1) = 60
  · have hR2 : pface (pgoal ch F) ch (64 * s + p) = pgoal ch F (64 * s + (p + 2)) := by
      unfold pface
      rw [if_pos hat, if_pos hb]
      rfl
    rw [hR2] at hR hl frA ⊢
    have hp1 : p + 1 < n := h.lt (q := p + 1) (by omega) (by rw [show 64 * s + (p + 1) = 64 * s + p + 1 by omega]; omega)
    have e1 : s_X11_reads 30 (I (ch (64 * s + (p + 1)) : Nat)) σ1 = some (1, setI (pushS σ1 sp 4 (-6) (I (o : Nat))) 30 19 0) := by
      rw [rg_behind hr1.1 a3 (Or.inl rfl) b3 hsp1 (by omega) b42 a4 (by omega) (hw1 (sp - 1) (by omega)).1 (hw1 (sp - 1) (by omega)).2 (h126 _), if_pos ⟨hb, rfl⟩]
    obtain ⟨f1, p1, p2, p3, p4, p5⟩ := push_fr σ1 sp 4 (-6) (I (o : Nat))
    obtain ⟨k1, k2, k3, k4⟩ := push_pre (t := 4) hr1 ⟨b1, b2, b3, a3, b5⟩ hsp1 hw1 hw0 (by omega) (-6) (I (o : Nat))
    have f2 : Fr (fun a k => pushC sp a k ∨ (a = 30 ∧ k = 19)) σ1 (setI (pushS σ1 sp 4 (-6) (I (o : Nat))) 30 19 0) := (f1.mono (fun a k q => Or.inl q)).put _ (Or.inr ⟨rfl, rfl⟩)
    generalize hσ : setI (pushS σ1 sp 4 (-6) (I (o : Nat))) 30 19 0 = σ2 at e1 f2
    have r2 : ∀ a k, (a = 30 → k ≠ 19) → sI σ2 a k = sI (pushS σ1 sp 4 (-6) (I (o : Nat))) a k := fun a k q => by rw [← hσ, sIn (by omega)]
    have c43 : sI σ2 43 (sp - 1) = I ((f + 1 : Nat) : Int) := by rw [f2.i 43 (sp - 1) (by unfold pushC; omega)]; exact a4
    have pre2 : MPre ch s n σ2 (p + 2) N lam (sp + 1) 0 lay (upW w sp 4) := by
      obtain ⟨k21, k22, k23, k24, k25⟩ := k2
      refine ⟨hr1.fr f2 (fun k => ⟨by unfold pushC; omega, by unfold pushC; omega⟩), ⟨by rw [r2 30 5 (by omega)]; exact k21, by rw [r2 30 6 (by omega)]; exact k22, by rw [r2 30 18 (by omega)]; exact k23, by rw [← hσ]; exact sIe, by rw [r2 30 20 (by omega)]; exact k25⟩, by omega, by omega, by omega, fun j hj => ?_, k4, hlay⟩
      rw [r2 40 j (by omega)]
      exact k3 j hj
    have tf2 : lay = 1 → TF σ2 (sp + 1) (upW w sp 4 (sp + 1 - 1)) (3 * o + f) N lam := fun q => by
      rw [upW_top]
      exact Or.inr (Or.inr ⟨rfl, by omega, o, f + 1, by rw [show sp + 1 - 1 = sp by omega, r2 42 sp (by omega)]; exact p3, by rw [show sp + 1 - 2 = sp - 1 by omega]; exact c43, by omega, by omega, by omega, (ho2 q).1, (ho2 q).2⟩)
    obtain ⟨σ3, g2, g3, g4, g5⟩ := (hk σ2 (p + 2) N lam (sp + 1) lay (upW w sp 4) (3 * o + f) pre2 (by omega) tf2).1 hR hl
    rw [upW_top] at g3 g5
    rw [cmp_upW, if_neg (by omega), if_neg (by omega), if_neg (by omega), if_neg (by omega)] at g4
    rw [if_pos hb]
    have hone := pgoal_one ch F (64 * s + (p + 2)) hR
    have hfr : Fr (fun a k => mC N sp (N + (pgoal ch F (64 * s + (p + 2))).2.2.1) lam (lam + (pgoal ch F (64 * s + (p + 2))).2.2.2) (30, 5) a k ∨ hdC o f sp a k) σ σ3 := by
      refine (frA.trans (f2.mono ?_)).trans (g3.mono ?_)
      · rintro a k ((⟨q1, q2, rfl⟩ | ⟨rfl, rfl⟩) | ⟨rfl, rfl⟩)
        · exact Or.inl (Or.inr (Or.inr (Or.inr (Or.inr (Or.inr ⟨q1, q2, Nat.le_refl _⟩)))))
        · exact Or.inl (Or.inl ⟨rfl, by omega⟩)
        · exact Or.inl (Or.inl ⟨rfl, by omega⟩)
      · rintro a k (q | ⟨rfl, rfl⟩ | q | q | q | q)
        · exact Or.inl (Or.inl q)
        · exact Or.inr (Or.inr (Or.inl ⟨Or.inr rfl, rfl⟩))
        · exact Or.inl (Or.inr (Or.inr (Or.inl q)))
        · exact Or.inl (Or.inr (Or.inr (Or.inr (Or.inl q))))
        · exact Or.inl (Or.inr (Or.inr (Or.inr (Or.inr (Or.inl q)))))
        · exact Or.inl (Or.inr (Or.inr (Or.inr (Or.inr (Or.inr ⟨q.1, q.2.1, by omega⟩)))))
    have g3n : ∀ a k, a = 37 ∧ k = o ∨ a = 38 ∧ k = 3 * o + f → lay = 1 → sI σ3 a k = sI σ2 a k := fun a k q hq => by
      have h1 := ho2 hq
      have h2 := hl hq
      exact g3.i a k (mC_not (by omega) (by show ¬ (a = 39 ∧ _); omega) (by omega) (by omega) (by omega) (by omega))
    refine ⟨σ3, (g1.trans (go1 hr1 hp1 e1)).trans g2, hfr, g4, ?_, hat, fun q1 q2 q3 => ?_⟩
    · rw [g3.i 43 (sp - 1) (mC_not (by omega) (by show ¬ (43 = 39 ∧ _); omega) (by omega) (by omega) (by omega) (by omega))]
      exact c43
    · obtain ⟨d1, d2, d3⟩ := a5 q1
      have q2' : lam = cntB ch (64 * s + (p + 2)) := by
        rw [show 64 * s + (p + 2) = 64 * s + p + 1 + 1 by omega, cntB_step (by omega), cntB_step (fun e => by rw [e] at hat; exact absurd hat (by decide))]
        exact q2
      obtain ⟨j1, j2⟩ := g5 q1 q2' q3
      refine ⟨?_, ?_, fun κ => ?_⟩
      · rw [g3n 37 o (Or.inl ⟨rfl, rfl⟩) q1, f2.i 37 o (by unfold pushC; omega)]; exact d1
      · rw [g3n 38 _ (Or.inr ⟨rfl, rfl⟩) q1, f2.i 38 _ (by unfold pushC; omega)]; exact d2
      · obtain ⟨κ', i1, i2⟩ := j2 κ
        refine ⟨κ', i2, ?_⟩
        rw [if_pos hb]
        exact ⟨hone, j1, by rw [i1]; omega⟩
  · have hR2 : pface (pgoal ch F) ch (64 * s + p) = (true, 64 * s + p + 1, 0, 0) := by
      unfold pface
      rw [if_pos hat, if_neg hb]
    rw [hR2] at hR hl frA ⊢
    dsimp only at hl frA ⊢
    rw [if_neg hb]
    refine ⟨σ1, by rw [show 64 * s + p + 1 - 64 * s = p + 1 by omega]; exact g1, frA, ⟨b1, b2, b3, a3, b5⟩, a4, hat, fun q1 q2 q3 => ?_⟩
    obtain ⟨d1, d2, d3⟩ := a5 q1
    refine ⟨d1, d2, fun κ => ⟨κ, ⟨fun _ _ => rfl, fun c h1 h2 => by omega, fun o f h1 h2 => by omega⟩, ?_⟩⟩
    rw [if_neg hb]
    exact d3
