/-! the reference's reader on a text with a fault (it never lays rows then) -/
theorem mF_mC {N sp N' lam lam' : Nat} {a k : Nat} (h : mC N sp N' lam lam' (30, 5) a k) : mF a k := by
  have := mC_split h
  unfold mF
  omega
theorem mF_hdO {o sp a k : Nat} (h : hdO o sp a k) : mF a k := by
  unfold hdO at h
  unfold mF
  omega
theorem rej_head {σ : St} (hs : SS σ) {c : Nat} (hnx : sI σ 30 19 = I (3 : Nat)) (hc126 : c ≤ 126) (hc : ¬ isAt c = true) : s_X11_reads 30 (I (c : Nat)) σ = some (0, σ) := by
  rw [rds hs hnx (by omega), if_neg (by omega), if_neg (by omega), if_neg (by omega), if_pos rfl]
  unfold s_X11_readHead
  rw [q_letter (by omega), if_neg hc, bd_eq, if_pos rfl, bd_eq, if_pos zok0]
theorem rej_sign {σ : St} (hs : SS σ) {c : Nat} (hnx : sI σ 30 19 = I (1 : Nat)) (hc126 : c ≤ 126) (hc : ¬ isOp c = true) : s_X11_reads 30 (I (c : Nat)) σ = some (0, σ) := by
  have h42 : c ≠ 42 ∧ c ≠ 38 ∧ c ≠ 43 := by
    refine ⟨?_, ?_, ?_⟩ <;> (rintro rfl; exact hc (by decide))
  have e0 : ∀ n : Nat, n ≤ 126 → c ≠ n → ¬ (I (c : Nat) = (OfNat.ofNat n : Int32)) := fun n hn hne => by
    rw [I_lit, show (OfNat.ofNat n : Int) = (n : Int) from rfl, I_eq (by omega) (by omega)]
    omega
  rw [rds hs hnx (by omega), if_neg (by omega), if_pos rfl]
  have : s_X11_readSign 30 (I (c : Nat)) σ = some (0, σ) := by
    unfold s_X11_readSign
    rw [if_neg (e0 42 (by omega) h42.1), if_neg (e0 38 (by omega) h42.2.1), if_neg (e0 43 (by omega) h42.2.2)]
    rfl
  rw [this, bd_eq, if_pos zok0]
theorem rej_close {σ : St} (hs : SS σ) {c : Nat} (hnx : sI σ 30 19 = I (2 : Nat)) (hc126 : c ≤ 126) (hc : c ≠ 41) : s_X11_reads 30 (I (c : Nat)) σ = some (0, σ) := by
  rw [rds hs hnx (by omega), if_neg (by omega), if_neg (by omega), if_pos rfl, if_neg]
  rw [I_lit, I_eq (by omega) (by omega)]
  omega
theorem rej_goal {σ : St} (hs : SS σ) {c : Nat} (hnx : sI σ 30 19 = I (0 : Nat)) (hc126 : c ≤ 126) (h1 : ¬ (isAt c = true ∨ c = 49 ∨ c = 84)) (h2 : c ≠ 33 ∧ c ≠ 40 ∧ c ≠ 91) : s_X11_reads 30 (I (c : Nat)) σ = some (0, σ) := by
  have e0 : ∀ n : Nat, n ≤ 126 → c ≠ n → ¬ (I (c : Nat) = (OfNat.ofNat n : Int32)) := fun n hn hne => by
    rw [I_lit, show (OfNat.ofNat n : Int) = (n : Int) from rfl, I_eq (by omega) (by omega)]
    omega
  rw [rds hs hnx (by omega), if_pos rfl]
  unfold s_X11_readGoal
  rw [q_letter (by omega), if_neg (fun q => h1 (Or.inl q)), bd_eq, if_pos rfl, if_neg (e0 33 (by omega) h2.1), if_neg (e0 40 (by omega) h2.2.1), if_neg (e0 49 (by omega) (fun q => h1 (Or.inr (Or.inl q)))), if_neg (e0 84 (by omega) (fun q => h1 (Or.inr (Or.inr q)))), if_neg (e0 91 (by omega) h2.2.2), bd_eq, if_pos zok0]
def MFault (ch : Nat → Nat) (s n F : Nat) : Prop := ∀ (σ : St) (p N lam sp : Nat) (w : Nat → Nat), MPre ch s n σ p N lam sp 0 0 w → 62 ≤ F + p → ¬ (pgoal ch F (64 * s + p)).1 = true → 64 * s ≤ (pgoal ch F (64 * s + p)).2.1 ∧ Stop s n σ p ((pgoal ch F (64 * s + p)).2.1 - 64 * s)
/-- no face here -/
theorem e_face {ch : Nat → Nat} {s n F : Nat} (hk : MFault ch s n F) {σ : St} {p N lam sp o f : Nat} {w : Nat → Nat} (h : HPre ch s n σ p N lam sp 3 0 w o f) (hf3 : f < 3) (hF : 62 ≤ F + p + 1) (hR : ¬ (pface (pgoal ch F) ch (64 * s + p)).1 = true) : 64 * s ≤ (pface (pgoal ch F) ch (64 * s + p)).2.1 ∧ Stop s n σ p ((pface (pgoal ch F) ch (64 * s + p)).2.1 - 64 * s) := by
  obtain ⟨hr, ⟨m1, m2, m3, m4, m5⟩, hp, hsp1, hsp2, hw, hw0, hlay, ho, hf, ho2⟩ := id h
  have hn60 := hr.2.2.1
  have h126 := hr.2.2.2.2.2.1
  by_cases hat : isAt (ch (64 * s + p)) = true
  · have hpn := h.lt hp (fun q => by rw [q] at hat; exact absurd hat (by decide))
    obtain ⟨σ1, a1, a2, a3, a4, a5⟩ := rg_head hr.1 m4 m3 hsp1 (by omega) m5 hlay ho hf hf3 (fun q => (ho2 q).1) (h126 _) hat
    have hb : ch (64 * s + p + 1) = 60 := by
      apply Decidable.byContradiction
      intro q
      unfold pface at hR
      rw [if_pos hat, if_neg q] at hR
      exact hR rfl
    have hR2 : pface (pgoal ch F) ch (64 * s + p) = pgoal ch F (64 * s + (p + 2)) := by
      unfold pface
      rw [if_pos hat, if_pos hb]
      rfl
    rw [hR2] at hR ⊢
    have hr1 : RM ch s n σ1 := hr.fr a2 (fun k => ⟨by unfold hdD hdC; omega, by unfold hdD hdC; omega⟩)
    have hw1 : WH w sp σ1 := fun j hj => by
      rw [a2.i 40 j (by unfold hdD hdC; omega)]
      exact hw j hj
    have b1 : sI σ1 30 5 = I (N : Nat) := by rw [a2.i 30 5 (by unfold hdD hdC; omega)]; exact m1
    have b2 : sI σ1 30 6 = I (lam : Nat) := by rw [a2.i 30 6 (by unfold hdD hdC; omega)]; exact m2
    have b3 : sI σ1 30 18 = I (sp : Nat) := by rw [a2.i 30 18 (by unfold hdD hdC; omega)]; exact m3
    have b5 : sI σ1 30 20 = I (0 : Nat) := by rw [a2.i 30 20 (by unfold hdD hdC; omega)]; exact m5
    have b42 : sI σ1 42 (sp - 1) = I (o : Nat) := by rw [a2.i 42 (sp - 1) (by unfold hdD hdC; omega)]; exact ho
    have hp1 : p + 1 < n := h.lt (q := p + 1) (by omega) (by rw [show 64 * s + (p + 1) = 64 * s + p + 1 by omega]; omega)
    have e1 : s_X11_reads 30 (I (ch (64 * s + (p + 1)) : Nat)) σ1 = some (1, setI (pushS σ1 sp 4 (-6) (I (o : Nat))) 30 19 0) := by
      rw [rg_behind hr1.1 a3 (Or.inl rfl) b3 hsp1 (by omega) b42 a4 (by omega) (hw1 (sp - 1) (by omega)).1 (hw1 (sp - 1) (by omega)).2 (h126 _), if_pos ⟨hb, rfl⟩]
    obtain ⟨f1, p1, p2, p3, p4, p5⟩ := push_fr σ1 sp 4 (-6) (I (o : Nat))
    obtain ⟨k1, ⟨k21, k22, k23, k24, k25⟩, k3, k4⟩ := push_pre (t := 4) hr1 ⟨b1, b2, b3, a3, b5⟩ hsp1 hw1 hw0 (by omega) (-6) (I (o : Nat))
    have f2 : Fr (fun a k => pushC sp a k ∨ (a = 30 ∧ k = 19)) σ1 (setI (pushS σ1 sp 4 (-6) (I (o : Nat))) 30 19 0) := (f1.mono (fun a k q => Or.inl q)).put _ (Or.inr ⟨rfl, rfl⟩)
    generalize hσ : setI (pushS σ1 sp 4 (-6) (I (o : Nat))) 30 19 0 = σ2 at e1 f2
    have r2 : ∀ a k, (a = 30 → k ≠ 19) → sI σ2 a k = sI (pushS σ1 sp 4 (-6) (I (o : Nat))) a k := fun a k q => by rw [← hσ, sIn (by omega)]
    have pre2 : MPre ch s n σ2 (p + 2) N lam (sp + 1) 0 0 (upW w sp 4) :=
      ⟨hr1.fr f2 (fun k => ⟨by unfold pushC; omega, by unfold pushC; omega⟩), ⟨by rw [r2 30 5 (by omega)]; exact k21, by rw [r2 30 6 (by omega)]; exact k22, by rw [r2 30 18 (by omega)]; exact k23, by rw [← hσ]; exact sIe, by rw [r2 30 20 (by omega)]; exact k25⟩, by omega, by omega, by omega, fun j hj => by rw [r2 40 j (by omega)]; exact k3 j hj, k4, hlay⟩
    obtain ⟨g1, g2⟩ := hk σ2 (p + 2) N lam (sp + 1) (upW w sp 4) pre2 (by omega) hR
    refine ⟨g1, Go.stop ((go1 hr hpn a1).trans (go1 hr1 hp1 e1)) (by omega) ((a2.mono ?_).trans (f2.mono ?_)) g2⟩
    · intro a k
      unfold hdD hdC mF
      omega
    · intro a k
      unfold pushC mF
      omega
  · have e : (pface (pgoal ch F) ch (64 * s + p)).2.1 = 64 * s + p := by unfold pface; rw [if_neg hat]
    rw [e, show 64 * s + p - 64 * s = p by omega]
    exact ⟨by omega, stopAt hr hp (fun _ => rej_head hr.1 m4 (h126 _) hat) m4 m3 hsp1 (by omega) (hw (sp - 1) (by omega)).1 (hw (sp - 1) (by omega)).2 (by omega)⟩
/-- a bar behind a face -/
theorem acc_bar {ch : Nat → Nat} {s n : Nat} {σ : St} {p N lam sp lay o : Nat} {w : Nat → Nat} (h : HPre ch s n σ p N lam sp 3 lay w o 0) {pos : Nat → Nat} {j q1 N1 lam1 : Nat} {σ1 : St} (ha : Acc ch s σ p N lam sp lay o pos j q1 N1 lam1 σ1) (hj : j < 3) (hq1 : q1 ≤ n) (hpq : p ≤ q1) (hc : ch (64 * s + q1) = 124) :
    ∃ σ2, Go s σ p σ2 (q1 + 1) ∧ Fr mF σ σ2 ∧ HPre ch s n σ2 (q1 + 1) N1 lam1 sp 3 lay w o j := by
  obtain ⟨hr, ⟨m1, m2, m3, m4, m5⟩, hp, hsp1, hsp2, hw, hw0, hlay, ho, hf, ho2⟩ := id h
  obtain ⟨a1, a2, ⟨nx, n1, n2, n3⟩, a4, aN, al, a5⟩ := ha
  have hn60 := hr.2.2.1
  have h126 := hr.2.2.2.2.2.1
  have hqn : q1 < n := h.lt hq1 (by omega)
  have cl : ∀ a k, a ≠ 30 → (a < 34 ∨ a = 40 ∨ a = 42) → (k < sp ∨ a < 40) → sI σ1 a k = sI σ a k := fun a k h1 h2 h3 => a2.i a k (by
    rintro (e | e)
    · have := mC_split e; omega
    · unfold hdO at e; omega)
  have hr1 : RM ch s n σ1 := hr.fr a2 (fun k => ⟨by rintro (e | e); have := mC_split e; omega; unfold hdO at e; omega, by rintro (e | e); have := mC_split e; omega; unfold hdO at e; omega⟩)
  have hw1 : WH w sp σ1 := fun i hi => by rw [cl 40 i (by omega) (by omega) (by omega)]; exact hw i hi
  have h42 : sI σ1 42 (sp - 1) = I (o : Nat) := by rw [cl 42 (sp - 1) (by omega) (by omega) (by omega)]; exact ho
  obtain ⟨k1, k2, k3, k4, k5⟩ := n3
  have e1 : s_X11_reads 30 (I (ch (64 * s + q1) : Nat)) σ1 = some (1, setI σ1 30 19 3) := by
    rw [rg_behind hr1.1 k4 n1 k3 hsp1 (by omega) h42 a4 (by omega) (hw1 (sp - 1) (by omega)).1 (hw1 (sp - 1) (by omega)).2 (h126 _), if_neg (by omega), if_pos ⟨hc, hj⟩]
  have f2 : Fr (fun a k => a = 30 ∧ k = 19) σ1 (setI σ1 30 19 3) := (Fr.refl σ1).put _ ⟨rfl, rfl⟩
  have r2 : ∀ a k, (a = 30 → k ≠ 19) → sI (setI σ1 30 19 3) a k = sI σ1 a k := fun a k hh => sIn (by omega)
  refine ⟨setI σ1 30 19 3, a1.trans (go1 hr1 hqn e1), (a2.mono ?_).trans (f2.mono ?_), hr1.fr f2 (fun k => ⟨by omega, by omega⟩), ⟨by rw [r2 30 5 (by omega)]; exact k1, by rw [r2 30 6 (by omega)]; exact k2, by rw [r2 30 18 (by omega)]; exact k3, sIe, by rw [r2 30 20 (by omega)]; exact k5⟩, by omega, hsp1, by omega, fun i hi => by rw [r2 40 i (by omega)]; exact hw1 i hi, hw0, hlay, by rw [r2 42 _ (by omega)]; exact h42, by rw [r2 43 _ (by omega)]; exact a4, fun e => ⟨(ho2 e).1, by have := (ho2 e).2; omega⟩⟩
  · rintro a k (e | e)
    · exact mF_mC e
    · exact mF_hdO e
  · rintro a k ⟨rfl, rfl⟩
    exact Or.inl ⟨rfl, by omega⟩
/-- no offer here -/
theorem e_off {ch : Nat → Nat} {s n F : Nat} (hk : MGoal ch s n F) (hkf : MFault ch s n F) {σ : St} {p N lam sp o : Nat} {w : Nat → Nat} (h : HPre ch s n σ p N lam sp 3 0 w o 0) (hF : 62 ≤ F + p + 1) (hR : ¬ (poff (pgoal ch F) ch (64 * s + p)).1 = true) : 64 * s ≤ (poff (pgoal ch F) ch (64 * s + p)).2.1 ∧ Stop s n σ p ((poff (pgoal ch F) ch (64 * s + p)).2.1 - 64 * s) := by
  have hr := h.1
  have hn60 := hr.2.2.1
  have hend := hr.2.2.2.2.2.2
  have hp := h.2.2.1
  have hpos := pface_pos (64 * s) n hend hn60 (pgoal_pos ch (64 * s) n hend hn60 F)
  have l0 : (0 : Nat) = 1 → ∀ a b : Nat, a ≤ 60 ∧ b ≤ 3 := fun q => by omega
  rcases poff_fails hR with ⟨h1, e⟩ | ⟨a1, ak, al, f1, c1, h2⟩
  · rw [e]; exact e_face hkf h (by omega) hF h1
  have p1 := hpos (64 * s + p) (by omega) (by omega)
  rw [f1] at p1
  dsimp only at p1
  have p1l := p1.2.2 rfl
  obtain ⟨A1, rfl⟩ : ∃ A1, a1 = 64 * s + A1 := ⟨a1 - 64 * s, by omega⟩
  obtain ⟨σ1, g1⟩ := acc_one hk h hF f1 (fun q => l0 q _ _) (fun i => if i = 0 then 64 * s + p else 64 * s + A1 + 1) rfl
  obtain ⟨σ2, k1, k2, k3⟩ := acc_bar h g1 (by omega) (by omega) (by omega) c1
  have hA1 : A1 < n := h.lt (by omega) (by omega)
  rcases h2 with ⟨h2, e⟩ | ⟨a2, ak2, al2, f2, c2, h3, e⟩
  · rw [e]
    obtain ⟨j1, j2⟩ := e_face hkf k3 (by omega) (by omega) h2
    exact ⟨j1, k1.stop (by omega) k2 j2⟩
  have p2 := hpos (64 * s + A1 + 1) (by omega) (by omega)
  rw [f2] at p2
  dsimp only at p2
  have p2l := p2.2.2 rfl
  obtain ⟨A2, rfl⟩ : ∃ A2, a2 = 64 * s + A2 := ⟨a2 - 64 * s, by omega⟩
  obtain ⟨σ3, g2⟩ := acc_more hk h g1 (by omega) (by omega) (by omega) (by omega) (by omega) c1 f2 (fun q => l0 q _ _) rfl
  obtain ⟨σ4, i1, i2, i3⟩ := acc_bar h g2 (by omega) (by omega) (by omega) c2
  have hA2 : A2 < n := h.lt (by omega) (by omega)
  rw [e]
  obtain ⟨j1, j2⟩ := e_face hkf i3 (by omega) (by omega) h3
  exact ⟨j1, i1.stop (by omega) i2 j2⟩
