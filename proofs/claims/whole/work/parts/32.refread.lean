/-! a whole text: where its fault is -/
def fG (ch : Nat → Nat) (s n : Nat) : Option Nat := if (G64 ch (64 * s)).1 = true ∧ (G64 ch (64 * s)).2.1 = 64 * s + n then none else some ((G64 ch (64 * s)).2.1 - 64 * s)
def fO (ch : Nat → Nat) (s n : Nat) : Option Nat := if (poff (G64 ch) ch (64 * s)).1 = true ∧ (poff (G64 ch) ch (64 * s)).2.1 = 64 * s + n then none else some ((poff (G64 ch) ch (64 * s)).2.1 - 64 * s)
def MB (σ : St) (N lam lay : Nat) : Prop := sI σ 30 5 = I (N : Nat) ∧ sI σ 30 6 = I (lam : Nat) ∧ sI σ 30 20 = I (lay : Nat)
theorem m_start {ch : Nat → Nat} {s n : Nat} {σ : St} {N lam lay t nx : Nat} (hr : RM ch s n σ) (hm : MB σ N lam lay) (o : Int32) :
    ∃ σ0, s_X11_push 30 (I (t : Nat)) (-6) o (setI σ 30 18 0) = some ((), σ0) ∧ isO σ0 11 30 = true ∧ RM ch s n (setI σ0 30 19 (I (nx : Nat))) ∧ MA (setI σ0 30 19 (I (nx : Nat))) N lam 1 nx lay ∧ sI (setI σ0 30 19 (I (nx : Nat))) 40 0 = I (t : Nat) ∧ sI (setI σ0 30 19 (I (nx : Nat))) 42 0 = o ∧ sI (setI σ0 30 19 (I (nx : Nat))) 43 0 = I (0 : Nat) ∧
      Fr (fun a k => (40 ≤ a ∧ a ≤ 43 ∧ k = 0) ∨ (a = 30 ∧ (k = 18 ∨ k = 19))) σ (setI σ0 30 19 (I (nx : Nat))) := by
  obtain ⟨m1, m2, m5⟩ := hm
  have hs0 := hr.1.i 30 18 0
  have e0 : sI (setI σ 30 18 0) 30 18 = I (0 : Nat) := sIe
  obtain ⟨f, p1, p2, p3, p4, p5⟩ := push_fr (setI σ 30 18 0) 0 (I (t : Nat)) (-6) o
  have f0 : Fr (fun a k => (40 ≤ a ∧ a ≤ 43 ∧ k = 0) ∨ (a = 30 ∧ (k = 18 ∨ k = 19))) σ (setI (pushS (setI σ 30 18 0) 0 (I (t : Nat)) (-6) o) 30 19 (I (nx : Nat))) := by
    refine (((Fr.refl σ).put _ (Or.inr ⟨rfl, Or.inl rfl⟩)).trans (f.mono ?_)).put _ (Or.inr ⟨rfl, Or.inr rfl⟩)
    intro a k
    unfold pushC
    omega
  refine ⟨pushS (setI σ 30 18 0) 0 (I (t : Nat)) (-6) o, q_push hs0 e0 (by omega) _ _ _, (f.ss hs0).o 11 30 (by decide), hr.fr f0 (fun k => by omega), ⟨by rw [f0.i 30 5 (by omega)]; exact m1, by rw [f0.i 30 6 (by omega)]; exact m2, by rw [sIn (by omega)]; exact p5, sIe, by rw [f0.i 30 20 (by omega)]; exact m5⟩, by rw [sIn (by omega)]; exact p1, by rw [sIn (by omega)]; exact p3, by rw [sIn (by omega)]; exact p4, f0⟩
theorem read_g {s : Nat} {σ σ0 : St} (hs : SS σ) (h1 : s_X11_push 30 (I (0 : Nat)) (-6) (I (-6)) (setI σ 30 18 0) = some ((), σ0)) (h2 : isO σ0 11 30 = true) : s_X11_read 30 (I (s : Nat)) (I (-6)) σ = LPr s 16000 0 (setI σ0 30 19 (I (0 : Nat))) := by
  unfold s_X11_read
  rw [if_pos (hs.o 11 30 (by decide)), lt_eq, if_neg (by rw [I_lit, I_le (by omega) (by omega)]; omega)]
  unfold s_X11_read_15
  rw [if_pos ((hs.i 30 18 0).o 11 30 (by decide)), show (0 : Int32) = I ((0 : Nat) : Int) from rfl, show (I ((0 : Nat) : Int)) = (0 : Int32) from rfl]
  have h1' : s_X11_push 30 0 (-6) (I (-6)) (setI σ 30 18 0) = some ((), σ0) := h1
  rw [h1', bd_eq, if_neg (by rw [I_lit, I_le (by omega) (by omega)]; omega), if_pos h2, lt_eq]
  rfl
theorem read_o {s o : Nat} (ho : o < 100) {σ σ0 : St} (hs : SS σ) (h1 : s_X11_push 30 (I (5 : Nat)) (-6) (I (o : Nat)) (setI σ 30 18 0) = some ((), σ0)) (h2 : isO σ0 11 30 = true) : s_X11_read 30 (I (s : Nat)) (I (o : Nat)) σ = LPr s 16000 0 (setI σ0 30 19 (I (3 : Nat))) := by
  unfold s_X11_read
  rw [if_pos (hs.o 11 30 (by decide)), lt_eq, if_pos (by rw [I_lit, I_le (by omega) (by omega)]; omega)]
  unfold s_X11_read_15
  rw [if_pos ((hs.i 30 18 0).o 11 30 (by decide))]
  have h1' : s_X11_push 30 5 (-6) (I (o : Nat)) (setI σ 30 18 0) = some ((), σ0) := h1
  rw [h1', bd_eq, if_pos (by rw [I_lit, I_le (by omega) (by omega)]; omega), if_pos h2, lt_eq]
  rfl
theorem G64_F {ch : Nat → Nat} {s n F : Nat} {σ : St} (hr : RM ch s n σ) (hF : 62 ≤ F) : pgoal ch F (64 * s) = G64 ch (64 * s) := pgoal_fuel ch (64 * s) n hr.2.2.2.2.2.2 hr.2.2.1 F 64 (64 * s) (by omega) (by omega) (by omega) (by omega)
/-- a text read as a goal, whole -/
theorem r_goal {ch : Nat → Nat} {s n : Nat} {σ : St} {N lam lay : Nat} (hr : RM ch s n σ) (hm : MB σ N lam lay) (hlay : lay ≤ 1) (hf : fG ch s n = none) (hl : lay = 1 → N + (G64 ch (64 * s)).2.2.1 ≤ 60 ∧ lam + (G64 ch (64 * s)).2.2.2 ≤ 3) :
    ∃ σ', s_X11_read 30 (I (s : Nat)) (I (-6)) σ = some (I (-6), σ') ∧ Fr (mC N 0 (N + (G64 ch (64 * s)).2.2.1) lam (lam + (G64 ch (64 * s)).2.2.2) (30, 10)) σ σ' ∧ MB σ' (N + (G64 ch (64 * s)).2.2.1) (lam + (G64 ch (64 * s)).2.2.2) lay ∧
      (lay = 1 → lam = cntB ch (64 * s) → s < 10 → sI σ' 30 10 = I (N : Nat) ∧ ∀ κ, ∃ κ', κ' N = 64 * s ∧ LayM ch κ κ' σ' N (N + (G64 ch (64 * s)).2.2.1) lam (lam + (G64 ch (64 * s)).2.2.2)) := by
  have hn60 := hr.2.2.1
  have ⟨f1, f2⟩ : (G64 ch (64 * s)).1 = true ∧ (G64 ch (64 * s)).2.1 = 64 * s + n := by
    unfold fG at hf
    apply Decidable.byContradiction
    intro q
    rw [if_neg q] at hf
    cases hf
  obtain ⟨σ0, a1, a2, a3, a4, a5, a6, a7, a8⟩ := m_start (t := 0) (nx := 0) hr hm (I (-6))
  have hw : WH (fun _ => 0) 1 (setI σ0 30 19 (I (0 : Nat))) := fun j hj => by
    obtain rfl : j = 0 := by omega
    exact ⟨a5, by decide⟩
  have pre : MPre ch s n (setI σ0 30 19 (I (0 : Nat))) 0 N lam 1 0 lay (fun _ => 0) := ⟨a3, a4, by omega, by omega, by omega, hw, by decide, hlay⟩
  obtain ⟨σ1, b1, b2, b3, b4⟩ := (m_goal ch s n 64 _ 0 N lam 1 lay (fun _ => 0) 0 pre (by omega) (fun _ => Or.inl rfl)).1 f1 hl
  have e : pgoal ch 64 (64 * s + 0) = G64 ch (64 * s) := rfl
  rw [e] at b1 b2 b3 b4
  have b2' : Fr (mC N 1 (N + (G64 ch (64 * s)).2.2.1) lam (lam + (G64 ch (64 * s)).2.2.2) (30, 10)) (setI σ0 30 19 (I (0 : Nat))) σ1 := b2
  have hr1 : RM ch s n σ1 := a3.fr b2' (fun k => ⟨mC_not (by omega) (by show ¬ (31 = 30 ∧ _); omega) (by omega) (by omega) (by omega) (by omega), mC_not (by omega) (by show ¬ (32 = 30 ∧ _); omega) (by omega) (by omega) (by omega) (by omega)⟩)
  obtain ⟨m1, m2, m3, m4, m5⟩ := b3
  have m3 : sI σ1 30 18 = I (1 : Nat) := m3
  have m4 : sI σ1 30 19 = I (6 : Nat) := m4
  have h40 : sI σ1 40 (1 - 1) = I (0 : Nat) := by
    rw [b2'.i 40 _ (mC_not (by omega) (by show ¬ (40 = 30 ∧ _); omega) (by omega) (by omega) (by omega) (by omega))]
    exact a5
  refine ⟨σ1, ?_, (a8.mono ?_).trans (b2'.mono (mC_sub (t' := (30, 10)) (by omega) mC_t)), ⟨m1, m2, m5⟩, fun q1 q2 q3 => b4 q1 q2 q3⟩
  · rw [read_g hr.1 a1 a2]
    have g := b1.2 (16000 - n)
    rw [f2, show 64 * s + n - 64 * s = n by omega, show 16000 - n + (n - 0) = 16000 by omega, show 16000 - n = 15999 - n + 1 by omega, rd_end hr1 m4 (by omega) m3 (by omega) (by omega) h40 (by omega)] at g
    exact g
  · rintro a k (⟨h1, h2, rfl⟩ | ⟨rfl, h2⟩)
    · exact Or.inr (Or.inr (Or.inr (Or.inr (Or.inr ⟨h1, h2, by omega⟩))))
    · exact Or.inl ⟨rfl, by omega⟩
/-- a text read as a goal, with a fault -/
theorem r_goal_f {ch : Nat → Nat} {s n f : Nat} {σ : St} {N lam : Nat} (hr : RM ch s n σ) (hm : MB σ N lam 0) (hf : fG ch s n = some f) : ∃ σ', s_X11_read 30 (I (s : Nat)) (I (-6)) σ = some (I (f : Nat), σ') ∧ Fr mF σ σ' := by
  have hn60 := hr.2.2.1
  have hend := hr.2.2.2.2.2.2
  obtain ⟨σ0, a1, a2, a3, a4, a5, a6, a7, a8⟩ := m_start (t := 0) (nx := 0) hr hm (I (-6))
  have hw : WH (fun _ => 0) 1 (setI σ0 30 19 (I (0 : Nat))) := fun j hj => by
    obtain rfl : j = 0 := by omega
    exact ⟨a5, by decide⟩
  have pre : MPre ch s n (setI σ0 30 19 (I (0 : Nat))) 0 N lam 1 0 0 (fun _ => 0) := ⟨a3, a4, by omega, by omega, by omega, hw, by decide, by omega⟩
  have e : pgoal ch 64 (64 * s + 0) = G64 ch (64 * s) := rfl
  have a8F : Fr mF σ (setI σ0 30 19 (I (0 : Nat))) := a8.mono (by
    intro a k
    unfold mF
    omega)
  have fin : Stop s n (setI σ0 30 19 (I (0 : Nat))) 0 f → ∃ σ', s_X11_read 30 (I (s : Nat)) (I (-6)) σ = some (I (f : Nat), σ') ∧ Fr mF σ σ' := by
    rintro ⟨σ', h1, h2⟩
    have := h1 (15999 - n)
    rw [show 15999 - n + (n - 0) + 1 = 16000 by omega] at this
    exact ⟨σ', by rw [read_g hr.1 a1 a2]; exact this, a8F.trans h2⟩
  unfold fG at hf
  by_cases c1 : (G64 ch (64 * s)).1 = true
  · by_cases c2 : (G64 ch (64 * s)).2.1 = 64 * s + n
    · rw [if_pos ⟨c1, c2⟩] at hf; cases hf
    rw [if_neg (fun q => c2 q.2)] at hf
    cases hf
    obtain ⟨σ1, b1, b2, b3, b4⟩ := (m_goal ch s n 64 _ 0 N lam 1 0 (fun _ => 0) 0 pre (by omega) (fun _ => Or.inl rfl)).1 c1 (fun q => by omega)
    rw [e] at b1 b2 b3
    have hpos := pgoal_pos ch (64 * s) n hend hn60 64 (64 * s) (by omega) (by omega)
    have hpos' : (G64 ch (64 * s)).2.1 ≤ 64 * s + n := hpos.2.1
    have hpos0 : 64 * s ≤ (G64 ch (64 * s)).2.1 := hpos.1
    have hr1 : RM ch s n σ1 := a3.fr b2 (fun k => ⟨mC_not (by omega) (by show ¬ (31 = 30 ∧ _); omega) (by omega) (by omega) (by omega) (by omega), mC_not (by omega) (by show ¬ (32 = 30 ∧ _); omega) (by omega) (by omega) (by omega) (by omega)⟩)
    obtain ⟨m1, m2, m3, m4, m5⟩ := b3
    have h40 : sI σ1 40 (1 - 1) = I (0 : Nat) := by
      rw [b2.i 40 _ (mC_not (by omega) (by show ¬ (40 = 30 ∧ _); omega) (by omega) (by omega) (by omega) (by omega))]
      exact a5
    refine fin (b1.stop (by omega) b2.up ?_)
    refine ⟨σ1, fun m => ?_, Fr.refl _⟩
    rw [show m + (n - ((G64 ch (64 * s)).2.1 - 64 * s)) + 1 = (m + (n - ((G64 ch (64 * s)).2.1 - 64 * s))) + 1 by omega]
    unfold LPr
    rw [rd_step hr1 (by omega), rds hr1.1 m4 (by show 6 ≤ 6; omega)]
    rfl
  · rw [if_neg (fun q => c1 q.1)] at hf
    cases hf
    exact fin ((m_fault ch s n 64 _ 0 N lam 1 (fun _ => 0) pre (by omega) c1).2)
/-- a text read as an offer, whole -/
theorem r_off {ch : Nat → Nat} {s n o : Nat} {σ : St} {N lam lay : Nat} (hr : RM ch s n σ) (hm : MB σ N lam lay) (hlay : lay ≤ 1) (hf : fO ch s n = none) (ho : o < 12) (ho2 : lay = 1 → o < 5 + lam ∨ 8 ≤ o) (hl : lay = 1 → N + (poff (G64 ch) ch (64 * s)).2.2.1 ≤ 60 ∧ lam + (poff (G64 ch) ch (64 * s)).2.2.2 ≤ 3) :
    ∃ σ', s_X11_read 30 (I (s : Nat)) (I (o : Nat)) σ = some (I (-6), σ') ∧ Fr (fun a k => mC N 0 (N + (poff (G64 ch) ch (64 * s)).2.2.1) lam (lam + (poff (G64 ch) ch (64 * s)).2.2.2) (30, 5) a k ∨ hdO o 1 a k) σ σ' ∧ MB σ' (N + (poff (G64 ch) ch (64 * s)).2.2.1) (lam + (poff (G64 ch) ch (64 * s)).2.2.2) lay ∧
      (lay = 1 → lam = cntB ch (64 * s) → s < 10 → ∀ κ, ∃ κ', LayM ch κ κ' σ' N (N + (poff (G64 ch) ch (64 * s)).2.2.1) lam (lam + (poff (G64 ch) ch (64 * s)).2.2.2) ∧ ∀ f, f < 3 → faceM ch κ' (N + (poff (G64 ch) ch (64 * s)).2.2.1) σ' o f (fpos ch (64 * s) f)) := by
  have hn60 := hr.2.2.1
  have ⟨f1, f2⟩ : (poff (G64 ch) ch (64 * s)).1 = true ∧ (poff (G64 ch) ch (64 * s)).2.1 = 64 * s + n := by
    unfold fO at hf
    apply Decidable.byContradiction
    intro q
    rw [if_neg q] at hf
    cases hf
  obtain ⟨σ0, a1, a2, a3, a4, a5, a6, a7, a8⟩ := m_start (t := 5) (nx := 3) hr hm (I (o : Nat))
  have hw : WH (fun _ => 5) 1 (setI σ0 30 19 (I (3 : Nat))) := fun j hj => by
    obtain rfl : j = 0 := by omega
    exact ⟨a5, by decide⟩
  have pre : HPre ch s n (setI σ0 30 19 (I (3 : Nat))) 0 N lam 1 3 lay (fun _ => 5) o 0 := ⟨a3, a4, by omega, by omega, by omega, hw, by decide, hlay, a6, a7, fun q => ⟨ho, ho2 q⟩⟩
  rcases hR : poff (G64 ch) ch (64 * s) with ⟨rb, rq, rk, rl⟩
  rw [hR] at f1 f2 hl
  dsimp only at f1 f2 hl
  subst f1
  obtain ⟨σ1, pos, j, q, hq, hq0, hqn, hA, hj1, hj3, hj4, hfp⟩ := m_off (m_goal ch s n 64) pre (by omega) (hR : poff (pgoal ch 64) ch (64 * s + 0) = _) hl
  obtain ⟨b1, b2, ⟨nx, n1, n2, n3⟩, b4, bN, bl, b5⟩ := hA
  obtain rfl : q = n := by omega
  obtain ⟨m1, m2, m3, m4, m5⟩ := n3
  have cl : ∀ a k, a = 31 ∨ a = 32 ∨ (a = 40 ∧ k < 1) → sI σ1 a k = sI (setI σ0 30 19 (I (3 : Nat))) a k := fun a k hh => b2.i a k (by
    rintro (e | e)
    · have := mC_split e; omega
    · unfold hdO at e; omega)
  have hr1 : RM ch s q σ1 := a3.fr b2 (fun k => ⟨by rintro (e | e); have := mC_split e; omega; unfold hdO at e; omega, by rintro (e | e); have := mC_split e; omega; unfold hdO at e; omega⟩)
  refine ⟨σ1, ?_, (a8.mono ?_).trans (b2.mono ?_), ⟨m1, m2, m5⟩, fun q1 q2 q3 κ => ?_⟩
  · rw [read_o (by omega) hr.1 a1 a2]
    have g := b1.2 (16000 - q)
    rw [show 16000 - q + (q - 0) = 16000 by omega, show 16000 - q = 15999 - q + 1 by omega, rd_end hr1 m4 (by omega) m3 (by omega) (by omega) (wt := 5) (by rw [cl 40 _ (by omega)]; exact a5) (by omega), if_pos (Or.inr ⟨n1, rfl⟩)] at g
    exact g
  · rintro a k (⟨h1, h2, rfl⟩ | ⟨rfl, h2⟩)
    · exact Or.inl (Or.inr (Or.inr (Or.inr (Or.inr (Or.inr ⟨h1, h2, by omega⟩)))))
    · exact Or.inl (Or.inl ⟨rfl, by omega⟩)
  · rintro a k (e | e)
    · exact Or.inl (mC_sub (t' := (30, 5)) (by dsimp only; omega) mC_t a k e)
    · exact Or.inr e
  · obtain ⟨u0, u1, u2⟩ := b5 q1 q2 q3
    obtain ⟨κ', i1, i2⟩ := u2 κ
    exact ⟨κ', i1, acc_face u1 hj3 i2 hfp⟩
/-- a text read as an offer, with a fault -/
theorem r_off_f {ch : Nat → Nat} {s n f o : Nat} {σ : St} {N lam : Nat} (hr : RM ch s n σ) (hm : MB σ N lam 0) (ho : o < 12) (hf : fO ch s n = some f) : ∃ σ', s_X11_read 30 (I (s : Nat)) (I (o : Nat)) σ = some (I (f : Nat), σ') ∧ Fr mF σ σ' := by
  have hn60 := hr.2.2.1
  have hend := hr.2.2.2.2.2.2
  have h126 := hr.2.2.2.2.2.1
  obtain ⟨σ0, a1, a2, a3, a4, a5, a6, a7, a8⟩ := m_start (t := 5) (nx := 3) hr hm (I (o : Nat))
  have hw : WH (fun _ => 5) 1 (setI σ0 30 19 (I (3 : Nat))) := fun j hj => by
    obtain rfl : j = 0 := by omega
    exact ⟨a5, by decide⟩
  have pre : HPre ch s n (setI σ0 30 19 (I (3 : Nat))) 0 N lam 1 3 0 (fun _ => 5) o 0 := ⟨a3, a4, by omega, by omega, by omega, hw, by decide, by omega, a6, a7, fun q => by omega⟩
  have a8F : Fr mF σ (setI σ0 30 19 (I (3 : Nat))) := a8.mono (by
    intro a k
    unfold mF
    omega)
  have fin : Stop s n (setI σ0 30 19 (I (3 : Nat))) 0 f → ∃ σ', s_X11_read 30 (I (s : Nat)) (I (o : Nat)) σ = some (I (f : Nat), σ') ∧ Fr mF σ σ' := by
    rintro ⟨σ', h1, h2⟩
    have := h1 (15999 - n)
    rw [show 15999 - n + (n - 0) + 1 = 16000 by omega] at this
    exact ⟨σ', by rw [read_o (by omega) hr.1 a1 a2]; exact this, a8F.trans h2⟩
  unfold fO at hf
  by_cases c1 : (poff (G64 ch) ch (64 * s)).1 = true
  · rcases hR : poff (G64 ch) ch (64 * s) with ⟨rb, rq, rk, rl⟩
    rw [hR] at c1 hf
    dsimp only at c1
    subst c1
    by_cases c2 : rq = 64 * s + n
    · rw [if_pos ⟨rfl, c2⟩] at hf; cases hf
    rw [if_neg (fun q => c2 q.2)] at hf
    cases hf
    obtain ⟨σ1, pos, j, q, hq, hq0, hqn, hA, hj1, hj3, hj4, hfp⟩ := m_off (m_goal ch s n 64) pre (by omega) (hR : poff (pgoal ch 64) ch (64 * s + 0) = _) (fun q => by omega)
    obtain ⟨b1, b2, ⟨nx, n1, n2, n3⟩, b4, bN, bl, b5⟩ := hA
    obtain ⟨m1, m2, m3, m4, m5⟩ := n3
    subst hq
    have hqn' : q < n := by omega
    have cl : ∀ a k, a = 31 ∨ a = 32 ∨ ((a = 40 ∨ a = 42) ∧ k < 1) → sI σ1 a k = sI (setI σ0 30 19 (I (3 : Nat))) a k := fun a k hh => b2.i a k (by
      rintro (e | e)
      · have := mC_split e; omega
      · unfold hdO at e; omega)
    have hr1 : RM ch s n σ1 := a3.fr b2 (fun k => ⟨by rintro (e | e); have := mC_split e; omega; unfold hdO at e; omega, by rintro (e | e); have := mC_split e; omega; unfold hdO at e; omega⟩)
    have b2F : Fr mF (setI σ0 30 19 (I (3 : Nat))) σ1 := b2.mono (by
      rintro a k (e | e)
      · exact mF_mC e
      · exact mF_hdO e)
    rw [show 64 * s + q - 64 * s = q by omega] at fin ⊢
    refine fin (b1.stop hqn b2F ⟨σ1, fun m => ?_, Fr.refl _⟩)
    rw [show m + (n - q) + 1 = (m + (n - q)) + 1 by omega]
    unfold LPr
    have h40 : sI σ1 40 (1 - 1) = I (5 : Nat) := by rw [cl 40 _ (by omega)]; exact a5
    have h42 : sI σ1 42 (1 - 1) = I (o : Nat) := by rw [cl 42 _ (by omega)]; exact a6
    rw [rd_step hr1 hqn', rg_behind hr1.1 m4 n1 m3 (by omega) (by omega) h42 b4 hj3 h40 (by omega) (h126 _), if_neg (fun y => n2 y.2 y.1), if_neg (fun y => by have := hj4 y.1; omega), if_neg (by omega)]
    rfl
  · rw [if_neg (fun q => c1 q.1)] at hf
    cases hf
    exact fin (e_off (m_goal ch s n 64) (m_fault ch s n 64) pre (by omega) c1).2
