def pushC (sp : Nat) : Nat → Nat → Prop := fun a k => (40 ≤ a ∧ a ≤ 43 ∧ k = sp) ∨ (a = 30 ∧ k = 18)
def upW (w : Nat → Nat) (sp t : Nat) : Nat → Nat := fun j => if j = sp then t else w j
theorem upW_top (w : Nat → Nat) (sp t : Nat) : upW w sp t (sp + 1 - 1) = t := by unfold upW; rw [if_pos (by omega)]
theorem cmp_up (w : Nat → Nat) (sp t : Nat) : cmp (upW w sp t) sp = cmp w sp := cmp_congr (fun j hj => by unfold upW; rw [if_neg (by omega)])
theorem cmp_upW (w : Nat → Nat) (sp t : Nat) : cmp (upW w sp t) (sp + 1) = if t = 3 then cmp w sp else if t = 0 then (sp + 1, 6) else if t = 1 then (sp + 1, 1) else if t = 2 then (sp + 1, 2) else (sp, 5) := by
  show (if upW w sp t sp = 3 then cmp (upW w sp t) sp else if upW w sp t sp = 0 then (sp + 1, 6) else if upW w sp t sp = 1 then (sp + 1, 1) else if upW w sp t sp = 2 then (sp + 1, 2) else (sp, 5)) = _
  rw [cmp_up, show upW w sp t sp = t by unfold upW; rw [if_pos rfl]]
theorem push_fr (σ : St) (sp : Nat) (a b c : Int32) : Fr (pushC sp) σ (pushS σ sp a b c) ∧ sI (pushS σ sp a b c) 40 sp = a ∧ sI (pushS σ sp a b c) 41 sp = b ∧ sI (pushS σ sp a b c) 42 sp = c ∧ sI (pushS σ sp a b c) 43 sp = 0 ∧ sI (pushS σ sp a b c) 30 18 = I ((sp + 1 : Nat) : Int) := by
  refine ⟨?_, ?_, ?_, ?_, ?_, ?_⟩
  · unfold pushS
    exact (((((Fr.refl σ).put _ (Or.inl ⟨by omega, by omega, rfl⟩)).put _ (Or.inl ⟨by omega, by omega, rfl⟩)).put _ (Or.inl ⟨by omega, by omega, rfl⟩)).put _ (Or.inl ⟨by omega, by omega, rfl⟩)).put _ (Or.inr ⟨rfl, rfl⟩)
  · unfold pushS; rw [sIn (by omega), sIn (by omega), sIn (by omega), sIn (by omega), sIe]
  · unfold pushS; rw [sIn (by omega), sIn (by omega), sIn (by omega), sIe]
  · unfold pushS; rw [sIn (by omega), sIn (by omega), sIe]
  · unfold pushS; rw [sIn (by omega), sIe]
  · unfold pushS; exact sIe
theorem push_pre {ch : Nat → Nat} {s n : Nat} {σ : St} {N lam sp nx lay t : Nat} {w : Nat → Nat} (hr : RM ch s n σ) (hm : MA σ N lam sp nx lay) (h1 : 1 ≤ sp) (hw : WH w sp σ) (hw0 : w 0 ≠ 3) (ht : t ≤ 6) (b c : Int32) :
    RM ch s n (pushS σ sp (I (t : Nat)) b c) ∧ MA (pushS σ sp (I (t : Nat)) b c) N lam (sp + 1) nx lay ∧ WH (upW w sp t) (sp + 1) (pushS σ sp (I (t : Nat)) b c) ∧ upW w sp t 0 ≠ 3 := by
  obtain ⟨f, p1, p2, p3, p4, p5⟩ := push_fr σ sp (I (t : Nat)) b c
  obtain ⟨m1, m2, m3, m4, m5⟩ := hm
  refine ⟨hr.fr f (fun k => by unfold pushC; omega), ⟨?_, ?_, p5, ?_, ?_⟩, fun j hj => ?_, ?_⟩
  · rw [f.i 30 5 (by unfold pushC; omega)]; exact m1
  · rw [f.i 30 6 (by unfold pushC; omega)]; exact m2
  · rw [f.i 30 19 (by unfold pushC; omega)]; exact m4
  · rw [f.i 30 20 (by unfold pushC; omega)]; exact m5
  · unfold upW
    by_cases c1 : j = sp
    · subst c1; rw [if_pos rfl]; exact ⟨p1, ht⟩
    · rw [if_neg c1, f.i 40 j (by unfold pushC; omega)]; exact hw j (by omega)
  · unfold upW; rw [if_neg (by omega)]; exact hw0
/-- a goal that has further goals begins: its node, and what is open then -/
theorem m_open {ch : Nat → Nat} {s n : Nat} {σ : St} {p N lam sp lay x : Nat} {w : Nat → Nat} (h : MPre ch s n σ p N lam sp 0 lay w) (hpn : p < n) (hl : lay = 1 → N < 60 ∧ TF σ sp (w (sp - 1)) x N lam) (kind one : Int32) (t : Nat) (ht : t = 1 ∨ t = 3) :
    ∃ σ1 σ2, s_X11_begin 30 kind one σ = some (I (N : Nat), σ1) ∧ isO σ1 11 30 = true ∧ s_X11_push 30 (I (t : Nat)) (I (N : Nat)) (-6) σ1 = some ((), σ2) ∧ MPre ch s n σ2 (p + 1) (N + 1) lam (sp + 1) 0 lay (upW w sp t) ∧ (lay = 1 → TF σ2 (sp + 1) (upW w sp t (sp + 1 - 1)) N (N + 1) lam) ∧
      Fr (mC N sp (N + 1) lam lam (tg (w (sp - 1)) x)) σ σ2 ∧ (lay = 1 → sI σ2 34 N = kind ∧ sI σ2 36 N = I (-6) ∧ sI σ2 (tg (w (sp - 1)) x).1 (tg (w (sp - 1)) x).2 = I (N : Nat)) ∧ sI σ2 41 sp = I (N : Nat) := by
  obtain ⟨σ1, b1, b2, b3, b4⟩ := q_begin h hl kind one
  obtain ⟨hr, ⟨m1, m2, m3, m4, m5⟩, hp, h1, h2, hw, hw0, hlay⟩ := id h
  have hn := hr.2.2.1
  have htn := @tg_ne (w (sp - 1)) x
  have hr1 : RM ch s n σ1 := hr.fr b2 (fun k => by unfold begC; omega)
  have hm1 : MA σ1 (N + 1) lam sp 0 lay := ⟨b3, by rw [b2.i 30 6 (by unfold begC; omega)]; exact m2, by rw [b2.i 30 18 (by unfold begC; omega)]; exact m3, by rw [b2.i 30 19 (by unfold begC; omega)]; exact m4, by rw [b2.i 30 20 (by unfold begC; omega)]; exact m5⟩
  have hw1 : WH w sp σ1 := fun j hj => by
    rw [b2.i 40 j (by unfold begC; omega)]
    exact hw j hj
  obtain ⟨f, p1, p2, p3, p4, p5⟩ := push_fr σ1 sp (I (t : Nat)) (I (N : Nat)) (-6)
  obtain ⟨k1, k2, k3, k4⟩ := push_pre (t := t) hr1 hm1 h1 hw1 hw0 (by omega) (I (N : Nat)) (-6)
  refine ⟨σ1, pushS σ1 sp (I (t : Nat)) (I (N : Nat)) (-6), b1, hr1.1.o 11 30 (by decide), q_push hr1.1 hm1.2.2.1 (by omega) _ _ _, ⟨k1, k2, by omega, by omega, by omega, k3, k4, hlay⟩, fun q => ?_, (b2.mono ?_).trans (f.mono ?_), fun q => ?_, p2⟩
  · rw [upW_top]
    exact Or.inr (Or.inl ⟨by omega, p2, by omega⟩)
  · intro a k
    unfold begC mC
    omega
  · intro a k
    unfold pushC mC
    omega
  · obtain ⟨d1, d2, d3, d4⟩ := b4 q
    refine ⟨by rw [f.i 34 N (by unfold pushC; omega)]; exact d1, by rw [f.i 36 N (by unfold pushC; omega)]; exact d3, ?_⟩
    rw [f.i _ _ (by unfold pushC; omega)]
    exact d4
theorem Fr.up {σ σ' : St} {N sp N' lam lam' : Nat} {w x : Nat} (h : Fr (mC N sp N' lam lam' (tg w x)) σ σ') : Fr mF σ σ' := h.mono (fun a k => by
  have htn := @tg_ne w x
  unfold mC mF
  omega)
/-- what a bang's goal begins -/
theorem rg_bang {ch : Nat → Nat} {s p : Nat} {σ σ1 σ2 : St} {N : Nat} (hs : SS σ) (hnx : sI σ 30 19 = I (0 : Nat)) (hc : ch (64 * s + p) = 33) (b1 : s_X11_begin 30 3 (-6) σ = some (I (N : Nat), σ1)) (b2 : isO σ1 11 30 = true) (b3 : s_X11_push 30 (I (3 : Nat)) (I (N : Nat)) (-6) σ1 = some ((), σ2)) : s_X11_reads 30 (I (ch (64 * s + p) : Nat)) σ = some (1, σ2) := by
  rw [rds hs hnx (by omega), if_pos rfl, hc]
  unfold s_X11_readGoal
  rw [q_letter (by omega), if_neg (by decide), bd_eq, if_pos rfl, if_pos (by decide), if_pos (hs.o 11 30 (by decide)), b1, bd_eq, if_pos b2, show (3 : Int32) = I ((3 : Nat) : Int) from rfl, b3, bd_eq, bd_eq, if_pos zok1]
theorem pgoal_one (ch : Nat → Nat) (F p : Nat) (h : (pgoal ch F p).1 = true) : 1 ≤ (pgoal ch F p).2.2.1 := by
  cases F with
  | zero => cases h
  | succ F =>
    rcases pgoal_cases h with ⟨_, e⟩ | ⟨_, q, k, l, _, e⟩ | ⟨_, q1, k1, l1, q2, k2, l2, _, _, _, _, e⟩ | ⟨_, q1, k1, l1, q2, k2, l2, _, _, _, e⟩ <;> rw [e] <;> dsimp only <;> omega
theorem m_bang {ch : Nat → Nat} {s n F : Nat} (hk : MGoal ch s n F) {σ : St} {p N lam sp lay x q k l : Nat} {w : Nat → Nat} (h : MPre ch s n σ p N lam sp 0 lay w) (hF : 62 ≤ F + 1 + p) (ht : lay = 1 → TF σ sp (w (sp - 1)) x N lam) (hc : ch (64 * s + p) = 33) (hg : pgoal ch F (64 * s + p + 1) = (true, q, k, l)) : MOK ch s σ p N lam sp lay w x (true, q, k + 1, l) := by
  intro hl
  dsimp only at hl ⊢
  have hpn := h.lt (by omega)
  have hr := h.1
  have hg' : pgoal ch F (64 * s + (p + 1)) = (true, q, k, l) := hg
  have hk1 := pgoal_one ch F (64 * s + (p + 1)) (by rw [hg'])
  rw [hg'] at hk1
  dsimp only at hk1
  obtain ⟨σ1, σ2, b1, b2, b3, b4, b5, b6, b7, b8⟩ := m_open h hpn (fun q => ⟨by have := hl q; omega, ht q⟩) 3 (-6) 3 (Or.inr rfl)
  have k1 := (hk σ2 (p + 1) (N + 1) lam (sp + 1) lay (upW w sp 3) N b4 (by omega) b5).1 (by rw [hg'])
  rw [hg'] at k1
  obtain ⟨σ3, g1, g2, g3, g4⟩ := k1 (fun q => by have := hl q; dsimp only; omega)
  dsimp only at g1 g2 g3 g4
  rw [upW_top] at g2 g4
  rw [cmp_upW, if_pos rfl] at g3
  have e30 : ∀ a, a = 34 ∨ a = 36 → sI σ3 a N = sI σ2 a N := fun a ha => g2.i a N (mC_not (by omega) (by show ¬ (a = 35 ∧ _); omega) (by omega) (by omega) (by omega) (by omega))
  have eN : N + (k + 1) = N + 1 + k := by omega
  rw [eN]
  refine ⟨σ3, (go1 hr hpn (rg_bang hr.1 h.2.1.2.2.2.1 hc b1 b2 b3)).trans g1, (b6.mono (mC_sub (by omega) mC_t)).trans (g2.mono (mC_sub (by omega) (mC_n (Or.inr (Or.inl rfl)) (by show N ≤ N ∧ N < _; omega)))), g3, fun q1 q2 q3 => ?_⟩
  obtain ⟨d1, d2, d3⟩ := b7 q1
  have q2' : lam = cntB ch (64 * s + (p + 1)) := q2.trans (cntB_step (by omega)).symm
  obtain ⟨j1, j2⟩ := g4 q1 q2' q3
  refine ⟨?_, fun κ => ?_⟩
  · rw [g2.i _ _ (tg_out (ht q1) (by omega) (by omega) (hl q1).2 (tg_no35 (ht q1)))]
    exact d3
  · obtain ⟨κ', i1, i2, i3, i4⟩ := j2 (fun c => if c = N then 64 * s + p else κ c)
    dsimp only at i2
    have hN : κ' N = 64 * s + p := by rw [i2 N (by omega), if_pos rfl]
    refine ⟨κ', hN, fun c hc => ?_, fun c hc1 hc2 => ?_, i4⟩
    · rw [i2 c (by omega), if_neg (by omega)]
    · by_cases cc : c = N
      · subst cc
        unfold nodeM
        rw [hN, e30 34 (by omega), e30 36 (by omega), d1]
        have hkd : kd ch (64 * s + p) = 33 := by unfold kd; rw [if_neg (by omega)]; exact hc
        refine ⟨by rw [hkd]; rfl, fun q => by rw [hc] at q; exact absurd q (by decide), fun _ => ⟨c + 1, by omega, j1, ?_⟩, fun q => by omega, fun q => by omega, by omega, fun q => by omega⟩
        rw [i1]
        unfold ch1
        rw [if_neg (by omega)]
        omega
      · exact i3 c (by omega) hc2
