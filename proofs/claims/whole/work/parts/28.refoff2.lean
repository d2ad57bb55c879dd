/-- an offer's faces, all of them -/
theorem m_off {ch : Nat → Nat} {s n F : Nat} (hk : MGoal ch s n F) {σ : St} {p N lam sp lay o Q k l : Nat} {w : Nat → Nat} (h : HPre ch s n σ p N lam sp 3 lay w o 0) (hF : 62 ≤ F + p + 1) (hg : poff (pgoal ch F) ch (64 * s + p) = (true, Q, k, l)) (hl : lay = 1 → N + k ≤ 60 ∧ lam + l ≤ 3) :
    ∃ σ1 pos j q, Q = 64 * s + q ∧ p < q ∧ q ≤ n ∧ Acc ch s σ p N lam sp lay o pos j q (N + k) (lam + l) σ1 ∧ 1 ≤ j ∧ j ≤ 3 ∧ (ch (64 * s + q) = 124 → j = 3) ∧ ∀ f, f < 3 → fpos ch (64 * s + p) f = if f < j then some (pos f) else none := by
  have hr := h.1
  have hn60 := hr.2.2.1
  have hend := hr.2.2.2.2.2.2
  have hp := h.2.2.1
  have hpos := pface_pos (64 * s) n hend hn60 (pgoal_pos ch (64 * s) n hend hn60 F)
  obtain ⟨a1, ak, al, f1, hrest⟩ := poff_cases (p := 64 * s + p) (g := pgoal ch F) (ch := ch) (by rw [hg])
  have p1 := hpos (64 * s + p) (by omega) (by omega)
  rw [f1] at p1
  dsimp only at p1
  have p1l := p1.2.2 rfl
  obtain ⟨A1, rfl⟩ : ∃ A1, a1 = 64 * s + A1 := ⟨a1 - 64 * s, by omega⟩
  have eF1 : eF ch (64 * s + p) = 64 * s + A1 := by unfold eF; rw [eF_eq (F := F) hend hn60 hp hF, f1]
  have nf1 : nf ch (some (64 * s + p)) = if ch (64 * s + A1) = 124 then some (64 * s + A1 + 1) else none := by
    show (if ch (eF ch (64 * s + p)) = 124 then some (eF ch (64 * s + p) + 1) else none) = _
    rw [eF1]
  rcases hrest with ⟨c1, r⟩ | ⟨c1, a2, ak2, al2, f2, hrest⟩
  · rw [r] at hg
    cases hg
    obtain ⟨σ1, g1⟩ := acc_one hk h hF f1 hl (fun _ => 64 * s + p) rfl
    refine ⟨σ1, _, 1, A1, rfl, by omega, by omega, g1, by omega, by omega, fun q => absurd q c1, fun f hf => ?_⟩
    rcases (by omega : f = 0 ∨ f = 1 ∨ f = 2) with rfl | rfl | rfl
    · rw [if_pos (by omega)]; rfl
    · show nf ch (some (64 * s + p)) = _
      rw [nf1, if_neg c1, if_neg (by omega)]
    · show nf ch (nf ch (some (64 * s + p))) = _
      rw [nf1, if_neg c1, if_neg (by omega)]; rfl
  have hA1 : A1 < n := h.lt (by omega) (by omega)
  have p2 := hpos (64 * s + A1 + 1) (by omega) (by omega)
  rw [f2] at p2
  dsimp only at p2
  have p2l := p2.2.2 rfl
  obtain ⟨A2, rfl⟩ : ∃ A2, a2 = 64 * s + A2 := ⟨a2 - 64 * s, by omega⟩
  have eF2 : eF ch (64 * s + A1 + 1) = 64 * s + A2 := by
    unfold eF
    rw [show 64 * s + A1 + 1 = 64 * s + (A1 + 1) by omega] at f2 ⊢
    rw [eF_eq (F := F) hend hn60 (by omega) (by omega), f2]
  have nf2 : nf ch (some (64 * s + A1 + 1)) = if ch (64 * s + A2) = 124 then some (64 * s + A2 + 1) else none := by
    show (if ch (eF ch (64 * s + A1 + 1)) = 124 then some (eF ch (64 * s + A1 + 1) + 1) else none) = _
    rw [eF2]
  rcases hrest with ⟨c2, r⟩ | ⟨c2, a3, ak3, al3, f3, r⟩
  · rw [r] at hg
    cases hg
    have hp0 : (fun i => if i = 0 then 64 * s + p else 64 * s + A1 + 1) 0 = 64 * s + p := rfl
    obtain ⟨σ1, g1⟩ := acc_one hk h hF f1 (fun q => by have := hl q; omega) (fun i => if i = 0 then 64 * s + p else 64 * s + A1 + 1) hp0
    obtain ⟨σ2, g2⟩ := acc_more hk h g1 (by omega) (by omega) (by omega) (by omega) (by omega) c1 f2 (fun q => by have := hl q; omega) rfl
    refine ⟨σ2, _, 2, A2, rfl, by omega, by omega, by rw [show N + (ak + ak2) = N + ak + ak2 by omega, show lam + (al + al2) = lam + al + al2 by omega]; exact g2, by omega, by omega, fun q => absurd q c2, fun f hf => ?_⟩
    rcases (by omega : f = 0 ∨ f = 1 ∨ f = 2) with rfl | rfl | rfl
    · rw [if_pos (by omega)]; rfl
    · show nf ch (some (64 * s + p)) = _
      rw [nf1, if_pos c1, if_pos (by omega)]; rfl
    · show nf ch (nf ch (some (64 * s + p))) = _
      rw [nf1, if_pos c1, nf2, if_neg c2, if_neg (by omega)]
  · have hA2 : A2 < n := h.lt (by omega) (by omega)
    have p3 := hpos (64 * s + A2 + 1) (by omega) (by omega)
    rw [f3] at p3
    dsimp only at p3
    have p3l := p3.2.2 rfl
    obtain ⟨A3, rfl⟩ : ∃ A3, a3 = 64 * s + A3 := ⟨a3 - 64 * s, by omega⟩
    rw [r] at hg
    cases hg
    have hp0 : (fun i => if i = 0 then 64 * s + p else if i = 1 then 64 * s + A1 + 1 else 64 * s + A2 + 1) 0 = 64 * s + p := rfl
    obtain ⟨σ1, g1⟩ := acc_one hk h hF f1 (fun q => by have := hl q; omega) (fun i => if i = 0 then 64 * s + p else if i = 1 then 64 * s + A1 + 1 else 64 * s + A2 + 1) hp0
    obtain ⟨σ2, g2⟩ := acc_more hk h g1 (by omega) (by omega) (by omega) (by omega) (by omega) c1 f2 (fun q => by have := hl q; omega) rfl
    obtain ⟨σ3, g3⟩ := acc_more hk h g2 (by omega) (by omega) (by omega) (by omega) (by omega) c2 f3 (fun q => by have := hl q; omega) rfl
    refine ⟨σ3, _, 3, A3, rfl, by omega, by omega, by rw [show N + (ak + (ak2 + ak3)) = N + ak + ak2 + ak3 by omega, show lam + (al + (al2 + al3)) = lam + al + al2 + al3 by omega]; exact g3, by omega, by omega, fun _ => rfl, fun f hf => ?_⟩
    rw [if_pos (by omega)]
    rcases (by omega : f = 0 ∨ f = 1 ∨ f = 2) with rfl | rfl | rfl
    · rfl
    · show nf ch (some (64 * s + p)) = _
      rw [nf1, if_pos c1]; rfl
    · show nf ch (nf ch (some (64 * s + p))) = _
      rw [nf1, if_pos c1, nf2, if_pos c2]; rfl
/-- the faces of an offer, from what was read -/
theorem acc_face {ch : Nat → Nat} {s : Nat} {σ1 : St} {p M o j : Nat} {κ' pos : Nat → Nat} (h37 : sI σ1 37 o = I (j : Nat)) (hj3 : j ≤ 3) (hb : ∀ i, i < j → faceB ch κ' M σ1 o i (pos i)) (hf : ∀ f, f < 3 → fpos ch (64 * s + p) f = if f < j then some (pos f) else none) : ∀ f, f < 3 → faceM ch κ' M σ1 o f (fpos ch (64 * s + p) f) := by
  intro f hf3
  rw [hf f hf3]
  by_cases c : f < j
  · rw [if_pos c]
    exact ⟨⟨j, h37, c, hj3⟩, hb f c⟩
  · rw [if_neg c]
    exact ⟨j, h37, by omega⟩
theorem rg_loan {ch : Nat → Nat} {s p : Nat} {σ σ1 : St} (hs : SS σ) (hnx : sI σ 30 19 = I (0 : Nat)) (hc : ch (64 * s + p) = 91) (b1 : s_X11_beginLoan 30 σ = some ((), σ1)) : s_X11_reads 30 (I (ch (64 * s + p) : Nat)) σ = some (1, σ1) := by
  rw [rds hs hnx (by omega), if_pos rfl, hc]
  unfold s_X11_readGoal
  rw [q_letter (by omega), if_neg (by decide), bd_eq, if_pos rfl, if_neg (by decide), if_neg (by decide), if_neg (by decide), if_neg (by decide), if_pos (by decide), if_pos (hs.o 11 30 (by decide)), b1, bd_eq, bd_eq, if_pos zok1]
/-- a loan begins -/
theorem m_lent {ch : Nat → Nat} {s n : Nat} {σ : St} {p N lam sp lay x : Nat} {w : Nat → Nat} (h : MPre ch s n σ p N lam sp 0 lay w) (hpn : p < n) (hl : lay = 1 → N < 60 ∧ lam < 3 ∧ TF σ sp (w (sp - 1)) x N lam) :
    ∃ σ2, s_X11_beginLoan 30 σ = some ((), σ2) ∧ HPre ch s n σ2 (p + 1) (N + 1) (lam + 1) (sp + 1) 3 lay (upW w sp 6) (5 + lam) 0 ∧ sI σ2 41 sp = I (N : Nat) ∧
      Fr (mC N sp (N + 1) lam (lam + 1) (tg (w (sp - 1)) x)) σ σ2 ∧ (lay = 1 → sI σ2 34 N = I (7 : Nat) ∧ sI σ2 36 N = I ((5 + lam : Nat) : Int) ∧ sI σ2 (tg (w (sp - 1)) x).1 (tg (w (sp - 1)) x).2 = I (N : Nat)) := by
  obtain ⟨σ1, b1, b2, b3, b4⟩ := q_begin h (fun q => ⟨(hl q).1, (hl q).2.2⟩) 7 (-6)
  obtain ⟨hr, ⟨m1, m2, m3, m4, m5⟩, hp, h1, h2, hw, hw0, hlay⟩ := id h
  have hn := hr.2.2.1
  have htn := @tg_ne (w (sp - 1)) x
  have hr1 : RM ch s n σ1 := hr.fr b2 (fun k => by unfold begC; omega)
  have c6 : sI σ1 30 6 = I (lam : Nat) := by rw [b2.i 30 6 (by unfold begC; omega)]; exact m2
  have c18 : sI σ1 30 18 = I (sp : Nat) := by rw [b2.i 30 18 (by unfold begC; omega)]; exact m3
  have c20 : sI σ1 30 20 = I (lay : Nat) := by rw [b2.i 30 20 (by unfold begC; omega)]; exact m5
  have hw1 : WH w sp σ1 := fun j hj => by
    rw [b2.i 40 j (by unfold begC; omega)]
    exact hw j hj
  have e5 : (5 : Int32) + I (lam : Nat) = I ((5 + lam : Nat) : Int) := by
    rw [I_lit, I_add]
    congr 1
  -- the rows that a loan's node takes
  have rows : ∃ σ3, (if sI (setI σ1 30 6 (I ((lam + 1 : Nat) : Int))) 30 20 = 0 then s_X11_beginLoan_47 30 (I (N : Nat)) (I ((5 + lam : Nat) : Int)) (setI σ1 30 6 (I ((lam + 1 : Nat) : Int))) else (op (sP (setI σ1 30 6 (I ((lam + 1 : Nat) : Int))) 30 9) fun p18 =>
 if isO (setI σ1 30 6 (I ((lam + 1 : Nat) : Int))) 13 p18 = true then (if inR (I (N : Nat)) (alen (setI σ1 30 6 (I ((lam + 1 : Nat) : Int))) p18) = true then (lt (setI (setI σ1 30 6 (I ((lam + 1 : Nat) : Int))) p18 (I (N : Nat)).toNatClampNeg (I ((5 + lam : Nat) : Int))) fun σ22 =>
 op (sP σ22 30 11) fun p24 =>
 if isO σ22 13 p24 = true then (if inR (I ((5 + lam : Nat) : Int)) (alen σ22 p24) = true then (lt (setI σ22 p24 (I ((5 + lam : Nat) : Int)).toNatClampNeg 0) fun σ28 =>
 s_X11_beginLoan_47 30 (I (N : Nat)) (I ((5 + lam : Nat) : Int)) σ28) else none) else none) else none) else none)) = s_X11_beginLoan_47 30 (I (N : Nat)) (I ((5 + lam : Nat) : Int)) σ3 ∧ Fr (fun a k => (a = 30 ∧ k = 6) ∨ (a = 36 ∧ k = N) ∨ (a = 37 ∧ k = 5 + lam)) σ1 σ3 ∧ sI σ3 30 6 = I ((lam + 1 : Nat) : Int) ∧ (lay = 1 → sI σ3 36 N = I ((5 + lam : Nat) : Int)) := by
    have f0 : Fr (fun a k => (a = 30 ∧ k = 6) ∨ (a = 36 ∧ k = N) ∨ (a = 37 ∧ k = 5 + lam)) σ1 (setI σ1 30 6 (I ((lam + 1 : Nat) : Int))) := (Fr.refl σ1).put _ (Or.inl ⟨rfl, rfl⟩)
    have e20 : sI (setI σ1 30 6 (I ((lam + 1 : Nat) : Int))) 30 20 = I (lay : Nat) := by rw [sIn (by omega)]; exact c20
    rw [e20]
    by_cases h0 : lay = 0
    · subst h0
      rw [if_pos (show I ((0 : Nat) : Int) = (0 : Int32) from rfl)]
      exact ⟨_, rfl, f0, sIe, fun q => by omega⟩
    · obtain rfl : lay = 1 := by omega
      obtain ⟨l1, l2, l3⟩ := hl rfl
      have s1 := hr1.1.i 30 6 (I ((lam + 1 : Nat) : Int))
      rw [if_neg (by decide), pst 64 (s1.p 30 9 36 (by decide)) (s1.o 13 36 (by decide)) (s1.len 36 64 (by decide)) rfl (show N < 64 by omega) (by omega)]
      have s2 := s1.i 36 N (I ((5 + lam : Nat) : Int))
      rw [pst 12 (s2.p 30 11 37 (by decide)) (s2.o 13 37 (by decide)) (s2.len 37 12 (by decide)) rfl (show 5 + lam < 12 by omega) (by omega)]
      exact ⟨_, rfl, (f0.put _ (Or.inr (Or.inl ⟨rfl, rfl⟩))).put _ (Or.inr (Or.inr ⟨rfl, rfl⟩)), by rw [sIn (by omega), sIn (by omega), sIe], fun _ => by rw [sIn (by omega), sIe]⟩
  obtain ⟨σ3, e3, f3, c36, c3N⟩ := rows
  have hr3 : RM ch s n σ3 := hr1.fr f3 (fun k => by omega)
  have hw3 : WH w sp σ3 := fun j hj => by
    rw [f3.i 40 j (by omega)]
    exact hw1 j hj
  have hm3 : MA σ3 (N + 1) (lam + 1) sp 0 lay := ⟨by rw [f3.i 30 5 (by omega)]; exact b3, c36, by rw [f3.i 30 18 (by omega)]; exact c18, by rw [f3.i 30 19 (by omega), b2.i 30 19 (by unfold begC; omega)]; exact m4, by rw [f3.i 30 20 (by omega)]; exact c20⟩
  obtain ⟨f, p1, p2, p3, p4, p5⟩ := push_fr σ3 sp (I (6 : Nat)) (I (N : Nat)) (I ((5 + lam : Nat) : Int))
  obtain ⟨k1, k2, k3, k4⟩ := push_pre (t := 6) hr3 hm3 h1 hw3 hw0 (by omega) (I (N : Nat)) (I ((5 + lam : Nat) : Int))
  have f4 : Fr (fun a k => pushC sp a k ∨ (a = 30 ∧ k = 19)) σ3 (setI (pushS σ3 sp (I (6 : Nat)) (I (N : Nat)) (I ((5 + lam : Nat) : Int))) 30 19 3) := (f.mono (fun a k q => Or.inl q)).put _ (Or.inr ⟨rfl, rfl⟩)
  refine ⟨setI (pushS σ3 sp (I (6 : Nat)) (I (N : Nat)) (I ((5 + lam : Nat) : Int))) 30 19 3, ?_, ?_, ?_, ?_, fun q => ?_⟩
  · unfold s_X11_beginLoan
    rw [if_pos (hr.1.o 11 30 (by decide)), b1, bd_eq, if_pos (hr1.1.o 11 30 (by decide)), c6, e5, I_p1, lt_eq, lt_eq, e3]
    unfold s_X11_beginLoan_47
    rw [if_pos (hr3.1.o 11 30 (by decide)), show (6 : Int32) = I ((6 : Nat) : Int) from rfl, q_push hr3.1 hm3.2.2.1 (by omega), bd_eq, if_pos ((f.ss hr3.1).o 11 30 (by decide)), lt_eq]
  · obtain ⟨k21, k22, k23, k24, k25⟩ := k2
    refine ⟨hr3.fr f4 (fun k => by unfold pushC; omega), ⟨by rw [sIn (by omega)]; exact k21, by rw [sIn (by omega)]; exact k22, by rw [sIn (by omega)]; exact k23, sIe, by rw [sIn (by omega)]; exact k25⟩, by omega, by omega, by omega, fun j hj => by rw [sIn (by omega)]; exact k3 j hj, k4, hlay, ?_, ?_, fun q => ?_⟩
    · rw [sIn (by omega), show sp + 1 - 1 = sp by omega]; exact p3
    · rw [sIn (by omega), show sp + 1 - 1 = sp by omega]; exact p4
    · have := (hl q).2.1; omega
  · rw [sIn (by omega)]; exact p2
  · refine ((b2.mono ?_).trans (f3.mono ?_)).trans (f4.mono ?_)
    · intro a k
      unfold begC mC
      omega
    · rintro a k (⟨rfl, rfl⟩ | ⟨rfl, rfl⟩ | ⟨rfl, rfl⟩)
      · exact Or.inl ⟨rfl, by omega⟩
      · exact mC_n (by omega) (by omega)
      · exact Or.inr (Or.inr (Or.inr (Or.inl ⟨rfl, by omega, by omega⟩)))
    · rintro a k ((⟨q1, q2, rfl⟩ | ⟨rfl, rfl⟩) | ⟨rfl, rfl⟩)
      · exact Or.inr (Or.inr (Or.inr (Or.inr (Or.inr ⟨q1, q2, Nat.le_refl _⟩))))
      · exact Or.inl ⟨rfl, by omega⟩
      · exact Or.inl ⟨rfl, by omega⟩
  · obtain ⟨l1, l2, l3⟩ := hl q
    obtain ⟨d1, d2, d3, d4⟩ := b4 q
    have h36 := tg_no36 l3
    refine ⟨?_, ?_, ?_⟩
    · rw [f4.i 34 N (by unfold pushC; omega), f3.i 34 N (by omega)]; exact d1
    · rw [f4.i 36 N (by unfold pushC; omega)]; exact c3N q
    · rw [f4.i _ _ (by unfold pushC; omega), f3.i _ _ (by omega)]; exact d4
