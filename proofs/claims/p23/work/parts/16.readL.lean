/-- a loan -/
theorem g_loan {ch : Nat → Nat} {rd ca pl b n F : Nat} {kg : Nat → Int32 → St → Option (Int32 × St)} (hk : SGoal ch rd ca pl b n F kg) {σ : St} {d p N lam q1 k1 l1 q2 k2 l2 : Nat} (h : RC ch rd ca pl b n σ) (ha : At rd pl σ p N lam) (hp : p ≤ n) (hd1 : 1 ≤ d) (hd2 : d ≤ p + 1) (hF : 62 ≤ F + 1 + p) (hlam : lam ≤ 1000 + p)
    (hc : ch (b + p) = 91) (hg : poff (pgoal ch F) ch (b + p + 1) = (true, q1, k1, l1)) (hc2 : ch q1 = 93) (hg2 : pgoal ch F (q1 + 1) = (true, q2, k2, l2)) (hN : N + (k1 + (k2 + 1)) ≤ 60) : GRes ch rd pl b n σ p N lam (sc_X5_readGoal kg rd (I d) σ) (true, q2, k1 + (k2 + 1), l1 + (l2 + 1)) := by
  have hpn := h.lt hp (by omega)
  have hn := h.hn
  have hend := h.hend
  have hpl := h.2.1
  have hrd := h.2.2.1.1
  obtain ⟨a1, f1, r1, e1⟩ := step_at h ha
  have n1 := q_next h ha.1 hp ha.2.1 (by omega)
  rw [if_pos rfl, hc] at n1
  have hd60 : I (d : Int) ≤ 60 := by rw [I_lit, I_le (by omega) (by omega)]; omega
  have hx1 := q_expect (k := 91) h ha hp hc
  have hL := q_addLoan r1.1 hpl a1.2.2.2 (by omega)
  generalize hs1 : setI σ rd 2 (I ((p + 1 : Nat) : Int)) = σ1 at a1 f1 r1 e1 hx1 hL
  have hlo : I ((lam : Int) + 1) = I ((lam + 1 : Nat) : Int) := rfl
  rw [hlo] at hL
  have f2 : Fr (rdC rd pl) σ1 (setI σ1 pl 6 (I ((lam + 1 : Nat) : Int))) := (Fr.refl σ1).put _ (Or.inr ⟨by omega, by omega, fun _ => by omega⟩)
  have r2 := r1.fr f2
  have a2 : At rd pl (setI σ1 pl 6 (I ((lam + 1 : Nat) : Int))) (p + 1) N (lam + 1) := by
    obtain ⟨z1, z2, z3, z4⟩ := a1
    refine ⟨?_, ?_, ?_, ?_⟩
    · rw [sI_I, if_neg (by omega)]; exact z1
    · rw [sI_I, if_neg (by omega)]; exact z2
    · rw [sI_I, if_neg (by omega)]; exact z3
    · rw [sI_I, if_pos ⟨rfl, rfl⟩]
  have e2 : ∀ a, pl + 1 ≤ a → a ≤ pl + 5 → sI (setI σ1 pl 6 (I ((lam + 1 : Nat) : Int))) a = sI σ1 a := fun a h1 h2 => up2_ne (by omega)
  generalize hs2 : setI σ1 pl 6 (I ((lam + 1 : Nat) : Int)) = σ2 at f2 r2 a2 e2 hL
  have hg' : poff (pgoal ch F) ch (b + (p + 1)) = (true, q1, k1, l1) := hg
  generalize ho : (if 3 ≤ (lam : Int) then (-1 : Int) else 5 + (lam : Int)) = o at hL
  have ho2 : -1 ≤ o ∧ o ≤ 11 := by rw [← ho]; split <;> omega
  obtain ⟨σ3, g1, g3, g4⟩ := s_off hk (o := o) (d := d) r2 a2 hpn hd1 (by omega) (by omega) (by rw [hg']) (by rw [hg']; dsimp only; omega) (by omega) ho2
  rw [hg'] at g3 g4
  dsimp only at g4
  have r3 := r2.fr g3.1
  have a3 := g3.2.2
  have hb1 := g3.2.1
  dsimp only at a3 hb1
  have hpos1 := poff_pos b n hend hn (pgoal_pos ch b n hend hn F) (b + p + 1) (by omega) (by omega)
  rw [hg] at hpos1
  dsimp only at hpos1
  have hlt1 := hpos1.2.2 rfl
  have hq1 : b + (q1 - b) = q1 := by omega
  have hq1n := r3.lt (p := q1 - b) (by omega) (by rw [hq1]; omega)
  have hx2 := q_expect (k := 93) r3 a3 (by omega) (by rw [hq1]; exact hc2)
  obtain ⟨a4, f4, r4, e4⟩ := step_at r3 a3
  have hlam1 : lam + 1 + l1 ≤ 1000 + (q1 - b) := by
    have := (poff_fits (ch := ch) (pgoal_fits ch F) (b + p + 1))
    rw [hg] at this
    have := (this rfl).2.1
    dsimp only at this
    omega
  have hgq : pgoal ch F (b + (q1 - b + 1)) = (true, q2, k2, l2) := by rw [show b + (q1 - b + 1) = q1 + 1 by omega]; exact hg2
  obtain ⟨σ5, j1, j2, j3, j4⟩ := hk (setI σ3 rd 2 (I ((q1 - b + 1 : Nat) : Int))) (d + 1) (q1 - b + 1) (N + k1) (lam + 1 + l1) r4 a4 hq1n (by omega) (by omega) (by omega) (by rw [hgq]) (by rw [hgq]; dsimp only; omega) (by omega)
  rw [hgq] at j1 j2 j3 j4
  dsimp only at j1 j2 j4
  have r5 := r4.fr j3.1
  have a5 := j3.2.2
  have hb2 := j3.2.1
  dsimp only at a5 hb2
  have q6 := q_add r5 a5 (by omega) (I (91 : Nat)) (I ((N + k1 : Nat) + k2 - 1)) (I o)
  obtain ⟨a6, f6⟩ := add_at r5 a5 (I (91 : Nat)) (I ((N + k1 : Nat) + k2 - 1)) (I o)
  refine ⟨_, ?_, by dsimp only; omega, ⟨(((((f1.trans f2).trans g3.1).trans f4).trans j3.1)).trans f6, by dsimp only; omega, ?_⟩, fun κ φ hs hl hb => ?_⟩
  · unfold sc_X5_readGoal
    rw [if_pos h.2.2.2.1, n1, bd_eq, if_pos hd60, q_isAtom (by omega), bd_eq, if_neg (show ¬ isAt 91 = true by decide), if_pos rfl, if_neg (by decide), if_neg (by decide), if_neg (by decide), if_neg (by decide), if_pos (by decide), if_pos h.2.2.2.1]
    have hloan : s_X5_readLoan kg rd (I d) σ = some (I (N + k1 + k2 : Nat), addN pl (N + k1 + k2) (I (91 : Nat)) (I ((N + k1 : Nat) + k2 - 1)) (I o) σ5) := by
      unfold s_X5_readLoan
      rw [if_pos h.2.2.2.1, show (91 : Int32) = I ((91 : Nat) : Int) from rfl, show (93 : Int32) = I ((93 : Nat) : Int) from rfl, hx1, bd_eq, if_pos r1.2.2.2.1, r1.2.2.2.2.2.1, op_eq, if_pos r1.pl3, hL, bd_eq, if_pos r2.2.2.2.1, g1, bd_eq, if_pos r3.2.2.2.1, hx2, bd_eq, if_pos r4.2.2.2.1, r4.2.2.2.2.2.1, op_eq, I_s, j1, bd_eq, if_pos r5.pl3, q6, bd_eq]
    rw [hloan, bd_eq]
    congr 3
    dsimp only
    omega
  · show At rd pl _ (q2 - b) (N + (k1 + (k2 + 1))) (lam + (l1 + (l2 + 1)))
    rw [show N + (k1 + (k2 + 1)) = N + k1 + k2 + 1 by omega, show lam + (l1 + (l2 + 1)) = lam + 1 + l1 + l2 by omega]
    exact a6
  · dsimp only at hl ⊢
    have hlam3 : lam < 3 := by omega
    have ho5 : o = ((5 + lam : Nat) : Int) := by rw [← ho, if_neg (by omega)]; omega
    have hs1' : Str ch pl κ φ σ2 N (lam + 1) (b + p + 1) := by
      have z := (hs.mv (σ' := σ2) (P' := b + p) (fun a h1 h2 => (e2 a h1 h2).trans (e1 a h1 h2)) rfl)
      exact ⟨z.1, z.2.1, by rw [cntB_step1 hc, ← z.2.2.1], fun x y h1 h2 h3 => z.2.2.2 x y (by omega) h2 h3⟩
    have hot : o.toNat = 5 + lam := by omega
    obtain ⟨κ1, x1, x2⟩ := g4 κ φ hs1' (by omega) hb (by omega) (by omega) (fun f hf => by rw [hot]; exact hs.2.2.2 _ f (by omega) (by omega) hf)
    have hs3 := x2.mv e4 (cntB_step (by omega) : cntB ch (q1 + 1) = _)
    have hs3' := hs3.phi (φ' := upL ch φ lam (lam + (l1 + 1))) (fun x y hy => by
      unfold setO
      rw [hot]
      by_cases hx : x = 5 + lam
      · subst hx
        rw [if_pos rfl]
        unfold upL
        rw [if_pos (by omega)]
        unfold loanF
        have hl5 : 5 + lam - 5 = cntB ch (b + p) := by rw [← hs.2.2.1]; omega
        rw [hl5, nthB_spec hc 640 (by omega)]
        rfl
      · rw [if_neg hx]
        unfold upL
        by_cases c1 : 5 + (lam + 1) ≤ x ∧ x < 5 + (lam + 1 + l1)
        · rw [if_pos c1, if_pos (by omega)]
        · rw [if_neg c1, if_neg (by omega)])
    rw [show q1 + 1 = b + (q1 - b + 1) by omega] at hs3'
    obtain ⟨κ2, y1, y2, y3⟩ := j4 κ1 _ hs3' (by omega) hb
    rw [show lam + 1 + l1 = lam + (l1 + 1) by omega, upL_upL ch φ (by omega) (by omega)] at y2
    have heO : eO ch (b + p + 1) = q1 := by
      unfold eO
      have := poff_fuel (g := G64 ch) (g' := pgoal ch F) b n hend hn (pgoal_pos ch b n hend hn 64) (b + p + 1) (by omega) (by omega) (fun q h1 h2 => pgoal_fuel ch b n hend hn 64 F q (by omega) h2 (by omega) (by omega))
      rw [this, hg]
    have hkd : kd ch (b + p) = 91 := by unfold kd; rw [if_neg (by omega), hc]
    have hln : ln ch (b + p) = 5 + lam := by unfold ln; rw [← hs.2.2.1]
    have := y2.add (P0 := b + p) (f := I ((N + k1 : Nat) + k2 - 1)) (s := I o) (by rw [hkd]; omega)
      (fun _ => ⟨N + k1 + k2 - 1, by omega, by congr 1; omega, by rw [y3]; unfold ch1; rw [if_pos hc, heO]; omega⟩)
      (fun q => by omega) (fun _ => ⟨by rw [hln, ho5], by rw [hln]; omega⟩) (Or.inr (Or.inr (Or.inr (Or.inr (Or.inr hc))))) (fun q => by omega)
    rw [hkd] at this
    refine ⟨upK κ2 (N + k1 + k2) (b + p), fun c hc => ?_, ?_, ?_⟩
    · unfold upK; rw [if_neg (by omega), y1 c (by omega)]; exact x1 c hc
    · rw [show N + (k1 + (k2 + 1)) = N + k1 + k2 + 1 by omega, show lam + (l1 + (l2 + 1)) = lam + (l1 + 1) + l2 by omega]
      exact this
    · unfold upK; rw [if_pos (by omega)]
/-- every goal -/
theorem s_goal (ch : Nat → Nat) (rd ca pl b n : Nat) : ∀ F, SGoal ch rd ca pl b n F (s_X5_readGoal F) := by
  intro F
  induction F with
  | zero => intro σ d p N lam h ha hp hd1 hd2 hF; have := h.hn; omega
  | succ F ih =>
    intro σ d p N lam h ha hp hd1 hd2 hF hR hN hlam
    show GRes ch rd pl b n σ p N lam (sc_X5_readGoal (s_X5_readGoal F) rd (I d) σ) (pgoal ch (F + 1) (b + p))
    rcases pgoal_cases hR with ⟨hc, e⟩ | ⟨hc, q, k, l, hg, e⟩ | ⟨hc, q1, k1, l1, q2, k2, l2, hg, ho, hg2, hc2, e⟩ | ⟨hc, q1, k1, l1, q2, k2, l2, hg, hc2, hg2, e⟩
    · rw [e] at hN ⊢
      exact g_leaf _ h ha hp hd1 hd2 hN hc
    · rw [e] at hN ⊢
      exact g_bang ih h ha hp hd1 hd2 hF hlam hc hg hN
    · rw [e] at hN ⊢
      exact g_pair ih h ha hp hd1 hd2 hF hlam hc hg ho hg2 hc2 hN
    · rw [e] at hN ⊢
      exact g_loan ih h ha hp hd1 hd2 hF hlam hc hg hc2 hg2 hN
