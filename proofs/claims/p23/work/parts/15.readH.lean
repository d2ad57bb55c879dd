def pgS (ch : Nat → Nat) (g : Nat → PR) (p : Nat) : PR :=
    if isAt (ch p) = true ∨ ch p = 49 ∨ ch p = 84 then (true, p + 1, 1, 0)
    else if ch p = 33 then pb (g (p + 1)) fun q => (true, q, 1, 0)
    else if ch p = 40 then pb (g (p + 1)) fun q => if isOp (ch q) = true then (pb (g (q + 1)) fun q2 => if ch q2 = 41 then (true, q2 + 1, 1, 0) else (false, q2, 0, 0)) else (false, q, 0, 0)
    else if ch p = 91 then pb (poff g ch (p + 1)) fun q => if ch q = 93 then (pb (g (q + 1)) fun q2 => (true, q2, 1, 1)) else (false, q, 0, 0)
    else (false, p, 0, 0)
theorem pgoal_succ (ch : Nat → Nat) (F p : Nat) : pgoal ch (F + 1) p = pgS ch (pgoal ch F) p := rfl
theorem pgoal_cases {ch : Nat → Nat} {F p : Nat} (h : (pgoal ch (F + 1) p).1 = true) :
    ((isAt (ch p) = true ∨ ch p = 49 ∨ ch p = 84) ∧ pgoal ch (F + 1) p = (true, p + 1, 1, 0)) ∨
    (ch p = 33 ∧ ∃ q k l, pgoal ch F (p + 1) = (true, q, k, l) ∧ pgoal ch (F + 1) p = (true, q, k + 1, l)) ∨
    (ch p = 40 ∧ ∃ q1 k1 l1 q2 k2 l2, pgoal ch F (p + 1) = (true, q1, k1, l1) ∧ isOp (ch q1) = true ∧ pgoal ch F (q1 + 1) = (true, q2, k2, l2) ∧ ch q2 = 41 ∧ pgoal ch (F + 1) p = (true, q2 + 1, k1 + (k2 + 1), l1 + l2)) ∨
    (ch p = 91 ∧ ∃ q1 k1 l1 q2 k2 l2, poff (pgoal ch F) ch (p + 1) = (true, q1, k1, l1) ∧ ch q1 = 93 ∧ pgoal ch F (q1 + 1) = (true, q2, k2, l2) ∧ pgoal ch (F + 1) p = (true, q2, k1 + (k2 + 1), l1 + (l2 + 1))) := by
  rw [pgoal_succ] at h ⊢
  unfold pgS at h ⊢
  by_cases c1 : isAt (ch p) = true ∨ ch p = 49 ∨ ch p = 84
  · rw [if_pos c1] at h ⊢
    exact Or.inl ⟨c1, rfl⟩
  rw [if_neg c1] at h ⊢
  refine Or.inr ?_
  by_cases c2 : ch p = 33
  · rw [if_pos c2] at h ⊢
    refine Or.inl ⟨c2, ?_⟩
    obtain ⟨h1, -⟩ := pb_ok h
    rcases hr : pgoal ch F (p + 1) with ⟨b1, q, k, l⟩
    rw [hr] at h1
    cases h1
    exact ⟨q, k, l, rfl, rfl⟩
  rw [if_neg c2] at h ⊢
  refine Or.inr ?_
  by_cases c3 : ch p = 40
  · rw [if_pos c3] at h ⊢
    refine Or.inl ⟨c3, ?_⟩
    obtain ⟨h1, h2, -⟩ := pb_ok h
    rcases hr : pgoal ch F (p + 1) with ⟨b1, q1, k1, l1⟩
    rw [hr] at h1 h2
    cases h1
    dsimp only at h2
    by_cases c4 : isOp (ch q1) = true
    · rw [if_pos c4] at h2
      obtain ⟨h3, h4, -⟩ := pb_ok h2
      rcases hr2 : pgoal ch F (q1 + 1) with ⟨b2, q2, k2, l2⟩
      rw [hr2] at h3 h4
      cases h3
      dsimp only at h4
      by_cases c5 : ch q2 = 41
      · refine ⟨q1, k1, l1, q2, k2, l2, rfl, c4, hr2, c5, ?_⟩
        rw [pb_true (rfl : (true, q1, k1, l1).1 = true)]
        try dsimp only
        rw [if_pos c4, hr2, pb_true (rfl : (true, q2, k2, l2).1 = true)]
        try dsimp only
        rw [if_pos c5]
        rfl
      · rw [if_neg c5] at h4; cases h4
    · rw [if_neg c4] at h2; cases h2
  rw [if_neg c3] at h ⊢
  refine Or.inr ?_
  by_cases c6 : ch p = 91
  · rw [if_pos c6] at h ⊢
    refine ⟨c6, ?_⟩
    obtain ⟨h1, h2, -⟩ := pb_ok h
    rcases hr : poff (pgoal ch F) ch (p + 1) with ⟨b1, q1, k1, l1⟩
    rw [hr] at h1 h2
    cases h1
    dsimp only at h2
    by_cases c4 : ch q1 = 93
    · rw [if_pos c4] at h2
      obtain ⟨h3, -⟩ := pb_ok h2
      rcases hr2 : pgoal ch F (q1 + 1) with ⟨b2, q2, k2, l2⟩
      rw [hr2] at h3
      cases h3
      refine ⟨q1, k1, l1, q2, k2, l2, rfl, c4, hr2, ?_⟩
      rw [pb_true (rfl : (true, q1, k1, l1).1 = true)]
      try dsimp only
      rw [if_pos c4, hr2, pb_true (rfl : (true, q2, k2, l2).1 = true)]
    · rw [if_neg c4] at h2; cases h2
  · rw [if_neg c6] at h; cases h
def upK (κ : Nat → Nat) (N P : Nat) : Nat → Nat := fun c => if c = N then P else κ c
/-- a node more -/
theorem Str.add {ch : Nat → Nat} {pl : Nat} {κ : Nat → Nat} {φ : Nat → Nat → Option Nat} {σ : St} {N lam P P0 : Nat} {f s : Int32} (h : Str ch pl κ φ σ N lam P) (hk : kd ch P0 ≤ 126)
    (h1 : (ch P0 = 33 ∨ ch P0 = 40 ∨ ch P0 = 91) → ∃ c1 : Nat, c1 < N ∧ f = I (c1 : Nat) ∧ κ c1 = ch1 ch P0) (h2 : ch P0 = 40 → ∃ c2 : Nat, c2 < N ∧ s = I (c2 : Nat) ∧ κ c2 = ch2 ch P0) (h3 : ch P0 = 91 → s = I (ln ch P0 : Nat) ∧ ln ch P0 < 8 ∧ P0 < 640)
    (h4 : isAt (ch P0) = true ∨ ch P0 = 49 ∨ ch P0 = 84 ∨ ch P0 = 33 ∨ ch P0 = 40 ∨ ch P0 = 91) (h5 : ch P0 = 40 → isOp (kd ch P0) = true) : Str ch pl (upK κ N P0) φ (addN pl N (I (kd ch P0 : Nat)) f s σ) (N + 1) lam P := by
  obtain ⟨g1, g2, g3, g4⟩ := h
  have e1 : ∀ k, sI (addN pl N (I (kd ch P0 : Nat)) f s σ) (pl + 1) k = if k = N then I (kd ch P0 : Nat) else sI σ (pl + 1) k := fun k => by
    unfold addN
    rw [sI_I, if_neg (by omega), sI_I, if_neg (by omega), sI_I, if_neg (by omega), sI_I, chN (by omega) (by omega)]
    simp
  have e2 : ∀ k, sI (addN pl N (I (kd ch P0 : Nat)) f s σ) (pl + 2) k = if k = N then f else sI σ (pl + 2) k := fun k => by
    unfold addN
    rw [sI_I, if_neg (by omega), sI_I, if_neg (by omega), sI_I, sI_I]
    by_cases c : k = N
    · rw [if_pos ⟨rfl, c⟩, if_pos c]
    · rw [if_neg (fun q => c q.2), if_neg (by omega), if_neg c]
  have e3 : ∀ k, sI (addN pl N (I (kd ch P0 : Nat)) f s σ) (pl + 3) k = if k = N then s else sI σ (pl + 3) k := fun k => by
    unfold addN
    rw [sI_I, if_neg (by omega), sI_I, sI_I, sI_I]
    by_cases c : k = N
    · rw [if_pos ⟨rfl, c⟩, if_pos c]
    · rw [if_neg (fun q => c q.2), if_neg (by omega), if_neg (by omega), if_neg c]
  have e4 : ∀ a k, a = pl + 4 ∨ a = pl + 5 → sI (addN pl N (I (kd ch P0 : Nat)) f s σ) a k = sI σ a k := fun a k ha => by
    unfold addN
    rw [sI_I, if_neg (by omega), sI_I, if_neg (by omega), sI_I, if_neg (by omega), sI_I, if_neg (by omega)]
  refine ⟨fun c hc => ?_, fun o x ho hx => ?_, g3, g4⟩
  · unfold nodeOK
    rw [e1, e2, e3]
    unfold upK
    by_cases c0 : c = N
    · subst c0
      simp only [if_true]
      refine ⟨trivial, fun q => ?_, fun q => ?_, h3, h4, h5⟩
      · obtain ⟨c1, z1, z2, z3⟩ := h1 q
        exact ⟨c1, z1, z2, by rw [if_neg (by omega)]; exact z3⟩
      · obtain ⟨c1, z1, z2, z3⟩ := h2 q
        exact ⟨c1, z1, z2, by rw [if_neg (by omega)]; exact z3⟩
    · simp only [c0, if_false]
      obtain ⟨z1, z2, z3, z4, z5, z6⟩ := g1 c (by omega)
      refine ⟨z1, fun q => ?_, fun q => ?_, z4, z5, z6⟩
      · obtain ⟨c1, y1, y2, y3⟩ := z2 q
        exact ⟨c1, y1, y2, by rw [if_neg (by omega)]; exact y3⟩
      · obtain ⟨c1, y1, y2, y3⟩ := z3 q
        exact ⟨c1, y1, y2, by rw [if_neg (by omega)]; exact y3⟩
  · have q := g2 o x ho hx
    unfold faceOK at q ⊢
    rw [e4 _ _ (Or.inl rfl), e4 _ _ (Or.inr rfl)]
    cases hφ : φ o x with
    | none => rw [hφ] at q; exact q
    | some y =>
      rw [hφ] at q
      dsimp only at q ⊢
      refine ⟨q.1, q.2.1, ?_⟩
      by_cases c6 : ch (y + 1) = 60
      · rw [if_pos c6]
        have q3 := q.2.2
        rw [if_pos c6] at q3
        obtain ⟨c, y1, y2, y3⟩ := q3
        exact ⟨c, by omega, y2, by unfold upK; rw [if_neg (by omega)]; exact y3⟩
      · rw [if_neg c6]
        have q3 := q.2.2
        rw [if_neg c6] at q3
        exact q3
theorem add_at {ch : Nat → Nat} {rd ca pl b n p N lam : Nat} {σ : St} (h : RC ch rd ca pl b n σ) (ha : At rd pl σ p N lam) (k f s : Int32) : At rd pl (addN pl N k f s σ) p (N + 1) lam ∧ Fr (rdC rd pl) σ (addN pl N k f s σ) := by
  have hrd := h.2.2.1.1
  have hpl := h.2.1
  obtain ⟨a1, a2, a3, a4⟩ := ha
  unfold addN
  refine ⟨⟨?_, ?_, ?_, ?_⟩, ?_⟩
  · rw [sI_I, if_neg (by omega), sI_I, if_neg (by omega), sI_I, if_neg (by omega), sI_I, if_neg (by omega)]; exact a1
  · rw [sI_I, if_neg (by omega), sI_I, if_neg (by omega), sI_I, if_neg (by omega), sI_I, if_neg (by omega)]; exact a2
  · rw [sI_I, if_pos ⟨rfl, rfl⟩]
  · rw [sI_I, if_neg (by omega), sI_I, if_neg (by omega), sI_I, if_neg (by omega), sI_I, if_neg (by omega)]; exact a4
  · exact ((((Fr.refl σ).put _ (Or.inr ⟨by omega, by omega, fun _ => by omega⟩)).put _ (Or.inr ⟨by omega, by omega, fun _ => by omega⟩)).put _ (Or.inr ⟨by omega, by omega, fun _ => by omega⟩)).put _ (Or.inr ⟨by omega, by omega, fun _ => by omega⟩)
theorem q_add {ch : Nat → Nat} {rd ca pl b n p N lam : Nat} {σ : St} (h : RC ch rd ca pl b n σ) (ha : At rd pl σ p N lam) (hN : N < 60) (k f s : Int32) : s_X3_addNode pl k f s σ = some (I (N : Nat), addN pl N k f s σ) := by
  rw [q_addNode h.1 h.2.1 ha.2.2.1 (by omega), if_pos hN]
theorem q_expect {ch : Nat → Nat} {rd ca pl b n p N lam k : Nat} {σ : St} (h : RC ch rd ca pl b n σ) (ha : At rd pl σ p N lam) (hp : p ≤ n) (hc : ch (b + p) = k) : s_X5_expect rd (I (k : Nat)) σ = some ((), setI σ rd 2 (I ((p + 1 : Nat) : Int))) := by
  unfold s_X5_expect
  rw [if_pos h.2.2.2.1, q_next h ha.1 hp ha.2.1 (by omega), bd_eq, if_pos rfl, hc, if_pos rfl, if_pos h.2.2.2.1]
  simp only [ha.1, I_s, lt_eq]
theorem RC.pl3 {ch : Nat → Nat} {rd ca pl b n : Nat} {σ : St} (h : RC ch rd ca pl b n σ) : isO σ 3 pl = true := by
  rcases h.2.1 with rfl | rfl
  · exact h.1.o 3 7 (by decide)
  · exact h.1.o 3 13 (by decide)
def GRes (ch : Nat → Nat) (rd pl b n : Nat) (σ : St) (p N lam : Nat) (res : Option (Int32 × St)) (R : PR) : Prop :=
  ∃ σ' : St, res = some (I (N + R.2.2.1 - 1 : Int), σ') ∧ 1 ≤ R.2.2.1 ∧ PostS ch rd pl b σ σ' N lam R ∧
      ∀ κ φ, Str ch pl κ φ σ N lam (b + p) → lam + R.2.2.2 ≤ 3 → b + n < 640 →
        ∃ κ' : Nat → Nat, (∀ c, c < N → κ' c = κ c) ∧ Str ch pl κ' (upL ch φ lam (lam + R.2.2.2)) σ' (N + R.2.2.1) (lam + R.2.2.2) R.2.1 ∧ κ' (N + R.2.2.1 - 1) = b + p
/-- an atom, 1 or T -/
theorem g_leaf {ch : Nat → Nat} {rd ca pl b n : Nat} (kg : Nat → Int32 → St → Option (Int32 × St)) {σ : St} {d p N lam : Nat} (h : RC ch rd ca pl b n σ) (ha : At rd pl σ p N lam) (hp : p ≤ n) (hd1 : 1 ≤ d) (hd2 : d ≤ p + 1) (hN : N + 1 ≤ 60)
    (hc : isAt (ch (b + p)) = true ∨ ch (b + p) = 49 ∨ ch (b + p) = 84) : GRes ch rd pl b n σ p N lam (sc_X5_readGoal kg rd (I d) σ) (true, b + p + 1, 1, 0) := by
  have h126 := h.h126 (b + p)
  have hpn := h.lt hp (by rintro q; rw [q] at hc; revert hc; decide)
  have hn := h.hn
  obtain ⟨a1, f1, r1, k1⟩ := step_at h ha
  have n1 := q_next h ha.1 hp ha.2.1 (by omega)
  rw [if_pos rfl] at n1
  have hop : sP (setI σ rd 2 (I ((p + 1 : Nat) : Int))) rd 1 = some pl := h.2.2.2.2.2.1
  have hd60 : I (d : Int) ≤ 60 := by rw [I_lit, I_le (by omega) (by omega)]; omega
  have hk : kd ch (b + p) = ch (b + p) := by
    unfold kd
    rw [if_neg]
    rintro q
    rw [q] at hc
    revert hc
    decide
  have q1 := q_add r1 a1 (by omega) (I (ch (b + p) : Nat)) (I (-1)) (I (-1))
  obtain ⟨a2, f2⟩ := add_at r1 a1 (I (ch (b + p) : Nat)) (I (-1)) (I (-1))
  have hres : sc_X5_readGoal kg rd (I d) σ = some (I (N : Nat), addN pl N (I (ch (b + p) : Nat)) (I (-1)) (I (-1)) (setI σ rd 2 (I ((p + 1 : Nat) : Int)))) := by
    unfold sc_X5_readGoal
    rw [if_pos h.2.2.2.1, n1, bd_eq, if_pos hd60, q_isAtom (by omega), bd_eq]
    have h96 : s_X5_readGoal_96 kg rd (I (ch (b + p) : Nat)) σ = some (I (N : Nat), addN pl N (I (ch (b + p) : Nat)) (I (-1)) (I (-1)) (setI σ rd 2 (I ((p + 1 : Nat) : Int)))) := by
      unfold s_X5_readGoal_96
      rw [if_pos h.2.2.2.1]
      simp only [ha.1, I_s, lt_eq, hop, op_eq, r1.pl3, if_true, hm1, q1, bd_eq]
    by_cases c1 : isAt (ch (b + p)) = true
    · rw [if_pos c1, if_neg (by decide), if_pos h.2.2.2.1]
      simp only [ha.1, I_s, lt_eq, hop, op_eq, r1.pl3, if_true, hm1, q1, bd_eq]
    · rw [if_neg c1, if_pos rfl]
      rcases hc with hc | hc | hc
      · exact absurd hc c1
      · rw [hc] at h96 ⊢
        rw [if_neg (by decide), if_neg (by decide), if_pos (by decide)]
        exact h96
      · rw [hc] at h96 ⊢
        rw [if_neg (by decide), if_neg (by decide), if_neg (by decide), if_pos (by decide)]
        exact h96
  refine ⟨_, ?_, Nat.le_refl _, ⟨f1.trans f2, by dsimp only; omega, ?_⟩, fun κ φ hs hl hb => ?_⟩
  · rw [hres]
    congr 3
    try dsimp only
    omega
  · try dsimp only
    rw [show b + p + 1 - b = p + 1 by omega, Nat.add_zero]
    exact a2
  · refine ⟨upK κ N (b + p), fun c hc => by unfold upK; rw [if_neg (by omega)], ?_, ?_⟩
    · try dsimp only
      rw [Nat.add_zero, upL_self]
      have hne : ch (b + p) ≠ 91 := by rintro q; rw [q] at hc; revert hc; decide
      have hs1 := hs.mv k1 (cntB_step hne : cntB ch (b + p + 1) = _)
      have := hs1.add (P0 := b + p) (f := I (-1)) (s := I (-1)) (by rw [hk]; exact h126) (fun q => absurd hc (by rcases q with q | q | q <;> rw [q] <;> decide)) (fun q => absurd hc (by rw [q]; decide)) (fun q => absurd q hne) (by rcases hc with q | q | q; exact Or.inl q; exact Or.inr (Or.inl q); exact Or.inr (Or.inr (Or.inl q))) (fun q => absurd hc (by rw [q]; decide))
      rw [hk] at this
      exact this
    · try dsimp only
      unfold upK
      rw [if_pos (by omega)]
/-- ! -/
theorem g_bang {ch : Nat → Nat} {rd ca pl b n F : Nat} {kg : Nat → Int32 → St → Option (Int32 × St)} (hk : SGoal ch rd ca pl b n F kg) {σ : St} {d p N lam q k l : Nat} (h : RC ch rd ca pl b n σ) (ha : At rd pl σ p N lam) (hp : p ≤ n) (hd1 : 1 ≤ d) (hd2 : d ≤ p + 1) (hF : 62 ≤ F + 1 + p) (hlam : lam ≤ 1000 + p)
    (hc : ch (b + p) = 33) (hg : pgoal ch F (b + p + 1) = (true, q, k, l)) (hN : N + (k + 1) ≤ 60) : GRes ch rd pl b n σ p N lam (sc_X5_readGoal kg rd (I d) σ) (true, q, k + 1, l) := by
  have hpn := h.lt hp (by omega)
  have hn := h.hn
  obtain ⟨a1, f1, r1, k1⟩ := step_at h ha
  have n1 := q_next h ha.1 hp ha.2.1 (by omega)
  rw [if_pos rfl, hc] at n1
  have hop : sP (setI σ rd 2 (I ((p + 1 : Nat) : Int))) rd 1 = some pl := h.2.2.2.2.2.1
  have hd60 : I (d : Int) ≤ 60 := by rw [I_lit, I_le (by omega) (by omega)]; omega
  have hg' : pgoal ch F (b + (p + 1)) = (true, q, k, l) := hg
  obtain ⟨σ2, g1, g2, g3, g4⟩ := hk (setI σ rd 2 (I ((p + 1 : Nat) : Int))) (d + 1) (p + 1) N lam r1 a1 hpn (by omega) (by omega) (by omega) (by rw [hg']) (by rw [hg']; dsimp only; omega) (by omega)
  rw [hg'] at g1 g2 g3 g4
  dsimp only at g1 g2 g4
  have r2 := r1.fr g3.1
  have a2 := g3.2.2
  dsimp only at a2
  have q2 := q_add r2 a2 (by omega) (I (33 : Nat)) (I (N + k - 1)) (I (-1))
  obtain ⟨a3, f3⟩ := add_at r2 a2 (I (33 : Nat)) (I (N + k - 1)) (I (-1))
  refine ⟨_, ?_, by dsimp only; omega, ⟨(f1.trans g3.1).trans f3, g3.2.1, ?_⟩, fun κ φ hs hl hb => ?_⟩
  · unfold sc_X5_readGoal
    rw [if_pos h.2.2.2.1, n1, bd_eq, if_pos hd60, q_isAtom (by omega), bd_eq, if_neg (show ¬ isAt 33 = true by decide), if_pos rfl, if_pos (by decide), if_pos h.2.2.2.1]
    simp only [ha.1, I_s, lt_eq, hop, op_eq, g1, bd_eq, r2.pl3, if_true, hm1]
    rw [q2, bd_eq]
    congr 3
    try dsimp only
    omega
  · try dsimp only
    rw [show N + (k + 1) = N + k + 1 by omega]
    exact a3
  · dsimp only at hl ⊢
    have hs1 := hs.mv k1 (cntB_step (by omega) : cntB ch (b + p + 1) = _)
    obtain ⟨κ', x1, x2, x3⟩ := g4 κ φ hs1 hl hb
    have hk33 : kd ch (b + p) = 33 := by unfold kd; rw [if_neg (by omega), hc]
    have := x2.add (P0 := b + p) (f := I (N + k - 1)) (s := I (-1)) (by omega) (fun _ => ⟨N + k - 1, by omega, by congr 1; omega, by rw [x3]; unfold ch1; rw [if_neg (by omega)]; rfl⟩) (fun q => by omega) (fun q => by omega) (Or.inr (Or.inr (Or.inr (Or.inl hc)))) (fun q => by omega)
    rw [hk33] at this
    refine ⟨upK κ' (N + k) (b + p), fun c hc => ?_, ?_, ?_⟩
    · unfold upK; rw [if_neg (by omega)]; exact x1 c hc
    · rw [show N + (k + 1) = N + k + 1 by omega]; exact this
    · unfold upK; rw [if_pos (by omega)]
theorem isOp_spec {c : Nat} (h : isOp c = true) : c = 42 ∨ c = 38 ∨ c = 43 := of_decide_eq_true h
theorem eG_eq {ch : Nat → Nat} {b n F p : Nat} (hend : ∀ i, b + n ≤ i → i < b + 64 → ch i = 0) (hn : n ≤ 60) (hp : p ≤ n) (hF : 62 ≤ F + p) : G64 ch (b + p) = pgoal ch F (b + p) := pgoal_fuel ch b n hend hn 64 F (b + p) (by omega) (by omega) (by omega) (by omega)
/-- a pair -/
theorem g_pair {ch : Nat → Nat} {rd ca pl b n F : Nat} {kg : Nat → Int32 → St → Option (Int32 × St)} (hk : SGoal ch rd ca pl b n F kg) {σ : St} {d p N lam q1 k1 l1 q2 k2 l2 : Nat} (h : RC ch rd ca pl b n σ) (ha : At rd pl σ p N lam) (hp : p ≤ n) (hd1 : 1 ≤ d) (hd2 : d ≤ p + 1) (hF : 62 ≤ F + 1 + p) (hlam : lam ≤ 1000 + p)
    (hc : ch (b + p) = 40) (hg : pgoal ch F (b + p + 1) = (true, q1, k1, l1)) (ho : isOp (ch q1) = true) (hg2 : pgoal ch F (q1 + 1) = (true, q2, k2, l2)) (hc2 : ch q2 = 41) (hN : N + (k1 + (k2 + 1)) ≤ 60) : GRes ch rd pl b n σ p N lam (sc_X5_readGoal kg rd (I d) σ) (true, q2 + 1, k1 + (k2 + 1), l1 + l2) := by
  have hpn := h.lt hp (by omega)
  have hn := h.hn
  have hend := h.hend
  obtain ⟨a1, f1, r1, e1⟩ := step_at h ha
  have n1 := q_next h ha.1 hp ha.2.1 (by omega)
  rw [if_pos rfl, hc] at n1
  have hd60 : I (d : Int) ≤ 60 := by rw [I_lit, I_le (by omega) (by omega)]; omega
  have hg' : pgoal ch F (b + (p + 1)) = (true, q1, k1, l1) := hg
  have hx1 := q_expect h ha hp hc
  obtain ⟨σ2, g1, g2, g3, g4⟩ := hk (setI σ rd 2 (I ((p + 1 : Nat) : Int))) (d + 1) (p + 1) N lam r1 a1 hpn (by omega) (by omega) (by omega) (by rw [hg']) (by rw [hg']; dsimp only; omega) (by omega)
  rw [hg'] at g1 g2 g3 g4
  dsimp only at g1 g2 g4
  have r2 := r1.fr g3.1
  have a2 := g3.2.2
  have hb1 := g3.2.1
  dsimp only at a2 hb1
  have hpos1 := pgoal_pos ch b n hend hn F (b + p + 1) (by omega) (by omega)
  rw [hg] at hpos1
  dsimp only at hpos1
  have hlt1 := hpos1.2.2 rfl
  have hq1 : b + (q1 - b) = q1 := by omega
  have hop3 := isOp_spec ho
  have hq1n := r2.lt (p := q1 - b) (by omega) (by rw [hq1]; omega)
  have n2 := q_next r2 a2.1 (by omega) a2.2.1 (by omega)
  rw [if_pos rfl, hq1] at n2
  obtain ⟨a3, f3, r3, e3⟩ := step_at r2 a2
  have hlam1 : lam + l1 ≤ 1000 + (q1 - b) := by
    have := (pgoal_fits ch F (b + p + 1))
    rw [hg] at this
    have := (this rfl).2.1
    dsimp only at this
    omega
  have hgq : pgoal ch F (b + (q1 - b + 1)) = (true, q2, k2, l2) := by rw [show b + (q1 - b + 1) = q1 + 1 by omega]; exact hg2
  obtain ⟨σ4, j1, j2, j3, j4⟩ := hk (setI σ2 rd 2 (I ((q1 - b + 1 : Nat) : Int))) (d + 1) (q1 - b + 1) (N + k1) (lam + l1) r3 a3 hq1n (by omega) (by omega) (by omega) (by rw [hgq]) (by rw [hgq]; dsimp only; omega) (by omega)
  rw [hgq] at j1 j2 j3 j4
  dsimp only at j1 j2 j4
  have r4 := r3.fr j3.1
  have a4 := j3.2.2
  have hb2 := j3.2.1
  dsimp only at a4 hb2
  have hq2 : b + (q2 - b) = q2 := by omega
  have hpos2 := pgoal_pos ch b n hend hn F (q1 + 1) (by omega) (by omega)
  rw [hg2] at hpos2
  dsimp only at hpos2
  have hx2 := q_expect (k := 41) r4 a4 (by omega) (by rw [hq2]; exact hc2)
  obtain ⟨a5, f5, r5, e5⟩ := step_at r4 a4
  have q5 := q_add r5 a5 (by omega) (I (ch q1 : Nat)) (I (N + k1 - 1)) (I ((N + k1 : Nat) + k2 - 1))
  obtain ⟨a6, f6⟩ := add_at r5 a5 (I (ch q1 : Nat)) (I (N + k1 - 1)) (I ((N + k1 : Nat) + k2 - 1))
  refine ⟨_, ?_, by dsimp only; omega, ⟨((((f1.trans g3.1).trans f3).trans j3.1).trans f5).trans f6, by dsimp only; omega, ?_⟩, fun κ φ hs hl hb => ?_⟩
  · unfold sc_X5_readGoal
    rw [if_pos h.2.2.2.1, n1, bd_eq, if_pos hd60, q_isAtom (by omega), bd_eq, if_neg (show ¬ isAt 40 = true by decide), if_pos rfl, if_neg (by decide), if_pos (by decide), if_pos h.2.2.2.1]
    have h42 : s_X5_readPair_42 kg rd (I d) (I (N + k1 - 1)) (I (ch q1 : Nat)) σ2 = some (I (N + k1 + k2 : Nat), addN pl (N + k1 + k2) (I (ch q1 : Nat)) (I (N + k1 - 1)) (I ((N + k1 : Nat) + k2 - 1)) (setI σ4 rd 2 (I ((q2 - b + 1 : Nat) : Int)))) := by
      unfold s_X5_readPair_42
      rw [if_pos r2.2.2.2.1]
      simp only [a2.1, I_s, lt_eq, j1, bd_eq, r4.2.2.2.1, if_true]
      rw [show (41 : Int32) = I ((41 : Nat) : Int) from rfl, hx2, bd_eq, if_pos r5.2.2.2.1, r5.2.2.2.2.2.1, op_eq, if_pos r5.pl3, q5, bd_eq]
    have hpair : s_X5_readPair kg rd (I d) σ = some (I (N + k1 + k2 : Nat), addN pl (N + k1 + k2) (I (ch q1 : Nat)) (I (N + k1 - 1)) (I ((N + k1 : Nat) + k2 - 1)) (setI σ4 rd 2 (I ((q2 - b + 1 : Nat) : Int)))) := by
      unfold s_X5_readPair
      rw [if_pos h.2.2.2.1, show (40 : Int32) = I ((40 : Nat) : Int) from rfl, hx1, bd_eq, if_pos r1.2.2.2.1, I_s, g1, bd_eq, if_pos r2.2.2.2.1, n2, bd_eq]
      rcases hop3 with e | e | e
      · rw [e] at h42 ⊢
        rw [if_pos (by decide)]; exact h42
      · rw [e] at h42 ⊢
        rw [if_neg (by decide), if_pos (by decide)]; exact h42
      · rw [e] at h42 ⊢
        rw [if_neg (by decide), if_neg (by decide), if_pos (by decide)]; exact h42
    rw [hpair, bd_eq]
    congr 3
    try dsimp only
    omega
  · try dsimp only
    rw [show N + (k1 + (k2 + 1)) = N + k1 + k2 + 1 by omega, show q2 + 1 - b = q2 - b + 1 by omega, ← Nat.add_assoc]
    exact a6
  · dsimp only at hl ⊢
    have hs1 := hs.mv e1 (cntB_step (by omega) : cntB ch (b + p + 1) = _)
    obtain ⟨κ1, x1, x2, x3⟩ := g4 κ φ hs1 (by omega) hb
    have hs2 := x2.mv e3 (cntB_step (by omega) : cntB ch (q1 + 1) = _)
    rw [show q1 + 1 = b + (q1 - b + 1) by omega] at hs2
    obtain ⟨κ2, y1, y2, y3⟩ := j4 κ1 _ hs2 (by omega) hb
    rw [upL_upL ch φ (by omega) (by omega)] at y2
    have hs3 := y2.mv e5 (cntB_step (by omega) : cntB ch (q2 + 1) = _)
    have heG : eG ch (b + p + 1) = q1 := by
      unfold eG
      rw [show b + p + 1 = b + (p + 1) by omega, eG_eq (F := F) hend hn (by omega) (by omega), hg']
    have hkd : kd ch (b + p) = ch q1 := by unfold kd; rw [if_pos hc, heG]
    have := hs3.add (P0 := b + p) (f := I (N + k1 - 1)) (s := I ((N + k1 : Nat) + k2 - 1)) (by rw [hkd]; omega)
      (fun _ => ⟨N + k1 - 1, by omega, by congr 1; omega, by rw [y1 _ (by omega), x3]; unfold ch1; rw [if_neg (by omega)]; rfl⟩)
      (fun _ => ⟨N + k1 + k2 - 1, by omega, by congr 1; omega, by rw [y3]; unfold ch2; rw [heG]; omega⟩) (fun q => by omega) (Or.inr (Or.inr (Or.inr (Or.inr (Or.inl hc))))) (fun _ => by rw [hkd]; exact ho)
    rw [hkd] at this
    refine ⟨upK κ2 (N + k1 + k2) (b + p), fun c hc => ?_, ?_, ?_⟩
    · unfold upK; rw [if_neg (by omega), y1 c (by omega)]; exact x1 c hc
    · rw [show N + (k1 + (k2 + 1)) = N + k1 + k2 + 1 by omega, ← Nat.add_assoc]; exact this
    · unfold upK; rw [if_pos (by omega)]
