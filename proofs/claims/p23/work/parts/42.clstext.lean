def plC (pl : Nat) : Nat → Nat → Prop := fun a _ => pl ≤ a ∧ a ≤ pl + 5
theorem clr_loop {pl : Nat} (hpl : pl = 7 ∨ pl = 13) : ∀ (j i m : Nat) {σ : St}, i + j = 36 → SS σ → (∀ x, x < i → sI σ (pl + 4) x = I (0 : Nat) ∧ sI σ (pl + 5) x = I (-1)) →
    ∃ σ', s_X3_clear_17 (m + j + 1) pl (I (i : Nat)) σ = some ((), σ') ∧ Fr (fun a _ => a = pl + 4 ∨ a = pl + 5) σ σ' ∧ ∀ x, x < 36 → sI σ' (pl + 4) x = I (0 : Nat) ∧ sI σ' (pl + 5) x = I (-1) := by
  have e0 : ∀ σ, SS σ → isO σ 3 pl = true := fun σ hs => by rcases hpl with rfl | rfl; exact hs.o 3 7 (by decide); exact hs.o 3 13 (by decide)
  have e1 : ∀ σ, SS σ → sP σ pl 3 = some (pl + 4) := fun σ hs => by rcases hpl with rfl | rfl; exact hs.p 7 3 11 (by decide); exact hs.p 13 3 17 (by decide)
  have e2 : ∀ σ, SS σ → sP σ pl 4 = some (pl + 5) := fun σ hs => by rcases hpl with rfl | rfl; exact hs.p 7 4 12 (by decide); exact hs.p 13 4 18 (by decide)
  have o1 : ∀ σ, SS σ → isO σ 12 (pl + 4) = true := fun σ hs => by rcases hpl with rfl | rfl; exact hs.o 12 11 (by decide); exact hs.o 12 17 (by decide)
  have o2 : ∀ σ, SS σ → isO σ 13 (pl + 5) = true := fun σ hs => by rcases hpl with rfl | rfl; exact hs.o 13 12 (by decide); exact hs.o 13 18 (by decide)
  have l1 : ∀ σ, SS σ → alen σ (pl + 4) = 36 := fun σ hs => by rcases hpl with rfl | rfl; exact hs.len 11 36 (by decide); exact hs.len 17 36 (by decide)
  have l2 : ∀ σ, SS σ → alen σ (pl + 5) = 36 := fun σ hs => by rcases hpl with rfl | rfl; exact hs.len 12 36 (by decide); exact hs.len 18 36 (by decide)
  intro j
  induction j with
  | zero =>
    intro i m σ hij hs hx
    obtain rfl : i = 36 := (by omega)
    refine ⟨σ, ?_, Fr.refl _, hx⟩
    show sb_X3_clear_17 (s_X3_clear_17 (m + 0)) pl (I (36 : Nat)) σ = _
    unfold sb_X3_clear_17
    rw [if_pos (e0 σ hs), e1 σ hs, op_eq, if_pos (o1 σ hs), l1 σ hs, I_nI, if_pos (by decide)]
  | succ j ih =>
    intro i m σ hij hs hx
    obtain ⟨σ', a1, a2, a3⟩ := ih (i + 1) m (σ := setI (setI σ (pl + 4) i (I (0 : Nat))) (pl + 5) i (I (-1))) (by omega) ((hs.i (pl + 4) i (I (0 : Nat))).i (pl + 5) i (I (-1))) (fun x hxi => by
      by_cases cx : x = i
      · subst cx; exact ⟨by rw [sIn (by omega), sIe], sIe⟩
      · rw [sIn (by omega), sIn (by omega), sIn (by omega), sIn (by omega)]; exact hx x (by omega))
    refine ⟨σ', ?_, (((Fr.refl σ).put (a := pl + 4) (k := i) _ (Or.inl rfl)).put (a := pl + 5) (k := i) _ (Or.inr rfl)).trans a2, a3⟩
    rw [← a1, show m + (j + 1) + 1 = (m + j + 1) + 1 by omega]
    show sb_X3_clear_17 (s_X3_clear_17 (m + j + 1)) pl (I (i : Nat)) σ = _
    unfold sb_X3_clear_17
    have c0 : ((0 : Int32).toUInt32 % 65536).toInt32 = I (0 : Nat) := by decide
    rw [if_pos (e0 σ hs), e1 σ hs, op_eq, if_pos (o1 σ hs), l1 σ hs, I_nI, if_neg (by rw [I_le (by omega) (by omega)]; omega), e2 σ hs, op_eq, if_pos (o2 σ hs), l2 σ hs, I_nI, if_neg (by rw [I_le (by omega) (by omega)]; omega), if_pos (inN (show i < 36 by omega) (by omega)), tNI (by omega), c0, lt_eq,
      l2 (setI σ (pl + 4) i (I (0 : Nat))) (hs.i (pl + 4) i (I (0 : Nat))), if_pos (inN (show i < 36 by omega) (by omega)), lt_eq, I_p1, lt_eq]
    rfl
theorem q_clear {pl : Nat} (hpl : pl = 7 ∨ pl = 13) {σ : St} (hs : SS σ) : ∃ σ', s_X3_clear pl σ = some ((), σ') ∧ Fr (plC pl) σ σ' ∧ sI σ' pl 5 = I (0 : Nat) ∧ sI σ' pl 6 = I (0 : Nat) ∧ sI σ' pl 7 = I (-1) ∧ ∀ x, x < 36 → sI σ' (pl + 4) x = I (0 : Nat) ∧ sI σ' (pl + 5) x = I (-1) := by
  have e0 : isO σ 3 pl = true := by rcases hpl with rfl | rfl; exact hs.o 3 7 (by decide); exact hs.o 3 13 (by decide)
  have f0 : Fr (plC pl) σ (setI (setI (setI σ pl 5 0) pl 6 0) pl 7 (-1)) := (((Fr.refl σ).put _ (by unfold plC; omega)).put _ (by unfold plC; omega)).put _ (by unfold plC; omega)
  obtain ⟨σ', a1, a2, a3⟩ := clr_loop hpl 36 0 15963 (by omega) (f0.ss hs) (fun x hx => by omega)
  refine ⟨σ', ?_, f0.trans (a2.mono (fun a k q => by unfold plC; omega)), by rw [a2.i _ _ (by omega), sIn (by omega), sIn (by omega), sIe]; rfl, by rw [a2.i _ _ (by omega), sIn (by omega), sIe]; rfl, by rw [a2.i _ _ (by omega), sIe]; rfl, a3⟩
  unfold s_X3_clear
  rw [if_pos e0, lt_eq, lt_eq, lt_eq]
  exact a1
/-- a new reader -/
theorem q_newrd {ch : Nat → Nat} {pl b n c : Nat} {σ : St} (hs : SS σ) (hpl : pl = 7 ∨ pl = 13) (hc : isO σ 12 c = true) (hc54 : 30 ≤ c) (hl : alen σ c = n) (hn : n ≤ 60) (hx : ∀ i, i < n → sI σ c i = I (ch (b + i) : Nat)) (h126 : ∀ i, ch i ≤ 126) (hend : ∀ i, b + n ≤ i → i < b + 64 → ch i = 0) {N lam : Nat} (h5 : sI σ pl 5 = I (N : Nat)) (h6 : sI σ pl 6 = I (lam : Nat)) :
    ∃ σ', s_X5_init (sn σ) c pl (newC σ 5 4) = some ((), σ') ∧ Gr (fun _ _ => False) (fun _ _ => False) σ σ' ∧ sn σ' = sn σ + 1 ∧ sz σ' = sz σ + 4 ∧ RC ch (sn σ) c pl b n σ' ∧ At (sn σ) pl σ' 0 N lam ∧ isO σ' 5 (sn σ) = true := by
  have hg := new_gr (CI := fun _ _ => False) (CP := fun _ _ => False) σ 5 4
  have h54 := hs.1
  have hs1 := hg.ss hs (fun _ _ q => q.elim)
  have ho : isO (newC σ 5 4) 5 (sn σ) = true := new_o (by omega)
  have hcl := (isO_lt hc).2
  have pl54 : pl < sn σ := by omega
  have hfin : Gr (fun _ _ => False) (fun _ _ => False) σ (setP (setP (setI (setI (newC σ 5 4) (sn σ) 2 0) (sn σ) 3 (-6)) (sn σ) 0 (some c)) (sn σ) 1 (some pl)) := by
    refine ⟨hg.1, hg.2.1, fun a k ha hq => ?_, hg.2.2.2.1, fun a k ha hq => ?_⟩
    · show sI (setI (setI (newC σ 5 4) (sn σ) 2 0) (sn σ) 3 (-6)) a k = _
      rw [sIn (by omega), sIn (by omega)]
      exact hg.2.2.1 a k ha hq
    · rw [sP_P, if_neg (by omega), sP_P, if_neg (by omega)]
      exact hg.2.2.2.2 a k ha hq
  refine ⟨_, ?_, hfin, rfl, rfl, ?_, ?_, ho⟩
  · unfold s_X5_init
    rw [if_pos ho, lt_eq, lt_eq, lt_eq, lt_eq]
  · refine ⟨hfin.ss hs (fun _ _ q => q.elim), hpl, ⟨h54, hc54, by omega⟩, ho, by rw [sP_P, if_neg (by omega), sP_P, if_pos ⟨rfl, rfl⟩], by rw [sP_P, if_pos ⟨rfl, rfl⟩], hfin.o hc, by rw [hfin.len hcl]; exact hl, hn, fun i hi => ?_, h126, hend⟩
    rw [hfin.2.2.1 c i hcl id]
    exact hx i hi
  · refine ⟨?_, ?_, by rw [hfin.2.2.1 pl 5 pl54 id]; exact h5, by rw [hfin.2.2.1 pl 6 pl54 id]; exact h6⟩
    · show sI (setI (setI (newC σ 5 4) (sn σ) 2 0) (sn σ) 3 (-6)) (sn σ) 2 = _
      rw [sIn (by omega), sIe]
      rfl
    · show sI (setI (setI (newC σ 5 4) (sn σ) 2 0) (sn σ) 3 (-6)) (sn σ) 3 = _
      exact sIe
