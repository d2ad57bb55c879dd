/-! the class builds its plan from all texts -/
theorem ost_slot {ch : Nat → Nat} {k : Nat} (hk : k < 10) (hk0 : k ≠ 0) : ost ch (oS k) = if ch (64 * k) = 0 then none else some (64 * k) := by
  unfold ost oS
  by_cases c : 6 ≤ k
  · rw [if_pos c, if_neg (by omega), if_neg (by omega), if_pos (by omega), show k + 2 - 2 = k by omega]
  · rw [if_neg c, if_pos (by omega), show k - 1 + 1 = k by omega]
theorem fp_slot {ch : Nat → Nat} {k : Nat} (hk : k < 10) (hk0 : k ≠ 0) (f : Nat) : fp ch (oS k) f = if ch (64 * k) = 0 then none else fpos ch (64 * k) f := by
  unfold fp
  rw [ost_slot hk hk0]
  by_cases c : ch (64 * k) = 0
  · rw [if_pos c, if_pos c]
  · rw [if_neg c, if_neg c]
theorem phK_off {ch : Nat → Nat} {k lam : Nat} (hk : k < 10) (hc : ch (64 * k) = 0) : ∀ o f, o < 12 → phK ch (k + 1) lam o f = phK ch k lam o f := by
  intro o f ho
  unfold phK
  by_cases cc : (o < 5 ∧ o + 1 < k) ∨ (5 ≤ o ∧ o < 5 + lam) ∨ (8 ≤ o ∧ o < k + 2)
  · rw [if_pos cc, if_pos (by omega)]
  · rw [if_neg cc]
    by_cases c2 : (o < 5 ∧ o + 1 < k + 1) ∨ (5 ≤ o ∧ o < 5 + lam) ∨ (8 ≤ o ∧ o < k + 1 + 2)
    · rw [if_pos c2]
      have e : o = oS k ∧ k ≠ 0 := by unfold oS; split <;> omega
      rw [e.1, fp_slot hk e.2, if_pos hc]
    · rw [if_neg c2]
def bdI : Nat → Nat → Prop := fun a _ => 13 ≤ a ∧ a ≤ 18
def BInv (ch sl : Nat → Nat) (k : Nat) (σ : St) (κ : Nat → Nat) : Prop :=
  SS σ ∧ Stk 5 ch sl σ ∧ sI σ 13 5 = I (tot (nN ch sl) 99 k : Nat) ∧ sI σ 13 6 = I (tot (lL ch sl) 99 k : Nat) ∧ Str ch 13 κ (phK ch k (tot (lL ch sl) 99 k)) σ (tot (nN ch sl) 99 k) (tot (lL ch sl) 99 k) (64 * k) ∧
  (1 ≤ k → sl 0 ≠ 0 → ∃ r, r < tot (nN ch sl) 99 k ∧ sI σ 13 7 = I (r : Nat) ∧ κ r = 0)
theorem Str.len {ch : Nat → Nat} {pl : Nat} {κ : Nat → Nat} {φ : Nat → Nat → Option Nat} {σ : St} {N lam P : Nat} (h : Str ch pl κ φ σ N lam P) {φ' : Nat → Nat → Option Nat} (he : ∀ x y, x < 12 → y < 3 → φ' x y = φ x y) : Str ch pl κ φ' σ N lam P := by
  obtain ⟨a, b, c, d⟩ := h
  exact ⟨a, fun o f ho hf => by rw [he o f ho hf]; exact b o f ho hf, c, fun o f h1 h2 h3 => by rw [he o f (by omega) h3]; exact d o f h1 h2 h3⟩
theorem Stk.bd {ch sl : Nat → Nat} {σ σ' : St} {CI : Nat → Nat → Prop} (h : Stk 5 ch sl σ) (hg : Gr CI (fun _ _ => False) σ σ') (h54 : 30 ≤ sn σ) (h1 : ∀ a k, CI a k → a < 30) : Stk 5 ch sl σ' := h.gr hg (by omega) h1 (fun a k q => q.elim)
/-- one slot -/
theorem bd_slot {ch sl : Nat → Nat} (ht : Txt ch sl) (hv : Valid ch sl) (hN : tot (nN ch sl) 99 10 ≤ 60) (hL : tot (lL ch sl) 99 10 ≤ 3) {k m : Nat} (hk : k < 10) (h0 : sl k ≠ 0) {σ : St} {κ : Nat → Nat} (h : BInv ch sl k σ κ) :
    ∃ σ' κ', s_X3_build_6 (m + 1) 13 4 (I (k : Nat)) σ = s_X3_build_6 m 13 4 (I ((k + 1 : Nat) : Int)) σ' ∧ BInv ch sl (k + 1) σ' κ' ∧ Gr bdI (fun _ _ => False) σ σ' ∧ sn σ' = sn σ + 1 ∧ sz σ' = sz σ + 4 := by
  obtain ⟨hs, hst, h5, h6, hstr, hroot⟩ := h
  have hT := ht.1 k (by omega)
  have hend : ∀ i, 64 * k + sl k ≤ i → i < 64 * k + 64 → ch i = 0 := fun i h1 h2 => by
    have := hT.2.2 (i - 64 * k) (by omega) (by omega)
    rw [show 64 * k + (i - 64 * k) = i by omega] at this
    exact this
  have h54 := hs.1
  have hit := hst k hk
  rw [if_neg h0] at hit
  obtain ⟨it, g1, g2, g3, g4, g5, c, g6, g7, g8, g9, g10⟩ := hit
  have eN : tot (nN ch sl) 99 (k + 1) = tot (nN ch sl) 99 k + nN ch sl k := by
    show tot (nN ch sl) 99 k + (if k = 99 then 0 else nN ch sl k) = _
    rw [if_neg (by omega)]
  have eL : tot (lL ch sl) 99 (k + 1) = tot (lL ch sl) 99 k + lL ch sl k := by
    show tot (lL ch sl) 99 k + (if k = 99 then 0 else lL ch sl k) = _
    rw [if_neg (by omega)]
  have mN := tot_mono (f := nN ch sl) (b := 99) (show k + 1 ≤ 10 by omega)
  have mL := tot_mono (f := lL ch sl) (b := 99) (show k + 1 ≤ 10 by omega)
  have hcnt : cntB ch (64 * (k + 1)) = cntB ch (64 * k + sl k) := by
    refine cntB_const _ (by omega) (fun i h1 h2 => ?_)
    rw [hend i (by omega) (by omega)]
    omega
  have hch : ch (64 * k) ≠ 0 := by
    have := hT.2.1 0 (by omega)
    rw [show 64 * k + 0 = 64 * k by omega] at this
    omega
  obtain ⟨σ1, b1, b2, b3, b4, b5, b6, b7⟩ := q_newrd (ch := ch) (b := 64 * k) (n := sl k) hs (Or.inr rfl) g8 g7 g9 hT.1 g10 ht.2 hend h5 h6
  have hs1 := b2.ss hs (fun _ _ q => q.elim)
  have cells1 : ∀ a x, a < 30 → sI σ1 a x = sI σ a x := fun a x ha => b2.2.2.1 a x (by omega) id
  have hstr1 : Str ch 13 κ (phK ch k (tot (lL ch sl) 99 k)) σ1 (tot (nN ch sl) 99 k) (tot (lL ch sl) 99 k) (64 * k) := hstr.mv (fun a h1 h2 => funext fun x => cells1 a x (by omega)) rfl
  have hst1 := hst.bd b2 h54 (fun a k q => q.elim)
  rw [eN] at mN
  rw [eL] at mL
  unfold BInv
  rw [eN, eL]
  generalize hNk : tot (nN ch sl) 99 k = N at *
  generalize hLk : tot (lL ch sl) 99 k = lam at *
  have hgF : ∀ σ2, Fr (rdC (sn σ) 13) σ1 σ2 → Gr bdI (fun _ _ => False) σ σ2 := fun σ2 hf => (b2.mono (CI' := bdI) (CP' := fun _ _ => False) (fun a k _ q => q.elim) (fun a k _ q => q)).trans2 (hf.gr (CP := fun _ _ => False)) (fun a x ha q => by
    unfold rdC at q
    unfold bdI
    omega) (fun a k _ q => q)
  -- the head of the loop's body
  have head : ∀ X, ((if I (k : Nat) = 0 then (if isO σ1 5 (sn σ) = true then (bd (s_X5_readWholeGoal (sn σ) σ1) fun r40 σ38 =>
 if isO σ38 3 13 = true then (lt (setI σ38 13 7 r40) fun σ42 =>
 lt (I (k : Nat) + 1 : Int32) fun v44 =>
 s_X3_build_6 m 13 4 v44 σ42) else none) else none) else (if (6 : Int32) ≤ I (k : Nat) then (if isO σ1 5 (sn σ) = true then (bd (s_X5_readWholeOffer (sn σ) ((8 + I (k : Nat)) - 6) σ1) fun r28 σ26 =>
 lt (I (k : Nat) + 1 : Int32) fun v29 =>
 s_X3_build_6 m 13 4 v29 σ26) else none) else (if isO σ1 5 (sn σ) = true then (bd (s_X5_readWholeOffer (sn σ) (I (k : Nat) - 1) σ1) fun r34 σ32 =>
 lt (I (k : Nat) + 1 : Int32) fun v35 =>
 s_X3_build_6 m 13 4 v35 σ32) else none))) = X) → s_X3_build_6 (m + 1) 13 4 (I (k : Nat)) σ = X := fun X hX => by
    show sb_X3_build_6 (s_X3_build_6 m) 13 4 (I (k : Nat)) σ = _
    unfold sb_X3_build_6 s_X1_signs
    have hgn := new_gr (CI := fun _ _ => False) (CP := fun _ _ => False) σ 5 4
    have hitl := (isO_lt g2).2
    rw [if_neg (by rw [I_lit, I_le (by omega) (by omega)]; omega), if_pos (hs.o 6 4 (by decide)), q_at hs hk, bd_eq, g1, on_some', lt_eq, lt_eq, if_pos (hgn.o g2), if_pos (hgn.o g2), hgn.2.2.2.2 it 0 hitl id, g6, op_eq, bd_eq, op_eq, b1, bd_eq]
    exact hX
  by_cases ck : k = 0
  · subst ck
    have e1 : nN ch sl 0 = (G64 ch (64 * 0)).2.2.1 := by unfold nN sR; rw [if_neg h0, if_pos rfl]
    have e2 : lL ch sl 0 = (G64 ch (64 * 0)).2.2.2 := by unfold lL sR; rw [if_neg h0, if_pos rfl]
    rw [e1] at mN ⊢
    rw [e2] at mL ⊢
    have n0 : N = 0 := hNk.symm
    have l0 : lam = 0 := hLk.symm
    obtain ⟨σ2, d1, d2, d3, d4, d5⟩ := wg_ok b5 b6 (hv.g h0) (by omega) (by omega)
    obtain ⟨κ', x1, x2, x3⟩ := d5 κ _ hstr1 (by omega) (by omega)
    have hs2 := d2.ss hs1
    have hst2 := hst.bd (hgF σ2 d2) h54 (fun a k q => by unfold bdI at q; omega)
    have hst3 : Stk 5 ch sl (setI σ2 13 7 (I (N + (G64 ch (64 * 0)).2.2.1 - 1 : Int))) := hst2.gr (CI := bdI) (CP := fun _ _ => False) (((Fr.refl σ2).put (C := bdI) _ (by unfold bdI; omega)).gr) (by have := hs2.1; omega) (fun a k q => by unfold bdI at q; omega) (fun a k q => q.elim)
    refine ⟨setI σ2 13 7 (I (N + (G64 ch (64 * 0)).2.2.1 - 1 : Int)), κ', head _ ?_, ⟨hs2.i _ _ _, hst3, by rw [sIn (by omega)]; exact d3.2.2.1, by rw [sIn (by omega)]; exact d3.2.2.2, ?_, fun _ _ => ⟨N + (G64 ch (64 * 0)).2.2.1 - 1, by omega, ?_, x3⟩⟩, ?_, by show sn σ2 = _; rw [d2.1]; exact b3, by show sz σ2 = _; rw [d2.2.1]; exact b4⟩
    · rw [if_pos (show I ((0 : Nat) : Int) = (0 : Int32) from rfl), if_pos b7, d1, bd_eq, if_pos (hs2.o 3 13 (by decide)), lt_eq, I_p1, lt_eq]
    · refine ((x2.mv (σ' := setI σ2 13 7 (I (N + (G64 ch (64 * 0)).2.2.1 - 1 : Int))) (fun a h1 h2 => funext fun x => by rw [sIn (by omega)]) hcnt).len (fun o f ho hf => ?_))
      unfold upL phK
      by_cases cl : 5 + lam ≤ o ∧ o < 5 + (lam + (G64 ch (64 * 0)).2.2.2)
      · rw [if_pos cl, if_pos (by omega)]
        exact fp_loan (by omega) (by omega)
      · rw [if_neg cl, if_neg (by omega), if_neg (by omega)]
    · rw [sIe]; congr 1; omega
    · exact (hgF σ2 d2).trans (((Fr.refl σ2).put (C := bdI) _ (by unfold bdI; omega)).gr)
  · have e1 : nN ch sl k = (poff (G64 ch) ch (64 * k)).2.2.1 := by unfold nN sR; rw [if_neg h0, if_neg ck]
    have e2 : lL ch sl k = (poff (G64 ch) ch (64 * k)).2.2.2 := by unfold lL sR; rw [if_neg h0, if_neg ck]
    rw [e1] at mN ⊢
    rw [e2] at mL ⊢
    have hoK : (oS k < 5 ∧ oS k + 1 = k) ∨ (8 ≤ oS k ∧ oS k = k + 2) := by unfold oS; split <;> omega
    have hfp := fp_slot (ch := ch) hk ck
    obtain ⟨σ2, d1, d2, d3, d5⟩ := wo_ok (o := (oS k : Int)) b5 b6 (hv.o hk h0 ck) (by omega) (by omega) (by omega)
    obtain ⟨κ', x1, x2⟩ := d5 κ _ hstr1 (by omega) (by omega) (by omega) (by omega) (fun f hf => by
      unfold phK
      rw [Int.toNat_natCast, if_neg (by omega)])
    rw [Int.toNat_natCast] at x2
    have hs2 := d2.ss hs1
    have hst2 := hst.bd (hgF σ2 d2) h54 (fun a k q => by unfold bdI at q; omega)
    refine ⟨σ2, κ', head _ ?_, ⟨hs2, hst2, d3.2.2.1, d3.2.2.2, ?_, fun _ q => ?_⟩, hgF σ2 d2, by rw [d2.1]; exact b3, by rw [d2.2.1]; exact b4⟩
    · rw [if_neg (by rw [I_lit, I_eq (by omega) (by omega)]; omega)]
      by_cases c6 : 6 ≤ k
      · have eo : (8 : Int32) + I (k : Nat) - 6 = I (oS k : Int) := by
          rw [I_lit, I_add, I_lit, I_sub]
          congr 1
          unfold oS
          rw [if_pos c6]
          show (8 : Int) + k - 6 = _
          omega
        rw [if_pos (by rw [I_lit, I_le (by omega) (by omega)]; omega), if_pos b7, eo, d1, bd_eq, I_p1, lt_eq]
      · have eo : I (k : Nat) - 1 = I (oS k : Int) := by
          rw [I_m1 (by omega)]
          unfold oS
          rw [if_neg c6]
        rw [if_neg (by rw [I_lit, I_le (by omega) (by omega)]; omega), if_pos b7, eo, d1, bd_eq, I_p1, lt_eq]
    · refine (x2.mv (σ' := σ2) (fun a h1 h2 => rfl) hcnt).len (fun o f ho hf => ?_)
      unfold setO
      by_cases cO : o = oS k
      · subst cO
        rw [if_pos rfl]
        unfold phK
        rw [if_pos (by omega), hfp, if_neg hch]
      · rw [if_neg cO]
        unfold upL phK
        by_cases cl : 5 + lam ≤ o ∧ o < 5 + (lam + (poff (G64 ch) ch (64 * k)).2.2.2)
        · rw [if_pos cl, if_pos (by omega)]
          exact fp_loan (by omega) (by omega)
        · rw [if_neg cl]
          by_cases cc : (o < 5 ∧ o + 1 < k) ∨ (5 ≤ o ∧ o < 5 + lam) ∨ (8 ≤ o ∧ o < k + 2)
          · rw [if_pos cc, if_pos (by omega)]
          · rw [if_neg cc, if_neg (by omega)]
    · obtain ⟨r, r1, r2, r3⟩ := hroot (by omega) q
      refine ⟨r, by omega, ?_, by rw [x1 r r1]; exact r3⟩
      rw [d2.i 13 7 (by unfold rdC; omega), cells1 13 7 (by omega)]
      exact r2
