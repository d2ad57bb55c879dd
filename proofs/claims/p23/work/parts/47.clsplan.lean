theorem bd_off {ch sl : Nat → Nat} (ht : Txt ch sl) {k m : Nat} (hk : k < 10) (h0 : sl k = 0) {σ : St} {κ : Nat → Nat} (h : BInv ch sl k σ κ) : s_X3_build_6 (m + 1) 13 4 (I (k : Nat)) σ = s_X3_build_6 m 13 4 (I ((k + 1 : Nat) : Int)) σ ∧ BInv ch sl (k + 1) σ κ := by
  obtain ⟨hs, hst, h5, h6, hstr, hroot⟩ := h
  have hT := ht.1 k (by omega)
  have hend : ∀ i, 64 * k ≤ i → i < 64 * k + 64 → ch i = 0 := fun i h1 h2 => by
    have := hT.2.2 (i - 64 * k) (by omega) (by omega)
    rw [show 64 * k + (i - 64 * k) = i by omega] at this
    exact this
  have hit := hst k hk
  rw [if_pos h0] at hit
  have eN : tot (nN ch sl) 99 (k + 1) = tot (nN ch sl) 99 k := by
    show tot (nN ch sl) 99 k + (if k = 99 then 0 else nN ch sl k) = _
    rw [if_neg (by omega), show nN ch sl k = 0 by unfold nN; rw [if_pos h0]]
    rfl
  have eL : tot (lL ch sl) 99 (k + 1) = tot (lL ch sl) 99 k := by
    show tot (lL ch sl) 99 k + (if k = 99 then 0 else lL ch sl k) = _
    rw [if_neg (by omega), show lL ch sl k = 0 by unfold lL; rw [if_pos h0]]
    rfl
  have hcnt : cntB ch (64 * (k + 1)) = cntB ch (64 * k) := by
    refine cntB_const _ (by omega) (fun i h1 h2 => ?_)
    rw [hend i (by omega) (by omega)]
    omega
  refine ⟨?_, ?_⟩
  · show sb_X3_build_6 (s_X3_build_6 m) 13 4 (I (k : Nat)) σ = _
    unfold sb_X3_build_6
    rw [if_neg (by rw [I_lit, I_le (by omega) (by omega)]; omega), if_pos (hs.o 6 4 (by decide)), q_at hs hk, bd_eq, hit, on_none, I_p1, lt_eq]
  · unfold BInv
    rw [eN, eL]
    refine ⟨hs, hst, h5, h6, (hstr.mv (σ' := σ) (fun a h1 h2 => rfl) hcnt).len (fun o f ho hf => phK_off hk (hend _ (by omega) (by omega)) o f ho), fun q1 q2 => ?_⟩
    by_cases ck : k = 0
    · subst ck; exact absurd h0 q2
    · exact hroot (by omega) q2
theorem bd_loop {ch sl : Nat → Nat} (ht : Txt ch sl) (hv : Valid ch sl) (hN : tot (nN ch sl) 99 10 ≤ 60) (hL : tot (lL ch sl) 99 10 ≤ 3) : ∀ (j k m : Nat) {σ : St} {κ : Nat → Nat}, k + j = 10 → BInv ch sl k σ κ →
    ∃ σ' κ', s_X3_build_6 (m + j + 1) 13 4 (I (k : Nat)) σ = some ((), σ') ∧ BInv ch sl 10 σ' κ' ∧ Gr bdI (fun _ _ => False) σ σ' ∧ sn σ' ≤ sn σ + j ∧ sz σ' ≤ sz σ + 4 * j := by
  intro j
  induction j with
  | zero =>
    intro k m σ κ hkj h
    obtain rfl : k = 10 := (by omega)
    refine ⟨σ, κ, ?_, h, Gr.refl _, by omega, by omega⟩
    show sb_X3_build_6 (s_X3_build_6 (m + 0)) 13 4 (I (10 : Nat)) σ = _
    unfold sb_X3_build_6
    rw [if_pos (by decide)]
  | succ j ih =>
    intro k m σ κ hkj h
    rw [show m + (j + 1) + 1 = (m + j + 1) + 1 by omega]
    by_cases c0 : sl k = 0
    · obtain ⟨a1, a2⟩ := bd_off ht (m := m + j + 1) (show k < 10 by omega) c0 h
      obtain ⟨σ', κ', b1, b2, b3, b4, b5⟩ := ih (k + 1) m (by omega) a2
      exact ⟨σ', κ', a1.trans b1, b2, b3, by omega, by omega⟩
    · obtain ⟨σ1, κ1, a1, a2, a3, a4, a5⟩ := bd_slot ht hv hN hL (m := m + j + 1) (show k < 10 by omega) c0 h
      obtain ⟨σ', κ', b1, b2, b3, b4, b5⟩ := ih (k + 1) m (by omega) a2
      exact ⟨σ', κ', a1.trans b1, b2, a3.trans b3, by omega, by omega⟩
/-- the class's plan stands for all texts -/
def Pln (ch sl : Nat → Nat) (σ : St) (κ : Nat → Nat) : Prop :=
  sI σ 13 5 = I (tot (nN ch sl) 99 10 : Nat) ∧ Str ch 13 κ (fp ch) σ (tot (nN ch sl) 99 10) (tot (lL ch sl) 99 10) 640 ∧ (sl 0 ≠ 0 → ∃ r, r < tot (nN ch sl) 99 10 ∧ sI σ 13 7 = I (r : Nat) ∧ κ r = 0)
theorem q_build {ch sl : Nat → Nat} (ht : Txt ch sl) (hv : Valid ch sl) (hN : tot (nN ch sl) 99 10 ≤ 60) (hL : tot (lL ch sl) 99 10 ≤ 3) {σ : St} (hs : SS σ) (hst : Stk 5 ch sl σ) :
    ∃ σ' κ, s_X3_build 13 4 σ = some ((), σ') ∧ Pln ch sl σ' κ ∧ SS σ' ∧ Stk 5 ch sl σ' ∧ Gr bdI (fun _ _ => False) σ σ' ∧ sn σ' ≤ sn σ + 10 ∧ sz σ' ≤ sz σ + 40 := by
  obtain ⟨σ1, b1, b2, b3, b4, b5, b6⟩ := q_clear (pl := 13) (Or.inr rfl) hs
  have hs1 := b2.ss hs
  have h54 := hs.1
  have g1 : Gr bdI (fun _ _ => False) σ σ1 := (b2.gr (CP := fun _ _ => False)).mono (fun a k _ q => by unfold plC at q; unfold bdI; omega) (fun a k _ q => q)
  have hst1 := hst.bd g1 h54 (fun a k q => by unfold bdI at q; omega)
  have inv : BInv ch sl 0 σ1 (fun c => c) := by
    refine ⟨hs1, hst1, b3, b4, ⟨fun c hc => by have : tot (nN ch sl) 99 0 = 0 := rfl; omega, fun o f ho hf => ?_, rfl, fun o f h1 h2 h3 => ?_⟩, fun q => by omega⟩
    · have e : phK ch 0 (tot (lL ch sl) 99 0) o f = none := by
        unfold phK
        have : tot (lL ch sl) 99 0 = 0 := rfl
        rw [if_neg (by omega)]
      rw [e]
      exact b6 (o * 3 + f) (by omega)
    · unfold phK
      have : tot (lL ch sl) 99 0 = 0 := rfl
      rw [if_neg (by omega)]
  obtain ⟨σ', κ', c1, ⟨c2, c3, c4, c5, c6, c7⟩, c8, c9, c10⟩ := bd_loop ht hv hN hL 10 0 15989 rfl inv
  refine ⟨σ', κ', ?_, ⟨c4, c6.len (fun o f ho hf => ?_), fun q => c7 (by omega) q⟩, c2, c3, g1.trans c8, by rw [b2.1] at c9; exact c9, by rw [b2.2.1] at c10; exact c10⟩
  · unfold s_X3_build
    rw [if_pos (hs.o 3 13 (by decide)), b1, bd_eq]
    exact c1
  · unfold phK
    by_cases cc : (o < 5 ∧ o + 1 < 10) ∨ (5 ≤ o ∧ o < 5 + tot (lL ch sl) 99 10) ∨ (8 ≤ o ∧ o < 10 + 2)
    · rw [if_pos cc]
    · rw [if_neg cc]
      have hc := tot_cnt ht hv (b := 99) (by omega) 10 (by omega)
      unfold fp ost
      rw [if_neg (by omega), if_pos (by omega), nthB_none 640 (by rw [show 64 * 10 = 640 from rfl] at hc; omega)]
