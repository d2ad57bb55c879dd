def StrM (ch : Nat → Nat) (κ : Nat → Nat) (φ : Nat → Nat → Option Nat) (σ : St) (N : Nat) : Prop := (∀ c, c < N → nodeM ch κ N σ c) ∧ ∀ o f, o < 12 → f < 3 → faceM ch κ N σ o f (φ o f)
/-- the offers that the slots below k, and their loans, give -/
def phK (ch : Nat → Nat) (k lam : Nat) : Nat → Nat → Option Nat := fun o f => if (o < 5 ∧ o + 1 < k) ∨ (5 ≤ o ∧ o < 5 + lam) ∨ (8 ≤ o ∧ o < k + 2) then fp ch o f else none
theorem fp_loan {ch : Nat → Nat} {o f : Nat} (h1 : 5 ≤ o) (h2 : o < 8) : fp ch o f = loanF ch o f := by
  unfold fp loanF ost
  rw [if_neg (by omega), if_pos h2]
  cases nthB ch (o - 5) 640 <;> rfl
theorem cntB_const {ch : Nat → Nat} {a : Nat} : ∀ b, a ≤ b → (∀ i, a ≤ i → i < b → ch i ≠ 91) → cntB ch b = cntB ch a := by
  intro b
  induction b with
  | zero => intro h _; obtain rfl : a = 0 := (by omega); rfl
  | succ b ih =>
    intro h hz
    by_cases e : a = b + 1
    · rw [e]
    · rw [cntB_step (hz b (by omega) (by omega)), ih (by omega) (fun i h1 h2 => hz i h1 (by omega))]
theorem nthB_none {ch : Nat → Nat} {k : Nat} : ∀ m, cntB ch m ≤ k → nthB ch k m = none := by
  intro m
  induction m with
  | zero => intro _; rfl
  | succ m ih =>
    intro h
    have h1 : cntB ch (m + 1) = cntB ch m + if ch m = 91 then 1 else 0 := rfl
    unfold nthB
    rw [if_neg, ih (by omega)]
    rintro ⟨a, b⟩
    rw [if_pos a] at h1
    omega
theorem poff_cnt (ch : Nat → Nat) (F p : Nat) (h : (poff (pgoal ch F) ch p).1 = true) : cntB ch (poff (pgoal ch F) ch p).2.1 = cntB ch p + (poff (pgoal ch F) ch p).2.2.2 := by
  obtain ⟨a1, ak, al, f1, hrest⟩ := poff_cases h
  have g1 := pface_cnt ch F p (by rw [f1])
  rw [f1] at g1
  dsimp only at g1
  rcases hrest with ⟨_, r⟩ | ⟨c1, a2, ak2, al2, f2, hrest⟩
  · rw [r]; exact g1
  have g2 := pface_cnt ch F (a1 + 1) (by rw [f2])
  rw [f2] at g2
  dsimp only at g2
  rw [cntB_step (by omega)] at g2
  rcases hrest with ⟨_, r⟩ | ⟨c2, a3, ak3, al3, f3, r⟩
  · rw [r]; dsimp only; omega
  have g3 := pface_cnt ch F (a2 + 1) (by rw [f3])
  rw [f3] at g3
  dsimp only at g3
  rw [cntB_step (by omega)] at g3
  rw [r]; dsimp only; omega
theorem fG_ok {ch : Nat → Nat} {s n : Nat} (h : fG ch s n = none) : (G64 ch (64 * s)).1 = true ∧ (G64 ch (64 * s)).2.1 = 64 * s + n := by
  unfold fG at h
  apply Decidable.byContradiction
  intro q
  rw [if_neg q] at h
  cases h
theorem fO_ok {ch : Nat → Nat} {s n : Nat} (h : fO ch s n = none) : (poff (G64 ch) ch (64 * s)).1 = true ∧ (poff (G64 ch) ch (64 * s)).2.1 = 64 * s + n := by
  unfold fO at h
  apply Decidable.byContradiction
  intro q
  rw [if_neg q] at h
  cases h
theorem cnt_slot {ch sl : Nat → Nat} (ht : Txt ch sl) (hv : Valid ch sl) {k : Nat} (hk : k < 10) : cntB ch (64 * (k + 1)) = cntB ch (64 * k) + lL ch sl k := by
  have hT := ht.1 k (by omega)
  have z : cntB ch (64 * (k + 1)) = cntB ch (64 * k + sl k) := by
    refine cntB_const _ (by omega) (fun i h1 h2 => ?_)
    have := hT.2.2 (i - 64 * k) (by omega) (by omega)
    rw [show 64 * k + (i - 64 * k) = i by omega] at this
    omega
  rw [z]
  unfold lL sR
  by_cases c0 : sl k = 0
  · rw [if_pos c0, c0]; rfl
  · rw [if_neg c0]
    by_cases ck : k = 0
    · subst ck
      obtain ⟨h1, h2⟩ := fG_ok (hv.g c0)
      rw [if_pos rfl, ← h2]
      exact pgoal_cnt ch 64 _ h1
    · obtain ⟨h1, h2⟩ := fO_ok (hv.o hk c0 ck)
      rw [if_neg ck, ← h2]
      exact poff_cnt ch 64 _ h1
theorem tot_mono {f : Nat → Nat} {b : Nat} {i j : Nat} (h : i ≤ j) : tot f b i ≤ tot f b j := by
  induction h with
  | refl => exact Nat.le_refl _
  | step h ih =>
    refine Nat.le_trans ih ?_
    show _ ≤ tot f b _ + _
    omega
theorem tot_cnt {ch sl : Nat → Nat} (ht : Txt ch sl) (hv : Valid ch sl) {b : Nat} (hb : 10 ≤ b) : ∀ k, k ≤ 10 → tot (lL ch sl) b k = cntB ch (64 * k) := by
  intro k
  induction k with
  | zero => intro _; rfl
  | succ k ih =>
    intro hk
    show tot (lL ch sl) b k + (if k = b then 0 else lL ch sl k) = _
    rw [if_neg (by omega), ih (by omega), cnt_slot ht hv (by omega)]
theorem faceM_none {ch : Nat → Nat} {κ : Nat → Nat} {M : Nat} {σ : St} {o f : Nat} (h : sI σ 37 o = I (0 : Nat)) : faceM ch κ M σ o f none := ⟨0, h, by omega⟩
/-- what is known behind the slots below k -/
def LInv (ch sl : Nat → Nat) (k : Nat) (σ : St) (κ : Nat → Nat) : Prop :=
  MT ch sl σ ∧ MB σ (tot (nN ch sl) 99 k) (tot (lL ch sl) 99 k) 1 ∧ StrM ch κ (phK ch k (tot (lL ch sl) 99 k)) σ (tot (nN ch sl) 99 k) ∧ (∀ o, o < 12 → ¬ ((o < 5 ∧ o + 1 < k) ∨ (5 ≤ o ∧ o < 5 + tot (lL ch sl) 99 k) ∨ (8 ≤ o ∧ o < k + 2)) → sI σ 37 o = I (0 : Nat)) ∧
  (1 ≤ k → sl 0 ≠ 0 → sI σ 30 10 = I (0 : Nat) ∧ κ 0 = 0 ∧ 1 ≤ tot (nN ch sl) 99 k)
/-- one slot is laid -/
theorem lay_slot {ch sl : Nat → Nat} (ht : Txt ch sl) (hv : Valid ch sl) (hN : tot (nN ch sl) 99 10 ≤ 60) (hL : tot (lL ch sl) 99 10 ≤ 3) {k : Nat} (hk : k < 10) (h0 : sl k ≠ 0) {σ : St} {κ : Nat → Nat} (h : LInv ch sl k σ κ) :
    ∃ σ' κ', s_X11_read 30 (I (k : Nat)) (if k = 0 then I (-6) else I (oS k : Nat)) σ = some (I (-6), σ') ∧ LInv ch sl (k + 1) σ' κ' ∧ Fr mF σ σ' := by
  obtain ⟨hm, hb, ⟨hs1, hs2⟩, hz, hroot⟩ := h
  have hrm := hm.rm ht hk h0
  have eN : tot (nN ch sl) 99 (k + 1) = tot (nN ch sl) 99 k + nN ch sl k := by
    show tot (nN ch sl) 99 k + (if k = 99 then 0 else nN ch sl k) = _
    rw [if_neg (by omega)]
  have eL : tot (lL ch sl) 99 (k + 1) = tot (lL ch sl) 99 k + lL ch sl k := by
    show tot (lL ch sl) 99 k + (if k = 99 then 0 else lL ch sl k) = _
    rw [if_neg (by omega)]
  have mN := tot_mono (f := nN ch sl) (b := 99) (show k + 1 ≤ 10 by omega)
  have mL := tot_mono (f := lL ch sl) (b := 99) (show k + 1 ≤ 10 by omega)
  have hc := tot_cnt ht hv (b := 99) (by omega) k (by omega)
  have hch : ch (64 * k) ≠ 0 := by
    have := (ht.1 k (by omega)).2.1 0 (by omega)
    rw [show 64 * k + 0 = 64 * k by omega] at this
    omega
  generalize hNk : tot (nN ch sl) 99 k = N at *
  generalize hLk : tot (lL ch sl) 99 k = lam at *
  rw [eN] at mN
  rw [eL] at mL
  unfold LInv
  rw [eN, eL]
  by_cases ck : k = 0
  · subst ck
    have e1 : nN ch sl 0 = (G64 ch (64 * 0)).2.2.1 := by unfold nN sR; rw [if_neg h0, if_pos rfl]
    have e2 : lL ch sl 0 = (G64 ch (64 * 0)).2.2.2 := by unfold lL sR; rw [if_neg h0, if_pos rfl]
    rw [e1] at mN ⊢
    rw [e2] at mL ⊢
    have hone := pgoal_one ch 64 (64 * 0) (fG_ok (hv.g h0)).1
    have hone : 1 ≤ (G64 ch (64 * 0)).2.2.1 := hone
    have n0 : N = 0 := hNk.symm
    have l0 : lam = 0 := hLk.symm
    rw [if_pos rfl]
    obtain ⟨σ1, a1, a2, a3, a4⟩ := r_goal hrm hb (by omega) (hv.g h0) (fun _ => by omega)
    obtain ⟨b1, b2⟩ := a4 rfl (by rw [hc]) (by omega)
    obtain ⟨κ', c1, c2, c3, c4⟩ := b2 κ
    generalize (G64 ch (64 * 0)).2.2.1 = K at *
    generalize (G64 ch (64 * 0)).2.2.2 = Q at *
    have a2F : Fr mF σ σ1 := Fr.up (w := 0) (x := 0) a2
    refine ⟨σ1, κ', a1, ⟨hm.fr a2F mF31, a3, ⟨fun c hcN => c3 c (by omega) hcN, fun o f ho hf => ?_⟩, fun o ho hno => ?_, fun _ _ => ⟨by rw [b1, n0], by have := c1; rw [n0] at this; exact this, by omega⟩⟩, a2F⟩
    · unfold phK
      by_cases cl : 5 ≤ o ∧ o < 5 + (lam + Q)
      · rw [if_pos (by omega), fp_loan cl.1 (by omega)]
        exact c4 o f (by omega) cl.2 hf
      · rw [if_neg (by omega)]
        refine faceM_none ?_
        rw [a2.i 37 o (mC_not (by omega) (by show ¬ (37 = 30 ∧ _); omega) (by omega) (by omega) (by omega) (by omega))]
        exact hz o ho (by omega)
    · rw [a2.i 37 o (mC_not (by omega) (by show ¬ (37 = 30 ∧ _); omega) (by omega) (by omega) (by omega) (by omega))]
      exact hz o ho (by omega)
  · have e1 : nN ch sl k = (poff (G64 ch) ch (64 * k)).2.2.1 := by unfold nN sR; rw [if_neg h0, if_neg ck]
    have e2 : lL ch sl k = (poff (G64 ch) ch (64 * k)).2.2.2 := by unfold lL sR; rw [if_neg h0, if_neg ck]
    rw [e1] at mN ⊢
    rw [e2] at mL ⊢
    have hoS : oS k < 12 := by unfold oS; split <;> omega
    have hoS2 : oS k < 5 ∨ 8 ≤ oS k := by unfold oS; split <;> omega
    have hoK : (oS k < 5 ∧ oS k + 1 = k) ∨ (8 ≤ oS k ∧ oS k = k + 2) := by unfold oS; split <;> omega
    rw [if_neg ck]
    obtain ⟨σ1, a1, a2, a3, a4⟩ := r_off hrm hb (by omega) (hv.o hk h0 ck) hoS (fun _ => by omega) (fun _ => by omega)
    obtain ⟨κ', ⟨c2, c3, c4⟩, c5⟩ := a4 rfl hc hk κ
    have hfp : ∀ f, fp ch (oS k) f = fpos ch (64 * k) f := fun f => by
      unfold fp
      have : ost ch (oS k) = some (64 * k) := by
        unfold ost
        rcases hoK with ⟨q1, q2⟩ | ⟨q1, q2⟩
        · rw [if_pos q1, q2, if_neg hch]
        · rw [if_neg (by omega), if_neg (by omega), if_pos hoS, show oS k - 2 = k by omega, if_neg hch]
      rw [this]
    generalize (poff (G64 ch) ch (64 * k)).2.2.1 = K at *
    generalize (poff (G64 ch) ch (64 * k)).2.2.2 = Q at *
    generalize oS k = O at *
    have a2F : Fr mF σ σ1 := a2.mono (by
      rintro a c (e | e)
      · exact mF_mC e
      · exact mF_hdO e)
    have st : ∀ a c, (a = 34 ∨ a = 35 ∨ a = 36) ∧ c < N ∨ a = 37 ∧ c ≠ O ∧ (c < 5 + lam ∨ 5 + (lam + Q) ≤ c) ∨ (a = 38 ∨ a = 39) ∧ (c < 3 * O ∨ 3 * O + 3 ≤ c) ∧ (c < 15 + 3 * lam ∨ 15 + 3 * (lam + Q) ≤ c) ∨ a = 30 ∧ c = 10 → sI σ1 a c = sI σ a c := fun a c hh => a2.i a c (by
      rintro (e | e)
      · have := mC_split e; omega
      · unfold hdO at e; omega)
    refine ⟨σ1, κ', a1, ⟨hm.fr a2F mF31, a3, ⟨fun c hcN => ?_, fun o f ho hf => ?_⟩, fun o ho hno => ?_, fun q1 q2 => ?_⟩, a2F⟩
    · by_cases cN : c < N
      · exact nodeM_mono (hs1 c cN) (by omega) cN c2 (fun a ha => st a c (Or.inl ⟨ha, cN⟩))
      · exact c3 c (by omega) hcN
    · unfold phK
      by_cases cO : o = O
      · subst cO
        rw [if_pos (by omega), hfp]
        exact c5 f hf
      · by_cases cl : 5 + lam ≤ o ∧ o < 5 + (lam + Q)
        · rw [if_pos (by omega), fp_loan (by omega) (by omega)]
          exact c4 o f cl.1 cl.2 hf
        · have old := hs2 o f ho hf
          unfold phK at old
          have same : (if (o < 5 ∧ o + 1 < k + 1) ∨ (5 ≤ o ∧ o < 5 + (lam + Q)) ∨ (8 ≤ o ∧ o < k + 1 + 2) then fp ch o f else none) = (if (o < 5 ∧ o + 1 < k) ∨ (5 ≤ o ∧ o < 5 + lam) ∨ (8 ≤ o ∧ o < k + 2) then fp ch o f else none) := by
            by_cases cc : (o < 5 ∧ o + 1 < k) ∨ (5 ≤ o ∧ o < 5 + lam) ∨ (8 ≤ o ∧ o < k + 2)
            · rw [if_pos cc, if_pos (by omega)]
            · rw [if_neg cc, if_neg (by omega)]
          rw [same]
          exact faceM_mono old (by omega) c2 (st 37 o (by omega)) (fun a ha => st a _ (by omega))
    · rw [st 37 o (by omega)]
      exact hz o ho (by omega)
    · obtain ⟨r1, r2, r3⟩ := hroot (by omega) q2
      exact ⟨by rw [st 30 10 (by omega)]; exact r1, by rw [c2 0 (by omega)]; exact r2, by omega⟩
/-- all texts are laid -/
theorem ral_lay {ch sl : Nat → Nat} (ht : Txt ch sl) (hv : Valid ch sl) (hN : tot (nN ch sl) 99 10 ≤ 60) (hL : tot (lL ch sl) 99 10 ≤ 3) : ∀ (j k m : Nat) {σ : St} {κ : Nat → Nat}, k + j = 10 → LInv ch sl k σ κ →
    ∃ σ' κ', s_X11_readAll_42 (m + j + 1) 30 (I (-6)) (I (k : Nat)) σ = some ((), σ') ∧ LInv ch sl 10 σ' κ' ∧ Fr mF σ σ' := by
  intro j
  induction j with
  | zero =>
    intro k m σ κ hkj h
    obtain rfl : k = 10 := (by omega)
    refine ⟨σ, κ, ?_, h, Fr.refl _⟩
    show sb_X11_readAll_42 (s_X11_readAll_42 (m + 0)) 30 (I (-6)) (I (10 : Nat)) σ = _
    unfold sb_X11_readAll_42
    rw [if_pos (by decide)]
  | succ j ih =>
    intro k m σ κ hkj h
    have hk : k < 10 := by omega
    have hbk : I (-6) ≠ I (k : Nat) := by rw [Ne, I_eq (by omega) (by omega)]; omega
    rw [show m + (j + 1) + 1 = (m + j + 1) + 1 by omega]
    by_cases c0 : sl k = 0
    · rw [ral_off h.1 hk hbk c0]
      refine ih (k + 1) m (κ := κ) (by omega) ?_
      obtain ⟨hm, hb, ⟨hs1, hs2⟩, hz, hroot⟩ := h
      have eN : tot (nN ch sl) 99 (k + 1) = tot (nN ch sl) 99 k := by
        show tot (nN ch sl) 99 k + (if k = 99 then 0 else nN ch sl k) = _
        rw [if_neg (by omega), show nN ch sl k = 0 by unfold nN; rw [if_pos c0]]
        rfl
      have eL : tot (lL ch sl) 99 (k + 1) = tot (lL ch sl) 99 k := by
        show tot (lL ch sl) 99 k + (if k = 99 then 0 else lL ch sl k) = _
        rw [if_neg (by omega), show lL ch sl k = 0 by unfold lL; rw [if_pos c0]]
        rfl
      have hch : ch (64 * k) = 0 := by
        have := (ht.1 k (by omega)).2.2 0 (by omega) (by omega)
        rw [show 64 * k + 0 = 64 * k by omega] at this
        exact this
      unfold LInv
      rw [eN, eL]
      generalize tot (lL ch sl) 99 k = lam at *
      have hnone : ∀ o f, o < 12 → (o < 5 ∧ o + 1 = k ∨ 8 ≤ o ∧ o = k + 2) → fp ch o f = none := fun o f ho q => by
        unfold fp
        have : ost ch o = none := by
          unfold ost
          rcases q with ⟨q1, q2⟩ | ⟨q1, q2⟩
          · rw [if_pos q1, show 64 * (o + 1) = 64 * k by omega, if_pos hch]
          · rw [if_neg (by omega), if_neg (by omega), if_pos ho, show 64 * (o - 2) = 64 * k by omega, if_pos hch]
        rw [this]
      refine ⟨hm, hb, ⟨hs1, fun o f ho hf => ?_⟩, fun o ho hno => hz o ho (by omega), fun q1 q2 => ?_⟩
      · have old := hs2 o f ho hf
        have e : phK ch (k + 1) lam o f = phK ch k lam o f := by
          unfold phK
          by_cases cc : (o < 5 ∧ o + 1 < k) ∨ (5 ≤ o ∧ o < 5 + lam) ∨ (8 ≤ o ∧ o < k + 2)
          · rw [if_pos cc, if_pos (by omega)]
          · rw [if_neg cc]
            by_cases c2 : o < 5 ∧ o + 1 = k ∨ 8 ≤ o ∧ o = k + 2
            · rw [hnone o f ho c2]; split <;> rfl
            · rw [if_neg (by omega)]
        rw [e]
        exact old
      · by_cases ck : k = 0
        · subst ck; exact absurd c0 q2
        · exact hroot (by omega) q2
    · obtain ⟨σ1, κ1, a1, a2, a3⟩ := lay_slot ht hv hN hL hk c0 h
      rw [ral_on h.1 hk hbk c0 (ht.1 k (by omega)).1 a1]
      obtain ⟨σ2, κ2, b1, b2, b3⟩ := ih (k + 1) m (by omega) a2
      exact ⟨σ2, κ2, b1, b2, a3.trans b3⟩
theorem ral_zero {b : Int32} : ∀ (j k m : Nat) {σ : St}, SS σ → k + j = 12 → (∀ o, o < k → sI σ 37 o = I (0 : Nat)) →
    ∃ σ', s_X11_readAll_17 (m + j + 1) 30 1 b (I (k : Nat)) σ = s_X11_readAll_42 16000 30 b 0 σ' ∧ Fr (fun a _ => a = 37) σ σ' ∧ ∀ o, o < 12 → sI σ' 37 o = I (0 : Nat) := by
  intro j
  induction j with
  | zero =>
    intro k m σ hs hkj h
    obtain rfl : k = 12 := (by omega)
    refine ⟨σ, ?_, Fr.refl _, h⟩
    show sb_X11_readAll_17 (s_X11_readAll_17 (m + 0)) 30 1 b (I (12 : Nat)) σ = _
    unfold sb_X11_readAll_17
    rw [if_pos (by decide)]
  | succ j ih =>
    intro k m σ hs hkj h
    obtain ⟨σ', a1, a2, a3⟩ := ih (k + 1) m (hs.i 37 k 0) (by omega) (fun o ho => by
      by_cases c : o = k
      · subst c; exact sIe
      · rw [sIn (by omega)]; exact h o (by omega))
    refine ⟨σ', ?_, ((Fr.refl σ).put (a := 37) (k := k) 0 rfl).trans a2, a3⟩
    rw [← a1, show m + (j + 1) + 1 = (m + j + 1) + 1 by omega]
    show sb_X11_readAll_17 (s_X11_readAll_17 (m + j + 1)) 30 1 b (I (k : Nat)) σ = _
    unfold sb_X11_readAll_17
    rw [if_neg (by rw [I_lit, I_le (by omega) (by omega)]; omega), if_neg (by decide), if_pos (hs.o 11 30 (by decide)), pst 12 (hs.p 30 11 37 (by decide)) (hs.o 13 37 (by decide)) (hs.len 37 12 (by decide)) rfl (by omega) (by omega), I_p1, lt_eq]
/-- the reference has laid everything -/
def Laid (ch sl : Nat → Nat) (σ : St) (κ : Nat → Nat) : Prop :=
  sI σ 30 5 = I (tot (nN ch sl) 99 10 : Nat) ∧ sI σ 30 6 = I (tot (lL ch sl) 99 10 : Nat) ∧ StrM ch κ (fp ch) σ (tot (nN ch sl) 99 10) ∧ (sl 0 ≠ 0 → sI σ 30 10 = I (0 : Nat) ∧ κ 0 = 0 ∧ 1 ≤ tot (nN ch sl) 99 10)
theorem q_readAll1 {ch sl : Nat → Nat} (ht : Txt ch sl) (hv : Valid ch sl) (hN : tot (nN ch sl) 99 10 ≤ 60) (hL : tot (lL ch sl) 99 10 ≤ 3) {σ : St} (hm : MT ch sl σ) : ∃ σ' κ, s_X11_readAll 30 1 (I (-6)) σ = some ((), σ') ∧ Fr (fun a k => mF a k ∨ (a = 30 ∧ k = 20)) σ σ' ∧ MT ch sl σ' ∧ Laid ch sl σ' κ := by
  have f0 : Fr (fun a k => mF a k ∨ (a = 30 ∧ k = 20)) σ (setI (setI (setI σ 30 5 0) 30 6 0) 30 20 1) := (((Fr.refl σ).put _ (Or.inl (Or.inl ⟨rfl, by omega⟩))).put _ (Or.inl (Or.inl ⟨rfl, by omega⟩))).put _ (Or.inr ⟨rfl, rfl⟩)
  have hm0 : MT ch sl (setI (setI (setI σ 30 5 0) 30 6 0) 30 20 1) := hm.fr f0 (fun k => by unfold mF; omega)
  obtain ⟨σ1, a1, a2, a3⟩ := ral_zero (b := I (-6)) 12 0 15987 hm0.1 rfl (fun o ho => by omega)
  have mb1 : MB σ1 0 0 1 := ⟨by rw [a2.i 30 5 (by omega), sIn (by omega), sIn (by omega), sIe]; rfl, by rw [a2.i 30 6 (by omega), sIn (by omega), sIe]; rfl, by rw [a2.i 30 20 (by omega)]; exact sIe⟩
  have inv0 : LInv ch sl 0 σ1 (fun c => c) := by
    refine ⟨hm0.fr a2 (fun k => by omega), mb1, ⟨fun c hc => by have : tot (nN ch sl) 99 0 = 0 := rfl; omega, fun o f ho hf => ?_⟩, fun o ho _ => a3 o ho, fun q => by omega⟩
    have : phK ch 0 (tot (lL ch sl) 99 0) o f = none := by
      unfold phK
      have : tot (lL ch sl) 99 0 = 0 := rfl
      rw [if_neg (by omega)]
    rw [this]
    exact faceM_none (a3 o ho)
  obtain ⟨σ', κ', b1, b2, b3⟩ := ral_lay ht hv hN hL 10 0 15989 rfl inv0
  obtain ⟨hm', hb', ⟨hs1, hs2⟩, hz, hroot⟩ := b2
  refine ⟨σ', κ', ?_, f0.trans ((a2.mono ?_).trans (b3.mono (fun a k q => Or.inl q))), hm', hb'.1, hb'.2.1, ⟨hs1, fun o f ho hf => ?_⟩, fun q => hroot (by omega) q⟩
  · unfold s_X11_readAll
    rw [if_pos (hm.1.o 11 30 (by decide)), lt_eq, lt_eq, if_pos zok1, lt_eq]
    exact a1.trans b1
  · rintro a k rfl
    exact Or.inl (Or.inr ⟨by omega, by omega⟩)
  · have old := hs2 o f ho hf
    have e : phK ch 10 (tot (lL ch sl) 99 10) o f = fp ch o f := by
      unfold phK
      by_cases cc : (o < 5 ∧ o + 1 < 10) ∨ (5 ≤ o ∧ o < 5 + tot (lL ch sl) 99 10) ∨ (8 ≤ o ∧ o < 10 + 2)
      · rw [if_pos cc]
      · rw [if_neg cc]
        have hc := tot_cnt ht hv (b := 99) (by omega) 10 (by omega)
        unfold fp ost
        rw [if_neg (by omega), if_pos (by omega), nthB_none 640 (by rw [show 64 * 10 = 640 from rfl] at hc; omega)]
    rw [← e]
    exact old
