/-! all texts: how long each is, where each begins -/
def Txt (ch : Nat → Nat) (sl : Nat → Nat) : Prop := (∀ s, s ≤ 10 → sl s ≤ 60 ∧ (∀ i, i < sl s → 33 ≤ ch (64 * s + i)) ∧ (∀ i, sl s ≤ i → i < 64 → ch (64 * s + i) = 0)) ∧ ∀ i, ch i ≤ 126
def MT (ch : Nat → Nat) (sl : Nat → Nat) (σ : St) : Prop := SS σ ∧ (∀ s, s < 10 → sI σ 32 s = if sl s = 0 then I (-6) else I (sl s : Nat)) ∧ ∀ s, s < 10 → ∀ i, i < sl s → sI σ 31 (60 * s + i) = I (ch (64 * s + i) : Nat)
/-- the slots, and the buffer -/
def MTf (ch : Nat → Nat) (sl : Nat → Nat) (σ : St) : Prop := MT ch sl σ ∧ sI σ 32 10 = I (sl 10 : Nat) ∧ ∀ i, i < sl 10 → sI σ 31 (600 + i) = I (ch (640 + i) : Nat)
def Valid (ch : Nat → Nat) (sl : Nat → Nat) : Prop := ∀ s, s < 10 → sl s ≠ 0 → if s = 0 then fG ch s (sl s) = none else fO ch s (sl s) = none
def sR (ch : Nat → Nat) (s : Nat) : PR := if s = 0 then G64 ch (64 * s) else poff (G64 ch) ch (64 * s)
def nN (ch : Nat → Nat) (sl : Nat → Nat) (s : Nat) : Nat := if sl s = 0 then 0 else (sR ch s).2.2.1
def lL (ch : Nat → Nat) (sl : Nat → Nat) (s : Nat) : Nat := if sl s = 0 then 0 else (sR ch s).2.2.2
def tot (f : Nat → Nat) (but : Nat) : Nat → Nat
  | 0 => 0
  | s + 1 => tot f but s + if s = but then 0 else f s
def oS (s : Nat) : Nat := if 6 ≤ s then s + 2 else s - 1
theorem MT.rm {ch sl : Nat → Nat} {σ : St} (h : MT ch sl σ) (ht : Txt ch sl) {s : Nat} (hs : s < 10) (h0 : sl s ≠ 0) : RM ch s (sl s) σ := by
  refine ⟨h.1, by omega, (ht.1 s (by omega)).1, ?_, fun i hi => h.2.2 s (by omega) i hi, ht.2, fun i h1 h2 => ?_⟩
  · rw [h.2.1 s hs, if_neg h0]
  · have := (ht.1 s (by omega)).2.2 (i - 64 * s) (by omega) (by omega)
    rw [show 64 * s + (i - 64 * s) = i by omega] at this
    exact this
theorem MTf.rm10 {ch sl : Nat → Nat} {σ : St} (h : MTf ch sl σ) (ht : Txt ch sl) : RM ch 10 (sl 10) σ := by
  refine ⟨h.1.1, by omega, (ht.1 10 (by omega)).1, h.2.1, fun i hi => h.2.2 i hi, ht.2, fun i h1 h2 => ?_⟩
  have := (ht.1 10 (by omega)).2.2 (i - 640) (by omega) (by omega)
  rw [show 64 * 10 + (i - 640) = i by omega] at this
  exact this
theorem MT.fr {ch sl : Nat → Nat} {σ σ' : St} {C : Nat → Nat → Prop} (h : MT ch sl σ) (hf : Fr C σ σ') (hC : ∀ k, ¬ C 31 k ∧ ¬ C 32 k) : MT ch sl σ' :=
  ⟨hf.ss h.1, fun s hs => by rw [hf.i 32 s (hC s).2]; exact h.2.1 s hs, fun s hs i hi => by rw [hf.i 31 _ (hC _).1]; exact h.2.2 s hs i hi⟩
theorem MTf.fr {ch sl : Nat → Nat} {σ σ' : St} {C : Nat → Nat → Prop} (h : MTf ch sl σ) (hf : Fr C σ σ') (hC : ∀ k, ¬ C 31 k ∧ ¬ C 32 k) : MTf ch sl σ' :=
  ⟨h.1.fr hf hC, by rw [hf.i 32 10 (hC 10).2]; exact h.2.1, fun i hi => by rw [hf.i 31 _ (hC _).1]; exact h.2.2 i hi⟩
theorem mF31 (k : Nat) : ¬ mF 31 k ∧ ¬ mF 32 k := by unfold mF; omega
def RAL (m but k : Nat) (σ : St) : Option (Unit × St) := s_X11_readAll_42 m 30 (I (but : Nat)) (I (k : Nat)) σ
/-- the loop over the slots, one slot -/
theorem ral_off {m k : Nat} {b : Int32} {ch sl : Nat → Nat} {σ : St} (h : MT ch sl σ) (hk : k < 10) (hb : b ≠ I (k : Nat)) (h0 : sl k = 0) : s_X11_readAll_42 (m + 1) 30 b (I (k : Nat)) σ = s_X11_readAll_42 m 30 b (I ((k + 1 : Nat) : Int)) σ := by
  show sb_X11_readAll_42 (s_X11_readAll_42 m) 30 b (I (k : Nat)) σ = _
  unfold sb_X11_readAll_42
  rw [if_neg (by rw [I_lit, I_le (by omega) (by omega)]; omega), if_neg (fun q => hb q.symm), if_pos (h.1.o 11 30 (by decide)), h.1.p 30 1 32 (by decide), op_eq, if_pos (h.1.o 13 32 (by decide)), h.1.len 32 11 (by decide), if_pos (inN (show k < 11 by omega) (by omega)), tNI (by omega), h.2.1 k hk, if_pos h0, if_pos (by decide), I_p1, lt_eq]
theorem ral_but {m k : Nat} {σ : St} (hk : k < 10) : s_X11_readAll_42 (m + 1) 30 (I (k : Nat)) (I (k : Nat)) σ = s_X11_readAll_42 m 30 (I (k : Nat)) (I ((k + 1 : Nat) : Int)) σ := by
  show sb_X11_readAll_42 (s_X11_readAll_42 m) 30 (I (k : Nat)) (I (k : Nat)) σ = _
  unfold sb_X11_readAll_42
  rw [if_neg (by rw [I_lit, I_le (by omega) (by omega)]; omega), if_pos rfl, I_p1, lt_eq]
theorem ral_on {m k : Nat} {b : Int32} {ch sl : Nat → Nat} {σ σ1 : St} {r : Int32} (h : MT ch sl σ) (hk : k < 10) (hb : b ≠ I (k : Nat)) (h0 : sl k ≠ 0) (hl : sl k ≤ 60) (hr : s_X11_read 30 (I (k : Nat)) (if k = 0 then I (-6) else I (oS k : Nat)) σ = some (r, σ1)) : s_X11_readAll_42 (m + 1) 30 b (I (k : Nat)) σ = s_X11_readAll_42 m 30 b (I ((k + 1 : Nat) : Int)) σ1 := by
  show sb_X11_readAll_42 (s_X11_readAll_42 m) 30 b (I (k : Nat)) σ = _
  unfold sb_X11_readAll_42
  have ho : s_X11_offerOf (I (k : Nat)) σ = some (if k = 0 then I (-6) else I (oS k : Nat), σ) := by
    unfold s_X11_offerOf oS
    by_cases c0 : k = 0
    · rw [if_pos c0, c0, if_pos (show I ((0 : Nat) : Int) = (0 : Int32) from rfl)]; rfl
    · rw [if_neg c0, if_neg (by rw [I_lit, I_eq (by omega) (by omega)]; omega)]
      by_cases c6 : 6 ≤ k
      · rw [if_pos c6, if_pos (by rw [I_lit, I_le (by omega) (by omega)]; omega), I_lit, I_add]; rfl
      · rw [if_neg c6, if_neg (by rw [I_lit, I_le (by omega) (by omega)]; omega), I_m1 (by omega)]
  rw [if_neg (by rw [I_lit, I_le (by omega) (by omega)]; omega), if_neg (fun q => hb q.symm), if_pos (h.1.o 11 30 (by decide)), h.1.p 30 1 32 (by decide), op_eq, if_pos (h.1.o 13 32 (by decide)), h.1.len 32 11 (by decide), if_pos (inN (show k < 11 by omega) (by omega)), tNI (by omega), h.2.1 k hk, if_neg h0, if_neg (by rw [I_lit, I_lt (by omega) (by omega)]; omega), ho, bd_eq, if_pos (h.1.o 11 30 (by decide)), hr, bd_eq, I_p1, lt_eq]
theorem Valid.g {ch sl : Nat → Nat} (h : Valid ch sl) (h0 : sl 0 ≠ 0) : fG ch 0 (sl 0) = none := by
  have := h 0 (by omega) h0
  rw [if_pos rfl] at this
  exact this
theorem Valid.o {ch sl : Nat → Nat} (h : Valid ch sl) {s : Nat} (hs : s < 10) (h0 : sl s ≠ 0) (h1 : s ≠ 0) : fO ch s (sl s) = none := by
  have := h s hs h0
  rw [if_neg h1] at this
  exact this
/-- counting: all texts but one -/
theorem ral_count {ch sl : Nat → Nat} (ht : Txt ch sl) (hv : Valid ch sl) {but : Nat} (b : Int32) (hb : ∀ k, k < 10 → (b = I (k : Nat) ↔ k = but)) : ∀ (j k m : Nat) {σ : St} {N lam : Nat}, k + j = 10 → MT ch sl σ → MB σ N lam 0 → N = tot (nN ch sl) but k → lam = tot (lL ch sl) but k →
    ∃ σ', s_X11_readAll_42 (m + j + 1) 30 b (I (k : Nat)) σ = some ((), σ') ∧ Fr mF σ σ' ∧ MB σ' (tot (nN ch sl) but 10) (tot (lL ch sl) but 10) 0 := by
  intro j
  induction j with
  | zero =>
    intro k m σ N lam hkj hm hmb hN hl
    obtain rfl : k = 10 := by omega
    refine ⟨σ, ?_, Fr.refl _, by rw [← hN, ← hl]; exact hmb⟩
    show sb_X11_readAll_42 (s_X11_readAll_42 (m + 0)) 30 b (I (10 : Nat)) σ = _
    unfold sb_X11_readAll_42
    rw [if_pos (by decide)]
  | succ j ih =>
    intro k m σ N lam hkj hm hmb hN hl
    have hk : k < 10 := by omega
    rw [show m + (j + 1) + 1 = (m + j + 1) + 1 by omega]
    have e1 : tot (nN ch sl) but (k + 1) = tot (nN ch sl) but k + if k = but then 0 else nN ch sl k := rfl
    have e2 : tot (lL ch sl) but (k + 1) = tot (lL ch sl) but k + if k = but then 0 else lL ch sl k := rfl
    by_cases cb : k = but
    · have hbk := (hb k hk).mpr cb
      rw [hbk, ral_but hk, ← hbk]
      rw [if_pos cb] at e1 e2
      exact ih (k + 1) m (by omega) hm hmb (by omega) (by omega)
    · have hbk : b ≠ I (k : Nat) := fun q => cb ((hb k hk).mp q)
      rw [if_neg cb] at e1 e2
      by_cases c0 : sl k = 0
      · rw [ral_off hm hk hbk c0]
        have : nN ch sl k = 0 := by unfold nN; rw [if_pos c0]
        have : lL ch sl k = 0 := by unfold lL; rw [if_pos c0]
        exact ih (k + 1) m (by omega) hm hmb (by omega) (by omega)
      · have hrm := hm.rm ht hk c0
        have r : ∃ σ1, s_X11_read 30 (I (k : Nat)) (if k = 0 then I (-6) else I (oS k : Nat)) σ = some (I (-6), σ1) ∧ Fr mF σ σ1 ∧ MB σ1 (N + nN ch sl k) (lam + lL ch sl k) 0 := by
          unfold nN lL sR
          rw [if_neg c0, if_neg c0]
          by_cases ck : k = 0
          · subst ck
            rw [if_pos rfl, if_pos rfl]
            obtain ⟨σ1, a1, a2, a3, -⟩ := r_goal hrm hmb (by omega) (hv.g c0) (fun q => by omega)
            exact ⟨σ1, a1, Fr.up (w := 0) (x := 0) a2, a3⟩
          · rw [if_neg ck, if_neg ck]
            have hoS : oS k < 12 := by unfold oS; split <;> omega
            obtain ⟨σ1, a1, a2, a3, -⟩ := r_off hrm hmb (by omega) (hv.o hk c0 ck) hoS (fun q => by omega) (fun q => by omega)
            refine ⟨σ1, a1, a2.mono ?_, a3⟩
            rintro a c (e | e)
            · exact mF_mC e
            · exact mF_hdO e
        obtain ⟨σ1, a1, a2, a3⟩ := r
        rw [ral_on hm hk hbk c0 (ht.1 k (by omega)).1 a1]
        obtain ⟨σ2, b1, b2, b3⟩ := ih (k + 1) m (by omega) (hm.fr a2 mF31) a3 (by omega) (by omega)
        exact ⟨σ2, b1, a2.trans b2, b3⟩
theorem q_readAll0 {ch sl : Nat → Nat} (ht : Txt ch sl) (hv : Valid ch sl) {but : Nat} (b : Int32) (hb : ∀ k, k < 10 → (b = I (k : Nat) ↔ k = but)) {σ : St} (hm : MT ch sl σ) : ∃ σ', s_X11_readAll 30 0 b σ = some ((), σ') ∧ Fr (fun a k => mF a k ∨ (a = 30 ∧ k = 20)) σ σ' ∧ MB σ' (tot (nN ch sl) but 10) (tot (lL ch sl) but 10) 0 := by
  have f0 : Fr (fun a k => mF a k ∨ (a = 30 ∧ k = 20)) σ (setI (setI (setI σ 30 5 0) 30 6 0) 30 20 0) := (((Fr.refl σ).put _ (Or.inl (Or.inl ⟨rfl, by omega⟩))).put _ (Or.inl (Or.inl ⟨rfl, by omega⟩))).put _ (Or.inr ⟨rfl, rfl⟩)
  have hm0 : MT ch sl (setI (setI (setI σ 30 5 0) 30 6 0) 30 20 0) := hm.fr f0 (fun k => by unfold mF; omega)
  have mb0 : MB (setI (setI (setI σ 30 5 0) 30 6 0) 30 20 0) 0 0 0 := ⟨by rw [sIn (by omega), sIn (by omega), sIe]; rfl, by rw [sIn (by omega), sIe]; rfl, sIe⟩
  obtain ⟨σ', a1, a2, a3⟩ := ral_count ht hv b hb 10 0 15989 rfl hm0 mb0 rfl rfl
  refine ⟨σ', ?_, f0.trans (a2.mono (fun a k q => Or.inl q)), a3⟩
  unfold s_X11_readAll
  rw [if_pos (hm.1.o 11 30 (by decide)), lt_eq, lt_eq, if_pos zok0, lt_eq]
  show sb_X11_readAll_17 (s_X11_readAll_17 15999) 30 0 b 0 _ = _
  unfold sb_X11_readAll_17
  rw [if_neg (by decide), if_pos rfl]
  exact a1
