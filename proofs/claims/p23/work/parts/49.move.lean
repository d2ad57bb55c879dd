/-! a text that stands in another slot -/
theorem win_end {ch sl : Nat → Nat} (ht : Txt ch sl) {t : Nat} (h : t ≤ 10) : ∀ i, 64 * t + sl t ≤ i → i < 64 * t + 64 → ch i = 0 := fun i h1 h2 => by
  have := (ht.1 t h).2.2 (i - 64 * t) (by omega) (by omega)
  rw [show 64 * t + (i - 64 * t) = i by omega] at this
  exact this
theorem G64_mv {ch ch' sl : Nat → Nat} (ht : Txt ch sl) {s t : Nat} (h : t ≤ 10) (he : ∀ i, i < 64 → ch' (64 * s + i) = ch (64 * t + i)) : G64 ch' (64 * s) = shR (64 * t) (64 * s) (G64 ch (64 * t)) :=
  pgoal_shift (win_end ht h) (ht.1 t h).1 he 64 0 (by omega)
theorem off_mv {ch ch' sl : Nat → Nat} (ht : Txt ch sl) {s t : Nat} (h : t ≤ 10) (he : ∀ i, i < 64 → ch' (64 * s + i) = ch (64 * t + i)) : poff (G64 ch') ch' (64 * s) = shR (64 * t) (64 * s) (poff (G64 ch) ch (64 * t)) :=
  poff_shift (p := 0) (win_end ht h) (ht.1 t h).1 he (by omega) (pgoal_pos ch (64 * t) (sl t) (win_end ht h) (ht.1 t h).1 64) (fun q _ h2 => pgoal_shift (win_end ht h) (ht.1 t h).1 he 64 q h2)
theorem fG_mv {ch ch' sl : Nat → Nat} (ht : Txt ch sl) {s t : Nat} (h : t ≤ 10) (he : ∀ i, i < 64 → ch' (64 * s + i) = ch (64 * t + i)) (n : Nat) : fG ch' s n = fG ch t n := by
  have hp : 64 * t ≤ (G64 ch (64 * t)).2.1 := (pgoal_pos ch (64 * t) (sl t) (win_end ht h) (ht.1 t h).1 64 (64 * t) (by omega) (by omega)).1
  unfold fG
  rw [G64_mv ht h he]
  unfold shR
  dsimp only
  by_cases c : (G64 ch (64 * t)).1 = true ∧ (G64 ch (64 * t)).2.1 = 64 * t + n
  · rw [if_pos c, if_pos ⟨c.1, by omega⟩]
  · rw [if_neg c, if_neg (fun q => c ⟨q.1, by omega⟩)]
    congr 1
    omega
theorem fO_mv {ch ch' sl : Nat → Nat} (ht : Txt ch sl) {s t : Nat} (h : t ≤ 10) (he : ∀ i, i < 64 → ch' (64 * s + i) = ch (64 * t + i)) (n : Nat) : fO ch' s n = fO ch t n := by
  have hp : 64 * t ≤ (poff (G64 ch) ch (64 * t)).2.1 := (poff_pos (g := G64 ch) (64 * t) (sl t) (win_end ht h) (ht.1 t h).1 (pgoal_pos ch (64 * t) (sl t) (win_end ht h) (ht.1 t h).1 64) (64 * t) (by omega) (by omega)).1
  unfold fO
  rw [off_mv ht h he]
  unfold shR
  dsimp only
  by_cases c : (poff (G64 ch) ch (64 * t)).1 = true ∧ (poff (G64 ch) ch (64 * t)).2.1 = 64 * t + n
  · rw [if_pos c, if_pos ⟨c.1, by omega⟩]
  · rw [if_neg c, if_neg (fun q => c ⟨q.1, by omega⟩)]
    congr 1
    omega
/-- the text of the buffer goes to slot k -/
def nCh (ch : Nat → Nat) (k : Nat) : Nat → Nat := fun i => if 64 * k ≤ i ∧ i < 64 * k + 64 then ch (i - 64 * k + 640) else if 640 ≤ i ∧ i < 704 then 0 else ch i
def nSl (sl : Nat → Nat) (k : Nat) : Nat → Nat := fun s => if s = k then sl 10 else if s = 10 then 0 else sl s
theorem nCh_k (ch : Nat → Nat) (k i : Nat) (hi : i < 64) : nCh ch k (64 * k + i) = ch (64 * 10 + i) := by
  unfold nCh
  rw [if_pos (by omega), show 64 * k + i - 64 * k + 640 = 64 * 10 + i by omega]
theorem nCh_s (ch : Nat → Nat) {k s i : Nat} (hs : s ≠ k) (hs2 : s < 10) (hi : i < 64) : nCh ch k (64 * s + i) = ch (64 * s + i) := by
  unfold nCh
  rw [if_neg (by omega), if_neg (by omega)]
theorem Txt.mv {ch sl : Nat → Nat} (h : Txt ch sl) {k : Nat} (hk : k < 10) : Txt (nCh ch k) (nSl sl k) := by
  refine ⟨fun s hs => ?_, fun i => ?_⟩
  · by_cases c : s = k
    · subst c
      have := h.1 10 (by omega)
      have e : nSl sl s s = sl 10 := by unfold nSl; rw [if_pos rfl]
      rw [e]
      exact ⟨this.1, fun i hi => by rw [nCh_k ch s i (by omega)]; exact this.2.1 i hi, fun i h1 h2 => by rw [nCh_k ch s i h2]; exact this.2.2 i h1 h2⟩
    · by_cases c2 : s = 10
      · subst c2
        have e : nSl sl k 10 = 0 := by unfold nSl; rw [if_neg c, if_pos rfl]
        rw [e]
        refine ⟨by omega, fun i hi => by omega, fun i _ h2 => ?_⟩
        unfold nCh
        rw [if_neg (by omega), if_pos (by omega)]
      · have this := h.1 s hs
        have e : nSl sl k s = sl s := by unfold nSl; rw [if_neg c, if_neg c2]
        rw [e]
        exact ⟨this.1, fun i hi => by rw [nCh_s ch c (by omega) (by omega)]; exact this.2.1 i hi, fun i h1 h2 => by rw [nCh_s ch c (by omega) h2]; exact this.2.2 i h1 h2⟩
  · unfold nCh
    split
    · exact h.2 _
    split
    · omega
    · exact h.2 _
theorem Valid.mv {ch sl : Nat → Nat} (h : Txt ch sl) (hv : Valid ch sl) {k : Nat} (hk : k < 10) (hb : bufF ch sl (if k = 0 then 1 else 0) = none) : Valid (nCh ch k) (nSl sl k) := by
  intro s hs h0
  by_cases c : s = k
  · subst c
    have e : nSl sl s s = sl 10 := by unfold nSl; rw [if_pos rfl]
    rw [e]
    unfold bufF at hb
    by_cases c0 : s = 0
    · rw [if_pos c0]
      rw [if_pos c0, if_pos rfl] at hb
      rw [fG_mv h (t := 10) (by omega) (fun i hi => nCh_k ch s i hi)]
      exact hb
    · rw [if_neg c0]
      rw [if_neg c0, if_neg (by omega)] at hb
      rw [fO_mv h (t := 10) (by omega) (fun i hi => nCh_k ch s i hi)]
      exact hb
  · have e : nSl sl k s = sl s := by unfold nSl; rw [if_neg c, if_neg (by omega)]
    rw [e] at h0 ⊢
    have := hv s hs h0
    rw [fG_mv h (t := s) (by omega) (fun i hi => nCh_s ch c hs hi), fO_mv h (t := s) (by omega) (fun i hi => nCh_s ch c hs hi)]
    exact this
