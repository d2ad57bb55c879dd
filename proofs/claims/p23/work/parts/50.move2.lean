theorem sR_mv {ch ch' sl : Nat → Nat} (ht : Txt ch sl) {s t : Nat} (h : t ≤ 10) (he : ∀ i, i < 64 → ch' (64 * s + i) = ch (64 * t + i)) : (G64 ch' (64 * s)).2.2 = (G64 ch (64 * t)).2.2 ∧ (poff (G64 ch') ch' (64 * s)).2.2 = (poff (G64 ch) ch (64 * t)).2.2 := by
  rw [G64_mv ht h he, off_mv ht h he]
  exact ⟨rfl, rfl⟩
theorem bufF_pos {ch sl : Nat → Nat} (ht : Txt ch sl) {g : Nat} (hb : bufF ch sl g = none) : sl 10 ≠ 0 := by
  intro h0
  have hz : ch (64 * 10) = 0 := by
    have := win_end ht (t := 10) (by omega) (64 * 10) (by omega) (by omega)
    exact this
  unfold bufF at hb
  by_cases c : g = 1
  · rw [if_pos c] at hb
    obtain ⟨a, b⟩ := fG_ok hb
    have := (pgoal_pos ch (64 * 10) (sl 10) (win_end ht (by omega)) (ht.1 10 (by omega)).1 64 (64 * 10) (by omega) (by omega)).2.2 a
    have b' : (pgoal ch 64 (64 * 10)).2.1 = 64 * 10 + sl 10 := b
    omega
  · rw [if_neg c] at hb
    obtain ⟨a, b⟩ := fO_ok hb
    have := (poff_pos (g := pgoal ch 64) (64 * 10) (sl 10) (win_end ht (by omega)) (ht.1 10 (by omega)).1 (pgoal_pos ch (64 * 10) (sl 10) (win_end ht (by omega)) (ht.1 10 (by omega)).1 64) (64 * 10) (by omega) (by omega)).2.2 a
    have b' : (poff (pgoal ch 64) ch (64 * 10)).2.1 = 64 * 10 + sl 10 := b
    omega
theorem cnt_mv {ch sl : Nat → Nat} (ht : Txt ch sl) {k : Nat} (hk : k < 10) (hb : bufF ch sl (if k = 0 then 1 else 0) = none) :
    (∀ s, s < 10 → s ≠ k → nN (nCh ch k) (nSl sl k) s = nN ch sl s ∧ lL (nCh ch k) (nSl sl k) s = lL ch sl s) ∧ nN (nCh ch k) (nSl sl k) k = (bufR ch (if k = 0 then 1 else 0)).2.2.1 ∧ lL (nCh ch k) (nSl sl k) k = (bufR ch (if k = 0 then 1 else 0)).2.2.2 := by
  refine ⟨fun s hs hne => ?_, ?_⟩
  · have e : nSl sl k s = sl s := by unfold nSl; rw [if_neg hne, if_neg (by omega)]
    obtain ⟨a, b⟩ := sR_mv ht (ch' := nCh ch k) (s := s) (t := s) (by omega) (fun i hi => nCh_s ch hne hs hi)
    have hR : (sR (nCh ch k) s).2.2 = (sR ch s).2.2 := by
      unfold sR
      by_cases c : s = 0
      · rw [if_pos c, if_pos c]; exact a
      · rw [if_neg c, if_neg c]; exact b
    unfold nN lL
    rw [e, hR]
    exact ⟨rfl, rfl⟩
  · have e : nSl sl k k = sl 10 := by unfold nSl; rw [if_pos rfl]
    have h0 := bufF_pos ht hb
    obtain ⟨a, b⟩ := sR_mv ht (ch' := nCh ch k) (s := k) (t := 10) (by omega) (fun i hi => nCh_k ch k i hi)
    have hR : (sR (nCh ch k) k).2.2 = (bufR ch (if k = 0 then 1 else 0)).2.2 := by
      unfold sR bufR
      by_cases c : k = 0
      · rw [if_pos c, if_pos (by rw [if_pos c])]; exact a
      · rw [if_neg c, if_neg (by rw [if_neg c]; omega)]; exact b
    unfold nN lL
    rw [e, if_neg h0, if_neg h0, hR]
    exact ⟨rfl, rfl⟩
