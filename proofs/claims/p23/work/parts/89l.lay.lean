/-! the law: resources and wells are laid -/
theorem nN_win {ch sl ch' sl' : Nat → Nat} (ht : Txt ch sl) (hw : ∀ s, s < 10 → sl' s = sl s ∧ ∀ i, i < 64 → ch' (64 * s + i) = ch (64 * s + i)) {s : Nat} (hs : s < 10) : nN ch' sl' s = nN ch sl s ∧ lL ch' sl' s = lL ch sl s := by
  obtain ⟨w1, w2⟩ := hw s hs
  obtain ⟨e1, e2⟩ := sR_mv ht (t := s) (by omega) w2
  unfold nN lL sR
  rw [w1]
  by_cases c : sl s = 0
  · rw [if_pos c, if_pos c, if_pos c, if_pos c]; exact ⟨rfl, rfl⟩
  · rw [if_neg c, if_neg c, if_neg c, if_neg c]
    by_cases c0 : s = 0
    · rw [if_pos c0, if_pos c0, e1]; exact ⟨rfl, rfl⟩
    · rw [if_neg c0, if_neg c0, e2]; exact ⟨rfl, rfl⟩
theorem win_wc (ch sl : Nat → Nat) : ∀ s, s < 10 → wSl sl s = sl s ∧ ∀ i, i < 64 → wCh ch (64 * s + i) = ch (64 * s + i) := fun s hs => ⟨wSl_s sl hs, fun i hi => wCh_s ch hs hi⟩
/-- small texts without brackets -/
def J (G M : Nat → Nat) : Prop := ∀ s, s < 10 → nN G M s ≤ 5 ∧ lL G M s = 0
theorem tot_5 {f : Nat → Nat} {b : Nat} : ∀ k, (∀ s, s < k → f s ≤ 5) → tot f b k ≤ 5 * k := by
  intro k
  induction k with
  | zero => intro _; exact Nat.le_refl 0
  | succ k ih =>
    intro h
    have h1 := ih (fun s hs => h s (by omega))
    have h2 := h k (by omega)
    show tot f b k + (if k = b then 0 else f k) ≤ 5 * (k + 1)
    split <;> omega
theorem tot_z {f : Nat → Nat} {b : Nat} : ∀ k, (∀ s, s < k → f s = 0) → tot f b k = 0 := by
  intro k
  induction k with
  | zero => intro _; rfl
  | succ k ih =>
    intro h
    have h1 := ih (fun s hs => h s (by omega))
    have h2 := h k (by omega)
    show tot f b k + (if k = b then 0 else f k) = 0
    split <;> omega
theorem free_at {M : Nat → Nat} {k : Nat} (h0 : M k = 0) : ∀ (c a : Nat), (∀ s, a ≤ s → s < k → M s ≠ 0) → a ≤ k → k < a + c → free M a c = some k := by
  intro c
  induction c with
  | zero => intro a _ h1 h2; omega
  | succ c ih =>
    intro a h h1 h2
    show (if M a = 0 then some a else free M (a + 1) c) = some k
    by_cases e : a = k
    · rw [e, if_pos h0]
    · rw [if_neg (h a (Nat.le_refl _) (by omega))]
      exact ih (a + 1) (fun s q1 q2 => h s (by omega) q2) (by omega) (by omega)
theorem free_w {sl : Nat → Nat} : ∀ (c a : Nat), a + c ≤ 10 → free (wSl sl) a c = free sl a c := by
  intro c
  induction c with
  | zero => intro a _; rfl
  | succ c ih =>
    intro a h
    show (if wSl sl a = 0 then some a else free (wSl sl) (a + 1) c) = (if sl a = 0 then some a else free sl (a + 1) c)
    rw [wSl_s sl (show a < 10 by omega), ih (a + 1) (by omega)]
section
variable {c L : Nat} {xs : Nat → Int32} {t : List Nat} {G M : Nat → Nat} {l : List Nat} {σ : St}
theorem TQ.wipe (h : TQ c L xs t G M l σ) : ∃ r σ', s_X10_wipe 1 σ = some (r, σ') ∧ TQ c L xs t G M [] σ' := by
  obtain ⟨ch, sl, hq, rfl, rfl, hb, h10, hp⟩ := h
  obtain ⟨σ', a1, a2⟩ := a_wipe hq
  refine ⟨_, σ', a1, wCh ch, wSl sl, a2, wCh_wCh ch, wSl_wSl sl, fun i => ?_, ?_, fun i x hx => by cases hx⟩
  · unfold wCh; split
    · decide
    · exact hb i
  · show wSl sl 10 = 0
    unfold wSl; rw [if_pos rfl]
/-- what a taking leaves -/
theorem TQ.took {ch sl : Nat → Nat} {k n : Nat} {σ' : St} (hg : GI ch sl) (hb : NB ch) (hk : k < 10) (h10 : sl 10 ≠ 0) (hJ : J (wCh ch) (wSl sl)) (hbf : bufF ch sl (if k = 0 then 1 else 0) = none) (hR : (bufR ch (if k = 0 then 1 else 0)).2.2 = (n, 0)) (hn : n ≤ 5) (hq : QS c L xs (nCh ch k) (nSl sl k) t σ') :
    TQ c L xs t (nCh ch k) (nSl sl k) [] σ' ∧ J (nCh ch k) (nSl sl k) ∧ (∀ s, s < 10 → s ≠ k → nSl sl k s = wSl sl s) ∧ nSl sl k k ≠ 0 := by
  obtain ⟨m1, m2, m3⟩ := cnt_mv hg.1 hk hbf
  refine ⟨⟨nCh ch k, nSl sl k, hq, wCh_nCh k hk, wSl_nSl k hk, fun i => ?_, ?_, fun i x hx => by cases hx⟩, fun s hs => ?_, fun s hs hne => ?_, ?_⟩
  · unfold nCh
    split
    · exact hb _
    · split
      · decide
      · exact hb i
  · show (if 10 = k then sl 10 else if 10 = 10 then 0 else sl 10) = 0
    rw [if_neg (by omega), if_pos rfl]
  · by_cases e : s = k
    · rw [e, m2, m3, hR]; exact ⟨hn, rfl⟩
    · obtain ⟨q1, q2⟩ := m1 s hs e
      obtain ⟨q3, q4⟩ := nN_win hg.1 (win_wc ch sl) hs
      rw [q1, q2, ← q3, ← q4]
      exact hJ s hs
  · show (if s = k then sl 10 else if s = 10 then 0 else sl s) = _
    rw [if_neg hne, if_neg (by omega), wSl_s sl hs]
  · show (if k = k then sl 10 else _) ≠ 0
    rw [if_pos rfl]; exact h10
theorem J.tot {ch sl : Nat → Nat} (ht : Txt ch sl) (hJ : J (wCh ch) (wSl sl)) (b : Nat) : tot (nN ch sl) b 10 ≤ 50 ∧ tot (lL ch sl) b 10 = 0 := by
  have e := fun s (hs : s < 10) => nN_win ht (win_wc ch sl) hs
  exact ⟨tot_5 10 (fun s hs => by rw [← (e s hs).1]; exact (hJ s hs).1), tot_z 10 (fun s hs => by rw [← (e s hs).2]; exact (hJ s hs).2)⟩
/-- an offer in the text has no fault -/
theorem offer_buf {ch sl : Nat → Nat} (ht : Txt ch sl) (h10 : sl 10 = l.length) (hF : isF l) (hp : Pl ch 640 l) : bufF ch sl 0 = none ∧ ∃ n, n ≤ 5 ∧ (bufR ch 0).2.2 = (n, 0) := by
  have hl := isF_len hF
  obtain ⟨n, h1, h2⟩ := isF_parse hF hp ((ht.1 10 (Nat.le_refl _)).2.2 l.length (by omega) (by omega))
  refine ⟨?_, n, h2, ?_⟩
  · show (if (poff (G64 ch) ch 640).1 = true ∧ (poff (G64 ch) ch 640).2.1 = 640 + sl 10 then none else _) = none
    rw [h1, if_pos ⟨rfl, by rw [h10]⟩]
  · show (poff (G64 ch) ch 640).2.2 = _
    rw [h1]
theorem goal_buf {ch sl : Nat → Nat} (h10 : sl 10 = l.length) (hG : isG l) (hp : Pl ch 640 l) : bufF ch sl 1 = none ∧ ∃ n, 1 ≤ n ∧ n ≤ 5 ∧ (bufR ch 1).2.2 = (n, 0) := by
  obtain ⟨n, h1, h2, h3⟩ := isG_parse 61 hG hp
  have e : G64 ch 640 = (true, 640 + l.length, n, 0) := h1
  refine ⟨?_, n, h2, h3, ?_⟩
  · show (if (G64 ch 640).1 = true ∧ (G64 ch 640).2.1 = 640 + sl 10 then none else _) = none
    rw [e, if_pos ⟨rfl, by rw [h10]⟩]
  · show (G64 ch 640).2.2 = _
    rw [e]
theorem TQ.res (h : TQ c L xs t G M l σ) (hF : isF l) (hJ : J G M) (hc : c < 1000) {k : Nat} (hf : free M 1 5 = some k) (hk : 1 ≤ k ∧ k < 6) : ∃ σ' G' M', s_X10_resource 1 σ = some (I ((k - 1 : Nat) : Int), σ') ∧ TQ (c + 1) L xs t G' M' [] σ' ∧ J G' M' ∧ (∀ s, s < 10 → s ≠ k → M' s = M s) ∧ M' k ≠ 0 := by
  obtain ⟨ch, sl, hq, rfl, rfl, hb, h10, hp⟩ := h
  have hg := hq.gi
  obtain ⟨b1, n, b2, b3⟩ := offer_buf hg.1 h10 hF hp
  obtain ⟨t1, t2⟩ := hJ.tot hg.1 99
  rw [free_w 5 1 (by omega)] at hf
  obtain ⟨σ', a1, a2⟩ := a_resource hq hc b1 hf (by rw [b3, t2]; exact ⟨by show tot (nN ch sl) 99 10 + n ≤ 60; omega, by show 0 + 0 ≤ 3; omega⟩)
  have hl := isF_len hF
  have e0 : (if k = 0 then 1 else 0) = 0 := if_neg (by omega)
  obtain ⟨q1, q2, q3, q4⟩ := TQ.took (k := k) (n := n) hg hb (by omega) (by omega) hJ (by rw [e0]; exact b1) (by rw [e0]; exact b3) b2 a2
  exact ⟨σ', _, _, a1, q1, q2, q3, q4⟩
theorem TQ.wel (h : TQ c L xs t G M l σ) (hF : isF l) (hJ : J G M) (hc : c < 1000) {k : Nat} (hf : free M 6 4 = some k) (hk : 6 ≤ k ∧ k < 10) : ∃ σ' G' M', s_X10_well 1 σ = some (I ((k - 6 : Nat) : Int), σ') ∧ TQ (c + 1) L xs t G' M' [] σ' ∧ J G' M' ∧ (∀ s, s < 10 → s ≠ k → M' s = M s) ∧ M' k ≠ 0 := by
  obtain ⟨ch, sl, hq, rfl, rfl, hb, h10, hp⟩ := h
  have hg := hq.gi
  obtain ⟨b1, n, b2, b3⟩ := offer_buf hg.1 h10 hF hp
  obtain ⟨t1, t2⟩ := hJ.tot hg.1 99
  rw [free_w 4 6 (by omega)] at hf
  obtain ⟨σ', a1, a2⟩ := a_well hq hc b1 hf (by rw [b3, t2]; exact ⟨by show tot (nN ch sl) 99 10 + n ≤ 60; omega, by show 0 + 0 ≤ 3; omega⟩)
  have hl := isF_len hF
  have e0 : (if k = 0 then 1 else 0) = 0 := if_neg (by omega)
  obtain ⟨q1, q2, q3, q4⟩ := TQ.took (k := k) (n := n) hg hb (by omega) (by omega) hJ (by rw [e0]; exact b1) (by rw [e0]; exact b3) b2 a2
  exact ⟨σ', _, _, a1, q1, q2, q3, q4⟩
theorem TQ.gol (h : TQ c L xs t G M l σ) (hG : isG l) (hJ : J G M) (hc : c < 1000) : ∃ σ' G' M' n, 1 ≤ n ∧ n ≤ 5 ∧ s_X10_goal 1 σ = some (I (n : Nat), σ') ∧ TQ (c + 1) L xs t G' M' [] σ' ∧ J G' M' ∧ (∀ s, s < 10 → s ≠ 0 → M' s = M s) ∧ M' 0 ≠ 0 ∧ Pl G' 0 l := by
  obtain ⟨ch, sl, hq, rfl, rfl, hb, h10, hp⟩ := h
  have hg := hq.gi
  obtain ⟨b1, n, b0, b2, b3⟩ := goal_buf h10 hG hp
  obtain ⟨t1, t2⟩ := hJ.tot hg.1 0
  have en : (bufR ch 1).2.2.1 = n := congrArg Prod.fst b3
  obtain ⟨σ', a1, a2⟩ := a_goal hq hc b1 (by rw [b3, t2]; exact ⟨by show tot (nN ch sl) 0 10 + n ≤ 60; omega, by show 0 + 0 ≤ 3; omega⟩)
  have hl := isG_len hG
  obtain ⟨q1, q2, q3, q4⟩ := TQ.took (k := 0) (n := n) hg hb (by omega) (by omega) hJ b1 b3 b2 a2
  rw [en] at a1
  refine ⟨σ', _, _, n, b0, b2, a1, q1, q2, q3, q4, fun i x hx => ?_⟩
  have hi := (List.getElem?_eq_some_iff.1 hx).1
  have := nCh_k ch 0 i (by omega)
  rw [show 64 * 0 + i = 0 + i from rfl] at this
  rw [this]
  exact hp i x hx
/-- resources and wells, as many as were laid -/
def LW (c L : Nat) (xs : Nat → Int32) (t : List Nat) (nr nw : Nat) (σ : St) : Prop := ∃ G M l, TQ c L xs t G M l σ ∧ J G M ∧ (∀ s, 1 ≤ s → s ≤ 5 → (M s ≠ 0 ↔ s ≤ nr)) ∧ ∀ s, 6 ≤ s → s < 10 → (M s ≠ 0 ↔ s < 6 + nw)
theorem lp_63 (m a b : Nat) (d e f : Int32) (σ : St) : s_L_lay_63 (m + 1) a b d e f σ = sb_L_lay_63 (s_L_lay_63 m) a b d e f σ := rfl
theorem lp_6 (m a b : Nat) (d e f g : Int32) (σ : St) : s_L_lay_6 (m + 1) a b d e f g σ = sb_L_lay_6 (s_L_lay_6 m) a b d e f g σ := rfl
theorem lay63 (hL : L ≤ 260) {nr nw : Nat} (hw : nw ≤ 4) : ∀ (j i m c : Nat) (σ : St), i + j = nw → c + j < 900 → LW c L xs t nr i σ → ∃ σ', s_L_lay_63 (m + j + 1) 1 0 (I (nw : Nat)) 1 (I (i : Nat)) σ = some (1, σ') ∧ LW (c + j) L xs t nr nw σ' := by
  intro j
  induction j with
  | zero =>
    intro i m c σ hi hc h
    obtain rfl : i = nw := by omega
    refine ⟨σ, ?_, h⟩
    rw [lp_63]
    unfold sb_L_lay_63
    rw [if_pos (by rw [I_le (by omega) (by omega)]; omega), if_pos (show zok 1 = true from rfl)]
  | succ j ih =>
    intro i m c σ hi hc h
    obtain ⟨G, M, l, h1, h2, h3, h4⟩ := h
    rw [show m + (j + 1) + 1 = (m + j + 1) + 1 by omega, lp_63]
    obtain ⟨r, σ1, w1, w2⟩ := h1.wipe
    obtain ⟨g, g1, σ2, g2, g3⟩ := q_offer w2 hL (show 10 * i + 80 < 980 by omega) (by show 0 ≤ 40; omega)
    rw [List.nil_append] at g3
    obtain ⟨σ3, G', M', r1, r2, r3, r4, r5⟩ := g3.wel g1 h2 (by omega) (k := 6 + i) (free_at (Decidable.byContradiction fun q => by have := (h4 (6 + i) (by omega) (by omega)).1 q; omega) 4 6 (fun s q1 q2 => (h4 s q1 (by omega)).2 (by omega)) (by omega) (by omega)) ⟨by omega, by omega⟩
    obtain ⟨σ4, e1, e2⟩ := ih (i + 1) m (c + 1) σ3 (by omega) (by omega) ⟨G', M', [], r2, r3, fun s q1 q2 => by rw [r4 s (by omega) (by omega)]; exact h3 s q1 q2, fun s q1 q2 => by
      by_cases e : s = 6 + i
      · rw [e]; exact ⟨fun _ => by omega, fun _ => r5⟩
      · rw [r4 s (by omega) e, h4 s q1 q2]; omega⟩
    refine ⟨σ4, ?_, by rw [show c + (j + 1) = c + 1 + j by omega]; exact e2⟩
    unfold sb_L_lay_63
    have ea : (10 : Int32) * I (i : Nat) + 80 = I ((10 * i + 80 : Nat) : Int) := by
      rw [show (10 : Int32) = I ((10 : Nat) : Int) from rfl, show (80 : Int32) = I ((80 : Nat) : Int) from rfl, I_mul, I_add]
      exact congrArg I (by omega)
    rw [if_neg (by rw [I_le (by omega) (by omega)]; omega), if_pos h1.o, w1, bd_eq, if_neg (by decide), ea, g2, bd_eq, if_neg (by decide), if_pos g3.o, r1, bd_eq, if_pos (by rw [show 6 + i - 6 = i by omega])]
    unfold s_L_lay_109
    rw [lt_eq, I_p]
    exact e1
theorem lay6 (hL : L ≤ 260) {nr nw : Nat} (hr : nr ≤ 5) (hw : nw ≤ 4) : ∀ (j i m c : Nat) (σ : St), i + j = nr → c + j < 800 → LW c L xs t i 0 σ → ∃ σ', s_L_lay_6 (m + j + 1) 1 0 (I (nr : Nat)) (I (nw : Nat)) 1 (I (i : Nat)) σ = some (1, σ') ∧ LW (c + j + nw) L xs t nr nw σ' := by
  intro j
  induction j with
  | zero =>
    intro i m c σ hi hc h
    obtain rfl : i = nr := by omega
    obtain ⟨σ', e1, e2⟩ := lay63 hL hw nw 0 (15999 - nw) c σ (by omega) (by omega) h
    rw [show 15999 - nw + nw + 1 = 16000 by omega] at e1
    refine ⟨σ', ?_, e2⟩
    rw [lp_6]
    unfold sb_L_lay_6
    rw [if_pos (by rw [I_le (by omega) (by omega)]; omega)]
    exact e1
  | succ j ih =>
    intro i m c σ hi hc h
    obtain ⟨G, M, l, h1, h2, h3, h4⟩ := h
    rw [show m + (j + 1) + 1 = (m + j + 1) + 1 by omega, lp_6]
    obtain ⟨r, σ1, w1, w2⟩ := h1.wipe
    obtain ⟨g, g1, σ2, g2, g3⟩ := q_offer w2 hL (show 10 * i + 20 < 980 by omega) (by show 0 ≤ 40; omega)
    rw [List.nil_append] at g3
    obtain ⟨σ3, G', M', r1, r2, r3, r4, r5⟩ := g3.res g1 h2 (by omega) (k := 1 + i) (free_at (Decidable.byContradiction fun q => by have := (h3 (1 + i) (by omega) (by omega)).1 q; omega) 5 1 (fun s q1 q2 => (h3 s q1 (by omega)).2 (by omega)) (by omega) (by omega)) ⟨by omega, by omega⟩
    obtain ⟨σ4, e1, e2⟩ := ih (i + 1) m (c + 1) σ3 (by omega) (by omega) ⟨G', M', [], r2, r3, fun s q1 q2 => by
      by_cases e : s = 1 + i
      · rw [e]; exact ⟨fun _ => by omega, fun _ => r5⟩
      · rw [r4 s (by omega) e, h3 s q1 q2]; omega, fun s q1 q2 => by rw [r4 s (by omega) (by omega)]; exact h4 s q1 q2⟩
    refine ⟨σ4, ?_, by rw [show c + (j + 1) + nw = c + 1 + j + nw by omega]; exact e2⟩
    unfold sb_L_lay_6
    have ea : (10 : Int32) * I (i : Nat) + 20 = I ((10 * i + 20 : Nat) : Int) := by
      rw [show (10 : Int32) = I ((10 : Nat) : Int) from rfl, show (20 : Int32) = I ((20 : Nat) : Int) from rfl, I_mul, I_add]
      exact congrArg I (by omega)
    rw [if_neg (by rw [I_le (by omega) (by omega)]; omega), if_pos h1.o, w1, bd_eq, if_neg (by decide), ea, g2, bd_eq, if_neg (by decide), if_pos g3.o, r1, bd_eq, if_pos (by rw [show 1 + i - 1 = i by omega])]
    unfold s_L_lay_52
    rw [lt_eq, I_p]
    exact e1
theorem law_lay (hL : L ≤ 260) {nr nw : Nat} (hr : nr ≤ 5) (hw : nw ≤ 4) {c : Nat} {σ : St} (hc : c < 700) (h : LW c L xs t 0 0 σ) : ∃ σ', s_L_lay 1 0 (I (nr : Nat)) (I (nw : Nat)) σ = some (1, σ') ∧ LW (c + nr + nw) L xs t nr nw σ' := by
  obtain ⟨σ', e1, e2⟩ := lay6 hL hr hw nr 0 (15999 - nr) c σ (by omega) (by omega) h
  rw [show 15999 - nr + nr + 1 = 16000 by omega] at e1
  exact ⟨σ', e1, e2⟩
end
