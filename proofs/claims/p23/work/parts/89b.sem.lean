/-! ways and heights; trials that are accepted, and the first proof -/
def ot (k : Nat) : Prop := k ≠ 49 ∧ k ≠ 84 ∧ k ≠ 33 ∧ k ≠ 42 ∧ k ≠ 38 ∧ k ≠ 43 ∧ k ≠ 91
theorem kd_split (k : Nat) : k = 49 ∨ k = 84 ∨ k = 33 ∨ k = 42 ∨ k = 38 ∨ k = 43 ∨ k = 91 ∨ ot k := by unfold ot; omega
/-- no text has a bracket -/
def NB (ch : Nat → Nat) : Prop := ∀ i, ch i ≠ 91
theorem NB.kd {ch : Nat → Nat} (h : NB ch) (p : Nat) : kd ch p ≠ 91 := by
  show (if ch p = 40 then ch (eG ch (p + 1)) else ch p) ≠ 91
  split
  · exact h _
  · exact h _
theorem stp_ot {ch : Nat → Nat} {T : Nat → Bool} {B : Nat → Nat → Bool} {p s : Nat} (h : ot (kd ch p)) : stp ch T B p s = (fstN (tol ch B (kd ch p) s) 36 0).isSome := by
  obtain ⟨a1, a2, a3, a4, a5, a6, a7⟩ := h
  unfold stp
  rw [if_neg a1, if_neg a2, if_neg a3, if_neg a4, if_neg a5, if_neg a6, if_neg a7]
theorem stF_ot {ch : Nat → Nat} {B : Nat → Nat → Bool} {W : Nat → Nat → List Nat} {p s : Nat} (h : ot (kd ch p)) : stF ch B W p s = wrS (fstN (tol ch B (kd ch p) s) 36 0) (fun k => numK k :: wrB ch W s k) := by
  obtain ⟨a1, a2, a3, a4, a5, a6, a7⟩ := h
  unfold stF
  rw [if_neg a1, if_neg a2, if_neg a3, if_neg a4, if_neg a5, if_neg a6, if_neg a7]
theorem stV_ot {ch : Nat → Nat} {t : List Nat} {V : Nat → Nat → Nat → Nat → VR} {p s u dp : Nat} (h : ot (kd ch p)) : stV ch t V p s u dp = if t.length ≤ u then (2, u, dp) else vAt ch (fun p r => V p r (u + 1) dp) (kd ch p) s u dp (t.getD u 0) := by
  obtain ⟨a1, a2, a3, a4, a5, a6, a7⟩ := h
  unfold stV
  rw [if_neg a1, if_neg a2, if_neg a3, if_neg a4, if_neg a5, if_neg a6, if_neg a7]
/-! there is a way where there is a proof -/
theorem smW_pos {P : Nat → Nat} : ∀ {k i : Nat}, i < k → 0 < P i → 0 < smW P k := by
  intro k
  induction k with
  | zero => intro i h; omega
  | succ k ih =>
    intro i h hp
    show 0 < smW P k + P k
    by_cases c : i = k
    · rw [← c]; omega
    · have := ih (show i < k by omega) hp
      omega
theorem stW_pos {ch : Nat → Nat} {B : Nat → Nat → Nat} {C : Nat → Nat → Bool} (hB : ∀ p s, C p s = true → 0 < B p s) {p s : Nat} (h : stp ch one C p s = true) : 0 < stW ch B p s := by
  unfold stp at h
  unfold stW
  by_cases c1 : kd ch p = 49
  · rw [if_pos c1] at h ⊢; rw [if_pos (of_decide_eq_true h)]; decide
  rw [if_neg c1] at h ⊢
  by_cases c2 : kd ch p = 84
  · rw [if_pos c2]; decide
  rw [if_neg c2] at h ⊢
  by_cases c3 : kd ch p = 33
  · rw [if_pos c3] at h ⊢
    rw [Bool.and_eq_true] at h
    rw [if_pos (of_decide_eq_true h.1)]; exact hB _ _ h.2
  rw [if_neg c3] at h ⊢
  by_cases c4 : kd ch p = 42
  · rw [if_pos c4] at h ⊢
    obtain ⟨q, _, q2, q3⟩ := fstN_is.1 h
    refine smW_pos (i := q) (by omega) ?_
    unfold splt at q3
    rw [Bool.and_eq_true, Bool.and_eq_true] at q3
    unfold spW
    rw [if_pos (of_decide_eq_true q3.1)]
    exact Nat.mul_pos (hB _ _ q3.2.1) (hB _ _ q3.2.2)
  rw [if_neg c4] at h ⊢
  by_cases c5 : kd ch p = 38
  · rw [if_pos c5] at h ⊢
    rw [Bool.and_eq_true] at h
    exact Nat.mul_pos (hB _ _ h.1) (hB _ _ h.2)
  rw [if_neg c5] at h ⊢
  by_cases c6 : kd ch p = 43
  · rw [if_pos c6] at h ⊢
    rw [Bool.or_eq_true] at h
    rcases h with h | h
    · have := hB _ _ h; omega
    · have := hB _ _ h; omega
  rw [if_neg c6] at h ⊢
  by_cases c7 : kd ch p = 91
  · rw [if_pos c7] at h ⊢
    rw [Bool.and_eq_true] at h
    rw [if_neg (by intro e; rw [e] at h; exact absurd h.1 (by decide))]
    exact hB _ _ h.2
  rw [if_neg c7] at h ⊢
  obtain ⟨q, _, q2, q3⟩ := fstN_is.1 h
  refine smW_pos (i := q) (by omega) ?_
  unfold tol at q3
  unfold tlW
  cases e : afU (q / 3) s with
  | none => rw [e] at q3; exact absurd q3 Bool.false_ne_true
  | some r =>
    rw [e] at q3
    change tolR ch C (kd ch p) (q / 3) (q % 3) r = true at q3
    show 0 < tolW ch B (kd ch p) (q / 3) (q % 3) r
    unfold tolR at q3
    unfold tolW
    cases e2 : fp ch (q / 3) (q % 3) with
    | none => rw [e2] at q3; exact absurd q3 Bool.false_ne_true
    | some x =>
      rw [e2] at q3
      change (decide (ch x = kd ch p) && (if ch (x + 1) = 60 then C (x + 2) r else decide (r = 0))) = true at q3
      show 0 < if ch x = kd ch p then (if ch (x + 1) = 60 then B (x + 2) r else if r = 0 then 1 else 0) else 0
      rw [Bool.and_eq_true] at q3
      rw [if_pos (of_decide_eq_true q3.1)]
      by_cases c8 : ch (x + 1) = 60
      · rw [if_pos c8] at q3 ⊢; exact hB _ _ q3.2
      · rw [if_neg c8] at q3 ⊢; rw [if_pos (of_decide_eq_true q3.2)]; decide
theorem Wy_pos {ch : Nat → Nat} : ∀ {h p s : Nat}, Lv ch one h p s = true → 0 < Wy ch h p s := by
  intro h
  induction h with
  | zero => intro p s q; exact absurd q Bool.false_ne_true
  | succ h ih =>
    intro p s q
    have := stW_pos (B := Wy ch h) (fun p s => ih) q
    show 0 < cap (stW ch (Wy ch h) p s)
    unfold cap
    split <;> omega
theorem Wy_iff {ch : Nat → Nat} {h p s : Nat} : 0 < Wy ch h p s ↔ Lv ch one h p s = true := by
  refine ⟨fun q => ?_, Wy_pos⟩
  cases e : Lv ch one h p s with
  | false => rw [Wy_0 e] at q; exact absurd q (by decide)
  | true => rfl
/-! what an accepted trial shows -/
theorem ne0 {v x y u d : Nat} (hv : v ≠ 0) (e : ((v, x, y) : VR) = (0, u, d)) : False := hv (congrArg Prod.fst e)
theorem sq_0 {a : VR} {f : Nat → Nat → VR} {x : Nat × Nat} (h : sq a f = (0, x)) : ∃ u d, a = (0, u, d) ∧ f u d = (0, x) := by
  obtain ⟨v, u, d⟩ := a
  unfold sq at h
  by_cases c : v = 0
  · subst c; rw [if_pos rfl] at h; exact ⟨u, d, rfl, h⟩
  · rw [if_neg c] at h; exact absurd (congrArg Prod.fst h) c
theorem stV_0ot {ch : Nat → Nat} {t : List Nat} {V : Nat → Nat → Nat → Nat → VR} {p s u dp u' d' : Nat} (h : ot (kd ch p)) (e : stV ch t V p s u dp = (0, u', d')) :
    u < t.length ∧ ∃ o r q, offD (t.getD u 0) = some o ∧ t.getD u 0 % 10 < 3 ∧ afU o s = some r ∧ fp ch o (t.getD u 0 % 10) = some q ∧ ch q = kd ch p ∧ ((ch (q + 1) = 60 ∧ V (q + 2) r (u + 1) dp = (0, u', d')) ∨ (ch (q + 1) ≠ 60 ∧ r = 0 ∧ u' = u + 1 ∧ d' = dp)) := by
  rw [stV_ot h] at e
  by_cases c : t.length ≤ u
  · rw [if_pos c] at e; exact (ne0 (v := 2) (by decide) e).elim
  rw [if_neg c] at e
  refine ⟨by omega, ?_⟩
  unfold vAt at e
  cases e1 : offD (t.getD u 0) with
  | none => rw [e1] at e; exact (ne0 (v := 3) (by decide) e).elim
  | some o =>
    rw [e1] at e
    change (if t.getD u 0 % 10 < 3 then vAtF ch (fun p r => V p r (u + 1) dp) (kd ch p) s u dp o (t.getD u 0 % 10) else (3, u, dp)) = _ at e
    by_cases c2 : t.getD u 0 % 10 < 3
    · rw [if_pos c2] at e
      unfold vAtF at e
      cases e2 : afU o s with
      | none => rw [e2] at e; exact (ne0 (v := 3) (by decide) e).elim
      | some r =>
        rw [e2] at e
        cases e3 : fp ch o (t.getD u 0 % 10) with
        | none => rw [e3] at e; exact (ne0 (v := 3) (by decide) e).elim
        | some q =>
          rw [e3] at e
          change (if ch q = kd ch p then (if ch (q + 1) = 60 then V (q + 2) r (u + 1) dp else if r = 0 then (0, u + 1, dp) else (4, u + 1, dp)) else (3, u, dp)) = _ at e
          by_cases c3 : ch q = kd ch p
          · rw [if_pos c3] at e
            refine ⟨o, r, q, rfl, c2, e2, e3, c3, ?_⟩
            by_cases c4 : ch (q + 1) = 60
            · rw [if_pos c4] at e; exact Or.inl ⟨c4, e⟩
            · rw [if_neg c4] at e
              by_cases c5 : r = 0
              · rw [if_pos c5] at e
                have e5 := congrArg Prod.snd e
                exact Or.inr ⟨c4, c5, (congrArg Prod.fst e5).symm, (congrArg Prod.snd e5).symm⟩
              · rw [if_neg c5] at e; exact (ne0 (v := 4) (by decide) e).elim
          · rw [if_neg c3] at e; exact (ne0 (v := 3) (by decide) e).elim
    · rw [if_neg c2] at e; exact (ne0 (v := 3) (by decide) e).elim
theorem afU_lt {o s r : Nat} (hs : s < 256) (ho : o < 12) (h : afU o s = some r) : r < 256 := by
  unfold afU at h
  by_cases c : 8 ≤ o
  · rw [if_pos c] at h; obtain rfl := Option.some.inj h; exact hs
  · rw [if_neg c] at h
    by_cases c2 : s.testBit o = true
    · rw [if_pos c2] at h
      obtain rfl := Option.some.inj h
      exact xor_lt hs (Nat.lt_of_lt_of_le (Nat.pow_lt_pow_right (by decide) (show o < 8 by omega)) (Nat.le_refl 256))
    · rw [if_neg c2] at h; cases h
theorem vis_sound {ch : Nat → Nat} {t : List Nat} (hb : NB ch) : ∀ (r p s u dp u' d' : Nat), r ≤ 12 → s < 256 → vis ch t r p s u dp = (0, u', d') → 1 ≤ r ∧ dp ≤ d' ∧ u ≤ u' ∧ 13 ≤ d' + r ∧ Lv ch one (d' + r - 12) p s = true := by
  intro r
  induction r with
  | zero => intro p s u dp u' d' _ _ e; exact absurd (congrArg Prod.fst e) (by show ¬ (1 : Nat) = 0; decide)
  | succ r ih =>
    intro p s u dp u' d' hr hs e
    change stV ch t (vis ch t r) p s u (max dp (12 - r)) = (0, u', d') at e
    have hM : 12 - r ≤ max dp (12 - r) ∧ dp ≤ max dp (12 - r) := ⟨Nat.le_max_right _ _, Nat.le_max_left _ _⟩
    generalize max dp (12 - r) = M at e hM
    have fin : M ≤ d' → u ≤ u' → stp ch one (Lv ch one (d' + r - 12)) p s = true → 1 ≤ r + 1 ∧ dp ≤ d' ∧ u ≤ u' ∧ 13 ≤ d' + (r + 1) ∧ Lv ch one (d' + (r + 1) - 12) p s = true := by
      intro f1 f2 f3
      refine ⟨by omega, by omega, f2, by omega, ?_⟩
      rw [show d' + (r + 1) - 12 = (d' + r - 12) + 1 by omega]
      exact f3
    have leaf : ∀ {v : Nat}, ((v, u, M) : VR) = (0, u', d') → v = 0 ∧ u' = u ∧ d' = M := fun {v} q => ⟨congrArg Prod.fst q, (congrArg (fun x => x.2.1) q).symm, (congrArg (fun x => x.2.2) q).symm⟩
    rcases kd_split (kd ch p) with c | c | c | c | c | c | c | c
    · rw [stV_49 c] at e
      by_cases c2 : s = 0
      · rw [if_pos c2] at e
        obtain ⟨_, q2, q3⟩ := leaf e
        exact fin (by omega) (by omega) (by rw [stp_49 c]; exact decide_eq_true c2)
      · rw [if_neg c2] at e; exact absurd (leaf e).1 (by decide)
    · rw [stV_84 c] at e
      obtain ⟨_, q2, q3⟩ := leaf e
      exact fin (by omega) (by omega) (by rw [stp_84 c]; rfl)
    · rw [stV_33 c] at e
      by_cases c2 : s = 0
      · rw [if_pos c2] at e
        obtain ⟨g1, g2, g3, g4, g5⟩ := ih _ _ _ _ _ _ (by omega) hs e
        refine fin g2 g3 ?_
        rw [stp_33 c, decide_eq_true c2, Bool.true_and, ← c2]
        exact g5
      · rw [if_neg c2] at e; exact absurd (leaf e).1 (by decide)
    · rw [stV_42 c] at e
      by_cases c2 : t.length ≤ u
      · rw [if_pos c2] at e; exact absurd (leaf e).1 (by decide)
      rw [if_neg c2] at e
      by_cases c3 : 200 ≤ t.getD u 0 ∧ (t.getD u 0 - 200) &&& s = t.getD u 0 - 200
      · rw [if_pos c3] at e
        obtain ⟨u1, d1, e1, e2⟩ := sq_0 e
        have hq : t.getD u 0 - 200 ≤ s := sub_le c3.2
        obtain ⟨g1, g2, g3, g4, g5⟩ := ih _ _ _ _ _ _ (by omega) (by omega) e1
        obtain ⟨k1, k2, k3, k4, k5⟩ := ih _ _ _ _ _ _ (by omega) (xor_lt hs (show t.getD u 0 - 200 < 256 by omega)) e2
        refine fin (by omega) (by omega) ?_
        rw [stp_42 c]
        refine fstN_is.2 ⟨t.getD u 0 - 200, Nat.zero_le _, by omega, ?_⟩
        unfold splt
        rw [decide_eq_true c3.2, Bool.true_and, Lv_mono (by omega) g5, k5]
        rfl
      · rw [if_neg c3] at e; exact absurd (leaf e).1 (by decide)
    · rw [stV_38 c] at e
      obtain ⟨u1, d1, e1, e2⟩ := sq_0 e
      obtain ⟨g1, g2, g3, g4, g5⟩ := ih _ _ _ _ _ _ (by omega) hs e1
      obtain ⟨k1, k2, k3, k4, k5⟩ := ih _ _ _ _ _ _ (by omega) hs e2
      refine fin (by omega) (by omega) ?_
      rw [stp_38 c, Lv_mono (by omega) g5, k5]
      rfl
    · rw [stV_43 c] at e
      by_cases c2 : t.length ≤ u
      · rw [if_pos c2] at e; exact absurd (leaf e).1 (by decide)
      rw [if_neg c2] at e
      by_cases c3 : t.getD u 0 = 300
      · rw [if_pos c3] at e
        obtain ⟨g1, g2, g3, g4, g5⟩ := ih _ _ _ _ _ _ (by omega) hs e
        refine fin (by omega) (by omega) ?_
        rw [stp_43 c, g5, Bool.true_or]
      · rw [if_neg c3] at e
        by_cases c4 : t.getD u 0 = 301
        · rw [if_pos c4] at e
          obtain ⟨g1, g2, g3, g4, g5⟩ := ih _ _ _ _ _ _ (by omega) hs e
          refine fin (by omega) (by omega) ?_
          rw [stp_43 c, g5, Bool.or_true]
        · rw [if_neg c4] at e; exact absurd (leaf e).1 (by decide)
    · exact absurd c (hb.kd p)
    · obtain ⟨h1, o, r1, q, h2, h3, h4, h5, h6, h7⟩ := stV_0ot c e
      have ho := offD_lt h2
      have hr1 := afU_lt hs ho h4
      have tl : ∀ H, (if ch (q + 1) = 60 then Lv ch one H (q + 2) r1 else decide (r1 = 0)) = true → stp ch one (Lv ch one H) p s = true := by
        intro H hh
        rw [stp_ot c]
        refine fstN_is.2 ⟨3 * o + t.getD u 0 % 10, Nat.zero_le _, by omega, ?_⟩
        unfold tol
        rw [show (3 * o + t.getD u 0 % 10) / 3 = o by omega, show (3 * o + t.getD u 0 % 10) % 3 = t.getD u 0 % 10 by omega, h4]
        show tolR ch (Lv ch one H) (kd ch p) o (t.getD u 0 % 10) r1 = true
        unfold tolR
        rw [h5]
        show (decide (ch q = kd ch p) && _) = true
        rw [decide_eq_true h6, Bool.true_and]
        exact hh
      rcases h7 with ⟨h7, h8⟩ | ⟨h7, h8, h9, h10⟩
      · obtain ⟨g1, g2, g3, g4, g5⟩ := ih _ _ _ _ _ _ (by omega) hr1 h8
        exact fin (by omega) (by omega) (tl _ (by rw [if_pos h7]; exact g5))
      · exact fin (by omega) (by omega) (tl _ (by rw [if_neg h7]; exact decide_eq_true h8))
