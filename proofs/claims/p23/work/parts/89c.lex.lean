/-! the first proof as a trial -/
/-- a trial tells the first numbers of a code, from a place on -/
def Ag (t : List Nat) (u : Nat) (w : List Nat) (i : Nat) : Prop := ∀ j, j < i → t[u + j]? = w[j]?
theorem Ag.zero (t : List Nat) (u : Nat) (w : List Nat) : Ag t u w 0 := fun j h => absurd h (Nat.not_lt_zero j)
theorem Ag.head {t w : List Nat} {u x i : Nat} (h : Ag t u (x :: w) (i + 1)) : t[u]? = some x ∧ Ag t (u + 1) w i := by
  refine ⟨h 0 (by omega), fun j hj => ?_⟩
  have := h (j + 1) (by omega)
  rw [List.getElem?_cons_succ] at this
  rw [← this]
  congr 1
  omega
theorem Ag.cons {t w : List Nat} {u x i : Nat} (h : t[u]? = some x) (g : Ag t (u + 1) w i) : Ag t u (x :: w) (i + 1) := by
  intro j hj
  cases j with
  | zero => exact h
  | succ j =>
    rw [List.getElem?_cons_succ, ← g j (by omega)]
    congr 1
    omega
theorem Ag.left {t a b : List Nat} {u i : Nat} (h : Ag t u (a ++ b) i) (hi : i ≤ a.length) : Ag t u a i := fun j hj => by rw [h j hj, List.getElem?_append_left (by omega)]
theorem Ag.right {t a b : List Nat} {u i : Nat} (h : Ag t u (a ++ b) (a.length + i)) : Ag t (u + a.length) b i := fun j hj => by
  have := h (a.length + j) (by omega)
  rw [List.getElem?_append_right (by omega), show a.length + j - a.length = j by omega] at this
  rw [← this]
  congr 1
  omega
theorem Ag.mkl {t a b : List Nat} {u i : Nat} (h : Ag t u a i) (hi : i ≤ a.length) : Ag t u (a ++ b) i := fun j hj => by rw [h j hj, List.getElem?_append_left (by omega)]
theorem Ag.app {t a b : List Nat} {u i : Nat} (h : Ag t u a a.length) (g : Ag t (u + a.length) b i) : Ag t u (a ++ b) (a.length + i) := fun j hj => by
  by_cases c : j < a.length
  · rw [h j c, List.getElem?_append_left c]
  · rw [List.getElem?_append_right (by omega), ← g (j - a.length) (by omega)]
    congr 1
    omega
theorem Ag.mono {t w : List Nat} {u i k : Nat} (h : Ag t u w i) (hk : k ≤ i) : Ag t u w k := fun j hj => h j (by omega)
theorem getD_of {t : List Nat} {u x : Nat} (h : t[u]? = some x) : u < t.length ∧ t.getD u 0 = x := by
  obtain ⟨h1, h2⟩ := List.getElem?_eq_some_iff.1 h
  refine ⟨h1, ?_⟩
  rw [List.getD_eq_getElem?_getD, h]
  rfl
/-- a visit never gives numbers back -/
theorem vis_up {ch : Nat → Nat} {t : List Nat} : ∀ (r p s u dp : Nat), u ≤ (vis ch t r p s u dp).2.1 := by
  intro r
  induction r with
  | zero => intro p s u dp; exact Nat.le_refl u
  | succ r ih =>
    intro p s u dp
    show u ≤ (stV ch t (vis ch t r) p s u (max dp (12 - r))).2.1
    generalize max dp (12 - r) = M
    have sqm : ∀ (a : VR) (f : Nat → Nat → VR), u ≤ a.2.1 → (∀ x y, x ≤ (f x y).2.1) → u ≤ (sq a f).2.1 := by
      intro a f h1 h2
      unfold sq
      split
      · exact Nat.le_trans h1 (h2 _ _)
      · exact h1
    rcases kd_split (kd ch p) with c | c | c | c | c | c | c | c
    · rw [stV_49 c]; split <;> exact Nat.le_refl u
    · rw [stV_84 c]; exact Nat.le_refl u
    · rw [stV_33 c]; split
      · exact ih _ _ _ _
      · exact Nat.le_refl u
    · rw [stV_42 c]; split
      · exact Nat.le_refl u
      · split
        · exact sqm _ _ (Nat.le_trans (Nat.le_succ u) (ih _ _ _ _)) (fun x y => ih _ _ _ _)
        · exact Nat.le_refl u
    · rw [stV_38 c]; exact sqm _ _ (ih _ _ _ _) (fun x y => ih _ _ _ _)
    · rw [stV_43 c]; split
      · exact Nat.le_refl u
      · split
        · exact Nat.le_trans (Nat.le_succ u) (ih _ _ _ _)
        · split
          · exact Nat.le_trans (Nat.le_succ u) (ih _ _ _ _)
          · exact Nat.le_refl u
    · rw [stV_91 c]; split
      · exact Nat.le_refl u
      · exact ih _ _ _ _
    · rw [stV_ot c]; split
      · exact Nat.le_refl u
      · unfold vAt
        split
        · exact Nat.le_refl u
        · split
          · unfold vAtF
            split
            · exact Nat.le_refl u
            · split
              · exact Nat.le_refl u
              · split
                · split
                  · exact Nat.le_trans (Nat.le_succ u) (ih _ _ _ _)
                  · split <;> exact Nat.le_succ u
                · exact Nat.le_refl u
          · exact Nat.le_refl u
/-- what a trial that tells the first i numbers of the first proof comes to -/
def Ru (t : List Nat) (u dp : Nat) (w : List Nat) (i D : Nat) (v : VR) : Prop :=
  (i = w.length → ∃ d, v = (0, u + i, d) ∧ d ≤ max dp D) ∧ (i < w.length → u + i ≤ v.2.1 ∧ (t.length = u + i → v.1 = 2 ∧ v.2.1 = u + i))
theorem Ru.cons {t w : List Nat} {u dp x i D : Nat} {v : VR} (h : Ru t (u + 1) dp w i D v) : Ru t u dp (x :: w) (i + 1) D v := by
  refine ⟨fun q => ?_, fun q => ?_⟩
  · obtain ⟨d, h1, h2⟩ := h.1 (by simpa using q)
    exact ⟨d, by rw [h1]; congr 2; omega, h2⟩
  · have := h.2 (by simpa using q)
    refine ⟨by omega, fun z => ?_⟩
    have := this.2 (by omega)
    exact ⟨this.1, by omega⟩
theorem Ru.none {t w : List Nat} {u dp x D : Nat} {v : VR} (h1 : u ≤ v.2.1) (h2 : t.length ≤ u → v.1 = 2 ∧ v.2.1 = u) : Ru t u dp (x :: w) 0 D v :=
  ⟨fun q => absurd q (by simp), fun _ => ⟨by omega, fun z => by have := h2 (by omega); exact ⟨this.1, by omega⟩⟩⟩
/-- two visits, one behind the other -/
theorem Ru.sq {t a b : List Nat} {u dp i D : Nat} {v : VR} {f : Nat → Nat → VR} (hi : i ≤ (a ++ b).length) (hf : ∀ x y, x ≤ (f x y).2.1)
    (h1 : ∀ i, i ≤ a.length → Ag t u a i → Ru t u dp a i D v) (h2 : ∀ i d, d ≤ max dp D → i ≤ b.length → Ag t (u + a.length) b i → Ru t (u + a.length) d b i D (f (u + a.length) d)) (hg : Ag t u (a ++ b) i) : Ru t u dp (a ++ b) i D (sq v f) := by
  rw [List.length_append] at hi
  by_cases c : i < a.length
  · have h := (h1 i (by omega) (hg.left (by omega))).2 c
    refine ⟨fun q => absurd q (by rw [List.length_append]; omega), fun _ => ?_⟩
    show u + i ≤ (if v.1 = 0 then f v.2.1 v.2.2 else v).2.1 ∧ (t.length = u + i → (if v.1 = 0 then f v.2.1 v.2.2 else v).1 = 2 ∧ (if v.1 = 0 then f v.2.1 v.2.2 else v).2.1 = u + i)
    by_cases c0 : v.1 = 0
    · rw [if_pos c0]
      refine ⟨Nat.le_trans h.1 (hf _ _), fun z => ?_⟩
      have := (h.2 z).1
      omega
    · rw [if_neg c0]; exact h
  · obtain ⟨k, rfl⟩ : ∃ k, i = a.length + k := ⟨i - a.length, by omega⟩
    obtain ⟨d, h3, h4⟩ := (h1 a.length (Nat.le_refl _) (hg.mono (by omega) |>.left (Nat.le_refl _))).1 rfl
    have h5 := h2 k d h4 (by omega) hg.right
    rw [h3]
    show Ru t u dp (a ++ b) (a.length + k) D (f (u + a.length) d)
    refine ⟨fun q => ?_, fun q => ?_⟩
    · obtain ⟨d2, g1, g2⟩ := h5.1 (by rw [List.length_append] at q; omega)
      exact ⟨d2, by rw [g1, Nat.add_assoc], by omega⟩
    · have := h5.2 (by rw [List.length_append] at q; omega)
      refine ⟨by omega, fun z => ?_⟩
      have := this.2 (by omega)
      exact ⟨this.1, by omega⟩
theorem fst_tol {ch : Nat → Nat} {B : Nat → Nat → Bool} {cc s k : Nat} (h : tol ch B cc s k = true) : ∃ r q, afU (k / 3) s = some r ∧ fp ch (k / 3) (k % 3) = some q ∧ ch q = cc ∧ ((ch (q + 1) = 60 ∧ B (q + 2) r = true) ∨ (ch (q + 1) ≠ 60 ∧ r = 0)) := by
  unfold tol at h
  cases e : afU (k / 3) s with
  | none => rw [e] at h; exact absurd h Bool.false_ne_true
  | some r =>
    rw [e] at h
    change tolR ch B cc (k / 3) (k % 3) r = true at h
    unfold tolR at h
    cases e2 : fp ch (k / 3) (k % 3) with
    | none => rw [e2] at h; exact absurd h Bool.false_ne_true
    | some q =>
      rw [e2] at h
      change (decide (ch q = cc) && (if ch (q + 1) = 60 then B (q + 2) r else decide (r = 0))) = true at h
      rw [Bool.and_eq_true] at h
      refine ⟨r, q, rfl, rfl, of_decide_eq_true h.1, ?_⟩
      by_cases c : ch (q + 1) = 60
      · rw [if_pos c] at h; exact Or.inl ⟨c, h.2⟩
      · rw [if_neg c] at h; exact Or.inr ⟨c, of_decide_eq_true h.2⟩
theorem numK_back {k : Nat} (h : k < 36) : offD (numK k) = some (k / 3) ∧ numK k % 10 = k % 3 := by
  unfold offD numK
  by_cases c : k < 24
  · rw [if_pos c, if_pos (by omega), if_pos (by omega)]
    exact ⟨congrArg some (by omega), by omega⟩
  · rw [if_neg c, if_neg (by omega), if_pos (by omega), if_pos (by omega)]
    exact ⟨congrArg some (by omega), by omega⟩
theorem numK_mono {a b : Nat} (h : a < b) : numK a < numK b := by
  unfold numK
  by_cases c : b < 24
  · rw [if_pos (by omega), if_pos c]; omega
  · rw [if_neg c]
    by_cases c2 : a < 24
    · rw [if_pos c2]; omega
    · rw [if_neg c2]; omega
theorem numK_off {x o : Nat} (h : offD x = some o) (h2 : x % 10 < 3) : numK (3 * o + x % 10) = x := by
  unfold offD at h
  unfold numK
  by_cases c : x < 100
  · rw [if_pos c] at h
    by_cases c2 : x / 10 < 8
    · rw [if_pos c2] at h
      obtain rfl := Option.some.inj h
      rw [if_pos (by omega)]; omega
    · rw [if_neg c2] at h; cases h
  · rw [if_neg c] at h
    by_cases c1 : x < 200
    · rw [if_pos c1] at h
      by_cases c2 : (x - 100) / 10 < 4
      · rw [if_pos c2] at h
        obtain rfl := Option.some.inj h
        rw [if_neg (by omega)]; omega
      · rw [if_neg c2] at h; cases h
    · rw [if_neg c1] at h; cases h
theorem vis_run {ch : Nat → Nat} {t : List Nat} (hb : NB ch) : ∀ (h r p s u dp i : Nat), h ≤ r → r ≤ 12 → s < 256 → Lv ch one h p s = true → i ≤ (wr ch h p s).length → Ag t u (wr ch h p s) i → Ru t u dp (wr ch h p s) i (12 - r + h) (vis ch t r p s u dp) := by
  intro h
  induction h with
  | zero => intro r p s u dp i _ _ _ q; exact absurd q Bool.false_ne_true
  | succ h ih =>
    intro r p s u dp i h1 h2 hs hl hi ha
    obtain ⟨r, rfl⟩ : ∃ q, r = q + 1 := ⟨r - 1, by omega⟩
    change stp ch one (Lv ch one h) p s = true at hl
    change i ≤ (stF ch (Lv ch one h) (wr ch h) p s).length at hi
    change Ag t u (stF ch (Lv ch one h) (wr ch h) p s) i at ha
    show Ru t u dp (stF ch (Lv ch one h) (wr ch h) p s) i (12 - (r + 1) + (h + 1)) (stV ch t (vis ch t r) p s u (max dp (12 - r)))
    have hM : max dp (12 - r) ≤ max dp (12 - (r + 1) + (h + 1)) := by omega
    rw [show 12 - (r + 1) + (h + 1) = 12 - r + h by omega] at hM ⊢
    generalize max dp (12 - r) = M at hM ⊢
    have up : ∀ {w : List Nat} {v : VR} {u i : Nat}, Ru t u M w i (12 - r + h) v → Ru t u dp w i (12 - r + h) v := by
      intro w v u i q
      refine ⟨fun z => ?_, q.2⟩
      obtain ⟨d, q1, q2⟩ := q.1 z
      exact ⟨d, q1, by omega⟩
    refine up ?_
    have leaf : ∀ {v : VR}, i ≤ ([] : List Nat).length → v = (0, u, M) → Ru t u M [] i (12 - r + h) v := by
      intro v q e
      have q0 : i = 0 := Nat.le_zero.1 q
      subst q0
      exact ⟨fun _ => ⟨M, e, by omega⟩, fun z => absurd z (by simp)⟩
    have sub : ∀ (p s u d i : Nat), s < 256 → Lv ch one h p s = true → i ≤ (wr ch h p s).length → Ag t u (wr ch h p s) i → Ru t u d (wr ch h p s) i (12 - r + h) (vis ch t r p s u d) := fun p s u d i a b c e => ih r p s u d i (by omega) (by omega) a b c e
    rcases kd_split (kd ch p) with c | c | c | c | c | c | c | c
    · rw [stF_49 c] at hi ⊢
      rw [stp_49 c] at hl
      rw [stV_49 c, if_pos (of_decide_eq_true hl)]
      exact leaf hi rfl
    · rw [stF_84 c] at hi ⊢
      rw [stV_84 c]
      exact leaf hi rfl
    · rw [stF_33 c] at hi ha ⊢
      rw [stp_33 c, Bool.and_eq_true] at hl
      have h0 := of_decide_eq_true hl.1
      subst h0
      rw [stV_33 c, if_pos rfl]
      exact sub _ _ _ _ _ hs hl.2 hi ha
    · rw [stF_42 c] at hi ha ⊢
      rw [stp_42 c] at hl
      obtain ⟨q, e⟩ := Option.isSome_iff_exists.1 hl
      rw [e] at hi ha ⊢
      change i ≤ ((200 + q) :: (wr ch h (ch1 ch p) q ++ wr ch h (ch2 ch p) (s ^^^ q))).length at hi
      change Ag t u ((200 + q) :: (wr ch h (ch1 ch p) q ++ wr ch h (ch2 ch p) (s ^^^ q))) i at ha
      show Ru t u M ((200 + q) :: (wr ch h (ch1 ch p) q ++ wr ch h (ch2 ch p) (s ^^^ q))) i (12 - r + h) _
      obtain ⟨_, q2, q3, _⟩ := fstN_some e
      unfold splt at q3
      rw [Bool.and_eq_true, Bool.and_eq_true] at q3
      have qs := of_decide_eq_true q3.1
      cases i with
      | zero =>
        refine Ru.none ?_ (fun z => ?_)
        · rw [stV_42 c]
          split
          · exact Nat.le_refl u
          · split
            · unfold sq
              split
              · exact Nat.le_trans (Nat.le_trans (Nat.le_succ u) (vis_up _ _ _ _ _)) (vis_up _ _ _ _ _)
              · exact Nat.le_trans (Nat.le_succ u) (vis_up _ _ _ _ _)
            · exact Nat.le_refl u
        · rw [stV_42 c, if_pos z]; exact ⟨rfl, rfl⟩
      | succ i =>
        obtain ⟨a1, a2⟩ := ha.head
        obtain ⟨b1, b2⟩ := getD_of a1
        rw [stV_42 c, if_neg (by omega), b2, if_pos ⟨by omega, by rw [show 200 + q - 200 = q by omega]; exact qs⟩, show 200 + q - 200 = q by omega]
        refine Ru.cons (Ru.sq (Nat.le_of_succ_le_succ hi) (fun x y => vis_up _ _ _ _ _) (fun i g1 g2 => sub _ _ _ _ _ (by omega) q3.2.1 g1 g2) (fun i d _ g1 g2 => sub _ _ _ _ _ (xor_lt hs (by omega)) q3.2.2 g1 g2) a2)
    · rw [stF_38 c] at hi ha ⊢
      rw [stp_38 c, Bool.and_eq_true] at hl
      rw [stV_38 c]
      exact Ru.sq hi (fun x y => vis_up _ _ _ _ _) (fun i g1 g2 => sub _ _ _ _ _ hs hl.1 g1 g2) (fun i d _ g1 g2 => sub _ _ _ _ _ hs hl.2 g1 g2) ha
    · rw [stF_43 c] at hi ha ⊢
      rw [stp_43 c, Bool.or_eq_true] at hl
      have z0 : ∀ {x : Nat} {w : List Nat}, Ru t u M (x :: w) 0 (12 - r + h) (stV ch t (vis ch t r) p s u M) := by
        intro x w
        refine Ru.none ?_ (fun z => ?_)
        · rw [stV_43 c]
          split
          · exact Nat.le_refl u
          · split
            · exact Nat.le_trans (Nat.le_succ u) (vis_up _ _ _ _ _)
            · split
              · exact Nat.le_trans (Nat.le_succ u) (vis_up _ _ _ _ _)
              · exact Nat.le_refl u
        · rw [stV_43 c, if_pos z]; exact ⟨rfl, rfl⟩
      by_cases c1 : Lv ch one h (ch1 ch p) s = true
      · rw [if_pos c1] at hi ha ⊢
        cases i with
        | zero => exact z0
        | succ i =>
          obtain ⟨a1, a2⟩ := ha.head
          obtain ⟨b1, b2⟩ := getD_of a1
          rw [stV_43 c, if_neg (by omega), b2, if_pos rfl]
          exact Ru.cons (sub _ _ _ _ _ hs c1 (Nat.le_of_succ_le_succ hi) a2)
      · rw [if_neg c1] at hi ha ⊢
        cases i with
        | zero => exact z0
        | succ i =>
          obtain ⟨a1, a2⟩ := ha.head
          obtain ⟨b1, b2⟩ := getD_of a1
          rw [stV_43 c, if_neg (by omega), b2, if_neg (by decide), if_pos rfl]
          exact Ru.cons (sub _ _ _ _ _ hs (hl.resolve_left c1) (Nat.le_of_succ_le_succ hi) a2)
    · exact absurd c (hb.kd p)
    · rw [stF_ot c] at hi ha ⊢
      rw [stp_ot c] at hl
      obtain ⟨k, e⟩ := Option.isSome_iff_exists.1 hl
      rw [e] at hi ha ⊢
      change i ≤ (numK k :: wrB ch (wr ch h) s k).length at hi
      change Ag t u (numK k :: wrB ch (wr ch h) s k) i at ha
      show Ru t u M (numK k :: wrB ch (wr ch h) s k) i (12 - r + h) _
      obtain ⟨_, k2, k3, _⟩ := fstN_some e
      obtain ⟨r1, q, d1, d2, d3, d4⟩ := fst_tol k3
      obtain ⟨n1, n2⟩ := numK_back (show k < 36 by omega)
      cases i with
      | zero =>
        refine Ru.none ?_ (fun z => ?_)
        · rw [stV_ot c]
          split
          · exact Nat.le_refl u
          · unfold vAt
            split
            · exact Nat.le_refl u
            · split
              · unfold vAtF
                split
                · exact Nat.le_refl u
                · split
                  · exact Nat.le_refl u
                  · split
                    · split
                      · exact Nat.le_trans (Nat.le_succ u) (vis_up _ _ _ _ _)
                      · split <;> exact Nat.le_succ u
                    · exact Nat.le_refl u
              · exact Nat.le_refl u
        · rw [stV_ot c, if_pos z]; exact ⟨rfl, rfl⟩
      | succ i =>
        obtain ⟨a1, a2⟩ := ha.head
        obtain ⟨b1, b2⟩ := getD_of a1
        have ev : stV ch t (vis ch t r) p s u M = if ch (q + 1) = 60 then vis ch t r (q + 2) r1 (u + 1) M else if r1 = 0 then (0, u + 1, M) else (4, u + 1, M) := by
          rw [stV_ot c, if_neg (by omega), b2]
          unfold vAt
          rw [n1]
          show (if numK k % 10 < 3 then vAtF ch _ (kd ch p) s u M (k / 3) (numK k % 10) else _) = _
          rw [n2, if_pos (by omega)]
          unfold vAtF
          rw [d1]
          show (match fp ch (k / 3) (k % 3) with
            | none => ((3, u, M) : VR)
            | some q => if ch q = kd ch p then (if ch (q + 1) = 60 then vis ch t r (q + 2) r1 (u + 1) M else if r1 = 0 then (0, u + 1, M) else (4, u + 1, M)) else (3, u, M)) = _
          rw [d2]
          show (if ch q = kd ch p then _ else _) = _
          rw [if_pos d3]
        have ew : wrB ch (wr ch h) s k = if ch (q + 1) = 60 then wr ch h (q + 2) r1 else [] := by
          unfold wrB
          rw [d2]
          show (if ch (q + 1) = 60 then wrS (afU (k / 3) s) (fun r => wr ch h (q + 2) r) else []) = _
          rw [d1]
          rfl
        rw [ev]
        rw [ew] at hi a2 ⊢
        refine Ru.cons ?_
        have hi := Nat.le_of_succ_le_succ hi
        rcases d4 with ⟨d5, d6⟩ | ⟨d5, d6⟩
        · rw [if_pos d5] at hi a2 ⊢
          rw [if_pos d5]
          exact sub _ _ _ _ _ (afU_lt hs (by omega) d1) d6 hi a2
        · rw [if_neg d5] at hi a2 ⊢
          rw [if_neg d5, if_pos d6]
          have q0 : i = 0 := Nat.le_zero.1 hi
          subst q0
          exact ⟨fun _ => ⟨M, rfl, by omega⟩, fun z => absurd z (by simp)⟩
