/-! no accepted trial within the height comes before the first proof -/
/-- the numbers from u on are the code w, or come behind it -/
def Lx (t : List Nat) (u : Nat) (w : List Nat) (u' : Nat) : Prop := (u' = u + w.length ∧ Ag t u w w.length) ∨ ∃ i, i < w.length ∧ Ag t u w i ∧ w.getD i 0 < t.getD (u + i) 0
theorem Lx.cons {t w : List Nat} {u x u' : Nat} (h : t[u]? = some x) (g : Lx t (u + 1) w u') : Lx t u (x :: w) u' := by
  rcases g with ⟨g1, g2⟩ | ⟨i, g1, g2, g3⟩
  · exact Or.inl ⟨by rw [List.length_cons]; omega, Ag.cons h g2⟩
  · exact Or.inr ⟨i + 1, by rw [List.length_cons]; omega, Ag.cons h g2, by rw [List.getD_cons_succ, show u + (i + 1) = u + 1 + i by omega]; exact g3⟩
theorem Lx.less {t w : List Nat} {u x u' : Nat} (h : x < t.getD u 0) : Lx t u (x :: w) u' := Or.inr ⟨0, by rw [List.length_cons]; omega, Ag.zero t u _, h⟩
theorem Lx.app {t a b : List Nat} {u u1 u2 : Nat} (h : Lx t u a u1) (g : Lx t u1 b u2) : Lx t u (a ++ b) u2 := by
  rcases h with ⟨h1, h2⟩ | ⟨i, h1, h2, h3⟩
  · subst h1
    rcases g with ⟨g1, g2⟩ | ⟨i, g1, g2, g3⟩
    · refine Or.inl ⟨by rw [List.length_append]; omega, ?_⟩
      rw [List.length_append]
      exact Ag.app h2 g2
    · refine Or.inr ⟨a.length + i, by rw [List.length_append]; omega, Ag.app h2 g2, ?_⟩
      have e : (a ++ b).getD (a.length + i) 0 = b.getD i 0 := by
        rw [List.getD_eq_getElem?_getD, List.getD_eq_getElem?_getD, List.getElem?_append_right (by omega), show a.length + i - a.length = i by omega]
      rw [e, show u + (a.length + i) = u + a.length + i by omega]
      exact g3
  · refine Or.inr ⟨i, by rw [List.length_append]; omega, Ag.mkl h2 (by omega), ?_⟩
    have e : (a ++ b).getD i 0 = a.getD i 0 := by
      rw [List.getD_eq_getElem?_getD, List.getD_eq_getElem?_getD, List.getElem?_append_left h1]
    rw [e]; exact h3
theorem at_lt {t : List Nat} {u : Nat} (h : u < t.length) : t[u]? = some (t.getD u 0) := getD_some h
theorem vis_lex {ch : Nat → Nat} {t : List Nat} (hb : NB ch) : ∀ (r h p s u dp u' d' : Nat), r ≤ 12 → s < 256 → vis ch t r p s u dp = (0, u', d') → d' + r ≤ h + 12 → Lx t u (wr ch h p s) u' := by
  intro r
  induction r with
  | zero => intro h p s u dp u' d' _ _ e; exact absurd (congrArg Prod.fst e) (by show ¬ (1 : Nat) = 0; decide)
  | succ r ih =>
    intro h p s u dp u' d' hr hs e hd
    have hsd := vis_sound hb _ _ _ _ _ _ _ hr hs e
    obtain ⟨h, rfl⟩ : ∃ q, h = q + 1 := ⟨h - 1, by omega⟩
    change stV ch t (vis ch t r) p s u (max dp (12 - r)) = (0, u', d') at e
    generalize max dp (12 - r) = M at e
    show Lx t u (stF ch (Lv ch one h) (wr ch h) p s) u'
    have nil : ∀ {v : Nat}, ((v, u, M) : VR) = (0, u', d') → Lx t u [] u' := fun {v} q => Or.inl ⟨(congrArg (fun x => x.2.1) q).symm, Ag.zero t u _⟩
    have leaf : ∀ {v : Nat}, ((v, u, M) : VR) = (0, u', d') → v = 0 := fun {v} q => congrArg Prod.fst q
    -- a visit within: it can be proved within the height, and does not come before
    have sub : ∀ {p s u dp u1 d1 : Nat}, s < 256 → vis ch t r p s u dp = (0, u1, d1) → d1 ≤ d' → Lx t u (wr ch h p s) u1 ∧ Lv ch one h p s = true := fun {p s u dp u1 d1} a b c => ⟨ih h p s u dp u1 d1 (by omega) a b (by omega), Lv_mono (by omega) (vis_sound hb _ _ _ _ _ _ _ (by omega) a b).2.2.2.2⟩
    rcases kd_split (kd ch p) with c | c | c | c | c | c | c | c
    · rw [stV_49 c] at e
      rw [stF_49 c]
      by_cases c2 : s = 0
      · rw [if_pos c2] at e; exact nil e
      · rw [if_neg c2] at e; exact absurd (leaf e) (by decide)
    · rw [stV_84 c] at e
      rw [stF_84 c]
      exact nil e
    · rw [stV_33 c] at e
      rw [stF_33 c]
      by_cases c2 : s = 0
      · rw [if_pos c2] at e; exact (sub hs e (Nat.le_refl _)).1
      · rw [if_neg c2] at e; exact absurd (leaf e) (by decide)
    · rw [stV_42 c] at e
      rw [stF_42 c]
      by_cases c2 : t.length ≤ u
      · rw [if_pos c2] at e; exact absurd (leaf e) (by decide)
      rw [if_neg c2] at e
      by_cases c3 : 200 ≤ t.getD u 0 ∧ (t.getD u 0 - 200) &&& s = t.getD u 0 - 200
      · rw [if_pos c3] at e
        obtain ⟨u1, d1, e1, e2⟩ := sq_0 e
        have hq : t.getD u 0 - 200 ≤ s := sub_le c3.2
        have hx := xor_lt hs (show t.getD u 0 - 200 < 256 by omega)
        have hd1 := (vis_sound hb _ _ _ _ _ _ _ (by omega) hx e2).2.1
        obtain ⟨l1, l2⟩ := sub (show t.getD u 0 - 200 < 256 by omega) e1 hd1
        obtain ⟨l3, l4⟩ := sub hx e2 (Nat.le_refl _)
        have ht := at_lt (show u < t.length by omega)
        generalize hxx : t.getD u 0 = x at c3 hq hx l1 l2 l3 l4 ht
        have hsp : splt ch (Lv ch one h) p s (x - 200) = true := by
          unfold splt
          rw [decide_eq_true c3.2, l2, l4]
          rfl
        cases ef : fstN (splt ch (Lv ch one h) p s) 256 0 with
        | none => rw [fstN_none ef (x - 200) (Nat.zero_le _) (by omega)] at hsp; exact absurd hsp Bool.false_ne_true
        | some q0 =>
          show Lx t u ((200 + q0) :: (wr ch h (ch1 ch p) q0 ++ wr ch h (ch2 ch p) (s ^^^ q0))) u'
          obtain ⟨_, _, _, f4⟩ := fstN_some ef
          by_cases cq : q0 = x - 200
          · rw [cq]
            exact Lx.cons (by rw [ht]; exact congrArg some (by omega)) (Lx.app l1 l3)
          · have : ¬ x - 200 < q0 := fun z => by rw [f4 _ (Nat.zero_le _) z] at hsp; exact absurd hsp Bool.false_ne_true
            exact Lx.less (by omega)
      · rw [if_neg c3] at e; exact absurd (leaf e) (by decide)
    · rw [stV_38 c] at e
      rw [stF_38 c]
      obtain ⟨u1, d1, e1, e2⟩ := sq_0 e
      have hd1 := (vis_sound hb _ _ _ _ _ _ _ (by omega) hs e2).2.1
      exact Lx.app (sub hs e1 hd1).1 (sub hs e2 (Nat.le_refl _)).1
    · rw [stV_43 c] at e
      rw [stF_43 c]
      by_cases c2 : t.length ≤ u
      · rw [if_pos c2] at e; exact absurd (leaf e) (by decide)
      rw [if_neg c2] at e
      have ht := at_lt (show u < t.length by omega)
      by_cases c3 : t.getD u 0 = 300
      · rw [if_pos c3] at e
        obtain ⟨l1, l2⟩ := sub hs e (Nat.le_refl _)
        rw [if_pos l2]
        exact Lx.cons (by rw [ht, c3]) l1
      · rw [if_neg c3] at e
        by_cases c4 : t.getD u 0 = 301
        · rw [if_pos c4] at e
          obtain ⟨l1, l2⟩ := sub hs e (Nat.le_refl _)
          by_cases c5 : Lv ch one h (ch1 ch p) s = true
          · rw [if_pos c5]; exact Lx.less (by omega)
          · rw [if_neg c5]; exact Lx.cons (by rw [ht, c4]) l1
        · rw [if_neg c4] at e; exact absurd (leaf e) (by decide)
    · exact absurd c (hb.kd p)
    · obtain ⟨h1, o, r1, q, h2, h3, h4, h5, h6, h7⟩ := stV_0ot c e
      rw [stF_ot c]
      have ho := offD_lt h2
      have hr1 := afU_lt hs ho h4
      have ht := at_lt h1
      have hn := numK_off h2 h3
      generalize hxx : t.getD u 0 = x at h2 h3 h5 ht hn
      have hlv : (if ch (q + 1) = 60 then Lv ch one h (q + 2) r1 else decide (r1 = 0)) = true := by
        rcases h7 with ⟨h7, h8⟩ | ⟨h7, h8, h9, h10⟩
        · rw [if_pos h7]; exact (sub hr1 h8 (Nat.le_refl _)).2
        · rw [if_neg h7]; exact decide_eq_true h8
      have htl : tol ch (Lv ch one h) (kd ch p) s (3 * o + x % 10) = true := by
        unfold tol
        rw [show (3 * o + x % 10) / 3 = o by omega, show (3 * o + x % 10) % 3 = x % 10 by omega, h4]
        show tolR ch (Lv ch one h) (kd ch p) o (x % 10) r1 = true
        unfold tolR
        rw [h5]
        show (decide (ch q = kd ch p) && _) = true
        rw [decide_eq_true h6, Bool.true_and]
        exact hlv
      cases ef : fstN (tol ch (Lv ch one h) (kd ch p) s) 36 0 with
      | none => rw [fstN_none ef (3 * o + x % 10) (Nat.zero_le _) (by omega)] at htl; exact absurd htl Bool.false_ne_true
      | some k0 =>
        show Lx t u (numK k0 :: wrB ch (wr ch h) s k0) u'
        obtain ⟨_, _, _, f4⟩ := fstN_some ef
        by_cases ck : k0 = 3 * o + x % 10
        · subst ck
          have ew : wrB ch (wr ch h) s (3 * o + x % 10) = if ch (q + 1) = 60 then wr ch h (q + 2) r1 else [] := by
            unfold wrB
            rw [show (3 * o + x % 10) / 3 = o by omega, show (3 * o + x % 10) % 3 = x % 10 by omega, h5]
            show (if ch (q + 1) = 60 then wrS (afU o s) (fun r => wr ch h (q + 2) r) else []) = _
            rw [h4]
            rfl
          refine Lx.cons (by rw [hn]; exact ht) ?_
          rw [ew]
          rcases h7 with ⟨h7, h8⟩ | ⟨h7, h8, h9, h10⟩
          · rw [if_pos h7]; exact (sub hr1 h8 (Nat.le_refl _)).1
          · rw [if_neg h7]; exact Or.inl ⟨by rw [h9]; rfl, Ag.zero t _ _⟩
        · have : ¬ 3 * o + x % 10 < k0 := fun z => by rw [f4 _ (Nat.zero_le _) z] at htl; exact absurd htl Bool.false_ne_true
          exact Lx.less (by rw [hxx, ← hn]; exact numK_mono (by omega))
