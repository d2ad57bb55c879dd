/-! the law's texts: they have no fault, and few nodes -/
def Pl (ch : Nat → Nat) (p : Nat) (l : List Nat) : Prop := ∀ i x, l[i]? = some x → ch (p + i) = x
theorem pg_leaf {ch : Nat → Nat} {p : Nat} (F : Nat) (h : isAt (ch p) = true ∨ ch p = 49 ∨ ch p = 84) : pgoal ch (F + 1) p = (true, p + 1, 1, 0) := by
  rw [pgoal_succ]
  unfold pgS
  rw [if_pos h]
theorem pg_bang {ch : Nat → Nat} {F p q k l : Nat} (hc : ch p = 33) (h : pgoal ch F (p + 1) = (true, q, k, l)) : pgoal ch (F + 1) p = (true, q, k + 1, l) := by
  rw [pgoal_succ]
  unfold pgS
  rw [if_neg (by rw [isAt_iff]; omega), if_pos hc, h, pb_true rfl]
  rfl
theorem pg_pair {ch : Nat → Nat} {F p q1 k1 l1 q2 k2 l2 : Nat} (hc : ch p = 40) (h1 : pgoal ch F (p + 1) = (true, q1, k1, l1)) (ho : isOp (ch q1) = true) (h2 : pgoal ch F (q1 + 1) = (true, q2, k2, l2)) (hc2 : ch q2 = 41) : pgoal ch (F + 1) p = (true, q2 + 1, k1 + (k2 + 1), l1 + l2) := by
  rw [pgoal_succ]
  unfold pgS
  rw [if_neg (by rw [isAt_iff]; omega), if_neg (by omega), if_pos hc, h1, pb_true rfl]
  dsimp only
  rw [if_pos ho, h2, pb_true rfl]
  dsimp only
  rw [if_pos hc2]
  rfl
/-- the goals that the law says -/
def isG (l : List Nat) : Prop := (∃ a, isAt a = true ∧ l = [a]) ∨ (∃ a b o, isAt a = true ∧ isAt b = true ∧ isOp o = true ∧ l = [40, a, o, b, 41]) ∨ (∃ a, isAt a = true ∧ l = [33, a]) ∨ (∃ a, isAt a = true ∧ l = [40, a, 42, 84, 41]) ∨ (∃ a, isAt a = true ∧ l = [40, 49, 38, a, 41]) ∨ l = [49] ∨ ∃ a b d, isAt a = true ∧ isAt b = true ∧ isAt d = true ∧ l = [40, 40, a, 42, b, 41, 42, d, 41]
theorem isG_len {l : List Nat} (h : isG l) : 1 ≤ l.length ∧ l.length ≤ 9 := by
  rcases h with ⟨a, _, rfl⟩ | ⟨a, b, o, _, _, _, rfl⟩ | ⟨a, _, rfl⟩ | ⟨a, _, rfl⟩ | ⟨a, _, rfl⟩ | rfl | ⟨a, b, d, _, _, _, rfl⟩ <;> exact ⟨Nat.le_of_ble_eq_true rfl, Nat.le_of_ble_eq_true rfl⟩
theorem isG_parse {ch : Nat → Nat} {p : Nat} {l : List Nat} (F : Nat) (h : isG l) (hp : Pl ch p l) : ∃ n, pgoal ch (F + 3) p = (true, p + l.length, n, 0) ∧ 1 ≤ n ∧ n ≤ 5 := by
  rcases h with ⟨a, ha, rfl⟩ | ⟨a, b, o, ha, hb, ho, rfl⟩ | ⟨a, ha, rfl⟩ | ⟨a, ha, rfl⟩ | ⟨a, ha, rfl⟩ | rfl | ⟨a, b, d, ha, hb, hd, rfl⟩
  · have e0 : ch p = a := hp 0 a rfl
    exact ⟨1, pg_leaf _ (Or.inl (by rw [e0]; exact ha)), by omega, by omega⟩
  · have e0 : ch p = 40 := hp 0 _ rfl
    have e1 : ch (p + 1) = a := hp 1 _ rfl
    have e2 : ch (p + 2) = o := hp 2 _ rfl
    have e3 : ch (p + 3) = b := hp 3 _ rfl
    have e4 : ch (p + 4) = 41 := hp 4 _ rfl
    exact ⟨3, pg_pair e0 (pg_leaf (F + 1) (Or.inl (by rw [e1]; exact ha))) (by rw [show p + 1 + 1 = p + 2 from rfl, e2]; exact ho) (pg_leaf (F + 1) (Or.inl (by rw [show p + 1 + 1 + 1 = p + 3 from rfl, e3]; exact hb))) (by rw [show p + 1 + 1 + 1 + 1 = p + 4 from rfl, e4]), by omega, by omega⟩
  · have e0 : ch p = 33 := hp 0 _ rfl
    have e1 : ch (p + 1) = a := hp 1 _ rfl
    exact ⟨2, pg_bang e0 (pg_leaf (F + 1) (Or.inl (by rw [e1]; exact ha))), by omega, by omega⟩
  · have e0 : ch p = 40 := hp 0 _ rfl
    have e1 : ch (p + 1) = a := hp 1 _ rfl
    have e2 : ch (p + 2) = 42 := hp 2 _ rfl
    have e3 : ch (p + 3) = 84 := hp 3 _ rfl
    have e4 : ch (p + 4) = 41 := hp 4 _ rfl
    exact ⟨3, pg_pair e0 (pg_leaf (F + 1) (Or.inl (by rw [e1]; exact ha))) (by rw [show p + 1 + 1 = p + 2 from rfl, e2]; rfl) (pg_leaf (F + 1) (Or.inr (Or.inr (by rw [show p + 1 + 1 + 1 = p + 3 from rfl, e3])))) (by rw [show p + 1 + 1 + 1 + 1 = p + 4 from rfl, e4]), by omega, by omega⟩
  · have e0 : ch p = 40 := hp 0 _ rfl
    have e1 : ch (p + 1) = 49 := hp 1 _ rfl
    have e2 : ch (p + 2) = 38 := hp 2 _ rfl
    have e3 : ch (p + 3) = a := hp 3 _ rfl
    have e4 : ch (p + 4) = 41 := hp 4 _ rfl
    exact ⟨3, pg_pair e0 (pg_leaf (F + 1) (Or.inr (Or.inl (by rw [e1])))) (by rw [show p + 1 + 1 = p + 2 from rfl, e2]; rfl) (pg_leaf (F + 1) (Or.inl (by rw [show p + 1 + 1 + 1 = p + 3 from rfl, e3]; exact ha))) (by rw [show p + 1 + 1 + 1 + 1 = p + 4 from rfl, e4]), by omega, by omega⟩
  · have e0 : ch p = 49 := hp 0 _ rfl
    exact ⟨1, pg_leaf _ (Or.inr (Or.inl e0)), by omega, by omega⟩
  · have e0 : ch p = 40 := hp 0 _ rfl
    have e1 : ch (p + 1) = 40 := hp 1 _ rfl
    have e2 : ch (p + 1 + 1) = a := hp 2 _ rfl
    have e3 : ch (p + 1 + 2) = 42 := hp 3 _ rfl
    have e4 : ch (p + 1 + 3) = b := hp 4 _ rfl
    have e5 : ch (p + 1 + 4) = 41 := hp 5 _ rfl
    have e6 : ch (p + 6) = 42 := hp 6 _ rfl
    have e7 : ch (p + 7) = d := hp 7 _ rfl
    have e8 : ch (p + 8) = 41 := hp 8 _ rfl
    have i1 : pgoal ch (F + 2) (p + 1) = (true, p + 1 + 5, 1 + (1 + 1), 0 + 0) := pg_pair e1 (pg_leaf F (Or.inl (by rw [e2]; exact ha))) (by rw [show p + 1 + 1 + 1 = p + 1 + 2 from rfl, e3]; rfl) (pg_leaf F (Or.inl (by rw [show p + 1 + 1 + 1 + 1 = p + 1 + 3 from rfl, e4]; exact hb))) (by rw [show p + 1 + 1 + 1 + 1 + 1 = p + 1 + 4 from rfl, e5])
    refine ⟨5, ?_, by omega, by omega⟩
    exact pg_pair e0 i1 (by rw [show p + 1 + 5 = p + 6 by omega, e6]; rfl) (pg_leaf (F + 1) (Or.inl (by rw [show p + 1 + 5 + 1 = p + 7 by omega, e7]; exact hd))) (by rw [show p + 1 + 5 + 1 + 1 = p + 8 by omega, e8])
theorem Pl.left {ch : Nat → Nat} {p : Nat} {a b : List Nat} (h : Pl ch p (a ++ b)) : Pl ch p a := fun i x hx => h i x (by
  have hi := (List.getElem?_eq_some_iff.1 hx).1
  rw [List.getElem?_append_left hi]; exact hx)
theorem Pl.right {ch : Nat → Nat} {p : Nat} {a b : List Nat} (h : Pl ch p (a ++ b)) : Pl ch (p + a.length) b := fun i x hx => by
  have := h (a.length + i) x (by rw [List.getElem?_append_right (by omega), show a.length + i - a.length = i by omega]; exact hx)
  rw [show p + a.length + i = p + (a.length + i) by omega]; exact this
/-- the offers that the law says -/
def isF (l : List Nat) : Prop := ∃ a b, isAt a = true ∧ (b = [] ∨ ∃ g, isG g ∧ b = 60 :: g) ∧ (l = a :: b ∨ ∃ d, isAt d = true ∧ l = a :: b ++ [124, d])
theorem isF_len {l : List Nat} (h : isF l) : 1 ≤ l.length ∧ l.length ≤ 13 := by
  obtain ⟨a, b, _, hb, hl⟩ := h
  have h1 : b.length ≤ 10 := by
    rcases hb with rfl | ⟨g, hg, rfl⟩
    · show 0 ≤ 10; omega
    · have := isG_len hg; rw [List.length_cons]; omega
  rcases hl with rfl | ⟨d, _, rfl⟩
  · rw [List.length_cons]; omega
  · rw [List.length_append, List.length_cons, List.length_cons, List.length_cons, List.length_nil]; omega
/-- a face -/
theorem pf_at {ch : Nat → Nat} {p a e : Nat} {b : List Nat} (ha : isAt a = true) (hb : b = [] ∨ ∃ g, isG g ∧ b = 60 :: g) (hp : Pl ch p (a :: b)) (he : ch (p + (b.length + 1)) = e) (he2 : e ≠ 60) : ∃ n, pface (G64 ch) ch p = (true, p + (b.length + 1), n, 0) ∧ n ≤ 5 := by
  have e0 : ch p = a := hp 0 a rfl
  unfold pface
  rw [e0, if_pos ha]
  rcases hb with rfl | ⟨g, hg, rfl⟩
  · change ch (p + 1) = e at he
    rw [if_neg (by omega)]
    exact ⟨0, rfl, by omega⟩
  · have e1 : ch (p + 1) = 60 := hp 1 _ rfl
    rw [if_pos e1]
    have hpg : Pl ch (p + 2) g := fun i x hx => by rw [show p + 2 + i = p + (i + 2) by omega]; exact hp (i + 2) x hx
    obtain ⟨n, h1, _, h3⟩ := isG_parse 61 hg hpg
    refine ⟨n, ?_, h3⟩
    show pgoal ch 64 (p + 2) = _
    rw [show (64 : Nat) = 61 + 3 from rfl, h1]
    rw [show (60 :: g).length + 1 = g.length + 2 from rfl, show p + 2 + g.length = p + (g.length + 2) by omega]
theorem isF_parse {ch : Nat → Nat} {p : Nat} {l : List Nat} (h : isF l) (hp : Pl ch p l) (he : ch (p + l.length) = 0) : ∃ n, poff (G64 ch) ch p = (true, p + l.length, n, 0) ∧ n ≤ 5 := by
  obtain ⟨a, b, ha, hb, hl⟩ := h
  rcases hl with rfl | ⟨d, hd, rfl⟩
  · obtain ⟨n, h1, h2⟩ := pf_at ha hb hp he (by decide)
    refine ⟨n, ?_, h2⟩
    unfold poff
    rw [h1, pb_true rfl]
    dsimp only
    have he' : ch (p + (b.length + 1)) = 0 := he
    rw [if_neg (by omega)]
    rfl
  · have e124 : ch (p + (b.length + 1)) = 124 := (hp.right (a := a :: b)) 0 _ rfl
    obtain ⟨n, h1, h2⟩ := pf_at ha hb (hp.left) e124 (by decide)
    have hd2 : Pl ch (p + (b.length + 1) + 1) (d :: []) := fun i x hx => by
      rw [show p + (b.length + 1) + 1 + i = p + (a :: b).length + (i + 1) by rw [List.length_cons]; omega]
      exact (hp.right (a := a :: b)) (i + 1) x hx
    have el : (a :: b ++ [124, d]).length = b.length + 1 + 2 := by rw [List.length_append]; rfl
    rw [el] at he ⊢
    have he' : ch (p + (b.length + 1) + 1 + (([] : List Nat).length + 1)) = 0 := by rw [← he]; exact congrArg ch (by show _ + (0 + 1) = _; omega)
    obtain ⟨n2, h3, h4⟩ := pf_at hd (Or.inl rfl) hd2 he' (by decide)
    have n20 : n2 = 0 := by
      have e0 : ch (p + (b.length + 1) + 1) = d := hd2 0 _ rfl
      unfold pface at h3
      have hz : ch (p + (b.length + 1) + 1 + 1) = 0 := he'
      rw [e0, if_pos hd, if_neg (by omega)] at h3
      exact (congrArg (fun x : PR => x.2.2.1) h3).symm
    refine ⟨n, ?_, h2⟩
    unfold poff
    rw [h1, pb_true rfl]
    dsimp only
    rw [if_pos e124, h3, pb_true rfl]
    dsimp only
    change ch (p + (b.length + 1) + 1 + (0 + 1)) = 0 at he'
    rw [show p + (b.length + 1) + 1 + (([] : List Nat).length + 1) = p + (b.length + 1) + 1 + (0 + 1) from rfl, if_neg (by omega), n20]
    rw [show p + (b.length + 1) + 1 + (0 + 1) = p + (b.length + 1 + 2) by omega]
    rfl
/-! the root of the law's goals: an empty trial is a proof of 1 alone -/
theorem vis_s {ch : Nat → Nat} {t : List Nat} (r p s u dp : Nat) : vis ch t (r + 1) p s u dp = stV ch t (vis ch t r) p s u (max dp (12 - r)) := rfl
theorem eG_1 {ch : Nat → Nat} {p : Nat} (h : isAt (ch p) = true ∨ ch p = 49 ∨ ch p = 84) : eG ch p = p + 1 := by
  unfold eG G64
  rw [pg_leaf 63 h]
theorem ot_at {k : Nat} (h : isAt k = true) : ot k := by rw [isAt_iff] at h; unfold ot; omega
/-- an atom wants a number -/
theorem vis_at {ch : Nat → Nat} {p : Nat} (h : isAt (ch p) = true) (r s dp : Nat) : ∃ d, vis ch [] (r + 1) p s 0 dp = (2, 0, d) := by
  have hk : kd ch p = ch p := by
    show (if ch p = 40 then _ else ch p) = ch p
    rw [isAt_iff] at h
    rw [if_neg (by omega)]
  rw [vis_s, stV_ot (by rw [hk]; exact ot_at h), if_pos (show ([] : List Nat).length ≤ 0 from Nat.le_refl 0)]
  exact ⟨_, rfl⟩
theorem empty_ne {ch sl : Nat → Nat} (hb : NB ch) {g : List Nat} (hg : isG g) (hp : Pl ch 0 g) (hz : hgt ch (all5 sl) = 0) : chkR ch sl [] ≠ 0 := by
  have key : (chkV ch sl []).1 ≠ 0 → chkR ch sl [] ≠ 0 := fun q => by unfold chkR; rw [if_neg q]; exact q
  refine key ?_
  show (vis ch [] (11 + 1) 0 (all5 sl) 0 0).1 ≠ 0
  have k0 : ∀ {c0 : Nat}, ch 0 = c0 → c0 ≠ 40 → kd ch 0 = c0 := fun {c0} h h2 => by
    show (if ch 0 = 40 then _ else ch 0) = c0
    rw [if_neg (by omega), h]
  have kp : ∀ {o : Nat}, ch 0 = 40 → eG ch 1 = 2 → ch 2 = o → kd ch 0 = o ∧ ch1 ch 0 = 1 ∧ ch2 ch 0 = 3 := fun {o} h h1 h2 => by
    refine ⟨?_, ?_, ?_⟩
    · show (if ch 0 = 40 then ch (eG ch (0 + 1)) else ch 0) = o
      rw [if_pos h, Nat.zero_add, h1, h2]
    · show (if ch 0 = 91 then eO ch (0 + 1) + 1 else 0 + 1) = 1
      rw [if_neg (by omega)]
    · show eG ch (0 + 1) + 1 = 3
      rw [Nat.zero_add, h1]
  have short : ∀ {V : Nat → Nat → Nat → Nat → VR} {p s d : Nat}, (kd ch p = 42 ∨ kd ch p = 43) → (stV ch [] V p s 0 d).1 ≠ 0 := fun {V p s d} h => by
    rcases h with h | h
    · rw [stV_42 h, if_pos (show ([] : List Nat).length ≤ 0 from Nat.le_refl 0)]; show (2 : Nat) ≠ 0; decide
    · rw [stV_43 h, if_pos (show ([] : List Nat).length ≤ 0 from Nat.le_refl 0)]; show (2 : Nat) ≠ 0; decide
  rcases hg with ⟨a, ha, rfl⟩ | ⟨a, b, o, ha, hb2, ho, rfl⟩ | ⟨a, ha, rfl⟩ | ⟨a, ha, rfl⟩ | ⟨a, ha, rfl⟩ | rfl | ⟨a, b, d, ha, hb2, hd, rfl⟩
  · have e0 : ch 0 = a := hp 0 _ rfl
    obtain ⟨d, h⟩ := vis_at (ch := ch) (p := 0) (by rw [e0]; exact ha) 11 (all5 sl) 0
    rw [h]; show (2 : Nat) ≠ 0; decide
  · have e0 : ch 0 = 40 := hp 0 _ rfl
    have e1 : ch 1 = a := hp 1 _ rfl
    have e2 : ch 2 = o := hp 2 _ rfl
    obtain ⟨k1, k2, k3⟩ := kp e0 (eG_1 (Or.inl (by rw [e1]; exact ha))) e2
    rw [vis_s]
    rcases isOp_iff.1 ho with rfl | rfl | rfl
    · exact short (Or.inl k1)
    · rw [stV_38 k1, k2]
      obtain ⟨d, h⟩ := vis_at (ch := ch) (p := 1) (by rw [e1]; exact ha) 10 (all5 sl) (max 0 (12 - 11))
      rw [h]
      show (2 : Nat) ≠ 0
      decide
    · exact short (Or.inr k1)
  · have e0 : ch 0 = 33 := hp 0 _ rfl
    have e1 : ch 1 = a := hp 1 _ rfl
    rw [vis_s, stV_33 (k0 e0 (by decide))]
    split
    · rw [show ch1 ch 0 = 1 by show (if ch 0 = 91 then eO ch (0 + 1) + 1 else 0 + 1) = 1; rw [if_neg (by omega)]]
      obtain ⟨d, h⟩ := vis_at (ch := ch) (p := 1) (by rw [e1]; exact ha) 10 (all5 sl) (max 0 (12 - 11))
      rw [h]
      show (2 : Nat) ≠ 0
      decide
    · show (4 : Nat) ≠ 0
      decide
  · have e0 : ch 0 = 40 := hp 0 _ rfl
    have e1 : ch 1 = a := hp 1 _ rfl
    have e2 : ch 2 = 42 := hp 2 _ rfl
    obtain ⟨k1, k2, k3⟩ := kp e0 (eG_1 (Or.inl (by rw [e1]; exact ha))) e2
    rw [vis_s]
    exact short (Or.inl k1)
  · have e0 : ch 0 = 40 := hp 0 _ rfl
    have e1 : ch 1 = 49 := hp 1 _ rfl
    have e2 : ch 2 = 38 := hp 2 _ rfl
    have e3 : ch 3 = a := hp 3 _ rfl
    obtain ⟨k1, k2, k3⟩ := kp e0 (eG_1 (Or.inr (Or.inl e1))) e2
    have kd1 : kd ch 1 = 49 := by
      show (if ch 1 = 40 then _ else ch 1) = 49
      rw [if_neg (by omega), e1]
    rw [vis_s, stV_38 k1, k2, k3, show (11 : Nat) = 10 + 1 from rfl, vis_s 10 1, stV_49 kd1]
    split
    · obtain ⟨d, h⟩ := vis_at (ch := ch) (p := 3) (by rw [e3]; exact ha) 10 (all5 sl) (max (max 0 (12 - (10 + 1))) (12 - 10))
      unfold sq
      rw [if_pos rfl]
      show (vis ch [] (10 + 1) 3 (all5 sl) 0 (max (max 0 (12 - (10 + 1))) (12 - 10))).1 ≠ 0
      rw [h]
      show (2 : Nat) ≠ 0
      decide
    · unfold sq
      rw [if_neg (by show ¬ (4 : Nat) = 0; decide)]
      show (4 : Nat) ≠ 0
      decide
  · have e0 : ch 0 = 49 := hp 0 _ rfl
    intro q
    have h1 : vis ch [] (11 + 1) 0 (all5 sl) 0 0 = if all5 sl = 0 then (0, 0, max 0 (12 - 11)) else (4, 0, max 0 (12 - 11)) := by rw [vis_s, stV_49 (k0 e0 (by decide))]
    by_cases c : all5 sl = 0
    · rw [if_pos c] at h1
      have h2 : chkV ch sl [] = (0, 0, 1) := h1
      have h3 := (hgt_lv (ch := ch) (s := all5 sl) (show 1 ≤ 10 by omega)).2 (chk_lv hb h2).1
      omega
    · rw [h1, if_neg c] at q
      exact absurd q (by show ¬ (4 : Nat) = 0; decide)
  · have e0 : ch 0 = 40 := hp 0 _ rfl
    have e6 : ch 6 = 42 := hp 6 _ rfl
    have hp1 : Pl ch 1 [40, a, 42, b, 41] := fun i x hx => by
      have hi := (List.getElem?_eq_some_iff.1 hx).1
      change i < 5 at hi
      rw [show 1 + i = 0 + (i + 1) by omega]
      refine hp (i + 1) x ?_
      rcases (show i = 0 ∨ i = 1 ∨ i = 2 ∨ i = 3 ∨ i = 4 by omega) with rfl | rfl | rfl | rfl | rfl <;> exact hx
    obtain ⟨n, h1, _⟩ := isG_parse 61 (Or.inr (Or.inl ⟨a, b, 42, ha, hb2, rfl, rfl⟩)) hp1
    have eg : eG ch 1 = 6 := by
      unfold eG G64
      rw [show (64 : Nat) = 61 + 3 from rfl, h1]
      rfl
    have k1 : kd ch 0 = 42 := by
      show (if ch 0 = 40 then ch (eG ch (0 + 1)) else ch 0) = 42
      rw [if_pos e0, Nat.zero_add, eg, e6]
    rw [vis_s]
    exact short (Or.inl k1)
