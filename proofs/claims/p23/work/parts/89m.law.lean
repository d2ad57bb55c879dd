/-! the law, from its start to its end -/
def iL : List (Nat × Nat × Int32) := [(1, 11, 1), (1, 10, -6), (29, 4, 0), (29, 3, 0), (29, 2, 0), (27, 1, 0), (25, 5, 0), (25, 4, 0), (25, 3, 0), (19, 4, 0), (13, 7, -1), (13, 6, 0), (13, 5, 0), (7, 7, -1), (7, 6, 0), (7, 5, 0), (2, 1, 0)]
def pL : List (Nat × Nat × Nat) := [(1, 9, 29), (29, 1, 27), (29, 0, 13), (1, 8, 27), (27, 0, 28), (1, 7, 25), (25, 1, 19), (25, 0, 13), (25, 2, 26), (1, 6, 23), (23, 1, 19), (23, 0, 13), (23, 2, 24), (1, 5, 19), (19, 0, 13), (19, 3, 22), (19, 2, 21), (19, 1, 20), (1, 4, 13), (13, 4, 18), (13, 3, 17), (13, 2, 16), (13, 1, 15), (13, 0, 14), (1, 3, 7), (7, 4, 12), (7, 3, 11), (7, 2, 10), (7, 1, 9), (7, 0, 8), (1, 2, 6), (1, 1, 4), (4, 0, 5), (1, 0, 2), (2, 0, 3)]
theorem gb_apP (i : Nat) : ∀ m, m ≤ 64 → ∀ j, j < 64 → gb (apP i m) j = decide (j < m ∧ i &&& j = 0) := by
  intro m
  induction m with
  | zero => intro _ j _; rw [show apP i 0 = 0 from rfl, gb_0]; exact (decide_eq_false (by omega)).symm
  | succ m ih =>
    intro hm j hj
    have ih := ih (by omega) j hj
    show gb (if i &&& m = 0 then apP i m ||| (1 <<< ((I (m : Nat)).toInt64 &&& 63)) else apP i m) j = _
    by_cases c : i &&& m = 0
    · rw [if_pos c, gb_or, ih, one_n m (by omega) j hj]
      by_cases c2 : m = j
      · rw [c2] at c; rw [decide_eq_true c2, Bool.or_true]; exact (decide_eq_true ⟨by omega, c⟩).symm
      · rw [decide_eq_false c2, Bool.or_false]
        exact decide_eq_decide.2 ⟨fun q => ⟨by omega, q.2⟩, fun q => ⟨by omega, q.2⟩⟩
    · rw [if_neg c, ih]
      refine decide_eq_decide.2 ⟨fun q => ⟨by omega, q.2⟩, fun q => ⟨?_, q.2⟩⟩
      by_cases c2 : j = m
      · rw [c2] at q; exact absurd q.2 c
      · omega
theorem st_pL : ∀ q ∈ stP, (1 ≤ q.1 ∧ q.1 < 30) ∧ lkP pL q.1 q.2.1 = some q.2.2 := by decide +kernel
theorem begin_ (L : Nat) (xs : Nat → Int32) : ∃ σ', s_X10_init 1 (newC (stI L xs) 10 12) = some ((), σ') ∧ QS 1 L xs z0 z0 [] σ' := by
  obtain ⟨σ', e, h⟩ := k_X10_init_0 (ds_0 L xs)
  refine ⟨σ', e, ?_⟩
  have h : Ds L xs 30 158021 apT iL pL σ' := h
  obtain ⟨h1, h2, h3, h4, h5, h6, h7, h8, h9⟩ := h
  have hs : SS σ' := ⟨by omega, fun a q1 q2 => h3 a q1 q2, fun q hq => by
    obtain ⟨⟨c1, c2⟩, c3⟩ := st_pL q hq
    rw [h7 q.1 q.2.1 c1 c2, c3]⟩
  have i : ∀ a k, 1 ≤ a → a < 30 → sI σ' a k = lkI iL a k := fun a k q1 q2 => h5 a k q1 q2
  have l : ∀ a k, 1 ≤ a → a < 30 → a ≠ 22 → sL σ' a k = 0 := fun a k q1 q2 q3 => by rw [h6 a k q1 q2, if_neg q3]
  have pn : ∀ a k, 1 ≤ a → a < 30 → (∀ q ∈ pL, q.1 ≠ a) → sP σ' a k = none := fun a k q1 q2 q3 => by rw [h7 a k q1 q2, lkP_no pL q3]
  have hA : Apt σ' := fun x y hx hy => by
    rw [h6 22 x (by decide) (by decide), if_pos rfl]
    show gb (if x < 64 then apP x 64 else _) y = _
    rw [if_pos hx, gb_apP x 64 (by decide) y hy]
    exact decide_eq_decide.2 ⟨fun q => q.2, fun q => ⟨hy, q⟩⟩
  have hK : K (wCh z0) (wSl z0) 0 σ' := by
    refine Or.inr ⟨⟨hs, hA, fun k _ => l 20 k (by decide) (by decide) (by decide), fun s hs10 => ?_⟩, i 1 11 (by decide) (by decide), l 23 3 (by decide) (by decide) (by decide), fun k _ => ⟨0, 0, l 24 k (by decide) (by decide) (by decide), by decide, by decide⟩⟩
    rw [if_pos (show wSl z0 s = 0 from wSl_s z0 hs10)]
    exact pn 5 s (by decide) (by decide) (by decide)
  have e1 : ee σ' = 1 := ee_1 (i 1 11 (by decide) (by decide))
  exact ⟨-6, 0, ⟨GI_z, ⟨by decide, fun x q => (by cases q)⟩⟩, ⟨hK, ⟨i 2 1 (by decide) (by decide), fun x q => absurd q (Nat.not_lt_zero x)⟩, ⟨i 27 1 (by decide) (by decide), fun x v q => (by simp at q)⟩, (i 1 10 (by decide) (by decide)).trans (show lkI iL 1 10 = I (-6) from rfl), ⟨0, 0, 0, 0, pn 6 0 (by decide) (by decide) (by decide), pn 6 1 (by decide) (by decide) (by decide), fun q => (by cases q)⟩⟩, ⟨by omega, by omega, by omega, by omega⟩, h4.1, h4.2⟩
theorem stB_cg {f g : Nat → Bool} : ∀ n, (∀ k, k < n → f k = g k) → stB f n = stB g n := by
  intro n
  induction n with
  | zero => intro _; rfl
  | succ n ih =>
    intro h
    show stB f n ||| (if f n = true then 2 ^ n else 0) = stB g n ||| (if g n = true then 2 ^ n else 0)
    rw [ih (fun k hk => h k (by omega)), h n (by omega)]
theorem drop_cnt : ∀ nr, nr < 6 → ∀ v, v < nr → pcn (stB (fun k => decide (k < nr ∧ k ≠ v)) 5) = nr - 1 := by decide +kernel
/-- some answer 1 -/
def Fin (L : Nat) (xs : Nat → Int32) (r : Option (Int32 × St)) : Prop := ∃ c ch sl t, Ans c L xs ch sl t r 1
section
variable {c L : Nat} {xs : Nat → Int32} {ch sl : Nat → Nat} {t : List Nat} {σ : St}
theorem Fin.go {r : Option (Int32 × St)} {a : Int32} {f : Int32 → St → Option (Int32 × St)} (h : Ans c L xs ch sl t r a) (g : ∀ σ', QS c L xs ch sl t σ' → Fin L xs (f a σ')) : Fin L xs (bd r f) := by
  obtain ⟨σ', rfl, h2⟩ := h
  rw [bd_eq]
  exact g σ' h2
theorem Fin.o {x : Option (Int32 × St)} (h : QS c L xs ch sl t σ) (g : Fin L xs x) : Fin L xs (if isO σ 10 1 = true then x else none) := by
  rw [if_pos h.o]; exact g
theorem Fin.yes {p : Prop} [Decidable p] {x y : Option (Int32 × St)} (h : p) (g : Fin L xs x) : Fin L xs (if p then x else y) := by
  rw [if_pos h]; exact g
theorem Fin.no {p : Prop} [Decidable p] {x y : Option (Int32 × St)} (h : ¬ p) (g : Fin L xs y) : Fin L xs (if p then x else y) := by
  rw [if_neg h]; exact g
theorem lp_136 (m a b : Nat) (d e : Int32) (σ : St) : s_L_law_136 (m + 1) a b d e σ = sb_L_law_136 (s_L_law_136 m) a b d e σ := rfl
/-- a goal is said, read, and asked -/
theorem law_t (hL : L ≤ 260) {G M : Nat → Nat} {l : List Nat} {nr k : Nat} (hk : k < 2) (hc : c < 900) (h : TQ c L xs t G M l σ) (hJ : J G M) {k136 : Nat → Nat → Int32 → Int32 → St → Option (Int32 × St)}
    (nx : ∀ (ch sl : Nat → Nat) (t : List Nat) (σ : St), QS (c + 1) L xs ch sl t σ → NB ch → sl 10 = 0 → J (wCh ch) (wSl sl) → (∀ s, s < 10 → s ≠ 0 → wSl sl s = M s) → Fin L xs (if I (k : Nat) = 0 then (if I (nr : Nat) ≤ 0 then (lt (I (k : Nat) + 1 : Int32) fun v31 => k136 0 1 (I (nr : Nat)) v31 σ) else (bd (s_L_cell 0 150 (I (nr : Nat)) σ) fun r35 σ33 => if isO σ33 10 1 = true then (bd (s_X10_drop 1 0 r35 σ33) fun r39 σ37 => if r39 = (I (nr : Nat) - 1) then (lt (I (k : Nat) + 1 : Int32) fun v41 => k136 0 1 (I (nr : Nat)) v41 σ37) else (some (0, σ37))) else none)) else (lt (I (k : Nat) + 1 : Int32) fun v28 => k136 0 1 (I (nr : Nat)) v28 σ))) :
    Fin L xs (sb_L_law_136 k136 0 1 (I (nr : Nat)) (I (k : Nat)) σ) := by
  unfold sb_L_law_136
  rw [if_neg (by rw [I_lit, I_le (by omega) (by omega)]; omega), if_pos h.o]
  obtain ⟨r, σ1, w1, h1⟩ := h.wipe
  have ea : (130 : Int32) + 10 * I (k : Nat) = I ((130 + 10 * k : Nat) : Int) := by
    rw [show (10 : Int32) = I ((10 : Nat) : Int) from rfl, show (130 : Int32) = I ((130 : Nat) : Int) from rfl, I_mul, I_add]
    exact congrArg I (by omega)
  obtain ⟨g, g1, σ2, g2, h2⟩ := q_goal h1 hL (show 130 + 10 * k < 990 by omega) (by show 0 ≤ 50; omega)
  rw [List.nil_append] at h2
  obtain ⟨σ3, G', M', n, n1, n2, o1, h3, j1, j2, j3, j4⟩ := h2.gol g1 hJ (by omega)
  rw [w1, bd_eq, ea, g2, bd_eq, if_neg (by decide), if_pos h2.o, o1, bd_eq, if_pos (by rw [I_lit, I_le (by omega) (by omega)]; omega), if_pos h3.o]
  obtain ⟨ch, sl, hq, rfl, rfl, hb, h10, hp⟩ := h3
  have hbw : NB (wCh ch) := fun i => by
    unfold wCh; split
    · decide
    · exact hb i
  refine Fin.go (a_count hq) fun σ hq => ?_
  refine Fin.go (law_heights j3 hq) fun σ hq => Fin.no (by decide) ?_
  obtain ⟨t', hw⟩ := law_way hbw j3 (fun hz => empty_ne hbw g1 j4 hz) hq
  refine Fin.go hw fun σ hq => Fin.no (by decide) ?_
  exact nx ch sl t' σ hq hb h10 j1 j2
theorem TQ.of (hq : QS c L xs ch sl t σ) (hb : NB ch) (h10 : sl 10 = 0) : TQ c L xs t (wCh ch) (wSl sl) [] σ := ⟨ch, sl, hq, rfl, rfl, hb, h10, fun i x hx => by cases hx⟩
theorem law_2 (hL : L ≤ 260) {nr : Nat} (m : Nat) (hc : c < 900) {G M : Nat → Nat} {l : List Nat} (h : TQ c L xs t G M l σ) (hJ : J G M) : Fin L xs (s_L_law_136 (m + 2) 0 1 (I (nr : Nat)) (I ((1 : Nat) : Int)) σ) := by
  rw [show m + 2 = (m + 1) + 1 from rfl, lp_136]
  refine law_t hL (k := 1) (by omega) hc h hJ fun ch sl t σ hq hb h10 j1 j2 => Fin.no (by decide) ?_
  rw [lt_eq, I_p, lp_136]
  unfold sb_L_law_136
  exact Fin.yes (by rw [I_lit, I_le (by omega) (by omega)]; omega) ⟨_, _, _, _, Ans.now hq⟩
theorem law_1 (hL : L ≤ 260) {nr nw : Nat} (m : Nat) (hr : nr < 6) (hc : c < 800) (h : LW c L xs t nr nw σ) : Fin L xs (s_L_law_136 (m + 3) 0 1 (I (nr : Nat)) (I ((0 : Nat) : Int)) σ) := by
  obtain ⟨G, M, l, h1, h2, h3, h4⟩ := h
  rw [show m + 3 = (m + 2) + 1 from rfl, lp_136]
  refine law_t hL (k := 0) (by omega) (by omega) h1 h2 fun ch sl t σ hq hb h10 j1 j2 => Fin.yes rfl ?_
  by_cases c0 : nr = 0
  · refine Fin.yes (by rw [c0]; decide) ?_
    rw [lt_eq, I_p]
    exact law_2 hL m (by omega) (TQ.of hq hb h10) j1
  · refine Fin.no (by rw [I_lit, I_le (by omega) (by omega)]; omega) ?_
    obtain ⟨v, v1, v2⟩ := q_cell (xs := xs) hL (show 150 < 1000 by omega) (n := nr) (by omega) (by omega)
    rw [show s_L_cell 0 150 (I (nr : Nat)) σ = some (I (v : Nat), σ) from v2 _ _ _ _ _ hq, bd_eq]
    have hs : ∀ s, 1 ≤ s → s ≤ 5 → (sl s ≠ 0 ↔ s ≤ nr) := fun s q1 q2 => by
      rw [← wSl_s sl (show s < 10 by omega), j2 s (by omega) (by omega)]
      exact h3 s q1 q2
    have hd := a_drop hq (by omega) (show v < 5 by omega) ((hs (1 + v) (by omega) (by omega)).2 (by omega))
    have hcnt : pcn (thr (dSl sl (1 + v)) 1 5) = nr - 1 := by
      rw [← drop_cnt nr hr v v1]
      refine congrArg pcn (stB_cg 5 fun k hk => ?_)
      show decide (dSl sl (1 + v) (1 + k) ≠ 0) = _
      refine decide_eq_decide.2 ?_
      by_cases e : k = v
      · rw [e, dSl_k]; exact ⟨fun q => absurd rfl q, fun q => absurd rfl q.2⟩
      · rw [dSl_s (by omega), hs (1 + k) (by omega) (by omega)]; omega
    have hg := hq.gi
    have hsub := drop_sub (sl := sl) hg.1 (show 1 + v < 10 by omega)
    refine Fin.o hq (Fin.go hd fun σ hq => ?_)
    refine Fin.yes ?_ ?_
    · rw [hcnt, show (1 : Int32) = I ((1 : Nat) : Int) from rfl, I_sub]
      exact congrArg I (by omega)
    · rw [lt_eq, I_p]
      have hg2 := hq.gi
      refine law_2 hL m (by omega) (TQ.of hq (fun i => ?_) ?_) (fun s hs10 => ?_)
      · unfold dCh; split
        · decide
        · exact hb i
      · rw [dSl_s (by omega)]; exact h10
      · obtain ⟨q1, q2⟩ := nN_win hg2.1 (win_wc (dCh ch (1 + v)) (dSl sl (1 + v))) hs10
        obtain ⟨q3, q4⟩ := nN_win hg.1 (win_wc ch sl) hs10
        obtain ⟨q5, q6, _⟩ := hsub.one hg.1 hg.2.1 hs10
        obtain ⟨q7, q8⟩ := j1 s hs10
        rw [q1, q2]
        omega
theorem z_all : all5 (wSl z0) = 0 := by decide
theorem LW.begin (h : QS c L xs z0 z0 t σ) : LW c L xs t 0 0 σ := by
  have e : ∀ s, s < 10 → wSl z0 s = 0 := fun s hs => wSl_s z0 hs
  refine ⟨wCh z0, wSl z0, [], TQ.of h (fun i => show (0 : Nat) ≠ 91 by decide) rfl, fun s hs => ?_, fun s q1 q2 => ?_, fun s q1 q2 => ?_⟩
  · unfold nN lL
    rw [if_pos (e s hs), if_pos (e s hs)]
    exact ⟨by omega, rfl⟩
  · rw [e s (by omega)]; omega
  · rw [e s (by omega)]; omega
theorem law_all (hL : L ≤ 260) : Fin L xs (s_L_law 0 (stI L xs)) := by
  obtain ⟨σ0, b1, hq⟩ := begin_ L xs
  have z0s : wSl z0 0 = 0 := rfl
  unfold s_L_law
  rw [lt_eq, lt_eq, show sn (stI L xs) = 1 from rfl, b1, bd_eq]
  have a1 := a_height hq (z := 0) (by omega)
  have r1 : hgtA (wCh z0) (wSl z0) 0 = I (-3) := by
    unfold hgtA isSub
    rw [z_all, if_pos (decide_eq_true ⟨by decide, rfl⟩), if_pos z0s]
  rw [r1, l0I] at a1
  refine Fin.o hq (Fin.go a1 fun σ hq => Fin.yes rfl ?_)
  have a2 := a_height hq (z := 1) (by omega)
  have r2 : hgtA (wCh z0) (wSl z0) 1 = I (-1) := by
    unfold hgtA isSub
    rw [z_all, if_neg (by decide)]
  rw [r2, l1I] at a2
  refine Fin.o hq (Fin.go a2 fun σ hq => Fin.yes rfl ?_)
  have a3 := a_left hq (z := 0) (y := 0) (by omega) (by omega)
  have r3 : lefA (wCh z0) (wSl z0) 0 0 = I (-3) := by
    unfold lefA
    rw [if_pos ⟨⟨by decide, by decide⟩, by decide⟩, if_pos z0s]
  rw [r3, l0I] at a3
  refine Fin.o hq (Fin.go a3 fun σ hq => Fin.yes rfl ?_)
  have a4 := a_fewest hq
  have r4 : fewA (wCh z0) (wSl z0) = I (-3) := by unfold fewA; rw [if_pos z0s]
  rw [r4] at a4
  refine Fin.o hq (Fin.go a4 fun σ hq => Fin.yes rfl ?_)
  have a5 := a_needed hq
  have r5 : needA (wCh z0) (wSl z0) = I (-3) := by unfold needA; rw [if_pos z0s]
  rw [r5] at a5
  refine Fin.o hq (Fin.go a5 fun σ hq => Fin.yes rfl ?_)
  have a6 := a_term hq (z := 0) (by omega)
  have r6 : termA (wCh z0) (wSl z0) 0 = I (-3) := by unfold termA; rw [if_pos (by decide), if_pos z0s]
  rw [r6, l0I] at a6
  refine Fin.o hq (Fin.go a6 fun σ hq => Fin.yes rfl ?_)
  have a7 := a_check hq (z := 0) (by omega)
  have r7 : chkA (wCh z0) (wSl z0) [] 0 = I (-3) := by unfold chkA; rw [if_pos (by decide), if_pos z0s]
  rw [r7, l0I] at a7
  refine Fin.o hq (Fin.go a7 fun σ hq => Fin.yes rfl ?_)
  have a8 := a_check hq (z := 3) (by omega)
  have r8 : chkA (wCh z0) (wSl z0) [] 3 = I (-2) := by unfold chkA; rw [if_neg (by decide)]
  rw [r8, l3I] at a8
  refine Fin.o hq (Fin.go a8 fun σ hq => Fin.yes rfl ?_)
  have a9 := a_trial hq (z := 1) (by omega)
  have r9 : triA (wCh z0) (wSl z0) 1 = I (-3) := by unfold triA; rw [if_pos (by decide), if_pos rfl, if_pos z0s]
  have s9 : triT (wCh z0) (wSl z0) [] 1 = [] := by unfold triT; rw [if_pos (by decide), if_pos rfl, if_pos z0s]
  rw [r9, s9, l1I] at a9
  refine Fin.o hq (Fin.go a9 fun σ hq => Fin.yes rfl ?_)
  refine Fin.o hq (Fin.go (b_trial0 hq) fun σ hq => Fin.yes rfl ?_)
  obtain ⟨nr, n1, n2⟩ := q_cell (xs := xs) hL (show 0 < 1000 by omega) (n := 6) (by omega) (by omega)
  obtain ⟨nw, w1, w2⟩ := q_cell (xs := xs) hL (show 1 < 1000 by omega) (n := 4) (by omega) (by omega)
  rw [show s_L_cell 0 0 6 σ = some (I (nr : Nat), σ) from n2 _ _ _ _ _ hq, bd_eq, show s_L_cell 0 1 4 σ = some (I (nw : Nat), σ) from w2 _ _ _ _ _ hq, bd_eq]
  obtain ⟨σ', y1, y2⟩ := law_lay hL (show nr ≤ 5 by omega) (show nw ≤ 4 by omega) (by omega) (LW.begin hq)
  rw [y1, bd_eq]
  exact Fin.no (by decide) (law_1 hL 15997 n1 (by omega) y2)
end
theorem law_pure0 (L : Nat) (xs : Nat → Int32) (hL : L ≤ 260) : ∃ σ' : St, s_L_law 0 (stI L xs) = some (1, σ') ∧ sn σ' ≤ 600000 ∧ sz σ' ≤ 7302250 := by
  obtain ⟨c, ch, sl, t, σ', h1, h2⟩ := law_all (xs := xs) hL
  exact ⟨σ', h1, h2.end_⟩
