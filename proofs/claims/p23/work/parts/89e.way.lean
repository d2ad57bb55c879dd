/-! what the law asks of the first proof -/
section
variable {ch sl : Nat → Nat}
theorem hgt_lv {g s : Nat} (hg : g ≤ 10) : (0 < hgt ch s ∧ hgt ch s ≤ g) ↔ Lv ch one g 0 s = true := lhM_ok hg
theorem chk_run (hb : NB ch) (h0 : 0 < hgt ch (all5 sl)) {t : List Nat} {i : Nat} (hi : i ≤ (fpL ch sl).length) (hg : Ag t 0 (fpL ch sl) i) : Ru t 0 0 (fpL ch sl) i (hgt ch (all5 sl)) (chkV ch sl t) := by
  have ha := all5_lt sl
  have hl : Lv ch one (hgt ch (all5 sl)) 0 (all5 sl) = true := (hgt_lv (hgt_le ch _)).1 ⟨h0, Nat.le_refl _⟩
  have h10 := hgt_le ch (all5 sl)
  have := vis_run (t := t) hb (hgt ch (all5 sl)) 12 0 (all5 sl) 0 0 i (by omega) (by omega) (by omega) hl hi hg
  rw [show 12 - 12 + hgt ch (all5 sl) = hgt ch (all5 sl) by omega] at this
  exact this
/-- accepted: it is a proof within its depth -/
theorem chk_lv (hb : NB ch) {t : List Nat} {u d : Nat} (e : chkV ch sl t = (0, u, d)) : Lv ch one d 0 (all5 sl) = true ∧ 1 ≤ d := by
  have ha := all5_lt sl
  obtain ⟨_, _, _, h4, h5⟩ := vis_sound hb 12 0 (all5 sl) 0 0 u d (by omega) (by omega) e
  rw [show d + 12 - 12 = d by omega] at h5
  exact ⟨h5, by omega⟩
theorem Ag.self (w : List Nat) (i : Nat) : Ag w 0 w i := fun j _ => by rw [Nat.zero_add]
/-- the first proof is accepted, and as deep as its height -/
theorem chk_first (hb : NB ch) (h0 : 0 < hgt ch (all5 sl)) : chkV ch sl (fpL ch sl) = (0, (fpL ch sl).length, hgt ch (all5 sl)) := by
  obtain ⟨d, e, hd⟩ := (chk_run hb h0 (Nat.le_refl _) (Ag.self (fpL ch sl) _)).1 rfl
  rw [Nat.zero_add] at e
  have h10 := hgt_le ch (all5 sl)
  obtain ⟨l1, l2⟩ := chk_lv hb e
  have := ((hgt_lv (show d ≤ 10 by omega)).2 l1).2
  rw [e]
  rw [show d = hgt ch (all5 sl) by omega]
theorem chkR_first (hb : NB ch) (h0 : 0 < hgt ch (all5 sl)) : chkR ch sl (fpL ch sl) = 0 := by
  unfold chkR
  rw [chk_first hb h0, if_pos rfl, if_pos (Nat.le_refl _)]
/-- cut off, it is short -/
theorem chk_cut (hb : NB ch) (h0 : 0 < hgt ch (all5 sl)) {i : Nat} (hi : i < (fpL ch sl).length) : chkR ch sl ((fpL ch sl).take i) = 2 ∧ (chkV ch sl ((fpL ch sl).take i)).2.1 = i := by
  have hg : Ag ((fpL ch sl).take i) 0 (fpL ch sl) i := fun j hj => by rw [Nat.zero_add, List.getElem?_take_of_lt hj]
  obtain ⟨_, h2⟩ := (chk_run hb h0 (by omega) hg).2 hi
  have h3 := h2 (by rw [List.length_take]; omega)
  unfold chkR
  rw [h3.1, if_neg (by decide)]
  exact ⟨rfl, by omega⟩
/-- with a number more, it is long -/
theorem chk_long (hb : NB ch) (h0 : 0 < hgt ch (all5 sl)) (x : Nat) : chkR ch sl (fpL ch sl ++ [x]) = 6 ∧ (chkV ch sl (fpL ch sl ++ [x])).2.1 = (fpL ch sl).length := by
  have hg : Ag (fpL ch sl ++ [x]) 0 (fpL ch sl) (fpL ch sl).length := fun j hj => by rw [Nat.zero_add, List.getElem?_append_left hj]
  obtain ⟨d, e, _⟩ := (chk_run hb h0 (Nat.le_refl _) hg).1 rfl
  rw [Nat.zero_add] at e
  have hl : (fpL ch sl ++ [x]).length = (fpL ch sl).length + 1 := by rw [List.length_append, List.length_singleton]
  unfold chkR
  rw [hl, e]
  generalize (fpL ch sl).length = n
  rw [if_pos rfl, if_neg (Nat.not_succ_le_self n)]
  exact ⟨rfl, rfl⟩
/-- a lesser number at some place: no proof within the height; and what stands ahead of it is used -/
theorem chk_less (hb : NB ch) (h0 : 0 < hgt ch (all5 sl)) {i x : Nat} (hi : i < (fpL ch sl).length) (hx : x < (fpL ch sl).getD i 0) :
    ¬ (chkR ch sl ((fpL ch sl).take i ++ [x]) = 0 ∧ (chkV ch sl ((fpL ch sl).take i ++ [x])).2.2 ≤ hgt ch (all5 sl)) ∧ i ≤ (chkV ch sl ((fpL ch sl).take i ++ [x])).2.1 := by
  have hlt : ((fpL ch sl).take i).length = i := by rw [List.length_take]; omega
  have hg : Ag ((fpL ch sl).take i ++ [x]) 0 (fpL ch sl) i := fun j hj => by
    rw [Nat.zero_add, List.getElem?_append_left (by omega), List.getElem?_take_of_lt hj]
  have hix : ((fpL ch sl).take i ++ [x])[i]? = some x := by
    rw [List.getElem?_append_right (by omega), hlt, Nat.sub_self]
    rfl
  obtain ⟨h1, _⟩ := (chk_run hb h0 (by omega) hg).2 hi
  refine ⟨fun q => ?_, by omega⟩
  obtain ⟨q1, q2⟩ := q
  have ha := all5_lt sl
  have hv : ∃ u d, chkV ch sl ((fpL ch sl).take i ++ [x]) = (0, u, d) := by
    unfold chkR at q1
    by_cases c : (chkV ch sl ((fpL ch sl).take i ++ [x])).1 = 0
    · exact ⟨_, _, Prod.ext c rfl⟩
    · rw [if_neg c] at q1; exact absurd q1 c
  obtain ⟨u, d, e⟩ := hv
  rw [e] at q2
  change d ≤ hgt ch (all5 sl) at q2
  have hL : Lx ((fpL ch sl).take i ++ [x]) 0 (fpL ch sl) u := vis_lex hb 12 (hgt ch (all5 sl)) 0 (all5 sl) 0 0 u d (by omega) (by omega) e (by omega)
  have hi' := getD_some hi
  rcases hL with ⟨_, g2⟩ | ⟨k, g1, g2, g3⟩
  · have h3 : ((fpL ch sl).take i ++ [x])[0 + i]? = (fpL ch sl)[i]? := g2 i hi
    rw [Nat.zero_add, hix, hi'] at h3
    have := Option.some.inj h3
    omega
  · rw [Nat.zero_add] at g3
    by_cases c : i < k
    · have h3 : ((fpL ch sl).take i ++ [x])[0 + i]? = (fpL ch sl)[i]? := g2 i c
      rw [Nat.zero_add, hix, hi'] at h3
      have := Option.some.inj h3
      omega
    · by_cases c2 : k = i
      · subst c2
        rw [List.getD_eq_getElem?_getD (l := (fpL ch sl).take k ++ [x]), hix] at g3
        change (fpL ch sl).getD k 0 < x at g3
        omega
      · have h3 : ((fpL ch sl).take i ++ [x])[0 + k]? = (fpL ch sl)[k]? := hg k (by omega)
        rw [Nat.zero_add] at h3
        rw [List.getD_eq_getElem?_getD, List.getD_eq_getElem?_getD, h3] at g3
        exact absurd g3 (Nat.lt_irrefl _)
end
/-! how often offers are used -/
theorem wr_of {ch : Nat → Nat} : ∀ {h p s : Nat}, ∀ x ∈ wr ch h p s, 200 ≤ x ∨ ∃ k, k < 36 ∧ x = numK k := by
  intro h
  induction h with
  | zero => intro p s x hx; cases hx
  | succ h ih =>
    intro p s x hx
    change x ∈ stF ch (Lv ch one h) (wr ch h) p s at hx
    unfold stF at hx
    split at hx
    · cases hx
    split at hx
    · cases hx
    split at hx
    · exact ih x hx
    split at hx
    · cases e : fstN (splt ch (Lv ch one h) p s) 256 0 with
      | none => rw [e] at hx; cases hx
      | some q =>
        rw [e] at hx
        change x ∈ (200 + q) :: (wr ch h (ch1 ch p) q ++ wr ch h (ch2 ch p) (s ^^^ q)) at hx
        rw [List.mem_cons, List.mem_append] at hx
        rcases hx with hx | hx | hx
        · exact Or.inl (by omega)
        · exact ih x hx
        · exact ih x hx
    split at hx
    · rw [List.mem_append] at hx
      exact hx.elim (ih x) (ih x)
    split at hx
    · split at hx
      · rw [List.mem_cons] at hx; exact hx.elim (fun q => Or.inl (by omega)) (ih x)
      · rw [List.mem_cons] at hx; exact hx.elim (fun q => Or.inl (by omega)) (ih x)
    split at hx
    · exact ih x hx
    · cases e : fstN (tol ch (Lv ch one h) (kd ch p) s) 36 0 with
      | none => rw [e] at hx; cases hx
      | some k =>
        rw [e] at hx
        change x ∈ numK k :: wrB ch (wr ch h) s k at hx
        rw [List.mem_cons] at hx
        rcases hx with hx | hx
        · exact Or.inr ⟨k, fst36 k e, hx⟩
        · exact wrB_le (Q := fun l => x ∈ l → 200 ≤ x ∨ ∃ k, k < 36 ∧ x = numK k) (fun q => by cases q) (fun p s => ih x) hx
def b1 (b : Bool) : Nat := if b = true then 1 else 0
def lt200 (x : Nat) : Bool := decide (x < 200)
/-- the uses of the offers below k -/
def sumU (w : List Nat) (n : Nat) : Nat → Nat
  | 0 => 0
  | k + 1 => sumU w n k + (cntL (usF 0 k) w n + if k < 4 then cntL (usF 1 k) w n else 0)
def sumX (x : Nat) : Nat → Nat
  | 0 => 0
  | k + 1 => sumX x k + (b1 (usF 0 k x) + if k < 4 then b1 (usF 1 k x) else 0)
theorem sumX_k : ∀ k, k < 36 → sumX (numK k) 8 = 1 := by decide +kernel
theorem sumX_0 {x : Nat} (h : 200 ≤ x) : ∀ k, sumX x k = 0 := by
  intro k
  induction k with
  | zero => rfl
  | succ k ih =>
    have e : ∀ t n, b1 (usF t n x) = 0 := fun t n => by unfold b1 usF; rw [if_neg (by rw [decide_eq_true_eq]; omega)]
    show sumX x k + (b1 (usF 0 k x) + if k < 4 then b1 (usF 1 k x) else 0) = 0
    rw [ih, e, e]
    split <;> rfl
theorem cntL_s (f : Nat → Bool) (l : List Nat) (n : Nat) : cntL f l (n + 1) = cntL f l n + b1 (f (l.getD n 0)) := rfl
theorem sumU_s (w : List Nat) (n : Nat) : ∀ k, sumU w (n + 1) k = sumU w n k + sumX (w.getD n 0) k := by
  intro k
  induction k with
  | zero => rfl
  | succ k ih =>
    show sumU w (n + 1) k + (cntL (usF 0 k) w (n + 1) + if k < 4 then cntL (usF 1 k) w (n + 1) else 0) = sumU w n k + (cntL (usF 0 k) w n + if k < 4 then cntL (usF 1 k) w n else 0) + (sumX (w.getD n 0) k + (b1 (usF 0 k (w.getD n 0)) + if k < 4 then b1 (usF 1 k (w.getD n 0)) else 0))
    rw [ih, cntL_s, cntL_s]
    by_cases c : k < 4
    · rw [if_pos c, if_pos c, if_pos c]; omega
    · rw [if_neg c, if_neg c, if_neg c]; omega
theorem sumU_0 (w : List Nat) : ∀ k, sumU w 0 k = 0 := by
  intro k
  induction k with
  | zero => rfl
  | succ k ih =>
    show sumU w 0 k + (0 + if k < 4 then 0 else 0) = 0
    rw [ih]; split <;> rfl
theorem sumU_all {w : List Nat} (h : ∀ x ∈ w, 200 ≤ x ∨ ∃ k, k < 36 ∧ x = numK k) : ∀ n, n ≤ w.length → sumU w n 8 = cntL lt200 w n := by
  intro n
  induction n with
  | zero => intro _; exact sumU_0 w 8
  | succ n ih =>
    intro hn
    rw [sumU_s, cntL_s, ih (by omega)]
    rcases h _ (getD_mem (show n < w.length by omega)) with hx | ⟨k, hk, hx⟩
    · rw [sumX_0 hx, show lt200 (w.getD n 0) = false from decide_eq_false (by omega)]; rfl
    · have := numK_lt hk
      rw [hx, sumX_k k hk, show lt200 (numK k) = true from decide_eq_true (by omega)]; rfl
theorem cntL_le (f : Nat → Bool) (l : List Nat) : ∀ n, cntL f l n ≤ n := by
  intro n
  induction n with
  | zero => exact Nat.le_refl 0
  | succ n ih =>
    rw [cntL_s]
    unfold b1
    split <;> omega
