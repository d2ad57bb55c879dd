/-! the texts, as the document reads them: one row of signs 'ch' holds all texts, that of slot k from 64 * k on; 0 where there is none -/
abbrev PR : Type := Bool × Nat × Nat × Nat
def isAt (c : Nat) : Bool := decide (97 ≤ c ∧ c ≤ 104)
def pb (r : PR) (k : Nat → PR) : PR := if r.1 = true then ((k r.2.1).1, (k r.2.1).2.1, r.2.2.1 + (k r.2.1).2.2.1, r.2.2.2 + (k r.2.1).2.2.2) else r
def pface (g : Nat → PR) (ch : Nat → Nat) (p : Nat) : PR := if isAt (ch p) = true then (if ch (p + 1) = 60 then g (p + 2) else (true, p + 1, 0, 0)) else (false, p, 0, 0)
def poff (g : Nat → PR) (ch : Nat → Nat) (p : Nat) : PR :=
  pb (pface g ch p) fun q => if ch q = 124 then pb (pface g ch (q + 1)) fun q2 => (if ch q2 = 124 then pface g ch (q2 + 1) else (true, q2, 0, 0)) else (true, q, 0, 0)
def isOp (c : Nat) : Bool := decide (c = 42 ∨ c = 38 ∨ c = 43)
def pgoal (ch : Nat → Nat) : Nat → Nat → PR
  | 0, p => (false, p, 0, 0)
  | F + 1, p =>
    if isAt (ch p) = true ∨ ch p = 49 ∨ ch p = 84 then (true, p + 1, 1, 0)
    else if ch p = 33 then pb (pgoal ch F (p + 1)) fun q => (true, q, 1, 0)
    else if ch p = 40 then pb (pgoal ch F (p + 1)) fun q => if isOp (ch q) = true then (pb (pgoal ch F (q + 1)) fun q2 => if ch q2 = 41 then (true, q2 + 1, 1, 0) else (false, q2, 0, 0)) else (false, q, 0, 0)
    else if ch p = 91 then pb (poff (pgoal ch F) ch (p + 1)) fun q => if ch q = 93 then (pb (pgoal ch F (q + 1)) fun q2 => (true, q2, 1, 1)) else (false, q, 0, 0)
    else (false, p, 0, 0)
theorem pb_ok {r : PR} {k : Nat → PR} (h : (pb r k).1 = true) : r.1 = true ∧ (k r.2.1).1 = true ∧ (pb r k).2.1 = (k r.2.1).2.1 ∧ (pb r k).2.2.1 = r.2.2.1 + (k r.2.1).2.2.1 ∧ (pb r k).2.2.2 = r.2.2.2 + (k r.2.1).2.2.2 := by
  unfold pb at h ⊢
  by_cases hr : r.1 = true
  · rw [if_pos hr] at h ⊢; exact ⟨hr, h, rfl, rfl, rfl⟩
  · rw [if_neg hr] at h; exact absurd h hr
theorem pb_true {r : PR} {k : Nat → PR} (h : r.1 = true) : pb r k = ((k r.2.1).1, (k r.2.1).2.1, r.2.2.1 + (k r.2.1).2.2.1, r.2.2.2 + (k r.2.1).2.2.2) := by unfold pb; rw [if_pos h]
theorem pb_false {r : PR} {k : Nat → PR} (h : ¬ r.1 = true) : pb r k = r := by unfold pb; rw [if_neg h]
/-- where a parse stops: in its own window, behind its start (but for a fault at the start) -/
theorem pface_pos {g : Nat → PR} {ch : Nat → Nat} (b n : Nat) (hend : ∀ i, b + n ≤ i → i < b + 64 → ch i = 0) (hn : n ≤ 60) (hg : ∀ p, b ≤ p → p ≤ b + n → p ≤ (g p).2.1 ∧ (g p).2.1 ≤ b + n ∧ ((g p).1 = true → p < (g p).2.1)) (p : Nat) (h1 : b ≤ p) (h2 : p ≤ b + n) :
    p ≤ (pface g ch p).2.1 ∧ (pface g ch p).2.1 ≤ b + n ∧ ((pface g ch p).1 = true → p < (pface g ch p).2.1) := by
  unfold pface
  by_cases ha : isAt (ch p) = true
  · rw [if_pos ha]
    have hp : p < b + n := by
      apply Nat.lt_of_not_le
      intro h
      rw [hend p h (by omega)] at ha
      cases ha
    by_cases hb : ch (p + 1) = 60
    · rw [if_pos hb]
      have hp2 : p + 1 < b + n := by
        apply Nat.lt_of_not_le
        intro h
        rw [hend (p + 1) h (by omega)] at hb
        cases hb
      obtain ⟨g1, g2, g3⟩ := hg (p + 2) (by omega) (by omega)
      exact ⟨by omega, g2, fun h => by have := g3 h; omega⟩
    · rw [if_neg hb]; exact ⟨Nat.le_succ p, hp, fun _ => Nat.lt_succ_self p⟩
  · rw [if_neg ha]; exact ⟨Nat.le_refl p, h2, fun h => by cases h⟩
theorem pb_pos {r : PR} {k : Nat → PR} {p m : Nat} (h1 : p ≤ r.2.1 ∧ r.2.1 ≤ m ∧ (r.1 = true → p < r.2.1)) (h2 : r.1 = true → r.2.1 ≤ (k r.2.1).2.1 ∧ (k r.2.1).2.1 ≤ m) : p ≤ (pb r k).2.1 ∧ (pb r k).2.1 ≤ m ∧ ((pb r k).1 = true → p < (pb r k).2.1) := by
  by_cases hr : r.1 = true
  · rw [pb_true hr]
    have h3 := h2 hr
    have h4 := h1.2.2 hr
    exact ⟨by show p ≤ (k r.2.1).2.1; omega, h3.2, fun _ => by show p < (k r.2.1).2.1; omega⟩
  · rw [pb_false hr]; exact h1
theorem poff_pos {g : Nat → PR} {ch : Nat → Nat} (b n : Nat) (hend : ∀ i, b + n ≤ i → i < b + 64 → ch i = 0) (hn : n ≤ 60) (hg : ∀ p, b ≤ p → p ≤ b + n → p ≤ (g p).2.1 ∧ (g p).2.1 ≤ b + n ∧ ((g p).1 = true → p < (g p).2.1)) (p : Nat) (h1 : b ≤ p) (h2 : p ≤ b + n) :
    p ≤ (poff g ch p).2.1 ∧ (poff g ch p).2.1 ≤ b + n ∧ ((poff g ch p).1 = true → p < (poff g ch p).2.1) := by
  have hf := pface_pos b n hend hn hg
  have lt_of : ∀ q, q ≤ b + n → ch q ≠ 0 → b ≤ q → q < b + n := fun q hq hc hb => by
    apply Nat.lt_of_not_le
    intro h
    exact hc (hend q h (by omega))
  refine pb_pos (hf p h1 h2) (fun hr => ?_)
  obtain ⟨f1, f2, f3⟩ := hf p h1 h2
  generalize (pface g ch p).2.1 = q at f1 f2 f3
  by_cases hc : ch q = 124
  · rw [if_pos hc]
    have hq := lt_of q f2 (by omega) (by omega)
    obtain ⟨g1, g2, g3⟩ := hf (q + 1) (by omega) (by omega)
    have h5 := pb_pos (k := fun q2 => if ch q2 = 124 then pface g ch (q2 + 1) else (true, q2, 0, 0)) (hf (q + 1) (by omega) (by omega)) (fun hr2 => by
      show _ ≤ (if ch _ = 124 then _ else _ : PR).2.1 ∧ (if ch _ = 124 then _ else _ : PR).2.1 ≤ _
      generalize (pface g ch (q + 1)).2.1 = q2 at g1 g2 g3
      by_cases hc2 : ch q2 = 124
      · rw [if_pos hc2]
        have hq2 := lt_of q2 g2 (by omega) (by omega)
        obtain ⟨k1, k2, k3⟩ := hf (q2 + 1) (by omega) (by omega)
        exact ⟨by omega, k2⟩
      · rw [if_neg hc2]; exact ⟨Nat.le_refl _, g2⟩)
    exact ⟨by have := h5.1; omega, h5.2.1⟩
  · rw [if_neg hc]; exact ⟨Nat.le_refl _, f2⟩
theorem pgoal_pos (ch : Nat → Nat) (b n : Nat) (hend : ∀ i, b + n ≤ i → i < b + 64 → ch i = 0) (hn : n ≤ 60) : ∀ (F p : Nat), b ≤ p → p ≤ b + n → p ≤ (pgoal ch F p).2.1 ∧ (pgoal ch F p).2.1 ≤ b + n ∧ ((pgoal ch F p).1 = true → p < (pgoal ch F p).2.1) := by
  intro F
  induction F with
  | zero => intro p h1 h2; exact ⟨Nat.le_refl p, h2, fun h => by cases h⟩
  | succ F ih =>
    intro p h1 h2
    have lt_of : ∀ q, q ≤ b + n → ch q ≠ 0 → b ≤ q → q < b + n := fun q hq hc hb => by
      apply Nat.lt_of_not_le
      intro h
      exact hc (hend q h (by omega))
    unfold pgoal
    by_cases c1 : isAt (ch p) = true ∨ ch p = 49 ∨ ch p = 84
    · rw [if_pos c1]
      have hp := lt_of p h2 (by rintro h; rw [h] at c1; revert c1; decide) h1
      exact ⟨Nat.le_succ p, hp, fun _ => Nat.lt_succ_self p⟩
    rw [if_neg c1]
    by_cases c2 : ch p = 33
    · rw [if_pos c2]
      have hp := lt_of p h2 (by omega) h1
      obtain ⟨g1, g2, g3⟩ := ih (p + 1) (by omega) (by omega)
      exact pb_pos ⟨by omega, g2, fun h => by have := g3 h; omega⟩ (fun _ => ⟨Nat.le_refl _, g2⟩)
    rw [if_neg c2]
    by_cases c3 : ch p = 40
    · rw [if_pos c3]
      have hp := lt_of p h2 (by omega) h1
      obtain ⟨g1, g2, g3⟩ := ih (p + 1) (by omega) (by omega)
      refine pb_pos ⟨by omega, g2, fun h => by have := g3 h; omega⟩ (fun _ => ?_)
      generalize (pgoal ch F (p + 1)).2.1 = q at g1 g2 g3
      by_cases c4 : isOp (ch q) = true
      · rw [if_pos c4]
        have hq := lt_of q g2 (by rintro h; rw [h] at c4; revert c4; decide) (by omega)
        obtain ⟨k1, k2, k3⟩ := ih (q + 1) (by omega) (by omega)
        have h5 := pb_pos (p := q) (k := fun q2 => if ch q2 = 41 then ((true, q2 + 1, 1, 0) : PR) else (false, q2, 0, 0)) (m := b + n) ⟨by omega, k2, fun h => by have := k3 h; omega⟩ (fun _ => by
          show _ ≤ (if ch _ = 41 then _ else _ : PR).2.1 ∧ (if ch _ = 41 then _ else _ : PR).2.1 ≤ _
          generalize (pgoal ch F (q + 1)).2.1 = q2 at k1 k2 k3
          by_cases c5 : ch q2 = 41
          · rw [if_pos c5]; exact ⟨Nat.le_succ _, lt_of q2 k2 (by omega) (by omega)⟩
          · rw [if_neg c5]; exact ⟨Nat.le_refl _, k2⟩)
        exact ⟨h5.1, h5.2.1⟩
      · rw [if_neg c4]; exact ⟨Nat.le_refl _, g2⟩
    rw [if_neg c3]
    by_cases c6 : ch p = 91
    · rw [if_pos c6]
      have hp := lt_of p h2 (by omega) h1
      have ho := poff_pos b n hend hn ih (p + 1) (by omega) (by omega)
      obtain ⟨g1, g2, g3⟩ := ho
      refine pb_pos ⟨by omega, g2, fun h => by have := g3 h; omega⟩ (fun _ => ?_)
      generalize (poff (pgoal ch F) ch (p + 1)).2.1 = q at g1 g2 g3
      by_cases c4 : ch q = 93
      · rw [if_pos c4]
        have hq := lt_of q g2 (by omega) (by omega)
        obtain ⟨k1, k2, k3⟩ := ih (q + 1) (by omega) (by omega)
        have h5 := pb_pos (p := q) (k := fun q2 => ((true, q2, 1, 1) : PR)) (m := b + n) ⟨by omega, k2, fun h => by have := k3 h; omega⟩ (fun _ => ⟨Nat.le_refl _, k2⟩)
        exact ⟨h5.1, h5.2.1⟩
      · rw [if_neg c4]; exact ⟨Nat.le_refl _, g2⟩
    rw [if_neg c6]
    exact ⟨Nat.le_refl p, h2, fun h => by cases h⟩
/-- enough fuel is enough -/
theorem pface_fuel {g g' : Nat → PR} {ch : Nat → Nat} (b n : Nat) (hend : ∀ i, b + n ≤ i → i < b + 64 → ch i = 0) (hn : n ≤ 60) (p : Nat) (h1 : b ≤ p) (h2 : p ≤ b + n) (h : ∀ q, p < q → q ≤ b + n → g q = g' q) : pface g ch p = pface g' ch p := by
  unfold pface
  by_cases ha : isAt (ch p) = true
  · rw [if_pos ha, if_pos ha]
    by_cases hb : ch (p + 1) = 60
    · rw [if_pos hb, if_pos hb]
      refine h (p + 2) (by omega) ?_
      apply Nat.le_of_not_lt
      intro hlt
      have hz : ch (p + 1) = 0 := by
        by_cases he : p + 1 < b + 64
        · exact hend (p + 1) (by omega) he
        · omega
      omega
    · rw [if_neg hb, if_neg hb]
  · rw [if_neg ha, if_neg ha]
theorem pb_congr {r r' : PR} {k k' : Nat → PR} (h : r = r') (hk : r.1 = true → k r.2.1 = k' r.2.1) : pb r k = pb r' k' := by
  subst h
  unfold pb
  by_cases hr : r.1 = true
  · rw [if_pos hr, if_pos hr, hk hr]
  · rw [if_neg hr, if_neg hr]
theorem poff_fuel {g g' : Nat → PR} {ch : Nat → Nat} (b n : Nat) (hend : ∀ i, b + n ≤ i → i < b + 64 → ch i = 0) (hn : n ≤ 60) (hg : ∀ p, b ≤ p → p ≤ b + n → p ≤ (g p).2.1 ∧ (g p).2.1 ≤ b + n ∧ ((g p).1 = true → p < (g p).2.1)) (p : Nat) (h1 : b ≤ p) (h2 : p ≤ b + n) (h : ∀ q, p < q → q ≤ b + n → g q = g' q) : poff g ch p = poff g' ch p := by
  have hf := pface_pos b n hend hn hg
  have lt_of : ∀ q, q ≤ b + n → ch q ≠ 0 → b ≤ q → q < b + n := fun q hq hc hb => by
    apply Nat.lt_of_not_le
    intro h
    exact hc (hend q h (by omega))
  unfold poff
  obtain ⟨f1, f2, f3⟩ := hf p h1 h2
  refine pb_congr (pface_fuel b n hend hn p h1 h2 h) (fun hr => ?_)
  have f3 := f3 hr
  generalize (pface g ch p).2.1 = q at f1 f2 f3
  by_cases hc : ch q = 124
  · have hq := lt_of q f2 (by omega) (by omega)
    rw [if_pos hc, if_pos hc]
    obtain ⟨g1, g2, g3⟩ := hf (q + 1) (by omega) (by omega)
    refine pb_congr (pface_fuel b n hend hn (q + 1) (by omega) (by omega) (fun x hx hx2 => h x (by omega) hx2)) (fun hr2 => ?_)
    have g3 := g3 hr2
    generalize (pface g ch (q + 1)).2.1 = q2 at g1 g2 g3
    by_cases hc2 : ch q2 = 124
    · have hq2 := lt_of q2 g2 (by omega) (by omega)
      rw [if_pos hc2, if_pos hc2]
      exact pface_fuel b n hend hn (q2 + 1) (by omega) (by omega) (fun x hx hx2 => h x (by omega) hx2)
    · rw [if_neg hc2, if_neg hc2]
  · rw [if_neg hc, if_neg hc]
theorem pgoal_fuel (ch : Nat → Nat) (b n : Nat) (hend : ∀ i, b + n ≤ i → i < b + 64 → ch i = 0) (hn : n ≤ 60) : ∀ (F F' p : Nat), b ≤ p → p ≤ b + n → b + 62 ≤ F + p → b + 62 ≤ F' + p → pgoal ch F p = pgoal ch F' p := by
  intro F
  induction F with
  | zero => intro F' p h1 h2 h3 h4; omega
  | succ F ih =>
    intro F' p h1 h2 h3 h4
    cases F' with
    | zero => omega
    | succ F' =>
      have lt_of : ∀ q, q ≤ b + n → ch q ≠ 0 → b ≤ q → q < b + n := fun q hq hc hb => by
        apply Nat.lt_of_not_le
        intro h
        exact hc (hend q h (by omega))
      unfold pgoal
      by_cases c1 : isAt (ch p) = true ∨ ch p = 49 ∨ ch p = 84
      · rw [if_pos c1, if_pos c1]
      rw [if_neg c1, if_neg c1]
      by_cases c2 : ch p = 33
      · rw [if_pos c2, if_pos c2]
        have hp := lt_of p h2 (by omega) h1
        rw [ih F' (p + 1) (by omega) (by omega) (by omega) (by omega)]
      rw [if_neg c2, if_neg c2]
      by_cases c3 : ch p = 40
      · rw [if_pos c3, if_pos c3]
        have hp := lt_of p h2 (by omega) h1
        obtain ⟨g1, g2, g3⟩ := pgoal_pos ch b n hend hn F (p + 1) (by omega) (by omega)
        refine pb_congr (ih F' (p + 1) (by omega) (by omega) (by omega) (by omega)) (fun hr => ?_)
        have g3 := g3 hr
        generalize (pgoal ch F (p + 1)).2.1 = q at g1 g2 g3
        by_cases c4 : isOp (ch q) = true
        · rw [if_pos c4, if_pos c4]
          have hq := lt_of q g2 (by rintro h; rw [h] at c4; revert c4; decide) (by omega)
          rw [ih F' (q + 1) (by omega) (by omega) (by omega) (by omega)]
        · rw [if_neg c4, if_neg c4]
      rw [if_neg c3, if_neg c3]
      by_cases c6 : ch p = 91
      · rw [if_pos c6, if_pos c6]
        have hp := lt_of p h2 (by omega) h1
        obtain ⟨g1, g2, g3⟩ := poff_pos b n hend hn (pgoal_pos ch b n hend hn F) (p + 1) (by omega) (by omega)
        refine pb_congr (poff_fuel b n hend hn (pgoal_pos ch b n hend hn F) (p + 1) (by omega) (by omega) (fun x hx hx2 => ih F' x (by omega) hx2 (by omega) (by omega))) (fun hr => ?_)
        have g3 := g3 hr
        generalize (poff (pgoal ch F) ch (p + 1)).2.1 = q at g1 g2 g3
        by_cases c4 : ch q = 93
        · rw [if_pos c4, if_pos c4]
          have hq := lt_of q g2 (by omega) (by omega)
          rw [ih F' (q + 1) (by omega) (by omega) (by omega) (by omega)]
        · rw [if_neg c4, if_neg c4]
      rw [if_neg c6, if_neg c6]
/-! the graph that the texts make: a node is the place of its first sign -/
def G64 (ch : Nat → Nat) : Nat → PR := pgoal ch 64
def eG (ch : Nat → Nat) (p : Nat) : Nat := (G64 ch p).2.1
def eF (ch : Nat → Nat) (p : Nat) : Nat := (pface (G64 ch) ch p).2.1
def eO (ch : Nat → Nat) (p : Nat) : Nat := (poff (G64 ch) ch p).2.1
/-- where the faces of an offer stand -/
def nf (ch : Nat → Nat) (o : Option Nat) : Option Nat := match o with
  | none => none
  | some p => if ch (eF ch p) = 124 then some (eF ch p + 1) else none
def fpos (ch : Nat → Nat) (st : Nat) : Nat → Option Nat
  | 0 => some st
  | 1 => nf ch (some st)
  | 2 => nf ch (nf ch (some st))
  | _ => none
/-- how many brackets stand ahead of a place -/
def cntB (ch : Nat → Nat) : Nat → Nat
  | 0 => 0
  | p + 1 => cntB ch p + if ch p = 91 then 1 else 0
/-- where the k-th bracket stands, below a bound -/
def nthB (ch : Nat → Nat) (k : Nat) : Nat → Option Nat
  | 0 => none
  | p + 1 => if ch p = 91 ∧ cntB ch p = k then some p else nthB ch k p
/-- where an offer begins: resources 0 to 4, loans 5 to 7, wells 8 to 11 -/
def ost (ch : Nat → Nat) (o : Nat) : Option Nat :=
  if o < 5 then (if ch (64 * (o + 1)) = 0 then none else some (64 * (o + 1)))
  else if o < 8 then (match nthB ch (o - 5) 640 with | none => none | some p => some (p + 1))
  else if o < 12 then (if ch (64 * (o - 2)) = 0 then none else some (64 * (o - 2))) else none
def fp (ch : Nat → Nat) (o f : Nat) : Option Nat := match ost ch o with
  | none => none
  | some st => fpos ch st f
def hd (ch : Nat → Nat) (o f : Nat) : Nat := match fp ch o f with
  | none => 0
  | some p => ch p
def kd (ch : Nat → Nat) (p : Nat) : Nat := if ch p = 40 then ch (eG ch (p + 1)) else ch p
def ch1 (ch : Nat → Nat) (p : Nat) : Nat := if ch p = 91 then eO ch (p + 1) + 1 else p + 1
def ch2 (ch : Nat → Nat) (p : Nat) : Nat := eG ch (p + 1) + 1
def ln (ch : Nat → Nat) (p : Nat) : Nat := 5 + cntB ch p
/-- each node and each loan takes a sign -/
def fits2 (p : Nat) (r : PR) : Prop := r.1 = true → r.2.2.1 ≤ r.2.1 - p ∧ r.2.2.2 ≤ r.2.1 - p ∧ p ≤ r.2.1
theorem pb_fits {p q : Nat} {r : PR} {k : Nat → PR} (h : fits2 q r) (hq : p ≤ q) (hk : r.1 = true → (k r.2.1).1 = true → (k r.2.1).2.2.1 + r.2.2.1 ≤ (k r.2.1).2.1 - p ∧ (k r.2.1).2.2.2 + r.2.2.2 ≤ (k r.2.1).2.1 - p ∧ p ≤ (k r.2.1).2.1) : fits2 p (pb r k) := by
  intro hr
  obtain ⟨h1, h2, h3, h4, h5⟩ := pb_ok hr
  have := hk h1 h2
  rw [h3, h4, h5]
  omega
theorem pface_fits {g : Nat → PR} {ch : Nat → Nat} (hg : ∀ p, fits2 p (g p)) (p : Nat) : fits2 p (pface g ch p) := by
  unfold pface
  split
  · split
    · intro h
      have := hg (p + 2) h
      omega
    · intro h; dsimp only; omega
  · intro h; cases h
theorem poff_fits {g : Nat → PR} {ch : Nat → Nat} (hg : ∀ p, fits2 p (g p)) (p : Nat) : fits2 p (poff g ch p) := by
  have hf := pface_fits (ch := ch) hg
  refine pb_fits (hf p) (Nat.le_refl _) (fun h1 h2 => ?_)
  have h3 := hf p h1
  generalize hrr : pface g ch p = r at *
  by_cases c : ch r.2.1 = 124
  · rw [if_pos c] at h2 ⊢
    have h4 := pb_fits (p := r.2.1) (hf (r.2.1 + 1)) (Nat.le_succ _) (k := fun q2 => if ch q2 = 124 then pface g ch (q2 + 1) else (true, q2, 0, 0)) (fun k1 k2 => by
      have h5 := hf (r.2.1 + 1) k1
      generalize pface g ch (r.2.1 + 1) = r2 at *
      try dsimp only at k2 ⊢
      by_cases c2 : ch r2.2.1 = 124
      · rw [if_pos c2] at k2 ⊢
        have h6 := hf (r2.2.1 + 1) k2
        omega
      · rw [if_neg c2] at k2 ⊢
        dsimp only
        omega) h2
    omega
  · rw [if_neg c] at h2 ⊢
    dsimp only
    omega
theorem pgoal_fits (ch : Nat → Nat) : ∀ (F p : Nat), fits2 p (pgoal ch F p) := by
  intro F
  induction F with
  | zero => intro p h; cases h
  | succ F ih =>
    intro p
    unfold pgoal
    split
    · intro h; dsimp only; omega
    split
    · refine pb_fits (ih (p + 1)) (Nat.le_succ p) (fun h1 h2 => ?_)
      have h3 := ih (p + 1) h1
      dsimp only
      omega
    split
    · refine pb_fits (ih (p + 1)) (Nat.le_succ p) (fun h1 h2 => ?_)
      have h3 := ih (p + 1) h1
      generalize pgoal ch F (p + 1) = r at *
      try dsimp only at h2 ⊢
      by_cases c : isOp (ch r.2.1) = true
      · rw [if_pos c] at h2 ⊢
        obtain ⟨k1, k2, k3, k4, k5⟩ := pb_ok h2
        have h4 := ih (r.2.1 + 1) k1
        rw [k3, k4, k5]
        generalize pgoal ch F (r.2.1 + 1) = r2 at *
        try dsimp only at k2 ⊢
        by_cases c2 : ch r2.2.1 = 41
        · rw [if_pos c2] at k2 ⊢; dsimp only; omega
        · rw [if_neg c2] at k2; cases k2
      · rw [if_neg c] at h2; cases h2
    split
    · refine pb_fits (poff_fits ih (p + 1)) (Nat.le_succ p) (fun h1 h2 => ?_)
      have h3 := poff_fits (ch := ch) ih (p + 1) h1
      generalize poff (pgoal ch F) ch (p + 1) = r at *
      try dsimp only at h2 ⊢
      by_cases c : ch r.2.1 = 93
      · rw [if_pos c] at h2 ⊢
        obtain ⟨k1, k2, k3, k4, k5⟩ := pb_ok h2
        have h4 := ih (r.2.1 + 1) k1
        rw [k3, k4, k5]
        dsimp only
        omega
      · rw [if_neg c] at h2; cases h2
    · intro h; cases h
theorem pface_loans (ch : Nat → Nat) (F p : Nat) : (pface (pgoal ch F) ch p).1 = true → (pface (pgoal ch F) ch p).2.2.2 ≤ (pface (pgoal ch F) ch p).2.1 - p := fun h => (pface_fits (pgoal_fits ch F) p h).2.1
