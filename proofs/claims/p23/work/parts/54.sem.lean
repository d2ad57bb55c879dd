/-! what can be proved, on the places of the texts -/
def fstN (P : Nat → Bool) : Nat → Nat → Option Nat
  | 0, _ => none
  | j + 1, k => if P k = true then some k else fstN P j (k + 1)
theorem fstN_some {P : Nat → Bool} : ∀ {j k i : Nat}, fstN P j k = some i → k ≤ i ∧ i < k + j ∧ P i = true ∧ ∀ q, k ≤ q → q < i → P q = false := by
  intro j
  induction j with
  | zero => intro k i h; cases h
  | succ j ih =>
    intro k i h
    unfold fstN at h
    by_cases e : P k = true
    · rw [if_pos e] at h
      obtain rfl := Option.some.inj h
      exact ⟨Nat.le_refl _, by omega, e, fun q h1 h2 => by omega⟩
    · rw [if_neg e] at h
      obtain ⟨h1, h2, h3, h4⟩ := ih h
      refine ⟨by omega, by omega, h3, fun q q1 q2 => ?_⟩
      by_cases e2 : q = k
      · rw [e2]; exact Bool.eq_false_iff.2 e
      · exact h4 q (by omega) q2
theorem fstN_none {P : Nat → Bool} : ∀ {j k : Nat}, fstN P j k = none → ∀ q, k ≤ q → q < k + j → P q = false := by
  intro j
  induction j with
  | zero => intro k h q h1 h2; omega
  | succ j ih =>
    intro k h q h1 h2
    unfold fstN at h
    by_cases e : P k = true
    · rw [if_pos e] at h; cases h
    · rw [if_neg e] at h
      by_cases e2 : q = k
      · rw [e2]; exact Bool.eq_false_iff.2 e
      · exact ih h q (by omega) (by omega)
theorem fstN_congr {P Q : Nat → Bool} : ∀ {j k : Nat}, (∀ q, k ≤ q → q < k + j → P q = Q q) → fstN P j k = fstN Q j k := by
  intro j
  induction j with
  | zero => intro k _; rfl
  | succ j ih =>
    intro k h
    unfold fstN
    rw [h k (Nat.le_refl _) (by omega), ih (fun q h1 h2 => h q (by omega) (by omega))]
theorem fstN_is {P : Nat → Bool} {j k : Nat} : (fstN P j k).isSome = true ↔ ∃ q, k ≤ q ∧ q < k + j ∧ P q = true := by
  cases e : fstN P j k with
  | none =>
    constructor
    · intro h; cases h
    · rintro ⟨q, h1, h2, h3⟩
      rw [fstN_none e q h1 h2] at h3
      cases h3
  | some i =>
    obtain ⟨h1, h2, h3, _⟩ := fstN_some e
    exact ⟨fun _ => ⟨i, h1, h2, h3⟩, fun _ => rfl⟩
/-- a face of an offer, with the head c, from what is left when the offer is used -/
def tolR (ch : Nat → Nat) (B : Nat → Nat → Bool) (c o f r : Nat) : Bool := match fp ch o f with
  | none => false
  | some q => decide (ch q = c) && (if ch (q + 1) = 60 then B (q + 2) r else decide (r = 0))
def afU (o s : Nat) : Option Nat := if 8 ≤ o then some s else if s.testBit o = true then some (s ^^^ 2 ^ o) else none
def tol (ch : Nat → Nat) (B : Nat → Nat → Bool) (c s k : Nat) : Bool := match afU (k / 3) s with
  | none => false
  | some r => tolR ch B c (k / 3) (k % 3) r
def splt (ch : Nat → Nat) (B : Nat → Nat → Bool) (p s part : Nat) : Bool := decide (part &&& s = part) && (B (ch1 ch p) part && B (ch2 ch p) (s ^^^ part))
def stp (ch : Nat → Nat) (T : Nat → Bool) (B : Nat → Nat → Bool) (p s : Nat) : Bool :=
  if kd ch p = 49 then decide (s = 0)
  else if kd ch p = 84 then T s
  else if kd ch p = 33 then decide (s = 0) && B (ch1 ch p) 0
  else if kd ch p = 42 then (fstN (splt ch B p s) 256 0).isSome
  else if kd ch p = 38 then B (ch1 ch p) s && B (ch2 ch p) s
  else if kd ch p = 43 then B (ch1 ch p) s || B (ch2 ch p) s
  else if kd ch p = 91 then !(s.testBit (ln ch p)) && B (ch1 ch p) (s ||| 2 ^ ln ch p)
  else (fstN (tol ch B (kd ch p) s) 36 0).isSome
def Lv (ch : Nat → Nat) (T : Nat → Bool) : Nat → Nat → Nat → Bool
  | 0 => fun _ _ => false
  | h + 1 => stp ch T (Lv ch T h)
theorem fstN_mono {P Q : Nat → Bool} {j k : Nat} (h : ∀ q, P q = true → Q q = true) (h1 : (fstN P j k).isSome = true) : (fstN Q j k).isSome = true := by
  rw [fstN_is] at h1 ⊢
  obtain ⟨q, a, b, c⟩ := h1
  exact ⟨q, a, b, h q c⟩
theorem stp_mono {ch : Nat → Nat} {T : Nat → Bool} {B B' : Nat → Nat → Bool} (hB : ∀ p s, B p s = true → B' p s = true) {p s : Nat} (h : stp ch T B p s = true) : stp ch T B' p s = true := by
  unfold stp at h ⊢
  by_cases c1 : kd ch p = 49
  · rw [if_pos c1] at h ⊢; exact h
  rw [if_neg c1] at h ⊢
  by_cases c2 : kd ch p = 84
  · rw [if_pos c2] at h ⊢; exact h
  rw [if_neg c2] at h ⊢
  by_cases c3 : kd ch p = 33
  · rw [if_pos c3, Bool.and_eq_true] at h ⊢; exact ⟨h.1, hB _ _ h.2⟩
  rw [if_neg c3] at h ⊢
  by_cases c4 : kd ch p = 42
  · rw [if_pos c4] at h ⊢
    refine fstN_mono (fun q hq => ?_) h
    unfold splt at hq ⊢
    rw [Bool.and_eq_true, Bool.and_eq_true] at hq ⊢
    exact ⟨hq.1, hB _ _ hq.2.1, hB _ _ hq.2.2⟩
  rw [if_neg c4] at h ⊢
  by_cases c5 : kd ch p = 38
  · rw [if_pos c5, Bool.and_eq_true] at h ⊢; exact ⟨hB _ _ h.1, hB _ _ h.2⟩
  rw [if_neg c5] at h ⊢
  by_cases c6 : kd ch p = 43
  · rw [if_pos c6, Bool.or_eq_true] at h ⊢
    exact h.elim (fun a => Or.inl (hB _ _ a)) (fun a => Or.inr (hB _ _ a))
  rw [if_neg c6] at h ⊢
  by_cases c7 : kd ch p = 91
  · rw [if_pos c7, Bool.and_eq_true] at h ⊢; exact ⟨h.1, hB _ _ h.2⟩
  rw [if_neg c7] at h ⊢
  refine fstN_mono (fun q hq => ?_) h
  unfold tol at hq ⊢
  cases e : afU (q / 3) s with
  | none => rw [e] at hq; cases hq
  | some r =>
    rw [e] at hq
    show tolR ch B' _ _ _ r = true
    change tolR ch B _ _ _ r = true at hq
    unfold tolR at hq ⊢
    cases e2 : fp ch (q / 3) (q % 3) with
    | none => rw [e2] at hq; cases hq
    | some x =>
      rw [e2] at hq
      change (decide (ch x = _) && _) = true at hq
      show (decide (ch x = _) && _) = true
      rw [Bool.and_eq_true] at hq ⊢
      refine ⟨hq.1, ?_⟩
      by_cases c8 : ch (x + 1) = 60
      · have := hq.2; rw [if_pos c8] at this ⊢; exact hB _ _ this
      · have := hq.2; rw [if_neg c8] at this ⊢; exact this
theorem Lv_succ {ch : Nat → Nat} {T : Nat → Bool} : ∀ {h p s : Nat}, Lv ch T h p s = true → Lv ch T (h + 1) p s = true := by
  intro h
  induction h with
  | zero => intro p s q; cases q
  | succ h ih => intro p s q; exact stp_mono (fun p s => ih) q
theorem Lv_mono {ch : Nat → Nat} {T : Nat → Bool} {h h' p s : Nat} (hh : h ≤ h') (q : Lv ch T h p s = true) : Lv ch T h' p s = true := by
  induction h' with
  | zero => obtain rfl : h = 0 := (by omega); exact q
  | succ h' ih =>
    by_cases e : h = h' + 1
    · rw [← e]; exact q
    · exact Lv_succ (ih (by omega))
/-- the least height, up to a height; 0 for none -/
def lst (P : Nat → Bool) : Nat → Nat
  | 0 => 0
  | h + 1 => if lst P h = 0 then (if P (h + 1) = true then h + 1 else 0) else lst P h
theorem lst_le (P : Nat → Bool) : ∀ h, lst P h ≤ h := by
  intro h
  induction h with
  | zero => exact Nat.le_refl 0
  | succ h ih => unfold lst; split <;> (try split) <;> omega
theorem lst_ok {P : Nat → Bool} (h0 : P 0 = false) (hm : ∀ a b, a ≤ b → P a = true → P b = true) : ∀ h g, g ≤ h → ((0 < lst P h ∧ lst P h ≤ g) ↔ P g = true) := by
  intro h
  induction h with
  | zero =>
    intro g hg
    obtain rfl : g = 0 := (by omega)
    rw [h0]
    show (0 < 0 ∧ 0 ≤ 0) ↔ _
    constructor
    · rintro ⟨h, _⟩; omega
    · intro h; cases h
  | succ h ih =>
    intro g hg
    unfold lst
    by_cases e : lst P h = 0
    · rw [if_pos e]
      have hn : ∀ q, q ≤ h → P q = false := by
        intro q hq
        cases e2 : P q with
        | false => rfl
        | true => have := (ih q hq).2 e2; omega
      by_cases e2 : P (h + 1) = true
      · rw [if_pos e2]
        constructor
        · rintro ⟨_, h2⟩
          obtain rfl : g = h + 1 := (by omega)
          exact e2
        · intro h2
          refine ⟨by omega, ?_⟩
          apply Nat.le_of_not_lt
          intro h3
          rw [hn g (by omega)] at h2
          cases h2
      · rw [if_neg e2]
        constructor
        · rintro ⟨h1, _⟩; omega
        · intro h2
          by_cases e3 : g = h + 1
          · rw [e3] at h2; exact absurd h2 e2
          · rw [hn g (by omega)] at h2; cases h2
    · rw [if_neg e]
      by_cases e3 : g ≤ h
      · exact ih g e3
      · obtain rfl : g = h + 1 := (by omega)
        have h1 := lst_le P h
        constructor
        · intro _
          exact hm h (h + 1) (by omega) ((ih h (Nat.le_refl _)).1 ⟨by omega, h1⟩)
        · intro _; omega
def one (_ : Nat) : Bool := true
def lhM (ch : Nat → Nat) (h p s : Nat) : Nat := lst (fun g => Lv ch one g p s) h
theorem lhM_ok {ch : Nat → Nat} {h g p s : Nat} (hg : g ≤ h) : (0 < lhM ch h p s ∧ lhM ch h p s ≤ g) ↔ Lv ch one g p s = true := lst_ok (P := fun g => Lv ch one g p s) rfl (fun _ _ hab q => Lv_mono hab q) h g hg
