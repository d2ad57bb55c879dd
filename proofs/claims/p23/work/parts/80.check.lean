/-! a trial is checked: verdict, how many numbers are used, the greatest depth -/
abbrev VR : Type := Nat × Nat × Nat
def sq (a : VR) (f : Nat → Nat → VR) : VR := if a.1 = 0 then f a.2.1 a.2.2 else a
def offD (x : Nat) : Option Nat := if x < 100 then (if x / 10 < 8 then some (x / 10) else none) else if x < 200 then (if (x - 100) / 10 < 4 then some (8 + (x - 100) / 10) else none) else none
def vAtF (ch : Nat → Nat) (K : Nat → Nat → VR) (cc s u dp o f : Nat) : VR := match afU o s with
  | none => (3, u, dp)
  | some r => match fp ch o f with
    | none => (3, u, dp)
    | some q => if ch q = cc then (if ch (q + 1) = 60 then K (q + 2) r else if r = 0 then (0, u + 1, dp) else (4, u + 1, dp)) else (3, u, dp)
def vAt (ch : Nat → Nat) (K : Nat → Nat → VR) (cc s u dp x : Nat) : VR := match offD x with
  | none => (3, u, dp)
  | some o => if x % 10 < 3 then vAtF ch K cc s u dp o (x % 10) else (3, u, dp)
def stV (ch : Nat → Nat) (t : List Nat) (V : Nat → Nat → Nat → Nat → VR) (p s u dp : Nat) : VR :=
  if kd ch p = 49 then (if s = 0 then (0, u, dp) else (4, u, dp))
  else if kd ch p = 84 then (0, u, dp)
  else if kd ch p = 33 then (if s = 0 then V (ch1 ch p) s u dp else (4, u, dp))
  else if kd ch p = 42 then (if t.length ≤ u then (2, u, dp) else if 200 ≤ t.getD u 0 ∧ (t.getD u 0 - 200) &&& s = t.getD u 0 - 200 then sq (V (ch1 ch p) (t.getD u 0 - 200) (u + 1) dp) (fun u' dp' => V (ch2 ch p) (s ^^^ (t.getD u 0 - 200)) u' dp') else (3, u, dp))
  else if kd ch p = 38 then sq (V (ch1 ch p) s u dp) (fun u dp => V (ch2 ch p) s u dp)
  else if kd ch p = 43 then (if t.length ≤ u then (2, u, dp) else if t.getD u 0 = 300 then V (ch1 ch p) s (u + 1) dp else if t.getD u 0 = 301 then V (ch2 ch p) s (u + 1) dp else (3, u, dp))
  else if kd ch p = 91 then (if s.testBit (ln ch p) = true then (5, u, dp) else V (ch1 ch p) (s ||| 2 ^ ln ch p) u dp)
  else (if t.length ≤ u then (2, u, dp) else vAt ch (fun p r => V p r (u + 1) dp) (kd ch p) s u dp (t.getD u 0))
def vis (ch : Nat → Nat) (t : List Nat) : Nat → Nat → Nat → Nat → Nat → VR
  | 0 => fun _ _ u dp => (1, u, dp)
  | r + 1 => fun p s u dp => stV ch t (vis ch t r) p s u (max dp (12 - r))
theorem stV_at {ch : Nat → Nat} {t : List Nat} {V : Nat → Nat → Nat → Nat → VR} {p s u dp : Nat} (h : isAt (kd ch p) = true) : stV ch t V p s u dp = if t.length ≤ u then (2, u, dp) else vAt ch (fun p r => V p r (u + 1) dp) (kd ch p) s u dp (t.getD u 0) := by
  rw [isAt_iff] at h
  unfold stV
  rw [if_neg (by omega), if_neg (by omega), if_neg (by omega), if_neg (by omega), if_neg (by omega), if_neg (by omega), if_neg (by omega)]
theorem stV_49 {ch : Nat → Nat} {t : List Nat} {V : Nat → Nat → Nat → Nat → VR} {p s u dp : Nat} (h : kd ch p = 49) : stV ch t V p s u dp = if s = 0 then (0, u, dp) else (4, u, dp) := by unfold stV; rw [if_pos h]
theorem stV_84 {ch : Nat → Nat} {t : List Nat} {V : Nat → Nat → Nat → Nat → VR} {p s u dp : Nat} (h : kd ch p = 84) : stV ch t V p s u dp = (0, u, dp) := by unfold stV; rw [if_neg (by omega), if_pos h]
theorem stV_33 {ch : Nat → Nat} {t : List Nat} {V : Nat → Nat → Nat → Nat → VR} {p s u dp : Nat} (h : kd ch p = 33) : stV ch t V p s u dp = if s = 0 then V (ch1 ch p) s u dp else (4, u, dp) := by unfold stV; rw [if_neg (by omega), if_neg (by omega), if_pos h]
theorem stV_42 {ch : Nat → Nat} {t : List Nat} {V : Nat → Nat → Nat → Nat → VR} {p s u dp : Nat} (h : kd ch p = 42) : stV ch t V p s u dp = if t.length ≤ u then (2, u, dp) else if 200 ≤ t.getD u 0 ∧ (t.getD u 0 - 200) &&& s = t.getD u 0 - 200 then sq (V (ch1 ch p) (t.getD u 0 - 200) (u + 1) dp) (fun u' dp' => V (ch2 ch p) (s ^^^ (t.getD u 0 - 200)) u' dp') else (3, u, dp) := by unfold stV; rw [if_neg (by omega), if_neg (by omega), if_neg (by omega), if_pos h]
theorem stV_38 {ch : Nat → Nat} {t : List Nat} {V : Nat → Nat → Nat → Nat → VR} {p s u dp : Nat} (h : kd ch p = 38) : stV ch t V p s u dp = sq (V (ch1 ch p) s u dp) (fun u dp => V (ch2 ch p) s u dp) := by unfold stV; rw [if_neg (by omega), if_neg (by omega), if_neg (by omega), if_neg (by omega), if_pos h]
theorem stV_43 {ch : Nat → Nat} {t : List Nat} {V : Nat → Nat → Nat → Nat → VR} {p s u dp : Nat} (h : kd ch p = 43) : stV ch t V p s u dp = if t.length ≤ u then (2, u, dp) else if t.getD u 0 = 300 then V (ch1 ch p) s (u + 1) dp else if t.getD u 0 = 301 then V (ch2 ch p) s (u + 1) dp else (3, u, dp) := by unfold stV; rw [if_neg (by omega), if_neg (by omega), if_neg (by omega), if_neg (by omega), if_neg (by omega), if_pos h]
theorem stV_91 {ch : Nat → Nat} {t : List Nat} {V : Nat → Nat → Nat → Nat → VR} {p s u dp : Nat} (h : kd ch p = 91) : stV ch t V p s u dp = if s.testBit (ln ch p) = true then (5, u, dp) else V (ch1 ch p) (s ||| 2 ^ ln ch p) u dp := by unfold stV; rw [if_neg (by omega), if_neg (by omega), if_neg (by omega), if_neg (by omega), if_neg (by omega), if_neg (by omega), if_pos h]
def vok (t : List Nat) (a : VR) : Prop := a.2.1 ≤ t.length ∧ a.2.2 ≤ 12 ∧ a.1 ≤ 5
theorem sq_ok {t : List Nat} {a : VR} {f : Nat → Nat → VR} (h : vok t a) (hf : ∀ u dp, u ≤ t.length → dp ≤ 12 → vok t (f u dp)) : vok t (sq a f) := by
  unfold sq
  split
  · exact hf _ _ h.1 h.2.1
  · exact h
theorem vAt_ok {ch : Nat → Nat} {t : List Nat} {K : Nat → Nat → VR} {cc s u dp x : Nat} (hK : ∀ p r, vok t (K p r)) (hu : u < t.length) (hd : dp ≤ 12) : vok t (vAt ch K cc s u dp x) := by
  have h3 : vok t (3, u, dp) := ⟨Nat.le_of_lt hu, hd, show 3 ≤ 5 by omega⟩
  unfold vAt
  cases offD x with
  | none => exact h3
  | some o =>
    show vok t (if x % 10 < 3 then _ else _)
    split
    · unfold vAtF
      cases afU o s with
      | none => exact h3
      | some r =>
        show vok t (match fp ch o (x % 10) with
          | none => (3, u, dp)
          | some q => if ch q = cc then (if ch (q + 1) = 60 then K (q + 2) r else if r = 0 then (0, u + 1, dp) else (4, u + 1, dp)) else (3, u, dp))
        cases fp ch o (x % 10) with
        | none => exact h3
        | some q =>
          show vok t (if ch q = cc then (if ch (q + 1) = 60 then K (q + 2) r else if r = 0 then (0, u + 1, dp) else (4, u + 1, dp)) else (3, u, dp))
          split
          · split
            · exact hK _ _
            · split
              · exact ⟨hu, hd, show 0 ≤ 5 by omega⟩
              · exact ⟨hu, hd, show 4 ≤ 5 by omega⟩
          · exact h3
    · exact h3
theorem vis_ok {ch : Nat → Nat} {t : List Nat} : ∀ {r p s u dp : Nat}, u ≤ t.length → dp ≤ 12 → vok t (vis ch t r p s u dp) := by
  intro r
  induction r with
  | zero => intro p s u dp hu hd; exact ⟨hu, hd, show 1 ≤ 5 by omega⟩
  | succ r ih =>
    intro p s u dp hu hd
    show vok t (stV ch t (vis ch t r) p s u (max dp (12 - r)))
    have hd' : max dp (12 - r) ≤ 12 := by omega
    generalize max dp (12 - r) = dp at *
    unfold stV
    split
    · split
      · exact ⟨hu, hd', show 0 ≤ 5 by omega⟩
      · exact ⟨hu, hd', show 4 ≤ 5 by omega⟩
    split
    · exact ⟨hu, hd', show 0 ≤ 5 by omega⟩
    split
    · split
      · exact ih hu hd'
      · exact ⟨hu, hd', show 4 ≤ 5 by omega⟩
    split
    · split
      · exact ⟨hu, hd', show 2 ≤ 5 by omega⟩
      · split
        · exact sq_ok (ih (by omega) hd') (fun u dp h1 h2 => ih h1 h2)
        · exact ⟨hu, hd', show 3 ≤ 5 by omega⟩
    split
    · exact sq_ok (ih hu hd') (fun u dp h1 h2 => ih h1 h2)
    split
    · split
      · exact ⟨hu, hd', show 2 ≤ 5 by omega⟩
      · split
        · exact ih (by omega) hd'
        · split
          · exact ih (by omega) hd'
          · exact ⟨hu, hd', show 3 ≤ 5 by omega⟩
    split
    · split
      · exact ⟨hu, hd', show 5 ≤ 5 by omega⟩
      · exact ih hu hd'
    · split
      · exact ⟨hu, hd', show 2 ≤ 5 by omega⟩
      · exact vAt_ok (fun p r => ih (by omega) hd') (by omega) hd'
