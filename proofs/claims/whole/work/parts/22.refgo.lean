def LPr (s m p : Nat) (σ : St) : Option (Int32 × St) := s_X11_read_36 m 30 (I (s : Nat)) (I (p : Nat)) σ
def Go (s : Nat) (σ : St) (p : Nat) (σ' : St) (q : Nat) : Prop := p ≤ q ∧ ∀ m, LPr s (m + (q - p)) p σ = LPr s m q σ'
theorem Go.trans {s p q r : Nat} {σ σ1 σ2 : St} (h1 : Go s σ p σ1 q) (h2 : Go s σ1 q σ2 r) : Go s σ p σ2 r :=
  ⟨Nat.le_trans h1.1 h2.1, fun m => by
    have e := h1.2 (m + (r - q))
    rw [h2.2 m, show m + (r - q) + (q - p) = m + (r - p) by have := h1.1; have := h2.1; omega] at e
    exact e⟩
def mF : Nat → Nat → Prop := fun a k => (a = 30 ∧ (k = 5 ∨ k = 6 ∨ k = 10 ∨ k = 18 ∨ k = 19)) ∨ (34 ≤ a ∧ a ≤ 43)
def Stop (s n : Nat) (σ : St) (p f : Nat) : Prop := ∃ σ', (∀ m, LPr s (m + (n - p) + 1) p σ = some (I (f : Nat), σ')) ∧ Fr mF σ σ'
theorem Go.stop {s n p q f : Nat} {σ σ1 : St} (h1 : Go s σ p σ1 q) (hq : q ≤ n) (hf : Fr mF σ σ1) (h2 : Stop s n σ1 q f) : Stop s n σ p f := by
  obtain ⟨σ', h3, h4⟩ := h2
  refine ⟨σ', fun m => ?_, hf.trans h4⟩
  have e := h1.2 (m + (n - q) + 1)
  rw [h3 m, show m + (n - q) + 1 + (q - p) = m + (n - p) + 1 by have := h1.1; omega] at e
  exact e
theorem go1 {ch : Nat → Nat} {s n p : Nat} {σ σ' : St} (h : RM ch s n σ) (hp : p < n) (hr : s_X11_reads 30 (I (ch (64 * s + p) : Nat)) σ = some (1, σ')) : Go s σ p σ' (p + 1) :=
  ⟨Nat.le_succ p, fun m => by
    rw [show m + (p + 1 - p) = m + 1 by omega]
    unfold LPr
    rw [rd_step h hp, hr, bd_eq, if_neg (by decide)]⟩
/-- the loop at the end of a text, which is not whole there -/
theorem rd_end {ch : Nat → Nat} {s n m nx : Nat} {σ : St} {wt : Nat} (h : RM ch s n σ) (hnx : sI σ 30 19 = I (nx : Nat)) (hn6 : nx ≤ 6) {sp : Nat} (hsp : sI σ 30 18 = I (sp : Nat)) (h1 : 1 ≤ sp) (h2 : sp ≤ 128) (hw : sI σ 40 (sp - 1) = I (wt : Nat)) (hwt : wt ≤ 6) :
    LPr s (m + 1) n σ = some (I (if nx = 6 ∨ ((nx = 4 ∨ nx = 5) ∧ wt = 5) then -6 else (n : Int)), σ) := by
  obtain ⟨hs, a2, a3, a4, a5, a6, a7⟩ := h
  show sb_X11_read_36 (s_X11_read_36 m) 30 (I (s : Nat)) (I (n : Nat)) σ = _
  unfold sb_X11_read_36
  rw [if_pos (hs.o 11 30 (by decide)), hs.p 30 1 32 (by decide), op_eq, if_pos (hs.o 13 32 (by decide)), hs.len 32 11 (by decide), if_pos (inN (show s < 11 by omega) (by omega)), tNI (by omega), a4, if_pos (by rw [I_le (by omega) (by omega)]; omega), hnx]
  have e0 : ∀ x n : Nat, n < 10 → x ≤ 6 → ((I (x : Nat) = (OfNat.ofNat n : Int32)) ↔ x = n) := fun x n hn hx => by
    rw [I_lit, show (OfNat.ofNat n : Int) = (n : Int) from rfl, I_eq (by omega) (by omega)]
    omega
  have p0 : s_X11_read_117 30 (I (s : Nat)) 0 σ = some (I (n : Nat), σ) := by
    unfold s_X11_read_117
    rw [if_pos rfl, if_pos (hs.o 11 30 (by decide)), hs.p 30 1 32 (by decide), op_eq, if_pos (hs.o 13 32 (by decide)), hs.len 32 11 (by decide), if_pos (inN (show s < 11 by omega) (by omega)), tNI (by omega), a4]
  have p1 : s_X11_read_117 30 (I (s : Nat)) 1 σ = some (I (-6), σ) := rfl
  have p2 : s_X11_read_97 30 (I (s : Nat)) σ = some (I (if wt = 5 then -6 else (n : Int)), σ) := by
    unfold s_X11_read_97
    rw [if_pos (hs.o 11 30 (by decide)), hs.p 30 14 40 (by decide), op_eq, if_pos (hs.o 13 40 (by decide)), hs.len 40 128 (by decide), hsp, I_m1 h1, if_pos (inN (show sp - 1 < 128 by omega) (by omega)), tNI (by omega), hw]
    by_cases c : wt = 5
    · rw [if_pos ((e0 wt 5 (by omega) hwt).mpr c), if_pos c]; exact p1
    · rw [if_neg (fun q => c ((e0 wt 5 (by omega) hwt).mp q)), if_neg c]; exact p0
  by_cases c6 : nx = 6
  · rw [if_pos ((e0 nx 6 (by omega) hn6).mpr c6), if_pos (Or.inl c6)]; exact p1
  rw [if_neg (fun q => c6 ((e0 nx 6 (by omega) hn6).mp q))]
  by_cases c4 : nx = 4
  · rw [if_pos ((e0 nx 4 (by omega) hn6).mpr c4), p2]
    by_cases c : wt = 5
    · rw [if_pos c, if_pos (by omega)]
    · rw [if_neg c, if_neg (by omega)]
  rw [if_neg (fun q => c4 ((e0 nx 4 (by omega) hn6).mp q))]
  by_cases c5 : nx = 5
  · rw [if_pos ((e0 nx 5 (by omega) hn6).mpr c5), p2]
    by_cases c : wt = 5
    · rw [if_pos c, if_pos (by omega)]
    · rw [if_neg c, if_neg (by omega)]
  rw [if_neg (fun q => c5 ((e0 nx 5 (by omega) hn6).mp q)), if_neg (by omega)]
  exact p0
/-- a sign that is refused, or the end of the text in its place -/
theorem stopAt {ch : Nat → Nat} {s n p nx sp wt : Nat} {σ : St} (h : RM ch s n σ) (hp : p ≤ n) (hr : p < n → s_X11_reads 30 (I (ch (64 * s + p) : Nat)) σ = some (0, σ)) (hnx : sI σ 30 19 = I (nx : Nat)) (hsp : sI σ 30 18 = I (sp : Nat)) (h1 : 1 ≤ sp) (h2 : sp ≤ 128) (hw : sI σ 40 (sp - 1) = I (wt : Nat)) (hwt : wt ≤ 6)
    (hn : nx ≤ 5 ∧ (nx = 4 ∨ nx = 5 → wt ≠ 5)) : Stop s n σ p p := by
  refine ⟨σ, fun m => ?_, Fr.refl σ⟩
  by_cases hpn : p < n
  · rw [show m + (n - p) + 1 = (m + (n - p)) + 1 by omega]
    unfold LPr
    rw [rd_step h hpn, hr hpn, bd_eq, if_pos rfl]
  · obtain rfl : p = n := by omega
    rw [show m + (p - p) + 1 = m + 1 by omega, rd_end h hnx (by omega) hsp h1 h2 hw hwt, if_neg (by omega)]
/-- reads, by what is expected -/
theorem nx_eq {nx : Nat} (n : Nat) (hn : n < 10) (hx : nx ≤ 6) : (I (nx : Nat) = (OfNat.ofNat n : Int32)) ↔ nx = n := by
  rw [I_lit, show (OfNat.ofNat n : Int) = (n : Int) from rfl, I_eq (by omega) (by omega)]
  omega
theorem rds {σ : St} (hs : SS σ) {nx : Nat} (h : sI σ 30 19 = I (nx : Nat)) (hx : nx ≤ 6) (c : Int32) : s_X11_reads 30 c σ =
    if nx = 0 then (bd (s_X11_readGoal 30 c σ) fun r σ' => if zok r = true then some (r, σ') else none)
    else if nx = 1 then (bd (s_X11_readSign 30 c σ) fun r σ' => if zok r = true then some (r, σ') else none)
    else if nx = 2 then (if c = 41 then (bd (s_X11_complete 30 (setI σ 30 18 ((sI σ 30 18) - 1))) fun _ σ' => some (1, σ')) else some (0, σ))
    else if nx = 3 then (bd (s_X11_readHead 30 c σ) fun r σ' => if zok r = true then some (r, σ') else none)
    else if nx = 4 ∨ nx = 5 then (bd (s_X11_readBehind 30 c σ) fun r σ' => if zok r = true then some (r, σ') else none) else some (0, σ) := by
  unfold s_X11_reads
  rw [if_pos (hs.o 11 30 (by decide)), lt_eq, h]
  by_cases c0 : nx = 0
  · rw [if_pos ((nx_eq 0 (by omega) hx).mpr c0), if_pos c0]
  rw [if_neg (fun q => c0 ((nx_eq 0 (by omega) hx).mp q)), if_neg c0]
  by_cases c1 : nx = 1
  · rw [if_pos ((nx_eq 1 (by omega) hx).mpr c1), if_pos c1]
  rw [if_neg (fun q => c1 ((nx_eq 1 (by omega) hx).mp q)), if_neg c1]
  by_cases c2 : nx = 2
  · rw [if_pos ((nx_eq 2 (by omega) hx).mpr c2), if_pos c2]; rfl
  rw [if_neg (fun q => c2 ((nx_eq 2 (by omega) hx).mp q)), if_neg c2]
  by_cases c3 : nx = 3
  · rw [if_pos ((nx_eq 3 (by omega) hx).mpr c3), if_pos c3]
  rw [if_neg (fun q => c3 ((nx_eq 3 (by omega) hx).mp q)), if_neg c3]
  by_cases c4 : nx = 4
  · rw [if_pos ((nx_eq 4 (by omega) hx).mpr c4), if_pos (Or.inl c4)]
  rw [if_neg (fun q => c4 ((nx_eq 4 (by omega) hx).mp q))]
  by_cases c5 : nx = 5
  · rw [if_pos ((nx_eq 5 (by omega) hx).mpr c5), if_pos (Or.inr c5)]
  rw [if_neg (fun q => c5 ((nx_eq 5 (by omega) hx).mp q)), if_neg (by omega)]
