/-! say, wipe, count -/
section
variable {ch sl : Nat → Nat} {t : List Nat} {f : Int} {s0 s1 : Option TS} {S : Nat} {σ : St}
def yCh (ch sl : Nat → Nat) (z : Nat) : Nat → Nat := fun i => if i = 640 + sl 10 then z else ch i
def ySl (sl : Nat → Nat) : Nat → Nat := fun s => if s = 10 then sl 10 + 1 else sl s
theorem Txt.say (h : Txt ch sl) {z : Nat} (h1 : 33 ≤ z) (h2 : z ≤ 126) (h3 : sl 10 < 60) : Txt (yCh ch sl z) (ySl sl) := by
  refine ⟨fun s hs => ?_, fun i => ?_⟩
  · by_cases c : s = 10
    · subst c
      have e : ySl sl 10 = sl 10 + 1 := by unfold ySl; rw [if_pos rfl]
      have hb := h.1 10 (by omega)
      rw [e]
      refine ⟨by omega, fun i hi => ?_, fun i q1 q2 => ?_⟩
      · unfold yCh
        by_cases ci : 64 * 10 + i = 640 + sl 10
        · rw [if_pos ci]; exact h1
        · rw [if_neg ci]; exact hb.2.1 i (by omega)
      · unfold yCh
        rw [if_neg (by omega)]
        exact hb.2.2 i (by omega) q2
    · have e : ySl sl s = sl s := by unfold ySl; rw [if_neg c]
      have hb := h.1 s hs
      have hy : ∀ i, i < 64 → yCh ch sl z (64 * s + i) = ch (64 * s + i) := fun i hi => by unfold yCh; rw [if_neg (by omega)]
      rw [e]
      exact ⟨hb.1, fun i hi => by rw [hy i (by omega)]; exact hb.2.1 i hi, fun i q1 q2 => by rw [hy i q2]; exact hb.2.2 i q1 q2⟩
  · unfold yCh
    split
    · exact h2
    · exact h.2 i
theorem wCh_say (z : Nat) (h3 : sl 10 < 60) : wCh (yCh ch sl z) = wCh ch := by
  funext i
  unfold wCh yCh
  by_cases c : 640 ≤ i ∧ i < 704
  · rw [if_pos c, if_pos c]
  · rw [if_neg c, if_neg c, if_neg (by omega)]
theorem wSl_say : wSl (ySl sl) = wSl sl := by
  funext i
  unfold wSl ySl
  by_cases c : i = 10
  · rw [if_pos c, if_pos c]
  · rw [if_neg c, if_neg c, if_neg c]
theorem say_win (z : Nat) : ∀ s, s < 10 → ySl sl s = sl s ∧ ∀ i, i < 64 → yCh ch sl z (64 * s + i) = ch (64 * s + i) := fun s hs => ⟨by unfold ySl; rw [if_neg (by omega)], fun i hi => by unfold yCh; rw [if_neg (by omega)]⟩
/-! count -/
def svN (s0 s1 : Option TS) : Nat := (if s0.isSome = true then 1 else 0) + (if s1.isSome = true then 2 else 0)
theorem SvC.at {k st arr : Nat} {o : Option TS} (h : SvC k st arr o σ) : sP σ 6 k = if o.isSome = true then some st else none := by
  cases o with
  | none => exact h
  | some x => exact h.1
theorem q_saved (hs : SS σ) (h : SvS s0 s1 σ) : s_X10_savedPlaces 1 σ = some (I (svN s0 s1 : Nat), σ) := by
  obtain ⟨a, b, c, d, h0, h1, _⟩ := h
  have e0 := h0.at
  have e1 := h1.at
  have lps : ∀ (n : Nat) (x y : Int32), s_X10_savedPlaces_4 (n + 1) 1 x y σ = sb_X10_savedPlaces_4 (s_X10_savedPlaces_4 n) 1 x y σ := fun _ _ _ => rfl
  have h01 : inR (0 : Int32) 2 = true := by decide
  have h11 : inR (0 + 1 : Int32) 2 = true := by decide
  unfold s_X10_savedPlaces svN
  rw [show (16000 : Nat) = 15997 + 1 + 1 + 1 from rfl, lps]
  unfold sb_X10_savedPlaces_4
  rw [if_neg (by decide), if_pos (hs.o 10 1 (by decide)), hs.p 1 2 6 (by decide), op_eq, if_pos (hs.o 17 6 (by decide)), hs.len 6 2 (by decide), if_pos h01, show ((0 : Int32).toNatClampNeg) = 0 from rfl, e0]
  have fin : ∀ (x : Int32), s_X10_savedPlaces_4 (15997 + 1 + 1) 1 x (0 + 1) σ = some (if s1.isSome = true then x ||| 2 else x, σ) := by
    intro x
    rw [lps]
    unfold sb_X10_savedPlaces_4
    rw [if_neg (by decide), if_pos (hs.o 10 1 (by decide)), hs.p 1 2 6 (by decide), op_eq, if_pos (hs.o 17 6 (by decide)), hs.len 6 2 (by decide), if_pos h11, show ((0 + 1 : Int32).toNatClampNeg) = 1 from rfl, e1]
    cases s1 with
    | none =>
      show on none _ _ = _
      rw [on_none, lt_eq, lps]
      unfold sb_X10_savedPlaces_4
      rw [if_pos (by decide)]
      rfl
    | some y =>
      show on (some c) _ _ = _
      rw [on_some', lt_eq, lt_eq, lps]
      unfold sb_X10_savedPlaces_4
      rw [if_pos (by decide)]
      rfl
  cases s0 with
  | none =>
    show on none _ _ = _
    rw [on_none, lt_eq, fin]
    cases s1 with
    | none => rfl
    | some y2 => exact congrArg (fun q : Int32 => some (q, σ)) (show ((0 : Int32) ||| 2) = I ((0 + 2 : Nat) : Int) by decide)
  | some y =>
    show on (some a) _ _ = _
    rw [on_some', lt_eq, lt_eq, fin]
    cases s1 with
    | none => exact congrArg (fun q : Int32 => some (q, σ)) (show ((0 : Int32) ||| (1 <<< ((0 : Int32) &&& 31))) = I ((1 + 0 : Nat) : Int) by decide)
    | some y2 => exact congrArg (fun q : Int32 => some (q, σ)) (show (((0 : Int32) ||| (1 <<< ((0 : Int32) &&& 31))) ||| 2) = I ((1 + 2 : Nat) : Int) by decide)
def cntA (ch sl : Nat → Nat) (n tl : Nat) (s0 s1 : Option TS) (z : Int) : Int32 :=
  if z = 0 then I (all5 sl : Nat) else if z = 1 then I (thr sl 6 4 : Nat) else if z = 2 then bI (decide (sl 0 ≠ 0)) else if z = 3 then I (tot (nN ch sl) 99 10 : Nat) else if z = 4 then I (tot (lL ch sl) 99 10 : Nat) else if z = 5 then I (n : Nat) else if z = 6 then I (tl : Nat) else if z = 7 then I (svN s0 s1 : Nat) else I (-2)
theorem lit_if {β : Type} {z : Int} (hz : -2147483648 ≤ z ∧ z < 2147483648) (n : Int) (hn : 0 ≤ n ∧ n < 100) (x y : β) : (if I z = I n then x else y) = if z = n then x else y := by
  by_cases c : z = n
  · rw [if_pos (by rw [c]), if_pos c]
  · rw [if_neg (by rw [I_eq hz (by omega)]; exact c), if_neg c]
end
