/-! the small calls -/
theorem c_wipe {ch sl : Nat → Nat} {σ : St} (hs : SS σ) (hb : CB ch sl σ) : s_X10_wipe 1 σ = some (I (sl 10 : Nat), setI σ 2 1 (I (0 : Nat))) := by
  unfold s_X10_wipe s_X7_length s_X7_clear
  rw [if_pos (hs.o 10 1 (by decide)), hs.p 1 0 2 (by decide), op_eq, if_pos (hs.o 7 2 (by decide)), if_pos (hs.o 7 2 (by decide)), bd_eq, if_pos (hs.o 10 1 (by decide)), hs.p 1 0 2 (by decide), op_eq, if_pos (hs.o 7 2 (by decide)), if_pos (hs.o 7 2 (by decide)), lt_eq, bd_eq, hb.1]
  rfl
/-- the text is wiped -/
def wCh (ch : Nat → Nat) : Nat → Nat := fun i => if 640 ≤ i ∧ i < 704 then 0 else ch i
def wSl (sl : Nat → Nat) : Nat → Nat := fun s => if s = 10 then 0 else sl s
theorem wCh_s (ch : Nat → Nat) {s i : Nat} (hs : s < 10) (hi : i < 64) : wCh ch (64 * s + i) = ch (64 * s + i) := by
  unfold wCh
  rw [if_neg (by omega)]
theorem wSl_s (sl : Nat → Nat) {s : Nat} (hs : s < 10) : wSl sl s = sl s := by
  unfold wSl
  rw [if_neg (by omega)]
theorem Txt.wipe {ch sl : Nat → Nat} (h : Txt ch sl) : Txt (wCh ch) (wSl sl) := by
  refine ⟨fun s hs => ?_, fun i => ?_⟩
  · by_cases c2 : s = 10
    · subst c2
      have e : wSl sl 10 = 0 := by unfold wSl; rw [if_pos rfl]
      rw [e]
      refine ⟨by omega, fun i hi => by omega, fun i _ h2 => ?_⟩
      unfold wCh
      rw [if_pos (by omega)]
    · have this := h.1 s hs
      rw [wSl_s sl (by omega)]
      exact ⟨this.1, fun i hi => by rw [wCh_s ch (by omega) (by omega)]; exact this.2.1 i hi, fun i h1 h2 => by rw [wCh_s ch (by omega) h2]; exact this.2.2 i h1 h2⟩
  · unfold wCh
    split
    · omega
    · exact h.2 _
theorem c_say {ch sl : Nat → Nat} (ht : Txt ch sl) {σ : St} (hs : SS σ) (hb : CB ch sl σ) {z : Int} (hz : -2147483648 ≤ z ∧ z < 2147483648) : s_X10_say 1 (I z) σ = if 33 ≤ z ∧ z ≤ 126 then (if sl 10 = 60 then some (I (-4), σ) else some (I ((sl 10 + 1 : Nat) : Int), setI (setI σ 3 (sl 10) (I z)) 2 1 (I ((sl 10 + 1 : Nat) : Int)))) else some (I (-2), σ) := by
  have h60 := (ht.1 10 (by omega)).1
  unfold s_X10_say s_X7_append s_X7_length
  by_cases c1 : z < 33
  · rw [if_pos (by rw [I_lit, I_lt hz (by omega)]; exact c1), if_neg (by omega)]; rfl
  rw [if_neg (by rw [I_lit, I_lt hz (by omega)]; exact c1)]
  by_cases c2 : z ≤ 126
  · rw [if_pos (by rw [I_lit, I_le hz (by omega)]; exact c2), if_pos (show (33 : Int) ≤ z ∧ z ≤ 126 from ⟨by omega, c2⟩), if_pos (hs.o 10 1 (by decide)), hs.p 1 0 2 (by decide), op_eq, if_pos (hs.o 7 2 (by decide)), if_pos (hs.o 7 2 (by decide)), hb.1, if_neg (by rw [I_lit, I_lt (by omega) (by omega)]; omega), hs.p 2 0 3 (by decide), op_eq, if_pos (hs.o 12 3 (by decide)), hs.len 3 60 (by decide), I_nI]
    by_cases c3 : sl 10 = 60
    · rw [if_pos c3, if_neg (by rw [I_lt (by omega) (by omega)]; omega), bd_eq, if_pos rfl]; rfl
    · rw [if_neg c3, if_pos (by rw [I_lt (by omega) (by omega)]; omega), if_pos (inN (show sl 10 < 60 by omega) (by omega)), tNI (by omega), chN (by omega) (by omega), chN (by omega) (by omega), lt_eq, sIn (by omega), hb.1, I_p1, lt_eq, bd_eq, if_neg (by decide), if_pos (((hs.i 3 (sl 10) (I z)).i 2 1 (I ((sl 10 + 1 : Nat) : Int))).o 10 1 (by decide)),
        ((hs.i 3 (sl 10) (I z)).i 2 1 (I ((sl 10 + 1 : Nat) : Int))).p 1 0 2 (by decide), op_eq, if_pos (((hs.i 3 (sl 10) (I z)).i 2 1 (I ((sl 10 + 1 : Nat) : Int))).o 7 2 (by decide)), if_pos (((hs.i 3 (sl 10) (I z)).i 2 1 (I ((sl 10 + 1 : Nat) : Int))).o 7 2 (by decide)), bd_eq, sIe]
  · rw [if_neg (by rw [I_lit, I_le hz (by omega)]; exact c2), if_neg (by omega)]; rfl
