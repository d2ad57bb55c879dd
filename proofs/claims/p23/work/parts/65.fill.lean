/-! a row of the class is filled -/
def rwN (c h : Nat) : Nat := (h * 60 + c) * 4
theorem q_row {c h : Nat} (hc : c < 60) (hh : h < 100) (σ : St) : s_X4_rowOf (I (c : Nat)) (I (h : Nat)) σ = some (I (rwN c h : Nat), σ) := by
  rw [q_rowOf c h (by omega) (by omega), if_pos (by omega)]
  rfl
theorem rowOf_ex (x y : Int32) (σ : St) : ∃ v, s_X4_rowOf x y σ = some (v, σ) := by
  unfold s_X4_rowOf
  by_cases c : x < 0
  · rw [if_pos c]; exact ⟨_, rfl⟩
  · rw [if_neg c]
    by_cases c2 : (60 : Int32) ≤ x
    · rw [if_pos c2]; exact ⟨_, rfl⟩
    · rw [if_neg c2]; exact ⟨_, rfl⟩
/-- the rows of a height say what a level says -/
def RS (κ : Nat → Nat) (N h : Nat) (B : Nat → Nat → Bool) (σ : St) : Prop := ∀ c s, c < N → s < 256 → rb σ (rwN c h) s = B (κ c) s
theorem RS.fx {κ : Nat → Nat} {N h : Nat} {B : Nat → Nat → Bool} {σ σ' : St} {CI CL : Nat → Nat → Prop} (hr : RS κ N h B σ) (hf : FX CI CL σ σ') (hc : ∀ c k, c < N → rwN c h ≤ k → k < rwN c h + 4 → ¬ CL 20 k) : RS κ N h B σ' :=
  fun c s h1 h2 => by rw [hf.rb (fun k a b => hc c k h1 a b) h2]; exact hr c s h1 h2
theorem RS.up {κ : Nat → Nat} {N h c0 : Nat} {B : Nat → Nat → Bool} {σ σ' : St} (hN : N ≤ 60) (hr : RS κ N h B σ) (hf : FX noC (rwL (rwN c0 (h + 1))) σ σ') : RS κ N h B σ' :=
  hr.fx hf (fun c k h1 h2 h3 => by unfold rwL rwN at *; omega)
theorem dis_bit {n u : Nat} : decide (2 ^ n &&& u = 0) = !(u.testBit n) := by
  cases e : u.testBit n with
  | true =>
    refine decide_eq_false (fun q => ?_)
    have h1 := bit_sub e
    rw [h1] at q
    have := Nat.two_pow_pos n
    omega
  | false =>
    refine decide_eq_true ?_
    apply Nat.eq_of_testBit_eq
    intro i
    rw [Nat.testBit_and, Nat.testBit_two_pow, Nat.zero_testBit]
    by_cases e2 : n = i
    · rw [← e2, e, Bool.and_false]
    · rw [decide_eq_false e2, Bool.false_and]
theorem sub_bit {n u : Nat} : decide (2 ^ n &&& u = 2 ^ n) = u.testBit n := by
  cases e : u.testBit n with
  | true => exact decide_eq_true (bit_sub e)
  | false =>
    refine decide_eq_false (fun q => ?_)
    have h1 : (2 ^ n &&& u).testBit n = (2 ^ n).testBit n := by rw [q]
    rw [Nat.testBit_and, e, Nat.testBit_two_pow_self] at h1
    cases h1
theorem xor0 {a b : Nat} : a ^^^ b = 0 ↔ a = b := by
  constructor
  · intro h
    have : a ^^^ b ^^^ b = 0 ^^^ b := by rw [h]
    rw [Nat.xor_assoc, Nat.xor_self, Nat.xor_zero, Nat.zero_xor] at this
    exact this
  · intro h; rw [h, Nat.xor_self]
def ownO (o : Nat) : Nat := if o < 8 then 2 ^ o else 0
theorem ownO_lt {o : Nat} : ownO o < 256 := by
  unfold ownO
  split
  · exact pow8 (by omega)
  · omega
/-- what one face adds -/
theorem tol_3 {ch : Nat → Nat} {B : Nat → Nat → Bool} {cc u o f : Nat} (hf : f < 3) : tol ch B cc u (3 * o + f) = (match afU o u with
    | none => false
    | some r => tolR ch B cc o f r) := by
  unfold tol
  rw [show (3 * o + f) / 3 = o by omega, show (3 * o + f) % 3 = f by omega]
  rfl
theorem tol_no {ch : Nat → Nat} {B : Nat → Nat → Bool} {cc u o f : Nat} (hf : f < 3) (h : hdIs ch o f cc = false) : tol ch B cc u (3 * o + f) = false := by
  rw [tol_3 hf]
  cases afU o u with
  | none => rfl
  | some r =>
    show tolR ch B cc o f r = false
    unfold tolR
    unfold hdIs at h
    cases e : fp ch o f with
    | none => rfl
    | some q =>
      rw [e] at h
      show (decide (ch q = cc) && _) = false
      rw [show decide (ch q = cc) = false from h, Bool.false_and]
theorem hdIs_some {ch : Nat → Nat} {o f cc : Nat} (h : hdIs ch o f cc = true) : ∃ q, fp ch o f = some q ∧ ch q = cc := by
  unfold hdIs at h
  cases e : fp ch o f with
  | none => rw [e] at h; cases h
  | some q => rw [e] at h; exact ⟨q, rfl, of_decide_eq_true h⟩
theorem tol_body {ch : Nat → Nat} {B : Nat → Nat → Bool} {cc u o f q : Nat} (hf : f < 3) (e : fp ch o f = some q) (hq : ch q = cc) (h6 : ch (q + 1) = 60) : tol ch B cc u (3 * o + f) = mvF (B (q + 2)) (ownO o) u := by
  rw [tol_3 hf]
  unfold mvF ownO afU
  by_cases c : 8 ≤ o
  · rw [if_pos c, if_neg (by omega), Nat.zero_and, decide_eq_true rfl, Nat.xor_zero, Bool.true_and]
    show tolR ch B cc o f u = _
    unfold tolR
    rw [e]
    show (decide (ch q = cc) && _) = _
    rw [decide_eq_true hq, if_pos h6, Bool.true_and]
  · rw [if_neg c, if_pos (show o < 8 by omega), sub_bit]
    cases cb : u.testBit o with
    | false => rfl
    | true =>
      rw [if_pos rfl]
      show tolR ch B cc o f _ = _
      unfold tolR
      rw [e]
      show (decide (ch q = cc) && _) = _
      rw [decide_eq_true hq, if_pos h6]
theorem tol_bare {ch : Nat → Nat} {B : Nat → Nat → Bool} {cc u o f q : Nat} (hf : f < 3) (e : fp ch o f = some q) (hq : ch q = cc) (h6 : ¬ ch (q + 1) = 60) : tol ch B cc u (3 * o + f) = decide (u = ownO o) := by
  rw [tol_3 hf]
  unfold ownO afU
  by_cases c : 8 ≤ o
  · rw [if_pos c, if_neg (by omega)]
    show tolR ch B cc o f u = _
    unfold tolR
    rw [e]
    show (decide (ch q = cc) && _) = _
    rw [decide_eq_true hq, if_neg h6, Bool.true_and]
  · rw [if_neg c, if_pos (show o < 8 by omega)]
    cases cb : u.testBit o with
    | false =>
      show false = _
      refine (decide_eq_false (fun q => ?_)).symm
      rw [q, Nat.testBit_two_pow_self] at cb
      cases cb
    | true =>
      rw [if_pos rfl]
      show tolR ch B cc o f _ = _
      unfold tolR
      rw [e]
      show (decide (ch q = cc) && _) = _
      rw [decide_eq_true hq, if_neg h6, Bool.true_and]
      by_cases c2 : u = 2 ^ o
      · rw [decide_eq_true c2, decide_eq_true (xor0.2 c2)]
      · rw [decide_eq_false c2, decide_eq_false (fun q => c2 (xor0.1 q))]
theorem lp_at30 (k3 : Nat → Int32 → Int32 → Int32 → Int32 → St → Option (Unit × St)) (n a : Nat) (b c d e f g : Int32) (σ : St) : s_X4_addAtom_30 k3 (n + 1) a b c d e f g σ = sb_X4_addAtom_30 k3 (s_X4_addAtom_30 k3 n) a b c d e f g σ := rfl
theorem lp_at3 (n a : Nat) (b c d e : Int32) (σ : St) : s_X4_addAtom_3 (n + 1) a b c d e σ = sb_X4_addAtom_3 (s_X4_addAtom_3 n) a b c d e σ := rfl
theorem rwN_le {c h : Nat} (hc : c < 60) (hh : h ≤ 10) : rwN c h + 4 ≤ 2640 := by unfold rwN; omega
theorem mvF_cg {f g : Nat → Bool} {a u : Nat} (ha : a < 256) (hu : u < 256) (h : ∀ s, s < 256 → f s = g s) : mvF f a u = mvF g a u := by
  unfold mvF
  rw [h _ (xor_lt hu ha)]
theorem at30 {ch κ : Nat → Nat} {N h c0 cc : Nat} {B : Nat → Nat → Bool} (hh : h ≤ 9) (hc0 : c0 < 60) (hcc : isAt cc = true) (k3 : Nat → Int32 → Int32 → Int32 → Int32 → St → Option (Unit × St)) {o : Nat} (ho : o < 12) : ∀ (j f m : Nat) (σ : St), f + j = 3 → PG ch κ N σ → Apt σ → RS κ N h B σ →
    (∀ u, u < 256 → rb σ (rwN c0 (h + 1)) u = (fstN (tol ch B cc u) (3 * o + f) 0).isSome) →
    ∃ σ', s_X4_addAtom_30 k3 (m + j + 1) 19 (I (rwN c0 (h + 1) : Nat)) (I (cc : Nat)) (I ((h + 1 : Nat) : Int)) (I (o : Nat)) (I (ownO o : Nat)) (I (f : Nat)) σ = k3 19 (I (rwN c0 (h + 1) : Nat)) (I (cc : Nat)) (I ((h + 1 : Nat) : Int)) (I ((o + 1 : Nat) : Int)) σ' ∧ FX noC (rwL (rwN c0 (h + 1))) σ σ' ∧
      ∀ u, u < 256 → rb σ' (rwN c0 (h + 1)) u = (fstN (tol ch B cc u) (3 * (o + 1)) 0).isSome := by
  have hto := rwN_le hc0 (show h + 1 ≤ 10 by omega)
  intro j
  induction j with
  | zero =>
    intro f m σ hj hg hA hR hr
    obtain rfl : f = 3 := (by omega)
    refine ⟨σ, ?_, FX.refl σ, hr⟩
    rw [lp_at30]
    unfold sb_X4_addAtom_30
    rw [if_pos (by decide), I_p1, lt_eq]
  | succ j ih =>
    intro f m σ hj hg hA hR hr
    have hs := hg.1
    have hN := hg.2.1
    rw [lp_at30]
    unfold sb_X4_addAtom_30
    rw [if_neg (by rw [I_lit, I_le (by omega) (by omega)]; omega), if_pos (hs.o 4 19 (by decide)), hs.p 19 0 13 (by decide), op_eq, if_pos (hs.o 3 13 (by decide)), q_hasHead hg ho (by omega) hcc, bd_eq]
    by_cases c1 : hdIs ch o f cc = true
    · obtain ⟨q, e, hq⟩ := hdIs_some c1
      have hb := (hg.face ho (show f < 3 by omega) e).2
      rw [if_neg (by rw [bI0, c1]; decide), if_pos (hs.o 4 19 (by decide)), hs.p 19 0 13 (by decide), op_eq, if_pos (hs.o 3 13 (by decide)), q_body hg ho (by omega), bd_eq]
      by_cases h6 : ch (q + 1) = 60
      · rw [if_pos h6] at hb
        obtain ⟨c, b1, b2, b3⟩ := hb
        rw [b2, if_neg (by rw [show (-1 : Int32) = I (-1) from rfl, I_eq (by omega) (by omega)]; omega), I_m1 (by omega), show h + 1 - 1 = h by omega, q_row (by omega) (by omega), bd_eq, if_pos (hs.o 4 19 (by decide))]
        obtain ⟨σ1, a1, a2, a3⟩ := q_moved hto (rwN_le (show c < 60 by omega) (show h ≤ 10 by omega)) (by unfold rwN; omega) (ownO_lt (o := o)) hs hA
        rw [a1, bd_eq, I_p1, lt_eq]
        obtain ⟨σ2, b4, b5, b6⟩ := ih (f + 1) m σ1 (by omega) (hg.fx a2 (fun _ _ _ _ q => q)) (hA.fx a2 (fun k => by unfold rwL; omega)) (hR.up hN a2) (fun u hu => by
          rw [a3 u hu, hr u hu, show 3 * o + (f + 1) = (3 * o + f) + 1 by omega, fstN_snoc, Nat.zero_add, tol_body (by omega) e hq h6, mvF_cg ownO_lt hu (fun s hs2 => by rw [hR c s b1 hs2, b3])])
        exact ⟨σ2, b4, a2.trans b5, b6⟩
      · rw [if_neg h6] at hb
        rw [hb, if_pos (by decide), if_pos (hs.o 4 19 (by decide))]
        obtain ⟨σ1, a1, a2, a3⟩ := q_add1 hs hto (ownO_lt (o := o))
        rw [a1, bd_eq, I_p1, lt_eq]
        obtain ⟨σ2, b4, b5, b6⟩ := ih (f + 1) m σ1 (by omega) (hg.fx a2 (fun _ _ _ _ q => q)) (hA.fx a2 (fun k => by unfold rwL; omega)) (hR.up hN a2) (fun u hu => by
          rw [a3 u hu, hr u hu, show 3 * o + (f + 1) = (3 * o + f) + 1 by omega, fstN_snoc, Nat.zero_add, tol_bare (by omega) e hq h6])
        exact ⟨σ2, b4, a2.trans b5, b6⟩
    · have c1' := Bool.eq_false_iff.2 c1
      rw [if_pos (by rw [bI0]; exact c1'), I_p1, lt_eq]
      exact ih (f + 1) m σ (by omega) hg hA hR (fun u hu => by
        rw [hr u hu, show 3 * o + (f + 1) = (3 * o + f) + 1 by omega, fstN_snoc, Nat.zero_add, tol_no (by omega) c1', Bool.or_false])
theorem at3 {ch κ : Nat → Nat} {N h c0 cc : Nat} {B : Nat → Nat → Bool} (hh : h ≤ 9) (hc0 : c0 < 60) (hcc : isAt cc = true) : ∀ (j o m : Nat) (σ : St), o + j = 12 → PG ch κ N σ → Apt σ → RS κ N h B σ →
    (∀ u, u < 256 → rb σ (rwN c0 (h + 1)) u = (fstN (tol ch B cc u) (3 * o) 0).isSome) →
    ∃ σ', s_X4_addAtom_3 (m + j + 1) 19 (I (rwN c0 (h + 1) : Nat)) (I (cc : Nat)) (I ((h + 1 : Nat) : Int)) (I (o : Nat)) σ = some ((), σ') ∧ FX noC (rwL (rwN c0 (h + 1))) σ σ' ∧
      ∀ u, u < 256 → rb σ' (rwN c0 (h + 1)) u = (fstN (tol ch B cc u) 36 0).isSome := by
  intro j
  induction j with
  | zero =>
    intro o m σ hj hg hA hR hr
    obtain rfl : o = 12 := (by omega)
    refine ⟨σ, ?_, FX.refl σ, hr⟩
    rw [lp_at3]
    unfold sb_X4_addAtom_3
    rw [if_pos (by decide)]
  | succ j ih =>
    intro o m σ hj hg hA hR hr
    have hN := hg.2.1
    obtain ⟨σ1, a1, a2, a3⟩ := at30 (N := N) (B := B) hh hc0 hcc (s_X4_addAtom_3 (m + j + 1)) (show o < 12 by omega) 3 0 15996 σ rfl hg hA hR hr
    obtain ⟨σ2, b1, b2, b3⟩ := ih (o + 1) m σ1 (by omega) (hg.fx a2 (fun _ _ _ _ q => q)) (hA.fx a2 (fun k => by unfold rwL; omega)) (hR.up hN a2) a3
    refine ⟨σ2, ?_, a2.trans b2, b3⟩
    rw [lp_at3]
    unfold sb_X4_addAtom_3
    rw [if_neg (by rw [I_lit, I_le (by omega) (by omega)]; omega)]
    have a1' := a1.trans b1
    unfold ownO at a1'
    by_cases c8 : o < 8
    · rw [if_neg (by rw [I_lit, I_le (by omega) (by omega)]; omega), I_shl1 o (by omega), lt_eq]
      rw [if_pos c8] at a1'
      exact a1'
    · rw [if_pos (by rw [I_lit, I_le (by omega) (by omega)]; omega)]
      rw [if_neg c8] at a1'
      exact a1'
theorem q_addAtom {ch κ : Nat → Nat} {N h c0 cc : Nat} {B : Nat → Nat → Bool} (hh : h ≤ 9) (hc0 : c0 < 60) (hcc : isAt cc = true) {σ : St} (hg : PG ch κ N σ) (hA : Apt σ) (hR : RS κ N h B σ) (hr : ∀ u, u < 256 → rb σ (rwN c0 (h + 1)) u = false) :
    ∃ σ', s_X4_addAtom 19 (I (rwN c0 (h + 1) : Nat)) (I (cc : Nat)) (I ((h + 1 : Nat) : Int)) σ = some ((), σ') ∧ FX noC (rwL (rwN c0 (h + 1))) σ σ' ∧ ∀ u, u < 256 → rb σ' (rwN c0 (h + 1)) u = (fstN (tol ch B cc u) 36 0).isSome :=
  at3 hh hc0 hcc 12 0 15987 σ rfl hg hA hR (fun u hu => by rw [hr u hu]; rfl)
