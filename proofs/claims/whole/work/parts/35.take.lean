/-! the reference takes a text -/
def bufR (ch : Nat → Nat) (g : Nat) : PR := if g = 1 then G64 ch 640 else poff (G64 ch) ch 640
def bufF (ch sl : Nat → Nat) (g : Nat) : Option Nat := if g = 1 then fG ch 10 (sl 10) else fO ch 10 (sl 10)
def free (sl : Nat → Nat) (a : Nat) : Nat → Option Nat
  | 0 => none
  | c + 1 => if sl a = 0 then some a else free sl (a + 1) c
def oI (o : Option Nat) : Int32 := match o with
  | none => I (-6)
  | some k => I (k : Nat)
theorem tk_read {ch sl : Nat → Nat} (ht : Txt ch sl) {σ : St} (hm : MT ch sl σ) {g : Nat} (hg : g ≤ 1) (hb : MB σ 0 0 0) :
    ∃ σ', s_X11_read 30 10 (if g = 0 then 0 else -6) σ = some (oI (bufF ch sl g), σ') ∧ Fr mF σ σ' ∧ (bufF ch sl g = none → MB σ' (bufR ch g).2.2.1 (bufR ch g).2.2.2 0) := by
  have hr := hm.rm10 ht
  unfold bufF bufR
  by_cases c : g = 1
  · subst c
    rw [if_pos rfl, if_pos rfl, if_neg (by omega)]
    cases hf : fG ch 10 (sl 10) with
    | none =>
      obtain ⟨σ1, a1, a2, a3, -⟩ := r_goal hr hb (by omega) hf (fun q => by omega)
      rw [Nat.zero_add, Nat.zero_add] at a3
      exact ⟨σ1, a1, Fr.up (w := 0) (x := 0) a2, fun _ => a3⟩
    | some f =>
      obtain ⟨σ1, a1, a2⟩ := r_goal_f hr hb hf
      exact ⟨σ1, a1, a2, fun q => by cases q⟩
  · obtain rfl : g = 0 := by omega
    rw [if_neg c, if_neg c, if_pos rfl]
    cases hf : fO ch 10 (sl 10) with
    | none =>
      obtain ⟨σ1, a1, a2, a3, -⟩ := r_off (o := 0) hr hb (by omega) hf (by omega) (fun q => by omega) (fun q => by omega)
      rw [Nat.zero_add, Nat.zero_add] at a3
      refine ⟨σ1, a1, a2.mono ?_, fun _ => a3⟩
      rintro a k (e | e)
      · exact mF_mC e
      · exact mF_hdO e
    | some f =>
      obtain ⟨σ1, a1, a2⟩ := r_off_f (o := 0) hr hb (by omega) hf
      exact ⟨σ1, a1, a2, fun q => by cases q⟩
/-- the text goes to its slot -/
def cpC (k n : Nat) : Nat → Nat → Prop := fun a i => (a = 31 ∧ 60 * k ≤ i ∧ i < 60 * k + n) ∨ (a = 32 ∧ (i = k ∨ i = 10))
theorem tk_copy {fr g k n : Nat} {own : Int32} (hk : k < 10) (hn : n ≤ 60) (hfk : fr ≤ k) (hg : g ≤ 1) : ∀ (j i m : Nat) {σ : St}, i + j = n → SS σ → sI σ 32 10 = I (n : Nat) → (∀ x, x < i → sI σ 31 (60 * k + x) = sI σ 31 (600 + x)) →
    ∃ σ', s_X11_take_155 (m + j + 1) 30 (I (fr : Nat)) (I (g : Nat)) (I (k : Nat)) own (I (i : Nat)) σ = some (if g = 0 then I ((k - fr : Nat) : Int) else own, σ') ∧ Fr (cpC k n) σ σ' ∧ sI σ' 32 k = I (n : Nat) ∧ sI σ' 32 10 = I (0 : Nat) ∧ ∀ x, x < n → sI σ' 31 (60 * k + x) = sI σ 31 (600 + x) := by
  intro j
  induction j with
  | zero =>
    intro i m σ hij hs h10 hx
    obtain rfl : i = n := (by omega)
    refine ⟨setI (setI σ 32 k (I (i : Nat))) 32 10 0, ?_, ((Fr.refl σ).put _ (Or.inr ⟨rfl, Or.inl rfl⟩)).put _ (Or.inr ⟨rfl, Or.inr rfl⟩), by rw [sIn (by omega), sIe], sIe, fun x hxi => by rw [sIn (by omega), sIn (by omega)]; exact hx x hxi⟩
    show sb_X11_take_155 (s_X11_take_155 (m + 0)) 30 (I (fr : Nat)) (I (g : Nat)) (I (k : Nat)) own (I (i : Nat)) σ = _
    unfold sb_X11_take_155
    have h11 : inR (10 : Int32) 11 = true := by decide
    have t10 : (10 : Int32).toNatClampNeg = 10 := by decide
    rw [if_pos (hs.o 11 30 (by decide)), hs.p 30 1 32 (by decide), op_eq, if_pos (hs.o 13 32 (by decide)), hs.len 32 11 (by decide), if_pos h11, t10, h10, if_pos (by rw [I_le (by omega) (by omega)]; omega), if_pos h11, if_pos (inN (show k < 11 by omega) (by omega)), tNI (by omega), lt_eq, (hs.i _ _ _).len 32 11 (by decide), if_pos h11, lt_eq]
    by_cases c : g = 0
    · subst c
      rw [if_pos (show I ((0 : Nat) : Int) = (0 : Int32) from rfl), if_pos rfl, I_sub, show ((k : Int) - (fr : Int)) = ((k - fr : Nat) : Int) by omega]
    · rw [if_neg (by rw [I_lit, I_eq (by omega) (by omega)]; omega), if_neg c]
  | succ j ih =>
    intro i m σ hij hs h10 hx
    have e6 : (600 : Int32) + I (i : Nat) = I ((600 + i : Nat) : Int) := by
      rw [I_lit, I_add]; congr 1
    have e60 : (60 : Int32) * I (k : Nat) + I (i : Nat) = I ((60 * k + i : Nat) : Int) := by
      rw [I_lit, I_mul, I_add]; congr 1
    obtain ⟨σ', a1, a2, a3, a4, a5⟩ := ih (i + 1) m (σ := setI σ 31 (60 * k + i) (sI σ 31 (600 + i))) (by omega) (hs.i _ _ _) (by rw [sIn (by omega)]; exact h10) (fun x hxi => by
      rw [sIn (k := 60 * k + i) (y := 600 + x) (by omega)]
      by_cases c : x = i
      · subst c; exact sIe
      · rw [sIn (by omega)]; exact hx x (by omega))
    refine ⟨σ', ?_, ((Fr.refl σ).put _ (Or.inl ⟨rfl, by omega, by omega⟩)).trans a2, a3, a4, fun x hxn => by rw [a5 x hxn, sIn (by omega)]⟩
    rw [← a1, show m + (j + 1) + 1 = (m + j + 1) + 1 by omega]
    show sb_X11_take_155 (s_X11_take_155 (m + j + 1)) 30 (I (fr : Nat)) (I (g : Nat)) (I (k : Nat)) own (I (i : Nat)) σ = _
    unfold sb_X11_take_155
    have h11 : inR (10 : Int32) 11 = true := by decide
    have t10 : (10 : Int32).toNatClampNeg = 10 := by decide
    rw [if_pos (hs.o 11 30 (by decide)), hs.p 30 1 32 (by decide), op_eq, if_pos (hs.o 13 32 (by decide)), hs.len 32 11 (by decide), if_pos h11, t10, h10, if_neg (by rw [I_le (by omega) (by omega)]; omega), hs.p 30 0 31 (by decide), op_eq, if_pos (hs.o 13 31 (by decide)), hs.len 31 660 (by decide), e6, if_pos (inN (show 600 + i < 660 by omega) (by omega)), e60, if_pos (inN (show 60 * k + i < 660 by omega) (by omega)), tNI (by omega), tNI (by omega), lt_eq, I_p1, lt_eq]
/-- the first slot that is free -/
theorem tk_free {ch sl : Nat → Nat} (htx : Txt ch sl) {fr to : Nat} (hto : to < 10) : ∀ (j m : Nat) {σ : St} {k : Nat}, k + 1 = fr + j → k ≤ to → 1 ≤ fr → MT ch sl σ →
    s_X11_take_59 (m + j) 30 (I (fr : Nat)) (I (0 : Nat)) (oI (free sl (k + 1) (to - k))) (I (k : Nat)) σ = s_X11_take_59 m 30 (I (fr : Nat)) (I (0 : Nat)) (oI (free sl fr (to + 1 - fr))) (I ((fr - 1 : Nat) : Int)) σ := by
  intro j
  induction j with
  | zero =>
    intro m σ k hk hkt hfr hm
    obtain rfl : k = fr - 1 := (by omega)
    rw [show fr - 1 + 1 = fr by omega, show to - (fr - 1) = to + 1 - fr by omega]
    rfl
  | succ j ih =>
    intro m σ k hk hkt hfr hm
    have e : free sl k (to - k + 1) = if sl k = 0 then some k else free sl (k + 1) (to - k) := rfl
    have hk1 : k - 1 + 1 = k := by omega
    have st : s_X11_take_59 (m + (j + 1)) 30 (I (fr : Nat)) (I (0 : Nat)) (oI (free sl (k + 1) (to - k))) (I (k : Nat)) σ = s_X11_take_59 (m + j) 30 (I (fr : Nat)) (I (0 : Nat)) (oI (free sl k (to - k + 1))) (I ((k - 1 : Nat) : Int)) σ := by
      show sb_X11_take_59 (s_X11_take_59 (m + j)) 30 (I (fr : Nat)) (I (0 : Nat)) (oI (free sl (k + 1) (to - k))) (I (k : Nat)) σ = _
      unfold sb_X11_take_59
      have h86 : ∀ t, s_X11_take_86 (s_X11_take_59 (m + j)) 30 (I (fr : Nat)) (I (0 : Nat)) (I (k : Nat)) t σ = s_X11_take_59 (m + j) 30 (I (fr : Nat)) (I (0 : Nat)) t (I ((k - 1 : Nat) : Int)) σ := fun t => by
        unfold s_X11_take_86
        rw [I_lit, I_neg, I_add, lt_eq, show ((k : Int) + -(OfNat.ofNat 1)) = ((k - 1 : Nat) : Int) by show (k : Int) + -1 = _; omega]
      rw [if_neg (by rw [I_lt (by omega) (by omega)]; omega), if_pos (show I ((0 : Nat) : Int) = (0 : Int32) from rfl), if_pos (hm.1.o 11 30 (by decide)), hm.1.p 30 1 32 (by decide), op_eq, if_pos (hm.1.o 13 32 (by decide)), hm.1.len 32 11 (by decide), if_pos (inN (show k < 11 by omega) (by omega)), tNI (by omega), hm.2.1 k (by omega), h86, h86, e]
      by_cases c0 : sl k = 0
      · rw [if_pos c0, if_pos c0, if_neg (by decide)]; rfl
      · have := (htx.1 k (by omega)).1
        rw [if_neg c0, if_neg c0, if_pos (by rw [I_lit, I_le (by omega) (by omega)]; omega)]
    rw [st]
    have := ih m (σ := σ) (k := k - 1) (by omega) (by omega) hfr hm
    rw [hk1, show to - (k - 1) = to - k + 1 by omega] at this
    exact this
def tkC : Nat → Nat → Prop := fun a k => mF a k ∨ (a = 30 ∧ (k = 2 ∨ k = 20 ∨ k = 21))
theorem free_lt {sl : Nat → Nat} {k : Nat} : ∀ (c a : Nat), free sl a c = some k → a ≤ k ∧ k < a + c ∧ sl k = 0 := by
  intro c
  induction c with
  | zero => intro a h; cases h
  | succ c ih =>
    intro a h
    unfold free at h
    by_cases c0 : sl a = 0
    · rw [if_pos c0] at h
      cases h
      exact ⟨by omega, by omega, c0⟩
    · rw [if_neg c0] at h
      have := ih (a + 1) h
      omega
/-- the end of a taking: room, and the copy -/
theorem tk_end {ch sl : Nat → Nat} (ht : Txt ch sl) (hv : Valid ch sl) {σ : St} (hm : MT ch sl σ) {fr g own lent : Nat} {o : Option Nat} (hg : g ≤ 1) (hfr : fr < 10) (ho : ∀ k, o = some k → k < 10 ∧ fr ≤ k) (hown : own ≤ 1000) (hlent : lent ≤ 1000) (hT : ∀ b, tot (nN ch sl) b 10 ≤ 1000 ∧ tot (lL ch sl) b 10 ≤ 1000) :
    ∃ r σ', s_X11_take_118 30 (I (fr : Nat)) (I (g : Nat)) (oI o) (I (own : Nat)) (I (lent : Nat)) 30 0 (if g = 0 then -6 else 0) σ = some (r, σ') ∧
      (match o with
        | none => r = I (-4) ∧ Fr tkC σ σ'
        | some k => if tot (nN ch sl) (if g = 0 then 99 else 0) 10 + own ≤ 60 ∧ tot (lL ch sl) (if g = 0 then 99 else 0) 10 + lent ≤ 3 then
            r = (if g = 0 then I ((k - fr : Nat) : Int) else I (own : Nat)) ∧ Fr (fun a i => tkC a i ∨ cpC k (sl 10) a i) σ σ' ∧ sI σ' 32 k = I (sl 10 : Nat) ∧ sI σ' 32 10 = I (0 : Nat) ∧ ∀ x, x < sl 10 → sI σ' 31 (60 * k + x) = I (ch (640 + x) : Nat)
          else r = I (-4) ∧ Fr tkC σ σ') := by
  obtain ⟨σ1, a1, a2, a3⟩ := q_readAll0 ht hv (but := if g = 0 then 99 else 0) (if g = 0 then -6 else 0) (fun k hk => by
    by_cases c : g = 0
    · rw [if_pos c, if_pos c]
      constructor
      · intro q
        have : I (-6) = I (k : Nat) := q
        rw [I_eq (by omega) (by omega)] at this
        omega
      · intro q; omega
    · rw [if_neg c, if_neg c]
      constructor
      · intro q
        have : I (0 : Nat) = I (k : Nat) := q
        rw [I_eq (by omega) (by omega)] at this
        omega
      · intro q; subst q; rfl) hm
  have hm1 : MT ch sl σ1 := hm.fr a2 (fun k => by unfold mF; omega)
  have f1 : Fr tkC σ σ1 := a2.mono (by
    rintro a k (q | ⟨rfl, rfl⟩)
    · exact Or.inl q
    · exact Or.inr ⟨rfl, by omega⟩)
  unfold s_X11_take_118
  rw [if_pos (hm.1.o 11 30 (by decide)), a1, bd_eq]
  obtain ⟨t1, t2⟩ := hT (if g = 0 then 99 else 0)
  generalize tot (nN ch sl) (if g = 0 then 99 else 0) 10 = A at *
  generalize tot (lL ch sl) (if g = 0 then 99 else 0) 10 = B at *
  cases o with
  | none =>
    rw [if_pos (show oI none < 0 by decide)]
    exact ⟨_, σ1, rfl, rfl, f1⟩
  | some k =>
    obtain ⟨k1, k2⟩ := ho k rfl
    obtain ⟨m1, m2, m3⟩ := a3
    rw [if_neg (show ¬ oI (some k) < 0 by show ¬ I (k : Nat) < 0; rw [I_lit, I_lt (by omega) (by omega)]; omega), if_pos (hm1.1.o 11 30 (by decide)), m1, m2, I_add, I_add]
    by_cases c1 : A + own ≤ 60
    · rw [if_neg (by rw [I_lit, I_lt (by omega) (by omega)]; omega)]
      by_cases c2 : B + lent ≤ 3
      · rw [if_pos (by rw [I_lit, I_le (by omega) (by omega)]; omega)]
        have hn := (ht.1 10 (by omega)).1
        obtain ⟨σ2, b1, b2, b3, b4, b5⟩ := tk_copy (own := I (own : Nat)) k1 hn k2 hg (sl 10) 0 (15999 - sl 10) (by omega) hm1.1 hm1.2.2.1 (fun x hx => by omega)
        rw [show 15999 - sl 10 + sl 10 + 1 = 16000 by omega] at b1
        refine ⟨_, σ2, b1, ?_⟩
        show (if A + own ≤ 60 ∧ B + lent ≤ 3 then _ else _)
        rw [if_pos ⟨c1, c2⟩]
        refine ⟨rfl, (f1.mono (fun a i q => Or.inl q)).trans (b2.mono (fun a i q => Or.inr q)), b3, b4, fun x hx => ?_⟩
        rw [b5 x hx]
        exact hm1.2.2.2 10 (by omega) x hx
      · rw [if_neg (by rw [I_lit, I_le (by omega) (by omega)]; omega)]
        refine ⟨_, σ1, rfl, ?_⟩
        show (if A + own ≤ 60 ∧ B + lent ≤ 3 then _ else _)
        rw [if_neg (fun q => c2 q.2)]
        exact ⟨rfl, f1⟩
    · rw [if_pos (by rw [I_lit, I_lt (by omega) (by omega)]; omega)]
      refine ⟨_, σ1, rfl, ?_⟩
      show (if A + own ≤ 60 ∧ B + lent ≤ 3 then _ else _)
      rw [if_neg (fun q => c1 q.1)]
      exact ⟨rfl, f1⟩
