/-! the reference takes a text -/
def bufR (ch : Nat → Nat) (g : Nat) : PR := if g = 1 then G64 ch 640 else poff (G64 ch) ch 640
def bufF (ch sl : Nat → Nat) (g : Nat) : Option Nat := if g = 1 then fG ch 10 (sl 10) else fO ch 10 (sl 10)
def free (sl : Nat → Nat) (a : Nat) : Nat → Option Nat
  | 0 => none
  | c + 1 => if sl a = 0 then some a else free sl (a + 1) c
def oI (o : Option Nat) : Int32 := match o with
  | none => I (-6)
  | some k => I (k : Nat)
theorem tk_read {ch sl : Nat → Nat} (ht : Txt ch sl) {σ : St} (hm : MTf ch sl σ) {g : Nat} (hg : g ≤ 1) (hb : MB σ 0 0 0) :
    ∃ σ', s_X11_read 30 10 (if g = 0 then 0 else -6) σ = some (oI (bufF ch sl g), σ') ∧ Fr mF σ σ' ∧ (bufF ch sl g = none → MB σ' (bufR ch g).2.2.1 (bufR ch g).2.2.2 0) := by
  have hr := hm.rm10 ht
  unfold bufF bufR
  by_cases c : g = 1
  · subst c
    rw [if_pos rfl, if_pos rfl, if_neg (by omega)]
    cases hf : fG ch 10 (sl 10) with
    | none =>
      obtain ⟨σ1, a1, a2, a3, -⟩ := r_goal hr hb (by omega) hf (fun q => by omega)
      rw [Nat.zero_add, Nat.zero_add] at a3
      exact ⟨σ1, a1, Fr.up (w := 0) (x := 0) a2, fun _ => a3⟩
    | some f =>
      obtain ⟨σ1, a1, a2⟩ := r_goal_f hr hb hf
      exact ⟨σ1, a1, a2, fun q => by cases q⟩
  · obtain rfl : g = 0 := by omega
    rw [if_neg c, if_neg c, if_pos rfl]
    cases hf : fO ch 10 (sl 10) with
    | none =>
      obtain ⟨σ1, a1, a2, a3, -⟩ := r_off (o := 0) hr hb (by omega) hf (by omega) (fun q => by omega) (fun q => by omega)
      rw [Nat.zero_add, Nat.zero_add] at a3
      refine ⟨σ1, a1, a2.mono ?_, fun _ => a3⟩
      rintro a k (e | e)
      · exact mF_mC e
      · exact mF_hdO e
    | some f =>
      obtain ⟨σ1, a1, a2⟩ := r_off_f (o := 0) hr hb (by omega) hf
      exact ⟨σ1, a1, a2, fun q => by cases q⟩
/-- the text goes to its slot -/
def cpC (k n : Nat) : Nat → Nat → Prop := fun a i => (a = 31 ∧ 60 * k ≤ i ∧ i < 60 * k + n) ∨ (a = 32 ∧ (i = k ∨ i = 10))
theorem tk_copy {fr g k n : Nat} {own : Int32} (hk : k < 10) (hn : n ≤ 60) (hfk : fr ≤ k) (hg : g ≤ 1) : ∀ (j i m : Nat) {σ : St}, i + j = n → SS σ → sI σ 32 10 = I (n : Nat) → (∀ x, x < i → sI σ 31 (60 * k + x) = sI σ 31 (600 + x)) →
    ∃ σ', s_X11_take_155 (m + j + 1) 30 (I (fr : Nat)) (I (g : Nat)) (I (k : Nat)) own (I (i : Nat)) σ = some (if g = 0 then I ((k - fr : Nat) : Int) else own, σ') ∧ Fr (cpC k n) σ σ' ∧ sI σ' 32 k = I (n : Nat) ∧ sI σ' 32 10 = I (0 : Nat) ∧ ∀ x, x < n → sI σ' 31 (60 * k + x) = sI σ 31 (600 + x) := by
  intro j
  induction j with
  | zero =>
    intro i m σ hij hs h10 hx
    obtain rfl : i = n := (by omega)
    refine ⟨setI (setI σ 32 k (I (i : Nat))) 32 10 0, ?_, ((Fr.refl σ).put _ (Or.inr ⟨rfl, Or.inl rfl⟩)).put _ (Or.inr ⟨rfl, Or.inr rfl⟩), by rw [sIn (by omega), sIe], sIe, fun x hxi => by rw [sIn (by omega), sIn (by omega)]; exact hx x hxi⟩
    show sb_X11_take_155 (s_X11_take_155 (m + 0)) 30 (I (fr : Nat)) (I (g : Nat)) (I (k : Nat)) own (I (i : Nat)) σ = _
    unfold sb_X11_take_155
    have h11 : inR (10 : Int32) 11 = true := by decide
    have t10 : (10 : Int32).toNatClampNeg = 10 := by decide
    rw [if_pos (hs.o 11 30 (by decide)), hs.p 30 1 32 (by decide), op_eq, if_pos (hs.o 13 32 (by decide)), hs.len 32 11 (by decide), if_pos h11, t10, h10, if_pos (by rw [I_le (by omega) (by omega)]; omega), if_pos h11, if_pos (inN (show k < 11 by omega) (by omega)), tNI (by omega), lt_eq, (hs.i _ _ _).len 32 11 (by decide), if_pos h11, lt_eq]
    by_cases c : g = 0
    · subst c
      rw [if_pos (show I ((0 : Nat) : Int) = (0 : Int32) from rfl), if_pos rfl, I_sub, show ((k : Int) - (fr : Int)) = ((k - fr : Nat) : Int) by omega]
    · rw [if_neg (by rw [I_lit, I_eq (by omega) (by omega)]; omega), if_neg c]
  | succ j ih =>
    intro i m σ hij hs h10 hx
    have e6 : (600 : Int32) + I (i : Nat) = I ((600 + i : Nat) : Int) := by
      rw [I_lit, I_add]; congr 1
    have e60 : (60 : Int32) * I (k : Nat) + I (i : Nat) = I ((60 * k + i : Nat) : Int) := by
      rw [I_lit, I_mul, I_add]; congr 1
    obtain ⟨σ', a1, a2, a3, a4, a5⟩ := ih (i + 1) m (σ := setI σ 31 (60 * k + i) (sI σ 31 (600 + i))) (by omega) (hs.i _ _ _) (by rw [sIn (by omega)]; exact h10) (fun x hxi => by
      rw [sIn (k := 60 * k + i) (y := 600 + x) (by omega)]
      by_cases c : x = i
      · subst c; exact sIe
      · rw [sIn (by omega)]; exact hx x (by omega))
    refine ⟨σ', ?_, ((Fr.refl σ).put _ (Or.inl ⟨rfl, by omega, by omega⟩)).trans a2, a3, a4, fun x hxn => by rw [a5 x hxn, sIn (by omega)]⟩
    rw [← a1, show m + (j + 1) + 1 = (m + j + 1) + 1 by omega]
    show sb_X11_take_155 (s_X11_take_155 (m + j + 1)) 30 (I (fr : Nat)) (I (g : Nat)) (I (k : Nat)) own (I (i : Nat)) σ = _
    unfold sb_X11_take_155
    have h11 : inR (10 : Int32) 11 = true := by decide
    have t10 : (10 : Int32).toNatClampNeg = 10 := by decide
    rw [if_pos (hs.o 11 30 (by decide)), hs.p 30 1 32 (by decide), op_eq, if_pos (hs.o 13 32 (by decide)), hs.len 32 11 (by decide), if_pos h11, t10, h10, if_neg (by rw [I_le (by omega) (by omega)]; omega), hs.p 30 0 31 (by decide), op_eq, if_pos (hs.o 13 31 (by decide)), hs.len 31 660 (by decide), e6, if_pos (inN (show 600 + i < 660 by omega) (by omega)), e60, if_pos (inN (show 60 * k + i < 660 by omega) (by omega)), tNI (by omega), tNI (by omega), lt_eq, I_p1, lt_eq]
/-- the first slot that is free -/
theorem tk_free {ch sl : Nat → Nat} (htx : Txt ch sl) {fr to : Nat} (hto : to < 10) : ∀ (j m : Nat) {σ : St} {k : Nat}, k + 1 = fr + j → k ≤ to → 1 ≤ fr → MT ch sl σ →
    s_X11_take_59 (m + j) 30 (I (fr : Nat)) (I (0 : Nat)) (oI (free sl (k + 1) (to - k))) (I (k : Nat)) σ = s_X11_take_59 m 30 (I (fr : Nat)) (I (0 : Nat)) (oI (free sl fr (to + 1 - fr))) (I ((fr - 1 : Nat) : Int)) σ := by
  intro j
  induction j with
  | zero =>
    intro m σ k hk hkt hfr hm
    obtain rfl : k = fr - 1 := (by omega)
    rw [show fr - 1 + 1 = fr by omega, show to - (fr - 1) = to + 1 - fr by omega]
    rfl
  | succ j ih =>
    intro m σ k hk hkt hfr hm
    have e : free sl k (to - k + 1) = if sl k = 0 then some k else free sl (k + 1) (to - k) := rfl
    have hk1 : k - 1 + 1 = k := by omega
    have st : s_X11_take_59 (m + (j + 1)) 30 (I (fr : Nat)) (I (0 : Nat)) (oI (free sl (k + 1) (to - k))) (I (k : Nat)) σ = s_X11_take_59 (m + j) 30 (I (fr : Nat)) (I (0 : Nat)) (oI (free sl k (to - k + 1))) (I ((k - 1 : Nat) : Int)) σ := by
      show sb_X11_take_59 (s_X11_take_59 (m + j)) 30 (I (fr : Nat)) (I (0 : Nat)) (oI (free sl (k + 1) (to - k))) (I (k : Nat)) σ = _
      unfold sb_X11_take_59
      have h86 : ∀ t, s_X11_take_86 (s_X11_take_59 (m + j)) 30 (I (fr : Nat)) (I (0 : Nat)) (I (k : Nat)) t σ = s_X11_take_59 (m + j) 30 (I (fr : Nat)) (I (0 : Nat)) t (I ((k - 1 : Nat) : Int)) σ := fun t => by
        unfold s_X11_take_86
        rw [I_lit, I_neg, I_add, lt_eq, show ((k : Int) + -(OfNat.ofNat 1)) = ((k - 1 : Nat) : Int) by show (k : Int) + -1 = _; omega]
      rw [if_neg (by rw [I_lt (by omega) (by omega)]; omega), if_pos (show I ((0 : Nat) : Int) = (0 : Int32) from rfl), if_pos (hm.1.o 11 30 (by decide)), hm.1.p 30 1 32 (by decide), op_eq, if_pos (hm.1.o 13 32 (by decide)), hm.1.len 32 11 (by decide), if_pos (inN (show k < 11 by omega) (by omega)), tNI (by omega), hm.2.1 k (by omega), h86, h86, e]
      by_cases c0 : sl k = 0
      · rw [if_pos c0, if_pos c0, if_neg (by decide)]; rfl
      · have := (htx.1 k (by omega)).1
        rw [if_neg c0, if_neg c0, if_pos (by rw [I_lit, I_le (by omega) (by omega)]; omega)]
    rw [st]
    have := ih m (σ := σ) (k := k - 1) (by omega) (by omega) hfr hm
    rw [hk1, show to - (k - 1) = to - k + 1 by omega] at this
    exact this
def tk0 : Nat → Nat → Prop := fun a k => mF a k ∨ (a = 30 ∧ k = 20)
def tkC : Nat → Nat → Prop := fun a k => mF a k ∨ (a = 30 ∧ (k = 2 ∨ k = 20 ∨ k = 21))
theorem free_lt {sl : Nat → Nat} {k : Nat} : ∀ (c a : Nat), free sl a c = some k → a ≤ k ∧ k < a + c ∧ sl k = 0 := by
  intro c
  induction c with
  | zero => intro a h; cases h
  | succ c ih =>
    intro a h
    unfold free at h
    by_cases c0 : sl a = 0
    · rw [if_pos c0] at h
      cases h
      exact ⟨by omega, by omega, c0⟩
    · rw [if_neg c0] at h
      have := ih (a + 1) h
      omega
def tkEnd (C : Nat → Nat → Prop) (ch sl : Nat → Nat) (fr g own lent : Nat) (σ : St) (r : Int32) (σ' : St) (o : Option Nat) : Prop := match o with
  | none => r = I (-4) ∧ Fr C σ σ'
  | some k => if tot (nN ch sl) (if g = 0 then 99 else 0) 10 + own ≤ 60 ∧ tot (lL ch sl) (if g = 0 then 99 else 0) 10 + lent ≤ 3 then
      r = (if g = 0 then I ((k - fr : Nat) : Int) else I (own : Nat)) ∧ Fr (fun a i => C a i ∨ cpC k (sl 10) a i) σ σ' ∧ sI σ' 32 k = I (sl 10 : Nat) ∧ sI σ' 32 10 = I (0 : Nat) ∧ ∀ x, x < sl 10 → sI σ' 31 (60 * k + x) = I (ch (640 + x) : Nat)
    else r = I (-4) ∧ Fr C σ σ'
/-- the end of a taking: room, and the copy -/
theorem tk_end {ch sl : Nat → Nat} (ht : Txt ch sl) (hv : Valid ch sl) {σ : St} (hm : MTf ch sl σ) {fr g own lent : Nat} {o : Option Nat} (hg : g ≤ 1) (hfr : fr < 10) (ho : ∀ k, o = some k → k < 10 ∧ fr ≤ k) (hown : own ≤ 1000) (hlent : lent ≤ 1000) (hT : ∀ b, tot (nN ch sl) b 10 ≤ 1000 ∧ tot (lL ch sl) b 10 ≤ 1000) :
    ∃ r σ', s_X11_take_118 30 (I (fr : Nat)) (I (g : Nat)) (oI o) (I (own : Nat)) (I (lent : Nat)) 30 0 (if g = 0 then -6 else 0) σ = some (r, σ') ∧
      tkEnd tk0 ch sl fr g own lent σ r σ' o := by
  obtain ⟨σ1, a1, a2, a3⟩ := q_readAll0 ht hv (but := if g = 0 then 99 else 0) (if g = 0 then -6 else 0) (fun k hk => by
    by_cases c : g = 0
    · rw [if_pos c, if_pos c]
      constructor
      · intro q
        have : I (-6) = I (k : Nat) := q
        rw [I_eq (by omega) (by omega)] at this
        omega
      · intro q; omega
    · rw [if_neg c, if_neg c]
      constructor
      · intro q
        have : I (0 : Nat) = I (k : Nat) := q
        rw [I_eq (by omega) (by omega)] at this
        omega
      · intro q; subst q; rfl) hm.1
  have hm1 : MTf ch sl σ1 := hm.fr a2 (fun k => by unfold mF; omega)
  have f1 : Fr tk0 σ σ1 := a2
  unfold s_X11_take_118
  rw [if_pos (hm.1.1.o 11 30 (by decide)), a1, bd_eq]
  obtain ⟨t1, t2⟩ := hT (if g = 0 then 99 else 0)
  generalize hA : tot (nN ch sl) (if g = 0 then 99 else 0) 10 = A at *
  generalize hB : tot (lL ch sl) (if g = 0 then 99 else 0) 10 = B at *
  cases o with
  | none =>
    rw [if_pos (show oI none < 0 by decide)]
    exact ⟨_, σ1, rfl, rfl, f1⟩
  | some k =>
    obtain ⟨k1, k2⟩ := ho k rfl
    obtain ⟨m1, m2, m3⟩ := a3
    rw [if_neg (show ¬ oI (some k) < 0 by show ¬ I (k : Nat) < 0; rw [I_lit, I_lt (by omega) (by omega)]; omega), if_pos (hm1.1.1.o 11 30 (by decide)), m1, m2, I_add, I_add]
    by_cases c1 : A + own ≤ 60
    · rw [if_neg (by rw [I_lit, I_lt (by omega) (by omega)]; omega)]
      by_cases c2 : B + lent ≤ 3
      · rw [if_pos (by rw [I_lit, I_le (by omega) (by omega)]; omega)]
        have hn := (ht.1 10 (by omega)).1
        obtain ⟨σ2, b1, b2, b3, b4, b5⟩ := tk_copy (own := I (own : Nat)) k1 hn k2 hg (sl 10) 0 (15999 - sl 10) (by omega) hm1.1.1 hm1.2.1 (fun x hx => by omega)
        rw [show 15999 - sl 10 + sl 10 + 1 = 16000 by omega] at b1
        refine ⟨_, σ2, b1, ?_⟩
        unfold tkEnd
        dsimp only
        rw [hA, hB]
        rw [if_pos ⟨c1, c2⟩]
        refine ⟨rfl, (f1.mono (fun a i q => Or.inl q)).trans (b2.mono (fun a i q => Or.inr q)), b3, b4, fun x hx => ?_⟩
        rw [b5 x hx]
        exact hm1.2.2 x hx
      · rw [if_neg (by rw [I_lit, I_le (by omega) (by omega)]; omega)]
        refine ⟨_, σ1, rfl, ?_⟩
        unfold tkEnd
        dsimp only
        rw [hA, hB]
        rw [if_neg (fun q => c2 q.2)]
        exact ⟨rfl, f1⟩
    · rw [if_pos (by rw [I_lit, I_lt (by omega) (by omega)]; omega)]
      refine ⟨_, σ1, rfl, ?_⟩
      unfold tkEnd
      dsimp only
      rw [hA, hB]
      rw [if_neg (fun q => c1 q.1)]
      exact ⟨rfl, f1⟩
def slotOf (sl : Nat → Nat) (fr to g : Nat) : Option Nat := if g = 1 then some 0 else free sl fr (to + 1 - fr)
/-- what a taking gives: its answer, and what changes -/
def tkPost (ch sl : Nat → Nat) (fr to g : Nat) (σ : St) (r : Int32) (σ' : St) : Prop :=
  sI σ' 30 21 = I (1 : Nat) ∧ match bufF ch sl g with
  | some f => r = I (-7) ∧ Fr tkC σ σ' ∧ sI σ' 30 2 = I (f : Nat)
  | none => sI σ' 30 2 = sI σ 30 2 ∧ tkEnd tkC ch sl fr g (bufR ch g).2.2.1 (bufR ch g).2.2.2 σ r σ' (slotOf sl fr to g)
theorem bufR_fits {ch sl : Nat → Nat} (ht : Txt ch sl) {g : Nat} (h : bufF ch sl g = none) : (bufR ch g).2.2.1 ≤ 60 ∧ (bufR ch g).2.2.2 ≤ 60 := by
  have h60 := (ht.1 10 (by omega)).1
  unfold bufF at h
  unfold bufR
  by_cases c : g = 1
  · rw [if_pos c] at h ⊢
    obtain ⟨a, b⟩ := fG_ok h
    have hf := pgoal_fits ch 64 (64 * 10) a
    have : (G64 ch (64 * 10)) = pgoal ch 64 (64 * 10) := rfl
    rw [← this, b] at hf
    show (G64 ch (64 * 10)).2.2.1 ≤ 60 ∧ (G64 ch (64 * 10)).2.2.2 ≤ 60
    omega
  · rw [if_neg c] at h ⊢
    obtain ⟨a, b⟩ := fO_ok h
    have hf := poff_fits (ch := ch) (pgoal_fits ch 64) (64 * 10) a
    have : (poff (G64 ch) ch (64 * 10)) = poff (pgoal ch 64) ch (64 * 10) := rfl
    rw [← this, b] at hf
    show (poff (G64 ch) ch (64 * 10)).2.2.1 ≤ 60 ∧ (poff (G64 ch) ch (64 * 10)).2.2.2 ≤ 60
    omega
theorem m_take {ch sl : Nat → Nat} (ht : Txt ch sl) (hv : Valid ch sl) {σ : St} (hm : MTf ch sl σ) {fr to g : Nat} (hg : g = 0 ∧ 1 ≤ fr ∧ fr ≤ to ∧ to < 10 ∨ g = 1 ∧ fr = 0 ∧ to = 0) (hT : ∀ b, tot (nN ch sl) b 10 ≤ 1000 ∧ tot (lL ch sl) b 10 ≤ 1000) :
    ∃ r σ', s_X11_take 30 (I (fr : Nat)) (I (to : Nat)) (I (g : Nat)) σ = some (r, σ') ∧ tkPost ch sl fr to g σ r σ' := by
  have f0 : Fr tkC σ (setI (setI (setI (setI σ 30 21 1) 30 5 0) 30 6 0) 30 20 0) := ((((Fr.refl σ).put _ (Or.inr ⟨rfl, by omega⟩)).put _ (Or.inl (Or.inl ⟨rfl, by omega⟩))).put _ (Or.inl (Or.inl ⟨rfl, by omega⟩))).put _ (Or.inr ⟨rfl, by omega⟩)
  have hm0 : MTf ch sl (setI (setI (setI (setI σ 30 21 1) 30 5 0) 30 6 0) 30 20 0) := hm.fr f0 (fun k => by unfold tkC mF; omega)
  have mb0 : MB (setI (setI (setI (setI σ 30 21 1) 30 5 0) 30 6 0) 30 20 0) 0 0 0 := ⟨by rw [sIn (by omega), sIn (by omega), sIe]; rfl, by rw [sIn (by omega), sIe]; rfl, sIe⟩
  have e21 : sI (setI (setI (setI (setI σ 30 21 1) 30 5 0) 30 6 0) 30 20 0) 30 21 = I (1 : Nat) := by rw [sIn (by omega), sIn (by omega), sIn (by omega), sIe]; rfl
  have e2 : sI (setI (setI (setI (setI σ 30 21 1) 30 5 0) 30 6 0) 30 20 0) 30 2 = sI σ 30 2 := by rw [sIn (by omega), sIn (by omega), sIn (by omega), sIn (by omega)]
  have u1 : ∀ X, (s_X11_take_33 30 (I (fr : Nat)) (I (to : Nat)) (I (g : Nat)) 30 10 (if g = 0 then 0 else -6) (setI (setI (setI (setI σ 30 21 1) 30 5 0) 30 6 0) 30 20 0) = X) → s_X11_take 30 (I (fr : Nat)) (I (to : Nat)) (I (g : Nat)) σ = X := fun X hX => by
    unfold s_X11_take
    rw [if_pos (hm.1.1.o 11 30 (by decide)), lt_eq, lt_eq, lt_eq, lt_eq, ← hX]
    rcases hg with hg | hg
    · rw [hg.1, if_pos (show I ((0 : Nat) : Int) = (0 : Int32) from rfl), if_pos rfl]
    · rw [hg.1, if_neg (show ¬ I ((1 : Nat) : Int) = (0 : Int32) by decide), if_neg (by omega)]
  generalize setI (setI (setI (setI σ 30 21 1) 30 5 0) 30 6 0) 30 20 0 = σ0 at *
  obtain ⟨σ1, a1, a2, a3⟩ := tk_read ht hm0 (g := g) (by omega) mb0
  have hm1 : MTf ch sl σ1 := hm0.fr a2 mF31
  have u2 : ∀ X, ((if oI (bufF ch sl g) < 0 then (s_X11_take_59 16000 30 (I (fr : Nat)) (I (g : Nat)) (-6) (I (to : Nat)) σ1) else some (-7, setI σ1 30 2 (oI (bufF ch sl g)))) = X) → s_X11_take_33 30 (I (fr : Nat)) (I (to : Nat)) (I (g : Nat)) 30 10 (if g = 0 then 0 else -6) σ0 = X := fun X hX => by
    unfold s_X11_take_33
    rw [if_pos (hm0.1.1.o 11 30 (by decide)), a1, bd_eq, ← hX, if_pos (hm1.1.1.o 11 30 (by decide)), lt_eq]
  have f1 : Fr tkC σ σ1 := f0.trans (a2.mono (fun a k q => Or.inl q))
  have s21 : sI σ1 30 21 = I (1 : Nat) := by rw [a2.i 30 21 (by unfold mF; omega)]; exact e21
  have s2 : sI σ1 30 2 = sI σ 30 2 := by rw [a2.i 30 2 (by unfold mF; omega)]; exact e2
  unfold tkPost
  cases hb : bufF ch sl g with
  | some f =>
    have hf : f ≤ 60 := by
      have h60 := (ht.1 10 (by omega)).1
      have hr := hm.rm10 ht
      have hend := hr.2.2.2.2.2.2
      unfold bufF at hb
      by_cases c : g = 1
      · rw [if_pos c] at hb
        unfold fG at hb
        have := pgoal_pos ch (64 * 10) (sl 10) hend h60 64 (64 * 10) (by omega) (by omega)
        have h2 : (G64 ch (64 * 10)).2.1 ≤ 64 * 10 + sl 10 := this.2.1
        split at hb
        · cases hb
        · have := Option.some.inj hb; omega
      · rw [if_neg c] at hb
        unfold fO at hb
        have := poff_pos (g := pgoal ch 64) (64 * 10) (sl 10) hend h60 (pgoal_pos ch (64 * 10) (sl 10) hend h60 64) (64 * 10) (by omega) (by omega)
        have h2 : (poff (G64 ch) ch (64 * 10)).2.1 ≤ 64 * 10 + sl 10 := this.2.1
        split at hb
        · cases hb
        · have := Option.some.inj hb; omega
    refine ⟨_, _, u1 _ (u2 _ ?_), ?_, rfl, f1.put _ (Or.inr ⟨rfl, by omega⟩), sIe⟩
    · rw [hb, if_neg (show ¬ oI (some f) < 0 by show ¬ I (f : Nat) < 0; rw [I_lit, I_lt (by omega) (by omega)]; omega)]
      rfl
    · rw [sIn (by omega)]; exact s21
  | none =>
    have a3 := a3 hb
    obtain ⟨b1, b2⟩ := bufR_fits ht hb
    have ho : ∀ k, slotOf sl fr to g = some k → k < 10 ∧ fr ≤ k := fun k hk => by
      unfold slotOf at hk
      rcases hg with hg | hg
      · rw [if_neg (by omega)] at hk
        have := free_lt _ _ hk
        omega
      · rw [if_pos hg.1] at hk
        cases hk
        omega
    obtain ⟨r, σ2, c1, c2⟩ := tk_end ht hv hm1 (fr := fr) (g := g) (own := (bufR ch g).2.2.1) (lent := (bufR ch g).2.2.2) (o := slotOf sl fr to g) (by omega) (by omega) ho (by omega) (by omega) hT
    have fin : sI σ2 30 21 = sI σ1 30 21 ∧ sI σ2 30 2 = sI σ1 30 2 := by
      have key : ∀ {C : Nat → Nat → Prop}, Fr C σ1 σ2 → ¬ C 30 21 → ¬ C 30 2 → sI σ2 30 21 = sI σ1 30 21 ∧ sI σ2 30 2 = sI σ1 30 2 := fun hf h1 h2 => ⟨hf.i _ _ h1, hf.i _ _ h2⟩
      have n0 : ¬ tk0 30 21 ∧ ¬ tk0 30 2 := by unfold tk0 mF; omega
      cases hs : slotOf sl fr to g with
      | none => rw [hs] at c2; exact key c2.2 n0.1 n0.2
      | some k =>
        rw [hs] at c2
        unfold tkEnd at c2
        dsimp only at c2
        by_cases cc : tot (nN ch sl) (if g = 0 then 99 else 0) 10 + (bufR ch g).2.2.1 ≤ 60 ∧ tot (lL ch sl) (if g = 0 then 99 else 0) 10 + (bufR ch g).2.2.2 ≤ 3
        · rw [if_pos cc] at c2
          exact key c2.2.1 (fun q => by rcases q with q | q; exact n0.1 q; unfold cpC at q; omega) (fun q => by rcases q with q | q; exact n0.2 q; unfold cpC at q; omega)
        · rw [if_neg cc] at c2
          exact key c2.2 n0.1 n0.2
    have t0C : ∀ a k, tk0 a k → tkC a k := by
      rintro a k (q | ⟨rfl, rfl⟩)
      · exact Or.inl q
      · exact Or.inr ⟨rfl, by omega⟩
    refine ⟨r, σ2, u1 _ (u2 _ ?_), by rw [fin.1]; exact s21, by rw [fin.2]; exact s2, ?_⟩
    · rw [hb, if_pos (show oI none < 0 by decide), ← c1]
      rcases hg with hg | hg
      · obtain ⟨rfl, h1, h2, h3⟩ := hg
        have := tk_free ht (fr := fr) (to := to) h3 (to + 1 - fr) (16000 - (to + 1 - fr)) (σ := σ1) (k := to) (by omega) (by omega) h1 hm1.1
        rw [show 16000 - (to + 1 - fr) + (to + 1 - fr) = 16000 by omega, show to - to = 0 by omega] at this
        have e : (-6 : Int32) = oI (free sl (to + 1) 0) := rfl
        rw [e, this]
        unfold slotOf
        rw [if_neg (by omega), if_pos rfl]
        rw [show 16000 - (to + 1 - fr) = (15999 - (to + 1 - fr)) + 1 by omega]
        show sb_X11_take_59 _ 30 (I (fr : Nat)) (I (0 : Nat)) _ _ σ1 = _
        unfold sb_X11_take_59
        rw [if_pos (by rw [I_lt (by omega) (by omega)]; omega), if_pos (hm1.1.1.o 11 30 (by decide)), a3.1, a3.2.1, lt_eq, lt_eq, if_pos (show I ((0 : Nat) : Int) = (0 : Int32) from rfl)]
        rfl
      · obtain ⟨rfl, rfl, rfl⟩ := hg
        unfold slotOf
        rw [if_pos rfl, if_neg (by omega)]
        show sb_X11_take_59 (s_X11_take_59 15999) 30 (I (0 : Nat)) (I (1 : Nat)) (-6) (I (0 : Nat)) σ1 = _
        unfold sb_X11_take_59
        rw [if_neg (by decide), if_neg (by decide)]
        unfold s_X11_take_86
        rw [lt_eq]
        show sb_X11_take_59 (s_X11_take_59 15998) 30 (I (0 : Nat)) (I (1 : Nat)) (I (0 : Nat)) (I (0 : Nat) + -1) σ1 = _
        unfold sb_X11_take_59
        rw [if_pos (by decide), if_pos (hm1.1.1.o 11 30 (by decide)), a3.1, a3.2.1, lt_eq, lt_eq, if_neg (by decide)]
        rfl
    · cases hs : slotOf sl fr to g with
      | none =>
        rw [hs] at c2
        exact ⟨c2.1, f1.trans (c2.2.mono t0C)⟩
      | some k =>
        rw [hs] at c2
        unfold tkEnd at c2 ⊢
        dsimp only at c2 ⊢
        by_cases cc : tot (nN ch sl) (if g = 0 then 99 else 0) 10 + (bufR ch g).2.2.1 ≤ 60 ∧ tot (lL ch sl) (if g = 0 then 99 else 0) 10 + (bufR ch g).2.2.2 ≤ 3
        · rw [if_pos cc] at c2 ⊢
          refine ⟨c2.1, (f1.mono (fun a i q => Or.inl q)).trans (c2.2.1.mono ?_), c2.2.2⟩
          rintro a i (q | q)
          · exact Or.inl (t0C a i q)
          · exact Or.inr q
        · rw [if_neg cc] at c2 ⊢
          exact ⟨c2.1, f1.trans (c2.2.mono t0C)⟩
