/-! the class reads a whole text -/
/-- the end of a reading: nothing is left, or a fault stands there -/
theorem more_ok {ch : Nat → Nat} {rd ca pl b n N lam : Nat} {σ : St} (h : RC ch rd ca pl b n σ) (ha : At rd pl σ n N lam) : s_X5_refuseMore rd σ = some ((), σ) := by
  obtain ⟨h1, h2, h3, h4, h5, h6, h7, h8, h9, h10, h11, h12⟩ := h
  unfold s_X5_refuseMore
  rw [if_pos h4, h5, op_eq, if_pos h7, h8, I_nI, ha.1, if_pos (by rw [I_le (by omega) (by omega)]; omega)]
theorem more_bad {ch : Nat → Nat} {rd ca pl b n p N lam : Nat} {σ : St} (h : RC ch rd ca pl b n σ) (ha : At rd pl σ p N lam) (hp : p < n) : ∃ σ', s_X5_refuseMore rd σ = some ((), σ') ∧ Fr (rdC rd pl) σ σ' ∧ sI σ' rd 3 = I (p : Nat) := by
  have hr := q_refuse h ha.1 ha.2.1 (by omega)
  rw [if_pos rfl] at hr
  obtain ⟨h1, h2, h3, h4, h5, h6, h7, h8, h9, h10, h11, h12⟩ := h
  refine ⟨setI σ rd 3 (I (p : Nat)), ?_, (Fr.refl σ).put _ (Or.inl ⟨rfl, Or.inr rfl⟩), sIe⟩
  unfold s_X5_refuseMore
  rw [if_pos h4, h5, op_eq, if_pos h7, h8, I_nI, ha.1, if_neg (by rw [I_le (by omega) (by omega)]; omega), hr, bd_eq]
theorem more_fr {ch : Nat → Nat} {rd ca pl b n q : Nat} {σ : St} (h : RC ch rd ca pl b n σ) (hb : Bad rd pl n σ q) : s_X5_refuseMore rd σ = some ((), σ) := by
  have hr := bad_refuse h hb
  obtain ⟨h1, h2, h3, h4, h5, h6, h7, h8, h9, h10, h11, h12⟩ := h
  obtain ⟨p', N', lam', b1, b2, b3, b4, b5, b6, b7, b8⟩ := hb
  unfold s_X5_refuseMore
  rw [if_pos h4, h5, op_eq, if_pos h7, h8, I_nI, b1]
  by_cases c : n ≤ p'
  · rw [if_pos (by rw [I_le (by omega) (by omega)]; omega)]
  · rw [if_neg (by rw [I_le (by omega) (by omega)]; omega), hr, bd_eq]
def wG (ch : Nat → Nat) (b n : Nat) : Option Nat := if (G64 ch b).1 = true ∧ (G64 ch b).2.1 = b + n then none else some ((G64 ch b).2.1 - b)
def wO (ch : Nat → Nat) (b n : Nat) : Option Nat := if (poff (G64 ch) ch b).1 = true ∧ (poff (G64 ch) ch b).2.1 = b + n then none else some ((poff (G64 ch) ch b).2.1 - b)
theorem wg_ok {ch : Nat → Nat} {rd ca pl b n N lam : Nat} {σ : St} (h : RC ch rd ca pl b n σ) (ha : At rd pl σ 0 N lam) (hf : wG ch b n = none) (hN : N + (G64 ch b).2.2.1 ≤ 60) (hlam : lam ≤ 1000) :
    ∃ σ', s_X5_readWholeGoal rd σ = some (I (N + (G64 ch b).2.2.1 - 1 : Int), σ') ∧ Fr (rdC rd pl) σ σ' ∧ At rd pl σ' n (N + (G64 ch b).2.2.1) (lam + (G64 ch b).2.2.2) ∧ 1 ≤ (G64 ch b).2.2.1 ∧
      ∀ κ φ, Str ch pl κ φ σ N lam b → lam + (G64 ch b).2.2.2 ≤ 3 → b + n < 640 →
        ∃ κ' : Nat → Nat, (∀ c, c < N → κ' c = κ c) ∧ Str ch pl κ' (upL ch φ lam (lam + (G64 ch b).2.2.2)) σ' (N + (G64 ch b).2.2.1) (lam + (G64 ch b).2.2.2) (b + n) ∧ κ' (N + (G64 ch b).2.2.1 - 1) = b := by
  have ⟨f1, f2⟩ : (G64 ch b).1 = true ∧ (G64 ch b).2.1 = b + n := by
    unfold wG at hf
    apply Decidable.byContradiction
    intro q
    rw [if_neg q] at hf
    cases hf
  obtain ⟨σ1, a1, a2, a3, a4⟩ := s_goal ch rd ca pl b n 64 σ 1 0 N lam h ha (by omega) (by omega) (by omega) (by omega) f1 hN (by omega)
  have e : pgoal ch 64 (b + 0) = G64 ch b := rfl
  rw [e] at a1 a2 a3 a4
  obtain ⟨g1, g2, g3⟩ := a3
  rw [f2, show b + n - b = n by omega] at g3
  have r1 := h.fr g1
  refine ⟨σ1, ?_, g1, g3, a2, fun κ φ hs hl hb => ?_⟩
  · have ho := r1.2.2.2.1
    unfold s_X5_readWholeGoal
    rw [if_pos h.2.2.2.1, show (1 : Int32) = I ((1 : Nat) : Int) from rfl, a1, bd_eq, if_pos ho, more_ok r1 g3, bd_eq]
  · have := a4 κ φ hs hl hb
    rw [f2] at this
    exact this
theorem wo_ok {ch : Nat → Nat} {rd ca pl b n N lam : Nat} {o : Int} {σ : St} (h : RC ch rd ca pl b n σ) (ha : At rd pl σ 0 N lam) (hf : wO ch b n = none) (hN : N + (poff (G64 ch) ch b).2.2.1 ≤ 60) (hlam : lam ≤ 1000) (ho : -1 ≤ o ∧ o ≤ 11) :
    ∃ σ', s_X5_readWholeOffer rd (I o) σ = some ((), σ') ∧ Fr (rdC rd pl) σ σ' ∧ At rd pl σ' n (N + (poff (G64 ch) ch b).2.2.1) (lam + (poff (G64 ch) ch b).2.2.2) ∧
      ∀ κ φ, Str ch pl κ φ σ N lam b → lam + (poff (G64 ch) ch b).2.2.2 ≤ 3 → b + n < 640 → 0 ≤ o → (o < 5 + lam ∨ 8 ≤ o) → (∀ f, f < 3 → φ o.toNat f = none) →
        ∃ κ' : Nat → Nat, (∀ c, c < N → κ' c = κ c) ∧ Str ch pl κ' (setO ch (upL ch φ lam (lam + (poff (G64 ch) ch b).2.2.2)) o.toNat b) σ' (N + (poff (G64 ch) ch b).2.2.1) (lam + (poff (G64 ch) ch b).2.2.2) (b + n) := by
  have ⟨f1, f2⟩ : (poff (G64 ch) ch b).1 = true ∧ (poff (G64 ch) ch b).2.1 = b + n := by
    unfold wO at hf
    apply Decidable.byContradiction
    intro q
    rw [if_neg q] at hf
    cases hf
  have e : poff (pgoal ch 64) ch (b + 0) = poff (G64 ch) ch b := rfl
  obtain ⟨σ1, a1, a3, a4⟩ := s_off (s_goal ch rd ca pl b n 64) (d := 1) (o := o) h ha (by omega) (by omega) (by omega) (by omega) (by rw [e]; exact f1) (by rw [e]; exact hN) (by omega) ho
  rw [e] at a3 a4
  obtain ⟨g1, g2, g3⟩ := a3
  rw [f2, show b + n - b = n by omega] at g3
  have r1 := h.fr g1
  refine ⟨σ1, ?_, g1, g3, fun κ φ hs hl hb h0 h1 h2 => ?_⟩
  · have ho := r1.2.2.2.1
    unfold s_X5_readWholeOffer
    rw [if_pos h.2.2.2.1, show (1 : Int32) = I ((1 : Nat) : Int) from rfl, a1, bd_eq, if_pos ho, more_ok r1 g3, bd_eq]
  · have := a4 κ φ hs hl hb h0 h1 h2
    rw [f2] at this
    exact this
theorem wg_bad {ch : Nat → Nat} {rd ca pl b n f : Nat} {σ : St} (h : RC ch rd ca pl b n σ) (ha : At rd pl σ 0 0 0) (hf : wG ch b n = some f) :
    ∃ r σ', s_X5_readWholeGoal rd σ = some (r, σ') ∧ Fr (rdC rd pl) σ σ' ∧ sI σ' rd 3 = I (f : Nat) := by
  have hn := h.hn
  have e : pgoal ch 64 (b + 0) = G64 ch b := rfl
  have hpos := pgoal_pos ch b n h.hend hn 64 b (by omega) (by omega)
  have hpos0 : b ≤ (G64 ch b).2.1 ∧ (G64 ch b).2.1 ≤ b + n := ⟨hpos.1, hpos.2.1⟩
  have o1 : (1 : Int32) = I ((1 : Nat) : Int) := rfl
  unfold wG at hf
  by_cases c1 : (G64 ch b).1 = true
  · have c2 : (G64 ch b).2.1 ≠ b + n := fun q => by rw [if_pos ⟨c1, q⟩] at hf; cases hf
    rw [if_neg (fun q => c2 q.2)] at hf
    have hf := Option.some.inj hf
    have hfit : (G64 ch b).2.2.1 ≤ (G64 ch b).2.1 - b := (pgoal_fits ch 64 b c1).1
    obtain ⟨σ1, a1, a2, a3, -⟩ := s_goal ch rd ca pl b n 64 σ 1 0 0 0 h ha (by omega) (by omega) (by omega) (by omega) c1 (by rw [e]; omega) (by omega)
    rw [e] at a1 a3
    obtain ⟨g1, g2, g3⟩ := a3
    have r1 := h.fr g1
    obtain ⟨σ2, b1, b2, b3⟩ := more_bad r1 g3 (by omega)
    rw [hf] at b3
    refine ⟨I (((0 : Nat) : Int) + (G64 ch b).2.2.1 - 1), σ2, ?_, g1.trans b2, b3⟩
    unfold s_X5_readWholeGoal
    rw [if_pos h.2.2.2.1, o1, a1, bd_eq, if_pos r1.2.2.2.1, b1, bd_eq]
  · rw [if_neg (fun q => c1 q.1)] at hf
    have hf := Option.some.inj hf
    obtain ⟨r, σ1, a1, a2, a3, a4⟩ := f_goal ch rd ca pl b n 64 σ 1 0 0 0 h ha (by omega) (by omega) (by omega) (by omega) c1 (by omega) (by omega)
    rw [e, hf] at a4
    have r1 := h.fr a2
    refine ⟨r, σ1, ?_, a2, ?_⟩
    · unfold s_X5_readWholeGoal
      rw [if_pos h.2.2.2.1, o1, a1, bd_eq, if_pos r1.2.2.2.1, more_fr r1 a4, bd_eq]
    · obtain ⟨p', N', lam', b1, b2, b3, _⟩ := a4
      exact b3
theorem wo_bad {ch : Nat → Nat} {rd ca pl b n f : Nat} {o : Int} {σ : St} (h : RC ch rd ca pl b n σ) (ha : At rd pl σ 0 0 0) (hf : wO ch b n = some f) (ho : -1 ≤ o ∧ o ≤ 11) :
    ∃ σ', s_X5_readWholeOffer rd (I o) σ = some ((), σ') ∧ Fr (rdC rd pl) σ σ' ∧ sI σ' rd 3 = I (f : Nat) := by
  have hn := h.hn
  have e : poff (pgoal ch 64) ch (b + 0) = poff (G64 ch) ch b := rfl
  have hpos := poff_pos (g := pgoal ch 64) b n h.hend hn (pgoal_pos ch b n h.hend hn 64) b (by omega) (by omega)
  have hpos0 : b ≤ (poff (G64 ch) ch b).2.1 ∧ (poff (G64 ch) ch b).2.1 ≤ b + n := ⟨hpos.1, hpos.2.1⟩
  have o1 : (1 : Int32) = I ((1 : Nat) : Int) := rfl
  unfold wO at hf
  by_cases c1 : (poff (G64 ch) ch b).1 = true
  · have c2 : (poff (G64 ch) ch b).2.1 ≠ b + n := fun q => by rw [if_pos ⟨c1, q⟩] at hf; cases hf
    rw [if_neg (fun q => c2 q.2)] at hf
    have hf := Option.some.inj hf
    have hfit : (poff (G64 ch) ch b).2.2.1 ≤ (poff (G64 ch) ch b).2.1 - b := (poff_fits (pgoal_fits ch 64) b c1).1
    obtain ⟨σ1, a1, a3, -⟩ := s_off (s_goal ch rd ca pl b n 64) (d := 1) (o := o) h ha (by omega) (by omega) (by omega) (by omega) (by rw [e]; exact c1) (by rw [e]; omega) (by omega) ho
    rw [e] at a3
    obtain ⟨g1, g2, g3⟩ := a3
    have r1 := h.fr g1
    obtain ⟨σ2, b1, b2, b3⟩ := more_bad r1 g3 (by omega)
    rw [hf] at b3
    refine ⟨σ2, ?_, g1.trans b2, b3⟩
    unfold s_X5_readWholeOffer
    rw [if_pos h.2.2.2.1, o1, a1, bd_eq, if_pos r1.2.2.2.1, b1, bd_eq]
  · rw [if_neg (fun q => c1 q.1)] at hf
    have hf := Option.some.inj hf
    obtain ⟨σ1, a1, a2, a3, a4⟩ := f_off (s_goal ch rd ca pl b n 64) (f_goal ch rd ca pl b n 64) (d := 1) (o := o) h ha (by omega) (by omega) (by omega) (by omega) c1 (by omega) (by omega) ho
    rw [e, hf] at a4
    have r1 := h.fr a2
    refine ⟨σ1, ?_, a2, ?_⟩
    · unfold s_X5_readWholeOffer
      rw [if_pos h.2.2.2.1, o1, a1, bd_eq, if_pos r1.2.2.2.1, more_fr r1 a4, bd_eq]
    · obtain ⟨p', N', lam', b1, b2, b3, _⟩ := a4
      exact b3
