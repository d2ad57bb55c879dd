/-! the class's reader over a text with a fault: the fault is where the spec has it, and nothing else of the machine breaks -/
def Bad (rd pl n : Nat) (σ : St) (q : Nat) : Prop := ∃ p' N' lam' : Nat, sI σ rd 2 = I (p' : Nat) ∧ p' ≤ n ∧ sI σ rd 3 = I (q : Nat) ∧ q ≤ n ∧ sI σ pl 5 = I (N' : Nat) ∧ N' ≤ 60 ∧ sI σ pl 6 = I (lam' : Nat) ∧ lam' ≤ 1100
theorem bad_next {ch : Nat → Nat} {rd ca pl b n q : Nat} {σ : St} (h : RC ch rd ca pl b n σ) (hb : Bad rd pl n σ q) : s_X5_next rd σ = some (I (0 : Nat), σ) := by
  obtain ⟨p', N', lam', h1, h2, h3, h4, -⟩ := hb
  have hn := h.hn
  rw [q_next h h1 h2 h3 (by omega), if_neg (by omega)]
theorem bad_refuse {ch : Nat → Nat} {rd ca pl b n q : Nat} {σ : St} (h : RC ch rd ca pl b n σ) (hb : Bad rd pl n σ q) : s_X5_refuse rd σ = some (I (-1), σ) := by
  obtain ⟨p', N', lam', h1, h2, h3, h4, -⟩ := hb
  have hn := h.hn
  rw [q_refuse h h1 h3 (by omega), if_neg (by omega)]
theorem bad_expect {ch : Nat → Nat} {rd ca pl b n q k : Nat} {σ : St} (h : RC ch rd ca pl b n σ) (hb : Bad rd pl n σ q) (hk : 1 ≤ k ∧ k ≤ 126) : s_X5_expect rd (I (k : Nat)) σ = some ((), σ) := by
  unfold s_X5_expect
  rw [if_pos h.2.2.2.1, bad_next h hb, bd_eq, if_neg (by rw [I_eq (by omega) (by omega)]; omega), if_pos h.2.2.2.1, bad_refuse h hb, bd_eq]
theorem bad_goal {ch : Nat → Nat} {rd ca pl b n q : Nat} {σ : St} (h : RC ch rd ca pl b n σ) (hb : Bad rd pl n σ q) (F : Nat) (d : Int) : s_X5_readGoal (F + 1) rd (I d) σ = some (I (-1), σ) := by
  show sc_X5_readGoal (s_X5_readGoal F) rd (I d) σ = _
  unfold sc_X5_readGoal
  rw [if_pos h.2.2.2.1, bad_next h hb, bd_eq, q_isAtom (by omega), bd_eq]
  have h0 : ¬ isAt 0 = true := by decide
  rw [if_neg h0, if_pos (show (0 : Int32) = 0 from rfl), if_neg (show ¬ I ((0 : Nat) : Int) = 33 by decide), if_neg (show ¬ I ((0 : Nat) : Int) = 40 by decide), if_neg (show ¬ I ((0 : Nat) : Int) = 49 by decide), if_neg (show ¬ I ((0 : Nat) : Int) = 84 by decide), if_neg (show ¬ I ((0 : Nat) : Int) = 91 by decide), if_pos h.2.2.2.1, bad_refuse h hb, bd_eq]
  split <;> rfl
theorem bad_loop {ch : Nat → Nat} {rd ca pl b n q : Nat} {σ : St} (h : RC ch rd ca pl b n σ) (hb : Bad rd pl n σ q) (kg : Nat → Int32 → St → Option (Int32 × St)) (o f d : Int32) (m : Nat) : s_X5_readOffer_9 kg (m + 1) rd o d f σ = some ((), σ) := by
  rw [offl]
  unfold sb_X5_readOffer_9
  rw [if_pos h.2.2.2.1, bad_next h hb, bd_eq, if_neg (show ¬ I ((0 : Nat) : Int) = 124 by decide)]
  split <;> rfl
theorem bad_add {ch : Nat → Nat} {rd ca pl b n q : Nat} {σ : St} (h : RC ch rd ca pl b n σ) (hb : Bad rd pl n σ q) (k f s : Int32) : ∃ r σ', s_X3_addNode pl k f s σ = some (r, σ') ∧ Fr (rdC rd pl) σ σ' ∧ Bad rd pl n σ' q := by
  obtain ⟨p', N', lam', h1, h2, h3, h4, h5, h6, h7, h8⟩ := hb
  have hrd := h.2.2.1.1
  have hpl := h.2.1
  by_cases c : N' < 60
  · refine ⟨_, _, by rw [q_addNode h.1 h.2.1 h5 h6, if_pos c], ?_, p', N' + 1, lam', ?_, h2, ?_, h4, ?_, by omega, ?_, h8⟩
    · unfold addN
      exact ((((Fr.refl σ).put _ (Or.inr ⟨by omega, by omega, fun _ => by omega⟩)).put _ (Or.inr ⟨by omega, by omega, fun _ => by omega⟩)).put _ (Or.inr ⟨by omega, by omega, fun _ => by omega⟩)).put _ (Or.inr ⟨by omega, by omega, fun _ => by omega⟩)
    · unfold addN
      rw [sI_I, if_neg (by omega), sI_I, if_neg (by omega), sI_I, if_neg (by omega), sI_I, if_neg (by omega)]; exact h1
    · unfold addN
      rw [sI_I, if_neg (by omega), sI_I, if_neg (by omega), sI_I, if_neg (by omega), sI_I, if_neg (by omega)]; exact h3
    · unfold addN
      rw [sI_I, if_pos ⟨rfl, rfl⟩]
    · unfold addN
      rw [sI_I, if_neg (by omega), sI_I, if_neg (by omega), sI_I, if_neg (by omega), sI_I, if_neg (by omega)]; exact h7
  · exact ⟨_, _, by rw [q_addNode h.1 h.2.1 h5 h6, if_neg c], Fr.refl σ, p', N', lam', h1, h2, h3, h4, h5, h6, h7, h8⟩
/-- the first fault -/
theorem new_bad {ch : Nat → Nat} {rd ca pl b n p N lam : Nat} {σ : St} (h : RC ch rd ca pl b n σ) (ha : At rd pl σ p N lam) (hp : p ≤ n) (hN : N ≤ 60) (hlam : lam ≤ 1100) : ∃ σ', s_X5_refuse rd σ = some (I (-1), σ') ∧ Fr (rdC rd pl) σ σ' ∧ Bad rd pl n σ' p := by
  have hrd := h.2.2.1.1
  have hpl := h.2.1
  refine ⟨_, by rw [q_refuse h ha.1 ha.2.1 (by omega), if_pos rfl], (Fr.refl σ).put _ (Or.inl ⟨rfl, Or.inr rfl⟩), p, N, lam, ?_, hp, ?_, hp, ?_, hN, ?_, hlam⟩
  · rw [sI_I, if_neg (by omega)]; exact ha.1
  · rw [sI_I, if_pos ⟨rfl, rfl⟩]
  · rw [sI_I, if_neg (by omega)]; exact ha.2.2.1
  · rw [sI_I, if_neg (by omega)]; exact ha.2.2.2
theorem new_expect {ch : Nat → Nat} {rd ca pl b n p N lam k : Nat} {σ : St} (h : RC ch rd ca pl b n σ) (ha : At rd pl σ p N lam) (hp : p ≤ n) (hN : N ≤ 60) (hlam : lam ≤ 1100) (hk : k ≤ 126) (hc : ch (b + p) ≠ k) : ∃ σ', s_X5_expect rd (I (k : Nat)) σ = some ((), σ') ∧ Fr (rdC rd pl) σ σ' ∧ Bad rd pl n σ' p := by
  obtain ⟨σ', g1, g2, g3⟩ := new_bad h ha hp hN hlam
  refine ⟨σ', ?_, g2, g3⟩
  have h126 := h.h126 (b + p)
  unfold s_X5_expect
  rw [if_pos h.2.2.2.1, q_next h ha.1 hp ha.2.1 (by omega), bd_eq, if_pos rfl, if_neg (by rw [I_eq (by omega) (by omega)]; omega), if_pos h.2.2.2.1, g1, bd_eq]
def FGoal (ch : Nat → Nat) (rd ca pl b n F : Nat) (kg : Nat → Int32 → St → Option (Int32 × St)) : Prop :=
  ∀ (σ : St) (d p N lam : Nat), RC ch rd ca pl b n σ → At rd pl σ p N lam → p ≤ n → 1 ≤ d → d ≤ p + 1 → 62 ≤ F + p → ¬ (pgoal ch F (b + p)).1 = true → N + (n - p) ≤ 60 → lam ≤ 1000 + p →
    ∃ r σ', kg rd (I d) σ = some (r, σ') ∧ Fr (rdC rd pl) σ σ' ∧ b ≤ (pgoal ch F (b + p)).2.1 ∧ Bad rd pl n σ' ((pgoal ch F (b + p)).2.1 - b)
theorem bad_61 {ch : Nat → Nat} {rd ca pl b n q : Nat} {σ : St} (h : RC ch rd ca pl b n σ) (hb : Bad rd pl n σ q) (kg : Nat → Int32 → St → Option (Int32 × St)) {o : Int} {f : Nat} (ho : -1 ≤ o ∧ o ≤ 11) (hf : f < 3) (c bo : Int32) : ∃ σ', s_X5_readFace_61 kg rd (I o) (I (f : Nat)) c bo σ = some ((), σ') ∧ Fr (rdC rd pl) σ σ' ∧ Bad rd pl n σ' q := by
  obtain ⟨p', N', lam', h1, h2, h3, h4, h5, h6, h7, h8⟩ := hb
  have hrd := h.2.2.1.1
  have hpl := h.2.1
  refine ⟨setF pl o f c bo σ, ?_, (Fr.refl σ).setF _ _ _ _, p', N', lam', ?_, h2, ?_, h4, ?_, h6, ?_, h8⟩
  · unfold s_X5_readFace_61
    rw [if_pos h.2.2.2.1, h.2.2.2.2.2.1, op_eq, if_pos h.pl3, q_setFace h.1 h.2.1 (by omega) (by omega), bd_eq]
  · rw [setF_other _ _ _ _ _ _ (by omega)]; exact h1
  · rw [setF_other _ _ _ _ _ _ (by omega)]; exact h3
  · rw [setF_other _ _ _ _ _ _ (by omega)]; exact h5
  · rw [setF_other _ _ _ _ _ _ (by omega)]; exact h7
theorem f_face {ch : Nat → Nat} {rd ca pl b n F : Nat} {kg : Nat → Int32 → St → Option (Int32 × St)} (hk : FGoal ch rd ca pl b n F kg) {σ : St} {d p N lam f : Nat} {o : Int} (h : RC ch rd ca pl b n σ) (ha : At rd pl σ p N lam) (hp : p ≤ n) (hd1 : 1 ≤ d) (hd2 : d ≤ p + 1) (hF : 62 ≤ F + p + 1)
    (hR : ¬ (pface (pgoal ch F) ch (b + p)).1 = true) (hN : N + (n - p) ≤ 60) (hlam : lam ≤ 1000 + p) (ho : -1 ≤ o ∧ o ≤ 11) (hf : f < 3) :
    ∃ σ' : St, s_X5_readFace kg rd (I o) (I (f : Nat)) (I d) σ = some ((), σ') ∧ Fr (rdC rd pl) σ σ' ∧ b ≤ (pface (pgoal ch F) ch (b + p)).2.1 ∧ Bad rd pl n σ' ((pface (pgoal ch F) ch (b + p)).2.1 - b) := by
  have hn := h.hn
  have h126 := h.h126 (b + p)
  have n1 := q_next h ha.1 hp ha.2.1 (by omega)
  rw [if_pos rfl] at n1
  by_cases hat : isAt (ch (b + p)) = true
  · have hpn := h.lt hp (by intro q; rw [q] at hat; revert hat; decide)
    obtain ⟨a1, f1, r1, k1⟩ := step_at h ha
    have n2 := q_next r1 a1.1 hpn a1.2.1 (by omega)
    rw [if_pos rfl] at n2
    by_cases c60 : ch (b + p + 1) = 60
    · have hR2 : pface (pgoal ch F) ch (b + p) = pgoal ch F (b + (p + 2)) := by
        unfold pface
        rw [if_pos hat, if_pos c60]
        rfl
      rw [hR2] at hR ⊢
      have hpn2 := r1.lt (p := p + 1) hpn (by show ch (b + p + 1) ≠ 0; omega)
      obtain ⟨a2, f2, r2, k2⟩ := step_at r1 a1
      obtain ⟨r, σ3, g1, g2, g3, g4⟩ := hk _ (d + 1) (p + 2) N lam r2 a2 (by omega) (by omega) (by omega) (by omega) hR (by omega) (by omega)
      obtain ⟨σ4, j1, j2, j3⟩ := bad_61 (r2.fr g2) g4 kg ho hf (I (ch (b + p) : Nat)) r
      refine ⟨σ4, ?_, ((f1.trans f2).trans g2).trans j2, g3, j3⟩
      unfold s_X5_readFace
      have hc2 : ch (b + (p + 1)) = 60 := c60
      rw [if_pos h.2.2.2.1, n1, bd_eq, q_isAtom (by omega), hat, if_pos rfl, bd_eq, if_neg (by decide)]
      simp only [h.2.2.2.1, if_true, ha.1, I_s, lt_eq, n2, bd_eq, hc2]
      rw [if_pos (by decide), if_pos r1.2.2.2.1]
      simp only [a1.1, I_s, g1, bd_eq]
      exact j1
    · exfalso
      unfold pface at hR
      rw [if_pos hat, if_neg c60] at hR
      exact hR rfl
  · have hR2 : pface (pgoal ch F) ch (b + p) = (false, b + p, 0, 0) := by unfold pface; rw [if_neg hat]
    rw [hR2]
    obtain ⟨σ', g1, g2, g3⟩ := new_bad h ha hp (by omega) (by omega)
    refine ⟨σ', ?_, g2, by dsimp only; omega, by show Bad rd pl n σ' (b + p - b); rw [show b + p - b = p by omega]; exact g3⟩
    unfold s_X5_readFace
    rw [if_pos h.2.2.2.1, n1, bd_eq, q_isAtom (by omega), if_neg hat, bd_eq, if_pos rfl, if_pos h.2.2.2.1, g1, bd_eq]
theorem off_moreF {ch : Nat → Nat} {rd ca pl b n F : Nat} {kg : Nat → Int32 → St → Option (Int32 × St)} (hk : FGoal ch rd ca pl b n F kg) {σ : St} {d p N lam f m : Nat} {o : Int} (h : RC ch rd ca pl b n σ) (ha : At rd pl σ p N lam) (hp : p ≤ n) (hd1 : 1 ≤ d) (hd2 : d ≤ p + 1) (hF : 62 ≤ F + p + 1) (hc : ch (b + p) = 124)
    (hR : ¬ (pface (pgoal ch F) ch (b + p + 1)).1 = true) (hN : N + (n - p) ≤ 60) (hlam : lam ≤ 1000 + p) (ho : -1 ≤ o ∧ o ≤ 11) (hf : f < 3) :
    ∃ σ' : St, s_X5_readOffer_9 kg (m + 2) rd (I o) (I d) (I (f : Nat)) σ = some ((), σ') ∧ Fr (rdC rd pl) σ σ' ∧ b ≤ (pface (pgoal ch F) ch (b + p + 1)).2.1 ∧ Bad rd pl n σ' ((pface (pgoal ch F) ch (b + p + 1)).2.1 - b) := by
  have hpn := h.lt hp (by omega)
  obtain ⟨a1, f1, r1, k1⟩ := step_at h ha
  obtain ⟨σ2, g1, g2, g3, g4⟩ := f_face hk (o := o) (f := f) (d := d) r1 a1 hpn hd1 (by omega) (by omega) hR (by omega) (by omega) ho hf
  refine ⟨σ2, ?_, f1.trans g2, g3, g4⟩
  rw [offl]
  unfold sb_X5_readOffer_9
  have e3 : ((3 : Int32) ≤ I (f : Nat)) ↔ 3 ≤ f := by rw [I_lit, I_le (by omega) (by omega)]; omega
  rw [if_neg (fun q => by have := e3.mp q; omega), if_pos h.2.2.2.1, q_next h ha.1 hp ha.2.1 (by omega), bd_eq, if_pos rfl, hc, if_pos (by decide), if_pos h.2.2.2.1]
  simp only [ha.1, I_s, lt_eq, g1, bd_eq]
  exact bad_loop ((r1).fr g2) g4 kg _ _ _ _
