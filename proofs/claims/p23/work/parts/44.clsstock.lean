/-- the texts that a row of items holds -/
def Stk (arr : Nat) (ch sl : Nat → Nat) (σ : St) : Prop := ∀ s, s < 10 → if sl s = 0 then sP σ arr s = none else ∃ it, sP σ arr s = some it ∧ Itm σ it (sl s) (fun i => ch (64 * s + i)) (nN ch sl s) (lL ch sl s)
theorem Itm.gr {σ σ' : St} {CI CP : Nat → Nat → Prop} {it n k l : Nat} {x : Nat → Nat} (h : Itm σ it n x k l) (hg : Gr CI CP σ σ') (h1 : ∀ a k, CI a k → a < 30) (h2 : ∀ a k, CP a k → a < 30) : Itm σ' it n x k l := by
  obtain ⟨a1, a2, a3, a4, c, a5, a6, a7, a8, a9⟩ := h
  have l1 := (isO_lt a1).2
  have l2 := (isO_lt a7).2
  refine ⟨hg.o a1, a2, by rw [hg.2.2.1 it 1 l1 (fun q => by have := h1 _ _ q; omega)]; exact a3, by rw [hg.2.2.1 it 2 l1 (fun q => by have := h1 _ _ q; omega)]; exact a4, c, by rw [hg.2.2.2.2 it 0 l1 (fun q => by have := h2 _ _ q; omega)]; exact a5, a6, hg.o a7, by rw [hg.len l2]; exact a8, fun i hi => ?_⟩
  rw [hg.2.2.1 c i l2 (fun q => by have := h1 _ _ q; omega)]
  exact a9 i hi
theorem Stk.gr {arr : Nat} {ch sl : Nat → Nat} {σ σ' : St} {CI CP : Nat → Nat → Prop} (h : Stk arr ch sl σ) (hg : Gr CI CP σ σ') (ha : arr < sn σ) (h1 : ∀ a k, CI a k → a < 30) (h2 : ∀ a k, CP a k → a < 30 ∧ a ≠ arr) : Stk arr ch sl σ' := by
  intro s hs
  have := h s hs
  have e : sP σ' arr s = sP σ arr s := hg.2.2.2.2 arr s ha (fun q => by have := h2 _ _ q; omega)
  by_cases c : sl s = 0
  · rw [if_pos c] at this ⊢
    rw [e]; exact this
  · rw [if_neg c] at this ⊢
    obtain ⟨it, a, b⟩ := this
    exact ⟨it, by rw [e]; exact a, b.gr hg h1 (fun a k q => (h2 a k q).1)⟩
theorem q_at {σ : St} (hs : SS σ) {k : Nat} (hk : k < 10) : s_X6_at 4 (I (k : Nat)) σ = some (sP σ 5 k, σ) := by
  unfold s_X6_at
  rw [if_neg (by rw [I_lit, I_lt (by omega) (by omega)]; omega), if_neg (by rw [I_lit, I_le (by omega) (by omega)]; omega), if_pos (hs.o 6 4 (by decide)), hs.p 4 0 5 (by decide), op_eq, if_pos (hs.o 16 5 (by decide)), hs.len 5 10 (by decide), if_pos (inN hk (by omega)), tNI (by omega)]
theorem sum_loopN {ch sl : Nat → Nat} : ∀ (j k m : Nat) {σ : St}, k + j = 10 → SS σ → Stk 5 ch sl σ → s_X6_nodes_13 (m + j + 1) (I (tot (nN ch sl) 99 k : Nat)) 5 (I (10 : Nat)) (I (k : Nat)) σ = some (I (tot (nN ch sl) 99 10 : Nat), σ) := by
  intro j
  induction j with
  | zero =>
    intro k m σ hkj hs hk
    obtain rfl : k = 10 := (by omega)
    show sb_X6_nodes_13 (s_X6_nodes_13 (m + 0)) _ 5 (I (10 : Nat)) (I (10 : Nat)) σ = _
    unfold sb_X6_nodes_13
    rw [if_pos (by decide)]
  | succ j ih =>
    intro k m σ hkj hs hst
    have hk : k < 10 := by omega
    have ih := ih (k + 1) m (by omega) hs hst
    rw [show m + (j + 1) + 1 = (m + j + 1) + 1 by omega]
    show sb_X6_nodes_13 (s_X6_nodes_13 (m + j + 1)) _ 5 (I (10 : Nat)) (I (k : Nat)) σ = _
    have e1 : tot (nN ch sl) 99 (k + 1) = tot (nN ch sl) 99 k + nN ch sl k := by
      show tot (nN ch sl) 99 k + (if k = 99 then 0 else nN ch sl k) = _
      rw [if_neg (by omega)]
    rw [e1] at ih
    unfold sb_X6_nodes_13 s_X6_nodes_40
    rw [if_neg (by rw [I_le (by omega) (by omega)]; omega), if_pos (hs.o 16 5 (by decide)), hs.len 5 10 (by decide), if_pos (inN hk (by omega)), tNI (by omega)]
    have := hst k hk
    by_cases c : sl k = 0
    · have hz : nN ch sl k = 0 := by unfold nN; rw [if_pos c]
      rw [if_pos c] at this
      rw [this, on_none, I_lit, I_add, I_p1]
      rw [hz] at ih
      exact ih
    · rw [if_neg c] at this
      obtain ⟨it, a, b1, b2, b3, b4, b5⟩ := this
      unfold s_X1_nodes
      rw [a, on_some', if_pos b1, if_pos b1, bd_eq, b3, I_add, I_p1]
      exact ih
theorem sum_loopL {ch sl : Nat → Nat} : ∀ (j k m : Nat) {σ : St}, k + j = 10 → SS σ → Stk 5 ch sl σ → s_X6_loans_13 (m + j + 1) (I (tot (lL ch sl) 99 k : Nat)) 5 (I (10 : Nat)) (I (k : Nat)) σ = some (I (tot (lL ch sl) 99 10 : Nat), σ) := by
  intro j
  induction j with
  | zero =>
    intro k m σ hkj hs hk
    obtain rfl : k = 10 := (by omega)
    show sb_X6_loans_13 (s_X6_loans_13 (m + 0)) _ 5 (I (10 : Nat)) (I (10 : Nat)) σ = _
    unfold sb_X6_loans_13
    rw [if_pos (by decide)]
  | succ j ih =>
    intro k m σ hkj hs hst
    have hk : k < 10 := by omega
    have ih := ih (k + 1) m (by omega) hs hst
    rw [show m + (j + 1) + 1 = (m + j + 1) + 1 by omega]
    show sb_X6_loans_13 (s_X6_loans_13 (m + j + 1)) _ 5 (I (10 : Nat)) (I (k : Nat)) σ = _
    have e1 : tot (lL ch sl) 99 (k + 1) = tot (lL ch sl) 99 k + lL ch sl k := by
      show tot (lL ch sl) 99 k + (if k = 99 then 0 else lL ch sl k) = _
      rw [if_neg (by omega)]
    rw [e1] at ih
    unfold sb_X6_loans_13 s_X6_loans_40
    rw [if_neg (by rw [I_le (by omega) (by omega)]; omega), if_pos (hs.o 16 5 (by decide)), hs.len 5 10 (by decide), if_pos (inN hk (by omega)), tNI (by omega)]
    have := hst k hk
    by_cases c : sl k = 0
    · have hz : lL ch sl k = 0 := by unfold lL; rw [if_pos c]
      rw [if_pos c] at this
      rw [this, on_none, I_lit, I_add, I_p1]
      rw [hz] at ih
      exact ih
    · rw [if_neg c] at this
      obtain ⟨it, a, b1, b2, b3, b4, b5⟩ := this
      unfold s_X1_loans
      rw [a, on_some', if_pos b1, if_pos b1, bd_eq, b4, I_add, I_p1]
      exact ih
theorem q_nodes {ch sl : Nat → Nat} {σ : St} (hs : SS σ) (hst : Stk 5 ch sl σ) : s_X6_nodes 4 σ = some (I (tot (nN ch sl) 99 10 : Nat), σ) := by
  unfold s_X6_nodes
  rw [if_pos (hs.o 6 4 (by decide)), hs.p 4 0 5 (by decide), op_eq, if_pos (hs.o 16 5 (by decide)), hs.len 5 10 (by decide), I_nI, lt_eq]
  exact sum_loopN 10 0 15989 rfl hs hst
theorem q_loans {ch sl : Nat → Nat} {σ : St} (hs : SS σ) (hst : Stk 5 ch sl σ) : s_X6_loans 4 σ = some (I (tot (lL ch sl) 99 10 : Nat), σ) := by
  unfold s_X6_loans
  rw [if_pos (hs.o 6 4 (by decide)), hs.p 4 0 5 (by decide), op_eq, if_pos (hs.o 16 5 (by decide)), hs.len 5 10 (by decide), I_nI, lt_eq]
  exact sum_loopL 10 0 15989 rfl hs hst
def oJ (o : Option Nat) : Int32 := match o with
  | none => I (-1)
  | some k => I (k : Nat)
theorem q_free {ch sl : Nat → Nat} {fr : Nat} : ∀ (c k m cnt : Nat) {σ : St}, k + c = fr + cnt → fr + cnt ≤ 10 → SS σ → Stk 5 ch sl σ → s_X6_firstFree_2 (m + c + 1) 4 (I (fr : Nat)) (I (cnt : Nat)) (I (k : Nat)) σ = some (oJ (free sl k c), σ) := by
  intro c
  induction c with
  | zero =>
    intro k m cnt σ hk hc hs hst
    show sb_X6_firstFree_2 (s_X6_firstFree_2 (m + 0)) 4 (I (fr : Nat)) (I (cnt : Nat)) (I (k : Nat)) σ = _
    unfold sb_X6_firstFree_2
    rw [I_add, if_pos (by rw [I_le (by omega) (by omega)]; omega)]
    rfl
  | succ c ih =>
    intro k m cnt σ hk hc hs hst
    rw [show m + (c + 1) + 1 = (m + c + 1) + 1 by omega]
    show sb_X6_firstFree_2 (s_X6_firstFree_2 (m + c + 1)) 4 (I (fr : Nat)) (I (cnt : Nat)) (I (k : Nat)) σ = _
    unfold sb_X6_firstFree_2
    rw [I_add, if_neg (by rw [I_le (by omega) (by omega)]; omega), if_pos (hs.o 6 4 (by decide)), q_at hs (show k < 10 by omega), bd_eq]
    have := hst k (by omega)
    unfold free
    by_cases c0 : sl k = 0
    · rw [if_pos c0] at this ⊢
      rw [this, on_none]
      rfl
    · rw [if_neg c0] at this ⊢
      obtain ⟨it, a, b⟩ := this
      rw [a, on_some', I_p1, lt_eq]
      exact ih (k + 1) m cnt (by omega) hc hs hst
theorem tot_but {f : Nat → Nat} {b : Nat} : ∀ k, (if b < k then tot f 99 k = tot f b k + f b else tot f 99 k = tot f b k) ∨ 99 ≤ k := by
  intro k
  induction k with
  | zero => left; rw [if_neg (by omega)]; rfl
  | succ k ih =>
    by_cases h99 : 99 ≤ k + 1
    · exact Or.inr h99
    left
    have ih := ih.resolve_right (by omega)
    have e1 : tot f 99 (k + 1) = tot f 99 k + f k := by
      show tot f 99 k + (if k = 99 then 0 else f k) = _
      rw [if_neg (by omega)]
    have e2 : tot f b (k + 1) = tot f b k + if k = b then 0 else f k := rfl
    rw [e1, e2]
    by_cases c : k = b
    · subst c
      rw [if_neg (by omega)] at ih
      rw [if_pos (by omega), if_pos rfl]
      omega
    · rw [if_neg c]
      by_cases c2 : b < k
      · rw [if_pos c2] at ih
        rw [if_pos (by omega)]
        omega
      · rw [if_neg c2] at ih
        rw [if_neg (by omega)]
        omega
theorem q_hasRoom {ch sl : Nat → Nat} {σ : St} (hs : SS σ) (hst : Stk 5 ch sl σ) {k it n kk ll : Nat} {x : Nat → Nat} (hk : k < 10) (hi : Itm σ it n x kk ll) (hkk : kk ≤ 1000) (hll : ll ≤ 1000) (hT : tot (nN ch sl) k 10 ≤ 1000 ∧ tot (lL ch sl) k 10 ≤ 1000) :
    s_X6_hasRoom 4 (I (k : Nat)) it σ = some (if tot (nN ch sl) k 10 + kk ≤ 60 ∧ tot (lL ch sl) k 10 + ll ≤ 3 then 1 else 0, σ) := by
  obtain ⟨i1, i2, i3, i4, -⟩ := hi
  have hN := (tot_but (f := nN ch sl) (b := k) 10).resolve_right (by omega)
  have hL := (tot_but (f := lL ch sl) (b := k) 10).resolve_right (by omega)
  rw [if_pos hk] at hN hL
  have h32 : ∀ a b : Nat, a = nN ch sl k → b = lL ch sl k → s_X6_hasRoom_32 4 it (I (a : Nat)) (I (b : Nat)) σ = some (if tot (nN ch sl) k 10 + kk ≤ 60 ∧ tot (lL ch sl) k 10 + ll ≤ 3 then 1 else 0, σ) := fun a b ha hb => by
    unfold s_X6_hasRoom_32 s_X1_nodes s_X1_loans
    rw [if_pos (hs.o 6 4 (by decide)), q_nodes hs hst, bd_eq, if_pos i1, if_pos i1, bd_eq, i3, I_sub, I_add, hN]
    have e1 : ((tot (nN ch sl) k 10 + nN ch sl k : Nat) : Int) - (a : Int) + (kk : Int) = ((tot (nN ch sl) k 10 + kk : Nat) : Int) := by omega
    rw [e1]
    by_cases c1 : tot (nN ch sl) k 10 + kk ≤ 60
    · rw [if_neg (by rw [I_lit, I_lt (by omega) (by omega)]; omega), if_pos (hs.o 6 4 (by decide)), q_loans hs hst, bd_eq, if_pos i1, if_pos i1, bd_eq, i4, I_sub, I_add, hL]
      have e2 : ((tot (lL ch sl) k 10 + lL ch sl k : Nat) : Int) - (b : Int) + (ll : Int) = ((tot (lL ch sl) k 10 + ll : Nat) : Int) := by omega
      rw [e2]
      by_cases c2 : tot (lL ch sl) k 10 + ll ≤ 3
      · rw [if_neg (by rw [I_lit, I_lt (by omega) (by omega)]; omega), if_pos ⟨c1, c2⟩]
      · rw [if_pos (by rw [I_lit, I_lt (by omega) (by omega)]; omega), if_neg (fun q => c2 q.2)]
    · rw [if_pos (by rw [I_lit, I_lt (by omega) (by omega)]; omega), if_neg (fun q => c1 q.1)]
  unfold s_X6_hasRoom s_X6_hasRoom_18
  rw [if_pos (hs.o 6 4 (by decide)), q_at hs hk, bd_eq]
  have := hst k hk
  by_cases c : sl k = 0
  · rw [if_pos c] at this
    rw [this, on_none, on_none]
    exact h32 0 0 (by unfold nN; rw [if_pos c]) (by unfold lL; rw [if_pos c])
  · rw [if_neg c] at this
    obtain ⟨it', a, b1, b2, b3, b4, b5⟩ := this
    unfold s_X1_nodes s_X1_loans
    rw [a, on_some', if_pos b1, if_pos b1, bd_eq, on_some', if_pos b1, if_pos b1, bd_eq, b3, b4]
    exact h32 _ _ rfl rfl
