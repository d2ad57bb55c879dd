theorem q_settle {σ : St} (hs : SS σ) {k it : Nat} (hk : k < 10) (hi : isO σ 1 it = true) : s_X10_settle 1 (I (k : Nat)) it σ = some ((), setI (setI (setP σ 5 k (some it)) 2 1 0) 1 11 1) ∧ SS (setP σ 5 k (some it)) := by
  have hs1 : SS (setP σ 5 k (some it)) := by
    obtain ⟨a, b, c⟩ := hs
    refine ⟨a, b, fun q hq => ?_⟩
    have hk : q.1 ≠ 5 := by
      have : ∀ q ∈ stP, q.1 ≠ 5 := by decide
      exact this q hq
    rw [sP_P, if_neg (fun h => hk h.1)]
    exact c q hq
  refine ⟨?_, hs1⟩
  unfold s_X10_settle s_X6_set s_X7_clear
  rw [if_pos (hs.o 10 1 (by decide)), hs.p 1 1 4 (by decide), op_eq, if_pos (hs.o 6 4 (by decide)), if_neg (by rw [I_lit, I_lt (by omega) (by omega)]; omega), if_neg (by rw [I_lit, I_le (by omega) (by omega)]; omega), if_pos (hs.o 6 4 (by decide)), hs.p 4 0 5 (by decide), op_eq, if_pos (hs.o 16 5 (by decide)), on_some', hs.len 5 10 (by decide), if_pos (inN hk (by omega)), if_pos hi, tNI (by omega), lt_eq, bd_eq,
    if_pos (hs1.o 10 1 (by decide)), hs1.p 1 0 2 (by decide), op_eq, if_pos (hs1.o 7 2 (by decide)), if_pos (hs1.o 7 2 (by decide)), lt_eq, bd_eq, if_pos ((hs1.i 2 1 0).o 10 1 (by decide)), lt_eq]
def tcI : Nat → Nat → Prop := fun a k => rtI a k ∨ (a = 2 ∧ k = 1) ∨ (a = 1 ∧ k = 11)
/-- what the class does with its text -/
def ctPost (ch sl : Nat → Nat) (fr to g : Nat) (σ : St) (r : Int32) (σ' : St) : Prop :=
  sn σ' ≤ sn σ + 3 ∧ sz σ' ≤ sz σ + 67 ∧ match bufF ch sl g with
  | some f => r = I (-7) ∧ Gr rtI (fun _ _ => False) σ σ' ∧ sI σ' 1 10 = I (f : Nat)
  | none => sI σ' 1 10 = sI σ 1 10 ∧ match slotOf sl fr to g with
    | none => r = I (-4) ∧ Gr rtI (fun _ _ => False) σ σ'
    | some k => if tot (nN ch sl) (if g = 0 then 99 else 0) 10 + (bufR ch g).2.2.1 ≤ 60 ∧ tot (lL ch sl) (if g = 0 then 99 else 0) 10 + (bufR ch g).2.2.2 ≤ 3 then
        r = (if g = 0 then I ((k - fr : Nat) : Int) else I ((bufR ch g).2.2.1 : Nat)) ∧ Gr tcI (fun a x => a = 5 ∧ x = k) σ σ' ∧ (∃ it, sP σ' 5 k = some it ∧ Itm σ' it (sl 10) (fun i => ch (640 + i)) (bufR ch g).2.2.1 (bufR ch g).2.2.2) ∧ sI σ' 2 1 = I (0 : Nat) ∧ sI σ' 1 11 = I (1 : Nat)
      else r = I (-4) ∧ Gr rtI (fun _ _ => False) σ σ'
theorem settled {σ0 σ : St} {n it k kk ll : Nat} {x : Nat → Nat} (hs : SS σ) (hg : Gr rtI (fun _ _ => False) σ0 σ) (h54 : 30 ≤ sn σ0) (hi : Itm σ it n x kk ll) : Gr tcI (fun a y => a = 5 ∧ y = k) σ0 (setI (setI (setP σ 5 k (some it)) 2 1 0) 1 11 1) ∧ (∃ it', sP (setI (setI (setP σ 5 k (some it)) 2 1 0) 1 11 1) 5 k = some it' ∧ Itm (setI (setI (setP σ 5 k (some it)) 2 1 0) 1 11 1) it' n x kk ll) ∧ sI (setI (setI (setP σ 5 k (some it)) 2 1 0) 1 11 1) 2 1 = I (0 : Nat) ∧ sI (setI (setI (setP σ 5 k (some it)) 2 1 0) 1 11 1) 1 11 = I (1 : Nat) ∧ sI (setI (setI (setP σ 5 k (some it)) 2 1 0) 1 11 1) 1 10 = sI σ 1 10 := by
  have hI : ∀ a y, (a = 2 ∧ y = 1) ∨ (a = 1 ∧ y = 11) ∨ sI (setI (setI (setP σ 5 k (some it)) 2 1 0) 1 11 1) a y = sI σ a y := fun a y => by
    by_cases c1 : a = 2 ∧ y = 1
    · exact Or.inl c1
    by_cases c2 : a = 1 ∧ y = 11
    · exact Or.inr (Or.inl c2)
    · right; right
      rw [sIn (by omega), sIn (by omega)]
      rfl
  have hP : ∀ a y, ¬ (a = 5 ∧ y = k) → sP (setI (setI (setP σ 5 k (some it)) 2 1 0) 1 11 1) a y = sP σ a y := fun a y h => by
    show sP (setP σ 5 k (some it)) a y = _
    rw [sP_P, if_neg h]
  obtain ⟨b1, b2, b3, b4, c, b5, b6, b7, b8, b9⟩ := hi
  refine ⟨?_, ⟨it, ?_, b1, b2, ?_, ?_, c, ?_, b6, b7, b8, fun i hi => ?_⟩, ?_, sIe, ?_⟩
  · obtain ⟨a1, a2, a3, a4, a5⟩ := hg
    refine ⟨a1, a2, fun a y ha hc => ?_, a4, fun a y ha hc => ?_⟩
    · rcases hI a y with q | q | q
      · exact absurd (Or.inr (Or.inl q)) hc
      · exact absurd (Or.inr (Or.inr q)) hc
      · rw [q]; exact a3 a y ha (fun h => hc (Or.inl h))
    · rw [hP a y hc]; exact a5 a y ha id
  · show sP (setP σ 5 k (some it)) 5 k = _
    rw [sP_P, if_pos ⟨rfl, rfl⟩]
  · rcases hI it 1 with q | q | q
    · omega
    · omega
    · rw [q]; exact b3
  · rcases hI it 2 with q | q | q
    · omega
    · omega
    · rw [q]; exact b4
  · rw [hP it 0 (by omega)]; exact b5
  · rcases hI c i with q | q | q
    · omega
    · omega
    · rw [q]; exact b9 i hi
  · rw [sIn (by omega), sIe]; rfl
  · rcases hI 1 10 with q | q | q
    · omega
    · omega
    · exact q
theorem Stk.rt {arr : Nat} {ch sl : Nat → Nat} {σ σ' : St} (h : Stk arr ch sl σ) (hg : Gr rtI (fun _ _ => False) σ σ') (ha : arr < sn σ) : Stk arr ch sl σ' := h.gr hg ha (fun a k q => by unfold rtI at q; omega) (fun a k q => q.elim)
/-- the class takes an offer -/
theorem c_takeOffer {ch sl : Nat → Nat} (ht : Txt ch sl) {σ : St} (hs : SS σ) (hb : CB ch sl σ) (hst : Stk 5 ch sl σ) (hT : ∀ b, tot (nN ch sl) b 10 ≤ 1000 ∧ tot (lL ch sl) b 10 ≤ 1000) {fr to : Nat} (h1 : 1 ≤ fr) (h2 : fr ≤ to) (h3 : to < 10) :
    ∃ r σ', s_X10_takeOffer 1 (I (fr : Nat)) (I ((to + 1 - fr : Nat) : Int)) σ = some (r, σ') ∧ ctPost ch sl fr to 0 σ r σ' := by
  obtain ⟨res, σ1, a1, a2, a3, a4, a5⟩ := q_readText ht hs hb (g := 0) (by omega)
  rw [if_neg (by omega)] at a1
  have hs1 := a2.ss hs (fun _ _ q => q.elim)
  have h54 := hs.1
  have hst1 := hst.rt a2 (by omega)
  unfold s_X10_takeOffer ctPost
  rw [if_pos (hs.o 10 1 (by decide)), a1, bd_eq]
  unfold rtP at a5
  cases hf : bufF ch sl 0 with
  | some f =>
    rw [hf] at a5
    obtain ⟨rfl, b2⟩ := a5
    rw [on_none]
    exact ⟨_, σ1, rfl, a3, a4, rfl, a2, b2⟩
  | none =>
    rw [hf] at a5
    obtain ⟨b1, it, rfl, b3, b4⟩ := a5
    obtain ⟨f1, f2⟩ := bufR_fits ht hf
    rw [on_some', if_pos (hs1.o 10 1 (by decide)), hs1.p 1 1 4 (by decide), op_eq, if_pos (hs1.o 6 4 (by decide))]
    have hfr := q_free (fr := fr) (to + 1 - fr) fr (15999 - (to + 1 - fr)) (to + 1 - fr) (by omega) (by omega) hs1 hst1
    rw [show 15999 - (to + 1 - fr) + (to + 1 - fr) + 1 = 16000 by omega] at hfr
    unfold s_X6_firstFree
    rw [hfr, bd_eq]
    have hso : slotOf sl fr to 0 = free sl fr (to + 1 - fr) := by unfold slotOf; rw [if_neg (by omega)]
    cases ho : free sl fr (to + 1 - fr) with
    | none =>
      rw [if_pos (show oJ none = -1 from rfl)]
      refine ⟨_, σ1, rfl, a3, a4, b1, ?_⟩
      rw [hso, ho]
      exact ⟨rfl, a2⟩
    | some k =>
      obtain ⟨k1, k2, k3⟩ := free_lt _ _ ho
      have hk : k < 10 := by omega
      have hN := (tot_but (f := nN ch sl) (b := k) 10).resolve_right (by omega)
      have hL := (tot_but (f := lL ch sl) (b := k) 10).resolve_right (by omega)
      rw [if_pos hk, show nN ch sl k = 0 by unfold nN; rw [if_pos k3]] at hN
      rw [if_pos hk, show lL ch sl k = 0 by unfold lL; rw [if_pos k3]] at hL
      rw [if_neg (show ¬ oJ (some k) = -1 by show ¬ I (k : Nat) = -1; rw [hm1, I_eq (by omega) (by omega)]; omega), if_pos (hs1.o 10 1 (by decide)), hs1.p 1 1 4 (by decide), op_eq, if_pos (hs1.o 6 4 (by decide))]
      show ∃ r σ', (bd (s_X6_hasRoom 4 (I (k : Nat)) it σ1) _) = _ ∧ _
      rw [q_hasRoom hs1 hst1 hk b4 (by omega) (by omega) (hT k), bd_eq]
      have e99 : tot (nN ch sl) k 10 = tot (nN ch sl) 99 10 ∧ tot (lL ch sl) k 10 = tot (lL ch sl) 99 10 := ⟨by omega, by omega⟩
      rw [e99.1, e99.2]
      by_cases cc : tot (nN ch sl) 99 10 + (bufR ch 0).2.2.1 ≤ 60 ∧ tot (lL ch sl) 99 10 + (bufR ch 0).2.2.2 ≤ 3
      · obtain ⟨s1, s2⟩ := q_settle hs1 hk b4.1
        obtain ⟨t1, t2, t3, t4, t5⟩ := settled (k := k) hs1 a2 h54 b4
        rw [if_pos cc, if_neg (by decide), if_pos (hs1.o 10 1 (by decide))]
        show ∃ r σ', (bd (s_X10_settle 1 (I (k : Nat)) it σ1) _) = _ ∧ _
        rw [s1, bd_eq]
        refine ⟨_, _, rfl, a3, a4, t5.trans b1, ?_⟩
        rw [hso, ho]
        dsimp only
        rw [if_pos (show (0 : Nat) = 0 from rfl), if_pos (show (0 : Nat) = 0 from rfl), if_pos cc]
        refine ⟨?_, t1, t2, t3, t4⟩
        show I (k : Nat) - I (fr : Nat) = _
        rw [I_sub, show ((k : Int) - (fr : Int)) = ((k - fr : Nat) : Int) by omega]
      · rw [if_neg cc, if_pos rfl]
        refine ⟨_, σ1, rfl, a3, a4, b1, ?_⟩
        rw [hso, ho]
        dsimp only
        rw [if_pos (show (0 : Nat) = 0 from rfl), if_pos (show (0 : Nat) = 0 from rfl), if_neg cc]
        exact ⟨rfl, a2⟩
/-- the class takes a goal -/
theorem c_goal {ch sl : Nat → Nat} (ht : Txt ch sl) {σ : St} (hs : SS σ) (hb : CB ch sl σ) (hst : Stk 5 ch sl σ) (hT : ∀ b, tot (nN ch sl) b 10 ≤ 1000 ∧ tot (lL ch sl) b 10 ≤ 1000) :
    ∃ r σ', s_X10_goal 1 σ = some (r, σ') ∧ ctPost ch sl 0 0 1 σ r σ' := by
  obtain ⟨res, σ1, a1, a2, a3, a4, a5⟩ := q_readText ht hs hb (g := 1) (by omega)
  rw [if_pos rfl] at a1
  have hs1 := a2.ss hs (fun _ _ q => q.elim)
  have h54 := hs.1
  have hst1 := hst.rt a2 (by omega)
  unfold s_X10_goal ctPost
  rw [if_pos (hs.o 10 1 (by decide)), a1, bd_eq]
  unfold rtP at a5
  cases hf : bufF ch sl 1 with
  | some f =>
    rw [hf] at a5
    obtain ⟨rfl, b2⟩ := a5
    rw [on_none]
    exact ⟨_, σ1, rfl, a3, a4, rfl, a2, b2⟩
  | none =>
    rw [hf] at a5
    obtain ⟨b1, it, rfl, b3, b4⟩ := a5
    obtain ⟨f1, f2⟩ := bufR_fits ht hf
    have hso : slotOf sl 0 0 1 = some 0 := by unfold slotOf; rw [if_pos rfl]
    rw [on_some', if_pos (hs1.o 10 1 (by decide)), hs1.p 1 1 4 (by decide), op_eq, if_pos (hs1.o 6 4 (by decide)), show (0 : Int32) = I ((0 : Nat) : Int) from rfl, q_hasRoom hs1 hst1 (by omega) b4 (by omega) (by omega) (hT 0), bd_eq]
    by_cases cc : tot (nN ch sl) 0 10 + (bufR ch 1).2.2.1 ≤ 60 ∧ tot (lL ch sl) 0 10 + (bufR ch 1).2.2.2 ≤ 3
    · obtain ⟨s1, s2⟩ := q_settle (k := 0) hs1 (by omega) b4.1
      obtain ⟨t1, t2, t3, t4, t5⟩ := settled (k := 0) hs1 a2 h54 b4
      rw [if_pos cc, if_neg (by decide), if_pos (hs1.o 10 1 (by decide)), s1, bd_eq]
      obtain ⟨it', u1, u2⟩ := id t2
      have hio : isO (setI (setI (setP σ1 5 0 (some it)) 2 1 0) 1 11 1) 1 it = true := b4.1
      have hkk : sI (setI (setI (setP σ1 5 0 (some it)) 2 1 0) 1 11 1) it 1 = I ((bufR ch 1).2.2.1 : Nat) := by
        have h54i := b4.2.1
        rw [sIn (by omega), sIn (by omega)]
        exact b4.2.2.1
      unfold s_X1_nodes
      rw [if_pos hio, if_pos hio, bd_eq, hkk]
      refine ⟨_, _, rfl, a3, a4, t5.trans b1, ?_⟩
      rw [hso]
      dsimp only
      rw [if_neg (show ¬ (1 : Nat) = 0 by decide), if_neg (show ¬ (1 : Nat) = 0 by decide), if_pos cc]
      exact ⟨rfl, t1, t2, t3, t4⟩
    · rw [if_neg cc, if_pos (show (0 : Int32) = I ((0 : Nat) : Int) from rfl)]
      refine ⟨_, σ1, rfl, a3, a4, b1, ?_⟩
      rw [hso]
      dsimp only
      rw [if_neg (show ¬ (1 : Nat) = 0 by decide), if_neg (show ¬ (1 : Nat) = 0 by decide), if_neg cc]
      exact ⟨rfl, a2⟩
