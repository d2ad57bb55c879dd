/-! the class's reader -/
def Fr (C : Nat → Nat → Prop) (σ σ' : St) : Prop := sn σ' = sn σ ∧ sz σ' = sz σ ∧ sh σ' = sh σ ∧ sL σ' = sL σ ∧ sP σ' = sP σ ∧ ∀ a k, ¬ C a k → sI σ' a k = sI σ a k
theorem Fr.refl {C : Nat → Nat → Prop} (σ : St) : Fr C σ σ := ⟨rfl, rfl, rfl, rfl, rfl, fun _ _ _ => rfl⟩
theorem Fr.trans {C : Nat → Nat → Prop} {σ σ1 σ2 : St} (h : Fr C σ σ1) (h2 : Fr C σ1 σ2) : Fr C σ σ2 :=
  ⟨h2.1.trans h.1, h2.2.1.trans h.2.1, h2.2.2.1.trans h.2.2.1, h2.2.2.2.1.trans h.2.2.2.1, h2.2.2.2.2.1.trans h.2.2.2.2.1, fun a k hc => (h2.2.2.2.2.2 a k hc).trans (h.2.2.2.2.2 a k hc)⟩
theorem Fr.mono {C C' : Nat → Nat → Prop} {σ σ1 : St} (h : Fr C σ σ1) (hc : ∀ a k, C a k → C' a k) : Fr C' σ σ1 := ⟨h.1, h.2.1, h.2.2.1, h.2.2.2.1, h.2.2.2.2.1, fun a k hn => h.2.2.2.2.2 a k (fun q => hn (hc a k q))⟩
theorem Fr.put {C : Nat → Nat → Prop} {σ σ1 : St} (h : Fr C σ σ1) {a k : Nat} (v : Int32) (hc : C a k) : Fr C σ (setI σ1 a k v) :=
  ⟨h.1, h.2.1, h.2.2.1, h.2.2.2.1, h.2.2.2.2.1, fun x y hn => by
    rw [sI_I, if_neg (by rintro ⟨rfl, rfl⟩; exact hn hc)]
    exact h.2.2.2.2.2 x y hn⟩
theorem Fr.ss {C : Nat → Nat → Prop} {σ σ' : St} (h : Fr C σ σ') (hs : SS σ) : SS σ' := by
  unfold SS at hs ⊢
  rw [h.1, h.2.2.1, h.2.2.2.2.1]
  exact hs
theorem Fr.o {C : Nat → Nat → Prop} {σ σ' : St} (h : Fr C σ σ') (k a : Nat) : isO σ' k a = isO σ k a := by unfold isO; rw [h.1, h.2.2.1]
theorem Fr.len {C : Nat → Nat → Prop} {σ σ' : St} (h : Fr C σ σ') (a : Nat) : alen σ' a = alen σ a := by unfold alen; rw [h.2.2.1]
theorem Fr.p {C : Nat → Nat → Prop} {σ σ' : St} (h : Fr C σ σ') (a k : Nat) : sP σ' a k = sP σ a k := by rw [h.2.2.2.2.1]
theorem Fr.i {C : Nat → Nat → Prop} {σ σ' : St} (h : Fr C σ σ') (a k : Nat) (hc : ¬ C a k) : sI σ' a k = sI σ a k := h.2.2.2.2.2 a k hc
theorem chN {q : Int} (h0 : 0 ≤ q) (h : q < 65536) : ((I q).toUInt32 % 65536).toInt32 = I q := by
  obtain ⟨n, rfl⟩ : ∃ n : Nat, q = (n : Int) := ⟨q.toNat, by omega⟩
  have h1 := (pk_charN (q := n) (by omega)).1
  rw [I_nI] at h1
  injection h1
theorem chok_I {q : Int} (h0 : 0 ≤ q) (h : q < 65536) : chok (I q) = true := by
  unfold chok
  rw [chN h0 h]
  exact decide_eq_true rfl
/-- the places that a reader changes -/
def rdC (rd pl : Nat) : Nat → Nat → Prop := fun a k => (a = rd ∧ (k = 2 ∨ k = 3)) ∨ (pl ≤ a ∧ a ≤ pl + 5 ∧ (a = pl → k = 5 ∨ k = 6))
def RC (ch : Nat → Nat) (rd ca pl b n : Nat) (σ : St) : Prop :=
  SS σ ∧ (pl = 7 ∨ pl = 13) ∧ (30 ≤ rd ∧ 30 ≤ ca ∧ rd ≠ ca) ∧ isO σ 5 rd = true ∧ sP σ rd 0 = some ca ∧ sP σ rd 1 = some pl ∧ isO σ 12 ca = true ∧ alen σ ca = n ∧ n ≤ 60 ∧ (∀ i, i < n → sI σ ca i = I (ch (b + i) : Nat)) ∧ (∀ i, ch i ≤ 126) ∧ (∀ i, b + n ≤ i → i < b + 64 → ch i = 0)
theorem RC.fr {ch : Nat → Nat} {rd ca pl b n : Nat} {σ σ' : St} (h : RC ch rd ca pl b n σ) (hf : Fr (rdC rd pl) σ σ') : RC ch rd ca pl b n σ' := by
  obtain ⟨h1, h2, h3, h4, h5, h6, h7, h8, h9, h10, h11, h12⟩ := h
  refine ⟨hf.ss h1, h2, h3, by rw [hf.o]; exact h4, by rw [hf.p]; exact h5, by rw [hf.p]; exact h6, by rw [hf.o]; exact h7, by rw [hf.len]; exact h8, h9, fun i hi => ?_, h11, h12⟩
  rw [hf.i ca i ?_]
  · exact h10 i hi
  · unfold rdC
    omega
theorem q_next {ch : Nat → Nat} {rd ca pl b n p : Nat} {σ : St} {f : Int} (h : RC ch rd ca pl b n σ) (hp : sI σ rd 2 = I p) (hpn : p ≤ n) (hf : sI σ rd 3 = I f) (hfr : -6 ≤ f ∧ f ≤ 100) :
    s_X5_next rd σ = some (I (if f = -6 then ch (b + p) else 0 : Nat), σ) := by
  obtain ⟨h1, h2, h3, h4, h5, h6, h7, h8, h9, h10, h11, h12⟩ := h
  have hc := h11 (b + p)
  unfold s_X5_next
  simp (disch := omega) only [h4, h5, h7, h8, hf, hp, if_true, I_lit, I_neg, I_eq, I_lt, I_le, op_eq, I_nI, inR_I]
  have c0 : chok (I 0) = true := rfl
  by_cases c1 : f = -6
  · simp only [c1, if_true]
    rw [if_neg (by omega)]
    by_cases c2 : p < n
    · rw [if_neg (by omega), if_pos (by simp; omega), I_nat (by omega) (by omega)]
      have e := h10 p c2
      rw [show ((p : Int).toNat) = p by omega, e, chok_I (by omega) (by omega), if_pos rfl]
    · have hz := h12 (b + p) (by omega) (by omega)
      rw [if_pos (by omega), c0, if_pos rfl, hz]
      rfl
  · simp only [c1, if_false]
    rw [c0, if_pos rfl]
    rfl
theorem q_refuse {ch : Nat → Nat} {rd ca pl b n : Nat} {p : Int} {σ : St} {f : Int} (h : RC ch rd ca pl b n σ) (hp : sI σ rd 2 = I p) (hf : sI σ rd 3 = I f) (hfr : -6 ≤ f ∧ f ≤ 100) :
    s_X5_refuse rd σ = some (I (-1), if f = -6 then setI σ rd 3 (I p) else σ) := by
  obtain ⟨h1, h2, h3, h4, h5, h6, h7, h8, h9, h10, h11, h12⟩ := h
  unfold s_X5_refuse
  simp (disch := omega) only [h4, hf, hp, if_true, I_lit, I_neg, I_eq, lt_eq]
  split <;> rfl
theorem q_isAtom {c : Nat} (hc : c ≤ 1000) (σ : St) : s_X5_isAtom (I c) σ = some (if isAt c = true then 1 else 0, σ) := by
  unfold s_X5_isAtom isAt
  simp (disch := omega) only [I_lit, I_lt]
  by_cases c1 : (c : Int) < 97
  · rw [if_pos c1, if_neg (by simp; omega)]
  · rw [if_neg c1]
    by_cases c2 : (104 : Int) < c
    · rw [if_pos c2, if_neg (by simp; omega)]
    · rw [if_neg c2, if_pos (by simp; omega)]
def addN (pl : Nat) (n : Nat) (k f s : Int32) (σ : St) : St := setI (setI (setI (setI σ (pl + 1) n ((k.toUInt32 % 65536).toInt32)) (pl + 2) n f) (pl + 3) n s) pl 5 (I (n + 1 : Nat))
theorem q_addNode {pl : Nat} {σ : St} {n : Nat} (hs : SS σ) (hpl : pl = 7 ∨ pl = 13) (hn : sI σ pl 5 = I n) (hn2 : n ≤ 60) (k f s : Int32) :
    s_X3_addNode pl k f s σ = some (if n < 60 then (I n, addN pl n k f s σ) else (I (-1), σ)) := by
  have e0 : isO σ 3 pl = true := by rcases hpl with rfl | rfl; exact hs.o 3 7 (by decide); exact hs.o 3 13 (by decide)
  have e1 : sP σ pl 0 = some (pl + 1) := by rcases hpl with rfl | rfl; exact hs.p 7 0 8 (by decide); exact hs.p 13 0 14 (by decide)
  have e2 : sP σ pl 1 = some (pl + 2) := by rcases hpl with rfl | rfl; exact hs.p 7 1 9 (by decide); exact hs.p 13 1 15 (by decide)
  have e3 : sP σ pl 2 = some (pl + 3) := by rcases hpl with rfl | rfl; exact hs.p 7 2 10 (by decide); exact hs.p 13 2 16 (by decide)
  have o1 : isO σ 12 (pl + 1) = true := by rcases hpl with rfl | rfl; exact hs.o 12 8 (by decide); exact hs.o 12 14 (by decide)
  have o2 : isO σ 13 (pl + 2) = true := by rcases hpl with rfl | rfl; exact hs.o 13 9 (by decide); exact hs.o 13 15 (by decide)
  have o3 : isO σ 13 (pl + 3) = true := by rcases hpl with rfl | rfl; exact hs.o 13 10 (by decide); exact hs.o 13 16 (by decide)
  have l1 : alen σ (pl + 1) = 60 := by rcases hpl with rfl | rfl; exact hs.len 8 60 (by decide); exact hs.len 14 60 (by decide)
  have l2 : alen σ (pl + 2) = 60 := by rcases hpl with rfl | rfl; exact hs.len 9 60 (by decide); exact hs.len 15 60 (by decide)
  have l3 : alen σ (pl + 3) = 60 := by rcases hpl with rfl | rfl; exact hs.len 10 60 (by decide); exact hs.len 16 60 (by decide)
  unfold s_X3_addNode
  simp (disch := omega) only [e0, hn, if_true, I_lit, I_neg, I_lt, I_add, lt_eq, e1, op_eq, o1, l1, inR_I, sP_I, isO_Ie, alen_I, e2, o2, l2, e3, o3, l3, sI_I, I_nat]
  rw [if_neg (by omega)]
  by_cases c : n < 60
  · rw [if_pos (by omega), if_pos c]
    have d1 : decide (0 ≤ (n : Int) ∧ (n : Int) < (60 : Nat)) = true := by simp; omega
    simp only [d1, if_true]
    have n1 : ¬ (pl = pl + 1 ∧ 5 = (n : Int).toNat) := by omega
    have n2 : ¬ (pl = pl + 2 ∧ 5 = (n : Int).toNat) := by omega
    have n3 : ¬ (pl = pl + 3 ∧ 5 = (n : Int).toNat) := by omega
    simp only [n1, n2, n3, if_false, hn, I_add]
    rfl
  · rw [if_neg (by omega), if_neg c]
theorem q_addLoan {pl : Nat} {σ : St} {lam : Int} (hs : SS σ) (hpl : pl = 7 ∨ pl = 13) (hn : sI σ pl 6 = I lam) (hn2 : 0 ≤ lam ∧ lam ≤ 100000) :
    s_X3_addLoan pl σ = some (I (if 3 ≤ lam then -1 else 5 + lam), setI σ pl 6 (I (lam + 1))) := by
  have e0 : isO σ 3 pl = true := by rcases hpl with rfl | rfl; exact hs.o 3 7 (by decide); exact hs.o 3 13 (by decide)
  unfold s_X3_addLoan
  simp (disch := omega) only [e0, hn, if_true, I_lit, I_neg, I_add, lt_eq, I_le]
  by_cases c : 3 ≤ lam
  · rw [if_pos (by omega), if_pos c]
  · rw [if_neg (by omega), if_neg c]
def setF (pl : Nat) (o f : Int) (c b : Int32) (σ : St) : St := if 0 ≤ o ∧ o < 12 ∧ 0 ≤ f ∧ f < 3 then setI (setI σ (pl + 4) (o * 3 + f).toNat ((c.toUInt32 % 65536).toInt32)) (pl + 5) (o * 3 + f).toNat b else σ
theorem q_setFace {pl : Nat} {σ : St} (hs : SS σ) (hpl : pl = 7 ∨ pl = 13) {o f : Int} (ho : -1 ≤ o ∧ o ≤ 1000) (hf : -1 ≤ f ∧ f ≤ 1000) (c b : Int32) :
    s_X3_setFace pl (I o) (I f) c b σ = some ((), setF pl o f c b σ) := by
  have e0 : isO σ 3 pl = true := by rcases hpl with rfl | rfl; exact hs.o 3 7 (by decide); exact hs.o 3 13 (by decide)
  have e1 : sP σ pl 3 = some (pl + 4) := by rcases hpl with rfl | rfl; exact hs.p 7 3 11 (by decide); exact hs.p 13 3 17 (by decide)
  have e2 : sP σ pl 4 = some (pl + 5) := by rcases hpl with rfl | rfl; exact hs.p 7 4 12 (by decide); exact hs.p 13 4 18 (by decide)
  have o1 : isO σ 12 (pl + 4) = true := by rcases hpl with rfl | rfl; exact hs.o 12 11 (by decide); exact hs.o 12 17 (by decide)
  have o2 : isO σ 13 (pl + 5) = true := by rcases hpl with rfl | rfl; exact hs.o 13 12 (by decide); exact hs.o 13 18 (by decide)
  have l1 : alen σ (pl + 4) = 36 := by rcases hpl with rfl | rfl; exact hs.len 11 36 (by decide); exact hs.len 17 36 (by decide)
  have l2 : alen σ (pl + 5) = 36 := by rcases hpl with rfl | rfl; exact hs.len 12 36 (by decide); exact hs.len 18 36 (by decide)
  have hif : s_X3_isFace (I o) (I f) σ = some (if 0 ≤ o ∧ o < 12 ∧ 0 ≤ f ∧ f < 3 then 1 else 0, σ) := by
    unfold s_X3_isFace
    simp (disch := omega) only [I_lit, I_lt, I_le]
    by_cases c1 : o < 0
    · rw [if_pos c1, if_neg (by omega)]
    rw [if_neg c1]
    by_cases c2 : 12 ≤ o
    · rw [if_pos c2, if_neg (by omega)]
    rw [if_neg c2]
    by_cases c3 : f < 0
    · rw [if_pos c3, if_neg (by omega)]
    rw [if_neg c3]
    by_cases c4 : 3 ≤ f
    · rw [if_pos c4, if_neg (by omega)]
    rw [if_neg c4, if_pos (by omega)]
  unfold s_X3_setFace setF
  rw [hif, bd_eq]
  by_cases c : 0 ≤ o ∧ o < 12 ∧ 0 ≤ f ∧ f < 3
  · rw [if_pos c, if_pos c, if_neg (by decide)]
    have d1 : decide (0 ≤ o * 3 + f ∧ o * 3 + f < (36 : Nat)) = true := by simp; omega
    simp (disch := omega) only [e0, if_true, e1, op_eq, o1, I_lit, I_mul, I_add, l1, inR_I, d1, lt_eq, sP_I, e2, isO_Ie, o2, alen_I, l2, I_nat]
  · rw [if_neg c, if_neg c, if_pos rfl]
