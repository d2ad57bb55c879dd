/-! the law: cells of the script; goals and offers are said -/
theorem I_mod {m n : Nat} (hm : m < 2147483648) (hn : 0 < n) (hn2 : n < 2147483648) : I (m : Nat) - I (m : Nat) / I (n : Nat) * I (n : Nat) = I ((m % n : Nat) : Int) := by
  rw [I_div hm hn2, I_mul, I_sub]
  refine congrArg I ?_
  have h := Nat.div_add_mod m n
  rw [Nat.mul_comm] at h
  have h2 : (((m / n * n : Nat) : Int)) = ((m / n : Nat) : Int) * (n : Int) := Int.natCast_mul _ _
  omega
theorem lo22 (y : Int32) : ∃ m : Nat, m ≤ 4194303 ∧ y &&& 4194303 = I (m : Nat) := by
  refine ⟨y.toBitVec.toNat &&& 4194303, Nat.and_le_right, ?_⟩
  apply bv_I
  show y.toBitVec &&& (4194303 : Int32).toBitVec = _
  apply BitVec.eq_of_toNat_eq
  rw [BitVec.toNat_and, BitVec.toNat_ofNat, Nat.mod_eq_of_lt (Nat.lt_of_le_of_lt Nat.and_le_right (by decide))]
  rfl
section
variable {L : Nat} {xs : Nat → Int32}
theorem q_cell (hL : L ≤ 260) {k n : Nat} (hk : k < 1000) (hn : 0 < n) (hn2 : n < 100) : ∃ v, v < n ∧ ∀ (c : Nat) (ch sl : Nat → Nat) (t : List Nat) (σ : St), QS c L xs ch sl t σ → s_L_cell 0 (I (k : Nat)) (I (n : Nat)) σ = some (I (v : Nat), σ) := by
  have n0 : ¬ I (n : Nat) = 0 := by rw [show (0 : Int32) = I ((0 : Nat) : Int) from rfl, I_eq (by omega) (by omega)]; omega
  by_cases c0 : L = 0
  · refine ⟨(k * 37 + 5) % n, Nat.mod_lt _ hn, fun c ch sl t σ hq => ?_⟩
    obtain ⟨h1, h2, h3⟩ := hq.scr
    unfold s_L_cell
    rw [if_pos h1, h2, I_nI, if_pos (by rw [c0]; rfl), if_pos n0]
    have e : I (k : Nat) * 37 + 5 = I ((k * 37 + 5 : Nat) : Int) := by
      rw [show (37 : Int32) = I ((37 : Nat) : Int) from rfl, show (5 : Int32) = I ((5 : Nat) : Int) from rfl, I_mul, I_add]
      exact congrArg I (by omega)
    rw [e, I_mod (by omega) hn (by omega)]
  · have L0 : ¬ I (L : Nat) = 0 := by rw [show (0 : Int32) = I ((0 : Nat) : Int) from rfl, I_eq (by omega) (by omega)]; omega
    have hm := Nat.mod_lt k (show 0 < L by omega)
    obtain ⟨m, m1, m2⟩ := lo22 ((xs ((I ((k % L : Nat) : Int)).toNatClampNeg)) >>> ((I (k : Nat) - I (k : Nat) / 7 * 7) &&& 31))
    refine ⟨m % n, Nat.mod_lt _ hn, fun c ch sl t σ hq => ?_⟩
    obtain ⟨h1, h2, h3⟩ := hq.scr
    unfold s_L_cell
    rw [if_pos h1, h2, I_nI, if_neg L0, if_pos L0, I_mod (by omega) (by omega) (by omega), if_pos (inN hm (by omega)), if_pos n0, h3, m2, I_mod (by omega) hn (by omega)]
theorem q_atom (hL : L ≤ 260) {k : Nat} (hk : k < 1000) : ∃ a, isAt a = true ∧ ∀ (c : Nat) (ch sl : Nat → Nat) (t : List Nat) (σ : St), QS c L xs ch sl t σ → s_L_atom 0 (I (k : Nat)) σ = some (I (a : Nat), σ) := by
  obtain ⟨v, h1, h2⟩ := q_cell (xs := xs) hL hk (n := 4) (by omega) (by omega)
  refine ⟨97 + v, by rw [isAt_iff]; omega, fun c ch sl t σ hq => ?_⟩
  unfold s_L_atom
  rw [show s_L_cell 0 (I (k : Nat)) 4 σ = some (I (v : Nat), σ) from h2 c ch sl t σ hq, bd_eq, show (97 : Int32) = I ((97 : Nat) : Int) from rfl, I_add]
  rfl
end
/-- the text that is being said; the texts in the slots are G, M -/
def TQ (c L : Nat) (xs : Nat → Int32) (t : List Nat) (G M : Nat → Nat) (l : List Nat) (σ : St) : Prop := ∃ ch sl, QS c L xs ch sl t σ ∧ wCh ch = G ∧ wSl sl = M ∧ NB ch ∧ sl 10 = l.length ∧ Pl ch 640 l
def Dn (c L : Nat) (xs : Nat → Int32) (t : List Nat) (G M : Nat → Nat) (l : List Nat) (r : Option (Int32 × St)) : Prop := ∃ σ', r = some (1, σ') ∧ TQ c L xs t G M l σ'
section
variable {c L : Nat} {xs : Nat → Int32} {t : List Nat} {G M : Nat → Nat} {l lf : List Nat} {σ : St}
theorem TQ.say (h : TQ c L xs t G M l σ) {n : Nat} (h1 : 33 ≤ n) (h2 : n ≤ 126) (h3 : n ≠ 91) (hl : l.length < 60) : ∃ σ', s_X10_say 1 (I (n : Nat)) σ = some (I ((l.length + 1 : Nat) : Int), σ') ∧ TQ c L xs t G M (l ++ [n]) σ' := by
  obtain ⟨ch, sl, hq, rfl, rfl, hb, h10, hp⟩ := h
  obtain ⟨σ', a1, a2⟩ := a_say hq h1 h2 (show sl 10 < 60 by omega)
  rw [h10] at a1
  refine ⟨σ', a1, yCh ch sl n, ySl sl, a2, wCh_say n (by omega), wSl_say, fun i => ?_, ?_, fun i x hx => ?_⟩
  · unfold yCh; split
    · exact h3
    · exact hb i
  · show (if 10 = 10 then sl 10 + 1 else sl 10) = _
    rw [if_pos rfl, List.length_append, h10]; rfl
  · unfold yCh
    by_cases ci : i < l.length
    · rw [List.getElem?_append_left ci] at hx
      rw [if_neg (by omega)]; exact hp i x hx
    · have hi := (List.getElem?_eq_some_iff.1 hx).1
      rw [List.length_append, List.length_singleton] at hi
      obtain rfl : i = l.length := by omega
      rw [List.getElem?_append_right (Nat.le_refl _), Nat.sub_self] at hx
      rw [if_pos (by omega)]
      exact Option.some.inj hx
theorem TQ.o (h : TQ c L xs t G M l σ) : isO σ 10 1 = true := by
  obtain ⟨ch, sl, hq, _⟩ := h
  exact hq.o
theorem TQ.q {r : St → Option (Int32 × St)} {v : Int32} (h : TQ c L xs t G M l σ) (g : ∀ (c : Nat) (ch sl : Nat → Nat) (t : List Nat) (σ : St), QS c L xs ch sl t σ → r σ = some (v, σ)) : r σ = some (v, σ) := by
  obtain ⟨ch, sl, hq, _⟩ := h
  exact g c ch sl t σ hq
theorem Dn.say (h : TQ c L xs t G M l σ) {z : Int32} {n : Nat} (e : z = I (n : Nat)) (h1 : 33 ≤ n ∧ n ≤ 126 ∧ n ≠ 91) (hl : l.length < 60) {y k : St → Option (Int32 × St)} (g : ∀ σ', TQ c L xs t G M (l ++ [n]) σ' → Dn c L xs t G M lf (k σ')) : Dn c L xs t G M lf (if isO σ 10 1 = true then (bd (s_X10_say 1 z σ) fun r σ' => if r ≤ 0 then y σ' else k σ') else none) := by
  obtain ⟨σ', a1, a2⟩ := h.say h1.1 h1.2.1 h1.2.2 hl
  rw [if_pos h.o, e, a1, bd_eq, if_neg (by rw [I_lit, I_le (by omega) (by omega)]; omega)]
  exact g σ' a2
theorem Dn.now (h : TQ c L xs t G M l σ) : Dn c L xs t G M l (some (1, σ)) := ⟨σ, rfl, h⟩
theorem at_ok {a : Nat} (h : isAt a = true) : 33 ≤ a ∧ a ≤ 126 ∧ a ≠ 91 := by rw [isAt_iff] at h; omega
theorem I_pn (k n : Nat) (z : Int32) (e : z = I (n : Nat)) : I (k : Nat) + z = I ((k + n : Nat) : Int) := by rw [e, I_add]; rfl
/-- a goal is said -/
theorem q_goal (h : TQ c L xs t G M l σ) (hL : L ≤ 260) {k : Nat} (hk : k < 990) (hl : l.length ≤ 50) : ∃ g, isG g ∧ Dn c L xs t G M (l ++ g) (s_L_goal 1 0 (I (k : Nat)) σ) := by
  obtain ⟨v, v1, v2⟩ := q_cell (xs := xs) hL (show k < 1000 by omega) (n := 13) (by omega) (by omega)
  obtain ⟨a, a1, a2⟩ := q_atom (xs := xs) hL (show k + 1 < 1000 by omega)
  obtain ⟨b, b1, b2⟩ := q_atom (xs := xs) hL (show k + 2 < 1000 by omega)
  obtain ⟨d, d1, d2⟩ := q_atom (xs := xs) hL (show k + 3 < 1000 by omega)
  have kd := at_ok d1
  have ka := at_ok a1
  have kb := at_ok b1
  have len : ∀ (x : List Nat) (n : Nat), (x ++ [n]).length = x.length + 1 := fun x n => by rw [List.length_append]; rfl
  unfold s_L_goal
  rw [show s_L_cell 0 (I (k : Nat)) 13 σ = some (I (v : Nat), σ) from h.q v2, bd_eq, I_pn k 1 1 rfl, h.q a2, bd_eq, I_pn k 2 2 rfl, h.q b2, bd_eq]
  by_cases c1 : v < 5
  · rw [if_neg (by rw [I_lit, I_le (by omega) (by omega)]; omega)]
    refine ⟨[a], Or.inl ⟨a, a1, rfl⟩, ?_⟩
    exact Dn.say h rfl ka (by omega) fun σ h => Dn.now h
  rw [if_pos (by rw [I_lit, I_le (by omega) (by omega)]; omega)]
  by_cases c2 : v < 8
  · rw [if_neg (by rw [I_lit, I_le (by omega) (by omega)]; omega)]
    have pair : ∀ {o : Nat} {zo : Int32} {σ : St}, zo = I (o : Nat) → isOp o = true → TQ c L xs t G M (l ++ [40] ++ [a]) σ → Dn c L xs t G M (l ++ [40, a, o, b, 41]) (s_L_goal_97 1 (I (b : Nat)) 1 zo σ) := by
      intro o zo σ ez ho h
      unfold s_L_goal_97
      have ko : 33 ≤ o ∧ o ≤ 126 ∧ o ≠ 91 := by rw [isOp_iff] at ho; omega
      refine Dn.say h ez ko (by rw [len, len]; omega) fun σ h => ?_
      refine Dn.say h rfl kb (by rw [len, len, len]; omega) fun σ h => ?_
      refine Dn.say h (n := 41) rfl (by omega) (by rw [len, len, len, len]; omega) fun σ h => ?_
      rw [show l ++ [40, a, o, b, 41] = l ++ [40] ++ [a] ++ [o] ++ [b] ++ [41] by simp]
      exact Dn.now h
    have op : ∃ o, isOp o = true ∧ ((v = 5 ∧ o = 42) ∨ (v = 6 ∧ o = 38) ∨ (v = 7 ∧ o = 43)) := by
      rcases (show v = 5 ∨ v = 6 ∨ v = 7 by omega) with h | h | h
      · exact ⟨42, rfl, Or.inl ⟨h, rfl⟩⟩
      · exact ⟨38, rfl, Or.inr (Or.inl ⟨h, rfl⟩)⟩
      · exact ⟨43, rfl, Or.inr (Or.inr ⟨h, rfl⟩)⟩
    obtain ⟨o, ho, hv⟩ := op
    refine ⟨[40, a, o, b, 41], Or.inr (Or.inl ⟨a, b, o, a1, b1, ho, rfl⟩), ?_⟩
    refine Dn.say h (n := 40) rfl (by omega) (by omega) fun σ h => ?_
    refine Dn.say h rfl ka (by rw [len]; omega) fun σ h => ?_
    rcases hv with ⟨rfl, rfl⟩ | ⟨rfl, rfl⟩ | ⟨rfl, rfl⟩
    · rw [if_pos (show I ((5 : Nat) : Int) = 5 from rfl)]; exact pair rfl ho h
    · rw [if_neg (by decide), if_pos (show I ((6 : Nat) : Int) = 6 from rfl)]; exact pair rfl ho h
    · rw [if_neg (by decide), if_neg (by decide)]; exact pair rfl ho h
  rw [if_pos (by rw [I_lit, I_le (by omega) (by omega)]; omega)]
  by_cases c8 : v = 8
  · subst c8
    rw [if_pos (show I ((8 : Nat) : Int) = 8 from rfl)]
    refine ⟨[33, a], Or.inr (Or.inr (Or.inl ⟨a, a1, rfl⟩)), ?_⟩
    refine Dn.say h (n := 33) rfl (by omega) (by omega) fun σ h => ?_
    refine Dn.say h rfl ka (by rw [len]; omega) fun σ h => ?_
    rw [show l ++ [33, a] = l ++ [33] ++ [a] by simp]
    exact Dn.now h
  rw [if_neg (by rw [show (8 : Int32) = I ((8 : Nat) : Int) from rfl, I_eq (by omega) (by omega)]; omega)]
  by_cases c9 : v = 9
  · subst c9
    rw [if_pos (show I ((9 : Nat) : Int) = 9 from rfl)]
    refine ⟨[40, a, 42, 84, 41], Or.inr (Or.inr (Or.inr (Or.inl ⟨a, a1, rfl⟩))), ?_⟩
    refine Dn.say h (n := 40) rfl (by omega) (by omega) fun σ h => ?_
    refine Dn.say h rfl ka (by rw [len]; omega) fun σ h => ?_
    refine Dn.say h (n := 42) rfl (by omega) (by rw [len, len]; omega) fun σ h => ?_
    refine Dn.say h (n := 84) rfl (by omega) (by rw [len, len, len]; omega) fun σ h => ?_
    refine Dn.say h (n := 41) rfl (by omega) (by rw [len, len, len, len]; omega) fun σ h => ?_
    rw [show l ++ [40, a, 42, 84, 41] = l ++ [40] ++ [a] ++ [42] ++ [84] ++ [41] by simp]
    exact Dn.now h
  rw [if_neg (by rw [show (9 : Int32) = I ((9 : Nat) : Int) from rfl, I_eq (by omega) (by omega)]; omega)]
  by_cases c10 : v = 10
  · subst c10
    rw [if_pos (show I ((10 : Nat) : Int) = 10 from rfl)]
    refine ⟨[40, 49, 38, a, 41], Or.inr (Or.inr (Or.inr (Or.inr (Or.inl ⟨a, a1, rfl⟩)))), ?_⟩
    refine Dn.say h (n := 40) rfl (by omega) (by omega) fun σ h => ?_
    refine Dn.say h (n := 49) rfl (by omega) (by rw [len]; omega) fun σ h => ?_
    refine Dn.say h (n := 38) rfl (by omega) (by rw [len, len]; omega) fun σ h => ?_
    refine Dn.say h rfl ka (by rw [len, len, len]; omega) fun σ h => ?_
    refine Dn.say h (n := 41) rfl (by omega) (by rw [len, len, len, len]; omega) fun σ h => ?_
    rw [show l ++ [40, 49, 38, a, 41] = l ++ [40] ++ [49] ++ [38] ++ [a] ++ [41] by simp]
    exact Dn.now h
  rw [if_neg (by rw [show (10 : Int32) = I ((10 : Nat) : Int) from rfl, I_eq (by omega) (by omega)]; omega)]
  by_cases c11 : v = 11
  · subst c11
    rw [if_pos (show I ((11 : Nat) : Int) = 11 from rfl)]
    refine ⟨[49], Or.inr (Or.inr (Or.inr (Or.inr (Or.inr (Or.inl rfl))))), ?_⟩
    exact Dn.say h (n := 49) rfl (by omega) (by omega) fun σ h => Dn.now h
  rw [if_neg (by rw [show (11 : Int32) = I ((11 : Nat) : Int) from rfl, I_eq (by omega) (by omega)]; omega)]
  refine ⟨[40, 40, a, 42, b, 41, 42, d, 41], Or.inr (Or.inr (Or.inr (Or.inr (Or.inr (Or.inr ⟨a, b, d, a1, b1, d1, rfl⟩))))), ?_⟩
  refine Dn.say h (n := 40) rfl (by omega) (by omega) fun σ h => ?_
  refine Dn.say h (n := 40) rfl (by omega) (by rw [len]; omega) fun σ h => ?_
  refine Dn.say h rfl ka (by rw [len, len]; omega) fun σ h => ?_
  refine Dn.say h (n := 42) rfl (by omega) (by rw [len, len, len]; omega) fun σ h => ?_
  refine Dn.say h rfl kb (by rw [len, len, len, len]; omega) fun σ h => ?_
  refine Dn.say h (n := 41) rfl (by omega) (by rw [len, len, len, len, len]; omega) fun σ h => ?_
  refine Dn.say h (n := 42) rfl (by omega) (by rw [len, len, len, len, len, len]; omega) fun σ h => ?_
  rw [I_pn k 3 3 rfl, h.q d2, bd_eq]
  refine Dn.say h rfl kd (by rw [len, len, len, len, len, len, len]; omega) fun σ h => ?_
  refine Dn.say h (n := 41) rfl (by omega) (by rw [len, len, len, len, len, len, len, len]; omega) fun σ h => ?_
  rw [show l ++ [40, 40, a, 42, b, 41, 42, d, 41] = l ++ [40] ++ [40] ++ [a] ++ [42] ++ [b] ++ [41] ++ [42] ++ [d] ++ [41] by simp]
  exact Dn.now h
/-- an offer is said -/
theorem q_offer (h : TQ c L xs t G M l σ) (hL : L ≤ 260) {k : Nat} (hk : k < 980) (hl : l.length ≤ 40) : ∃ g, isF g ∧ Dn c L xs t G M (l ++ g) (s_L_offer 1 0 (I (k : Nat)) σ) := by
  obtain ⟨a, a1, a2⟩ := q_atom (xs := xs) hL (show k < 1000 by omega)
  obtain ⟨v, v1, v2⟩ := q_cell (xs := xs) hL (show k + 1 < 1000 by omega) (n := 3) (by omega) (by omega)
  obtain ⟨w, w1, w2⟩ := q_cell (xs := xs) hL (show k + 6 < 1000 by omega) (n := 4) (by omega) (by omega)
  obtain ⟨d, d1, d2⟩ := q_atom (xs := xs) hL (show k + 7 < 1000 by omega)
  have ka := at_ok a1
  have kd := at_ok d1
  have len : ∀ (x : List Nat) (n : Nat), (x ++ [n]).length = x.length + 1 := fun x n => by rw [List.length_append]; rfl
  -- the second face
  have tail : ∀ {b : List Nat} {σ : St}, (b = [] ∨ ∃ g, isG g ∧ b = 60 :: g) → TQ c L xs t G M (l ++ a :: b) σ → ∃ g, isF g ∧ Dn c L xs t G M (l ++ g) (s_L_offer_59 1 0 (I (k : Nat)) 1 σ) := by
    intro b σ hb h
    have hbl : b.length ≤ 10 := by
      rcases hb with rfl | ⟨g, hg, rfl⟩
      · show 0 ≤ 10; omega
      · have := isG_len hg; rw [List.length_cons]; omega
    unfold s_L_offer_59
    rw [I_pn k 6 6 rfl, show s_L_cell 0 (I ((k + 6 : Nat) : Int)) 4 σ = some (I (w : Nat), σ) from h.q w2, bd_eq]
    by_cases c0 : w = 0
    · refine ⟨a :: b ++ [124, d], ⟨a, b, a1, hb, Or.inr ⟨d, d1, rfl⟩⟩, ?_⟩
      rw [if_pos (by rw [c0]; rfl), if_neg (by decide)]
      have hlen : (l ++ a :: b).length ≤ 55 := by rw [List.length_append, List.length_cons]; omega
      refine Dn.say h (n := 124) rfl (by omega) (by omega) fun σ h => ?_
      rw [I_pn k 7 7 rfl, h.q d2, bd_eq]
      refine Dn.say h rfl kd (by rw [len]; omega) fun σ h => ?_
      rw [show l ++ (a :: b ++ [124, d]) = l ++ a :: b ++ [124] ++ [d] by simp]
      exact Dn.now h
    · refine ⟨a :: b, ⟨a, b, a1, hb, Or.inl rfl⟩, ?_⟩
      rw [if_neg (by rw [show (0 : Int32) = I ((0 : Nat) : Int) from rfl, I_eq (by omega) (by omega)]; omega), if_pos (show zok 1 = true from rfl)]
      exact Dn.now h
  have fin : ∀ {r : Option (Int32 × St)} {y : Option (Int32 × St)}, (∃ g, isF g ∧ Dn c L xs t G M (l ++ g) r) → y = r → ∃ g, isF g ∧ Dn c L xs t G M (l ++ g) y := fun q e => e ▸ q
  obtain ⟨σ1, s1, h1⟩ := h.say ka.1 ka.2.1 ka.2.2 (by omega)
  unfold s_L_offer
  rw [h.q a2, bd_eq, if_pos h.o, s1, bd_eq, if_neg (by rw [I_lit, I_le (by omega) (by omega)]; omega)]
  unfold s_L_offer_17
  rw [I_pn k 1 1 rfl, show s_L_cell 0 (I ((k + 1 : Nat) : Int)) 3 σ1 = some (I (v : Nat), σ1) from h1.q v2, bd_eq]
  by_cases c0 : v = 0
  · rw [if_pos (by rw [c0]; decide)]
    exact tail (Or.inl rfl) h1
  · rw [if_neg (by rw [I_lit, I_le (by omega) (by omega)]; omega), if_neg (by decide)]
    obtain ⟨σ2, s2, h2⟩ := h1.say (n := 60) (by omega) (by omega) (by omega) (by rw [len]; omega)
    rw [if_pos h1.o, show s_X10_say 1 60 σ1 = some (I (((l ++ [a]).length + 1 : Nat) : Int), σ2) from s2, bd_eq, if_neg (by rw [I_lit, I_le (by rw [len]; omega) (by omega)]; omega)]
    obtain ⟨g, g1, σ3, s3, h3⟩ := q_goal h2 hL (show k + 2 < 990 by omega) (by rw [len, len]; omega)
    rw [I_pn k 2 2 rfl, s3, bd_eq, if_neg (by decide)]
    unfold s_L_offer_58
    refine tail (b := 60 :: g) (Or.inr ⟨g, g1, rfl⟩) ?_
    rw [show l ++ a :: 60 :: g = l ++ [a] ++ [60] ++ g by simp]
    exact h3
end
