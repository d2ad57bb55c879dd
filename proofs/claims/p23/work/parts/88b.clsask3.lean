theorem wr_dig {ch : Nat → Nat} : ∀ {h p s : Nat}, ∀ x ∈ wr ch h p s, 200 ≤ x ∨ x % 10 < 3 := by
  intro h
  induction h with
  | zero => intro p s x hx; cases hx
  | succ h ih =>
    intro p s x hx
    change x ∈ stF ch (Lv ch one h) (wr ch h) p s at hx
    unfold stF at hx
    split at hx
    · cases hx
    split at hx
    · cases hx
    split at hx
    · exact ih x hx
    split at hx
    · cases e : fstN (splt ch (Lv ch one h) p s) 256 0 with
      | none => rw [e] at hx; cases hx
      | some q =>
        rw [e] at hx
        change x ∈ (200 + q) :: (wr ch h (ch1 ch p) q ++ wr ch h (ch2 ch p) (s ^^^ q)) at hx
        rw [List.mem_cons, List.mem_append] at hx
        rcases hx with hx | hx | hx
        · exact Or.inl (by omega)
        · exact ih x hx
        · exact ih x hx
    split at hx
    · rw [List.mem_append] at hx
      exact hx.elim (ih x) (ih x)
    split at hx
    · split at hx
      · rw [List.mem_cons] at hx; exact hx.elim (fun q => Or.inl (by omega)) (ih x)
      · rw [List.mem_cons] at hx; exact hx.elim (fun q => Or.inl (by omega)) (ih x)
    split at hx
    · exact ih x hx
    · cases e : fstN (tol ch (Lv ch one h) (kd ch p) s) 36 0 with
      | none => rw [e] at hx; cases hx
      | some k =>
        have hq := (numK_o (fst36 k e)).2.1
        rw [e] at hx
        change x ∈ numK k :: wrB ch (wr ch h) s k at hx
        rw [List.mem_cons] at hx
        refine hx.elim (fun q => Or.inr (by omega)) (fun q => ?_)
        exact wrB_le (Q := fun l => ∀ x ∈ l, 200 ≤ x ∨ x % 10 < 3) (fun x q => by cases q) (fun p s => fun x q => ih x q) x q
def csF (lo x : Nat) : Bool := decide (lo ≤ x ∧ x < lo + 3)
theorem cntL_cg {f g : Nat → Bool} {l : List Nat} (h : ∀ x ∈ l, f x = g x) : ∀ k, k ≤ l.length → cntL f l k = cntL g l k := by
  intro k
  induction k with
  | zero => intro _; rfl
  | succ k ih => intro hk; rw [cntL, cntL, ih (by omega), h _ (getD_mem (by omega))]
theorem cs_us {t n x : Nat} (ht : t ≤ 1) (hn : n < (if t = 0 then 8 else 4)) (hx : 200 ≤ x ∨ x % 10 < 3) : csF (numK (3 * (8 * t + n))) x = usF t n x := by
  unfold csF usF numK
  have e : (if 3 * (8 * t + n) < 24 then 10 * (3 * (8 * t + n) / 3) + 3 * (8 * t + n) % 3 else 100 + 10 * ((3 * (8 * t + n) - 24) / 3) + (3 * (8 * t + n) - 24) % 3) = 10 * (10 * t + n) := by
    by_cases c : t = 0
    · rw [if_pos c] at hn; rw [if_pos (by omega)]; omega
    · rw [if_neg c] at hn; rw [if_neg (by omega)]; omega
  rw [e]
  have hn8 : n < 8 := by split at hn <;> omega
  have hnt : t = 1 → n < 4 := fun q => by rw [if_neg (by omega)] at hn; exact hn
  by_cases c : x < 200 ∧ x / 10 = 10 * t + n
  · rw [decide_eq_true c, decide_eq_true (by omega)]
  · rw [decide_eq_false c, decide_eq_false (by omega)]
theorem lp_uses (n a : Nat) (b c d : Int32) (σ : St) : s_X0_usesOf_11 (n + 1) a b c d σ = sb_X0_usesOf_11 (s_X0_usesOf_11 n) a b c d σ := rfl
theorem xu_loop {σ : St} (hs : SS σ) {l : List Nat} (h : FPS σ l) (hl : l.length ≤ 1023) (hnum : ∀ x ∈ l, x < 500) {lo : Nat} (hlo : lo ≤ 200) : ∀ (j k m : Nat), k + j = l.length →
    s_X0_usesOf_11 (m + j + 1) 25 (I (lo : Nat)) (I (cntL (csF lo) l k : Nat)) (I (k : Nat)) σ = some (I (cntL (csF lo) l l.length : Nat), σ) := by
  intro j
  induction j with
  | zero =>
    intro k m hk
    obtain rfl : k = l.length := (by omega)
    rw [lp_uses]
    unfold sb_X0_usesOf_11
    rw [if_pos (hs.o 0 25 (by decide)), h.1, if_pos (by rw [I_le (by omega) (by omega)]; omega)]
  | succ j ih =>
    intro k m hk
    have ih := ih (k + 1) m (by omega)
    rw [cntL] at ih
    have hx := hnum _ (getD_mem (show k < l.length by omega))
    have hat := q_fpat hs h hl (show k < l.length by omega)
    rw [lp_uses]
    unfold sb_X0_usesOf_11
    rw [if_pos (hs.o 0 25 (by decide)), h.1, if_neg (by rw [I_le (by omega) (by omega)]; omega), hat, bd_eq]
    generalize l.getD k 0 = x at *
    by_cases c : x < lo
    · rw [if_neg (show ¬ csF lo x = true by unfold csF; rw [decide_eq_true_iff]; omega)] at ih
      rw [if_pos (by rw [I_lt (by omega) (by omega)]; omega), I_p1, lt_eq]
      exact ih
    · have e3 : I (lo : Nat) + 3 = I ((lo + 3 : Nat) : Int) := by rw [I_lit, I_add]; rfl
      rw [if_neg (by rw [I_lt (by omega) (by omega)]; omega), if_pos (hs.o 0 25 (by decide)), hat, bd_eq, e3]
      by_cases c2 : lo + 3 ≤ x
      · rw [if_neg (show ¬ csF lo x = true by unfold csF; rw [decide_eq_true_iff]; omega)] at ih
        rw [if_pos (by rw [I_le (by omega) (by omega)]; omega), I_p1, lt_eq]
        exact ih
      · rw [if_pos (show csF lo x = true by unfold csF; rw [decide_eq_true_iff]; omega)] at ih
        rw [if_neg (by rw [I_le (by omega) (by omega)]; omega), I_p1, I_p1, lt_eq, lt_eq]
        exact ih
theorem c_uses {ch sl : Nat → Nat} (hg : GI ch sl) {S : Nat} (hS : S < 100000) {σ : St} (hk : K ch sl S σ) {t n : Int} (ht : -2147483648 ≤ t ∧ t < 2147483648) (hn : -2147483648 ≤ n ∧ n < 2147483648) : askC ch sl S σ (s_X10_uses 1 (I t) (I n) σ) (usesA ch sl t n) := by
  obtain ⟨⟨hs, hA, hZ, hst⟩, _⟩ := hk.core
  -- from the range of the number on
  have key : ∀ u : Int, u = (if t = 0 then 7 else 3) → 0 ≤ t ∧ t ≤ 1 → ¬ n < 0 → askC ch sl S σ (s_X10_uses_27 1 (I t) (I n) (I n) (I (u + 1)) σ) (if 0 ≤ n ∧ n ≤ (if t = 0 then 7 else 3) then (if sl 0 = 0 then I (-3) else I (cntL (usF t.toNat n.toNat) (fpL ch sl) (fpL ch sl).length : Nat)) else I (-1)) := by
    intro u hu ct hn0
    have hu7 : 0 ≤ u ∧ u ≤ 7 := by rw [hu]; split <;> omega
    unfold s_X10_uses_27
    rw [← hu]
    by_cases c2 : n < u + 1
    · rw [if_pos (by rw [I_lt hn (by omega)]; exact c2), if_pos (hs.o 10 1 (by decide)), q_hasGoal hs hst, bd_eq, if_pos (show 0 ≤ n ∧ n ≤ u by omega)]
      by_cases c0 : sl 0 = 0
      · rw [if_pos (by rw [bI0]; exact decide_eq_false (fun q => q c0)), if_pos c0]
        exact askC.now hk
      · obtain ⟨σ1, S1, κ, a1, a2, a3, a4, a5, a6⟩ := q_prepare hg hS hk
        have hs1 := a2.1.1
        obtain ⟨σ2, b1, b2, ⟨b3, b4, b5⟩, b6⟩ := q_find hg a2 c0
        have hs2 := b6.1.1
        have hlen := fpL_len ch sl
        obtain ⟨tn, rfl⟩ := Int.eq_ofNat_of_zero_le ct.1
        obtain ⟨nn, rfl⟩ := Int.eq_ofNat_of_zero_le (show 0 ≤ n by omega)
        have hnn : nn < (if tn = 0 then 8 else 4) := by
          by_cases c : tn = 0
          · rw [if_pos c]; rw [if_pos (by omega)] at hu; omega
          · rw [if_neg c]; rw [if_neg (by omega)] at hu; omega
        have hoff : 8 * tn + nn < 12 := by split at hnn <;> omega
        have hcnt : s_X0_usesOf 25 (I ((8 * tn + nn : Nat) : Int)) σ2 = some (I (cntL (usF tn nn) (fpL ch sl) (fpL ch sl).length : Nat), σ2) := by
          have hlo : numK (3 * (8 * tn + nn)) ≤ 200 := by have := numK_lt (show 3 * (8 * tn + nn) < 36 by omega); omega
          have hl := xu_loop hs2 b5 hlen (fpL_num ch sl) hlo (fpL ch sl).length 0 (15999 - (fpL ch sl).length) (by omega)
          have hcg := cntL_cg (f := csF (numK (3 * (8 * tn + nn)))) (g := usF tn nn) (l := fpL ch sl) (fun x hx => cs_us (by omega) hnn (wr_dig (h := hgt ch (all5 sl)) (p := 0) (s := all5 sl) x hx)) (fpL ch sl).length (Nat.le_refl _)
          rw [show 15999 - (fpL ch sl).length + (fpL ch sl).length + 1 = 16000 by omega, hcg] at hl
          unfold s_X0_usesOf
          rw [show (0 : Int32) = I ((0 : Nat) : Int) from rfl, q_numberOf hoff (by omega), bd_eq, Nat.add_zero]
          exact hl
        rw [if_neg (by rw [bI0, decide_eq_true c0]; decide), if_pos (hs.o 10 1 (by decide)), a1, bd_eq, if_pos (hs1.o 10 1 (by decide)), hs1.p 1 7 25 (by decide), op_eq, q_allRes hs1 a2.1.2.2.2, bd_eq, if_pos (hs1.o 0 25 (by decide)), b1, bd_eq, if_pos (hs2.o 10 1 (by decide)), hs2.p 1 7 25 (by decide), op_eq, if_neg c0, Int.toNat_natCast, Int.toNat_natCast]
        have res : ∀ a, askC ch sl S σ (some (a, σ2)) a := fun a => ⟨σ2, S1, rfl, Or.inl ⟨κ, b6⟩, a3, a4.trans (fn_gx b2), by rw [b2.1]; exact a5, by rw [b2.2.1]; exact a6⟩
        by_cases c1 : tn = 0
        · subst c1
          rw [Nat.mul_zero, Nat.zero_add] at hcnt
          rw [if_pos (by decide), if_pos (hs2.o 0 25 (by decide)), hcnt, bd_eq]
          exact res _
        · have e8 : (8 : Int32) + I (nn : Nat) = I ((8 * tn + nn : Nat) : Int) := by rw [I_lit, I_add]; exact congrArg I (by omega)
          rw [if_neg (by rw [I_z (by omega)]; exact c1), if_pos (hs2.o 0 25 (by decide)), e8, hcnt, bd_eq]
          exact res _
    · rw [if_neg (by rw [I_lt hn (by omega)]; exact c2), if_neg (fun q => by omega)]
      exact askC.now hk
  have neg : 0 ≤ t ∧ t ≤ 1 → n < 0 → (if 0 ≤ n ∧ n ≤ (if t = 0 then 7 else 3) then (if sl 0 = 0 then I (-3) else I (cntL (usF t.toNat n.toNat) (fpL ch sl) (fpL ch sl).length : Nat)) else I (-1)) = I (-1) := fun _ q => if_neg (fun q2 => by omega)
  unfold s_X10_uses usesA s_X10_uses_12
  by_cases ct : t = 0
  · rw [if_pos (by rw [ct]; rfl), if_pos (show 0 ≤ t ∧ t ≤ 1 by omega)]
    by_cases cn : n < 0
    · rw [if_pos (by rw [I_lit, I_lt hn (by omega)]; exact cn), neg (by omega) cn]
      exact askC.now hk
    · rw [if_neg (by rw [I_lit, I_lt hn (by omega)]; exact cn), if_pos (by rw [ct]; rfl)]
      exact key 7 (by rw [if_pos ct]) (by omega) cn
  · rw [if_neg (by rw [show (0 : Int32) = I 0 from rfl, I_eq ht (by omega)]; exact ct)]
    by_cases ct1 : t = 1
    · rw [if_pos (by rw [ct1]; rfl), if_pos (show 0 ≤ t ∧ t ≤ 1 by omega)]
      by_cases cn : n < 0
      · rw [if_pos (by rw [I_lit, I_lt hn (by omega)]; exact cn), neg (by omega) cn]
        exact askC.now hk
      · rw [if_neg (by rw [I_lit, I_lt hn (by omega)]; exact cn), if_neg (by rw [show (0 : Int32) = I 0 from rfl, I_eq ht (by omega)]; exact ct)]
        exact key 3 (by rw [if_neg ct]) (by omega) cn
    · rw [if_neg (by rw [show (1 : Int32) = I 1 from rfl, I_eq ht (by omega)]; exact ct1), if_neg (show ¬ (0 ≤ t ∧ t ≤ 1) by omega)]
      exact askC.now hk
theorem c_check {ch sl : Nat → Nat} (hg : GI ch sl) {S : Nat} (hS : S < 100000) {σ : St} {t : List Nat} (htk : Tok t) (hk : K ch sl S σ) (ht : CTr σ t) {z : Int} (hz : -2147483648 ≤ z ∧ z < 2147483648) : askC ch sl S σ (s_X10_check 1 (I z) σ) (chkA ch sl t z) := by
  obtain ⟨⟨hs, hA, hZ, hst⟩, _⟩ := hk.core
  unfold s_X10_check chkA
  by_cases c1 : z < 0
  · rw [if_pos (by rw [I_lit, I_lt hz (by omega)]; exact c1), if_neg (fun q => by omega)]
    exact askC.now hk
  rw [if_neg (by rw [I_lit, I_lt hz (by omega)]; exact c1)]
  by_cases c2 : z ≤ 2
  · rw [if_pos (by rw [I_lit, I_le hz (by omega)]; exact c2), if_pos (hs.o 10 1 (by decide)), q_hasGoal hs hst, bd_eq, if_pos (show 0 ≤ z ∧ z ≤ 2 by omega)]
    by_cases c0 : sl 0 = 0
    · rw [if_pos (by rw [bI0]; exact decide_eq_false (fun q => q c0)), if_pos c0]
      exact askC.now hk
    · obtain ⟨σ1, S1, κ, a1, a2, a3, a4, a5, a6⟩ := q_prepare hg hS hk
      obtain ⟨r, r1, r2, r3⟩ := a2.root c0
      have hs1 := a2.1.1
      have h54 := hs.1
      have ht1 : CTr σ1 t := ⟨by rw [a4.2.2.1 27 1 (by omega) (by unfold clI; omega)]; exact ht.1, fun i v hi => by rw [a4.2.2.1 28 i (by omega) (by unfold clI; omega)]; exact ht.2 i v hi⟩
      obtain ⟨σ2, b1, b2, b3⟩ := q_judge (ch := ch) (κ := κ) (sl := sl) htk r1 r3 ⟨a2.pg hg, ht1⟩ r2
      have k2 : KR ch sl S1 κ σ2 := a2.keep hg.2.2.1 b2 (fun a k q => by unfold jC at q; omega) (fun a k h1 h2 q => by unfold jC at q; omega) (by unfold jC; omega) (fun _ _ q => q.elim) (a2.2.2.2.2.1.fx b2 (fun _ _ _ q => q)) (a2.2.2.2.2.2.fx b2 (fun a k h q => by unfold jC at q; omega))
      have hs2 := k2.1.1
      have res : ∀ a, askC ch sl S σ (some (a, σ2)) a := fun a => ⟨σ2, S1, rfl, Or.inl ⟨κ, k2⟩, a3, a4.trans (b2.gx (fun a k q => by unfold jC at q; unfold clI; omega) (fun _ _ q => q.elim)), by rw [b2.1]; exact a5, by rw [b2.2.1]; exact a6⟩
      rw [if_neg (by rw [bI0, decide_eq_true c0]; decide), if_pos (hs.o 10 1 (by decide)), a1, bd_eq, if_pos (hs1.o 10 1 (by decide)), hs1.p 1 9 29 (by decide), op_eq, q_allRes hs1 a2.1.2.2.2, bd_eq, if_pos (hs1.o 2 29 (by decide)), b1, bd_eq, if_neg c0]
      by_cases d0 : z = 0
      · rw [if_pos (by rw [d0]; rfl), if_pos (hs2.o 10 1 (by decide)), hs2.p 1 9 29 (by decide), op_eq, if_pos (hs2.o 2 29 (by decide)), if_pos d0]
        unfold s_X2_verdict
        rw [if_pos (hs2.o 2 29 (by decide)), bd_eq, b3.1]
        exact res _
      · rw [if_neg (by rw [show (0 : Int32) = I 0 from rfl, I_eq hz (by omega)]; exact d0), if_neg d0]
        by_cases d1 : z = 1
        · rw [if_pos (by rw [d1]; rfl), if_pos (hs2.o 10 1 (by decide)), hs2.p 1 9 29 (by decide), op_eq, if_pos (hs2.o 2 29 (by decide)), if_pos d1]
          unfold s_X2_used
          rw [if_pos (hs2.o 2 29 (by decide)), bd_eq, b3.2.1]
          exact res _
        · rw [if_neg (by rw [show (1 : Int32) = I 1 from rfl, I_eq hz (by omega)]; exact d1), if_neg d1, if_pos (hs2.o 10 1 (by decide)), hs2.p 1 9 29 (by decide), op_eq, if_pos (hs2.o 2 29 (by decide))]
          unfold s_X2_deepest
          rw [if_pos (hs2.o 2 29 (by decide)), bd_eq, b3.2.2]
          exact res _
  · rw [if_neg (by rw [I_lit, I_le hz (by omega)]; exact c2), if_neg (fun q => c2 q.2)]
    exact askC.now hk
