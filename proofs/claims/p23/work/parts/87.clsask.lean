/-! the class's answers -/
def askC (ch sl : Nat → Nat) (S : Nat) (σ : St) (r : Option (Int32 × St)) (a : Int32) : Prop := ∃ σ' S', r = some (a, σ') ∧ ((∃ κ, KR ch sl S' κ σ') ∨ (K ch sl S σ ∧ σ' = σ ∧ S' = S)) ∧ S' ≤ S + ee σ ∧ GX clI clL σ σ' ∧ sn σ' ≤ sn σ + 10 * ee σ ∧ sz σ' ≤ sz σ + 40 * ee σ
theorem askC.now {ch sl : Nat → Nat} {S : Nat} {σ : St} {a : Int32} (h : K ch sl S σ) : askC ch sl S σ (some (a, σ)) a := ⟨σ, S, rfl, Or.inr ⟨h, rfl, rfl⟩, by omega, GX.refl σ, by omega, by omega⟩
/-- what a call may cost: what preparing costs once is paid ahead -/
def Pot (S : Nat) (σ : St) (S' : Nat) (σ' : St) : Prop := S' + ee σ' ≤ S + ee σ ∧ sn σ' + 10 * ee σ' ≤ sn σ + 10 * ee σ ∧ sz σ' + 40 * ee σ' ≤ sz σ + 40 * ee σ
theorem askC.pot {ch sl : Nat → Nat} {S : Nat} {σ : St} {r : Option (Int32 × St)} {a : Int32} (h : askC ch sl S σ r a) : ∃ σ' S', r = some (a, σ') ∧ K ch sl S' σ' ∧ Pot S σ S' σ' ∧ GX clI clL σ σ' := by
  obtain ⟨σ', S', h1, h2, h3, h4, h5, h6⟩ := h
  rcases h2 with ⟨κ, h2⟩ | ⟨h2, rfl, rfl⟩
  · have e := ee_0 h2.2.1
    exact ⟨σ', S', h1, Or.inl ⟨κ, h2⟩, ⟨by omega, by omega, by omega⟩, h4⟩
  · exact ⟨σ', S', h1, h2, ⟨Nat.le_refl _, Nat.le_refl _, Nat.le_refl _⟩, h4⟩
theorem KR.root {ch sl κ : Nat → Nat} {S : Nat} {σ : St} (h : KR ch sl S κ σ) (h0 : sl 0 ≠ 0) : ∃ r, r < tot (nN ch sl) 99 10 ∧ sI σ 13 7 = I (r : Nat) ∧ κ r = 0 := h.2.2.1.2.2 h0
theorem q_root {σ : St} (hs : SS σ) : s_X3_root 13 σ = some (sI σ 13 7, σ) := by unfold s_X3_root; rw [if_pos (hs.o 3 13 (by decide))]
theorem KR.prv {ch sl κ : Nat → Nat} {S r : Nat} {σ : St} (hg : GI ch sl) (h : KR ch sl S κ σ) (hr : r < tot (nN ch sl) 99 10) (hk : κ r = 0) {s g : Nat} (hs : s &&& all5 sl = s) (hh : g ≤ 10) : s_X4_proves 19 (I (r : Nat)) (I (s : Nat)) (I (g : Nat)) σ = some (bI (Lv ch one g 0 s), σ) := by
  have ha := all5_lt sl
  have hle := sub_le hs
  rw [q_proves h.1.1 hg.2.2.1 h.2.2.2.1 hr (by omega) hh, LvT_one (h.pg hg).clo hg.1 hr hs, hk]
theorem KR.least {ch sl κ : Nat → Nat} {S r : Nat} {σ : St} (hg : GI ch sl) (h : KR ch sl S κ σ) (hr : r < tot (nN ch sl) 99 10) (hk : κ r = 0) {s : Nat} (hs : s &&& all5 sl = s) : s_X4_leastHeight 19 (I (r : Nat)) (I (s : Nat)) σ = some (hR (hgt ch s), σ) := by
  have ha := all5_lt sl
  have hle := sub_le hs
  have hC := (h.pg hg).clo
  have e : lst (fun g => LvT ch g (κ r) s) 10 = hgt ch s := by
    unfold hgt lhM
    refine lst_cg (fun g => ?_) 10
    show LvT ch g (κ r) s = Lv ch one g 0 s
    rw [LvT_one hC hg.1 hr hs, hk]
  rw [q_least h.1.1 hg.2.2.1 h.2.2.2.1 hr (by omega), e]
theorem c_height {ch sl : Nat → Nat} (hg : GI ch sl) {S : Nat} (hS : S < 100000) {σ : St} (hk : K ch sl S σ) {z : Int} (hz : -2147483648 ≤ z ∧ z < 2147483648) : askC ch sl S σ (s_X10_height 1 (I z) σ) (hgtA ch sl z) := by
  obtain ⟨⟨hs, hA, hZ, hst⟩, _⟩ := hk.core
  unfold s_X10_height hgtA
  rw [if_pos (hs.o 10 1 (by decide)), q_isSet hs hst hz, bd_eq]
  by_cases c : isSub z (all5 sl) = true
  · rw [if_neg (by rw [bI0, c]; decide), if_pos (hs.o 10 1 (by decide)), q_hasGoal hs hst, bd_eq, if_pos c]
    by_cases c0 : sl 0 = 0
    · rw [if_pos (by rw [bI0]; exact decide_eq_false (fun q => q c0)), if_pos c0]
      exact askC.now hk
    · obtain ⟨σ1, S1, κ, a1, a2, a3, a4, a5, a6⟩ := q_prepare hg hS hk
      obtain ⟨r, r1, r2, r3⟩ := a2.root c0
      have hs1 := a2.1.1
      unfold isSub at c
      have c' := of_decide_eq_true c
      obtain ⟨n, rfl⟩ := Int.eq_ofNat_of_zero_le c'.1
      rw [Int.toNat_natCast] at c'
      rw [if_neg (by rw [bI0, decide_eq_true c0]; decide), if_pos (hs.o 10 1 (by decide)), a1, bd_eq, if_pos (hs1.o 10 1 (by decide)), hs1.p 1 5 19 (by decide), op_eq, hs1.p 1 4 13 (by decide), op_eq, if_pos (hs1.o 3 13 (by decide)), q_root hs1, bd_eq, if_pos (hs1.o 4 19 (by decide)), r2, a2.least hg r1 r3 c'.2, bd_eq, if_neg c0, Int.toNat_natCast]
      exact ⟨σ1, S1, rfl, Or.inl ⟨κ, a2⟩, a3, a4, a5, a6⟩
  · rw [if_pos (by rw [bI0]; exact Bool.eq_false_iff.2 c), if_neg c]
    exact askC.now hk
theorem lf_end {P : Nat → Bool} {z : Int} : ∀ {j k n : Nat}, (∀ q, k ≤ q → P q = false) → lf P z j k n = if z = -1 then (n : Int) else -6 := by
  intro j
  induction j with
  | zero => intro k n _; rfl
  | succ j ih =>
    intro k n h
    rw [lf, if_neg (by rw [h k (Nat.le_refl k)]; decide), ih (fun q hq => h q (by omega))]
theorem lp_left (n a : Nat) (b c d e f : Int32) (σ : St) : s_X10_left_43 (n + 1) a b c d e f σ = sb_X10_left_43 (s_X10_left_43 n) a b c d e f σ := rfl
theorem xl_loop {ch sl κ : Nat → Nat} {S r : Nat} {σ : St} (hg : GI ch sl) (hk : KR ch sl S κ σ) (hr : r < tot (nN ch sl) 99 10) (hr2 : sI σ 13 7 = I (r : Nat)) (hr3 : κ r = 0) {h : Nat} (hh : h ≤ 10) {z : Int} (hz : -2147483648 ≤ z ∧ z < 2147483648) : ∀ (j k n m : Nat), k + j = 32 → n ≤ k →
    s_X10_left_43 (m + j + 1) 1 (I (h : Nat)) (I z) (I (all5 sl : Nat)) (I (n : Nat)) (I (k : Nat)) σ = some (I (lf (lefP ch (all5 sl) h) z j k n), σ) := by
  have ha := all5_lt sl
  have hs := hk.1.1
  have hend : ∀ (m k n : Nat), all5 sl < k → k ≤ 32 → n ≤ k → ∀ j, s_X10_left_43 (m + 1) 1 (I (h : Nat)) (I z) (I (all5 sl : Nat)) (I (n : Nat)) (I (k : Nat)) σ = some (I (lf (lefP ch (all5 sl) h) z j k n), σ) := by
    intro m k n hk1 hk2 hn j
    rw [lp_left]
    unfold sb_X10_left_43
    rw [if_pos (by rw [I_lt (by omega) (by omega)]; omega), lf_end (fun q hq => by unfold lefP; rw [decide_eq_false (fun q2 => by have := sub_le q2; omega)]; rfl)]
    by_cases c : z = -1
    · rw [if_pos (by rw [c]; rfl), if_pos c]
    · rw [if_neg (by rw [show (-1 : Int32) = I (-1) from rfl, I_eq hz (by omega)]; exact c), if_neg c]; rfl
  intro j
  induction j with
  | zero => intro k n m hkj hn; exact hend m k n (by omega) (by omega) hn 0
  | succ j ih =>
    intro k n m hkj hn
    by_cases ck : all5 sl < k
    · exact hend (m + (j + 1)) k n ck (by omega) hn (j + 1)
    · rw [lp_left, lf]
      unfold sb_X10_left_43
      have hb : ∀ P : Prop, lefP ch (all5 sl) h k = true → True := fun _ _ => trivial
      rw [if_neg (by rw [I_lt (by omega) (by omega)]; omega)]
      by_cases c : k &&& all5 sl = k
      · have eL : lefP ch (all5 sl) h k = Lv ch one h 0 (all5 sl ^^^ k) := by unfold lefP; rw [decide_eq_true c, Bool.true_and]
        rw [if_pos ((I_dif0 (by omega)).2 c), if_pos (hs.o 10 1 (by decide)), hs.p 1 5 19 (by decide), op_eq, hs.p 1 4 13 (by decide), op_eq, if_pos (hs.o 3 13 (by decide)), q_root hs, bd_eq, if_pos (hs.o 4 19 (by decide)), hr2, I_dif (by omega) c, hk.prv hg hr hr3 (xor_sub c) hh, bd_eq]
        by_cases c2 : Lv ch one h 0 (all5 sl ^^^ k) = true
        · rw [if_neg (by rw [bI0, c2]; decide), if_pos (show lefP ch (all5 sl) h k = true by rw [eL]; exact c2)]
          by_cases c3 : (n : Int) = z
          · rw [if_pos (by rw [c3]), if_pos c3]
          · rw [if_neg (by rw [I_eq (by omega) hz]; exact c3), if_neg c3, I_p1, I_p1, lt_eq, lt_eq]
            exact ih (k + 1) (n + 1) m (by omega) (by omega)
        · rw [if_pos (by rw [bI0]; exact Bool.eq_false_iff.2 c2), if_neg (show ¬ lefP ch (all5 sl) h k = true by rw [eL]; exact c2), I_p1, lt_eq]
          exact ih (k + 1) n m (by omega) (by omega)
      · rw [if_neg (fun q => c ((I_dif0 (by omega)).1 q)), if_neg (show ¬ lefP ch (all5 sl) h k = true by unfold lefP; rw [decide_eq_false c]; exact Bool.false_ne_true), I_p1, lt_eq]
        exact ih (k + 1) n m (by omega) (by omega)
theorem c_left {ch sl : Nat → Nat} (hg : GI ch sl) {S : Nat} (hS : S < 100000) {σ : St} (hk : K ch sl S σ) {h i : Int} (hh : -2147483648 ≤ h ∧ h < 2147483648) (hi : -2147483648 ≤ i ∧ i < 2147483648) : askC ch sl S σ (s_X10_left 1 (I h) (I i) σ) (lefA ch sl h i) := by
  obtain ⟨⟨hs, hA, hZ, hst⟩, _⟩ := hk.core
  unfold s_X10_left lefA
  by_cases c1 : h < 0
  · rw [if_pos (by rw [I_lit, I_lt hh (by omega)]; exact c1), if_neg (fun q => by omega)]
    exact askC.now hk
  rw [if_neg (by rw [I_lit, I_lt hh (by omega)]; exact c1)]
  by_cases c2 : 10 < h
  · rw [if_pos (by rw [I_lit, I_lt (by omega) hh]; exact c2), if_neg (fun q => by omega)]
    exact askC.now hk
  rw [if_neg (by rw [I_lit, I_lt (by omega) hh]; exact c2)]
  by_cases c3 : -1 ≤ i
  · rw [if_pos (by rw [show (-1 : Int32) = I (-1) from rfl, I_le (by omega) hi]; exact c3), if_pos (hs.o 10 1 (by decide)), q_hasGoal hs hst, bd_eq, if_pos (show (0 ≤ h ∧ h ≤ 10) ∧ -1 ≤ i from ⟨by omega, c3⟩)]
    by_cases c0 : sl 0 = 0
    · rw [if_pos (by rw [bI0]; exact decide_eq_false (fun q => q c0)), if_pos c0]
      exact askC.now hk
    · obtain ⟨σ1, S1, κ, a1, a2, a3, a4, a5, a6⟩ := q_prepare hg hS hk
      obtain ⟨r, r1, r2, r3⟩ := a2.root c0
      have hs1 := a2.1.1
      obtain ⟨n, rfl⟩ := Int.eq_ofNat_of_zero_le (show 0 ≤ h by omega)
      rw [if_neg (by rw [bI0, decide_eq_true c0]; decide), if_pos (hs.o 10 1 (by decide)), a1, bd_eq, if_pos (hs1.o 10 1 (by decide)), q_allRes hs1 a2.1.2.2.2, bd_eq, if_neg c0]
      exact ⟨σ1, S1, xl_loop hg a2 r1 r2 r3 (by omega) hi 32 0 0 15967 rfl (by omega), Or.inl ⟨κ, a2⟩, a3, a4, a5, a6⟩
  · rw [if_neg (by rw [show (-1 : Int32) = I (-1) from rfl, I_le (by omega) hi]; exact c3), if_neg (fun q => c3 q.2)]
    exact askC.now hk
theorem fw_end {P : Nat → Bool} : ∀ {j k : Nat} {b : Option Nat}, (∀ q, k ≤ q → P q = false) → fw P j k b = b := by
  intro j
  induction j with
  | zero => intro k b _; rfl
  | succ j ih =>
    intro k b h
    rw [fw, if_neg (by rw [h k (Nat.le_refl k)]; decide), ih (fun q hq => h q (by omega))]
theorem q_isProv {ch sl κ : Nat → Nat} {S r : Nat} {σ : St} (hg : GI ch sl) (hk : KR ch sl S κ σ) (hr : r < tot (nN ch sl) 99 10) (hr2 : sI σ 13 7 = I (r : Nat)) (hr3 : κ r = 0) {s : Nat} (hs2 : s &&& all5 sl = s) : s_X10_isProvable 1 (I (s : Nat)) σ = some (bI (Lv ch one 10 0 s), σ) := by
  have hs := hk.1.1
  unfold s_X10_isProvable
  rw [if_pos (hs.o 10 1 (by decide)), hs.p 1 5 19 (by decide), op_eq, hs.p 1 4 13 (by decide), op_eq, if_pos (hs.o 3 13 (by decide)), q_root hs, bd_eq, if_pos (hs.o 4 19 (by decide)), hr2, show (10 : Int32) = I ((10 : Nat) : Int) from rfl, hk.prv hg hr hr3 hs2 (by omega), bd_eq, if_pos (zok_bI _)]
def szR (b : Option Nat) : Nat := match b with
  | none => 6
  | some x => pcn x
theorem pcn_32 : ∀ s : Nat, s < 32 → pcn s < 6 := by decide
theorem bet_sz {k : Nat} {b : Option Nat} (hk : k < 32) : bet k b = decide (pcn k < szR b) := by
  cases b with
  | none => exact (decide_eq_true (pcn_32 k hk)).symm
  | some x => rfl
theorem lp_few (n a : Nat) (b c d e : Int32) (σ : St) : s_X10_fewest_28 (n + 1) a b c d e σ = sb_X10_fewest_28 (s_X10_fewest_28 n) a b c d e σ := rfl
theorem xf_loop {ch sl κ : Nat → Nat} {S r : Nat} {σ : St} (hg : GI ch sl) (hk : KR ch sl S κ σ) (hr : r < tot (nN ch sl) 99 10) (hr2 : sI σ 13 7 = I (r : Nat)) (hr3 : κ r = 0) : ∀ (j k m : Nat) (b : Option Nat), k + j = 32 → (∀ x, b = some x → x < 32) →
    s_X10_fewest_28 (m + j + 1) 1 (I (all5 sl : Nat)) (fpR b) (I (szR b : Nat)) (I (k : Nat)) σ = some (fpR (fw (fewP ch (all5 sl)) j k b), σ) := by
  have ha := all5_lt sl
  have hs := hk.1.1
  have hend : ∀ (m k : Nat) (b : Option Nat), all5 sl < k → k ≤ 32 → ∀ j, s_X10_fewest_28 (m + 1) 1 (I (all5 sl : Nat)) (fpR b) (I (szR b : Nat)) (I (k : Nat)) σ = some (fpR (fw (fewP ch (all5 sl)) j k b), σ) := by
    intro m k b hk1 hk2 j
    rw [lp_few]
    unfold sb_X10_fewest_28
    rw [if_pos (by rw [I_lt (by omega) (by omega)]; omega), fw_end (fun q hq => by unfold fewP; rw [decide_eq_false (fun q2 => by have := sub_le q2; omega)]; rfl)]
  intro j
  induction j with
  | zero => intro k m b hkj hb; exact hend m k b (by omega) (by omega) 0
  | succ j ih =>
    intro k m b hkj hb
    by_cases ck : all5 sl < k
    · exact hend (m + (j + 1)) k b ck (by omega) (j + 1)
    · rw [lp_few, fw]
      unfold sb_X10_fewest_28
      have hsz : szR b ≤ 8 := by
        cases b with
        | none => show 6 ≤ 8; omega
        | some x => exact pcn_le
      have hpk := pcn_le (s := k)
      rw [if_neg (by rw [I_lt (by omega) (by omega)]; omega)]
      by_cases c : k &&& all5 sl = k
      · have eL : fewP ch (all5 sl) k = Lv ch one 10 0 k := by unfold fewP; rw [decide_eq_true c, Bool.true_and]
        rw [if_pos ((I_dif0 (by omega)).2 c), q_bitCount (by omega), bd_eq]
        by_cases c2 : pcn k < szR b
        · have ebet : bet k b = true := by rw [bet_sz (by omega)]; exact decide_eq_true c2
          rw [if_neg (by rw [I_le (by omega) (by omega)]; omega), if_pos (hs.o 10 1 (by decide)), q_isProv hg hk hr hr2 hr3 c, bd_eq]
          by_cases c3 : Lv ch one 10 0 k = true
          · rw [if_neg (by rw [bI0, c3]; decide), q_bitCount (by omega), bd_eq, I_p1, lt_eq, if_pos (show fewP ch (all5 sl) k = true by rw [eL]; exact c3), if_pos ebet]
            exact ih (k + 1) m (some k) (by omega) (fun x hx => by cases hx; omega)
          · rw [if_pos (by rw [bI0]; exact Bool.eq_false_iff.2 c3), I_p1, lt_eq, if_neg (show ¬ fewP ch (all5 sl) k = true by rw [eL]; exact c3)]
            exact ih (k + 1) m b (by omega) hb
        · have ebet : ¬ bet k b = true := by rw [bet_sz (by omega), decide_eq_true_iff]; exact c2
          rw [if_pos (by rw [I_le (by omega) (by omega)]; omega), I_p1, lt_eq, if_neg ebet]
          have e : (if fewP ch (all5 sl) k = true then b else b) = b := by split <;> rfl
          rw [e]
          exact ih (k + 1) m b (by omega) hb
      · rw [if_neg (fun q => c ((I_dif0 (by omega)).1 q)), I_p1, lt_eq, if_neg (show ¬ fewP ch (all5 sl) k = true by unfold fewP; rw [decide_eq_false c]; exact Bool.false_ne_true)]
        exact ih (k + 1) m b (by omega) hb
theorem c_fewest {ch sl : Nat → Nat} (hg : GI ch sl) {S : Nat} (hS : S < 100000) {σ : St} (hk : K ch sl S σ) : askC ch sl S σ (s_X10_fewest 1 σ) (fewA ch sl) := by
  obtain ⟨⟨hs, hA, hZ, hst⟩, _⟩ := hk.core
  unfold s_X10_fewest fewA
  rw [if_pos (hs.o 10 1 (by decide)), q_hasGoal hs hst, bd_eq]
  by_cases c0 : sl 0 = 0
  · rw [if_pos (by rw [bI0]; exact decide_eq_false (fun q => q c0)), if_pos c0]
    exact askC.now hk
  · obtain ⟨σ1, S1, κ, a1, a2, a3, a4, a5, a6⟩ := q_prepare hg hS hk
    obtain ⟨r, r1, r2, r3⟩ := a2.root c0
    have hs1 := a2.1.1
    rw [if_neg (by rw [bI0, decide_eq_true c0]; decide), if_pos (hs.o 10 1 (by decide)), a1, bd_eq, if_pos (hs1.o 10 1 (by decide)), q_allRes hs1 a2.1.2.2.2, bd_eq, if_neg c0]
    exact ⟨σ1, S1, xf_loop hg a2 r1 r2 r3 32 0 15967 none rfl (fun x hx => by cases hx), Or.inl ⟨κ, a2⟩, a3, a4, a5, a6⟩
theorem lp_need (n a : Nat) (b c d : Int32) (σ : St) : s_X10_needed_23 (n + 1) a b c d σ = sb_X10_needed_23 (s_X10_needed_23 n) a b c d σ := rfl
theorem xn_loop {ch sl κ : Nat → Nat} {S r : Nat} {σ : St} (hg : GI ch sl) (hk : KR ch sl S κ σ) (hr : r < tot (nN ch sl) 99 10) (hr2 : sI σ 13 7 = I (r : Nat)) (hr3 : κ r = 0) : ∀ (j k m : Nat), k + j = 5 →
    s_X10_needed_23 (m + j + 1) 1 (I (all5 sl : Nat)) (I ((stB (needP ch (all5 sl)) k : Nat) : Int)) (I (k : Nat)) σ = some (I ((stB (needP ch (all5 sl)) 5 : Nat) : Int), σ) := by
  have ha := all5_lt sl
  have hs := hk.1.1
  intro j
  induction j with
  | zero =>
    intro k m hkj
    obtain rfl : k = 5 := (by omega)
    rw [lp_need]
    unfold sb_X10_needed_23
    rw [if_pos (by decide)]
  | succ j ih =>
    intro k m hkj
    have ih := ih (k + 1) m (by omega)
    rw [stB] at ih
    rw [lp_need]
    unfold sb_X10_needed_23
    have hpos := Nat.two_pow_pos k
    have hp8 := pow8 (show k < 8 by omega)
    rw [if_neg (by rw [I_lit, I_le (by omega) (by omega)]; omega), I_shl1 k (by omega), lt_eq, I_and, Nat.and_comm]
    by_cases c : (all5 sl).testBit k = true
    · rw [bit_sub c, if_neg (by rw [I_z (by omega)]; omega), if_pos (hs.o 10 1 (by decide)), I_xor, q_isProv hg hk hr hr2 hr3 (xor_sub (bit_sub c)), bd_eq]
      by_cases c2 : Lv ch one 10 0 (all5 sl ^^^ 2 ^ k) = true
      · rw [if_neg (show ¬ needP ch (all5 sl) k = true by unfold needP; rw [c, c2]; decide), Nat.or_zero] at ih
        rw [if_neg (by rw [bI0, c2]; decide), I_p1, lt_eq]
        exact ih
      · rw [if_pos (show needP ch (all5 sl) k = true by unfold needP; rw [c, Bool.eq_false_iff.2 c2]; rfl)] at ih
        rw [if_pos (by rw [bI0]; exact Bool.eq_false_iff.2 c2), I_or, lt_eq, I_p1, lt_eq]
        exact ih
    · have h0 : 2 ^ k &&& all5 sl = 0 := of_decide_eq_true (by rw [dis_bit, Bool.eq_false_iff.2 c]; rfl)
      rw [if_neg (show ¬ needP ch (all5 sl) k = true by unfold needP; rw [Bool.eq_false_iff.2 c]; exact Bool.false_ne_true), Nat.or_zero] at ih
      rw [h0, if_pos (by decide), I_p1, lt_eq]
      exact ih
theorem c_needed {ch sl : Nat → Nat} (hg : GI ch sl) {S : Nat} (hS : S < 100000) {σ : St} (hk : K ch sl S σ) : askC ch sl S σ (s_X10_needed 1 σ) (needA ch sl) := by
  obtain ⟨⟨hs, hA, hZ, hst⟩, _⟩ := hk.core
  unfold s_X10_needed needA
  rw [if_pos (hs.o 10 1 (by decide)), q_hasGoal hs hst, bd_eq]
  by_cases c0 : sl 0 = 0
  · rw [if_pos (by rw [bI0]; exact decide_eq_false (fun q => q c0)), if_pos c0]
    exact askC.now hk
  · obtain ⟨σ1, S1, κ, a1, a2, a3, a4, a5, a6⟩ := q_prepare hg hS hk
    obtain ⟨r, r1, r2, r3⟩ := a2.root c0
    have hs1 := a2.1.1
    rw [if_neg (by rw [bI0, decide_eq_true c0]; decide), if_pos (hs.o 10 1 (by decide)), a1, bd_eq, if_pos (hs1.o 10 1 (by decide)), q_allRes hs1 a2.1.2.2.2, bd_eq, if_neg c0]
    exact ⟨σ1, S1, xn_loop hg a2 r1 r2 r3 5 0 15994 rfl, Or.inl ⟨κ, a2⟩, a3, a4, a5, a6⟩
