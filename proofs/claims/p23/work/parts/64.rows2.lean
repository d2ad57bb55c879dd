theorem lp_addShared (n a : Nat) (b c d w : Int32) (σ : St) : s_X4_addShared_3 (n + 1) a b c d w σ = sb_X4_addShared_3 (s_X4_addShared_3 n) a b c d w σ := rfl
theorem sh_loop {to f1 f2 : Nat} (hto : to + 4 ≤ 2640) (hf1 : f1 + 4 ≤ 2640) (hf2 : f2 + 4 ≤ 2640) (hd1 : f1 + 4 ≤ to ∨ to + 4 ≤ f1) (hd2 : f2 + 4 ≤ to ∨ to + 4 ≤ f2) {σ : St} (hs : SS σ) : ∀ (j w m : Nat) (σ1 : St), w + j = 4 → FX noC (rwL to) σ σ1 →
    (∀ u, u < 256 → rb σ1 to u = if u / 64 < w then rb σ to u || (rb σ f1 u && rb σ f2 u) else rb σ to u) →
    ∃ σ', s_X4_addShared_3 (m + j + 1) 19 (I (to : Nat)) (I (f1 : Nat)) (I (f2 : Nat)) (I (w : Nat)) σ1 = some ((), σ') ∧ FX noC (rwL to) σ σ' ∧ ∀ u, u < 256 → rb σ' to u = (rb σ to u || (rb σ f1 u && rb σ f2 u)) := by
  intro j
  induction j with
  | zero =>
    intro w m σ1 hw hf hr
    obtain rfl : w = 4 := (by omega)
    refine ⟨σ1, ?_, hf, fun u hu => ?_⟩
    · rw [lp_addShared]
      unfold sb_X4_addShared_3
      rw [if_pos (by decide)]
    · rw [hr u hu, if_pos (by omega)]
  | succ j ih =>
    intro w m σ1 hw hf hr
    have hs1 := hf.ss hs
    have ho := hs1.o 4 19 (by decide)
    rw [lp_addShared]
    unfold sb_X4_addShared_3
    rw [if_neg (by rw [I_lit, I_le (by omega) (by omega)]; omega), if_pos ho, q_wd hs1 (by omega), bd_eq, if_pos ho, q_wd hs1 (by omega), bd_eq, if_pos ho, q_orW hs1 (by omega), bd_eq, I_p1, lt_eq]
    refine ih (w + 1) m _ (by omega) (hf.trans (or_fx (by omega) _)) (fun u hu => ?_)
    rw [or_rb, hr u hu]
    by_cases c2 : u / 64 = w
    · rw [if_pos c2, if_neg (by omega), if_pos (by omega), gb_and, hf.l 20 (f1 + w) (by unfold rwL; omega), hf.l 20 (f2 + w) (by unfold rwL; omega)]
      unfold rb
      rw [c2]
    · rw [if_neg c2]
      by_cases c3 : u / 64 < w
      · rw [if_pos c3, if_pos (by omega)]
      · rw [if_neg c3, if_neg (by omega)]
theorem q_shared {to f1 f2 : Nat} (hto : to + 4 ≤ 2640) (hf1 : f1 + 4 ≤ 2640) (hf2 : f2 + 4 ≤ 2640) (hd1 : f1 + 4 ≤ to ∨ to + 4 ≤ f1) (hd2 : f2 + 4 ≤ to ∨ to + 4 ≤ f2) {σ : St} (hs : SS σ) : ∃ σ', s_X4_addShared 19 (I (to : Nat)) (I (f1 : Nat)) (I (f2 : Nat)) σ = some ((), σ') ∧ FX noC (rwL to) σ σ' ∧ ∀ u, u < 256 → rb σ' to u = (rb σ to u || (rb σ f1 u && rb σ f2 u)) :=
  sh_loop hto hf1 hf2 hd1 hd2 hs 4 0 15995 σ rfl (FX.refl σ) (fun u hu => by rw [if_neg (by omega)])
/-- the sets that are all there -/
def Als (σ : St) (T : Nat → Bool) : Prop := ∀ u, u < 256 → gb (sL σ 21 (u / 64)) (u % 64) = T u
theorem Als.fx {σ σ' : St} {T : Nat → Bool} {CI CL : Nat → Nat → Prop} (h : Als σ T) (hf : FX CI CL σ σ') (hc : ∀ k, ¬ CL 21 k) : Als σ' T := fun u hu => by rw [hf.l 21 _ (hc _)]; exact h u hu
theorem lp_addAll (n a : Nat) (b w : Int32) (σ : St) : s_X4_addAllSets_2 (n + 1) a b w σ = sb_X4_addAllSets_2 (s_X4_addAllSets_2 n) a b w σ := rfl
theorem al_loop {to : Nat} (hto : to + 4 ≤ 2640) {T : Nat → Bool} {σ : St} (hs : SS σ) (hT : Als σ T) : ∀ (j w m : Nat) (σ1 : St), w + j = 4 → FX noC (rwL to) σ σ1 →
    (∀ u, u < 256 → rb σ1 to u = if u / 64 < w then rb σ to u || T u else rb σ to u) →
    ∃ σ', s_X4_addAllSets_2 (m + j + 1) 19 (I (to : Nat)) (I (w : Nat)) σ1 = some ((), σ') ∧ FX noC (rwL to) σ σ' ∧ ∀ u, u < 256 → rb σ' to u = (rb σ to u || T u) := by
  intro j
  induction j with
  | zero =>
    intro w m σ1 hw hf hr
    obtain rfl : w = 4 := (by omega)
    refine ⟨σ1, ?_, hf, fun u hu => ?_⟩
    · rw [lp_addAll]
      unfold sb_X4_addAllSets_2
      rw [if_pos (by decide)]
    · rw [hr u hu, if_pos (by omega)]
  | succ j ih =>
    intro w m σ1 hw hf hr
    have hs1 := hf.ss hs
    have ho := hs1.o 4 19 (by decide)
    rw [lp_addAll]
    unfold sb_X4_addAllSets_2
    rw [if_neg (by rw [I_lit, I_le (by omega) (by omega)]; omega), if_pos ho, hs1.p 19 2 21 (by decide), op_eq, if_pos (hs1.o 14 21 (by decide)), hs1.len 21 4 (by decide), if_pos (inN (by omega) (by omega)), tNI (by omega), q_orW hs1 (by omega), bd_eq, I_p1, lt_eq]
    refine ih (w + 1) m _ (by omega) (hf.trans (or_fx (by omega) _)) (fun u hu => ?_)
    rw [or_rb, hr u hu]
    by_cases c2 : u / 64 = w
    · rw [if_pos c2, if_neg (by omega), if_pos (by omega), hf.l 21 w (by unfold rwL; omega)]
      have := hT u hu
      rw [c2] at this
      rw [this]
    · rw [if_neg c2]
      by_cases c3 : u / 64 < w
      · rw [if_pos c3, if_pos (by omega)]
      · rw [if_neg c3, if_neg (by omega)]
theorem q_addAll {to : Nat} (hto : to + 4 ≤ 2640) {T : Nat → Bool} {σ : St} (hs : SS σ) (hT : Als σ T) : ∃ σ', s_X4_addAllSets 19 (I (to : Nat)) σ = some ((), σ') ∧ FX noC (rwL to) σ σ' ∧ ∀ u, u < 256 → rb σ' to u = (rb σ to u || T u) :=
  al_loop hto hs hT 4 0 15995 σ rfl (FX.refl σ) (fun u hu => by rw [if_neg (by omega)])
theorem lp_clear (n a : Nat) (b w : Int32) (σ : St) : s_X4_clearRow_2 (n + 1) a b w σ = sb_X4_clearRow_2 (s_X4_clearRow_2 n) a b w σ := rfl
theorem cl_loop {to : Nat} (hto : to + 4 ≤ 2640) {σ : St} (hs : SS σ) : ∀ (j w m : Nat) (σ1 : St), w + j = 4 → FX noC (rwL to) σ σ1 → (∀ u, u < 256 → u / 64 < w → rb σ1 to u = false) →
    ∃ σ', s_X4_clearRow_2 (m + j + 1) 19 (I (to : Nat)) (I (w : Nat)) σ1 = some ((), σ') ∧ FX noC (rwL to) σ σ' ∧ ∀ u, u < 256 → rb σ' to u = false := by
  intro j
  induction j with
  | zero =>
    intro w m σ1 hw hf hr
    obtain rfl : w = 4 := (by omega)
    refine ⟨σ1, ?_, hf, fun u hu => hr u hu (by omega)⟩
    rw [lp_clear]
    unfold sb_X4_clearRow_2
    rw [if_pos (by decide)]
  | succ j ih =>
    intro w m σ1 hw hf hr
    have hs1 := hf.ss hs
    have ho := hs1.o 4 19 (by decide)
    have e : I (to : Nat) + I (w : Nat) = I ((to + w : Nat) : Int) := by rw [I_add]; rfl
    rw [lp_clear]
    unfold sb_X4_clearRow_2
    rw [if_neg (by rw [I_lit, I_le (by omega) (by omega)]; omega), if_neg (by rw [I_lit, I_lt (by omega) (by omega)]; omega), if_pos ho, hs1.p 19 1 20 (by decide), op_eq, if_pos (hs1.o 14 20 (by decide)), hs1.len 20 2640 (by decide), I_nI, e, if_neg (by rw [I_le (by omega) (by omega)]; omega), if_pos (inN (by omega) (by omega)), tNI (by omega), lt_eq, I_p1, lt_eq]
    refine ih (w + 1) m _ (by omega) (hf.trans (FX.setL 20 _ _ ⟨rfl, by omega, by omega⟩)) (fun u hu hu2 => ?_)
    unfold rb
    rw [sL_L]
    by_cases c2 : u / 64 = w
    · rw [if_pos ⟨rfl, by omega⟩, gb_0]
    · rw [if_neg (fun q => c2 (by omega))]
      exact hr u hu (by omega)
theorem q_clearRow {to : Nat} (hto : to + 4 ≤ 2640) {σ : St} (hs : SS σ) : ∃ σ', s_X4_clearRow 19 (I (to : Nat)) σ = some ((), σ') ∧ FX noC (rwL to) σ σ' ∧ ∀ u, u < 256 → rb σ' to u = false :=
  cl_loop hto hs 4 0 15995 σ rfl (FX.refl σ) (fun u hu h => by omega)
/-! unions -/
theorem fstN_snoc {P : Nat → Bool} : ∀ {j k : Nat}, (fstN P (j + 1) k).isSome = ((fstN P j k).isSome || P (k + j)) := by
  intro j
  induction j with
  | zero =>
    intro k
    unfold fstN
    by_cases c : P k = true
    · rw [if_pos c, Nat.add_zero, c]; rfl
    · rw [if_neg c]
      show false = (false || P k)
      rw [Bool.eq_false_iff.2 c]; rfl
  | succ j ih =>
    intro k
    rw [fstN]
    by_cases c : P k = true
    · rw [if_pos c]
      show true = (_ || _)
      rw [fstN, if_pos c]; rfl
    · rw [if_neg c, ih, show k + 1 + j = k + (j + 1) by omega]
      congr 1
      rw [fstN, if_neg c]
/-- the unions of a set of one row, so far, and one of another -/
def unF (f1 f2 : Nat → Bool) (u q : Nat) : Bool := decide (q &&& u = q) && (f1 q && f2 (u ^^^ q))
theorem unF_eq (f1 f2 : Nat → Bool) (u q : Nat) : unF f1 f2 u q = (f1 q && mvF f2 q u) := by
  unfold unF mvF
  cases decide (q &&& u = q) <;> cases f1 q <;> rfl
theorem fstN_false {P : Nat → Bool} : ∀ {j k i : Nat}, (∀ q, k + j ≤ q → q < k + j + i → P q = false) → (fstN P (j + i) k).isSome = (fstN P j k).isSome := by
  intro j k i
  induction i with
  | zero => intro _; rfl
  | succ i ih =>
    intro h
    rw [show j + (i + 1) = (j + i) + 1 by omega, fstN_snoc, ih (fun q h1 h2 => h q h1 (by omega)), h (k + (j + i)) (by omega) (by omega), Bool.or_false]
theorem lp_un21 (k3 : Nat → Int32 → Int32 → Int32 → Int32 → St → Option (Unit × St)) (n a : Nat) (b c d e : Int32) (y : Int64) (w : Int32) (σ : St) : s_X4_addUnions_21 k3 (n + 1) a b c d e y w σ = sb_X4_addUnions_21 k3 (s_X4_addUnions_21 k3 n) a b c d e y w σ := rfl
theorem lp_un3 (n a : Nat) (b c d e : Int32) (σ : St) : s_X4_addUnions_3 (n + 1) a b c d e σ = sb_X4_addUnions_3 (s_X4_addUnions_3 n) a b c d e σ := rfl
theorem un21_loop {to f1 f2 : Nat} (hto : to + 4 ≤ 2640) (hf1 : f1 + 4 ≤ 2640) (hf2 : f2 + 4 ≤ 2640) (hd1 : f1 + 4 ≤ to ∨ to + 4 ≤ f1) (hd2 : f2 + 4 ≤ to ∨ to + 4 ≤ f2) {σ : St} (hs : SS σ) (hA : Apt σ) (k3 : Nat → Int32 → Int32 → Int32 → Int32 → St → Option (Unit × St)) {w : Nat} (hw : w < 4) : ∀ (j b m : Nat) (y : Int64) (σ1 : St), b + j = 64 → FX noC (rwL to) σ σ1 →
    (∀ i, b + i < 64 → gb y i = gb (sL σ 20 (f1 + w)) (b + i)) → (∀ i, 64 ≤ b + i → gb y i = false) →
    (∀ u, u < 256 → rb σ1 to u = (rb σ to u || (fstN (unF (rb σ f1) (rb σ f2) u) (64 * w + b) 0).isSome)) →
    ∃ σ', s_X4_addUnions_21 k3 (m + j + 1) 19 (I (to : Nat)) (I (f1 : Nat)) (I (f2 : Nat)) (I (w : Nat)) y (I (b : Nat)) σ1 = k3 19 (I (to : Nat)) (I (f1 : Nat)) (I (f2 : Nat)) (I ((w + 1 : Nat) : Int)) σ' ∧ FX noC (rwL to) σ σ' ∧
      ∀ u, u < 256 → rb σ' to u = (rb σ to u || (fstN (unF (rb σ f1) (rb σ f2) u) (64 * (w + 1)) 0).isSome) := by
  intro j
  induction j with
  | zero =>
    intro b m y σ1 hb hf hy hy2 hr
    obtain rfl : b = 64 := (by omega)
    refine ⟨σ1, ?_, hf, fun u hu => by rw [hr u hu, show 64 * (w + 1) = 64 * w + 64 by omega]⟩
    rw [lp_un21]
    unfold sb_X4_addUnions_21
    rw [if_pos (by decide), I_p1, lt_eq]
  | succ j ih =>
    intro b m y σ1 hb hf hy hy2 hr
    have hs1 := hf.ss hs
    rw [lp_un21]
    unfold sb_X4_addUnions_21
    rw [if_neg (by rw [I_lit, I_lt (by omega) (by omega)]; omega)]
    by_cases c0 : y = 0
    · rw [if_pos ((cmp0 y 0).2 c0), I_p1, lt_eq]
      refine ⟨σ1, rfl, hf, fun u hu => ?_⟩
      rw [hr u hu, show 64 * (w + 1) = (64 * w + b) + (64 - b) by omega, fstN_false (P := unF (rb σ f1) (rb σ f2) u) (j := 64 * w + b) (k := 0) (i := 64 - b) (fun q h1 h2 => ?_)]
      rw [unF_eq]
      have : rb σ f1 q = false := by
        unfold rb
        have h3 := hy (q - 64 * w - b) (by omega)
        rw [c0, gb_0] at h3
        rw [show q / 64 = w by omega, show q % 64 = b + (q - 64 * w - b) by omega]
        exact h3.symm
      rw [this, Bool.false_and]
    · have ny : ∀ (i : Nat), b + 1 + i < 64 → gb ((y.toUInt64 >>> ((1 : Int32).toInt64.toUInt64 &&& Int64.toUInt64 63)).toInt64) i = gb (sL σ 20 (f1 + w)) (b + 1 + i) := by
        intro i hi
        have := gb_shr y (n := 1) (by omega) i
        rw [show (1 : Int32) = I ((1 : Nat) : Int) from rfl, this, hy (1 + i) (by omega), show b + (1 + i) = b + 1 + i by omega]
      have ny2 : ∀ (i : Nat), 64 ≤ b + 1 + i → gb ((y.toUInt64 >>> ((1 : Int32).toInt64.toUInt64 &&& Int64.toUInt64 63)).toInt64) i = false := by
        intro i hi
        have := gb_shr y (n := 1) (by omega) i
        rw [show (1 : Int32) = I ((1 : Nat) : Int) from rfl, this, hy2 (1 + i) (by omega)]
      have hb0 : gb y 0 = rb σ f1 (64 * w + b) := by
        unfold rb
        rw [hy 0 (by omega), show (64 * w + b) / 64 = w by omega, show (64 * w + b) % 64 = b + 0 by omega]
      rw [if_neg (fun q => c0 ((cmp0 y 0).1 q))]
      by_cases c1 : gb y 0 = false
      · rw [if_pos ((low_bit y).2 c1)]
        unfold s_X4_addUnions_58
        rw [lt_eq, I_p1, lt_eq]
        refine ih (b + 1) m _ σ1 (by omega) hf ny ny2 (fun u hu => ?_)
        rw [hr u hu, show 64 * w + (b + 1) = (64 * w + b) + 1 by omega, fstN_snoc, Nat.zero_add, unF_eq, ← hb0, c1, Bool.false_and, Bool.or_false]
      · have c1' : gb y 0 = true := by cases h : gb y 0 with | true => rfl | false => exact absurd h c1
        rw [if_neg (fun q => c1 ((low_bit y).1 q)), if_pos (hs1.o 4 19 (by decide)), join6 w hw b (by omega)]
        obtain ⟨σ2, a1, a2, a3⟩ := q_moved hto hf2 hd2 (a := 64 * w + b) (by omega) hs1 (hA.fx hf (fun k => by unfold rwL; omega))
        rw [a1, bd_eq]
        unfold s_X4_addUnions_58
        rw [lt_eq, I_p1, lt_eq]
        refine ih (b + 1) m _ σ2 (by omega) (hf.trans a2) ny ny2 (fun u hu => ?_)
        rw [a3 u hu, hr u hu, show 64 * w + (b + 1) = (64 * w + b) + 1 by omega, fstN_snoc, Nat.zero_add, unF_eq, ← hb0, c1', Bool.true_and, Bool.or_assoc]
        congr 2
        unfold mvF
        by_cases c5 : (64 * w + b) &&& u = 64 * w + b
        · rw [hf.rb (r := f2) (fun k h1 h2 => by unfold rwL; omega) (xor_lt hu (by omega))]
        · rw [decide_eq_false c5, Bool.false_and, Bool.false_and]
theorem un3_loop {to f1 f2 : Nat} (hto : to + 4 ≤ 2640) (hf1 : f1 + 4 ≤ 2640) (hf2 : f2 + 4 ≤ 2640) (hd1 : f1 + 4 ≤ to ∨ to + 4 ≤ f1) (hd2 : f2 + 4 ≤ to ∨ to + 4 ≤ f2) {σ : St} (hs : SS σ) (hA : Apt σ) : ∀ (j w m : Nat) (σ1 : St), w + j = 4 → FX noC (rwL to) σ σ1 →
    (∀ u, u < 256 → rb σ1 to u = (rb σ to u || (fstN (unF (rb σ f1) (rb σ f2) u) (64 * w) 0).isSome)) →
    ∃ σ', s_X4_addUnions_3 (m + j + 1) 19 (I (to : Nat)) (I (f1 : Nat)) (I (f2 : Nat)) (I (w : Nat)) σ1 = some ((), σ') ∧ FX noC (rwL to) σ σ' ∧ ∀ u, u < 256 → rb σ' to u = (rb σ to u || (fstN (unF (rb σ f1) (rb σ f2) u) 256 0).isSome) := by
  intro j
  induction j with
  | zero =>
    intro w m σ1 hw hf hr
    obtain rfl : w = 4 := (by omega)
    refine ⟨σ1, ?_, hf, hr⟩
    rw [lp_un3]
    unfold sb_X4_addUnions_3
    rw [if_pos (by decide)]
  | succ j ih =>
    intro w m σ1 hw hf hr
    have hs1 := hf.ss hs
    rw [lp_un3]
    unfold sb_X4_addUnions_3
    rw [if_neg (by rw [I_lit, I_le (by omega) (by omega)]; omega), if_pos (hs1.o 4 19 (by decide)), q_wd hs1 (by omega), bd_eq, hf.l 20 (f1 + w) (by unfold rwL; omega)]
    obtain ⟨σ2, a1, a2, a3⟩ := un21_loop hto hf1 hf2 hd1 hd2 hs hA (s_X4_addUnions_3 (m + j + 1)) (show w < 4 by omega) 64 0 15935 (sL σ 20 (f1 + w)) σ1 rfl hf (fun i hi => by rw [Nat.zero_add]) (fun i hi => gb_ge _ (by omega)) hr
    obtain ⟨σ3, b1, b2, b3⟩ := ih (w + 1) m σ2 (by omega) a2 a3
    exact ⟨σ3, a1.trans b1, b2, b3⟩
theorem q_unions {to f1 f2 : Nat} (hto : to + 4 ≤ 2640) (hf1 : f1 + 4 ≤ 2640) (hf2 : f2 + 4 ≤ 2640) (hd1 : f1 + 4 ≤ to ∨ to + 4 ≤ f1) (hd2 : f2 + 4 ≤ to ∨ to + 4 ≤ f2) {σ : St} (hs : SS σ) (hA : Apt σ) : ∃ σ', s_X4_addUnions 19 (I (to : Nat)) (I (f1 : Nat)) (I (f2 : Nat)) σ = some ((), σ') ∧ FX noC (rwL to) σ σ' ∧ ∀ u, u < 256 → rb σ' to u = (rb σ to u || (fstN (unF (rb σ f1) (rb σ f2) u) 256 0).isSome) :=
  un3_loop hto hf1 hf2 hd1 hd2 hs hA 4 0 15995 σ rfl (FX.refl σ) (fun u hu => by rw [show 64 * 0 = 0 from rfl]; show _ = (_ || false); rw [Bool.or_false])
