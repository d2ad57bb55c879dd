/-! the class computes all rows -/
theorem row_eq {σ : St} {r1 r2 : Nat} (h : ∀ w, w < 4 → sL σ 20 (r1 + w) = sL σ 20 (r2 + w)) (u : Nat) (hu : u < 256) : rb σ r1 u = rb σ r2 u := by
  unfold rb
  rw [h (u / 64) (by omega)]
theorem lp_grown (n a : Nat) (b c d : Int32) (σ : St) : s_X4_hasGrown_18 (n + 1) a b c d σ = sb_X4_hasGrown_18 (s_X4_hasGrown_18 n) a b c d σ := rfl
theorem gr_loop {r1 r2 : Nat} (h1 : r1 + 4 ≤ 2640) (h2 : r2 + 4 ≤ 2640) {σ : St} (hs : SS σ) : ∀ (j w m : Nat), w + j = 4 → (∀ i, i < w → sL σ 20 (r1 + i) = sL σ 20 (r2 + i)) →
    ∃ b, s_X4_hasGrown_18 (m + j + 1) 19 (I (r1 : Nat)) (I (r2 : Nat)) (I (w : Nat)) σ = some (bI b, σ) ∧ (b = false → ∀ u, u < 256 → rb σ r1 u = rb σ r2 u) := by
  intro j
  induction j with
  | zero =>
    intro w m hw hi
    obtain rfl : w = 4 := (by omega)
    refine ⟨false, ?_, fun _ u hu => row_eq hi u hu⟩
    rw [lp_grown]
    unfold sb_X4_hasGrown_18
    rw [if_pos (by decide)]
    rfl
  | succ j ih =>
    intro w m hw hi
    have ho := hs.o 4 19 (by decide)
    rw [lp_grown]
    unfold sb_X4_hasGrown_18
    rw [if_neg (by rw [I_lit, I_le (by omega) (by omega)]; omega), if_pos ho, q_wd hs (by omega), bd_eq, if_pos ho, q_wd hs (by omega), bd_eq]
    by_cases c : sL σ 20 (r1 + w) = sL σ 20 (r2 + w)
    · rw [if_pos ((cmp0 _ _).2 c), I_p1, lt_eq]
      refine ih (w + 1) m (by omega) (fun i h => ?_)
      by_cases e : i = w
      · rw [e]; exact c
      · exact hi i (by omega)
    · rw [if_neg (fun q => c ((cmp0 _ _).1 q))]
      exact ⟨true, rfl, fun q => by cases q⟩
theorem q_hasGrown {c h : Nat} (hc : c < 60) (hh : h ≤ 9) {σ : St} (hs : SS σ) : ∃ b, s_X4_hasGrown 19 (I (c : Nat)) (I ((h + 1 : Nat) : Int)) σ = some (bI b, σ) ∧ (b = false → ∀ u, u < 256 → rb σ (rwN c (h + 1)) u = rb σ (rwN c h) u) := by
  unfold s_X4_hasGrown
  rw [q_row hc (by omega), bd_eq, I_m1 (by omega), show h + 1 - 1 = h by omega, q_row hc (by omega), bd_eq]
  exact gr_loop (rwN_le hc (by omega)) (rwN_le hc (by omega)) hs 4 0 15995 rfl (fun i hi => by omega)
/-! the sets that are all there -/
def C21 : Nat → Nat → Prop := fun a _ => a = 21
theorem lp_fa24 (k10 : Nat → Int32 → Int32 → St → Option (Unit × St)) (n a : Nat) (b c d : Int32) (σ : St) : s_X4_findAllSets_24 k10 (n + 1) a b c d σ = sb_X4_findAllSets_24 k10 (s_X4_findAllSets_24 k10 n) a b c d σ := rfl
theorem lp_fa10 (n a : Nat) (b c : Int32) (σ : St) : s_X4_findAllSets_10 (n + 1) a b c σ = sb_X4_findAllSets_10 (s_X4_findAllSets_10 n) a b c σ := rfl
theorem fa24 {S w : Nat} (hS : S < 256) (hw : w < 4) (k10 : Nat → Int32 → Int32 → St → Option (Unit × St)) : ∀ (j b m : Nat) (σ : St), b + j = 64 → SS σ → (∀ i, i < 64 → gb (sL σ 21 w) i = (decide (i < b) && decide ((64 * w + i) &&& S = 64 * w + i))) →
    ∃ σ', s_X4_findAllSets_24 k10 (m + j + 1) 19 (I (S : Nat)) (I (w : Nat)) (I (b : Nat)) σ = k10 19 (I (S : Nat)) (I ((w + 1 : Nat) : Int)) σ' ∧ FX noC (fun a k => a = 21 ∧ k = w) σ σ' ∧ ∀ i, i < 64 → gb (sL σ' 21 w) i = decide ((64 * w + i) &&& S = 64 * w + i) := by
  intro j
  induction j with
  | zero =>
    intro b m σ hb hs hr
    obtain rfl : b = 64 := (by omega)
    refine ⟨σ, ?_, FX.refl σ, fun i hi => by rw [hr i hi, decide_eq_true hi, Bool.true_and]⟩
    rw [lp_fa24]
    unfold sb_X4_findAllSets_24
    rw [if_pos (by decide), I_p1, lt_eq]
  | succ j ih =>
    intro b m σ hb hs hr
    rw [lp_fa24]
    unfold sb_X4_findAllSets_24
    rw [if_neg (by rw [I_lit, I_lt (by omega) (by omega)]; omega), join6 w hw b (by omega)]
    by_cases c : (64 * w + b) &&& S = 64 * w + b
    · rw [if_pos ((I_dif0 (by omega)).2 c), if_pos (hs.o 4 19 (by decide)), hs.p 19 2 21 (by decide), op_eq, if_pos (hs.o 14 21 (by decide)), hs.len 21 4 (by decide), if_pos (inN (by omega) (by omega)), if_pos (inN (by omega) (by omega)), tNI (by omega), lt_eq, I_p1, lt_eq]
      have f1 : FX noC (fun a k => a = 21 ∧ k = w) σ (setL σ 21 w (sL σ 21 w ||| (1 : Int64) <<< ((I (b : Nat)).toInt64 &&& 63))) := FX.setL 21 w _ ⟨rfl, rfl⟩
      obtain ⟨σ', a1, a2, a3⟩ := ih (b + 1) m _ (by omega) (f1.ss hs) (fun i hi => by
        rw [sL_L, if_pos ⟨rfl, rfl⟩, gb_or, hr i hi, one_n b (by omega) i hi]
        by_cases e : b = i
        · rw [decide_eq_true e, Bool.or_true, decide_eq_true (show i < b + 1 by omega), ← e, decide_eq_true c]; rfl
        · rw [decide_eq_false e, Bool.or_false]
          by_cases e2 : i < b
          · rw [decide_eq_true e2, decide_eq_true (show i < b + 1 by omega)]
          · rw [decide_eq_false e2, decide_eq_false (show ¬ i < b + 1 by omega)])
      exact ⟨σ', a1, f1.trans a2, a3⟩
    · rw [if_neg (fun q => c ((I_dif0 (by omega)).1 q)), I_p1, lt_eq]
      refine ih (b + 1) m σ (by omega) hs (fun i hi => ?_)
      rw [hr i hi]
      by_cases e : b = i
      · rw [decide_eq_false (show ¬ i < b by omega), ← e, decide_eq_false c, Bool.and_false, Bool.and_false]
      · by_cases e2 : i < b
        · rw [decide_eq_true e2, decide_eq_true (show i < b + 1 by omega)]
        · rw [decide_eq_false e2, decide_eq_false (show ¬ i < b + 1 by omega)]
theorem fa10 {S : Nat} (hS : S < 256) : ∀ (j w m : Nat) (σ : St), w + j = 4 → SS σ → (∀ u, u < 64 * w → gb (sL σ 21 (u / 64)) (u % 64) = decide (u &&& S = u)) →
    ∃ σ', s_X4_findAllSets_10 (m + j + 1) 19 (I (S : Nat)) (I (w : Nat)) σ = some ((), σ') ∧ FX noC C21 σ σ' ∧ ∀ u, u < 256 → gb (sL σ' 21 (u / 64)) (u % 64) = decide (u &&& S = u) := by
  intro j
  induction j with
  | zero =>
    intro w m σ hw hs hr
    obtain rfl : w = 4 := (by omega)
    refine ⟨σ, ?_, FX.refl σ, hr⟩
    rw [lp_fa10]
    unfold sb_X4_findAllSets_10
    rw [if_pos (by decide)]
  | succ j ih =>
    intro w m σ hw hs hr
    rw [lp_fa10]
    unfold sb_X4_findAllSets_10
    have f1 : FX noC C21 σ (setL σ 21 w 0) := FX.setL 21 w _ rfl
    rw [if_neg (by rw [I_lit, I_le (by omega) (by omega)]; omega), if_pos (hs.o 4 19 (by decide)), hs.p 19 2 21 (by decide), op_eq, if_pos (hs.o 14 21 (by decide)), hs.len 21 4 (by decide), if_pos (inN (by omega) (by omega)), tNI (by omega), lt_eq]
    obtain ⟨σ1, a1, a2, a3⟩ := fa24 hS (show w < 4 by omega) (s_X4_findAllSets_10 (m + j + 1)) 64 0 15935 (setL σ 21 w 0) rfl (f1.ss hs) (fun i hi => by rw [sL_L, if_pos ⟨rfl, rfl⟩, gb_0, decide_eq_false (by omega)]; rfl)
    have f2 : FX noC C21 (setL σ 21 w 0) σ1 := a2.mono (fun _ _ q => q) (fun a k q => q.1)
    obtain ⟨σ2, b1, b2, b3⟩ := ih (w + 1) m σ1 (by omega) (f2.ss (f1.ss hs)) (fun u hu => by
      by_cases e : u / 64 = w
      · rw [e, a3 _ (by omega), show 64 * w + u % 64 = u by omega]
      · rw [a2.l 21 _ (fun q => e q.2), sL_L, if_neg (fun q => e q.2), hr u (by omega)])
    exact ⟨σ2, a1.trans b1, (f1.trans f2).trans b2, b3⟩
theorem q_findAll {ch κ : Nat → Nat} {N : Nat} {σ : St} (hg : PG ch κ N σ) : ∃ σ', s_X4_findAllSets 19 σ = some ((), σ') ∧ FX noC C21 σ σ' ∧ Als σ' (TT ch) := by
  have hs := hg.1
  unfold s_X4_findAllSets
  rw [if_pos (hs.o 4 19 (by decide)), hs.p 19 0 13 (by decide), op_eq, if_pos (hs.o 3 13 (by decide)), q_singles hg, bd_eq]
  exact fa10 (sgl_lt ch) 4 0 15995 σ rfl hs (fun u hu => by omega)
/-! compute -/
def LvT (ch : Nat → Nat) : Nat → Nat → Nat → Bool := Lv ch (TT ch)
def cpI : Nat → Nat → Prop := fun a k => a = 19 ∧ k = 4
def cpL : Nat → Nat → Prop := fun a k => a = 21 ∨ (a = 20 ∧ 240 ≤ k)
theorem lp_cp27 (k13 : Nat → Int32 → Int32 → St → Option (Unit × St)) (n a : Nat) (b c d : Int32) (σ : St) : s_X4_compute_27 k13 (n + 1) a b c d σ = sb_X4_compute_27 k13 (s_X4_compute_27 k13 n) a b c d σ := rfl
theorem lp_cp13 (n a : Nat) (b c : Int32) (σ : St) : s_X4_compute_13 (n + 1) a b c σ = sb_X4_compute_13 (s_X4_compute_13 n) a b c σ := rfl
def rw1 (h : Nat) : Nat → Nat → Prop := fun a k => a = 20 ∧ 240 * h ≤ k ∧ k < 240 * (h + 1)
theorem cp27 {ch κ : Nat → Nat} {N h : Nat} (hh : h ≤ 9) (k13 : Nat → Int32 → Int32 → St → Option (Unit × St)) : ∀ (j k m : Nat) (σ : St) (g : Bool), k + j = N → PG ch κ N σ → Apt σ → Als σ (TT ch) → RS κ N h (LvT ch h) σ → (∀ c s, c < k → s < 256 → rb σ (rwN c (h + 1)) s = LvT ch (h + 1) (κ c) s) →
    (g = false → ∀ c s, c < k → s < 256 → LvT ch (h + 1) (κ c) s = LvT ch h (κ c) s) →
    ∃ σ' g', s_X4_compute_27 k13 (m + j + 1) 19 (bI g) (I ((h + 1 : Nat) : Int)) (I (k : Nat)) σ = k13 19 (bI g') (I ((h + 2 : Nat) : Int)) (setI σ' 19 4 (I ((h + 1 : Nat) : Int))) ∧ FX noC (rw1 (h + 1)) σ σ' ∧ RS κ N (h + 1) (LvT ch (h + 1)) σ' ∧
      (g' = false → ∀ c s, c < N → s < 256 → LvT ch (h + 1) (κ c) s = LvT ch h (κ c) s) := by
  intro j
  induction j with
  | zero =>
    intro k m σ g hk hg hA hT hR h1 h2
    obtain rfl : k = N := (by omega)
    have hs := hg.1
    have hN := hg.2.1
    refine ⟨σ, g, ?_, FX.refl σ, h1, h2⟩
    rw [lp_cp27]
    unfold sb_X4_compute_27
    rw [if_pos (hs.o 4 19 (by decide)), hs.p 19 0 13 (by decide), op_eq, if_pos (hs.o 3 13 (by decide))]
    unfold s_X3_nodes
    rw [if_pos (hs.o 3 13 (by decide)), bd_eq, hg.2.2.1, if_pos (by rw [I_le (by omega) (by omega)]; omega), if_pos (hs.o 4 19 (by decide)), lt_eq, I_p1, lt_eq]
  | succ j ih =>
    intro k m σ g hk hg hA hT hR h1 h2
    have hs := hg.1
    have hN := hg.2.1
    obtain ⟨σ1, a1, a2, a3⟩ := q_fillRow hh (show k < N by omega) hg hA hT hR
    have hs1 := a2.ss hs
    have f1 : FX noC (rw1 (h + 1)) σ σ1 := a2.mono (fun _ _ q => q) (fun a i q => by unfold rwL rwN at q; unfold rw1; omega)
    have hg1 : PG ch κ N σ1 := hg.fx a2 (fun _ _ _ _ q => q)
    have hA1 := hA.fx a2 (fun k => by unfold rwL; omega)
    have hT1 := hT.fx a2 (fun k => by unfold rwL; omega)
    have hR1 := hR.up hN a2
    have h1' : ∀ c s, c < k + 1 → s < 256 → rb σ1 (rwN c (h + 1)) s = LvT ch (h + 1) (κ c) s := fun c s hc hs2 => by
      by_cases e : c = k
      · rw [e, a3 s hs2]; rfl
      · rw [a2.rb (fun i b1 b2 => by unfold rwL rwN at *; omega) hs2]
        exact h1 c s (by omega) hs2
    rw [lp_cp27]
    unfold sb_X4_compute_27
    rw [if_pos (hs.o 4 19 (by decide)), hs.p 19 0 13 (by decide), op_eq, if_pos (hs.o 3 13 (by decide))]
    unfold s_X3_nodes
    rw [if_pos (hs.o 3 13 (by decide)), bd_eq, hg.2.2.1, if_neg (by rw [I_le (by omega) (by omega)]; omega), if_pos (hs.o 4 19 (by decide)), a1, bd_eq]
    cases g with
    | true =>
      rw [if_neg (by decide)]
      unfold s_X4_compute_62
      rw [I_p1, lt_eq]
      obtain ⟨σ2, g', b1, b2, b3, b4⟩ := ih (k + 1) m σ1 true (by omega) hg1 hA1 hT1 hR1 h1' (fun q => by cases q)
      exact ⟨σ2, g', b1, f1.trans b2, b3, b4⟩
    | false =>
      obtain ⟨b, d1, d2⟩ := q_hasGrown (show k < 60 by omega) hh hs1
      rw [if_pos (by decide), if_pos (hs1.o 4 19 (by decide)), d1, bd_eq]
      unfold s_X4_compute_62
      cases b with
      | false =>
        rw [if_pos (by decide), I_p1, lt_eq]
        obtain ⟨σ2, g', b1, b2, b3, b4⟩ := ih (k + 1) m σ1 false (by omega) hg1 hA1 hT1 hR1 h1' (fun _ c s hc hs2 => by
          by_cases e : c = k
          · have q1 := h1' k s (by omega) hs2
            have q2 := hR1 k s (by omega) hs2
            rw [e, ← q1, ← q2]
            exact d2 rfl s hs2
          · exact h2 rfl c s (by omega) hs2)
        exact ⟨σ2, g', b1, f1.trans b2, b3, b4⟩
      | true =>
        rw [if_neg (by decide), I_p1, lt_eq]
        obtain ⟨σ2, g', b1, b2, b3, b4⟩ := ih (k + 1) m σ1 true (by omega) hg1 hA1 hT1 hR1 h1' (fun q => by cases q)
        exact ⟨σ2, g', b1, f1.trans b2, b3, b4⟩
/-- all rows stand -/
def Rdy (ch κ : Nat → Nat) (N : Nat) (σ : St) : Prop := ∃ t, sI σ 19 4 = I (t : Nat) ∧ t ≤ 10 ∧ (∀ h, h ≤ t → RS κ N h (LvT ch h) σ) ∧ ∀ h c s, t ≤ h → h ≤ 10 → c < N → s < 256 → LvT ch h (κ c) s = LvT ch t (κ c) s
def cp13I (ch κ : Nat → Nat) (N h : Nat) (g : Bool) (σ : St) : Prop :=
  PG ch κ N σ ∧ Apt σ ∧ Als σ (TT ch) ∧ (∀ x, x ≤ h → RS κ N x (LvT ch x) σ) ∧ sI σ 19 4 = I (h : Nat) ∧ (g = false → ∀ x c s, h ≤ x → x ≤ 10 → c < N → s < 256 → LvT ch x (κ c) s = LvT ch h (κ c) s)
theorem cp13 {ch κ : Nat → Nat} {N : Nat} : ∀ (j h m : Nat) (σ : St) (g : Bool), h + j = 10 → cp13I ch κ N h g σ →
    ∃ σ', s_X4_compute_13 (m + j + 1) 19 (bI g) (I ((h + 1 : Nat) : Int)) σ = some ((), σ') ∧ FX cpI cpL σ σ' ∧ Rdy ch κ N σ' := by
  intro j
  induction j with
  | zero =>
    intro h m σ g hh hi
    obtain rfl : h = 10 := (by omega)
    obtain ⟨i1, i2, i3, i4, i5, i6⟩ := hi
    refine ⟨σ, ?_, FX.refl σ, 10, i5, by omega, i4, fun x c s h1 h2 h3 h4 => ?_⟩
    · rw [lp_cp13]
      unfold sb_X4_compute_13
      rw [if_pos (by decide)]
    · obtain rfl : x = 10 := (by omega)
      rfl
  | succ j ih =>
    intro h m σ g hh hi
    obtain ⟨i1, i2, i3, i4, i5, i6⟩ := hi
    have hN := i1.2.1
    rw [lp_cp13]
    unfold sb_X4_compute_13
    rw [if_neg (by rw [I_lit, I_lt (by omega) (by omega)]; omega)]
    cases g with
    | false =>
      rw [if_pos (by decide)]
      exact ⟨σ, rfl, FX.refl σ, h, i5, by omega, i4, i6 rfl⟩
    | true =>
      rw [if_neg (by decide)]
      obtain ⟨σ1, g', a1, a2, a3, a4⟩ := cp27 (ch := ch) (κ := κ) (N := N) (show h ≤ 9 by omega) (s_X4_compute_13 (m + j + 1)) N 0 (16000 - N - 1) σ false (by omega) i1 i2 i3 (i4 h (Nat.le_refl h)) (fun c s hc => by omega) (fun _ c s hc => by omega)
      have f1 : FX cpI cpL σ σ1 := a2.mono (fun _ _ q => q.elim) (fun a k q => by unfold rw1 at q; unfold cpL; omega)
      have f2 : FX cpI cpL σ1 (setI σ1 19 4 (I ((h + 1 : Nat) : Int))) := FX.setI 19 4 _ ⟨rfl, rfl⟩
      have f3 := f1.trans f2
      have r0 : ∀ x, x ≤ h + 1 → RS κ N x (LvT ch x) (setI σ1 19 4 (I ((h + 1 : Nat) : Int))) := fun x hx => by
        refine RS.fx (CI := fun a k => a = 19) (CL := noC) ?_ (FX.setI 19 4 _ rfl) (fun _ _ _ _ _ q => q)
        by_cases e : x = h + 1
        · rw [e]; exact a3
        · exact (i4 x (by omega)).fx a2 (fun c k h1 h2 h3 => by unfold rw1 rwN at *; omega)
      obtain ⟨σ2, b1, b2, b3⟩ := ih (h + 1) m (setI σ1 19 4 (I ((h + 1 : Nat) : Int))) g' (by omega) ⟨i1.fx f3 (fun a k h1 h2 q => by unfold cpI at q; omega), (show Apt σ1 from i2.fx a2 (fun k => by unfold rw1; omega)), (show Als σ1 (TT ch) from i3.fx a2 (fun k => by unfold rw1; omega)), r0, sIe, fun q x c s h1 h2 h3 h4 => by
        have st := Lv_stop i1.clo (T := TT ch) (h := h) (fun c s hc hs => a4 q c s hc hs)
        have e1 := st (x - h) c s h3 h4
        have e2 := st 1 c s h3 h4
        rw [show h + (x - h) = x by omega] at e1
        exact e1.trans e2.symm⟩
      refine ⟨σ2, ?_, f3.trans b2, b3⟩
      rw [show 16000 - N - 1 + N + 1 = 16000 by omega] at a1
      exact a1.trans b1
/-- the lowest rows are never written -/
def Z0 (σ : St) : Prop := ∀ k, k < 240 → sL σ 20 k = 0
theorem q_compute {ch κ : Nat → Nat} {N : Nat} {σ : St} (hg : PG ch κ N σ) (hA : Apt σ) (hZ : Z0 σ) : ∃ σ', s_X4_compute 19 σ = some ((), σ') ∧ FX cpI cpL σ σ' ∧ Rdy ch κ N σ' := by
  have hs := hg.1
  have hN := hg.2.1
  obtain ⟨σ1, a1, a2, a3⟩ := q_findAll hg
  have hs1 := a2.ss hs
  have f1 : FX cpI cpL σ σ1 := a2.mono (fun _ _ q => q.elim) (fun a k q => Or.inl q)
  have f2 : FX cpI cpL σ1 (setI σ1 19 4 0) := FX.setI 19 4 _ ⟨rfl, rfl⟩
  have f3 := f1.trans f2
  obtain ⟨σ2, b1, b2, b3⟩ := cp13 (ch := ch) (κ := κ) (N := N) 10 0 15989 (setI σ1 19 4 0) true rfl ⟨hg.fx f3 (fun a k h1 h2 q => by unfold cpI at q; omega), (show Apt σ1 from hA.fx a2 (fun k => by unfold C21; omega)), a3, fun x hx c s hc hs2 => by
    obtain rfl : x = 0 := (by omega)
    show rb (setI σ1 19 4 0) (rwN c 0) s = false
    unfold rb
    have : sL (setI σ1 19 4 0) 20 (rwN c 0 + s / 64) = sL σ 20 (rwN c 0 + s / 64) := f3.l 20 _ (by unfold cpL rwN; omega)
    rw [this, hZ _ (by unfold rwN; omega), gb_0], sIe, fun q => by cases q⟩
  refine ⟨σ2, ?_, f3.trans b2, b3⟩
  unfold s_X4_compute
  rw [if_pos (hs.o 4 19 (by decide)), a1, bd_eq, if_pos (hs1.o 4 19 (by decide)), lt_eq]
  exact b1
theorem Z0.fx {CI CL : Nat → Nat → Prop} {σ σ' : St} (h : Z0 σ) (hf : FX CI CL σ σ') (hc : ∀ k, k < 240 → ¬ CL 20 k) : Z0 σ' := fun k hk => by rw [hf.l 20 k (hc k hk)]; exact h k hk
