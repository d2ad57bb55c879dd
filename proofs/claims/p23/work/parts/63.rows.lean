/-! the class's rows: what each step adds to a row -/
/-- the 64 words that tell which sets have nothing in common with one -/
def Apt (σ : St) : Prop := ∀ i j, i < 64 → j < 64 → gb (sL σ 22 i) j = decide (i &&& j = 0)
theorem Apt.fx {σ σ' : St} {CI CL : Nat → Nat → Prop} (h : Apt σ) (hf : FX CI CL σ σ') (hc : ∀ k, ¬ CL 22 k) : Apt σ' := fun i j hi hj => by rw [hf.l 22 i (hc i)]; exact h i j hi hj
theorem mv_ok : ∀ l : Nat, l < 64 → ∀ b : Nat, b < 64 → (decide (l ≤ b ∧ l &&& (b - l) = 0) = decide (l &&& b = l)) ∧ (l &&& b = l → b - l = b ^^^ l) := by decide +kernel
theorem mvr_ok : ∀ l : Nat, l < 64 → ∀ b : Nat, b < 64 → l &&& b = 0 → l + b = l ||| b ∧ l + b < 64 := by decide +kernel
theorem hi_ok : ∀ h : Nat, h < 4 → ∀ w : Nat, w < 4 → (h &&& w = h → (w ^^^ h) &&& h = 0 ∧ (w ^^^ h) ||| h = w ∧ w ^^^ h < 4) ∧ (w &&& h = 0 → (w ||| h) ^^^ h = w ∧ h &&& (w ||| h) = h ∧ w ||| h < 4) := by decide +kernel
/-- 64 * w + b, bit by bit -/
theorem sp_and (a b : Nat) : (a &&& b) / 64 = a / 64 &&& b / 64 ∧ (a &&& b) % 64 = a % 64 &&& b % 64 := ⟨Nat.and_div_two_pow (n := 6), Nat.and_mod_two_pow (n := 6)⟩
theorem sp_or (a b : Nat) : (a ||| b) / 64 = a / 64 ||| b / 64 ∧ (a ||| b) % 64 = a % 64 ||| b % 64 := ⟨Nat.or_div_two_pow (n := 6), Nat.or_mod_two_pow (n := 6)⟩
theorem sp_xor (a b : Nat) : (a ^^^ b) / 64 = a / 64 ^^^ b / 64 ∧ (a ^^^ b) % 64 = a % 64 ^^^ b % 64 := ⟨Nat.xor_div_two_pow (n := 6), Nat.xor_mod_two_pow (n := 6)⟩
theorem sp_eq {a b : Nat} : a = b ↔ a / 64 = b / 64 ∧ a % 64 = b % 64 := by omega
theorem sp_sub (a b : Nat) : a &&& b = a ↔ (a / 64 &&& b / 64 = a / 64 ∧ a % 64 &&& b % 64 = a % 64) := by
  rw [sp_eq, (sp_and a b).1, (sp_and a b).2]
theorem sp_dis (a b : Nat) : a &&& b = 0 ↔ (a / 64 &&& b / 64 = 0 ∧ a % 64 &&& b % 64 = 0) := by
  rw [sp_eq, (sp_and a b).1, (sp_and a b).2]
/-- a word that is moved up -/
theorem gb_mv {x y : Int64} {l b : Nat} (hl : l < 64) (hb : b < 64) (hy : ∀ j, j < 64 → gb y j = decide (l &&& j = 0)) : gb ((x &&& y) <<< ((I (l : Int)).toInt64 &&& 63)) b = (decide (l &&& b = l) && gb x (b ^^^ l)) := by
  rw [gb_shl _ hl hb, gb_and, hy _ (by omega)]
  obtain ⟨h1, h2⟩ := mv_ok l hl b hb
  by_cases c : l &&& b = l
  · rw [decide_eq_true c] at h1
    have h1 := of_decide_eq_true h1
    rw [decide_eq_true c, decide_eq_true h1.1, decide_eq_true h1.2, h2 c, Bool.and_true]
  · rw [decide_eq_false c] at h1 ⊢
    have h1 := of_decide_eq_false h1
    by_cases c2 : l ≤ b
    · rw [decide_eq_true c2, decide_eq_false (fun q => h1 ⟨c2, q⟩), Bool.and_false, Bool.and_false]; rfl
    · rw [decide_eq_false c2]; rfl
/-- a word that is moved down -/
theorem gb_mvr {x y : Int64} {l b : Nat} (hl : l < 64) (hb : b < 64) (hy : ∀ j, j < 64 → gb y j = decide (l &&& j = 0)) : gb (((x.toUInt64 >>> ((I (l : Int)).toInt64.toUInt64 &&& Int64.toUInt64 63)).toInt64) &&& y) b = (decide (l &&& b = 0) && gb x (b ||| l)) := by
  rw [gb_and, gb_shr _ hl, hy _ hb]
  by_cases c : l &&& b = 0
  · rw [decide_eq_true c, (mvr_ok l hl b hb c).1, Nat.or_comm l b, Bool.and_true, Bool.true_and]
  · rw [decide_eq_false c, Bool.and_false, Bool.false_and]
/-- what is added from another row, moved up by a set -/
def mvF (f : Nat → Bool) (a u : Nat) : Bool := decide (a &&& u = a) && f (u ^^^ a)
theorem lp_addMoved (n a : Nat) (b c d e : Int32) (y : Int64) (w : Int32) (σ : St) : s_X4_addMoved_24 (n + 1) a b c d e y w σ = sb_X4_addMoved_24 (s_X4_addMoved_24 n) a b c d e y w σ := rfl
theorem mv_loop {to fr a : Nat} (hto : to + 4 ≤ 2640) (hfr : fr + 4 ≤ 2640) (hd : fr + 4 ≤ to ∨ to + 4 ≤ fr) (ha : a < 256) {σ : St} (hs : SS σ) (y : Int64) (hy : ∀ j, j < 64 → gb y j = decide (a % 64 &&& j = 0)) (g : Nat → Bool) (hg : ∀ u, u < 256 → rb σ to u = g u) : ∀ (j w m : Nat) (σ1 : St), w + j = 4 → FX noC (rwL to) σ σ1 →
    (∀ u, u < 256 → rb σ1 to u = if a / 64 &&& u / 64 = a / 64 ∧ u / 64 ^^^ a / 64 < w then g u || mvF (rb σ fr) a u else g u) →
    ∃ σ', s_X4_addMoved_24 (m + j + 1) 19 (I (to : Nat)) (I (fr : Nat)) (I ((a % 64 : Nat) : Int)) (I ((a / 64 : Nat) : Int)) y (I (w : Nat)) σ1 = some ((), σ') ∧ FX noC (rwL to) σ σ' ∧ ∀ u, u < 256 → rb σ' to u = (g u || mvF (rb σ fr) a u) := by
  intro j
  induction j with
  | zero =>
    intro w m σ1 hw hf hr
    obtain rfl : w = 4 := (by omega)
    refine ⟨σ1, ?_, hf, fun u hu => ?_⟩
    · rw [lp_addMoved]
      unfold sb_X4_addMoved_24
      rw [if_pos (by decide)]
    · rw [hr u hu]
      by_cases c : a / 64 &&& u / 64 = a / 64
      · rw [if_pos ⟨c, ((hi_ok (a / 64) (by omega) (u / 64) (by omega)).1 c).2.2⟩]
      · rw [if_neg (fun q => c q.1)]
        unfold mvF
        rw [decide_eq_false (fun q => c ((sp_sub a u).1 q).1), Bool.false_and, Bool.or_false]
  | succ j ih =>
    intro w m σ1 hw hf hr
    have hs1 := hf.ss hs
    rw [lp_addMoved]
    unfold sb_X4_addMoved_24
    have e : I (w : Nat) &&& I ((a / 64 : Nat) : Int) = I ((w &&& (a / 64) : Nat) : Int) := I_and _ _
    have hlt : w &&& (a / 64) < 4 := and_lt (by omega)
    rw [if_neg (by rw [I_lit, I_le (by omega) (by omega)]; omega), e]
    have hh := hi_ok (a / 64) (by omega) w (by omega)
    by_cases c : w &&& (a / 64) = 0
    · obtain ⟨h1, h2, h3⟩ := hh.2 c
      have e2 : I (w : Nat) ||| I ((a / 64 : Nat) : Int) = I ((w ||| (a / 64) : Nat) : Int) := I_or _ _
      rw [if_pos ((I_z (by omega)).2 c), if_pos (hs1.o 4 19 (by decide)), q_wd hs1 (by omega), bd_eq, if_pos (hs1.o 4 19 (by decide)), e2, q_orW hs1 (by omega), bd_eq, I_p1, lt_eq]
      refine ih (w + 1) m _ (by omega) (hf.trans (or_fx h3 _)) (fun u hu => ?_)
      rw [or_rb, hr u hu]
      have hwd : sL σ1 20 (fr + w) = sL σ 20 (fr + w) := hf.l 20 _ (by unfold rwL; omega)
      by_cases c2 : u / 64 = w ||| (a / 64)
      · rw [if_pos c2, gb_mv (by omega) (by omega) hy, hwd]
        have c3 : ¬ (a / 64 &&& u / 64 = a / 64 ∧ u / 64 ^^^ a / 64 < w) := by rw [c2, h1]; omega
        have c4 : a / 64 &&& u / 64 = a / 64 ∧ u / 64 ^^^ a / 64 < w + 1 := by rw [c2, h1]; exact ⟨h2, by omega⟩
        rw [if_neg c3, if_pos c4]
        congr 1
        unfold mvF rb
        rw [(sp_xor u a).1, (sp_xor u a).2, c2, h1]
        by_cases c5 : a % 64 &&& u % 64 = a % 64
        · rw [decide_eq_true c5, decide_eq_true ((sp_sub a u).2 ⟨by rw [c2]; exact h2, c5⟩)]
        · rw [decide_eq_false c5, decide_eq_false (fun q => c5 ((sp_sub a u).1 q).2)]
      · rw [if_neg c2]
        by_cases c3 : a / 64 &&& u / 64 = a / 64
        · have h6 := (hi_ok (a / 64) (by omega) (u / 64) (by omega)).1 c3
          have c4 : u / 64 ^^^ a / 64 ≠ w := by intro q; rw [q] at h6; exact c2 h6.2.1.symm
          by_cases c5 : u / 64 ^^^ a / 64 < w
          · rw [if_pos ⟨c3, c5⟩, if_pos ⟨c3, by omega⟩]
          · rw [if_neg (fun q => c5 q.2), if_neg (fun q => by have := q.2; omega)]
        · rw [if_neg (fun q => c3 q.1), if_neg (fun q => c3 q.1)]
    · rw [if_neg (fun q => c ((I_z (by omega)).1 q)), I_p1, lt_eq]
      refine ih (w + 1) m σ1 (by omega) hf (fun u hu => ?_)
      rw [hr u hu]
      by_cases c3 : a / 64 &&& u / 64 = a / 64
      · have h6 := (hi_ok (a / 64) (by omega) (u / 64) (by omega)).1 c3
        have c4 : u / 64 ^^^ a / 64 ≠ w := by intro q; rw [q] at h6; exact c h6.1
        by_cases c5 : u / 64 ^^^ a / 64 < w
        · rw [if_pos ⟨c3, c5⟩, if_pos ⟨c3, by omega⟩]
        · rw [if_neg (fun q => c5 q.2), if_neg (fun q => by have := q.2; omega)]
      · rw [if_neg (fun q => c3 q.1), if_neg (fun q => c3 q.1)]
theorem q_moved {to fr a : Nat} (hto : to + 4 ≤ 2640) (hfr : fr + 4 ≤ 2640) (hd : fr + 4 ≤ to ∨ to + 4 ≤ fr) (ha : a < 256) {σ : St} (hs : SS σ) (hA : Apt σ) : ∃ σ', s_X4_addMoved 19 (I (to : Nat)) (I (fr : Nat)) (I (a : Nat)) σ = some ((), σ') ∧ FX noC (rwL to) σ σ' ∧ ∀ u, u < 256 → rb σ' to u = (rb σ to u || mvF (rb σ fr) a u) := by
  unfold s_X4_addMoved
  rw [mask63, shr6 (by omega), lt_eq, lt_eq, if_pos (hs.o 4 19 (by decide)), hs.p 19 3 22 (by decide), op_eq, if_pos (hs.o 14 22 (by decide)), hs.len 22 64 (by decide), if_pos (inN (by omega) (by omega)), tNI (by omega), lt_eq]
  exact mv_loop hto hfr hd ha hs _ (fun j hj => hA _ j (by omega) hj) (rb σ to) (fun u hu => rfl) 4 0 15995 σ rfl (FX.refl σ) (fun u hu => by rw [if_neg (by omega)])
/-- what is added from another row, moved down by a set -/
def mrF (f : Nat → Bool) (a u : Nat) : Bool := decide (a &&& u = 0) && f (u ||| a)
theorem lp_addReduced (n a : Nat) (b c d e : Int32) (y : Int64) (w : Int32) (σ : St) : s_X4_addReduced_24 (n + 1) a b c d e y w σ = sb_X4_addReduced_24 (s_X4_addReduced_24 n) a b c d e y w σ := rfl
theorem mr_loop {to fr a : Nat} (hto : to + 4 ≤ 2640) (hfr : fr + 4 ≤ 2640) (hd : fr + 4 ≤ to ∨ to + 4 ≤ fr) (ha : a < 256) {σ : St} (hs : SS σ) (y : Int64) (hy : ∀ j, j < 64 → gb y j = decide (a % 64 &&& j = 0)) (g : Nat → Bool) (hg : ∀ u, u < 256 → rb σ to u = g u) : ∀ (j w m : Nat) (σ1 : St), w + j = 4 → FX noC (rwL to) σ σ1 →
    (∀ u, u < 256 → rb σ1 to u = if u / 64 < w then g u || mrF (rb σ fr) a u else g u) →
    ∃ σ', s_X4_addReduced_24 (m + j + 1) 19 (I (to : Nat)) (I (fr : Nat)) (I ((a % 64 : Nat) : Int)) (I ((a / 64 : Nat) : Int)) y (I (w : Nat)) σ1 = some ((), σ') ∧ FX noC (rwL to) σ σ' ∧ ∀ u, u < 256 → rb σ' to u = (g u || mrF (rb σ fr) a u) := by
  intro j
  induction j with
  | zero =>
    intro w m σ1 hw hf hr
    obtain rfl : w = 4 := (by omega)
    refine ⟨σ1, ?_, hf, fun u hu => ?_⟩
    · rw [lp_addReduced]
      unfold sb_X4_addReduced_24
      rw [if_pos (by decide)]
    · rw [hr u hu, if_pos (by omega)]
  | succ j ih =>
    intro w m σ1 hw hf hr
    have hs1 := hf.ss hs
    rw [lp_addReduced]
    unfold sb_X4_addReduced_24
    have e : I (w : Nat) &&& I ((a / 64 : Nat) : Int) = I ((w &&& (a / 64) : Nat) : Int) := I_and _ _
    have hlt : w &&& (a / 64) < 4 := and_lt (by omega)
    rw [if_neg (by rw [I_lit, I_le (by omega) (by omega)]; omega), e]
    have hh := hi_ok (a / 64) (by omega) w (by omega)
    by_cases c : w &&& (a / 64) = 0
    · obtain ⟨h1, h2, h3⟩ := hh.2 c
      have e2 : I (w : Nat) ||| I ((a / 64 : Nat) : Int) = I ((w ||| (a / 64) : Nat) : Int) := I_or _ _
      rw [if_pos ((I_z (by omega)).2 c), if_pos (hs1.o 4 19 (by decide)), e2, q_wd hs1 (by omega), bd_eq, if_pos (hs1.o 4 19 (by decide)), q_orW hs1 (by omega), bd_eq, I_p1, lt_eq]
      refine ih (w + 1) m _ (by omega) (hf.trans (or_fx (by omega) _)) (fun u hu => ?_)
      rw [or_rb, hr u hu]
      have hwd : sL σ1 20 (fr + (w ||| (a / 64))) = sL σ 20 (fr + (w ||| (a / 64))) := hf.l 20 _ (by unfold rwL; omega)
      by_cases c2 : u / 64 = w
      · rw [if_pos c2, if_neg (by omega), if_pos (by omega), gb_mvr (by omega) (by omega) hy, hwd]
        congr 1
        unfold mrF rb
        rw [(sp_or u a).1, (sp_or u a).2, c2]
        by_cases c5 : a % 64 &&& u % 64 = 0
        · rw [decide_eq_true c5, decide_eq_true ((sp_dis a u).2 ⟨by rw [c2, Nat.and_comm]; exact c, c5⟩)]
        · rw [decide_eq_false c5, decide_eq_false (fun q => c5 ((sp_dis a u).1 q).2)]
      · rw [if_neg c2]
        by_cases c3 : u / 64 < w
        · rw [if_pos c3, if_pos (by omega)]
        · rw [if_neg c3, if_neg (by omega)]
    · rw [if_neg (fun q => c ((I_z (by omega)).1 q)), I_p1, lt_eq]
      refine ih (w + 1) m σ1 (by omega) hf (fun u hu => ?_)
      rw [hr u hu]
      by_cases c2 : u / 64 = w
      · rw [if_neg (by omega), if_pos (by omega)]
        unfold mrF
        rw [decide_eq_false (fun q => c (by rw [Nat.and_comm, ← c2]; exact ((sp_dis a u).1 q).1)), Bool.false_and, Bool.or_false]
      · by_cases c3 : u / 64 < w
        · rw [if_pos c3, if_pos (by omega)]
        · rw [if_neg c3, if_neg (by omega)]
theorem q_reduced {to fr a : Nat} (hto : to + 4 ≤ 2640) (hfr : fr + 4 ≤ 2640) (hd : fr + 4 ≤ to ∨ to + 4 ≤ fr) (ha : a < 256) {σ : St} (hs : SS σ) (hA : Apt σ) : ∃ σ', s_X4_addReduced 19 (I (to : Nat)) (I (fr : Nat)) (I (a : Nat)) σ = some ((), σ') ∧ FX noC (rwL to) σ σ' ∧ ∀ u, u < 256 → rb σ' to u = (rb σ to u || mrF (rb σ fr) a u) := by
  unfold s_X4_addReduced
  rw [mask63, shr6 (by omega), lt_eq, lt_eq, if_pos (hs.o 4 19 (by decide)), hs.p 19 3 22 (by decide), op_eq, if_pos (hs.o 14 22 (by decide)), hs.len 22 64 (by decide), if_pos (inN (by omega) (by omega)), tNI (by omega), lt_eq]
  exact mr_loop hto hfr hd ha hs _ (fun j hj => hA _ j (by omega) hj) (rb σ to) (fun u hu => rfl) 4 0 15995 σ rfl (FX.refl σ) (fun u hu => by rw [if_neg (by omega)])
