/-! the reference: all least heights are laid -/
theorem StrM.fr {ch κ : Nat → Nat} {φ : Nat → Nat → Option Nat} {N : Nat} {σ σ' : St} (h : StrM ch κ φ σ N) (hi : ∀ a k, 34 ≤ a → a ≤ 39 → sI σ' a k = sI σ a k) : StrM ch κ φ σ' N := by
  refine ⟨fun c hc => ?_, fun o f ho hf => ?_⟩
  · have := h.1 c hc
    unfold nodeM at this ⊢
    rw [hi 34 c (by omega) (by omega), hi 35 c (by omega) (by omega), hi 36 c (by omega) (by omega)]
    exact this
  · have := h.2 o f ho hf
    revert this
    cases φ o f with
    | none =>
      rintro ⟨n, a, b⟩
      exact ⟨n, by rw [hi 37 o (by omega) (by omega)]; exact a, b⟩
    | some q =>
      rintro ⟨⟨n, a, b, c⟩, d, e, g⟩
      refine ⟨⟨n, by rw [hi 37 o (by omega) (by omega)]; exact a, b, c⟩, by rw [hi 38 _ (by omega) (by omega)]; exact d, e, ?_⟩
      rw [hi 39 _ (by omega) (by omega)]
      exact g
theorem GM.fr {ch κ : Nat → Nat} {N : Nat} {σ σ' : St} {C : Nat → Nat → Prop} (h : GM ch κ N σ) (hf : Fr C σ σ') (h1 : ¬ C 30 5) (h2 : ∀ a k, 34 ≤ a → a ≤ 39 → ¬ C a k) : GM ch κ N σ' :=
  ⟨hf.ss h.1, h.2.1, by rw [hf.i 30 5 h1]; exact h.2.2.1, h.2.2.2.1.fr (fun a k a1 a2 => hf.i a k (h2 a k a1 a2)), h.2.2.2.2⟩
def lA (ch κ : Nat → Nat) (h i : Nat) : Nat := lhM ch h (κ (i / 256)) (i % 256)
def LV (N : Nat) (v : Nat → Nat) (σ : St) : Prop := ∀ i, i < 256 * N → sI σ 44 i = I (v i : Nat)
theorem bI_cg {p : Prop} [Decidable p] {b : Bool} (h : p ↔ b = true) : decide p = b := by
  cases b with
  | false => exact decide_eq_false (fun q => by have := h.1 q; cases this)
  | true => exact decide_eq_true (h.2 rfl)
theorem BM_of {ch κ : Nat → Nat} {N h : Nat} {v : Nat → Nat} {σ : St} (hs : SS σ) (hN : N ≤ 60) (h1 : 1 ≤ h) (h2 : h ≤ 12) (hv : LV N v σ) (hw : ∀ i, i < 256 * N → v i ≤ 100 ∧ ((0 < v i ∧ v i < h) ↔ Lv ch one (h - 1) (κ (i / 256)) (i % 256) = true)) : BM κ N (I (h : Nat)) (Lv ch one (h - 1)) σ := by
  intro c s hc hs2
  have a := hw (256 * c + s) (by omega)
  rw [show (256 * c + s) / 256 = c by omega, show (256 * c + s) % 256 = s by omega] at a
  rw [q_isBelow hs (by omega) hs2 (by omega) (hv (256 * c + s) (by omega)) a.1, bI_cg a.2]
theorem lA_ok {ch κ : Nat → Nat} {h i g : Nat} (hg : g ≤ h) : (0 < lA ch κ h i ∧ lA ch κ h i ≤ g) ↔ Lv ch one g (κ (i / 256)) (i % 256) = true := lhM_ok hg
theorem lA_le {ch κ : Nat → Nat} {h i : Nat} : lA ch κ h i ≤ h := lst_le _ h
theorem lA_succ {ch κ : Nat → Nat} {h i : Nat} : lA ch κ (h + 1) i = if lA ch κ h i = 0 then (if stp ch one (Lv ch one h) (κ (i / 256)) (i % 256) = true then h + 1 else 0) else lA ch κ h i := rfl
theorem d256 {k : Nat} (hk : k < 100000) : I (k : Nat) / 256 = I ((k / 256 : Nat) : Int) := by rw [show (256 : Int32) = I ((256 : Nat) : Int) from rfl, I_div (by omega) (by omega)]
theorem r256 {k : Nat} : I (k : Nat) - I ((k / 256 : Nat) : Int) * 256 = I ((k % 256 : Nat) : Int) := by
  rw [I_lit, I_mul, I_sub]
  exact congrArg I (by omega)
def mixV (ch κ : Nat → Nat) (h k : Nat) : Nat → Nat := fun i => if i < k then lA ch κ (h + 1) i else lA ch κ h i
theorem mixV_ok {ch κ : Nat → Nat} {h k : Nat} (hh : h ≤ 10) (i : Nat) : mixV ch κ h k i ≤ 100 ∧ ((0 < mixV ch κ h k i ∧ mixV ch κ h k i < h + 1) ↔ Lv ch one (h + 1 - 1) (κ (i / 256)) (i % 256) = true) := by
  unfold mixV
  rw [show h + 1 - 1 = h by omega]
  by_cases e : i < k
  · rw [if_pos e]
    have a := lA_le (ch := ch) (κ := κ) (h := h + 1) (i := i)
    refine ⟨by omega, ?_⟩
    rw [← lA_ok (h := h + 1) (Nat.le_succ h)]
    omega
  · rw [if_neg e]
    have a := lA_le (ch := ch) (κ := κ) (h := h) (i := i)
    refine ⟨by omega, ?_⟩
    rw [← lA_ok (h := h) (Nat.le_refl h)]
    omega
def C44 : Nat → Nat → Prop := fun a _ => a = 44
theorem lay57 {ch κ : Nat → Nat} {N h : Nat} (hh : h ≤ 9) (k49 : Nat → Int32 → St → Option (Unit × St)) : ∀ (j k m : Nat) {σ : St}, k + j = 256 * N → GM ch κ N σ → LV N (mixV ch κ h k) σ →
    ∃ σ', s_X11_lay_57 k49 (m + j + 1) 30 (I ((h + 1 : Nat) : Int)) (I (k : Nat)) σ = k49 30 (I ((h + 2 : Nat) : Int)) σ' ∧ Fr C44 σ σ' ∧ GM ch κ N σ' ∧ LV N (lA ch κ (h + 1)) σ' := by
  intro j
  induction j with
  | zero =>
    intro k m σ hk hg hv
    have hN := hg.2.1
    refine ⟨σ, ?_, Fr.refl σ, hg, fun i hi => ?_⟩
    · show sb_X11_lay_57 k49 (s_X11_lay_57 k49 m) 30 (I ((h + 1 : Nat) : Int)) (I (k : Nat)) σ = _
      unfold sb_X11_lay_57
      rw [if_pos (hg.1.o 11 30 (by decide)), hg.2.2.1, if_pos (by rw [I_lit, I_mul, I_le (by omega) (by omega)]; omega), I_p1, lt_eq]
    · rw [hv i hi]
      unfold mixV
      rw [if_pos (by omega)]
  | succ j ih =>
    intro k m σ hk hg hv
    have hN := hg.2.1
    have hs := hg.1
    have hB := BM_of (ch := ch) (κ := κ) hs hN (show 1 ≤ h + 1 by omega) (by omega) hv (fun i _ => mixV_ok (by omega) i)
    have hvk := hv k (by omega)
    have emk : mixV ch κ h k k = lA ch κ h k := by unfold mixV; rw [if_neg (by omega)]
    have hle := lA_le (ch := ch) (κ := κ) (h := h) (i := k)
    rw [emk] at hvk
    have step : ∀ v, lA ch κ (h + 1) k = v → mixV ch κ h (k + 1) = fun i => if i = k then v else mixV ch κ h k i := by
      intro v hv2
      funext i
      unfold mixV
      by_cases e : i = k
      · rw [if_pos e, if_pos (by omega), e, hv2]
      · rw [if_neg e]
        by_cases e2 : i < k
        · rw [if_pos e2, if_pos (by omega)]
        · rw [if_neg e2, if_neg (by omega)]
    have same : lA ch κ (h + 1) k = lA ch κ h k → LV N (mixV ch κ h (k + 1)) σ := by
      intro q i hi
      rw [step _ q]
      by_cases e : i = k
      · show _ = I ((if i = k then lA ch κ h k else mixV ch κ h k i : Nat) : Int)
        rw [if_pos e, e, hvk]
      · show _ = I ((if i = k then lA ch κ h k else mixV ch κ h k i : Nat) : Int)
        rw [if_neg e, hv i hi]
    show ∃ σ', sb_X11_lay_57 k49 (s_X11_lay_57 k49 (m + j + 1)) 30 (I ((h + 1 : Nat) : Int)) (I (k : Nat)) σ = _ ∧ _
    unfold sb_X11_lay_57
    rw [if_pos (hs.o 11 30 (by decide)), hg.2.2.1, if_neg (by rw [I_lit, I_mul, I_le (by omega) (by omega)]; omega), hs.p 30 22 44 (by decide), op_eq, if_pos (hs.o 13 44 (by decide)), hs.len 44 15360 (by decide), if_pos (inN (by omega) (by omega)), tNI (by omega), hvk]
    by_cases c0 : lA ch κ h k = 0
    · rw [if_pos ((I_z (by omega)).2 c0), d256 (by omega), r256, q_isReached hg hB (by omega) (Nat.mod_lt _ (by omega)), bd_eq]
      by_cases c1 : stp ch one (Lv ch one (h + 1 - 1)) (κ (k / 256)) (k % 256) = true
      · rw [if_neg (by rw [bI0, c1]; decide), if_pos (hs.o 11 30 (by decide)), hs.p 30 22 44 (by decide), op_eq, if_pos (hs.o 13 44 (by decide)), hs.len 44 15360 (by decide), if_pos (inN (by omega) (by omega)), lt_eq, I_p1, lt_eq]
        have f1 : Fr C44 σ (setI σ 44 k (I ((h + 1 : Nat) : Int))) := (Fr.refl σ).put _ rfl
        have hA : lA ch κ (h + 1) k = h + 1 := by rw [lA_succ, if_pos c0]; exact if_pos c1
        obtain ⟨σ', a1, a2, a3, a4⟩ := ih (k + 1) m (σ := setI σ 44 k (I ((h + 1 : Nat) : Int))) (by omega) (hg.fr f1 (by unfold C44; omega) (fun a k b1 b2 => by unfold C44; omega)) (fun i hi => by
          rw [step _ hA]
          by_cases e : i = k
          · show _ = I ((if i = k then h + 1 else mixV ch κ h k i : Nat) : Int)
            rw [if_pos e, e, sIe]
          · show _ = I ((if i = k then h + 1 else mixV ch κ h k i : Nat) : Int)
            rw [if_neg e, sIn (by omega), hv i hi])
        exact ⟨σ', a1, f1.trans a2, a3, a4⟩
      · rw [if_pos (by rw [bI0]; exact Bool.eq_false_iff.2 c1), I_p1, lt_eq]
        obtain ⟨σ', a1, a2, a3, a4⟩ := ih (k + 1) m (σ := σ) (by omega) hg (same (by rw [lA_succ, if_pos c0, c0]; exact if_neg c1))
        exact ⟨σ', a1, a2, a3, a4⟩
    · rw [if_neg (fun q => c0 ((I_z (by omega)).1 q)), I_p1, lt_eq]
      obtain ⟨σ', a1, a2, a3, a4⟩ := ih (k + 1) m (σ := σ) (by omega) hg (same (by rw [lA_succ, if_neg c0]))
      exact ⟨σ', a1, a2, a3, a4⟩
theorem lay49 {ch κ : Nat → Nat} {N : Nat} : ∀ (j h m : Nat) {σ : St}, h + j = 10 → GM ch κ N σ → LV N (lA ch κ h) σ →
    ∃ σ', s_X11_lay_49 (m + j + 1) 30 (I ((h + 1 : Nat) : Int)) σ = some ((), σ') ∧ Fr C44 σ σ' ∧ GM ch κ N σ' ∧ LV N (lA ch κ 10) σ' := by
  intro j
  induction j with
  | zero =>
    intro h m σ hh hg hv
    obtain rfl : h = 10 := (by omega)
    refine ⟨σ, ?_, Fr.refl σ, hg, hv⟩
    show sb_X11_lay_49 (s_X11_lay_49 m) 30 (I ((11 : Nat) : Int)) σ = _
    unfold sb_X11_lay_49
    rw [if_pos (by decide)]
  | succ j ih =>
    intro h m σ hh hg hv
    have hN := hg.2.1
    have hv0 : LV N (mixV ch κ h 0) σ := fun i hi => by
      rw [hv i hi]
      unfold mixV
      rw [if_neg (by omega)]
    obtain ⟨σ1, a1, a2, a3, a4⟩ := lay57 (h := h) (by omega) (s_X11_lay_49 (m + j + 1)) (256 * N) 0 (16000 - (256 * N) - 1) (σ := σ) (by omega) hg hv0
    obtain ⟨σ2, b1, b2, b3, b4⟩ := ih (h + 1) m (by omega) a3 a4
    refine ⟨σ2, ?_, a2.trans b2, b3, b4⟩
    show sb_X11_lay_49 (s_X11_lay_49 (m + j + 1)) 30 (I ((h + 1 : Nat) : Int)) σ = _
    unfold sb_X11_lay_49
    rw [if_neg (by rw [I_lit, I_lt (by omega) (by omega)]; omega), show 16000 = 16000 - 256 * N - 1 + 256 * N + 1 by omega]
    exact a1.trans b1
theorem lay22 {ch κ : Nat → Nat} {N : Nat} : ∀ (j k m : Nat) {σ : St}, k + j = 256 * N → GM ch κ N σ → (∀ i, i < k → sI σ 44 i = I (0 : Nat)) →
    ∃ σ', s_X11_lay_22 (m + j + 1) 30 (I (k : Nat)) σ = some ((), σ') ∧ Fr C44 σ σ' ∧ GM ch κ N σ' ∧ LV N (lA ch κ 10) σ' := by
  intro j
  induction j with
  | zero =>
    intro k m σ hk hg hv
    have hN := hg.2.1
    obtain ⟨σ', a1, a2, a3, a4⟩ := lay49 (ch := ch) (κ := κ) 10 0 15989 rfl hg (fun i hi => hv i (by omega))
    refine ⟨σ', ?_, a2, a3, a4⟩
    show sb_X11_lay_22 (s_X11_lay_22 m) 30 (I (k : Nat)) σ = _
    unfold sb_X11_lay_22
    rw [if_pos (hg.1.o 11 30 (by decide)), hg.2.2.1, if_pos (by rw [I_lit, I_mul, I_le (by omega) (by omega)]; omega)]
    exact a1
  | succ j ih =>
    intro k m σ hk hg hv
    have hN := hg.2.1
    have f1 : Fr C44 σ (setI σ 44 k (I (0 : Nat))) := (Fr.refl σ).put _ rfl
    obtain ⟨σ', a1, a2, a3, a4⟩ := ih (k + 1) m (σ := setI σ 44 k (I (0 : Nat))) (by omega) (hg.fr f1 (by unfold C44; omega) (fun a k b1 b2 => by unfold C44; omega)) (fun i hi => by
      by_cases e : i = k
      · rw [e, sIe]
      · rw [sIn (by omega), hv i (by omega)])
    refine ⟨σ', ?_, f1.trans a2, a3, a4⟩
    rw [← a1]
    show sb_X11_lay_22 (s_X11_lay_22 (m + j + 1)) 30 (I (k : Nat)) σ = _
    unfold sb_X11_lay_22
    rw [if_pos (hg.1.o 11 30 (by decide)), hg.2.2.1, if_neg (by rw [I_lit, I_mul, I_le (by omega) (by omega)]; omega), hg.1.p 30 22 44 (by decide), op_eq, if_pos (hg.1.o 13 44 (by decide)), hg.1.len 44 15360 (by decide), if_pos (inN (by omega) (by omega)), tNI (by omega), lt_eq, I_p1, lt_eq]
    rfl
/-- the reference's rows are those of the texts -/
def Mly (ch sl : Nat → Nat) (σ : St) (κ : Nat → Nat) : Prop := sI σ 30 21 = 0 ∧ Laid ch sl σ κ ∧ LV (tot (nN ch sl) 99 10) (lA ch κ 10) σ
def MOld (ch sl : Nat → Nat) (σ : St) : Prop := sI σ 30 21 = 1 ∨ ∃ κ, Mly ch sl σ κ
def lyC : Nat → Nat → Prop := fun a k => mF a k ∨ (a = 30 ∧ (k = 20 ∨ k = 21)) ∨ a = 44
theorem q_lay {ch sl : Nat → Nat} (ht : Txt ch sl) (hv : Valid ch sl) (hN : tot (nN ch sl) 99 10 ≤ 60) (hL : tot (lL ch sl) 99 10 ≤ 3) {σ : St} (hm : MT ch sl σ) (ho : MOld ch sl σ) :
    ∃ σ' κ, s_X11_lay 30 σ = some ((), σ') ∧ Fr lyC σ σ' ∧ MT ch sl σ' ∧ Mly ch sl σ' κ := by
  unfold s_X11_lay
  rw [if_pos (hm.1.o 11 30 (by decide))]
  rcases ho with ho | ⟨κ, ho⟩
  · rw [ho, if_neg (by decide), lt_eq]
    have f1 : Fr lyC σ (setI σ 30 21 0) := (Fr.refl σ).put _ (Or.inr (Or.inl ⟨rfl, Or.inr rfl⟩))
    obtain ⟨σ1, κ, a1, a2, a3, a4⟩ := q_readAll1 ht hv hN hL (hm.fr f1 (fun k => by unfold lyC mF; omega))
    rw [show s_X11_readAll 30 1 (-6) (setI σ 30 21 0) = some ((), σ1) from a1, bd_eq]
    have g : GM ch κ (tot (nN ch sl) 99 10) σ1 := ⟨a3.1, hN, a4.1, a4.2.2.1, ht.2⟩
    obtain ⟨σ2, b1, b2, b3, b4⟩ := lay22 (ch := ch) (κ := κ) (256 * tot (nN ch sl) 99 10) 0 (16000 - 256 * tot (nN ch sl) 99 10 - 1) (by omega) g (fun i hi => by omega)
    refine ⟨σ2, κ, ?_, (f1.trans (a2.mono (fun a k q => ?_))).trans (b2.mono (fun a k q => Or.inr (Or.inr q))), a3.fr b2 (fun k => by unfold C44; omega), ?_, ?_, b4⟩
    · rw [show 16000 - 256 * tot (nN ch sl) 99 10 - 1 + 256 * tot (nN ch sl) 99 10 + 1 = 16000 by omega] at b1
      exact b1
    · rcases q with q | q
      · exact Or.inl q
      · exact Or.inr (Or.inl ⟨q.1, Or.inl q.2⟩)
    · rw [b2.i 30 21 (by unfold C44; omega), a2.i 30 21 (by unfold mF; omega), sIe]
    · obtain ⟨c1, c2, c3, c4⟩ := a4
      exact ⟨b3.2.2.1, by rw [b2.i 30 6 (by unfold C44; omega)]; exact c2, b3.2.2.2.1, fun q => by rw [b2.i 30 10 (by unfold C44; omega)]; exact c4 q⟩
  · rw [ho.1, if_pos rfl]
    exact ⟨σ, κ, rfl, Fr.refl σ, hm, ho⟩
