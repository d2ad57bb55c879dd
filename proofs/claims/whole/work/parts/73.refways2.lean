def mL : Nat → Nat → Prop := fun a _ => a = 45 ∨ a = 46
theorem Fr.fx {C : Nat → Nat → Prop} {σ σ' : St} (h : Fr C σ σ') (CL : Nat → Nat → Prop) : FX C CL σ σ' :=
  ⟨h.1, h.2.1, h.2.2.1, h.2.2.2.2.1, fun a k q => h.2.2.2.2.2 a k q, fun a k _ => by rw [h.2.2.2.1]⟩
def wV (ch κ : Nat → Nat) (l i : Nat) : Nat := Wy ch l (κ (i / 256)) (i % 256)
def WL (N a l : Nat) (ch κ : Nat → Nat) (σ : St) : Prop := ∀ i, i < 256 * N → sL σ a i = L (wV ch κ l i : Nat)
theorem WL.bw {N l : Nat} {ch κ : Nat → Nat} {σ : St} (h : WL N 45 l ch κ σ) : BW κ N (Wy ch l) σ := fun c s hc hs => by
  rw [h (256 * c + s) (by omega)]
  unfold wV
  rw [show (256 * c + s) / 256 = c by omega, show (256 * c + s) % 256 = s by omega]
theorem w122 {ch κ : Nat → Nat} {N l : Nat} (k66 : Nat → Int32 → Int32 → Int32 → St → Option (Int32 × St)) (x y : Int32) : ∀ (j k m : Nat) (σ : St), k + j = 256 * N → GM ch κ N σ → WL N 46 (l + 1) ch κ σ → (∀ i, i < k → sL σ 45 i = L (wV ch κ (l + 1) i : Nat)) →
    ∃ σ', s_X11_ways_122 k66 (m + j + 1) 30 x y (I ((l + 1 : Nat) : Int)) (I (k : Nat)) σ = k66 30 x y (I ((l + 2 : Nat) : Int)) σ' ∧ FX noC mL σ σ' ∧ GM ch κ N σ' ∧ WL N 45 (l + 1) ch κ σ' := by
  intro j
  induction j with
  | zero =>
    intro k m σ hk hg h6 h5
    have hN := hg.2.1
    refine ⟨σ, ?_, FX.refl σ, hg, fun i hi => h5 i (by omega)⟩
    show sb_X11_ways_122 k66 (s_X11_ways_122 k66 m) 30 x y (I ((l + 1 : Nat) : Int)) (I (k : Nat)) σ = _
    unfold sb_X11_ways_122
    rw [if_pos (hg.1.o 11 30 (by decide)), hg.2.2.1, if_pos (by rw [I_lit, I_mul, I_le (by omega) (by omega)]; omega), I_p1, lt_eq]
  | succ j ih =>
    intro k m σ hk hg h6 h5
    have hN := hg.2.1
    have hs := hg.1
    have f1 : FX noC mL σ (setL σ 45 k (sL σ 46 k)) := FX.setL 45 k _ (Or.inl rfl)
    obtain ⟨σ', a1, a2, a3, a4⟩ := ih (k + 1) m (setL σ 45 k (sL σ 46 k)) (by omega) (hg.fx f1 (fun q => q) (fun _ _ _ _ q => q)) (fun i hi => by rw [sL_L, if_neg (by omega)]; exact h6 i hi) (fun i hi => by
      rw [sL_L]
      by_cases e : i = k
      · rw [if_pos ⟨rfl, e⟩, e]; exact h6 k (by omega)
      · rw [if_neg (fun q => e q.2)]; exact h5 i (by omega))
    refine ⟨σ', ?_, f1.trans a2, a3, a4⟩
    rw [← a1]
    show sb_X11_ways_122 k66 (s_X11_ways_122 k66 (m + j + 1)) 30 x y (I ((l + 1 : Nat) : Int)) (I (k : Nat)) σ = _
    unfold sb_X11_ways_122
    rw [if_pos (hs.o 11 30 (by decide)), hg.2.2.1, if_neg (by rw [I_lit, I_mul, I_le (by omega) (by omega)]; omega), hs.p 30 23 45 (by decide), op_eq, hs.p 30 24 46 (by decide), op_eq, if_pos (hs.o 14 46 (by decide)), hs.len 46 15360 (by decide), if_pos (inN (by omega) (by omega)), if_pos (hs.o 14 45 (by decide)), hs.len 45 15360 (by decide), if_pos (inN (by omega) (by omega)), tNI (by omega), lt_eq, I_p1, lt_eq]
theorem w74 {ch κ : Nat → Nat} {N l : Nat} (k66 : Nat → Int32 → Int32 → Int32 → St → Option (Int32 × St)) (x y : Int32) : ∀ (j k m : Nat) (σ : St), k + j = 256 * N → GM ch κ N σ → WL N 45 l ch κ σ → (∀ i, i < k → sL σ 46 i = L (wV ch κ (l + 1) i : Nat)) →
    ∃ σ', s_X11_ways_74 k66 (m + j + 1) 30 x y (I ((l + 1 : Nat) : Int)) (I (k : Nat)) σ = k66 30 x y (I ((l + 2 : Nat) : Int)) σ' ∧ FX noC mL σ σ' ∧ GM ch κ N σ' ∧ WL N 45 (l + 1) ch κ σ' := by
  intro j
  induction j with
  | zero =>
    intro k m σ hk hg h5 h6
    have hN := hg.2.1
    obtain ⟨σ', a1, a2, a3, a4⟩ := w122 (ch := ch) (κ := κ) (l := l) k66 x y (256 * N) 0 (16000 - 256 * N - 1) σ (by omega) hg (fun i hi => h6 i (by omega)) (fun i hi => by omega)
    refine ⟨σ', ?_, a2, a3, a4⟩
    show sb_X11_ways_74 k66 (s_X11_ways_74 k66 m) 30 x y (I ((l + 1 : Nat) : Int)) (I (k : Nat)) σ = _
    unfold sb_X11_ways_74
    rw [if_pos (hg.1.o 11 30 (by decide)), hg.2.2.1, if_pos (by rw [I_lit, I_mul, I_le (by omega) (by omega)]; omega)]
    rw [show 16000 - 256 * N - 1 + 256 * N + 1 = 16000 by omega] at a1
    exact a1
  | succ j ih =>
    intro k m σ hk hg h5 h6
    have hN := hg.2.1
    have hs := hg.1
    obtain ⟨v, v1, v2, v3⟩ := q_waysOf hg h5.bw (fun p s => Wy_le) (show k / 256 < N by omega) (Nat.mod_lt k (show 256 > 0 by omega))
    have f1 : FX noC mL σ (setL σ 46 k (L (cap v : Nat))) := FX.setL 46 k _ (Or.inr rfl)
    obtain ⟨σ', a1, a2, a3, a4⟩ := ih (k + 1) m (setL σ 46 k (L (cap v : Nat))) (by omega) (hg.fx f1 (fun q => q) (fun _ _ _ _ q => q)) (fun i hi => by rw [sL_L, if_neg (by omega)]; exact h5 i hi) (fun i hi => by
      rw [sL_L]
      by_cases e : i = k
      · rw [if_pos ⟨rfl, e⟩, e, v3]; rfl
      · rw [if_neg (fun q => e q.2)]; exact h6 i (by omega))
    refine ⟨σ', ?_, f1.trans a2, a3, a4⟩
    rw [← a1]
    show sb_X11_ways_74 k66 (s_X11_ways_74 k66 (m + j + 1)) 30 x y (I ((l + 1 : Nat) : Int)) (I (k : Nat)) σ = _
    unfold sb_X11_ways_74
    rw [if_pos (hs.o 11 30 (by decide)), hg.2.2.1, if_neg (by rw [I_lit, I_mul, I_le (by omega) (by omega)]; omega), hs.p 30 24 46 (by decide), op_eq, d256 (by omega), r256, v1, bd_eq, q_capM v2, bd_eq, if_pos (hs.o 14 46 (by decide)), hs.len 46 15360 (by decide), if_pos (inN (by omega) (by omega)), tNI (by omega), lt_eq, I_p1, lt_eq]
theorem w66 {ch κ : Nat → Nat} {N h s : Nat} (hh : h ≤ 10) (hs2 : s < 256) : ∀ (j l m : Nat) (σ : St), l + j = h → GM ch κ N σ → WL N 45 l ch κ σ → sI σ 30 10 = I (0 : Nat) → κ 0 = 0 → 1 ≤ N →
    ∃ σ', s_X11_ways_66 (m + j + 1) 30 (I (s : Nat)) (I (h : Nat)) (I ((l + 1 : Nat) : Int)) σ = some (I (Wy ch h 0 s : Nat), σ') ∧ FX noC mL σ σ' := by
  intro j
  induction j with
  | zero =>
    intro l m σ hl hg h5 hr hk hN1
    obtain rfl : l = h := (by omega)
    have hN := hg.2.1
    have hs := hg.1
    have e : (256 : Int32) * I ((0 : Nat) : Int) + I (s : Nat) = I (s : Nat) := by rw [I_lit, I_mul, I_add]; exact congrArg I (by omega)
    refine ⟨σ, ?_, FX.refl σ⟩
    show sb_X11_ways_66 (s_X11_ways_66 m) 30 (I (s : Nat)) (I (l : Nat)) (I ((l + 1 : Nat) : Int)) σ = _
    unfold sb_X11_ways_66
    rw [if_pos (by rw [I_lt (by omega) (by omega)]; omega), if_pos (hs.o 11 30 (by decide)), hs.p 30 23 45 (by decide), op_eq, if_pos (hs.o 14 45 (by decide)), hs.len 45 15360 (by decide), hr, e, if_pos (inN (by omega) (by omega)), tNI (by omega), h5 s (by omega)]
    unfold wV
    rw [show s / 256 = 0 by omega, show s % 256 = s by omega, hk, L_int Wy_le]
  | succ j ih =>
    intro l m σ hl hg h5 hr hk hN1
    have hN := hg.2.1
    obtain ⟨σ1, a1, a2, a3, a4⟩ := w74 (ch := ch) (κ := κ) (l := l) (s_X11_ways_66 (m + j + 1)) (I (s : Nat)) (I (h : Nat)) (256 * N) 0 (16000 - 256 * N - 1) σ (by omega) hg h5 (fun i hi => by omega)
    obtain ⟨σ2, b1, b2⟩ := ih (l + 1) m σ1 (by omega) a3 a4 (by rw [a2.i 30 10 (fun q => q)]; exact hr) hk hN1
    refine ⟨σ2, ?_, a2.trans b2⟩
    show sb_X11_ways_66 (s_X11_ways_66 (m + j + 1)) 30 (I (s : Nat)) (I (h : Nat)) (I ((l + 1 : Nat) : Int)) σ = _
    unfold sb_X11_ways_66
    rw [if_neg (by rw [I_lt (by omega) (by omega)]; omega)]
    rw [show 16000 - 256 * N - 1 + 256 * N + 1 = 16000 by omega] at a1
    exact a1.trans b1
theorem w39 {ch κ : Nat → Nat} {N h s : Nat} (hh : h ≤ 10) (hs2 : s < 256) : ∀ (j k m : Nat) (σ : St), k + j = 256 * N → GM ch κ N σ → (∀ i, i < k → sL σ 45 i = 0) → sI σ 30 10 = I (0 : Nat) → κ 0 = 0 → 1 ≤ N →
    ∃ σ', s_X11_ways_39 (m + j + 1) 30 (I (s : Nat)) (I (h : Nat)) (I (k : Nat)) σ = some (I (Wy ch h 0 s : Nat), σ') ∧ FX noC mL σ σ' := by
  intro j
  induction j with
  | zero =>
    intro k m σ hk hg h5 hr hk0 hN1
    have hN := hg.2.1
    obtain ⟨σ', a1, a2⟩ := w66 (ch := ch) (κ := κ) (N := N) hh hs2 h 0 (16000 - h - 1) σ (by omega) hg (fun i hi => by rw [h5 i (by omega)]; rfl) hr hk0 hN1
    refine ⟨σ', ?_, a2⟩
    show sb_X11_ways_39 (s_X11_ways_39 m) 30 (I (s : Nat)) (I (h : Nat)) (I (k : Nat)) σ = _
    unfold sb_X11_ways_39
    rw [if_pos (hg.1.o 11 30 (by decide)), hg.2.2.1, if_pos (by rw [I_lit, I_mul, I_le (by omega) (by omega)]; omega)]
    rw [show 16000 - h - 1 + h + 1 = 16000 by omega] at a1
    exact a1
  | succ j ih =>
    intro k m σ hk hg h5 hr hk0 hN1
    have hN := hg.2.1
    have hs := hg.1
    have f1 : FX noC mL σ (setL σ 45 k 0) := FX.setL 45 k _ (Or.inl rfl)
    obtain ⟨σ', a1, a2⟩ := ih (k + 1) m (setL σ 45 k 0) (by omega) (hg.fx f1 (fun q => q) (fun _ _ _ _ q => q)) (fun i hi => by
      rw [sL_L]
      by_cases e : i = k
      · rw [if_pos ⟨rfl, e⟩]
      · rw [if_neg (fun q => e q.2)]; exact h5 i (by omega)) hr hk0 hN1
    refine ⟨σ', ?_, f1.trans a2⟩
    rw [← a1]
    show sb_X11_ways_39 (s_X11_ways_39 (m + j + 1)) 30 (I (s : Nat)) (I (h : Nat)) (I (k : Nat)) σ = _
    unfold sb_X11_ways_39
    rw [if_pos (hs.o 11 30 (by decide)), hg.2.2.1, if_neg (by rw [I_lit, I_mul, I_le (by omega) (by omega)]; omega), hs.p 30 23 45 (by decide), op_eq, if_pos (hs.o 14 45 (by decide)), hs.len 45 15360 (by decide), if_pos (inN (by omega) (by omega)), tNI (by omega), lt_eq, I_p1, lt_eq]
def waysA (ch sl : Nat → Nat) (z h : Int) : Int32 := if isSub z (all5 sl) = true then (if 0 ≤ h ∧ h ≤ 10 then (if sl 0 = 0 then I (-3) else I (Wy ch h.toNat 0 z.toNat : Nat)) else I (-2)) else I (-1)
/-- a call of the reference, with its answer -/
def askX (ch sl : Nat → Nat) (C : Nat → Nat → Prop) (σ : St) (r : Option (Int32 × St)) (a : Int32) : Prop := ∃ σ', r = some (a, σ') ∧ FX C mL σ σ' ∧ MT ch sl σ' ∧ MOld ch sl σ'
theorem askM.x {ch sl : Nat → Nat} {C : Nat → Nat → Prop} {σ : St} {r : Option (Int32 × St)} {a : Int32} (h : askM ch sl C σ r a) : askX ch sl C σ r a := by
  obtain ⟨σ', a1, a2, a3, a4⟩ := h
  exact ⟨σ', a1, a2.fx mL, a3, a4⟩
theorem m_ways {ch sl : Nat → Nat} (hg : GI ch sl) {σ : St} (hm : MT ch sl σ) (ho : MOld ch sl σ) {z h : Int} (hz : -2147483648 ≤ z ∧ z < 2147483648) (hh : -2147483648 ≤ h ∧ h < 2147483648) : askX ch sl lyC σ (s_X11_ways 30 (I z) (I h) σ) (waysA ch sl z h) := by
  obtain ⟨ht, hv, hN, hL⟩ := hg
  unfold s_X11_ways waysA askX
  rw [if_pos (hm.1.o 11 30 (by decide)), q_areThere hm ht hz, bd_eq]
  by_cases c : isSub z (all5 sl) = true
  · rw [if_neg (by rw [bI0, c]; decide), if_pos c, show s_X11_in (I h) 0 10 σ = some (bI (decide (0 ≤ h ∧ h ≤ 10)), σ) from q_inb hh (a := 0) (b := 10) (by omega) (by omega) σ, bd_eq]
    by_cases c1 : 0 ≤ h ∧ h ≤ 10
    · rw [if_neg (by rw [bI0, decide_eq_true c1]; decide), if_pos (hm.1.o 11 30 (by decide)), q_isGoal hm ht, bd_eq, if_pos c1]
      by_cases c0 : sl 0 = 0
      · rw [if_pos (by rw [bI0]; exact decide_eq_false (fun q => q c0)), if_pos c0]
        exact ⟨σ, rfl, FX.refl σ, hm, ho⟩
      · obtain ⟨σ', κ, a1, a2, a3, a4⟩ := q_lay ht hv hN hL hm ho
        unfold isSub at c
        have c' := of_decide_eq_true c
        have ha := all5_lt sl
        have hle := sub_le c'.2
        obtain ⟨n, rfl⟩ := Int.eq_ofNat_of_zero_le c'.1
        obtain ⟨g, rfl⟩ := Int.eq_ofNat_of_zero_le c1.1
        rw [Int.toNat_natCast] at hle
        have hgm : GM ch κ (tot (nN ch sl) 99 10) σ' := ⟨a3.1, hN, a4.2.1.1, a4.2.1.2.2.1, ht.2⟩
        obtain ⟨r1, r2, r3⟩ := a4.2.1.2.2.2 c0
        obtain ⟨σ2, b1, b2⟩ := w39 (ch := ch) (κ := κ) (h := g) (s := n) (by omega) (by omega) (256 * tot (nN ch sl) 99 10) 0 (16000 - 256 * tot (nN ch sl) 99 10 - 1) σ' (by omega) hgm (fun i hi => by omega) r1 r2 r3
        rw [if_neg (by rw [bI0, decide_eq_true c0]; decide), if_pos (hm.1.o 11 30 (by decide)), a1, bd_eq, if_neg c0]
        rw [show 16000 - 256 * tot (nN ch sl) 99 10 - 1 + 256 * tot (nN ch sl) 99 10 + 1 = 16000 by omega] at b1
        exact ⟨σ2, b1, (a2.fx mL).trans (b2.mono (fun _ _ q => q.elim) (fun _ _ q => q)), a3.fx b2 (fun k => ⟨fun q => q, fun q => q⟩), Or.inr ⟨κ, a4.fx b2 (fun _ _ q => q) (fun _ _ _ _ q => q) (fun _ q => q)⟩⟩
    · rw [if_pos (by rw [bI0]; exact decide_eq_false c1), if_neg c1]
      exact ⟨σ, rfl, FX.refl σ, hm, ho⟩
  · rw [if_pos (by rw [bI0]; exact Bool.eq_false_iff.2 c), if_neg c]
    exact ⟨σ, rfl, FX.refl σ, hm, ho⟩
