/-! the reference's answers from the first proof -/
def fpL (ch sl : Nat → Nat) : List Nat := wr ch (hgt ch (all5 sl)) 0 (all5 sl)
def wyC : Nat → Nat → Prop := fun a k => lyC a k ∨ lwC a k
theorem hgt_at {ch : Nat → Nat} {s : Nat} (h : 0 < hgt ch s) : Lv ch one (hgt ch s) 0 s = true := (lhM_ok (ch := ch) (h := 10) (p := 0) (s := s) (hgt_le ch s)).1 ⟨h, Nat.le_refl _⟩
theorem MT.lw {ch sl : Nat → Nat} {σ σ' : St} (h : MT ch sl σ) (hf : Fr lwC σ σ') : MT ch sl σ' := h.fr hf (fun k => by unfold lwC; omega)
theorem Mly.lw {ch sl κ : Nat → Nat} {σ σ' : St} (h : Mly ch sl σ κ) (hf : Fr lwC σ σ') : Mly ch sl σ' κ := h.fx (hf.fx noC) (fun k hk => by unfold lwC; omega) (fun a k h1 h2 => by unfold lwC; omega) (fun k => by unfold lwC; omega)
theorem q_layWay {ch sl : Nat → Nat} (hg : GI ch sl) (h0 : sl 0 ≠ 0) {σ : St} (hm : MT ch sl σ) (ho : MOld ch sl σ) :
    ∃ σ', s_X11_layWay 30 σ = some (bI (decide (0 < hgt ch (all5 sl))), σ') ∧ Fr wyC σ σ' ∧ MT ch sl σ' ∧ MOld ch sl σ' ∧ RWl σ' (fpL ch sl) := by
  obtain ⟨ht, hv, hN, hL⟩ := hg
  obtain ⟨σ1, κ, a1, a2, a3, a4⟩ := q_lay ht hv hN hL hm ho
  have ha := all5_lt sl
  have hgl := hgt_le ch (all5 sl)
  have f2 : Fr lwC σ1 (setI (setI σ1 30 26 0) 30 30 0) := ((Fr.refl σ1).put _ (Or.inl ⟨rfl, Or.inl rfl⟩)).put _ (Or.inl ⟨rfl, Or.inr rfl⟩)
  have b3 := a3.lw f2
  have b4 := a4.lw f2
  have br : RWl (setI (setI σ1 30 26 0) 30 30 0) [] := ⟨by rw [sIn (by omega), sIe]; rfl, fun i v hi => by cases hi⟩
  have bd0 : sI (setI (setI σ1 30 26 0) 30 30 0) 30 30 = I ((0 : Nat) : Int) := sIe
  have ho1 := a3.1.o 11 30 (by decide)
  have hob := b3.1.o 11 30 (by decide)
  unfold s_X11_layWay
  rw [if_pos (hm.1.o 11 30 (by decide)), a1, bd_eq, if_pos ho1, lt_eq, lt_eq, q_all b3 ht, bd_eq, if_pos hob, q_heightOf b3.1 b4 h0 (by omega), bd_eq]
  by_cases c : 0 < hgt ch (all5 sl)
  · have hR' : hR (hgt ch (all5 sl)) = I (hgt ch (all5 sl) : Nat) := by unfold hR; rw [if_neg (by omega)]
    obtain ⟨r1, r2, r3⟩ := b4.2.1.2.2.2 h0
    have hlv := hgt_at c
    rw [← r2] at hlv
    have hmw : MW ch κ (tot (nN ch sl) 99 10) (setI (setI σ1 30 26 0) 30 30 0) := ⟨⟨b3.1, hN, b4.2.1.1, b4.2.1.2.2.1, ht.2⟩, b4.2.2⟩
    have hp10 : 2 ^ hgt ch (all5 sl) ≤ 2 ^ 10 := Nat.pow_le_pow_right (by decide) hgl
    obtain ⟨σ2, w1, σ3, n, w2, w3, w4, w5, w6, w7⟩ := pw_one (q_pw (ch := ch) (κ := κ) (N := tot (nN ch sl) 99 10) (hgt ch (all5 sl)) hgl) (d := 0) (c := 0) (s := all5 sl) (l := []) (by omega) (by omega) hlv hmw bd0 (by omega) br (by show 0 + _ ≤ _; omega)
    rw [if_pos ((hR_ge (by omega)).2 c), if_pos hob, q_all b3 ht, bd_eq, if_pos hob, q_all b3 ht, bd_eq, if_pos hob, q_heightOf b3.1 b4 h0 (by omega), bd_eq, if_pos hob, hR', r1, w1, bd_eq]
    refine ⟨σ3, ?_, ((a2.mono (fun a k q => Or.inl q)).trans (f2.mono (fun a k q => Or.inr q))).trans (w7.mono (fun a k q => Or.inr q)), b3.lw w7, Or.inr ⟨κ, b4.lw w7⟩, ?_⟩
    · have := w3 (16000 - n)
      rw [show 16000 - n + n = 16000 by omega] at this
      rw [this, show 16000 - n = (16000 - n - 1) + 1 by omega]
      show sb_X11_layWay_47 (s_X11_layWay_47 (16000 - n - 1)) 30 σ3 = _
      unfold sb_X11_layWay_47
      rw [if_pos ((b3.lw w7).1.o 11 30 (by decide)), w4, if_pos (by decide), decide_eq_true c]
      rfl
    · have e : fpL ch sl = [] ++ wr ch (hgt ch (all5 sl)) (κ 0) (all5 sl) := by rw [r2, List.nil_append]; unfold fpL; exact Eq.refl _
      rw [e]
      exact w5
  · rw [if_neg (by rw [hR_ge (by omega)]; exact c), decide_eq_false c]
    refine ⟨_, rfl, (a2.mono (fun a k q => Or.inl q)).trans (f2.mono (fun a k q => Or.inr q)), b3, Or.inr ⟨κ, b4⟩, ?_⟩
    have e : fpL ch sl = [] := by unfold fpL; rw [show hgt ch (all5 sl) = 0 by omega]; rfl
    rw [e]
    exact br
theorem fpL_len (ch sl : Nat → Nat) : (fpL ch sl).length ≤ 1023 := by
  have h := wr_len (ch := ch) (h := hgt ch (all5 sl)) (p := 0) (s := all5 sl)
  have hp10 : 2 ^ hgt ch (all5 sl) ≤ 2 ^ 10 := Nat.pow_le_pow_right (by decide) (hgt_le ch (all5 sl))
  unfold fpL
  omega
theorem getD_some {l : List Nat} {i : Nat} (h : i < l.length) : l[i]? = some (l.getD i 0) := by
  rw [List.getD_eq_getElem?_getD, List.getElem?_eq_getElem h]
  rfl
theorem getD_mem {l : List Nat} {i : Nat} (h : i < l.length) : l.getD i 0 ∈ l := List.mem_of_getElem? (getD_some h)
def termA (ch sl : Nat → Nat) (i : Int) : Int32 := if -1 ≤ i then (if sl 0 = 0 then I (-3) else if 0 < hgt ch (all5 sl) then (if i = -1 then I ((fpL ch sl).length : Nat) else if i < (fpL ch sl).length then I ((fpL ch sl).getD i.toNat 0 : Nat) else I (-6)) else I (-6)) else I (-2)
theorem m_term {ch sl : Nat → Nat} (hg : GI ch sl) {σ : St} (hm : MT ch sl σ) (ho : MOld ch sl σ) {i : Int} (hi : -2147483648 ≤ i ∧ i < 2147483648) : askM ch sl wyC σ (s_X11_term 30 (I i) σ) (termA ch sl i) := by
  have ht := hg.1
  unfold s_X11_term termA askM
  have hm1 : (-1 : Int32) = I (-1) := rfl
  by_cases c : -1 ≤ i
  · rw [if_pos (by rw [hm1, I_le (by omega) hi]; exact c), if_pos (hm.1.o 11 30 (by decide)), q_isGoal hm ht, bd_eq, if_pos c]
    by_cases c0 : sl 0 = 0
    · rw [if_pos (by rw [bI0]; exact decide_eq_false (fun q => q c0)), if_pos c0]
      exact ⟨σ, rfl, Fr.refl σ, hm, ho⟩
    · obtain ⟨σ1, a1, a2, a3, a4, a5, a6⟩ := q_layWay hg c0 hm ho
      have hlen := fpL_len ch sl
      have ho1 := a3.1.o 11 30 (by decide)
      rw [if_neg (by rw [bI0, decide_eq_true c0]; decide), if_pos (hm.1.o 11 30 (by decide)), a1, bd_eq, if_neg c0]
      by_cases c1 : 0 < hgt ch (all5 sl)
      · rw [if_neg (by rw [bI0, decide_eq_true c1]; decide), if_pos c1]
        by_cases c2 : i = -1
        · rw [if_pos (by rw [c2]; rfl), if_pos ho1, a5, if_pos c2]
          exact ⟨σ1, rfl, a2, a3, a4⟩
        · rw [if_neg (by rw [hm1, I_eq hi (by omega)]; exact c2), if_pos ho1, a5, if_neg c2]
          obtain ⟨n, rfl⟩ := Int.eq_ofNat_of_zero_le (show 0 ≤ i by omega)
          by_cases c3 : (n : Int) < (fpL ch sl).length
          · rw [if_neg (by rw [I_le (by omega) hi]; omega), a3.1.p 30 25 47 (by decide), op_eq, if_pos (a3.1.o 13 47 (by decide)), a3.1.len 47 1024 (by decide), if_pos (inN (by omega) (by omega)), tNI (by omega), if_pos c3, a6 n _ (getD_some (by omega)), Int.toNat_natCast]
            exact ⟨σ1, rfl, a2, a3, a4⟩
          · rw [if_pos (by rw [I_le (by omega) hi]; omega), if_neg c3]
            exact ⟨σ1, rfl, a2, a3, a4⟩
      · rw [if_pos (by rw [bI0]; exact decide_eq_false c1), if_neg c1]
        exact ⟨σ1, rfl, a2, a3, a4⟩
  · rw [if_neg (by rw [hm1, I_le (by omega) hi]; exact c), if_neg c]
    exact ⟨σ, rfl, Fr.refl σ, hm, ho⟩
/-! how often an offer is used -/
def cntL (f : Nat → Bool) (l : List Nat) : Nat → Nat
  | 0 => 0
  | k + 1 => cntL f l k + if f (l.getD k 0) = true then 1 else 0
theorem cntL_le {f : Nat → Bool} {l : List Nat} : ∀ k, cntL f l k ≤ k := by
  intro k
  induction k with
  | zero => exact Nat.le_refl 0
  | succ k ih => rw [cntL]; split <;> omega
def usF (t n x : Nat) : Bool := decide (x < 200 ∧ x / 10 = 10 * t + n)
theorem us_loop {ch sl : Nat → Nat} {σ : St} (hm : MT ch sl σ) {l : List Nat} (hr : RWl σ l) (hlen : l.length ≤ 1023) (hnum : ∀ x ∈ l, x < 500) {t n : Nat} (ht : t ≤ 1) (hn : n ≤ 7) : ∀ (j k m : Nat), k + j = l.length →
    s_X11_uses_52 (m + j + 1) 30 (I (t : Nat)) (I (n : Nat)) (I (cntL (usF t n) l k : Nat)) (I (k : Nat)) σ = some (I (cntL (usF t n) l l.length : Nat), σ) := by
  have ho := hm.1.o 11 30 (by decide)
  obtain ⟨r1, r2⟩ := hr
  intro j
  induction j with
  | zero =>
    intro k m hk
    obtain rfl : k = l.length := (by omega)
    show sb_X11_uses_52 (s_X11_uses_52 m) 30 _ _ _ _ σ = _
    unfold sb_X11_uses_52
    rw [if_pos ho, r1, if_pos (by rw [I_le (by omega) (by omega)]; omega)]
  | succ j ih =>
    intro k m hk
    have ih := ih (k + 1) m (by omega)
    rw [cntL] at ih
    have hx := hnum _ (getD_mem (show k < l.length by omega))
    have hv := r2 k _ (getD_some (show k < l.length by omega))
    have hcl := cntL_le (f := usF t n) (l := l) k
    show sb_X11_uses_52 (s_X11_uses_52 (m + j + 1)) 30 _ _ _ _ σ = _
    unfold sb_X11_uses_52
    rw [if_pos ho, r1, if_neg (by rw [I_le (by omega) (by omega)]; omega), hm.1.p 30 25 47 (by decide), op_eq, if_pos (hm.1.o 13 47 (by decide)), hm.1.len 47 1024 (by decide), if_pos (inN (by omega) (by omega)), tNI (by omega), hv]
    generalize l.getD k 0 = x at *
    have e0 : I (cntL (usF t n) l k : Nat) + 0 = I ((cntL (usF t n) l k + 0 : Nat) : Int) := by rw [show (0 : Int32) = I ((0 : Nat) : Int) from rfl, I_add]; rfl
    have e1 : I (cntL (usF t n) l k : Nat) + 1 = I ((cntL (usF t n) l k + 1 : Nat) : Int) := I_p1 _
    unfold s_X11_uses_98 s_X11_uses_99
    by_cases c : 200 ≤ x
    · rw [if_neg (show ¬ usF t n x = true by unfold usF; rw [decide_eq_true_iff]; omega)] at ih
      rw [if_pos (by rw [I_lit, I_le (by omega) (by omega)]; omega), e0, lt_eq, I_p1, lt_eq]
      exact ih
    · have e10 : (10 : Int32) * I (t : Nat) + I (n : Nat) = I ((10 * t + n : Nat) : Int) := by rw [I_lit, I_mul, I_add]; rfl
      rw [if_neg (by rw [I_lit, I_le (by omega) (by omega)]; omega), if_pos (inN (by omega) (by omega)), d10 (by omega), e10]
      by_cases c2 : x / 10 = 10 * t + n
      · rw [if_pos (show usF t n x = true by unfold usF; rw [decide_eq_true_iff]; omega)] at ih
        rw [if_pos (by rw [c2]), e1, lt_eq, I_p1, lt_eq]
        exact ih
      · rw [if_neg (show ¬ usF t n x = true by unfold usF; rw [decide_eq_true_iff]; omega)] at ih
        rw [if_neg (by rw [I_eq (by omega) (by omega)]; omega), e0, lt_eq, I_p1, lt_eq]
        exact ih
theorem fpL_num (ch sl : Nat → Nat) : ∀ x ∈ fpL ch sl, x < 500 := wr_num
def usesA (ch sl : Nat → Nat) (t n : Int) : Int32 := if 0 ≤ t ∧ t ≤ 1 then (if 0 ≤ n ∧ n ≤ (if t = 0 then 7 else 3) then (if sl 0 = 0 then I (-3) else I (cntL (usF t.toNat n.toNat) (fpL ch sl) (fpL ch sl).length : Nat)) else I (-1)) else I (-2)
theorem m_uses {ch sl : Nat → Nat} (hg : GI ch sl) {σ : St} (hm : MT ch sl σ) (ho : MOld ch sl σ) {t n : Int} (ht : -2147483648 ≤ t ∧ t < 2147483648) (hn : -2147483648 ≤ n ∧ n < 2147483648) : askM ch sl wyC σ (s_X11_uses 30 (I t) (I n) σ) (usesA ch sl t n) := by
  have htx := hg.1
  unfold s_X11_uses usesA askM
  rw [show s_X11_in (I t) 0 1 σ = some (bI (decide (0 ≤ t ∧ t ≤ 1)), σ) from q_inb ht (a := 0) (b := 1) (by omega) (by omega) σ, bd_eq]
  by_cases c : 0 ≤ t ∧ t ≤ 1
  · rw [if_neg (by rw [bI0, decide_eq_true c]; decide), if_pos c]
    have key : ∀ u : Int, u = (if t = 0 then 7 else 3) → ∃ σ', s_X11_uses_24 30 (I t) (I n) (I n) 0 (I u) σ = some ((if 0 ≤ n ∧ n ≤ u then (if sl 0 = 0 then I (-3) else I (cntL (usF t.toNat n.toNat) (fpL ch sl) (fpL ch sl).length : Nat)) else I (-1)), σ') ∧ Fr wyC σ σ' ∧ MT ch sl σ' ∧ MOld ch sl σ' := by
      intro u hu
      have hu7 : 0 ≤ u ∧ u ≤ 7 := by rw [hu]; split <;> omega
      unfold s_X11_uses_24
      rw [show s_X11_in (I n) 0 (I u) σ = some (bI (decide (0 ≤ n ∧ n ≤ u)), σ) from q_inb hn (a := 0) (b := u) (by omega) (by omega) σ, bd_eq]
      by_cases c2 : 0 ≤ n ∧ n ≤ u
      · rw [if_neg (by rw [bI0, decide_eq_true c2]; decide), if_pos (hm.1.o 11 30 (by decide)), q_isGoal hm htx, bd_eq, if_pos c2]
        by_cases c0 : sl 0 = 0
        · rw [if_pos (by rw [bI0]; exact decide_eq_false (fun q => q c0)), if_pos c0]
          exact ⟨σ, rfl, Fr.refl σ, hm, ho⟩
        · obtain ⟨σ1, a1, a2, a3, a4, a5⟩ := q_layWay hg c0 hm ho
          have hlen := fpL_len ch sl
          obtain ⟨tn, rfl⟩ := Int.eq_ofNat_of_zero_le c.1
          obtain ⟨nn, rfl⟩ := Int.eq_ofNat_of_zero_le c2.1
          have ul := us_loop a3 a5 hlen (fpL_num ch sl) (t := tn) (n := nn) (by omega) (by omega) (fpL ch sl).length 0 (15999 - (fpL ch sl).length) (by omega)
          rw [show 15999 - (fpL ch sl).length + (fpL ch sl).length + 1 = 16000 by omega] at ul
          rw [if_neg (by rw [bI0, decide_eq_true c0]; decide), if_pos (hm.1.o 11 30 (by decide)), a1, bd_eq, if_neg c0]
          exact ⟨σ1, ul, a2, a3, a4⟩
      · rw [if_pos (by rw [bI0]; exact decide_eq_false c2), if_neg c2]
        exact ⟨σ, rfl, Fr.refl σ, hm, ho⟩
    by_cases ct : t = 0
    · rw [if_pos (by rw [ct]; rfl), show (7 : Int32) = I 7 from rfl]
      have := key 7 (by rw [if_pos ct])
      rw [if_pos ct]
      exact this
    · rw [if_neg (by rw [I_lit, I_eq ht (by omega)]; exact ct), show (3 : Int32) = I 3 from rfl]
      have := key 3 (by rw [if_neg ct])
      rw [if_neg ct]
      exact this
  · rw [if_pos (by rw [bI0]; exact decide_eq_false c), if_neg c]
    exact ⟨σ, rfl, Fr.refl σ, hm, ho⟩
