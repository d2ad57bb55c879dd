/-! the law's loop -/
def Inv (L : Nat) (xs : Nat → Int32) (c : Nat) (σ : St) : Prop := ∃ ch sl t f s0 s1 S, PS ch sl t f s0 s1 ∧ CR ch sl t f s0 s1 S σ ∧ MR ch sl t f s0 s1 σ ∧ S ≤ c ∧ sn σ ≤ 54 + 12 * c ∧ sz σ ≤ 208094 + 80 * c ∧ sh σ 0 = (13, L) ∧ ∀ k, sI σ 0 k = xs k
def Nx (L : Nat) (xs : Nat → Int32) (c : Nat) (σ : St) (cc mc : St → Option (Int32 × St)) : Prop := ∃ a σ1 σ2, cc σ = some (a, σ1) ∧ mc σ1 = some (a, σ2) ∧ Inv L xs (c + 1) σ2 ∧ SS σ1 ∧ sh σ1 0 = (13, L) ∧ ∀ k, sI σ1 0 k = xs k
section
variable {L : Nat} {xs : Nat → Int32} {c : Nat} {σ : St}
theorem Step2.nx {ch sl : Nat → Nat} {t : List Nat} {f : Int} {s0 s1 : Option TS} {S : Nat} {cc mc : St → Option (Int32 × St)} (h : Step2 ch sl t f s0 s1 S σ cc mc) (h1 : S ≤ c) (h2 : sn σ ≤ 54 + 12 * c) (h3 : sz σ ≤ 208094 + 80 * c) (h4 : sh σ 0 = (13, L)) (h5 : ∀ k, sI σ 0 k = xs k) (h0 : 0 < sn σ) : Nx L xs c σ cc mc := by
  obtain ⟨a, σ1, σ2, a1, a2, ⟨ch', sl', t', f', s0', s1', S', b1, b2, b3, b4⟩, ⟨c1, c2, c3⟩, ⟨d1, d2, d3, d4, d5⟩, e1, e2, e3⟩ := h
  have i1 : ∀ k, sI σ1 0 k = xs k := fun k => by rw [(c3 0 k (by omega) (Or.inl rfl)).1]; exact h5 k
  have s1' : sh σ1 0 = (13, L) := by rw [c2 0 h0]; exact h4
  exact ⟨a, σ1, σ2, a1, a2, ⟨ch', sl', t', f', _, _, S', b1, b2, b3, by omega, by omega, by omega, by rw [d3]; exact s1', fun k => by rw [(d5 0 k (by omega)).1]; exact i1 k⟩, e1, s1', i1⟩
theorem isA_0 (h1 : 0 < sn σ) (h : sh σ 0 = (13, L)) : isA σ 13 0 = true := by
  unfold isA
  rw [h, decide_eq_true h1]
  rfl
theorem al_0 (h : sh σ 0 = (13, L)) : alen σ 0 = L := by unfold alen; rw [h]
theorem sh0 {cc mc : St → Option (Int32 × St)} (h : Nx L xs c σ cc mc) (ho : isO σ 10 1 = true) (p : Int32) (k18 : Nat → Nat → Nat → Int32 → St → Option (Int32 × St)) :
    ∃ σ2, Inv L xs (c + 1) σ2 ∧ (if isO σ 10 1 = true then (bd (cc σ) fun r σ1 => if isO σ1 11 30 = true then (bd (mc σ1) fun r2 σ2 => if r = r2 then (lt (p + 3 : Int32) fun v => k18 0 1 30 v σ2) else (some (0, σ2))) else none) else none) = k18 0 1 30 (p + 3) σ2 := by
  obtain ⟨a, σ1, σ2, a1, a2, a3, a4, a5, a6⟩ := h
  refine ⟨σ2, a3, ?_⟩
  rw [if_pos ho, a1, bd_eq, if_pos (a4.o 11 30 (by decide)), a2, bd_eq, if_pos rfl, lt_eq]
theorem sh1 {cc mc : Int32 → St → Option (Int32 × St)} {p : Nat} (hp : p + 3 ≤ L) (hL : L ≤ 1536) (h : Nx L xs c σ (cc (xs (p + 1))) (mc (xs (p + 1)))) (ho : isO σ 10 1 = true) (hl : sh σ 0 = (13, L)) (hi : ∀ k, sI σ 0 k = xs k) (k18 : Nat → Nat → Nat → Int32 → St → Option (Int32 × St)) :
    ∃ σ2, Inv L xs (c + 1) σ2 ∧ (if inR (I (p : Nat) + 1) L = true then (if isO σ 10 1 = true then (bd (cc (sI σ 0 ((I (p : Nat) + 1).toNatClampNeg)) σ) fun r σ1 => if isA σ1 13 0 = true then (if inR (I (p : Nat) + 1) (alen σ1 0) = true then (if isO σ1 11 30 = true then (bd (mc (sI σ1 0 ((I (p : Nat) + 1).toNatClampNeg)) σ1) fun r2 σ2 => if r = r2 then (lt (I (p : Nat) + 3 : Int32) fun v => k18 0 1 30 v σ2) else (some (0, σ2))) else none) else none) else none) else none) else none) = k18 0 1 30 (I (p : Nat) + 3) σ2 := by
  obtain ⟨a, σ1, σ2, a1, a2, a3, a4, a5, a6⟩ := h
  have h54 := a4.1
  refine ⟨σ2, a3, ?_⟩
  rw [I_p1, if_pos (inN (by omega) (by omega)), if_pos ho, tNI (by omega), hi, a1, bd_eq, if_pos (isA_0 (by omega) a5), al_0 a5, if_pos (inN (by omega) (by omega)), if_pos (a4.o 11 30 (by decide)), a6, a2, bd_eq, if_pos rfl, lt_eq]
theorem I_p2 (n : Nat) : I (n : Nat) + 2 = I ((n + 2 : Nat) : Int) := by rw [I_lit, I_add]; rfl
theorem I_p3 (n : Nat) : I (n : Nat) + 3 = I ((n + 3 : Nat) : Int) := by rw [I_lit, I_add]; rfl
theorem sh2 {cc mc : Int32 → Int32 → St → Option (Int32 × St)} {p : Nat} (hp : p + 3 ≤ L) (hL : L ≤ 1536) (h : Nx L xs c σ (cc (xs (p + 1)) (xs (p + 2))) (mc (xs (p + 1)) (xs (p + 2)))) (ho : isO σ 10 1 = true) (hl : sh σ 0 = (13, L)) (hi : ∀ k, sI σ 0 k = xs k) (k18 : Nat → Nat → Nat → Int32 → St → Option (Int32 × St)) :
    ∃ σ2, Inv L xs (c + 1) σ2 ∧ (if inR (I (p : Nat) + 1) L = true then (if inR (I (p : Nat) + 2) L = true then (if isO σ 10 1 = true then (bd (cc (sI σ 0 ((I (p : Nat) + 1).toNatClampNeg)) (sI σ 0 ((I (p : Nat) + 2).toNatClampNeg)) σ) fun r σ1 => if isA σ1 13 0 = true then (if inR (I (p : Nat) + 1) (alen σ1 0) = true then (if inR (I (p : Nat) + 2) (alen σ1 0) = true then (if isO σ1 11 30 = true then (bd (mc (sI σ1 0 ((I (p : Nat) + 1).toNatClampNeg)) (sI σ1 0 ((I (p : Nat) + 2).toNatClampNeg)) σ1) fun r2 σ2 => if r = r2 then (lt (I (p : Nat) + 3 : Int32) fun v => k18 0 1 30 v σ2) else (some (0, σ2))) else none) else none) else none) else none) else none) else none) else none) = k18 0 1 30 (I (p : Nat) + 3) σ2 := by
  obtain ⟨a, σ1, σ2, a1, a2, a3, a4, a5, a6⟩ := h
  have h54 := a4.1
  refine ⟨σ2, a3, ?_⟩
  rw [I_p1, I_p2, if_pos (inN (by omega) (by omega)), if_pos (inN (by omega) (by omega)), if_pos ho, tNI (by omega), tNI (by omega), hi, hi, a1, bd_eq, if_pos (isA_0 (by omega) a5), al_0 a5, if_pos (inN (by omega) (by omega)), if_pos (inN (by omega) (by omega)), if_pos (a4.o 11 30 (by decide)), a6, a6, a2, bd_eq, if_pos rfl, lt_eq]
theorem Inv.up (h : Inv L xs c σ) : Inv L xs (c + 1) σ := by
  obtain ⟨ch, sl, t, f, s0, s1, S, a1, a2, a3, a4, a5, a6, a7, a8⟩ := h
  exact ⟨ch, sl, t, f, s0, s1, S, a1, a2, a3, by omega, by omega, by omega, a7, a8⟩
theorem lp_law (m a b d : Nat) (e : Int32) (σ : St) : s_L_law_18 (m + 1) a b d e σ = sb_L_law_18 (s_L_law_18 m) a b d e σ := rfl
/-- one call of the script -/
theorem law_one (hL : L ≤ 1536) {p : Nat} (hp : p + 3 ≤ L) (hc : c < 600) (h : Inv L xs c σ) (k18 : Nat → Nat → Nat → Int32 → St → Option (Int32 × St)) : ∃ σ2, Inv L xs (c + 1) σ2 ∧ sb_L_law_18 k18 0 1 30 (I (p : Nat)) σ = k18 0 1 30 (I (p : Nat) + 3) σ2 := by
  have hup := h.up
  obtain ⟨ch, sl, t, f, s0, s1, S, b1, b2, b3, b4, b5, b6, b7, b8⟩ := h
  obtain ⟨hs, h54⟩ := b2.h54
  have ho := hs.o 10 1 (by decide)
  have h0 : 0 < sn σ := by omega
  have hS : S < 100000 := by omega
  obtain ⟨y, ey, hy⟩ := I_ex (xs (p + 1))
  obtain ⟨w, ew, hw⟩ := I_ex (xs (p + 2))
  have nx : ∀ {cc mc : St → Option (Int32 × St)}, Step2 ch sl t f s0 s1 S σ cc mc → Nx L xs c σ cc mc := fun q => q.nx b4 b5 b6 b7 b8 h0
  unfold sb_L_law_18
  rw [if_pos (isA_0 h0 b7), al_0 b7, I_nI, show I ((L : Nat) : Int) - 3 = I ((L : Int) - 3) by rw [I_lit, I_sub], if_neg (by rw [I_lt (by omega) (by omega)]; omega), if_pos (inN (by omega) (by omega)), lt_eq]
  generalize (sI σ 0 (I (p : Nat)).toNatClampNeg &&& 31 : Int32) = v
  by_cases c0 : v = 0
  · rw [if_pos c0]
    exact sh1 (cc := s_X10_say 1) (mc := s_X11_say 30) hp hL (by rw [ey]; exact nx (st_say b1 b2 b3 hy)) ho b7 b8 k18
  rw [if_neg c0]
  by_cases c1 : v = 1
  · rw [if_pos c1]
    exact sh0 (cc := s_X10_wipe 1) (mc := s_X11_wipe 30) (nx (st_wipe b1 b2 b3)) ho _ k18
  rw [if_neg c1]
  by_cases c2 : v = 2
  · rw [if_pos c2]
    exact sh0 (cc := s_X10_resource 1) (mc := s_X11_resource 30) (nx (st_resource b1 b2 b3)) ho _ k18
  rw [if_neg c2]
  by_cases c3 : v = 3
  · rw [if_pos c3]
    exact sh0 (cc := s_X10_well 1) (mc := s_X11_well 30) (nx (st_well b1 b2 b3)) ho _ k18
  rw [if_neg c3]
  by_cases c4 : v = 4
  · rw [if_pos c4]
    exact sh0 (cc := s_X10_goal 1) (mc := s_X11_goal 30) (nx (st_goal b1 b2 b3)) ho _ k18
  rw [if_neg c4]
  by_cases c5 : v = 5
  · rw [if_pos c5]
    exact sh0 (cc := s_X10_fault 1) (mc := s_X11_fault 30) (nx (st_fault b1 b2 b3)) ho _ k18
  rw [if_neg c5]
  by_cases c6 : v = 6
  · rw [if_pos c6]
    exact sh2 (cc := s_X10_drop 1) (mc := s_X11_drop 30) hp hL (by rw [ey, ew]; exact nx (st_drop b1 b2 b3 hy hw)) ho b7 b8 k18
  rw [if_neg c6]
  by_cases c7 : v = 7
  · rw [if_pos c7]
    exact sh1 (cc := s_X10_height 1) (mc := s_X11_height 30) hp hL (by rw [ey]; exact nx (st_height b1 hS b2 b3 hy)) ho b7 b8 k18
  rw [if_neg c7]
  by_cases c8 : v = 8
  · rw [if_pos c8]
    exact sh2 (cc := s_X10_left 1) (mc := s_X11_left 30) hp hL (by rw [ey, ew]; exact nx (st_left b1 hS b2 b3 hy hw)) ho b7 b8 k18
  rw [if_neg c8]
  by_cases c9 : v = 9
  · rw [if_pos c9]
    exact sh2 (cc := s_X10_ways 1) (mc := s_X11_ways 30) hp hL (by rw [ey, ew]; exact nx (st_ways b1 hS b2 b3 hy hw)) ho b7 b8 k18
  rw [if_neg c9]
  by_cases c10 : v = 10
  · rw [if_pos c10]
    exact sh0 (cc := s_X10_fewest 1) (mc := s_X11_fewest 30) (nx (st_fewest b1 hS b2 b3)) ho _ k18
  rw [if_neg c10]
  by_cases c11 : v = 11
  · rw [if_pos c11]
    exact sh0 (cc := s_X10_needed 1) (mc := s_X11_needed 30) (nx (st_needed b1 hS b2 b3)) ho _ k18
  rw [if_neg c11]
  by_cases c12 : v = 12
  · rw [if_pos c12]
    exact sh1 (cc := s_X10_term 1) (mc := s_X11_term 30) hp hL (by rw [ey]; exact nx (st_term b1 hS b2 b3 hy)) ho b7 b8 k18
  rw [if_neg c12]
  by_cases c13 : v = 13
  · rw [if_pos c13]
    exact sh2 (cc := s_X10_uses 1) (mc := s_X11_uses 30) hp hL (by rw [ey, ew]; exact nx (st_uses b1 hS b2 b3 hy hw)) ho b7 b8 k18
  rw [if_neg c13]
  by_cases c14 : v = 14
  · rw [if_pos c14]
    exact sh1 (cc := s_X10_put 1) (mc := s_X11_put 30) hp hL (by rw [ey]; exact nx (st_put b1 b2 b3 hy)) ho b7 b8 k18
  rw [if_neg c14]
  by_cases c15 : v = 15
  · rw [if_pos c15]
    exact sh1 (cc := s_X10_trial 1) (mc := s_X11_trial 30) hp hL (by rw [ey]; exact nx (st_trial b1 hS b2 b3 hy)) ho b7 b8 k18
  rw [if_neg c15]
  by_cases c16 : v = 16
  · rw [if_pos c16]
    exact sh1 (cc := s_X10_check 1) (mc := s_X11_check 30) hp hL (by rw [ey]; exact nx (st_check b1 hS b2 b3 hy)) ho b7 b8 k18
  rw [if_neg c16]
  by_cases c17 : v = 17
  · rw [if_pos c17]
    exact sh1 (cc := s_X10_image 1) (mc := s_X11_image 30) hp hL (by rw [ey]; exact nx (st_image b1 b2 b3 hy)) ho b7 b8 k18
  rw [if_neg c17]
  by_cases c18 : v = 18
  · rw [if_pos c18]
    exact sh1 (cc := s_X10_restore 1) (mc := s_X11_restore 30) hp hL (by rw [ey]; exact nx (st_restore b1 b2 b3 hy)) ho b7 b8 k18
  rw [if_neg c18]
  by_cases c19 : v = 19
  · rw [if_pos c19]
    exact sh1 (cc := s_X10_count 1) (mc := s_X11_count 30) hp hL (by rw [ey]; exact nx (st_count b1 b2 b3 hy)) ho b7 b8 k18
  rw [if_neg c19]
  exact ⟨σ, hup, rfl⟩
theorem law_go (hL : L ≤ 1536) : ∀ (r p m : Nat) (σ : St) (c : Nat), L ≤ p + 3 * r → p ≤ L → c + r ≤ 512 → Inv L xs c σ → ∃ σ', s_L_law_18 (m + r + 1) 0 1 30 (I (p : Nat)) σ = some (1, σ') ∧ sn σ' ≤ 600000 ∧ sz σ' ≤ 7302250 := by
  intro r
  induction r with
  | zero =>
    intro p m σ c h1 h2 h3 h
    obtain ⟨ch, sl, t, f, s0, s1, S, b1, b2, b3, b4, b5, b6, b7, b8⟩ := h
    obtain ⟨hs, h54⟩ := b2.h54
    refine ⟨σ, ?_, by omega, by omega⟩
    rw [lp_law]
    unfold sb_L_law_18
    rw [if_pos (isA_0 (by omega) b7), al_0 b7, I_nI, show I ((L : Nat) : Int) - 3 = I ((L : Int) - 3) by rw [I_lit, I_sub], if_pos (by rw [I_lt (by omega) (by omega)]; omega)]
  | succ r ih =>
    intro p m σ c h1 h2 h3 h
    by_cases c3 : p + 3 ≤ L
    · obtain ⟨σ2, a1, a2⟩ := law_one hL c3 (by omega) h (s_L_law_18 (m + r + 1))
      obtain ⟨σ', d1, d2⟩ := ih (p + 3) m σ2 (c + 1) (by omega) c3 (by omega) a1
      exact ⟨σ', by rw [show m + (r + 1) + 1 = (m + r + 1) + 1 by omega, lp_law, a2, I_p3, d1], d2⟩
    · obtain ⟨ch, sl, t, f, s0, s1, S, b1, b2, b3, b4, b5, b6, b7, b8⟩ := h
      obtain ⟨hs, h54⟩ := b2.h54
      refine ⟨σ, ?_, by omega, by omega⟩
      rw [lp_law]
      unfold sb_L_law_18
      rw [if_pos (isA_0 (by omega) b7), al_0 b7, I_nI, show I ((L : Nat) : Int) - 3 = I ((L : Int) - 3) by rw [I_lit, I_sub], if_pos (by rw [I_lt (by omega) (by omega)]; omega)]
end
theorem law_pure0 (L : Nat) (xs : Nat → Int32) (hL : L ≤ 1536) : ∃ σ' : St, s_L_law 0 (stI L xs) = some (1, σ') ∧ sn σ' ≤ 600000 ∧ sz σ' ≤ 7302250 := by
  obtain ⟨σ0, a1, a2, a3, a4, a5, a6, a7, a8⟩ := begin_ L xs
  rw [a8]
  exact law_go hL 512 0 15487 σ0 0 (by omega) (by omega) (by omega) ⟨z0, z0, [], -6, none, none, 0, a1, a2, a3, by omega, by omega, by omega, a6, a7⟩
