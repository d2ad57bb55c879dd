/-! where the law's loop begins -/
def iL : List (Nat × Nat × Int32) := [(30, 21, 1), (30, 2, -6), (1, 11, 1), (1, 10, -6), (29, 4, 0), (29, 3, 0), (29, 2, 0), (27, 1, 0), (25, 5, 0), (25, 4, 0), (25, 3, 0), (19, 4, 0), (13, 7, -1), (13, 6, 0), (13, 5, 0), (7, 7, -1), (7, 6, 0), (7, 5, 0), (2, 1, 0)]
def pL : List (Nat × Nat × Nat) := [(30, 35, 53), (30, 34, 52), (30, 33, 51), (30, 29, 50), (30, 28, 49), (30, 27, 48), (30, 25, 47), (30, 24, 46), (30, 23, 45), (30, 22, 44), (30, 17, 43), (30, 16, 42), (30, 15, 41), (30, 14, 40), (30, 13, 39), (30, 12, 38), (30, 11, 37), (30, 9, 36), (30, 8, 35), (30, 7, 34), (30, 3, 33), (30, 1, 32), (30, 0, 31), (1, 9, 29), (29, 1, 27), (29, 0, 13), (1, 8, 27), (27, 0, 28), (1, 7, 25), (25, 1, 19), (25, 0, 13), (25, 2, 26), (1, 6, 23), (23, 1, 19), (23, 0, 13), (23, 2, 24), (1, 5, 19), (19, 0, 13), (19, 3, 22), (19, 2, 21), (19, 1, 20), (1, 4, 13), (13, 4, 18), (13, 3, 17), (13, 2, 16), (13, 1, 15), (13, 0, 14), (1, 3, 7), (7, 4, 12), (7, 3, 11), (7, 2, 10), (7, 1, 9), (7, 0, 8), (1, 2, 6), (1, 1, 4), (4, 0, 5), (1, 0, 2), (2, 0, 3)]
def z0 : Nat → Nat := fun _ => 0
def stI (L : Nat) (xs : Nat → Int32) : St := (1, 0, fun _ => (13, L), fun _ i => xs i, fun _ _ => 0, fun _ _ => none)
theorem ds_0 (L : Nat) (xs : Nat → Int32) : Ds L xs 2 12 (fun _ => 0) [] [] (newC (stI L xs) 10 12) := by
  have hg : Gr (fun _ _ => False) (fun _ _ => False) (stI L xs) (newC (stI L xs) 10 12) := new_gr _ 10 12
  refine ⟨rfl, rfl, fun a q1 q2 => ?_, ⟨rfl, fun k => hg.2.2.1 0 k (show 0 < 1 by decide) id⟩, fun a k q1 q2 => ?_, fun a k q1 q2 => ?_, fun a k q1 q2 => ?_, fun q hq => (by cases hq), fun q hq => (by cases hq)⟩
  · obtain rfl : a = 1 := by omega
    rfl
  · obtain rfl : a = 1 := by omega
    rfl
  · obtain rfl : a = 1 := by omega
    rfl
  · obtain rfl : a = 1 := by omega
    rfl
theorem ctor (L : Nat) (xs : Nat → Int32) : ∃ σ0 σ', Ds L xs 54 208094 apT iL pL σ0 ∧ Fr F32 σ0 σ' ∧ (∀ x, x < 10 → sI σ' 32 x = I (-6)) ∧ s_L_law 0 (stI L xs) = s_L_law_18 16000 0 1 30 0 σ' := by
  obtain ⟨σ1, e1, h1⟩ := k_X10_init_0 (ds_0 L xs)
  obtain ⟨σ2, e2, σ0, h2, h3, h4⟩ := W_new (n2 := 31) (z2 := 158057) (f := fun σ => s_X11_init 30 σ) h1 (kd := 11) (ln := 36) (by decide) (by decide) (by decide) (fun q => absurd q (by decide)) (fun σ h => k_X11_init_10 h)
  refine ⟨σ0, σ2, h2, h3, h4, ?_⟩
  have e2' : s_X11_init 30 (newC σ1 11 36) = some ((), σ2) := e2
  unfold s_L_law
  rw [lt_eq, lt_eq]
  show bd (s_X10_init 1 (newC (stI L xs) 10 12)) _ = _
  rw [e1, bd_eq, lt_eq, lt_eq, h1.1, e2', bd_eq]
  rfl
theorem GI_z : GI z0 z0 := ⟨⟨fun s _ => ⟨Nat.zero_le _, fun i q => absurd q (Nat.not_lt_zero i), fun _ _ _ => rfl⟩, fun _ => Nat.zero_le _⟩, fun s _ q => absurd rfl q, by decide, by decide⟩
theorem st_pL : ∀ q ∈ stP, (1 ≤ q.1 ∧ q.1 < 54) ∧ lkP pL q.1 q.2.1 = some q.2.2 := by decide +kernel
theorem I_m6 : (-6 : Int32) = I (-6) := rfl
theorem begin_ (L : Nat) (xs : Nat → Int32) : ∃ σ', PS z0 z0 [] (-6) none none ∧ CR z0 z0 [] (-6) none none 0 σ' ∧ MR z0 z0 [] (-6) none none σ' ∧ sn σ' = 54 ∧ sz σ' = 208094 ∧ sh σ' 0 = (13, L) ∧ (∀ k, sI σ' 0 k = xs k) ∧ s_L_law 0 (stI L xs) = s_L_law_18 16000 0 1 30 0 σ' := by
  obtain ⟨σ0, σ', h, hf, h32, e⟩ := ctor L xs
  obtain ⟨h1, h2, h3, h4, h5, h6, h7, h8, h9⟩ := h
  have hs : SS σ' := by
    refine hf.ss ⟨by omega, fun a q1 q2 => h3 a q1 q2, fun q hq => ?_⟩
    obtain ⟨⟨c1, c2⟩, c3⟩ := st_pL q hq
    rw [h7 q.1 q.2.1 c1 c2, c3]
  have i : ∀ a k, 1 ≤ a → a < 54 → a ≠ 32 ∨ 10 ≤ k → sI σ' a k = lkI iL a k := fun a k q1 q2 q3 => by
    rw [hf.i a k (by unfold F32; omega), h5 a k q1 q2]
  have iz : ∀ a k, 1 ≤ a → a < 54 → a ≠ 32 ∨ 10 ≤ k → (∀ q ∈ iL, q.1 ≠ a) → sI σ' a k = 0 := fun a k q1 q2 q3 q4 => by rw [i a k q1 q2 q3, lkI_no iL q4]
  have l : ∀ a k, 1 ≤ a → a < 54 → a ≠ 22 → sL σ' a k = 0 := fun a k q1 q2 q3 => by rw [hf.2.2.2.1, h6 a k q1 q2, if_neg q3]
  have pn : ∀ a k, 1 ≤ a → a < 54 → (∀ q ∈ pL, q.1 ≠ a) → sP σ' a k = none := fun a k q1 q2 q3 => by rw [hf.p, h7 a k q1 q2, lkP_no pL q3]
  have hA : Apt σ' := fun x y hx hy => by
    rw [hf.2.2.2.1, h6 22 x (by decide) (by decide), if_pos rfl]
    show gb (if x < 64 then apP x 64 else _) y = _
    rw [if_pos hx, gb_apP x 64 (by decide) y hy]
    exact decide_eq_decide.2 ⟨fun q => q.2, fun q => ⟨hy, q⟩⟩
  have hK : K (wCh z0) (wSl z0) 0 σ' := by
    refine Or.inr ⟨⟨hs, hA, fun k _ => l 20 k (by decide) (by decide) (by decide), fun s hs10 => ?_⟩, i 1 11 (by decide) (by decide) (by decide), l 23 3 (by decide) (by decide) (by decide), fun k _ => ⟨0, 0, l 24 k (by decide) (by decide) (by decide), by decide, by decide⟩⟩
    rw [if_pos (show wSl z0 s = 0 from wSl_s z0 hs10)]
    exact pn 5 s (by decide) (by decide) (by decide)
  refine ⟨σ', ⟨GI_z, ⟨by decide, fun x q => (by cases q)⟩, rfl, fun x q => (by cases q), fun x q => (by cases q)⟩, ⟨hK, ⟨i 2 1 (by decide) (by decide) (by decide), fun x q => absurd q (Nat.not_lt_zero x)⟩, ⟨i 27 1 (by decide) (by decide) (by decide), fun x v q => (by simp at q)⟩, i 1 10 (by decide) (by decide) (by decide), ⟨0, 0, 0, 0, pn 6 0 (by decide) (by decide) (by decide), pn 6 1 (by decide) (by decide) (by decide), fun q => (by cases q)⟩⟩, ⟨⟨⟨hs, fun s q => ?_, fun s q x hx => absurd hx (Nat.not_lt_zero x)⟩, iz 32 10 (by decide) (by decide) (by decide) (by decide), fun x hx => absurd hx (Nat.not_lt_zero x)⟩, Or.inl (i 30 21 (by decide) (by decide) (by decide)), ⟨i 30 4 (by decide) (by decide) (by decide), fun x v q => (by simp at q)⟩, i 30 2 (by decide) (by decide) (by decide), iz 53 0 (by decide) (by decide) (by decide) (by decide), iz 53 1 (by decide) (by decide) (by decide) (by decide)⟩, by rw [hf.1, h1], by rw [hf.2.1, h2], by rw [hf.2.2.1]; exact h4.1, fun k => by rw [hf.i 0 k (by unfold F32; omega)]; exact h4.2 k, e⟩
  rw [if_pos (show z0 s = 0 from rfl)]
  exact h32 s q
