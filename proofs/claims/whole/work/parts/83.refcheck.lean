/-! the reference checks a trial -/
def ckC : Nat → Nat → Prop := fun a k => (a = 30 ∧ (k = 30 ∨ k = 31 ∨ k = 32)) ∨ (48 ≤ a ∧ a ≤ 50)
def RunC (σ σ' : St) (n : Nat) : Prop := ∀ m, s_X11_checked_32 (m + n) 30 σ = s_X11_checked_32 m 30 σ'
theorem RunC.trans {σ σ1 σ2 : St} {a b : Nat} (h : RunC σ σ1 a) (g : RunC σ1 σ2 b) : RunC σ σ2 (a + b) := fun m => by
  rw [show m + (a + b) = (m + b) + a by omega, h, g]
def MK (ch κ : Nat → Nat) (N : Nat) (t : List Nat) (σ : St) : Prop := GM ch κ N σ ∧ MTr σ t
theorem MK.fr {ch κ : Nat → Nat} {N : Nat} {t : List Nat} {σ σ' : St} (h : MK ch κ N t σ) (hf : Fr ckC σ σ') : MK ch κ N t σ' :=
  ⟨h.1.fr hf (by unfold ckC; omega) (fun a k h1 h2 => by unfold ckC; omega), h.2.fr hf (by unfold ckC; omega) (fun k => by unfold ckC; omega)⟩
def KS (σ : St) (u dp : Nat) : Prop := sI σ 30 31 = I (u : Nat) ∧ sI σ 30 32 = I (dp : Nat)
theorem KS.fr {σ σ' : St} {C : Nat → Nat → Prop} {u dp : Nat} (h : KS σ u dp) (hf : Fr C σ σ') (h1 : ¬ C 30 31) (h2 : ¬ C 30 32) : KS σ' u dp := ⟨by rw [hf.i 30 31 h1]; exact h.1, by rw [hf.i 30 32 h2]; exact h.2⟩
def CRes (σ0 σ : St) (d B : Nat) (a : VR) : Prop := ∃ σ' n, n + 1 ≤ B ∧ KS σ' a.2.1 a.2.2 ∧ Fr ckC σ0 σ' ∧ ((a.1 = 0 ∧ RunC σ σ' n ∧ sI σ' 30 30 = I (d : Nat) ∧ Sb σ0 σ' d) ∨ (a.1 ≠ 0 ∧ ∀ m, s_X11_checked_32 (m + n) 30 σ = some (I (a.1 : Nat), σ')))
theorem CRes.step {σ τ σ1 : St} {d B B' : Nat} {a : VR} (h : CRes τ σ1 d B a) (f : Fr ckC σ τ) (sb : Sb σ τ d) (run : RunC σ σ1 1) (hB : B + 1 ≤ B') : CRes σ σ d B' a := by
  obtain ⟨σ', n, h1, h2, h3, h4⟩ := h
  refine ⟨σ', 1 + n, by omega, h2, f.trans h3, ?_⟩
  rcases h4 with ⟨g1, g2, g3, g4⟩ | ⟨g1, g2⟩
  · exact Or.inl ⟨g1, run.trans g2, g3, sb.trans g4⟩
  · refine Or.inr ⟨g1, fun m => ?_⟩
    rw [show m + (1 + n) = (m + n) + 1 by omega, run]
    exact g2 m
theorem CRes.leaf0 {σ σ1 : St} {d B u dp : Nat} (h : KS σ1 u dp) (f : Fr ckC σ σ1) (sb : Sb σ σ1 d) (hd : sI σ1 30 30 = I (d : Nat)) (run : RunC σ σ1 1) (hB : 2 ≤ B) : CRes σ σ d B (0, u, dp) :=
  ⟨σ1, 1, hB, h, f, Or.inl ⟨rfl, run, hd, sb⟩⟩
theorem CRes.leafV {σ σ1 : St} {d B v u dp : Nat} (h : KS σ1 u dp) (f : Fr ckC σ σ1) (hv : v ≠ 0) (run : ∀ m, s_X11_checked_32 (m + 1) 30 σ = some (I (v : Nat), σ1)) (hB : 2 ≤ B) : CRes σ σ d B (v, u, dp) :=
  ⟨σ1, 1, hB, h, f, Or.inr ⟨hv, run⟩⟩
def PC (ch κ : Nat → Nat) (N : Nat) (t : List Nat) (r : Nat) : Prop := ∀ c s d u dp σ, c < N → s < 256 → u ≤ t.length → dp ≤ 12 → MK ch κ N t σ → It σ d c s (13 - r) → sI σ 30 30 = I ((d + 1 : Nat) : Int) → d + r ≤ 40 → KS σ u dp → CRes σ σ d (2 ^ (r + 1)) (vis ch t r (κ c) s u dp)
theorem pc_one {ch κ : Nat → Nat} {N r : Nat} {t : List Nat} (ih : PC ch κ N t r) {c s d u dp : Nat} {τ : St} (hc : c < N) (hs2 : s < 256) (hu : u ≤ t.length) (hd : dp ≤ 12) (hm : MK ch κ N t τ) (hst : sI τ 30 30 = I (d : Nat)) (hd2 : d + r ≤ 40) (hk : KS τ u dp) :
    ∃ σ1, s_X11_await 30 (I (c : Nat)) (I (s : Nat)) (I ((13 - r : Nat) : Int)) τ = some ((), σ1) ∧ SS σ1 ∧ KS σ1 u dp ∧ Fr ckC τ σ1 ∧ CRes τ σ1 d (2 ^ (r + 1)) (vis ch t r (κ c) s u dp) := by
  have f1 := awS_fr (σ := τ) (d := d) (I (c : Nat)) (I (s : Nat)) (I ((13 - r : Nat) : Int))
  have f1' : Fr ckC τ (awS τ d (I (c : Nat)) (I (s : Nat)) (I ((13 - r : Nat) : Int))) := f1.mono (fun a k q => by unfold ckC; omega)
  obtain ⟨i1, i2⟩ := awS_it (σ := τ) (d := d) c s (13 - r)
  have hk1 := hk.fr f1 (by omega) (by omega)
  refine ⟨_, q_await hm.1.1 hst (by omega) _ _ _, f1.ss hm.1.1, hk1, f1', ?_⟩
  obtain ⟨σ', n, a1, a2, a3, a4⟩ := ih c s d u dp _ hc hs2 hu hd (hm.fr f1') i1 i2 hd2 hk1
  refine ⟨σ', n, a1, a2, f1'.trans a3, ?_⟩
  rcases a4 with ⟨g1, g2, g3, g4⟩ | g
  · exact Or.inl ⟨g1, g2, g3, (f1.sb (fun a i h1 h2 h3 => by omega)).trans g4⟩
  · exact Or.inr g
theorem pc_two {ch κ : Nat → Nat} {N r : Nat} {t : List Nat} (ih : PC ch κ N t r) {c1 s1 c2 s2 d u dp : Nat} {τ : St} (hc1 : c1 < N) (hs1 : s1 < 256) (hc2 : c2 < N) (hs2 : s2 < 256) (hu : u ≤ t.length) (hd : dp ≤ 12) (hm : MK ch κ N t τ) (hst : sI τ 30 30 = I (d : Nat)) (hd2 : d + r + 1 ≤ 40) (hk : KS τ u dp) :
    ∃ σ1, s_X11_await 30 (I (c2 : Nat)) (I (s2 : Nat)) (I ((13 - r : Nat) : Int)) τ = some ((), σ1) ∧ SS σ1 ∧ GM ch κ N σ1 ∧ ∃ σ2, s_X11_await 30 (I (c1 : Nat)) (I (s1 : Nat)) (I ((13 - r : Nat) : Int)) σ1 = some ((), σ2) ∧
      CRes τ σ2 d (2 ^ (r + 1) + 2 ^ (r + 1) - 1) (sq (vis ch t r (κ c1) s1 u dp) (fun u dp => vis ch t r (κ c2) s2 u dp)) := by
  have hp1 : 1 ≤ 2 ^ (r + 1) := Nat.one_le_two_pow
  have f1 := awS_fr (σ := τ) (d := d) (I (c2 : Nat)) (I (s2 : Nat)) (I ((13 - r : Nat) : Int))
  have f1' : Fr ckC τ (awS τ d (I (c2 : Nat)) (I (s2 : Nat)) (I ((13 - r : Nat) : Int))) := f1.mono (fun a k q => by unfold ckC; omega)
  obtain ⟨i1, i2⟩ := awS_it (σ := τ) (d := d) c2 s2 (13 - r)
  have hk1 := hk.fr f1 (by omega) (by omega)
  have hm1 := hm.fr f1'
  refine ⟨_, q_await hm.1.1 hst (by omega) _ _ _, f1.ss hm.1.1, hm1.1, ?_⟩
  obtain ⟨σ1, b1, _, _, b0, σ2, n1, b2, b3, b4, b5⟩ := pc_one ih hc1 hs1 hu hd hm1 i2 (by omega) hk1
  refine ⟨σ1, b1, ?_⟩
  have hv := vis_ok (ch := ch) (t := t) (r := r) (p := κ c1) (s := s1) hu hd
  generalize vis ch t r (κ c1) s1 u dp = a at *
  unfold sq
  rcases b5 with ⟨g1, g2, g3, g4⟩ | ⟨g1, g2⟩
  · rw [if_pos g1]
    have hm2 := hm1.fr b4
    obtain ⟨σ3, n2, d1, d2, d3, d4⟩ := ih c2 s2 d a.2.1 a.2.2 σ2 hc2 hs2 hv.1 hv.2.1 hm2 ⟨by rw [g4 48 d (by omega) (by omega) (by omega)]; exact i1.1, by rw [g4 49 d (by omega) (by omega) (by omega)]; exact i1.2.1, by rw [g4 50 d (by omega) (by omega) (by omega)]; exact i1.2.2⟩ g3 (by omega) b3
    refine ⟨σ3, n1 + n2, by omega, d2, (f1'.trans b4).trans d3, ?_⟩
    rcases d4 with ⟨e1, e2, e3, e4⟩ | ⟨e1, e2⟩
    · exact Or.inl ⟨e1, g2.trans e2, e3, ((f1.sb (fun a i h1 h2 h3 => by omega)).trans (g4.le (by omega))).trans e4⟩
    · refine Or.inr ⟨e1, fun m => ?_⟩
      rw [show m + (n1 + n2) = (m + n2) + n1 by omega, g2]
      exact e2 m
  · rw [if_neg g1]
    exact ⟨σ2, n1, by omega, b3, f1'.trans b4, Or.inr ⟨g1, g2⟩⟩
/-- one step of the loop -/
theorem ck_step {σ σ1 : St} (hs : SS σ) {d c s r dp w : Nat} (hr : r ≤ 11) (hd : d < 64) (hdp : dp ≤ 12) (hw : w ≤ 5) (hst : sI σ 30 30 = I ((d + 1 : Nat) : Int)) (hi : It σ d c s (12 - r)) (hk : sI σ 30 32 = I (dp : Nat))
    (ht : s_X11_checkOne 30 (I (c : Nat)) (I (s : Nat)) (I ((12 - r : Nat) : Int)) (setI (setI σ 30 30 (I (d : Nat))) 30 32 (I ((max dp (12 - r) : Nat) : Int))) = some (I (w : Nat), σ1)) : ∀ m, s_X11_checked_32 (m + 1) 30 σ = if w = 0 then s_X11_checked_32 m 30 σ1 else some (I (w : Nat), σ1) := by
  intro m
  obtain ⟨i1, i2, i3⟩ := hi
  show sb_X11_checked_32 (s_X11_checked_32 m) 30 σ = _
  unfold sb_X11_checked_32
  have hs1 := hs.i 30 30 (I (d : Nat))
  have hs2 := hs1.i 30 32 (I ((max dp (12 - r) : Nat) : Int))
  have e84 : s_X11_checked_84 (s_X11_checked_32 m) 30 (I ((12 - r : Nat) : Int)) 30 (I ((max dp (12 - r) : Nat) : Int)) (setI σ 30 30 (I (d : Nat))) = if w = 0 then s_X11_checked_32 m 30 σ1 else some (I (w : Nat), σ1) := by
    unfold s_X11_checked_84
    rw [if_pos (hs1.o 11 30 (by decide)), lt_eq, if_pos (hs2.o 11 30 (by decide)), hs2.p 30 27 48 (by decide), op_eq, if_pos (hs2.o 13 48 (by decide)), hs2.len 48 64 (by decide), sIn (x := 30) (y := 30) (by omega), sIe, if_pos (inN hd (by omega)), hs2.p 30 28 49 (by decide), op_eq, if_pos (hs2.o 13 49 (by decide)), hs2.len 49 64 (by decide), if_pos (inN hd (by omega)), tNI (by omega), sIn (x := 48) (by omega), sIn (x := 48) (by omega), sIn (x := 49) (by omega), sIn (x := 49) (by omega), i1, i2, ht, bd_eq]
    by_cases c0 : w = 0
    · rw [if_pos (by rw [c0]; decide), if_pos c0]
    · rw [if_neg (by rw [I_lit, I_le (by omega) (by omega)]; omega), if_neg c0]
  rw [if_pos (hs.o 11 30 (by decide)), hst, if_neg (by rw [I_lit, I_le (by omega) (by omega)]; omega), I_m1 (by omega), show d + 1 - 1 = d by omega, lt_eq, hs1.p 30 29 50 (by decide), op_eq, if_pos (hs1.o 13 50 (by decide)), hs1.len 50 64 (by decide), sIe, if_pos (inN hd (by omega)), tNI (by omega), sIn (x := 50) (by omega), i3, lt_eq, if_pos (by rw [I_lit, I_le (by omega) (by omega)]; omega), sIn (x := 30) (y := 32) (by omega), hk]
  by_cases c1 : 12 - r ≤ dp
  · rw [if_pos (by rw [I_le (by omega) (by omega)]; omega)]
    rw [show max dp (12 - r) = dp by omega] at e84
    exact e84
  · rw [if_neg (by rw [I_le (by omega) (by omega)]; omega)]
    rw [show max dp (12 - r) = 12 - r by omega] at e84
    exact e84
theorem pc_0 {ch κ : Nat → Nat} {N : Nat} {t : List Nat} : PC ch κ N t 0 := by
  intro c s d u dp σ hc hs2 hu hd hm hi hst hd2 hk
  have hs := hm.1.1
  have f0 : Fr (fun a k => a = 30 ∧ k = 30) σ (setI σ 30 30 (I (d : Nat))) := (Fr.refl σ).put _ ⟨rfl, rfl⟩
  refine CRes.leafV (σ1 := setI σ 30 30 (I (d : Nat))) (hk.fr f0 (by omega) (by omega)) (f0.mono (fun a k q => Or.inl ⟨q.1, Or.inl q.2⟩)) (by decide) (fun m => ?_) (by decide)
  obtain ⟨i1, i2, i3⟩ := hi
  have hs1 := hs.i 30 30 (I (d : Nat))
  show sb_X11_checked_32 (s_X11_checked_32 m) 30 σ = _
  unfold sb_X11_checked_32
  rw [if_pos (hs.o 11 30 (by decide)), hst, if_neg (by rw [I_lit, I_le (by omega) (by omega)]; omega), I_m1 (by omega), show d + 1 - 1 = d by omega, lt_eq, hs1.p 30 29 50 (by decide), op_eq, if_pos (hs1.o 13 50 (by decide)), hs1.len 50 64 (by decide), sIe, if_pos (inN (by omega) (by omega)), tNI (by omega), sIn (x := 50) (by omega), i3, lt_eq, if_neg (by decide)]
  rfl
