/-! the reference lays the first proof: a stack of goals -/
def lwC : Nat → Nat → Prop := fun a k => (a = 30 ∧ (k = 26 ∨ k = 30)) ∨ (47 ≤ a ∧ a ≤ 50)
def MW (ch κ : Nat → Nat) (N : Nat) (σ : St) : Prop := GM ch κ N σ ∧ LV N (lA ch κ 10) σ
theorem MW.fr {ch κ : Nat → Nat} {N : Nat} {σ σ' : St} {C : Nat → Nat → Prop} (h : MW ch κ N σ) (hf : Fr C σ σ') (h1 : ¬ C 30 5) (h2 : ∀ a k, 34 ≤ a → a ≤ 39 → ¬ C a k) (h3 : ∀ k, ¬ C 44 k) : MW ch κ N σ' :=
  ⟨h.1.fr hf h1 h2, fun i hi => by rw [hf.i 44 i (h3 i)]; exact h.2 i hi⟩
theorem MW.bm {ch κ : Nat → Nat} {N : Nat} {σ : St} (h : MW ch κ N σ) {g : Nat} (hg : g ≤ 9) : BM κ N (I ((g + 1 : Nat) : Int)) (Lv ch one g) σ :=
  BM_of (h := g + 1) h.1.1 h.1.2.1 (by omega) (by omega) h.2 (fun i _ => by
    have a := lA_le (ch := ch) (κ := κ) (h := 10) (i := i)
    have b := lA_ok (ch := ch) (κ := κ) (h := 10) (i := i) (g := g) (by omega)
    refine ⟨by omega, ?_⟩
    rw [show g + 1 - 1 = g by omega, ← b]
    omega)
def awS (σ : St) (d : Nat) (a b c : Int32) : St := setI (setI (setI (setI σ 48 d a) 49 d b) 50 d c) 30 30 (I ((d + 1 : Nat) : Int))
theorem q_await {σ : St} (hs : SS σ) {d : Nat} (h : sI σ 30 30 = I (d : Nat)) (hd : d < 64) (a b c : Int32) : s_X11_await 30 a b c σ = some ((), awS σ d a b c) := by
  unfold s_X11_await awS
  rw [if_pos (hs.o 11 30 (by decide)), hs.p 30 27 48 (by decide), op_eq, if_pos (hs.o 13 48 (by decide)), hs.len 48 64 (by decide), h, if_pos (inN hd (by omega)), tNI (by omega), lt_eq]
  have hs1 := hs.i 48 d a
  rw [hs1.p 30 28 49 (by decide), op_eq, if_pos (hs1.o 13 49 (by decide)), hs1.len 49 64 (by decide), sIn (by omega), h, if_pos (inN hd (by omega)), tNI (by omega), lt_eq]
  have hs2 := hs1.i 49 d b
  rw [hs2.p 30 29 50 (by decide), op_eq, if_pos (hs2.o 13 50 (by decide)), hs2.len 50 64 (by decide), sIn (by omega), sIn (by omega), h, if_pos (inN hd (by omega)), tNI (by omega), lt_eq, sIn (by omega), sIn (by omega), sIn (by omega), h, I_p1, lt_eq]
theorem awS_fr {σ : St} {d : Nat} (a b c : Int32) : Fr (fun x k => (x = 30 ∧ k = 30) ∨ (48 ≤ x ∧ x ≤ 50 ∧ k = d)) σ (awS σ d a b c) := by
  unfold awS
  exact ((((Fr.refl σ).put _ (Or.inr ⟨by omega, by omega, rfl⟩)).put _ (Or.inr ⟨by omega, by omega, rfl⟩)).put _ (Or.inr ⟨by omega, by omega, rfl⟩)).put _ (Or.inl ⟨rfl, rfl⟩)
/-- a goal lies on top -/
def It (σ : St) (d : Nat) (c s h : Nat) : Prop := sI σ 48 d = I (c : Nat) ∧ sI σ 49 d = I (s : Nat) ∧ sI σ 50 d = I (h : Nat)
theorem awS_it {σ : St} {d : Nat} (c s h : Nat) : It (awS σ d (I (c : Nat)) (I (s : Nat)) (I (h : Nat))) d c s h ∧ sI (awS σ d (I (c : Nat)) (I (s : Nat)) (I (h : Nat))) 30 30 = I ((d + 1 : Nat) : Int) := by
  unfold awS It
  refine ⟨⟨?_, ?_, ?_⟩, sIe⟩
  · rw [sIn (by omega), sIn (by omega), sIn (by omega), sIe]
  · rw [sIn (by omega), sIn (by omega), sIe]
  · rw [sIn (by omega), sIe]
theorem It.fr {σ σ' : St} {C : Nat → Nat → Prop} {d c s h : Nat} (hi : It σ d c s h) (hf : Fr C σ σ') (hc : ∀ a, 48 ≤ a → a ≤ 50 → ¬ C a d) : It σ' d c s h :=
  ⟨by rw [hf.i 48 d (hc 48 (by omega) (by omega))]; exact hi.1, by rw [hf.i 49 d (hc 49 (by omega) (by omega))]; exact hi.2.1, by rw [hf.i 50 d (hc 50 (by omega) (by omega))]; exact hi.2.2⟩
def RWl (σ : St) (l : List Nat) : Prop := sI σ 30 26 = I (l.length : Nat) ∧ ∀ i v : Nat, l[i]? = some v → sI σ 47 i = I (v : Nat)
theorem RWl.fr {σ σ' : St} {C : Nat → Nat → Prop} {l : List Nat} (h : RWl σ l) (hf : Fr C σ σ') (h1 : ¬ C 30 26) (h2 : ∀ k, ¬ C 47 k) : RWl σ' l :=
  ⟨by rw [hf.i 30 26 h1]; exact h.1, fun i v hi => by rw [hf.i 47 i (h2 i)]; exact h.2 i v hi⟩
def tlC : Nat → Nat → Prop := fun a k => (a = 30 ∧ k = 26) ∨ a = 47
theorem q_tell {σ : St} (hs : SS σ) {l : List Nat} (h : RWl σ l) (hl : l.length < 1024) (n : Nat) : ∃ σ', s_X11_tell 30 (I (n : Nat)) σ = some ((), σ') ∧ Fr tlC σ σ' ∧ RWl σ' (l ++ [n]) := by
  obtain ⟨h1, h2⟩ := h
  refine ⟨setI (setI σ 47 l.length (I (n : Nat))) 30 26 (I ((l.length + 1 : Nat) : Int)), ?_, ((Fr.refl σ).put _ (Or.inr rfl)).put _ (Or.inl ⟨rfl, rfl⟩), ?_, fun i v hi => ?_⟩
  · unfold s_X11_tell
    rw [if_pos (hs.o 11 30 (by decide)), hs.p 30 25 47 (by decide), op_eq, if_pos (hs.o 13 47 (by decide)), hs.len 47 1024 (by decide), h1, if_pos (inN hl (by omega)), tNI (by omega), lt_eq, sIn (by omega), h1, I_p1, lt_eq]
  · rw [sIe, List.length_append]; rfl
  · rw [sIn (by omega)]
    rw [List.getElem?_append] at hi
    by_cases c : i < l.length
    · rw [if_pos c] at hi
      rw [sIn (by omega)]
      exact h2 i v hi
    · rw [if_neg c] at hi
      have : i - l.length = 0 := by
        cases e : i - l.length with
        | zero => rfl
        | succ x => rw [e] at hi; cases hi
      rw [this] at hi
      obtain rfl : n = v := Option.some.inj hi
      rw [show i = l.length by omega, sIe]
def Run (σ σ' : St) (n : Nat) : Prop := ∀ m, s_X11_layWay_47 (m + n) 30 σ = s_X11_layWay_47 m 30 σ'
theorem Run.trans {σ σ1 σ2 : St} {a b : Nat} (h : Run σ σ1 a) (g : Run σ1 σ2 b) : Run σ σ2 (a + b) := fun m => by
  rw [show m + (a + b) = (m + b) + a by omega, h, g]
theorem run_1 {σ σ1 : St} (hs : SS σ) {d c s h : Nat} (hd : d < 64) (hst : sI σ 30 30 = I ((d + 1 : Nat) : Int)) (hi : It σ d c s h) (ht : s_X11_tellOne 30 (I (c : Nat)) (I (s : Nat)) (I (h : Nat)) (setI σ 30 30 (I (d : Nat))) = some ((), σ1)) : Run σ σ1 1 := by
  intro m
  obtain ⟨i1, i2, i3⟩ := hi
  show sb_X11_layWay_47 (s_X11_layWay_47 m) 30 σ = _
  unfold sb_X11_layWay_47
  have hs1 := hs.i 30 30 (I (d : Nat))
  rw [if_pos (hs.o 11 30 (by decide)), hst, if_neg (by rw [I_lit, I_le (by omega) (by omega)]; omega), I_m1 (by omega), show d + 1 - 1 = d by omega, lt_eq, hs1.p 30 27 48 (by decide), op_eq, if_pos (hs1.o 13 48 (by decide)), hs1.len 48 64 (by decide), sIe, if_pos (inN hd (by omega)), hs1.p 30 28 49 (by decide), op_eq, if_pos (hs1.o 13 49 (by decide)), hs1.len 49 64 (by decide), if_pos (inN hd (by omega)), hs1.p 30 29 50 (by decide), op_eq, if_pos (hs1.o 13 50 (by decide)), hs1.len 50 64 (by decide), if_pos (inN hd (by omega)), tNI (by omega), sIn (by omega), sIn (by omega), sIn (by omega), i1, i2, i3, ht, bd_eq]
def Sb (σ σ' : St) (d : Nat) : Prop := ∀ a i, 48 ≤ a → a ≤ 50 → i < d → sI σ' a i = sI σ a i
theorem Sb.trans {σ σ1 σ2 : St} {d : Nat} (h : Sb σ σ1 d) (g : Sb σ1 σ2 d) : Sb σ σ2 d := fun a i h1 h2 h3 => (g a i h1 h2 h3).trans (h a i h1 h2 h3)
theorem Sb.le {σ σ1 : St} {d e : Nat} (h : Sb σ σ1 e) (hd : d ≤ e) : Sb σ σ1 d := fun a i h1 h2 h3 => h a i h1 h2 (by omega)
theorem Fr.sb {σ σ' : St} {C : Nat → Nat → Prop} {d : Nat} (hf : Fr C σ σ') (hc : ∀ a i, 48 ≤ a → a ≤ 50 → i < d → ¬ C a i) : Sb σ σ' d := fun a i h1 h2 h3 => hf.i a i (hc a i h1 h2 h3)
def PW (ch κ : Nat → Nat) (N h : Nat) : Prop := ∀ c s d σ l, c < N → s < 256 → Lv ch one h (κ c) s = true → MW ch κ N σ → It σ d c s h → sI σ 30 30 = I ((d + 1 : Nat) : Int) → d + h ≤ 40 → RWl σ l → l.length + 2 ^ h ≤ 1024 →
  ∃ σ' n, n + 1 ≤ 2 ^ h ∧ Run σ σ' n ∧ sI σ' 30 30 = I (d : Nat) ∧ RWl σ' (l ++ wr ch h (κ c) s) ∧ Sb σ σ' d ∧ Fr lwC σ σ'
theorem MW.lw {ch κ : Nat → Nat} {N : Nat} {σ σ' : St} (h : MW ch κ N σ) (hf : Fr lwC σ σ') : MW ch κ N σ' := h.fr hf (by unfold lwC; omega) (fun a k h1 h2 => by unfold lwC; omega) (fun k => by unfold lwC; omega)
/-- a goal is put on top, and is worked off -/
theorem pw_one {ch κ : Nat → Nat} {N h : Nat} (ih : PW ch κ N h) {c s d : Nat} {τ : St} {l : List Nat} (hc : c < N) (hs2 : s < 256) (hl : Lv ch one h (κ c) s = true) (hm : MW ch κ N τ) (hd : sI τ 30 30 = I (d : Nat)) (hd2 : d + h ≤ 40) (hr : RWl τ l) (hlen : l.length + 2 ^ h ≤ 1024) :
    ∃ σ1, s_X11_await 30 (I (c : Nat)) (I (s : Nat)) (I (h : Nat)) τ = some ((), σ1) ∧ ∃ σ' n, n + 1 ≤ 2 ^ h ∧ Run σ1 σ' n ∧ sI σ' 30 30 = I (d : Nat) ∧ RWl σ' (l ++ wr ch h (κ c) s) ∧ Sb τ σ' d ∧ Fr lwC τ σ' := by
  have f1 := awS_fr (σ := τ) (d := d) (I (c : Nat)) (I (s : Nat)) (I (h : Nat))
  have f1' : Fr lwC τ (awS τ d (I (c : Nat)) (I (s : Nat)) (I (h : Nat))) := f1.mono (fun a k q => by unfold lwC; omega)
  obtain ⟨i1, i2⟩ := awS_it (σ := τ) (d := d) c s h
  refine ⟨_, q_await hm.1.1 hd (by omega) _ _ _, ?_⟩
  obtain ⟨σ', n, a1, a2, a3, a4, a5, a6⟩ := ih c s d _ l hc hs2 hl (hm.lw f1') i1 i2 hd2 (hr.fr f1 (by omega) (fun k => by omega)) hlen
  exact ⟨σ', n, a1, a2, a3, a4, (f1.sb (fun a i h1 h2 h3 => by omega)).trans a5, f1'.trans a6⟩
/-- two goals are put on top: the second below the first -/
theorem pw_two {ch κ : Nat → Nat} {N h : Nat} (ih : PW ch κ N h) {c1 s1 c2 s2 d : Nat} {τ : St} {l : List Nat} (hc1 : c1 < N) (hs1 : s1 < 256) (hl1 : Lv ch one h (κ c1) s1 = true) (hc2 : c2 < N) (hs2 : s2 < 256) (hl2 : Lv ch one h (κ c2) s2 = true) (hm : MW ch κ N τ) (hd : sI τ 30 30 = I (d : Nat)) (hd2 : d + h + 1 ≤ 40) (hr : RWl τ l) (hlen : l.length + 2 ^ h + 2 ^ h ≤ 1024 + 1) :
    ∃ σ1, s_X11_await 30 (I (c2 : Nat)) (I (s2 : Nat)) (I (h : Nat)) τ = some ((), σ1) ∧ SS σ1 ∧ ∃ σ2, s_X11_await 30 (I (c1 : Nat)) (I (s1 : Nat)) (I (h : Nat)) σ1 = some ((), σ2) ∧
      ∃ σ' n, n + 2 ≤ 2 ^ h + 2 ^ h ∧ Run σ2 σ' n ∧ sI σ' 30 30 = I (d : Nat) ∧ RWl σ' (l ++ (wr ch h (κ c1) s1 ++ wr ch h (κ c2) s2)) ∧ Sb τ σ' d ∧ Fr lwC τ σ' := by
  have hp1 : 1 ≤ 2 ^ h := Nat.one_le_two_pow
  have hlen1 := wr_len (ch := ch) (h := h) (p := κ c1) (s := s1)
  have f1 := awS_fr (σ := τ) (d := d) (I (c2 : Nat)) (I (s2 : Nat)) (I (h : Nat))
  have f1' : Fr lwC τ (awS τ d (I (c2 : Nat)) (I (s2 : Nat)) (I (h : Nat))) := f1.mono (fun a k q => by unfold lwC; omega)
  obtain ⟨i1, i2⟩ := awS_it (σ := τ) (d := d) c2 s2 h
  refine ⟨_, q_await hm.1.1 hd (by omega) _ _ _, f1.ss hm.1.1, ?_⟩
  obtain ⟨σ1, b1, σ2, n1, b2, b3, b4, b5, b6, b7⟩ := pw_one ih hc1 hs1 hl1 (hm.lw f1') i2 (by omega) (hr.fr f1 (by omega) (fun k => by omega)) (by omega)
  obtain ⟨σ3, n2, d1, d2, d3, d4, d5, d6⟩ := ih c2 s2 d σ2 _ hc2 hs2 hl2 ((hm.lw f1').lw b7) ⟨by rw [b6 48 d (by omega) (by omega) (by omega)]; exact i1.1, by rw [b6 49 d (by omega) (by omega) (by omega)]; exact i1.2.1, by rw [b6 50 d (by omega) (by omega) (by omega)]; exact i1.2.2⟩ b4 (by omega) b5 (by rw [List.length_append]; omega)
  refine ⟨σ1, b1, σ3, n1 + n2, by omega, b3.trans d2, d3, ?_, ((f1.sb (fun a i h1 h2 h3 => by omega)).trans (b6.le (by omega))).trans d5, (f1'.trans b7).trans d6⟩
  rw [← List.append_assoc]
  exact d4
theorem mk_at {c : Nat} (h : isAt c = true) : mk c = 0 := by
  have := isAt_iff.1 h
  unfold mk
  rw [if_neg (by omega), if_neg (by omega), if_neg (by omega), if_neg (by omega), if_neg (by omega), if_neg (by omega), if_neg (by omega)]
theorem d10 {k : Nat} (hk : k < 100000) : I (k : Nat) / 10 = I ((k / 10 : Nat) : Int) := by rw [show (10 : Int32) = I ((10 : Nat) : Int) from rfl, I_div (by omega) (by omega)]
theorem r10 {k : Nat} : I (k : Nat) - I ((k / 10 : Nat) : Int) * 10 = I ((k % 10 : Nat) : Int) := by
  rw [I_lit, I_mul, I_sub]
  exact congrArg I (by omega)
theorem numK_o {k : Nat} (hk : k < 36) : (if numK k < 100 then numK k / 10 else 8 + (numK k - 100) / 10) = k / 3 ∧ numK k % 10 = k % 3 ∧ (numK k < 100 ↔ k < 24) := by
  unfold numK
  by_cases c : k < 24
  · rw [if_pos c, if_pos (by omega)]; omega
  · rw [if_neg c, if_neg (by omega)]; omega
