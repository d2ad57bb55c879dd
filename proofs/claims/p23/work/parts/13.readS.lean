/-! the class's reader over a text without a fault: where it stops, how many nodes and loans, and what the plan then holds -/
def At (rd pl : Nat) (σ : St) (p N lam : Nat) : Prop := sI σ rd 2 = I (p : Nat) ∧ sI σ rd 3 = I (-6) ∧ sI σ pl 5 = I (N : Nat) ∧ sI σ pl 6 = I (lam : Nat)
def nodeOK (ch : Nat → Nat) (pl : Nat) (κ : Nat → Nat) (σ : St) (c : Nat) : Prop :=
  sI σ (pl + 1) c = I (kd ch (κ c) : Nat) ∧
  ((ch (κ c) = 33 ∨ ch (κ c) = 40 ∨ ch (κ c) = 91) → ∃ c1 : Nat, c1 < c ∧ sI σ (pl + 2) c = I (c1 : Nat) ∧ κ c1 = ch1 ch (κ c)) ∧
  (ch (κ c) = 40 → ∃ c2 : Nat, c2 < c ∧ sI σ (pl + 3) c = I (c2 : Nat) ∧ κ c2 = ch2 ch (κ c)) ∧
  (ch (κ c) = 91 → sI σ (pl + 3) c = I (ln ch (κ c) : Nat) ∧ ln ch (κ c) < 8 ∧ κ c < 640) ∧
  (isAt (ch (κ c)) = true ∨ ch (κ c) = 49 ∨ ch (κ c) = 84 ∨ ch (κ c) = 33 ∨ ch (κ c) = 40 ∨ ch (κ c) = 91) ∧
  (ch (κ c) = 40 → isOp (kd ch (κ c)) = true)
def faceOK (ch : Nat → Nat) (pl : Nat) (κ : Nat → Nat) (σ : St) (N o f : Nat) (q : Option Nat) : Prop := match q with
  | none => sI σ (pl + 4) (o * 3 + f) = I 0 ∧ sI σ (pl + 5) (o * 3 + f) = I (-1)
  | some q => sI σ (pl + 4) (o * 3 + f) = I (ch q : Nat) ∧ isAt (ch q) = true ∧ (if ch (q + 1) = 60 then ∃ c : Nat, c < N ∧ sI σ (pl + 5) (o * 3 + f) = I (c : Nat) ∧ κ c = q + 2 else sI σ (pl + 5) (o * 3 + f) = I (-1))
def Str (ch : Nat → Nat) (pl : Nat) (κ : Nat → Nat) (φ : Nat → Nat → Option Nat) (σ : St) (N lam P : Nat) : Prop :=
  (∀ c, c < N → nodeOK ch pl κ σ c) ∧ (∀ o f, o < 12 → f < 3 → faceOK ch pl κ σ N o f (φ o f)) ∧ lam = cntB ch P ∧ (∀ o f, 5 + lam ≤ o → o < 8 → f < 3 → φ o f = none)
def loanF (ch : Nat → Nat) (o f : Nat) : Option Nat := match nthB ch (o - 5) 640 with
  | none => none
  | some Q => fpos ch (Q + 1) f
def upL (ch : Nat → Nat) (φ : Nat → Nat → Option Nat) (a e : Nat) : Nat → Nat → Option Nat := fun o f => if 5 + a ≤ o ∧ o < 5 + e then loanF ch o f else φ o f
def set1 (φ : Nat → Nat → Option Nat) (o f q : Nat) : Nat → Nat → Option Nat := fun x y => if x = o ∧ y = f then some q else φ x y
theorem upL_self (ch : Nat → Nat) (φ : Nat → Nat → Option Nat) (a : Nat) : upL ch φ a a = φ := by
  funext o f
  unfold upL
  rw [if_neg (by omega)]
theorem upL_upL (ch : Nat → Nat) (φ : Nat → Nat → Option Nat) {a e g : Nat} (h1 : a ≤ e) (h2 : e ≤ g) : upL ch (upL ch φ a e) e g = upL ch φ a g := by
  funext o f
  unfold upL
  by_cases c1 : 5 + e ≤ o ∧ o < 5 + g
  · rw [if_pos c1, if_pos (by omega)]
  · rw [if_neg c1]
    by_cases c2 : 5 + a ≤ o ∧ o < 5 + e
    · rw [if_pos c2, if_pos (by omega)]
    · rw [if_neg c2, if_neg (by omega)]
theorem cntB_step {ch : Nat → Nat} {P : Nat} (h : ch P ≠ 91) : cntB ch (P + 1) = cntB ch P := by
  show cntB ch P + (if ch P = 91 then 1 else 0) = _
  rw [if_neg h]; rfl
theorem cntB_step1 {ch : Nat → Nat} {P : Nat} (h : ch P = 91) : cntB ch (P + 1) = cntB ch P + 1 := by
  show cntB ch P + (if ch P = 91 then 1 else 0) = _
  rw [if_pos h]
theorem cntB_mono {ch : Nat → Nat} {P Q : Nat} (h : P ≤ Q) : cntB ch P ≤ cntB ch Q := by
  induction h with
  | refl => exact Nat.le_refl _
  | step h ih =>
    refine Nat.le_trans ih ?_
    show _ ≤ cntB ch _ + _
    omega
theorem nthB_spec {ch : Nat → Nat} {Q : Nat} (h : ch Q = 91) : ∀ m, Q < m → nthB ch (cntB ch Q) m = some Q := by
  intro m
  induction m with
  | zero => intro h; omega
  | succ m ih =>
    intro hm
    unfold nthB
    by_cases e : Q = m
    · subst e; rw [if_pos ⟨h, rfl⟩]
    · rw [if_neg, ih (by omega)]
      rintro ⟨h1, h2⟩
      have h3 := cntB_mono (ch := ch) (show Q + 1 ≤ m by omega)
      rw [cntB_step1 h] at h3
      omega
theorem Str.mv {ch : Nat → Nat} {pl : Nat} {κ : Nat → Nat} {φ : Nat → Nat → Option Nat} {σ σ' : St} {N lam P P' : Nat} (h : Str ch pl κ φ σ N lam P) (hr : ∀ a, pl + 1 ≤ a → a ≤ pl + 5 → sI σ' a = sI σ a) (hc : cntB ch P' = cntB ch P) : Str ch pl κ φ σ' N lam P' := by
  obtain ⟨h1, h2, h3, h4⟩ := h
  refine ⟨fun c hc => ?_, fun o f ho hf => ?_, by rw [hc]; exact h3, h4⟩
  · have := h1 c hc
    unfold nodeOK at this ⊢
    rw [hr (pl + 1) (by omega) (by omega), hr (pl + 2) (by omega) (by omega), hr (pl + 3) (by omega) (by omega)]
    exact this
  · have := h2 o f ho hf
    unfold faceOK at this ⊢
    rw [hr (pl + 4) (by omega) (by omega), hr (pl + 5) (by omega) (by omega)]
    exact this
def PostS (ch : Nat → Nat) (rd pl b : Nat) (σ σ' : St) (N lam : Nat) (R : PR) : Prop :=
  Fr (rdC rd pl) σ σ' ∧ b ≤ R.2.1 ∧ At rd pl σ' (R.2.1 - b) (N + R.2.2.1) (lam + R.2.2.2)
def SGoal (ch : Nat → Nat) (rd ca pl b n F : Nat) (kg : Nat → Int32 → St → Option (Int32 × St)) : Prop :=
  ∀ (σ : St) (d p N lam : Nat), RC ch rd ca pl b n σ → At rd pl σ p N lam → p ≤ n → 1 ≤ d → d ≤ p + 1 → 62 ≤ F + p → (pgoal ch F (b + p)).1 = true → N + (pgoal ch F (b + p)).2.2.1 ≤ 60 → lam ≤ 1000 + p →
    ∃ σ' : St, kg rd (I d) σ = some (I (N + (pgoal ch F (b + p)).2.2.1 - 1 : Int), σ') ∧ 1 ≤ (pgoal ch F (b + p)).2.2.1 ∧ PostS ch rd pl b σ σ' N lam (pgoal ch F (b + p)) ∧
      ∀ κ φ, Str ch pl κ φ σ N lam (b + p) → lam + (pgoal ch F (b + p)).2.2.2 ≤ 3 → b + n < 640 →
        ∃ κ' : Nat → Nat, (∀ c, c < N → κ' c = κ c) ∧ Str ch pl κ' (upL ch φ lam (lam + (pgoal ch F (b + p)).2.2.2)) σ' (N + (pgoal ch F (b + p)).2.2.1) (lam + (pgoal ch F (b + p)).2.2.2) (pgoal ch F (b + p)).2.1 ∧ κ' (N + (pgoal ch F (b + p)).2.2.1 - 1) = b + p
theorem hm1 : (-1 : Int32) = I (-1) := by decide
theorem I_s (p : Nat) : I (p : Int) + 1 = I ((p + 1 : Nat) : Int) := by rw [I_lit, I_add]; rfl
theorem rd_pl {rd pl : Nat} (h : 30 ≤ rd) (hp : pl = 7 ∨ pl = 13) : ∀ a, pl ≤ a → a ≤ pl + 5 → a ≠ rd := fun a h1 h2 => by omega
/-- one place on -/
theorem step_at {ch : Nat → Nat} {rd ca pl b n p N lam : Nat} {σ : St} (h : RC ch rd ca pl b n σ) (ha : At rd pl σ p N lam) :
    At rd pl (setI σ rd 2 (I ((p + 1 : Nat) : Int))) (p + 1) N lam ∧ Fr (rdC rd pl) σ (setI σ rd 2 (I ((p + 1 : Nat) : Int))) ∧ RC ch rd ca pl b n (setI σ rd 2 (I ((p + 1 : Nat) : Int))) ∧ ∀ a, pl + 1 ≤ a → a ≤ pl + 5 → sI (setI σ rd 2 (I ((p + 1 : Nat) : Int))) a = sI σ a := by
  have hne := rd_pl h.2.2.1.1 h.2.1
  have hf : Fr (rdC rd pl) σ (setI σ rd 2 (I ((p + 1 : Nat) : Int))) := (Fr.refl σ).put _ (Or.inl ⟨rfl, Or.inl rfl⟩)
  obtain ⟨a1, a2, a3, a4⟩ := ha
  have n1 := hne pl (by omega) (by omega)
  refine ⟨⟨?_, ?_, ?_, ?_⟩, hf, h.fr hf, fun a h1 h2 => ?_⟩
  · rw [sI_I, if_pos ⟨rfl, rfl⟩]
  · rw [sI_I, if_neg (by omega)]; exact a2
  · rw [sI_I, if_neg (by omega)]; exact a3
  · rw [sI_I, if_neg (by omega)]; exact a4
  · exact up2_ne (hne a (by omega) (by omega))
theorem setF_eq {pl o f : Nat} {c b : Int32} {σ : St} (ho : o < 12) (hf : f < 3) : setF pl (o : Int) (f : Int) c b σ = setI (setI σ (pl + 4) (o * 3 + f) ((c.toUInt32 % 65536).toInt32)) (pl + 5) (o * 3 + f) b := by
  unfold setF
  rw [if_pos (by omega), show ((o : Int) * 3 + f).toNat = o * 3 + f by omega]
theorem Fr.setF {rd pl : Nat} {σ σ1 : St} (h : Fr (rdC rd pl) σ σ1) (o f : Int) (c b : Int32) : Fr (rdC rd pl) σ (setF pl o f c b σ1) := by
  show Fr _ _ (if _ then _ else _)
  split
  · exact (h.put _ (Or.inr ⟨by omega, by omega, fun _ => by omega⟩)).put _ (Or.inr ⟨by omega, by omega, fun _ => by omega⟩)
  · exact h
theorem setF_other {pl : Nat} {σ : St} (o f : Int) (c b : Int32) (a k : Nat) (h : a ≠ pl + 4 ∧ a ≠ pl + 5) : sI (setF pl o f c b σ) a k = sI σ a k := by
  show sI (if _ then _ else _) a k = _
  split
  · rw [sI_I, if_neg (by omega), sI_I, if_neg (by omega)]
  · rfl
/-- a face -/
theorem s_face {ch : Nat → Nat} {rd ca pl b n F : Nat} {kg : Nat → Int32 → St → Option (Int32 × St)} (hk : SGoal ch rd ca pl b n F kg) {σ : St} {d p N lam f : Nat} {o : Int} (h : RC ch rd ca pl b n σ) (ha : At rd pl σ p N lam) (hp : p ≤ n) (hd1 : 1 ≤ d) (hd2 : d ≤ p + 1) (hF : 62 ≤ F + p + 1)
    (hR : (pface (pgoal ch F) ch (b + p)).1 = true) (hN : N + (pface (pgoal ch F) ch (b + p)).2.2.1 ≤ 60) (hlam : lam ≤ 1000 + p) (ho : -1 ≤ o ∧ o ≤ 11) (hf : f < 3) :
    ∃ σ' : St, s_X5_readFace kg rd (I o) (I (f : Nat)) (I d) σ = some ((), σ') ∧ PostS ch rd pl b σ σ' N lam (pface (pgoal ch F) ch (b + p)) ∧
      ∀ κ φ, Str ch pl κ φ σ N lam (b + p) → lam + (pface (pgoal ch F) ch (b + p)).2.2.2 ≤ 3 → b + n < 640 → 0 ≤ o → (o < 5 + lam ∨ 8 ≤ o) →
        ∃ κ' : Nat → Nat, (∀ c, c < N → κ' c = κ c) ∧ Str ch pl κ' (set1 (upL ch φ lam (lam + (pface (pgoal ch F) ch (b + p)).2.2.2)) o.toNat f (b + p)) σ' (N + (pface (pgoal ch F) ch (b + p)).2.2.1) (lam + (pface (pgoal ch F) ch (b + p)).2.2.2) (pface (pgoal ch F) ch (b + p)).2.1 := by
  have hat : isAt (ch (b + p)) = true := by
    unfold pface at hR
    by_cases c : isAt (ch (b + p)) = true
    · exact c
    · rw [if_neg c] at hR; cases hR
  have hend := h.2.2.2.2.2.2.2.2.2.2.2
  have hn60 : n ≤ 60 := h.2.2.2.2.2.2.2.2.1
  have hpn : p < n := by
    apply Nat.lt_of_not_le
    intro hh
    rw [hend (b + p) (by omega) (by omega)] at hat
    cases hat
  have hc126 := h.2.2.2.2.2.2.2.2.2.2.1
  have n1 := q_next h ha.1 hp ha.2.1 (by omega)
  rw [if_pos rfl] at n1
  obtain ⟨a1, f1, r1, k1⟩ := step_at h ha
  have n2 := q_next r1 a1.1 hpn a1.2.1 (by omega)
  rw [if_pos rfl] at n2
  have hne91 : ch (b + p) ≠ 91 := by intro q; rw [q] at hat; revert hat; decide
  generalize hs1 : setI σ rd 2 (I ((p + 1 : Nat) : Int)) = σ1 at a1 f1 r1 k1 n2
  -- the last step: the face is laid
  have fin : ∀ (σ2 : St) (bo : Int32) (Pe k l : Nat), RC ch rd ca pl b n σ2 → Fr (rdC rd pl) σ σ2 → b ≤ Pe → At rd pl σ2 (Pe - b) (N + k) (lam + l) →
      s_X5_readFace_61 kg rd (I o) (I (f : Nat)) (I (ch (b + p) : Nat)) bo σ2 = some ((), setF pl o f (I (ch (b + p) : Nat)) bo σ2) ∧ PostS ch rd pl b σ (setF pl o f (I (ch (b + p) : Nat)) bo σ2) N lam (true, Pe, k, l) := by
    intro σ2 bo Pe k l hr2 hf2 hbe ha2
    refine ⟨?_, hf2.setF _ _ _ _, hbe, ?_⟩
    · unfold s_X5_readFace_61
      have e0 : isO σ2 3 pl = true := by rcases hr2.2.1 with rfl | rfl; exact hr2.1.o 3 7 (by decide); exact hr2.1.o 3 13 (by decide)
      simp only [hr2.2.2.2.1, if_true, hr2.2.2.2.2.2.1, op_eq, e0]
      rw [q_setFace hr2.1 hr2.2.1 (by omega) (by omega), bd_eq]
    · obtain ⟨b1, b2, b3, b4⟩ := ha2
      have hrd := h.2.2.1.1
      have hpl := h.2.1
      exact ⟨by rw [setF_other _ _ _ _ _ _ (by omega)]; exact b1, by rw [setF_other _ _ _ _ _ _ (by omega)]; exact b2, by rw [setF_other _ _ _ _ _ _ (by omega)]; exact b3, by rw [setF_other _ _ _ _ _ _ (by omega)]; exact b4⟩
  have finS : ∀ (σ2 : St) (bo : Int32) (Pe k l : Nat) (κ' : Nat → Nat) (ψ : Nat → Nat → Option Nat), Str ch pl κ' ψ σ2 (N + k) (lam + l) Pe → 0 ≤ o → (o < 5 + lam ∨ 8 ≤ o) → (if ch (b + p + 1) = 60 then ∃ c : Nat, c < N + k ∧ bo = I (c : Nat) ∧ κ' c = b + p + 2 else bo = I (-1)) →
      Str ch pl κ' (set1 ψ o.toNat f (b + p)) (setF pl o f (I (ch (b + p) : Nat)) bo σ2) (N + k) (lam + l) Pe := by
    intro σ2 bo Pe k l κ' ψ hs ho0 hol hbo
    obtain ⟨h1, h2, h3, h4⟩ := hs
    obtain ⟨on, rfl⟩ : ∃ on : Nat, o = (on : Int) := ⟨o.toNat, by omega⟩
    rw [setF_eq (by omega) hf]
    have hcc : ((I (ch (b + p) : Nat)).toUInt32 % 65536).toInt32 = I (ch (b + p) : Nat) := chN (by omega) (by have := hc126 (b + p); omega)
    rw [hcc]
    refine ⟨fun c hc => ?_, fun x y hx hy => ?_, h3, fun x y hx hy hy3 => ?_⟩
    · have q := h1 c hc
      unfold nodeOK at q ⊢
      simp only [sI_I]
      simp only [show ∀ z, ¬ (pl + 1 = pl + 5 ∧ z) from by omega, show ∀ z, ¬ (pl + 1 = pl + 4 ∧ z) from by omega, show ∀ z, ¬ (pl + 2 = pl + 5 ∧ z) from by omega, show ∀ z, ¬ (pl + 2 = pl + 4 ∧ z) from by omega, show ∀ z, ¬ (pl + 3 = pl + 5 ∧ z) from by omega, show ∀ z, ¬ (pl + 3 = pl + 4 ∧ z) from by omega, if_false]
      exact q
    · have q := h2 x y hx hy
      unfold set1
      have e : ((on : Int).toNat) = on := by omega
      rw [e]
      by_cases hxy : x = on ∧ y = f
      · obtain ⟨rfl, rfl⟩ := hxy
        rw [if_pos ⟨rfl, rfl⟩]
        refine ⟨?_, hat, ?_⟩
        · rw [sI_I, if_neg (by omega), sI_I, if_pos ⟨rfl, rfl⟩]
        · by_cases c6 : ch (b + p + 1) = 60
          · rw [if_pos c6] at hbo ⊢
            obtain ⟨c, g1, g2, g3⟩ := hbo
            exact ⟨c, g1, by rw [sI_I, if_pos ⟨rfl, rfl⟩]; exact g2, g3⟩
          · rw [if_neg c6] at hbo ⊢
            rw [sI_I, if_pos ⟨rfl, rfl⟩]; exact hbo
      · rw [if_neg hxy]
        unfold faceOK at q ⊢
        simp only [sI_I]
        have nn : ¬ (x * 3 + y = on * 3 + f) := by omega
        simp only [nn, and_false, if_false]
        exact q
    · unfold set1
      rw [if_neg (by omega)]
      exact h4 x y hx hy hy3
  by_cases c60 : ch (b + p + 1) = 60
  · have hR2 : pface (pgoal ch F) ch (b + p) = pgoal ch F (b + (p + 2)) := by
      unfold pface
      rw [if_pos hat, if_pos c60]
      rfl
    rw [hR2] at hR hN ⊢
    have hpn2 : p + 1 < n := by
      apply Nat.lt_of_not_le
      intro hh
      rw [hend (b + p + 1) (by omega) (by omega)] at c60
      cases c60
    obtain ⟨a2, f2, r2, k2⟩ := step_at r1 a1
    generalize hs2 : setI σ1 rd 2 (I ((p + 1 + 1 : Nat) : Int)) = σ2 at a2 f2 r2 k2
    obtain ⟨σ3, g1, g2, ⟨g3, g4, g5⟩, g6⟩ := hk σ2 (d + 1) (p + 2) N lam r2 a2 (by omega) (by omega) (by omega) (by omega) hR hN (by omega)
    have r3 := r2.fr g3
    obtain ⟨e1, e2⟩ := fin σ3 (I (N + (pgoal ch F (b + (p + 2))).2.2.1 - 1 : Int)) _ _ _ r3 (f1.trans (f2.trans g3)) g4 g5
    refine ⟨_, ?_, e2, fun κ φ hs hl hb ho0 hol => ?_⟩
    · unfold s_X5_readFace
      simp only [h.2.2.2.1, if_true, n1, bd_eq]
      rw [q_isAtom (by have := hc126 (b + p); omega), hat, if_pos rfl, bd_eq, if_neg (by decide)]
      have hc2 : ch (b + (p + 1)) = 60 := c60
      simp only [h.2.2.2.1, if_true, ha.1, I_s, lt_eq, hs1, n2, bd_eq, hc2]
      rw [if_pos (by decide)]
      simp only [r1.2.2.2.1, if_true, a1.1, I_s, hs2, g1, bd_eq]
      exact e1
    · have hs1' := hs.mv k1 (cntB_step hne91 : cntB ch (b + p + 1) = _)
      have hs2' := hs1'.mv k2 (cntB_step (by omega) : cntB ch (b + p + 1 + 1) = _)
      obtain ⟨κ', x1, x2, x3⟩ := g6 κ φ hs2' hl hb
      refine ⟨κ', x1, finS σ3 _ _ _ _ κ' _ x2 ho0 hol ?_⟩
      rw [if_pos c60]
      refine ⟨N + (pgoal ch F (b + (p + 2))).2.2.1 - 1, by omega, ?_, x3⟩
      congr 1
      omega
  · have hR2 : pface (pgoal ch F) ch (b + p) = (true, b + p + 1, 0, 0) := by
      unfold pface
      rw [if_pos hat, if_neg c60]
    rw [hR2] at hR hN ⊢
    have e9 : b + p + 1 - b = p + 1 := by omega
    obtain ⟨e1, e2⟩ := fin σ1 (I (-1)) (b + p + 1) 0 0 r1 f1 (by omega) (by rw [e9]; exact a1)
    refine ⟨_, ?_, e2, fun κ φ hs hl hb ho0 hol => ?_⟩
    · unfold s_X5_readFace
      simp only [h.2.2.2.1, if_true, n1, bd_eq]
      rw [q_isAtom (by have := hc126 (b + p); omega), hat, if_pos rfl, bd_eq, if_neg (by decide)]
      simp only [h.2.2.2.1, if_true, ha.1, I_s, lt_eq, hs1, n2, bd_eq]
      rw [hm1, if_neg (by
        rw [I_lit, I_eq (by have := hc126 (b + (p + 1)); omega) (by omega)]
        intro q
        exact c60 (by have : ch (b + (p + 1)) = 60 := by omega
                      exact this))]
      exact e1
    · have hs1' := hs.mv k1 (cntB_step hne91 : cntB ch (b + p + 1) = _)
      refine ⟨κ, fun _ _ => rfl, ?_⟩
      have := finS σ1 (I (-1)) (b + p + 1) 0 0 κ φ hs1' ho0 hol (by rw [if_neg c60])
      show Str ch pl κ (set1 (upL ch φ lam (lam + 0)) o.toNat f (b + p)) _ (N + 0) (lam + 0) _
      rw [Nat.add_zero, upL_self]
      exact this
theorem Str.phi {ch : Nat → Nat} {pl : Nat} {κ : Nat → Nat} {φ φ' : Nat → Nat → Option Nat} {σ : St} {N lam P : Nat} (h : Str ch pl κ φ σ N lam P) (he : ∀ x y, y < 3 → φ' x y = φ x y) : Str ch pl κ φ' σ N lam P :=
  ⟨h.1, fun o f ho hf => by rw [he o f hf]; exact h.2.1 o f ho hf, h.2.2.1, fun o f h1 h2 h3 => by rw [he o f h3]; exact h.2.2.2 o f h1 h2 h3⟩
theorem poff_cases {g : Nat → PR} {ch : Nat → Nat} {p : Nat} (h : (poff g ch p).1 = true) : ∃ q1 k1 l1, pface g ch p = (true, q1, k1, l1) ∧ ((ch q1 ≠ 124 ∧ poff g ch p = (true, q1, k1, l1)) ∨
    (ch q1 = 124 ∧ ∃ q2 k2 l2, pface g ch (q1 + 1) = (true, q2, k2, l2) ∧ ((ch q2 ≠ 124 ∧ poff g ch p = (true, q2, k1 + k2, l1 + l2)) ∨ (ch q2 = 124 ∧ ∃ q3 k3 l3, pface g ch (q2 + 1) = (true, q3, k3, l3) ∧ poff g ch p = (true, q3, k1 + (k2 + k3), l1 + (l2 + l3)))))) := by
  unfold poff at h ⊢
  obtain ⟨h1, h2, -⟩ := pb_ok h
  rcases hr1 : pface g ch p with ⟨b1, q1, k1, l1⟩
  rw [hr1] at h1 h2 h
  cases h1
  refine ⟨q1, k1, l1, rfl, ?_⟩
  rw [pb_true (rfl : (true, q1, k1, l1).1 = true)]
  dsimp only at h2 ⊢
  by_cases c1 : ch q1 = 124
  · rw [if_pos c1] at h2 ⊢
    refine Or.inr ⟨c1, ?_⟩
    obtain ⟨h3, h4, -⟩ := pb_ok h2
    rcases hr2 : pface g ch (q1 + 1) with ⟨b2, q2, k2, l2⟩
    rw [hr2] at h3 h4 h2
    cases h3
    refine ⟨q2, k2, l2, rfl, ?_⟩
    rw [pb_true (rfl : (true, q2, k2, l2).1 = true)]
    dsimp only at h4 ⊢
    by_cases c2 : ch q2 = 124
    · rw [if_pos c2] at h4 ⊢
      refine Or.inr ⟨c2, ?_⟩
      rcases hr3 : pface g ch (q2 + 1) with ⟨b3, q3, k3, l3⟩
      rw [hr3] at h4
      cases h4
      exact ⟨q3, k3, l3, rfl, rfl⟩
    · rw [if_neg c2] at h4 ⊢
      exact Or.inl ⟨c2, rfl⟩
  · rw [if_neg c1] at h2 ⊢
    exact Or.inl ⟨c1, rfl⟩
theorem eF_eq {ch : Nat → Nat} {b n F p : Nat} (hend : ∀ i, b + n ≤ i → i < b + 64 → ch i = 0) (hn : n ≤ 60) (hp : p ≤ n) (hF : 62 ≤ F + p + 1) : pface (G64 ch) ch (b + p) = pface (pgoal ch F) ch (b + p) :=
  pface_fuel b n hend hn (b + p) (by omega) (by omega) (fun q h1 h2 => pgoal_fuel ch b n hend hn 64 F q (by omega) h2 (by omega) (by omega))
def setO (ch : Nat → Nat) (φ : Nat → Nat → Option Nat) (o st : Nat) : Nat → Nat → Option Nat := fun x y => if x = o then fpos ch st y else φ x y
theorem offl (kg : Nat → Int32 → St → Option (Int32 × St)) (n : Nat) (a : Nat) (b c d : Int32) (σ : St) : s_X5_readOffer_9 kg (n + 1) a b c d σ = sb_X5_readOffer_9 kg (s_X5_readOffer_9 kg n) a b c d σ := rfl
/-- the loop over the faces, where no further face stands -/
theorem off_end {ch : Nat → Nat} {rd ca pl b n : Nat} {kg : Nat → Int32 → St → Option (Int32 × St)} {σ : St} {p N lam f m : Nat} {o d : Int32} (h : RC ch rd ca pl b n σ) (ha : At rd pl σ p N lam) (hp : p ≤ n) (hf : f ≤ 3) (hc : f = 3 ∨ ch (b + p) ≠ 124) : s_X5_readOffer_9 kg (m + 1) rd o d (I (f : Nat)) σ = some ((), σ) := by
  rw [offl]
  unfold sb_X5_readOffer_9
  have e3 : ((3 : Int32) ≤ I (f : Nat)) ↔ 3 ≤ f := by rw [I_lit, I_le (by omega) (by omega)]; omega
  by_cases c3 : f = 3
  · rw [if_pos (e3.mpr (by omega))]
  · rw [if_neg (fun q => c3 (by have := e3.mp q; omega)), if_pos h.2.2.2.1, q_next h ha.1 hp ha.2.1 (by omega), bd_eq, if_pos rfl]
    have hc126 := h.2.2.2.2.2.2.2.2.2.2.1 (b + p)
    rw [if_neg]
    rw [I_lit, I_eq (by omega) (by omega)]
    omega
/-- the loop over the faces, where one more stands -/
theorem off_more {ch : Nat → Nat} {rd ca pl b n F : Nat} {kg : Nat → Int32 → St → Option (Int32 × St)} (hk : SGoal ch rd ca pl b n F kg) {σ : St} {d p N lam f m : Nat} {o : Int} (h : RC ch rd ca pl b n σ) (ha : At rd pl σ p N lam) (hp : p ≤ n) (hd1 : 1 ≤ d) (hd2 : d ≤ p + 1) (hF : 62 ≤ F + p + 1) (hc : ch (b + p) = 124)
    (hR : (pface (pgoal ch F) ch (b + p + 1)).1 = true) (hN : N + (pface (pgoal ch F) ch (b + p + 1)).2.2.1 ≤ 60) (hlam : lam ≤ 1000 + p) (ho : -1 ≤ o ∧ o ≤ 11) (hf : f < 3) :
    ∃ σ' : St, s_X5_readOffer_9 kg (m + 1) rd (I o) (I d) (I (f : Nat)) σ = s_X5_readOffer_9 kg m rd (I o) (I d) (I (f + 1 : Nat)) σ' ∧ PostS ch rd pl b σ σ' N lam (pface (pgoal ch F) ch (b + p + 1)) ∧
      ∀ κ φ, Str ch pl κ φ σ N lam (b + p) → lam + (pface (pgoal ch F) ch (b + p + 1)).2.2.2 ≤ 3 → b + n < 640 → 0 ≤ o → (o < 5 + lam ∨ 8 ≤ o) →
        ∃ κ' : Nat → Nat, (∀ c, c < N → κ' c = κ c) ∧ Str ch pl κ' (set1 (upL ch φ lam (lam + (pface (pgoal ch F) ch (b + p + 1)).2.2.2)) o.toNat f (b + p + 1)) σ' (N + (pface (pgoal ch F) ch (b + p + 1)).2.2.1) (lam + (pface (pgoal ch F) ch (b + p + 1)).2.2.2) (pface (pgoal ch F) ch (b + p + 1)).2.1 := by
  have hend := h.2.2.2.2.2.2.2.2.2.2.2
  have hn60 : n ≤ 60 := h.2.2.2.2.2.2.2.2.1
  have hpn : p < n := by
    apply Nat.lt_of_not_le
    intro hh
    have := hend (b + p) (by omega) (by omega)
    omega
  obtain ⟨a1, f1, r1, k1⟩ := step_at h ha
  obtain ⟨σ2, g1, g2, g3⟩ := s_face hk (o := o) (f := f) (d := d) r1 a1 hpn hd1 (by omega) (by omega) hR hN (by omega) ho hf
  refine ⟨σ2, ?_, ⟨f1.trans g2.1, g2.2⟩, fun κ φ hs hl hb h0 hol => g3 κ φ (hs.mv k1 (cntB_step (by omega) : cntB ch (b + p + 1) = _)) hl hb h0 hol⟩
  rw [offl]
  unfold sb_X5_readOffer_9
  have e3 : ((3 : Int32) ≤ I (f : Nat)) ↔ 3 ≤ f := by rw [I_lit, I_le (by omega) (by omega)]; omega
  rw [if_neg (fun q => by have := e3.mp q; omega), if_pos h.2.2.2.1, q_next h ha.1 hp ha.2.1 (by omega), bd_eq, if_pos rfl, hc, if_pos (by decide), if_pos h.2.2.2.1]
  simp only [ha.1, I_s, lt_eq, g1, bd_eq]
