theorem RC.hend {ch : Nat → Nat} {rd ca pl b n : Nat} {σ : St} (h : RC ch rd ca pl b n σ) : ∀ i, b + n ≤ i → i < b + 64 → ch i = 0 := h.2.2.2.2.2.2.2.2.2.2.2
theorem RC.hn {ch : Nat → Nat} {rd ca pl b n : Nat} {σ : St} (h : RC ch rd ca pl b n σ) : n ≤ 60 := h.2.2.2.2.2.2.2.2.1
theorem RC.h126 {ch : Nat → Nat} {rd ca pl b n : Nat} {σ : St} (h : RC ch rd ca pl b n σ) : ∀ i, ch i ≤ 126 := h.2.2.2.2.2.2.2.2.2.2.1
theorem RC.lt {ch : Nat → Nat} {rd ca pl b n p : Nat} {σ : St} (h : RC ch rd ca pl b n σ) (hp : p ≤ n) (hc : ch (b + p) ≠ 0) : p < n := by
  apply Nat.lt_of_not_le
  intro hh
  exact hc (h.hend (b + p) (by omega) (by have := h.hn; omega))
theorem PostS.trans {ch : Nat → Nat} {rd pl b : Nat} {σ σ1 σ2 : St} {N lam : Nat} {q1 k1 l1 q2 k2 l2 : Nat} {b1 b2 b3 : Bool} (h1 : PostS ch rd pl b σ σ1 N lam (b1, q1, k1, l1)) (h2 : PostS ch rd pl b σ1 σ2 (N + k1) (lam + l1) (b2, q2, k2, l2)) : PostS ch rd pl b σ σ2 N lam (b3, q2, k1 + k2, l1 + l2) :=
  ⟨h1.1.trans h2.1, h2.2.1, by
    have h := h2.2.2
    dsimp only at h ⊢
    rw [← Nat.add_assoc, ← Nat.add_assoc]
    exact h⟩
theorem fpos3 (ch : Nat → Nat) (st y : Nat) (h : y < 3) : y = 0 ∧ fpos ch st y = some st ∨ y = 1 ∧ fpos ch st y = nf ch (some st) ∨ y = 2 ∧ fpos ch st y = nf ch (nf ch (some st)) := by
  rcases (show y = 0 ∨ y = 1 ∨ y = 2 by omega) with rfl | rfl | rfl
  · exact Or.inl ⟨rfl, rfl⟩
  · exact Or.inr (Or.inl ⟨rfl, rfl⟩)
  · exact Or.inr (Or.inr ⟨rfl, rfl⟩)
theorem upL_set1 {ch : Nat → Nat} {φ : Nat → Nat → Option Nat} {a e o f q : Nat} (h : ¬ (5 + a ≤ o ∧ o < 5 + e)) : upL ch (set1 φ o f q) a e = set1 (upL ch φ a e) o f q := by
  funext x y
  unfold upL set1
  dsimp only
  by_cases c : 5 + a ≤ x ∧ x < 5 + e
  · have n : ¬ (x = o ∧ y = f) := by rintro ⟨rfl, -⟩; exact h c
    simp only [c, n, and_self, if_true, if_false]
  · simp only [c, if_false]
theorem setO_one {ch : Nat → Nat} {ψ : Nat → Nat → Option Nat} {o st : Nat} (hψ : ∀ y, y < 3 → ψ o y = none) (h1 : nf ch (some st) = none) (x y : Nat) (hy : y < 3) : setO ch ψ o st x y = set1 ψ o 0 st x y := by
  unfold setO set1
  by_cases hx : x = o
  · subst hx
    rw [if_pos rfl]
    rcases fpos3 ch st y hy with ⟨rfl, e⟩ | ⟨rfl, e⟩ | ⟨rfl, e⟩
    · rw [e, if_pos ⟨rfl, rfl⟩]
    · rw [e, h1, if_neg (by omega), hψ 1 (by omega)]
    · rw [e, h1, if_neg (by omega), hψ 2 (by omega)]; rfl
  · rw [if_neg hx, if_neg (fun q => hx q.1)]
theorem setO_two {ch : Nat → Nat} {ψ : Nat → Nat → Option Nat} {o st s1 : Nat} (hψ : ∀ y, y < 3 → ψ o y = none) (h1 : nf ch (some st) = some s1) (h2 : nf ch (some s1) = none) (x y : Nat) (hy : y < 3) : setO ch ψ o st x y = set1 (set1 ψ o 0 st) o 1 s1 x y := by
  unfold setO set1
  by_cases hx : x = o
  · subst hx
    rw [if_pos rfl]
    rcases fpos3 ch st y hy with ⟨rfl, e⟩ | ⟨rfl, e⟩ | ⟨rfl, e⟩
    · rw [e, if_neg (by omega), if_pos ⟨rfl, rfl⟩]
    · rw [e, h1, if_pos ⟨rfl, rfl⟩]
    · rw [e, h1, h2, if_neg (by omega), if_neg (by omega), hψ 2 (by omega)]
  · rw [if_neg hx, if_neg (fun q => hx q.1), if_neg (fun q => hx q.1)]
theorem setO_three {ch : Nat → Nat} {ψ : Nat → Nat → Option Nat} {o st s1 s2 : Nat} (h1 : nf ch (some st) = some s1) (h2 : nf ch (some s1) = some s2) (x y : Nat) (hy : y < 3) : setO ch ψ o st x y = set1 (set1 (set1 ψ o 0 st) o 1 s1) o 2 s2 x y := by
  unfold setO set1
  by_cases hx : x = o
  · subst hx
    rw [if_pos rfl]
    rcases fpos3 ch st y hy with ⟨rfl, e⟩ | ⟨rfl, e⟩ | ⟨rfl, e⟩
    · rw [e, if_neg (by omega), if_neg (by omega), if_pos ⟨rfl, rfl⟩]
    · rw [e, h1, if_neg (by omega), if_pos ⟨rfl, rfl⟩]
    · rw [e, h1, h2, if_pos ⟨rfl, rfl⟩]
  · rw [if_neg hx, if_neg (fun q => hx q.1), if_neg (fun q => hx q.1), if_neg (fun q => hx q.1)]
theorem nf_some {ch : Nat → Nat} {p q : Nat} (he : eF ch p = q) (hc : ch q = 124) : nf ch (some p) = some (q + 1) := by simp [nf, he, hc]
theorem nf_none {ch : Nat → Nat} {p q : Nat} (he : eF ch p = q) (hc : ch q ≠ 124) : nf ch (some p) = none := by simp [nf, he, hc]
theorem upL_out {ch : Nat → Nat} {φ : Nat → Nat → Option Nat} {a e o : Nat} (h : ¬ (5 + a ≤ o ∧ o < 5 + e)) (y : Nat) : upL ch φ a e o y = φ o y := by unfold upL; rw [if_neg h]
set_option maxHeartbeats 1000000 in
/-- an offer -/
theorem s_off {ch : Nat → Nat} {rd ca pl b n F : Nat} {kg : Nat → Int32 → St → Option (Int32 × St)} (hk : SGoal ch rd ca pl b n F kg) {σ : St} {d p N lam : Nat} {o : Int} (h : RC ch rd ca pl b n σ) (ha : At rd pl σ p N lam) (hp : p ≤ n) (hd1 : 1 ≤ d) (hd2 : d ≤ p + 1) (hF : 62 ≤ F + p + 1)
    (hR : (poff (pgoal ch F) ch (b + p)).1 = true) (hN : N + (poff (pgoal ch F) ch (b + p)).2.2.1 ≤ 60) (hlam : lam ≤ 1000 + p) (ho : -1 ≤ o ∧ o ≤ 11) :
    ∃ σ' : St, s_X5_readOffer kg rd (I o) (I d) σ = some ((), σ') ∧ PostS ch rd pl b σ σ' N lam (poff (pgoal ch F) ch (b + p)) ∧
      ∀ κ φ, Str ch pl κ φ σ N lam (b + p) → lam + (poff (pgoal ch F) ch (b + p)).2.2.2 ≤ 3 → b + n < 640 → 0 ≤ o → (o < 5 + lam ∨ 8 ≤ o) → (∀ f, f < 3 → φ o.toNat f = none) →
        ∃ κ' : Nat → Nat, (∀ c, c < N → κ' c = κ c) ∧ Str ch pl κ' (setO ch (upL ch φ lam (lam + (poff (pgoal ch F) ch (b + p)).2.2.2)) o.toNat (b + p)) σ' (N + (poff (pgoal ch F) ch (b + p)).2.2.1) (lam + (poff (pgoal ch F) ch (b + p)).2.2.2) (poff (pgoal ch F) ch (b + p)).2.1 := by
  have hend := h.hend
  have hn60 := h.hn
  have hpp := pgoal_pos ch b n hend hn60 F
  obtain ⟨q1, k1, l1, hf1, hrest⟩ := poff_cases hR
  have hpos1 := pface_pos b n hend hn60 hpp (b + p) (by omega) (by omega)
  rw [hf1] at hpos1
  have hlt1 := hpos1.2.2 rfl
  have hle1 := hpos1.2.1
  dsimp only at hlt1 hle1
  have he1 : eF ch (b + p) = q1 := by unfold eF; rw [eF_eq hend hn60 hp (by omega), hf1]
  have z0 : (I 0 : Int32) = I ((0 : Nat) : Int) := rfl
  have hN1 : N + k1 ≤ 60 := by
    rcases hrest with ⟨_, e⟩ | ⟨_, q2, k2, l2, _, ⟨_, e⟩ | ⟨_, q3, k3, l3, _, e⟩⟩ <;> rw [e] at hN <;> dsimp only at hN <;> omega
  obtain ⟨σ1, g1, g2, g3⟩ := s_face hk (o := o) (f := 0) (d := d) h ha hp hd1 hd2 (by omega) (by rw [hf1]) (by rw [hf1]; exact hN1) hlam ho (by decide)
  rw [hf1] at g2 g3
  have r1 := h.fr g2.1
  have a1 := g2.2.2
  have hb1 := g2.2.1
  dsimp only at a1 hb1 g3
  have hq1 : b + (q1 - b) = q1 := by omega
  have unf : s_X5_readOffer kg rd (I o) (I d) σ = s_X5_readOffer_9 kg 16000 rd (I o) (I d) (I (1 : Nat)) σ1 := by
    unfold s_X5_readOffer
    rw [if_pos h.2.2.2.1, show (0 : Int32) = I ((0 : Nat) : Int) from rfl, g1, bd_eq]
    rfl
  rcases hrest with ⟨hc1, e⟩ | ⟨hc1, q2, k2, l2, hf2, hrest⟩
  · rw [e]
    refine ⟨σ1, ?_, g2, fun κ φ hs hl hb h0 hol hφ => ?_⟩
    · rw [unf]
      exact off_end (m := 15999) r1 a1 (by omega) (by omega) (Or.inr (by rw [hq1]; exact hc1))
    · dsimp only at hl
      obtain ⟨κ', x1, x2⟩ := g3 κ φ hs hl hb h0 hol
      have hup : ∀ y, y < 3 → upL ch φ lam (lam + l1) o.toNat y = none := fun y hy => (upL_out (by omega) y).trans (hφ y hy)
      exact ⟨κ', x1, x2.phi (setO_one hup (nf_none he1 hc1))⟩
  · have hpos2 := pface_pos b n hend hn60 hpp (q1 + 1) (by omega) (by have := r1.lt (p := q1 - b) (by omega) (by rw [hq1]; omega); omega)
    rw [hf2] at hpos2
    have hlt2 := hpos2.2.2 rfl
    have hle2 := hpos2.2.1
    dsimp only at hlt2 hle2
    have hN2 : N + k1 + k2 ≤ 60 := by
      rcases hrest with ⟨_, e⟩ | ⟨_, q3, k3, l3, _, e⟩ <;> rw [e] at hN <;> dsimp only at hN <;> omega
    have hx1 : b + (q1 - b) + 1 = q1 + 1 := by omega
    have hp2 : q1 + 1 - b ≤ n := by have := r1.lt (p := q1 - b) (by omega) (by rw [hq1]; omega); omega
    have he2 : eF ch (q1 + 1) = q2 := by
      unfold eF
      have := eF_eq (F := F) hend hn60 hp2 (by omega)
      rw [show b + (q1 + 1 - b) = q1 + 1 by omega] at this
      rw [this, hf2]
    have hl1 : l1 ≤ 1000 + (q1 - b) → lam + l1 ≤ 1000 + (q1 - b) ∨ True := fun _ => Or.inr trivial
    have hlam1 : lam + l1 ≤ 1000 + (q1 - b) := by
      have := (pface_loans ch F (b + p))
      rw [hf1] at this
      have := this rfl
      dsimp only at this
      omega
    obtain ⟨σ2, j1, j2, j3⟩ := off_more hk (o := o) (f := 1) (d := d) (m := 15999) r1 a1 (by omega) hd1 (by omega) (by omega) (by rw [hq1]; exact hc1) (by rw [hx1, hf2]) (by rw [hx1, hf2]; exact hN2) hlam1 ho (by decide)
    rw [hx1, hf2] at j2 j3
    rw [hq1] at j3
    have r2 := r1.fr j2.1
    have a2 := j2.2.2
    have hb2 := j2.2.1
    dsimp only at a2 hb2 j3
    have hq2 : b + (q2 - b) = q2 := by omega
    have pt := g2.trans (b3 := true) j2
    rcases hrest with ⟨hc2, e⟩ | ⟨hc2, q3, k3, l3, hf3, e⟩
    · rw [e]
      refine ⟨σ2, ?_, pt, fun κ φ hs hl hb h0 hol hφ => ?_⟩
      · rw [unf, j1]
        exact off_end (m := 15998) r2 a2 (by omega) (by omega) (Or.inr (by rw [hq2]; exact hc2))
      · dsimp only at hl
        obtain ⟨κ1, x1, x2⟩ := g3 κ φ hs (by omega) hb h0 hol
        obtain ⟨κ2, y1, y2⟩ := j3 κ1 _ x2 (by omega) hb h0 (by omega)
        refine ⟨κ2, fun c hc => (y1 c (by omega)).trans (x1 c hc), ?_⟩
        dsimp only
        rw [← Nat.add_assoc, ← Nat.add_assoc]
        rw [upL_set1 (by omega), upL_upL ch φ (by omega) (by omega)] at y2
        exact y2.phi (setO_two (fun y hy => (upL_out (by omega) y).trans (hφ y hy)) (nf_some he1 hc1) (nf_none he2 hc2))
    · have hpos3 := pface_pos b n hend hn60 hpp (q2 + 1) (by omega) (by have := r2.lt (p := q2 - b) (by omega) (by rw [hq2]; omega); omega)
      rw [hf3] at hpos3
      have hlt3 := hpos3.2.2 rfl
      have hle3 := hpos3.2.1
      dsimp only at hlt3 hle3
      have hN3 : N + k1 + k2 + k3 ≤ 60 := by rw [e] at hN; dsimp only at hN; omega
      have hx2 : b + (q2 - b) + 1 = q2 + 1 := by omega
      have hlam2 : lam + l1 + l2 ≤ 1000 + (q2 - b) := by
        have := (pface_loans ch F (q1 + 1))
        rw [hf2] at this
        have := this rfl
        dsimp only at this
        omega
      obtain ⟨σ3, i1, i2, i3⟩ := off_more hk (o := o) (f := 2) (d := d) (m := 15998) r2 a2 (by omega) hd1 (by omega) (by omega) (by rw [hq2]; exact hc2) (by rw [hx2, hf3]) (by rw [hx2, hf3]; exact hN3) hlam2 ho (by decide)
      rw [hx2, hf3] at i2 i3
      rw [hq2] at i3
      have r3 := r2.fr i2.1
      have a3 := i2.2.2
      have hb3 := i2.2.1
      dsimp only at a3 hb3 i3
      rw [e]
      have pt3 := PostS.trans (k1 := k1 + k2) (l1 := l1 + l2) (q2 := q3) (k2 := k3) (l2 := l3) (b2 := true) (b3 := true) pt (by rw [← Nat.add_assoc, ← Nat.add_assoc]; exact i2)
      refine ⟨σ3, ?_, by rw [← Nat.add_assoc, ← Nat.add_assoc]; exact pt3, fun κ φ hs hl hb h0 hol hφ => ?_⟩
      · rw [unf, j1, i1]
        exact off_end (m := 15997) r3 a3 (by omega) (by omega) (Or.inl rfl)
      · dsimp only at hl
        obtain ⟨κ1, x1, x2⟩ := g3 κ φ hs (by omega) hb h0 hol
        obtain ⟨κ2, y1, y2⟩ := j3 κ1 _ x2 (by omega) hb h0 (by omega)
        obtain ⟨κ3, w1, w2⟩ := i3 κ2 _ y2 (by omega) hb h0 (by omega)
        refine ⟨κ3, fun c hc => (w1 c (by omega)).trans ((y1 c (by omega)).trans (x1 c hc)), ?_⟩
        dsimp only
        rw [← Nat.add_assoc, ← Nat.add_assoc, ← Nat.add_assoc, ← Nat.add_assoc]
        rw [upL_set1 (by omega), upL_set1 (by omega), upL_set1 (by omega), upL_upL ch φ (by omega) (by omega), upL_upL ch φ (by omega) (by omega)] at w2
        exact w2.phi (setO_three (nf_some he1 hc1) (nf_some he2 hc2))
