/-! image, restore -/
section
variable {ch sl : Nat → Nat} {t : List Nat} {f : Int} {s0 s1 : Option TS} {S : Nat} {σ : St}
theorem lp_copy (n a b : Nat) (c : Int32) (σ : St) : s_X6_copyFrom_2 (n + 1) a b c σ = sb_X6_copyFrom_2 (s_X6_copyFrom_2 n) a b c σ := rfl
/-- one stock is copied over another -/
theorem cpy_loop {dst darr src sarr : Nat} (hne : darr ≠ sarr) (h1 : dst ≠ darr) (h2 : src ≠ darr) : ∀ (j k m : Nat) (σ : St), k + j = 10 → isO σ 6 dst = true → sP σ dst 0 = some darr → isO σ 16 darr = true → alen σ darr = 10 → isO σ 6 src = true → sP σ src 0 = some sarr → isO σ 16 sarr = true → alen σ sarr = 10 →
    (∀ s, s < 10 → ∀ it, sP σ sarr s = some it → isO σ 1 it = true) → (∀ s, s < k → sP σ darr s = sP σ sarr s) →
    ∃ σ', s_X6_copyFrom_2 (m + j + 1) dst src (I (k : Nat)) σ = some ((), σ') ∧ PF darr (fun _ _ => False) σ σ' ∧ ∀ s, s < 10 → sP σ' darr s = sP σ sarr s := by
  intro j
  induction j with
  | zero =>
    intro k m σ hk a1 a2 a3 a4 a5 a6 a7 a8 hi hcp
    obtain rfl : k = 10 := (by omega)
    refine ⟨σ, ?_, ⟨rfl, rfl, rfl, rfl, fun _ _ _ => rfl, fun _ _ _ => rfl⟩, hcp⟩
    rw [lp_copy]
    unfold sb_X6_copyFrom_2
    rw [if_pos (by decide)]
  | succ j ih =>
    intro k m σ hk a1 a2 a3 a4 a5 a6 a7 a8 hi hcp
    have hat : s_X6_at src (I (k : Nat)) σ = some (sP σ sarr k, σ) := by
      unfold s_X6_at
      rw [if_neg (by rw [I_lit, I_lt (by omega) (by omega)]; omega), if_neg (by rw [I_lit, I_le (by omega) (by omega)]; omega), if_pos a5, a6, op_eq, if_pos a7, a8, if_pos (inN (by omega) (by omega)), tNI (by omega)]
    have go : ∀ v, v = sP σ sarr k → ∃ σ', s_X6_copyFrom_2 (m + j + 1) dst src (I ((k + 1 : Nat) : Int)) (setP σ darr k v) = some ((), σ') ∧ PF darr (fun _ _ => False) σ σ' ∧ ∀ s, s < 10 → sP σ' darr s = sP σ sarr s := by
      intro v hv
      have hs : ∀ s, sP (setP σ darr k v) sarr s = sP σ sarr s := fun s => by rw [sP_P, if_neg (fun q => hne q.1.symm)]
      obtain ⟨σ', b1, b2, b3⟩ := ih (k + 1) m (setP σ darr k v) (by omega) a1 (by rw [sP_P, if_neg (fun q => h1 q.1)]; exact a2) a3 a4 a5 (by rw [sP_P, if_neg (fun q => h2 q.1)]; exact a6) a7 a8 (fun s q it e => hi s q it (by rw [← hs]; exact e)) (fun s q => by
        rw [hs, sP_P]
        by_cases c : s = k
        · rw [if_pos ⟨rfl, c⟩, hv, c]
        · rw [if_neg (fun e => c e.2)]; exact hcp s (by omega))
      obtain ⟨c1, c2, c3, c4, c5, c6⟩ := b2
      exact ⟨σ', b1, ⟨c1, c2, c3, c4, c5, fun a q e => by rw [c6 a q e, sP_P, if_neg (fun z => e z.1)]⟩, fun s q => by rw [b3 s q, hs]⟩
    rw [lp_copy]
    unfold sb_X6_copyFrom_2
    rw [if_neg (by rw [I_lit, I_le (by omega) (by omega)]; omega), if_pos a1, a2, op_eq, if_pos a5, hat, bd_eq, if_pos a3]
    cases e : sP σ sarr k with
    | none =>
      rw [on_none, a4, if_pos (inN (by omega) (by omega)), tNI (by omega), lt_eq, I_p1, lt_eq]
      exact go none e.symm
    | some it =>
      rw [on_some', a4, if_pos (inN (by omega) (by omega)), if_pos (hi k (by omega) it e), tNI (by omega), lt_eq, I_p1, lt_eq]
      exact go (some it) e.symm
theorem Stk.items {arr : Nat} (h : Stk arr ch sl σ) : ∀ s, s < 10 → ∀ it, sP σ arr s = some it → isO σ 1 it = true := by
  intro s hs it e
  have := h s hs
  by_cases c : sl s = 0
  · rw [if_pos c, e] at this; cases this
  · rw [if_neg c, e] at this
    obtain ⟨x, q1, q2⟩ := this
    obtain rfl := Option.some.inj q1
    exact q2.1
theorem Stk.cpy {arr arr' : Nat} {σ' : St} (h : Stk arr ch sl σ) (hs : ∀ s, s < 10 → sP σ' arr' s = sP σ arr s) (hi : ∀ {it n k l : Nat} {x : Nat → Nat}, Itm σ it n x k l → Itm σ' it n x k l) : Stk arr' ch sl σ' := by
  intro s q
  have := h s q
  rw [hs s q]
  by_cases c : sl s = 0
  · rw [if_pos c] at this ⊢; exact this
  · rw [if_neg c] at this ⊢
    obtain ⟨it, q1, q2⟩ := this
    exact ⟨it, q1, hi q2⟩
/-! the reference's copies -/
theorem lp_im14 (n a : Nat) (b c : Int32) (σ : St) : s_X11_image_14 (n + 1) a b c σ = sb_X11_image_14 (s_X11_image_14 n) a b c σ := rfl
theorem lp_im47 (n a : Nat) (b c : Int32) (σ : St) : s_X11_image_47 (n + 1) a b c σ = sb_X11_image_47 (s_X11_image_47 n) a b c σ := rfl
theorem lp_re26 (n a : Nat) (b c : Int32) (σ : St) : s_X11_restore_26 (n + 1) a b c σ = sb_X11_restore_26 (s_X11_restore_26 n) a b c σ := rfl
theorem lp_re59 (n a : Nat) (b c : Int32) (σ : St) : s_X11_restore_59 (n + 1) a b c σ = sb_X11_restore_59 (s_X11_restore_59 n) a b c σ := rfl
theorem im47 {k : Nat} (hk : k < 2) : ∀ (j a m : Nat) (σ : St), a + j = 10 → SS σ → (∀ i, i < a → sI σ 52 (10 * k + i) = sI σ 32 i) →
    ∃ σ', s_X11_image_47 (m + j + 1) 30 (I (k : Nat)) (I (a : Nat)) σ = some (1, σ') ∧ Fr (fun x i => (x = 52 ∧ 10 * k ≤ i ∧ i < 10 * k + 10) ∨ (x = 53 ∧ i = k)) σ σ' ∧ (∀ i, i < 10 → sI σ' 52 (10 * k + i) = sI σ 32 i) ∧ sI σ' 53 k = 1 := by
  intro j
  induction j with
  | zero =>
    intro a m σ ha hs hi
    obtain rfl : a = 10 := (by omega)
    refine ⟨setI σ 53 k 1, ?_, (Fr.refl σ).put _ (Or.inr ⟨rfl, rfl⟩), fun i q => by rw [sIn (by omega)]; exact hi i q, sIe⟩
    rw [lp_im47]
    unfold sb_X11_image_47
    rw [if_pos (by decide), if_pos (hs.o 11 30 (by decide)), hs.p 30 35 53 (by decide), op_eq, if_pos (hs.o 15 53 (by decide)), hs.len 53 2 (by decide), if_pos (inN hk (by omega)), tNI (by omega), lt_eq]
  | succ j ih =>
    intro a m σ ha hs hi
    have e : (10 : Int32) * I (k : Nat) + I (a : Nat) = I ((10 * k + a : Nat) : Int) := by rw [I_lit, I_mul, I_add]; rfl
    have f1 : Fr (fun x i => (x = 52 ∧ 10 * k ≤ i ∧ i < 10 * k + 10) ∨ (x = 53 ∧ i = k)) σ (setI σ 52 (10 * k + a) (sI σ 32 a)) := (Fr.refl σ).put _ (Or.inl ⟨rfl, by omega, by omega⟩)
    obtain ⟨σ', b1, b2, b3, b4⟩ := ih (a + 1) m (setI σ 52 (10 * k + a) (sI σ 32 a)) (by omega) (f1.ss hs) (fun i q => by
      rw [sIn (x := 32) (by omega)]
      by_cases c : i = a
      · rw [c, sIe]
      · rw [sIn (by omega)]; exact hi i (by omega))
    refine ⟨σ', ?_, f1.trans b2, fun i q => by rw [b3 i q, sIn (by omega)], b4⟩
    rw [← b1, lp_im47]
    unfold sb_X11_image_47
    rw [if_neg (by rw [I_lit, I_le (by omega) (by omega)]; omega), if_pos (hs.o 11 30 (by decide)), hs.p 30 34 52 (by decide), op_eq, hs.p 30 1 32 (by decide), op_eq, if_pos (hs.o 13 32 (by decide)), hs.len 32 11 (by decide), if_pos (inN (by omega) (by omega)), if_pos (hs.o 13 52 (by decide)), hs.len 52 20 (by decide), e, if_pos (inN (by omega) (by omega)), tNI (i := 10 * k + a) (by omega), tNI (i := a) (by omega), lt_eq, I_p1, lt_eq]
    rfl
theorem im14 {k : Nat} (hk : k < 2) : ∀ (j a m : Nat) (σ : St), a + j = 600 → SS σ → (∀ i, i < a → sI σ 51 (600 * k + i) = sI σ 31 i) →
    ∃ σ', s_X11_image_14 (m + j + 1) 30 (I (k : Nat)) (I (a : Nat)) σ = some (1, σ') ∧ Fr (fun x i => (x = 51 ∧ 600 * k ≤ i ∧ i < 600 * k + 600) ∨ (x = 52 ∧ 10 * k ≤ i ∧ i < 10 * k + 10) ∨ (x = 53 ∧ i = k)) σ σ' ∧ (∀ i, i < 600 → sI σ' 51 (600 * k + i) = sI σ 31 i) ∧ (∀ i, i < 10 → sI σ' 52 (10 * k + i) = sI σ 32 i) ∧ sI σ' 53 k = 1 := by
  intro j
  induction j with
  | zero =>
    intro a m σ ha hs hi
    obtain rfl : a = 600 := (by omega)
    obtain ⟨σ', b1, b2, b3, b4⟩ := im47 hk 10 0 15989 σ rfl hs (fun i q => by omega)
    refine ⟨σ', ?_, b2.mono (fun x i q => Or.inr q), fun i q => by rw [b2.i 51 _ (by omega)]; exact hi i q, b3, b4⟩
    rw [lp_im14]
    unfold sb_X11_image_14
    rw [if_pos (by decide)]
    exact b1
  | succ j ih =>
    intro a m σ ha hs hi
    have e : (600 : Int32) * I (k : Nat) + I (a : Nat) = I ((600 * k + a : Nat) : Int) := by rw [I_lit, I_mul, I_add]; rfl
    have f1 : Fr (fun x i => (x = 51 ∧ 600 * k ≤ i ∧ i < 600 * k + 600) ∨ (x = 52 ∧ 10 * k ≤ i ∧ i < 10 * k + 10) ∨ (x = 53 ∧ i = k)) σ (setI σ 51 (600 * k + a) (sI σ 31 a)) := (Fr.refl σ).put _ (Or.inl ⟨rfl, by omega, by omega⟩)
    obtain ⟨σ', b1, b2, b3, b4, b5⟩ := ih (a + 1) m (setI σ 51 (600 * k + a) (sI σ 31 a)) (by omega) (f1.ss hs) (fun i q => by
      rw [sIn (x := 31) (by omega)]
      by_cases c : i = a
      · rw [c, sIe]
      · rw [sIn (by omega)]; exact hi i (by omega))
    refine ⟨σ', ?_, f1.trans b2, fun i q => by rw [b3 i q, sIn (by omega)], fun i q => by rw [b4 i q, sIn (by omega)], b5⟩
    rw [← b1, lp_im14]
    unfold sb_X11_image_14
    rw [if_neg (by rw [I_lit, I_le (by omega) (by omega)]; omega), if_pos (hs.o 11 30 (by decide)), hs.p 30 33 51 (by decide), op_eq, hs.p 30 0 31 (by decide), op_eq, if_pos (hs.o 13 31 (by decide)), hs.len 31 660 (by decide), if_pos (inN (by omega) (by omega)), if_pos (hs.o 13 51 (by decide)), hs.len 51 1200 (by decide), e, if_pos (inN (by omega) (by omega)), tNI (i := 600 * k + a) (by omega), tNI (i := a) (by omega), lt_eq, I_p1, lt_eq]
    rfl
theorem re59 {k : Nat} (hk : k < 2) : ∀ (j a m : Nat) (σ : St), a + j = 10 → SS σ → (∀ i, i < a → sI σ 32 i = sI σ 52 (10 * k + i)) →
    ∃ σ', s_X11_restore_59 (m + j + 1) 30 (I (k : Nat)) (I (a : Nat)) σ = some (1, σ') ∧ Fr (fun x i => (x = 32 ∧ i < 10) ∨ (x = 30 ∧ i = 21)) σ σ' ∧ (∀ i, i < 10 → sI σ' 32 i = sI σ 52 (10 * k + i)) ∧ sI σ' 30 21 = 1 := by
  intro j
  induction j with
  | zero =>
    intro a m σ ha hs hi
    obtain rfl : a = 10 := (by omega)
    refine ⟨setI σ 30 21 1, ?_, (Fr.refl σ).put _ (Or.inr ⟨rfl, rfl⟩), fun i q => by rw [sIn (by omega)]; exact hi i q, sIe⟩
    rw [lp_re59]
    unfold sb_X11_restore_59
    rw [if_pos (by decide), if_pos (hs.o 11 30 (by decide)), lt_eq]
  | succ j ih =>
    intro a m σ ha hs hi
    have e : (10 : Int32) * I (k : Nat) + I (a : Nat) = I ((10 * k + a : Nat) : Int) := by rw [I_lit, I_mul, I_add]; rfl
    have f1 : Fr (fun x i => (x = 32 ∧ i < 10) ∨ (x = 30 ∧ i = 21)) σ (setI σ 32 a (sI σ 52 (10 * k + a))) := (Fr.refl σ).put _ (Or.inl ⟨rfl, by omega⟩)
    obtain ⟨σ', b1, b2, b3, b4⟩ := ih (a + 1) m (setI σ 32 a (sI σ 52 (10 * k + a))) (by omega) (f1.ss hs) (fun i q => by
      rw [sIn (x := 52) (by omega)]
      by_cases c : i = a
      · rw [c, sIe]
      · rw [sIn (by omega)]; exact hi i (by omega))
    refine ⟨σ', ?_, f1.trans b2, fun i q => by rw [b3 i q, sIn (by omega)], b4⟩
    rw [← b1, lp_re59]
    unfold sb_X11_restore_59
    rw [if_neg (by rw [I_lit, I_le (by omega) (by omega)]; omega), if_pos (hs.o 11 30 (by decide)), hs.p 30 1 32 (by decide), op_eq, hs.p 30 34 52 (by decide), op_eq, if_pos (hs.o 13 52 (by decide)), hs.len 52 20 (by decide), e, if_pos (inN (by omega) (by omega)), if_pos (hs.o 13 32 (by decide)), hs.len 32 11 (by decide), if_pos (inN (by omega) (by omega)), tNI (i := 10 * k + a) (by omega), tNI (i := a) (by omega), lt_eq, I_p1, lt_eq]
    rfl
theorem re26 {k : Nat} (hk : k < 2) : ∀ (j a m : Nat) (σ : St), a + j = 600 → SS σ → (∀ i, i < a → sI σ 31 i = sI σ 51 (600 * k + i)) →
    ∃ σ', s_X11_restore_26 (m + j + 1) 30 (I (k : Nat)) (I (a : Nat)) σ = some (1, σ') ∧ Fr (fun x i => (x = 31 ∧ i < 600) ∨ (x = 32 ∧ i < 10) ∨ (x = 30 ∧ i = 21)) σ σ' ∧ (∀ i, i < 600 → sI σ' 31 i = sI σ 51 (600 * k + i)) ∧ (∀ i, i < 10 → sI σ' 32 i = sI σ 52 (10 * k + i)) ∧ sI σ' 30 21 = 1 := by
  intro j
  induction j with
  | zero =>
    intro a m σ ha hs hi
    obtain rfl : a = 600 := (by omega)
    obtain ⟨σ', b1, b2, b3, b4⟩ := re59 hk 10 0 15989 σ rfl hs (fun i q => by omega)
    refine ⟨σ', ?_, b2.mono (fun x i q => Or.inr q), fun i q => by rw [b2.i 31 _ (by omega)]; exact hi i q, b3, b4⟩
    rw [lp_re26]
    unfold sb_X11_restore_26
    rw [if_pos (by decide)]
    exact b1
  | succ j ih =>
    intro a m σ ha hs hi
    have e : (600 : Int32) * I (k : Nat) + I (a : Nat) = I ((600 * k + a : Nat) : Int) := by rw [I_lit, I_mul, I_add]; rfl
    have f1 : Fr (fun x i => (x = 31 ∧ i < 600) ∨ (x = 32 ∧ i < 10) ∨ (x = 30 ∧ i = 21)) σ (setI σ 31 a (sI σ 51 (600 * k + a))) := (Fr.refl σ).put _ (Or.inl ⟨rfl, by omega⟩)
    obtain ⟨σ', b1, b2, b3, b4, b5⟩ := ih (a + 1) m (setI σ 31 a (sI σ 51 (600 * k + a))) (by omega) (f1.ss hs) (fun i q => by
      rw [sIn (x := 51) (by omega)]
      by_cases c : i = a
      · rw [c, sIe]
      · rw [sIn (by omega)]; exact hi i (by omega))
    refine ⟨σ', ?_, f1.trans b2, fun i q => by rw [b3 i q, sIn (by omega)], fun i q => by rw [b4 i q, sIn (by omega)], b5⟩
    rw [← b1, lp_re26]
    unfold sb_X11_restore_26
    rw [if_neg (by rw [I_lit, I_le (by omega) (by omega)]; omega), if_pos (hs.o 11 30 (by decide)), hs.p 30 0 31 (by decide), op_eq, hs.p 30 33 51 (by decide), op_eq, if_pos (hs.o 13 51 (by decide)), hs.len 51 1200 (by decide), e, if_pos (inN (by omega) (by omega)), if_pos (hs.o 13 31 (by decide)), hs.len 31 660 (by decide), if_pos (inN (by omega) (by omega)), tNI (i := 600 * k + a) (by omega), tNI (i := a) (by omega), lt_eq, I_p1, lt_eq]
    rfl
/-! the new states -/
def sv (k : Nat) (s0 s1 : Option TS) : Option TS := if k = 0 then s0 else s1
def im0 (k : Nat) (s0 : Option TS) (x : TS) : Option TS := if k = 0 then some x else s0
def im1 (k : Nat) (s1 : Option TS) (x : TS) : Option TS := if k = 1 then some x else s1
def rCh (ch c' : Nat → Nat) : Nat → Nat := fun i => if i < 640 then c' i else ch i
def rSl (sl l' : Nat → Nat) : Nat → Nat := fun s => if s < 10 then l' s else sl s
theorem r_win (c' l' : Nat → Nat) : ∀ s, s < 10 → rSl sl l' s = l' s ∧ ∀ i, i < 64 → rCh ch c' (64 * s + i) = c' (64 * s + i) := fun s hs => ⟨by unfold rSl; rw [if_pos hs], fun i hi => by unfold rCh; rw [if_pos (by omega)]⟩
theorem r_GI (hg : GI ch sl) {c' l' : Nat → Nat} (h : GI c' l') : GI (rCh ch c') (rSl sl l') := by
  refine h.sub ⟨⟨fun s hs => ?_, fun i => ?_⟩, fun s hs => Or.inr (r_win c' l' s hs)⟩
  · by_cases c : s < 10
    · obtain ⟨w1, w2⟩ := r_win (ch := ch) (sl := sl) c' l' s c
      have hb := h.1.1 s hs
      rw [w1]
      exact ⟨hb.1, fun i hi => by rw [w2 i (by omega)]; exact hb.2.1 i hi, fun i q1 q2 => by rw [w2 i q2]; exact hb.2.2 i q1 q2⟩
    · obtain rfl : s = 10 := (by omega)
      have hb := hg.1.1 10 hs
      have e : rSl sl l' 10 = sl 10 := by unfold rSl; rw [if_neg (by omega)]
      have e2 : ∀ i, i < 64 → rCh ch c' (64 * 10 + i) = ch (64 * 10 + i) := fun i hi => by unfold rCh; rw [if_neg (by omega)]
      rw [e]
      exact ⟨hb.1, fun i hi => by rw [e2 i (by omega)]; exact hb.2.1 i hi, fun i q1 q2 => by rw [e2 i q2]; exact hb.2.2 i q1 q2⟩
  · unfold rCh
    split
    · exact h.1.2 i
    · exact hg.1.2 i
theorem m_image (hp : GI ch sl) (g0 : OG s0) (g1 : OG s1) (h : MR ch sl t f s0 s1 σ) {k : Nat} (hk : k < 2) : ∃ σ', s_X11_image 30 (I (k : Nat)) σ = some (1, σ') ∧ MR ch sl t f (im0 k s0 (wCh ch, wSl sl)) (im1 k s1 (wCh ch, wSl sl)) σ' ∧ MF σ σ' := by
  have hs := h.1.1.1
  obtain ⟨σ', b1, b2, b3, b4, b5⟩ := im14 hk 600 0 15399 σ rfl hs (fun i q => by omega)
  have hmw := h.mt hp.1
  refine ⟨σ', ?_, ?_, (b2.fx noC).mf (fun a k q => by omega) (fun a k q => q.elim)⟩
  · unfold s_X11_image
    rw [show s_X11_in (I (k : Nat)) 0 1 σ = some (bI (decide (0 ≤ (k : Int) ∧ (k : Int) ≤ 1)), σ) from q_inb (z := (k : Int)) (by omega) (a := 0) (b := 1) (by omega) (by omega) σ, bd_eq, if_neg (by rw [bI0, decide_eq_true (by omega)]; decide)]
    exact b1
  · obtain ⟨h1, h6, h7, h9, h10, h11⟩ := h
    have mine : SvM k (some (wCh ch, wSl sl)) σ' := ⟨b5, fun s q => by rw [b4 s q]; exact hmw.2.1 s q, fun s q i hi => by
      have h60 := (hp.wipe.1.1 s (by omega)).1
      have hi' : i < wSl sl s := hi
      rw [b3 (60 * s + i) (by omega)]; exact hmw.2.2 s q i hi⟩
    have other : ∀ (k' : Nat) (o : Option TS), k' < 2 → k' ≠ k → OG o → SvM k' o σ → SvM k' o σ' := fun k' o q1 q2 qo q3 => by
      cases o with
      | none => show sI σ' 53 k' = 0; rw [b2.i 53 k' (by omega)]; exact q3
      | some x =>
        obtain ⟨z1, z2, z3⟩ := q3
        have gx := qo x rfl
        refine ⟨by rw [b2.i 53 k' (by omega)]; exact z1, fun s q => by rw [b2.i 52 _ (by omega)]; exact z2 s q, fun s q i hi => ?_⟩
        have h60 := (gx.1.1 s (by omega)).1
        rw [b2.i 51 _ (by omega)]
        exact z3 s q i hi
    refine ⟨h1.fr b2 (fun k => by omega), h6.fr b2 (fun k hk => by omega) (fun a k q1 q2 => by omega) (fun k => by omega), h7.fr b2 (by omega) (fun k => by omega), by rw [b2.i 30 2 (by omega)]; exact h9, ?_, ?_⟩
    · unfold im0
      by_cases c : k = 0
      · rw [if_pos c, ← c]; exact mine
      · rw [if_neg c]; exact other 0 s0 (by omega) (by omega) g0 h10
    · unfold im1
      by_cases c : k = 1
      · rw [if_pos c, ← c]; exact mine
      · rw [if_neg c]; exact other 1 s1 (by omega) (by omega) g1 h11
end
