/-! drop -/
section
variable {ch sl : Nat → Nat} {t : List Nat} {f : Int} {s0 s1 : Option TS} {S : Nat} {σ : St}
def dCh (ch : Nat → Nat) (k : Nat) : Nat → Nat := fun i => if 64 * k ≤ i ∧ i < 64 * k + 64 then 0 else ch i
def dSl (sl : Nat → Nat) (k : Nat) : Nat → Nat := fun s => if s = k then 0 else sl s
theorem dCh_s {k s i : Nat} (hs : s ≠ k) (hi : i < 64) : dCh ch k (64 * s + i) = ch (64 * s + i) := by unfold dCh; rw [if_neg (by omega)]
theorem dSl_s {k s : Nat} (hs : s ≠ k) : dSl sl k s = sl s := by unfold dSl; rw [if_neg hs]
theorem dSl_k {k : Nat} : dSl sl k k = 0 := by unfold dSl; rw [if_pos rfl]
theorem drop_sub (ht : Txt ch sl) {k : Nat} (hk : k < 10) : Sub ch sl (dCh ch k) (dSl sl k) := by
  refine ⟨⟨fun s hs => ?_, fun i => ?_⟩, fun s hs => ?_⟩
  · by_cases c : s = k
    · subst c
      rw [dSl_k]
      refine ⟨by omega, fun i hi => by omega, fun i _ q => ?_⟩
      unfold dCh
      rw [if_pos (by omega)]
    · have hb := ht.1 s hs
      rw [dSl_s c]
      exact ⟨hb.1, fun i hi => by rw [dCh_s c (by omega)]; exact hb.2.1 i hi, fun i q1 q2 => by rw [dCh_s c q2]; exact hb.2.2 i q1 q2⟩
  · unfold dCh
    split
    · omega
    · exact ht.2 i
  · by_cases c : s = k
    · subst c; exact Or.inl dSl_k
    · exact Or.inr ⟨dSl_s c, fun i hi => dCh_s c hi⟩
/-- a stock that keeps some of its items -/
theorem Stk.sub {arr arr' : Nat} {ch' sl' : Nat → Nat} {σ' : St} (ht : Txt ch sl) (h : Stk arr ch sl σ) (hsub : ∀ s, s < 10 → (sl' s = 0 ∧ sP σ' arr' s = none) ∨ (sl' s = sl s ∧ (∀ i, i < 64 → ch' (64 * s + i) = ch (64 * s + i)) ∧ sP σ' arr' s = sP σ arr s)) (hi : ∀ {it n k l : Nat} {x : Nat → Nat}, Itm σ it n x k l → Itm σ' it n x k l) : Stk arr' ch' sl' σ' := by
  intro s hs
  have := h s hs
  have h60 := (ht.1 s (by omega)).1
  rcases hsub s hs with ⟨w1, w2⟩ | ⟨w1, w2, w3⟩
  · rw [if_pos w1]; exact w2
  · rw [w1]
    by_cases c : sl s = 0
    · rw [if_pos c] at this ⊢; rw [w3]; exact this
    · rw [if_neg c] at this ⊢
      obtain ⟨it, b1, b2⟩ := this
      obtain ⟨e1, e2⟩ := sR_mv ht (t := s) (by omega) w2
      refine ⟨it, by rw [w3]; exact b1, (hi b2).ext (fun i hi => w2 i (by omega)) ?_ ?_⟩
      · unfold nN sR
        rw [w1, if_neg c, if_neg c]
        split
        · rw [e1]
        · rw [e2]
      · unfold lL sR
        rw [w1, if_neg c, if_neg c]
        split
        · rw [e1]
        · rw [e2]
theorem isO_k {p a : Nat} (h : isO σ p a = true) : (sh σ a).1 = p := by
  unfold isO at h
  simp at h
  exact h.2
/-- only references of one array change, and some ints -/
def PF (D : Nat) (CI : Nat → Nat → Prop) (σ σ' : St) : Prop := sn σ' = sn σ ∧ sz σ' = sz σ ∧ sh σ' = sh σ ∧ sL σ' = sL σ ∧ (∀ a k, ¬ CI a k → sI σ' a k = sI σ a k) ∧ ∀ a k, a ≠ D → sP σ' a k = sP σ a k
theorem PF.ss {D : Nat} {CI : Nat → Nat → Prop} {σ' : St} (h : PF D CI σ σ') (hD : D = 5 ∨ D = 6 ∨ 54 ≤ D) (hs : SS σ) : SS σ' := by
  obtain ⟨a1, a2, a3, a4, a5, a6⟩ := h
  refine ⟨by rw [a1]; exact hs.1, fun a h1 h2 => by rw [a3]; exact hs.2.1 a h1 h2, fun q hq => ?_⟩
  have hk : q.1 ≠ 5 ∧ q.1 ≠ 6 ∧ q.1 < 54 := by
    have : ∀ q ∈ stP, q.1 ≠ 5 ∧ q.1 ≠ 6 ∧ q.1 < 54 := by decide
    exact this q hq
  rw [a6 _ _ (by omega)]
  exact hs.2.2 q hq
theorem PF.itm {D : Nat} {CI : Nat → Nat → Prop} {σ' : St} (h : PF D CI σ σ') (hD : D < 54 ∨ isO σ 16 D = true) (hc : ∀ a k, CI a k → a < 54) {it n k l : Nat} {x : Nat → Nat} (hi : Itm σ it n x k l) : Itm σ' it n x k l := by
  obtain ⟨b1, b2, b3, b4, c, b5, b6, b7, b8, b9⟩ := hi
  obtain ⟨a1, a2, a3, a4, a5, a6⟩ := h
  have hne : it ≠ D := by
    intro e
    subst e
    rcases hD with hD | hD
    · omega
    · have q1 := isO_k b1
      have q2 := isO_k hD
      omega
  exact ⟨by unfold isO at b1 ⊢; rw [a3, a1]; exact b1, b2, by rw [a5 it 1 (fun q => by have := hc _ _ q; omega)]; exact b3, by rw [a5 it 2 (fun q => by have := hc _ _ q; omega)]; exact b4, c, by rw [a6 it 0 hne]; exact b5, b6, by unfold isO at b7 ⊢; rw [a3, a1]; exact b7, by unfold alen at b8 ⊢; rw [a3]; exact b8, fun i hi => by rw [a5 c i (fun q => by have := hc _ _ q; omega)]; exact b9 i hi⟩
theorem PF.svc {D : Nat} {CI : Nat → Nat → Prop} {σ' : St} (h : PF D CI σ σ') (hD : D = 5 ∨ isO σ 16 D = true ∧ 54 ≤ D) (hc : ∀ a k, CI a k → a < 54) {k st arr : Nat} {o : Option TS} (hv : SvC k st arr o σ) (hne : o.isSome = true → arr ≠ D) : SvC k st arr o σ' := by
  have hItm : ∀ {it n k l : Nat} {x : Nat → Nat}, Itm σ it n x k l → Itm σ' it n x k l := fun q => h.itm (hD.elim (fun e => Or.inl (by omega)) (fun e => Or.inr e.1)) hc q
  obtain ⟨a1, a2, a3, a4, a5, a6⟩ := h
  cases o with
  | none => show sP σ' 6 k = none; rw [a6 6 k (by omega)]; exact hv
  | some x =>
    obtain ⟨b1, b2, b3, b4, b5, b6, b7, b8⟩ := hv
    have hst : st ≠ D := by
      intro e
      subst e
      rcases hD with hD | ⟨hD, _⟩
      · omega
      · have q1 := isO_k b3
        have q2 := isO_k hD
        omega
    refine ⟨by rw [a6 6 k (by omega)]; exact b1, b2, by unfold isO at b3 ⊢; rw [a3, a1]; exact b3, by rw [a6 st 0 hst]; exact b4, b5, by unfold isO at b6 ⊢; rw [a3, a1]; exact b6, by unfold alen at b7 ⊢; rw [a3]; exact b7, ?_⟩
    intro s hs
    have := b8 s hs
    rw [a6 arr s (hne rfl)]
    by_cases c : x.2 s = 0
    · rw [if_pos c] at this ⊢; exact this
    · rw [if_neg c] at this ⊢
      obtain ⟨it, q1, q2⟩ := this
      exact ⟨it, q1, hItm q2⟩
/-- the class's stock has changed: it is to prepare anew -/
theorem CR.stale {ch' sl' : Nat → Nat} {σ1 : St} (hc : CR ch sl t f s0 s1 S σ) (hf : PF 5 (fun a k => a = 1 ∧ k = 11) σ σ1) (h11 : sI σ1 1 11 = 1) (hst : Stk 5 (wCh ch') (wSl sl') σ1) (hb : sl' 10 = sl 10 ∧ ∀ i, i < sl 10 → ch' (640 + i) = ch (640 + i)) : CR ch' sl' t f s0 s1 S σ1 ∧ CF σ σ1 ∧ SS σ1 := by
  obtain ⟨hs, h54⟩ := hc.h54
  obtain ⟨⟨_, hA, hZ, _⟩, hw⟩ := hc.1.core
  have hs1 := hf.ss (Or.inl rfl) hs
  obtain ⟨_, ⟨h2, h3⟩, ⟨h4, h5⟩, h6, st0, arr0, st1, arr1, h7, h8, h9⟩ := hc
  have i := fun a k (q : ¬ (a = 1 ∧ k = 11)) => hf.2.2.2.2.1 a k q
  have L : ∀ a k, sL σ1 a k = sL σ a k := fun a k => by rw [hf.2.2.2.1]
  have ne : ∀ {k st arr : Nat} {o : Option TS}, SvC k st arr o σ → o.isSome = true → arr ≠ 5 := fun {k st arr o} h q => by
    cases o with
    | none => cases q
    | some x => obtain ⟨_, _, _, _, b5, _⟩ := h; omega
  refine ⟨⟨Or.inr ⟨⟨hs1, fun x y hx hy => by rw [L]; exact hA x y hx hy, fun x hx => by rw [L]; exact hZ x hx, hst⟩, h11, by rw [L]; exact hw.1, fun x hx => by rw [L]; exact hw.2 x hx⟩, ⟨by rw [hb.1, i 2 1 (by omega)]; exact h2, fun x hx => by rw [hb.1] at hx; rw [hb.2 x hx, i 3 x (by omega)]; exact h3 x hx⟩, ⟨by rw [i 27 1 (by omega)]; exact h4, fun x v hx => by rw [i 28 x (by omega)]; exact h5 x v hx⟩, by rw [i 1 10 (by omega)]; exact h6, st0, arr0, st1, arr1, hf.svc (Or.inl rfl) (fun a k q => by omega) h7 (ne h7), hf.svc (Or.inl rfl) (fun a k q => by omega) h8 (ne h8), h9⟩, ⟨by rw [hf.1]; exact Nat.le_refl _, fun a _ => by rw [hf.2.2.1], fun a k q1 q2 => ⟨i a k (by omega), L a k⟩⟩, hs1⟩
/-- one slot is emptied -/
theorem c_drop1 (hp : GI ch sl) (hc : CR ch sl t f s0 s1 S σ) {k : Nat} (hk : k < 10) : CR (dCh ch k) (dSl sl k) t f s0 s1 S (setI (setP σ 5 k none) 1 11 1) ∧ CF σ (setI (setP σ 5 k none) 1 11 1) ∧ SS (setI (setP σ 5 k none) 1 11 1) := by
  have hf : PF 5 (fun a k => a = 1 ∧ k = 11) σ (setI (setP σ 5 k none) 1 11 1) := ⟨rfl, rfl, rfl, rfl, fun a j q => by rw [sIn (by omega)]; rfl, fun a j q => by rw [sP_I, sP_P, if_neg (fun e => q e.1)]⟩
  have hst := hc.1.core.1.2.2.2
  refine hc.stale hf sIe ?_ ⟨dSl_s (by omega), fun i hi => ?_⟩
  · refine Stk.sub hp.wipe.1 hst (fun s hs => ?_) (fun q => hf.itm (Or.inl (by omega)) (fun a k q => by omega) q)
    by_cases c : s = k
    · subst c
      refine Or.inl ⟨by rw [wSl_s _ hs, dSl_k], ?_⟩
      rw [sP_I, sP_P, if_pos ⟨rfl, rfl⟩]
    · refine Or.inr ⟨by rw [wSl_s _ hs, wSl_s _ hs, dSl_s c], fun i hi => by rw [wCh_s _ hs hi, wCh_s _ hs hi, dCh_s c hi], ?_⟩
      rw [sP_I, sP_P, if_neg (fun e => c e.2)]
  · have h60 := (hp.1.1 10 (by omega)).1
    have := dCh_s (ch := ch) (k := k) (s := 10) (i := i) (by omega) (by omega)
    exact this
theorem m_drop1 (hp : GI ch sl) (h : MR ch sl t f s0 s1 σ) {k : Nat} (hk : k < 10) : MR (dCh ch k) (dSl sl k) t f s0 s1 (setI (setI σ 32 k (-6)) 30 21 1) ∧ MF σ (setI (setI σ 32 k (-6)) 30 21 1) := by
  have fr : Fr (fun a j => (a = 32 ∧ j = k) ∨ (a = 30 ∧ j = 21)) σ (setI (setI σ 32 k (-6)) 30 21 1) := ((Fr.refl σ).put _ (Or.inl ⟨rfl, rfl⟩)).put _ (Or.inr ⟨rfl, rfl⟩)
  obtain ⟨⟨h1, h4, h5⟩, _, h7, h9, h10, h11⟩ := h
  refine ⟨⟨⟨⟨fr.ss h1.1, fun s hs => ?_, fun s hs x hx => ?_⟩, by rw [dSl_s (by omega), fr.i 32 10 (by omega)]; exact h4, fun x hx => ?_⟩, Or.inl sIe, h7.fr fr (by omega) (fun k => by omega), by rw [fr.i 30 2 (by omega)]; exact h9, h10.cg (fun a j q1 q2 => fr.i a j (by omega)), h11.cg (fun a j q1 q2 => fr.i a j (by omega))⟩, (fr.fx noC).mf (fun a k q => by omega) (fun a k q => q.elim)⟩
  · by_cases c : s = k
    · subst c
      rw [dSl_k, if_pos rfl, sIn (by omega), sIe]
      rfl
    · rw [dSl_s c, fr.i 32 s (by omega)]; exact h1.2.1 s hs
  · by_cases c : s = k
    · subst c; rw [dSl_k] at hx; omega
    · rw [dSl_s c] at hx
      have hs60 := (hp.1.1 s (by omega)).1
      rw [dCh_s c (by omega), fr.i 31 _ (by omega)]; exact h1.2.2 s hs x hx
  · rw [dSl_s (by omega)] at hx
    have h60 := (hp.1.1 10 (by omega)).1
    rw [show dCh ch k (640 + x) = ch (640 + x) from dCh_s (ch := ch) (s := 10) (by omega) (by omega), fr.i 31 _ (by omega)]
    exact h5 x hx
theorem thr_w (a n : Nat) (han : a + n ≤ 10) : thr (wSl sl) a n = thr sl a n := by
  unfold thr
  have : ∀ k, k ≤ n → stB (fun k => decide (wSl sl (a + k) ≠ 0)) k = stB (fun k => decide (sl (a + k) ≠ 0)) k := by
    intro k
    induction k with
    | zero => intro _; rfl
    | succ k ih => intro hk; rw [stB, stB, ih (by omega), wSl_s sl (show a + k < 10 by omega)]
  exact this n (Nat.le_refl n)
theorem drop_step (hp : PS ch sl t f s0 s1) (hm : MR ch sl t f s0 s1 σ) (hc : CR ch sl t f s0 s1 S σ) {k : Nat} (hk : k < 10) {a : Int32} {cc mc : St → Option (Int32 × St)} (h1 : cc σ = some (a, setI (setP σ 5 k none) 1 11 1)) (h2 : ∀ σ1, MR ch sl t f s0 s1 σ1 → mc σ1 = some (a, setI (setI σ1 32 k (-6)) 30 21 1)) : Step2 ch sl t f s0 s1 S σ cc mc := by
  refine mkStep (a := a) (ch' := dCh ch k) (sl' := dSl sl k) (t' := t) (f' := f) (s0' := s0) (s1' := s1) hm ⟨hp.1.sub (drop_sub hp.1.1 hk), hp.2⟩ ?_ (fun σ1 h => ?_)
  · obtain ⟨b1, b2, _⟩ := c_drop1 hp.1 hc hk
    exact ⟨_, S, h1, b1, by omega, b2, Nat.le_add_right _ _, Nat.le_add_right _ _⟩
  · obtain ⟨b1, b2⟩ := m_drop1 hp.1 h hk
    exact ⟨_, h2 σ1 h, b1, b2⟩
theorem same_step (hp : PS ch sl t f s0 s1) (hm : MR ch sl t f s0 s1 σ) (hc : CR ch sl t f s0 s1 S σ) {a : Int32} {cc mc : St → Option (Int32 × St)} (h1 : cc σ = some (a, σ)) (h2 : ∀ σ1, MR ch sl t f s0 s1 σ1 → mc σ1 = some (a, σ1)) : Step2 ch sl t f s0 s1 S σ cc mc :=
  mkStep (a := a) hm hp (by rw [h1]; exact CHf.now hc) (fun σ1 h => by rw [h2 σ1 h]; exact MHf.now h)
theorem q_set (hs : SS σ) {k : Nat} (hk : k < 10) : s_X6_set 4 (I (k : Nat)) none σ = some ((), setP σ 5 k none) := by
  unfold s_X6_set
  rw [if_neg (by rw [I_lit, I_lt (by omega) (by omega)]; omega), if_neg (by rw [I_lit, I_le (by omega) (by omega)]; omega), if_pos (hs.o 6 4 (by decide)), hs.p 4 0 5 (by decide), op_eq, if_pos (hs.o 16 5 (by decide)), on_none, hs.len 5 10 (by decide), if_pos (inN hk (by omega)), tNI (by omega), lt_eq]
theorem q_thereG (hm : MT ch sl σ) (ht : Txt ch sl) {a n : Nat} (han : a + n ≤ 10) (hn : n ≤ 8) : s_X11_there 30 (I (a : Nat)) (I ((a + n : Nat) - 1 : Int)) σ = some (I ((thr sl a n : Nat) : Int), σ) := q_there hm ht han hn
theorem thr_lt {a n : Nat} (hn : n ≤ 8) : thr sl a n < 256 := by
  have h1 := stB_lt (fun k => decide (sl (a + k) ≠ 0)) n
  have h2 : 2 ^ n ≤ 2 ^ 8 := Nat.pow_le_pow_right (by decide) hn
  unfold thr
  omega
/-- a numbered slot -/
theorem st_dropN (hp : PS ch sl t f s0 s1) (hc : CR ch sl t f s0 s1 S σ) (hm : MR ch sl t f s0 s1 σ) {z n : Int} {a w : Nat} (hn : -2147483648 ≤ n ∧ n < 2147483648) (haw : (a = 1 ∧ w = 5 ∧ z = 0) ∨ (a = 6 ∧ w = 4 ∧ z = 1)) :
    Step2 ch sl t f s0 s1 S σ (fun σ => bd (s_X10_dropNumbered 1 (I (a : Nat)) (I (w : Nat)) (I n) σ) fun r σ3 => some (r, σ3)) (s_X11_drop 30 (I z) (I n)) := by
  have hs := hc.h54.1
  have hst := hc.1.core.1.2.2.2
  have htx := hp.1.1
  have haw2 : a + w ≤ 10 ∧ w ≤ 8 ∧ 1 ≤ a := by omega
  -- the reference, up to the slot
  have hz : -2147483648 ≤ z ∧ z < 2147483648 := by omega
  by_cases c1 : 0 ≤ n ∧ n < w
  · obtain ⟨x, rfl⟩ := Int.eq_ofNat_of_zero_le c1.1
    have hk : a + x < 10 := by omega
    have eax : I (a : Nat) + I (x : Nat) = I ((a + x : Nat) : Int) := by rw [I_add]; rfl
    have hit := hst (a + x) hk
    have hcell : ∀ {σ1 : St}, MR ch sl t f s0 s1 σ1 → sI σ1 32 (a + x) = if sl (a + x) = 0 then I (-6) else I (sl (a + x) : Nat) := fun h => h.1.1.2.1 (a + x) hk
    have hx60 := (htx.1 (a + x) (by omega)).1
    -- the reference from the slot on
    have mneg : ∀ {σ1 : St}, MR ch sl t f s0 s1 σ1 → sl (a + x) = 0 → s_X11_drop 30 (I z) (I (x : Nat)) σ1 = some (I (-1), σ1) := by
      intro σ1 h h0
      have hs1 := h.1.1.1
      have hv := hcell h
      rw [if_pos h0] at hv
      unfold s_X11_drop
      rw [show s_X11_in (I z) 0 2 σ1 = some (bI (decide (0 ≤ z ∧ z ≤ 2)), σ1) from q_inb hz (a := 0) (b := 2) (by omega) (by omega) σ1, bd_eq, if_neg (by rw [bI0, decide_eq_true (by omega)]; decide)]
      rcases haw with ⟨rfl, rfl, rfl⟩ | ⟨rfl, rfl, rfl⟩
      · rw [if_pos (by decide), show s_X11_in (I (x : Nat)) 0 4 σ1 = some (bI (decide (0 ≤ (x : Int) ∧ (x : Int) ≤ 4)), σ1) from q_inb (z := (x : Int)) (by omega) (a := 0) (b := 4) (by omega) (by omega) σ1, bd_eq, if_neg (by rw [bI0, decide_eq_true (by omega)]; decide), if_pos (hs1.o 11 30 (by decide)), hs1.p 30 1 32 (by decide), op_eq, if_pos (hs1.o 13 32 (by decide)), hs1.len 32 11 (by decide), show (1 : Int32) + I (x : Nat) = I ((1 + x : Nat) : Int) from eax, if_pos (inN (by omega) (by omega)), tNI (by omega), hv, if_pos (by decide)]
        rfl
      · rw [if_neg (by decide)]
        unfold s_X11_drop_36
        rw [if_pos (by decide), show s_X11_in (I (x : Nat)) 0 3 σ1 = some (bI (decide (0 ≤ (x : Int) ∧ (x : Int) ≤ 3)), σ1) from q_inb (z := (x : Int)) (by omega) (a := 0) (b := 3) (by omega) (by omega) σ1, bd_eq, if_neg (by rw [bI0, decide_eq_true (by omega)]; decide), if_pos (hs1.o 11 30 (by decide)), hs1.p 30 1 32 (by decide), op_eq, if_pos (hs1.o 13 32 (by decide)), hs1.len 32 11 (by decide), show (6 : Int32) + I (x : Nat) = I ((6 + x : Nat) : Int) from eax, if_pos (inN (by omega) (by omega)), tNI (by omega), hv, if_neg (by decide)]
        rfl
    have mpos : ∀ {σ1 : St}, MR ch sl t f s0 s1 σ1 → sl (a + x) ≠ 0 → s_X11_drop 30 (I z) (I (x : Nat)) σ1 = some (I ((pcn (thr (dSl sl (a + x)) a w) : Nat) : Int), setI (setI σ1 32 (a + x) (-6)) 30 21 1) := by
      intro σ1 h h0
      have hs1 := h.1.1.1
      have hv := hcell h
      rw [if_neg h0] at hv
      have hs2 := hs1.i 32 (a + x) (-6)
      have hmr := (m_drop1 hp.1 h hk).1
      have hT := (drop_sub htx hk).1
      have hth := q_there hmr.1.1 hT haw2.1 haw2.2.1
      have hbits := q_bits (thr_lt (sl := dSl sl (a + x)) (a := a) haw2.2.1) (setI (setI σ1 32 (a + x) (-6)) 30 21 1)
      unfold s_X11_drop
      rw [show s_X11_in (I z) 0 2 σ1 = some (bI (decide (0 ≤ z ∧ z ≤ 2)), σ1) from q_inb hz (a := 0) (b := 2) (by omega) (by omega) σ1, bd_eq, if_neg (by rw [bI0, decide_eq_true (by omega)]; decide)]
      rcases haw with ⟨rfl, rfl, rfl⟩ | ⟨rfl, rfl, rfl⟩
      · rw [if_pos (by decide), show s_X11_in (I (x : Nat)) 0 4 σ1 = some (bI (decide (0 ≤ (x : Int) ∧ (x : Int) ≤ 4)), σ1) from q_inb (z := (x : Int)) (by omega) (a := 0) (b := 4) (by omega) (by omega) σ1, bd_eq, if_neg (by rw [bI0, decide_eq_true (by omega)]; decide), if_pos (hs1.o 11 30 (by decide)), hs1.p 30 1 32 (by decide), op_eq, if_pos (hs1.o 13 32 (by decide)), hs1.len 32 11 (by decide), show (1 : Int32) + I (x : Nat) = I ((1 + x : Nat) : Int) from eax, if_pos (inN (by omega) (by omega)), tNI (by omega), hv, if_neg (by rw [I_lit, I_lt (by omega) (by omega)]; omega)]
        unfold s_X11_drop_36 s_X11_drop_64 s_X11_drop_81 s_X11_drop_108
        rw [if_neg (by decide), if_neg (by decide), if_pos (hs1.o 11 30 (by decide)), hs1.p 30 1 32 (by decide), op_eq, if_pos (by decide), if_pos (hs1.o 13 32 (by decide)), hs1.len 32 11 (by decide), show (1 : Int32) + I (x : Nat) = I ((1 + x : Nat) : Int) from eax, if_pos (inN (by omega) (by omega)), tNI (by omega), lt_eq, if_pos (hs2.o 11 30 (by decide)), lt_eq, if_pos (by decide), show s_X11_there 30 1 5 (setI (setI σ1 32 (1 + x) (-6)) 30 21 1) = some (I ((thr (dSl sl (1 + x)) 1 5 : Nat) : Int), setI (setI σ1 32 (1 + x) (-6)) 30 21 1) from hth, bd_eq, hbits, bd_eq]
      · rw [if_neg (by decide)]
        unfold s_X11_drop_36 s_X11_drop_64 s_X11_drop_81 s_X11_drop_108
        rw [if_pos (by decide), show s_X11_in (I (x : Nat)) 0 3 σ1 = some (bI (decide (0 ≤ (x : Int) ∧ (x : Int) ≤ 3)), σ1) from q_inb (z := (x : Int)) (by omega) (a := 0) (b := 3) (by omega) (by omega) σ1, bd_eq, if_neg (by rw [bI0, decide_eq_true (by omega)]; decide), if_pos (hs1.o 11 30 (by decide)), hs1.p 30 1 32 (by decide), op_eq, if_pos (hs1.o 13 32 (by decide)), hs1.len 32 11 (by decide), show (6 : Int32) + I (x : Nat) = I ((6 + x : Nat) : Int) from eax, if_pos (inN (by omega) (by omega)), tNI (by omega), hv, if_pos (by rw [I_lit, I_le (by omega) (by omega)]; omega), if_neg (by decide), if_pos (hs1.o 11 30 (by decide)), op_eq, if_neg (by decide), if_pos (by decide), if_pos (hs1.o 13 32 (by decide)), hs1.len 32 11 (by decide), if_pos (inN (by omega) (by omega)), lt_eq, if_pos (hs2.o 11 30 (by decide)), lt_eq, if_neg (by decide), if_pos (by decide), show s_X11_there 30 6 9 (setI (setI σ1 32 (6 + x) (-6)) 30 21 1) = some (I ((thr (dSl sl (6 + x)) 6 4 : Nat) : Int), setI (setI σ1 32 (6 + x) (-6)) 30 21 1) from hth, bd_eq, hbits, bd_eq]
    by_cases h0 : sl (a + x) = 0
    · refine same_step hp hm hc (a := I (-1)) ?_ (fun σ1 h => mneg h h0)
      rw [if_pos (by rw [wSl_s sl hk]; exact h0)] at hit
      show bd (s_X10_dropNumbered 1 (I (a : Nat)) (I (w : Nat)) (I (x : Nat)) σ) _ = _
      unfold s_X10_dropNumbered
      rw [if_neg (by rw [I_lit, I_lt (by omega) (by omega)]; omega), if_neg (by rw [I_le (by omega) (by omega)]; omega), if_pos (hs.o 10 1 (by decide)), hs.p 1 1 4 (by decide), op_eq, if_pos (hs.o 6 4 (by decide)), eax, q_at hs hk, bd_eq, hit, on_none, bd_eq]
      rfl
    · refine drop_step hp hm hc hk (a := I ((pcn (thr (dSl sl (a + x)) a w) : Nat) : Int)) ?_ (fun σ1 h => mpos h h0)
      rw [if_neg (by rw [wSl_s sl hk]; exact h0)] at hit
      obtain ⟨it, i1, _⟩ := hit
      have hs2 : SS (setP σ 5 (a + x) none) := (show PF 5 (fun _ _ => False) σ (setP σ 5 (a + x) none) from ⟨rfl, rfl, rfl, rfl, fun _ _ _ => rfl, fun a j q => by rw [sP_P, if_neg (fun e => q e.1)]⟩).ss (Or.inl rfl) hs
      obtain ⟨hc2, _, hs3⟩ := c_drop1 hp.1 hc hk
      have hst3 := hc2.1.core.1.2.2.2
      have hpr := q_pres hs3 hst3 haw2.1 haw2.2.1 w 0 (15999 - w) (by omega)
      rw [show 15999 - w + w + 1 = 16000 by omega, thr_w a w haw2.1] at hpr
      have hpr' : s_X6_present 4 (I (a : Nat)) (I (w : Nat)) (setI (setP σ 5 (a + x) none) 1 11 1) = some (I ((thr (dSl sl (a + x)) a w : Nat) : Int), setI (setP σ 5 (a + x) none) 1 11 1) := hpr
      show bd (s_X10_dropNumbered 1 (I (a : Nat)) (I (w : Nat)) (I (x : Nat)) σ) _ = _
      unfold s_X10_dropNumbered
      rw [if_neg (by rw [I_lit, I_lt (by omega) (by omega)]; omega), if_neg (by rw [I_le (by omega) (by omega)]; omega), if_pos (hs.o 10 1 (by decide)), hs.p 1 1 4 (by decide), op_eq, if_pos (hs.o 6 4 (by decide)), eax, q_at hs hk, bd_eq, i1, on_some', if_pos (hs.o 10 1 (by decide)), hs.p 1 1 4 (by decide), op_eq, if_pos (hs.o 6 4 (by decide)), q_set hs hk, bd_eq, if_pos (hs2.o 10 1 (by decide)), lt_eq, hs3.p 1 1 4 (by decide), op_eq, if_pos (hs3.o 6 4 (by decide)), hpr', bd_eq, q_bitCount (thr_lt haw2.2.1), bd_eq, bd_eq]
  · refine same_step hp hm hc (a := I (-1)) ?_ (fun σ1 h => ?_)
    · show bd (s_X10_dropNumbered 1 (I (a : Nat)) (I (w : Nat)) (I n) σ) _ = _
      unfold s_X10_dropNumbered
      by_cases c2 : n < 0
      · rw [if_pos (by rw [I_lit, I_lt hn (by omega)]; exact c2), bd_eq]; rfl
      · rw [if_neg (by rw [I_lit, I_lt hn (by omega)]; exact c2), if_pos (by rw [I_le (by omega) hn]; omega), bd_eq]; rfl
    · unfold s_X11_drop
      rw [show s_X11_in (I z) 0 2 σ1 = some (bI (decide (0 ≤ z ∧ z ≤ 2)), σ1) from q_inb hz (a := 0) (b := 2) (by omega) (by omega) σ1, bd_eq, if_neg (by rw [bI0, decide_eq_true (by omega)]; decide)]
      rcases haw with ⟨rfl, rfl, rfl⟩ | ⟨rfl, rfl, rfl⟩
      · rw [if_pos (by decide), show s_X11_in (I n) 0 4 σ1 = some (bI (decide (0 ≤ n ∧ n ≤ 4)), σ1) from q_inb hn (a := 0) (b := 4) (by omega) (by omega) σ1, bd_eq, if_pos (by rw [bI0]; exact decide_eq_false (by omega))]
        rfl
      · rw [if_neg (by decide)]
        unfold s_X11_drop_36
        rw [if_pos (by decide), show s_X11_in (I n) 0 3 σ1 = some (bI (decide (0 ≤ n ∧ n ≤ 3)), σ1) from q_inb hn (a := 0) (b := 3) (by omega) (by omega) σ1, bd_eq, if_pos (by rw [bI0]; exact decide_eq_false (by omega))]
        rfl
theorem st_drop (hp : PS ch sl t f s0 s1) (hc : CR ch sl t f s0 s1 S σ) (hm : MR ch sl t f s0 s1 σ) {z n : Int} (hz : -2147483648 ≤ z ∧ z < 2147483648) (hn : -2147483648 ≤ n ∧ n < 2147483648) : Step2 ch sl t f s0 s1 S σ (s_X10_drop 1 (I z) (I n)) (s_X11_drop 30 (I z) (I n)) := by
  have hs := hc.h54.1
  have htx := hp.1.1
  by_cases c0 : z = 0
  · have e : ∀ τ, SS τ → s_X10_drop 1 (I z) (I n) τ = bd (s_X10_dropNumbered 1 (I ((1 : Nat) : Int)) (I ((5 : Nat) : Int)) (I n) τ) fun r σ3 => some (r, σ3) := fun τ hτ => by
      unfold s_X10_drop
      rw [if_pos (by rw [c0]; rfl), if_pos (hτ.o 10 1 (by decide))]
      rfl
    obtain ⟨a, σ1, σ2, q1, q⟩ := st_dropN hp hc hm hn (z := z) (a := 1) (w := 5) (Or.inl ⟨rfl, rfl, c0⟩)
    exact ⟨a, σ1, σ2, by rw [e σ hs]; exact q1, q⟩
  by_cases c1 : z = 1
  · have e : ∀ τ, SS τ → s_X10_drop 1 (I z) (I n) τ = bd (s_X10_dropNumbered 1 (I ((6 : Nat) : Int)) (I ((4 : Nat) : Int)) (I n) τ) fun r σ3 => some (r, σ3) := fun τ hτ => by
      unfold s_X10_drop
      rw [if_neg (by rw [c1]; decide), if_pos (by rw [c1]; rfl), if_pos (hτ.o 10 1 (by decide))]
      rfl
    obtain ⟨a, σ1, σ2, q1, q⟩ := st_dropN hp hc hm hn (z := z) (a := 6) (w := 4) (Or.inr ⟨rfl, rfl, c1⟩)
    exact ⟨a, σ1, σ2, by rw [e σ hs]; exact q1, q⟩
  by_cases c2 : z = 2
  · subst c2
    have h60 := (htx.1 0 (by omega)).1
    have mdr : ∀ {σ1 : St}, MR ch sl t f s0 s1 σ1 → s_X11_drop 30 (I 2) (I n) σ1 = (if sl 0 = 0 then some (I (-3), σ1) else some (I ((0 : Nat) : Int), setI (setI σ1 32 0 (-6)) 30 21 1)) := by
      intro σ1 h
      have hs1 := h.1.1.1
      have hv := h.1.1.2.1 0 (by omega)
      have hs2 := hs1.i 32 0 (-6)
      unfold s_X11_drop s_X11_drop_36 s_X11_drop_64
      rw [show s_X11_in (I 2) 0 2 σ1 = some (bI (decide ((0 : Int) ≤ 2 ∧ (2 : Int) ≤ 2)), σ1) from q_inb (z := 2) (by omega) (a := 0) (b := 2) (by omega) (by omega) σ1, bd_eq, if_neg (by decide), if_neg (by decide), if_neg (by decide), if_pos (by decide), if_pos (hs1.o 11 30 (by decide)), hs1.p 30 1 32 (by decide), op_eq, if_pos (hs1.o 13 32 (by decide)), hs1.len 32 11 (by decide), if_pos (by decide), show ((0 : Int32).toNatClampNeg) = 0 from rfl, hv]
      by_cases h0 : sl 0 = 0
      · rw [if_pos h0, if_neg (by decide), if_pos h0]; rfl
      · rw [if_neg h0, if_pos (by rw [I_lit, I_le (by omega) (by omega)]; omega), if_neg h0]
        unfold s_X11_drop_81 s_X11_drop_108
        rw [if_pos (hs1.o 11 30 (by decide)), hs1.p 30 1 32 (by decide), op_eq, if_neg (by decide), if_neg (by decide), if_pos (hs1.o 13 32 (by decide)), hs1.len 32 11 (by decide), if_pos (by decide), show ((0 : Int32).toNatClampNeg) = 0 from rfl, lt_eq, if_pos (hs2.o 11 30 (by decide)), lt_eq, if_neg (by decide), if_neg (by decide)]
        rfl
    have e : s_X10_drop 1 (I 2) (I n) σ = bd (s_X10_dropGoal 1 σ) fun r σ3 => some (r, σ3) := by
      unfold s_X10_drop
      rw [if_neg (by decide), if_neg (by decide), if_pos (by decide), if_pos (hs.o 10 1 (by decide))]
    by_cases h0 : sl 0 = 0
    · refine same_step hp hm hc (a := I (-3)) ?_ (fun σ1 h => by rw [mdr h, if_pos h0])
      rw [e]
      unfold s_X10_dropGoal
      rw [if_pos (hs.o 10 1 (by decide)), q_hasGoal hs hc.1.core.1.2.2.2, bd_eq, if_pos (by rw [bI0]; exact decide_eq_false (fun q => q (by rw [wSl_s sl (by omega)]; exact h0))), bd_eq]
      rfl
    · refine drop_step hp hm hc (k := 0) (by omega) (a := I ((0 : Nat) : Int)) ?_ (fun σ1 h => by rw [mdr h, if_neg h0])
      have hs2 : SS (setP σ 5 0 none) := (show PF 5 (fun _ _ => False) σ (setP σ 5 0 none) from ⟨rfl, rfl, rfl, rfl, fun _ _ _ => rfl, fun a j q => by rw [sP_P, if_neg (fun e => q e.1)]⟩).ss (Or.inl rfl) hs
      rw [e]
      unfold s_X10_dropGoal
      rw [if_pos (hs.o 10 1 (by decide)), q_hasGoal hs hc.1.core.1.2.2.2, bd_eq, if_neg (by rw [bI0, decide_eq_true (show wSl sl 0 ≠ 0 by rw [wSl_s sl (by omega)]; exact h0)]; decide), if_pos (hs.o 10 1 (by decide)), hs.p 1 1 4 (by decide), op_eq, if_pos (hs.o 6 4 (by decide)), show s_X6_set 4 0 none σ = some ((), setP σ 5 0 none) from q_set hs (k := 0) (by omega), bd_eq, if_pos (hs2.o 10 1 (by decide)), lt_eq, bd_eq]
      rfl
  · refine same_step hp hm hc (a := I (-2)) ?_ (fun σ1 h => ?_)
    · unfold s_X10_drop
      rw [if_neg (by rw [show (0 : Int32) = I 0 from rfl, I_eq hz (by omega)]; exact c0), if_neg (by rw [show (1 : Int32) = I 1 from rfl, I_eq hz (by omega)]; exact c1), if_neg (by rw [show (2 : Int32) = I 2 from rfl, I_eq hz (by omega)]; exact c2)]
      rfl
    · unfold s_X11_drop
      rw [show s_X11_in (I z) 0 2 σ1 = some (bI (decide (0 ≤ z ∧ z ≤ 2)), σ1) from q_inb hz (a := 0) (b := 2) (by omega) (by omega) σ1, bd_eq, if_pos (by rw [bI0]; exact decide_eq_false (by omega))]
      rfl
end
