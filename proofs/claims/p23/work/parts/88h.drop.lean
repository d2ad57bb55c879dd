/-! drop -/
section
variable {ch sl : Nat → Nat} {t : List Nat} {f : Int} {s0 s1 : Option TS} {S : Nat} {σ : St}
def dCh (ch : Nat → Nat) (k : Nat) : Nat → Nat := fun i => if 64 * k ≤ i ∧ i < 64 * k + 64 then 0 else ch i
def dSl (sl : Nat → Nat) (k : Nat) : Nat → Nat := fun s => if s = k then 0 else sl s
theorem dCh_s {k s i : Nat} (hs : s ≠ k) (hi : i < 64) : dCh ch k (64 * s + i) = ch (64 * s + i) := by unfold dCh; rw [if_neg (by omega)]
theorem dSl_s {k s : Nat} (hs : s ≠ k) : dSl sl k s = sl s := by unfold dSl; rw [if_neg hs]
theorem dSl_k {k : Nat} : dSl sl k k = 0 := by unfold dSl; rw [if_pos rfl]
theorem drop_sub (ht : Txt ch sl) {k : Nat} (hk : k < 10) : Sub ch sl (dCh ch k) (dSl sl k) := by
  refine ⟨⟨fun s hs => ?_, fun i => ?_⟩, fun s hs => ?_⟩
  · by_cases c : s = k
    · subst c
      rw [dSl_k]
      refine ⟨by omega, fun i hi => by omega, fun i _ q => ?_⟩
      unfold dCh
      rw [if_pos (by omega)]
    · have hb := ht.1 s hs
      rw [dSl_s c]
      exact ⟨hb.1, fun i hi => by rw [dCh_s c (by omega)]; exact hb.2.1 i hi, fun i q1 q2 => by rw [dCh_s c q2]; exact hb.2.2 i q1 q2⟩
  · unfold dCh
    split
    · omega
    · exact ht.2 i
  · by_cases c : s = k
    · subst c; exact Or.inl dSl_k
    · exact Or.inr ⟨dSl_s c, fun i hi => dCh_s c hi⟩
/-- a stock that keeps some of its items -/
theorem Stk.sub {arr arr' : Nat} {ch' sl' : Nat → Nat} {σ' : St} (ht : Txt ch sl) (h : Stk arr ch sl σ) (hsub : ∀ s, s < 10 → (sl' s = 0 ∧ sP σ' arr' s = none) ∨ (sl' s = sl s ∧ (∀ i, i < 64 → ch' (64 * s + i) = ch (64 * s + i)) ∧ sP σ' arr' s = sP σ arr s)) (hi : ∀ {it n k l : Nat} {x : Nat → Nat}, Itm σ it n x k l → Itm σ' it n x k l) : Stk arr' ch' sl' σ' := by
  intro s hs
  have := h s hs
  have h60 := (ht.1 s (by omega)).1
  rcases hsub s hs with ⟨w1, w2⟩ | ⟨w1, w2, w3⟩
  · rw [if_pos w1]; exact w2
  · rw [w1]
    by_cases c : sl s = 0
    · rw [if_pos c] at this ⊢; rw [w3]; exact this
    · rw [if_neg c] at this ⊢
      obtain ⟨it, b1, b2⟩ := this
      obtain ⟨e1, e2⟩ := sR_mv ht (t := s) (by omega) w2
      refine ⟨it, by rw [w3]; exact b1, (hi b2).ext (fun i hi => w2 i (by omega)) ?_ ?_⟩
      · unfold nN sR
        rw [w1, if_neg c, if_neg c]
        split
        · rw [e1]
        · rw [e2]
      · unfold lL sR
        rw [w1, if_neg c, if_neg c]
        split
        · rw [e1]
        · rw [e2]
theorem isO_k {p a : Nat} (h : isO σ p a = true) : (sh σ a).1 = p := by
  unfold isO at h
  simp at h
  exact h.2
/-- only references of one array change, and some ints -/
def PF (D : Nat) (CI : Nat → Nat → Prop) (σ σ' : St) : Prop := sn σ' = sn σ ∧ sz σ' = sz σ ∧ sh σ' = sh σ ∧ sL σ' = sL σ ∧ (∀ a k, ¬ CI a k → sI σ' a k = sI σ a k) ∧ ∀ a k, a ≠ D → sP σ' a k = sP σ a k
theorem PF.ss {D : Nat} {CI : Nat → Nat → Prop} {σ' : St} (h : PF D CI σ σ') (hD : D = 5 ∨ D = 6 ∨ 30 ≤ D) (hs : SS σ) : SS σ' := by
  obtain ⟨a1, a2, a3, a4, a5, a6⟩ := h
  refine ⟨by rw [a1]; exact hs.1, fun a h1 h2 => by rw [a3]; exact hs.2.1 a h1 h2, fun q hq => ?_⟩
  have hk : q.1 ≠ 5 ∧ q.1 ≠ 6 ∧ q.1 < 30 := by
    have : ∀ q ∈ stP, q.1 ≠ 5 ∧ q.1 ≠ 6 ∧ q.1 < 30 := by decide
    exact this q hq
  rw [a6 _ _ (by omega)]
  exact hs.2.2 q hq
theorem PF.itm {D : Nat} {CI : Nat → Nat → Prop} {σ' : St} (h : PF D CI σ σ') (hD : D < 30 ∨ isO σ 16 D = true) (hc : ∀ a k, CI a k → a < 30) {it n k l : Nat} {x : Nat → Nat} (hi : Itm σ it n x k l) : Itm σ' it n x k l := by
  obtain ⟨b1, b2, b3, b4, c, b5, b6, b7, b8, b9⟩ := hi
  obtain ⟨a1, a2, a3, a4, a5, a6⟩ := h
  have hne : it ≠ D := by
    intro e
    subst e
    rcases hD with hD | hD
    · omega
    · have q1 := isO_k b1
      have q2 := isO_k hD
      omega
  exact ⟨by unfold isO at b1 ⊢; rw [a3, a1]; exact b1, b2, by rw [a5 it 1 (fun q => by have := hc _ _ q; omega)]; exact b3, by rw [a5 it 2 (fun q => by have := hc _ _ q; omega)]; exact b4, c, by rw [a6 it 0 hne]; exact b5, b6, by unfold isO at b7 ⊢; rw [a3, a1]; exact b7, by unfold alen at b8 ⊢; rw [a3]; exact b8, fun i hi => by rw [a5 c i (fun q => by have := hc _ _ q; omega)]; exact b9 i hi⟩
theorem PF.svc {D : Nat} {CI : Nat → Nat → Prop} {σ' : St} (h : PF D CI σ σ') (hD : D = 5 ∨ isO σ 16 D = true ∧ 30 ≤ D) (hc : ∀ a k, CI a k → a < 30) {k st arr : Nat} {o : Option TS} (hv : SvC k st arr o σ) (hne : o.isSome = true → arr ≠ D) : SvC k st arr o σ' := by
  have hItm : ∀ {it n k l : Nat} {x : Nat → Nat}, Itm σ it n x k l → Itm σ' it n x k l := fun q => h.itm (hD.elim (fun e => Or.inl (by omega)) (fun e => Or.inr e.1)) hc q
  obtain ⟨a1, a2, a3, a4, a5, a6⟩ := h
  cases o with
  | none => show sP σ' 6 k = none; rw [a6 6 k (by omega)]; exact hv
  | some x =>
    obtain ⟨b1, b2, b3, b4, b5, b6, b7, b8⟩ := hv
    have hst : st ≠ D := by
      intro e
      subst e
      rcases hD with hD | ⟨hD, _⟩
      · omega
      · have q1 := isO_k b3
        have q2 := isO_k hD
        omega
    refine ⟨by rw [a6 6 k (by omega)]; exact b1, b2, by unfold isO at b3 ⊢; rw [a3, a1]; exact b3, by rw [a6 st 0 hst]; exact b4, b5, by unfold isO at b6 ⊢; rw [a3, a1]; exact b6, by unfold alen at b7 ⊢; rw [a3]; exact b7, ?_⟩
    intro s hs
    have := b8 s hs
    rw [a6 arr s (hne rfl)]
    by_cases c : x.2 s = 0
    · rw [if_pos c] at this ⊢; exact this
    · rw [if_neg c] at this ⊢
      obtain ⟨it, q1, q2⟩ := this
      exact ⟨it, q1, hItm q2⟩
/-- the class's stock has changed: it is to prepare anew -/
theorem CR.stale {ch' sl' : Nat → Nat} {σ1 : St} (hc : CR ch sl t f s0 s1 S σ) (hf : PF 5 (fun a k => a = 1 ∧ k = 11) σ σ1) (h11 : sI σ1 1 11 = 1) (hst : Stk 5 (wCh ch') (wSl sl') σ1) (hb : sl' 10 = sl 10 ∧ ∀ i, i < sl 10 → ch' (640 + i) = ch (640 + i)) : CR ch' sl' t f s0 s1 S σ1 ∧ CF σ σ1 ∧ SS σ1 := by
  obtain ⟨hs, h54⟩ := hc.h54
  obtain ⟨⟨_, hA, hZ, _⟩, hw⟩ := hc.1.core
  have hs1 := hf.ss (Or.inl rfl) hs
  obtain ⟨_, ⟨h2, h3⟩, ⟨h4, h5⟩, h6, st0, arr0, st1, arr1, h7, h8, h9⟩ := hc
  have i := fun a k (q : ¬ (a = 1 ∧ k = 11)) => hf.2.2.2.2.1 a k q
  have L : ∀ a k, sL σ1 a k = sL σ a k := fun a k => by rw [hf.2.2.2.1]
  have ne : ∀ {k st arr : Nat} {o : Option TS}, SvC k st arr o σ → o.isSome = true → arr ≠ 5 := fun {k st arr o} h q => by
    cases o with
    | none => cases q
    | some x => obtain ⟨_, _, _, _, b5, _⟩ := h; omega
  refine ⟨⟨Or.inr ⟨⟨hs1, fun x y hx hy => by rw [L]; exact hA x y hx hy, fun x hx => by rw [L]; exact hZ x hx, hst⟩, h11, by rw [L]; exact hw.1, fun x hx => by rw [L]; exact hw.2 x hx⟩, ⟨by rw [hb.1, i 2 1 (by omega)]; exact h2, fun x hx => by rw [hb.1] at hx; rw [hb.2 x hx, i 3 x (by omega)]; exact h3 x hx⟩, ⟨by rw [i 27 1 (by omega)]; exact h4, fun x v hx => by rw [i 28 x (by omega)]; exact h5 x v hx⟩, by rw [i 1 10 (by omega)]; exact h6, st0, arr0, st1, arr1, hf.svc (Or.inl rfl) (fun a k q => by omega) h7 (ne h7), hf.svc (Or.inl rfl) (fun a k q => by omega) h8 (ne h8), h9⟩, ⟨by rw [hf.1]; exact Nat.le_refl _, fun a _ => by rw [hf.2.2.1], fun a k q1 q2 => ⟨i a k (by omega), L a k⟩⟩, hs1⟩
/-- one slot is emptied -/
theorem c_drop1 (hp : GI ch sl) (hc : CR ch sl t f s0 s1 S σ) {k : Nat} (hk : k < 10) : CR (dCh ch k) (dSl sl k) t f s0 s1 S (setI (setP σ 5 k none) 1 11 1) ∧ CF σ (setI (setP σ 5 k none) 1 11 1) ∧ SS (setI (setP σ 5 k none) 1 11 1) := by
  have hf : PF 5 (fun a k => a = 1 ∧ k = 11) σ (setI (setP σ 5 k none) 1 11 1) := ⟨rfl, rfl, rfl, rfl, fun a j q => by rw [sIn (by omega)]; rfl, fun a j q => by rw [sP_I, sP_P, if_neg (fun e => q e.1)]⟩
  have hst := hc.1.core.1.2.2.2
  refine hc.stale hf sIe ?_ ⟨dSl_s (by omega), fun i hi => ?_⟩
  · refine Stk.sub hp.wipe.1 hst (fun s hs => ?_) (fun q => hf.itm (Or.inl (by omega)) (fun a k q => by omega) q)
    by_cases c : s = k
    · subst c
      refine Or.inl ⟨by rw [wSl_s _ hs, dSl_k], ?_⟩
      rw [sP_I, sP_P, if_pos ⟨rfl, rfl⟩]
    · refine Or.inr ⟨by rw [wSl_s _ hs, wSl_s _ hs, dSl_s c], fun i hi => by rw [wCh_s _ hs hi, wCh_s _ hs hi, dCh_s c hi], ?_⟩
      rw [sP_I, sP_P, if_neg (fun e => c e.2)]
  · have h60 := (hp.1.1 10 (by omega)).1
    have := dCh_s (ch := ch) (k := k) (s := 10) (i := i) (by omega) (by omega)
    exact this
theorem thr_w (a n : Nat) (han : a + n ≤ 10) : thr (wSl sl) a n = thr sl a n := by
  unfold thr
  have : ∀ k, k ≤ n → stB (fun k => decide (wSl sl (a + k) ≠ 0)) k = stB (fun k => decide (sl (a + k) ≠ 0)) k := by
    intro k
    induction k with
    | zero => intro _; rfl
    | succ k ih => intro hk; rw [stB, stB, ih (by omega), wSl_s sl (show a + k < 10 by omega)]
  exact this n (Nat.le_refl n)
theorem q_set (hs : SS σ) {k : Nat} (hk : k < 10) : s_X6_set 4 (I (k : Nat)) none σ = some ((), setP σ 5 k none) := by
  unfold s_X6_set
  rw [if_neg (by rw [I_lit, I_lt (by omega) (by omega)]; omega), if_neg (by rw [I_lit, I_le (by omega) (by omega)]; omega), if_pos (hs.o 6 4 (by decide)), hs.p 4 0 5 (by decide), op_eq, if_pos (hs.o 16 5 (by decide)), on_none, hs.len 5 10 (by decide), if_pos (inN hk (by omega)), tNI (by omega), lt_eq]
theorem thr_lt {a n : Nat} (hn : n ≤ 8) : thr sl a n < 256 := by
  have h1 := stB_lt (fun k => decide (sl (a + k) ≠ 0)) n
  have h2 : 2 ^ n ≤ 2 ^ 8 := Nat.pow_le_pow_right (by decide) hn
  unfold thr
  omega
end
