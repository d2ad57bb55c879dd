/-! say, wipe, count -/
section
variable {ch sl : Nat → Nat} {t : List Nat} {f : Int} {s0 s1 : Option TS} {S : Nat} {σ : St}
def yCh (ch sl : Nat → Nat) (z : Nat) : Nat → Nat := fun i => if i = 640 + sl 10 then z else ch i
def ySl (sl : Nat → Nat) : Nat → Nat := fun s => if s = 10 then sl 10 + 1 else sl s
theorem Txt.say (h : Txt ch sl) {z : Nat} (h1 : 33 ≤ z) (h2 : z ≤ 126) (h3 : sl 10 < 60) : Txt (yCh ch sl z) (ySl sl) := by
  refine ⟨fun s hs => ?_, fun i => ?_⟩
  · by_cases c : s = 10
    · subst c
      have e : ySl sl 10 = sl 10 + 1 := by unfold ySl; rw [if_pos rfl]
      have hb := h.1 10 (by omega)
      rw [e]
      refine ⟨by omega, fun i hi => ?_, fun i q1 q2 => ?_⟩
      · unfold yCh
        by_cases ci : 64 * 10 + i = 640 + sl 10
        · rw [if_pos ci]; exact h1
        · rw [if_neg ci]; exact hb.2.1 i (by omega)
      · unfold yCh
        rw [if_neg (by omega)]
        exact hb.2.2 i (by omega) q2
    · have e : ySl sl s = sl s := by unfold ySl; rw [if_neg c]
      have hb := h.1 s hs
      have hy : ∀ i, i < 64 → yCh ch sl z (64 * s + i) = ch (64 * s + i) := fun i hi => by unfold yCh; rw [if_neg (by omega)]
      rw [e]
      exact ⟨hb.1, fun i hi => by rw [hy i (by omega)]; exact hb.2.1 i hi, fun i q1 q2 => by rw [hy i q2]; exact hb.2.2 i q1 q2⟩
  · unfold yCh
    split
    · exact h2
    · exact h.2 i
theorem wCh_say (z : Nat) (h3 : sl 10 < 60) : wCh (yCh ch sl z) = wCh ch := by
  funext i
  unfold wCh yCh
  by_cases c : 640 ≤ i ∧ i < 704
  · rw [if_pos c, if_pos c]
  · rw [if_neg c, if_neg c, if_neg (by omega)]
theorem wSl_say : wSl (ySl sl) = wSl sl := by
  funext i
  unfold wSl ySl
  by_cases c : i = 10
  · rw [if_pos c, if_pos c]
  · rw [if_neg c, if_neg c, if_neg c]
theorem say_win (z : Nat) : ∀ s, s < 10 → ySl sl s = sl s ∧ ∀ i, i < 64 → yCh ch sl z (64 * s + i) = ch (64 * s + i) := fun s hs => ⟨by unfold ySl; rw [if_neg (by omega)], fun i hi => by unfold yCh; rw [if_neg (by omega)]⟩
theorem st_say (hp : PS ch sl t f s0 s1) (hc : CR ch sl t f s0 s1 S σ) (hm : MR ch sl t f s0 s1 σ) {z : Int} (hz : -2147483648 ≤ z ∧ z < 2147483648) : Step2 ch sl t f s0 s1 S σ (s_X10_say 1 (I z)) (s_X11_say 30 (I z)) := by
  have htx := hp.1.1
  by_cases c : 33 ≤ z ∧ z ≤ 126
  · by_cases c2 : sl 10 = 60
    · refine mkStep (a := I (-4)) hm hp ?_ (fun σ1 h => ?_)
      · rw [c_say htx hc.h54.1 hc.2.1 hz, if_pos c, if_pos c2]; exact CHf.now hc
      · rw [m_say htx h.1 hz, if_pos c, if_pos c2]; exact MHf.now h
    · have h60 := (htx.1 10 (by omega)).1
      obtain ⟨n, rfl⟩ := Int.eq_ofNat_of_zero_le (show 0 ≤ z by omega)
      have hT := htx.say (z := n) (by omega) (by omega) (show sl 10 < 60 by omega)
      have hGI : GI (yCh ch sl n) (ySl sl) := hp.1.sub ⟨hT, fun s hs => Or.inr (say_win n s hs)⟩
      have e10 : ySl sl 10 = sl 10 + 1 := by unfold ySl; rw [if_pos rfl]
      have eb : ∀ x, x < sl 10 → yCh ch sl n (640 + x) = ch (640 + x) := fun x hx => by unfold yCh; rw [if_neg (by omega)]
      have en : yCh ch sl n (640 + sl 10) = n := by unfold yCh; rw [if_pos rfl]
      refine mkStep (a := I ((sl 10 + 1 : Nat) : Int)) (ch' := yCh ch sl n) (sl' := ySl sl) (t' := t) (f' := f) (s0' := s0) (s1' := s1) hm ⟨hGI, hp.2⟩ ?_ (fun σ1 h => ?_)
      · have fx : FX (fun a k => a = 3 ∨ (a = 2 ∧ k = 1)) noC σ (setI (setI σ 3 (sl 10) (I (n : Nat))) 2 1 (I ((sl 10 + 1 : Nat) : Int))) := (FX.setI 3 _ _ (Or.inl rfl)).trans (FX.setI 2 1 _ (Or.inr ⟨rfl, rfl⟩))
        have hk := hc.1.fx hp.1.wipe.2.2.1 fx (fun a k q => by omega) (fun a k q => by unfold kpI at q; omega)
        obtain ⟨hs, h54⟩ := hc.h54
        have hgx : GX (fun a k => a = 3 ∨ (a = 2 ∧ k = 1)) noC σ _ := fx.gx (fun _ _ q => q) (fun _ _ q => q)
        obtain ⟨_, ⟨h2, h3⟩, h4, h6, h7⟩ := hc
        rw [c_say htx hs ⟨h2, h3⟩ hz, if_pos c, if_neg c2]
        refine ⟨_, S, rfl, ⟨by rw [wCh_say n (by omega), wSl_say]; exact hk, ⟨by rw [sIe, e10], fun x hx => ?_⟩, h4.fx fx (by omega) (fun k => by omega), by rw [fx.i 1 10 (by omega)]; exact h6, h7.gx hgx h54 (fun a k q => by omega)⟩, by omega, hgx.cf h54 (fun a k q => by omega) (fun a k q => q.elim), Nat.le_add_right _ _, Nat.le_add_right _ _⟩
        rw [e10] at hx
        rw [sIn (by omega)]
        by_cases cx : x = sl 10
        · rw [cx, sIe, en]
        · rw [sIn (by omega), eb x (by omega)]; exact h3 x (by omega)
      · have fr : Fr (fun a k => (a = 31 ∧ k = 600 + sl 10) ∨ (a = 32 ∧ k = 10)) σ1 (setI (setI σ1 31 (600 + sl 10) (I (n : Nat))) 32 10 (I ((sl 10 + 1 : Nat) : Int))) := ((Fr.refl σ1).put _ (Or.inl ⟨rfl, rfl⟩)).put _ (Or.inr ⟨rfl, rfl⟩)
        rw [m_say htx h.1 hz, if_pos c, if_neg c2]
        obtain ⟨⟨h1, h4, h5⟩, h6, h7, h9, h10, h11⟩ := h
        refine ⟨_, rfl, ⟨⟨⟨fr.ss h1.1, fun s hs => ?_, fun s hs x hx => ?_⟩, by rw [sIe, e10], fun x hx => ?_⟩, by rw [wCh_say n (by omega), wSl_say]; exact h6.fr fr (fun k hk => by omega) (fun a k q1 q2 => by omega) (fun k => by omega), h7.fr fr (by omega) (fun k => by omega), by rw [fr.i 30 2 (by omega)]; exact h9, h10.cg (fun a j q1 q2 => fr.i a j (by omega)), h11.cg (fun a j q1 q2 => fr.i a j (by omega))⟩, (fr.fx noC).mf (fun a k q => by omega) (fun a k q => q.elim)⟩
        · rw [(say_win (ch := ch) n s hs).1, fr.i 32 s (by omega)]; exact h1.2.1 s hs
        · rw [(say_win (ch := ch) n s hs).1] at hx
          have hs60 := (htx.1 s (by omega)).1
          rw [(say_win (sl := sl) n s hs).2 x (by omega), fr.i 31 _ (by omega)]; exact h1.2.2 s hs x hx
        · rw [e10] at hx
          rw [sIn (by omega)]
          by_cases cx : x = sl 10
          · rw [cx, sIe, en]
          · rw [sIn (by omega), eb x (by omega)]; exact h5 x (by omega)
  · refine mkStep (a := I (-2)) hm hp ?_ (fun σ1 h => ?_)
    · rw [c_say htx hc.h54.1 hc.2.1 hz, if_neg c]; exact CHf.now hc
    · rw [m_say htx h.1 hz, if_neg c]; exact MHf.now h
theorem st_wipe (hp : PS ch sl t f s0 s1) (hc : CR ch sl t f s0 s1 S σ) (hm : MR ch sl t f s0 s1 σ) : Step2 ch sl t f s0 s1 S σ (s_X10_wipe 1) (s_X11_wipe 30) := by
  have htx := hp.1.1
  have e10 : wSl sl 10 = 0 := by unfold wSl; rw [if_pos rfl]
  refine mkStep (a := I (sl 10 : Nat)) (ch' := wCh ch) (sl' := wSl sl) (t' := t) (f' := f) (s0' := s0) (s1' := s1) hm ⟨hp.1.wipe, hp.2⟩ ?_ (fun σ1 h => ?_)
  · have fx : FX (fun a k => a = 2 ∧ k = 1) noC σ (setI σ 2 1 (I (0 : Nat))) := FX.setI 2 1 _ ⟨rfl, rfl⟩
    have hk := hc.1.fx hp.1.wipe.2.2.1 fx (fun a k q => by omega) (fun a k q => by unfold kpI at q; omega)
    obtain ⟨hs, h54⟩ := hc.h54
    have hgx : GX (fun a k => a = 2 ∧ k = 1) noC σ _ := fx.gx (fun _ _ q => q) (fun _ _ q => q)
    rw [c_wipe hs hc.2.1]
    obtain ⟨_, _, h4, h6, h7⟩ := hc
    exact ⟨_, S, rfl, ⟨by rw [wCh_wCh, wSl_wSl]; exact hk, ⟨by rw [sIe, e10], fun x hx => by omega⟩, h4.fx fx (by omega) (fun k => by omega), by rw [fx.i 1 10 (by omega)]; exact h6, h7.gx hgx h54 (fun a k q => by omega)⟩, by omega, hgx.cf h54 (fun a k q => by omega) (fun a k q => q.elim), Nat.le_add_right _ _, Nat.le_add_right _ _⟩
  · have fr : Fr (fun a k => a = 32 ∧ k = 10) σ1 (setI σ1 32 10 (I (0 : Nat))) := (Fr.refl σ1).put _ ⟨rfl, rfl⟩
    rw [m_wipe h.1]
    obtain ⟨⟨h1, h4, h5⟩, h6, h7, h9, h10, h11⟩ := h
    have hmw := h1.win htx (win_w ch sl)
    exact ⟨_, rfl, ⟨⟨⟨fr.ss h1.1, fun s hs => by rw [fr.i 32 s (by omega)]; exact hmw.2.1 s hs, fun s hs x hx => by rw [fr.i 31 _ (by omega)]; exact hmw.2.2 s hs x hx⟩, by rw [sIe, e10], fun x hx => by omega⟩, by rw [wCh_wCh, wSl_wSl]; exact h6.fr fr (fun k hk => by omega) (fun a k q1 q2 => by omega) (fun k => by omega), h7.fr fr (by omega) (fun k => by omega), by rw [fr.i 30 2 (by omega)]; exact h9, h10.cg (fun a j q1 q2 => fr.i a j (by omega)), h11.cg (fun a j q1 q2 => fr.i a j (by omega))⟩, (fr.fx noC).mf (fun a k q => by omega) (fun a k q => q.elim)⟩
/-! count -/
def svN (s0 s1 : Option TS) : Nat := (if s0.isSome = true then 1 else 0) + (if s1.isSome = true then 2 else 0)
theorem SvC.at {k st arr : Nat} {o : Option TS} (h : SvC k st arr o σ) : sP σ 6 k = if o.isSome = true then some st else none := by
  cases o with
  | none => exact h
  | some x => exact h.1
theorem SvM.at {k : Nat} {o : Option TS} (h : SvM k o σ) : sI σ 53 k = bI o.isSome := by
  cases o with
  | none => exact h
  | some x => exact h.1
theorem q_saved (hs : SS σ) (h : SvS s0 s1 σ) : s_X10_savedPlaces 1 σ = some (I (svN s0 s1 : Nat), σ) := by
  obtain ⟨a, b, c, d, h0, h1, _⟩ := h
  have e0 := h0.at
  have e1 := h1.at
  have lps : ∀ (n : Nat) (x y : Int32), s_X10_savedPlaces_4 (n + 1) 1 x y σ = sb_X10_savedPlaces_4 (s_X10_savedPlaces_4 n) 1 x y σ := fun _ _ _ => rfl
  have h01 : inR (0 : Int32) 2 = true := by decide
  have h11 : inR (0 + 1 : Int32) 2 = true := by decide
  unfold s_X10_savedPlaces svN
  rw [show (16000 : Nat) = 15997 + 1 + 1 + 1 from rfl, lps]
  unfold sb_X10_savedPlaces_4
  rw [if_neg (by decide), if_pos (hs.o 10 1 (by decide)), hs.p 1 2 6 (by decide), op_eq, if_pos (hs.o 17 6 (by decide)), hs.len 6 2 (by decide), if_pos h01, show ((0 : Int32).toNatClampNeg) = 0 from rfl, e0]
  have fin : ∀ (x : Int32), s_X10_savedPlaces_4 (15997 + 1 + 1) 1 x (0 + 1) σ = some (if s1.isSome = true then x ||| 2 else x, σ) := by
    intro x
    rw [lps]
    unfold sb_X10_savedPlaces_4
    rw [if_neg (by decide), if_pos (hs.o 10 1 (by decide)), hs.p 1 2 6 (by decide), op_eq, if_pos (hs.o 17 6 (by decide)), hs.len 6 2 (by decide), if_pos h11, show ((0 + 1 : Int32).toNatClampNeg) = 1 from rfl, e1]
    cases s1 with
    | none =>
      show on none _ _ = _
      rw [on_none, lt_eq, lps]
      unfold sb_X10_savedPlaces_4
      rw [if_pos (by decide)]
      rfl
    | some y =>
      show on (some c) _ _ = _
      rw [on_some', lt_eq, lt_eq, lps]
      unfold sb_X10_savedPlaces_4
      rw [if_pos (by decide)]
      rfl
  cases s0 with
  | none =>
    show on none _ _ = _
    rw [on_none, lt_eq, fin]
    cases s1 with
    | none => rfl
    | some y2 => exact congrArg (fun q : Int32 => some (q, σ)) (show ((0 : Int32) ||| 2) = I ((0 + 2 : Nat) : Int) by decide)
  | some y =>
    show on (some a) _ _ = _
    rw [on_some', lt_eq, lt_eq, fin]
    cases s1 with
    | none => exact congrArg (fun q : Int32 => some (q, σ)) (show ((0 : Int32) ||| (1 <<< ((0 : Int32) &&& 31))) = I ((1 + 0 : Nat) : Int) by decide)
    | some y2 => exact congrArg (fun q : Int32 => some (q, σ)) (show (((0 : Int32) ||| (1 <<< ((0 : Int32) &&& 31))) ||| 2) = I ((1 + 2 : Nat) : Int) by decide)
def cntA (ch sl : Nat → Nat) (n tl : Nat) (s0 s1 : Option TS) (z : Int) : Int32 :=
  if z = 0 then I (all5 sl : Nat) else if z = 1 then I (thr sl 6 4 : Nat) else if z = 2 then bI (decide (sl 0 ≠ 0)) else if z = 3 then I (tot (nN ch sl) 99 10 : Nat) else if z = 4 then I (tot (lL ch sl) 99 10 : Nat) else if z = 5 then I (n : Nat) else if z = 6 then I (tl : Nat) else if z = 7 then I (svN s0 s1 : Nat) else I (-2)
theorem lit_if {β : Type} {z : Int} (hz : -2147483648 ≤ z ∧ z < 2147483648) (n : Int) (hn : 0 ≤ n ∧ n < 100) (x y : β) : (if I z = I n then x else y) = if z = n then x else y := by
  by_cases c : z = n
  · rw [if_pos (by rw [c]), if_pos c]
  · rw [if_neg (by rw [I_eq hz (by omega)]; exact c), if_neg c]
theorem st_count (hp : PS ch sl t f s0 s1) (hc : CR ch sl t f s0 s1 S σ) (hm : MR ch sl t f s0 s1 σ) {z : Int} (hz : -2147483648 ≤ z ∧ z < 2147483648) : Step2 ch sl t f s0 s1 S σ (s_X10_count 1 (I z)) (s_X11_count 30 (I z)) := by
  have htx := hp.1.1
  have hgw := hp.1.wipe
  refine mkStep (a := cntA (wCh ch) (wSl sl) (sl 10) t.length s0 s1 z) hm hp ?_ (fun σ1 h => ?_)
  · obtain ⟨hs, h54⟩ := hc.h54
    have hst := hc.1.core.1.2.2.2
    have e : s_X10_count 1 (I z) σ = some (cntA (wCh ch) (wSl sl) (sl 10) t.length s0 s1 z, σ) := by
      unfold s_X10_count cntA
      have l0 := @lit_if (Option (Int32 × St)) z hz 0 (by omega)
      have l1 := @lit_if (Option (Int32 × St)) z hz 1 (by omega)
      have l2 := @lit_if (Option (Int32 × St)) z hz 2 (by omega)
      have l3 := @lit_if (Option (Int32 × St)) z hz 3 (by omega)
      have l4 := @lit_if (Option (Int32 × St)) z hz 4 (by omega)
      have l5 := @lit_if (Option (Int32 × St)) z hz 5 (by omega)
      have l6 := @lit_if (Option (Int32 × St)) z hz 6 (by omega)
      have l7 := @lit_if (Option (Int32 × St)) z hz 7 (by omega)
      refine (l0 _ _).trans ?_
      by_cases c0 : z = 0
      · rw [if_pos c0, if_pos c0, if_pos (hs.o 10 1 (by decide)), q_allRes hs hst, bd_eq]
      rw [if_neg c0, if_neg c0]
      refine (l1 _ _).trans ?_
      by_cases c1 : z = 1
      · rw [if_pos c1, if_pos c1, if_pos (hs.o 10 1 (by decide)), hs.p 1 1 4 (by decide), op_eq, if_pos (hs.o 6 4 (by decide)), show s_X6_present 4 6 4 σ = some (I (thr (wSl sl) 6 4 : Nat), σ) from q_pres hs hst (a := 6) (n := 4) (by omega) (by omega) 4 0 15995 rfl, bd_eq]
      rw [if_neg c1, if_neg c1]
      refine (l2 _ _).trans ?_
      by_cases c2 : z = 2
      · rw [if_pos c2, if_pos c2, if_pos (hs.o 10 1 (by decide)), q_hasGoal hs hst, bd_eq]
        cases decide (wSl sl 0 ≠ 0) <;> rfl
      rw [if_neg c2, if_neg c2]
      refine (l3 _ _).trans ?_
      by_cases c3 : z = 3
      · rw [if_pos c3, if_pos c3, if_pos (hs.o 10 1 (by decide)), hs.p 1 1 4 (by decide), op_eq, if_pos (hs.o 6 4 (by decide)), q_nodes hs hst, bd_eq]
      rw [if_neg c3, if_neg c3]
      refine (l4 _ _).trans ?_
      by_cases c4 : z = 4
      · rw [if_pos c4, if_pos c4, if_pos (hs.o 10 1 (by decide)), hs.p 1 1 4 (by decide), op_eq, if_pos (hs.o 6 4 (by decide)), q_loans hs hst, bd_eq]
      rw [if_neg c4, if_neg c4]
      refine (l5 _ _).trans ?_
      by_cases c5 : z = 5
      · rw [if_pos c5, if_pos c5, if_pos (hs.o 10 1 (by decide)), hs.p 1 0 2 (by decide), op_eq, if_pos (hs.o 7 2 (by decide))]
        unfold s_X7_length
        rw [if_pos (hs.o 7 2 (by decide)), bd_eq, hc.2.1.1]
      rw [if_neg c5, if_neg c5]
      refine (l6 _ _).trans ?_
      by_cases c6 : z = 6
      · rw [if_pos c6, if_pos c6, if_pos (hs.o 10 1 (by decide)), hs.p 1 8 27 (by decide), op_eq, if_pos (hs.o 8 27 (by decide))]
        unfold s_X8_length
        rw [if_pos (hs.o 8 27 (by decide)), bd_eq, hc.2.2.1.1]
      rw [if_neg c6, if_neg c6]
      refine (l7 _ _).trans ?_
      by_cases c7 : z = 7
      · rw [if_pos c7, if_pos c7, if_pos (hs.o 10 1 (by decide)), q_saved hs hc.2.2.2.2, bd_eq]
      rw [if_neg c7, if_neg c7]
      rfl
    rw [e]
    exact CHf.now hc
  · have hs := h.1.1.1
    have hmt := h.mt htx
    have ho := hs.o 11 30 (by decide)
    unfold s_X11_count
    have l0 := @lit_if (Option (Int32 × St)) z hz 0 (by omega)
    have l1 := @lit_if (Option (Int32 × St)) z hz 1 (by omega)
    have l2 := @lit_if (Option (Int32 × St)) z hz 2 (by omega)
    have l3 := @lit_if (Option (Int32 × St)) z hz 3 (by omega)
    have l4 := @lit_if (Option (Int32 × St)) z hz 4 (by omega)
    have l5 := @lit_if (Option (Int32 × St)) z hz 5 (by omega)
    have l6 := @lit_if (Option (Int32 × St)) z hz 6 (by omega)
    have l7 := @lit_if (Option (Int32 × St)) z hz 7 (by omega)
    have now : ∀ {a : Int32} {r : Option (Int32 × St)}, r = some (a, σ1) → a = cntA (wCh ch) (wSl sl) (sl 10) t.length s0 s1 z → MHf ch sl t f s0 s1 σ1 r (cntA (wCh ch) (wSl sl) (sl 10) t.length s0 s1 z) := fun h1 h2 => by rw [h1, h2]; exact MHf.now h
    refine Eq.mpr (congrArg (fun r => MHf ch sl t f s0 s1 σ1 r _) (l0 _ _)) ?_
    by_cases c0 : z = 0
    · refine now (a := I (all5 (wSl sl) : Nat)) ?_ (by unfold cntA; rw [if_pos c0])
      rw [if_pos c0, if_pos ho, q_all hmt hgw.1, bd_eq]
    rw [if_neg c0]
    refine Eq.mpr (congrArg (fun r => MHf ch sl t f s0 s1 σ1 r _) (l1 _ _)) ?_
    by_cases c1 : z = 1
    · refine now (a := I (thr (wSl sl) 6 4 : Nat)) ?_ (by unfold cntA; rw [if_neg c0, if_pos c1])
      rw [if_pos c1, if_pos ho, show s_X11_there 30 6 9 σ1 = some (I (thr (wSl sl) 6 4 : Nat), σ1) from q_there hmt hgw.1 (a := 6) (n := 4) (by omega) (by omega), bd_eq]
    rw [if_neg c1]
    refine Eq.mpr (congrArg (fun r => MHf ch sl t f s0 s1 σ1 r _) (l2 _ _)) ?_
    by_cases c2 : z = 2
    · refine now (a := bI (decide (wSl sl 0 ≠ 0))) ?_ (by unfold cntA; rw [if_neg c0, if_neg c1, if_pos c2])
      rw [if_pos c2, if_pos ho, q_isGoal hmt hgw.1, bd_eq]
      cases decide (wSl sl 0 ≠ 0) <;> rfl
    rw [if_neg c2]
    refine Eq.mpr (congrArg (fun r => MHf ch sl t f s0 s1 σ1 r _) (l3 _ _)) ?_
    by_cases c3 : z = 3
    · obtain ⟨σ2, κ, a1, a2, a3, a4⟩ := q_lay hgw.1 hgw.2.1 hgw.2.2.1 hgw.2.2.2 hmt h.2.1
      obtain ⟨b1, b2⟩ := h.keep (a2.fx mL) ok_ly (Or.inr ⟨κ, a4⟩)
      refine ⟨σ2, ?_, b1, b2⟩
      unfold cntA
      rw [if_pos c3, if_pos ho, a1, bd_eq, if_pos (a3.1.o 11 30 (by decide)), a4.2.1.1, if_neg c0, if_neg c1, if_neg c2, if_pos c3]
    rw [if_neg c3]
    refine Eq.mpr (congrArg (fun r => MHf ch sl t f s0 s1 σ1 r _) (l4 _ _)) ?_
    by_cases c4 : z = 4
    · obtain ⟨σ2, κ, a1, a2, a3, a4⟩ := q_lay hgw.1 hgw.2.1 hgw.2.2.1 hgw.2.2.2 hmt h.2.1
      obtain ⟨b1, b2⟩ := h.keep (a2.fx mL) ok_ly (Or.inr ⟨κ, a4⟩)
      refine ⟨σ2, ?_, b1, b2⟩
      unfold cntA
      rw [if_pos c4, if_pos ho, a1, bd_eq, if_pos (a3.1.o 11 30 (by decide)), a4.2.1.2.1, if_neg c0, if_neg c1, if_neg c2, if_neg c3, if_pos c4]
    rw [if_neg c4]
    refine Eq.mpr (congrArg (fun r => MHf ch sl t f s0 s1 σ1 r _) (l5 _ _)) ?_
    by_cases c5 : z = 5
    · refine now (a := I (sl 10 : Nat)) ?_ (by unfold cntA; rw [if_neg c0, if_neg c1, if_neg c2, if_neg c3, if_neg c4, if_pos c5])
      rw [if_pos c5, if_pos ho, hs.p 30 1 32 (by decide), op_eq, if_pos (hs.o 13 32 (by decide)), hs.len 32 11 (by decide), if_pos (by decide), t10, h.1.2.1]
    rw [if_neg c5]
    refine Eq.mpr (congrArg (fun r => MHf ch sl t f s0 s1 σ1 r _) (l6 _ _)) ?_
    by_cases c6 : z = 6
    · refine now (a := I (t.length : Nat)) ?_ (by unfold cntA; rw [if_neg c0, if_neg c1, if_neg c2, if_neg c3, if_neg c4, if_neg c5, if_pos c6])
      rw [if_pos c6, if_pos ho, h.2.2.1.1]
    rw [if_neg c6]
    refine Eq.mpr (congrArg (fun r => MHf ch sl t f s0 s1 σ1 r _) (l7 _ _)) ?_
    by_cases c7 : z = 7
    · refine now (a := I (svN s0 s1 : Nat)) ?_ (by unfold cntA; rw [if_neg c0, if_neg c1, if_neg c2, if_neg c3, if_neg c4, if_neg c5, if_neg c6, if_pos c7])
      have e0 := h.2.2.2.2.1.at
      have e1 := h.2.2.2.2.2.at
      have bN : bI (none : Option TS).isSome = 0 := rfl
      have bS : ∀ x : TS, bI (some x).isSome = 1 := fun _ => rfl
      have e120 : ∀ x : Int32, s_X11_count_120 30 x σ1 = some (if s1.isSome = true then x + 2 else x + 0, σ1) := by
        intro x
        unfold s_X11_count_120
        rw [if_pos ho, hs.p 30 35 53 (by decide), op_eq, if_pos (hs.o 15 53 (by decide)), hs.len 53 2 (by decide), if_pos (by decide), show ((1 : Int32).toNatClampNeg) = 1 from rfl, e1]
        cases s1 with
        | none => rw [bN, if_pos rfl]; rfl
        | some y => rw [bS, if_neg (by decide)]; rfl
      rw [if_pos c7, if_pos ho, hs.p 30 35 53 (by decide), op_eq, if_pos (hs.o 15 53 (by decide)), hs.len 53 2 (by decide), if_pos (by decide), show ((0 : Int32).toNatClampNeg) = 0 from rfl, e0, e120, e120]
      cases s0 with
      | none =>
        rw [bN, if_pos rfl]
        cases s1 with
        | none => exact congrArg (fun q : Int32 => some (q, σ1)) (show (0 : Int32) + 0 = I ((0 + 0 : Nat) : Int) by decide)
        | some y => exact congrArg (fun q : Int32 => some (q, σ1)) (show (0 : Int32) + 2 = I ((0 + 2 : Nat) : Int) by decide)
      | some x =>
        rw [bS, if_neg (by decide)]
        cases s1 with
        | none => exact congrArg (fun q : Int32 => some (q, σ1)) (show (1 : Int32) + 0 = I ((1 + 0 : Nat) : Int) by decide)
        | some y => exact congrArg (fun q : Int32 => some (q, σ1)) (show (1 : Int32) + 2 = I ((1 + 2 : Nat) : Int) by decide)
    rw [if_neg c7]
    exact now rfl (by unfold cntA; rw [if_neg c0, if_neg c1, if_neg c2, if_neg c3, if_neg c4, if_neg c5, if_neg c6, if_neg c7]; rfl)
end
