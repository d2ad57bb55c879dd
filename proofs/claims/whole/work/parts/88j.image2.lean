/-! image and restore of the class -/
section
variable {ch sl : Nat → Nat} {t : List Nat} {f : Int} {s0 s1 : Option TS} {S : Nat} {σ : St}
theorem SvS.get {k : Nat} (hk : k < 2) (h : SvS s0 s1 σ) : ∃ st arr st' arr', SvC k st arr (sv k s0 s1) σ ∧ SvC (1 - k) st' arr' (sv (1 - k) s0 s1) σ ∧ ((sv k s0 s1).isSome = true → (sv (1 - k) s0 s1).isSome = true → st ≠ st' ∧ arr ≠ arr') := by
  obtain ⟨a, b, c, d, h0, h1, h2⟩ := h
  rcases (show k = 0 ∨ k = 1 by omega) with rfl | rfl
  · exact ⟨a, b, c, d, h0, h1, h2⟩
  · exact ⟨c, d, a, b, h1, h0, fun q1 q2 => by have := h2 q2 q1; exact ⟨fun e => this.1 e.symm, fun e => this.2 e.symm⟩⟩
theorem SvS.put {k st arr st' arr' : Nat} (hk : k < 2) {y : TS} (h1 : SvC k st arr (some y) σ) (h2 : SvC (1 - k) st' arr' (sv (1 - k) s0 s1) σ) (h3 : (sv (1 - k) s0 s1).isSome = true → st ≠ st' ∧ arr ≠ arr') : SvS (im0 k s0 y) (im1 k s1 y) σ := by
  rcases (show k = 0 ∨ k = 1 by omega) with rfl | rfl
  · exact ⟨st, arr, st', arr', h1, h2, fun _ q => h3 q⟩
  · exact ⟨st', arr', st, arr, h2, h1, fun q _ => by have := h3 q; exact ⟨fun e => this.1 e.symm, fun e => this.2 e.symm⟩⟩
theorem sv_im {k : Nat} (hk : k < 2) (y : TS) : sv k (im0 k s0 y) (im1 k s1 y) = some y ∧ sv (1 - k) (im0 k s0 y) (im1 k s1 y) = sv (1 - k) s0 s1 ∧ ∀ z, im0 k (im0 k s0 y) z = im0 k s0 z ∧ im1 k (im1 k s1 y) z = im1 k s1 z := by
  rcases (show k = 0 ∨ k = 1 by omega) with rfl | rfl
  · exact ⟨rfl, rfl, fun z => ⟨rfl, rfl⟩⟩
  · exact ⟨rfl, rfl, fun z => ⟨rfl, rfl⟩⟩
/-- the stock is copied to a place that is there -/
theorem c_im38 (hp : GI ch sl) (hc : CR ch sl t f s0 s1 S σ) {k : Nat} (hk : k < 2) {x : TS} (hx : sv k s0 s1 = some x) :
    ∃ st σ', sP σ 6 k = some st ∧ s_X10_image_38 1 (some st) σ = some (1, σ') ∧ CR ch sl t f (im0 k s0 (wCh ch, wSl sl)) (im1 k s1 (wCh ch, wSl sl)) S σ' ∧ CF σ σ' ∧ sn σ' = sn σ ∧ sz σ' = sz σ := by
  obtain ⟨hs, h54⟩ := hc.h54
  have hst := hc.1.core.1.2.2.2
  obtain ⟨hK, h2, h3, h4, h5⟩ := hc
  obtain ⟨st, arr, st', arr', g1, g2, g3⟩ := h5.get hk
  rw [hx] at g1 g3
  obtain ⟨b1, b2, b3, b4, b5, b6, b7, b8⟩ := g1
  have o6 := hs.o 6 4 (by decide)
  have ke : ∀ {p q a b : Nat}, isO σ p a = true → isO σ q b = true → p ≠ q → a ≠ b := fun {p q a b} e1 e2 hpq e => by
    subst e
    have := isO_k e1
    have := isO_k e2
    omega
  obtain ⟨σ', c1, c2, c3⟩ := cpy_loop (dst := st) (darr := arr) (src := 4) (sarr := 5) (by omega) (ke b3 b6 (by omega)) (by omega) 10 0 15989 σ rfl b3 b4 b6 b7 o6 (hs.p 4 0 5 (by decide)) (hs.o 16 5 (by decide)) (hs.len 5 10 (by decide)) hst.items (fun s q => by omega)
  have hs' := c2.ss (Or.inr (Or.inr b5)) hs
  have hItm : ∀ {it n k l : Nat} {x : Nat → Nat}, Itm σ it n x k l → Itm σ' it n x k l := fun q => c2.itm (Or.inr b6) (fun a k q => q.elim) q
  have hst' : Stk 5 (wCh ch) (wSl sl) σ' := hst.cpy (fun s q => c2.2.2.2.2.2 5 s (by omega)) hItm
  have i : ∀ a k, sI σ' a k = sI σ a k := fun a k => c2.2.2.2.2.1 a k (fun q => q)
  have L : ∀ a k, sL σ' a k = sL σ a k := fun a k => by rw [c2.2.2.2.1]
  have c2b := c2
  obtain ⟨d1, d2, d3, d4, d5, d6⟩ := c2b
  have mine : SvC k st arr (some (wCh ch, wSl sl)) σ' := ⟨by rw [d6 6 k (by omega)]; exact b1, b2, by unfold isO at b3 ⊢; rw [d3, d1]; exact b3, by rw [d6 st 0 (ke b3 b6 (by omega))]; exact b4, b5, by unfold isO at b6 ⊢; rw [d3, d1]; exact b6, by unfold alen at b7 ⊢; rw [d3]; exact b7, hst.cpy (fun s q => c3 s q) hItm⟩
  have oth : SvC (1 - k) st' arr' (sv (1 - k) s0 s1) σ' := c2.svc (Or.inr ⟨b6, b5⟩) (fun a k q => q.elim) g2 (fun q => fun e => (g3 rfl q).2 e.symm)
  refine ⟨st, σ', b1, ?_, ⟨hK.same hp.wipe.2.2.1 hs' hst' (fun a k _ => i a k) (fun a k _ _ => L a k), ⟨by rw [i]; exact h2.1, fun x hx => by rw [i]; exact h2.2 x hx⟩, ⟨by rw [i]; exact h3.1, fun x v hx => by rw [i]; exact h3.2 x v hx⟩, by rw [i]; exact h4, SvS.put hk mine oth (fun q => g3 rfl q)⟩, ⟨by rw [d1]; exact Nat.le_refl _, fun a _ => by rw [d3], fun a k _ _ => ⟨i a k, L a k⟩⟩, d1, d2⟩
  unfold s_X10_image_38 s_X6_copyFrom
  rw [if_pos (hs.o 10 1 (by decide)), hs.p 1 1 4 (by decide), op_eq, op_eq, if_pos b3, show s_X6_copyFrom_2 16000 st 4 0 σ = some ((), σ') from c1, bd_eq]
/-- a new place -/
def zTS : TS := (fun _ => 0, fun _ => 0)
def alS (σ : St) (k : Nat) : St := setP (setP (newC (newC σ 6 1) 16 10) (sn σ) 0 (some (sn σ + 1))) 6 k (some (sn σ))
theorem c_alloc (hp : GI ch sl) (hc : CR ch sl t f s0 s1 S σ) {k : Nat} (hk : k < 2) (hx : sv k s0 s1 = none) : CR ch sl t f (im0 k s0 zTS) (im1 k s1 zTS) S (alS σ k) ∧ CF σ (alS σ k) ∧ sP (alS σ k) 6 k = some (sn σ) ∧ sn (alS σ k) = sn σ + 2 ∧ sz (alS σ k) = sz σ + 11 := by
  obtain ⟨hs, h54⟩ := hc.h54
  have hst := hc.1.core.1.2.2.2
  have hg : Gr (fun _ _ => False) (fun a x => a = 6 ∧ x = k) σ (alS σ k) := by
    have g1 : Gr (fun _ _ => False) (fun a x => a = 6 ∧ x = k) σ (newC σ 6 1) := new_gr σ 6 1
    have g2 : Gr (fun _ _ => False) (fun a x => a = 6 ∧ x = k) (newC σ 6 1) (newC (newC σ 6 1) 16 10) := new_gr _ 16 10
    have g3 := g1.trans g2
    refine ⟨by show sn σ ≤ sn σ + 1 + 1; omega, g3.2.1, g3.2.2.1, g3.2.2.2.1, fun a x ha q => ?_⟩
    show sP (setP (setP (newC (newC σ 6 1) 16 10) (sn σ) 0 (some (sn σ + 1))) 6 k (some (sn σ))) a x = _
    rw [sP_P, if_neg q, sP_P, if_neg (by omega)]
    exact g3.2.2.2.2 a x ha q
  obtain ⟨hK, h2, h3, h4, h5⟩ := hc
  obtain ⟨st, arr, st', arr', g1, g2, g3⟩ := h5.get hk
  have hs' := hg.ss hs (fun a k q => Or.inr (Or.inl q.1))
  have c54 : ∀ (a k : Nat), (fun _ _ => False : Nat → Nat → Prop) a k → a < 54 := fun a k q => q.elim
  have hst' : Stk 5 (wCh ch) (wSl sl) (alS σ k) := hst.gr hg (by omega) c54 (fun a k q => by omega)
  have i : ∀ a k, a < sn σ → sI (alS σ (k := k)) a k = sI (alS σ (k := k)) a k := fun _ _ _ => rfl
  have hi : ∀ a x, a < 54 → sI (alS σ k) a x = sI σ a x := fun a x q => hg.2.2.1 a x (by omega) (fun q => q)
  have hl : ∀ a x, a < 54 → sL (alS σ k) a x = sL σ a x := fun a x q => hg.2.2.2.1 a x (by omega)
  have n1 : sn (newC σ 6 1) = sn σ + 1 := rfl
  have e6 : sP (alS σ k) 6 k = some (sn σ) := by unfold alS; rw [sP_P, if_pos ⟨rfl, rfl⟩]
  have o1 : isO (alS σ k) 6 (sn σ) = true := by
    have a1 := new_o (σ := σ) (k := 6) (n := 1) (by omega)
    have g2' : Gr (fun _ _ => False) (fun _ _ => False) (newC σ 6 1) (newC (newC σ 6 1) 16 10) := new_gr _ 16 10
    exact g2'.o a1
  have o2 : isO (alS σ k) 16 (sn σ + 1) = true := new_o (σ := newC σ 6 1) (k := 16) (n := 10) (by omega)
  have l2 : alen (alS σ k) (sn σ + 1) = 10 := new_len (newC σ 6 1) 16 10
  have p2 : sP (alS σ k) (sn σ) 0 = some (sn σ + 1) := by unfold alS; rw [sP_P, if_neg (by omega), sP_P, if_pos ⟨rfl, rfl⟩]
  have z2 : ∀ s, sP (alS σ k) (sn σ + 1) s = none := fun s => by
    unfold alS
    rw [sP_P, if_neg (by omega), sP_P, if_neg (by omega)]
    show row0 (sP (newC σ 6 1)) (sn σ + 1) none (sn σ + 1) s = none
    simp [row0]
  have mine : SvC k (sn σ) (sn σ + 1) (some zTS) (alS σ k) := ⟨e6, h54, o1, p2, by omega, o2, l2, fun s _ => by show (if (0 : Nat) = 0 then _ else _); rw [if_pos rfl]; exact z2 s⟩
  have oth : SvC (1 - k) st' arr' (sv (1 - k) s0 s1) (alS σ k) := by
    cases e : sv (1 - k) s0 s1 with
    | none =>
      rw [e] at g2
      show sP (alS σ k) 6 (1 - k) = none
      rw [hg.2.2.2.2 6 (1 - k) (by omega) (by omega)]
      exact g2
    | some y =>
      rw [e] at g2
      obtain ⟨b1, b2, b3, b4, b5, b6, b7, b8⟩ := g2
      have l3 := (isO_lt b3).2
      have l4 := (isO_lt b6).2
      exact ⟨by rw [hg.2.2.2.2 6 (1 - k) (by omega) (by omega)]; exact b1, b2, hg.o b3, by rw [hg.2.2.2.2 st' 0 l3 (by omega)]; exact b4, b5, hg.o b6, by rw [hg.len l4]; exact b7, b8.gr hg l4 c54 (fun a k q => by omega)⟩
  have dis : (sv (1 - k) s0 s1).isSome = true → sn σ ≠ st' ∧ sn σ + 1 ≠ arr' := fun q => by
    cases e : sv (1 - k) s0 s1 with
    | none => rw [e] at q; cases q
    | some y =>
      rw [e] at g2
      obtain ⟨b1, b2, b3, b4, b5, b6, b7, b8⟩ := g2
      have l3 := (isO_lt b3).2
      have l4 := (isO_lt b6).2
      omega
  refine ⟨⟨hK.same hp.wipe.2.2.1 hs' hst' (fun a x q => hi a x (by unfold kpI at q; omega)) (fun a x q1 q2 => hl a x (by omega)), ⟨by rw [hi 2 1 (by omega)]; exact h2.1, fun x hx => by rw [hi 3 x (by omega)]; exact h2.2 x hx⟩, ⟨by rw [hi 27 1 (by omega)]; exact h3.1, fun x v hx => by rw [hi 28 x (by omega)]; exact h3.2 x v hx⟩, by rw [hi 1 10 (by omega)]; exact h4, SvS.put hk mine oth dis⟩, ⟨hg.1, hg.2.1, fun a x q1 q2 => ⟨hi a x q1, hl a x q1⟩⟩, e6, rfl, ?_⟩
  show sz σ + 1 + 10 = sz σ + 11
  omega
theorem OG_im {k : Nat} {y : TS} (h0 : OG s0) (h1 : OG s1) (hy : GI y.1 y.2) : OG (im0 k s0 y) ∧ OG (im1 k s1 y) := by
  refine ⟨fun x hx => ?_, fun x hx => ?_⟩
  · unfold im0 at hx
    split at hx
    · obtain rfl := Option.some.inj hx; exact hy
    · exact h0 x hx
  · unfold im1 at hx
    split at hx
    · obtain rfl := Option.some.inj hx; exact hy
    · exact h1 x hx
theorem st_image (hp : PS ch sl t f s0 s1) (hc : CR ch sl t f s0 s1 S σ) (hm : MR ch sl t f s0 s1 σ) {z : Int} (hz : -2147483648 ≤ z ∧ z < 2147483648) : Step2 ch sl t f s0 s1 S σ (s_X10_image 1 (I z)) (s_X11_image 30 (I z)) := by
  obtain ⟨hs, h54⟩ := hc.h54
  by_cases c : 0 ≤ z ∧ z < 2
  · obtain ⟨k, rfl⟩ := Int.eq_ofNat_of_zero_le c.1
    have hk : k < 2 := by omega
    obtain ⟨og0, og1⟩ := OG_im (k := k) (y := (wCh ch, wSl sl)) hp.2.2.2.1 hp.2.2.2.2 hp.1.wipe
    refine mkStep (a := 1) (ch' := ch) (sl' := sl) (t' := t) (f' := f) (s0' := im0 k s0 (wCh ch, wSl sl)) (s1' := im1 k s1 (wCh ch, wSl sl)) hm ⟨hp.1, hp.2.1, rfl, og0, og1⟩ ?_ (fun σ1 h => ?_)
    · cases e : sv k s0 s1 with
      | some x =>
        obtain ⟨st, σ', a1, a2, a3, a4, a5, a6⟩ := c_im38 hp.1 hc hk e
        refine ⟨σ', S, ?_, a3, by omega, a4, by omega, by omega⟩
        unfold s_X10_image
        rw [if_neg (by rw [I_lit, I_lt (by omega) (by omega)]; omega), if_pos (by rw [I_lit, I_lt (by omega) (by omega)]; omega), if_pos (hs.o 10 1 (by decide)), hs.p 1 2 6 (by decide), op_eq, if_pos (hs.o 17 6 (by decide)), hs.len 6 2 (by decide), if_pos (inN hk (by omega)), tNI (by omega), a1, on_some', a2]
      | none =>
        obtain ⟨b1, b2, b3, b4, b5⟩ := c_alloc hp.1 hc hk e
        obtain ⟨v1, v2, v3⟩ := sv_im (s0 := s0) (s1 := s1) hk zTS
        obtain ⟨st, σ', a1, a2, a3, a4, a5, a6⟩ := c_im38 hp.1 b1 hk v1
        rw [(v3 (wCh ch, wSl sl)).1, (v3 (wCh ch, wSl sl)).2] at a3
        have est : st = sn σ := by rw [b3] at a1; exact (Option.some.inj a1).symm
        subst est
        refine ⟨σ', S, ?_, a3, by omega, b2.trans a4, by omega, by omega⟩
        obtain ⟨st2, arr2, _, _, g1, _, _⟩ := hc.2.2.2.2.get hk
        rw [e] at g1
        have g1' : sP σ 6 k = none := g1
        unfold s_X10_image
        rw [if_neg (by rw [I_lit, I_lt (by omega) (by omega)]; omega), if_pos (by rw [I_lit, I_lt (by omega) (by omega)]; omega), if_pos (hs.o 10 1 (by decide)), hs.p 1 2 6 (by decide), op_eq, if_pos (hs.o 17 6 (by decide)), hs.len 6 2 (by decide), if_pos (inN hk (by omega)), tNI (by omega), g1', on_none, lt_eq, lt_eq]
        unfold s_X6_init
        have h10 : (10 : Int32).toNatClampNeg = 10 := t10
        have oo : isO (newC (newC σ 6 1) 16 10) 6 (sn σ) = true := (show Gr (fun _ _ => False) (fun _ _ => False) (newC σ 6 1) (newC (newC σ 6 1) 16 10) from new_gr _ 16 10).o (new_o (by omega))
        have hs3 : SS (setP (newC (newC σ 6 1) 16 10) (sn σ) 0 (some (sn (newC σ 6 1)))) := by
          have g1 : Gr (fun _ _ => False) (fun _ _ => False) σ (newC σ 6 1) := new_gr σ 6 1
          have g2 : Gr (fun _ _ => False) (fun _ _ => False) (newC σ 6 1) (newC (newC σ 6 1) 16 10) := new_gr _ 16 10
          have g3 := (g1.trans g2).ss hs (fun a k q => q.elim)
          refine ⟨g3.1, g3.2.1, fun q hq => ?_⟩
          have hk54 : q.1 < 54 := by
            have : ∀ q ∈ stP, q.1 < 54 := by decide
            exact this q hq
          rw [sP_P, if_neg (by omega)]
          exact g3.2.2 q hq
        rw [h10, lt_eq, lt_eq, if_pos oo, lt_eq, bd_eq, if_pos (hs3.o 10 1 (by decide)), hs3.p 1 2 6 (by decide), op_eq, if_pos (hs3.o 17 6 (by decide)), hs3.len 6 2 (by decide), if_pos (inN hk (by omega)), if_pos (show isO (setP (newC (newC σ 6 1) 16 10) (sn σ) 0 (some (sn (newC σ 6 1)))) 6 (sn σ) = true from oo), lt_eq]
        exact a2
    · obtain ⟨σ2, a1, a2, a3⟩ := m_image hp.1 hp.2.2.2.1 hp.2.2.2.2 h hk
      exact ⟨σ2, a1, a2, a3⟩
  · refine same_step hp hm hc (a := I (-2)) ?_ (fun σ1 h => ?_)
    · unfold s_X10_image
      by_cases c2 : z < 0
      · rw [if_pos (by rw [I_lit, I_lt hz (by omega)]; exact c2)]; rfl
      · rw [if_neg (by rw [I_lit, I_lt hz (by omega)]; exact c2), if_neg (by rw [I_lit, I_lt hz (by omega)]; omega)]; rfl
    · unfold s_X11_image
      rw [show s_X11_in (I z) 0 1 σ1 = some (bI (decide (0 ≤ z ∧ z ≤ 1)), σ1) from q_inb hz (a := 0) (b := 1) (by omega) (by omega) σ1, bd_eq, if_pos (by rw [bI0]; exact decide_eq_false (by omega))]
      rfl
theorem SvM.sv {k : Nat} (hk : k < 2) (h : MR ch sl t f s0 s1 σ) : SvM k (sv k s0 s1) σ := by
  rcases (show k = 0 ∨ k = 1 by omega) with rfl | rfl
  · exact h.2.2.2.2.1
  · exact h.2.2.2.2.2
theorem OG.sv {k : Nat} (h0 : OG s0) (h1 : OG s1) : OG (sv k s0 s1) := by
  unfold Jvm.Pilot.COnceProverLaw_law_r1089_e7bdca.sv
  split
  · exact h0
  · exact h1
theorem st_restore (hp : PS ch sl t f s0 s1) (hc : CR ch sl t f s0 s1 S σ) (hm : MR ch sl t f s0 s1 σ) {z : Int} (hz : -2147483648 ≤ z ∧ z < 2147483648) : Step2 ch sl t f s0 s1 S σ (s_X10_restore 1 (I z)) (s_X11_restore 30 (I z)) := by
  obtain ⟨hs, h54⟩ := hc.h54
  by_cases c : 0 ≤ z ∧ z < 2
  · obtain ⟨k, rfl⟩ := Int.eq_ofNat_of_zero_le c.1
    have hk : k < 2 := by omega
    obtain ⟨st, arr, st', arr', g1, _, _⟩ := hc.2.2.2.2.get hk
    have hog := OG.sv (k := k) hp.2.2.2.1 hp.2.2.2.2
    have head : ∀ X, on (sP σ 6 k) (some (-3, σ)) (fun w8 => op (sP σ 1 1) fun p10 => if isO σ 6 p10 = true then (bd (s_X6_copyFrom p10 w8 σ) fun r15 σ13 => if isO σ13 10 1 = true then (lt (setI σ13 1 11 1) fun σ17 => some (1, σ17)) else none) else none) = X → s_X10_restore 1 (I ((k : Nat) : Int)) σ = X := fun X hX => by
      unfold s_X10_restore
      rw [if_neg (by rw [I_lit, I_lt (by omega) (by omega)]; omega), if_pos (by rw [I_lit, I_lt (by omega) (by omega)]; omega), if_pos (hs.o 10 1 (by decide)), hs.p 1 2 6 (by decide), op_eq, if_pos (hs.o 17 6 (by decide)), hs.len 6 2 (by decide), if_pos (inN hk (by omega)), tNI (by omega), ← hX, hs.p 1 1 4 (by decide)]
    have mhead : ∀ {σ1 : St}, MR ch sl t f s0 s1 σ1 → s_X11_restore 30 (I ((k : Nat) : Int)) σ1 = if sI σ1 53 k = 0 then some (-3, σ1) else s_X11_restore_26 16000 30 (I (k : Nat)) 0 σ1 := fun {σ1} h => by
      have hs1 := h.1.1.1
      unfold s_X11_restore
      rw [show s_X11_in (I (k : Nat)) 0 1 σ1 = some (bI (decide (0 ≤ (k : Int) ∧ (k : Int) ≤ 1)), σ1) from q_inb (z := (k : Int)) (by omega) (a := 0) (b := 1) (by omega) (by omega) σ1, bd_eq, if_neg (by rw [bI0, decide_eq_true (by omega)]; decide), if_pos (hs1.o 11 30 (by decide)), hs1.p 30 35 53 (by decide), op_eq, if_pos (hs1.o 15 53 (by decide)), hs1.len 53 2 (by decide), if_pos (inN hk (by omega)), tNI (by omega)]
    cases e : sv k s0 s1 with
    | none =>
      rw [e] at g1
      have g1' : sP σ 6 k = none := g1
      refine same_step hp hm hc (a := I (-3)) (head _ (by rw [g1', on_none]; rfl)) (fun σ1 h => ?_)
      have := SvM.sv hk h
      rw [e] at this
      have t0 : sI σ1 53 k = 0 := this
      rw [mhead h, if_pos t0]
      rfl
    | some x =>
      rw [e] at g1
      obtain ⟨b1, b2, b3, b4, b5, b6, b7, b8⟩ := g1
      have gx : GI x.1 x.2 := hog x e
      have ke : ∀ {p q a b : Nat}, isO σ p a = true → isO σ q b = true → p ≠ q → a ≠ b := fun {p q a b} e1 e2 hpq e => by
        subst e
        have := isO_k e1
        have := isO_k e2
        omega
      obtain ⟨σ', c1, c2, c3⟩ := cpy_loop (dst := 4) (darr := 5) (src := st) (sarr := arr) (by omega) (by omega) (by omega) 10 0 15989 σ rfl (hs.o 6 4 (by decide)) (hs.p 4 0 5 (by decide)) (hs.o 16 5 (by decide)) (hs.len 5 10 (by decide)) b3 b4 b6 b7 b8.items (fun s q => by omega)
      have hs' := c2.ss (Or.inl rfl) hs
      have hf : PF 5 (fun a k => a = 1 ∧ k = 11) σ (setI σ' 1 11 1) := ⟨c2.1, c2.2.1, c2.2.2.1, c2.2.2.2.1, fun a j q => by rw [sIn (by omega)]; exact c2.2.2.2.2.1 a j (fun z => z), fun a j q => by rw [sP_I]; exact c2.2.2.2.2.2 a j q⟩
      have hst5 : Stk 5 x.1 x.2 (setI σ' 1 11 1) := b8.cpy (fun s q => c3 s q) (fun q => hf.itm (Or.inl (by omega)) (fun a k q => by omega) q)
      have hw : ∀ s, s < 10 → wSl (rSl sl x.2) s = x.2 s ∧ ∀ i, i < 64 → wCh (rCh ch x.1) (64 * s + i) = x.1 (64 * s + i) := fun s q => by
        obtain ⟨w1, w2⟩ := r_win (ch := ch) (sl := sl) x.1 x.2 s q
        exact ⟨by rw [wSl_s _ q]; exact w1, fun i hi => by rw [wCh_s _ q hi]; exact w2 i hi⟩
      have e10 : rSl sl x.2 10 = sl 10 := by unfold rSl; rw [if_neg (by omega)]
      have ebu : ∀ i, rCh ch x.1 (640 + i) = ch (640 + i) := fun i => by unfold rCh; rw [if_neg (by omega)]
      obtain ⟨d1, d2, d3⟩ := hc.stale (ch' := rCh ch x.1) (sl' := rSl sl x.2) hf sIe (hst5.win gx.1 hw) ⟨e10, fun i _ => ebu i⟩
      refine mkStep (a := 1) (ch' := rCh ch x.1) (sl' := rSl sl x.2) (t' := t) (f' := f) (s0' := s0) (s1' := s1) hm ⟨r_GI hp.1 gx, hp.2⟩ ?_ (fun σ1 h => ?_)
      · refine ⟨setI σ' 1 11 1, S, head _ ?_, d1, by omega, d2, by rw [hf.1]; omega, by rw [hf.2.1]; omega⟩
        unfold s_X6_copyFrom
        rw [b1, on_some', hs.p 1 1 4 (by decide), op_eq, if_pos (hs.o 6 4 (by decide)), show s_X6_copyFrom_2 16000 4 st 0 σ = some ((), σ') from c1, bd_eq, if_pos (hs'.o 10 1 (by decide)), lt_eq]
      · have hsv := SvM.sv hk h
        rw [e] at hsv
        obtain ⟨z1, z2, z3⟩ := hsv
        obtain ⟨σ2, y1, y2, y3, y4, y5⟩ := re26 hk 600 0 15399 σ1 rfl h.1.1.1 (fun i q => by omega)
        refine ⟨σ2, ?_, ?_, (y2.fx noC).mf (fun a k q => by omega) (fun a k q => q.elim)⟩
        · rw [mhead h, z1, if_neg (by decide)]; exact y1
        · obtain ⟨⟨h1, h4, h5⟩, _, h7, h9, h10, h11⟩ := h
          refine ⟨⟨⟨y2.ss h1.1, fun s q => ?_, fun s q i hi => ?_⟩, by rw [e10, y2.i 32 10 (by omega)]; exact h4, fun i hi => ?_⟩, Or.inl y5, h7.fr y2 (by omega) (fun k => by omega), by rw [y2.i 30 2 (by omega)]; exact h9, h10.cg (fun a j q1 q2 => y2.i a j (by omega)), h11.cg (fun a j q1 q2 => y2.i a j (by omega))⟩
          · obtain ⟨w1, w2⟩ := r_win (ch := ch) (sl := sl) x.1 x.2 s q
            rw [w1, y4 s q]; exact z2 s q
          · obtain ⟨w1, w2⟩ := r_win (ch := ch) (sl := sl) x.1 x.2 s q
            rw [w1] at hi
            have h60 := (gx.1.1 s (by omega)).1
            rw [w2 i (by omega), y3 (60 * s + i) (by omega)]; exact z3 s q i hi
          · rw [e10] at hi
            rw [ebu, y2.i 31 _ (by omega)]; exact h5 i hi
  · refine same_step hp hm hc (a := I (-2)) ?_ (fun σ1 h => ?_)
    · unfold s_X10_restore
      by_cases c2 : z < 0
      · rw [if_pos (by rw [I_lit, I_lt hz (by omega)]; exact c2)]; rfl
      · rw [if_neg (by rw [I_lit, I_lt hz (by omega)]; exact c2), if_neg (by rw [I_lit, I_lt hz (by omega)]; omega)]; rfl
    · unfold s_X11_restore
      rw [show s_X11_in (I z) 0 1 σ1 = some (bI (decide (0 ≤ z ∧ z ≤ 1)), σ1) from q_inb hz (a := 0) (b := 1) (by omega) (by omega) σ1, bd_eq, if_pos (by rw [bI0]; exact decide_eq_false (by omega))]
      rfl
end
