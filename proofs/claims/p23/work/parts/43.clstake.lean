theorem Gr.trans2 {CI CP CI2 CP2 : Nat → Nat → Prop} {σ σ1 σ2 : St} (h : Gr CI CP σ σ1) (h2 : Gr CI2 CP2 σ1 σ2) (hI : ∀ a k, a < sn σ → CI2 a k → CI a k) (hP : ∀ a k, a < sn σ → CP2 a k → CP a k) : Gr CI CP σ σ2 := by
  obtain ⟨a1, a2, a3, a4, a5⟩ := h
  obtain ⟨b1, b2, b3, b4, b5⟩ := h2
  exact ⟨by omega, fun a ha => (b2 a (by omega)).trans (a2 a ha), fun a k ha hc => (b3 a k (by omega) (fun q => hc (hI a k ha q))).trans (a3 a k ha hc), fun a k ha => (b4 a k (by omega)).trans (a4 a k ha), fun a k ha hc => (b5 a k (by omega) (fun q => hc (hP a k ha q))).trans (a5 a k ha hc)⟩
/-- an item: a text that is kept -/
def Itm (σ : St) (it n : Nat) (x : Nat → Nat) (k l : Nat) : Prop := isO σ 1 it = true ∧ 30 ≤ it ∧ sI σ it 1 = I (k : Nat) ∧ sI σ it 2 = I (l : Nat) ∧ ∃ c, sP σ it 0 = some c ∧ 30 ≤ c ∧ isO σ 12 c = true ∧ alen σ c = n ∧ ∀ i, i < n → sI σ c i = I (x i : Nat)
def rtI : Nat → Nat → Prop := fun a k => (7 ≤ a ∧ a ≤ 12) ∨ (a = 1 ∧ k = 10)
def rtP (ch sl : Nat → Nat) (g : Nat) (σ : St) (res : Option Nat) (σ' : St) : Prop := match bufF ch sl g with
  | some f => res = none ∧ sI σ' 1 10 = I (f : Nat)
  | none => sI σ' 1 10 = sI σ 1 10 ∧ ∃ it, res = some it ∧ sn σ ≤ it ∧ Itm σ' it (sl 10) (fun i => ch (640 + i)) (bufR ch g).2.2.1 (bufR ch g).2.2.2
/-- the end of reading a text: an item, or a fault -/
theorem rt_45 {ch sl : Nat → Nat} {g c rd : Nat} {σ0 σ : St} (hs : SS σ) (hrd : isO σ 5 rd = true) (hc54 : 30 ≤ c) (hc : isO σ 12 c = true) (hl : alen σ c = sl 10) (hx : ∀ i, i < sl 10 → sI σ c i = I (ch (640 + i) : Nat)) (h110 : sI σ 1 10 = sI σ0 1 10) (hn : sn σ0 ≤ sn σ)
    (h3 : sI σ rd 3 = oI (bufF ch sl g)) (hf60 : ∀ f, bufF ch sl g = some f → f ≤ 60) (h5 : bufF ch sl g = none → sI σ 7 5 = I ((bufR ch g).2.2.1 : Nat) ∧ sI σ 7 6 = I ((bufR ch g).2.2.2 : Nat)) :
    ∃ res σ', s_X10_readText_45 1 (some c) rd σ = some (res, σ') ∧ Gr rtI (fun _ _ => False) σ σ' ∧ sn σ' ≤ sn σ + 1 ∧ sz σ' ≤ sz σ + 3 ∧ rtP ch sl g σ0 res σ' := by
  unfold s_X10_readText_45 rtP
  have hfl : s_X5_failed rd σ = if sI σ rd 3 = -6 then some (0, σ) else some (1, σ) := by
    unfold s_X5_failed
    rw [if_pos hrd]
  rw [if_pos hrd, hfl, h3]
  cases hb : bufF ch sl g with
  | some f =>
    have := hf60 f hb
    rw [if_neg (by show ¬ I (f : Nat) = I (-6); rw [I_eq (by omega) (by omega)]; omega), bd_eq, if_neg (by decide), if_pos hrd]
    unfold s_X5_faultPlace
    rw [if_pos hrd, bd_eq, if_pos (hs.o 10 1 (by decide)), lt_eq, h3, hb]
    exact ⟨none, _, rfl, ((Fr.refl σ).put (C := rtI) _ (Or.inr ⟨rfl, rfl⟩)).gr, Nat.le_succ _, Nat.le_add_right _ _, rfl, sIe⟩
  | none =>
    obtain ⟨k5, k6⟩ := h5 hb
    rw [if_pos (show oI none = -6 from rfl), bd_eq, if_pos rfl, lt_eq, lt_eq]
    have hg := new_gr (CI := fun _ _ => False) (CP := fun _ _ => False) σ 1 3
    have hs1 := hg.ss hs (fun _ _ q => q.elim)
    have h54 := hs.1
    have hi : isO (newC σ 1 3) 1 (sn σ) = true := new_o (by omega)
    have hcl := (isO_lt hc).2
    unfold s_X3_nodes s_X3_loans s_X1_init
    rw [if_pos (hs1.o 10 1 (by decide)), hs1.p 1 3 7 (by decide), op_eq, if_pos (hs1.o 3 7 (by decide)), if_pos (hs1.o 3 7 (by decide)), bd_eq, if_pos (hs1.o 10 1 (by decide)), hs1.p 1 3 7 (by decide), op_eq, if_pos (hs1.o 3 7 (by decide)), if_pos (hs1.o 3 7 (by decide)), bd_eq, op_eq, if_pos hi, lt_eq, lt_eq, lt_eq, bd_eq,
      hg.2.2.1 7 5 (by omega) id, hg.2.2.1 7 6 (by omega) id, k5, k6]
    have fin : Gr (fun _ _ => False) (fun _ _ => False) σ (setI (setI (setP (newC σ 1 3) (sn σ) 0 (some c)) (sn σ) 1 (I ((bufR ch g).2.2.1 : Nat))) (sn σ) 2 (I ((bufR ch g).2.2.2 : Nat))) := by
      refine ⟨hg.1, hg.2.1, fun a k ha hq => ?_, hg.2.2.2.1, fun a k ha hq => ?_⟩
      · rw [sIn (by omega), sIn (by omega)]
        exact hg.2.2.1 a k ha hq
      · show sP (setP (newC σ 1 3) (sn σ) 0 (some c)) a k = _
        rw [sP_P, if_neg (by omega)]
        exact hg.2.2.2.2 a k ha hq
    refine ⟨some (sn σ), _, rfl, fin.mono (fun a k _ q => q.elim) (fun a k _ q => q), Nat.le_refl _, Nat.le_refl _, ?_, sn σ, rfl, hn, hi, h54, ?_, sIe, c, ?_, hc54, fin.o hc, by rw [fin.len hcl]; exact hl, fun i hi2 => ?_⟩
    · rw [fin.2.2.1 1 10 (by omega) id]; exact h110
    · rw [sIn (by omega), sIe]
    · show sP (setP (newC σ 1 3) (sn σ) 0 (some c)) (sn σ) 0 = _
      rw [sP_P, if_pos ⟨rfl, rfl⟩]
    · rw [fin.2.2.1 c i hcl id]; exact hx i hi2
theorem bufF_le {ch sl : Nat → Nat} (ht : Txt ch sl) {g f : Nat} (hb : bufF ch sl g = some f) : f ≤ 60 := by
  have h60 := (ht.1 10 (by omega)).1
  have hend : ∀ i, 64 * 10 + sl 10 ≤ i → i < 64 * 10 + 64 → ch i = 0 := fun i h1 h2 => by
    have := (ht.1 10 (by omega)).2.2 (i - 640) (by omega) (by omega)
    rw [show 64 * 10 + (i - 640) = i by omega] at this
    exact this
  unfold bufF at hb
  by_cases c : g = 1
  · rw [if_pos c] at hb
    unfold fG at hb
    have := pgoal_pos ch (64 * 10) (sl 10) hend h60 64 (64 * 10) (by omega) (by omega)
    have h2 : (G64 ch (64 * 10)).2.1 ≤ 64 * 10 + sl 10 := this.2.1
    split at hb
    · cases hb
    · have := Option.some.inj hb; omega
  · rw [if_neg c] at hb
    unfold fO at hb
    have := poff_pos (g := pgoal ch 64) (64 * 10) (sl 10) hend h60 (pgoal_pos ch (64 * 10) (sl 10) hend h60 64) (64 * 10) (by omega) (by omega)
    have h2 : (poff (G64 ch) ch (64 * 10)).2.1 ≤ 64 * 10 + sl 10 := this.2.1
    split at hb
    · cases hb
    · have := Option.some.inj hb; omega
theorem q_readText {ch sl : Nat → Nat} (ht : Txt ch sl) {σ : St} (hs : SS σ) (hb : CB ch sl σ) {g : Nat} (hg : g ≤ 1) : ∃ res σ', s_X10_readText 1 (if g = 1 then 0 else 1) σ = some (res, σ') ∧ Gr rtI (fun _ _ => False) σ σ' ∧ sn σ' ≤ sn σ + 3 ∧ sz σ' ≤ sz σ + 67 ∧ rtP ch sl g σ res σ' := by
  have h60 := (ht.1 10 (by omega)).1
  have hend : ∀ i, 640 + sl 10 ≤ i → i < 640 + 64 → ch i = 0 := fun i h1 h2 => by
    have := (ht.1 10 (by omega)).2.2 (i - 640) (by omega) (by omega)
    rw [show 64 * 10 + (i - 640) = i by omega] at this
    exact this
  have h54 := hs.1
  obtain ⟨σ1, a1, a2, a3, a4, a5, a6, a7⟩ := q_copy ht hs hb
  have hs1 := a2.ss hs (fun _ _ q => q.elim)
  obtain ⟨σ2, b1, b2, b3, b4, b5, b6⟩ := q_clear (pl := 7) (Or.inl rfl) hs1
  have hs2 := b2.ss hs1
  have n2 : sn σ2 = sn σ + 1 := by rw [b2.1, a3]
  have z2 : sz σ2 = sz σ + sl 10 := by rw [b2.2.1, a4]
  have hc2 : isO σ2 12 (sn σ) = true := by rw [b2.o]; exact a5
  have hx2 : ∀ i, i < sl 10 → sI σ2 (sn σ) i = I (ch (640 + i) : Nat) := fun i hi => by rw [b2.i _ _ (by unfold plC; omega)]; exact a7 i hi
  obtain ⟨σ3, c1, c2, c3, c4, c5, c6, c7⟩ := q_newrd (ch := ch) (pl := 7) (b := 640) (n := sl 10) hs2 (Or.inl rfl) hc2 h54 (by rw [b2.len]; exact a6) h60 hx2 ht.2 hend b3 b4
  have hs3 := c2.ss hs2 (fun _ _ q => q.elim)
  -- reading
  have rd : ∃ σ4, (if g = 1 then (∃ r, s_X5_readWholeGoal (sn σ2) σ3 = some (r, σ4)) else s_X5_readWholeOffer (sn σ2) 0 σ3 = some ((), σ4)) ∧ Fr (rdC (sn σ2) 7) σ3 σ4 ∧ sI σ4 (sn σ2) 3 = oI (bufF ch sl g) ∧ (bufF ch sl g = none → sI σ4 7 5 = I ((bufR ch g).2.2.1 : Nat) ∧ sI σ4 7 6 = I ((bufR ch g).2.2.2 : Nat)) := by
    cases hf : bufF ch sl g with
    | some f =>
      unfold bufF at hf
      by_cases cg : g = 1
      · rw [if_pos cg] at hf
        obtain ⟨r, σ4, d1, d2, d3⟩ := wg_bad c5 c6 (hf : wG ch 640 (sl 10) = some f)
        exact ⟨σ4, by rw [if_pos cg]; exact ⟨r, d1⟩, d2, d3, fun q => by cases q⟩
      · rw [if_neg cg] at hf
        obtain ⟨σ4, d1, d2, d3⟩ := wo_bad (o := 0) c5 c6 (hf : wO ch 640 (sl 10) = some f) (by omega)
        exact ⟨σ4, by rw [if_neg cg]; exact d1, d2, d3, fun q => by cases q⟩
    | none =>
      obtain ⟨f1, f2⟩ := bufR_fits ht hf
      unfold bufF at hf
      unfold bufR at f1 f2 ⊢
      by_cases cg : g = 1
      · rw [if_pos cg] at hf f1 f2
        rw [if_pos cg]
        obtain ⟨σ4, d1, d2, d3, -⟩ := wg_ok c5 c6 (hf : wG ch 640 (sl 10) = none) (by omega) (by omega)
        obtain ⟨e1, e2, e3, e4⟩ := d3
        rw [Nat.zero_add] at e3 e4
        exact ⟨σ4, by rw [if_pos cg]; exact ⟨_, d1⟩, d2, e2, fun _ => ⟨e3, e4⟩⟩
      · rw [if_neg cg] at hf f1 f2
        rw [if_neg cg]
        obtain ⟨σ4, d1, d2, d3, -⟩ := wo_ok (o := 0) c5 c6 (hf : wO ch 640 (sl 10) = none) (by omega) (by omega) (by omega)
        obtain ⟨e1, e2, e3, e4⟩ := d3
        rw [Nat.zero_add] at e3 e4
        exact ⟨σ4, by rw [if_neg cg]; exact d1, d2, e2, fun _ => ⟨e3, e4⟩⟩
  obtain ⟨σ4, d1, d2, d3, d4⟩ := rd
  have hs4 := d2.ss hs3
  have cne : ∀ k, ¬ rdC (sn σ2) 7 (sn σ) k := fun k => by unfold rdC; omega
  have k110 : sI σ4 1 10 = sI σ 1 10 := by
    rw [d2.i 1 10 (by unfold rdC; omega), c2.2.2.1 1 10 (by omega) id, b2.i 1 10 (by unfold plC; omega), a2.2.2.1 1 10 (by omega) id]
  have n4 : sn σ4 = sn σ + 2 := by rw [d2.1, c3, n2]
  have z4 : sz σ4 = sz σ + sl 10 + 4 := by rw [d2.2.1, c4, z2]
  obtain ⟨res, σ5, e1, e2, e3, e4, e5⟩ := rt_45 (ch := ch) (sl := sl) (g := g) (c := sn σ) (rd := sn σ2) (σ0 := σ) hs4 (by rw [d2.o]; exact c7) h54 (by rw [d2.o]; exact c2.o hc2) (by rw [d2.len, c2.len (by omega), b2.len]; exact a6) (fun i hi => by
    rw [d2.i _ _ (cne i), c2.2.2.1 _ _ (by omega) id]; exact hx2 i hi) k110 (by omega) d3 (fun f hf => bufF_le ht hf) d4
  refine ⟨res, σ5, ?_, ?_, by omega, by omega, e5⟩
  · have key : ∀ X : Option (Option Nat × St), (if (if g = 1 then (0 : Int32) else 1) = 0 then (if isO σ3 5 (sn σ2) = true then (bd (s_X5_readWholeGoal (sn σ2) σ3) fun r66 σ64 => s_X10_readText_45 1 (some (sn σ)) (sn σ2) σ64) else none) else (if isO σ3 5 (sn σ2) = true then (bd (s_X5_readWholeOffer (sn σ2) 0 σ3) fun r70 σ68 => s_X10_readText_45 1 (some (sn σ)) (sn σ2) σ68) else none)) = X → s_X10_readText 1 (if g = 1 then 0 else 1) σ = X := fun X hX => by
      unfold s_X10_readText
      rw [if_pos (hs.o 10 1 (by decide)), hs.p 1 0 2 (by decide), op_eq, if_pos (hs.o 7 2 (by decide)), a1, bd_eq, if_pos (hs1.o 10 1 (by decide)), hs1.p 1 3 7 (by decide), op_eq, if_pos (hs1.o 3 7 (by decide)), b1, bd_eq, lt_eq, lt_eq]
      have hg2 := new_gr (CI := fun _ _ => False) (CP := fun _ _ => False) σ2 5 4
      have hs2' := hg2.ss hs2 (fun _ _ q => q.elim)
      rw [if_pos (hs2'.o 10 1 (by decide)), hs2'.p 1 3 7 (by decide), op_eq, op_eq, c1, bd_eq]
      exact hX
    refine key _ ?_
    by_cases cg : g = 1
    · rw [if_pos cg] at d1
      obtain ⟨r, d1⟩ := d1
      rw [if_pos cg, if_pos rfl, if_pos c7, d1, bd_eq, e1]
    · rw [if_neg cg] at d1
      rw [if_neg cg, if_neg (by decide), if_pos c7, d1, bd_eq, e1]
  · refine ((((a2.mono (fun a k _ q => q.elim) (fun a k _ q => q)).trans2 (b2.gr (CP := fun _ _ => False)) ?_ (fun a k _ q => q)).trans2 c2 (fun a k _ q => q.elim) (fun a k _ q => q)).trans2 (d2.gr (CP := fun _ _ => False)) ?_ (fun a k _ q => q)).trans2 e2 (fun a k _ q => q) (fun a k _ q => q)
    · intro a k _ q
      unfold plC at q
      exact Or.inl (by omega)
    · intro a k ha q
      unfold rdC at q
      exact Or.inl (by omega)
