/-! the class's calls over the document's state: QS c: at most c changes were made since the start -/
theorem wCh_wCh (ch : Nat → Nat) : wCh (wCh ch) = wCh ch := by
  funext i
  unfold wCh
  by_cases c : 640 ≤ i ∧ i < 704
  · rw [if_pos c, if_pos c]
  · rw [if_neg c, if_neg c]
theorem wSl_wSl (sl : Nat → Nat) : wSl (wSl sl) = wSl sl := by
  funext i
  unfold wSl
  by_cases c : i = 10
  · rw [if_pos c, if_pos c]
  · rw [if_neg c, if_neg c]
def QS (c L : Nat) (xs : Nat → Int32) (ch sl : Nat → Nat) (t : List Nat) (σ : St) : Prop :=
  ∃ f S, (GI ch sl ∧ Tok t) ∧ CR ch sl t f none none S σ ∧ (S + ee σ ≤ c ∧ sn σ + 10 * ee σ ≤ 30 + 13 * c ∧ sz σ + 40 * ee σ ≤ 158021 + 107 * c ∧ c ≤ 1000) ∧ sh σ 0 = (13, L) ∧ ∀ k, sI σ 0 k = xs k
def Ans (c L : Nat) (xs : Nat → Int32) (ch sl : Nat → Nat) (t : List Nat) (r : Option (Int32 × St)) (a : Int32) : Prop := ∃ σ', r = some (a, σ') ∧ QS c L xs ch sl t σ'
section
variable {c L : Nat} {xs : Nat → Int32} {ch sl : Nat → Nat} {t : List Nat} {σ : St}
theorem QS.o (h : QS c L xs ch sl t σ) : isO σ 10 1 = true := by
  obtain ⟨f, S, _, hc, _⟩ := h
  exact hc.h54.1.o 10 1 (by decide)
theorem QS.gi (h : QS c L xs ch sl t σ) : GI ch sl := by
  obtain ⟨f, S, hg, _⟩ := h
  exact hg.1
theorem QS.tok (h : QS c L xs ch sl t σ) : Tok t := by
  obtain ⟨f, S, hg, _⟩ := h
  exact hg.2
theorem QS.scr (h : QS c L xs ch sl t σ) : isA σ 13 0 = true ∧ alen σ 0 = L ∧ ∀ k, sI σ 0 k = xs k := by
  obtain ⟨f, S, _, hc, _, h0, h1⟩ := h
  refine ⟨?_, ?_, h1⟩
  · have := hc.h54.2
    unfold isA
    rw [h0, decide_eq_true (show 0 < sn σ by omega)]
    rfl
  · unfold alen; rw [h0]
theorem QS.end_ (h : QS c L xs ch sl t σ) : sn σ ≤ 600000 ∧ sz σ ≤ 7302250 := by
  obtain ⟨f, S, _, _, ⟨_, b2, b3, b4⟩, _⟩ := h
  omega
theorem QS.up (h : QS c L xs ch sl t σ) {c2 : Nat} (h1 : c ≤ c2) (h2 : c2 ≤ 1000) : QS c2 L xs ch sl t σ := by
  obtain ⟨f, S, a1, a2, ⟨b1, b2, b3, b4⟩, a3⟩ := h
  exact ⟨f, S, a1, a2, ⟨by omega, by omega, by omega, h2⟩, a3⟩
theorem Ans.now {a : Int32} (h : QS c L xs ch sl t σ) : Ans c L xs ch sl t (some (a, σ)) a := ⟨σ, rfl, h⟩
/-- a question -/
theorem askC.qs (h : QS c L xs ch sl t σ) {r : Option (Int32 × St)} {a : Int32} (g : ∀ S, S < 100000 → K (wCh ch) (wSl sl) S σ → CTr σ t → GI (wCh ch) (wSl sl) → Tok t → askC (wCh ch) (wSl sl) S σ r a) : Ans c L xs ch sl t r a := by
  obtain ⟨f, S, ⟨hg, htk⟩, hc, ⟨b1, b2, b3, b4⟩, h0, h1⟩ := h
  obtain ⟨σ1, S1, a1, a2, ⟨p1, p2, p3⟩, a4⟩ := (g S (by omega) hc.1 hc.2.2.1 hg.wipe htk).pot
  obtain ⟨hs, h54⟩ := hc.h54
  obtain ⟨_, ⟨h2, h3⟩, ⟨h4, h5⟩, h6, h7⟩ := hc
  have i := fun a k (q1 : a < 30) (q2 : ¬ clI a k) => a4.2.2.1 a k (by omega) q2
  exact ⟨σ1, a1, f, S1, ⟨hg, htk⟩, ⟨a2, ⟨by rw [i 2 1 (by omega) (by unfold clI; omega)]; exact h2, fun x hx => by rw [i 3 x (by omega) (by unfold clI; omega)]; exact h3 x hx⟩, ⟨by rw [i 27 1 (by omega) (by unfold clI; omega)]; exact h4, fun x v hx => by rw [i 28 x (by omega) (by unfold clI; omega)]; exact h5 x v hx⟩, by rw [i 1 10 (by omega) (by unfold clI; omega)]; exact h6, h7.gx a4 h54 clI_lt⟩, ⟨by omega, by omega, by omega, b4⟩, by rw [a4.2.1 0 (by omega)]; exact h0, fun k => by rw [i 0 k (by omega) (by unfold clI; omega)]; exact h1 k⟩
theorem a_height (h : QS c L xs ch sl t σ) {z : Int} (hz : -2147483648 ≤ z ∧ z < 2147483648) : Ans c L xs ch sl t (s_X10_height 1 (I z) σ) (hgtA (wCh ch) (wSl sl) z) := askC.qs h fun S hS hk _ hg _ => c_height hg hS hk hz
theorem a_left (h : QS c L xs ch sl t σ) {z y : Int} (hz : -2147483648 ≤ z ∧ z < 2147483648) (hy : -2147483648 ≤ y ∧ y < 2147483648) : Ans c L xs ch sl t (s_X10_left 1 (I z) (I y) σ) (lefA (wCh ch) (wSl sl) z y) := askC.qs h fun S hS hk _ hg _ => c_left hg hS hk hz hy
theorem a_ways (h : QS c L xs ch sl t σ) {z y : Int} (hz : -2147483648 ≤ z ∧ z < 2147483648) (hy : -2147483648 ≤ y ∧ y < 2147483648) : Ans c L xs ch sl t (s_X10_ways 1 (I z) (I y) σ) (waysA (wCh ch) (wSl sl) z y) := askC.qs h fun S hS hk _ hg _ => c_ways hg hS hk hz hy
theorem a_fewest (h : QS c L xs ch sl t σ) : Ans c L xs ch sl t (s_X10_fewest 1 σ) (fewA (wCh ch) (wSl sl)) := askC.qs h fun S hS hk _ hg _ => c_fewest hg hS hk
theorem a_needed (h : QS c L xs ch sl t σ) : Ans c L xs ch sl t (s_X10_needed 1 σ) (needA (wCh ch) (wSl sl)) := askC.qs h fun S hS hk _ hg _ => c_needed hg hS hk
theorem a_term (h : QS c L xs ch sl t σ) {z : Int} (hz : -2147483648 ≤ z ∧ z < 2147483648) : Ans c L xs ch sl t (s_X10_term 1 (I z) σ) (termA (wCh ch) (wSl sl) z) := askC.qs h fun S hS hk _ hg _ => c_term hg hS hk hz
theorem a_uses (h : QS c L xs ch sl t σ) {z y : Int} (hz : -2147483648 ≤ z ∧ z < 2147483648) (hy : -2147483648 ≤ y ∧ y < 2147483648) : Ans c L xs ch sl t (s_X10_uses 1 (I z) (I y) σ) (usesA (wCh ch) (wSl sl) z y) := askC.qs h fun S hS hk _ hg _ => c_uses hg hS hk hz hy
theorem a_check (h : QS c L xs ch sl t σ) {z : Int} (hz : -2147483648 ≤ z ∧ z < 2147483648) : Ans c L xs ch sl t (s_X10_check 1 (I z) σ) (chkA (wCh ch) (wSl sl) t z) := askC.qs h fun S hS hk ht hg htk => c_check hg hS htk hk ht hz
/-- the trial -/
theorem QS.tri {t' : List Nat} {σ1 : St} (h : QS c L xs ch sl t σ) (htk : Tok t') (g : ∀ S, S < 100000 → K (wCh ch) (wSl sl) S σ → CTr σ t → GI (wCh ch) (wSl sl) → SS σ → ∃ S', K (wCh ch) (wSl sl) S' σ1 ∧ Pot S σ S' σ1 ∧ GX clT clL σ σ1 ∧ CTr σ1 t') : QS c L xs ch sl t' σ1 := by
  obtain ⟨f, S, ⟨hg, _⟩, hc, ⟨b1, b2, b3, b4⟩, h0, h1⟩ := h
  obtain ⟨S1, a2, ⟨p1, p2, p3⟩, a4, a5⟩ := g S (by omega) hc.1 hc.2.2.1 hg.wipe hc.h54.1
  have h54 := hc.h54.2
  obtain ⟨d1, d2⟩ := hc.tri a2 a4 a5
  exact ⟨f, S1, ⟨hg, htk⟩, d1, ⟨by omega, by omega, by omega, b4⟩, by rw [d2.2.1 0 (by omega)]; exact h0, fun k => by rw [(d2.2.2 0 k (by omega) (Or.inl rfl)).1]; exact h1 k⟩
theorem a_trial (h : QS c L xs ch sl t σ) {z : Int} (hz : -2147483648 ≤ z ∧ z < 2147483648) : Ans c L xs ch sl (triT (wCh ch) (wSl sl) t z) (s_X10_trial 1 (I z) σ) (triA (wCh ch) (wSl sl) z) := by
  have h' := h
  obtain ⟨f, S, ⟨hg, htk⟩, hc, ⟨b1, b2, b3, b4⟩, h0, h1⟩ := h'
  obtain ⟨σ1, S1, a1, a2, a3, a4, a5⟩ := c_trial hg.wipe (show S < 100000 by omega) hc.1 hc.2.2.1 hz
  have h54 := hc.h54.2
  obtain ⟨p1, p2, p3⟩ := a3
  obtain ⟨d1, d2⟩ := hc.tri a2 a4 a5
  exact ⟨σ1, a1, f, S1, ⟨hg, htk.tri z⟩, d1, ⟨by omega, by omega, by omega, b4⟩, by rw [d2.2.1 0 (by omega)]; exact h0, fun k => by rw [(d2.2.2 0 k (by omega) (Or.inl rfl)).1]; exact h1 k⟩
theorem a_put (h : QS c L xs ch sl t σ) {z : Int} (hz : -2147483648 ≤ z ∧ z < 2147483648) : Ans c L xs ch sl (putT t z) (s_X10_put 1 (I z) σ) (putA t z) := by
  have h' := h
  obtain ⟨f, S, ⟨hg, htk⟩, hc, ⟨b1, b2, b3, b4⟩, h0, h1⟩ := h'
  obtain ⟨σ1, a1, a2, a3⟩ := c_put hc.h54.1 hc.2.2.1 htk hz
  have hk := hc.1.fx hg.wipe.2.2.1 a2 (fun a k q => by unfold ctC at q; omega) (fun a k q => by unfold kpI at q; unfold ctC; omega)
  have h54 := hc.h54.2
  obtain ⟨d1, d2⟩ := hc.tri hk (a2.gx (fun a k q => Or.inr q) (fun _ _ q => q.elim)) a3
  have e1 : ee σ1 = ee σ := ee_cg (a2.i 1 11 (by unfold ctC; omega))
  have e2 : sn σ1 = sn σ := a2.1
  have e3 : sz σ1 = sz σ := a2.2.1
  exact ⟨σ1, a1, f, S, ⟨hg, htk.put z⟩, d1, ⟨by omega, by omega, by omega, b4⟩, by rw [d2.2.1 0 (by omega)]; exact h0, fun k => by rw [(d2.2.2 0 k (by omega) (Or.inl rfl)).1]; exact h1 k⟩
theorem a_count (h : QS c L xs ch sl t σ) : Ans c L xs ch sl t (s_X10_count 1 0 σ) (I (all5 (wSl sl) : Nat)) := by
  refine ⟨σ, ?_, h⟩
  obtain ⟨f, S, _, hc, _⟩ := h
  have hs := hc.h54.1
  unfold s_X10_count
  rw [if_pos rfl, if_pos (hs.o 10 1 (by decide)), q_allRes hs hc.1.core.1.2.2.2, bd_eq]
/-- the text -/
theorem a_wipe (h : QS c L xs ch sl t σ) : Ans c L xs (wCh ch) (wSl sl) t (s_X10_wipe 1 σ) (I (sl 10 : Nat)) := by
  obtain ⟨f, S, ⟨hg, htk⟩, hc, ⟨b1, b2, b3, b4⟩, h0, h1⟩ := h
  have e10 : wSl sl 10 = 0 := by unfold wSl; rw [if_pos rfl]
  have fx : FX (fun a k => a = 2 ∧ k = 1) noC σ (setI σ 2 1 (I (0 : Nat))) := FX.setI 2 1 _ ⟨rfl, rfl⟩
  have hk := hc.1.fx hg.wipe.2.2.1 fx (fun a k q => by omega) (fun a k q => by unfold kpI at q; omega)
  obtain ⟨hs, h54⟩ := hc.h54
  have hgx : GX (fun a k => a = 2 ∧ k = 1) noC σ _ := fx.gx (fun _ _ q => q) (fun _ _ q => q)
  rw [c_wipe hs hc.2.1]
  obtain ⟨_, _, h4, h6, h7⟩ := hc
  have e1 : ee (setI σ 2 1 (I (0 : Nat))) = ee σ := ee_cg (fx.i 1 11 (by omega))
  refine ⟨_, rfl, f, S, ⟨hg.wipe, htk⟩, ⟨by rw [wCh_wCh, wSl_wSl]; exact hk, ⟨by rw [sIe, e10], fun x hx => by omega⟩, h4.fx fx (by omega) (fun k => by omega), by rw [fx.i 1 10 (by omega)]; exact h6, h7.gx hgx h54 (fun a k q => by omega)⟩, ⟨by rw [e1]; exact b1, by rw [e1]; exact b2, by rw [e1]; exact b3, b4⟩, h0, fun k => by rw [fx.i 0 k (by omega)]; exact h1 k⟩
theorem a_say (h : QS c L xs ch sl t σ) {n : Nat} (h33 : 33 ≤ n) (h126 : n ≤ 126) (hl : sl 10 < 60) : Ans c L xs (yCh ch sl n) (ySl sl) t (s_X10_say 1 (I (n : Nat)) σ) (I ((sl 10 + 1 : Nat) : Int)) := by
  obtain ⟨f, S, ⟨hg, htk⟩, hc, ⟨b1, b2, b3, b4⟩, h0, h1⟩ := h
  have htx := hg.1
  have hT := htx.say (z := n) (by omega) (by omega) (show sl 10 < 60 by omega)
  have hGI : GI (yCh ch sl n) (ySl sl) := hg.sub ⟨hT, fun s hs => Or.inr (say_win n s hs)⟩
  have e10 : ySl sl 10 = sl 10 + 1 := by unfold ySl; rw [if_pos rfl]
  have eb : ∀ x, x < sl 10 → yCh ch sl n (640 + x) = ch (640 + x) := fun x hx => by unfold yCh; rw [if_neg (by omega)]
  have en : yCh ch sl n (640 + sl 10) = n := by unfold yCh; rw [if_pos rfl]
  have fx : FX (fun a k => a = 3 ∨ (a = 2 ∧ k = 1)) noC σ (setI (setI σ 3 (sl 10) (I (n : Nat))) 2 1 (I ((sl 10 + 1 : Nat) : Int))) := (FX.setI 3 _ _ (Or.inl rfl)).trans (FX.setI 2 1 _ (Or.inr ⟨rfl, rfl⟩))
  have hk := hc.1.fx hg.wipe.2.2.1 fx (fun a k q => by omega) (fun a k q => by unfold kpI at q; omega)
  obtain ⟨hs, h54⟩ := hc.h54
  have hgx : GX (fun a k => a = 3 ∨ (a = 2 ∧ k = 1)) noC σ _ := fx.gx (fun _ _ q => q) (fun _ _ q => q)
  obtain ⟨_, ⟨h2, h3⟩, h4, h6, h7⟩ := hc
  have e1 : ee (setI (setI σ 3 (sl 10) (I (n : Nat))) 2 1 (I ((sl 10 + 1 : Nat) : Int))) = ee σ := ee_cg (fx.i 1 11 (by omega))
  rw [c_say htx hs ⟨h2, h3⟩ (z := (n : Int)) (by omega), if_pos (by omega), if_neg (by omega)]
  refine ⟨_, rfl, f, S, ⟨hGI, htk⟩, ⟨by rw [wCh_say n (by omega), wSl_say]; exact hk, ⟨by rw [sIe, e10], fun x hx => ?_⟩, h4.fx fx (by omega) (fun k => by omega), by rw [fx.i 1 10 (by omega)]; exact h6, h7.gx hgx h54 (fun a k q => by omega)⟩, ⟨by rw [e1]; exact b1, by rw [e1]; exact b2, by rw [e1]; exact b3, b4⟩, h0, fun k => by rw [fx.i 0 k (by omega)]; exact h1 k⟩
  rw [e10] at hx
  rw [sIn (by omega)]
  by_cases cx : x = sl 10
  · rw [cx, sIe, en]
  · rw [sIn (by omega), eb x (by omega)]; exact h3 x (by omega)
/-- the class takes its text: an offer or a goal that has room -/
theorem a_takeN {fr to g k : Nat} {cc : St → Option (Int32 × St)} (hgr : g = 0 ∧ 1 ≤ fr ∧ fr ≤ to ∧ to < 10 ∨ g = 1 ∧ fr = 0 ∧ to = 0) (h : QS c L xs ch sl t σ) (hc9 : c < 1000)
    (hcc : ∀ f S, CR ch sl t f none none S σ → ∃ r σ', cc σ = some (r, σ') ∧ ctPost ch sl fr to g σ r σ') (hb : bufF ch sl g = none) (ho : slotOf sl fr to g = some k)
    (hr : tot (nN ch sl) (if g = 0 then 99 else 0) 10 + (bufR ch g).2.2.1 ≤ 60 ∧ tot (lL ch sl) (if g = 0 then 99 else 0) 10 + (bufR ch g).2.2.2 ≤ 3) :
    Ans (c + 1) L xs (nCh ch k) (nSl sl k) t (cc σ) (if g = 0 then I ((k - fr : Nat) : Int) else I ((bufR ch g).2.2.1 : Nat)) := by
  obtain ⟨f, S, ⟨hg, htk⟩, hc, ⟨b1, b2, b3, b4⟩, h0, h1⟩ := h
  obtain ⟨rc, σc, hcc, n1, n2, hpost⟩ := hcc f S hc
  rw [hb] at hpost
  obtain ⟨pf, hpost⟩ := hpost
  rw [ho] at hpost
  obtain ⟨hk, hgk⟩ := slot_ok hgr ho
  have eg : (if k = 0 then 1 else 0) = g := by
    rcases hgk with ⟨a, b, _⟩ | ⟨a, b⟩
    · rw [if_neg b, a]
    · rw [if_pos b, a]
  change (if _ then _ else _) at hpost
  rw [if_pos hr] at hpost
  obtain ⟨p1, p2, p3, p4, p5⟩ := hpost
  obtain ⟨d1, d2⟩ := hc.tk hg hk (by rw [eg]; exact hb) p2 (by rw [eg]; exact p3) p4 p5 pf
  have h54 := hc.h54.2
  have e1 : ee σc = 1 := ee_1 p5
  exact ⟨σc, by rw [hcc, p1], f, S, ⟨tk_GI hg hk hgk hb hr, htk⟩, d1, ⟨by omega, by omega, by omega, by omega⟩, by rw [d2.2.1 0 (by omega)]; exact h0, fun x => by rw [(d2.2.2 0 x (by omega) (Or.inl rfl)).1]; exact h1 x⟩
theorem a_resource (h : QS c L xs ch sl t σ) (hc9 : c < 1000) {k : Nat} (hb : bufF ch sl 0 = none) (ho : free sl 1 5 = some k) (hr : tot (nN ch sl) 99 10 + (bufR ch 0).2.2.1 ≤ 60 ∧ tot (lL ch sl) 99 10 + (bufR ch 0).2.2.2 ≤ 3) :
    Ans (c + 1) L xs (nCh ch k) (nSl sl k) t (s_X10_resource 1 σ) (I ((k - 1 : Nat) : Int)) := by
  refine a_takeN (fr := 1) (to := 5) (g := 0) (cc := s_X10_resource 1) (Or.inl ⟨rfl, by omega, by omega, by omega⟩) h hc9 (fun f S hc => ?_) hb ho hr
  obtain ⟨hs, h54⟩ := hc.h54
  have hg := h.gi
  obtain ⟨r, σ', a1, a2⟩ := c_takeOffer hg.1 hs hc.2.1 (hc.1.core.1.2.2.2.full hg) hg.T (fr := 1) (to := 5) (by omega) (by omega) (by omega)
  refine ⟨r, σ', ?_, a2⟩
  unfold s_X10_resource
  rw [if_pos (hs.o 10 1 (by decide)), show s_X10_takeOffer 1 1 5 σ = some (r, σ') from a1, bd_eq]
theorem a_well (h : QS c L xs ch sl t σ) (hc9 : c < 1000) {k : Nat} (hb : bufF ch sl 0 = none) (ho : free sl 6 4 = some k) (hr : tot (nN ch sl) 99 10 + (bufR ch 0).2.2.1 ≤ 60 ∧ tot (lL ch sl) 99 10 + (bufR ch 0).2.2.2 ≤ 3) :
    Ans (c + 1) L xs (nCh ch k) (nSl sl k) t (s_X10_well 1 σ) (I ((k - 6 : Nat) : Int)) := by
  refine a_takeN (fr := 6) (to := 9) (g := 0) (cc := s_X10_well 1) (Or.inl ⟨rfl, by omega, by omega, by omega⟩) h hc9 (fun f S hc => ?_) hb ho hr
  obtain ⟨hs, h54⟩ := hc.h54
  have hg := h.gi
  obtain ⟨r, σ', a1, a2⟩ := c_takeOffer hg.1 hs hc.2.1 (hc.1.core.1.2.2.2.full hg) hg.T (fr := 6) (to := 9) (by omega) (by omega) (by omega)
  refine ⟨r, σ', ?_, a2⟩
  unfold s_X10_well
  rw [if_pos (hs.o 10 1 (by decide)), show s_X10_takeOffer 1 6 4 σ = some (r, σ') from a1, bd_eq]
theorem a_goal (h : QS c L xs ch sl t σ) (hc9 : c < 1000) (hb : bufF ch sl 1 = none) (hr : tot (nN ch sl) 0 10 + (bufR ch 1).2.2.1 ≤ 60 ∧ tot (lL ch sl) 0 10 + (bufR ch 1).2.2.2 ≤ 3) :
    Ans (c + 1) L xs (nCh ch 0) (nSl sl 0) t (s_X10_goal 1 σ) (I ((bufR ch 1).2.2.1 : Nat)) := by
  refine a_takeN (fr := 0) (to := 0) (g := 1) (cc := s_X10_goal 1) (Or.inr ⟨rfl, rfl, rfl⟩) h hc9 (fun f S hc => ?_) hb rfl hr
  obtain ⟨hs, h54⟩ := hc.h54
  have hg := h.gi
  exact c_goal hg.1 hs hc.2.1 (hc.1.core.1.2.2.2.full hg) hg.T
/-- a resource is dropped -/
theorem a_drop (h : QS c L xs ch sl t σ) (hc9 : c < 1000) {x : Nat} (hx : x < 5) (h0 : sl (1 + x) ≠ 0) :
    Ans (c + 1) L xs (dCh ch (1 + x)) (dSl sl (1 + x)) t (s_X10_drop 1 0 (I (x : Nat)) σ) (I ((pcn (thr (dSl sl (1 + x)) 1 5) : Nat) : Int)) := by
  obtain ⟨f, S, ⟨hg, htk⟩, hc, ⟨b1, b2, b3, b4⟩, hl, h1⟩ := h
  have hk : 1 + x < 10 := by omega
  have hs := hc.h54.1
  have hst := hc.1.core.1.2.2.2
  have hit := hst (1 + x) hk
  have eax : (1 : Int32) + I (x : Nat) = I ((1 + x : Nat) : Int) := by rw [show (1 : Int32) = I ((1 : Nat) : Int) from rfl, I_add]; rfl
  rw [if_neg (by rw [wSl_s sl hk]; exact h0)] at hit
  obtain ⟨it, i1, _⟩ := hit
  have hs2 : SS (setP σ 5 (1 + x) none) := (show PF 5 (fun _ _ => False) σ (setP σ 5 (1 + x) none) from ⟨rfl, rfl, rfl, rfl, fun _ _ _ => rfl, fun a j q => by rw [sP_P, if_neg (fun e => q e.1)]⟩).ss (Or.inl rfl) hs
  obtain ⟨hc2, d2, hs3⟩ := c_drop1 hg hc hk
  have hst3 := hc2.1.core.1.2.2.2
  have hpr := q_pres hs3 hst3 (a := 1) (n := 5) (by omega) (by omega) 5 0 (15999 - 5) (by omega)
  rw [thr_w 1 5 (by omega)] at hpr
  have hpr' : s_X6_present 4 1 5 (setI (setP σ 5 (1 + x) none) 1 11 1) = some (I ((thr (dSl sl (1 + x)) 1 5 : Nat) : Int), setI (setP σ 5 (1 + x) none) 1 11 1) := hpr
  have h54 := hc.h54.2
  have e1 : ee (setI (setP σ 5 (1 + x) none) 1 11 1) = 1 := ee_1 sIe
  refine ⟨setI (setP σ 5 (1 + x) none) 1 11 1, ?_, f, S, ⟨hg.sub (drop_sub hg.1 hk), htk⟩, hc2, ⟨by omega, by rw [e1]; show sn σ + 10 * 1 ≤ _; omega, by rw [e1]; show sz σ + 40 * 1 ≤ _; omega, by omega⟩, hl, fun k => by rw [(d2.2.2 0 k (by omega) (Or.inl rfl)).1]; exact h1 k⟩
  unfold s_X10_drop
  rw [if_pos rfl, if_pos (hs.o 10 1 (by decide))]
  unfold s_X10_dropNumbered
  rw [if_neg (by rw [I_lit, I_lt (by omega) (by omega)]; omega), if_neg (by rw [I_lit, I_le (by omega) (by omega)]; omega), if_pos (hs.o 10 1 (by decide)), hs.p 1 1 4 (by decide), op_eq, if_pos (hs.o 6 4 (by decide)), eax, q_at hs hk, bd_eq, i1, on_some', if_pos (hs.o 10 1 (by decide)), hs.p 1 1 4 (by decide), op_eq, if_pos (hs.o 6 4 (by decide)), q_set hs hk, bd_eq, if_pos (hs2.o 10 1 (by decide)), lt_eq, hs3.p 1 1 4 (by decide), op_eq, if_pos (hs3.o 6 4 (by decide)), hpr', bd_eq, q_bitCount (thr_lt (by omega)), bd_eq, bd_eq]
end
