/-! resource, well, goal -/
section
variable {ch sl : Nat → Nat} {t : List Nat} {f : Int} {s0 s1 : Option TS} {S : Nat} {σ : St}
theorem tot_cg {f g : Nat → Nat} {b : Nat} : ∀ k, (∀ s, s < k → s ≠ b → f s = g s) → tot f b k = tot g b k := by
  intro k
  induction k with
  | zero => intro _; rfl
  | succ k ih =>
    intro h
    have h1 := ih (fun s hs => h s (by omega))
    show tot f b k + (if k = b then 0 else f k) = tot g b k + (if k = b then 0 else g k)
    rw [h1]
    by_cases c : k = b
    · rw [if_pos c, if_pos c]
    · rw [if_neg c, if_neg c, h k (by omega) c]
theorem tot_b {f : Nat → Nat} {b : Nat} : ∀ k, k ≤ 99 → tot f b k ≤ tot f 99 k := by
  intro k
  induction k with
  | zero => intro _; exact Nat.le_refl 0
  | succ k ih =>
    intro h
    have h1 := ih (by omega)
    show tot f b k + (if k = b then 0 else f k) ≤ tot f 99 k + (if k = 99 then 0 else f k)
    rw [if_neg (show ¬ k = 99 by omega)]
    split <;> omega
theorem GI.T (h : GI ch sl) : ∀ b, tot (nN ch sl) b 10 ≤ 1000 ∧ tot (lL ch sl) b 10 ≤ 1000 := fun b => ⟨by have := tot_b (f := nN ch sl) (b := b) 10 (by omega); have := h.2.2.1; omega, by have := tot_b (f := lL ch sl) (b := b) 10 (by omega); have := h.2.2.2; omega⟩
theorem CR.rt {f' : Int} {σ1 : St} (hp : GI ch sl) (hc : CR ch sl t f s0 s1 S σ) (hg : Gr rtI (fun _ _ => False) σ σ1) (hf : sI σ1 1 10 = I f') : CR ch sl t f' s0 s1 S σ1 ∧ CF σ σ1 := by
  obtain ⟨hs, h54⟩ := hc.h54
  have gx : GX rtI noC σ σ1 := hg.gx (fun _ _ q => q)
  have hk := hc.1.gx hp.wipe.2.2.1 gx (fun a k q => by unfold rtI at q; omega) (fun a k q => by unfold kpI at q; unfold rtI; omega) (fun _ _ _ _ q => q)
  obtain ⟨_, ⟨h2, h3⟩, ⟨h4, h5⟩, h6, h7⟩ := hc
  have i := fun a k (q1 : a < 30) (q2 : ¬ rtI a k) => gx.2.2.1 a k (by omega) q2
  exact ⟨⟨hk, ⟨by rw [i 2 1 (by omega) (by unfold rtI; omega)]; exact h2, fun x hx => by rw [i 3 x (by omega) (by unfold rtI; omega)]; exact h3 x hx⟩, ⟨by rw [i 27 1 (by omega) (by unfold rtI; omega)]; exact h4, fun x v hx => by rw [i 28 x (by omega) (by unfold rtI; omega)]; exact h5 x v hx⟩, hf, h7.gx gx h54 (fun a k q => by unfold rtI at q; omega)⟩, gx.cf h54 (fun a k q => by unfold rtI at q; omega) (fun a k q => q.elim)⟩
theorem SvC.gr {CI CP : Nat → Nat → Prop} {σ' : St} (h : Gr CI CP σ σ') (h54 : 30 ≤ sn σ) (hc : ∀ a k, CI a k → a < 30) (hp : ∀ a k, CP a k → a = 5) {k st arr : Nat} {o : Option TS} (hv : SvC k st arr o σ) : SvC k st arr o σ' := by
  have np : ∀ a k, a ≠ 5 → ¬ CP a k := fun a k q p => q (hp a k p)
  cases o with
  | none => show sP σ' 6 k = none; rw [h.2.2.2.2 6 k (by omega) (np _ _ (by omega))]; exact hv
  | some x =>
    obtain ⟨b1, b2, b3, b4, b5, b6, b7, b8⟩ := hv
    have l1 := (isO_lt b3).2
    have l2 := (isO_lt b6).2
    exact ⟨by rw [h.2.2.2.2 6 k (by omega) (np _ _ (by omega))]; exact b1, b2, h.o b3, by rw [h.2.2.2.2 st 0 l1 (np _ _ (by omega))]; exact b4, b5, h.o b6, by rw [h.len l2]; exact b7, b8.gr h l2 hc (fun a k q => by have := hp a k q; omega)⟩
theorem wCh_nCh (k : Nat) (hk : k < 10) : wCh (nCh ch k) = nCh ch k := by
  funext i
  unfold wCh nCh
  by_cases c : 640 ≤ i ∧ i < 704
  · rw [if_pos c, if_neg (by omega), if_pos c]
  · rw [if_neg c]
theorem wSl_nSl (k : Nat) (hk : k < 10) : wSl (nSl sl k) = nSl sl k := by
  funext i
  unfold wSl nSl
  by_cases c : i = 10
  · rw [if_pos c, if_neg (by omega), if_pos c]
  · rw [if_neg c]
theorem Stk.full {arr : Nat} (hp : GI ch sl) (h : Stk arr (wCh ch) (wSl sl) σ) : Stk arr ch sl σ := h.win hp.1.wipe (fun s hs => ⟨(wSl_s sl hs).symm, fun i hi => (wCh_s ch hs hi).symm⟩)
/-- a taking that has room: the class -/
theorem CR.tk {σ1 : St} (hp : GI ch sl) (hc : CR ch sl t f s0 s1 S σ) {k : Nat} (hk : k < 10) (hb : bufF ch sl (if k = 0 then 1 else 0) = none) (hg : Gr tcI (fun a x => a = 5 ∧ x = k) σ σ1)
    (hi : ∃ it, sP σ1 5 k = some it ∧ Itm σ1 it (sl 10) (fun i => ch (640 + i)) (bufR ch (if k = 0 then 1 else 0)).2.2.1 (bufR ch (if k = 0 then 1 else 0)).2.2.2) (h2 : sI σ1 2 1 = I (0 : Nat)) (h11 : sI σ1 1 11 = I (1 : Nat)) (hf : sI σ1 1 10 = sI σ 1 10) : CR (nCh ch k) (nSl sl k) t f s0 s1 S σ1 ∧ CF σ σ1 := by
  obtain ⟨hs, h54⟩ := hc.h54
  obtain ⟨⟨_, hA, hZ, hst⟩, hw⟩ := hc.1.core
  have hst2 := Stk.mv hp.1 (hst.full hp) h54 hk hb hg hi
  have hs1 := hg.ss hs (fun a k q => Or.inl q.1)
  obtain ⟨_, _, ⟨h4, h5⟩, h6, st0, arr0, st1, arr1, h7, h8, h9⟩ := hc
  have i := fun a k (q1 : a < 30) (q2 : ¬ tcI a k) => hg.2.2.1 a k (by omega) q2
  have L := fun a k (q1 : a < 30) => hg.2.2.2.1 a k (by omega)
  have c54 : ∀ a k, tcI a k → a < 30 := fun a k q => by unfold tcI rtI at q; omega
  refine ⟨⟨Or.inr ⟨⟨hs1, fun x y hx hy => by rw [L 22 x (by omega)]; exact hA x y hx hy, fun x hx => by rw [L 20 x (by omega)]; exact hZ x hx, by rw [wCh_nCh k hk, wSl_nSl k hk]; exact hst2⟩, h11, by rw [L 23 3 (by omega)]; exact hw.1, fun x hx => by rw [L 24 x (by omega)]; exact hw.2 x hx⟩, CB.mv h2 hk, ⟨by rw [i 27 1 (by omega) (by unfold tcI rtI; omega)]; exact h4, fun x v hx => by rw [i 28 x (by omega) (by unfold tcI rtI; omega)]; exact h5 x v hx⟩, by rw [hf]; exact h6, st0, arr0, st1, arr1, h7.gr hg h54 c54 (fun a k q => q.1), h8.gr hg h54 c54 (fun a k q => q.1), h9⟩, hg.1, hg.2.1, fun a x q1 q2 => ⟨hg.2.2.1 a x (by omega) (by unfold tcI rtI; omega), L a x q1⟩⟩
theorem tk_GI (hp : GI ch sl) {k g : Nat} (hk : k < 10) (hgk : (g = 0 ∧ k ≠ 0 ∧ sl k = 0) ∨ (g = 1 ∧ k = 0)) (hb : bufF ch sl g = none) (hr : tot (nN ch sl) (if g = 0 then 99 else 0) 10 + (bufR ch g).2.2.1 ≤ 60 ∧ tot (lL ch sl) (if g = 0 then 99 else 0) 10 + (bufR ch g).2.2.2 ≤ 3) : GI (nCh ch k) (nSl sl k) := by
  have eg : (if k = 0 then 1 else 0) = g := by
    rcases hgk with ⟨a, b, _⟩ | ⟨a, b⟩
    · rw [if_neg b, a]
    · rw [if_pos b, a]
  have hb' : bufF ch sl (if k = 0 then 1 else 0) = none := by rw [eg]; exact hb
  obtain ⟨c1, c2, c3⟩ := cnt_mv hp.1 hk hb'
  rw [eg] at c2 c3
  have key : ∀ (F G : Nat → Nat) (own : Nat), (∀ s, s < 10 → s ≠ k → G s = F s) → G k = own → (sl k = 0 → F k = 0) → tot G 99 10 = tot F (if g = 0 then 99 else 0) 10 + own := by
    intro F G own h1 h2 h3
    have e1 : tot G 99 10 = tot G k 10 + G k := by
      rcases tot_but (f := G) (b := k) 10 with q | q
      · rw [if_pos hk] at q; exact q
      · omega
    have e2 := tot_cg (f := G) (g := F) (b := k) 10 (fun s hs hne => h1 s hs hne)
    rw [e1, e2, h2]
    rcases hgk with ⟨a, b, c⟩ | ⟨a, b⟩
    · rw [if_pos a]
      rcases tot_but (f := F) (b := k) 10 with q | q
      · rw [if_pos hk] at q; rw [q, h3 c]; omega
      · omega
    · rw [if_neg (by omega), b]
  have z1 : sl k = 0 → nN ch sl k = 0 := fun q => by unfold nN; rw [if_pos q]
  have z2 : sl k = 0 → lL ch sl k = 0 := fun q => by unfold lL; rw [if_pos q]
  refine ⟨hp.1.mv hk, hp.2.1.mv hp.1 hk hb' |> fun q => q, ?_, ?_⟩
  · rw [key (nN ch sl) _ _ (fun s hs hne => (c1 s hs hne).1) c2 z1]; exact hr.1
  · rw [key (lL ch sl) _ _ (fun s hs hne => (c1 s hs hne).2) c3 z2]; exact hr.2
theorem slot_ok {fr to g k : Nat} (hgr : g = 0 ∧ 1 ≤ fr ∧ fr ≤ to ∧ to < 10 ∨ g = 1 ∧ fr = 0 ∧ to = 0) (h : slotOf sl fr to g = some k) : k < 10 ∧ ((g = 0 ∧ k ≠ 0 ∧ sl k = 0) ∨ (g = 1 ∧ k = 0)) := by
  unfold slotOf at h
  rcases hgr with ⟨a, b, c, d⟩ | ⟨a, b, c⟩
  · rw [if_neg (by omega)] at h
    obtain ⟨h1, h2, h3⟩ := free_lt _ _ h
    exact ⟨by omega, Or.inl ⟨a, by omega, h3⟩⟩
  · rw [if_pos a] at h
    have := Option.some.inj h
    exact ⟨by omega, Or.inr ⟨a, by omega⟩⟩
end
