theorem Itm.ext {σ : St} {it n k l k' l' : Nat} {x y : Nat → Nat} (h : Itm σ it n x k l) (hx : ∀ i, i < n → y i = x i) (hk : k' = k) (hl : l' = l) : Itm σ it n y k' l' := by
  subst hk hl
  obtain ⟨a1, a2, a3, a4, c, a5, a6, a7, a8, a9⟩ := h
  exact ⟨a1, a2, a3, a4, c, a5, a6, a7, a8, fun i hi => by rw [hx i hi]; exact a9 i hi⟩
/-- the class's row of items, after a text went to slot k -/
theorem Stk.mv {ch sl : Nat → Nat} {σ σ' : St} (ht : Txt ch sl) (h : Stk 5 ch sl σ) (h54 : 30 ≤ sn σ) {k : Nat} (hk : k < 10) (hb : bufF ch sl (if k = 0 then 1 else 0) = none) (hg : Gr tcI (fun a x => a = 5 ∧ x = k) σ σ')
    (hi : ∃ it, sP σ' 5 k = some it ∧ Itm σ' it (sl 10) (fun i => ch (640 + i)) (bufR ch (if k = 0 then 1 else 0)).2.2.1 (bufR ch (if k = 0 then 1 else 0)).2.2.2) : Stk 5 (nCh ch k) (nSl sl k) σ' := by
  obtain ⟨c1, c2, c3⟩ := cnt_mv ht hk hb
  have h0 := bufF_pos ht hb
  have h60 := (ht.1 10 (by omega)).1
  intro s hs
  by_cases c : s = k
  · subst c
    have e : nSl sl s s = sl 10 := by unfold nSl; rw [if_pos rfl]
    rw [e, if_neg h0]
    obtain ⟨it, a, b⟩ := hi
    exact ⟨it, a, b.ext (fun i hi => nCh_k ch s i (by omega)) c2 c3⟩
  · have e : nSl sl k s = sl s := by unfold nSl; rw [if_neg c, if_neg (by omega)]
    have h6 := (ht.1 s (by omega)).1
    have := h s hs
    have eP : sP σ' 5 s = sP σ 5 s := hg.2.2.2.2 5 s (by omega) (fun q => c q.2)
    rw [e, eP]
    by_cases cs : sl s = 0
    · rw [if_pos cs] at this ⊢
      exact this
    · rw [if_neg cs] at this ⊢
      obtain ⟨it, a, b⟩ := this
      obtain ⟨d1, d2⟩ := c1 s hs c
      exact ⟨it, a, (b.gr hg (fun a k q => by unfold tcI rtI at q; omega) (fun a k q => by omega)).ext (fun i hi => nCh_s ch c hs (by omega)) d1 d2⟩
theorem CB.mv {ch sl : Nat → Nat} {σ : St} {k : Nat} (h : sI σ 2 1 = I (0 : Nat)) (hk : k < 10) : CB (nCh ch k) (nSl sl k) σ := by
  have e : nSl sl k 10 = 0 := by unfold nSl; rw [if_neg (by omega), if_pos rfl]
  refine ⟨by rw [e]; exact h, fun i hi => by omega⟩
