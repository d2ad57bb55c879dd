/-! arrays, new cells -/
theorem vnar_c (x : Int32) : vp_nar .char x = (x.toUInt32 % 65536).toInt32 := by rw [vp_nar_char]; rfl
def nar (k : Nat) (x : Int32) : Int32 := if k = 12 then (x.toUInt32 % 65536).toInt32 else x
theorem tys_at {G : GC} {s : State} (hT : Tb G s) {k : Nat} (h1 : 12 ≤ k) (h2 : k < 18) : ArrOfT s (G.2.1 k) (aty k) ∧ va_RA s (G.2.1 k) (aty k) := by
  have h := hT.1.2 (k - 12)
  rcases (show k = 12 ∨ k = 13 ∨ k = 14 ∨ k = 15 ∨ k = 16 ∨ k = 17 by omega) with rfl | rfl | rfl | rfl | rfl | rfl
  · exact h (G.2.1 12, .char) rfl
  · exact h (G.2.1 13, .int) rfl
  · exact h (G.2.1 14, .long) rfl
  · exact h (G.2.1 15, .int) rfl
  · exact h (G.2.1 16, .object RX1) rfl
  · exact h (G.2.1 17, .object RX6) rfl
def elt (G : GC) (σ : St) (k a j : Nat) : Value := if k = 14 then .long (sL σ a j) else if k = 16 ∨ k = 17 then va_rf ((sP σ a j).map (al G)) else .int (sI σ a j)
theorem acell_arrV (G : GC) (σ : St) (k a : Nat) (c : ClassId) : vp_cell c (acell G σ k a) = arrV c (alen σ a) (elt G σ k a) := by
  unfold acell elt
  by_cases h1 : k = 14
  · simp [h1, vp_cell]
  · by_cases h2 : k = 16 ∨ k = 17
    · rw [if_neg h1, if_pos h2]; simp only [vp_cell]; congr 1; funext j; rw [if_neg h1, if_pos h2]
    · rw [if_neg h1, if_neg h2]; simp only [vp_cell]; congr 1; funext j; rw [if_neg h1, if_neg h2]
/-- an array as the machine sees it, the script among them -/
theorem arr_seen {G : GC} {σ : St} {s : State} {H : Heap} {k a : Nat} (hR : Rep G σ s H) (hT : Tb G s) (ho : isA σ k a = true) (hk : 12 ≤ k) :
    ∃ cell : Cell, H[al G a]? = some cell ∧ s.isArrayOf cell (aty k) ∧ cell.vm ≠ .unknown ∧ cell.slots.size = alen σ a ∧ ∀ j, j < alen σ a → cell.slots[j]? = some (elt G σ k a j) := by
  by_cases h1 : 1 ≤ a
  · obtain ⟨hc, hk2⟩ := cell_arr hR h1 ho hk
    rw [acell_arrV] at hc
    exact ⟨_, hc, (tys_at hT hk hk2).1 _ _, (fun q => by cases q), arrV_size _ _ _, fun j hj => arrV_read _ _ hj⟩
  · obtain rfl : a = 0 := by omega
    obtain ⟨-, hk0⟩ := isA_spec ho
    obtain ⟨g1, scr, g2, g3, g4, g5, g6⟩ := hR.2.2.2.1
    rw [hk0] at g1
    subst g1
    exact ⟨scr, g2, g3, g4, g5, g6⟩
section EVA
variable {M : MI} {d pc : Nat} {ls : List (Nat × Value)} {st : List Value} {σ σ' : St} {r : Option Value}
theorem ev_alen {k a : Nat} (hd : decode M.2.1 pc = .ok (.arraylength, 1)) (ho : isA σ k a = true) (hk : 12 ≤ k) (kk : Ev M d (pc + 1) ls (.int (nI (alen σ a)) :: st) σ r σ') : Ev M d pc ls (.ref a :: st) σ r σ' := by
  refine ev_rd (fun G p l e R s m args below meth c H locs cells slots Q ar hF hT hR _ _ w => ?_) kk
  obtain ⟨cell, g1, g2, g3, g4, g5⟩ := arr_seen hR hT ho hk
  exact W.alen (n := nI (alen σ a)) hF.hx hF.hb g1 g2 (by rw [g4]; rfl) rfl rfl hd w
theorem ev_iald {a : Nat} {i : Int32} (hd : decode M.2.1 pc = .ok (.iaload, 1)) (ho : isA σ 13 a = true) (hi : inR i (alen σ a) = true) (kk : Ev M d (pc + 1) ls (.int (sI σ a i.toNatClampNeg) :: st) σ r σ') : Ev M d pc ls (.int i :: .ref a :: st) σ r σ' := by
  refine ev_rd (fun G p l e R s m args below meth c H locs cells slots Q ar hF hT hR _ _ w => ?_) kk
  obtain ⟨cell, g1, g2, g3, g4, g5⟩ := arr_seen hR hT ho (by decide)
  have hi := inR_spec hi
  exact W.iald (v := .int (sI σ a i.toNatClampNeg)) hF.hx hF.hb g1 g2 g3 (by rw [g4]; exact hi.1) (g5 _ hi.2) rfl rfl hd w
theorem ev_cald {a : Nat} {i : Int32} (hd : decode M.2.1 pc = .ok (.caload, 1)) (ho : isA σ 12 a = true) (hi : inR i (alen σ a) = true) (kk : Ev M d (pc + 1) ls (.int (sI σ a i.toNatClampNeg) :: st) σ r σ') : Ev M d pc ls (.int i :: .ref a :: st) σ r σ' := by
  refine ev_rd (fun G p l e R s m args below meth c H locs cells slots Q ar hF hT hR _ _ w => ?_) kk
  obtain ⟨cell, g1, g2, g3, g4, g5⟩ := arr_seen hR hT ho (by decide)
  have hi := inR_spec hi
  exact W.cald (v := .int (sI σ a i.toNatClampNeg)) hF.hx hF.hb g1 g2 g3 (by rw [g4]; exact hi.1) (g5 _ hi.2) rfl rfl hd w
theorem ev_lald {a : Nat} {i : Int32} (hd : decode M.2.1 pc = .ok (.laload, 1)) (ho : isA σ 14 a = true) (hi : inR i (alen σ a) = true) (kk : Ev M d (pc + 1) ls (.long (sL σ a i.toNatClampNeg) :: st) σ r σ') : Ev M d pc ls (.int i :: .ref a :: st) σ r σ' := by
  refine ev_rd (fun G p l e R s m args below meth c H locs cells slots Q ar hF hT hR _ _ w => ?_) kk
  obtain ⟨cell, g1, g2, g3, g4, g5⟩ := arr_seen hR hT ho (by decide)
  have hi := inR_spec hi
  exact W.lald (v := .long (sL σ a i.toNatClampNeg)) hF.hx hF.hb g1 g2 g3 (by rw [g4]; exact hi.1) (g5 _ hi.2) rfl rfl hd w
theorem ev_aald {k a : Nat} {i : Int32} {o : Option Nat} (hd : decode M.2.1 pc = .ok (.aaload, 1)) (hk : k = 16 ∨ k = 17) (ho : isA σ k a = true) (hi : inR i (alen σ a) = true) (hv : sP σ a i.toNatClampNeg = o) (kk : Ev M d (pc + 1) ls (va_rf o :: st) σ r σ') : Ev M d pc ls (.int i :: .ref a :: st) σ r σ' := by
  refine ev_rd (fun G p l e R s m args below meth c H locs cells slots Q ar hF hT hR _ _ w => ?_) kk
  obtain ⟨cell, g1, g2, g3, g4, g5⟩ := arr_seen hR hT ho (by omega)
  have hi := inR_spec hi
  have h6 := g5 _ hi.2
  have h7 : elt G σ k a i.toNatClampNeg = cv G (va_rf o) := by unfold elt; rw [if_neg (by omega), if_pos hk, hv, cv_rf]
  rw [h7] at h6
  exact W.aald (ty := aty k) hF.hx hF.hb g1 g2 (by rcases hk with rfl | rfl <;> rfl) g3 (by rw [g4]; exact hi.1) h6 rfl rfl hd w
theorem arr_put {G : GC} {σ σ1 : St} {s : State} {H H1 : Heap} {k a j : Nat} {v : Value} (hR : Rep G σ s H) (ha : 1 ≤ a) (ho : isA σ k a = true) (hk : 12 ≤ k) (hk2 : k < 18)
    (e : H1[al G a]? = some ((arrV (G.2.1 k) (alen σ a) (elt G σ k a)).setSlot j v)) (z : H1.size = H.size) (oq : ∀ q : Nat, q ≠ al G a → H1[q]? = H[q]?)
    (e1 : sn σ1 = sn σ) (e3 : sh σ1 = sh σ) (hoth : ∀ x, x ≠ a → sI σ1 x = sI σ x ∧ sL σ1 x = sL σ x ∧ sP σ1 x = sP σ x) (hval : ∀ y, elt G σ1 k a y = if y = j then v else elt G σ k a y) : Rep G σ1 s H1 := by
  obtain ⟨h2, h3⟩ := isA_spec ho
  refine rep_write hR ha e1 e3 hoth z oq (Or.inr ⟨by rw [e3, h3]; exact hk, by rw [e3, h3]; exact hk2, ?_⟩)
  rw [e3, h3, acell_arrV, e, arrV_store]
  have hl : alen σ1 a = alen σ a := by unfold alen; rw [e3]
  rw [hl]
  congr 2
  funext y
  rw [hval]
  rfl
theorem loc_app {G : GC} {locs : List Loc} {a k : Nat} (hL : ∀ q ∈ locs, G.2.2.2 < q.base) (ha : 1 ≤ a) : ∀ q ∈ locs ++ [⟨al G a, k⟩], G.2.2.2 < q.base := fun q hq => by
  rcases List.mem_append.mp hq with hq | hq
  · exact hL q hq
  · rw [List.mem_singleton.mp hq]
    show G.2.2.2 < al G a
    rw [al_pos ha]; omega
theorem ev_iast {a : Nat} {i x : Int32} (hd : decode M.2.1 pc = .ok (.iastore, 1)) (ha : 1 ≤ a) (ho : isA σ 13 a = true) (hi : inR i (alen σ a) = true) (kk : Ev M d (pc + 1) ls st (setI σ a i.toNatClampNeg x) r σ') : Ev M d pc ls (.int x :: .int i :: .ref a :: st) σ r σ' := by
  refine ev_hp (σ1 := setI σ a i.toNatClampNeg x) (Nat.le_refl _) (Nat.le_refl _) (fun G p l e R s m args below meth c H locs cells slots Q ar hF hT hR hl hL hr w => ?_) kk
  obtain ⟨hc, -⟩ := cell_arr hR ha ho (by decide)
  rw [acell_arrV] at hc
  have hi := inR_spec hi
  refine W.iast hF.hx hF.hb hc ((tys_at hT (k := 13) (by decide) (by decide)).1 _ _) (fun q => by cases q) (by rw [arrV_size]; exact hi.1) rfl rfl hd fun H1 e z oq => ?_
  have w2 := w H1 _ (arr_put (σ1 := setI σ a i.toNatClampNeg x) hR ha ho (by decide) (by decide) e z oq rfl rfl (fun y hy => ⟨up2_ne hy, rfl, rfl⟩) (fun y => by
    show Value.int (up2 _ _ _ _ _ _) = _
    rw [up2_row]
    by_cases hy : y = i.toNatClampNeg <;> simp [hy, elt])) (loc_app (k := i.toNatClampNeg) hL ha)
  rw [show sn (setI σ a i.toNatClampNeg x) = sn σ from rfl, show sz (setI σ a i.toNatClampNeg x) = sz σ from rfl, Nat.sub_self, Nat.sub_self] at w2
  exact w2
theorem ev_cast {a : Nat} {i x : Int32} (hd : decode M.2.1 pc = .ok (.castore, 1)) (ha : 1 ≤ a) (ho : isA σ 12 a = true) (hi : inR i (alen σ a) = true) (kk : Ev M d (pc + 1) ls st (setI σ a i.toNatClampNeg ((x.toUInt32 % 65536).toInt32)) r σ') : Ev M d pc ls (.int x :: .int i :: .ref a :: st) σ r σ' := by
  refine ev_hp (σ1 := setI σ a i.toNatClampNeg ((x.toUInt32 % 65536).toInt32)) (Nat.le_refl _) (Nat.le_refl _) (fun G p l e R s m args below meth c H locs cells slots Q ar hF hT hR hl hL hr w => ?_) kk
  obtain ⟨hc, -⟩ := cell_arr hR ha ho (by decide)
  rw [acell_arrV] at hc
  have hi := inR_spec hi
  refine W.cast hF.hx hF.hb hc ((tys_at hT (k := 12) (by decide) (by decide)).1 _ _) (fun q => by cases q) (by rw [arrV_size]; exact hi.1) rfl rfl hd fun H1 e z oq => ?_
  have w2 := w H1 _ (arr_put (σ1 := setI σ a i.toNatClampNeg ((x.toUInt32 % 65536).toInt32)) hR ha ho (by decide) (by decide) e z oq rfl rfl (fun y hy => ⟨up2_ne hy, rfl, rfl⟩) (fun y => by
    show Value.int (up2 _ _ _ _ _ _) = _
    rw [up2_row]
    by_cases hy : y = i.toNatClampNeg
    · simp [hy]; rfl
    · simp [hy, elt])) (loc_app (k := i.toNatClampNeg) hL ha)
  rw [show sn (setI σ a i.toNatClampNeg ((x.toUInt32 % 65536).toInt32)) = sn σ from rfl, show sz (setI σ a i.toNatClampNeg ((x.toUInt32 % 65536).toInt32)) = sz σ from rfl, Nat.sub_self, Nat.sub_self] at w2
  exact w2
theorem ev_last {a : Nat} {i : Int32} {x : Int64} (hd : decode M.2.1 pc = .ok (.lastore, 1)) (ha : 1 ≤ a) (ho : isA σ 14 a = true) (hi : inR i (alen σ a) = true) (kk : Ev M d (pc + 1) ls st (setL σ a i.toNatClampNeg x) r σ') : Ev M d pc ls (.long x :: .int i :: .ref a :: st) σ r σ' := by
  refine ev_hp (σ1 := setL σ a i.toNatClampNeg x) (Nat.le_refl _) (Nat.le_refl _) (fun G p l e R s m args below meth c H locs cells slots Q ar hF hT hR hl hL hr w => ?_) kk
  obtain ⟨hc, -⟩ := cell_arr hR ha ho (by decide)
  rw [acell_arrV] at hc
  have hi := inR_spec hi
  refine W.last hF.hx hF.hb hc ((tys_at hT (k := 14) (by decide) (by decide)).1 _ _) (fun q => by cases q) (by rw [arrV_size]; exact hi.1) rfl rfl hd fun H1 e z oq => ?_
  have w2 := w H1 _ (arr_put (σ1 := setL σ a i.toNatClampNeg x) hR ha ho (by decide) (by decide) e z oq rfl rfl (fun y hy => ⟨rfl, up2_ne hy, rfl⟩) (fun y => by
    show Value.long (up2 _ _ _ _ _ _) = _
    rw [up2_row]
    by_cases hy : y = i.toNatClampNeg <;> simp [hy, elt])) (loc_app (k := i.toNatClampNeg) hL ha)
  rw [show sn (setL σ a i.toNatClampNeg x) = sn σ from rfl, show sz (setL σ a i.toNatClampNeg x) = sz σ from rfl, Nat.sub_self, Nat.sub_self] at w2
  exact w2
theorem elt_setP {G : GC} {k a j : Nat} {o : Option Nat} (hk : k = 16 ∨ k = 17) (y : Nat) : elt G (setP σ a j o) k a y = if y = j then va_rf (o.map (al G)) else elt G σ k a y := by
  have h14 : ¬ k = 14 := by omega
  unfold elt
  simp only [if_neg h14, if_pos hk]
  show va_rf (Option.map _ (up2 _ _ _ _ _ _)) = _
  rw [up2_row]
  by_cases hy : y = j <;> simp [hy]
theorem ev_aastN {k a : Nat} {i : Int32} (hd : decode M.2.1 pc = .ok (.aastore, 1)) (hk : k = 16 ∨ k = 17) (ha : 1 ≤ a) (ho : isA σ k a = true) (hi : inR i (alen σ a) = true) (kk : Ev M d (pc + 1) ls st (setP σ a i.toNatClampNeg none) r σ') : Ev M d pc ls (va_rf none :: .int i :: .ref a :: st) σ r σ' := by
  refine ev_hp (σ1 := setP σ a i.toNatClampNeg none) (Nat.le_refl _) (Nat.le_refl _) (fun G p l e R s m args below meth c H locs cells slots Q ar hF hT hR hl hL hr w => ?_) kk
  have h12 : 12 ≤ k := by omega
  obtain ⟨hc, hk2⟩ := cell_arr hR ha ho h12
  rw [acell_arrV] at hc
  have hi := inR_spec hi
  have fin : ∀ (H1 : Heap), H1[al G a]? = some ((arrV (G.2.1 k) (alen σ a) (elt G σ k a)).setSlot i.toNatClampNeg .null) → H1.size = H.size → (∀ q : Nat, q ≠ al G a → H1[q]? = H[q]?) → W p l e R s m args below meth c H1 (locs ++ [⟨al G a, i.toNatClampNeg⟩]) cells slots Q (F0 m (pc + 1) ar (st.map (cv G))) := by
    intro H1 e z oq
    have w2 := w H1 _ (arr_put (σ1 := setP σ a i.toNatClampNeg none) hR ha ho h12 hk2 e z oq rfl rfl (fun y hy => ⟨rfl, rfl, up2_ne hy⟩) (fun y => elt_setP hk y)) (loc_app (k := i.toNatClampNeg) hL ha)
    rw [show sn (setP σ a i.toNatClampNeg none) = sn σ from rfl, show sz (setP σ a i.toNatClampNeg none) = sz σ from rfl, Nat.sub_self, Nat.sub_self] at w2
    exact w2
  rcases hk with rfl | rfl
  · exact va_WaastN (C := RX1) hF.hx hF.hb hc ((tys_at hT (k := 16) (by decide) (by decide)).1 _ _) (fun q => by cases q) (by rw [arrV_size]; exact hi.1) rfl rfl hd fin
  · exact va_WaastN (C := RX6) hF.hx hF.hb hc ((tys_at hT (k := 17) (by decide) (by decide)).1 _ _) (fun q => by cases q) (by rw [arrV_size]; exact hi.1) rfl rfl hd fin
theorem ev_aast {k ko a v : Nat} {i : Int32} (hd : decode M.2.1 pc = .ok (.aastore, 1)) (hk : (k = 16 ∧ ko = 1) ∨ (k = 17 ∧ ko = 6)) (ha : 1 ≤ a) (ho : isA σ k a = true) (hi : inR i (alen σ a) = true) (hv : isO σ ko v = true) (kk : Ev M d (pc + 1) ls st (setP σ a i.toNatClampNeg (some v)) r σ') : Ev M d pc ls (va_rf (some v) :: .int i :: .ref a :: st) σ r σ' := by
  refine ev_hp (σ1 := setP σ a i.toNatClampNeg (some v)) (Nat.le_refl _) (Nat.le_refl _) (fun G p l e R s m args below meth c H locs cells slots Q ar hF hT hR hl hL hr w => ?_) kk
  have h12 : 12 ≤ k := by omega
  obtain ⟨hc, hk2⟩ := cell_arr hR ha ho h12
  rw [acell_arrV] at hc
  have hi := inR_spec hi
  have fin : ∀ (H1 : Heap), H1[al G a]? = some ((arrV (G.2.1 k) (alen σ a) (elt G σ k a)).setSlot i.toNatClampNeg (.ref (al G v))) → H1.size = H.size → (∀ q : Nat, q ≠ al G a → H1[q]? = H[q]?) → W p l e R s m args below meth c H1 (locs ++ [⟨al G a, i.toNatClampNeg⟩]) cells slots Q (F0 m (pc + 1) ar (st.map (cv G))) := by
    intro H1 e z oq
    have w2 := w H1 _ (arr_put (σ1 := setP σ a i.toNatClampNeg (some v)) hR ha ho h12 hk2 e z oq rfl rfl (fun y hy => ⟨rfl, rfl, up2_ne hy⟩) (fun y => elt_setP (by omega) y)) (loc_app (k := i.toNatClampNeg) hL ha)
    rw [show sn (setP σ a i.toNatClampNeg (some v)) = sn σ from rfl, show sz (setP σ a i.toNatClampNeg (some v)) = sz σ from rfl, Nat.sub_self, Nat.sub_self] at w2
    exact w2
  obtain ⟨cellV, v1, v2, v3, -⟩ := cell_obj hR hv (by omega)
  have hty := tys_at hT h12 hk2
  have hko : aty k = .object (kR ko) := by rcases hk with ⟨rfl, rfl⟩ | ⟨rfl, rfl⟩ <;> rfl
  have hcls : ClassAt s (kR ko) (G.1.1 ko) := by
    rcases hk with ⟨rfl, rfl⟩ | ⟨rfl, rfl⟩
    · exact (hT.1.1 1 _ kf1.1).2
    · exact (hT.1.1 6 _ kf6.1).2
  rw [hko] at hty
  obtain ⟨kA, comp, k1, k2, k3, -⟩ := hty.2
  have hcomp : comp = G.1.1 ko := Option.some.inj (k3.symm.trans hcls.1)
  subst hcomp
  obtain ⟨kC, hkC, -⟩ := hcls.2
  exact W.aast hF.hx hF.hb hc (fun q h => by cases h) (fun h => by cases h) k1 k2 rfl hkC ⟨fun q => hi.1 (Or.inl q), by rw [arrV_size]; exact hi.2⟩ v1 (fun q h => by rw [v3] at h; cases h) (by rw [v2]; exact hkC) (by rw [v2]; exact va_assign hcls) rfl rfl hd fin
end EVA
