/-! rows that touch the heap -/
theorem isO_spec {σ : St} {k a : Nat} (h : isO σ k a = true) : 1 ≤ a ∧ a < sn σ ∧ (sh σ a).1 = k := by
  simp only [isO, Bool.and_eq_true, decide_eq_true_eq, beq_iff_eq] at h
  exact ⟨h.1.1, h.1.2, h.2⟩
theorem isA_spec {σ : St} {k a : Nat} (h : isA σ k a = true) : a < sn σ ∧ (sh σ a).1 = k := by
  simp only [isA, Bool.and_eq_true, decide_eq_true_eq, beq_iff_eq] at h
  exact h
theorem inR_spec {i : Int32} {n : Nat} (h : inR i n = true) : ¬ (i < 0 ∨ n ≤ i.toNatClampNeg) ∧ i.toNatClampNeg < n := by
  simp only [inR, Bool.and_eq_true, decide_eq_true_eq] at h
  refine ⟨?_, h.2⟩
  rintro (h1 | h1)
  · exact absurd h.1 (by rw [Int32.not_le]; exact h1)
  · omega
def KF (k : Nat) : Prop := vwCl[k]? = some (kR k, kT k, kN k) ∧ (∀ w ∈ u_ws (kR k) (kT k) (kN k), w ∈ gtbl) ∧ (∀ j, j < kN k → parseFieldDescriptor (kT k j).2.2.1 = some (kty k j)) ∧ (∀ a, a < kN k → ∀ b, b < kN k → a ≠ b → (kT k a).2.1 ≠ (kT k b).2.1) ∧ k < 12
def FL (own : String) (i k j : Nat) : Prop := KF k ∧ j < kN k ∧ Cond.fieldLink own i (kT k j).1 (kT k j).2.1 (kT k j).2.2.1 ∈ gtbl
theorem kf0 : KF 0 := ⟨rfl, gwX0, tyX0_ok, nmX0, by decide⟩
theorem kf1 : KF 1 := ⟨rfl, gwX1, tyX1_ok, nmX1, by decide⟩
theorem kf2 : KF 2 := ⟨rfl, gwX2, tyX2_ok, nmX2, by decide⟩
theorem kf3 : KF 3 := ⟨rfl, gwX3, tyX3_ok, nmX3, by decide⟩
theorem kf4 : KF 4 := ⟨rfl, gwX4, tyX4_ok, nmX4, by decide⟩
theorem kf5 : KF 5 := ⟨rfl, gwX5, tyX5_ok, nmX5, by decide⟩
theorem kf6 : KF 6 := ⟨rfl, gwX6, tyX6_ok, nmX6, by decide⟩
theorem kf7 : KF 7 := ⟨rfl, gwX7, tyX7_ok, nmX7, by decide⟩
theorem kf8 : KF 8 := ⟨rfl, gwX8, tyX8_ok, nmX8, by decide⟩
theorem kf9 : KF 9 := ⟨rfl, gwX9, tyX9_ok, nmX9, by decide⟩
theorem kf10 : KF 10 := ⟨rfl, gwX10, tyX10_ok, nmX10, by decide⟩
theorem cell_obj {G : GC} {σ : St} {s : State} {H : Heap} {k a : Nat} (hR : Rep G σ s H) (ho : isO σ k a = true) (hk : k < 12) : t_OB (al G a) (G.1.1 k) (kN k) (G.1.2 k) H (fval G σ k a) := by
  obtain ⟨h1, h2, rfl⟩ := isO_spec ho
  rcases hR.2.2.2.2 a h1 h2 with h | h
  · exact h.2
  · omega
theorem cell_arr {G : GC} {σ : St} {s : State} {H : Heap} {k a : Nat} (hR : Rep G σ s H) (h1 : 1 ≤ a) (ho : isA σ k a = true) (hk : 12 ≤ k) : H[al G a]? = some (vp_cell (G.2.1 k) (acell G σ k a)) ∧ k < 18 := by
  obtain ⟨h2, rfl⟩ := isA_spec ho
  rcases hR.2.2.2.2 a h1 h2 with h | h
  · omega
  · exact ⟨h.2.2, h.2.1⟩
theorem al_lt {G : GC} {σ : St} {s : State} {H : Heap} (hR : Rep G σ s H) {a : Nat} (h : a < sn σ) : al G a < H.size := by
  have h1 := hR.1
  have h2 := hR.2.1
  have h3 := hR.2.2.1
  unfold al
  split <;> omega
theorem fval_same {G : GC} {σ σ1 : St} {k x : Nat} (hI : sI σ1 x = sI σ x) (hL : sL σ1 x = sL σ x) (hP : sP σ1 x = sP σ x) : fval G σ1 k x = fval G σ k x := by
  funext j
  unfold fval
  rw [hI, hL, hP]
theorem acell_same {G : GC} {σ σ1 : St} {k x : Nat} (hs : sh σ1 x = sh σ x) (hI : sI σ1 x = sI σ x) (hL : sL σ1 x = sL σ x) (hP : sP σ1 x = sP σ x) : acell G σ1 k x = acell G σ k x := by
  unfold acell alen
  rw [hI, hL, hP, hs]
theorem cell_kept {G : GC} {σ σ1 : St} {H H1 : Heap} {x : Nat} (h : CellOK G σ H x) (hs : sh σ1 x = sh σ x) (hI : sI σ1 x = sI σ x) (hL : sL σ1 x = sL σ x) (hP : sP σ1 x = sP σ x) (hq : H1[al G x]? = H[al G x]?) : CellOK G σ1 H1 x := by
  unfold CellOK at h ⊢
  rw [hs, fval_same hI hL hP, acell_same hs hI hL hP, hq]
  rcases h with h | h
  · exact Or.inl ⟨h.1, h.2.kept hq⟩
  · exact Or.inr h
theorem rep_write {G : GC} {σ σ1 : St} {s : State} {H H1 : Heap} {a : Nat} (hR : Rep G σ s H) (ha : 1 ≤ a) (h1n : sn σ1 = sn σ) (h1s : sh σ1 = sh σ) (hoth : ∀ x, x ≠ a → sI σ1 x = sI σ x ∧ sL σ1 x = sL σ x ∧ sP σ1 x = sP σ x)
    (hz : H1.size = H.size) (oq : ∀ q : Nat, q ≠ al G a → H1[q]? = H[q]?) (hc : CellOK G σ1 H1 a) : Rep G σ1 s H1 := by
  have al0 : al G 0 = G.2.2.1 := rfl
  refine ⟨by rw [hz, h1n]; exact hR.1, by rw [h1n]; exact hR.2.1, hR.2.2.1, ⟨by rw [h1s]; exact hR.2.2.2.1.1, ?_⟩, fun x hx hxn => ?_⟩
  · have h := hR.2.2.2.1.2
    have e : alen σ1 0 = alen σ 0 := by unfold alen; rw [h1s]
    rw [e, (hoth 0 (by omega)).1]
    refine va_X.kept h (oq _ ?_)
    rw [← al0]
    exact al_inj hR.2.2.1 ha (by omega)
  · by_cases e : x = a
    · subst e; exact hc
    · rw [h1n] at hxn
      have h := hoth x e
      exact cell_kept (hR.2.2.2.2 x hx hxn) (by rw [h1s]) h.1 h.2.1 h.2.2 (oq _ (al_inj hR.2.2.1 ha e))
theorem row0_ne {α : Type} {f : Nat → Nat → α} {a x : Nat} {v : α} (h : x ≠ a) : row0 f a v x = f x := by funext y; simp [row0, h]
theorem rep_new {G : GC} {σ : St} {s : State} {H H1 : Heap} {k len : Nat} (hR : Rep G σ s H) (hz : H1.size = H.size + 1) (oq : ∀ q : Nat, q < H.size → H1[q]? = H[q]?) (hc : CellOK G (newC σ k len) H1 (sn σ)) : Rep G (newC σ k len) s H1 := by
  have hr : ∀ x, x ≠ sn σ → sI (newC σ k len) x = sI σ x ∧ sL (newC σ k len) x = sL σ x ∧ sP (newC σ k len) x = sP σ x := fun x hx => ⟨row0_ne hx, row0_ne hx, row0_ne hx⟩
  have hs : ∀ x, x ≠ sn σ → sh (newC σ k len) x = sh σ x := fun x hx => by show up1 _ _ _ x = _; simp [up1, hx]
  have hn := hR.2.1
  have hS : sn (newC σ k len) = sn σ + 1 := rfl
  refine ⟨by rw [hz, hR.1, hS]; omega, by rw [hS]; omega, hR.2.2.1, ⟨by rw [hs 0 (by omega)]; exact hR.2.2.2.1.1, ?_⟩, fun x hx hxn => ?_⟩
  · have e : alen (newC σ k len) 0 = alen σ 0 := by unfold alen; rw [hs 0 (by omega)]
    rw [e, (hr 0 (by omega)).1]
    exact va_X.kept hR.2.2.2.1.2 (oq _ (al_lt hR (a := 0) (by omega)))
  · rw [hS] at hxn
    by_cases e : x = sn σ
    · subst e; exact hc
    · have h := hr x e
      exact cell_kept (hR.2.2.2.2 x hx (by omega)) (hs x e) h.1 h.2.1 h.2.2 (oq _ (al_lt hR (by omega)))
theorem ev_hp {M : MI} {d pc pc' : Nat} {ls : List (Nat × Value)} {st st' : List Value} {σ σ1 σ' : St} {r : Option Value} (hn : sn σ ≤ sn σ1) (hz : sz σ ≤ sz σ1)
    (h : ∀ (G : GC) (p : Program) (l : Launch) (e : Env) (R : Room) (s : State) (m : MethodId) (args : Array Value) (below : List Frame) (meth : Method) (c : Code) (H : Heap) (locs : List Loc) (cells slots : Nat) (Q : State → Prop) (ar : Array Slot),
      Fx M p s m args meth c → Tb G s → Rep G σ s H → lv_has ar M.2.2.1 (ls.map (cvl G)) → (∀ q ∈ locs, G.2.2.2 < q.base) → (d ≤ R.frames ∧ 40 * d ≤ R.locals ∧ cells + (sn σ1 - sn σ) ≤ R.cells ∧ slots + (sz σ1 - sz σ) ≤ R.slots) →
      (∀ (H' : Heap) (locs' : List Loc), Rep G σ1 s H' → (∀ q ∈ locs', G.2.2.2 < q.base) → W p l e R s m args below meth c H' locs' (cells + (sn σ1 - sn σ)) (slots + (sz σ1 - sz σ)) Q (F0 m pc' ar (st'.map (cv G)))) →
      W p l e R s m args below meth c H locs cells slots Q (F0 m pc ar (st.map (cv G))))
    (k : Ev M d pc' ls st' σ1 r σ') : Ev M d pc ls st σ r σ' := by
  refine ⟨Nat.le_trans hn k.1, Nat.le_trans hz k.2.1, fun G p l e R s m args below meth c H locs cells slots Q ar hF hT hR hl hL hr hk => ?_⟩
  have k1 := k.1
  have k2 := k.2.1
  refine h G p l e R s m args below meth c H locs cells slots Q ar hF hT hR hl hL ⟨hr.1, hr.2.1, by omega, by omega⟩ (fun H' locs' hR' hL' => ?_)
  have e1 : cells + (sn σ1 - sn σ) + (sn σ' - sn σ1) = cells + (sn σ' - sn σ) := by omega
  have e2 : slots + (sz σ1 - sz σ) + (sz σ' - sz σ1) = slots + (sz σ' - sz σ) := by omega
  exact k.2.2 G p l e R s m args below meth c H' locs' _ _ Q ar hF hT hR' hl hL' ⟨hr.1, hr.2.1, by rw [e1]; exact hr.2.2.1, by rw [e2]; exact hr.2.2.2⟩ (fun H2 L2 pc2 ar2 a b c2 d2 => by rw [e1, e2]; exact hk H2 L2 pc2 ar2 a b c2 d2)
/-- nothing of the state moves -/
theorem ev_rd {M : MI} {d pc pc' : Nat} {ls : List (Nat × Value)} {st st' : List Value} {σ σ' : St} {r : Option Value}
    (h : ∀ (G : GC) (p : Program) (l : Launch) (e : Env) (R : Room) (s : State) (m : MethodId) (args : Array Value) (below : List Frame) (meth : Method) (c : Code) (H : Heap) (locs : List Loc) (cells slots : Nat) (Q : State → Prop) (ar : Array Slot),
      Fx M p s m args meth c → Tb G s → Rep G σ s H → d ≤ R.frames ∧ 40 * d ≤ R.locals → ar.size = M.2.2.1 →
      W p l e R s m args below meth c H locs cells slots Q (F0 m pc' ar (st'.map (cv G))) →
      W p l e R s m args below meth c H locs cells slots Q (F0 m pc ar (st.map (cv G))))
    (k : Ev M d pc' ls st' σ r σ') : Ev M d pc ls st σ r σ' :=
  ⟨k.1, k.2.1, fun G p l e R s m args below meth c H locs cells slots Q ar hF hT hR hl hL hr hk => h G p l e R s m args below meth c H locs cells slots Q ar hF hT hR ⟨hr.1, hr.2.1⟩ hl.1 (k.2.2 G p l e R s m args below meth c H locs cells slots Q ar hF hT hR hl hL hr hk)⟩
section EVH
variable {M : MI} {d pc : Nat} {ls : List (Nat × Value)} {st : List Value} {σ σ' : St} {r : Option Value}
theorem ev_get {i k j a : Nat} {v : Value} (hd : decode M.2.1 pc = .ok (.getfield i, 3)) (hf : FL M.1.cls i k j) (ho : isO σ k a = true) (hv : ∀ G, fval G σ k a j = cv G v) (kk : Ev M d (pc + 3) ls (v :: st) σ r σ') : Ev M d pc ls (.ref a :: st) σ r σ' := by
  refine ev_rd (fun G p l e R s m args below meth c H locs cells slots Q ar hF hT hR _ _ w => ?_) kk
  obtain ⟨⟨h1, h2, h3, h4, h5⟩, hj, hlk⟩ := hf
  obtain ⟨cell, q1, q2, q3, q4⟩ := cell_obj hR ho h5
  obtain ⟨hS, hfc, kC, hkC, hkind⟩ := hT.1.1 k _ h1
  obtain ⟨cf, kf, fi, f, hi, hsl⟩ := hS j hj
  refine W.getf hF.hx hF.hb hF.hown (hF.hts _ hlk) hi (u_facts hfc hkC (u_lays hF.hts h2 hj) hi).1 q1 (by rw [q3]; exact fun h => by cases h) (v := cv G v) ?_ rfl rfl hd w
  rw [hsl, q4 j hj, hv G]
theorem ev_getI {i k j a : Nat} (hd : decode M.2.1 pc = .ok (.getfield i, 3)) (hf : FL M.1.cls i k j) (hc : fcat (kty k j) = 0) (ho : isO σ k a = true) (kk : Ev M d (pc + 3) ls (.int (sI σ a j) :: st) σ r σ') : Ev M d pc ls (.ref a :: st) σ r σ' :=
  ev_get hd hf ho (fun G => by simp [fval, hc, cv]) kk
theorem ev_getL {i k j a : Nat} (hd : decode M.2.1 pc = .ok (.getfield i, 3)) (hf : FL M.1.cls i k j) (hc : fcat (kty k j) = 1) (ho : isO σ k a = true) (kk : Ev M d (pc + 3) ls (.long (sL σ a j) :: st) σ r σ') : Ev M d pc ls (.ref a :: st) σ r σ' :=
  ev_get hd hf ho (fun G => by simp [fval, hc, cv]) kk
theorem ev_getP {i k j a : Nat} {o : Option Nat} (hd : decode M.2.1 pc = .ok (.getfield i, 3)) (hf : FL M.1.cls i k j) (hc : fcat (kty k j) = 2) (ho : isO σ k a = true) (hv : sP σ a j = o) (kk : Ev M d (pc + 3) ls (va_rf o :: st) σ r σ') : Ev M d pc ls (.ref a :: st) σ r σ' :=
  ev_get hd hf ho (fun G => by rw [cv_rf]; simp [fval, hc, hv]) kk
theorem ev_put {i k j a : Nat} {v : Value} {σ1 : St} (hd : decode M.2.1 pc = .ok (.putfield i, 3)) (hf : FL M.1.cls i k j) (ho : isO σ k a = true) (hfin : (kT k j).2.2.2 = false ∨ (M.1.name = "<init>" ∧ (kT k j).1 = M.1.cls)) (hn : ∀ G, narrow (kty k j) (cv G v) = cv G v ∧ fits (kty k j) (cv G v) = true)
    (e1 : sn σ1 = sn σ) (e2 : sz σ1 = sz σ) (e3 : sh σ1 = sh σ) (hoth : ∀ x, x ≠ a → sI σ1 x = sI σ x ∧ sL σ1 x = sL σ x ∧ sP σ1 x = sP σ x) (hval : ∀ G y, y < kN k → fval G σ1 k a y = if y = j then cv G v else fval G σ k a y)
    (kk : Ev M d (pc + 3) ls st σ1 r σ') : Ev M d pc ls (v :: .ref a :: st) σ r σ' := by
  refine ev_hp (by omega) (by omega) (fun G p l e R s m args below meth c H locs cells slots Q ar hF hT hR hl hL hr w => ?_) kk
  obtain ⟨⟨h1, h2, h3, h4, h5⟩, hj, hlk⟩ := hf
  obtain ⟨cell, q1, q2, q3, q4⟩ := cell_obj hR ho h5
  obtain ⟨ha1, ha2, ha3⟩ := isO_spec ho
  obtain ⟨hS, hfc, kC, hkC, hkind⟩ := hT.1.1 k _ h1
  have hap := va_apart (own := M.1.cls) hF.hts h2 (kty k) h3 h4 hT.1 h1
  obtain ⟨cf, kf, fi, f, hi, hsl⟩ := hS j hj
  have hst := (u_facts hfc hkC (u_lays hF.hts h2 hj) hi).1
  have fin : ∀ (H' : Heap), H'[al G a]? = some (cell.setSlot f.slot (cv G v)) → H'.size = H.size → (∀ q : Nat, q ≠ al G a → H'[q]? = H[q]?) →
      W p l e R s m args below meth c H' (locs ++ [⟨al G a, f.slot⟩]) cells slots Q (F0 m (pc + 3) ar (st.map (cv G))) := by
    intro H' g1 g2 g3
    have g1' := g1
    rw [hsl] at g1'
    have w2 := w H' (locs ++ [⟨al G a, f.slot⟩]) (rep_write hR ha1 e1 e3 hoth g2 g3 (Or.inl ⟨by rw [e3, ha3]; exact h5, by
      rw [e3, ha3]
      refine t_OB.to (V := updV (fval G σ k a) j (cv G v)) ⟨_, g1', q2, q3, t_set q4 hap hj (cv G v)⟩ (fun y hy => ?_)
      rw [hval G y hy]
      rfl⟩)) (fun q hq => by
        rcases List.mem_append.mp hq with hq | hq
        · exact hL q hq
        · rw [List.mem_singleton.mp hq]
          show G.2.2.2 < al G a
          rw [al_pos ha1]; omega)
    rw [e1, e2, Nat.sub_self, Nat.sub_self] at w2
    exact w2
  have hlay := hF.hts _ (h2 _ (u_in_lay hj))
  unfold u_lay at hlay
  by_cases hb : (kT k j).2.2.2 = true
  · rw [if_pos hb] at hlay
    rcases hfin with hfin | hfin
    · rw [hfin] at hb; cases hb
    · have hcf : m.cls = cf := by
        obtain ⟨_, _, c', _, _, _, -, -, hf', -, -, -, hown2, -⟩ := Cond.laysFinal_spec hlay
        have z1 : c' = cf := by have := hi.symm.trans hf'; simp at this; exact this.1.symm
        rw [hfin.2] at hown2
        rw [← z1]; exact Option.some.inj (hF.hown.symm.trans hown2)
      have h6 := u_fits hfc hkC hkind (Or.inr hlay) hi (h3 j hj) (hn G).1 (hn G).2
      exact W.putFinK hF.hx hF.hb hF.hown (hF.hts _ hlk) hi hst hcf (hF.2.2.2.2.2.2.2 hfin.1) (by rw [q2]; exact h6) q1 q3 (by rw [hsl]; exact k2_hasslot (q4 j hj)) rfl rfl hd fin
  · rw [if_neg hb] at hlay
    have h6 := u_store hfc hkC hkind hlay hi (h3 j hj) (hn G).1 (hn G).2
    exact W.putK hF.hx hF.hb (f := f) ⟨hF.hown, hF.hts _ hlk, ⟨_, _, _, hi⟩, hst⟩ (by rw [q2]; exact h6) q1 q3 (by rw [hsl]; exact k2_hasslot (q4 j hj)) rfl rfl hd fin
theorem up2_ne {α : Type} {f : Nat → Nat → α} {a k x : Nat} {v : α} (h : x ≠ a) : up2 f a k v x = f x := by funext y; simp [up2, h]
theorem up2_row {α : Type} {f : Nat → Nat → α} {a k : Nat} {v : α} (y : Nat) : up2 f a k v a y = if y = k then v else f a y := by simp [up2]
theorem ev_putI {i k j a : Nat} {v : Int32} (hd : decode M.2.1 pc = .ok (.putfield i, 3)) (hf : FL M.1.cls i k j) (hc : fcat (kty k j) = 0) (hfin : (kT k j).2.2.2 = false ∨ (M.1.name = "<init>" ∧ (kT k j).1 = M.1.cls)) (ho : isO σ k a = true) (hn : narrow (kty k j) (.int v) = .int v ∧ fits (kty k j) (.int v) = true) (kk : Ev M d (pc + 3) ls st (setI σ a j v) r σ') : Ev M d pc ls (.int v :: .ref a :: st) σ r σ' :=
  ev_put (σ1 := setI σ a j v) hd hf ho hfin (fun _ => hn) rfl rfl rfl (fun x hx => ⟨up2_ne hx, rfl, rfl⟩) (fun G y _ => by
    by_cases hy : y = j
    · subst hy; rw [if_pos rfl]; unfold fval; rw [if_neg (by rw [hc]; decide), if_neg (by rw [hc]; decide)]; show Value.int (up2 _ _ _ _ _ _) = _; rw [up2_row, if_pos rfl]; rfl
    · rw [if_neg hy]; unfold fval; show (if _ then _ else if _ then _ else Value.int (up2 _ _ _ _ _ _)) = _; rw [up2_row, if_neg hy]; rfl) kk
theorem ev_putL {i k j a : Nat} {v : Int64} (hd : decode M.2.1 pc = .ok (.putfield i, 3)) (hf : FL M.1.cls i k j) (hc : kty k j = .long) (hfin : (kT k j).2.2.2 = false ∨ (M.1.name = "<init>" ∧ (kT k j).1 = M.1.cls)) (ho : isO σ k a = true) (kk : Ev M d (pc + 3) ls st (setL σ a j v) r σ') : Ev M d pc ls (.long v :: .ref a :: st) σ r σ' :=
  ev_put (σ1 := setL σ a j v) hd hf ho hfin (fun _ => by rw [hc]; exact ⟨rfl, rfl⟩) rfl rfl rfl (fun x hx => ⟨rfl, up2_ne hx, rfl⟩) (fun G y _ => by
    by_cases hy : y = j
    · subst hy; rw [if_pos rfl]; unfold fval; rw [if_pos (by rw [hc]; rfl)]; show Value.long (up2 _ _ _ _ _ _) = _; rw [up2_row, if_pos rfl]; rfl
    · rw [if_neg hy]; unfold fval; show (if _ then Value.long (up2 _ _ _ _ _ _) else _) = _; rw [up2_row, if_neg hy]; rfl) kk
theorem fits_rf {ty : FieldType} (h : fcat ty = 2) (o : Option Nat) : narrow ty (va_rf o) = va_rf o ∧ fits ty (va_rf o) = true := by
  cases ty <;> first | (cases h; done) | (cases o <;> exact ⟨rfl, rfl⟩)
theorem ev_putP {i k j a : Nat} {o : Option Nat} (hd : decode M.2.1 pc = .ok (.putfield i, 3)) (hf : FL M.1.cls i k j) (hc : fcat (kty k j) = 2) (hfin : (kT k j).2.2.2 = false ∨ (M.1.name = "<init>" ∧ (kT k j).1 = M.1.cls)) (ho : isO σ k a = true) (kk : Ev M d (pc + 3) ls st (setP σ a j o) r σ') : Ev M d pc ls (va_rf o :: .ref a :: st) σ r σ' :=
  ev_put (σ1 := setP σ a j o) hd hf ho hfin (fun _ => by rw [cv_rf]; exact fits_rf hc _) rfl rfl rfl (fun x hx => ⟨rfl, rfl, up2_ne hx⟩) (fun G y _ => by
    by_cases hy : y = j
    · subst hy; rw [if_pos rfl]; unfold fval; rw [if_neg (by rw [hc]; decide), if_pos hc]; show va_rf (Option.map _ (up2 _ _ _ _ _ _)) = _; rw [up2_row, if_pos rfl, cv_rf]
    · rw [if_neg hy]; unfold fval; show (if _ then _ else if _ then va_rf (Option.map _ (up2 _ _ _ _ _ _)) else _) = _; rw [up2_row, if_neg hy]; rfl) kk
theorem ev_objinit {i : Nat} {a : Nat} (hd : decode M.2.1 pc = .ok (.invokespecial i, 3)) (hlk : Cond.methodLink M.1.cls i objectInit ∈ gtbl) (hin : Cond.instanceMethod objectInit ∈ gtbl) (hco : Cond.code objectInit ⟨#[0xb1]⟩ 1 none ∈ gtbl) (hd1 : 1 ≤ d) (hst : (st.map fun v => v.category).sum ≤ 8) (kk : Ev M d (pc + 3) ls st σ r σ') : Ev M d pc ls (.ref a :: st) σ r σ' := by
  refine ev_rd (fun G p l e R s m args below meth c H locs cells slots Q ar hF hT hR hr hz w => ?_) kk
  refine W.objInit hF.hx hF.hb hF.hown (hF.hts _ hlk) (hF.hts _ hin) (hF.hts _ hco) rfl (by rw [hF.hml]; exact hz) (a := al G a) (rest := st.map (cv G)) rfl hd (by omega) ?_ w
  show 2 * 0 + ((st.map (cv G)).map fun v => v.category).sum + 12 ≤ R.locals
  rw [cat_sum]
  omega
end EVH
