/-! new objects and arrays; calls; a method's contract -/
def dfl (n : Nat) : Value := if n = 1 then .long 0 else if n = 2 then .null else .int 0
theorem dv_ok : ∀ k, k < 12 → ∀ j, j < kN k → defaultValue (kty k j) = dfl (fcat (kty k j)) := by decide +kernel
section EVN
variable {M : MI} {d pc : Nat} {ls : List (Nat × Value)} {st : List Value} {σ σ' : St} {r : Option Value}
theorem ev_new {i k : Nat} (hd : decode M.2.1 pc = .ok (.new i, 3)) (hK : KF k) (hlk : Cond.classLink M.1.cls i (kR k) ∈ gtbl) (hin : Cond.instantiable (kR k) (kN k) ∈ gtbl) (hini : Cond.initialized (kR k) ∈ gtbl) (kk : Ev M d (pc + 3) ls (va_rf (some (sn σ)) :: st) (newC σ k (kN k)) r σ') : Ev M d pc ls st σ r σ' := by
  refine ev_hp (σ1 := newC σ k (kN k)) (Nat.le_succ _) (Nat.le_add_right _ _) (fun G p l e R s m args below meth c H locs cells slots Q ar hF hT hR hl hL hr w => ?_) kk
  obtain ⟨h1, h2, h3, h4, h5⟩ := hK
  have hKn := hT.1.1 k _ h1
  have e1 : sn (newC σ k (kN k)) - sn σ = 1 := by show sn σ + 1 - sn σ = 1; omega
  have e2 : sz (newC σ k (kN k)) - sz σ = kN k := by show sz σ + kN k - sz σ = kN k; omega
  rw [e1, e2] at hr w
  refine W.newcK hF.hx hF.hb hF.hown (hF.hts _ hlk) (hF.hts _ hin) (hF.hts _ hini) rfl hd hr.2.2.1 hr.2.2.2 hKn.2.1 rfl fun H1 kC hkC g1 z1 o1 => ?_
  have hal : al G (sn σ) = H.size := by rw [hR.1, al_pos hR.2.1]
  have hs : sh (newC σ k (kN k)) (sn σ) = (k, kN k) := by show up1 _ _ _ _ = _; simp [up1]
  have hb := u_born (kty k) hF.hts h2 hKn hkC g1 h3
  have w2 := w H1 locs (rep_new hR z1 o1 (Or.inl ⟨by rw [hs]; exact h5, by
    rw [hs, hal]
    refine hb.to (fun j hj => ?_)
    rw [dv_ok k h5 j hj]
    unfold fval dfl
    by_cases f1 : fcat (kty k j) = 1
    · rw [if_pos f1, if_pos f1]; show _ = Value.long (row0 _ _ _ _ _); simp [row0]
    · rw [if_neg f1, if_neg f1]
      by_cases f2 : fcat (kty k j) = 2
      · rw [if_pos f2, if_pos f2]; show _ = va_rf (Option.map _ (row0 _ _ _ _ _)); simp [row0, va_rf]
      · rw [if_neg f2, if_neg f2]; show _ = Value.int (row0 _ _ _ _ _); simp [row0]⟩)) hL
  have e3 : (va_rf (some (sn σ)) :: st).map (cv G) = .ref H.size :: st.map (cv G) := by
    show cv G (.ref (sn σ)) :: _ = _
    show Value.ref (al G (sn σ)) :: _ = _
    rw [hal]
  rw [e3] at w2
  exact w2
theorem ev_newa {k : Nat} {at' : ArrayType} {n : Int32} (hd : decode M.2.1 pc = .ok (.newarray at', 2)) (hk : k = 12 ∧ at' = .char ∨ k = 13 ∧ at' = .int ∨ k = 14 ∧ at' = .long) (hcl : Cond.arrayClass (newarray.typeOf at') ∈ gtbl) (hn : ¬ n < 0) (hb : n.toNatClampNeg ≤ 1000000) (kk : Ev M d (pc + 2) ls (va_rf (some (sn σ)) :: st) (newC σ k n.toNatClampNeg) r σ') : Ev M d pc ls (.int n :: st) σ r σ' := by
  refine ev_hp (σ1 := newC σ k n.toNatClampNeg) (Nat.le_succ _) (Nat.le_add_right _ _) (fun G p l e R s m args below meth c H locs cells slots Q ar hF hT hR hl hL hr w => ?_) kk
  have e1 : sn (newC σ k n.toNatClampNeg) - sn σ = 1 := by show sn σ + 1 - sn σ = 1; omega
  have e2 : sz (newC σ k n.toNatClampNeg) - sz σ = n.toNatClampNeg := by show sz σ + n.toNatClampNeg - sz σ = n.toNatClampNeg; omega
  rw [e1, e2] at hr w
  have hk12 : 12 ≤ k ∧ k < 18 := by omega
  have hty : newarray.typeOf at' = aty k := by rcases hk with ⟨rfl, rfl⟩ | ⟨rfl, rfl⟩ | ⟨rfl, rfl⟩ <;> rfl
  refine va_newaK hF.hx hF.hb (hF.hts _ hcl) rfl hd rfl hn rfl (by
    have h8 : componentBytes (newarray.typeOf at') ≤ 8 := by rcases hk with ⟨rfl, rfl⟩ | ⟨rfl, rfl⟩ | ⟨rfl, rfl⟩ <;> decide
    calc n.toNatClampNeg * componentBytes (newarray.typeOf at') ≤ 1000000 * 8 := Nat.mul_le_mul hb h8
      _ ≤ 536870912 := by decide) hr.2.2.1 hr.2.2.2 rfl fun H1 cA g1 z1 o1 hAr hNm => ?_
  have hal : al G (sn σ) = H.size := by rw [hR.1, al_pos hR.2.1]
  have hs : sh (newC σ k n.toNatClampNeg) (sn σ) = (k, n.toNatClampNeg) := by show up1 _ _ _ _ = _; simp [up1]
  have hcA : cA = G.2.1 k := by
    have hra := (tys_at hT hk12.1 hk12.2).2
    rw [hty] at hNm
    have : s.vm.findClass ("[" ++ (aty k).toString) = some (G.2.1 k) := by
      rcases hk with ⟨rfl, rfl⟩ | ⟨rfl, rfl⟩ | ⟨rfl, rfl⟩ <;> exact hra
    exact Option.some.inj (hNm.symm.trans this)
  subst hcA
  have w2 := w H1 locs (rep_new hR z1 o1 (Or.inr ⟨by rw [hs]; exact hk12.1, by rw [hs]; exact hk12.2, by
    rw [hs, hal, g1, acell_arrV]
    have hl : alen (newC σ k n.toNatClampNeg) (sn σ) = n.toNatClampNeg := by unfold alen; rw [hs]
    rw [hl]
    congr 2
    funext j
    rw [hty]
    unfold elt
    rcases hk with ⟨rfl, rfl⟩ | ⟨rfl, rfl⟩ | ⟨rfl, rfl⟩
    · show _ = Value.int (row0 _ _ _ _ _); simp [row0]; rfl
    · show _ = Value.int (row0 _ _ _ _ _); simp [row0]; rfl
    · show _ = Value.long (row0 _ _ _ _ _); simp [row0]; rfl⟩)) hL
  have e3 : (va_rf (some (sn σ)) :: st).map (cv G) = .ref H.size :: st.map (cv G) := by
    show Value.ref (al G (sn σ)) :: _ = _
    rw [hal]
  rw [e3] at w2
  exact w2
theorem ev_anew {k ko i : Nat} {n : Int32} (hd : decode M.2.1 pc = .ok (.anewarray i, 3)) (hk : k = 16 ∧ ko = 1 ∨ k = 17 ∧ ko = 6) (hlk : Cond.classLink M.1.cls i (kR ko) ∈ gtbl) (hn : ¬ n < 0) (hb : n.toNatClampNeg ≤ 1000000) (kk : Ev M d (pc + 3) ls (va_rf (some (sn σ)) :: st) (newC σ k n.toNatClampNeg) r σ') : Ev M d pc ls (.int n :: st) σ r σ' := by
  refine ev_hp (σ1 := newC σ k n.toNatClampNeg) (Nat.le_succ _) (Nat.le_add_right _ _) (fun G p l e R s m args below meth c H locs cells slots Q ar hF hT hR hl hL hr w => ?_) kk
  have e1 : sn (newC σ k n.toNatClampNeg) - sn σ = 1 := by show sn σ + 1 - sn σ = 1; omega
  have e2 : sz (newC σ k n.toNatClampNeg) - sz σ = n.toNatClampNeg := by show sz σ + n.toNatClampNeg - sz σ = n.toNatClampNeg; omega
  rw [e1, e2] at hr w
  have hk12 : 12 ≤ k ∧ k < 18 := by omega
  have hao : va_AO (kR ko) s := by rcases hk with ⟨rfl, rfl⟩ | ⟨rfl, rfl⟩; exact hT.2.1; exact hT.2.2.1
  have hty : aty k = .object (kR ko) := by rcases hk with ⟨rfl, rfl⟩ | ⟨rfl, rfl⟩ <;> rfl
  refine W.anew hF.hx hF.hb hF.hown (hF.hts _ hlk) (va_AO.use hao) rfl hd rfl hn (by omega) hr.2.2.1 hr.2.2.2 fun cA kA comp f1 f2 f3 f4 => ?_
  generalize hH1 : H.push ({ cls := cA, slots := Array.replicate n.toNatClampNeg .null, vm := .none } : Cell) = H1
  have z1 : H1.size = H.size + 1 := by rw [← hH1, Array.size_push]
  have g1 : H1[H.size]? = some (arrV cA n.toNatClampNeg (fun _ => .null)) := by rw [← hH1, Array.getElem?_push_size, ← arrV_new]
  have o1 : ∀ q : Nat, q < H.size → H1[q]? = H[q]? := fun q hq => by rw [← hH1, Array.getElem?_push, if_neg (Nat.ne_of_lt hq)]
  have hal : al G (sn σ) = H.size := by rw [hR.1, al_pos hR.2.1]
  have hs : sh (newC σ k n.toNatClampNeg) (sn σ) = (k, n.toNatClampNeg) := by show up1 _ _ _ _ = _; simp [up1]
  have hcA : cA = G.2.1 k := by
    have hra := (tys_at hT hk12.1 hk12.2).2
    rw [hty] at hra
    obtain ⟨_, _, _, _, _, q4⟩ := hra
    exact Option.some.inj (f1.symm.trans q4)
  subst hcA
  have w2 := w H1 locs (rep_new hR z1 o1 (Or.inr ⟨by rw [hs]; exact hk12.1, by rw [hs]; exact hk12.2, by
    rw [hs, hal, g1, acell_arrV]
    have hl : alen (newC σ k n.toNatClampNeg) (sn σ) = n.toNatClampNeg := by unfold alen; rw [hs]
    rw [hl]
    congr 2
    funext j
    unfold elt
    rw [if_neg (by omega), if_pos (by omega)]
    show _ = va_rf (Option.map _ (row0 _ _ _ _ _))
    simp [row0, va_rf]⟩)) hL
  have e3 : (va_rf (some (sn σ)) :: st).map (cv G) = .ref H.size :: st.map (cv G) := by
    show Value.ref (al G (sn σ)) :: _ = _
    rw [hal]
  rw [e3] at w2
  exact w2
end EVN
theorem gt_good {ws : List Cond} (h : ∀ w ∈ ws, w ∈ gtbl) : GoodIn gtbl ws := fun w hw => ⟨h w hw, good_of_word (List.mem_filter.mp (h w hw)).2⟩
/-- what the tables say of a method that is called: its code, its class, how many arguments -/
def CalB (M : MI) (n : Nat) : Prop := Cond.code M.1 M.2.1 M.2.2.1 M.2.2.2 ∈ gtbl ∧ Cond.initialized M.1.cls ∈ gtbl ∧ (M.1.cls ≠ "java/lang/invoke/MethodHandle" ∧ M.1.cls ≠ "java/lang/invoke/VarHandle" ∧ (parseMethodDescriptor M.1.desc).map (fun d => d.parameters.length) = some n) ∧ M.2.2.1 ≤ 21
theorem wd_in {M : MI} {n : Nat} (h : CalB M n) : ∀ w ∈ Wd M, w ∈ gtbl := fun w hw => by
  rcases List.mem_cons.mp hw with rfl | hw
  · exact h.1
  · exact hw
theorem blind {G : GC} {σ : St} {av : List Value} : FrameBlind (va_Pc (av.map (cv G)) (fun U => Rep G σ U U.heap ∧ Tb G U)) := fun a U g mk q => by
  obtain ⟨q0, q1, q2⟩ := q
  exact ⟨q0, Rep.moved (t := U.calling g mk a) (Vm.Alike.refl U.vm) q1, Tb.moved (t := U.calling g mk a) (State.WarmedH.refl U) q2⟩
theorem ev_after {M : MI} {d pc : Nat} {ls : List (Nat × Value)} {st0 st : List Value} {σ σ1 σ' : St} {r r1 : Option Value} (h1 : sn σ ≤ sn σ1) (h2 : sz σ ≤ sz σ1)
    (hrun : ∀ (G : GC) (p : Program) (l : Launch) (e : Env) (R : Room) (s : State) (m : MethodId) (args : Array Value) (below : List Frame) (meth : Method) (c : Code) (H : Heap) (locs : List Loc) (cells slots : Nat) (ar : Array Slot),
      Fx M p s m args meth c → Tb G s → Rep G σ s H → ar.size = M.2.2.1 → d ≤ R.frames ∧ 40 * d ≤ R.locals → (cells + (sn σ1 - sn σ) ≤ R.cells ∧ slots + (sz σ1 - sz σ) ≤ R.slots) →
      va_Run p l e R s m args below meth c H locs cells slots (sn σ1 - sn σ) (sz σ1 - sz σ) (F0 m pc ar (st0.map (cv G))) (st.map (cv G)) (fun _ oc t => oc = .returned (r1.map (cv G)) ∧ Rep G σ1 t t.heap) (fun q => G.2.2.2 < q))
    (kk : Ev M d (pc + 3) ls (r1.toList ++ st) σ1 r σ') : Ev M d pc ls st0 σ r σ' := by
  refine ev_hp h1 h2 (fun G p l e R s m args below meth c H locs cells slots Q ar hF hT hR hl hL hr w => ?_) kk
  intro T hT2 X
  obtain ⟨v, st₀, t, T', L, h0, X', hLf, e1, e2, ⟨hv, hRep⟩, stp⟩ := hrun G p l e R s m args below meth c H locs cells slots ar hF hT hR hl.1 ⟨hr.1, hr.2.1⟩ hr.2.2 T hT2 X
  have hv2 : v = r1.map (cv G) := by injection hv
  subst hv2
  have hal : s.vm.Alike t.vm := by rw [← e2]; exact X'.warmed.alike
  have hRep' : Rep G σ1 s T'.heap := by rw [e1]; exact Rep.moved hal.symm hRep
  obtain ⟨t2, a1, b1⟩ := w T'.heap (locs ++ L) hRep' (fun q hq => by
    rcases List.mem_append.mp hq with hq | hq
    · exact hL q hq
    · exact hLf q hq) T' rfl X'
  refine ⟨t2, stp t2 ?_, b1⟩
  have e3 : (r1.toList ++ st).map (cv G) = (r1.map (cv G)).toList ++ st.map (cv G) := by cases r1 <;> simp
  rw [e3] at a1
  exact a1
section EVC
variable {M M2 : MI} {d d2 pc i n : Nat} {ls : List (Nat × Value)} {st0 st As : List Value} {σ σ1 σ' : St} {r r1 : Option Value}
theorem locals_ok {d d2 x : Nat} (h : d2 + 1 ≤ d) (hx : x ≤ 21) : 8 + (x + 11) + 40 * d2 ≤ 40 * d := by omega
theorem ev_invV {k b : Nat} (hd : decode M.2.1 pc = .ok (.invokevirtual i, 3)) (hb : CalB M2 n) (hlk : Cond.methodLink M.1.cls i M2.1 ∈ gtbl) (hin : Cond.instanceMethod M2.1 ∈ gtbl) (hsel : Cond.selects M2.1.cls M2.1 M2.1 ∈ gtbl) (hK : KF k) (hkc : kR k = M2.1.cls) (hdd : d2 + 1 ≤ d)
    (ho : isO σ k b = true) (hn : As.length = n) (hst : st0 = As.reverse ++ .ref b :: st) (hw : (st.map fun v => v.category).sum ≤ 8) (hx : Ex M2 d2 (.ref b :: As) σ r1 σ1) (kk : Ev M d (pc + 3) ls (r1.toList ++ st) σ1 r σ') : Ev M d pc ls st0 σ r σ' := by
  refine ev_after hx.1 hx.2.1 (fun G p l e R s m args below meth c H locs cells slots ar hF hT hR hz hr hr2 => ?_) kk
  have hM := hx.2.2 l G
  obtain ⟨cell, q1, q2, q3, -⟩ := cell_obj hR ho hK.2.2.2.2
  have hcl : s.vm.findClass M2.1.cls = some cell.cls := by rw [← hkc, q2]; exact (hT.1.1 k _ hK.1).2.1
  have hb1 := isO_spec ho
  refine va_runV (b := al G b) (As := As.map (cv G)) (rest := st.map (cv G)) ⟨hF.hx, hF.hb, hF.hml, hF.hown, hF.hts⟩ hM (cwV n hF.hts (gt_good (fun w hw => ?_)) rfl rfl rfl ⟨rfl, hb.2.2.1⟩ ⟨Nat.le_trans hdd hr.1, Nat.le_trans (locals_ok hdd hb.2.2.2) hr.2⟩) ⟨blind, ⟨cell, q1, by rw [q3]; rfl, hcl⟩, fun U hU hW => ⟨rfl, by rw [hU]; exact Rep.moved hW.alike hR, Tb.moved hW hT⟩⟩ rfl (by rw [List.length_map]; exact hn) hz ?_ (lv_room (by rw [cat_sum]; exact hw)) hd hr2
  · unfold wsV at hw
    rcases List.mem_append.mp hw with hw | hw
    · simp only [List.mem_cons, List.not_mem_nil, or_false] at hw
      rcases hw with rfl | rfl | rfl | rfl
      · exact hlk
      · exact hin
      · exact hsel
      · exact hb.2.1
    · exact wd_in hb w hw
  · subst hst
    show (As.reverse ++ .ref b :: st).map (cv G) = _
    rw [List.map_append, List.map_reverse]
    rfl
theorem ev_invS (hd : decode M.2.1 pc = .ok (.invokestatic i, 3)) (hb : CalB M2 n) (hlk : Cond.methodLink M.1.cls i M2.1 ∈ gtbl) (hin : Cond.static M2.1 ∈ gtbl) (hdd : d2 + 1 ≤ d)
    (hn : As.length = n) (hst : st0 = As.reverse ++ st) (hw : (st.map fun v => v.category).sum ≤ 8) (hx : Ex M2 d2 As σ r1 σ1) (kk : Ev M d (pc + 3) ls (r1.toList ++ st) σ1 r σ') : Ev M d pc ls st0 σ r σ' := by
  refine ev_after hx.1 hx.2.1 (fun G p l e R s m args below meth c H locs cells slots ar hF hT hR hz hr hr2 => ?_) kk
  have hM := hx.2.2 l G
  refine va_runS (As := As.map (cv G)) (rest := st.map (cv G)) ⟨hF.hx, hF.hb, hF.hml, hF.hown, hF.hts⟩ hM (va_cwS n hF.hts (gt_good (fun w hw => ?_)) rfl rfl rfl hb.2.2.1 ⟨Nat.le_trans hdd hr.1, Nat.le_trans (locals_ok hdd hb.2.2.2) hr.2⟩) ⟨blind, fun U hU hW => ⟨rfl, by rw [hU]; exact Rep.moved hW.alike hR, Tb.moved hW hT⟩⟩ rfl (by rw [List.length_map]; exact hn) hz ?_ (lv_room (by rw [cat_sum]; exact hw)) hd hr2
  · unfold va_wsS at hw
    rcases List.mem_append.mp hw with hw | hw
    · simp only [List.mem_cons, List.not_mem_nil, or_false] at hw
      rcases hw with rfl | rfl | rfl
      · exact hlk
      · exact hin
      · exact hb.2.1
    · exact wd_in hb w hw
  · subst hst
    show (As.reverse ++ st).map (cv G) = _
    rw [List.map_append, List.map_reverse]
theorem ev_invSN {host : String} (hd : decode M.2.1 pc = .ok (.invokestatic i, 3)) (hb : CalB M2 n) (hlk : Cond.methodLinkNest M.1.cls i M2.1 host ∈ nests) (hin : Cond.static M2.1 ∈ gtbl) (hdd : d2 + 1 ≤ d)
    (hn : As.length = n) (hst : st0 = As.reverse ++ st) (hw : (st.map fun v => v.category).sum ≤ 8) (hx : Ex M2 d2 As σ r1 σ1) (kk : Ev M d (pc + 3) ls (r1.toList ++ st) σ1 r σ') : Ev M d pc ls st0 σ r σ' := by
  refine ev_after hx.1 hx.2.1 (fun G p l e R s m args below meth c H locs cells slots ar hF hT hR hz hr hr2 => ?_) kk
  have hM := hx.2.2 l G
  refine va_runSN (As := As.map (cv G)) (rest := st.map (cv G)) ⟨hF.hx, hF.hb, hF.hml, hF.hown, hF.hts⟩ hM ⟨va_cnB n hF.hts (gt_good (wd_in hb)) rfl rfl rfl (hT.2.2.2 _ hlk) (hF.hts _ hb.2.1) hb.2.2.1 ⟨Nat.le_trans hdd hr.1, Nat.le_trans (locals_ok hdd hb.2.2.2) hr.2⟩, hF.hts _ hin, trivial⟩ ⟨blind, fun U hU hW => ⟨rfl, by rw [hU]; exact Rep.moved hW.alike hR, Tb.moved hW hT⟩⟩ rfl (by rw [List.length_map]; exact hn) hz ?_ (lv_room (by rw [cat_sum]; exact hw)) hd hr2
  subst hst
  show (As.reverse ++ st).map (cv G) = _
  rw [List.map_append, List.map_reverse]
theorem ev_invI {b : Nat} (hd : decode M.2.1 pc = .ok (.invokespecial i, 3)) (hb : CalB M2 n) (hlk : Cond.methodLink M.1.cls i M2.1 ∈ gtbl) (hin : Cond.instanceMethod M2.1 ∈ gtbl) (hret : M2.2.2.2 = none) (hnm : M2.1.name = "<init>") (hdd : d2 + 1 ≤ d)
    (hn : As.length = n) (hst : st0 = As.reverse ++ .ref b :: st) (hw : (st.map fun v => v.category).sum ≤ 8) (hx : Ex M2 d2 (.ref b :: As) σ r1 σ1) (kk : Ev M d (pc + 3) ls (r1.toList ++ st) σ1 r σ') : Ev M d pc ls st0 σ r σ' := by
  refine ev_after hx.1 hx.2.1 (fun G p l e R s m args below meth c H locs cells slots ar hF hT hR hz hr hr2 => ?_) kk
  have hM := hx.2.2 l G
  refine va_runI (b := al G b) (As := As.map (cv G)) (rest := st.map (cv G)) ⟨hF.hx, hF.hb, hF.hml, hF.hown, hF.hts⟩ hM (cwI (bytes := M2.2.1) (maxL := M2.2.2.1) n hF.hts (gt_good (wd_in hb)) (by show Wd M2 = _; unfold Wd; rw [hret]) rfl rfl (hF.hts _ hb.2.1) (hF.hts _ hlk) (hF.hts _ hin) hnm hb.2.2.1 ⟨Nat.le_trans hdd hr.1, Nat.le_trans (locals_ok hdd hb.2.2.2) hr.2⟩) ⟨blind, fun U hU hW => ⟨rfl, by rw [hU]; exact Rep.moved hW.alike hR, Tb.moved hW hT⟩⟩ rfl (by rw [List.length_map]; exact hn) hz ?_ (lv_room (by rw [cat_sum]; exact hw)) hd hr2
  subst hst
  show (As.reverse ++ .ref b :: st).map (cv G) = _
  rw [List.map_append, List.map_reverse]
  rfl
theorem ev_invIN {b : Nat} {host : String} (hd : decode M.2.1 pc = .ok (.invokespecial i, 3)) (hb : CalB M2 n) (hlk : Cond.methodLinkNest M.1.cls i M2.1 host ∈ nests) (hin : Cond.instanceMethod M2.1 ∈ gtbl) (hret : M2.2.2.2 = none) (hnm : M2.1.name = "<init>") (hdd : d2 + 1 ≤ d)
    (hn : As.length = n) (hst : st0 = As.reverse ++ .ref b :: st) (hw : (st.map fun v => v.category).sum ≤ 8) (hx : Ex M2 d2 (.ref b :: As) σ r1 σ1) (kk : Ev M d (pc + 3) ls (r1.toList ++ st) σ1 r σ') : Ev M d pc ls st0 σ r σ' := by
  refine ev_after hx.1 hx.2.1 (fun G p l e R s m args below meth c H locs cells slots ar hF hT hR hz hr hr2 => ?_) kk
  have hM := hx.2.2 l G
  refine va_runIN (b := al G b) (As := As.map (cv G)) (rest := st.map (cv G)) (bytes := M2.2.1) (maxL := M2.2.2.1) ⟨hF.hx, hF.hb, hF.hml, hF.hown, hF.hts⟩ hM ⟨va_cnB (ret := none) n hF.hts (gt_good (wd_in hb)) (by show Wd M2 = _; unfold Wd; rw [hret]) rfl rfl (hT.2.2.2 _ hlk) (hF.hts _ hb.2.1) hb.2.2.1 ⟨Nat.le_trans hdd hr.1, Nat.le_trans (locals_ok hdd hb.2.2.2) hr.2⟩, hnm, hF.hts _ hin⟩ ⟨blind, fun U hU hW => ⟨rfl, by rw [hU]; exact Rep.moved hW.alike hR, Tb.moved hW hT⟩⟩ rfl (by rw [List.length_map]; exact hn) hz ?_ (lv_room (by rw [cat_sum]; exact hw)) hd hr2
  subst hst
  show (As.reverse ++ .ref b :: st).map (cv G) = _
  rw [List.map_append, List.map_reverse]
  rfl
end EVC
/-! the end of a method, and its contract -/
theorem ev_ret {M : MI} {d pc : Nat} {ls : List (Nat × Value)} {σ : St} {r : Option Value} (hd : decode M.2.1 pc = .ok (RI r, 1)) (hret : RetOK M.2.2.2 r) : Ev M d pc ls r.toList σ r σ := by
  refine ⟨Nat.le_refl _, Nat.le_refl _, fun G p l e R s m args below meth c H locs cells slots Q ar hF hT hR hl hL hr hk => ?_⟩
  have w := hk H locs pc ar hR hL hd hret
  have e3 : (r.map (cv G)).toList = r.toList.map (cv G) := by cases r <;> rfl
  rw [Nat.sub_self, Nat.sub_self, e3] at w
  exact w
theorem ex_of {M : MI} {d : Nat} {av : List Value} {ls : List (Nat × Value)} {σ σ' : St} {r : Option Value} (hpl : plainName M.1.cls = true) (hls : lv_args 0 av = ls) (hlen : (lg_sl av).length ≤ M.2.2.1) (h : Ev M d 0 ls [] σ r σ') : Ex M d av σ r σ' := by
  refine ⟨h.1, h.2.1, fun l G => ?_⟩
  refine Met.ofW (cc := M.2.1) (maxL := M.2.2.1) (ret := M.2.2.2) hpl rfl ?_
  intro p e s m args below meth c s₁ B hml hv
  obtain ⟨rfl, hRep, hTb⟩ := hv
  have hts := atoms_spec (ws := Wd M) B.pre
  have hF : Fx M p s m (av.map (cv G)).toArray meth c := ⟨B.exec, B.bytes, hml, B.returns, B.notSynchronized, findClass_of_methodNamed B.named, fun w hw => hts w (List.mem_cons_of_mem _ hw), fun hn => ((name_of_methodNamed B.named B.method).1).trans hn⟩
  have hl := lv_entry (av.map (cv G)) (n := M.2.2.1) (by rw [lg_len]; exact hlen)
  rw [lg_entry_eq]
  generalize (lg_sl (av.map (cv G)) ++ List.replicate (M.2.2.1 - (lg_sl (av.map (cv G))).length) Slot.unset).toArray = ar at hl ⊢
  rw [cvl_args, hls] at hl
  refine h.2.2 G p l e _ s m _ below meth c s.heap [] 0 0 _ ar hF hTb hRep hl (fun q hq => by cases hq) ⟨Nat.le_refl _, Nat.le_refl _, by show 0 + _ ≤ _; rw [Nat.zero_add]; exact Nat.le_refl _, by show 0 + _ ≤ _; rw [Nat.zero_add]; exact Nat.le_refl _⟩ (fun H' locs' pc' ar' hR' hL' hd' hret => ?_)
  rw [Nat.zero_add, Nat.zero_add]
  have fin : ∀ t : State, t.heap = H' → s.WarmedH t.vm → (Outcome.returned (r.map (cv G)) = .returned (r.map (cv G)) ∧ Rep G σ' t t.heap) := fun t ht hW => ⟨rfl, by rw [ht]; exact Rep.moved hW.alike hR'⟩
  match r, hret with
  | none, hret => exact W.vret hF.hx hF.hb (hF.hr.trans hret) fin hL' hd' hF.hlocks
  | some (.int v), hret =>
    obtain ⟨ty, h1, h2⟩ := hret
    exact W.zret hF.hx hF.hb (hF.hr.trans h1) h2 fin hL' hd' hF.hlocks
  | some (.long v), hret => exact W.lret hF.hx hF.hb (hF.hr.trans hret) fin hL' hd' hF.hlocks
  | some .null, hret =>
    obtain ⟨⟨ty, h1, h2⟩, -⟩ := hret
    exact W.aret hF.hx hF.hb (hF.hr.trans h1) h2 (Or.inl rfl) fin hL' hd' hF.hlocks
  | some (.ref a), hret =>
    obtain ⟨⟨ty, h1, h2⟩, -⟩ := hret
    exact W.aret hF.hx hF.hb (hF.hr.trans h1) h2 (Or.inr ⟨_, rfl⟩) fin hL' hd' hF.hlocks
  | some (.float a), hret => obtain ⟨-, h | ⟨_, h⟩⟩ := hret <;> cases h
  | some (.double a), hret => obtain ⟨-, h | ⟨_, h⟩⟩ := hret <;> cases h
  | some (.retAddr a), hret => obtain ⟨-, h | ⟨_, h⟩⟩ := hret <;> cases h

/-! forms for the generated walks -/
def lt {α β : Type} (x : α) (k : α → Option β) : Option β := k x
def op {α β : Type} (o : Option α) (k : α → Option β) : Option β := match o with
  | none => none
  | some v => k v
def on {α β : Type} (o : Option α) (a : Option β) (k : α → Option β) : Option β := match o with
  | none => a
  | some v => k v
def bd {α β : Type} (o : Option (α × St)) (k : α → St → Option β) : Option β := match o with
  | none => none
  | some (r, s) => k r s
def lp {α : Type} (z : α) (f : α → α) : Nat → α
  | 0 => z
  | n + 1 => f (lp z f n)
theorem lt_some {α β : Type} {x : α} {k : α → Option β} {y : β} (h : lt x k = some y) : ∃ z, z = x ∧ k z = some y := ⟨x, rfl, h⟩
theorem op_some {α β : Type} {o : Option α} {k : α → Option β} {y : β} (h : op o k = some y) : ∃ v, o = some v ∧ k v = some y := by
  cases o with
  | none => cases h
  | some v => exact ⟨v, rfl, h⟩
theorem on_some {α β : Type} {o : Option α} {a : Option β} {k : α → Option β} {y : β} (h : on o a k = some y) : (o = none ∧ a = some y) ∨ ∃ v, o = some v ∧ k v = some y := by
  cases o with
  | none => exact Or.inl ⟨rfl, h⟩
  | some v => exact Or.inr ⟨v, rfl, h⟩
theorem bd_some {α β : Type} {o : Option (α × St)} {k : α → St → Option β} {y : β} (h : bd o k = some y) : ∃ r s, o = some (r, s) ∧ k r s = some y := by
  cases o with
  | none => cases h
  | some v => exact ⟨v.1, v.2, rfl, h⟩
theorem it_some {β : Type} {c : Prop} [Decidable c] {a b : Option β} {y : β} (h : (if c then a else b) = some y) : (c ∧ a = some y) ∨ (¬ c ∧ b = some y) := by
  by_cases hc : c
  · rw [if_pos hc] at h; exact Or.inl ⟨hc, h⟩
  · rw [if_neg hc] at h; exact Or.inr ⟨hc, h⟩
theorem gd_some {β : Type} {c : Prop} [Decidable c] {a : Option β} {y : β} (h : (if c then a else none) = some y) : c ∧ a = some y := by
  rcases it_some h with h | h
  · exact h
  · cases h.2
section EVW
variable {M M2 : MI} {d d2 pc i n : Nat} {ls : List (Nat × Value)} {st0 st As : List Value} {σ σ1 σ2 σ' : St}
theorem ev_st {r : Option Value} (e : σ1 = σ2) (k : Ev M d pc ls st σ1 r σ') : Ev M d pc ls st σ2 r σ' := e ▸ k
theorem ev_topI {r : Option Value} {x y : Int32} (e : y = x) (k : Ev M d pc ls (.int y :: st) σ r σ') : Ev M d pc ls (.int x :: st) σ r σ' := e ▸ k
theorem ev_topL {r : Option Value} {x y : Int64} (e : y = x) (k : Ev M d pc ls (.long y :: st) σ r σ') : Ev M d pc ls (.long x :: st) σ r σ' := e ▸ k
theorem isO_I {a j k b : Nat} {v : Int32} (e : σ1 = setI σ a j v) (g : isO σ k b = true) : isO σ1 k b = true := by subst e; exact g
theorem isO_L {a j k b : Nat} {v : Int64} (e : σ1 = setL σ a j v) (g : isO σ k b = true) : isO σ1 k b = true := by subst e; exact g
theorem isO_P {a j k b : Nat} {v : Option Nat} (e : σ1 = setP σ a j v) (g : isO σ k b = true) : isO σ1 k b = true := by subst e; exact g
theorem isO_N {k b kk len : Nat} (e : σ1 = newC σ kk len) (g : isO σ k b = true) : isO σ1 k b = true := by
  subst e
  obtain ⟨g1, g2, g3⟩ := isO_spec g
  have hb : ¬ b = σ.1 := Nat.ne_of_lt g2
  have hs : sh (newC σ kk len) b = sh σ b := by show up1 _ _ _ b = _; simp only [up1]; rw [if_neg hb]
  have hn : b < sn (newC σ kk len) := Nat.lt_succ_of_lt g2
  simp only [isO, hs, g3, hn, g1, decide_true, Bool.true_and, beq_self_eq_true]
theorem isO_new {k len : Nat} (e : σ1 = newC σ k len) (h : isO σ1 k (sn σ) = true) : isO σ1 k (sn σ) = true := h
theorem ev_aload_nR {r : Option Value} {n : Fin 4} {a : Nat} (j : Nat) (hd : decode M.2.1 pc = .ok (.aload_n n, 1)) (hl : ls[j]? = some ((n : Nat), .ref a)) (k : Ev M d (pc + 1) ls (.ref a :: st) σ r σ') : Ev M d pc ls st σ r σ' := ev_aload_n (o := some a) j hd hl k
theorem ev_aloadR {r : Option Value} {n : Nat} {a : Nat} (j : Nat) (hd : decode M.2.1 pc = .ok (.aload n, 2)) (hl : ls[j]? = some (n, .ref a)) (k : Ev M d (pc + 2) ls (.ref a :: st) σ r σ') : Ev M d pc ls st σ r σ' := ev_aload (o := some a) j hd hl k
theorem ev_astore_nR {r : Option Value} {n : Fin 4} {a : Nat} {ls' : List (Nat × Value)} (hd : decode M.2.1 pc = .ok (.astore_n n, 1)) (hn : (n : Nat) < M.2.2.1) (hl : ((n : Nat), Value.ref a) :: ls.filter (fun q => !(q.1 == (n : Nat)) && !(q.1 + 1 == (n : Nat) && q.2.category == 2)) = ls') (k : Ev M d (pc + 1) ls' st σ r σ') : Ev M d pc ls (.ref a :: st) σ r σ' := ev_astore_n (o := some a) hd hn hl k
theorem ev_astoreR {r : Option Value} {n : Nat} {a : Nat} {ls' : List (Nat × Value)} (hd : decode M.2.1 pc = .ok (.astore n, 2)) (hn : n < M.2.2.1) (hl : (n, Value.ref a) :: ls.filter (fun q => !(q.1 == n) && !(q.1 + 1 == n && q.2.category == 2)) = ls') (k : Ev M d (pc + 2) ls' st σ r σ') : Ev M d pc ls (.ref a :: st) σ r σ' := ev_astore (o := some a) hd hn hl k
theorem ev_getPR {r : Option Value} {i k j a b : Nat} (hd : decode M.2.1 pc = .ok (.getfield i, 3)) (hf : FL M.1.cls i k j) (hc : fcat (kty k j) = 2) (ho : isO σ k a = true) (hv : sP σ a j = some b) (kk : Ev M d (pc + 3) ls (.ref b :: st) σ r σ') : Ev M d pc ls (.ref a :: st) σ r σ' := ev_getP (o := some b) hd hf hc ho hv kk
theorem ev_putPR {r : Option Value} {i k j a b : Nat} (hd : decode M.2.1 pc = .ok (.putfield i, 3)) (hf : FL M.1.cls i k j) (hc : fcat (kty k j) = 2) (hfin : (kT k j).2.2.2 = false ∨ (M.1.name = "<init>" ∧ (kT k j).1 = M.1.cls)) (ho : isO σ k a = true) (kk : Ev M d (pc + 3) ls st (setP σ a j (some b)) r σ') : Ev M d pc ls (.ref b :: .ref a :: st) σ r σ' := ev_putP (o := some b) hd hf hc hfin ho kk
theorem ev_newR {r : Option Value} {i k a : Nat} (hd : decode M.2.1 pc = .ok (.new i, 3)) (hK : KF k) (hlk : Cond.classLink M.1.cls i (kR k) ∈ gtbl) (hin : Cond.instantiable (kR k) (kN k) ∈ gtbl) (hini : Cond.initialized (kR k) ∈ gtbl) (ha : a = sn σ) (kk : Ev M d (pc + 3) ls (.ref a :: st) (newC σ k (kN k)) r σ') : Ev M d pc ls st σ r σ' := by subst ha; exact ev_new hd hK hlk hin hini kk
theorem ev_newaR {r : Option Value} {k a : Nat} {at' : ArrayType} {n : Int32} (hd : decode M.2.1 pc = .ok (.newarray at', 2)) (hk : k = 12 ∧ at' = .char ∨ k = 13 ∧ at' = .int ∨ k = 14 ∧ at' = .long) (hcl : Cond.arrayClass (newarray.typeOf at') ∈ gtbl) (hn : inR n 1000001 = true) (ha : a = sn σ) (kk : Ev M d (pc + 2) ls (.ref a :: st) (newC σ k n.toNatClampNeg) r σ') : Ev M d pc ls (.int n :: st) σ r σ' := by
  subst ha
  have h := inR_spec hn
  exact ev_newa hd hk hcl (fun q => h.1 (Or.inl q)) (by omega) kk
theorem ev_anewR {r : Option Value} {k ko i a : Nat} {n : Int32} (hd : decode M.2.1 pc = .ok (.anewarray i, 3)) (hk : k = 16 ∧ ko = 1 ∨ k = 17 ∧ ko = 6) (hlk : Cond.classLink M.1.cls i (kR ko) ∈ gtbl) (hn : inR n 1000001 = true) (ha : a = sn σ) (kk : Ev M d (pc + 3) ls (.ref a :: st) (newC σ k n.toNatClampNeg) r σ') : Ev M d pc ls (.int n :: st) σ r σ' := by
  subst ha
  have h := inR_spec hn
  exact ev_anew hd hk hlk (fun q => h.1 (Or.inl q)) (by omega) kk
theorem ev_aastR {r : Option Value} {k ko a v : Nat} {i : Int32} (hd : decode M.2.1 pc = .ok (.aastore, 1)) (hk : (k = 16 ∧ ko = 1) ∨ (k = 17 ∧ ko = 6)) (ha : 1 ≤ a) (ho : isA σ k a = true) (hi : inR i (alen σ a) = true) (hv : isO σ ko v = true) (kk : Ev M d (pc + 1) ls st (setP σ a i.toNatClampNeg (some v)) r σ') : Ev M d pc ls (.ref v :: .int i :: .ref a :: st) σ r σ' := ev_aast hd hk ha ho hi hv kk
theorem ev_retI {x r : Int32} (ty : FieldType) (hd : decode M.2.1 pc = .ok (.ireturn, 1)) (hM : M.2.2.2 = some ty) (hn : narrow ty (.int x) = .int x) (h : some (x, σ) = some (r, σ')) : Ev M d pc ls [.int x] σ (some (.int r)) σ' := by
  injection h with h; injection h with h1 h2; subst h1; subst h2
  exact ev_ret (r := some (.int x)) hd ⟨ty, hM, hn⟩
theorem ev_retL {x r : Int64} (hd : decode M.2.1 pc = .ok (.lreturn, 1)) (hM : M.2.2.2 = some .long) (h : some (x, σ) = some (r, σ')) : Ev M d pc ls [.long x] σ (some (.long r)) σ' := by
  injection h with h; injection h with h1 h2; subst h1; subst h2
  exact ev_ret (r := some (.long x)) hd hM
theorem ev_retV {r : Unit} (hd : decode M.2.1 pc = .ok (.return_, 1)) (hM : M.2.2.2 = none) (h : some ((), σ) = some (r, σ')) : Ev M d pc ls [] σ none σ' := by
  injection h with h; injection h with h1 h2; subst h2
  exact ev_ret (r := none) hd hM
theorem ev_retQ {x r : Option Nat} (ty : FieldType) (hd : decode M.2.1 pc = .ok (.areturn, 1)) (hM : M.2.2.2 = some ty) (hty : (∃ n, ty = .object n) ∨ ∃ t, ty = .array t) (h : some (x, σ) = some (r, σ')) : Ev M d pc ls [va_rf x] σ (some (va_rf r)) σ' := by
  injection h with h; injection h with h1 h2; subst h1; subst h2
  cases x with
  | none => exact ev_ret (r := some .null) hd ⟨⟨ty, hM, hty⟩, Or.inl rfl⟩
  | some a => exact ev_ret (r := some (.ref a)) hd ⟨⟨ty, hM, hty⟩, Or.inr ⟨a, rfl⟩⟩
theorem nz_of {x : Int32} (h : zok x = true) : narrow .boolean (.int x) = .int x ∧ fits .boolean (.int x) = true ∧ vp_nar .boolean x = x := by
  simp only [zok, Bool.or_eq_true, decide_eq_true_eq] at h
  rcases h with rfl | rfl <;> exact ⟨rfl, rfl, rfl⟩
theorem nc_of {x : Int32} (h : chok x = true) : narrow .char (.int x) = .int x := by
  simp only [chok, decide_eq_true_eq] at h
  show Value.int _ = _
  exact congrArg Value.int h
theorem ev_invVi {r : Option Value} {k b : Nat} {v : Int32} (hd : decode M.2.1 pc = .ok (.invokevirtual i, 3)) (hb : CalB M2 n) (hlk : Cond.methodLink M.1.cls i M2.1 ∈ gtbl) (hin : Cond.instanceMethod M2.1 ∈ gtbl) (hsel : Cond.selects M2.1.cls M2.1 M2.1 ∈ gtbl) (hK : KF k) (hkc : kR k = M2.1.cls) (hdd : d2 + 1 ≤ d)
    (ho : isO σ k b = true) (hn : As.length = n) (hst : st0 = As.reverse ++ .ref b :: st) (hw : (st.map fun v => v.category).sum ≤ 8) (hx : Ex M2 d2 (.ref b :: As) σ (some (.int v)) σ1) (kk : Ev M d (pc + 3) ls ((.int v) :: st) σ1 r σ') : Ev M d pc ls st0 σ r σ' := ev_invV hd hb hlk hin hsel hK hkc hdd ho hn hst hw hx kk
theorem ev_invSi {r : Option Value} {v : Int32} (hd : decode M.2.1 pc = .ok (.invokestatic i, 3)) (hb : CalB M2 n) (hlk : Cond.methodLink M.1.cls i M2.1 ∈ gtbl) (hin : Cond.static M2.1 ∈ gtbl) (hdd : d2 + 1 ≤ d)
    (hn : As.length = n) (hst : st0 = As.reverse ++ st) (hw : (st.map fun v => v.category).sum ≤ 8) (hx : Ex M2 d2 As σ (some (.int v)) σ1) (kk : Ev M d (pc + 3) ls ((.int v) :: st) σ1 r σ') : Ev M d pc ls st0 σ r σ' := ev_invS hd hb hlk hin hdd hn hst hw hx kk
theorem ev_invSNi {r : Option Value} {host : String} {v : Int32} (hd : decode M.2.1 pc = .ok (.invokestatic i, 3)) (hb : CalB M2 n) (hlk : Cond.methodLinkNest M.1.cls i M2.1 host ∈ nests) (hin : Cond.static M2.1 ∈ gtbl) (hdd : d2 + 1 ≤ d)
    (hn : As.length = n) (hst : st0 = As.reverse ++ st) (hw : (st.map fun v => v.category).sum ≤ 8) (hx : Ex M2 d2 As σ (some (.int v)) σ1) (kk : Ev M d (pc + 3) ls ((.int v) :: st) σ1 r σ') : Ev M d pc ls st0 σ r σ' := ev_invSN hd hb hlk hin hdd hn hst hw hx kk
theorem ev_invVl {r : Option Value} {k b : Nat} {v : Int64} (hd : decode M.2.1 pc = .ok (.invokevirtual i, 3)) (hb : CalB M2 n) (hlk : Cond.methodLink M.1.cls i M2.1 ∈ gtbl) (hin : Cond.instanceMethod M2.1 ∈ gtbl) (hsel : Cond.selects M2.1.cls M2.1 M2.1 ∈ gtbl) (hK : KF k) (hkc : kR k = M2.1.cls) (hdd : d2 + 1 ≤ d)
    (ho : isO σ k b = true) (hn : As.length = n) (hst : st0 = As.reverse ++ .ref b :: st) (hw : (st.map fun v => v.category).sum ≤ 8) (hx : Ex M2 d2 (.ref b :: As) σ (some (.long v)) σ1) (kk : Ev M d (pc + 3) ls ((.long v) :: st) σ1 r σ') : Ev M d pc ls st0 σ r σ' := ev_invV hd hb hlk hin hsel hK hkc hdd ho hn hst hw hx kk
theorem ev_invSl {r : Option Value} {v : Int64} (hd : decode M.2.1 pc = .ok (.invokestatic i, 3)) (hb : CalB M2 n) (hlk : Cond.methodLink M.1.cls i M2.1 ∈ gtbl) (hin : Cond.static M2.1 ∈ gtbl) (hdd : d2 + 1 ≤ d)
    (hn : As.length = n) (hst : st0 = As.reverse ++ st) (hw : (st.map fun v => v.category).sum ≤ 8) (hx : Ex M2 d2 As σ (some (.long v)) σ1) (kk : Ev M d (pc + 3) ls ((.long v) :: st) σ1 r σ') : Ev M d pc ls st0 σ r σ' := ev_invS hd hb hlk hin hdd hn hst hw hx kk
theorem ev_invSNl {r : Option Value} {host : String} {v : Int64} (hd : decode M.2.1 pc = .ok (.invokestatic i, 3)) (hb : CalB M2 n) (hlk : Cond.methodLinkNest M.1.cls i M2.1 host ∈ nests) (hin : Cond.static M2.1 ∈ gtbl) (hdd : d2 + 1 ≤ d)
    (hn : As.length = n) (hst : st0 = As.reverse ++ st) (hw : (st.map fun v => v.category).sum ≤ 8) (hx : Ex M2 d2 As σ (some (.long v)) σ1) (kk : Ev M d (pc + 3) ls ((.long v) :: st) σ1 r σ') : Ev M d pc ls st0 σ r σ' := ev_invSN hd hb hlk hin hdd hn hst hw hx kk
theorem ev_invVq {r : Option Value} {k b : Nat} {v : Option Nat} (hd : decode M.2.1 pc = .ok (.invokevirtual i, 3)) (hb : CalB M2 n) (hlk : Cond.methodLink M.1.cls i M2.1 ∈ gtbl) (hin : Cond.instanceMethod M2.1 ∈ gtbl) (hsel : Cond.selects M2.1.cls M2.1 M2.1 ∈ gtbl) (hK : KF k) (hkc : kR k = M2.1.cls) (hdd : d2 + 1 ≤ d)
    (ho : isO σ k b = true) (hn : As.length = n) (hst : st0 = As.reverse ++ .ref b :: st) (hw : (st.map fun v => v.category).sum ≤ 8) (hx : Ex M2 d2 (.ref b :: As) σ (some (va_rf v)) σ1) (kk : Ev M d (pc + 3) ls ((va_rf v) :: st) σ1 r σ') : Ev M d pc ls st0 σ r σ' := ev_invV hd hb hlk hin hsel hK hkc hdd ho hn hst hw hx kk
theorem ev_invSq {r : Option Value} {v : Option Nat} (hd : decode M.2.1 pc = .ok (.invokestatic i, 3)) (hb : CalB M2 n) (hlk : Cond.methodLink M.1.cls i M2.1 ∈ gtbl) (hin : Cond.static M2.1 ∈ gtbl) (hdd : d2 + 1 ≤ d)
    (hn : As.length = n) (hst : st0 = As.reverse ++ st) (hw : (st.map fun v => v.category).sum ≤ 8) (hx : Ex M2 d2 As σ (some (va_rf v)) σ1) (kk : Ev M d (pc + 3) ls ((va_rf v) :: st) σ1 r σ') : Ev M d pc ls st0 σ r σ' := ev_invS hd hb hlk hin hdd hn hst hw hx kk
theorem ev_invSNq {r : Option Value} {host : String} {v : Option Nat} (hd : decode M.2.1 pc = .ok (.invokestatic i, 3)) (hb : CalB M2 n) (hlk : Cond.methodLinkNest M.1.cls i M2.1 host ∈ nests) (hin : Cond.static M2.1 ∈ gtbl) (hdd : d2 + 1 ≤ d)
    (hn : As.length = n) (hst : st0 = As.reverse ++ st) (hw : (st.map fun v => v.category).sum ≤ 8) (hx : Ex M2 d2 As σ (some (va_rf v)) σ1) (kk : Ev M d (pc + 3) ls ((va_rf v) :: st) σ1 r σ') : Ev M d pc ls st0 σ r σ' := ev_invSN hd hb hlk hin hdd hn hst hw hx kk
theorem ev_invVv {r : Option Value} {k b : Nat}  (hd : decode M.2.1 pc = .ok (.invokevirtual i, 3)) (hb : CalB M2 n) (hlk : Cond.methodLink M.1.cls i M2.1 ∈ gtbl) (hin : Cond.instanceMethod M2.1 ∈ gtbl) (hsel : Cond.selects M2.1.cls M2.1 M2.1 ∈ gtbl) (hK : KF k) (hkc : kR k = M2.1.cls) (hdd : d2 + 1 ≤ d)
    (ho : isO σ k b = true) (hn : As.length = n) (hst : st0 = As.reverse ++ .ref b :: st) (hw : (st.map fun v => v.category).sum ≤ 8) (hx : Ex M2 d2 (.ref b :: As) σ none σ1) (kk : Ev M d (pc + 3) ls st σ1 r σ') : Ev M d pc ls st0 σ r σ' := ev_invV hd hb hlk hin hsel hK hkc hdd ho hn hst hw hx kk
theorem ev_invSv {r : Option Value}  (hd : decode M.2.1 pc = .ok (.invokestatic i, 3)) (hb : CalB M2 n) (hlk : Cond.methodLink M.1.cls i M2.1 ∈ gtbl) (hin : Cond.static M2.1 ∈ gtbl) (hdd : d2 + 1 ≤ d)
    (hn : As.length = n) (hst : st0 = As.reverse ++ st) (hw : (st.map fun v => v.category).sum ≤ 8) (hx : Ex M2 d2 As σ none σ1) (kk : Ev M d (pc + 3) ls st σ1 r σ') : Ev M d pc ls st0 σ r σ' := ev_invS hd hb hlk hin hdd hn hst hw hx kk
theorem ev_invSNv {r : Option Value} {host : String}  (hd : decode M.2.1 pc = .ok (.invokestatic i, 3)) (hb : CalB M2 n) (hlk : Cond.methodLinkNest M.1.cls i M2.1 host ∈ nests) (hin : Cond.static M2.1 ∈ gtbl) (hdd : d2 + 1 ≤ d)
    (hn : As.length = n) (hst : st0 = As.reverse ++ st) (hw : (st.map fun v => v.category).sum ≤ 8) (hx : Ex M2 d2 As σ none σ1) (kk : Ev M d (pc + 3) ls st σ1 r σ') : Ev M d pc ls st0 σ r σ' := ev_invSN hd hb hlk hin hdd hn hst hw hx kk
theorem ev_mmax {r : Option Value} {x y : Int32} (hd : decode M.2.1 pc = .ok (.invokestatic i, 3)) (hlk : Cond.methodLink M.1.cls i Lib.Math.max.name ∈ gtbl) (hst : Cond.static Lib.Math.max.name ∈ gtbl) (hini : Cond.initialized "java/lang/Math" ∈ gtbl) (hco : Cond.code Lib.Math.max.name Lib.Math.max.code 2 (some .int) ∈ gtbl) (hd1 : 1 ≤ d) (hw : (st.map fun v => v.category).sum ≤ 8) (kk : Ev M d (pc + 3) ls (.int (if x < y then y else x) :: st) σ r σ') : Ev M d pc ls (.int y :: .int x :: st) σ r σ' := by
  refine ev_hp (σ1 := σ) (Nat.le_refl _) (Nat.le_refl _) (fun G p l e R s m args below meth c H locs cells slots Q ar hF hT hR hl hL hr w => ?_) kk
  have w2 := w H locs hR hL
  rw [Nat.sub_self, Nat.sub_self] at w2 hr
  exact va_mmax hF.hx hF.hb (hF.hml.trans hl.1.symm) hF.hown (hF.hts _ hlk) (hF.hts _ hst) (hF.hts _ hini) (hF.hts _ hco) (Nat.le_trans hd1 hr.1) (by rw [cat_sum]; omega) hr.2.2.1 hr.2.2.2 hd w2
theorem ev_mmin {r : Option Value} {x y : Int32} (hd : decode M.2.1 pc = .ok (.invokestatic i, 3)) (hlk : Cond.methodLink M.1.cls i Lib.Math.min.name ∈ gtbl) (hst : Cond.static Lib.Math.min.name ∈ gtbl) (hini : Cond.initialized "java/lang/Math" ∈ gtbl) (hco : Cond.code Lib.Math.min.name Lib.Math.min.code 2 (some .int) ∈ gtbl) (hd1 : 1 ≤ d) (hw : (st.map fun v => v.category).sum ≤ 8) (kk : Ev M d (pc + 3) ls (.int (if y < x then y else x) :: st) σ r σ') : Ev M d pc ls (.int y :: .int x :: st) σ r σ' := by
  refine ev_hp (σ1 := σ) (Nat.le_refl _) (Nat.le_refl _) (fun G p l e R s m args below meth c H locs cells slots Q ar hF hT hR hl hL hr w => ?_) kk
  have w2 := w H locs hR hL
  rw [Nat.sub_self, Nat.sub_self] at w2 hr
  exact va_mmin hF.hx hF.hb (hF.hml.trans hl.1.symm) hF.hown (hF.hts _ hlk) (hF.hts _ hst) (hF.hts _ hini) (hF.hts _ hco) (Nat.le_trans hd1 hr.1) (by rw [cat_sum]; omega) hr.2.2.1 hr.2.2.2 hd w2
theorem ev_mminL {r : Option Value} {x y : Int64} (hd : decode M.2.1 pc = .ok (.invokestatic i, 3)) (hlk : Cond.methodLink M.1.cls i Lib.MathLoose.min_long.x ∈ gtbl) (hst : Cond.static Lib.MathLoose.min_long.x ∈ gtbl) (hini : Cond.initialized "java/lang/Math" ∈ gtbl) (hco : Cond.code Lib.MathLoose.min_long.x Lib.MathLoose.min_long.code 4 (some .long) ∈ gtbl) (hd1 : 1 ≤ d) (hw : (st.map fun v => v.category).sum ≤ 8) (kk : Ev M d (pc + 3) ls (.long (if y < x then y else x) :: st) σ r σ') : Ev M d pc ls (.long y :: .long x :: st) σ r σ' := by
  refine ev_hp (σ1 := σ) (Nat.le_refl _) (Nat.le_refl _) (fun G p l e R s m args below meth c H locs cells slots Q ar hF hT hR hl hL hr w => ?_) kk
  have w2 := w H locs hR hL
  rw [Nat.sub_self, Nat.sub_self] at w2 hr
  exact va_mmin_long hF.hx hF.hb (hF.hml.trans hl.1.symm) hF.hown (hF.hts _ hlk) (hF.hts _ hst) (hF.hts _ hini) (hF.hts _ hco) (Nat.le_trans hd1 hr.1) (by rw [cat_sum]; omega) hr.2.2.1 hr.2.2.2 hd w2
end EVW
