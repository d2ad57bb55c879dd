/-! new objects and arrays; calls; a method's contract -/
def dfl (n : Nat) : Value := if n = 1 then .long 0 else if n = 2 then .null else .int 0
theorem dv_ok : ∀ k, k < 12 → ∀ j, j < kN k → defaultValue (kty k j) = dfl (fcat (kty k j)) := by decide +kernel
section EVN
variable {M : MI} {d pc : Nat} {ls : List (Nat × Value)} {st : List Value} {σ σ' : St} {r : Option Value}
theorem ev_new {i k : Nat} (hd : decode M.2.1 pc = .ok (.new i, 3)) (hK : KF k) (hlk : Cond.classLink M.1.cls i (kR k) ∈ gtbl) (hin : Cond.instantiable (kR k) (kN k) ∈ gtbl) (hini : Cond.initialized (kR k) ∈ gtbl) (kk : Ev M d (pc + 3) ls (va_rf (some (sn σ)) :: st) (newC σ k (kN k)) r σ') : Ev M d pc ls st σ r σ' := by
  refine ev_hp (σ1 := newC σ k (kN k)) (Nat.le_succ _) (Nat.le_add_right _ _) (fun G p l e R s m args below meth c H locs cells slots Q ar hF hT hR hl hL hr w => ?_) kk
  obtain ⟨h1, h2, h3, h4, h5⟩ := hK
  have hKn := hT.1.1 k _ h1
  have e1 : sn (newC σ k (kN k)) - sn σ = 1 := by show sn σ + 1 - sn σ = 1; omega
  have e2 : sz (newC σ k (kN k)) - sz σ = kN k := by show sz σ + kN k - sz σ = kN k; omega
  rw [e1, e2] at hr w
  refine W.newcK hF.hx hF.hb hF.hown (hF.hts _ hlk) (hF.hts _ hin) (hF.hts _ hini) rfl hd hr.2.2.1 hr.2.2.2 hKn.2.1 rfl fun H1 kC hkC g1 z1 o1 => ?_
  have hal : al G (sn σ) = H.size := by rw [hR.1, al_pos hR.2.1]
  have hs : sh (newC σ k (kN k)) (sn σ) = (k, kN k) := by show up1 _ _ _ _ = _; simp [up1]
  have hb := u_born (kty k) hF.hts h2 hKn hkC g1 h3
  have w2 := w H1 locs (rep_new hR z1 o1 (Or.inl ⟨by rw [hs]; exact h5, by
    rw [hs, hal]
    refine hb.to (fun j hj => ?_)
    rw [dv_ok k h5 j hj]
    unfold fval dfl
    by_cases f1 : fcat (kty k j) = 1
    · rw [if_pos f1, if_pos f1]; show _ = Value.long (row0 _ _ _ _ _); simp [row0]
    · rw [if_neg f1, if_neg f1]
      by_cases f2 : fcat (kty k j) = 2
      · rw [if_pos f2, if_pos f2]; show _ = va_rf (Option.map _ (row0 _ _ _ _ _)); simp [row0, va_rf]
      · rw [if_neg f2, if_neg f2]; show _ = Value.int (row0 _ _ _ _ _); simp [row0]⟩)) hL
  have e3 : (va_rf (some (sn σ)) :: st).map (cv G) = .ref H.size :: st.map (cv G) := by
    show cv G (.ref (sn σ)) :: _ = _
    show Value.ref (al G (sn σ)) :: _ = _
    rw [hal]
  rw [e3] at w2
  exact w2
theorem ev_newa {k : Nat} {at' : ArrayType} {n : Int32} (hd : decode M.2.1 pc = .ok (.newarray at', 2)) (hk : k = 12 ∧ at' = .char ∨ k = 13 ∧ at' = .int ∨ k = 14 ∧ at' = .long ∨ k = 15 ∧ at' = .boolean) (hcl : Cond.arrayClass (newarray.typeOf at') ∈ gtbl) (hn : ¬ n < 0) (hb : n.toNatClampNeg ≤ 1000000) (kk : Ev M d (pc + 2) ls (va_rf (some (sn σ)) :: st) (newC σ k n.toNatClampNeg) r σ') : Ev M d pc ls (.int n :: st) σ r σ' := by
  refine ev_hp (σ1 := newC σ k n.toNatClampNeg) (Nat.le_succ _) (Nat.le_add_right _ _) (fun G p l e R s m args below meth c H locs cells slots Q ar hF hT hR hl hL hr w => ?_) kk
  have e1 : sn (newC σ k n.toNatClampNeg) - sn σ = 1 := by show sn σ + 1 - sn σ = 1; omega
  have e2 : sz (newC σ k n.toNatClampNeg) - sz σ = n.toNatClampNeg := by show sz σ + n.toNatClampNeg - sz σ = n.toNatClampNeg; omega
  rw [e1, e2] at hr w
  have hk12 : 12 ≤ k ∧ k < 18 := by omega
  have hty : newarray.typeOf at' = aty k := by rcases hk with ⟨rfl, rfl⟩ | ⟨rfl, rfl⟩ | ⟨rfl, rfl⟩ | ⟨rfl, rfl⟩ <;> rfl
  refine va_newaK hF.hx hF.hb (hF.hts _ hcl) rfl hd rfl hn rfl (by
    have h8 : componentBytes (newarray.typeOf at') ≤ 8 := by rcases hk with ⟨rfl, rfl⟩ | ⟨rfl, rfl⟩ | ⟨rfl, rfl⟩ | ⟨rfl, rfl⟩ <;> decide
    calc n.toNatClampNeg * componentBytes (newarray.typeOf at') ≤ 1000000 * 8 := Nat.mul_le_mul hb h8
      _ ≤ 536870912 := by decide) hr.2.2.1 hr.2.2.2 rfl fun H1 cA g1 z1 o1 hAr hNm => ?_
  have hal : al G (sn σ) = H.size := by rw [hR.1, al_pos hR.2.1]
  have hs : sh (newC σ k n.toNatClampNeg) (sn σ) = (k, n.toNatClampNeg) := by show up1 _ _ _ _ = _; simp [up1]
  have hcA : cA = G.2.1 k := by
    have hra := (tys_at hT hk12.1 hk12.2).2
    rw [hty] at hNm
    have : s.vm.findClass ("[" ++ (aty k).toString) = some (G.2.1 k) := by
      rcases hk with ⟨rfl, rfl⟩ | ⟨rfl, rfl⟩ | ⟨rfl, rfl⟩ | ⟨rfl, rfl⟩ <;> exact hra
    exact Option.some.inj (hNm.symm.trans this)
  subst hcA
  have w2 := w H1 locs (rep_new hR z1 o1 (Or.inr ⟨by rw [hs]; exact hk12.1, by rw [hs]; exact hk12.2, by
    rw [hs, hal, g1, acell_arrV]
    have hl : alen (newC σ k n.toNatClampNeg) (sn σ) = n.toNatClampNeg := by unfold alen; rw [hs]
    rw [hl]
    congr 2
    funext j
    rw [hty]
    unfold elt
    rcases hk with ⟨rfl, rfl⟩ | ⟨rfl, rfl⟩ | ⟨rfl, rfl⟩ | ⟨rfl, rfl⟩
    · show _ = Value.int (row0 _ _ _ _ _); simp [row0]; rfl
    · show _ = Value.int (row0 _ _ _ _ _); simp [row0]; rfl
    · show _ = Value.long (row0 _ _ _ _ _); simp [row0]; rfl
    · show _ = Value.int (row0 _ _ _ _ _); simp [row0]; rfl⟩)) hL
  have e3 : (va_rf (some (sn σ)) :: st).map (cv G) = .ref H.size :: st.map (cv G) := by
    show Value.ref (al G (sn σ)) :: _ = _
    rw [hal]
  rw [e3] at w2
  exact w2
theorem ev_anew {k ko i : Nat} {n : Int32} (hd : decode M.2.1 pc = .ok (.anewarray i, 3)) (hk : k = 16 ∧ ko = 1 ∨ k = 17 ∧ ko = 6) (hlk : Cond.classLink M.1.cls i (kR ko) ∈ gtbl) (hn : ¬ n < 0) (hb : n.toNatClampNeg ≤ 1000000) (kk : Ev M d (pc + 3) ls (va_rf (some (sn σ)) :: st) (newC σ k n.toNatClampNeg) r σ') : Ev M d pc ls (.int n :: st) σ r σ' := by
  refine ev_hp (σ1 := newC σ k n.toNatClampNeg) (Nat.le_succ _) (Nat.le_add_right _ _) (fun G p l e R s m args below meth c H locs cells slots Q ar hF hT hR hl hL hr w => ?_) kk
  have e1 : sn (newC σ k n.toNatClampNeg) - sn σ = 1 := by show sn σ + 1 - sn σ = 1; omega
  have e2 : sz (newC σ k n.toNatClampNeg) - sz σ = n.toNatClampNeg := by show sz σ + n.toNatClampNeg - sz σ = n.toNatClampNeg; omega
  rw [e1, e2] at hr w
  have hk12 : 12 ≤ k ∧ k < 18 := by omega
  have hao : va_AO (kR ko) s := by rcases hk with ⟨rfl, rfl⟩ | ⟨rfl, rfl⟩; exact hT.2.1; exact hT.2.2.1
  have hty : aty k = .object (kR ko) := by rcases hk with ⟨rfl, rfl⟩ | ⟨rfl, rfl⟩ <;> rfl
  refine W.anew hF.hx hF.hb hF.hown (hF.hts _ hlk) (va_AO.use hao) rfl hd rfl hn (by omega) hr.2.2.1 hr.2.2.2 fun cA kA comp f1 f2 f3 f4 => ?_
  generalize hH1 : H.push ({ cls := cA, slots := Array.replicate n.toNatClampNeg .null, vm := .none } : Cell) = H1
  have z1 : H1.size = H.size + 1 := by rw [← hH1, Array.size_push]
  have g1 : H1[H.size]? = some (arrV cA n.toNatClampNeg (fun _ => .null)) := by rw [← hH1, Array.getElem?_push_size, ← arrV_new]
  have o1 : ∀ q : Nat, q < H.size → H1[q]? = H[q]? := fun q hq => by rw [← hH1, Array.getElem?_push, if_neg (Nat.ne_of_lt hq)]
  have hal : al G (sn σ) = H.size := by rw [hR.1, al_pos hR.2.1]
  have hs : sh (newC σ k n.toNatClampNeg) (sn σ) = (k, n.toNatClampNeg) := by show up1 _ _ _ _ = _; simp [up1]
  have hcA : cA = G.2.1 k := by
    have hra := (tys_at hT hk12.1 hk12.2).2
    rw [hty] at hra
    obtain ⟨_, _, _, _, _, q4⟩ := hra
    exact Option.some.inj (f1.symm.trans q4)
  subst hcA
  have w2 := w H1 locs (rep_new hR z1 o1 (Or.inr ⟨by rw [hs]; exact hk12.1, by rw [hs]; exact hk12.2, by
    rw [hs, hal, g1, acell_arrV]
    have hl : alen (newC σ k n.toNatClampNeg) (sn σ) = n.toNatClampNeg := by unfold alen; rw [hs]
    rw [hl]
    congr 2
    funext j
    unfold elt
    rw [if_neg (by omega), if_pos (by omega)]
    show _ = va_rf (Option.map _ (row0 _ _ _ _ _))
    simp [row0, va_rf]⟩)) hL
  have e3 : (va_rf (some (sn σ)) :: st).map (cv G) = .ref H.size :: st.map (cv G) := by
    show Value.ref (al G (sn σ)) :: _ = _
    rw [hal]
  rw [e3] at w2
  exact w2
end EVN
theorem gt_good {ws : List Cond} (h : ∀ w ∈ ws, w ∈ gtbl) : GoodIn gtbl ws := fun w hw => ⟨h w hw, good_of_word (List.mem_filter.mp (h w hw)).2⟩
/-- what the tables say of a method that is called: its code, its class, how many arguments -/
def CalB (M : MI) (n : Nat) : Prop := Cond.code M.1 M.2.1 M.2.2.1 M.2.2.2 ∈ gtbl ∧ Cond.initialized M.1.cls ∈ gtbl ∧ (M.1.cls ≠ "java/lang/invoke/MethodHandle" ∧ M.1.cls ≠ "java/lang/invoke/VarHandle" ∧ (parseMethodDescriptor M.1.desc).map (fun d => d.parameters.length) = some n) ∧ M.2.2.1 ≤ 21
theorem wd_in {M : MI} {n : Nat} (h : CalB M n) : ∀ w ∈ Wd M, w ∈ gtbl := fun w hw => by
  rcases List.mem_cons.mp hw with rfl | hw
  · exact h.1
  · exact hw
theorem blind {G : GC} {σ : St} {av : List Value} : FrameBlind (va_Pc (av.map (cv G)) (fun U => Rep G σ U U.heap ∧ Tb G U)) := fun a U g mk q => by
  obtain ⟨q0, q1, q2⟩ := q
  exact ⟨q0, Rep.moved (t := U.calling g mk a) (Vm.Alike.refl U.vm) q1, Tb.moved (t := U.calling g mk a) (State.WarmedH.refl U) q2⟩
theorem ev_after {M : MI} {d pc : Nat} {ls : List (Nat × Value)} {st0 st : List Value} {σ σ1 σ' : St} {r r1 : Option Value} (h1 : sn σ ≤ sn σ1) (h2 : sz σ ≤ sz σ1)
    (hrun : ∀ (G : GC) (p : Program) (l : Launch) (e : Env) (R : Room) (s : State) (m : MethodId) (args : Array Value) (below : List Frame) (meth : Method) (c : Code) (H : Heap) (locs : List Loc) (cells slots : Nat) (ar : Array Slot),
      Fx M p s m args meth c → Tb G s → Rep G σ s H → ar.size = M.2.2.1 → d ≤ R.frames ∧ 40 * d ≤ R.locals → (cells + (sn σ1 - sn σ) ≤ R.cells ∧ slots + (sz σ1 - sz σ) ≤ R.slots) →
      va_Run p l e R s m args below meth c H locs cells slots (sn σ1 - sn σ) (sz σ1 - sz σ) (F0 m pc ar (st0.map (cv G))) (st.map (cv G)) (fun _ oc t => oc = .returned (r1.map (cv G)) ∧ Rep G σ1 t t.heap) (fun q => G.2.2.2 < q))
    (kk : Ev M d (pc + 3) ls (r1.toList ++ st) σ1 r σ') : Ev M d pc ls st0 σ r σ' := by
  refine ev_hp h1 h2 (fun G p l e R s m args below meth c H locs cells slots Q ar hF hT hR hl hL hr w => ?_) kk
  intro T hT2 X
  obtain ⟨v, st₀, t, T', L, h0, X', hLf, e1, e2, ⟨hv, hRep⟩, stp⟩ := hrun G p l e R s m args below meth c H locs cells slots ar hF hT hR hl.1 ⟨hr.1, hr.2.1⟩ hr.2.2 T hT2 X
  have hv2 : v = r1.map (cv G) := by injection hv
  subst hv2
  have hal : s.vm.Alike t.vm := by rw [← e2]; exact X'.warmed.alike
  have hRep' : Rep G σ1 s T'.heap := by rw [e1]; exact Rep.moved hal.symm hRep
  obtain ⟨t2, a1, b1⟩ := w T'.heap (locs ++ L) hRep' (fun q hq => by
    rcases List.mem_append.mp hq with hq | hq
    · exact hL q hq
    · exact hLf q hq) T' rfl X'
  refine ⟨t2, stp t2 ?_, b1⟩
  have e3 : (r1.toList ++ st).map (cv G) = (r1.map (cv G)).toList ++ st.map (cv G) := by cases r1 <;> simp
  rw [e3] at a1
  exact a1
section EVC
variable {M M2 : MI} {d d2 pc i n : Nat} {ls : List (Nat × Value)} {st0 st As : List Value} {σ σ1 σ' : St} {r r1 : Option Value}
theorem locals_ok {d d2 x : Nat} (h : d2 + 1 ≤ d) (hx : x ≤ 21) : 8 + (x + 11) + 40 * d2 ≤ 40 * d := by omega
theorem ev_invV {k b : Nat} (hd : decode M.2.1 pc = .ok (.invokevirtual i, 3)) (hb : CalB M2 n) (hlk : Cond.methodLink M.1.cls i M2.1 ∈ gtbl) (hin : Cond.instanceMethod M2.1 ∈ gtbl) (hsel : Cond.selects M2.1.cls M2.1 M2.1 ∈ gtbl) (hK : KF k) (hkc : kR k = M2.1.cls) (hdd : d2 + 1 ≤ d)
    (ho : isO σ k b = true) (hn : As.length = n) (hst : st0 = As.reverse ++ .ref b :: st) (hw : (st.map fun v => v.category).sum ≤ 8) (hx : Ex M2 d2 (.ref b :: As) σ r1 σ1) (kk : Ev M d (pc + 3) ls (r1.toList ++ st) σ1 r σ') : Ev M d pc ls st0 σ r σ' := by
  refine ev_after hx.1 hx.2.1 (fun G p l e R s m args below meth c H locs cells slots ar hF hT hR hz hr hr2 => ?_) kk
  have hM := hx.2.2 l G
  obtain ⟨cell, q1, q2, q3, -⟩ := cell_obj hR ho hK.2.2.2.2
  have hcl : s.vm.findClass M2.1.cls = some cell.cls := by rw [← hkc, q2]; exact (hT.1.1 k _ hK.1).2.1
  have hb1 := isO_spec ho
  refine va_runV (b := al G b) (As := As.map (cv G)) (rest := st.map (cv G)) ⟨hF.hx, hF.hb, hF.hml, hF.hown, hF.hts⟩ hM (cwV n hF.hts (gt_good (fun w hw => ?_)) rfl rfl rfl ⟨rfl, hb.2.2.1⟩ ⟨Nat.le_trans hdd hr.1, Nat.le_trans (locals_ok hdd hb.2.2.2) hr.2⟩) ⟨blind, ⟨cell, q1, by rw [q3]; rfl, hcl⟩, fun U hU hW => ⟨rfl, by rw [hU]; exact Rep.moved hW.alike hR, Tb.moved hW hT⟩⟩ rfl (by rw [List.length_map]; exact hn) hz ?_ (lv_room (by rw [cat_sum]; exact hw)) hd hr2
  · unfold wsV at hw
    rcases List.mem_append.mp hw with hw | hw
    · simp only [List.mem_cons, List.not_mem_nil, or_false] at hw
      rcases hw with rfl | rfl | rfl | rfl
      · exact hlk
      · exact hin
      · exact hsel
      · exact hb.2.1
    · exact wd_in hb w hw
  · subst hst
    show (As.reverse ++ .ref b :: st).map (cv G) = _
    rw [List.map_append, List.map_reverse]
    rfl
theorem ev_invS (hd : decode M.2.1 pc = .ok (.invokestatic i, 3)) (hb : CalB M2 n) (hlk : Cond.methodLink M.1.cls i M2.1 ∈ gtbl) (hin : Cond.static M2.1 ∈ gtbl) (hdd : d2 + 1 ≤ d)
    (hn : As.length = n) (hst : st0 = As.reverse ++ st) (hw : (st.map fun v => v.category).sum ≤ 8) (hx : Ex M2 d2 As σ r1 σ1) (kk : Ev M d (pc + 3) ls (r1.toList ++ st) σ1 r σ') : Ev M d pc ls st0 σ r σ' := by
  refine ev_after hx.1 hx.2.1 (fun G p l e R s m args below meth c H locs cells slots ar hF hT hR hz hr hr2 => ?_) kk
  have hM := hx.2.2 l G
  refine va_runS (As := As.map (cv G)) (rest := st.map (cv G)) ⟨hF.hx, hF.hb, hF.hml, hF.hown, hF.hts⟩ hM (va_cwS n hF.hts (gt_good (fun w hw => ?_)) rfl rfl rfl hb.2.2.1 ⟨Nat.le_trans hdd hr.1, Nat.le_trans (locals_ok hdd hb.2.2.2) hr.2⟩) ⟨blind, fun U hU hW => ⟨rfl, by rw [hU]; exact Rep.moved hW.alike hR, Tb.moved hW hT⟩⟩ rfl (by rw [List.length_map]; exact hn) hz ?_ (lv_room (by rw [cat_sum]; exact hw)) hd hr2
  · unfold va_wsS at hw
    rcases List.mem_append.mp hw with hw | hw
    · simp only [List.mem_cons, List.not_mem_nil, or_false] at hw
      rcases hw with rfl | rfl | rfl
      · exact hlk
      · exact hin
      · exact hb.2.1
    · exact wd_in hb w hw
  · subst hst
    show (As.reverse ++ st).map (cv G) = _
    rw [List.map_append, List.map_reverse]
theorem ev_invSN {host : String} (hd : decode M.2.1 pc = .ok (.invokestatic i, 3)) (hb : CalB M2 n) (hlk : Cond.methodLinkNest M.1.cls i M2.1 host ∈ nests) (hin : Cond.static M2.1 ∈ gtbl) (hdd : d2 + 1 ≤ d)
    (hn : As.length = n) (hst : st0 = As.reverse ++ st) (hw : (st.map fun v => v.category).sum ≤ 8) (hx : Ex M2 d2 As σ r1 σ1) (kk : Ev M d (pc + 3) ls (r1.toList ++ st) σ1 r σ') : Ev M d pc ls st0 σ r σ' := by
  refine ev_after hx.1 hx.2.1 (fun G p l e R s m args below meth c H locs cells slots ar hF hT hR hz hr hr2 => ?_) kk
  have hM := hx.2.2 l G
  refine va_runSN (As := As.map (cv G)) (rest := st.map (cv G)) ⟨hF.hx, hF.hb, hF.hml, hF.hown, hF.hts⟩ hM ⟨va_cnB n hF.hts (gt_good (wd_in hb)) rfl rfl rfl (hT.2.2.2 _ hlk) (hF.hts _ hb.2.1) hb.2.2.1 ⟨Nat.le_trans hdd hr.1, Nat.le_trans (locals_ok hdd hb.2.2.2) hr.2⟩, hF.hts _ hin, trivial⟩ ⟨blind, fun U hU hW => ⟨rfl, by rw [hU]; exact Rep.moved hW.alike hR, Tb.moved hW hT⟩⟩ rfl (by rw [List.length_map]; exact hn) hz ?_ (lv_room (by rw [cat_sum]; exact hw)) hd hr2
  subst hst
  show (As.reverse ++ st).map (cv G) = _
  rw [List.map_append, List.map_reverse]
theorem ev_invI {b : Nat} (hd : decode M.2.1 pc = .ok (.invokespecial i, 3)) (hb : CalB M2 n) (hlk : Cond.methodLink M.1.cls i M2.1 ∈ gtbl) (hin : Cond.instanceMethod M2.1 ∈ gtbl) (hret : M2.2.2.2 = none) (hnm : M2.1.name = "<init>") (hdd : d2 + 1 ≤ d)
    (hn : As.length = n) (hst : st0 = As.reverse ++ .ref b :: st) (hw : (st.map fun v => v.category).sum ≤ 8) (hx : Ex M2 d2 (.ref b :: As) σ r1 σ1) (kk : Ev M d (pc + 3) ls (r1.toList ++ st) σ1 r σ') : Ev M d pc ls st0 σ r σ' := by
  refine ev_after hx.1 hx.2.1 (fun G p l e R s m args below meth c H locs cells slots ar hF hT hR hz hr hr2 => ?_) kk
  have hM := hx.2.2 l G
  refine va_runI (b := al G b) (As := As.map (cv G)) (rest := st.map (cv G)) ⟨hF.hx, hF.hb, hF.hml, hF.hown, hF.hts⟩ hM (cwI (bytes := M2.2.1) (maxL := M2.2.2.1) n hF.hts (gt_good (wd_in hb)) (by show Wd M2 = _; unfold Wd; rw [hret]) rfl rfl (hF.hts _ hb.2.1) (hF.hts _ hlk) (hF.hts _ hin) hnm hb.2.2.1 ⟨Nat.le_trans hdd hr.1, Nat.le_trans (locals_ok hdd hb.2.2.2) hr.2⟩) ⟨blind, fun U hU hW => ⟨rfl, by rw [hU]; exact Rep.moved hW.alike hR, Tb.moved hW hT⟩⟩ rfl (by rw [List.length_map]; exact hn) hz ?_ (lv_room (by rw [cat_sum]; exact hw)) hd hr2
  subst hst
  show (As.reverse ++ .ref b :: st).map (cv G) = _
  rw [List.map_append, List.map_reverse]
  rfl
theorem ev_invIN {b : Nat} {host : String} (hd : decode M.2.1 pc = .ok (.invokespecial i, 3)) (hb : CalB M2 n) (hlk : Cond.methodLinkNest M.1.cls i M2.1 host ∈ nests) (hin : Cond.instanceMethod M2.1 ∈ gtbl) (hret : M2.2.2.2 = none) (hnm : M2.1.name = "<init>") (hdd : d2 + 1 ≤ d)
    (hn : As.length = n) (hst : st0 = As.reverse ++ .ref b :: st) (hw : (st.map fun v => v.category).sum ≤ 8) (hx : Ex M2 d2 (.ref b :: As) σ r1 σ1) (kk : Ev M d (pc + 3) ls (r1.toList ++ st) σ1 r σ') : Ev M d pc ls st0 σ r σ' := by
  refine ev_after hx.1 hx.2.1 (fun G p l e R s m args below meth c H locs cells slots ar hF hT hR hz hr hr2 => ?_) kk
  have hM := hx.2.2 l G
  refine va_runIN (b := al G b) (As := As.map (cv G)) (rest := st.map (cv G)) (bytes := M2.2.1) (maxL := M2.2.2.1) ⟨hF.hx, hF.hb, hF.hml, hF.hown, hF.hts⟩ hM ⟨va_cnB (ret := none) n hF.hts (gt_good (wd_in hb)) (by show Wd M2 = _; unfold Wd; rw [hret]) rfl rfl (hT.2.2.2 _ hlk) (hF.hts _ hb.2.1) hb.2.2.1 ⟨Nat.le_trans hdd hr.1, Nat.le_trans (locals_ok hdd hb.2.2.2) hr.2⟩, hnm, hF.hts _ hin⟩ ⟨blind, fun U hU hW => ⟨rfl, by rw [hU]; exact Rep.moved hW.alike hR, Tb.moved hW hT⟩⟩ rfl (by rw [List.length_map]; exact hn) hz ?_ (lv_room (by rw [cat_sum]; exact hw)) hd hr2
  subst hst
  show (As.reverse ++ .ref b :: st).map (cv G) = _
  rw [List.map_append, List.map_reverse]
  rfl
end EVC
/-! the end of a method, and its contract -/
theorem ev_ret {M : MI} {d pc : Nat} {ls : List (Nat × Value)} {σ : St} {r : Option Value} (hd : decode M.2.1 pc = .ok (RI r, 1)) : Ev M d pc ls r.toList σ r σ := by
  refine ⟨Nat.le_refl _, Nat.le_refl _, fun G p l e R s m args below meth c H locs cells slots Q ar hF hT hR hl hL hr hk => ?_⟩
  have w := hk H locs pc ar hR hL hd
  have e3 : (r.map (cv G)).toList = r.toList.map (cv G) := by cases r <;> rfl
  rw [Nat.sub_self, Nat.sub_self, e3] at w
  exact w
def RetOK (ret : Option FieldType) (r : Option Value) : Prop := match r with
  | none => ret = none
  | some (.int v) => ∃ ty, ret = some ty ∧ narrow ty (.int v) = .int v
  | some (.long _) => ret = some .long
  | some v => (∃ ty, ret = some ty ∧ ((∃ n, ty = .object n) ∨ ∃ t, ty = .array t)) ∧ (v = .null ∨ ∃ a, v = .ref a)
theorem ex_of {M : MI} {d : Nat} {av : List Value} {ls : List (Nat × Value)} {σ σ' : St} {r : Option Value} (hpl : plainName M.1.cls = true) (hls : lv_args 0 av = ls) (hlen : (lg_sl av).length ≤ M.2.2.1) (hret : RetOK M.2.2.2 r) (h : Ev M d 0 ls [] σ r σ') : Ex M d av σ r σ' := by
  refine ⟨h.1, h.2.1, fun l G => ?_⟩
  refine Met.ofW (cc := M.2.1) (maxL := M.2.2.1) (ret := M.2.2.2) hpl rfl ?_
  intro p e s m args below meth c s₁ B hml hv
  obtain ⟨rfl, hRep, hTb⟩ := hv
  have hts := atoms_spec (ws := Wd M) B.pre
  have hF : Fx M p s m (av.map (cv G)).toArray meth c := ⟨B.exec, B.bytes, hml, B.returns, B.notSynchronized, findClass_of_methodNamed B.named, fun w hw => hts w (List.mem_cons_of_mem _ hw), fun hn => ((name_of_methodNamed B.named B.method).1).trans hn⟩
  have hl := lv_entry (av.map (cv G)) (n := M.2.2.1) (by rw [lg_len]; exact hlen)
  rw [lg_entry_eq]
  generalize (lg_sl (av.map (cv G)) ++ List.replicate (M.2.2.1 - (lg_sl (av.map (cv G))).length) Slot.unset).toArray = ar at hl ⊢
  rw [cvl_args, hls] at hl
  refine h.2.2 G p l e _ s m _ below meth c s.heap [] 0 0 _ ar hF hTb hRep hl (fun q hq => by cases hq) ⟨Nat.le_refl _, Nat.le_refl _, by show 0 + _ ≤ _; rw [Nat.zero_add]; exact Nat.le_refl _, by show 0 + _ ≤ _; rw [Nat.zero_add]; exact Nat.le_refl _⟩ (fun H' locs' pc' ar' hR' hL' hd' => ?_)
  rw [Nat.zero_add, Nat.zero_add]
  have fin : ∀ t : State, t.heap = H' → s.WarmedH t.vm → (Outcome.returned (r.map (cv G)) = .returned (r.map (cv G)) ∧ Rep G σ' t t.heap) := fun t ht hW => ⟨rfl, by rw [ht]; exact Rep.moved hW.alike hR'⟩
  match r, hret with
  | none, hret => exact W.vret hF.hx hF.hb (hF.hr.trans hret) fin hL' hd' hF.hlocks
  | some (.int v), hret =>
    obtain ⟨ty, h1, h2⟩ := hret
    exact W.zret hF.hx hF.hb (hF.hr.trans h1) h2 fin hL' hd' hF.hlocks
  | some (.long v), hret => exact W.lret hF.hx hF.hb (hF.hr.trans hret) fin hL' hd' hF.hlocks
  | some .null, hret =>
    obtain ⟨⟨ty, h1, h2⟩, -⟩ := hret
    exact W.aret hF.hx hF.hb (hF.hr.trans h1) h2 (Or.inl rfl) fin hL' hd' hF.hlocks
  | some (.ref a), hret =>
    obtain ⟨⟨ty, h1, h2⟩, -⟩ := hret
    exact W.aret hF.hx hF.hb (hF.hr.trans h1) h2 (Or.inr ⟨_, rfl⟩) fin hL' hd' hF.hlocks
  | some (.float a), hret => obtain ⟨-, h | ⟨_, h⟩⟩ := hret <;> cases h
  | some (.double a), hret => obtain ⟨-, h | ⟨_, h⟩⟩ := hret <;> cases h
  | some (.retAddr a), hret => obtain ⟨-, h | ⟨_, h⟩⟩ := hret <;> cases h
