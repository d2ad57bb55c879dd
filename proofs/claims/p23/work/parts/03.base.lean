/-! the abstract machine: states, how they lie in a heap, the judgements Ev (inside a method) and Ex (a method's contract) -/
abbrev MI : Type := MethodName × ByteArray × Nat × Option FieldType
abbrev St : Type := Nat × Nat × (Nat → Nat × Nat) × (Nat → Nat → Int32) × (Nat → Nat → Int64) × (Nat → Nat → Option Nat)
abbrev sn (σ : St) : Nat := σ.1
abbrev sz (σ : St) : Nat := σ.2.1
abbrev sh (σ : St) : Nat → Nat × Nat := σ.2.2.1
abbrev sI (σ : St) : Nat → Nat → Int32 := σ.2.2.2.1
abbrev sL (σ : St) : Nat → Nat → Int64 := σ.2.2.2.2.1
abbrev sP (σ : St) : Nat → Nat → Option Nat := σ.2.2.2.2.2
def up1 {α : Type} (f : Nat → α) (a : Nat) (v : α) : Nat → α := fun x => if x = a then v else f x
def up2 {α : Type} (f : Nat → Nat → α) (a k : Nat) (v : α) : Nat → Nat → α := fun x y => if x = a ∧ y = k then v else f x y
def row0 {α : Type} (f : Nat → Nat → α) (a : Nat) (v : α) : Nat → Nat → α := fun x y => if x = a then v else f x y
def setI (σ : St) (a k : Nat) (v : Int32) : St := (σ.1, σ.2.1, σ.2.2.1, up2 σ.2.2.2.1 a k v, σ.2.2.2.2.1, σ.2.2.2.2.2)
def setL (σ : St) (a k : Nat) (v : Int64) : St := (σ.1, σ.2.1, σ.2.2.1, σ.2.2.2.1, up2 σ.2.2.2.2.1 a k v, σ.2.2.2.2.2)
def setP (σ : St) (a k : Nat) (v : Option Nat) : St := (σ.1, σ.2.1, σ.2.2.1, σ.2.2.2.1, σ.2.2.2.2.1, up2 σ.2.2.2.2.2 a k v)
def newC (σ : St) (kind len : Nat) : St := (σ.1 + 1, σ.2.1 + len, up1 σ.2.2.1 σ.1 (kind, len), row0 σ.2.2.2.1 σ.1 0, row0 σ.2.2.2.2.1 σ.1 0, row0 σ.2.2.2.2.2 σ.1 none)
def isO (σ : St) (k a : Nat) : Bool := decide (1 ≤ a) && decide (a < sn σ) && (sh σ a).1 == k
def isA (σ : St) (k a : Nat) : Bool := decide (a < sn σ) && (sh σ a).1 == k
def alen (σ : St) (a : Nat) : Nat := (sh σ a).2
def inR (i : Int32) (n : Nat) : Bool := decide (0 ≤ i) && decide (i.toNatClampNeg < n)
def zok (v : Int32) : Bool := decide (v = 0) || decide (v = 1)
def chok (v : Int32) : Bool := decide ((v.toUInt32 % 65536).toInt32 = v)
abbrev GC : Type := va_G × (Nat → ClassId) × Nat × Nat
def al (G : GC) (k : Nat) : Nat := if k = 0 then G.2.2.1 else G.2.2.2 + k
def cv (G : GC) (v : Value) : Value := match v with
  | .ref k => .ref (al G k)
  | v => v
def cvl (G : GC) (q : Nat × Value) : Nat × Value := (q.1, cv G q.2)
def fcat (ty : FieldType) : Nat := match ty with
  | .long => 1
  | .object _ => 2
  | .array _ => 2
  | _ => 0
def fval (G : GC) (σ : St) (k a j : Nat) : Value := if fcat (kty k j) = 1 then .long (sL σ a j) else if fcat (kty k j) = 2 then va_rf ((sP σ a j).map (al G)) else .int (sI σ a j)
def acell (G : GC) (σ : St) (k a : Nat) : vp_A := if k = 14 then (alen σ a, .inr (.inl (sL σ a))) else if k = 16 ∨ k = 17 then (alen σ a, .inr (.inr (.inr (.inr (fun j => (sP σ a j).map (al G)))))) else (alen σ a, .inl (sI σ a))
def aty (k : Nat) : FieldType := if k = 12 then .char else if k = 13 then .int else if k = 14 then .long else if k = 15 then .int else if k = 16 then .object RX1 else .object RX6
def tysOf (G : GC) : List (ClassId × FieldType) := [(G.2.1 12, .char), (G.2.1 13, .int), (G.2.1 14, .long), (G.2.1 15, .int), (G.2.1 16, .object RX1), (G.2.1 17, .object RX6)]
def CellOK (G : GC) (σ : St) (H : Heap) (a : Nat) : Prop :=
  ((sh σ a).1 < 12 ∧ t_OB (al G a) (G.1.1 (sh σ a).1) (kN (sh σ a).1) (G.1.2 (sh σ a).1) H (fval G σ (sh σ a).1 a)) ∨
  (12 ≤ (sh σ a).1 ∧ (sh σ a).1 < 18 ∧ H[al G a]? = some (vp_cell (G.2.1 (sh σ a).1) (acell G σ (sh σ a).1 a)))
def Rep (G : GC) (σ : St) (s : State) (H : Heap) : Prop :=
  H.size = G.2.2.2 + sn σ ∧ 1 ≤ sn σ ∧ G.2.2.1 ≤ G.2.2.2 ∧ ((sh σ 0).1 = 13 ∧ va_X G.2.2.1 (alen σ 0) (sI σ 0) s H) ∧ ∀ a, 1 ≤ a → a < sn σ → CellOK G σ H a
def nests : List Cond := [.methodLinkNest RX10 11 yX7_init RX10, .methodLinkNest RX10 18 yX6_init RX10, .methodLinkNest RX10 29 yX3_init RX10, .methodLinkNest RX10 64 yX8_init RX10, .methodLinkNest RX9 75 yX10_partsOf RX10, .methodLinkNest RX9 78 yX10_nextPart RX10, .methodLinkNest RX0 81 yX10_partsOf RX10, .methodLinkNest RX0 92 yX10_nextPart RX10]
def Tb (G : GC) (s : State) : Prop := va_K G.1 vwCl (tysOf G) s ∧ va_AO RX1 s ∧ va_AO RX6 s ∧ ∀ w ∈ nests, va_Nw w s
def Fx (M : MI) (p : Program) (s : State) (m : MethodId) (args : Array Value) (meth : Method) (c : Code) : Prop :=
  p.tables.exec = Jvm.exec ∧ c.code = M.2.1 ∧ c.maxLocals = M.2.2.1 ∧ meth.sig.returnType = M.2.2.2 ∧ meth.locks = false ∧ s.vm.findClass M.1.cls = some m.cls ∧ (∀ w ∈ gtbl, w.before args s = true) ∧ (M.1.name = "<init>" → meth.name = "<init>")
def RI (r : Option Value) : Instr := match r with
  | none => .return_
  | some (.int _) => .ireturn
  | some (.long _) => .lreturn
  | some _ => .areturn
def RetOK (ret : Option FieldType) (r : Option Value) : Prop := match r with
  | none => ret = none
  | some (.int v) => ∃ ty, ret = some ty ∧ narrow ty (.int v) = .int v
  | some (.long _) => ret = some .long
  | some v => (∃ ty, ret = some ty ∧ ((∃ n, ty = .object n) ∨ ∃ t, ty = .array t)) ∧ (v = .null ∨ ∃ a, v = .ref a)
def Ev (M : MI) (d pc : Nat) (ls : List (Nat × Value)) (st : List Value) (σ : St) (r : Option Value) (σ' : St) : Prop :=
  sn σ ≤ sn σ' ∧ sz σ ≤ sz σ' ∧ ∀ (G : GC) (p : Program) (l : Launch) (e : Env) (R : Room) (s : State) (m : MethodId) (args : Array Value) (below : List Frame) (meth : Method) (c : Code) (H : Heap) (locs : List Loc) (cells slots : Nat) (Q : State → Prop) (ar : Array Slot),
    Fx M p s m args meth c → Tb G s → Rep G σ s H → lv_has ar M.2.2.1 (ls.map (cvl G)) → (∀ q ∈ locs, G.2.2.2 < q.base) →
    (d ≤ R.frames ∧ 40 * d ≤ R.locals ∧ cells + (sn σ' - sn σ) ≤ R.cells ∧ slots + (sz σ' - sz σ) ≤ R.slots) →
    (∀ (H' : Heap) (locs' : List Loc) (pc' : Nat) (ar' : Array Slot), Rep G σ' s H' → (∀ q ∈ locs', G.2.2.2 < q.base) → decode M.2.1 pc' = .ok (RI r, 1) → RetOK M.2.2.2 r →
      W p l e R s m args below meth c H' locs' (cells + (sn σ' - sn σ)) (slots + (sz σ' - sz σ)) Q (F0 m pc' ar' ((r.map (cv G)).toList))) →
    W p l e R s m args below meth c H locs cells slots Q (F0 m pc ar (st.map (cv G)))
def Wd (M : MI) : List Cond := Cond.code M.1 M.2.1 M.2.2.1 M.2.2.2 :: gtbl
def Ex (M : MI) (d : Nat) (av : List Value) (σ : St) (r : Option Value) (σ' : St) : Prop :=
  sn σ ≤ sn σ' ∧ sz σ ≤ sz σ' ∧ ∀ (l : Launch) (G : GC), Met l M.1 (Wd M) ({ frames := d, cells := sn σ' - sn σ, slots := sz σ' - sz σ, locals := 40 * d }) (va_Pc (av.map (cv G)) (fun U => Rep G σ U U.heap ∧ Tb G U)) (fun _ _ oc t => oc = .returned (r.map (cv G)) ∧ Rep G σ' t t.heap) (sn σ' - sn σ) (sz σ' - sz σ) (fun q => G.2.2.2 < q)
/-! plain lemmas -/
theorem al_pos {G : GC} {a : Nat} (h : 1 ≤ a) : al G a = G.2.2.2 + a := by unfold al; rw [if_neg (by omega)]
theorem al_inj {G : GC} {a x : Nat} (hb : G.2.2.1 ≤ G.2.2.2) (h : 1 ≤ a) (hx : x ≠ a) : al G x ≠ al G a := by
  rw [al_pos h]; unfold al; split <;> omega
theorem cv_cat (G : GC) (v : Value) : (cv G v).category = v.category := by cases v <;> rfl
theorem cv_rf (G : GC) (o : Option Nat) : cv G (va_rf o) = va_rf (o.map (al G)) := by cases o <;> rfl
theorem cvl_filt (G : GC) (i : Nat) (ls : List (Nat × Value)) : (ls.map (cvl G)).filter (fun q => !(q.1 == i) && !(q.1 + 1 == i && q.2.category == 2)) = (ls.filter (fun q => !(q.1 == i) && !(q.1 + 1 == i && q.2.category == 2))).map (cvl G) := by
  rw [List.filter_map]
  congr 2
  funext q
  simp [Function.comp, cvl, cv_cat]
theorem cvl_filt2 (G : GC) (i : Nat) (ls : List (Nat × Value)) : (ls.map (cvl G)).filter (fun q => !(q.1 == i) && (!(q.1 == i + 1) && !(q.1 + 1 == i && q.2.category == 2))) = (ls.filter (fun q => !(q.1 == i) && (!(q.1 == i + 1) && !(q.1 + 1 == i && q.2.category == 2)))).map (cvl G) := by
  rw [List.filter_map]
  congr 2
  funext q
  simp [Function.comp, cvl, cv_cat]
theorem cvl_args (G : GC) : ∀ (vs : List Value) (i : Nat), lv_args i (vs.map (cv G)) = (lv_args i vs).map (cvl G)
  | [], _ => rfl
  | v :: vs, i => by
    show (i, cv G v) :: lv_args (if (cv G v).category = 2 then i + 2 else i + 1) (vs.map (cv G)) = _
    rw [cv_cat, cvl_args G vs]
    rfl
theorem lg_len (G : GC) (vs : List Value) : (lg_sl (vs.map (cv G))).length = (lg_sl vs).length := by
  unfold lg_sl
  induction vs with
  | nil => rfl
  | cons v vs ih =>
    simp only [List.map_cons, List.flatMap_cons, List.length_append, cv_cat, ih]
    by_cases h : v.category = 2 <;> simp [h]
theorem cat_sum (G : GC) (st : List Value) : ((st.map (cv G)).map fun v => v.category).sum = (st.map fun v => v.category).sum := by
  rw [List.map_map]
  congr 1
  apply List.map_congr_left
  intro v _
  exact cv_cat G v
theorem Fx.hx {M : MI} {p : Program} {s : State} {m : MethodId} {args : Array Value} {meth : Method} {c : Code} (h : Fx M p s m args meth c) : p.tables.exec = Jvm.exec := h.1
theorem Fx.hb {M : MI} {p : Program} {s : State} {m : MethodId} {args : Array Value} {meth : Method} {c : Code} (h : Fx M p s m args meth c) : c.code = M.2.1 := h.2.1
theorem Fx.hml {M : MI} {p : Program} {s : State} {m : MethodId} {args : Array Value} {meth : Method} {c : Code} (h : Fx M p s m args meth c) : c.maxLocals = M.2.2.1 := h.2.2.1
theorem Fx.hr {M : MI} {p : Program} {s : State} {m : MethodId} {args : Array Value} {meth : Method} {c : Code} (h : Fx M p s m args meth c) : meth.sig.returnType = M.2.2.2 := h.2.2.2.1
theorem Fx.hlocks {M : MI} {p : Program} {s : State} {m : MethodId} {args : Array Value} {meth : Method} {c : Code} (h : Fx M p s m args meth c) : meth.locks = false := h.2.2.2.2.1
theorem Fx.hown {M : MI} {p : Program} {s : State} {m : MethodId} {args : Array Value} {meth : Method} {c : Code} (h : Fx M p s m args meth c) : s.vm.findClass M.1.cls = some m.cls := h.2.2.2.2.2.1
theorem Fx.hts {M : MI} {p : Program} {s : State} {m : MethodId} {args : Array Value} {meth : Method} {c : Code} (h : Fx M p s m args meth c) : ∀ w ∈ gtbl, w.before args s = true := h.2.2.2.2.2.2.1
theorem Rep.moved {G : GC} {σ : St} {s t : State} {H : Heap} (hv : s.vm.Alike t.vm) (h : Rep G σ s H) : Rep G σ t H := ⟨h.1, h.2.1, h.2.2.1, ⟨h.2.2.2.1.1, va_X.moved hv h.2.2.2.1.2⟩, h.2.2.2.2⟩
theorem Tb.moved {G : GC} {s t : State} (hv : s.WarmedH t.vm) (h : Tb G s) : Tb G t := by
  refine ⟨va_K.moved hv.alike h.1, va_AO.moved hv.alike h.2.1, va_AO.moved hv.alike h.2.2.1, fun w hw => ?_⟩
  have h1 := h.2.2.2 w hw
  simp only [nests, List.mem_cons, List.not_mem_nil, or_false] at hw
  rcases hw with rfl | rfl | rfl | rfl | rfl | rfl | rfl | rfl <;> exact va_Nw.warmM hv h1
/-! rows that touch locals and the stack alone -/
theorem ev_pure {M : MI} {d pc pc' : Nat} {ls ls' : List (Nat × Value)} {st st' : List Value} {σ σ' : St} {r : Option Value}
    (h : ∀ (G : GC) (p : Program) (l : Launch) (e : Env) (R : Room) (s : State) (m : MethodId) (args : Array Value) (below : List Frame) (meth : Method) (c : Code) (H : Heap) (locs : List Loc) (cells slots : Nat) (Q : State → Prop) (ar : Array Slot),
      Fx M p s m args meth c → lv_has ar M.2.2.1 (ls.map (cvl G)) → (∀ ar' : Array Slot, lv_has ar' M.2.2.1 (ls'.map (cvl G)) → W p l e R s m args below meth c H locs cells slots Q (F0 m pc' ar' (st'.map (cv G)))) →
      W p l e R s m args below meth c H locs cells slots Q (F0 m pc ar (st.map (cv G))))
    (k : Ev M d pc' ls' st' σ r σ') : Ev M d pc ls st σ r σ' :=
  ⟨k.1, k.2.1, fun G p l e R s m args below meth c H locs cells slots Q ar hF hT hR hl hL hr hk => h G p l e R s m args below meth c H locs cells slots Q ar hF hl (fun ar' hl' => k.2.2 G p l e R s m args below meth c H locs cells slots Q ar' hF hT hR hl' hL hr hk)⟩
section EVP
variable {M : MI} {d pc : Nat} {ls : List (Nat × Value)} {st : List Value} {σ σ' : St} {r : Option Value}
theorem ev_sub {ls' : List (Nat × Value)} (ks : List Nat) (h : lv_pick ls ks = ls') (k : Ev M d pc ls' st σ r σ') : Ev M d pc ls st σ r σ' :=
  ev_pure (fun _ _ _ _ _ _ _ _ _ _ _ _ _ _ _ _ ar hF hl kk => kk ar (lv_sub hl ks (by
    subst h
    unfold lv_pick
    rw [List.map_filterMap]
    congr 1
    funext q
    rw [List.getElem?_map]))) k
theorem ev_iconst {n : Int} {v : Int32} (hd : decode M.2.1 pc = .ok (.iconst n, 1)) (hv : Int32.ofInt n = v) (k : Ev M d (pc + 1) ls (.int v :: st) σ r σ') : Ev M d pc ls st σ r σ' :=
  ev_pure (fun _ _ _ _ _ _ _ _ _ _ _ _ _ _ _ _ ar hF hl kk => lv_iconst hF.hx hF.hb hd hv (kk ar hl)) k
theorem ev_bipush {n : Int} {v : Int32} (hd : decode M.2.1 pc = .ok (.bipush n, 2)) (hv : (Int8.ofInt n).toInt32 = v) (k : Ev M d (pc + 2) ls (.int v :: st) σ r σ') : Ev M d pc ls st σ r σ' :=
  ev_pure (fun _ _ _ _ _ _ _ _ _ _ _ _ _ _ _ _ ar hF hl kk => lv_bipush hF.hx hF.hb hd hv (kk ar hl)) k
theorem ev_sipush {n : Int} {v : Int32} (hd : decode M.2.1 pc = .ok (.sipush n, 3)) (hv : (Int16.ofInt n).toInt32 = v) (k : Ev M d (pc + 3) ls (.int v :: st) σ r σ') : Ev M d pc ls st σ r σ' :=
  ev_pure (fun _ _ _ _ _ _ _ _ _ _ _ _ _ _ _ _ ar hF hl kk => lv_sipush hF.hx hF.hb hd hv (kk ar hl)) k
theorem ev_lconst {n : Fin 2} {v : Int64} (hd : decode M.2.1 pc = .ok (.lconst n, 1)) (hv : Int64.ofNat (n : Nat) = v) (k : Ev M d (pc + 1) ls (.long v :: st) σ r σ') : Ev M d pc ls st σ r σ' :=
  ev_pure (fun _ _ _ _ _ _ _ _ _ _ _ _ _ _ _ _ ar hF hl kk => lv_lconst hF.hx hF.hb hd hv (kk ar hl)) k
theorem ev_null (hd : decode M.2.1 pc = .ok (.aconst_null, 1)) (k : Ev M d (pc + 1) ls (va_rf none :: st) σ r σ') : Ev M d pc ls st σ r σ' :=
  ev_pure (fun _ _ _ _ _ _ _ _ _ _ _ _ _ _ _ _ ar hF hl kk => lv_null hF.hx hF.hb hd (kk ar hl)) k
theorem ev_ldc {i : Nat} {v : Int32} (hd : decode M.2.1 pc = .ok (.ldc i, 2)) (hc : Cond.constant M.1.cls i v ∈ gtbl) (k : Ev M d (pc + 2) ls (.int v :: st) σ r σ') : Ev M d pc ls st σ r σ' :=
  ev_pure (fun _ _ _ _ _ _ _ _ _ _ _ _ _ _ _ _ ar hF hl kk => lv_ldc hF.hx hF.hb hF.hown (hF.hts _ hc) hd (kk ar hl)) k
theorem ev_ldcw {i : Nat} {v : Int32} (hd : decode M.2.1 pc = .ok (.ldc_w i, 3)) (hc : Cond.constant M.1.cls i v ∈ gtbl) (k : Ev M d (pc + 3) ls (.int v :: st) σ r σ') : Ev M d pc ls st σ r σ' :=
  ev_pure (fun _ _ _ _ _ _ _ _ _ _ _ _ _ _ _ _ ar hF hl kk => lv_ldcw hF.hx hF.hb hF.hown (hF.hts _ hc) hd (kk ar hl)) k
theorem ev_ldc2 {i : Nat} {v : Int64} (hd : decode M.2.1 pc = .ok (.ldc2_w i, 3)) (hc : Cond.constantLong M.1.cls i v ∈ gtbl) (k : Ev M d (pc + 3) ls (.long v :: st) σ r σ') : Ev M d pc ls st σ r σ' :=
  ev_pure (fun _ _ _ _ _ _ _ _ _ _ _ _ _ _ _ _ ar hF hl kk => lv_ldc2 hF.hx hF.hb hF.hown (hF.hts _ hc) hd (kk ar hl)) k
theorem cvl_at {G : GC} {j i : Nat} {v : Value} (h : ls[j]? = some (i, v)) : (ls.map (cvl G))[j]? = some (i, cv G v) := by rw [List.getElem?_map, h]; rfl
theorem ev_iload_n {n : Fin 4} {x : Int32} (j : Nat) (hd : decode M.2.1 pc = .ok (.iload_n n, 1)) (hl : ls[j]? = some ((n : Nat), .int x)) (k : Ev M d (pc + 1) ls (.int x :: st) σ r σ') : Ev M d pc ls st σ r σ' :=
  ev_pure (fun _ _ _ _ _ _ _ _ _ _ _ _ _ _ _ _ ar hF hl' kk => lv_iload_n hF.hx hF.hb hd rfl (lv_at hl' j (cvl_at hl)) (kk ar hl')) k
theorem ev_iload {n : Nat} {x : Int32} (j : Nat) (hd : decode M.2.1 pc = .ok (.iload n, 2)) (hl : ls[j]? = some (n, .int x)) (k : Ev M d (pc + 2) ls (.int x :: st) σ r σ') : Ev M d pc ls st σ r σ' :=
  ev_pure (fun _ _ _ _ _ _ _ _ _ _ _ _ _ _ _ _ ar hF hl' kk => lv_iload hF.hx hF.hb hd (lv_at hl' j (cvl_at hl)) (kk ar hl')) k
theorem ev_lload_n {n : Fin 4} {x : Int64} (j : Nat) (hd : decode M.2.1 pc = .ok (.lload_n n, 1)) (hl : ls[j]? = some ((n : Nat), .long x)) (k : Ev M d (pc + 1) ls (.long x :: st) σ r σ') : Ev M d pc ls st σ r σ' :=
  ev_pure (fun _ _ _ _ _ _ _ _ _ _ _ _ _ _ _ _ ar hF hl' kk => lv_lload_n hF.hx hF.hb hd rfl (lv_at hl' j (cvl_at hl)) (kk ar hl')) k
theorem ev_lload {n : Nat} {x : Int64} (j : Nat) (hd : decode M.2.1 pc = .ok (.lload n, 2)) (hl : ls[j]? = some (n, .long x)) (k : Ev M d (pc + 2) ls (.long x :: st) σ r σ') : Ev M d pc ls st σ r σ' :=
  ev_pure (fun _ _ _ _ _ _ _ _ _ _ _ _ _ _ _ _ ar hF hl' kk => lv_lload hF.hx hF.hb hd (lv_at hl' j (cvl_at hl)) (kk ar hl')) k
theorem ev_aload_n {n : Fin 4} {o : Option Nat} (j : Nat) (hd : decode M.2.1 pc = .ok (.aload_n n, 1)) (hl : ls[j]? = some ((n : Nat), va_rf o)) (k : Ev M d (pc + 1) ls (va_rf o :: st) σ r σ') : Ev M d pc ls st σ r σ' := by
  cases o with
  | none => exact ev_pure (fun _ _ _ _ _ _ _ _ _ _ _ _ _ _ _ _ ar hF hl' kk => lv_aload_nN hF.hx hF.hb hd rfl (lv_at hl' j (cvl_at hl)) (kk ar hl')) k
  | some a => exact ev_pure (fun _ _ _ _ _ _ _ _ _ _ _ _ _ _ _ _ ar hF hl' kk => lv_aload_n hF.hx hF.hb hd rfl (lv_at hl' j (cvl_at hl)) (kk ar hl')) k
theorem ev_aload {n : Nat} {o : Option Nat} (j : Nat) (hd : decode M.2.1 pc = .ok (.aload n, 2)) (hl : ls[j]? = some (n, va_rf o)) (k : Ev M d (pc + 2) ls (va_rf o :: st) σ r σ') : Ev M d pc ls st σ r σ' := by
  cases o with
  | none => exact ev_pure (fun _ _ _ _ _ _ _ _ _ _ _ _ _ _ _ _ ar hF hl' kk => lv_aloadN hF.hx hF.hb hd (lv_at hl' j (cvl_at hl)) (kk ar hl')) k
  | some a => exact ev_pure (fun _ _ _ _ _ _ _ _ _ _ _ _ _ _ _ _ ar hF hl' kk => lv_aload hF.hx hF.hb hd (lv_at hl' j (cvl_at hl)) (kk ar hl')) k
theorem ev_istore_n {n : Fin 4} {x : Int32} {ls' : List (Nat × Value)} (hd : decode M.2.1 pc = .ok (.istore_n n, 1)) (hn : (n : Nat) < M.2.2.1) (hl : ((n : Nat), Value.int x) :: ls.filter (fun q => !(q.1 == (n : Nat)) && !(q.1 + 1 == (n : Nat) && q.2.category == 2)) = ls') (k : Ev M d (pc + 1) ls' st σ r σ') : Ev M d pc ls (.int x :: st) σ r σ' :=
  ev_pure (fun G _ _ _ _ _ _ _ _ _ _ _ _ _ _ _ ar hF hl' kk => lv_istore_n hF.hx hF.hb hd rfl hl' hn (by rw [cvl_filt, ← hl]; rfl) (fun ar' h' => kk ar' h')) k
theorem ev_istore {n : Nat} {x : Int32} {ls' : List (Nat × Value)} (hd : decode M.2.1 pc = .ok (.istore n, 2)) (hn : n < M.2.2.1) (hl : (n, Value.int x) :: ls.filter (fun q => !(q.1 == n) && !(q.1 + 1 == n && q.2.category == 2)) = ls') (k : Ev M d (pc + 2) ls' st σ r σ') : Ev M d pc ls (.int x :: st) σ r σ' :=
  ev_pure (fun G _ _ _ _ _ _ _ _ _ _ _ _ _ _ _ ar hF hl' kk => lv_istore hF.hx hF.hb hd hl' hn (by rw [cvl_filt, ← hl]; rfl) (fun ar' h' => kk ar' h')) k
theorem ev_lstore_n {n : Fin 4} {x : Int64} {ls' : List (Nat × Value)} (hd : decode M.2.1 pc = .ok (.lstore_n n, 1)) (hn : (n : Nat) + 1 < M.2.2.1) (hl : ((n : Nat), Value.long x) :: ls.filter (fun q => !(q.1 == (n : Nat)) && (!(q.1 == (n : Nat) + 1) && !(q.1 + 1 == (n : Nat) && q.2.category == 2))) = ls') (k : Ev M d (pc + 1) ls' st σ r σ') : Ev M d pc ls (.long x :: st) σ r σ' :=
  ev_pure (fun G _ _ _ _ _ _ _ _ _ _ _ _ _ _ _ ar hF hl' kk => lv_lstore_n hF.hx hF.hb hd rfl hl' hn (by rw [cvl_filt2, ← hl]; rfl) (fun ar' h' => kk ar' h')) k
theorem ev_lstore {n : Nat} {x : Int64} {ls' : List (Nat × Value)} (hd : decode M.2.1 pc = .ok (.lstore n, 2)) (hn : n + 1 < M.2.2.1) (hl : (n, Value.long x) :: ls.filter (fun q => !(q.1 == n) && (!(q.1 == n + 1) && !(q.1 + 1 == n && q.2.category == 2))) = ls') (k : Ev M d (pc + 2) ls' st σ r σ') : Ev M d pc ls (.long x :: st) σ r σ' :=
  ev_pure (fun G _ _ _ _ _ _ _ _ _ _ _ _ _ _ _ ar hF hl' kk => lv_lstore hF.hx hF.hb hd hl' hn (by rw [cvl_filt2, ← hl]; rfl) (fun ar' h' => kk ar' h')) k
theorem ev_astore_n {n : Fin 4} {o : Option Nat} {ls' : List (Nat × Value)} (hd : decode M.2.1 pc = .ok (.astore_n n, 1)) (hn : (n : Nat) < M.2.2.1) (hl : ((n : Nat), va_rf o) :: ls.filter (fun q => !(q.1 == (n : Nat)) && !(q.1 + 1 == (n : Nat) && q.2.category == 2)) = ls') (k : Ev M d (pc + 1) ls' st σ r σ') : Ev M d pc ls (va_rf o :: st) σ r σ' := by
  cases o with
  | none => exact ev_pure (fun G _ _ _ _ _ _ _ _ _ _ _ _ _ _ _ ar hF hl' kk => lv_astore_nN hF.hx hF.hb hd rfl hl' hn (by rw [cvl_filt, ← hl]; rfl) (fun ar' h' => kk ar' h')) k
  | some a => exact ev_pure (fun G _ _ _ _ _ _ _ _ _ _ _ _ _ _ _ ar hF hl' kk => lv_astore_n hF.hx hF.hb hd rfl hl' hn (by rw [cvl_filt, ← hl]; rfl) (fun ar' h' => kk ar' h')) k
theorem ev_astore {n : Nat} {o : Option Nat} {ls' : List (Nat × Value)} (hd : decode M.2.1 pc = .ok (.astore n, 2)) (hn : n < M.2.2.1) (hl : (n, va_rf o) :: ls.filter (fun q => !(q.1 == n) && !(q.1 + 1 == n && q.2.category == 2)) = ls') (k : Ev M d (pc + 2) ls' st σ r σ') : Ev M d pc ls (va_rf o :: st) σ r σ' := by
  cases o with
  | none => exact ev_pure (fun G _ _ _ _ _ _ _ _ _ _ _ _ _ _ _ ar hF hl' kk => lv_astoreN hF.hx hF.hb hd hl' hn (by rw [cvl_filt, ← hl]; rfl) (fun ar' h' => kk ar' h')) k
  | some a => exact ev_pure (fun G _ _ _ _ _ _ _ _ _ _ _ _ _ _ _ ar hF hl' kk => lv_astore hF.hx hF.hb hd hl' hn (by rw [cvl_filt, ← hl]; rfl) (fun ar' h' => kk ar' h')) k
theorem ev_iinc {n : Nat} {i : Int} {x v : Int32} {ls' : List (Nat × Value)} (j : Nat) (hd : decode M.2.1 pc = .ok (.iinc n i, 3)) (hj : ls[j]? = some (n, .int x)) (hv : x + Int32.ofInt i = v) (hn : n < M.2.2.1) (hl : (n, Value.int v) :: ls.filter (fun q => !(q.1 == n) && !(q.1 + 1 == n && q.2.category == 2)) = ls') (k : Ev M d (pc + 3) ls' st σ r σ') : Ev M d pc ls st σ r σ' :=
  ev_pure (fun G _ _ _ _ _ _ _ _ _ _ _ _ _ _ _ ar hF hl' kk => lv_iinc hF.hx hF.hb hd hl' (cvl_at hj) hv hn (by rw [cvl_filt, ← hl]; rfl) (fun ar' h' => kk ar' h')) k
end EVP
