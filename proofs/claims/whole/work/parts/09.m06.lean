def s_X11_needed_59 (k18 : Nat → Int32 → Int32 → St → Option (Int32 × St)) (a0 : Nat) (a2 : Int32) (t0 : Int32) (t1 : Int32) (σ : St) : Option (Int32 × St) :=
 lt (t0 ||| t1 : Int32) fun v1 =>
 lt (a2 + 1 : Int32) fun v3 =>
 k18 a0 v1 v3 σ
set_option maxHeartbeats 4000000 in
set_option maxRecDepth 100000 in
theorem e_X11_needed_59 {r : Int32} {σ' : St} {k18 : Nat → Int32 → Int32 → St → Option (Int32 × St)} (hk18 : ∀ {y0 : Nat} {y1 : Int32} {y2 : Int32} {σ : St}, k18 y0 y1 y2 σ = some (r, σ') → Ev M_X11_needed (8) 18 [(0, .ref y0), (1, .int (y1)), (2, .int (y2))] [] σ (some (.int r)) σ') : ∀ {a0 : Nat} {a2 : Int32} {t0 : Int32} {t1 : Int32} {σ : St}, s_X11_needed_59 k18 a0 a2 t0 t1 σ = some (r, σ') → Ev M_X11_needed (8) 59 [(0, .ref a0), (2, .int (a2))] [.int (t1), .int (t0)] σ (some (.int r)) σ' := by
  intro a0 a2 t0 t1 σ h
  unfold s_X11_needed_59 at h
  refine ev_ior dX11_needed_59 ?_
  obtain ⟨v1, e2, h⟩ := lt_some h
  refine ev_topI e2 ?_
  refine ev_istore_n (ls' := [(1, .int (v1)), (0, .ref a0), (2, .int (a2))]) dX11_needed_60 (by decide) rfl ?_
  obtain ⟨v3, e4, h⟩ := lt_some h
  refine ev_iinc (v := v3) (ls' := [(2, .int (v3)), (1, .int (v1)), (0, .ref a0)]) 2 dX11_needed_61 rfl e4.symm (by decide) rfl ?_
  refine ev_goto (tgt := 18) dX11_needed_64 rfl ?_
  refine ev_sub (ls' := [(0, .ref a0), (1, .int (v1)), (2, .int (v3))]) [2, 1, 0] rfl ?_
  exact hk18 h
def s_X11_needed_58 (k18 : Nat → Int32 → Int32 → St → Option (Int32 × St)) (a0 : Nat) (a2 : Int32) (t0 : Int32) (σ : St) : Option (Int32 × St) :=
 s_X11_needed_59 k18 a0 a2 t0 0 σ
set_option maxHeartbeats 4000000 in
set_option maxRecDepth 100000 in
theorem e_X11_needed_58 {r : Int32} {σ' : St} {k18 : Nat → Int32 → Int32 → St → Option (Int32 × St)} (hk18 : ∀ {y0 : Nat} {y1 : Int32} {y2 : Int32} {σ : St}, k18 y0 y1 y2 σ = some (r, σ') → Ev M_X11_needed (8) 18 [(0, .ref y0), (1, .int (y1)), (2, .int (y2))] [] σ (some (.int r)) σ') : ∀ {a0 : Nat} {a2 : Int32} {t0 : Int32} {σ : St}, s_X11_needed_58 k18 a0 a2 t0 σ = some (r, σ') → Ev M_X11_needed (8) 58 [(0, .ref a0), (2, .int (a2))] [.int (t0)] σ (some (.int r)) σ' := by
  intro a0 a2 t0 σ h
  unfold s_X11_needed_58 at h
  refine ev_iconst (v := 0) dX11_needed_58 (by decide) ?_
  refine ev_sub (ls' := [(0, .ref a0), (2, .int (a2))]) [0, 1] rfl ?_
  exact e_X11_needed_59 hk18 h
def sb_X11_needed_18 (k18 : Nat → Int32 → Int32 → St → Option (Int32 × St)) (a0 : Nat) (a1 : Int32) (a2 : Int32) (σ : St) : Option (Int32 × St) :=
 if (5 : Int32) ≤ a2 then (some (a1, σ)) else (if isO σ 11 a0 = true then (bd (s_X11_all a0 σ) fun r9 σ7 =>
 bd (s_X11_has r9 a2 σ7) fun r12 σ10 =>
 if r12 = 0 then (s_X11_needed_58 k18 a0 a2 a1 σ10) else (if isO σ10 11 a0 = true then (bd (s_X11_all a0 σ10) fun r17 σ15 =>
 if isO σ15 11 a0 = true then (bd (s_X11_heightOf a0 (r17 &&& ((1 <<< (a2 &&& 31)) ^^^ ((-1)))) σ15) fun r21 σ19 =>
 if (0 : Int32) ≤ r21 then (s_X11_needed_58 k18 a0 a2 a1 σ19) else (s_X11_needed_59 k18 a0 a2 a1 (1 <<< (a2 &&& 31)) σ19)) else none) else none)) else none)
def s_X11_needed_18 (F : Nat) : Nat → Int32 → Int32 → St → Option (Int32 × St) := lp (fun _ _ _ _ => none) (sb_X11_needed_18 ) F
set_option maxHeartbeats 4000000 in
set_option maxRecDepth 100000 in
theorem e_X11_needed_18 {r : Int32} {σ' : St} (F : Nat) : ∀ {a0 : Nat} {a1 : Int32} {a2 : Int32} {σ : St}, s_X11_needed_18 F a0 a1 a2 σ = some (r, σ') → Ev M_X11_needed (8) 18 [(0, .ref a0), (1, .int (a1)), (2, .int (a2))] [] σ (some (.int r)) σ' := by
  induction F with
  | zero => intro a0 a1 a2 σ h; cases h
  | succ F ih =>
    intro a0 a1 a2 σ h
    change sb_X11_needed_18  (s_X11_needed_18 F) a0 a1 a2 σ = some (r, σ') at h
    unfold sb_X11_needed_18 at h
    have hk18 := @ih
    refine ev_iload_n 2 dX11_needed_18 rfl ?_
    refine ev_iconst (v := 5) dX11_needed_19 (by decide) ?_
    rcases it_some h with ⟨c5, h⟩ | ⟨c5, h⟩
    · refine ev_icmp_ge (tgt := 67) dX11_needed_20 rfl c5 ?_
      refine ev_iload_n 1 dX11_needed_67 rfl ?_
      exact ev_retI .int dX11_needed_68 rfl rfl h
    · refine ev_icmp_ge_n 67 dX11_needed_20 rfl c5 ?_
      refine ev_iload_n 1 dX11_needed_23 rfl ?_
      refine ev_aload_nR 0 dX11_needed_24 rfl ?_
      obtain ⟨g6, h⟩ := gd_some h
      obtain ⟨r9, σ7, e8, h⟩ := bd_some h
      refine ev_invVi (As := []) (st := [.int (a1)]) dX11_needed_25 cb_X11_all tp_1162 tp_1164 tp_68 kf11 rfl (by omega) g6 rfl rfl (Nat.le_of_ble_eq_true rfl) (x_X11_all e8) ?_
      refine ev_iload_n 2 dX11_needed_28 rfl ?_
      obtain ⟨r12, σ10, e11, h⟩ := bd_some h
      refine ev_invSi (As := [.int (r9), .int (a2)]) (st := [.int (a1)]) dX11_needed_29 cb_X11_has tp_1182 tp_1183 (by omega) rfl rfl (Nat.le_of_ble_eq_true rfl) (x_X11_has e11) ?_
      rcases it_some h with ⟨c13, h⟩ | ⟨c13, h⟩
      · refine ev_if_eq (tgt := 58) dX11_needed_32 rfl c13 ?_
        refine ev_sub (ls' := [(0, .ref a0), (2, .int (a2))]) [0, 2] rfl ?_
        exact e_X11_needed_58 hk18 h
      · refine ev_if_eq_n 58 dX11_needed_32 rfl c13 ?_
        refine ev_aload_nR 0 dX11_needed_35 rfl ?_
        refine ev_aload_nR 0 dX11_needed_36 rfl ?_
        obtain ⟨g14, h⟩ := gd_some h
        obtain ⟨r17, σ15, e16, h⟩ := bd_some h
        refine ev_invVi (As := []) (st := [.ref a0, .int (a1)]) dX11_needed_37 cb_X11_all tp_1162 tp_1164 tp_68 kf11 rfl (by omega) g14 rfl rfl (Nat.le_of_ble_eq_true rfl) (x_X11_all e16) ?_
        refine ev_iconst (v := 1) dX11_needed_40 (by decide) ?_
        refine ev_iload_n 2 dX11_needed_41 rfl ?_
        refine ev_ishl dX11_needed_42 ?_
        refine ev_iconst (v := (-1)) dX11_needed_43 (by decide) ?_
        refine ev_ixor dX11_needed_44 ?_
        refine ev_iand dX11_needed_45 ?_
        obtain ⟨g18, h⟩ := gd_some h
        obtain ⟨r21, σ19, e20, h⟩ := bd_some h
        refine ev_invVi (As := [.int (r17 &&& ((1 <<< (a2 &&& 31)) ^^^ ((-1))))]) (st := [.int (a1)]) dX11_needed_46 cb_X11_heightOf tp_1197 tp_1199 tp_76 kf11 rfl (by omega) g18 rfl rfl (Nat.le_of_ble_eq_true rfl) (x_X11_heightOf e20) ?_
        rcases it_some h with ⟨c22, h⟩ | ⟨c22, h⟩
        · refine ev_if_ge (tgt := 58) dX11_needed_49 rfl c22 ?_
          refine ev_sub (ls' := [(0, .ref a0), (2, .int (a2))]) [0, 2] rfl ?_
          exact e_X11_needed_58 hk18 h
        · refine ev_if_ge_n 58 dX11_needed_49 rfl c22 ?_
          refine ev_iconst (v := 1) dX11_needed_52 (by decide) ?_
          refine ev_iload_n 2 dX11_needed_53 rfl ?_
          refine ev_ishl dX11_needed_54 ?_
          refine ev_goto (tgt := 59) dX11_needed_55 rfl ?_
          refine ev_sub (ls' := [(0, .ref a0), (2, .int (a2))]) [0, 2] rfl ?_
          exact e_X11_needed_59 hk18 h
def s_X11_needed (a0 : Nat) (σ : St) : Option (Int32 × St) :=
 if isO σ 11 a0 = true then (bd (s_X11_isGoal a0 σ) fun r26 σ24 =>
 if r26 = 0 then (some ((-3), σ24)) else (if isO σ24 11 a0 = true then (bd (s_X11_lay a0 σ24) fun r31 σ29 =>
 s_X11_needed_18 16000 a0 0 0 σ29) else none)) else none
set_option maxHeartbeats 4000000 in
set_option maxRecDepth 100000 in
theorem x_X11_needed {a0 : Nat} {σ : St} {r : Int32} {σ' : St} (h : s_X11_needed a0 σ = some (r, σ')) : Ex M_X11_needed (8) [.ref a0] σ (some (.int r)) σ' := by
  unfold s_X11_needed at h
  refine ex_of (by decide) rfl (Nat.le_of_ble_eq_true rfl) ?_
  show Ev _ _ 0 [(0, .ref a0)] [] _ _ _
  refine ev_aload_nR 0 dX11_needed_0 rfl ?_
  obtain ⟨g23, h⟩ := gd_some h
  obtain ⟨r26, σ24, e25, h⟩ := bd_some h
  refine ev_invVi (As := []) (st := []) dX11_needed_1 cb_X11_isGoal tp_1166 tp_1168 tp_69 kf11 rfl (by omega) g23 rfl rfl (Nat.le_of_ble_eq_true rfl) (x_X11_isGoal e25) ?_
  rcases it_some h with ⟨c27, h⟩ | ⟨c27, h⟩
  · refine ev_if_ne_n 10 dX11_needed_4 rfl c27 ?_
    refine ev_bipush (v := (-3)) dX11_needed_7 (by decide) ?_
    exact ev_retI .int dX11_needed_9 rfl rfl h
  · refine ev_if_ne (tgt := 10) dX11_needed_4 rfl c27 ?_
    refine ev_aload_nR 0 dX11_needed_10 rfl ?_
    obtain ⟨g28, h⟩ := gd_some h
    obtain ⟨r31, σ29, e30, h⟩ := bd_some h
    refine ev_invVv (As := []) (st := []) dX11_needed_11 cb_X11_lay tp_1170 tp_1172 tp_70 kf11 rfl (by omega) g28 rfl rfl (Nat.le_of_ble_eq_true rfl) (x_X11_lay e30) ?_
    refine ev_iconst (v := 0) dX11_needed_14 (by decide) ?_
    refine ev_istore_n (ls' := [(1, .int (0)), (0, .ref a0)]) dX11_needed_15 (by decide) rfl ?_
    refine ev_iconst (v := 0) dX11_needed_16 (by decide) ?_
    refine ev_istore_n (ls' := [(2, .int (0)), (1, .int (0)), (0, .ref a0)]) dX11_needed_17 (by decide) rfl ?_
    refine ev_sub (ls' := [(0, .ref a0), (1, .int (0)), (2, .int (0))]) [2, 1, 0] rfl ?_
    exact e_X11_needed_18 16000 h
def s_X11_await (a0 : Nat) (a1 : Int32) (a2 : Int32) (a3 : Int32) (σ : St) : Option (Unit × St) :=
 if isO σ 11 a0 = true then (op (sP σ a0 27) fun p2 =>
 if isO σ 13 p2 = true then (if inR (sI σ a0 30) (alen σ p2) = true then (lt (setI σ p2 ((sI σ a0 30).toNatClampNeg) a1) fun σ6 =>
 op (sP σ6 a0 28) fun p8 =>
 if isO σ6 13 p8 = true then (if inR (sI σ6 a0 30) (alen σ6 p8) = true then (lt (setI σ6 p8 ((sI σ6 a0 30).toNatClampNeg) a2) fun σ12 =>
 op (sP σ12 a0 29) fun p14 =>
 if isO σ12 13 p14 = true then (if inR (sI σ12 a0 30) (alen σ12 p14) = true then (lt (setI σ12 p14 ((sI σ12 a0 30).toNatClampNeg) a3) fun σ18 =>
 lt (setI σ18 a0 30 ((sI σ18 a0 30) + 1)) fun σ20 =>
 some ((), σ20)) else none) else none) else none) else none) else none) else none) else none
set_option maxHeartbeats 4000000 in
set_option maxRecDepth 100000 in
theorem x_X11_await {a0 : Nat} {a1 : Int32} {a2 : Int32} {a3 : Int32} {σ : St} {r : Unit} {σ' : St} (h : s_X11_await a0 a1 a2 a3 σ = some (r, σ')) : Ex M_X11_await (1) [.ref a0, .int (a1), .int (a2), .int (a3)] σ none σ' := by
  unfold s_X11_await at h
  refine ex_of (by decide) rfl (Nat.le_of_ble_eq_true rfl) ?_
  show Ev _ _ 0 [(0, .ref a0), (1, .int (a1)), (2, .int (a2)), (3, .int (a3))] [] _ _ _
  refine ev_aload_nR 0 dX11_await_0 rfl ?_
  obtain ⟨g1, h⟩ := gd_some h
  obtain ⟨p2, e3, h⟩ := op_some h
  refine ev_getPR dX11_await_1 fl_X11_70 rfl g1 e3 ?_
  refine ev_aload_nR 0 dX11_await_4 rfl ?_
  refine ev_getI dX11_await_5 fl_X11_226 rfl g1 ?_
  refine ev_iload_n 1 dX11_await_8 rfl ?_
  obtain ⟨g4, h⟩ := gd_some h
  obtain ⟨g5, h⟩ := gd_some h
  obtain ⟨σ6, e7, h⟩ := lt_some h
  refine ev_iast dX11_await_9 (isO_spec g4).1 (isA_O g4) g5 ?_
  refine ev_st e7 ?_
  refine ev_aload_nR 0 dX11_await_10 rfl ?_
  obtain ⟨p8, e9, h⟩ := op_some h
  refine ev_getPR dX11_await_11 fl_X11_73 rfl (isO_I e7 g1) e9 ?_
  refine ev_aload_nR 0 dX11_await_14 rfl ?_
  refine ev_getI dX11_await_15 fl_X11_226 rfl (isO_I e7 g1) ?_
  refine ev_iload_n 2 dX11_await_18 rfl ?_
  obtain ⟨g10, h⟩ := gd_some h
  obtain ⟨g11, h⟩ := gd_some h
  obtain ⟨σ12, e13, h⟩ := lt_some h
  refine ev_iast dX11_await_19 (isO_spec g10).1 (isA_O g10) g11 ?_
  refine ev_st e13 ?_
  refine ev_aload_nR 0 dX11_await_20 rfl ?_
  obtain ⟨p14, e15, h⟩ := op_some h
  refine ev_getPR dX11_await_21 fl_X11_76 rfl (isO_I e13 (isO_I e7 g1)) e15 ?_
  refine ev_aload_nR 0 dX11_await_24 rfl ?_
  refine ev_getI dX11_await_25 fl_X11_226 rfl (isO_I e13 (isO_I e7 g1)) ?_
  refine ev_iload_n 3 dX11_await_28 rfl ?_
  obtain ⟨g16, h⟩ := gd_some h
  obtain ⟨g17, h⟩ := gd_some h
  obtain ⟨σ18, e19, h⟩ := lt_some h
  refine ev_iast dX11_await_29 (isO_spec g16).1 (isA_O g16) g17 ?_
  refine ev_st e19 ?_
  refine ev_aload_nR 0 dX11_await_30 rfl ?_
  refine ev_dup dX11_await_31 rfl ?_
  refine ev_getI dX11_await_32 fl_X11_226 rfl (isO_I e19 (isO_I e13 (isO_I e7 g1))) ?_
  refine ev_iconst (v := 1) dX11_await_35 (by decide) ?_
  refine ev_iadd dX11_await_36 ?_
  obtain ⟨σ20, e21, h⟩ := lt_some h
  refine ev_putI dX11_await_37 fl_X11_226 rfl (Or.inl rfl) (isO_I e19 (isO_I e13 (isO_I e7 g1))) ⟨rfl, rfl⟩ ?_
  refine ev_st e21 ?_
  exact ev_retV dX11_await_40 rfl h
def s_X11_tell (a0 : Nat) (a1 : Int32) (σ : St) : Option (Unit × St) :=
 if isO σ 11 a0 = true then (op (sP σ a0 25) fun p2 =>
 if isO σ 13 p2 = true then (if inR (sI σ a0 26) (alen σ p2) = true then (lt (setI σ p2 ((sI σ a0 26).toNatClampNeg) a1) fun σ6 =>
 lt (setI σ6 a0 26 ((sI σ6 a0 26) + 1)) fun σ8 =>
 some ((), σ8)) else none) else none) else none
set_option maxHeartbeats 4000000 in
set_option maxRecDepth 100000 in
theorem x_X11_tell {a0 : Nat} {a1 : Int32} {σ : St} {r : Unit} {σ' : St} (h : s_X11_tell a0 a1 σ = some (r, σ')) : Ex M_X11_tell (1) [.ref a0, .int (a1)] σ none σ' := by
  unfold s_X11_tell at h
  refine ex_of (by decide) rfl (Nat.le_of_ble_eq_true rfl) ?_
  show Ev _ _ 0 [(0, .ref a0), (1, .int (a1))] [] _ _ _
  refine ev_aload_nR 0 dX11_tell_0 rfl ?_
  obtain ⟨g1, h⟩ := gd_some h
  obtain ⟨p2, e3, h⟩ := op_some h
  refine ev_getPR dX11_tell_1 fl_X11_67 rfl g1 e3 ?_
  refine ev_aload_nR 0 dX11_tell_4 rfl ?_
  refine ev_getI dX11_tell_5 fl_X11_229 rfl g1 ?_
  refine ev_iload_n 1 dX11_tell_8 rfl ?_
  obtain ⟨g4, h⟩ := gd_some h
  obtain ⟨g5, h⟩ := gd_some h
  obtain ⟨σ6, e7, h⟩ := lt_some h
  refine ev_iast dX11_tell_9 (isO_spec g4).1 (isA_O g4) g5 ?_
  refine ev_st e7 ?_
  refine ev_aload_nR 0 dX11_tell_10 rfl ?_
  refine ev_dup dX11_tell_11 rfl ?_
  refine ev_getI dX11_tell_12 fl_X11_229 rfl (isO_I e7 g1) ?_
  refine ev_iconst (v := 1) dX11_tell_15 (by decide) ?_
  refine ev_iadd dX11_tell_16 ?_
  obtain ⟨σ8, e9, h⟩ := lt_some h
  refine ev_putI dX11_tell_17 fl_X11_229 rfl (Or.inl rfl) (isO_I e7 g1) ⟨rfl, rfl⟩ ?_
  refine ev_st e9 ?_
  exact ev_retV dX11_tell_20 rfl h
def s_X11_tellAtom_87 (a3 : Int32) (t0 : Nat) (t1 : Int32) (t2 : Int32) (σ : St) : Option (Unit × St) :=
 if isO σ 11 t0 = true then (bd (s_X11_await t0 t1 t2 (a3 - 1) σ) fun r4 σ2 =>
 some ((), σ2)) else none
set_option maxHeartbeats 4000000 in
set_option maxRecDepth 100000 in
theorem e_X11_tellAtom_87 {r : Unit} {σ' : St} : ∀ {a3 : Int32} {t0 : Nat} {t1 : Int32} {t2 : Int32} {σ : St}, s_X11_tellAtom_87 a3 t0 t1 t2 σ = some (r, σ') → Ev M_X11_tellAtom (4) 87 [(3, .int (a3))] [.int (t2), .int (t1), .ref t0] σ none σ' := by
  intro a3 t0 t1 t2 σ h
  unfold s_X11_tellAtom_87 at h
  refine ev_iload_n 0 dX11_tellAtom_87 rfl ?_
  refine ev_iconst (v := 1) dX11_tellAtom_88 (by decide) ?_
  refine ev_isub dX11_tellAtom_89 ?_
  obtain ⟨g1, h⟩ := gd_some h
  obtain ⟨r4, σ2, e3, h⟩ := bd_some h
  refine ev_invVv (As := [.int (t1), .int (t2), .int (a3 - 1)]) (st := []) dX11_tellAtom_90 cb_X11_await tp_1249 tp_1251 tp_83 kf11 rfl (by omega) g1 rfl rfl (Nat.le_of_ble_eq_true rfl) (x_X11_await e3) ?_
  exact ev_retV dX11_tellAtom_93 rfl h
def s_X11_tellAtom_41 (a0 : Nat) (a2 : Int32) (a3 : Int32) (a4 : Int32) (t0 : Int32) (σ : St) : Option (Unit × St) :=
 if isO σ 11 a0 = true then (op (sP σ a0 13) fun p6 =>
 if isO σ 13 p6 = true then (if inR ((3 * t0) + (a4 - a4 / 10 * 10)) (alen σ p6) = true then (lt (sI σ p6 (((3 * t0) + (a4 - a4 / 10 * 10)).toNatClampNeg) : Int32) fun v10 =>
 if v10 < 0 then (some ((), σ)) else (if (100 : Int32) ≤ a4 then (s_X11_tellAtom_87 a3 a0 v10 a2 σ) else (s_X11_tellAtom_87 a3 a0 v10 (a2 &&& ((1 <<< (t0 &&& 31)) ^^^ ((-1)))) σ))) else none) else none) else none
set_option maxHeartbeats 4000000 in
set_option maxRecDepth 100000 in
theorem e_X11_tellAtom_41 {r : Unit} {σ' : St} : ∀ {a0 : Nat} {a2 : Int32} {a3 : Int32} {a4 : Int32} {t0 : Int32} {σ : St}, s_X11_tellAtom_41 a0 a2 a3 a4 t0 σ = some (r, σ') → Ev M_X11_tellAtom (4) 41 [(0, .ref a0), (2, .int (a2)), (3, .int (a3)), (4, .int (a4))] [.int (t0)] σ none σ' := by
  intro a0 a2 a3 a4 t0 σ h
  unfold s_X11_tellAtom_41 at h
  refine ev_istore (ls' := [(5, .int (t0)), (0, .ref a0), (2, .int (a2)), (3, .int (a3)), (4, .int (a4))]) dX11_tellAtom_41 (by decide) rfl ?_
  refine ev_aload_nR 1 dX11_tellAtom_43 rfl ?_
  obtain ⟨g5, h⟩ := gd_some h
  obtain ⟨p6, e7, h⟩ := op_some h
  refine ev_getPR dX11_tellAtom_44 fl_X11_38 rfl g5 e7 ?_
  refine ev_iconst (v := 3) dX11_tellAtom_47 (by decide) ?_
  refine ev_iload 0 dX11_tellAtom_48 rfl ?_
  refine ev_imul dX11_tellAtom_50 ?_
  refine ev_iload 4 dX11_tellAtom_51 rfl ?_
  refine ev_bipush (v := 10) dX11_tellAtom_53 (by decide) ?_
  refine ev_irem dX11_tellAtom_55 (by decide) ?_
  refine ev_iadd dX11_tellAtom_56 ?_
  obtain ⟨g8, h⟩ := gd_some h
  obtain ⟨g9, h⟩ := gd_some h
  refine ev_iald dX11_tellAtom_57 (isA_O g8) g9 ?_
  obtain ⟨v10, e11, h⟩ := lt_some h
  refine ev_topI e11 ?_
  refine ev_istore (ls' := [(6, .int (v10)), (5, .int (t0)), (0, .ref a0), (2, .int (a2)), (3, .int (a3)), (4, .int (a4))]) dX11_tellAtom_58 (by decide) rfl ?_
  refine ev_iload 0 dX11_tellAtom_60 rfl ?_
  rcases it_some h with ⟨c12, h⟩ | ⟨c12, h⟩
  · refine ev_if_lt (tgt := 93) dX11_tellAtom_62 rfl c12 ?_
    exact ev_retV dX11_tellAtom_93 rfl h
  · refine ev_if_lt_n 93 dX11_tellAtom_62 rfl c12 ?_
    refine ev_aload_nR 2 dX11_tellAtom_65 rfl ?_
    refine ev_iload 0 dX11_tellAtom_66 rfl ?_
    refine ev_iload 5 dX11_tellAtom_68 rfl ?_
    refine ev_bipush (v := 100) dX11_tellAtom_70 (by decide) ?_
    rcases it_some h with ⟨c13, h⟩ | ⟨c13, h⟩
    · refine ev_icmp_ge (tgt := 86) dX11_tellAtom_72 rfl c13 ?_
      refine ev_iload_n 3 dX11_tellAtom_86 rfl ?_
      refine ev_sub (ls' := [(3, .int (a3))]) [4] rfl ?_
      exact e_X11_tellAtom_87  h
    · refine ev_icmp_ge_n 86 dX11_tellAtom_72 rfl c13 ?_
      refine ev_iload_n 3 dX11_tellAtom_75 rfl ?_
      refine ev_iconst (v := 1) dX11_tellAtom_76 (by decide) ?_
      refine ev_iload 1 dX11_tellAtom_77 rfl ?_
      refine ev_ishl dX11_tellAtom_79 ?_
      refine ev_iconst (v := (-1)) dX11_tellAtom_80 (by decide) ?_
      refine ev_ixor dX11_tellAtom_81 ?_
      refine ev_iand dX11_tellAtom_82 ?_
      refine ev_goto (tgt := 87) dX11_tellAtom_83 rfl ?_
      refine ev_sub (ls' := [(3, .int (a3))]) [4] rfl ?_
      exact e_X11_tellAtom_87  h
def s_X11_tellAtom (a0 : Nat) (a1 : Int32) (a2 : Int32) (a3 : Int32) (σ : St) : Option (Unit × St) :=
 if isO σ 11 a0 = true then (bd (s_X11_firstFor a0 a1 a2 a3 σ) fun r17 σ15 =>
 if isO σ15 11 a0 = true then (bd (s_X11_tell a0 r17 σ15) fun r21 σ19 =>
 if (100 : Int32) ≤ r17 then (s_X11_tellAtom_41 a0 a2 a3 r17 (8 + ((r17 - 100) / 10)) σ19) else (s_X11_tellAtom_41 a0 a2 a3 r17 (r17 / 10) σ19)) else none) else none
set_option maxHeartbeats 4000000 in
set_option maxRecDepth 100000 in
theorem x_X11_tellAtom {a0 : Nat} {a1 : Int32} {a2 : Int32} {a3 : Int32} {σ : St} {r : Unit} {σ' : St} (h : s_X11_tellAtom a0 a1 a2 a3 σ = some (r, σ')) : Ex M_X11_tellAtom (4) [.ref a0, .int (a1), .int (a2), .int (a3)] σ none σ' := by
  unfold s_X11_tellAtom at h
  refine ex_of (by decide) rfl (Nat.le_of_ble_eq_true rfl) ?_
  show Ev _ _ 0 [(0, .ref a0), (1, .int (a1)), (2, .int (a2)), (3, .int (a3))] [] _ _ _
  refine ev_aload_nR 0 dX11_tellAtom_0 rfl ?_
  refine ev_iload_n 1 dX11_tellAtom_1 rfl ?_
  refine ev_iload_n 2 dX11_tellAtom_2 rfl ?_
  refine ev_iload_n 3 dX11_tellAtom_3 rfl ?_
  obtain ⟨g14, h⟩ := gd_some h
  obtain ⟨r17, σ15, e16, h⟩ := bd_some h
  refine ev_invVi (As := [.int (a1), .int (a2), .int (a3)]) (st := []) dX11_tellAtom_4 cb_X11_firstFor tp_1178 tp_1180 tp_72 kf11 rfl (by omega) g14 rfl rfl (Nat.le_of_ble_eq_true rfl) (x_X11_firstFor e16) ?_
  refine ev_istore (ls' := [(4, .int (r17)), (0, .ref a0), (1, .int (a1)), (2, .int (a2)), (3, .int (a3))]) dX11_tellAtom_7 (by decide) rfl ?_
  refine ev_aload_nR 1 dX11_tellAtom_9 rfl ?_
  refine ev_iload 0 dX11_tellAtom_10 rfl ?_
  obtain ⟨g18, h⟩ := gd_some h
  obtain ⟨r21, σ19, e20, h⟩ := bd_some h
  refine ev_invVv (As := [.int (r17)]) (st := []) dX11_tellAtom_12 cb_X11_tell tp_1261 tp_1263 tp_86 kf11 rfl (by omega) g18 rfl rfl (Nat.le_of_ble_eq_true rfl) (x_X11_tell e20) ?_
  refine ev_iload 0 dX11_tellAtom_15 rfl ?_
  refine ev_bipush (v := 100) dX11_tellAtom_17 (by decide) ?_
  rcases it_some h with ⟨c22, h⟩ | ⟨c22, h⟩
  · refine ev_icmp_ge (tgt := 30) dX11_tellAtom_19 rfl c22 ?_
    refine ev_bipush (v := 8) dX11_tellAtom_30 (by decide) ?_
    refine ev_iload 0 dX11_tellAtom_32 rfl ?_
    refine ev_bipush (v := 100) dX11_tellAtom_34 (by decide) ?_
    refine ev_isub dX11_tellAtom_36 ?_
    refine ev_bipush (v := 10) dX11_tellAtom_37 (by decide) ?_
    refine ev_idiv dX11_tellAtom_39 (by decide) ?_
    refine ev_iadd dX11_tellAtom_40 ?_
    refine ev_sub (ls' := [(0, .ref a0), (2, .int (a2)), (3, .int (a3)), (4, .int (r17))]) [1, 3, 4, 0] rfl ?_
    exact e_X11_tellAtom_41  h
  · refine ev_icmp_ge_n 30 dX11_tellAtom_19 rfl c22 ?_
    refine ev_iload 0 dX11_tellAtom_22 rfl ?_
    refine ev_bipush (v := 10) dX11_tellAtom_24 (by decide) ?_
    refine ev_idiv dX11_tellAtom_26 (by decide) ?_
    refine ev_goto (tgt := 41) dX11_tellAtom_27 rfl ?_
    refine ev_sub (ls' := [(0, .ref a0), (2, .int (a2)), (3, .int (a3)), (4, .int (r17))]) [1, 3, 4, 0] rfl ?_
    exact e_X11_tellAtom_41  h
def s_X11_tellOne_204 (a2 : Int32) (a3 : Int32) (t0 : Nat) (t1 : Int32) (σ : St) : Option (Unit × St) :=
 if isO σ 11 t0 = true then (bd (s_X11_await t0 t1 a2 (a3 - 1) σ) fun r4 σ2 =>
 some ((), σ2)) else none
set_option maxHeartbeats 4000000 in
set_option maxRecDepth 100000 in
theorem e_X11_tellOne_204 {r : Unit} {σ' : St} : ∀ {a2 : Int32} {a3 : Int32} {t0 : Nat} {t1 : Int32} {σ : St}, s_X11_tellOne_204 a2 a3 t0 t1 σ = some (r, σ') → Ev M_X11_tellOne (5) 204 [(2, .int (a2)), (3, .int (a3))] [.int (t1), .ref t0] σ none σ' := by
  intro a2 a3 t0 t1 σ h
  unfold s_X11_tellOne_204 at h
  refine ev_iload_n 0 dX11_tellOne_204 rfl ?_
  refine ev_iload_n 1 dX11_tellOne_205 rfl ?_
  refine ev_iconst (v := 1) dX11_tellOne_206 (by decide) ?_
  refine ev_isub dX11_tellOne_207 ?_
  obtain ⟨g1, h⟩ := gd_some h
  obtain ⟨r4, σ2, e3, h⟩ := bd_some h
  refine ev_invVv (As := [.int (t1), .int (a2), .int (a3 - 1)]) (st := []) dX11_tellOne_208 cb_X11_await tp_1249 tp_1251 tp_83 kf11 rfl (by omega) g1 rfl rfl (Nat.le_of_ble_eq_true rfl) (x_X11_await e3) ?_
  refine ev_goto (tgt := 232) dX11_tellOne_211 rfl ?_
  exact ev_retV dX11_tellOne_232 rfl h
def s_X11_tellOne_188 (a0 : Nat) (a2 : Int32) (a3 : Int32) (a4 : Int32) (a5 : Int32) (a7 : Int32) (t0 : Nat) (t1 : Int32) (σ : St) : Option (Unit × St) :=
 if isO σ 11 t0 = true then (bd (s_X11_tell t0 t1 σ) fun r8 σ6 =>
 if a7 = 0 then (s_X11_tellOne_204 a2 a3 a0 a5 σ6) else (s_X11_tellOne_204 a2 a3 a0 a4 σ6)) else none
set_option maxHeartbeats 4000000 in
set_option maxRecDepth 100000 in
theorem e_X11_tellOne_188 {r : Unit} {σ' : St} : ∀ {a0 : Nat} {a2 : Int32} {a3 : Int32} {a4 : Int32} {a5 : Int32} {a7 : Int32} {t0 : Nat} {t1 : Int32} {σ : St}, s_X11_tellOne_188 a0 a2 a3 a4 a5 a7 t0 t1 σ = some (r, σ') → Ev M_X11_tellOne (5) 188 [(0, .ref a0), (2, .int (a2)), (3, .int (a3)), (4, .int (a4)), (5, .int (a5)), (7, .int (a7))] [.int (t1), .ref t0] σ none σ' := by
  intro a0 a2 a3 a4 a5 a7 t0 t1 σ h
  unfold s_X11_tellOne_188 at h
  obtain ⟨g5, h⟩ := gd_some h
  obtain ⟨r8, σ6, e7, h⟩ := bd_some h
  refine ev_invVv (As := [.int (t1)]) (st := []) dX11_tellOne_188 cb_X11_tell tp_1261 tp_1263 tp_86 kf11 rfl (by omega) g5 rfl rfl (Nat.le_of_ble_eq_true rfl) (x_X11_tell e7) ?_
  refine ev_aload_nR 0 dX11_tellOne_191 rfl ?_
  refine ev_iload 5 dX11_tellOne_192 rfl ?_
  rcases it_some h with ⟨c9, h⟩ | ⟨c9, h⟩
  · refine ev_if_eq (tgt := 202) dX11_tellOne_194 rfl c9 ?_
    refine ev_iload 4 dX11_tellOne_202 rfl ?_
    refine ev_sub (ls' := [(2, .int (a2)), (3, .int (a3))]) [1, 2] rfl ?_
    exact e_X11_tellOne_204  h
  · refine ev_if_eq_n 202 dX11_tellOne_194 rfl c9 ?_
    refine ev_iload 3 dX11_tellOne_197 rfl ?_
    refine ev_goto (tgt := 204) dX11_tellOne_199 rfl ?_
    refine ev_sub (ls' := [(2, .int (a2)), (3, .int (a3))]) [1, 2] rfl ?_
    exact e_X11_tellOne_204  h
def s_X11_tellOne (a0 : Nat) (a1 : Int32) (a2 : Int32) (a3 : Int32) (σ : St) : Option (Unit × St) :=
 if isO σ 11 a0 = true then (op (sP σ a0 8) fun p11 =>
 if isO σ 13 p11 = true then (if inR a1 (alen σ p11) = true then (lt (sI σ p11 a1.toNatClampNeg : Int32) fun v15 =>
 op (sP σ a0 9) fun p17 =>
 if isO σ 13 p17 = true then (if inR a1 (alen σ p17) = true then (lt (sI σ p17 a1.toNatClampNeg : Int32) fun v21 =>
 op (sP σ a0 7) fun p23 =>
 if isO σ 13 p23 = true then (if inR a1 (alen σ p23) = true then (lt (sI σ p23 a1.toNatClampNeg : Int32) fun v27 =>
 if v27 = 0 then (bd (s_X11_tellAtom a0 v15 a2 a3 σ) fun r32 σ30 =>
 some ((), σ30)) else (if v27 = 1 then (some ((), σ)) else (if v27 = 2 then (some ((), σ)) else (if v27 = 3 then (bd (s_X11_await a0 v15 a2 (a3 - 1) σ) fun r38 σ36 =>
 some ((), σ36)) else (if v27 = 4 then (bd (s_X11_firstPart a0 a1 a2 a3 σ) fun r42 σ40 =>
 if isO σ40 11 a0 = true then (bd (s_X11_tell a0 (200 + r42) σ40) fun r46 σ44 =>
 if isO σ44 11 a0 = true then (bd (s_X11_await a0 v21 (a2 &&& (r42 ^^^ ((-1)))) (a3 - 1) σ44) fun r50 σ48 =>
 if isO σ48 11 a0 = true then (bd (s_X11_await a0 v15 r42 (a3 - 1) σ48) fun r54 σ52 =>
 some ((), σ52)) else none) else none) else none) else (if v27 = 5 then (bd (s_X11_await a0 v21 a2 (a3 - 1) σ) fun r58 σ56 =>
 if isO σ56 11 a0 = true then (bd (s_X11_await a0 v15 a2 (a3 - 1) σ56) fun r62 σ60 =>
 some ((), σ60)) else none) else (if v27 = 6 then (bd (s_X11_isBelow a0 v15 a2 a3 σ) fun r66 σ64 =>
 if r66 = 0 then (s_X11_tellOne_188 a0 a2 a3 v15 v21 r66 a0 301 σ64) else (s_X11_tellOne_188 a0 a2 a3 v15 v21 r66 a0 300 σ64)) else (if v27 = 7 then (bd (s_X11_await a0 v15 (a2 ||| (1 <<< (v21 &&& 31))) (a3 - 1) σ) fun r71 σ69 =>
 some ((), σ69)) else (some ((), σ)))))))))) else none) else none) else none) else none) else none) else none) else none
set_option maxHeartbeats 4000000 in
set_option maxRecDepth 100000 in
theorem x_X11_tellOne {a0 : Nat} {a1 : Int32} {a2 : Int32} {a3 : Int32} {σ : St} {r : Unit} {σ' : St} (h : s_X11_tellOne a0 a1 a2 a3 σ = some (r, σ')) : Ex M_X11_tellOne (5) [.ref a0, .int (a1), .int (a2), .int (a3)] σ none σ' := by
  unfold s_X11_tellOne at h
  refine ex_of (by decide) rfl (Nat.le_of_ble_eq_true rfl) ?_
  show Ev _ _ 0 [(0, .ref a0), (1, .int (a1)), (2, .int (a2)), (3, .int (a3))] [] _ _ _
  refine ev_aload_nR 0 dX11_tellOne_0 rfl ?_
  obtain ⟨g10, h⟩ := gd_some h
  obtain ⟨p11, e12, h⟩ := op_some h
  refine ev_getPR dX11_tellOne_1 fl_X11_26 rfl g10 e12 ?_
  refine ev_iload_n 1 dX11_tellOne_4 rfl ?_
  obtain ⟨g13, h⟩ := gd_some h
  obtain ⟨g14, h⟩ := gd_some h
  refine ev_iald dX11_tellOne_5 (isA_O g13) g14 ?_
  obtain ⟨v15, e16, h⟩ := lt_some h
  refine ev_topI e16 ?_
  refine ev_istore (ls' := [(4, .int (v15)), (0, .ref a0), (1, .int (a1)), (2, .int (a2)), (3, .int (a3))]) dX11_tellOne_6 (by decide) rfl ?_
  refine ev_aload_nR 1 dX11_tellOne_8 rfl ?_
  obtain ⟨p17, e18, h⟩ := op_some h
  refine ev_getPR dX11_tellOne_9 fl_X11_29 rfl g10 e18 ?_
  refine ev_iload_n 2 dX11_tellOne_12 rfl ?_
  obtain ⟨g19, h⟩ := gd_some h
  obtain ⟨g20, h⟩ := gd_some h
  refine ev_iald dX11_tellOne_13 (isA_O g19) g20 ?_
  obtain ⟨v21, e22, h⟩ := lt_some h
  refine ev_topI e22 ?_
  refine ev_istore (ls' := [(5, .int (v21)), (4, .int (v15)), (0, .ref a0), (1, .int (a1)), (2, .int (a2)), (3, .int (a3))]) dX11_tellOne_14 (by decide) rfl ?_
  refine ev_aload_nR 2 dX11_tellOne_16 rfl ?_
  obtain ⟨p23, e24, h⟩ := op_some h
  refine ev_getPR dX11_tellOne_17 fl_X11_23 rfl g10 e24 ?_
  refine ev_iload_n 3 dX11_tellOne_20 rfl ?_
  obtain ⟨g25, h⟩ := gd_some h
  obtain ⟨g26, h⟩ := gd_some h
  refine ev_iald dX11_tellOne_21 (isA_O g25) g26 ?_
  obtain ⟨v27, e28, h⟩ := lt_some h
  refine ev_topI e28 ?_
  rcases it_some h with ⟨c29, h⟩ | ⟨c29, h⟩
  · refine ev_tableIn (off := 46) (tgt := 68) dX11_tellOne_22 0 (by rw [c29]; decide) (by decide) rfl rfl ?_
    refine ev_aload_nR 2 dX11_tellOne_68 rfl ?_
    refine ev_iload 1 dX11_tellOne_69 rfl ?_
    refine ev_iload_n 4 dX11_tellOne_71 rfl ?_
    refine ev_iload_n 5 dX11_tellOne_72 rfl ?_
    obtain ⟨r32, σ30, e31, h⟩ := bd_some h
    refine ev_invVv (As := [.int (v15), .int (a2), .int (a3)]) (st := []) dX11_tellOne_73 cb_X11_tellAtom tp_1257 tp_1259 tp_85 kf11 rfl (by omega) g10 rfl rfl (Nat.le_of_ble_eq_true rfl) (x_X11_tellAtom e31) ?_
    refine ev_goto (tgt := 232) dX11_tellOne_76 rfl ?_
    exact ev_retV dX11_tellOne_232 rfl h
  rcases it_some h with ⟨c33, h⟩ | ⟨c33, h⟩
  · refine ev_tableIn (off := 210) (tgt := 232) dX11_tellOne_22 1 (by rw [c33]; decide) (by decide) rfl rfl ?_
    exact ev_retV dX11_tellOne_232 rfl h
  rcases it_some h with ⟨c34, h⟩ | ⟨c34, h⟩
  · refine ev_tableIn (off := 210) (tgt := 232) dX11_tellOne_22 2 (by rw [c34]; decide) (by decide) rfl rfl ?_
    exact ev_retV dX11_tellOne_232 rfl h
  rcases it_some h with ⟨c35, h⟩ | ⟨c35, h⟩
  · refine ev_tableIn (off := 57) (tgt := 79) dX11_tellOne_22 3 (by rw [c35]; decide) (by decide) rfl rfl ?_
    refine ev_aload_nR 2 dX11_tellOne_79 rfl ?_
    refine ev_iload 1 dX11_tellOne_80 rfl ?_
    refine ev_iload_n 4 dX11_tellOne_82 rfl ?_
    refine ev_iload_n 5 dX11_tellOne_83 rfl ?_
    refine ev_iconst (v := 1) dX11_tellOne_84 (by decide) ?_
    refine ev_isub dX11_tellOne_85 ?_
    obtain ⟨r38, σ36, e37, h⟩ := bd_some h
    refine ev_invVv (As := [.int (v15), .int (a2), .int (a3 - 1)]) (st := []) dX11_tellOne_86 cb_X11_await tp_1249 tp_1251 tp_83 kf11 rfl (by omega) g10 rfl rfl (Nat.le_of_ble_eq_true rfl) (x_X11_await e37) ?_
    refine ev_goto (tgt := 232) dX11_tellOne_89 rfl ?_
    exact ev_retV dX11_tellOne_232 rfl h
  rcases it_some h with ⟨c39, h⟩ | ⟨c39, h⟩
  · refine ev_tableIn (off := 70) (tgt := 92) dX11_tellOne_22 4 (by rw [c39]; decide) (by decide) rfl rfl ?_
    refine ev_aload_nR 2 dX11_tellOne_92 rfl ?_
    refine ev_iload_n 3 dX11_tellOne_93 rfl ?_
    refine ev_iload_n 4 dX11_tellOne_94 rfl ?_
    refine ev_iload_n 5 dX11_tellOne_95 rfl ?_
    obtain ⟨r42, σ40, e41, h⟩ := bd_some h
    refine ev_invVi (As := [.int (a1), .int (a2), .int (a3)]) (st := []) dX11_tellOne_96 cb_X11_firstPart tp_1193 tp_1195 tp_75 kf11 rfl (by omega) g10 rfl rfl (Nat.le_of_ble_eq_true rfl) (x_X11_firstPart e41) ?_
    refine ev_istore (ls' := [(6, .int (r42)), (5, .int (v21)), (4, .int (v15)), (0, .ref a0), (1, .int (a1)), (2, .int (a2)), (3, .int (a3))]) dX11_tellOne_99 (by decide) rfl ?_
    refine ev_aload_nR 3 dX11_tellOne_101 rfl ?_
    refine ev_sipush (v := 200) dX11_tellOne_102 (by decide) ?_
    refine ev_iload 0 dX11_tellOne_105 rfl ?_
    refine ev_iadd dX11_tellOne_107 ?_
    obtain ⟨g43, h⟩ := gd_some h
    obtain ⟨r46, σ44, e45, h⟩ := bd_some h
    refine ev_invVv (As := [.int (200 + r42)]) (st := []) dX11_tellOne_108 cb_X11_tell tp_1261 tp_1263 tp_86 kf11 rfl (by omega) g43 rfl rfl (Nat.le_of_ble_eq_true rfl) (x_X11_tell e45) ?_
    refine ev_aload_nR 3 dX11_tellOne_111 rfl ?_
    refine ev_iload 1 dX11_tellOne_112 rfl ?_
    refine ev_iload_n 5 dX11_tellOne_114 rfl ?_
    refine ev_iload 0 dX11_tellOne_115 rfl ?_
    refine ev_iconst (v := (-1)) dX11_tellOne_117 (by decide) ?_
    refine ev_ixor dX11_tellOne_118 ?_
    refine ev_iand dX11_tellOne_119 ?_
    refine ev_iload_n 6 dX11_tellOne_120 rfl ?_
    refine ev_iconst (v := 1) dX11_tellOne_121 (by decide) ?_
    refine ev_isub dX11_tellOne_122 ?_
    obtain ⟨g47, h⟩ := gd_some h
    obtain ⟨r50, σ48, e49, h⟩ := bd_some h
    refine ev_invVv (As := [.int (v21), .int (a2 &&& (r42 ^^^ ((-1)))), .int (a3 - 1)]) (st := []) dX11_tellOne_123 cb_X11_await tp_1249 tp_1251 tp_83 kf11 rfl (by omega) g47 rfl rfl (Nat.le_of_ble_eq_true rfl) (x_X11_await e49) ?_
    refine ev_aload_nR 3 dX11_tellOne_126 rfl ?_
    refine ev_iload 2 dX11_tellOne_127 rfl ?_
    refine ev_iload 0 dX11_tellOne_129 rfl ?_
    refine ev_iload_n 6 dX11_tellOne_131 rfl ?_
    refine ev_iconst (v := 1) dX11_tellOne_132 (by decide) ?_
    refine ev_isub dX11_tellOne_133 ?_
    obtain ⟨g51, h⟩ := gd_some h
    obtain ⟨r54, σ52, e53, h⟩ := bd_some h
    refine ev_invVv (As := [.int (v15), .int (r42), .int (a3 - 1)]) (st := []) dX11_tellOne_134 cb_X11_await tp_1249 tp_1251 tp_83 kf11 rfl (by omega) g51 rfl rfl (Nat.le_of_ble_eq_true rfl) (x_X11_await e53) ?_
    refine ev_goto (tgt := 232) dX11_tellOne_137 rfl ?_
    exact ev_retV dX11_tellOne_232 rfl h
  rcases it_some h with ⟨c55, h⟩ | ⟨c55, h⟩
  · refine ev_tableIn (off := 118) (tgt := 140) dX11_tellOne_22 5 (by rw [c55]; decide) (by decide) rfl rfl ?_
    refine ev_aload_nR 2 dX11_tellOne_140 rfl ?_
    refine ev_iload 0 dX11_tellOne_141 rfl ?_
    refine ev_iload_n 4 dX11_tellOne_143 rfl ?_
    refine ev_iload_n 5 dX11_tellOne_144 rfl ?_
    refine ev_iconst (v := 1) dX11_tellOne_145 (by decide) ?_
    refine ev_isub dX11_tellOne_146 ?_
    obtain ⟨r58, σ56, e57, h⟩ := bd_some h
    refine ev_invVv (As := [.int (v21), .int (a2), .int (a3 - 1)]) (st := []) dX11_tellOne_147 cb_X11_await tp_1249 tp_1251 tp_83 kf11 rfl (by omega) g10 rfl rfl (Nat.le_of_ble_eq_true rfl) (x_X11_await e57) ?_
    refine ev_aload_nR 2 dX11_tellOne_150 rfl ?_
    refine ev_iload 1 dX11_tellOne_151 rfl ?_
    refine ev_iload_n 4 dX11_tellOne_153 rfl ?_
    refine ev_iload_n 5 dX11_tellOne_154 rfl ?_
    refine ev_iconst (v := 1) dX11_tellOne_155 (by decide) ?_
    refine ev_isub dX11_tellOne_156 ?_
    obtain ⟨g59, h⟩ := gd_some h
    obtain ⟨r62, σ60, e61, h⟩ := bd_some h
    refine ev_invVv (As := [.int (v15), .int (a2), .int (a3 - 1)]) (st := []) dX11_tellOne_157 cb_X11_await tp_1249 tp_1251 tp_83 kf11 rfl (by omega) g59 rfl rfl (Nat.le_of_ble_eq_true rfl) (x_X11_await e61) ?_
    refine ev_goto (tgt := 232) dX11_tellOne_160 rfl ?_
    exact ev_retV dX11_tellOne_232 rfl h
  rcases it_some h with ⟨c63, h⟩ | ⟨c63, h⟩
  · refine ev_tableIn (off := 141) (tgt := 163) dX11_tellOne_22 6 (by rw [c63]; decide) (by decide) rfl rfl ?_
    refine ev_aload_nR 2 dX11_tellOne_163 rfl ?_
    refine ev_iload 1 dX11_tellOne_164 rfl ?_
    refine ev_iload_n 4 dX11_tellOne_166 rfl ?_
    refine ev_iload_n 5 dX11_tellOne_167 rfl ?_
    obtain ⟨r66, σ64, e65, h⟩ := bd_some h
    refine ev_invVi (As := [.int (v15), .int (a2), .int (a3)]) (st := []) dX11_tellOne_168 cb_X11_isBelow tp_1189 tp_1191 tp_74 kf11 rfl (by omega) g10 rfl rfl (Nat.le_of_ble_eq_true rfl) (x_X11_isBelow e65) ?_
    refine ev_istore (ls' := [(7, .int (r66)), (5, .int (v21)), (4, .int (v15)), (0, .ref a0), (1, .int (a1)), (2, .int (a2)), (3, .int (a3))]) dX11_tellOne_171 (by decide) rfl ?_
    refine ev_aload_nR 3 dX11_tellOne_173 rfl ?_
    refine ev_iload 0 dX11_tellOne_174 rfl ?_
    rcases it_some h with ⟨c67, h⟩ | ⟨c67, h⟩
    · refine ev_if_eq (tgt := 185) dX11_tellOne_176 rfl c67 ?_
      refine ev_sipush (v := 301) dX11_tellOne_185 (by decide) ?_
      refine ev_sub (ls' := [(0, .ref a0), (2, .int (a2)), (3, .int (a3)), (4, .int (v15)), (5, .int (v21)), (7, .int (r66))]) [3, 5, 6, 2, 1, 0] rfl ?_
      exact e_X11_tellOne_188  h
    · refine ev_if_eq_n 185 dX11_tellOne_176 rfl c67 ?_
      refine ev_sipush (v := 300) dX11_tellOne_179 (by decide) ?_
      refine ev_goto (tgt := 188) dX11_tellOne_182 rfl ?_
      refine ev_sub (ls' := [(0, .ref a0), (2, .int (a2)), (3, .int (a3)), (4, .int (v15)), (5, .int (v21)), (7, .int (r66))]) [3, 5, 6, 2, 1, 0] rfl ?_
      exact e_X11_tellOne_188  h
  rcases it_some h with ⟨c68, h⟩ | ⟨c68, h⟩
  · refine ev_tableIn (off := 192) (tgt := 214) dX11_tellOne_22 7 (by rw [c68]; decide) (by decide) rfl rfl ?_
    refine ev_aload_nR 2 dX11_tellOne_214 rfl ?_
    refine ev_iload 1 dX11_tellOne_215 rfl ?_
    refine ev_iload_n 4 dX11_tellOne_217 rfl ?_
    refine ev_iconst (v := 1) dX11_tellOne_218 (by decide) ?_
    refine ev_iload 0 dX11_tellOne_219 rfl ?_
    refine ev_ishl dX11_tellOne_221 ?_
    refine ev_ior dX11_tellOne_222 ?_
    refine ev_iload_n 5 dX11_tellOne_223 rfl ?_
    refine ev_iconst (v := 1) dX11_tellOne_224 (by decide) ?_
    refine ev_isub dX11_tellOne_225 ?_
    obtain ⟨r71, σ69, e70, h⟩ := bd_some h
    refine ev_invVv (As := [.int (v15), .int (a2 ||| (1 <<< (v21 &&& 31))), .int (a3 - 1)]) (st := []) dX11_tellOne_226 cb_X11_await tp_1249 tp_1251 tp_83 kf11 rfl (by omega) g10 rfl rfl (Nat.le_of_ble_eq_true rfl) (x_X11_await e70) ?_
    refine ev_goto (tgt := 232) dX11_tellOne_229 rfl ?_
    exact ev_retV dX11_tellOne_232 rfl h
  have hx : v27.toInt < 0 ∨ 7 < v27.toInt := tab_out v27 0 7 (by decide) (fun k h1 h2 => by
      rcases (show k = 0 ∨ k = 1 ∨ k = 2 ∨ k = 3 ∨ k = 4 ∨ k = 5 ∨ k = 6 ∨ k = 7 by omega) with rfl | rfl | rfl | rfl | rfl | rfl | rfl | rfl
      · exact ne_toInt c29
      · exact ne_toInt c33
      · exact ne_toInt c34
      · exact ne_toInt c35
      · exact ne_toInt c39
      · exact ne_toInt c55
      · exact ne_toInt c63
      · exact ne_toInt c68)
  refine ev_tableOut (tgt := 232) dX11_tellOne_22 hx rfl ?_
  exact ev_retV dX11_tellOne_232 rfl h
def sb_X11_layWay_47 (k47 : Nat → St → Option (Int32 × St)) (a0 : Nat) (σ : St) : Option (Int32 × St) :=
 if isO σ 11 a0 = true then (if (sI σ a0 30) ≤ 0 then (some (1, σ)) else (lt (setI σ a0 30 ((sI σ a0 30) - 1)) fun σ3 =>
 op (sP σ3 a0 27) fun p5 =>
 if isO σ3 13 p5 = true then (if inR (sI σ3 a0 30) (alen σ3 p5) = true then (op (sP σ3 a0 28) fun p9 =>
 if isO σ3 13 p9 = true then (if inR (sI σ3 a0 30) (alen σ3 p9) = true then (op (sP σ3 a0 29) fun p13 =>
 if isO σ3 13 p13 = true then (if inR (sI σ3 a0 30) (alen σ3 p13) = true then (bd (s_X11_tellOne a0 (sI σ3 p5 ((sI σ3 a0 30).toNatClampNeg)) (sI σ3 p9 ((sI σ3 a0 30).toNatClampNeg)) (sI σ3 p13 ((sI σ3 a0 30).toNatClampNeg)) σ3) fun r19 σ17 =>
 k47 a0 σ17) else none) else none) else none) else none) else none) else none)) else none
def s_X11_layWay_47 (F : Nat) : Nat → St → Option (Int32 × St) := lp (fun _ _ => none) (sb_X11_layWay_47 ) F
set_option maxHeartbeats 4000000 in
set_option maxRecDepth 100000 in
theorem e_X11_layWay_47 {r : Int32} {σ' : St} (F : Nat) : ∀ {a0 : Nat} {σ : St}, s_X11_layWay_47 F a0 σ = some (r, σ') → Ev M_X11_layWay (8) 47 [(0, .ref a0)] [] σ (some (.int r)) σ' := by
  induction F with
  | zero => intro a0 σ h; cases h
  | succ F ih =>
    intro a0 σ h
    change sb_X11_layWay_47  (s_X11_layWay_47 F) a0 σ = some (r, σ') at h
    unfold sb_X11_layWay_47 at h
    have hk47 := @ih
    refine ev_aload_nR 0 dX11_layWay_47 rfl ?_
    obtain ⟨g1, h⟩ := gd_some h
    refine ev_getI dX11_layWay_48 fl_X11_226 rfl g1 ?_
    rcases it_some h with ⟨c2, h⟩ | ⟨c2, h⟩
    · refine ev_if_le (tgt := 98) dX11_layWay_51 rfl c2 ?_
      refine ev_iconst (v := 1) dX11_layWay_98 (by decide) ?_
      exact ev_retI .boolean dX11_layWay_99 rfl rfl h
    · refine ev_if_le_n 98 dX11_layWay_51 rfl c2 ?_
      refine ev_aload_nR 0 dX11_layWay_54 rfl ?_
      refine ev_dup dX11_layWay_55 rfl ?_
      refine ev_getI dX11_layWay_56 fl_X11_226 rfl g1 ?_
      refine ev_iconst (v := 1) dX11_layWay_59 (by decide) ?_
      refine ev_isub dX11_layWay_60 ?_
      obtain ⟨σ3, e4, h⟩ := lt_some h
      refine ev_putI dX11_layWay_61 fl_X11_226 rfl (Or.inl rfl) g1 ⟨rfl, rfl⟩ ?_
      refine ev_st e4 ?_
      refine ev_aload_nR 0 dX11_layWay_64 rfl ?_
      refine ev_aload_nR 0 dX11_layWay_65 rfl ?_
      obtain ⟨p5, e6, h⟩ := op_some h
      refine ev_getPR dX11_layWay_66 fl_X11_70 rfl (isO_I e4 g1) e6 ?_
      refine ev_aload_nR 0 dX11_layWay_69 rfl ?_
      refine ev_getI dX11_layWay_70 fl_X11_226 rfl (isO_I e4 g1) ?_
      obtain ⟨g7, h⟩ := gd_some h
      obtain ⟨g8, h⟩ := gd_some h
      refine ev_iald dX11_layWay_73 (isA_O g7) g8 ?_
      refine ev_aload_nR 0 dX11_layWay_74 rfl ?_
      obtain ⟨p9, e10, h⟩ := op_some h
      refine ev_getPR dX11_layWay_75 fl_X11_73 rfl (isO_I e4 g1) e10 ?_
      refine ev_aload_nR 0 dX11_layWay_78 rfl ?_
      refine ev_getI dX11_layWay_79 fl_X11_226 rfl (isO_I e4 g1) ?_
      obtain ⟨g11, h⟩ := gd_some h
      obtain ⟨g12, h⟩ := gd_some h
      refine ev_iald dX11_layWay_82 (isA_O g11) g12 ?_
      refine ev_aload_nR 0 dX11_layWay_83 rfl ?_
      obtain ⟨p13, e14, h⟩ := op_some h
      refine ev_getPR dX11_layWay_84 fl_X11_76 rfl (isO_I e4 g1) e14 ?_
      refine ev_aload_nR 0 dX11_layWay_87 rfl ?_
      refine ev_getI dX11_layWay_88 fl_X11_226 rfl (isO_I e4 g1) ?_
      obtain ⟨g15, h⟩ := gd_some h
      obtain ⟨g16, h⟩ := gd_some h
      refine ev_iald dX11_layWay_91 (isA_O g15) g16 ?_
      obtain ⟨r19, σ17, e18, h⟩ := bd_some h
      refine ev_invVv (As := [.int (sI σ3 p5 ((sI σ3 a0 30).toNatClampNeg)), .int (sI σ3 p9 ((sI σ3 a0 30).toNatClampNeg)), .int (sI σ3 p13 ((sI σ3 a0 30).toNatClampNeg))]) (st := []) dX11_layWay_92 cb_X11_tellOne tp_1253 tp_1255 tp_84 kf11 rfl (by omega) (isO_I e4 g1) rfl rfl (Nat.le_of_ble_eq_true rfl) (x_X11_tellOne e18) ?_
      refine ev_goto (tgt := 47) dX11_layWay_95 rfl ?_
      refine ev_sub (ls' := [(0, .ref a0)]) [0] rfl ?_
      exact hk47 h
def s_X11_layWay (a0 : Nat) (σ : St) : Option (Int32 × St) :=
 if isO σ 11 a0 = true then (bd (s_X11_lay a0 σ) fun r23 σ21 =>
 if isO σ21 11 a0 = true then (lt (setI σ21 a0 26 0) fun σ25 =>
 lt (setI σ25 a0 30 0) fun σ27 =>
 bd (s_X11_all a0 σ27) fun r31 σ29 =>
 if isO σ29 11 a0 = true then (bd (s_X11_heightOf a0 r31 σ29) fun r35 σ33 =>
 if (0 : Int32) ≤ r35 then (if isO σ33 11 a0 = true then (bd (s_X11_all a0 σ33) fun r40 σ38 =>
 if isO σ38 11 a0 = true then (bd (s_X11_all a0 σ38) fun r44 σ42 =>
 if isO σ42 11 a0 = true then (bd (s_X11_heightOf a0 r44 σ42) fun r48 σ46 =>
 if isO σ46 11 a0 = true then (bd (s_X11_await a0 (sI σ33 a0 10) r40 r48 σ46) fun r52 σ50 =>
 s_X11_layWay_47 16000 a0 σ50) else none) else none) else none) else none) else (some (0, σ33))) else none) else none) else none
set_option maxHeartbeats 4000000 in
set_option maxRecDepth 100000 in
theorem x_X11_layWay {a0 : Nat} {σ : St} {r : Int32} {σ' : St} (h : s_X11_layWay a0 σ = some (r, σ')) : Ex M_X11_layWay (8) [.ref a0] σ (some (.int r)) σ' := by
  unfold s_X11_layWay at h
  refine ex_of (by decide) rfl (Nat.le_of_ble_eq_true rfl) ?_
  show Ev _ _ 0 [(0, .ref a0)] [] _ _ _
  refine ev_aload_nR 0 dX11_layWay_0 rfl ?_
  obtain ⟨g20, h⟩ := gd_some h
  obtain ⟨r23, σ21, e22, h⟩ := bd_some h
  refine ev_invVv (As := []) (st := []) dX11_layWay_1 cb_X11_lay tp_1170 tp_1172 tp_70 kf11 rfl (by omega) g20 rfl rfl (Nat.le_of_ble_eq_true rfl) (x_X11_lay e22) ?_
  refine ev_aload_nR 0 dX11_layWay_4 rfl ?_
  refine ev_iconst (v := 0) dX11_layWay_5 (by decide) ?_
  obtain ⟨g24, h⟩ := gd_some h
  obtain ⟨σ25, e26, h⟩ := lt_some h
  refine ev_putI dX11_layWay_6 fl_X11_229 rfl (Or.inl rfl) g24 ⟨rfl, rfl⟩ ?_
  refine ev_st e26 ?_
  refine ev_aload_nR 0 dX11_layWay_9 rfl ?_
  refine ev_iconst (v := 0) dX11_layWay_10 (by decide) ?_
  obtain ⟨σ27, e28, h⟩ := lt_some h
  refine ev_putI dX11_layWay_11 fl_X11_226 rfl (Or.inl rfl) (isO_I e26 g24) ⟨rfl, rfl⟩ ?_
  refine ev_st e28 ?_
  refine ev_aload_nR 0 dX11_layWay_14 rfl ?_
  refine ev_aload_nR 0 dX11_layWay_15 rfl ?_
  obtain ⟨r31, σ29, e30, h⟩ := bd_some h
  refine ev_invVi (As := []) (st := [.ref a0]) dX11_layWay_16 cb_X11_all tp_1162 tp_1164 tp_68 kf11 rfl (by omega) (isO_I e28 (isO_I e26 g24)) rfl rfl (Nat.le_of_ble_eq_true rfl) (x_X11_all e30) ?_
  obtain ⟨g32, h⟩ := gd_some h
  obtain ⟨r35, σ33, e34, h⟩ := bd_some h
  refine ev_invVi (As := [.int (r31)]) (st := []) dX11_layWay_19 cb_X11_heightOf tp_1197 tp_1199 tp_76 kf11 rfl (by omega) g32 rfl rfl (Nat.le_of_ble_eq_true rfl) (x_X11_heightOf e34) ?_
  rcases it_some h with ⟨c36, h⟩ | ⟨c36, h⟩
  · refine ev_if_ge (tgt := 27) dX11_layWay_22 rfl c36 ?_
    refine ev_aload_nR 0 dX11_layWay_27 rfl ?_
    refine ev_aload_nR 0 dX11_layWay_28 rfl ?_
    obtain ⟨g37, h⟩ := gd_some h
    refine ev_getI dX11_layWay_29 fl_X11_98 rfl g37 ?_
    refine ev_aload_nR 0 dX11_layWay_32 rfl ?_
    obtain ⟨r40, σ38, e39, h⟩ := bd_some h
    refine ev_invVi (As := []) (st := [.int (sI σ33 a0 10), .ref a0]) dX11_layWay_33 cb_X11_all tp_1162 tp_1164 tp_68 kf11 rfl (by omega) g37 rfl rfl (Nat.le_of_ble_eq_true rfl) (x_X11_all e39) ?_
    refine ev_aload_nR 0 dX11_layWay_36 rfl ?_
    refine ev_aload_nR 0 dX11_layWay_37 rfl ?_
    obtain ⟨g41, h⟩ := gd_some h
    obtain ⟨r44, σ42, e43, h⟩ := bd_some h
    refine ev_invVi (As := []) (st := [.ref a0, .int (r40), .int (sI σ33 a0 10), .ref a0]) dX11_layWay_38 cb_X11_all tp_1162 tp_1164 tp_68 kf11 rfl (by omega) g41 rfl rfl (Nat.le_of_ble_eq_true rfl) (x_X11_all e43) ?_
    obtain ⟨g45, h⟩ := gd_some h
    obtain ⟨r48, σ46, e47, h⟩ := bd_some h
    refine ev_invVi (As := [.int (r44)]) (st := [.int (r40), .int (sI σ33 a0 10), .ref a0]) dX11_layWay_41 cb_X11_heightOf tp_1197 tp_1199 tp_76 kf11 rfl (by omega) g45 rfl rfl (Nat.le_of_ble_eq_true rfl) (x_X11_heightOf e47) ?_
    obtain ⟨g49, h⟩ := gd_some h
    obtain ⟨r52, σ50, e51, h⟩ := bd_some h
    refine ev_invVv (As := [.int (sI σ33 a0 10), .int (r40), .int (r48)]) (st := []) dX11_layWay_44 cb_X11_await tp_1249 tp_1251 tp_83 kf11 rfl (by omega) g49 rfl rfl (Nat.le_of_ble_eq_true rfl) (x_X11_await e51) ?_
    refine ev_sub (ls' := [(0, .ref a0)]) [0] rfl ?_
    exact e_X11_layWay_47 16000 h
  · refine ev_if_ge_n 27 dX11_layWay_22 rfl c36 ?_
    refine ev_iconst (v := 0) dX11_layWay_25 (by decide) ?_
    exact ev_retI .boolean dX11_layWay_26 rfl rfl h
def s_X11_term (a0 : Nat) (a1 : Int32) (σ : St) : Option (Int32 × St) :=
 if ((-1)) ≤ a1 then (if isO σ 11 a0 = true then (bd (s_X11_isGoal a0 σ) fun r5 σ3 =>
 if r5 = 0 then (some ((-3), σ3)) else (if isO σ3 11 a0 = true then (bd (s_X11_layWay a0 σ3) fun r10 σ8 =>
 if r10 = 0 then (some ((-6), σ8)) else (if a1 = ((-1)) then (if isO σ8 11 a0 = true then (some (sI σ8 a0 26, σ8)) else none) else (if isO σ8 11 a0 = true then (if (sI σ8 a0 26) ≤ a1 then (some ((-6), σ8)) else (op (sP σ8 a0 25) fun p15 =>
 if isO σ8 13 p15 = true then (if inR a1 (alen σ8 p15) = true then (some (sI σ8 p15 a1.toNatClampNeg, σ8)) else none) else none)) else none))) else none)) else none) else (some ((-2), σ))
set_option maxHeartbeats 4000000 in
set_option maxRecDepth 100000 in
theorem x_X11_term {a0 : Nat} {a1 : Int32} {σ : St} {r : Int32} {σ' : St} (h : s_X11_term a0 a1 σ = some (r, σ')) : Ex M_X11_term (9) [.ref a0, .int (a1)] σ (some (.int r)) σ' := by
  unfold s_X11_term at h
  refine ex_of (by decide) rfl (Nat.le_of_ble_eq_true rfl) ?_
  show Ev _ _ 0 [(0, .ref a0), (1, .int (a1))] [] _ _ _
  refine ev_iload_n 1 dX11_term_0 rfl ?_
  refine ev_iconst (v := (-1)) dX11_term_1 (by decide) ?_
  rcases it_some h with ⟨c1, h⟩ | ⟨c1, h⟩
  · refine ev_icmp_ge (tgt := 8) dX11_term_2 rfl c1 ?_
    refine ev_aload_nR 0 dX11_term_8 rfl ?_
    obtain ⟨g2, h⟩ := gd_some h
    obtain ⟨r5, σ3, e4, h⟩ := bd_some h
    refine ev_invVi (As := []) (st := []) dX11_term_9 cb_X11_isGoal tp_1166 tp_1168 tp_69 kf11 rfl (by omega) g2 rfl rfl (Nat.le_of_ble_eq_true rfl) (x_X11_isGoal e4) ?_
    rcases it_some h with ⟨c6, h⟩ | ⟨c6, h⟩
    · refine ev_if_ne_n 18 dX11_term_12 rfl c6 ?_
      refine ev_bipush (v := (-3)) dX11_term_15 (by decide) ?_
      exact ev_retI .int dX11_term_17 rfl rfl h
    · refine ev_if_ne (tgt := 18) dX11_term_12 rfl c6 ?_
      refine ev_aload_nR 0 dX11_term_18 rfl ?_
      obtain ⟨g7, h⟩ := gd_some h
      obtain ⟨r10, σ8, e9, h⟩ := bd_some h
      refine ev_invVi (As := []) (st := []) dX11_term_19 cb_X11_layWay tp_1245 tp_1247 tp_82 kf11 rfl (by omega) g7 rfl rfl (Nat.le_of_ble_eq_true rfl) (x_X11_layWay e9) ?_
      rcases it_some h with ⟨c11, h⟩ | ⟨c11, h⟩
      · refine ev_if_ne_n 28 dX11_term_22 rfl c11 ?_
        refine ev_bipush (v := (-6)) dX11_term_25 (by decide) ?_
        exact ev_retI .int dX11_term_27 rfl rfl h
      · refine ev_if_ne (tgt := 28) dX11_term_22 rfl c11 ?_
        refine ev_iload_n 1 dX11_term_28 rfl ?_
        refine ev_iconst (v := (-1)) dX11_term_29 (by decide) ?_
        rcases it_some h with ⟨c12, h⟩ | ⟨c12, h⟩
        · refine ev_icmp_ne_n 40 dX11_term_30 rfl c12 ?_
          refine ev_aload_nR 0 dX11_term_33 rfl ?_
          obtain ⟨g19, h⟩ := gd_some h
          refine ev_getI dX11_term_34 fl_X11_229 rfl g19 ?_
          refine ev_goto (tgt := 59) dX11_term_37 rfl ?_
          exact ev_retI .int dX11_term_59 rfl rfl h
        · refine ev_icmp_ne (tgt := 40) dX11_term_30 rfl c12 ?_
          refine ev_iload_n 1 dX11_term_40 rfl ?_
          refine ev_aload_nR 0 dX11_term_41 rfl ?_
          obtain ⟨g13, h⟩ := gd_some h
          refine ev_getI dX11_term_42 fl_X11_229 rfl g13 ?_
          rcases it_some h with ⟨c14, h⟩ | ⟨c14, h⟩
          · refine ev_icmp_ge (tgt := 57) dX11_term_45 rfl c14 ?_
            refine ev_bipush (v := (-6)) dX11_term_57 (by decide) ?_
            exact ev_retI .int dX11_term_59 rfl rfl h
          · refine ev_icmp_ge_n 57 dX11_term_45 rfl c14 ?_
            refine ev_aload_nR 0 dX11_term_48 rfl ?_
            obtain ⟨p15, e16, h⟩ := op_some h
            refine ev_getPR dX11_term_49 fl_X11_67 rfl g13 e16 ?_
            refine ev_iload_n 1 dX11_term_52 rfl ?_
            obtain ⟨g17, h⟩ := gd_some h
            obtain ⟨g18, h⟩ := gd_some h
            refine ev_iald dX11_term_53 (isA_O g17) g18 ?_
            refine ev_goto (tgt := 59) dX11_term_54 rfl ?_
            exact ev_retI .int dX11_term_59 rfl rfl h
  · refine ev_icmp_ge_n 8 dX11_term_2 rfl c1 ?_
    refine ev_bipush (v := (-2)) dX11_term_5 (by decide) ?_
    exact ev_retI .int dX11_term_7 rfl rfl h
def s_X11_uses_99 (k52 : Nat → Int32 → Int32 → Int32 → Int32 → St → Option (Int32 × St)) (a0 : Nat) (a1 : Int32) (a2 : Int32) (a4 : Int32) (t0 : Int32) (t1 : Int32) (σ : St) : Option (Int32 × St) :=
 lt (t0 + t1 : Int32) fun v1 =>
 lt (a4 + 1 : Int32) fun v3 =>
 k52 a0 a1 a2 v1 v3 σ
set_option maxHeartbeats 4000000 in
set_option maxRecDepth 100000 in
theorem e_X11_uses_99 {r : Int32} {σ' : St} {k52 : Nat → Int32 → Int32 → Int32 → Int32 → St → Option (Int32 × St)} (hk52 : ∀ {y0 : Nat} {y1 : Int32} {y2 : Int32} {y3 : Int32} {y4 : Int32} {σ : St}, k52 y0 y1 y2 y3 y4 σ = some (r, σ') → Ev M_X11_uses (9) 52 [(0, .ref y0), (1, .int (y1)), (2, .int (y2)), (3, .int (y3)), (4, .int (y4))] [] σ (some (.int r)) σ') : ∀ {a0 : Nat} {a1 : Int32} {a2 : Int32} {a4 : Int32} {t0 : Int32} {t1 : Int32} {σ : St}, s_X11_uses_99 k52 a0 a1 a2 a4 t0 t1 σ = some (r, σ') → Ev M_X11_uses (9) 99 [(0, .ref a0), (1, .int (a1)), (2, .int (a2)), (4, .int (a4))] [.int (t1), .int (t0)] σ (some (.int r)) σ' := by
  intro a0 a1 a2 a4 t0 t1 σ h
  unfold s_X11_uses_99 at h
  refine ev_iadd dX11_uses_99 ?_
  obtain ⟨v1, e2, h⟩ := lt_some h
  refine ev_topI e2 ?_
  refine ev_istore_n (ls' := [(3, .int (v1)), (0, .ref a0), (1, .int (a1)), (2, .int (a2)), (4, .int (a4))]) dX11_uses_100 (by decide) rfl ?_
  obtain ⟨v3, e4, h⟩ := lt_some h
  refine ev_iinc (v := v3) (ls' := [(4, .int (v3)), (3, .int (v1)), (0, .ref a0), (1, .int (a1)), (2, .int (a2))]) 4 dX11_uses_101 rfl e4.symm (by decide) rfl ?_
  refine ev_goto (tgt := 52) dX11_uses_104 rfl ?_
  refine ev_sub (ls' := [(0, .ref a0), (1, .int (a1)), (2, .int (a2)), (3, .int (v1)), (4, .int (v3))]) [2, 3, 4, 1, 0] rfl ?_
  exact hk52 h
def s_X11_uses_98 (k52 : Nat → Int32 → Int32 → Int32 → Int32 → St → Option (Int32 × St)) (a0 : Nat) (a1 : Int32) (a2 : Int32) (a4 : Int32) (t0 : Int32) (σ : St) : Option (Int32 × St) :=
 s_X11_uses_99 k52 a0 a1 a2 a4 t0 0 σ
set_option maxHeartbeats 4000000 in
set_option maxRecDepth 100000 in
theorem e_X11_uses_98 {r : Int32} {σ' : St} {k52 : Nat → Int32 → Int32 → Int32 → Int32 → St → Option (Int32 × St)} (hk52 : ∀ {y0 : Nat} {y1 : Int32} {y2 : Int32} {y3 : Int32} {y4 : Int32} {σ : St}, k52 y0 y1 y2 y3 y4 σ = some (r, σ') → Ev M_X11_uses (9) 52 [(0, .ref y0), (1, .int (y1)), (2, .int (y2)), (3, .int (y3)), (4, .int (y4))] [] σ (some (.int r)) σ') : ∀ {a0 : Nat} {a1 : Int32} {a2 : Int32} {a4 : Int32} {t0 : Int32} {σ : St}, s_X11_uses_98 k52 a0 a1 a2 a4 t0 σ = some (r, σ') → Ev M_X11_uses (9) 98 [(0, .ref a0), (1, .int (a1)), (2, .int (a2)), (4, .int (a4))] [.int (t0)] σ (some (.int r)) σ' := by
  intro a0 a1 a2 a4 t0 σ h
  unfold s_X11_uses_98 at h
  refine ev_iconst (v := 0) dX11_uses_98 (by decide) ?_
  refine ev_sub (ls' := [(0, .ref a0), (1, .int (a1)), (2, .int (a2)), (4, .int (a4))]) [0, 1, 2, 3] rfl ?_
  exact e_X11_uses_99 hk52 h
def sb_X11_uses_52 (k52 : Nat → Int32 → Int32 → Int32 → Int32 → St → Option (Int32 × St)) (a0 : Nat) (a1 : Int32) (a2 : Int32) (a3 : Int32) (a4 : Int32) (σ : St) : Option (Int32 × St) :=
 if isO σ 11 a0 = true then (if (sI σ a0 26) ≤ a4 then (some (a3, σ)) else (op (sP σ a0 25) fun p7 =>
 if isO σ 13 p7 = true then (if inR a4 (alen σ p7) = true then (if (200 : Int32) ≤ (sI σ p7 a4.toNatClampNeg) then (s_X11_uses_98 k52 a0 a1 a2 a4 a3 σ) else (if inR a4 (alen σ p7) = true then (if ((sI σ p7 a4.toNatClampNeg) / 10) = ((10 * a1) + a2) then (s_X11_uses_99 k52 a0 a1 a2 a4 a3 1 σ) else (s_X11_uses_98 k52 a0 a1 a2 a4 a3 σ)) else none)) else none) else none)) else none
def s_X11_uses_52 (F : Nat) : Nat → Int32 → Int32 → Int32 → Int32 → St → Option (Int32 × St) := lp (fun _ _ _ _ _ _ => none) (sb_X11_uses_52 ) F
set_option maxHeartbeats 4000000 in
set_option maxRecDepth 100000 in
theorem e_X11_uses_52 {r : Int32} {σ' : St} (F : Nat) : ∀ {a0 : Nat} {a1 : Int32} {a2 : Int32} {a3 : Int32} {a4 : Int32} {σ : St}, s_X11_uses_52 F a0 a1 a2 a3 a4 σ = some (r, σ') → Ev M_X11_uses (9) 52 [(0, .ref a0), (1, .int (a1)), (2, .int (a2)), (3, .int (a3)), (4, .int (a4))] [] σ (some (.int r)) σ' := by
  induction F with
  | zero => intro a0 a1 a2 a3 a4 σ h; cases h
  | succ F ih =>
    intro a0 a1 a2 a3 a4 σ h
    change sb_X11_uses_52  (s_X11_uses_52 F) a0 a1 a2 a3 a4 σ = some (r, σ') at h
    unfold sb_X11_uses_52 at h
    have hk52 := @ih
    refine ev_iload 4 dX11_uses_52 rfl ?_
    refine ev_aload_nR 0 dX11_uses_54 rfl ?_
    obtain ⟨g5, h⟩ := gd_some h
    refine ev_getI dX11_uses_55 fl_X11_229 rfl g5 ?_
    rcases it_some h with ⟨c6, h⟩ | ⟨c6, h⟩
    · refine ev_icmp_ge (tgt := 107) dX11_uses_58 rfl c6 ?_
      refine ev_iload_n 3 dX11_uses_107 rfl ?_
      exact ev_retI .int dX11_uses_108 rfl rfl h
    · refine ev_icmp_ge_n 107 dX11_uses_58 rfl c6 ?_
      refine ev_iload_n 3 dX11_uses_61 rfl ?_
      refine ev_aload_nR 0 dX11_uses_62 rfl ?_
      obtain ⟨p7, e8, h⟩ := op_some h
      refine ev_getPR dX11_uses_63 fl_X11_67 rfl g5 e8 ?_
      refine ev_iload 4 dX11_uses_66 rfl ?_
      obtain ⟨g9, h⟩ := gd_some h
      obtain ⟨g10, h⟩ := gd_some h
      refine ev_iald dX11_uses_68 (isA_O g9) g10 ?_
      refine ev_sipush (v := 200) dX11_uses_69 (by decide) ?_
      rcases it_some h with ⟨c11, h⟩ | ⟨c11, h⟩
      · refine ev_icmp_ge (tgt := 98) dX11_uses_72 rfl c11 ?_
        refine ev_sub (ls' := [(0, .ref a0), (1, .int (a1)), (2, .int (a2)), (4, .int (a4))]) [0, 1, 2, 4] rfl ?_
        exact e_X11_uses_98 hk52 h
      · refine ev_icmp_ge_n 98 dX11_uses_72 rfl c11 ?_
        refine ev_aload_nR 0 dX11_uses_75 rfl ?_
        refine ev_getPR dX11_uses_76 fl_X11_67 rfl g5 e8 ?_
        refine ev_iload 4 dX11_uses_79 rfl ?_
        obtain ⟨g12, h⟩ := gd_some h
        refine ev_iald dX11_uses_81 (isA_O g9) g12 ?_
        refine ev_bipush (v := 10) dX11_uses_82 (by decide) ?_
        refine ev_idiv dX11_uses_84 (by decide) ?_
        refine ev_bipush (v := 10) dX11_uses_85 (by decide) ?_
        refine ev_iload_n 1 dX11_uses_87 rfl ?_
        refine ev_imul dX11_uses_88 ?_
        refine ev_iload_n 2 dX11_uses_89 rfl ?_
        refine ev_iadd dX11_uses_90 ?_
        rcases it_some h with ⟨c13, h⟩ | ⟨c13, h⟩
        · refine ev_icmp_ne_n 98 dX11_uses_91 rfl c13 ?_
          refine ev_iconst (v := 1) dX11_uses_94 (by decide) ?_
          refine ev_goto (tgt := 99) dX11_uses_95 rfl ?_
          refine ev_sub (ls' := [(0, .ref a0), (1, .int (a1)), (2, .int (a2)), (4, .int (a4))]) [0, 1, 2, 4] rfl ?_
          exact e_X11_uses_99 hk52 h
        · refine ev_icmp_ne (tgt := 98) dX11_uses_91 rfl c13 ?_
          refine ev_sub (ls' := [(0, .ref a0), (1, .int (a1)), (2, .int (a2)), (4, .int (a4))]) [0, 1, 2, 4] rfl ?_
          exact e_X11_uses_98 hk52 h
def s_X11_uses_24 (a0 : Nat) (a1 : Int32) (a2 : Int32) (t0 : Int32) (t1 : Int32) (t2 : Int32) (σ : St) : Option (Int32 × St) :=
 bd (s_X11_in t0 t1 t2 σ) fun r16 σ14 =>
 if r16 = 0 then (some ((-1), σ14)) else (if isO σ14 11 a0 = true then (bd (s_X11_isGoal a0 σ14) fun r21 σ19 =>
 if r21 = 0 then (some ((-3), σ19)) else (if isO σ19 11 a0 = true then (bd (s_X11_layWay a0 σ19) fun r26 σ24 =>
 s_X11_uses_52 16000 a0 a1 a2 0 0 σ24) else none)) else none)
set_option maxHeartbeats 4000000 in
set_option maxRecDepth 100000 in
theorem e_X11_uses_24 {r : Int32} {σ' : St} : ∀ {a0 : Nat} {a1 : Int32} {a2 : Int32} {t0 : Int32} {t1 : Int32} {t2 : Int32} {σ : St}, s_X11_uses_24 a0 a1 a2 t0 t1 t2 σ = some (r, σ') → Ev M_X11_uses (9) 24 [(0, .ref a0), (1, .int (a1)), (2, .int (a2))] [.int (t2), .int (t1), .int (t0)] σ (some (.int r)) σ' := by
  intro a0 a1 a2 t0 t1 t2 σ h
  unfold s_X11_uses_24 at h
  obtain ⟨r16, σ14, e15, h⟩ := bd_some h
  refine ev_invSi (As := [.int (t0), .int (t1), .int (t2)]) (st := []) dX11_uses_24 cb_X11_in tp_1066 tp_1067 (by omega) rfl rfl (Nat.le_of_ble_eq_true rfl) (x_X11_in e15) ?_
  rcases it_some h with ⟨c17, h⟩ | ⟨c17, h⟩
  · refine ev_if_ne_n 32 dX11_uses_27 rfl c17 ?_
    refine ev_iconst (v := (-1)) dX11_uses_30 (by decide) ?_
    exact ev_retI .int dX11_uses_31 rfl rfl h
  · refine ev_if_ne (tgt := 32) dX11_uses_27 rfl c17 ?_
    refine ev_aload_nR 0 dX11_uses_32 rfl ?_
    obtain ⟨g18, h⟩ := gd_some h
    obtain ⟨r21, σ19, e20, h⟩ := bd_some h
    refine ev_invVi (As := []) (st := []) dX11_uses_33 cb_X11_isGoal tp_1166 tp_1168 tp_69 kf11 rfl (by omega) g18 rfl rfl (Nat.le_of_ble_eq_true rfl) (x_X11_isGoal e20) ?_
    rcases it_some h with ⟨c22, h⟩ | ⟨c22, h⟩
    · refine ev_if_ne_n 42 dX11_uses_36 rfl c22 ?_
      refine ev_bipush (v := (-3)) dX11_uses_39 (by decide) ?_
      exact ev_retI .int dX11_uses_41 rfl rfl h
    · refine ev_if_ne (tgt := 42) dX11_uses_36 rfl c22 ?_
      refine ev_aload_nR 0 dX11_uses_42 rfl ?_
      obtain ⟨g23, h⟩ := gd_some h
      obtain ⟨r26, σ24, e25, h⟩ := bd_some h
      refine ev_invVi (As := []) (st := []) dX11_uses_43 cb_X11_layWay tp_1245 tp_1247 tp_82 kf11 rfl (by omega) g23 rfl rfl (Nat.le_of_ble_eq_true rfl) (x_X11_layWay e25) ?_
      refine ev_pop dX11_uses_46 rfl ?_
      refine ev_iconst (v := 0) dX11_uses_47 (by decide) ?_
      refine ev_istore_n (ls' := [(3, .int (0)), (0, .ref a0), (1, .int (a1)), (2, .int (a2))]) dX11_uses_48 (by decide) rfl ?_
      refine ev_iconst (v := 0) dX11_uses_49 (by decide) ?_
      refine ev_istore (ls' := [(4, .int (0)), (3, .int (0)), (0, .ref a0), (1, .int (a1)), (2, .int (a2))]) dX11_uses_50 (by decide) rfl ?_
      refine ev_sub (ls' := [(0, .ref a0), (1, .int (a1)), (2, .int (a2)), (3, .int (0)), (4, .int (0))]) [2, 3, 4, 1, 0] rfl ?_
      exact e_X11_uses_52 16000 h
def s_X11_uses (a0 : Nat) (a1 : Int32) (a2 : Int32) (σ : St) : Option (Int32 × St) :=
 bd (s_X11_in a1 0 1 σ) fun r29 σ27 =>
 if r29 = 0 then (some ((-2), σ27)) else (if a1 = 0 then (s_X11_uses_24 a0 a1 a2 a2 0 7 σ27) else (s_X11_uses_24 a0 a1 a2 a2 0 3 σ27))
set_option maxHeartbeats 4000000 in
set_option maxRecDepth 100000 in
theorem x_X11_uses {a0 : Nat} {a1 : Int32} {a2 : Int32} {σ : St} {r : Int32} {σ' : St} (h : s_X11_uses a0 a1 a2 σ = some (r, σ')) : Ex M_X11_uses (9) [.ref a0, .int (a1), .int (a2)] σ (some (.int r)) σ' := by
  unfold s_X11_uses at h
  refine ex_of (by decide) rfl (Nat.le_of_ble_eq_true rfl) ?_
  show Ev _ _ 0 [(0, .ref a0), (1, .int (a1)), (2, .int (a2))] [] _ _ _
  refine ev_iload_n 1 dX11_uses_0 rfl ?_
  refine ev_iconst (v := 0) dX11_uses_1 (by decide) ?_
  refine ev_iconst (v := 1) dX11_uses_2 (by decide) ?_
  obtain ⟨r29, σ27, e28, h⟩ := bd_some h
  refine ev_invSi (As := [.int (a1), .int (0), .int (1)]) (st := []) dX11_uses_3 cb_X11_in tp_1066 tp_1067 (by omega) rfl rfl (Nat.le_of_ble_eq_true rfl) (x_X11_in e28) ?_
  rcases it_some h with ⟨c30, h⟩ | ⟨c30, h⟩
  · refine ev_if_ne_n 12 dX11_uses_6 rfl c30 ?_
    refine ev_bipush (v := (-2)) dX11_uses_9 (by decide) ?_
    exact ev_retI .int dX11_uses_11 rfl rfl h
  · refine ev_if_ne (tgt := 12) dX11_uses_6 rfl c30 ?_
    refine ev_iload_n 2 dX11_uses_12 rfl ?_
    refine ev_iconst (v := 0) dX11_uses_13 (by decide) ?_
    refine ev_iload_n 1 dX11_uses_14 rfl ?_
    rcases it_some h with ⟨c31, h⟩ | ⟨c31, h⟩
    · refine ev_if_ne_n 23 dX11_uses_15 rfl c31 ?_
      refine ev_bipush (v := 7) dX11_uses_18 (by decide) ?_
      refine ev_goto (tgt := 24) dX11_uses_20 rfl ?_
      refine ev_sub (ls' := [(0, .ref a0), (1, .int (a1)), (2, .int (a2))]) [0, 1, 2] rfl ?_
      exact e_X11_uses_24  h
    · refine ev_if_ne (tgt := 23) dX11_uses_15 rfl c31 ?_
      refine ev_iconst (v := 3) dX11_uses_23 (by decide) ?_
      refine ev_sub (ls' := [(0, .ref a0), (1, .int (a1)), (2, .int (a2))]) [0, 1, 2] rfl ?_
      exact e_X11_uses_24  h
def s_X11_put (a0 : Nat) (a1 : Int32) (σ : St) : Option (Int32 × St) :=
 bd (s_X11_in a1 0 499 σ) fun r3 σ1 =>
 if r3 = 0 then (some ((-2), σ1)) else (if isO σ1 11 a0 = true then (if (sI σ1 a0 4) = 60 then (some ((-4), σ1)) else (op (sP σ1 a0 3) fun p7 =>
 if isO σ1 13 p7 = true then (if inR (sI σ1 a0 4) (alen σ1 p7) = true then (lt (setI σ1 p7 ((sI σ1 a0 4).toNatClampNeg) a1) fun σ11 =>
 lt (setI σ11 a0 4 ((sI σ11 a0 4) + 1)) fun σ13 =>
 some (sI σ13 a0 4, σ13)) else none) else none)) else none)
set_option maxHeartbeats 4000000 in
set_option maxRecDepth 100000 in
theorem x_X11_put {a0 : Nat} {a1 : Int32} {σ : St} {r : Int32} {σ' : St} (h : s_X11_put a0 a1 σ = some (r, σ')) : Ex M_X11_put (2) [.ref a0, .int (a1)] σ (some (.int r)) σ' := by
  unfold s_X11_put at h
  refine ex_of (by decide) rfl (Nat.le_of_ble_eq_true rfl) ?_
  show Ev _ _ 0 [(0, .ref a0), (1, .int (a1))] [] _ _ _
  refine ev_iload_n 1 dX11_put_0 rfl ?_
  refine ev_iconst (v := 0) dX11_put_1 (by decide) ?_
  refine ev_sipush (v := 499) dX11_put_2 (by decide) ?_
  obtain ⟨r3, σ1, e2, h⟩ := bd_some h
  refine ev_invSi (As := [.int (a1), .int (0), .int (499)]) (st := []) dX11_put_5 cb_X11_in tp_1066 tp_1067 (by omega) rfl rfl (Nat.le_of_ble_eq_true rfl) (x_X11_in e2) ?_
  rcases it_some h with ⟨c4, h⟩ | ⟨c4, h⟩
  · refine ev_if_ne_n 14 dX11_put_8 rfl c4 ?_
    refine ev_bipush (v := (-2)) dX11_put_11 (by decide) ?_
    exact ev_retI .int dX11_put_13 rfl rfl h
  · refine ev_if_ne (tgt := 14) dX11_put_8 rfl c4 ?_
    refine ev_aload_nR 0 dX11_put_14 rfl ?_
    obtain ⟨g5, h⟩ := gd_some h
    refine ev_getI dX11_put_15 fl_X11_248 rfl g5 ?_
    refine ev_bipush (v := 60) dX11_put_18 (by decide) ?_
    rcases it_some h with ⟨c6, h⟩ | ⟨c6, h⟩
    · refine ev_icmp_ne_n 26 dX11_put_20 rfl c6 ?_
      refine ev_bipush (v := (-4)) dX11_put_23 (by decide) ?_
      exact ev_retI .int dX11_put_25 rfl rfl h
    · refine ev_icmp_ne (tgt := 26) dX11_put_20 rfl c6 ?_
      refine ev_aload_nR 0 dX11_put_26 rfl ?_
      obtain ⟨p7, e8, h⟩ := op_some h
      refine ev_getPR dX11_put_27 fl_X11_20 rfl g5 e8 ?_
      refine ev_aload_nR 0 dX11_put_30 rfl ?_
      refine ev_getI dX11_put_31 fl_X11_248 rfl g5 ?_
      refine ev_iload_n 1 dX11_put_34 rfl ?_
      obtain ⟨g9, h⟩ := gd_some h
      obtain ⟨g10, h⟩ := gd_some h
      obtain ⟨σ11, e12, h⟩ := lt_some h
      refine ev_iast dX11_put_35 (isO_spec g9).1 (isA_O g9) g10 ?_
      refine ev_st e12 ?_
      refine ev_aload_nR 0 dX11_put_36 rfl ?_
      refine ev_dup dX11_put_37 rfl ?_
      refine ev_getI dX11_put_38 fl_X11_248 rfl (isO_I e12 g5) ?_
      refine ev_iconst (v := 1) dX11_put_41 (by decide) ?_
      refine ev_iadd dX11_put_42 ?_
      obtain ⟨σ13, e14, h⟩ := lt_some h
      refine ev_putI dX11_put_43 fl_X11_248 rfl (Or.inl rfl) (isO_I e12 g5) ⟨rfl, rfl⟩ ?_
      refine ev_st e14 ?_
      refine ev_aload_nR 0 dX11_put_46 rfl ?_
      refine ev_getI dX11_put_47 fl_X11_248 rfl (isO_I e14 (isO_I e12 g5)) ?_
      exact ev_retI .int dX11_put_50 rfl rfl h
def sb_X11_trial_44 (k44 : Nat → Int32 → St → Option (Int32 × St)) (a0 : Nat) (a2 : Int32) (σ : St) : Option (Int32 × St) :=
 if isO σ 11 a0 = true then (if (sI σ a0 26) ≤ a2 then (some (sI σ a0 4, σ)) else (if (60 : Int32) ≤ a2 then (some (sI σ a0 4, σ)) else (op (sP σ a0 3) fun p4 =>
 op (sP σ a0 25) fun p6 =>
 if isO σ 13 p6 = true then (if inR a2 (alen σ p6) = true then (if isO σ 13 p4 = true then (if inR a2 (alen σ p4) = true then (lt (setI σ p4 a2.toNatClampNeg (sI σ p6 a2.toNatClampNeg)) fun σ12 =>
 lt (setI σ12 a0 4 ((sI σ12 a0 4) + 1)) fun σ14 =>
 lt (a2 + 1 : Int32) fun v16 =>
 k44 a0 v16 σ14) else none) else none) else none) else none))) else none
def s_X11_trial_44 (F : Nat) : Nat → Int32 → St → Option (Int32 × St) := lp (fun _ _ _ => none) (sb_X11_trial_44 ) F
set_option maxHeartbeats 4000000 in
set_option maxRecDepth 100000 in
theorem e_X11_trial_44 {r : Int32} {σ' : St} (F : Nat) : ∀ {a0 : Nat} {a2 : Int32} {σ : St}, s_X11_trial_44 F a0 a2 σ = some (r, σ') → Ev M_X11_trial (9) 44 [(0, .ref a0), (2, .int (a2))] [] σ (some (.int r)) σ' := by
  induction F with
  | zero => intro a0 a2 σ h; cases h
  | succ F ih =>
    intro a0 a2 σ h
    change sb_X11_trial_44  (s_X11_trial_44 F) a0 a2 σ = some (r, σ') at h
    unfold sb_X11_trial_44 at h
    have hk44 := @ih
    refine ev_iload_n 1 dX11_trial_44 rfl ?_
    refine ev_aload_nR 0 dX11_trial_45 rfl ?_
    obtain ⟨g1, h⟩ := gd_some h
    refine ev_getI dX11_trial_46 fl_X11_229 rfl g1 ?_
    rcases it_some h with ⟨c2, h⟩ | ⟨c2, h⟩
    · refine ev_icmp_ge (tgt := 86) dX11_trial_49 rfl c2 ?_
      refine ev_aload_nR 0 dX11_trial_86 rfl ?_
      refine ev_getI dX11_trial_87 fl_X11_248 rfl g1 ?_
      exact ev_retI .int dX11_trial_90 rfl rfl h
    · refine ev_icmp_ge_n 86 dX11_trial_49 rfl c2 ?_
      refine ev_iload_n 1 dX11_trial_52 rfl ?_
      refine ev_bipush (v := 60) dX11_trial_53 (by decide) ?_
      rcases it_some h with ⟨c3, h⟩ | ⟨c3, h⟩
      · refine ev_icmp_ge (tgt := 86) dX11_trial_55 rfl c3 ?_
        refine ev_aload_nR 0 dX11_trial_86 rfl ?_
        refine ev_getI dX11_trial_87 fl_X11_248 rfl g1 ?_
        exact ev_retI .int dX11_trial_90 rfl rfl h
      · refine ev_icmp_ge_n 86 dX11_trial_55 rfl c3 ?_
        refine ev_aload_nR 0 dX11_trial_58 rfl ?_
        obtain ⟨p4, e5, h⟩ := op_some h
        refine ev_getPR dX11_trial_59 fl_X11_20 rfl g1 e5 ?_
        refine ev_iload_n 1 dX11_trial_62 rfl ?_
        refine ev_aload_nR 0 dX11_trial_63 rfl ?_
        obtain ⟨p6, e7, h⟩ := op_some h
        refine ev_getPR dX11_trial_64 fl_X11_67 rfl g1 e7 ?_
        refine ev_iload_n 1 dX11_trial_67 rfl ?_
        obtain ⟨g8, h⟩ := gd_some h
        obtain ⟨g9, h⟩ := gd_some h
        refine ev_iald dX11_trial_68 (isA_O g8) g9 ?_
        obtain ⟨g10, h⟩ := gd_some h
        obtain ⟨g11, h⟩ := gd_some h
        obtain ⟨σ12, e13, h⟩ := lt_some h
        refine ev_iast dX11_trial_69 (isO_spec g10).1 (isA_O g10) g11 ?_
        refine ev_st e13 ?_
        refine ev_aload_nR 0 dX11_trial_70 rfl ?_
        refine ev_dup dX11_trial_71 rfl ?_
        refine ev_getI dX11_trial_72 fl_X11_248 rfl (isO_I e13 g1) ?_
        refine ev_iconst (v := 1) dX11_trial_75 (by decide) ?_
        refine ev_iadd dX11_trial_76 ?_
        obtain ⟨σ14, e15, h⟩ := lt_some h
        refine ev_putI dX11_trial_77 fl_X11_248 rfl (Or.inl rfl) (isO_I e13 g1) ⟨rfl, rfl⟩ ?_
        refine ev_st e15 ?_
        obtain ⟨v16, e17, h⟩ := lt_some h
        refine ev_iinc (v := v16) (ls' := [(2, .int (v16)), (0, .ref a0)]) 1 dX11_trial_80 rfl e17.symm (by decide) rfl ?_
        refine ev_goto (tgt := 44) dX11_trial_83 rfl ?_
        refine ev_sub (ls' := [(0, .ref a0), (2, .int (v16))]) [1, 0] rfl ?_
        exact hk44 h
def s_X11_trial_27 (a0 : Nat) (a1 : Int32) (σ : St) : Option (Int32 × St) :=
 if isO σ 11 a0 = true then (lt (setI σ a0 4 0) fun σ19 =>
 if a1 = 1 then (bd (s_X11_layWay a0 σ19) fun r24 σ22 =>
 s_X11_trial_44 16000 a0 0 σ22) else (some (sI σ19 a0 4, σ19))) else none
set_option maxHeartbeats 4000000 in
set_option maxRecDepth 100000 in
theorem e_X11_trial_27 {r : Int32} {σ' : St} : ∀ {a0 : Nat} {a1 : Int32} {σ : St}, s_X11_trial_27 a0 a1 σ = some (r, σ') → Ev M_X11_trial (9) 27 [(0, .ref a0), (1, .int (a1))] [] σ (some (.int r)) σ' := by
  intro a0 a1 σ h
  unfold s_X11_trial_27 at h
  refine ev_aload_nR 0 dX11_trial_27 rfl ?_
  refine ev_iconst (v := 0) dX11_trial_28 (by decide) ?_
  obtain ⟨g18, h⟩ := gd_some h
  obtain ⟨σ19, e20, h⟩ := lt_some h
  refine ev_putI dX11_trial_29 fl_X11_248 rfl (Or.inl rfl) g18 ⟨rfl, rfl⟩ ?_
  refine ev_st e20 ?_
  refine ev_iload_n 1 dX11_trial_32 rfl ?_
  refine ev_iconst (v := 1) dX11_trial_33 (by decide) ?_
  rcases it_some h with ⟨c21, h⟩ | ⟨c21, h⟩
  · refine ev_icmp_ne_n 86 dX11_trial_34 rfl c21 ?_
    refine ev_aload_nR 0 dX11_trial_37 rfl ?_
    obtain ⟨r24, σ22, e23, h⟩ := bd_some h
    refine ev_invVi (As := []) (st := []) dX11_trial_38 cb_X11_layWay tp_1245 tp_1247 tp_82 kf11 rfl (by omega) (isO_I e20 g18) rfl rfl (Nat.le_of_ble_eq_true rfl) (x_X11_layWay e23) ?_
    refine ev_pop dX11_trial_41 rfl ?_
    refine ev_iconst (v := 0) dX11_trial_42 (by decide) ?_
    refine ev_istore_n (ls' := [(2, .int (0)), (0, .ref a0), (1, .int (a1))]) dX11_trial_43 (by decide) rfl ?_
    refine ev_sub (ls' := [(0, .ref a0), (2, .int (0))]) [1, 0] rfl ?_
    exact e_X11_trial_44 16000 h
  · refine ev_icmp_ne (tgt := 86) dX11_trial_34 rfl c21 ?_
    refine ev_aload_nR 0 dX11_trial_86 rfl ?_
    refine ev_getI dX11_trial_87 fl_X11_248 rfl (isO_I e20 g18) ?_
    exact ev_retI .int dX11_trial_90 rfl rfl h
def s_X11_trial (a0 : Nat) (a1 : Int32) (σ : St) : Option (Int32 × St) :=
 bd (s_X11_in a1 0 1 σ) fun r27 σ25 =>
 if r27 = 0 then (some ((-2), σ25)) else (if a1 = 1 then (if isO σ25 11 a0 = true then (bd (s_X11_isGoal a0 σ25) fun r33 σ31 =>
 if r33 = 0 then (some ((-3), σ31)) else (s_X11_trial_27 a0 a1 σ31)) else none) else (s_X11_trial_27 a0 a1 σ25))
set_option maxHeartbeats 4000000 in
set_option maxRecDepth 100000 in
theorem x_X11_trial {a0 : Nat} {a1 : Int32} {σ : St} {r : Int32} {σ' : St} (h : s_X11_trial a0 a1 σ = some (r, σ')) : Ex M_X11_trial (9) [.ref a0, .int (a1)] σ (some (.int r)) σ' := by
  unfold s_X11_trial at h
  refine ex_of (by decide) rfl (Nat.le_of_ble_eq_true rfl) ?_
  show Ev _ _ 0 [(0, .ref a0), (1, .int (a1))] [] _ _ _
  refine ev_iload_n 1 dX11_trial_0 rfl ?_
  refine ev_iconst (v := 0) dX11_trial_1 (by decide) ?_
  refine ev_iconst (v := 1) dX11_trial_2 (by decide) ?_
  obtain ⟨r27, σ25, e26, h⟩ := bd_some h
  refine ev_invSi (As := [.int (a1), .int (0), .int (1)]) (st := []) dX11_trial_3 cb_X11_in tp_1066 tp_1067 (by omega) rfl rfl (Nat.le_of_ble_eq_true rfl) (x_X11_in e26) ?_
  rcases it_some h with ⟨c28, h⟩ | ⟨c28, h⟩
  · refine ev_if_ne_n 12 dX11_trial_6 rfl c28 ?_
    refine ev_bipush (v := (-2)) dX11_trial_9 (by decide) ?_
    exact ev_retI .int dX11_trial_11 rfl rfl h
  · refine ev_if_ne (tgt := 12) dX11_trial_6 rfl c28 ?_
    refine ev_iload_n 1 dX11_trial_12 rfl ?_
    refine ev_iconst (v := 1) dX11_trial_13 (by decide) ?_
    rcases it_some h with ⟨c29, h⟩ | ⟨c29, h⟩
    · refine ev_icmp_ne_n 27 dX11_trial_14 rfl c29 ?_
      refine ev_aload_nR 0 dX11_trial_17 rfl ?_
      obtain ⟨g30, h⟩ := gd_some h
      obtain ⟨r33, σ31, e32, h⟩ := bd_some h
      refine ev_invVi (As := []) (st := []) dX11_trial_18 cb_X11_isGoal tp_1166 tp_1168 tp_69 kf11 rfl (by omega) g30 rfl rfl (Nat.le_of_ble_eq_true rfl) (x_X11_isGoal e32) ?_
      rcases it_some h with ⟨c34, h⟩ | ⟨c34, h⟩
      · refine ev_if_ne_n 27 dX11_trial_21 rfl c34 ?_
        refine ev_bipush (v := (-3)) dX11_trial_24 (by decide) ?_
        exact ev_retI .int dX11_trial_26 rfl rfl h
      · refine ev_if_ne (tgt := 27) dX11_trial_21 rfl c34 ?_
        refine ev_sub (ls' := [(0, .ref a0), (1, .int (a1))]) [0, 1] rfl ?_
        exact e_X11_trial_27  h
    · refine ev_icmp_ne (tgt := 27) dX11_trial_14 rfl c29 ?_
      refine ev_sub (ls' := [(0, .ref a0), (1, .int (a1))]) [0, 1] rfl ?_
      exact e_X11_trial_27  h
def s_X11_checkAtom_190 (a0 : Nat) (a3 : Int32) (a4 : Int32) (a7 : Int32) (t0 : Int32) (σ : St) : Option (Int32 × St) :=
 if isO σ 11 a0 = true then (op (sP σ a0 13) fun p2 =>
 if isO σ 13 p2 = true then (if inR ((3 * a7) + (a4 - a4 / 10 * 10)) (alen σ p2) = true then (lt (sI σ p2 (((3 * a7) + (a4 - a4 / 10 * 10)).toNatClampNeg) : Int32) fun v6 =>
 if v6 < 0 then (if t0 = 0 then (some (0, σ)) else (some (4, σ))) else (bd (s_X11_await a0 v6 t0 (a3 + 1) σ) fun r12 σ10 =>
 some (0, σ10))) else none) else none) else none
set_option maxHeartbeats 4000000 in
set_option maxRecDepth 100000 in
theorem e_X11_checkAtom_190 {r : Int32} {σ' : St} : ∀ {a0 : Nat} {a3 : Int32} {a4 : Int32} {a7 : Int32} {t0 : Int32} {σ : St}, s_X11_checkAtom_190 a0 a3 a4 a7 t0 σ = some (r, σ') → Ev M_X11_checkAtom (2) 190 [(0, .ref a0), (3, .int (a3)), (4, .int (a4)), (7, .int (a7))] [.int (t0)] σ (some (.int r)) σ' := by
  intro a0 a3 a4 a7 t0 σ h
  unfold s_X11_checkAtom_190 at h
  refine ev_istore (ls' := [(8, .int (t0)), (0, .ref a0), (3, .int (a3)), (4, .int (a4)), (7, .int (a7))]) dX11_checkAtom_190 (by decide) rfl ?_
  refine ev_aload_nR 1 dX11_checkAtom_192 rfl ?_
  obtain ⟨g1, h⟩ := gd_some h
  obtain ⟨p2, e3, h⟩ := op_some h
  refine ev_getPR dX11_checkAtom_193 fl_X11_38 rfl g1 e3 ?_
  refine ev_iconst (v := 3) dX11_checkAtom_196 (by decide) ?_
  refine ev_iload 4 dX11_checkAtom_197 rfl ?_
  refine ev_imul dX11_checkAtom_199 ?_
  refine ev_iload 3 dX11_checkAtom_200 rfl ?_
  refine ev_bipush (v := 10) dX11_checkAtom_202 (by decide) ?_
  refine ev_irem dX11_checkAtom_204 (by decide) ?_
  refine ev_iadd dX11_checkAtom_205 ?_
  obtain ⟨g4, h⟩ := gd_some h
  obtain ⟨g5, h⟩ := gd_some h
  refine ev_iald dX11_checkAtom_206 (isA_O g4) g5 ?_
  obtain ⟨v6, e7, h⟩ := lt_some h
  refine ev_topI e7 ?_
  refine ev_istore (ls' := [(9, .int (v6)), (8, .int (t0)), (0, .ref a0), (3, .int (a3)), (4, .int (a4)), (7, .int (a7))]) dX11_checkAtom_207 (by decide) rfl ?_
  refine ev_iload 0 dX11_checkAtom_209 rfl ?_
  rcases it_some h with ⟨c8, h⟩ | ⟨c8, h⟩
  · refine ev_if_lt (tgt := 227) dX11_checkAtom_211 rfl c8 ?_
    refine ev_iload 1 dX11_checkAtom_227 rfl ?_
    rcases it_some h with ⟨c9, h⟩ | ⟨c9, h⟩
    · refine ev_if_ne_n 236 dX11_checkAtom_229 rfl c9 ?_
      refine ev_iconst (v := 0) dX11_checkAtom_232 (by decide) ?_
      refine ev_goto (tgt := 237) dX11_checkAtom_233 rfl ?_
      exact ev_retI .int dX11_checkAtom_237 rfl rfl h
    · refine ev_if_ne (tgt := 236) dX11_checkAtom_229 rfl c9 ?_
      refine ev_iconst (v := 4) dX11_checkAtom_236 (by decide) ?_
      exact ev_retI .int dX11_checkAtom_237 rfl rfl h
  · refine ev_if_lt_n 227 dX11_checkAtom_211 rfl c8 ?_
    refine ev_aload_nR 2 dX11_checkAtom_214 rfl ?_
    refine ev_iload 0 dX11_checkAtom_215 rfl ?_
    refine ev_iload 1 dX11_checkAtom_217 rfl ?_
    refine ev_iload_n 3 dX11_checkAtom_219 rfl ?_
    refine ev_iconst (v := 1) dX11_checkAtom_220 (by decide) ?_
    refine ev_iadd dX11_checkAtom_221 ?_
    obtain ⟨r12, σ10, e11, h⟩ := bd_some h
    refine ev_invVv (As := [.int (v6), .int (t0), .int (a3 + 1)]) (st := []) dX11_checkAtom_222 cb_X11_await tp_1249 tp_1251 tp_83 kf11 rfl (by omega) g1 rfl rfl (Nat.le_of_ble_eq_true rfl) (x_X11_await e11) ?_
    refine ev_iconst (v := 0) dX11_checkAtom_225 (by decide) ?_
    exact ev_retI .int dX11_checkAtom_226 rfl rfl h
def s_X11_checkAtom_118 (a0 : Nat) (a1 : Int32) (a2 : Int32) (a3 : Int32) (a4 : Int32) (a5 : Int32) (a6 : Int32) (t0 : Int32) (σ : St) : Option (Int32 × St) :=
 if a6 = 0 then (some (3, σ)) else (if isO σ 11 a0 = true then (op (sP σ a0 11) fun p15 =>
 if isO σ 13 p15 = true then (if inR t0 (alen σ p15) = true then (if (sI σ p15 t0.toNatClampNeg) ≤ (a4 - a4 / 10 * 10) then (some (3, σ)) else (op (sP σ a0 12) fun p20 =>
 if isO σ 13 p20 = true then (if inR ((3 * t0) + (a4 - a4 / 10 * 10)) (alen σ p20) = true then (if (sI σ p20 (((3 * t0) + (a4 - a4 / 10 * 10)).toNatClampNeg)) = a1 then (lt (setI σ a0 31 ((sI σ a0 31) + 1)) fun σ25 =>
 if (100 : Int32) ≤ a4 then (s_X11_checkAtom_190 a0 a3 a4 t0 a2 σ25) else (s_X11_checkAtom_190 a0 a3 a4 t0 (a2 &&& ((1 <<< (a5 &&& 31)) ^^^ ((-1)))) σ25)) else (some (3, σ))) else none) else none)) else none) else none) else none)
set_option maxHeartbeats 4000000 in
set_option maxRecDepth 100000 in
theorem e_X11_checkAtom_118 {r : Int32} {σ' : St} : ∀ {a0 : Nat} {a1 : Int32} {a2 : Int32} {a3 : Int32} {a4 : Int32} {a5 : Int32} {a6 : Int32} {t0 : Int32} {σ : St}, s_X11_checkAtom_118 a0 a1 a2 a3 a4 a5 a6 t0 σ = some (r, σ') → Ev M_X11_checkAtom (2) 118 [(0, .ref a0), (1, .int (a1)), (2, .int (a2)), (3, .int (a3)), (4, .int (a4)), (5, .int (a5)), (6, .int (a6))] [.int (t0)] σ (some (.int r)) σ' := by
  intro a0 a1 a2 a3 a4 a5 a6 t0 σ h
  unfold s_X11_checkAtom_118 at h
  refine ev_istore (ls' := [(7, .int (t0)), (0, .ref a0), (1, .int (a1)), (2, .int (a2)), (3, .int (a3)), (4, .int (a4)), (5, .int (a5)), (6, .int (a6))]) dX11_checkAtom_118 (by decide) rfl ?_
  refine ev_iload 7 dX11_checkAtom_120 rfl ?_
  rcases it_some h with ⟨c13, h⟩ | ⟨c13, h⟩
  · refine ev_if_eq (tgt := 159) dX11_checkAtom_122 rfl c13 ?_
    refine ev_iconst (v := 3) dX11_checkAtom_159 (by decide) ?_
    exact ev_retI .int dX11_checkAtom_160 rfl rfl h
  · refine ev_if_eq_n 159 dX11_checkAtom_122 rfl c13 ?_
    refine ev_iload 5 dX11_checkAtom_125 rfl ?_
    refine ev_bipush (v := 10) dX11_checkAtom_127 (by decide) ?_
    refine ev_irem dX11_checkAtom_129 (by decide) ?_
    refine ev_aload_nR 1 dX11_checkAtom_130 rfl ?_
    obtain ⟨g14, h⟩ := gd_some h
    obtain ⟨p15, e16, h⟩ := op_some h
    refine ev_getPR dX11_checkAtom_131 fl_X11_32 rfl g14 e16 ?_
    refine ev_iload 0 dX11_checkAtom_134 rfl ?_
    obtain ⟨g17, h⟩ := gd_some h
    obtain ⟨g18, h⟩ := gd_some h
    refine ev_iald dX11_checkAtom_136 (isA_O g17) g18 ?_
    rcases it_some h with ⟨c19, h⟩ | ⟨c19, h⟩
    · refine ev_icmp_ge (tgt := 159) dX11_checkAtom_137 rfl c19 ?_
      refine ev_iconst (v := 3) dX11_checkAtom_159 (by decide) ?_
      exact ev_retI .int dX11_checkAtom_160 rfl rfl h
    · refine ev_icmp_ge_n 159 dX11_checkAtom_137 rfl c19 ?_
      refine ev_aload_nR 1 dX11_checkAtom_140 rfl ?_
      obtain ⟨p20, e21, h⟩ := op_some h
      refine ev_getPR dX11_checkAtom_141 fl_X11_35 rfl g14 e21 ?_
      refine ev_iconst (v := 3) dX11_checkAtom_144 (by decide) ?_
      refine ev_iload 0 dX11_checkAtom_145 rfl ?_
      refine ev_imul dX11_checkAtom_147 ?_
      refine ev_iload 5 dX11_checkAtom_148 rfl ?_
      refine ev_bipush (v := 10) dX11_checkAtom_150 (by decide) ?_
      refine ev_irem dX11_checkAtom_152 (by decide) ?_
      refine ev_iadd dX11_checkAtom_153 ?_
      obtain ⟨g22, h⟩ := gd_some h
      obtain ⟨g23, h⟩ := gd_some h
      refine ev_iald dX11_checkAtom_154 (isA_O g22) g23 ?_
      refine ev_iload_n 2 dX11_checkAtom_155 rfl ?_
      rcases it_some h with ⟨c24, h⟩ | ⟨c24, h⟩
      · refine ev_icmp_eq (tgt := 161) dX11_checkAtom_156 rfl c24 ?_
        refine ev_aload_nR 1 dX11_checkAtom_161 rfl ?_
        refine ev_dup dX11_checkAtom_162 rfl ?_
        refine ev_getI dX11_checkAtom_163 fl_X11_251 rfl g14 ?_
        refine ev_iconst (v := 1) dX11_checkAtom_166 (by decide) ?_
        refine ev_iadd dX11_checkAtom_167 ?_
        obtain ⟨σ25, e26, h⟩ := lt_some h
        refine ev_putI dX11_checkAtom_168 fl_X11_251 rfl (Or.inl rfl) g14 ⟨rfl, rfl⟩ ?_
        refine ev_st e26 ?_
        refine ev_iload 5 dX11_checkAtom_171 rfl ?_
        refine ev_bipush (v := 100) dX11_checkAtom_173 (by decide) ?_
        rcases it_some h with ⟨c27, h⟩ | ⟨c27, h⟩
        · refine ev_icmp_ge (tgt := 189) dX11_checkAtom_175 rfl c27 ?_
          refine ev_iload_n 3 dX11_checkAtom_189 rfl ?_
          refine ev_sub (ls' := [(0, .ref a0), (3, .int (a3)), (4, .int (a4)), (7, .int (t0))]) [1, 4, 5, 0] rfl ?_
          exact e_X11_checkAtom_190  h
        · refine ev_icmp_ge_n 189 dX11_checkAtom_175 rfl c27 ?_
          refine ev_iload_n 3 dX11_checkAtom_178 rfl ?_
          refine ev_iconst (v := 1) dX11_checkAtom_179 (by decide) ?_
          refine ev_iload 6 dX11_checkAtom_180 rfl ?_
          refine ev_ishl dX11_checkAtom_182 ?_
          refine ev_iconst (v := (-1)) dX11_checkAtom_183 (by decide) ?_
          refine ev_ixor dX11_checkAtom_184 ?_
          refine ev_iand dX11_checkAtom_185 ?_
          refine ev_goto (tgt := 190) dX11_checkAtom_186 rfl ?_
          refine ev_sub (ls' := [(0, .ref a0), (3, .int (a3)), (4, .int (a4)), (7, .int (t0))]) [1, 4, 5, 0] rfl ?_
          exact e_X11_checkAtom_190  h
      · refine ev_icmp_eq_n 161 dX11_checkAtom_156 rfl c24 ?_
        refine ev_iconst (v := 3) dX11_checkAtom_159 (by decide) ?_
        exact ev_retI .int dX11_checkAtom_160 rfl rfl h
def s_X11_checkAtom_99 (a0 : Nat) (a1 : Int32) (a2 : Int32) (a3 : Int32) (a4 : Int32) (a5 : Int32) (t0 : Int32) (σ : St) : Option (Int32 × St) :=
 if (100 : Int32) ≤ a4 then (s_X11_checkAtom_118 a0 a1 a2 a3 a4 a5 t0 (8 + a5) σ) else (s_X11_checkAtom_118 a0 a1 a2 a3 a4 a5 t0 a5 σ)
set_option maxHeartbeats 4000000 in
set_option maxRecDepth 100000 in
theorem e_X11_checkAtom_99 {r : Int32} {σ' : St} : ∀ {a0 : Nat} {a1 : Int32} {a2 : Int32} {a3 : Int32} {a4 : Int32} {a5 : Int32} {t0 : Int32} {σ : St}, s_X11_checkAtom_99 a0 a1 a2 a3 a4 a5 t0 σ = some (r, σ') → Ev M_X11_checkAtom (2) 99 [(0, .ref a0), (1, .int (a1)), (2, .int (a2)), (3, .int (a3)), (4, .int (a4)), (5, .int (a5))] [.int (t0)] σ (some (.int r)) σ' := by
  intro a0 a1 a2 a3 a4 a5 t0 σ h
  unfold s_X11_checkAtom_99 at h
  refine ev_istore (ls' := [(6, .int (t0)), (0, .ref a0), (1, .int (a1)), (2, .int (a2)), (3, .int (a3)), (4, .int (a4)), (5, .int (a5))]) dX11_checkAtom_99 (by decide) rfl ?_
  refine ev_iload 5 dX11_checkAtom_101 rfl ?_
  refine ev_bipush (v := 100) dX11_checkAtom_103 (by decide) ?_
  rcases it_some h with ⟨c28, h⟩ | ⟨c28, h⟩
  · refine ev_icmp_ge (tgt := 113) dX11_checkAtom_105 rfl c28 ?_
    refine ev_bipush (v := 8) dX11_checkAtom_113 (by decide) ?_
    refine ev_iload 6 dX11_checkAtom_115 rfl ?_
    refine ev_iadd dX11_checkAtom_117 ?_
    refine ev_sub (ls' := [(0, .ref a0), (1, .int (a1)), (2, .int (a2)), (3, .int (a3)), (4, .int (a4)), (5, .int (a5)), (6, .int (t0))]) [1, 2, 3, 4, 5, 6, 0] rfl ?_
    exact e_X11_checkAtom_118  h
  · refine ev_icmp_ge_n 113 dX11_checkAtom_105 rfl c28 ?_
    refine ev_iload 6 dX11_checkAtom_108 rfl ?_
    refine ev_goto (tgt := 118) dX11_checkAtom_110 rfl ?_
    refine ev_sub (ls' := [(0, .ref a0), (1, .int (a1)), (2, .int (a2)), (3, .int (a3)), (4, .int (a4)), (5, .int (a5)), (6, .int (t0))]) [1, 2, 3, 4, 5, 6, 0] rfl ?_
    exact e_X11_checkAtom_118  h
def s_X11_checkAtom_98 (a0 : Nat) (a1 : Int32) (a2 : Int32) (a3 : Int32) (a4 : Int32) (a5 : Int32) (σ : St) : Option (Int32 × St) :=
 s_X11_checkAtom_99 a0 a1 a2 a3 a4 a5 0 σ
set_option maxHeartbeats 4000000 in
set_option maxRecDepth 100000 in
theorem e_X11_checkAtom_98 {r : Int32} {σ' : St} : ∀ {a0 : Nat} {a1 : Int32} {a2 : Int32} {a3 : Int32} {a4 : Int32} {a5 : Int32} {σ : St}, s_X11_checkAtom_98 a0 a1 a2 a3 a4 a5 σ = some (r, σ') → Ev M_X11_checkAtom (2) 98 [(0, .ref a0), (1, .int (a1)), (2, .int (a2)), (3, .int (a3)), (4, .int (a4)), (5, .int (a5))] [] σ (some (.int r)) σ' := by
  intro a0 a1 a2 a3 a4 a5 σ h
  unfold s_X11_checkAtom_98 at h
  refine ev_iconst (v := 0) dX11_checkAtom_98 (by decide) ?_
  refine ev_sub (ls' := [(0, .ref a0), (1, .int (a1)), (2, .int (a2)), (3, .int (a3)), (4, .int (a4)), (5, .int (a5))]) [0, 1, 2, 3, 4, 5] rfl ?_
  exact e_X11_checkAtom_99  h
def s_X11_checkAtom_47 (a0 : Nat) (a1 : Int32) (a2 : Int32) (a3 : Int32) (a4 : Int32) (t0 : Int32) (σ : St) : Option (Int32 × St) :=
 if (100 : Int32) ≤ a4 then (if (200 : Int32) ≤ a4 then (s_X11_checkAtom_98 a0 a1 a2 a3 a4 t0 σ) else (if (4 : Int32) ≤ t0 then (s_X11_checkAtom_98 a0 a1 a2 a3 a4 t0 σ) else (s_X11_checkAtom_99 a0 a1 a2 a3 a4 t0 1 σ))) else (if (8 : Int32) ≤ t0 then (s_X11_checkAtom_99 a0 a1 a2 a3 a4 t0 0 σ) else (bd (s_X11_has a2 t0 σ) fun r35 σ33 =>
 if r35 = 0 then (s_X11_checkAtom_99 a0 a1 a2 a3 a4 t0 0 σ33) else (s_X11_checkAtom_99 a0 a1 a2 a3 a4 t0 1 σ33)))
set_option maxHeartbeats 4000000 in
set_option maxRecDepth 100000 in
theorem e_X11_checkAtom_47 {r : Int32} {σ' : St} : ∀ {a0 : Nat} {a1 : Int32} {a2 : Int32} {a3 : Int32} {a4 : Int32} {t0 : Int32} {σ : St}, s_X11_checkAtom_47 a0 a1 a2 a3 a4 t0 σ = some (r, σ') → Ev M_X11_checkAtom (2) 47 [(0, .ref a0), (1, .int (a1)), (2, .int (a2)), (3, .int (a3)), (4, .int (a4))] [.int (t0)] σ (some (.int r)) σ' := by
  intro a0 a1 a2 a3 a4 t0 σ h
  unfold s_X11_checkAtom_47 at h
  refine ev_istore (ls' := [(5, .int (t0)), (0, .ref a0), (1, .int (a1)), (2, .int (a2)), (3, .int (a3)), (4, .int (a4))]) dX11_checkAtom_47 (by decide) rfl ?_
  refine ev_iload 5 dX11_checkAtom_49 rfl ?_
  refine ev_bipush (v := 100) dX11_checkAtom_51 (by decide) ?_
  rcases it_some h with ⟨c29, h⟩ | ⟨c29, h⟩
  · refine ev_icmp_ge (tgt := 80) dX11_checkAtom_53 rfl c29 ?_
    refine ev_iload 5 dX11_checkAtom_80 rfl ?_
    refine ev_sipush (v := 200) dX11_checkAtom_82 (by decide) ?_
    rcases it_some h with ⟨c30, h⟩ | ⟨c30, h⟩
    · refine ev_icmp_ge (tgt := 98) dX11_checkAtom_85 rfl c30 ?_
      refine ev_sub (ls' := [(0, .ref a0), (1, .int (a1)), (2, .int (a2)), (3, .int (a3)), (4, .int (a4)), (5, .int (t0))]) [1, 2, 3, 4, 5, 0] rfl ?_
      exact e_X11_checkAtom_98  h
    · refine ev_icmp_ge_n 98 dX11_checkAtom_85 rfl c30 ?_
      refine ev_iload 0 dX11_checkAtom_88 rfl ?_
      refine ev_iconst (v := 4) dX11_checkAtom_90 (by decide) ?_
      rcases it_some h with ⟨c31, h⟩ | ⟨c31, h⟩
      · refine ev_icmp_ge (tgt := 98) dX11_checkAtom_91 rfl c31 ?_
        refine ev_sub (ls' := [(0, .ref a0), (1, .int (a1)), (2, .int (a2)), (3, .int (a3)), (4, .int (a4)), (5, .int (t0))]) [1, 2, 3, 4, 5, 0] rfl ?_
        exact e_X11_checkAtom_98  h
      · refine ev_icmp_ge_n 98 dX11_checkAtom_91 rfl c31 ?_
        refine ev_iconst (v := 1) dX11_checkAtom_94 (by decide) ?_
        refine ev_goto (tgt := 99) dX11_checkAtom_95 rfl ?_
        refine ev_sub (ls' := [(0, .ref a0), (1, .int (a1)), (2, .int (a2)), (3, .int (a3)), (4, .int (a4)), (5, .int (t0))]) [1, 2, 3, 4, 5, 0] rfl ?_
        exact e_X11_checkAtom_99  h
  · refine ev_icmp_ge_n 80 dX11_checkAtom_53 rfl c29 ?_
    refine ev_iload 0 dX11_checkAtom_56 rfl ?_
    refine ev_bipush (v := 8) dX11_checkAtom_58 (by decide) ?_
    rcases it_some h with ⟨c32, h⟩ | ⟨c32, h⟩
    · refine ev_icmp_ge (tgt := 76) dX11_checkAtom_60 rfl c32 ?_
      refine ev_iconst (v := 0) dX11_checkAtom_76 (by decide) ?_
      refine ev_goto (tgt := 99) dX11_checkAtom_77 rfl ?_
      refine ev_sub (ls' := [(0, .ref a0), (1, .int (a1)), (2, .int (a2)), (3, .int (a3)), (4, .int (a4)), (5, .int (t0))]) [1, 2, 3, 4, 5, 0] rfl ?_
      exact e_X11_checkAtom_99  h
    · refine ev_icmp_ge_n 76 dX11_checkAtom_60 rfl c32 ?_
      refine ev_iload_n 3 dX11_checkAtom_63 rfl ?_
      refine ev_iload 0 dX11_checkAtom_64 rfl ?_
      obtain ⟨r35, σ33, e34, h⟩ := bd_some h
      refine ev_invSi (As := [.int (a2), .int (t0)]) (st := []) dX11_checkAtom_66 cb_X11_has tp_1182 tp_1183 (by omega) rfl rfl (Nat.le_of_ble_eq_true rfl) (x_X11_has e34) ?_
      rcases it_some h with ⟨c36, h⟩ | ⟨c36, h⟩
      · refine ev_if_eq (tgt := 76) dX11_checkAtom_69 rfl c36 ?_
        refine ev_iconst (v := 0) dX11_checkAtom_76 (by decide) ?_
        refine ev_goto (tgt := 99) dX11_checkAtom_77 rfl ?_
        refine ev_sub (ls' := [(0, .ref a0), (1, .int (a1)), (2, .int (a2)), (3, .int (a3)), (4, .int (a4)), (5, .int (t0))]) [1, 2, 3, 4, 5, 0] rfl ?_
        exact e_X11_checkAtom_99  h
      · refine ev_if_eq_n 76 dX11_checkAtom_69 rfl c36 ?_
        refine ev_iconst (v := 1) dX11_checkAtom_72 (by decide) ?_
        refine ev_goto (tgt := 99) dX11_checkAtom_73 rfl ?_
        refine ev_sub (ls' := [(0, .ref a0), (1, .int (a1)), (2, .int (a2)), (3, .int (a3)), (4, .int (a4)), (5, .int (t0))]) [1, 2, 3, 4, 5, 0] rfl ?_
        exact e_X11_checkAtom_99  h
def s_X11_checkAtom (a0 : Nat) (a1 : Int32) (a2 : Int32) (a3 : Int32) (σ : St) : Option (Int32 × St) :=
 if isO σ 11 a0 = true then (if (sI σ a0 31) = (sI σ a0 4) then (some (2, σ)) else (op (sP σ a0 3) fun p39 =>
 if isO σ 13 p39 = true then (if inR (sI σ a0 31) (alen σ p39) = true then (lt (sI σ p39 ((sI σ a0 31).toNatClampNeg) : Int32) fun v43 =>
 if (100 : Int32) ≤ v43 then (s_X11_checkAtom_47 a0 a1 a2 a3 v43 ((v43 - 100) / 10) σ) else (s_X11_checkAtom_47 a0 a1 a2 a3 v43 (v43 / 10) σ)) else none) else none)) else none
set_option maxHeartbeats 4000000 in
set_option maxRecDepth 100000 in
theorem x_X11_checkAtom {a0 : Nat} {a1 : Int32} {a2 : Int32} {a3 : Int32} {σ : St} {r : Int32} {σ' : St} (h : s_X11_checkAtom a0 a1 a2 a3 σ = some (r, σ')) : Ex M_X11_checkAtom (2) [.ref a0, .int (a1), .int (a2), .int (a3)] σ (some (.int r)) σ' := by
  unfold s_X11_checkAtom at h
  refine ex_of (by decide) rfl (Nat.le_of_ble_eq_true rfl) ?_
  show Ev _ _ 0 [(0, .ref a0), (1, .int (a1)), (2, .int (a2)), (3, .int (a3))] [] _ _ _
  refine ev_aload_nR 0 dX11_checkAtom_0 rfl ?_
  obtain ⟨g37, h⟩ := gd_some h
  refine ev_getI dX11_checkAtom_1 fl_X11_251 rfl g37 ?_
  refine ev_aload_nR 0 dX11_checkAtom_4 rfl ?_
  refine ev_getI dX11_checkAtom_5 fl_X11_248 rfl g37 ?_
  rcases it_some h with ⟨c38, h⟩ | ⟨c38, h⟩
  · refine ev_icmp_ne_n 13 dX11_checkAtom_8 rfl c38 ?_
    refine ev_iconst (v := 2) dX11_checkAtom_11 (by decide) ?_
    exact ev_retI .int dX11_checkAtom_12 rfl rfl h
  · refine ev_icmp_ne (tgt := 13) dX11_checkAtom_8 rfl c38 ?_
    refine ev_aload_nR 0 dX11_checkAtom_13 rfl ?_
    obtain ⟨p39, e40, h⟩ := op_some h
    refine ev_getPR dX11_checkAtom_14 fl_X11_20 rfl g37 e40 ?_
    refine ev_aload_nR 0 dX11_checkAtom_17 rfl ?_
    refine ev_getI dX11_checkAtom_18 fl_X11_251 rfl g37 ?_
    obtain ⟨g41, h⟩ := gd_some h
    obtain ⟨g42, h⟩ := gd_some h
    refine ev_iald dX11_checkAtom_21 (isA_O g41) g42 ?_
    obtain ⟨v43, e44, h⟩ := lt_some h
    refine ev_topI e44 ?_
    refine ev_istore (ls' := [(4, .int (v43)), (0, .ref a0), (1, .int (a1)), (2, .int (a2)), (3, .int (a3))]) dX11_checkAtom_22 (by decide) rfl ?_
    refine ev_iload 0 dX11_checkAtom_24 rfl ?_
    refine ev_bipush (v := 100) dX11_checkAtom_26 (by decide) ?_
    rcases it_some h with ⟨c45, h⟩ | ⟨c45, h⟩
    · refine ev_icmp_ge (tgt := 39) dX11_checkAtom_28 rfl c45 ?_
      refine ev_iload 0 dX11_checkAtom_39 rfl ?_
      refine ev_bipush (v := 100) dX11_checkAtom_41 (by decide) ?_
      refine ev_isub dX11_checkAtom_43 ?_
      refine ev_bipush (v := 10) dX11_checkAtom_44 (by decide) ?_
      refine ev_idiv dX11_checkAtom_46 (by decide) ?_
      refine ev_sub (ls' := [(0, .ref a0), (1, .int (a1)), (2, .int (a2)), (3, .int (a3)), (4, .int (v43))]) [1, 2, 3, 4, 0] rfl ?_
      exact e_X11_checkAtom_47  h
    · refine ev_icmp_ge_n 39 dX11_checkAtom_28 rfl c45 ?_
      refine ev_iload 0 dX11_checkAtom_31 rfl ?_
      refine ev_bipush (v := 10) dX11_checkAtom_33 (by decide) ?_
      refine ev_idiv dX11_checkAtom_35 (by decide) ?_
      refine ev_goto (tgt := 47) dX11_checkAtom_36 rfl ?_
      refine ev_sub (ls' := [(0, .ref a0), (1, .int (a1)), (2, .int (a2)), (3, .int (a3)), (4, .int (v43))]) [1, 2, 3, 4, 0] rfl ?_
      exact e_X11_checkAtom_47  h
def s_X11_checkParts (a0 : Nat) (a1 : Int32) (a2 : Int32) (a3 : Int32) (σ : St) : Option (Int32 × St) :=
 if isO σ 11 a0 = true then (if (sI σ a0 31) = (sI σ a0 4) then (some (2, σ)) else (op (sP σ a0 3) fun p3 =>
 if isO σ 13 p3 = true then (if inR (sI σ a0 31) (alen σ p3) = true then (lt ((sI σ p3 ((sI σ a0 31).toNatClampNeg)) - 200 : Int32) fun v7 =>
 if v7 < 0 then (some (3, σ)) else (if (v7 &&& (a2 ^^^ ((-1)))) = 0 then (lt (setI σ a0 31 ((sI σ a0 31) + 1)) fun σ11 =>
 op (sP σ11 a0 9) fun p13 =>
 if isO σ11 13 p13 = true then (if inR a1 (alen σ11 p13) = true then (bd (s_X11_await a0 (sI σ11 p13 a1.toNatClampNeg) (a2 &&& (v7 ^^^ ((-1)))) (a3 + 1) σ11) fun r19 σ17 =>
 if isO σ17 11 a0 = true then (op (sP σ17 a0 8) fun p21 =>
 if isO σ17 13 p21 = true then (if inR a1 (alen σ17 p21) = true then (bd (s_X11_await a0 (sI σ17 p21 a1.toNatClampNeg) v7 (a3 + 1) σ17) fun r27 σ25 =>
 some (0, σ25)) else none) else none) else none) else none) else none) else (some (3, σ)))) else none) else none)) else none
set_option maxHeartbeats 4000000 in
set_option maxRecDepth 100000 in
theorem x_X11_checkParts {a0 : Nat} {a1 : Int32} {a2 : Int32} {a3 : Int32} {σ : St} {r : Int32} {σ' : St} (h : s_X11_checkParts a0 a1 a2 a3 σ = some (r, σ')) : Ex M_X11_checkParts (2) [.ref a0, .int (a1), .int (a2), .int (a3)] σ (some (.int r)) σ' := by
  unfold s_X11_checkParts at h
  refine ex_of (by decide) rfl (Nat.le_of_ble_eq_true rfl) ?_
  show Ev _ _ 0 [(0, .ref a0), (1, .int (a1)), (2, .int (a2)), (3, .int (a3))] [] _ _ _
  refine ev_aload_nR 0 dX11_checkParts_0 rfl ?_
  obtain ⟨g1, h⟩ := gd_some h
  refine ev_getI dX11_checkParts_1 fl_X11_251 rfl g1 ?_
  refine ev_aload_nR 0 dX11_checkParts_4 rfl ?_
  refine ev_getI dX11_checkParts_5 fl_X11_248 rfl g1 ?_
  rcases it_some h with ⟨c2, h⟩ | ⟨c2, h⟩
  · refine ev_icmp_ne_n 13 dX11_checkParts_8 rfl c2 ?_
    refine ev_iconst (v := 2) dX11_checkParts_11 (by decide) ?_
    exact ev_retI .int dX11_checkParts_12 rfl rfl h
  · refine ev_icmp_ne (tgt := 13) dX11_checkParts_8 rfl c2 ?_
    refine ev_aload_nR 0 dX11_checkParts_13 rfl ?_
    obtain ⟨p3, e4, h⟩ := op_some h
    refine ev_getPR dX11_checkParts_14 fl_X11_20 rfl g1 e4 ?_
    refine ev_aload_nR 0 dX11_checkParts_17 rfl ?_
    refine ev_getI dX11_checkParts_18 fl_X11_251 rfl g1 ?_
    obtain ⟨g5, h⟩ := gd_some h
    obtain ⟨g6, h⟩ := gd_some h
    refine ev_iald dX11_checkParts_21 (isA_O g5) g6 ?_
    refine ev_sipush (v := 200) dX11_checkParts_22 (by decide) ?_
    refine ev_isub dX11_checkParts_25 ?_
    obtain ⟨v7, e8, h⟩ := lt_some h
    refine ev_topI e8 ?_
    refine ev_istore (ls' := [(4, .int (v7)), (0, .ref a0), (1, .int (a1)), (2, .int (a2)), (3, .int (a3))]) dX11_checkParts_26 (by decide) rfl ?_
    refine ev_iload 0 dX11_checkParts_28 rfl ?_
    rcases it_some h with ⟨c9, h⟩ | ⟨c9, h⟩
    · refine ev_if_lt (tgt := 42) dX11_checkParts_30 rfl c9 ?_
      refine ev_iconst (v := 3) dX11_checkParts_42 (by decide) ?_
      exact ev_retI .int dX11_checkParts_43 rfl rfl h
    · refine ev_if_lt_n 42 dX11_checkParts_30 rfl c9 ?_
      refine ev_iload 0 dX11_checkParts_33 rfl ?_
      refine ev_iload_n 3 dX11_checkParts_35 rfl ?_
      refine ev_iconst (v := (-1)) dX11_checkParts_36 (by decide) ?_
      refine ev_ixor dX11_checkParts_37 ?_
      refine ev_iand dX11_checkParts_38 ?_
      rcases it_some h with ⟨c10, h⟩ | ⟨c10, h⟩
      · refine ev_if_eq (tgt := 44) dX11_checkParts_39 rfl c10 ?_
        refine ev_aload_nR 1 dX11_checkParts_44 rfl ?_
        refine ev_dup dX11_checkParts_45 rfl ?_
        refine ev_getI dX11_checkParts_46 fl_X11_251 rfl g1 ?_
        refine ev_iconst (v := 1) dX11_checkParts_49 (by decide) ?_
        refine ev_iadd dX11_checkParts_50 ?_
        obtain ⟨σ11, e12, h⟩ := lt_some h
        refine ev_putI dX11_checkParts_51 fl_X11_251 rfl (Or.inl rfl) g1 ⟨rfl, rfl⟩ ?_
        refine ev_st e12 ?_
        refine ev_aload_nR 1 dX11_checkParts_54 rfl ?_
        refine ev_aload_nR 1 dX11_checkParts_55 rfl ?_
        obtain ⟨p13, e14, h⟩ := op_some h
        refine ev_getPR dX11_checkParts_56 fl_X11_29 rfl (isO_I e12 g1) e14 ?_
        refine ev_iload_n 2 dX11_checkParts_59 rfl ?_
        obtain ⟨g15, h⟩ := gd_some h
        obtain ⟨g16, h⟩ := gd_some h
        refine ev_iald dX11_checkParts_60 (isA_O g15) g16 ?_
        refine ev_iload_n 3 dX11_checkParts_61 rfl ?_
        refine ev_iload 0 dX11_checkParts_62 rfl ?_
        refine ev_iconst (v := (-1)) dX11_checkParts_64 (by decide) ?_
        refine ev_ixor dX11_checkParts_65 ?_
        refine ev_iand dX11_checkParts_66 ?_
        refine ev_iload_n 4 dX11_checkParts_67 rfl ?_
        refine ev_iconst (v := 1) dX11_checkParts_68 (by decide) ?_
        refine ev_iadd dX11_checkParts_69 ?_
        obtain ⟨r19, σ17, e18, h⟩ := bd_some h
        refine ev_invVv (As := [.int (sI σ11 p13 a1.toNatClampNeg), .int (a2 &&& (v7 ^^^ ((-1)))), .int (a3 + 1)]) (st := []) dX11_checkParts_70 cb_X11_await tp_1249 tp_1251 tp_83 kf11 rfl (by omega) (isO_I e12 g1) rfl rfl (Nat.le_of_ble_eq_true rfl) (x_X11_await e18) ?_
        refine ev_aload_nR 1 dX11_checkParts_73 rfl ?_
        refine ev_aload_nR 1 dX11_checkParts_74 rfl ?_
        obtain ⟨g20, h⟩ := gd_some h
        obtain ⟨p21, e22, h⟩ := op_some h
        refine ev_getPR dX11_checkParts_75 fl_X11_26 rfl g20 e22 ?_
        refine ev_iload_n 2 dX11_checkParts_78 rfl ?_
        obtain ⟨g23, h⟩ := gd_some h
        obtain ⟨g24, h⟩ := gd_some h
        refine ev_iald dX11_checkParts_79 (isA_O g23) g24 ?_
        refine ev_iload 0 dX11_checkParts_80 rfl ?_
        refine ev_iload_n 4 dX11_checkParts_82 rfl ?_
        refine ev_iconst (v := 1) dX11_checkParts_83 (by decide) ?_
        refine ev_iadd dX11_checkParts_84 ?_
        obtain ⟨r27, σ25, e26, h⟩ := bd_some h
        refine ev_invVv (As := [.int (sI σ17 p21 a1.toNatClampNeg), .int (v7), .int (a3 + 1)]) (st := []) dX11_checkParts_85 cb_X11_await tp_1249 tp_1251 tp_83 kf11 rfl (by omega) g20 rfl rfl (Nat.le_of_ble_eq_true rfl) (x_X11_await e26) ?_
        refine ev_iconst (v := 0) dX11_checkParts_88 (by decide) ?_
        exact ev_retI .int dX11_checkParts_89 rfl rfl h
      · refine ev_if_eq_n 44 dX11_checkParts_39 rfl c10 ?_
        refine ev_iconst (v := 3) dX11_checkParts_42 (by decide) ?_
        exact ev_retI .int dX11_checkParts_43 rfl rfl h
def s_X11_checkPlus_67 (a0 : Nat) (a2 : Int32) (a3 : Int32) (t0 : Nat) (t1 : Int32) (σ : St) : Option (Int32 × St) :=
 if isO σ 11 t0 = true then (bd (s_X11_await t0 t1 a2 (a3 + 1) σ) fun r4 σ2 =>
 if isO σ2 11 a0 = true then (lt (setI σ2 a0 31 ((sI σ2 a0 31) + 1)) fun σ6 =>
 some (0, σ6)) else none) else none
set_option maxHeartbeats 4000000 in
set_option maxRecDepth 100000 in
theorem e_X11_checkPlus_67 {r : Int32} {σ' : St} : ∀ {a0 : Nat} {a2 : Int32} {a3 : Int32} {t0 : Nat} {t1 : Int32} {σ : St}, s_X11_checkPlus_67 a0 a2 a3 t0 t1 σ = some (r, σ') → Ev M_X11_checkPlus (2) 67 [(0, .ref a0), (2, .int (a2)), (3, .int (a3))] [.int (t1), .ref t0] σ (some (.int r)) σ' := by
  intro a0 a2 a3 t0 t1 σ h
  unfold s_X11_checkPlus_67 at h
  refine ev_iload_n 1 dX11_checkPlus_67 rfl ?_
  refine ev_iload_n 2 dX11_checkPlus_68 rfl ?_
  refine ev_iconst (v := 1) dX11_checkPlus_69 (by decide) ?_
  refine ev_iadd dX11_checkPlus_70 ?_
  obtain ⟨g1, h⟩ := gd_some h
  obtain ⟨r4, σ2, e3, h⟩ := bd_some h
  refine ev_invVv (As := [.int (t1), .int (a2), .int (a3 + 1)]) (st := []) dX11_checkPlus_71 cb_X11_await tp_1249 tp_1251 tp_83 kf11 rfl (by omega) g1 rfl rfl (Nat.le_of_ble_eq_true rfl) (x_X11_await e3) ?_
  refine ev_aload_nR 0 dX11_checkPlus_74 rfl ?_
  refine ev_dup dX11_checkPlus_75 rfl ?_
  obtain ⟨g5, h⟩ := gd_some h
  refine ev_getI dX11_checkPlus_76 fl_X11_251 rfl g5 ?_
  refine ev_iconst (v := 1) dX11_checkPlus_79 (by decide) ?_
  refine ev_iadd dX11_checkPlus_80 ?_
  obtain ⟨σ6, e7, h⟩ := lt_some h
  refine ev_putI dX11_checkPlus_81 fl_X11_251 rfl (Or.inl rfl) g5 ⟨rfl, rfl⟩ ?_
  refine ev_st e7 ?_
  refine ev_iconst (v := 0) dX11_checkPlus_84 (by decide) ?_
  exact ev_retI .int dX11_checkPlus_85 rfl rfl h
def s_X11_checkPlus (a0 : Nat) (a1 : Int32) (a2 : Int32) (a3 : Int32) (σ : St) : Option (Int32 × St) :=
 if isO σ 11 a0 = true then (if (sI σ a0 31) = (sI σ a0 4) then (some (2, σ)) else (op (sP σ a0 3) fun p10 =>
 if isO σ 13 p10 = true then (if inR (sI σ a0 31) (alen σ p10) = true then (bd (s_X11_in (sI σ p10 ((sI σ a0 31).toNatClampNeg)) 300 301 σ) fun r16 σ14 =>
 if r16 = 0 then (some (3, σ14)) else (if isO σ14 11 a0 = true then (op (sP σ14 a0 3) fun p19 =>
 if isO σ14 13 p19 = true then (if inR (sI σ14 a0 31) (alen σ14 p19) = true then (if (sI σ14 p19 ((sI σ14 a0 31).toNatClampNeg)) = 300 then (op (sP σ14 a0 8) fun p28 =>
 if isO σ14 13 p28 = true then (if inR a1 (alen σ14 p28) = true then (s_X11_checkPlus_67 a0 a2 a3 a0 (sI σ14 p28 a1.toNatClampNeg) σ14) else none) else none) else (op (sP σ14 a0 9) fun p24 =>
 if isO σ14 13 p24 = true then (if inR a1 (alen σ14 p24) = true then (s_X11_checkPlus_67 a0 a2 a3 a0 (sI σ14 p24 a1.toNatClampNeg) σ14) else none) else none)) else none) else none) else none)) else none) else none)) else none
set_option maxHeartbeats 4000000 in
set_option maxRecDepth 100000 in
theorem x_X11_checkPlus {a0 : Nat} {a1 : Int32} {a2 : Int32} {a3 : Int32} {σ : St} {r : Int32} {σ' : St} (h : s_X11_checkPlus a0 a1 a2 a3 σ = some (r, σ')) : Ex M_X11_checkPlus (2) [.ref a0, .int (a1), .int (a2), .int (a3)] σ (some (.int r)) σ' := by
  unfold s_X11_checkPlus at h
  refine ex_of (by decide) rfl (Nat.le_of_ble_eq_true rfl) ?_
  show Ev _ _ 0 [(0, .ref a0), (1, .int (a1)), (2, .int (a2)), (3, .int (a3))] [] _ _ _
  refine ev_aload_nR 0 dX11_checkPlus_0 rfl ?_
  obtain ⟨g8, h⟩ := gd_some h
  refine ev_getI dX11_checkPlus_1 fl_X11_251 rfl g8 ?_
  refine ev_aload_nR 0 dX11_checkPlus_4 rfl ?_
  refine ev_getI dX11_checkPlus_5 fl_X11_248 rfl g8 ?_
  rcases it_some h with ⟨c9, h⟩ | ⟨c9, h⟩
  · refine ev_icmp_ne_n 13 dX11_checkPlus_8 rfl c9 ?_
    refine ev_iconst (v := 2) dX11_checkPlus_11 (by decide) ?_
    exact ev_retI .int dX11_checkPlus_12 rfl rfl h
  · refine ev_icmp_ne (tgt := 13) dX11_checkPlus_8 rfl c9 ?_
    refine ev_aload_nR 0 dX11_checkPlus_13 rfl ?_
    obtain ⟨p10, e11, h⟩ := op_some h
    refine ev_getPR dX11_checkPlus_14 fl_X11_20 rfl g8 e11 ?_
    refine ev_aload_nR 0 dX11_checkPlus_17 rfl ?_
    refine ev_getI dX11_checkPlus_18 fl_X11_251 rfl g8 ?_
    obtain ⟨g12, h⟩ := gd_some h
    obtain ⟨g13, h⟩ := gd_some h
    refine ev_iald dX11_checkPlus_21 (isA_O g12) g13 ?_
    refine ev_sipush (v := 300) dX11_checkPlus_22 (by decide) ?_
    refine ev_sipush (v := 301) dX11_checkPlus_25 (by decide) ?_
    obtain ⟨r16, σ14, e15, h⟩ := bd_some h
    refine ev_invSi (As := [.int (sI σ p10 ((sI σ a0 31).toNatClampNeg)), .int (300), .int (301)]) (st := []) dX11_checkPlus_28 cb_X11_in tp_1066 tp_1067 (by omega) rfl rfl (Nat.le_of_ble_eq_true rfl) (x_X11_in e15) ?_
    rcases it_some h with ⟨c17, h⟩ | ⟨c17, h⟩
    · refine ev_if_ne_n 36 dX11_checkPlus_31 rfl c17 ?_
      refine ev_iconst (v := 3) dX11_checkPlus_34 (by decide) ?_
      exact ev_retI .int dX11_checkPlus_35 rfl rfl h
    · refine ev_if_ne (tgt := 36) dX11_checkPlus_31 rfl c17 ?_
      refine ev_aload_nR 0 dX11_checkPlus_36 rfl ?_
      refine ev_aload_nR 0 dX11_checkPlus_37 rfl ?_
      obtain ⟨g18, h⟩ := gd_some h
      obtain ⟨p19, e20, h⟩ := op_some h
      refine ev_getPR dX11_checkPlus_38 fl_X11_20 rfl g18 e20 ?_
      refine ev_aload_nR 0 dX11_checkPlus_41 rfl ?_
      refine ev_getI dX11_checkPlus_42 fl_X11_251 rfl g18 ?_
      obtain ⟨g21, h⟩ := gd_some h
      obtain ⟨g22, h⟩ := gd_some h
      refine ev_iald dX11_checkPlus_45 (isA_O g21) g22 ?_
      refine ev_sipush (v := 300) dX11_checkPlus_46 (by decide) ?_
      rcases it_some h with ⟨c23, h⟩ | ⟨c23, h⟩
      · refine ev_icmp_ne_n 61 dX11_checkPlus_49 rfl c23 ?_
        refine ev_aload_nR 0 dX11_checkPlus_52 rfl ?_
        obtain ⟨p28, e29, h⟩ := op_some h
        refine ev_getPR dX11_checkPlus_53 fl_X11_26 rfl g18 e29 ?_
        refine ev_iload_n 1 dX11_checkPlus_56 rfl ?_
        obtain ⟨g30, h⟩ := gd_some h
        obtain ⟨g31, h⟩ := gd_some h
        refine ev_iald dX11_checkPlus_57 (isA_O g30) g31 ?_
        refine ev_goto (tgt := 67) dX11_checkPlus_58 rfl ?_
        refine ev_sub (ls' := [(0, .ref a0), (2, .int (a2)), (3, .int (a3))]) [0, 2, 3] rfl ?_
        exact e_X11_checkPlus_67  h
      · refine ev_icmp_ne (tgt := 61) dX11_checkPlus_49 rfl c23 ?_
        refine ev_aload_nR 0 dX11_checkPlus_61 rfl ?_
        obtain ⟨p24, e25, h⟩ := op_some h
        refine ev_getPR dX11_checkPlus_62 fl_X11_29 rfl g18 e25 ?_
        refine ev_iload_n 1 dX11_checkPlus_65 rfl ?_
        obtain ⟨g26, h⟩ := gd_some h
        obtain ⟨g27, h⟩ := gd_some h
        refine ev_iald dX11_checkPlus_66 (isA_O g26) g27 ?_
        refine ev_sub (ls' := [(0, .ref a0), (2, .int (a2)), (3, .int (a3))]) [0, 2, 3] rfl ?_
        exact e_X11_checkPlus_67  h
def s_X11_checkOne (a0 : Nat) (a1 : Int32) (a2 : Int32) (a3 : Int32) (σ : St) : Option (Int32 × St) :=
 if isO σ 11 a0 = true then (op (sP σ a0 7) fun p2 =>
 if isO σ 13 p2 = true then (if inR a1 (alen σ p2) = true then (lt (sI σ p2 a1.toNatClampNeg : Int32) fun v6 =>
 if v6 = 0 then (op (sP σ a0 8) fun p9 =>
 if isO σ 13 p9 = true then (if inR a1 (alen σ p9) = true then (bd (s_X11_checkAtom a0 (sI σ p9 a1.toNatClampNeg) a2 a3 σ) fun r15 σ13 =>
 some (r15, σ13)) else none) else none) else (if v6 = 1 then (if a2 = 0 then (some (0, σ)) else (some (4, σ))) else (if v6 = 2 then (some (0, σ)) else (if v6 = 3 then (op (sP σ a0 8) fun p20 =>
 if isO σ 13 p20 = true then (if inR a1 (alen σ p20) = true then (bd (s_X11_await a0 (sI σ p20 a1.toNatClampNeg) a2 (a3 + 1) σ) fun r26 σ24 =>
 if a2 = 0 then (some (0, σ24)) else (some (4, σ24))) else none) else none) else (if v6 = 4 then (bd (s_X11_checkParts a0 a1 a2 a3 σ) fun r31 σ29 =>
 some (r31, σ29)) else (if v6 = 5 then (op (sP σ a0 9) fun p33 =>
 if isO σ 13 p33 = true then (if inR a1 (alen σ p33) = true then (bd (s_X11_await a0 (sI σ p33 a1.toNatClampNeg) a2 (a3 + 1) σ) fun r39 σ37 =>
 if isO σ37 11 a0 = true then (op (sP σ37 a0 8) fun p41 =>
 if isO σ37 13 p41 = true then (if inR a1 (alen σ37 p41) = true then (bd (s_X11_await a0 (sI σ37 p41 a1.toNatClampNeg) a2 (a3 + 1) σ37) fun r47 σ45 =>
 some (0, σ45)) else none) else none) else none) else none) else none) else (if v6 = 6 then (bd (s_X11_checkPlus a0 a1 a2 a3 σ) fun r51 σ49 =>
 some (r51, σ49)) else (op (sP σ a0 8) fun p52 =>
 if isO σ 13 p52 = true then (if inR a1 (alen σ p52) = true then (op (sP σ a0 9) fun p56 =>
 if isO σ 13 p56 = true then (if inR a1 (alen σ p56) = true then (bd (s_X11_await a0 (sI σ p52 a1.toNatClampNeg) (a2 ||| (1 <<< ((sI σ p56 a1.toNatClampNeg) &&& 31))) (a3 + 1) σ) fun r62 σ60 =>
 if isO σ60 11 a0 = true then (op (sP σ60 a0 9) fun p64 =>
 if isO σ60 13 p64 = true then (if inR a1 (alen σ60 p64) = true then (bd (s_X11_has a2 (sI σ60 p64 a1.toNatClampNeg) σ60) fun r70 σ68 =>
 if r70 = 0 then (some (0, σ68)) else (some (5, σ68))) else none) else none) else none) else none) else none) else none) else none)))))))) else none) else none) else none
set_option maxHeartbeats 4000000 in
set_option maxRecDepth 100000 in
theorem x_X11_checkOne {a0 : Nat} {a1 : Int32} {a2 : Int32} {a3 : Int32} {σ : St} {r : Int32} {σ' : St} (h : s_X11_checkOne a0 a1 a2 a3 σ = some (r, σ')) : Ex M_X11_checkOne (3) [.ref a0, .int (a1), .int (a2), .int (a3)] σ (some (.int r)) σ' := by
  unfold s_X11_checkOne at h
  refine ex_of (by decide) rfl (Nat.le_of_ble_eq_true rfl) ?_
  show Ev _ _ 0 [(0, .ref a0), (1, .int (a1)), (2, .int (a2)), (3, .int (a3))] [] _ _ _
  refine ev_aload_nR 0 dX11_checkOne_0 rfl ?_
  obtain ⟨g1, h⟩ := gd_some h
  obtain ⟨p2, e3, h⟩ := op_some h
  refine ev_getPR dX11_checkOne_1 fl_X11_23 rfl g1 e3 ?_
  refine ev_iload_n 1 dX11_checkOne_4 rfl ?_
  obtain ⟨g4, h⟩ := gd_some h
  obtain ⟨g5, h⟩ := gd_some h
  refine ev_iald dX11_checkOne_5 (isA_O g4) g5 ?_
  obtain ⟨v6, e7, h⟩ := lt_some h
  refine ev_topI e7 ?_
  rcases it_some h with ⟨c8, h⟩ | ⟨c8, h⟩
  · refine ev_tableIn (off := 42) (tgt := 48) dX11_checkOne_6 0 (by rw [c8]; decide) (by decide) rfl rfl ?_
    refine ev_aload_nR 0 dX11_checkOne_48 rfl ?_
    refine ev_aload_nR 0 dX11_checkOne_49 rfl ?_
    obtain ⟨p9, e10, h⟩ := op_some h
    refine ev_getPR dX11_checkOne_50 fl_X11_26 rfl g1 e10 ?_
    refine ev_iload_n 1 dX11_checkOne_53 rfl ?_
    obtain ⟨g11, h⟩ := gd_some h
    obtain ⟨g12, h⟩ := gd_some h
    refine ev_iald dX11_checkOne_54 (isA_O g11) g12 ?_
    refine ev_iload_n 2 dX11_checkOne_55 rfl ?_
    refine ev_iload_n 3 dX11_checkOne_56 rfl ?_
    obtain ⟨r15, σ13, e14, h⟩ := bd_some h
    refine ev_invVi (As := [.int (sI σ p9 a1.toNatClampNeg), .int (a2), .int (a3)]) (st := []) dX11_checkOne_57 cb_X11_checkAtom tp_1289 tp_1291 tp_89 kf11 rfl (by omega) g1 rfl rfl (Nat.le_of_ble_eq_true rfl) (x_X11_checkAtom e14) ?_
    exact ev_retI .int dX11_checkOne_60 rfl rfl h
  rcases it_some h with ⟨c16, h⟩ | ⟨c16, h⟩
  · refine ev_tableIn (off := 55) (tgt := 61) dX11_checkOne_6 1 (by rw [c16]; decide) (by decide) rfl rfl ?_
    refine ev_iload_n 2 dX11_checkOne_61 rfl ?_
    rcases it_some h with ⟨c17, h⟩ | ⟨c17, h⟩
    · refine ev_if_ne_n 69 dX11_checkOne_62 rfl c17 ?_
      refine ev_iconst (v := 0) dX11_checkOne_65 (by decide) ?_
      refine ev_goto (tgt := 70) dX11_checkOne_66 rfl ?_
      exact ev_retI .int dX11_checkOne_70 rfl rfl h
    · refine ev_if_ne (tgt := 69) dX11_checkOne_62 rfl c17 ?_
      refine ev_iconst (v := 4) dX11_checkOne_69 (by decide) ?_
      exact ev_retI .int dX11_checkOne_70 rfl rfl h
  rcases it_some h with ⟨c18, h⟩ | ⟨c18, h⟩
  · refine ev_tableIn (off := 65) (tgt := 71) dX11_checkOne_6 2 (by rw [c18]; decide) (by decide) rfl rfl ?_
    refine ev_iconst (v := 0) dX11_checkOne_71 (by decide) ?_
    exact ev_retI .int dX11_checkOne_72 rfl rfl h
  rcases it_some h with ⟨c19, h⟩ | ⟨c19, h⟩
  · refine ev_tableIn (off := 67) (tgt := 73) dX11_checkOne_6 3 (by rw [c19]; decide) (by decide) rfl rfl ?_
    refine ev_aload_nR 0 dX11_checkOne_73 rfl ?_
    refine ev_aload_nR 0 dX11_checkOne_74 rfl ?_
    obtain ⟨p20, e21, h⟩ := op_some h
    refine ev_getPR dX11_checkOne_75 fl_X11_26 rfl g1 e21 ?_
    refine ev_iload_n 1 dX11_checkOne_78 rfl ?_
    obtain ⟨g22, h⟩ := gd_some h
    obtain ⟨g23, h⟩ := gd_some h
    refine ev_iald dX11_checkOne_79 (isA_O g22) g23 ?_
    refine ev_iload_n 2 dX11_checkOne_80 rfl ?_
    refine ev_iload_n 3 dX11_checkOne_81 rfl ?_
    refine ev_iconst (v := 1) dX11_checkOne_82 (by decide) ?_
    refine ev_iadd dX11_checkOne_83 ?_
    obtain ⟨r26, σ24, e25, h⟩ := bd_some h
    refine ev_invVv (As := [.int (sI σ p20 a1.toNatClampNeg), .int (a2), .int (a3 + 1)]) (st := []) dX11_checkOne_84 cb_X11_await tp_1249 tp_1251 tp_83 kf11 rfl (by omega) g1 rfl rfl (Nat.le_of_ble_eq_true rfl) (x_X11_await e25) ?_
    refine ev_iload_n 2 dX11_checkOne_87 rfl ?_
    rcases it_some h with ⟨c27, h⟩ | ⟨c27, h⟩
    · refine ev_if_ne_n 95 dX11_checkOne_88 rfl c27 ?_
      refine ev_iconst (v := 0) dX11_checkOne_91 (by decide) ?_
      refine ev_goto (tgt := 96) dX11_checkOne_92 rfl ?_
      exact ev_retI .int dX11_checkOne_96 rfl rfl h
    · refine ev_if_ne (tgt := 95) dX11_checkOne_88 rfl c27 ?_
      refine ev_iconst (v := 4) dX11_checkOne_95 (by decide) ?_
      exact ev_retI .int dX11_checkOne_96 rfl rfl h
  rcases it_some h with ⟨c28, h⟩ | ⟨c28, h⟩
  · refine ev_tableIn (off := 91) (tgt := 97) dX11_checkOne_6 4 (by rw [c28]; decide) (by decide) rfl rfl ?_
    refine ev_aload_nR 0 dX11_checkOne_97 rfl ?_
    refine ev_iload_n 1 dX11_checkOne_98 rfl ?_
    refine ev_iload_n 2 dX11_checkOne_99 rfl ?_
    refine ev_iload_n 3 dX11_checkOne_100 rfl ?_
    obtain ⟨r31, σ29, e30, h⟩ := bd_some h
    refine ev_invVi (As := [.int (a1), .int (a2), .int (a3)]) (st := []) dX11_checkOne_101 cb_X11_checkParts tp_1293 tp_1295 tp_90 kf11 rfl (by omega) g1 rfl rfl (Nat.le_of_ble_eq_true rfl) (x_X11_checkParts e30) ?_
    exact ev_retI .int dX11_checkOne_104 rfl rfl h
  rcases it_some h with ⟨c32, h⟩ | ⟨c32, h⟩
  · refine ev_tableIn (off := 99) (tgt := 105) dX11_checkOne_6 5 (by rw [c32]; decide) (by decide) rfl rfl ?_
    refine ev_aload_nR 0 dX11_checkOne_105 rfl ?_
    refine ev_aload_nR 0 dX11_checkOne_106 rfl ?_
    obtain ⟨p33, e34, h⟩ := op_some h
    refine ev_getPR dX11_checkOne_107 fl_X11_29 rfl g1 e34 ?_
    refine ev_iload_n 1 dX11_checkOne_110 rfl ?_
    obtain ⟨g35, h⟩ := gd_some h
    obtain ⟨g36, h⟩ := gd_some h
    refine ev_iald dX11_checkOne_111 (isA_O g35) g36 ?_
    refine ev_iload_n 2 dX11_checkOne_112 rfl ?_
    refine ev_iload_n 3 dX11_checkOne_113 rfl ?_
    refine ev_iconst (v := 1) dX11_checkOne_114 (by decide) ?_
    refine ev_iadd dX11_checkOne_115 ?_
    obtain ⟨r39, σ37, e38, h⟩ := bd_some h
    refine ev_invVv (As := [.int (sI σ p33 a1.toNatClampNeg), .int (a2), .int (a3 + 1)]) (st := []) dX11_checkOne_116 cb_X11_await tp_1249 tp_1251 tp_83 kf11 rfl (by omega) g1 rfl rfl (Nat.le_of_ble_eq_true rfl) (x_X11_await e38) ?_
    refine ev_aload_nR 0 dX11_checkOne_119 rfl ?_
    refine ev_aload_nR 0 dX11_checkOne_120 rfl ?_
    obtain ⟨g40, h⟩ := gd_some h
    obtain ⟨p41, e42, h⟩ := op_some h
    refine ev_getPR dX11_checkOne_121 fl_X11_26 rfl g40 e42 ?_
    refine ev_iload_n 1 dX11_checkOne_124 rfl ?_
    obtain ⟨g43, h⟩ := gd_some h
    obtain ⟨g44, h⟩ := gd_some h
    refine ev_iald dX11_checkOne_125 (isA_O g43) g44 ?_
    refine ev_iload_n 2 dX11_checkOne_126 rfl ?_
    refine ev_iload_n 3 dX11_checkOne_127 rfl ?_
    refine ev_iconst (v := 1) dX11_checkOne_128 (by decide) ?_
    refine ev_iadd dX11_checkOne_129 ?_
    obtain ⟨r47, σ45, e46, h⟩ := bd_some h
    refine ev_invVv (As := [.int (sI σ37 p41 a1.toNatClampNeg), .int (a2), .int (a3 + 1)]) (st := []) dX11_checkOne_130 cb_X11_await tp_1249 tp_1251 tp_83 kf11 rfl (by omega) g40 rfl rfl (Nat.le_of_ble_eq_true rfl) (x_X11_await e46) ?_
    refine ev_iconst (v := 0) dX11_checkOne_133 (by decide) ?_
    exact ev_retI .int dX11_checkOne_134 rfl rfl h
  rcases it_some h with ⟨c48, h⟩ | ⟨c48, h⟩
  · refine ev_tableIn (off := 129) (tgt := 135) dX11_checkOne_6 6 (by rw [c48]; decide) (by decide) rfl rfl ?_
    refine ev_aload_nR 0 dX11_checkOne_135 rfl ?_
    refine ev_iload_n 1 dX11_checkOne_136 rfl ?_
    refine ev_iload_n 2 dX11_checkOne_137 rfl ?_
    refine ev_iload_n 3 dX11_checkOne_138 rfl ?_
    obtain ⟨r51, σ49, e50, h⟩ := bd_some h
    refine ev_invVi (As := [.int (a1), .int (a2), .int (a3)]) (st := []) dX11_checkOne_139 cb_X11_checkPlus tp_1297 tp_1299 tp_91 kf11 rfl (by omega) g1 rfl rfl (Nat.le_of_ble_eq_true rfl) (x_X11_checkPlus e50) ?_
    exact ev_retI .int dX11_checkOne_142 rfl rfl h
  have hx : v6.toInt < 0 ∨ 6 < v6.toInt := tab_out v6 0 6 (by decide) (fun k h1 h2 => by
      rcases (show k = 0 ∨ k = 1 ∨ k = 2 ∨ k = 3 ∨ k = 4 ∨ k = 5 ∨ k = 6 by omega) with rfl | rfl | rfl | rfl | rfl | rfl | rfl
      · exact ne_toInt c8
      · exact ne_toInt c16
      · exact ne_toInt c18
      · exact ne_toInt c19
      · exact ne_toInt c28
      · exact ne_toInt c32
      · exact ne_toInt c48)
  refine ev_tableOut (tgt := 143) dX11_checkOne_6 hx rfl ?_
  refine ev_aload_nR 0 dX11_checkOne_143 rfl ?_
  refine ev_aload_nR 0 dX11_checkOne_144 rfl ?_
  obtain ⟨p52, e53, h⟩ := op_some h
  refine ev_getPR dX11_checkOne_145 fl_X11_26 rfl g1 e53 ?_
  refine ev_iload_n 1 dX11_checkOne_148 rfl ?_
  obtain ⟨g54, h⟩ := gd_some h
  obtain ⟨g55, h⟩ := gd_some h
  refine ev_iald dX11_checkOne_149 (isA_O g54) g55 ?_
  refine ev_iload_n 2 dX11_checkOne_150 rfl ?_
  refine ev_iconst (v := 1) dX11_checkOne_151 (by decide) ?_
  refine ev_aload_nR 0 dX11_checkOne_152 rfl ?_
  obtain ⟨p56, e57, h⟩ := op_some h
  refine ev_getPR dX11_checkOne_153 fl_X11_29 rfl g1 e57 ?_
  refine ev_iload_n 1 dX11_checkOne_156 rfl ?_
  obtain ⟨g58, h⟩ := gd_some h
  obtain ⟨g59, h⟩ := gd_some h
  refine ev_iald dX11_checkOne_157 (isA_O g58) g59 ?_
  refine ev_ishl dX11_checkOne_158 ?_
  refine ev_ior dX11_checkOne_159 ?_
  refine ev_iload_n 3 dX11_checkOne_160 rfl ?_
  refine ev_iconst (v := 1) dX11_checkOne_161 (by decide) ?_
  refine ev_iadd dX11_checkOne_162 ?_
  obtain ⟨r62, σ60, e61, h⟩ := bd_some h
  refine ev_invVv (As := [.int (sI σ p52 a1.toNatClampNeg), .int (a2 ||| (1 <<< ((sI σ p56 a1.toNatClampNeg) &&& 31))), .int (a3 + 1)]) (st := []) dX11_checkOne_163 cb_X11_await tp_1249 tp_1251 tp_83 kf11 rfl (by omega) g1 rfl rfl (Nat.le_of_ble_eq_true rfl) (x_X11_await e61) ?_
  refine ev_iload_n 2 dX11_checkOne_166 rfl ?_
  refine ev_aload_nR 0 dX11_checkOne_167 rfl ?_
  obtain ⟨g63, h⟩ := gd_some h
  obtain ⟨p64, e65, h⟩ := op_some h
  refine ev_getPR dX11_checkOne_168 fl_X11_29 rfl g63 e65 ?_
  refine ev_iload_n 1 dX11_checkOne_171 rfl ?_
  obtain ⟨g66, h⟩ := gd_some h
  obtain ⟨g67, h⟩ := gd_some h
  refine ev_iald dX11_checkOne_172 (isA_O g66) g67 ?_
  obtain ⟨r70, σ68, e69, h⟩ := bd_some h
  refine ev_invSi (As := [.int (a2), .int (sI σ60 p64 a1.toNatClampNeg)]) (st := []) dX11_checkOne_173 cb_X11_has tp_1182 tp_1183 (by omega) rfl rfl (Nat.le_of_ble_eq_true rfl) (x_X11_has e69) ?_
  rcases it_some h with ⟨c71, h⟩ | ⟨c71, h⟩
  · refine ev_if_eq (tgt := 183) dX11_checkOne_176 rfl c71 ?_
    refine ev_iconst (v := 0) dX11_checkOne_183 (by decide) ?_
    exact ev_retI .int dX11_checkOne_184 rfl rfl h
  · refine ev_if_eq_n 183 dX11_checkOne_176 rfl c71 ?_
    refine ev_iconst (v := 5) dX11_checkOne_179 (by decide) ?_
    refine ev_goto (tgt := 184) dX11_checkOne_180 rfl ?_
    exact ev_retI .int dX11_checkOne_184 rfl rfl h
def s_X11_checked_84 (k32 : Nat → St → Option (Int32 × St)) (a0 : Nat) (a1 : Int32) (t0 : Nat) (t1 : Int32) (σ : St) : Option (Int32 × St) :=
 if isO σ 11 t0 = true then (lt (setI σ t0 32 t1) fun σ2 =>
 if isO σ2 11 a0 = true then (op (sP σ2 a0 27) fun p5 =>
 if isO σ2 13 p5 = true then (if inR (sI σ2 a0 30) (alen σ2 p5) = true then (op (sP σ2 a0 28) fun p9 =>
 if isO σ2 13 p9 = true then (if inR (sI σ2 a0 30) (alen σ2 p9) = true then (bd (s_X11_checkOne a0 (sI σ2 p5 ((sI σ2 a0 30).toNatClampNeg)) (sI σ2 p9 ((sI σ2 a0 30).toNatClampNeg)) a1 σ2) fun r15 σ13 =>
 if r15 ≤ 0 then (k32 a0 σ13) else (some (r15, σ13))) else none) else none) else none) else none) else none) else none
set_option maxHeartbeats 4000000 in
set_option maxRecDepth 100000 in
theorem e_X11_checked_84 {r : Int32} {σ' : St} {k32 : Nat → St → Option (Int32 × St)} (hk32 : ∀ {y0 : Nat} {σ : St}, k32 y0 σ = some (r, σ') → Ev M_X11_checked (8) 32 [(0, .ref y0)] [] σ (some (.int r)) σ') : ∀ {a0 : Nat} {a1 : Int32} {t0 : Nat} {t1 : Int32} {σ : St}, s_X11_checked_84 k32 a0 a1 t0 t1 σ = some (r, σ') → Ev M_X11_checked (8) 84 [(0, .ref a0), (1, .int (a1))] [.int (t1), .ref t0] σ (some (.int r)) σ' := by
  intro a0 a1 t0 t1 σ h
  unfold s_X11_checked_84 at h
  obtain ⟨g1, h⟩ := gd_some h
  obtain ⟨σ2, e3, h⟩ := lt_some h
  refine ev_putI dX11_checked_84 fl_X11_263 rfl (Or.inl rfl) g1 ⟨rfl, rfl⟩ ?_
  refine ev_st e3 ?_
  refine ev_aload_nR 0 dX11_checked_87 rfl ?_
  refine ev_aload_nR 0 dX11_checked_88 rfl ?_
  obtain ⟨g4, h⟩ := gd_some h
  obtain ⟨p5, e6, h⟩ := op_some h
  refine ev_getPR dX11_checked_89 fl_X11_70 rfl g4 e6 ?_
  refine ev_aload_nR 0 dX11_checked_92 rfl ?_
  refine ev_getI dX11_checked_93 fl_X11_226 rfl g4 ?_
  obtain ⟨g7, h⟩ := gd_some h
  obtain ⟨g8, h⟩ := gd_some h
  refine ev_iald dX11_checked_96 (isA_O g7) g8 ?_
  refine ev_aload_nR 0 dX11_checked_97 rfl ?_
  obtain ⟨p9, e10, h⟩ := op_some h
  refine ev_getPR dX11_checked_98 fl_X11_73 rfl g4 e10 ?_
  refine ev_aload_nR 0 dX11_checked_101 rfl ?_
  refine ev_getI dX11_checked_102 fl_X11_226 rfl g4 ?_
  obtain ⟨g11, h⟩ := gd_some h
  obtain ⟨g12, h⟩ := gd_some h
  refine ev_iald dX11_checked_105 (isA_O g11) g12 ?_
  refine ev_iload_n 1 dX11_checked_106 rfl ?_
  obtain ⟨r15, σ13, e14, h⟩ := bd_some h
  refine ev_invVi (As := [.int (sI σ2 p5 ((sI σ2 a0 30).toNatClampNeg)), .int (sI σ2 p9 ((sI σ2 a0 30).toNatClampNeg)), .int (a1)]) (st := []) dX11_checked_107 cb_X11_checkOne tp_1285 tp_1287 tp_88 kf11 rfl (by omega) g4 rfl rfl (Nat.le_of_ble_eq_true rfl) (x_X11_checkOne e14) ?_
  refine ev_istore_n (ls' := [(2, .int (r15)), (0, .ref a0), (1, .int (a1))]) dX11_checked_110 (by decide) rfl ?_
  refine ev_iload_n 0 dX11_checked_111 rfl ?_
  rcases it_some h with ⟨c16, h⟩ | ⟨c16, h⟩
  · refine ev_if_le (tgt := 117) dX11_checked_112 rfl c16 ?_
    refine ev_goto (tgt := 32) dX11_checked_117 rfl ?_
    refine ev_sub (ls' := [(0, .ref a0)]) [1] rfl ?_
    exact hk32 h
  · refine ev_if_le_n 117 dX11_checked_112 rfl c16 ?_
    refine ev_iload_n 0 dX11_checked_115 rfl ?_
    exact ev_retI .int dX11_checked_116 rfl rfl h
def sb_X11_checked_32 (k32 : Nat → St → Option (Int32 × St)) (a0 : Nat) (σ : St) : Option (Int32 × St) :=
 if isO σ 11 a0 = true then (if (sI σ a0 30) ≤ 0 then (if (sI σ a0 4) ≤ (sI σ a0 31) then (some (0, σ)) else (some (6, σ))) else (lt (setI σ a0 30 ((sI σ a0 30) - 1)) fun σ20 =>
 op (sP σ20 a0 29) fun p22 =>
 if isO σ20 13 p22 = true then (if inR (sI σ20 a0 30) (alen σ20 p22) = true then (lt (sI σ20 p22 ((sI σ20 a0 30).toNatClampNeg) : Int32) fun v26 =>
 if v26 ≤ 12 then (if v26 ≤ (sI σ20 a0 32) then (s_X11_checked_84 k32 a0 v26 a0 (sI σ20 a0 32) σ20) else (s_X11_checked_84 k32 a0 v26 a0 v26 σ20)) else (some (1, σ20))) else none) else none)) else none
def s_X11_checked_32 (F : Nat) : Nat → St → Option (Int32 × St) := lp (fun _ _ => none) (sb_X11_checked_32 ) F
set_option maxHeartbeats 4000000 in
set_option maxRecDepth 100000 in
theorem e_X11_checked_32 {r : Int32} {σ' : St} (F : Nat) : ∀ {a0 : Nat} {σ : St}, s_X11_checked_32 F a0 σ = some (r, σ') → Ev M_X11_checked (8) 32 [(0, .ref a0)] [] σ (some (.int r)) σ' := by
  induction F with
  | zero => intro a0 σ h; cases h
  | succ F ih =>
    intro a0 σ h
    change sb_X11_checked_32  (s_X11_checked_32 F) a0 σ = some (r, σ') at h
    unfold sb_X11_checked_32 at h
    have hk32 := @ih
    refine ev_aload_nR 0 dX11_checked_32 rfl ?_
    obtain ⟨g17, h⟩ := gd_some h
    refine ev_getI dX11_checked_33 fl_X11_226 rfl g17 ?_
    rcases it_some h with ⟨c18, h⟩ | ⟨c18, h⟩
    · refine ev_if_le (tgt := 120) dX11_checked_36 rfl c18 ?_
      refine ev_aload_nR 0 dX11_checked_120 rfl ?_
      refine ev_getI dX11_checked_121 fl_X11_251 rfl g17 ?_
      refine ev_aload_nR 0 dX11_checked_124 rfl ?_
      refine ev_getI dX11_checked_125 fl_X11_248 rfl g17 ?_
      rcases it_some h with ⟨c19, h⟩ | ⟨c19, h⟩
      · refine ev_icmp_ge (tgt := 136) dX11_checked_128 rfl c19 ?_
        refine ev_iconst (v := 0) dX11_checked_136 (by decide) ?_
        exact ev_retI .int dX11_checked_137 rfl rfl h
      · refine ev_icmp_ge_n 136 dX11_checked_128 rfl c19 ?_
        refine ev_bipush (v := 6) dX11_checked_131 (by decide) ?_
        refine ev_goto (tgt := 137) dX11_checked_133 rfl ?_
        exact ev_retI .int dX11_checked_137 rfl rfl h
    · refine ev_if_le_n 120 dX11_checked_36 rfl c18 ?_
      refine ev_aload_nR 0 dX11_checked_39 rfl ?_
      refine ev_dup dX11_checked_40 rfl ?_
      refine ev_getI dX11_checked_41 fl_X11_226 rfl g17 ?_
      refine ev_iconst (v := 1) dX11_checked_44 (by decide) ?_
      refine ev_isub dX11_checked_45 ?_
      obtain ⟨σ20, e21, h⟩ := lt_some h
      refine ev_putI dX11_checked_46 fl_X11_226 rfl (Or.inl rfl) g17 ⟨rfl, rfl⟩ ?_
      refine ev_st e21 ?_
      refine ev_aload_nR 0 dX11_checked_49 rfl ?_
      obtain ⟨p22, e23, h⟩ := op_some h
      refine ev_getPR dX11_checked_50 fl_X11_76 rfl (isO_I e21 g17) e23 ?_
      refine ev_aload_nR 0 dX11_checked_53 rfl ?_
      refine ev_getI dX11_checked_54 fl_X11_226 rfl (isO_I e21 g17) ?_
      obtain ⟨g24, h⟩ := gd_some h
      obtain ⟨g25, h⟩ := gd_some h
      refine ev_iald dX11_checked_57 (isA_O g24) g25 ?_
      obtain ⟨v26, e27, h⟩ := lt_some h
      refine ev_topI e27 ?_
      refine ev_istore_n (ls' := [(1, .int (v26)), (0, .ref a0)]) dX11_checked_58 (by decide) rfl ?_
      refine ev_iload_n 0 dX11_checked_59 rfl ?_
      refine ev_bipush (v := 12) dX11_checked_60 (by decide) ?_
      rcases it_some h with ⟨c28, h⟩ | ⟨c28, h⟩
      · refine ev_icmp_le (tgt := 67) dX11_checked_62 rfl c28 ?_
        refine ev_aload_nR 1 dX11_checked_67 rfl ?_
        refine ev_iload_n 0 dX11_checked_68 rfl ?_
        refine ev_aload_nR 1 dX11_checked_69 rfl ?_
        refine ev_getI dX11_checked_70 fl_X11_263 rfl (isO_I e21 g17) ?_
        rcases it_some h with ⟨c29, h⟩ | ⟨c29, h⟩
        · refine ev_icmp_le (tgt := 80) dX11_checked_73 rfl c29 ?_
          refine ev_aload_nR 1 dX11_checked_80 rfl ?_
          refine ev_getI dX11_checked_81 fl_X11_263 rfl (isO_I e21 g17) ?_
          refine ev_sub (ls' := [(0, .ref a0), (1, .int (v26))]) [1, 0] rfl ?_
          exact e_X11_checked_84 hk32 h
        · refine ev_icmp_le_n 80 dX11_checked_73 rfl c29 ?_
          refine ev_iload_n 0 dX11_checked_76 rfl ?_
          refine ev_goto (tgt := 84) dX11_checked_77 rfl ?_
          refine ev_sub (ls' := [(0, .ref a0), (1, .int (v26))]) [1, 0] rfl ?_
          exact e_X11_checked_84 hk32 h
      · refine ev_icmp_le_n 67 dX11_checked_62 rfl c28 ?_
        refine ev_iconst (v := 1) dX11_checked_65 (by decide) ?_
        exact ev_retI .int dX11_checked_66 rfl rfl h
def s_X11_checked (a0 : Nat) (σ : St) : Option (Int32 × St) :=
 if isO σ 11 a0 = true then (bd (s_X11_lay a0 σ) fun r33 σ31 =>
 if isO σ31 11 a0 = true then (lt (setI σ31 a0 31 0) fun σ35 =>
 lt (setI σ35 a0 32 0) fun σ37 =>
 lt (setI σ37 a0 30 0) fun σ39 =>
 bd (s_X11_all a0 σ39) fun r43 σ41 =>
 if isO σ41 11 a0 = true then (bd (s_X11_await a0 (sI σ39 a0 10) r43 1 σ41) fun r47 σ45 =>
 s_X11_checked_32 16000 a0 σ45) else none) else none) else none
set_option maxHeartbeats 4000000 in
set_option maxRecDepth 100000 in
theorem x_X11_checked {a0 : Nat} {σ : St} {r : Int32} {σ' : St} (h : s_X11_checked a0 σ = some (r, σ')) : Ex M_X11_checked (8) [.ref a0] σ (some (.int r)) σ' := by
  unfold s_X11_checked at h
  refine ex_of (by decide) rfl (Nat.le_of_ble_eq_true rfl) ?_
  show Ev _ _ 0 [(0, .ref a0)] [] _ _ _
  refine ev_aload_nR 0 dX11_checked_0 rfl ?_
  obtain ⟨g30, h⟩ := gd_some h
  obtain ⟨r33, σ31, e32, h⟩ := bd_some h
  refine ev_invVv (As := []) (st := []) dX11_checked_1 cb_X11_lay tp_1170 tp_1172 tp_70 kf11 rfl (by omega) g30 rfl rfl (Nat.le_of_ble_eq_true rfl) (x_X11_lay e32) ?_
  refine ev_aload_nR 0 dX11_checked_4 rfl ?_
  refine ev_iconst (v := 0) dX11_checked_5 (by decide) ?_
  obtain ⟨g34, h⟩ := gd_some h
  obtain ⟨σ35, e36, h⟩ := lt_some h
  refine ev_putI dX11_checked_6 fl_X11_251 rfl (Or.inl rfl) g34 ⟨rfl, rfl⟩ ?_
  refine ev_st e36 ?_
  refine ev_aload_nR 0 dX11_checked_9 rfl ?_
  refine ev_iconst (v := 0) dX11_checked_10 (by decide) ?_
  obtain ⟨σ37, e38, h⟩ := lt_some h
  refine ev_putI dX11_checked_11 fl_X11_263 rfl (Or.inl rfl) (isO_I e36 g34) ⟨rfl, rfl⟩ ?_
  refine ev_st e38 ?_
  refine ev_aload_nR 0 dX11_checked_14 rfl ?_
  refine ev_iconst (v := 0) dX11_checked_15 (by decide) ?_
  obtain ⟨σ39, e40, h⟩ := lt_some h
  refine ev_putI dX11_checked_16 fl_X11_226 rfl (Or.inl rfl) (isO_I e38 (isO_I e36 g34)) ⟨rfl, rfl⟩ ?_
  refine ev_st e40 ?_
  refine ev_aload_nR 0 dX11_checked_19 rfl ?_
  refine ev_aload_nR 0 dX11_checked_20 rfl ?_
  refine ev_getI dX11_checked_21 fl_X11_98 rfl (isO_I e40 (isO_I e38 (isO_I e36 g34))) ?_
  refine ev_aload_nR 0 dX11_checked_24 rfl ?_
  obtain ⟨r43, σ41, e42, h⟩ := bd_some h
  refine ev_invVi (As := []) (st := [.int (sI σ39 a0 10), .ref a0]) dX11_checked_25 cb_X11_all tp_1162 tp_1164 tp_68 kf11 rfl (by omega) (isO_I e40 (isO_I e38 (isO_I e36 g34))) rfl rfl (Nat.le_of_ble_eq_true rfl) (x_X11_all e42) ?_
  refine ev_iconst (v := 1) dX11_checked_28 (by decide) ?_
  obtain ⟨g44, h⟩ := gd_some h
  obtain ⟨r47, σ45, e46, h⟩ := bd_some h
  refine ev_invVv (As := [.int (sI σ39 a0 10), .int (r43), .int (1)]) (st := []) dX11_checked_29 cb_X11_await tp_1249 tp_1251 tp_83 kf11 rfl (by omega) g44 rfl rfl (Nat.le_of_ble_eq_true rfl) (x_X11_await e46) ?_
  refine ev_sub (ls' := [(0, .ref a0)]) [0] rfl ?_
  exact e_X11_checked_32 16000 h
def s_X11_check (a0 : Nat) (a1 : Int32) (σ : St) : Option (Int32 × St) :=
 bd (s_X11_in a1 0 2 σ) fun r3 σ1 =>
 if r3 = 0 then (some ((-2), σ1)) else (if isO σ1 11 a0 = true then (bd (s_X11_isGoal a0 σ1) fun r8 σ6 =>
 if r8 = 0 then (some ((-3), σ6)) else (if isO σ6 11 a0 = true then (bd (s_X11_checked a0 σ6) fun r13 σ11 =>
 if a1 = 0 then (some (r13, σ11)) else (if a1 = 1 then (if isO σ11 11 a0 = true then (some (sI σ11 a0 31, σ11)) else none) else (if isO σ11 11 a0 = true then (some (sI σ11 a0 32, σ11)) else none))) else none)) else none)
set_option maxHeartbeats 4000000 in
set_option maxRecDepth 100000 in
theorem x_X11_check {a0 : Nat} {a1 : Int32} {σ : St} {r : Int32} {σ' : St} (h : s_X11_check a0 a1 σ = some (r, σ')) : Ex M_X11_check (9) [.ref a0, .int (a1)] σ (some (.int r)) σ' := by
  unfold s_X11_check at h
  refine ex_of (by decide) rfl (Nat.le_of_ble_eq_true rfl) ?_
  show Ev _ _ 0 [(0, .ref a0), (1, .int (a1))] [] _ _ _
  refine ev_iload_n 1 dX11_check_0 rfl ?_
  refine ev_iconst (v := 0) dX11_check_1 (by decide) ?_
  refine ev_iconst (v := 2) dX11_check_2 (by decide) ?_
  obtain ⟨r3, σ1, e2, h⟩ := bd_some h
  refine ev_invSi (As := [.int (a1), .int (0), .int (2)]) (st := []) dX11_check_3 cb_X11_in tp_1066 tp_1067 (by omega) rfl rfl (Nat.le_of_ble_eq_true rfl) (x_X11_in e2) ?_
  rcases it_some h with ⟨c4, h⟩ | ⟨c4, h⟩
  · refine ev_if_ne_n 12 dX11_check_6 rfl c4 ?_
    refine ev_bipush (v := (-2)) dX11_check_9 (by decide) ?_
    exact ev_retI .int dX11_check_11 rfl rfl h
  · refine ev_if_ne (tgt := 12) dX11_check_6 rfl c4 ?_
    refine ev_aload_nR 0 dX11_check_12 rfl ?_
    obtain ⟨g5, h⟩ := gd_some h
    obtain ⟨r8, σ6, e7, h⟩ := bd_some h
    refine ev_invVi (As := []) (st := []) dX11_check_13 cb_X11_isGoal tp_1166 tp_1168 tp_69 kf11 rfl (by omega) g5 rfl rfl (Nat.le_of_ble_eq_true rfl) (x_X11_isGoal e7) ?_
    rcases it_some h with ⟨c9, h⟩ | ⟨c9, h⟩
    · refine ev_if_ne_n 22 dX11_check_16 rfl c9 ?_
      refine ev_bipush (v := (-3)) dX11_check_19 (by decide) ?_
      exact ev_retI .int dX11_check_21 rfl rfl h
    · refine ev_if_ne (tgt := 22) dX11_check_16 rfl c9 ?_
      refine ev_aload_nR 0 dX11_check_22 rfl ?_
      obtain ⟨g10, h⟩ := gd_some h
      obtain ⟨r13, σ11, e12, h⟩ := bd_some h
      refine ev_invVi (As := []) (st := []) dX11_check_23 cb_X11_checked tp_1281 tp_1283 tp_87 kf11 rfl (by omega) g10 rfl rfl (Nat.le_of_ble_eq_true rfl) (x_X11_checked e12) ?_
      refine ev_istore_n (ls' := [(2, .int (r13)), (0, .ref a0), (1, .int (a1))]) dX11_check_26 (by decide) rfl ?_
      refine ev_iload_n 2 dX11_check_27 rfl ?_
      rcases it_some h with ⟨c14, h⟩ | ⟨c14, h⟩
      · refine ev_if_ne_n 35 dX11_check_28 rfl c14 ?_
        refine ev_iload_n 0 dX11_check_31 rfl ?_
        refine ev_goto (tgt := 51) dX11_check_32 rfl ?_
        exact ev_retI .int dX11_check_51 rfl rfl h
      · refine ev_if_ne (tgt := 35) dX11_check_28 rfl c14 ?_
        refine ev_iload_n 2 dX11_check_35 rfl ?_
        refine ev_iconst (v := 1) dX11_check_36 (by decide) ?_
        rcases it_some h with ⟨c15, h⟩ | ⟨c15, h⟩
        · refine ev_icmp_ne_n 47 dX11_check_37 rfl c15 ?_
          refine ev_aload_nR 1 dX11_check_40 rfl ?_
          obtain ⟨g17, h⟩ := gd_some h
          refine ev_getI dX11_check_41 fl_X11_251 rfl g17 ?_
          refine ev_goto (tgt := 51) dX11_check_44 rfl ?_
          exact ev_retI .int dX11_check_51 rfl rfl h
        · refine ev_icmp_ne (tgt := 47) dX11_check_37 rfl c15 ?_
          refine ev_aload_nR 1 dX11_check_47 rfl ?_
          obtain ⟨g16, h⟩ := gd_some h
          refine ev_getI dX11_check_48 fl_X11_263 rfl g16 ?_
          exact ev_retI .int dX11_check_51 rfl rfl h
def sb_X11_image_47 (k47 : Nat → Int32 → Int32 → St → Option (Int32 × St)) (a0 : Nat) (a1 : Int32) (a2 : Int32) (σ : St) : Option (Int32 × St) :=
 if (10 : Int32) ≤ a2 then (if isO σ 11 a0 = true then (op (sP σ a0 35) fun p3 =>
 if isO σ 15 p3 = true then (if inR a1 (alen σ p3) = true then (lt (setI σ p3 a1.toNatClampNeg 1) fun σ7 =>
 some (1, σ7)) else none) else none) else none) else (if isO σ 11 a0 = true then (op (sP σ a0 34) fun p10 =>
 op (sP σ a0 1) fun p12 =>
 if isO σ 13 p12 = true then (if inR a2 (alen σ p12) = true then (if isO σ 13 p10 = true then (if inR ((10 * a1) + a2) (alen σ p10) = true then (lt (setI σ p10 (((10 * a1) + a2).toNatClampNeg) (sI σ p12 a2.toNatClampNeg)) fun σ18 =>
 lt (a2 + 1 : Int32) fun v20 =>
 k47 a0 a1 v20 σ18) else none) else none) else none) else none) else none)
def s_X11_image_47 (F : Nat) : Nat → Int32 → Int32 → St → Option (Int32 × St) := lp (fun _ _ _ _ => none) (sb_X11_image_47 ) F
set_option maxHeartbeats 4000000 in
set_option maxRecDepth 100000 in
theorem e_X11_image_47 {r : Int32} {σ' : St} (F : Nat) : ∀ {a0 : Nat} {a1 : Int32} {a2 : Int32} {σ : St}, s_X11_image_47 F a0 a1 a2 σ = some (r, σ') → Ev M_X11_image (2) 47 [(0, .ref a0), (1, .int (a1)), (2, .int (a2))] [] σ (some (.int r)) σ' := by
  induction F with
  | zero => intro a0 a1 a2 σ h; cases h
  | succ F ih =>
    intro a0 a1 a2 σ h
    change sb_X11_image_47  (s_X11_image_47 F) a0 a1 a2 σ = some (r, σ') at h
    unfold sb_X11_image_47 at h
    have hk47 := @ih
    refine ev_iload_n 2 dX11_image_47 rfl ?_
    refine ev_bipush (v := 10) dX11_image_48 (by decide) ?_
    rcases it_some h with ⟨c1, h⟩ | ⟨c1, h⟩
    · refine ev_icmp_ge (tgt := 76) dX11_image_50 rfl c1 ?_
      refine ev_aload_nR 0 dX11_image_76 rfl ?_
      obtain ⟨g2, h⟩ := gd_some h
      obtain ⟨p3, e4, h⟩ := op_some h
      refine ev_getPR dX11_image_77 fl_X11_85 rfl g2 e4 ?_
      refine ev_iload_n 1 dX11_image_80 rfl ?_
      refine ev_iconst (v := 1) dX11_image_81 (by decide) ?_
      obtain ⟨g5, h⟩ := gd_some h
      obtain ⟨g6, h⟩ := gd_some h
      obtain ⟨σ7, e8, h⟩ := lt_some h
      refine ev_zast dX11_image_82 (isO_spec g5).1 (isA_O g5) g6 rfl ?_
      refine ev_st e8 ?_
      refine ev_iconst (v := 1) dX11_image_83 (by decide) ?_
      exact ev_retI .int dX11_image_84 rfl rfl h
    · refine ev_icmp_ge_n 76 dX11_image_50 rfl c1 ?_
      refine ev_aload_nR 0 dX11_image_53 rfl ?_
      obtain ⟨g9, h⟩ := gd_some h
      obtain ⟨p10, e11, h⟩ := op_some h
      refine ev_getPR dX11_image_54 fl_X11_82 rfl g9 e11 ?_
      refine ev_bipush (v := 10) dX11_image_57 (by decide) ?_
      refine ev_iload_n 1 dX11_image_59 rfl ?_
      refine ev_imul dX11_image_60 ?_
      refine ev_iload_n 2 dX11_image_61 rfl ?_
      refine ev_iadd dX11_image_62 ?_
      refine ev_aload_nR 0 dX11_image_63 rfl ?_
      obtain ⟨p12, e13, h⟩ := op_some h
      refine ev_getPR dX11_image_64 fl_X11_13 rfl g9 e13 ?_
      refine ev_iload_n 2 dX11_image_67 rfl ?_
      obtain ⟨g14, h⟩ := gd_some h
      obtain ⟨g15, h⟩ := gd_some h
      refine ev_iald dX11_image_68 (isA_O g14) g15 ?_
      obtain ⟨g16, h⟩ := gd_some h
      obtain ⟨g17, h⟩ := gd_some h
      obtain ⟨σ18, e19, h⟩ := lt_some h
      refine ev_iast dX11_image_69 (isO_spec g16).1 (isA_O g16) g17 ?_
      refine ev_st e19 ?_
      obtain ⟨v20, e21, h⟩ := lt_some h
      refine ev_iinc (v := v20) (ls' := [(2, .int (v20)), (0, .ref a0), (1, .int (a1))]) 2 dX11_image_70 rfl e21.symm (by decide) rfl ?_
      refine ev_goto (tgt := 47) dX11_image_73 rfl ?_
      refine ev_sub (ls' := [(0, .ref a0), (1, .int (a1)), (2, .int (v20))]) [1, 2, 0] rfl ?_
      exact hk47 h
def sb_X11_image_14 (k14 : Nat → Int32 → Int32 → St → Option (Int32 × St)) (a0 : Nat) (a1 : Int32) (a2 : Int32) (σ : St) : Option (Int32 × St) :=
 if (600 : Int32) ≤ a2 then (s_X11_image_47 16000 a0 a1 0 σ) else (if isO σ 11 a0 = true then (op (sP σ a0 33) fun p24 =>
 op (sP σ a0 0) fun p26 =>
 if isO σ 13 p26 = true then (if inR a2 (alen σ p26) = true then (if isO σ 13 p24 = true then (if inR ((600 * a1) + a2) (alen σ p24) = true then (lt (setI σ p24 (((600 * a1) + a2).toNatClampNeg) (sI σ p26 a2.toNatClampNeg)) fun σ32 =>
 lt (a2 + 1 : Int32) fun v34 =>
 k14 a0 a1 v34 σ32) else none) else none) else none) else none) else none)
def s_X11_image_14 (F : Nat) : Nat → Int32 → Int32 → St → Option (Int32 × St) := lp (fun _ _ _ _ => none) (sb_X11_image_14 ) F
set_option maxHeartbeats 4000000 in
set_option maxRecDepth 100000 in
theorem e_X11_image_14 {r : Int32} {σ' : St} (F : Nat) : ∀ {a0 : Nat} {a1 : Int32} {a2 : Int32} {σ : St}, s_X11_image_14 F a0 a1 a2 σ = some (r, σ') → Ev M_X11_image (2) 14 [(0, .ref a0), (1, .int (a1)), (2, .int (a2))] [] σ (some (.int r)) σ' := by
  induction F with
  | zero => intro a0 a1 a2 σ h; cases h
  | succ F ih =>
    intro a0 a1 a2 σ h
    change sb_X11_image_14  (s_X11_image_14 F) a0 a1 a2 σ = some (r, σ') at h
    unfold sb_X11_image_14 at h
    have hk14 := @ih
    refine ev_iload_n 2 dX11_image_14 rfl ?_
    refine ev_sipush (v := 600) dX11_image_15 (by decide) ?_
    rcases it_some h with ⟨c22, h⟩ | ⟨c22, h⟩
    · refine ev_icmp_ge (tgt := 45) dX11_image_18 rfl c22 ?_
      refine ev_iconst (v := 0) dX11_image_45 (by decide) ?_
      refine ev_istore_n (ls' := [(2, .int (0)), (0, .ref a0), (1, .int (a1))]) dX11_image_46 (by decide) rfl ?_
      refine ev_sub (ls' := [(0, .ref a0), (1, .int (a1)), (2, .int (0))]) [1, 2, 0] rfl ?_
      exact e_X11_image_47 16000 h
    · refine ev_icmp_ge_n 45 dX11_image_18 rfl c22 ?_
      refine ev_aload_nR 0 dX11_image_21 rfl ?_
      obtain ⟨g23, h⟩ := gd_some h
      obtain ⟨p24, e25, h⟩ := op_some h
      refine ev_getPR dX11_image_22 fl_X11_79 rfl g23 e25 ?_
      refine ev_sipush (v := 600) dX11_image_25 (by decide) ?_
      refine ev_iload_n 1 dX11_image_28 rfl ?_
      refine ev_imul dX11_image_29 ?_
      refine ev_iload_n 2 dX11_image_30 rfl ?_
      refine ev_iadd dX11_image_31 ?_
      refine ev_aload_nR 0 dX11_image_32 rfl ?_
      obtain ⟨p26, e27, h⟩ := op_some h
      refine ev_getPR dX11_image_33 fl_X11_7 rfl g23 e27 ?_
      refine ev_iload_n 2 dX11_image_36 rfl ?_
      obtain ⟨g28, h⟩ := gd_some h
      obtain ⟨g29, h⟩ := gd_some h
      refine ev_iald dX11_image_37 (isA_O g28) g29 ?_
      obtain ⟨g30, h⟩ := gd_some h
      obtain ⟨g31, h⟩ := gd_some h
      obtain ⟨σ32, e33, h⟩ := lt_some h
      refine ev_iast dX11_image_38 (isO_spec g30).1 (isA_O g30) g31 ?_
      refine ev_st e33 ?_
      obtain ⟨v34, e35, h⟩ := lt_some h
      refine ev_iinc (v := v34) (ls' := [(2, .int (v34)), (0, .ref a0), (1, .int (a1))]) 2 dX11_image_39 rfl e35.symm (by decide) rfl ?_
      refine ev_goto (tgt := 14) dX11_image_42 rfl ?_
      refine ev_sub (ls' := [(0, .ref a0), (1, .int (a1)), (2, .int (v34))]) [1, 2, 0] rfl ?_
      exact hk14 h
def s_X11_image (a0 : Nat) (a1 : Int32) (σ : St) : Option (Int32 × St) :=
 bd (s_X11_in a1 0 1 σ) fun r38 σ36 =>
 if r38 = 0 then (some ((-2), σ36)) else (s_X11_image_14 16000 a0 a1 0 σ36)
set_option maxHeartbeats 4000000 in
set_option maxRecDepth 100000 in
theorem x_X11_image {a0 : Nat} {a1 : Int32} {σ : St} {r : Int32} {σ' : St} (h : s_X11_image a0 a1 σ = some (r, σ')) : Ex M_X11_image (2) [.ref a0, .int (a1)] σ (some (.int r)) σ' := by
  unfold s_X11_image at h
  refine ex_of (by decide) rfl (Nat.le_of_ble_eq_true rfl) ?_
  show Ev _ _ 0 [(0, .ref a0), (1, .int (a1))] [] _ _ _
  refine ev_iload_n 1 dX11_image_0 rfl ?_
  refine ev_iconst (v := 0) dX11_image_1 (by decide) ?_
  refine ev_iconst (v := 1) dX11_image_2 (by decide) ?_
  obtain ⟨r38, σ36, e37, h⟩ := bd_some h
  refine ev_invSi (As := [.int (a1), .int (0), .int (1)]) (st := []) dX11_image_3 cb_X11_in tp_1066 tp_1067 (by omega) rfl rfl (Nat.le_of_ble_eq_true rfl) (x_X11_in e37) ?_
  rcases it_some h with ⟨c39, h⟩ | ⟨c39, h⟩
  · refine ev_if_ne_n 12 dX11_image_6 rfl c39 ?_
    refine ev_bipush (v := (-2)) dX11_image_9 (by decide) ?_
    exact ev_retI .int dX11_image_11 rfl rfl h
  · refine ev_if_ne (tgt := 12) dX11_image_6 rfl c39 ?_
    refine ev_iconst (v := 0) dX11_image_12 (by decide) ?_
    refine ev_istore_n (ls' := [(2, .int (0)), (0, .ref a0), (1, .int (a1))]) dX11_image_13 (by decide) rfl ?_
    refine ev_sub (ls' := [(0, .ref a0), (1, .int (a1)), (2, .int (0))]) [1, 2, 0] rfl ?_
    exact e_X11_image_14 16000 h
def sb_X11_restore_59 (k59 : Nat → Int32 → Int32 → St → Option (Int32 × St)) (a0 : Nat) (a1 : Int32) (a2 : Int32) (σ : St) : Option (Int32 × St) :=
 if (10 : Int32) ≤ a2 then (if isO σ 11 a0 = true then (lt (setI σ a0 21 1) fun σ3 =>
 some (1, σ3)) else none) else (if isO σ 11 a0 = true then (op (sP σ a0 1) fun p6 =>
 op (sP σ a0 34) fun p8 =>
 if isO σ 13 p8 = true then (if inR ((10 * a1) + a2) (alen σ p8) = true then (if isO σ 13 p6 = true then (if inR a2 (alen σ p6) = true then (lt (setI σ p6 a2.toNatClampNeg (sI σ p8 (((10 * a1) + a2).toNatClampNeg))) fun σ14 =>
 lt (a2 + 1 : Int32) fun v16 =>
 k59 a0 a1 v16 σ14) else none) else none) else none) else none) else none)
def s_X11_restore_59 (F : Nat) : Nat → Int32 → Int32 → St → Option (Int32 × St) := lp (fun _ _ _ _ => none) (sb_X11_restore_59 ) F
set_option maxHeartbeats 4000000 in
set_option maxRecDepth 100000 in
theorem e_X11_restore_59 {r : Int32} {σ' : St} (F : Nat) : ∀ {a0 : Nat} {a1 : Int32} {a2 : Int32} {σ : St}, s_X11_restore_59 F a0 a1 a2 σ = some (r, σ') → Ev M_X11_restore (2) 59 [(0, .ref a0), (1, .int (a1)), (2, .int (a2))] [] σ (some (.int r)) σ' := by
  induction F with
  | zero => intro a0 a1 a2 σ h; cases h
  | succ F ih =>
    intro a0 a1 a2 σ h
    change sb_X11_restore_59  (s_X11_restore_59 F) a0 a1 a2 σ = some (r, σ') at h
    unfold sb_X11_restore_59 at h
    have hk59 := @ih
    refine ev_iload_n 2 dX11_restore_59 rfl ?_
    refine ev_bipush (v := 10) dX11_restore_60 (by decide) ?_
    rcases it_some h with ⟨c1, h⟩ | ⟨c1, h⟩
    · refine ev_icmp_ge (tgt := 88) dX11_restore_62 rfl c1 ?_
      refine ev_aload_nR 0 dX11_restore_88 rfl ?_
      refine ev_iconst (v := 1) dX11_restore_89 (by decide) ?_
      obtain ⟨g2, h⟩ := gd_some h
      obtain ⟨σ3, e4, h⟩ := lt_some h
      refine ev_putI dX11_restore_90 fl_X11_53 rfl (Or.inl rfl) g2 ⟨rfl, rfl⟩ ?_
      refine ev_st e4 ?_
      refine ev_iconst (v := 1) dX11_restore_93 (by decide) ?_
      exact ev_retI .int dX11_restore_94 rfl rfl h
    · refine ev_icmp_ge_n 88 dX11_restore_62 rfl c1 ?_
      refine ev_aload_nR 0 dX11_restore_65 rfl ?_
      obtain ⟨g5, h⟩ := gd_some h
      obtain ⟨p6, e7, h⟩ := op_some h
      refine ev_getPR dX11_restore_66 fl_X11_13 rfl g5 e7 ?_
      refine ev_iload_n 2 dX11_restore_69 rfl ?_
      refine ev_aload_nR 0 dX11_restore_70 rfl ?_
      obtain ⟨p8, e9, h⟩ := op_some h
      refine ev_getPR dX11_restore_71 fl_X11_82 rfl g5 e9 ?_
      refine ev_bipush (v := 10) dX11_restore_74 (by decide) ?_
      refine ev_iload_n 1 dX11_restore_76 rfl ?_
      refine ev_imul dX11_restore_77 ?_
      refine ev_iload_n 2 dX11_restore_78 rfl ?_
      refine ev_iadd dX11_restore_79 ?_
      obtain ⟨g10, h⟩ := gd_some h
      obtain ⟨g11, h⟩ := gd_some h
      refine ev_iald dX11_restore_80 (isA_O g10) g11 ?_
      obtain ⟨g12, h⟩ := gd_some h
      obtain ⟨g13, h⟩ := gd_some h
      obtain ⟨σ14, e15, h⟩ := lt_some h
      refine ev_iast dX11_restore_81 (isO_spec g12).1 (isA_O g12) g13 ?_
      refine ev_st e15 ?_
      obtain ⟨v16, e17, h⟩ := lt_some h
      refine ev_iinc (v := v16) (ls' := [(2, .int (v16)), (0, .ref a0), (1, .int (a1))]) 2 dX11_restore_82 rfl e17.symm (by decide) rfl ?_
      refine ev_goto (tgt := 59) dX11_restore_85 rfl ?_
      refine ev_sub (ls' := [(0, .ref a0), (1, .int (a1)), (2, .int (v16))]) [1, 2, 0] rfl ?_
      exact hk59 h
def sb_X11_restore_26 (k26 : Nat → Int32 → Int32 → St → Option (Int32 × St)) (a0 : Nat) (a1 : Int32) (a2 : Int32) (σ : St) : Option (Int32 × St) :=
 if (600 : Int32) ≤ a2 then (s_X11_restore_59 16000 a0 a1 0 σ) else (if isO σ 11 a0 = true then (op (sP σ a0 0) fun p20 =>
 op (sP σ a0 33) fun p22 =>
 if isO σ 13 p22 = true then (if inR ((600 * a1) + a2) (alen σ p22) = true then (if isO σ 13 p20 = true then (if inR a2 (alen σ p20) = true then (lt (setI σ p20 a2.toNatClampNeg (sI σ p22 (((600 * a1) + a2).toNatClampNeg))) fun σ28 =>
 lt (a2 + 1 : Int32) fun v30 =>
 k26 a0 a1 v30 σ28) else none) else none) else none) else none) else none)
def s_X11_restore_26 (F : Nat) : Nat → Int32 → Int32 → St → Option (Int32 × St) := lp (fun _ _ _ _ => none) (sb_X11_restore_26 ) F
set_option maxHeartbeats 4000000 in
set_option maxRecDepth 100000 in
theorem e_X11_restore_26 {r : Int32} {σ' : St} (F : Nat) : ∀ {a0 : Nat} {a1 : Int32} {a2 : Int32} {σ : St}, s_X11_restore_26 F a0 a1 a2 σ = some (r, σ') → Ev M_X11_restore (2) 26 [(0, .ref a0), (1, .int (a1)), (2, .int (a2))] [] σ (some (.int r)) σ' := by
  induction F with
  | zero => intro a0 a1 a2 σ h; cases h
  | succ F ih =>
    intro a0 a1 a2 σ h
    change sb_X11_restore_26  (s_X11_restore_26 F) a0 a1 a2 σ = some (r, σ') at h
    unfold sb_X11_restore_26 at h
    have hk26 := @ih
    refine ev_iload_n 2 dX11_restore_26 rfl ?_
    refine ev_sipush (v := 600) dX11_restore_27 (by decide) ?_
    rcases it_some h with ⟨c18, h⟩ | ⟨c18, h⟩
    · refine ev_icmp_ge (tgt := 57) dX11_restore_30 rfl c18 ?_
      refine ev_iconst (v := 0) dX11_restore_57 (by decide) ?_
      refine ev_istore_n (ls' := [(2, .int (0)), (0, .ref a0), (1, .int (a1))]) dX11_restore_58 (by decide) rfl ?_
      refine ev_sub (ls' := [(0, .ref a0), (1, .int (a1)), (2, .int (0))]) [1, 2, 0] rfl ?_
      exact e_X11_restore_59 16000 h
    · refine ev_icmp_ge_n 57 dX11_restore_30 rfl c18 ?_
      refine ev_aload_nR 0 dX11_restore_33 rfl ?_
      obtain ⟨g19, h⟩ := gd_some h
      obtain ⟨p20, e21, h⟩ := op_some h
      refine ev_getPR dX11_restore_34 fl_X11_7 rfl g19 e21 ?_
      refine ev_iload_n 2 dX11_restore_37 rfl ?_
      refine ev_aload_nR 0 dX11_restore_38 rfl ?_
      obtain ⟨p22, e23, h⟩ := op_some h
      refine ev_getPR dX11_restore_39 fl_X11_79 rfl g19 e23 ?_
      refine ev_sipush (v := 600) dX11_restore_42 (by decide) ?_
      refine ev_iload_n 1 dX11_restore_45 rfl ?_
      refine ev_imul dX11_restore_46 ?_
      refine ev_iload_n 2 dX11_restore_47 rfl ?_
      refine ev_iadd dX11_restore_48 ?_
      obtain ⟨g24, h⟩ := gd_some h
      obtain ⟨g25, h⟩ := gd_some h
      refine ev_iald dX11_restore_49 (isA_O g24) g25 ?_
      obtain ⟨g26, h⟩ := gd_some h
      obtain ⟨g27, h⟩ := gd_some h
      obtain ⟨σ28, e29, h⟩ := lt_some h
      refine ev_iast dX11_restore_50 (isO_spec g26).1 (isA_O g26) g27 ?_
      refine ev_st e29 ?_
      obtain ⟨v30, e31, h⟩ := lt_some h
      refine ev_iinc (v := v30) (ls' := [(2, .int (v30)), (0, .ref a0), (1, .int (a1))]) 2 dX11_restore_51 rfl e31.symm (by decide) rfl ?_
      refine ev_goto (tgt := 26) dX11_restore_54 rfl ?_
      refine ev_sub (ls' := [(0, .ref a0), (1, .int (a1)), (2, .int (v30))]) [1, 2, 0] rfl ?_
      exact hk26 h
def s_X11_restore (a0 : Nat) (a1 : Int32) (σ : St) : Option (Int32 × St) :=
 bd (s_X11_in a1 0 1 σ) fun r34 σ32 =>
 if r34 = 0 then (some ((-2), σ32)) else (if isO σ32 11 a0 = true then (op (sP σ32 a0 35) fun p37 =>
 if isO σ32 15 p37 = true then (if inR a1 (alen σ32 p37) = true then (if (sI σ32 p37 a1.toNatClampNeg) = 0 then (some ((-3), σ32)) else (s_X11_restore_26 16000 a0 a1 0 σ32)) else none) else none) else none)
set_option maxHeartbeats 4000000 in
set_option maxRecDepth 100000 in
theorem x_X11_restore {a0 : Nat} {a1 : Int32} {σ : St} {r : Int32} {σ' : St} (h : s_X11_restore a0 a1 σ = some (r, σ')) : Ex M_X11_restore (2) [.ref a0, .int (a1)] σ (some (.int r)) σ' := by
  unfold s_X11_restore at h
  refine ex_of (by decide) rfl (Nat.le_of_ble_eq_true rfl) ?_
  show Ev _ _ 0 [(0, .ref a0), (1, .int (a1))] [] _ _ _
  refine ev_iload_n 1 dX11_restore_0 rfl ?_
  refine ev_iconst (v := 0) dX11_restore_1 (by decide) ?_
  refine ev_iconst (v := 1) dX11_restore_2 (by decide) ?_
  obtain ⟨r34, σ32, e33, h⟩ := bd_some h
  refine ev_invSi (As := [.int (a1), .int (0), .int (1)]) (st := []) dX11_restore_3 cb_X11_in tp_1066 tp_1067 (by omega) rfl rfl (Nat.le_of_ble_eq_true rfl) (x_X11_in e33) ?_
  rcases it_some h with ⟨c35, h⟩ | ⟨c35, h⟩
  · refine ev_if_ne_n 12 dX11_restore_6 rfl c35 ?_
    refine ev_bipush (v := (-2)) dX11_restore_9 (by decide) ?_
    exact ev_retI .int dX11_restore_11 rfl rfl h
  · refine ev_if_ne (tgt := 12) dX11_restore_6 rfl c35 ?_
    refine ev_aload_nR 0 dX11_restore_12 rfl ?_
    obtain ⟨g36, h⟩ := gd_some h
    obtain ⟨p37, e38, h⟩ := op_some h
    refine ev_getPR dX11_restore_13 fl_X11_85 rfl g36 e38 ?_
    refine ev_iload_n 1 dX11_restore_16 rfl ?_
    obtain ⟨g39, h⟩ := gd_some h
    obtain ⟨g40, h⟩ := gd_some h
    refine ev_zald dX11_restore_17 (isA_O g39) g40 ?_
    rcases it_some h with ⟨c41, h⟩ | ⟨c41, h⟩
    · refine ev_if_ne_n 24 dX11_restore_18 rfl c41 ?_
      refine ev_bipush (v := (-3)) dX11_restore_21 (by decide) ?_
      exact ev_retI .int dX11_restore_23 rfl rfl h
    · refine ev_if_ne (tgt := 24) dX11_restore_18 rfl c41 ?_
      refine ev_iconst (v := 0) dX11_restore_24 (by decide) ?_
      refine ev_istore_n (ls' := [(2, .int (0)), (0, .ref a0), (1, .int (a1))]) dX11_restore_25 (by decide) rfl ?_
      refine ev_sub (ls' := [(0, .ref a0), (1, .int (a1)), (2, .int (0))]) [1, 2, 0] rfl ?_
      exact e_X11_restore_26 16000 h
def s_X11_count_120 (a0 : Nat) (t0 : Int32) (σ : St) : Option (Int32 × St) :=
 if isO σ 11 a0 = true then (op (sP σ a0 35) fun p2 =>
 if isO σ 15 p2 = true then (if inR 1 (alen σ p2) = true then (if (sI σ p2 ((1 : Int32).toNatClampNeg)) = 0 then (some (t0 + 0, σ)) else (some (t0 + 2, σ))) else none) else none) else none
set_option maxHeartbeats 4000000 in
set_option maxRecDepth 100000 in
theorem e_X11_count_120 {r : Int32} {σ' : St} : ∀ {a0 : Nat} {t0 : Int32} {σ : St}, s_X11_count_120 a0 t0 σ = some (r, σ') → Ev M_X11_count (8) 120 [(0, .ref a0)] [.int (t0)] σ (some (.int r)) σ' := by
  intro a0 t0 σ h
  unfold s_X11_count_120 at h
  refine ev_aload_nR 0 dX11_count_120 rfl ?_
  obtain ⟨g1, h⟩ := gd_some h
  obtain ⟨p2, e3, h⟩ := op_some h
  refine ev_getPR dX11_count_121 fl_X11_85 rfl g1 e3 ?_
  refine ev_iconst (v := 1) dX11_count_124 (by decide) ?_
  obtain ⟨g4, h⟩ := gd_some h
  obtain ⟨g5, h⟩ := gd_some h
  refine ev_zald dX11_count_125 (isA_O g4) g5 ?_
  rcases it_some h with ⟨c6, h⟩ | ⟨c6, h⟩
  · refine ev_if_eq (tgt := 133) dX11_count_126 rfl c6 ?_
    refine ev_iconst (v := 0) dX11_count_133 (by decide) ?_
    refine ev_iadd dX11_count_134 ?_
    exact ev_retI .int dX11_count_135 rfl rfl h
  · refine ev_if_eq_n 133 dX11_count_126 rfl c6 ?_
    refine ev_iconst (v := 2) dX11_count_129 (by decide) ?_
    refine ev_goto (tgt := 134) dX11_count_130 rfl ?_
    refine ev_iadd dX11_count_134 ?_
    exact ev_retI .int dX11_count_135 rfl rfl h
def s_X11_count (a0 : Nat) (a1 : Int32) (σ : St) : Option (Int32 × St) :=
 if a1 = 0 then (if isO σ 11 a0 = true then (bd (s_X11_all a0 σ) fun r11 σ9 =>
 some (r11, σ9)) else none) else (if a1 = 1 then (if isO σ 11 a0 = true then (bd (s_X11_there a0 6 9 σ) fun r16 σ14 =>
 some (r16, σ14)) else none) else (if a1 = 2 then (if isO σ 11 a0 = true then (bd (s_X11_isGoal a0 σ) fun r21 σ19 =>
 if r21 = 0 then (some (0, σ19)) else (some (1, σ19))) else none) else (if a1 = 3 then (if isO σ 11 a0 = true then (bd (s_X11_lay a0 σ) fun r27 σ25 =>
 if isO σ25 11 a0 = true then (some (sI σ25 a0 5, σ25)) else none) else none) else (if a1 = 4 then (if isO σ 11 a0 = true then (bd (s_X11_lay a0 σ) fun r33 σ31 =>
 if isO σ31 11 a0 = true then (some (sI σ31 a0 6, σ31)) else none) else none) else (if a1 = 5 then (if isO σ 11 a0 = true then (op (sP σ a0 1) fun p37 =>
 if isO σ 13 p37 = true then (if inR 10 (alen σ p37) = true then (some (sI σ p37 ((10 : Int32).toNatClampNeg), σ)) else none) else none) else none) else (if a1 = 6 then (if isO σ 11 a0 = true then (some (sI σ a0 4, σ)) else none) else (if a1 = 7 then (if isO σ 11 a0 = true then (op (sP σ a0 35) fun p45 =>
 if isO σ 15 p45 = true then (if inR 0 (alen σ p45) = true then (if (sI σ p45 ((0 : Int32).toNatClampNeg)) = 0 then (s_X11_count_120 a0 0 σ) else (s_X11_count_120 a0 1 σ)) else none) else none) else none) else (some ((-2), σ)))))))))
set_option maxHeartbeats 4000000 in
set_option maxRecDepth 100000 in
theorem x_X11_count {a0 : Nat} {a1 : Int32} {σ : St} {r : Int32} {σ' : St} (h : s_X11_count a0 a1 σ = some (r, σ')) : Ex M_X11_count (8) [.ref a0, .int (a1)] σ (some (.int r)) σ' := by
  unfold s_X11_count at h
  refine ex_of (by decide) rfl (Nat.le_of_ble_eq_true rfl) ?_
  show Ev _ _ 0 [(0, .ref a0), (1, .int (a1))] [] _ _ _
  refine ev_iload_n 1 dX11_count_0 rfl ?_
  rcases it_some h with ⟨c7, h⟩ | ⟨c7, h⟩
  · refine ev_tableIn (off := 47) (tgt := 48) dX11_count_1 0 (by rw [c7]; decide) (by decide) rfl rfl ?_
    refine ev_aload_nR 0 dX11_count_48 rfl ?_
    obtain ⟨g8, h⟩ := gd_some h
    obtain ⟨r11, σ9, e10, h⟩ := bd_some h
    refine ev_invVi (As := []) (st := []) dX11_count_49 cb_X11_all tp_1162 tp_1164 tp_68 kf11 rfl (by omega) g8 rfl rfl (Nat.le_of_ble_eq_true rfl) (x_X11_all e10) ?_
    exact ev_retI .int dX11_count_52 rfl rfl h
  rcases it_some h with ⟨c12, h⟩ | ⟨c12, h⟩
  · refine ev_tableIn (off := 52) (tgt := 53) dX11_count_1 1 (by rw [c12]; decide) (by decide) rfl rfl ?_
    refine ev_aload_nR 0 dX11_count_53 rfl ?_
    refine ev_bipush (v := 6) dX11_count_54 (by decide) ?_
    refine ev_bipush (v := 9) dX11_count_56 (by decide) ?_
    obtain ⟨g13, h⟩ := gd_some h
    obtain ⟨r16, σ14, e15, h⟩ := bd_some h
    refine ev_invVi (As := [.int (6), .int (9)]) (st := []) dX11_count_58 cb_X11_there tp_1147 tp_1149 tp_66 kf11 rfl (by omega) g13 rfl rfl (Nat.le_of_ble_eq_true rfl) (x_X11_there e15) ?_
    exact ev_retI .int dX11_count_61 rfl rfl h
  rcases it_some h with ⟨c17, h⟩ | ⟨c17, h⟩
  · refine ev_tableIn (off := 61) (tgt := 62) dX11_count_1 2 (by rw [c17]; decide) (by decide) rfl rfl ?_
    refine ev_aload_nR 0 dX11_count_62 rfl ?_
    obtain ⟨g18, h⟩ := gd_some h
    obtain ⟨r21, σ19, e20, h⟩ := bd_some h
    refine ev_invVi (As := []) (st := []) dX11_count_63 cb_X11_isGoal tp_1166 tp_1168 tp_69 kf11 rfl (by omega) g18 rfl rfl (Nat.le_of_ble_eq_true rfl) (x_X11_isGoal e20) ?_
    rcases it_some h with ⟨c22, h⟩ | ⟨c22, h⟩
    · refine ev_if_eq (tgt := 73) dX11_count_66 rfl c22 ?_
      refine ev_iconst (v := 0) dX11_count_73 (by decide) ?_
      exact ev_retI .int dX11_count_74 rfl rfl h
    · refine ev_if_eq_n 73 dX11_count_66 rfl c22 ?_
      refine ev_iconst (v := 1) dX11_count_69 (by decide) ?_
      refine ev_goto (tgt := 74) dX11_count_70 rfl ?_
      exact ev_retI .int dX11_count_74 rfl rfl h
  rcases it_some h with ⟨c23, h⟩ | ⟨c23, h⟩
  · refine ev_tableIn (off := 74) (tgt := 75) dX11_count_1 3 (by rw [c23]; decide) (by decide) rfl rfl ?_
    refine ev_aload_nR 0 dX11_count_75 rfl ?_
    obtain ⟨g24, h⟩ := gd_some h
    obtain ⟨r27, σ25, e26, h⟩ := bd_some h
    refine ev_invVv (As := []) (st := []) dX11_count_76 cb_X11_lay tp_1170 tp_1172 tp_70 kf11 rfl (by omega) g24 rfl rfl (Nat.le_of_ble_eq_true rfl) (x_X11_lay e26) ?_
    refine ev_aload_nR 0 dX11_count_79 rfl ?_
    obtain ⟨g28, h⟩ := gd_some h
    refine ev_getI dX11_count_80 fl_X11_92 rfl g28 ?_
    exact ev_retI .int dX11_count_83 rfl rfl h
  rcases it_some h with ⟨c29, h⟩ | ⟨c29, h⟩
  · refine ev_tableIn (off := 83) (tgt := 84) dX11_count_1 4 (by rw [c29]; decide) (by decide) rfl rfl ?_
    refine ev_aload_nR 0 dX11_count_84 rfl ?_
    obtain ⟨g30, h⟩ := gd_some h
    obtain ⟨r33, σ31, e32, h⟩ := bd_some h
    refine ev_invVv (As := []) (st := []) dX11_count_85 cb_X11_lay tp_1170 tp_1172 tp_70 kf11 rfl (by omega) g30 rfl rfl (Nat.le_of_ble_eq_true rfl) (x_X11_lay e32) ?_
    refine ev_aload_nR 0 dX11_count_88 rfl ?_
    obtain ⟨g34, h⟩ := gd_some h
    refine ev_getI dX11_count_89 fl_X11_126 rfl g34 ?_
    exact ev_retI .int dX11_count_92 rfl rfl h
  rcases it_some h with ⟨c35, h⟩ | ⟨c35, h⟩
  · refine ev_tableIn (off := 92) (tgt := 93) dX11_count_1 5 (by rw [c35]; decide) (by decide) rfl rfl ?_
    refine ev_aload_nR 0 dX11_count_93 rfl ?_
    obtain ⟨g36, h⟩ := gd_some h
    obtain ⟨p37, e38, h⟩ := op_some h
    refine ev_getPR dX11_count_94 fl_X11_13 rfl g36 e38 ?_
    refine ev_bipush (v := 10) dX11_count_97 (by decide) ?_
    obtain ⟨g39, h⟩ := gd_some h
    obtain ⟨g40, h⟩ := gd_some h
    refine ev_iald dX11_count_99 (isA_O g39) g40 ?_
    exact ev_retI .int dX11_count_100 rfl rfl h
  rcases it_some h with ⟨c41, h⟩ | ⟨c41, h⟩
  · refine ev_tableIn (off := 100) (tgt := 101) dX11_count_1 6 (by rw [c41]; decide) (by decide) rfl rfl ?_
    refine ev_aload_nR 0 dX11_count_101 rfl ?_
    obtain ⟨g42, h⟩ := gd_some h
    refine ev_getI dX11_count_102 fl_X11_248 rfl g42 ?_
    exact ev_retI .int dX11_count_105 rfl rfl h
  rcases it_some h with ⟨c43, h⟩ | ⟨c43, h⟩
  · refine ev_tableIn (off := 105) (tgt := 106) dX11_count_1 7 (by rw [c43]; decide) (by decide) rfl rfl ?_
    refine ev_aload_nR 0 dX11_count_106 rfl ?_
    obtain ⟨g44, h⟩ := gd_some h
    obtain ⟨p45, e46, h⟩ := op_some h
    refine ev_getPR dX11_count_107 fl_X11_85 rfl g44 e46 ?_
    refine ev_iconst (v := 0) dX11_count_110 (by decide) ?_
    obtain ⟨g47, h⟩ := gd_some h
    obtain ⟨g48, h⟩ := gd_some h
    refine ev_zald dX11_count_111 (isA_O g47) g48 ?_
    rcases it_some h with ⟨c49, h⟩ | ⟨c49, h⟩
    · refine ev_if_eq (tgt := 119) dX11_count_112 rfl c49 ?_
      refine ev_iconst (v := 0) dX11_count_119 (by decide) ?_
      refine ev_sub (ls' := [(0, .ref a0)]) [0] rfl ?_
      exact e_X11_count_120  h
    · refine ev_if_eq_n 119 dX11_count_112 rfl c49 ?_
      refine ev_iconst (v := 1) dX11_count_115 (by decide) ?_
      refine ev_goto (tgt := 120) dX11_count_116 rfl ?_
      refine ev_sub (ls' := [(0, .ref a0)]) [0] rfl ?_
      exact e_X11_count_120  h
  have hx : a1.toInt < 0 ∨ 7 < a1.toInt := tab_out a1 0 7 (by decide) (fun k h1 h2 => by
      rcases (show k = 0 ∨ k = 1 ∨ k = 2 ∨ k = 3 ∨ k = 4 ∨ k = 5 ∨ k = 6 ∨ k = 7 by omega) with rfl | rfl | rfl | rfl | rfl | rfl | rfl | rfl
      · exact ne_toInt c7
      · exact ne_toInt c12
      · exact ne_toInt c17
      · exact ne_toInt c23
      · exact ne_toInt c29
      · exact ne_toInt c35
      · exact ne_toInt c41
      · exact ne_toInt c43)
  refine ev_tableOut (tgt := 136) dX11_count_1 hx rfl ?_
  refine ev_bipush (v := (-2)) dX11_count_136 (by decide) ?_
  exact ev_retI .int dX11_count_138 rfl rfl h
def sb_L_law_18 (k18 : Nat → Nat → Nat → Int32 → St → Option (Int32 × St)) (a0 : Nat) (a1 : Nat) (a2 : Nat) (a3 : Int32) (σ : St) : Option (Int32 × St) :=
 if isA σ 13 a0 = true then (if ((nI (alen σ a0)) - 3) < a3 then (some (1, σ)) else (if inR a3 (alen σ a0) = true then (lt ((sI σ a0 a3.toNatClampNeg) &&& 31 : Int32) fun v4 =>
 if v4 = 0 then (if inR (a3 + 1) (alen σ a0) = true then (if isO σ 10 a1 = true then (bd (s_X10_say a1 (sI σ a0 ((a3 + 1).toNatClampNeg)) σ) fun r11 σ9 =>
 if isA σ9 13 a0 = true then (if inR (a3 + 1) (alen σ9 a0) = true then (if isO σ9 11 a2 = true then (bd (s_X11_say a2 (sI σ9 a0 ((a3 + 1).toNatClampNeg)) σ9) fun r17 σ15 =>
 if r11 = r17 then (lt (a3 + 3 : Int32) fun v19 =>
 k18 a0 a1 a2 v19 σ15) else (some (0, σ15))) else none) else none) else none) else none) else none) else (if v4 = 1 then (if isO σ 10 a1 = true then (bd (s_X10_wipe a1 σ) fun r25 σ23 =>
 if isO σ23 11 a2 = true then (bd (s_X11_wipe a2 σ23) fun r29 σ27 =>
 if r25 = r29 then (lt (a3 + 3 : Int32) fun v31 =>
 k18 a0 a1 a2 v31 σ27) else (some (0, σ27))) else none) else none) else (if v4 = 2 then (if isO σ 10 a1 = true then (bd (s_X10_resource a1 σ) fun r37 σ35 =>
 if isO σ35 11 a2 = true then (bd (s_X11_resource a2 σ35) fun r41 σ39 =>
 if r37 = r41 then (lt (a3 + 3 : Int32) fun v43 =>
 k18 a0 a1 a2 v43 σ39) else (some (0, σ39))) else none) else none) else (if v4 = 3 then (if isO σ 10 a1 = true then (bd (s_X10_well a1 σ) fun r49 σ47 =>
 if isO σ47 11 a2 = true then (bd (s_X11_well a2 σ47) fun r53 σ51 =>
 if r49 = r53 then (lt (a3 + 3 : Int32) fun v55 =>
 k18 a0 a1 a2 v55 σ51) else (some (0, σ51))) else none) else none) else (if v4 = 4 then (if isO σ 10 a1 = true then (bd (s_X10_goal a1 σ) fun r61 σ59 =>
 if isO σ59 11 a2 = true then (bd (s_X11_goal a2 σ59) fun r65 σ63 =>
 if r61 = r65 then (lt (a3 + 3 : Int32) fun v67 =>
 k18 a0 a1 a2 v67 σ63) else (some (0, σ63))) else none) else none) else (if v4 = 5 then (if isO σ 10 a1 = true then (bd (s_X10_fault a1 σ) fun r73 σ71 =>
 if isO σ71 11 a2 = true then (bd (s_X11_fault a2 σ71) fun r77 σ75 =>
 if r73 = r77 then (lt (a3 + 3 : Int32) fun v79 =>
 k18 a0 a1 a2 v79 σ75) else (some (0, σ75))) else none) else none) else (if v4 = 6 then (if inR (a3 + 1) (alen σ a0) = true then (if inR (a3 + 2) (alen σ a0) = true then (if isO σ 10 a1 = true then (bd (s_X10_drop a1 (sI σ a0 ((a3 + 1).toNatClampNeg)) (sI σ a0 ((a3 + 2).toNatClampNeg)) σ) fun r87 σ85 =>
 if isA σ85 13 a0 = true then (if inR (a3 + 1) (alen σ85 a0) = true then (if inR (a3 + 2) (alen σ85 a0) = true then (if isO σ85 11 a2 = true then (bd (s_X11_drop a2 (sI σ85 a0 ((a3 + 1).toNatClampNeg)) (sI σ85 a0 ((a3 + 2).toNatClampNeg)) σ85) fun r94 σ92 =>
 if r87 = r94 then (lt (a3 + 3 : Int32) fun v96 =>
 k18 a0 a1 a2 v96 σ92) else (some (0, σ92))) else none) else none) else none) else none) else none) else none) else none) else (if v4 = 7 then (if inR (a3 + 1) (alen σ a0) = true then (if isO σ 10 a1 = true then (bd (s_X10_height a1 (sI σ a0 ((a3 + 1).toNatClampNeg)) σ) fun r103 σ101 =>
 if isA σ101 13 a0 = true then (if inR (a3 + 1) (alen σ101 a0) = true then (if isO σ101 11 a2 = true then (bd (s_X11_height a2 (sI σ101 a0 ((a3 + 1).toNatClampNeg)) σ101) fun r109 σ107 =>
 if r103 = r109 then (lt (a3 + 3 : Int32) fun v111 =>
 k18 a0 a1 a2 v111 σ107) else (some (0, σ107))) else none) else none) else none) else none) else none) else (if v4 = 8 then (if inR (a3 + 1) (alen σ a0) = true then (if inR (a3 + 2) (alen σ a0) = true then (if isO σ 10 a1 = true then (bd (s_X10_left a1 (sI σ a0 ((a3 + 1).toNatClampNeg)) (sI σ a0 ((a3 + 2).toNatClampNeg)) σ) fun r119 σ117 =>
 if isA σ117 13 a0 = true then (if inR (a3 + 1) (alen σ117 a0) = true then (if inR (a3 + 2) (alen σ117 a0) = true then (if isO σ117 11 a2 = true then (bd (s_X11_left a2 (sI σ117 a0 ((a3 + 1).toNatClampNeg)) (sI σ117 a0 ((a3 + 2).toNatClampNeg)) σ117) fun r126 σ124 =>
 if r119 = r126 then (lt (a3 + 3 : Int32) fun v128 =>
 k18 a0 a1 a2 v128 σ124) else (some (0, σ124))) else none) else none) else none) else none) else none) else none) else none) else (if v4 = 9 then (if inR (a3 + 1) (alen σ a0) = true then (if inR (a3 + 2) (alen σ a0) = true then (if isO σ 10 a1 = true then (bd (s_X10_ways a1 (sI σ a0 ((a3 + 1).toNatClampNeg)) (sI σ a0 ((a3 + 2).toNatClampNeg)) σ) fun r136 σ134 =>
 if isA σ134 13 a0 = true then (if inR (a3 + 1) (alen σ134 a0) = true then (if inR (a3 + 2) (alen σ134 a0) = true then (if isO σ134 11 a2 = true then (bd (s_X11_ways a2 (sI σ134 a0 ((a3 + 1).toNatClampNeg)) (sI σ134 a0 ((a3 + 2).toNatClampNeg)) σ134) fun r143 σ141 =>
 if r136 = r143 then (lt (a3 + 3 : Int32) fun v145 =>
 k18 a0 a1 a2 v145 σ141) else (some (0, σ141))) else none) else none) else none) else none) else none) else none) else none) else (if v4 = 10 then (if isO σ 10 a1 = true then (bd (s_X10_fewest a1 σ) fun r151 σ149 =>
 if isO σ149 11 a2 = true then (bd (s_X11_fewest a2 σ149) fun r155 σ153 =>
 if r151 = r155 then (lt (a3 + 3 : Int32) fun v157 =>
 k18 a0 a1 a2 v157 σ153) else (some (0, σ153))) else none) else none) else (if v4 = 11 then (if isO σ 10 a1 = true then (bd (s_X10_needed a1 σ) fun r163 σ161 =>
 if isO σ161 11 a2 = true then (bd (s_X11_needed a2 σ161) fun r167 σ165 =>
 if r163 = r167 then (lt (a3 + 3 : Int32) fun v169 =>
 k18 a0 a1 a2 v169 σ165) else (some (0, σ165))) else none) else none) else (if v4 = 12 then (if inR (a3 + 1) (alen σ a0) = true then (if isO σ 10 a1 = true then (bd (s_X10_term a1 (sI σ a0 ((a3 + 1).toNatClampNeg)) σ) fun r176 σ174 =>
 if isA σ174 13 a0 = true then (if inR (a3 + 1) (alen σ174 a0) = true then (if isO σ174 11 a2 = true then (bd (s_X11_term a2 (sI σ174 a0 ((a3 + 1).toNatClampNeg)) σ174) fun r182 σ180 =>
 if r176 = r182 then (lt (a3 + 3 : Int32) fun v184 =>
 k18 a0 a1 a2 v184 σ180) else (some (0, σ180))) else none) else none) else none) else none) else none) else (if v4 = 13 then (if inR (a3 + 1) (alen σ a0) = true then (if inR (a3 + 2) (alen σ a0) = true then (if isO σ 10 a1 = true then (bd (s_X10_uses a1 (sI σ a0 ((a3 + 1).toNatClampNeg)) (sI σ a0 ((a3 + 2).toNatClampNeg)) σ) fun r192 σ190 =>
 if isA σ190 13 a0 = true then (if inR (a3 + 1) (alen σ190 a0) = true then (if inR (a3 + 2) (alen σ190 a0) = true then (if isO σ190 11 a2 = true then (bd (s_X11_uses a2 (sI σ190 a0 ((a3 + 1).toNatClampNeg)) (sI σ190 a0 ((a3 + 2).toNatClampNeg)) σ190) fun r199 σ197 =>
 if r192 = r199 then (lt (a3 + 3 : Int32) fun v201 =>
 k18 a0 a1 a2 v201 σ197) else (some (0, σ197))) else none) else none) else none) else none) else none) else none) else none) else (if v4 = 14 then (if inR (a3 + 1) (alen σ a0) = true then (if isO σ 10 a1 = true then (bd (s_X10_put a1 (sI σ a0 ((a3 + 1).toNatClampNeg)) σ) fun r208 σ206 =>
 if isA σ206 13 a0 = true then (if inR (a3 + 1) (alen σ206 a0) = true then (if isO σ206 11 a2 = true then (bd (s_X11_put a2 (sI σ206 a0 ((a3 + 1).toNatClampNeg)) σ206) fun r214 σ212 =>
 if r208 = r214 then (lt (a3 + 3 : Int32) fun v216 =>
 k18 a0 a1 a2 v216 σ212) else (some (0, σ212))) else none) else none) else none) else none) else none) else (if v4 = 15 then (if inR (a3 + 1) (alen σ a0) = true then (if isO σ 10 a1 = true then (bd (s_X10_trial a1 (sI σ a0 ((a3 + 1).toNatClampNeg)) σ) fun r223 σ221 =>
 if isA σ221 13 a0 = true then (if inR (a3 + 1) (alen σ221 a0) = true then (if isO σ221 11 a2 = true then (bd (s_X11_trial a2 (sI σ221 a0 ((a3 + 1).toNatClampNeg)) σ221) fun r229 σ227 =>
 if r223 = r229 then (lt (a3 + 3 : Int32) fun v231 =>
 k18 a0 a1 a2 v231 σ227) else (some (0, σ227))) else none) else none) else none) else none) else none) else (if v4 = 16 then (if inR (a3 + 1) (alen σ a0) = true then (if isO σ 10 a1 = true then (bd (s_X10_check a1 (sI σ a0 ((a3 + 1).toNatClampNeg)) σ) fun r238 σ236 =>
 if isA σ236 13 a0 = true then (if inR (a3 + 1) (alen σ236 a0) = true then (if isO σ236 11 a2 = true then (bd (s_X11_check a2 (sI σ236 a0 ((a3 + 1).toNatClampNeg)) σ236) fun r244 σ242 =>
 if r238 = r244 then (lt (a3 + 3 : Int32) fun v246 =>
 k18 a0 a1 a2 v246 σ242) else (some (0, σ242))) else none) else none) else none) else none) else none) else (if v4 = 17 then (if inR (a3 + 1) (alen σ a0) = true then (if isO σ 10 a1 = true then (bd (s_X10_image a1 (sI σ a0 ((a3 + 1).toNatClampNeg)) σ) fun r253 σ251 =>
 if isA σ251 13 a0 = true then (if inR (a3 + 1) (alen σ251 a0) = true then (if isO σ251 11 a2 = true then (bd (s_X11_image a2 (sI σ251 a0 ((a3 + 1).toNatClampNeg)) σ251) fun r259 σ257 =>
 if r253 = r259 then (lt (a3 + 3 : Int32) fun v261 =>
 k18 a0 a1 a2 v261 σ257) else (some (0, σ257))) else none) else none) else none) else none) else none) else (if v4 = 18 then (if inR (a3 + 1) (alen σ a0) = true then (if isO σ 10 a1 = true then (bd (s_X10_restore a1 (sI σ a0 ((a3 + 1).toNatClampNeg)) σ) fun r268 σ266 =>
 if isA σ266 13 a0 = true then (if inR (a3 + 1) (alen σ266 a0) = true then (if isO σ266 11 a2 = true then (bd (s_X11_restore a2 (sI σ266 a0 ((a3 + 1).toNatClampNeg)) σ266) fun r274 σ272 =>
 if r268 = r274 then (lt (a3 + 3 : Int32) fun v276 =>
 k18 a0 a1 a2 v276 σ272) else (some (0, σ272))) else none) else none) else none) else none) else none) else (if v4 = 19 then (if inR (a3 + 1) (alen σ a0) = true then (if isO σ 10 a1 = true then (bd (s_X10_count a1 (sI σ a0 ((a3 + 1).toNatClampNeg)) σ) fun r283 σ281 =>
 if isA σ281 13 a0 = true then (if inR (a3 + 1) (alen σ281 a0) = true then (if isO σ281 11 a2 = true then (bd (s_X11_count a2 (sI σ281 a0 ((a3 + 1).toNatClampNeg)) σ281) fun r289 σ287 =>
 if r283 = r289 then (lt (a3 + 3 : Int32) fun v291 =>
 k18 a0 a1 a2 v291 σ287) else (some (0, σ287))) else none) else none) else none) else none) else none) else (lt (a3 + 3 : Int32) fun v293 =>
 k18 a0 a1 a2 v293 σ))))))))))))))))))))) else none)) else none
def s_L_law_18 (F : Nat) : Nat → Nat → Nat → Int32 → St → Option (Int32 × St) := lp (fun _ _ _ _ _ => none) (sb_L_law_18 ) F
set_option maxHeartbeats 4000000 in
set_option maxRecDepth 100000 in
theorem e_L_law_18 {r : Int32} {σ' : St} (F : Nat) : ∀ {a0 : Nat} {a1 : Nat} {a2 : Nat} {a3 : Int32} {σ : St}, s_L_law_18 F a0 a1 a2 a3 σ = some (r, σ') → Ev M_L_law (393) 18 [(0, .ref a0), (1, .ref a1), (2, .ref a2), (3, .int (a3))] [] σ (some (.int r)) σ' := by
  induction F with
  | zero => intro a0 a1 a2 a3 σ h; cases h
  | succ F ih =>
    intro a0 a1 a2 a3 σ h
    change sb_L_law_18  (s_L_law_18 F) a0 a1 a2 a3 σ = some (r, σ') at h
    unfold sb_L_law_18 at h
    have hk18 := @ih
    refine ev_iload_n 3 dL_law_18 rfl ?_
    refine ev_aload_nR 0 dL_law_19 rfl ?_
    obtain ⟨g1, h⟩ := gd_some h
    refine ev_alen dL_law_20 g1 (by decide) ?_
    refine ev_iconst (v := 3) dL_law_21 (by decide) ?_
    refine ev_isub dL_law_22 ?_
    rcases it_some h with ⟨c2, h⟩ | ⟨c2, h⟩
    · refine ev_icmp_gt (tgt := 564) dL_law_23 rfl c2 ?_
      refine ev_iconst (v := 1) dL_law_564 (by decide) ?_
      exact ev_retI .boolean dL_law_565 rfl rfl h
    · refine ev_icmp_gt_n 564 dL_law_23 rfl c2 ?_
      refine ev_aload_nR 0 dL_law_26 rfl ?_
      refine ev_iload_n 3 dL_law_27 rfl ?_
      obtain ⟨g3, h⟩ := gd_some h
      refine ev_iald dL_law_28 g1 g3 ?_
      refine ev_bipush (v := 31) dL_law_29 (by decide) ?_
      refine ev_iand dL_law_31 ?_
      obtain ⟨v4, e5, h⟩ := lt_some h
      refine ev_topI e5 ?_
      rcases it_some h with ⟨c6, h⟩ | ⟨c6, h⟩
      · refine ev_tableIn (off := 96) (tgt := 128) dL_law_32 0 (by rw [c6]; decide) (by decide) rfl rfl ?_
        refine ev_aload_nR 1 dL_law_128 rfl ?_
        refine ev_aload_nR 0 dL_law_129 rfl ?_
        refine ev_iload_n 3 dL_law_130 rfl ?_
        refine ev_iconst (v := 1) dL_law_131 (by decide) ?_
        refine ev_iadd dL_law_132 ?_
        obtain ⟨g7, h⟩ := gd_some h
        refine ev_iald dL_law_133 g1 g7 ?_
        obtain ⟨g8, h⟩ := gd_some h
        obtain ⟨r11, σ9, e10, h⟩ := bd_some h
        refine ev_invVi (As := [.int (sI σ a0 ((a3 + 1).toNatClampNeg))]) (st := []) dL_law_134 cb_X10_say tp_314 tp_315 tp_316 kf10 rfl (by omega) g8 rfl rfl (Nat.le_of_ble_eq_true rfl) (x_X10_say e10) ?_
        refine ev_aload_nR 2 dL_law_137 rfl ?_
        refine ev_aload_nR 0 dL_law_138 rfl ?_
        refine ev_iload_n 3 dL_law_139 rfl ?_
        refine ev_iconst (v := 1) dL_law_140 (by decide) ?_
        refine ev_iadd dL_law_141 ?_
        obtain ⟨g12, h⟩ := gd_some h
        obtain ⟨g13, h⟩ := gd_some h
        refine ev_iald dL_law_142 g12 g13 ?_
        obtain ⟨g14, h⟩ := gd_some h
        obtain ⟨r17, σ15, e16, h⟩ := bd_some h
        refine ev_invVi (As := [.int (sI σ9 a0 ((a3 + 1).toNatClampNeg))]) (st := [.int (r11)]) dL_law_143 cb_X11_say tp_1062 tp_1063 tp_1064 kf11 rfl (by omega) g14 rfl rfl (Nat.le_of_ble_eq_true rfl) (x_X11_say e16) ?_
        rcases it_some h with ⟨c18, h⟩ | ⟨c18, h⟩
        · refine ev_icmp_eq (tgt := 558) dL_law_146 rfl c18 ?_
          obtain ⟨v19, e20, h⟩ := lt_some h
          refine ev_iinc (v := v19) (ls' := [(3, .int (v19)), (0, .ref a0), (1, .ref a1), (2, .ref a2)]) 3 dL_law_558 rfl e20.symm (by decide) rfl ?_
          refine ev_goto (tgt := 18) dL_law_561 rfl ?_
          refine ev_sub (ls' := [(0, .ref a0), (1, .ref a1), (2, .ref a2), (3, .int (v19))]) [1, 2, 3, 0] rfl ?_
          exact hk18 h
        · refine ev_icmp_eq_n 558 dL_law_146 rfl c18 ?_
          refine ev_iconst (v := 0) dL_law_149 (by decide) ?_
          exact ev_retI .boolean dL_law_150 rfl rfl h
      rcases it_some h with ⟨c21, h⟩ | ⟨c21, h⟩
      · refine ev_tableIn (off := 119) (tgt := 151) dL_law_32 1 (by rw [c21]; decide) (by decide) rfl rfl ?_
        refine ev_aload_nR 1 dL_law_151 rfl ?_
        obtain ⟨g22, h⟩ := gd_some h
        obtain ⟨r25, σ23, e24, h⟩ := bd_some h
        refine ev_invVi (As := []) (st := []) dL_law_152 cb_X10_wipe tp_326 tp_327 tp_328 kf10 rfl (by omega) g22 rfl rfl (Nat.le_of_ble_eq_true rfl) (x_X10_wipe e24) ?_
        refine ev_aload_nR 2 dL_law_155 rfl ?_
        obtain ⟨g26, h⟩ := gd_some h
        obtain ⟨r29, σ27, e28, h⟩ := bd_some h
        refine ev_invVi (As := []) (st := [.int (r25)]) dL_law_156 cb_X11_wipe tp_1069 tp_1070 tp_1071 kf11 rfl (by omega) g26 rfl rfl (Nat.le_of_ble_eq_true rfl) (x_X11_wipe e28) ?_
        rcases it_some h with ⟨c30, h⟩ | ⟨c30, h⟩
        · refine ev_icmp_eq (tgt := 558) dL_law_159 rfl c30 ?_
          obtain ⟨v31, e32, h⟩ := lt_some h
          refine ev_iinc (v := v31) (ls' := [(3, .int (v31)), (0, .ref a0), (1, .ref a1), (2, .ref a2)]) 3 dL_law_558 rfl e32.symm (by decide) rfl ?_
          refine ev_goto (tgt := 18) dL_law_561 rfl ?_
          refine ev_sub (ls' := [(0, .ref a0), (1, .ref a1), (2, .ref a2), (3, .int (v31))]) [1, 2, 3, 0] rfl ?_
          exact hk18 h
        · refine ev_icmp_eq_n 558 dL_law_159 rfl c30 ?_
          refine ev_iconst (v := 0) dL_law_162 (by decide) ?_
          exact ev_retI .boolean dL_law_163 rfl rfl h
      rcases it_some h with ⟨c33, h⟩ | ⟨c33, h⟩
      · refine ev_tableIn (off := 132) (tgt := 164) dL_law_32 2 (by rw [c33]; decide) (by decide) rfl rfl ?_
        refine ev_aload_nR 1 dL_law_164 rfl ?_
        obtain ⟨g34, h⟩ := gd_some h
        obtain ⟨r37, σ35, e36, h⟩ := bd_some h
        refine ev_invVi (As := []) (st := []) dL_law_165 cb_X10_resource tp_334 tp_335 tp_336 kf10 rfl (by omega) g34 rfl rfl (Nat.le_of_ble_eq_true rfl) (x_X10_resource e36) ?_
        refine ev_aload_nR 2 dL_law_168 rfl ?_
        obtain ⟨g38, h⟩ := gd_some h
        obtain ⟨r41, σ39, e40, h⟩ := bd_some h
        refine ev_invVi (As := []) (st := [.int (r37)]) dL_law_169 cb_X11_resource tp_1073 tp_1074 tp_1075 kf11 rfl (by omega) g38 rfl rfl (Nat.le_of_ble_eq_true rfl) (x_X11_resource e40) ?_
        rcases it_some h with ⟨c42, h⟩ | ⟨c42, h⟩
        · refine ev_icmp_eq (tgt := 558) dL_law_172 rfl c42 ?_
          obtain ⟨v43, e44, h⟩ := lt_some h
          refine ev_iinc (v := v43) (ls' := [(3, .int (v43)), (0, .ref a0), (1, .ref a1), (2, .ref a2)]) 3 dL_law_558 rfl e44.symm (by decide) rfl ?_
          refine ev_goto (tgt := 18) dL_law_561 rfl ?_
          refine ev_sub (ls' := [(0, .ref a0), (1, .ref a1), (2, .ref a2), (3, .int (v43))]) [1, 2, 3, 0] rfl ?_
          exact hk18 h
        · refine ev_icmp_eq_n 558 dL_law_172 rfl c42 ?_
          refine ev_iconst (v := 0) dL_law_175 (by decide) ?_
          exact ev_retI .boolean dL_law_176 rfl rfl h
      rcases it_some h with ⟨c45, h⟩ | ⟨c45, h⟩
      · refine ev_tableIn (off := 145) (tgt := 177) dL_law_32 3 (by rw [c45]; decide) (by decide) rfl rfl ?_
        refine ev_aload_nR 1 dL_law_177 rfl ?_
        obtain ⟨g46, h⟩ := gd_some h
        obtain ⟨r49, σ47, e48, h⟩ := bd_some h
        refine ev_invVi (As := []) (st := []) dL_law_178 cb_X10_well tp_509 tp_510 tp_511 kf10 rfl (by omega) g46 rfl rfl (Nat.le_of_ble_eq_true rfl) (x_X10_well e48) ?_
        refine ev_aload_nR 2 dL_law_181 rfl ?_
        obtain ⟨g50, h⟩ := gd_some h
        obtain ⟨r53, σ51, e52, h⟩ := bd_some h
        refine ev_invVi (As := []) (st := [.int (r49)]) dL_law_182 cb_X11_well tp_1131 tp_1132 tp_1133 kf11 rfl (by omega) g50 rfl rfl (Nat.le_of_ble_eq_true rfl) (x_X11_well e52) ?_
        rcases it_some h with ⟨c54, h⟩ | ⟨c54, h⟩
        · refine ev_icmp_eq (tgt := 558) dL_law_185 rfl c54 ?_
          obtain ⟨v55, e56, h⟩ := lt_some h
          refine ev_iinc (v := v55) (ls' := [(3, .int (v55)), (0, .ref a0), (1, .ref a1), (2, .ref a2)]) 3 dL_law_558 rfl e56.symm (by decide) rfl ?_
          refine ev_goto (tgt := 18) dL_law_561 rfl ?_
          refine ev_sub (ls' := [(0, .ref a0), (1, .ref a1), (2, .ref a2), (3, .int (v55))]) [1, 2, 3, 0] rfl ?_
          exact hk18 h
        · refine ev_icmp_eq_n 558 dL_law_185 rfl c54 ?_
          refine ev_iconst (v := 0) dL_law_188 (by decide) ?_
          exact ev_retI .boolean dL_law_189 rfl rfl h
      rcases it_some h with ⟨c57, h⟩ | ⟨c57, h⟩
      · refine ev_tableIn (off := 158) (tgt := 190) dL_law_32 4 (by rw [c57]; decide) (by decide) rfl rfl ?_
        refine ev_aload_nR 1 dL_law_190 rfl ?_
        obtain ⟨g58, h⟩ := gd_some h
        obtain ⟨r61, σ59, e60, h⟩ := bd_some h
        refine ev_invVi (As := []) (st := []) dL_law_191 cb_X10_goal tp_513 tp_514 tp_515 kf10 rfl (by omega) g58 rfl rfl (Nat.le_of_ble_eq_true rfl) (x_X10_goal e60) ?_
        refine ev_aload_nR 2 dL_law_194 rfl ?_
        obtain ⟨g62, h⟩ := gd_some h
        obtain ⟨r65, σ63, e64, h⟩ := bd_some h
        refine ev_invVi (As := []) (st := [.int (r61)]) dL_law_195 cb_X11_goal tp_1135 tp_1136 tp_1137 kf11 rfl (by omega) g62 rfl rfl (Nat.le_of_ble_eq_true rfl) (x_X11_goal e64) ?_
        rcases it_some h with ⟨c66, h⟩ | ⟨c66, h⟩
        · refine ev_icmp_eq (tgt := 558) dL_law_198 rfl c66 ?_
          obtain ⟨v67, e68, h⟩ := lt_some h
          refine ev_iinc (v := v67) (ls' := [(3, .int (v67)), (0, .ref a0), (1, .ref a1), (2, .ref a2)]) 3 dL_law_558 rfl e68.symm (by decide) rfl ?_
          refine ev_goto (tgt := 18) dL_law_561 rfl ?_
          refine ev_sub (ls' := [(0, .ref a0), (1, .ref a1), (2, .ref a2), (3, .int (v67))]) [1, 2, 3, 0] rfl ?_
          exact hk18 h
        · refine ev_icmp_eq_n 558 dL_law_198 rfl c66 ?_
          refine ev_iconst (v := 0) dL_law_201 (by decide) ?_
          exact ev_retI .boolean dL_law_202 rfl rfl h
      rcases it_some h with ⟨c69, h⟩ | ⟨c69, h⟩
      · refine ev_tableIn (off := 171) (tgt := 203) dL_law_32 5 (by rw [c69]; decide) (by decide) rfl rfl ?_
        refine ev_aload_nR 1 dL_law_203 rfl ?_
        obtain ⟨g70, h⟩ := gd_some h
        obtain ⟨r73, σ71, e72, h⟩ := bd_some h
        refine ev_invVi (As := []) (st := []) dL_law_204 cb_X10_fault tp_518 tp_519 tp_520 kf10 rfl (by omega) g70 rfl rfl (Nat.le_of_ble_eq_true rfl) (x_X10_fault e72) ?_
        refine ev_aload_nR 2 dL_law_207 rfl ?_
        obtain ⟨g74, h⟩ := gd_some h
        obtain ⟨r77, σ75, e76, h⟩ := bd_some h
        refine ev_invVi (As := []) (st := [.int (r73)]) dL_law_208 cb_X11_fault tp_1139 tp_1140 tp_1141 kf11 rfl (by omega) g74 rfl rfl (Nat.le_of_ble_eq_true rfl) (x_X11_fault e76) ?_
        rcases it_some h with ⟨c78, h⟩ | ⟨c78, h⟩
        · refine ev_icmp_eq (tgt := 558) dL_law_211 rfl c78 ?_
          obtain ⟨v79, e80, h⟩ := lt_some h
          refine ev_iinc (v := v79) (ls' := [(3, .int (v79)), (0, .ref a0), (1, .ref a1), (2, .ref a2)]) 3 dL_law_558 rfl e80.symm (by decide) rfl ?_
          refine ev_goto (tgt := 18) dL_law_561 rfl ?_
          refine ev_sub (ls' := [(0, .ref a0), (1, .ref a1), (2, .ref a2), (3, .int (v79))]) [1, 2, 3, 0] rfl ?_
          exact hk18 h
        · refine ev_icmp_eq_n 558 dL_law_211 rfl c78 ?_
          refine ev_iconst (v := 0) dL_law_214 (by decide) ?_
          exact ev_retI .boolean dL_law_215 rfl rfl h
      rcases it_some h with ⟨c81, h⟩ | ⟨c81, h⟩
      · refine ev_tableIn (off := 184) (tgt := 216) dL_law_32 6 (by rw [c81]; decide) (by decide) rfl rfl ?_
        refine ev_aload_nR 1 dL_law_216 rfl ?_
        refine ev_aload_nR 0 dL_law_217 rfl ?_
        refine ev_iload_n 3 dL_law_218 rfl ?_
        refine ev_iconst (v := 1) dL_law_219 (by decide) ?_
        refine ev_iadd dL_law_220 ?_
        obtain ⟨g82, h⟩ := gd_some h
        refine ev_iald dL_law_221 g1 g82 ?_
        refine ev_aload_nR 0 dL_law_222 rfl ?_
        refine ev_iload_n 3 dL_law_223 rfl ?_
        refine ev_iconst (v := 2) dL_law_224 (by decide) ?_
        refine ev_iadd dL_law_225 ?_
        obtain ⟨g83, h⟩ := gd_some h
        refine ev_iald dL_law_226 g1 g83 ?_
        obtain ⟨g84, h⟩ := gd_some h
        obtain ⟨r87, σ85, e86, h⟩ := bd_some h
        refine ev_invVi (As := [.int (sI σ a0 ((a3 + 1).toNatClampNeg)), .int (sI σ a0 ((a3 + 2).toNatClampNeg))]) (st := []) dL_law_227 cb_X10_drop tp_522 tp_523 tp_524 kf10 rfl (by omega) g84 rfl rfl (Nat.le_of_ble_eq_true rfl) (x_X10_drop e86) ?_
        refine ev_aload_nR 2 dL_law_230 rfl ?_
        refine ev_aload_nR 0 dL_law_231 rfl ?_
        refine ev_iload_n 3 dL_law_232 rfl ?_
        refine ev_iconst (v := 1) dL_law_233 (by decide) ?_
        refine ev_iadd dL_law_234 ?_
        obtain ⟨g88, h⟩ := gd_some h
        obtain ⟨g89, h⟩ := gd_some h
        refine ev_iald dL_law_235 g88 g89 ?_
        refine ev_aload_nR 0 dL_law_236 rfl ?_
        refine ev_iload_n 3 dL_law_237 rfl ?_
        refine ev_iconst (v := 2) dL_law_238 (by decide) ?_
        refine ev_iadd dL_law_239 ?_
        obtain ⟨g90, h⟩ := gd_some h
        refine ev_iald dL_law_240 g88 g90 ?_
        obtain ⟨g91, h⟩ := gd_some h
        obtain ⟨r94, σ92, e93, h⟩ := bd_some h
        refine ev_invVi (As := [.int (sI σ85 a0 ((a3 + 1).toNatClampNeg)), .int (sI σ85 a0 ((a3 + 2).toNatClampNeg))]) (st := [.int (r87)]) dL_law_241 cb_X11_drop tp_1143 tp_1144 tp_1145 kf11 rfl (by omega) g91 rfl rfl (Nat.le_of_ble_eq_true rfl) (x_X11_drop e93) ?_
        rcases it_some h with ⟨c95, h⟩ | ⟨c95, h⟩
        · refine ev_icmp_eq (tgt := 558) dL_law_244 rfl c95 ?_
          obtain ⟨v96, e97, h⟩ := lt_some h
          refine ev_iinc (v := v96) (ls' := [(3, .int (v96)), (0, .ref a0), (1, .ref a1), (2, .ref a2)]) 3 dL_law_558 rfl e97.symm (by decide) rfl ?_
          refine ev_goto (tgt := 18) dL_law_561 rfl ?_
          refine ev_sub (ls' := [(0, .ref a0), (1, .ref a1), (2, .ref a2), (3, .int (v96))]) [1, 2, 3, 0] rfl ?_
          exact hk18 h
        · refine ev_icmp_eq_n 558 dL_law_244 rfl c95 ?_
          refine ev_iconst (v := 0) dL_law_247 (by decide) ?_
          exact ev_retI .boolean dL_law_248 rfl rfl h
      rcases it_some h with ⟨c98, h⟩ | ⟨c98, h⟩
      · refine ev_tableIn (off := 217) (tgt := 249) dL_law_32 7 (by rw [c98]; decide) (by decide) rfl rfl ?_
        refine ev_aload_nR 1 dL_law_249 rfl ?_
        refine ev_aload_nR 0 dL_law_250 rfl ?_
        refine ev_iload_n 3 dL_law_251 rfl ?_
        refine ev_iconst (v := 1) dL_law_252 (by decide) ?_
        refine ev_iadd dL_law_253 ?_
        obtain ⟨g99, h⟩ := gd_some h
        refine ev_iald dL_law_254 g1 g99 ?_
        obtain ⟨g100, h⟩ := gd_some h
        obtain ⟨r103, σ101, e102, h⟩ := bd_some h
        refine ev_invVi (As := [.int (sI σ a0 ((a3 + 1).toNatClampNeg))]) (st := []) dL_law_255 cb_X10_height tp_549 tp_550 tp_551 kf10 rfl (by omega) g100 rfl rfl (Nat.le_of_ble_eq_true rfl) (x_X10_height e102) ?_
        refine ev_aload_nR 2 dL_law_258 rfl ?_
        refine ev_aload_nR 0 dL_law_259 rfl ?_
        refine ev_iload_n 3 dL_law_260 rfl ?_
        refine ev_iconst (v := 1) dL_law_261 (by decide) ?_
        refine ev_iadd dL_law_262 ?_
        obtain ⟨g104, h⟩ := gd_some h
        obtain ⟨g105, h⟩ := gd_some h
        refine ev_iald dL_law_263 g104 g105 ?_
        obtain ⟨g106, h⟩ := gd_some h
        obtain ⟨r109, σ107, e108, h⟩ := bd_some h
        refine ev_invVi (As := [.int (sI σ101 a0 ((a3 + 1).toNatClampNeg))]) (st := [.int (r103)]) dL_law_264 cb_X11_height tp_1154 tp_1155 tp_1156 kf11 rfl (by omega) g106 rfl rfl (Nat.le_of_ble_eq_true rfl) (x_X11_height e108) ?_
        rcases it_some h with ⟨c110, h⟩ | ⟨c110, h⟩
        · refine ev_icmp_eq (tgt := 558) dL_law_267 rfl c110 ?_
          obtain ⟨v111, e112, h⟩ := lt_some h
          refine ev_iinc (v := v111) (ls' := [(3, .int (v111)), (0, .ref a0), (1, .ref a1), (2, .ref a2)]) 3 dL_law_558 rfl e112.symm (by decide) rfl ?_
          refine ev_goto (tgt := 18) dL_law_561 rfl ?_
          refine ev_sub (ls' := [(0, .ref a0), (1, .ref a1), (2, .ref a2), (3, .int (v111))]) [1, 2, 3, 0] rfl ?_
          exact hk18 h
        · refine ev_icmp_eq_n 558 dL_law_267 rfl c110 ?_
          refine ev_iconst (v := 0) dL_law_270 (by decide) ?_
          exact ev_retI .boolean dL_law_271 rfl rfl h
      rcases it_some h with ⟨c113, h⟩ | ⟨c113, h⟩
      · refine ev_tableIn (off := 240) (tgt := 272) dL_law_32 8 (by rw [c113]; decide) (by decide) rfl rfl ?_
        refine ev_aload_nR 1 dL_law_272 rfl ?_
        refine ev_aload_nR 0 dL_law_273 rfl ?_
        refine ev_iload_n 3 dL_law_274 rfl ?_
        refine ev_iconst (v := 1) dL_law_275 (by decide) ?_
        refine ev_iadd dL_law_276 ?_
        obtain ⟨g114, h⟩ := gd_some h
        refine ev_iald dL_law_277 g1 g114 ?_
        refine ev_aload_nR 0 dL_law_278 rfl ?_
        refine ev_iload_n 3 dL_law_279 rfl ?_
        refine ev_iconst (v := 2) dL_law_280 (by decide) ?_
        refine ev_iadd dL_law_281 ?_
        obtain ⟨g115, h⟩ := gd_some h
        refine ev_iald dL_law_282 g1 g115 ?_
        obtain ⟨g116, h⟩ := gd_some h
        obtain ⟨r119, σ117, e118, h⟩ := bd_some h
        refine ev_invVi (As := [.int (sI σ a0 ((a3 + 1).toNatClampNeg)), .int (sI σ a0 ((a3 + 2).toNatClampNeg))]) (st := []) dL_law_283 cb_X10_left tp_697 tp_698 tp_699 kf10 rfl (by omega) g116 rfl rfl (Nat.le_of_ble_eq_true rfl) (x_X10_left e118) ?_
        refine ev_aload_nR 2 dL_law_286 rfl ?_
        refine ev_aload_nR 0 dL_law_287 rfl ?_
        refine ev_iload_n 3 dL_law_288 rfl ?_
        refine ev_iconst (v := 1) dL_law_289 (by decide) ?_
        refine ev_iadd dL_law_290 ?_
        obtain ⟨g120, h⟩ := gd_some h
        obtain ⟨g121, h⟩ := gd_some h
        refine ev_iald dL_law_291 g120 g121 ?_
        refine ev_aload_nR 0 dL_law_292 rfl ?_
        refine ev_iload_n 3 dL_law_293 rfl ?_
        refine ev_iconst (v := 2) dL_law_294 (by decide) ?_
        refine ev_iadd dL_law_295 ?_
        obtain ⟨g122, h⟩ := gd_some h
        refine ev_iald dL_law_296 g120 g122 ?_
        obtain ⟨g123, h⟩ := gd_some h
        obtain ⟨r126, σ124, e125, h⟩ := bd_some h
        refine ev_invVi (As := [.int (sI σ117 a0 ((a3 + 1).toNatClampNeg)), .int (sI σ117 a0 ((a3 + 2).toNatClampNeg))]) (st := [.int (r119)]) dL_law_297 cb_X11_left tp_1201 tp_1202 tp_1203 kf11 rfl (by omega) g123 rfl rfl (Nat.le_of_ble_eq_true rfl) (x_X11_left e125) ?_
        rcases it_some h with ⟨c127, h⟩ | ⟨c127, h⟩
        · refine ev_icmp_eq (tgt := 558) dL_law_300 rfl c127 ?_
          obtain ⟨v128, e129, h⟩ := lt_some h
          refine ev_iinc (v := v128) (ls' := [(3, .int (v128)), (0, .ref a0), (1, .ref a1), (2, .ref a2)]) 3 dL_law_558 rfl e129.symm (by decide) rfl ?_
          refine ev_goto (tgt := 18) dL_law_561 rfl ?_
          refine ev_sub (ls' := [(0, .ref a0), (1, .ref a1), (2, .ref a2), (3, .int (v128))]) [1, 2, 3, 0] rfl ?_
          exact hk18 h
        · refine ev_icmp_eq_n 558 dL_law_300 rfl c127 ?_
          refine ev_iconst (v := 0) dL_law_303 (by decide) ?_
          exact ev_retI .boolean dL_law_304 rfl rfl h
      rcases it_some h with ⟨c130, h⟩ | ⟨c130, h⟩
      · refine ev_tableIn (off := 273) (tgt := 305) dL_law_32 9 (by rw [c130]; decide) (by decide) rfl rfl ?_
        refine ev_aload_nR 1 dL_law_305 rfl ?_
        refine ev_aload_nR 0 dL_law_306 rfl ?_
        refine ev_iload_n 3 dL_law_307 rfl ?_
        refine ev_iconst (v := 1) dL_law_308 (by decide) ?_
        refine ev_iadd dL_law_309 ?_
        obtain ⟨g131, h⟩ := gd_some h
        refine ev_iald dL_law_310 g1 g131 ?_
        refine ev_aload_nR 0 dL_law_311 rfl ?_
        refine ev_iload_n 3 dL_law_312 rfl ?_
        refine ev_iconst (v := 2) dL_law_313 (by decide) ?_
        refine ev_iadd dL_law_314 ?_
        obtain ⟨g132, h⟩ := gd_some h
        refine ev_iald dL_law_315 g1 g132 ?_
        obtain ⟨g133, h⟩ := gd_some h
        obtain ⟨r136, σ134, e135, h⟩ := bd_some h
        refine ev_invVi (As := [.int (sI σ a0 ((a3 + 1).toNatClampNeg)), .int (sI σ a0 ((a3 + 2).toNatClampNeg))]) (st := []) dL_law_316 cb_X10_ways tp_702 tp_703 tp_704 kf10 rfl (by omega) g133 rfl rfl (Nat.le_of_ble_eq_true rfl) (x_X10_ways e135) ?_
        refine ev_aload_nR 2 dL_law_319 rfl ?_
        refine ev_aload_nR 0 dL_law_320 rfl ?_
        refine ev_iload_n 3 dL_law_321 rfl ?_
        refine ev_iconst (v := 1) dL_law_322 (by decide) ?_
        refine ev_iadd dL_law_323 ?_
        obtain ⟨g137, h⟩ := gd_some h
        obtain ⟨g138, h⟩ := gd_some h
        refine ev_iald dL_law_324 g137 g138 ?_
        refine ev_aload_nR 0 dL_law_325 rfl ?_
        refine ev_iload_n 3 dL_law_326 rfl ?_
        refine ev_iconst (v := 2) dL_law_327 (by decide) ?_
        refine ev_iadd dL_law_328 ?_
        obtain ⟨g139, h⟩ := gd_some h
        refine ev_iald dL_law_329 g137 g139 ?_
        obtain ⟨g140, h⟩ := gd_some h
        obtain ⟨r143, σ141, e142, h⟩ := bd_some h
        refine ev_invVi (As := [.int (sI σ134 a0 ((a3 + 1).toNatClampNeg)), .int (sI σ134 a0 ((a3 + 2).toNatClampNeg))]) (st := [.int (r136)]) dL_law_330 cb_X11_ways tp_1205 tp_1206 tp_1207 kf11 rfl (by omega) g140 rfl rfl (Nat.le_of_ble_eq_true rfl) (x_X11_ways e142) ?_
        rcases it_some h with ⟨c144, h⟩ | ⟨c144, h⟩
        · refine ev_icmp_eq (tgt := 558) dL_law_333 rfl c144 ?_
          obtain ⟨v145, e146, h⟩ := lt_some h
          refine ev_iinc (v := v145) (ls' := [(3, .int (v145)), (0, .ref a0), (1, .ref a1), (2, .ref a2)]) 3 dL_law_558 rfl e146.symm (by decide) rfl ?_
          refine ev_goto (tgt := 18) dL_law_561 rfl ?_
          refine ev_sub (ls' := [(0, .ref a0), (1, .ref a1), (2, .ref a2), (3, .int (v145))]) [1, 2, 3, 0] rfl ?_
          exact hk18 h
        · refine ev_icmp_eq_n 558 dL_law_333 rfl c144 ?_
          refine ev_iconst (v := 0) dL_law_336 (by decide) ?_
          exact ev_retI .boolean dL_law_337 rfl rfl h
      rcases it_some h with ⟨c147, h⟩ | ⟨c147, h⟩
      · refine ev_tableIn (off := 306) (tgt := 338) dL_law_32 10 (by rw [c147]; decide) (by decide) rfl rfl ?_
        refine ev_aload_nR 1 dL_law_338 rfl ?_
        obtain ⟨g148, h⟩ := gd_some h
        obtain ⟨r151, σ149, e150, h⟩ := bd_some h
        refine ev_invVi (As := []) (st := []) dL_law_339 cb_X10_fewest tp_755 tp_756 tp_757 kf10 rfl (by omega) g148 rfl rfl (Nat.le_of_ble_eq_true rfl) (x_X10_fewest e150) ?_
        refine ev_aload_nR 2 dL_law_342 rfl ?_
        obtain ⟨g152, h⟩ := gd_some h
        obtain ⟨r155, σ153, e154, h⟩ := bd_some h
        refine ev_invVi (As := []) (st := [.int (r151)]) dL_law_343 cb_X11_fewest tp_1233 tp_1234 tp_1235 kf11 rfl (by omega) g152 rfl rfl (Nat.le_of_ble_eq_true rfl) (x_X11_fewest e154) ?_
        rcases it_some h with ⟨c156, h⟩ | ⟨c156, h⟩
        · refine ev_icmp_eq (tgt := 558) dL_law_346 rfl c156 ?_
          obtain ⟨v157, e158, h⟩ := lt_some h
          refine ev_iinc (v := v157) (ls' := [(3, .int (v157)), (0, .ref a0), (1, .ref a1), (2, .ref a2)]) 3 dL_law_558 rfl e158.symm (by decide) rfl ?_
          refine ev_goto (tgt := 18) dL_law_561 rfl ?_
          refine ev_sub (ls' := [(0, .ref a0), (1, .ref a1), (2, .ref a2), (3, .int (v157))]) [1, 2, 3, 0] rfl ?_
          exact hk18 h
        · refine ev_icmp_eq_n 558 dL_law_346 rfl c156 ?_
          refine ev_iconst (v := 0) dL_law_349 (by decide) ?_
          exact ev_retI .boolean dL_law_350 rfl rfl h
      rcases it_some h with ⟨c159, h⟩ | ⟨c159, h⟩
      · refine ev_tableIn (off := 319) (tgt := 351) dL_law_32 11 (by rw [c159]; decide) (by decide) rfl rfl ?_
        refine ev_aload_nR 1 dL_law_351 rfl ?_
        obtain ⟨g160, h⟩ := gd_some h
        obtain ⟨r163, σ161, e162, h⟩ := bd_some h
        refine ev_invVi (As := []) (st := []) dL_law_352 cb_X10_needed tp_763 tp_764 tp_765 kf10 rfl (by omega) g160 rfl rfl (Nat.le_of_ble_eq_true rfl) (x_X10_needed e162) ?_
        refine ev_aload_nR 2 dL_law_355 rfl ?_
        obtain ⟨g164, h⟩ := gd_some h
        obtain ⟨r167, σ165, e166, h⟩ := bd_some h
        refine ev_invVi (As := []) (st := [.int (r163)]) dL_law_356 cb_X11_needed tp_1237 tp_1238 tp_1239 kf11 rfl (by omega) g164 rfl rfl (Nat.le_of_ble_eq_true rfl) (x_X11_needed e166) ?_
        rcases it_some h with ⟨c168, h⟩ | ⟨c168, h⟩
        · refine ev_icmp_eq (tgt := 558) dL_law_359 rfl c168 ?_
          obtain ⟨v169, e170, h⟩ := lt_some h
          refine ev_iinc (v := v169) (ls' := [(3, .int (v169)), (0, .ref a0), (1, .ref a1), (2, .ref a2)]) 3 dL_law_558 rfl e170.symm (by decide) rfl ?_
          refine ev_goto (tgt := 18) dL_law_561 rfl ?_
          refine ev_sub (ls' := [(0, .ref a0), (1, .ref a1), (2, .ref a2), (3, .int (v169))]) [1, 2, 3, 0] rfl ?_
          exact hk18 h
        · refine ev_icmp_eq_n 558 dL_law_359 rfl c168 ?_
          refine ev_iconst (v := 0) dL_law_362 (by decide) ?_
          exact ev_retI .boolean dL_law_363 rfl rfl h
      rcases it_some h with ⟨c171, h⟩ | ⟨c171, h⟩
      · refine ev_tableIn (off := 332) (tgt := 364) dL_law_32 12 (by rw [c171]; decide) (by decide) rfl rfl ?_
        refine ev_aload_nR 1 dL_law_364 rfl ?_
        refine ev_aload_nR 0 dL_law_365 rfl ?_
        refine ev_iload_n 3 dL_law_366 rfl ?_
        refine ev_iconst (v := 1) dL_law_367 (by decide) ?_
        refine ev_iadd dL_law_368 ?_
        obtain ⟨g172, h⟩ := gd_some h
        refine ev_iald dL_law_369 g1 g172 ?_
        obtain ⟨g173, h⟩ := gd_some h
        obtain ⟨r176, σ174, e175, h⟩ := bd_some h
        refine ev_invVi (As := [.int (sI σ a0 ((a3 + 1).toNatClampNeg))]) (st := []) dL_law_370 cb_X10_term tp_767 tp_768 tp_769 kf10 rfl (by omega) g173 rfl rfl (Nat.le_of_ble_eq_true rfl) (x_X10_term e175) ?_
        refine ev_aload_nR 2 dL_law_373 rfl ?_
        refine ev_aload_nR 0 dL_law_374 rfl ?_
        refine ev_iload_n 3 dL_law_375 rfl ?_
        refine ev_iconst (v := 1) dL_law_376 (by decide) ?_
        refine ev_iadd dL_law_377 ?_
        obtain ⟨g177, h⟩ := gd_some h
        obtain ⟨g178, h⟩ := gd_some h
        refine ev_iald dL_law_378 g177 g178 ?_
        obtain ⟨g179, h⟩ := gd_some h
        obtain ⟨r182, σ180, e181, h⟩ := bd_some h
        refine ev_invVi (As := [.int (sI σ174 a0 ((a3 + 1).toNatClampNeg))]) (st := [.int (r176)]) dL_law_379 cb_X11_term tp_1241 tp_1242 tp_1243 kf11 rfl (by omega) g179 rfl rfl (Nat.le_of_ble_eq_true rfl) (x_X11_term e181) ?_
        rcases it_some h with ⟨c183, h⟩ | ⟨c183, h⟩
        · refine ev_icmp_eq (tgt := 558) dL_law_382 rfl c183 ?_
          obtain ⟨v184, e185, h⟩ := lt_some h
          refine ev_iinc (v := v184) (ls' := [(3, .int (v184)), (0, .ref a0), (1, .ref a1), (2, .ref a2)]) 3 dL_law_558 rfl e185.symm (by decide) rfl ?_
          refine ev_goto (tgt := 18) dL_law_561 rfl ?_
          refine ev_sub (ls' := [(0, .ref a0), (1, .ref a1), (2, .ref a2), (3, .int (v184))]) [1, 2, 3, 0] rfl ?_
          exact hk18 h
        · refine ev_icmp_eq_n 558 dL_law_382 rfl c183 ?_
          refine ev_iconst (v := 0) dL_law_385 (by decide) ?_
          exact ev_retI .boolean dL_law_386 rfl rfl h
      rcases it_some h with ⟨c186, h⟩ | ⟨c186, h⟩
      · refine ev_tableIn (off := 355) (tgt := 387) dL_law_32 13 (by rw [c186]; decide) (by decide) rfl rfl ?_
        refine ev_aload_nR 1 dL_law_387 rfl ?_
        refine ev_aload_nR 0 dL_law_388 rfl ?_
        refine ev_iload_n 3 dL_law_389 rfl ?_
        refine ev_iconst (v := 1) dL_law_390 (by decide) ?_
        refine ev_iadd dL_law_391 ?_
        obtain ⟨g187, h⟩ := gd_some h
        refine ev_iald dL_law_392 g1 g187 ?_
        refine ev_aload_nR 0 dL_law_393 rfl ?_
        refine ev_iload_n 3 dL_law_394 rfl ?_
        refine ev_iconst (v := 2) dL_law_395 (by decide) ?_
        refine ev_iadd dL_law_396 ?_
        obtain ⟨g188, h⟩ := gd_some h
        refine ev_iald dL_law_397 g1 g188 ?_
        obtain ⟨g189, h⟩ := gd_some h
        obtain ⟨r192, σ190, e191, h⟩ := bd_some h
        refine ev_invVi (As := [.int (sI σ a0 ((a3 + 1).toNatClampNeg)), .int (sI σ a0 ((a3 + 2).toNatClampNeg))]) (st := []) dL_law_398 cb_X10_uses tp_826 tp_827 tp_828 kf10 rfl (by omega) g189 rfl rfl (Nat.le_of_ble_eq_true rfl) (x_X10_uses e191) ?_
        refine ev_aload_nR 2 dL_law_401 rfl ?_
        refine ev_aload_nR 0 dL_law_402 rfl ?_
        refine ev_iload_n 3 dL_law_403 rfl ?_
        refine ev_iconst (v := 1) dL_law_404 (by decide) ?_
        refine ev_iadd dL_law_405 ?_
        obtain ⟨g193, h⟩ := gd_some h
        obtain ⟨g194, h⟩ := gd_some h
        refine ev_iald dL_law_406 g193 g194 ?_
        refine ev_aload_nR 0 dL_law_407 rfl ?_
        refine ev_iload_n 3 dL_law_408 rfl ?_
        refine ev_iconst (v := 2) dL_law_409 (by decide) ?_
        refine ev_iadd dL_law_410 ?_
        obtain ⟨g195, h⟩ := gd_some h
        refine ev_iald dL_law_411 g193 g195 ?_
        obtain ⟨g196, h⟩ := gd_some h
        obtain ⟨r199, σ197, e198, h⟩ := bd_some h
        refine ev_invVi (As := [.int (sI σ190 a0 ((a3 + 1).toNatClampNeg)), .int (sI σ190 a0 ((a3 + 2).toNatClampNeg))]) (st := [.int (r192)]) dL_law_412 cb_X11_uses tp_1265 tp_1266 tp_1267 kf11 rfl (by omega) g196 rfl rfl (Nat.le_of_ble_eq_true rfl) (x_X11_uses e198) ?_
        rcases it_some h with ⟨c200, h⟩ | ⟨c200, h⟩
        · refine ev_icmp_eq (tgt := 558) dL_law_415 rfl c200 ?_
          obtain ⟨v201, e202, h⟩ := lt_some h
          refine ev_iinc (v := v201) (ls' := [(3, .int (v201)), (0, .ref a0), (1, .ref a1), (2, .ref a2)]) 3 dL_law_558 rfl e202.symm (by decide) rfl ?_
          refine ev_goto (tgt := 18) dL_law_561 rfl ?_
          refine ev_sub (ls' := [(0, .ref a0), (1, .ref a1), (2, .ref a2), (3, .int (v201))]) [1, 2, 3, 0] rfl ?_
          exact hk18 h
        · refine ev_icmp_eq_n 558 dL_law_415 rfl c200 ?_
          refine ev_iconst (v := 0) dL_law_418 (by decide) ?_
          exact ev_retI .boolean dL_law_419 rfl rfl h
      rcases it_some h with ⟨c203, h⟩ | ⟨c203, h⟩
      · refine ev_tableIn (off := 388) (tgt := 420) dL_law_32 14 (by rw [c203]; decide) (by decide) rfl rfl ?_
        refine ev_aload_nR 1 dL_law_420 rfl ?_
        refine ev_aload_nR 0 dL_law_421 rfl ?_
        refine ev_iload_n 3 dL_law_422 rfl ?_
        refine ev_iconst (v := 1) dL_law_423 (by decide) ?_
        refine ev_iadd dL_law_424 ?_
        obtain ⟨g204, h⟩ := gd_some h
        refine ev_iald dL_law_425 g1 g204 ?_
        obtain ⟨g205, h⟩ := gd_some h
        obtain ⟨r208, σ206, e207, h⟩ := bd_some h
        refine ev_invVi (As := [.int (sI σ a0 ((a3 + 1).toNatClampNeg))]) (st := []) dL_law_426 cb_X10_put tp_835 tp_836 tp_837 kf10 rfl (by omega) g205 rfl rfl (Nat.le_of_ble_eq_true rfl) (x_X10_put e207) ?_
        refine ev_aload_nR 2 dL_law_429 rfl ?_
        refine ev_aload_nR 0 dL_law_430 rfl ?_
        refine ev_iload_n 3 dL_law_431 rfl ?_
        refine ev_iconst (v := 1) dL_law_432 (by decide) ?_
        refine ev_iadd dL_law_433 ?_
        obtain ⟨g209, h⟩ := gd_some h
        obtain ⟨g210, h⟩ := gd_some h
        refine ev_iald dL_law_434 g209 g210 ?_
        obtain ⟨g211, h⟩ := gd_some h
        obtain ⟨r214, σ212, e213, h⟩ := bd_some h
        refine ev_invVi (As := [.int (sI σ206 a0 ((a3 + 1).toNatClampNeg))]) (st := [.int (r208)]) dL_law_435 cb_X11_put tp_1269 tp_1270 tp_1271 kf11 rfl (by omega) g211 rfl rfl (Nat.le_of_ble_eq_true rfl) (x_X11_put e213) ?_
        rcases it_some h with ⟨c215, h⟩ | ⟨c215, h⟩
        · refine ev_icmp_eq (tgt := 558) dL_law_438 rfl c215 ?_
          obtain ⟨v216, e217, h⟩ := lt_some h
          refine ev_iinc (v := v216) (ls' := [(3, .int (v216)), (0, .ref a0), (1, .ref a1), (2, .ref a2)]) 3 dL_law_558 rfl e217.symm (by decide) rfl ?_
          refine ev_goto (tgt := 18) dL_law_561 rfl ?_
          refine ev_sub (ls' := [(0, .ref a0), (1, .ref a1), (2, .ref a2), (3, .int (v216))]) [1, 2, 3, 0] rfl ?_
          exact hk18 h
        · refine ev_icmp_eq_n 558 dL_law_438 rfl c215 ?_
          refine ev_iconst (v := 0) dL_law_441 (by decide) ?_
          exact ev_retI .boolean dL_law_442 rfl rfl h
      rcases it_some h with ⟨c218, h⟩ | ⟨c218, h⟩
      · refine ev_tableIn (off := 411) (tgt := 443) dL_law_32 15 (by rw [c218]; decide) (by decide) rfl rfl ?_
        refine ev_aload_nR 1 dL_law_443 rfl ?_
        refine ev_aload_nR 0 dL_law_444 rfl ?_
        refine ev_iload_n 3 dL_law_445 rfl ?_
        refine ev_iconst (v := 1) dL_law_446 (by decide) ?_
        refine ev_iadd dL_law_447 ?_
        obtain ⟨g219, h⟩ := gd_some h
        refine ev_iald dL_law_448 g1 g219 ?_
        obtain ⟨g220, h⟩ := gd_some h
        obtain ⟨r223, σ221, e222, h⟩ := bd_some h
        refine ev_invVi (As := [.int (sI σ a0 ((a3 + 1).toNatClampNeg))]) (st := []) dL_law_449 cb_X10_trial tp_847 tp_848 tp_849 kf10 rfl (by omega) g220 rfl rfl (Nat.le_of_ble_eq_true rfl) (x_X10_trial e222) ?_
        refine ev_aload_nR 2 dL_law_452 rfl ?_
        refine ev_aload_nR 0 dL_law_453 rfl ?_
        refine ev_iload_n 3 dL_law_454 rfl ?_
        refine ev_iconst (v := 1) dL_law_455 (by decide) ?_
        refine ev_iadd dL_law_456 ?_
        obtain ⟨g224, h⟩ := gd_some h
        obtain ⟨g225, h⟩ := gd_some h
        refine ev_iald dL_law_457 g224 g225 ?_
        obtain ⟨g226, h⟩ := gd_some h
        obtain ⟨r229, σ227, e228, h⟩ := bd_some h
        refine ev_invVi (As := [.int (sI σ221 a0 ((a3 + 1).toNatClampNeg))]) (st := [.int (r223)]) dL_law_458 cb_X11_trial tp_1273 tp_1274 tp_1275 kf11 rfl (by omega) g226 rfl rfl (Nat.le_of_ble_eq_true rfl) (x_X11_trial e228) ?_
        rcases it_some h with ⟨c230, h⟩ | ⟨c230, h⟩
        · refine ev_icmp_eq (tgt := 558) dL_law_461 rfl c230 ?_
          obtain ⟨v231, e232, h⟩ := lt_some h
          refine ev_iinc (v := v231) (ls' := [(3, .int (v231)), (0, .ref a0), (1, .ref a1), (2, .ref a2)]) 3 dL_law_558 rfl e232.symm (by decide) rfl ?_
          refine ev_goto (tgt := 18) dL_law_561 rfl ?_
          refine ev_sub (ls' := [(0, .ref a0), (1, .ref a1), (2, .ref a2), (3, .int (v231))]) [1, 2, 3, 0] rfl ?_
          exact hk18 h
        · refine ev_icmp_eq_n 558 dL_law_461 rfl c230 ?_
          refine ev_iconst (v := 0) dL_law_464 (by decide) ?_
          exact ev_retI .boolean dL_law_465 rfl rfl h
      rcases it_some h with ⟨c233, h⟩ | ⟨c233, h⟩
      · refine ev_tableIn (off := 434) (tgt := 466) dL_law_32 16 (by rw [c233]; decide) (by decide) rfl rfl ?_
        refine ev_aload_nR 1 dL_law_466 rfl ?_
        refine ev_aload_nR 0 dL_law_467 rfl ?_
        refine ev_iload_n 3 dL_law_468 rfl ?_
        refine ev_iconst (v := 1) dL_law_469 (by decide) ?_
        refine ev_iadd dL_law_470 ?_
        obtain ⟨g234, h⟩ := gd_some h
        refine ev_iald dL_law_471 g1 g234 ?_
        obtain ⟨g235, h⟩ := gd_some h
        obtain ⟨r238, σ236, e237, h⟩ := bd_some h
        refine ev_invVi (As := [.int (sI σ a0 ((a3 + 1).toNatClampNeg))]) (st := []) dL_law_472 cb_X10_check tp_855 tp_856 tp_857 kf10 rfl (by omega) g235 rfl rfl (Nat.le_of_ble_eq_true rfl) (x_X10_check e237) ?_
        refine ev_aload_nR 2 dL_law_475 rfl ?_
        refine ev_aload_nR 0 dL_law_476 rfl ?_
        refine ev_iload_n 3 dL_law_477 rfl ?_
        refine ev_iconst (v := 1) dL_law_478 (by decide) ?_
        refine ev_iadd dL_law_479 ?_
        obtain ⟨g239, h⟩ := gd_some h
        obtain ⟨g240, h⟩ := gd_some h
        refine ev_iald dL_law_480 g239 g240 ?_
        obtain ⟨g241, h⟩ := gd_some h
        obtain ⟨r244, σ242, e243, h⟩ := bd_some h
        refine ev_invVi (As := [.int (sI σ236 a0 ((a3 + 1).toNatClampNeg))]) (st := [.int (r238)]) dL_law_481 cb_X11_check tp_1277 tp_1278 tp_1279 kf11 rfl (by omega) g241 rfl rfl (Nat.le_of_ble_eq_true rfl) (x_X11_check e243) ?_
        rcases it_some h with ⟨c245, h⟩ | ⟨c245, h⟩
        · refine ev_icmp_eq (tgt := 558) dL_law_484 rfl c245 ?_
          obtain ⟨v246, e247, h⟩ := lt_some h
          refine ev_iinc (v := v246) (ls' := [(3, .int (v246)), (0, .ref a0), (1, .ref a1), (2, .ref a2)]) 3 dL_law_558 rfl e247.symm (by decide) rfl ?_
          refine ev_goto (tgt := 18) dL_law_561 rfl ?_
          refine ev_sub (ls' := [(0, .ref a0), (1, .ref a1), (2, .ref a2), (3, .int (v246))]) [1, 2, 3, 0] rfl ?_
          exact hk18 h
        · refine ev_icmp_eq_n 558 dL_law_484 rfl c245 ?_
          refine ev_iconst (v := 0) dL_law_487 (by decide) ?_
          exact ev_retI .boolean dL_law_488 rfl rfl h
      rcases it_some h with ⟨c248, h⟩ | ⟨c248, h⟩
      · refine ev_tableIn (off := 457) (tgt := 489) dL_law_32 17 (by rw [c248]; decide) (by decide) rfl rfl ?_
        refine ev_aload_nR 1 dL_law_489 rfl ?_
        refine ev_aload_nR 0 dL_law_490 rfl ?_
        refine ev_iload_n 3 dL_law_491 rfl ?_
        refine ev_iconst (v := 1) dL_law_492 (by decide) ?_
        refine ev_iadd dL_law_493 ?_
        obtain ⟨g249, h⟩ := gd_some h
        refine ev_iald dL_law_494 g1 g249 ?_
        obtain ⟨g250, h⟩ := gd_some h
        obtain ⟨r253, σ251, e252, h⟩ := bd_some h
        refine ev_invVi (As := [.int (sI σ a0 ((a3 + 1).toNatClampNeg))]) (st := []) dL_law_495 cb_X10_image tp_924 tp_925 tp_926 kf10 rfl (by omega) g250 rfl rfl (Nat.le_of_ble_eq_true rfl) (x_X10_image e252) ?_
        refine ev_aload_nR 2 dL_law_498 rfl ?_
        refine ev_aload_nR 0 dL_law_499 rfl ?_
        refine ev_iload_n 3 dL_law_500 rfl ?_
        refine ev_iconst (v := 1) dL_law_501 (by decide) ?_
        refine ev_iadd dL_law_502 ?_
        obtain ⟨g254, h⟩ := gd_some h
        obtain ⟨g255, h⟩ := gd_some h
        refine ev_iald dL_law_503 g254 g255 ?_
        obtain ⟨g256, h⟩ := gd_some h
        obtain ⟨r259, σ257, e258, h⟩ := bd_some h
        refine ev_invVi (As := [.int (sI σ251 a0 ((a3 + 1).toNatClampNeg))]) (st := [.int (r253)]) dL_law_504 cb_X11_image tp_1301 tp_1302 tp_1303 kf11 rfl (by omega) g256 rfl rfl (Nat.le_of_ble_eq_true rfl) (x_X11_image e258) ?_
        rcases it_some h with ⟨c260, h⟩ | ⟨c260, h⟩
        · refine ev_icmp_eq (tgt := 558) dL_law_507 rfl c260 ?_
          obtain ⟨v261, e262, h⟩ := lt_some h
          refine ev_iinc (v := v261) (ls' := [(3, .int (v261)), (0, .ref a0), (1, .ref a1), (2, .ref a2)]) 3 dL_law_558 rfl e262.symm (by decide) rfl ?_
          refine ev_goto (tgt := 18) dL_law_561 rfl ?_
          refine ev_sub (ls' := [(0, .ref a0), (1, .ref a1), (2, .ref a2), (3, .int (v261))]) [1, 2, 3, 0] rfl ?_
          exact hk18 h
        · refine ev_icmp_eq_n 558 dL_law_507 rfl c260 ?_
          refine ev_iconst (v := 0) dL_law_510 (by decide) ?_
          exact ev_retI .boolean dL_law_511 rfl rfl h
      rcases it_some h with ⟨c263, h⟩ | ⟨c263, h⟩
      · refine ev_tableIn (off := 480) (tgt := 512) dL_law_32 18 (by rw [c263]; decide) (by decide) rfl rfl ?_
        refine ev_aload_nR 1 dL_law_512 rfl ?_
        refine ev_aload_nR 0 dL_law_513 rfl ?_
        refine ev_iload_n 3 dL_law_514 rfl ?_
        refine ev_iconst (v := 1) dL_law_515 (by decide) ?_
        refine ev_iadd dL_law_516 ?_
        obtain ⟨g264, h⟩ := gd_some h
        refine ev_iald dL_law_517 g1 g264 ?_
        obtain ⟨g265, h⟩ := gd_some h
        obtain ⟨r268, σ266, e267, h⟩ := bd_some h
        refine ev_invVi (As := [.int (sI σ a0 ((a3 + 1).toNatClampNeg))]) (st := []) dL_law_518 cb_X10_restore tp_932 tp_933 tp_934 kf10 rfl (by omega) g265 rfl rfl (Nat.le_of_ble_eq_true rfl) (x_X10_restore e267) ?_
        refine ev_aload_nR 2 dL_law_521 rfl ?_
        refine ev_aload_nR 0 dL_law_522 rfl ?_
        refine ev_iload_n 3 dL_law_523 rfl ?_
        refine ev_iconst (v := 1) dL_law_524 (by decide) ?_
        refine ev_iadd dL_law_525 ?_
        obtain ⟨g269, h⟩ := gd_some h
        obtain ⟨g270, h⟩ := gd_some h
        refine ev_iald dL_law_526 g269 g270 ?_
        obtain ⟨g271, h⟩ := gd_some h
        obtain ⟨r274, σ272, e273, h⟩ := bd_some h
        refine ev_invVi (As := [.int (sI σ266 a0 ((a3 + 1).toNatClampNeg))]) (st := [.int (r268)]) dL_law_527 cb_X11_restore tp_1305 tp_1306 tp_1307 kf11 rfl (by omega) g271 rfl rfl (Nat.le_of_ble_eq_true rfl) (x_X11_restore e273) ?_
        rcases it_some h with ⟨c275, h⟩ | ⟨c275, h⟩
        · refine ev_icmp_eq (tgt := 558) dL_law_530 rfl c275 ?_
          obtain ⟨v276, e277, h⟩ := lt_some h
          refine ev_iinc (v := v276) (ls' := [(3, .int (v276)), (0, .ref a0), (1, .ref a1), (2, .ref a2)]) 3 dL_law_558 rfl e277.symm (by decide) rfl ?_
          refine ev_goto (tgt := 18) dL_law_561 rfl ?_
          refine ev_sub (ls' := [(0, .ref a0), (1, .ref a1), (2, .ref a2), (3, .int (v276))]) [1, 2, 3, 0] rfl ?_
          exact hk18 h
        · refine ev_icmp_eq_n 558 dL_law_530 rfl c275 ?_
          refine ev_iconst (v := 0) dL_law_533 (by decide) ?_
          exact ev_retI .boolean dL_law_534 rfl rfl h
      rcases it_some h with ⟨c278, h⟩ | ⟨c278, h⟩
      · refine ev_tableIn (off := 503) (tgt := 535) dL_law_32 19 (by rw [c278]; decide) (by decide) rfl rfl ?_
        refine ev_aload_nR 1 dL_law_535 rfl ?_
        refine ev_aload_nR 0 dL_law_536 rfl ?_
        refine ev_iload_n 3 dL_law_537 rfl ?_
        refine ev_iconst (v := 1) dL_law_538 (by decide) ?_
        refine ev_iadd dL_law_539 ?_
        obtain ⟨g279, h⟩ := gd_some h
        refine ev_iald dL_law_540 g1 g279 ?_
        obtain ⟨g280, h⟩ := gd_some h
        obtain ⟨r283, σ281, e282, h⟩ := bd_some h
        refine ev_invVi (As := [.int (sI σ a0 ((a3 + 1).toNatClampNeg))]) (st := []) dL_law_541 cb_X10_count tp_936 tp_937 tp_938 kf10 rfl (by omega) g280 rfl rfl (Nat.le_of_ble_eq_true rfl) (x_X10_count e282) ?_
        refine ev_aload_nR 2 dL_law_544 rfl ?_
        refine ev_aload_nR 0 dL_law_545 rfl ?_
        refine ev_iload_n 3 dL_law_546 rfl ?_
        refine ev_iconst (v := 1) dL_law_547 (by decide) ?_
        refine ev_iadd dL_law_548 ?_
        obtain ⟨g284, h⟩ := gd_some h
        obtain ⟨g285, h⟩ := gd_some h
        refine ev_iald dL_law_549 g284 g285 ?_
        obtain ⟨g286, h⟩ := gd_some h
        obtain ⟨r289, σ287, e288, h⟩ := bd_some h
        refine ev_invVi (As := [.int (sI σ281 a0 ((a3 + 1).toNatClampNeg))]) (st := [.int (r283)]) dL_law_550 cb_X11_count tp_1309 tp_1310 tp_1311 kf11 rfl (by omega) g286 rfl rfl (Nat.le_of_ble_eq_true rfl) (x_X11_count e288) ?_
        rcases it_some h with ⟨c290, h⟩ | ⟨c290, h⟩
        · refine ev_icmp_eq (tgt := 558) dL_law_553 rfl c290 ?_
          obtain ⟨v291, e292, h⟩ := lt_some h
          refine ev_iinc (v := v291) (ls' := [(3, .int (v291)), (0, .ref a0), (1, .ref a1), (2, .ref a2)]) 3 dL_law_558 rfl e292.symm (by decide) rfl ?_
          refine ev_goto (tgt := 18) dL_law_561 rfl ?_
          refine ev_sub (ls' := [(0, .ref a0), (1, .ref a1), (2, .ref a2), (3, .int (v291))]) [1, 2, 3, 0] rfl ?_
          exact hk18 h
        · refine ev_icmp_eq_n 558 dL_law_553 rfl c290 ?_
          refine ev_iconst (v := 0) dL_law_556 (by decide) ?_
          exact ev_retI .boolean dL_law_557 rfl rfl h
      have hx : v4.toInt < 0 ∨ 19 < v4.toInt := tab_out v4 0 19 (by decide) (fun k h1 h2 => by
          rcases (show k = 0 ∨ k = 1 ∨ k = 2 ∨ k = 3 ∨ k = 4 ∨ k = 5 ∨ k = 6 ∨ k = 7 ∨ k = 8 ∨ k = 9 ∨ k = 10 ∨ k = 11 ∨ k = 12 ∨ k = 13 ∨ k = 14 ∨ k = 15 ∨ k = 16 ∨ k = 17 ∨ k = 18 ∨ k = 19 by omega) with rfl | rfl | rfl | rfl | rfl | rfl | rfl | rfl | rfl | rfl | rfl | rfl | rfl | rfl | rfl | rfl | rfl | rfl | rfl | rfl
          · exact ne_toInt c6
          · exact ne_toInt c21
          · exact ne_toInt c33
          · exact ne_toInt c45
          · exact ne_toInt c57
          · exact ne_toInt c69
          · exact ne_toInt c81
          · exact ne_toInt c98
          · exact ne_toInt c113
          · exact ne_toInt c130
          · exact ne_toInt c147
          · exact ne_toInt c159
          · exact ne_toInt c171
          · exact ne_toInt c186
          · exact ne_toInt c203
          · exact ne_toInt c218
          · exact ne_toInt c233
          · exact ne_toInt c248
          · exact ne_toInt c263
          · exact ne_toInt c278)
      refine ev_tableOut (tgt := 558) dL_law_32 hx rfl ?_
      obtain ⟨v293, e294, h⟩ := lt_some h
      refine ev_iinc (v := v293) (ls' := [(3, .int (v293)), (0, .ref a0), (1, .ref a1), (2, .ref a2)]) 3 dL_law_558 rfl e294.symm (by decide) rfl ?_
      refine ev_goto (tgt := 18) dL_law_561 rfl ?_
      refine ev_sub (ls' := [(0, .ref a0), (1, .ref a1), (2, .ref a2), (3, .int (v293))]) [1, 2, 3, 0] rfl ?_
      exact hk18 h
def s_L_law (a0 : Nat) (σ : St) : Option (Int32 × St) :=
 lt (sn σ) fun n295 => lt (newC σ 10 12) fun σ297 =>
 bd (s_X10_init n295 σ297) fun r301 σ299 =>
 lt (sn σ299) fun n302 => lt (newC σ299 11 36) fun σ304 =>
 bd (s_X11_init n302 σ304) fun r308 σ306 =>
 s_L_law_18 16000 a0 n295 n302 0 σ306
set_option maxHeartbeats 4000000 in
set_option maxRecDepth 100000 in
theorem e_L_law {a0 : Nat} {σ : St} {r : Int32} {σ' : St} (h : s_L_law a0 σ = some (r, σ')) : Ev M_L_law (393) 0 [(0, .ref a0)] [] σ (some (.int r)) σ' := by
  unfold s_L_law at h
  obtain ⟨n295, e296, h⟩ := lt_some h
  obtain ⟨σ297, e298, h⟩ := lt_some h
  refine ev_newR dL_law_0 kf10 tp_107 tp_108 tp_93 e296 ?_
  refine ev_st e298 ?_
  refine ev_dup dL_law_3 rfl ?_
  obtain ⟨r301, σ299, e300, h⟩ := bd_some h
  refine ev_invI (r1 := none) (As := []) (st := [.ref n295]) dL_law_4 cb_X10_init tp_109 tp_110 rfl rfl (by omega) rfl rfl (Nat.le_of_ble_eq_true rfl) (x_X10_init e300) ?_
  show Ev _ _ _ _ [.ref n295] _ _ _
  refine ev_astore_nR (ls' := [(1, .ref n295), (0, .ref a0)]) dL_law_7 (by decide) rfl ?_
  obtain ⟨n302, e303, h⟩ := lt_some h
  obtain ⟨σ304, e305, h⟩ := lt_some h
  refine ev_newR dL_law_8 kf11 tp_946 tp_947 tp_102 e303 ?_
  refine ev_st e305 ?_
  refine ev_dup dL_law_11 rfl ?_
  obtain ⟨r308, σ306, e307, h⟩ := bd_some h
  refine ev_invI (r1 := none) (As := []) (st := [.ref n302]) dL_law_12 cb_X11_init tp_948 tp_949 rfl rfl (by omega) rfl rfl (Nat.le_of_ble_eq_true rfl) (x_X11_init e307) ?_
  show Ev _ _ _ _ [.ref n302] _ _ _
  refine ev_astore_nR (ls' := [(2, .ref n302), (1, .ref n295), (0, .ref a0)]) dL_law_15 (by decide) rfl ?_
  refine ev_iconst (v := 0) dL_law_16 (by decide) ?_
  refine ev_istore_n (ls' := [(3, .int (0)), (2, .ref n302), (1, .ref n295), (0, .ref a0)]) dL_law_17 (by decide) rfl ?_
  refine ev_sub (ls' := [(0, .ref a0), (1, .ref n295), (2, .ref n302), (3, .int (0))]) [3, 2, 1, 0] rfl ?_
  exact e_L_law_18 16000 h
