def sb_X10_needed_23 (k23 : Nat → Int32 → Int32 → Int32 → St → Option (Int32 × St)) (a0 : Nat) (a1 : Int32) (a2 : Int32) (a3 : Int32) (σ : St) : Option (Int32 × St) :=
 if (5 : Int32) ≤ a3 then (some (a2, σ)) else (lt (1 <<< (a3 &&& 31) : Int32) fun v2 =>
 if (a1 &&& v2) = 0 then (lt (a3 + 1 : Int32) fun v5 =>
 k23 a0 a1 a2 v5 σ) else (if isO σ 10 a0 = true then (bd (s_X10_isProvable a0 (a1 ^^^ v2) σ) fun r10 σ8 =>
 if r10 = 0 then (lt (a2 ||| v2 : Int32) fun v14 =>
 lt (a3 + 1 : Int32) fun v16 =>
 k23 a0 a1 v14 v16 σ8) else (lt (a3 + 1 : Int32) fun v12 =>
 k23 a0 a1 a2 v12 σ8)) else none))
def s_X10_needed_23 (F : Nat) : Nat → Int32 → Int32 → Int32 → St → Option (Int32 × St) := lp (fun _ _ _ _ _ => none) (sb_X10_needed_23 ) F
set_option maxHeartbeats 4000000 in
set_option maxRecDepth 100000 in
theorem e_X10_needed_23 {r : Int32} {σ' : St} (F : Nat) : ∀ {a0 : Nat} {a1 : Int32} {a2 : Int32} {a3 : Int32} {σ : St}, s_X10_needed_23 F a0 a1 a2 a3 σ = some (r, σ') → Ev M_X10_needed (392) 23 [(0, .ref a0), (1, .int (a1)), (2, .int (a2)), (3, .int (a3))] [] σ (some (.int r)) σ' := by
  induction F with
  | zero => intro a0 a1 a2 a3 σ h; cases h
  | succ F ih =>
    intro a0 a1 a2 a3 σ h
    change sb_X10_needed_23  (s_X10_needed_23 F) a0 a1 a2 a3 σ = some (r, σ') at h
    unfold sb_X10_needed_23 at h
    have hk23 := @ih
    refine ev_iload_n 3 dX10_needed_23 rfl ?_
    refine ev_iconst (v := 5) dX10_needed_24 (by decide) ?_
    rcases it_some h with ⟨c1, h⟩ | ⟨c1, h⟩
    · refine ev_icmp_ge (tgt := 62) dX10_needed_25 rfl c1 ?_
      refine ev_iload_n 2 dX10_needed_62 rfl ?_
      exact ev_retI .int dX10_needed_63 rfl rfl h
    · refine ev_icmp_ge_n 62 dX10_needed_25 rfl c1 ?_
      refine ev_iconst (v := 1) dX10_needed_28 (by decide) ?_
      refine ev_iload_n 3 dX10_needed_29 rfl ?_
      refine ev_ishl dX10_needed_30 ?_
      obtain ⟨v2, e3, h⟩ := lt_some h
      refine ev_topI e3 ?_
      refine ev_istore (ls' := [(4, .int (v2)), (0, .ref a0), (1, .int (a1)), (2, .int (a2)), (3, .int (a3))]) dX10_needed_31 (by decide) rfl ?_
      refine ev_iload_n 2 dX10_needed_33 rfl ?_
      refine ev_iload 0 dX10_needed_34 rfl ?_
      refine ev_iand dX10_needed_36 ?_
      rcases it_some h with ⟨c4, h⟩ | ⟨c4, h⟩
      · refine ev_if_eq (tgt := 56) dX10_needed_37 rfl c4 ?_
        obtain ⟨v5, e6, h⟩ := lt_some h
        refine ev_iinc (v := v5) (ls' := [(3, .int (v5)), (4, .int (v2)), (0, .ref a0), (1, .int (a1)), (2, .int (a2))]) 4 dX10_needed_56 rfl e6.symm (by decide) rfl ?_
        refine ev_goto (tgt := 23) dX10_needed_59 rfl ?_
        refine ev_sub (ls' := [(0, .ref a0), (1, .int (a1)), (2, .int (a2)), (3, .int (v5))]) [2, 3, 4, 0] rfl ?_
        exact hk23 h
      · refine ev_if_eq_n 56 dX10_needed_37 rfl c4 ?_
        refine ev_aload_nR 1 dX10_needed_40 rfl ?_
        refine ev_iload_n 2 dX10_needed_41 rfl ?_
        refine ev_iload 0 dX10_needed_42 rfl ?_
        refine ev_ixor dX10_needed_44 ?_
        obtain ⟨g7, h⟩ := gd_some h
        obtain ⟨r10, σ8, e9, h⟩ := bd_some h
        refine ev_invVi (As := [.int (a1 ^^^ v2)]) (st := []) dX10_needed_45 cb_X10_isProvable tp_639 tp_641 tp_32 kf10 rfl (by omega) g7 rfl rfl (Nat.le_of_ble_eq_true rfl) (x_X10_isProvable e9) ?_
        rcases it_some h with ⟨c11, h⟩ | ⟨c11, h⟩
        · refine ev_if_ne_n 56 dX10_needed_48 rfl c11 ?_
          refine ev_iload_n 3 dX10_needed_51 rfl ?_
          refine ev_iload 0 dX10_needed_52 rfl ?_
          refine ev_ior dX10_needed_54 ?_
          obtain ⟨v14, e15, h⟩ := lt_some h
          refine ev_topI e15 ?_
          refine ev_istore_n (ls' := [(2, .int (v14)), (4, .int (v2)), (0, .ref a0), (1, .int (a1)), (3, .int (a3))]) dX10_needed_55 (by decide) rfl ?_
          obtain ⟨v16, e17, h⟩ := lt_some h
          refine ev_iinc (v := v16) (ls' := [(3, .int (v16)), (2, .int (v14)), (4, .int (v2)), (0, .ref a0), (1, .int (a1))]) 4 dX10_needed_56 rfl e17.symm (by decide) rfl ?_
          refine ev_goto (tgt := 23) dX10_needed_59 rfl ?_
          refine ev_sub (ls' := [(0, .ref a0), (1, .int (a1)), (2, .int (v14)), (3, .int (v16))]) [3, 4, 1, 0] rfl ?_
          exact hk23 h
        · refine ev_if_ne (tgt := 56) dX10_needed_48 rfl c11 ?_
          obtain ⟨v12, e13, h⟩ := lt_some h
          refine ev_iinc (v := v12) (ls' := [(3, .int (v12)), (4, .int (v2)), (0, .ref a0), (1, .int (a1)), (2, .int (a2))]) 4 dX10_needed_56 rfl e13.symm (by decide) rfl ?_
          refine ev_goto (tgt := 23) dX10_needed_59 rfl ?_
          refine ev_sub (ls' := [(0, .ref a0), (1, .int (a1)), (2, .int (a2)), (3, .int (v12))]) [2, 3, 4, 0] rfl ?_
          exact hk23 h
def s_X10_needed (a0 : Nat) (σ : St) : Option (Int32 × St) :=
 if isO σ 10 a0 = true then (bd (s_X10_hasGoal a0 σ) fun r21 σ19 =>
 if r21 = 0 then (some ((-3), σ19)) else (if isO σ19 10 a0 = true then (bd (s_X10_prepare a0 σ19) fun r26 σ24 =>
 if isO σ24 10 a0 = true then (bd (s_X10_allResources a0 σ24) fun r30 σ28 =>
 s_X10_needed_23 16000 a0 r30 0 0 σ28) else none) else none)) else none
set_option maxHeartbeats 4000000 in
set_option maxRecDepth 100000 in
theorem x_X10_needed {a0 : Nat} {σ : St} {r : Int32} {σ' : St} (h : s_X10_needed a0 σ = some (r, σ')) : Ex M_X10_needed (392) [.ref a0] σ (some (.int r)) σ' := by
  unfold s_X10_needed at h
  refine ex_of (by decide) rfl (Nat.le_of_ble_eq_true rfl) ?_
  show Ev _ _ 0 [(0, .ref a0)] [] _ _ _
  refine ev_aload_nR 0 dX10_needed_0 rfl ?_
  obtain ⟨g18, h⟩ := gd_some h
  obtain ⟨r21, σ19, e20, h⟩ := bd_some h
  refine ev_invVi (As := []) (st := []) dX10_needed_1 cb_X10_hasGoal tp_478 tp_480 tp_13 kf10 rfl (by omega) g18 rfl rfl (Nat.le_of_ble_eq_true rfl) (x_X10_hasGoal e20) ?_
  rcases it_some h with ⟨c22, h⟩ | ⟨c22, h⟩
  · refine ev_if_ne_n 10 dX10_needed_4 rfl c22 ?_
    refine ev_bipush (v := (-3)) dX10_needed_7 (by decide) ?_
    exact ev_retI .int dX10_needed_9 rfl rfl h
  · refine ev_if_ne (tgt := 10) dX10_needed_4 rfl c22 ?_
    refine ev_aload_nR 0 dX10_needed_10 rfl ?_
    obtain ⟨g23, h⟩ := gd_some h
    obtain ⟨r26, σ24, e25, h⟩ := bd_some h
    refine ev_invVv (As := []) (st := []) dX10_needed_11 cb_X10_prepare tp_494 tp_496 tp_16 kf10 rfl (by omega) g23 rfl rfl (Nat.le_of_ble_eq_true rfl) (x_X10_prepare e25) ?_
    refine ev_aload_nR 0 dX10_needed_14 rfl ?_
    obtain ⟨g27, h⟩ := gd_some h
    obtain ⟨r30, σ28, e29, h⟩ := bd_some h
    refine ev_invVi (As := []) (st := []) dX10_needed_15 cb_X10_allResources tp_490 tp_492 tp_15 kf10 rfl (by omega) g27 rfl rfl (Nat.le_of_ble_eq_true rfl) (x_X10_allResources e29) ?_
    refine ev_istore_n (ls' := [(1, .int (r30)), (0, .ref a0)]) dX10_needed_18 (by decide) rfl ?_
    refine ev_iconst (v := 0) dX10_needed_19 (by decide) ?_
    refine ev_istore_n (ls' := [(2, .int (0)), (1, .int (r30)), (0, .ref a0)]) dX10_needed_20 (by decide) rfl ?_
    refine ev_iconst (v := 0) dX10_needed_21 (by decide) ?_
    refine ev_istore_n (ls' := [(3, .int (0)), (2, .int (0)), (1, .int (r30)), (0, .ref a0)]) dX10_needed_22 (by decide) rfl ?_
    refine ev_sub (ls' := [(0, .ref a0), (1, .int (r30)), (2, .int (0)), (3, .int (0))]) [3, 2, 1, 0] rfl ?_
    exact e_X10_needed_23 16000 h
def s_X10_term (a0 : Nat) (a1 : Int32) (σ : St) : Option (Int32 × St) :=
 if ((-1)) ≤ a1 then (if isO σ 10 a0 = true then (bd (s_X10_hasGoal a0 σ) fun r5 σ3 =>
 if r5 = 0 then (some ((-3), σ3)) else (if isO σ3 10 a0 = true then (bd (s_X10_prepare a0 σ3) fun r10 σ8 =>
 if isO σ8 10 a0 = true then (op (sP σ8 a0 7) fun p12 =>
 bd (s_X10_allResources a0 σ8) fun r16 σ14 =>
 if isO σ14 0 p12 = true then (bd (s_X0_find p12 r16 σ14) fun r20 σ18 =>
 if isO σ18 10 a0 = true then (op (sP σ18 a0 7) fun p22 =>
 if isO σ18 0 p22 = true then (bd (s_X0_exists p22 σ18) fun r27 σ25 =>
 if r27 = 0 then (some ((-6), σ25)) else (if a1 = ((-1)) then (if isO σ25 10 a0 = true then (op (sP σ25 a0 7) fun p46 =>
 if isO σ25 0 p46 = true then (bd (s_X0_length p46 σ25) fun r51 σ49 =>
 some (r51, σ49)) else none) else none) else (if isO σ25 10 a0 = true then (op (sP σ25 a0 7) fun p31 =>
 if isO σ25 0 p31 = true then (bd (s_X0_length p31 σ25) fun r36 σ34 =>
 if r36 ≤ a1 then (some ((-6), σ34)) else (if isO σ34 10 a0 = true then (op (sP σ34 a0 7) fun p39 =>
 if isO σ34 0 p39 = true then (bd (s_X0_at p39 a1 σ34) fun r44 σ42 =>
 some (r44, σ42)) else none) else none)) else none) else none))) else none) else none) else none) else none) else none)) else none) else (some ((-2), σ))
set_option maxHeartbeats 4000000 in
set_option maxRecDepth 100000 in
theorem x_X10_term {a0 : Nat} {a1 : Int32} {σ : St} {r : Int32} {σ' : St} (h : s_X10_term a0 a1 σ = some (r, σ')) : Ex M_X10_term (392) [.ref a0, .int (a1)] σ (some (.int r)) σ' := by
  unfold s_X10_term at h
  refine ex_of (by decide) rfl (Nat.le_of_ble_eq_true rfl) ?_
  show Ev _ _ 0 [(0, .ref a0), (1, .int (a1))] [] _ _ _
  refine ev_iload_n 1 dX10_term_0 rfl ?_
  refine ev_iconst (v := (-1)) dX10_term_1 (by decide) ?_
  rcases it_some h with ⟨c1, h⟩ | ⟨c1, h⟩
  · refine ev_icmp_ge (tgt := 8) dX10_term_2 rfl c1 ?_
    refine ev_aload_nR 0 dX10_term_8 rfl ?_
    obtain ⟨g2, h⟩ := gd_some h
    obtain ⟨r5, σ3, e4, h⟩ := bd_some h
    refine ev_invVi (As := []) (st := []) dX10_term_9 cb_X10_hasGoal tp_478 tp_480 tp_13 kf10 rfl (by omega) g2 rfl rfl (Nat.le_of_ble_eq_true rfl) (x_X10_hasGoal e4) ?_
    rcases it_some h with ⟨c6, h⟩ | ⟨c6, h⟩
    · refine ev_if_ne_n 18 dX10_term_12 rfl c6 ?_
      refine ev_bipush (v := (-3)) dX10_term_15 (by decide) ?_
      exact ev_retI .int dX10_term_17 rfl rfl h
    · refine ev_if_ne (tgt := 18) dX10_term_12 rfl c6 ?_
      refine ev_aload_nR 0 dX10_term_18 rfl ?_
      obtain ⟨g7, h⟩ := gd_some h
      obtain ⟨r10, σ8, e9, h⟩ := bd_some h
      refine ev_invVv (As := []) (st := []) dX10_term_19 cb_X10_prepare tp_494 tp_496 tp_16 kf10 rfl (by omega) g7 rfl rfl (Nat.le_of_ble_eq_true rfl) (x_X10_prepare e9) ?_
      refine ev_aload_nR 0 dX10_term_22 rfl ?_
      obtain ⟨g11, h⟩ := gd_some h
      obtain ⟨p12, e13, h⟩ := op_some h
      refine ev_getPR dX10_term_23 fl_X10_58 rfl g11 e13 ?_
      refine ev_aload_nR 0 dX10_term_26 rfl ?_
      obtain ⟨r16, σ14, e15, h⟩ := bd_some h
      refine ev_invVi (As := []) (st := [.ref p12]) dX10_term_27 cb_X10_allResources tp_490 tp_492 tp_15 kf10 rfl (by omega) g11 rfl rfl (Nat.le_of_ble_eq_true rfl) (x_X10_allResources e15) ?_
      obtain ⟨g17, h⟩ := gd_some h
      obtain ⟨r20, σ18, e19, h⟩ := bd_some h
      refine ev_invVv (As := [.int (r16)]) (st := []) dX10_term_30 cb_X0_find tp_651 tp_652 tp_653 kf0 rfl (by omega) g17 rfl rfl (Nat.le_of_ble_eq_true rfl) (x_X0_find e19) ?_
      refine ev_aload_nR 0 dX10_term_33 rfl ?_
      obtain ⟨g21, h⟩ := gd_some h
      obtain ⟨p22, e23, h⟩ := op_some h
      refine ev_getPR dX10_term_34 fl_X10_58 rfl g21 e23 ?_
      obtain ⟨g24, h⟩ := gd_some h
      obtain ⟨r27, σ25, e26, h⟩ := bd_some h
      refine ev_invVi (As := []) (st := []) dX10_term_37 cb_X0_exists tp_700 tp_701 tp_702 kf0 rfl (by omega) g24 rfl rfl (Nat.le_of_ble_eq_true rfl) (x_X0_exists e26) ?_
      rcases it_some h with ⟨c28, h⟩ | ⟨c28, h⟩
      · refine ev_if_ne_n 46 dX10_term_40 rfl c28 ?_
        refine ev_bipush (v := (-6)) dX10_term_43 (by decide) ?_
        exact ev_retI .int dX10_term_45 rfl rfl h
      · refine ev_if_ne (tgt := 46) dX10_term_40 rfl c28 ?_
        refine ev_iload_n 1 dX10_term_46 rfl ?_
        refine ev_iconst (v := (-1)) dX10_term_47 (by decide) ?_
        rcases it_some h with ⟨c29, h⟩ | ⟨c29, h⟩
        · refine ev_icmp_ne_n 59 dX10_term_48 rfl c29 ?_
          refine ev_aload_nR 0 dX10_term_51 rfl ?_
          obtain ⟨g45, h⟩ := gd_some h
          obtain ⟨p46, e47, h⟩ := op_some h
          refine ev_getPR dX10_term_52 fl_X10_58 rfl g45 e47 ?_
          obtain ⟨g48, h⟩ := gd_some h
          obtain ⟨r51, σ49, e50, h⟩ := bd_some h
          refine ev_invVi (As := []) (st := []) dX10_term_55 cb_X0_length tp_704 tp_705 tp_706 kf0 rfl (by omega) g48 rfl rfl (Nat.le_of_ble_eq_true rfl) (x_X0_length e50) ?_
          exact ev_retI .int dX10_term_58 rfl rfl h
        · refine ev_icmp_ne (tgt := 59) dX10_term_48 rfl c29 ?_
          refine ev_iload_n 1 dX10_term_59 rfl ?_
          refine ev_aload_nR 0 dX10_term_60 rfl ?_
          obtain ⟨g30, h⟩ := gd_some h
          obtain ⟨p31, e32, h⟩ := op_some h
          refine ev_getPR dX10_term_61 fl_X10_58 rfl g30 e32 ?_
          obtain ⟨g33, h⟩ := gd_some h
          obtain ⟨r36, σ34, e35, h⟩ := bd_some h
          refine ev_invVi (As := []) (st := [.int (a1)]) dX10_term_64 cb_X0_length tp_704 tp_705 tp_706 kf0 rfl (by omega) g33 rfl rfl (Nat.le_of_ble_eq_true rfl) (x_X0_length e35) ?_
          rcases it_some h with ⟨c37, h⟩ | ⟨c37, h⟩
          · refine ev_icmp_ge (tgt := 81) dX10_term_67 rfl c37 ?_
            refine ev_bipush (v := (-6)) dX10_term_81 (by decide) ?_
            exact ev_retI .int dX10_term_83 rfl rfl h
          · refine ev_icmp_ge_n 81 dX10_term_67 rfl c37 ?_
            refine ev_aload_nR 0 dX10_term_70 rfl ?_
            obtain ⟨g38, h⟩ := gd_some h
            obtain ⟨p39, e40, h⟩ := op_some h
            refine ev_getPR dX10_term_71 fl_X10_58 rfl g38 e40 ?_
            refine ev_iload_n 1 dX10_term_74 rfl ?_
            obtain ⟨g41, h⟩ := gd_some h
            obtain ⟨r44, σ42, e43, h⟩ := bd_some h
            refine ev_invVi (As := [.int (a1)]) (st := []) dX10_term_75 cb_X0_at tp_708 tp_709 tp_710 kf0 rfl (by omega) g41 rfl rfl (Nat.le_of_ble_eq_true rfl) (x_X0_at e43) ?_
            refine ev_goto (tgt := 83) dX10_term_78 rfl ?_
            exact ev_retI .int dX10_term_83 rfl rfl h
  · refine ev_icmp_ge_n 8 dX10_term_2 rfl c1 ?_
    refine ev_bipush (v := (-2)) dX10_term_5 (by decide) ?_
    exact ev_retI .int dX10_term_7 rfl rfl h
def s_X10_uses_27 (a0 : Nat) (a1 : Int32) (a2 : Int32) (t0 : Int32) (t1 : Int32) (σ : St) : Option (Int32 × St) :=
 if t0 < t1 then (if isO σ 10 a0 = true then (bd (s_X10_hasGoal a0 σ) fun r5 σ3 =>
 if r5 = 0 then (some ((-3), σ3)) else (if isO σ3 10 a0 = true then (bd (s_X10_prepare a0 σ3) fun r10 σ8 =>
 if isO σ8 10 a0 = true then (op (sP σ8 a0 7) fun p12 =>
 bd (s_X10_allResources a0 σ8) fun r16 σ14 =>
 if isO σ14 0 p12 = true then (bd (s_X0_find p12 r16 σ14) fun r20 σ18 =>
 if isO σ18 10 a0 = true then (op (sP σ18 a0 7) fun p22 =>
 if a1 = 0 then (if isO σ18 0 p22 = true then (bd (s_X0_usesOf p22 a2 σ18) fun r32 σ30 =>
 some (r32, σ30)) else none) else (if isO σ18 0 p22 = true then (bd (s_X0_usesOf p22 (8 + a2) σ18) fun r28 σ26 =>
 some (r28, σ26)) else none)) else none) else none) else none) else none)) else none) else (some ((-1), σ))
set_option maxHeartbeats 4000000 in
set_option maxRecDepth 100000 in
theorem e_X10_uses_27 {r : Int32} {σ' : St} : ∀ {a0 : Nat} {a1 : Int32} {a2 : Int32} {t0 : Int32} {t1 : Int32} {σ : St}, s_X10_uses_27 a0 a1 a2 t0 t1 σ = some (r, σ') → Ev M_X10_uses (392) 27 [(0, .ref a0), (1, .int (a1)), (2, .int (a2))] [.int (t1), .int (t0)] σ (some (.int r)) σ' := by
  intro a0 a1 a2 t0 t1 σ h
  unfold s_X10_uses_27 at h
  rcases it_some h with ⟨c1, h⟩ | ⟨c1, h⟩
  · refine ev_icmp_lt (tgt := 32) dX10_uses_27 rfl c1 ?_
    refine ev_aload_nR 0 dX10_uses_32 rfl ?_
    obtain ⟨g2, h⟩ := gd_some h
    obtain ⟨r5, σ3, e4, h⟩ := bd_some h
    refine ev_invVi (As := []) (st := []) dX10_uses_33 cb_X10_hasGoal tp_478 tp_480 tp_13 kf10 rfl (by omega) g2 rfl rfl (Nat.le_of_ble_eq_true rfl) (x_X10_hasGoal e4) ?_
    rcases it_some h with ⟨c6, h⟩ | ⟨c6, h⟩
    · refine ev_if_ne_n 42 dX10_uses_36 rfl c6 ?_
      refine ev_bipush (v := (-3)) dX10_uses_39 (by decide) ?_
      exact ev_retI .int dX10_uses_41 rfl rfl h
    · refine ev_if_ne (tgt := 42) dX10_uses_36 rfl c6 ?_
      refine ev_aload_nR 0 dX10_uses_42 rfl ?_
      obtain ⟨g7, h⟩ := gd_some h
      obtain ⟨r10, σ8, e9, h⟩ := bd_some h
      refine ev_invVv (As := []) (st := []) dX10_uses_43 cb_X10_prepare tp_494 tp_496 tp_16 kf10 rfl (by omega) g7 rfl rfl (Nat.le_of_ble_eq_true rfl) (x_X10_prepare e9) ?_
      refine ev_aload_nR 0 dX10_uses_46 rfl ?_
      obtain ⟨g11, h⟩ := gd_some h
      obtain ⟨p12, e13, h⟩ := op_some h
      refine ev_getPR dX10_uses_47 fl_X10_58 rfl g11 e13 ?_
      refine ev_aload_nR 0 dX10_uses_50 rfl ?_
      obtain ⟨r16, σ14, e15, h⟩ := bd_some h
      refine ev_invVi (As := []) (st := [.ref p12]) dX10_uses_51 cb_X10_allResources tp_490 tp_492 tp_15 kf10 rfl (by omega) g11 rfl rfl (Nat.le_of_ble_eq_true rfl) (x_X10_allResources e15) ?_
      obtain ⟨g17, h⟩ := gd_some h
      obtain ⟨r20, σ18, e19, h⟩ := bd_some h
      refine ev_invVv (As := [.int (r16)]) (st := []) dX10_uses_54 cb_X0_find tp_651 tp_652 tp_653 kf0 rfl (by omega) g17 rfl rfl (Nat.le_of_ble_eq_true rfl) (x_X0_find e19) ?_
      refine ev_aload_nR 0 dX10_uses_57 rfl ?_
      obtain ⟨g21, h⟩ := gd_some h
      obtain ⟨p22, e23, h⟩ := op_some h
      refine ev_getPR dX10_uses_58 fl_X10_58 rfl g21 e23 ?_
      refine ev_iload_n 1 dX10_uses_61 rfl ?_
      rcases it_some h with ⟨c24, h⟩ | ⟨c24, h⟩
      · refine ev_if_ne_n 69 dX10_uses_62 rfl c24 ?_
        refine ev_iload_n 2 dX10_uses_65 rfl ?_
        refine ev_goto (tgt := 73) dX10_uses_66 rfl ?_
        obtain ⟨g29, h⟩ := gd_some h
        obtain ⟨r32, σ30, e31, h⟩ := bd_some h
        refine ev_invVi (As := [.int (a2)]) (st := []) dX10_uses_73 cb_X0_usesOf tp_904 tp_905 tp_906 kf0 rfl (by omega) g29 rfl rfl (Nat.le_of_ble_eq_true rfl) (x_X0_usesOf e31) ?_
        exact ev_retI .int dX10_uses_76 rfl rfl h
      · refine ev_if_ne (tgt := 69) dX10_uses_62 rfl c24 ?_
        refine ev_bipush (v := 8) dX10_uses_69 (by decide) ?_
        refine ev_iload_n 2 dX10_uses_71 rfl ?_
        refine ev_iadd dX10_uses_72 ?_
        obtain ⟨g25, h⟩ := gd_some h
        obtain ⟨r28, σ26, e27, h⟩ := bd_some h
        refine ev_invVi (As := [.int (8 + a2)]) (st := []) dX10_uses_73 cb_X0_usesOf tp_904 tp_905 tp_906 kf0 rfl (by omega) g25 rfl rfl (Nat.le_of_ble_eq_true rfl) (x_X0_usesOf e27) ?_
        exact ev_retI .int dX10_uses_76 rfl rfl h
  · refine ev_icmp_lt_n 32 dX10_uses_27 rfl c1 ?_
    refine ev_iconst (v := (-1)) dX10_uses_30 (by decide) ?_
    exact ev_retI .int dX10_uses_31 rfl rfl h
def s_X10_uses_12 (a0 : Nat) (a1 : Int32) (a2 : Int32) (σ : St) : Option (Int32 × St) :=
 if a2 < 0 then (some ((-1), σ)) else (if a1 = 0 then (s_X10_uses_27 a0 a1 a2 a2 8 σ) else (s_X10_uses_27 a0 a1 a2 a2 4 σ))
set_option maxHeartbeats 4000000 in
set_option maxRecDepth 100000 in
theorem e_X10_uses_12 {r : Int32} {σ' : St} : ∀ {a0 : Nat} {a1 : Int32} {a2 : Int32} {σ : St}, s_X10_uses_12 a0 a1 a2 σ = some (r, σ') → Ev M_X10_uses (392) 12 [(0, .ref a0), (1, .int (a1)), (2, .int (a2))] [] σ (some (.int r)) σ' := by
  intro a0 a1 a2 σ h
  unfold s_X10_uses_12 at h
  refine ev_iload_n 2 dX10_uses_12 rfl ?_
  rcases it_some h with ⟨c33, h⟩ | ⟨c33, h⟩
  · refine ev_if_lt (tgt := 30) dX10_uses_13 rfl c33 ?_
    refine ev_iconst (v := (-1)) dX10_uses_30 (by decide) ?_
    exact ev_retI .int dX10_uses_31 rfl rfl h
  · refine ev_if_lt_n 30 dX10_uses_13 rfl c33 ?_
    refine ev_iload_n 2 dX10_uses_16 rfl ?_
    refine ev_iload_n 1 dX10_uses_17 rfl ?_
    rcases it_some h with ⟨c34, h⟩ | ⟨c34, h⟩
    · refine ev_if_ne_n 26 dX10_uses_18 rfl c34 ?_
      refine ev_bipush (v := 8) dX10_uses_21 (by decide) ?_
      refine ev_goto (tgt := 27) dX10_uses_23 rfl ?_
      refine ev_sub (ls' := [(0, .ref a0), (1, .int (a1)), (2, .int (a2))]) [0, 1, 2] rfl ?_
      exact e_X10_uses_27  h
    · refine ev_if_ne (tgt := 26) dX10_uses_18 rfl c34 ?_
      refine ev_iconst (v := 4) dX10_uses_26 (by decide) ?_
      refine ev_sub (ls' := [(0, .ref a0), (1, .int (a1)), (2, .int (a2))]) [0, 1, 2] rfl ?_
      exact e_X10_uses_27  h
def s_X10_uses (a0 : Nat) (a1 : Int32) (a2 : Int32) (σ : St) : Option (Int32 × St) :=
 if a1 = 0 then (s_X10_uses_12 a0 a1 a2 σ) else (if a1 = 1 then (s_X10_uses_12 a0 a1 a2 σ) else (some ((-2), σ)))
set_option maxHeartbeats 4000000 in
set_option maxRecDepth 100000 in
theorem x_X10_uses {a0 : Nat} {a1 : Int32} {a2 : Int32} {σ : St} {r : Int32} {σ' : St} (h : s_X10_uses a0 a1 a2 σ = some (r, σ')) : Ex M_X10_uses (392) [.ref a0, .int (a1), .int (a2)] σ (some (.int r)) σ' := by
  unfold s_X10_uses at h
  refine ex_of (by decide) rfl (Nat.le_of_ble_eq_true rfl) ?_
  show Ev _ _ 0 [(0, .ref a0), (1, .int (a1)), (2, .int (a2))] [] _ _ _
  refine ev_iload_n 1 dX10_uses_0 rfl ?_
  rcases it_some h with ⟨c35, h⟩ | ⟨c35, h⟩
  · refine ev_if_eq (tgt := 12) dX10_uses_1 rfl c35 ?_
    refine ev_sub (ls' := [(0, .ref a0), (1, .int (a1)), (2, .int (a2))]) [0, 1, 2] rfl ?_
    exact e_X10_uses_12  h
  · refine ev_if_eq_n 12 dX10_uses_1 rfl c35 ?_
    refine ev_iload_n 1 dX10_uses_4 rfl ?_
    refine ev_iconst (v := 1) dX10_uses_5 (by decide) ?_
    rcases it_some h with ⟨c36, h⟩ | ⟨c36, h⟩
    · refine ev_icmp_eq (tgt := 12) dX10_uses_6 rfl c36 ?_
      refine ev_sub (ls' := [(0, .ref a0), (1, .int (a1)), (2, .int (a2))]) [0, 1, 2] rfl ?_
      exact e_X10_uses_12  h
    · refine ev_icmp_eq_n 12 dX10_uses_6 rfl c36 ?_
      refine ev_bipush (v := (-2)) dX10_uses_9 (by decide) ?_
      exact ev_retI .int dX10_uses_11 rfl rfl h
def s_X10_put (a0 : Nat) (a1 : Int32) (σ : St) : Option (Int32 × St) :=
 if a1 < 0 then (some ((-2), σ)) else (if a1 ≤ 499 then (if isO σ 10 a0 = true then (op (sP σ a0 8) fun p4 =>
 if isO σ 8 p4 = true then (bd (s_X8_append p4 a1 σ) fun r9 σ7 =>
 if r9 = 0 then (some ((-4), σ7)) else (if isO σ7 10 a0 = true then (op (sP σ7 a0 8) fun p12 =>
 if isO σ7 8 p12 = true then (bd (s_X8_length p12 σ7) fun r17 σ15 =>
 some (r17, σ15)) else none) else none)) else none) else none) else (some ((-2), σ)))
set_option maxHeartbeats 4000000 in
set_option maxRecDepth 100000 in
theorem x_X10_put {a0 : Nat} {a1 : Int32} {σ : St} {r : Int32} {σ' : St} (h : s_X10_put a0 a1 σ = some (r, σ')) : Ex M_X10_put (2) [.ref a0, .int (a1)] σ (some (.int r)) σ' := by
  unfold s_X10_put at h
  refine ex_of (by decide) rfl (Nat.le_of_ble_eq_true rfl) ?_
  show Ev _ _ 0 [(0, .ref a0), (1, .int (a1))] [] _ _ _
  refine ev_iload_n 1 dX10_put_0 rfl ?_
  rcases it_some h with ⟨c1, h⟩ | ⟨c1, h⟩
  · refine ev_if_lt (tgt := 11) dX10_put_1 rfl c1 ?_
    refine ev_bipush (v := (-2)) dX10_put_11 (by decide) ?_
    exact ev_retI .int dX10_put_13 rfl rfl h
  · refine ev_if_lt_n 11 dX10_put_1 rfl c1 ?_
    refine ev_iload_n 1 dX10_put_4 rfl ?_
    refine ev_sipush (v := 499) dX10_put_5 (by decide) ?_
    rcases it_some h with ⟨c2, h⟩ | ⟨c2, h⟩
    · refine ev_icmp_le (tgt := 14) dX10_put_8 rfl c2 ?_
      refine ev_aload_nR 0 dX10_put_14 rfl ?_
      obtain ⟨g3, h⟩ := gd_some h
      obtain ⟨p4, e5, h⟩ := op_some h
      refine ev_getPR dX10_put_15 fl_X10_65 rfl g3 e5 ?_
      refine ev_iload_n 1 dX10_put_18 rfl ?_
      obtain ⟨g6, h⟩ := gd_some h
      obtain ⟨r9, σ7, e8, h⟩ := bd_some h
      refine ev_invVi (As := [.int (a1)]) (st := []) dX10_put_19 cb_X8_append tp_720 tp_721 tp_722 kf8 rfl (by omega) g6 rfl rfl (Nat.le_of_ble_eq_true rfl) (x_X8_append e8) ?_
      rcases it_some h with ⟨c10, h⟩ | ⟨c10, h⟩
      · refine ev_if_eq (tgt := 35) dX10_put_22 rfl c10 ?_
        refine ev_bipush (v := (-4)) dX10_put_35 (by decide) ?_
        exact ev_retI .int dX10_put_37 rfl rfl h
      · refine ev_if_eq_n 35 dX10_put_22 rfl c10 ?_
        refine ev_aload_nR 0 dX10_put_25 rfl ?_
        obtain ⟨g11, h⟩ := gd_some h
        obtain ⟨p12, e13, h⟩ := op_some h
        refine ev_getPR dX10_put_26 fl_X10_65 rfl g11 e13 ?_
        obtain ⟨g14, h⟩ := gd_some h
        obtain ⟨r17, σ15, e16, h⟩ := bd_some h
        refine ev_invVi (As := []) (st := []) dX10_put_29 cb_X8_length tp_724 tp_725 tp_726 kf8 rfl (by omega) g14 rfl rfl (Nat.le_of_ble_eq_true rfl) (x_X8_length e16) ?_
        refine ev_goto (tgt := 37) dX10_put_32 rfl ?_
        exact ev_retI .int dX10_put_37 rfl rfl h
    · refine ev_icmp_le_n 14 dX10_put_8 rfl c2 ?_
      refine ev_bipush (v := (-2)) dX10_put_11 (by decide) ?_
      exact ev_retI .int dX10_put_13 rfl rfl h
def sb_X10_trial_56 (k56 : Nat → Int32 → St → Option (Int32 × St)) (a0 : Nat) (a2 : Int32) (σ : St) : Option (Int32 × St) :=
 if isO σ 10 a0 = true then (op (sP σ a0 7) fun p2 =>
 if isO σ 0 p2 = true then (bd (s_X0_length p2 σ) fun r7 σ5 =>
 if r7 ≤ a2 then (if isO σ5 10 a0 = true then (op (sP σ5 a0 8) fun p10 =>
 if isO σ5 8 p10 = true then (bd (s_X8_length p10 σ5) fun r15 σ13 =>
 some (r15, σ13)) else none) else none) else (if (60 : Int32) ≤ a2 then (if isO σ5 10 a0 = true then (op (sP σ5 a0 8) fun p18 =>
 if isO σ5 8 p18 = true then (bd (s_X8_length p18 σ5) fun r23 σ21 =>
 some (r23, σ21)) else none) else none) else (if isO σ5 10 a0 = true then (op (sP σ5 a0 8) fun p25 =>
 op (sP σ5 a0 7) fun p27 =>
 if isO σ5 0 p27 = true then (bd (s_X0_at p27 a2 σ5) fun r32 σ30 =>
 if isO σ30 8 p25 = true then (bd (s_X8_append p25 r32 σ30) fun r36 σ34 =>
 lt (a2 + 1 : Int32) fun v37 =>
 k56 a0 v37 σ34) else none) else none) else none))) else none) else none
def s_X10_trial_56 (F : Nat) : Nat → Int32 → St → Option (Int32 × St) := lp (fun _ _ _ => none) (sb_X10_trial_56 ) F
set_option maxHeartbeats 4000000 in
set_option maxRecDepth 100000 in
theorem e_X10_trial_56 {r : Int32} {σ' : St} (F : Nat) : ∀ {a0 : Nat} {a2 : Int32} {σ : St}, s_X10_trial_56 F a0 a2 σ = some (r, σ') → Ev M_X10_trial (392) 56 [(0, .ref a0), (2, .int (a2))] [] σ (some (.int r)) σ' := by
  induction F with
  | zero => intro a0 a2 σ h; cases h
  | succ F ih =>
    intro a0 a2 σ h
    change sb_X10_trial_56  (s_X10_trial_56 F) a0 a2 σ = some (r, σ') at h
    unfold sb_X10_trial_56 at h
    have hk56 := @ih
    refine ev_iload_n 1 dX10_trial_56 rfl ?_
    refine ev_aload_nR 0 dX10_trial_57 rfl ?_
    obtain ⟨g1, h⟩ := gd_some h
    obtain ⟨p2, e3, h⟩ := op_some h
    refine ev_getPR dX10_trial_58 fl_X10_58 rfl g1 e3 ?_
    obtain ⟨g4, h⟩ := gd_some h
    obtain ⟨r7, σ5, e6, h⟩ := bd_some h
    refine ev_invVi (As := []) (st := [.int (a2)]) dX10_trial_61 cb_X0_length tp_704 tp_705 tp_706 kf0 rfl (by omega) g4 rfl rfl (Nat.le_of_ble_eq_true rfl) (x_X0_length e6) ?_
    rcases it_some h with ⟨c8, h⟩ | ⟨c8, h⟩
    · refine ev_icmp_ge (tgt := 95) dX10_trial_64 rfl c8 ?_
      refine ev_aload_nR 0 dX10_trial_95 rfl ?_
      obtain ⟨g9, h⟩ := gd_some h
      obtain ⟨p10, e11, h⟩ := op_some h
      refine ev_getPR dX10_trial_96 fl_X10_65 rfl g9 e11 ?_
      obtain ⟨g12, h⟩ := gd_some h
      obtain ⟨r15, σ13, e14, h⟩ := bd_some h
      refine ev_invVi (As := []) (st := []) dX10_trial_99 cb_X8_length tp_724 tp_725 tp_726 kf8 rfl (by omega) g12 rfl rfl (Nat.le_of_ble_eq_true rfl) (x_X8_length e14) ?_
      exact ev_retI .int dX10_trial_102 rfl rfl h
    · refine ev_icmp_ge_n 95 dX10_trial_64 rfl c8 ?_
      refine ev_iload_n 1 dX10_trial_67 rfl ?_
      refine ev_bipush (v := 60) dX10_trial_68 (by decide) ?_
      rcases it_some h with ⟨c16, h⟩ | ⟨c16, h⟩
      · refine ev_icmp_ge (tgt := 95) dX10_trial_70 rfl c16 ?_
        refine ev_aload_nR 0 dX10_trial_95 rfl ?_
        obtain ⟨g17, h⟩ := gd_some h
        obtain ⟨p18, e19, h⟩ := op_some h
        refine ev_getPR dX10_trial_96 fl_X10_65 rfl g17 e19 ?_
        obtain ⟨g20, h⟩ := gd_some h
        obtain ⟨r23, σ21, e22, h⟩ := bd_some h
        refine ev_invVi (As := []) (st := []) dX10_trial_99 cb_X8_length tp_724 tp_725 tp_726 kf8 rfl (by omega) g20 rfl rfl (Nat.le_of_ble_eq_true rfl) (x_X8_length e22) ?_
        exact ev_retI .int dX10_trial_102 rfl rfl h
      · refine ev_icmp_ge_n 95 dX10_trial_70 rfl c16 ?_
        refine ev_aload_nR 0 dX10_trial_73 rfl ?_
        obtain ⟨g24, h⟩ := gd_some h
        obtain ⟨p25, e26, h⟩ := op_some h
        refine ev_getPR dX10_trial_74 fl_X10_65 rfl g24 e26 ?_
        refine ev_aload_nR 0 dX10_trial_77 rfl ?_
        obtain ⟨p27, e28, h⟩ := op_some h
        refine ev_getPR dX10_trial_78 fl_X10_58 rfl g24 e28 ?_
        refine ev_iload_n 1 dX10_trial_81 rfl ?_
        obtain ⟨g29, h⟩ := gd_some h
        obtain ⟨r32, σ30, e31, h⟩ := bd_some h
        refine ev_invVi (As := [.int (a2)]) (st := [.ref p25]) dX10_trial_82 cb_X0_at tp_708 tp_709 tp_710 kf0 rfl (by omega) g29 rfl rfl (Nat.le_of_ble_eq_true rfl) (x_X0_at e31) ?_
        obtain ⟨g33, h⟩ := gd_some h
        obtain ⟨r36, σ34, e35, h⟩ := bd_some h
        refine ev_invVi (As := [.int (r32)]) (st := []) dX10_trial_85 cb_X8_append tp_720 tp_721 tp_722 kf8 rfl (by omega) g33 rfl rfl (Nat.le_of_ble_eq_true rfl) (x_X8_append e35) ?_
        refine ev_pop dX10_trial_88 rfl ?_
        obtain ⟨v37, e38, h⟩ := lt_some h
        refine ev_iinc (v := v37) (ls' := [(2, .int (v37)), (0, .ref a0)]) 1 dX10_trial_89 rfl e38.symm (by decide) rfl ?_
        refine ev_goto (tgt := 56) dX10_trial_92 rfl ?_
        refine ev_sub (ls' := [(0, .ref a0), (2, .int (v37))]) [1, 0] rfl ?_
        exact hk56 h
def s_X10_trial_27 (a0 : Nat) (a1 : Int32) (σ : St) : Option (Int32 × St) :=
 if isO σ 10 a0 = true then (op (sP σ a0 8) fun p40 =>
 if isO σ 8 p40 = true then (bd (s_X8_clear p40 σ) fun r45 σ43 =>
 if a1 = 1 then (if isO σ43 10 a0 = true then (bd (s_X10_prepare a0 σ43) fun r57 σ55 =>
 if isO σ55 10 a0 = true then (op (sP σ55 a0 7) fun p59 =>
 bd (s_X10_allResources a0 σ55) fun r63 σ61 =>
 if isO σ61 0 p59 = true then (bd (s_X0_find p59 r63 σ61) fun r67 σ65 =>
 s_X10_trial_56 16000 a0 0 σ65) else none) else none) else none) else (if isO σ43 10 a0 = true then (op (sP σ43 a0 8) fun p48 =>
 if isO σ43 8 p48 = true then (bd (s_X8_length p48 σ43) fun r53 σ51 =>
 some (r53, σ51)) else none) else none)) else none) else none
set_option maxHeartbeats 4000000 in
set_option maxRecDepth 100000 in
theorem e_X10_trial_27 {r : Int32} {σ' : St} : ∀ {a0 : Nat} {a1 : Int32} {σ : St}, s_X10_trial_27 a0 a1 σ = some (r, σ') → Ev M_X10_trial (392) 27 [(0, .ref a0), (1, .int (a1))] [] σ (some (.int r)) σ' := by
  intro a0 a1 σ h
  unfold s_X10_trial_27 at h
  refine ev_aload_nR 0 dX10_trial_27 rfl ?_
  obtain ⟨g39, h⟩ := gd_some h
  obtain ⟨p40, e41, h⟩ := op_some h
  refine ev_getPR dX10_trial_28 fl_X10_65 rfl g39 e41 ?_
  obtain ⟨g42, h⟩ := gd_some h
  obtain ⟨r45, σ43, e44, h⟩ := bd_some h
  refine ev_invVv (As := []) (st := []) dX10_trial_31 cb_X8_clear tp_716 tp_717 tp_718 kf8 rfl (by omega) g42 rfl rfl (Nat.le_of_ble_eq_true rfl) (x_X8_clear e44) ?_
  refine ev_iload_n 1 dX10_trial_34 rfl ?_
  refine ev_iconst (v := 1) dX10_trial_35 (by decide) ?_
  rcases it_some h with ⟨c46, h⟩ | ⟨c46, h⟩
  · refine ev_icmp_ne_n 95 dX10_trial_36 rfl c46 ?_
    refine ev_aload_nR 0 dX10_trial_39 rfl ?_
    obtain ⟨g54, h⟩ := gd_some h
    obtain ⟨r57, σ55, e56, h⟩ := bd_some h
    refine ev_invVv (As := []) (st := []) dX10_trial_40 cb_X10_prepare tp_494 tp_496 tp_16 kf10 rfl (by omega) g54 rfl rfl (Nat.le_of_ble_eq_true rfl) (x_X10_prepare e56) ?_
    refine ev_aload_nR 0 dX10_trial_43 rfl ?_
    obtain ⟨g58, h⟩ := gd_some h
    obtain ⟨p59, e60, h⟩ := op_some h
    refine ev_getPR dX10_trial_44 fl_X10_58 rfl g58 e60 ?_
    refine ev_aload_nR 0 dX10_trial_47 rfl ?_
    obtain ⟨r63, σ61, e62, h⟩ := bd_some h
    refine ev_invVi (As := []) (st := [.ref p59]) dX10_trial_48 cb_X10_allResources tp_490 tp_492 tp_15 kf10 rfl (by omega) g58 rfl rfl (Nat.le_of_ble_eq_true rfl) (x_X10_allResources e62) ?_
    obtain ⟨g64, h⟩ := gd_some h
    obtain ⟨r67, σ65, e66, h⟩ := bd_some h
    refine ev_invVv (As := [.int (r63)]) (st := []) dX10_trial_51 cb_X0_find tp_651 tp_652 tp_653 kf0 rfl (by omega) g64 rfl rfl (Nat.le_of_ble_eq_true rfl) (x_X0_find e66) ?_
    refine ev_iconst (v := 0) dX10_trial_54 (by decide) ?_
    refine ev_istore_n (ls' := [(2, .int (0)), (0, .ref a0), (1, .int (a1))]) dX10_trial_55 (by decide) rfl ?_
    refine ev_sub (ls' := [(0, .ref a0), (2, .int (0))]) [1, 0] rfl ?_
    exact e_X10_trial_56 16000 h
  · refine ev_icmp_ne (tgt := 95) dX10_trial_36 rfl c46 ?_
    refine ev_aload_nR 0 dX10_trial_95 rfl ?_
    obtain ⟨g47, h⟩ := gd_some h
    obtain ⟨p48, e49, h⟩ := op_some h
    refine ev_getPR dX10_trial_96 fl_X10_65 rfl g47 e49 ?_
    obtain ⟨g50, h⟩ := gd_some h
    obtain ⟨r53, σ51, e52, h⟩ := bd_some h
    refine ev_invVi (As := []) (st := []) dX10_trial_99 cb_X8_length tp_724 tp_725 tp_726 kf8 rfl (by omega) g50 rfl rfl (Nat.le_of_ble_eq_true rfl) (x_X8_length e52) ?_
    exact ev_retI .int dX10_trial_102 rfl rfl h
def s_X10_trial_12 (a0 : Nat) (a1 : Int32) (σ : St) : Option (Int32 × St) :=
 if a1 = 1 then (if isO σ 10 a0 = true then (bd (s_X10_hasGoal a0 σ) fun r72 σ70 =>
 if r72 = 0 then (some ((-3), σ70)) else (s_X10_trial_27 a0 a1 σ70)) else none) else (s_X10_trial_27 a0 a1 σ)
set_option maxHeartbeats 4000000 in
set_option maxRecDepth 100000 in
theorem e_X10_trial_12 {r : Int32} {σ' : St} : ∀ {a0 : Nat} {a1 : Int32} {σ : St}, s_X10_trial_12 a0 a1 σ = some (r, σ') → Ev M_X10_trial (392) 12 [(0, .ref a0), (1, .int (a1))] [] σ (some (.int r)) σ' := by
  intro a0 a1 σ h
  unfold s_X10_trial_12 at h
  refine ev_iload_n 1 dX10_trial_12 rfl ?_
  refine ev_iconst (v := 1) dX10_trial_13 (by decide) ?_
  rcases it_some h with ⟨c68, h⟩ | ⟨c68, h⟩
  · refine ev_icmp_ne_n 27 dX10_trial_14 rfl c68 ?_
    refine ev_aload_nR 0 dX10_trial_17 rfl ?_
    obtain ⟨g69, h⟩ := gd_some h
    obtain ⟨r72, σ70, e71, h⟩ := bd_some h
    refine ev_invVi (As := []) (st := []) dX10_trial_18 cb_X10_hasGoal tp_478 tp_480 tp_13 kf10 rfl (by omega) g69 rfl rfl (Nat.le_of_ble_eq_true rfl) (x_X10_hasGoal e71) ?_
    rcases it_some h with ⟨c73, h⟩ | ⟨c73, h⟩
    · refine ev_if_ne_n 27 dX10_trial_21 rfl c73 ?_
      refine ev_bipush (v := (-3)) dX10_trial_24 (by decide) ?_
      exact ev_retI .int dX10_trial_26 rfl rfl h
    · refine ev_if_ne (tgt := 27) dX10_trial_21 rfl c73 ?_
      refine ev_sub (ls' := [(0, .ref a0), (1, .int (a1))]) [0, 1] rfl ?_
      exact e_X10_trial_27  h
  · refine ev_icmp_ne (tgt := 27) dX10_trial_14 rfl c68 ?_
    refine ev_sub (ls' := [(0, .ref a0), (1, .int (a1))]) [0, 1] rfl ?_
    exact e_X10_trial_27  h
def s_X10_trial (a0 : Nat) (a1 : Int32) (σ : St) : Option (Int32 × St) :=
 if a1 = 0 then (s_X10_trial_12 a0 a1 σ) else (if a1 = 1 then (s_X10_trial_12 a0 a1 σ) else (some ((-2), σ)))
set_option maxHeartbeats 4000000 in
set_option maxRecDepth 100000 in
theorem x_X10_trial {a0 : Nat} {a1 : Int32} {σ : St} {r : Int32} {σ' : St} (h : s_X10_trial a0 a1 σ = some (r, σ')) : Ex M_X10_trial (392) [.ref a0, .int (a1)] σ (some (.int r)) σ' := by
  unfold s_X10_trial at h
  refine ex_of (by decide) rfl (Nat.le_of_ble_eq_true rfl) ?_
  show Ev _ _ 0 [(0, .ref a0), (1, .int (a1))] [] _ _ _
  refine ev_iload_n 1 dX10_trial_0 rfl ?_
  rcases it_some h with ⟨c74, h⟩ | ⟨c74, h⟩
  · refine ev_if_eq (tgt := 12) dX10_trial_1 rfl c74 ?_
    refine ev_sub (ls' := [(0, .ref a0), (1, .int (a1))]) [0, 1] rfl ?_
    exact e_X10_trial_12  h
  · refine ev_if_eq_n 12 dX10_trial_1 rfl c74 ?_
    refine ev_iload_n 1 dX10_trial_4 rfl ?_
    refine ev_iconst (v := 1) dX10_trial_5 (by decide) ?_
    rcases it_some h with ⟨c75, h⟩ | ⟨c75, h⟩
    · refine ev_icmp_eq (tgt := 12) dX10_trial_6 rfl c75 ?_
      refine ev_sub (ls' := [(0, .ref a0), (1, .int (a1))]) [0, 1] rfl ?_
      exact e_X10_trial_12  h
    · refine ev_icmp_eq_n 12 dX10_trial_6 rfl c75 ?_
      refine ev_bipush (v := (-2)) dX10_trial_9 (by decide) ?_
      exact ev_retI .int dX10_trial_11 rfl rfl h
def s_X10_check (a0 : Nat) (a1 : Int32) (σ : St) : Option (Int32 × St) :=
 if a1 < 0 then (some ((-2), σ)) else (if a1 ≤ 2 then (if isO σ 10 a0 = true then (bd (s_X10_hasGoal a0 σ) fun r6 σ4 =>
 if r6 = 0 then (some ((-3), σ4)) else (if isO σ4 10 a0 = true then (bd (s_X10_prepare a0 σ4) fun r11 σ9 =>
 if isO σ9 10 a0 = true then (op (sP σ9 a0 9) fun p13 =>
 bd (s_X10_allResources a0 σ9) fun r17 σ15 =>
 if isO σ15 2 p13 = true then (bd (s_X2_judge p13 r17 σ15) fun r21 σ19 =>
 if a1 = 0 then (if isO σ19 10 a0 = true then (op (sP σ19 a0 9) fun p39 =>
 if isO σ19 2 p39 = true then (bd (s_X2_verdict p39 σ19) fun r44 σ42 =>
 some (r44, σ42)) else none) else none) else (if a1 = 1 then (if isO σ19 10 a0 = true then (op (sP σ19 a0 9) fun p32 =>
 if isO σ19 2 p32 = true then (bd (s_X2_used p32 σ19) fun r37 σ35 =>
 some (r37, σ35)) else none) else none) else (if isO σ19 10 a0 = true then (op (sP σ19 a0 9) fun p25 =>
 if isO σ19 2 p25 = true then (bd (s_X2_deepest p25 σ19) fun r30 σ28 =>
 some (r30, σ28)) else none) else none))) else none) else none) else none)) else none) else (some ((-2), σ)))
set_option maxHeartbeats 4000000 in
set_option maxRecDepth 100000 in
theorem x_X10_check {a0 : Nat} {a1 : Int32} {σ : St} {r : Int32} {σ' : St} (h : s_X10_check a0 a1 σ = some (r, σ')) : Ex M_X10_check (392) [.ref a0, .int (a1)] σ (some (.int r)) σ' := by
  unfold s_X10_check at h
  refine ex_of (by decide) rfl (Nat.le_of_ble_eq_true rfl) ?_
  show Ev _ _ 0 [(0, .ref a0), (1, .int (a1))] [] _ _ _
  refine ev_iload_n 1 dX10_check_0 rfl ?_
  rcases it_some h with ⟨c1, h⟩ | ⟨c1, h⟩
  · refine ev_if_lt (tgt := 9) dX10_check_1 rfl c1 ?_
    refine ev_bipush (v := (-2)) dX10_check_9 (by decide) ?_
    exact ev_retI .int dX10_check_11 rfl rfl h
  · refine ev_if_lt_n 9 dX10_check_1 rfl c1 ?_
    refine ev_iload_n 1 dX10_check_4 rfl ?_
    refine ev_iconst (v := 2) dX10_check_5 (by decide) ?_
    rcases it_some h with ⟨c2, h⟩ | ⟨c2, h⟩
    · refine ev_icmp_le (tgt := 12) dX10_check_6 rfl c2 ?_
      refine ev_aload_nR 0 dX10_check_12 rfl ?_
      obtain ⟨g3, h⟩ := gd_some h
      obtain ⟨r6, σ4, e5, h⟩ := bd_some h
      refine ev_invVi (As := []) (st := []) dX10_check_13 cb_X10_hasGoal tp_478 tp_480 tp_13 kf10 rfl (by omega) g3 rfl rfl (Nat.le_of_ble_eq_true rfl) (x_X10_hasGoal e5) ?_
      rcases it_some h with ⟨c7, h⟩ | ⟨c7, h⟩
      · refine ev_if_ne_n 22 dX10_check_16 rfl c7 ?_
        refine ev_bipush (v := (-3)) dX10_check_19 (by decide) ?_
        exact ev_retI .int dX10_check_21 rfl rfl h
      · refine ev_if_ne (tgt := 22) dX10_check_16 rfl c7 ?_
        refine ev_aload_nR 0 dX10_check_22 rfl ?_
        obtain ⟨g8, h⟩ := gd_some h
        obtain ⟨r11, σ9, e10, h⟩ := bd_some h
        refine ev_invVv (As := []) (st := []) dX10_check_23 cb_X10_prepare tp_494 tp_496 tp_16 kf10 rfl (by omega) g8 rfl rfl (Nat.le_of_ble_eq_true rfl) (x_X10_prepare e10) ?_
        refine ev_aload_nR 0 dX10_check_26 rfl ?_
        obtain ⟨g12, h⟩ := gd_some h
        obtain ⟨p13, e14, h⟩ := op_some h
        refine ev_getPR dX10_check_27 fl_X10_74 rfl g12 e14 ?_
        refine ev_aload_nR 0 dX10_check_30 rfl ?_
        obtain ⟨r17, σ15, e16, h⟩ := bd_some h
        refine ev_invVi (As := []) (st := [.ref p13]) dX10_check_31 cb_X10_allResources tp_490 tp_492 tp_15 kf10 rfl (by omega) g12 rfl rfl (Nat.le_of_ble_eq_true rfl) (x_X10_allResources e16) ?_
        obtain ⟨g18, h⟩ := gd_some h
        obtain ⟨r21, σ19, e20, h⟩ := bd_some h
        refine ev_invVv (As := [.int (r17)]) (st := []) dX10_check_34 cb_X2_judge tp_732 tp_733 tp_734 kf2 rfl (by omega) g18 rfl rfl (Nat.le_of_ble_eq_true rfl) (x_X2_judge e20) ?_
        refine ev_iload_n 1 dX10_check_37 rfl ?_
        rcases it_some h with ⟨c22, h⟩ | ⟨c22, h⟩
        · refine ev_if_ne_n 49 dX10_check_38 rfl c22 ?_
          refine ev_aload_nR 0 dX10_check_41 rfl ?_
          obtain ⟨g38, h⟩ := gd_some h
          obtain ⟨p39, e40, h⟩ := op_some h
          refine ev_getPR dX10_check_42 fl_X10_74 rfl g38 e40 ?_
          obtain ⟨g41, h⟩ := gd_some h
          obtain ⟨r44, σ42, e43, h⟩ := bd_some h
          refine ev_invVi (As := []) (st := []) dX10_check_45 cb_X2_verdict tp_785 tp_786 tp_787 kf2 rfl (by omega) g41 rfl rfl (Nat.le_of_ble_eq_true rfl) (x_X2_verdict e43) ?_
          exact ev_retI .int dX10_check_48 rfl rfl h
        · refine ev_if_ne (tgt := 49) dX10_check_38 rfl c22 ?_
          refine ev_iload_n 1 dX10_check_49 rfl ?_
          refine ev_iconst (v := 1) dX10_check_50 (by decide) ?_
          rcases it_some h with ⟨c23, h⟩ | ⟨c23, h⟩
          · refine ev_icmp_ne_n 64 dX10_check_51 rfl c23 ?_
            refine ev_aload_nR 0 dX10_check_54 rfl ?_
            obtain ⟨g31, h⟩ := gd_some h
            obtain ⟨p32, e33, h⟩ := op_some h
            refine ev_getPR dX10_check_55 fl_X10_74 rfl g31 e33 ?_
            obtain ⟨g34, h⟩ := gd_some h
            obtain ⟨r37, σ35, e36, h⟩ := bd_some h
            refine ev_invVi (As := []) (st := []) dX10_check_58 cb_X2_used tp_789 tp_790 tp_791 kf2 rfl (by omega) g34 rfl rfl (Nat.le_of_ble_eq_true rfl) (x_X2_used e36) ?_
            refine ev_goto (tgt := 71) dX10_check_61 rfl ?_
            exact ev_retI .int dX10_check_71 rfl rfl h
          · refine ev_icmp_ne (tgt := 64) dX10_check_51 rfl c23 ?_
            refine ev_aload_nR 0 dX10_check_64 rfl ?_
            obtain ⟨g24, h⟩ := gd_some h
            obtain ⟨p25, e26, h⟩ := op_some h
            refine ev_getPR dX10_check_65 fl_X10_74 rfl g24 e26 ?_
            obtain ⟨g27, h⟩ := gd_some h
            obtain ⟨r30, σ28, e29, h⟩ := bd_some h
            refine ev_invVi (As := []) (st := []) dX10_check_68 cb_X2_deepest tp_793 tp_794 tp_795 kf2 rfl (by omega) g27 rfl rfl (Nat.le_of_ble_eq_true rfl) (x_X2_deepest e29) ?_
            exact ev_retI .int dX10_check_71 rfl rfl h
    · refine ev_icmp_le_n 12 dX10_check_6 rfl c2 ?_
      refine ev_bipush (v := (-2)) dX10_check_9 (by decide) ?_
      exact ev_retI .int dX10_check_11 rfl rfl h
def sb_X10_savedPlaces_4 (k4 : Nat → Int32 → Int32 → St → Option (Int32 × St)) (a0 : Nat) (a1 : Int32) (a2 : Int32) (σ : St) : Option (Int32 × St) :=
 if (2 : Int32) ≤ a2 then (some (a1, σ)) else (if isO σ 10 a0 = true then (op (sP σ a0 2) fun p3 =>
 if isO σ 17 p3 = true then (if inR a2 (alen σ p3) = true then (on ((sP σ p3 a2.toNatClampNeg)) (lt (a2 + 1 : Int32) fun v9 =>
 k4 a0 a1 v9 σ) fun w7 => lt (a1 ||| (1 <<< (a2 &&& 31)) : Int32) fun v11 =>
 lt (a2 + 1 : Int32) fun v13 =>
 k4 a0 v11 v13 σ) else none) else none) else none)
def s_X10_savedPlaces_4 (F : Nat) : Nat → Int32 → Int32 → St → Option (Int32 × St) := lp (fun _ _ _ _ => none) (sb_X10_savedPlaces_4 ) F
set_option maxHeartbeats 4000000 in
set_option maxRecDepth 100000 in
theorem e_X10_savedPlaces_4 {r : Int32} {σ' : St} (F : Nat) : ∀ {a0 : Nat} {a1 : Int32} {a2 : Int32} {σ : St}, s_X10_savedPlaces_4 F a0 a1 a2 σ = some (r, σ') → Ev M_X10_savedPlaces (1) 4 [(0, .ref a0), (1, .int (a1)), (2, .int (a2))] [] σ (some (.int r)) σ' := by
  induction F with
  | zero => intro a0 a1 a2 σ h; cases h
  | succ F ih =>
    intro a0 a1 a2 σ h
    change sb_X10_savedPlaces_4  (s_X10_savedPlaces_4 F) a0 a1 a2 σ = some (r, σ') at h
    unfold sb_X10_savedPlaces_4 at h
    have hk4 := @ih
    refine ev_iload_n 2 dX10_savedPlaces_4 rfl ?_
    refine ev_iconst (v := 2) dX10_savedPlaces_5 (by decide) ?_
    rcases it_some h with ⟨c1, h⟩ | ⟨c1, h⟩
    · refine ev_icmp_ge (tgt := 30) dX10_savedPlaces_6 rfl c1 ?_
      refine ev_iload_n 1 dX10_savedPlaces_30 rfl ?_
      exact ev_retI .int dX10_savedPlaces_31 rfl rfl h
    · refine ev_icmp_ge_n 30 dX10_savedPlaces_6 rfl c1 ?_
      refine ev_aload_nR 0 dX10_savedPlaces_9 rfl ?_
      obtain ⟨g2, h⟩ := gd_some h
      obtain ⟨p3, e4, h⟩ := op_some h
      refine ev_getPR dX10_savedPlaces_10 fl_X10_23 rfl g2 e4 ?_
      refine ev_iload_n 2 dX10_savedPlaces_13 rfl ?_
      obtain ⟨g5, h⟩ := gd_some h
      obtain ⟨g6, h⟩ := gd_some h
      refine ev_aald dX10_savedPlaces_14 (by decide) (isA_O g5) g6 rfl ?_
      rcases on_some h with ⟨e8, h⟩ | ⟨w7, e8, h⟩
      · rw [e8]
        refine ev_ifnull (tgt := 24) dX10_savedPlaces_15 rfl ?_
        obtain ⟨v9, e10, h⟩ := lt_some h
        refine ev_iinc (v := v9) (ls' := [(2, .int (v9)), (0, .ref a0), (1, .int (a1))]) 2 dX10_savedPlaces_24 rfl e10.symm (by decide) rfl ?_
        refine ev_goto (tgt := 4) dX10_savedPlaces_27 rfl ?_
        refine ev_sub (ls' := [(0, .ref a0), (1, .int (a1)), (2, .int (v9))]) [1, 2, 0] rfl ?_
        exact hk4 h
      · rw [e8]
        refine ev_ifnull_n dX10_savedPlaces_15 ?_
        refine ev_iload_n 1 dX10_savedPlaces_18 rfl ?_
        refine ev_iconst (v := 1) dX10_savedPlaces_19 (by decide) ?_
        refine ev_iload_n 2 dX10_savedPlaces_20 rfl ?_
        refine ev_ishl dX10_savedPlaces_21 ?_
        refine ev_ior dX10_savedPlaces_22 ?_
        obtain ⟨v11, e12, h⟩ := lt_some h
        refine ev_topI e12 ?_
        refine ev_istore_n (ls' := [(1, .int (v11)), (0, .ref a0), (2, .int (a2))]) dX10_savedPlaces_23 (by decide) rfl ?_
        obtain ⟨v13, e14, h⟩ := lt_some h
        refine ev_iinc (v := v13) (ls' := [(2, .int (v13)), (1, .int (v11)), (0, .ref a0)]) 2 dX10_savedPlaces_24 rfl e14.symm (by decide) rfl ?_
        refine ev_goto (tgt := 4) dX10_savedPlaces_27 rfl ?_
        refine ev_sub (ls' := [(0, .ref a0), (1, .int (v11)), (2, .int (v13))]) [2, 1, 0] rfl ?_
        exact hk4 h
def s_X10_savedPlaces (a0 : Nat) (σ : St) : Option (Int32 × St) :=
 s_X10_savedPlaces_4 16000 a0 0 0 σ
set_option maxHeartbeats 4000000 in
set_option maxRecDepth 100000 in
theorem x_X10_savedPlaces {a0 : Nat} {σ : St} {r : Int32} {σ' : St} (h : s_X10_savedPlaces a0 σ = some (r, σ')) : Ex M_X10_savedPlaces (1) [.ref a0] σ (some (.int r)) σ' := by
  unfold s_X10_savedPlaces at h
  refine ex_of (by decide) rfl (Nat.le_of_ble_eq_true rfl) ?_
  show Ev _ _ 0 [(0, .ref a0)] [] _ _ _
  refine ev_iconst (v := 0) dX10_savedPlaces_0 (by decide) ?_
  refine ev_istore_n (ls' := [(1, .int (0)), (0, .ref a0)]) dX10_savedPlaces_1 (by decide) rfl ?_
  refine ev_iconst (v := 0) dX10_savedPlaces_2 (by decide) ?_
  refine ev_istore_n (ls' := [(2, .int (0)), (1, .int (0)), (0, .ref a0)]) dX10_savedPlaces_3 (by decide) rfl ?_
  refine ev_sub (ls' := [(0, .ref a0), (1, .int (0)), (2, .int (0))]) [2, 1, 0] rfl ?_
  exact e_X10_savedPlaces_4 16000 h
def s_X10_count (a0 : Nat) (a1 : Int32) (σ : St) : Option (Int32 × St) :=
 if a1 = 0 then (if isO σ 10 a0 = true then (bd (s_X10_allResources a0 σ) fun r5 σ3 =>
 some (r5, σ3)) else none) else (if a1 = 1 then (if isO σ 10 a0 = true then (op (sP σ a0 1) fun p8 =>
 if isO σ 6 p8 = true then (bd (s_X6_present p8 6 4 σ) fun r13 σ11 =>
 some (r13, σ11)) else none) else none) else (if a1 = 2 then (if isO σ 10 a0 = true then (bd (s_X10_hasGoal a0 σ) fun r18 σ16 =>
 if r18 = 0 then (some (0, σ16)) else (some (1, σ16))) else none) else (if a1 = 3 then (if isO σ 10 a0 = true then (op (sP σ a0 1) fun p22 =>
 if isO σ 6 p22 = true then (bd (s_X6_nodes p22 σ) fun r27 σ25 =>
 some (r27, σ25)) else none) else none) else (if a1 = 4 then (if isO σ 10 a0 = true then (op (sP σ a0 1) fun p30 =>
 if isO σ 6 p30 = true then (bd (s_X6_loans p30 σ) fun r35 σ33 =>
 some (r35, σ33)) else none) else none) else (if a1 = 5 then (if isO σ 10 a0 = true then (op (sP σ a0 0) fun p38 =>
 if isO σ 7 p38 = true then (bd (s_X7_length p38 σ) fun r43 σ41 =>
 some (r43, σ41)) else none) else none) else (if a1 = 6 then (if isO σ 10 a0 = true then (op (sP σ a0 8) fun p46 =>
 if isO σ 8 p46 = true then (bd (s_X8_length p46 σ) fun r51 σ49 =>
 some (r51, σ49)) else none) else none) else (if a1 = 7 then (if isO σ 10 a0 = true then (bd (s_X10_savedPlaces a0 σ) fun r56 σ54 =>
 some (r56, σ54)) else none) else (some ((-2), σ)))))))))
set_option maxHeartbeats 4000000 in
set_option maxRecDepth 100000 in
theorem x_X10_count {a0 : Nat} {a1 : Int32} {σ : St} {r : Int32} {σ' : St} (h : s_X10_count a0 a1 σ = some (r, σ')) : Ex M_X10_count (4) [.ref a0, .int (a1)] σ (some (.int r)) σ' := by
  unfold s_X10_count at h
  refine ex_of (by decide) rfl (Nat.le_of_ble_eq_true rfl) ?_
  show Ev _ _ 0 [(0, .ref a0), (1, .int (a1))] [] _ _ _
  refine ev_iload_n 1 dX10_count_0 rfl ?_
  rcases it_some h with ⟨c1, h⟩ | ⟨c1, h⟩
  · refine ev_tableIn (off := 47) (tgt := 48) dX10_count_1 0 (by rw [c1]; decide) (by decide) rfl rfl ?_
    refine ev_aload_nR 0 dX10_count_48 rfl ?_
    obtain ⟨g2, h⟩ := gd_some h
    obtain ⟨r5, σ3, e4, h⟩ := bd_some h
    refine ev_invVi (As := []) (st := []) dX10_count_49 cb_X10_allResources tp_490 tp_492 tp_15 kf10 rfl (by omega) g2 rfl rfl (Nat.le_of_ble_eq_true rfl) (x_X10_allResources e4) ?_
    exact ev_retI .int dX10_count_52 rfl rfl h
  rcases it_some h with ⟨c6, h⟩ | ⟨c6, h⟩
  · refine ev_tableIn (off := 52) (tgt := 53) dX10_count_1 1 (by rw [c6]; decide) (by decide) rfl rfl ?_
    refine ev_aload_nR 0 dX10_count_53 rfl ?_
    obtain ⟨g7, h⟩ := gd_some h
    obtain ⟨p8, e9, h⟩ := op_some h
    refine ev_getPR dX10_count_54 fl_X10_19 rfl g7 e9 ?_
    refine ev_bipush (v := 6) dX10_count_57 (by decide) ?_
    refine ev_iconst (v := 4) dX10_count_59 (by decide) ?_
    obtain ⟨g10, h⟩ := gd_some h
    obtain ⟨r13, σ11, e12, h⟩ := bd_some h
    refine ev_invVi (As := [.int (6), .int (4)]) (st := []) dX10_count_60 cb_X6_present tp_464 tp_465 tp_466 kf6 rfl (by omega) g10 rfl rfl (Nat.le_of_ble_eq_true rfl) (x_X6_present e12) ?_
    exact ev_retI .int dX10_count_63 rfl rfl h
  rcases it_some h with ⟨c14, h⟩ | ⟨c14, h⟩
  · refine ev_tableIn (off := 63) (tgt := 64) dX10_count_1 2 (by rw [c14]; decide) (by decide) rfl rfl ?_
    refine ev_aload_nR 0 dX10_count_64 rfl ?_
    obtain ⟨g15, h⟩ := gd_some h
    obtain ⟨r18, σ16, e17, h⟩ := bd_some h
    refine ev_invVi (As := []) (st := []) dX10_count_65 cb_X10_hasGoal tp_478 tp_480 tp_13 kf10 rfl (by omega) g15 rfl rfl (Nat.le_of_ble_eq_true rfl) (x_X10_hasGoal e17) ?_
    rcases it_some h with ⟨c19, h⟩ | ⟨c19, h⟩
    · refine ev_if_eq (tgt := 75) dX10_count_68 rfl c19 ?_
      refine ev_iconst (v := 0) dX10_count_75 (by decide) ?_
      exact ev_retI .int dX10_count_76 rfl rfl h
    · refine ev_if_eq_n 75 dX10_count_68 rfl c19 ?_
      refine ev_iconst (v := 1) dX10_count_71 (by decide) ?_
      refine ev_goto (tgt := 76) dX10_count_72 rfl ?_
      exact ev_retI .int dX10_count_76 rfl rfl h
  rcases it_some h with ⟨c20, h⟩ | ⟨c20, h⟩
  · refine ev_tableIn (off := 76) (tgt := 77) dX10_count_1 3 (by rw [c20]; decide) (by decide) rfl rfl ?_
    refine ev_aload_nR 0 dX10_count_77 rfl ?_
    obtain ⟨g21, h⟩ := gd_some h
    obtain ⟨p22, e23, h⟩ := op_some h
    refine ev_getPR dX10_count_78 fl_X10_19 rfl g21 e23 ?_
    obtain ⟨g24, h⟩ := gd_some h
    obtain ⟨r27, σ25, e26, h⟩ := bd_some h
    refine ev_invVi (As := []) (st := []) dX10_count_81 cb_X6_nodes tp_801 tp_439 tp_440 kf6 rfl (by omega) g24 rfl rfl (Nat.le_of_ble_eq_true rfl) (x_X6_nodes e26) ?_
    exact ev_retI .int dX10_count_84 rfl rfl h
  rcases it_some h with ⟨c28, h⟩ | ⟨c28, h⟩
  · refine ev_tableIn (off := 84) (tgt := 85) dX10_count_1 4 (by rw [c28]; decide) (by decide) rfl rfl ?_
    refine ev_aload_nR 0 dX10_count_85 rfl ?_
    obtain ⟨g29, h⟩ := gd_some h
    obtain ⟨p30, e31, h⟩ := op_some h
    refine ev_getPR dX10_count_86 fl_X10_19 rfl g29 e31 ?_
    obtain ⟨g32, h⟩ := gd_some h
    obtain ⟨r35, σ33, e34, h⟩ := bd_some h
    refine ev_invVi (As := []) (st := []) dX10_count_89 cb_X6_loans tp_802 tp_443 tp_444 kf6 rfl (by omega) g32 rfl rfl (Nat.le_of_ble_eq_true rfl) (x_X6_loans e34) ?_
    exact ev_retI .int dX10_count_92 rfl rfl h
  rcases it_some h with ⟨c36, h⟩ | ⟨c36, h⟩
  · refine ev_tableIn (off := 92) (tgt := 93) dX10_count_1 5 (by rw [c36]; decide) (by decide) rfl rfl ?_
    refine ev_aload_nR 0 dX10_count_93 rfl ?_
    obtain ⟨g37, h⟩ := gd_some h
    obtain ⟨p38, e39, h⟩ := op_some h
    refine ev_getPR dX10_count_94 fl_X10_12 rfl g37 e39 ?_
    obtain ⟨g40, h⟩ := gd_some h
    obtain ⟨r43, σ41, e42, h⟩ := bd_some h
    refine ev_invVi (As := []) (st := []) dX10_count_97 cb_X7_length tp_279 tp_280 tp_281 kf7 rfl (by omega) g40 rfl rfl (Nat.le_of_ble_eq_true rfl) (x_X7_length e42) ?_
    exact ev_retI .int dX10_count_100 rfl rfl h
  rcases it_some h with ⟨c44, h⟩ | ⟨c44, h⟩
  · refine ev_tableIn (off := 100) (tgt := 101) dX10_count_1 6 (by rw [c44]; decide) (by decide) rfl rfl ?_
    refine ev_aload_nR 0 dX10_count_101 rfl ?_
    obtain ⟨g45, h⟩ := gd_some h
    obtain ⟨p46, e47, h⟩ := op_some h
    refine ev_getPR dX10_count_102 fl_X10_65 rfl g45 e47 ?_
    obtain ⟨g48, h⟩ := gd_some h
    obtain ⟨r51, σ49, e50, h⟩ := bd_some h
    refine ev_invVi (As := []) (st := []) dX10_count_105 cb_X8_length tp_724 tp_725 tp_726 kf8 rfl (by omega) g48 rfl rfl (Nat.le_of_ble_eq_true rfl) (x_X8_length e50) ?_
    exact ev_retI .int dX10_count_108 rfl rfl h
  rcases it_some h with ⟨c52, h⟩ | ⟨c52, h⟩
  · refine ev_tableIn (off := 108) (tgt := 109) dX10_count_1 7 (by rw [c52]; decide) (by decide) rfl rfl ?_
    refine ev_aload_nR 0 dX10_count_109 rfl ?_
    obtain ⟨g53, h⟩ := gd_some h
    obtain ⟨r56, σ54, e55, h⟩ := bd_some h
    refine ev_invVi (As := []) (st := []) dX10_count_110 cb_X10_savedPlaces tp_803 tp_805 tp_47 kf10 rfl (by omega) g53 rfl rfl (Nat.le_of_ble_eq_true rfl) (x_X10_savedPlaces e55) ?_
    exact ev_retI .int dX10_count_113 rfl rfl h
  have hx : a1.toInt < 0 ∨ 7 < a1.toInt := tab_out a1 0 7 (by decide) (fun k h1 h2 => by
      rcases (show k = 0 ∨ k = 1 ∨ k = 2 ∨ k = 3 ∨ k = 4 ∨ k = 5 ∨ k = 6 ∨ k = 7 by omega) with rfl | rfl | rfl | rfl | rfl | rfl | rfl | rfl
      · exact ne_toInt c1
      · exact ne_toInt c6
      · exact ne_toInt c14
      · exact ne_toInt c20
      · exact ne_toInt c28
      · exact ne_toInt c36
      · exact ne_toInt c44
      · exact ne_toInt c52)
  refine ev_tableOut (tgt := 114) dX10_count_1 hx rfl ?_
  refine ev_bipush (v := (-2)) dX10_count_114 (by decide) ?_
  exact ev_retI .int dX10_count_116 rfl rfl h
def s_L_cell (a0 : Nat) (a1 : Int32) (a2 : Int32) (σ : St) : Option (Int32 × St) :=
 if isA σ 13 a0 = true then (if (nI (alen σ a0)) = 0 then (if ¬ (a2 = 0) then (some (((a1 * 37) + 5) - ((a1 * 37) + 5) / a2 * a2, σ)) else none) else (if ¬ (nI (alen σ a0) = 0) then (if inR (a1 - a1 / (nI (alen σ a0)) * (nI (alen σ a0))) (alen σ a0) = true then (if ¬ (a2 = 0) then (some ((((sI σ a0 ((a1 - a1 / (nI (alen σ a0)) * (nI (alen σ a0))).toNatClampNeg)) >>> ((a1 - a1 / 7 * 7) &&& 31)) &&& 4194303) - (((sI σ a0 ((a1 - a1 / (nI (alen σ a0)) * (nI (alen σ a0))).toNatClampNeg)) >>> ((a1 - a1 / 7 * 7) &&& 31)) &&& 4194303) / a2 * a2, σ)) else none) else none) else none)) else none
set_option maxHeartbeats 4000000 in
set_option maxRecDepth 100000 in
theorem x_L_cell {a0 : Nat} {a1 : Int32} {a2 : Int32} {σ : St} {r : Int32} {σ' : St} (h : s_L_cell a0 a1 a2 σ = some (r, σ')) : Ex M_L_cell (1) [.ref a0, .int (a1), .int (a2)] σ (some (.int r)) σ' := by
  unfold s_L_cell at h
  refine ex_of (by decide) rfl (Nat.le_of_ble_eq_true rfl) ?_
  show Ev _ _ 0 [(0, .ref a0), (1, .int (a1)), (2, .int (a2))] [] _ _ _
  refine ev_aload_nR 0 dL_cell_0 rfl ?_
  obtain ⟨g1, h⟩ := gd_some h
  refine ev_alen dL_cell_1 g1 (by decide) ?_
  rcases it_some h with ⟨c2, h⟩ | ⟨c2, h⟩
  · refine ev_if_ne_n 14 dL_cell_2 rfl c2 ?_
    refine ev_iload_n 1 dL_cell_5 rfl ?_
    refine ev_bipush (v := 37) dL_cell_6 (by decide) ?_
    refine ev_imul dL_cell_8 ?_
    refine ev_iconst (v := 5) dL_cell_9 (by decide) ?_
    refine ev_iadd dL_cell_10 ?_
    refine ev_goto (tgt := 28) dL_cell_11 rfl ?_
    refine ev_iload_n 2 dL_cell_28 rfl ?_
    obtain ⟨g6, h⟩ := gd_some h
    refine ev_irem dL_cell_29 g6 ?_
    exact ev_retI .int dL_cell_30 rfl rfl h
  · refine ev_if_ne (tgt := 14) dL_cell_2 rfl c2 ?_
    refine ev_aload_nR 0 dL_cell_14 rfl ?_
    refine ev_iload_n 1 dL_cell_15 rfl ?_
    refine ev_aload_nR 0 dL_cell_16 rfl ?_
    refine ev_alen dL_cell_17 g1 (by decide) ?_
    obtain ⟨g3, h⟩ := gd_some h
    refine ev_irem dL_cell_18 g3 ?_
    obtain ⟨g4, h⟩ := gd_some h
    refine ev_iald dL_cell_19 g1 g4 ?_
    refine ev_iload_n 1 dL_cell_20 rfl ?_
    refine ev_bipush (v := 7) dL_cell_21 (by decide) ?_
    refine ev_irem dL_cell_23 (by decide) ?_
    refine ev_ishr dL_cell_24 ?_
    refine ev_ldc dL_cell_25 tp_810 ?_
    refine ev_iand dL_cell_27 ?_
    refine ev_iload_n 2 dL_cell_28 rfl ?_
    obtain ⟨g5, h⟩ := gd_some h
    refine ev_irem dL_cell_29 g5 ?_
    exact ev_retI .int dL_cell_30 rfl rfl h
def s_L_atom (a0 : Nat) (a1 : Int32) (σ : St) : Option (Int32 × St) :=
 bd (s_L_cell a0 a1 4 σ) fun r3 σ1 =>
 some (97 + r3, σ1)
set_option maxHeartbeats 4000000 in
set_option maxRecDepth 100000 in
theorem x_L_atom {a0 : Nat} {a1 : Int32} {σ : St} {r : Int32} {σ' : St} (h : s_L_atom a0 a1 σ = some (r, σ')) : Ex M_L_atom (2) [.ref a0, .int (a1)] σ (some (.int r)) σ' := by
  unfold s_L_atom at h
  refine ex_of (by decide) rfl (Nat.le_of_ble_eq_true rfl) ?_
  show Ev _ _ 0 [(0, .ref a0), (1, .int (a1))] [] _ _ _
  refine ev_bipush (v := 97) dL_atom_0 (by decide) ?_
  refine ev_aload_nR 0 dL_atom_2 rfl ?_
  refine ev_iload_n 1 dL_atom_3 rfl ?_
  refine ev_iconst (v := 4) dL_atom_4 (by decide) ?_
  obtain ⟨r3, σ1, e2, h⟩ := bd_some h
  refine ev_invSi (As := [.ref a0, .int (a1), .int (4)]) (st := [.int (97)]) dL_atom_5 cb_L_cell tp_807 tp_808 (by omega) rfl rfl (Nat.le_of_ble_eq_true rfl) (x_L_cell e2) ?_
  refine ev_iadd dL_atom_8 ?_
  exact ev_retI .int dL_atom_9 rfl rfl h
def s_L_goal_281  (σ : St) : Option (Int32 × St) :=
 some (0, σ)
set_option maxHeartbeats 4000000 in
set_option maxRecDepth 100000 in
theorem e_L_goal_281 {r : Int32} {σ' : St} : ∀ {σ : St}, s_L_goal_281  σ = some (r, σ') → Ev M_L_goal (3) 281 [] [] σ (some (.int r)) σ' := by
  intro  σ h
  unfold s_L_goal_281 at h
  refine ev_iconst (v := 0) dL_goal_281 (by decide) ?_
  refine ev_istore (ls' := [(6, .int (0))]) dL_goal_282 (by decide) rfl ?_
  refine ev_goto (tgt := 405) dL_goal_284 rfl ?_
  refine ev_iload 0 dL_goal_405 rfl ?_
  exact ev_retI .boolean dL_goal_407 rfl rfl h
def s_L_goal_220  (σ : St) : Option (Int32 × St) :=
 some (0, σ)
set_option maxHeartbeats 4000000 in
set_option maxRecDepth 100000 in
theorem e_L_goal_220 {r : Int32} {σ' : St} : ∀ {σ : St}, s_L_goal_220  σ = some (r, σ') → Ev M_L_goal (3) 220 [] [] σ (some (.int r)) σ' := by
  intro  σ h
  unfold s_L_goal_220 at h
  refine ev_iconst (v := 0) dL_goal_220 (by decide) ?_
  refine ev_istore (ls' := [(6, .int (0))]) dL_goal_221 (by decide) rfl ?_
  refine ev_goto (tgt := 405) dL_goal_223 rfl ?_
  refine ev_iload 0 dL_goal_405 rfl ?_
  exact ev_retI .boolean dL_goal_407 rfl rfl h
def s_L_goal_159  (σ : St) : Option (Int32 × St) :=
 some (0, σ)
set_option maxHeartbeats 4000000 in
set_option maxRecDepth 100000 in
theorem e_L_goal_159 {r : Int32} {σ' : St} : ∀ {σ : St}, s_L_goal_159  σ = some (r, σ') → Ev M_L_goal (3) 159 [] [] σ (some (.int r)) σ' := by
  intro  σ h
  unfold s_L_goal_159 at h
  refine ev_iconst (v := 0) dL_goal_159 (by decide) ?_
  refine ev_istore (ls' := [(6, .int (0))]) dL_goal_160 (by decide) rfl ?_
  refine ev_goto (tgt := 405) dL_goal_162 rfl ?_
  refine ev_iload 0 dL_goal_405 rfl ?_
  exact ev_retI .boolean dL_goal_407 rfl rfl h
def s_L_goal_125  (σ : St) : Option (Int32 × St) :=
 some (0, σ)
set_option maxHeartbeats 4000000 in
set_option maxRecDepth 100000 in
theorem e_L_goal_125 {r : Int32} {σ' : St} : ∀ {σ : St}, s_L_goal_125  σ = some (r, σ') → Ev M_L_goal (3) 125 [] [] σ (some (.int r)) σ' := by
  intro  σ h
  unfold s_L_goal_125 at h
  refine ev_iconst (v := 0) dL_goal_125 (by decide) ?_
  refine ev_istore (ls' := [(6, .int (0))]) dL_goal_126 (by decide) rfl ?_
  refine ev_goto (tgt := 405) dL_goal_128 rfl ?_
  refine ev_iload 0 dL_goal_405 rfl ?_
  exact ev_retI .boolean dL_goal_407 rfl rfl h
def s_L_goal_97 (a0 : Nat) (a5 : Int32) (t0 : Nat) (t1 : Int32) (σ : St) : Option (Int32 × St) :=
 if isO σ 10 t0 = true then (bd (s_X10_say t0 t1 σ) fun r4 σ2 =>
 if r4 ≤ 0 then (s_L_goal_125 σ2) else (if isO σ2 10 a0 = true then (bd (s_X10_say a0 a5 σ2) fun r9 σ7 =>
 if r9 ≤ 0 then (s_L_goal_125 σ7) else (if isO σ7 10 a0 = true then (bd (s_X10_say a0 41 σ7) fun r14 σ12 =>
 if r14 ≤ 0 then (s_L_goal_125 σ12) else (some (1, σ12))) else none)) else none)) else none
set_option maxHeartbeats 4000000 in
set_option maxRecDepth 100000 in
theorem e_L_goal_97 {r : Int32} {σ' : St} : ∀ {a0 : Nat} {a5 : Int32} {t0 : Nat} {t1 : Int32} {σ : St}, s_L_goal_97 a0 a5 t0 t1 σ = some (r, σ') → Ev M_L_goal (3) 97 [(0, .ref a0), (5, .int (a5))] [.int (t1), .ref t0] σ (some (.int r)) σ' := by
  intro a0 a5 t0 t1 σ h
  unfold s_L_goal_97 at h
  obtain ⟨g1, h⟩ := gd_some h
  obtain ⟨r4, σ2, e3, h⟩ := bd_some h
  refine ev_invVi (As := [.int (t1)]) (st := []) dL_goal_97 cb_X10_say tp_817 tp_818 tp_819 kf10 rfl (by omega) g1 rfl rfl (Nat.le_of_ble_eq_true rfl) (x_X10_say e3) ?_
  rcases it_some h with ⟨c5, h⟩ | ⟨c5, h⟩
  · refine ev_if_le (tgt := 125) dL_goal_100 rfl c5 ?_
    refine ev_sub (ls' := []) [] rfl ?_
    exact e_L_goal_125  h
  · refine ev_if_le_n 125 dL_goal_100 rfl c5 ?_
    refine ev_aload_nR 0 dL_goal_103 rfl ?_
    refine ev_iload 1 dL_goal_104 rfl ?_
    obtain ⟨g6, h⟩ := gd_some h
    obtain ⟨r9, σ7, e8, h⟩ := bd_some h
    refine ev_invVi (As := [.int (a5)]) (st := []) dL_goal_106 cb_X10_say tp_817 tp_818 tp_819 kf10 rfl (by omega) g6 rfl rfl (Nat.le_of_ble_eq_true rfl) (x_X10_say e8) ?_
    rcases it_some h with ⟨c10, h⟩ | ⟨c10, h⟩
    · refine ev_if_le (tgt := 125) dL_goal_109 rfl c10 ?_
      refine ev_sub (ls' := []) [] rfl ?_
      exact e_L_goal_125  h
    · refine ev_if_le_n 125 dL_goal_109 rfl c10 ?_
      refine ev_aload_nR 0 dL_goal_112 rfl ?_
      refine ev_bipush (v := 41) dL_goal_113 (by decide) ?_
      obtain ⟨g11, h⟩ := gd_some h
      obtain ⟨r14, σ12, e13, h⟩ := bd_some h
      refine ev_invVi (As := [.int (41)]) (st := []) dL_goal_115 cb_X10_say tp_817 tp_818 tp_819 kf10 rfl (by omega) g11 rfl rfl (Nat.le_of_ble_eq_true rfl) (x_X10_say e13) ?_
      rcases it_some h with ⟨c15, h⟩ | ⟨c15, h⟩
      · refine ev_if_le (tgt := 125) dL_goal_118 rfl c15 ?_
        refine ev_sub (ls' := []) [] rfl ?_
        exact e_L_goal_125  h
      · refine ev_if_le_n 125 dL_goal_118 rfl c15 ?_
        refine ev_iconst (v := 1) dL_goal_121 (by decide) ?_
        refine ev_goto (tgt := 126) dL_goal_122 rfl ?_
        refine ev_istore (ls' := [(6, .int (1)), (0, .ref a0), (5, .int (a5))]) dL_goal_126 (by decide) rfl ?_
        refine ev_goto (tgt := 405) dL_goal_128 rfl ?_
        refine ev_iload 0 dL_goal_405 rfl ?_
        exact ev_retI .boolean dL_goal_407 rfl rfl h
def s_L_goal (a0 : Nat) (a1 : Nat) (a2 : Int32) (σ : St) : Option (Int32 × St) :=
 bd (s_L_cell a1 a2 13 σ) fun r18 σ16 =>
 bd (s_L_atom a1 (a2 + 1) σ16) fun r21 σ19 =>
 bd (s_L_atom a1 (a2 + 2) σ19) fun r24 σ22 =>
 if (5 : Int32) ≤ r18 then (if (8 : Int32) ≤ r18 then (if r18 = 8 then (if isO σ22 10 a0 = true then (bd (s_X10_say a0 33 σ22) fun r137 σ135 =>
 if r137 ≤ 0 then (s_L_goal_159 σ135) else (if isO σ135 10 a0 = true then (bd (s_X10_say a0 r21 σ135) fun r142 σ140 =>
 if r142 ≤ 0 then (s_L_goal_159 σ140) else (some (1, σ140))) else none)) else none) else (if r18 = 9 then (if isO σ22 10 a0 = true then (bd (s_X10_say a0 40 σ22) fun r112 σ110 =>
 if r112 ≤ 0 then (s_L_goal_220 σ110) else (if isO σ110 10 a0 = true then (bd (s_X10_say a0 r21 σ110) fun r117 σ115 =>
 if r117 ≤ 0 then (s_L_goal_220 σ115) else (if isO σ115 10 a0 = true then (bd (s_X10_say a0 42 σ115) fun r122 σ120 =>
 if r122 ≤ 0 then (s_L_goal_220 σ120) else (if isO σ120 10 a0 = true then (bd (s_X10_say a0 84 σ120) fun r127 σ125 =>
 if r127 ≤ 0 then (s_L_goal_220 σ125) else (if isO σ125 10 a0 = true then (bd (s_X10_say a0 41 σ125) fun r132 σ130 =>
 if r132 ≤ 0 then (s_L_goal_220 σ130) else (some (1, σ130))) else none)) else none)) else none)) else none)) else none) else (if r18 = 10 then (if isO σ22 10 a0 = true then (bd (s_X10_say a0 40 σ22) fun r87 σ85 =>
 if r87 ≤ 0 then (s_L_goal_281 σ85) else (if isO σ85 10 a0 = true then (bd (s_X10_say a0 49 σ85) fun r92 σ90 =>
 if r92 ≤ 0 then (s_L_goal_281 σ90) else (if isO σ90 10 a0 = true then (bd (s_X10_say a0 38 σ90) fun r97 σ95 =>
 if r97 ≤ 0 then (s_L_goal_281 σ95) else (if isO σ95 10 a0 = true then (bd (s_X10_say a0 r21 σ95) fun r102 σ100 =>
 if r102 ≤ 0 then (s_L_goal_281 σ100) else (if isO σ100 10 a0 = true then (bd (s_X10_say a0 41 σ100) fun r107 σ105 =>
 if r107 ≤ 0 then (s_L_goal_281 σ105) else (some (1, σ105))) else none)) else none)) else none)) else none)) else none) else (if r18 = 11 then (if isO σ22 10 a0 = true then (bd (s_X10_say a0 49 σ22) fun r82 σ80 =>
 if r82 ≤ 0 then (some (0, σ80)) else (some (1, σ80))) else none) else (if isO σ22 10 a0 = true then (bd (s_X10_say a0 40 σ22) fun r34 σ32 =>
 if r34 ≤ 0 then (some (0, σ32)) else (if isO σ32 10 a0 = true then (bd (s_X10_say a0 40 σ32) fun r39 σ37 =>
 if r39 ≤ 0 then (some (0, σ37)) else (if isO σ37 10 a0 = true then (bd (s_X10_say a0 r21 σ37) fun r44 σ42 =>
 if r44 ≤ 0 then (some (0, σ42)) else (if isO σ42 10 a0 = true then (bd (s_X10_say a0 42 σ42) fun r49 σ47 =>
 if r49 ≤ 0 then (some (0, σ47)) else (if isO σ47 10 a0 = true then (bd (s_X10_say a0 r24 σ47) fun r54 σ52 =>
 if r54 ≤ 0 then (some (0, σ52)) else (if isO σ52 10 a0 = true then (bd (s_X10_say a0 41 σ52) fun r59 σ57 =>
 if r59 ≤ 0 then (some (0, σ57)) else (if isO σ57 10 a0 = true then (bd (s_X10_say a0 42 σ57) fun r64 σ62 =>
 if r64 ≤ 0 then (some (0, σ62)) else (bd (s_L_atom a1 (a2 + 3) σ62) fun r68 σ66 =>
 if isO σ66 10 a0 = true then (bd (s_X10_say a0 r68 σ66) fun r72 σ70 =>
 if r72 ≤ 0 then (some (0, σ70)) else (if isO σ70 10 a0 = true then (bd (s_X10_say a0 41 σ70) fun r77 σ75 =>
 if r77 ≤ 0 then (some (0, σ75)) else (some (1, σ75))) else none)) else none)) else none)) else none)) else none)) else none)) else none)) else none)) else none))))) else (if isO σ22 10 a0 = true then (bd (s_X10_say a0 40 σ22) fun r147 σ145 =>
 if r147 ≤ 0 then (s_L_goal_125 σ145) else (if isO σ145 10 a0 = true then (bd (s_X10_say a0 r21 σ145) fun r152 σ150 =>
 if r152 ≤ 0 then (s_L_goal_125 σ150) else (if r18 = 5 then (s_L_goal_97 a0 r24 a0 42 σ150) else (if r18 = 6 then (s_L_goal_97 a0 r24 a0 38 σ150) else (s_L_goal_97 a0 r24 a0 43 σ150)))) else none)) else none)) else (if isO σ22 10 a0 = true then (bd (s_X10_say a0 r21 σ22) fun r159 σ157 =>
 if r159 ≤ 0 then (some (0, σ157)) else (some (1, σ157))) else none)
set_option maxHeartbeats 4000000 in
set_option maxRecDepth 100000 in
theorem x_L_goal {a0 : Nat} {a1 : Nat} {a2 : Int32} {σ : St} {r : Int32} {σ' : St} (h : s_L_goal a0 a1 a2 σ = some (r, σ')) : Ex M_L_goal (3) [.ref a0, .ref a1, .int (a2)] σ (some (.int r)) σ' := by
  unfold s_L_goal at h
  refine ex_of (by decide) rfl (Nat.le_of_ble_eq_true rfl) ?_
  show Ev _ _ 0 [(0, .ref a0), (1, .ref a1), (2, .int (a2))] [] _ _ _
  refine ev_aload_nR 1 dL_goal_0 rfl ?_
  refine ev_iload_n 2 dL_goal_1 rfl ?_
  refine ev_bipush (v := 13) dL_goal_2 (by decide) ?_
  obtain ⟨r18, σ16, e17, h⟩ := bd_some h
  refine ev_invSi (As := [.ref a1, .int (a2), .int (13)]) (st := []) dL_goal_4 cb_L_cell tp_807 tp_808 (by omega) rfl rfl (Nat.le_of_ble_eq_true rfl) (x_L_cell e17) ?_
  refine ev_istore_n (ls' := [(3, .int (r18)), (0, .ref a0), (1, .ref a1), (2, .int (a2))]) dL_goal_7 (by decide) rfl ?_
  refine ev_aload_nR 2 dL_goal_8 rfl ?_
  refine ev_iload_n 3 dL_goal_9 rfl ?_
  refine ev_iconst (v := 1) dL_goal_10 (by decide) ?_
  refine ev_iadd dL_goal_11 ?_
  obtain ⟨r21, σ19, e20, h⟩ := bd_some h
  refine ev_invSi (As := [.ref a1, .int (a2 + 1)]) (st := []) dL_goal_12 cb_L_atom tp_814 tp_815 (by omega) rfl rfl (Nat.le_of_ble_eq_true rfl) (x_L_atom e20) ?_
  refine ev_istore (ls' := [(4, .int (r21)), (3, .int (r18)), (0, .ref a0), (1, .ref a1), (2, .int (a2))]) dL_goal_15 (by decide) rfl ?_
  refine ev_aload_nR 3 dL_goal_17 rfl ?_
  refine ev_iload_n 4 dL_goal_18 rfl ?_
  refine ev_iconst (v := 2) dL_goal_19 (by decide) ?_
  refine ev_iadd dL_goal_20 ?_
  obtain ⟨r24, σ22, e23, h⟩ := bd_some h
  refine ev_invSi (As := [.ref a1, .int (a2 + 2)]) (st := []) dL_goal_21 cb_L_atom tp_814 tp_815 (by omega) rfl rfl (Nat.le_of_ble_eq_true rfl) (x_L_atom e23) ?_
  refine ev_istore (ls' := [(5, .int (r24)), (4, .int (r21)), (3, .int (r18)), (0, .ref a0), (1, .ref a1), (2, .int (a2))]) dL_goal_24 (by decide) rfl ?_
  refine ev_iconst (v := 1) dL_goal_26 (by decide) ?_
  refine ev_istore (ls' := [(6, .int (1)), (5, .int (r24)), (4, .int (r21)), (3, .int (r18)), (0, .ref a0), (1, .ref a1), (2, .int (a2))]) dL_goal_27 (by decide) rfl ?_
  refine ev_iload_n 3 dL_goal_29 rfl ?_
  refine ev_iconst (v := 5) dL_goal_30 (by decide) ?_
  rcases it_some h with ⟨c25, h⟩ | ⟨c25, h⟩
  · refine ev_icmp_ge (tgt := 49) dL_goal_31 rfl c25 ?_
    refine ev_iload_n 3 dL_goal_49 rfl ?_
    refine ev_bipush (v := 8) dL_goal_50 (by decide) ?_
    rcases it_some h with ⟨c26, h⟩ | ⟨c26, h⟩
    · refine ev_icmp_ge (tgt := 131) dL_goal_52 rfl c26 ?_
      refine ev_iload_n 3 dL_goal_131 rfl ?_
      refine ev_bipush (v := 8) dL_goal_132 (by decide) ?_
      rcases it_some h with ⟨c27, h⟩ | ⟨c27, h⟩
      · refine ev_icmp_ne_n 165 dL_goal_134 rfl c27 ?_
        refine ev_aload_nR 4 dL_goal_137 rfl ?_
        refine ev_bipush (v := 33) dL_goal_138 (by decide) ?_
        obtain ⟨g134, h⟩ := gd_some h
        obtain ⟨r137, σ135, e136, h⟩ := bd_some h
        refine ev_invVi (As := [.int (33)]) (st := []) dL_goal_140 cb_X10_say tp_817 tp_818 tp_819 kf10 rfl (by omega) g134 rfl rfl (Nat.le_of_ble_eq_true rfl) (x_X10_say e136) ?_
        rcases it_some h with ⟨c138, h⟩ | ⟨c138, h⟩
        · refine ev_if_le (tgt := 159) dL_goal_143 rfl c138 ?_
          refine ev_sub (ls' := []) [] rfl ?_
          exact e_L_goal_159  h
        · refine ev_if_le_n 159 dL_goal_143 rfl c138 ?_
          refine ev_aload_nR 4 dL_goal_146 rfl ?_
          refine ev_iload 2 dL_goal_147 rfl ?_
          obtain ⟨g139, h⟩ := gd_some h
          obtain ⟨r142, σ140, e141, h⟩ := bd_some h
          refine ev_invVi (As := [.int (r21)]) (st := []) dL_goal_149 cb_X10_say tp_817 tp_818 tp_819 kf10 rfl (by omega) g139 rfl rfl (Nat.le_of_ble_eq_true rfl) (x_X10_say e141) ?_
          rcases it_some h with ⟨c143, h⟩ | ⟨c143, h⟩
          · refine ev_if_le (tgt := 159) dL_goal_152 rfl c143 ?_
            refine ev_sub (ls' := []) [] rfl ?_
            exact e_L_goal_159  h
          · refine ev_if_le_n 159 dL_goal_152 rfl c143 ?_
            refine ev_iconst (v := 1) dL_goal_155 (by decide) ?_
            refine ev_goto (tgt := 160) dL_goal_156 rfl ?_
            refine ev_istore (ls' := [(6, .int (1)), (5, .int (r24)), (4, .int (r21)), (3, .int (r18)), (0, .ref a0), (1, .ref a1), (2, .int (a2))]) dL_goal_160 (by decide) rfl ?_
            refine ev_goto (tgt := 405) dL_goal_162 rfl ?_
            refine ev_iload 0 dL_goal_405 rfl ?_
            exact ev_retI .boolean dL_goal_407 rfl rfl h
      · refine ev_icmp_ne (tgt := 165) dL_goal_134 rfl c27 ?_
        refine ev_iload_n 3 dL_goal_165 rfl ?_
        refine ev_bipush (v := 9) dL_goal_166 (by decide) ?_
        rcases it_some h with ⟨c28, h⟩ | ⟨c28, h⟩
        · refine ev_icmp_ne_n 226 dL_goal_168 rfl c28 ?_
          refine ev_aload_nR 4 dL_goal_171 rfl ?_
          refine ev_bipush (v := 40) dL_goal_172 (by decide) ?_
          obtain ⟨g109, h⟩ := gd_some h
          obtain ⟨r112, σ110, e111, h⟩ := bd_some h
          refine ev_invVi (As := [.int (40)]) (st := []) dL_goal_174 cb_X10_say tp_817 tp_818 tp_819 kf10 rfl (by omega) g109 rfl rfl (Nat.le_of_ble_eq_true rfl) (x_X10_say e111) ?_
          rcases it_some h with ⟨c113, h⟩ | ⟨c113, h⟩
          · refine ev_if_le (tgt := 220) dL_goal_177 rfl c113 ?_
            refine ev_sub (ls' := []) [] rfl ?_
            exact e_L_goal_220  h
          · refine ev_if_le_n 220 dL_goal_177 rfl c113 ?_
            refine ev_aload_nR 4 dL_goal_180 rfl ?_
            refine ev_iload 2 dL_goal_181 rfl ?_
            obtain ⟨g114, h⟩ := gd_some h
            obtain ⟨r117, σ115, e116, h⟩ := bd_some h
            refine ev_invVi (As := [.int (r21)]) (st := []) dL_goal_183 cb_X10_say tp_817 tp_818 tp_819 kf10 rfl (by omega) g114 rfl rfl (Nat.le_of_ble_eq_true rfl) (x_X10_say e116) ?_
            rcases it_some h with ⟨c118, h⟩ | ⟨c118, h⟩
            · refine ev_if_le (tgt := 220) dL_goal_186 rfl c118 ?_
              refine ev_sub (ls' := []) [] rfl ?_
              exact e_L_goal_220  h
            · refine ev_if_le_n 220 dL_goal_186 rfl c118 ?_
              refine ev_aload_nR 4 dL_goal_189 rfl ?_
              refine ev_bipush (v := 42) dL_goal_190 (by decide) ?_
              obtain ⟨g119, h⟩ := gd_some h
              obtain ⟨r122, σ120, e121, h⟩ := bd_some h
              refine ev_invVi (As := [.int (42)]) (st := []) dL_goal_192 cb_X10_say tp_817 tp_818 tp_819 kf10 rfl (by omega) g119 rfl rfl (Nat.le_of_ble_eq_true rfl) (x_X10_say e121) ?_
              rcases it_some h with ⟨c123, h⟩ | ⟨c123, h⟩
              · refine ev_if_le (tgt := 220) dL_goal_195 rfl c123 ?_
                refine ev_sub (ls' := []) [] rfl ?_
                exact e_L_goal_220  h
              · refine ev_if_le_n 220 dL_goal_195 rfl c123 ?_
                refine ev_aload_nR 4 dL_goal_198 rfl ?_
                refine ev_bipush (v := 84) dL_goal_199 (by decide) ?_
                obtain ⟨g124, h⟩ := gd_some h
                obtain ⟨r127, σ125, e126, h⟩ := bd_some h
                refine ev_invVi (As := [.int (84)]) (st := []) dL_goal_201 cb_X10_say tp_817 tp_818 tp_819 kf10 rfl (by omega) g124 rfl rfl (Nat.le_of_ble_eq_true rfl) (x_X10_say e126) ?_
                rcases it_some h with ⟨c128, h⟩ | ⟨c128, h⟩
                · refine ev_if_le (tgt := 220) dL_goal_204 rfl c128 ?_
                  refine ev_sub (ls' := []) [] rfl ?_
                  exact e_L_goal_220  h
                · refine ev_if_le_n 220 dL_goal_204 rfl c128 ?_
                  refine ev_aload_nR 4 dL_goal_207 rfl ?_
                  refine ev_bipush (v := 41) dL_goal_208 (by decide) ?_
                  obtain ⟨g129, h⟩ := gd_some h
                  obtain ⟨r132, σ130, e131, h⟩ := bd_some h
                  refine ev_invVi (As := [.int (41)]) (st := []) dL_goal_210 cb_X10_say tp_817 tp_818 tp_819 kf10 rfl (by omega) g129 rfl rfl (Nat.le_of_ble_eq_true rfl) (x_X10_say e131) ?_
                  rcases it_some h with ⟨c133, h⟩ | ⟨c133, h⟩
                  · refine ev_if_le (tgt := 220) dL_goal_213 rfl c133 ?_
                    refine ev_sub (ls' := []) [] rfl ?_
                    exact e_L_goal_220  h
                  · refine ev_if_le_n 220 dL_goal_213 rfl c133 ?_
                    refine ev_iconst (v := 1) dL_goal_216 (by decide) ?_
                    refine ev_goto (tgt := 221) dL_goal_217 rfl ?_
                    refine ev_istore (ls' := [(6, .int (1)), (5, .int (r24)), (4, .int (r21)), (3, .int (r18)), (0, .ref a0), (1, .ref a1), (2, .int (a2))]) dL_goal_221 (by decide) rfl ?_
                    refine ev_goto (tgt := 405) dL_goal_223 rfl ?_
                    refine ev_iload 0 dL_goal_405 rfl ?_
                    exact ev_retI .boolean dL_goal_407 rfl rfl h
        · refine ev_icmp_ne (tgt := 226) dL_goal_168 rfl c28 ?_
          refine ev_iload_n 3 dL_goal_226 rfl ?_
          refine ev_bipush (v := 10) dL_goal_227 (by decide) ?_
          rcases it_some h with ⟨c29, h⟩ | ⟨c29, h⟩
          · refine ev_icmp_ne_n 287 dL_goal_229 rfl c29 ?_
            refine ev_aload_nR 4 dL_goal_232 rfl ?_
            refine ev_bipush (v := 40) dL_goal_233 (by decide) ?_
            obtain ⟨g84, h⟩ := gd_some h
            obtain ⟨r87, σ85, e86, h⟩ := bd_some h
            refine ev_invVi (As := [.int (40)]) (st := []) dL_goal_235 cb_X10_say tp_817 tp_818 tp_819 kf10 rfl (by omega) g84 rfl rfl (Nat.le_of_ble_eq_true rfl) (x_X10_say e86) ?_
            rcases it_some h with ⟨c88, h⟩ | ⟨c88, h⟩
            · refine ev_if_le (tgt := 281) dL_goal_238 rfl c88 ?_
              refine ev_sub (ls' := []) [] rfl ?_
              exact e_L_goal_281  h
            · refine ev_if_le_n 281 dL_goal_238 rfl c88 ?_
              refine ev_aload_nR 4 dL_goal_241 rfl ?_
              refine ev_bipush (v := 49) dL_goal_242 (by decide) ?_
              obtain ⟨g89, h⟩ := gd_some h
              obtain ⟨r92, σ90, e91, h⟩ := bd_some h
              refine ev_invVi (As := [.int (49)]) (st := []) dL_goal_244 cb_X10_say tp_817 tp_818 tp_819 kf10 rfl (by omega) g89 rfl rfl (Nat.le_of_ble_eq_true rfl) (x_X10_say e91) ?_
              rcases it_some h with ⟨c93, h⟩ | ⟨c93, h⟩
              · refine ev_if_le (tgt := 281) dL_goal_247 rfl c93 ?_
                refine ev_sub (ls' := []) [] rfl ?_
                exact e_L_goal_281  h
              · refine ev_if_le_n 281 dL_goal_247 rfl c93 ?_
                refine ev_aload_nR 4 dL_goal_250 rfl ?_
                refine ev_bipush (v := 38) dL_goal_251 (by decide) ?_
                obtain ⟨g94, h⟩ := gd_some h
                obtain ⟨r97, σ95, e96, h⟩ := bd_some h
                refine ev_invVi (As := [.int (38)]) (st := []) dL_goal_253 cb_X10_say tp_817 tp_818 tp_819 kf10 rfl (by omega) g94 rfl rfl (Nat.le_of_ble_eq_true rfl) (x_X10_say e96) ?_
                rcases it_some h with ⟨c98, h⟩ | ⟨c98, h⟩
                · refine ev_if_le (tgt := 281) dL_goal_256 rfl c98 ?_
                  refine ev_sub (ls' := []) [] rfl ?_
                  exact e_L_goal_281  h
                · refine ev_if_le_n 281 dL_goal_256 rfl c98 ?_
                  refine ev_aload_nR 4 dL_goal_259 rfl ?_
                  refine ev_iload 2 dL_goal_260 rfl ?_
                  obtain ⟨g99, h⟩ := gd_some h
                  obtain ⟨r102, σ100, e101, h⟩ := bd_some h
                  refine ev_invVi (As := [.int (r21)]) (st := []) dL_goal_262 cb_X10_say tp_817 tp_818 tp_819 kf10 rfl (by omega) g99 rfl rfl (Nat.le_of_ble_eq_true rfl) (x_X10_say e101) ?_
                  rcases it_some h with ⟨c103, h⟩ | ⟨c103, h⟩
                  · refine ev_if_le (tgt := 281) dL_goal_265 rfl c103 ?_
                    refine ev_sub (ls' := []) [] rfl ?_
                    exact e_L_goal_281  h
                  · refine ev_if_le_n 281 dL_goal_265 rfl c103 ?_
                    refine ev_aload_nR 4 dL_goal_268 rfl ?_
                    refine ev_bipush (v := 41) dL_goal_269 (by decide) ?_
                    obtain ⟨g104, h⟩ := gd_some h
                    obtain ⟨r107, σ105, e106, h⟩ := bd_some h
                    refine ev_invVi (As := [.int (41)]) (st := []) dL_goal_271 cb_X10_say tp_817 tp_818 tp_819 kf10 rfl (by omega) g104 rfl rfl (Nat.le_of_ble_eq_true rfl) (x_X10_say e106) ?_
                    rcases it_some h with ⟨c108, h⟩ | ⟨c108, h⟩
                    · refine ev_if_le (tgt := 281) dL_goal_274 rfl c108 ?_
                      refine ev_sub (ls' := []) [] rfl ?_
                      exact e_L_goal_281  h
                    · refine ev_if_le_n 281 dL_goal_274 rfl c108 ?_
                      refine ev_iconst (v := 1) dL_goal_277 (by decide) ?_
                      refine ev_goto (tgt := 282) dL_goal_278 rfl ?_
                      refine ev_istore (ls' := [(6, .int (1)), (5, .int (r24)), (4, .int (r21)), (3, .int (r18)), (0, .ref a0), (1, .ref a1), (2, .int (a2))]) dL_goal_282 (by decide) rfl ?_
                      refine ev_goto (tgt := 405) dL_goal_284 rfl ?_
                      refine ev_iload 0 dL_goal_405 rfl ?_
                      exact ev_retI .boolean dL_goal_407 rfl rfl h
          · refine ev_icmp_ne (tgt := 287) dL_goal_229 rfl c29 ?_
            refine ev_iload_n 3 dL_goal_287 rfl ?_
            refine ev_bipush (v := 11) dL_goal_288 (by decide) ?_
            rcases it_some h with ⟨c30, h⟩ | ⟨c30, h⟩
            · refine ev_icmp_ne_n 312 dL_goal_290 rfl c30 ?_
              refine ev_aload_nR 4 dL_goal_293 rfl ?_
              refine ev_bipush (v := 49) dL_goal_294 (by decide) ?_
              obtain ⟨g79, h⟩ := gd_some h
              obtain ⟨r82, σ80, e81, h⟩ := bd_some h
              refine ev_invVi (As := [.int (49)]) (st := []) dL_goal_296 cb_X10_say tp_817 tp_818 tp_819 kf10 rfl (by omega) g79 rfl rfl (Nat.le_of_ble_eq_true rfl) (x_X10_say e81) ?_
              rcases it_some h with ⟨c83, h⟩ | ⟨c83, h⟩
              · refine ev_if_le (tgt := 306) dL_goal_299 rfl c83 ?_
                refine ev_iconst (v := 0) dL_goal_306 (by decide) ?_
                refine ev_istore (ls' := [(6, .int (0)), (5, .int (r24)), (4, .int (r21)), (3, .int (r18)), (0, .ref a0), (1, .ref a1), (2, .int (a2))]) dL_goal_307 (by decide) rfl ?_
                refine ev_goto (tgt := 405) dL_goal_309 rfl ?_
                refine ev_iload 0 dL_goal_405 rfl ?_
                exact ev_retI .boolean dL_goal_407 rfl rfl h
              · refine ev_if_le_n 306 dL_goal_299 rfl c83 ?_
                refine ev_iconst (v := 1) dL_goal_302 (by decide) ?_
                refine ev_goto (tgt := 307) dL_goal_303 rfl ?_
                refine ev_istore (ls' := [(6, .int (1)), (5, .int (r24)), (4, .int (r21)), (3, .int (r18)), (0, .ref a0), (1, .ref a1), (2, .int (a2))]) dL_goal_307 (by decide) rfl ?_
                refine ev_goto (tgt := 405) dL_goal_309 rfl ?_
                refine ev_iload 0 dL_goal_405 rfl ?_
                exact ev_retI .boolean dL_goal_407 rfl rfl h
            · refine ev_icmp_ne (tgt := 312) dL_goal_290 rfl c30 ?_
              refine ev_aload_nR 4 dL_goal_312 rfl ?_
              refine ev_bipush (v := 40) dL_goal_313 (by decide) ?_
              obtain ⟨g31, h⟩ := gd_some h
              obtain ⟨r34, σ32, e33, h⟩ := bd_some h
              refine ev_invVi (As := [.int (40)]) (st := []) dL_goal_315 cb_X10_say tp_817 tp_818 tp_819 kf10 rfl (by omega) g31 rfl rfl (Nat.le_of_ble_eq_true rfl) (x_X10_say e33) ?_
              rcases it_some h with ⟨c35, h⟩ | ⟨c35, h⟩
              · refine ev_if_le (tgt := 402) dL_goal_318 rfl c35 ?_
                refine ev_iconst (v := 0) dL_goal_402 (by decide) ?_
                refine ev_istore (ls' := [(6, .int (0)), (5, .int (r24)), (4, .int (r21)), (3, .int (r18)), (0, .ref a0), (1, .ref a1), (2, .int (a2))]) dL_goal_403 (by decide) rfl ?_
                refine ev_iload 0 dL_goal_405 rfl ?_
                exact ev_retI .boolean dL_goal_407 rfl rfl h
              · refine ev_if_le_n 402 dL_goal_318 rfl c35 ?_
                refine ev_aload_nR 4 dL_goal_321 rfl ?_
                refine ev_bipush (v := 40) dL_goal_322 (by decide) ?_
                obtain ⟨g36, h⟩ := gd_some h
                obtain ⟨r39, σ37, e38, h⟩ := bd_some h
                refine ev_invVi (As := [.int (40)]) (st := []) dL_goal_324 cb_X10_say tp_817 tp_818 tp_819 kf10 rfl (by omega) g36 rfl rfl (Nat.le_of_ble_eq_true rfl) (x_X10_say e38) ?_
                rcases it_some h with ⟨c40, h⟩ | ⟨c40, h⟩
                · refine ev_if_le (tgt := 402) dL_goal_327 rfl c40 ?_
                  refine ev_iconst (v := 0) dL_goal_402 (by decide) ?_
                  refine ev_istore (ls' := [(6, .int (0)), (5, .int (r24)), (4, .int (r21)), (3, .int (r18)), (0, .ref a0), (1, .ref a1), (2, .int (a2))]) dL_goal_403 (by decide) rfl ?_
                  refine ev_iload 0 dL_goal_405 rfl ?_
                  exact ev_retI .boolean dL_goal_407 rfl rfl h
                · refine ev_if_le_n 402 dL_goal_327 rfl c40 ?_
                  refine ev_aload_nR 4 dL_goal_330 rfl ?_
                  refine ev_iload 2 dL_goal_331 rfl ?_
                  obtain ⟨g41, h⟩ := gd_some h
                  obtain ⟨r44, σ42, e43, h⟩ := bd_some h
                  refine ev_invVi (As := [.int (r21)]) (st := []) dL_goal_333 cb_X10_say tp_817 tp_818 tp_819 kf10 rfl (by omega) g41 rfl rfl (Nat.le_of_ble_eq_true rfl) (x_X10_say e43) ?_
                  rcases it_some h with ⟨c45, h⟩ | ⟨c45, h⟩
                  · refine ev_if_le (tgt := 402) dL_goal_336 rfl c45 ?_
                    refine ev_iconst (v := 0) dL_goal_402 (by decide) ?_
                    refine ev_istore (ls' := [(6, .int (0)), (5, .int (r24)), (4, .int (r21)), (3, .int (r18)), (0, .ref a0), (1, .ref a1), (2, .int (a2))]) dL_goal_403 (by decide) rfl ?_
                    refine ev_iload 0 dL_goal_405 rfl ?_
                    exact ev_retI .boolean dL_goal_407 rfl rfl h
                  · refine ev_if_le_n 402 dL_goal_336 rfl c45 ?_
                    refine ev_aload_nR 4 dL_goal_339 rfl ?_
                    refine ev_bipush (v := 42) dL_goal_340 (by decide) ?_
                    obtain ⟨g46, h⟩ := gd_some h
                    obtain ⟨r49, σ47, e48, h⟩ := bd_some h
                    refine ev_invVi (As := [.int (42)]) (st := []) dL_goal_342 cb_X10_say tp_817 tp_818 tp_819 kf10 rfl (by omega) g46 rfl rfl (Nat.le_of_ble_eq_true rfl) (x_X10_say e48) ?_
                    rcases it_some h with ⟨c50, h⟩ | ⟨c50, h⟩
                    · refine ev_if_le (tgt := 402) dL_goal_345 rfl c50 ?_
                      refine ev_iconst (v := 0) dL_goal_402 (by decide) ?_
                      refine ev_istore (ls' := [(6, .int (0)), (5, .int (r24)), (4, .int (r21)), (3, .int (r18)), (0, .ref a0), (1, .ref a1), (2, .int (a2))]) dL_goal_403 (by decide) rfl ?_
                      refine ev_iload 0 dL_goal_405 rfl ?_
                      exact ev_retI .boolean dL_goal_407 rfl rfl h
                    · refine ev_if_le_n 402 dL_goal_345 rfl c50 ?_
                      refine ev_aload_nR 4 dL_goal_348 rfl ?_
                      refine ev_iload 1 dL_goal_349 rfl ?_
                      obtain ⟨g51, h⟩ := gd_some h
                      obtain ⟨r54, σ52, e53, h⟩ := bd_some h
                      refine ev_invVi (As := [.int (r24)]) (st := []) dL_goal_351 cb_X10_say tp_817 tp_818 tp_819 kf10 rfl (by omega) g51 rfl rfl (Nat.le_of_ble_eq_true rfl) (x_X10_say e53) ?_
                      rcases it_some h with ⟨c55, h⟩ | ⟨c55, h⟩
                      · refine ev_if_le (tgt := 402) dL_goal_354 rfl c55 ?_
                        refine ev_iconst (v := 0) dL_goal_402 (by decide) ?_
                        refine ev_istore (ls' := [(6, .int (0)), (5, .int (r24)), (4, .int (r21)), (3, .int (r18)), (0, .ref a0), (1, .ref a1), (2, .int (a2))]) dL_goal_403 (by decide) rfl ?_
                        refine ev_iload 0 dL_goal_405 rfl ?_
                        exact ev_retI .boolean dL_goal_407 rfl rfl h
                      · refine ev_if_le_n 402 dL_goal_354 rfl c55 ?_
                        refine ev_aload_nR 4 dL_goal_357 rfl ?_
                        refine ev_bipush (v := 41) dL_goal_358 (by decide) ?_
                        obtain ⟨g56, h⟩ := gd_some h
                        obtain ⟨r59, σ57, e58, h⟩ := bd_some h
                        refine ev_invVi (As := [.int (41)]) (st := []) dL_goal_360 cb_X10_say tp_817 tp_818 tp_819 kf10 rfl (by omega) g56 rfl rfl (Nat.le_of_ble_eq_true rfl) (x_X10_say e58) ?_
                        rcases it_some h with ⟨c60, h⟩ | ⟨c60, h⟩
                        · refine ev_if_le (tgt := 402) dL_goal_363 rfl c60 ?_
                          refine ev_iconst (v := 0) dL_goal_402 (by decide) ?_
                          refine ev_istore (ls' := [(6, .int (0)), (5, .int (r24)), (4, .int (r21)), (3, .int (r18)), (0, .ref a0), (1, .ref a1), (2, .int (a2))]) dL_goal_403 (by decide) rfl ?_
                          refine ev_iload 0 dL_goal_405 rfl ?_
                          exact ev_retI .boolean dL_goal_407 rfl rfl h
                        · refine ev_if_le_n 402 dL_goal_363 rfl c60 ?_
                          refine ev_aload_nR 4 dL_goal_366 rfl ?_
                          refine ev_bipush (v := 42) dL_goal_367 (by decide) ?_
                          obtain ⟨g61, h⟩ := gd_some h
                          obtain ⟨r64, σ62, e63, h⟩ := bd_some h
                          refine ev_invVi (As := [.int (42)]) (st := []) dL_goal_369 cb_X10_say tp_817 tp_818 tp_819 kf10 rfl (by omega) g61 rfl rfl (Nat.le_of_ble_eq_true rfl) (x_X10_say e63) ?_
                          rcases it_some h with ⟨c65, h⟩ | ⟨c65, h⟩
                          · refine ev_if_le (tgt := 402) dL_goal_372 rfl c65 ?_
                            refine ev_iconst (v := 0) dL_goal_402 (by decide) ?_
                            refine ev_istore (ls' := [(6, .int (0)), (5, .int (r24)), (4, .int (r21)), (3, .int (r18)), (0, .ref a0), (1, .ref a1), (2, .int (a2))]) dL_goal_403 (by decide) rfl ?_
                            refine ev_iload 0 dL_goal_405 rfl ?_
                            exact ev_retI .boolean dL_goal_407 rfl rfl h
                          · refine ev_if_le_n 402 dL_goal_372 rfl c65 ?_
                            refine ev_aload_nR 4 dL_goal_375 rfl ?_
                            refine ev_aload_nR 5 dL_goal_376 rfl ?_
                            refine ev_iload_n 6 dL_goal_377 rfl ?_
                            refine ev_iconst (v := 3) dL_goal_378 (by decide) ?_
                            refine ev_iadd dL_goal_379 ?_
                            obtain ⟨r68, σ66, e67, h⟩ := bd_some h
                            refine ev_invSi (As := [.ref a1, .int (a2 + 3)]) (st := [.ref a0]) dL_goal_380 cb_L_atom tp_814 tp_815 (by omega) rfl rfl (Nat.le_of_ble_eq_true rfl) (x_L_atom e67) ?_
                            obtain ⟨g69, h⟩ := gd_some h
                            obtain ⟨r72, σ70, e71, h⟩ := bd_some h
                            refine ev_invVi (As := [.int (r68)]) (st := []) dL_goal_383 cb_X10_say tp_817 tp_818 tp_819 kf10 rfl (by omega) g69 rfl rfl (Nat.le_of_ble_eq_true rfl) (x_X10_say e71) ?_
                            rcases it_some h with ⟨c73, h⟩ | ⟨c73, h⟩
                            · refine ev_if_le (tgt := 402) dL_goal_386 rfl c73 ?_
                              refine ev_iconst (v := 0) dL_goal_402 (by decide) ?_
                              refine ev_istore (ls' := [(6, .int (0)), (5, .int (r24)), (4, .int (r21)), (3, .int (r18)), (0, .ref a0), (1, .ref a1), (2, .int (a2))]) dL_goal_403 (by decide) rfl ?_
                              refine ev_iload 0 dL_goal_405 rfl ?_
                              exact ev_retI .boolean dL_goal_407 rfl rfl h
                            · refine ev_if_le_n 402 dL_goal_386 rfl c73 ?_
                              refine ev_aload_nR 4 dL_goal_389 rfl ?_
                              refine ev_bipush (v := 41) dL_goal_390 (by decide) ?_
                              obtain ⟨g74, h⟩ := gd_some h
                              obtain ⟨r77, σ75, e76, h⟩ := bd_some h
                              refine ev_invVi (As := [.int (41)]) (st := []) dL_goal_392 cb_X10_say tp_817 tp_818 tp_819 kf10 rfl (by omega) g74 rfl rfl (Nat.le_of_ble_eq_true rfl) (x_X10_say e76) ?_
                              rcases it_some h with ⟨c78, h⟩ | ⟨c78, h⟩
                              · refine ev_if_le (tgt := 402) dL_goal_395 rfl c78 ?_
                                refine ev_iconst (v := 0) dL_goal_402 (by decide) ?_
                                refine ev_istore (ls' := [(6, .int (0)), (5, .int (r24)), (4, .int (r21)), (3, .int (r18)), (0, .ref a0), (1, .ref a1), (2, .int (a2))]) dL_goal_403 (by decide) rfl ?_
                                refine ev_iload 0 dL_goal_405 rfl ?_
                                exact ev_retI .boolean dL_goal_407 rfl rfl h
                              · refine ev_if_le_n 402 dL_goal_395 rfl c78 ?_
                                refine ev_iconst (v := 1) dL_goal_398 (by decide) ?_
                                refine ev_goto (tgt := 403) dL_goal_399 rfl ?_
                                refine ev_istore (ls' := [(6, .int (1)), (5, .int (r24)), (4, .int (r21)), (3, .int (r18)), (0, .ref a0), (1, .ref a1), (2, .int (a2))]) dL_goal_403 (by decide) rfl ?_
                                refine ev_iload 0 dL_goal_405 rfl ?_
                                exact ev_retI .boolean dL_goal_407 rfl rfl h
    · refine ev_icmp_ge_n 131 dL_goal_52 rfl c26 ?_
      refine ev_aload_nR 4 dL_goal_55 rfl ?_
      refine ev_bipush (v := 40) dL_goal_56 (by decide) ?_
      obtain ⟨g144, h⟩ := gd_some h
      obtain ⟨r147, σ145, e146, h⟩ := bd_some h
      refine ev_invVi (As := [.int (40)]) (st := []) dL_goal_58 cb_X10_say tp_817 tp_818 tp_819 kf10 rfl (by omega) g144 rfl rfl (Nat.le_of_ble_eq_true rfl) (x_X10_say e146) ?_
      rcases it_some h with ⟨c148, h⟩ | ⟨c148, h⟩
      · refine ev_if_le (tgt := 125) dL_goal_61 rfl c148 ?_
        refine ev_sub (ls' := []) [] rfl ?_
        exact e_L_goal_125  h
      · refine ev_if_le_n 125 dL_goal_61 rfl c148 ?_
        refine ev_aload_nR 4 dL_goal_64 rfl ?_
        refine ev_iload 2 dL_goal_65 rfl ?_
        obtain ⟨g149, h⟩ := gd_some h
        obtain ⟨r152, σ150, e151, h⟩ := bd_some h
        refine ev_invVi (As := [.int (r21)]) (st := []) dL_goal_67 cb_X10_say tp_817 tp_818 tp_819 kf10 rfl (by omega) g149 rfl rfl (Nat.le_of_ble_eq_true rfl) (x_X10_say e151) ?_
        rcases it_some h with ⟨c153, h⟩ | ⟨c153, h⟩
        · refine ev_if_le (tgt := 125) dL_goal_70 rfl c153 ?_
          refine ev_sub (ls' := []) [] rfl ?_
          exact e_L_goal_125  h
        · refine ev_if_le_n 125 dL_goal_70 rfl c153 ?_
          refine ev_aload_nR 4 dL_goal_73 rfl ?_
          refine ev_iload_n 3 dL_goal_74 rfl ?_
          refine ev_iconst (v := 5) dL_goal_75 (by decide) ?_
          rcases it_some h with ⟨c154, h⟩ | ⟨c154, h⟩
          · refine ev_icmp_ne_n 84 dL_goal_76 rfl c154 ?_
            refine ev_bipush (v := 42) dL_goal_79 (by decide) ?_
            refine ev_goto (tgt := 97) dL_goal_81 rfl ?_
            refine ev_sub (ls' := [(0, .ref a0), (5, .int (r24))]) [4, 1] rfl ?_
            exact e_L_goal_97  h
          · refine ev_icmp_ne (tgt := 84) dL_goal_76 rfl c154 ?_
            refine ev_iload_n 3 dL_goal_84 rfl ?_
            refine ev_bipush (v := 6) dL_goal_85 (by decide) ?_
            rcases it_some h with ⟨c155, h⟩ | ⟨c155, h⟩
            · refine ev_icmp_ne_n 95 dL_goal_87 rfl c155 ?_
              refine ev_bipush (v := 38) dL_goal_90 (by decide) ?_
              refine ev_goto (tgt := 97) dL_goal_92 rfl ?_
              refine ev_sub (ls' := [(0, .ref a0), (5, .int (r24))]) [4, 1] rfl ?_
              exact e_L_goal_97  h
            · refine ev_icmp_ne (tgt := 95) dL_goal_87 rfl c155 ?_
              refine ev_bipush (v := 43) dL_goal_95 (by decide) ?_
              refine ev_sub (ls' := [(0, .ref a0), (5, .int (r24))]) [4, 1] rfl ?_
              exact e_L_goal_97  h
  · refine ev_icmp_ge_n 49 dL_goal_31 rfl c25 ?_
    refine ev_aload_nR 4 dL_goal_34 rfl ?_
    refine ev_iload 2 dL_goal_35 rfl ?_
    obtain ⟨g156, h⟩ := gd_some h
    obtain ⟨r159, σ157, e158, h⟩ := bd_some h
    refine ev_invVi (As := [.int (r21)]) (st := []) dL_goal_37 cb_X10_say tp_817 tp_818 tp_819 kf10 rfl (by omega) g156 rfl rfl (Nat.le_of_ble_eq_true rfl) (x_X10_say e158) ?_
    rcases it_some h with ⟨c160, h⟩ | ⟨c160, h⟩
    · refine ev_if_le (tgt := 47) dL_goal_40 rfl c160 ?_
      refine ev_iconst (v := 0) dL_goal_47 (by decide) ?_
      exact ev_retI .boolean dL_goal_48 rfl rfl h
    · refine ev_if_le_n 47 dL_goal_40 rfl c160 ?_
      refine ev_iconst (v := 1) dL_goal_43 (by decide) ?_
      refine ev_goto (tgt := 48) dL_goal_44 rfl ?_
      exact ev_retI .boolean dL_goal_48 rfl rfl h
def s_L_offer_59 (a0 : Nat) (a1 : Nat) (a2 : Int32) (a3 : Int32) (σ : St) : Option (Int32 × St) :=
 bd (s_L_cell a1 (a2 + 6) 4 σ) fun r3 σ1 =>
 if r3 = 0 then (if a3 = 0 then (some (0, σ1)) else (if isO σ1 10 a0 = true then (bd (s_X10_say a0 124 σ1) fun r10 σ8 =>
 if r10 ≤ 0 then (some (0, σ8)) else (bd (s_L_atom a1 (a2 + 7) σ8) fun r14 σ12 =>
 if isO σ12 10 a0 = true then (bd (s_X10_say a0 r14 σ12) fun r18 σ16 =>
 if r18 ≤ 0 then (some (0, σ16)) else (some (1, σ16))) else none)) else none)) else (if zok a3 = true then (some (a3, σ1)) else none)
set_option maxHeartbeats 4000000 in
set_option maxRecDepth 100000 in
theorem e_L_offer_59 {r : Int32} {σ' : St} : ∀ {a0 : Nat} {a1 : Nat} {a2 : Int32} {a3 : Int32} {σ : St}, s_L_offer_59 a0 a1 a2 a3 σ = some (r, σ') → Ev M_L_offer (4) 59 [(0, .ref a0), (1, .ref a1), (2, .int (a2)), (3, .int (a3))] [] σ (some (.int r)) σ' := by
  intro a0 a1 a2 a3 σ h
  unfold s_L_offer_59 at h
  refine ev_aload_nR 1 dL_offer_59 rfl ?_
  refine ev_iload_n 2 dL_offer_60 rfl ?_
  refine ev_bipush (v := 6) dL_offer_61 (by decide) ?_
  refine ev_iadd dL_offer_63 ?_
  refine ev_iconst (v := 4) dL_offer_64 (by decide) ?_
  obtain ⟨r3, σ1, e2, h⟩ := bd_some h
  refine ev_invSi (As := [.ref a1, .int (a2 + 6), .int (4)]) (st := []) dL_offer_65 cb_L_cell tp_807 tp_808 (by omega) rfl rfl (Nat.le_of_ble_eq_true rfl) (x_L_cell e2) ?_
  rcases it_some h with ⟨c4, h⟩ | ⟨c4, h⟩
  · refine ev_if_ne_n 105 dL_offer_68 rfl c4 ?_
    refine ev_iload_n 3 dL_offer_71 rfl ?_
    rcases it_some h with ⟨c6, h⟩ | ⟨c6, h⟩
    · refine ev_if_eq (tgt := 103) dL_offer_72 rfl c6 ?_
      refine ev_iconst (v := 0) dL_offer_103 (by decide) ?_
      refine ev_istore_n (ls' := [(3, .int (0)), (0, .ref a0), (1, .ref a1), (2, .int (a2))]) dL_offer_104 (by decide) rfl ?_
      refine ev_iload_n 0 dL_offer_105 rfl ?_
      exact ev_retI .boolean dL_offer_106 rfl rfl h
    · refine ev_if_eq_n 103 dL_offer_72 rfl c6 ?_
      refine ev_aload_nR 0 dL_offer_75 rfl ?_
      refine ev_bipush (v := 124) dL_offer_76 (by decide) ?_
      obtain ⟨g7, h⟩ := gd_some h
      obtain ⟨r10, σ8, e9, h⟩ := bd_some h
      refine ev_invVi (As := [.int (124)]) (st := []) dL_offer_78 cb_X10_say tp_817 tp_818 tp_819 kf10 rfl (by omega) g7 rfl rfl (Nat.le_of_ble_eq_true rfl) (x_X10_say e9) ?_
      rcases it_some h with ⟨c11, h⟩ | ⟨c11, h⟩
      · refine ev_if_le (tgt := 103) dL_offer_81 rfl c11 ?_
        refine ev_iconst (v := 0) dL_offer_103 (by decide) ?_
        refine ev_istore_n (ls' := [(3, .int (0)), (0, .ref a0), (1, .ref a1), (2, .int (a2))]) dL_offer_104 (by decide) rfl ?_
        refine ev_iload_n 0 dL_offer_105 rfl ?_
        exact ev_retI .boolean dL_offer_106 rfl rfl h
      · refine ev_if_le_n 103 dL_offer_81 rfl c11 ?_
        refine ev_aload_nR 0 dL_offer_84 rfl ?_
        refine ev_aload_nR 1 dL_offer_85 rfl ?_
        refine ev_iload_n 2 dL_offer_86 rfl ?_
        refine ev_bipush (v := 7) dL_offer_87 (by decide) ?_
        refine ev_iadd dL_offer_89 ?_
        obtain ⟨r14, σ12, e13, h⟩ := bd_some h
        refine ev_invSi (As := [.ref a1, .int (a2 + 7)]) (st := [.ref a0]) dL_offer_90 cb_L_atom tp_814 tp_815 (by omega) rfl rfl (Nat.le_of_ble_eq_true rfl) (x_L_atom e13) ?_
        obtain ⟨g15, h⟩ := gd_some h
        obtain ⟨r18, σ16, e17, h⟩ := bd_some h
        refine ev_invVi (As := [.int (r14)]) (st := []) dL_offer_93 cb_X10_say tp_817 tp_818 tp_819 kf10 rfl (by omega) g15 rfl rfl (Nat.le_of_ble_eq_true rfl) (x_X10_say e17) ?_
        rcases it_some h with ⟨c19, h⟩ | ⟨c19, h⟩
        · refine ev_if_le (tgt := 103) dL_offer_96 rfl c19 ?_
          refine ev_iconst (v := 0) dL_offer_103 (by decide) ?_
          refine ev_istore_n (ls' := [(3, .int (0)), (0, .ref a0), (1, .ref a1), (2, .int (a2))]) dL_offer_104 (by decide) rfl ?_
          refine ev_iload_n 0 dL_offer_105 rfl ?_
          exact ev_retI .boolean dL_offer_106 rfl rfl h
        · refine ev_if_le_n 103 dL_offer_96 rfl c19 ?_
          refine ev_iconst (v := 1) dL_offer_99 (by decide) ?_
          refine ev_goto (tgt := 104) dL_offer_100 rfl ?_
          refine ev_istore_n (ls' := [(3, .int (1)), (0, .ref a0), (1, .ref a1), (2, .int (a2))]) dL_offer_104 (by decide) rfl ?_
          refine ev_iload_n 0 dL_offer_105 rfl ?_
          exact ev_retI .boolean dL_offer_106 rfl rfl h
  · refine ev_if_ne (tgt := 105) dL_offer_68 rfl c4 ?_
    refine ev_iload_n 3 dL_offer_105 rfl ?_
    obtain ⟨g5, h⟩ := gd_some h
    exact ev_retI .boolean dL_offer_106 rfl (nz_of g5).1 h
def s_L_offer_58 (a0 : Nat) (a1 : Nat) (a2 : Int32) (t0 : Int32) (σ : St) : Option (Int32 × St) :=
 s_L_offer_59 a0 a1 a2 t0 σ
set_option maxHeartbeats 4000000 in
set_option maxRecDepth 100000 in
theorem e_L_offer_58 {r : Int32} {σ' : St} : ∀ {a0 : Nat} {a1 : Nat} {a2 : Int32} {t0 : Int32} {σ : St}, s_L_offer_58 a0 a1 a2 t0 σ = some (r, σ') → Ev M_L_offer (4) 58 [(0, .ref a0), (1, .ref a1), (2, .int (a2))] [.int (t0)] σ (some (.int r)) σ' := by
  intro a0 a1 a2 t0 σ h
  unfold s_L_offer_58 at h
  refine ev_istore_n (ls' := [(3, .int (t0)), (0, .ref a0), (1, .ref a1), (2, .int (a2))]) dL_offer_58 (by decide) rfl ?_
  refine ev_sub (ls' := [(0, .ref a0), (1, .ref a1), (2, .int (a2)), (3, .int (t0))]) [1, 2, 3, 0] rfl ?_
  exact e_L_offer_59  h
def s_L_offer_57 (a0 : Nat) (a1 : Nat) (a2 : Int32) (σ : St) : Option (Int32 × St) :=
 s_L_offer_58 a0 a1 a2 0 σ
set_option maxHeartbeats 4000000 in
set_option maxRecDepth 100000 in
theorem e_L_offer_57 {r : Int32} {σ' : St} : ∀ {a0 : Nat} {a1 : Nat} {a2 : Int32} {σ : St}, s_L_offer_57 a0 a1 a2 σ = some (r, σ') → Ev M_L_offer (4) 57 [(0, .ref a0), (1, .ref a1), (2, .int (a2))] [] σ (some (.int r)) σ' := by
  intro a0 a1 a2 σ h
  unfold s_L_offer_57 at h
  refine ev_iconst (v := 0) dL_offer_57 (by decide) ?_
  refine ev_sub (ls' := [(0, .ref a0), (1, .ref a1), (2, .int (a2))]) [0, 1, 2] rfl ?_
  exact e_L_offer_58  h
def s_L_offer_17 (a0 : Nat) (a1 : Nat) (a2 : Int32) (t0 : Int32) (σ : St) : Option (Int32 × St) :=
 bd (s_L_cell a1 (a2 + 1) 3 σ) fun r22 σ20 =>
 if r22 ≤ 0 then (s_L_offer_59 a0 a1 a2 t0 σ20) else (if t0 = 0 then (s_L_offer_57 a0 a1 a2 σ20) else (if isO σ20 10 a0 = true then (bd (s_X10_say a0 60 σ20) fun r28 σ26 =>
 if r28 ≤ 0 then (s_L_offer_57 a0 a1 a2 σ26) else (bd (s_L_goal a0 a1 (a2 + 2) σ26) fun r32 σ30 =>
 if r32 = 0 then (s_L_offer_57 a0 a1 a2 σ30) else (s_L_offer_58 a0 a1 a2 1 σ30))) else none))
set_option maxHeartbeats 4000000 in
set_option maxRecDepth 100000 in
theorem e_L_offer_17 {r : Int32} {σ' : St} : ∀ {a0 : Nat} {a1 : Nat} {a2 : Int32} {t0 : Int32} {σ : St}, s_L_offer_17 a0 a1 a2 t0 σ = some (r, σ') → Ev M_L_offer (4) 17 [(0, .ref a0), (1, .ref a1), (2, .int (a2))] [.int (t0)] σ (some (.int r)) σ' := by
  intro a0 a1 a2 t0 σ h
  unfold s_L_offer_17 at h
  refine ev_istore_n (ls' := [(3, .int (t0)), (0, .ref a0), (1, .ref a1), (2, .int (a2))]) dL_offer_17 (by decide) rfl ?_
  refine ev_aload_nR 2 dL_offer_18 rfl ?_
  refine ev_iload_n 3 dL_offer_19 rfl ?_
  refine ev_iconst (v := 1) dL_offer_20 (by decide) ?_
  refine ev_iadd dL_offer_21 ?_
  refine ev_iconst (v := 3) dL_offer_22 (by decide) ?_
  obtain ⟨r22, σ20, e21, h⟩ := bd_some h
  refine ev_invSi (As := [.ref a1, .int (a2 + 1), .int (3)]) (st := []) dL_offer_23 cb_L_cell tp_807 tp_808 (by omega) rfl rfl (Nat.le_of_ble_eq_true rfl) (x_L_cell e21) ?_
  rcases it_some h with ⟨c23, h⟩ | ⟨c23, h⟩
  · refine ev_if_le (tgt := 59) dL_offer_26 rfl c23 ?_
    refine ev_sub (ls' := [(0, .ref a0), (1, .ref a1), (2, .int (a2)), (3, .int (t0))]) [1, 2, 3, 0] rfl ?_
    exact e_L_offer_59  h
  · refine ev_if_le_n 59 dL_offer_26 rfl c23 ?_
    refine ev_iload_n 0 dL_offer_29 rfl ?_
    rcases it_some h with ⟨c24, h⟩ | ⟨c24, h⟩
    · refine ev_if_eq (tgt := 57) dL_offer_30 rfl c24 ?_
      refine ev_sub (ls' := [(0, .ref a0), (1, .ref a1), (2, .int (a2))]) [1, 2, 3] rfl ?_
      exact e_L_offer_57  h
    · refine ev_if_eq_n 57 dL_offer_30 rfl c24 ?_
      refine ev_aload_nR 1 dL_offer_33 rfl ?_
      refine ev_bipush (v := 60) dL_offer_34 (by decide) ?_
      obtain ⟨g25, h⟩ := gd_some h
      obtain ⟨r28, σ26, e27, h⟩ := bd_some h
      refine ev_invVi (As := [.int (60)]) (st := []) dL_offer_36 cb_X10_say tp_817 tp_818 tp_819 kf10 rfl (by omega) g25 rfl rfl (Nat.le_of_ble_eq_true rfl) (x_X10_say e27) ?_
      rcases it_some h with ⟨c29, h⟩ | ⟨c29, h⟩
      · refine ev_if_le (tgt := 57) dL_offer_39 rfl c29 ?_
        refine ev_sub (ls' := [(0, .ref a0), (1, .ref a1), (2, .int (a2))]) [1, 2, 3] rfl ?_
        exact e_L_offer_57  h
      · refine ev_if_le_n 57 dL_offer_39 rfl c29 ?_
        refine ev_aload_nR 1 dL_offer_42 rfl ?_
        refine ev_aload_nR 2 dL_offer_43 rfl ?_
        refine ev_iload_n 3 dL_offer_44 rfl ?_
        refine ev_iconst (v := 2) dL_offer_45 (by decide) ?_
        refine ev_iadd dL_offer_46 ?_
        obtain ⟨r32, σ30, e31, h⟩ := bd_some h
        refine ev_invSi (As := [.ref a0, .ref a1, .int (a2 + 2)]) (st := []) dL_offer_47 cb_L_goal tp_811 tp_812 (by omega) rfl rfl (Nat.le_of_ble_eq_true rfl) (x_L_goal e31) ?_
        rcases it_some h with ⟨c33, h⟩ | ⟨c33, h⟩
        · refine ev_if_eq (tgt := 57) dL_offer_50 rfl c33 ?_
          refine ev_sub (ls' := [(0, .ref a0), (1, .ref a1), (2, .int (a2))]) [1, 2, 3] rfl ?_
          exact e_L_offer_57  h
        · refine ev_if_eq_n 57 dL_offer_50 rfl c33 ?_
          refine ev_iconst (v := 1) dL_offer_53 (by decide) ?_
          refine ev_goto (tgt := 58) dL_offer_54 rfl ?_
          refine ev_sub (ls' := [(0, .ref a0), (1, .ref a1), (2, .int (a2))]) [1, 2, 3] rfl ?_
          exact e_L_offer_58  h
def s_L_offer (a0 : Nat) (a1 : Nat) (a2 : Int32) (σ : St) : Option (Int32 × St) :=
 bd (s_L_atom a1 a2 σ) fun r36 σ34 =>
 if isO σ34 10 a0 = true then (bd (s_X10_say a0 r36 σ34) fun r40 σ38 =>
 if r40 ≤ 0 then (s_L_offer_17 a0 a1 a2 0 σ38) else (s_L_offer_17 a0 a1 a2 1 σ38)) else none
set_option maxHeartbeats 4000000 in
set_option maxRecDepth 100000 in
theorem x_L_offer {a0 : Nat} {a1 : Nat} {a2 : Int32} {σ : St} {r : Int32} {σ' : St} (h : s_L_offer a0 a1 a2 σ = some (r, σ')) : Ex M_L_offer (4) [.ref a0, .ref a1, .int (a2)] σ (some (.int r)) σ' := by
  unfold s_L_offer at h
  refine ex_of (by decide) rfl (Nat.le_of_ble_eq_true rfl) ?_
  show Ev _ _ 0 [(0, .ref a0), (1, .ref a1), (2, .int (a2))] [] _ _ _
  refine ev_aload_nR 0 dL_offer_0 rfl ?_
  refine ev_aload_nR 1 dL_offer_1 rfl ?_
  refine ev_iload_n 2 dL_offer_2 rfl ?_
  obtain ⟨r36, σ34, e35, h⟩ := bd_some h
  refine ev_invSi (As := [.ref a1, .int (a2)]) (st := [.ref a0]) dL_offer_3 cb_L_atom tp_814 tp_815 (by omega) rfl rfl (Nat.le_of_ble_eq_true rfl) (x_L_atom e35) ?_
  obtain ⟨g37, h⟩ := gd_some h
  obtain ⟨r40, σ38, e39, h⟩ := bd_some h
  refine ev_invVi (As := [.int (r36)]) (st := []) dL_offer_6 cb_X10_say tp_817 tp_818 tp_819 kf10 rfl (by omega) g37 rfl rfl (Nat.le_of_ble_eq_true rfl) (x_X10_say e39) ?_
  rcases it_some h with ⟨c41, h⟩ | ⟨c41, h⟩
  · refine ev_if_le (tgt := 16) dL_offer_9 rfl c41 ?_
    refine ev_iconst (v := 0) dL_offer_16 (by decide) ?_
    refine ev_sub (ls' := [(0, .ref a0), (1, .ref a1), (2, .int (a2))]) [0, 1, 2] rfl ?_
    exact e_L_offer_17  h
  · refine ev_if_le_n 16 dL_offer_9 rfl c41 ?_
    refine ev_iconst (v := 1) dL_offer_12 (by decide) ?_
    refine ev_goto (tgt := 17) dL_offer_13 rfl ?_
    refine ev_sub (ls' := [(0, .ref a0), (1, .ref a1), (2, .int (a2))]) [0, 1, 2] rfl ?_
    exact e_L_offer_17  h
def s_L_lay_109 (k63 : Nat → Nat → Int32 → Int32 → Int32 → St → Option (Int32 × St)) (a0 : Nat) (a1 : Nat) (a3 : Int32) (a5 : Int32) (t0 : Int32) (σ : St) : Option (Int32 × St) :=
 lt (a5 + 1 : Int32) fun v1 =>
 k63 a0 a1 a3 t0 v1 σ
set_option maxHeartbeats 4000000 in
set_option maxRecDepth 100000 in
theorem e_L_lay_109 {r : Int32} {σ' : St} {k63 : Nat → Nat → Int32 → Int32 → Int32 → St → Option (Int32 × St)} (hk63 : ∀ {y0 : Nat} {y1 : Nat} {y2 : Int32} {y3 : Int32} {y4 : Int32} {σ : St}, k63 y0 y1 y2 y3 y4 σ = some (r, σ') → Ev M_L_lay (393) 63 [(0, .ref y0), (1, .ref y1), (3, .int (y2)), (4, .int (y3)), (5, .int (y4))] [] σ (some (.int r)) σ') : ∀ {a0 : Nat} {a1 : Nat} {a3 : Int32} {a5 : Int32} {t0 : Int32} {σ : St}, s_L_lay_109 k63 a0 a1 a3 a5 t0 σ = some (r, σ') → Ev M_L_lay (393) 109 [(0, .ref a0), (1, .ref a1), (3, .int (a3)), (5, .int (a5))] [.int (t0)] σ (some (.int r)) σ' := by
  intro a0 a1 a3 a5 t0 σ h
  unfold s_L_lay_109 at h
  refine ev_istore (ls' := [(4, .int (t0)), (0, .ref a0), (1, .ref a1), (3, .int (a3)), (5, .int (a5))]) dL_lay_109 (by decide) rfl ?_
  obtain ⟨v1, e2, h⟩ := lt_some h
  refine ev_iinc (v := v1) (ls' := [(5, .int (v1)), (4, .int (t0)), (0, .ref a0), (1, .ref a1), (3, .int (a3))]) 4 dL_lay_111 rfl e2.symm (by decide) rfl ?_
  refine ev_goto (tgt := 63) dL_lay_114 rfl ?_
  refine ev_sub (ls' := [(0, .ref a0), (1, .ref a1), (3, .int (a3)), (4, .int (t0)), (5, .int (v1))]) [2, 3, 4, 1, 0] rfl ?_
  exact hk63 h
def s_L_lay_108 (k63 : Nat → Nat → Int32 → Int32 → Int32 → St → Option (Int32 × St)) (a0 : Nat) (a1 : Nat) (a3 : Int32) (a5 : Int32) (σ : St) : Option (Int32 × St) :=
 s_L_lay_109 k63 a0 a1 a3 a5 0 σ
set_option maxHeartbeats 4000000 in
set_option maxRecDepth 100000 in
theorem e_L_lay_108 {r : Int32} {σ' : St} {k63 : Nat → Nat → Int32 → Int32 → Int32 → St → Option (Int32 × St)} (hk63 : ∀ {y0 : Nat} {y1 : Nat} {y2 : Int32} {y3 : Int32} {y4 : Int32} {σ : St}, k63 y0 y1 y2 y3 y4 σ = some (r, σ') → Ev M_L_lay (393) 63 [(0, .ref y0), (1, .ref y1), (3, .int (y2)), (4, .int (y3)), (5, .int (y4))] [] σ (some (.int r)) σ') : ∀ {a0 : Nat} {a1 : Nat} {a3 : Int32} {a5 : Int32} {σ : St}, s_L_lay_108 k63 a0 a1 a3 a5 σ = some (r, σ') → Ev M_L_lay (393) 108 [(0, .ref a0), (1, .ref a1), (3, .int (a3)), (5, .int (a5))] [] σ (some (.int r)) σ' := by
  intro a0 a1 a3 a5 σ h
  unfold s_L_lay_108 at h
  refine ev_iconst (v := 0) dL_lay_108 (by decide) ?_
  refine ev_sub (ls' := [(0, .ref a0), (1, .ref a1), (3, .int (a3)), (5, .int (a5))]) [0, 1, 2, 3] rfl ?_
  exact e_L_lay_109 hk63 h
def sb_L_lay_63 (k63 : Nat → Nat → Int32 → Int32 → Int32 → St → Option (Int32 × St)) (a0 : Nat) (a1 : Nat) (a3 : Int32) (a4 : Int32) (a5 : Int32) (σ : St) : Option (Int32 × St) :=
 if a3 ≤ a5 then (if zok a4 = true then (some (a4, σ)) else none) else (if isO σ 10 a0 = true then (bd (s_X10_wipe a0 σ) fun r8 σ6 =>
 if a4 = 0 then (s_L_lay_108 k63 a0 a1 a3 a5 σ6) else (bd (s_L_offer a0 a1 ((10 * a5) + 80) σ6) fun r12 σ10 =>
 if r12 = 0 then (s_L_lay_108 k63 a0 a1 a3 a5 σ10) else (if isO σ10 10 a0 = true then (bd (s_X10_well a0 σ10) fun r17 σ15 =>
 if r17 = a5 then (s_L_lay_109 k63 a0 a1 a3 a5 1 σ15) else (s_L_lay_108 k63 a0 a1 a3 a5 σ15)) else none))) else none)
def s_L_lay_63 (F : Nat) : Nat → Nat → Int32 → Int32 → Int32 → St → Option (Int32 × St) := lp (fun _ _ _ _ _ _ => none) (sb_L_lay_63 ) F
set_option maxHeartbeats 4000000 in
set_option maxRecDepth 100000 in
theorem e_L_lay_63 {r : Int32} {σ' : St} (F : Nat) : ∀ {a0 : Nat} {a1 : Nat} {a3 : Int32} {a4 : Int32} {a5 : Int32} {σ : St}, s_L_lay_63 F a0 a1 a3 a4 a5 σ = some (r, σ') → Ev M_L_lay (393) 63 [(0, .ref a0), (1, .ref a1), (3, .int (a3)), (4, .int (a4)), (5, .int (a5))] [] σ (some (.int r)) σ' := by
  induction F with
  | zero => intro a0 a1 a3 a4 a5 σ h; cases h
  | succ F ih =>
    intro a0 a1 a3 a4 a5 σ h
    change sb_L_lay_63  (s_L_lay_63 F) a0 a1 a3 a4 a5 σ = some (r, σ') at h
    unfold sb_L_lay_63 at h
    have hk63 := @ih
    refine ev_iload 4 dL_lay_63 rfl ?_
    refine ev_iload_n 2 dL_lay_65 rfl ?_
    rcases it_some h with ⟨c3, h⟩ | ⟨c3, h⟩
    · refine ev_icmp_ge (tgt := 117) dL_lay_66 rfl c3 ?_
      refine ev_iload 3 dL_lay_117 rfl ?_
      obtain ⟨g4, h⟩ := gd_some h
      exact ev_retI .boolean dL_lay_119 rfl (nz_of g4).1 h
    · refine ev_icmp_ge_n 117 dL_lay_66 rfl c3 ?_
      refine ev_aload_nR 0 dL_lay_69 rfl ?_
      obtain ⟨g5, h⟩ := gd_some h
      obtain ⟨r8, σ6, e7, h⟩ := bd_some h
      refine ev_invVi (As := []) (st := []) dL_lay_70 cb_X10_wipe tp_275 tp_276 tp_277 kf10 rfl (by omega) g5 rfl rfl (Nat.le_of_ble_eq_true rfl) (x_X10_wipe e7) ?_
      refine ev_pop dL_lay_73 rfl ?_
      refine ev_iload 3 dL_lay_74 rfl ?_
      rcases it_some h with ⟨c9, h⟩ | ⟨c9, h⟩
      · refine ev_if_eq (tgt := 108) dL_lay_76 rfl c9 ?_
        refine ev_sub (ls' := [(0, .ref a0), (1, .ref a1), (3, .int (a3)), (5, .int (a5))]) [0, 1, 2, 4] rfl ?_
        exact e_L_lay_108 hk63 h
      · refine ev_if_eq_n 108 dL_lay_76 rfl c9 ?_
        refine ev_aload_nR 0 dL_lay_79 rfl ?_
        refine ev_aload_nR 1 dL_lay_80 rfl ?_
        refine ev_bipush (v := 10) dL_lay_81 (by decide) ?_
        refine ev_iload 4 dL_lay_83 rfl ?_
        refine ev_imul dL_lay_85 ?_
        refine ev_bipush (v := 80) dL_lay_86 (by decide) ?_
        refine ev_iadd dL_lay_88 ?_
        obtain ⟨r12, σ10, e11, h⟩ := bd_some h
        refine ev_invSi (As := [.ref a0, .ref a1, .int ((10 * a5) + 80)]) (st := []) dL_lay_89 cb_L_offer tp_828 tp_829 (by omega) rfl rfl (Nat.le_of_ble_eq_true rfl) (x_L_offer e11) ?_
        rcases it_some h with ⟨c13, h⟩ | ⟨c13, h⟩
        · refine ev_if_eq (tgt := 108) dL_lay_92 rfl c13 ?_
          refine ev_sub (ls' := [(0, .ref a0), (1, .ref a1), (3, .int (a3)), (5, .int (a5))]) [0, 1, 2, 4] rfl ?_
          exact e_L_lay_108 hk63 h
        · refine ev_if_eq_n 108 dL_lay_92 rfl c13 ?_
          refine ev_aload_nR 0 dL_lay_95 rfl ?_
          obtain ⟨g14, h⟩ := gd_some h
          obtain ⟨r17, σ15, e16, h⟩ := bd_some h
          refine ev_invVi (As := []) (st := []) dL_lay_96 cb_X10_well tp_843 tp_844 tp_845 kf10 rfl (by omega) g14 rfl rfl (Nat.le_of_ble_eq_true rfl) (x_X10_well e16) ?_
          refine ev_iload 4 dL_lay_99 rfl ?_
          rcases it_some h with ⟨c18, h⟩ | ⟨c18, h⟩
          · refine ev_icmp_ne_n 108 dL_lay_101 rfl c18 ?_
            refine ev_iconst (v := 1) dL_lay_104 (by decide) ?_
            refine ev_goto (tgt := 109) dL_lay_105 rfl ?_
            refine ev_sub (ls' := [(0, .ref a0), (1, .ref a1), (3, .int (a3)), (5, .int (a5))]) [0, 1, 2, 4] rfl ?_
            exact e_L_lay_109 hk63 h
          · refine ev_icmp_ne (tgt := 108) dL_lay_101 rfl c18 ?_
            refine ev_sub (ls' := [(0, .ref a0), (1, .ref a1), (3, .int (a3)), (5, .int (a5))]) [0, 1, 2, 4] rfl ?_
            exact e_L_lay_108 hk63 h
def s_L_lay_52 (k6 : Nat → Nat → Int32 → Int32 → Int32 → Int32 → St → Option (Int32 × St)) (a0 : Nat) (a1 : Nat) (a2 : Int32) (a3 : Int32) (a5 : Int32) (t0 : Int32) (σ : St) : Option (Int32 × St) :=
 lt (a5 + 1 : Int32) fun v19 =>
 k6 a0 a1 a2 a3 t0 v19 σ
set_option maxHeartbeats 4000000 in
set_option maxRecDepth 100000 in
theorem e_L_lay_52 {r : Int32} {σ' : St} {k6 : Nat → Nat → Int32 → Int32 → Int32 → Int32 → St → Option (Int32 × St)} (hk6 : ∀ {y0 : Nat} {y1 : Nat} {y2 : Int32} {y3 : Int32} {y4 : Int32} {y5 : Int32} {σ : St}, k6 y0 y1 y2 y3 y4 y5 σ = some (r, σ') → Ev M_L_lay (393) 6 [(0, .ref y0), (1, .ref y1), (2, .int (y2)), (3, .int (y3)), (4, .int (y4)), (5, .int (y5))] [] σ (some (.int r)) σ') : ∀ {a0 : Nat} {a1 : Nat} {a2 : Int32} {a3 : Int32} {a5 : Int32} {t0 : Int32} {σ : St}, s_L_lay_52 k6 a0 a1 a2 a3 a5 t0 σ = some (r, σ') → Ev M_L_lay (393) 52 [(0, .ref a0), (1, .ref a1), (2, .int (a2)), (3, .int (a3)), (5, .int (a5))] [.int (t0)] σ (some (.int r)) σ' := by
  intro a0 a1 a2 a3 a5 t0 σ h
  unfold s_L_lay_52 at h
  refine ev_istore (ls' := [(4, .int (t0)), (0, .ref a0), (1, .ref a1), (2, .int (a2)), (3, .int (a3)), (5, .int (a5))]) dL_lay_52 (by decide) rfl ?_
  obtain ⟨v19, e20, h⟩ := lt_some h
  refine ev_iinc (v := v19) (ls' := [(5, .int (v19)), (4, .int (t0)), (0, .ref a0), (1, .ref a1), (2, .int (a2)), (3, .int (a3))]) 5 dL_lay_54 rfl e20.symm (by decide) rfl ?_
  refine ev_goto (tgt := 6) dL_lay_57 rfl ?_
  refine ev_sub (ls' := [(0, .ref a0), (1, .ref a1), (2, .int (a2)), (3, .int (a3)), (4, .int (t0)), (5, .int (v19))]) [2, 3, 4, 5, 1, 0] rfl ?_
  exact hk6 h
def s_L_lay_51 (k6 : Nat → Nat → Int32 → Int32 → Int32 → Int32 → St → Option (Int32 × St)) (a0 : Nat) (a1 : Nat) (a2 : Int32) (a3 : Int32) (a5 : Int32) (σ : St) : Option (Int32 × St) :=
 s_L_lay_52 k6 a0 a1 a2 a3 a5 0 σ
set_option maxHeartbeats 4000000 in
set_option maxRecDepth 100000 in
theorem e_L_lay_51 {r : Int32} {σ' : St} {k6 : Nat → Nat → Int32 → Int32 → Int32 → Int32 → St → Option (Int32 × St)} (hk6 : ∀ {y0 : Nat} {y1 : Nat} {y2 : Int32} {y3 : Int32} {y4 : Int32} {y5 : Int32} {σ : St}, k6 y0 y1 y2 y3 y4 y5 σ = some (r, σ') → Ev M_L_lay (393) 6 [(0, .ref y0), (1, .ref y1), (2, .int (y2)), (3, .int (y3)), (4, .int (y4)), (5, .int (y5))] [] σ (some (.int r)) σ') : ∀ {a0 : Nat} {a1 : Nat} {a2 : Int32} {a3 : Int32} {a5 : Int32} {σ : St}, s_L_lay_51 k6 a0 a1 a2 a3 a5 σ = some (r, σ') → Ev M_L_lay (393) 51 [(0, .ref a0), (1, .ref a1), (2, .int (a2)), (3, .int (a3)), (5, .int (a5))] [] σ (some (.int r)) σ' := by
  intro a0 a1 a2 a3 a5 σ h
  unfold s_L_lay_51 at h
  refine ev_iconst (v := 0) dL_lay_51 (by decide) ?_
  refine ev_sub (ls' := [(0, .ref a0), (1, .ref a1), (2, .int (a2)), (3, .int (a3)), (5, .int (a5))]) [0, 1, 2, 3, 4] rfl ?_
  exact e_L_lay_52 hk6 h
def sb_L_lay_6 (k6 : Nat → Nat → Int32 → Int32 → Int32 → Int32 → St → Option (Int32 × St)) (a0 : Nat) (a1 : Nat) (a2 : Int32) (a3 : Int32) (a4 : Int32) (a5 : Int32) (σ : St) : Option (Int32 × St) :=
 if a2 ≤ a5 then (s_L_lay_63 16000 a0 a1 a3 a4 0 σ) else (if isO σ 10 a0 = true then (bd (s_X10_wipe a0 σ) fun r25 σ23 =>
 if a4 = 0 then (s_L_lay_51 k6 a0 a1 a2 a3 a5 σ23) else (bd (s_L_offer a0 a1 ((10 * a5) + 20) σ23) fun r29 σ27 =>
 if r29 = 0 then (s_L_lay_51 k6 a0 a1 a2 a3 a5 σ27) else (if isO σ27 10 a0 = true then (bd (s_X10_resource a0 σ27) fun r34 σ32 =>
 if r34 = a5 then (s_L_lay_52 k6 a0 a1 a2 a3 a5 1 σ32) else (s_L_lay_51 k6 a0 a1 a2 a3 a5 σ32)) else none))) else none)
def s_L_lay_6 (F : Nat) : Nat → Nat → Int32 → Int32 → Int32 → Int32 → St → Option (Int32 × St) := lp (fun _ _ _ _ _ _ _ => none) (sb_L_lay_6 ) F
set_option maxHeartbeats 4000000 in
set_option maxRecDepth 100000 in
theorem e_L_lay_6 {r : Int32} {σ' : St} (F : Nat) : ∀ {a0 : Nat} {a1 : Nat} {a2 : Int32} {a3 : Int32} {a4 : Int32} {a5 : Int32} {σ : St}, s_L_lay_6 F a0 a1 a2 a3 a4 a5 σ = some (r, σ') → Ev M_L_lay (393) 6 [(0, .ref a0), (1, .ref a1), (2, .int (a2)), (3, .int (a3)), (4, .int (a4)), (5, .int (a5))] [] σ (some (.int r)) σ' := by
  induction F with
  | zero => intro a0 a1 a2 a3 a4 a5 σ h; cases h
  | succ F ih =>
    intro a0 a1 a2 a3 a4 a5 σ h
    change sb_L_lay_6  (s_L_lay_6 F) a0 a1 a2 a3 a4 a5 σ = some (r, σ') at h
    unfold sb_L_lay_6 at h
    have hk6 := @ih
    refine ev_iload 5 dL_lay_6 rfl ?_
    refine ev_iload_n 2 dL_lay_8 rfl ?_
    rcases it_some h with ⟨c21, h⟩ | ⟨c21, h⟩
    · refine ev_icmp_ge (tgt := 60) dL_lay_9 rfl c21 ?_
      refine ev_iconst (v := 0) dL_lay_60 (by decide) ?_
      refine ev_istore (ls' := [(5, .int (0)), (0, .ref a0), (1, .ref a1), (2, .int (a2)), (3, .int (a3)), (4, .int (a4))]) dL_lay_61 (by decide) rfl ?_
      refine ev_sub (ls' := [(0, .ref a0), (1, .ref a1), (3, .int (a3)), (4, .int (a4)), (5, .int (0))]) [1, 2, 4, 5, 0] rfl ?_
      exact e_L_lay_63 16000 h
    · refine ev_icmp_ge_n 60 dL_lay_9 rfl c21 ?_
      refine ev_aload_nR 0 dL_lay_12 rfl ?_
      obtain ⟨g22, h⟩ := gd_some h
      obtain ⟨r25, σ23, e24, h⟩ := bd_some h
      refine ev_invVi (As := []) (st := []) dL_lay_13 cb_X10_wipe tp_275 tp_276 tp_277 kf10 rfl (by omega) g22 rfl rfl (Nat.le_of_ble_eq_true rfl) (x_X10_wipe e24) ?_
      refine ev_pop dL_lay_16 rfl ?_
      refine ev_iload 4 dL_lay_17 rfl ?_
      rcases it_some h with ⟨c26, h⟩ | ⟨c26, h⟩
      · refine ev_if_eq (tgt := 51) dL_lay_19 rfl c26 ?_
        refine ev_sub (ls' := [(0, .ref a0), (1, .ref a1), (2, .int (a2)), (3, .int (a3)), (5, .int (a5))]) [0, 1, 2, 3, 5] rfl ?_
        exact e_L_lay_51 hk6 h
      · refine ev_if_eq_n 51 dL_lay_19 rfl c26 ?_
        refine ev_aload_nR 0 dL_lay_22 rfl ?_
        refine ev_aload_nR 1 dL_lay_23 rfl ?_
        refine ev_bipush (v := 10) dL_lay_24 (by decide) ?_
        refine ev_iload 5 dL_lay_26 rfl ?_
        refine ev_imul dL_lay_28 ?_
        refine ev_bipush (v := 20) dL_lay_29 (by decide) ?_
        refine ev_iadd dL_lay_31 ?_
        obtain ⟨r29, σ27, e28, h⟩ := bd_some h
        refine ev_invSi (As := [.ref a0, .ref a1, .int ((10 * a5) + 20)]) (st := []) dL_lay_32 cb_L_offer tp_828 tp_829 (by omega) rfl rfl (Nat.le_of_ble_eq_true rfl) (x_L_offer e28) ?_
        rcases it_some h with ⟨c30, h⟩ | ⟨c30, h⟩
        · refine ev_if_eq (tgt := 51) dL_lay_35 rfl c30 ?_
          refine ev_sub (ls' := [(0, .ref a0), (1, .ref a1), (2, .int (a2)), (3, .int (a3)), (5, .int (a5))]) [0, 1, 2, 3, 5] rfl ?_
          exact e_L_lay_51 hk6 h
        · refine ev_if_eq_n 51 dL_lay_35 rfl c30 ?_
          refine ev_aload_nR 0 dL_lay_38 rfl ?_
          obtain ⟨g31, h⟩ := gd_some h
          obtain ⟨r34, σ32, e33, h⟩ := bd_some h
          refine ev_invVi (As := []) (st := []) dL_lay_39 cb_X10_resource tp_831 tp_832 tp_833 kf10 rfl (by omega) g31 rfl rfl (Nat.le_of_ble_eq_true rfl) (x_X10_resource e33) ?_
          refine ev_iload 5 dL_lay_42 rfl ?_
          rcases it_some h with ⟨c35, h⟩ | ⟨c35, h⟩
          · refine ev_icmp_ne_n 51 dL_lay_44 rfl c35 ?_
            refine ev_iconst (v := 1) dL_lay_47 (by decide) ?_
            refine ev_goto (tgt := 52) dL_lay_48 rfl ?_
            refine ev_sub (ls' := [(0, .ref a0), (1, .ref a1), (2, .int (a2)), (3, .int (a3)), (5, .int (a5))]) [0, 1, 2, 3, 5] rfl ?_
            exact e_L_lay_52 hk6 h
          · refine ev_icmp_ne (tgt := 51) dL_lay_44 rfl c35 ?_
            refine ev_sub (ls' := [(0, .ref a0), (1, .ref a1), (2, .int (a2)), (3, .int (a3)), (5, .int (a5))]) [0, 1, 2, 3, 5] rfl ?_
            exact e_L_lay_51 hk6 h
def s_L_lay (a0 : Nat) (a1 : Nat) (a2 : Int32) (a3 : Int32) (σ : St) : Option (Int32 × St) :=
 s_L_lay_6 16000 a0 a1 a2 a3 1 0 σ
set_option maxHeartbeats 4000000 in
set_option maxRecDepth 100000 in
theorem x_L_lay {a0 : Nat} {a1 : Nat} {a2 : Int32} {a3 : Int32} {σ : St} {r : Int32} {σ' : St} (h : s_L_lay a0 a1 a2 a3 σ = some (r, σ')) : Ex M_L_lay (393) [.ref a0, .ref a1, .int (a2), .int (a3)] σ (some (.int r)) σ' := by
  unfold s_L_lay at h
  refine ex_of (by decide) rfl (Nat.le_of_ble_eq_true rfl) ?_
  show Ev _ _ 0 [(0, .ref a0), (1, .ref a1), (2, .int (a2)), (3, .int (a3))] [] _ _ _
  refine ev_iconst (v := 1) dL_lay_0 (by decide) ?_
  refine ev_istore (ls' := [(4, .int (1)), (0, .ref a0), (1, .ref a1), (2, .int (a2)), (3, .int (a3))]) dL_lay_1 (by decide) rfl ?_
  refine ev_iconst (v := 0) dL_lay_3 (by decide) ?_
  refine ev_istore (ls' := [(5, .int (0)), (4, .int (1)), (0, .ref a0), (1, .ref a1), (2, .int (a2)), (3, .int (a3))]) dL_lay_4 (by decide) rfl ?_
  refine ev_sub (ls' := [(0, .ref a0), (1, .ref a1), (2, .int (a2)), (3, .int (a3)), (4, .int (1)), (5, .int (0))]) [2, 3, 4, 5, 1, 0] rfl ?_
  exact e_L_lay_6 16000 h
def s_L_areHeights_334 (k293 : Nat → Int32 → Int32 → Int32 → Int32 → St → Option (Int32 × St)) (a0 : Nat) (a1 : Int32) (a2 : Int32) (a5 : Int32) (t0 : Int32) (t1 : Int32) (σ : St) : Option (Int32 × St) :=
 lt (t0 ||| t1 : Int32) fun v1 =>
 lt (a5 + 1 : Int32) fun v3 =>
 k293 a0 a1 a2 v1 v3 σ
set_option maxHeartbeats 4000000 in
set_option maxRecDepth 100000 in
theorem e_L_areHeights_334 {r : Int32} {σ' : St} {k293 : Nat → Int32 → Int32 → Int32 → Int32 → St → Option (Int32 × St)} (hk293 : ∀ {y0 : Nat} {y1 : Int32} {y2 : Int32} {y3 : Int32} {y4 : Int32} {σ : St}, k293 y0 y1 y2 y3 y4 σ = some (r, σ') → Ev M_L_areHeights (393) 293 [(0, .ref y0), (1, .int (y1)), (2, .int (y2)), (4, .int (y3)), (5, .int (y4))] [] σ (some (.int r)) σ') : ∀ {a0 : Nat} {a1 : Int32} {a2 : Int32} {a5 : Int32} {t0 : Int32} {t1 : Int32} {σ : St}, s_L_areHeights_334 k293 a0 a1 a2 a5 t0 t1 σ = some (r, σ') → Ev M_L_areHeights (393) 334 [(0, .ref a0), (1, .int (a1)), (2, .int (a2)), (5, .int (a5))] [.int (t1), .int (t0)] σ (some (.int r)) σ' := by
  intro a0 a1 a2 a5 t0 t1 σ h
  unfold s_L_areHeights_334 at h
  refine ev_ior dL_areHeights_334 ?_
  obtain ⟨v1, e2, h⟩ := lt_some h
  refine ev_topI e2 ?_
  refine ev_istore (ls' := [(4, .int (v1)), (0, .ref a0), (1, .int (a1)), (2, .int (a2)), (5, .int (a5))]) dL_areHeights_335 (by decide) rfl ?_
  obtain ⟨v3, e4, h⟩ := lt_some h
  refine ev_iinc (v := v3) (ls' := [(5, .int (v3)), (4, .int (v1)), (0, .ref a0), (1, .int (a1)), (2, .int (a2))]) 4 dL_areHeights_337 rfl e4.symm (by decide) rfl ?_
  refine ev_goto (tgt := 293) dL_areHeights_340 rfl ?_
  refine ev_sub (ls' := [(0, .ref a0), (1, .int (a1)), (2, .int (a2)), (4, .int (v1)), (5, .int (v3))]) [2, 3, 4, 1, 0] rfl ?_
  exact hk293 h
def s_L_areHeights_333 (k293 : Nat → Int32 → Int32 → Int32 → Int32 → St → Option (Int32 × St)) (a0 : Nat) (a1 : Int32) (a2 : Int32) (a5 : Int32) (t0 : Int32) (σ : St) : Option (Int32 × St) :=
 s_L_areHeights_334 k293 a0 a1 a2 a5 t0 0 σ
set_option maxHeartbeats 4000000 in
set_option maxRecDepth 100000 in
theorem e_L_areHeights_333 {r : Int32} {σ' : St} {k293 : Nat → Int32 → Int32 → Int32 → Int32 → St → Option (Int32 × St)} (hk293 : ∀ {y0 : Nat} {y1 : Int32} {y2 : Int32} {y3 : Int32} {y4 : Int32} {σ : St}, k293 y0 y1 y2 y3 y4 σ = some (r, σ') → Ev M_L_areHeights (393) 293 [(0, .ref y0), (1, .int (y1)), (2, .int (y2)), (4, .int (y3)), (5, .int (y4))] [] σ (some (.int r)) σ') : ∀ {a0 : Nat} {a1 : Int32} {a2 : Int32} {a5 : Int32} {t0 : Int32} {σ : St}, s_L_areHeights_333 k293 a0 a1 a2 a5 t0 σ = some (r, σ') → Ev M_L_areHeights (393) 333 [(0, .ref a0), (1, .int (a1)), (2, .int (a2)), (5, .int (a5))] [.int (t0)] σ (some (.int r)) σ' := by
  intro a0 a1 a2 a5 t0 σ h
  unfold s_L_areHeights_333 at h
  refine ev_iconst (v := 0) dL_areHeights_333 (by decide) ?_
  refine ev_sub (ls' := [(0, .ref a0), (1, .int (a1)), (2, .int (a2)), (5, .int (a5))]) [0, 1, 2, 3] rfl ?_
  exact e_L_areHeights_334 hk293 h
def sb_L_areHeights_293 (k293 : Nat → Int32 → Int32 → Int32 → Int32 → St → Option (Int32 × St)) (a0 : Nat) (a1 : Int32) (a2 : Int32) (a4 : Int32) (a5 : Int32) (σ : St) : Option (Int32 × St) :=
 if (5 : Int32) ≤ a5 then (if isO σ 10 a0 = true then (bd (s_X10_fewest a0 σ) fun r9 σ7 =>
 if r9 = a2 then (if isO σ7 10 a0 = true then (bd (s_X10_needed a0 σ7) fun r14 σ12 =>
 if r14 = a4 then (if isO σ12 10 a0 = true then (bd (s_X10_left a0 11 0 σ12) fun r19 σ17 =>
 if r19 = ((-2)) then (if isO σ17 10 a0 = true then (bd (s_X10_left a0 ((-1)) 0 σ17) fun r24 σ22 =>
 if r24 = ((-2)) then (if isO σ22 10 a0 = true then (bd (s_X10_left a0 0 ((-2)) σ22) fun r29 σ27 =>
 if r29 = ((-2)) then (if isO σ27 10 a0 = true then (bd (s_X10_ways a0 0 11 σ27) fun r34 σ32 =>
 if r34 = ((-2)) then (if isO σ32 10 a0 = true then (bd (s_X10_height a0 ((-1)) σ32) fun r39 σ37 =>
 if r39 = ((-1)) then (some (1, σ37)) else (some (0, σ37))) else none) else (some (0, σ32))) else none) else (some (0, σ27))) else none) else (some (0, σ22))) else none) else (some (0, σ17))) else none) else (some (0, σ12))) else none) else (some (0, σ7))) else none) else (if ((a1 >>> (a5 &&& 31)) &&& 1) = 1 then (if isO σ 10 a0 = true then (bd (s_X10_height a0 (a1 &&& ((1 <<< (a5 &&& 31)) ^^^ ((-1)))) σ) fun r45 σ43 =>
 if (0 : Int32) ≤ r45 then (s_L_areHeights_333 k293 a0 a1 a2 a5 a4 σ43) else (s_L_areHeights_334 k293 a0 a1 a2 a5 a4 (1 <<< (a5 &&& 31)) σ43)) else none) else (s_L_areHeights_333 k293 a0 a1 a2 a5 a4 σ))
def s_L_areHeights_293 (F : Nat) : Nat → Int32 → Int32 → Int32 → Int32 → St → Option (Int32 × St) := lp (fun _ _ _ _ _ _ => none) (sb_L_areHeights_293 ) F
set_option maxHeartbeats 4000000 in
set_option maxRecDepth 100000 in
theorem e_L_areHeights_293 {r : Int32} {σ' : St} (F : Nat) : ∀ {a0 : Nat} {a1 : Int32} {a2 : Int32} {a4 : Int32} {a5 : Int32} {σ : St}, s_L_areHeights_293 F a0 a1 a2 a4 a5 σ = some (r, σ') → Ev M_L_areHeights (393) 293 [(0, .ref a0), (1, .int (a1)), (2, .int (a2)), (4, .int (a4)), (5, .int (a5))] [] σ (some (.int r)) σ' := by
  induction F with
  | zero => intro a0 a1 a2 a4 a5 σ h; cases h
  | succ F ih =>
    intro a0 a1 a2 a4 a5 σ h
    change sb_L_areHeights_293  (s_L_areHeights_293 F) a0 a1 a2 a4 a5 σ = some (r, σ') at h
    unfold sb_L_areHeights_293 at h
    have hk293 := @ih
    refine ev_iload 4 dL_areHeights_293 rfl ?_
    refine ev_iconst (v := 5) dL_areHeights_295 (by decide) ?_
    rcases it_some h with ⟨c5, h⟩ | ⟨c5, h⟩
    · refine ev_icmp_ge (tgt := 343) dL_areHeights_296 rfl c5 ?_
      refine ev_aload_nR 0 dL_areHeights_343 rfl ?_
      obtain ⟨g6, h⟩ := gd_some h
      obtain ⟨r9, σ7, e8, h⟩ := bd_some h
      refine ev_invVi (As := []) (st := []) dL_areHeights_344 cb_X10_fewest tp_635 tp_636 tp_637 kf10 rfl (by omega) g6 rfl rfl (Nat.le_of_ble_eq_true rfl) (x_X10_fewest e8) ?_
      refine ev_iload_n 2 dL_areHeights_347 rfl ?_
      rcases it_some h with ⟨c10, h⟩ | ⟨c10, h⟩
      · refine ev_icmp_ne_n 420 dL_areHeights_348 rfl c10 ?_
        refine ev_aload_nR 0 dL_areHeights_351 rfl ?_
        obtain ⟨g11, h⟩ := gd_some h
        obtain ⟨r14, σ12, e13, h⟩ := bd_some h
        refine ev_invVi (As := []) (st := []) dL_areHeights_352 cb_X10_needed tp_643 tp_644 tp_645 kf10 rfl (by omega) g11 rfl rfl (Nat.le_of_ble_eq_true rfl) (x_X10_needed e13) ?_
        refine ev_iload 3 dL_areHeights_355 rfl ?_
        rcases it_some h with ⟨c15, h⟩ | ⟨c15, h⟩
        · refine ev_icmp_ne_n 420 dL_areHeights_357 rfl c15 ?_
          refine ev_aload_nR 0 dL_areHeights_360 rfl ?_
          refine ev_bipush (v := 11) dL_areHeights_361 (by decide) ?_
          refine ev_iconst (v := 0) dL_areHeights_363 (by decide) ?_
          obtain ⟨g16, h⟩ := gd_some h
          obtain ⟨r19, σ17, e18, h⟩ := bd_some h
          refine ev_invVi (As := [.int (11), .int (0)]) (st := []) dL_areHeights_364 cb_X10_left tp_630 tp_631 tp_632 kf10 rfl (by omega) g16 rfl rfl (Nat.le_of_ble_eq_true rfl) (x_X10_left e18) ?_
          refine ev_bipush (v := (-2)) dL_areHeights_367 (by decide) ?_
          rcases it_some h with ⟨c20, h⟩ | ⟨c20, h⟩
          · refine ev_icmp_ne_n 420 dL_areHeights_369 rfl c20 ?_
            refine ev_aload_nR 0 dL_areHeights_372 rfl ?_
            refine ev_iconst (v := (-1)) dL_areHeights_373 (by decide) ?_
            refine ev_iconst (v := 0) dL_areHeights_374 (by decide) ?_
            obtain ⟨g21, h⟩ := gd_some h
            obtain ⟨r24, σ22, e23, h⟩ := bd_some h
            refine ev_invVi (As := [.int ((-1)), .int (0)]) (st := []) dL_areHeights_375 cb_X10_left tp_630 tp_631 tp_632 kf10 rfl (by omega) g21 rfl rfl (Nat.le_of_ble_eq_true rfl) (x_X10_left e23) ?_
            refine ev_bipush (v := (-2)) dL_areHeights_378 (by decide) ?_
            rcases it_some h with ⟨c25, h⟩ | ⟨c25, h⟩
            · refine ev_icmp_ne_n 420 dL_areHeights_380 rfl c25 ?_
              refine ev_aload_nR 0 dL_areHeights_383 rfl ?_
              refine ev_iconst (v := 0) dL_areHeights_384 (by decide) ?_
              refine ev_bipush (v := (-2)) dL_areHeights_385 (by decide) ?_
              obtain ⟨g26, h⟩ := gd_some h
              obtain ⟨r29, σ27, e28, h⟩ := bd_some h
              refine ev_invVi (As := [.int (0), .int ((-2))]) (st := []) dL_areHeights_387 cb_X10_left tp_630 tp_631 tp_632 kf10 rfl (by omega) g26 rfl rfl (Nat.le_of_ble_eq_true rfl) (x_X10_left e28) ?_
              refine ev_bipush (v := (-2)) dL_areHeights_390 (by decide) ?_
              rcases it_some h with ⟨c30, h⟩ | ⟨c30, h⟩
              · refine ev_icmp_ne_n 420 dL_areHeights_392 rfl c30 ?_
                refine ev_aload_nR 0 dL_areHeights_395 rfl ?_
                refine ev_iconst (v := 0) dL_areHeights_396 (by decide) ?_
                refine ev_bipush (v := 11) dL_areHeights_397 (by decide) ?_
                obtain ⟨g31, h⟩ := gd_some h
                obtain ⟨r34, σ32, e33, h⟩ := bd_some h
                refine ev_invVi (As := [.int (0), .int (11)]) (st := []) dL_areHeights_399 cb_X10_ways tp_850 tp_851 tp_852 kf10 rfl (by omega) g31 rfl rfl (Nat.le_of_ble_eq_true rfl) (x_X10_ways e33) ?_
                refine ev_bipush (v := (-2)) dL_areHeights_402 (by decide) ?_
                rcases it_some h with ⟨c35, h⟩ | ⟨c35, h⟩
                · refine ev_icmp_ne_n 420 dL_areHeights_404 rfl c35 ?_
                  refine ev_aload_nR 0 dL_areHeights_407 rfl ?_
                  refine ev_iconst (v := (-1)) dL_areHeights_408 (by decide) ?_
                  obtain ⟨g36, h⟩ := gd_some h
                  obtain ⟨r39, σ37, e38, h⟩ := bd_some h
                  refine ev_invVi (As := [.int ((-1))]) (st := []) dL_areHeights_409 cb_X10_height tp_482 tp_483 tp_484 kf10 rfl (by omega) g36 rfl rfl (Nat.le_of_ble_eq_true rfl) (x_X10_height e38) ?_
                  refine ev_iconst (v := (-1)) dL_areHeights_412 (by decide) ?_
                  rcases it_some h with ⟨c40, h⟩ | ⟨c40, h⟩
                  · refine ev_icmp_ne_n 420 dL_areHeights_413 rfl c40 ?_
                    refine ev_iconst (v := 1) dL_areHeights_416 (by decide) ?_
                    refine ev_goto (tgt := 421) dL_areHeights_417 rfl ?_
                    exact ev_retI .boolean dL_areHeights_421 rfl rfl h
                  · refine ev_icmp_ne (tgt := 420) dL_areHeights_413 rfl c40 ?_
                    refine ev_iconst (v := 0) dL_areHeights_420 (by decide) ?_
                    exact ev_retI .boolean dL_areHeights_421 rfl rfl h
                · refine ev_icmp_ne (tgt := 420) dL_areHeights_404 rfl c35 ?_
                  refine ev_iconst (v := 0) dL_areHeights_420 (by decide) ?_
                  exact ev_retI .boolean dL_areHeights_421 rfl rfl h
              · refine ev_icmp_ne (tgt := 420) dL_areHeights_392 rfl c30 ?_
                refine ev_iconst (v := 0) dL_areHeights_420 (by decide) ?_
                exact ev_retI .boolean dL_areHeights_421 rfl rfl h
            · refine ev_icmp_ne (tgt := 420) dL_areHeights_380 rfl c25 ?_
              refine ev_iconst (v := 0) dL_areHeights_420 (by decide) ?_
              exact ev_retI .boolean dL_areHeights_421 rfl rfl h
          · refine ev_icmp_ne (tgt := 420) dL_areHeights_369 rfl c20 ?_
            refine ev_iconst (v := 0) dL_areHeights_420 (by decide) ?_
            exact ev_retI .boolean dL_areHeights_421 rfl rfl h
        · refine ev_icmp_ne (tgt := 420) dL_areHeights_357 rfl c15 ?_
          refine ev_iconst (v := 0) dL_areHeights_420 (by decide) ?_
          exact ev_retI .boolean dL_areHeights_421 rfl rfl h
      · refine ev_icmp_ne (tgt := 420) dL_areHeights_348 rfl c10 ?_
        refine ev_iconst (v := 0) dL_areHeights_420 (by decide) ?_
        exact ev_retI .boolean dL_areHeights_421 rfl rfl h
    · refine ev_icmp_ge_n 343 dL_areHeights_296 rfl c5 ?_
      refine ev_iload 3 dL_areHeights_299 rfl ?_
      refine ev_iload_n 1 dL_areHeights_301 rfl ?_
      refine ev_iload 4 dL_areHeights_302 rfl ?_
      refine ev_ishr dL_areHeights_304 ?_
      refine ev_iconst (v := 1) dL_areHeights_305 (by decide) ?_
      refine ev_iand dL_areHeights_306 ?_
      refine ev_iconst (v := 1) dL_areHeights_307 (by decide) ?_
      rcases it_some h with ⟨c41, h⟩ | ⟨c41, h⟩
      · refine ev_icmp_ne_n 333 dL_areHeights_308 rfl c41 ?_
        refine ev_aload_nR 0 dL_areHeights_311 rfl ?_
        refine ev_iload_n 1 dL_areHeights_312 rfl ?_
        refine ev_iconst (v := 1) dL_areHeights_313 (by decide) ?_
        refine ev_iload 4 dL_areHeights_314 rfl ?_
        refine ev_ishl dL_areHeights_316 ?_
        refine ev_iconst (v := (-1)) dL_areHeights_317 (by decide) ?_
        refine ev_ixor dL_areHeights_318 ?_
        refine ev_iand dL_areHeights_319 ?_
        obtain ⟨g42, h⟩ := gd_some h
        obtain ⟨r45, σ43, e44, h⟩ := bd_some h
        refine ev_invVi (As := [.int (a1 &&& ((1 <<< (a5 &&& 31)) ^^^ ((-1))))]) (st := [.int (a4)]) dL_areHeights_320 cb_X10_height tp_482 tp_483 tp_484 kf10 rfl (by omega) g42 rfl rfl (Nat.le_of_ble_eq_true rfl) (x_X10_height e44) ?_
        rcases it_some h with ⟨c46, h⟩ | ⟨c46, h⟩
        · refine ev_if_ge (tgt := 333) dL_areHeights_323 rfl c46 ?_
          refine ev_sub (ls' := [(0, .ref a0), (1, .int (a1)), (2, .int (a2)), (5, .int (a5))]) [0, 1, 2, 4] rfl ?_
          exact e_L_areHeights_333 hk293 h
        · refine ev_if_ge_n 333 dL_areHeights_323 rfl c46 ?_
          refine ev_iconst (v := 1) dL_areHeights_326 (by decide) ?_
          refine ev_iload 4 dL_areHeights_327 rfl ?_
          refine ev_ishl dL_areHeights_329 ?_
          refine ev_goto (tgt := 334) dL_areHeights_330 rfl ?_
          refine ev_sub (ls' := [(0, .ref a0), (1, .int (a1)), (2, .int (a2)), (5, .int (a5))]) [0, 1, 2, 4] rfl ?_
          exact e_L_areHeights_334 hk293 h
      · refine ev_icmp_ne (tgt := 333) dL_areHeights_308 rfl c41 ?_
        refine ev_sub (ls' := [(0, .ref a0), (1, .int (a1)), (2, .int (a2)), (5, .int (a5))]) [0, 1, 2, 4] rfl ?_
        exact e_L_areHeights_333 hk293 h
def s_L_areHeights_206 (k9 : Nat → Int32 → Int32 → Int32 → Int32 → St → Option (Int32 × St)) (k22 : Nat → Int32 → Int32 → Int32 → Int32 → Int32 → Int32 → St → Option (Int32 × St)) (a0 : Nat) (a1 : Int32) (a2 : Int32) (a3 : Int32) (a4 : Int32) (a5 : Int32) (a6 : Int32) (σ : St) : Option (Int32 × St) :=
 if isO σ 10 a0 = true then (bd (s_X10_height a0 (a1 &&& (a6 ^^^ ((-1)))) σ) fun r50 σ48 =>
 if r50 ≤ 0 then (lt (a6 + 1 : Int32) fun v52 =>
 k22 a0 a1 a2 a3 a4 a5 v52 σ48) else (if a4 < r50 then (lt (a6 + 1 : Int32) fun v55 =>
 k22 a0 a1 a2 a3 a4 a5 v55 σ48) else (if isO σ48 10 a0 = true then (bd (s_X10_left a0 a4 a5 σ48) fun r60 σ58 =>
 if r60 = a6 then (lt (a5 + 1 : Int32) fun v62 =>
 lt (a6 + 1 : Int32) fun v64 =>
 k22 a0 a1 a2 a3 a4 v62 v64 σ58) else (some (0, σ58))) else none))) else none
set_option maxHeartbeats 4000000 in
set_option maxRecDepth 100000 in
theorem e_L_areHeights_206 {r : Int32} {σ' : St} {k9 : Nat → Int32 → Int32 → Int32 → Int32 → St → Option (Int32 × St)} {k22 : Nat → Int32 → Int32 → Int32 → Int32 → Int32 → Int32 → St → Option (Int32 × St)} (hk9 : ∀ {y0 : Nat} {y1 : Int32} {y2 : Int32} {y3 : Int32} {y4 : Int32} {σ : St}, k9 y0 y1 y2 y3 y4 σ = some (r, σ') → Ev M_L_areHeights (393) 9 [(0, .ref y0), (1, .int (y1)), (2, .int (y2)), (3, .int (y3)), (4, .int (y4))] [] σ (some (.int r)) σ') (hk22 : ∀ {y0 : Nat} {y1 : Int32} {y2 : Int32} {y3 : Int32} {y4 : Int32} {y5 : Int32} {y6 : Int32} {σ : St}, k22 y0 y1 y2 y3 y4 y5 y6 σ = some (r, σ') → Ev M_L_areHeights (393) 22 [(0, .ref y0), (1, .int (y1)), (2, .int (y2)), (3, .int (y3)), (4, .int (y4)), (5, .int (y5)), (6, .int (y6))] [] σ (some (.int r)) σ') : ∀ {a0 : Nat} {a1 : Int32} {a2 : Int32} {a3 : Int32} {a4 : Int32} {a5 : Int32} {a6 : Int32} {σ : St}, s_L_areHeights_206 k9 k22 a0 a1 a2 a3 a4 a5 a6 σ = some (r, σ') → Ev M_L_areHeights (393) 206 [(0, .ref a0), (1, .int (a1)), (2, .int (a2)), (3, .int (a3)), (4, .int (a4)), (5, .int (a5)), (6, .int (a6))] [] σ (some (.int r)) σ' := by
  intro a0 a1 a2 a3 a4 a5 a6 σ h
  unfold s_L_areHeights_206 at h
  refine ev_aload_nR 0 dL_areHeights_206 rfl ?_
  refine ev_iload_n 1 dL_areHeights_207 rfl ?_
  refine ev_iload 6 dL_areHeights_208 rfl ?_
  refine ev_iconst (v := (-1)) dL_areHeights_210 (by decide) ?_
  refine ev_ixor dL_areHeights_211 ?_
  refine ev_iand dL_areHeights_212 ?_
  obtain ⟨g47, h⟩ := gd_some h
  obtain ⟨r50, σ48, e49, h⟩ := bd_some h
  refine ev_invVi (As := [.int (a1 &&& (a6 ^^^ ((-1))))]) (st := []) dL_areHeights_213 cb_X10_height tp_482 tp_483 tp_484 kf10 rfl (by omega) g47 rfl rfl (Nat.le_of_ble_eq_true rfl) (x_X10_height e49) ?_
  refine ev_istore (ls' := [(10, .int (r50)), (0, .ref a0), (1, .int (a1)), (2, .int (a2)), (3, .int (a3)), (4, .int (a4)), (5, .int (a5)), (6, .int (a6))]) dL_areHeights_216 (by decide) rfl ?_
  refine ev_iload 0 dL_areHeights_218 rfl ?_
  rcases it_some h with ⟨c51, h⟩ | ⟨c51, h⟩
  · refine ev_if_le (tgt := 248) dL_areHeights_220 rfl c51 ?_
    obtain ⟨v52, e53, h⟩ := lt_some h
    refine ev_iinc (v := v52) (ls' := [(6, .int (v52)), (10, .int (r50)), (0, .ref a0), (1, .int (a1)), (2, .int (a2)), (3, .int (a3)), (4, .int (a4)), (5, .int (a5))]) 7 dL_areHeights_248 rfl e53.symm (by decide) rfl ?_
    refine ev_goto (tgt := 22) dL_areHeights_251 rfl ?_
    refine ev_sub (ls' := [(0, .ref a0), (1, .int (a1)), (2, .int (a2)), (3, .int (a3)), (4, .int (a4)), (5, .int (a5)), (6, .int (v52))]) [2, 3, 4, 5, 6, 7, 0] rfl ?_
    exact hk22 h
  · refine ev_if_le_n 248 dL_areHeights_220 rfl c51 ?_
    refine ev_iload 0 dL_areHeights_223 rfl ?_
    refine ev_iload 5 dL_areHeights_225 rfl ?_
    rcases it_some h with ⟨c54, h⟩ | ⟨c54, h⟩
    · refine ev_icmp_gt (tgt := 248) dL_areHeights_227 rfl c54 ?_
      obtain ⟨v55, e56, h⟩ := lt_some h
      refine ev_iinc (v := v55) (ls' := [(6, .int (v55)), (10, .int (r50)), (0, .ref a0), (1, .int (a1)), (2, .int (a2)), (3, .int (a3)), (4, .int (a4)), (5, .int (a5))]) 7 dL_areHeights_248 rfl e56.symm (by decide) rfl ?_
      refine ev_goto (tgt := 22) dL_areHeights_251 rfl ?_
      refine ev_sub (ls' := [(0, .ref a0), (1, .int (a1)), (2, .int (a2)), (3, .int (a3)), (4, .int (a4)), (5, .int (a5)), (6, .int (v55))]) [2, 3, 4, 5, 6, 7, 0] rfl ?_
      exact hk22 h
    · refine ev_icmp_gt_n 248 dL_areHeights_227 rfl c54 ?_
      refine ev_aload_nR 1 dL_areHeights_230 rfl ?_
      refine ev_iload 5 dL_areHeights_231 rfl ?_
      refine ev_iload 6 dL_areHeights_233 rfl ?_
      obtain ⟨g57, h⟩ := gd_some h
      obtain ⟨r60, σ58, e59, h⟩ := bd_some h
      refine ev_invVi (As := [.int (a4), .int (a5)]) (st := []) dL_areHeights_235 cb_X10_left tp_630 tp_631 tp_632 kf10 rfl (by omega) g57 rfl rfl (Nat.le_of_ble_eq_true rfl) (x_X10_left e59) ?_
      refine ev_iload 7 dL_areHeights_238 rfl ?_
      rcases it_some h with ⟨c61, h⟩ | ⟨c61, h⟩
      · refine ev_icmp_eq (tgt := 245) dL_areHeights_240 rfl c61 ?_
        obtain ⟨v62, e63, h⟩ := lt_some h
        refine ev_iinc (v := v62) (ls' := [(5, .int (v62)), (10, .int (r50)), (0, .ref a0), (1, .int (a1)), (2, .int (a2)), (3, .int (a3)), (4, .int (a4)), (6, .int (a6))]) 6 dL_areHeights_245 rfl e63.symm (by decide) rfl ?_
        obtain ⟨v64, e65, h⟩ := lt_some h
        refine ev_iinc (v := v64) (ls' := [(6, .int (v64)), (5, .int (v62)), (10, .int (r50)), (0, .ref a0), (1, .int (a1)), (2, .int (a2)), (3, .int (a3)), (4, .int (a4))]) 7 dL_areHeights_248 rfl e65.symm (by decide) rfl ?_
        refine ev_goto (tgt := 22) dL_areHeights_251 rfl ?_
        refine ev_sub (ls' := [(0, .ref a0), (1, .int (a1)), (2, .int (a2)), (3, .int (a3)), (4, .int (a4)), (5, .int (v62)), (6, .int (v64))]) [3, 4, 5, 6, 7, 1, 0] rfl ?_
        exact hk22 h
      · refine ev_icmp_eq_n 245 dL_areHeights_240 rfl c61 ?_
        refine ev_iconst (v := 0) dL_areHeights_243 (by decide) ?_
        exact ev_retI .boolean dL_areHeights_244 rfl rfl h
def s_L_areHeights_200 (k9 : Nat → Int32 → Int32 → Int32 → Int32 → St → Option (Int32 × St)) (k22 : Nat → Int32 → Int32 → Int32 → Int32 → Int32 → Int32 → St → Option (Int32 × St)) (a0 : Nat) (a1 : Int32) (a4 : Int32) (a5 : Int32) (a6 : Int32) (a9 : Int32) (σ : St) : Option (Int32 × St) :=
 s_L_areHeights_206 k9 k22 a0 a1 a6 a9 a4 a5 a6 σ
set_option maxHeartbeats 4000000 in
set_option maxRecDepth 100000 in
theorem e_L_areHeights_200 {r : Int32} {σ' : St} {k9 : Nat → Int32 → Int32 → Int32 → Int32 → St → Option (Int32 × St)} {k22 : Nat → Int32 → Int32 → Int32 → Int32 → Int32 → Int32 → St → Option (Int32 × St)} (hk9 : ∀ {y0 : Nat} {y1 : Int32} {y2 : Int32} {y3 : Int32} {y4 : Int32} {σ : St}, k9 y0 y1 y2 y3 y4 σ = some (r, σ') → Ev M_L_areHeights (393) 9 [(0, .ref y0), (1, .int (y1)), (2, .int (y2)), (3, .int (y3)), (4, .int (y4))] [] σ (some (.int r)) σ') (hk22 : ∀ {y0 : Nat} {y1 : Int32} {y2 : Int32} {y3 : Int32} {y4 : Int32} {y5 : Int32} {y6 : Int32} {σ : St}, k22 y0 y1 y2 y3 y4 y5 y6 σ = some (r, σ') → Ev M_L_areHeights (393) 22 [(0, .ref y0), (1, .int (y1)), (2, .int (y2)), (3, .int (y3)), (4, .int (y4)), (5, .int (y5)), (6, .int (y6))] [] σ (some (.int r)) σ') : ∀ {a0 : Nat} {a1 : Int32} {a4 : Int32} {a5 : Int32} {a6 : Int32} {a9 : Int32} {σ : St}, s_L_areHeights_200 k9 k22 a0 a1 a4 a5 a6 a9 σ = some (r, σ') → Ev M_L_areHeights (393) 200 [(0, .ref a0), (1, .int (a1)), (4, .int (a4)), (5, .int (a5)), (6, .int (a6)), (9, .int (a9))] [] σ (some (.int r)) σ' := by
  intro a0 a1 a4 a5 a6 a9 σ h
  unfold s_L_areHeights_200 at h
  refine ev_iload 5 dL_areHeights_200 rfl ?_
  refine ev_istore_n (ls' := [(3, .int (a9)), (0, .ref a0), (1, .int (a1)), (4, .int (a4)), (5, .int (a5)), (6, .int (a6)), (9, .int (a9))]) dL_areHeights_202 (by decide) rfl ?_
  refine ev_iload 5 dL_areHeights_203 rfl ?_
  refine ev_istore_n (ls' := [(2, .int (a6)), (3, .int (a9)), (0, .ref a0), (1, .int (a1)), (4, .int (a4)), (5, .int (a5)), (6, .int (a6)), (9, .int (a9))]) dL_areHeights_205 (by decide) rfl ?_
  refine ev_sub (ls' := [(0, .ref a0), (1, .int (a1)), (2, .int (a6)), (3, .int (a9)), (4, .int (a4)), (5, .int (a5)), (6, .int (a6))]) [2, 3, 0, 1, 4, 5, 6] rfl ?_
  exact e_L_areHeights_206 hk9 hk22 h
def sb_L_areHeights_153 (k9 : Nat → Int32 → Int32 → Int32 → Int32 → St → Option (Int32 × St)) (k22 : Nat → Int32 → Int32 → Int32 → Int32 → Int32 → Int32 → St → Option (Int32 × St)) (k153 : Nat → Int32 → Int32 → Int32 → Int32 → Int32 → Int32 → Int32 → Int32 → Int32 → St → Option (Int32 × St)) (a0 : Nat) (a1 : Int32) (a2 : Int32) (a3 : Int32) (a4 : Int32) (a5 : Int32) (a6 : Int32) (a8 : Int32) (a9 : Int32) (a10 : Int32) (σ : St) : Option (Int32 × St) :=
 if (5 : Int32) ≤ a10 then (if a8 ≤ 0 then (s_L_areHeights_206 k9 k22 a0 a1 a2 a3 a4 a5 a6 σ) else (if a9 < a3 then (s_L_areHeights_200 k9 k22 a0 a1 a4 a5 a6 a9 σ) else (if a9 = a3 then (if a2 ≤ a6 then (s_L_areHeights_206 k9 k22 a0 a1 a2 a3 a4 a5 a6 σ) else (s_L_areHeights_200 k9 k22 a0 a1 a4 a5 a6 a9 σ)) else (s_L_areHeights_206 k9 k22 a0 a1 a2 a3 a4 a5 a6 σ)))) else (lt (a9 + ((a6 >>> (a10 &&& 31)) &&& 1) : Int32) fun v71 =>
 lt (a10 + 1 : Int32) fun v73 =>
 k153 a0 a1 a2 a3 a4 a5 a6 a8 v71 v73 σ)
def s_L_areHeights_153 (k9 : Nat → Int32 → Int32 → Int32 → Int32 → St → Option (Int32 × St)) (k22 : Nat → Int32 → Int32 → Int32 → Int32 → Int32 → Int32 → St → Option (Int32 × St)) (F : Nat) : Nat → Int32 → Int32 → Int32 → Int32 → Int32 → Int32 → Int32 → Int32 → Int32 → St → Option (Int32 × St) := lp (fun _ _ _ _ _ _ _ _ _ _ _ => none) (sb_L_areHeights_153 k9 k22) F
set_option maxHeartbeats 4000000 in
set_option maxRecDepth 100000 in
theorem e_L_areHeights_153 {r : Int32} {σ' : St} {k9 : Nat → Int32 → Int32 → Int32 → Int32 → St → Option (Int32 × St)} {k22 : Nat → Int32 → Int32 → Int32 → Int32 → Int32 → Int32 → St → Option (Int32 × St)} (hk9 : ∀ {y0 : Nat} {y1 : Int32} {y2 : Int32} {y3 : Int32} {y4 : Int32} {σ : St}, k9 y0 y1 y2 y3 y4 σ = some (r, σ') → Ev M_L_areHeights (393) 9 [(0, .ref y0), (1, .int (y1)), (2, .int (y2)), (3, .int (y3)), (4, .int (y4))] [] σ (some (.int r)) σ') (hk22 : ∀ {y0 : Nat} {y1 : Int32} {y2 : Int32} {y3 : Int32} {y4 : Int32} {y5 : Int32} {y6 : Int32} {σ : St}, k22 y0 y1 y2 y3 y4 y5 y6 σ = some (r, σ') → Ev M_L_areHeights (393) 22 [(0, .ref y0), (1, .int (y1)), (2, .int (y2)), (3, .int (y3)), (4, .int (y4)), (5, .int (y5)), (6, .int (y6))] [] σ (some (.int r)) σ') (F : Nat) : ∀ {a0 : Nat} {a1 : Int32} {a2 : Int32} {a3 : Int32} {a4 : Int32} {a5 : Int32} {a6 : Int32} {a8 : Int32} {a9 : Int32} {a10 : Int32} {σ : St}, s_L_areHeights_153 k9 k22 F a0 a1 a2 a3 a4 a5 a6 a8 a9 a10 σ = some (r, σ') → Ev M_L_areHeights (393) 153 [(0, .ref a0), (1, .int (a1)), (2, .int (a2)), (3, .int (a3)), (4, .int (a4)), (5, .int (a5)), (6, .int (a6)), (8, .int (a8)), (9, .int (a9)), (10, .int (a10))] [] σ (some (.int r)) σ' := by
  induction F with
  | zero => intro a0 a1 a2 a3 a4 a5 a6 a8 a9 a10 σ h; cases h
  | succ F ih =>
    intro a0 a1 a2 a3 a4 a5 a6 a8 a9 a10 σ h
    change sb_L_areHeights_153 k9 k22 (s_L_areHeights_153 k9 k22 F) a0 a1 a2 a3 a4 a5 a6 a8 a9 a10 σ = some (r, σ') at h
    unfold sb_L_areHeights_153 at h
    have hk153 := @ih
    refine ev_iload 9 dL_areHeights_153 rfl ?_
    refine ev_iconst (v := 5) dL_areHeights_155 (by decide) ?_
    rcases it_some h with ⟨c66, h⟩ | ⟨c66, h⟩
    · refine ev_icmp_ge (tgt := 177) dL_areHeights_156 rfl c66 ?_
      refine ev_iload 7 dL_areHeights_177 rfl ?_
      rcases it_some h with ⟨c67, h⟩ | ⟨c67, h⟩
      · refine ev_if_le (tgt := 206) dL_areHeights_179 rfl c67 ?_
        refine ev_sub (ls' := [(0, .ref a0), (1, .int (a1)), (2, .int (a2)), (3, .int (a3)), (4, .int (a4)), (5, .int (a5)), (6, .int (a6))]) [0, 1, 2, 3, 4, 5, 6] rfl ?_
        exact e_L_areHeights_206 hk9 hk22 h
      · refine ev_if_le_n 206 dL_areHeights_179 rfl c67 ?_
        refine ev_iload 8 dL_areHeights_182 rfl ?_
        refine ev_iload_n 3 dL_areHeights_184 rfl ?_
        rcases it_some h with ⟨c68, h⟩ | ⟨c68, h⟩
        · refine ev_icmp_lt (tgt := 200) dL_areHeights_185 rfl c68 ?_
          refine ev_sub (ls' := [(0, .ref a0), (1, .int (a1)), (4, .int (a4)), (5, .int (a5)), (6, .int (a6)), (9, .int (a9))]) [0, 1, 4, 5, 6, 8] rfl ?_
          exact e_L_areHeights_200 hk9 hk22 h
        · refine ev_icmp_lt_n 200 dL_areHeights_185 rfl c68 ?_
          refine ev_iload 8 dL_areHeights_188 rfl ?_
          refine ev_iload_n 3 dL_areHeights_190 rfl ?_
          rcases it_some h with ⟨c69, h⟩ | ⟨c69, h⟩
          · refine ev_icmp_ne_n 206 dL_areHeights_191 rfl c69 ?_
            refine ev_iload 6 dL_areHeights_194 rfl ?_
            refine ev_iload_n 2 dL_areHeights_196 rfl ?_
            rcases it_some h with ⟨c70, h⟩ | ⟨c70, h⟩
            · refine ev_icmp_ge (tgt := 206) dL_areHeights_197 rfl c70 ?_
              refine ev_sub (ls' := [(0, .ref a0), (1, .int (a1)), (2, .int (a2)), (3, .int (a3)), (4, .int (a4)), (5, .int (a5)), (6, .int (a6))]) [0, 1, 2, 3, 4, 5, 6] rfl ?_
              exact e_L_areHeights_206 hk9 hk22 h
            · refine ev_icmp_ge_n 206 dL_areHeights_197 rfl c70 ?_
              refine ev_sub (ls' := [(0, .ref a0), (1, .int (a1)), (4, .int (a4)), (5, .int (a5)), (6, .int (a6)), (9, .int (a9))]) [0, 1, 4, 5, 6, 8] rfl ?_
              exact e_L_areHeights_200 hk9 hk22 h
          · refine ev_icmp_ne (tgt := 206) dL_areHeights_191 rfl c69 ?_
            refine ev_sub (ls' := [(0, .ref a0), (1, .int (a1)), (2, .int (a2)), (3, .int (a3)), (4, .int (a4)), (5, .int (a5)), (6, .int (a6))]) [0, 1, 2, 3, 4, 5, 6] rfl ?_
            exact e_L_areHeights_206 hk9 hk22 h
    · refine ev_icmp_ge_n 177 dL_areHeights_156 rfl c66 ?_
      refine ev_iload 8 dL_areHeights_159 rfl ?_
      refine ev_iload 6 dL_areHeights_161 rfl ?_
      refine ev_iload 9 dL_areHeights_163 rfl ?_
      refine ev_ishr dL_areHeights_165 ?_
      refine ev_iconst (v := 1) dL_areHeights_166 (by decide) ?_
      refine ev_iand dL_areHeights_167 ?_
      refine ev_iadd dL_areHeights_168 ?_
      obtain ⟨v71, e72, h⟩ := lt_some h
      refine ev_topI e72 ?_
      refine ev_istore (ls' := [(9, .int (v71)), (0, .ref a0), (1, .int (a1)), (2, .int (a2)), (3, .int (a3)), (4, .int (a4)), (5, .int (a5)), (6, .int (a6)), (8, .int (a8)), (10, .int (a10))]) dL_areHeights_169 (by decide) rfl ?_
      obtain ⟨v73, e74, h⟩ := lt_some h
      refine ev_iinc (v := v73) (ls' := [(10, .int (v73)), (9, .int (v71)), (0, .ref a0), (1, .int (a1)), (2, .int (a2)), (3, .int (a3)), (4, .int (a4)), (5, .int (a5)), (6, .int (a6)), (8, .int (a8))]) 9 dL_areHeights_171 rfl e74.symm (by decide) rfl ?_
      refine ev_goto (tgt := 153) dL_areHeights_174 rfl ?_
      refine ev_sub (ls' := [(0, .ref a0), (1, .int (a1)), (2, .int (a2)), (3, .int (a3)), (4, .int (a4)), (5, .int (a5)), (6, .int (a6)), (8, .int (a8)), (9, .int (v71)), (10, .int (v73))]) [2, 3, 4, 5, 6, 7, 8, 9, 1, 0] rfl ?_
      exact hk153 h
def s_L_areHeights_131 (k9 : Nat → Int32 → Int32 → Int32 → Int32 → St → Option (Int32 × St)) (k22 : Nat → Int32 → Int32 → Int32 → Int32 → Int32 → Int32 → St → Option (Int32 × St)) (a0 : Nat) (a1 : Int32) (a2 : Int32) (a3 : Int32) (a4 : Int32) (a5 : Int32) (a6 : Int32) (a8 : Int32) (t0 : Int32) (t1 : Int32) (σ : St) : Option (Int32 × St) :=
 if t0 = t1 then (if isO σ 10 a0 = true then (bd (s_X10_ways a0 a6 a4 σ) fun r79 σ77 =>
 if (0 : Int32) ≤ r79 then (s_L_areHeights_153 k9 k22 16000 a0 a1 a2 a3 a4 a5 a6 a8 0 0 σ77) else (some (0, σ77))) else none) else (some (0, σ))
set_option maxHeartbeats 4000000 in
set_option maxRecDepth 100000 in
theorem e_L_areHeights_131 {r : Int32} {σ' : St} {k9 : Nat → Int32 → Int32 → Int32 → Int32 → St → Option (Int32 × St)} {k22 : Nat → Int32 → Int32 → Int32 → Int32 → Int32 → Int32 → St → Option (Int32 × St)} (hk9 : ∀ {y0 : Nat} {y1 : Int32} {y2 : Int32} {y3 : Int32} {y4 : Int32} {σ : St}, k9 y0 y1 y2 y3 y4 σ = some (r, σ') → Ev M_L_areHeights (393) 9 [(0, .ref y0), (1, .int (y1)), (2, .int (y2)), (3, .int (y3)), (4, .int (y4))] [] σ (some (.int r)) σ') (hk22 : ∀ {y0 : Nat} {y1 : Int32} {y2 : Int32} {y3 : Int32} {y4 : Int32} {y5 : Int32} {y6 : Int32} {σ : St}, k22 y0 y1 y2 y3 y4 y5 y6 σ = some (r, σ') → Ev M_L_areHeights (393) 22 [(0, .ref y0), (1, .int (y1)), (2, .int (y2)), (3, .int (y3)), (4, .int (y4)), (5, .int (y5)), (6, .int (y6))] [] σ (some (.int r)) σ') : ∀ {a0 : Nat} {a1 : Int32} {a2 : Int32} {a3 : Int32} {a4 : Int32} {a5 : Int32} {a6 : Int32} {a8 : Int32} {t0 : Int32} {t1 : Int32} {σ : St}, s_L_areHeights_131 k9 k22 a0 a1 a2 a3 a4 a5 a6 a8 t0 t1 σ = some (r, σ') → Ev M_L_areHeights (393) 131 [(0, .ref a0), (1, .int (a1)), (2, .int (a2)), (3, .int (a3)), (4, .int (a4)), (5, .int (a5)), (6, .int (a6)), (8, .int (a8))] [.int (t1), .int (t0)] σ (some (.int r)) σ' := by
  intro a0 a1 a2 a3 a4 a5 a6 a8 t0 t1 σ h
  unfold s_L_areHeights_131 at h
  rcases it_some h with ⟨c75, h⟩ | ⟨c75, h⟩
  · refine ev_icmp_ne_n 145 dL_areHeights_131 rfl c75 ?_
    refine ev_aload_nR 0 dL_areHeights_134 rfl ?_
    refine ev_iload 6 dL_areHeights_135 rfl ?_
    refine ev_iload 4 dL_areHeights_137 rfl ?_
    obtain ⟨g76, h⟩ := gd_some h
    obtain ⟨r79, σ77, e78, h⟩ := bd_some h
    refine ev_invVi (As := [.int (a6), .int (a4)]) (st := []) dL_areHeights_139 cb_X10_ways tp_850 tp_851 tp_852 kf10 rfl (by omega) g76 rfl rfl (Nat.le_of_ble_eq_true rfl) (x_X10_ways e78) ?_
    rcases it_some h with ⟨c80, h⟩ | ⟨c80, h⟩
    · refine ev_if_ge (tgt := 147) dL_areHeights_142 rfl c80 ?_
      refine ev_iconst (v := 0) dL_areHeights_147 (by decide) ?_
      refine ev_istore (ls' := [(9, .int (0)), (0, .ref a0), (1, .int (a1)), (2, .int (a2)), (3, .int (a3)), (4, .int (a4)), (5, .int (a5)), (6, .int (a6)), (8, .int (a8))]) dL_areHeights_148 (by decide) rfl ?_
      refine ev_iconst (v := 0) dL_areHeights_150 (by decide) ?_
      refine ev_istore (ls' := [(10, .int (0)), (9, .int (0)), (0, .ref a0), (1, .int (a1)), (2, .int (a2)), (3, .int (a3)), (4, .int (a4)), (5, .int (a5)), (6, .int (a6)), (8, .int (a8))]) dL_areHeights_151 (by decide) rfl ?_
      refine ev_sub (ls' := [(0, .ref a0), (1, .int (a1)), (2, .int (a2)), (3, .int (a3)), (4, .int (a4)), (5, .int (a5)), (6, .int (a6)), (8, .int (a8)), (9, .int (0)), (10, .int (0))]) [2, 3, 4, 5, 6, 7, 8, 9, 1, 0] rfl ?_
      exact e_L_areHeights_153 hk9 hk22 16000 h
    · refine ev_if_ge_n 147 dL_areHeights_142 rfl c80 ?_
      refine ev_iconst (v := 0) dL_areHeights_145 (by decide) ?_
      exact ev_retI .boolean dL_areHeights_146 rfl rfl h
  · refine ev_icmp_ne (tgt := 145) dL_areHeights_131 rfl c75 ?_
    refine ev_iconst (v := 0) dL_areHeights_145 (by decide) ?_
    exact ev_retI .boolean dL_areHeights_146 rfl rfl h
def s_L_areHeights_130 (k9 : Nat → Int32 → Int32 → Int32 → Int32 → St → Option (Int32 × St)) (k22 : Nat → Int32 → Int32 → Int32 → Int32 → Int32 → Int32 → St → Option (Int32 × St)) (a0 : Nat) (a1 : Int32) (a2 : Int32) (a3 : Int32) (a4 : Int32) (a5 : Int32) (a6 : Int32) (a8 : Int32) (t0 : Int32) (σ : St) : Option (Int32 × St) :=
 s_L_areHeights_131 k9 k22 a0 a1 a2 a3 a4 a5 a6 a8 t0 0 σ
set_option maxHeartbeats 4000000 in
set_option maxRecDepth 100000 in
theorem e_L_areHeights_130 {r : Int32} {σ' : St} {k9 : Nat → Int32 → Int32 → Int32 → Int32 → St → Option (Int32 × St)} {k22 : Nat → Int32 → Int32 → Int32 → Int32 → Int32 → Int32 → St → Option (Int32 × St)} (hk9 : ∀ {y0 : Nat} {y1 : Int32} {y2 : Int32} {y3 : Int32} {y4 : Int32} {σ : St}, k9 y0 y1 y2 y3 y4 σ = some (r, σ') → Ev M_L_areHeights (393) 9 [(0, .ref y0), (1, .int (y1)), (2, .int (y2)), (3, .int (y3)), (4, .int (y4))] [] σ (some (.int r)) σ') (hk22 : ∀ {y0 : Nat} {y1 : Int32} {y2 : Int32} {y3 : Int32} {y4 : Int32} {y5 : Int32} {y6 : Int32} {σ : St}, k22 y0 y1 y2 y3 y4 y5 y6 σ = some (r, σ') → Ev M_L_areHeights (393) 22 [(0, .ref y0), (1, .int (y1)), (2, .int (y2)), (3, .int (y3)), (4, .int (y4)), (5, .int (y5)), (6, .int (y6))] [] σ (some (.int r)) σ') : ∀ {a0 : Nat} {a1 : Int32} {a2 : Int32} {a3 : Int32} {a4 : Int32} {a5 : Int32} {a6 : Int32} {a8 : Int32} {t0 : Int32} {σ : St}, s_L_areHeights_130 k9 k22 a0 a1 a2 a3 a4 a5 a6 a8 t0 σ = some (r, σ') → Ev M_L_areHeights (393) 130 [(0, .ref a0), (1, .int (a1)), (2, .int (a2)), (3, .int (a3)), (4, .int (a4)), (5, .int (a5)), (6, .int (a6)), (8, .int (a8))] [.int (t0)] σ (some (.int r)) σ' := by
  intro a0 a1 a2 a3 a4 a5 a6 a8 t0 σ h
  unfold s_L_areHeights_130 at h
  refine ev_iconst (v := 0) dL_areHeights_130 (by decide) ?_
  refine ev_sub (ls' := [(0, .ref a0), (1, .int (a1)), (2, .int (a2)), (3, .int (a3)), (4, .int (a4)), (5, .int (a5)), (6, .int (a6)), (8, .int (a8))]) [0, 1, 2, 3, 4, 5, 6, 7] rfl ?_
  exact e_L_areHeights_131 hk9 hk22 h
def s_L_areHeights_114 (k9 : Nat → Int32 → Int32 → Int32 → Int32 → St → Option (Int32 × St)) (k22 : Nat → Int32 → Int32 → Int32 → Int32 → Int32 → Int32 → St → Option (Int32 × St)) (a0 : Nat) (a1 : Int32) (a2 : Int32) (a3 : Int32) (a4 : Int32) (a5 : Int32) (a6 : Int32) (a8 : Int32) (t0 : Int32) (σ : St) : Option (Int32 × St) :=
 if a8 ≤ 0 then (s_L_areHeights_130 k9 k22 a0 a1 a2 a3 a4 a5 a6 a8 t0 σ) else (if a4 < a8 then (s_L_areHeights_130 k9 k22 a0 a1 a2 a3 a4 a5 a6 a8 t0 σ) else (s_L_areHeights_131 k9 k22 a0 a1 a2 a3 a4 a5 a6 a8 t0 1 σ))
set_option maxHeartbeats 4000000 in
set_option maxRecDepth 100000 in
theorem e_L_areHeights_114 {r : Int32} {σ' : St} {k9 : Nat → Int32 → Int32 → Int32 → Int32 → St → Option (Int32 × St)} {k22 : Nat → Int32 → Int32 → Int32 → Int32 → Int32 → Int32 → St → Option (Int32 × St)} (hk9 : ∀ {y0 : Nat} {y1 : Int32} {y2 : Int32} {y3 : Int32} {y4 : Int32} {σ : St}, k9 y0 y1 y2 y3 y4 σ = some (r, σ') → Ev M_L_areHeights (393) 9 [(0, .ref y0), (1, .int (y1)), (2, .int (y2)), (3, .int (y3)), (4, .int (y4))] [] σ (some (.int r)) σ') (hk22 : ∀ {y0 : Nat} {y1 : Int32} {y2 : Int32} {y3 : Int32} {y4 : Int32} {y5 : Int32} {y6 : Int32} {σ : St}, k22 y0 y1 y2 y3 y4 y5 y6 σ = some (r, σ') → Ev M_L_areHeights (393) 22 [(0, .ref y0), (1, .int (y1)), (2, .int (y2)), (3, .int (y3)), (4, .int (y4)), (5, .int (y5)), (6, .int (y6))] [] σ (some (.int r)) σ') : ∀ {a0 : Nat} {a1 : Int32} {a2 : Int32} {a3 : Int32} {a4 : Int32} {a5 : Int32} {a6 : Int32} {a8 : Int32} {t0 : Int32} {σ : St}, s_L_areHeights_114 k9 k22 a0 a1 a2 a3 a4 a5 a6 a8 t0 σ = some (r, σ') → Ev M_L_areHeights (393) 114 [(0, .ref a0), (1, .int (a1)), (2, .int (a2)), (3, .int (a3)), (4, .int (a4)), (5, .int (a5)), (6, .int (a6)), (8, .int (a8))] [.int (t0)] σ (some (.int r)) σ' := by
  intro a0 a1 a2 a3 a4 a5 a6 a8 t0 σ h
  unfold s_L_areHeights_114 at h
  refine ev_iload 7 dL_areHeights_114 rfl ?_
  rcases it_some h with ⟨c81, h⟩ | ⟨c81, h⟩
  · refine ev_if_le (tgt := 130) dL_areHeights_116 rfl c81 ?_
    refine ev_sub (ls' := [(0, .ref a0), (1, .int (a1)), (2, .int (a2)), (3, .int (a3)), (4, .int (a4)), (5, .int (a5)), (6, .int (a6)), (8, .int (a8))]) [0, 1, 2, 3, 4, 5, 6, 7] rfl ?_
    exact e_L_areHeights_130 hk9 hk22 h
  · refine ev_if_le_n 130 dL_areHeights_116 rfl c81 ?_
    refine ev_iload 7 dL_areHeights_119 rfl ?_
    refine ev_iload 4 dL_areHeights_121 rfl ?_
    rcases it_some h with ⟨c82, h⟩ | ⟨c82, h⟩
    · refine ev_icmp_gt (tgt := 130) dL_areHeights_123 rfl c82 ?_
      refine ev_sub (ls' := [(0, .ref a0), (1, .int (a1)), (2, .int (a2)), (3, .int (a3)), (4, .int (a4)), (5, .int (a5)), (6, .int (a6)), (8, .int (a8))]) [0, 1, 2, 3, 4, 5, 6, 7] rfl ?_
      exact e_L_areHeights_130 hk9 hk22 h
    · refine ev_icmp_gt_n 130 dL_areHeights_123 rfl c82 ?_
      refine ev_iconst (v := 1) dL_areHeights_126 (by decide) ?_
      refine ev_goto (tgt := 131) dL_areHeights_127 rfl ?_
      refine ev_sub (ls' := [(0, .ref a0), (1, .int (a1)), (2, .int (a2)), (3, .int (a3)), (4, .int (a4)), (5, .int (a5)), (6, .int (a6)), (8, .int (a8))]) [0, 1, 2, 3, 4, 5, 6, 7] rfl ?_
      exact e_L_areHeights_131 hk9 hk22 h
def s_L_areHeights_98 (k9 : Nat → Int32 → Int32 → Int32 → Int32 → St → Option (Int32 × St)) (k22 : Nat → Int32 → Int32 → Int32 → Int32 → Int32 → Int32 → St → Option (Int32 × St)) (a0 : Nat) (a1 : Int32) (a2 : Int32) (a3 : Int32) (a4 : Int32) (a5 : Int32) (a6 : Int32) (a8 : Int32) (σ : St) : Option (Int32 × St) :=
 if isO σ 10 a0 = true then (bd (s_X10_ways a0 a6 a4 σ) fun r86 σ84 =>
 if r86 ≤ 0 then (s_L_areHeights_114 k9 k22 a0 a1 a2 a3 a4 a5 a6 a8 0 σ84) else (s_L_areHeights_114 k9 k22 a0 a1 a2 a3 a4 a5 a6 a8 1 σ84)) else none
set_option maxHeartbeats 4000000 in
set_option maxRecDepth 100000 in
theorem e_L_areHeights_98 {r : Int32} {σ' : St} {k9 : Nat → Int32 → Int32 → Int32 → Int32 → St → Option (Int32 × St)} {k22 : Nat → Int32 → Int32 → Int32 → Int32 → Int32 → Int32 → St → Option (Int32 × St)} (hk9 : ∀ {y0 : Nat} {y1 : Int32} {y2 : Int32} {y3 : Int32} {y4 : Int32} {σ : St}, k9 y0 y1 y2 y3 y4 σ = some (r, σ') → Ev M_L_areHeights (393) 9 [(0, .ref y0), (1, .int (y1)), (2, .int (y2)), (3, .int (y3)), (4, .int (y4))] [] σ (some (.int r)) σ') (hk22 : ∀ {y0 : Nat} {y1 : Int32} {y2 : Int32} {y3 : Int32} {y4 : Int32} {y5 : Int32} {y6 : Int32} {σ : St}, k22 y0 y1 y2 y3 y4 y5 y6 σ = some (r, σ') → Ev M_L_areHeights (393) 22 [(0, .ref y0), (1, .int (y1)), (2, .int (y2)), (3, .int (y3)), (4, .int (y4)), (5, .int (y5)), (6, .int (y6))] [] σ (some (.int r)) σ') : ∀ {a0 : Nat} {a1 : Int32} {a2 : Int32} {a3 : Int32} {a4 : Int32} {a5 : Int32} {a6 : Int32} {a8 : Int32} {σ : St}, s_L_areHeights_98 k9 k22 a0 a1 a2 a3 a4 a5 a6 a8 σ = some (r, σ') → Ev M_L_areHeights (393) 98 [(0, .ref a0), (1, .int (a1)), (2, .int (a2)), (3, .int (a3)), (4, .int (a4)), (5, .int (a5)), (6, .int (a6)), (8, .int (a8))] [] σ (some (.int r)) σ' := by
  intro a0 a1 a2 a3 a4 a5 a6 a8 σ h
  unfold s_L_areHeights_98 at h
  refine ev_aload_nR 0 dL_areHeights_98 rfl ?_
  refine ev_iload 6 dL_areHeights_99 rfl ?_
  refine ev_iload 4 dL_areHeights_101 rfl ?_
  obtain ⟨g83, h⟩ := gd_some h
  obtain ⟨r86, σ84, e85, h⟩ := bd_some h
  refine ev_invVi (As := [.int (a6), .int (a4)]) (st := []) dL_areHeights_103 cb_X10_ways tp_850 tp_851 tp_852 kf10 rfl (by omega) g83 rfl rfl (Nat.le_of_ble_eq_true rfl) (x_X10_ways e85) ?_
  rcases it_some h with ⟨c87, h⟩ | ⟨c87, h⟩
  · refine ev_if_le (tgt := 113) dL_areHeights_106 rfl c87 ?_
    refine ev_iconst (v := 0) dL_areHeights_113 (by decide) ?_
    refine ev_sub (ls' := [(0, .ref a0), (1, .int (a1)), (2, .int (a2)), (3, .int (a3)), (4, .int (a4)), (5, .int (a5)), (6, .int (a6)), (8, .int (a8))]) [0, 1, 2, 3, 4, 5, 6, 7] rfl ?_
    exact e_L_areHeights_114 hk9 hk22 h
  · refine ev_if_le_n 113 dL_areHeights_106 rfl c87 ?_
    refine ev_iconst (v := 1) dL_areHeights_109 (by decide) ?_
    refine ev_goto (tgt := 114) dL_areHeights_110 rfl ?_
    refine ev_sub (ls' := [(0, .ref a0), (1, .int (a1)), (2, .int (a2)), (3, .int (a3)), (4, .int (a4)), (5, .int (a5)), (6, .int (a6)), (8, .int (a8))]) [0, 1, 2, 3, 4, 5, 6, 7] rfl ?_
    exact e_L_areHeights_114 hk9 hk22 h
def s_L_areHeights_43 (k9 : Nat → Int32 → Int32 → Int32 → Int32 → St → Option (Int32 × St)) (k22 : Nat → Int32 → Int32 → Int32 → Int32 → Int32 → Int32 → St → Option (Int32 × St)) (a0 : Nat) (a1 : Int32) (a2 : Int32) (a3 : Int32) (a4 : Int32) (a5 : Int32) (a6 : Int32) (t0 : Int32) (σ : St) : Option (Int32 × St) :=
 if isO σ 10 a0 = true then (bd (s_X10_height a0 a6 σ) fun r91 σ89 =>
 if t0 = 0 then (if r91 = ((-1)) then (if isO σ89 10 a0 = true then (bd (s_X10_ways a0 a6 a4 σ89) fun r100 σ98 =>
 if r100 = ((-1)) then (lt (a6 + 1 : Int32) fun v102 =>
 k22 a0 a1 a2 a3 a4 a5 v102 σ98) else (some (0, σ98))) else none) else (some (0, σ89))) else (if r91 = ((-6)) then (s_L_areHeights_98 k9 k22 a0 a1 a2 a3 a4 a5 a6 r91 σ89) else (if r91 < 1 then (some (0, σ89)) else (if (10 : Int32) < r91 then (some (0, σ89)) else (s_L_areHeights_98 k9 k22 a0 a1 a2 a3 a4 a5 a6 r91 σ89))))) else none
set_option maxHeartbeats 4000000 in
set_option maxRecDepth 100000 in
theorem e_L_areHeights_43 {r : Int32} {σ' : St} {k9 : Nat → Int32 → Int32 → Int32 → Int32 → St → Option (Int32 × St)} {k22 : Nat → Int32 → Int32 → Int32 → Int32 → Int32 → Int32 → St → Option (Int32 × St)} (hk9 : ∀ {y0 : Nat} {y1 : Int32} {y2 : Int32} {y3 : Int32} {y4 : Int32} {σ : St}, k9 y0 y1 y2 y3 y4 σ = some (r, σ') → Ev M_L_areHeights (393) 9 [(0, .ref y0), (1, .int (y1)), (2, .int (y2)), (3, .int (y3)), (4, .int (y4))] [] σ (some (.int r)) σ') (hk22 : ∀ {y0 : Nat} {y1 : Int32} {y2 : Int32} {y3 : Int32} {y4 : Int32} {y5 : Int32} {y6 : Int32} {σ : St}, k22 y0 y1 y2 y3 y4 y5 y6 σ = some (r, σ') → Ev M_L_areHeights (393) 22 [(0, .ref y0), (1, .int (y1)), (2, .int (y2)), (3, .int (y3)), (4, .int (y4)), (5, .int (y5)), (6, .int (y6))] [] σ (some (.int r)) σ') : ∀ {a0 : Nat} {a1 : Int32} {a2 : Int32} {a3 : Int32} {a4 : Int32} {a5 : Int32} {a6 : Int32} {t0 : Int32} {σ : St}, s_L_areHeights_43 k9 k22 a0 a1 a2 a3 a4 a5 a6 t0 σ = some (r, σ') → Ev M_L_areHeights (393) 43 [(0, .ref a0), (1, .int (a1)), (2, .int (a2)), (3, .int (a3)), (4, .int (a4)), (5, .int (a5)), (6, .int (a6))] [.int (t0)] σ (some (.int r)) σ' := by
  intro a0 a1 a2 a3 a4 a5 a6 t0 σ h
  unfold s_L_areHeights_43 at h
  refine ev_istore (ls' := [(7, .int (t0)), (0, .ref a0), (1, .int (a1)), (2, .int (a2)), (3, .int (a3)), (4, .int (a4)), (5, .int (a5)), (6, .int (a6))]) dL_areHeights_43 (by decide) rfl ?_
  refine ev_aload_nR 1 dL_areHeights_45 rfl ?_
  refine ev_iload 7 dL_areHeights_46 rfl ?_
  obtain ⟨g88, h⟩ := gd_some h
  obtain ⟨r91, σ89, e90, h⟩ := bd_some h
  refine ev_invVi (As := [.int (a6)]) (st := []) dL_areHeights_48 cb_X10_height tp_482 tp_483 tp_484 kf10 rfl (by omega) g88 rfl rfl (Nat.le_of_ble_eq_true rfl) (x_X10_height e90) ?_
  refine ev_istore (ls' := [(8, .int (r91)), (7, .int (t0)), (0, .ref a0), (1, .int (a1)), (2, .int (a2)), (3, .int (a3)), (4, .int (a4)), (5, .int (a5)), (6, .int (a6))]) dL_areHeights_51 (by decide) rfl ?_
  refine ev_iload 1 dL_areHeights_53 rfl ?_
  rcases it_some h with ⟨c92, h⟩ | ⟨c92, h⟩
  · refine ev_if_ne_n 78 dL_areHeights_55 rfl c92 ?_
    refine ev_iload 0 dL_areHeights_58 rfl ?_
    refine ev_iconst (v := (-1)) dL_areHeights_60 (by decide) ?_
    rcases it_some h with ⟨c96, h⟩ | ⟨c96, h⟩
    · refine ev_icmp_ne_n 76 dL_areHeights_61 rfl c96 ?_
      refine ev_aload_nR 2 dL_areHeights_64 rfl ?_
      refine ev_iload 8 dL_areHeights_65 rfl ?_
      refine ev_iload 6 dL_areHeights_67 rfl ?_
      obtain ⟨g97, h⟩ := gd_some h
      obtain ⟨r100, σ98, e99, h⟩ := bd_some h
      refine ev_invVi (As := [.int (a6), .int (a4)]) (st := []) dL_areHeights_69 cb_X10_ways tp_850 tp_851 tp_852 kf10 rfl (by omega) g97 rfl rfl (Nat.le_of_ble_eq_true rfl) (x_X10_ways e99) ?_
      refine ev_iconst (v := (-1)) dL_areHeights_72 (by decide) ?_
      rcases it_some h with ⟨c101, h⟩ | ⟨c101, h⟩
      · refine ev_icmp_eq (tgt := 248) dL_areHeights_73 rfl c101 ?_
        obtain ⟨v102, e103, h⟩ := lt_some h
        refine ev_iinc (v := v102) (ls' := [(6, .int (v102)), (8, .int (r91)), (7, .int (t0)), (0, .ref a0), (1, .int (a1)), (2, .int (a2)), (3, .int (a3)), (4, .int (a4)), (5, .int (a5))]) 8 dL_areHeights_248 rfl e103.symm (by decide) rfl ?_
        refine ev_goto (tgt := 22) dL_areHeights_251 rfl ?_
        refine ev_sub (ls' := [(0, .ref a0), (1, .int (a1)), (2, .int (a2)), (3, .int (a3)), (4, .int (a4)), (5, .int (a5)), (6, .int (v102))]) [3, 4, 5, 6, 7, 8, 0] rfl ?_
        exact hk22 h
      · refine ev_icmp_eq_n 248 dL_areHeights_73 rfl c101 ?_
        refine ev_iconst (v := 0) dL_areHeights_76 (by decide) ?_
        exact ev_retI .boolean dL_areHeights_77 rfl rfl h
    · refine ev_icmp_ne (tgt := 76) dL_areHeights_61 rfl c96 ?_
      refine ev_iconst (v := 0) dL_areHeights_76 (by decide) ?_
      exact ev_retI .boolean dL_areHeights_77 rfl rfl h
  · refine ev_if_ne (tgt := 78) dL_areHeights_55 rfl c92 ?_
    refine ev_iload 0 dL_areHeights_78 rfl ?_
    refine ev_bipush (v := (-6)) dL_areHeights_80 (by decide) ?_
    rcases it_some h with ⟨c93, h⟩ | ⟨c93, h⟩
    · refine ev_icmp_eq (tgt := 98) dL_areHeights_82 rfl c93 ?_
      refine ev_sub (ls' := [(0, .ref a0), (1, .int (a1)), (2, .int (a2)), (3, .int (a3)), (4, .int (a4)), (5, .int (a5)), (6, .int (a6)), (8, .int (r91))]) [2, 3, 4, 5, 6, 7, 8, 0] rfl ?_
      exact e_L_areHeights_98 hk9 hk22 h
    · refine ev_icmp_eq_n 98 dL_areHeights_82 rfl c93 ?_
      refine ev_iload 0 dL_areHeights_85 rfl ?_
      refine ev_iconst (v := 1) dL_areHeights_87 (by decide) ?_
      rcases it_some h with ⟨c94, h⟩ | ⟨c94, h⟩
      · refine ev_icmp_lt (tgt := 145) dL_areHeights_88 rfl c94 ?_
        refine ev_iconst (v := 0) dL_areHeights_145 (by decide) ?_
        exact ev_retI .boolean dL_areHeights_146 rfl rfl h
      · refine ev_icmp_lt_n 145 dL_areHeights_88 rfl c94 ?_
        refine ev_iload 0 dL_areHeights_91 rfl ?_
        refine ev_bipush (v := 10) dL_areHeights_93 (by decide) ?_
        rcases it_some h with ⟨c95, h⟩ | ⟨c95, h⟩
        · refine ev_icmp_gt (tgt := 145) dL_areHeights_95 rfl c95 ?_
          refine ev_iconst (v := 0) dL_areHeights_145 (by decide) ?_
          exact ev_retI .boolean dL_areHeights_146 rfl rfl h
        · refine ev_icmp_gt_n 145 dL_areHeights_95 rfl c95 ?_
          refine ev_sub (ls' := [(0, .ref a0), (1, .int (a1)), (2, .int (a2)), (3, .int (a3)), (4, .int (a4)), (5, .int (a5)), (6, .int (a6)), (8, .int (r91))]) [2, 3, 4, 5, 6, 7, 8, 0] rfl ?_
          exact e_L_areHeights_98 hk9 hk22 h
def sb_L_areHeights_22 (k9 : Nat → Int32 → Int32 → Int32 → Int32 → St → Option (Int32 × St)) (k22 : Nat → Int32 → Int32 → Int32 → Int32 → Int32 → Int32 → St → Option (Int32 × St)) (a0 : Nat) (a1 : Int32) (a2 : Int32) (a3 : Int32) (a4 : Int32) (a5 : Int32) (a6 : Int32) (σ : St) : Option (Int32 × St) :=
 if (32 : Int32) ≤ a6 then (if isO σ 10 a0 = true then (bd (s_X10_left a0 a4 ((-1)) σ) fun r108 σ106 =>
 if r108 = a5 then (if isO σ106 10 a0 = true then (bd (s_X10_left a0 a4 a5 σ106) fun r113 σ111 =>
 if r113 = ((-6)) then (lt (a4 + 1 : Int32) fun v115 =>
 k9 a0 a1 a2 a3 v115 σ111) else (some (0, σ111))) else none) else (some (0, σ106))) else none) else (if (a6 &&& (a1 ^^^ ((-1)))) = 0 then (s_L_areHeights_43 k9 k22 a0 a1 a2 a3 a4 a5 a6 1 σ) else (s_L_areHeights_43 k9 k22 a0 a1 a2 a3 a4 a5 a6 0 σ))
def s_L_areHeights_22 (k9 : Nat → Int32 → Int32 → Int32 → Int32 → St → Option (Int32 × St)) (F : Nat) : Nat → Int32 → Int32 → Int32 → Int32 → Int32 → Int32 → St → Option (Int32 × St) := lp (fun _ _ _ _ _ _ _ _ => none) (sb_L_areHeights_22 k9) F
set_option maxHeartbeats 4000000 in
set_option maxRecDepth 100000 in
theorem e_L_areHeights_22 {r : Int32} {σ' : St} {k9 : Nat → Int32 → Int32 → Int32 → Int32 → St → Option (Int32 × St)} (hk9 : ∀ {y0 : Nat} {y1 : Int32} {y2 : Int32} {y3 : Int32} {y4 : Int32} {σ : St}, k9 y0 y1 y2 y3 y4 σ = some (r, σ') → Ev M_L_areHeights (393) 9 [(0, .ref y0), (1, .int (y1)), (2, .int (y2)), (3, .int (y3)), (4, .int (y4))] [] σ (some (.int r)) σ') (F : Nat) : ∀ {a0 : Nat} {a1 : Int32} {a2 : Int32} {a3 : Int32} {a4 : Int32} {a5 : Int32} {a6 : Int32} {σ : St}, s_L_areHeights_22 k9 F a0 a1 a2 a3 a4 a5 a6 σ = some (r, σ') → Ev M_L_areHeights (393) 22 [(0, .ref a0), (1, .int (a1)), (2, .int (a2)), (3, .int (a3)), (4, .int (a4)), (5, .int (a5)), (6, .int (a6))] [] σ (some (.int r)) σ' := by
  induction F with
  | zero => intro a0 a1 a2 a3 a4 a5 a6 σ h; cases h
  | succ F ih =>
    intro a0 a1 a2 a3 a4 a5 a6 σ h
    change sb_L_areHeights_22 k9 (s_L_areHeights_22 k9 F) a0 a1 a2 a3 a4 a5 a6 σ = some (r, σ') at h
    unfold sb_L_areHeights_22 at h
    have hk22 := @ih
    refine ev_iload 6 dL_areHeights_22 rfl ?_
    refine ev_bipush (v := 32) dL_areHeights_24 (by decide) ?_
    rcases it_some h with ⟨c104, h⟩ | ⟨c104, h⟩
    · refine ev_icmp_ge (tgt := 254) dL_areHeights_26 rfl c104 ?_
      refine ev_aload_nR 0 dL_areHeights_254 rfl ?_
      refine ev_iload 4 dL_areHeights_255 rfl ?_
      refine ev_iconst (v := (-1)) dL_areHeights_257 (by decide) ?_
      obtain ⟨g105, h⟩ := gd_some h
      obtain ⟨r108, σ106, e107, h⟩ := bd_some h
      refine ev_invVi (As := [.int (a4), .int ((-1))]) (st := []) dL_areHeights_258 cb_X10_left tp_630 tp_631 tp_632 kf10 rfl (by omega) g105 rfl rfl (Nat.le_of_ble_eq_true rfl) (x_X10_left e107) ?_
      refine ev_iload 5 dL_areHeights_261 rfl ?_
      rcases it_some h with ⟨c109, h⟩ | ⟨c109, h⟩
      · refine ev_icmp_ne_n 279 dL_areHeights_263 rfl c109 ?_
        refine ev_aload_nR 0 dL_areHeights_266 rfl ?_
        refine ev_iload 4 dL_areHeights_267 rfl ?_
        refine ev_iload 5 dL_areHeights_269 rfl ?_
        obtain ⟨g110, h⟩ := gd_some h
        obtain ⟨r113, σ111, e112, h⟩ := bd_some h
        refine ev_invVi (As := [.int (a4), .int (a5)]) (st := []) dL_areHeights_271 cb_X10_left tp_630 tp_631 tp_632 kf10 rfl (by omega) g110 rfl rfl (Nat.le_of_ble_eq_true rfl) (x_X10_left e112) ?_
        refine ev_bipush (v := (-6)) dL_areHeights_274 (by decide) ?_
        rcases it_some h with ⟨c114, h⟩ | ⟨c114, h⟩
        · refine ev_icmp_eq (tgt := 281) dL_areHeights_276 rfl c114 ?_
          obtain ⟨v115, e116, h⟩ := lt_some h
          refine ev_iinc (v := v115) (ls' := [(4, .int (v115)), (0, .ref a0), (1, .int (a1)), (2, .int (a2)), (3, .int (a3)), (5, .int (a5)), (6, .int (a6))]) 4 dL_areHeights_281 rfl e116.symm (by decide) rfl ?_
          refine ev_goto (tgt := 9) dL_areHeights_284 rfl ?_
          refine ev_sub (ls' := [(0, .ref a0), (1, .int (a1)), (2, .int (a2)), (3, .int (a3)), (4, .int (v115))]) [1, 2, 3, 4, 0] rfl ?_
          exact hk9 h
        · refine ev_icmp_eq_n 281 dL_areHeights_276 rfl c114 ?_
          refine ev_iconst (v := 0) dL_areHeights_279 (by decide) ?_
          exact ev_retI .boolean dL_areHeights_280 rfl rfl h
      · refine ev_icmp_ne (tgt := 279) dL_areHeights_263 rfl c109 ?_
        refine ev_iconst (v := 0) dL_areHeights_279 (by decide) ?_
        exact ev_retI .boolean dL_areHeights_280 rfl rfl h
    · refine ev_icmp_ge_n 254 dL_areHeights_26 rfl c104 ?_
      refine ev_iload 6 dL_areHeights_29 rfl ?_
      refine ev_iload_n 1 dL_areHeights_31 rfl ?_
      refine ev_iconst (v := (-1)) dL_areHeights_32 (by decide) ?_
      refine ev_ixor dL_areHeights_33 ?_
      refine ev_iand dL_areHeights_34 ?_
      rcases it_some h with ⟨c117, h⟩ | ⟨c117, h⟩
      · refine ev_if_ne_n 42 dL_areHeights_35 rfl c117 ?_
        refine ev_iconst (v := 1) dL_areHeights_38 (by decide) ?_
        refine ev_goto (tgt := 43) dL_areHeights_39 rfl ?_
        refine ev_sub (ls' := [(0, .ref a0), (1, .int (a1)), (2, .int (a2)), (3, .int (a3)), (4, .int (a4)), (5, .int (a5)), (6, .int (a6))]) [0, 1, 2, 3, 4, 5, 6] rfl ?_
        exact e_L_areHeights_43 hk9 hk22 h
      · refine ev_if_ne (tgt := 42) dL_areHeights_35 rfl c117 ?_
        refine ev_iconst (v := 0) dL_areHeights_42 (by decide) ?_
        refine ev_sub (ls' := [(0, .ref a0), (1, .int (a1)), (2, .int (a2)), (3, .int (a3)), (4, .int (a4)), (5, .int (a5)), (6, .int (a6))]) [0, 1, 2, 3, 4, 5, 6] rfl ?_
        exact e_L_areHeights_43 hk9 hk22 h
def sb_L_areHeights_9 (k9 : Nat → Int32 → Int32 → Int32 → Int32 → St → Option (Int32 × St)) (a0 : Nat) (a1 : Int32) (a2 : Int32) (a3 : Int32) (a4 : Int32) (σ : St) : Option (Int32 × St) :=
 if (10 : Int32) < a4 then (s_L_areHeights_293 16000 a0 a1 a2 0 0 σ) else (s_L_areHeights_22 k9 16000 a0 a1 a2 a3 a4 0 0 σ)
def s_L_areHeights_9 (F : Nat) : Nat → Int32 → Int32 → Int32 → Int32 → St → Option (Int32 × St) := lp (fun _ _ _ _ _ _ => none) (sb_L_areHeights_9 ) F
set_option maxHeartbeats 4000000 in
set_option maxRecDepth 100000 in
theorem e_L_areHeights_9 {r : Int32} {σ' : St} (F : Nat) : ∀ {a0 : Nat} {a1 : Int32} {a2 : Int32} {a3 : Int32} {a4 : Int32} {σ : St}, s_L_areHeights_9 F a0 a1 a2 a3 a4 σ = some (r, σ') → Ev M_L_areHeights (393) 9 [(0, .ref a0), (1, .int (a1)), (2, .int (a2)), (3, .int (a3)), (4, .int (a4))] [] σ (some (.int r)) σ' := by
  induction F with
  | zero => intro a0 a1 a2 a3 a4 σ h; cases h
  | succ F ih =>
    intro a0 a1 a2 a3 a4 σ h
    change sb_L_areHeights_9  (s_L_areHeights_9 F) a0 a1 a2 a3 a4 σ = some (r, σ') at h
    unfold sb_L_areHeights_9 at h
    have hk9 := @ih
    refine ev_iload 4 dL_areHeights_9 rfl ?_
    refine ev_bipush (v := 10) dL_areHeights_11 (by decide) ?_
    rcases it_some h with ⟨c118, h⟩ | ⟨c118, h⟩
    · refine ev_icmp_gt (tgt := 287) dL_areHeights_13 rfl c118 ?_
      refine ev_iconst (v := 0) dL_areHeights_287 (by decide) ?_
      refine ev_istore (ls' := [(4, .int (0)), (0, .ref a0), (1, .int (a1)), (2, .int (a2)), (3, .int (a3))]) dL_areHeights_288 (by decide) rfl ?_
      refine ev_iconst (v := 0) dL_areHeights_290 (by decide) ?_
      refine ev_istore (ls' := [(5, .int (0)), (4, .int (0)), (0, .ref a0), (1, .int (a1)), (2, .int (a2)), (3, .int (a3))]) dL_areHeights_291 (by decide) rfl ?_
      refine ev_sub (ls' := [(0, .ref a0), (1, .int (a1)), (2, .int (a2)), (4, .int (0)), (5, .int (0))]) [2, 3, 4, 1, 0] rfl ?_
      exact e_L_areHeights_293 16000 h
    · refine ev_icmp_gt_n 287 dL_areHeights_13 rfl c118 ?_
      refine ev_iconst (v := 0) dL_areHeights_16 (by decide) ?_
      refine ev_istore (ls' := [(5, .int (0)), (0, .ref a0), (1, .int (a1)), (2, .int (a2)), (3, .int (a3)), (4, .int (a4))]) dL_areHeights_17 (by decide) rfl ?_
      refine ev_iconst (v := 0) dL_areHeights_19 (by decide) ?_
      refine ev_istore (ls' := [(6, .int (0)), (5, .int (0)), (0, .ref a0), (1, .int (a1)), (2, .int (a2)), (3, .int (a3)), (4, .int (a4))]) dL_areHeights_20 (by decide) rfl ?_
      refine ev_sub (ls' := [(0, .ref a0), (1, .int (a1)), (2, .int (a2)), (3, .int (a3)), (4, .int (a4)), (5, .int (0)), (6, .int (0))]) [2, 3, 4, 5, 6, 1, 0] rfl ?_
      exact e_L_areHeights_22 hk9 16000 h
def s_L_areHeights (a0 : Nat) (a1 : Int32) (σ : St) : Option (Int32 × St) :=
 s_L_areHeights_9 16000 a0 a1 ((-6)) 9 0 σ
set_option maxHeartbeats 4000000 in
set_option maxRecDepth 100000 in
theorem x_L_areHeights {a0 : Nat} {a1 : Int32} {σ : St} {r : Int32} {σ' : St} (h : s_L_areHeights a0 a1 σ = some (r, σ')) : Ex M_L_areHeights (393) [.ref a0, .int (a1)] σ (some (.int r)) σ' := by
  unfold s_L_areHeights at h
  refine ex_of (by decide) rfl (Nat.le_of_ble_eq_true rfl) ?_
  show Ev _ _ 0 [(0, .ref a0), (1, .int (a1))] [] _ _ _
  refine ev_bipush (v := (-6)) dL_areHeights_0 (by decide) ?_
  refine ev_istore_n (ls' := [(2, .int ((-6))), (0, .ref a0), (1, .int (a1))]) dL_areHeights_2 (by decide) rfl ?_
  refine ev_bipush (v := 9) dL_areHeights_3 (by decide) ?_
  refine ev_istore_n (ls' := [(3, .int (9)), (2, .int ((-6))), (0, .ref a0), (1, .int (a1))]) dL_areHeights_5 (by decide) rfl ?_
  refine ev_iconst (v := 0) dL_areHeights_6 (by decide) ?_
  refine ev_istore (ls' := [(4, .int (0)), (3, .int (9)), (2, .int ((-6))), (0, .ref a0), (1, .int (a1))]) dL_areHeights_7 (by decide) rfl ?_
  refine ev_sub (ls' := [(0, .ref a0), (1, .int (a1)), (2, .int (((-6)))), (3, .int (9)), (4, .int (0))]) [3, 4, 2, 1, 0] rfl ?_
  exact e_L_areHeights_9 16000 h
def sb_L_isWay_436 (k436 : Nat → Int32 → Int32 → St → Option (Int32 × St)) (a0 : Nat) (a3 : Int32) (a6 : Int32) (σ : St) : Option (Int32 × St) :=
 if a3 ≤ (a6 + 1) then (if a3 = 0 then (some (1, σ)) else (if isO σ 10 a0 = true then (bd (s_X10_check a0 0 σ) fun r6 σ4 =>
 if r6 = 2 then (if isO σ4 10 a0 = true then (bd (s_X10_check a0 1 σ4) fun r11 σ9 =>
 if r11 = (a3 - 1) then (some (1, σ9)) else (some (0, σ9))) else none) else (some (0, σ4))) else none)) else (if isO σ 10 a0 = true then (bd (s_X10_term a0 a6 σ) fun r16 σ14 =>
 if isO σ14 10 a0 = true then (bd (s_X10_put a0 r16 σ14) fun r20 σ18 =>
 lt (a6 + 1 : Int32) fun v21 =>
 k436 a0 a3 v21 σ18) else none) else none)
def s_L_isWay_436 (F : Nat) : Nat → Int32 → Int32 → St → Option (Int32 × St) := lp (fun _ _ _ _ => none) (sb_L_isWay_436 ) F
set_option maxHeartbeats 4000000 in
set_option maxRecDepth 100000 in
theorem e_L_isWay_436 {r : Int32} {σ' : St} (F : Nat) : ∀ {a0 : Nat} {a3 : Int32} {a6 : Int32} {σ : St}, s_L_isWay_436 F a0 a3 a6 σ = some (r, σ') → Ev M_L_isWay (393) 436 [(0, .ref a0), (3, .int (a3)), (6, .int (a6))] [] σ (some (.int r)) σ' := by
  induction F with
  | zero => intro a0 a3 a6 σ h; cases h
  | succ F ih =>
    intro a0 a3 a6 σ h
    change sb_L_isWay_436  (s_L_isWay_436 F) a0 a3 a6 σ = some (r, σ') at h
    unfold sb_L_isWay_436 at h
    have hk436 := @ih
    refine ev_iload 2 dL_isWay_436 rfl ?_
    refine ev_iconst (v := 1) dL_isWay_438 (by decide) ?_
    refine ev_iadd dL_isWay_439 ?_
    refine ev_iload_n 1 dL_isWay_440 rfl ?_
    rcases it_some h with ⟨c1, h⟩ | ⟨c1, h⟩
    · refine ev_icmp_ge (tgt := 461) dL_isWay_441 rfl c1 ?_
      refine ev_iload_n 1 dL_isWay_461 rfl ?_
      rcases it_some h with ⟨c2, h⟩ | ⟨c2, h⟩
      · refine ev_if_eq (tgt := 485) dL_isWay_462 rfl c2 ?_
        refine ev_iconst (v := 1) dL_isWay_485 (by decide) ?_
        refine ev_goto (tgt := 490) dL_isWay_486 rfl ?_
        exact ev_retI .boolean dL_isWay_490 rfl rfl h
      · refine ev_if_eq_n 485 dL_isWay_462 rfl c2 ?_
        refine ev_aload_nR 0 dL_isWay_465 rfl ?_
        refine ev_iconst (v := 0) dL_isWay_466 (by decide) ?_
        obtain ⟨g3, h⟩ := gd_some h
        obtain ⟨r6, σ4, e5, h⟩ := bd_some h
        refine ev_invVi (As := [.int (0)]) (st := []) dL_isWay_467 cb_X10_check tp_728 tp_729 tp_730 kf10 rfl (by omega) g3 rfl rfl (Nat.le_of_ble_eq_true rfl) (x_X10_check e5) ?_
        refine ev_iconst (v := 2) dL_isWay_470 (by decide) ?_
        rcases it_some h with ⟨c7, h⟩ | ⟨c7, h⟩
        · refine ev_icmp_ne_n 489 dL_isWay_471 rfl c7 ?_
          refine ev_aload_nR 0 dL_isWay_474 rfl ?_
          refine ev_iconst (v := 1) dL_isWay_475 (by decide) ?_
          obtain ⟨g8, h⟩ := gd_some h
          obtain ⟨r11, σ9, e10, h⟩ := bd_some h
          refine ev_invVi (As := [.int (1)]) (st := []) dL_isWay_476 cb_X10_check tp_728 tp_729 tp_730 kf10 rfl (by omega) g8 rfl rfl (Nat.le_of_ble_eq_true rfl) (x_X10_check e10) ?_
          refine ev_iload_n 1 dL_isWay_479 rfl ?_
          refine ev_iconst (v := 1) dL_isWay_480 (by decide) ?_
          refine ev_isub dL_isWay_481 ?_
          rcases it_some h with ⟨c12, h⟩ | ⟨c12, h⟩
          · refine ev_icmp_ne_n 489 dL_isWay_482 rfl c12 ?_
            refine ev_iconst (v := 1) dL_isWay_485 (by decide) ?_
            refine ev_goto (tgt := 490) dL_isWay_486 rfl ?_
            exact ev_retI .boolean dL_isWay_490 rfl rfl h
          · refine ev_icmp_ne (tgt := 489) dL_isWay_482 rfl c12 ?_
            refine ev_iconst (v := 0) dL_isWay_489 (by decide) ?_
            exact ev_retI .boolean dL_isWay_490 rfl rfl h
        · refine ev_icmp_ne (tgt := 489) dL_isWay_471 rfl c7 ?_
          refine ev_iconst (v := 0) dL_isWay_489 (by decide) ?_
          exact ev_retI .boolean dL_isWay_490 rfl rfl h
    · refine ev_icmp_ge_n 461 dL_isWay_441 rfl c1 ?_
      refine ev_aload_nR 0 dL_isWay_444 rfl ?_
      refine ev_aload_nR 0 dL_isWay_445 rfl ?_
      refine ev_iload 2 dL_isWay_446 rfl ?_
      obtain ⟨g13, h⟩ := gd_some h
      obtain ⟨r16, σ14, e15, h⟩ := bd_some h
      refine ev_invVi (As := [.int (a6)]) (st := [.ref a0]) dL_isWay_448 cb_X10_term tp_647 tp_648 tp_649 kf10 rfl (by omega) g13 rfl rfl (Nat.le_of_ble_eq_true rfl) (x_X10_term e15) ?_
      obtain ⟨g17, h⟩ := gd_some h
      obtain ⟨r20, σ18, e19, h⟩ := bd_some h
      refine ev_invVi (As := [.int (r16)]) (st := []) dL_isWay_451 cb_X10_put tp_909 tp_910 tp_911 kf10 rfl (by omega) g17 rfl rfl (Nat.le_of_ble_eq_true rfl) (x_X10_put e19) ?_
      refine ev_pop dL_isWay_454 rfl ?_
      obtain ⟨v21, e22, h⟩ := lt_some h
      refine ev_iinc (v := v21) (ls' := [(6, .int (v21)), (0, .ref a0), (3, .int (a3))]) 2 dL_isWay_455 rfl e22.symm (by decide) rfl ?_
      refine ev_goto (tgt := 436) dL_isWay_458 rfl ?_
      refine ev_sub (ls' := [(0, .ref a0), (3, .int (a3)), (6, .int (v21))]) [1, 2, 0] rfl ?_
      exact hk436 h
def s_L_isWay_427 (a0 : Nat) (a3 : Int32) (σ : St) : Option (Int32 × St) :=
 if isO σ 10 a0 = true then (bd (s_X10_trial a0 0 σ) fun r26 σ24 =>
 s_L_isWay_436 16000 a0 a3 0 σ24) else none
set_option maxHeartbeats 4000000 in
set_option maxRecDepth 100000 in
theorem e_L_isWay_427 {r : Int32} {σ' : St} : ∀ {a0 : Nat} {a3 : Int32} {σ : St}, s_L_isWay_427 a0 a3 σ = some (r, σ') → Ev M_L_isWay (393) 427 [(0, .ref a0), (3, .int (a3))] [] σ (some (.int r)) σ' := by
  intro a0 a3 σ h
  unfold s_L_isWay_427 at h
  refine ev_aload_nR 0 dL_isWay_427 rfl ?_
  refine ev_iconst (v := 0) dL_isWay_428 (by decide) ?_
  obtain ⟨g23, h⟩ := gd_some h
  obtain ⟨r26, σ24, e25, h⟩ := bd_some h
  refine ev_invVi (As := [.int (0)]) (st := []) dL_isWay_429 cb_X10_trial tp_712 tp_713 tp_714 kf10 rfl (by omega) g23 rfl rfl (Nat.le_of_ble_eq_true rfl) (x_X10_trial e25) ?_
  refine ev_pop dL_isWay_432 rfl ?_
  refine ev_iconst (v := 0) dL_isWay_433 (by decide) ?_
  refine ev_istore (ls' := [(6, .int (0)), (0, .ref a0), (3, .int (a3))]) dL_isWay_434 (by decide) rfl ?_
  refine ev_sub (ls' := [(0, .ref a0), (3, .int (a3)), (6, .int (0))]) [1, 2, 0] rfl ?_
  exact e_L_isWay_436 16000 h
def s_L_isWay_347 (k222 : Nat → Int32 → Int32 → Int32 → Int32 → Int32 → St → Option (Int32 × St)) (k260 : Nat → Int32 → Int32 → Int32 → Int32 → Int32 → Int32 → St → Option (Int32 × St)) (a0 : Nat) (a2 : Int32) (a3 : Int32) (a4 : Int32) (a5 : Int32) (a6 : Int32) (a7 : Int32) (σ : St) : Option (Int32 × St) :=
 if isO σ 10 a0 = true then (bd (s_X10_check a0 1 σ) fun r30 σ28 =>
 if a6 ≤ r30 then (lt (a7 + (-1) : Int32) fun v32 =>
 k260 a0 a2 a3 a4 a5 a6 v32 σ28) else (some (0, σ28))) else none
set_option maxHeartbeats 4000000 in
set_option maxRecDepth 100000 in
theorem e_L_isWay_347 {r : Int32} {σ' : St} {k222 : Nat → Int32 → Int32 → Int32 → Int32 → Int32 → St → Option (Int32 × St)} {k260 : Nat → Int32 → Int32 → Int32 → Int32 → Int32 → Int32 → St → Option (Int32 × St)} (hk222 : ∀ {y0 : Nat} {y1 : Int32} {y2 : Int32} {y3 : Int32} {y4 : Int32} {y5 : Int32} {σ : St}, k222 y0 y1 y2 y3 y4 y5 σ = some (r, σ') → Ev M_L_isWay (393) 222 [(0, .ref y0), (2, .int (y1)), (3, .int (y2)), (4, .int (y3)), (5, .int (y4)), (6, .int (y5))] [] σ (some (.int r)) σ') (hk260 : ∀ {y0 : Nat} {y1 : Int32} {y2 : Int32} {y3 : Int32} {y4 : Int32} {y5 : Int32} {y6 : Int32} {σ : St}, k260 y0 y1 y2 y3 y4 y5 y6 σ = some (r, σ') → Ev M_L_isWay (393) 260 [(0, .ref y0), (2, .int (y1)), (3, .int (y2)), (4, .int (y3)), (5, .int (y4)), (6, .int (y5)), (7, .int (y6))] [] σ (some (.int r)) σ') : ∀ {a0 : Nat} {a2 : Int32} {a3 : Int32} {a4 : Int32} {a5 : Int32} {a6 : Int32} {a7 : Int32} {σ : St}, s_L_isWay_347 k222 k260 a0 a2 a3 a4 a5 a6 a7 σ = some (r, σ') → Ev M_L_isWay (393) 347 [(0, .ref a0), (2, .int (a2)), (3, .int (a3)), (4, .int (a4)), (5, .int (a5)), (6, .int (a6)), (7, .int (a7))] [] σ (some (.int r)) σ' := by
  intro a0 a2 a3 a4 a5 a6 a7 σ h
  unfold s_L_isWay_347 at h
  refine ev_aload_nR 0 dL_isWay_347 rfl ?_
  refine ev_iconst (v := 1) dL_isWay_348 (by decide) ?_
  obtain ⟨g27, h⟩ := gd_some h
  obtain ⟨r30, σ28, e29, h⟩ := bd_some h
  refine ev_invVi (As := [.int (1)]) (st := []) dL_isWay_349 cb_X10_check tp_728 tp_729 tp_730 kf10 rfl (by omega) g27 rfl rfl (Nat.le_of_ble_eq_true rfl) (x_X10_check e29) ?_
  refine ev_iload 5 dL_isWay_352 rfl ?_
  rcases it_some h with ⟨c31, h⟩ | ⟨c31, h⟩
  · refine ev_icmp_ge (tgt := 359) dL_isWay_354 rfl c31 ?_
    obtain ⟨v32, e33, h⟩ := lt_some h
    refine ev_iinc (v := v32) (ls' := [(7, .int (v32)), (0, .ref a0), (2, .int (a2)), (3, .int (a3)), (4, .int (a4)), (5, .int (a5)), (6, .int (a6))]) 6 dL_isWay_359 rfl e33.symm (by decide) rfl ?_
    refine ev_goto (tgt := 260) dL_isWay_362 rfl ?_
    refine ev_sub (ls' := [(0, .ref a0), (2, .int (a2)), (3, .int (a3)), (4, .int (a4)), (5, .int (a5)), (6, .int (a6)), (7, .int (v32))]) [1, 2, 3, 4, 5, 6, 0] rfl ?_
    exact hk260 h
  · refine ev_icmp_ge_n 359 dL_isWay_354 rfl c31 ?_
    refine ev_iconst (v := 0) dL_isWay_357 (by decide) ?_
    exact ev_retI .boolean dL_isWay_358 rfl rfl h
def sb_L_isWay_287 (k222 : Nat → Int32 → Int32 → Int32 → Int32 → Int32 → St → Option (Int32 × St)) (k260 : Nat → Int32 → Int32 → Int32 → Int32 → Int32 → Int32 → St → Option (Int32 × St)) (k287 : Nat → Int32 → Int32 → Int32 → Int32 → Int32 → Int32 → Int32 → St → Option (Int32 × St)) (a0 : Nat) (a2 : Int32) (a3 : Int32) (a4 : Int32) (a5 : Int32) (a6 : Int32) (a7 : Int32) (a8 : Int32) (σ : St) : Option (Int32 × St) :=
 if a6 ≤ a8 then (if isO σ 10 a0 = true then (bd (s_X10_put a0 a7 σ) fun r38 σ36 =>
 if r38 = (a6 + 1) then (if isO σ36 10 a0 = true then (bd (s_X10_check a0 0 σ36) fun r43 σ41 =>
 if r43 = 0 then (if isO σ41 10 a0 = true then (bd (s_X10_check a0 2 σ41) fun r48 σ46 =>
 if r48 ≤ a2 then (some (0, σ46)) else (s_L_isWay_347 k222 k260 a0 a2 a3 a4 a5 a6 a7 σ46)) else none) else (s_L_isWay_347 k222 k260 a0 a2 a3 a4 a5 a6 a7 σ41)) else none) else (some (0, σ36))) else none) else (if isO σ 10 a0 = true then (bd (s_X10_term a0 a8 σ) fun r53 σ51 =>
 if isO σ51 10 a0 = true then (bd (s_X10_put a0 r53 σ51) fun r57 σ55 =>
 lt (a8 + 1 : Int32) fun v58 =>
 k287 a0 a2 a3 a4 a5 a6 a7 v58 σ55) else none) else none)
def s_L_isWay_287 (k222 : Nat → Int32 → Int32 → Int32 → Int32 → Int32 → St → Option (Int32 × St)) (k260 : Nat → Int32 → Int32 → Int32 → Int32 → Int32 → Int32 → St → Option (Int32 × St)) (F : Nat) : Nat → Int32 → Int32 → Int32 → Int32 → Int32 → Int32 → Int32 → St → Option (Int32 × St) := lp (fun _ _ _ _ _ _ _ _ _ => none) (sb_L_isWay_287 k222 k260) F
set_option maxHeartbeats 4000000 in
set_option maxRecDepth 100000 in
theorem e_L_isWay_287 {r : Int32} {σ' : St} {k222 : Nat → Int32 → Int32 → Int32 → Int32 → Int32 → St → Option (Int32 × St)} {k260 : Nat → Int32 → Int32 → Int32 → Int32 → Int32 → Int32 → St → Option (Int32 × St)} (hk222 : ∀ {y0 : Nat} {y1 : Int32} {y2 : Int32} {y3 : Int32} {y4 : Int32} {y5 : Int32} {σ : St}, k222 y0 y1 y2 y3 y4 y5 σ = some (r, σ') → Ev M_L_isWay (393) 222 [(0, .ref y0), (2, .int (y1)), (3, .int (y2)), (4, .int (y3)), (5, .int (y4)), (6, .int (y5))] [] σ (some (.int r)) σ') (hk260 : ∀ {y0 : Nat} {y1 : Int32} {y2 : Int32} {y3 : Int32} {y4 : Int32} {y5 : Int32} {y6 : Int32} {σ : St}, k260 y0 y1 y2 y3 y4 y5 y6 σ = some (r, σ') → Ev M_L_isWay (393) 260 [(0, .ref y0), (2, .int (y1)), (3, .int (y2)), (4, .int (y3)), (5, .int (y4)), (6, .int (y5)), (7, .int (y6))] [] σ (some (.int r)) σ') (F : Nat) : ∀ {a0 : Nat} {a2 : Int32} {a3 : Int32} {a4 : Int32} {a5 : Int32} {a6 : Int32} {a7 : Int32} {a8 : Int32} {σ : St}, s_L_isWay_287 k222 k260 F a0 a2 a3 a4 a5 a6 a7 a8 σ = some (r, σ') → Ev M_L_isWay (393) 287 [(0, .ref a0), (2, .int (a2)), (3, .int (a3)), (4, .int (a4)), (5, .int (a5)), (6, .int (a6)), (7, .int (a7)), (8, .int (a8))] [] σ (some (.int r)) σ' := by
  induction F with
  | zero => intro a0 a2 a3 a4 a5 a6 a7 a8 σ h; cases h
  | succ F ih =>
    intro a0 a2 a3 a4 a5 a6 a7 a8 σ h
    change sb_L_isWay_287 k222 k260 (s_L_isWay_287 k222 k260 F) a0 a2 a3 a4 a5 a6 a7 a8 σ = some (r, σ') at h
    unfold sb_L_isWay_287 at h
    have hk287 := @ih
    refine ev_iload 7 dL_isWay_287 rfl ?_
    refine ev_iload 5 dL_isWay_289 rfl ?_
    rcases it_some h with ⟨c34, h⟩ | ⟨c34, h⟩
    · refine ev_icmp_ge (tgt := 311) dL_isWay_291 rfl c34 ?_
      refine ev_aload_nR 0 dL_isWay_311 rfl ?_
      refine ev_iload 6 dL_isWay_312 rfl ?_
      obtain ⟨g35, h⟩ := gd_some h
      obtain ⟨r38, σ36, e37, h⟩ := bd_some h
      refine ev_invVi (As := [.int (a7)]) (st := []) dL_isWay_314 cb_X10_put tp_909 tp_910 tp_911 kf10 rfl (by omega) g35 rfl rfl (Nat.le_of_ble_eq_true rfl) (x_X10_put e37) ?_
      refine ev_iload 5 dL_isWay_317 rfl ?_
      refine ev_iconst (v := 1) dL_isWay_319 (by decide) ?_
      refine ev_iadd dL_isWay_320 ?_
      rcases it_some h with ⟨c39, h⟩ | ⟨c39, h⟩
      · refine ev_icmp_eq (tgt := 326) dL_isWay_321 rfl c39 ?_
        refine ev_aload_nR 0 dL_isWay_326 rfl ?_
        refine ev_iconst (v := 0) dL_isWay_327 (by decide) ?_
        obtain ⟨g40, h⟩ := gd_some h
        obtain ⟨r43, σ41, e42, h⟩ := bd_some h
        refine ev_invVi (As := [.int (0)]) (st := []) dL_isWay_328 cb_X10_check tp_728 tp_729 tp_730 kf10 rfl (by omega) g40 rfl rfl (Nat.le_of_ble_eq_true rfl) (x_X10_check e42) ?_
        refine ev_istore (ls' := [(8, .int (r43)), (0, .ref a0), (2, .int (a2)), (3, .int (a3)), (4, .int (a4)), (5, .int (a5)), (6, .int (a6)), (7, .int (a7))]) dL_isWay_331 (by decide) rfl ?_
        refine ev_iload 0 dL_isWay_333 rfl ?_
        rcases it_some h with ⟨c44, h⟩ | ⟨c44, h⟩
        · refine ev_if_ne_n 347 dL_isWay_335 rfl c44 ?_
          refine ev_aload_nR 1 dL_isWay_338 rfl ?_
          refine ev_iconst (v := 2) dL_isWay_339 (by decide) ?_
          obtain ⟨g45, h⟩ := gd_some h
          obtain ⟨r48, σ46, e47, h⟩ := bd_some h
          refine ev_invVi (As := [.int (2)]) (st := []) dL_isWay_340 cb_X10_check tp_728 tp_729 tp_730 kf10 rfl (by omega) g45 rfl rfl (Nat.le_of_ble_eq_true rfl) (x_X10_check e47) ?_
          refine ev_iload_n 2 dL_isWay_343 rfl ?_
          rcases it_some h with ⟨c49, h⟩ | ⟨c49, h⟩
          · refine ev_icmp_le (tgt := 357) dL_isWay_344 rfl c49 ?_
            refine ev_iconst (v := 0) dL_isWay_357 (by decide) ?_
            exact ev_retI .boolean dL_isWay_358 rfl rfl h
          · refine ev_icmp_le_n 357 dL_isWay_344 rfl c49 ?_
            refine ev_sub (ls' := [(0, .ref a0), (2, .int (a2)), (3, .int (a3)), (4, .int (a4)), (5, .int (a5)), (6, .int (a6)), (7, .int (a7))]) [1, 2, 3, 4, 5, 6, 7] rfl ?_
            exact e_L_isWay_347 hk222 hk260 h
        · refine ev_if_ne (tgt := 347) dL_isWay_335 rfl c44 ?_
          refine ev_sub (ls' := [(0, .ref a0), (2, .int (a2)), (3, .int (a3)), (4, .int (a4)), (5, .int (a5)), (6, .int (a6)), (7, .int (a7))]) [1, 2, 3, 4, 5, 6, 7] rfl ?_
          exact e_L_isWay_347 hk222 hk260 h
      · refine ev_icmp_eq_n 326 dL_isWay_321 rfl c39 ?_
        refine ev_iconst (v := 0) dL_isWay_324 (by decide) ?_
        exact ev_retI .boolean dL_isWay_325 rfl rfl h
    · refine ev_icmp_ge_n 311 dL_isWay_291 rfl c34 ?_
      refine ev_aload_nR 0 dL_isWay_294 rfl ?_
      refine ev_aload_nR 0 dL_isWay_295 rfl ?_
      refine ev_iload 7 dL_isWay_296 rfl ?_
      obtain ⟨g50, h⟩ := gd_some h
      obtain ⟨r53, σ51, e52, h⟩ := bd_some h
      refine ev_invVi (As := [.int (a8)]) (st := [.ref a0]) dL_isWay_298 cb_X10_term tp_647 tp_648 tp_649 kf10 rfl (by omega) g50 rfl rfl (Nat.le_of_ble_eq_true rfl) (x_X10_term e52) ?_
      obtain ⟨g54, h⟩ := gd_some h
      obtain ⟨r57, σ55, e56, h⟩ := bd_some h
      refine ev_invVi (As := [.int (r53)]) (st := []) dL_isWay_301 cb_X10_put tp_909 tp_910 tp_911 kf10 rfl (by omega) g54 rfl rfl (Nat.le_of_ble_eq_true rfl) (x_X10_put e56) ?_
      refine ev_pop dL_isWay_304 rfl ?_
      obtain ⟨v58, e59, h⟩ := lt_some h
      refine ev_iinc (v := v58) (ls' := [(8, .int (v58)), (0, .ref a0), (2, .int (a2)), (3, .int (a3)), (4, .int (a4)), (5, .int (a5)), (6, .int (a6)), (7, .int (a7))]) 7 dL_isWay_305 rfl e59.symm (by decide) rfl ?_
      refine ev_goto (tgt := 287) dL_isWay_308 rfl ?_
      refine ev_sub (ls' := [(0, .ref a0), (2, .int (a2)), (3, .int (a3)), (4, .int (a4)), (5, .int (a5)), (6, .int (a6)), (7, .int (a7)), (8, .int (v58))]) [1, 2, 3, 4, 5, 6, 7, 0] rfl ?_
      exact hk287 h
def sb_L_isWay_260 (k222 : Nat → Int32 → Int32 → Int32 → Int32 → Int32 → St → Option (Int32 × St)) (k260 : Nat → Int32 → Int32 → Int32 → Int32 → Int32 → Int32 → St → Option (Int32 × St)) (a0 : Nat) (a2 : Int32) (a3 : Int32) (a4 : Int32) (a5 : Int32) (a6 : Int32) (a7 : Int32) (σ : St) : Option (Int32 × St) :=
 if a7 < 0 then (lt (a6 + 1 : Int32) fun v61 =>
 k222 a0 a2 a3 a4 a5 v61 σ) else (if isO σ 10 a0 = true then (bd (s_X10_term a0 a6 σ) fun r66 σ64 =>
 if a7 ≤ (r66 - 4) then (lt (a6 + 1 : Int32) fun v68 =>
 k222 a0 a2 a3 a4 a5 v68 σ64) else (if isO σ64 10 a0 = true then (bd (s_X10_trial a0 0 σ64) fun r73 σ71 =>
 s_L_isWay_287 k222 k260 16000 a0 a2 a3 a4 a5 a6 a7 0 σ71) else none)) else none)
def s_L_isWay_260 (k222 : Nat → Int32 → Int32 → Int32 → Int32 → Int32 → St → Option (Int32 × St)) (F : Nat) : Nat → Int32 → Int32 → Int32 → Int32 → Int32 → Int32 → St → Option (Int32 × St) := lp (fun _ _ _ _ _ _ _ _ => none) (sb_L_isWay_260 k222) F
set_option maxHeartbeats 4000000 in
set_option maxRecDepth 100000 in
theorem e_L_isWay_260 {r : Int32} {σ' : St} {k222 : Nat → Int32 → Int32 → Int32 → Int32 → Int32 → St → Option (Int32 × St)} (hk222 : ∀ {y0 : Nat} {y1 : Int32} {y2 : Int32} {y3 : Int32} {y4 : Int32} {y5 : Int32} {σ : St}, k222 y0 y1 y2 y3 y4 y5 σ = some (r, σ') → Ev M_L_isWay (393) 222 [(0, .ref y0), (2, .int (y1)), (3, .int (y2)), (4, .int (y3)), (5, .int (y4)), (6, .int (y5))] [] σ (some (.int r)) σ') (F : Nat) : ∀ {a0 : Nat} {a2 : Int32} {a3 : Int32} {a4 : Int32} {a5 : Int32} {a6 : Int32} {a7 : Int32} {σ : St}, s_L_isWay_260 k222 F a0 a2 a3 a4 a5 a6 a7 σ = some (r, σ') → Ev M_L_isWay (393) 260 [(0, .ref a0), (2, .int (a2)), (3, .int (a3)), (4, .int (a4)), (5, .int (a5)), (6, .int (a6)), (7, .int (a7))] [] σ (some (.int r)) σ' := by
  induction F with
  | zero => intro a0 a2 a3 a4 a5 a6 a7 σ h; cases h
  | succ F ih =>
    intro a0 a2 a3 a4 a5 a6 a7 σ h
    change sb_L_isWay_260 k222 (s_L_isWay_260 k222 F) a0 a2 a3 a4 a5 a6 a7 σ = some (r, σ') at h
    unfold sb_L_isWay_260 at h
    have hk260 := @ih
    refine ev_iload 6 dL_isWay_260 rfl ?_
    rcases it_some h with ⟨c60, h⟩ | ⟨c60, h⟩
    · refine ev_if_lt (tgt := 365) dL_isWay_262 rfl c60 ?_
      obtain ⟨v61, e62, h⟩ := lt_some h
      refine ev_iinc (v := v61) (ls' := [(6, .int (v61)), (0, .ref a0), (2, .int (a2)), (3, .int (a3)), (4, .int (a4)), (5, .int (a5)), (7, .int (a7))]) 5 dL_isWay_365 rfl e62.symm (by decide) rfl ?_
      refine ev_goto (tgt := 222) dL_isWay_368 rfl ?_
      refine ev_sub (ls' := [(0, .ref a0), (2, .int (a2)), (3, .int (a3)), (4, .int (a4)), (5, .int (a5)), (6, .int (v61))]) [1, 2, 3, 4, 5, 0] rfl ?_
      exact hk222 h
    · refine ev_if_lt_n 365 dL_isWay_262 rfl c60 ?_
      refine ev_iload 6 dL_isWay_265 rfl ?_
      refine ev_aload_nR 0 dL_isWay_267 rfl ?_
      refine ev_iload 5 dL_isWay_268 rfl ?_
      obtain ⟨g63, h⟩ := gd_some h
      obtain ⟨r66, σ64, e65, h⟩ := bd_some h
      refine ev_invVi (As := [.int (a6)]) (st := [.int (a7)]) dL_isWay_270 cb_X10_term tp_647 tp_648 tp_649 kf10 rfl (by omega) g63 rfl rfl (Nat.le_of_ble_eq_true rfl) (x_X10_term e65) ?_
      refine ev_iconst (v := 4) dL_isWay_273 (by decide) ?_
      refine ev_isub dL_isWay_274 ?_
      rcases it_some h with ⟨c67, h⟩ | ⟨c67, h⟩
      · refine ev_icmp_le (tgt := 365) dL_isWay_275 rfl c67 ?_
        obtain ⟨v68, e69, h⟩ := lt_some h
        refine ev_iinc (v := v68) (ls' := [(6, .int (v68)), (0, .ref a0), (2, .int (a2)), (3, .int (a3)), (4, .int (a4)), (5, .int (a5)), (7, .int (a7))]) 5 dL_isWay_365 rfl e69.symm (by decide) rfl ?_
        refine ev_goto (tgt := 222) dL_isWay_368 rfl ?_
        refine ev_sub (ls' := [(0, .ref a0), (2, .int (a2)), (3, .int (a3)), (4, .int (a4)), (5, .int (a5)), (6, .int (v68))]) [1, 2, 3, 4, 5, 0] rfl ?_
        exact hk222 h
      · refine ev_icmp_le_n 365 dL_isWay_275 rfl c67 ?_
        refine ev_aload_nR 0 dL_isWay_278 rfl ?_
        refine ev_iconst (v := 0) dL_isWay_279 (by decide) ?_
        obtain ⟨g70, h⟩ := gd_some h
        obtain ⟨r73, σ71, e72, h⟩ := bd_some h
        refine ev_invVi (As := [.int (0)]) (st := []) dL_isWay_280 cb_X10_trial tp_712 tp_713 tp_714 kf10 rfl (by omega) g70 rfl rfl (Nat.le_of_ble_eq_true rfl) (x_X10_trial e72) ?_
        refine ev_pop dL_isWay_283 rfl ?_
        refine ev_iconst (v := 0) dL_isWay_284 (by decide) ?_
        refine ev_istore (ls' := [(8, .int (0)), (0, .ref a0), (2, .int (a2)), (3, .int (a3)), (4, .int (a4)), (5, .int (a5)), (6, .int (a6)), (7, .int (a7))]) dL_isWay_285 (by decide) rfl ?_
        refine ev_sub (ls' := [(0, .ref a0), (2, .int (a2)), (3, .int (a3)), (4, .int (a4)), (5, .int (a5)), (6, .int (a6)), (7, .int (a7)), (8, .int (0))]) [1, 2, 3, 4, 5, 6, 7, 0] rfl ?_
        exact e_L_isWay_287 hk222 hk260 16000 h
def s_L_isWay_247 (k222 : Nat → Int32 → Int32 → Int32 → Int32 → Int32 → St → Option (Int32 × St)) (a0 : Nat) (a2 : Int32) (a3 : Int32) (a4 : Int32) (a6 : Int32) (t0 : Int32) (t1 : Int32) (σ : St) : Option (Int32 × St) :=
 lt (t0 + t1 : Int32) fun v74 =>
 if isO σ 10 a0 = true then (bd (s_X10_term a0 a6 σ) fun r79 σ77 =>
 lt (r79 - 1 : Int32) fun v80 =>
 s_L_isWay_260 k222 16000 a0 a2 a3 a4 v74 a6 v80 σ77) else none
set_option maxHeartbeats 4000000 in
set_option maxRecDepth 100000 in
theorem e_L_isWay_247 {r : Int32} {σ' : St} {k222 : Nat → Int32 → Int32 → Int32 → Int32 → Int32 → St → Option (Int32 × St)} (hk222 : ∀ {y0 : Nat} {y1 : Int32} {y2 : Int32} {y3 : Int32} {y4 : Int32} {y5 : Int32} {σ : St}, k222 y0 y1 y2 y3 y4 y5 σ = some (r, σ') → Ev M_L_isWay (393) 222 [(0, .ref y0), (2, .int (y1)), (3, .int (y2)), (4, .int (y3)), (5, .int (y4)), (6, .int (y5))] [] σ (some (.int r)) σ') : ∀ {a0 : Nat} {a2 : Int32} {a3 : Int32} {a4 : Int32} {a6 : Int32} {t0 : Int32} {t1 : Int32} {σ : St}, s_L_isWay_247 k222 a0 a2 a3 a4 a6 t0 t1 σ = some (r, σ') → Ev M_L_isWay (393) 247 [(0, .ref a0), (2, .int (a2)), (3, .int (a3)), (4, .int (a4)), (6, .int (a6))] [.int (t1), .int (t0)] σ (some (.int r)) σ' := by
  intro a0 a2 a3 a4 a6 t0 t1 σ h
  unfold s_L_isWay_247 at h
  refine ev_iadd dL_isWay_247 ?_
  obtain ⟨v74, e75, h⟩ := lt_some h
  refine ev_topI e75 ?_
  refine ev_istore (ls' := [(5, .int (v74)), (0, .ref a0), (2, .int (a2)), (3, .int (a3)), (4, .int (a4)), (6, .int (a6))]) dL_isWay_248 (by decide) rfl ?_
  refine ev_aload_nR 1 dL_isWay_250 rfl ?_
  refine ev_iload 5 dL_isWay_251 rfl ?_
  obtain ⟨g76, h⟩ := gd_some h
  obtain ⟨r79, σ77, e78, h⟩ := bd_some h
  refine ev_invVi (As := [.int (a6)]) (st := []) dL_isWay_253 cb_X10_term tp_647 tp_648 tp_649 kf10 rfl (by omega) g76 rfl rfl (Nat.le_of_ble_eq_true rfl) (x_X10_term e78) ?_
  refine ev_iconst (v := 1) dL_isWay_256 (by decide) ?_
  refine ev_isub dL_isWay_257 ?_
  obtain ⟨v80, e81, h⟩ := lt_some h
  refine ev_topI e81 ?_
  refine ev_istore (ls' := [(7, .int (v80)), (5, .int (v74)), (0, .ref a0), (2, .int (a2)), (3, .int (a3)), (4, .int (a4)), (6, .int (a6))]) dL_isWay_258 (by decide) rfl ?_
  refine ev_sub (ls' := [(0, .ref a0), (2, .int (a2)), (3, .int (a3)), (4, .int (a4)), (5, .int (v74)), (6, .int (a6)), (7, .int (v80))]) [2, 3, 4, 5, 1, 6, 0] rfl ?_
  exact e_L_isWay_260 hk222 16000 h
def sb_L_isWay_222 (k222 : Nat → Int32 → Int32 → Int32 → Int32 → Int32 → St → Option (Int32 × St)) (a0 : Nat) (a2 : Int32) (a3 : Int32) (a4 : Int32) (a5 : Int32) (a6 : Int32) (σ : St) : Option (Int32 × St) :=
 if a3 ≤ a6 then (if a4 = a5 then (if isO σ 10 a0 = true then (bd (s_X10_trial a0 1 σ) fun r87 σ85 =>
 if r87 = a3 then (if (60 : Int32) ≤ a3 then (s_L_isWay_427 a0 a3 σ85) else (if isO σ85 10 a0 = true then (bd (s_X10_put a0 0 σ85) fun r93 σ91 =>
 if r93 = (a3 + 1) then (if isO σ91 10 a0 = true then (bd (s_X10_check a0 0 σ91) fun r98 σ96 =>
 if r98 = 6 then (if isO σ96 10 a0 = true then (bd (s_X10_check a0 1 σ96) fun r103 σ101 =>
 if r103 = a3 then (s_L_isWay_427 a0 a3 σ101) else (some (0, σ101))) else none) else (some (0, σ96))) else none) else (some (0, σ91))) else none)) else (some (0, σ85))) else none) else (some (0, σ))) else (if isO σ 10 a0 = true then (bd (s_X10_term a0 a6 σ) fun r108 σ106 =>
 if (200 : Int32) ≤ r108 then (s_L_isWay_247 k222 a0 a2 a3 a4 a6 a5 0 σ106) else (s_L_isWay_247 k222 a0 a2 a3 a4 a6 a5 1 σ106)) else none)
def s_L_isWay_222 (F : Nat) : Nat → Int32 → Int32 → Int32 → Int32 → Int32 → St → Option (Int32 × St) := lp (fun _ _ _ _ _ _ _ => none) (sb_L_isWay_222 ) F
set_option maxHeartbeats 4000000 in
set_option maxRecDepth 100000 in
theorem e_L_isWay_222 {r : Int32} {σ' : St} (F : Nat) : ∀ {a0 : Nat} {a2 : Int32} {a3 : Int32} {a4 : Int32} {a5 : Int32} {a6 : Int32} {σ : St}, s_L_isWay_222 F a0 a2 a3 a4 a5 a6 σ = some (r, σ') → Ev M_L_isWay (393) 222 [(0, .ref a0), (2, .int (a2)), (3, .int (a3)), (4, .int (a4)), (5, .int (a5)), (6, .int (a6))] [] σ (some (.int r)) σ' := by
  induction F with
  | zero => intro a0 a2 a3 a4 a5 a6 σ h; cases h
  | succ F ih =>
    intro a0 a2 a3 a4 a5 a6 σ h
    change sb_L_isWay_222  (s_L_isWay_222 F) a0 a2 a3 a4 a5 a6 σ = some (r, σ') at h
    unfold sb_L_isWay_222 at h
    have hk222 := @ih
    refine ev_iload 5 dL_isWay_222 rfl ?_
    refine ev_iload_n 2 dL_isWay_224 rfl ?_
    rcases it_some h with ⟨c82, h⟩ | ⟨c82, h⟩
    · refine ev_icmp_ge (tgt := 371) dL_isWay_225 rfl c82 ?_
      refine ev_iload 3 dL_isWay_371 rfl ?_
      refine ev_iload 4 dL_isWay_373 rfl ?_
      rcases it_some h with ⟨c83, h⟩ | ⟨c83, h⟩
      · refine ev_icmp_eq (tgt := 380) dL_isWay_375 rfl c83 ?_
        refine ev_aload_nR 0 dL_isWay_380 rfl ?_
        refine ev_iconst (v := 1) dL_isWay_381 (by decide) ?_
        obtain ⟨g84, h⟩ := gd_some h
        obtain ⟨r87, σ85, e86, h⟩ := bd_some h
        refine ev_invVi (As := [.int (1)]) (st := []) dL_isWay_382 cb_X10_trial tp_712 tp_713 tp_714 kf10 rfl (by omega) g84 rfl rfl (Nat.le_of_ble_eq_true rfl) (x_X10_trial e86) ?_
        refine ev_iload_n 2 dL_isWay_385 rfl ?_
        rcases it_some h with ⟨c88, h⟩ | ⟨c88, h⟩
        · refine ev_icmp_ne_n 425 dL_isWay_386 rfl c88 ?_
          refine ev_iload_n 2 dL_isWay_389 rfl ?_
          refine ev_bipush (v := 60) dL_isWay_390 (by decide) ?_
          rcases it_some h with ⟨c89, h⟩ | ⟨c89, h⟩
          · refine ev_icmp_ge (tgt := 427) dL_isWay_392 rfl c89 ?_
            refine ev_sub (ls' := [(0, .ref a0), (3, .int (a3))]) [0, 2] rfl ?_
            exact e_L_isWay_427  h
          · refine ev_icmp_ge_n 427 dL_isWay_392 rfl c89 ?_
            refine ev_aload_nR 0 dL_isWay_395 rfl ?_
            refine ev_iconst (v := 0) dL_isWay_396 (by decide) ?_
            obtain ⟨g90, h⟩ := gd_some h
            obtain ⟨r93, σ91, e92, h⟩ := bd_some h
            refine ev_invVi (As := [.int (0)]) (st := []) dL_isWay_397 cb_X10_put tp_909 tp_910 tp_911 kf10 rfl (by omega) g90 rfl rfl (Nat.le_of_ble_eq_true rfl) (x_X10_put e92) ?_
            refine ev_iload_n 2 dL_isWay_400 rfl ?_
            refine ev_iconst (v := 1) dL_isWay_401 (by decide) ?_
            refine ev_iadd dL_isWay_402 ?_
            rcases it_some h with ⟨c94, h⟩ | ⟨c94, h⟩
            · refine ev_icmp_ne_n 425 dL_isWay_403 rfl c94 ?_
              refine ev_aload_nR 0 dL_isWay_406 rfl ?_
              refine ev_iconst (v := 0) dL_isWay_407 (by decide) ?_
              obtain ⟨g95, h⟩ := gd_some h
              obtain ⟨r98, σ96, e97, h⟩ := bd_some h
              refine ev_invVi (As := [.int (0)]) (st := []) dL_isWay_408 cb_X10_check tp_728 tp_729 tp_730 kf10 rfl (by omega) g95 rfl rfl (Nat.le_of_ble_eq_true rfl) (x_X10_check e97) ?_
              refine ev_bipush (v := 6) dL_isWay_411 (by decide) ?_
              rcases it_some h with ⟨c99, h⟩ | ⟨c99, h⟩
              · refine ev_icmp_ne_n 425 dL_isWay_413 rfl c99 ?_
                refine ev_aload_nR 0 dL_isWay_416 rfl ?_
                refine ev_iconst (v := 1) dL_isWay_417 (by decide) ?_
                obtain ⟨g100, h⟩ := gd_some h
                obtain ⟨r103, σ101, e102, h⟩ := bd_some h
                refine ev_invVi (As := [.int (1)]) (st := []) dL_isWay_418 cb_X10_check tp_728 tp_729 tp_730 kf10 rfl (by omega) g100 rfl rfl (Nat.le_of_ble_eq_true rfl) (x_X10_check e102) ?_
                refine ev_iload_n 2 dL_isWay_421 rfl ?_
                rcases it_some h with ⟨c104, h⟩ | ⟨c104, h⟩
                · refine ev_icmp_eq (tgt := 427) dL_isWay_422 rfl c104 ?_
                  refine ev_sub (ls' := [(0, .ref a0), (3, .int (a3))]) [0, 2] rfl ?_
                  exact e_L_isWay_427  h
                · refine ev_icmp_eq_n 427 dL_isWay_422 rfl c104 ?_
                  refine ev_iconst (v := 0) dL_isWay_425 (by decide) ?_
                  exact ev_retI .boolean dL_isWay_426 rfl rfl h
              · refine ev_icmp_ne (tgt := 425) dL_isWay_413 rfl c99 ?_
                refine ev_iconst (v := 0) dL_isWay_425 (by decide) ?_
                exact ev_retI .boolean dL_isWay_426 rfl rfl h
            · refine ev_icmp_ne (tgt := 425) dL_isWay_403 rfl c94 ?_
              refine ev_iconst (v := 0) dL_isWay_425 (by decide) ?_
              exact ev_retI .boolean dL_isWay_426 rfl rfl h
        · refine ev_icmp_ne (tgt := 425) dL_isWay_386 rfl c88 ?_
          refine ev_iconst (v := 0) dL_isWay_425 (by decide) ?_
          exact ev_retI .boolean dL_isWay_426 rfl rfl h
      · refine ev_icmp_eq_n 380 dL_isWay_375 rfl c83 ?_
        refine ev_iconst (v := 0) dL_isWay_378 (by decide) ?_
        exact ev_retI .boolean dL_isWay_379 rfl rfl h
    · refine ev_icmp_ge_n 371 dL_isWay_225 rfl c82 ?_
      refine ev_iload 4 dL_isWay_228 rfl ?_
      refine ev_aload_nR 0 dL_isWay_230 rfl ?_
      refine ev_iload 5 dL_isWay_231 rfl ?_
      obtain ⟨g105, h⟩ := gd_some h
      obtain ⟨r108, σ106, e107, h⟩ := bd_some h
      refine ev_invVi (As := [.int (a6)]) (st := [.int (a5)]) dL_isWay_233 cb_X10_term tp_647 tp_648 tp_649 kf10 rfl (by omega) g105 rfl rfl (Nat.le_of_ble_eq_true rfl) (x_X10_term e107) ?_
      refine ev_sipush (v := 200) dL_isWay_236 (by decide) ?_
      rcases it_some h with ⟨c109, h⟩ | ⟨c109, h⟩
      · refine ev_icmp_ge (tgt := 246) dL_isWay_239 rfl c109 ?_
        refine ev_iconst (v := 0) dL_isWay_246 (by decide) ?_
        refine ev_sub (ls' := [(0, .ref a0), (2, .int (a2)), (3, .int (a3)), (4, .int (a4)), (6, .int (a6))]) [0, 1, 2, 3, 5] rfl ?_
        exact e_L_isWay_247 hk222 h
      · refine ev_icmp_ge_n 246 dL_isWay_239 rfl c109 ?_
        refine ev_iconst (v := 1) dL_isWay_242 (by decide) ?_
        refine ev_goto (tgt := 247) dL_isWay_243 rfl ?_
        refine ev_sub (ls' := [(0, .ref a0), (2, .int (a2)), (3, .int (a3)), (4, .int (a4)), (6, .int (a6))]) [0, 1, 2, 3, 5] rfl ?_
        exact e_L_isWay_247 hk222 h
def s_L_isWay_206 (k173 : Nat → Int32 → Int32 → Int32 → Int32 → St → Option (Int32 × St)) (a0 : Nat) (a2 : Int32) (a3 : Int32) (a5 : Int32) (t0 : Int32) (t1 : Int32) (t2 : Int32) (σ : St) : Option (Int32 × St) :=
 lt (t0 + (t1 + t2) : Int32) fun v110 =>
 lt (a5 + 1 : Int32) fun v112 =>
 k173 a0 a2 a3 v110 v112 σ
set_option maxHeartbeats 4000000 in
set_option maxRecDepth 100000 in
theorem e_L_isWay_206 {r : Int32} {σ' : St} {k173 : Nat → Int32 → Int32 → Int32 → Int32 → St → Option (Int32 × St)} (hk173 : ∀ {y0 : Nat} {y1 : Int32} {y2 : Int32} {y3 : Int32} {y4 : Int32} {σ : St}, k173 y0 y1 y2 y3 y4 σ = some (r, σ') → Ev M_L_isWay (393) 173 [(0, .ref y0), (2, .int (y1)), (3, .int (y2)), (4, .int (y3)), (5, .int (y4))] [] σ (some (.int r)) σ') : ∀ {a0 : Nat} {a2 : Int32} {a3 : Int32} {a5 : Int32} {t0 : Int32} {t1 : Int32} {t2 : Int32} {σ : St}, s_L_isWay_206 k173 a0 a2 a3 a5 t0 t1 t2 σ = some (r, σ') → Ev M_L_isWay (393) 206 [(0, .ref a0), (2, .int (a2)), (3, .int (a3)), (5, .int (a5))] [.int (t2), .int (t1), .int (t0)] σ (some (.int r)) σ' := by
  intro a0 a2 a3 a5 t0 t1 t2 σ h
  unfold s_L_isWay_206 at h
  refine ev_iadd dL_isWay_206 ?_
  refine ev_iadd dL_isWay_207 ?_
  obtain ⟨v110, e111, h⟩ := lt_some h
  refine ev_topI e111 ?_
  refine ev_istore (ls' := [(4, .int (v110)), (0, .ref a0), (2, .int (a2)), (3, .int (a3)), (5, .int (a5))]) dL_isWay_208 (by decide) rfl ?_
  obtain ⟨v112, e113, h⟩ := lt_some h
  refine ev_iinc (v := v112) (ls' := [(5, .int (v112)), (4, .int (v110)), (0, .ref a0), (2, .int (a2)), (3, .int (a3))]) 4 dL_isWay_210 rfl e113.symm (by decide) rfl ?_
  refine ev_goto (tgt := 173) dL_isWay_213 rfl ?_
  refine ev_sub (ls' := [(0, .ref a0), (2, .int (a2)), (3, .int (a3)), (4, .int (v110)), (5, .int (v112))]) [2, 3, 4, 1, 0] rfl ?_
  exact hk173 h
def sb_L_isWay_173 (k173 : Nat → Int32 → Int32 → Int32 → Int32 → St → Option (Int32 × St)) (a0 : Nat) (a2 : Int32) (a3 : Int32) (a4 : Int32) (a5 : Int32) (σ : St) : Option (Int32 × St) :=
 if (8 : Int32) ≤ a5 then (s_L_isWay_222 16000 a0 a2 a3 a4 0 0 σ) else (if isO σ 10 a0 = true then (bd (s_X10_uses a0 0 a5 σ) fun r118 σ116 =>
 if (4 : Int32) ≤ a5 then (s_L_isWay_206 k173 a0 a2 a3 a5 a4 r118 0 σ116) else (if isO σ116 10 a0 = true then (bd (s_X10_uses a0 1 a5 σ116) fun r123 σ121 =>
 s_L_isWay_206 k173 a0 a2 a3 a5 a4 r118 r123 σ121) else none)) else none)
def s_L_isWay_173 (F : Nat) : Nat → Int32 → Int32 → Int32 → Int32 → St → Option (Int32 × St) := lp (fun _ _ _ _ _ _ => none) (sb_L_isWay_173 ) F
set_option maxHeartbeats 4000000 in
set_option maxRecDepth 100000 in
theorem e_L_isWay_173 {r : Int32} {σ' : St} (F : Nat) : ∀ {a0 : Nat} {a2 : Int32} {a3 : Int32} {a4 : Int32} {a5 : Int32} {σ : St}, s_L_isWay_173 F a0 a2 a3 a4 a5 σ = some (r, σ') → Ev M_L_isWay (393) 173 [(0, .ref a0), (2, .int (a2)), (3, .int (a3)), (4, .int (a4)), (5, .int (a5))] [] σ (some (.int r)) σ' := by
  induction F with
  | zero => intro a0 a2 a3 a4 a5 σ h; cases h
  | succ F ih =>
    intro a0 a2 a3 a4 a5 σ h
    change sb_L_isWay_173  (s_L_isWay_173 F) a0 a2 a3 a4 a5 σ = some (r, σ') at h
    unfold sb_L_isWay_173 at h
    have hk173 := @ih
    refine ev_iload 4 dL_isWay_173 rfl ?_
    refine ev_bipush (v := 8) dL_isWay_175 (by decide) ?_
    rcases it_some h with ⟨c114, h⟩ | ⟨c114, h⟩
    · refine ev_icmp_ge (tgt := 216) dL_isWay_177 rfl c114 ?_
      refine ev_iconst (v := 0) dL_isWay_216 (by decide) ?_
      refine ev_istore (ls' := [(5, .int (0)), (0, .ref a0), (2, .int (a2)), (3, .int (a3)), (4, .int (a4))]) dL_isWay_217 (by decide) rfl ?_
      refine ev_iconst (v := 0) dL_isWay_219 (by decide) ?_
      refine ev_istore (ls' := [(6, .int (0)), (5, .int (0)), (0, .ref a0), (2, .int (a2)), (3, .int (a3)), (4, .int (a4))]) dL_isWay_220 (by decide) rfl ?_
      refine ev_sub (ls' := [(0, .ref a0), (2, .int (a2)), (3, .int (a3)), (4, .int (a4)), (5, .int (0)), (6, .int (0))]) [2, 3, 4, 5, 1, 0] rfl ?_
      exact e_L_isWay_222 16000 h
    · refine ev_icmp_ge_n 216 dL_isWay_177 rfl c114 ?_
      refine ev_iload 3 dL_isWay_180 rfl ?_
      refine ev_aload_nR 0 dL_isWay_182 rfl ?_
      refine ev_iconst (v := 0) dL_isWay_183 (by decide) ?_
      refine ev_iload 4 dL_isWay_184 rfl ?_
      obtain ⟨g115, h⟩ := gd_some h
      obtain ⟨r118, σ116, e117, h⟩ := bd_some h
      refine ev_invVi (As := [.int (0), .int (a5)]) (st := [.int (a4)]) dL_isWay_186 cb_X10_uses tp_900 tp_901 tp_902 kf10 rfl (by omega) g115 rfl rfl (Nat.le_of_ble_eq_true rfl) (x_X10_uses e117) ?_
      refine ev_iload 4 dL_isWay_189 rfl ?_
      refine ev_iconst (v := 4) dL_isWay_191 (by decide) ?_
      rcases it_some h with ⟨c119, h⟩ | ⟨c119, h⟩
      · refine ev_icmp_ge (tgt := 205) dL_isWay_192 rfl c119 ?_
        refine ev_iconst (v := 0) dL_isWay_205 (by decide) ?_
        refine ev_sub (ls' := [(0, .ref a0), (2, .int (a2)), (3, .int (a3)), (5, .int (a5))]) [0, 1, 2, 4] rfl ?_
        exact e_L_isWay_206 hk173 h
      · refine ev_icmp_ge_n 205 dL_isWay_192 rfl c119 ?_
        refine ev_aload_nR 0 dL_isWay_195 rfl ?_
        refine ev_iconst (v := 1) dL_isWay_196 (by decide) ?_
        refine ev_iload 4 dL_isWay_197 rfl ?_
        obtain ⟨g120, h⟩ := gd_some h
        obtain ⟨r123, σ121, e122, h⟩ := bd_some h
        refine ev_invVi (As := [.int (1), .int (a5)]) (st := [.int (r118), .int (a4)]) dL_isWay_199 cb_X10_uses tp_900 tp_901 tp_902 kf10 rfl (by omega) g120 rfl rfl (Nat.le_of_ble_eq_true rfl) (x_X10_uses e122) ?_
        refine ev_goto (tgt := 206) dL_isWay_202 rfl ?_
        refine ev_sub (ls' := [(0, .ref a0), (2, .int (a2)), (3, .int (a3)), (5, .int (a5))]) [0, 1, 2, 4] rfl ?_
        exact e_L_isWay_206 hk173 h
def s_L_isWay_103 (a0 : Nat) (a2 : Int32) (a3 : Int32) (t0 : Int32) (t1 : Int32) (σ : St) : Option (Int32 × St) :=
 if t0 = t1 then (if a3 ≤ 60 then (if isO σ 10 a0 = true then (bd (s_X10_check a0 0 σ) fun r129 σ127 =>
 if r129 = 0 then (if isO σ127 10 a0 = true then (bd (s_X10_check a0 1 σ127) fun r134 σ132 =>
 if r134 = a3 then (if isO σ132 10 a0 = true then (bd (s_X10_check a0 2 σ132) fun r139 σ137 =>
 if r139 = a2 then (s_L_isWay_173 16000 a0 a2 a3 0 0 σ137) else (some (0, σ137))) else none) else (some (0, σ132))) else none) else (some (0, σ127))) else none) else (if isO σ 10 a0 = true then (bd (s_X10_check a0 0 σ) fun r144 σ142 =>
 if r144 = 2 then (if isO σ142 10 a0 = true then (bd (s_X10_check a0 1 σ142) fun r149 σ147 =>
 if r149 = 60 then (some (1, σ147)) else (some (0, σ147))) else none) else (some (0, σ142))) else none)) else (some (0, σ))
set_option maxHeartbeats 4000000 in
set_option maxRecDepth 100000 in
theorem e_L_isWay_103 {r : Int32} {σ' : St} : ∀ {a0 : Nat} {a2 : Int32} {a3 : Int32} {t0 : Int32} {t1 : Int32} {σ : St}, s_L_isWay_103 a0 a2 a3 t0 t1 σ = some (r, σ') → Ev M_L_isWay (393) 103 [(0, .ref a0), (2, .int (a2)), (3, .int (a3))] [.int (t1), .int (t0)] σ (some (.int r)) σ' := by
  intro a0 a2 a3 t0 t1 σ h
  unfold s_L_isWay_103 at h
  rcases it_some h with ⟨c124, h⟩ | ⟨c124, h⟩
  · refine ev_icmp_eq (tgt := 108) dL_isWay_103 rfl c124 ?_
    refine ev_iload_n 2 dL_isWay_108 rfl ?_
    refine ev_bipush (v := 60) dL_isWay_109 (by decide) ?_
    rcases it_some h with ⟨c125, h⟩ | ⟨c125, h⟩
    · refine ev_icmp_le (tgt := 139) dL_isWay_111 rfl c125 ?_
      refine ev_aload_nR 0 dL_isWay_139 rfl ?_
      refine ev_iconst (v := 0) dL_isWay_140 (by decide) ?_
      obtain ⟨g126, h⟩ := gd_some h
      obtain ⟨r129, σ127, e128, h⟩ := bd_some h
      refine ev_invVi (As := [.int (0)]) (st := []) dL_isWay_141 cb_X10_check tp_728 tp_729 tp_730 kf10 rfl (by omega) g126 rfl rfl (Nat.le_of_ble_eq_true rfl) (x_X10_check e128) ?_
      rcases it_some h with ⟨c130, h⟩ | ⟨c130, h⟩
      · refine ev_if_ne_n 165 dL_isWay_144 rfl c130 ?_
        refine ev_aload_nR 0 dL_isWay_147 rfl ?_
        refine ev_iconst (v := 1) dL_isWay_148 (by decide) ?_
        obtain ⟨g131, h⟩ := gd_some h
        obtain ⟨r134, σ132, e133, h⟩ := bd_some h
        refine ev_invVi (As := [.int (1)]) (st := []) dL_isWay_149 cb_X10_check tp_728 tp_729 tp_730 kf10 rfl (by omega) g131 rfl rfl (Nat.le_of_ble_eq_true rfl) (x_X10_check e133) ?_
        refine ev_iload_n 2 dL_isWay_152 rfl ?_
        rcases it_some h with ⟨c135, h⟩ | ⟨c135, h⟩
        · refine ev_icmp_ne_n 165 dL_isWay_153 rfl c135 ?_
          refine ev_aload_nR 0 dL_isWay_156 rfl ?_
          refine ev_iconst (v := 2) dL_isWay_157 (by decide) ?_
          obtain ⟨g136, h⟩ := gd_some h
          obtain ⟨r139, σ137, e138, h⟩ := bd_some h
          refine ev_invVi (As := [.int (2)]) (st := []) dL_isWay_158 cb_X10_check tp_728 tp_729 tp_730 kf10 rfl (by omega) g136 rfl rfl (Nat.le_of_ble_eq_true rfl) (x_X10_check e138) ?_
          refine ev_iload_n 1 dL_isWay_161 rfl ?_
          rcases it_some h with ⟨c140, h⟩ | ⟨c140, h⟩
          · refine ev_icmp_eq (tgt := 167) dL_isWay_162 rfl c140 ?_
            refine ev_iconst (v := 0) dL_isWay_167 (by decide) ?_
            refine ev_istore (ls' := [(4, .int (0)), (0, .ref a0), (2, .int (a2)), (3, .int (a3))]) dL_isWay_168 (by decide) rfl ?_
            refine ev_iconst (v := 0) dL_isWay_170 (by decide) ?_
            refine ev_istore (ls' := [(5, .int (0)), (4, .int (0)), (0, .ref a0), (2, .int (a2)), (3, .int (a3))]) dL_isWay_171 (by decide) rfl ?_
            refine ev_sub (ls' := [(0, .ref a0), (2, .int (a2)), (3, .int (a3)), (4, .int (0)), (5, .int (0))]) [2, 3, 4, 1, 0] rfl ?_
            exact e_L_isWay_173 16000 h
          · refine ev_icmp_eq_n 167 dL_isWay_162 rfl c140 ?_
            refine ev_iconst (v := 0) dL_isWay_165 (by decide) ?_
            exact ev_retI .boolean dL_isWay_166 rfl rfl h
        · refine ev_icmp_ne (tgt := 165) dL_isWay_153 rfl c135 ?_
          refine ev_iconst (v := 0) dL_isWay_165 (by decide) ?_
          exact ev_retI .boolean dL_isWay_166 rfl rfl h
      · refine ev_if_ne (tgt := 165) dL_isWay_144 rfl c130 ?_
        refine ev_iconst (v := 0) dL_isWay_165 (by decide) ?_
        exact ev_retI .boolean dL_isWay_166 rfl rfl h
    · refine ev_icmp_le_n 139 dL_isWay_111 rfl c125 ?_
      refine ev_aload_nR 0 dL_isWay_114 rfl ?_
      refine ev_iconst (v := 0) dL_isWay_115 (by decide) ?_
      obtain ⟨g141, h⟩ := gd_some h
      obtain ⟨r144, σ142, e143, h⟩ := bd_some h
      refine ev_invVi (As := [.int (0)]) (st := []) dL_isWay_116 cb_X10_check tp_728 tp_729 tp_730 kf10 rfl (by omega) g141 rfl rfl (Nat.le_of_ble_eq_true rfl) (x_X10_check e143) ?_
      refine ev_iconst (v := 2) dL_isWay_119 (by decide) ?_
      rcases it_some h with ⟨c145, h⟩ | ⟨c145, h⟩
      · refine ev_icmp_ne_n 137 dL_isWay_120 rfl c145 ?_
        refine ev_aload_nR 0 dL_isWay_123 rfl ?_
        refine ev_iconst (v := 1) dL_isWay_124 (by decide) ?_
        obtain ⟨g146, h⟩ := gd_some h
        obtain ⟨r149, σ147, e148, h⟩ := bd_some h
        refine ev_invVi (As := [.int (1)]) (st := []) dL_isWay_125 cb_X10_check tp_728 tp_729 tp_730 kf10 rfl (by omega) g146 rfl rfl (Nat.le_of_ble_eq_true rfl) (x_X10_check e148) ?_
        refine ev_bipush (v := 60) dL_isWay_128 (by decide) ?_
        rcases it_some h with ⟨c150, h⟩ | ⟨c150, h⟩
        · refine ev_icmp_ne_n 137 dL_isWay_130 rfl c150 ?_
          refine ev_iconst (v := 1) dL_isWay_133 (by decide) ?_
          refine ev_goto (tgt := 138) dL_isWay_134 rfl ?_
          exact ev_retI .boolean dL_isWay_138 rfl rfl h
        · refine ev_icmp_ne (tgt := 137) dL_isWay_130 rfl c150 ?_
          refine ev_iconst (v := 0) dL_isWay_137 (by decide) ?_
          exact ev_retI .boolean dL_isWay_138 rfl rfl h
      · refine ev_icmp_ne (tgt := 137) dL_isWay_120 rfl c145 ?_
        refine ev_iconst (v := 0) dL_isWay_137 (by decide) ?_
        exact ev_retI .boolean dL_isWay_138 rfl rfl h
  · refine ev_icmp_eq_n 108 dL_isWay_103 rfl c124 ?_
    refine ev_iconst (v := 0) dL_isWay_106 (by decide) ?_
    exact ev_retI .boolean dL_isWay_107 rfl rfl h
def s_L_isWay (a0 : Nat) (a1 : Int32) (σ : St) : Option (Int32 × St) :=
 if isO σ 10 a0 = true then (bd (s_X10_height a0 a1 σ) fun r154 σ152 =>
 if isO σ152 10 a0 = true then (bd (s_X10_term a0 ((-1)) σ152) fun r158 σ156 =>
 if (0 : Int32) ≤ r154 then (if r158 < 0 then (some (0, σ156)) else (if isO σ156 10 a0 = true then (bd (s_X10_term a0 r158 σ156) fun r164 σ162 =>
 if r164 = ((-6)) then (if isO σ162 10 a0 = true then (bd (s_X10_trial a0 1 σ162) fun r169 σ167 =>
 if r158 ≤ 60 then (s_L_isWay_103 a0 r154 r158 r169 r158 σ167) else (s_L_isWay_103 a0 r154 r158 r169 60 σ167)) else none) else (some (0, σ162))) else none)) else (if r158 = ((-6)) then (if isO σ156 10 a0 = true then (bd (s_X10_term a0 0 σ156) fun r175 σ173 =>
 if r175 = ((-6)) then (if isO σ173 10 a0 = true then (bd (s_X10_trial a0 1 σ173) fun r180 σ178 =>
 if r180 = 0 then (if isO σ178 10 a0 = true then (bd (s_X10_check a0 0 σ178) fun r185 σ183 =>
 if r185 = 0 then (some (0, σ183)) else (if isO σ183 10 a0 = true then (bd (s_X10_uses a0 0 0 σ183) fun r190 σ188 =>
 if r190 = 0 then (if isO σ188 10 a0 = true then (bd (s_X10_uses a0 1 3 σ188) fun r195 σ193 =>
 if r195 = 0 then (some (1, σ193)) else (some (0, σ193))) else none) else (some (0, σ188))) else none)) else none) else (some (0, σ178))) else none) else (some (0, σ173))) else none) else (some (0, σ156)))) else none) else none
set_option maxHeartbeats 4000000 in
set_option maxRecDepth 100000 in
theorem x_L_isWay {a0 : Nat} {a1 : Int32} {σ : St} {r : Int32} {σ' : St} (h : s_L_isWay a0 a1 σ = some (r, σ')) : Ex M_L_isWay (393) [.ref a0, .int (a1)] σ (some (.int r)) σ' := by
  unfold s_L_isWay at h
  refine ex_of (by decide) rfl (Nat.le_of_ble_eq_true rfl) ?_
  show Ev _ _ 0 [(0, .ref a0), (1, .int (a1))] [] _ _ _
  refine ev_aload_nR 0 dL_isWay_0 rfl ?_
  refine ev_iload_n 1 dL_isWay_1 rfl ?_
  obtain ⟨g151, h⟩ := gd_some h
  obtain ⟨r154, σ152, e153, h⟩ := bd_some h
  refine ev_invVi (As := [.int (a1)]) (st := []) dL_isWay_2 cb_X10_height tp_482 tp_483 tp_484 kf10 rfl (by omega) g151 rfl rfl (Nat.le_of_ble_eq_true rfl) (x_X10_height e153) ?_
  refine ev_istore_n (ls' := [(2, .int (r154)), (0, .ref a0), (1, .int (a1))]) dL_isWay_5 (by decide) rfl ?_
  refine ev_aload_nR 1 dL_isWay_6 rfl ?_
  refine ev_iconst (v := (-1)) dL_isWay_7 (by decide) ?_
  obtain ⟨g155, h⟩ := gd_some h
  obtain ⟨r158, σ156, e157, h⟩ := bd_some h
  refine ev_invVi (As := [.int ((-1))]) (st := []) dL_isWay_8 cb_X10_term tp_647 tp_648 tp_649 kf10 rfl (by omega) g155 rfl rfl (Nat.le_of_ble_eq_true rfl) (x_X10_term e157) ?_
  refine ev_istore_n (ls' := [(3, .int (r158)), (2, .int (r154)), (0, .ref a0), (1, .int (a1))]) dL_isWay_11 (by decide) rfl ?_
  refine ev_iload_n 1 dL_isWay_12 rfl ?_
  rcases it_some h with ⟨c159, h⟩ | ⟨c159, h⟩
  · refine ev_if_ge (tgt := 72) dL_isWay_13 rfl c159 ?_
    refine ev_iload_n 0 dL_isWay_72 rfl ?_
    rcases it_some h with ⟨c160, h⟩ | ⟨c160, h⟩
    · refine ev_if_lt (tgt := 106) dL_isWay_73 rfl c160 ?_
      refine ev_iconst (v := 0) dL_isWay_106 (by decide) ?_
      exact ev_retI .boolean dL_isWay_107 rfl rfl h
    · refine ev_if_lt_n 106 dL_isWay_73 rfl c160 ?_
      refine ev_aload_nR 2 dL_isWay_76 rfl ?_
      refine ev_iload_n 0 dL_isWay_77 rfl ?_
      obtain ⟨g161, h⟩ := gd_some h
      obtain ⟨r164, σ162, e163, h⟩ := bd_some h
      refine ev_invVi (As := [.int (r158)]) (st := []) dL_isWay_78 cb_X10_term tp_647 tp_648 tp_649 kf10 rfl (by omega) g161 rfl rfl (Nat.le_of_ble_eq_true rfl) (x_X10_term e163) ?_
      refine ev_bipush (v := (-6)) dL_isWay_81 (by decide) ?_
      rcases it_some h with ⟨c165, h⟩ | ⟨c165, h⟩
      · refine ev_icmp_ne_n 106 dL_isWay_83 rfl c165 ?_
        refine ev_aload_nR 2 dL_isWay_86 rfl ?_
        refine ev_iconst (v := 1) dL_isWay_87 (by decide) ?_
        obtain ⟨g166, h⟩ := gd_some h
        obtain ⟨r169, σ167, e168, h⟩ := bd_some h
        refine ev_invVi (As := [.int (1)]) (st := []) dL_isWay_88 cb_X10_trial tp_712 tp_713 tp_714 kf10 rfl (by omega) g166 rfl rfl (Nat.le_of_ble_eq_true rfl) (x_X10_trial e168) ?_
        refine ev_iload_n 0 dL_isWay_91 rfl ?_
        refine ev_bipush (v := 60) dL_isWay_92 (by decide) ?_
        rcases it_some h with ⟨c170, h⟩ | ⟨c170, h⟩
        · refine ev_icmp_le (tgt := 102) dL_isWay_94 rfl c170 ?_
          refine ev_iload_n 0 dL_isWay_102 rfl ?_
          refine ev_sub (ls' := [(0, .ref a0), (2, .int (r154)), (3, .int (r158))]) [2, 1, 0] rfl ?_
          exact e_L_isWay_103  h
        · refine ev_icmp_le_n 102 dL_isWay_94 rfl c170 ?_
          refine ev_bipush (v := 60) dL_isWay_97 (by decide) ?_
          refine ev_goto (tgt := 103) dL_isWay_99 rfl ?_
          refine ev_sub (ls' := [(0, .ref a0), (2, .int (r154)), (3, .int (r158))]) [2, 1, 0] rfl ?_
          exact e_L_isWay_103  h
      · refine ev_icmp_ne (tgt := 106) dL_isWay_83 rfl c165 ?_
        refine ev_iconst (v := 0) dL_isWay_106 (by decide) ?_
        exact ev_retI .boolean dL_isWay_107 rfl rfl h
  · refine ev_if_ge_n 72 dL_isWay_13 rfl c159 ?_
    refine ev_iload_n 0 dL_isWay_16 rfl ?_
    refine ev_bipush (v := (-6)) dL_isWay_17 (by decide) ?_
    rcases it_some h with ⟨c171, h⟩ | ⟨c171, h⟩
    · refine ev_icmp_ne_n 70 dL_isWay_19 rfl c171 ?_
      refine ev_aload_nR 2 dL_isWay_22 rfl ?_
      refine ev_iconst (v := 0) dL_isWay_23 (by decide) ?_
      obtain ⟨g172, h⟩ := gd_some h
      obtain ⟨r175, σ173, e174, h⟩ := bd_some h
      refine ev_invVi (As := [.int (0)]) (st := []) dL_isWay_24 cb_X10_term tp_647 tp_648 tp_649 kf10 rfl (by omega) g172 rfl rfl (Nat.le_of_ble_eq_true rfl) (x_X10_term e174) ?_
      refine ev_bipush (v := (-6)) dL_isWay_27 (by decide) ?_
      rcases it_some h with ⟨c176, h⟩ | ⟨c176, h⟩
      · refine ev_icmp_ne_n 70 dL_isWay_29 rfl c176 ?_
        refine ev_aload_nR 2 dL_isWay_32 rfl ?_
        refine ev_iconst (v := 1) dL_isWay_33 (by decide) ?_
        obtain ⟨g177, h⟩ := gd_some h
        obtain ⟨r180, σ178, e179, h⟩ := bd_some h
        refine ev_invVi (As := [.int (1)]) (st := []) dL_isWay_34 cb_X10_trial tp_712 tp_713 tp_714 kf10 rfl (by omega) g177 rfl rfl (Nat.le_of_ble_eq_true rfl) (x_X10_trial e179) ?_
        rcases it_some h with ⟨c181, h⟩ | ⟨c181, h⟩
        · refine ev_if_ne_n 70 dL_isWay_37 rfl c181 ?_
          refine ev_aload_nR 2 dL_isWay_40 rfl ?_
          refine ev_iconst (v := 0) dL_isWay_41 (by decide) ?_
          obtain ⟨g182, h⟩ := gd_some h
          obtain ⟨r185, σ183, e184, h⟩ := bd_some h
          refine ev_invVi (As := [.int (0)]) (st := []) dL_isWay_42 cb_X10_check tp_728 tp_729 tp_730 kf10 rfl (by omega) g182 rfl rfl (Nat.le_of_ble_eq_true rfl) (x_X10_check e184) ?_
          rcases it_some h with ⟨c186, h⟩ | ⟨c186, h⟩
          · refine ev_if_eq (tgt := 70) dL_isWay_45 rfl c186 ?_
            refine ev_iconst (v := 0) dL_isWay_70 (by decide) ?_
            exact ev_retI .boolean dL_isWay_71 rfl rfl h
          · refine ev_if_eq_n 70 dL_isWay_45 rfl c186 ?_
            refine ev_aload_nR 2 dL_isWay_48 rfl ?_
            refine ev_iconst (v := 0) dL_isWay_49 (by decide) ?_
            refine ev_iconst (v := 0) dL_isWay_50 (by decide) ?_
            obtain ⟨g187, h⟩ := gd_some h
            obtain ⟨r190, σ188, e189, h⟩ := bd_some h
            refine ev_invVi (As := [.int (0), .int (0)]) (st := []) dL_isWay_51 cb_X10_uses tp_900 tp_901 tp_902 kf10 rfl (by omega) g187 rfl rfl (Nat.le_of_ble_eq_true rfl) (x_X10_uses e189) ?_
            rcases it_some h with ⟨c191, h⟩ | ⟨c191, h⟩
            · refine ev_if_ne_n 70 dL_isWay_54 rfl c191 ?_
              refine ev_aload_nR 2 dL_isWay_57 rfl ?_
              refine ev_iconst (v := 1) dL_isWay_58 (by decide) ?_
              refine ev_iconst (v := 3) dL_isWay_59 (by decide) ?_
              obtain ⟨g192, h⟩ := gd_some h
              obtain ⟨r195, σ193, e194, h⟩ := bd_some h
              refine ev_invVi (As := [.int (1), .int (3)]) (st := []) dL_isWay_60 cb_X10_uses tp_900 tp_901 tp_902 kf10 rfl (by omega) g192 rfl rfl (Nat.le_of_ble_eq_true rfl) (x_X10_uses e194) ?_
              rcases it_some h with ⟨c196, h⟩ | ⟨c196, h⟩
              · refine ev_if_ne_n 70 dL_isWay_63 rfl c196 ?_
                refine ev_iconst (v := 1) dL_isWay_66 (by decide) ?_
                refine ev_goto (tgt := 71) dL_isWay_67 rfl ?_
                exact ev_retI .boolean dL_isWay_71 rfl rfl h
              · refine ev_if_ne (tgt := 70) dL_isWay_63 rfl c196 ?_
                refine ev_iconst (v := 0) dL_isWay_70 (by decide) ?_
                exact ev_retI .boolean dL_isWay_71 rfl rfl h
            · refine ev_if_ne (tgt := 70) dL_isWay_54 rfl c191 ?_
              refine ev_iconst (v := 0) dL_isWay_70 (by decide) ?_
              exact ev_retI .boolean dL_isWay_71 rfl rfl h
        · refine ev_if_ne (tgt := 70) dL_isWay_37 rfl c181 ?_
          refine ev_iconst (v := 0) dL_isWay_70 (by decide) ?_
          exact ev_retI .boolean dL_isWay_71 rfl rfl h
      · refine ev_icmp_ne (tgt := 70) dL_isWay_29 rfl c176 ?_
        refine ev_iconst (v := 0) dL_isWay_70 (by decide) ?_
        exact ev_retI .boolean dL_isWay_71 rfl rfl h
    · refine ev_icmp_ne (tgt := 70) dL_isWay_19 rfl c171 ?_
      refine ev_iconst (v := 0) dL_isWay_70 (by decide) ?_
      exact ev_retI .boolean dL_isWay_71 rfl rfl h
