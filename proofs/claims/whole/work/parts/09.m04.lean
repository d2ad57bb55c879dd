def sb_X10_fewest_28 (k28 : Nat → Int32 → Int32 → Int32 → Int32 → St → Option (Int32 × St)) (a0 : Nat) (a1 : Int32) (a2 : Int32) (a3 : Int32) (a4 : Int32) (σ : St) : Option (Int32 × St) :=
 if a1 < a4 then (some (a2, σ)) else (if (a4 &&& (a1 ^^^ ((-1)))) = 0 then (bd (s_J6_bitCount_0f7a4 a4 σ) fun r7 σ5 =>
 if a3 ≤ r7 then (lt (a4 + 1 : Int32) fun v9 =>
 k28 a0 a1 a2 a3 v9 σ5) else (if isO σ5 10 a0 = true then (bd (s_X10_isProvable a0 a4 σ5) fun r14 σ12 =>
 if r14 = 0 then (lt (a4 + 1 : Int32) fun v16 =>
 k28 a0 a1 a2 a3 v16 σ12) else (bd (s_J6_bitCount_0f7a4 a4 σ12) fun r20 σ18 =>
 lt (a4 + 1 : Int32) fun v21 =>
 k28 a0 a1 a4 r20 v21 σ18)) else none)) else (lt (a4 + 1 : Int32) fun v3 =>
 k28 a0 a1 a2 a3 v3 σ))
def s_X10_fewest_28 (F : Nat) : Nat → Int32 → Int32 → Int32 → Int32 → St → Option (Int32 × St) := lp (fun _ _ _ _ _ _ => none) (sb_X10_fewest_28 ) F
set_option maxHeartbeats 4000000 in
set_option maxRecDepth 100000 in
theorem e_X10_fewest_28 {r : Int32} {σ' : St} (F : Nat) : ∀ {a0 : Nat} {a1 : Int32} {a2 : Int32} {a3 : Int32} {a4 : Int32} {σ : St}, s_X10_fewest_28 F a0 a1 a2 a3 a4 σ = some (r, σ') → Ev M_X10_fewest (392) 28 [(0, .ref a0), (1, .int (a1)), (2, .int (a2)), (3, .int (a3)), (4, .int (a4))] [] σ (some (.int r)) σ' := by
  induction F with
  | zero => intro a0 a1 a2 a3 a4 σ h; cases h
  | succ F ih =>
    intro a0 a1 a2 a3 a4 σ h
    change sb_X10_fewest_28  (s_X10_fewest_28 F) a0 a1 a2 a3 a4 σ = some (r, σ') at h
    unfold sb_X10_fewest_28 at h
    have hk28 := @ih
    refine ev_iload 4 dX10_fewest_28 rfl ?_
    refine ev_iload_n 1 dX10_fewest_30 rfl ?_
    rcases it_some h with ⟨c1, h⟩ | ⟨c1, h⟩
    · refine ev_icmp_gt (tgt := 76) dX10_fewest_31 rfl c1 ?_
      refine ev_iload_n 2 dX10_fewest_76 rfl ?_
      exact ev_retI .int dX10_fewest_77 rfl rfl h
    · refine ev_icmp_gt_n 76 dX10_fewest_31 rfl c1 ?_
      refine ev_iload 4 dX10_fewest_34 rfl ?_
      refine ev_iload_n 1 dX10_fewest_36 rfl ?_
      refine ev_iconst (v := (-1)) dX10_fewest_37 (by decide) ?_
      refine ev_ixor dX10_fewest_38 ?_
      refine ev_iand dX10_fewest_39 ?_
      rcases it_some h with ⟨c2, h⟩ | ⟨c2, h⟩
      · refine ev_if_ne_n 70 dX10_fewest_40 rfl c2 ?_
        refine ev_iload 4 dX10_fewest_43 rfl ?_
        obtain ⟨r7, σ5, e6, h⟩ := bd_some h
        refine ev_invSi (As := [.int (a4)]) (st := []) dX10_fewest_45 cb_J6_bitCount_0f7a4 tp_535 tp_536 (by omega) rfl rfl (Nat.le_of_ble_eq_true rfl) (x_J6_bitCount_0f7a4 e6) ?_
        refine ev_iload_n 3 dX10_fewest_48 rfl ?_
        rcases it_some h with ⟨c8, h⟩ | ⟨c8, h⟩
        · refine ev_icmp_ge (tgt := 70) dX10_fewest_49 rfl c8 ?_
          obtain ⟨v9, e10, h⟩ := lt_some h
          refine ev_iinc (v := v9) (ls' := [(4, .int (v9)), (0, .ref a0), (1, .int (a1)), (2, .int (a2)), (3, .int (a3))]) 4 dX10_fewest_70 rfl e10.symm (by decide) rfl ?_
          refine ev_goto (tgt := 28) dX10_fewest_73 rfl ?_
          refine ev_sub (ls' := [(0, .ref a0), (1, .int (a1)), (2, .int (a2)), (3, .int (a3)), (4, .int (v9))]) [1, 2, 3, 4, 0] rfl ?_
          exact hk28 h
        · refine ev_icmp_ge_n 70 dX10_fewest_49 rfl c8 ?_
          refine ev_aload_nR 0 dX10_fewest_52 rfl ?_
          refine ev_iload 4 dX10_fewest_53 rfl ?_
          obtain ⟨g11, h⟩ := gd_some h
          obtain ⟨r14, σ12, e13, h⟩ := bd_some h
          refine ev_invVi (As := [.int (a4)]) (st := []) dX10_fewest_55 cb_X10_isProvable tp_759 tp_761 tp_38 kf10 rfl (by omega) g11 rfl rfl (Nat.le_of_ble_eq_true rfl) (x_X10_isProvable e13) ?_
          rcases it_some h with ⟨c15, h⟩ | ⟨c15, h⟩
          · refine ev_if_eq (tgt := 70) dX10_fewest_58 rfl c15 ?_
            obtain ⟨v16, e17, h⟩ := lt_some h
            refine ev_iinc (v := v16) (ls' := [(4, .int (v16)), (0, .ref a0), (1, .int (a1)), (2, .int (a2)), (3, .int (a3))]) 4 dX10_fewest_70 rfl e17.symm (by decide) rfl ?_
            refine ev_goto (tgt := 28) dX10_fewest_73 rfl ?_
            refine ev_sub (ls' := [(0, .ref a0), (1, .int (a1)), (2, .int (a2)), (3, .int (a3)), (4, .int (v16))]) [1, 2, 3, 4, 0] rfl ?_
            exact hk28 h
          · refine ev_if_eq_n 70 dX10_fewest_58 rfl c15 ?_
            refine ev_iload 4 dX10_fewest_61 rfl ?_
            refine ev_istore_n (ls' := [(2, .int (a4)), (0, .ref a0), (1, .int (a1)), (3, .int (a3)), (4, .int (a4))]) dX10_fewest_63 (by decide) rfl ?_
            refine ev_iload 4 dX10_fewest_64 rfl ?_
            obtain ⟨r20, σ18, e19, h⟩ := bd_some h
            refine ev_invSi (As := [.int (a4)]) (st := []) dX10_fewest_66 cb_J6_bitCount_0f7a4 tp_535 tp_536 (by omega) rfl rfl (Nat.le_of_ble_eq_true rfl) (x_J6_bitCount_0f7a4 e19) ?_
            refine ev_istore_n (ls' := [(3, .int (r20)), (2, .int (a4)), (0, .ref a0), (1, .int (a1)), (4, .int (a4))]) dX10_fewest_69 (by decide) rfl ?_
            obtain ⟨v21, e22, h⟩ := lt_some h
            refine ev_iinc (v := v21) (ls' := [(4, .int (v21)), (3, .int (r20)), (2, .int (a4)), (0, .ref a0), (1, .int (a1))]) 4 dX10_fewest_70 rfl e22.symm (by decide) rfl ?_
            refine ev_goto (tgt := 28) dX10_fewest_73 rfl ?_
            refine ev_sub (ls' := [(0, .ref a0), (1, .int (a1)), (2, .int (a4)), (3, .int (r20)), (4, .int (v21))]) [3, 4, 2, 1, 0] rfl ?_
            exact hk28 h
      · refine ev_if_ne (tgt := 70) dX10_fewest_40 rfl c2 ?_
        obtain ⟨v3, e4, h⟩ := lt_some h
        refine ev_iinc (v := v3) (ls' := [(4, .int (v3)), (0, .ref a0), (1, .int (a1)), (2, .int (a2)), (3, .int (a3))]) 4 dX10_fewest_70 rfl e4.symm (by decide) rfl ?_
        refine ev_goto (tgt := 28) dX10_fewest_73 rfl ?_
        refine ev_sub (ls' := [(0, .ref a0), (1, .int (a1)), (2, .int (a2)), (3, .int (a3)), (4, .int (v3))]) [1, 2, 3, 4, 0] rfl ?_
        exact hk28 h
def s_X10_fewest (a0 : Nat) (σ : St) : Option (Int32 × St) :=
 if isO σ 10 a0 = true then (bd (s_X10_hasGoal a0 σ) fun r26 σ24 =>
 if r26 = 0 then (some ((-3), σ24)) else (if isO σ24 10 a0 = true then (bd (s_X10_prepare a0 σ24) fun r31 σ29 =>
 if isO σ29 10 a0 = true then (bd (s_X10_allResources a0 σ29) fun r35 σ33 =>
 s_X10_fewest_28 16000 a0 r35 ((-6)) 6 0 σ33) else none) else none)) else none
set_option maxHeartbeats 4000000 in
set_option maxRecDepth 100000 in
theorem x_X10_fewest {a0 : Nat} {σ : St} {r : Int32} {σ' : St} (h : s_X10_fewest a0 σ = some (r, σ')) : Ex M_X10_fewest (392) [.ref a0] σ (some (.int r)) σ' := by
  unfold s_X10_fewest at h
  refine ex_of (by decide) rfl (Nat.le_of_ble_eq_true rfl) ?_
  show Ev _ _ 0 [(0, .ref a0)] [] _ _ _
  refine ev_aload_nR 0 dX10_fewest_0 rfl ?_
  obtain ⟨g23, h⟩ := gd_some h
  obtain ⟨r26, σ24, e25, h⟩ := bd_some h
  refine ev_invVi (As := []) (st := []) dX10_fewest_1 cb_X10_hasGoal tp_545 tp_547 tp_14 kf10 rfl (by omega) g23 rfl rfl (Nat.le_of_ble_eq_true rfl) (x_X10_hasGoal e25) ?_
  rcases it_some h with ⟨c27, h⟩ | ⟨c27, h⟩
  · refine ev_if_ne_n 10 dX10_fewest_4 rfl c27 ?_
    refine ev_bipush (v := (-3)) dX10_fewest_7 (by decide) ?_
    exact ev_retI .int dX10_fewest_9 rfl rfl h
  · refine ev_if_ne (tgt := 10) dX10_fewest_4 rfl c27 ?_
    refine ev_aload_nR 0 dX10_fewest_10 rfl ?_
    obtain ⟨g28, h⟩ := gd_some h
    obtain ⟨r31, σ29, e30, h⟩ := bd_some h
    refine ev_invVv (As := []) (st := []) dX10_fewest_11 cb_X10_prepare tp_561 tp_563 tp_17 kf10 rfl (by omega) g28 rfl rfl (Nat.le_of_ble_eq_true rfl) (x_X10_prepare e30) ?_
    refine ev_aload_nR 0 dX10_fewest_14 rfl ?_
    obtain ⟨g32, h⟩ := gd_some h
    obtain ⟨r35, σ33, e34, h⟩ := bd_some h
    refine ev_invVi (As := []) (st := []) dX10_fewest_15 cb_X10_allResources tp_557 tp_559 tp_16 kf10 rfl (by omega) g32 rfl rfl (Nat.le_of_ble_eq_true rfl) (x_X10_allResources e34) ?_
    refine ev_istore_n (ls' := [(1, .int (r35)), (0, .ref a0)]) dX10_fewest_18 (by decide) rfl ?_
    refine ev_bipush (v := (-6)) dX10_fewest_19 (by decide) ?_
    refine ev_istore_n (ls' := [(2, .int ((-6))), (1, .int (r35)), (0, .ref a0)]) dX10_fewest_21 (by decide) rfl ?_
    refine ev_bipush (v := 6) dX10_fewest_22 (by decide) ?_
    refine ev_istore_n (ls' := [(3, .int (6)), (2, .int ((-6))), (1, .int (r35)), (0, .ref a0)]) dX10_fewest_24 (by decide) rfl ?_
    refine ev_iconst (v := 0) dX10_fewest_25 (by decide) ?_
    refine ev_istore (ls' := [(4, .int (0)), (3, .int (6)), (2, .int ((-6))), (1, .int (r35)), (0, .ref a0)]) dX10_fewest_26 (by decide) rfl ?_
    refine ev_sub (ls' := [(0, .ref a0), (1, .int (r35)), (2, .int (((-6)))), (3, .int (6)), (4, .int (0))]) [4, 3, 2, 1, 0] rfl ?_
    exact e_X10_fewest_28 16000 h
def sb_X10_needed_23 (k23 : Nat → Int32 → Int32 → Int32 → St → Option (Int32 × St)) (a0 : Nat) (a1 : Int32) (a2 : Int32) (a3 : Int32) (σ : St) : Option (Int32 × St) :=
 if (5 : Int32) ≤ a3 then (some (a2, σ)) else (lt (1 <<< (a3 &&& 31) : Int32) fun v2 =>
 if (a1 &&& v2) = 0 then (lt (a3 + 1 : Int32) fun v5 =>
 k23 a0 a1 a2 v5 σ) else (if isO σ 10 a0 = true then (bd (s_X10_isProvable a0 (a1 ^^^ v2) σ) fun r10 σ8 =>
 if r10 = 0 then (lt (a2 ||| v2 : Int32) fun v14 =>
 lt (a3 + 1 : Int32) fun v16 =>
 k23 a0 a1 v14 v16 σ8) else (lt (a3 + 1 : Int32) fun v12 =>
 k23 a0 a1 a2 v12 σ8)) else none))
def s_X10_needed_23 (F : Nat) : Nat → Int32 → Int32 → Int32 → St → Option (Int32 × St) := lp (fun _ _ _ _ _ => none) (sb_X10_needed_23 ) F
set_option maxHeartbeats 4000000 in
set_option maxRecDepth 100000 in
theorem e_X10_needed_23 {r : Int32} {σ' : St} (F : Nat) : ∀ {a0 : Nat} {a1 : Int32} {a2 : Int32} {a3 : Int32} {σ : St}, s_X10_needed_23 F a0 a1 a2 a3 σ = some (r, σ') → Ev M_X10_needed (392) 23 [(0, .ref a0), (1, .int (a1)), (2, .int (a2)), (3, .int (a3))] [] σ (some (.int r)) σ' := by
  induction F with
  | zero => intro a0 a1 a2 a3 σ h; cases h
  | succ F ih =>
    intro a0 a1 a2 a3 σ h
    change sb_X10_needed_23  (s_X10_needed_23 F) a0 a1 a2 a3 σ = some (r, σ') at h
    unfold sb_X10_needed_23 at h
    have hk23 := @ih
    refine ev_iload_n 3 dX10_needed_23 rfl ?_
    refine ev_iconst (v := 5) dX10_needed_24 (by decide) ?_
    rcases it_some h with ⟨c1, h⟩ | ⟨c1, h⟩
    · refine ev_icmp_ge (tgt := 62) dX10_needed_25 rfl c1 ?_
      refine ev_iload_n 2 dX10_needed_62 rfl ?_
      exact ev_retI .int dX10_needed_63 rfl rfl h
    · refine ev_icmp_ge_n 62 dX10_needed_25 rfl c1 ?_
      refine ev_iconst (v := 1) dX10_needed_28 (by decide) ?_
      refine ev_iload_n 3 dX10_needed_29 rfl ?_
      refine ev_ishl dX10_needed_30 ?_
      obtain ⟨v2, e3, h⟩ := lt_some h
      refine ev_topI e3 ?_
      refine ev_istore (ls' := [(4, .int (v2)), (0, .ref a0), (1, .int (a1)), (2, .int (a2)), (3, .int (a3))]) dX10_needed_31 (by decide) rfl ?_
      refine ev_iload_n 2 dX10_needed_33 rfl ?_
      refine ev_iload 0 dX10_needed_34 rfl ?_
      refine ev_iand dX10_needed_36 ?_
      rcases it_some h with ⟨c4, h⟩ | ⟨c4, h⟩
      · refine ev_if_eq (tgt := 56) dX10_needed_37 rfl c4 ?_
        obtain ⟨v5, e6, h⟩ := lt_some h
        refine ev_iinc (v := v5) (ls' := [(3, .int (v5)), (4, .int (v2)), (0, .ref a0), (1, .int (a1)), (2, .int (a2))]) 4 dX10_needed_56 rfl e6.symm (by decide) rfl ?_
        refine ev_goto (tgt := 23) dX10_needed_59 rfl ?_
        refine ev_sub (ls' := [(0, .ref a0), (1, .int (a1)), (2, .int (a2)), (3, .int (v5))]) [2, 3, 4, 0] rfl ?_
        exact hk23 h
      · refine ev_if_eq_n 56 dX10_needed_37 rfl c4 ?_
        refine ev_aload_nR 1 dX10_needed_40 rfl ?_
        refine ev_iload_n 2 dX10_needed_41 rfl ?_
        refine ev_iload 0 dX10_needed_42 rfl ?_
        refine ev_ixor dX10_needed_44 ?_
        obtain ⟨g7, h⟩ := gd_some h
        obtain ⟨r10, σ8, e9, h⟩ := bd_some h
        refine ev_invVi (As := [.int (a1 ^^^ v2)]) (st := []) dX10_needed_45 cb_X10_isProvable tp_759 tp_761 tp_38 kf10 rfl (by omega) g7 rfl rfl (Nat.le_of_ble_eq_true rfl) (x_X10_isProvable e9) ?_
        rcases it_some h with ⟨c11, h⟩ | ⟨c11, h⟩
        · refine ev_if_ne_n 56 dX10_needed_48 rfl c11 ?_
          refine ev_iload_n 3 dX10_needed_51 rfl ?_
          refine ev_iload 0 dX10_needed_52 rfl ?_
          refine ev_ior dX10_needed_54 ?_
          obtain ⟨v14, e15, h⟩ := lt_some h
          refine ev_topI e15 ?_
          refine ev_istore_n (ls' := [(2, .int (v14)), (4, .int (v2)), (0, .ref a0), (1, .int (a1)), (3, .int (a3))]) dX10_needed_55 (by decide) rfl ?_
          obtain ⟨v16, e17, h⟩ := lt_some h
          refine ev_iinc (v := v16) (ls' := [(3, .int (v16)), (2, .int (v14)), (4, .int (v2)), (0, .ref a0), (1, .int (a1))]) 4 dX10_needed_56 rfl e17.symm (by decide) rfl ?_
          refine ev_goto (tgt := 23) dX10_needed_59 rfl ?_
          refine ev_sub (ls' := [(0, .ref a0), (1, .int (a1)), (2, .int (v14)), (3, .int (v16))]) [3, 4, 1, 0] rfl ?_
          exact hk23 h
        · refine ev_if_ne (tgt := 56) dX10_needed_48 rfl c11 ?_
          obtain ⟨v12, e13, h⟩ := lt_some h
          refine ev_iinc (v := v12) (ls' := [(3, .int (v12)), (4, .int (v2)), (0, .ref a0), (1, .int (a1)), (2, .int (a2))]) 4 dX10_needed_56 rfl e13.symm (by decide) rfl ?_
          refine ev_goto (tgt := 23) dX10_needed_59 rfl ?_
          refine ev_sub (ls' := [(0, .ref a0), (1, .int (a1)), (2, .int (a2)), (3, .int (v12))]) [2, 3, 4, 0] rfl ?_
          exact hk23 h
def s_X10_needed (a0 : Nat) (σ : St) : Option (Int32 × St) :=
 if isO σ 10 a0 = true then (bd (s_X10_hasGoal a0 σ) fun r21 σ19 =>
 if r21 = 0 then (some ((-3), σ19)) else (if isO σ19 10 a0 = true then (bd (s_X10_prepare a0 σ19) fun r26 σ24 =>
 if isO σ24 10 a0 = true then (bd (s_X10_allResources a0 σ24) fun r30 σ28 =>
 s_X10_needed_23 16000 a0 r30 0 0 σ28) else none) else none)) else none
set_option maxHeartbeats 4000000 in
set_option maxRecDepth 100000 in
theorem x_X10_needed {a0 : Nat} {σ : St} {r : Int32} {σ' : St} (h : s_X10_needed a0 σ = some (r, σ')) : Ex M_X10_needed (392) [.ref a0] σ (some (.int r)) σ' := by
  unfold s_X10_needed at h
  refine ex_of (by decide) rfl (Nat.le_of_ble_eq_true rfl) ?_
  show Ev _ _ 0 [(0, .ref a0)] [] _ _ _
  refine ev_aload_nR 0 dX10_needed_0 rfl ?_
  obtain ⟨g18, h⟩ := gd_some h
  obtain ⟨r21, σ19, e20, h⟩ := bd_some h
  refine ev_invVi (As := []) (st := []) dX10_needed_1 cb_X10_hasGoal tp_545 tp_547 tp_14 kf10 rfl (by omega) g18 rfl rfl (Nat.le_of_ble_eq_true rfl) (x_X10_hasGoal e20) ?_
  rcases it_some h with ⟨c22, h⟩ | ⟨c22, h⟩
  · refine ev_if_ne_n 10 dX10_needed_4 rfl c22 ?_
    refine ev_bipush (v := (-3)) dX10_needed_7 (by decide) ?_
    exact ev_retI .int dX10_needed_9 rfl rfl h
  · refine ev_if_ne (tgt := 10) dX10_needed_4 rfl c22 ?_
    refine ev_aload_nR 0 dX10_needed_10 rfl ?_
    obtain ⟨g23, h⟩ := gd_some h
    obtain ⟨r26, σ24, e25, h⟩ := bd_some h
    refine ev_invVv (As := []) (st := []) dX10_needed_11 cb_X10_prepare tp_561 tp_563 tp_17 kf10 rfl (by omega) g23 rfl rfl (Nat.le_of_ble_eq_true rfl) (x_X10_prepare e25) ?_
    refine ev_aload_nR 0 dX10_needed_14 rfl ?_
    obtain ⟨g27, h⟩ := gd_some h
    obtain ⟨r30, σ28, e29, h⟩ := bd_some h
    refine ev_invVi (As := []) (st := []) dX10_needed_15 cb_X10_allResources tp_557 tp_559 tp_16 kf10 rfl (by omega) g27 rfl rfl (Nat.le_of_ble_eq_true rfl) (x_X10_allResources e29) ?_
    refine ev_istore_n (ls' := [(1, .int (r30)), (0, .ref a0)]) dX10_needed_18 (by decide) rfl ?_
    refine ev_iconst (v := 0) dX10_needed_19 (by decide) ?_
    refine ev_istore_n (ls' := [(2, .int (0)), (1, .int (r30)), (0, .ref a0)]) dX10_needed_20 (by decide) rfl ?_
    refine ev_iconst (v := 0) dX10_needed_21 (by decide) ?_
    refine ev_istore_n (ls' := [(3, .int (0)), (2, .int (0)), (1, .int (r30)), (0, .ref a0)]) dX10_needed_22 (by decide) rfl ?_
    refine ev_sub (ls' := [(0, .ref a0), (1, .int (r30)), (2, .int (0)), (3, .int (0))]) [3, 2, 1, 0] rfl ?_
    exact e_X10_needed_23 16000 h
def s_X10_term (a0 : Nat) (a1 : Int32) (σ : St) : Option (Int32 × St) :=
 if ((-1)) ≤ a1 then (if isO σ 10 a0 = true then (bd (s_X10_hasGoal a0 σ) fun r5 σ3 =>
 if r5 = 0 then (some ((-3), σ3)) else (if isO σ3 10 a0 = true then (bd (s_X10_prepare a0 σ3) fun r10 σ8 =>
 if isO σ8 10 a0 = true then (op (sP σ8 a0 7) fun p12 =>
 bd (s_X10_allResources a0 σ8) fun r16 σ14 =>
 if isO σ14 0 p12 = true then (bd (s_X0_find p12 r16 σ14) fun r20 σ18 =>
 if isO σ18 10 a0 = true then (op (sP σ18 a0 7) fun p22 =>
 if isO σ18 0 p22 = true then (bd (s_X0_exists p22 σ18) fun r27 σ25 =>
 if r27 = 0 then (some ((-6), σ25)) else (if a1 = ((-1)) then (if isO σ25 10 a0 = true then (op (sP σ25 a0 7) fun p46 =>
 if isO σ25 0 p46 = true then (bd (s_X0_length p46 σ25) fun r51 σ49 =>
 some (r51, σ49)) else none) else none) else (if isO σ25 10 a0 = true then (op (sP σ25 a0 7) fun p31 =>
 if isO σ25 0 p31 = true then (bd (s_X0_length p31 σ25) fun r36 σ34 =>
 if r36 ≤ a1 then (some ((-6), σ34)) else (if isO σ34 10 a0 = true then (op (sP σ34 a0 7) fun p39 =>
 if isO σ34 0 p39 = true then (bd (s_X0_at p39 a1 σ34) fun r44 σ42 =>
 some (r44, σ42)) else none) else none)) else none) else none))) else none) else none) else none) else none) else none)) else none) else (some ((-2), σ))
set_option maxHeartbeats 4000000 in
set_option maxRecDepth 100000 in
theorem x_X10_term {a0 : Nat} {a1 : Int32} {σ : St} {r : Int32} {σ' : St} (h : s_X10_term a0 a1 σ = some (r, σ')) : Ex M_X10_term (392) [.ref a0, .int (a1)] σ (some (.int r)) σ' := by
  unfold s_X10_term at h
  refine ex_of (by decide) rfl (Nat.le_of_ble_eq_true rfl) ?_
  show Ev _ _ 0 [(0, .ref a0), (1, .int (a1))] [] _ _ _
  refine ev_iload_n 1 dX10_term_0 rfl ?_
  refine ev_iconst (v := (-1)) dX10_term_1 (by decide) ?_
  rcases it_some h with ⟨c1, h⟩ | ⟨c1, h⟩
  · refine ev_icmp_ge (tgt := 8) dX10_term_2 rfl c1 ?_
    refine ev_aload_nR 0 dX10_term_8 rfl ?_
    obtain ⟨g2, h⟩ := gd_some h
    obtain ⟨r5, σ3, e4, h⟩ := bd_some h
    refine ev_invVi (As := []) (st := []) dX10_term_9 cb_X10_hasGoal tp_545 tp_547 tp_14 kf10 rfl (by omega) g2 rfl rfl (Nat.le_of_ble_eq_true rfl) (x_X10_hasGoal e4) ?_
    rcases it_some h with ⟨c6, h⟩ | ⟨c6, h⟩
    · refine ev_if_ne_n 18 dX10_term_12 rfl c6 ?_
      refine ev_bipush (v := (-3)) dX10_term_15 (by decide) ?_
      exact ev_retI .int dX10_term_17 rfl rfl h
    · refine ev_if_ne (tgt := 18) dX10_term_12 rfl c6 ?_
      refine ev_aload_nR 0 dX10_term_18 rfl ?_
      obtain ⟨g7, h⟩ := gd_some h
      obtain ⟨r10, σ8, e9, h⟩ := bd_some h
      refine ev_invVv (As := []) (st := []) dX10_term_19 cb_X10_prepare tp_561 tp_563 tp_17 kf10 rfl (by omega) g7 rfl rfl (Nat.le_of_ble_eq_true rfl) (x_X10_prepare e9) ?_
      refine ev_aload_nR 0 dX10_term_22 rfl ?_
      obtain ⟨g11, h⟩ := gd_some h
      obtain ⟨p12, e13, h⟩ := op_some h
      refine ev_getPR dX10_term_23 fl_X10_58 rfl g11 e13 ?_
      refine ev_aload_nR 0 dX10_term_26 rfl ?_
      obtain ⟨r16, σ14, e15, h⟩ := bd_some h
      refine ev_invVi (As := []) (st := [.ref p12]) dX10_term_27 cb_X10_allResources tp_557 tp_559 tp_16 kf10 rfl (by omega) g11 rfl rfl (Nat.le_of_ble_eq_true rfl) (x_X10_allResources e15) ?_
      obtain ⟨g17, h⟩ := gd_some h
      obtain ⟨r20, σ18, e19, h⟩ := bd_some h
      refine ev_invVv (As := [.int (r16)]) (st := []) dX10_term_30 cb_X0_find tp_771 tp_772 tp_773 kf0 rfl (by omega) g17 rfl rfl (Nat.le_of_ble_eq_true rfl) (x_X0_find e19) ?_
      refine ev_aload_nR 0 dX10_term_33 rfl ?_
      obtain ⟨g21, h⟩ := gd_some h
      obtain ⟨p22, e23, h⟩ := op_some h
      refine ev_getPR dX10_term_34 fl_X10_58 rfl g21 e23 ?_
      obtain ⟨g24, h⟩ := gd_some h
      obtain ⟨r27, σ25, e26, h⟩ := bd_some h
      refine ev_invVi (As := []) (st := []) dX10_term_37 cb_X0_exists tp_814 tp_815 tp_816 kf0 rfl (by omega) g24 rfl rfl (Nat.le_of_ble_eq_true rfl) (x_X0_exists e26) ?_
      rcases it_some h with ⟨c28, h⟩ | ⟨c28, h⟩
      · refine ev_if_ne_n 46 dX10_term_40 rfl c28 ?_
        refine ev_bipush (v := (-6)) dX10_term_43 (by decide) ?_
        exact ev_retI .int dX10_term_45 rfl rfl h
      · refine ev_if_ne (tgt := 46) dX10_term_40 rfl c28 ?_
        refine ev_iload_n 1 dX10_term_46 rfl ?_
        refine ev_iconst (v := (-1)) dX10_term_47 (by decide) ?_
        rcases it_some h with ⟨c29, h⟩ | ⟨c29, h⟩
        · refine ev_icmp_ne_n 59 dX10_term_48 rfl c29 ?_
          refine ev_aload_nR 0 dX10_term_51 rfl ?_
          obtain ⟨g45, h⟩ := gd_some h
          obtain ⟨p46, e47, h⟩ := op_some h
          refine ev_getPR dX10_term_52 fl_X10_58 rfl g45 e47 ?_
          obtain ⟨g48, h⟩ := gd_some h
          obtain ⟨r51, σ49, e50, h⟩ := bd_some h
          refine ev_invVi (As := []) (st := []) dX10_term_55 cb_X0_length tp_818 tp_819 tp_820 kf0 rfl (by omega) g48 rfl rfl (Nat.le_of_ble_eq_true rfl) (x_X0_length e50) ?_
          exact ev_retI .int dX10_term_58 rfl rfl h
        · refine ev_icmp_ne (tgt := 59) dX10_term_48 rfl c29 ?_
          refine ev_iload_n 1 dX10_term_59 rfl ?_
          refine ev_aload_nR 0 dX10_term_60 rfl ?_
          obtain ⟨g30, h⟩ := gd_some h
          obtain ⟨p31, e32, h⟩ := op_some h
          refine ev_getPR dX10_term_61 fl_X10_58 rfl g30 e32 ?_
          obtain ⟨g33, h⟩ := gd_some h
          obtain ⟨r36, σ34, e35, h⟩ := bd_some h
          refine ev_invVi (As := []) (st := [.int (a1)]) dX10_term_64 cb_X0_length tp_818 tp_819 tp_820 kf0 rfl (by omega) g33 rfl rfl (Nat.le_of_ble_eq_true rfl) (x_X0_length e35) ?_
          rcases it_some h with ⟨c37, h⟩ | ⟨c37, h⟩
          · refine ev_icmp_ge (tgt := 81) dX10_term_67 rfl c37 ?_
            refine ev_bipush (v := (-6)) dX10_term_81 (by decide) ?_
            exact ev_retI .int dX10_term_83 rfl rfl h
          · refine ev_icmp_ge_n 81 dX10_term_67 rfl c37 ?_
            refine ev_aload_nR 0 dX10_term_70 rfl ?_
            obtain ⟨g38, h⟩ := gd_some h
            obtain ⟨p39, e40, h⟩ := op_some h
            refine ev_getPR dX10_term_71 fl_X10_58 rfl g38 e40 ?_
            refine ev_iload_n 1 dX10_term_74 rfl ?_
            obtain ⟨g41, h⟩ := gd_some h
            obtain ⟨r44, σ42, e43, h⟩ := bd_some h
            refine ev_invVi (As := [.int (a1)]) (st := []) dX10_term_75 cb_X0_at tp_822 tp_823 tp_824 kf0 rfl (by omega) g41 rfl rfl (Nat.le_of_ble_eq_true rfl) (x_X0_at e43) ?_
            refine ev_goto (tgt := 83) dX10_term_78 rfl ?_
            exact ev_retI .int dX10_term_83 rfl rfl h
  · refine ev_icmp_ge_n 8 dX10_term_2 rfl c1 ?_
    refine ev_bipush (v := (-2)) dX10_term_5 (by decide) ?_
    exact ev_retI .int dX10_term_7 rfl rfl h
def s_X10_uses_27 (a0 : Nat) (a1 : Int32) (a2 : Int32) (t0 : Int32) (t1 : Int32) (σ : St) : Option (Int32 × St) :=
 if t0 < t1 then (if isO σ 10 a0 = true then (bd (s_X10_hasGoal a0 σ) fun r5 σ3 =>
 if r5 = 0 then (some ((-3), σ3)) else (if isO σ3 10 a0 = true then (bd (s_X10_prepare a0 σ3) fun r10 σ8 =>
 if isO σ8 10 a0 = true then (op (sP σ8 a0 7) fun p12 =>
 bd (s_X10_allResources a0 σ8) fun r16 σ14 =>
 if isO σ14 0 p12 = true then (bd (s_X0_find p12 r16 σ14) fun r20 σ18 =>
 if isO σ18 10 a0 = true then (op (sP σ18 a0 7) fun p22 =>
 if a1 = 0 then (if isO σ18 0 p22 = true then (bd (s_X0_usesOf p22 a2 σ18) fun r32 σ30 =>
 some (r32, σ30)) else none) else (if isO σ18 0 p22 = true then (bd (s_X0_usesOf p22 (8 + a2) σ18) fun r28 σ26 =>
 some (r28, σ26)) else none)) else none) else none) else none) else none)) else none) else (some ((-1), σ))
set_option maxHeartbeats 4000000 in
set_option maxRecDepth 100000 in
theorem e_X10_uses_27 {r : Int32} {σ' : St} : ∀ {a0 : Nat} {a1 : Int32} {a2 : Int32} {t0 : Int32} {t1 : Int32} {σ : St}, s_X10_uses_27 a0 a1 a2 t0 t1 σ = some (r, σ') → Ev M_X10_uses (392) 27 [(0, .ref a0), (1, .int (a1)), (2, .int (a2))] [.int (t1), .int (t0)] σ (some (.int r)) σ' := by
  intro a0 a1 a2 t0 t1 σ h
  unfold s_X10_uses_27 at h
  rcases it_some h with ⟨c1, h⟩ | ⟨c1, h⟩
  · refine ev_icmp_lt (tgt := 32) dX10_uses_27 rfl c1 ?_
    refine ev_aload_nR 0 dX10_uses_32 rfl ?_
    obtain ⟨g2, h⟩ := gd_some h
    obtain ⟨r5, σ3, e4, h⟩ := bd_some h
    refine ev_invVi (As := []) (st := []) dX10_uses_33 cb_X10_hasGoal tp_545 tp_547 tp_14 kf10 rfl (by omega) g2 rfl rfl (Nat.le_of_ble_eq_true rfl) (x_X10_hasGoal e4) ?_
    rcases it_some h with ⟨c6, h⟩ | ⟨c6, h⟩
    · refine ev_if_ne_n 42 dX10_uses_36 rfl c6 ?_
      refine ev_bipush (v := (-3)) dX10_uses_39 (by decide) ?_
      exact ev_retI .int dX10_uses_41 rfl rfl h
    · refine ev_if_ne (tgt := 42) dX10_uses_36 rfl c6 ?_
      refine ev_aload_nR 0 dX10_uses_42 rfl ?_
      obtain ⟨g7, h⟩ := gd_some h
      obtain ⟨r10, σ8, e9, h⟩ := bd_some h
      refine ev_invVv (As := []) (st := []) dX10_uses_43 cb_X10_prepare tp_561 tp_563 tp_17 kf10 rfl (by omega) g7 rfl rfl (Nat.le_of_ble_eq_true rfl) (x_X10_prepare e9) ?_
      refine ev_aload_nR 0 dX10_uses_46 rfl ?_
      obtain ⟨g11, h⟩ := gd_some h
      obtain ⟨p12, e13, h⟩ := op_some h
      refine ev_getPR dX10_uses_47 fl_X10_58 rfl g11 e13 ?_
      refine ev_aload_nR 0 dX10_uses_50 rfl ?_
      obtain ⟨r16, σ14, e15, h⟩ := bd_some h
      refine ev_invVi (As := []) (st := [.ref p12]) dX10_uses_51 cb_X10_allResources tp_557 tp_559 tp_16 kf10 rfl (by omega) g11 rfl rfl (Nat.le_of_ble_eq_true rfl) (x_X10_allResources e15) ?_
      obtain ⟨g17, h⟩ := gd_some h
      obtain ⟨r20, σ18, e19, h⟩ := bd_some h
      refine ev_invVv (As := [.int (r16)]) (st := []) dX10_uses_54 cb_X0_find tp_771 tp_772 tp_773 kf0 rfl (by omega) g17 rfl rfl (Nat.le_of_ble_eq_true rfl) (x_X0_find e19) ?_
      refine ev_aload_nR 0 dX10_uses_57 rfl ?_
      obtain ⟨g21, h⟩ := gd_some h
      obtain ⟨p22, e23, h⟩ := op_some h
      refine ev_getPR dX10_uses_58 fl_X10_58 rfl g21 e23 ?_
      refine ev_iload_n 1 dX10_uses_61 rfl ?_
      rcases it_some h with ⟨c24, h⟩ | ⟨c24, h⟩
      · refine ev_if_ne_n 69 dX10_uses_62 rfl c24 ?_
        refine ev_iload_n 2 dX10_uses_65 rfl ?_
        refine ev_goto (tgt := 73) dX10_uses_66 rfl ?_
        obtain ⟨g29, h⟩ := gd_some h
        obtain ⟨r32, σ30, e31, h⟩ := bd_some h
        refine ev_invVi (As := [.int (a2)]) (st := []) dX10_uses_73 cb_X0_usesOf tp_830 tp_831 tp_832 kf0 rfl (by omega) g29 rfl rfl (Nat.le_of_ble_eq_true rfl) (x_X0_usesOf e31) ?_
        exact ev_retI .int dX10_uses_76 rfl rfl h
      · refine ev_if_ne (tgt := 69) dX10_uses_62 rfl c24 ?_
        refine ev_bipush (v := 8) dX10_uses_69 (by decide) ?_
        refine ev_iload_n 2 dX10_uses_71 rfl ?_
        refine ev_iadd dX10_uses_72 ?_
        obtain ⟨g25, h⟩ := gd_some h
        obtain ⟨r28, σ26, e27, h⟩ := bd_some h
        refine ev_invVi (As := [.int (8 + a2)]) (st := []) dX10_uses_73 cb_X0_usesOf tp_830 tp_831 tp_832 kf0 rfl (by omega) g25 rfl rfl (Nat.le_of_ble_eq_true rfl) (x_X0_usesOf e27) ?_
        exact ev_retI .int dX10_uses_76 rfl rfl h
  · refine ev_icmp_lt_n 32 dX10_uses_27 rfl c1 ?_
    refine ev_iconst (v := (-1)) dX10_uses_30 (by decide) ?_
    exact ev_retI .int dX10_uses_31 rfl rfl h
def s_X10_uses_12 (a0 : Nat) (a1 : Int32) (a2 : Int32) (σ : St) : Option (Int32 × St) :=
 if a2 < 0 then (some ((-1), σ)) else (if a1 = 0 then (s_X10_uses_27 a0 a1 a2 a2 8 σ) else (s_X10_uses_27 a0 a1 a2 a2 4 σ))
set_option maxHeartbeats 4000000 in
set_option maxRecDepth 100000 in
theorem e_X10_uses_12 {r : Int32} {σ' : St} : ∀ {a0 : Nat} {a1 : Int32} {a2 : Int32} {σ : St}, s_X10_uses_12 a0 a1 a2 σ = some (r, σ') → Ev M_X10_uses (392) 12 [(0, .ref a0), (1, .int (a1)), (2, .int (a2))] [] σ (some (.int r)) σ' := by
  intro a0 a1 a2 σ h
  unfold s_X10_uses_12 at h
  refine ev_iload_n 2 dX10_uses_12 rfl ?_
  rcases it_some h with ⟨c33, h⟩ | ⟨c33, h⟩
  · refine ev_if_lt (tgt := 30) dX10_uses_13 rfl c33 ?_
    refine ev_iconst (v := (-1)) dX10_uses_30 (by decide) ?_
    exact ev_retI .int dX10_uses_31 rfl rfl h
  · refine ev_if_lt_n 30 dX10_uses_13 rfl c33 ?_
    refine ev_iload_n 2 dX10_uses_16 rfl ?_
    refine ev_iload_n 1 dX10_uses_17 rfl ?_
    rcases it_some h with ⟨c34, h⟩ | ⟨c34, h⟩
    · refine ev_if_ne_n 26 dX10_uses_18 rfl c34 ?_
      refine ev_bipush (v := 8) dX10_uses_21 (by decide) ?_
      refine ev_goto (tgt := 27) dX10_uses_23 rfl ?_
      refine ev_sub (ls' := [(0, .ref a0), (1, .int (a1)), (2, .int (a2))]) [0, 1, 2] rfl ?_
      exact e_X10_uses_27  h
    · refine ev_if_ne (tgt := 26) dX10_uses_18 rfl c34 ?_
      refine ev_iconst (v := 4) dX10_uses_26 (by decide) ?_
      refine ev_sub (ls' := [(0, .ref a0), (1, .int (a1)), (2, .int (a2))]) [0, 1, 2] rfl ?_
      exact e_X10_uses_27  h
def s_X10_uses (a0 : Nat) (a1 : Int32) (a2 : Int32) (σ : St) : Option (Int32 × St) :=
 if a1 = 0 then (s_X10_uses_12 a0 a1 a2 σ) else (if a1 = 1 then (s_X10_uses_12 a0 a1 a2 σ) else (some ((-2), σ)))
set_option maxHeartbeats 4000000 in
set_option maxRecDepth 100000 in
theorem x_X10_uses {a0 : Nat} {a1 : Int32} {a2 : Int32} {σ : St} {r : Int32} {σ' : St} (h : s_X10_uses a0 a1 a2 σ = some (r, σ')) : Ex M_X10_uses (392) [.ref a0, .int (a1), .int (a2)] σ (some (.int r)) σ' := by
  unfold s_X10_uses at h
  refine ex_of (by decide) rfl (Nat.le_of_ble_eq_true rfl) ?_
  show Ev _ _ 0 [(0, .ref a0), (1, .int (a1)), (2, .int (a2))] [] _ _ _
  refine ev_iload_n 1 dX10_uses_0 rfl ?_
  rcases it_some h with ⟨c35, h⟩ | ⟨c35, h⟩
  · refine ev_if_eq (tgt := 12) dX10_uses_1 rfl c35 ?_
    refine ev_sub (ls' := [(0, .ref a0), (1, .int (a1)), (2, .int (a2))]) [0, 1, 2] rfl ?_
    exact e_X10_uses_12  h
  · refine ev_if_eq_n 12 dX10_uses_1 rfl c35 ?_
    refine ev_iload_n 1 dX10_uses_4 rfl ?_
    refine ev_iconst (v := 1) dX10_uses_5 (by decide) ?_
    rcases it_some h with ⟨c36, h⟩ | ⟨c36, h⟩
    · refine ev_icmp_eq (tgt := 12) dX10_uses_6 rfl c36 ?_
      refine ev_sub (ls' := [(0, .ref a0), (1, .int (a1)), (2, .int (a2))]) [0, 1, 2] rfl ?_
      exact e_X10_uses_12  h
    · refine ev_icmp_eq_n 12 dX10_uses_6 rfl c36 ?_
      refine ev_bipush (v := (-2)) dX10_uses_9 (by decide) ?_
      exact ev_retI .int dX10_uses_11 rfl rfl h
def s_X10_put (a0 : Nat) (a1 : Int32) (σ : St) : Option (Int32 × St) :=
 if a1 < 0 then (some ((-2), σ)) else (if a1 ≤ 499 then (if isO σ 10 a0 = true then (op (sP σ a0 8) fun p4 =>
 if isO σ 8 p4 = true then (bd (s_X8_append p4 a1 σ) fun r9 σ7 =>
 if r9 = 0 then (some ((-4), σ7)) else (if isO σ7 10 a0 = true then (op (sP σ7 a0 8) fun p12 =>
 if isO σ7 8 p12 = true then (bd (s_X8_length p12 σ7) fun r17 σ15 =>
 some (r17, σ15)) else none) else none)) else none) else none) else (some ((-2), σ)))
set_option maxHeartbeats 4000000 in
set_option maxRecDepth 100000 in
theorem x_X10_put {a0 : Nat} {a1 : Int32} {σ : St} {r : Int32} {σ' : St} (h : s_X10_put a0 a1 σ = some (r, σ')) : Ex M_X10_put (2) [.ref a0, .int (a1)] σ (some (.int r)) σ' := by
  unfold s_X10_put at h
  refine ex_of (by decide) rfl (Nat.le_of_ble_eq_true rfl) ?_
  show Ev _ _ 0 [(0, .ref a0), (1, .int (a1))] [] _ _ _
  refine ev_iload_n 1 dX10_put_0 rfl ?_
  rcases it_some h with ⟨c1, h⟩ | ⟨c1, h⟩
  · refine ev_if_lt (tgt := 11) dX10_put_1 rfl c1 ?_
    refine ev_bipush (v := (-2)) dX10_put_11 (by decide) ?_
    exact ev_retI .int dX10_put_13 rfl rfl h
  · refine ev_if_lt_n 11 dX10_put_1 rfl c1 ?_
    refine ev_iload_n 1 dX10_put_4 rfl ?_
    refine ev_sipush (v := 499) dX10_put_5 (by decide) ?_
    rcases it_some h with ⟨c2, h⟩ | ⟨c2, h⟩
    · refine ev_icmp_le (tgt := 14) dX10_put_8 rfl c2 ?_
      refine ev_aload_nR 0 dX10_put_14 rfl ?_
      obtain ⟨g3, h⟩ := gd_some h
      obtain ⟨p4, e5, h⟩ := op_some h
      refine ev_getPR dX10_put_15 fl_X10_65 rfl g3 e5 ?_
      refine ev_iload_n 1 dX10_put_18 rfl ?_
      obtain ⟨g6, h⟩ := gd_some h
      obtain ⟨r9, σ7, e8, h⟩ := bd_some h
      refine ev_invVi (As := [.int (a1)]) (st := []) dX10_put_19 cb_X8_append tp_839 tp_840 tp_841 kf8 rfl (by omega) g6 rfl rfl (Nat.le_of_ble_eq_true rfl) (x_X8_append e8) ?_
      rcases it_some h with ⟨c10, h⟩ | ⟨c10, h⟩
      · refine ev_if_eq (tgt := 35) dX10_put_22 rfl c10 ?_
        refine ev_bipush (v := (-4)) dX10_put_35 (by decide) ?_
        exact ev_retI .int dX10_put_37 rfl rfl h
      · refine ev_if_eq_n 35 dX10_put_22 rfl c10 ?_
        refine ev_aload_nR 0 dX10_put_25 rfl ?_
        obtain ⟨g11, h⟩ := gd_some h
        obtain ⟨p12, e13, h⟩ := op_some h
        refine ev_getPR dX10_put_26 fl_X10_65 rfl g11 e13 ?_
        obtain ⟨g14, h⟩ := gd_some h
        obtain ⟨r17, σ15, e16, h⟩ := bd_some h
        refine ev_invVi (As := []) (st := []) dX10_put_29 cb_X8_length tp_843 tp_844 tp_845 kf8 rfl (by omega) g14 rfl rfl (Nat.le_of_ble_eq_true rfl) (x_X8_length e16) ?_
        refine ev_goto (tgt := 37) dX10_put_32 rfl ?_
        exact ev_retI .int dX10_put_37 rfl rfl h
    · refine ev_icmp_le_n 14 dX10_put_8 rfl c2 ?_
      refine ev_bipush (v := (-2)) dX10_put_11 (by decide) ?_
      exact ev_retI .int dX10_put_13 rfl rfl h
def sb_X10_trial_56 (k56 : Nat → Int32 → St → Option (Int32 × St)) (a0 : Nat) (a2 : Int32) (σ : St) : Option (Int32 × St) :=
 if isO σ 10 a0 = true then (op (sP σ a0 7) fun p2 =>
 if isO σ 0 p2 = true then (bd (s_X0_length p2 σ) fun r7 σ5 =>
 if r7 ≤ a2 then (if isO σ5 10 a0 = true then (op (sP σ5 a0 8) fun p10 =>
 if isO σ5 8 p10 = true then (bd (s_X8_length p10 σ5) fun r15 σ13 =>
 some (r15, σ13)) else none) else none) else (if (60 : Int32) ≤ a2 then (if isO σ5 10 a0 = true then (op (sP σ5 a0 8) fun p18 =>
 if isO σ5 8 p18 = true then (bd (s_X8_length p18 σ5) fun r23 σ21 =>
 some (r23, σ21)) else none) else none) else (if isO σ5 10 a0 = true then (op (sP σ5 a0 8) fun p25 =>
 op (sP σ5 a0 7) fun p27 =>
 if isO σ5 0 p27 = true then (bd (s_X0_at p27 a2 σ5) fun r32 σ30 =>
 if isO σ30 8 p25 = true then (bd (s_X8_append p25 r32 σ30) fun r36 σ34 =>
 lt (a2 + 1 : Int32) fun v37 =>
 k56 a0 v37 σ34) else none) else none) else none))) else none) else none
def s_X10_trial_56 (F : Nat) : Nat → Int32 → St → Option (Int32 × St) := lp (fun _ _ _ => none) (sb_X10_trial_56 ) F
set_option maxHeartbeats 4000000 in
set_option maxRecDepth 100000 in
theorem e_X10_trial_56 {r : Int32} {σ' : St} (F : Nat) : ∀ {a0 : Nat} {a2 : Int32} {σ : St}, s_X10_trial_56 F a0 a2 σ = some (r, σ') → Ev M_X10_trial (392) 56 [(0, .ref a0), (2, .int (a2))] [] σ (some (.int r)) σ' := by
  induction F with
  | zero => intro a0 a2 σ h; cases h
  | succ F ih =>
    intro a0 a2 σ h
    change sb_X10_trial_56  (s_X10_trial_56 F) a0 a2 σ = some (r, σ') at h
    unfold sb_X10_trial_56 at h
    have hk56 := @ih
    refine ev_iload_n 1 dX10_trial_56 rfl ?_
    refine ev_aload_nR 0 dX10_trial_57 rfl ?_
    obtain ⟨g1, h⟩ := gd_some h
    obtain ⟨p2, e3, h⟩ := op_some h
    refine ev_getPR dX10_trial_58 fl_X10_58 rfl g1 e3 ?_
    obtain ⟨g4, h⟩ := gd_some h
    obtain ⟨r7, σ5, e6, h⟩ := bd_some h
    refine ev_invVi (As := []) (st := [.int (a2)]) dX10_trial_61 cb_X0_length tp_818 tp_819 tp_820 kf0 rfl (by omega) g4 rfl rfl (Nat.le_of_ble_eq_true rfl) (x_X0_length e6) ?_
    rcases it_some h with ⟨c8, h⟩ | ⟨c8, h⟩
    · refine ev_icmp_ge (tgt := 95) dX10_trial_64 rfl c8 ?_
      refine ev_aload_nR 0 dX10_trial_95 rfl ?_
      obtain ⟨g9, h⟩ := gd_some h
      obtain ⟨p10, e11, h⟩ := op_some h
      refine ev_getPR dX10_trial_96 fl_X10_65 rfl g9 e11 ?_
      obtain ⟨g12, h⟩ := gd_some h
      obtain ⟨r15, σ13, e14, h⟩ := bd_some h
      refine ev_invVi (As := []) (st := []) dX10_trial_99 cb_X8_length tp_843 tp_844 tp_845 kf8 rfl (by omega) g12 rfl rfl (Nat.le_of_ble_eq_true rfl) (x_X8_length e14) ?_
      exact ev_retI .int dX10_trial_102 rfl rfl h
    · refine ev_icmp_ge_n 95 dX10_trial_64 rfl c8 ?_
      refine ev_iload_n 1 dX10_trial_67 rfl ?_
      refine ev_bipush (v := 60) dX10_trial_68 (by decide) ?_
      rcases it_some h with ⟨c16, h⟩ | ⟨c16, h⟩
      · refine ev_icmp_ge (tgt := 95) dX10_trial_70 rfl c16 ?_
        refine ev_aload_nR 0 dX10_trial_95 rfl ?_
        obtain ⟨g17, h⟩ := gd_some h
        obtain ⟨p18, e19, h⟩ := op_some h
        refine ev_getPR dX10_trial_96 fl_X10_65 rfl g17 e19 ?_
        obtain ⟨g20, h⟩ := gd_some h
        obtain ⟨r23, σ21, e22, h⟩ := bd_some h
        refine ev_invVi (As := []) (st := []) dX10_trial_99 cb_X8_length tp_843 tp_844 tp_845 kf8 rfl (by omega) g20 rfl rfl (Nat.le_of_ble_eq_true rfl) (x_X8_length e22) ?_
        exact ev_retI .int dX10_trial_102 rfl rfl h
      · refine ev_icmp_ge_n 95 dX10_trial_70 rfl c16 ?_
        refine ev_aload_nR 0 dX10_trial_73 rfl ?_
        obtain ⟨g24, h⟩ := gd_some h
        obtain ⟨p25, e26, h⟩ := op_some h
        refine ev_getPR dX10_trial_74 fl_X10_65 rfl g24 e26 ?_
        refine ev_aload_nR 0 dX10_trial_77 rfl ?_
        obtain ⟨p27, e28, h⟩ := op_some h
        refine ev_getPR dX10_trial_78 fl_X10_58 rfl g24 e28 ?_
        refine ev_iload_n 1 dX10_trial_81 rfl ?_
        obtain ⟨g29, h⟩ := gd_some h
        obtain ⟨r32, σ30, e31, h⟩ := bd_some h
        refine ev_invVi (As := [.int (a2)]) (st := [.ref p25]) dX10_trial_82 cb_X0_at tp_822 tp_823 tp_824 kf0 rfl (by omega) g29 rfl rfl (Nat.le_of_ble_eq_true rfl) (x_X0_at e31) ?_
        obtain ⟨g33, h⟩ := gd_some h
        obtain ⟨r36, σ34, e35, h⟩ := bd_some h
        refine ev_invVi (As := [.int (r32)]) (st := []) dX10_trial_85 cb_X8_append tp_839 tp_840 tp_841 kf8 rfl (by omega) g33 rfl rfl (Nat.le_of_ble_eq_true rfl) (x_X8_append e35) ?_
        refine ev_pop dX10_trial_88 rfl ?_
        obtain ⟨v37, e38, h⟩ := lt_some h
        refine ev_iinc (v := v37) (ls' := [(2, .int (v37)), (0, .ref a0)]) 1 dX10_trial_89 rfl e38.symm (by decide) rfl ?_
        refine ev_goto (tgt := 56) dX10_trial_92 rfl ?_
        refine ev_sub (ls' := [(0, .ref a0), (2, .int (v37))]) [1, 0] rfl ?_
        exact hk56 h
def s_X10_trial_27 (a0 : Nat) (a1 : Int32) (σ : St) : Option (Int32 × St) :=
 if isO σ 10 a0 = true then (op (sP σ a0 8) fun p40 =>
 if isO σ 8 p40 = true then (bd (s_X8_clear p40 σ) fun r45 σ43 =>
 if a1 = 1 then (if isO σ43 10 a0 = true then (bd (s_X10_prepare a0 σ43) fun r57 σ55 =>
 if isO σ55 10 a0 = true then (op (sP σ55 a0 7) fun p59 =>
 bd (s_X10_allResources a0 σ55) fun r63 σ61 =>
 if isO σ61 0 p59 = true then (bd (s_X0_find p59 r63 σ61) fun r67 σ65 =>
 s_X10_trial_56 16000 a0 0 σ65) else none) else none) else none) else (if isO σ43 10 a0 = true then (op (sP σ43 a0 8) fun p48 =>
 if isO σ43 8 p48 = true then (bd (s_X8_length p48 σ43) fun r53 σ51 =>
 some (r53, σ51)) else none) else none)) else none) else none
set_option maxHeartbeats 4000000 in
set_option maxRecDepth 100000 in
theorem e_X10_trial_27 {r : Int32} {σ' : St} : ∀ {a0 : Nat} {a1 : Int32} {σ : St}, s_X10_trial_27 a0 a1 σ = some (r, σ') → Ev M_X10_trial (392) 27 [(0, .ref a0), (1, .int (a1))] [] σ (some (.int r)) σ' := by
  intro a0 a1 σ h
  unfold s_X10_trial_27 at h
  refine ev_aload_nR 0 dX10_trial_27 rfl ?_
  obtain ⟨g39, h⟩ := gd_some h
  obtain ⟨p40, e41, h⟩ := op_some h
  refine ev_getPR dX10_trial_28 fl_X10_65 rfl g39 e41 ?_
  obtain ⟨g42, h⟩ := gd_some h
  obtain ⟨r45, σ43, e44, h⟩ := bd_some h
  refine ev_invVv (As := []) (st := []) dX10_trial_31 cb_X8_clear tp_851 tp_852 tp_853 kf8 rfl (by omega) g42 rfl rfl (Nat.le_of_ble_eq_true rfl) (x_X8_clear e44) ?_
  refine ev_iload_n 1 dX10_trial_34 rfl ?_
  refine ev_iconst (v := 1) dX10_trial_35 (by decide) ?_
  rcases it_some h with ⟨c46, h⟩ | ⟨c46, h⟩
  · refine ev_icmp_ne_n 95 dX10_trial_36 rfl c46 ?_
    refine ev_aload_nR 0 dX10_trial_39 rfl ?_
    obtain ⟨g54, h⟩ := gd_some h
    obtain ⟨r57, σ55, e56, h⟩ := bd_some h
    refine ev_invVv (As := []) (st := []) dX10_trial_40 cb_X10_prepare tp_561 tp_563 tp_17 kf10 rfl (by omega) g54 rfl rfl (Nat.le_of_ble_eq_true rfl) (x_X10_prepare e56) ?_
    refine ev_aload_nR 0 dX10_trial_43 rfl ?_
    obtain ⟨g58, h⟩ := gd_some h
    obtain ⟨p59, e60, h⟩ := op_some h
    refine ev_getPR dX10_trial_44 fl_X10_58 rfl g58 e60 ?_
    refine ev_aload_nR 0 dX10_trial_47 rfl ?_
    obtain ⟨r63, σ61, e62, h⟩ := bd_some h
    refine ev_invVi (As := []) (st := [.ref p59]) dX10_trial_48 cb_X10_allResources tp_557 tp_559 tp_16 kf10 rfl (by omega) g58 rfl rfl (Nat.le_of_ble_eq_true rfl) (x_X10_allResources e62) ?_
    obtain ⟨g64, h⟩ := gd_some h
    obtain ⟨r67, σ65, e66, h⟩ := bd_some h
    refine ev_invVv (As := [.int (r63)]) (st := []) dX10_trial_51 cb_X0_find tp_771 tp_772 tp_773 kf0 rfl (by omega) g64 rfl rfl (Nat.le_of_ble_eq_true rfl) (x_X0_find e66) ?_
    refine ev_iconst (v := 0) dX10_trial_54 (by decide) ?_
    refine ev_istore_n (ls' := [(2, .int (0)), (0, .ref a0), (1, .int (a1))]) dX10_trial_55 (by decide) rfl ?_
    refine ev_sub (ls' := [(0, .ref a0), (2, .int (0))]) [1, 0] rfl ?_
    exact e_X10_trial_56 16000 h
  · refine ev_icmp_ne (tgt := 95) dX10_trial_36 rfl c46 ?_
    refine ev_aload_nR 0 dX10_trial_95 rfl ?_
    obtain ⟨g47, h⟩ := gd_some h
    obtain ⟨p48, e49, h⟩ := op_some h
    refine ev_getPR dX10_trial_96 fl_X10_65 rfl g47 e49 ?_
    obtain ⟨g50, h⟩ := gd_some h
    obtain ⟨r53, σ51, e52, h⟩ := bd_some h
    refine ev_invVi (As := []) (st := []) dX10_trial_99 cb_X8_length tp_843 tp_844 tp_845 kf8 rfl (by omega) g50 rfl rfl (Nat.le_of_ble_eq_true rfl) (x_X8_length e52) ?_
    exact ev_retI .int dX10_trial_102 rfl rfl h
def s_X10_trial_12 (a0 : Nat) (a1 : Int32) (σ : St) : Option (Int32 × St) :=
 if a1 = 1 then (if isO σ 10 a0 = true then (bd (s_X10_hasGoal a0 σ) fun r72 σ70 =>
 if r72 = 0 then (some ((-3), σ70)) else (s_X10_trial_27 a0 a1 σ70)) else none) else (s_X10_trial_27 a0 a1 σ)
set_option maxHeartbeats 4000000 in
set_option maxRecDepth 100000 in
theorem e_X10_trial_12 {r : Int32} {σ' : St} : ∀ {a0 : Nat} {a1 : Int32} {σ : St}, s_X10_trial_12 a0 a1 σ = some (r, σ') → Ev M_X10_trial (392) 12 [(0, .ref a0), (1, .int (a1))] [] σ (some (.int r)) σ' := by
  intro a0 a1 σ h
  unfold s_X10_trial_12 at h
  refine ev_iload_n 1 dX10_trial_12 rfl ?_
  refine ev_iconst (v := 1) dX10_trial_13 (by decide) ?_
  rcases it_some h with ⟨c68, h⟩ | ⟨c68, h⟩
  · refine ev_icmp_ne_n 27 dX10_trial_14 rfl c68 ?_
    refine ev_aload_nR 0 dX10_trial_17 rfl ?_
    obtain ⟨g69, h⟩ := gd_some h
    obtain ⟨r72, σ70, e71, h⟩ := bd_some h
    refine ev_invVi (As := []) (st := []) dX10_trial_18 cb_X10_hasGoal tp_545 tp_547 tp_14 kf10 rfl (by omega) g69 rfl rfl (Nat.le_of_ble_eq_true rfl) (x_X10_hasGoal e71) ?_
    rcases it_some h with ⟨c73, h⟩ | ⟨c73, h⟩
    · refine ev_if_ne_n 27 dX10_trial_21 rfl c73 ?_
      refine ev_bipush (v := (-3)) dX10_trial_24 (by decide) ?_
      exact ev_retI .int dX10_trial_26 rfl rfl h
    · refine ev_if_ne (tgt := 27) dX10_trial_21 rfl c73 ?_
      refine ev_sub (ls' := [(0, .ref a0), (1, .int (a1))]) [0, 1] rfl ?_
      exact e_X10_trial_27  h
  · refine ev_icmp_ne (tgt := 27) dX10_trial_14 rfl c68 ?_
    refine ev_sub (ls' := [(0, .ref a0), (1, .int (a1))]) [0, 1] rfl ?_
    exact e_X10_trial_27  h
def s_X10_trial (a0 : Nat) (a1 : Int32) (σ : St) : Option (Int32 × St) :=
 if a1 = 0 then (s_X10_trial_12 a0 a1 σ) else (if a1 = 1 then (s_X10_trial_12 a0 a1 σ) else (some ((-2), σ)))
set_option maxHeartbeats 4000000 in
set_option maxRecDepth 100000 in
theorem x_X10_trial {a0 : Nat} {a1 : Int32} {σ : St} {r : Int32} {σ' : St} (h : s_X10_trial a0 a1 σ = some (r, σ')) : Ex M_X10_trial (392) [.ref a0, .int (a1)] σ (some (.int r)) σ' := by
  unfold s_X10_trial at h
  refine ex_of (by decide) rfl (Nat.le_of_ble_eq_true rfl) ?_
  show Ev _ _ 0 [(0, .ref a0), (1, .int (a1))] [] _ _ _
  refine ev_iload_n 1 dX10_trial_0 rfl ?_
  rcases it_some h with ⟨c74, h⟩ | ⟨c74, h⟩
  · refine ev_if_eq (tgt := 12) dX10_trial_1 rfl c74 ?_
    refine ev_sub (ls' := [(0, .ref a0), (1, .int (a1))]) [0, 1] rfl ?_
    exact e_X10_trial_12  h
  · refine ev_if_eq_n 12 dX10_trial_1 rfl c74 ?_
    refine ev_iload_n 1 dX10_trial_4 rfl ?_
    refine ev_iconst (v := 1) dX10_trial_5 (by decide) ?_
    rcases it_some h with ⟨c75, h⟩ | ⟨c75, h⟩
    · refine ev_icmp_eq (tgt := 12) dX10_trial_6 rfl c75 ?_
      refine ev_sub (ls' := [(0, .ref a0), (1, .int (a1))]) [0, 1] rfl ?_
      exact e_X10_trial_12  h
    · refine ev_icmp_eq_n 12 dX10_trial_6 rfl c75 ?_
      refine ev_bipush (v := (-2)) dX10_trial_9 (by decide) ?_
      exact ev_retI .int dX10_trial_11 rfl rfl h
def s_X10_check (a0 : Nat) (a1 : Int32) (σ : St) : Option (Int32 × St) :=
 if a1 < 0 then (some ((-2), σ)) else (if a1 ≤ 2 then (if isO σ 10 a0 = true then (bd (s_X10_hasGoal a0 σ) fun r6 σ4 =>
 if r6 = 0 then (some ((-3), σ4)) else (if isO σ4 10 a0 = true then (bd (s_X10_prepare a0 σ4) fun r11 σ9 =>
 if isO σ9 10 a0 = true then (op (sP σ9 a0 9) fun p13 =>
 bd (s_X10_allResources a0 σ9) fun r17 σ15 =>
 if isO σ15 2 p13 = true then (bd (s_X2_judge p13 r17 σ15) fun r21 σ19 =>
 if a1 = 0 then (if isO σ19 10 a0 = true then (op (sP σ19 a0 9) fun p39 =>
 if isO σ19 2 p39 = true then (bd (s_X2_verdict p39 σ19) fun r44 σ42 =>
 some (r44, σ42)) else none) else none) else (if a1 = 1 then (if isO σ19 10 a0 = true then (op (sP σ19 a0 9) fun p32 =>
 if isO σ19 2 p32 = true then (bd (s_X2_used p32 σ19) fun r37 σ35 =>
 some (r37, σ35)) else none) else none) else (if isO σ19 10 a0 = true then (op (sP σ19 a0 9) fun p25 =>
 if isO σ19 2 p25 = true then (bd (s_X2_deepest p25 σ19) fun r30 σ28 =>
 some (r30, σ28)) else none) else none))) else none) else none) else none)) else none) else (some ((-2), σ)))
set_option maxHeartbeats 4000000 in
set_option maxRecDepth 100000 in
theorem x_X10_check {a0 : Nat} {a1 : Int32} {σ : St} {r : Int32} {σ' : St} (h : s_X10_check a0 a1 σ = some (r, σ')) : Ex M_X10_check (392) [.ref a0, .int (a1)] σ (some (.int r)) σ' := by
  unfold s_X10_check at h
  refine ex_of (by decide) rfl (Nat.le_of_ble_eq_true rfl) ?_
  show Ev _ _ 0 [(0, .ref a0), (1, .int (a1))] [] _ _ _
  refine ev_iload_n 1 dX10_check_0 rfl ?_
  rcases it_some h with ⟨c1, h⟩ | ⟨c1, h⟩
  · refine ev_if_lt (tgt := 9) dX10_check_1 rfl c1 ?_
    refine ev_bipush (v := (-2)) dX10_check_9 (by decide) ?_
    exact ev_retI .int dX10_check_11 rfl rfl h
  · refine ev_if_lt_n 9 dX10_check_1 rfl c1 ?_
    refine ev_iload_n 1 dX10_check_4 rfl ?_
    refine ev_iconst (v := 2) dX10_check_5 (by decide) ?_
    rcases it_some h with ⟨c2, h⟩ | ⟨c2, h⟩
    · refine ev_icmp_le (tgt := 12) dX10_check_6 rfl c2 ?_
      refine ev_aload_nR 0 dX10_check_12 rfl ?_
      obtain ⟨g3, h⟩ := gd_some h
      obtain ⟨r6, σ4, e5, h⟩ := bd_some h
      refine ev_invVi (As := []) (st := []) dX10_check_13 cb_X10_hasGoal tp_545 tp_547 tp_14 kf10 rfl (by omega) g3 rfl rfl (Nat.le_of_ble_eq_true rfl) (x_X10_hasGoal e5) ?_
      rcases it_some h with ⟨c7, h⟩ | ⟨c7, h⟩
      · refine ev_if_ne_n 22 dX10_check_16 rfl c7 ?_
        refine ev_bipush (v := (-3)) dX10_check_19 (by decide) ?_
        exact ev_retI .int dX10_check_21 rfl rfl h
      · refine ev_if_ne (tgt := 22) dX10_check_16 rfl c7 ?_
        refine ev_aload_nR 0 dX10_check_22 rfl ?_
        obtain ⟨g8, h⟩ := gd_some h
        obtain ⟨r11, σ9, e10, h⟩ := bd_some h
        refine ev_invVv (As := []) (st := []) dX10_check_23 cb_X10_prepare tp_561 tp_563 tp_17 kf10 rfl (by omega) g8 rfl rfl (Nat.le_of_ble_eq_true rfl) (x_X10_prepare e10) ?_
        refine ev_aload_nR 0 dX10_check_26 rfl ?_
        obtain ⟨g12, h⟩ := gd_some h
        obtain ⟨p13, e14, h⟩ := op_some h
        refine ev_getPR dX10_check_27 fl_X10_74 rfl g12 e14 ?_
        refine ev_aload_nR 0 dX10_check_30 rfl ?_
        obtain ⟨r17, σ15, e16, h⟩ := bd_some h
        refine ev_invVi (As := []) (st := [.ref p13]) dX10_check_31 cb_X10_allResources tp_557 tp_559 tp_16 kf10 rfl (by omega) g12 rfl rfl (Nat.le_of_ble_eq_true rfl) (x_X10_allResources e16) ?_
        obtain ⟨g18, h⟩ := gd_some h
        obtain ⟨r21, σ19, e20, h⟩ := bd_some h
        refine ev_invVv (As := [.int (r17)]) (st := []) dX10_check_34 cb_X2_judge tp_859 tp_860 tp_861 kf2 rfl (by omega) g18 rfl rfl (Nat.le_of_ble_eq_true rfl) (x_X2_judge e20) ?_
        refine ev_iload_n 1 dX10_check_37 rfl ?_
        rcases it_some h with ⟨c22, h⟩ | ⟨c22, h⟩
        · refine ev_if_ne_n 49 dX10_check_38 rfl c22 ?_
          refine ev_aload_nR 0 dX10_check_41 rfl ?_
          obtain ⟨g38, h⟩ := gd_some h
          obtain ⟨p39, e40, h⟩ := op_some h
          refine ev_getPR dX10_check_42 fl_X10_74 rfl g38 e40 ?_
          obtain ⟨g41, h⟩ := gd_some h
          obtain ⟨r44, σ42, e43, h⟩ := bd_some h
          refine ev_invVi (As := []) (st := []) dX10_check_45 cb_X2_verdict tp_912 tp_913 tp_914 kf2 rfl (by omega) g41 rfl rfl (Nat.le_of_ble_eq_true rfl) (x_X2_verdict e43) ?_
          exact ev_retI .int dX10_check_48 rfl rfl h
        · refine ev_if_ne (tgt := 49) dX10_check_38 rfl c22 ?_
          refine ev_iload_n 1 dX10_check_49 rfl ?_
          refine ev_iconst (v := 1) dX10_check_50 (by decide) ?_
          rcases it_some h with ⟨c23, h⟩ | ⟨c23, h⟩
          · refine ev_icmp_ne_n 64 dX10_check_51 rfl c23 ?_
            refine ev_aload_nR 0 dX10_check_54 rfl ?_
            obtain ⟨g31, h⟩ := gd_some h
            obtain ⟨p32, e33, h⟩ := op_some h
            refine ev_getPR dX10_check_55 fl_X10_74 rfl g31 e33 ?_
            obtain ⟨g34, h⟩ := gd_some h
            obtain ⟨r37, σ35, e36, h⟩ := bd_some h
            refine ev_invVi (As := []) (st := []) dX10_check_58 cb_X2_used tp_916 tp_917 tp_918 kf2 rfl (by omega) g34 rfl rfl (Nat.le_of_ble_eq_true rfl) (x_X2_used e36) ?_
            refine ev_goto (tgt := 71) dX10_check_61 rfl ?_
            exact ev_retI .int dX10_check_71 rfl rfl h
          · refine ev_icmp_ne (tgt := 64) dX10_check_51 rfl c23 ?_
            refine ev_aload_nR 0 dX10_check_64 rfl ?_
            obtain ⟨g24, h⟩ := gd_some h
            obtain ⟨p25, e26, h⟩ := op_some h
            refine ev_getPR dX10_check_65 fl_X10_74 rfl g24 e26 ?_
            obtain ⟨g27, h⟩ := gd_some h
            obtain ⟨r30, σ28, e29, h⟩ := bd_some h
            refine ev_invVi (As := []) (st := []) dX10_check_68 cb_X2_deepest tp_920 tp_921 tp_922 kf2 rfl (by omega) g27 rfl rfl (Nat.le_of_ble_eq_true rfl) (x_X2_deepest e29) ?_
            exact ev_retI .int dX10_check_71 rfl rfl h
    · refine ev_icmp_le_n 12 dX10_check_6 rfl c2 ?_
      refine ev_bipush (v := (-2)) dX10_check_9 (by decide) ?_
      exact ev_retI .int dX10_check_11 rfl rfl h
def s_X10_image_38 (a0 : Nat) (a2 : Option Nat) (σ : St) : Option (Int32 × St) :=
 if isO σ 10 a0 = true then (op (sP σ a0 1) fun p2 =>
 op a2 fun p4 =>
 if isO σ 6 p4 = true then (bd (s_X6_copyFrom p4 p2 σ) fun r9 σ7 =>
 some (1, σ7)) else none) else none
set_option maxHeartbeats 4000000 in
set_option maxRecDepth 100000 in
theorem e_X10_image_38 {r : Int32} {σ' : St} : ∀ {a0 : Nat} {a2 : Option Nat} {σ : St}, s_X10_image_38 a0 a2 σ = some (r, σ') → Ev M_X10_image (3) 38 [(0, .ref a0), (2, va_rf a2)] [] σ (some (.int r)) σ' := by
  intro a0 a2 σ h
  unfold s_X10_image_38 at h
  refine ev_aload_n 1 dX10_image_38 rfl ?_
  refine ev_aload_nR 0 dX10_image_39 rfl ?_
  obtain ⟨g1, h⟩ := gd_some h
  obtain ⟨p2, e3, h⟩ := op_some h
  refine ev_getPR dX10_image_40 fl_X10_19 rfl g1 e3 ?_
  obtain ⟨p4, e5, h⟩ := op_some h
  rw [e5]
  obtain ⟨g6, h⟩ := gd_some h
  obtain ⟨r9, σ7, e8, h⟩ := bd_some h
  refine ev_invVv (As := [.ref p2]) (st := []) dX10_image_43 cb_X6_copyFrom tp_928 tp_929 tp_930 kf6 rfl (by omega) g6 rfl rfl (Nat.le_of_ble_eq_true rfl) (x_X6_copyFrom e8) ?_
  refine ev_iconst (v := 1) dX10_image_46 (by decide) ?_
  exact ev_retI .int dX10_image_47 rfl rfl h
def s_X10_image (a0 : Nat) (a1 : Int32) (σ : St) : Option (Int32 × St) :=
 if a1 < 0 then (some ((-2), σ)) else (if a1 < 2 then (if isO σ 10 a0 = true then (op (sP σ a0 2) fun p13 =>
 if isO σ 17 p13 = true then (if inR a1 (alen σ p13) = true then (on ((sP σ p13 a1.toNatClampNeg)) (lt (sn σ) fun n19 => lt (newC σ 6 1) fun σ21 =>
 bd (s_X6_init n19 σ21) fun r25 σ23 =>
 if isO σ23 10 a0 = true then (op (sP σ23 a0 2) fun p27 =>
 if isO σ23 17 p27 = true then (if inR a1 (alen σ23 p27) = true then (if isO σ23 6 n19 = true then (lt (setP σ23 p27 a1.toNatClampNeg (some n19)) fun σ31 =>
 s_X10_image_38 a0 (some n19) σ31) else none) else none) else none) else none) fun w17 => s_X10_image_38 a0 (some w17) σ) else none) else none) else none) else (some ((-2), σ)))
set_option maxHeartbeats 4000000 in
set_option maxRecDepth 100000 in
theorem x_X10_image {a0 : Nat} {a1 : Int32} {σ : St} {r : Int32} {σ' : St} (h : s_X10_image a0 a1 σ = some (r, σ')) : Ex M_X10_image (3) [.ref a0, .int (a1)] σ (some (.int r)) σ' := by
  unfold s_X10_image at h
  refine ex_of (by decide) rfl (Nat.le_of_ble_eq_true rfl) ?_
  show Ev _ _ 0 [(0, .ref a0), (1, .int (a1))] [] _ _ _
  refine ev_iload_n 1 dX10_image_0 rfl ?_
  rcases it_some h with ⟨c10, h⟩ | ⟨c10, h⟩
  · refine ev_if_lt (tgt := 9) dX10_image_1 rfl c10 ?_
    refine ev_bipush (v := (-2)) dX10_image_9 (by decide) ?_
    exact ev_retI .int dX10_image_11 rfl rfl h
  · refine ev_if_lt_n 9 dX10_image_1 rfl c10 ?_
    refine ev_iload_n 1 dX10_image_4 rfl ?_
    refine ev_iconst (v := 2) dX10_image_5 (by decide) ?_
    rcases it_some h with ⟨c11, h⟩ | ⟨c11, h⟩
    · refine ev_icmp_lt (tgt := 12) dX10_image_6 rfl c11 ?_
      refine ev_aload_nR 0 dX10_image_12 rfl ?_
      obtain ⟨g12, h⟩ := gd_some h
      obtain ⟨p13, e14, h⟩ := op_some h
      refine ev_getPR dX10_image_13 fl_X10_23 rfl g12 e14 ?_
      refine ev_iload_n 1 dX10_image_16 rfl ?_
      obtain ⟨g15, h⟩ := gd_some h
      obtain ⟨g16, h⟩ := gd_some h
      refine ev_aald dX10_image_17 (by decide) (isA_O g15) g16 rfl ?_
      refine ev_astore_n (ls' := [(2, va_rf (sP σ p13 a1.toNatClampNeg)), (0, .ref a0), (1, .int (a1))]) dX10_image_18 (by decide) rfl ?_
      refine ev_aload_n 0 dX10_image_19 rfl ?_
      rcases on_some h with ⟨e18, h⟩ | ⟨w17, e18, h⟩
      · rw [e18]
        refine ev_ifnonnull_n dX10_image_20 ?_
        obtain ⟨n19, e20, h⟩ := lt_some h
        obtain ⟨σ21, e22, h⟩ := lt_some h
        refine ev_newR dX10_image_23 kf6 tp_129 tp_130 tp_95 e20 ?_
        refine ev_st e22 ?_
        refine ev_dup dX10_image_26 rfl ?_
        obtain ⟨r25, σ23, e24, h⟩ := bd_some h
        refine ev_invIN (r1 := none) (As := []) (st := [.ref n19]) dX10_image_27 cb_X6_init nl_X10_18 tp_132 rfl rfl (by omega) rfl rfl (Nat.le_of_ble_eq_true rfl) (x_X6_init e24) ?_
        show Ev _ _ _ _ [.ref n19] _ _ _
        refine ev_astore_nR (ls' := [(2, .ref n19), (0, .ref a0), (1, .int (a1))]) dX10_image_30 (by decide) rfl ?_
        refine ev_aload_nR 1 dX10_image_31 rfl ?_
        obtain ⟨g26, h⟩ := gd_some h
        obtain ⟨p27, e28, h⟩ := op_some h
        refine ev_getPR dX10_image_32 fl_X10_23 rfl g26 e28 ?_
        refine ev_iload_n 2 dX10_image_35 rfl ?_
        refine ev_aload_nR 0 dX10_image_36 rfl ?_
        obtain ⟨g29, h⟩ := gd_some h
        obtain ⟨g30, h⟩ := gd_some h
        obtain ⟨g33, h⟩ := gd_some h
        obtain ⟨σ31, e32, h⟩ := lt_some h
        refine ev_aastR dX10_image_37 (by decide) (isO_spec g29).1 (isA_O g29) g30 g33 ?_
        refine ev_st e32 ?_
        refine ev_sub (ls' := [(0, .ref a0), (2, va_rf (some n19))]) [1, 0] rfl ?_
        exact e_X10_image_38  h
      · rw [e18]
        refine ev_ifnonnull (tgt := 38) dX10_image_20 rfl ?_
        refine ev_sub (ls' := [(0, .ref a0), (2, va_rf (some w17))]) [1, 0] rfl ?_
        exact e_X10_image_38  h
    · refine ev_icmp_lt_n 12 dX10_image_6 rfl c11 ?_
      refine ev_bipush (v := (-2)) dX10_image_9 (by decide) ?_
      exact ev_retI .int dX10_image_11 rfl rfl h
def s_X10_restore (a0 : Nat) (a1 : Int32) (σ : St) : Option (Int32 × St) :=
 if a1 < 0 then (some ((-2), σ)) else (if a1 < 2 then (if isO σ 10 a0 = true then (op (sP σ a0 2) fun p4 =>
 if isO σ 17 p4 = true then (if inR a1 (alen σ p4) = true then (on ((sP σ p4 a1.toNatClampNeg)) (some ((-3), σ)) fun w8 => op (sP σ a0 1) fun p10 =>
 if isO σ 6 p10 = true then (bd (s_X6_copyFrom p10 w8 σ) fun r15 σ13 =>
 if isO σ13 10 a0 = true then (lt (setI σ13 a0 11 1) fun σ17 =>
 some (1, σ17)) else none) else none) else none) else none) else none) else (some ((-2), σ)))
set_option maxHeartbeats 4000000 in
set_option maxRecDepth 100000 in
theorem x_X10_restore {a0 : Nat} {a1 : Int32} {σ : St} {r : Int32} {σ' : St} (h : s_X10_restore a0 a1 σ = some (r, σ')) : Ex M_X10_restore (3) [.ref a0, .int (a1)] σ (some (.int r)) σ' := by
  unfold s_X10_restore at h
  refine ex_of (by decide) rfl (Nat.le_of_ble_eq_true rfl) ?_
  show Ev _ _ 0 [(0, .ref a0), (1, .int (a1))] [] _ _ _
  refine ev_iload_n 1 dX10_restore_0 rfl ?_
  rcases it_some h with ⟨c1, h⟩ | ⟨c1, h⟩
  · refine ev_if_lt (tgt := 9) dX10_restore_1 rfl c1 ?_
    refine ev_bipush (v := (-2)) dX10_restore_9 (by decide) ?_
    exact ev_retI .int dX10_restore_11 rfl rfl h
  · refine ev_if_lt_n 9 dX10_restore_1 rfl c1 ?_
    refine ev_iload_n 1 dX10_restore_4 rfl ?_
    refine ev_iconst (v := 2) dX10_restore_5 (by decide) ?_
    rcases it_some h with ⟨c2, h⟩ | ⟨c2, h⟩
    · refine ev_icmp_lt (tgt := 12) dX10_restore_6 rfl c2 ?_
      refine ev_aload_nR 0 dX10_restore_12 rfl ?_
      obtain ⟨g3, h⟩ := gd_some h
      obtain ⟨p4, e5, h⟩ := op_some h
      refine ev_getPR dX10_restore_13 fl_X10_23 rfl g3 e5 ?_
      refine ev_iload_n 1 dX10_restore_16 rfl ?_
      obtain ⟨g6, h⟩ := gd_some h
      obtain ⟨g7, h⟩ := gd_some h
      refine ev_aald dX10_restore_17 (by decide) (isA_O g6) g7 rfl ?_
      refine ev_astore_n (ls' := [(2, va_rf (sP σ p4 a1.toNatClampNeg)), (0, .ref a0), (1, .int (a1))]) dX10_restore_18 (by decide) rfl ?_
      refine ev_aload_n 0 dX10_restore_19 rfl ?_
      rcases on_some h with ⟨e9, h⟩ | ⟨w8, e9, h⟩
      · rw [e9]
        refine ev_ifnonnull_n dX10_restore_20 ?_
        refine ev_bipush (v := (-3)) dX10_restore_23 (by decide) ?_
        exact ev_retI .int dX10_restore_25 rfl rfl h
      · rw [e9]
        refine ev_ifnonnull (tgt := 26) dX10_restore_20 rfl ?_
        refine ev_aload_nR 1 dX10_restore_26 rfl ?_
        obtain ⟨p10, e11, h⟩ := op_some h
        refine ev_getPR dX10_restore_27 fl_X10_19 rfl g3 e11 ?_
        refine ev_aload_nR 0 dX10_restore_30 rfl ?_
        obtain ⟨g12, h⟩ := gd_some h
        obtain ⟨r15, σ13, e14, h⟩ := bd_some h
        refine ev_invVv (As := [.ref w8]) (st := []) dX10_restore_31 cb_X6_copyFrom tp_928 tp_929 tp_930 kf6 rfl (by omega) g12 rfl rfl (Nat.le_of_ble_eq_true rfl) (x_X6_copyFrom e14) ?_
        refine ev_aload_nR 1 dX10_restore_34 rfl ?_
        refine ev_iconst (v := 1) dX10_restore_35 (by decide) ?_
        obtain ⟨g16, h⟩ := gd_some h
        obtain ⟨σ17, e18, h⟩ := lt_some h
        refine ev_putI dX10_restore_36 fl_X10_82 rfl (Or.inl rfl) g16 ⟨rfl, rfl⟩ ?_
        refine ev_st e18 ?_
        refine ev_iconst (v := 1) dX10_restore_39 (by decide) ?_
        exact ev_retI .int dX10_restore_40 rfl rfl h
    · refine ev_icmp_lt_n 12 dX10_restore_6 rfl c2 ?_
      refine ev_bipush (v := (-2)) dX10_restore_9 (by decide) ?_
      exact ev_retI .int dX10_restore_11 rfl rfl h
def sb_X10_savedPlaces_4 (k4 : Nat → Int32 → Int32 → St → Option (Int32 × St)) (a0 : Nat) (a1 : Int32) (a2 : Int32) (σ : St) : Option (Int32 × St) :=
 if (2 : Int32) ≤ a2 then (some (a1, σ)) else (if isO σ 10 a0 = true then (op (sP σ a0 2) fun p3 =>
 if isO σ 17 p3 = true then (if inR a2 (alen σ p3) = true then (on ((sP σ p3 a2.toNatClampNeg)) (lt (a2 + 1 : Int32) fun v9 =>
 k4 a0 a1 v9 σ) fun w7 => lt (a1 ||| (1 <<< (a2 &&& 31)) : Int32) fun v11 =>
 lt (a2 + 1 : Int32) fun v13 =>
 k4 a0 v11 v13 σ) else none) else none) else none)
def s_X10_savedPlaces_4 (F : Nat) : Nat → Int32 → Int32 → St → Option (Int32 × St) := lp (fun _ _ _ _ => none) (sb_X10_savedPlaces_4 ) F
set_option maxHeartbeats 4000000 in
set_option maxRecDepth 100000 in
theorem e_X10_savedPlaces_4 {r : Int32} {σ' : St} (F : Nat) : ∀ {a0 : Nat} {a1 : Int32} {a2 : Int32} {σ : St}, s_X10_savedPlaces_4 F a0 a1 a2 σ = some (r, σ') → Ev M_X10_savedPlaces (1) 4 [(0, .ref a0), (1, .int (a1)), (2, .int (a2))] [] σ (some (.int r)) σ' := by
  induction F with
  | zero => intro a0 a1 a2 σ h; cases h
  | succ F ih =>
    intro a0 a1 a2 σ h
    change sb_X10_savedPlaces_4  (s_X10_savedPlaces_4 F) a0 a1 a2 σ = some (r, σ') at h
    unfold sb_X10_savedPlaces_4 at h
    have hk4 := @ih
    refine ev_iload_n 2 dX10_savedPlaces_4 rfl ?_
    refine ev_iconst (v := 2) dX10_savedPlaces_5 (by decide) ?_
    rcases it_some h with ⟨c1, h⟩ | ⟨c1, h⟩
    · refine ev_icmp_ge (tgt := 30) dX10_savedPlaces_6 rfl c1 ?_
      refine ev_iload_n 1 dX10_savedPlaces_30 rfl ?_
      exact ev_retI .int dX10_savedPlaces_31 rfl rfl h
    · refine ev_icmp_ge_n 30 dX10_savedPlaces_6 rfl c1 ?_
      refine ev_aload_nR 0 dX10_savedPlaces_9 rfl ?_
      obtain ⟨g2, h⟩ := gd_some h
      obtain ⟨p3, e4, h⟩ := op_some h
      refine ev_getPR dX10_savedPlaces_10 fl_X10_23 rfl g2 e4 ?_
      refine ev_iload_n 2 dX10_savedPlaces_13 rfl ?_
      obtain ⟨g5, h⟩ := gd_some h
      obtain ⟨g6, h⟩ := gd_some h
      refine ev_aald dX10_savedPlaces_14 (by decide) (isA_O g5) g6 rfl ?_
      rcases on_some h with ⟨e8, h⟩ | ⟨w7, e8, h⟩
      · rw [e8]
        refine ev_ifnull (tgt := 24) dX10_savedPlaces_15 rfl ?_
        obtain ⟨v9, e10, h⟩ := lt_some h
        refine ev_iinc (v := v9) (ls' := [(2, .int (v9)), (0, .ref a0), (1, .int (a1))]) 2 dX10_savedPlaces_24 rfl e10.symm (by decide) rfl ?_
        refine ev_goto (tgt := 4) dX10_savedPlaces_27 rfl ?_
        refine ev_sub (ls' := [(0, .ref a0), (1, .int (a1)), (2, .int (v9))]) [1, 2, 0] rfl ?_
        exact hk4 h
      · rw [e8]
        refine ev_ifnull_n dX10_savedPlaces_15 ?_
        refine ev_iload_n 1 dX10_savedPlaces_18 rfl ?_
        refine ev_iconst (v := 1) dX10_savedPlaces_19 (by decide) ?_
        refine ev_iload_n 2 dX10_savedPlaces_20 rfl ?_
        refine ev_ishl dX10_savedPlaces_21 ?_
        refine ev_ior dX10_savedPlaces_22 ?_
        obtain ⟨v11, e12, h⟩ := lt_some h
        refine ev_topI e12 ?_
        refine ev_istore_n (ls' := [(1, .int (v11)), (0, .ref a0), (2, .int (a2))]) dX10_savedPlaces_23 (by decide) rfl ?_
        obtain ⟨v13, e14, h⟩ := lt_some h
        refine ev_iinc (v := v13) (ls' := [(2, .int (v13)), (1, .int (v11)), (0, .ref a0)]) 2 dX10_savedPlaces_24 rfl e14.symm (by decide) rfl ?_
        refine ev_goto (tgt := 4) dX10_savedPlaces_27 rfl ?_
        refine ev_sub (ls' := [(0, .ref a0), (1, .int (v11)), (2, .int (v13))]) [2, 1, 0] rfl ?_
        exact hk4 h
def s_X10_savedPlaces (a0 : Nat) (σ : St) : Option (Int32 × St) :=
 s_X10_savedPlaces_4 16000 a0 0 0 σ
set_option maxHeartbeats 4000000 in
set_option maxRecDepth 100000 in
theorem x_X10_savedPlaces {a0 : Nat} {σ : St} {r : Int32} {σ' : St} (h : s_X10_savedPlaces a0 σ = some (r, σ')) : Ex M_X10_savedPlaces (1) [.ref a0] σ (some (.int r)) σ' := by
  unfold s_X10_savedPlaces at h
  refine ex_of (by decide) rfl (Nat.le_of_ble_eq_true rfl) ?_
  show Ev _ _ 0 [(0, .ref a0)] [] _ _ _
  refine ev_iconst (v := 0) dX10_savedPlaces_0 (by decide) ?_
  refine ev_istore_n (ls' := [(1, .int (0)), (0, .ref a0)]) dX10_savedPlaces_1 (by decide) rfl ?_
  refine ev_iconst (v := 0) dX10_savedPlaces_2 (by decide) ?_
  refine ev_istore_n (ls' := [(2, .int (0)), (1, .int (0)), (0, .ref a0)]) dX10_savedPlaces_3 (by decide) rfl ?_
  refine ev_sub (ls' := [(0, .ref a0), (1, .int (0)), (2, .int (0))]) [2, 1, 0] rfl ?_
  exact e_X10_savedPlaces_4 16000 h
def s_X10_count (a0 : Nat) (a1 : Int32) (σ : St) : Option (Int32 × St) :=
 if a1 = 0 then (if isO σ 10 a0 = true then (bd (s_X10_allResources a0 σ) fun r5 σ3 =>
 some (r5, σ3)) else none) else (if a1 = 1 then (if isO σ 10 a0 = true then (op (sP σ a0 1) fun p8 =>
 if isO σ 6 p8 = true then (bd (s_X6_present p8 6 4 σ) fun r13 σ11 =>
 some (r13, σ11)) else none) else none) else (if a1 = 2 then (if isO σ 10 a0 = true then (bd (s_X10_hasGoal a0 σ) fun r18 σ16 =>
 if r18 = 0 then (some (0, σ16)) else (some (1, σ16))) else none) else (if a1 = 3 then (if isO σ 10 a0 = true then (op (sP σ a0 1) fun p22 =>
 if isO σ 6 p22 = true then (bd (s_X6_nodes p22 σ) fun r27 σ25 =>
 some (r27, σ25)) else none) else none) else (if a1 = 4 then (if isO σ 10 a0 = true then (op (sP σ a0 1) fun p30 =>
 if isO σ 6 p30 = true then (bd (s_X6_loans p30 σ) fun r35 σ33 =>
 some (r35, σ33)) else none) else none) else (if a1 = 5 then (if isO σ 10 a0 = true then (op (sP σ a0 0) fun p38 =>
 if isO σ 7 p38 = true then (bd (s_X7_length p38 σ) fun r43 σ41 =>
 some (r43, σ41)) else none) else none) else (if a1 = 6 then (if isO σ 10 a0 = true then (op (sP σ a0 8) fun p46 =>
 if isO σ 8 p46 = true then (bd (s_X8_length p46 σ) fun r51 σ49 =>
 some (r51, σ49)) else none) else none) else (if a1 = 7 then (if isO σ 10 a0 = true then (bd (s_X10_savedPlaces a0 σ) fun r56 σ54 =>
 some (r56, σ54)) else none) else (some ((-2), σ)))))))))
set_option maxHeartbeats 4000000 in
set_option maxRecDepth 100000 in
theorem x_X10_count {a0 : Nat} {a1 : Int32} {σ : St} {r : Int32} {σ' : St} (h : s_X10_count a0 a1 σ = some (r, σ')) : Ex M_X10_count (4) [.ref a0, .int (a1)] σ (some (.int r)) σ' := by
  unfold s_X10_count at h
  refine ex_of (by decide) rfl (Nat.le_of_ble_eq_true rfl) ?_
  show Ev _ _ 0 [(0, .ref a0), (1, .int (a1))] [] _ _ _
  refine ev_iload_n 1 dX10_count_0 rfl ?_
  rcases it_some h with ⟨c1, h⟩ | ⟨c1, h⟩
  · refine ev_tableIn (off := 47) (tgt := 48) dX10_count_1 0 (by rw [c1]; decide) (by decide) rfl rfl ?_
    refine ev_aload_nR 0 dX10_count_48 rfl ?_
    obtain ⟨g2, h⟩ := gd_some h
    obtain ⟨r5, σ3, e4, h⟩ := bd_some h
    refine ev_invVi (As := []) (st := []) dX10_count_49 cb_X10_allResources tp_557 tp_559 tp_16 kf10 rfl (by omega) g2 rfl rfl (Nat.le_of_ble_eq_true rfl) (x_X10_allResources e4) ?_
    exact ev_retI .int dX10_count_52 rfl rfl h
  rcases it_some h with ⟨c6, h⟩ | ⟨c6, h⟩
  · refine ev_tableIn (off := 52) (tgt := 53) dX10_count_1 1 (by rw [c6]; decide) (by decide) rfl rfl ?_
    refine ev_aload_nR 0 dX10_count_53 rfl ?_
    obtain ⟨g7, h⟩ := gd_some h
    obtain ⟨p8, e9, h⟩ := op_some h
    refine ev_getPR dX10_count_54 fl_X10_19 rfl g7 e9 ?_
    refine ev_bipush (v := 6) dX10_count_57 (by decide) ?_
    refine ev_iconst (v := 4) dX10_count_59 (by decide) ?_
    obtain ⟨g10, h⟩ := gd_some h
    obtain ⟨r13, σ11, e12, h⟩ := bd_some h
    refine ev_invVi (As := [.int (6), .int (4)]) (st := []) dX10_count_60 cb_X6_present tp_531 tp_532 tp_533 kf6 rfl (by omega) g10 rfl rfl (Nat.le_of_ble_eq_true rfl) (x_X6_present e12) ?_
    exact ev_retI .int dX10_count_63 rfl rfl h
  rcases it_some h with ⟨c14, h⟩ | ⟨c14, h⟩
  · refine ev_tableIn (off := 63) (tgt := 64) dX10_count_1 2 (by rw [c14]; decide) (by decide) rfl rfl ?_
    refine ev_aload_nR 0 dX10_count_64 rfl ?_
    obtain ⟨g15, h⟩ := gd_some h
    obtain ⟨r18, σ16, e17, h⟩ := bd_some h
    refine ev_invVi (As := []) (st := []) dX10_count_65 cb_X10_hasGoal tp_545 tp_547 tp_14 kf10 rfl (by omega) g15 rfl rfl (Nat.le_of_ble_eq_true rfl) (x_X10_hasGoal e17) ?_
    rcases it_some h with ⟨c19, h⟩ | ⟨c19, h⟩
    · refine ev_if_eq (tgt := 75) dX10_count_68 rfl c19 ?_
      refine ev_iconst (v := 0) dX10_count_75 (by decide) ?_
      exact ev_retI .int dX10_count_76 rfl rfl h
    · refine ev_if_eq_n 75 dX10_count_68 rfl c19 ?_
      refine ev_iconst (v := 1) dX10_count_71 (by decide) ?_
      refine ev_goto (tgt := 76) dX10_count_72 rfl ?_
      exact ev_retI .int dX10_count_76 rfl rfl h
  rcases it_some h with ⟨c20, h⟩ | ⟨c20, h⟩
  · refine ev_tableIn (off := 76) (tgt := 77) dX10_count_1 3 (by rw [c20]; decide) (by decide) rfl rfl ?_
    refine ev_aload_nR 0 dX10_count_77 rfl ?_
    obtain ⟨g21, h⟩ := gd_some h
    obtain ⟨p22, e23, h⟩ := op_some h
    refine ev_getPR dX10_count_78 fl_X10_19 rfl g21 e23 ?_
    obtain ⟨g24, h⟩ := gd_some h
    obtain ⟨r27, σ25, e26, h⟩ := bd_some h
    refine ev_invVi (As := []) (st := []) dX10_count_81 cb_X6_nodes tp_940 tp_494 tp_495 kf6 rfl (by omega) g24 rfl rfl (Nat.le_of_ble_eq_true rfl) (x_X6_nodes e26) ?_
    exact ev_retI .int dX10_count_84 rfl rfl h
  rcases it_some h with ⟨c28, h⟩ | ⟨c28, h⟩
  · refine ev_tableIn (off := 84) (tgt := 85) dX10_count_1 4 (by rw [c28]; decide) (by decide) rfl rfl ?_
    refine ev_aload_nR 0 dX10_count_85 rfl ?_
    obtain ⟨g29, h⟩ := gd_some h
    obtain ⟨p30, e31, h⟩ := op_some h
    refine ev_getPR dX10_count_86 fl_X10_19 rfl g29 e31 ?_
    obtain ⟨g32, h⟩ := gd_some h
    obtain ⟨r35, σ33, e34, h⟩ := bd_some h
    refine ev_invVi (As := []) (st := []) dX10_count_89 cb_X6_loans tp_941 tp_498 tp_499 kf6 rfl (by omega) g32 rfl rfl (Nat.le_of_ble_eq_true rfl) (x_X6_loans e34) ?_
    exact ev_retI .int dX10_count_92 rfl rfl h
  rcases it_some h with ⟨c36, h⟩ | ⟨c36, h⟩
  · refine ev_tableIn (off := 92) (tgt := 93) dX10_count_1 5 (by rw [c36]; decide) (by decide) rfl rfl ?_
    refine ev_aload_nR 0 dX10_count_93 rfl ?_
    obtain ⟨g37, h⟩ := gd_some h
    obtain ⟨p38, e39, h⟩ := op_some h
    refine ev_getPR dX10_count_94 fl_X10_12 rfl g37 e39 ?_
    obtain ⟨g40, h⟩ := gd_some h
    obtain ⟨r43, σ41, e42, h⟩ := bd_some h
    refine ev_invVi (As := []) (st := []) dX10_count_97 cb_X7_length tp_322 tp_323 tp_324 kf7 rfl (by omega) g40 rfl rfl (Nat.le_of_ble_eq_true rfl) (x_X7_length e42) ?_
    exact ev_retI .int dX10_count_100 rfl rfl h
  rcases it_some h with ⟨c44, h⟩ | ⟨c44, h⟩
  · refine ev_tableIn (off := 100) (tgt := 101) dX10_count_1 6 (by rw [c44]; decide) (by decide) rfl rfl ?_
    refine ev_aload_nR 0 dX10_count_101 rfl ?_
    obtain ⟨g45, h⟩ := gd_some h
    obtain ⟨p46, e47, h⟩ := op_some h
    refine ev_getPR dX10_count_102 fl_X10_65 rfl g45 e47 ?_
    obtain ⟨g48, h⟩ := gd_some h
    obtain ⟨r51, σ49, e50, h⟩ := bd_some h
    refine ev_invVi (As := []) (st := []) dX10_count_105 cb_X8_length tp_843 tp_844 tp_845 kf8 rfl (by omega) g48 rfl rfl (Nat.le_of_ble_eq_true rfl) (x_X8_length e50) ?_
    exact ev_retI .int dX10_count_108 rfl rfl h
  rcases it_some h with ⟨c52, h⟩ | ⟨c52, h⟩
  · refine ev_tableIn (off := 108) (tgt := 109) dX10_count_1 7 (by rw [c52]; decide) (by decide) rfl rfl ?_
    refine ev_aload_nR 0 dX10_count_109 rfl ?_
    obtain ⟨g53, h⟩ := gd_some h
    obtain ⟨r56, σ54, e55, h⟩ := bd_some h
    refine ev_invVi (As := []) (st := []) dX10_count_110 cb_X10_savedPlaces tp_942 tp_944 tp_53 kf10 rfl (by omega) g53 rfl rfl (Nat.le_of_ble_eq_true rfl) (x_X10_savedPlaces e55) ?_
    exact ev_retI .int dX10_count_113 rfl rfl h
  have hx : a1.toInt < 0 ∨ 7 < a1.toInt := tab_out a1 0 7 (by decide) (fun k h1 h2 => by
      rcases (show k = 0 ∨ k = 1 ∨ k = 2 ∨ k = 3 ∨ k = 4 ∨ k = 5 ∨ k = 6 ∨ k = 7 by omega) with rfl | rfl | rfl | rfl | rfl | rfl | rfl | rfl
      · exact ne_toInt c1
      · exact ne_toInt c6
      · exact ne_toInt c14
      · exact ne_toInt c20
      · exact ne_toInt c28
      · exact ne_toInt c36
      · exact ne_toInt c44
      · exact ne_toInt c52)
  refine ev_tableOut (tgt := 114) dX10_count_1 hx rfl ?_
  refine ev_bipush (v := (-2)) dX10_count_114 (by decide) ?_
  exact ev_retI .int dX10_count_116 rfl rfl h
def sb_X11_init_210 (k210 : Nat → Int32 → St → Option (Unit × St)) (a0 : Nat) (a1 : Int32) (σ : St) : Option (Unit × St) :=
 if (10 : Int32) ≤ a1 then (some ((), σ)) else (if isO σ 11 a0 = true then (op (sP σ a0 1) fun p3 =>
 if isO σ 13 p3 = true then (if inR a1 (alen σ p3) = true then (lt (setI σ p3 a1.toNatClampNeg ((-6))) fun σ7 =>
 lt (a1 + 1 : Int32) fun v9 =>
 k210 a0 v9 σ7) else none) else none) else none)
def s_X11_init_210 (F : Nat) : Nat → Int32 → St → Option (Unit × St) := lp (fun _ _ _ => none) (sb_X11_init_210 ) F
set_option maxHeartbeats 4000000 in
set_option maxRecDepth 100000 in
theorem e_X11_init_210 {r : Unit} {σ' : St} (F : Nat) : ∀ {a0 : Nat} {a1 : Int32} {σ : St}, s_X11_init_210 F a0 a1 σ = some (r, σ') → Ev M_X11_init (1) 210 [(0, .ref a0), (1, .int (a1))] [] σ none σ' := by
  induction F with
  | zero => intro a0 a1 σ h; cases h
  | succ F ih =>
    intro a0 a1 σ h
    change sb_X11_init_210  (s_X11_init_210 F) a0 a1 σ = some (r, σ') at h
    unfold sb_X11_init_210 at h
    have hk210 := @ih
    refine ev_iload_n 1 dX11_init_210 rfl ?_
    refine ev_bipush (v := 10) dX11_init_211 (by decide) ?_
    rcases it_some h with ⟨c1, h⟩ | ⟨c1, h⟩
    · refine ev_icmp_ge (tgt := 230) dX11_init_213 rfl c1 ?_
      exact ev_retV dX11_init_230 rfl h
    · refine ev_icmp_ge_n 230 dX11_init_213 rfl c1 ?_
      refine ev_aload_nR 0 dX11_init_216 rfl ?_
      obtain ⟨g2, h⟩ := gd_some h
      obtain ⟨p3, e4, h⟩ := op_some h
      refine ev_getPR dX11_init_217 fl_X11_13 rfl g2 e4 ?_
      refine ev_iload_n 1 dX11_init_220 rfl ?_
      refine ev_bipush (v := (-6)) dX11_init_221 (by decide) ?_
      obtain ⟨g5, h⟩ := gd_some h
      obtain ⟨g6, h⟩ := gd_some h
      obtain ⟨σ7, e8, h⟩ := lt_some h
      refine ev_iast dX11_init_223 (isO_spec g5).1 (isA_O g5) g6 ?_
      refine ev_st e8 ?_
      obtain ⟨v9, e10, h⟩ := lt_some h
      refine ev_iinc (v := v9) (ls' := [(1, .int (v9)), (0, .ref a0)]) 1 dX11_init_224 rfl e10.symm (by decide) rfl ?_
      refine ev_goto (tgt := 210) dX11_init_227 rfl ?_
      refine ev_sub (ls' := [(0, .ref a0), (1, .int (v9))]) [1, 0] rfl ?_
      exact hk210 h
def s_X11_init (a0 : Nat) (σ : St) : Option (Unit × St) :=
 lt (sn σ) fun n11 => lt (newC σ 13 (660 : Int32).toNatClampNeg) fun σ13 =>
 if isO σ13 11 a0 = true then (lt (setP σ13 a0 0 (some n11)) fun σ16 =>
 lt (sn σ16) fun n18 => lt (newC σ16 13 (11 : Int32).toNatClampNeg) fun σ20 =>
 lt (setP σ20 a0 1 (some n18)) fun σ22 =>
 lt (setI σ22 a0 2 ((-6))) fun σ24 =>
 lt (sn σ24) fun n26 => lt (newC σ24 13 (60 : Int32).toNatClampNeg) fun σ28 =>
 lt (setP σ28 a0 3 (some n26)) fun σ30 =>
 lt (sn σ30) fun n32 => lt (newC σ30 13 (64 : Int32).toNatClampNeg) fun σ34 =>
 lt (setP σ34 a0 7 (some n32)) fun σ36 =>
 lt (sn σ36) fun n38 => lt (newC σ36 13 (64 : Int32).toNatClampNeg) fun σ40 =>
 lt (setP σ40 a0 8 (some n38)) fun σ42 =>
 lt (sn σ42) fun n44 => lt (newC σ42 13 (64 : Int32).toNatClampNeg) fun σ46 =>
 lt (setP σ46 a0 9 (some n44)) fun σ48 =>
 lt (sn σ48) fun n50 => lt (newC σ48 13 (12 : Int32).toNatClampNeg) fun σ52 =>
 lt (setP σ52 a0 11 (some n50)) fun σ54 =>
 lt (sn σ54) fun n56 => lt (newC σ54 13 (36 : Int32).toNatClampNeg) fun σ58 =>
 lt (setP σ58 a0 12 (some n56)) fun σ60 =>
 lt (sn σ60) fun n62 => lt (newC σ60 13 (36 : Int32).toNatClampNeg) fun σ64 =>
 lt (setP σ64 a0 13 (some n62)) fun σ66 =>
 lt (sn σ66) fun n68 => lt (newC σ66 13 (128 : Int32).toNatClampNeg) fun σ70 =>
 lt (setP σ70 a0 14 (some n68)) fun σ72 =>
 lt (sn σ72) fun n74 => lt (newC σ72 13 (128 : Int32).toNatClampNeg) fun σ76 =>
 lt (setP σ76 a0 15 (some n74)) fun σ78 =>
 lt (sn σ78) fun n80 => lt (newC σ78 13 (128 : Int32).toNatClampNeg) fun σ82 =>
 lt (setP σ82 a0 16 (some n80)) fun σ84 =>
 lt (sn σ84) fun n86 => lt (newC σ84 13 (128 : Int32).toNatClampNeg) fun σ88 =>
 lt (setP σ88 a0 17 (some n86)) fun σ90 =>
 lt (setI σ90 a0 21 1) fun σ92 =>
 lt (sn σ92) fun n94 => lt (newC σ92 13 (15360 : Int32).toNatClampNeg) fun σ96 =>
 lt (setP σ96 a0 22 (some n94)) fun σ98 =>
 lt (sn σ98) fun n100 => lt (newC σ98 14 (15360 : Int32).toNatClampNeg) fun σ102 =>
 lt (setP σ102 a0 23 (some n100)) fun σ104 =>
 lt (sn σ104) fun n106 => lt (newC σ104 14 (15360 : Int32).toNatClampNeg) fun σ108 =>
 lt (setP σ108 a0 24 (some n106)) fun σ110 =>
 lt (sn σ110) fun n112 => lt (newC σ110 13 (1024 : Int32).toNatClampNeg) fun σ114 =>
 lt (setP σ114 a0 25 (some n112)) fun σ116 =>
 lt (sn σ116) fun n118 => lt (newC σ116 13 (64 : Int32).toNatClampNeg) fun σ120 =>
 lt (setP σ120 a0 27 (some n118)) fun σ122 =>
 lt (sn σ122) fun n124 => lt (newC σ122 13 (64 : Int32).toNatClampNeg) fun σ126 =>
 lt (setP σ126 a0 28 (some n124)) fun σ128 =>
 lt (sn σ128) fun n130 => lt (newC σ128 13 (64 : Int32).toNatClampNeg) fun σ132 =>
 lt (setP σ132 a0 29 (some n130)) fun σ134 =>
 lt (sn σ134) fun n136 => lt (newC σ134 13 (1200 : Int32).toNatClampNeg) fun σ138 =>
 lt (setP σ138 a0 33 (some n136)) fun σ140 =>
 lt (sn σ140) fun n142 => lt (newC σ140 13 (20 : Int32).toNatClampNeg) fun σ144 =>
 lt (setP σ144 a0 34 (some n142)) fun σ146 =>
 lt (sn σ146) fun n148 => lt (newC σ146 15 (2 : Int32).toNatClampNeg) fun σ150 =>
 lt (setP σ150 a0 35 (some n148)) fun σ152 =>
 s_X11_init_210 16000 a0 0 σ152) else none
set_option maxHeartbeats 4000000 in
set_option maxRecDepth 100000 in
theorem x_X11_init {a0 : Nat} {σ : St} {r : Unit} {σ' : St} (h : s_X11_init a0 σ = some (r, σ')) : Ex M_X11_init (1) [.ref a0] σ none σ' := by
  unfold s_X11_init at h
  refine ex_of (by decide) rfl (Nat.le_of_ble_eq_true rfl) ?_
  show Ev _ _ 0 [(0, .ref a0)] [] _ _ _
  refine ev_aload_nR 0 dX11_init_0 rfl ?_
  refine ev_objinit dX11_init_1 tp_951 tp_113 tp_114 (by omega) (Nat.le_of_ble_eq_true rfl) ?_
  refine ev_aload_nR 0 dX11_init_4 rfl ?_
  refine ev_sipush (v := 660) dX11_init_5 (by decide) ?_
  obtain ⟨n11, e12, h⟩ := lt_some h
  obtain ⟨σ13, e14, h⟩ := lt_some h
  refine ev_newaR (k := 13) dX11_init_8 (by decide) tp_173 (by decide) e12 ?_
  refine ev_st e14 ?_
  obtain ⟨g15, h⟩ := gd_some h
  obtain ⟨σ16, e17, h⟩ := lt_some h
  refine ev_putPR dX11_init_10 fl_X11_7 rfl (Or.inr ⟨rfl, rfl⟩) g15 ?_
  refine ev_st e17 ?_
  refine ev_aload_nR 0 dX11_init_13 rfl ?_
  refine ev_bipush (v := 11) dX11_init_14 (by decide) ?_
  obtain ⟨n18, e19, h⟩ := lt_some h
  obtain ⟨σ20, e21, h⟩ := lt_some h
  refine ev_newaR (k := 13) dX11_init_16 (by decide) tp_173 (by decide) e19 ?_
  refine ev_st e21 ?_
  obtain ⟨σ22, e23, h⟩ := lt_some h
  refine ev_putPR dX11_init_18 fl_X11_13 rfl (Or.inr ⟨rfl, rfl⟩) (isO_N e21 (isO_P e17 g15)) ?_
  refine ev_st e23 ?_
  refine ev_aload_nR 0 dX11_init_21 rfl ?_
  refine ev_bipush (v := (-6)) dX11_init_22 (by decide) ?_
  obtain ⟨σ24, e25, h⟩ := lt_some h
  refine ev_putI dX11_init_24 fl_X11_16 rfl (Or.inl rfl) (isO_P e23 (isO_N e21 (isO_P e17 g15))) ⟨rfl, rfl⟩ ?_
  refine ev_st e25 ?_
  refine ev_aload_nR 0 dX11_init_27 rfl ?_
  refine ev_bipush (v := 60) dX11_init_28 (by decide) ?_
  obtain ⟨n26, e27, h⟩ := lt_some h
  obtain ⟨σ28, e29, h⟩ := lt_some h
  refine ev_newaR (k := 13) dX11_init_30 (by decide) tp_173 (by decide) e27 ?_
  refine ev_st e29 ?_
  obtain ⟨σ30, e31, h⟩ := lt_some h
  refine ev_putPR dX11_init_32 fl_X11_20 rfl (Or.inr ⟨rfl, rfl⟩) (isO_N e29 (isO_I e25 (isO_P e23 (isO_N e21 (isO_P e17 g15))))) ?_
  refine ev_st e31 ?_
  refine ev_aload_nR 0 dX11_init_35 rfl ?_
  refine ev_bipush (v := 64) dX11_init_36 (by decide) ?_
  obtain ⟨n32, e33, h⟩ := lt_some h
  obtain ⟨σ34, e35, h⟩ := lt_some h
  refine ev_newaR (k := 13) dX11_init_38 (by decide) tp_173 (by decide) e33 ?_
  refine ev_st e35 ?_
  obtain ⟨σ36, e37, h⟩ := lt_some h
  refine ev_putPR dX11_init_40 fl_X11_23 rfl (Or.inr ⟨rfl, rfl⟩) (isO_N e35 (isO_P e31 (isO_N e29 (isO_I e25 (isO_P e23 (isO_N e21 (isO_P e17 g15))))))) ?_
  refine ev_st e37 ?_
  refine ev_aload_nR 0 dX11_init_43 rfl ?_
  refine ev_bipush (v := 64) dX11_init_44 (by decide) ?_
  obtain ⟨n38, e39, h⟩ := lt_some h
  obtain ⟨σ40, e41, h⟩ := lt_some h
  refine ev_newaR (k := 13) dX11_init_46 (by decide) tp_173 (by decide) e39 ?_
  refine ev_st e41 ?_
  obtain ⟨σ42, e43, h⟩ := lt_some h
  refine ev_putPR dX11_init_48 fl_X11_26 rfl (Or.inr ⟨rfl, rfl⟩) (isO_N e41 (isO_P e37 (isO_N e35 (isO_P e31 (isO_N e29 (isO_I e25 (isO_P e23 (isO_N e21 (isO_P e17 g15))))))))) ?_
  refine ev_st e43 ?_
  refine ev_aload_nR 0 dX11_init_51 rfl ?_
  refine ev_bipush (v := 64) dX11_init_52 (by decide) ?_
  obtain ⟨n44, e45, h⟩ := lt_some h
  obtain ⟨σ46, e47, h⟩ := lt_some h
  refine ev_newaR (k := 13) dX11_init_54 (by decide) tp_173 (by decide) e45 ?_
  refine ev_st e47 ?_
  obtain ⟨σ48, e49, h⟩ := lt_some h
  refine ev_putPR dX11_init_56 fl_X11_29 rfl (Or.inr ⟨rfl, rfl⟩) (isO_N e47 (isO_P e43 (isO_N e41 (isO_P e37 (isO_N e35 (isO_P e31 (isO_N e29 (isO_I e25 (isO_P e23 (isO_N e21 (isO_P e17 g15))))))))))) ?_
  refine ev_st e49 ?_
  refine ev_aload_nR 0 dX11_init_59 rfl ?_
  refine ev_bipush (v := 12) dX11_init_60 (by decide) ?_
  obtain ⟨n50, e51, h⟩ := lt_some h
  obtain ⟨σ52, e53, h⟩ := lt_some h
  refine ev_newaR (k := 13) dX11_init_62 (by decide) tp_173 (by decide) e51 ?_
  refine ev_st e53 ?_
  obtain ⟨σ54, e55, h⟩ := lt_some h
  refine ev_putPR dX11_init_64 fl_X11_32 rfl (Or.inr ⟨rfl, rfl⟩) (isO_N e53 (isO_P e49 (isO_N e47 (isO_P e43 (isO_N e41 (isO_P e37 (isO_N e35 (isO_P e31 (isO_N e29 (isO_I e25 (isO_P e23 (isO_N e21 (isO_P e17 g15))))))))))))) ?_
  refine ev_st e55 ?_
  refine ev_aload_nR 0 dX11_init_67 rfl ?_
  refine ev_bipush (v := 36) dX11_init_68 (by decide) ?_
  obtain ⟨n56, e57, h⟩ := lt_some h
  obtain ⟨σ58, e59, h⟩ := lt_some h
  refine ev_newaR (k := 13) dX11_init_70 (by decide) tp_173 (by decide) e57 ?_
  refine ev_st e59 ?_
  obtain ⟨σ60, e61, h⟩ := lt_some h
  refine ev_putPR dX11_init_72 fl_X11_35 rfl (Or.inr ⟨rfl, rfl⟩) (isO_N e59 (isO_P e55 (isO_N e53 (isO_P e49 (isO_N e47 (isO_P e43 (isO_N e41 (isO_P e37 (isO_N e35 (isO_P e31 (isO_N e29 (isO_I e25 (isO_P e23 (isO_N e21 (isO_P e17 g15))))))))))))))) ?_
  refine ev_st e61 ?_
  refine ev_aload_nR 0 dX11_init_75 rfl ?_
  refine ev_bipush (v := 36) dX11_init_76 (by decide) ?_
  obtain ⟨n62, e63, h⟩ := lt_some h
  obtain ⟨σ64, e65, h⟩ := lt_some h
  refine ev_newaR (k := 13) dX11_init_78 (by decide) tp_173 (by decide) e63 ?_
  refine ev_st e65 ?_
  obtain ⟨σ66, e67, h⟩ := lt_some h
  refine ev_putPR dX11_init_80 fl_X11_38 rfl (Or.inr ⟨rfl, rfl⟩) (isO_N e65 (isO_P e61 (isO_N e59 (isO_P e55 (isO_N e53 (isO_P e49 (isO_N e47 (isO_P e43 (isO_N e41 (isO_P e37 (isO_N e35 (isO_P e31 (isO_N e29 (isO_I e25 (isO_P e23 (isO_N e21 (isO_P e17 g15))))))))))))))))) ?_
  refine ev_st e67 ?_
  refine ev_aload_nR 0 dX11_init_83 rfl ?_
  refine ev_sipush (v := 128) dX11_init_84 (by decide) ?_
  obtain ⟨n68, e69, h⟩ := lt_some h
  obtain ⟨σ70, e71, h⟩ := lt_some h
  refine ev_newaR (k := 13) dX11_init_87 (by decide) tp_173 (by decide) e69 ?_
  refine ev_st e71 ?_
  obtain ⟨σ72, e73, h⟩ := lt_some h
  refine ev_putPR dX11_init_89 fl_X11_41 rfl (Or.inr ⟨rfl, rfl⟩) (isO_N e71 (isO_P e67 (isO_N e65 (isO_P e61 (isO_N e59 (isO_P e55 (isO_N e53 (isO_P e49 (isO_N e47 (isO_P e43 (isO_N e41 (isO_P e37 (isO_N e35 (isO_P e31 (isO_N e29 (isO_I e25 (isO_P e23 (isO_N e21 (isO_P e17 g15))))))))))))))))))) ?_
  refine ev_st e73 ?_
  refine ev_aload_nR 0 dX11_init_92 rfl ?_
  refine ev_sipush (v := 128) dX11_init_93 (by decide) ?_
  obtain ⟨n74, e75, h⟩ := lt_some h
  obtain ⟨σ76, e77, h⟩ := lt_some h
  refine ev_newaR (k := 13) dX11_init_96 (by decide) tp_173 (by decide) e75 ?_
  refine ev_st e77 ?_
  obtain ⟨σ78, e79, h⟩ := lt_some h
  refine ev_putPR dX11_init_98 fl_X11_44 rfl (Or.inr ⟨rfl, rfl⟩) (isO_N e77 (isO_P e73 (isO_N e71 (isO_P e67 (isO_N e65 (isO_P e61 (isO_N e59 (isO_P e55 (isO_N e53 (isO_P e49 (isO_N e47 (isO_P e43 (isO_N e41 (isO_P e37 (isO_N e35 (isO_P e31 (isO_N e29 (isO_I e25 (isO_P e23 (isO_N e21 (isO_P e17 g15))))))))))))))))))))) ?_
  refine ev_st e79 ?_
  refine ev_aload_nR 0 dX11_init_101 rfl ?_
  refine ev_sipush (v := 128) dX11_init_102 (by decide) ?_
  obtain ⟨n80, e81, h⟩ := lt_some h
  obtain ⟨σ82, e83, h⟩ := lt_some h
  refine ev_newaR (k := 13) dX11_init_105 (by decide) tp_173 (by decide) e81 ?_
  refine ev_st e83 ?_
  obtain ⟨σ84, e85, h⟩ := lt_some h
  refine ev_putPR dX11_init_107 fl_X11_47 rfl (Or.inr ⟨rfl, rfl⟩) (isO_N e83 (isO_P e79 (isO_N e77 (isO_P e73 (isO_N e71 (isO_P e67 (isO_N e65 (isO_P e61 (isO_N e59 (isO_P e55 (isO_N e53 (isO_P e49 (isO_N e47 (isO_P e43 (isO_N e41 (isO_P e37 (isO_N e35 (isO_P e31 (isO_N e29 (isO_I e25 (isO_P e23 (isO_N e21 (isO_P e17 g15))))))))))))))))))))))) ?_
  refine ev_st e85 ?_
  refine ev_aload_nR 0 dX11_init_110 rfl ?_
  refine ev_sipush (v := 128) dX11_init_111 (by decide) ?_
  obtain ⟨n86, e87, h⟩ := lt_some h
  obtain ⟨σ88, e89, h⟩ := lt_some h
  refine ev_newaR (k := 13) dX11_init_114 (by decide) tp_173 (by decide) e87 ?_
  refine ev_st e89 ?_
  obtain ⟨σ90, e91, h⟩ := lt_some h
  refine ev_putPR dX11_init_116 fl_X11_50 rfl (Or.inr ⟨rfl, rfl⟩) (isO_N e89 (isO_P e85 (isO_N e83 (isO_P e79 (isO_N e77 (isO_P e73 (isO_N e71 (isO_P e67 (isO_N e65 (isO_P e61 (isO_N e59 (isO_P e55 (isO_N e53 (isO_P e49 (isO_N e47 (isO_P e43 (isO_N e41 (isO_P e37 (isO_N e35 (isO_P e31 (isO_N e29 (isO_I e25 (isO_P e23 (isO_N e21 (isO_P e17 g15))))))))))))))))))))))))) ?_
  refine ev_st e91 ?_
  refine ev_aload_nR 0 dX11_init_119 rfl ?_
  refine ev_iconst (v := 1) dX11_init_120 (by decide) ?_
  obtain ⟨σ92, e93, h⟩ := lt_some h
  refine ev_putI dX11_init_121 fl_X11_53 rfl (Or.inl rfl) (isO_P e91 (isO_N e89 (isO_P e85 (isO_N e83 (isO_P e79 (isO_N e77 (isO_P e73 (isO_N e71 (isO_P e67 (isO_N e65 (isO_P e61 (isO_N e59 (isO_P e55 (isO_N e53 (isO_P e49 (isO_N e47 (isO_P e43 (isO_N e41 (isO_P e37 (isO_N e35 (isO_P e31 (isO_N e29 (isO_I e25 (isO_P e23 (isO_N e21 (isO_P e17 g15)))))))))))))))))))))))))) ⟨rfl, rfl⟩ ?_
  refine ev_st e93 ?_
  refine ev_aload_nR 0 dX11_init_124 rfl ?_
  refine ev_sipush (v := 15360) dX11_init_125 (by decide) ?_
  obtain ⟨n94, e95, h⟩ := lt_some h
  obtain ⟨σ96, e97, h⟩ := lt_some h
  refine ev_newaR (k := 13) dX11_init_128 (by decide) tp_173 (by decide) e95 ?_
  refine ev_st e97 ?_
  obtain ⟨σ98, e99, h⟩ := lt_some h
  refine ev_putPR dX11_init_130 fl_X11_57 rfl (Or.inr ⟨rfl, rfl⟩) (isO_N e97 (isO_I e93 (isO_P e91 (isO_N e89 (isO_P e85 (isO_N e83 (isO_P e79 (isO_N e77 (isO_P e73 (isO_N e71 (isO_P e67 (isO_N e65 (isO_P e61 (isO_N e59 (isO_P e55 (isO_N e53 (isO_P e49 (isO_N e47 (isO_P e43 (isO_N e41 (isO_P e37 (isO_N e35 (isO_P e31 (isO_N e29 (isO_I e25 (isO_P e23 (isO_N e21 (isO_P e17 g15)))))))))))))))))))))))))))) ?_
  refine ev_st e99 ?_
  refine ev_aload_nR 0 dX11_init_133 rfl ?_
  refine ev_sipush (v := 15360) dX11_init_134 (by decide) ?_
  obtain ⟨n100, e101, h⟩ := lt_some h
  obtain ⟨σ102, e103, h⟩ := lt_some h
  refine ev_newaR (k := 14) dX11_init_137 (by decide) tp_196 (by decide) e101 ?_
  refine ev_st e103 ?_
  obtain ⟨σ104, e105, h⟩ := lt_some h
  refine ev_putPR dX11_init_139 fl_X11_60 rfl (Or.inr ⟨rfl, rfl⟩) (isO_N e103 (isO_P e99 (isO_N e97 (isO_I e93 (isO_P e91 (isO_N e89 (isO_P e85 (isO_N e83 (isO_P e79 (isO_N e77 (isO_P e73 (isO_N e71 (isO_P e67 (isO_N e65 (isO_P e61 (isO_N e59 (isO_P e55 (isO_N e53 (isO_P e49 (isO_N e47 (isO_P e43 (isO_N e41 (isO_P e37 (isO_N e35 (isO_P e31 (isO_N e29 (isO_I e25 (isO_P e23 (isO_N e21 (isO_P e17 g15)))))))))))))))))))))))))))))) ?_
  refine ev_st e105 ?_
  refine ev_aload_nR 0 dX11_init_142 rfl ?_
  refine ev_sipush (v := 15360) dX11_init_143 (by decide) ?_
  obtain ⟨n106, e107, h⟩ := lt_some h
  obtain ⟨σ108, e109, h⟩ := lt_some h
  refine ev_newaR (k := 14) dX11_init_146 (by decide) tp_196 (by decide) e107 ?_
  refine ev_st e109 ?_
  obtain ⟨σ110, e111, h⟩ := lt_some h
  refine ev_putPR dX11_init_148 fl_X11_64 rfl (Or.inr ⟨rfl, rfl⟩) (isO_N e109 (isO_P e105 (isO_N e103 (isO_P e99 (isO_N e97 (isO_I e93 (isO_P e91 (isO_N e89 (isO_P e85 (isO_N e83 (isO_P e79 (isO_N e77 (isO_P e73 (isO_N e71 (isO_P e67 (isO_N e65 (isO_P e61 (isO_N e59 (isO_P e55 (isO_N e53 (isO_P e49 (isO_N e47 (isO_P e43 (isO_N e41 (isO_P e37 (isO_N e35 (isO_P e31 (isO_N e29 (isO_I e25 (isO_P e23 (isO_N e21 (isO_P e17 g15)))))))))))))))))))))))))))))))) ?_
  refine ev_st e111 ?_
  refine ev_aload_nR 0 dX11_init_151 rfl ?_
  refine ev_sipush (v := 1024) dX11_init_152 (by decide) ?_
  obtain ⟨n112, e113, h⟩ := lt_some h
  obtain ⟨σ114, e115, h⟩ := lt_some h
  refine ev_newaR (k := 13) dX11_init_155 (by decide) tp_173 (by decide) e113 ?_
  refine ev_st e115 ?_
  obtain ⟨σ116, e117, h⟩ := lt_some h
  refine ev_putPR dX11_init_157 fl_X11_67 rfl (Or.inr ⟨rfl, rfl⟩) (isO_N e115 (isO_P e111 (isO_N e109 (isO_P e105 (isO_N e103 (isO_P e99 (isO_N e97 (isO_I e93 (isO_P e91 (isO_N e89 (isO_P e85 (isO_N e83 (isO_P e79 (isO_N e77 (isO_P e73 (isO_N e71 (isO_P e67 (isO_N e65 (isO_P e61 (isO_N e59 (isO_P e55 (isO_N e53 (isO_P e49 (isO_N e47 (isO_P e43 (isO_N e41 (isO_P e37 (isO_N e35 (isO_P e31 (isO_N e29 (isO_I e25 (isO_P e23 (isO_N e21 (isO_P e17 g15)))))))))))))))))))))))))))))))))) ?_
  refine ev_st e117 ?_
  refine ev_aload_nR 0 dX11_init_160 rfl ?_
  refine ev_bipush (v := 64) dX11_init_161 (by decide) ?_
  obtain ⟨n118, e119, h⟩ := lt_some h
  obtain ⟨σ120, e121, h⟩ := lt_some h
  refine ev_newaR (k := 13) dX11_init_163 (by decide) tp_173 (by decide) e119 ?_
  refine ev_st e121 ?_
  obtain ⟨σ122, e123, h⟩ := lt_some h
  refine ev_putPR dX11_init_165 fl_X11_70 rfl (Or.inr ⟨rfl, rfl⟩) (isO_N e121 (isO_P e117 (isO_N e115 (isO_P e111 (isO_N e109 (isO_P e105 (isO_N e103 (isO_P e99 (isO_N e97 (isO_I e93 (isO_P e91 (isO_N e89 (isO_P e85 (isO_N e83 (isO_P e79 (isO_N e77 (isO_P e73 (isO_N e71 (isO_P e67 (isO_N e65 (isO_P e61 (isO_N e59 (isO_P e55 (isO_N e53 (isO_P e49 (isO_N e47 (isO_P e43 (isO_N e41 (isO_P e37 (isO_N e35 (isO_P e31 (isO_N e29 (isO_I e25 (isO_P e23 (isO_N e21 (isO_P e17 g15)))))))))))))))))))))))))))))))))))) ?_
  refine ev_st e123 ?_
  refine ev_aload_nR 0 dX11_init_168 rfl ?_
  refine ev_bipush (v := 64) dX11_init_169 (by decide) ?_
  obtain ⟨n124, e125, h⟩ := lt_some h
  obtain ⟨σ126, e127, h⟩ := lt_some h
  refine ev_newaR (k := 13) dX11_init_171 (by decide) tp_173 (by decide) e125 ?_
  refine ev_st e127 ?_
  obtain ⟨σ128, e129, h⟩ := lt_some h
  refine ev_putPR dX11_init_173 fl_X11_73 rfl (Or.inr ⟨rfl, rfl⟩) (isO_N e127 (isO_P e123 (isO_N e121 (isO_P e117 (isO_N e115 (isO_P e111 (isO_N e109 (isO_P e105 (isO_N e103 (isO_P e99 (isO_N e97 (isO_I e93 (isO_P e91 (isO_N e89 (isO_P e85 (isO_N e83 (isO_P e79 (isO_N e77 (isO_P e73 (isO_N e71 (isO_P e67 (isO_N e65 (isO_P e61 (isO_N e59 (isO_P e55 (isO_N e53 (isO_P e49 (isO_N e47 (isO_P e43 (isO_N e41 (isO_P e37 (isO_N e35 (isO_P e31 (isO_N e29 (isO_I e25 (isO_P e23 (isO_N e21 (isO_P e17 g15)))))))))))))))))))))))))))))))))))))) ?_
  refine ev_st e129 ?_
  refine ev_aload_nR 0 dX11_init_176 rfl ?_
  refine ev_bipush (v := 64) dX11_init_177 (by decide) ?_
  obtain ⟨n130, e131, h⟩ := lt_some h
  obtain ⟨σ132, e133, h⟩ := lt_some h
  refine ev_newaR (k := 13) dX11_init_179 (by decide) tp_173 (by decide) e131 ?_
  refine ev_st e133 ?_
  obtain ⟨σ134, e135, h⟩ := lt_some h
  refine ev_putPR dX11_init_181 fl_X11_76 rfl (Or.inr ⟨rfl, rfl⟩) (isO_N e133 (isO_P e129 (isO_N e127 (isO_P e123 (isO_N e121 (isO_P e117 (isO_N e115 (isO_P e111 (isO_N e109 (isO_P e105 (isO_N e103 (isO_P e99 (isO_N e97 (isO_I e93 (isO_P e91 (isO_N e89 (isO_P e85 (isO_N e83 (isO_P e79 (isO_N e77 (isO_P e73 (isO_N e71 (isO_P e67 (isO_N e65 (isO_P e61 (isO_N e59 (isO_P e55 (isO_N e53 (isO_P e49 (isO_N e47 (isO_P e43 (isO_N e41 (isO_P e37 (isO_N e35 (isO_P e31 (isO_N e29 (isO_I e25 (isO_P e23 (isO_N e21 (isO_P e17 g15)))))))))))))))))))))))))))))))))))))))) ?_
  refine ev_st e135 ?_
  refine ev_aload_nR 0 dX11_init_184 rfl ?_
  refine ev_sipush (v := 1200) dX11_init_185 (by decide) ?_
  obtain ⟨n136, e137, h⟩ := lt_some h
  obtain ⟨σ138, e139, h⟩ := lt_some h
  refine ev_newaR (k := 13) dX11_init_188 (by decide) tp_173 (by decide) e137 ?_
  refine ev_st e139 ?_
  obtain ⟨σ140, e141, h⟩ := lt_some h
  refine ev_putPR dX11_init_190 fl_X11_79 rfl (Or.inr ⟨rfl, rfl⟩) (isO_N e139 (isO_P e135 (isO_N e133 (isO_P e129 (isO_N e127 (isO_P e123 (isO_N e121 (isO_P e117 (isO_N e115 (isO_P e111 (isO_N e109 (isO_P e105 (isO_N e103 (isO_P e99 (isO_N e97 (isO_I e93 (isO_P e91 (isO_N e89 (isO_P e85 (isO_N e83 (isO_P e79 (isO_N e77 (isO_P e73 (isO_N e71 (isO_P e67 (isO_N e65 (isO_P e61 (isO_N e59 (isO_P e55 (isO_N e53 (isO_P e49 (isO_N e47 (isO_P e43 (isO_N e41 (isO_P e37 (isO_N e35 (isO_P e31 (isO_N e29 (isO_I e25 (isO_P e23 (isO_N e21 (isO_P e17 g15)))))))))))))))))))))))))))))))))))))))))) ?_
  refine ev_st e141 ?_
  refine ev_aload_nR 0 dX11_init_193 rfl ?_
  refine ev_bipush (v := 20) dX11_init_194 (by decide) ?_
  obtain ⟨n142, e143, h⟩ := lt_some h
  obtain ⟨σ144, e145, h⟩ := lt_some h
  refine ev_newaR (k := 13) dX11_init_196 (by decide) tp_173 (by decide) e143 ?_
  refine ev_st e145 ?_
  obtain ⟨σ146, e147, h⟩ := lt_some h
  refine ev_putPR dX11_init_198 fl_X11_82 rfl (Or.inr ⟨rfl, rfl⟩) (isO_N e145 (isO_P e141 (isO_N e139 (isO_P e135 (isO_N e133 (isO_P e129 (isO_N e127 (isO_P e123 (isO_N e121 (isO_P e117 (isO_N e115 (isO_P e111 (isO_N e109 (isO_P e105 (isO_N e103 (isO_P e99 (isO_N e97 (isO_I e93 (isO_P e91 (isO_N e89 (isO_P e85 (isO_N e83 (isO_P e79 (isO_N e77 (isO_P e73 (isO_N e71 (isO_P e67 (isO_N e65 (isO_P e61 (isO_N e59 (isO_P e55 (isO_N e53 (isO_P e49 (isO_N e47 (isO_P e43 (isO_N e41 (isO_P e37 (isO_N e35 (isO_P e31 (isO_N e29 (isO_I e25 (isO_P e23 (isO_N e21 (isO_P e17 g15)))))))))))))))))))))))))))))))))))))))))))) ?_
  refine ev_st e147 ?_
  refine ev_aload_nR 0 dX11_init_201 rfl ?_
  refine ev_iconst (v := 2) dX11_init_202 (by decide) ?_
  obtain ⟨n148, e149, h⟩ := lt_some h
  obtain ⟨σ150, e151, h⟩ := lt_some h
  refine ev_newaR (k := 15) dX11_init_203 (by decide) tp_1061 (by decide) e149 ?_
  refine ev_st e151 ?_
  obtain ⟨σ152, e153, h⟩ := lt_some h
  refine ev_putPR dX11_init_205 fl_X11_85 rfl (Or.inr ⟨rfl, rfl⟩) (isO_N e151 (isO_P e147 (isO_N e145 (isO_P e141 (isO_N e139 (isO_P e135 (isO_N e133 (isO_P e129 (isO_N e127 (isO_P e123 (isO_N e121 (isO_P e117 (isO_N e115 (isO_P e111 (isO_N e109 (isO_P e105 (isO_N e103 (isO_P e99 (isO_N e97 (isO_I e93 (isO_P e91 (isO_N e89 (isO_P e85 (isO_N e83 (isO_P e79 (isO_N e77 (isO_P e73 (isO_N e71 (isO_P e67 (isO_N e65 (isO_P e61 (isO_N e59 (isO_P e55 (isO_N e53 (isO_P e49 (isO_N e47 (isO_P e43 (isO_N e41 (isO_P e37 (isO_N e35 (isO_P e31 (isO_N e29 (isO_I e25 (isO_P e23 (isO_N e21 (isO_P e17 g15)))))))))))))))))))))))))))))))))))))))))))))) ?_
  refine ev_st e153 ?_
  refine ev_iconst (v := 0) dX11_init_208 (by decide) ?_
  refine ev_istore_n (ls' := [(1, .int (0)), (0, .ref a0)]) dX11_init_209 (by decide) rfl ?_
  refine ev_sub (ls' := [(0, .ref a0), (1, .int (0))]) [1, 0] rfl ?_
  exact e_X11_init_210 16000 h
def s_X11_in (a0 : Int32) (a1 : Int32) (a2 : Int32) (σ : St) : Option (Int32 × St) :=
 if a0 < a1 then (some (0, σ)) else (if a2 < a0 then (some (0, σ)) else (some (1, σ)))
set_option maxHeartbeats 4000000 in
set_option maxRecDepth 100000 in
theorem x_X11_in {a0 : Int32} {a1 : Int32} {a2 : Int32} {σ : St} {r : Int32} {σ' : St} (h : s_X11_in a0 a1 a2 σ = some (r, σ')) : Ex M_X11_in (1) [.int (a0), .int (a1), .int (a2)] σ (some (.int r)) σ' := by
  unfold s_X11_in at h
  refine ex_of (by decide) rfl (Nat.le_of_ble_eq_true rfl) ?_
  show Ev _ _ 0 [(0, .int (a0)), (1, .int (a1)), (2, .int (a2))] [] _ _ _
  refine ev_iload_n 0 dX11_in_0 rfl ?_
  refine ev_iload_n 1 dX11_in_1 rfl ?_
  rcases it_some h with ⟨c1, h⟩ | ⟨c1, h⟩
  · refine ev_icmp_lt (tgt := 14) dX11_in_2 rfl c1 ?_
    refine ev_iconst (v := 0) dX11_in_14 (by decide) ?_
    exact ev_retI .boolean dX11_in_15 rfl rfl h
  · refine ev_icmp_lt_n 14 dX11_in_2 rfl c1 ?_
    refine ev_iload_n 0 dX11_in_5 rfl ?_
    refine ev_iload_n 2 dX11_in_6 rfl ?_
    rcases it_some h with ⟨c2, h⟩ | ⟨c2, h⟩
    · refine ev_icmp_gt (tgt := 14) dX11_in_7 rfl c2 ?_
      refine ev_iconst (v := 0) dX11_in_14 (by decide) ?_
      exact ev_retI .boolean dX11_in_15 rfl rfl h
    · refine ev_icmp_gt_n 14 dX11_in_7 rfl c2 ?_
      refine ev_iconst (v := 1) dX11_in_10 (by decide) ?_
      refine ev_goto (tgt := 15) dX11_in_11 rfl ?_
      exact ev_retI .boolean dX11_in_15 rfl rfl h
def s_X11_has (a0 : Int32) (a1 : Int32) (σ : St) : Option (Int32 × St) :=
 if ((a0 >>> (a1 &&& 31)) &&& 1) = 1 then (some (1, σ)) else (some (0, σ))
set_option maxHeartbeats 4000000 in
set_option maxRecDepth 100000 in
theorem x_X11_has {a0 : Int32} {a1 : Int32} {σ : St} {r : Int32} {σ' : St} (h : s_X11_has a0 a1 σ = some (r, σ')) : Ex M_X11_has (1) [.int (a0), .int (a1)] σ (some (.int r)) σ' := by
  unfold s_X11_has at h
  refine ex_of (by decide) rfl (Nat.le_of_ble_eq_true rfl) ?_
  show Ev _ _ 0 [(0, .int (a0)), (1, .int (a1))] [] _ _ _
  refine ev_iload_n 0 dX11_has_0 rfl ?_
  refine ev_iload_n 1 dX11_has_1 rfl ?_
  refine ev_ishr dX11_has_2 ?_
  refine ev_iconst (v := 1) dX11_has_3 (by decide) ?_
  refine ev_iand dX11_has_4 ?_
  refine ev_iconst (v := 1) dX11_has_5 (by decide) ?_
  rcases it_some h with ⟨c1, h⟩ | ⟨c1, h⟩
  · refine ev_icmp_ne_n 13 dX11_has_6 rfl c1 ?_
    refine ev_iconst (v := 1) dX11_has_9 (by decide) ?_
    refine ev_goto (tgt := 14) dX11_has_10 rfl ?_
    exact ev_retI .boolean dX11_has_14 rfl rfl h
  · refine ev_icmp_ne (tgt := 13) dX11_has_6 rfl c1 ?_
    refine ev_iconst (v := 0) dX11_has_13 (by decide) ?_
    exact ev_retI .boolean dX11_has_14 rfl rfl h
def s_X11_push (a0 : Nat) (a1 : Int32) (a2 : Int32) (a3 : Int32) (σ : St) : Option (Unit × St) :=
 if isO σ 11 a0 = true then (op (sP σ a0 14) fun p2 =>
 if isO σ 13 p2 = true then (if inR (sI σ a0 18) (alen σ p2) = true then (lt (setI σ p2 ((sI σ a0 18).toNatClampNeg) a1) fun σ6 =>
 op (sP σ6 a0 15) fun p8 =>
 if isO σ6 13 p8 = true then (if inR (sI σ6 a0 18) (alen σ6 p8) = true then (lt (setI σ6 p8 ((sI σ6 a0 18).toNatClampNeg) a2) fun σ12 =>
 op (sP σ12 a0 16) fun p14 =>
 if isO σ12 13 p14 = true then (if inR (sI σ12 a0 18) (alen σ12 p14) = true then (lt (setI σ12 p14 ((sI σ12 a0 18).toNatClampNeg) a3) fun σ18 =>
 op (sP σ18 a0 17) fun p20 =>
 if isO σ18 13 p20 = true then (if inR (sI σ18 a0 18) (alen σ18 p20) = true then (lt (setI σ18 p20 ((sI σ18 a0 18).toNatClampNeg) 0) fun σ24 =>
 lt (setI σ24 a0 18 ((sI σ24 a0 18) + 1)) fun σ26 =>
 some ((), σ26)) else none) else none) else none) else none) else none) else none) else none) else none) else none
set_option maxHeartbeats 4000000 in
set_option maxRecDepth 100000 in
theorem x_X11_push {a0 : Nat} {a1 : Int32} {a2 : Int32} {a3 : Int32} {σ : St} {r : Unit} {σ' : St} (h : s_X11_push a0 a1 a2 a3 σ = some (r, σ')) : Ex M_X11_push (1) [.ref a0, .int (a1), .int (a2), .int (a3)] σ none σ' := by
  unfold s_X11_push at h
  refine ex_of (by decide) rfl (Nat.le_of_ble_eq_true rfl) ?_
  show Ev _ _ 0 [(0, .ref a0), (1, .int (a1)), (2, .int (a2)), (3, .int (a3))] [] _ _ _
  refine ev_aload_nR 0 dX11_push_0 rfl ?_
  obtain ⟨g1, h⟩ := gd_some h
  obtain ⟨p2, e3, h⟩ := op_some h
  refine ev_getPR dX11_push_1 fl_X11_41 rfl g1 e3 ?_
  refine ev_aload_nR 0 dX11_push_4 rfl ?_
  refine ev_getI dX11_push_5 fl_X11_89 rfl g1 ?_
  refine ev_iload_n 1 dX11_push_8 rfl ?_
  obtain ⟨g4, h⟩ := gd_some h
  obtain ⟨g5, h⟩ := gd_some h
  obtain ⟨σ6, e7, h⟩ := lt_some h
  refine ev_iast dX11_push_9 (isO_spec g4).1 (isA_O g4) g5 ?_
  refine ev_st e7 ?_
  refine ev_aload_nR 0 dX11_push_10 rfl ?_
  obtain ⟨p8, e9, h⟩ := op_some h
  refine ev_getPR dX11_push_11 fl_X11_44 rfl (isO_I e7 g1) e9 ?_
  refine ev_aload_nR 0 dX11_push_14 rfl ?_
  refine ev_getI dX11_push_15 fl_X11_89 rfl (isO_I e7 g1) ?_
  refine ev_iload_n 2 dX11_push_18 rfl ?_
  obtain ⟨g10, h⟩ := gd_some h
  obtain ⟨g11, h⟩ := gd_some h
  obtain ⟨σ12, e13, h⟩ := lt_some h
  refine ev_iast dX11_push_19 (isO_spec g10).1 (isA_O g10) g11 ?_
  refine ev_st e13 ?_
  refine ev_aload_nR 0 dX11_push_20 rfl ?_
  obtain ⟨p14, e15, h⟩ := op_some h
  refine ev_getPR dX11_push_21 fl_X11_47 rfl (isO_I e13 (isO_I e7 g1)) e15 ?_
  refine ev_aload_nR 0 dX11_push_24 rfl ?_
  refine ev_getI dX11_push_25 fl_X11_89 rfl (isO_I e13 (isO_I e7 g1)) ?_
  refine ev_iload_n 3 dX11_push_28 rfl ?_
  obtain ⟨g16, h⟩ := gd_some h
  obtain ⟨g17, h⟩ := gd_some h
  obtain ⟨σ18, e19, h⟩ := lt_some h
  refine ev_iast dX11_push_29 (isO_spec g16).1 (isA_O g16) g17 ?_
  refine ev_st e19 ?_
  refine ev_aload_nR 0 dX11_push_30 rfl ?_
  obtain ⟨p20, e21, h⟩ := op_some h
  refine ev_getPR dX11_push_31 fl_X11_50 rfl (isO_I e19 (isO_I e13 (isO_I e7 g1))) e21 ?_
  refine ev_aload_nR 0 dX11_push_34 rfl ?_
  refine ev_getI dX11_push_35 fl_X11_89 rfl (isO_I e19 (isO_I e13 (isO_I e7 g1))) ?_
  refine ev_iconst (v := 0) dX11_push_38 (by decide) ?_
  obtain ⟨g22, h⟩ := gd_some h
  obtain ⟨g23, h⟩ := gd_some h
  obtain ⟨σ24, e25, h⟩ := lt_some h
  refine ev_iast dX11_push_39 (isO_spec g22).1 (isA_O g22) g23 ?_
  refine ev_st e25 ?_
  refine ev_aload_nR 0 dX11_push_40 rfl ?_
  refine ev_dup dX11_push_41 rfl ?_
  refine ev_getI dX11_push_42 fl_X11_89 rfl (isO_I e25 (isO_I e19 (isO_I e13 (isO_I e7 g1)))) ?_
  refine ev_iconst (v := 1) dX11_push_45 (by decide) ?_
  refine ev_iadd dX11_push_46 ?_
  obtain ⟨σ26, e27, h⟩ := lt_some h
  refine ev_putI dX11_push_47 fl_X11_89 rfl (Or.inl rfl) (isO_I e25 (isO_I e19 (isO_I e13 (isO_I e7 g1)))) ⟨rfl, rfl⟩ ?_
  refine ev_st e27 ?_
  exact ev_retV dX11_push_50 rfl h
def s_X11_begin_146 (a0 : Nat) (a3 : Int32) (a4 : Int32) (σ : St) : Option (Int32 × St) :=
 if isO σ 11 a0 = true then (op (sP σ a0 8) fun p2 =>
 op (sP σ a0 15) fun p4 =>
 if isO σ 13 p4 = true then (if inR a4 (alen σ p4) = true then (if isO σ 13 p2 = true then (if inR (sI σ p4 a4.toNatClampNeg) (alen σ p2) = true then (lt (setI σ p2 ((sI σ p4 a4.toNatClampNeg).toNatClampNeg) a3) fun σ10 =>
 some (a3, σ10)) else none) else none) else none) else none) else none
set_option maxHeartbeats 4000000 in
set_option maxRecDepth 100000 in
theorem e_X11_begin_146 {r : Int32} {σ' : St} : ∀ {a0 : Nat} {a3 : Int32} {a4 : Int32} {σ : St}, s_X11_begin_146 a0 a3 a4 σ = some (r, σ') → Ev M_X11_begin (1) 146 [(0, .ref a0), (3, .int (a3)), (4, .int (a4))] [] σ (some (.int r)) σ' := by
  intro a0 a3 a4 σ h
  unfold s_X11_begin_146 at h
  refine ev_aload_nR 0 dX11_begin_146 rfl ?_
  obtain ⟨g1, h⟩ := gd_some h
  obtain ⟨p2, e3, h⟩ := op_some h
  refine ev_getPR dX11_begin_147 fl_X11_26 rfl g1 e3 ?_
  refine ev_aload_nR 0 dX11_begin_150 rfl ?_
  obtain ⟨p4, e5, h⟩ := op_some h
  refine ev_getPR dX11_begin_151 fl_X11_44 rfl g1 e5 ?_
  refine ev_iload 2 dX11_begin_154 rfl ?_
  obtain ⟨g6, h⟩ := gd_some h
  obtain ⟨g7, h⟩ := gd_some h
  refine ev_iald dX11_begin_156 (isA_O g6) g7 ?_
  refine ev_iload_n 1 dX11_begin_157 rfl ?_
  obtain ⟨g8, h⟩ := gd_some h
  obtain ⟨g9, h⟩ := gd_some h
  obtain ⟨σ10, e11, h⟩ := lt_some h
  refine ev_iast dX11_begin_158 (isO_spec g8).1 (isA_O g8) g9 ?_
  refine ev_st e11 ?_
  refine ev_iload_n 1 dX11_begin_159 rfl ?_
  exact ev_retI .int dX11_begin_160 rfl rfl h
def s_X11_begin (a0 : Nat) (a1 : Int32) (a2 : Int32) (σ : St) : Option (Int32 × St) :=
 if isO σ 11 a0 = true then (lt (sI σ a0 5 : Int32) fun v13 =>
 lt (setI σ a0 5 ((sI σ a0 5) + 1)) fun σ15 =>
 if (sI σ15 a0 20) = 0 then (some (v13, σ15)) else (op (sP σ15 a0 7) fun p18 =>
 if isO σ15 13 p18 = true then (if inR v13 (alen σ15 p18) = true then (lt (setI σ15 p18 v13.toNatClampNeg a1) fun σ22 =>
 op (sP σ22 a0 8) fun p24 =>
 if isO σ22 13 p24 = true then (if inR v13 (alen σ22 p24) = true then (lt (setI σ22 p24 v13.toNatClampNeg a2) fun σ28 =>
 op (sP σ28 a0 9) fun p30 =>
 if isO σ28 13 p30 = true then (if inR v13 (alen σ28 p30) = true then (lt (setI σ28 p30 v13.toNatClampNeg ((-6))) fun σ34 =>
 lt ((sI σ34 a0 18) - 1 : Int32) fun v36 =>
 op (sP σ34 a0 14) fun p38 =>
 if isO σ34 13 p38 = true then (if inR v36 (alen σ34 p38) = true then (lt (sI σ34 p38 v36.toNatClampNeg : Int32) fun v42 =>
 if v42 = 0 then (lt (setI σ34 a0 10 v13) fun σ45 =>
 some (v13, σ45)) else (if v42 = 1 then (s_X11_begin_146 a0 v13 v36 σ34) else (if v42 = 2 then (op (sP σ34 a0 15) fun p49 =>
 if isO σ34 13 p49 = true then (if inR v36 (alen σ34 p49) = true then (if inR (sI σ34 p49 v36.toNatClampNeg) (alen σ34 p30) = true then (lt (setI σ34 p30 ((sI σ34 p49 v36.toNatClampNeg).toNatClampNeg) v13) fun σ54 =>
 some (v13, σ54)) else none) else none) else none) else (if v42 = 3 then (s_X11_begin_146 a0 v13 v36 σ34) else (if v42 = 4 then (op (sP σ34 a0 13) fun p58 =>
 op (sP σ34 a0 16) fun p60 =>
 if isO σ34 13 p60 = true then (if inR v36 (alen σ34 p60) = true then (op (sP σ34 a0 17) fun p64 =>
 if isO σ34 13 p64 = true then (if inR (v36 - 1) (alen σ34 p64) = true then (if isO σ34 13 p58 = true then (if inR (((3 * (sI σ34 p60 v36.toNatClampNeg)) + (sI σ34 p64 ((v36 - 1).toNatClampNeg))) - 1) (alen σ34 p58) = true then (lt (setI σ34 p58 ((((3 * (sI σ34 p60 v36.toNatClampNeg)) + (sI σ34 p64 ((v36 - 1).toNatClampNeg))) - 1).toNatClampNeg) v13) fun σ70 =>
 some (v13, σ70)) else none) else none) else none) else none) else none) else none) else (s_X11_begin_146 a0 v13 v36 σ34)))))) else none) else none) else none) else none) else none) else none) else none) else none)) else none
set_option maxHeartbeats 4000000 in
set_option maxRecDepth 100000 in
theorem x_X11_begin {a0 : Nat} {a1 : Int32} {a2 : Int32} {σ : St} {r : Int32} {σ' : St} (h : s_X11_begin a0 a1 a2 σ = some (r, σ')) : Ex M_X11_begin (1) [.ref a0, .int (a1), .int (a2)] σ (some (.int r)) σ' := by
  unfold s_X11_begin at h
  refine ex_of (by decide) rfl (Nat.le_of_ble_eq_true rfl) ?_
  show Ev _ _ 0 [(0, .ref a0), (1, .int (a1)), (2, .int (a2))] [] _ _ _
  refine ev_aload_nR 0 dX11_begin_0 rfl ?_
  obtain ⟨g12, h⟩ := gd_some h
  refine ev_getI dX11_begin_1 fl_X11_92 rfl g12 ?_
  obtain ⟨v13, e14, h⟩ := lt_some h
  refine ev_topI e14 ?_
  refine ev_istore_n (ls' := [(3, .int (v13)), (0, .ref a0), (1, .int (a1)), (2, .int (a2))]) dX11_begin_4 (by decide) rfl ?_
  refine ev_aload_nR 1 dX11_begin_5 rfl ?_
  refine ev_dup dX11_begin_6 rfl ?_
  refine ev_getI dX11_begin_7 fl_X11_92 rfl g12 ?_
  refine ev_iconst (v := 1) dX11_begin_10 (by decide) ?_
  refine ev_iadd dX11_begin_11 ?_
  obtain ⟨σ15, e16, h⟩ := lt_some h
  refine ev_putI dX11_begin_12 fl_X11_92 rfl (Or.inl rfl) g12 ⟨rfl, rfl⟩ ?_
  refine ev_st e16 ?_
  refine ev_aload_nR 1 dX11_begin_15 rfl ?_
  refine ev_getI dX11_begin_16 fl_X11_95 rfl (isO_I e16 g12) ?_
  rcases it_some h with ⟨c17, h⟩ | ⟨c17, h⟩
  · refine ev_if_eq (tgt := 159) dX11_begin_19 rfl c17 ?_
    refine ev_iload_n 0 dX11_begin_159 rfl ?_
    exact ev_retI .int dX11_begin_160 rfl rfl h
  · refine ev_if_eq_n 159 dX11_begin_19 rfl c17 ?_
    refine ev_aload_nR 1 dX11_begin_22 rfl ?_
    obtain ⟨p18, e19, h⟩ := op_some h
    refine ev_getPR dX11_begin_23 fl_X11_23 rfl (isO_I e16 g12) e19 ?_
    refine ev_iload_n 0 dX11_begin_26 rfl ?_
    refine ev_iload_n 2 dX11_begin_27 rfl ?_
    obtain ⟨g20, h⟩ := gd_some h
    obtain ⟨g21, h⟩ := gd_some h
    obtain ⟨σ22, e23, h⟩ := lt_some h
    refine ev_iast dX11_begin_28 (isO_spec g20).1 (isA_O g20) g21 ?_
    refine ev_st e23 ?_
    refine ev_aload_nR 1 dX11_begin_29 rfl ?_
    obtain ⟨p24, e25, h⟩ := op_some h
    refine ev_getPR dX11_begin_30 fl_X11_26 rfl (isO_I e23 (isO_I e16 g12)) e25 ?_
    refine ev_iload_n 0 dX11_begin_33 rfl ?_
    refine ev_iload_n 3 dX11_begin_34 rfl ?_
    obtain ⟨g26, h⟩ := gd_some h
    obtain ⟨g27, h⟩ := gd_some h
    obtain ⟨σ28, e29, h⟩ := lt_some h
    refine ev_iast dX11_begin_35 (isO_spec g26).1 (isA_O g26) g27 ?_
    refine ev_st e29 ?_
    refine ev_aload_nR 1 dX11_begin_36 rfl ?_
    obtain ⟨p30, e31, h⟩ := op_some h
    refine ev_getPR dX11_begin_37 fl_X11_29 rfl (isO_I e29 (isO_I e23 (isO_I e16 g12))) e31 ?_
    refine ev_iload_n 0 dX11_begin_40 rfl ?_
    refine ev_bipush (v := (-6)) dX11_begin_41 (by decide) ?_
    obtain ⟨g32, h⟩ := gd_some h
    obtain ⟨g33, h⟩ := gd_some h
    obtain ⟨σ34, e35, h⟩ := lt_some h
    refine ev_iast dX11_begin_43 (isO_spec g32).1 (isA_O g32) g33 ?_
    refine ev_st e35 ?_
    refine ev_aload_nR 1 dX11_begin_44 rfl ?_
    refine ev_getI dX11_begin_45 fl_X11_89 rfl (isO_I e35 (isO_I e29 (isO_I e23 (isO_I e16 g12)))) ?_
    refine ev_iconst (v := 1) dX11_begin_48 (by decide) ?_
    refine ev_isub dX11_begin_49 ?_
    obtain ⟨v36, e37, h⟩ := lt_some h
    refine ev_topI e37 ?_
    refine ev_istore (ls' := [(4, .int (v36)), (3, .int (v13)), (0, .ref a0), (1, .int (a1)), (2, .int (a2))]) dX11_begin_50 (by decide) rfl ?_
    refine ev_aload_nR 2 dX11_begin_52 rfl ?_
    obtain ⟨p38, e39, h⟩ := op_some h
    refine ev_getPR dX11_begin_53 fl_X11_41 rfl (isO_I e35 (isO_I e29 (isO_I e23 (isO_I e16 g12)))) e39 ?_
    refine ev_iload 0 dX11_begin_56 rfl ?_
    obtain ⟨g40, h⟩ := gd_some h
    obtain ⟨g41, h⟩ := gd_some h
    refine ev_iald dX11_begin_58 (isA_O g40) g41 ?_
    obtain ⟨v42, e43, h⟩ := lt_some h
    refine ev_topI e43 ?_
    rcases it_some h with ⟨c44, h⟩ | ⟨c44, h⟩
    · refine ev_tableIn (off := 33) (tgt := 92) dX11_begin_59 0 (by rw [c44]; decide) (by decide) rfl rfl ?_
      refine ev_aload_nR 2 dX11_begin_92 rfl ?_
      refine ev_iload_n 1 dX11_begin_93 rfl ?_
      obtain ⟨σ45, e46, h⟩ := lt_some h
      refine ev_putI dX11_begin_94 fl_X11_98 rfl (Or.inl rfl) (isO_I e35 (isO_I e29 (isO_I e23 (isO_I e16 g12)))) ⟨rfl, rfl⟩ ?_
      refine ev_st e46 ?_
      refine ev_goto (tgt := 159) dX11_begin_97 rfl ?_
      refine ev_iload_n 1 dX11_begin_159 rfl ?_
      exact ev_retI .int dX11_begin_160 rfl rfl h
    rcases it_some h with ⟨c47, h⟩ | ⟨c47, h⟩
    · refine ev_tableIn (off := 87) (tgt := 146) dX11_begin_59 1 (by rw [c47]; decide) (by decide) rfl rfl ?_
      refine ev_sub (ls' := [(0, .ref a0), (3, .int (v13)), (4, .int (v36))]) [2, 1, 0] rfl ?_
      exact e_X11_begin_146  h
    rcases it_some h with ⟨c48, h⟩ | ⟨c48, h⟩
    · refine ev_tableIn (off := 41) (tgt := 100) dX11_begin_59 2 (by rw [c48]; decide) (by decide) rfl rfl ?_
      refine ev_aload_nR 2 dX11_begin_100 rfl ?_
      refine ev_getPR dX11_begin_101 fl_X11_29 rfl (isO_I e35 (isO_I e29 (isO_I e23 (isO_I e16 g12)))) (rf_I e35 e31) ?_
      refine ev_aload_nR 2 dX11_begin_104 rfl ?_
      obtain ⟨p49, e50, h⟩ := op_some h
      refine ev_getPR dX11_begin_105 fl_X11_44 rfl (isO_I e35 (isO_I e29 (isO_I e23 (isO_I e16 g12)))) e50 ?_
      refine ev_iload 0 dX11_begin_108 rfl ?_
      obtain ⟨g51, h⟩ := gd_some h
      obtain ⟨g52, h⟩ := gd_some h
      refine ev_iald dX11_begin_110 (isA_O g51) g52 ?_
      refine ev_iload_n 1 dX11_begin_111 rfl ?_
      obtain ⟨g53, h⟩ := gd_some h
      obtain ⟨σ54, e55, h⟩ := lt_some h
      refine ev_iast dX11_begin_112 (isO_spec (isO_I e35 g32)).1 (isA_O (isO_I e35 g32)) g53 ?_
      refine ev_st e55 ?_
      refine ev_goto (tgt := 159) dX11_begin_113 rfl ?_
      refine ev_iload_n 1 dX11_begin_159 rfl ?_
      exact ev_retI .int dX11_begin_160 rfl rfl h
    rcases it_some h with ⟨c56, h⟩ | ⟨c56, h⟩
    · refine ev_tableIn (off := 87) (tgt := 146) dX11_begin_59 3 (by rw [c56]; decide) (by decide) rfl rfl ?_
      refine ev_sub (ls' := [(0, .ref a0), (3, .int (v13)), (4, .int (v36))]) [2, 1, 0] rfl ?_
      exact e_X11_begin_146  h
    rcases it_some h with ⟨c57, h⟩ | ⟨c57, h⟩
    · refine ev_tableIn (off := 57) (tgt := 116) dX11_begin_59 4 (by rw [c57]; decide) (by decide) rfl rfl ?_
      refine ev_aload_nR 2 dX11_begin_116 rfl ?_
      obtain ⟨p58, e59, h⟩ := op_some h
      refine ev_getPR dX11_begin_117 fl_X11_38 rfl (isO_I e35 (isO_I e29 (isO_I e23 (isO_I e16 g12)))) e59 ?_
      refine ev_iconst (v := 3) dX11_begin_120 (by decide) ?_
      refine ev_aload_nR 2 dX11_begin_121 rfl ?_
      obtain ⟨p60, e61, h⟩ := op_some h
      refine ev_getPR dX11_begin_122 fl_X11_47 rfl (isO_I e35 (isO_I e29 (isO_I e23 (isO_I e16 g12)))) e61 ?_
      refine ev_iload 0 dX11_begin_125 rfl ?_
      obtain ⟨g62, h⟩ := gd_some h
      obtain ⟨g63, h⟩ := gd_some h
      refine ev_iald dX11_begin_127 (isA_O g62) g63 ?_
      refine ev_imul dX11_begin_128 ?_
      refine ev_aload_nR 2 dX11_begin_129 rfl ?_
      obtain ⟨p64, e65, h⟩ := op_some h
      refine ev_getPR dX11_begin_130 fl_X11_50 rfl (isO_I e35 (isO_I e29 (isO_I e23 (isO_I e16 g12)))) e65 ?_
      refine ev_iload 0 dX11_begin_133 rfl ?_
      refine ev_iconst (v := 1) dX11_begin_135 (by decide) ?_
      refine ev_isub dX11_begin_136 ?_
      obtain ⟨g66, h⟩ := gd_some h
      obtain ⟨g67, h⟩ := gd_some h
      refine ev_iald dX11_begin_137 (isA_O g66) g67 ?_
      refine ev_iadd dX11_begin_138 ?_
      refine ev_iconst (v := 1) dX11_begin_139 (by decide) ?_
      refine ev_isub dX11_begin_140 ?_
      refine ev_iload_n 1 dX11_begin_141 rfl ?_
      obtain ⟨g68, h⟩ := gd_some h
      obtain ⟨g69, h⟩ := gd_some h
      obtain ⟨σ70, e71, h⟩ := lt_some h
      refine ev_iast dX11_begin_142 (isO_spec g68).1 (isA_O g68) g69 ?_
      refine ev_st e71 ?_
      refine ev_goto (tgt := 159) dX11_begin_143 rfl ?_
      refine ev_iload_n 1 dX11_begin_159 rfl ?_
      exact ev_retI .int dX11_begin_160 rfl rfl h
    have hx : v42.toInt < 0 ∨ 4 < v42.toInt := tab_out v42 0 4 (by decide) (fun k h1 h2 => by
        rcases (show k = 0 ∨ k = 1 ∨ k = 2 ∨ k = 3 ∨ k = 4 by omega) with rfl | rfl | rfl | rfl | rfl
        · exact ne_toInt c44
        · exact ne_toInt c47
        · exact ne_toInt c48
        · exact ne_toInt c56
        · exact ne_toInt c57)
    refine ev_tableOut (tgt := 146) dX11_begin_59 hx rfl ?_
    refine ev_sub (ls' := [(0, .ref a0), (3, .int (v13)), (4, .int (v36))]) [2, 1, 0] rfl ?_
    exact e_X11_begin_146  h
def sb_X11_complete_0 (k0 : Nat → St → Option (Unit × St)) (a0 : Nat) (σ : St) : Option (Unit × St) :=
 if isO σ 11 a0 = true then (op (sP σ a0 14) fun p2 =>
 if isO σ 13 p2 = true then (if inR ((sI σ a0 18) - 1) (alen σ p2) = true then (if (sI σ p2 (((sI σ a0 18) - 1).toNatClampNeg)) = 3 then (lt (setI σ a0 18 ((sI σ a0 18) - 1)) fun σ23 =>
 k0 a0 σ23) else (if inR ((sI σ a0 18) - 1) (alen σ p2) = true then (lt (sI σ p2 (((sI σ a0 18) - 1).toNatClampNeg) : Int32) fun v8 =>
 if v8 = 0 then (lt (setI σ a0 19 6) fun σ11 =>
 some ((), σ11)) else (if v8 = 1 then (lt (setI σ a0 19 1) fun σ14 =>
 some ((), σ14)) else (if v8 = 2 then (lt (setI σ a0 19 2) fun σ17 =>
 some ((), σ17)) else (lt (setI σ a0 18 ((sI σ a0 18) - 1)) fun σ19 =>
 lt (setI σ19 a0 19 5) fun σ21 =>
 some ((), σ21))))) else none)) else none) else none) else none
def s_X11_complete_0 (F : Nat) : Nat → St → Option (Unit × St) := lp (fun _ _ => none) (sb_X11_complete_0 ) F
set_option maxHeartbeats 4000000 in
set_option maxRecDepth 100000 in
theorem e_X11_complete_0 {r : Unit} {σ' : St} (F : Nat) : ∀ {a0 : Nat} {σ : St}, s_X11_complete_0 F a0 σ = some (r, σ') → Ev M_X11_complete (1) 0 [(0, .ref a0)] [] σ none σ' := by
  induction F with
  | zero => intro a0 σ h; cases h
  | succ F ih =>
    intro a0 σ h
    change sb_X11_complete_0  (s_X11_complete_0 F) a0 σ = some (r, σ') at h
    unfold sb_X11_complete_0 at h
    have hk0 := @ih
    refine ev_aload_nR 0 dX11_complete_0 rfl ?_
    obtain ⟨g1, h⟩ := gd_some h
    obtain ⟨p2, e3, h⟩ := op_some h
    refine ev_getPR dX11_complete_1 fl_X11_41 rfl g1 e3 ?_
    refine ev_aload_nR 0 dX11_complete_4 rfl ?_
    refine ev_getI dX11_complete_5 fl_X11_89 rfl g1 ?_
    refine ev_iconst (v := 1) dX11_complete_8 (by decide) ?_
    refine ev_isub dX11_complete_9 ?_
    obtain ⟨g4, h⟩ := gd_some h
    obtain ⟨g5, h⟩ := gd_some h
    refine ev_iald dX11_complete_10 (isA_O g4) g5 ?_
    refine ev_iconst (v := 3) dX11_complete_11 (by decide) ?_
    rcases it_some h with ⟨c6, h⟩ | ⟨c6, h⟩
    · refine ev_icmp_ne_n 28 dX11_complete_12 rfl c6 ?_
      refine ev_aload_nR 0 dX11_complete_15 rfl ?_
      refine ev_dup dX11_complete_16 rfl ?_
      refine ev_getI dX11_complete_17 fl_X11_89 rfl g1 ?_
      refine ev_iconst (v := 1) dX11_complete_20 (by decide) ?_
      refine ev_isub dX11_complete_21 ?_
      obtain ⟨σ23, e24, h⟩ := lt_some h
      refine ev_putI dX11_complete_22 fl_X11_89 rfl (Or.inl rfl) g1 ⟨rfl, rfl⟩ ?_
      refine ev_st e24 ?_
      refine ev_goto (tgt := 0) dX11_complete_25 rfl ?_
      refine ev_sub (ls' := [(0, .ref a0)]) [0] rfl ?_
      exact hk0 h
    · refine ev_icmp_ne (tgt := 28) dX11_complete_12 rfl c6 ?_
      refine ev_aload_nR 0 dX11_complete_28 rfl ?_
      refine ev_getPR dX11_complete_29 fl_X11_41 rfl g1 e3 ?_
      refine ev_aload_nR 0 dX11_complete_32 rfl ?_
      refine ev_getI dX11_complete_33 fl_X11_89 rfl g1 ?_
      refine ev_iconst (v := 1) dX11_complete_36 (by decide) ?_
      refine ev_isub dX11_complete_37 ?_
      obtain ⟨g7, h⟩ := gd_some h
      refine ev_iald dX11_complete_38 (isA_O g4) g7 ?_
      obtain ⟨v8, e9, h⟩ := lt_some h
      refine ev_topI e9 ?_
      rcases it_some h with ⟨c10, h⟩ | ⟨c10, h⟩
      · refine ev_tableIn (off := 25) (tgt := 64) dX11_complete_39 0 (by rw [c10]; decide) (by decide) rfl rfl ?_
        refine ev_aload_nR 0 dX11_complete_64 rfl ?_
        refine ev_bipush (v := 6) dX11_complete_65 (by decide) ?_
        obtain ⟨σ11, e12, h⟩ := lt_some h
        refine ev_putI dX11_complete_67 fl_X11_101 rfl (Or.inl rfl) g1 ⟨rfl, rfl⟩ ?_
        refine ev_st e12 ?_
        refine ev_goto (tgt := 104) dX11_complete_70 rfl ?_
        exact ev_retV dX11_complete_104 rfl h
      rcases it_some h with ⟨c13, h⟩ | ⟨c13, h⟩
      · refine ev_tableIn (off := 34) (tgt := 73) dX11_complete_39 1 (by rw [c13]; decide) (by decide) rfl rfl ?_
        refine ev_aload_nR 0 dX11_complete_73 rfl ?_
        refine ev_iconst (v := 1) dX11_complete_74 (by decide) ?_
        obtain ⟨σ14, e15, h⟩ := lt_some h
        refine ev_putI dX11_complete_75 fl_X11_101 rfl (Or.inl rfl) g1 ⟨rfl, rfl⟩ ?_
        refine ev_st e15 ?_
        refine ev_goto (tgt := 104) dX11_complete_78 rfl ?_
        exact ev_retV dX11_complete_104 rfl h
      rcases it_some h with ⟨c16, h⟩ | ⟨c16, h⟩
      · refine ev_tableIn (off := 42) (tgt := 81) dX11_complete_39 2 (by rw [c16]; decide) (by decide) rfl rfl ?_
        refine ev_aload_nR 0 dX11_complete_81 rfl ?_
        refine ev_iconst (v := 2) dX11_complete_82 (by decide) ?_
        obtain ⟨σ17, e18, h⟩ := lt_some h
        refine ev_putI dX11_complete_83 fl_X11_101 rfl (Or.inl rfl) g1 ⟨rfl, rfl⟩ ?_
        refine ev_st e18 ?_
        refine ev_goto (tgt := 104) dX11_complete_86 rfl ?_
        exact ev_retV dX11_complete_104 rfl h
      have hx : v8.toInt < 0 ∨ 2 < v8.toInt := tab_out v8 0 2 (by decide) (fun k h1 h2 => by
          rcases (show k = 0 ∨ k = 1 ∨ k = 2 by omega) with rfl | rfl | rfl
          · exact ne_toInt c10
          · exact ne_toInt c13
          · exact ne_toInt c16)
      refine ev_tableOut (tgt := 89) dX11_complete_39 hx rfl ?_
      refine ev_aload_nR 0 dX11_complete_89 rfl ?_
      refine ev_dup dX11_complete_90 rfl ?_
      refine ev_getI dX11_complete_91 fl_X11_89 rfl g1 ?_
      refine ev_iconst (v := 1) dX11_complete_94 (by decide) ?_
      refine ev_isub dX11_complete_95 ?_
      obtain ⟨σ19, e20, h⟩ := lt_some h
      refine ev_putI dX11_complete_96 fl_X11_89 rfl (Or.inl rfl) g1 ⟨rfl, rfl⟩ ?_
      refine ev_st e20 ?_
      refine ev_aload_nR 0 dX11_complete_99 rfl ?_
      refine ev_iconst (v := 5) dX11_complete_100 (by decide) ?_
      obtain ⟨σ21, e22, h⟩ := lt_some h
      refine ev_putI dX11_complete_101 fl_X11_101 rfl (Or.inl rfl) (isO_I e20 g1) ⟨rfl, rfl⟩ ?_
      refine ev_st e22 ?_
      exact ev_retV dX11_complete_104 rfl h
def s_X11_complete (a0 : Nat) (σ : St) : Option (Unit × St) :=
 s_X11_complete_0 16000 a0 σ
set_option maxHeartbeats 4000000 in
set_option maxRecDepth 100000 in
theorem x_X11_complete {a0 : Nat} {σ : St} {r : Unit} {σ' : St} (h : s_X11_complete a0 σ = some (r, σ')) : Ex M_X11_complete (1) [.ref a0] σ none σ' := by
  unfold s_X11_complete at h
  refine ex_of (by decide) rfl (Nat.le_of_ble_eq_true rfl) ?_
  show Ev _ _ 0 [(0, .ref a0)] [] _ _ _
  refine ev_sub (ls' := [(0, .ref a0)]) [0] rfl ?_
  exact e_X11_complete_0 16000 h
def s_X11_isLetter (a0 : Int32) (σ : St) : Option (Int32 × St) :=
 bd (s_X11_in a0 97 104 σ) fun r3 σ1 =>
 if zok r3 = true then (some (r3, σ1)) else none
set_option maxHeartbeats 4000000 in
set_option maxRecDepth 100000 in
theorem x_X11_isLetter {a0 : Int32} {σ : St} {r : Int32} {σ' : St} (h : s_X11_isLetter a0 σ = some (r, σ')) : Ex M_X11_isLetter (2) [.int (a0)] σ (some (.int r)) σ' := by
  unfold s_X11_isLetter at h
  refine ex_of (by decide) rfl (Nat.le_of_ble_eq_true rfl) ?_
  show Ev _ _ 0 [(0, .int (a0))] [] _ _ _
  refine ev_iload_n 0 dX11_isLetter_0 rfl ?_
  refine ev_bipush (v := 97) dX11_isLetter_1 (by decide) ?_
  refine ev_bipush (v := 104) dX11_isLetter_3 (by decide) ?_
  obtain ⟨r3, σ1, e2, h⟩ := bd_some h
  refine ev_invSi (As := [.int (a0), .int (97), .int (104)]) (st := []) dX11_isLetter_5 cb_X11_in tp_1066 tp_1067 (by omega) rfl rfl (Nat.le_of_ble_eq_true rfl) (x_X11_in e2) ?_
  obtain ⟨g4, h⟩ := gd_some h
  exact ev_retI .boolean dX11_isLetter_8 rfl (nz_of g4).1 h
def s_X11_beginLoan_47 (a0 : Nat) (a1 : Int32) (a2 : Int32) (σ : St) : Option (Unit × St) :=
 if isO σ 11 a0 = true then (bd (s_X11_push a0 6 a1 a2 σ) fun r4 σ2 =>
 if isO σ2 11 a0 = true then (lt (setI σ2 a0 19 3) fun σ6 =>
 some ((), σ6)) else none) else none
set_option maxHeartbeats 4000000 in
set_option maxRecDepth 100000 in
theorem e_X11_beginLoan_47 {r : Unit} {σ' : St} : ∀ {a0 : Nat} {a1 : Int32} {a2 : Int32} {σ : St}, s_X11_beginLoan_47 a0 a1 a2 σ = some (r, σ') → Ev M_X11_beginLoan (2) 47 [(0, .ref a0), (1, .int (a1)), (2, .int (a2))] [] σ none σ' := by
  intro a0 a1 a2 σ h
  unfold s_X11_beginLoan_47 at h
  refine ev_aload_nR 0 dX11_beginLoan_47 rfl ?_
  refine ev_bipush (v := 6) dX11_beginLoan_48 (by decide) ?_
  refine ev_iload_n 1 dX11_beginLoan_50 rfl ?_
  refine ev_iload_n 2 dX11_beginLoan_51 rfl ?_
  obtain ⟨g1, h⟩ := gd_some h
  obtain ⟨r4, σ2, e3, h⟩ := bd_some h
  refine ev_invVv (As := [.int (6), .int (a1), .int (a2)]) (st := []) dX11_beginLoan_52 cb_X11_push tp_1085 tp_1087 tp_56 kf11 rfl (by omega) g1 rfl rfl (Nat.le_of_ble_eq_true rfl) (x_X11_push e3) ?_
  refine ev_aload_nR 0 dX11_beginLoan_55 rfl ?_
  refine ev_iconst (v := 3) dX11_beginLoan_56 (by decide) ?_
  obtain ⟨g5, h⟩ := gd_some h
  obtain ⟨σ6, e7, h⟩ := lt_some h
  refine ev_putI dX11_beginLoan_57 fl_X11_101 rfl (Or.inl rfl) g5 ⟨rfl, rfl⟩ ?_
  refine ev_st e7 ?_
  exact ev_retV dX11_beginLoan_60 rfl h
def s_X11_beginLoan (a0 : Nat) (σ : St) : Option (Unit × St) :=
 if isO σ 11 a0 = true then (bd (s_X11_begin a0 7 ((-6)) σ) fun r11 σ9 =>
 if isO σ9 11 a0 = true then (lt (5 + (sI σ9 a0 6) : Int32) fun v13 =>
 lt (setI σ9 a0 6 ((sI σ9 a0 6) + 1)) fun σ15 =>
 if (sI σ15 a0 20) = 0 then (s_X11_beginLoan_47 a0 r11 v13 σ15) else (op (sP σ15 a0 9) fun p18 =>
 if isO σ15 13 p18 = true then (if inR r11 (alen σ15 p18) = true then (lt (setI σ15 p18 r11.toNatClampNeg v13) fun σ22 =>
 op (sP σ22 a0 11) fun p24 =>
 if isO σ22 13 p24 = true then (if inR v13 (alen σ22 p24) = true then (lt (setI σ22 p24 v13.toNatClampNeg 0) fun σ28 =>
 s_X11_beginLoan_47 a0 r11 v13 σ28) else none) else none) else none) else none)) else none) else none
set_option maxHeartbeats 4000000 in
set_option maxRecDepth 100000 in
theorem x_X11_beginLoan {a0 : Nat} {σ : St} {r : Unit} {σ' : St} (h : s_X11_beginLoan a0 σ = some (r, σ')) : Ex M_X11_beginLoan (2) [.ref a0] σ none σ' := by
  unfold s_X11_beginLoan at h
  refine ex_of (by decide) rfl (Nat.le_of_ble_eq_true rfl) ?_
  show Ev _ _ 0 [(0, .ref a0)] [] _ _ _
  refine ev_aload_nR 0 dX11_beginLoan_0 rfl ?_
  refine ev_bipush (v := 7) dX11_beginLoan_1 (by decide) ?_
  refine ev_bipush (v := (-6)) dX11_beginLoan_3 (by decide) ?_
  obtain ⟨g8, h⟩ := gd_some h
  obtain ⟨r11, σ9, e10, h⟩ := bd_some h
  refine ev_invVi (As := [.int (7), .int ((-6))]) (st := []) dX11_beginLoan_5 cb_X11_begin tp_1100 tp_1102 tp_59 kf11 rfl (by omega) g8 rfl rfl (Nat.le_of_ble_eq_true rfl) (x_X11_begin e10) ?_
  refine ev_istore_n (ls' := [(1, .int (r11)), (0, .ref a0)]) dX11_beginLoan_8 (by decide) rfl ?_
  refine ev_iconst (v := 5) dX11_beginLoan_9 (by decide) ?_
  refine ev_aload_nR 1 dX11_beginLoan_10 rfl ?_
  obtain ⟨g12, h⟩ := gd_some h
  refine ev_getI dX11_beginLoan_11 fl_X11_126 rfl g12 ?_
  refine ev_iadd dX11_beginLoan_14 ?_
  obtain ⟨v13, e14, h⟩ := lt_some h
  refine ev_topI e14 ?_
  refine ev_istore_n (ls' := [(2, .int (v13)), (1, .int (r11)), (0, .ref a0)]) dX11_beginLoan_15 (by decide) rfl ?_
  refine ev_aload_nR 2 dX11_beginLoan_16 rfl ?_
  refine ev_dup dX11_beginLoan_17 rfl ?_
  refine ev_getI dX11_beginLoan_18 fl_X11_126 rfl g12 ?_
  refine ev_iconst (v := 1) dX11_beginLoan_21 (by decide) ?_
  refine ev_iadd dX11_beginLoan_22 ?_
  obtain ⟨σ15, e16, h⟩ := lt_some h
  refine ev_putI dX11_beginLoan_23 fl_X11_126 rfl (Or.inl rfl) g12 ⟨rfl, rfl⟩ ?_
  refine ev_st e16 ?_
  refine ev_aload_nR 2 dX11_beginLoan_26 rfl ?_
  refine ev_getI dX11_beginLoan_27 fl_X11_95 rfl (isO_I e16 g12) ?_
  rcases it_some h with ⟨c17, h⟩ | ⟨c17, h⟩
  · refine ev_if_eq (tgt := 47) dX11_beginLoan_30 rfl c17 ?_
    refine ev_sub (ls' := [(0, .ref a0), (1, .int (r11)), (2, .int (v13))]) [2, 1, 0] rfl ?_
    exact e_X11_beginLoan_47  h
  · refine ev_if_eq_n 47 dX11_beginLoan_30 rfl c17 ?_
    refine ev_aload_nR 2 dX11_beginLoan_33 rfl ?_
    obtain ⟨p18, e19, h⟩ := op_some h
    refine ev_getPR dX11_beginLoan_34 fl_X11_29 rfl (isO_I e16 g12) e19 ?_
    refine ev_iload_n 1 dX11_beginLoan_37 rfl ?_
    refine ev_iload_n 0 dX11_beginLoan_38 rfl ?_
    obtain ⟨g20, h⟩ := gd_some h
    obtain ⟨g21, h⟩ := gd_some h
    obtain ⟨σ22, e23, h⟩ := lt_some h
    refine ev_iast dX11_beginLoan_39 (isO_spec g20).1 (isA_O g20) g21 ?_
    refine ev_st e23 ?_
    refine ev_aload_nR 2 dX11_beginLoan_40 rfl ?_
    obtain ⟨p24, e25, h⟩ := op_some h
    refine ev_getPR dX11_beginLoan_41 fl_X11_32 rfl (isO_I e23 (isO_I e16 g12)) e25 ?_
    refine ev_iload_n 0 dX11_beginLoan_44 rfl ?_
    refine ev_iconst (v := 0) dX11_beginLoan_45 (by decide) ?_
    obtain ⟨g26, h⟩ := gd_some h
    obtain ⟨g27, h⟩ := gd_some h
    obtain ⟨σ28, e29, h⟩ := lt_some h
    refine ev_iast dX11_beginLoan_46 (isO_spec g26).1 (isA_O g26) g27 ?_
    refine ev_st e29 ?_
    refine ev_sub (ls' := [(0, .ref a0), (1, .int (r11)), (2, .int (v13))]) [2, 1, 0] rfl ?_
    exact e_X11_beginLoan_47  h
def s_X11_readGoal (a0 : Nat) (a1 : Int32) (σ : St) : Option (Int32 × St) :=
 bd (s_X11_isLetter a1 σ) fun r3 σ1 =>
 if r3 = 0 then (if a1 = 33 then (if isO σ1 11 a0 = true then (bd (s_X11_begin a0 3 ((-6)) σ1) fun r9 σ7 =>
 if isO σ7 11 a0 = true then (bd (s_X11_push a0 3 r9 ((-6)) σ7) fun r13 σ11 =>
 some (1, σ11)) else none) else none) else (if a1 = 40 then (if isO σ1 11 a0 = true then (bd (s_X11_begin a0 4 ((-6)) σ1) fun r18 σ16 =>
 if isO σ16 11 a0 = true then (bd (s_X11_push a0 1 r18 ((-6)) σ16) fun r22 σ20 =>
 some (1, σ20)) else none) else none) else (if a1 = 49 then (if isO σ1 11 a0 = true then (bd (s_X11_begin a0 1 ((-6)) σ1) fun r27 σ25 =>
 if isO σ25 11 a0 = true then (bd (s_X11_complete a0 σ25) fun r31 σ29 =>
 some (1, σ29)) else none) else none) else (if a1 = 84 then (if isO σ1 11 a0 = true then (bd (s_X11_begin a0 2 ((-6)) σ1) fun r36 σ34 =>
 if isO σ34 11 a0 = true then (bd (s_X11_complete a0 σ34) fun r40 σ38 =>
 some (1, σ38)) else none) else none) else (if a1 = 91 then (if isO σ1 11 a0 = true then (bd (s_X11_beginLoan a0 σ1) fun r45 σ43 =>
 some (1, σ43)) else none) else (some (0, σ1))))))) else (if isO σ1 11 a0 = true then (bd (s_X11_begin a0 0 a1 σ1) fun r49 σ47 =>
 if isO σ47 11 a0 = true then (bd (s_X11_complete a0 σ47) fun r53 σ51 =>
 some (1, σ51)) else none) else none)
set_option maxHeartbeats 4000000 in
set_option maxRecDepth 100000 in
theorem x_X11_readGoal {a0 : Nat} {a1 : Int32} {σ : St} {r : Int32} {σ' : St} (h : s_X11_readGoal a0 a1 σ = some (r, σ')) : Ex M_X11_readGoal (3) [.ref a0, .int (a1)] σ (some (.int r)) σ' := by
  unfold s_X11_readGoal at h
  refine ex_of (by decide) rfl (Nat.le_of_ble_eq_true rfl) ?_
  show Ev _ _ 0 [(0, .ref a0), (1, .int (a1))] [] _ _ _
  refine ev_iload_n 1 dX11_readGoal_0 rfl ?_
  obtain ⟨r3, σ1, e2, h⟩ := bd_some h
  refine ev_invSi (As := [.int (a1)]) (st := []) dX11_readGoal_1 cb_X11_isLetter tp_1097 tp_1098 (by omega) rfl rfl (Nat.le_of_ble_eq_true rfl) (x_X11_isLetter e2) ?_
  rcases it_some h with ⟨c4, h⟩ | ⟨c4, h⟩
  · refine ev_if_eq (tgt := 20) dX11_readGoal_4 rfl c4 ?_
    refine ev_iload_n 1 dX11_readGoal_20 rfl ?_
    rcases it_some h with ⟨c5, h⟩ | ⟨c5, h⟩
    · refine ev_lookup (off := 79) (tgt := 100) dX11_readGoal_21 (by decide) (by rw [c5]; decide) rfl ?_
      refine ev_aload_nR 0 dX11_readGoal_100 rfl ?_
      refine ev_iconst (v := 3) dX11_readGoal_101 (by decide) ?_
      refine ev_aload_nR 0 dX11_readGoal_102 rfl ?_
      refine ev_iconst (v := 3) dX11_readGoal_103 (by decide) ?_
      refine ev_bipush (v := (-6)) dX11_readGoal_104 (by decide) ?_
      obtain ⟨g6, h⟩ := gd_some h
      obtain ⟨r9, σ7, e8, h⟩ := bd_some h
      refine ev_invVi (As := [.int (3), .int ((-6))]) (st := [.int (3), .ref a0]) dX11_readGoal_106 cb_X11_begin tp_1100 tp_1102 tp_59 kf11 rfl (by omega) g6 rfl rfl (Nat.le_of_ble_eq_true rfl) (x_X11_begin e8) ?_
      refine ev_bipush (v := (-6)) dX11_readGoal_109 (by decide) ?_
      obtain ⟨g10, h⟩ := gd_some h
      obtain ⟨r13, σ11, e12, h⟩ := bd_some h
      refine ev_invVv (As := [.int (3), .int (r9), .int ((-6))]) (st := []) dX11_readGoal_111 cb_X11_push tp_1085 tp_1087 tp_56 kf11 rfl (by omega) g10 rfl rfl (Nat.le_of_ble_eq_true rfl) (x_X11_push e12) ?_
      refine ev_iconst (v := 1) dX11_readGoal_114 (by decide) ?_
      exact ev_retI .boolean dX11_readGoal_115 rfl rfl h
    rcases it_some h with ⟨c14, h⟩ | ⟨c14, h⟩
    · refine ev_lookup (off := 95) (tgt := 116) dX11_readGoal_21 (by decide) (by rw [c14]; decide) rfl ?_
      refine ev_aload_nR 0 dX11_readGoal_116 rfl ?_
      refine ev_iconst (v := 1) dX11_readGoal_117 (by decide) ?_
      refine ev_aload_nR 0 dX11_readGoal_118 rfl ?_
      refine ev_iconst (v := 4) dX11_readGoal_119 (by decide) ?_
      refine ev_bipush (v := (-6)) dX11_readGoal_120 (by decide) ?_
      obtain ⟨g15, h⟩ := gd_some h
      obtain ⟨r18, σ16, e17, h⟩ := bd_some h
      refine ev_invVi (As := [.int (4), .int ((-6))]) (st := [.int (1), .ref a0]) dX11_readGoal_122 cb_X11_begin tp_1100 tp_1102 tp_59 kf11 rfl (by omega) g15 rfl rfl (Nat.le_of_ble_eq_true rfl) (x_X11_begin e17) ?_
      refine ev_bipush (v := (-6)) dX11_readGoal_125 (by decide) ?_
      obtain ⟨g19, h⟩ := gd_some h
      obtain ⟨r22, σ20, e21, h⟩ := bd_some h
      refine ev_invVv (As := [.int (1), .int (r18), .int ((-6))]) (st := []) dX11_readGoal_127 cb_X11_push tp_1085 tp_1087 tp_56 kf11 rfl (by omega) g19 rfl rfl (Nat.le_of_ble_eq_true rfl) (x_X11_push e21) ?_
      refine ev_iconst (v := 1) dX11_readGoal_130 (by decide) ?_
      exact ev_retI .boolean dX11_readGoal_131 rfl rfl h
    rcases it_some h with ⟨c23, h⟩ | ⟨c23, h⟩
    · refine ev_lookup (off := 51) (tgt := 72) dX11_readGoal_21 (by decide) (by rw [c23]; decide) rfl ?_
      refine ev_aload_nR 0 dX11_readGoal_72 rfl ?_
      refine ev_iconst (v := 1) dX11_readGoal_73 (by decide) ?_
      refine ev_bipush (v := (-6)) dX11_readGoal_74 (by decide) ?_
      obtain ⟨g24, h⟩ := gd_some h
      obtain ⟨r27, σ25, e26, h⟩ := bd_some h
      refine ev_invVi (As := [.int (1), .int ((-6))]) (st := []) dX11_readGoal_76 cb_X11_begin tp_1100 tp_1102 tp_59 kf11 rfl (by omega) g24 rfl rfl (Nat.le_of_ble_eq_true rfl) (x_X11_begin e26) ?_
      refine ev_pop dX11_readGoal_79 rfl ?_
      refine ev_aload_nR 0 dX11_readGoal_80 rfl ?_
      obtain ⟨g28, h⟩ := gd_some h
      obtain ⟨r31, σ29, e30, h⟩ := bd_some h
      refine ev_invVv (As := []) (st := []) dX11_readGoal_81 cb_X11_complete tp_1104 tp_1106 tp_60 kf11 rfl (by omega) g28 rfl rfl (Nat.le_of_ble_eq_true rfl) (x_X11_complete e30) ?_
      refine ev_iconst (v := 1) dX11_readGoal_84 (by decide) ?_
      exact ev_retI .boolean dX11_readGoal_85 rfl rfl h
    rcases it_some h with ⟨c32, h⟩ | ⟨c32, h⟩
    · refine ev_lookup (off := 65) (tgt := 86) dX11_readGoal_21 (by decide) (by rw [c32]; decide) rfl ?_
      refine ev_aload_nR 0 dX11_readGoal_86 rfl ?_
      refine ev_iconst (v := 2) dX11_readGoal_87 (by decide) ?_
      refine ev_bipush (v := (-6)) dX11_readGoal_88 (by decide) ?_
      obtain ⟨g33, h⟩ := gd_some h
      obtain ⟨r36, σ34, e35, h⟩ := bd_some h
      refine ev_invVi (As := [.int (2), .int ((-6))]) (st := []) dX11_readGoal_90 cb_X11_begin tp_1100 tp_1102 tp_59 kf11 rfl (by omega) g33 rfl rfl (Nat.le_of_ble_eq_true rfl) (x_X11_begin e35) ?_
      refine ev_pop dX11_readGoal_93 rfl ?_
      refine ev_aload_nR 0 dX11_readGoal_94 rfl ?_
      obtain ⟨g37, h⟩ := gd_some h
      obtain ⟨r40, σ38, e39, h⟩ := bd_some h
      refine ev_invVv (As := []) (st := []) dX11_readGoal_95 cb_X11_complete tp_1104 tp_1106 tp_60 kf11 rfl (by omega) g37 rfl rfl (Nat.le_of_ble_eq_true rfl) (x_X11_complete e39) ?_
      refine ev_iconst (v := 1) dX11_readGoal_98 (by decide) ?_
      exact ev_retI .boolean dX11_readGoal_99 rfl rfl h
    rcases it_some h with ⟨c41, h⟩ | ⟨c41, h⟩
    · refine ev_lookup (off := 111) (tgt := 132) dX11_readGoal_21 (by decide) (by rw [c41]; decide) rfl ?_
      refine ev_aload_nR 0 dX11_readGoal_132 rfl ?_
      obtain ⟨g42, h⟩ := gd_some h
      obtain ⟨r45, σ43, e44, h⟩ := bd_some h
      refine ev_invVv (As := []) (st := []) dX11_readGoal_133 cb_X11_beginLoan tp_1108 tp_1110 tp_61 kf11 rfl (by omega) g42 rfl rfl (Nat.le_of_ble_eq_true rfl) (x_X11_beginLoan e44) ?_
      refine ev_iconst (v := 1) dX11_readGoal_136 (by decide) ?_
      exact ev_retI .boolean dX11_readGoal_137 rfl rfl h
    refine ev_lookup (off := 117) (tgt := 138) dX11_readGoal_21 (by decide) ?_ rfl ?_
    · simp only [Op.lookupswitch.offset_cons, Op.lookupswitch.offset_nil]
      rw [if_neg (fun q => ne_toInt c5 q.symm)]
      rw [if_neg (fun q => ne_toInt c14 q.symm)]
      rw [if_neg (fun q => ne_toInt c23 q.symm)]
      rw [if_neg (fun q => ne_toInt c32 q.symm)]
      rw [if_neg (fun q => ne_toInt c41 q.symm)]
    · refine ev_iconst (v := 0) dX11_readGoal_138 (by decide) ?_
      exact ev_retI .boolean dX11_readGoal_139 rfl rfl h
  · refine ev_if_eq_n 20 dX11_readGoal_4 rfl c4 ?_
    refine ev_aload_nR 0 dX11_readGoal_7 rfl ?_
    refine ev_iconst (v := 0) dX11_readGoal_8 (by decide) ?_
    refine ev_iload_n 1 dX11_readGoal_9 rfl ?_
    obtain ⟨g46, h⟩ := gd_some h
    obtain ⟨r49, σ47, e48, h⟩ := bd_some h
    refine ev_invVi (As := [.int (0), .int (a1)]) (st := []) dX11_readGoal_10 cb_X11_begin tp_1100 tp_1102 tp_59 kf11 rfl (by omega) g46 rfl rfl (Nat.le_of_ble_eq_true rfl) (x_X11_begin e48) ?_
    refine ev_pop dX11_readGoal_13 rfl ?_
    refine ev_aload_nR 0 dX11_readGoal_14 rfl ?_
    obtain ⟨g50, h⟩ := gd_some h
    obtain ⟨r53, σ51, e52, h⟩ := bd_some h
    refine ev_invVv (As := []) (st := []) dX11_readGoal_15 cb_X11_complete tp_1104 tp_1106 tp_60 kf11 rfl (by omega) g50 rfl rfl (Nat.le_of_ble_eq_true rfl) (x_X11_complete e52) ?_
    refine ev_iconst (v := 1) dX11_readGoal_18 (by decide) ?_
    exact ev_retI .boolean dX11_readGoal_19 rfl rfl h
def s_X11_readSign_64 (a0 : Nat) (σ : St) : Option (Int32 × St) :=
 if isO σ 11 a0 = true then (op (sP σ a0 14) fun p2 =>
 if isO σ 13 p2 = true then (if inR ((sI σ a0 18) - 1) (alen σ p2) = true then (lt (setI σ p2 (((sI σ a0 18) - 1).toNatClampNeg) 2) fun σ6 =>
 lt (setI σ6 a0 19 0) fun σ8 =>
 some (1, σ8)) else none) else none) else none
set_option maxHeartbeats 4000000 in
set_option maxRecDepth 100000 in
theorem e_X11_readSign_64 {r : Int32} {σ' : St} : ∀ {a0 : Nat} {σ : St}, s_X11_readSign_64 a0 σ = some (r, σ') → Ev M_X11_readSign (1) 64 [(0, .ref a0)] [] σ (some (.int r)) σ' := by
  intro a0 σ h
  unfold s_X11_readSign_64 at h
  refine ev_aload_nR 0 dX11_readSign_64 rfl ?_
  obtain ⟨g1, h⟩ := gd_some h
  obtain ⟨p2, e3, h⟩ := op_some h
  refine ev_getPR dX11_readSign_65 fl_X11_41 rfl g1 e3 ?_
  refine ev_aload_nR 0 dX11_readSign_68 rfl ?_
  refine ev_getI dX11_readSign_69 fl_X11_89 rfl g1 ?_
  refine ev_iconst (v := 1) dX11_readSign_72 (by decide) ?_
  refine ev_isub dX11_readSign_73 ?_
  refine ev_iconst (v := 2) dX11_readSign_74 (by decide) ?_
  obtain ⟨g4, h⟩ := gd_some h
  obtain ⟨g5, h⟩ := gd_some h
  obtain ⟨σ6, e7, h⟩ := lt_some h
  refine ev_iast dX11_readSign_75 (isO_spec g4).1 (isA_O g4) g5 ?_
  refine ev_st e7 ?_
  refine ev_aload_nR 0 dX11_readSign_76 rfl ?_
  refine ev_iconst (v := 0) dX11_readSign_77 (by decide) ?_
  obtain ⟨σ8, e9, h⟩ := lt_some h
  refine ev_putI dX11_readSign_78 fl_X11_101 rfl (Or.inl rfl) (isO_I e7 g1) ⟨rfl, rfl⟩ ?_
  refine ev_st e9 ?_
  refine ev_iconst (v := 1) dX11_readSign_81 (by decide) ?_
  exact ev_retI .boolean dX11_readSign_82 rfl rfl h
def s_X11_readSign_33 (a0 : Nat) (t0 : Int32) (σ : St) : Option (Int32 × St) :=
 if (0 : Int32) ≤ t0 then (if isO σ 11 a0 = true then (if (sI σ a0 20) = 0 then (s_X11_readSign_64 a0 σ) else (op (sP σ a0 7) fun p13 =>
 op (sP σ a0 15) fun p15 =>
 if isO σ 13 p15 = true then (if inR ((sI σ a0 18) - 1) (alen σ p15) = true then (if isO σ 13 p13 = true then (if inR (sI σ p15 (((sI σ a0 18) - 1).toNatClampNeg)) (alen σ p13) = true then (lt (setI σ p13 ((sI σ p15 (((sI σ a0 18) - 1).toNatClampNeg)).toNatClampNeg) t0) fun σ21 =>
 s_X11_readSign_64 a0 σ21) else none) else none) else none) else none)) else none) else (some (0, σ))
set_option maxHeartbeats 4000000 in
set_option maxRecDepth 100000 in
theorem e_X11_readSign_33 {r : Int32} {σ' : St} : ∀ {a0 : Nat} {t0 : Int32} {σ : St}, s_X11_readSign_33 a0 t0 σ = some (r, σ') → Ev M_X11_readSign (1) 33 [(0, .ref a0)] [.int (t0)] σ (some (.int r)) σ' := by
  intro a0 t0 σ h
  unfold s_X11_readSign_33 at h
  refine ev_istore_n (ls' := [(2, .int (t0)), (0, .ref a0)]) dX11_readSign_33 (by decide) rfl ?_
  refine ev_iload_n 0 dX11_readSign_34 rfl ?_
  rcases it_some h with ⟨c10, h⟩ | ⟨c10, h⟩
  · refine ev_if_ge (tgt := 40) dX11_readSign_35 rfl c10 ?_
    refine ev_aload_nR 1 dX11_readSign_40 rfl ?_
    obtain ⟨g11, h⟩ := gd_some h
    refine ev_getI dX11_readSign_41 fl_X11_95 rfl g11 ?_
    rcases it_some h with ⟨c12, h⟩ | ⟨c12, h⟩
    · refine ev_if_eq (tgt := 64) dX11_readSign_44 rfl c12 ?_
      refine ev_sub (ls' := [(0, .ref a0)]) [1] rfl ?_
      exact e_X11_readSign_64  h
    · refine ev_if_eq_n 64 dX11_readSign_44 rfl c12 ?_
      refine ev_aload_nR 1 dX11_readSign_47 rfl ?_
      obtain ⟨p13, e14, h⟩ := op_some h
      refine ev_getPR dX11_readSign_48 fl_X11_23 rfl g11 e14 ?_
      refine ev_aload_nR 1 dX11_readSign_51 rfl ?_
      obtain ⟨p15, e16, h⟩ := op_some h
      refine ev_getPR dX11_readSign_52 fl_X11_44 rfl g11 e16 ?_
      refine ev_aload_nR 1 dX11_readSign_55 rfl ?_
      refine ev_getI dX11_readSign_56 fl_X11_89 rfl g11 ?_
      refine ev_iconst (v := 1) dX11_readSign_59 (by decide) ?_
      refine ev_isub dX11_readSign_60 ?_
      obtain ⟨g17, h⟩ := gd_some h
      obtain ⟨g18, h⟩ := gd_some h
      refine ev_iald dX11_readSign_61 (isA_O g17) g18 ?_
      refine ev_iload_n 0 dX11_readSign_62 rfl ?_
      obtain ⟨g19, h⟩ := gd_some h
      obtain ⟨g20, h⟩ := gd_some h
      obtain ⟨σ21, e22, h⟩ := lt_some h
      refine ev_iast dX11_readSign_63 (isO_spec g19).1 (isA_O g19) g20 ?_
      refine ev_st e22 ?_
      refine ev_sub (ls' := [(0, .ref a0)]) [1] rfl ?_
      exact e_X11_readSign_64  h
  · refine ev_if_ge_n 40 dX11_readSign_35 rfl c10 ?_
    refine ev_iconst (v := 0) dX11_readSign_38 (by decide) ?_
    exact ev_retI .boolean dX11_readSign_39 rfl rfl h
def s_X11_readSign (a0 : Nat) (a1 : Int32) (σ : St) : Option (Int32 × St) :=
 if a1 = 42 then (s_X11_readSign_33 a0 4 σ) else (if a1 = 38 then (s_X11_readSign_33 a0 5 σ) else (if a1 = 43 then (s_X11_readSign_33 a0 6 σ) else (s_X11_readSign_33 a0 ((-6)) σ)))
set_option maxHeartbeats 4000000 in
set_option maxRecDepth 100000 in
theorem x_X11_readSign {a0 : Nat} {a1 : Int32} {σ : St} {r : Int32} {σ' : St} (h : s_X11_readSign a0 a1 σ = some (r, σ')) : Ex M_X11_readSign (1) [.ref a0, .int (a1)] σ (some (.int r)) σ' := by
  unfold s_X11_readSign at h
  refine ex_of (by decide) rfl (Nat.le_of_ble_eq_true rfl) ?_
  show Ev _ _ 0 [(0, .ref a0), (1, .int (a1))] [] _ _ _
  refine ev_iload_n 1 dX11_readSign_0 rfl ?_
  refine ev_bipush (v := 42) dX11_readSign_1 (by decide) ?_
  rcases it_some h with ⟨c23, h⟩ | ⟨c23, h⟩
  · refine ev_icmp_ne_n 10 dX11_readSign_3 rfl c23 ?_
    refine ev_iconst (v := 4) dX11_readSign_6 (by decide) ?_
    refine ev_goto (tgt := 33) dX11_readSign_7 rfl ?_
    refine ev_sub (ls' := [(0, .ref a0)]) [0] rfl ?_
    exact e_X11_readSign_33  h
  · refine ev_icmp_ne (tgt := 10) dX11_readSign_3 rfl c23 ?_
    refine ev_iload_n 1 dX11_readSign_10 rfl ?_
    refine ev_bipush (v := 38) dX11_readSign_11 (by decide) ?_
    rcases it_some h with ⟨c24, h⟩ | ⟨c24, h⟩
    · refine ev_icmp_ne_n 20 dX11_readSign_13 rfl c24 ?_
      refine ev_iconst (v := 5) dX11_readSign_16 (by decide) ?_
      refine ev_goto (tgt := 33) dX11_readSign_17 rfl ?_
      refine ev_sub (ls' := [(0, .ref a0)]) [0] rfl ?_
      exact e_X11_readSign_33  h
    · refine ev_icmp_ne (tgt := 20) dX11_readSign_13 rfl c24 ?_
      refine ev_iload_n 1 dX11_readSign_20 rfl ?_
      refine ev_bipush (v := 43) dX11_readSign_21 (by decide) ?_
      rcases it_some h with ⟨c25, h⟩ | ⟨c25, h⟩
      · refine ev_icmp_ne_n 31 dX11_readSign_23 rfl c25 ?_
        refine ev_bipush (v := 6) dX11_readSign_26 (by decide) ?_
        refine ev_goto (tgt := 33) dX11_readSign_28 rfl ?_
        refine ev_sub (ls' := [(0, .ref a0)]) [0] rfl ?_
        exact e_X11_readSign_33  h
      · refine ev_icmp_ne (tgt := 31) dX11_readSign_23 rfl c25 ?_
        refine ev_bipush (v := (-6)) dX11_readSign_31 (by decide) ?_
        refine ev_sub (ls' := [(0, .ref a0)]) [0] rfl ?_
        exact e_X11_readSign_33  h
def s_X11_readHead_73 (a0 : Nat) (a2 : Int32) (σ : St) : Option (Int32 × St) :=
 if isO σ 11 a0 = true then (op (sP σ a0 17) fun p2 =>
 if isO σ 13 p2 = true then (if inR a2 (alen σ p2) = true then (if inR a2 (alen σ p2) = true then (lt (setI σ p2 a2.toNatClampNeg ((sI σ p2 a2.toNatClampNeg) + 1)) fun σ7 =>
 lt (setI σ7 a0 19 4) fun σ9 =>
 some (1, σ9)) else none) else none) else none) else none
set_option maxHeartbeats 4000000 in
set_option maxRecDepth 100000 in
theorem e_X11_readHead_73 {r : Int32} {σ' : St} : ∀ {a0 : Nat} {a2 : Int32} {σ : St}, s_X11_readHead_73 a0 a2 σ = some (r, σ') → Ev M_X11_readHead (3) 73 [(0, .ref a0), (2, .int (a2))] [] σ (some (.int r)) σ' := by
  intro a0 a2 σ h
  unfold s_X11_readHead_73 at h
  refine ev_aload_nR 0 dX11_readHead_73 rfl ?_
  obtain ⟨g1, h⟩ := gd_some h
  obtain ⟨p2, e3, h⟩ := op_some h
  refine ev_getPR dX11_readHead_74 fl_X11_50 rfl g1 e3 ?_
  refine ev_iload_n 1 dX11_readHead_77 rfl ?_
  refine ev_dup2 dX11_readHead_78 rfl rfl ?_
  obtain ⟨g4, h⟩ := gd_some h
  obtain ⟨g5, h⟩ := gd_some h
  refine ev_iald dX11_readHead_79 (isA_O g4) g5 ?_
  refine ev_iconst (v := 1) dX11_readHead_80 (by decide) ?_
  refine ev_iadd dX11_readHead_81 ?_
  obtain ⟨g6, h⟩ := gd_some h
  obtain ⟨σ7, e8, h⟩ := lt_some h
  refine ev_iast dX11_readHead_82 (isO_spec g4).1 (isA_O g4) g6 ?_
  refine ev_st e8 ?_
  refine ev_aload_nR 0 dX11_readHead_83 rfl ?_
  refine ev_iconst (v := 4) dX11_readHead_84 (by decide) ?_
  obtain ⟨σ9, e10, h⟩ := lt_some h
  refine ev_putI dX11_readHead_85 fl_X11_101 rfl (Or.inl rfl) (isO_I e8 g1) ⟨rfl, rfl⟩ ?_
  refine ev_st e10 ?_
  refine ev_iconst (v := 1) dX11_readHead_88 (by decide) ?_
  exact ev_retI .boolean dX11_readHead_89 rfl rfl h
def s_X11_readHead (a0 : Nat) (a1 : Int32) (σ : St) : Option (Int32 × St) :=
 bd (s_X11_isLetter a1 σ) fun r13 σ11 =>
 if r13 = 0 then (some (0, σ11)) else (if isO σ11 11 a0 = true then (lt ((sI σ11 a0 18) - 1 : Int32) fun v16 =>
 if (sI σ11 a0 20) = 0 then (s_X11_readHead_73 a0 v16 σ11) else (op (sP σ11 a0 16) fun p19 =>
 if isO σ11 13 p19 = true then (if inR v16 (alen σ11 p19) = true then (op (sP σ11 a0 17) fun p23 =>
 if isO σ11 13 p23 = true then (if inR v16 (alen σ11 p23) = true then (lt ((3 * (sI σ11 p19 v16.toNatClampNeg)) + (sI σ11 p23 v16.toNatClampNeg) : Int32) fun v27 =>
 op (sP σ11 a0 12) fun p29 =>
 if isO σ11 13 p29 = true then (if inR v27 (alen σ11 p29) = true then (lt (setI σ11 p29 v27.toNatClampNeg a1) fun σ33 =>
 op (sP σ33 a0 13) fun p35 =>
 if isO σ33 13 p35 = true then (if inR v27 (alen σ33 p35) = true then (lt (setI σ33 p35 v27.toNatClampNeg ((-6))) fun σ39 =>
 op (sP σ39 a0 11) fun p41 =>
 if inR v16 (alen σ39 p19) = true then (if inR v16 (alen σ39 p23) = true then (if isO σ39 13 p41 = true then (if inR (sI σ39 p19 v16.toNatClampNeg) (alen σ39 p41) = true then (lt (setI σ39 p41 ((sI σ39 p19 v16.toNatClampNeg).toNatClampNeg) ((sI σ39 p23 v16.toNatClampNeg) + 1)) fun σ47 =>
 s_X11_readHead_73 a0 v16 σ47) else none) else none) else none) else none) else none) else none) else none) else none) else none) else none) else none) else none)) else none)
set_option maxHeartbeats 4000000 in
set_option maxRecDepth 100000 in
theorem x_X11_readHead {a0 : Nat} {a1 : Int32} {σ : St} {r : Int32} {σ' : St} (h : s_X11_readHead a0 a1 σ = some (r, σ')) : Ex M_X11_readHead (3) [.ref a0, .int (a1)] σ (some (.int r)) σ' := by
  unfold s_X11_readHead at h
  refine ex_of (by decide) rfl (Nat.le_of_ble_eq_true rfl) ?_
  show Ev _ _ 0 [(0, .ref a0), (1, .int (a1))] [] _ _ _
  refine ev_iload_n 1 dX11_readHead_0 rfl ?_
  obtain ⟨r13, σ11, e12, h⟩ := bd_some h
  refine ev_invSi (As := [.int (a1)]) (st := []) dX11_readHead_1 cb_X11_isLetter tp_1097 tp_1098 (by omega) rfl rfl (Nat.le_of_ble_eq_true rfl) (x_X11_isLetter e12) ?_
  rcases it_some h with ⟨c14, h⟩ | ⟨c14, h⟩
  · refine ev_if_ne_n 9 dX11_readHead_4 rfl c14 ?_
    refine ev_iconst (v := 0) dX11_readHead_7 (by decide) ?_
    exact ev_retI .boolean dX11_readHead_8 rfl rfl h
  · refine ev_if_ne (tgt := 9) dX11_readHead_4 rfl c14 ?_
    refine ev_aload_nR 0 dX11_readHead_9 rfl ?_
    obtain ⟨g15, h⟩ := gd_some h
    refine ev_getI dX11_readHead_10 fl_X11_89 rfl g15 ?_
    refine ev_iconst (v := 1) dX11_readHead_13 (by decide) ?_
    refine ev_isub dX11_readHead_14 ?_
    obtain ⟨v16, e17, h⟩ := lt_some h
    refine ev_topI e17 ?_
    refine ev_istore_n (ls' := [(2, .int (v16)), (0, .ref a0), (1, .int (a1))]) dX11_readHead_15 (by decide) rfl ?_
    refine ev_aload_nR 1 dX11_readHead_16 rfl ?_
    refine ev_getI dX11_readHead_17 fl_X11_95 rfl g15 ?_
    rcases it_some h with ⟨c18, h⟩ | ⟨c18, h⟩
    · refine ev_if_eq (tgt := 73) dX11_readHead_20 rfl c18 ?_
      refine ev_sub (ls' := [(0, .ref a0), (2, .int (v16))]) [1, 0] rfl ?_
      exact e_X11_readHead_73  h
    · refine ev_if_eq_n 73 dX11_readHead_20 rfl c18 ?_
      refine ev_iconst (v := 3) dX11_readHead_23 (by decide) ?_
      refine ev_aload_nR 1 dX11_readHead_24 rfl ?_
      obtain ⟨p19, e20, h⟩ := op_some h
      refine ev_getPR dX11_readHead_25 fl_X11_47 rfl g15 e20 ?_
      refine ev_iload_n 0 dX11_readHead_28 rfl ?_
      obtain ⟨g21, h⟩ := gd_some h
      obtain ⟨g22, h⟩ := gd_some h
      refine ev_iald dX11_readHead_29 (isA_O g21) g22 ?_
      refine ev_imul dX11_readHead_30 ?_
      refine ev_aload_nR 1 dX11_readHead_31 rfl ?_
      obtain ⟨p23, e24, h⟩ := op_some h
      refine ev_getPR dX11_readHead_32 fl_X11_50 rfl g15 e24 ?_
      refine ev_iload_n 0 dX11_readHead_35 rfl ?_
      obtain ⟨g25, h⟩ := gd_some h
      obtain ⟨g26, h⟩ := gd_some h
      refine ev_iald dX11_readHead_36 (isA_O g25) g26 ?_
      refine ev_iadd dX11_readHead_37 ?_
      obtain ⟨v27, e28, h⟩ := lt_some h
      refine ev_topI e28 ?_
      refine ev_istore_n (ls' := [(3, .int (v27)), (2, .int (v16)), (0, .ref a0), (1, .int (a1))]) dX11_readHead_38 (by decide) rfl ?_
      refine ev_aload_nR 2 dX11_readHead_39 rfl ?_
      obtain ⟨p29, e30, h⟩ := op_some h
      refine ev_getPR dX11_readHead_40 fl_X11_35 rfl g15 e30 ?_
      refine ev_iload_n 0 dX11_readHead_43 rfl ?_
      refine ev_iload_n 3 dX11_readHead_44 rfl ?_
      obtain ⟨g31, h⟩ := gd_some h
      obtain ⟨g32, h⟩ := gd_some h
      obtain ⟨σ33, e34, h⟩ := lt_some h
      refine ev_iast dX11_readHead_45 (isO_spec g31).1 (isA_O g31) g32 ?_
      refine ev_st e34 ?_
      refine ev_aload_nR 2 dX11_readHead_46 rfl ?_
      obtain ⟨p35, e36, h⟩ := op_some h
      refine ev_getPR dX11_readHead_47 fl_X11_38 rfl (isO_I e34 g15) e36 ?_
      refine ev_iload_n 0 dX11_readHead_50 rfl ?_
      refine ev_bipush (v := (-6)) dX11_readHead_51 (by decide) ?_
      obtain ⟨g37, h⟩ := gd_some h
      obtain ⟨g38, h⟩ := gd_some h
      obtain ⟨σ39, e40, h⟩ := lt_some h
      refine ev_iast dX11_readHead_53 (isO_spec g37).1 (isA_O g37) g38 ?_
      refine ev_st e40 ?_
      refine ev_aload_nR 2 dX11_readHead_54 rfl ?_
      obtain ⟨p41, e42, h⟩ := op_some h
      refine ev_getPR dX11_readHead_55 fl_X11_32 rfl (isO_I e40 (isO_I e34 g15)) e42 ?_
      refine ev_aload_nR 2 dX11_readHead_58 rfl ?_
      refine ev_getPR dX11_readHead_59 fl_X11_47 rfl (isO_I e40 (isO_I e34 g15)) (rf_I e40 (rf_I e34 e20)) ?_
      refine ev_iload_n 1 dX11_readHead_62 rfl ?_
      obtain ⟨g43, h⟩ := gd_some h
      refine ev_iald dX11_readHead_63 (isA_O (isO_I e40 (isO_I e34 g21))) g43 ?_
      refine ev_aload_nR 2 dX11_readHead_64 rfl ?_
      refine ev_getPR dX11_readHead_65 fl_X11_50 rfl (isO_I e40 (isO_I e34 g15)) (rf_I e40 (rf_I e34 e24)) ?_
      refine ev_iload_n 1 dX11_readHead_68 rfl ?_
      obtain ⟨g44, h⟩ := gd_some h
      refine ev_iald dX11_readHead_69 (isA_O (isO_I e40 (isO_I e34 g25))) g44 ?_
      refine ev_iconst (v := 1) dX11_readHead_70 (by decide) ?_
      refine ev_iadd dX11_readHead_71 ?_
      obtain ⟨g45, h⟩ := gd_some h
      obtain ⟨g46, h⟩ := gd_some h
      obtain ⟨σ47, e48, h⟩ := lt_some h
      refine ev_iast dX11_readHead_72 (isO_spec g45).1 (isA_O g45) g46 ?_
      refine ev_st e48 ?_
      refine ev_sub (ls' := [(0, .ref a0), (2, .int (v16))]) [2, 1] rfl ?_
      exact e_X11_readHead_73  h
def s_X11_readBehind_64 (a0 : Nat) (a1 : Int32) (a2 : Int32) (σ : St) : Option (Int32 × St) :=
 if a1 = 93 then (if isO σ 11 a0 = true then (op (sP σ a0 14) fun p3 =>
 if isO σ 13 p3 = true then (if inR a2 (alen σ p3) = true then (if (sI σ p3 a2.toNatClampNeg) = 6 then (if inR a2 (alen σ p3) = true then (lt (setI σ p3 a2.toNatClampNeg 3) fun σ9 =>
 lt (setI σ9 a0 19 0) fun σ11 =>
 some (1, σ11)) else none) else (some (0, σ))) else none) else none) else none) else (some (0, σ))
set_option maxHeartbeats 4000000 in
set_option maxRecDepth 100000 in
theorem e_X11_readBehind_64 {r : Int32} {σ' : St} : ∀ {a0 : Nat} {a1 : Int32} {a2 : Int32} {σ : St}, s_X11_readBehind_64 a0 a1 a2 σ = some (r, σ') → Ev M_X11_readBehind (2) 64 [(0, .ref a0), (1, .int (a1)), (2, .int (a2))] [] σ (some (.int r)) σ' := by
  intro a0 a1 a2 σ h
  unfold s_X11_readBehind_64 at h
  refine ev_iload_n 1 dX11_readBehind_64 rfl ?_
  refine ev_bipush (v := 93) dX11_readBehind_65 (by decide) ?_
  rcases it_some h with ⟨c1, h⟩ | ⟨c1, h⟩
  · refine ev_icmp_ne_n 95 dX11_readBehind_67 rfl c1 ?_
    refine ev_aload_nR 0 dX11_readBehind_70 rfl ?_
    obtain ⟨g2, h⟩ := gd_some h
    obtain ⟨p3, e4, h⟩ := op_some h
    refine ev_getPR dX11_readBehind_71 fl_X11_41 rfl g2 e4 ?_
    refine ev_iload_n 2 dX11_readBehind_74 rfl ?_
    obtain ⟨g5, h⟩ := gd_some h
    obtain ⟨g6, h⟩ := gd_some h
    refine ev_iald dX11_readBehind_75 (isA_O g5) g6 ?_
    refine ev_bipush (v := 6) dX11_readBehind_76 (by decide) ?_
    rcases it_some h with ⟨c7, h⟩ | ⟨c7, h⟩
    · refine ev_icmp_ne_n 95 dX11_readBehind_78 rfl c7 ?_
      refine ev_aload_nR 0 dX11_readBehind_81 rfl ?_
      refine ev_getPR dX11_readBehind_82 fl_X11_41 rfl g2 e4 ?_
      refine ev_iload_n 2 dX11_readBehind_85 rfl ?_
      refine ev_iconst (v := 3) dX11_readBehind_86 (by decide) ?_
      obtain ⟨g8, h⟩ := gd_some h
      obtain ⟨σ9, e10, h⟩ := lt_some h
      refine ev_iast dX11_readBehind_87 (isO_spec g5).1 (isA_O g5) g8 ?_
      refine ev_st e10 ?_
      refine ev_aload_nR 0 dX11_readBehind_88 rfl ?_
      refine ev_iconst (v := 0) dX11_readBehind_89 (by decide) ?_
      obtain ⟨σ11, e12, h⟩ := lt_some h
      refine ev_putI dX11_readBehind_90 fl_X11_101 rfl (Or.inl rfl) (isO_I e10 g2) ⟨rfl, rfl⟩ ?_
      refine ev_st e12 ?_
      refine ev_iconst (v := 1) dX11_readBehind_93 (by decide) ?_
      exact ev_retI .boolean dX11_readBehind_94 rfl rfl h
    · refine ev_icmp_ne (tgt := 95) dX11_readBehind_78 rfl c7 ?_
      refine ev_iconst (v := 0) dX11_readBehind_95 (by decide) ?_
      exact ev_retI .boolean dX11_readBehind_96 rfl rfl h
  · refine ev_icmp_ne (tgt := 95) dX11_readBehind_67 rfl c1 ?_
    refine ev_iconst (v := 0) dX11_readBehind_95 (by decide) ?_
    exact ev_retI .boolean dX11_readBehind_96 rfl rfl h
def s_X11_readBehind_41 (a0 : Nat) (a1 : Int32) (a2 : Int32) (σ : St) : Option (Int32 × St) :=
 if a1 = 124 then (if isO σ 11 a0 = true then (op (sP σ a0 17) fun p15 =>
 if isO σ 13 p15 = true then (if inR a2 (alen σ p15) = true then (if (3 : Int32) ≤ (sI σ p15 a2.toNatClampNeg) then (s_X11_readBehind_64 a0 a1 a2 σ) else (lt (setI σ a0 19 3) fun σ20 =>
 some (1, σ20))) else none) else none) else none) else (s_X11_readBehind_64 a0 a1 a2 σ)
set_option maxHeartbeats 4000000 in
set_option maxRecDepth 100000 in
theorem e_X11_readBehind_41 {r : Int32} {σ' : St} : ∀ {a0 : Nat} {a1 : Int32} {a2 : Int32} {σ : St}, s_X11_readBehind_41 a0 a1 a2 σ = some (r, σ') → Ev M_X11_readBehind (2) 41 [(0, .ref a0), (1, .int (a1)), (2, .int (a2))] [] σ (some (.int r)) σ' := by
  intro a0 a1 a2 σ h
  unfold s_X11_readBehind_41 at h
  refine ev_iload_n 1 dX11_readBehind_41 rfl ?_
  refine ev_bipush (v := 124) dX11_readBehind_42 (by decide) ?_
  rcases it_some h with ⟨c13, h⟩ | ⟨c13, h⟩
  · refine ev_icmp_ne_n 64 dX11_readBehind_44 rfl c13 ?_
    refine ev_aload_nR 0 dX11_readBehind_47 rfl ?_
    obtain ⟨g14, h⟩ := gd_some h
    obtain ⟨p15, e16, h⟩ := op_some h
    refine ev_getPR dX11_readBehind_48 fl_X11_50 rfl g14 e16 ?_
    refine ev_iload_n 2 dX11_readBehind_51 rfl ?_
    obtain ⟨g17, h⟩ := gd_some h
    obtain ⟨g18, h⟩ := gd_some h
    refine ev_iald dX11_readBehind_52 (isA_O g17) g18 ?_
    refine ev_iconst (v := 3) dX11_readBehind_53 (by decide) ?_
    rcases it_some h with ⟨c19, h⟩ | ⟨c19, h⟩
    · refine ev_icmp_ge (tgt := 64) dX11_readBehind_54 rfl c19 ?_
      refine ev_sub (ls' := [(0, .ref a0), (1, .int (a1)), (2, .int (a2))]) [0, 1, 2] rfl ?_
      exact e_X11_readBehind_64  h
    · refine ev_icmp_ge_n 64 dX11_readBehind_54 rfl c19 ?_
      refine ev_aload_nR 0 dX11_readBehind_57 rfl ?_
      refine ev_iconst (v := 3) dX11_readBehind_58 (by decide) ?_
      obtain ⟨σ20, e21, h⟩ := lt_some h
      refine ev_putI dX11_readBehind_59 fl_X11_101 rfl (Or.inl rfl) g14 ⟨rfl, rfl⟩ ?_
      refine ev_st e21 ?_
      refine ev_iconst (v := 1) dX11_readBehind_62 (by decide) ?_
      exact ev_retI .boolean dX11_readBehind_63 rfl rfl h
  · refine ev_icmp_ne (tgt := 64) dX11_readBehind_44 rfl c13 ?_
    refine ev_sub (ls' := [(0, .ref a0), (1, .int (a1)), (2, .int (a2))]) [0, 1, 2] rfl ?_
    exact e_X11_readBehind_64  h
def s_X11_readBehind (a0 : Nat) (a1 : Int32) (σ : St) : Option (Int32 × St) :=
 if isO σ 11 a0 = true then (lt ((sI σ a0 18) - 1 : Int32) fun v23 =>
 if a1 = 60 then (if (sI σ a0 19) = 4 then (op (sP σ a0 16) fun p27 =>
 if isO σ 13 p27 = true then (if inR v23 (alen σ p27) = true then (bd (s_X11_push a0 4 ((-6)) (sI σ p27 v23.toNatClampNeg) σ) fun r33 σ31 =>
 if isO σ31 11 a0 = true then (lt (setI σ31 a0 19 0) fun σ35 =>
 some (1, σ35)) else none) else none) else none) else (s_X11_readBehind_41 a0 a1 v23 σ)) else (s_X11_readBehind_41 a0 a1 v23 σ)) else none
set_option maxHeartbeats 4000000 in
set_option maxRecDepth 100000 in
theorem x_X11_readBehind {a0 : Nat} {a1 : Int32} {σ : St} {r : Int32} {σ' : St} (h : s_X11_readBehind a0 a1 σ = some (r, σ')) : Ex M_X11_readBehind (2) [.ref a0, .int (a1)] σ (some (.int r)) σ' := by
  unfold s_X11_readBehind at h
  refine ex_of (by decide) rfl (Nat.le_of_ble_eq_true rfl) ?_
  show Ev _ _ 0 [(0, .ref a0), (1, .int (a1))] [] _ _ _
  refine ev_aload_nR 0 dX11_readBehind_0 rfl ?_
  obtain ⟨g22, h⟩ := gd_some h
  refine ev_getI dX11_readBehind_1 fl_X11_89 rfl g22 ?_
  refine ev_iconst (v := 1) dX11_readBehind_4 (by decide) ?_
  refine ev_isub dX11_readBehind_5 ?_
  obtain ⟨v23, e24, h⟩ := lt_some h
  refine ev_topI e24 ?_
  refine ev_istore_n (ls' := [(2, .int (v23)), (0, .ref a0), (1, .int (a1))]) dX11_readBehind_6 (by decide) rfl ?_
  refine ev_iload_n 2 dX11_readBehind_7 rfl ?_
  refine ev_bipush (v := 60) dX11_readBehind_8 (by decide) ?_
  rcases it_some h with ⟨c25, h⟩ | ⟨c25, h⟩
  · refine ev_icmp_ne_n 41 dX11_readBehind_10 rfl c25 ?_
    refine ev_aload_nR 1 dX11_readBehind_13 rfl ?_
    refine ev_getI dX11_readBehind_14 fl_X11_101 rfl g22 ?_
    refine ev_iconst (v := 4) dX11_readBehind_17 (by decide) ?_
    rcases it_some h with ⟨c26, h⟩ | ⟨c26, h⟩
    · refine ev_icmp_ne_n 41 dX11_readBehind_18 rfl c26 ?_
      refine ev_aload_nR 1 dX11_readBehind_21 rfl ?_
      refine ev_iconst (v := 4) dX11_readBehind_22 (by decide) ?_
      refine ev_bipush (v := (-6)) dX11_readBehind_23 (by decide) ?_
      refine ev_aload_nR 1 dX11_readBehind_25 rfl ?_
      obtain ⟨p27, e28, h⟩ := op_some h
      refine ev_getPR dX11_readBehind_26 fl_X11_47 rfl g22 e28 ?_
      refine ev_iload_n 0 dX11_readBehind_29 rfl ?_
      obtain ⟨g29, h⟩ := gd_some h
      obtain ⟨g30, h⟩ := gd_some h
      refine ev_iald dX11_readBehind_30 (isA_O g29) g30 ?_
      obtain ⟨r33, σ31, e32, h⟩ := bd_some h
      refine ev_invVv (As := [.int (4), .int ((-6)), .int (sI σ p27 v23.toNatClampNeg)]) (st := []) dX11_readBehind_31 cb_X11_push tp_1085 tp_1087 tp_56 kf11 rfl (by omega) g22 rfl rfl (Nat.le_of_ble_eq_true rfl) (x_X11_push e32) ?_
      refine ev_aload_nR 1 dX11_readBehind_34 rfl ?_
      refine ev_iconst (v := 0) dX11_readBehind_35 (by decide) ?_
      obtain ⟨g34, h⟩ := gd_some h
      obtain ⟨σ35, e36, h⟩ := lt_some h
      refine ev_putI dX11_readBehind_36 fl_X11_101 rfl (Or.inl rfl) g34 ⟨rfl, rfl⟩ ?_
      refine ev_st e36 ?_
      refine ev_iconst (v := 1) dX11_readBehind_39 (by decide) ?_
      exact ev_retI .boolean dX11_readBehind_40 rfl rfl h
    · refine ev_icmp_ne (tgt := 41) dX11_readBehind_18 rfl c26 ?_
      refine ev_sub (ls' := [(0, .ref a0), (1, .int (a1)), (2, .int (v23))]) [1, 2, 0] rfl ?_
      exact e_X11_readBehind_41  h
  · refine ev_icmp_ne (tgt := 41) dX11_readBehind_10 rfl c25 ?_
    refine ev_sub (ls' := [(0, .ref a0), (1, .int (a1)), (2, .int (v23))]) [1, 2, 0] rfl ?_
    exact e_X11_readBehind_41  h
def s_X11_reads (a0 : Nat) (a1 : Int32) (σ : St) : Option (Int32 × St) :=
 if isO σ 11 a0 = true then (lt (sI σ a0 19 : Int32) fun v2 =>
 if v2 = 0 then (bd (s_X11_readGoal a0 a1 σ) fun r7 σ5 =>
 if zok r7 = true then (some (r7, σ5)) else none) else (if v2 = 1 then (bd (s_X11_readSign a0 a1 σ) fun r12 σ10 =>
 if zok r12 = true then (some (r12, σ10)) else none) else (if v2 = 2 then (if a1 = 41 then (lt (setI σ a0 18 ((sI σ a0 18) - 1)) fun σ16 =>
 bd (s_X11_complete a0 σ16) fun r20 σ18 =>
 some (1, σ18)) else (some (0, σ))) else (if v2 = 3 then (bd (s_X11_readHead a0 a1 σ) fun r24 σ22 =>
 if zok r24 = true then (some (r24, σ22)) else none) else (if v2 = 4 then (bd (s_X11_readBehind a0 a1 σ) fun r29 σ27 =>
 if zok r29 = true then (some (r29, σ27)) else none) else (if v2 = 5 then (bd (s_X11_readBehind a0 a1 σ) fun r34 σ32 =>
 if zok r34 = true then (some (r34, σ32)) else none) else (some (0, σ)))))))) else none
set_option maxHeartbeats 4000000 in
set_option maxRecDepth 100000 in
theorem x_X11_reads {a0 : Nat} {a1 : Int32} {σ : St} {r : Int32} {σ' : St} (h : s_X11_reads a0 a1 σ = some (r, σ')) : Ex M_X11_reads (4) [.ref a0, .int (a1)] σ (some (.int r)) σ' := by
  unfold s_X11_reads at h
  refine ex_of (by decide) rfl (Nat.le_of_ble_eq_true rfl) ?_
  show Ev _ _ 0 [(0, .ref a0), (1, .int (a1))] [] _ _ _
  refine ev_aload_nR 0 dX11_reads_0 rfl ?_
  obtain ⟨g1, h⟩ := gd_some h
  refine ev_getI dX11_reads_1 fl_X11_101 rfl g1 ?_
  obtain ⟨v2, e3, h⟩ := lt_some h
  refine ev_topI e3 ?_
  rcases it_some h with ⟨c4, h⟩ | ⟨c4, h⟩
  · refine ev_tableIn (off := 40) (tgt := 44) dX11_reads_4 0 (by rw [c4]; decide) (by decide) rfl rfl ?_
    refine ev_aload_nR 0 dX11_reads_44 rfl ?_
    refine ev_iload_n 1 dX11_reads_45 rfl ?_
    obtain ⟨r7, σ5, e6, h⟩ := bd_some h
    refine ev_invVi (As := [.int (a1)]) (st := []) dX11_reads_46 cb_X11_readGoal tp_1093 tp_1095 tp_58 kf11 rfl (by omega) g1 rfl rfl (Nat.le_of_ble_eq_true rfl) (x_X11_readGoal e6) ?_
    obtain ⟨g8, h⟩ := gd_some h
    exact ev_retI .boolean dX11_reads_49 rfl (nz_of g8).1 h
  rcases it_some h with ⟨c9, h⟩ | ⟨c9, h⟩
  · refine ev_tableIn (off := 46) (tgt := 50) dX11_reads_4 1 (by rw [c9]; decide) (by decide) rfl rfl ?_
    refine ev_aload_nR 0 dX11_reads_50 rfl ?_
    refine ev_iload_n 1 dX11_reads_51 rfl ?_
    obtain ⟨r12, σ10, e11, h⟩ := bd_some h
    refine ev_invVi (As := [.int (a1)]) (st := []) dX11_reads_52 cb_X11_readSign tp_1112 tp_1114 tp_62 kf11 rfl (by omega) g1 rfl rfl (Nat.le_of_ble_eq_true rfl) (x_X11_readSign e11) ?_
    obtain ⟨g13, h⟩ := gd_some h
    exact ev_retI .boolean dX11_reads_55 rfl (nz_of g13).1 h
  rcases it_some h with ⟨c14, h⟩ | ⟨c14, h⟩
  · refine ev_tableIn (off := 52) (tgt := 56) dX11_reads_4 2 (by rw [c14]; decide) (by decide) rfl rfl ?_
    refine ev_iload_n 1 dX11_reads_56 rfl ?_
    refine ev_bipush (v := 41) dX11_reads_57 (by decide) ?_
    rcases it_some h with ⟨c15, h⟩ | ⟨c15, h⟩
    · refine ev_icmp_eq (tgt := 64) dX11_reads_59 rfl c15 ?_
      refine ev_aload_nR 0 dX11_reads_64 rfl ?_
      refine ev_dup dX11_reads_65 rfl ?_
      refine ev_getI dX11_reads_66 fl_X11_89 rfl g1 ?_
      refine ev_iconst (v := 1) dX11_reads_69 (by decide) ?_
      refine ev_isub dX11_reads_70 ?_
      obtain ⟨σ16, e17, h⟩ := lt_some h
      refine ev_putI dX11_reads_71 fl_X11_89 rfl (Or.inl rfl) g1 ⟨rfl, rfl⟩ ?_
      refine ev_st e17 ?_
      refine ev_aload_nR 0 dX11_reads_74 rfl ?_
      obtain ⟨r20, σ18, e19, h⟩ := bd_some h
      refine ev_invVv (As := []) (st := []) dX11_reads_75 cb_X11_complete tp_1104 tp_1106 tp_60 kf11 rfl (by omega) (isO_I e17 g1) rfl rfl (Nat.le_of_ble_eq_true rfl) (x_X11_complete e19) ?_
      refine ev_iconst (v := 1) dX11_reads_78 (by decide) ?_
      exact ev_retI .boolean dX11_reads_79 rfl rfl h
    · refine ev_icmp_eq_n 64 dX11_reads_59 rfl c15 ?_
      refine ev_iconst (v := 0) dX11_reads_62 (by decide) ?_
      exact ev_retI .boolean dX11_reads_63 rfl rfl h
  rcases it_some h with ⟨c21, h⟩ | ⟨c21, h⟩
  · refine ev_tableIn (off := 76) (tgt := 80) dX11_reads_4 3 (by rw [c21]; decide) (by decide) rfl rfl ?_
    refine ev_aload_nR 0 dX11_reads_80 rfl ?_
    refine ev_iload_n 1 dX11_reads_81 rfl ?_
    obtain ⟨r24, σ22, e23, h⟩ := bd_some h
    refine ev_invVi (As := [.int (a1)]) (st := []) dX11_reads_82 cb_X11_readHead tp_1116 tp_1118 tp_63 kf11 rfl (by omega) g1 rfl rfl (Nat.le_of_ble_eq_true rfl) (x_X11_readHead e23) ?_
    obtain ⟨g25, h⟩ := gd_some h
    exact ev_retI .boolean dX11_reads_85 rfl (nz_of g25).1 h
  rcases it_some h with ⟨c26, h⟩ | ⟨c26, h⟩
  · refine ev_tableIn (off := 82) (tgt := 86) dX11_reads_4 4 (by rw [c26]; decide) (by decide) rfl rfl ?_
    refine ev_aload_nR 0 dX11_reads_86 rfl ?_
    refine ev_iload_n 1 dX11_reads_87 rfl ?_
    obtain ⟨r29, σ27, e28, h⟩ := bd_some h
    refine ev_invVi (As := [.int (a1)]) (st := []) dX11_reads_88 cb_X11_readBehind tp_1120 tp_1122 tp_64 kf11 rfl (by omega) g1 rfl rfl (Nat.le_of_ble_eq_true rfl) (x_X11_readBehind e28) ?_
    obtain ⟨g30, h⟩ := gd_some h
    exact ev_retI .boolean dX11_reads_91 rfl (nz_of g30).1 h
  rcases it_some h with ⟨c31, h⟩ | ⟨c31, h⟩
  · refine ev_tableIn (off := 82) (tgt := 86) dX11_reads_4 5 (by rw [c31]; decide) (by decide) rfl rfl ?_
    refine ev_aload_nR 0 dX11_reads_86 rfl ?_
    refine ev_iload_n 1 dX11_reads_87 rfl ?_
    obtain ⟨r34, σ32, e33, h⟩ := bd_some h
    refine ev_invVi (As := [.int (a1)]) (st := []) dX11_reads_88 cb_X11_readBehind tp_1120 tp_1122 tp_64 kf11 rfl (by omega) g1 rfl rfl (Nat.le_of_ble_eq_true rfl) (x_X11_readBehind e33) ?_
    obtain ⟨g35, h⟩ := gd_some h
    exact ev_retI .boolean dX11_reads_91 rfl (nz_of g35).1 h
  have hx : v2.toInt < 0 ∨ 5 < v2.toInt := tab_out v2 0 5 (by decide) (fun k h1 h2 => by
      rcases (show k = 0 ∨ k = 1 ∨ k = 2 ∨ k = 3 ∨ k = 4 ∨ k = 5 by omega) with rfl | rfl | rfl | rfl | rfl | rfl
      · exact ne_toInt c4
      · exact ne_toInt c9
      · exact ne_toInt c14
      · exact ne_toInt c21
      · exact ne_toInt c26
      · exact ne_toInt c31)
  refine ev_tableOut (tgt := 92) dX11_reads_4 hx rfl ?_
  refine ev_iconst (v := 0) dX11_reads_92 (by decide) ?_
  exact ev_retI .boolean dX11_reads_93 rfl rfl h
def s_X11_read_117 (a0 : Nat) (a1 : Int32) (t0 : Int32) (σ : St) : Option (Int32 × St) :=
 if t0 = 0 then (if isO σ 11 a0 = true then (op (sP σ a0 1) fun p3 =>
 if isO σ 13 p3 = true then (if inR a1 (alen σ p3) = true then (some (sI σ p3 a1.toNatClampNeg, σ)) else none) else none) else none) else (some ((-6), σ))
set_option maxHeartbeats 4000000 in
set_option maxRecDepth 100000 in
theorem e_X11_read_117 {r : Int32} {σ' : St} : ∀ {a0 : Nat} {a1 : Int32} {t0 : Int32} {σ : St}, s_X11_read_117 a0 a1 t0 σ = some (r, σ') → Ev M_X11_read (5) 117 [(0, .ref a0), (1, .int (a1))] [.int (t0)] σ (some (.int r)) σ' := by
  intro a0 a1 t0 σ h
  unfold s_X11_read_117 at h
  refine ev_istore_n (ls' := [(3, .int (t0)), (0, .ref a0), (1, .int (a1))]) dX11_read_117 (by decide) rfl ?_
  refine ev_iload_n 0 dX11_read_118 rfl ?_
  rcases it_some h with ⟨c1, h⟩ | ⟨c1, h⟩
  · refine ev_if_eq (tgt := 127) dX11_read_119 rfl c1 ?_
    refine ev_aload_nR 1 dX11_read_127 rfl ?_
    obtain ⟨g2, h⟩ := gd_some h
    obtain ⟨p3, e4, h⟩ := op_some h
    refine ev_getPR dX11_read_128 fl_X11_13 rfl g2 e4 ?_
    refine ev_iload_n 2 dX11_read_131 rfl ?_
    obtain ⟨g5, h⟩ := gd_some h
    obtain ⟨g6, h⟩ := gd_some h
    refine ev_iald dX11_read_132 (isA_O g5) g6 ?_
    exact ev_retI .int dX11_read_133 rfl rfl h
  · refine ev_if_eq_n 127 dX11_read_119 rfl c1 ?_
    refine ev_bipush (v := (-6)) dX11_read_122 (by decide) ?_
    refine ev_goto (tgt := 133) dX11_read_124 rfl ?_
    exact ev_retI .int dX11_read_133 rfl rfl h
def s_X11_read_116 (a0 : Nat) (a1 : Int32) (σ : St) : Option (Int32 × St) :=
 s_X11_read_117 a0 a1 0 σ
set_option maxHeartbeats 4000000 in
set_option maxRecDepth 100000 in
theorem e_X11_read_116 {r : Int32} {σ' : St} : ∀ {a0 : Nat} {a1 : Int32} {σ : St}, s_X11_read_116 a0 a1 σ = some (r, σ') → Ev M_X11_read (5) 116 [(0, .ref a0), (1, .int (a1))] [] σ (some (.int r)) σ' := by
  intro a0 a1 σ h
  unfold s_X11_read_116 at h
  refine ev_iconst (v := 0) dX11_read_116 (by decide) ?_
  refine ev_sub (ls' := [(0, .ref a0), (1, .int (a1))]) [0, 1] rfl ?_
  exact e_X11_read_117  h
def s_X11_read_97 (a0 : Nat) (a1 : Int32) (σ : St) : Option (Int32 × St) :=
 if isO σ 11 a0 = true then (op (sP σ a0 14) fun p8 =>
 if isO σ 13 p8 = true then (if inR ((sI σ a0 18) - 1) (alen σ p8) = true then (if (sI σ p8 (((sI σ a0 18) - 1).toNatClampNeg)) = 5 then (s_X11_read_117 a0 a1 1 σ) else (s_X11_read_116 a0 a1 σ)) else none) else none) else none
set_option maxHeartbeats 4000000 in
set_option maxRecDepth 100000 in
theorem e_X11_read_97 {r : Int32} {σ' : St} : ∀ {a0 : Nat} {a1 : Int32} {σ : St}, s_X11_read_97 a0 a1 σ = some (r, σ') → Ev M_X11_read (5) 97 [(0, .ref a0), (1, .int (a1))] [] σ (some (.int r)) σ' := by
  intro a0 a1 σ h
  unfold s_X11_read_97 at h
  refine ev_aload_nR 0 dX11_read_97 rfl ?_
  obtain ⟨g7, h⟩ := gd_some h
  obtain ⟨p8, e9, h⟩ := op_some h
  refine ev_getPR dX11_read_98 fl_X11_41 rfl g7 e9 ?_
  refine ev_aload_nR 0 dX11_read_101 rfl ?_
  refine ev_getI dX11_read_102 fl_X11_89 rfl g7 ?_
  refine ev_iconst (v := 1) dX11_read_105 (by decide) ?_
  refine ev_isub dX11_read_106 ?_
  obtain ⟨g10, h⟩ := gd_some h
  obtain ⟨g11, h⟩ := gd_some h
  refine ev_iald dX11_read_107 (isA_O g10) g11 ?_
  refine ev_iconst (v := 5) dX11_read_108 (by decide) ?_
  rcases it_some h with ⟨c12, h⟩ | ⟨c12, h⟩
  · refine ev_icmp_ne_n 116 dX11_read_109 rfl c12 ?_
    refine ev_iconst (v := 1) dX11_read_112 (by decide) ?_
    refine ev_goto (tgt := 117) dX11_read_113 rfl ?_
    refine ev_sub (ls' := [(0, .ref a0), (1, .int (a1))]) [0, 1] rfl ?_
    exact e_X11_read_117  h
  · refine ev_icmp_ne (tgt := 116) dX11_read_109 rfl c12 ?_
    refine ev_sub (ls' := [(0, .ref a0), (1, .int (a1))]) [0, 1] rfl ?_
    exact e_X11_read_116  h
def sb_X11_read_36 (k36 : Nat → Int32 → Int32 → St → Option (Int32 × St)) (a0 : Nat) (a1 : Int32) (a3 : Int32) (σ : St) : Option (Int32 × St) :=
 if isO σ 11 a0 = true then (op (sP σ a0 1) fun p14 =>
 if isO σ 13 p14 = true then (if inR a1 (alen σ p14) = true then (if (sI σ p14 a1.toNatClampNeg) ≤ a3 then (if (sI σ a0 19) = 6 then (s_X11_read_117 a0 a1 1 σ) else (if (sI σ a0 19) = 4 then (s_X11_read_97 a0 a1 σ) else (if (sI σ a0 19) = 5 then (s_X11_read_97 a0 a1 σ) else (s_X11_read_116 a0 a1 σ)))) else (op (sP σ a0 0) fun p22 =>
 if isO σ 13 p22 = true then (if inR ((60 * a1) + a3) (alen σ p22) = true then (bd (s_X11_reads a0 (sI σ p22 (((60 * a1) + a3).toNatClampNeg)) σ) fun r28 σ26 =>
 if r28 = 0 then (some (a3, σ26)) else (lt (a3 + 1 : Int32) fun v30 =>
 k36 a0 a1 v30 σ26)) else none) else none)) else none) else none) else none
def s_X11_read_36 (F : Nat) : Nat → Int32 → Int32 → St → Option (Int32 × St) := lp (fun _ _ _ _ => none) (sb_X11_read_36 ) F
set_option maxHeartbeats 4000000 in
set_option maxRecDepth 100000 in
theorem e_X11_read_36 {r : Int32} {σ' : St} (F : Nat) : ∀ {a0 : Nat} {a1 : Int32} {a3 : Int32} {σ : St}, s_X11_read_36 F a0 a1 a3 σ = some (r, σ') → Ev M_X11_read (5) 36 [(0, .ref a0), (1, .int (a1)), (3, .int (a3))] [] σ (some (.int r)) σ' := by
  induction F with
  | zero => intro a0 a1 a3 σ h; cases h
  | succ F ih =>
    intro a0 a1 a3 σ h
    change sb_X11_read_36  (s_X11_read_36 F) a0 a1 a3 σ = some (r, σ') at h
    unfold sb_X11_read_36 at h
    have hk36 := @ih
    refine ev_iload_n 2 dX11_read_36 rfl ?_
    refine ev_aload_nR 0 dX11_read_37 rfl ?_
    obtain ⟨g13, h⟩ := gd_some h
    obtain ⟨p14, e15, h⟩ := op_some h
    refine ev_getPR dX11_read_38 fl_X11_13 rfl g13 e15 ?_
    refine ev_iload_n 1 dX11_read_41 rfl ?_
    obtain ⟨g16, h⟩ := gd_some h
    obtain ⟨g17, h⟩ := gd_some h
    refine ev_iald dX11_read_42 (isA_O g16) g17 ?_
    rcases it_some h with ⟨c18, h⟩ | ⟨c18, h⟩
    · refine ev_icmp_ge (tgt := 72) dX11_read_43 rfl c18 ?_
      refine ev_aload_nR 0 dX11_read_72 rfl ?_
      refine ev_getI dX11_read_73 fl_X11_101 rfl g13 ?_
      refine ev_bipush (v := 6) dX11_read_76 (by decide) ?_
      rcases it_some h with ⟨c19, h⟩ | ⟨c19, h⟩
      · refine ev_icmp_eq (tgt := 112) dX11_read_78 rfl c19 ?_
        refine ev_iconst (v := 1) dX11_read_112 (by decide) ?_
        refine ev_goto (tgt := 117) dX11_read_113 rfl ?_
        refine ev_sub (ls' := [(0, .ref a0), (1, .int (a1))]) [0, 1] rfl ?_
        exact e_X11_read_117  h
      · refine ev_icmp_eq_n 112 dX11_read_78 rfl c19 ?_
        refine ev_aload_nR 0 dX11_read_81 rfl ?_
        refine ev_getI dX11_read_82 fl_X11_101 rfl g13 ?_
        refine ev_iconst (v := 4) dX11_read_85 (by decide) ?_
        rcases it_some h with ⟨c20, h⟩ | ⟨c20, h⟩
        · refine ev_icmp_eq (tgt := 97) dX11_read_86 rfl c20 ?_
          refine ev_sub (ls' := [(0, .ref a0), (1, .int (a1))]) [0, 1] rfl ?_
          exact e_X11_read_97  h
        · refine ev_icmp_eq_n 97 dX11_read_86 rfl c20 ?_
          refine ev_aload_nR 0 dX11_read_89 rfl ?_
          refine ev_getI dX11_read_90 fl_X11_101 rfl g13 ?_
          refine ev_iconst (v := 5) dX11_read_93 (by decide) ?_
          rcases it_some h with ⟨c21, h⟩ | ⟨c21, h⟩
          · refine ev_icmp_ne_n 116 dX11_read_94 rfl c21 ?_
            refine ev_sub (ls' := [(0, .ref a0), (1, .int (a1))]) [0, 1] rfl ?_
            exact e_X11_read_97  h
          · refine ev_icmp_ne (tgt := 116) dX11_read_94 rfl c21 ?_
            refine ev_sub (ls' := [(0, .ref a0), (1, .int (a1))]) [0, 1] rfl ?_
            exact e_X11_read_116  h
    · refine ev_icmp_ge_n 72 dX11_read_43 rfl c18 ?_
      refine ev_aload_nR 0 dX11_read_46 rfl ?_
      refine ev_aload_nR 0 dX11_read_47 rfl ?_
      obtain ⟨p22, e23, h⟩ := op_some h
      refine ev_getPR dX11_read_48 fl_X11_7 rfl g13 e23 ?_
      refine ev_bipush (v := 60) dX11_read_51 (by decide) ?_
      refine ev_iload_n 1 dX11_read_53 rfl ?_
      refine ev_imul dX11_read_54 ?_
      refine ev_iload_n 2 dX11_read_55 rfl ?_
      refine ev_iadd dX11_read_56 ?_
      obtain ⟨g24, h⟩ := gd_some h
      obtain ⟨g25, h⟩ := gd_some h
      refine ev_iald dX11_read_57 (isA_O g24) g25 ?_
      obtain ⟨r28, σ26, e27, h⟩ := bd_some h
      refine ev_invVi (As := [.int (sI σ p22 (((60 * a1) + a3).toNatClampNeg))]) (st := []) dX11_read_58 cb_X11_reads tp_1089 tp_1091 tp_57 kf11 rfl (by omega) g13 rfl rfl (Nat.le_of_ble_eq_true rfl) (x_X11_reads e27) ?_
      rcases it_some h with ⟨c29, h⟩ | ⟨c29, h⟩
      · refine ev_if_ne_n 66 dX11_read_61 rfl c29 ?_
        refine ev_iload_n 2 dX11_read_64 rfl ?_
        exact ev_retI .int dX11_read_65 rfl rfl h
      · refine ev_if_ne (tgt := 66) dX11_read_61 rfl c29 ?_
        obtain ⟨v30, e31, h⟩ := lt_some h
        refine ev_iinc (v := v30) (ls' := [(3, .int (v30)), (0, .ref a0), (1, .int (a1))]) 2 dX11_read_66 rfl e31.symm (by decide) rfl ?_
        refine ev_goto (tgt := 36) dX11_read_69 rfl ?_
        refine ev_sub (ls' := [(0, .ref a0), (1, .int (a1)), (3, .int (v30))]) [1, 2, 0] rfl ?_
        exact hk36 h
def s_X11_read_15 (a0 : Nat) (a1 : Int32) (a2 : Int32) (t0 : Nat) (t1 : Int32) (σ : St) : Option (Int32 × St) :=
 if isO σ 11 t0 = true then (bd (s_X11_push t0 t1 ((-6)) a2 σ) fun r35 σ33 =>
 if (0 : Int32) ≤ a2 then (if isO σ33 11 a0 = true then (lt (setI σ33 a0 19 3) fun σ38 =>
 s_X11_read_36 16000 a0 a1 0 σ38) else none) else (if isO σ33 11 a0 = true then (lt (setI σ33 a0 19 0) fun σ41 =>
 s_X11_read_36 16000 a0 a1 0 σ41) else none)) else none
set_option maxHeartbeats 4000000 in
set_option maxRecDepth 100000 in
theorem e_X11_read_15 {r : Int32} {σ' : St} : ∀ {a0 : Nat} {a1 : Int32} {a2 : Int32} {t0 : Nat} {t1 : Int32} {σ : St}, s_X11_read_15 a0 a1 a2 t0 t1 σ = some (r, σ') → Ev M_X11_read (5) 15 [(0, .ref a0), (1, .int (a1)), (2, .int (a2))] [.int (t1), .ref t0] σ (some (.int r)) σ' := by
  intro a0 a1 a2 t0 t1 σ h
  unfold s_X11_read_15 at h
  refine ev_bipush (v := (-6)) dX11_read_15 (by decide) ?_
  refine ev_iload_n 2 dX11_read_17 rfl ?_
  obtain ⟨g32, h⟩ := gd_some h
  obtain ⟨r35, σ33, e34, h⟩ := bd_some h
  refine ev_invVv (As := [.int (t1), .int ((-6)), .int (a2)]) (st := []) dX11_read_18 cb_X11_push tp_1085 tp_1087 tp_56 kf11 rfl (by omega) g32 rfl rfl (Nat.le_of_ble_eq_true rfl) (x_X11_push e34) ?_
  refine ev_aload_nR 0 dX11_read_21 rfl ?_
  refine ev_iload_n 2 dX11_read_22 rfl ?_
  rcases it_some h with ⟨c36, h⟩ | ⟨c36, h⟩
  · refine ev_if_ge (tgt := 30) dX11_read_23 rfl c36 ?_
    refine ev_iconst (v := 3) dX11_read_30 (by decide) ?_
    obtain ⟨g37, h⟩ := gd_some h
    obtain ⟨σ38, e39, h⟩ := lt_some h
    refine ev_putI dX11_read_31 fl_X11_101 rfl (Or.inl rfl) g37 ⟨rfl, rfl⟩ ?_
    refine ev_st e39 ?_
    refine ev_iconst (v := 0) dX11_read_34 (by decide) ?_
    refine ev_istore_n (ls' := [(3, .int (0)), (0, .ref a0), (1, .int (a1)), (2, .int (a2))]) dX11_read_35 (by decide) rfl ?_
    refine ev_sub (ls' := [(0, .ref a0), (1, .int (a1)), (3, .int (0))]) [1, 2, 0] rfl ?_
    exact e_X11_read_36 16000 h
  · refine ev_if_ge_n 30 dX11_read_23 rfl c36 ?_
    refine ev_iconst (v := 0) dX11_read_26 (by decide) ?_
    refine ev_goto (tgt := 31) dX11_read_27 rfl ?_
    obtain ⟨g40, h⟩ := gd_some h
    obtain ⟨σ41, e42, h⟩ := lt_some h
    refine ev_putI dX11_read_31 fl_X11_101 rfl (Or.inl rfl) g40 ⟨rfl, rfl⟩ ?_
    refine ev_st e42 ?_
    refine ev_iconst (v := 0) dX11_read_34 (by decide) ?_
    refine ev_istore_n (ls' := [(3, .int (0)), (0, .ref a0), (1, .int (a1)), (2, .int (a2))]) dX11_read_35 (by decide) rfl ?_
    refine ev_sub (ls' := [(0, .ref a0), (1, .int (a1)), (3, .int (0))]) [1, 2, 0] rfl ?_
    exact e_X11_read_36 16000 h
def s_X11_read (a0 : Nat) (a1 : Int32) (a2 : Int32) (σ : St) : Option (Int32 × St) :=
 if isO σ 11 a0 = true then (lt (setI σ a0 18 0) fun σ44 =>
 if (0 : Int32) ≤ a2 then (s_X11_read_15 a0 a1 a2 a0 5 σ44) else (s_X11_read_15 a0 a1 a2 a0 0 σ44)) else none
set_option maxHeartbeats 4000000 in
set_option maxRecDepth 100000 in
theorem x_X11_read {a0 : Nat} {a1 : Int32} {a2 : Int32} {σ : St} {r : Int32} {σ' : St} (h : s_X11_read a0 a1 a2 σ = some (r, σ')) : Ex M_X11_read (5) [.ref a0, .int (a1), .int (a2)] σ (some (.int r)) σ' := by
  unfold s_X11_read at h
  refine ex_of (by decide) rfl (Nat.le_of_ble_eq_true rfl) ?_
  show Ev _ _ 0 [(0, .ref a0), (1, .int (a1)), (2, .int (a2))] [] _ _ _
  refine ev_aload_nR 0 dX11_read_0 rfl ?_
  refine ev_iconst (v := 0) dX11_read_1 (by decide) ?_
  obtain ⟨g43, h⟩ := gd_some h
  obtain ⟨σ44, e45, h⟩ := lt_some h
  refine ev_putI dX11_read_2 fl_X11_89 rfl (Or.inl rfl) g43 ⟨rfl, rfl⟩ ?_
  refine ev_st e45 ?_
  refine ev_aload_nR 0 dX11_read_5 rfl ?_
  refine ev_iload_n 2 dX11_read_6 rfl ?_
  rcases it_some h with ⟨c46, h⟩ | ⟨c46, h⟩
  · refine ev_if_ge (tgt := 14) dX11_read_7 rfl c46 ?_
    refine ev_iconst (v := 5) dX11_read_14 (by decide) ?_
    refine ev_sub (ls' := [(0, .ref a0), (1, .int (a1)), (2, .int (a2))]) [0, 1, 2] rfl ?_
    exact e_X11_read_15  h
  · refine ev_if_ge_n 14 dX11_read_7 rfl c46 ?_
    refine ev_iconst (v := 0) dX11_read_10 (by decide) ?_
    refine ev_goto (tgt := 15) dX11_read_11 rfl ?_
    refine ev_sub (ls' := [(0, .ref a0), (1, .int (a1)), (2, .int (a2))]) [0, 1, 2] rfl ?_
    exact e_X11_read_15  h
def s_X11_offerOf (a0 : Int32) (σ : St) : Option (Int32 × St) :=
 if a0 = 0 then (some ((-6), σ)) else (if (6 : Int32) ≤ a0 then (some (a0 + 2, σ)) else (some (a0 - 1, σ)))
set_option maxHeartbeats 4000000 in
set_option maxRecDepth 100000 in
theorem x_X11_offerOf {a0 : Int32} {σ : St} {r : Int32} {σ' : St} (h : s_X11_offerOf a0 σ = some (r, σ')) : Ex M_X11_offerOf (1) [.int (a0)] σ (some (.int r)) σ' := by
  unfold s_X11_offerOf at h
  refine ex_of (by decide) rfl (Nat.le_of_ble_eq_true rfl) ?_
  show Ev _ _ 0 [(0, .int (a0))] [] _ _ _
  refine ev_iload_n 0 dX11_offerOf_0 rfl ?_
  rcases it_some h with ⟨c1, h⟩ | ⟨c1, h⟩
  · refine ev_if_ne_n 9 dX11_offerOf_1 rfl c1 ?_
    refine ev_bipush (v := (-6)) dX11_offerOf_4 (by decide) ?_
    refine ev_goto (tgt := 24) dX11_offerOf_6 rfl ?_
    exact ev_retI .int dX11_offerOf_24 rfl rfl h
  · refine ev_if_ne (tgt := 9) dX11_offerOf_1 rfl c1 ?_
    refine ev_iload_n 0 dX11_offerOf_9 rfl ?_
    refine ev_bipush (v := 6) dX11_offerOf_10 (by decide) ?_
    rcases it_some h with ⟨c2, h⟩ | ⟨c2, h⟩
    · refine ev_icmp_ge (tgt := 21) dX11_offerOf_12 rfl c2 ?_
      refine ev_iload_n 0 dX11_offerOf_21 rfl ?_
      refine ev_iconst (v := 2) dX11_offerOf_22 (by decide) ?_
      refine ev_iadd dX11_offerOf_23 ?_
      exact ev_retI .int dX11_offerOf_24 rfl rfl h
    · refine ev_icmp_ge_n 21 dX11_offerOf_12 rfl c2 ?_
      refine ev_iload_n 0 dX11_offerOf_15 rfl ?_
      refine ev_iconst (v := 1) dX11_offerOf_16 (by decide) ?_
      refine ev_isub dX11_offerOf_17 ?_
      refine ev_goto (tgt := 24) dX11_offerOf_18 rfl ?_
      exact ev_retI .int dX11_offerOf_24 rfl rfl h
def sb_X11_readAll_42 (k42 : Nat → Int32 → Int32 → St → Option (Unit × St)) (a0 : Nat) (a2 : Int32) (a3 : Int32) (σ : St) : Option (Unit × St) :=
 if (10 : Int32) ≤ a3 then (some ((), σ)) else (if a3 = a2 then (lt (a3 + 1 : Int32) fun v3 =>
 k42 a0 a2 v3 σ) else (if isO σ 11 a0 = true then (op (sP σ a0 1) fun p6 =>
 if isO σ 13 p6 = true then (if inR a3 (alen σ p6) = true then (if (sI σ p6 a3.toNatClampNeg) < 0 then (lt (a3 + 1 : Int32) fun v11 =>
 k42 a0 a2 v11 σ) else (bd (s_X11_offerOf a3 σ) fun r15 σ13 =>
 if isO σ13 11 a0 = true then (bd (s_X11_read a0 a3 r15 σ13) fun r19 σ17 =>
 lt (a3 + 1 : Int32) fun v20 =>
 k42 a0 a2 v20 σ17) else none)) else none) else none) else none))
def s_X11_readAll_42 (F : Nat) : Nat → Int32 → Int32 → St → Option (Unit × St) := lp (fun _ _ _ _ => none) (sb_X11_readAll_42 ) F
set_option maxHeartbeats 4000000 in
set_option maxRecDepth 100000 in
theorem e_X11_readAll_42 {r : Unit} {σ' : St} (F : Nat) : ∀ {a0 : Nat} {a2 : Int32} {a3 : Int32} {σ : St}, s_X11_readAll_42 F a0 a2 a3 σ = some (r, σ') → Ev M_X11_readAll (6) 42 [(0, .ref a0), (2, .int (a2)), (3, .int (a3))] [] σ none σ' := by
  induction F with
  | zero => intro a0 a2 a3 σ h; cases h
  | succ F ih =>
    intro a0 a2 a3 σ h
    change sb_X11_readAll_42  (s_X11_readAll_42 F) a0 a2 a3 σ = some (r, σ') at h
    unfold sb_X11_readAll_42 at h
    have hk42 := @ih
    refine ev_iload_n 2 dX11_readAll_42 rfl ?_
    refine ev_bipush (v := 10) dX11_readAll_43 (by decide) ?_
    rcases it_some h with ⟨c1, h⟩ | ⟨c1, h⟩
    · refine ev_icmp_ge (tgt := 78) dX11_readAll_45 rfl c1 ?_
      exact ev_retV dX11_readAll_78 rfl h
    · refine ev_icmp_ge_n 78 dX11_readAll_45 rfl c1 ?_
      refine ev_iload_n 2 dX11_readAll_48 rfl ?_
      refine ev_iload_n 1 dX11_readAll_49 rfl ?_
      rcases it_some h with ⟨c2, h⟩ | ⟨c2, h⟩
      · refine ev_icmp_eq (tgt := 72) dX11_readAll_50 rfl c2 ?_
        obtain ⟨v3, e4, h⟩ := lt_some h
        refine ev_iinc (v := v3) (ls' := [(3, .int (v3)), (0, .ref a0), (2, .int (a2))]) 2 dX11_readAll_72 rfl e4.symm (by decide) rfl ?_
        refine ev_goto (tgt := 42) dX11_readAll_75 rfl ?_
        refine ev_sub (ls' := [(0, .ref a0), (2, .int (a2)), (3, .int (v3))]) [1, 2, 0] rfl ?_
        exact hk42 h
      · refine ev_icmp_eq_n 72 dX11_readAll_50 rfl c2 ?_
        refine ev_aload_nR 0 dX11_readAll_53 rfl ?_
        obtain ⟨g5, h⟩ := gd_some h
        obtain ⟨p6, e7, h⟩ := op_some h
        refine ev_getPR dX11_readAll_54 fl_X11_13 rfl g5 e7 ?_
        refine ev_iload_n 2 dX11_readAll_57 rfl ?_
        obtain ⟨g8, h⟩ := gd_some h
        obtain ⟨g9, h⟩ := gd_some h
        refine ev_iald dX11_readAll_58 (isA_O g8) g9 ?_
        rcases it_some h with ⟨c10, h⟩ | ⟨c10, h⟩
        · refine ev_if_lt (tgt := 72) dX11_readAll_59 rfl c10 ?_
          obtain ⟨v11, e12, h⟩ := lt_some h
          refine ev_iinc (v := v11) (ls' := [(3, .int (v11)), (0, .ref a0), (2, .int (a2))]) 2 dX11_readAll_72 rfl e12.symm (by decide) rfl ?_
          refine ev_goto (tgt := 42) dX11_readAll_75 rfl ?_
          refine ev_sub (ls' := [(0, .ref a0), (2, .int (a2)), (3, .int (v11))]) [1, 2, 0] rfl ?_
          exact hk42 h
        · refine ev_if_lt_n 72 dX11_readAll_59 rfl c10 ?_
          refine ev_aload_nR 0 dX11_readAll_62 rfl ?_
          refine ev_iload_n 2 dX11_readAll_63 rfl ?_
          refine ev_iload_n 2 dX11_readAll_64 rfl ?_
          obtain ⟨r15, σ13, e14, h⟩ := bd_some h
          refine ev_invSi (As := [.int (a3)]) (st := [.int (a3), .ref a0]) dX11_readAll_65 cb_X11_offerOf tp_1128 tp_1129 (by omega) rfl rfl (Nat.le_of_ble_eq_true rfl) (x_X11_offerOf e14) ?_
          obtain ⟨g16, h⟩ := gd_some h
          obtain ⟨r19, σ17, e18, h⟩ := bd_some h
          refine ev_invVi (As := [.int (a3), .int (r15)]) (st := []) dX11_readAll_68 cb_X11_read tp_1081 tp_1083 tp_55 kf11 rfl (by omega) g16 rfl rfl (Nat.le_of_ble_eq_true rfl) (x_X11_read e18) ?_
          refine ev_pop dX11_readAll_71 rfl ?_
          obtain ⟨v20, e21, h⟩ := lt_some h
          refine ev_iinc (v := v20) (ls' := [(3, .int (v20)), (0, .ref a0), (2, .int (a2))]) 2 dX11_readAll_72 rfl e21.symm (by decide) rfl ?_
          refine ev_goto (tgt := 42) dX11_readAll_75 rfl ?_
          refine ev_sub (ls' := [(0, .ref a0), (2, .int (a2)), (3, .int (v20))]) [1, 2, 0] rfl ?_
          exact hk42 h
def sb_X11_readAll_17 (k17 : Nat → Int32 → Int32 → Int32 → St → Option (Unit × St)) (a0 : Nat) (a1 : Int32) (a2 : Int32) (a3 : Int32) (σ : St) : Option (Unit × St) :=
 if (12 : Int32) ≤ a3 then (s_X11_readAll_42 16000 a0 a2 0 σ) else (if a1 = 0 then (s_X11_readAll_42 16000 a0 a2 0 σ) else (if isO σ 11 a0 = true then (op (sP σ a0 11) fun p25 =>
 if isO σ 13 p25 = true then (if inR a3 (alen σ p25) = true then (lt (setI σ p25 a3.toNatClampNeg 0) fun σ29 =>
 lt (a3 + 1 : Int32) fun v31 =>
 k17 a0 a1 a2 v31 σ29) else none) else none) else none))
def s_X11_readAll_17 (F : Nat) : Nat → Int32 → Int32 → Int32 → St → Option (Unit × St) := lp (fun _ _ _ _ _ => none) (sb_X11_readAll_17 ) F
set_option maxHeartbeats 4000000 in
set_option maxRecDepth 100000 in
theorem e_X11_readAll_17 {r : Unit} {σ' : St} (F : Nat) : ∀ {a0 : Nat} {a1 : Int32} {a2 : Int32} {a3 : Int32} {σ : St}, s_X11_readAll_17 F a0 a1 a2 a3 σ = some (r, σ') → Ev M_X11_readAll (6) 17 [(0, .ref a0), (1, .int (a1)), (2, .int (a2)), (3, .int (a3))] [] σ none σ' := by
  induction F with
  | zero => intro a0 a1 a2 a3 σ h; cases h
  | succ F ih =>
    intro a0 a1 a2 a3 σ h
    change sb_X11_readAll_17  (s_X11_readAll_17 F) a0 a1 a2 a3 σ = some (r, σ') at h
    unfold sb_X11_readAll_17 at h
    have hk17 := @ih
    refine ev_iload_n 3 dX11_readAll_17 rfl ?_
    refine ev_bipush (v := 12) dX11_readAll_18 (by decide) ?_
    rcases it_some h with ⟨c22, h⟩ | ⟨c22, h⟩
    · refine ev_icmp_ge (tgt := 40) dX11_readAll_20 rfl c22 ?_
      refine ev_iconst (v := 0) dX11_readAll_40 (by decide) ?_
      refine ev_istore_n (ls' := [(3, .int (0)), (0, .ref a0), (1, .int (a1)), (2, .int (a2))]) dX11_readAll_41 (by decide) rfl ?_
      refine ev_sub (ls' := [(0, .ref a0), (2, .int (a2)), (3, .int (0))]) [1, 3, 0] rfl ?_
      exact e_X11_readAll_42 16000 h
    · refine ev_icmp_ge_n 40 dX11_readAll_20 rfl c22 ?_
      refine ev_iload_n 1 dX11_readAll_23 rfl ?_
      rcases it_some h with ⟨c23, h⟩ | ⟨c23, h⟩
      · refine ev_if_eq (tgt := 40) dX11_readAll_24 rfl c23 ?_
        refine ev_iconst (v := 0) dX11_readAll_40 (by decide) ?_
        refine ev_istore_n (ls' := [(3, .int (0)), (0, .ref a0), (1, .int (a1)), (2, .int (a2))]) dX11_readAll_41 (by decide) rfl ?_
        refine ev_sub (ls' := [(0, .ref a0), (2, .int (a2)), (3, .int (0))]) [1, 3, 0] rfl ?_
        exact e_X11_readAll_42 16000 h
      · refine ev_if_eq_n 40 dX11_readAll_24 rfl c23 ?_
        refine ev_aload_nR 0 dX11_readAll_27 rfl ?_
        obtain ⟨g24, h⟩ := gd_some h
        obtain ⟨p25, e26, h⟩ := op_some h
        refine ev_getPR dX11_readAll_28 fl_X11_32 rfl g24 e26 ?_
        refine ev_iload_n 3 dX11_readAll_31 rfl ?_
        refine ev_iconst (v := 0) dX11_readAll_32 (by decide) ?_
        obtain ⟨g27, h⟩ := gd_some h
        obtain ⟨g28, h⟩ := gd_some h
        obtain ⟨σ29, e30, h⟩ := lt_some h
        refine ev_iast dX11_readAll_33 (isO_spec g27).1 (isA_O g27) g28 ?_
        refine ev_st e30 ?_
        obtain ⟨v31, e32, h⟩ := lt_some h
        refine ev_iinc (v := v31) (ls' := [(3, .int (v31)), (0, .ref a0), (1, .int (a1)), (2, .int (a2))]) 3 dX11_readAll_34 rfl e32.symm (by decide) rfl ?_
        refine ev_goto (tgt := 17) dX11_readAll_37 rfl ?_
        refine ev_sub (ls' := [(0, .ref a0), (1, .int (a1)), (2, .int (a2)), (3, .int (v31))]) [1, 2, 3, 0] rfl ?_
        exact hk17 h
def s_X11_readAll (a0 : Nat) (a1 : Int32) (a2 : Int32) (σ : St) : Option (Unit × St) :=
 if isO σ 11 a0 = true then (lt (setI σ a0 5 0) fun σ34 =>
 lt (setI σ34 a0 6 0) fun σ36 =>
 if zok a1 = true then (lt (setI σ36 a0 20 a1) fun σ38 =>
 s_X11_readAll_17 16000 a0 a1 a2 0 σ38) else none) else none
set_option maxHeartbeats 4000000 in
set_option maxRecDepth 100000 in
theorem x_X11_readAll {a0 : Nat} {a1 : Int32} {a2 : Int32} {σ : St} {r : Unit} {σ' : St} (h : s_X11_readAll a0 a1 a2 σ = some (r, σ')) : Ex M_X11_readAll (6) [.ref a0, .int (a1), .int (a2)] σ none σ' := by
  unfold s_X11_readAll at h
  refine ex_of (by decide) rfl (Nat.le_of_ble_eq_true rfl) ?_
  show Ev _ _ 0 [(0, .ref a0), (1, .int (a1)), (2, .int (a2))] [] _ _ _
  refine ev_aload_nR 0 dX11_readAll_0 rfl ?_
  refine ev_iconst (v := 0) dX11_readAll_1 (by decide) ?_
  obtain ⟨g33, h⟩ := gd_some h
  obtain ⟨σ34, e35, h⟩ := lt_some h
  refine ev_putI dX11_readAll_2 fl_X11_92 rfl (Or.inl rfl) g33 ⟨rfl, rfl⟩ ?_
  refine ev_st e35 ?_
  refine ev_aload_nR 0 dX11_readAll_5 rfl ?_
  refine ev_iconst (v := 0) dX11_readAll_6 (by decide) ?_
  obtain ⟨σ36, e37, h⟩ := lt_some h
  refine ev_putI dX11_readAll_7 fl_X11_126 rfl (Or.inl rfl) (isO_I e35 g33) ⟨rfl, rfl⟩ ?_
  refine ev_st e37 ?_
  refine ev_aload_nR 0 dX11_readAll_10 rfl ?_
  refine ev_iload_n 1 dX11_readAll_11 rfl ?_
  obtain ⟨g40, h⟩ := gd_some h
  obtain ⟨σ38, e39, h⟩ := lt_some h
  refine ev_putI dX11_readAll_12 fl_X11_95 rfl (Or.inl rfl) (isO_I e37 (isO_I e35 g33)) ⟨(nz_of g40).1, (nz_of g40).2.1⟩ ?_
  refine ev_st e39 ?_
  refine ev_iconst (v := 0) dX11_readAll_15 (by decide) ?_
  refine ev_istore_n (ls' := [(3, .int (0)), (0, .ref a0), (1, .int (a1)), (2, .int (a2))]) dX11_readAll_16 (by decide) rfl ?_
  refine ev_sub (ls' := [(0, .ref a0), (1, .int (a1)), (2, .int (a2)), (3, .int (0))]) [1, 2, 3, 0] rfl ?_
  exact e_X11_readAll_17 16000 h
