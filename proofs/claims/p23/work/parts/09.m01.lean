def s_X5_next (a0 : Nat) (σ : St) : Option (Int32 × St) :=
 if isO σ 5 a0 = true then (if (sI σ a0 3) = ((-6)) then (if (sI σ a0 2) < 0 then (if chok 0 = true then (some (0, σ)) else none) else (op (sP σ a0 0) fun p6 =>
 if isO σ 12 p6 = true then (if (nI (alen σ p6)) ≤ (sI σ a0 2) then (if chok 0 = true then (some (0, σ)) else none) else (if inR (sI σ a0 2) (alen σ p6) = true then (if chok (sI σ p6 ((sI σ a0 2).toNatClampNeg)) = true then (some (sI σ p6 ((sI σ a0 2).toNatClampNeg), σ)) else none) else none)) else none)) else (if chok 0 = true then (some (0, σ)) else none)) else none
set_option maxHeartbeats 4000000 in
set_option maxRecDepth 100000 in
theorem x_X5_next {a0 : Nat} {σ : St} {r : Int32} {σ' : St} (h : s_X5_next a0 σ = some (r, σ')) : Ex M_X5_next (1) [.ref a0] σ (some (.int r)) σ' := by
  unfold s_X5_next at h
  refine ex_of (by decide) rfl (Nat.le_of_ble_eq_true rfl) ?_
  show Ev _ _ 0 [(0, .ref a0)] [] _ _ _
  refine ev_aload_nR 0 dX5_next_0 rfl ?_
  obtain ⟨g1, h⟩ := gd_some h
  refine ev_getI dX5_next_1 fl_X5_15 rfl g1 ?_
  refine ev_bipush (v := (-6)) dX5_next_4 (by decide) ?_
  rcases it_some h with ⟨c2, h⟩ | ⟨c2, h⟩
  · refine ev_icmp_ne_n 40 dX5_next_6 rfl c2 ?_
    refine ev_aload_nR 0 dX5_next_9 rfl ?_
    refine ev_getI dX5_next_10 fl_X5_9 rfl g1 ?_
    rcases it_some h with ⟨c4, h⟩ | ⟨c4, h⟩
    · refine ev_if_lt (tgt := 40) dX5_next_13 rfl c4 ?_
      refine ev_iconst (v := 0) dX5_next_40 (by decide) ?_
      obtain ⟨g5, h⟩ := gd_some h
      exact ev_retI .char dX5_next_41 rfl (nc_of g5) h
    · refine ev_if_lt_n 40 dX5_next_13 rfl c4 ?_
      refine ev_aload_nR 0 dX5_next_16 rfl ?_
      refine ev_getI dX5_next_17 fl_X5_9 rfl g1 ?_
      refine ev_aload_nR 0 dX5_next_20 rfl ?_
      obtain ⟨p6, e7, h⟩ := op_some h
      refine ev_getPR dX5_next_21 fl_X5_18 rfl g1 e7 ?_
      obtain ⟨g8, h⟩ := gd_some h
      refine ev_alen dX5_next_24 (isA_O g8) (by decide) ?_
      rcases it_some h with ⟨c9, h⟩ | ⟨c9, h⟩
      · refine ev_icmp_ge (tgt := 40) dX5_next_25 rfl c9 ?_
        refine ev_iconst (v := 0) dX5_next_40 (by decide) ?_
        obtain ⟨g10, h⟩ := gd_some h
        exact ev_retI .char dX5_next_41 rfl (nc_of g10) h
      · refine ev_icmp_ge_n 40 dX5_next_25 rfl c9 ?_
        refine ev_aload_nR 0 dX5_next_28 rfl ?_
        refine ev_getPR dX5_next_29 fl_X5_18 rfl g1 e7 ?_
        refine ev_aload_nR 0 dX5_next_32 rfl ?_
        refine ev_getI dX5_next_33 fl_X5_9 rfl g1 ?_
        obtain ⟨g11, h⟩ := gd_some h
        refine ev_cald dX5_next_36 (isA_O g8) g11 ?_
        refine ev_goto (tgt := 41) dX5_next_37 rfl ?_
        obtain ⟨g12, h⟩ := gd_some h
        exact ev_retI .char dX5_next_41 rfl (nc_of g12) h
  · refine ev_icmp_ne (tgt := 40) dX5_next_6 rfl c2 ?_
    refine ev_iconst (v := 0) dX5_next_40 (by decide) ?_
    obtain ⟨g3, h⟩ := gd_some h
    exact ev_retI .char dX5_next_41 rfl (nc_of g3) h
def s_X5_refuse (a0 : Nat) (σ : St) : Option (Int32 × St) :=
 if isO σ 5 a0 = true then (if (sI σ a0 3) = ((-6)) then (lt (setI σ a0 3 (sI σ a0 2)) fun σ3 =>
 some ((-1), σ3)) else (some ((-1), σ))) else none
set_option maxHeartbeats 4000000 in
set_option maxRecDepth 100000 in
theorem x_X5_refuse {a0 : Nat} {σ : St} {r : Int32} {σ' : St} (h : s_X5_refuse a0 σ = some (r, σ')) : Ex M_X5_refuse (1) [.ref a0] σ (some (.int r)) σ' := by
  unfold s_X5_refuse at h
  refine ex_of (by decide) rfl (Nat.le_of_ble_eq_true rfl) ?_
  show Ev _ _ 0 [(0, .ref a0)] [] _ _ _
  refine ev_aload_nR 0 dX5_refuse_0 rfl ?_
  obtain ⟨g1, h⟩ := gd_some h
  refine ev_getI dX5_refuse_1 fl_X5_15 rfl g1 ?_
  refine ev_bipush (v := (-6)) dX5_refuse_4 (by decide) ?_
  rcases it_some h with ⟨c2, h⟩ | ⟨c2, h⟩
  · refine ev_icmp_ne_n 17 dX5_refuse_6 rfl c2 ?_
    refine ev_aload_nR 0 dX5_refuse_9 rfl ?_
    refine ev_aload_nR 0 dX5_refuse_10 rfl ?_
    refine ev_getI dX5_refuse_11 fl_X5_9 rfl g1 ?_
    obtain ⟨σ3, e4, h⟩ := lt_some h
    refine ev_putI dX5_refuse_14 fl_X5_15 rfl (Or.inl rfl) g1 ⟨rfl, rfl⟩ ?_
    refine ev_st e4 ?_
    refine ev_iconst (v := (-1)) dX5_refuse_17 (by decide) ?_
    exact ev_retI .int dX5_refuse_18 rfl rfl h
  · refine ev_icmp_ne (tgt := 17) dX5_refuse_6 rfl c2 ?_
    refine ev_iconst (v := (-1)) dX5_refuse_17 (by decide) ?_
    exact ev_retI .int dX5_refuse_18 rfl rfl h
def s_X5_isAtom (a0 : Int32) (σ : St) : Option (Int32 × St) :=
 if a0 < 97 then (some (0, σ)) else (if (104 : Int32) < a0 then (some (0, σ)) else (some (1, σ)))
set_option maxHeartbeats 4000000 in
set_option maxRecDepth 100000 in
theorem x_X5_isAtom {a0 : Int32} {σ : St} {r : Int32} {σ' : St} (h : s_X5_isAtom a0 σ = some (r, σ')) : Ex M_X5_isAtom (1) [.int (a0)] σ (some (.int r)) σ' := by
  unfold s_X5_isAtom at h
  refine ex_of (by decide) rfl (Nat.le_of_ble_eq_true rfl) ?_
  show Ev _ _ 0 [(0, .int (a0))] [] _ _ _
  refine ev_iload_n 0 dX5_isAtom_0 rfl ?_
  refine ev_bipush (v := 97) dX5_isAtom_1 (by decide) ?_
  rcases it_some h with ⟨c1, h⟩ | ⟨c1, h⟩
  · refine ev_icmp_lt (tgt := 16) dX5_isAtom_3 rfl c1 ?_
    refine ev_iconst (v := 0) dX5_isAtom_16 (by decide) ?_
    exact ev_retI .boolean dX5_isAtom_17 rfl rfl h
  · refine ev_icmp_lt_n 16 dX5_isAtom_3 rfl c1 ?_
    refine ev_iload_n 0 dX5_isAtom_6 rfl ?_
    refine ev_bipush (v := 104) dX5_isAtom_7 (by decide) ?_
    rcases it_some h with ⟨c2, h⟩ | ⟨c2, h⟩
    · refine ev_icmp_gt (tgt := 16) dX5_isAtom_9 rfl c2 ?_
      refine ev_iconst (v := 0) dX5_isAtom_16 (by decide) ?_
      exact ev_retI .boolean dX5_isAtom_17 rfl rfl h
    · refine ev_icmp_gt_n 16 dX5_isAtom_9 rfl c2 ?_
      refine ev_iconst (v := 1) dX5_isAtom_12 (by decide) ?_
      refine ev_goto (tgt := 17) dX5_isAtom_13 rfl ?_
      exact ev_retI .boolean dX5_isAtom_17 rfl rfl h
def s_X3_addNode (a0 : Nat) (a1 : Int32) (a2 : Int32) (a3 : Int32) (σ : St) : Option (Int32 × St) :=
 if isO σ 3 a0 = true then (if (sI σ a0 5) < 0 then (some ((-1), σ)) else (if (sI σ a0 5) < 60 then (lt (sI σ a0 5 : Int32) fun v4 =>
 op (sP σ a0 0) fun p6 =>
 if isO σ 12 p6 = true then (if inR v4 (alen σ p6) = true then (lt (setI σ p6 v4.toNatClampNeg (a1.toUInt32 % 65536).toInt32) fun σ10 =>
 op (sP σ10 a0 1) fun p12 =>
 if isO σ10 13 p12 = true then (if inR v4 (alen σ10 p12) = true then (lt (setI σ10 p12 v4.toNatClampNeg a2) fun σ16 =>
 op (sP σ16 a0 2) fun p18 =>
 if isO σ16 13 p18 = true then (if inR v4 (alen σ16 p18) = true then (lt (setI σ16 p18 v4.toNatClampNeg a3) fun σ22 =>
 lt (setI σ22 a0 5 ((sI σ22 a0 5) + 1)) fun σ24 =>
 some (v4, σ24)) else none) else none) else none) else none) else none) else none) else (some ((-1), σ)))) else none
set_option maxHeartbeats 4000000 in
set_option maxRecDepth 100000 in
theorem x_X3_addNode {a0 : Nat} {a1 : Int32} {a2 : Int32} {a3 : Int32} {σ : St} {r : Int32} {σ' : St} (h : s_X3_addNode a0 a1 a2 a3 σ = some (r, σ')) : Ex M_X3_addNode (1) [.ref a0, .int (a1), .int (a2), .int (a3)] σ (some (.int r)) σ' := by
  unfold s_X3_addNode at h
  refine ex_of (by decide) rfl (Nat.le_of_ble_eq_true rfl) ?_
  show Ev _ _ 0 [(0, .ref a0), (1, .int (a1)), (2, .int (a2)), (3, .int (a3))] [] _ _ _
  refine ev_aload_nR 0 dX3_addNode_0 rfl ?_
  obtain ⟨g1, h⟩ := gd_some h
  refine ev_getI dX3_addNode_1 fl_X3_28 rfl g1 ?_
  rcases it_some h with ⟨c2, h⟩ | ⟨c2, h⟩
  · refine ev_if_lt (tgt := 16) dX3_addNode_4 rfl c2 ?_
    refine ev_iconst (v := (-1)) dX3_addNode_16 (by decide) ?_
    exact ev_retI .int dX3_addNode_17 rfl rfl h
  · refine ev_if_lt_n 16 dX3_addNode_4 rfl c2 ?_
    refine ev_aload_nR 0 dX3_addNode_7 rfl ?_
    refine ev_getI dX3_addNode_8 fl_X3_28 rfl g1 ?_
    refine ev_bipush (v := 60) dX3_addNode_11 (by decide) ?_
    rcases it_some h with ⟨c3, h⟩ | ⟨c3, h⟩
    · refine ev_icmp_lt (tgt := 18) dX3_addNode_13 rfl c3 ?_
      refine ev_aload_nR 0 dX3_addNode_18 rfl ?_
      refine ev_getI dX3_addNode_19 fl_X3_28 rfl g1 ?_
      obtain ⟨v4, e5, h⟩ := lt_some h
      refine ev_topI e5 ?_
      refine ev_istore (ls' := [(4, .int (v4)), (0, .ref a0), (1, .int (a1)), (2, .int (a2)), (3, .int (a3))]) dX3_addNode_22 (by decide) rfl ?_
      refine ev_aload_nR 1 dX3_addNode_24 rfl ?_
      obtain ⟨p6, e7, h⟩ := op_some h
      refine ev_getPR dX3_addNode_25 fl_X3_9 rfl g1 e7 ?_
      refine ev_iload 0 dX3_addNode_28 rfl ?_
      refine ev_iload_n 2 dX3_addNode_30 rfl ?_
      obtain ⟨g8, h⟩ := gd_some h
      obtain ⟨g9, h⟩ := gd_some h
      obtain ⟨σ10, e11, h⟩ := lt_some h
      refine ev_cast dX3_addNode_31 (isO_spec g8).1 (isA_O g8) g9 ?_
      refine ev_st e11 ?_
      refine ev_aload_nR 1 dX3_addNode_32 rfl ?_
      obtain ⟨p12, e13, h⟩ := op_some h
      refine ev_getPR dX3_addNode_33 fl_X3_15 rfl (isO_I e11 g1) e13 ?_
      refine ev_iload 0 dX3_addNode_36 rfl ?_
      refine ev_iload_n 3 dX3_addNode_38 rfl ?_
      obtain ⟨g14, h⟩ := gd_some h
      obtain ⟨g15, h⟩ := gd_some h
      obtain ⟨σ16, e17, h⟩ := lt_some h
      refine ev_iast dX3_addNode_39 (isO_spec g14).1 (isA_O g14) g15 ?_
      refine ev_st e17 ?_
      refine ev_aload_nR 1 dX3_addNode_40 rfl ?_
      obtain ⟨p18, e19, h⟩ := op_some h
      refine ev_getPR dX3_addNode_41 fl_X3_19 rfl (isO_I e17 (isO_I e11 g1)) e19 ?_
      refine ev_iload 0 dX3_addNode_44 rfl ?_
      refine ev_iload_n 4 dX3_addNode_46 rfl ?_
      obtain ⟨g20, h⟩ := gd_some h
      obtain ⟨g21, h⟩ := gd_some h
      obtain ⟨σ22, e23, h⟩ := lt_some h
      refine ev_iast dX3_addNode_47 (isO_spec g20).1 (isA_O g20) g21 ?_
      refine ev_st e23 ?_
      refine ev_aload_nR 1 dX3_addNode_48 rfl ?_
      refine ev_dup dX3_addNode_49 rfl ?_
      refine ev_getI dX3_addNode_50 fl_X3_28 rfl (isO_I e23 (isO_I e17 (isO_I e11 g1))) ?_
      refine ev_iconst (v := 1) dX3_addNode_53 (by decide) ?_
      refine ev_iadd dX3_addNode_54 ?_
      obtain ⟨σ24, e25, h⟩ := lt_some h
      refine ev_putI dX3_addNode_55 fl_X3_28 rfl (Or.inl rfl) (isO_I e23 (isO_I e17 (isO_I e11 g1))) ⟨rfl, rfl⟩ ?_
      refine ev_st e25 ?_
      refine ev_iload 0 dX3_addNode_58 rfl ?_
      exact ev_retI .int dX3_addNode_60 rfl rfl h
    · refine ev_icmp_lt_n 18 dX3_addNode_13 rfl c3 ?_
      refine ev_iconst (v := (-1)) dX3_addNode_16 (by decide) ?_
      exact ev_retI .int dX3_addNode_17 rfl rfl h
def s_X5_expect (a0 : Nat) (a1 : Int32) (σ : St) : Option (Unit × St) :=
 if isO σ 5 a0 = true then (bd (s_X5_next a0 σ) fun r4 σ2 =>
 if r4 = a1 then (if isO σ2 5 a0 = true then (lt (setI σ2 a0 2 ((sI σ2 a0 2) + 1)) fun σ11 =>
 some ((), σ11)) else none) else (if isO σ2 5 a0 = true then (bd (s_X5_refuse a0 σ2) fun r9 σ7 =>
 some ((), σ7)) else none)) else none
set_option maxHeartbeats 4000000 in
set_option maxRecDepth 100000 in
theorem x_X5_expect {a0 : Nat} {a1 : Int32} {σ : St} {r : Unit} {σ' : St} (h : s_X5_expect a0 a1 σ = some (r, σ')) : Ex M_X5_expect (2) [.ref a0, .int (a1)] σ none σ' := by
  unfold s_X5_expect at h
  refine ex_of (by decide) rfl (Nat.le_of_ble_eq_true rfl) ?_
  show Ev _ _ 0 [(0, .ref a0), (1, .int (a1))] [] _ _ _
  refine ev_aload_nR 0 dX5_expect_0 rfl ?_
  obtain ⟨g1, h⟩ := gd_some h
  obtain ⟨r4, σ2, e3, h⟩ := bd_some h
  refine ev_invVi (As := []) (st := []) dX5_expect_1 cb_X5_next tp_340 tp_342 tp_3 kf5 rfl (by omega) g1 rfl rfl (Nat.le_of_ble_eq_true rfl) (x_X5_next e3) ?_
  refine ev_iload_n 1 dX5_expect_4 rfl ?_
  rcases it_some h with ⟨c5, h⟩ | ⟨c5, h⟩
  · refine ev_icmp_ne_n 21 dX5_expect_5 rfl c5 ?_
    refine ev_aload_nR 0 dX5_expect_8 rfl ?_
    refine ev_dup dX5_expect_9 rfl ?_
    obtain ⟨g10, h⟩ := gd_some h
    refine ev_getI dX5_expect_10 fl_X5_9 rfl g10 ?_
    refine ev_iconst (v := 1) dX5_expect_13 (by decide) ?_
    refine ev_iadd dX5_expect_14 ?_
    obtain ⟨σ11, e12, h⟩ := lt_some h
    refine ev_putI dX5_expect_15 fl_X5_9 rfl (Or.inl rfl) g10 ⟨rfl, rfl⟩ ?_
    refine ev_st e12 ?_
    refine ev_goto (tgt := 26) dX5_expect_18 rfl ?_
    exact ev_retV dX5_expect_26 rfl h
  · refine ev_icmp_ne (tgt := 21) dX5_expect_5 rfl c5 ?_
    refine ev_aload_nR 0 dX5_expect_21 rfl ?_
    obtain ⟨g6, h⟩ := gd_some h
    obtain ⟨r9, σ7, e8, h⟩ := bd_some h
    refine ev_invVi (As := []) (st := []) dX5_expect_22 cb_X5_refuse tp_347 tp_349 tp_4 kf5 rfl (by omega) g6 rfl rfl (Nat.le_of_ble_eq_true rfl) (x_X5_refuse e8) ?_
    refine ev_pop dX5_expect_25 rfl ?_
    exact ev_retV dX5_expect_26 rfl h
def s_X5_readPair_42 (kg : Nat → Int32 → St → Option (Int32 × St)) (a0 : Nat) (a1 : Int32) (a2 : Int32) (a3 : Int32) (σ : St) : Option (Int32 × St) :=
 if isO σ 5 a0 = true then (lt (setI σ a0 2 ((sI σ a0 2) + 1)) fun σ2 =>
 bd (kg a0 (a1 + 1) σ2) fun r6 σ4 =>
 if isO σ4 5 a0 = true then (bd (s_X5_expect a0 41 σ4) fun r10 σ8 =>
 if isO σ8 5 a0 = true then (op (sP σ8 a0 1) fun p12 =>
 if isO σ8 3 p12 = true then (bd (s_X3_addNode p12 a3 a2 r6 σ8) fun r17 σ15 =>
 some (r17, σ15)) else none) else none) else none) else none
set_option maxHeartbeats 4000000 in
set_option maxRecDepth 100000 in
theorem e_X5_readPair_42 {kg : Nat → Int32 → St → Option (Int32 × St)} {dk : Nat} (hkg : ∀ {x0 : Nat} {x1 : Int32} {σ : St} {r : Int32} {σ' : St}, kg x0 x1 σ = some (r, σ') → Ex M_X5_readGoal dk [.ref x0, .int (x1)] σ (some (.int r)) σ') {r : Int32} {σ' : St} : ∀ {a0 : Nat} {a1 : Int32} {a2 : Int32} {a3 : Int32} {σ : St}, s_X5_readPair_42 kg a0 a1 a2 a3 σ = some (r, σ') → Ev M_X5_readPair (dk + 3) 42 [(0, .ref a0), (1, .int (a1)), (2, .int (a2)), (3, .int (a3))] [] σ (some (.int r)) σ' := by
  intro a0 a1 a2 a3 σ h
  unfold s_X5_readPair_42 at h
  refine ev_aload_nR 0 dX5_readPair_42 rfl ?_
  refine ev_dup dX5_readPair_43 rfl ?_
  obtain ⟨g1, h⟩ := gd_some h
  refine ev_getI dX5_readPair_44 fl_X5_9 rfl g1 ?_
  refine ev_iconst (v := 1) dX5_readPair_47 (by decide) ?_
  refine ev_iadd dX5_readPair_48 ?_
  obtain ⟨σ2, e3, h⟩ := lt_some h
  refine ev_putI dX5_readPair_49 fl_X5_9 rfl (Or.inl rfl) g1 ⟨rfl, rfl⟩ ?_
  refine ev_st e3 ?_
  refine ev_aload_nR 0 dX5_readPair_52 rfl ?_
  refine ev_iload_n 1 dX5_readPair_53 rfl ?_
  refine ev_iconst (v := 1) dX5_readPair_54 (by decide) ?_
  refine ev_iadd dX5_readPair_55 ?_
  obtain ⟨r6, σ4, e5, h⟩ := bd_some h
  refine ev_invVi (As := [.int (a1 + 1)]) (st := []) dX5_readPair_56 cb_X5_readGoal tp_351 tp_353 tp_5 kf5 rfl (by omega) (isO_I e3 g1) rfl rfl (Nat.le_of_ble_eq_true rfl) (hkg e5) ?_
  refine ev_istore (ls' := [(4, .int (r6)), (0, .ref a0), (1, .int (a1)), (2, .int (a2)), (3, .int (a3))]) dX5_readPair_59 (by decide) rfl ?_
  refine ev_aload_nR 1 dX5_readPair_61 rfl ?_
  refine ev_bipush (v := 41) dX5_readPair_62 (by decide) ?_
  obtain ⟨g7, h⟩ := gd_some h
  obtain ⟨r10, σ8, e9, h⟩ := bd_some h
  refine ev_invVv (As := [.int (41)]) (st := []) dX5_readPair_64 cb_X5_expect tp_363 tp_365 tp_7 kf5 rfl (by omega) g7 rfl rfl (Nat.le_of_ble_eq_true rfl) (x_X5_expect e9) ?_
  refine ev_aload_nR 1 dX5_readPair_67 rfl ?_
  obtain ⟨g11, h⟩ := gd_some h
  obtain ⟨p12, e13, h⟩ := op_some h
  refine ev_getPR dX5_readPair_68 fl_X5_22 rfl g11 e13 ?_
  refine ev_iload_n 4 dX5_readPair_71 rfl ?_
  refine ev_iload_n 3 dX5_readPair_72 rfl ?_
  refine ev_iload 0 dX5_readPair_73 rfl ?_
  obtain ⟨g14, h⟩ := gd_some h
  obtain ⟨r17, σ15, e16, h⟩ := bd_some h
  refine ev_invVi (As := [.int (a3), .int (a2), .int (r6)]) (st := []) dX5_readPair_75 cb_X3_addNode tp_355 tp_356 tp_357 kf3 rfl (by omega) g14 rfl rfl (Nat.le_of_ble_eq_true rfl) (x_X3_addNode e16) ?_
  exact ev_retI .int dX5_readPair_78 rfl rfl h
def s_X5_readPair (kg : Nat → Int32 → St → Option (Int32 × St)) (a0 : Nat) (a1 : Int32) (σ : St) : Option (Int32 × St) :=
 if isO σ 5 a0 = true then (bd (s_X5_expect a0 40 σ) fun r21 σ19 =>
 if isO σ19 5 a0 = true then (bd (kg a0 (a1 + 1) σ19) fun r25 σ23 =>
 if isO σ23 5 a0 = true then (bd (s_X5_next a0 σ23) fun r29 σ27 =>
 if r29 = 42 then (s_X5_readPair_42 kg a0 a1 r25 r29 σ27) else (if r29 = 38 then (s_X5_readPair_42 kg a0 a1 r25 r29 σ27) else (if r29 = 43 then (s_X5_readPair_42 kg a0 a1 r25 r29 σ27) else (if isO σ27 5 a0 = true then (bd (s_X5_refuse a0 σ27) fun r36 σ34 =>
 some (r36, σ34)) else none)))) else none) else none) else none
set_option maxHeartbeats 4000000 in
set_option maxRecDepth 100000 in
theorem x_X5_readPair {kg : Nat → Int32 → St → Option (Int32 × St)} {dk : Nat} (hkg : ∀ {x0 : Nat} {x1 : Int32} {σ : St} {r : Int32} {σ' : St}, kg x0 x1 σ = some (r, σ') → Ex M_X5_readGoal dk [.ref x0, .int (x1)] σ (some (.int r)) σ') {a0 : Nat} {a1 : Int32} {σ : St} {r : Int32} {σ' : St} (h : s_X5_readPair kg a0 a1 σ = some (r, σ')) : Ex M_X5_readPair (dk + 3) [.ref a0, .int (a1)] σ (some (.int r)) σ' := by
  unfold s_X5_readPair at h
  refine ex_of (by decide) rfl (Nat.le_of_ble_eq_true rfl) ?_
  show Ev _ _ 0 [(0, .ref a0), (1, .int (a1))] [] _ _ _
  refine ev_aload_nR 0 dX5_readPair_0 rfl ?_
  refine ev_bipush (v := 40) dX5_readPair_1 (by decide) ?_
  obtain ⟨g18, h⟩ := gd_some h
  obtain ⟨r21, σ19, e20, h⟩ := bd_some h
  refine ev_invVv (As := [.int (40)]) (st := []) dX5_readPair_3 cb_X5_expect tp_363 tp_365 tp_7 kf5 rfl (by omega) g18 rfl rfl (Nat.le_of_ble_eq_true rfl) (x_X5_expect e20) ?_
  refine ev_aload_nR 0 dX5_readPair_6 rfl ?_
  refine ev_iload_n 1 dX5_readPair_7 rfl ?_
  refine ev_iconst (v := 1) dX5_readPair_8 (by decide) ?_
  refine ev_iadd dX5_readPair_9 ?_
  obtain ⟨g22, h⟩ := gd_some h
  obtain ⟨r25, σ23, e24, h⟩ := bd_some h
  refine ev_invVi (As := [.int (a1 + 1)]) (st := []) dX5_readPair_10 cb_X5_readGoal tp_351 tp_353 tp_5 kf5 rfl (by omega) g22 rfl rfl (Nat.le_of_ble_eq_true rfl) (hkg e24) ?_
  refine ev_istore_n (ls' := [(2, .int (r25)), (0, .ref a0), (1, .int (a1))]) dX5_readPair_13 (by decide) rfl ?_
  refine ev_aload_nR 1 dX5_readPair_14 rfl ?_
  obtain ⟨g26, h⟩ := gd_some h
  obtain ⟨r29, σ27, e28, h⟩ := bd_some h
  refine ev_invVi (As := []) (st := []) dX5_readPair_15 cb_X5_next tp_340 tp_342 tp_3 kf5 rfl (by omega) g26 rfl rfl (Nat.le_of_ble_eq_true rfl) (x_X5_next e28) ?_
  refine ev_istore_n (ls' := [(3, .int (r29)), (2, .int (r25)), (0, .ref a0), (1, .int (a1))]) dX5_readPair_18 (by decide) rfl ?_
  refine ev_iload_n 0 dX5_readPair_19 rfl ?_
  refine ev_bipush (v := 42) dX5_readPair_20 (by decide) ?_
  rcases it_some h with ⟨c30, h⟩ | ⟨c30, h⟩
  · refine ev_icmp_eq (tgt := 42) dX5_readPair_22 rfl c30 ?_
    refine ev_sub (ls' := [(0, .ref a0), (1, .int (a1)), (2, .int (r25)), (3, .int (r29))]) [2, 3, 1, 0] rfl ?_
    exact e_X5_readPair_42 hkg h
  · refine ev_icmp_eq_n 42 dX5_readPair_22 rfl c30 ?_
    refine ev_iload_n 0 dX5_readPair_25 rfl ?_
    refine ev_bipush (v := 38) dX5_readPair_26 (by decide) ?_
    rcases it_some h with ⟨c31, h⟩ | ⟨c31, h⟩
    · refine ev_icmp_eq (tgt := 42) dX5_readPair_28 rfl c31 ?_
      refine ev_sub (ls' := [(0, .ref a0), (1, .int (a1)), (2, .int (r25)), (3, .int (r29))]) [2, 3, 1, 0] rfl ?_
      exact e_X5_readPair_42 hkg h
    · refine ev_icmp_eq_n 42 dX5_readPair_28 rfl c31 ?_
      refine ev_iload_n 0 dX5_readPair_31 rfl ?_
      refine ev_bipush (v := 43) dX5_readPair_32 (by decide) ?_
      rcases it_some h with ⟨c32, h⟩ | ⟨c32, h⟩
      · refine ev_icmp_eq (tgt := 42) dX5_readPair_34 rfl c32 ?_
        refine ev_sub (ls' := [(0, .ref a0), (1, .int (a1)), (2, .int (r25)), (3, .int (r29))]) [2, 3, 1, 0] rfl ?_
        exact e_X5_readPair_42 hkg h
      · refine ev_icmp_eq_n 42 dX5_readPair_34 rfl c32 ?_
        refine ev_aload_nR 2 dX5_readPair_37 rfl ?_
        obtain ⟨g33, h⟩ := gd_some h
        obtain ⟨r36, σ34, e35, h⟩ := bd_some h
        refine ev_invVi (As := []) (st := []) dX5_readPair_38 cb_X5_refuse tp_347 tp_349 tp_4 kf5 rfl (by omega) g33 rfl rfl (Nat.le_of_ble_eq_true rfl) (x_X5_refuse e35) ?_
        exact ev_retI .int dX5_readPair_41 rfl rfl h
def s_X3_addLoan (a0 : Nat) (σ : St) : Option (Int32 × St) :=
 if isO σ 3 a0 = true then (lt (5 + (sI σ a0 6) : Int32) fun v2 =>
 lt (setI σ a0 6 ((sI σ a0 6) + 1)) fun σ4 =>
 if (8 : Int32) ≤ v2 then (some ((-1), σ4)) else (some (v2, σ4))) else none
set_option maxHeartbeats 4000000 in
set_option maxRecDepth 100000 in
theorem x_X3_addLoan {a0 : Nat} {σ : St} {r : Int32} {σ' : St} (h : s_X3_addLoan a0 σ = some (r, σ')) : Ex M_X3_addLoan (1) [.ref a0] σ (some (.int r)) σ' := by
  unfold s_X3_addLoan at h
  refine ex_of (by decide) rfl (Nat.le_of_ble_eq_true rfl) ?_
  show Ev _ _ 0 [(0, .ref a0)] [] _ _ _
  refine ev_iconst (v := 5) dX3_addLoan_0 (by decide) ?_
  refine ev_aload_nR 0 dX3_addLoan_1 rfl ?_
  obtain ⟨g1, h⟩ := gd_some h
  refine ev_getI dX3_addLoan_2 fl_X3_32 rfl g1 ?_
  refine ev_iadd dX3_addLoan_5 ?_
  obtain ⟨v2, e3, h⟩ := lt_some h
  refine ev_topI e3 ?_
  refine ev_istore_n (ls' := [(1, .int (v2)), (0, .ref a0)]) dX3_addLoan_6 (by decide) rfl ?_
  refine ev_aload_nR 1 dX3_addLoan_7 rfl ?_
  refine ev_dup dX3_addLoan_8 rfl ?_
  refine ev_getI dX3_addLoan_9 fl_X3_32 rfl g1 ?_
  refine ev_iconst (v := 1) dX3_addLoan_12 (by decide) ?_
  refine ev_iadd dX3_addLoan_13 ?_
  obtain ⟨σ4, e5, h⟩ := lt_some h
  refine ev_putI dX3_addLoan_14 fl_X3_32 rfl (Or.inl rfl) g1 ⟨rfl, rfl⟩ ?_
  refine ev_st e5 ?_
  refine ev_iload_n 0 dX3_addLoan_17 rfl ?_
  refine ev_bipush (v := 8) dX3_addLoan_18 (by decide) ?_
  rcases it_some h with ⟨c6, h⟩ | ⟨c6, h⟩
  · refine ev_icmp_ge (tgt := 27) dX3_addLoan_20 rfl c6 ?_
    refine ev_iconst (v := (-1)) dX3_addLoan_27 (by decide) ?_
    exact ev_retI .int dX3_addLoan_28 rfl rfl h
  · refine ev_icmp_ge_n 27 dX3_addLoan_20 rfl c6 ?_
    refine ev_iload_n 0 dX3_addLoan_23 rfl ?_
    refine ev_goto (tgt := 28) dX3_addLoan_24 rfl ?_
    exact ev_retI .int dX3_addLoan_28 rfl rfl h
def s_X3_isFace (a0 : Int32) (a1 : Int32) (σ : St) : Option (Int32 × St) :=
 if a0 < 0 then (some (0, σ)) else (if (12 : Int32) ≤ a0 then (some (0, σ)) else (if a1 < 0 then (some (0, σ)) else (if (3 : Int32) ≤ a1 then (some (0, σ)) else (some (1, σ)))))
set_option maxHeartbeats 4000000 in
set_option maxRecDepth 100000 in
theorem x_X3_isFace {a0 : Int32} {a1 : Int32} {σ : St} {r : Int32} {σ' : St} (h : s_X3_isFace a0 a1 σ = some (r, σ')) : Ex M_X3_isFace (1) [.int (a0), .int (a1)] σ (some (.int r)) σ' := by
  unfold s_X3_isFace at h
  refine ex_of (by decide) rfl (Nat.le_of_ble_eq_true rfl) ?_
  show Ev _ _ 0 [(0, .int (a0)), (1, .int (a1))] [] _ _ _
  refine ev_iload_n 0 dX3_isFace_0 rfl ?_
  rcases it_some h with ⟨c1, h⟩ | ⟨c1, h⟩
  · refine ev_if_lt (tgt := 23) dX3_isFace_1 rfl c1 ?_
    refine ev_iconst (v := 0) dX3_isFace_23 (by decide) ?_
    exact ev_retI .boolean dX3_isFace_24 rfl rfl h
  · refine ev_if_lt_n 23 dX3_isFace_1 rfl c1 ?_
    refine ev_iload_n 0 dX3_isFace_4 rfl ?_
    refine ev_bipush (v := 12) dX3_isFace_5 (by decide) ?_
    rcases it_some h with ⟨c2, h⟩ | ⟨c2, h⟩
    · refine ev_icmp_ge (tgt := 23) dX3_isFace_7 rfl c2 ?_
      refine ev_iconst (v := 0) dX3_isFace_23 (by decide) ?_
      exact ev_retI .boolean dX3_isFace_24 rfl rfl h
    · refine ev_icmp_ge_n 23 dX3_isFace_7 rfl c2 ?_
      refine ev_iload_n 1 dX3_isFace_10 rfl ?_
      rcases it_some h with ⟨c3, h⟩ | ⟨c3, h⟩
      · refine ev_if_lt (tgt := 23) dX3_isFace_11 rfl c3 ?_
        refine ev_iconst (v := 0) dX3_isFace_23 (by decide) ?_
        exact ev_retI .boolean dX3_isFace_24 rfl rfl h
      · refine ev_if_lt_n 23 dX3_isFace_11 rfl c3 ?_
        refine ev_iload_n 1 dX3_isFace_14 rfl ?_
        refine ev_iconst (v := 3) dX3_isFace_15 (by decide) ?_
        rcases it_some h with ⟨c4, h⟩ | ⟨c4, h⟩
        · refine ev_icmp_ge (tgt := 23) dX3_isFace_16 rfl c4 ?_
          refine ev_iconst (v := 0) dX3_isFace_23 (by decide) ?_
          exact ev_retI .boolean dX3_isFace_24 rfl rfl h
        · refine ev_icmp_ge_n 23 dX3_isFace_16 rfl c4 ?_
          refine ev_iconst (v := 1) dX3_isFace_19 (by decide) ?_
          refine ev_goto (tgt := 24) dX3_isFace_20 rfl ?_
          exact ev_retI .boolean dX3_isFace_24 rfl rfl h
def s_X3_setFace (a0 : Nat) (a1 : Int32) (a2 : Int32) (a3 : Int32) (a4 : Int32) (σ : St) : Option (Unit × St) :=
 bd (s_X3_isFace a1 a2 σ) fun r3 σ1 =>
 if r3 = 0 then (some ((), σ1)) else (if isO σ1 3 a0 = true then (op (sP σ1 a0 3) fun p6 =>
 if isO σ1 12 p6 = true then (if inR ((a1 * 3) + a2) (alen σ1 p6) = true then (lt (setI σ1 p6 (((a1 * 3) + a2).toNatClampNeg) (a3.toUInt32 % 65536).toInt32) fun σ10 =>
 op (sP σ10 a0 4) fun p12 =>
 if isO σ10 13 p12 = true then (if inR ((a1 * 3) + a2) (alen σ10 p12) = true then (lt (setI σ10 p12 (((a1 * 3) + a2).toNatClampNeg) a4) fun σ16 =>
 some ((), σ16)) else none) else none) else none) else none) else none)
set_option maxHeartbeats 4000000 in
set_option maxRecDepth 100000 in
theorem x_X3_setFace {a0 : Nat} {a1 : Int32} {a2 : Int32} {a3 : Int32} {a4 : Int32} {σ : St} {r : Unit} {σ' : St} (h : s_X3_setFace a0 a1 a2 a3 a4 σ = some (r, σ')) : Ex M_X3_setFace (2) [.ref a0, .int (a1), .int (a2), .int (a3), .int (a4)] σ none σ' := by
  unfold s_X3_setFace at h
  refine ex_of (by decide) rfl (Nat.le_of_ble_eq_true rfl) ?_
  show Ev _ _ 0 [(0, .ref a0), (1, .int (a1)), (2, .int (a2)), (3, .int (a3)), (4, .int (a4))] [] _ _ _
  refine ev_iload_n 1 dX3_setFace_0 rfl ?_
  refine ev_iload_n 2 dX3_setFace_1 rfl ?_
  obtain ⟨r3, σ1, e2, h⟩ := bd_some h
  refine ev_invSi (As := [.int (a1), .int (a2)]) (st := []) dX3_setFace_2 cb_X3_isFace tp_379 tp_380 (by omega) rfl rfl (Nat.le_of_ble_eq_true rfl) (x_X3_isFace e2) ?_
  rcases it_some h with ⟨c4, h⟩ | ⟨c4, h⟩
  · refine ev_if_eq (tgt := 31) dX3_setFace_5 rfl c4 ?_
    exact ev_retV dX3_setFace_31 rfl h
  · refine ev_if_eq_n 31 dX3_setFace_5 rfl c4 ?_
    refine ev_aload_nR 0 dX3_setFace_8 rfl ?_
    obtain ⟨g5, h⟩ := gd_some h
    obtain ⟨p6, e7, h⟩ := op_some h
    refine ev_getPR dX3_setFace_9 fl_X3_22 rfl g5 e7 ?_
    refine ev_iload_n 1 dX3_setFace_12 rfl ?_
    refine ev_iconst (v := 3) dX3_setFace_13 (by decide) ?_
    refine ev_imul dX3_setFace_14 ?_
    refine ev_iload_n 2 dX3_setFace_15 rfl ?_
    refine ev_iadd dX3_setFace_16 ?_
    refine ev_iload_n 3 dX3_setFace_17 rfl ?_
    obtain ⟨g8, h⟩ := gd_some h
    obtain ⟨g9, h⟩ := gd_some h
    obtain ⟨σ10, e11, h⟩ := lt_some h
    refine ev_cast dX3_setFace_18 (isO_spec g8).1 (isA_O g8) g9 ?_
    refine ev_st e11 ?_
    refine ev_aload_nR 0 dX3_setFace_19 rfl ?_
    obtain ⟨p12, e13, h⟩ := op_some h
    refine ev_getPR dX3_setFace_20 fl_X3_25 rfl (isO_I e11 g5) e13 ?_
    refine ev_iload_n 1 dX3_setFace_23 rfl ?_
    refine ev_iconst (v := 3) dX3_setFace_24 (by decide) ?_
    refine ev_imul dX3_setFace_25 ?_
    refine ev_iload_n 2 dX3_setFace_26 rfl ?_
    refine ev_iadd dX3_setFace_27 ?_
    refine ev_iload 4 dX3_setFace_28 rfl ?_
    obtain ⟨g14, h⟩ := gd_some h
    obtain ⟨g15, h⟩ := gd_some h
    obtain ⟨σ16, e17, h⟩ := lt_some h
    refine ev_iast dX3_setFace_30 (isO_spec g14).1 (isA_O g14) g15 ?_
    refine ev_st e17 ?_
    exact ev_retV dX3_setFace_31 rfl h
def s_X5_readFace_61 (kg : Nat → Int32 → St → Option (Int32 × St)) (a0 : Nat) (a1 : Int32) (a2 : Int32) (a4 : Int32) (a5 : Int32) (σ : St) : Option (Unit × St) :=
 if isO σ 5 a0 = true then (op (sP σ a0 1) fun p2 =>
 if isO σ 3 p2 = true then (bd (s_X3_setFace p2 a1 a2 a4 a5 σ) fun r7 σ5 =>
 some ((), σ5)) else none) else none
set_option maxHeartbeats 4000000 in
set_option maxRecDepth 100000 in
theorem e_X5_readFace_61 {kg : Nat → Int32 → St → Option (Int32 × St)} {dk : Nat} (hkg : ∀ {x0 : Nat} {x1 : Int32} {σ : St} {r : Int32} {σ' : St}, kg x0 x1 σ = some (r, σ') → Ex M_X5_readGoal dk [.ref x0, .int (x1)] σ (some (.int r)) σ') {r : Unit} {σ' : St} : ∀ {a0 : Nat} {a1 : Int32} {a2 : Int32} {a4 : Int32} {a5 : Int32} {σ : St}, s_X5_readFace_61 kg a0 a1 a2 a4 a5 σ = some (r, σ') → Ev M_X5_readFace (dk + 3) 61 [(0, .ref a0), (1, .int (a1)), (2, .int (a2)), (4, .int (a4)), (5, .int (a5))] [] σ none σ' := by
  intro a0 a1 a2 a4 a5 σ h
  unfold s_X5_readFace_61 at h
  refine ev_aload_nR 0 dX5_readFace_61 rfl ?_
  obtain ⟨g1, h⟩ := gd_some h
  obtain ⟨p2, e3, h⟩ := op_some h
  refine ev_getPR dX5_readFace_62 fl_X5_22 rfl g1 e3 ?_
  refine ev_iload_n 1 dX5_readFace_65 rfl ?_
  refine ev_iload_n 2 dX5_readFace_66 rfl ?_
  refine ev_iload 3 dX5_readFace_67 rfl ?_
  refine ev_iload 4 dX5_readFace_69 rfl ?_
  obtain ⟨g4, h⟩ := gd_some h
  obtain ⟨r7, σ5, e6, h⟩ := bd_some h
  refine ev_invVv (As := [.int (a1), .int (a2), .int (a4), .int (a5)]) (st := []) dX5_readFace_71 cb_X3_setFace tp_375 tp_376 tp_377 kf3 rfl (by omega) g4 rfl rfl (Nat.le_of_ble_eq_true rfl) (x_X3_setFace e6) ?_
  exact ev_retV dX5_readFace_74 rfl h
def s_X5_readFace (kg : Nat → Int32 → St → Option (Int32 × St)) (a0 : Nat) (a1 : Int32) (a2 : Int32) (a3 : Int32) (σ : St) : Option (Unit × St) :=
 if isO σ 5 a0 = true then (bd (s_X5_next a0 σ) fun r11 σ9 =>
 bd (s_X5_isAtom r11 σ9) fun r14 σ12 =>
 if r14 = 0 then (if isO σ12 5 a0 = true then (bd (s_X5_refuse a0 σ12) fun r32 σ30 =>
 some ((), σ30)) else none) else (if isO σ12 5 a0 = true then (lt (setI σ12 a0 2 ((sI σ12 a0 2) + 1)) fun σ17 =>
 bd (s_X5_next a0 σ17) fun r21 σ19 =>
 if r21 = 60 then (if isO σ19 5 a0 = true then (lt (setI σ19 a0 2 ((sI σ19 a0 2) + 1)) fun σ24 =>
 bd (kg a0 (a3 + 1) σ24) fun r28 σ26 =>
 s_X5_readFace_61 kg a0 a1 a2 r11 r28 σ26) else none) else (s_X5_readFace_61 kg a0 a1 a2 r11 ((-1)) σ19)) else none)) else none
set_option maxHeartbeats 4000000 in
set_option maxRecDepth 100000 in
theorem x_X5_readFace {kg : Nat → Int32 → St → Option (Int32 × St)} {dk : Nat} (hkg : ∀ {x0 : Nat} {x1 : Int32} {σ : St} {r : Int32} {σ' : St}, kg x0 x1 σ = some (r, σ') → Ex M_X5_readGoal dk [.ref x0, .int (x1)] σ (some (.int r)) σ') {a0 : Nat} {a1 : Int32} {a2 : Int32} {a3 : Int32} {σ : St} {r : Unit} {σ' : St} (h : s_X5_readFace kg a0 a1 a2 a3 σ = some (r, σ')) : Ex M_X5_readFace (dk + 3) [.ref a0, .int (a1), .int (a2), .int (a3)] σ none σ' := by
  unfold s_X5_readFace at h
  refine ex_of (by decide) rfl (Nat.le_of_ble_eq_true rfl) ?_
  show Ev _ _ 0 [(0, .ref a0), (1, .int (a1)), (2, .int (a2)), (3, .int (a3))] [] _ _ _
  refine ev_aload_nR 0 dX5_readFace_0 rfl ?_
  obtain ⟨g8, h⟩ := gd_some h
  obtain ⟨r11, σ9, e10, h⟩ := bd_some h
  refine ev_invVi (As := []) (st := []) dX5_readFace_1 cb_X5_next tp_340 tp_342 tp_3 kf5 rfl (by omega) g8 rfl rfl (Nat.le_of_ble_eq_true rfl) (x_X5_next e10) ?_
  refine ev_istore (ls' := [(4, .int (r11)), (0, .ref a0), (1, .int (a1)), (2, .int (a2)), (3, .int (a3))]) dX5_readFace_4 (by decide) rfl ?_
  refine ev_iload 0 dX5_readFace_6 rfl ?_
  obtain ⟨r14, σ12, e13, h⟩ := bd_some h
  refine ev_invSi (As := [.int (r11)]) (st := []) dX5_readFace_8 cb_X5_isAtom tp_344 tp_345 (by omega) rfl rfl (Nat.le_of_ble_eq_true rfl) (x_X5_isAtom e13) ?_
  rcases it_some h with ⟨c15, h⟩ | ⟨c15, h⟩
  · refine ev_if_ne_n 20 dX5_readFace_11 rfl c15 ?_
    refine ev_aload_nR 1 dX5_readFace_14 rfl ?_
    obtain ⟨g29, h⟩ := gd_some h
    obtain ⟨r32, σ30, e31, h⟩ := bd_some h
    refine ev_invVi (As := []) (st := []) dX5_readFace_15 cb_X5_refuse tp_347 tp_349 tp_4 kf5 rfl (by omega) g29 rfl rfl (Nat.le_of_ble_eq_true rfl) (x_X5_refuse e31) ?_
    refine ev_pop dX5_readFace_18 rfl ?_
    exact ev_retV dX5_readFace_19 rfl h
  · refine ev_if_ne (tgt := 20) dX5_readFace_11 rfl c15 ?_
    refine ev_aload_nR 1 dX5_readFace_20 rfl ?_
    refine ev_dup dX5_readFace_21 rfl ?_
    obtain ⟨g16, h⟩ := gd_some h
    refine ev_getI dX5_readFace_22 fl_X5_9 rfl g16 ?_
    refine ev_iconst (v := 1) dX5_readFace_25 (by decide) ?_
    refine ev_iadd dX5_readFace_26 ?_
    obtain ⟨σ17, e18, h⟩ := lt_some h
    refine ev_putI dX5_readFace_27 fl_X5_9 rfl (Or.inl rfl) g16 ⟨rfl, rfl⟩ ?_
    refine ev_st e18 ?_
    refine ev_iconst (v := (-1)) dX5_readFace_30 (by decide) ?_
    refine ev_istore (ls' := [(5, .int ((-1))), (4, .int (r11)), (0, .ref a0), (1, .int (a1)), (2, .int (a2)), (3, .int (a3))]) dX5_readFace_31 (by decide) rfl ?_
    refine ev_aload_nR 2 dX5_readFace_33 rfl ?_
    obtain ⟨r21, σ19, e20, h⟩ := bd_some h
    refine ev_invVi (As := []) (st := []) dX5_readFace_34 cb_X5_next tp_340 tp_342 tp_3 kf5 rfl (by omega) (isO_I e18 g16) rfl rfl (Nat.le_of_ble_eq_true rfl) (x_X5_next e20) ?_
    refine ev_bipush (v := 60) dX5_readFace_37 (by decide) ?_
    rcases it_some h with ⟨c22, h⟩ | ⟨c22, h⟩
    · refine ev_icmp_ne_n 61 dX5_readFace_39 rfl c22 ?_
      refine ev_aload_nR 2 dX5_readFace_42 rfl ?_
      refine ev_dup dX5_readFace_43 rfl ?_
      obtain ⟨g23, h⟩ := gd_some h
      refine ev_getI dX5_readFace_44 fl_X5_9 rfl g23 ?_
      refine ev_iconst (v := 1) dX5_readFace_47 (by decide) ?_
      refine ev_iadd dX5_readFace_48 ?_
      obtain ⟨σ24, e25, h⟩ := lt_some h
      refine ev_putI dX5_readFace_49 fl_X5_9 rfl (Or.inl rfl) g23 ⟨rfl, rfl⟩ ?_
      refine ev_st e25 ?_
      refine ev_aload_nR 2 dX5_readFace_52 rfl ?_
      refine ev_iload_n 5 dX5_readFace_53 rfl ?_
      refine ev_iconst (v := 1) dX5_readFace_54 (by decide) ?_
      refine ev_iadd dX5_readFace_55 ?_
      obtain ⟨r28, σ26, e27, h⟩ := bd_some h
      refine ev_invVi (As := [.int (a3 + 1)]) (st := []) dX5_readFace_56 cb_X5_readGoal tp_351 tp_353 tp_5 kf5 rfl (by omega) (isO_I e25 g23) rfl rfl (Nat.le_of_ble_eq_true rfl) (hkg e27) ?_
      refine ev_istore (ls' := [(5, .int (r28)), (4, .int (r11)), (0, .ref a0), (1, .int (a1)), (2, .int (a2)), (3, .int (a3))]) dX5_readFace_59 (by decide) rfl ?_
      refine ev_sub (ls' := [(0, .ref a0), (1, .int (a1)), (2, .int (a2)), (4, .int (r11)), (5, .int (r28))]) [2, 3, 4, 1, 0] rfl ?_
      exact e_X5_readFace_61 hkg h
    · refine ev_icmp_ne (tgt := 61) dX5_readFace_39 rfl c22 ?_
      refine ev_sub (ls' := [(0, .ref a0), (1, .int (a1)), (2, .int (a2)), (4, .int (r11)), (5, .int (((-1))))]) [2, 3, 4, 1, 0] rfl ?_
      exact e_X5_readFace_61 hkg h
def sb_X5_readOffer_9 (kg : Nat → Int32 → St → Option (Int32 × St)) (k9 : Nat → Int32 → Int32 → Int32 → St → Option (Unit × St)) (a0 : Nat) (a1 : Int32) (a2 : Int32) (a3 : Int32) (σ : St) : Option (Unit × St) :=
 if (3 : Int32) ≤ a3 then (some ((), σ)) else (if isO σ 5 a0 = true then (bd (s_X5_next a0 σ) fun r5 σ3 =>
 if r5 = 124 then (if isO σ3 5 a0 = true then (lt (setI σ3 a0 2 ((sI σ3 a0 2) + 1)) fun σ8 =>
 bd (s_X5_readFace kg a0 a1 a3 a2 σ8) fun r12 σ10 =>
 lt (a3 + 1 : Int32) fun v13 =>
 k9 a0 a1 a2 v13 σ10) else none) else (some ((), σ3))) else none)
def s_X5_readOffer_9 (kg : Nat → Int32 → St → Option (Int32 × St)) (F : Nat) : Nat → Int32 → Int32 → Int32 → St → Option (Unit × St) := lp (fun _ _ _ _ _ => none) (sb_X5_readOffer_9 kg) F
set_option maxHeartbeats 4000000 in
set_option maxRecDepth 100000 in
theorem e_X5_readOffer_9 {kg : Nat → Int32 → St → Option (Int32 × St)} {dk : Nat} (hkg : ∀ {x0 : Nat} {x1 : Int32} {σ : St} {r : Int32} {σ' : St}, kg x0 x1 σ = some (r, σ') → Ex M_X5_readGoal dk [.ref x0, .int (x1)] σ (some (.int r)) σ') {r : Unit} {σ' : St} (F : Nat) : ∀ {a0 : Nat} {a1 : Int32} {a2 : Int32} {a3 : Int32} {σ : St}, s_X5_readOffer_9 kg F a0 a1 a2 a3 σ = some (r, σ') → Ev M_X5_readOffer (dk + 4) 9 [(0, .ref a0), (1, .int (a1)), (2, .int (a2)), (3, .int (a3))] [] σ none σ' := by
  induction F with
  | zero => intro a0 a1 a2 a3 σ h; cases h
  | succ F ih =>
    intro a0 a1 a2 a3 σ h
    change sb_X5_readOffer_9 kg (s_X5_readOffer_9 kg F) a0 a1 a2 a3 σ = some (r, σ') at h
    unfold sb_X5_readOffer_9 at h
    have hk9 := @ih
    refine ev_iload_n 3 dX5_readOffer_9 rfl ?_
    refine ev_iconst (v := 3) dX5_readOffer_10 (by decide) ?_
    rcases it_some h with ⟨c1, h⟩ | ⟨c1, h⟩
    · refine ev_icmp_ge (tgt := 46) dX5_readOffer_11 rfl c1 ?_
      exact ev_retV dX5_readOffer_46 rfl h
    · refine ev_icmp_ge_n 46 dX5_readOffer_11 rfl c1 ?_
      refine ev_aload_nR 0 dX5_readOffer_14 rfl ?_
      obtain ⟨g2, h⟩ := gd_some h
      obtain ⟨r5, σ3, e4, h⟩ := bd_some h
      refine ev_invVi (As := []) (st := []) dX5_readOffer_15 cb_X5_next tp_340 tp_342 tp_3 kf5 rfl (by omega) g2 rfl rfl (Nat.le_of_ble_eq_true rfl) (x_X5_next e4) ?_
      refine ev_bipush (v := 124) dX5_readOffer_18 (by decide) ?_
      rcases it_some h with ⟨c6, h⟩ | ⟨c6, h⟩
      · refine ev_icmp_ne_n 46 dX5_readOffer_20 rfl c6 ?_
        refine ev_aload_nR 0 dX5_readOffer_23 rfl ?_
        refine ev_dup dX5_readOffer_24 rfl ?_
        obtain ⟨g7, h⟩ := gd_some h
        refine ev_getI dX5_readOffer_25 fl_X5_9 rfl g7 ?_
        refine ev_iconst (v := 1) dX5_readOffer_28 (by decide) ?_
        refine ev_iadd dX5_readOffer_29 ?_
        obtain ⟨σ8, e9, h⟩ := lt_some h
        refine ev_putI dX5_readOffer_30 fl_X5_9 rfl (Or.inl rfl) g7 ⟨rfl, rfl⟩ ?_
        refine ev_st e9 ?_
        refine ev_aload_nR 0 dX5_readOffer_33 rfl ?_
        refine ev_iload_n 1 dX5_readOffer_34 rfl ?_
        refine ev_iload_n 3 dX5_readOffer_35 rfl ?_
        refine ev_iload_n 2 dX5_readOffer_36 rfl ?_
        obtain ⟨r12, σ10, e11, h⟩ := bd_some h
        refine ev_invVv (As := [.int (a1), .int (a3), .int (a2)]) (st := []) dX5_readOffer_37 cb_X5_readFace tp_336 tp_338 tp_2 kf5 rfl (by omega) (isO_I e9 g7) rfl rfl (Nat.le_of_ble_eq_true rfl) (x_X5_readFace hkg e11) ?_
        obtain ⟨v13, e14, h⟩ := lt_some h
        refine ev_iinc (v := v13) (ls' := [(3, .int (v13)), (0, .ref a0), (1, .int (a1)), (2, .int (a2))]) 3 dX5_readOffer_40 rfl e14.symm (by decide) rfl ?_
        refine ev_goto (tgt := 9) dX5_readOffer_43 rfl ?_
        refine ev_sub (ls' := [(0, .ref a0), (1, .int (a1)), (2, .int (a2)), (3, .int (v13))]) [1, 2, 3, 0] rfl ?_
        exact hk9 h
      · refine ev_icmp_ne (tgt := 46) dX5_readOffer_20 rfl c6 ?_
        exact ev_retV dX5_readOffer_46 rfl h
def s_X5_readOffer (kg : Nat → Int32 → St → Option (Int32 × St)) (a0 : Nat) (a1 : Int32) (a2 : Int32) (σ : St) : Option (Unit × St) :=
 if isO σ 5 a0 = true then (bd (s_X5_readFace kg a0 a1 0 a2 σ) fun r18 σ16 =>
 s_X5_readOffer_9 kg 16000 a0 a1 a2 1 σ16) else none
set_option maxHeartbeats 4000000 in
set_option maxRecDepth 100000 in
theorem x_X5_readOffer {kg : Nat → Int32 → St → Option (Int32 × St)} {dk : Nat} (hkg : ∀ {x0 : Nat} {x1 : Int32} {σ : St} {r : Int32} {σ' : St}, kg x0 x1 σ = some (r, σ') → Ex M_X5_readGoal dk [.ref x0, .int (x1)] σ (some (.int r)) σ') {a0 : Nat} {a1 : Int32} {a2 : Int32} {σ : St} {r : Unit} {σ' : St} (h : s_X5_readOffer kg a0 a1 a2 σ = some (r, σ')) : Ex M_X5_readOffer (dk + 4) [.ref a0, .int (a1), .int (a2)] σ none σ' := by
  unfold s_X5_readOffer at h
  refine ex_of (by decide) rfl (Nat.le_of_ble_eq_true rfl) ?_
  show Ev _ _ 0 [(0, .ref a0), (1, .int (a1)), (2, .int (a2))] [] _ _ _
  refine ev_aload_nR 0 dX5_readOffer_0 rfl ?_
  refine ev_iload_n 1 dX5_readOffer_1 rfl ?_
  refine ev_iconst (v := 0) dX5_readOffer_2 (by decide) ?_
  refine ev_iload_n 2 dX5_readOffer_3 rfl ?_
  obtain ⟨g15, h⟩ := gd_some h
  obtain ⟨r18, σ16, e17, h⟩ := bd_some h
  refine ev_invVv (As := [.int (a1), .int (0), .int (a2)]) (st := []) dX5_readOffer_4 cb_X5_readFace tp_336 tp_338 tp_2 kf5 rfl (by omega) g15 rfl rfl (Nat.le_of_ble_eq_true rfl) (x_X5_readFace hkg e17) ?_
  refine ev_iconst (v := 1) dX5_readOffer_7 (by decide) ?_
  refine ev_istore_n (ls' := [(3, .int (1)), (0, .ref a0), (1, .int (a1)), (2, .int (a2))]) dX5_readOffer_8 (by decide) rfl ?_
  refine ev_sub (ls' := [(0, .ref a0), (1, .int (a1)), (2, .int (a2)), (3, .int (1))]) [1, 2, 3, 0] rfl ?_
  exact e_X5_readOffer_9 hkg 16000 h
def s_X5_readLoan (kg : Nat → Int32 → St → Option (Int32 × St)) (a0 : Nat) (a1 : Int32) (σ : St) : Option (Int32 × St) :=
 if isO σ 5 a0 = true then (bd (s_X5_expect a0 91 σ) fun r4 σ2 =>
 if isO σ2 5 a0 = true then (op (sP σ2 a0 1) fun p6 =>
 if isO σ2 3 p6 = true then (bd (s_X3_addLoan p6 σ2) fun r11 σ9 =>
 if isO σ9 5 a0 = true then (bd (s_X5_readOffer kg a0 r11 a1 σ9) fun r15 σ13 =>
 if isO σ13 5 a0 = true then (bd (s_X5_expect a0 93 σ13) fun r19 σ17 =>
 if isO σ17 5 a0 = true then (op (sP σ17 a0 1) fun p21 =>
 bd (kg a0 (a1 + 1) σ17) fun r25 σ23 =>
 if isO σ23 3 p21 = true then (bd (s_X3_addNode p21 91 r25 r11 σ23) fun r29 σ27 =>
 some (r29, σ27)) else none) else none) else none) else none) else none) else none) else none
set_option maxHeartbeats 4000000 in
set_option maxRecDepth 100000 in
theorem x_X5_readLoan {kg : Nat → Int32 → St → Option (Int32 × St)} {dk : Nat} (hkg : ∀ {x0 : Nat} {x1 : Int32} {σ : St} {r : Int32} {σ' : St}, kg x0 x1 σ = some (r, σ') → Ex M_X5_readGoal dk [.ref x0, .int (x1)] σ (some (.int r)) σ') {a0 : Nat} {a1 : Int32} {σ : St} {r : Int32} {σ' : St} (h : s_X5_readLoan kg a0 a1 σ = some (r, σ')) : Ex M_X5_readLoan (dk + 5) [.ref a0, .int (a1)] σ (some (.int r)) σ' := by
  unfold s_X5_readLoan at h
  refine ex_of (by decide) rfl (Nat.le_of_ble_eq_true rfl) ?_
  show Ev _ _ 0 [(0, .ref a0), (1, .int (a1))] [] _ _ _
  refine ev_aload_nR 0 dX5_readLoan_0 rfl ?_
  refine ev_bipush (v := 91) dX5_readLoan_1 (by decide) ?_
  obtain ⟨g1, h⟩ := gd_some h
  obtain ⟨r4, σ2, e3, h⟩ := bd_some h
  refine ev_invVv (As := [.int (91)]) (st := []) dX5_readLoan_3 cb_X5_expect tp_363 tp_365 tp_7 kf5 rfl (by omega) g1 rfl rfl (Nat.le_of_ble_eq_true rfl) (x_X5_expect e3) ?_
  refine ev_aload_nR 0 dX5_readLoan_6 rfl ?_
  obtain ⟨g5, h⟩ := gd_some h
  obtain ⟨p6, e7, h⟩ := op_some h
  refine ev_getPR dX5_readLoan_7 fl_X5_22 rfl g5 e7 ?_
  obtain ⟨g8, h⟩ := gd_some h
  obtain ⟨r11, σ9, e10, h⟩ := bd_some h
  refine ev_invVi (As := []) (st := []) dX5_readLoan_10 cb_X3_addLoan tp_371 tp_372 tp_373 kf3 rfl (by omega) g8 rfl rfl (Nat.le_of_ble_eq_true rfl) (x_X3_addLoan e10) ?_
  refine ev_istore_n (ls' := [(2, .int (r11)), (0, .ref a0), (1, .int (a1))]) dX5_readLoan_13 (by decide) rfl ?_
  refine ev_aload_nR 1 dX5_readLoan_14 rfl ?_
  refine ev_iload_n 0 dX5_readLoan_15 rfl ?_
  refine ev_iload_n 2 dX5_readLoan_16 rfl ?_
  obtain ⟨g12, h⟩ := gd_some h
  obtain ⟨r15, σ13, e14, h⟩ := bd_some h
  refine ev_invVv (As := [.int (r11), .int (a1)]) (st := []) dX5_readLoan_17 cb_X5_readOffer tp_332 tp_334 tp_1 kf5 rfl (by omega) g12 rfl rfl (Nat.le_of_ble_eq_true rfl) (x_X5_readOffer hkg e14) ?_
  refine ev_aload_nR 1 dX5_readLoan_20 rfl ?_
  refine ev_bipush (v := 93) dX5_readLoan_21 (by decide) ?_
  obtain ⟨g16, h⟩ := gd_some h
  obtain ⟨r19, σ17, e18, h⟩ := bd_some h
  refine ev_invVv (As := [.int (93)]) (st := []) dX5_readLoan_23 cb_X5_expect tp_363 tp_365 tp_7 kf5 rfl (by omega) g16 rfl rfl (Nat.le_of_ble_eq_true rfl) (x_X5_expect e18) ?_
  refine ev_aload_nR 1 dX5_readLoan_26 rfl ?_
  obtain ⟨g20, h⟩ := gd_some h
  obtain ⟨p21, e22, h⟩ := op_some h
  refine ev_getPR dX5_readLoan_27 fl_X5_22 rfl g20 e22 ?_
  refine ev_bipush (v := 91) dX5_readLoan_30 (by decide) ?_
  refine ev_aload_nR 1 dX5_readLoan_32 rfl ?_
  refine ev_iload_n 2 dX5_readLoan_33 rfl ?_
  refine ev_iconst (v := 1) dX5_readLoan_34 (by decide) ?_
  refine ev_iadd dX5_readLoan_35 ?_
  obtain ⟨r25, σ23, e24, h⟩ := bd_some h
  refine ev_invVi (As := [.int (a1 + 1)]) (st := [.int (91), .ref p21]) dX5_readLoan_36 cb_X5_readGoal tp_351 tp_353 tp_5 kf5 rfl (by omega) g20 rfl rfl (Nat.le_of_ble_eq_true rfl) (hkg e24) ?_
  refine ev_iload_n 0 dX5_readLoan_39 rfl ?_
  obtain ⟨g26, h⟩ := gd_some h
  obtain ⟨r29, σ27, e28, h⟩ := bd_some h
  refine ev_invVi (As := [.int (91), .int (r25), .int (r11)]) (st := []) dX5_readLoan_40 cb_X3_addNode tp_355 tp_356 tp_357 kf3 rfl (by omega) g26 rfl rfl (Nat.le_of_ble_eq_true rfl) (x_X3_addNode e28) ?_
  exact ev_retI .int dX5_readLoan_43 rfl rfl h
def s_X5_readGoal_96 (kg : Nat → Int32 → St → Option (Int32 × St)) (a0 : Nat) (a2 : Int32) (σ : St) : Option (Int32 × St) :=
 if isO σ 5 a0 = true then (lt (setI σ a0 2 ((sI σ a0 2) + 1)) fun σ2 =>
 op (sP σ2 a0 1) fun p4 =>
 if isO σ2 3 p4 = true then (bd (s_X3_addNode p4 a2 ((-1)) ((-1)) σ2) fun r9 σ7 =>
 some (r9, σ7)) else none) else none
set_option maxHeartbeats 4000000 in
set_option maxRecDepth 100000 in
theorem e_X5_readGoal_96 {kg : Nat → Int32 → St → Option (Int32 × St)} {dk : Nat} (hkg : ∀ {x0 : Nat} {x1 : Int32} {σ : St} {r : Int32} {σ' : St}, kg x0 x1 σ = some (r, σ') → Ex M_X5_readGoal dk [.ref x0, .int (x1)] σ (some (.int r)) σ') {r : Int32} {σ' : St} : ∀ {a0 : Nat} {a2 : Int32} {σ : St}, s_X5_readGoal_96 kg a0 a2 σ = some (r, σ') → Ev M_X5_readGoal (dk + 6) 96 [(0, .ref a0), (2, .int (a2))] [] σ (some (.int r)) σ' := by
  intro a0 a2 σ h
  unfold s_X5_readGoal_96 at h
  refine ev_aload_nR 0 dX5_readGoal_96 rfl ?_
  refine ev_dup dX5_readGoal_97 rfl ?_
  obtain ⟨g1, h⟩ := gd_some h
  refine ev_getI dX5_readGoal_98 fl_X5_9 rfl g1 ?_
  refine ev_iconst (v := 1) dX5_readGoal_101 (by decide) ?_
  refine ev_iadd dX5_readGoal_102 ?_
  obtain ⟨σ2, e3, h⟩ := lt_some h
  refine ev_putI dX5_readGoal_103 fl_X5_9 rfl (Or.inl rfl) g1 ⟨rfl, rfl⟩ ?_
  refine ev_st e3 ?_
  refine ev_aload_nR 0 dX5_readGoal_106 rfl ?_
  obtain ⟨p4, e5, h⟩ := op_some h
  refine ev_getPR dX5_readGoal_107 fl_X5_22 rfl (isO_I e3 g1) e5 ?_
  refine ev_iload_n 1 dX5_readGoal_110 rfl ?_
  refine ev_iconst (v := (-1)) dX5_readGoal_111 (by decide) ?_
  refine ev_iconst (v := (-1)) dX5_readGoal_112 (by decide) ?_
  obtain ⟨g6, h⟩ := gd_some h
  obtain ⟨r9, σ7, e8, h⟩ := bd_some h
  refine ev_invVi (As := [.int (a2), .int ((-1)), .int ((-1))]) (st := []) dX5_readGoal_113 cb_X3_addNode tp_355 tp_356 tp_357 kf3 rfl (by omega) g6 rfl rfl (Nat.le_of_ble_eq_true rfl) (x_X3_addNode e8) ?_
  exact ev_retI .int dX5_readGoal_116 rfl rfl h
def sc_X5_readGoal (kg : Nat → Int32 → St → Option (Int32 × St)) (a0 : Nat) (a1 : Int32) (σ : St) : Option (Int32 × St) :=
 if isO σ 5 a0 = true then (bd (s_X5_next a0 σ) fun r13 σ11 =>
 if a1 ≤ 60 then (bd (s_X5_isAtom r13 σ11) fun r17 σ15 =>
 if r17 = 0 then (if r13 = 33 then (if isO σ15 5 a0 = true then (lt (setI σ15 a0 2 ((sI σ15 a0 2) + 1)) fun σ21 =>
 op (sP σ21 a0 1) fun p23 =>
 bd (kg a0 (a1 + 1) σ21) fun r27 σ25 =>
 if isO σ25 3 p23 = true then (bd (s_X3_addNode p23 r13 r27 ((-1)) σ25) fun r31 σ29 =>
 some (r31, σ29)) else none) else none) else (if r13 = 40 then (if isO σ15 5 a0 = true then (bd (s_X5_readPair kg a0 a1 σ15) fun r36 σ34 =>
 some (r36, σ34)) else none) else (if r13 = 49 then (s_X5_readGoal_96 kg a0 r13 σ15) else (if r13 = 84 then (s_X5_readGoal_96 kg a0 r13 σ15) else (if r13 = 91 then (if isO σ15 5 a0 = true then (bd (s_X5_readLoan kg a0 a1 σ15) fun r43 σ41 =>
 some (r43, σ41)) else none) else (if isO σ15 5 a0 = true then (bd (s_X5_refuse a0 σ15) fun r47 σ45 =>
 some (r47, σ45)) else none)))))) else (if isO σ15 5 a0 = true then (lt (setI σ15 a0 2 ((sI σ15 a0 2) + 1)) fun σ49 =>
 op (sP σ49 a0 1) fun p51 =>
 if isO σ49 3 p51 = true then (bd (s_X3_addNode p51 r13 ((-1)) ((-1)) σ49) fun r56 σ54 =>
 some (r56, σ54)) else none) else none)) else (if isO σ11 5 a0 = true then (bd (s_X5_refuse a0 σ11) fun r60 σ58 =>
 some (r60, σ58)) else none)) else none
set_option maxHeartbeats 4000000 in
set_option maxRecDepth 100000 in
theorem xc_X5_readGoal {kg : Nat → Int32 → St → Option (Int32 × St)} {dk : Nat} (hkg : ∀ {x0 : Nat} {x1 : Int32} {σ : St} {r : Int32} {σ' : St}, kg x0 x1 σ = some (r, σ') → Ex M_X5_readGoal dk [.ref x0, .int (x1)] σ (some (.int r)) σ') {a0 : Nat} {a1 : Int32} {σ : St} {r : Int32} {σ' : St} (h : sc_X5_readGoal kg a0 a1 σ = some (r, σ')) : Ex M_X5_readGoal (dk + 6) [.ref a0, .int (a1)] σ (some (.int r)) σ' := by
  unfold sc_X5_readGoal at h
  refine ex_of (by decide) rfl (Nat.le_of_ble_eq_true rfl) ?_
  show Ev _ _ 0 [(0, .ref a0), (1, .int (a1))] [] _ _ _
  refine ev_aload_nR 0 dX5_readGoal_0 rfl ?_
  obtain ⟨g10, h⟩ := gd_some h
  obtain ⟨r13, σ11, e12, h⟩ := bd_some h
  refine ev_invVi (As := []) (st := []) dX5_readGoal_1 cb_X5_next tp_340 tp_342 tp_3 kf5 rfl (by omega) g10 rfl rfl (Nat.le_of_ble_eq_true rfl) (x_X5_next e12) ?_
  refine ev_istore_n (ls' := [(2, .int (r13)), (0, .ref a0), (1, .int (a1))]) dX5_readGoal_4 (by decide) rfl ?_
  refine ev_iload_n 2 dX5_readGoal_5 rfl ?_
  refine ev_bipush (v := 60) dX5_readGoal_6 (by decide) ?_
  rcases it_some h with ⟨c14, h⟩ | ⟨c14, h⟩
  · refine ev_icmp_le (tgt := 16) dX5_readGoal_8 rfl c14 ?_
    refine ev_iload_n 0 dX5_readGoal_16 rfl ?_
    obtain ⟨r17, σ15, e16, h⟩ := bd_some h
    refine ev_invSi (As := [.int (r13)]) (st := []) dX5_readGoal_17 cb_X5_isAtom tp_344 tp_345 (by omega) rfl rfl (Nat.le_of_ble_eq_true rfl) (x_X5_isAtom e16) ?_
    rcases it_some h with ⟨c18, h⟩ | ⟨c18, h⟩
    · refine ev_if_eq (tgt := 44) dX5_readGoal_20 rfl c18 ?_
      refine ev_iload_n 0 dX5_readGoal_44 rfl ?_
      rcases it_some h with ⟨c19, h⟩ | ⟨c19, h⟩
      · refine ev_lookup (off := 72) (tgt := 117) dX5_readGoal_45 (by decide) (by rw [c19]; decide) rfl ?_
        refine ev_aload_nR 1 dX5_readGoal_117 rfl ?_
        refine ev_dup dX5_readGoal_118 rfl ?_
        obtain ⟨g20, h⟩ := gd_some h
        refine ev_getI dX5_readGoal_119 fl_X5_9 rfl g20 ?_
        refine ev_iconst (v := 1) dX5_readGoal_122 (by decide) ?_
        refine ev_iadd dX5_readGoal_123 ?_
        obtain ⟨σ21, e22, h⟩ := lt_some h
        refine ev_putI dX5_readGoal_124 fl_X5_9 rfl (Or.inl rfl) g20 ⟨rfl, rfl⟩ ?_
        refine ev_st e22 ?_
        refine ev_aload_nR 1 dX5_readGoal_127 rfl ?_
        obtain ⟨p23, e24, h⟩ := op_some h
        refine ev_getPR dX5_readGoal_128 fl_X5_22 rfl (isO_I e22 g20) e24 ?_
        refine ev_iload_n 0 dX5_readGoal_131 rfl ?_
        refine ev_aload_nR 1 dX5_readGoal_132 rfl ?_
        refine ev_iload_n 2 dX5_readGoal_133 rfl ?_
        refine ev_iconst (v := 1) dX5_readGoal_134 (by decide) ?_
        refine ev_iadd dX5_readGoal_135 ?_
        obtain ⟨r27, σ25, e26, h⟩ := bd_some h
        refine ev_invVi (As := [.int (a1 + 1)]) (st := [.int (r13), .ref p23]) dX5_readGoal_136 cb_X5_readGoal tp_351 tp_353 tp_5 kf5 rfl (by omega) (isO_I e22 g20) rfl rfl (Nat.le_of_ble_eq_true rfl) (hkg e26) ?_
        refine ev_iconst (v := (-1)) dX5_readGoal_139 (by decide) ?_
        obtain ⟨g28, h⟩ := gd_some h
        obtain ⟨r31, σ29, e30, h⟩ := bd_some h
        refine ev_invVi (As := [.int (r13), .int (r27), .int ((-1))]) (st := []) dX5_readGoal_140 cb_X3_addNode tp_355 tp_356 tp_357 kf3 rfl (by omega) g28 rfl rfl (Nat.le_of_ble_eq_true rfl) (x_X3_addNode e30) ?_
        exact ev_retI .int dX5_readGoal_143 rfl rfl h
      rcases it_some h with ⟨c32, h⟩ | ⟨c32, h⟩
      · refine ev_lookup (off := 99) (tgt := 144) dX5_readGoal_45 (by decide) (by rw [c32]; decide) rfl ?_
        refine ev_aload_nR 1 dX5_readGoal_144 rfl ?_
        refine ev_iload_n 2 dX5_readGoal_145 rfl ?_
        obtain ⟨g33, h⟩ := gd_some h
        obtain ⟨r36, σ34, e35, h⟩ := bd_some h
        refine ev_invVi (As := [.int (a1)]) (st := []) dX5_readGoal_146 cb_X5_readPair tp_359 tp_361 tp_6 kf5 rfl (by omega) g33 rfl rfl (Nat.le_of_ble_eq_true rfl) (x_X5_readPair hkg e35) ?_
        exact ev_retI .int dX5_readGoal_149 rfl rfl h
      rcases it_some h with ⟨c37, h⟩ | ⟨c37, h⟩
      · refine ev_lookup (off := 51) (tgt := 96) dX5_readGoal_45 (by decide) (by rw [c37]; decide) rfl ?_
        refine ev_sub (ls' := [(0, .ref a0), (2, .int (r13))]) [1, 0] rfl ?_
        exact e_X5_readGoal_96 hkg h
      rcases it_some h with ⟨c38, h⟩ | ⟨c38, h⟩
      · refine ev_lookup (off := 51) (tgt := 96) dX5_readGoal_45 (by decide) (by rw [c38]; decide) rfl ?_
        refine ev_sub (ls' := [(0, .ref a0), (2, .int (r13))]) [1, 0] rfl ?_
        exact e_X5_readGoal_96 hkg h
      rcases it_some h with ⟨c39, h⟩ | ⟨c39, h⟩
      · refine ev_lookup (off := 105) (tgt := 150) dX5_readGoal_45 (by decide) (by rw [c39]; decide) rfl ?_
        refine ev_aload_nR 1 dX5_readGoal_150 rfl ?_
        refine ev_iload_n 2 dX5_readGoal_151 rfl ?_
        obtain ⟨g40, h⟩ := gd_some h
        obtain ⟨r43, σ41, e42, h⟩ := bd_some h
        refine ev_invVi (As := [.int (a1)]) (st := []) dX5_readGoal_152 cb_X5_readLoan tp_367 tp_369 tp_8 kf5 rfl (by omega) g40 rfl rfl (Nat.le_of_ble_eq_true rfl) (x_X5_readLoan hkg e42) ?_
        exact ev_retI .int dX5_readGoal_155 rfl rfl h
      refine ev_lookup (off := 111) (tgt := 156) dX5_readGoal_45 (by decide) ?_ rfl ?_
      · simp only [Op.lookupswitch.offset_cons, Op.lookupswitch.offset_nil]
        rw [if_neg (fun q => ne_toInt c19 q.symm)]
        rw [if_neg (fun q => ne_toInt c32 q.symm)]
        rw [if_neg (fun q => ne_toInt c37 q.symm)]
        rw [if_neg (fun q => ne_toInt c38 q.symm)]
        rw [if_neg (fun q => ne_toInt c39 q.symm)]
      · refine ev_aload_nR 1 dX5_readGoal_156 rfl ?_
        obtain ⟨g44, h⟩ := gd_some h
        obtain ⟨r47, σ45, e46, h⟩ := bd_some h
        refine ev_invVi (As := []) (st := []) dX5_readGoal_157 cb_X5_refuse tp_347 tp_349 tp_4 kf5 rfl (by omega) g44 rfl rfl (Nat.le_of_ble_eq_true rfl) (x_X5_refuse e46) ?_
        exact ev_retI .int dX5_readGoal_160 rfl rfl h
    · refine ev_if_eq_n 44 dX5_readGoal_20 rfl c18 ?_
      refine ev_aload_nR 1 dX5_readGoal_23 rfl ?_
      refine ev_dup dX5_readGoal_24 rfl ?_
      obtain ⟨g48, h⟩ := gd_some h
      refine ev_getI dX5_readGoal_25 fl_X5_9 rfl g48 ?_
      refine ev_iconst (v := 1) dX5_readGoal_28 (by decide) ?_
      refine ev_iadd dX5_readGoal_29 ?_
      obtain ⟨σ49, e50, h⟩ := lt_some h
      refine ev_putI dX5_readGoal_30 fl_X5_9 rfl (Or.inl rfl) g48 ⟨rfl, rfl⟩ ?_
      refine ev_st e50 ?_
      refine ev_aload_nR 1 dX5_readGoal_33 rfl ?_
      obtain ⟨p51, e52, h⟩ := op_some h
      refine ev_getPR dX5_readGoal_34 fl_X5_22 rfl (isO_I e50 g48) e52 ?_
      refine ev_iload_n 0 dX5_readGoal_37 rfl ?_
      refine ev_iconst (v := (-1)) dX5_readGoal_38 (by decide) ?_
      refine ev_iconst (v := (-1)) dX5_readGoal_39 (by decide) ?_
      obtain ⟨g53, h⟩ := gd_some h
      obtain ⟨r56, σ54, e55, h⟩ := bd_some h
      refine ev_invVi (As := [.int (r13), .int ((-1)), .int ((-1))]) (st := []) dX5_readGoal_40 cb_X3_addNode tp_355 tp_356 tp_357 kf3 rfl (by omega) g53 rfl rfl (Nat.le_of_ble_eq_true rfl) (x_X3_addNode e55) ?_
      exact ev_retI .int dX5_readGoal_43 rfl rfl h
  · refine ev_icmp_le_n 16 dX5_readGoal_8 rfl c14 ?_
    refine ev_aload_nR 1 dX5_readGoal_11 rfl ?_
    obtain ⟨g57, h⟩ := gd_some h
    obtain ⟨r60, σ58, e59, h⟩ := bd_some h
    refine ev_invVi (As := []) (st := []) dX5_readGoal_12 cb_X5_refuse tp_347 tp_349 tp_4 kf5 rfl (by omega) g57 rfl rfl (Nat.le_of_ble_eq_true rfl) (x_X5_refuse e59) ?_
    exact ev_retI .int dX5_readGoal_15 rfl rfl h
def s_X5_readGoal (F : Nat) : Nat → Int32 → St → Option (Int32 × St) := lp (fun _ _ _ => none) sc_X5_readGoal F
theorem x_X5_readGoal (F : Nat) : ∀ {a0 : Nat} {a1 : Int32} {σ : St} {r : Int32} {σ' : St}, s_X5_readGoal F a0 a1 σ = some (r, σ') → Ex M_X5_readGoal (6 * F) [.ref a0, .int (a1)] σ (some (.int r)) σ' := by
  induction F with
  | zero => intro a0 a1 σ r σ' h; cases h
  | succ F ih => intro a0 a1 σ r σ' h; exact xc_X5_readGoal (kg := s_X5_readGoal F) (dk := 6 * F) (fun h => ih h) h
def s_X3_isNode (a0 : Nat) (a1 : Int32) (σ : St) : Option (Int32 × St) :=
 if a1 < 0 then (some (0, σ)) else (if isO σ 3 a0 = true then (if (sI σ a0 5) ≤ a1 then (some (0, σ)) else (if (60 : Int32) ≤ a1 then (some (0, σ)) else (some (1, σ)))) else none)
set_option maxHeartbeats 4000000 in
set_option maxRecDepth 100000 in
theorem x_X3_isNode {a0 : Nat} {a1 : Int32} {σ : St} {r : Int32} {σ' : St} (h : s_X3_isNode a0 a1 σ = some (r, σ')) : Ex M_X3_isNode (1) [.ref a0, .int (a1)] σ (some (.int r)) σ' := by
  unfold s_X3_isNode at h
  refine ex_of (by decide) rfl (Nat.le_of_ble_eq_true rfl) ?_
  show Ev _ _ 0 [(0, .ref a0), (1, .int (a1))] [] _ _ _
  refine ev_iload_n 1 dX3_isNode_0 rfl ?_
  rcases it_some h with ⟨c1, h⟩ | ⟨c1, h⟩
  · refine ev_if_lt (tgt := 22) dX3_isNode_1 rfl c1 ?_
    refine ev_iconst (v := 0) dX3_isNode_22 (by decide) ?_
    exact ev_retI .boolean dX3_isNode_23 rfl rfl h
  · refine ev_if_lt_n 22 dX3_isNode_1 rfl c1 ?_
    refine ev_iload_n 1 dX3_isNode_4 rfl ?_
    refine ev_aload_nR 0 dX3_isNode_5 rfl ?_
    obtain ⟨g2, h⟩ := gd_some h
    refine ev_getI dX3_isNode_6 fl_X3_28 rfl g2 ?_
    rcases it_some h with ⟨c3, h⟩ | ⟨c3, h⟩
    · refine ev_icmp_ge (tgt := 22) dX3_isNode_9 rfl c3 ?_
      refine ev_iconst (v := 0) dX3_isNode_22 (by decide) ?_
      exact ev_retI .boolean dX3_isNode_23 rfl rfl h
    · refine ev_icmp_ge_n 22 dX3_isNode_9 rfl c3 ?_
      refine ev_iload_n 1 dX3_isNode_12 rfl ?_
      refine ev_bipush (v := 60) dX3_isNode_13 (by decide) ?_
      rcases it_some h with ⟨c4, h⟩ | ⟨c4, h⟩
      · refine ev_icmp_ge (tgt := 22) dX3_isNode_15 rfl c4 ?_
        refine ev_iconst (v := 0) dX3_isNode_22 (by decide) ?_
        exact ev_retI .boolean dX3_isNode_23 rfl rfl h
      · refine ev_icmp_ge_n 22 dX3_isNode_15 rfl c4 ?_
        refine ev_iconst (v := 1) dX3_isNode_18 (by decide) ?_
        refine ev_goto (tgt := 23) dX3_isNode_19 rfl ?_
        exact ev_retI .boolean dX3_isNode_23 rfl rfl h
def s_X3_first (a0 : Nat) (a1 : Int32) (σ : St) : Option (Int32 × St) :=
 if isO σ 3 a0 = true then (bd (s_X3_isNode a0 a1 σ) fun r4 σ2 =>
 if r4 = 0 then (some ((-1), σ2)) else (if isO σ2 3 a0 = true then (op (sP σ2 a0 1) fun p7 =>
 if isO σ2 13 p7 = true then (if inR a1 (alen σ2 p7) = true then (some (sI σ2 p7 a1.toNatClampNeg, σ2)) else none) else none) else none)) else none
set_option maxHeartbeats 4000000 in
set_option maxRecDepth 100000 in
theorem x_X3_first {a0 : Nat} {a1 : Int32} {σ : St} {r : Int32} {σ' : St} (h : s_X3_first a0 a1 σ = some (r, σ')) : Ex M_X3_first (2) [.ref a0, .int (a1)] σ (some (.int r)) σ' := by
  unfold s_X3_first at h
  refine ex_of (by decide) rfl (Nat.le_of_ble_eq_true rfl) ?_
  show Ev _ _ 0 [(0, .ref a0), (1, .int (a1))] [] _ _ _
  refine ev_aload_nR 0 dX3_first_0 rfl ?_
  refine ev_iload_n 1 dX3_first_1 rfl ?_
  obtain ⟨g1, h⟩ := gd_some h
  obtain ⟨r4, σ2, e3, h⟩ := bd_some h
  refine ev_invVi (As := [.int (a1)]) (st := []) dX3_first_2 cb_X3_isNode tp_536 tp_538 tp_19 kf3 rfl (by omega) g1 rfl rfl (Nat.le_of_ble_eq_true rfl) (x_X3_isNode e3) ?_
  rcases it_some h with ⟨c5, h⟩ | ⟨c5, h⟩
  · refine ev_if_eq (tgt := 17) dX3_first_5 rfl c5 ?_
    refine ev_iconst (v := (-1)) dX3_first_17 (by decide) ?_
    exact ev_retI .int dX3_first_18 rfl rfl h
  · refine ev_if_eq_n 17 dX3_first_5 rfl c5 ?_
    refine ev_aload_nR 0 dX3_first_8 rfl ?_
    obtain ⟨g6, h⟩ := gd_some h
    obtain ⟨p7, e8, h⟩ := op_some h
    refine ev_getPR dX3_first_9 fl_X3_15 rfl g6 e8 ?_
    refine ev_iload_n 1 dX3_first_12 rfl ?_
    obtain ⟨g9, h⟩ := gd_some h
    obtain ⟨g10, h⟩ := gd_some h
    refine ev_iald dX3_first_13 (isA_O g9) g10 ?_
    refine ev_goto (tgt := 18) dX3_first_14 rfl ?_
    exact ev_retI .int dX3_first_18 rfl rfl h
def s_X3_second (a0 : Nat) (a1 : Int32) (σ : St) : Option (Int32 × St) :=
 if isO σ 3 a0 = true then (bd (s_X3_isNode a0 a1 σ) fun r4 σ2 =>
 if r4 = 0 then (some ((-1), σ2)) else (if isO σ2 3 a0 = true then (op (sP σ2 a0 2) fun p7 =>
 if isO σ2 13 p7 = true then (if inR a1 (alen σ2 p7) = true then (some (sI σ2 p7 a1.toNatClampNeg, σ2)) else none) else none) else none)) else none
set_option maxHeartbeats 4000000 in
set_option maxRecDepth 100000 in
theorem x_X3_second {a0 : Nat} {a1 : Int32} {σ : St} {r : Int32} {σ' : St} (h : s_X3_second a0 a1 σ = some (r, σ')) : Ex M_X3_second (2) [.ref a0, .int (a1)] σ (some (.int r)) σ' := by
  unfold s_X3_second at h
  refine ex_of (by decide) rfl (Nat.le_of_ble_eq_true rfl) ?_
  show Ev _ _ 0 [(0, .ref a0), (1, .int (a1))] [] _ _ _
  refine ev_aload_nR 0 dX3_second_0 rfl ?_
  refine ev_iload_n 1 dX3_second_1 rfl ?_
  obtain ⟨g1, h⟩ := gd_some h
  obtain ⟨r4, σ2, e3, h⟩ := bd_some h
  refine ev_invVi (As := [.int (a1)]) (st := []) dX3_second_2 cb_X3_isNode tp_536 tp_538 tp_19 kf3 rfl (by omega) g1 rfl rfl (Nat.le_of_ble_eq_true rfl) (x_X3_isNode e3) ?_
  rcases it_some h with ⟨c5, h⟩ | ⟨c5, h⟩
  · refine ev_if_eq (tgt := 17) dX3_second_5 rfl c5 ?_
    refine ev_iconst (v := (-1)) dX3_second_17 (by decide) ?_
    exact ev_retI .int dX3_second_18 rfl rfl h
  · refine ev_if_eq_n 17 dX3_second_5 rfl c5 ?_
    refine ev_aload_nR 0 dX3_second_8 rfl ?_
    obtain ⟨g6, h⟩ := gd_some h
    obtain ⟨p7, e8, h⟩ := op_some h
    refine ev_getPR dX3_second_9 fl_X3_19 rfl g6 e8 ?_
    refine ev_iload_n 1 dX3_second_12 rfl ?_
    obtain ⟨g9, h⟩ := gd_some h
    obtain ⟨g10, h⟩ := gd_some h
    refine ev_iald dX3_second_13 (isA_O g9) g10 ?_
    refine ev_goto (tgt := 18) dX3_second_14 rfl ?_
    exact ev_retI .int dX3_second_18 rfl rfl h
def s_X3_kind (a0 : Nat) (a1 : Int32) (σ : St) : Option (Int32 × St) :=
 if isO σ 3 a0 = true then (bd (s_X3_isNode a0 a1 σ) fun r4 σ2 =>
 if r4 = 0 then (if chok 0 = true then (some (0, σ2)) else none) else (if isO σ2 3 a0 = true then (op (sP σ2 a0 0) fun p8 =>
 if isO σ2 12 p8 = true then (if inR a1 (alen σ2 p8) = true then (if chok (sI σ2 p8 a1.toNatClampNeg) = true then (some (sI σ2 p8 a1.toNatClampNeg, σ2)) else none) else none) else none) else none)) else none
set_option maxHeartbeats 4000000 in
set_option maxRecDepth 100000 in
theorem x_X3_kind {a0 : Nat} {a1 : Int32} {σ : St} {r : Int32} {σ' : St} (h : s_X3_kind a0 a1 σ = some (r, σ')) : Ex M_X3_kind (2) [.ref a0, .int (a1)] σ (some (.int r)) σ' := by
  unfold s_X3_kind at h
  refine ex_of (by decide) rfl (Nat.le_of_ble_eq_true rfl) ?_
  show Ev _ _ 0 [(0, .ref a0), (1, .int (a1))] [] _ _ _
  refine ev_aload_nR 0 dX3_kind_0 rfl ?_
  refine ev_iload_n 1 dX3_kind_1 rfl ?_
  obtain ⟨g1, h⟩ := gd_some h
  obtain ⟨r4, σ2, e3, h⟩ := bd_some h
  refine ev_invVi (As := [.int (a1)]) (st := []) dX3_kind_2 cb_X3_isNode tp_536 tp_538 tp_19 kf3 rfl (by omega) g1 rfl rfl (Nat.le_of_ble_eq_true rfl) (x_X3_isNode e3) ?_
  rcases it_some h with ⟨c5, h⟩ | ⟨c5, h⟩
  · refine ev_if_eq (tgt := 17) dX3_kind_5 rfl c5 ?_
    refine ev_iconst (v := 0) dX3_kind_17 (by decide) ?_
    obtain ⟨g6, h⟩ := gd_some h
    exact ev_retI .char dX3_kind_18 rfl (nc_of g6) h
  · refine ev_if_eq_n 17 dX3_kind_5 rfl c5 ?_
    refine ev_aload_nR 0 dX3_kind_8 rfl ?_
    obtain ⟨g7, h⟩ := gd_some h
    obtain ⟨p8, e9, h⟩ := op_some h
    refine ev_getPR dX3_kind_9 fl_X3_9 rfl g7 e9 ?_
    refine ev_iload_n 1 dX3_kind_12 rfl ?_
    obtain ⟨g10, h⟩ := gd_some h
    obtain ⟨g11, h⟩ := gd_some h
    refine ev_cald dX3_kind_13 (isA_O g10) g11 ?_
    refine ev_goto (tgt := 18) dX3_kind_14 rfl ?_
    obtain ⟨g12, h⟩ := gd_some h
    exact ev_retI .char dX3_kind_18 rfl (nc_of g12) h
def s_J6_bitCount_0f7a4 (a0 : Int32) (σ : St) : Option (Int32 × St) :=
 lt (a0 - (((a0.toUInt32 >>> ((1 : Int32).toUInt32 &&& Int32.toUInt32 31)).toInt32) &&& 1431655765) : Int32) fun v1 =>
 lt ((v1 &&& 858993459) + (((v1.toUInt32 >>> ((2 : Int32).toUInt32 &&& Int32.toUInt32 31)).toInt32) &&& 858993459) : Int32) fun v3 =>
 lt ((v3 + ((v3.toUInt32 >>> ((4 : Int32).toUInt32 &&& Int32.toUInt32 31)).toInt32)) &&& 252645135 : Int32) fun v5 =>
 lt (v5 + ((v5.toUInt32 >>> ((8 : Int32).toUInt32 &&& Int32.toUInt32 31)).toInt32) : Int32) fun v7 =>
 lt (v7 + ((v7.toUInt32 >>> ((16 : Int32).toUInt32 &&& Int32.toUInt32 31)).toInt32) : Int32) fun v9 =>
 some (v9 &&& 63, σ)
set_option maxHeartbeats 4000000 in
set_option maxRecDepth 100000 in
theorem x_J6_bitCount_0f7a4 {a0 : Int32} {σ : St} {r : Int32} {σ' : St} (h : s_J6_bitCount_0f7a4 a0 σ = some (r, σ')) : Ex M_J6_bitCount_0f7a4 (1) [.int (a0)] σ (some (.int r)) σ' := by
  unfold s_J6_bitCount_0f7a4 at h
  refine ex_of (by decide) rfl (Nat.le_of_ble_eq_true rfl) ?_
  show Ev _ _ 0 [(0, .int (a0))] [] _ _ _
  refine ev_iload_n 0 dJ6_bitCount_0f7a4_0 rfl ?_
  refine ev_iload_n 0 dJ6_bitCount_0f7a4_1 rfl ?_
  refine ev_iconst (v := 1) dJ6_bitCount_0f7a4_2 (by decide) ?_
  refine ev_iushr dJ6_bitCount_0f7a4_3 ?_
  refine ev_ldcw dJ6_bitCount_0f7a4_4 tp_471 ?_
  refine ev_iand dJ6_bitCount_0f7a4_7 ?_
  refine ev_isub dJ6_bitCount_0f7a4_8 ?_
  obtain ⟨v1, e2, h⟩ := lt_some h
  refine ev_topI e2 ?_
  refine ev_istore_n (ls' := [(0, .int (v1))]) dJ6_bitCount_0f7a4_9 (by decide) rfl ?_
  refine ev_iload_n 0 dJ6_bitCount_0f7a4_10 rfl ?_
  refine ev_ldcw dJ6_bitCount_0f7a4_11 tp_472 ?_
  refine ev_iand dJ6_bitCount_0f7a4_14 ?_
  refine ev_iload_n 0 dJ6_bitCount_0f7a4_15 rfl ?_
  refine ev_iconst (v := 2) dJ6_bitCount_0f7a4_16 (by decide) ?_
  refine ev_iushr dJ6_bitCount_0f7a4_17 ?_
  refine ev_ldcw dJ6_bitCount_0f7a4_18 tp_472 ?_
  refine ev_iand dJ6_bitCount_0f7a4_21 ?_
  refine ev_iadd dJ6_bitCount_0f7a4_22 ?_
  obtain ⟨v3, e4, h⟩ := lt_some h
  refine ev_topI e4 ?_
  refine ev_istore_n (ls' := [(0, .int (v3))]) dJ6_bitCount_0f7a4_23 (by decide) rfl ?_
  refine ev_iload_n 0 dJ6_bitCount_0f7a4_24 rfl ?_
  refine ev_iload_n 0 dJ6_bitCount_0f7a4_25 rfl ?_
  refine ev_iconst (v := 4) dJ6_bitCount_0f7a4_26 (by decide) ?_
  refine ev_iushr dJ6_bitCount_0f7a4_27 ?_
  refine ev_iadd dJ6_bitCount_0f7a4_28 ?_
  refine ev_ldcw dJ6_bitCount_0f7a4_29 tp_473 ?_
  refine ev_iand dJ6_bitCount_0f7a4_32 ?_
  obtain ⟨v5, e6, h⟩ := lt_some h
  refine ev_topI e6 ?_
  refine ev_istore_n (ls' := [(0, .int (v5))]) dJ6_bitCount_0f7a4_33 (by decide) rfl ?_
  refine ev_iload_n 0 dJ6_bitCount_0f7a4_34 rfl ?_
  refine ev_iload_n 0 dJ6_bitCount_0f7a4_35 rfl ?_
  refine ev_bipush (v := 8) dJ6_bitCount_0f7a4_36 (by decide) ?_
  refine ev_iushr dJ6_bitCount_0f7a4_38 ?_
  refine ev_iadd dJ6_bitCount_0f7a4_39 ?_
  obtain ⟨v7, e8, h⟩ := lt_some h
  refine ev_topI e8 ?_
  refine ev_istore_n (ls' := [(0, .int (v7))]) dJ6_bitCount_0f7a4_40 (by decide) rfl ?_
  refine ev_iload_n 0 dJ6_bitCount_0f7a4_41 rfl ?_
  refine ev_iload_n 0 dJ6_bitCount_0f7a4_42 rfl ?_
  refine ev_bipush (v := 16) dJ6_bitCount_0f7a4_43 (by decide) ?_
  refine ev_iushr dJ6_bitCount_0f7a4_45 ?_
  refine ev_iadd dJ6_bitCount_0f7a4_46 ?_
  obtain ⟨v9, e10, h⟩ := lt_some h
  refine ev_topI e10 ?_
  refine ev_istore_n (ls' := [(0, .int (v9))]) dJ6_bitCount_0f7a4_47 (by decide) rfl ?_
  refine ev_iload_n 0 dJ6_bitCount_0f7a4_48 rfl ?_
  refine ev_bipush (v := 63) dJ6_bitCount_0f7a4_49 (by decide) ?_
  refine ev_iand dJ6_bitCount_0f7a4_51 ?_
  exact ev_retI .int dJ6_bitCount_0f7a4_52 rfl rfl h
def s_X10_partsOf (a0 : Int32) (σ : St) : Option (Int32 × St) :=
 bd (s_J6_bitCount_0f7a4 (a0 &&& 255) σ) fun r3 σ1 =>
 some (1 <<< (r3 &&& 31), σ1)
set_option maxHeartbeats 4000000 in
set_option maxRecDepth 100000 in
theorem x_X10_partsOf {a0 : Int32} {σ : St} {r : Int32} {σ' : St} (h : s_X10_partsOf a0 σ = some (r, σ')) : Ex M_X10_partsOf (2) [.int (a0)] σ (some (.int r)) σ' := by
  unfold s_X10_partsOf at h
  refine ex_of (by decide) rfl (Nat.le_of_ble_eq_true rfl) ?_
  show Ev _ _ 0 [(0, .int (a0))] [] _ _ _
  refine ev_iconst (v := 1) dX10_partsOf_0 (by decide) ?_
  refine ev_iload_n 0 dX10_partsOf_1 rfl ?_
  refine ev_sipush (v := 255) dX10_partsOf_2 (by decide) ?_
  refine ev_iand dX10_partsOf_5 ?_
  obtain ⟨r3, σ1, e2, h⟩ := bd_some h
  refine ev_invSi (As := [.int (a0 &&& 255)]) (st := [.int (1)]) dX10_partsOf_6 cb_J6_bitCount_0f7a4 tp_468 tp_469 (by omega) rfl rfl (Nat.le_of_ble_eq_true rfl) (x_J6_bitCount_0f7a4 e2) ?_
  refine ev_ishl dX10_partsOf_9 ?_
  exact ev_retI .int dX10_partsOf_10 rfl rfl h
def s_X4_rowOf (a0 : Int32) (a1 : Int32) (σ : St) : Option (Int32 × St) :=
 if a0 < 0 then (some ((-1), σ)) else (if (60 : Int32) ≤ a0 then (some ((-1), σ)) else (some (((a1 * 60) + a0) * 4, σ)))
set_option maxHeartbeats 4000000 in
set_option maxRecDepth 100000 in
theorem x_X4_rowOf {a0 : Int32} {a1 : Int32} {σ : St} {r : Int32} {σ' : St} (h : s_X4_rowOf a0 a1 σ = some (r, σ')) : Ex M_X4_rowOf (1) [.int (a0), .int (a1)] σ (some (.int r)) σ' := by
  unfold s_X4_rowOf at h
  refine ex_of (by decide) rfl (Nat.le_of_ble_eq_true rfl) ?_
  show Ev _ _ 0 [(0, .int (a0)), (1, .int (a1))] [] _ _ _
  refine ev_iload_n 0 dX4_rowOf_0 rfl ?_
  rcases it_some h with ⟨c1, h⟩ | ⟨c1, h⟩
  · refine ev_if_lt (tgt := 21) dX4_rowOf_1 rfl c1 ?_
    refine ev_iconst (v := (-1)) dX4_rowOf_21 (by decide) ?_
    exact ev_retI .int dX4_rowOf_22 rfl rfl h
  · refine ev_if_lt_n 21 dX4_rowOf_1 rfl c1 ?_
    refine ev_iload_n 0 dX4_rowOf_4 rfl ?_
    refine ev_bipush (v := 60) dX4_rowOf_5 (by decide) ?_
    rcases it_some h with ⟨c2, h⟩ | ⟨c2, h⟩
    · refine ev_icmp_ge (tgt := 21) dX4_rowOf_7 rfl c2 ?_
      refine ev_iconst (v := (-1)) dX4_rowOf_21 (by decide) ?_
      exact ev_retI .int dX4_rowOf_22 rfl rfl h
    · refine ev_icmp_ge_n 21 dX4_rowOf_7 rfl c2 ?_
      refine ev_iload_n 1 dX4_rowOf_10 rfl ?_
      refine ev_bipush (v := 60) dX4_rowOf_11 (by decide) ?_
      refine ev_imul dX4_rowOf_13 ?_
      refine ev_iload_n 0 dX4_rowOf_14 rfl ?_
      refine ev_iadd dX4_rowOf_15 ?_
      refine ev_iconst (v := 4) dX4_rowOf_16 (by decide) ?_
      refine ev_imul dX4_rowOf_17 ?_
      refine ev_goto (tgt := 22) dX4_rowOf_18 rfl ?_
      exact ev_retI .int dX4_rowOf_22 rfl rfl h
def s_X4_wordAt (a0 : Nat) (a1 : Int32) (a2 : Int32) (σ : St) : Option (Int64 × St) :=
 if a1 < 0 then (some (0, σ)) else (if a2 < 0 then (some (0, σ)) else (if isO σ 4 a0 = true then (op (sP σ a0 1) fun p4 =>
 if isO σ 14 p4 = true then (if (nI (alen σ p4)) ≤ (a1 + a2) then (some (0, σ)) else (if inR (a1 + a2) (alen σ p4) = true then (some (sL σ p4 ((a1 + a2).toNatClampNeg), σ)) else none)) else none) else none))
set_option maxHeartbeats 4000000 in
set_option maxRecDepth 100000 in
theorem x_X4_wordAt {a0 : Nat} {a1 : Int32} {a2 : Int32} {σ : St} {r : Int64} {σ' : St} (h : s_X4_wordAt a0 a1 a2 σ = some (r, σ')) : Ex M_X4_wordAt (1) [.ref a0, .int (a1), .int (a2)] σ (some (.long r)) σ' := by
  unfold s_X4_wordAt at h
  refine ex_of (by decide) rfl (Nat.le_of_ble_eq_true rfl) ?_
  show Ev _ _ 0 [(0, .ref a0), (1, .int (a1)), (2, .int (a2))] [] _ _ _
  refine ev_iload_n 1 dX4_wordAt_0 rfl ?_
  rcases it_some h with ⟨c1, h⟩ | ⟨c1, h⟩
  · refine ev_if_lt (tgt := 30) dX4_wordAt_1 rfl c1 ?_
    refine ev_lconst (v := 0) dX4_wordAt_30 (by decide) ?_
    exact ev_retL dX4_wordAt_31 rfl h
  · refine ev_if_lt_n 30 dX4_wordAt_1 rfl c1 ?_
    refine ev_iload_n 2 dX4_wordAt_4 rfl ?_
    rcases it_some h with ⟨c2, h⟩ | ⟨c2, h⟩
    · refine ev_if_lt (tgt := 30) dX4_wordAt_5 rfl c2 ?_
      refine ev_lconst (v := 0) dX4_wordAt_30 (by decide) ?_
      exact ev_retL dX4_wordAt_31 rfl h
    · refine ev_if_lt_n 30 dX4_wordAt_5 rfl c2 ?_
      refine ev_iload_n 1 dX4_wordAt_8 rfl ?_
      refine ev_iload_n 2 dX4_wordAt_9 rfl ?_
      refine ev_iadd dX4_wordAt_10 ?_
      refine ev_aload_nR 0 dX4_wordAt_11 rfl ?_
      obtain ⟨g3, h⟩ := gd_some h
      obtain ⟨p4, e5, h⟩ := op_some h
      refine ev_getPR dX4_wordAt_12 fl_X4_11 rfl g3 e5 ?_
      obtain ⟨g6, h⟩ := gd_some h
      refine ev_alen dX4_wordAt_15 (isA_O g6) (by decide) ?_
      rcases it_some h with ⟨c7, h⟩ | ⟨c7, h⟩
      · refine ev_icmp_ge (tgt := 30) dX4_wordAt_16 rfl c7 ?_
        refine ev_lconst (v := 0) dX4_wordAt_30 (by decide) ?_
        exact ev_retL dX4_wordAt_31 rfl h
      · refine ev_icmp_ge_n 30 dX4_wordAt_16 rfl c7 ?_
        refine ev_aload_nR 0 dX4_wordAt_19 rfl ?_
        refine ev_getPR dX4_wordAt_20 fl_X4_11 rfl g3 e5 ?_
        refine ev_iload_n 1 dX4_wordAt_23 rfl ?_
        refine ev_iload_n 2 dX4_wordAt_24 rfl ?_
        refine ev_iadd dX4_wordAt_25 ?_
        obtain ⟨g8, h⟩ := gd_some h
        refine ev_lald dX4_wordAt_26 (isA_O g6) g8 ?_
        refine ev_goto (tgt := 31) dX4_wordAt_27 rfl ?_
        exact ev_retL dX4_wordAt_31 rfl h
def s_X4_has (a0 : Nat) (a1 : Int32) (a2 : Int32) (σ : St) : Option (Int32 × St) :=
 if isO σ 4 a0 = true then (bd (s_X4_wordAt a0 a1 (a2 >>> (6 &&& 31)) σ) fun r4 σ2 =>
 if (lg_cmp (((r4.toUInt64 >>> ((a2 &&& 63).toInt64.toUInt64 &&& Int64.toUInt64 63)).toInt64) &&& 1) 0) = 0 then (some (0, σ2)) else (some (1, σ2))) else none
set_option maxHeartbeats 4000000 in
set_option maxRecDepth 100000 in
theorem x_X4_has {a0 : Nat} {a1 : Int32} {a2 : Int32} {σ : St} {r : Int32} {σ' : St} (h : s_X4_has a0 a1 a2 σ = some (r, σ')) : Ex M_X4_has (2) [.ref a0, .int (a1), .int (a2)] σ (some (.int r)) σ' := by
  unfold s_X4_has at h
  refine ex_of (by decide) rfl (Nat.le_of_ble_eq_true rfl) ?_
  show Ev _ _ 0 [(0, .ref a0), (1, .int (a1)), (2, .int (a2))] [] _ _ _
  refine ev_aload_nR 0 dX4_has_0 rfl ?_
  refine ev_iload_n 1 dX4_has_1 rfl ?_
  refine ev_iload_n 2 dX4_has_2 rfl ?_
  refine ev_bipush (v := 6) dX4_has_3 (by decide) ?_
  refine ev_ishr dX4_has_5 ?_
  obtain ⟨g1, h⟩ := gd_some h
  obtain ⟨r4, σ2, e3, h⟩ := bd_some h
  refine ev_invVl (As := [.int (a1), .int (a2 >>> (6 &&& 31))]) (st := []) dX4_has_6 cb_X4_wordAt tp_568 tp_570 tp_25 kf4 rfl (by omega) g1 rfl rfl (Nat.le_of_ble_eq_true rfl) (x_X4_wordAt e3) ?_
  refine ev_iload_n 2 dX4_has_9 rfl ?_
  refine ev_bipush (v := 63) dX4_has_10 (by decide) ?_
  refine ev_iand dX4_has_12 ?_
  refine ev_lushr dX4_has_13 ?_
  refine ev_lconst (v := 1) dX4_has_14 (by decide) ?_
  refine ev_land dX4_has_15 ?_
  refine ev_lconst (v := 0) dX4_has_16 (by decide) ?_
  refine ev_lcmp dX4_has_17 ?_
  rcases it_some h with ⟨c5, h⟩ | ⟨c5, h⟩
  · refine ev_if_eq (tgt := 25) dX4_has_18 rfl c5 ?_
    refine ev_iconst (v := 0) dX4_has_25 (by decide) ?_
    exact ev_retI .boolean dX4_has_26 rfl rfl h
  · refine ev_if_eq_n 25 dX4_has_18 rfl c5 ?_
    refine ev_iconst (v := 1) dX4_has_21 (by decide) ?_
    refine ev_goto (tgt := 26) dX4_has_22 rfl ?_
    exact ev_retI .boolean dX4_has_26 rfl rfl h
def s_X4_proves (a0 : Nat) (a1 : Int32) (a2 : Int32) (a3 : Int32) (σ : St) : Option (Int32 × St) :=
 if a2 < 0 then (some (0, σ)) else (if (256 : Int32) ≤ a2 then (some (0, σ)) else (if (0 : Int32) ≤ a3 then (if isO σ 4 a0 = true then (lt (if (sI σ a0 4) < a3 then (sI σ a0 4) else a3 : Int32) fun v5 =>
 bd (s_X4_rowOf a1 v5 σ) fun r9 σ7 =>
 if isO σ7 4 a0 = true then (bd (s_X4_has a0 r9 a2 σ7) fun r13 σ11 =>
 if zok r13 = true then (some (r13, σ11)) else none) else none) else none) else (some (0, σ))))
set_option maxHeartbeats 4000000 in
set_option maxRecDepth 100000 in
theorem x_X4_proves {a0 : Nat} {a1 : Int32} {a2 : Int32} {a3 : Int32} {σ : St} {r : Int32} {σ' : St} (h : s_X4_proves a0 a1 a2 a3 σ = some (r, σ')) : Ex M_X4_proves (3) [.ref a0, .int (a1), .int (a2), .int (a3)] σ (some (.int r)) σ' := by
  unfold s_X4_proves at h
  refine ex_of (by decide) rfl (Nat.le_of_ble_eq_true rfl) ?_
  show Ev _ _ 0 [(0, .ref a0), (1, .int (a1)), (2, .int (a2)), (3, .int (a3))] [] _ _ _
  refine ev_iload_n 2 dX4_proves_0 rfl ?_
  rcases it_some h with ⟨c1, h⟩ | ⟨c1, h⟩
  · refine ev_if_lt (tgt := 15) dX4_proves_1 rfl c1 ?_
    refine ev_iconst (v := 0) dX4_proves_15 (by decide) ?_
    exact ev_retI .boolean dX4_proves_16 rfl rfl h
  · refine ev_if_lt_n 15 dX4_proves_1 rfl c1 ?_
    refine ev_iload_n 2 dX4_proves_4 rfl ?_
    refine ev_sipush (v := 256) dX4_proves_5 (by decide) ?_
    rcases it_some h with ⟨c2, h⟩ | ⟨c2, h⟩
    · refine ev_icmp_ge (tgt := 15) dX4_proves_8 rfl c2 ?_
      refine ev_iconst (v := 0) dX4_proves_15 (by decide) ?_
      exact ev_retI .boolean dX4_proves_16 rfl rfl h
    · refine ev_icmp_ge_n 15 dX4_proves_8 rfl c2 ?_
      refine ev_iload_n 3 dX4_proves_11 rfl ?_
      rcases it_some h with ⟨c3, h⟩ | ⟨c3, h⟩
      · refine ev_if_ge (tgt := 17) dX4_proves_12 rfl c3 ?_
        refine ev_aload_nR 0 dX4_proves_17 rfl ?_
        refine ev_iload_n 1 dX4_proves_18 rfl ?_
        refine ev_iload_n 3 dX4_proves_19 rfl ?_
        refine ev_aload_nR 0 dX4_proves_20 rfl ?_
        obtain ⟨g4, h⟩ := gd_some h
        refine ev_getI dX4_proves_21 fl_X4_21 rfl g4 ?_
        refine ev_mmin dX4_proves_24 tp_629 tp_300 tp_65 tp_301 (by omega) (Nat.le_of_ble_eq_true rfl) ?_
        obtain ⟨v5, e6, h⟩ := lt_some h
        refine ev_topI e6 ?_
        obtain ⟨r9, σ7, e8, h⟩ := bd_some h
        refine ev_invSi (As := [.int (a1), .int (v5)]) (st := [.ref a0]) dX4_proves_27 cb_X4_rowOf tp_529 tp_530 (by omega) rfl rfl (Nat.le_of_ble_eq_true rfl) (x_X4_rowOf e8) ?_
        refine ev_iload_n 2 dX4_proves_30 rfl ?_
        obtain ⟨g10, h⟩ := gd_some h
        obtain ⟨r13, σ11, e12, h⟩ := bd_some h
        refine ev_invVi (As := [.int (r9), .int (a2)]) (st := []) dX4_proves_31 cb_X4_has tp_564 tp_566 tp_24 kf4 rfl (by omega) g10 rfl rfl (Nat.le_of_ble_eq_true rfl) (x_X4_has e12) ?_
        obtain ⟨g14, h⟩ := gd_some h
        exact ev_retI .boolean dX4_proves_34 rfl (nz_of g14).1 h
      · refine ev_if_ge_n 17 dX4_proves_12 rfl c3 ?_
        refine ev_iconst (v := 0) dX4_proves_15 (by decide) ?_
        exact ev_retI .boolean dX4_proves_16 rfl rfl h
def s_X0_append (a0 : Nat) (a1 : Int32) (σ : St) : Option (Unit × St) :=
 if isO σ 0 a0 = true then (if (sI σ a0 3) < 0 then (some ((), σ)) else (if (1024 : Int32) ≤ (sI σ a0 3) then (some ((), σ)) else (op (sP σ a0 2) fun p4 =>
 if isO σ 13 p4 = true then (if inR (sI σ a0 3) (alen σ p4) = true then (lt (setI σ p4 ((sI σ a0 3).toNatClampNeg) a1) fun σ8 =>
 lt (setI σ8 a0 3 ((sI σ8 a0 3) + 1)) fun σ10 =>
 some ((), σ10)) else none) else none))) else none
set_option maxHeartbeats 4000000 in
set_option maxRecDepth 100000 in
theorem x_X0_append {a0 : Nat} {a1 : Int32} {σ : St} {r : Unit} {σ' : St} (h : s_X0_append a0 a1 σ = some (r, σ')) : Ex M_X0_append (1) [.ref a0, .int (a1)] σ none σ' := by
  unfold s_X0_append at h
  refine ex_of (by decide) rfl (Nat.le_of_ble_eq_true rfl) ?_
  show Ev _ _ 0 [(0, .ref a0), (1, .int (a1))] [] _ _ _
  refine ev_aload_nR 0 dX0_append_0 rfl ?_
  obtain ⟨g1, h⟩ := gd_some h
  refine ev_getI dX0_append_1 fl_X0_15 rfl g1 ?_
  rcases it_some h with ⟨c2, h⟩ | ⟨c2, h⟩
  · refine ev_if_lt (tgt := 37) dX0_append_4 rfl c2 ?_
    exact ev_retV dX0_append_37 rfl h
  · refine ev_if_lt_n 37 dX0_append_4 rfl c2 ?_
    refine ev_aload_nR 0 dX0_append_7 rfl ?_
    refine ev_getI dX0_append_8 fl_X0_15 rfl g1 ?_
    refine ev_sipush (v := 1024) dX0_append_11 (by decide) ?_
    rcases it_some h with ⟨c3, h⟩ | ⟨c3, h⟩
    · refine ev_icmp_ge (tgt := 37) dX0_append_14 rfl c3 ?_
      exact ev_retV dX0_append_37 rfl h
    · refine ev_icmp_ge_n 37 dX0_append_14 rfl c3 ?_
      refine ev_aload_nR 0 dX0_append_17 rfl ?_
      obtain ⟨p4, e5, h⟩ := op_some h
      refine ev_getPR dX0_append_18 fl_X0_11 rfl g1 e5 ?_
      refine ev_aload_nR 0 dX0_append_21 rfl ?_
      refine ev_getI dX0_append_22 fl_X0_15 rfl g1 ?_
      refine ev_iload_n 1 dX0_append_25 rfl ?_
      obtain ⟨g6, h⟩ := gd_some h
      obtain ⟨g7, h⟩ := gd_some h
      obtain ⟨σ8, e9, h⟩ := lt_some h
      refine ev_iast dX0_append_26 (isO_spec g6).1 (isA_O g6) g7 ?_
      refine ev_st e9 ?_
      refine ev_aload_nR 0 dX0_append_27 rfl ?_
      refine ev_dup dX0_append_28 rfl ?_
      refine ev_getI dX0_append_29 fl_X0_15 rfl (isO_I e9 g1) ?_
      refine ev_iconst (v := 1) dX0_append_32 (by decide) ?_
      refine ev_iadd dX0_append_33 ?_
      obtain ⟨σ10, e11, h⟩ := lt_some h
      refine ev_putI dX0_append_34 fl_X0_15 rfl (Or.inl rfl) (isO_I e9 g1) ⟨rfl, rfl⟩ ?_
      refine ev_st e11 ?_
      exact ev_retV dX0_append_37 rfl h
def s_X10_nextPart (a0 : Int32) (a1 : Int32) (σ : St) : Option (Int32 × St) :=
 some ((a0 - a1) &&& a1, σ)
set_option maxHeartbeats 4000000 in
set_option maxRecDepth 100000 in
theorem x_X10_nextPart {a0 : Int32} {a1 : Int32} {σ : St} {r : Int32} {σ' : St} (h : s_X10_nextPart a0 a1 σ = some (r, σ')) : Ex M_X10_nextPart (1) [.int (a0), .int (a1)] σ (some (.int r)) σ' := by
  unfold s_X10_nextPart at h
  refine ex_of (by decide) rfl (Nat.le_of_ble_eq_true rfl) ?_
  show Ev _ _ 0 [(0, .int (a0)), (1, .int (a1))] [] _ _ _
  refine ev_iload_n 0 dX10_nextPart_0 rfl ?_
  refine ev_iload_n 1 dX10_nextPart_1 rfl ?_
  refine ev_isub dX10_nextPart_2 ?_
  refine ev_iload_n 1 dX10_nextPart_3 rfl ?_
  refine ev_iand dX10_nextPart_4 ?_
  exact ev_retI .int dX10_nextPart_5 rfl rfl h
def s_X0_writeSplit_85 (kg : Nat → Int32 → Int32 → Int32 → St → Option (Unit × St)) (k9 : Nat → Int32 → Int32 → Int32 → Int32 → Int32 → Int32 → St → Option (Unit × St)) (a0 : Nat) (a1 : Int32) (a2 : Int32) (a3 : Int32) (a4 : Int32) (a5 : Int32) (a6 : Int32) (σ : St) : Option (Unit × St) :=
 bd (s_X10_nextPart a5 a3 σ) fun r3 σ1 =>
 lt (a6 + (-1) : Int32) fun v4 =>
 k9 a0 a1 a2 a3 a4 r3 v4 σ1
set_option maxHeartbeats 4000000 in
set_option maxRecDepth 100000 in
theorem e_X0_writeSplit_85 {kg : Nat → Int32 → Int32 → Int32 → St → Option (Unit × St)} {dk : Nat} (hkg : ∀ {x0 : Nat} {x1 : Int32} {x2 : Int32} {x3 : Int32} {σ : St} {r : Unit} {σ' : St}, kg x0 x1 x2 x3 σ = some (r, σ') → Ex M_X0_write dk [.ref x0, .int (x1), .int (x2), .int (x3)] σ none σ') {r : Unit} {σ' : St} {k9 : Nat → Int32 → Int32 → Int32 → Int32 → Int32 → Int32 → St → Option (Unit × St)} (hk9 : ∀ {y0 : Nat} {y1 : Int32} {y2 : Int32} {y3 : Int32} {y4 : Int32} {y5 : Int32} {y6 : Int32} {σ : St}, k9 y0 y1 y2 y3 y4 y5 y6 σ = some (r, σ') → Ev M_X0_writeSplit (dk + 4) 9 [(0, .ref y0), (1, .int (y1)), (2, .int (y2)), (3, .int (y3)), (4, .int (y4)), (5, .int (y5)), (6, .int (y6))] [] σ none σ') : ∀ {a0 : Nat} {a1 : Int32} {a2 : Int32} {a3 : Int32} {a4 : Int32} {a5 : Int32} {a6 : Int32} {σ : St}, s_X0_writeSplit_85 kg k9 a0 a1 a2 a3 a4 a5 a6 σ = some (r, σ') → Ev M_X0_writeSplit (dk + 4) 85 [(0, .ref a0), (1, .int (a1)), (2, .int (a2)), (3, .int (a3)), (4, .int (a4)), (5, .int (a5)), (6, .int (a6))] [] σ none σ' := by
  intro a0 a1 a2 a3 a4 a5 a6 σ h
  unfold s_X0_writeSplit_85 at h
  refine ev_iload 5 dX0_writeSplit_85 rfl ?_
  refine ev_iload_n 3 dX0_writeSplit_87 rfl ?_
  obtain ⟨r3, σ1, e2, h⟩ := bd_some h
  refine ev_invSNi (As := [.int (a5), .int (a3)]) (st := []) dX0_writeSplit_88 cb_X10_nextPart nl_X0_92 tp_677 (by omega) rfl rfl (Nat.le_of_ble_eq_true rfl) (x_X10_nextPart e2) ?_
  refine ev_istore (ls' := [(5, .int (r3)), (0, .ref a0), (1, .int (a1)), (2, .int (a2)), (3, .int (a3)), (4, .int (a4)), (6, .int (a6))]) dX0_writeSplit_91 (by decide) rfl ?_
  obtain ⟨v4, e5, h⟩ := lt_some h
  refine ev_iinc (v := v4) (ls' := [(6, .int (v4)), (5, .int (r3)), (0, .ref a0), (1, .int (a1)), (2, .int (a2)), (3, .int (a3)), (4, .int (a4))]) 6 dX0_writeSplit_93 rfl e5.symm (by decide) rfl ?_
  refine ev_goto (tgt := 9) dX0_writeSplit_96 rfl ?_
  refine ev_sub (ls' := [(0, .ref a0), (1, .int (a1)), (2, .int (a2)), (3, .int (a3)), (4, .int (a4)), (5, .int (r3)), (6, .int (v4))]) [2, 3, 4, 5, 6, 1, 0] rfl ?_
  exact hk9 h
def sb_X0_writeSplit_9 (kg : Nat → Int32 → Int32 → Int32 → St → Option (Unit × St)) (k9 : Nat → Int32 → Int32 → Int32 → Int32 → Int32 → Int32 → St → Option (Unit × St)) (a0 : Nat) (a1 : Int32) (a2 : Int32) (a3 : Int32) (a4 : Int32) (a5 : Int32) (a6 : Int32) (σ : St) : Option (Unit × St) :=
 if a6 ≤ 0 then (some ((), σ)) else (if isO σ 0 a0 = true then (op (sP σ a0 1) fun p8 =>
 if isO σ 4 p8 = true then (bd (s_X4_proves p8 a1 a5 (a4 - 1) σ) fun r13 σ11 =>
 if r13 = 0 then (s_X0_writeSplit_85 kg k9 a0 a1 a2 a3 a4 a5 a6 σ11) else (if isO σ11 0 a0 = true then (op (sP σ11 a0 1) fun p16 =>
 if isO σ11 4 p16 = true then (bd (s_X4_proves p16 a2 (a3 ^^^ a5) (a4 - 1) σ11) fun r21 σ19 =>
 if r21 = 0 then (s_X0_writeSplit_85 kg k9 a0 a1 a2 a3 a4 a5 a6 σ19) else (if isO σ19 0 a0 = true then (bd (s_X0_append a0 (200 + a5) σ19) fun r26 σ24 =>
 if isO σ24 0 a0 = true then (bd (kg a0 a1 a5 (a4 - 1) σ24) fun r30 σ28 =>
 if isO σ28 0 a0 = true then (bd (kg a0 a2 (a3 ^^^ a5) (a4 - 1) σ28) fun r34 σ32 =>
 some ((), σ32)) else none) else none) else none)) else none) else none)) else none) else none)
def s_X0_writeSplit_9 (kg : Nat → Int32 → Int32 → Int32 → St → Option (Unit × St)) (F : Nat) : Nat → Int32 → Int32 → Int32 → Int32 → Int32 → Int32 → St → Option (Unit × St) := lp (fun _ _ _ _ _ _ _ _ => none) (sb_X0_writeSplit_9 kg) F
set_option maxHeartbeats 4000000 in
set_option maxRecDepth 100000 in
theorem e_X0_writeSplit_9 {kg : Nat → Int32 → Int32 → Int32 → St → Option (Unit × St)} {dk : Nat} (hkg : ∀ {x0 : Nat} {x1 : Int32} {x2 : Int32} {x3 : Int32} {σ : St} {r : Unit} {σ' : St}, kg x0 x1 x2 x3 σ = some (r, σ') → Ex M_X0_write dk [.ref x0, .int (x1), .int (x2), .int (x3)] σ none σ') {r : Unit} {σ' : St} (F : Nat) : ∀ {a0 : Nat} {a1 : Int32} {a2 : Int32} {a3 : Int32} {a4 : Int32} {a5 : Int32} {a6 : Int32} {σ : St}, s_X0_writeSplit_9 kg F a0 a1 a2 a3 a4 a5 a6 σ = some (r, σ') → Ev M_X0_writeSplit (dk + 4) 9 [(0, .ref a0), (1, .int (a1)), (2, .int (a2)), (3, .int (a3)), (4, .int (a4)), (5, .int (a5)), (6, .int (a6))] [] σ none σ' := by
  induction F with
  | zero => intro a0 a1 a2 a3 a4 a5 a6 σ h; cases h
  | succ F ih =>
    intro a0 a1 a2 a3 a4 a5 a6 σ h
    change sb_X0_writeSplit_9 kg (s_X0_writeSplit_9 kg F) a0 a1 a2 a3 a4 a5 a6 σ = some (r, σ') at h
    unfold sb_X0_writeSplit_9 at h
    have hk9 := @ih
    refine ev_iload 6 dX0_writeSplit_9 rfl ?_
    rcases it_some h with ⟨c6, h⟩ | ⟨c6, h⟩
    · refine ev_if_le (tgt := 99) dX0_writeSplit_11 rfl c6 ?_
      exact ev_retV dX0_writeSplit_99 rfl h
    · refine ev_if_le_n 99 dX0_writeSplit_11 rfl c6 ?_
      refine ev_aload_nR 0 dX0_writeSplit_14 rfl ?_
      obtain ⟨g7, h⟩ := gd_some h
      obtain ⟨p8, e9, h⟩ := op_some h
      refine ev_getPR dX0_writeSplit_15 fl_X0_30 rfl g7 e9 ?_
      refine ev_iload_n 1 dX0_writeSplit_18 rfl ?_
      refine ev_iload 5 dX0_writeSplit_19 rfl ?_
      refine ev_iload 4 dX0_writeSplit_21 rfl ?_
      refine ev_iconst (v := 1) dX0_writeSplit_23 (by decide) ?_
      refine ev_isub dX0_writeSplit_24 ?_
      obtain ⟨g10, h⟩ := gd_some h
      obtain ⟨r13, σ11, e12, h⟩ := bd_some h
      refine ev_invVi (As := [.int (a1), .int (a5), .int (a4 - 1)]) (st := []) dX0_writeSplit_25 cb_X4_proves tp_671 tp_626 tp_627 kf4 rfl (by omega) g10 rfl rfl (Nat.le_of_ble_eq_true rfl) (x_X4_proves e12) ?_
      rcases it_some h with ⟨c14, h⟩ | ⟨c14, h⟩
      · refine ev_if_eq (tgt := 85) dX0_writeSplit_28 rfl c14 ?_
        refine ev_sub (ls' := [(0, .ref a0), (1, .int (a1)), (2, .int (a2)), (3, .int (a3)), (4, .int (a4)), (5, .int (a5)), (6, .int (a6))]) [0, 1, 2, 3, 4, 5, 6] rfl ?_
        exact e_X0_writeSplit_85 hkg hk9 h
      · refine ev_if_eq_n 85 dX0_writeSplit_28 rfl c14 ?_
        refine ev_aload_nR 0 dX0_writeSplit_31 rfl ?_
        obtain ⟨g15, h⟩ := gd_some h
        obtain ⟨p16, e17, h⟩ := op_some h
        refine ev_getPR dX0_writeSplit_32 fl_X0_30 rfl g15 e17 ?_
        refine ev_iload_n 2 dX0_writeSplit_35 rfl ?_
        refine ev_iload_n 3 dX0_writeSplit_36 rfl ?_
        refine ev_iload 5 dX0_writeSplit_37 rfl ?_
        refine ev_ixor dX0_writeSplit_39 ?_
        refine ev_iload 4 dX0_writeSplit_40 rfl ?_
        refine ev_iconst (v := 1) dX0_writeSplit_42 (by decide) ?_
        refine ev_isub dX0_writeSplit_43 ?_
        obtain ⟨g18, h⟩ := gd_some h
        obtain ⟨r21, σ19, e20, h⟩ := bd_some h
        refine ev_invVi (As := [.int (a2), .int (a3 ^^^ a5), .int (a4 - 1)]) (st := []) dX0_writeSplit_44 cb_X4_proves tp_671 tp_626 tp_627 kf4 rfl (by omega) g18 rfl rfl (Nat.le_of_ble_eq_true rfl) (x_X4_proves e20) ?_
        rcases it_some h with ⟨c22, h⟩ | ⟨c22, h⟩
        · refine ev_if_eq (tgt := 85) dX0_writeSplit_47 rfl c22 ?_
          refine ev_sub (ls' := [(0, .ref a0), (1, .int (a1)), (2, .int (a2)), (3, .int (a3)), (4, .int (a4)), (5, .int (a5)), (6, .int (a6))]) [0, 1, 2, 3, 4, 5, 6] rfl ?_
          exact e_X0_writeSplit_85 hkg hk9 h
        · refine ev_if_eq_n 85 dX0_writeSplit_47 rfl c22 ?_
          refine ev_aload_nR 0 dX0_writeSplit_50 rfl ?_
          refine ev_sipush (v := 200) dX0_writeSplit_51 (by decide) ?_
          refine ev_iload 5 dX0_writeSplit_54 rfl ?_
          refine ev_iadd dX0_writeSplit_56 ?_
          obtain ⟨g23, h⟩ := gd_some h
          obtain ⟨r26, σ24, e25, h⟩ := bd_some h
          refine ev_invVv (As := [.int (200 + a5)]) (st := []) dX0_writeSplit_57 cb_X0_append tp_672 tp_674 tp_35 kf0 rfl (by omega) g23 rfl rfl (Nat.le_of_ble_eq_true rfl) (x_X0_append e25) ?_
          refine ev_aload_nR 0 dX0_writeSplit_60 rfl ?_
          refine ev_iload_n 1 dX0_writeSplit_61 rfl ?_
          refine ev_iload 5 dX0_writeSplit_62 rfl ?_
          refine ev_iload 4 dX0_writeSplit_64 rfl ?_
          refine ev_iconst (v := 1) dX0_writeSplit_66 (by decide) ?_
          refine ev_isub dX0_writeSplit_67 ?_
          obtain ⟨g27, h⟩ := gd_some h
          obtain ⟨r30, σ28, e29, h⟩ := bd_some h
          refine ev_invVv (As := [.int (a1), .int (a5), .int (a4 - 1)]) (st := []) dX0_writeSplit_68 cb_X0_write tp_657 tp_659 tp_33 kf0 rfl (by omega) g27 rfl rfl (Nat.le_of_ble_eq_true rfl) (hkg e29) ?_
          refine ev_aload_nR 0 dX0_writeSplit_71 rfl ?_
          refine ev_iload_n 2 dX0_writeSplit_72 rfl ?_
          refine ev_iload_n 3 dX0_writeSplit_73 rfl ?_
          refine ev_iload 5 dX0_writeSplit_74 rfl ?_
          refine ev_ixor dX0_writeSplit_76 ?_
          refine ev_iload 4 dX0_writeSplit_77 rfl ?_
          refine ev_iconst (v := 1) dX0_writeSplit_79 (by decide) ?_
          refine ev_isub dX0_writeSplit_80 ?_
          obtain ⟨g31, h⟩ := gd_some h
          obtain ⟨r34, σ32, e33, h⟩ := bd_some h
          refine ev_invVv (As := [.int (a2), .int (a3 ^^^ a5), .int (a4 - 1)]) (st := []) dX0_writeSplit_81 cb_X0_write tp_657 tp_659 tp_33 kf0 rfl (by omega) g31 rfl rfl (Nat.le_of_ble_eq_true rfl) (hkg e33) ?_
          exact ev_retV dX0_writeSplit_84 rfl h
def s_X0_writeSplit (kg : Nat → Int32 → Int32 → Int32 → St → Option (Unit × St)) (a0 : Nat) (a1 : Int32) (a2 : Int32) (a3 : Int32) (a4 : Int32) (σ : St) : Option (Unit × St) :=
 bd (s_X10_partsOf a3 σ) fun r37 σ35 =>
 s_X0_writeSplit_9 kg 16000 a0 a1 a2 a3 a4 0 r37 σ35
set_option maxHeartbeats 4000000 in
set_option maxRecDepth 100000 in
theorem x_X0_writeSplit {kg : Nat → Int32 → Int32 → Int32 → St → Option (Unit × St)} {dk : Nat} (hkg : ∀ {x0 : Nat} {x1 : Int32} {x2 : Int32} {x3 : Int32} {σ : St} {r : Unit} {σ' : St}, kg x0 x1 x2 x3 σ = some (r, σ') → Ex M_X0_write dk [.ref x0, .int (x1), .int (x2), .int (x3)] σ none σ') {a0 : Nat} {a1 : Int32} {a2 : Int32} {a3 : Int32} {a4 : Int32} {σ : St} {r : Unit} {σ' : St} (h : s_X0_writeSplit kg a0 a1 a2 a3 a4 σ = some (r, σ')) : Ex M_X0_writeSplit (dk + 4) [.ref a0, .int (a1), .int (a2), .int (a3), .int (a4)] σ none σ' := by
  unfold s_X0_writeSplit at h
  refine ex_of (by decide) rfl (Nat.le_of_ble_eq_true rfl) ?_
  show Ev _ _ 0 [(0, .ref a0), (1, .int (a1)), (2, .int (a2)), (3, .int (a3)), (4, .int (a4))] [] _ _ _
  refine ev_iconst (v := 0) dX0_writeSplit_0 (by decide) ?_
  refine ev_istore (ls' := [(5, .int (0)), (0, .ref a0), (1, .int (a1)), (2, .int (a2)), (3, .int (a3)), (4, .int (a4))]) dX0_writeSplit_1 (by decide) rfl ?_
  refine ev_iload_n 4 dX0_writeSplit_3 rfl ?_
  obtain ⟨r37, σ35, e36, h⟩ := bd_some h
  refine ev_invSNi (As := [.int (a3)]) (st := []) dX0_writeSplit_4 cb_X10_partsOf nl_X0_81 tp_669 (by omega) rfl rfl (Nat.le_of_ble_eq_true rfl) (x_X10_partsOf e36) ?_
  refine ev_istore (ls' := [(6, .int (r37)), (5, .int (0)), (0, .ref a0), (1, .int (a1)), (2, .int (a2)), (3, .int (a3)), (4, .int (a4))]) dX0_writeSplit_7 (by decide) rfl ?_
  refine ev_sub (ls' := [(0, .ref a0), (1, .int (a1)), (2, .int (a2)), (3, .int (a3)), (4, .int (a4)), (5, .int (0)), (6, .int (r37))]) [2, 3, 4, 5, 6, 1, 0] rfl ?_
  exact e_X0_writeSplit_9 hkg 16000 h
def s_X0_writeChoice (kg : Nat → Int32 → Int32 → Int32 → St → Option (Unit × St)) (a0 : Nat) (a1 : Int32) (a2 : Int32) (a3 : Int32) (a4 : Int32) (σ : St) : Option (Unit × St) :=
 if isO σ 0 a0 = true then (op (sP σ a0 1) fun p2 =>
 if isO σ 4 p2 = true then (bd (s_X4_proves p2 a1 a3 (a4 - 1) σ) fun r7 σ5 =>
 if r7 = 0 then (if isO σ5 0 a0 = true then (bd (s_X0_append a0 301 σ5) fun r12 σ10 =>
 if isO σ10 0 a0 = true then (bd (kg a0 a2 a3 (a4 - 1) σ10) fun r16 σ14 =>
 some ((), σ14)) else none) else none) else (if isO σ5 0 a0 = true then (bd (s_X0_append a0 300 σ5) fun r20 σ18 =>
 if isO σ18 0 a0 = true then (bd (kg a0 a1 a3 (a4 - 1) σ18) fun r24 σ22 =>
 some ((), σ22)) else none) else none)) else none) else none
set_option maxHeartbeats 4000000 in
set_option maxRecDepth 100000 in
theorem x_X0_writeChoice {kg : Nat → Int32 → Int32 → Int32 → St → Option (Unit × St)} {dk : Nat} (hkg : ∀ {x0 : Nat} {x1 : Int32} {x2 : Int32} {x3 : Int32} {σ : St} {r : Unit} {σ' : St}, kg x0 x1 x2 x3 σ = some (r, σ') → Ex M_X0_write dk [.ref x0, .int (x1), .int (x2), .int (x3)] σ none σ') {a0 : Nat} {a1 : Int32} {a2 : Int32} {a3 : Int32} {a4 : Int32} {σ : St} {r : Unit} {σ' : St} (h : s_X0_writeChoice kg a0 a1 a2 a3 a4 σ = some (r, σ')) : Ex M_X0_writeChoice (dk + 4) [.ref a0, .int (a1), .int (a2), .int (a3), .int (a4)] σ none σ' := by
  unfold s_X0_writeChoice at h
  refine ex_of (by decide) rfl (Nat.le_of_ble_eq_true rfl) ?_
  show Ev _ _ 0 [(0, .ref a0), (1, .int (a1)), (2, .int (a2)), (3, .int (a3)), (4, .int (a4))] [] _ _ _
  refine ev_aload_nR 0 dX0_writeChoice_0 rfl ?_
  obtain ⟨g1, h⟩ := gd_some h
  obtain ⟨p2, e3, h⟩ := op_some h
  refine ev_getPR dX0_writeChoice_1 fl_X0_30 rfl g1 e3 ?_
  refine ev_iload_n 1 dX0_writeChoice_4 rfl ?_
  refine ev_iload_n 3 dX0_writeChoice_5 rfl ?_
  refine ev_iload 4 dX0_writeChoice_6 rfl ?_
  refine ev_iconst (v := 1) dX0_writeChoice_8 (by decide) ?_
  refine ev_isub dX0_writeChoice_9 ?_
  obtain ⟨g4, h⟩ := gd_some h
  obtain ⟨r7, σ5, e6, h⟩ := bd_some h
  refine ev_invVi (As := [.int (a1), .int (a3), .int (a4 - 1)]) (st := []) dX0_writeChoice_10 cb_X4_proves tp_671 tp_626 tp_627 kf4 rfl (by omega) g4 rfl rfl (Nat.le_of_ble_eq_true rfl) (x_X4_proves e6) ?_
  rcases it_some h with ⟨c8, h⟩ | ⟨c8, h⟩
  · refine ev_if_eq (tgt := 36) dX0_writeChoice_13 rfl c8 ?_
    refine ev_aload_nR 0 dX0_writeChoice_36 rfl ?_
    refine ev_sipush (v := 301) dX0_writeChoice_37 (by decide) ?_
    obtain ⟨g9, h⟩ := gd_some h
    obtain ⟨r12, σ10, e11, h⟩ := bd_some h
    refine ev_invVv (As := [.int (301)]) (st := []) dX0_writeChoice_40 cb_X0_append tp_672 tp_674 tp_35 kf0 rfl (by omega) g9 rfl rfl (Nat.le_of_ble_eq_true rfl) (x_X0_append e11) ?_
    refine ev_aload_nR 0 dX0_writeChoice_43 rfl ?_
    refine ev_iload_n 2 dX0_writeChoice_44 rfl ?_
    refine ev_iload_n 3 dX0_writeChoice_45 rfl ?_
    refine ev_iload 4 dX0_writeChoice_46 rfl ?_
    refine ev_iconst (v := 1) dX0_writeChoice_48 (by decide) ?_
    refine ev_isub dX0_writeChoice_49 ?_
    obtain ⟨g13, h⟩ := gd_some h
    obtain ⟨r16, σ14, e15, h⟩ := bd_some h
    refine ev_invVv (As := [.int (a2), .int (a3), .int (a4 - 1)]) (st := []) dX0_writeChoice_50 cb_X0_write tp_657 tp_659 tp_33 kf0 rfl (by omega) g13 rfl rfl (Nat.le_of_ble_eq_true rfl) (hkg e15) ?_
    exact ev_retV dX0_writeChoice_53 rfl h
  · refine ev_if_eq_n 36 dX0_writeChoice_13 rfl c8 ?_
    refine ev_aload_nR 0 dX0_writeChoice_16 rfl ?_
    refine ev_sipush (v := 300) dX0_writeChoice_17 (by decide) ?_
    obtain ⟨g17, h⟩ := gd_some h
    obtain ⟨r20, σ18, e19, h⟩ := bd_some h
    refine ev_invVv (As := [.int (300)]) (st := []) dX0_writeChoice_20 cb_X0_append tp_672 tp_674 tp_35 kf0 rfl (by omega) g17 rfl rfl (Nat.le_of_ble_eq_true rfl) (x_X0_append e19) ?_
    refine ev_aload_nR 0 dX0_writeChoice_23 rfl ?_
    refine ev_iload_n 1 dX0_writeChoice_24 rfl ?_
    refine ev_iload_n 3 dX0_writeChoice_25 rfl ?_
    refine ev_iload 4 dX0_writeChoice_26 rfl ?_
    refine ev_iconst (v := 1) dX0_writeChoice_28 (by decide) ?_
    refine ev_isub dX0_writeChoice_29 ?_
    obtain ⟨g21, h⟩ := gd_some h
    obtain ⟨r24, σ22, e23, h⟩ := bd_some h
    refine ev_invVv (As := [.int (a1), .int (a3), .int (a4 - 1)]) (st := []) dX0_writeChoice_30 cb_X0_write tp_657 tp_659 tp_33 kf0 rfl (by omega) g21 rfl rfl (Nat.le_of_ble_eq_true rfl) (hkg e23) ?_
    refine ev_goto (tgt := 53) dX0_writeChoice_33 rfl ?_
    exact ev_retV dX0_writeChoice_53 rfl h
def s_X3_loanBit (a0 : Nat) (a1 : Int32) (σ : St) : Option (Int32 × St) :=
 if isO σ 3 a0 = true then (bd (s_X3_second a0 a1 σ) fun r4 σ2 =>
 if r4 < 5 then (some (0, σ2)) else (if (8 : Int32) ≤ r4 then (some (0, σ2)) else (some (1 <<< (r4 &&& 31), σ2)))) else none
set_option maxHeartbeats 4000000 in
set_option maxRecDepth 100000 in
theorem x_X3_loanBit {a0 : Nat} {a1 : Int32} {σ : St} {r : Int32} {σ' : St} (h : s_X3_loanBit a0 a1 σ = some (r, σ')) : Ex M_X3_loanBit (3) [.ref a0, .int (a1)] σ (some (.int r)) σ' := by
  unfold s_X3_loanBit at h
  refine ex_of (by decide) rfl (Nat.le_of_ble_eq_true rfl) ?_
  show Ev _ _ 0 [(0, .ref a0), (1, .int (a1))] [] _ _ _
  refine ev_aload_nR 0 dX3_loanBit_0 rfl ?_
  refine ev_iload_n 1 dX3_loanBit_1 rfl ?_
  obtain ⟨g1, h⟩ := gd_some h
  obtain ⟨r4, σ2, e3, h⟩ := bd_some h
  refine ev_invVi (As := [.int (a1)]) (st := []) dX3_loanBit_2 cb_X3_second tp_588 tp_541 tp_542 kf3 rfl (by omega) g1 rfl rfl (Nat.le_of_ble_eq_true rfl) (x_X3_second e3) ?_
  refine ev_istore_n (ls' := [(2, .int (r4)), (0, .ref a0), (1, .int (a1))]) dX3_loanBit_5 (by decide) rfl ?_
  refine ev_iload_n 0 dX3_loanBit_6 rfl ?_
  refine ev_iconst (v := 5) dX3_loanBit_7 (by decide) ?_
  rcases it_some h with ⟨c5, h⟩ | ⟨c5, h⟩
  · refine ev_icmp_lt (tgt := 23) dX3_loanBit_8 rfl c5 ?_
    refine ev_iconst (v := 0) dX3_loanBit_23 (by decide) ?_
    exact ev_retI .int dX3_loanBit_24 rfl rfl h
  · refine ev_icmp_lt_n 23 dX3_loanBit_8 rfl c5 ?_
    refine ev_iload_n 0 dX3_loanBit_11 rfl ?_
    refine ev_bipush (v := 8) dX3_loanBit_12 (by decide) ?_
    rcases it_some h with ⟨c6, h⟩ | ⟨c6, h⟩
    · refine ev_icmp_ge (tgt := 23) dX3_loanBit_14 rfl c6 ?_
      refine ev_iconst (v := 0) dX3_loanBit_23 (by decide) ?_
      exact ev_retI .int dX3_loanBit_24 rfl rfl h
    · refine ev_icmp_ge_n 23 dX3_loanBit_14 rfl c6 ?_
      refine ev_iconst (v := 1) dX3_loanBit_17 (by decide) ?_
      refine ev_iload_n 0 dX3_loanBit_18 rfl ?_
      refine ev_ishl dX3_loanBit_19 ?_
      refine ev_goto (tgt := 24) dX3_loanBit_20 rfl ?_
      exact ev_retI .int dX3_loanBit_24 rfl rfl h
def s_X3_afterUse (a0 : Int32) (a1 : Int32) (σ : St) : Option (Int32 × St) :=
 if a0 < 8 then (lt (1 <<< (a0 &&& 31) : Int32) fun v2 =>
 if (a1 &&& v2) = 0 then (some ((-1), σ)) else (some (a1 ^^^ v2, σ))) else (some (a1, σ))
set_option maxHeartbeats 4000000 in
set_option maxRecDepth 100000 in
theorem x_X3_afterUse {a0 : Int32} {a1 : Int32} {σ : St} {r : Int32} {σ' : St} (h : s_X3_afterUse a0 a1 σ = some (r, σ')) : Ex M_X3_afterUse (1) [.int (a0), .int (a1)] σ (some (.int r)) σ' := by
  unfold s_X3_afterUse at h
  refine ex_of (by decide) rfl (Nat.le_of_ble_eq_true rfl) ?_
  show Ev _ _ 0 [(0, .int (a0)), (1, .int (a1))] [] _ _ _
  refine ev_iload_n 0 dX3_afterUse_0 rfl ?_
  refine ev_bipush (v := 8) dX3_afterUse_1 (by decide) ?_
  rcases it_some h with ⟨c1, h⟩ | ⟨c1, h⟩
  · refine ev_icmp_lt (tgt := 8) dX3_afterUse_3 rfl c1 ?_
    refine ev_iconst (v := 1) dX3_afterUse_8 (by decide) ?_
    refine ev_iload_n 0 dX3_afterUse_9 rfl ?_
    refine ev_ishl dX3_afterUse_10 ?_
    obtain ⟨v2, e3, h⟩ := lt_some h
    refine ev_topI e3 ?_
    refine ev_istore_n (ls' := [(2, .int (v2)), (0, .int (a0)), (1, .int (a1))]) dX3_afterUse_11 (by decide) rfl ?_
    refine ev_iload_n 2 dX3_afterUse_12 rfl ?_
    refine ev_iload_n 0 dX3_afterUse_13 rfl ?_
    refine ev_iand dX3_afterUse_14 ?_
    rcases it_some h with ⟨c4, h⟩ | ⟨c4, h⟩
    · refine ev_if_eq (tgt := 24) dX3_afterUse_15 rfl c4 ?_
      refine ev_iconst (v := (-1)) dX3_afterUse_24 (by decide) ?_
      exact ev_retI .int dX3_afterUse_25 rfl rfl h
    · refine ev_if_eq_n 24 dX3_afterUse_15 rfl c4 ?_
      refine ev_iload_n 2 dX3_afterUse_18 rfl ?_
      refine ev_iload_n 0 dX3_afterUse_19 rfl ?_
      refine ev_ixor dX3_afterUse_20 ?_
      refine ev_goto (tgt := 25) dX3_afterUse_21 rfl ?_
      exact ev_retI .int dX3_afterUse_25 rfl rfl h
  · refine ev_icmp_lt_n 8 dX3_afterUse_3 rfl c1 ?_
    refine ev_iload_n 1 dX3_afterUse_6 rfl ?_
    exact ev_retI .int dX3_afterUse_7 rfl rfl h
def s_X3_body (a0 : Nat) (a1 : Int32) (a2 : Int32) (σ : St) : Option (Int32 × St) :=
 bd (s_X3_isFace a1 a2 σ) fun r3 σ1 =>
 if r3 = 0 then (some ((-1), σ1)) else (if isO σ1 3 a0 = true then (op (sP σ1 a0 4) fun p6 =>
 if isO σ1 13 p6 = true then (if inR ((a1 * 3) + a2) (alen σ1 p6) = true then (some (sI σ1 p6 (((a1 * 3) + a2).toNatClampNeg), σ1)) else none) else none) else none)
set_option maxHeartbeats 4000000 in
set_option maxRecDepth 100000 in
theorem x_X3_body {a0 : Nat} {a1 : Int32} {a2 : Int32} {σ : St} {r : Int32} {σ' : St} (h : s_X3_body a0 a1 a2 σ = some (r, σ')) : Ex M_X3_body (2) [.ref a0, .int (a1), .int (a2)] σ (some (.int r)) σ' := by
  unfold s_X3_body at h
  refine ex_of (by decide) rfl (Nat.le_of_ble_eq_true rfl) ?_
  show Ev _ _ 0 [(0, .ref a0), (1, .int (a1)), (2, .int (a2))] [] _ _ _
  refine ev_iload_n 1 dX3_body_0 rfl ?_
  refine ev_iload_n 2 dX3_body_1 rfl ?_
  obtain ⟨r3, σ1, e2, h⟩ := bd_some h
  refine ev_invSi (As := [.int (a1), .int (a2)]) (st := []) dX3_body_2 cb_X3_isFace tp_379 tp_380 (by omega) rfl rfl (Nat.le_of_ble_eq_true rfl) (x_X3_isFace e2) ?_
  rcases it_some h with ⟨c4, h⟩ | ⟨c4, h⟩
  · refine ev_if_eq (tgt := 21) dX3_body_5 rfl c4 ?_
    refine ev_iconst (v := (-1)) dX3_body_21 (by decide) ?_
    exact ev_retI .int dX3_body_22 rfl rfl h
  · refine ev_if_eq_n 21 dX3_body_5 rfl c4 ?_
    refine ev_aload_nR 0 dX3_body_8 rfl ?_
    obtain ⟨g5, h⟩ := gd_some h
    obtain ⟨p6, e7, h⟩ := op_some h
    refine ev_getPR dX3_body_9 fl_X3_25 rfl g5 e7 ?_
    refine ev_iload_n 1 dX3_body_12 rfl ?_
    refine ev_iconst (v := 3) dX3_body_13 (by decide) ?_
    refine ev_imul dX3_body_14 ?_
    refine ev_iload_n 2 dX3_body_15 rfl ?_
    refine ev_iadd dX3_body_16 ?_
    obtain ⟨g8, h⟩ := gd_some h
    obtain ⟨g9, h⟩ := gd_some h
    refine ev_iald dX3_body_17 (isA_O g8) g9 ?_
    refine ev_goto (tgt := 22) dX3_body_18 rfl ?_
    exact ev_retI .int dX3_body_22 rfl rfl h
def s_X3_hasHead (a0 : Nat) (a1 : Int32) (a2 : Int32) (a3 : Int32) (σ : St) : Option (Int32 × St) :=
 bd (s_X3_isFace a1 a2 σ) fun r3 σ1 =>
 if r3 = 0 then (some (0, σ1)) else (if a3 = 0 then (some (0, σ1)) else (if isO σ1 3 a0 = true then (op (sP σ1 a0 3) fun p7 =>
 if isO σ1 12 p7 = true then (if inR ((a1 * 3) + a2) (alen σ1 p7) = true then (if (sI σ1 p7 (((a1 * 3) + a2).toNatClampNeg)) = a3 then (some (1, σ1)) else (some (0, σ1))) else none) else none) else none))
set_option maxHeartbeats 4000000 in
set_option maxRecDepth 100000 in
theorem x_X3_hasHead {a0 : Nat} {a1 : Int32} {a2 : Int32} {a3 : Int32} {σ : St} {r : Int32} {σ' : St} (h : s_X3_hasHead a0 a1 a2 a3 σ = some (r, σ')) : Ex M_X3_hasHead (2) [.ref a0, .int (a1), .int (a2), .int (a3)] σ (some (.int r)) σ' := by
  unfold s_X3_hasHead at h
  refine ex_of (by decide) rfl (Nat.le_of_ble_eq_true rfl) ?_
  show Ev _ _ 0 [(0, .ref a0), (1, .int (a1)), (2, .int (a2)), (3, .int (a3))] [] _ _ _
  refine ev_iload_n 1 dX3_hasHead_0 rfl ?_
  refine ev_iload_n 2 dX3_hasHead_1 rfl ?_
  obtain ⟨r3, σ1, e2, h⟩ := bd_some h
  refine ev_invSi (As := [.int (a1), .int (a2)]) (st := []) dX3_hasHead_2 cb_X3_isFace tp_379 tp_380 (by omega) rfl rfl (Nat.le_of_ble_eq_true rfl) (x_X3_isFace e2) ?_
  rcases it_some h with ⟨c4, h⟩ | ⟨c4, h⟩
  · refine ev_if_eq (tgt := 30) dX3_hasHead_5 rfl c4 ?_
    refine ev_iconst (v := 0) dX3_hasHead_30 (by decide) ?_
    exact ev_retI .boolean dX3_hasHead_31 rfl rfl h
  · refine ev_if_eq_n 30 dX3_hasHead_5 rfl c4 ?_
    refine ev_iload_n 3 dX3_hasHead_8 rfl ?_
    rcases it_some h with ⟨c5, h⟩ | ⟨c5, h⟩
    · refine ev_if_eq (tgt := 30) dX3_hasHead_9 rfl c5 ?_
      refine ev_iconst (v := 0) dX3_hasHead_30 (by decide) ?_
      exact ev_retI .boolean dX3_hasHead_31 rfl rfl h
    · refine ev_if_eq_n 30 dX3_hasHead_9 rfl c5 ?_
      refine ev_aload_nR 0 dX3_hasHead_12 rfl ?_
      obtain ⟨g6, h⟩ := gd_some h
      obtain ⟨p7, e8, h⟩ := op_some h
      refine ev_getPR dX3_hasHead_13 fl_X3_22 rfl g6 e8 ?_
      refine ev_iload_n 1 dX3_hasHead_16 rfl ?_
      refine ev_iconst (v := 3) dX3_hasHead_17 (by decide) ?_
      refine ev_imul dX3_hasHead_18 ?_
      refine ev_iload_n 2 dX3_hasHead_19 rfl ?_
      refine ev_iadd dX3_hasHead_20 ?_
      obtain ⟨g9, h⟩ := gd_some h
      obtain ⟨g10, h⟩ := gd_some h
      refine ev_cald dX3_hasHead_21 (isA_O g9) g10 ?_
      refine ev_iload_n 3 dX3_hasHead_22 rfl ?_
      rcases it_some h with ⟨c11, h⟩ | ⟨c11, h⟩
      · refine ev_icmp_ne_n 30 dX3_hasHead_23 rfl c11 ?_
        refine ev_iconst (v := 1) dX3_hasHead_26 (by decide) ?_
        refine ev_goto (tgt := 31) dX3_hasHead_27 rfl ?_
        exact ev_retI .boolean dX3_hasHead_31 rfl rfl h
      · refine ev_icmp_ne (tgt := 30) dX3_hasHead_23 rfl c11 ?_
        refine ev_iconst (v := 0) dX3_hasHead_30 (by decide) ?_
        exact ev_retI .boolean dX3_hasHead_31 rfl rfl h
def s_X0_serves (a0 : Nat) (a1 : Int32) (a2 : Int32) (a3 : Int32) (σ : St) : Option (Int32 × St) :=
 if a1 = ((-1)) then (if a2 = 0 then (some (1, σ)) else (some (0, σ))) else (if isO σ 0 a0 = true then (op (sP σ a0 1) fun p3 =>
 if isO σ 4 p3 = true then (bd (s_X4_proves p3 a1 a2 (a3 - 1) σ) fun r8 σ6 =>
 if zok r8 = true then (some (r8, σ6)) else none) else none) else none)
set_option maxHeartbeats 4000000 in
set_option maxRecDepth 100000 in
theorem x_X0_serves {a0 : Nat} {a1 : Int32} {a2 : Int32} {a3 : Int32} {σ : St} {r : Int32} {σ' : St} (h : s_X0_serves a0 a1 a2 a3 σ = some (r, σ')) : Ex M_X0_serves (4) [.ref a0, .int (a1), .int (a2), .int (a3)] σ (some (.int r)) σ' := by
  unfold s_X0_serves at h
  refine ex_of (by decide) rfl (Nat.le_of_ble_eq_true rfl) ?_
  show Ev _ _ 0 [(0, .ref a0), (1, .int (a1)), (2, .int (a2)), (3, .int (a3))] [] _ _ _
  refine ev_iload_n 1 dX0_serves_0 rfl ?_
  refine ev_iconst (v := (-1)) dX0_serves_1 (by decide) ?_
  rcases it_some h with ⟨c1, h⟩ | ⟨c1, h⟩
  · refine ev_icmp_ne_n 17 dX0_serves_2 rfl c1 ?_
    refine ev_iload_n 2 dX0_serves_5 rfl ?_
    rcases it_some h with ⟨c10, h⟩ | ⟨c10, h⟩
    · refine ev_if_ne_n 13 dX0_serves_6 rfl c10 ?_
      refine ev_iconst (v := 1) dX0_serves_9 (by decide) ?_
      refine ev_goto (tgt := 29) dX0_serves_10 rfl ?_
      exact ev_retI .boolean dX0_serves_29 rfl rfl h
    · refine ev_if_ne (tgt := 13) dX0_serves_6 rfl c10 ?_
      refine ev_iconst (v := 0) dX0_serves_13 (by decide) ?_
      refine ev_goto (tgt := 29) dX0_serves_14 rfl ?_
      exact ev_retI .boolean dX0_serves_29 rfl rfl h
  · refine ev_icmp_ne (tgt := 17) dX0_serves_2 rfl c1 ?_
    refine ev_aload_nR 0 dX0_serves_17 rfl ?_
    obtain ⟨g2, h⟩ := gd_some h
    obtain ⟨p3, e4, h⟩ := op_some h
    refine ev_getPR dX0_serves_18 fl_X0_30 rfl g2 e4 ?_
    refine ev_iload_n 1 dX0_serves_21 rfl ?_
    refine ev_iload_n 2 dX0_serves_22 rfl ?_
    refine ev_iload_n 3 dX0_serves_23 rfl ?_
    refine ev_iconst (v := 1) dX0_serves_24 (by decide) ?_
    refine ev_isub dX0_serves_25 ?_
    obtain ⟨g5, h⟩ := gd_some h
    obtain ⟨r8, σ6, e7, h⟩ := bd_some h
    refine ev_invVi (As := [.int (a1), .int (a2), .int (a3 - 1)]) (st := []) dX0_serves_26 cb_X4_proves tp_671 tp_626 tp_627 kf4 rfl (by omega) g5 rfl rfl (Nat.le_of_ble_eq_true rfl) (x_X4_proves e7) ?_
    obtain ⟨g9, h⟩ := gd_some h
    exact ev_retI .boolean dX0_serves_29 rfl (nz_of g9).1 h
def s_X0_numberOf (a0 : Int32) (a1 : Int32) (σ : St) : Option (Int32 × St) :=
 if (8 : Int32) ≤ a0 then (some ((100 + (10 * (a0 - 8))) + a1, σ)) else (some ((10 * a0) + a1, σ))
set_option maxHeartbeats 4000000 in
set_option maxRecDepth 100000 in
theorem x_X0_numberOf {a0 : Int32} {a1 : Int32} {σ : St} {r : Int32} {σ' : St} (h : s_X0_numberOf a0 a1 σ = some (r, σ')) : Ex M_X0_numberOf (1) [.int (a0), .int (a1)] σ (some (.int r)) σ' := by
  unfold s_X0_numberOf at h
  refine ex_of (by decide) rfl (Nat.le_of_ble_eq_true rfl) ?_
  show Ev _ _ 0 [(0, .int (a0)), (1, .int (a1))] [] _ _ _
  refine ev_iload_n 0 dX0_numberOf_0 rfl ?_
  refine ev_bipush (v := 8) dX0_numberOf_1 (by decide) ?_
  rcases it_some h with ⟨c1, h⟩ | ⟨c1, h⟩
  · refine ev_icmp_ge (tgt := 15) dX0_numberOf_3 rfl c1 ?_
    refine ev_bipush (v := 100) dX0_numberOf_15 (by decide) ?_
    refine ev_bipush (v := 10) dX0_numberOf_17 (by decide) ?_
    refine ev_iload_n 0 dX0_numberOf_19 rfl ?_
    refine ev_bipush (v := 8) dX0_numberOf_20 (by decide) ?_
    refine ev_isub dX0_numberOf_22 ?_
    refine ev_imul dX0_numberOf_23 ?_
    refine ev_iadd dX0_numberOf_24 ?_
    refine ev_iload_n 1 dX0_numberOf_25 rfl ?_
    refine ev_iadd dX0_numberOf_26 ?_
    exact ev_retI .int dX0_numberOf_27 rfl rfl h
  · refine ev_icmp_ge_n 15 dX0_numberOf_3 rfl c1 ?_
    refine ev_bipush (v := 10) dX0_numberOf_6 (by decide) ?_
    refine ev_iload_n 0 dX0_numberOf_8 rfl ?_
    refine ev_imul dX0_numberOf_9 ?_
    refine ev_iload_n 1 dX0_numberOf_10 rfl ?_
    refine ev_iadd dX0_numberOf_11 ?_
    refine ev_goto (tgt := 27) dX0_numberOf_12 rfl ?_
    exact ev_retI .int dX0_numberOf_27 rfl rfl h
def sb_X0_writeAtom_21 (kg : Nat → Int32 → Int32 → Int32 → St → Option (Unit × St)) (k3 : Nat → Int32 → Int32 → Int32 → Int32 → St → Option (Unit × St)) (k21 : Nat → Int32 → Int32 → Int32 → Int32 → Int32 → Int32 → St → Option (Unit × St)) (a0 : Nat) (a1 : Int32) (a2 : Int32) (a3 : Int32) (a4 : Int32) (a5 : Int32) (a6 : Int32) (σ : St) : Option (Unit × St) :=
 if (3 : Int32) ≤ a6 then (lt (a4 + 1 : Int32) fun v2 =>
 k3 a0 a1 a2 a3 v2 σ) else (if a5 = ((-1)) then (lt (a4 + 1 : Int32) fun v5 =>
 k3 a0 a1 a2 a3 v5 σ) else (if isO σ 0 a0 = true then (op (sP σ a0 0) fun p8 =>
 if isO σ 3 p8 = true then (bd (s_X3_body p8 a4 a6 σ) fun r13 σ11 =>
 if isO σ11 0 a0 = true then (op (sP σ11 a0 0) fun p15 =>
 if isO σ11 3 p15 = true then (bd (s_X3_hasHead p15 a4 a6 a1 σ11) fun r20 σ18 =>
 if r20 = 0 then (lt (a6 + 1 : Int32) fun v22 =>
 k21 a0 a1 a2 a3 a4 a5 v22 σ18) else (if isO σ18 0 a0 = true then (bd (s_X0_serves a0 r13 a5 a3 σ18) fun r27 σ25 =>
 if r27 = 0 then (lt (a6 + 1 : Int32) fun v29 =>
 k21 a0 a1 a2 a3 a4 a5 v29 σ25) else (bd (s_X0_numberOf a4 a6 σ25) fun r33 σ31 =>
 if isO σ31 0 a0 = true then (bd (s_X0_append a0 r33 σ31) fun r37 σ35 =>
 if r13 = ((-1)) then (some ((), σ35)) else (if isO σ35 0 a0 = true then (bd (kg a0 r13 a5 (a3 - 1) σ35) fun r42 σ40 =>
 some ((), σ40)) else none)) else none)) else none)) else none) else none) else none) else none))
def s_X0_writeAtom_21 (kg : Nat → Int32 → Int32 → Int32 → St → Option (Unit × St)) (k3 : Nat → Int32 → Int32 → Int32 → Int32 → St → Option (Unit × St)) (F : Nat) : Nat → Int32 → Int32 → Int32 → Int32 → Int32 → Int32 → St → Option (Unit × St) := lp (fun _ _ _ _ _ _ _ _ => none) (sb_X0_writeAtom_21 kg k3) F
set_option maxHeartbeats 4000000 in
set_option maxRecDepth 100000 in
theorem e_X0_writeAtom_21 {kg : Nat → Int32 → Int32 → Int32 → St → Option (Unit × St)} {dk : Nat} (hkg : ∀ {x0 : Nat} {x1 : Int32} {x2 : Int32} {x3 : Int32} {σ : St} {r : Unit} {σ' : St}, kg x0 x1 x2 x3 σ = some (r, σ') → Ex M_X0_write dk [.ref x0, .int (x1), .int (x2), .int (x3)] σ none σ') {r : Unit} {σ' : St} {k3 : Nat → Int32 → Int32 → Int32 → Int32 → St → Option (Unit × St)} (hk3 : ∀ {y0 : Nat} {y1 : Int32} {y2 : Int32} {y3 : Int32} {y4 : Int32} {σ : St}, k3 y0 y1 y2 y3 y4 σ = some (r, σ') → Ev M_X0_writeAtom (dk + 5) 3 [(0, .ref y0), (1, .int (y1)), (2, .int (y2)), (3, .int (y3)), (4, .int (y4))] [] σ none σ') (F : Nat) : ∀ {a0 : Nat} {a1 : Int32} {a2 : Int32} {a3 : Int32} {a4 : Int32} {a5 : Int32} {a6 : Int32} {σ : St}, s_X0_writeAtom_21 kg k3 F a0 a1 a2 a3 a4 a5 a6 σ = some (r, σ') → Ev M_X0_writeAtom (dk + 5) 21 [(0, .ref a0), (1, .int (a1)), (2, .int (a2)), (3, .int (a3)), (4, .int (a4)), (5, .int (a5)), (6, .int (a6))] [] σ none σ' := by
  induction F with
  | zero => intro a0 a1 a2 a3 a4 a5 a6 σ h; cases h
  | succ F ih =>
    intro a0 a1 a2 a3 a4 a5 a6 σ h
    change sb_X0_writeAtom_21 kg k3 (s_X0_writeAtom_21 kg k3 F) a0 a1 a2 a3 a4 a5 a6 σ = some (r, σ') at h
    unfold sb_X0_writeAtom_21 at h
    have hk21 := @ih
    refine ev_iload 6 dX0_writeAtom_21 rfl ?_
    refine ev_iconst (v := 3) dX0_writeAtom_23 (by decide) ?_
    rcases it_some h with ⟨c1, h⟩ | ⟨c1, h⟩
    · refine ev_icmp_ge (tgt := 108) dX0_writeAtom_24 rfl c1 ?_
      obtain ⟨v2, e3, h⟩ := lt_some h
      refine ev_iinc (v := v2) (ls' := [(4, .int (v2)), (0, .ref a0), (1, .int (a1)), (2, .int (a2)), (3, .int (a3)), (5, .int (a5)), (6, .int (a6))]) 4 dX0_writeAtom_108 rfl e3.symm (by decide) rfl ?_
      refine ev_goto (tgt := 3) dX0_writeAtom_111 rfl ?_
      refine ev_sub (ls' := [(0, .ref a0), (1, .int (a1)), (2, .int (a2)), (3, .int (a3)), (4, .int (v2))]) [1, 2, 3, 4, 0] rfl ?_
      exact hk3 h
    · refine ev_icmp_ge_n 108 dX0_writeAtom_24 rfl c1 ?_
      refine ev_iload 5 dX0_writeAtom_27 rfl ?_
      refine ev_iconst (v := (-1)) dX0_writeAtom_29 (by decide) ?_
      rcases it_some h with ⟨c4, h⟩ | ⟨c4, h⟩
      · refine ev_icmp_eq (tgt := 108) dX0_writeAtom_30 rfl c4 ?_
        obtain ⟨v5, e6, h⟩ := lt_some h
        refine ev_iinc (v := v5) (ls' := [(4, .int (v5)), (0, .ref a0), (1, .int (a1)), (2, .int (a2)), (3, .int (a3)), (5, .int (a5)), (6, .int (a6))]) 4 dX0_writeAtom_108 rfl e6.symm (by decide) rfl ?_
        refine ev_goto (tgt := 3) dX0_writeAtom_111 rfl ?_
        refine ev_sub (ls' := [(0, .ref a0), (1, .int (a1)), (2, .int (a2)), (3, .int (a3)), (4, .int (v5))]) [1, 2, 3, 4, 0] rfl ?_
        exact hk3 h
      · refine ev_icmp_eq_n 108 dX0_writeAtom_30 rfl c4 ?_
        refine ev_aload_nR 0 dX0_writeAtom_33 rfl ?_
        obtain ⟨g7, h⟩ := gd_some h
        obtain ⟨p8, e9, h⟩ := op_some h
        refine ev_getPR dX0_writeAtom_34 fl_X0_26 rfl g7 e9 ?_
        refine ev_iload 4 dX0_writeAtom_37 rfl ?_
        refine ev_iload 6 dX0_writeAtom_39 rfl ?_
        obtain ⟨g10, h⟩ := gd_some h
        obtain ⟨r13, σ11, e12, h⟩ := bd_some h
        refine ev_invVi (As := [.int (a4), .int (a6)]) (st := []) dX0_writeAtom_41 cb_X3_body tp_691 tp_602 tp_603 kf3 rfl (by omega) g10 rfl rfl (Nat.le_of_ble_eq_true rfl) (x_X3_body e12) ?_
        refine ev_istore (ls' := [(7, .int (r13)), (0, .ref a0), (1, .int (a1)), (2, .int (a2)), (3, .int (a3)), (4, .int (a4)), (5, .int (a5)), (6, .int (a6))]) dX0_writeAtom_44 (by decide) rfl ?_
        refine ev_aload_nR 1 dX0_writeAtom_46 rfl ?_
        obtain ⟨g14, h⟩ := gd_some h
        obtain ⟨p15, e16, h⟩ := op_some h
        refine ev_getPR dX0_writeAtom_47 fl_X0_26 rfl g14 e16 ?_
        refine ev_iload 5 dX0_writeAtom_50 rfl ?_
        refine ev_iload 7 dX0_writeAtom_52 rfl ?_
        refine ev_iload_n 2 dX0_writeAtom_54 rfl ?_
        obtain ⟨g17, h⟩ := gd_some h
        obtain ⟨r20, σ18, e19, h⟩ := bd_some h
        refine ev_invVi (As := [.int (a4), .int (a6), .int (a1)]) (st := []) dX0_writeAtom_55 cb_X3_hasHead tp_692 tp_598 tp_599 kf3 rfl (by omega) g17 rfl rfl (Nat.le_of_ble_eq_true rfl) (x_X3_hasHead e19) ?_
        rcases it_some h with ⟨c21, h⟩ | ⟨c21, h⟩
        · refine ev_if_eq (tgt := 102) dX0_writeAtom_58 rfl c21 ?_
          obtain ⟨v22, e23, h⟩ := lt_some h
          refine ev_iinc (v := v22) (ls' := [(6, .int (v22)), (7, .int (r13)), (0, .ref a0), (1, .int (a1)), (2, .int (a2)), (3, .int (a3)), (4, .int (a4)), (5, .int (a5))]) 7 dX0_writeAtom_102 rfl e23.symm (by decide) rfl ?_
          refine ev_goto (tgt := 21) dX0_writeAtom_105 rfl ?_
          refine ev_sub (ls' := [(0, .ref a0), (1, .int (a1)), (2, .int (a2)), (3, .int (a3)), (4, .int (a4)), (5, .int (a5)), (6, .int (v22))]) [2, 3, 4, 5, 6, 7, 0] rfl ?_
          exact hk21 h
        · refine ev_if_eq_n 102 dX0_writeAtom_58 rfl c21 ?_
          refine ev_aload_nR 1 dX0_writeAtom_61 rfl ?_
          refine ev_iload 0 dX0_writeAtom_62 rfl ?_
          refine ev_iload 6 dX0_writeAtom_64 rfl ?_
          refine ev_iload_n 4 dX0_writeAtom_66 rfl ?_
          obtain ⟨g24, h⟩ := gd_some h
          obtain ⟨r27, σ25, e26, h⟩ := bd_some h
          refine ev_invVi (As := [.int (r13), .int (a5), .int (a3)]) (st := []) dX0_writeAtom_67 cb_X0_serves tp_693 tp_695 tp_38 kf0 rfl (by omega) g24 rfl rfl (Nat.le_of_ble_eq_true rfl) (x_X0_serves e26) ?_
          rcases it_some h with ⟨c28, h⟩ | ⟨c28, h⟩
          · refine ev_if_eq (tgt := 102) dX0_writeAtom_70 rfl c28 ?_
            obtain ⟨v29, e30, h⟩ := lt_some h
            refine ev_iinc (v := v29) (ls' := [(6, .int (v29)), (7, .int (r13)), (0, .ref a0), (1, .int (a1)), (2, .int (a2)), (3, .int (a3)), (4, .int (a4)), (5, .int (a5))]) 7 dX0_writeAtom_102 rfl e30.symm (by decide) rfl ?_
            refine ev_goto (tgt := 21) dX0_writeAtom_105 rfl ?_
            refine ev_sub (ls' := [(0, .ref a0), (1, .int (a1)), (2, .int (a2)), (3, .int (a3)), (4, .int (a4)), (5, .int (a5)), (6, .int (v29))]) [2, 3, 4, 5, 6, 7, 0] rfl ?_
            exact hk21 h
          · refine ev_if_eq_n 102 dX0_writeAtom_70 rfl c28 ?_
            refine ev_aload_nR 1 dX0_writeAtom_73 rfl ?_
            refine ev_iload 5 dX0_writeAtom_74 rfl ?_
            refine ev_iload 7 dX0_writeAtom_76 rfl ?_
            obtain ⟨r33, σ31, e32, h⟩ := bd_some h
            refine ev_invSi (As := [.int (a4), .int (a6)]) (st := [.ref a0]) dX0_writeAtom_78 cb_X0_numberOf tp_697 tp_698 (by omega) rfl rfl (Nat.le_of_ble_eq_true rfl) (x_X0_numberOf e32) ?_
            obtain ⟨g34, h⟩ := gd_some h
            obtain ⟨r37, σ35, e36, h⟩ := bd_some h
            refine ev_invVv (As := [.int (r33)]) (st := []) dX0_writeAtom_81 cb_X0_append tp_672 tp_674 tp_35 kf0 rfl (by omega) g34 rfl rfl (Nat.le_of_ble_eq_true rfl) (x_X0_append e36) ?_
            refine ev_iload 0 dX0_writeAtom_84 rfl ?_
            refine ev_iconst (v := (-1)) dX0_writeAtom_86 (by decide) ?_
            rcases it_some h with ⟨c38, h⟩ | ⟨c38, h⟩
            · refine ev_icmp_eq (tgt := 101) dX0_writeAtom_87 rfl c38 ?_
              exact ev_retV dX0_writeAtom_101 rfl h
            · refine ev_icmp_eq_n 101 dX0_writeAtom_87 rfl c38 ?_
              refine ev_aload_nR 1 dX0_writeAtom_90 rfl ?_
              refine ev_iload 0 dX0_writeAtom_91 rfl ?_
              refine ev_iload 6 dX0_writeAtom_93 rfl ?_
              refine ev_iload_n 4 dX0_writeAtom_95 rfl ?_
              refine ev_iconst (v := 1) dX0_writeAtom_96 (by decide) ?_
              refine ev_isub dX0_writeAtom_97 ?_
              obtain ⟨g39, h⟩ := gd_some h
              obtain ⟨r42, σ40, e41, h⟩ := bd_some h
              refine ev_invVv (As := [.int (r13), .int (a5), .int (a3 - 1)]) (st := []) dX0_writeAtom_98 cb_X0_write tp_657 tp_659 tp_33 kf0 rfl (by omega) g39 rfl rfl (Nat.le_of_ble_eq_true rfl) (hkg e41) ?_
              exact ev_retV dX0_writeAtom_101 rfl h
def sb_X0_writeAtom_3 (kg : Nat → Int32 → Int32 → Int32 → St → Option (Unit × St)) (k3 : Nat → Int32 → Int32 → Int32 → Int32 → St → Option (Unit × St)) (a0 : Nat) (a1 : Int32) (a2 : Int32) (a3 : Int32) (a4 : Int32) (σ : St) : Option (Unit × St) :=
 if (12 : Int32) ≤ a4 then (some ((), σ)) else (bd (s_X3_afterUse a4 a2 σ) fun r46 σ44 =>
 s_X0_writeAtom_21 kg k3 16000 a0 a1 a2 a3 a4 r46 0 σ44)
def s_X0_writeAtom_3 (kg : Nat → Int32 → Int32 → Int32 → St → Option (Unit × St)) (F : Nat) : Nat → Int32 → Int32 → Int32 → Int32 → St → Option (Unit × St) := lp (fun _ _ _ _ _ _ => none) (sb_X0_writeAtom_3 kg) F
set_option maxHeartbeats 4000000 in
set_option maxRecDepth 100000 in
theorem e_X0_writeAtom_3 {kg : Nat → Int32 → Int32 → Int32 → St → Option (Unit × St)} {dk : Nat} (hkg : ∀ {x0 : Nat} {x1 : Int32} {x2 : Int32} {x3 : Int32} {σ : St} {r : Unit} {σ' : St}, kg x0 x1 x2 x3 σ = some (r, σ') → Ex M_X0_write dk [.ref x0, .int (x1), .int (x2), .int (x3)] σ none σ') {r : Unit} {σ' : St} (F : Nat) : ∀ {a0 : Nat} {a1 : Int32} {a2 : Int32} {a3 : Int32} {a4 : Int32} {σ : St}, s_X0_writeAtom_3 kg F a0 a1 a2 a3 a4 σ = some (r, σ') → Ev M_X0_writeAtom (dk + 5) 3 [(0, .ref a0), (1, .int (a1)), (2, .int (a2)), (3, .int (a3)), (4, .int (a4))] [] σ none σ' := by
  induction F with
  | zero => intro a0 a1 a2 a3 a4 σ h; cases h
  | succ F ih =>
    intro a0 a1 a2 a3 a4 σ h
    change sb_X0_writeAtom_3 kg (s_X0_writeAtom_3 kg F) a0 a1 a2 a3 a4 σ = some (r, σ') at h
    unfold sb_X0_writeAtom_3 at h
    have hk3 := @ih
    refine ev_iload 4 dX0_writeAtom_3 rfl ?_
    refine ev_bipush (v := 12) dX0_writeAtom_5 (by decide) ?_
    rcases it_some h with ⟨c43, h⟩ | ⟨c43, h⟩
    · refine ev_icmp_ge (tgt := 114) dX0_writeAtom_7 rfl c43 ?_
      exact ev_retV dX0_writeAtom_114 rfl h
    · refine ev_icmp_ge_n 114 dX0_writeAtom_7 rfl c43 ?_
      refine ev_iload 4 dX0_writeAtom_10 rfl ?_
      refine ev_iload_n 2 dX0_writeAtom_12 rfl ?_
      obtain ⟨r46, σ44, e45, h⟩ := bd_some h
      refine ev_invSi (As := [.int (a4), .int (a2)]) (st := []) dX0_writeAtom_13 cb_X3_afterUse tp_688 tp_689 (by omega) rfl rfl (Nat.le_of_ble_eq_true rfl) (x_X3_afterUse e45) ?_
      refine ev_istore (ls' := [(5, .int (r46)), (0, .ref a0), (1, .int (a1)), (2, .int (a2)), (3, .int (a3)), (4, .int (a4))]) dX0_writeAtom_16 (by decide) rfl ?_
      refine ev_iconst (v := 0) dX0_writeAtom_18 (by decide) ?_
      refine ev_istore (ls' := [(6, .int (0)), (5, .int (r46)), (0, .ref a0), (1, .int (a1)), (2, .int (a2)), (3, .int (a3)), (4, .int (a4))]) dX0_writeAtom_19 (by decide) rfl ?_
      refine ev_sub (ls' := [(0, .ref a0), (1, .int (a1)), (2, .int (a2)), (3, .int (a3)), (4, .int (a4)), (5, .int (r46)), (6, .int (0))]) [2, 3, 4, 5, 6, 1, 0] rfl ?_
      exact e_X0_writeAtom_21 hkg hk3 16000 h
def s_X0_writeAtom (kg : Nat → Int32 → Int32 → Int32 → St → Option (Unit × St)) (a0 : Nat) (a1 : Int32) (a2 : Int32) (a3 : Int32) (σ : St) : Option (Unit × St) :=
 s_X0_writeAtom_3 kg 16000 a0 a1 a2 a3 0 σ
set_option maxHeartbeats 4000000 in
set_option maxRecDepth 100000 in
theorem x_X0_writeAtom {kg : Nat → Int32 → Int32 → Int32 → St → Option (Unit × St)} {dk : Nat} (hkg : ∀ {x0 : Nat} {x1 : Int32} {x2 : Int32} {x3 : Int32} {σ : St} {r : Unit} {σ' : St}, kg x0 x1 x2 x3 σ = some (r, σ') → Ex M_X0_write dk [.ref x0, .int (x1), .int (x2), .int (x3)] σ none σ') {a0 : Nat} {a1 : Int32} {a2 : Int32} {a3 : Int32} {σ : St} {r : Unit} {σ' : St} (h : s_X0_writeAtom kg a0 a1 a2 a3 σ = some (r, σ')) : Ex M_X0_writeAtom (dk + 5) [.ref a0, .int (a1), .int (a2), .int (a3)] σ none σ' := by
  unfold s_X0_writeAtom at h
  refine ex_of (by decide) rfl (Nat.le_of_ble_eq_true rfl) ?_
  show Ev _ _ 0 [(0, .ref a0), (1, .int (a1)), (2, .int (a2)), (3, .int (a3))] [] _ _ _
  refine ev_iconst (v := 0) dX0_writeAtom_0 (by decide) ?_
  refine ev_istore (ls' := [(4, .int (0)), (0, .ref a0), (1, .int (a1)), (2, .int (a2)), (3, .int (a3))]) dX0_writeAtom_1 (by decide) rfl ?_
  refine ev_sub (ls' := [(0, .ref a0), (1, .int (a1)), (2, .int (a2)), (3, .int (a3)), (4, .int (0))]) [1, 2, 3, 4, 0] rfl ?_
  exact e_X0_writeAtom_3 hkg 16000 h
def sc_X0_write (kg : Nat → Int32 → Int32 → Int32 → St → Option (Unit × St)) (a0 : Nat) (a1 : Int32) (a2 : Int32) (a3 : Int32) (σ : St) : Option (Unit × St) :=
 if (0 : Int32) < a3 then (if isO σ 0 a0 = true then (op (sP σ a0 0) fun p3 =>
 if isO σ 3 p3 = true then (bd (s_X3_first p3 a1 σ) fun r8 σ6 =>
 if isO σ6 0 a0 = true then (op (sP σ6 a0 0) fun p10 =>
 if isO σ6 3 p10 = true then (bd (s_X3_second p10 a1 σ6) fun r15 σ13 =>
 if isO σ13 0 a0 = true then (op (sP σ13 a0 0) fun p17 =>
 if isO σ13 3 p17 = true then (bd (s_X3_kind p17 a1 σ13) fun r22 σ20 =>
 if r22 = 33 then (if isO σ20 0 a0 = true then (bd (kg a0 r8 a2 (a3 - 1) σ20) fun r27 σ25 =>
 some ((), σ25)) else none) else (if r22 = 38 then (if isO σ20 0 a0 = true then (bd (kg a0 r8 a2 (a3 - 1) σ20) fun r32 σ30 =>
 if isO σ30 0 a0 = true then (bd (kg a0 r15 a2 (a3 - 1) σ30) fun r36 σ34 =>
 some ((), σ34)) else none) else none) else (if r22 = 42 then (if isO σ20 0 a0 = true then (bd (s_X0_writeSplit kg a0 r8 r15 a2 a3 σ20) fun r41 σ39 =>
 some ((), σ39)) else none) else (if r22 = 43 then (if isO σ20 0 a0 = true then (bd (s_X0_writeChoice kg a0 r8 r15 a2 a3 σ20) fun r46 σ44 =>
 some ((), σ44)) else none) else (if r22 = 49 then (some ((), σ20)) else (if r22 = 84 then (some ((), σ20)) else (if r22 = 91 then (if isO σ20 0 a0 = true then (op (sP σ20 a0 0) fun p51 =>
 if isO σ20 3 p51 = true then (bd (s_X3_loanBit p51 a1 σ20) fun r56 σ54 =>
 if isO σ54 0 a0 = true then (bd (kg a0 r8 (a2 ||| r56) (a3 - 1) σ54) fun r60 σ58 =>
 some ((), σ58)) else none) else none) else none) else (if isO σ20 0 a0 = true then (bd (s_X0_writeAtom kg a0 r22 a2 a3 σ20) fun r64 σ62 =>
 some ((), σ62)) else none)))))))) else none) else none) else none) else none) else none) else none) else (some ((), σ))
set_option maxHeartbeats 4000000 in
set_option maxRecDepth 100000 in
theorem xc_X0_write {kg : Nat → Int32 → Int32 → Int32 → St → Option (Unit × St)} {dk : Nat} (hkg : ∀ {x0 : Nat} {x1 : Int32} {x2 : Int32} {x3 : Int32} {σ : St} {r : Unit} {σ' : St}, kg x0 x1 x2 x3 σ = some (r, σ') → Ex M_X0_write dk [.ref x0, .int (x1), .int (x2), .int (x3)] σ none σ') {a0 : Nat} {a1 : Int32} {a2 : Int32} {a3 : Int32} {σ : St} {r : Unit} {σ' : St} (h : sc_X0_write kg a0 a1 a2 a3 σ = some (r, σ')) : Ex M_X0_write (dk + 6) [.ref a0, .int (a1), .int (a2), .int (a3)] σ none σ' := by
  unfold sc_X0_write at h
  refine ex_of (by decide) rfl (Nat.le_of_ble_eq_true rfl) ?_
  show Ev _ _ 0 [(0, .ref a0), (1, .int (a1)), (2, .int (a2)), (3, .int (a3))] [] _ _ _
  refine ev_iload_n 3 dX0_write_0 rfl ?_
  rcases it_some h with ⟨c1, h⟩ | ⟨c1, h⟩
  · refine ev_if_gt (tgt := 5) dX0_write_1 rfl c1 ?_
    refine ev_aload_nR 0 dX0_write_5 rfl ?_
    obtain ⟨g2, h⟩ := gd_some h
    obtain ⟨p3, e4, h⟩ := op_some h
    refine ev_getPR dX0_write_6 fl_X0_26 rfl g2 e4 ?_
    refine ev_iload_n 1 dX0_write_9 rfl ?_
    obtain ⟨g5, h⟩ := gd_some h
    obtain ⟨r8, σ6, e7, h⟩ := bd_some h
    refine ev_invVi (As := [.int (a1)]) (st := []) dX0_write_10 cb_X3_first tp_661 tp_533 tp_534 kf3 rfl (by omega) g5 rfl rfl (Nat.le_of_ble_eq_true rfl) (x_X3_first e7) ?_
    refine ev_istore (ls' := [(4, .int (r8)), (0, .ref a0), (1, .int (a1)), (2, .int (a2)), (3, .int (a3))]) dX0_write_13 (by decide) rfl ?_
    refine ev_aload_nR 1 dX0_write_15 rfl ?_
    obtain ⟨g9, h⟩ := gd_some h
    obtain ⟨p10, e11, h⟩ := op_some h
    refine ev_getPR dX0_write_16 fl_X0_26 rfl g9 e11 ?_
    refine ev_iload_n 2 dX0_write_19 rfl ?_
    obtain ⟨g12, h⟩ := gd_some h
    obtain ⟨r15, σ13, e14, h⟩ := bd_some h
    refine ev_invVi (As := [.int (a1)]) (st := []) dX0_write_20 cb_X3_second tp_662 tp_541 tp_542 kf3 rfl (by omega) g12 rfl rfl (Nat.le_of_ble_eq_true rfl) (x_X3_second e14) ?_
    refine ev_istore (ls' := [(5, .int (r15)), (4, .int (r8)), (0, .ref a0), (1, .int (a1)), (2, .int (a2)), (3, .int (a3))]) dX0_write_23 (by decide) rfl ?_
    refine ev_aload_nR 2 dX0_write_25 rfl ?_
    obtain ⟨g16, h⟩ := gd_some h
    obtain ⟨p17, e18, h⟩ := op_some h
    refine ev_getPR dX0_write_26 fl_X0_26 rfl g16 e18 ?_
    refine ev_iload_n 3 dX0_write_29 rfl ?_
    obtain ⟨g19, h⟩ := gd_some h
    obtain ⟨r22, σ20, e21, h⟩ := bd_some h
    refine ev_invVi (As := [.int (a1)]) (st := []) dX0_write_30 cb_X3_kind tp_663 tp_549 tp_550 kf3 rfl (by omega) g19 rfl rfl (Nat.le_of_ble_eq_true rfl) (x_X3_kind e21) ?_
    refine ev_istore (ls' := [(6, .int (r22)), (5, .int (r15)), (4, .int (r8)), (0, .ref a0), (1, .int (a1)), (2, .int (a2)), (3, .int (a3))]) dX0_write_33 (by decide) rfl ?_
    refine ev_iload 0 dX0_write_35 rfl ?_
    rcases it_some h with ⟨c23, h⟩ | ⟨c23, h⟩
    · refine ev_lookup (off := 70) (tgt := 107) dX0_write_37 (by decide) (by rw [c23]; decide) rfl ?_
      refine ev_aload_nR 3 dX0_write_107 rfl ?_
      refine ev_iload 2 dX0_write_108 rfl ?_
      refine ev_iload_n 5 dX0_write_110 rfl ?_
      refine ev_iload_n 6 dX0_write_111 rfl ?_
      refine ev_iconst (v := 1) dX0_write_112 (by decide) ?_
      refine ev_isub dX0_write_113 ?_
      obtain ⟨g24, h⟩ := gd_some h
      obtain ⟨r27, σ25, e26, h⟩ := bd_some h
      refine ev_invVv (As := [.int (r8), .int (a2), .int (a3 - 1)]) (st := []) dX0_write_114 cb_X0_write tp_657 tp_659 tp_33 kf0 rfl (by omega) g24 rfl rfl (Nat.le_of_ble_eq_true rfl) (hkg e26) ?_
      refine ev_goto (tgt := 199) dX0_write_117 rfl ?_
      exact ev_retV dX0_write_199 rfl h
    rcases it_some h with ⟨c28, h⟩ | ⟨c28, h⟩
    · refine ev_lookup (off := 96) (tgt := 133) dX0_write_37 (by decide) (by rw [c28]; decide) rfl ?_
      refine ev_aload_nR 3 dX0_write_133 rfl ?_
      refine ev_iload 2 dX0_write_134 rfl ?_
      refine ev_iload_n 5 dX0_write_136 rfl ?_
      refine ev_iload_n 6 dX0_write_137 rfl ?_
      refine ev_iconst (v := 1) dX0_write_138 (by decide) ?_
      refine ev_isub dX0_write_139 ?_
      obtain ⟨g29, h⟩ := gd_some h
      obtain ⟨r32, σ30, e31, h⟩ := bd_some h
      refine ev_invVv (As := [.int (r8), .int (a2), .int (a3 - 1)]) (st := []) dX0_write_140 cb_X0_write tp_657 tp_659 tp_33 kf0 rfl (by omega) g29 rfl rfl (Nat.le_of_ble_eq_true rfl) (hkg e31) ?_
      refine ev_aload_nR 3 dX0_write_143 rfl ?_
      refine ev_iload 1 dX0_write_144 rfl ?_
      refine ev_iload_n 5 dX0_write_146 rfl ?_
      refine ev_iload_n 6 dX0_write_147 rfl ?_
      refine ev_iconst (v := 1) dX0_write_148 (by decide) ?_
      refine ev_isub dX0_write_149 ?_
      obtain ⟨g33, h⟩ := gd_some h
      obtain ⟨r36, σ34, e35, h⟩ := bd_some h
      refine ev_invVv (As := [.int (r15), .int (a2), .int (a3 - 1)]) (st := []) dX0_write_150 cb_X0_write tp_657 tp_659 tp_33 kf0 rfl (by omega) g33 rfl rfl (Nat.le_of_ble_eq_true rfl) (hkg e35) ?_
      refine ev_goto (tgt := 199) dX0_write_153 rfl ?_
      exact ev_retV dX0_write_199 rfl h
    rcases it_some h with ⟨c37, h⟩ | ⟨c37, h⟩
    · refine ev_lookup (off := 83) (tgt := 120) dX0_write_37 (by decide) (by rw [c37]; decide) rfl ?_
      refine ev_aload_nR 3 dX0_write_120 rfl ?_
      refine ev_iload 2 dX0_write_121 rfl ?_
      refine ev_iload 1 dX0_write_123 rfl ?_
      refine ev_iload_n 5 dX0_write_125 rfl ?_
      refine ev_iload_n 6 dX0_write_126 rfl ?_
      obtain ⟨g38, h⟩ := gd_some h
      obtain ⟨r41, σ39, e40, h⟩ := bd_some h
      refine ev_invVv (As := [.int (r8), .int (r15), .int (a2), .int (a3)]) (st := []) dX0_write_127 cb_X0_writeSplit tp_664 tp_666 tp_34 kf0 rfl (by omega) g38 rfl rfl (Nat.le_of_ble_eq_true rfl) (x_X0_writeSplit hkg e40) ?_
      refine ev_goto (tgt := 199) dX0_write_130 rfl ?_
      exact ev_retV dX0_write_199 rfl h
    rcases it_some h with ⟨c42, h⟩ | ⟨c42, h⟩
    · refine ev_lookup (off := 119) (tgt := 156) dX0_write_37 (by decide) (by rw [c42]; decide) rfl ?_
      refine ev_aload_nR 3 dX0_write_156 rfl ?_
      refine ev_iload 2 dX0_write_157 rfl ?_
      refine ev_iload 1 dX0_write_159 rfl ?_
      refine ev_iload_n 5 dX0_write_161 rfl ?_
      refine ev_iload_n 6 dX0_write_162 rfl ?_
      obtain ⟨g43, h⟩ := gd_some h
      obtain ⟨r46, σ44, e45, h⟩ := bd_some h
      refine ev_invVv (As := [.int (r8), .int (r15), .int (a2), .int (a3)]) (st := []) dX0_write_163 cb_X0_writeChoice tp_679 tp_681 tp_36 kf0 rfl (by omega) g43 rfl rfl (Nat.le_of_ble_eq_true rfl) (x_X0_writeChoice hkg e45) ?_
      refine ev_goto (tgt := 199) dX0_write_166 rfl ?_
      exact ev_retV dX0_write_199 rfl h
    rcases it_some h with ⟨c47, h⟩ | ⟨c47, h⟩
    · refine ev_lookup (off := 67) (tgt := 104) dX0_write_37 (by decide) (by rw [c47]; decide) rfl ?_
      refine ev_goto (tgt := 199) dX0_write_104 rfl ?_
      exact ev_retV dX0_write_199 rfl h
    rcases it_some h with ⟨c48, h⟩ | ⟨c48, h⟩
    · refine ev_lookup (off := 67) (tgt := 104) dX0_write_37 (by decide) (by rw [c48]; decide) rfl ?_
      refine ev_goto (tgt := 199) dX0_write_104 rfl ?_
      exact ev_retV dX0_write_199 rfl h
    rcases it_some h with ⟨c49, h⟩ | ⟨c49, h⟩
    · refine ev_lookup (off := 132) (tgt := 169) dX0_write_37 (by decide) (by rw [c49]; decide) rfl ?_
      refine ev_aload_nR 3 dX0_write_169 rfl ?_
      refine ev_iload 2 dX0_write_170 rfl ?_
      refine ev_iload_n 5 dX0_write_172 rfl ?_
      refine ev_aload_nR 3 dX0_write_173 rfl ?_
      obtain ⟨g50, h⟩ := gd_some h
      obtain ⟨p51, e52, h⟩ := op_some h
      refine ev_getPR dX0_write_174 fl_X0_26 rfl g50 e52 ?_
      refine ev_iload_n 4 dX0_write_177 rfl ?_
      obtain ⟨g53, h⟩ := gd_some h
      obtain ⟨r56, σ54, e55, h⟩ := bd_some h
      refine ev_invVi (As := [.int (a1)]) (st := [.int (a2), .int (r8), .ref a0]) dX0_write_178 cb_X3_loanBit tp_683 tp_585 tp_586 kf3 rfl (by omega) g53 rfl rfl (Nat.le_of_ble_eq_true rfl) (x_X3_loanBit e55) ?_
      refine ev_ior dX0_write_181 ?_
      refine ev_iload_n 6 dX0_write_182 rfl ?_
      refine ev_iconst (v := 1) dX0_write_183 (by decide) ?_
      refine ev_isub dX0_write_184 ?_
      obtain ⟨g57, h⟩ := gd_some h
      obtain ⟨r60, σ58, e59, h⟩ := bd_some h
      refine ev_invVv (As := [.int (r8), .int (a2 ||| r56), .int (a3 - 1)]) (st := []) dX0_write_185 cb_X0_write tp_657 tp_659 tp_33 kf0 rfl (by omega) g57 rfl rfl (Nat.le_of_ble_eq_true rfl) (hkg e59) ?_
      refine ev_goto (tgt := 199) dX0_write_188 rfl ?_
      exact ev_retV dX0_write_199 rfl h
    refine ev_lookup (off := 154) (tgt := 191) dX0_write_37 (by decide) ?_ rfl ?_
    · simp only [Op.lookupswitch.offset_cons, Op.lookupswitch.offset_nil]
      rw [if_neg (fun q => ne_toInt c23 q.symm)]
      rw [if_neg (fun q => ne_toInt c28 q.symm)]
      rw [if_neg (fun q => ne_toInt c37 q.symm)]
      rw [if_neg (fun q => ne_toInt c42 q.symm)]
      rw [if_neg (fun q => ne_toInt c47 q.symm)]
      rw [if_neg (fun q => ne_toInt c48 q.symm)]
      rw [if_neg (fun q => ne_toInt c49 q.symm)]
    · refine ev_aload_nR 3 dX0_write_191 rfl ?_
      refine ev_iload 0 dX0_write_192 rfl ?_
      refine ev_iload_n 5 dX0_write_194 rfl ?_
      refine ev_iload_n 6 dX0_write_195 rfl ?_
      obtain ⟨g61, h⟩ := gd_some h
      obtain ⟨r64, σ62, e63, h⟩ := bd_some h
      refine ev_invVv (As := [.int (r22), .int (a2), .int (a3)]) (st := []) dX0_write_196 cb_X0_writeAtom tp_684 tp_686 tp_37 kf0 rfl (by omega) g61 rfl rfl (Nat.le_of_ble_eq_true rfl) (x_X0_writeAtom hkg e63) ?_
      exact ev_retV dX0_write_199 rfl h
  · refine ev_if_gt_n 5 dX0_write_1 rfl c1 ?_
    exact ev_retV dX0_write_4 rfl h
def s_X0_write (F : Nat) : Nat → Int32 → Int32 → Int32 → St → Option (Unit × St) := lp (fun _ _ _ _ _ => none) sc_X0_write F
theorem x_X0_write (F : Nat) : ∀ {a0 : Nat} {a1 : Int32} {a2 : Int32} {a3 : Int32} {σ : St} {r : Unit} {σ' : St}, s_X0_write F a0 a1 a2 a3 σ = some (r, σ') → Ex M_X0_write (6 * F) [.ref a0, .int (a1), .int (a2), .int (a3)] σ none σ' := by
  induction F with
  | zero => intro a0 a1 a2 a3 σ r σ' h; cases h
  | succ F ih => intro a0 a1 a2 a3 σ r σ' h; exact xc_X0_write (kg := s_X0_write F) (dk := 6 * F) (fun h => ih h) h
def s_X9_capped (a0 : Int64) (σ : St) : Option (Int64 × St) :=
 lt (if 999999999 < a0 then 999999999 else a0 : Int64) fun v1 =>
 some (v1, σ)
set_option maxHeartbeats 4000000 in
set_option maxRecDepth 100000 in
theorem x_X9_capped {a0 : Int64} {σ : St} {r : Int64} {σ' : St} (h : s_X9_capped a0 σ = some (r, σ')) : Ex M_X9_capped (1) [.long (a0)] σ (some (.long r)) σ' := by
  unfold s_X9_capped at h
  refine ex_of (by decide) rfl (Nat.le_of_ble_eq_true rfl) ?_
  show Ev _ _ 0 [(0, .long (a0))] [] _ _ _
  refine ev_lload_n 0 dX9_capped_0 rfl ?_
  refine ev_ldc2 dX9_capped_1 tp_879 ?_
  refine ev_mminL dX9_capped_4 tp_880 tp_881 tp_65 tp_882 (by omega) (Nat.le_of_ble_eq_true rfl) ?_
  obtain ⟨v1, e2, h⟩ := lt_some h
  refine ev_topL e2 ?_
  exact ev_retL dX9_capped_7 rfl h
def s_X9_tallySplits_78 (kg : Nat → Int32 → Int32 → Int32 → St → Option (Int64 × St)) (k12 : Nat → Int32 → Int32 → Int32 → Int32 → Int64 → Int32 → Int32 → St → Option (Int64 × St)) (a0 : Nat) (a1 : Int32) (a2 : Int32) (a3 : Int32) (a4 : Int32) (a5 : Int64) (a7 : Int32) (a8 : Int32) (σ : St) : Option (Int64 × St) :=
 bd (s_X10_nextPart a7 a3 σ) fun r3 σ1 =>
 lt (a8 + (-1) : Int32) fun v4 =>
 k12 a0 a1 a2 a3 a4 a5 r3 v4 σ1
set_option maxHeartbeats 4000000 in
set_option maxRecDepth 100000 in
theorem e_X9_tallySplits_78 {kg : Nat → Int32 → Int32 → Int32 → St → Option (Int64 × St)} {dk : Nat} (hkg : ∀ {x0 : Nat} {x1 : Int32} {x2 : Int32} {x3 : Int32} {σ : St} {r : Int64} {σ' : St}, kg x0 x1 x2 x3 σ = some (r, σ') → Ex M_X9_tally dk [.ref x0, .int (x1), .int (x2), .int (x3)] σ (some (.long r)) σ') {r : Int64} {σ' : St} {k12 : Nat → Int32 → Int32 → Int32 → Int32 → Int64 → Int32 → Int32 → St → Option (Int64 × St)} (hk12 : ∀ {y0 : Nat} {y1 : Int32} {y2 : Int32} {y3 : Int32} {y4 : Int32} {y5 : Int64} {y6 : Int32} {y7 : Int32} {σ : St}, k12 y0 y1 y2 y3 y4 y5 y6 y7 σ = some (r, σ') → Ev M_X9_tallySplits (dk + 4) 12 [(0, .ref y0), (1, .int (y1)), (2, .int (y2)), (3, .int (y3)), (4, .int (y4)), (5, .long (y5)), (7, .int (y6)), (8, .int (y7))] [] σ (some (.long r)) σ') : ∀ {a0 : Nat} {a1 : Int32} {a2 : Int32} {a3 : Int32} {a4 : Int32} {a5 : Int64} {a7 : Int32} {a8 : Int32} {σ : St}, s_X9_tallySplits_78 kg k12 a0 a1 a2 a3 a4 a5 a7 a8 σ = some (r, σ') → Ev M_X9_tallySplits (dk + 4) 78 [(0, .ref a0), (1, .int (a1)), (2, .int (a2)), (3, .int (a3)), (4, .int (a4)), (5, .long (a5)), (7, .int (a7)), (8, .int (a8))] [] σ (some (.long r)) σ' := by
  intro a0 a1 a2 a3 a4 a5 a7 a8 σ h
  unfold s_X9_tallySplits_78 at h
  refine ev_iload 6 dX9_tallySplits_78 rfl ?_
  refine ev_iload_n 3 dX9_tallySplits_80 rfl ?_
  obtain ⟨r3, σ1, e2, h⟩ := bd_some h
  refine ev_invSNi (As := [.int (a7), .int (a3)]) (st := []) dX9_tallySplits_81 cb_X10_nextPart nl_X9_78 tp_677 (by omega) rfl rfl (Nat.le_of_ble_eq_true rfl) (x_X10_nextPart e2) ?_
  refine ev_istore (ls' := [(7, .int (r3)), (0, .ref a0), (1, .int (a1)), (2, .int (a2)), (3, .int (a3)), (4, .int (a4)), (5, .long (a5)), (8, .int (a8))]) dX9_tallySplits_84 (by decide) rfl ?_
  obtain ⟨v4, e5, h⟩ := lt_some h
  refine ev_iinc (v := v4) (ls' := [(8, .int (v4)), (7, .int (r3)), (0, .ref a0), (1, .int (a1)), (2, .int (a2)), (3, .int (a3)), (4, .int (a4)), (5, .long (a5))]) 7 dX9_tallySplits_86 rfl e5.symm (by decide) rfl ?_
  refine ev_goto (tgt := 12) dX9_tallySplits_89 rfl ?_
  refine ev_sub (ls' := [(0, .ref a0), (1, .int (a1)), (2, .int (a2)), (3, .int (a3)), (4, .int (a4)), (5, .long (a5)), (7, .int (r3)), (8, .int (v4))]) [2, 3, 4, 5, 6, 7, 1, 0] rfl ?_
  exact hk12 h
def sb_X9_tallySplits_12 (kg : Nat → Int32 → Int32 → Int32 → St → Option (Int64 × St)) (k12 : Nat → Int32 → Int32 → Int32 → Int32 → Int64 → Int32 → Int32 → St → Option (Int64 × St)) (a0 : Nat) (a1 : Int32) (a2 : Int32) (a3 : Int32) (a4 : Int32) (a5 : Int64) (a7 : Int32) (a8 : Int32) (σ : St) : Option (Int64 × St) :=
 if a8 ≤ 0 then (some (a5, σ)) else (if isO σ 9 a0 = true then (op (sP σ a0 1) fun p8 =>
 if isO σ 4 p8 = true then (bd (s_X4_proves p8 a1 a7 (a4 - 1) σ) fun r13 σ11 =>
 if r13 = 0 then (s_X9_tallySplits_78 kg k12 a0 a1 a2 a3 a4 a5 a7 a8 σ11) else (if isO σ11 9 a0 = true then (bd (kg a0 a2 (a3 ^^^ a7) (a4 - 1) σ11) fun r18 σ16 =>
 if (lg_cmp r18 0) = 0 then (s_X9_tallySplits_78 kg k12 a0 a1 a2 a3 a4 a5 a7 a8 σ16) else (if isO σ16 9 a0 = true then (bd (kg a0 a1 a7 (a4 - 1) σ16) fun r23 σ21 =>
 bd (s_X9_capped (a5 + (r23 * r18)) σ21) fun r26 σ24 =>
 s_X9_tallySplits_78 kg k12 a0 a1 a2 a3 a4 r26 a7 a8 σ24) else none)) else none)) else none) else none)
def s_X9_tallySplits_12 (kg : Nat → Int32 → Int32 → Int32 → St → Option (Int64 × St)) (F : Nat) : Nat → Int32 → Int32 → Int32 → Int32 → Int64 → Int32 → Int32 → St → Option (Int64 × St) := lp (fun _ _ _ _ _ _ _ _ _ => none) (sb_X9_tallySplits_12 kg) F
set_option maxHeartbeats 4000000 in
set_option maxRecDepth 100000 in
theorem e_X9_tallySplits_12 {kg : Nat → Int32 → Int32 → Int32 → St → Option (Int64 × St)} {dk : Nat} (hkg : ∀ {x0 : Nat} {x1 : Int32} {x2 : Int32} {x3 : Int32} {σ : St} {r : Int64} {σ' : St}, kg x0 x1 x2 x3 σ = some (r, σ') → Ex M_X9_tally dk [.ref x0, .int (x1), .int (x2), .int (x3)] σ (some (.long r)) σ') {r : Int64} {σ' : St} (F : Nat) : ∀ {a0 : Nat} {a1 : Int32} {a2 : Int32} {a3 : Int32} {a4 : Int32} {a5 : Int64} {a7 : Int32} {a8 : Int32} {σ : St}, s_X9_tallySplits_12 kg F a0 a1 a2 a3 a4 a5 a7 a8 σ = some (r, σ') → Ev M_X9_tallySplits (dk + 4) 12 [(0, .ref a0), (1, .int (a1)), (2, .int (a2)), (3, .int (a3)), (4, .int (a4)), (5, .long (a5)), (7, .int (a7)), (8, .int (a8))] [] σ (some (.long r)) σ' := by
  induction F with
  | zero => intro a0 a1 a2 a3 a4 a5 a7 a8 σ h; cases h
  | succ F ih =>
    intro a0 a1 a2 a3 a4 a5 a7 a8 σ h
    change sb_X9_tallySplits_12 kg (s_X9_tallySplits_12 kg F) a0 a1 a2 a3 a4 a5 a7 a8 σ = some (r, σ') at h
    unfold sb_X9_tallySplits_12 at h
    have hk12 := @ih
    refine ev_iload 7 dX9_tallySplits_12 rfl ?_
    rcases it_some h with ⟨c6, h⟩ | ⟨c6, h⟩
    · refine ev_if_le (tgt := 92) dX9_tallySplits_14 rfl c6 ?_
      refine ev_lload 5 dX9_tallySplits_92 rfl ?_
      exact ev_retL dX9_tallySplits_94 rfl h
    · refine ev_if_le_n 92 dX9_tallySplits_14 rfl c6 ?_
      refine ev_aload_nR 0 dX9_tallySplits_17 rfl ?_
      obtain ⟨g7, h⟩ := gd_some h
      obtain ⟨p8, e9, h⟩ := op_some h
      refine ev_getPR dX9_tallySplits_18 fl_X9_24 rfl g7 e9 ?_
      refine ev_iload_n 1 dX9_tallySplits_21 rfl ?_
      refine ev_iload 6 dX9_tallySplits_22 rfl ?_
      refine ev_iload 4 dX9_tallySplits_24 rfl ?_
      refine ev_iconst (v := 1) dX9_tallySplits_26 (by decide) ?_
      refine ev_isub dX9_tallySplits_27 ?_
      obtain ⟨g10, h⟩ := gd_some h
      obtain ⟨r13, σ11, e12, h⟩ := bd_some h
      refine ev_invVi (As := [.int (a1), .int (a7), .int (a4 - 1)]) (st := []) dX9_tallySplits_28 cb_X4_proves tp_863 tp_626 tp_627 kf4 rfl (by omega) g10 rfl rfl (Nat.le_of_ble_eq_true rfl) (x_X4_proves e12) ?_
      rcases it_some h with ⟨c14, h⟩ | ⟨c14, h⟩
      · refine ev_if_eq (tgt := 78) dX9_tallySplits_31 rfl c14 ?_
        refine ev_sub (ls' := [(0, .ref a0), (1, .int (a1)), (2, .int (a2)), (3, .int (a3)), (4, .int (a4)), (5, .long (a5)), (7, .int (a7)), (8, .int (a8))]) [0, 1, 2, 3, 4, 5, 6, 7] rfl ?_
        exact e_X9_tallySplits_78 hkg hk12 h
      · refine ev_if_eq_n 78 dX9_tallySplits_31 rfl c14 ?_
        refine ev_aload_nR 0 dX9_tallySplits_34 rfl ?_
        refine ev_iload_n 2 dX9_tallySplits_35 rfl ?_
        refine ev_iload_n 3 dX9_tallySplits_36 rfl ?_
        refine ev_iload 6 dX9_tallySplits_37 rfl ?_
        refine ev_ixor dX9_tallySplits_39 ?_
        refine ev_iload 4 dX9_tallySplits_40 rfl ?_
        refine ev_iconst (v := 1) dX9_tallySplits_42 (by decide) ?_
        refine ev_isub dX9_tallySplits_43 ?_
        obtain ⟨g15, h⟩ := gd_some h
        obtain ⟨r18, σ16, e17, h⟩ := bd_some h
        refine ev_invVl (As := [.int (a2), .int (a3 ^^^ a7), .int (a4 - 1)]) (st := []) dX9_tallySplits_44 cb_X9_tally tp_859 tp_861 tp_49 kf9 rfl (by omega) g15 rfl rfl (Nat.le_of_ble_eq_true rfl) (hkg e17) ?_
        refine ev_lstore (ls' := [(9, .long (r18)), (0, .ref a0), (1, .int (a1)), (2, .int (a2)), (3, .int (a3)), (4, .int (a4)), (5, .long (a5)), (7, .int (a7)), (8, .int (a8))]) dX9_tallySplits_47 (by decide) rfl ?_
        refine ev_lload 0 dX9_tallySplits_49 rfl ?_
        refine ev_lconst (v := 0) dX9_tallySplits_51 (by decide) ?_
        refine ev_lcmp dX9_tallySplits_52 ?_
        rcases it_some h with ⟨c19, h⟩ | ⟨c19, h⟩
        · refine ev_if_eq (tgt := 78) dX9_tallySplits_53 rfl c19 ?_
          refine ev_sub (ls' := [(0, .ref a0), (1, .int (a1)), (2, .int (a2)), (3, .int (a3)), (4, .int (a4)), (5, .long (a5)), (7, .int (a7)), (8, .int (a8))]) [1, 2, 3, 4, 5, 6, 7, 8] rfl ?_
          exact e_X9_tallySplits_78 hkg hk12 h
        · refine ev_if_eq_n 78 dX9_tallySplits_53 rfl c19 ?_
          refine ev_lload 6 dX9_tallySplits_56 rfl ?_
          refine ev_aload_nR 1 dX9_tallySplits_58 rfl ?_
          refine ev_iload_n 2 dX9_tallySplits_59 rfl ?_
          refine ev_iload 7 dX9_tallySplits_60 rfl ?_
          refine ev_iload 5 dX9_tallySplits_62 rfl ?_
          refine ev_iconst (v := 1) dX9_tallySplits_64 (by decide) ?_
          refine ev_isub dX9_tallySplits_65 ?_
          obtain ⟨g20, h⟩ := gd_some h
          obtain ⟨r23, σ21, e22, h⟩ := bd_some h
          refine ev_invVl (As := [.int (a1), .int (a7), .int (a4 - 1)]) (st := [.long (a5)]) dX9_tallySplits_66 cb_X9_tally tp_859 tp_861 tp_49 kf9 rfl (by omega) g20 rfl rfl (Nat.le_of_ble_eq_true rfl) (hkg e22) ?_
          refine ev_lload 0 dX9_tallySplits_69 rfl ?_
          refine ev_lmul dX9_tallySplits_71 ?_
          refine ev_ladd dX9_tallySplits_72 ?_
          obtain ⟨r26, σ24, e25, h⟩ := bd_some h
          refine ev_invSl (As := [.long (a5 + (r23 * r18))]) (st := []) dX9_tallySplits_73 cb_X9_capped tp_876 tp_877 (by omega) rfl rfl (Nat.le_of_ble_eq_true rfl) (x_X9_capped e25) ?_
          refine ev_lstore (ls' := [(5, .long (r26)), (9, .long (r18)), (0, .ref a0), (1, .int (a1)), (2, .int (a2)), (3, .int (a3)), (4, .int (a4)), (7, .int (a7)), (8, .int (a8))]) dX9_tallySplits_76 (by decide) rfl ?_
          refine ev_sub (ls' := [(0, .ref a0), (1, .int (a1)), (2, .int (a2)), (3, .int (a3)), (4, .int (a4)), (5, .long (r26)), (7, .int (a7)), (8, .int (a8))]) [2, 3, 4, 5, 6, 0, 7, 8] rfl ?_
          exact e_X9_tallySplits_78 hkg hk12 h
def s_X9_tallySplits (kg : Nat → Int32 → Int32 → Int32 → St → Option (Int64 × St)) (a0 : Nat) (a1 : Int32) (a2 : Int32) (a3 : Int32) (a4 : Int32) (σ : St) : Option (Int64 × St) :=
 bd (s_X10_partsOf a3 σ) fun r29 σ27 =>
 s_X9_tallySplits_12 kg 16000 a0 a1 a2 a3 a4 0 0 r29 σ27
set_option maxHeartbeats 4000000 in
set_option maxRecDepth 100000 in
theorem x_X9_tallySplits {kg : Nat → Int32 → Int32 → Int32 → St → Option (Int64 × St)} {dk : Nat} (hkg : ∀ {x0 : Nat} {x1 : Int32} {x2 : Int32} {x3 : Int32} {σ : St} {r : Int64} {σ' : St}, kg x0 x1 x2 x3 σ = some (r, σ') → Ex M_X9_tally dk [.ref x0, .int (x1), .int (x2), .int (x3)] σ (some (.long r)) σ') {a0 : Nat} {a1 : Int32} {a2 : Int32} {a3 : Int32} {a4 : Int32} {σ : St} {r : Int64} {σ' : St} (h : s_X9_tallySplits kg a0 a1 a2 a3 a4 σ = some (r, σ')) : Ex M_X9_tallySplits (dk + 4) [.ref a0, .int (a1), .int (a2), .int (a3), .int (a4)] σ (some (.long r)) σ' := by
  unfold s_X9_tallySplits at h
  refine ex_of (by decide) rfl (Nat.le_of_ble_eq_true rfl) ?_
  show Ev _ _ 0 [(0, .ref a0), (1, .int (a1)), (2, .int (a2)), (3, .int (a3)), (4, .int (a4))] [] _ _ _
  refine ev_lconst (v := 0) dX9_tallySplits_0 (by decide) ?_
  refine ev_lstore (ls' := [(5, .long (0)), (0, .ref a0), (1, .int (a1)), (2, .int (a2)), (3, .int (a3)), (4, .int (a4))]) dX9_tallySplits_1 (by decide) rfl ?_
  refine ev_iconst (v := 0) dX9_tallySplits_3 (by decide) ?_
  refine ev_istore (ls' := [(7, .int (0)), (5, .long (0)), (0, .ref a0), (1, .int (a1)), (2, .int (a2)), (3, .int (a3)), (4, .int (a4))]) dX9_tallySplits_4 (by decide) rfl ?_
  refine ev_iload_n 5 dX9_tallySplits_6 rfl ?_
  obtain ⟨r29, σ27, e28, h⟩ := bd_some h
  refine ev_invSNi (As := [.int (a3)]) (st := []) dX9_tallySplits_7 cb_X10_partsOf nl_X9_75 tp_669 (by omega) rfl rfl (Nat.le_of_ble_eq_true rfl) (x_X10_partsOf e28) ?_
  refine ev_istore (ls' := [(8, .int (r29)), (7, .int (0)), (5, .long (0)), (0, .ref a0), (1, .int (a1)), (2, .int (a2)), (3, .int (a3)), (4, .int (a4))]) dX9_tallySplits_10 (by decide) rfl ?_
  refine ev_sub (ls' := [(0, .ref a0), (1, .int (a1)), (2, .int (a2)), (3, .int (a3)), (4, .int (a4)), (5, .long (0)), (7, .int (0)), (8, .int (r29))]) [3, 4, 5, 6, 7, 2, 1, 0] rfl ?_
  exact e_X9_tallySplits_12 hkg 16000 h
def s_X9_tallyFace (kg : Nat → Int32 → Int32 → Int32 → St → Option (Int64 × St)) (a0 : Nat) (a1 : Int32) (a2 : Int32) (a3 : Int32) (σ : St) : Option (Int64 × St) :=
 if a1 = ((-1)) then (if a2 = 0 then (some (1, σ)) else (some (0, σ))) else (if isO σ 9 a0 = true then (bd (kg a0 a1 a2 (a3 - 1) σ) fun r5 σ3 =>
 some (r5, σ3)) else none)
set_option maxHeartbeats 4000000 in
set_option maxRecDepth 100000 in
theorem x_X9_tallyFace {kg : Nat → Int32 → Int32 → Int32 → St → Option (Int64 × St)} {dk : Nat} (hkg : ∀ {x0 : Nat} {x1 : Int32} {x2 : Int32} {x3 : Int32} {σ : St} {r : Int64} {σ' : St}, kg x0 x1 x2 x3 σ = some (r, σ') → Ex M_X9_tally dk [.ref x0, .int (x1), .int (x2), .int (x3)] σ (some (.long r)) σ') {a0 : Nat} {a1 : Int32} {a2 : Int32} {a3 : Int32} {σ : St} {r : Int64} {σ' : St} (h : s_X9_tallyFace kg a0 a1 a2 a3 σ = some (r, σ')) : Ex M_X9_tallyFace (dk + 1) [.ref a0, .int (a1), .int (a2), .int (a3)] σ (some (.long r)) σ' := by
  unfold s_X9_tallyFace at h
  refine ex_of (by decide) rfl (Nat.le_of_ble_eq_true rfl) ?_
  show Ev _ _ 0 [(0, .ref a0), (1, .int (a1)), (2, .int (a2)), (3, .int (a3))] [] _ _ _
  refine ev_iload_n 1 dX9_tallyFace_0 rfl ?_
  refine ev_iconst (v := (-1)) dX9_tallyFace_1 (by decide) ?_
  rcases it_some h with ⟨c1, h⟩ | ⟨c1, h⟩
  · refine ev_icmp_ne_n 15 dX9_tallyFace_2 rfl c1 ?_
    refine ev_iload_n 2 dX9_tallyFace_5 rfl ?_
    rcases it_some h with ⟨c6, h⟩ | ⟨c6, h⟩
    · refine ev_if_ne_n 13 dX9_tallyFace_6 rfl c6 ?_
      refine ev_lconst (v := 1) dX9_tallyFace_9 (by decide) ?_
      refine ev_goto (tgt := 14) dX9_tallyFace_10 rfl ?_
      exact ev_retL dX9_tallyFace_14 rfl h
    · refine ev_if_ne (tgt := 13) dX9_tallyFace_6 rfl c6 ?_
      refine ev_lconst (v := 0) dX9_tallyFace_13 (by decide) ?_
      exact ev_retL dX9_tallyFace_14 rfl h
  · refine ev_icmp_ne (tgt := 15) dX9_tallyFace_2 rfl c1 ?_
    refine ev_aload_nR 0 dX9_tallyFace_15 rfl ?_
    refine ev_iload_n 1 dX9_tallyFace_16 rfl ?_
    refine ev_iload_n 2 dX9_tallyFace_17 rfl ?_
    refine ev_iload_n 3 dX9_tallyFace_18 rfl ?_
    refine ev_iconst (v := 1) dX9_tallyFace_19 (by decide) ?_
    refine ev_isub dX9_tallyFace_20 ?_
    obtain ⟨g2, h⟩ := gd_some h
    obtain ⟨r5, σ3, e4, h⟩ := bd_some h
    refine ev_invVl (As := [.int (a1), .int (a2), .int (a3 - 1)]) (st := []) dX9_tallyFace_21 cb_X9_tally tp_859 tp_861 tp_49 kf9 rfl (by omega) g2 rfl rfl (Nat.le_of_ble_eq_true rfl) (hkg e4) ?_
    exact ev_retL dX9_tallyFace_24 rfl h
def sb_X9_tallyAtom_24 (kg : Nat → Int32 → Int32 → Int32 → St → Option (Int64 × St)) (k6 : Nat → Int32 → Int32 → Int32 → Int64 → Int32 → St → Option (Int64 × St)) (k24 : Nat → Int32 → Int32 → Int32 → Int64 → Int32 → Int32 → Int32 → St → Option (Int64 × St)) (a0 : Nat) (a1 : Int32) (a2 : Int32) (a3 : Int32) (a4 : Int64) (a6 : Int32) (a7 : Int32) (a8 : Int32) (σ : St) : Option (Int64 × St) :=
 if (3 : Int32) ≤ a8 then (lt (a6 + 1 : Int32) fun v2 =>
 k6 a0 a1 a2 a3 a4 v2 σ) else (if a7 = ((-1)) then (lt (a6 + 1 : Int32) fun v5 =>
 k6 a0 a1 a2 a3 a4 v5 σ) else (if isO σ 9 a0 = true then (op (sP σ a0 0) fun p8 =>
 if isO σ 3 p8 = true then (bd (s_X3_hasHead p8 a6 a8 a1 σ) fun r13 σ11 =>
 if r13 = 0 then (lt (a8 + 1 : Int32) fun v15 =>
 k24 a0 a1 a2 a3 a4 a6 a7 v15 σ11) else (if isO σ11 9 a0 = true then (op (sP σ11 a0 0) fun p18 =>
 if isO σ11 3 p18 = true then (bd (s_X3_body p18 a6 a8 σ11) fun r23 σ21 =>
 if isO σ21 9 a0 = true then (bd (s_X9_tallyFace kg a0 r23 a7 a3 σ21) fun r27 σ25 =>
 bd (s_X9_capped (a4 + r27) σ25) fun r30 σ28 =>
 lt (a8 + 1 : Int32) fun v31 =>
 k24 a0 a1 a2 a3 r30 a6 a7 v31 σ28) else none) else none) else none)) else none) else none))
def s_X9_tallyAtom_24 (kg : Nat → Int32 → Int32 → Int32 → St → Option (Int64 × St)) (k6 : Nat → Int32 → Int32 → Int32 → Int64 → Int32 → St → Option (Int64 × St)) (F : Nat) : Nat → Int32 → Int32 → Int32 → Int64 → Int32 → Int32 → Int32 → St → Option (Int64 × St) := lp (fun _ _ _ _ _ _ _ _ _ => none) (sb_X9_tallyAtom_24 kg k6) F
set_option maxHeartbeats 4000000 in
set_option maxRecDepth 100000 in
theorem e_X9_tallyAtom_24 {kg : Nat → Int32 → Int32 → Int32 → St → Option (Int64 × St)} {dk : Nat} (hkg : ∀ {x0 : Nat} {x1 : Int32} {x2 : Int32} {x3 : Int32} {σ : St} {r : Int64} {σ' : St}, kg x0 x1 x2 x3 σ = some (r, σ') → Ex M_X9_tally dk [.ref x0, .int (x1), .int (x2), .int (x3)] σ (some (.long r)) σ') {r : Int64} {σ' : St} {k6 : Nat → Int32 → Int32 → Int32 → Int64 → Int32 → St → Option (Int64 × St)} (hk6 : ∀ {y0 : Nat} {y1 : Int32} {y2 : Int32} {y3 : Int32} {y4 : Int64} {y5 : Int32} {σ : St}, k6 y0 y1 y2 y3 y4 y5 σ = some (r, σ') → Ev M_X9_tallyAtom (dk + 3) 6 [(0, .ref y0), (1, .int (y1)), (2, .int (y2)), (3, .int (y3)), (4, .long (y4)), (6, .int (y5))] [] σ (some (.long r)) σ') (F : Nat) : ∀ {a0 : Nat} {a1 : Int32} {a2 : Int32} {a3 : Int32} {a4 : Int64} {a6 : Int32} {a7 : Int32} {a8 : Int32} {σ : St}, s_X9_tallyAtom_24 kg k6 F a0 a1 a2 a3 a4 a6 a7 a8 σ = some (r, σ') → Ev M_X9_tallyAtom (dk + 3) 24 [(0, .ref a0), (1, .int (a1)), (2, .int (a2)), (3, .int (a3)), (4, .long (a4)), (6, .int (a6)), (7, .int (a7)), (8, .int (a8))] [] σ (some (.long r)) σ' := by
  induction F with
  | zero => intro a0 a1 a2 a3 a4 a6 a7 a8 σ h; cases h
  | succ F ih =>
    intro a0 a1 a2 a3 a4 a6 a7 a8 σ h
    change sb_X9_tallyAtom_24 kg k6 (s_X9_tallyAtom_24 kg k6 F) a0 a1 a2 a3 a4 a6 a7 a8 σ = some (r, σ') at h
    unfold sb_X9_tallyAtom_24 at h
    have hk24 := @ih
    refine ev_iload 7 dX9_tallyAtom_24 rfl ?_
    refine ev_iconst (v := 3) dX9_tallyAtom_26 (by decide) ?_
    rcases it_some h with ⟨c1, h⟩ | ⟨c1, h⟩
    · refine ev_icmp_ge (tgt := 83) dX9_tallyAtom_27 rfl c1 ?_
      obtain ⟨v2, e3, h⟩ := lt_some h
      refine ev_iinc (v := v2) (ls' := [(6, .int (v2)), (0, .ref a0), (1, .int (a1)), (2, .int (a2)), (3, .int (a3)), (4, .long (a4)), (7, .int (a7)), (8, .int (a8))]) 5 dX9_tallyAtom_83 rfl e3.symm (by decide) rfl ?_
      refine ev_goto (tgt := 6) dX9_tallyAtom_86 rfl ?_
      refine ev_sub (ls' := [(0, .ref a0), (1, .int (a1)), (2, .int (a2)), (3, .int (a3)), (4, .long (a4)), (6, .int (v2))]) [1, 2, 3, 4, 5, 0] rfl ?_
      exact hk6 h
    · refine ev_icmp_ge_n 83 dX9_tallyAtom_27 rfl c1 ?_
      refine ev_iload 6 dX9_tallyAtom_30 rfl ?_
      refine ev_iconst (v := (-1)) dX9_tallyAtom_32 (by decide) ?_
      rcases it_some h with ⟨c4, h⟩ | ⟨c4, h⟩
      · refine ev_icmp_eq (tgt := 83) dX9_tallyAtom_33 rfl c4 ?_
        obtain ⟨v5, e6, h⟩ := lt_some h
        refine ev_iinc (v := v5) (ls' := [(6, .int (v5)), (0, .ref a0), (1, .int (a1)), (2, .int (a2)), (3, .int (a3)), (4, .long (a4)), (7, .int (a7)), (8, .int (a8))]) 5 dX9_tallyAtom_83 rfl e6.symm (by decide) rfl ?_
        refine ev_goto (tgt := 6) dX9_tallyAtom_86 rfl ?_
        refine ev_sub (ls' := [(0, .ref a0), (1, .int (a1)), (2, .int (a2)), (3, .int (a3)), (4, .long (a4)), (6, .int (v5))]) [1, 2, 3, 4, 5, 0] rfl ?_
        exact hk6 h
      · refine ev_icmp_eq_n 83 dX9_tallyAtom_33 rfl c4 ?_
        refine ev_aload_nR 0 dX9_tallyAtom_36 rfl ?_
        obtain ⟨g7, h⟩ := gd_some h
        obtain ⟨p8, e9, h⟩ := op_some h
        refine ev_getPR dX9_tallyAtom_37 fl_X9_20 rfl g7 e9 ?_
        refine ev_iload 5 dX9_tallyAtom_40 rfl ?_
        refine ev_iload 7 dX9_tallyAtom_42 rfl ?_
        refine ev_iload_n 1 dX9_tallyAtom_44 rfl ?_
        obtain ⟨g10, h⟩ := gd_some h
        obtain ⟨r13, σ11, e12, h⟩ := bd_some h
        refine ev_invVi (As := [.int (a6), .int (a8), .int (a1)]) (st := []) dX9_tallyAtom_45 cb_X3_hasHead tp_890 tp_598 tp_599 kf3 rfl (by omega) g10 rfl rfl (Nat.le_of_ble_eq_true rfl) (x_X3_hasHead e12) ?_
        rcases it_some h with ⟨c14, h⟩ | ⟨c14, h⟩
        · refine ev_if_eq (tgt := 77) dX9_tallyAtom_48 rfl c14 ?_
          obtain ⟨v15, e16, h⟩ := lt_some h
          refine ev_iinc (v := v15) (ls' := [(8, .int (v15)), (0, .ref a0), (1, .int (a1)), (2, .int (a2)), (3, .int (a3)), (4, .long (a4)), (6, .int (a6)), (7, .int (a7))]) 7 dX9_tallyAtom_77 rfl e16.symm (by decide) rfl ?_
          refine ev_goto (tgt := 24) dX9_tallyAtom_80 rfl ?_
          refine ev_sub (ls' := [(0, .ref a0), (1, .int (a1)), (2, .int (a2)), (3, .int (a3)), (4, .long (a4)), (6, .int (a6)), (7, .int (a7)), (8, .int (v15))]) [1, 2, 3, 4, 5, 6, 7, 0] rfl ?_
          exact hk24 h
        · refine ev_if_eq_n 77 dX9_tallyAtom_48 rfl c14 ?_
          refine ev_lload 4 dX9_tallyAtom_51 rfl ?_
          refine ev_aload_nR 0 dX9_tallyAtom_53 rfl ?_
          refine ev_aload_nR 0 dX9_tallyAtom_54 rfl ?_
          obtain ⟨g17, h⟩ := gd_some h
          obtain ⟨p18, e19, h⟩ := op_some h
          refine ev_getPR dX9_tallyAtom_55 fl_X9_20 rfl g17 e19 ?_
          refine ev_iload 5 dX9_tallyAtom_58 rfl ?_
          refine ev_iload 7 dX9_tallyAtom_60 rfl ?_
          obtain ⟨g20, h⟩ := gd_some h
          obtain ⟨r23, σ21, e22, h⟩ := bd_some h
          refine ev_invVi (As := [.int (a6), .int (a8)]) (st := [.ref a0, .long (a4)]) dX9_tallyAtom_62 cb_X3_body tp_891 tp_602 tp_603 kf3 rfl (by omega) g20 rfl rfl (Nat.le_of_ble_eq_true rfl) (x_X3_body e22) ?_
          refine ev_iload 6 dX9_tallyAtom_65 rfl ?_
          refine ev_iload_n 3 dX9_tallyAtom_67 rfl ?_
          obtain ⟨g24, h⟩ := gd_some h
          obtain ⟨r27, σ25, e26, h⟩ := bd_some h
          refine ev_invVl (As := [.int (r23), .int (a7), .int (a3)]) (st := [.long (a4)]) dX9_tallyAtom_68 cb_X9_tallyFace tp_892 tp_894 tp_53 kf9 rfl (by omega) g24 rfl rfl (Nat.le_of_ble_eq_true rfl) (x_X9_tallyFace hkg e26) ?_
          refine ev_ladd dX9_tallyAtom_71 ?_
          obtain ⟨r30, σ28, e29, h⟩ := bd_some h
          refine ev_invSl (As := [.long (a4 + r27)]) (st := []) dX9_tallyAtom_72 cb_X9_capped tp_876 tp_877 (by omega) rfl rfl (Nat.le_of_ble_eq_true rfl) (x_X9_capped e29) ?_
          refine ev_lstore (ls' := [(4, .long (r30)), (0, .ref a0), (1, .int (a1)), (2, .int (a2)), (3, .int (a3)), (6, .int (a6)), (7, .int (a7)), (8, .int (a8))]) dX9_tallyAtom_75 (by decide) rfl ?_
          obtain ⟨v31, e32, h⟩ := lt_some h
          refine ev_iinc (v := v31) (ls' := [(8, .int (v31)), (4, .long (r30)), (0, .ref a0), (1, .int (a1)), (2, .int (a2)), (3, .int (a3)), (6, .int (a6)), (7, .int (a7))]) 7 dX9_tallyAtom_77 rfl e32.symm (by decide) rfl ?_
          refine ev_goto (tgt := 24) dX9_tallyAtom_80 rfl ?_
          refine ev_sub (ls' := [(0, .ref a0), (1, .int (a1)), (2, .int (a2)), (3, .int (a3)), (4, .long (r30)), (6, .int (a6)), (7, .int (a7)), (8, .int (v31))]) [2, 3, 4, 5, 1, 6, 7, 0] rfl ?_
          exact hk24 h
def sb_X9_tallyAtom_6 (kg : Nat → Int32 → Int32 → Int32 → St → Option (Int64 × St)) (k6 : Nat → Int32 → Int32 → Int32 → Int64 → Int32 → St → Option (Int64 × St)) (a0 : Nat) (a1 : Int32) (a2 : Int32) (a3 : Int32) (a4 : Int64) (a6 : Int32) (σ : St) : Option (Int64 × St) :=
 if (12 : Int32) ≤ a6 then (some (a4, σ)) else (bd (s_X3_afterUse a6 a2 σ) fun r36 σ34 =>
 s_X9_tallyAtom_24 kg k6 16000 a0 a1 a2 a3 a4 a6 r36 0 σ34)
def s_X9_tallyAtom_6 (kg : Nat → Int32 → Int32 → Int32 → St → Option (Int64 × St)) (F : Nat) : Nat → Int32 → Int32 → Int32 → Int64 → Int32 → St → Option (Int64 × St) := lp (fun _ _ _ _ _ _ _ => none) (sb_X9_tallyAtom_6 kg) F
set_option maxHeartbeats 4000000 in
set_option maxRecDepth 100000 in
theorem e_X9_tallyAtom_6 {kg : Nat → Int32 → Int32 → Int32 → St → Option (Int64 × St)} {dk : Nat} (hkg : ∀ {x0 : Nat} {x1 : Int32} {x2 : Int32} {x3 : Int32} {σ : St} {r : Int64} {σ' : St}, kg x0 x1 x2 x3 σ = some (r, σ') → Ex M_X9_tally dk [.ref x0, .int (x1), .int (x2), .int (x3)] σ (some (.long r)) σ') {r : Int64} {σ' : St} (F : Nat) : ∀ {a0 : Nat} {a1 : Int32} {a2 : Int32} {a3 : Int32} {a4 : Int64} {a6 : Int32} {σ : St}, s_X9_tallyAtom_6 kg F a0 a1 a2 a3 a4 a6 σ = some (r, σ') → Ev M_X9_tallyAtom (dk + 3) 6 [(0, .ref a0), (1, .int (a1)), (2, .int (a2)), (3, .int (a3)), (4, .long (a4)), (6, .int (a6))] [] σ (some (.long r)) σ' := by
  induction F with
  | zero => intro a0 a1 a2 a3 a4 a6 σ h; cases h
  | succ F ih =>
    intro a0 a1 a2 a3 a4 a6 σ h
    change sb_X9_tallyAtom_6 kg (s_X9_tallyAtom_6 kg F) a0 a1 a2 a3 a4 a6 σ = some (r, σ') at h
    unfold sb_X9_tallyAtom_6 at h
    have hk6 := @ih
    refine ev_iload 5 dX9_tallyAtom_6 rfl ?_
    refine ev_bipush (v := 12) dX9_tallyAtom_8 (by decide) ?_
    rcases it_some h with ⟨c33, h⟩ | ⟨c33, h⟩
    · refine ev_icmp_ge (tgt := 89) dX9_tallyAtom_10 rfl c33 ?_
      refine ev_lload 4 dX9_tallyAtom_89 rfl ?_
      exact ev_retL dX9_tallyAtom_91 rfl h
    · refine ev_icmp_ge_n 89 dX9_tallyAtom_10 rfl c33 ?_
      refine ev_iload 5 dX9_tallyAtom_13 rfl ?_
      refine ev_iload_n 2 dX9_tallyAtom_15 rfl ?_
      obtain ⟨r36, σ34, e35, h⟩ := bd_some h
      refine ev_invSi (As := [.int (a6), .int (a2)]) (st := []) dX9_tallyAtom_16 cb_X3_afterUse tp_889 tp_689 (by omega) rfl rfl (Nat.le_of_ble_eq_true rfl) (x_X3_afterUse e35) ?_
      refine ev_istore (ls' := [(7, .int (r36)), (0, .ref a0), (1, .int (a1)), (2, .int (a2)), (3, .int (a3)), (4, .long (a4)), (6, .int (a6))]) dX9_tallyAtom_19 (by decide) rfl ?_
      refine ev_iconst (v := 0) dX9_tallyAtom_21 (by decide) ?_
      refine ev_istore (ls' := [(8, .int (0)), (7, .int (r36)), (0, .ref a0), (1, .int (a1)), (2, .int (a2)), (3, .int (a3)), (4, .long (a4)), (6, .int (a6))]) dX9_tallyAtom_22 (by decide) rfl ?_
      refine ev_sub (ls' := [(0, .ref a0), (1, .int (a1)), (2, .int (a2)), (3, .int (a3)), (4, .long (a4)), (6, .int (a6)), (7, .int (r36)), (8, .int (0))]) [2, 3, 4, 5, 6, 7, 1, 0] rfl ?_
      exact e_X9_tallyAtom_24 hkg hk6 16000 h
def s_X9_tallyAtom (kg : Nat → Int32 → Int32 → Int32 → St → Option (Int64 × St)) (a0 : Nat) (a1 : Int32) (a2 : Int32) (a3 : Int32) (σ : St) : Option (Int64 × St) :=
 s_X9_tallyAtom_6 kg 16000 a0 a1 a2 a3 0 0 σ
set_option maxHeartbeats 4000000 in
set_option maxRecDepth 100000 in
theorem x_X9_tallyAtom {kg : Nat → Int32 → Int32 → Int32 → St → Option (Int64 × St)} {dk : Nat} (hkg : ∀ {x0 : Nat} {x1 : Int32} {x2 : Int32} {x3 : Int32} {σ : St} {r : Int64} {σ' : St}, kg x0 x1 x2 x3 σ = some (r, σ') → Ex M_X9_tally dk [.ref x0, .int (x1), .int (x2), .int (x3)] σ (some (.long r)) σ') {a0 : Nat} {a1 : Int32} {a2 : Int32} {a3 : Int32} {σ : St} {r : Int64} {σ' : St} (h : s_X9_tallyAtom kg a0 a1 a2 a3 σ = some (r, σ')) : Ex M_X9_tallyAtom (dk + 3) [.ref a0, .int (a1), .int (a2), .int (a3)] σ (some (.long r)) σ' := by
  unfold s_X9_tallyAtom at h
  refine ex_of (by decide) rfl (Nat.le_of_ble_eq_true rfl) ?_
  show Ev _ _ 0 [(0, .ref a0), (1, .int (a1)), (2, .int (a2)), (3, .int (a3))] [] _ _ _
  refine ev_lconst (v := 0) dX9_tallyAtom_0 (by decide) ?_
  refine ev_lstore (ls' := [(4, .long (0)), (0, .ref a0), (1, .int (a1)), (2, .int (a2)), (3, .int (a3))]) dX9_tallyAtom_1 (by decide) rfl ?_
  refine ev_iconst (v := 0) dX9_tallyAtom_3 (by decide) ?_
  refine ev_istore (ls' := [(6, .int (0)), (4, .long (0)), (0, .ref a0), (1, .int (a1)), (2, .int (a2)), (3, .int (a3))]) dX9_tallyAtom_4 (by decide) rfl ?_
  refine ev_sub (ls' := [(0, .ref a0), (1, .int (a1)), (2, .int (a2)), (3, .int (a3)), (4, .long (0)), (6, .int (0))]) [2, 3, 4, 5, 1, 0] rfl ?_
  exact e_X9_tallyAtom_6 hkg 16000 h
def s_X9_tallyByKind (kg : Nat → Int32 → Int32 → Int32 → St → Option (Int64 × St)) (a0 : Nat) (a1 : Int32) (a2 : Int32) (a3 : Int32) (σ : St) : Option (Int64 × St) :=
 if isO σ 9 a0 = true then (op (sP σ a0 0) fun p2 =>
 if isO σ 3 p2 = true then (bd (s_X3_first p2 a1 σ) fun r7 σ5 =>
 if isO σ5 9 a0 = true then (op (sP σ5 a0 0) fun p9 =>
 if isO σ5 3 p9 = true then (bd (s_X3_second p9 a1 σ5) fun r14 σ12 =>
 if isO σ12 9 a0 = true then (op (sP σ12 a0 0) fun p16 =>
 if isO σ12 3 p16 = true then (bd (s_X3_kind p16 a1 σ12) fun r21 σ19 =>
 if r21 = 33 then (if isO σ19 9 a0 = true then (bd (kg a0 r7 a2 (a3 - 1) σ19) fun r26 σ24 =>
 some (r26, σ24)) else none) else (if r21 = 38 then (if isO σ19 9 a0 = true then (bd (kg a0 r7 a2 (a3 - 1) σ19) fun r31 σ29 =>
 if isO σ29 9 a0 = true then (bd (kg a0 r14 a2 (a3 - 1) σ29) fun r35 σ33 =>
 bd (s_X9_capped (r31 * r35) σ33) fun r38 σ36 =>
 some (r38, σ36)) else none) else none) else (if r21 = 42 then (if isO σ19 9 a0 = true then (bd (s_X9_tallySplits kg a0 r7 r14 a2 a3 σ19) fun r43 σ41 =>
 some (r43, σ41)) else none) else (if r21 = 43 then (if isO σ19 9 a0 = true then (bd (kg a0 r7 a2 (a3 - 1) σ19) fun r48 σ46 =>
 if isO σ46 9 a0 = true then (bd (kg a0 r14 a2 (a3 - 1) σ46) fun r52 σ50 =>
 bd (s_X9_capped (r48 + r52) σ50) fun r55 σ53 =>
 some (r55, σ53)) else none) else none) else (if r21 = 49 then (some (1, σ19)) else (if r21 = 84 then (some (1, σ19)) else (if r21 = 91 then (if isO σ19 9 a0 = true then (op (sP σ19 a0 0) fun p60 =>
 if isO σ19 3 p60 = true then (bd (s_X3_loanBit p60 a1 σ19) fun r65 σ63 =>
 if isO σ63 9 a0 = true then (bd (kg a0 r7 (a2 ||| r65) (a3 - 1) σ63) fun r69 σ67 =>
 some (r69, σ67)) else none) else none) else none) else (if isO σ19 9 a0 = true then (bd (s_X9_tallyAtom kg a0 r21 a2 a3 σ19) fun r73 σ71 =>
 some (r73, σ71)) else none)))))))) else none) else none) else none) else none) else none) else none
set_option maxHeartbeats 4000000 in
set_option maxRecDepth 100000 in
theorem x_X9_tallyByKind {kg : Nat → Int32 → Int32 → Int32 → St → Option (Int64 × St)} {dk : Nat} (hkg : ∀ {x0 : Nat} {x1 : Int32} {x2 : Int32} {x3 : Int32} {σ : St} {r : Int64} {σ' : St}, kg x0 x1 x2 x3 σ = some (r, σ') → Ex M_X9_tally dk [.ref x0, .int (x1), .int (x2), .int (x3)] σ (some (.long r)) σ') {a0 : Nat} {a1 : Int32} {a2 : Int32} {a3 : Int32} {σ : St} {r : Int64} {σ' : St} (h : s_X9_tallyByKind kg a0 a1 a2 a3 σ = some (r, σ')) : Ex M_X9_tallyByKind (dk + 5) [.ref a0, .int (a1), .int (a2), .int (a3)] σ (some (.long r)) σ' := by
  unfold s_X9_tallyByKind at h
  refine ex_of (by decide) rfl (Nat.le_of_ble_eq_true rfl) ?_
  show Ev _ _ 0 [(0, .ref a0), (1, .int (a1)), (2, .int (a2)), (3, .int (a3))] [] _ _ _
  refine ev_aload_nR 0 dX9_tallyByKind_0 rfl ?_
  obtain ⟨g1, h⟩ := gd_some h
  obtain ⟨p2, e3, h⟩ := op_some h
  refine ev_getPR dX9_tallyByKind_1 fl_X9_20 rfl g1 e3 ?_
  refine ev_iload_n 1 dX9_tallyByKind_4 rfl ?_
  obtain ⟨g4, h⟩ := gd_some h
  obtain ⟨r7, σ5, e6, h⟩ := bd_some h
  refine ev_invVi (As := [.int (a1)]) (st := []) dX9_tallyByKind_5 cb_X3_first tp_868 tp_533 tp_534 kf3 rfl (by omega) g4 rfl rfl (Nat.le_of_ble_eq_true rfl) (x_X3_first e6) ?_
  refine ev_istore (ls' := [(4, .int (r7)), (0, .ref a0), (1, .int (a1)), (2, .int (a2)), (3, .int (a3))]) dX9_tallyByKind_8 (by decide) rfl ?_
  refine ev_aload_nR 1 dX9_tallyByKind_10 rfl ?_
  obtain ⟨g8, h⟩ := gd_some h
  obtain ⟨p9, e10, h⟩ := op_some h
  refine ev_getPR dX9_tallyByKind_11 fl_X9_20 rfl g8 e10 ?_
  refine ev_iload_n 2 dX9_tallyByKind_14 rfl ?_
  obtain ⟨g11, h⟩ := gd_some h
  obtain ⟨r14, σ12, e13, h⟩ := bd_some h
  refine ev_invVi (As := [.int (a1)]) (st := []) dX9_tallyByKind_15 cb_X3_second tp_869 tp_541 tp_542 kf3 rfl (by omega) g11 rfl rfl (Nat.le_of_ble_eq_true rfl) (x_X3_second e13) ?_
  refine ev_istore (ls' := [(5, .int (r14)), (4, .int (r7)), (0, .ref a0), (1, .int (a1)), (2, .int (a2)), (3, .int (a3))]) dX9_tallyByKind_18 (by decide) rfl ?_
  refine ev_aload_nR 2 dX9_tallyByKind_20 rfl ?_
  obtain ⟨g15, h⟩ := gd_some h
  obtain ⟨p16, e17, h⟩ := op_some h
  refine ev_getPR dX9_tallyByKind_21 fl_X9_20 rfl g15 e17 ?_
  refine ev_iload_n 3 dX9_tallyByKind_24 rfl ?_
  obtain ⟨g18, h⟩ := gd_some h
  obtain ⟨r21, σ19, e20, h⟩ := bd_some h
  refine ev_invVi (As := [.int (a1)]) (st := []) dX9_tallyByKind_25 cb_X3_kind tp_870 tp_549 tp_550 kf3 rfl (by omega) g18 rfl rfl (Nat.le_of_ble_eq_true rfl) (x_X3_kind e20) ?_
  refine ev_istore (ls' := [(6, .int (r21)), (5, .int (r14)), (4, .int (r7)), (0, .ref a0), (1, .int (a1)), (2, .int (a2)), (3, .int (a3))]) dX9_tallyByKind_28 (by decide) rfl ?_
  refine ev_iload 0 dX9_tallyByKind_30 rfl ?_
  rcases it_some h with ⟨c22, h⟩ | ⟨c22, h⟩
  · refine ev_lookup (off := 70) (tgt := 102) dX9_tallyByKind_32 (by decide) (by rw [c22]; decide) rfl ?_
    refine ev_aload_nR 3 dX9_tallyByKind_102 rfl ?_
    refine ev_iload 2 dX9_tallyByKind_103 rfl ?_
    refine ev_iload_n 5 dX9_tallyByKind_105 rfl ?_
    refine ev_iload_n 6 dX9_tallyByKind_106 rfl ?_
    refine ev_iconst (v := 1) dX9_tallyByKind_107 (by decide) ?_
    refine ev_isub dX9_tallyByKind_108 ?_
    obtain ⟨g23, h⟩ := gd_some h
    obtain ⟨r26, σ24, e25, h⟩ := bd_some h
    refine ev_invVl (As := [.int (r7), .int (a2), .int (a3 - 1)]) (st := []) dX9_tallyByKind_109 cb_X9_tally tp_859 tp_861 tp_49 kf9 rfl (by omega) g23 rfl rfl (Nat.le_of_ble_eq_true rfl) (hkg e25) ?_
    exact ev_retL dX9_tallyByKind_112 rfl h
  rcases it_some h with ⟨c27, h⟩ | ⟨c27, h⟩
  · refine ev_lookup (off := 92) (tgt := 124) dX9_tallyByKind_32 (by decide) (by rw [c27]; decide) rfl ?_
    refine ev_aload_nR 3 dX9_tallyByKind_124 rfl ?_
    refine ev_iload 2 dX9_tallyByKind_125 rfl ?_
    refine ev_iload_n 5 dX9_tallyByKind_127 rfl ?_
    refine ev_iload_n 6 dX9_tallyByKind_128 rfl ?_
    refine ev_iconst (v := 1) dX9_tallyByKind_129 (by decide) ?_
    refine ev_isub dX9_tallyByKind_130 ?_
    obtain ⟨g28, h⟩ := gd_some h
    obtain ⟨r31, σ29, e30, h⟩ := bd_some h
    refine ev_invVl (As := [.int (r7), .int (a2), .int (a3 - 1)]) (st := []) dX9_tallyByKind_131 cb_X9_tally tp_859 tp_861 tp_49 kf9 rfl (by omega) g28 rfl rfl (Nat.le_of_ble_eq_true rfl) (hkg e30) ?_
    refine ev_aload_nR 3 dX9_tallyByKind_134 rfl ?_
    refine ev_iload 1 dX9_tallyByKind_135 rfl ?_
    refine ev_iload_n 5 dX9_tallyByKind_137 rfl ?_
    refine ev_iload_n 6 dX9_tallyByKind_138 rfl ?_
    refine ev_iconst (v := 1) dX9_tallyByKind_139 (by decide) ?_
    refine ev_isub dX9_tallyByKind_140 ?_
    obtain ⟨g32, h⟩ := gd_some h
    obtain ⟨r35, σ33, e34, h⟩ := bd_some h
    refine ev_invVl (As := [.int (r14), .int (a2), .int (a3 - 1)]) (st := [.long (r31)]) dX9_tallyByKind_141 cb_X9_tally tp_859 tp_861 tp_49 kf9 rfl (by omega) g32 rfl rfl (Nat.le_of_ble_eq_true rfl) (hkg e34) ?_
    refine ev_lmul dX9_tallyByKind_144 ?_
    obtain ⟨r38, σ36, e37, h⟩ := bd_some h
    refine ev_invSl (As := [.long (r31 * r35)]) (st := []) dX9_tallyByKind_145 cb_X9_capped tp_876 tp_877 (by omega) rfl rfl (Nat.le_of_ble_eq_true rfl) (x_X9_capped e37) ?_
    exact ev_retL dX9_tallyByKind_148 rfl h
  rcases it_some h with ⟨c39, h⟩ | ⟨c39, h⟩
  · refine ev_lookup (off := 81) (tgt := 113) dX9_tallyByKind_32 (by decide) (by rw [c39]; decide) rfl ?_
    refine ev_aload_nR 3 dX9_tallyByKind_113 rfl ?_
    refine ev_iload 2 dX9_tallyByKind_114 rfl ?_
    refine ev_iload 1 dX9_tallyByKind_116 rfl ?_
    refine ev_iload_n 5 dX9_tallyByKind_118 rfl ?_
    refine ev_iload_n 6 dX9_tallyByKind_119 rfl ?_
    obtain ⟨g40, h⟩ := gd_some h
    obtain ⟨r43, σ41, e42, h⟩ := bd_some h
    refine ev_invVl (As := [.int (r7), .int (r14), .int (a2), .int (a3)]) (st := []) dX9_tallyByKind_120 cb_X9_tallySplits tp_871 tp_873 tp_51 kf9 rfl (by omega) g40 rfl rfl (Nat.le_of_ble_eq_true rfl) (x_X9_tallySplits hkg e42) ?_
    exact ev_retL dX9_tallyByKind_123 rfl h
  rcases it_some h with ⟨c44, h⟩ | ⟨c44, h⟩
  · refine ev_lookup (off := 117) (tgt := 149) dX9_tallyByKind_32 (by decide) (by rw [c44]; decide) rfl ?_
    refine ev_aload_nR 3 dX9_tallyByKind_149 rfl ?_
    refine ev_iload 2 dX9_tallyByKind_150 rfl ?_
    refine ev_iload_n 5 dX9_tallyByKind_152 rfl ?_
    refine ev_iload_n 6 dX9_tallyByKind_153 rfl ?_
    refine ev_iconst (v := 1) dX9_tallyByKind_154 (by decide) ?_
    refine ev_isub dX9_tallyByKind_155 ?_
    obtain ⟨g45, h⟩ := gd_some h
    obtain ⟨r48, σ46, e47, h⟩ := bd_some h
    refine ev_invVl (As := [.int (r7), .int (a2), .int (a3 - 1)]) (st := []) dX9_tallyByKind_156 cb_X9_tally tp_859 tp_861 tp_49 kf9 rfl (by omega) g45 rfl rfl (Nat.le_of_ble_eq_true rfl) (hkg e47) ?_
    refine ev_aload_nR 3 dX9_tallyByKind_159 rfl ?_
    refine ev_iload 1 dX9_tallyByKind_160 rfl ?_
    refine ev_iload_n 5 dX9_tallyByKind_162 rfl ?_
    refine ev_iload_n 6 dX9_tallyByKind_163 rfl ?_
    refine ev_iconst (v := 1) dX9_tallyByKind_164 (by decide) ?_
    refine ev_isub dX9_tallyByKind_165 ?_
    obtain ⟨g49, h⟩ := gd_some h
    obtain ⟨r52, σ50, e51, h⟩ := bd_some h
    refine ev_invVl (As := [.int (r14), .int (a2), .int (a3 - 1)]) (st := [.long (r48)]) dX9_tallyByKind_166 cb_X9_tally tp_859 tp_861 tp_49 kf9 rfl (by omega) g49 rfl rfl (Nat.le_of_ble_eq_true rfl) (hkg e51) ?_
    refine ev_ladd dX9_tallyByKind_169 ?_
    obtain ⟨r55, σ53, e54, h⟩ := bd_some h
    refine ev_invSl (As := [.long (r48 + r52)]) (st := []) dX9_tallyByKind_170 cb_X9_capped tp_876 tp_877 (by omega) rfl rfl (Nat.le_of_ble_eq_true rfl) (x_X9_capped e54) ?_
    exact ev_retL dX9_tallyByKind_173 rfl h
  rcases it_some h with ⟨c56, h⟩ | ⟨c56, h⟩
  · refine ev_lookup (off := 68) (tgt := 100) dX9_tallyByKind_32 (by decide) (by rw [c56]; decide) rfl ?_
    refine ev_lconst (v := 1) dX9_tallyByKind_100 (by decide) ?_
    exact ev_retL dX9_tallyByKind_101 rfl h
  rcases it_some h with ⟨c57, h⟩ | ⟨c57, h⟩
  · refine ev_lookup (off := 68) (tgt := 100) dX9_tallyByKind_32 (by decide) (by rw [c57]; decide) rfl ?_
    refine ev_lconst (v := 1) dX9_tallyByKind_100 (by decide) ?_
    exact ev_retL dX9_tallyByKind_101 rfl h
  rcases it_some h with ⟨c58, h⟩ | ⟨c58, h⟩
  · refine ev_lookup (off := 142) (tgt := 174) dX9_tallyByKind_32 (by decide) (by rw [c58]; decide) rfl ?_
    refine ev_aload_nR 3 dX9_tallyByKind_174 rfl ?_
    refine ev_iload 2 dX9_tallyByKind_175 rfl ?_
    refine ev_iload_n 5 dX9_tallyByKind_177 rfl ?_
    refine ev_aload_nR 3 dX9_tallyByKind_178 rfl ?_
    obtain ⟨g59, h⟩ := gd_some h
    obtain ⟨p60, e61, h⟩ := op_some h
    refine ev_getPR dX9_tallyByKind_179 fl_X9_20 rfl g59 e61 ?_
    refine ev_iload_n 4 dX9_tallyByKind_182 rfl ?_
    obtain ⟨g62, h⟩ := gd_some h
    obtain ⟨r65, σ63, e64, h⟩ := bd_some h
    refine ev_invVi (As := [.int (a1)]) (st := [.int (a2), .int (r7), .ref a0]) dX9_tallyByKind_183 cb_X3_loanBit tp_884 tp_585 tp_586 kf3 rfl (by omega) g62 rfl rfl (Nat.le_of_ble_eq_true rfl) (x_X3_loanBit e64) ?_
    refine ev_ior dX9_tallyByKind_186 ?_
    refine ev_iload_n 6 dX9_tallyByKind_187 rfl ?_
    refine ev_iconst (v := 1) dX9_tallyByKind_188 (by decide) ?_
    refine ev_isub dX9_tallyByKind_189 ?_
    obtain ⟨g66, h⟩ := gd_some h
    obtain ⟨r69, σ67, e68, h⟩ := bd_some h
    refine ev_invVl (As := [.int (r7), .int (a2 ||| r65), .int (a3 - 1)]) (st := []) dX9_tallyByKind_190 cb_X9_tally tp_859 tp_861 tp_49 kf9 rfl (by omega) g66 rfl rfl (Nat.le_of_ble_eq_true rfl) (hkg e68) ?_
    exact ev_retL dX9_tallyByKind_193 rfl h
  refine ev_lookup (off := 162) (tgt := 194) dX9_tallyByKind_32 (by decide) ?_ rfl ?_
  · simp only [Op.lookupswitch.offset_cons, Op.lookupswitch.offset_nil]
    rw [if_neg (fun q => ne_toInt c22 q.symm)]
    rw [if_neg (fun q => ne_toInt c27 q.symm)]
    rw [if_neg (fun q => ne_toInt c39 q.symm)]
    rw [if_neg (fun q => ne_toInt c44 q.symm)]
    rw [if_neg (fun q => ne_toInt c56 q.symm)]
    rw [if_neg (fun q => ne_toInt c57 q.symm)]
    rw [if_neg (fun q => ne_toInt c58 q.symm)]
  · refine ev_aload_nR 3 dX9_tallyByKind_194 rfl ?_
    refine ev_iload 0 dX9_tallyByKind_195 rfl ?_
    refine ev_iload_n 5 dX9_tallyByKind_197 rfl ?_
    refine ev_iload_n 6 dX9_tallyByKind_198 rfl ?_
    obtain ⟨g70, h⟩ := gd_some h
    obtain ⟨r73, σ71, e72, h⟩ := bd_some h
    refine ev_invVl (As := [.int (r21), .int (a2), .int (a3)]) (st := []) dX9_tallyByKind_199 cb_X9_tallyAtom tp_885 tp_887 tp_52 kf9 rfl (by omega) g70 rfl rfl (Nat.le_of_ble_eq_true rfl) (x_X9_tallyAtom hkg e72) ?_
    exact ev_retL dX9_tallyByKind_202 rfl h
def s_X9_tally_92 (kg : Nat → Int32 → Int32 → Int32 → St → Option (Int64 × St)) (a0 : Nat) (a4 : Int32) (σ : St) : Option (Int64 × St) :=
 if isO σ 9 a0 = true then (op (sP σ a0 2) fun p2 =>
 if isO σ 14 p2 = true then (if inR a4 (alen σ p2) = true then (some ((sL σ p2 a4.toNatClampNeg) &&& 4294967295, σ)) else none) else none) else none
set_option maxHeartbeats 4000000 in
set_option maxRecDepth 100000 in
theorem e_X9_tally_92 {kg : Nat → Int32 → Int32 → Int32 → St → Option (Int64 × St)} {dk : Nat} (hkg : ∀ {x0 : Nat} {x1 : Int32} {x2 : Int32} {x3 : Int32} {σ : St} {r : Int64} {σ' : St}, kg x0 x1 x2 x3 σ = some (r, σ') → Ex M_X9_tally dk [.ref x0, .int (x1), .int (x2), .int (x3)] σ (some (.long r)) σ') {r : Int64} {σ' : St} : ∀ {a0 : Nat} {a4 : Int32} {σ : St}, s_X9_tally_92 kg a0 a4 σ = some (r, σ') → Ev M_X9_tally (dk + 6) 92 [(0, .ref a0), (4, .int (a4))] [] σ (some (.long r)) σ' := by
  intro a0 a4 σ h
  unfold s_X9_tally_92 at h
  refine ev_aload_nR 0 dX9_tally_92 rfl ?_
  obtain ⟨g1, h⟩ := gd_some h
  obtain ⟨p2, e3, h⟩ := op_some h
  refine ev_getPR dX9_tally_93 fl_X9_12 rfl g1 e3 ?_
  refine ev_iload 1 dX9_tally_96 rfl ?_
  obtain ⟨g4, h⟩ := gd_some h
  obtain ⟨g5, h⟩ := gd_some h
  refine ev_lald dX9_tally_98 (isA_O g4) g5 ?_
  refine ev_ldc2 dX9_tally_99 tp_896 ?_
  refine ev_land dX9_tally_102 ?_
  exact ev_retL dX9_tally_103 rfl h
def sc_X9_tally (kg : Nat → Int32 → Int32 → Int32 → St → Option (Int64 × St)) (a0 : Nat) (a1 : Int32) (a2 : Int32) (a3 : Int32) (σ : St) : Option (Int64 × St) :=
 if a3 ≤ 0 then (some (0, σ)) else (if isO σ 9 a0 = true then (op (sP σ a0 1) fun p8 =>
 if isO σ 4 p8 = true then (bd (s_X4_proves p8 a1 a2 a3 σ) fun r13 σ11 =>
 if r13 = 0 then (some (0, σ11)) else (lt (((((a1 * 256) + a2) * 10) + a3) - 1 : Int32) fun v15 =>
 if v15 < 0 then (some (0, σ11)) else (if isO σ11 9 a0 = true then (op (sP σ11 a0 2) fun p19 =>
 if isO σ11 14 p19 = true then (if v15 < (nI (alen σ11 p19)) then (if inR v15 (alen σ11 p19) = true then (if (lg_cmp (((sL σ11 p19 v15.toNatClampNeg).toUInt64 >>> ((32 : Int32).toInt64.toUInt64 &&& Int64.toUInt64 63)).toInt64) (sL σ11 a0 3)) = 0 then (s_X9_tally_92 kg a0 v15 σ11) else (bd (s_X9_tallyByKind kg a0 a1 a2 a3 σ11) fun r27 σ25 =>
 if isO σ25 14 p19 = true then (if inR v15 (alen σ25 p19) = true then (lt (setL σ25 p19 v15.toNatClampNeg (((sL σ11 a0 3) <<< ((32 : Int32).toInt64 &&& 63)) ||| r27)) fun σ30 =>
 s_X9_tally_92 kg a0 v15 σ30) else none) else none)) else none) else (some (0, σ11))) else none) else none))) else none) else none)
set_option maxHeartbeats 4000000 in
set_option maxRecDepth 100000 in
theorem xc_X9_tally {kg : Nat → Int32 → Int32 → Int32 → St → Option (Int64 × St)} {dk : Nat} (hkg : ∀ {x0 : Nat} {x1 : Int32} {x2 : Int32} {x3 : Int32} {σ : St} {r : Int64} {σ' : St}, kg x0 x1 x2 x3 σ = some (r, σ') → Ex M_X9_tally dk [.ref x0, .int (x1), .int (x2), .int (x3)] σ (some (.long r)) σ') {a0 : Nat} {a1 : Int32} {a2 : Int32} {a3 : Int32} {σ : St} {r : Int64} {σ' : St} (h : sc_X9_tally kg a0 a1 a2 a3 σ = some (r, σ')) : Ex M_X9_tally (dk + 6) [.ref a0, .int (a1), .int (a2), .int (a3)] σ (some (.long r)) σ' := by
  unfold sc_X9_tally at h
  refine ex_of (by decide) rfl (Nat.le_of_ble_eq_true rfl) ?_
  show Ev _ _ 0 [(0, .ref a0), (1, .int (a1)), (2, .int (a2)), (3, .int (a3))] [] _ _ _
  refine ev_iload_n 3 dX9_tally_0 rfl ?_
  rcases it_some h with ⟨c6, h⟩ | ⟨c6, h⟩
  · refine ev_if_le (tgt := 17) dX9_tally_1 rfl c6 ?_
    refine ev_lconst (v := 0) dX9_tally_17 (by decide) ?_
    exact ev_retL dX9_tally_18 rfl h
  · refine ev_if_le_n 17 dX9_tally_1 rfl c6 ?_
    refine ev_aload_nR 0 dX9_tally_4 rfl ?_
    obtain ⟨g7, h⟩ := gd_some h
    obtain ⟨p8, e9, h⟩ := op_some h
    refine ev_getPR dX9_tally_5 fl_X9_24 rfl g7 e9 ?_
    refine ev_iload_n 1 dX9_tally_8 rfl ?_
    refine ev_iload_n 2 dX9_tally_9 rfl ?_
    refine ev_iload_n 3 dX9_tally_10 rfl ?_
    obtain ⟨g10, h⟩ := gd_some h
    obtain ⟨r13, σ11, e12, h⟩ := bd_some h
    refine ev_invVi (As := [.int (a1), .int (a2), .int (a3)]) (st := []) dX9_tally_11 cb_X4_proves tp_863 tp_626 tp_627 kf4 rfl (by omega) g10 rfl rfl (Nat.le_of_ble_eq_true rfl) (x_X4_proves e12) ?_
    rcases it_some h with ⟨c14, h⟩ | ⟨c14, h⟩
    · refine ev_if_ne_n 19 dX9_tally_14 rfl c14 ?_
      refine ev_lconst (v := 0) dX9_tally_17 (by decide) ?_
      exact ev_retL dX9_tally_18 rfl h
    · refine ev_if_ne (tgt := 19) dX9_tally_14 rfl c14 ?_
      refine ev_iload_n 1 dX9_tally_19 rfl ?_
      refine ev_sipush (v := 256) dX9_tally_20 (by decide) ?_
      refine ev_imul dX9_tally_23 ?_
      refine ev_iload_n 2 dX9_tally_24 rfl ?_
      refine ev_iadd dX9_tally_25 ?_
      refine ev_bipush (v := 10) dX9_tally_26 (by decide) ?_
      refine ev_imul dX9_tally_28 ?_
      refine ev_iload_n 3 dX9_tally_29 rfl ?_
      refine ev_iadd dX9_tally_30 ?_
      refine ev_iconst (v := 1) dX9_tally_31 (by decide) ?_
      refine ev_isub dX9_tally_32 ?_
      obtain ⟨v15, e16, h⟩ := lt_some h
      refine ev_topI e16 ?_
      refine ev_istore (ls' := [(4, .int (v15)), (0, .ref a0), (1, .int (a1)), (2, .int (a2)), (3, .int (a3))]) dX9_tally_33 (by decide) rfl ?_
      refine ev_iload 0 dX9_tally_35 rfl ?_
      rcases it_some h with ⟨c17, h⟩ | ⟨c17, h⟩
      · refine ev_if_lt (tgt := 50) dX9_tally_37 rfl c17 ?_
        refine ev_lconst (v := 0) dX9_tally_50 (by decide) ?_
        exact ev_retL dX9_tally_51 rfl h
      · refine ev_if_lt_n 50 dX9_tally_37 rfl c17 ?_
        refine ev_iload 0 dX9_tally_40 rfl ?_
        refine ev_aload_nR 1 dX9_tally_42 rfl ?_
        obtain ⟨g18, h⟩ := gd_some h
        obtain ⟨p19, e20, h⟩ := op_some h
        refine ev_getPR dX9_tally_43 fl_X9_12 rfl g18 e20 ?_
        obtain ⟨g21, h⟩ := gd_some h
        refine ev_alen dX9_tally_46 (isA_O g21) (by decide) ?_
        rcases it_some h with ⟨c22, h⟩ | ⟨c22, h⟩
        · refine ev_icmp_lt (tgt := 52) dX9_tally_47 rfl c22 ?_
          refine ev_aload_nR 1 dX9_tally_52 rfl ?_
          refine ev_getPR dX9_tally_53 fl_X9_12 rfl g18 e20 ?_
          refine ev_iload 0 dX9_tally_56 rfl ?_
          obtain ⟨g23, h⟩ := gd_some h
          refine ev_lald dX9_tally_58 (isA_O g21) g23 ?_
          refine ev_bipush (v := 32) dX9_tally_59 (by decide) ?_
          refine ev_lushr dX9_tally_61 ?_
          refine ev_aload_nR 1 dX9_tally_62 rfl ?_
          refine ev_getL dX9_tally_63 fl_X9_16 rfl g18 ?_
          refine ev_lcmp dX9_tally_66 ?_
          rcases it_some h with ⟨c24, h⟩ | ⟨c24, h⟩
          · refine ev_if_eq (tgt := 92) dX9_tally_67 rfl c24 ?_
            refine ev_sub (ls' := [(0, .ref a0), (4, .int (v15))]) [1, 0] rfl ?_
            exact e_X9_tally_92 hkg h
          · refine ev_if_eq_n 92 dX9_tally_67 rfl c24 ?_
            refine ev_aload_nR 1 dX9_tally_70 rfl ?_
            refine ev_getPR dX9_tally_71 fl_X9_12 rfl g18 e20 ?_
            refine ev_iload 0 dX9_tally_74 rfl ?_
            refine ev_aload_nR 1 dX9_tally_76 rfl ?_
            refine ev_getL dX9_tally_77 fl_X9_16 rfl g18 ?_
            refine ev_bipush (v := 32) dX9_tally_80 (by decide) ?_
            refine ev_lshl dX9_tally_82 ?_
            refine ev_aload_nR 1 dX9_tally_83 rfl ?_
            refine ev_iload_n 2 dX9_tally_84 rfl ?_
            refine ev_iload_n 3 dX9_tally_85 rfl ?_
            refine ev_iload_n 4 dX9_tally_86 rfl ?_
            obtain ⟨r27, σ25, e26, h⟩ := bd_some h
            refine ev_invVl (As := [.int (a1), .int (a2), .int (a3)]) (st := [.long ((sL σ11 a0 3) <<< ((32 : Int32).toInt64 &&& 63)), .int (v15), .ref p19]) dX9_tally_87 cb_X9_tallyByKind tp_864 tp_866 tp_50 kf9 rfl (by omega) g18 rfl rfl (Nat.le_of_ble_eq_true rfl) (x_X9_tallyByKind hkg e26) ?_
            refine ev_lor dX9_tally_90 ?_
            obtain ⟨g28, h⟩ := gd_some h
            obtain ⟨g29, h⟩ := gd_some h
            obtain ⟨σ30, e31, h⟩ := lt_some h
            refine ev_last dX9_tally_91 (isO_spec g28).1 (isA_O g28) g29 ?_
            refine ev_st e31 ?_
            refine ev_sub (ls' := [(0, .ref a0), (4, .int (v15))]) [1, 0] rfl ?_
            exact e_X9_tally_92 hkg h
        · refine ev_icmp_lt_n 52 dX9_tally_47 rfl c22 ?_
          refine ev_lconst (v := 0) dX9_tally_50 (by decide) ?_
          exact ev_retL dX9_tally_51 rfl h
def s_X9_tally (F : Nat) : Nat → Int32 → Int32 → Int32 → St → Option (Int64 × St) := lp (fun _ _ _ _ _ => none) sc_X9_tally F
theorem x_X9_tally (F : Nat) : ∀ {a0 : Nat} {a1 : Int32} {a2 : Int32} {a3 : Int32} {σ : St} {r : Int64} {σ' : St}, s_X9_tally F a0 a1 a2 a3 σ = some (r, σ') → Ex M_X9_tally (6 * F) [.ref a0, .int (a1), .int (a2), .int (a3)] σ (some (.long r)) σ' := by
  induction F with
  | zero => intro a0 a1 a2 a3 σ r σ' h; cases h
  | succ F ih => intro a0 a1 a2 a3 σ r σ' h; exact xc_X9_tally (kg := s_X9_tally F) (dk := 6 * F) (fun h => ih h) h
