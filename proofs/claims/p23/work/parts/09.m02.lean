def s_X2_demandEmpty (a0 : Nat) (a1 : Int32) (σ : St) : Option (Unit × St) :=
 if a1 = 0 then (some ((), σ)) else (if isO σ 2 a0 = true then (lt (setI σ a0 2 4) fun σ3 =>
 some ((), σ3)) else none)
set_option maxHeartbeats 4000000 in
set_option maxRecDepth 100000 in
theorem x_X2_demandEmpty {a0 : Nat} {a1 : Int32} {σ : St} {r : Unit} {σ' : St} (h : s_X2_demandEmpty a0 a1 σ = some (r, σ')) : Ex M_X2_demandEmpty (1) [.ref a0, .int (a1)] σ none σ' := by
  unfold s_X2_demandEmpty at h
  refine ex_of (by decide) rfl (Nat.le_of_ble_eq_true rfl) ?_
  show Ev _ _ 0 [(0, .ref a0), (1, .int (a1))] [] _ _ _
  refine ev_iload_n 1 dX2_demandEmpty_0 rfl ?_
  rcases it_some h with ⟨c1, h⟩ | ⟨c1, h⟩
  · refine ev_if_eq (tgt := 9) dX2_demandEmpty_1 rfl c1 ?_
    exact ev_retV dX2_demandEmpty_9 rfl h
  · refine ev_if_eq_n 9 dX2_demandEmpty_1 rfl c1 ?_
    refine ev_aload_nR 0 dX2_demandEmpty_4 rfl ?_
    refine ev_iconst (v := 4) dX2_demandEmpty_5 (by decide) ?_
    obtain ⟨g2, h⟩ := gd_some h
    obtain ⟨σ3, e4, h⟩ := lt_some h
    refine ev_putI dX2_demandEmpty_6 fl_X2_11 rfl (Or.inl rfl) g2 ⟨rfl, rfl⟩ ?_
    refine ev_st e4 ?_
    exact ev_retV dX2_demandEmpty_9 rfl h
def s_X8_at (a0 : Nat) (a1 : Int32) (σ : St) : Option (Int32 × St) :=
 if a1 < 0 then (some ((-1), σ)) else (if isO σ 8 a0 = true then (if (sI σ a0 1) ≤ a1 then (some ((-1), σ)) else (op (sP σ a0 0) fun p4 =>
 if isO σ 13 p4 = true then (if (nI (alen σ p4)) ≤ a1 then (some ((-1), σ)) else (if inR a1 (alen σ p4) = true then (some (sI σ p4 a1.toNatClampNeg, σ)) else none)) else none)) else none)
set_option maxHeartbeats 4000000 in
set_option maxRecDepth 100000 in
theorem x_X8_at {a0 : Nat} {a1 : Int32} {σ : St} {r : Int32} {σ' : St} (h : s_X8_at a0 a1 σ = some (r, σ')) : Ex M_X8_at (1) [.ref a0, .int (a1)] σ (some (.int r)) σ' := by
  unfold s_X8_at at h
  refine ex_of (by decide) rfl (Nat.le_of_ble_eq_true rfl) ?_
  show Ev _ _ 0 [(0, .ref a0), (1, .int (a1))] [] _ _ _
  refine ev_iload_n 1 dX8_at_0 rfl ?_
  rcases it_some h with ⟨c1, h⟩ | ⟨c1, h⟩
  · refine ev_if_lt (tgt := 30) dX8_at_1 rfl c1 ?_
    refine ev_iconst (v := (-1)) dX8_at_30 (by decide) ?_
    exact ev_retI .int dX8_at_31 rfl rfl h
  · refine ev_if_lt_n 30 dX8_at_1 rfl c1 ?_
    refine ev_iload_n 1 dX8_at_4 rfl ?_
    refine ev_aload_nR 0 dX8_at_5 rfl ?_
    obtain ⟨g2, h⟩ := gd_some h
    refine ev_getI dX8_at_6 fl_X8_15 rfl g2 ?_
    rcases it_some h with ⟨c3, h⟩ | ⟨c3, h⟩
    · refine ev_icmp_ge (tgt := 30) dX8_at_9 rfl c3 ?_
      refine ev_iconst (v := (-1)) dX8_at_30 (by decide) ?_
      exact ev_retI .int dX8_at_31 rfl rfl h
    · refine ev_icmp_ge_n 30 dX8_at_9 rfl c3 ?_
      refine ev_iload_n 1 dX8_at_12 rfl ?_
      refine ev_aload_nR 0 dX8_at_13 rfl ?_
      obtain ⟨p4, e5, h⟩ := op_some h
      refine ev_getPR dX8_at_14 fl_X8_9 rfl g2 e5 ?_
      obtain ⟨g6, h⟩ := gd_some h
      refine ev_alen dX8_at_17 (isA_O g6) (by decide) ?_
      rcases it_some h with ⟨c7, h⟩ | ⟨c7, h⟩
      · refine ev_icmp_ge (tgt := 30) dX8_at_18 rfl c7 ?_
        refine ev_iconst (v := (-1)) dX8_at_30 (by decide) ?_
        exact ev_retI .int dX8_at_31 rfl rfl h
      · refine ev_icmp_ge_n 30 dX8_at_18 rfl c7 ?_
        refine ev_aload_nR 0 dX8_at_21 rfl ?_
        refine ev_getPR dX8_at_22 fl_X8_9 rfl g2 e5 ?_
        refine ev_iload_n 1 dX8_at_25 rfl ?_
        obtain ⟨g8, h⟩ := gd_some h
        refine ev_iald dX8_at_26 (isA_O g6) g8 ?_
        refine ev_goto (tgt := 31) dX8_at_27 rfl ?_
        exact ev_retI .int dX8_at_31 rfl rfl h
def s_X8_length (a0 : Nat) (σ : St) : Option (Int32 × St) :=
 if isO σ 8 a0 = true then (some (sI σ a0 1, σ)) else none
set_option maxHeartbeats 4000000 in
set_option maxRecDepth 100000 in
theorem x_X8_length {a0 : Nat} {σ : St} {r : Int32} {σ' : St} (h : s_X8_length a0 σ = some (r, σ')) : Ex M_X8_length (1) [.ref a0] σ (some (.int r)) σ' := by
  unfold s_X8_length at h
  refine ex_of (by decide) rfl (Nat.le_of_ble_eq_true rfl) ?_
  show Ev _ _ 0 [(0, .ref a0)] [] _ _ _
  refine ev_aload_nR 0 dX8_length_0 rfl ?_
  obtain ⟨g1, h⟩ := gd_some h
  refine ev_getI dX8_length_1 fl_X8_15 rfl g1 ?_
  exact ev_retI .int dX8_length_4 rfl rfl h
def s_X2_lacksNumber (a0 : Nat) (σ : St) : Option (Int32 × St) :=
 if isO σ 2 a0 = true then (op (sP σ a0 1) fun p2 =>
 if isO σ 8 p2 = true then (bd (s_X8_length p2 σ) fun r7 σ5 =>
 if r7 ≤ (sI σ a0 3) then (if isO σ5 2 a0 = true then (lt (setI σ5 a0 2 2) fun σ10 =>
 some (1, σ10)) else none) else (some (0, σ5))) else none) else none
set_option maxHeartbeats 4000000 in
set_option maxRecDepth 100000 in
theorem x_X2_lacksNumber {a0 : Nat} {σ : St} {r : Int32} {σ' : St} (h : s_X2_lacksNumber a0 σ = some (r, σ')) : Ex M_X2_lacksNumber (2) [.ref a0] σ (some (.int r)) σ' := by
  unfold s_X2_lacksNumber at h
  refine ex_of (by decide) rfl (Nat.le_of_ble_eq_true rfl) ?_
  show Ev _ _ 0 [(0, .ref a0)] [] _ _ _
  refine ev_aload_nR 0 dX2_lacksNumber_0 rfl ?_
  obtain ⟨g1, h⟩ := gd_some h
  refine ev_getI dX2_lacksNumber_1 fl_X2_15 rfl g1 ?_
  refine ev_aload_nR 0 dX2_lacksNumber_4 rfl ?_
  obtain ⟨p2, e3, h⟩ := op_some h
  refine ev_getPR dX2_lacksNumber_5 fl_X2_25 rfl g1 e3 ?_
  obtain ⟨g4, h⟩ := gd_some h
  obtain ⟨r7, σ5, e6, h⟩ := bd_some h
  refine ev_invVi (As := []) (st := [.int (sI σ a0 3)]) dX2_lacksNumber_8 cb_X8_length tp_760 tp_725 tp_726 kf8 rfl (by omega) g4 rfl rfl (Nat.le_of_ble_eq_true rfl) (x_X8_length e6) ?_
  rcases it_some h with ⟨c8, h⟩ | ⟨c8, h⟩
  · refine ev_icmp_ge (tgt := 16) dX2_lacksNumber_11 rfl c8 ?_
    refine ev_aload_nR 0 dX2_lacksNumber_16 rfl ?_
    refine ev_iconst (v := 2) dX2_lacksNumber_17 (by decide) ?_
    obtain ⟨g9, h⟩ := gd_some h
    obtain ⟨σ10, e11, h⟩ := lt_some h
    refine ev_putI dX2_lacksNumber_18 fl_X2_11 rfl (Or.inl rfl) g9 ⟨rfl, rfl⟩ ?_
    refine ev_st e11 ?_
    refine ev_iconst (v := 1) dX2_lacksNumber_21 (by decide) ?_
    exact ev_retI .boolean dX2_lacksNumber_22 rfl rfl h
  · refine ev_icmp_ge_n 16 dX2_lacksNumber_11 rfl c8 ?_
    refine ev_iconst (v := 0) dX2_lacksNumber_14 (by decide) ?_
    exact ev_retI .boolean dX2_lacksNumber_15 rfl rfl h
def s_X2_refuseUnless_9 (a1 : Int32) (σ : St) : Option (Int32 × St) :=
 if a1 = 0 then (some (1, σ)) else (some (0, σ))
set_option maxHeartbeats 4000000 in
set_option maxRecDepth 100000 in
theorem e_X2_refuseUnless_9 {r : Int32} {σ' : St} : ∀ {a1 : Int32} {σ : St}, s_X2_refuseUnless_9 a1 σ = some (r, σ') → Ev M_X2_refuseUnless (1) 9 [(1, .int (a1))] [] σ (some (.int r)) σ' := by
  intro a1 σ h
  unfold s_X2_refuseUnless_9 at h
  refine ev_iload_n 0 dX2_refuseUnless_9 rfl ?_
  rcases it_some h with ⟨c1, h⟩ | ⟨c1, h⟩
  · refine ev_if_ne_n 17 dX2_refuseUnless_10 rfl c1 ?_
    refine ev_iconst (v := 1) dX2_refuseUnless_13 (by decide) ?_
    refine ev_goto (tgt := 18) dX2_refuseUnless_14 rfl ?_
    exact ev_retI .boolean dX2_refuseUnless_18 rfl rfl h
  · refine ev_if_ne (tgt := 17) dX2_refuseUnless_10 rfl c1 ?_
    refine ev_iconst (v := 0) dX2_refuseUnless_17 (by decide) ?_
    exact ev_retI .boolean dX2_refuseUnless_18 rfl rfl h
def s_X2_refuseUnless (a0 : Nat) (a1 : Int32) (σ : St) : Option (Int32 × St) :=
 if a1 = 0 then (if isO σ 2 a0 = true then (lt (setI σ a0 2 3) fun σ4 =>
 s_X2_refuseUnless_9 a1 σ4) else none) else (s_X2_refuseUnless_9 a1 σ)
set_option maxHeartbeats 4000000 in
set_option maxRecDepth 100000 in
theorem x_X2_refuseUnless {a0 : Nat} {a1 : Int32} {σ : St} {r : Int32} {σ' : St} (h : s_X2_refuseUnless a0 a1 σ = some (r, σ')) : Ex M_X2_refuseUnless (1) [.ref a0, .int (a1)] σ (some (.int r)) σ' := by
  unfold s_X2_refuseUnless at h
  refine ex_of (by decide) rfl (Nat.le_of_ble_eq_true rfl) ?_
  show Ev _ _ 0 [(0, .ref a0), (1, .int (a1))] [] _ _ _
  refine ev_iload_n 1 dX2_refuseUnless_0 rfl ?_
  rcases it_some h with ⟨c2, h⟩ | ⟨c2, h⟩
  · refine ev_if_ne_n 9 dX2_refuseUnless_1 rfl c2 ?_
    refine ev_aload_nR 0 dX2_refuseUnless_4 rfl ?_
    refine ev_iconst (v := 3) dX2_refuseUnless_5 (by decide) ?_
    obtain ⟨g3, h⟩ := gd_some h
    obtain ⟨σ4, e5, h⟩ := lt_some h
    refine ev_putI dX2_refuseUnless_6 fl_X2_11 rfl (Or.inl rfl) g3 ⟨rfl, rfl⟩ ?_
    refine ev_st e5 ?_
    refine ev_sub (ls' := [(1, .int (a1))]) [1] rfl ?_
    exact e_X2_refuseUnless_9  h
  · refine ev_if_ne (tgt := 9) dX2_refuseUnless_1 rfl c2 ?_
    refine ev_sub (ls' := [(1, .int (a1))]) [1] rfl ?_
    exact e_X2_refuseUnless_9  h
def s_X2_visitSplit_44 (kg : Nat → Int32 → Int32 → Int32 → St → Option (Unit × St)) (a0 : Nat) (a1 : Int32) (a2 : Int32) (a3 : Int32) (a4 : Int32) (t0 : Nat) (t1 : Int32) (σ : St) : Option (Unit × St) :=
 if isO σ 2 t0 = true then (bd (s_X2_refuseUnless t0 t1 σ) fun r4 σ2 =>
 if r4 = 0 then (if isO σ2 2 a0 = true then (lt (setI σ2 a0 3 ((sI σ2 a0 3) + 1)) fun σ7 =>
 op (sP σ7 a0 0) fun p9 =>
 if isO σ7 3 p9 = true then (bd (s_X3_first p9 a1 σ7) fun r14 σ12 =>
 if isO σ12 2 a0 = true then (bd (kg a0 r14 a4 (a3 + 1) σ12) fun r18 σ16 =>
 if isO σ16 2 a0 = true then (op (sP σ16 a0 0) fun p20 =>
 if isO σ16 3 p20 = true then (bd (s_X3_second p20 a1 σ16) fun r25 σ23 =>
 if isO σ23 2 a0 = true then (bd (kg a0 r25 (a2 ^^^ a4) (a3 + 1) σ23) fun r29 σ27 =>
 some ((), σ27)) else none) else none) else none) else none) else none) else none) else (some ((), σ2))) else none
set_option maxHeartbeats 4000000 in
set_option maxRecDepth 100000 in
theorem e_X2_visitSplit_44 {kg : Nat → Int32 → Int32 → Int32 → St → Option (Unit × St)} {dk : Nat} (hkg : ∀ {x0 : Nat} {x1 : Int32} {x2 : Int32} {x3 : Int32} {σ : St} {r : Unit} {σ' : St}, kg x0 x1 x2 x3 σ = some (r, σ') → Ex M_X2_visit dk [.ref x0, .int (x1), .int (x2), .int (x3)] σ none σ') {r : Unit} {σ' : St} : ∀ {a0 : Nat} {a1 : Int32} {a2 : Int32} {a3 : Int32} {a4 : Int32} {t0 : Nat} {t1 : Int32} {σ : St}, s_X2_visitSplit_44 kg a0 a1 a2 a3 a4 t0 t1 σ = some (r, σ') → Ev M_X2_visitSplit (dk + 3) 44 [(0, .ref a0), (1, .int (a1)), (2, .int (a2)), (3, .int (a3)), (4, .int (a4))] [.int (t1), .ref t0] σ none σ' := by
  intro a0 a1 a2 a3 a4 t0 t1 σ h
  unfold s_X2_visitSplit_44 at h
  obtain ⟨g1, h⟩ := gd_some h
  obtain ⟨r4, σ2, e3, h⟩ := bd_some h
  refine ev_invVi (As := [.int (t1)]) (st := []) dX2_visitSplit_44 cb_X2_refuseUnless tp_761 tp_763 tp_43 kf2 rfl (by omega) g1 rfl rfl (Nat.le_of_ble_eq_true rfl) (x_X2_refuseUnless e3) ?_
  rcases it_some h with ⟨c5, h⟩ | ⟨c5, h⟩
  · refine ev_if_eq (tgt := 51) dX2_visitSplit_47 rfl c5 ?_
    refine ev_aload_nR 0 dX2_visitSplit_51 rfl ?_
    refine ev_dup dX2_visitSplit_52 rfl ?_
    obtain ⟨g6, h⟩ := gd_some h
    refine ev_getI dX2_visitSplit_53 fl_X2_15 rfl g6 ?_
    refine ev_iconst (v := 1) dX2_visitSplit_56 (by decide) ?_
    refine ev_iadd dX2_visitSplit_57 ?_
    obtain ⟨σ7, e8, h⟩ := lt_some h
    refine ev_putI dX2_visitSplit_58 fl_X2_15 rfl (Or.inl rfl) g6 ⟨rfl, rfl⟩ ?_
    refine ev_st e8 ?_
    refine ev_aload_nR 0 dX2_visitSplit_61 rfl ?_
    refine ev_aload_nR 0 dX2_visitSplit_62 rfl ?_
    obtain ⟨p9, e10, h⟩ := op_some h
    refine ev_getPR dX2_visitSplit_63 fl_X2_21 rfl (isO_I e8 g6) e10 ?_
    refine ev_iload_n 1 dX2_visitSplit_66 rfl ?_
    obtain ⟨g11, h⟩ := gd_some h
    obtain ⟨r14, σ12, e13, h⟩ := bd_some h
    refine ev_invVi (As := [.int (a1)]) (st := [.ref a0]) dX2_visitSplit_67 cb_X3_first tp_747 tp_533 tp_534 kf3 rfl (by omega) g11 rfl rfl (Nat.le_of_ble_eq_true rfl) (x_X3_first e13) ?_
    refine ev_iload 4 dX2_visitSplit_70 rfl ?_
    refine ev_iload_n 3 dX2_visitSplit_72 rfl ?_
    refine ev_iconst (v := 1) dX2_visitSplit_73 (by decide) ?_
    refine ev_iadd dX2_visitSplit_74 ?_
    obtain ⟨g15, h⟩ := gd_some h
    obtain ⟨r18, σ16, e17, h⟩ := bd_some h
    refine ev_invVv (As := [.int (r14), .int (a4), .int (a3 + 1)]) (st := []) dX2_visitSplit_75 cb_X2_visit tp_737 tp_739 tp_39 kf2 rfl (by omega) g15 rfl rfl (Nat.le_of_ble_eq_true rfl) (hkg e17) ?_
    refine ev_aload_nR 0 dX2_visitSplit_78 rfl ?_
    refine ev_aload_nR 0 dX2_visitSplit_79 rfl ?_
    obtain ⟨g19, h⟩ := gd_some h
    obtain ⟨p20, e21, h⟩ := op_some h
    refine ev_getPR dX2_visitSplit_80 fl_X2_21 rfl g19 e21 ?_
    refine ev_iload_n 1 dX2_visitSplit_83 rfl ?_
    obtain ⟨g22, h⟩ := gd_some h
    obtain ⟨r25, σ23, e24, h⟩ := bd_some h
    refine ev_invVi (As := [.int (a1)]) (st := [.ref a0]) dX2_visitSplit_84 cb_X3_second tp_765 tp_541 tp_542 kf3 rfl (by omega) g22 rfl rfl (Nat.le_of_ble_eq_true rfl) (x_X3_second e24) ?_
    refine ev_iload_n 2 dX2_visitSplit_87 rfl ?_
    refine ev_iload 4 dX2_visitSplit_88 rfl ?_
    refine ev_ixor dX2_visitSplit_90 ?_
    refine ev_iload_n 3 dX2_visitSplit_91 rfl ?_
    refine ev_iconst (v := 1) dX2_visitSplit_92 (by decide) ?_
    refine ev_iadd dX2_visitSplit_93 ?_
    obtain ⟨g26, h⟩ := gd_some h
    obtain ⟨r29, σ27, e28, h⟩ := bd_some h
    refine ev_invVv (As := [.int (r25), .int (a2 ^^^ a4), .int (a3 + 1)]) (st := []) dX2_visitSplit_94 cb_X2_visit tp_737 tp_739 tp_39 kf2 rfl (by omega) g26 rfl rfl (Nat.le_of_ble_eq_true rfl) (hkg e28) ?_
    exact ev_retV dX2_visitSplit_97 rfl h
  · refine ev_if_eq_n 51 dX2_visitSplit_47 rfl c5 ?_
    exact ev_retV dX2_visitSplit_50 rfl h
def s_X2_visitSplit_43 (kg : Nat → Int32 → Int32 → Int32 → St → Option (Unit × St)) (a0 : Nat) (a1 : Int32) (a2 : Int32) (a3 : Int32) (a4 : Int32) (t0 : Nat) (σ : St) : Option (Unit × St) :=
 s_X2_visitSplit_44 kg a0 a1 a2 a3 a4 t0 0 σ
set_option maxHeartbeats 4000000 in
set_option maxRecDepth 100000 in
theorem e_X2_visitSplit_43 {kg : Nat → Int32 → Int32 → Int32 → St → Option (Unit × St)} {dk : Nat} (hkg : ∀ {x0 : Nat} {x1 : Int32} {x2 : Int32} {x3 : Int32} {σ : St} {r : Unit} {σ' : St}, kg x0 x1 x2 x3 σ = some (r, σ') → Ex M_X2_visit dk [.ref x0, .int (x1), .int (x2), .int (x3)] σ none σ') {r : Unit} {σ' : St} : ∀ {a0 : Nat} {a1 : Int32} {a2 : Int32} {a3 : Int32} {a4 : Int32} {t0 : Nat} {σ : St}, s_X2_visitSplit_43 kg a0 a1 a2 a3 a4 t0 σ = some (r, σ') → Ev M_X2_visitSplit (dk + 3) 43 [(0, .ref a0), (1, .int (a1)), (2, .int (a2)), (3, .int (a3)), (4, .int (a4))] [.ref t0] σ none σ' := by
  intro a0 a1 a2 a3 a4 t0 σ h
  unfold s_X2_visitSplit_43 at h
  refine ev_iconst (v := 0) dX2_visitSplit_43 (by decide) ?_
  refine ev_sub (ls' := [(0, .ref a0), (1, .int (a1)), (2, .int (a2)), (3, .int (a3)), (4, .int (a4))]) [0, 1, 2, 3, 4] rfl ?_
  exact e_X2_visitSplit_44 hkg h
def s_X2_visitSplit (kg : Nat → Int32 → Int32 → Int32 → St → Option (Unit × St)) (a0 : Nat) (a1 : Int32) (a2 : Int32) (a3 : Int32) (σ : St) : Option (Unit × St) :=
 if isO σ 2 a0 = true then (op (sP σ a0 1) fun p31 =>
 if isO σ 8 p31 = true then (bd (s_X8_at p31 (sI σ a0 3) σ) fun r36 σ34 =>
 lt (r36 - 200 : Int32) fun v37 =>
 if isO σ34 2 a0 = true then (bd (s_X2_lacksNumber a0 σ34) fun r42 σ40 =>
 if r42 = 0 then (if v37 < 0 then (s_X2_visitSplit_43 kg a0 a1 a2 a3 v37 a0 σ40) else (if (v37 &&& (a2 ^^^ ((-1)))) = 0 then (s_X2_visitSplit_44 kg a0 a1 a2 a3 v37 a0 1 σ40) else (s_X2_visitSplit_43 kg a0 a1 a2 a3 v37 a0 σ40))) else (some ((), σ40))) else none) else none) else none
set_option maxHeartbeats 4000000 in
set_option maxRecDepth 100000 in
theorem x_X2_visitSplit {kg : Nat → Int32 → Int32 → Int32 → St → Option (Unit × St)} {dk : Nat} (hkg : ∀ {x0 : Nat} {x1 : Int32} {x2 : Int32} {x3 : Int32} {σ : St} {r : Unit} {σ' : St}, kg x0 x1 x2 x3 σ = some (r, σ') → Ex M_X2_visit dk [.ref x0, .int (x1), .int (x2), .int (x3)] σ none σ') {a0 : Nat} {a1 : Int32} {a2 : Int32} {a3 : Int32} {σ : St} {r : Unit} {σ' : St} (h : s_X2_visitSplit kg a0 a1 a2 a3 σ = some (r, σ')) : Ex M_X2_visitSplit (dk + 3) [.ref a0, .int (a1), .int (a2), .int (a3)] σ none σ' := by
  unfold s_X2_visitSplit at h
  refine ex_of (by decide) rfl (Nat.le_of_ble_eq_true rfl) ?_
  show Ev _ _ 0 [(0, .ref a0), (1, .int (a1)), (2, .int (a2)), (3, .int (a3))] [] _ _ _
  refine ev_aload_nR 0 dX2_visitSplit_0 rfl ?_
  obtain ⟨g30, h⟩ := gd_some h
  obtain ⟨p31, e32, h⟩ := op_some h
  refine ev_getPR dX2_visitSplit_1 fl_X2_25 rfl g30 e32 ?_
  refine ev_aload_nR 0 dX2_visitSplit_4 rfl ?_
  refine ev_getI dX2_visitSplit_5 fl_X2_15 rfl g30 ?_
  obtain ⟨g33, h⟩ := gd_some h
  obtain ⟨r36, σ34, e35, h⟩ := bd_some h
  refine ev_invVi (As := [.int (sI σ a0 3)]) (st := []) dX2_visitSplit_8 cb_X8_at tp_752 tp_753 tp_754 kf8 rfl (by omega) g33 rfl rfl (Nat.le_of_ble_eq_true rfl) (x_X8_at e35) ?_
  refine ev_sipush (v := 200) dX2_visitSplit_11 (by decide) ?_
  refine ev_isub dX2_visitSplit_14 ?_
  obtain ⟨v37, e38, h⟩ := lt_some h
  refine ev_topI e38 ?_
  refine ev_istore (ls' := [(4, .int (v37)), (0, .ref a0), (1, .int (a1)), (2, .int (a2)), (3, .int (a3))]) dX2_visitSplit_15 (by decide) rfl ?_
  refine ev_aload_nR 1 dX2_visitSplit_17 rfl ?_
  obtain ⟨g39, h⟩ := gd_some h
  obtain ⟨r42, σ40, e41, h⟩ := bd_some h
  refine ev_invVi (As := []) (st := []) dX2_visitSplit_18 cb_X2_lacksNumber tp_756 tp_758 tp_42 kf2 rfl (by omega) g39 rfl rfl (Nat.le_of_ble_eq_true rfl) (x_X2_lacksNumber e41) ?_
  rcases it_some h with ⟨c43, h⟩ | ⟨c43, h⟩
  · refine ev_if_ne_n 50 dX2_visitSplit_21 rfl c43 ?_
    refine ev_aload_nR 1 dX2_visitSplit_24 rfl ?_
    refine ev_iload 0 dX2_visitSplit_25 rfl ?_
    rcases it_some h with ⟨c44, h⟩ | ⟨c44, h⟩
    · refine ev_if_lt (tgt := 43) dX2_visitSplit_27 rfl c44 ?_
      refine ev_sub (ls' := [(0, .ref a0), (1, .int (a1)), (2, .int (a2)), (3, .int (a3)), (4, .int (v37))]) [1, 2, 3, 4, 0] rfl ?_
      exact e_X2_visitSplit_43 hkg h
    · refine ev_if_lt_n 43 dX2_visitSplit_27 rfl c44 ?_
      refine ev_iload 0 dX2_visitSplit_30 rfl ?_
      refine ev_iload_n 3 dX2_visitSplit_32 rfl ?_
      refine ev_iconst (v := (-1)) dX2_visitSplit_33 (by decide) ?_
      refine ev_ixor dX2_visitSplit_34 ?_
      refine ev_iand dX2_visitSplit_35 ?_
      rcases it_some h with ⟨c45, h⟩ | ⟨c45, h⟩
      · refine ev_if_ne_n 43 dX2_visitSplit_36 rfl c45 ?_
        refine ev_iconst (v := 1) dX2_visitSplit_39 (by decide) ?_
        refine ev_goto (tgt := 44) dX2_visitSplit_40 rfl ?_
        refine ev_sub (ls' := [(0, .ref a0), (1, .int (a1)), (2, .int (a2)), (3, .int (a3)), (4, .int (v37))]) [1, 2, 3, 4, 0] rfl ?_
        exact e_X2_visitSplit_44 hkg h
      · refine ev_if_ne (tgt := 43) dX2_visitSplit_36 rfl c45 ?_
        refine ev_sub (ls' := [(0, .ref a0), (1, .int (a1)), (2, .int (a2)), (3, .int (a3)), (4, .int (v37))]) [1, 2, 3, 4, 0] rfl ?_
        exact e_X2_visitSplit_43 hkg h
  · refine ev_if_ne (tgt := 50) dX2_visitSplit_21 rfl c43 ?_
    exact ev_retV dX2_visitSplit_50 rfl h
def s_X2_visitChoice_87 (kg : Nat → Int32 → Int32 → Int32 → St → Option (Unit × St)) (a2 : Int32) (a3 : Int32) (t0 : Nat) (t1 : Int32) (σ : St) : Option (Unit × St) :=
 if isO σ 2 t0 = true then (bd (kg t0 t1 a2 (a3 + 1) σ) fun r4 σ2 =>
 some ((), σ2)) else none
set_option maxHeartbeats 4000000 in
set_option maxRecDepth 100000 in
theorem e_X2_visitChoice_87 {kg : Nat → Int32 → Int32 → Int32 → St → Option (Unit × St)} {dk : Nat} (hkg : ∀ {x0 : Nat} {x1 : Int32} {x2 : Int32} {x3 : Int32} {σ : St} {r : Unit} {σ' : St}, kg x0 x1 x2 x3 σ = some (r, σ') → Ex M_X2_visit dk [.ref x0, .int (x1), .int (x2), .int (x3)] σ none σ') {r : Unit} {σ' : St} : ∀ {a2 : Int32} {a3 : Int32} {t0 : Nat} {t1 : Int32} {σ : St}, s_X2_visitChoice_87 kg a2 a3 t0 t1 σ = some (r, σ') → Ev M_X2_visitChoice (dk + 3) 87 [(2, .int (a2)), (3, .int (a3))] [.int (t1), .ref t0] σ none σ' := by
  intro a2 a3 t0 t1 σ h
  unfold s_X2_visitChoice_87 at h
  refine ev_iload_n 0 dX2_visitChoice_87 rfl ?_
  refine ev_iload_n 1 dX2_visitChoice_88 rfl ?_
  refine ev_iconst (v := 1) dX2_visitChoice_89 (by decide) ?_
  refine ev_iadd dX2_visitChoice_90 ?_
  obtain ⟨g1, h⟩ := gd_some h
  obtain ⟨r4, σ2, e3, h⟩ := bd_some h
  refine ev_invVv (As := [.int (t1), .int (a2), .int (a3 + 1)]) (st := []) dX2_visitChoice_91 cb_X2_visit tp_737 tp_739 tp_39 kf2 rfl (by omega) g1 rfl rfl (Nat.le_of_ble_eq_true rfl) (hkg e3) ?_
  exact ev_retV dX2_visitChoice_94 rfl h
def s_X2_visitChoice_42 (kg : Nat → Int32 → Int32 → Int32 → St → Option (Unit × St)) (a0 : Nat) (a1 : Int32) (a2 : Int32) (a3 : Int32) (a4 : Int32) (t0 : Nat) (t1 : Int32) (σ : St) : Option (Unit × St) :=
 if isO σ 2 t0 = true then (bd (s_X2_refuseUnless t0 t1 σ) fun r8 σ6 =>
 if r8 = 0 then (if isO σ6 2 a0 = true then (lt (setI σ6 a0 3 ((sI σ6 a0 3) + 1)) fun σ11 =>
 if a4 = 300 then (op (sP σ11 a0 0) fun p20 =>
 if isO σ11 3 p20 = true then (bd (s_X3_first p20 a1 σ11) fun r25 σ23 =>
 s_X2_visitChoice_87 kg a2 a3 a0 r25 σ23) else none) else (op (sP σ11 a0 0) fun p14 =>
 if isO σ11 3 p14 = true then (bd (s_X3_second p14 a1 σ11) fun r19 σ17 =>
 s_X2_visitChoice_87 kg a2 a3 a0 r19 σ17) else none)) else none) else (some ((), σ6))) else none
set_option maxHeartbeats 4000000 in
set_option maxRecDepth 100000 in
theorem e_X2_visitChoice_42 {kg : Nat → Int32 → Int32 → Int32 → St → Option (Unit × St)} {dk : Nat} (hkg : ∀ {x0 : Nat} {x1 : Int32} {x2 : Int32} {x3 : Int32} {σ : St} {r : Unit} {σ' : St}, kg x0 x1 x2 x3 σ = some (r, σ') → Ex M_X2_visit dk [.ref x0, .int (x1), .int (x2), .int (x3)] σ none σ') {r : Unit} {σ' : St} : ∀ {a0 : Nat} {a1 : Int32} {a2 : Int32} {a3 : Int32} {a4 : Int32} {t0 : Nat} {t1 : Int32} {σ : St}, s_X2_visitChoice_42 kg a0 a1 a2 a3 a4 t0 t1 σ = some (r, σ') → Ev M_X2_visitChoice (dk + 3) 42 [(0, .ref a0), (1, .int (a1)), (2, .int (a2)), (3, .int (a3)), (4, .int (a4))] [.int (t1), .ref t0] σ none σ' := by
  intro a0 a1 a2 a3 a4 t0 t1 σ h
  unfold s_X2_visitChoice_42 at h
  obtain ⟨g5, h⟩ := gd_some h
  obtain ⟨r8, σ6, e7, h⟩ := bd_some h
  refine ev_invVi (As := [.int (t1)]) (st := []) dX2_visitChoice_42 cb_X2_refuseUnless tp_761 tp_763 tp_43 kf2 rfl (by omega) g5 rfl rfl (Nat.le_of_ble_eq_true rfl) (x_X2_refuseUnless e7) ?_
  rcases it_some h with ⟨c9, h⟩ | ⟨c9, h⟩
  · refine ev_if_eq (tgt := 49) dX2_visitChoice_45 rfl c9 ?_
    refine ev_aload_nR 0 dX2_visitChoice_49 rfl ?_
    refine ev_dup dX2_visitChoice_50 rfl ?_
    obtain ⟨g10, h⟩ := gd_some h
    refine ev_getI dX2_visitChoice_51 fl_X2_15 rfl g10 ?_
    refine ev_iconst (v := 1) dX2_visitChoice_54 (by decide) ?_
    refine ev_iadd dX2_visitChoice_55 ?_
    obtain ⟨σ11, e12, h⟩ := lt_some h
    refine ev_putI dX2_visitChoice_56 fl_X2_15 rfl (Or.inl rfl) g10 ⟨rfl, rfl⟩ ?_
    refine ev_st e12 ?_
    refine ev_aload_nR 0 dX2_visitChoice_59 rfl ?_
    refine ev_iload 4 dX2_visitChoice_60 rfl ?_
    refine ev_sipush (v := 300) dX2_visitChoice_62 (by decide) ?_
    rcases it_some h with ⟨c13, h⟩ | ⟨c13, h⟩
    · refine ev_icmp_ne_n 79 dX2_visitChoice_65 rfl c13 ?_
      refine ev_aload_nR 0 dX2_visitChoice_68 rfl ?_
      obtain ⟨p20, e21, h⟩ := op_some h
      refine ev_getPR dX2_visitChoice_69 fl_X2_21 rfl (isO_I e12 g10) e21 ?_
      refine ev_iload_n 1 dX2_visitChoice_72 rfl ?_
      obtain ⟨g22, h⟩ := gd_some h
      obtain ⟨r25, σ23, e24, h⟩ := bd_some h
      refine ev_invVi (As := [.int (a1)]) (st := [.ref a0]) dX2_visitChoice_73 cb_X3_first tp_747 tp_533 tp_534 kf3 rfl (by omega) g22 rfl rfl (Nat.le_of_ble_eq_true rfl) (x_X3_first e24) ?_
      refine ev_goto (tgt := 87) dX2_visitChoice_76 rfl ?_
      refine ev_sub (ls' := [(2, .int (a2)), (3, .int (a3))]) [2, 3] rfl ?_
      exact e_X2_visitChoice_87 hkg h
    · refine ev_icmp_ne (tgt := 79) dX2_visitChoice_65 rfl c13 ?_
      refine ev_aload_nR 0 dX2_visitChoice_79 rfl ?_
      obtain ⟨p14, e15, h⟩ := op_some h
      refine ev_getPR dX2_visitChoice_80 fl_X2_21 rfl (isO_I e12 g10) e15 ?_
      refine ev_iload_n 1 dX2_visitChoice_83 rfl ?_
      obtain ⟨g16, h⟩ := gd_some h
      obtain ⟨r19, σ17, e18, h⟩ := bd_some h
      refine ev_invVi (As := [.int (a1)]) (st := [.ref a0]) dX2_visitChoice_84 cb_X3_second tp_765 tp_541 tp_542 kf3 rfl (by omega) g16 rfl rfl (Nat.le_of_ble_eq_true rfl) (x_X3_second e18) ?_
      refine ev_sub (ls' := [(2, .int (a2)), (3, .int (a3))]) [2, 3] rfl ?_
      exact e_X2_visitChoice_87 hkg h
  · refine ev_if_eq_n 49 dX2_visitChoice_45 rfl c9 ?_
    exact ev_retV dX2_visitChoice_48 rfl h
def s_X2_visitChoice (kg : Nat → Int32 → Int32 → Int32 → St → Option (Unit × St)) (a0 : Nat) (a1 : Int32) (a2 : Int32) (a3 : Int32) (σ : St) : Option (Unit × St) :=
 if isO σ 2 a0 = true then (op (sP σ a0 1) fun p27 =>
 if isO σ 8 p27 = true then (bd (s_X8_at p27 (sI σ a0 3) σ) fun r32 σ30 =>
 if isO σ30 2 a0 = true then (bd (s_X2_lacksNumber a0 σ30) fun r36 σ34 =>
 if r36 = 0 then (if r32 = 300 then (s_X2_visitChoice_42 kg a0 a1 a2 a3 r32 a0 1 σ34) else (if r32 = 301 then (s_X2_visitChoice_42 kg a0 a1 a2 a3 r32 a0 1 σ34) else (s_X2_visitChoice_42 kg a0 a1 a2 a3 r32 a0 0 σ34))) else (some ((), σ34))) else none) else none) else none
set_option maxHeartbeats 4000000 in
set_option maxRecDepth 100000 in
theorem x_X2_visitChoice {kg : Nat → Int32 → Int32 → Int32 → St → Option (Unit × St)} {dk : Nat} (hkg : ∀ {x0 : Nat} {x1 : Int32} {x2 : Int32} {x3 : Int32} {σ : St} {r : Unit} {σ' : St}, kg x0 x1 x2 x3 σ = some (r, σ') → Ex M_X2_visit dk [.ref x0, .int (x1), .int (x2), .int (x3)] σ none σ') {a0 : Nat} {a1 : Int32} {a2 : Int32} {a3 : Int32} {σ : St} {r : Unit} {σ' : St} (h : s_X2_visitChoice kg a0 a1 a2 a3 σ = some (r, σ')) : Ex M_X2_visitChoice (dk + 3) [.ref a0, .int (a1), .int (a2), .int (a3)] σ none σ' := by
  unfold s_X2_visitChoice at h
  refine ex_of (by decide) rfl (Nat.le_of_ble_eq_true rfl) ?_
  show Ev _ _ 0 [(0, .ref a0), (1, .int (a1)), (2, .int (a2)), (3, .int (a3))] [] _ _ _
  refine ev_aload_nR 0 dX2_visitChoice_0 rfl ?_
  obtain ⟨g26, h⟩ := gd_some h
  obtain ⟨p27, e28, h⟩ := op_some h
  refine ev_getPR dX2_visitChoice_1 fl_X2_25 rfl g26 e28 ?_
  refine ev_aload_nR 0 dX2_visitChoice_4 rfl ?_
  refine ev_getI dX2_visitChoice_5 fl_X2_15 rfl g26 ?_
  obtain ⟨g29, h⟩ := gd_some h
  obtain ⟨r32, σ30, e31, h⟩ := bd_some h
  refine ev_invVi (As := [.int (sI σ a0 3)]) (st := []) dX2_visitChoice_8 cb_X8_at tp_752 tp_753 tp_754 kf8 rfl (by omega) g29 rfl rfl (Nat.le_of_ble_eq_true rfl) (x_X8_at e31) ?_
  refine ev_istore (ls' := [(4, .int (r32)), (0, .ref a0), (1, .int (a1)), (2, .int (a2)), (3, .int (a3))]) dX2_visitChoice_11 (by decide) rfl ?_
  refine ev_aload_nR 1 dX2_visitChoice_13 rfl ?_
  obtain ⟨g33, h⟩ := gd_some h
  obtain ⟨r36, σ34, e35, h⟩ := bd_some h
  refine ev_invVi (As := []) (st := []) dX2_visitChoice_14 cb_X2_lacksNumber tp_756 tp_758 tp_42 kf2 rfl (by omega) g33 rfl rfl (Nat.le_of_ble_eq_true rfl) (x_X2_lacksNumber e35) ?_
  rcases it_some h with ⟨c37, h⟩ | ⟨c37, h⟩
  · refine ev_if_ne_n 48 dX2_visitChoice_17 rfl c37 ?_
    refine ev_aload_nR 1 dX2_visitChoice_20 rfl ?_
    refine ev_iload 0 dX2_visitChoice_21 rfl ?_
    refine ev_sipush (v := 300) dX2_visitChoice_23 (by decide) ?_
    rcases it_some h with ⟨c38, h⟩ | ⟨c38, h⟩
    · refine ev_icmp_eq (tgt := 37) dX2_visitChoice_26 rfl c38 ?_
      refine ev_iconst (v := 1) dX2_visitChoice_37 (by decide) ?_
      refine ev_goto (tgt := 42) dX2_visitChoice_38 rfl ?_
      refine ev_sub (ls' := [(0, .ref a0), (1, .int (a1)), (2, .int (a2)), (3, .int (a3)), (4, .int (r32))]) [1, 2, 3, 4, 0] rfl ?_
      exact e_X2_visitChoice_42 hkg h
    · refine ev_icmp_eq_n 37 dX2_visitChoice_26 rfl c38 ?_
      refine ev_iload 0 dX2_visitChoice_29 rfl ?_
      refine ev_sipush (v := 301) dX2_visitChoice_31 (by decide) ?_
      rcases it_some h with ⟨c39, h⟩ | ⟨c39, h⟩
      · refine ev_icmp_ne_n 41 dX2_visitChoice_34 rfl c39 ?_
        refine ev_iconst (v := 1) dX2_visitChoice_37 (by decide) ?_
        refine ev_goto (tgt := 42) dX2_visitChoice_38 rfl ?_
        refine ev_sub (ls' := [(0, .ref a0), (1, .int (a1)), (2, .int (a2)), (3, .int (a3)), (4, .int (r32))]) [1, 2, 3, 4, 0] rfl ?_
        exact e_X2_visitChoice_42 hkg h
      · refine ev_icmp_ne (tgt := 41) dX2_visitChoice_34 rfl c39 ?_
        refine ev_iconst (v := 0) dX2_visitChoice_41 (by decide) ?_
        refine ev_sub (ls' := [(0, .ref a0), (1, .int (a1)), (2, .int (a2)), (3, .int (a3)), (4, .int (r32))]) [1, 2, 3, 4, 0] rfl ?_
        exact e_X2_visitChoice_42 hkg h
  · refine ev_if_ne (tgt := 48) dX2_visitChoice_17 rfl c37 ?_
    exact ev_retV dX2_visitChoice_48 rfl h
def s_X2_visitLoan (kg : Nat → Int32 → Int32 → Int32 → St → Option (Unit × St)) (a0 : Nat) (a1 : Int32) (a2 : Int32) (a3 : Int32) (σ : St) : Option (Unit × St) :=
 if isO σ 2 a0 = true then (op (sP σ a0 0) fun p2 =>
 if isO σ 3 p2 = true then (bd (s_X3_loanBit p2 a1 σ) fun r7 σ5 =>
 if (a2 &&& r7) = 0 then (if isO σ5 2 a0 = true then (op (sP σ5 a0 0) fun p10 =>
 if isO σ5 3 p10 = true then (bd (s_X3_first p10 a1 σ5) fun r15 σ13 =>
 if isO σ13 2 a0 = true then (bd (kg a0 r15 (a2 ||| r7) (a3 + 1) σ13) fun r19 σ17 =>
 some ((), σ17)) else none) else none) else none) else (if isO σ5 2 a0 = true then (lt (setI σ5 a0 2 5) fun σ21 =>
 some ((), σ21)) else none)) else none) else none
set_option maxHeartbeats 4000000 in
set_option maxRecDepth 100000 in
theorem x_X2_visitLoan {kg : Nat → Int32 → Int32 → Int32 → St → Option (Unit × St)} {dk : Nat} (hkg : ∀ {x0 : Nat} {x1 : Int32} {x2 : Int32} {x3 : Int32} {σ : St} {r : Unit} {σ' : St}, kg x0 x1 x2 x3 σ = some (r, σ') → Ex M_X2_visit dk [.ref x0, .int (x1), .int (x2), .int (x3)] σ none σ') {a0 : Nat} {a1 : Int32} {a2 : Int32} {a3 : Int32} {σ : St} {r : Unit} {σ' : St} (h : s_X2_visitLoan kg a0 a1 a2 a3 σ = some (r, σ')) : Ex M_X2_visitLoan (dk + 4) [.ref a0, .int (a1), .int (a2), .int (a3)] σ none σ' := by
  unfold s_X2_visitLoan at h
  refine ex_of (by decide) rfl (Nat.le_of_ble_eq_true rfl) ?_
  show Ev _ _ 0 [(0, .ref a0), (1, .int (a1)), (2, .int (a2)), (3, .int (a3))] [] _ _ _
  refine ev_aload_nR 0 dX2_visitLoan_0 rfl ?_
  obtain ⟨g1, h⟩ := gd_some h
  obtain ⟨p2, e3, h⟩ := op_some h
  refine ev_getPR dX2_visitLoan_1 fl_X2_21 rfl g1 e3 ?_
  refine ev_iload_n 1 dX2_visitLoan_4 rfl ?_
  obtain ⟨g4, h⟩ := gd_some h
  obtain ⟨r7, σ5, e6, h⟩ := bd_some h
  refine ev_invVi (As := [.int (a1)]) (st := []) dX2_visitLoan_5 cb_X3_loanBit tp_774 tp_585 tp_586 kf3 rfl (by omega) g4 rfl rfl (Nat.le_of_ble_eq_true rfl) (x_X3_loanBit e6) ?_
  refine ev_istore (ls' := [(4, .int (r7)), (0, .ref a0), (1, .int (a1)), (2, .int (a2)), (3, .int (a3))]) dX2_visitLoan_8 (by decide) rfl ?_
  refine ev_iload_n 3 dX2_visitLoan_10 rfl ?_
  refine ev_iload 0 dX2_visitLoan_11 rfl ?_
  refine ev_iand dX2_visitLoan_13 ?_
  rcases it_some h with ⟨c8, h⟩ | ⟨c8, h⟩
  · refine ev_if_eq (tgt := 23) dX2_visitLoan_14 rfl c8 ?_
    refine ev_aload_nR 1 dX2_visitLoan_23 rfl ?_
    refine ev_aload_nR 1 dX2_visitLoan_24 rfl ?_
    obtain ⟨g9, h⟩ := gd_some h
    obtain ⟨p10, e11, h⟩ := op_some h
    refine ev_getPR dX2_visitLoan_25 fl_X2_21 rfl g9 e11 ?_
    refine ev_iload_n 2 dX2_visitLoan_28 rfl ?_
    obtain ⟨g12, h⟩ := gd_some h
    obtain ⟨r15, σ13, e14, h⟩ := bd_some h
    refine ev_invVi (As := [.int (a1)]) (st := [.ref a0]) dX2_visitLoan_29 cb_X3_first tp_747 tp_533 tp_534 kf3 rfl (by omega) g12 rfl rfl (Nat.le_of_ble_eq_true rfl) (x_X3_first e14) ?_
    refine ev_iload_n 3 dX2_visitLoan_32 rfl ?_
    refine ev_iload 0 dX2_visitLoan_33 rfl ?_
    refine ev_ior dX2_visitLoan_35 ?_
    refine ev_iload_n 4 dX2_visitLoan_36 rfl ?_
    refine ev_iconst (v := 1) dX2_visitLoan_37 (by decide) ?_
    refine ev_iadd dX2_visitLoan_38 ?_
    obtain ⟨g16, h⟩ := gd_some h
    obtain ⟨r19, σ17, e18, h⟩ := bd_some h
    refine ev_invVv (As := [.int (r15), .int (a2 ||| r7), .int (a3 + 1)]) (st := []) dX2_visitLoan_39 cb_X2_visit tp_737 tp_739 tp_39 kf2 rfl (by omega) g16 rfl rfl (Nat.le_of_ble_eq_true rfl) (hkg e18) ?_
    exact ev_retV dX2_visitLoan_42 rfl h
  · refine ev_if_eq_n 23 dX2_visitLoan_14 rfl c8 ?_
    refine ev_aload_nR 1 dX2_visitLoan_17 rfl ?_
    refine ev_iconst (v := 5) dX2_visitLoan_18 (by decide) ?_
    obtain ⟨g20, h⟩ := gd_some h
    obtain ⟨σ21, e22, h⟩ := lt_some h
    refine ev_putI dX2_visitLoan_19 fl_X2_11 rfl (Or.inl rfl) g20 ⟨rfl, rfl⟩ ?_
    refine ev_st e22 ?_
    exact ev_retV dX2_visitLoan_22 rfl h
def s_X2_offerOf (a0 : Int32) (σ : St) : Option (Int32 × St) :=
 lt ((a0 - a0 / 100 * 100) / 10 : Int32) fun v1 =>
 if (100 : Int32) ≤ a0 then (if (4 : Int32) ≤ v1 then (some ((-1), σ)) else (some (8 + v1, σ))) else (if (8 : Int32) ≤ v1 then (some ((-1), σ)) else (some (v1, σ)))
set_option maxHeartbeats 4000000 in
set_option maxRecDepth 100000 in
theorem x_X2_offerOf {a0 : Int32} {σ : St} {r : Int32} {σ' : St} (h : s_X2_offerOf a0 σ = some (r, σ')) : Ex M_X2_offerOf (1) [.int (a0)] σ (some (.int r)) σ' := by
  unfold s_X2_offerOf at h
  refine ex_of (by decide) rfl (Nat.le_of_ble_eq_true rfl) ?_
  show Ev _ _ 0 [(0, .int (a0))] [] _ _ _
  refine ev_iload_n 0 dX2_offerOf_0 rfl ?_
  refine ev_bipush (v := 100) dX2_offerOf_1 (by decide) ?_
  refine ev_irem dX2_offerOf_3 (by decide) ?_
  refine ev_bipush (v := 10) dX2_offerOf_4 (by decide) ?_
  refine ev_idiv dX2_offerOf_6 (by decide) ?_
  obtain ⟨v1, e2, h⟩ := lt_some h
  refine ev_topI e2 ?_
  refine ev_istore_n (ls' := [(1, .int (v1)), (0, .int (a0))]) dX2_offerOf_7 (by decide) rfl ?_
  refine ev_iload_n 1 dX2_offerOf_8 rfl ?_
  refine ev_bipush (v := 100) dX2_offerOf_9 (by decide) ?_
  rcases it_some h with ⟨c3, h⟩ | ⟨c3, h⟩
  · refine ev_icmp_ge (tgt := 26) dX2_offerOf_11 rfl c3 ?_
    refine ev_iload_n 0 dX2_offerOf_26 rfl ?_
    refine ev_iconst (v := 4) dX2_offerOf_27 (by decide) ?_
    rcases it_some h with ⟨c4, h⟩ | ⟨c4, h⟩
    · refine ev_icmp_ge (tgt := 38) dX2_offerOf_28 rfl c4 ?_
      refine ev_iconst (v := (-1)) dX2_offerOf_38 (by decide) ?_
      exact ev_retI .int dX2_offerOf_39 rfl rfl h
    · refine ev_icmp_ge_n 38 dX2_offerOf_28 rfl c4 ?_
      refine ev_bipush (v := 8) dX2_offerOf_31 (by decide) ?_
      refine ev_iload_n 0 dX2_offerOf_33 rfl ?_
      refine ev_iadd dX2_offerOf_34 ?_
      refine ev_goto (tgt := 39) dX2_offerOf_35 rfl ?_
      exact ev_retI .int dX2_offerOf_39 rfl rfl h
  · refine ev_icmp_ge_n 26 dX2_offerOf_11 rfl c3 ?_
    refine ev_iload_n 0 dX2_offerOf_14 rfl ?_
    refine ev_bipush (v := 8) dX2_offerOf_15 (by decide) ?_
    rcases it_some h with ⟨c5, h⟩ | ⟨c5, h⟩
    · refine ev_icmp_ge (tgt := 24) dX2_offerOf_17 rfl c5 ?_
      refine ev_iconst (v := (-1)) dX2_offerOf_24 (by decide) ?_
      exact ev_retI .int dX2_offerOf_25 rfl rfl h
    · refine ev_icmp_ge_n 24 dX2_offerOf_17 rfl c5 ?_
      refine ev_iload_n 0 dX2_offerOf_20 rfl ?_
      refine ev_goto (tgt := 25) dX2_offerOf_21 rfl ?_
      exact ev_retI .int dX2_offerOf_25 rfl rfl h
def s_X2_visitAtom_100 (kg : Nat → Int32 → Int32 → Int32 → St → Option (Unit × St)) (a0 : Nat) (a3 : Int32) (a5 : Int32) (a6 : Int32) (a7 : Int32) (t0 : Nat) (t1 : Int32) (σ : St) : Option (Unit × St) :=
 if isO σ 2 t0 = true then (bd (s_X2_refuseUnless t0 t1 σ) fun r4 σ2 =>
 if r4 = 0 then (if isO σ2 2 a0 = true then (lt (setI σ2 a0 3 ((sI σ2 a0 3) + 1)) fun σ7 =>
 op (sP σ7 a0 0) fun p9 =>
 if isO σ7 3 p9 = true then (bd (s_X3_body p9 a5 a6 σ7) fun r14 σ12 =>
 if r14 = ((-1)) then (if isO σ12 2 a0 = true then (bd (s_X2_demandEmpty a0 a7 σ12) fun r23 σ21 =>
 some ((), σ21)) else none) else (if isO σ12 2 a0 = true then (bd (kg a0 r14 a7 (a3 + 1) σ12) fun r19 σ17 =>
 some ((), σ17)) else none)) else none) else none) else (some ((), σ2))) else none
set_option maxHeartbeats 4000000 in
set_option maxRecDepth 100000 in
theorem e_X2_visitAtom_100 {kg : Nat → Int32 → Int32 → Int32 → St → Option (Unit × St)} {dk : Nat} (hkg : ∀ {x0 : Nat} {x1 : Int32} {x2 : Int32} {x3 : Int32} {σ : St} {r : Unit} {σ' : St}, kg x0 x1 x2 x3 σ = some (r, σ') → Ex M_X2_visit dk [.ref x0, .int (x1), .int (x2), .int (x3)] σ none σ') {r : Unit} {σ' : St} : ∀ {a0 : Nat} {a3 : Int32} {a5 : Int32} {a6 : Int32} {a7 : Int32} {t0 : Nat} {t1 : Int32} {σ : St}, s_X2_visitAtom_100 kg a0 a3 a5 a6 a7 t0 t1 σ = some (r, σ') → Ev M_X2_visitAtom (dk + 3) 100 [(0, .ref a0), (3, .int (a3)), (5, .int (a5)), (6, .int (a6)), (7, .int (a7))] [.int (t1), .ref t0] σ none σ' := by
  intro a0 a3 a5 a6 a7 t0 t1 σ h
  unfold s_X2_visitAtom_100 at h
  obtain ⟨g1, h⟩ := gd_some h
  obtain ⟨r4, σ2, e3, h⟩ := bd_some h
  refine ev_invVi (As := [.int (t1)]) (st := []) dX2_visitAtom_100 cb_X2_refuseUnless tp_761 tp_763 tp_43 kf2 rfl (by omega) g1 rfl rfl (Nat.le_of_ble_eq_true rfl) (x_X2_refuseUnless e3) ?_
  rcases it_some h with ⟨c5, h⟩ | ⟨c5, h⟩
  · refine ev_if_eq (tgt := 107) dX2_visitAtom_103 rfl c5 ?_
    refine ev_aload_nR 0 dX2_visitAtom_107 rfl ?_
    refine ev_dup dX2_visitAtom_108 rfl ?_
    obtain ⟨g6, h⟩ := gd_some h
    refine ev_getI dX2_visitAtom_109 fl_X2_15 rfl g6 ?_
    refine ev_iconst (v := 1) dX2_visitAtom_112 (by decide) ?_
    refine ev_iadd dX2_visitAtom_113 ?_
    obtain ⟨σ7, e8, h⟩ := lt_some h
    refine ev_putI dX2_visitAtom_114 fl_X2_15 rfl (Or.inl rfl) g6 ⟨rfl, rfl⟩ ?_
    refine ev_st e8 ?_
    refine ev_aload_nR 0 dX2_visitAtom_117 rfl ?_
    obtain ⟨p9, e10, h⟩ := op_some h
    refine ev_getPR dX2_visitAtom_118 fl_X2_21 rfl (isO_I e8 g6) e10 ?_
    refine ev_iload 2 dX2_visitAtom_121 rfl ?_
    refine ev_iload 3 dX2_visitAtom_123 rfl ?_
    obtain ⟨g11, h⟩ := gd_some h
    obtain ⟨r14, σ12, e13, h⟩ := bd_some h
    refine ev_invVi (As := [.int (a5), .int (a6)]) (st := []) dX2_visitAtom_125 cb_X3_body tp_784 tp_602 tp_603 kf3 rfl (by omega) g11 rfl rfl (Nat.le_of_ble_eq_true rfl) (x_X3_body e13) ?_
    refine ev_istore (ls' := [(8, .int (r14)), (0, .ref a0), (3, .int (a3)), (5, .int (a5)), (6, .int (a6)), (7, .int (a7))]) dX2_visitAtom_128 (by decide) rfl ?_
    refine ev_iload 0 dX2_visitAtom_130 rfl ?_
    refine ev_iconst (v := (-1)) dX2_visitAtom_132 (by decide) ?_
    rcases it_some h with ⟨c15, h⟩ | ⟨c15, h⟩
    · refine ev_icmp_ne_n 145 dX2_visitAtom_133 rfl c15 ?_
      refine ev_aload_nR 1 dX2_visitAtom_136 rfl ?_
      refine ev_iload 5 dX2_visitAtom_137 rfl ?_
      obtain ⟨g20, h⟩ := gd_some h
      obtain ⟨r23, σ21, e22, h⟩ := bd_some h
      refine ev_invVv (As := [.int (a7)]) (st := []) dX2_visitAtom_139 cb_X2_demandEmpty tp_743 tp_745 tp_40 kf2 rfl (by omega) g20 rfl rfl (Nat.le_of_ble_eq_true rfl) (x_X2_demandEmpty e22) ?_
      refine ev_goto (tgt := 156) dX2_visitAtom_142 rfl ?_
      exact ev_retV dX2_visitAtom_156 rfl h
    · refine ev_icmp_ne (tgt := 145) dX2_visitAtom_133 rfl c15 ?_
      refine ev_aload_nR 1 dX2_visitAtom_145 rfl ?_
      refine ev_iload 0 dX2_visitAtom_146 rfl ?_
      refine ev_iload 5 dX2_visitAtom_148 rfl ?_
      refine ev_iload_n 2 dX2_visitAtom_150 rfl ?_
      refine ev_iconst (v := 1) dX2_visitAtom_151 (by decide) ?_
      refine ev_iadd dX2_visitAtom_152 ?_
      obtain ⟨g16, h⟩ := gd_some h
      obtain ⟨r19, σ17, e18, h⟩ := bd_some h
      refine ev_invVv (As := [.int (r14), .int (a7), .int (a3 + 1)]) (st := []) dX2_visitAtom_153 cb_X2_visit tp_737 tp_739 tp_39 kf2 rfl (by omega) g16 rfl rfl (Nat.le_of_ble_eq_true rfl) (hkg e18) ?_
      exact ev_retV dX2_visitAtom_156 rfl h
  · refine ev_if_eq_n 107 dX2_visitAtom_103 rfl c5 ?_
    exact ev_retV dX2_visitAtom_106 rfl h
def s_X2_visitAtom_99 (kg : Nat → Int32 → Int32 → Int32 → St → Option (Unit × St)) (a0 : Nat) (a3 : Int32) (a5 : Int32) (a6 : Int32) (a7 : Int32) (t0 : Nat) (σ : St) : Option (Unit × St) :=
 s_X2_visitAtom_100 kg a0 a3 a5 a6 a7 t0 0 σ
set_option maxHeartbeats 4000000 in
set_option maxRecDepth 100000 in
theorem e_X2_visitAtom_99 {kg : Nat → Int32 → Int32 → Int32 → St → Option (Unit × St)} {dk : Nat} (hkg : ∀ {x0 : Nat} {x1 : Int32} {x2 : Int32} {x3 : Int32} {σ : St} {r : Unit} {σ' : St}, kg x0 x1 x2 x3 σ = some (r, σ') → Ex M_X2_visit dk [.ref x0, .int (x1), .int (x2), .int (x3)] σ none σ') {r : Unit} {σ' : St} : ∀ {a0 : Nat} {a3 : Int32} {a5 : Int32} {a6 : Int32} {a7 : Int32} {t0 : Nat} {σ : St}, s_X2_visitAtom_99 kg a0 a3 a5 a6 a7 t0 σ = some (r, σ') → Ev M_X2_visitAtom (dk + 3) 99 [(0, .ref a0), (3, .int (a3)), (5, .int (a5)), (6, .int (a6)), (7, .int (a7))] [.ref t0] σ none σ' := by
  intro a0 a3 a5 a6 a7 t0 σ h
  unfold s_X2_visitAtom_99 at h
  refine ev_iconst (v := 0) dX2_visitAtom_99 (by decide) ?_
  refine ev_sub (ls' := [(0, .ref a0), (3, .int (a3)), (5, .int (a5)), (6, .int (a6)), (7, .int (a7))]) [0, 1, 2, 3, 4] rfl ?_
  exact e_X2_visitAtom_100 hkg h
def s_X2_visitAtom_71 (kg : Nat → Int32 → Int32 → Int32 → St → Option (Unit × St)) (a0 : Nat) (a1 : Int32) (a3 : Int32) (a5 : Int32) (a6 : Int32) (t0 : Int32) (σ : St) : Option (Unit × St) :=
 if t0 = ((-1)) then (s_X2_visitAtom_99 kg a0 a3 a5 a6 t0 a0 σ) else (if isO σ 2 a0 = true then (op (sP σ a0 0) fun p26 =>
 if isO σ 3 p26 = true then (bd (s_X3_hasHead p26 a5 a6 a1 σ) fun r31 σ29 =>
 if r31 = 0 then (s_X2_visitAtom_99 kg a0 a3 a5 a6 t0 a0 σ29) else (s_X2_visitAtom_100 kg a0 a3 a5 a6 t0 a0 1 σ29)) else none) else none)
set_option maxHeartbeats 4000000 in
set_option maxRecDepth 100000 in
theorem e_X2_visitAtom_71 {kg : Nat → Int32 → Int32 → Int32 → St → Option (Unit × St)} {dk : Nat} (hkg : ∀ {x0 : Nat} {x1 : Int32} {x2 : Int32} {x3 : Int32} {σ : St} {r : Unit} {σ' : St}, kg x0 x1 x2 x3 σ = some (r, σ') → Ex M_X2_visit dk [.ref x0, .int (x1), .int (x2), .int (x3)] σ none σ') {r : Unit} {σ' : St} : ∀ {a0 : Nat} {a1 : Int32} {a3 : Int32} {a5 : Int32} {a6 : Int32} {t0 : Int32} {σ : St}, s_X2_visitAtom_71 kg a0 a1 a3 a5 a6 t0 σ = some (r, σ') → Ev M_X2_visitAtom (dk + 3) 71 [(0, .ref a0), (1, .int (a1)), (3, .int (a3)), (5, .int (a5)), (6, .int (a6))] [.int (t0)] σ none σ' := by
  intro a0 a1 a3 a5 a6 t0 σ h
  unfold s_X2_visitAtom_71 at h
  refine ev_istore (ls' := [(7, .int (t0)), (0, .ref a0), (1, .int (a1)), (3, .int (a3)), (5, .int (a5)), (6, .int (a6))]) dX2_visitAtom_71 (by decide) rfl ?_
  refine ev_aload_nR 1 dX2_visitAtom_73 rfl ?_
  refine ev_iload 0 dX2_visitAtom_74 rfl ?_
  refine ev_iconst (v := (-1)) dX2_visitAtom_76 (by decide) ?_
  rcases it_some h with ⟨c24, h⟩ | ⟨c24, h⟩
  · refine ev_icmp_eq (tgt := 99) dX2_visitAtom_77 rfl c24 ?_
    refine ev_sub (ls' := [(0, .ref a0), (3, .int (a3)), (5, .int (a5)), (6, .int (a6)), (7, .int (t0))]) [1, 3, 4, 5, 0] rfl ?_
    exact e_X2_visitAtom_99 hkg h
  · refine ev_icmp_eq_n 99 dX2_visitAtom_77 rfl c24 ?_
    refine ev_aload_nR 1 dX2_visitAtom_80 rfl ?_
    obtain ⟨g25, h⟩ := gd_some h
    obtain ⟨p26, e27, h⟩ := op_some h
    refine ev_getPR dX2_visitAtom_81 fl_X2_21 rfl g25 e27 ?_
    refine ev_iload 4 dX2_visitAtom_84 rfl ?_
    refine ev_iload 5 dX2_visitAtom_86 rfl ?_
    refine ev_iload_n 2 dX2_visitAtom_88 rfl ?_
    obtain ⟨g28, h⟩ := gd_some h
    obtain ⟨r31, σ29, e30, h⟩ := bd_some h
    refine ev_invVi (As := [.int (a5), .int (a6), .int (a1)]) (st := [.ref a0]) dX2_visitAtom_89 cb_X3_hasHead tp_783 tp_598 tp_599 kf3 rfl (by omega) g28 rfl rfl (Nat.le_of_ble_eq_true rfl) (x_X3_hasHead e30) ?_
    rcases it_some h with ⟨c32, h⟩ | ⟨c32, h⟩
    · refine ev_if_eq (tgt := 99) dX2_visitAtom_92 rfl c32 ?_
      refine ev_sub (ls' := [(0, .ref a0), (3, .int (a3)), (5, .int (a5)), (6, .int (a6)), (7, .int (t0))]) [1, 3, 4, 5, 0] rfl ?_
      exact e_X2_visitAtom_99 hkg h
    · refine ev_if_eq_n 99 dX2_visitAtom_92 rfl c32 ?_
      refine ev_iconst (v := 1) dX2_visitAtom_95 (by decide) ?_
      refine ev_goto (tgt := 100) dX2_visitAtom_96 rfl ?_
      refine ev_sub (ls' := [(0, .ref a0), (3, .int (a3)), (5, .int (a5)), (6, .int (a6)), (7, .int (t0))]) [1, 3, 4, 5, 0] rfl ?_
      exact e_X2_visitAtom_100 hkg h
def s_X2_visitAtom_34 (kg : Nat → Int32 → Int32 → Int32 → St → Option (Unit × St)) (a0 : Nat) (a1 : Int32) (a2 : Int32) (a3 : Int32) (a4 : Int32) (t0 : Nat) (t1 : Int32) (σ : St) : Option (Unit × St) :=
 if isO σ 2 t0 = true then (bd (s_X2_refuseUnless t0 t1 σ) fun r36 σ34 =>
 if r36 = 0 then (bd (s_X2_offerOf a4 σ34) fun r40 σ38 =>
 lt (a4 - a4 / 10 * 10 : Int32) fun v41 =>
 if r40 = ((-1)) then (s_X2_visitAtom_71 kg a0 a1 a3 r40 v41 ((-1)) σ38) else (bd (s_X3_afterUse r40 a2 σ38) fun r46 σ44 =>
 s_X2_visitAtom_71 kg a0 a1 a3 r40 v41 r46 σ44)) else (some ((), σ34))) else none
set_option maxHeartbeats 4000000 in
set_option maxRecDepth 100000 in
theorem e_X2_visitAtom_34 {kg : Nat → Int32 → Int32 → Int32 → St → Option (Unit × St)} {dk : Nat} (hkg : ∀ {x0 : Nat} {x1 : Int32} {x2 : Int32} {x3 : Int32} {σ : St} {r : Unit} {σ' : St}, kg x0 x1 x2 x3 σ = some (r, σ') → Ex M_X2_visit dk [.ref x0, .int (x1), .int (x2), .int (x3)] σ none σ') {r : Unit} {σ' : St} : ∀ {a0 : Nat} {a1 : Int32} {a2 : Int32} {a3 : Int32} {a4 : Int32} {t0 : Nat} {t1 : Int32} {σ : St}, s_X2_visitAtom_34 kg a0 a1 a2 a3 a4 t0 t1 σ = some (r, σ') → Ev M_X2_visitAtom (dk + 3) 34 [(0, .ref a0), (1, .int (a1)), (2, .int (a2)), (3, .int (a3)), (4, .int (a4))] [.int (t1), .ref t0] σ none σ' := by
  intro a0 a1 a2 a3 a4 t0 t1 σ h
  unfold s_X2_visitAtom_34 at h
  obtain ⟨g33, h⟩ := gd_some h
  obtain ⟨r36, σ34, e35, h⟩ := bd_some h
  refine ev_invVi (As := [.int (t1)]) (st := []) dX2_visitAtom_34 cb_X2_refuseUnless tp_761 tp_763 tp_43 kf2 rfl (by omega) g33 rfl rfl (Nat.le_of_ble_eq_true rfl) (x_X2_refuseUnless e35) ?_
  rcases it_some h with ⟨c37, h⟩ | ⟨c37, h⟩
  · refine ev_if_eq (tgt := 41) dX2_visitAtom_37 rfl c37 ?_
    refine ev_iload 4 dX2_visitAtom_41 rfl ?_
    obtain ⟨r40, σ38, e39, h⟩ := bd_some h
    refine ev_invSi (As := [.int (a4)]) (st := []) dX2_visitAtom_43 cb_X2_offerOf tp_779 tp_780 (by omega) rfl rfl (Nat.le_of_ble_eq_true rfl) (x_X2_offerOf e39) ?_
    refine ev_istore (ls' := [(5, .int (r40)), (0, .ref a0), (1, .int (a1)), (2, .int (a2)), (3, .int (a3)), (4, .int (a4))]) dX2_visitAtom_46 (by decide) rfl ?_
    refine ev_iload 5 dX2_visitAtom_48 rfl ?_
    refine ev_bipush (v := 10) dX2_visitAtom_50 (by decide) ?_
    refine ev_irem dX2_visitAtom_52 (by decide) ?_
    obtain ⟨v41, e42, h⟩ := lt_some h
    refine ev_topI e42 ?_
    refine ev_istore (ls' := [(6, .int (v41)), (5, .int (r40)), (0, .ref a0), (1, .int (a1)), (2, .int (a2)), (3, .int (a3)), (4, .int (a4))]) dX2_visitAtom_53 (by decide) rfl ?_
    refine ev_iload 1 dX2_visitAtom_55 rfl ?_
    refine ev_iconst (v := (-1)) dX2_visitAtom_57 (by decide) ?_
    rcases it_some h with ⟨c43, h⟩ | ⟨c43, h⟩
    · refine ev_icmp_ne_n 65 dX2_visitAtom_58 rfl c43 ?_
      refine ev_iconst (v := (-1)) dX2_visitAtom_61 (by decide) ?_
      refine ev_goto (tgt := 71) dX2_visitAtom_62 rfl ?_
      refine ev_sub (ls' := [(0, .ref a0), (1, .int (a1)), (3, .int (a3)), (5, .int (r40)), (6, .int (v41))]) [2, 3, 5, 1, 0] rfl ?_
      exact e_X2_visitAtom_71 hkg h
    · refine ev_icmp_ne (tgt := 65) dX2_visitAtom_58 rfl c43 ?_
      refine ev_iload 1 dX2_visitAtom_65 rfl ?_
      refine ev_iload_n 4 dX2_visitAtom_67 rfl ?_
      obtain ⟨r46, σ44, e45, h⟩ := bd_some h
      refine ev_invSi (As := [.int (r40), .int (a2)]) (st := []) dX2_visitAtom_68 cb_X3_afterUse tp_782 tp_689 (by omega) rfl rfl (Nat.le_of_ble_eq_true rfl) (x_X3_afterUse e45) ?_
      refine ev_sub (ls' := [(0, .ref a0), (1, .int (a1)), (3, .int (a3)), (5, .int (r40)), (6, .int (v41))]) [2, 3, 5, 1, 0] rfl ?_
      exact e_X2_visitAtom_71 hkg h
  · refine ev_if_eq_n 41 dX2_visitAtom_37 rfl c37 ?_
    exact ev_retV dX2_visitAtom_40 rfl h
def s_X2_visitAtom (kg : Nat → Int32 → Int32 → Int32 → St → Option (Unit × St)) (a0 : Nat) (a1 : Int32) (a2 : Int32) (a3 : Int32) (σ : St) : Option (Unit × St) :=
 if isO σ 2 a0 = true then (op (sP σ a0 1) fun p48 =>
 if isO σ 8 p48 = true then (bd (s_X8_at p48 (sI σ a0 3) σ) fun r53 σ51 =>
 if isO σ51 2 a0 = true then (bd (s_X2_lacksNumber a0 σ51) fun r57 σ55 =>
 if r57 = 0 then (if (200 : Int32) ≤ r53 then (s_X2_visitAtom_34 kg a0 a1 a2 a3 r53 a0 0 σ55) else (s_X2_visitAtom_34 kg a0 a1 a2 a3 r53 a0 1 σ55)) else (some ((), σ55))) else none) else none) else none
set_option maxHeartbeats 4000000 in
set_option maxRecDepth 100000 in
theorem x_X2_visitAtom {kg : Nat → Int32 → Int32 → Int32 → St → Option (Unit × St)} {dk : Nat} (hkg : ∀ {x0 : Nat} {x1 : Int32} {x2 : Int32} {x3 : Int32} {σ : St} {r : Unit} {σ' : St}, kg x0 x1 x2 x3 σ = some (r, σ') → Ex M_X2_visit dk [.ref x0, .int (x1), .int (x2), .int (x3)] σ none σ') {a0 : Nat} {a1 : Int32} {a2 : Int32} {a3 : Int32} {σ : St} {r : Unit} {σ' : St} (h : s_X2_visitAtom kg a0 a1 a2 a3 σ = some (r, σ')) : Ex M_X2_visitAtom (dk + 3) [.ref a0, .int (a1), .int (a2), .int (a3)] σ none σ' := by
  unfold s_X2_visitAtom at h
  refine ex_of (by decide) rfl (Nat.le_of_ble_eq_true rfl) ?_
  show Ev _ _ 0 [(0, .ref a0), (1, .int (a1)), (2, .int (a2)), (3, .int (a3))] [] _ _ _
  refine ev_aload_nR 0 dX2_visitAtom_0 rfl ?_
  obtain ⟨g47, h⟩ := gd_some h
  obtain ⟨p48, e49, h⟩ := op_some h
  refine ev_getPR dX2_visitAtom_1 fl_X2_25 rfl g47 e49 ?_
  refine ev_aload_nR 0 dX2_visitAtom_4 rfl ?_
  refine ev_getI dX2_visitAtom_5 fl_X2_15 rfl g47 ?_
  obtain ⟨g50, h⟩ := gd_some h
  obtain ⟨r53, σ51, e52, h⟩ := bd_some h
  refine ev_invVi (As := [.int (sI σ a0 3)]) (st := []) dX2_visitAtom_8 cb_X8_at tp_752 tp_753 tp_754 kf8 rfl (by omega) g50 rfl rfl (Nat.le_of_ble_eq_true rfl) (x_X8_at e52) ?_
  refine ev_istore (ls' := [(4, .int (r53)), (0, .ref a0), (1, .int (a1)), (2, .int (a2)), (3, .int (a3))]) dX2_visitAtom_11 (by decide) rfl ?_
  refine ev_aload_nR 1 dX2_visitAtom_13 rfl ?_
  obtain ⟨g54, h⟩ := gd_some h
  obtain ⟨r57, σ55, e56, h⟩ := bd_some h
  refine ev_invVi (As := []) (st := []) dX2_visitAtom_14 cb_X2_lacksNumber tp_756 tp_758 tp_42 kf2 rfl (by omega) g54 rfl rfl (Nat.le_of_ble_eq_true rfl) (x_X2_lacksNumber e56) ?_
  rcases it_some h with ⟨c58, h⟩ | ⟨c58, h⟩
  · refine ev_if_ne_n 40 dX2_visitAtom_17 rfl c58 ?_
    refine ev_aload_nR 1 dX2_visitAtom_20 rfl ?_
    refine ev_iload 0 dX2_visitAtom_21 rfl ?_
    refine ev_sipush (v := 200) dX2_visitAtom_23 (by decide) ?_
    rcases it_some h with ⟨c59, h⟩ | ⟨c59, h⟩
    · refine ev_icmp_ge (tgt := 33) dX2_visitAtom_26 rfl c59 ?_
      refine ev_iconst (v := 0) dX2_visitAtom_33 (by decide) ?_
      refine ev_sub (ls' := [(0, .ref a0), (1, .int (a1)), (2, .int (a2)), (3, .int (a3)), (4, .int (r53))]) [1, 2, 3, 4, 0] rfl ?_
      exact e_X2_visitAtom_34 hkg h
    · refine ev_icmp_ge_n 33 dX2_visitAtom_26 rfl c59 ?_
      refine ev_iconst (v := 1) dX2_visitAtom_29 (by decide) ?_
      refine ev_goto (tgt := 34) dX2_visitAtom_30 rfl ?_
      refine ev_sub (ls' := [(0, .ref a0), (1, .int (a1)), (2, .int (a2)), (3, .int (a3)), (4, .int (r53))]) [1, 2, 3, 4, 0] rfl ?_
      exact e_X2_visitAtom_34 hkg h
  · refine ev_if_ne (tgt := 40) dX2_visitAtom_17 rfl c58 ?_
    exact ev_retV dX2_visitAtom_40 rfl h
def sc_X2_visit (kg : Nat → Int32 → Int32 → Int32 → St → Option (Unit × St)) (a0 : Nat) (a1 : Int32) (a2 : Int32) (a3 : Int32) (σ : St) : Option (Unit × St) :=
 if isO σ 2 a0 = true then (if (sI σ a0 2) = 0 then (if a3 ≤ 12 then (lt (if (sI σ a0 4) < a3 then a3 else (sI σ a0 4) : Int32) fun v4 =>
 lt (setI σ a0 4 v4) fun σ6 =>
 op (sP σ6 a0 0) fun p8 =>
 if isO σ6 3 p8 = true then (bd (s_X3_kind p8 a1 σ6) fun r13 σ11 =>
 if r13 = 33 then (if isO σ11 2 a0 = true then (bd (s_X2_demandEmpty a0 a2 σ11) fun r18 σ16 =>
 if isO σ16 2 a0 = true then (op (sP σ16 a0 0) fun p20 =>
 if isO σ16 3 p20 = true then (bd (s_X3_first p20 a1 σ16) fun r25 σ23 =>
 if isO σ23 2 a0 = true then (bd (kg a0 r25 a2 (a3 + 1) σ23) fun r29 σ27 =>
 some ((), σ27)) else none) else none) else none) else none) else (if r13 = 38 then (if isO σ11 2 a0 = true then (op (sP σ11 a0 0) fun p32 =>
 if isO σ11 3 p32 = true then (bd (s_X3_first p32 a1 σ11) fun r37 σ35 =>
 if isO σ35 2 a0 = true then (bd (kg a0 r37 a2 (a3 + 1) σ35) fun r41 σ39 =>
 if isO σ39 2 a0 = true then (op (sP σ39 a0 0) fun p43 =>
 if isO σ39 3 p43 = true then (bd (s_X3_second p43 a1 σ39) fun r48 σ46 =>
 if isO σ46 2 a0 = true then (bd (kg a0 r48 a2 (a3 + 1) σ46) fun r52 σ50 =>
 some ((), σ50)) else none) else none) else none) else none) else none) else none) else (if r13 = 42 then (if isO σ11 2 a0 = true then (bd (s_X2_visitSplit kg a0 a1 a2 a3 σ11) fun r57 σ55 =>
 some ((), σ55)) else none) else (if r13 = 43 then (if isO σ11 2 a0 = true then (bd (s_X2_visitChoice kg a0 a1 a2 a3 σ11) fun r62 σ60 =>
 some ((), σ60)) else none) else (if r13 = 49 then (if isO σ11 2 a0 = true then (bd (s_X2_demandEmpty a0 a2 σ11) fun r67 σ65 =>
 some ((), σ65)) else none) else (if r13 = 84 then (some ((), σ11)) else (if r13 = 91 then (if isO σ11 2 a0 = true then (bd (s_X2_visitLoan kg a0 a1 a2 a3 σ11) fun r73 σ71 =>
 some ((), σ71)) else none) else (if isO σ11 2 a0 = true then (bd (s_X2_visitAtom kg a0 r13 a2 a3 σ11) fun r77 σ75 =>
 some ((), σ75)) else none)))))))) else none) else (lt (setI σ a0 2 1) fun σ78 =>
 some ((), σ78))) else (some ((), σ))) else none
set_option maxHeartbeats 4000000 in
set_option maxRecDepth 100000 in
theorem xc_X2_visit {kg : Nat → Int32 → Int32 → Int32 → St → Option (Unit × St)} {dk : Nat} (hkg : ∀ {x0 : Nat} {x1 : Int32} {x2 : Int32} {x3 : Int32} {σ : St} {r : Unit} {σ' : St}, kg x0 x1 x2 x3 σ = some (r, σ') → Ex M_X2_visit dk [.ref x0, .int (x1), .int (x2), .int (x3)] σ none σ') {a0 : Nat} {a1 : Int32} {a2 : Int32} {a3 : Int32} {σ : St} {r : Unit} {σ' : St} (h : sc_X2_visit kg a0 a1 a2 a3 σ = some (r, σ')) : Ex M_X2_visit (dk + 5) [.ref a0, .int (a1), .int (a2), .int (a3)] σ none σ' := by
  unfold sc_X2_visit at h
  refine ex_of (by decide) rfl (Nat.le_of_ble_eq_true rfl) ?_
  show Ev _ _ 0 [(0, .ref a0), (1, .int (a1)), (2, .int (a2)), (3, .int (a3))] [] _ _ _
  refine ev_aload_nR 0 dX2_visit_0 rfl ?_
  obtain ⟨g1, h⟩ := gd_some h
  refine ev_getI dX2_visit_1 fl_X2_11 rfl g1 ?_
  rcases it_some h with ⟨c2, h⟩ | ⟨c2, h⟩
  · refine ev_if_eq (tgt := 8) dX2_visit_4 rfl c2 ?_
    refine ev_iload_n 3 dX2_visit_8 rfl ?_
    refine ev_bipush (v := 12) dX2_visit_9 (by decide) ?_
    rcases it_some h with ⟨c3, h⟩ | ⟨c3, h⟩
    · refine ev_icmp_le (tgt := 20) dX2_visit_11 rfl c3 ?_
      refine ev_aload_nR 0 dX2_visit_20 rfl ?_
      refine ev_aload_nR 0 dX2_visit_21 rfl ?_
      refine ev_getI dX2_visit_22 fl_X2_18 rfl g1 ?_
      refine ev_iload_n 3 dX2_visit_25 rfl ?_
      refine ev_mmax dX2_visit_26 tp_741 tp_303 tp_65 tp_304 (by omega) (Nat.le_of_ble_eq_true rfl) ?_
      obtain ⟨v4, e5, h⟩ := lt_some h
      refine ev_topI e5 ?_
      obtain ⟨σ6, e7, h⟩ := lt_some h
      refine ev_putI dX2_visit_29 fl_X2_18 rfl (Or.inl rfl) g1 ⟨rfl, rfl⟩ ?_
      refine ev_st e7 ?_
      refine ev_aload_nR 0 dX2_visit_32 rfl ?_
      obtain ⟨p8, e9, h⟩ := op_some h
      refine ev_getPR dX2_visit_33 fl_X2_21 rfl (isO_I e7 g1) e9 ?_
      refine ev_iload_n 1 dX2_visit_36 rfl ?_
      obtain ⟨g10, h⟩ := gd_some h
      obtain ⟨r13, σ11, e12, h⟩ := bd_some h
      refine ev_invVi (As := [.int (a1)]) (st := []) dX2_visit_37 cb_X3_kind tp_742 tp_549 tp_550 kf3 rfl (by omega) g10 rfl rfl (Nat.le_of_ble_eq_true rfl) (x_X3_kind e12) ?_
      refine ev_istore (ls' := [(4, .int (r13)), (0, .ref a0), (1, .int (a1)), (2, .int (a2)), (3, .int (a3))]) dX2_visit_40 (by decide) rfl ?_
      refine ev_iload 0 dX2_visit_42 rfl ?_
      rcases it_some h with ⟨c14, h⟩ | ⟨c14, h⟩
      · refine ev_lookup (off := 79) (tgt := 123) dX2_visit_44 (by decide) (by rw [c14]; decide) rfl ?_
        refine ev_aload_nR 1 dX2_visit_123 rfl ?_
        refine ev_iload_n 3 dX2_visit_124 rfl ?_
        obtain ⟨g15, h⟩ := gd_some h
        obtain ⟨r18, σ16, e17, h⟩ := bd_some h
        refine ev_invVv (As := [.int (a2)]) (st := []) dX2_visit_125 cb_X2_demandEmpty tp_743 tp_745 tp_40 kf2 rfl (by omega) g15 rfl rfl (Nat.le_of_ble_eq_true rfl) (x_X2_demandEmpty e17) ?_
        refine ev_aload_nR 1 dX2_visit_128 rfl ?_
        refine ev_aload_nR 1 dX2_visit_129 rfl ?_
        obtain ⟨g19, h⟩ := gd_some h
        obtain ⟨p20, e21, h⟩ := op_some h
        refine ev_getPR dX2_visit_130 fl_X2_21 rfl g19 e21 ?_
        refine ev_iload_n 2 dX2_visit_133 rfl ?_
        obtain ⟨g22, h⟩ := gd_some h
        obtain ⟨r25, σ23, e24, h⟩ := bd_some h
        refine ev_invVi (As := [.int (a1)]) (st := [.ref a0]) dX2_visit_134 cb_X3_first tp_747 tp_533 tp_534 kf3 rfl (by omega) g22 rfl rfl (Nat.le_of_ble_eq_true rfl) (x_X3_first e24) ?_
        refine ev_iload_n 3 dX2_visit_137 rfl ?_
        refine ev_iload_n 4 dX2_visit_138 rfl ?_
        refine ev_iconst (v := 1) dX2_visit_139 (by decide) ?_
        refine ev_iadd dX2_visit_140 ?_
        obtain ⟨g26, h⟩ := gd_some h
        obtain ⟨r29, σ27, e28, h⟩ := bd_some h
        refine ev_invVv (As := [.int (r25), .int (a2), .int (a3 + 1)]) (st := []) dX2_visit_141 cb_X2_visit tp_737 tp_739 tp_39 kf2 rfl (by omega) g26 rfl rfl (Nat.le_of_ble_eq_true rfl) (hkg e28) ?_
        refine ev_goto (tgt := 220) dX2_visit_144 rfl ?_
        exact ev_retV dX2_visit_220 rfl h
      rcases it_some h with ⟨c30, h⟩ | ⟨c30, h⟩
      · refine ev_lookup (off := 113) (tgt := 157) dX2_visit_44 (by decide) (by rw [c30]; decide) rfl ?_
        refine ev_aload_nR 1 dX2_visit_157 rfl ?_
        refine ev_aload_nR 1 dX2_visit_158 rfl ?_
        obtain ⟨g31, h⟩ := gd_some h
        obtain ⟨p32, e33, h⟩ := op_some h
        refine ev_getPR dX2_visit_159 fl_X2_21 rfl g31 e33 ?_
        refine ev_iload_n 2 dX2_visit_162 rfl ?_
        obtain ⟨g34, h⟩ := gd_some h
        obtain ⟨r37, σ35, e36, h⟩ := bd_some h
        refine ev_invVi (As := [.int (a1)]) (st := [.ref a0]) dX2_visit_163 cb_X3_first tp_747 tp_533 tp_534 kf3 rfl (by omega) g34 rfl rfl (Nat.le_of_ble_eq_true rfl) (x_X3_first e36) ?_
        refine ev_iload_n 3 dX2_visit_166 rfl ?_
        refine ev_iload_n 4 dX2_visit_167 rfl ?_
        refine ev_iconst (v := 1) dX2_visit_168 (by decide) ?_
        refine ev_iadd dX2_visit_169 ?_
        obtain ⟨g38, h⟩ := gd_some h
        obtain ⟨r41, σ39, e40, h⟩ := bd_some h
        refine ev_invVv (As := [.int (r37), .int (a2), .int (a3 + 1)]) (st := []) dX2_visit_170 cb_X2_visit tp_737 tp_739 tp_39 kf2 rfl (by omega) g38 rfl rfl (Nat.le_of_ble_eq_true rfl) (hkg e40) ?_
        refine ev_aload_nR 1 dX2_visit_173 rfl ?_
        refine ev_aload_nR 1 dX2_visit_174 rfl ?_
        obtain ⟨g42, h⟩ := gd_some h
        obtain ⟨p43, e44, h⟩ := op_some h
        refine ev_getPR dX2_visit_175 fl_X2_21 rfl g42 e44 ?_
        refine ev_iload_n 2 dX2_visit_178 rfl ?_
        obtain ⟨g45, h⟩ := gd_some h
        obtain ⟨r48, σ46, e47, h⟩ := bd_some h
        refine ev_invVi (As := [.int (a1)]) (st := [.ref a0]) dX2_visit_179 cb_X3_second tp_765 tp_541 tp_542 kf3 rfl (by omega) g45 rfl rfl (Nat.le_of_ble_eq_true rfl) (x_X3_second e47) ?_
        refine ev_iload_n 3 dX2_visit_182 rfl ?_
        refine ev_iload_n 4 dX2_visit_183 rfl ?_
        refine ev_iconst (v := 1) dX2_visit_184 (by decide) ?_
        refine ev_iadd dX2_visit_185 ?_
        obtain ⟨g49, h⟩ := gd_some h
        obtain ⟨r52, σ50, e51, h⟩ := bd_some h
        refine ev_invVv (As := [.int (r48), .int (a2), .int (a3 + 1)]) (st := []) dX2_visit_186 cb_X2_visit tp_737 tp_739 tp_39 kf2 rfl (by omega) g49 rfl rfl (Nat.le_of_ble_eq_true rfl) (hkg e51) ?_
        refine ev_goto (tgt := 220) dX2_visit_189 rfl ?_
        exact ev_retV dX2_visit_220 rfl h
      rcases it_some h with ⟨c53, h⟩ | ⟨c53, h⟩
      · refine ev_lookup (off := 103) (tgt := 147) dX2_visit_44 (by decide) (by rw [c53]; decide) rfl ?_
        refine ev_aload_nR 1 dX2_visit_147 rfl ?_
        refine ev_iload_n 2 dX2_visit_148 rfl ?_
        refine ev_iload_n 3 dX2_visit_149 rfl ?_
        refine ev_iload_n 4 dX2_visit_150 rfl ?_
        obtain ⟨g54, h⟩ := gd_some h
        obtain ⟨r57, σ55, e56, h⟩ := bd_some h
        refine ev_invVv (As := [.int (a1), .int (a2), .int (a3)]) (st := []) dX2_visit_151 cb_X2_visitSplit tp_748 tp_750 tp_41 kf2 rfl (by omega) g54 rfl rfl (Nat.le_of_ble_eq_true rfl) (x_X2_visitSplit hkg e56) ?_
        refine ev_goto (tgt := 220) dX2_visit_154 rfl ?_
        exact ev_retV dX2_visit_220 rfl h
      rcases it_some h with ⟨c58, h⟩ | ⟨c58, h⟩
      · refine ev_lookup (off := 148) (tgt := 192) dX2_visit_44 (by decide) (by rw [c58]; decide) rfl ?_
        refine ev_aload_nR 1 dX2_visit_192 rfl ?_
        refine ev_iload_n 2 dX2_visit_193 rfl ?_
        refine ev_iload_n 3 dX2_visit_194 rfl ?_
        refine ev_iload_n 4 dX2_visit_195 rfl ?_
        obtain ⟨g59, h⟩ := gd_some h
        obtain ⟨r62, σ60, e61, h⟩ := bd_some h
        refine ev_invVv (As := [.int (a1), .int (a2), .int (a3)]) (st := []) dX2_visit_196 cb_X2_visitChoice tp_766 tp_768 tp_44 kf2 rfl (by omega) g59 rfl rfl (Nat.le_of_ble_eq_true rfl) (x_X2_visitChoice hkg e61) ?_
        refine ev_goto (tgt := 220) dX2_visit_199 rfl ?_
        exact ev_retV dX2_visit_220 rfl h
      rcases it_some h with ⟨c63, h⟩ | ⟨c63, h⟩
      · refine ev_lookup (off := 68) (tgt := 112) dX2_visit_44 (by decide) (by rw [c63]; decide) rfl ?_
        refine ev_aload_nR 1 dX2_visit_112 rfl ?_
        refine ev_iload_n 3 dX2_visit_113 rfl ?_
        obtain ⟨g64, h⟩ := gd_some h
        obtain ⟨r67, σ65, e66, h⟩ := bd_some h
        refine ev_invVv (As := [.int (a2)]) (st := []) dX2_visit_114 cb_X2_demandEmpty tp_743 tp_745 tp_40 kf2 rfl (by omega) g64 rfl rfl (Nat.le_of_ble_eq_true rfl) (x_X2_demandEmpty e66) ?_
        refine ev_goto (tgt := 220) dX2_visit_117 rfl ?_
        exact ev_retV dX2_visit_220 rfl h
      rcases it_some h with ⟨c68, h⟩ | ⟨c68, h⟩
      · refine ev_lookup (off := 76) (tgt := 120) dX2_visit_44 (by decide) (by rw [c68]; decide) rfl ?_
        refine ev_goto (tgt := 220) dX2_visit_120 rfl ?_
        exact ev_retV dX2_visit_220 rfl h
      rcases it_some h with ⟨c69, h⟩ | ⟨c69, h⟩
      · refine ev_lookup (off := 158) (tgt := 202) dX2_visit_44 (by decide) (by rw [c69]; decide) rfl ?_
        refine ev_aload_nR 1 dX2_visit_202 rfl ?_
        refine ev_iload_n 2 dX2_visit_203 rfl ?_
        refine ev_iload_n 3 dX2_visit_204 rfl ?_
        refine ev_iload_n 4 dX2_visit_205 rfl ?_
        obtain ⟨g70, h⟩ := gd_some h
        obtain ⟨r73, σ71, e72, h⟩ := bd_some h
        refine ev_invVv (As := [.int (a1), .int (a2), .int (a3)]) (st := []) dX2_visit_206 cb_X2_visitLoan tp_770 tp_772 tp_45 kf2 rfl (by omega) g70 rfl rfl (Nat.le_of_ble_eq_true rfl) (x_X2_visitLoan hkg e72) ?_
        refine ev_goto (tgt := 220) dX2_visit_209 rfl ?_
        exact ev_retV dX2_visit_220 rfl h
      refine ev_lookup (off := 168) (tgt := 212) dX2_visit_44 (by decide) ?_ rfl ?_
      · simp only [Op.lookupswitch.offset_cons, Op.lookupswitch.offset_nil]
        rw [if_neg (fun q => ne_toInt c14 q.symm)]
        rw [if_neg (fun q => ne_toInt c30 q.symm)]
        rw [if_neg (fun q => ne_toInt c53 q.symm)]
        rw [if_neg (fun q => ne_toInt c58 q.symm)]
        rw [if_neg (fun q => ne_toInt c63 q.symm)]
        rw [if_neg (fun q => ne_toInt c68 q.symm)]
        rw [if_neg (fun q => ne_toInt c69 q.symm)]
      · refine ev_aload_nR 1 dX2_visit_212 rfl ?_
        refine ev_iload 0 dX2_visit_213 rfl ?_
        refine ev_iload_n 3 dX2_visit_215 rfl ?_
        refine ev_iload_n 4 dX2_visit_216 rfl ?_
        obtain ⟨g74, h⟩ := gd_some h
        obtain ⟨r77, σ75, e76, h⟩ := bd_some h
        refine ev_invVv (As := [.int (r13), .int (a2), .int (a3)]) (st := []) dX2_visit_217 cb_X2_visitAtom tp_775 tp_777 tp_46 kf2 rfl (by omega) g74 rfl rfl (Nat.le_of_ble_eq_true rfl) (x_X2_visitAtom hkg e76) ?_
        exact ev_retV dX2_visit_220 rfl h
    · refine ev_icmp_le_n 20 dX2_visit_11 rfl c3 ?_
      refine ev_aload_nR 0 dX2_visit_14 rfl ?_
      refine ev_iconst (v := 1) dX2_visit_15 (by decide) ?_
      obtain ⟨σ78, e79, h⟩ := lt_some h
      refine ev_putI dX2_visit_16 fl_X2_11 rfl (Or.inl rfl) g1 ⟨rfl, rfl⟩ ?_
      refine ev_st e79 ?_
      exact ev_retV dX2_visit_19 rfl h
  · refine ev_if_eq_n 8 dX2_visit_4 rfl c2 ?_
    exact ev_retV dX2_visit_7 rfl h
def s_X2_visit (F : Nat) : Nat → Int32 → Int32 → Int32 → St → Option (Unit × St) := lp (fun _ _ _ _ _ => none) sc_X2_visit F
theorem x_X2_visit (F : Nat) : ∀ {a0 : Nat} {a1 : Int32} {a2 : Int32} {a3 : Int32} {σ : St} {r : Unit} {σ' : St}, s_X2_visit F a0 a1 a2 a3 σ = some (r, σ') → Ex M_X2_visit (5 * F) [.ref a0, .int (a1), .int (a2), .int (a3)] σ none σ' := by
  induction F with
  | zero => intro a0 a1 a2 a3 σ r σ' h; cases h
  | succ F ih => intro a0 a1 a2 a3 σ r σ' h; exact xc_X2_visit (kg := s_X2_visit F) (dk := 5 * F) (fun h => ih h) h
def s_X0_init (a0 : Nat) (a1 : Nat) (a2 : Nat) (σ : St) : Option (Unit × St) :=
 lt (sn σ) fun n1 => lt (newC σ 13 (1024 : Int32).toNatClampNeg) fun σ3 =>
 if isO σ3 0 a0 = true then (lt (setP σ3 a0 2 (some n1)) fun σ6 =>
 lt (setI σ6 a0 3 0) fun σ8 =>
 lt (setI σ8 a0 4 0) fun σ10 =>
 lt (setI σ10 a0 5 0) fun σ12 =>
 lt (setP σ12 a0 0 (some a1)) fun σ14 =>
 lt (setP σ14 a0 1 (some a2)) fun σ16 =>
 some ((), σ16)) else none
set_option maxHeartbeats 4000000 in
set_option maxRecDepth 100000 in
theorem x_X0_init {a0 : Nat} {a1 : Nat} {a2 : Nat} {σ : St} {r : Unit} {σ' : St} (h : s_X0_init a0 a1 a2 σ = some (r, σ')) : Ex M_X0_init (1) [.ref a0, .ref a1, .ref a2] σ none σ' := by
  unfold s_X0_init at h
  refine ex_of (by decide) rfl (Nat.le_of_ble_eq_true rfl) ?_
  show Ev _ _ 0 [(0, .ref a0), (1, .ref a1), (2, .ref a2)] [] _ _ _
  refine ev_aload_nR 0 dX0_init_0 rfl ?_
  refine ev_objinit dX0_init_1 tp_183 tp_74 tp_75 (by omega) (Nat.le_of_ble_eq_true rfl) ?_
  refine ev_aload_nR 0 dX0_init_4 rfl ?_
  refine ev_sipush (v := 1024) dX0_init_5 (by decide) ?_
  obtain ⟨n1, e2, h⟩ := lt_some h
  obtain ⟨σ3, e4, h⟩ := lt_some h
  refine ev_newaR (k := 13) dX0_init_8 (by decide) tp_134 (by decide) e2 ?_
  refine ev_st e4 ?_
  obtain ⟨g5, h⟩ := gd_some h
  obtain ⟨σ6, e7, h⟩ := lt_some h
  refine ev_putPR dX0_init_10 fl_X0_11 rfl (Or.inr ⟨rfl, rfl⟩) g5 ?_
  refine ev_st e7 ?_
  refine ev_aload_nR 0 dX0_init_13 rfl ?_
  refine ev_iconst (v := 0) dX0_init_14 (by decide) ?_
  obtain ⟨σ8, e9, h⟩ := lt_some h
  refine ev_putI dX0_init_15 fl_X0_15 rfl (Or.inl rfl) (isO_P e7 g5) ⟨rfl, rfl⟩ ?_
  refine ev_st e9 ?_
  refine ev_aload_nR 0 dX0_init_18 rfl ?_
  refine ev_iconst (v := 0) dX0_init_19 (by decide) ?_
  obtain ⟨σ10, e11, h⟩ := lt_some h
  refine ev_putI dX0_init_20 fl_X0_19 rfl (Or.inl rfl) (isO_I e9 (isO_P e7 g5)) ⟨rfl, rfl⟩ ?_
  refine ev_st e11 ?_
  refine ev_aload_nR 0 dX0_init_23 rfl ?_
  refine ev_iconst (v := 0) dX0_init_24 (by decide) ?_
  obtain ⟨σ12, e13, h⟩ := lt_some h
  refine ev_putI dX0_init_25 fl_X0_23 rfl (Or.inl rfl) (isO_I e11 (isO_I e9 (isO_P e7 g5))) ⟨rfl, rfl⟩ ?_
  refine ev_st e13 ?_
  refine ev_aload_nR 0 dX0_init_28 rfl ?_
  refine ev_aload_nR 1 dX0_init_29 rfl ?_
  obtain ⟨σ14, e15, h⟩ := lt_some h
  refine ev_putPR dX0_init_30 fl_X0_26 rfl (Or.inr ⟨rfl, rfl⟩) (isO_I e13 (isO_I e11 (isO_I e9 (isO_P e7 g5)))) ?_
  refine ev_st e15 ?_
  refine ev_aload_nR 0 dX0_init_33 rfl ?_
  refine ev_aload_nR 2 dX0_init_34 rfl ?_
  obtain ⟨σ16, e17, h⟩ := lt_some h
  refine ev_putPR dX0_init_35 fl_X0_30 rfl (Or.inr ⟨rfl, rfl⟩) (isO_P e15 (isO_I e13 (isO_I e11 (isO_I e9 (isO_P e7 g5))))) ?_
  refine ev_st e17 ?_
  exact ev_retV dX0_init_38 rfl h
def s_X0_forget (a0 : Nat) (σ : St) : Option (Unit × St) :=
 if isO σ 0 a0 = true then (lt (setI σ a0 5 0) fun σ2 =>
 some ((), σ2)) else none
set_option maxHeartbeats 4000000 in
set_option maxRecDepth 100000 in
theorem x_X0_forget {a0 : Nat} {σ : St} {r : Unit} {σ' : St} (h : s_X0_forget a0 σ = some (r, σ')) : Ex M_X0_forget (1) [.ref a0] σ none σ' := by
  unfold s_X0_forget at h
  refine ex_of (by decide) rfl (Nat.le_of_ble_eq_true rfl) ?_
  show Ev _ _ 0 [(0, .ref a0)] [] _ _ _
  refine ev_aload_nR 0 dX0_forget_0 rfl ?_
  refine ev_iconst (v := 0) dX0_forget_1 (by decide) ?_
  obtain ⟨g1, h⟩ := gd_some h
  obtain ⟨σ2, e3, h⟩ := lt_some h
  refine ev_putI dX0_forget_2 fl_X0_23 rfl (Or.inl rfl) g1 ⟨rfl, rfl⟩ ?_
  refine ev_st e3 ?_
  exact ev_retV dX0_forget_5 rfl h
def s_X3_root (a0 : Nat) (σ : St) : Option (Int32 × St) :=
 if isO σ 3 a0 = true then (some (sI σ a0 7, σ)) else none
set_option maxHeartbeats 4000000 in
set_option maxRecDepth 100000 in
theorem x_X3_root {a0 : Nat} {σ : St} {r : Int32} {σ' : St} (h : s_X3_root a0 σ = some (r, σ')) : Ex M_X3_root (1) [.ref a0] σ (some (.int r)) σ' := by
  unfold s_X3_root at h
  refine ex_of (by decide) rfl (Nat.le_of_ble_eq_true rfl) ?_
  show Ev _ _ 0 [(0, .ref a0)] [] _ _ _
  refine ev_aload_nR 0 dX3_root_0 rfl ?_
  obtain ⟨g1, h⟩ := gd_some h
  refine ev_getI dX3_root_1 fl_X3_35 rfl g1 ?_
  exact ev_retI .int dX3_root_4 rfl rfl h
def sb_X4_leastHeight_2 (k2 : Nat → Int32 → Int32 → Int32 → St → Option (Int32 × St)) (a0 : Nat) (a1 : Int32) (a2 : Int32) (a3 : Int32) (σ : St) : Option (Int32 × St) :=
 if (10 : Int32) < a3 then (some ((-6), σ)) else (if isO σ 4 a0 = true then (bd (s_X4_proves a0 a1 a2 a3 σ) fun r5 σ3 =>
 if r5 = 0 then (lt (a3 + 1 : Int32) fun v7 =>
 k2 a0 a1 a2 v7 σ3) else (some (a3, σ3))) else none)
def s_X4_leastHeight_2 (F : Nat) : Nat → Int32 → Int32 → Int32 → St → Option (Int32 × St) := lp (fun _ _ _ _ _ => none) (sb_X4_leastHeight_2 ) F
set_option maxHeartbeats 4000000 in
set_option maxRecDepth 100000 in
theorem e_X4_leastHeight_2 {r : Int32} {σ' : St} (F : Nat) : ∀ {a0 : Nat} {a1 : Int32} {a2 : Int32} {a3 : Int32} {σ : St}, s_X4_leastHeight_2 F a0 a1 a2 a3 σ = some (r, σ') → Ev M_X4_leastHeight (4) 2 [(0, .ref a0), (1, .int (a1)), (2, .int (a2)), (3, .int (a3))] [] σ (some (.int r)) σ' := by
  induction F with
  | zero => intro a0 a1 a2 a3 σ h; cases h
  | succ F ih =>
    intro a0 a1 a2 a3 σ h
    change sb_X4_leastHeight_2  (s_X4_leastHeight_2 F) a0 a1 a2 a3 σ = some (r, σ') at h
    unfold sb_X4_leastHeight_2 at h
    have hk2 := @ih
    refine ev_iload_n 3 dX4_leastHeight_2 rfl ?_
    refine ev_bipush (v := 10) dX4_leastHeight_3 (by decide) ?_
    rcases it_some h with ⟨c1, h⟩ | ⟨c1, h⟩
    · refine ev_icmp_gt (tgt := 26) dX4_leastHeight_5 rfl c1 ?_
      refine ev_bipush (v := (-6)) dX4_leastHeight_26 (by decide) ?_
      exact ev_retI .int dX4_leastHeight_28 rfl rfl h
    · refine ev_icmp_gt_n 26 dX4_leastHeight_5 rfl c1 ?_
      refine ev_aload_nR 0 dX4_leastHeight_8 rfl ?_
      refine ev_iload_n 1 dX4_leastHeight_9 rfl ?_
      refine ev_iload_n 2 dX4_leastHeight_10 rfl ?_
      refine ev_iload_n 3 dX4_leastHeight_11 rfl ?_
      obtain ⟨g2, h⟩ := gd_some h
      obtain ⟨r5, σ3, e4, h⟩ := bd_some h
      refine ev_invVi (As := [.int (a1), .int (a2), .int (a3)]) (st := []) dX4_leastHeight_12 cb_X4_proves tp_625 tp_626 tp_627 kf4 rfl (by omega) g2 rfl rfl (Nat.le_of_ble_eq_true rfl) (x_X4_proves e4) ?_
      rcases it_some h with ⟨c6, h⟩ | ⟨c6, h⟩
      · refine ev_if_eq (tgt := 20) dX4_leastHeight_15 rfl c6 ?_
        obtain ⟨v7, e8, h⟩ := lt_some h
        refine ev_iinc (v := v7) (ls' := [(3, .int (v7)), (0, .ref a0), (1, .int (a1)), (2, .int (a2))]) 3 dX4_leastHeight_20 rfl e8.symm (by decide) rfl ?_
        refine ev_goto (tgt := 2) dX4_leastHeight_23 rfl ?_
        refine ev_sub (ls' := [(0, .ref a0), (1, .int (a1)), (2, .int (a2)), (3, .int (v7))]) [1, 2, 3, 0] rfl ?_
        exact hk2 h
      · refine ev_if_eq_n 20 dX4_leastHeight_15 rfl c6 ?_
        refine ev_iload_n 3 dX4_leastHeight_18 rfl ?_
        exact ev_retI .int dX4_leastHeight_19 rfl rfl h
def s_X4_leastHeight (a0 : Nat) (a1 : Int32) (a2 : Int32) (σ : St) : Option (Int32 × St) :=
 s_X4_leastHeight_2 16000 a0 a1 a2 1 σ
set_option maxHeartbeats 4000000 in
set_option maxRecDepth 100000 in
theorem x_X4_leastHeight {a0 : Nat} {a1 : Int32} {a2 : Int32} {σ : St} {r : Int32} {σ' : St} (h : s_X4_leastHeight a0 a1 a2 σ = some (r, σ')) : Ex M_X4_leastHeight (4) [.ref a0, .int (a1), .int (a2)] σ (some (.int r)) σ' := by
  unfold s_X4_leastHeight at h
  refine ex_of (by decide) rfl (Nat.le_of_ble_eq_true rfl) ?_
  show Ev _ _ 0 [(0, .ref a0), (1, .int (a1)), (2, .int (a2))] [] _ _ _
  refine ev_iconst (v := 1) dX4_leastHeight_0 (by decide) ?_
  refine ev_istore_n (ls' := [(3, .int (1)), (0, .ref a0), (1, .int (a1)), (2, .int (a2))]) dX4_leastHeight_1 (by decide) rfl ?_
  refine ev_sub (ls' := [(0, .ref a0), (1, .int (a1)), (2, .int (a2)), (3, .int (1))]) [1, 2, 3, 0] rfl ?_
  exact e_X4_leastHeight_2 16000 h
def s_X0_find_41 (a0 : Nat) (a1 : Int32) (a2 : Int32) (t0 : Nat) (t1 : Int32) (σ : St) : Option (Unit × St) :=
 if isO σ 0 t0 = true then (if zok t1 = true then (lt (setI σ t0 4 t1) fun σ2 =>
 if isO σ2 0 a0 = true then (if (sI σ2 a0 4) = 0 then (lt (setI σ2 a0 5 1) fun σ7 =>
 some ((), σ7)) else (op (sP σ2 a0 0) fun p9 =>
 if isO σ2 3 p9 = true then (bd (s_X3_root p9 σ2) fun r14 σ12 =>
 if isO σ12 0 a0 = true then (bd (s_X0_write 12 a0 r14 a1 a2 σ12) fun r18 σ16 =>
 if isO σ16 0 a0 = true then (lt (setI σ16 a0 5 1) fun σ20 =>
 some ((), σ20)) else none) else none) else none)) else none) else none) else none
set_option maxHeartbeats 4000000 in
set_option maxRecDepth 100000 in
theorem e_X0_find_41 {r : Unit} {σ' : St} : ∀ {a0 : Nat} {a1 : Int32} {a2 : Int32} {t0 : Nat} {t1 : Int32} {σ : St}, s_X0_find_41 a0 a1 a2 t0 t1 σ = some (r, σ') → Ev M_X0_find (73) 41 [(0, .ref a0), (1, .int (a1)), (2, .int (a2))] [.int (t1), .ref t0] σ none σ' := by
  intro a0 a1 a2 t0 t1 σ h
  unfold s_X0_find_41 at h
  obtain ⟨g1, h⟩ := gd_some h
  obtain ⟨g4, h⟩ := gd_some h
  obtain ⟨σ2, e3, h⟩ := lt_some h
  refine ev_putI dX0_find_41 fl_X0_19 rfl (Or.inl rfl) g1 ⟨(nz_of g4).1, (nz_of g4).2.1⟩ ?_
  refine ev_st e3 ?_
  refine ev_aload_nR 0 dX0_find_44 rfl ?_
  obtain ⟨g5, h⟩ := gd_some h
  refine ev_getI dX0_find_45 fl_X0_19 rfl g5 ?_
  rcases it_some h with ⟨c6, h⟩ | ⟨c6, h⟩
  · refine ev_if_eq (tgt := 64) dX0_find_48 rfl c6 ?_
    refine ev_aload_nR 0 dX0_find_64 rfl ?_
    refine ev_iconst (v := 1) dX0_find_65 (by decide) ?_
    obtain ⟨σ7, e8, h⟩ := lt_some h
    refine ev_putI dX0_find_66 fl_X0_23 rfl (Or.inl rfl) g5 ⟨rfl, rfl⟩ ?_
    refine ev_st e8 ?_
    exact ev_retV dX0_find_69 rfl h
  · refine ev_if_eq_n 64 dX0_find_48 rfl c6 ?_
    refine ev_aload_nR 0 dX0_find_51 rfl ?_
    refine ev_aload_nR 0 dX0_find_52 rfl ?_
    obtain ⟨p9, e10, h⟩ := op_some h
    refine ev_getPR dX0_find_53 fl_X0_26 rfl g5 e10 ?_
    obtain ⟨g11, h⟩ := gd_some h
    obtain ⟨r14, σ12, e13, h⟩ := bd_some h
    refine ev_invVi (As := []) (st := [.ref a0]) dX0_find_56 cb_X3_root tp_655 tp_618 tp_619 kf3 rfl (by omega) g11 rfl rfl (Nat.le_of_ble_eq_true rfl) (x_X3_root e13) ?_
    refine ev_iload_n 1 dX0_find_59 rfl ?_
    refine ev_iload_n 2 dX0_find_60 rfl ?_
    obtain ⟨g15, h⟩ := gd_some h
    obtain ⟨r18, σ16, e17, h⟩ := bd_some h
    refine ev_invVv (As := [.int (r14), .int (a1), .int (a2)]) (st := []) dX0_find_61 cb_X0_write tp_657 tp_659 tp_33 kf0 rfl (by omega) g15 rfl rfl (Nat.le_of_ble_eq_true rfl) (x_X0_write 12 e17) ?_
    refine ev_aload_nR 0 dX0_find_64 rfl ?_
    refine ev_iconst (v := 1) dX0_find_65 (by decide) ?_
    obtain ⟨g19, h⟩ := gd_some h
    obtain ⟨σ20, e21, h⟩ := lt_some h
    refine ev_putI dX0_find_66 fl_X0_23 rfl (Or.inl rfl) g19 ⟨rfl, rfl⟩ ?_
    refine ev_st e21 ?_
    exact ev_retV dX0_find_69 rfl h
def s_X0_find (a0 : Nat) (a1 : Int32) (σ : St) : Option (Unit × St) :=
 if isO σ 0 a0 = true then (if (sI σ a0 5) = 0 then (lt (setI σ a0 3 0) fun σ24 =>
 op (sP σ24 a0 1) fun p26 =>
 op (sP σ24 a0 0) fun p28 =>
 if isO σ24 3 p28 = true then (bd (s_X3_root p28 σ24) fun r33 σ31 =>
 if isO σ31 4 p26 = true then (bd (s_X4_leastHeight p26 r33 a1 σ31) fun r37 σ35 =>
 if r37 = ((-6)) then (s_X0_find_41 a0 a1 r37 a0 0 σ35) else (s_X0_find_41 a0 a1 r37 a0 1 σ35)) else none) else none) else (some ((), σ))) else none
set_option maxHeartbeats 4000000 in
set_option maxRecDepth 100000 in
theorem x_X0_find {a0 : Nat} {a1 : Int32} {σ : St} {r : Unit} {σ' : St} (h : s_X0_find a0 a1 σ = some (r, σ')) : Ex M_X0_find (73) [.ref a0, .int (a1)] σ none σ' := by
  unfold s_X0_find at h
  refine ex_of (by decide) rfl (Nat.le_of_ble_eq_true rfl) ?_
  show Ev _ _ 0 [(0, .ref a0), (1, .int (a1))] [] _ _ _
  refine ev_aload_nR 0 dX0_find_0 rfl ?_
  obtain ⟨g22, h⟩ := gd_some h
  refine ev_getI dX0_find_1 fl_X0_23 rfl g22 ?_
  rcases it_some h with ⟨c23, h⟩ | ⟨c23, h⟩
  · refine ev_if_eq (tgt := 8) dX0_find_4 rfl c23 ?_
    refine ev_aload_nR 0 dX0_find_8 rfl ?_
    refine ev_iconst (v := 0) dX0_find_9 (by decide) ?_
    obtain ⟨σ24, e25, h⟩ := lt_some h
    refine ev_putI dX0_find_10 fl_X0_15 rfl (Or.inl rfl) g22 ⟨rfl, rfl⟩ ?_
    refine ev_st e25 ?_
    refine ev_aload_nR 0 dX0_find_13 rfl ?_
    obtain ⟨p26, e27, h⟩ := op_some h
    refine ev_getPR dX0_find_14 fl_X0_30 rfl (isO_I e25 g22) e27 ?_
    refine ev_aload_nR 0 dX0_find_17 rfl ?_
    obtain ⟨p28, e29, h⟩ := op_some h
    refine ev_getPR dX0_find_18 fl_X0_26 rfl (isO_I e25 g22) e29 ?_
    obtain ⟨g30, h⟩ := gd_some h
    obtain ⟨r33, σ31, e32, h⟩ := bd_some h
    refine ev_invVi (As := []) (st := [.ref p26]) dX0_find_21 cb_X3_root tp_655 tp_618 tp_619 kf3 rfl (by omega) g30 rfl rfl (Nat.le_of_ble_eq_true rfl) (x_X3_root e32) ?_
    refine ev_iload_n 1 dX0_find_24 rfl ?_
    obtain ⟨g34, h⟩ := gd_some h
    obtain ⟨r37, σ35, e36, h⟩ := bd_some h
    refine ev_invVi (As := [.int (r33), .int (a1)]) (st := []) dX0_find_25 cb_X4_leastHeight tp_656 tp_622 tp_623 kf4 rfl (by omega) g34 rfl rfl (Nat.le_of_ble_eq_true rfl) (x_X4_leastHeight e36) ?_
    refine ev_istore_n (ls' := [(2, .int (r37)), (0, .ref a0), (1, .int (a1))]) dX0_find_28 (by decide) rfl ?_
    refine ev_aload_nR 1 dX0_find_29 rfl ?_
    refine ev_iload_n 0 dX0_find_30 rfl ?_
    refine ev_bipush (v := (-6)) dX0_find_31 (by decide) ?_
    rcases it_some h with ⟨c38, h⟩ | ⟨c38, h⟩
    · refine ev_icmp_eq (tgt := 40) dX0_find_33 rfl c38 ?_
      refine ev_iconst (v := 0) dX0_find_40 (by decide) ?_
      refine ev_sub (ls' := [(0, .ref a0), (1, .int (a1)), (2, .int (r37))]) [1, 2, 0] rfl ?_
      exact e_X0_find_41  h
    · refine ev_icmp_eq_n 40 dX0_find_33 rfl c38 ?_
      refine ev_iconst (v := 1) dX0_find_36 (by decide) ?_
      refine ev_goto (tgt := 41) dX0_find_37 rfl ?_
      refine ev_sub (ls' := [(0, .ref a0), (1, .int (a1)), (2, .int (r37))]) [1, 2, 0] rfl ?_
      exact e_X0_find_41  h
  · refine ev_if_eq_n 8 dX0_find_4 rfl c23 ?_
    exact ev_retV dX0_find_7 rfl h
def s_X0_exists (a0 : Nat) (σ : St) : Option (Int32 × St) :=
 if isO σ 0 a0 = true then (if zok (sI σ a0 4) = true then (some (sI σ a0 4, σ)) else none) else none
set_option maxHeartbeats 4000000 in
set_option maxRecDepth 100000 in
theorem x_X0_exists {a0 : Nat} {σ : St} {r : Int32} {σ' : St} (h : s_X0_exists a0 σ = some (r, σ')) : Ex M_X0_exists (1) [.ref a0] σ (some (.int r)) σ' := by
  unfold s_X0_exists at h
  refine ex_of (by decide) rfl (Nat.le_of_ble_eq_true rfl) ?_
  show Ev _ _ 0 [(0, .ref a0)] [] _ _ _
  refine ev_aload_nR 0 dX0_exists_0 rfl ?_
  obtain ⟨g1, h⟩ := gd_some h
  refine ev_getI dX0_exists_1 fl_X0_19 rfl g1 ?_
  obtain ⟨g2, h⟩ := gd_some h
  exact ev_retI .boolean dX0_exists_4 rfl (nz_of g2).1 h
def s_X0_length (a0 : Nat) (σ : St) : Option (Int32 × St) :=
 if isO σ 0 a0 = true then (some (sI σ a0 3, σ)) else none
set_option maxHeartbeats 4000000 in
set_option maxRecDepth 100000 in
theorem x_X0_length {a0 : Nat} {σ : St} {r : Int32} {σ' : St} (h : s_X0_length a0 σ = some (r, σ')) : Ex M_X0_length (1) [.ref a0] σ (some (.int r)) σ' := by
  unfold s_X0_length at h
  refine ex_of (by decide) rfl (Nat.le_of_ble_eq_true rfl) ?_
  show Ev _ _ 0 [(0, .ref a0)] [] _ _ _
  refine ev_aload_nR 0 dX0_length_0 rfl ?_
  obtain ⟨g1, h⟩ := gd_some h
  refine ev_getI dX0_length_1 fl_X0_15 rfl g1 ?_
  exact ev_retI .int dX0_length_4 rfl rfl h
def s_X0_at (a0 : Nat) (a1 : Int32) (σ : St) : Option (Int32 × St) :=
 if a1 < 0 then (some ((-6), σ)) else (if isO σ 0 a0 = true then (if (sI σ a0 3) ≤ a1 then (some ((-6), σ)) else (if (1024 : Int32) ≤ a1 then (some ((-6), σ)) else (op (sP σ a0 2) fun p5 =>
 if isO σ 13 p5 = true then (if inR a1 (alen σ p5) = true then (some (sI σ p5 a1.toNatClampNeg, σ)) else none) else none))) else none)
set_option maxHeartbeats 4000000 in
set_option maxRecDepth 100000 in
theorem x_X0_at {a0 : Nat} {a1 : Int32} {σ : St} {r : Int32} {σ' : St} (h : s_X0_at a0 a1 σ = some (r, σ')) : Ex M_X0_at (1) [.ref a0, .int (a1)] σ (some (.int r)) σ' := by
  unfold s_X0_at at h
  refine ex_of (by decide) rfl (Nat.le_of_ble_eq_true rfl) ?_
  show Ev _ _ 0 [(0, .ref a0), (1, .int (a1))] [] _ _ _
  refine ev_iload_n 1 dX0_at_0 rfl ?_
  rcases it_some h with ⟨c1, h⟩ | ⟨c1, h⟩
  · refine ev_if_lt (tgt := 28) dX0_at_1 rfl c1 ?_
    refine ev_bipush (v := (-6)) dX0_at_28 (by decide) ?_
    exact ev_retI .int dX0_at_30 rfl rfl h
  · refine ev_if_lt_n 28 dX0_at_1 rfl c1 ?_
    refine ev_iload_n 1 dX0_at_4 rfl ?_
    refine ev_aload_nR 0 dX0_at_5 rfl ?_
    obtain ⟨g2, h⟩ := gd_some h
    refine ev_getI dX0_at_6 fl_X0_15 rfl g2 ?_
    rcases it_some h with ⟨c3, h⟩ | ⟨c3, h⟩
    · refine ev_icmp_ge (tgt := 28) dX0_at_9 rfl c3 ?_
      refine ev_bipush (v := (-6)) dX0_at_28 (by decide) ?_
      exact ev_retI .int dX0_at_30 rfl rfl h
    · refine ev_icmp_ge_n 28 dX0_at_9 rfl c3 ?_
      refine ev_iload_n 1 dX0_at_12 rfl ?_
      refine ev_sipush (v := 1024) dX0_at_13 (by decide) ?_
      rcases it_some h with ⟨c4, h⟩ | ⟨c4, h⟩
      · refine ev_icmp_ge (tgt := 28) dX0_at_16 rfl c4 ?_
        refine ev_bipush (v := (-6)) dX0_at_28 (by decide) ?_
        exact ev_retI .int dX0_at_30 rfl rfl h
      · refine ev_icmp_ge_n 28 dX0_at_16 rfl c4 ?_
        refine ev_aload_nR 0 dX0_at_19 rfl ?_
        obtain ⟨p5, e6, h⟩ := op_some h
        refine ev_getPR dX0_at_20 fl_X0_11 rfl g2 e6 ?_
        refine ev_iload_n 1 dX0_at_23 rfl ?_
        obtain ⟨g7, h⟩ := gd_some h
        obtain ⟨g8, h⟩ := gd_some h
        refine ev_iald dX0_at_24 (isA_O g7) g8 ?_
        refine ev_goto (tgt := 30) dX0_at_25 rfl ?_
        exact ev_retI .int dX0_at_30 rfl rfl h
def sb_X0_usesOf_11 (k11 : Nat → Int32 → Int32 → Int32 → St → Option (Int32 × St)) (a0 : Nat) (a2 : Int32) (a3 : Int32) (a4 : Int32) (σ : St) : Option (Int32 × St) :=
 if isO σ 0 a0 = true then (if (sI σ a0 3) ≤ a4 then (some (a3, σ)) else (bd (s_X0_at a0 a4 σ) fun r5 σ3 =>
 if r5 < a2 then (lt (a4 + 1 : Int32) fun v7 =>
 k11 a0 a2 a3 v7 σ3) else (if isO σ3 0 a0 = true then (bd (s_X0_at a0 a4 σ3) fun r12 σ10 =>
 if (a2 + 3) ≤ r12 then (lt (a4 + 1 : Int32) fun v14 =>
 k11 a0 a2 a3 v14 σ10) else (lt (a3 + 1 : Int32) fun v16 =>
 lt (a4 + 1 : Int32) fun v18 =>
 k11 a0 a2 v16 v18 σ10)) else none))) else none
def s_X0_usesOf_11 (F : Nat) : Nat → Int32 → Int32 → Int32 → St → Option (Int32 × St) := lp (fun _ _ _ _ _ => none) (sb_X0_usesOf_11 ) F
set_option maxHeartbeats 4000000 in
set_option maxRecDepth 100000 in
theorem e_X0_usesOf_11 {r : Int32} {σ' : St} (F : Nat) : ∀ {a0 : Nat} {a2 : Int32} {a3 : Int32} {a4 : Int32} {σ : St}, s_X0_usesOf_11 F a0 a2 a3 a4 σ = some (r, σ') → Ev M_X0_usesOf (2) 11 [(0, .ref a0), (2, .int (a2)), (3, .int (a3)), (4, .int (a4))] [] σ (some (.int r)) σ' := by
  induction F with
  | zero => intro a0 a2 a3 a4 σ h; cases h
  | succ F ih =>
    intro a0 a2 a3 a4 σ h
    change sb_X0_usesOf_11  (s_X0_usesOf_11 F) a0 a2 a3 a4 σ = some (r, σ') at h
    unfold sb_X0_usesOf_11 at h
    have hk11 := @ih
    refine ev_iload 3 dX0_usesOf_11 rfl ?_
    refine ev_aload_nR 0 dX0_usesOf_13 rfl ?_
    obtain ⟨g1, h⟩ := gd_some h
    refine ev_getI dX0_usesOf_14 fl_X0_15 rfl g1 ?_
    rcases it_some h with ⟨c2, h⟩ | ⟨c2, h⟩
    · refine ev_icmp_ge (tgt := 51) dX0_usesOf_17 rfl c2 ?_
      refine ev_iload_n 2 dX0_usesOf_51 rfl ?_
      exact ev_retI .int dX0_usesOf_52 rfl rfl h
    · refine ev_icmp_ge_n 51 dX0_usesOf_17 rfl c2 ?_
      refine ev_aload_nR 0 dX0_usesOf_20 rfl ?_
      refine ev_iload 3 dX0_usesOf_21 rfl ?_
      obtain ⟨r5, σ3, e4, h⟩ := bd_some h
      refine ev_invVi (As := [.int (a4)]) (st := []) dX0_usesOf_23 cb_X0_at tp_908 tp_709 tp_710 kf0 rfl (by omega) g1 rfl rfl (Nat.le_of_ble_eq_true rfl) (x_X0_at e4) ?_
      refine ev_iload_n 1 dX0_usesOf_26 rfl ?_
      rcases it_some h with ⟨c6, h⟩ | ⟨c6, h⟩
      · refine ev_icmp_lt (tgt := 45) dX0_usesOf_27 rfl c6 ?_
        obtain ⟨v7, e8, h⟩ := lt_some h
        refine ev_iinc (v := v7) (ls' := [(4, .int (v7)), (0, .ref a0), (2, .int (a2)), (3, .int (a3))]) 3 dX0_usesOf_45 rfl e8.symm (by decide) rfl ?_
        refine ev_goto (tgt := 11) dX0_usesOf_48 rfl ?_
        refine ev_sub (ls' := [(0, .ref a0), (2, .int (a2)), (3, .int (a3)), (4, .int (v7))]) [1, 2, 3, 0] rfl ?_
        exact hk11 h
      · refine ev_icmp_lt_n 45 dX0_usesOf_27 rfl c6 ?_
        refine ev_aload_nR 0 dX0_usesOf_30 rfl ?_
        refine ev_iload 3 dX0_usesOf_31 rfl ?_
        obtain ⟨g9, h⟩ := gd_some h
        obtain ⟨r12, σ10, e11, h⟩ := bd_some h
        refine ev_invVi (As := [.int (a4)]) (st := []) dX0_usesOf_33 cb_X0_at tp_908 tp_709 tp_710 kf0 rfl (by omega) g9 rfl rfl (Nat.le_of_ble_eq_true rfl) (x_X0_at e11) ?_
        refine ev_iload_n 1 dX0_usesOf_36 rfl ?_
        refine ev_iconst (v := 3) dX0_usesOf_37 (by decide) ?_
        refine ev_iadd dX0_usesOf_38 ?_
        rcases it_some h with ⟨c13, h⟩ | ⟨c13, h⟩
        · refine ev_icmp_ge (tgt := 45) dX0_usesOf_39 rfl c13 ?_
          obtain ⟨v14, e15, h⟩ := lt_some h
          refine ev_iinc (v := v14) (ls' := [(4, .int (v14)), (0, .ref a0), (2, .int (a2)), (3, .int (a3))]) 3 dX0_usesOf_45 rfl e15.symm (by decide) rfl ?_
          refine ev_goto (tgt := 11) dX0_usesOf_48 rfl ?_
          refine ev_sub (ls' := [(0, .ref a0), (2, .int (a2)), (3, .int (a3)), (4, .int (v14))]) [1, 2, 3, 0] rfl ?_
          exact hk11 h
        · refine ev_icmp_ge_n 45 dX0_usesOf_39 rfl c13 ?_
          obtain ⟨v16, e17, h⟩ := lt_some h
          refine ev_iinc (v := v16) (ls' := [(3, .int (v16)), (0, .ref a0), (2, .int (a2)), (4, .int (a4))]) 2 dX0_usesOf_42 rfl e17.symm (by decide) rfl ?_
          obtain ⟨v18, e19, h⟩ := lt_some h
          refine ev_iinc (v := v18) (ls' := [(4, .int (v18)), (3, .int (v16)), (0, .ref a0), (2, .int (a2))]) 3 dX0_usesOf_45 rfl e19.symm (by decide) rfl ?_
          refine ev_goto (tgt := 11) dX0_usesOf_48 rfl ?_
          refine ev_sub (ls' := [(0, .ref a0), (2, .int (a2)), (3, .int (v16)), (4, .int (v18))]) [2, 3, 1, 0] rfl ?_
          exact hk11 h
def s_X0_usesOf (a0 : Nat) (a1 : Int32) (σ : St) : Option (Int32 × St) :=
 bd (s_X0_numberOf a1 0 σ) fun r22 σ20 =>
 s_X0_usesOf_11 16000 a0 r22 0 0 σ20
set_option maxHeartbeats 4000000 in
set_option maxRecDepth 100000 in
theorem x_X0_usesOf {a0 : Nat} {a1 : Int32} {σ : St} {r : Int32} {σ' : St} (h : s_X0_usesOf a0 a1 σ = some (r, σ')) : Ex M_X0_usesOf (2) [.ref a0, .int (a1)] σ (some (.int r)) σ' := by
  unfold s_X0_usesOf at h
  refine ex_of (by decide) rfl (Nat.le_of_ble_eq_true rfl) ?_
  show Ev _ _ 0 [(0, .ref a0), (1, .int (a1))] [] _ _ _
  refine ev_iload_n 1 dX0_usesOf_0 rfl ?_
  refine ev_iconst (v := 0) dX0_usesOf_1 (by decide) ?_
  obtain ⟨r22, σ20, e21, h⟩ := bd_some h
  refine ev_invSi (As := [.int (a1), .int (0)]) (st := []) dX0_usesOf_2 cb_X0_numberOf tp_697 tp_698 (by omega) rfl rfl (Nat.le_of_ble_eq_true rfl) (x_X0_numberOf e21) ?_
  refine ev_istore_n (ls' := [(2, .int (r22)), (0, .ref a0), (1, .int (a1))]) dX0_usesOf_5 (by decide) rfl ?_
  refine ev_iconst (v := 0) dX0_usesOf_6 (by decide) ?_
  refine ev_istore_n (ls' := [(3, .int (0)), (2, .int (r22)), (0, .ref a0), (1, .int (a1))]) dX0_usesOf_7 (by decide) rfl ?_
  refine ev_iconst (v := 0) dX0_usesOf_8 (by decide) ?_
  refine ev_istore (ls' := [(4, .int (0)), (3, .int (0)), (2, .int (r22)), (0, .ref a0), (1, .int (a1))]) dX0_usesOf_9 (by decide) rfl ?_
  refine ev_sub (ls' := [(0, .ref a0), (2, .int (r22)), (3, .int (0)), (4, .int (0))]) [3, 2, 1, 0] rfl ?_
  exact e_X0_usesOf_11 16000 h
def s_X1_init (a0 : Nat) (a1 : Nat) (a2 : Int32) (a3 : Int32) (σ : St) : Option (Unit × St) :=
 if isO σ 1 a0 = true then (lt (setP σ a0 0 (some a1)) fun σ2 =>
 lt (setI σ2 a0 1 a2) fun σ4 =>
 lt (setI σ4 a0 2 a3) fun σ6 =>
 some ((), σ6)) else none
set_option maxHeartbeats 4000000 in
set_option maxRecDepth 100000 in
theorem x_X1_init {a0 : Nat} {a1 : Nat} {a2 : Int32} {a3 : Int32} {σ : St} {r : Unit} {σ' : St} (h : s_X1_init a0 a1 a2 a3 σ = some (r, σ')) : Ex M_X1_init (1) [.ref a0, .ref a1, .int (a2), .int (a3)] σ none σ' := by
  unfold s_X1_init at h
  refine ex_of (by decide) rfl (Nat.le_of_ble_eq_true rfl) ?_
  show Ev _ _ 0 [(0, .ref a0), (1, .ref a1), (2, .int (a2)), (3, .int (a3))] [] _ _ _
  refine ev_aload_nR 0 dX1_init_0 rfl ?_
  refine ev_objinit dX1_init_1 tp_411 tp_74 tp_75 (by omega) (Nat.le_of_ble_eq_true rfl) ?_
  refine ev_aload_nR 0 dX1_init_4 rfl ?_
  refine ev_aload_nR 1 dX1_init_5 rfl ?_
  obtain ⟨g1, h⟩ := gd_some h
  obtain ⟨σ2, e3, h⟩ := lt_some h
  refine ev_putPR dX1_init_6 fl_X1_7 rfl (Or.inr ⟨rfl, rfl⟩) g1 ?_
  refine ev_st e3 ?_
  refine ev_aload_nR 0 dX1_init_9 rfl ?_
  refine ev_iload_n 2 dX1_init_10 rfl ?_
  obtain ⟨σ4, e5, h⟩ := lt_some h
  refine ev_putI dX1_init_11 fl_X1_13 rfl (Or.inr ⟨rfl, rfl⟩) (isO_P e3 g1) ⟨rfl, rfl⟩ ?_
  refine ev_st e5 ?_
  refine ev_aload_nR 0 dX1_init_14 rfl ?_
  refine ev_iload_n 3 dX1_init_15 rfl ?_
  obtain ⟨σ6, e7, h⟩ := lt_some h
  refine ev_putI dX1_init_16 fl_X1_17 rfl (Or.inr ⟨rfl, rfl⟩) (isO_I e5 (isO_P e3 g1)) ⟨rfl, rfl⟩ ?_
  refine ev_st e7 ?_
  exact ev_retV dX1_init_19 rfl h
def s_X1_signs (a0 : Nat) (σ : St) : Option (Option Nat × St) :=
 if isO σ 1 a0 = true then (op (sP σ a0 0) fun p2 =>
 some (some p2, σ)) else none
set_option maxHeartbeats 4000000 in
set_option maxRecDepth 100000 in
theorem x_X1_signs {a0 : Nat} {σ : St} {r : Option Nat} {σ' : St} (h : s_X1_signs a0 σ = some (r, σ')) : Ex M_X1_signs (1) [.ref a0] σ (some (va_rf r)) σ' := by
  unfold s_X1_signs at h
  refine ex_of (by decide) rfl (Nat.le_of_ble_eq_true rfl) ?_
  show Ev _ _ 0 [(0, .ref a0)] [] _ _ _
  refine ev_aload_nR 0 dX1_signs_0 rfl ?_
  obtain ⟨g1, h⟩ := gd_some h
  obtain ⟨p2, e3, h⟩ := op_some h
  refine ev_getPR dX1_signs_1 fl_X1_7 rfl g1 e3 ?_
  exact ev_retQ (x := some p2) _ dX1_signs_4 rfl (Or.inr ⟨_, rfl⟩) h
def s_X1_nodes (a0 : Nat) (σ : St) : Option (Int32 × St) :=
 if isO σ 1 a0 = true then (some (sI σ a0 1, σ)) else none
set_option maxHeartbeats 4000000 in
set_option maxRecDepth 100000 in
theorem x_X1_nodes {a0 : Nat} {σ : St} {r : Int32} {σ' : St} (h : s_X1_nodes a0 σ = some (r, σ')) : Ex M_X1_nodes (1) [.ref a0] σ (some (.int r)) σ' := by
  unfold s_X1_nodes at h
  refine ex_of (by decide) rfl (Nat.le_of_ble_eq_true rfl) ?_
  show Ev _ _ 0 [(0, .ref a0)] [] _ _ _
  refine ev_aload_nR 0 dX1_nodes_0 rfl ?_
  obtain ⟨g1, h⟩ := gd_some h
  refine ev_getI dX1_nodes_1 fl_X1_13 rfl g1 ?_
  exact ev_retI .int dX1_nodes_4 rfl rfl h
def s_X1_loans (a0 : Nat) (σ : St) : Option (Int32 × St) :=
 if isO σ 1 a0 = true then (some (sI σ a0 2, σ)) else none
set_option maxHeartbeats 4000000 in
set_option maxRecDepth 100000 in
theorem x_X1_loans {a0 : Nat} {σ : St} {r : Int32} {σ' : St} (h : s_X1_loans a0 σ = some (r, σ')) : Ex M_X1_loans (1) [.ref a0] σ (some (.int r)) σ' := by
  unfold s_X1_loans at h
  refine ex_of (by decide) rfl (Nat.le_of_ble_eq_true rfl) ?_
  show Ev _ _ 0 [(0, .ref a0)] [] _ _ _
  refine ev_aload_nR 0 dX1_loans_0 rfl ?_
  obtain ⟨g1, h⟩ := gd_some h
  refine ev_getI dX1_loans_1 fl_X1_17 rfl g1 ?_
  exact ev_retI .int dX1_loans_4 rfl rfl h
def s_X2_init (a0 : Nat) (a1 : Nat) (a2 : Nat) (σ : St) : Option (Unit × St) :=
 if isO σ 2 a0 = true then (lt (setI σ a0 2 0) fun σ2 =>
 lt (setI σ2 a0 3 0) fun σ4 =>
 lt (setI σ4 a0 4 0) fun σ6 =>
 lt (setP σ6 a0 0 (some a1)) fun σ8 =>
 lt (setP σ8 a0 1 (some a2)) fun σ10 =>
 some ((), σ10)) else none
set_option maxHeartbeats 4000000 in
set_option maxRecDepth 100000 in
theorem x_X2_init {a0 : Nat} {a1 : Nat} {a2 : Nat} {σ : St} {r : Unit} {σ' : St} (h : s_X2_init a0 a1 a2 σ = some (r, σ')) : Ex M_X2_init (1) [.ref a0, .ref a1, .ref a2] σ none σ' := by
  unfold s_X2_init at h
  refine ex_of (by decide) rfl (Nat.le_of_ble_eq_true rfl) ?_
  show Ev _ _ 0 [(0, .ref a0), (1, .ref a1), (2, .ref a2)] [] _ _ _
  refine ev_aload_nR 0 dX2_init_0 rfl ?_
  refine ev_objinit dX2_init_1 tp_221 tp_74 tp_75 (by omega) (Nat.le_of_ble_eq_true rfl) ?_
  refine ev_aload_nR 0 dX2_init_4 rfl ?_
  refine ev_iconst (v := 0) dX2_init_5 (by decide) ?_
  obtain ⟨g1, h⟩ := gd_some h
  obtain ⟨σ2, e3, h⟩ := lt_some h
  refine ev_putI dX2_init_6 fl_X2_11 rfl (Or.inl rfl) g1 ⟨rfl, rfl⟩ ?_
  refine ev_st e3 ?_
  refine ev_aload_nR 0 dX2_init_9 rfl ?_
  refine ev_iconst (v := 0) dX2_init_10 (by decide) ?_
  obtain ⟨σ4, e5, h⟩ := lt_some h
  refine ev_putI dX2_init_11 fl_X2_15 rfl (Or.inl rfl) (isO_I e3 g1) ⟨rfl, rfl⟩ ?_
  refine ev_st e5 ?_
  refine ev_aload_nR 0 dX2_init_14 rfl ?_
  refine ev_iconst (v := 0) dX2_init_15 (by decide) ?_
  obtain ⟨σ6, e7, h⟩ := lt_some h
  refine ev_putI dX2_init_16 fl_X2_18 rfl (Or.inl rfl) (isO_I e5 (isO_I e3 g1)) ⟨rfl, rfl⟩ ?_
  refine ev_st e7 ?_
  refine ev_aload_nR 0 dX2_init_19 rfl ?_
  refine ev_aload_nR 1 dX2_init_20 rfl ?_
  obtain ⟨σ8, e9, h⟩ := lt_some h
  refine ev_putPR dX2_init_21 fl_X2_21 rfl (Or.inr ⟨rfl, rfl⟩) (isO_I e7 (isO_I e5 (isO_I e3 g1))) ?_
  refine ev_st e9 ?_
  refine ev_aload_nR 0 dX2_init_24 rfl ?_
  refine ev_aload_nR 2 dX2_init_25 rfl ?_
  obtain ⟨σ10, e11, h⟩ := lt_some h
  refine ev_putPR dX2_init_26 fl_X2_25 rfl (Or.inr ⟨rfl, rfl⟩) (isO_P e9 (isO_I e7 (isO_I e5 (isO_I e3 g1)))) ?_
  refine ev_st e11 ?_
  exact ev_retV dX2_init_29 rfl h
def s_X2_judge (a0 : Nat) (a1 : Int32) (σ : St) : Option (Unit × St) :=
 if isO σ 2 a0 = true then (lt (setI σ a0 2 0) fun σ2 =>
 lt (setI σ2 a0 3 0) fun σ4 =>
 lt (setI σ4 a0 4 0) fun σ6 =>
 op (sP σ6 a0 0) fun p8 =>
 if isO σ6 3 p8 = true then (bd (s_X3_root p8 σ6) fun r13 σ11 =>
 if isO σ11 2 a0 = true then (bd (s_X2_visit 15 a0 r13 a1 1 σ11) fun r17 σ15 =>
 if isO σ15 2 a0 = true then (if (sI σ15 a0 2) = 0 then (op (sP σ15 a0 1) fun p20 =>
 if isO σ15 8 p20 = true then (bd (s_X8_length p20 σ15) fun r25 σ23 =>
 if r25 ≤ (sI σ15 a0 3) then (some ((), σ23)) else (if isO σ23 2 a0 = true then (lt (setI σ23 a0 2 6) fun σ28 =>
 some ((), σ28)) else none)) else none) else (some ((), σ15))) else none) else none) else none) else none
set_option maxHeartbeats 4000000 in
set_option maxRecDepth 100000 in
theorem x_X2_judge {a0 : Nat} {a1 : Int32} {σ : St} {r : Unit} {σ' : St} (h : s_X2_judge a0 a1 σ = some (r, σ')) : Ex M_X2_judge (76) [.ref a0, .int (a1)] σ none σ' := by
  unfold s_X2_judge at h
  refine ex_of (by decide) rfl (Nat.le_of_ble_eq_true rfl) ?_
  show Ev _ _ 0 [(0, .ref a0), (1, .int (a1))] [] _ _ _
  refine ev_aload_nR 0 dX2_judge_0 rfl ?_
  refine ev_iconst (v := 0) dX2_judge_1 (by decide) ?_
  obtain ⟨g1, h⟩ := gd_some h
  obtain ⟨σ2, e3, h⟩ := lt_some h
  refine ev_putI dX2_judge_2 fl_X2_11 rfl (Or.inl rfl) g1 ⟨rfl, rfl⟩ ?_
  refine ev_st e3 ?_
  refine ev_aload_nR 0 dX2_judge_5 rfl ?_
  refine ev_iconst (v := 0) dX2_judge_6 (by decide) ?_
  obtain ⟨σ4, e5, h⟩ := lt_some h
  refine ev_putI dX2_judge_7 fl_X2_15 rfl (Or.inl rfl) (isO_I e3 g1) ⟨rfl, rfl⟩ ?_
  refine ev_st e5 ?_
  refine ev_aload_nR 0 dX2_judge_10 rfl ?_
  refine ev_iconst (v := 0) dX2_judge_11 (by decide) ?_
  obtain ⟨σ6, e7, h⟩ := lt_some h
  refine ev_putI dX2_judge_12 fl_X2_18 rfl (Or.inl rfl) (isO_I e5 (isO_I e3 g1)) ⟨rfl, rfl⟩ ?_
  refine ev_st e7 ?_
  refine ev_aload_nR 0 dX2_judge_15 rfl ?_
  refine ev_aload_nR 0 dX2_judge_16 rfl ?_
  obtain ⟨p8, e9, h⟩ := op_some h
  refine ev_getPR dX2_judge_17 fl_X2_21 rfl (isO_I e7 (isO_I e5 (isO_I e3 g1))) e9 ?_
  obtain ⟨g10, h⟩ := gd_some h
  obtain ⟨r13, σ11, e12, h⟩ := bd_some h
  refine ev_invVi (As := []) (st := [.ref a0]) dX2_judge_20 cb_X3_root tp_736 tp_618 tp_619 kf3 rfl (by omega) g10 rfl rfl (Nat.le_of_ble_eq_true rfl) (x_X3_root e12) ?_
  refine ev_iload_n 1 dX2_judge_23 rfl ?_
  refine ev_iconst (v := 1) dX2_judge_24 (by decide) ?_
  obtain ⟨g14, h⟩ := gd_some h
  obtain ⟨r17, σ15, e16, h⟩ := bd_some h
  refine ev_invVv (As := [.int (r13), .int (a1), .int (1)]) (st := []) dX2_judge_25 cb_X2_visit tp_737 tp_739 tp_39 kf2 rfl (by omega) g14 rfl rfl (Nat.le_of_ble_eq_true rfl) (x_X2_visit 15 e16) ?_
  refine ev_aload_nR 0 dX2_judge_28 rfl ?_
  obtain ⟨g18, h⟩ := gd_some h
  refine ev_getI dX2_judge_29 fl_X2_11 rfl g18 ?_
  rcases it_some h with ⟨c19, h⟩ | ⟨c19, h⟩
  · refine ev_if_ne_n 55 dX2_judge_32 rfl c19 ?_
    refine ev_aload_nR 0 dX2_judge_35 rfl ?_
    refine ev_getI dX2_judge_36 fl_X2_15 rfl g18 ?_
    refine ev_aload_nR 0 dX2_judge_39 rfl ?_
    obtain ⟨p20, e21, h⟩ := op_some h
    refine ev_getPR dX2_judge_40 fl_X2_25 rfl g18 e21 ?_
    obtain ⟨g22, h⟩ := gd_some h
    obtain ⟨r25, σ23, e24, h⟩ := bd_some h
    refine ev_invVi (As := []) (st := [.int (sI σ15 a0 3)]) dX2_judge_43 cb_X8_length tp_760 tp_725 tp_726 kf8 rfl (by omega) g22 rfl rfl (Nat.le_of_ble_eq_true rfl) (x_X8_length e24) ?_
    rcases it_some h with ⟨c26, h⟩ | ⟨c26, h⟩
    · refine ev_icmp_ge (tgt := 55) dX2_judge_46 rfl c26 ?_
      exact ev_retV dX2_judge_55 rfl h
    · refine ev_icmp_ge_n 55 dX2_judge_46 rfl c26 ?_
      refine ev_aload_nR 0 dX2_judge_49 rfl ?_
      refine ev_bipush (v := 6) dX2_judge_50 (by decide) ?_
      obtain ⟨g27, h⟩ := gd_some h
      obtain ⟨σ28, e29, h⟩ := lt_some h
      refine ev_putI dX2_judge_52 fl_X2_11 rfl (Or.inl rfl) g27 ⟨rfl, rfl⟩ ?_
      refine ev_st e29 ?_
      exact ev_retV dX2_judge_55 rfl h
  · refine ev_if_ne (tgt := 55) dX2_judge_32 rfl c19 ?_
    exact ev_retV dX2_judge_55 rfl h
def s_X2_verdict (a0 : Nat) (σ : St) : Option (Int32 × St) :=
 if isO σ 2 a0 = true then (some (sI σ a0 2, σ)) else none
set_option maxHeartbeats 4000000 in
set_option maxRecDepth 100000 in
theorem x_X2_verdict {a0 : Nat} {σ : St} {r : Int32} {σ' : St} (h : s_X2_verdict a0 σ = some (r, σ')) : Ex M_X2_verdict (1) [.ref a0] σ (some (.int r)) σ' := by
  unfold s_X2_verdict at h
  refine ex_of (by decide) rfl (Nat.le_of_ble_eq_true rfl) ?_
  show Ev _ _ 0 [(0, .ref a0)] [] _ _ _
  refine ev_aload_nR 0 dX2_verdict_0 rfl ?_
  obtain ⟨g1, h⟩ := gd_some h
  refine ev_getI dX2_verdict_1 fl_X2_11 rfl g1 ?_
  exact ev_retI .int dX2_verdict_4 rfl rfl h
def s_X2_used (a0 : Nat) (σ : St) : Option (Int32 × St) :=
 if isO σ 2 a0 = true then (some (sI σ a0 3, σ)) else none
set_option maxHeartbeats 4000000 in
set_option maxRecDepth 100000 in
theorem x_X2_used {a0 : Nat} {σ : St} {r : Int32} {σ' : St} (h : s_X2_used a0 σ = some (r, σ')) : Ex M_X2_used (1) [.ref a0] σ (some (.int r)) σ' := by
  unfold s_X2_used at h
  refine ex_of (by decide) rfl (Nat.le_of_ble_eq_true rfl) ?_
  show Ev _ _ 0 [(0, .ref a0)] [] _ _ _
  refine ev_aload_nR 0 dX2_used_0 rfl ?_
  obtain ⟨g1, h⟩ := gd_some h
  refine ev_getI dX2_used_1 fl_X2_15 rfl g1 ?_
  exact ev_retI .int dX2_used_4 rfl rfl h
def s_X2_deepest (a0 : Nat) (σ : St) : Option (Int32 × St) :=
 if isO σ 2 a0 = true then (some (sI σ a0 4, σ)) else none
set_option maxHeartbeats 4000000 in
set_option maxRecDepth 100000 in
theorem x_X2_deepest {a0 : Nat} {σ : St} {r : Int32} {σ' : St} (h : s_X2_deepest a0 σ = some (r, σ')) : Ex M_X2_deepest (1) [.ref a0] σ (some (.int r)) σ' := by
  unfold s_X2_deepest at h
  refine ex_of (by decide) rfl (Nat.le_of_ble_eq_true rfl) ?_
  show Ev _ _ 0 [(0, .ref a0)] [] _ _ _
  refine ev_aload_nR 0 dX2_deepest_0 rfl ?_
  obtain ⟨g1, h⟩ := gd_some h
  refine ev_getI dX2_deepest_1 fl_X2_18 rfl g1 ?_
  exact ev_retI .int dX2_deepest_4 rfl rfl h
def s_X3_init (a0 : Nat) (σ : St) : Option (Unit × St) :=
 lt (sn σ) fun n1 => lt (newC σ 12 (60 : Int32).toNatClampNeg) fun σ3 =>
 if isO σ3 3 a0 = true then (lt (setP σ3 a0 0 (some n1)) fun σ6 =>
 lt (sn σ6) fun n8 => lt (newC σ6 13 (60 : Int32).toNatClampNeg) fun σ10 =>
 lt (setP σ10 a0 1 (some n8)) fun σ12 =>
 lt (sn σ12) fun n14 => lt (newC σ12 13 (60 : Int32).toNatClampNeg) fun σ16 =>
 lt (setP σ16 a0 2 (some n14)) fun σ18 =>
 lt (sn σ18) fun n20 => lt (newC σ18 12 (36 : Int32).toNatClampNeg) fun σ22 =>
 lt (setP σ22 a0 3 (some n20)) fun σ24 =>
 lt (sn σ24) fun n26 => lt (newC σ24 13 (36 : Int32).toNatClampNeg) fun σ28 =>
 lt (setP σ28 a0 4 (some n26)) fun σ30 =>
 lt (setI σ30 a0 5 0) fun σ32 =>
 lt (setI σ32 a0 6 0) fun σ34 =>
 lt (setI σ34 a0 7 ((-1))) fun σ36 =>
 some ((), σ36)) else none
set_option maxHeartbeats 4000000 in
set_option maxRecDepth 100000 in
theorem x_X3_init {a0 : Nat} {σ : St} {r : Unit} {σ' : St} (h : s_X3_init a0 σ = some (r, σ')) : Ex M_X3_init (1) [.ref a0] σ none σ' := by
  unfold s_X3_init at h
  refine ex_of (by decide) rfl (Nat.le_of_ble_eq_true rfl) ?_
  show Ev _ _ 0 [(0, .ref a0)] [] _ _ _
  refine ev_aload_nR 0 dX3_init_0 rfl ?_
  refine ev_objinit dX3_init_1 tp_108 tp_74 tp_75 (by omega) (Nat.le_of_ble_eq_true rfl) ?_
  refine ev_aload_nR 0 dX3_init_4 rfl ?_
  refine ev_bipush (v := 60) dX3_init_5 (by decide) ?_
  obtain ⟨n1, e2, h⟩ := lt_some h
  obtain ⟨σ3, e4, h⟩ := lt_some h
  refine ev_newaR (k := 12) dX3_init_7 (by decide) tp_89 (by decide) e2 ?_
  refine ev_st e4 ?_
  obtain ⟨g5, h⟩ := gd_some h
  obtain ⟨σ6, e7, h⟩ := lt_some h
  refine ev_putPR dX3_init_9 fl_X3_9 rfl (Or.inr ⟨rfl, rfl⟩) g5 ?_
  refine ev_st e7 ?_
  refine ev_aload_nR 0 dX3_init_12 rfl ?_
  refine ev_bipush (v := 60) dX3_init_13 (by decide) ?_
  obtain ⟨n8, e9, h⟩ := lt_some h
  obtain ⟨σ10, e11, h⟩ := lt_some h
  refine ev_newaR (k := 13) dX3_init_15 (by decide) tp_134 (by decide) e9 ?_
  refine ev_st e11 ?_
  obtain ⟨σ12, e13, h⟩ := lt_some h
  refine ev_putPR dX3_init_17 fl_X3_15 rfl (Or.inr ⟨rfl, rfl⟩) (isO_N e11 (isO_P e7 g5)) ?_
  refine ev_st e13 ?_
  refine ev_aload_nR 0 dX3_init_20 rfl ?_
  refine ev_bipush (v := 60) dX3_init_21 (by decide) ?_
  obtain ⟨n14, e15, h⟩ := lt_some h
  obtain ⟨σ16, e17, h⟩ := lt_some h
  refine ev_newaR (k := 13) dX3_init_23 (by decide) tp_134 (by decide) e15 ?_
  refine ev_st e17 ?_
  obtain ⟨σ18, e19, h⟩ := lt_some h
  refine ev_putPR dX3_init_25 fl_X3_19 rfl (Or.inr ⟨rfl, rfl⟩) (isO_N e17 (isO_P e13 (isO_N e11 (isO_P e7 g5)))) ?_
  refine ev_st e19 ?_
  refine ev_aload_nR 0 dX3_init_28 rfl ?_
  refine ev_bipush (v := 36) dX3_init_29 (by decide) ?_
  obtain ⟨n20, e21, h⟩ := lt_some h
  obtain ⟨σ22, e23, h⟩ := lt_some h
  refine ev_newaR (k := 12) dX3_init_31 (by decide) tp_89 (by decide) e21 ?_
  refine ev_st e23 ?_
  obtain ⟨σ24, e25, h⟩ := lt_some h
  refine ev_putPR dX3_init_33 fl_X3_22 rfl (Or.inr ⟨rfl, rfl⟩) (isO_N e23 (isO_P e19 (isO_N e17 (isO_P e13 (isO_N e11 (isO_P e7 g5)))))) ?_
  refine ev_st e25 ?_
  refine ev_aload_nR 0 dX3_init_36 rfl ?_
  refine ev_bipush (v := 36) dX3_init_37 (by decide) ?_
  obtain ⟨n26, e27, h⟩ := lt_some h
  obtain ⟨σ28, e29, h⟩ := lt_some h
  refine ev_newaR (k := 13) dX3_init_39 (by decide) tp_134 (by decide) e27 ?_
  refine ev_st e29 ?_
  obtain ⟨σ30, e31, h⟩ := lt_some h
  refine ev_putPR dX3_init_41 fl_X3_25 rfl (Or.inr ⟨rfl, rfl⟩) (isO_N e29 (isO_P e25 (isO_N e23 (isO_P e19 (isO_N e17 (isO_P e13 (isO_N e11 (isO_P e7 g5)))))))) ?_
  refine ev_st e31 ?_
  refine ev_aload_nR 0 dX3_init_44 rfl ?_
  refine ev_iconst (v := 0) dX3_init_45 (by decide) ?_
  obtain ⟨σ32, e33, h⟩ := lt_some h
  refine ev_putI dX3_init_46 fl_X3_28 rfl (Or.inl rfl) (isO_P e31 (isO_N e29 (isO_P e25 (isO_N e23 (isO_P e19 (isO_N e17 (isO_P e13 (isO_N e11 (isO_P e7 g5))))))))) ⟨rfl, rfl⟩ ?_
  refine ev_st e33 ?_
  refine ev_aload_nR 0 dX3_init_49 rfl ?_
  refine ev_iconst (v := 0) dX3_init_50 (by decide) ?_
  obtain ⟨σ34, e35, h⟩ := lt_some h
  refine ev_putI dX3_init_51 fl_X3_32 rfl (Or.inl rfl) (isO_I e33 (isO_P e31 (isO_N e29 (isO_P e25 (isO_N e23 (isO_P e19 (isO_N e17 (isO_P e13 (isO_N e11 (isO_P e7 g5)))))))))) ⟨rfl, rfl⟩ ?_
  refine ev_st e35 ?_
  refine ev_aload_nR 0 dX3_init_54 rfl ?_
  refine ev_iconst (v := (-1)) dX3_init_55 (by decide) ?_
  obtain ⟨σ36, e37, h⟩ := lt_some h
  refine ev_putI dX3_init_56 fl_X3_35 rfl (Or.inl rfl) (isO_I e35 (isO_I e33 (isO_P e31 (isO_N e29 (isO_P e25 (isO_N e23 (isO_P e19 (isO_N e17 (isO_P e13 (isO_N e11 (isO_P e7 g5))))))))))) ⟨rfl, rfl⟩ ?_
  refine ev_st e37 ?_
  exact ev_retV dX3_init_59 rfl h
def sb_X3_clear_17 (k17 : Nat → Int32 → St → Option (Unit × St)) (a0 : Nat) (a1 : Int32) (σ : St) : Option (Unit × St) :=
 if isO σ 3 a0 = true then (op (sP σ a0 3) fun p2 =>
 if isO σ 12 p2 = true then (if (nI (alen σ p2)) ≤ a1 then (some ((), σ)) else (op (sP σ a0 4) fun p6 =>
 if isO σ 13 p6 = true then (if (nI (alen σ p6)) ≤ a1 then (some ((), σ)) else (if inR a1 (alen σ p2) = true then (lt (setI σ p2 a1.toNatClampNeg ((0 : Int32).toUInt32 % 65536).toInt32) fun σ11 =>
 if inR a1 (alen σ11 p6) = true then (lt (setI σ11 p6 a1.toNatClampNeg ((-1))) fun σ14 =>
 lt (a1 + 1 : Int32) fun v16 =>
 k17 a0 v16 σ14) else none) else none)) else none)) else none) else none
def s_X3_clear_17 (F : Nat) : Nat → Int32 → St → Option (Unit × St) := lp (fun _ _ _ => none) (sb_X3_clear_17 ) F
set_option maxHeartbeats 4000000 in
set_option maxRecDepth 100000 in
theorem e_X3_clear_17 {r : Unit} {σ' : St} (F : Nat) : ∀ {a0 : Nat} {a1 : Int32} {σ : St}, s_X3_clear_17 F a0 a1 σ = some (r, σ') → Ev M_X3_clear (1) 17 [(0, .ref a0), (1, .int (a1))] [] σ none σ' := by
  induction F with
  | zero => intro a0 a1 σ h; cases h
  | succ F ih =>
    intro a0 a1 σ h
    change sb_X3_clear_17  (s_X3_clear_17 F) a0 a1 σ = some (r, σ') at h
    unfold sb_X3_clear_17 at h
    have hk17 := @ih
    refine ev_iload_n 1 dX3_clear_17 rfl ?_
    refine ev_aload_nR 0 dX3_clear_18 rfl ?_
    obtain ⟨g1, h⟩ := gd_some h
    obtain ⟨p2, e3, h⟩ := op_some h
    refine ev_getPR dX3_clear_19 fl_X3_22 rfl g1 e3 ?_
    obtain ⟨g4, h⟩ := gd_some h
    refine ev_alen dX3_clear_22 (isA_O g4) (by decide) ?_
    rcases it_some h with ⟨c5, h⟩ | ⟨c5, h⟩
    · refine ev_icmp_ge (tgt := 55) dX3_clear_23 rfl c5 ?_
      exact ev_retV dX3_clear_55 rfl h
    · refine ev_icmp_ge_n 55 dX3_clear_23 rfl c5 ?_
      refine ev_iload_n 1 dX3_clear_26 rfl ?_
      refine ev_aload_nR 0 dX3_clear_27 rfl ?_
      obtain ⟨p6, e7, h⟩ := op_some h
      refine ev_getPR dX3_clear_28 fl_X3_25 rfl g1 e7 ?_
      obtain ⟨g8, h⟩ := gd_some h
      refine ev_alen dX3_clear_31 (isA_O g8) (by decide) ?_
      rcases it_some h with ⟨c9, h⟩ | ⟨c9, h⟩
      · refine ev_icmp_ge (tgt := 55) dX3_clear_32 rfl c9 ?_
        exact ev_retV dX3_clear_55 rfl h
      · refine ev_icmp_ge_n 55 dX3_clear_32 rfl c9 ?_
        refine ev_aload_nR 0 dX3_clear_35 rfl ?_
        refine ev_getPR dX3_clear_36 fl_X3_22 rfl g1 e3 ?_
        refine ev_iload_n 1 dX3_clear_39 rfl ?_
        refine ev_iconst (v := 0) dX3_clear_40 (by decide) ?_
        obtain ⟨g10, h⟩ := gd_some h
        obtain ⟨σ11, e12, h⟩ := lt_some h
        refine ev_cast dX3_clear_41 (isO_spec g4).1 (isA_O g4) g10 ?_
        refine ev_st e12 ?_
        refine ev_aload_nR 0 dX3_clear_42 rfl ?_
        refine ev_getPR dX3_clear_43 fl_X3_25 rfl (isO_I e12 g1) (rf_I e12 e7) ?_
        refine ev_iload_n 1 dX3_clear_46 rfl ?_
        refine ev_iconst (v := (-1)) dX3_clear_47 (by decide) ?_
        obtain ⟨g13, h⟩ := gd_some h
        obtain ⟨σ14, e15, h⟩ := lt_some h
        refine ev_iast dX3_clear_48 (isO_spec (isO_I e12 g8)).1 (isA_O (isO_I e12 g8)) g13 ?_
        refine ev_st e15 ?_
        obtain ⟨v16, e17, h⟩ := lt_some h
        refine ev_iinc (v := v16) (ls' := [(1, .int (v16)), (0, .ref a0)]) 1 dX3_clear_49 rfl e17.symm (by decide) rfl ?_
        refine ev_goto (tgt := 17) dX3_clear_52 rfl ?_
        refine ev_sub (ls' := [(0, .ref a0), (1, .int (v16))]) [1, 0] rfl ?_
        exact hk17 h
def s_X3_clear (a0 : Nat) (σ : St) : Option (Unit × St) :=
 if isO σ 3 a0 = true then (lt (setI σ a0 5 0) fun σ19 =>
 lt (setI σ19 a0 6 0) fun σ21 =>
 lt (setI σ21 a0 7 ((-1))) fun σ23 =>
 s_X3_clear_17 16000 a0 0 σ23) else none
set_option maxHeartbeats 4000000 in
set_option maxRecDepth 100000 in
theorem x_X3_clear {a0 : Nat} {σ : St} {r : Unit} {σ' : St} (h : s_X3_clear a0 σ = some (r, σ')) : Ex M_X3_clear (1) [.ref a0] σ none σ' := by
  unfold s_X3_clear at h
  refine ex_of (by decide) rfl (Nat.le_of_ble_eq_true rfl) ?_
  show Ev _ _ 0 [(0, .ref a0)] [] _ _ _
  refine ev_aload_nR 0 dX3_clear_0 rfl ?_
  refine ev_iconst (v := 0) dX3_clear_1 (by decide) ?_
  obtain ⟨g18, h⟩ := gd_some h
  obtain ⟨σ19, e20, h⟩ := lt_some h
  refine ev_putI dX3_clear_2 fl_X3_28 rfl (Or.inl rfl) g18 ⟨rfl, rfl⟩ ?_
  refine ev_st e20 ?_
  refine ev_aload_nR 0 dX3_clear_5 rfl ?_
  refine ev_iconst (v := 0) dX3_clear_6 (by decide) ?_
  obtain ⟨σ21, e22, h⟩ := lt_some h
  refine ev_putI dX3_clear_7 fl_X3_32 rfl (Or.inl rfl) (isO_I e20 g18) ⟨rfl, rfl⟩ ?_
  refine ev_st e22 ?_
  refine ev_aload_nR 0 dX3_clear_10 rfl ?_
  refine ev_iconst (v := (-1)) dX3_clear_11 (by decide) ?_
  obtain ⟨σ23, e24, h⟩ := lt_some h
  refine ev_putI dX3_clear_12 fl_X3_35 rfl (Or.inl rfl) (isO_I e22 (isO_I e20 g18)) ⟨rfl, rfl⟩ ?_
  refine ev_st e24 ?_
  refine ev_iconst (v := 0) dX3_clear_15 (by decide) ?_
  refine ev_istore_n (ls' := [(1, .int (0)), (0, .ref a0)]) dX3_clear_16 (by decide) rfl ?_
  refine ev_sub (ls' := [(0, .ref a0), (1, .int (0))]) [1, 0] rfl ?_
  exact e_X3_clear_17 16000 h
def s_X6_at (a0 : Nat) (a1 : Int32) (σ : St) : Option (Option Nat × St) :=
 if a1 < 0 then (some (none, σ)) else (if (10 : Int32) ≤ a1 then (some (none, σ)) else (if isO σ 6 a0 = true then (op (sP σ a0 0) fun p4 =>
 if isO σ 16 p4 = true then (if inR a1 (alen σ p4) = true then (some ((sP σ p4 a1.toNatClampNeg), σ)) else none) else none) else none))
set_option maxHeartbeats 4000000 in
set_option maxRecDepth 100000 in
theorem x_X6_at {a0 : Nat} {a1 : Int32} {σ : St} {r : Option Nat} {σ' : St} (h : s_X6_at a0 a1 σ = some (r, σ')) : Ex M_X6_at (1) [.ref a0, .int (a1)] σ (some (va_rf r)) σ' := by
  unfold s_X6_at at h
  refine ex_of (by decide) rfl (Nat.le_of_ble_eq_true rfl) ?_
  show Ev _ _ 0 [(0, .ref a0), (1, .int (a1))] [] _ _ _
  refine ev_iload_n 1 dX6_at_0 rfl ?_
  rcases it_some h with ⟨c1, h⟩ | ⟨c1, h⟩
  · refine ev_if_lt (tgt := 19) dX6_at_1 rfl c1 ?_
    refine ev_null dX6_at_19 ?_
    exact ev_retQ (x := none) _ dX6_at_20 rfl (Or.inl ⟨_, rfl⟩) h
  · refine ev_if_lt_n 19 dX6_at_1 rfl c1 ?_
    refine ev_iload_n 1 dX6_at_4 rfl ?_
    refine ev_bipush (v := 10) dX6_at_5 (by decide) ?_
    rcases it_some h with ⟨c2, h⟩ | ⟨c2, h⟩
    · refine ev_icmp_ge (tgt := 19) dX6_at_7 rfl c2 ?_
      refine ev_null dX6_at_19 ?_
      exact ev_retQ (x := none) _ dX6_at_20 rfl (Or.inl ⟨_, rfl⟩) h
    · refine ev_icmp_ge_n 19 dX6_at_7 rfl c2 ?_
      refine ev_aload_nR 0 dX6_at_10 rfl ?_
      obtain ⟨g3, h⟩ := gd_some h
      obtain ⟨p4, e5, h⟩ := op_some h
      refine ev_getPR dX6_at_11 fl_X6_11 rfl g3 e5 ?_
      refine ev_iload_n 1 dX6_at_14 rfl ?_
      obtain ⟨g6, h⟩ := gd_some h
      obtain ⟨g7, h⟩ := gd_some h
      refine ev_aald dX6_at_15 (by decide) (isA_O g6) g7 rfl ?_
      refine ev_goto (tgt := 20) dX6_at_16 rfl ?_
      exact ev_retQ (x := (sP σ p4 a1.toNatClampNeg)) _ dX6_at_20 rfl (Or.inl ⟨_, rfl⟩) h
def s_X5_init (a0 : Nat) (a1 : Nat) (a2 : Nat) (σ : St) : Option (Unit × St) :=
 if isO σ 5 a0 = true then (lt (setI σ a0 2 0) fun σ2 =>
 lt (setI σ2 a0 3 ((-6))) fun σ4 =>
 lt (setP σ4 a0 0 (some a1)) fun σ6 =>
 lt (setP σ6 a0 1 (some a2)) fun σ8 =>
 some ((), σ8)) else none
set_option maxHeartbeats 4000000 in
set_option maxRecDepth 100000 in
theorem x_X5_init {a0 : Nat} {a1 : Nat} {a2 : Nat} {σ : St} {r : Unit} {σ' : St} (h : s_X5_init a0 a1 a2 σ = some (r, σ')) : Ex M_X5_init (1) [.ref a0, .ref a1, .ref a2] σ none σ' := by
  unfold s_X5_init at h
  refine ex_of (by decide) rfl (Nat.le_of_ble_eq_true rfl) ?_
  show Ev _ _ 0 [(0, .ref a0), (1, .ref a1), (2, .ref a2)] [] _ _ _
  refine ev_aload_nR 0 dX5_init_0 rfl ?_
  refine ev_objinit dX5_init_1 tp_314 tp_74 tp_75 (by omega) (Nat.le_of_ble_eq_true rfl) ?_
  refine ev_aload_nR 0 dX5_init_4 rfl ?_
  refine ev_iconst (v := 0) dX5_init_5 (by decide) ?_
  obtain ⟨g1, h⟩ := gd_some h
  obtain ⟨σ2, e3, h⟩ := lt_some h
  refine ev_putI dX5_init_6 fl_X5_9 rfl (Or.inl rfl) g1 ⟨rfl, rfl⟩ ?_
  refine ev_st e3 ?_
  refine ev_aload_nR 0 dX5_init_9 rfl ?_
  refine ev_bipush (v := (-6)) dX5_init_10 (by decide) ?_
  obtain ⟨σ4, e5, h⟩ := lt_some h
  refine ev_putI dX5_init_12 fl_X5_15 rfl (Or.inl rfl) (isO_I e3 g1) ⟨rfl, rfl⟩ ?_
  refine ev_st e5 ?_
  refine ev_aload_nR 0 dX5_init_15 rfl ?_
  refine ev_aload_nR 1 dX5_init_16 rfl ?_
  obtain ⟨σ6, e7, h⟩ := lt_some h
  refine ev_putPR dX5_init_17 fl_X5_18 rfl (Or.inr ⟨rfl, rfl⟩) (isO_I e5 (isO_I e3 g1)) ?_
  refine ev_st e7 ?_
  refine ev_aload_nR 0 dX5_init_20 rfl ?_
  refine ev_aload_nR 2 dX5_init_21 rfl ?_
  obtain ⟨σ8, e9, h⟩ := lt_some h
  refine ev_putPR dX5_init_22 fl_X5_22 rfl (Or.inr ⟨rfl, rfl⟩) (isO_P e7 (isO_I e5 (isO_I e3 g1))) ?_
  refine ev_st e9 ?_
  exact ev_retV dX5_init_25 rfl h
def s_X5_refuseMore (a0 : Nat) (σ : St) : Option (Unit × St) :=
 if isO σ 5 a0 = true then (op (sP σ a0 0) fun p2 =>
 if isO σ 12 p2 = true then (if (nI (alen σ p2)) ≤ (sI σ a0 2) then (some ((), σ)) else (bd (s_X5_refuse a0 σ) fun r8 σ6 =>
 some ((), σ6))) else none) else none
set_option maxHeartbeats 4000000 in
set_option maxRecDepth 100000 in
theorem x_X5_refuseMore {a0 : Nat} {σ : St} {r : Unit} {σ' : St} (h : s_X5_refuseMore a0 σ = some (r, σ')) : Ex M_X5_refuseMore (2) [.ref a0] σ none σ' := by
  unfold s_X5_refuseMore at h
  refine ex_of (by decide) rfl (Nat.le_of_ble_eq_true rfl) ?_
  show Ev _ _ 0 [(0, .ref a0)] [] _ _ _
  refine ev_aload_nR 0 dX5_refuseMore_0 rfl ?_
  obtain ⟨g1, h⟩ := gd_some h
  refine ev_getI dX5_refuseMore_1 fl_X5_9 rfl g1 ?_
  refine ev_aload_nR 0 dX5_refuseMore_4 rfl ?_
  obtain ⟨p2, e3, h⟩ := op_some h
  refine ev_getPR dX5_refuseMore_5 fl_X5_18 rfl g1 e3 ?_
  obtain ⟨g4, h⟩ := gd_some h
  refine ev_alen dX5_refuseMore_8 (isA_O g4) (by decide) ?_
  rcases it_some h with ⟨c5, h⟩ | ⟨c5, h⟩
  · refine ev_icmp_ge (tgt := 17) dX5_refuseMore_9 rfl c5 ?_
    exact ev_retV dX5_refuseMore_17 rfl h
  · refine ev_icmp_ge_n 17 dX5_refuseMore_9 rfl c5 ?_
    refine ev_aload_nR 0 dX5_refuseMore_12 rfl ?_
    obtain ⟨r8, σ6, e7, h⟩ := bd_some h
    refine ev_invVi (As := []) (st := []) dX5_refuseMore_13 cb_X5_refuse tp_347 tp_349 tp_4 kf5 rfl (by omega) g1 rfl rfl (Nat.le_of_ble_eq_true rfl) (x_X5_refuse e7) ?_
    refine ev_pop dX5_refuseMore_16 rfl ?_
    exact ev_retV dX5_refuseMore_17 rfl h
def s_X5_readWholeGoal (a0 : Nat) (σ : St) : Option (Int32 × St) :=
 if isO σ 5 a0 = true then (bd (s_X5_readGoal 64 a0 1 σ) fun r4 σ2 =>
 if isO σ2 5 a0 = true then (bd (s_X5_refuseMore a0 σ2) fun r8 σ6 =>
 some (r4, σ6)) else none) else none
set_option maxHeartbeats 4000000 in
set_option maxRecDepth 100000 in
theorem x_X5_readWholeGoal {a0 : Nat} {σ : St} {r : Int32} {σ' : St} (h : s_X5_readWholeGoal a0 σ = some (r, σ')) : Ex M_X5_readWholeGoal (385) [.ref a0] σ (some (.int r)) σ' := by
  unfold s_X5_readWholeGoal at h
  refine ex_of (by decide) rfl (Nat.le_of_ble_eq_true rfl) ?_
  show Ev _ _ 0 [(0, .ref a0)] [] _ _ _
  refine ev_aload_nR 0 dX5_readWholeGoal_0 rfl ?_
  refine ev_iconst (v := 1) dX5_readWholeGoal_1 (by decide) ?_
  obtain ⟨g1, h⟩ := gd_some h
  obtain ⟨r4, σ2, e3, h⟩ := bd_some h
  refine ev_invVi (As := [.int (1)]) (st := []) dX5_readWholeGoal_2 cb_X5_readGoal tp_351 tp_353 tp_5 kf5 rfl (by omega) g1 rfl rfl (Nat.le_of_ble_eq_true rfl) (x_X5_readGoal 64 e3) ?_
  refine ev_istore_n (ls' := [(1, .int (r4)), (0, .ref a0)]) dX5_readWholeGoal_5 (by decide) rfl ?_
  refine ev_aload_nR 1 dX5_readWholeGoal_6 rfl ?_
  obtain ⟨g5, h⟩ := gd_some h
  obtain ⟨r8, σ6, e7, h⟩ := bd_some h
  refine ev_invVv (As := []) (st := []) dX5_readWholeGoal_7 cb_X5_refuseMore tp_382 tp_384 tp_9 kf5 rfl (by omega) g5 rfl rfl (Nat.le_of_ble_eq_true rfl) (x_X5_refuseMore e7) ?_
  refine ev_iload_n 0 dX5_readWholeGoal_10 rfl ?_
  exact ev_retI .int dX5_readWholeGoal_11 rfl rfl h
def s_X5_readWholeOffer (a0 : Nat) (a1 : Int32) (σ : St) : Option (Unit × St) :=
 if isO σ 5 a0 = true then (bd (s_X5_readOffer (s_X5_readGoal 64) a0 a1 1 σ) fun r4 σ2 =>
 if isO σ2 5 a0 = true then (bd (s_X5_refuseMore a0 σ2) fun r8 σ6 =>
 some ((), σ6)) else none) else none
set_option maxHeartbeats 4000000 in
set_option maxRecDepth 100000 in
theorem x_X5_readWholeOffer {a0 : Nat} {a1 : Int32} {σ : St} {r : Unit} {σ' : St} (h : s_X5_readWholeOffer a0 a1 σ = some (r, σ')) : Ex M_X5_readWholeOffer (389) [.ref a0, .int (a1)] σ none σ' := by
  unfold s_X5_readWholeOffer at h
  refine ex_of (by decide) rfl (Nat.le_of_ble_eq_true rfl) ?_
  show Ev _ _ 0 [(0, .ref a0), (1, .int (a1))] [] _ _ _
  refine ev_aload_nR 0 dX5_readWholeOffer_0 rfl ?_
  refine ev_iload_n 1 dX5_readWholeOffer_1 rfl ?_
  refine ev_iconst (v := 1) dX5_readWholeOffer_2 (by decide) ?_
  obtain ⟨g1, h⟩ := gd_some h
  obtain ⟨r4, σ2, e3, h⟩ := bd_some h
  refine ev_invVv (As := [.int (a1), .int (1)]) (st := []) dX5_readWholeOffer_3 cb_X5_readOffer tp_332 tp_334 tp_1 kf5 rfl (by omega) g1 rfl rfl (Nat.le_of_ble_eq_true rfl) (x_X5_readOffer (fun h => x_X5_readGoal 64 h) e3) ?_
  refine ev_aload_nR 0 dX5_readWholeOffer_6 rfl ?_
  obtain ⟨g5, h⟩ := gd_some h
  obtain ⟨r8, σ6, e7, h⟩ := bd_some h
  refine ev_invVv (As := []) (st := []) dX5_readWholeOffer_7 cb_X5_refuseMore tp_382 tp_384 tp_9 kf5 rfl (by omega) g5 rfl rfl (Nat.le_of_ble_eq_true rfl) (x_X5_refuseMore e7) ?_
  exact ev_retV dX5_readWholeOffer_10 rfl h
def sb_X3_build_6 (k6 : Nat → Nat → Int32 → St → Option (Unit × St)) (a0 : Nat) (a1 : Nat) (a2 : Int32) (σ : St) : Option (Unit × St) :=
 if (10 : Int32) ≤ a2 then (some ((), σ)) else (if isO σ 6 a1 = true then (bd (s_X6_at a1 a2 σ) fun r5 σ3 =>
 on r5 (lt (a2 + 1 : Int32) fun v8 =>
 k6 a0 a1 v8 σ3) fun w6 => lt (sn σ3) fun n10 => lt (newC σ3 5 4) fun σ12 =>
 if isO σ12 1 w6 = true then (bd (s_X1_signs w6 σ12) fun r17 σ15 =>
 op r17 fun p18 =>
 bd (s_X5_init n10 p18 a0 σ15) fun r22 σ20 =>
 if a2 = 0 then (if isO σ20 5 n10 = true then (bd (s_X5_readWholeGoal n10 σ20) fun r40 σ38 =>
 if isO σ38 3 a0 = true then (lt (setI σ38 a0 7 r40) fun σ42 =>
 lt (a2 + 1 : Int32) fun v44 =>
 k6 a0 a1 v44 σ42) else none) else none) else (if (6 : Int32) ≤ a2 then (if isO σ20 5 n10 = true then (bd (s_X5_readWholeOffer n10 ((8 + a2) - 6) σ20) fun r28 σ26 =>
 lt (a2 + 1 : Int32) fun v29 =>
 k6 a0 a1 v29 σ26) else none) else (if isO σ20 5 n10 = true then (bd (s_X5_readWholeOffer n10 (a2 - 1) σ20) fun r34 σ32 =>
 lt (a2 + 1 : Int32) fun v35 =>
 k6 a0 a1 v35 σ32) else none))) else none) else none)
def s_X3_build_6 (F : Nat) : Nat → Nat → Int32 → St → Option (Unit × St) := lp (fun _ _ _ _ => none) (sb_X3_build_6 ) F
set_option maxHeartbeats 4000000 in
set_option maxRecDepth 100000 in
theorem e_X3_build_6 {r : Unit} {σ' : St} (F : Nat) : ∀ {a0 : Nat} {a1 : Nat} {a2 : Int32} {σ : St}, s_X3_build_6 F a0 a1 a2 σ = some (r, σ') → Ev M_X3_build (390) 6 [(0, .ref a0), (1, .ref a1), (2, .int (a2))] [] σ none σ' := by
  induction F with
  | zero => intro a0 a1 a2 σ h; cases h
  | succ F ih =>
    intro a0 a1 a2 σ h
    change sb_X3_build_6  (s_X3_build_6 F) a0 a1 a2 σ = some (r, σ') at h
    unfold sb_X3_build_6 at h
    have hk6 := @ih
    refine ev_iload_n 2 dX3_build_6 rfl ?_
    refine ev_bipush (v := 10) dX3_build_7 (by decide) ?_
    rcases it_some h with ⟨c1, h⟩ | ⟨c1, h⟩
    · refine ev_icmp_ge (tgt := 90) dX3_build_9 rfl c1 ?_
      exact ev_retV dX3_build_90 rfl h
    · refine ev_icmp_ge_n 90 dX3_build_9 rfl c1 ?_
      refine ev_aload_nR 1 dX3_build_12 rfl ?_
      refine ev_iload_n 2 dX3_build_13 rfl ?_
      obtain ⟨g2, h⟩ := gd_some h
      obtain ⟨r5, σ3, e4, h⟩ := bd_some h
      refine ev_invVq (As := [.int (a2)]) (st := []) dX3_build_14 cb_X6_at tp_503 tp_427 tp_428 kf6 rfl (by omega) g2 rfl rfl (Nat.le_of_ble_eq_true rfl) (x_X6_at e4) ?_
      refine ev_astore_n (ls' := [(3, va_rf r5), (0, .ref a0), (1, .ref a1), (2, .int (a2))]) dX3_build_17 (by decide) rfl ?_
      refine ev_aload_n 0 dX3_build_18 rfl ?_
      rcases on_some h with ⟨e7, h⟩ | ⟨w6, e7, h⟩
      · rw [e7]
        refine ev_ifnonnull_n dX3_build_19 ?_
        refine ev_goto (tgt := 84) dX3_build_22 rfl ?_
        obtain ⟨v8, e9, h⟩ := lt_some h
        refine ev_iinc (v := v8) (ls' := [(2, .int (v8)), (3, va_rf none), (0, .ref a0), (1, .ref a1)]) 3 dX3_build_84 rfl e9.symm (by decide) rfl ?_
        refine ev_goto (tgt := 6) dX3_build_87 rfl ?_
        refine ev_sub (ls' := [(0, .ref a0), (1, .ref a1), (2, .int (v8))]) [2, 3, 0] rfl ?_
        exact hk6 h
      · rw [e7]
        refine ev_ifnonnull (tgt := 25) dX3_build_19 rfl ?_
        obtain ⟨n10, e11, h⟩ := lt_some h
        obtain ⟨σ12, e13, h⟩ := lt_some h
        refine ev_newR dX3_build_25 kf5 tp_504 tp_310 tp_64 e11 ?_
        refine ev_st e13 ?_
        refine ev_dup dX3_build_28 rfl ?_
        refine ev_aload_nR 0 dX3_build_29 rfl ?_
        obtain ⟨g14, h⟩ := gd_some h
        obtain ⟨r17, σ15, e16, h⟩ := bd_some h
        refine ev_invVq (As := []) (st := [.ref n10, .ref n10]) dX3_build_30 cb_X1_signs tp_505 tp_506 tp_507 kf1 rfl (by omega) g14 rfl rfl (Nat.le_of_ble_eq_true rfl) (x_X1_signs e16) ?_
        refine ev_aload_nR 1 dX3_build_33 rfl ?_
        obtain ⟨p18, e19, h⟩ := op_some h
        rw [e19]
        obtain ⟨r22, σ20, e21, h⟩ := bd_some h
        refine ev_invI (r1 := none) (As := [.ref p18, .ref a0]) (st := [.ref n10]) dX3_build_34 cb_X5_init tp_509 tp_312 rfl rfl (by omega) rfl rfl (Nat.le_of_ble_eq_true rfl) (x_X5_init e21) ?_
        show Ev _ _ _ _ [.ref n10] _ _ _
        refine ev_astoreR (ls' := [(4, .ref n10), (3, .ref w6), (0, .ref a0), (1, .ref a1), (2, .int (a2))]) dX3_build_37 (by decide) rfl ?_
        refine ev_iload_n 4 dX3_build_39 rfl ?_
        rcases it_some h with ⟨c23, h⟩ | ⟨c23, h⟩
        · refine ev_if_ne_n 55 dX3_build_40 rfl c23 ?_
          refine ev_aload_nR 2 dX3_build_43 rfl ?_
          refine ev_aloadR 0 dX3_build_44 rfl ?_
          obtain ⟨g37, h⟩ := gd_some h
          obtain ⟨r40, σ38, e39, h⟩ := bd_some h
          refine ev_invVi (As := []) (st := [.ref a0]) dX3_build_46 cb_X5_readWholeGoal tp_510 tp_387 tp_388 kf5 rfl (by omega) g37 rfl rfl (Nat.le_of_ble_eq_true rfl) (x_X5_readWholeGoal e39) ?_
          obtain ⟨g41, h⟩ := gd_some h
          obtain ⟨σ42, e43, h⟩ := lt_some h
          refine ev_putI dX3_build_49 fl_X3_35 rfl (Or.inl rfl) g41 ⟨rfl, rfl⟩ ?_
          refine ev_st e43 ?_
          refine ev_goto (tgt := 84) dX3_build_52 rfl ?_
          obtain ⟨v44, e45, h⟩ := lt_some h
          refine ev_iinc (v := v44) (ls' := [(2, .int (v44)), (4, .ref n10), (3, .ref w6), (0, .ref a0), (1, .ref a1)]) 4 dX3_build_84 rfl e45.symm (by decide) rfl ?_
          refine ev_goto (tgt := 6) dX3_build_87 rfl ?_
          refine ev_sub (ls' := [(0, .ref a0), (1, .ref a1), (2, .int (v44))]) [3, 4, 0] rfl ?_
          exact hk6 h
        · refine ev_if_ne (tgt := 55) dX3_build_40 rfl c23 ?_
          refine ev_iload_n 4 dX3_build_55 rfl ?_
          refine ev_bipush (v := 6) dX3_build_56 (by decide) ?_
          rcases it_some h with ⟨c24, h⟩ | ⟨c24, h⟩
          · refine ev_icmp_ge (tgt := 72) dX3_build_58 rfl c24 ?_
            refine ev_aloadR 0 dX3_build_72 rfl ?_
            refine ev_bipush (v := 8) dX3_build_74 (by decide) ?_
            refine ev_iload_n 4 dX3_build_76 rfl ?_
            refine ev_iadd dX3_build_77 ?_
            refine ev_bipush (v := 6) dX3_build_78 (by decide) ?_
            refine ev_isub dX3_build_80 ?_
            obtain ⟨g25, h⟩ := gd_some h
            obtain ⟨r28, σ26, e27, h⟩ := bd_some h
            refine ev_invVv (As := [.int ((8 + a2) - 6)]) (st := []) dX3_build_81 cb_X5_readWholeOffer tp_511 tp_329 tp_330 kf5 rfl (by omega) g25 rfl rfl (Nat.le_of_ble_eq_true rfl) (x_X5_readWholeOffer e27) ?_
            obtain ⟨v29, e30, h⟩ := lt_some h
            refine ev_iinc (v := v29) (ls' := [(2, .int (v29)), (4, .ref n10), (3, .ref w6), (0, .ref a0), (1, .ref a1)]) 4 dX3_build_84 rfl e30.symm (by decide) rfl ?_
            refine ev_goto (tgt := 6) dX3_build_87 rfl ?_
            refine ev_sub (ls' := [(0, .ref a0), (1, .ref a1), (2, .int (v29))]) [3, 4, 0] rfl ?_
            exact hk6 h
          · refine ev_icmp_ge_n 72 dX3_build_58 rfl c24 ?_
            refine ev_aloadR 0 dX3_build_61 rfl ?_
            refine ev_iload_n 4 dX3_build_63 rfl ?_
            refine ev_iconst (v := 1) dX3_build_64 (by decide) ?_
            refine ev_isub dX3_build_65 ?_
            obtain ⟨g31, h⟩ := gd_some h
            obtain ⟨r34, σ32, e33, h⟩ := bd_some h
            refine ev_invVv (As := [.int (a2 - 1)]) (st := []) dX3_build_66 cb_X5_readWholeOffer tp_511 tp_329 tp_330 kf5 rfl (by omega) g31 rfl rfl (Nat.le_of_ble_eq_true rfl) (x_X5_readWholeOffer e33) ?_
            refine ev_goto (tgt := 84) dX3_build_69 rfl ?_
            obtain ⟨v35, e36, h⟩ := lt_some h
            refine ev_iinc (v := v35) (ls' := [(2, .int (v35)), (4, .ref n10), (3, .ref w6), (0, .ref a0), (1, .ref a1)]) 4 dX3_build_84 rfl e36.symm (by decide) rfl ?_
            refine ev_goto (tgt := 6) dX3_build_87 rfl ?_
            refine ev_sub (ls' := [(0, .ref a0), (1, .ref a1), (2, .int (v35))]) [3, 4, 0] rfl ?_
            exact hk6 h
def s_X3_build (a0 : Nat) (a1 : Nat) (σ : St) : Option (Unit × St) :=
 if isO σ 3 a0 = true then (bd (s_X3_clear a0 σ) fun r49 σ47 =>
 s_X3_build_6 16000 a0 a1 0 σ47) else none
set_option maxHeartbeats 4000000 in
set_option maxRecDepth 100000 in
theorem x_X3_build {a0 : Nat} {a1 : Nat} {σ : St} {r : Unit} {σ' : St} (h : s_X3_build a0 a1 σ = some (r, σ')) : Ex M_X3_build (390) [.ref a0, .ref a1] σ none σ' := by
  unfold s_X3_build at h
  refine ex_of (by decide) rfl (Nat.le_of_ble_eq_true rfl) ?_
  show Ev _ _ 0 [(0, .ref a0), (1, .ref a1)] [] _ _ _
  refine ev_aload_nR 0 dX3_build_0 rfl ?_
  obtain ⟨g46, h⟩ := gd_some h
  obtain ⟨r49, σ47, e48, h⟩ := bd_some h
  refine ev_invVv (As := []) (st := []) dX3_build_1 cb_X3_clear tp_502 tp_306 tp_307 kf3 rfl (by omega) g46 rfl rfl (Nat.le_of_ble_eq_true rfl) (x_X3_clear e48) ?_
  refine ev_iconst (v := 0) dX3_build_4 (by decide) ?_
  refine ev_istore_n (ls' := [(2, .int (0)), (0, .ref a0), (1, .ref a1)]) dX3_build_5 (by decide) rfl ?_
  refine ev_sub (ls' := [(0, .ref a0), (1, .ref a1), (2, .int (0))]) [1, 2, 0] rfl ?_
  exact e_X3_build_6 16000 h
def s_X3_nodes (a0 : Nat) (σ : St) : Option (Int32 × St) :=
 if isO σ 3 a0 = true then (some (sI σ a0 5, σ)) else none
set_option maxHeartbeats 4000000 in
set_option maxRecDepth 100000 in
theorem x_X3_nodes {a0 : Nat} {σ : St} {r : Int32} {σ' : St} (h : s_X3_nodes a0 σ = some (r, σ')) : Ex M_X3_nodes (1) [.ref a0] σ (some (.int r)) σ' := by
  unfold s_X3_nodes at h
  refine ex_of (by decide) rfl (Nat.le_of_ble_eq_true rfl) ?_
  show Ev _ _ 0 [(0, .ref a0)] [] _ _ _
  refine ev_aload_nR 0 dX3_nodes_0 rfl ?_
  obtain ⟨g1, h⟩ := gd_some h
  refine ev_getI dX3_nodes_1 fl_X3_28 rfl g1 ?_
  exact ev_retI .int dX3_nodes_4 rfl rfl h
def s_X3_loans (a0 : Nat) (σ : St) : Option (Int32 × St) :=
 if isO σ 3 a0 = true then (some (sI σ a0 6, σ)) else none
set_option maxHeartbeats 4000000 in
set_option maxRecDepth 100000 in
theorem x_X3_loans {a0 : Nat} {σ : St} {r : Int32} {σ' : St} (h : s_X3_loans a0 σ = some (r, σ')) : Ex M_X3_loans (1) [.ref a0] σ (some (.int r)) σ' := by
  unfold s_X3_loans at h
  refine ex_of (by decide) rfl (Nat.le_of_ble_eq_true rfl) ?_
  show Ev _ _ 0 [(0, .ref a0)] [] _ _ _
  refine ev_aload_nR 0 dX3_loans_0 rfl ?_
  obtain ⟨g1, h⟩ := gd_some h
  refine ev_getI dX3_loans_1 fl_X3_32 rfl g1 ?_
  exact ev_retI .int dX3_loans_4 rfl rfl h
def sb_X3_singles_4 (k4 : Nat → Int32 → Int32 → St → Option (Int32 × St)) (a0 : Nat) (a1 : Int32) (a2 : Int32) (σ : St) : Option (Int32 × St) :=
 if (8 : Int32) ≤ a2 then (some (a1, σ)) else (if isO σ 3 a0 = true then (op (sP σ a0 3) fun p3 =>
 if isO σ 12 p3 = true then (if inR (a2 * 3) (alen σ p3) = true then (if (sI σ p3 ((a2 * 3).toNatClampNeg)) = 0 then (lt (a2 + 1 : Int32) fun v8 =>
 k4 a0 a1 v8 σ) else (lt (a1 ||| (1 <<< (a2 &&& 31)) : Int32) fun v10 =>
 lt (a2 + 1 : Int32) fun v12 =>
 k4 a0 v10 v12 σ)) else none) else none) else none)
def s_X3_singles_4 (F : Nat) : Nat → Int32 → Int32 → St → Option (Int32 × St) := lp (fun _ _ _ _ => none) (sb_X3_singles_4 ) F
set_option maxHeartbeats 4000000 in
set_option maxRecDepth 100000 in
theorem e_X3_singles_4 {r : Int32} {σ' : St} (F : Nat) : ∀ {a0 : Nat} {a1 : Int32} {a2 : Int32} {σ : St}, s_X3_singles_4 F a0 a1 a2 σ = some (r, σ') → Ev M_X3_singles (1) 4 [(0, .ref a0), (1, .int (a1)), (2, .int (a2))] [] σ (some (.int r)) σ' := by
  induction F with
  | zero => intro a0 a1 a2 σ h; cases h
  | succ F ih =>
    intro a0 a1 a2 σ h
    change sb_X3_singles_4  (s_X3_singles_4 F) a0 a1 a2 σ = some (r, σ') at h
    unfold sb_X3_singles_4 at h
    have hk4 := @ih
    refine ev_iload_n 2 dX3_singles_4 rfl ?_
    refine ev_bipush (v := 8) dX3_singles_5 (by decide) ?_
    rcases it_some h with ⟨c1, h⟩ | ⟨c1, h⟩
    · refine ev_icmp_ge (tgt := 33) dX3_singles_7 rfl c1 ?_
      refine ev_iload_n 1 dX3_singles_33 rfl ?_
      exact ev_retI .int dX3_singles_34 rfl rfl h
    · refine ev_icmp_ge_n 33 dX3_singles_7 rfl c1 ?_
      refine ev_aload_nR 0 dX3_singles_10 rfl ?_
      obtain ⟨g2, h⟩ := gd_some h
      obtain ⟨p3, e4, h⟩ := op_some h
      refine ev_getPR dX3_singles_11 fl_X3_22 rfl g2 e4 ?_
      refine ev_iload_n 2 dX3_singles_14 rfl ?_
      refine ev_iconst (v := 3) dX3_singles_15 (by decide) ?_
      refine ev_imul dX3_singles_16 ?_
      obtain ⟨g5, h⟩ := gd_some h
      obtain ⟨g6, h⟩ := gd_some h
      refine ev_cald dX3_singles_17 (isA_O g5) g6 ?_
      rcases it_some h with ⟨c7, h⟩ | ⟨c7, h⟩
      · refine ev_if_eq (tgt := 27) dX3_singles_18 rfl c7 ?_
        obtain ⟨v8, e9, h⟩ := lt_some h
        refine ev_iinc (v := v8) (ls' := [(2, .int (v8)), (0, .ref a0), (1, .int (a1))]) 2 dX3_singles_27 rfl e9.symm (by decide) rfl ?_
        refine ev_goto (tgt := 4) dX3_singles_30 rfl ?_
        refine ev_sub (ls' := [(0, .ref a0), (1, .int (a1)), (2, .int (v8))]) [1, 2, 0] rfl ?_
        exact hk4 h
      · refine ev_if_eq_n 27 dX3_singles_18 rfl c7 ?_
        refine ev_iload_n 1 dX3_singles_21 rfl ?_
        refine ev_iconst (v := 1) dX3_singles_22 (by decide) ?_
        refine ev_iload_n 2 dX3_singles_23 rfl ?_
        refine ev_ishl dX3_singles_24 ?_
        refine ev_ior dX3_singles_25 ?_
        obtain ⟨v10, e11, h⟩ := lt_some h
        refine ev_topI e11 ?_
        refine ev_istore_n (ls' := [(1, .int (v10)), (0, .ref a0), (2, .int (a2))]) dX3_singles_26 (by decide) rfl ?_
        obtain ⟨v12, e13, h⟩ := lt_some h
        refine ev_iinc (v := v12) (ls' := [(2, .int (v12)), (1, .int (v10)), (0, .ref a0)]) 2 dX3_singles_27 rfl e13.symm (by decide) rfl ?_
        refine ev_goto (tgt := 4) dX3_singles_30 rfl ?_
        refine ev_sub (ls' := [(0, .ref a0), (1, .int (v10)), (2, .int (v12))]) [2, 1, 0] rfl ?_
        exact hk4 h
def s_X3_singles (a0 : Nat) (σ : St) : Option (Int32 × St) :=
 s_X3_singles_4 16000 a0 0 0 σ
set_option maxHeartbeats 4000000 in
set_option maxRecDepth 100000 in
theorem x_X3_singles {a0 : Nat} {σ : St} {r : Int32} {σ' : St} (h : s_X3_singles a0 σ = some (r, σ')) : Ex M_X3_singles (1) [.ref a0] σ (some (.int r)) σ' := by
  unfold s_X3_singles at h
  refine ex_of (by decide) rfl (Nat.le_of_ble_eq_true rfl) ?_
  show Ev _ _ 0 [(0, .ref a0)] [] _ _ _
  refine ev_iconst (v := 0) dX3_singles_0 (by decide) ?_
  refine ev_istore_n (ls' := [(1, .int (0)), (0, .ref a0)]) dX3_singles_1 (by decide) rfl ?_
  refine ev_iconst (v := 0) dX3_singles_2 (by decide) ?_
  refine ev_istore_n (ls' := [(2, .int (0)), (1, .int (0)), (0, .ref a0)]) dX3_singles_3 (by decide) rfl ?_
  refine ev_sub (ls' := [(0, .ref a0), (1, .int (0)), (2, .int (0))]) [2, 1, 0] rfl ?_
  exact e_X3_singles_4 16000 h
def sb_X4_init_51 (k40 : Nat → Int32 → St → Option (Unit × St)) (k51 : Nat → Int32 → Int32 → St → Option (Unit × St)) (a0 : Nat) (a2 : Int32) (a3 : Int32) (σ : St) : Option (Unit × St) :=
 if (63 : Int32) < a3 then (lt (a2 + 1 : Int32) fun v2 =>
 k40 a0 v2 σ) else (if (a2 &&& a3) = 0 then (if isO σ 4 a0 = true then (op (sP σ a0 3) fun p8 =>
 if isO σ 14 p8 = true then (if inR a2 (alen σ p8) = true then (if inR a2 (alen σ p8) = true then (lt (setL σ p8 a2.toNatClampNeg ((sL σ p8 a2.toNatClampNeg) ||| (1 <<< (a3.toInt64 &&& 63)))) fun σ13 =>
 lt (a3 + 1 : Int32) fun v15 =>
 k51 a0 a2 v15 σ13) else none) else none) else none) else none) else (lt (a3 + 1 : Int32) fun v5 =>
 k51 a0 a2 v5 σ))
def s_X4_init_51 (k40 : Nat → Int32 → St → Option (Unit × St)) (F : Nat) : Nat → Int32 → Int32 → St → Option (Unit × St) := lp (fun _ _ _ _ => none) (sb_X4_init_51 k40) F
set_option maxHeartbeats 4000000 in
set_option maxRecDepth 100000 in
theorem e_X4_init_51 {r : Unit} {σ' : St} {k40 : Nat → Int32 → St → Option (Unit × St)} (hk40 : ∀ {y0 : Nat} {y1 : Int32} {σ : St}, k40 y0 y1 σ = some (r, σ') → Ev M_X4_init (1) 40 [(0, .ref y0), (2, .int (y1))] [] σ none σ') (F : Nat) : ∀ {a0 : Nat} {a2 : Int32} {a3 : Int32} {σ : St}, s_X4_init_51 k40 F a0 a2 a3 σ = some (r, σ') → Ev M_X4_init (1) 51 [(0, .ref a0), (2, .int (a2)), (3, .int (a3))] [] σ none σ' := by
  induction F with
  | zero => intro a0 a2 a3 σ h; cases h
  | succ F ih =>
    intro a0 a2 a3 σ h
    change sb_X4_init_51 k40 (s_X4_init_51 k40 F) a0 a2 a3 σ = some (r, σ') at h
    unfold sb_X4_init_51 at h
    have hk51 := @ih
    refine ev_iload_n 2 dX4_init_51 rfl ?_
    refine ev_bipush (v := 63) dX4_init_52 (by decide) ?_
    rcases it_some h with ⟨c1, h⟩ | ⟨c1, h⟩
    · refine ev_icmp_gt (tgt := 81) dX4_init_54 rfl c1 ?_
      obtain ⟨v2, e3, h⟩ := lt_some h
      refine ev_iinc (v := v2) (ls' := [(2, .int (v2)), (0, .ref a0), (3, .int (a3))]) 1 dX4_init_81 rfl e3.symm (by decide) rfl ?_
      refine ev_goto (tgt := 40) dX4_init_84 rfl ?_
      refine ev_sub (ls' := [(0, .ref a0), (2, .int (v2))]) [1, 0] rfl ?_
      exact hk40 h
    · refine ev_icmp_gt_n 81 dX4_init_54 rfl c1 ?_
      refine ev_iload_n 1 dX4_init_57 rfl ?_
      refine ev_iload_n 2 dX4_init_58 rfl ?_
      refine ev_iand dX4_init_59 ?_
      rcases it_some h with ⟨c4, h⟩ | ⟨c4, h⟩
      · refine ev_if_ne_n 75 dX4_init_60 rfl c4 ?_
        refine ev_aload_nR 0 dX4_init_63 rfl ?_
        obtain ⟨g7, h⟩ := gd_some h
        obtain ⟨p8, e9, h⟩ := op_some h
        refine ev_getPR dX4_init_64 fl_X4_18 rfl g7 e9 ?_
        refine ev_iload_n 1 dX4_init_67 rfl ?_
        refine ev_dup2 dX4_init_68 rfl rfl ?_
        obtain ⟨g10, h⟩ := gd_some h
        obtain ⟨g11, h⟩ := gd_some h
        refine ev_lald dX4_init_69 (isA_O g10) g11 ?_
        refine ev_lconst (v := 1) dX4_init_70 (by decide) ?_
        refine ev_iload_n 2 dX4_init_71 rfl ?_
        refine ev_lshl dX4_init_72 ?_
        refine ev_lor dX4_init_73 ?_
        obtain ⟨g12, h⟩ := gd_some h
        obtain ⟨σ13, e14, h⟩ := lt_some h
        refine ev_last dX4_init_74 (isO_spec g10).1 (isA_O g10) g12 ?_
        refine ev_st e14 ?_
        obtain ⟨v15, e16, h⟩ := lt_some h
        refine ev_iinc (v := v15) (ls' := [(3, .int (v15)), (0, .ref a0), (2, .int (a2))]) 2 dX4_init_75 rfl e16.symm (by decide) rfl ?_
        refine ev_goto (tgt := 51) dX4_init_78 rfl ?_
        refine ev_sub (ls' := [(0, .ref a0), (2, .int (a2)), (3, .int (v15))]) [1, 2, 0] rfl ?_
        exact hk51 h
      · refine ev_if_ne (tgt := 75) dX4_init_60 rfl c4 ?_
        obtain ⟨v5, e6, h⟩ := lt_some h
        refine ev_iinc (v := v5) (ls' := [(3, .int (v5)), (0, .ref a0), (2, .int (a2))]) 2 dX4_init_75 rfl e6.symm (by decide) rfl ?_
        refine ev_goto (tgt := 51) dX4_init_78 rfl ?_
        refine ev_sub (ls' := [(0, .ref a0), (2, .int (a2)), (3, .int (v5))]) [1, 2, 0] rfl ?_
        exact hk51 h
def sb_X4_init_40 (k40 : Nat → Int32 → St → Option (Unit × St)) (a0 : Nat) (a2 : Int32) (σ : St) : Option (Unit × St) :=
 if isO σ 4 a0 = true then (op (sP σ a0 3) fun p18 =>
 if isO σ 14 p18 = true then (if (nI (alen σ p18)) ≤ a2 then (some ((), σ)) else (s_X4_init_51 k40 16000 a0 a2 0 σ)) else none) else none
def s_X4_init_40 (F : Nat) : Nat → Int32 → St → Option (Unit × St) := lp (fun _ _ _ => none) (sb_X4_init_40 ) F
set_option maxHeartbeats 4000000 in
set_option maxRecDepth 100000 in
theorem e_X4_init_40 {r : Unit} {σ' : St} (F : Nat) : ∀ {a0 : Nat} {a2 : Int32} {σ : St}, s_X4_init_40 F a0 a2 σ = some (r, σ') → Ev M_X4_init (1) 40 [(0, .ref a0), (2, .int (a2))] [] σ none σ' := by
  induction F with
  | zero => intro a0 a2 σ h; cases h
  | succ F ih =>
    intro a0 a2 σ h
    change sb_X4_init_40  (s_X4_init_40 F) a0 a2 σ = some (r, σ') at h
    unfold sb_X4_init_40 at h
    have hk40 := @ih
    refine ev_iload_n 1 dX4_init_40 rfl ?_
    refine ev_aload_nR 0 dX4_init_41 rfl ?_
    obtain ⟨g17, h⟩ := gd_some h
    obtain ⟨p18, e19, h⟩ := op_some h
    refine ev_getPR dX4_init_42 fl_X4_18 rfl g17 e19 ?_
    obtain ⟨g20, h⟩ := gd_some h
    refine ev_alen dX4_init_45 (isA_O g20) (by decide) ?_
    rcases it_some h with ⟨c21, h⟩ | ⟨c21, h⟩
    · refine ev_icmp_ge (tgt := 87) dX4_init_46 rfl c21 ?_
      exact ev_retV dX4_init_87 rfl h
    · refine ev_icmp_ge_n 87 dX4_init_46 rfl c21 ?_
      refine ev_iconst (v := 0) dX4_init_49 (by decide) ?_
      refine ev_istore_n (ls' := [(3, .int (0)), (0, .ref a0), (2, .int (a2))]) dX4_init_50 (by decide) rfl ?_
      refine ev_sub (ls' := [(0, .ref a0), (2, .int (a2)), (3, .int (0))]) [1, 2, 0] rfl ?_
      exact e_X4_init_51 hk40 16000 h
def s_X4_init (a0 : Nat) (a1 : Nat) (σ : St) : Option (Unit × St) :=
 lt (sn σ) fun n22 => lt (newC σ 14 (2640 : Int32).toNatClampNeg) fun σ24 =>
 if isO σ24 4 a0 = true then (lt (setP σ24 a0 1 (some n22)) fun σ27 =>
 lt (sn σ27) fun n29 => lt (newC σ27 14 (4 : Int32).toNatClampNeg) fun σ31 =>
 lt (setP σ31 a0 2 (some n29)) fun σ33 =>
 lt (sn σ33) fun n35 => lt (newC σ33 14 (64 : Int32).toNatClampNeg) fun σ37 =>
 lt (setP σ37 a0 3 (some n35)) fun σ39 =>
 lt (setI σ39 a0 4 0) fun σ41 =>
 lt (setP σ41 a0 0 (some a1)) fun σ43 =>
 s_X4_init_40 16000 a0 0 σ43) else none
set_option maxHeartbeats 4000000 in
set_option maxRecDepth 100000 in
theorem x_X4_init {a0 : Nat} {a1 : Nat} {σ : St} {r : Unit} {σ' : St} (h : s_X4_init a0 a1 σ = some (r, σ')) : Ex M_X4_init (1) [.ref a0, .ref a1] σ none σ' := by
  unfold s_X4_init at h
  refine ex_of (by decide) rfl (Nat.le_of_ble_eq_true rfl) ?_
  show Ev _ _ 0 [(0, .ref a0), (1, .ref a1)] [] _ _ _
  refine ev_aload_nR 0 dX4_init_0 rfl ?_
  refine ev_objinit dX4_init_1 tp_140 tp_74 tp_75 (by omega) (Nat.le_of_ble_eq_true rfl) ?_
  refine ev_aload_nR 0 dX4_init_4 rfl ?_
  refine ev_sipush (v := 2640) dX4_init_5 (by decide) ?_
  obtain ⟨n22, e23, h⟩ := lt_some h
  obtain ⟨σ24, e25, h⟩ := lt_some h
  refine ev_newaR (k := 14) dX4_init_8 (by decide) tp_157 (by decide) e23 ?_
  refine ev_st e25 ?_
  obtain ⟨g26, h⟩ := gd_some h
  obtain ⟨σ27, e28, h⟩ := lt_some h
  refine ev_putPR dX4_init_10 fl_X4_11 rfl (Or.inr ⟨rfl, rfl⟩) g26 ?_
  refine ev_st e28 ?_
  refine ev_aload_nR 0 dX4_init_13 rfl ?_
  refine ev_iconst (v := 4) dX4_init_14 (by decide) ?_
  obtain ⟨n29, e30, h⟩ := lt_some h
  obtain ⟨σ31, e32, h⟩ := lt_some h
  refine ev_newaR (k := 14) dX4_init_15 (by decide) tp_157 (by decide) e30 ?_
  refine ev_st e32 ?_
  obtain ⟨σ33, e34, h⟩ := lt_some h
  refine ev_putPR dX4_init_17 fl_X4_15 rfl (Or.inr ⟨rfl, rfl⟩) (isO_N e32 (isO_P e28 g26)) ?_
  refine ev_st e34 ?_
  refine ev_aload_nR 0 dX4_init_20 rfl ?_
  refine ev_bipush (v := 64) dX4_init_21 (by decide) ?_
  obtain ⟨n35, e36, h⟩ := lt_some h
  obtain ⟨σ37, e38, h⟩ := lt_some h
  refine ev_newaR (k := 14) dX4_init_23 (by decide) tp_157 (by decide) e36 ?_
  refine ev_st e38 ?_
  obtain ⟨σ39, e40, h⟩ := lt_some h
  refine ev_putPR dX4_init_25 fl_X4_18 rfl (Or.inr ⟨rfl, rfl⟩) (isO_N e38 (isO_P e34 (isO_N e32 (isO_P e28 g26)))) ?_
  refine ev_st e40 ?_
  refine ev_aload_nR 0 dX4_init_28 rfl ?_
  refine ev_iconst (v := 0) dX4_init_29 (by decide) ?_
  obtain ⟨σ41, e42, h⟩ := lt_some h
  refine ev_putI dX4_init_30 fl_X4_21 rfl (Or.inl rfl) (isO_P e40 (isO_N e38 (isO_P e34 (isO_N e32 (isO_P e28 g26))))) ⟨rfl, rfl⟩ ?_
  refine ev_st e42 ?_
  refine ev_aload_nR 0 dX4_init_33 rfl ?_
  refine ev_aload_nR 1 dX4_init_34 rfl ?_
  obtain ⟨σ43, e44, h⟩ := lt_some h
  refine ev_putPR dX4_init_35 fl_X4_25 rfl (Or.inr ⟨rfl, rfl⟩) (isO_I e42 (isO_P e40 (isO_N e38 (isO_P e34 (isO_N e32 (isO_P e28 g26)))))) ?_
  refine ev_st e44 ?_
  refine ev_iconst (v := 0) dX4_init_38 (by decide) ?_
  refine ev_istore_n (ls' := [(2, .int (0)), (0, .ref a0), (1, .ref a1)]) dX4_init_39 (by decide) rfl ?_
  refine ev_sub (ls' := [(0, .ref a0), (2, .int (0))]) [1, 0] rfl ?_
  exact e_X4_init_40 16000 h
def sb_X4_findAllSets_24 (k10 : Nat → Int32 → Int32 → St → Option (Unit × St)) (k24 : Nat → Int32 → Int32 → Int32 → St → Option (Unit × St)) (a0 : Nat) (a1 : Int32) (a2 : Int32) (a3 : Int32) (σ : St) : Option (Unit × St) :=
 if (63 : Int32) < a3 then (lt (a2 + 1 : Int32) fun v2 =>
 k10 a0 a1 v2 σ) else (if (((a2 <<< (6 &&& 31)) ||| a3) &&& (a1 ^^^ ((-1)))) = 0 then (if isO σ 4 a0 = true then (op (sP σ a0 2) fun p8 =>
 if isO σ 14 p8 = true then (if inR a2 (alen σ p8) = true then (if inR a2 (alen σ p8) = true then (lt (setL σ p8 a2.toNatClampNeg ((sL σ p8 a2.toNatClampNeg) ||| (1 <<< (a3.toInt64 &&& 63)))) fun σ13 =>
 lt (a3 + 1 : Int32) fun v15 =>
 k24 a0 a1 a2 v15 σ13) else none) else none) else none) else none) else (lt (a3 + 1 : Int32) fun v5 =>
 k24 a0 a1 a2 v5 σ))
def s_X4_findAllSets_24 (k10 : Nat → Int32 → Int32 → St → Option (Unit × St)) (F : Nat) : Nat → Int32 → Int32 → Int32 → St → Option (Unit × St) := lp (fun _ _ _ _ _ => none) (sb_X4_findAllSets_24 k10) F
set_option maxHeartbeats 4000000 in
set_option maxRecDepth 100000 in
theorem e_X4_findAllSets_24 {r : Unit} {σ' : St} {k10 : Nat → Int32 → Int32 → St → Option (Unit × St)} (hk10 : ∀ {y0 : Nat} {y1 : Int32} {y2 : Int32} {σ : St}, k10 y0 y1 y2 σ = some (r, σ') → Ev M_X4_findAllSets (2) 10 [(0, .ref y0), (1, .int (y1)), (2, .int (y2))] [] σ none σ') (F : Nat) : ∀ {a0 : Nat} {a1 : Int32} {a2 : Int32} {a3 : Int32} {σ : St}, s_X4_findAllSets_24 k10 F a0 a1 a2 a3 σ = some (r, σ') → Ev M_X4_findAllSets (2) 24 [(0, .ref a0), (1, .int (a1)), (2, .int (a2)), (3, .int (a3))] [] σ none σ' := by
  induction F with
  | zero => intro a0 a1 a2 a3 σ h; cases h
  | succ F ih =>
    intro a0 a1 a2 a3 σ h
    change sb_X4_findAllSets_24 k10 (s_X4_findAllSets_24 k10 F) a0 a1 a2 a3 σ = some (r, σ') at h
    unfold sb_X4_findAllSets_24 at h
    have hk24 := @ih
    refine ev_iload_n 3 dX4_findAllSets_24 rfl ?_
    refine ev_bipush (v := 63) dX4_findAllSets_25 (by decide) ?_
    rcases it_some h with ⟨c1, h⟩ | ⟨c1, h⟩
    · refine ev_icmp_gt (tgt := 61) dX4_findAllSets_27 rfl c1 ?_
      obtain ⟨v2, e3, h⟩ := lt_some h
      refine ev_iinc (v := v2) (ls' := [(2, .int (v2)), (0, .ref a0), (1, .int (a1)), (3, .int (a3))]) 2 dX4_findAllSets_61 rfl e3.symm (by decide) rfl ?_
      refine ev_goto (tgt := 10) dX4_findAllSets_64 rfl ?_
      refine ev_sub (ls' := [(0, .ref a0), (1, .int (a1)), (2, .int (v2))]) [1, 2, 0] rfl ?_
      exact hk10 h
    · refine ev_icmp_gt_n 61 dX4_findAllSets_27 rfl c1 ?_
      refine ev_iload_n 2 dX4_findAllSets_30 rfl ?_
      refine ev_bipush (v := 6) dX4_findAllSets_31 (by decide) ?_
      refine ev_ishl dX4_findAllSets_33 ?_
      refine ev_iload_n 3 dX4_findAllSets_34 rfl ?_
      refine ev_ior dX4_findAllSets_35 ?_
      refine ev_iload_n 1 dX4_findAllSets_36 rfl ?_
      refine ev_iconst (v := (-1)) dX4_findAllSets_37 (by decide) ?_
      refine ev_ixor dX4_findAllSets_38 ?_
      refine ev_iand dX4_findAllSets_39 ?_
      rcases it_some h with ⟨c4, h⟩ | ⟨c4, h⟩
      · refine ev_if_ne_n 55 dX4_findAllSets_40 rfl c4 ?_
        refine ev_aload_nR 0 dX4_findAllSets_43 rfl ?_
        obtain ⟨g7, h⟩ := gd_some h
        obtain ⟨p8, e9, h⟩ := op_some h
        refine ev_getPR dX4_findAllSets_44 fl_X4_15 rfl g7 e9 ?_
        refine ev_iload_n 2 dX4_findAllSets_47 rfl ?_
        refine ev_dup2 dX4_findAllSets_48 rfl rfl ?_
        obtain ⟨g10, h⟩ := gd_some h
        obtain ⟨g11, h⟩ := gd_some h
        refine ev_lald dX4_findAllSets_49 (isA_O g10) g11 ?_
        refine ev_lconst (v := 1) dX4_findAllSets_50 (by decide) ?_
        refine ev_iload_n 3 dX4_findAllSets_51 rfl ?_
        refine ev_lshl dX4_findAllSets_52 ?_
        refine ev_lor dX4_findAllSets_53 ?_
        obtain ⟨g12, h⟩ := gd_some h
        obtain ⟨σ13, e14, h⟩ := lt_some h
        refine ev_last dX4_findAllSets_54 (isO_spec g10).1 (isA_O g10) g12 ?_
        refine ev_st e14 ?_
        obtain ⟨v15, e16, h⟩ := lt_some h
        refine ev_iinc (v := v15) (ls' := [(3, .int (v15)), (0, .ref a0), (1, .int (a1)), (2, .int (a2))]) 3 dX4_findAllSets_55 rfl e16.symm (by decide) rfl ?_
        refine ev_goto (tgt := 24) dX4_findAllSets_58 rfl ?_
        refine ev_sub (ls' := [(0, .ref a0), (1, .int (a1)), (2, .int (a2)), (3, .int (v15))]) [1, 2, 3, 0] rfl ?_
        exact hk24 h
      · refine ev_if_ne (tgt := 55) dX4_findAllSets_40 rfl c4 ?_
        obtain ⟨v5, e6, h⟩ := lt_some h
        refine ev_iinc (v := v5) (ls' := [(3, .int (v5)), (0, .ref a0), (1, .int (a1)), (2, .int (a2))]) 3 dX4_findAllSets_55 rfl e6.symm (by decide) rfl ?_
        refine ev_goto (tgt := 24) dX4_findAllSets_58 rfl ?_
        refine ev_sub (ls' := [(0, .ref a0), (1, .int (a1)), (2, .int (a2)), (3, .int (v5))]) [1, 2, 3, 0] rfl ?_
        exact hk24 h
def sb_X4_findAllSets_10 (k10 : Nat → Int32 → Int32 → St → Option (Unit × St)) (a0 : Nat) (a1 : Int32) (a2 : Int32) (σ : St) : Option (Unit × St) :=
 if (4 : Int32) ≤ a2 then (some ((), σ)) else (if isO σ 4 a0 = true then (op (sP σ a0 2) fun p19 =>
 if isO σ 14 p19 = true then (if inR a2 (alen σ p19) = true then (lt (setL σ p19 a2.toNatClampNeg 0) fun σ23 =>
 s_X4_findAllSets_24 k10 16000 a0 a1 a2 0 σ23) else none) else none) else none)
def s_X4_findAllSets_10 (F : Nat) : Nat → Int32 → Int32 → St → Option (Unit × St) := lp (fun _ _ _ _ => none) (sb_X4_findAllSets_10 ) F
set_option maxHeartbeats 4000000 in
set_option maxRecDepth 100000 in
theorem e_X4_findAllSets_10 {r : Unit} {σ' : St} (F : Nat) : ∀ {a0 : Nat} {a1 : Int32} {a2 : Int32} {σ : St}, s_X4_findAllSets_10 F a0 a1 a2 σ = some (r, σ') → Ev M_X4_findAllSets (2) 10 [(0, .ref a0), (1, .int (a1)), (2, .int (a2))] [] σ none σ' := by
  induction F with
  | zero => intro a0 a1 a2 σ h; cases h
  | succ F ih =>
    intro a0 a1 a2 σ h
    change sb_X4_findAllSets_10  (s_X4_findAllSets_10 F) a0 a1 a2 σ = some (r, σ') at h
    unfold sb_X4_findAllSets_10 at h
    have hk10 := @ih
    refine ev_iload_n 2 dX4_findAllSets_10 rfl ?_
    refine ev_iconst (v := 4) dX4_findAllSets_11 (by decide) ?_
    rcases it_some h with ⟨c17, h⟩ | ⟨c17, h⟩
    · refine ev_icmp_ge (tgt := 67) dX4_findAllSets_12 rfl c17 ?_
      exact ev_retV dX4_findAllSets_67 rfl h
    · refine ev_icmp_ge_n 67 dX4_findAllSets_12 rfl c17 ?_
      refine ev_aload_nR 0 dX4_findAllSets_15 rfl ?_
      obtain ⟨g18, h⟩ := gd_some h
      obtain ⟨p19, e20, h⟩ := op_some h
      refine ev_getPR dX4_findAllSets_16 fl_X4_15 rfl g18 e20 ?_
      refine ev_iload_n 2 dX4_findAllSets_19 rfl ?_
      refine ev_lconst (v := 0) dX4_findAllSets_20 (by decide) ?_
      obtain ⟨g21, h⟩ := gd_some h
      obtain ⟨g22, h⟩ := gd_some h
      obtain ⟨σ23, e24, h⟩ := lt_some h
      refine ev_last dX4_findAllSets_21 (isO_spec g21).1 (isA_O g21) g22 ?_
      refine ev_st e24 ?_
      refine ev_iconst (v := 0) dX4_findAllSets_22 (by decide) ?_
      refine ev_istore_n (ls' := [(3, .int (0)), (0, .ref a0), (1, .int (a1)), (2, .int (a2))]) dX4_findAllSets_23 (by decide) rfl ?_
      refine ev_sub (ls' := [(0, .ref a0), (1, .int (a1)), (2, .int (a2)), (3, .int (0))]) [1, 2, 3, 0] rfl ?_
      exact e_X4_findAllSets_24 hk10 16000 h
def s_X4_findAllSets (a0 : Nat) (σ : St) : Option (Unit × St) :=
 if isO σ 4 a0 = true then (op (sP σ a0 0) fun p26 =>
 if isO σ 3 p26 = true then (bd (s_X3_singles p26 σ) fun r31 σ29 =>
 s_X4_findAllSets_10 16000 a0 r31 0 σ29) else none) else none
set_option maxHeartbeats 4000000 in
set_option maxRecDepth 100000 in
theorem x_X4_findAllSets {a0 : Nat} {σ : St} {r : Unit} {σ' : St} (h : s_X4_findAllSets a0 σ = some (r, σ')) : Ex M_X4_findAllSets (2) [.ref a0] σ none σ' := by
  unfold s_X4_findAllSets at h
  refine ex_of (by decide) rfl (Nat.le_of_ble_eq_true rfl) ?_
  show Ev _ _ 0 [(0, .ref a0)] [] _ _ _
  refine ev_aload_nR 0 dX4_findAllSets_0 rfl ?_
  obtain ⟨g25, h⟩ := gd_some h
  obtain ⟨p26, e27, h⟩ := op_some h
  refine ev_getPR dX4_findAllSets_1 fl_X4_25 rfl g25 e27 ?_
  obtain ⟨g28, h⟩ := gd_some h
  obtain ⟨r31, σ29, e30, h⟩ := bd_some h
  refine ev_invVi (As := []) (st := []) dX4_findAllSets_4 cb_X3_singles tp_520 tp_521 tp_522 kf3 rfl (by omega) g28 rfl rfl (Nat.le_of_ble_eq_true rfl) (x_X3_singles e30) ?_
  refine ev_istore_n (ls' := [(1, .int (r31)), (0, .ref a0)]) dX4_findAllSets_7 (by decide) rfl ?_
  refine ev_iconst (v := 0) dX4_findAllSets_8 (by decide) ?_
  refine ev_istore_n (ls' := [(2, .int (0)), (1, .int (r31)), (0, .ref a0)]) dX4_findAllSets_9 (by decide) rfl ?_
  refine ev_sub (ls' := [(0, .ref a0), (1, .int (r31)), (2, .int (0))]) [2, 1, 0] rfl ?_
  exact e_X4_findAllSets_10 16000 h
def sb_X4_clearRow_2 (k2 : Nat → Int32 → Int32 → St → Option (Unit × St)) (a0 : Nat) (a1 : Int32) (a2 : Int32) (σ : St) : Option (Unit × St) :=
 if (4 : Int32) ≤ a2 then (some ((), σ)) else (if a1 < 0 then (lt (a2 + 1 : Int32) fun v3 =>
 k2 a0 a1 v3 σ) else (if isO σ 4 a0 = true then (op (sP σ a0 1) fun p6 =>
 if isO σ 14 p6 = true then (if (nI (alen σ p6)) ≤ (a1 + a2) then (lt (a2 + 1 : Int32) fun v10 =>
 k2 a0 a1 v10 σ) else (if inR (a1 + a2) (alen σ p6) = true then (lt (setL σ p6 ((a1 + a2).toNatClampNeg) 0) fun σ13 =>
 lt (a2 + 1 : Int32) fun v15 =>
 k2 a0 a1 v15 σ13) else none)) else none) else none))
def s_X4_clearRow_2 (F : Nat) : Nat → Int32 → Int32 → St → Option (Unit × St) := lp (fun _ _ _ _ => none) (sb_X4_clearRow_2 ) F
set_option maxHeartbeats 4000000 in
set_option maxRecDepth 100000 in
theorem e_X4_clearRow_2 {r : Unit} {σ' : St} (F : Nat) : ∀ {a0 : Nat} {a1 : Int32} {a2 : Int32} {σ : St}, s_X4_clearRow_2 F a0 a1 a2 σ = some (r, σ') → Ev M_X4_clearRow (1) 2 [(0, .ref a0), (1, .int (a1)), (2, .int (a2))] [] σ none σ' := by
  induction F with
  | zero => intro a0 a1 a2 σ h; cases h
  | succ F ih =>
    intro a0 a1 a2 σ h
    change sb_X4_clearRow_2  (s_X4_clearRow_2 F) a0 a1 a2 σ = some (r, σ') at h
    unfold sb_X4_clearRow_2 at h
    have hk2 := @ih
    refine ev_iload_n 2 dX4_clearRow_2 rfl ?_
    refine ev_iconst (v := 4) dX4_clearRow_3 (by decide) ?_
    rcases it_some h with ⟨c1, h⟩ | ⟨c1, h⟩
    · refine ev_icmp_ge (tgt := 37) dX4_clearRow_4 rfl c1 ?_
      exact ev_retV dX4_clearRow_37 rfl h
    · refine ev_icmp_ge_n 37 dX4_clearRow_4 rfl c1 ?_
      refine ev_iload_n 1 dX4_clearRow_7 rfl ?_
      rcases it_some h with ⟨c2, h⟩ | ⟨c2, h⟩
      · refine ev_if_lt (tgt := 31) dX4_clearRow_8 rfl c2 ?_
        obtain ⟨v3, e4, h⟩ := lt_some h
        refine ev_iinc (v := v3) (ls' := [(2, .int (v3)), (0, .ref a0), (1, .int (a1))]) 2 dX4_clearRow_31 rfl e4.symm (by decide) rfl ?_
        refine ev_goto (tgt := 2) dX4_clearRow_34 rfl ?_
        refine ev_sub (ls' := [(0, .ref a0), (1, .int (a1)), (2, .int (v3))]) [1, 2, 0] rfl ?_
        exact hk2 h
      · refine ev_if_lt_n 31 dX4_clearRow_8 rfl c2 ?_
        refine ev_iload_n 1 dX4_clearRow_11 rfl ?_
        refine ev_iload_n 2 dX4_clearRow_12 rfl ?_
        refine ev_iadd dX4_clearRow_13 ?_
        refine ev_aload_nR 0 dX4_clearRow_14 rfl ?_
        obtain ⟨g5, h⟩ := gd_some h
        obtain ⟨p6, e7, h⟩ := op_some h
        refine ev_getPR dX4_clearRow_15 fl_X4_11 rfl g5 e7 ?_
        obtain ⟨g8, h⟩ := gd_some h
        refine ev_alen dX4_clearRow_18 (isA_O g8) (by decide) ?_
        rcases it_some h with ⟨c9, h⟩ | ⟨c9, h⟩
        · refine ev_icmp_ge (tgt := 31) dX4_clearRow_19 rfl c9 ?_
          obtain ⟨v10, e11, h⟩ := lt_some h
          refine ev_iinc (v := v10) (ls' := [(2, .int (v10)), (0, .ref a0), (1, .int (a1))]) 2 dX4_clearRow_31 rfl e11.symm (by decide) rfl ?_
          refine ev_goto (tgt := 2) dX4_clearRow_34 rfl ?_
          refine ev_sub (ls' := [(0, .ref a0), (1, .int (a1)), (2, .int (v10))]) [1, 2, 0] rfl ?_
          exact hk2 h
        · refine ev_icmp_ge_n 31 dX4_clearRow_19 rfl c9 ?_
          refine ev_aload_nR 0 dX4_clearRow_22 rfl ?_
          refine ev_getPR dX4_clearRow_23 fl_X4_11 rfl g5 e7 ?_
          refine ev_iload_n 1 dX4_clearRow_26 rfl ?_
          refine ev_iload_n 2 dX4_clearRow_27 rfl ?_
          refine ev_iadd dX4_clearRow_28 ?_
          refine ev_lconst (v := 0) dX4_clearRow_29 (by decide) ?_
          obtain ⟨g12, h⟩ := gd_some h
          obtain ⟨σ13, e14, h⟩ := lt_some h
          refine ev_last dX4_clearRow_30 (isO_spec g8).1 (isA_O g8) g12 ?_
          refine ev_st e14 ?_
          obtain ⟨v15, e16, h⟩ := lt_some h
          refine ev_iinc (v := v15) (ls' := [(2, .int (v15)), (0, .ref a0), (1, .int (a1))]) 2 dX4_clearRow_31 rfl e16.symm (by decide) rfl ?_
          refine ev_goto (tgt := 2) dX4_clearRow_34 rfl ?_
          refine ev_sub (ls' := [(0, .ref a0), (1, .int (a1)), (2, .int (v15))]) [1, 2, 0] rfl ?_
          exact hk2 h
def s_X4_clearRow (a0 : Nat) (a1 : Int32) (σ : St) : Option (Unit × St) :=
 s_X4_clearRow_2 16000 a0 a1 0 σ
set_option maxHeartbeats 4000000 in
set_option maxRecDepth 100000 in
theorem x_X4_clearRow {a0 : Nat} {a1 : Int32} {σ : St} {r : Unit} {σ' : St} (h : s_X4_clearRow a0 a1 σ = some (r, σ')) : Ex M_X4_clearRow (1) [.ref a0, .int (a1)] σ none σ' := by
  unfold s_X4_clearRow at h
  refine ex_of (by decide) rfl (Nat.le_of_ble_eq_true rfl) ?_
  show Ev _ _ 0 [(0, .ref a0), (1, .int (a1))] [] _ _ _
  refine ev_iconst (v := 0) dX4_clearRow_0 (by decide) ?_
  refine ev_istore_n (ls' := [(2, .int (0)), (0, .ref a0), (1, .int (a1))]) dX4_clearRow_1 (by decide) rfl ?_
  refine ev_sub (ls' := [(0, .ref a0), (1, .int (a1)), (2, .int (0))]) [1, 2, 0] rfl ?_
  exact e_X4_clearRow_2 16000 h
def s_X4_orWord (a0 : Nat) (a1 : Int32) (a2 : Int32) (a3 : Int64) (σ : St) : Option (Unit × St) :=
 if a1 < 0 then (some ((), σ)) else (if a2 < 0 then (some ((), σ)) else (if isO σ 4 a0 = true then (op (sP σ a0 1) fun p4 =>
 if isO σ 14 p4 = true then (if (nI (alen σ p4)) ≤ (a1 + a2) then (some ((), σ)) else (if inR (a1 + a2) (alen σ p4) = true then (if inR (a1 + a2) (alen σ p4) = true then (lt (setL σ p4 ((a1 + a2).toNatClampNeg) ((sL σ p4 ((a1 + a2).toNatClampNeg)) ||| a3)) fun σ10 =>
 some ((), σ10)) else none) else none)) else none) else none))
set_option maxHeartbeats 4000000 in
set_option maxRecDepth 100000 in
theorem x_X4_orWord {a0 : Nat} {a1 : Int32} {a2 : Int32} {a3 : Int64} {σ : St} {r : Unit} {σ' : St} (h : s_X4_orWord a0 a1 a2 a3 σ = some (r, σ')) : Ex M_X4_orWord (1) [.ref a0, .int (a1), .int (a2), .long (a3)] σ none σ' := by
  unfold s_X4_orWord at h
  refine ex_of (by decide) rfl (Nat.le_of_ble_eq_true rfl) ?_
  show Ev _ _ 0 [(0, .ref a0), (1, .int (a1)), (2, .int (a2)), (3, .long (a3))] [] _ _ _
  refine ev_iload_n 1 dX4_orWord_0 rfl ?_
  rcases it_some h with ⟨c1, h⟩ | ⟨c1, h⟩
  · refine ev_if_lt (tgt := 31) dX4_orWord_1 rfl c1 ?_
    exact ev_retV dX4_orWord_31 rfl h
  · refine ev_if_lt_n 31 dX4_orWord_1 rfl c1 ?_
    refine ev_iload_n 2 dX4_orWord_4 rfl ?_
    rcases it_some h with ⟨c2, h⟩ | ⟨c2, h⟩
    · refine ev_if_lt (tgt := 31) dX4_orWord_5 rfl c2 ?_
      exact ev_retV dX4_orWord_31 rfl h
    · refine ev_if_lt_n 31 dX4_orWord_5 rfl c2 ?_
      refine ev_iload_n 1 dX4_orWord_8 rfl ?_
      refine ev_iload_n 2 dX4_orWord_9 rfl ?_
      refine ev_iadd dX4_orWord_10 ?_
      refine ev_aload_nR 0 dX4_orWord_11 rfl ?_
      obtain ⟨g3, h⟩ := gd_some h
      obtain ⟨p4, e5, h⟩ := op_some h
      refine ev_getPR dX4_orWord_12 fl_X4_11 rfl g3 e5 ?_
      obtain ⟨g6, h⟩ := gd_some h
      refine ev_alen dX4_orWord_15 (isA_O g6) (by decide) ?_
      rcases it_some h with ⟨c7, h⟩ | ⟨c7, h⟩
      · refine ev_icmp_ge (tgt := 31) dX4_orWord_16 rfl c7 ?_
        exact ev_retV dX4_orWord_31 rfl h
      · refine ev_icmp_ge_n 31 dX4_orWord_16 rfl c7 ?_
        refine ev_aload_nR 0 dX4_orWord_19 rfl ?_
        refine ev_getPR dX4_orWord_20 fl_X4_11 rfl g3 e5 ?_
        refine ev_iload_n 1 dX4_orWord_23 rfl ?_
        refine ev_iload_n 2 dX4_orWord_24 rfl ?_
        refine ev_iadd dX4_orWord_25 ?_
        refine ev_dup2 dX4_orWord_26 rfl rfl ?_
        obtain ⟨g8, h⟩ := gd_some h
        refine ev_lald dX4_orWord_27 (isA_O g6) g8 ?_
        refine ev_lload_n 3 dX4_orWord_28 rfl ?_
        refine ev_lor dX4_orWord_29 ?_
        obtain ⟨g9, h⟩ := gd_some h
        obtain ⟨σ10, e11, h⟩ := lt_some h
        refine ev_last dX4_orWord_30 (isO_spec g6).1 (isA_O g6) g9 ?_
        refine ev_st e11 ?_
        exact ev_retV dX4_orWord_31 rfl h
def s_X4_add (a0 : Nat) (a1 : Int32) (a2 : Int32) (σ : St) : Option (Unit × St) :=
 if isO σ 4 a0 = true then (bd (s_X4_orWord a0 a1 (a2 >>> (6 &&& 31)) (1 <<< ((a2 &&& 63).toInt64 &&& 63)) σ) fun r4 σ2 =>
 some ((), σ2)) else none
set_option maxHeartbeats 4000000 in
set_option maxRecDepth 100000 in
theorem x_X4_add {a0 : Nat} {a1 : Int32} {a2 : Int32} {σ : St} {r : Unit} {σ' : St} (h : s_X4_add a0 a1 a2 σ = some (r, σ')) : Ex M_X4_add (2) [.ref a0, .int (a1), .int (a2)] σ none σ' := by
  unfold s_X4_add at h
  refine ex_of (by decide) rfl (Nat.le_of_ble_eq_true rfl) ?_
  show Ev _ _ 0 [(0, .ref a0), (1, .int (a1)), (2, .int (a2))] [] _ _ _
  refine ev_aload_nR 0 dX4_add_0 rfl ?_
  refine ev_iload_n 1 dX4_add_1 rfl ?_
  refine ev_iload_n 2 dX4_add_2 rfl ?_
  refine ev_bipush (v := 6) dX4_add_3 (by decide) ?_
  refine ev_ishr dX4_add_5 ?_
  refine ev_lconst (v := 1) dX4_add_6 (by decide) ?_
  refine ev_iload_n 2 dX4_add_7 rfl ?_
  refine ev_bipush (v := 63) dX4_add_8 (by decide) ?_
  refine ev_iand dX4_add_10 ?_
  refine ev_lshl dX4_add_11 ?_
  obtain ⟨g1, h⟩ := gd_some h
  obtain ⟨r4, σ2, e3, h⟩ := bd_some h
  refine ev_invVv (As := [.int (a1), .int (a2 >>> (6 &&& 31)), .long (1 <<< ((a2 &&& 63).toInt64 &&& 63))]) (st := []) dX4_add_12 cb_X4_orWord tp_556 tp_558 tp_22 kf4 rfl (by omega) g1 rfl rfl (Nat.le_of_ble_eq_true rfl) (x_X4_orWord e3) ?_
  exact ev_retV dX4_add_15 rfl h
def sb_X4_addAllSets_2 (k2 : Nat → Int32 → Int32 → St → Option (Unit × St)) (a0 : Nat) (a1 : Int32) (a2 : Int32) (σ : St) : Option (Unit × St) :=
 if (4 : Int32) ≤ a2 then (some ((), σ)) else (if isO σ 4 a0 = true then (op (sP σ a0 2) fun p3 =>
 if isO σ 14 p3 = true then (if inR a2 (alen σ p3) = true then (bd (s_X4_orWord a0 a1 a2 (sL σ p3 a2.toNatClampNeg) σ) fun r9 σ7 =>
 lt (a2 + 1 : Int32) fun v10 =>
 k2 a0 a1 v10 σ7) else none) else none) else none)
def s_X4_addAllSets_2 (F : Nat) : Nat → Int32 → Int32 → St → Option (Unit × St) := lp (fun _ _ _ _ => none) (sb_X4_addAllSets_2 ) F
set_option maxHeartbeats 4000000 in
set_option maxRecDepth 100000 in
theorem e_X4_addAllSets_2 {r : Unit} {σ' : St} (F : Nat) : ∀ {a0 : Nat} {a1 : Int32} {a2 : Int32} {σ : St}, s_X4_addAllSets_2 F a0 a1 a2 σ = some (r, σ') → Ev M_X4_addAllSets (2) 2 [(0, .ref a0), (1, .int (a1)), (2, .int (a2))] [] σ none σ' := by
  induction F with
  | zero => intro a0 a1 a2 σ h; cases h
  | succ F ih =>
    intro a0 a1 a2 σ h
    change sb_X4_addAllSets_2  (s_X4_addAllSets_2 F) a0 a1 a2 σ = some (r, σ') at h
    unfold sb_X4_addAllSets_2 at h
    have hk2 := @ih
    refine ev_iload_n 2 dX4_addAllSets_2 rfl ?_
    refine ev_iconst (v := 4) dX4_addAllSets_3 (by decide) ?_
    rcases it_some h with ⟨c1, h⟩ | ⟨c1, h⟩
    · refine ev_icmp_ge (tgt := 25) dX4_addAllSets_4 rfl c1 ?_
      exact ev_retV dX4_addAllSets_25 rfl h
    · refine ev_icmp_ge_n 25 dX4_addAllSets_4 rfl c1 ?_
      refine ev_aload_nR 0 dX4_addAllSets_7 rfl ?_
      refine ev_iload_n 1 dX4_addAllSets_8 rfl ?_
      refine ev_iload_n 2 dX4_addAllSets_9 rfl ?_
      refine ev_aload_nR 0 dX4_addAllSets_10 rfl ?_
      obtain ⟨g2, h⟩ := gd_some h
      obtain ⟨p3, e4, h⟩ := op_some h
      refine ev_getPR dX4_addAllSets_11 fl_X4_15 rfl g2 e4 ?_
      refine ev_iload_n 2 dX4_addAllSets_14 rfl ?_
      obtain ⟨g5, h⟩ := gd_some h
      obtain ⟨g6, h⟩ := gd_some h
      refine ev_lald dX4_addAllSets_15 (isA_O g5) g6 ?_
      obtain ⟨r9, σ7, e8, h⟩ := bd_some h
      refine ev_invVv (As := [.int (a1), .int (a2), .long (sL σ p3 a2.toNatClampNeg)]) (st := []) dX4_addAllSets_16 cb_X4_orWord tp_556 tp_558 tp_22 kf4 rfl (by omega) g2 rfl rfl (Nat.le_of_ble_eq_true rfl) (x_X4_orWord e8) ?_
      obtain ⟨v10, e11, h⟩ := lt_some h
      refine ev_iinc (v := v10) (ls' := [(2, .int (v10)), (0, .ref a0), (1, .int (a1))]) 2 dX4_addAllSets_19 rfl e11.symm (by decide) rfl ?_
      refine ev_goto (tgt := 2) dX4_addAllSets_22 rfl ?_
      refine ev_sub (ls' := [(0, .ref a0), (1, .int (a1)), (2, .int (v10))]) [1, 2, 0] rfl ?_
      exact hk2 h
def s_X4_addAllSets (a0 : Nat) (a1 : Int32) (σ : St) : Option (Unit × St) :=
 s_X4_addAllSets_2 16000 a0 a1 0 σ
set_option maxHeartbeats 4000000 in
set_option maxRecDepth 100000 in
theorem x_X4_addAllSets {a0 : Nat} {a1 : Int32} {σ : St} {r : Unit} {σ' : St} (h : s_X4_addAllSets a0 a1 σ = some (r, σ')) : Ex M_X4_addAllSets (2) [.ref a0, .int (a1)] σ none σ' := by
  unfold s_X4_addAllSets at h
  refine ex_of (by decide) rfl (Nat.le_of_ble_eq_true rfl) ?_
  show Ev _ _ 0 [(0, .ref a0), (1, .int (a1))] [] _ _ _
  refine ev_iconst (v := 0) dX4_addAllSets_0 (by decide) ?_
  refine ev_istore_n (ls' := [(2, .int (0)), (0, .ref a0), (1, .int (a1))]) dX4_addAllSets_1 (by decide) rfl ?_
  refine ev_sub (ls' := [(0, .ref a0), (1, .int (a1)), (2, .int (0))]) [1, 2, 0] rfl ?_
  exact e_X4_addAllSets_2 16000 h
def sb_X4_addMoved_24 (k24 : Nat → Int32 → Int32 → Int32 → Int32 → Int64 → Int32 → St → Option (Unit × St)) (a0 : Nat) (a1 : Int32) (a2 : Int32) (a4 : Int32) (a5 : Int32) (a6 : Int64) (a8 : Int32) (σ : St) : Option (Unit × St) :=
 if (4 : Int32) ≤ a8 then (some ((), σ)) else (if (a8 &&& a5) = 0 then (if isO σ 4 a0 = true then (bd (s_X4_wordAt a0 a2 a8 σ) fun r8 σ6 =>
 if isO σ6 4 a0 = true then (bd (s_X4_orWord a0 a1 (a8 ||| a5) ((r8 &&& a6) <<< (a4.toInt64 &&& 63)) σ6) fun r12 σ10 =>
 lt (a8 + 1 : Int32) fun v13 =>
 k24 a0 a1 a2 a4 a5 a6 v13 σ10) else none) else none) else (lt (a8 + 1 : Int32) fun v3 =>
 k24 a0 a1 a2 a4 a5 a6 v3 σ))
def s_X4_addMoved_24 (F : Nat) : Nat → Int32 → Int32 → Int32 → Int32 → Int64 → Int32 → St → Option (Unit × St) := lp (fun _ _ _ _ _ _ _ _ => none) (sb_X4_addMoved_24 ) F
set_option maxHeartbeats 4000000 in
set_option maxRecDepth 100000 in
theorem e_X4_addMoved_24 {r : Unit} {σ' : St} (F : Nat) : ∀ {a0 : Nat} {a1 : Int32} {a2 : Int32} {a4 : Int32} {a5 : Int32} {a6 : Int64} {a8 : Int32} {σ : St}, s_X4_addMoved_24 F a0 a1 a2 a4 a5 a6 a8 σ = some (r, σ') → Ev M_X4_addMoved (2) 24 [(0, .ref a0), (1, .int (a1)), (2, .int (a2)), (4, .int (a4)), (5, .int (a5)), (6, .long (a6)), (8, .int (a8))] [] σ none σ' := by
  induction F with
  | zero => intro a0 a1 a2 a4 a5 a6 a8 σ h; cases h
  | succ F ih =>
    intro a0 a1 a2 a4 a5 a6 a8 σ h
    change sb_X4_addMoved_24  (s_X4_addMoved_24 F) a0 a1 a2 a4 a5 a6 a8 σ = some (r, σ') at h
    unfold sb_X4_addMoved_24 at h
    have hk24 := @ih
    refine ev_iload 6 dX4_addMoved_24 rfl ?_
    refine ev_iconst (v := 4) dX4_addMoved_26 (by decide) ?_
    rcases it_some h with ⟨c1, h⟩ | ⟨c1, h⟩
    · refine ev_icmp_ge (tgt := 67) dX4_addMoved_27 rfl c1 ?_
      exact ev_retV dX4_addMoved_67 rfl h
    · refine ev_icmp_ge_n 67 dX4_addMoved_27 rfl c1 ?_
      refine ev_iload 6 dX4_addMoved_30 rfl ?_
      refine ev_iload 4 dX4_addMoved_32 rfl ?_
      refine ev_iand dX4_addMoved_34 ?_
      rcases it_some h with ⟨c2, h⟩ | ⟨c2, h⟩
      · refine ev_if_ne_n 61 dX4_addMoved_35 rfl c2 ?_
        refine ev_aload_nR 0 dX4_addMoved_38 rfl ?_
        refine ev_iload_n 1 dX4_addMoved_39 rfl ?_
        refine ev_iload 6 dX4_addMoved_40 rfl ?_
        refine ev_iload 4 dX4_addMoved_42 rfl ?_
        refine ev_ior dX4_addMoved_44 ?_
        refine ev_aload_nR 0 dX4_addMoved_45 rfl ?_
        refine ev_iload_n 2 dX4_addMoved_46 rfl ?_
        refine ev_iload 6 dX4_addMoved_47 rfl ?_
        obtain ⟨g5, h⟩ := gd_some h
        obtain ⟨r8, σ6, e7, h⟩ := bd_some h
        refine ev_invVl (As := [.int (a2), .int (a8)]) (st := [.int (a8 ||| a5), .int (a1), .ref a0]) dX4_addMoved_49 cb_X4_wordAt tp_568 tp_570 tp_25 kf4 rfl (by omega) g5 rfl rfl (Nat.le_of_ble_eq_true rfl) (x_X4_wordAt e7) ?_
        refine ev_lload 5 dX4_addMoved_52 rfl ?_
        refine ev_land dX4_addMoved_54 ?_
        refine ev_iload 3 dX4_addMoved_55 rfl ?_
        refine ev_lshl dX4_addMoved_57 ?_
        obtain ⟨g9, h⟩ := gd_some h
        obtain ⟨r12, σ10, e11, h⟩ := bd_some h
        refine ev_invVv (As := [.int (a1), .int (a8 ||| a5), .long ((r8 &&& a6) <<< (a4.toInt64 &&& 63))]) (st := []) dX4_addMoved_58 cb_X4_orWord tp_556 tp_558 tp_22 kf4 rfl (by omega) g9 rfl rfl (Nat.le_of_ble_eq_true rfl) (x_X4_orWord e11) ?_
        obtain ⟨v13, e14, h⟩ := lt_some h
        refine ev_iinc (v := v13) (ls' := [(8, .int (v13)), (0, .ref a0), (1, .int (a1)), (2, .int (a2)), (4, .int (a4)), (5, .int (a5)), (6, .long (a6))]) 6 dX4_addMoved_61 rfl e14.symm (by decide) rfl ?_
        refine ev_goto (tgt := 24) dX4_addMoved_64 rfl ?_
        refine ev_sub (ls' := [(0, .ref a0), (1, .int (a1)), (2, .int (a2)), (4, .int (a4)), (5, .int (a5)), (6, .long (a6)), (8, .int (v13))]) [1, 2, 3, 4, 5, 6, 0] rfl ?_
        exact hk24 h
      · refine ev_if_ne (tgt := 61) dX4_addMoved_35 rfl c2 ?_
        obtain ⟨v3, e4, h⟩ := lt_some h
        refine ev_iinc (v := v3) (ls' := [(8, .int (v3)), (0, .ref a0), (1, .int (a1)), (2, .int (a2)), (4, .int (a4)), (5, .int (a5)), (6, .long (a6))]) 6 dX4_addMoved_61 rfl e4.symm (by decide) rfl ?_
        refine ev_goto (tgt := 24) dX4_addMoved_64 rfl ?_
        refine ev_sub (ls' := [(0, .ref a0), (1, .int (a1)), (2, .int (a2)), (4, .int (a4)), (5, .int (a5)), (6, .long (a6)), (8, .int (v3))]) [1, 2, 3, 4, 5, 6, 0] rfl ?_
        exact hk24 h
def s_X4_addMoved (a0 : Nat) (a1 : Int32) (a2 : Int32) (a3 : Int32) (σ : St) : Option (Unit × St) :=
 lt (a3 &&& 63 : Int32) fun v15 =>
 lt (a3 >>> (6 &&& 31) : Int32) fun v17 =>
 if isO σ 4 a0 = true then (op (sP σ a0 3) fun p20 =>
 if isO σ 14 p20 = true then (if inR v15 (alen σ p20) = true then (lt (sL σ p20 v15.toNatClampNeg : Int64) fun v24 =>
 s_X4_addMoved_24 16000 a0 a1 a2 v15 v17 v24 0 σ) else none) else none) else none
set_option maxHeartbeats 4000000 in
set_option maxRecDepth 100000 in
theorem x_X4_addMoved {a0 : Nat} {a1 : Int32} {a2 : Int32} {a3 : Int32} {σ : St} {r : Unit} {σ' : St} (h : s_X4_addMoved a0 a1 a2 a3 σ = some (r, σ')) : Ex M_X4_addMoved (2) [.ref a0, .int (a1), .int (a2), .int (a3)] σ none σ' := by
  unfold s_X4_addMoved at h
  refine ex_of (by decide) rfl (Nat.le_of_ble_eq_true rfl) ?_
  show Ev _ _ 0 [(0, .ref a0), (1, .int (a1)), (2, .int (a2)), (3, .int (a3))] [] _ _ _
  refine ev_iload_n 3 dX4_addMoved_0 rfl ?_
  refine ev_bipush (v := 63) dX4_addMoved_1 (by decide) ?_
  refine ev_iand dX4_addMoved_3 ?_
  obtain ⟨v15, e16, h⟩ := lt_some h
  refine ev_topI e16 ?_
  refine ev_istore (ls' := [(4, .int (v15)), (0, .ref a0), (1, .int (a1)), (2, .int (a2)), (3, .int (a3))]) dX4_addMoved_4 (by decide) rfl ?_
  refine ev_iload_n 4 dX4_addMoved_6 rfl ?_
  refine ev_bipush (v := 6) dX4_addMoved_7 (by decide) ?_
  refine ev_ishr dX4_addMoved_9 ?_
  obtain ⟨v17, e18, h⟩ := lt_some h
  refine ev_topI e18 ?_
  refine ev_istore (ls' := [(5, .int (v17)), (4, .int (v15)), (0, .ref a0), (1, .int (a1)), (2, .int (a2)), (3, .int (a3))]) dX4_addMoved_10 (by decide) rfl ?_
  refine ev_aload_nR 2 dX4_addMoved_12 rfl ?_
  obtain ⟨g19, h⟩ := gd_some h
  obtain ⟨p20, e21, h⟩ := op_some h
  refine ev_getPR dX4_addMoved_13 fl_X4_18 rfl g19 e21 ?_
  refine ev_iload 1 dX4_addMoved_16 rfl ?_
  obtain ⟨g22, h⟩ := gd_some h
  obtain ⟨g23, h⟩ := gd_some h
  refine ev_lald dX4_addMoved_18 (isA_O g22) g23 ?_
  obtain ⟨v24, e25, h⟩ := lt_some h
  refine ev_topL e25 ?_
  refine ev_lstore (ls' := [(6, .long (v24)), (5, .int (v17)), (4, .int (v15)), (0, .ref a0), (1, .int (a1)), (2, .int (a2)), (3, .int (a3))]) dX4_addMoved_19 (by decide) rfl ?_
  refine ev_iconst (v := 0) dX4_addMoved_21 (by decide) ?_
  refine ev_istore (ls' := [(8, .int (0)), (6, .long (v24)), (5, .int (v17)), (4, .int (v15)), (0, .ref a0), (1, .int (a1)), (2, .int (a2)), (3, .int (a3))]) dX4_addMoved_22 (by decide) rfl ?_
  refine ev_sub (ls' := [(0, .ref a0), (1, .int (a1)), (2, .int (a2)), (4, .int (v15)), (5, .int (v17)), (6, .long (v24)), (8, .int (0))]) [4, 5, 6, 3, 2, 1, 0] rfl ?_
  exact e_X4_addMoved_24 16000 h
def s_X4_addUnions_58 (k3 : Nat → Int32 → Int32 → Int32 → Int32 → St → Option (Unit × St)) (k21 : Nat → Int32 → Int32 → Int32 → Int32 → Int64 → Int32 → St → Option (Unit × St)) (a0 : Nat) (a1 : Int32) (a2 : Int32) (a3 : Int32) (a4 : Int32) (a5 : Int64) (a7 : Int32) (σ : St) : Option (Unit × St) :=
 lt ((a5.toUInt64 >>> ((1 : Int32).toInt64.toUInt64 &&& Int64.toUInt64 63)).toInt64 : Int64) fun v1 =>
 lt (a7 + 1 : Int32) fun v3 =>
 k21 a0 a1 a2 a3 a4 v1 v3 σ
set_option maxHeartbeats 4000000 in
set_option maxRecDepth 100000 in
theorem e_X4_addUnions_58 {r : Unit} {σ' : St} {k3 : Nat → Int32 → Int32 → Int32 → Int32 → St → Option (Unit × St)} {k21 : Nat → Int32 → Int32 → Int32 → Int32 → Int64 → Int32 → St → Option (Unit × St)} (hk3 : ∀ {y0 : Nat} {y1 : Int32} {y2 : Int32} {y3 : Int32} {y4 : Int32} {σ : St}, k3 y0 y1 y2 y3 y4 σ = some (r, σ') → Ev M_X4_addUnions (3) 3 [(0, .ref y0), (1, .int (y1)), (2, .int (y2)), (3, .int (y3)), (4, .int (y4))] [] σ none σ') (hk21 : ∀ {y0 : Nat} {y1 : Int32} {y2 : Int32} {y3 : Int32} {y4 : Int32} {y5 : Int64} {y6 : Int32} {σ : St}, k21 y0 y1 y2 y3 y4 y5 y6 σ = some (r, σ') → Ev M_X4_addUnions (3) 21 [(0, .ref y0), (1, .int (y1)), (2, .int (y2)), (3, .int (y3)), (4, .int (y4)), (5, .long (y5)), (7, .int (y6))] [] σ none σ') : ∀ {a0 : Nat} {a1 : Int32} {a2 : Int32} {a3 : Int32} {a4 : Int32} {a5 : Int64} {a7 : Int32} {σ : St}, s_X4_addUnions_58 k3 k21 a0 a1 a2 a3 a4 a5 a7 σ = some (r, σ') → Ev M_X4_addUnions (3) 58 [(0, .ref a0), (1, .int (a1)), (2, .int (a2)), (3, .int (a3)), (4, .int (a4)), (5, .long (a5)), (7, .int (a7))] [] σ none σ' := by
  intro a0 a1 a2 a3 a4 a5 a7 σ h
  unfold s_X4_addUnions_58 at h
  refine ev_lload 5 dX4_addUnions_58 rfl ?_
  refine ev_iconst (v := 1) dX4_addUnions_60 (by decide) ?_
  refine ev_lushr dX4_addUnions_61 ?_
  obtain ⟨v1, e2, h⟩ := lt_some h
  refine ev_topL e2 ?_
  refine ev_lstore (ls' := [(5, .long (v1)), (0, .ref a0), (1, .int (a1)), (2, .int (a2)), (3, .int (a3)), (4, .int (a4)), (7, .int (a7))]) dX4_addUnions_62 (by decide) rfl ?_
  obtain ⟨v3, e4, h⟩ := lt_some h
  refine ev_iinc (v := v3) (ls' := [(7, .int (v3)), (5, .long (v1)), (0, .ref a0), (1, .int (a1)), (2, .int (a2)), (3, .int (a3)), (4, .int (a4))]) 6 dX4_addUnions_64 rfl e4.symm (by decide) rfl ?_
  refine ev_goto (tgt := 21) dX4_addUnions_67 rfl ?_
  refine ev_sub (ls' := [(0, .ref a0), (1, .int (a1)), (2, .int (a2)), (3, .int (a3)), (4, .int (a4)), (5, .long (v1)), (7, .int (v3))]) [2, 3, 4, 5, 6, 1, 0] rfl ?_
  exact hk21 h
def sb_X4_addUnions_21 (k3 : Nat → Int32 → Int32 → Int32 → Int32 → St → Option (Unit × St)) (k21 : Nat → Int32 → Int32 → Int32 → Int32 → Int64 → Int32 → St → Option (Unit × St)) (a0 : Nat) (a1 : Int32) (a2 : Int32) (a3 : Int32) (a4 : Int32) (a5 : Int64) (a7 : Int32) (σ : St) : Option (Unit × St) :=
 if (63 : Int32) < a7 then (lt (a4 + 1 : Int32) fun v6 =>
 k3 a0 a1 a2 a3 v6 σ) else (if (lg_cmp a5 0) = 0 then (lt (a4 + 1 : Int32) fun v9 =>
 k3 a0 a1 a2 a3 v9 σ) else (if (lg_cmp (a5 &&& 1) 0) = 0 then (s_X4_addUnions_58 k3 k21 a0 a1 a2 a3 a4 a5 a7 σ) else (if isO σ 4 a0 = true then (bd (s_X4_addMoved a0 a1 a3 ((a4 <<< (6 &&& 31)) ||| a7) σ) fun r15 σ13 =>
 s_X4_addUnions_58 k3 k21 a0 a1 a2 a3 a4 a5 a7 σ13) else none)))
def s_X4_addUnions_21 (k3 : Nat → Int32 → Int32 → Int32 → Int32 → St → Option (Unit × St)) (F : Nat) : Nat → Int32 → Int32 → Int32 → Int32 → Int64 → Int32 → St → Option (Unit × St) := lp (fun _ _ _ _ _ _ _ _ => none) (sb_X4_addUnions_21 k3) F
set_option maxHeartbeats 4000000 in
set_option maxRecDepth 100000 in
theorem e_X4_addUnions_21 {r : Unit} {σ' : St} {k3 : Nat → Int32 → Int32 → Int32 → Int32 → St → Option (Unit × St)} (hk3 : ∀ {y0 : Nat} {y1 : Int32} {y2 : Int32} {y3 : Int32} {y4 : Int32} {σ : St}, k3 y0 y1 y2 y3 y4 σ = some (r, σ') → Ev M_X4_addUnions (3) 3 [(0, .ref y0), (1, .int (y1)), (2, .int (y2)), (3, .int (y3)), (4, .int (y4))] [] σ none σ') (F : Nat) : ∀ {a0 : Nat} {a1 : Int32} {a2 : Int32} {a3 : Int32} {a4 : Int32} {a5 : Int64} {a7 : Int32} {σ : St}, s_X4_addUnions_21 k3 F a0 a1 a2 a3 a4 a5 a7 σ = some (r, σ') → Ev M_X4_addUnions (3) 21 [(0, .ref a0), (1, .int (a1)), (2, .int (a2)), (3, .int (a3)), (4, .int (a4)), (5, .long (a5)), (7, .int (a7))] [] σ none σ' := by
  induction F with
  | zero => intro a0 a1 a2 a3 a4 a5 a7 σ h; cases h
  | succ F ih =>
    intro a0 a1 a2 a3 a4 a5 a7 σ h
    change sb_X4_addUnions_21 k3 (s_X4_addUnions_21 k3 F) a0 a1 a2 a3 a4 a5 a7 σ = some (r, σ') at h
    unfold sb_X4_addUnions_21 at h
    have hk21 := @ih
    refine ev_iload 6 dX4_addUnions_21 rfl ?_
    refine ev_bipush (v := 63) dX4_addUnions_23 (by decide) ?_
    rcases it_some h with ⟨c5, h⟩ | ⟨c5, h⟩
    · refine ev_icmp_gt (tgt := 70) dX4_addUnions_25 rfl c5 ?_
      obtain ⟨v6, e7, h⟩ := lt_some h
      refine ev_iinc (v := v6) (ls' := [(4, .int (v6)), (0, .ref a0), (1, .int (a1)), (2, .int (a2)), (3, .int (a3)), (5, .long (a5)), (7, .int (a7))]) 4 dX4_addUnions_70 rfl e7.symm (by decide) rfl ?_
      refine ev_goto (tgt := 3) dX4_addUnions_73 rfl ?_
      refine ev_sub (ls' := [(0, .ref a0), (1, .int (a1)), (2, .int (a2)), (3, .int (a3)), (4, .int (v6))]) [1, 2, 3, 4, 0] rfl ?_
      exact hk3 h
    · refine ev_icmp_gt_n 70 dX4_addUnions_25 rfl c5 ?_
      refine ev_lload 5 dX4_addUnions_28 rfl ?_
      refine ev_lconst (v := 0) dX4_addUnions_30 (by decide) ?_
      refine ev_lcmp dX4_addUnions_31 ?_
      rcases it_some h with ⟨c8, h⟩ | ⟨c8, h⟩
      · refine ev_if_eq (tgt := 70) dX4_addUnions_32 rfl c8 ?_
        obtain ⟨v9, e10, h⟩ := lt_some h
        refine ev_iinc (v := v9) (ls' := [(4, .int (v9)), (0, .ref a0), (1, .int (a1)), (2, .int (a2)), (3, .int (a3)), (5, .long (a5)), (7, .int (a7))]) 4 dX4_addUnions_70 rfl e10.symm (by decide) rfl ?_
        refine ev_goto (tgt := 3) dX4_addUnions_73 rfl ?_
        refine ev_sub (ls' := [(0, .ref a0), (1, .int (a1)), (2, .int (a2)), (3, .int (a3)), (4, .int (v9))]) [1, 2, 3, 4, 0] rfl ?_
        exact hk3 h
      · refine ev_if_eq_n 70 dX4_addUnions_32 rfl c8 ?_
        refine ev_lload 5 dX4_addUnions_35 rfl ?_
        refine ev_lconst (v := 1) dX4_addUnions_37 (by decide) ?_
        refine ev_land dX4_addUnions_38 ?_
        refine ev_lconst (v := 0) dX4_addUnions_39 (by decide) ?_
        refine ev_lcmp dX4_addUnions_40 ?_
        rcases it_some h with ⟨c11, h⟩ | ⟨c11, h⟩
        · refine ev_if_eq (tgt := 58) dX4_addUnions_41 rfl c11 ?_
          refine ev_sub (ls' := [(0, .ref a0), (1, .int (a1)), (2, .int (a2)), (3, .int (a3)), (4, .int (a4)), (5, .long (a5)), (7, .int (a7))]) [0, 1, 2, 3, 4, 5, 6] rfl ?_
          exact e_X4_addUnions_58 hk3 hk21 h
        · refine ev_if_eq_n 58 dX4_addUnions_41 rfl c11 ?_
          refine ev_aload_nR 0 dX4_addUnions_44 rfl ?_
          refine ev_iload_n 1 dX4_addUnions_45 rfl ?_
          refine ev_iload_n 3 dX4_addUnions_46 rfl ?_
          refine ev_iload 4 dX4_addUnions_47 rfl ?_
          refine ev_bipush (v := 6) dX4_addUnions_49 (by decide) ?_
          refine ev_ishl dX4_addUnions_51 ?_
          refine ev_iload 6 dX4_addUnions_52 rfl ?_
          refine ev_ior dX4_addUnions_54 ?_
          obtain ⟨g12, h⟩ := gd_some h
          obtain ⟨r15, σ13, e14, h⟩ := bd_some h
          refine ev_invVv (As := [.int (a1), .int (a3), .int ((a4 <<< (6 &&& 31)) ||| a7)]) (st := []) dX4_addUnions_55 cb_X4_addMoved tp_576 tp_578 tp_27 kf4 rfl (by omega) g12 rfl rfl (Nat.le_of_ble_eq_true rfl) (x_X4_addMoved e14) ?_
          refine ev_sub (ls' := [(0, .ref a0), (1, .int (a1)), (2, .int (a2)), (3, .int (a3)), (4, .int (a4)), (5, .long (a5)), (7, .int (a7))]) [0, 1, 2, 3, 4, 5, 6] rfl ?_
          exact e_X4_addUnions_58 hk3 hk21 h
def sb_X4_addUnions_3 (k3 : Nat → Int32 → Int32 → Int32 → Int32 → St → Option (Unit × St)) (a0 : Nat) (a1 : Int32) (a2 : Int32) (a3 : Int32) (a4 : Int32) (σ : St) : Option (Unit × St) :=
 if (4 : Int32) ≤ a4 then (some ((), σ)) else (if isO σ 4 a0 = true then (bd (s_X4_wordAt a0 a2 a4 σ) fun r20 σ18 =>
 s_X4_addUnions_21 k3 16000 a0 a1 a2 a3 a4 r20 0 σ18) else none)
def s_X4_addUnions_3 (F : Nat) : Nat → Int32 → Int32 → Int32 → Int32 → St → Option (Unit × St) := lp (fun _ _ _ _ _ _ => none) (sb_X4_addUnions_3 ) F
set_option maxHeartbeats 4000000 in
set_option maxRecDepth 100000 in
theorem e_X4_addUnions_3 {r : Unit} {σ' : St} (F : Nat) : ∀ {a0 : Nat} {a1 : Int32} {a2 : Int32} {a3 : Int32} {a4 : Int32} {σ : St}, s_X4_addUnions_3 F a0 a1 a2 a3 a4 σ = some (r, σ') → Ev M_X4_addUnions (3) 3 [(0, .ref a0), (1, .int (a1)), (2, .int (a2)), (3, .int (a3)), (4, .int (a4))] [] σ none σ' := by
  induction F with
  | zero => intro a0 a1 a2 a3 a4 σ h; cases h
  | succ F ih =>
    intro a0 a1 a2 a3 a4 σ h
    change sb_X4_addUnions_3  (s_X4_addUnions_3 F) a0 a1 a2 a3 a4 σ = some (r, σ') at h
    unfold sb_X4_addUnions_3 at h
    have hk3 := @ih
    refine ev_iload 4 dX4_addUnions_3 rfl ?_
    refine ev_iconst (v := 4) dX4_addUnions_5 (by decide) ?_
    rcases it_some h with ⟨c16, h⟩ | ⟨c16, h⟩
    · refine ev_icmp_ge (tgt := 76) dX4_addUnions_6 rfl c16 ?_
      exact ev_retV dX4_addUnions_76 rfl h
    · refine ev_icmp_ge_n 76 dX4_addUnions_6 rfl c16 ?_
      refine ev_aload_nR 0 dX4_addUnions_9 rfl ?_
      refine ev_iload_n 2 dX4_addUnions_10 rfl ?_
      refine ev_iload 4 dX4_addUnions_11 rfl ?_
      obtain ⟨g17, h⟩ := gd_some h
      obtain ⟨r20, σ18, e19, h⟩ := bd_some h
      refine ev_invVl (As := [.int (a2), .int (a4)]) (st := []) dX4_addUnions_13 cb_X4_wordAt tp_568 tp_570 tp_25 kf4 rfl (by omega) g17 rfl rfl (Nat.le_of_ble_eq_true rfl) (x_X4_wordAt e19) ?_
      refine ev_lstore (ls' := [(5, .long (r20)), (0, .ref a0), (1, .int (a1)), (2, .int (a2)), (3, .int (a3)), (4, .int (a4))]) dX4_addUnions_16 (by decide) rfl ?_
      refine ev_iconst (v := 0) dX4_addUnions_18 (by decide) ?_
      refine ev_istore (ls' := [(7, .int (0)), (5, .long (r20)), (0, .ref a0), (1, .int (a1)), (2, .int (a2)), (3, .int (a3)), (4, .int (a4))]) dX4_addUnions_19 (by decide) rfl ?_
      refine ev_sub (ls' := [(0, .ref a0), (1, .int (a1)), (2, .int (a2)), (3, .int (a3)), (4, .int (a4)), (5, .long (r20)), (7, .int (0))]) [2, 3, 4, 5, 6, 1, 0] rfl ?_
      exact e_X4_addUnions_21 hk3 16000 h
def s_X4_addUnions (a0 : Nat) (a1 : Int32) (a2 : Int32) (a3 : Int32) (σ : St) : Option (Unit × St) :=
 s_X4_addUnions_3 16000 a0 a1 a2 a3 0 σ
set_option maxHeartbeats 4000000 in
set_option maxRecDepth 100000 in
theorem x_X4_addUnions {a0 : Nat} {a1 : Int32} {a2 : Int32} {a3 : Int32} {σ : St} {r : Unit} {σ' : St} (h : s_X4_addUnions a0 a1 a2 a3 σ = some (r, σ')) : Ex M_X4_addUnions (3) [.ref a0, .int (a1), .int (a2), .int (a3)] σ none σ' := by
  unfold s_X4_addUnions at h
  refine ex_of (by decide) rfl (Nat.le_of_ble_eq_true rfl) ?_
  show Ev _ _ 0 [(0, .ref a0), (1, .int (a1)), (2, .int (a2)), (3, .int (a3))] [] _ _ _
  refine ev_iconst (v := 0) dX4_addUnions_0 (by decide) ?_
  refine ev_istore (ls' := [(4, .int (0)), (0, .ref a0), (1, .int (a1)), (2, .int (a2)), (3, .int (a3))]) dX4_addUnions_1 (by decide) rfl ?_
  refine ev_sub (ls' := [(0, .ref a0), (1, .int (a1)), (2, .int (a2)), (3, .int (a3)), (4, .int (0))]) [1, 2, 3, 4, 0] rfl ?_
  exact e_X4_addUnions_3 16000 h
def sb_X4_addShared_3 (k3 : Nat → Int32 → Int32 → Int32 → Int32 → St → Option (Unit × St)) (a0 : Nat) (a1 : Int32) (a2 : Int32) (a3 : Int32) (a4 : Int32) (σ : St) : Option (Unit × St) :=
 if (4 : Int32) ≤ a4 then (some ((), σ)) else (if isO σ 4 a0 = true then (bd (s_X4_wordAt a0 a2 a4 σ) fun r5 σ3 =>
 if isO σ3 4 a0 = true then (bd (s_X4_wordAt a0 a3 a4 σ3) fun r9 σ7 =>
 if isO σ7 4 a0 = true then (bd (s_X4_orWord a0 a1 a4 (r5 &&& r9) σ7) fun r13 σ11 =>
 lt (a4 + 1 : Int32) fun v14 =>
 k3 a0 a1 a2 a3 v14 σ11) else none) else none) else none)
def s_X4_addShared_3 (F : Nat) : Nat → Int32 → Int32 → Int32 → Int32 → St → Option (Unit × St) := lp (fun _ _ _ _ _ _ => none) (sb_X4_addShared_3 ) F
set_option maxHeartbeats 4000000 in
set_option maxRecDepth 100000 in
theorem e_X4_addShared_3 {r : Unit} {σ' : St} (F : Nat) : ∀ {a0 : Nat} {a1 : Int32} {a2 : Int32} {a3 : Int32} {a4 : Int32} {σ : St}, s_X4_addShared_3 F a0 a1 a2 a3 a4 σ = some (r, σ') → Ev M_X4_addShared (2) 3 [(0, .ref a0), (1, .int (a1)), (2, .int (a2)), (3, .int (a3)), (4, .int (a4))] [] σ none σ' := by
  induction F with
  | zero => intro a0 a1 a2 a3 a4 σ h; cases h
  | succ F ih =>
    intro a0 a1 a2 a3 a4 σ h
    change sb_X4_addShared_3  (s_X4_addShared_3 F) a0 a1 a2 a3 a4 σ = some (r, σ') at h
    unfold sb_X4_addShared_3 at h
    have hk3 := @ih
    refine ev_iload 4 dX4_addShared_3 rfl ?_
    refine ev_iconst (v := 4) dX4_addShared_5 (by decide) ?_
    rcases it_some h with ⟨c1, h⟩ | ⟨c1, h⟩
    · refine ev_icmp_ge (tgt := 37) dX4_addShared_6 rfl c1 ?_
      exact ev_retV dX4_addShared_37 rfl h
    · refine ev_icmp_ge_n 37 dX4_addShared_6 rfl c1 ?_
      refine ev_aload_nR 0 dX4_addShared_9 rfl ?_
      refine ev_iload_n 1 dX4_addShared_10 rfl ?_
      refine ev_iload 4 dX4_addShared_11 rfl ?_
      refine ev_aload_nR 0 dX4_addShared_13 rfl ?_
      refine ev_iload_n 2 dX4_addShared_14 rfl ?_
      refine ev_iload 4 dX4_addShared_15 rfl ?_
      obtain ⟨g2, h⟩ := gd_some h
      obtain ⟨r5, σ3, e4, h⟩ := bd_some h
      refine ev_invVl (As := [.int (a2), .int (a4)]) (st := [.int (a4), .int (a1), .ref a0]) dX4_addShared_17 cb_X4_wordAt tp_568 tp_570 tp_25 kf4 rfl (by omega) g2 rfl rfl (Nat.le_of_ble_eq_true rfl) (x_X4_wordAt e4) ?_
      refine ev_aload_nR 0 dX4_addShared_20 rfl ?_
      refine ev_iload_n 3 dX4_addShared_21 rfl ?_
      refine ev_iload 4 dX4_addShared_22 rfl ?_
      obtain ⟨g6, h⟩ := gd_some h
      obtain ⟨r9, σ7, e8, h⟩ := bd_some h
      refine ev_invVl (As := [.int (a3), .int (a4)]) (st := [.long (r5), .int (a4), .int (a1), .ref a0]) dX4_addShared_24 cb_X4_wordAt tp_568 tp_570 tp_25 kf4 rfl (by omega) g6 rfl rfl (Nat.le_of_ble_eq_true rfl) (x_X4_wordAt e8) ?_
      refine ev_land dX4_addShared_27 ?_
      obtain ⟨g10, h⟩ := gd_some h
      obtain ⟨r13, σ11, e12, h⟩ := bd_some h
      refine ev_invVv (As := [.int (a1), .int (a4), .long (r5 &&& r9)]) (st := []) dX4_addShared_28 cb_X4_orWord tp_556 tp_558 tp_22 kf4 rfl (by omega) g10 rfl rfl (Nat.le_of_ble_eq_true rfl) (x_X4_orWord e12) ?_
      obtain ⟨v14, e15, h⟩ := lt_some h
      refine ev_iinc (v := v14) (ls' := [(4, .int (v14)), (0, .ref a0), (1, .int (a1)), (2, .int (a2)), (3, .int (a3))]) 4 dX4_addShared_31 rfl e15.symm (by decide) rfl ?_
      refine ev_goto (tgt := 3) dX4_addShared_34 rfl ?_
      refine ev_sub (ls' := [(0, .ref a0), (1, .int (a1)), (2, .int (a2)), (3, .int (a3)), (4, .int (v14))]) [1, 2, 3, 4, 0] rfl ?_
      exact hk3 h
def s_X4_addShared (a0 : Nat) (a1 : Int32) (a2 : Int32) (a3 : Int32) (σ : St) : Option (Unit × St) :=
 s_X4_addShared_3 16000 a0 a1 a2 a3 0 σ
set_option maxHeartbeats 4000000 in
set_option maxRecDepth 100000 in
theorem x_X4_addShared {a0 : Nat} {a1 : Int32} {a2 : Int32} {a3 : Int32} {σ : St} {r : Unit} {σ' : St} (h : s_X4_addShared a0 a1 a2 a3 σ = some (r, σ')) : Ex M_X4_addShared (2) [.ref a0, .int (a1), .int (a2), .int (a3)] σ none σ' := by
  unfold s_X4_addShared at h
  refine ex_of (by decide) rfl (Nat.le_of_ble_eq_true rfl) ?_
  show Ev _ _ 0 [(0, .ref a0), (1, .int (a1)), (2, .int (a2)), (3, .int (a3))] [] _ _ _
  refine ev_iconst (v := 0) dX4_addShared_0 (by decide) ?_
  refine ev_istore (ls' := [(4, .int (0)), (0, .ref a0), (1, .int (a1)), (2, .int (a2)), (3, .int (a3))]) dX4_addShared_1 (by decide) rfl ?_
  refine ev_sub (ls' := [(0, .ref a0), (1, .int (a1)), (2, .int (a2)), (3, .int (a3)), (4, .int (0))]) [1, 2, 3, 4, 0] rfl ?_
  exact e_X4_addShared_3 16000 h
