def sb_X4_addReduced_24 (k24 : Nat → Int32 → Int32 → Int32 → Int32 → Int64 → Int32 → St → Option (Unit × St)) (a0 : Nat) (a1 : Int32) (a2 : Int32) (a4 : Int32) (a5 : Int32) (a6 : Int64) (a8 : Int32) (σ : St) : Option (Unit × St) :=
 if (4 : Int32) ≤ a8 then (some ((), σ)) else (if (a8 &&& a5) = 0 then (if isO σ 4 a0 = true then (bd (s_X4_wordAt a0 a2 (a8 ||| a5) σ) fun r8 σ6 =>
 if isO σ6 4 a0 = true then (bd (s_X4_orWord a0 a1 a8 (((r8.toUInt64 >>> (a4.toInt64.toUInt64 &&& Int64.toUInt64 63)).toInt64) &&& a6) σ6) fun r12 σ10 =>
 lt (a8 + 1 : Int32) fun v13 =>
 k24 a0 a1 a2 a4 a5 a6 v13 σ10) else none) else none) else (lt (a8 + 1 : Int32) fun v3 =>
 k24 a0 a1 a2 a4 a5 a6 v3 σ))
def s_X4_addReduced_24 (F : Nat) : Nat → Int32 → Int32 → Int32 → Int32 → Int64 → Int32 → St → Option (Unit × St) := lp (fun _ _ _ _ _ _ _ _ => none) (sb_X4_addReduced_24 ) F
set_option maxHeartbeats 4000000 in
set_option maxRecDepth 100000 in
theorem e_X4_addReduced_24 {r : Unit} {σ' : St} (F : Nat) : ∀ {a0 : Nat} {a1 : Int32} {a2 : Int32} {a4 : Int32} {a5 : Int32} {a6 : Int64} {a8 : Int32} {σ : St}, s_X4_addReduced_24 F a0 a1 a2 a4 a5 a6 a8 σ = some (r, σ') → Ev M_X4_addReduced (2) 24 [(0, .ref a0), (1, .int (a1)), (2, .int (a2)), (4, .int (a4)), (5, .int (a5)), (6, .long (a6)), (8, .int (a8))] [] σ none σ' := by
  induction F with
  | zero => intro a0 a1 a2 a4 a5 a6 a8 σ h; cases h
  | succ F ih =>
    intro a0 a1 a2 a4 a5 a6 a8 σ h
    change sb_X4_addReduced_24  (s_X4_addReduced_24 F) a0 a1 a2 a4 a5 a6 a8 σ = some (r, σ') at h
    unfold sb_X4_addReduced_24 at h
    have hk24 := @ih
    refine ev_iload 6 dX4_addReduced_24 rfl ?_
    refine ev_iconst (v := 4) dX4_addReduced_26 (by decide) ?_
    rcases it_some h with ⟨c1, h⟩ | ⟨c1, h⟩
    · refine ev_icmp_ge (tgt := 67) dX4_addReduced_27 rfl c1 ?_
      exact ev_retV dX4_addReduced_67 rfl h
    · refine ev_icmp_ge_n 67 dX4_addReduced_27 rfl c1 ?_
      refine ev_iload 6 dX4_addReduced_30 rfl ?_
      refine ev_iload 4 dX4_addReduced_32 rfl ?_
      refine ev_iand dX4_addReduced_34 ?_
      rcases it_some h with ⟨c2, h⟩ | ⟨c2, h⟩
      · refine ev_if_ne_n 61 dX4_addReduced_35 rfl c2 ?_
        refine ev_aload_nR 0 dX4_addReduced_38 rfl ?_
        refine ev_iload_n 1 dX4_addReduced_39 rfl ?_
        refine ev_iload 6 dX4_addReduced_40 rfl ?_
        refine ev_aload_nR 0 dX4_addReduced_42 rfl ?_
        refine ev_iload_n 2 dX4_addReduced_43 rfl ?_
        refine ev_iload 6 dX4_addReduced_44 rfl ?_
        refine ev_iload 4 dX4_addReduced_46 rfl ?_
        refine ev_ior dX4_addReduced_48 ?_
        obtain ⟨g5, h⟩ := gd_some h
        obtain ⟨r8, σ6, e7, h⟩ := bd_some h
        refine ev_invVl (As := [.int (a2), .int (a8 ||| a5)]) (st := [.int (a8), .int (a1), .ref a0]) dX4_addReduced_49 cb_X4_wordAt tp_568 tp_570 tp_25 kf4 rfl (by omega) g5 rfl rfl (Nat.le_of_ble_eq_true rfl) (x_X4_wordAt e7) ?_
        refine ev_iload 3 dX4_addReduced_52 rfl ?_
        refine ev_lushr dX4_addReduced_54 ?_
        refine ev_lload 5 dX4_addReduced_55 rfl ?_
        refine ev_land dX4_addReduced_57 ?_
        obtain ⟨g9, h⟩ := gd_some h
        obtain ⟨r12, σ10, e11, h⟩ := bd_some h
        refine ev_invVv (As := [.int (a1), .int (a8), .long (((r8.toUInt64 >>> (a4.toInt64.toUInt64 &&& Int64.toUInt64 63)).toInt64) &&& a6)]) (st := []) dX4_addReduced_58 cb_X4_orWord tp_556 tp_558 tp_22 kf4 rfl (by omega) g9 rfl rfl (Nat.le_of_ble_eq_true rfl) (x_X4_orWord e11) ?_
        obtain ⟨v13, e14, h⟩ := lt_some h
        refine ev_iinc (v := v13) (ls' := [(8, .int (v13)), (0, .ref a0), (1, .int (a1)), (2, .int (a2)), (4, .int (a4)), (5, .int (a5)), (6, .long (a6))]) 6 dX4_addReduced_61 rfl e14.symm (by decide) rfl ?_
        refine ev_goto (tgt := 24) dX4_addReduced_64 rfl ?_
        refine ev_sub (ls' := [(0, .ref a0), (1, .int (a1)), (2, .int (a2)), (4, .int (a4)), (5, .int (a5)), (6, .long (a6)), (8, .int (v13))]) [1, 2, 3, 4, 5, 6, 0] rfl ?_
        exact hk24 h
      · refine ev_if_ne (tgt := 61) dX4_addReduced_35 rfl c2 ?_
        obtain ⟨v3, e4, h⟩ := lt_some h
        refine ev_iinc (v := v3) (ls' := [(8, .int (v3)), (0, .ref a0), (1, .int (a1)), (2, .int (a2)), (4, .int (a4)), (5, .int (a5)), (6, .long (a6))]) 6 dX4_addReduced_61 rfl e4.symm (by decide) rfl ?_
        refine ev_goto (tgt := 24) dX4_addReduced_64 rfl ?_
        refine ev_sub (ls' := [(0, .ref a0), (1, .int (a1)), (2, .int (a2)), (4, .int (a4)), (5, .int (a5)), (6, .long (a6)), (8, .int (v3))]) [1, 2, 3, 4, 5, 6, 0] rfl ?_
        exact hk24 h
def s_X4_addReduced (a0 : Nat) (a1 : Int32) (a2 : Int32) (a3 : Int32) (σ : St) : Option (Unit × St) :=
 lt (a3 &&& 63 : Int32) fun v15 =>
 lt (a3 >>> (6 &&& 31) : Int32) fun v17 =>
 if isO σ 4 a0 = true then (op (sP σ a0 3) fun p20 =>
 if isO σ 14 p20 = true then (if inR v15 (alen σ p20) = true then (lt (sL σ p20 v15.toNatClampNeg : Int64) fun v24 =>
 s_X4_addReduced_24 16000 a0 a1 a2 v15 v17 v24 0 σ) else none) else none) else none
set_option maxHeartbeats 4000000 in
set_option maxRecDepth 100000 in
theorem x_X4_addReduced {a0 : Nat} {a1 : Int32} {a2 : Int32} {a3 : Int32} {σ : St} {r : Unit} {σ' : St} (h : s_X4_addReduced a0 a1 a2 a3 σ = some (r, σ')) : Ex M_X4_addReduced (2) [.ref a0, .int (a1), .int (a2), .int (a3)] σ none σ' := by
  unfold s_X4_addReduced at h
  refine ex_of (by decide) rfl (Nat.le_of_ble_eq_true rfl) ?_
  show Ev _ _ 0 [(0, .ref a0), (1, .int (a1)), (2, .int (a2)), (3, .int (a3))] [] _ _ _
  refine ev_iload_n 3 dX4_addReduced_0 rfl ?_
  refine ev_bipush (v := 63) dX4_addReduced_1 (by decide) ?_
  refine ev_iand dX4_addReduced_3 ?_
  obtain ⟨v15, e16, h⟩ := lt_some h
  refine ev_topI e16 ?_
  refine ev_istore (ls' := [(4, .int (v15)), (0, .ref a0), (1, .int (a1)), (2, .int (a2)), (3, .int (a3))]) dX4_addReduced_4 (by decide) rfl ?_
  refine ev_iload_n 4 dX4_addReduced_6 rfl ?_
  refine ev_bipush (v := 6) dX4_addReduced_7 (by decide) ?_
  refine ev_ishr dX4_addReduced_9 ?_
  obtain ⟨v17, e18, h⟩ := lt_some h
  refine ev_topI e18 ?_
  refine ev_istore (ls' := [(5, .int (v17)), (4, .int (v15)), (0, .ref a0), (1, .int (a1)), (2, .int (a2)), (3, .int (a3))]) dX4_addReduced_10 (by decide) rfl ?_
  refine ev_aload_nR 2 dX4_addReduced_12 rfl ?_
  obtain ⟨g19, h⟩ := gd_some h
  obtain ⟨p20, e21, h⟩ := op_some h
  refine ev_getPR dX4_addReduced_13 fl_X4_18 rfl g19 e21 ?_
  refine ev_iload 1 dX4_addReduced_16 rfl ?_
  obtain ⟨g22, h⟩ := gd_some h
  obtain ⟨g23, h⟩ := gd_some h
  refine ev_lald dX4_addReduced_18 (isA_O g22) g23 ?_
  obtain ⟨v24, e25, h⟩ := lt_some h
  refine ev_topL e25 ?_
  refine ev_lstore (ls' := [(6, .long (v24)), (5, .int (v17)), (4, .int (v15)), (0, .ref a0), (1, .int (a1)), (2, .int (a2)), (3, .int (a3))]) dX4_addReduced_19 (by decide) rfl ?_
  refine ev_iconst (v := 0) dX4_addReduced_21 (by decide) ?_
  refine ev_istore (ls' := [(8, .int (0)), (6, .long (v24)), (5, .int (v17)), (4, .int (v15)), (0, .ref a0), (1, .int (a1)), (2, .int (a2)), (3, .int (a3))]) dX4_addReduced_22 (by decide) rfl ?_
  refine ev_sub (ls' := [(0, .ref a0), (1, .int (a1)), (2, .int (a2)), (4, .int (v15)), (5, .int (v17)), (6, .long (v24)), (8, .int (0))]) [4, 5, 6, 3, 2, 1, 0] rfl ?_
  exact e_X4_addReduced_24 16000 h
def sb_X4_addAtom_30 (k3 : Nat → Int32 → Int32 → Int32 → Int32 → St → Option (Unit × St)) (k30 : Nat → Int32 → Int32 → Int32 → Int32 → Int32 → Int32 → St → Option (Unit × St)) (a0 : Nat) (a1 : Int32) (a2 : Int32) (a3 : Int32) (a4 : Int32) (a5 : Int32) (a6 : Int32) (σ : St) : Option (Unit × St) :=
 if (3 : Int32) ≤ a6 then (lt (a4 + 1 : Int32) fun v2 =>
 k3 a0 a1 a2 a3 v2 σ) else (if isO σ 4 a0 = true then (op (sP σ a0 0) fun p5 =>
 if isO σ 3 p5 = true then (bd (s_X3_hasHead p5 a4 a6 a2 σ) fun r10 σ8 =>
 if r10 = 0 then (lt (a6 + 1 : Int32) fun v35 =>
 k30 a0 a1 a2 a3 a4 a5 v35 σ8) else (if isO σ8 4 a0 = true then (op (sP σ8 a0 0) fun p13 =>
 if isO σ8 3 p13 = true then (bd (s_X3_body p13 a4 a6 σ8) fun r18 σ16 =>
 if r18 = ((-1)) then (if isO σ16 4 a0 = true then (bd (s_X4_add a0 a1 a5 σ16) fun r32 σ30 =>
 lt (a6 + 1 : Int32) fun v33 =>
 k30 a0 a1 a2 a3 a4 a5 v33 σ30) else none) else (bd (s_X4_rowOf r18 (a3 - 1) σ16) fun r22 σ20 =>
 if isO σ20 4 a0 = true then (bd (s_X4_addMoved a0 a1 r22 a5 σ20) fun r26 σ24 =>
 lt (a6 + 1 : Int32) fun v27 =>
 k30 a0 a1 a2 a3 a4 a5 v27 σ24) else none)) else none) else none)) else none) else none)
def s_X4_addAtom_30 (k3 : Nat → Int32 → Int32 → Int32 → Int32 → St → Option (Unit × St)) (F : Nat) : Nat → Int32 → Int32 → Int32 → Int32 → Int32 → Int32 → St → Option (Unit × St) := lp (fun _ _ _ _ _ _ _ _ => none) (sb_X4_addAtom_30 k3) F
set_option maxHeartbeats 4000000 in
set_option maxRecDepth 100000 in
theorem e_X4_addAtom_30 {r : Unit} {σ' : St} {k3 : Nat → Int32 → Int32 → Int32 → Int32 → St → Option (Unit × St)} (hk3 : ∀ {y0 : Nat} {y1 : Int32} {y2 : Int32} {y3 : Int32} {y4 : Int32} {σ : St}, k3 y0 y1 y2 y3 y4 σ = some (r, σ') → Ev M_X4_addAtom (3) 3 [(0, .ref y0), (1, .int (y1)), (2, .int (y2)), (3, .int (y3)), (4, .int (y4))] [] σ none σ') (F : Nat) : ∀ {a0 : Nat} {a1 : Int32} {a2 : Int32} {a3 : Int32} {a4 : Int32} {a5 : Int32} {a6 : Int32} {σ : St}, s_X4_addAtom_30 k3 F a0 a1 a2 a3 a4 a5 a6 σ = some (r, σ') → Ev M_X4_addAtom (3) 30 [(0, .ref a0), (1, .int (a1)), (2, .int (a2)), (3, .int (a3)), (4, .int (a4)), (5, .int (a5)), (6, .int (a6))] [] σ none σ' := by
  induction F with
  | zero => intro a0 a1 a2 a3 a4 a5 a6 σ h; cases h
  | succ F ih =>
    intro a0 a1 a2 a3 a4 a5 a6 σ h
    change sb_X4_addAtom_30 k3 (s_X4_addAtom_30 k3 F) a0 a1 a2 a3 a4 a5 a6 σ = some (r, σ') at h
    unfold sb_X4_addAtom_30 at h
    have hk30 := @ih
    refine ev_iload 6 dX4_addAtom_30 rfl ?_
    refine ev_iconst (v := 3) dX4_addAtom_32 (by decide) ?_
    rcases it_some h with ⟨c1, h⟩ | ⟨c1, h⟩
    · refine ev_icmp_ge (tgt := 104) dX4_addAtom_33 rfl c1 ?_
      obtain ⟨v2, e3, h⟩ := lt_some h
      refine ev_iinc (v := v2) (ls' := [(4, .int (v2)), (0, .ref a0), (1, .int (a1)), (2, .int (a2)), (3, .int (a3)), (5, .int (a5)), (6, .int (a6))]) 4 dX4_addAtom_104 rfl e3.symm (by decide) rfl ?_
      refine ev_goto (tgt := 3) dX4_addAtom_107 rfl ?_
      refine ev_sub (ls' := [(0, .ref a0), (1, .int (a1)), (2, .int (a2)), (3, .int (a3)), (4, .int (v2))]) [1, 2, 3, 4, 0] rfl ?_
      exact hk3 h
    · refine ev_icmp_ge_n 104 dX4_addAtom_33 rfl c1 ?_
      refine ev_aload_nR 0 dX4_addAtom_36 rfl ?_
      obtain ⟨g4, h⟩ := gd_some h
      obtain ⟨p5, e6, h⟩ := op_some h
      refine ev_getPR dX4_addAtom_37 fl_X4_25 rfl g4 e6 ?_
      refine ev_iload 4 dX4_addAtom_40 rfl ?_
      refine ev_iload 6 dX4_addAtom_42 rfl ?_
      refine ev_iload_n 2 dX4_addAtom_44 rfl ?_
      obtain ⟨g7, h⟩ := gd_some h
      obtain ⟨r10, σ8, e9, h⟩ := bd_some h
      refine ev_invVi (As := [.int (a4), .int (a6), .int (a2)]) (st := []) dX4_addAtom_45 cb_X3_hasHead tp_597 tp_598 tp_599 kf3 rfl (by omega) g7 rfl rfl (Nat.le_of_ble_eq_true rfl) (x_X3_hasHead e9) ?_
      rcases it_some h with ⟨c11, h⟩ | ⟨c11, h⟩
      · refine ev_if_ne_n 54 dX4_addAtom_48 rfl c11 ?_
        refine ev_goto (tgt := 98) dX4_addAtom_51 rfl ?_
        obtain ⟨v35, e36, h⟩ := lt_some h
        refine ev_iinc (v := v35) (ls' := [(6, .int (v35)), (0, .ref a0), (1, .int (a1)), (2, .int (a2)), (3, .int (a3)), (4, .int (a4)), (5, .int (a5))]) 6 dX4_addAtom_98 rfl e36.symm (by decide) rfl ?_
        refine ev_goto (tgt := 30) dX4_addAtom_101 rfl ?_
        refine ev_sub (ls' := [(0, .ref a0), (1, .int (a1)), (2, .int (a2)), (3, .int (a3)), (4, .int (a4)), (5, .int (a5)), (6, .int (v35))]) [1, 2, 3, 4, 5, 6, 0] rfl ?_
        exact hk30 h
      · refine ev_if_ne (tgt := 54) dX4_addAtom_48 rfl c11 ?_
        refine ev_aload_nR 0 dX4_addAtom_54 rfl ?_
        obtain ⟨g12, h⟩ := gd_some h
        obtain ⟨p13, e14, h⟩ := op_some h
        refine ev_getPR dX4_addAtom_55 fl_X4_25 rfl g12 e14 ?_
        refine ev_iload 4 dX4_addAtom_58 rfl ?_
        refine ev_iload 6 dX4_addAtom_60 rfl ?_
        obtain ⟨g15, h⟩ := gd_some h
        obtain ⟨r18, σ16, e17, h⟩ := bd_some h
        refine ev_invVi (As := [.int (a4), .int (a6)]) (st := []) dX4_addAtom_62 cb_X3_body tp_601 tp_602 tp_603 kf3 rfl (by omega) g15 rfl rfl (Nat.le_of_ble_eq_true rfl) (x_X3_body e17) ?_
        refine ev_istore (ls' := [(7, .int (r18)), (0, .ref a0), (1, .int (a1)), (2, .int (a2)), (3, .int (a3)), (4, .int (a4)), (5, .int (a5)), (6, .int (a6))]) dX4_addAtom_65 (by decide) rfl ?_
        refine ev_iload 0 dX4_addAtom_67 rfl ?_
        refine ev_iconst (v := (-1)) dX4_addAtom_69 (by decide) ?_
        rcases it_some h with ⟨c19, h⟩ | ⟨c19, h⟩
        · refine ev_icmp_ne_n 83 dX4_addAtom_70 rfl c19 ?_
          refine ev_aload_nR 1 dX4_addAtom_73 rfl ?_
          refine ev_iload_n 2 dX4_addAtom_74 rfl ?_
          refine ev_iload 6 dX4_addAtom_75 rfl ?_
          obtain ⟨g29, h⟩ := gd_some h
          obtain ⟨r32, σ30, e31, h⟩ := bd_some h
          refine ev_invVv (As := [.int (a1), .int (a5)]) (st := []) dX4_addAtom_77 cb_X4_add tp_552 tp_554 tp_21 kf4 rfl (by omega) g29 rfl rfl (Nat.le_of_ble_eq_true rfl) (x_X4_add e31) ?_
          refine ev_goto (tgt := 98) dX4_addAtom_80 rfl ?_
          obtain ⟨v33, e34, h⟩ := lt_some h
          refine ev_iinc (v := v33) (ls' := [(6, .int (v33)), (7, .int (r18)), (0, .ref a0), (1, .int (a1)), (2, .int (a2)), (3, .int (a3)), (4, .int (a4)), (5, .int (a5))]) 7 dX4_addAtom_98 rfl e34.symm (by decide) rfl ?_
          refine ev_goto (tgt := 30) dX4_addAtom_101 rfl ?_
          refine ev_sub (ls' := [(0, .ref a0), (1, .int (a1)), (2, .int (a2)), (3, .int (a3)), (4, .int (a4)), (5, .int (a5)), (6, .int (v33))]) [2, 3, 4, 5, 6, 7, 0] rfl ?_
          exact hk30 h
        · refine ev_icmp_ne (tgt := 83) dX4_addAtom_70 rfl c19 ?_
          refine ev_aload_nR 1 dX4_addAtom_83 rfl ?_
          refine ev_iload_n 2 dX4_addAtom_84 rfl ?_
          refine ev_iload 0 dX4_addAtom_85 rfl ?_
          refine ev_iload_n 4 dX4_addAtom_87 rfl ?_
          refine ev_iconst (v := 1) dX4_addAtom_88 (by decide) ?_
          refine ev_isub dX4_addAtom_89 ?_
          obtain ⟨r22, σ20, e21, h⟩ := bd_some h
          refine ev_invSi (As := [.int (r18), .int (a3 - 1)]) (st := [.int (a1), .ref a0]) dX4_addAtom_90 cb_X4_rowOf tp_529 tp_530 (by omega) rfl rfl (Nat.le_of_ble_eq_true rfl) (x_X4_rowOf e21) ?_
          refine ev_iload 6 dX4_addAtom_93 rfl ?_
          obtain ⟨g23, h⟩ := gd_some h
          obtain ⟨r26, σ24, e25, h⟩ := bd_some h
          refine ev_invVv (As := [.int (a1), .int (r22), .int (a5)]) (st := []) dX4_addAtom_95 cb_X4_addMoved tp_576 tp_578 tp_27 kf4 rfl (by omega) g23 rfl rfl (Nat.le_of_ble_eq_true rfl) (x_X4_addMoved e25) ?_
          obtain ⟨v27, e28, h⟩ := lt_some h
          refine ev_iinc (v := v27) (ls' := [(6, .int (v27)), (7, .int (r18)), (0, .ref a0), (1, .int (a1)), (2, .int (a2)), (3, .int (a3)), (4, .int (a4)), (5, .int (a5))]) 7 dX4_addAtom_98 rfl e28.symm (by decide) rfl ?_
          refine ev_goto (tgt := 30) dX4_addAtom_101 rfl ?_
          refine ev_sub (ls' := [(0, .ref a0), (1, .int (a1)), (2, .int (a2)), (3, .int (a3)), (4, .int (a4)), (5, .int (a5)), (6, .int (v27))]) [2, 3, 4, 5, 6, 7, 0] rfl ?_
          exact hk30 h
def sb_X4_addAtom_3 (k3 : Nat → Int32 → Int32 → Int32 → Int32 → St → Option (Unit × St)) (a0 : Nat) (a1 : Int32) (a2 : Int32) (a3 : Int32) (a4 : Int32) (σ : St) : Option (Unit × St) :=
 if (12 : Int32) ≤ a4 then (some ((), σ)) else (if (8 : Int32) ≤ a4 then (s_X4_addAtom_30 k3 16000 a0 a1 a2 a3 a4 0 0 σ) else (lt (1 <<< (a4 &&& 31) : Int32) fun v39 =>
 s_X4_addAtom_30 k3 16000 a0 a1 a2 a3 a4 v39 0 σ))
def s_X4_addAtom_3 (F : Nat) : Nat → Int32 → Int32 → Int32 → Int32 → St → Option (Unit × St) := lp (fun _ _ _ _ _ _ => none) (sb_X4_addAtom_3 ) F
set_option maxHeartbeats 4000000 in
set_option maxRecDepth 100000 in
theorem e_X4_addAtom_3 {r : Unit} {σ' : St} (F : Nat) : ∀ {a0 : Nat} {a1 : Int32} {a2 : Int32} {a3 : Int32} {a4 : Int32} {σ : St}, s_X4_addAtom_3 F a0 a1 a2 a3 a4 σ = some (r, σ') → Ev M_X4_addAtom (3) 3 [(0, .ref a0), (1, .int (a1)), (2, .int (a2)), (3, .int (a3)), (4, .int (a4))] [] σ none σ' := by
  induction F with
  | zero => intro a0 a1 a2 a3 a4 σ h; cases h
  | succ F ih =>
    intro a0 a1 a2 a3 a4 σ h
    change sb_X4_addAtom_3  (s_X4_addAtom_3 F) a0 a1 a2 a3 a4 σ = some (r, σ') at h
    unfold sb_X4_addAtom_3 at h
    have hk3 := @ih
    refine ev_iload 4 dX4_addAtom_3 rfl ?_
    refine ev_bipush (v := 12) dX4_addAtom_5 (by decide) ?_
    rcases it_some h with ⟨c37, h⟩ | ⟨c37, h⟩
    · refine ev_icmp_ge (tgt := 110) dX4_addAtom_7 rfl c37 ?_
      exact ev_retV dX4_addAtom_110 rfl h
    · refine ev_icmp_ge_n 110 dX4_addAtom_7 rfl c37 ?_
      refine ev_iload 4 dX4_addAtom_10 rfl ?_
      refine ev_bipush (v := 8) dX4_addAtom_12 (by decide) ?_
      rcases it_some h with ⟨c38, h⟩ | ⟨c38, h⟩
      · refine ev_icmp_ge (tgt := 24) dX4_addAtom_14 rfl c38 ?_
        refine ev_iconst (v := 0) dX4_addAtom_24 (by decide) ?_
        refine ev_istore (ls' := [(5, .int (0)), (0, .ref a0), (1, .int (a1)), (2, .int (a2)), (3, .int (a3)), (4, .int (a4))]) dX4_addAtom_25 (by decide) rfl ?_
        refine ev_iconst (v := 0) dX4_addAtom_27 (by decide) ?_
        refine ev_istore (ls' := [(6, .int (0)), (5, .int (0)), (0, .ref a0), (1, .int (a1)), (2, .int (a2)), (3, .int (a3)), (4, .int (a4))]) dX4_addAtom_28 (by decide) rfl ?_
        refine ev_sub (ls' := [(0, .ref a0), (1, .int (a1)), (2, .int (a2)), (3, .int (a3)), (4, .int (a4)), (5, .int (0)), (6, .int (0))]) [2, 3, 4, 5, 6, 1, 0] rfl ?_
        exact e_X4_addAtom_30 hk3 16000 h
      · refine ev_icmp_ge_n 24 dX4_addAtom_14 rfl c38 ?_
        refine ev_iconst (v := 1) dX4_addAtom_17 (by decide) ?_
        refine ev_iload 4 dX4_addAtom_18 rfl ?_
        refine ev_ishl dX4_addAtom_20 ?_
        refine ev_goto (tgt := 25) dX4_addAtom_21 rfl ?_
        obtain ⟨v39, e40, h⟩ := lt_some h
        refine ev_topI e40 ?_
        refine ev_istore (ls' := [(5, .int (v39)), (0, .ref a0), (1, .int (a1)), (2, .int (a2)), (3, .int (a3)), (4, .int (a4))]) dX4_addAtom_25 (by decide) rfl ?_
        refine ev_iconst (v := 0) dX4_addAtom_27 (by decide) ?_
        refine ev_istore (ls' := [(6, .int (0)), (5, .int (v39)), (0, .ref a0), (1, .int (a1)), (2, .int (a2)), (3, .int (a3)), (4, .int (a4))]) dX4_addAtom_28 (by decide) rfl ?_
        refine ev_sub (ls' := [(0, .ref a0), (1, .int (a1)), (2, .int (a2)), (3, .int (a3)), (4, .int (a4)), (5, .int (v39)), (6, .int (0))]) [2, 3, 4, 5, 6, 1, 0] rfl ?_
        exact e_X4_addAtom_30 hk3 16000 h
def s_X4_addAtom (a0 : Nat) (a1 : Int32) (a2 : Int32) (a3 : Int32) (σ : St) : Option (Unit × St) :=
 s_X4_addAtom_3 16000 a0 a1 a2 a3 0 σ
set_option maxHeartbeats 4000000 in
set_option maxRecDepth 100000 in
theorem x_X4_addAtom {a0 : Nat} {a1 : Int32} {a2 : Int32} {a3 : Int32} {σ : St} {r : Unit} {σ' : St} (h : s_X4_addAtom a0 a1 a2 a3 σ = some (r, σ')) : Ex M_X4_addAtom (3) [.ref a0, .int (a1), .int (a2), .int (a3)] σ none σ' := by
  unfold s_X4_addAtom at h
  refine ex_of (by decide) rfl (Nat.le_of_ble_eq_true rfl) ?_
  show Ev _ _ 0 [(0, .ref a0), (1, .int (a1)), (2, .int (a2)), (3, .int (a3))] [] _ _ _
  refine ev_iconst (v := 0) dX4_addAtom_0 (by decide) ?_
  refine ev_istore (ls' := [(4, .int (0)), (0, .ref a0), (1, .int (a1)), (2, .int (a2)), (3, .int (a3))]) dX4_addAtom_1 (by decide) rfl ?_
  refine ev_sub (ls' := [(0, .ref a0), (1, .int (a1)), (2, .int (a2)), (3, .int (a3)), (4, .int (0))]) [1, 2, 3, 4, 0] rfl ?_
  exact e_X4_addAtom_3 16000 h
def s_X4_fillRow (a0 : Nat) (a1 : Int32) (a2 : Int32) (σ : St) : Option (Unit × St) :=
 bd (s_X4_rowOf a1 a2 σ) fun r3 σ1 =>
 if isO σ1 4 a0 = true then (op (sP σ1 a0 0) fun p5 =>
 if isO σ1 3 p5 = true then (bd (s_X3_first p5 a1 σ1) fun r10 σ8 =>
 bd (s_X4_rowOf r10 (a2 - 1) σ8) fun r13 σ11 =>
 if isO σ11 4 a0 = true then (op (sP σ11 a0 0) fun p15 =>
 if isO σ11 3 p15 = true then (bd (s_X3_second p15 a1 σ11) fun r20 σ18 =>
 bd (s_X4_rowOf r20 (a2 - 1) σ18) fun r23 σ21 =>
 if isO σ21 4 a0 = true then (bd (s_X4_clearRow a0 r3 σ21) fun r27 σ25 =>
 if isO σ25 4 a0 = true then (op (sP σ25 a0 0) fun p29 =>
 if isO σ25 3 p29 = true then (bd (s_X3_kind p29 a1 σ25) fun r34 σ32 =>
 if r34 = 33 then (if isO σ32 4 a0 = true then (bd (s_X4_has a0 r13 0 σ32) fun r39 σ37 =>
 if r39 = 0 then (some ((), σ37)) else (if isO σ37 4 a0 = true then (bd (s_X4_add a0 r3 0 σ37) fun r44 σ42 =>
 some ((), σ42)) else none)) else none) else (if r34 = 38 then (if isO σ32 4 a0 = true then (bd (s_X4_addShared a0 r3 r13 r23 σ32) fun r49 σ47 =>
 some ((), σ47)) else none) else (if r34 = 42 then (if isO σ32 4 a0 = true then (bd (s_X4_addUnions a0 r3 r13 r23 σ32) fun r54 σ52 =>
 some ((), σ52)) else none) else (if r34 = 43 then (if isO σ32 4 a0 = true then (bd (s_X4_addMoved a0 r3 r13 0 σ32) fun r59 σ57 =>
 if isO σ57 4 a0 = true then (bd (s_X4_addMoved a0 r3 r23 0 σ57) fun r63 σ61 =>
 some ((), σ61)) else none) else none) else (if r34 = 49 then (if isO σ32 4 a0 = true then (bd (s_X4_add a0 r3 0 σ32) fun r68 σ66 =>
 some ((), σ66)) else none) else (if r34 = 84 then (if isO σ32 4 a0 = true then (bd (s_X4_addAllSets a0 r3 σ32) fun r73 σ71 =>
 some ((), σ71)) else none) else (if r34 = 91 then (if isO σ32 4 a0 = true then (op (sP σ32 a0 0) fun p76 =>
 if isO σ32 3 p76 = true then (bd (s_X3_loanBit p76 a1 σ32) fun r81 σ79 =>
 if isO σ79 4 a0 = true then (bd (s_X4_addReduced a0 r3 r13 r81 σ79) fun r85 σ83 =>
 some ((), σ83)) else none) else none) else none) else (if isO σ32 4 a0 = true then (bd (s_X4_addAtom a0 r3 r34 a2 σ32) fun r89 σ87 =>
 some ((), σ87)) else none)))))))) else none) else none) else none) else none) else none) else none) else none
set_option maxHeartbeats 4000000 in
set_option maxRecDepth 100000 in
theorem x_X4_fillRow {a0 : Nat} {a1 : Int32} {a2 : Int32} {σ : St} {r : Unit} {σ' : St} (h : s_X4_fillRow a0 a1 a2 σ = some (r, σ')) : Ex M_X4_fillRow (4) [.ref a0, .int (a1), .int (a2)] σ none σ' := by
  unfold s_X4_fillRow at h
  refine ex_of (by decide) rfl (Nat.le_of_ble_eq_true rfl) ?_
  show Ev _ _ 0 [(0, .ref a0), (1, .int (a1)), (2, .int (a2))] [] _ _ _
  refine ev_iload_n 1 dX4_fillRow_0 rfl ?_
  refine ev_iload_n 2 dX4_fillRow_1 rfl ?_
  obtain ⟨r3, σ1, e2, h⟩ := bd_some h
  refine ev_invSi (As := [.int (a1), .int (a2)]) (st := []) dX4_fillRow_2 cb_X4_rowOf tp_529 tp_530 (by omega) rfl rfl (Nat.le_of_ble_eq_true rfl) (x_X4_rowOf e2) ?_
  refine ev_istore_n (ls' := [(3, .int (r3)), (0, .ref a0), (1, .int (a1)), (2, .int (a2))]) dX4_fillRow_5 (by decide) rfl ?_
  refine ev_aload_nR 1 dX4_fillRow_6 rfl ?_
  obtain ⟨g4, h⟩ := gd_some h
  obtain ⟨p5, e6, h⟩ := op_some h
  refine ev_getPR dX4_fillRow_7 fl_X4_25 rfl g4 e6 ?_
  refine ev_iload_n 2 dX4_fillRow_10 rfl ?_
  obtain ⟨g7, h⟩ := gd_some h
  obtain ⟨r10, σ8, e9, h⟩ := bd_some h
  refine ev_invVi (As := [.int (a1)]) (st := []) dX4_fillRow_11 cb_X3_first tp_532 tp_533 tp_534 kf3 rfl (by omega) g7 rfl rfl (Nat.le_of_ble_eq_true rfl) (x_X3_first e9) ?_
  refine ev_iload_n 3 dX4_fillRow_14 rfl ?_
  refine ev_iconst (v := 1) dX4_fillRow_15 (by decide) ?_
  refine ev_isub dX4_fillRow_16 ?_
  obtain ⟨r13, σ11, e12, h⟩ := bd_some h
  refine ev_invSi (As := [.int (r10), .int (a2 - 1)]) (st := []) dX4_fillRow_17 cb_X4_rowOf tp_529 tp_530 (by omega) rfl rfl (Nat.le_of_ble_eq_true rfl) (x_X4_rowOf e12) ?_
  refine ev_istore (ls' := [(4, .int (r13)), (3, .int (r3)), (0, .ref a0), (1, .int (a1)), (2, .int (a2))]) dX4_fillRow_20 (by decide) rfl ?_
  refine ev_aload_nR 2 dX4_fillRow_22 rfl ?_
  obtain ⟨g14, h⟩ := gd_some h
  obtain ⟨p15, e16, h⟩ := op_some h
  refine ev_getPR dX4_fillRow_23 fl_X4_25 rfl g14 e16 ?_
  refine ev_iload_n 3 dX4_fillRow_26 rfl ?_
  obtain ⟨g17, h⟩ := gd_some h
  obtain ⟨r20, σ18, e19, h⟩ := bd_some h
  refine ev_invVi (As := [.int (a1)]) (st := []) dX4_fillRow_27 cb_X3_second tp_540 tp_541 tp_542 kf3 rfl (by omega) g17 rfl rfl (Nat.le_of_ble_eq_true rfl) (x_X3_second e19) ?_
  refine ev_iload_n 4 dX4_fillRow_30 rfl ?_
  refine ev_iconst (v := 1) dX4_fillRow_31 (by decide) ?_
  refine ev_isub dX4_fillRow_32 ?_
  obtain ⟨r23, σ21, e22, h⟩ := bd_some h
  refine ev_invSi (As := [.int (r20), .int (a2 - 1)]) (st := []) dX4_fillRow_33 cb_X4_rowOf tp_529 tp_530 (by omega) rfl rfl (Nat.le_of_ble_eq_true rfl) (x_X4_rowOf e22) ?_
  refine ev_istore (ls' := [(5, .int (r23)), (4, .int (r13)), (3, .int (r3)), (0, .ref a0), (1, .int (a1)), (2, .int (a2))]) dX4_fillRow_36 (by decide) rfl ?_
  refine ev_aload_nR 3 dX4_fillRow_38 rfl ?_
  refine ev_iload_n 2 dX4_fillRow_39 rfl ?_
  obtain ⟨g24, h⟩ := gd_some h
  obtain ⟨r27, σ25, e26, h⟩ := bd_some h
  refine ev_invVv (As := [.int (r3)]) (st := []) dX4_fillRow_40 cb_X4_clearRow tp_544 tp_546 tp_20 kf4 rfl (by omega) g24 rfl rfl (Nat.le_of_ble_eq_true rfl) (x_X4_clearRow e26) ?_
  refine ev_aload_nR 3 dX4_fillRow_43 rfl ?_
  obtain ⟨g28, h⟩ := gd_some h
  obtain ⟨p29, e30, h⟩ := op_some h
  refine ev_getPR dX4_fillRow_44 fl_X4_25 rfl g28 e30 ?_
  refine ev_iload_n 4 dX4_fillRow_47 rfl ?_
  obtain ⟨g31, h⟩ := gd_some h
  obtain ⟨r34, σ32, e33, h⟩ := bd_some h
  refine ev_invVi (As := [.int (a1)]) (st := []) dX4_fillRow_48 cb_X3_kind tp_548 tp_549 tp_550 kf3 rfl (by omega) g31 rfl rfl (Nat.le_of_ble_eq_true rfl) (x_X3_kind e33) ?_
  refine ev_istore (ls' := [(6, .int (r34)), (5, .int (r23)), (4, .int (r13)), (3, .int (r3)), (0, .ref a0), (1, .int (a1)), (2, .int (a2))]) dX4_fillRow_51 (by decide) rfl ?_
  refine ev_iload 0 dX4_fillRow_53 rfl ?_
  rcases it_some h with ⟨c35, h⟩ | ⟨c35, h⟩
  · refine ev_lookup (off := 82) (tgt := 137) dX4_fillRow_55 (by decide) (by rw [c35]; decide) rfl ?_
    refine ev_aload_nR 4 dX4_fillRow_137 rfl ?_
    refine ev_iload 2 dX4_fillRow_138 rfl ?_
    refine ev_iconst (v := 0) dX4_fillRow_140 (by decide) ?_
    obtain ⟨g36, h⟩ := gd_some h
    obtain ⟨r39, σ37, e38, h⟩ := bd_some h
    refine ev_invVi (As := [.int (r13), .int (0)]) (st := []) dX4_fillRow_141 cb_X4_has tp_564 tp_566 tp_24 kf4 rfl (by omega) g36 rfl rfl (Nat.le_of_ble_eq_true rfl) (x_X4_has e38) ?_
    rcases it_some h with ⟨c40, h⟩ | ⟨c40, h⟩
    · refine ev_if_eq (tgt := 225) dX4_fillRow_144 rfl c40 ?_
      exact ev_retV dX4_fillRow_225 rfl h
    · refine ev_if_eq_n 225 dX4_fillRow_144 rfl c40 ?_
      refine ev_aload_nR 4 dX4_fillRow_147 rfl ?_
      refine ev_iload_n 3 dX4_fillRow_148 rfl ?_
      refine ev_iconst (v := 0) dX4_fillRow_149 (by decide) ?_
      obtain ⟨g41, h⟩ := gd_some h
      obtain ⟨r44, σ42, e43, h⟩ := bd_some h
      refine ev_invVv (As := [.int (r3), .int (0)]) (st := []) dX4_fillRow_150 cb_X4_add tp_552 tp_554 tp_21 kf4 rfl (by omega) g41 rfl rfl (Nat.le_of_ble_eq_true rfl) (x_X4_add e43) ?_
      refine ev_goto (tgt := 225) dX4_fillRow_153 rfl ?_
      exact ev_retV dX4_fillRow_225 rfl h
  rcases it_some h with ⟨c45, h⟩ | ⟨c45, h⟩
  · refine ev_lookup (off := 113) (tgt := 168) dX4_fillRow_55 (by decide) (by rw [c45]; decide) rfl ?_
    refine ev_aload_nR 4 dX4_fillRow_168 rfl ?_
    refine ev_iload_n 3 dX4_fillRow_169 rfl ?_
    refine ev_iload 2 dX4_fillRow_170 rfl ?_
    refine ev_iload 1 dX4_fillRow_172 rfl ?_
    obtain ⟨g46, h⟩ := gd_some h
    obtain ⟨r49, σ47, e48, h⟩ := bd_some h
    refine ev_invVv (As := [.int (r3), .int (r13), .int (r23)]) (st := []) dX4_fillRow_174 cb_X4_addShared tp_580 tp_582 tp_28 kf4 rfl (by omega) g46 rfl rfl (Nat.le_of_ble_eq_true rfl) (x_X4_addShared e48) ?_
    refine ev_goto (tgt := 225) dX4_fillRow_177 rfl ?_
    exact ev_retV dX4_fillRow_225 rfl h
  rcases it_some h with ⟨c50, h⟩ | ⟨c50, h⟩
  · refine ev_lookup (off := 101) (tgt := 156) dX4_fillRow_55 (by decide) (by rw [c50]; decide) rfl ?_
    refine ev_aload_nR 4 dX4_fillRow_156 rfl ?_
    refine ev_iload_n 3 dX4_fillRow_157 rfl ?_
    refine ev_iload 2 dX4_fillRow_158 rfl ?_
    refine ev_iload 1 dX4_fillRow_160 rfl ?_
    obtain ⟨g51, h⟩ := gd_some h
    obtain ⟨r54, σ52, e53, h⟩ := bd_some h
    refine ev_invVv (As := [.int (r3), .int (r13), .int (r23)]) (st := []) dX4_fillRow_162 cb_X4_addUnions tp_572 tp_574 tp_26 kf4 rfl (by omega) g51 rfl rfl (Nat.le_of_ble_eq_true rfl) (x_X4_addUnions e53) ?_
    refine ev_goto (tgt := 225) dX4_fillRow_165 rfl ?_
    exact ev_retV dX4_fillRow_225 rfl h
  rcases it_some h with ⟨c55, h⟩ | ⟨c55, h⟩
  · refine ev_lookup (off := 125) (tgt := 180) dX4_fillRow_55 (by decide) (by rw [c55]; decide) rfl ?_
    refine ev_aload_nR 4 dX4_fillRow_180 rfl ?_
    refine ev_iload_n 3 dX4_fillRow_181 rfl ?_
    refine ev_iload 2 dX4_fillRow_182 rfl ?_
    refine ev_iconst (v := 0) dX4_fillRow_184 (by decide) ?_
    obtain ⟨g56, h⟩ := gd_some h
    obtain ⟨r59, σ57, e58, h⟩ := bd_some h
    refine ev_invVv (As := [.int (r3), .int (r13), .int (0)]) (st := []) dX4_fillRow_185 cb_X4_addMoved tp_576 tp_578 tp_27 kf4 rfl (by omega) g56 rfl rfl (Nat.le_of_ble_eq_true rfl) (x_X4_addMoved e58) ?_
    refine ev_aload_nR 4 dX4_fillRow_188 rfl ?_
    refine ev_iload_n 3 dX4_fillRow_189 rfl ?_
    refine ev_iload 1 dX4_fillRow_190 rfl ?_
    refine ev_iconst (v := 0) dX4_fillRow_192 (by decide) ?_
    obtain ⟨g60, h⟩ := gd_some h
    obtain ⟨r63, σ61, e62, h⟩ := bd_some h
    refine ev_invVv (As := [.int (r3), .int (r23), .int (0)]) (st := []) dX4_fillRow_193 cb_X4_addMoved tp_576 tp_578 tp_27 kf4 rfl (by omega) g60 rfl rfl (Nat.le_of_ble_eq_true rfl) (x_X4_addMoved e62) ?_
    refine ev_goto (tgt := 225) dX4_fillRow_196 rfl ?_
    exact ev_retV dX4_fillRow_225 rfl h
  rcases it_some h with ⟨c64, h⟩ | ⟨c64, h⟩
  · refine ev_lookup (off := 65) (tgt := 120) dX4_fillRow_55 (by decide) (by rw [c64]; decide) rfl ?_
    refine ev_aload_nR 4 dX4_fillRow_120 rfl ?_
    refine ev_iload_n 3 dX4_fillRow_121 rfl ?_
    refine ev_iconst (v := 0) dX4_fillRow_122 (by decide) ?_
    obtain ⟨g65, h⟩ := gd_some h
    obtain ⟨r68, σ66, e67, h⟩ := bd_some h
    refine ev_invVv (As := [.int (r3), .int (0)]) (st := []) dX4_fillRow_123 cb_X4_add tp_552 tp_554 tp_21 kf4 rfl (by omega) g65 rfl rfl (Nat.le_of_ble_eq_true rfl) (x_X4_add e67) ?_
    refine ev_goto (tgt := 225) dX4_fillRow_126 rfl ?_
    exact ev_retV dX4_fillRow_225 rfl h
  rcases it_some h with ⟨c69, h⟩ | ⟨c69, h⟩
  · refine ev_lookup (off := 74) (tgt := 129) dX4_fillRow_55 (by decide) (by rw [c69]; decide) rfl ?_
    refine ev_aload_nR 4 dX4_fillRow_129 rfl ?_
    refine ev_iload_n 3 dX4_fillRow_130 rfl ?_
    obtain ⟨g70, h⟩ := gd_some h
    obtain ⟨r73, σ71, e72, h⟩ := bd_some h
    refine ev_invVv (As := [.int (r3)]) (st := []) dX4_fillRow_131 cb_X4_addAllSets tp_560 tp_562 tp_23 kf4 rfl (by omega) g70 rfl rfl (Nat.le_of_ble_eq_true rfl) (x_X4_addAllSets e72) ?_
    refine ev_goto (tgt := 225) dX4_fillRow_134 rfl ?_
    exact ev_retV dX4_fillRow_225 rfl h
  rcases it_some h with ⟨c74, h⟩ | ⟨c74, h⟩
  · refine ev_lookup (off := 144) (tgt := 199) dX4_fillRow_55 (by decide) (by rw [c74]; decide) rfl ?_
    refine ev_aload_nR 4 dX4_fillRow_199 rfl ?_
    refine ev_iload_n 3 dX4_fillRow_200 rfl ?_
    refine ev_iload 2 dX4_fillRow_201 rfl ?_
    refine ev_aload_nR 4 dX4_fillRow_203 rfl ?_
    obtain ⟨g75, h⟩ := gd_some h
    obtain ⟨p76, e77, h⟩ := op_some h
    refine ev_getPR dX4_fillRow_204 fl_X4_25 rfl g75 e77 ?_
    refine ev_iload_n 5 dX4_fillRow_207 rfl ?_
    obtain ⟨g78, h⟩ := gd_some h
    obtain ⟨r81, σ79, e80, h⟩ := bd_some h
    refine ev_invVi (As := [.int (a1)]) (st := [.int (r13), .int (r3), .ref a0]) dX4_fillRow_208 cb_X3_loanBit tp_584 tp_585 tp_586 kf3 rfl (by omega) g78 rfl rfl (Nat.le_of_ble_eq_true rfl) (x_X3_loanBit e80) ?_
    obtain ⟨g82, h⟩ := gd_some h
    obtain ⟨r85, σ83, e84, h⟩ := bd_some h
    refine ev_invVv (As := [.int (r3), .int (r13), .int (r81)]) (st := []) dX4_fillRow_211 cb_X4_addReduced tp_589 tp_591 tp_29 kf4 rfl (by omega) g82 rfl rfl (Nat.le_of_ble_eq_true rfl) (x_X4_addReduced e84) ?_
    refine ev_goto (tgt := 225) dX4_fillRow_214 rfl ?_
    exact ev_retV dX4_fillRow_225 rfl h
  refine ev_lookup (off := 162) (tgt := 217) dX4_fillRow_55 (by decide) ?_ rfl ?_
  · simp only [Op.lookupswitch.offset_cons, Op.lookupswitch.offset_nil]
    rw [if_neg (fun q => ne_toInt c35 q.symm)]
    rw [if_neg (fun q => ne_toInt c45 q.symm)]
    rw [if_neg (fun q => ne_toInt c50 q.symm)]
    rw [if_neg (fun q => ne_toInt c55 q.symm)]
    rw [if_neg (fun q => ne_toInt c64 q.symm)]
    rw [if_neg (fun q => ne_toInt c69 q.symm)]
    rw [if_neg (fun q => ne_toInt c74 q.symm)]
  · refine ev_aload_nR 4 dX4_fillRow_217 rfl ?_
    refine ev_iload_n 3 dX4_fillRow_218 rfl ?_
    refine ev_iload 0 dX4_fillRow_219 rfl ?_
    refine ev_iload_n 6 dX4_fillRow_221 rfl ?_
    obtain ⟨g86, h⟩ := gd_some h
    obtain ⟨r89, σ87, e88, h⟩ := bd_some h
    refine ev_invVv (As := [.int (r3), .int (r34), .int (a2)]) (st := []) dX4_fillRow_222 cb_X4_addAtom tp_593 tp_595 tp_30 kf4 rfl (by omega) g86 rfl rfl (Nat.le_of_ble_eq_true rfl) (x_X4_addAtom e88) ?_
    exact ev_retV dX4_fillRow_225 rfl h
def sb_X4_hasGrown_18 (k18 : Nat → Int32 → Int32 → Int32 → St → Option (Int32 × St)) (a0 : Nat) (a3 : Int32) (a4 : Int32) (a5 : Int32) (σ : St) : Option (Int32 × St) :=
 if (4 : Int32) ≤ a5 then (some (0, σ)) else (if isO σ 4 a0 = true then (bd (s_X4_wordAt a0 a3 a5 σ) fun r5 σ3 =>
 if isO σ3 4 a0 = true then (bd (s_X4_wordAt a0 a4 a5 σ3) fun r9 σ7 =>
 if (lg_cmp r5 r9) = 0 then (lt (a5 + 1 : Int32) fun v11 =>
 k18 a0 a3 a4 v11 σ7) else (some (1, σ7))) else none) else none)
def s_X4_hasGrown_18 (F : Nat) : Nat → Int32 → Int32 → Int32 → St → Option (Int32 × St) := lp (fun _ _ _ _ _ => none) (sb_X4_hasGrown_18 ) F
set_option maxHeartbeats 4000000 in
set_option maxRecDepth 100000 in
theorem e_X4_hasGrown_18 {r : Int32} {σ' : St} (F : Nat) : ∀ {a0 : Nat} {a3 : Int32} {a4 : Int32} {a5 : Int32} {σ : St}, s_X4_hasGrown_18 F a0 a3 a4 a5 σ = some (r, σ') → Ev M_X4_hasGrown (2) 18 [(0, .ref a0), (3, .int (a3)), (4, .int (a4)), (5, .int (a5))] [] σ (some (.int r)) σ' := by
  induction F with
  | zero => intro a0 a3 a4 a5 σ h; cases h
  | succ F ih =>
    intro a0 a3 a4 a5 σ h
    change sb_X4_hasGrown_18  (s_X4_hasGrown_18 F) a0 a3 a4 a5 σ = some (r, σ') at h
    unfold sb_X4_hasGrown_18 at h
    have hk18 := @ih
    refine ev_iload 3 dX4_hasGrown_18 rfl ?_
    refine ev_iconst (v := 4) dX4_hasGrown_20 (by decide) ?_
    rcases it_some h with ⟨c1, h⟩ | ⟨c1, h⟩
    · refine ev_icmp_ge (tgt := 51) dX4_hasGrown_21 rfl c1 ?_
      refine ev_iconst (v := 0) dX4_hasGrown_51 (by decide) ?_
      exact ev_retI .boolean dX4_hasGrown_52 rfl rfl h
    · refine ev_icmp_ge_n 51 dX4_hasGrown_21 rfl c1 ?_
      refine ev_aload_nR 0 dX4_hasGrown_24 rfl ?_
      refine ev_iload_n 1 dX4_hasGrown_25 rfl ?_
      refine ev_iload 3 dX4_hasGrown_26 rfl ?_
      obtain ⟨g2, h⟩ := gd_some h
      obtain ⟨r5, σ3, e4, h⟩ := bd_some h
      refine ev_invVl (As := [.int (a3), .int (a5)]) (st := []) dX4_hasGrown_28 cb_X4_wordAt tp_568 tp_570 tp_25 kf4 rfl (by omega) g2 rfl rfl (Nat.le_of_ble_eq_true rfl) (x_X4_wordAt e4) ?_
      refine ev_aload_nR 0 dX4_hasGrown_31 rfl ?_
      refine ev_iload 2 dX4_hasGrown_32 rfl ?_
      refine ev_iload 3 dX4_hasGrown_34 rfl ?_
      obtain ⟨g6, h⟩ := gd_some h
      obtain ⟨r9, σ7, e8, h⟩ := bd_some h
      refine ev_invVl (As := [.int (a4), .int (a5)]) (st := [.long (r5)]) dX4_hasGrown_36 cb_X4_wordAt tp_568 tp_570 tp_25 kf4 rfl (by omega) g6 rfl rfl (Nat.le_of_ble_eq_true rfl) (x_X4_wordAt e8) ?_
      refine ev_lcmp dX4_hasGrown_39 ?_
      rcases it_some h with ⟨c10, h⟩ | ⟨c10, h⟩
      · refine ev_if_eq (tgt := 45) dX4_hasGrown_40 rfl c10 ?_
        obtain ⟨v11, e12, h⟩ := lt_some h
        refine ev_iinc (v := v11) (ls' := [(5, .int (v11)), (0, .ref a0), (3, .int (a3)), (4, .int (a4))]) 3 dX4_hasGrown_45 rfl e12.symm (by decide) rfl ?_
        refine ev_goto (tgt := 18) dX4_hasGrown_48 rfl ?_
        refine ev_sub (ls' := [(0, .ref a0), (3, .int (a3)), (4, .int (a4)), (5, .int (v11))]) [1, 2, 3, 0] rfl ?_
        exact hk18 h
      · refine ev_if_eq_n 45 dX4_hasGrown_40 rfl c10 ?_
        refine ev_iconst (v := 1) dX4_hasGrown_43 (by decide) ?_
        exact ev_retI .boolean dX4_hasGrown_44 rfl rfl h
def s_X4_hasGrown (a0 : Nat) (a1 : Int32) (a2 : Int32) (σ : St) : Option (Int32 × St) :=
 bd (s_X4_rowOf a1 a2 σ) fun r15 σ13 =>
 bd (s_X4_rowOf a1 (a2 - 1) σ13) fun r18 σ16 =>
 s_X4_hasGrown_18 16000 a0 r15 r18 0 σ16
set_option maxHeartbeats 4000000 in
set_option maxRecDepth 100000 in
theorem x_X4_hasGrown {a0 : Nat} {a1 : Int32} {a2 : Int32} {σ : St} {r : Int32} {σ' : St} (h : s_X4_hasGrown a0 a1 a2 σ = some (r, σ')) : Ex M_X4_hasGrown (2) [.ref a0, .int (a1), .int (a2)] σ (some (.int r)) σ' := by
  unfold s_X4_hasGrown at h
  refine ex_of (by decide) rfl (Nat.le_of_ble_eq_true rfl) ?_
  show Ev _ _ 0 [(0, .ref a0), (1, .int (a1)), (2, .int (a2))] [] _ _ _
  refine ev_iload_n 1 dX4_hasGrown_0 rfl ?_
  refine ev_iload_n 2 dX4_hasGrown_1 rfl ?_
  obtain ⟨r15, σ13, e14, h⟩ := bd_some h
  refine ev_invSi (As := [.int (a1), .int (a2)]) (st := []) dX4_hasGrown_2 cb_X4_rowOf tp_529 tp_530 (by omega) rfl rfl (Nat.le_of_ble_eq_true rfl) (x_X4_rowOf e14) ?_
  refine ev_istore_n (ls' := [(3, .int (r15)), (0, .ref a0), (1, .int (a1)), (2, .int (a2))]) dX4_hasGrown_5 (by decide) rfl ?_
  refine ev_iload_n 2 dX4_hasGrown_6 rfl ?_
  refine ev_iload_n 3 dX4_hasGrown_7 rfl ?_
  refine ev_iconst (v := 1) dX4_hasGrown_8 (by decide) ?_
  refine ev_isub dX4_hasGrown_9 ?_
  obtain ⟨r18, σ16, e17, h⟩ := bd_some h
  refine ev_invSi (As := [.int (a1), .int (a2 - 1)]) (st := []) dX4_hasGrown_10 cb_X4_rowOf tp_529 tp_530 (by omega) rfl rfl (Nat.le_of_ble_eq_true rfl) (x_X4_rowOf e17) ?_
  refine ev_istore (ls' := [(4, .int (r18)), (3, .int (r15)), (0, .ref a0), (1, .int (a1)), (2, .int (a2))]) dX4_hasGrown_13 (by decide) rfl ?_
  refine ev_iconst (v := 0) dX4_hasGrown_15 (by decide) ?_
  refine ev_istore (ls' := [(5, .int (0)), (4, .int (r18)), (3, .int (r15)), (0, .ref a0), (1, .int (a1)), (2, .int (a2))]) dX4_hasGrown_16 (by decide) rfl ?_
  refine ev_sub (ls' := [(0, .ref a0), (3, .int (r15)), (4, .int (r18)), (5, .int (0))]) [3, 2, 1, 0] rfl ?_
  exact e_X4_hasGrown_18 16000 h
def s_X4_compute_62 (k13 : Nat → Int32 → Int32 → St → Option (Unit × St)) (k27 : Nat → Int32 → Int32 → Int32 → St → Option (Unit × St)) (a0 : Nat) (a2 : Int32) (a3 : Int32) (t0 : Int32) (σ : St) : Option (Unit × St) :=
 lt (a3 + 1 : Int32) fun v1 =>
 k27 a0 t0 a2 v1 σ
set_option maxHeartbeats 4000000 in
set_option maxRecDepth 100000 in
theorem e_X4_compute_62 {r : Unit} {σ' : St} {k13 : Nat → Int32 → Int32 → St → Option (Unit × St)} {k27 : Nat → Int32 → Int32 → Int32 → St → Option (Unit × St)} (hk13 : ∀ {y0 : Nat} {y1 : Int32} {y2 : Int32} {σ : St}, k13 y0 y1 y2 σ = some (r, σ') → Ev M_X4_compute (5) 13 [(0, .ref y0), (1, .int (y1)), (2, .int (y2))] [] σ none σ') (hk27 : ∀ {y0 : Nat} {y1 : Int32} {y2 : Int32} {y3 : Int32} {σ : St}, k27 y0 y1 y2 y3 σ = some (r, σ') → Ev M_X4_compute (5) 27 [(0, .ref y0), (1, .int (y1)), (2, .int (y2)), (3, .int (y3))] [] σ none σ') : ∀ {a0 : Nat} {a2 : Int32} {a3 : Int32} {t0 : Int32} {σ : St}, s_X4_compute_62 k13 k27 a0 a2 a3 t0 σ = some (r, σ') → Ev M_X4_compute (5) 62 [(0, .ref a0), (2, .int (a2)), (3, .int (a3))] [.int (t0)] σ none σ' := by
  intro a0 a2 a3 t0 σ h
  unfold s_X4_compute_62 at h
  refine ev_istore_n (ls' := [(1, .int (t0)), (0, .ref a0), (2, .int (a2)), (3, .int (a3))]) dX4_compute_62 (by decide) rfl ?_
  obtain ⟨v1, e2, h⟩ := lt_some h
  refine ev_iinc (v := v1) (ls' := [(3, .int (v1)), (1, .int (t0)), (0, .ref a0), (2, .int (a2))]) 3 dX4_compute_63 rfl e2.symm (by decide) rfl ?_
  refine ev_goto (tgt := 27) dX4_compute_66 rfl ?_
  refine ev_sub (ls' := [(0, .ref a0), (1, .int (t0)), (2, .int (a2)), (3, .int (v1))]) [2, 1, 3, 0] rfl ?_
  exact hk27 h
def sb_X4_compute_27 (k13 : Nat → Int32 → Int32 → St → Option (Unit × St)) (k27 : Nat → Int32 → Int32 → Int32 → St → Option (Unit × St)) (a0 : Nat) (a1 : Int32) (a2 : Int32) (a3 : Int32) (σ : St) : Option (Unit × St) :=
 if isO σ 4 a0 = true then (op (sP σ a0 0) fun p4 =>
 if isO σ 3 p4 = true then (bd (s_X3_nodes p4 σ) fun r9 σ7 =>
 if r9 ≤ a3 then (if isO σ7 4 a0 = true then (lt (setI σ7 a0 4 a2) fun σ12 =>
 lt (a2 + 1 : Int32) fun v14 =>
 k13 a0 a1 v14 σ12) else none) else (if isO σ7 4 a0 = true then (bd (s_X4_fillRow a0 a3 a2 σ7) fun r19 σ17 =>
 if a1 = 0 then (if isO σ17 4 a0 = true then (bd (s_X4_hasGrown a0 a3 a2 σ17) fun r24 σ22 =>
 if r24 = 0 then (s_X4_compute_62 k13 k27 a0 a2 a3 0 σ22) else (s_X4_compute_62 k13 k27 a0 a2 a3 1 σ22)) else none) else (s_X4_compute_62 k13 k27 a0 a2 a3 1 σ17)) else none)) else none) else none
def s_X4_compute_27 (k13 : Nat → Int32 → Int32 → St → Option (Unit × St)) (F : Nat) : Nat → Int32 → Int32 → Int32 → St → Option (Unit × St) := lp (fun _ _ _ _ _ => none) (sb_X4_compute_27 k13) F
set_option maxHeartbeats 4000000 in
set_option maxRecDepth 100000 in
theorem e_X4_compute_27 {r : Unit} {σ' : St} {k13 : Nat → Int32 → Int32 → St → Option (Unit × St)} (hk13 : ∀ {y0 : Nat} {y1 : Int32} {y2 : Int32} {σ : St}, k13 y0 y1 y2 σ = some (r, σ') → Ev M_X4_compute (5) 13 [(0, .ref y0), (1, .int (y1)), (2, .int (y2))] [] σ none σ') (F : Nat) : ∀ {a0 : Nat} {a1 : Int32} {a2 : Int32} {a3 : Int32} {σ : St}, s_X4_compute_27 k13 F a0 a1 a2 a3 σ = some (r, σ') → Ev M_X4_compute (5) 27 [(0, .ref a0), (1, .int (a1)), (2, .int (a2)), (3, .int (a3))] [] σ none σ' := by
  induction F with
  | zero => intro a0 a1 a2 a3 σ h; cases h
  | succ F ih =>
    intro a0 a1 a2 a3 σ h
    change sb_X4_compute_27 k13 (s_X4_compute_27 k13 F) a0 a1 a2 a3 σ = some (r, σ') at h
    unfold sb_X4_compute_27 at h
    have hk27 := @ih
    refine ev_iload_n 3 dX4_compute_27 rfl ?_
    refine ev_aload_nR 0 dX4_compute_28 rfl ?_
    obtain ⟨g3, h⟩ := gd_some h
    obtain ⟨p4, e5, h⟩ := op_some h
    refine ev_getPR dX4_compute_29 fl_X4_25 rfl g3 e5 ?_
    obtain ⟨g6, h⟩ := gd_some h
    obtain ⟨r9, σ7, e8, h⟩ := bd_some h
    refine ev_invVi (As := []) (st := [.int (a3)]) dX4_compute_32 cb_X3_nodes tp_524 tp_401 tp_402 kf3 rfl (by omega) g6 rfl rfl (Nat.le_of_ble_eq_true rfl) (x_X3_nodes e8) ?_
    rcases it_some h with ⟨c10, h⟩ | ⟨c10, h⟩
    · refine ev_icmp_ge (tgt := 69) dX4_compute_35 rfl c10 ?_
      refine ev_aload_nR 0 dX4_compute_69 rfl ?_
      refine ev_iload_n 2 dX4_compute_70 rfl ?_
      obtain ⟨g11, h⟩ := gd_some h
      obtain ⟨σ12, e13, h⟩ := lt_some h
      refine ev_putI dX4_compute_71 fl_X4_21 rfl (Or.inl rfl) g11 ⟨rfl, rfl⟩ ?_
      refine ev_st e13 ?_
      obtain ⟨v14, e15, h⟩ := lt_some h
      refine ev_iinc (v := v14) (ls' := [(2, .int (v14)), (0, .ref a0), (1, .int (a1)), (3, .int (a3))]) 2 dX4_compute_74 rfl e15.symm (by decide) rfl ?_
      refine ev_goto (tgt := 13) dX4_compute_77 rfl ?_
      refine ev_sub (ls' := [(0, .ref a0), (1, .int (a1)), (2, .int (v14))]) [1, 2, 0] rfl ?_
      exact hk13 h
    · refine ev_icmp_ge_n 69 dX4_compute_35 rfl c10 ?_
      refine ev_aload_nR 0 dX4_compute_38 rfl ?_
      refine ev_iload_n 3 dX4_compute_39 rfl ?_
      refine ev_iload_n 2 dX4_compute_40 rfl ?_
      obtain ⟨g16, h⟩ := gd_some h
      obtain ⟨r19, σ17, e18, h⟩ := bd_some h
      refine ev_invVv (As := [.int (a3), .int (a2)]) (st := []) dX4_compute_41 cb_X4_fillRow tp_525 tp_527 tp_18 kf4 rfl (by omega) g16 rfl rfl (Nat.le_of_ble_eq_true rfl) (x_X4_fillRow e18) ?_
      refine ev_iload_n 1 dX4_compute_44 rfl ?_
      rcases it_some h with ⟨c20, h⟩ | ⟨c20, h⟩
      · refine ev_if_ne_n 57 dX4_compute_45 rfl c20 ?_
        refine ev_aload_nR 0 dX4_compute_48 rfl ?_
        refine ev_iload_n 3 dX4_compute_49 rfl ?_
        refine ev_iload_n 2 dX4_compute_50 rfl ?_
        obtain ⟨g21, h⟩ := gd_some h
        obtain ⟨r24, σ22, e23, h⟩ := bd_some h
        refine ev_invVi (As := [.int (a3), .int (a2)]) (st := []) dX4_compute_51 cb_X4_hasGrown tp_605 tp_607 tp_31 kf4 rfl (by omega) g21 rfl rfl (Nat.le_of_ble_eq_true rfl) (x_X4_hasGrown e23) ?_
        rcases it_some h with ⟨c25, h⟩ | ⟨c25, h⟩
        · refine ev_if_eq (tgt := 61) dX4_compute_54 rfl c25 ?_
          refine ev_iconst (v := 0) dX4_compute_61 (by decide) ?_
          refine ev_sub (ls' := [(0, .ref a0), (2, .int (a2)), (3, .int (a3))]) [0, 2, 3] rfl ?_
          exact e_X4_compute_62 hk13 hk27 h
        · refine ev_if_eq_n 61 dX4_compute_54 rfl c25 ?_
          refine ev_iconst (v := 1) dX4_compute_57 (by decide) ?_
          refine ev_goto (tgt := 62) dX4_compute_58 rfl ?_
          refine ev_sub (ls' := [(0, .ref a0), (2, .int (a2)), (3, .int (a3))]) [0, 2, 3] rfl ?_
          exact e_X4_compute_62 hk13 hk27 h
      · refine ev_if_ne (tgt := 57) dX4_compute_45 rfl c20 ?_
        refine ev_iconst (v := 1) dX4_compute_57 (by decide) ?_
        refine ev_goto (tgt := 62) dX4_compute_58 rfl ?_
        refine ev_sub (ls' := [(0, .ref a0), (2, .int (a2)), (3, .int (a3))]) [0, 2, 3] rfl ?_
        exact e_X4_compute_62 hk13 hk27 h
def sb_X4_compute_13 (k13 : Nat → Int32 → Int32 → St → Option (Unit × St)) (a0 : Nat) (a1 : Int32) (a2 : Int32) (σ : St) : Option (Unit × St) :=
 if (10 : Int32) < a2 then (some ((), σ)) else (if a1 = 0 then (some ((), σ)) else (s_X4_compute_27 k13 16000 a0 0 a2 0 σ))
def s_X4_compute_13 (F : Nat) : Nat → Int32 → Int32 → St → Option (Unit × St) := lp (fun _ _ _ _ => none) (sb_X4_compute_13 ) F
set_option maxHeartbeats 4000000 in
set_option maxRecDepth 100000 in
theorem e_X4_compute_13 {r : Unit} {σ' : St} (F : Nat) : ∀ {a0 : Nat} {a1 : Int32} {a2 : Int32} {σ : St}, s_X4_compute_13 F a0 a1 a2 σ = some (r, σ') → Ev M_X4_compute (5) 13 [(0, .ref a0), (1, .int (a1)), (2, .int (a2))] [] σ none σ' := by
  induction F with
  | zero => intro a0 a1 a2 σ h; cases h
  | succ F ih =>
    intro a0 a1 a2 σ h
    change sb_X4_compute_13  (s_X4_compute_13 F) a0 a1 a2 σ = some (r, σ') at h
    unfold sb_X4_compute_13 at h
    have hk13 := @ih
    refine ev_iload_n 2 dX4_compute_13 rfl ?_
    refine ev_bipush (v := 10) dX4_compute_14 (by decide) ?_
    rcases it_some h with ⟨c26, h⟩ | ⟨c26, h⟩
    · refine ev_icmp_gt (tgt := 80) dX4_compute_16 rfl c26 ?_
      exact ev_retV dX4_compute_80 rfl h
    · refine ev_icmp_gt_n 80 dX4_compute_16 rfl c26 ?_
      refine ev_iload_n 1 dX4_compute_19 rfl ?_
      rcases it_some h with ⟨c27, h⟩ | ⟨c27, h⟩
      · refine ev_if_eq (tgt := 80) dX4_compute_20 rfl c27 ?_
        exact ev_retV dX4_compute_80 rfl h
      · refine ev_if_eq_n 80 dX4_compute_20 rfl c27 ?_
        refine ev_iconst (v := 0) dX4_compute_23 (by decide) ?_
        refine ev_istore_n (ls' := [(1, .int (0)), (0, .ref a0), (2, .int (a2))]) dX4_compute_24 (by decide) rfl ?_
        refine ev_iconst (v := 0) dX4_compute_25 (by decide) ?_
        refine ev_istore_n (ls' := [(3, .int (0)), (1, .int (0)), (0, .ref a0), (2, .int (a2))]) dX4_compute_26 (by decide) rfl ?_
        refine ev_sub (ls' := [(0, .ref a0), (1, .int (0)), (2, .int (a2)), (3, .int (0))]) [2, 1, 3, 0] rfl ?_
        exact e_X4_compute_27 hk13 16000 h
def s_X4_compute (a0 : Nat) (σ : St) : Option (Unit × St) :=
 if isO σ 4 a0 = true then (bd (s_X4_findAllSets a0 σ) fun r31 σ29 =>
 if isO σ29 4 a0 = true then (lt (setI σ29 a0 4 0) fun σ33 =>
 s_X4_compute_13 16000 a0 1 1 σ33) else none) else none
set_option maxHeartbeats 4000000 in
set_option maxRecDepth 100000 in
theorem x_X4_compute {a0 : Nat} {σ : St} {r : Unit} {σ' : St} (h : s_X4_compute a0 σ = some (r, σ')) : Ex M_X4_compute (5) [.ref a0] σ none σ' := by
  unfold s_X4_compute at h
  refine ex_of (by decide) rfl (Nat.le_of_ble_eq_true rfl) ?_
  show Ev _ _ 0 [(0, .ref a0)] [] _ _ _
  refine ev_aload_nR 0 dX4_compute_0 rfl ?_
  obtain ⟨g28, h⟩ := gd_some h
  obtain ⟨r31, σ29, e30, h⟩ := bd_some h
  refine ev_invVv (As := []) (st := []) dX4_compute_1 cb_X4_findAllSets tp_516 tp_518 tp_17 kf4 rfl (by omega) g28 rfl rfl (Nat.le_of_ble_eq_true rfl) (x_X4_findAllSets e30) ?_
  refine ev_iconst (v := 1) dX4_compute_4 (by decide) ?_
  refine ev_istore_n (ls' := [(1, .int (1)), (0, .ref a0)]) dX4_compute_5 (by decide) rfl ?_
  refine ev_aload_nR 1 dX4_compute_6 rfl ?_
  refine ev_iconst (v := 0) dX4_compute_7 (by decide) ?_
  obtain ⟨g32, h⟩ := gd_some h
  obtain ⟨σ33, e34, h⟩ := lt_some h
  refine ev_putI dX4_compute_8 fl_X4_21 rfl (Or.inl rfl) g32 ⟨rfl, rfl⟩ ?_
  refine ev_st e34 ?_
  refine ev_iconst (v := 1) dX4_compute_11 (by decide) ?_
  refine ev_istore_n (ls' := [(2, .int (1)), (1, .int (1)), (0, .ref a0)]) dX4_compute_12 (by decide) rfl ?_
  refine ev_sub (ls' := [(0, .ref a0), (1, .int (1)), (2, .int (1))]) [2, 1, 0] rfl ?_
  exact e_X4_compute_13 16000 h
def s_X5_failed (a0 : Nat) (σ : St) : Option (Int32 × St) :=
 if isO σ 5 a0 = true then (if (sI σ a0 3) = ((-6)) then (some (0, σ)) else (some (1, σ))) else none
set_option maxHeartbeats 4000000 in
set_option maxRecDepth 100000 in
theorem x_X5_failed {a0 : Nat} {σ : St} {r : Int32} {σ' : St} (h : s_X5_failed a0 σ = some (r, σ')) : Ex M_X5_failed (1) [.ref a0] σ (some (.int r)) σ' := by
  unfold s_X5_failed at h
  refine ex_of (by decide) rfl (Nat.le_of_ble_eq_true rfl) ?_
  show Ev _ _ 0 [(0, .ref a0)] [] _ _ _
  refine ev_aload_nR 0 dX5_failed_0 rfl ?_
  obtain ⟨g1, h⟩ := gd_some h
  refine ev_getI dX5_failed_1 fl_X5_15 rfl g1 ?_
  refine ev_bipush (v := (-6)) dX5_failed_4 (by decide) ?_
  rcases it_some h with ⟨c2, h⟩ | ⟨c2, h⟩
  · refine ev_icmp_eq (tgt := 13) dX5_failed_6 rfl c2 ?_
    refine ev_iconst (v := 0) dX5_failed_13 (by decide) ?_
    exact ev_retI .boolean dX5_failed_14 rfl rfl h
  · refine ev_icmp_eq_n 13 dX5_failed_6 rfl c2 ?_
    refine ev_iconst (v := 1) dX5_failed_9 (by decide) ?_
    refine ev_goto (tgt := 14) dX5_failed_10 rfl ?_
    exact ev_retI .boolean dX5_failed_14 rfl rfl h
def s_X5_faultPlace (a0 : Nat) (σ : St) : Option (Int32 × St) :=
 if isO σ 5 a0 = true then (some (sI σ a0 3, σ)) else none
set_option maxHeartbeats 4000000 in
set_option maxRecDepth 100000 in
theorem x_X5_faultPlace {a0 : Nat} {σ : St} {r : Int32} {σ' : St} (h : s_X5_faultPlace a0 σ = some (r, σ')) : Ex M_X5_faultPlace (1) [.ref a0] σ (some (.int r)) σ' := by
  unfold s_X5_faultPlace at h
  refine ex_of (by decide) rfl (Nat.le_of_ble_eq_true rfl) ?_
  show Ev _ _ 0 [(0, .ref a0)] [] _ _ _
  refine ev_aload_nR 0 dX5_faultPlace_0 rfl ?_
  obtain ⟨g1, h⟩ := gd_some h
  refine ev_getI dX5_faultPlace_1 fl_X5_15 rfl g1 ?_
  exact ev_retI .int dX5_faultPlace_4 rfl rfl h
def s_X6_init (a0 : Nat) (σ : St) : Option (Unit × St) :=
 lt (sn σ) fun n1 => lt (newC σ 16 (10 : Int32).toNatClampNeg) fun σ3 =>
 if isO σ3 6 a0 = true then (lt (setP σ3 a0 0 (some n1)) fun σ6 =>
 some ((), σ6)) else none
set_option maxHeartbeats 4000000 in
set_option maxRecDepth 100000 in
theorem x_X6_init {a0 : Nat} {σ : St} {r : Unit} {σ' : St} (h : s_X6_init a0 σ = some (r, σ')) : Ex M_X6_init (1) [.ref a0] σ none σ' := by
  unfold s_X6_init at h
  refine ex_of (by decide) rfl (Nat.le_of_ble_eq_true rfl) ?_
  show Ev _ _ 0 [(0, .ref a0)] [] _ _ _
  refine ev_aload_nR 0 dX6_init_0 rfl ?_
  refine ev_objinit dX6_init_1 tp_95 tp_74 tp_75 (by omega) (Nat.le_of_ble_eq_true rfl) ?_
  refine ev_aload_nR 0 dX6_init_4 rfl ?_
  refine ev_bipush (v := 10) dX6_init_5 (by decide) ?_
  obtain ⟨n1, e2, h⟩ := lt_some h
  obtain ⟨σ3, e4, h⟩ := lt_some h
  refine ev_anewR (k := 16) (ko := 1) dX6_init_7 (by decide) tp_96 (by decide) e2 ?_
  refine ev_st e4 ?_
  obtain ⟨g5, h⟩ := gd_some h
  obtain ⟨σ6, e7, h⟩ := lt_some h
  refine ev_putPR dX6_init_10 fl_X6_11 rfl (Or.inr ⟨rfl, rfl⟩) g5 ?_
  refine ev_st e7 ?_
  exact ev_retV dX6_init_13 rfl h
def s_X6_set (a0 : Nat) (a1 : Int32) (a2 : Option Nat) (σ : St) : Option (Unit × St) :=
 if a1 < 0 then (some ((), σ)) else (if (10 : Int32) ≤ a1 then (some ((), σ)) else (if isO σ 6 a0 = true then (op (sP σ a0 0) fun p4 =>
 if isO σ 16 p4 = true then (on a2 (if inR a1 (alen σ p4) = true then (lt (setP σ p4 a1.toNatClampNeg none) fun σ13 =>
 some ((), σ13)) else none) fun w10 => if inR a1 (alen σ p4) = true then (if isO σ 1 w10 = true then (lt (setP σ p4 a1.toNatClampNeg (some w10)) fun σ16 =>
 some ((), σ16)) else none) else none) else none) else none))
set_option maxHeartbeats 4000000 in
set_option maxRecDepth 100000 in
theorem x_X6_set {a0 : Nat} {a1 : Int32} {a2 : Option Nat} {σ : St} {r : Unit} {σ' : St} (h : s_X6_set a0 a1 a2 σ = some (r, σ')) : Ex M_X6_set (1) [.ref a0, .int (a1), va_rf a2] σ none σ' := by
  unfold s_X6_set at h
  refine ex_of (by decide) rfl (by cases a2 <;> exact Nat.le_of_ble_eq_true rfl) ?_
  show Ev _ _ 0 [(0, .ref a0), (1, .int (a1)), (2, va_rf a2)] [] _ _ _
  refine ev_iload_n 1 dX6_set_0 rfl ?_
  rcases it_some h with ⟨c1, h⟩ | ⟨c1, h⟩
  · refine ev_if_lt (tgt := 17) dX6_set_1 rfl c1 ?_
    exact ev_retV dX6_set_17 rfl h
  · refine ev_if_lt_n 17 dX6_set_1 rfl c1 ?_
    refine ev_iload_n 1 dX6_set_4 rfl ?_
    refine ev_bipush (v := 10) dX6_set_5 (by decide) ?_
    rcases it_some h with ⟨c2, h⟩ | ⟨c2, h⟩
    · refine ev_icmp_ge (tgt := 17) dX6_set_7 rfl c2 ?_
      exact ev_retV dX6_set_17 rfl h
    · refine ev_icmp_ge_n 17 dX6_set_7 rfl c2 ?_
      refine ev_aload_nR 0 dX6_set_10 rfl ?_
      obtain ⟨g3, h⟩ := gd_some h
      obtain ⟨p4, e5, h⟩ := op_some h
      refine ev_getPR dX6_set_11 fl_X6_11 rfl g3 e5 ?_
      refine ev_iload_n 1 dX6_set_14 rfl ?_
      refine ev_aload_n 2 dX6_set_15 rfl ?_
      obtain ⟨g6, h⟩ := gd_some h
      rcases on_some h with ⟨e11, h⟩ | ⟨w10, e11, h⟩
      · rw [e11]
        obtain ⟨g12, h⟩ := gd_some h
        obtain ⟨σ13, e14, h⟩ := lt_some h
        refine ev_aastN dX6_set_16 (by decide) (isO_spec g6).1 (isA_O g6) g12 ?_
        refine ev_st e14 ?_
        exact ev_retV dX6_set_17 rfl h
      · rw [e11]
        obtain ⟨g15, h⟩ := gd_some h
        obtain ⟨g18, h⟩ := gd_some h
        obtain ⟨σ16, e17, h⟩ := lt_some h
        refine ev_aastR dX6_set_16 (by decide) (isO_spec g6).1 (isA_O g6) g15 g18 ?_
        refine ev_st e17 ?_
        exact ev_retV dX6_set_17 rfl h
def sb_X6_firstFree_2 (k2 : Nat → Int32 → Int32 → Int32 → St → Option (Int32 × St)) (a0 : Nat) (a1 : Int32) (a2 : Int32) (a3 : Int32) (σ : St) : Option (Int32 × St) :=
 if (a1 + a2) ≤ a3 then (some ((-1), σ)) else (if isO σ 6 a0 = true then (bd (s_X6_at a0 a3 σ) fun r5 σ3 =>
 on r5 (some (a3, σ3)) fun w6 => lt (a3 + 1 : Int32) fun v8 =>
 k2 a0 a1 a2 v8 σ3) else none)
def s_X6_firstFree_2 (F : Nat) : Nat → Int32 → Int32 → Int32 → St → Option (Int32 × St) := lp (fun _ _ _ _ _ => none) (sb_X6_firstFree_2 ) F
set_option maxHeartbeats 4000000 in
set_option maxRecDepth 100000 in
theorem e_X6_firstFree_2 {r : Int32} {σ' : St} (F : Nat) : ∀ {a0 : Nat} {a1 : Int32} {a2 : Int32} {a3 : Int32} {σ : St}, s_X6_firstFree_2 F a0 a1 a2 a3 σ = some (r, σ') → Ev M_X6_firstFree (2) 2 [(0, .ref a0), (1, .int (a1)), (2, .int (a2)), (3, .int (a3))] [] σ (some (.int r)) σ' := by
  induction F with
  | zero => intro a0 a1 a2 a3 σ h; cases h
  | succ F ih =>
    intro a0 a1 a2 a3 σ h
    change sb_X6_firstFree_2  (s_X6_firstFree_2 F) a0 a1 a2 a3 σ = some (r, σ') at h
    unfold sb_X6_firstFree_2 at h
    have hk2 := @ih
    refine ev_iload_n 3 dX6_firstFree_2 rfl ?_
    refine ev_iload_n 1 dX6_firstFree_3 rfl ?_
    refine ev_iload_n 2 dX6_firstFree_4 rfl ?_
    refine ev_iadd dX6_firstFree_5 ?_
    rcases it_some h with ⟨c1, h⟩ | ⟨c1, h⟩
    · refine ev_icmp_ge (tgt := 25) dX6_firstFree_6 rfl c1 ?_
      refine ev_iconst (v := (-1)) dX6_firstFree_25 (by decide) ?_
      exact ev_retI .int dX6_firstFree_26 rfl rfl h
    · refine ev_icmp_ge_n 25 dX6_firstFree_6 rfl c1 ?_
      refine ev_aload_nR 0 dX6_firstFree_9 rfl ?_
      refine ev_iload_n 3 dX6_firstFree_10 rfl ?_
      obtain ⟨g2, h⟩ := gd_some h
      obtain ⟨r5, σ3, e4, h⟩ := bd_some h
      refine ev_invVq (As := [.int (a3)]) (st := []) dX6_firstFree_11 cb_X6_at tp_426 tp_427 tp_428 kf6 rfl (by omega) g2 rfl rfl (Nat.le_of_ble_eq_true rfl) (x_X6_at e4) ?_
      rcases on_some h with ⟨e7, h⟩ | ⟨w6, e7, h⟩
      · rw [e7]
        refine ev_ifnonnull_n dX6_firstFree_14 ?_
        refine ev_iload_n 3 dX6_firstFree_17 rfl ?_
        exact ev_retI .int dX6_firstFree_18 rfl rfl h
      · rw [e7]
        refine ev_ifnonnull (tgt := 19) dX6_firstFree_14 rfl ?_
        obtain ⟨v8, e9, h⟩ := lt_some h
        refine ev_iinc (v := v8) (ls' := [(3, .int (v8)), (0, .ref a0), (1, .int (a1)), (2, .int (a2))]) 3 dX6_firstFree_19 rfl e9.symm (by decide) rfl ?_
        refine ev_goto (tgt := 2) dX6_firstFree_22 rfl ?_
        refine ev_sub (ls' := [(0, .ref a0), (1, .int (a1)), (2, .int (a2)), (3, .int (v8))]) [1, 2, 3, 0] rfl ?_
        exact hk2 h
def s_X6_firstFree (a0 : Nat) (a1 : Int32) (a2 : Int32) (σ : St) : Option (Int32 × St) :=
 s_X6_firstFree_2 16000 a0 a1 a2 a1 σ
set_option maxHeartbeats 4000000 in
set_option maxRecDepth 100000 in
theorem x_X6_firstFree {a0 : Nat} {a1 : Int32} {a2 : Int32} {σ : St} {r : Int32} {σ' : St} (h : s_X6_firstFree a0 a1 a2 σ = some (r, σ')) : Ex M_X6_firstFree (2) [.ref a0, .int (a1), .int (a2)] σ (some (.int r)) σ' := by
  unfold s_X6_firstFree at h
  refine ex_of (by decide) rfl (Nat.le_of_ble_eq_true rfl) ?_
  show Ev _ _ 0 [(0, .ref a0), (1, .int (a1)), (2, .int (a2))] [] _ _ _
  refine ev_iload_n 1 dX6_firstFree_0 rfl ?_
  refine ev_istore_n (ls' := [(3, .int (a1)), (0, .ref a0), (1, .int (a1)), (2, .int (a2))]) dX6_firstFree_1 (by decide) rfl ?_
  refine ev_sub (ls' := [(0, .ref a0), (1, .int (a1)), (2, .int (a2)), (3, .int (a1))]) [1, 2, 3, 0] rfl ?_
  exact e_X6_firstFree_2 16000 h
def sb_X6_present_5 (k5 : Nat → Int32 → Int32 → Int32 → Int32 → St → Option (Int32 × St)) (a0 : Nat) (a1 : Int32) (a2 : Int32) (a3 : Int32) (a4 : Int32) (σ : St) : Option (Int32 × St) :=
 if a2 ≤ a4 then (some (a3, σ)) else (if isO σ 6 a0 = true then (bd (s_X6_at a0 (a1 + a4) σ) fun r5 σ3 =>
 on r5 (lt (a4 + 1 : Int32) fun v8 =>
 k5 a0 a1 a2 a3 v8 σ3) fun w6 => lt (a3 ||| (1 <<< (a4 &&& 31)) : Int32) fun v10 =>
 lt (a4 + 1 : Int32) fun v12 =>
 k5 a0 a1 a2 v10 v12 σ3) else none)
def s_X6_present_5 (F : Nat) : Nat → Int32 → Int32 → Int32 → Int32 → St → Option (Int32 × St) := lp (fun _ _ _ _ _ _ => none) (sb_X6_present_5 ) F
set_option maxHeartbeats 4000000 in
set_option maxRecDepth 100000 in
theorem e_X6_present_5 {r : Int32} {σ' : St} (F : Nat) : ∀ {a0 : Nat} {a1 : Int32} {a2 : Int32} {a3 : Int32} {a4 : Int32} {σ : St}, s_X6_present_5 F a0 a1 a2 a3 a4 σ = some (r, σ') → Ev M_X6_present (2) 5 [(0, .ref a0), (1, .int (a1)), (2, .int (a2)), (3, .int (a3)), (4, .int (a4))] [] σ (some (.int r)) σ' := by
  induction F with
  | zero => intro a0 a1 a2 a3 a4 σ h; cases h
  | succ F ih =>
    intro a0 a1 a2 a3 a4 σ h
    change sb_X6_present_5  (s_X6_present_5 F) a0 a1 a2 a3 a4 σ = some (r, σ') at h
    unfold sb_X6_present_5 at h
    have hk5 := @ih
    refine ev_iload 4 dX6_present_5 rfl ?_
    refine ev_iload_n 2 dX6_present_7 rfl ?_
    rcases it_some h with ⟨c1, h⟩ | ⟨c1, h⟩
    · refine ev_icmp_ge (tgt := 35) dX6_present_8 rfl c1 ?_
      refine ev_iload_n 3 dX6_present_35 rfl ?_
      exact ev_retI .int dX6_present_36 rfl rfl h
    · refine ev_icmp_ge_n 35 dX6_present_8 rfl c1 ?_
      refine ev_aload_nR 0 dX6_present_11 rfl ?_
      refine ev_iload_n 1 dX6_present_12 rfl ?_
      refine ev_iload 4 dX6_present_13 rfl ?_
      refine ev_iadd dX6_present_15 ?_
      obtain ⟨g2, h⟩ := gd_some h
      obtain ⟨r5, σ3, e4, h⟩ := bd_some h
      refine ev_invVq (As := [.int (a1 + a4)]) (st := []) dX6_present_16 cb_X6_at tp_426 tp_427 tp_428 kf6 rfl (by omega) g2 rfl rfl (Nat.le_of_ble_eq_true rfl) (x_X6_at e4) ?_
      rcases on_some h with ⟨e7, h⟩ | ⟨w6, e7, h⟩
      · rw [e7]
        refine ev_ifnull (tgt := 29) dX6_present_19 rfl ?_
        obtain ⟨v8, e9, h⟩ := lt_some h
        refine ev_iinc (v := v8) (ls' := [(4, .int (v8)), (0, .ref a0), (1, .int (a1)), (2, .int (a2)), (3, .int (a3))]) 4 dX6_present_29 rfl e9.symm (by decide) rfl ?_
        refine ev_goto (tgt := 5) dX6_present_32 rfl ?_
        refine ev_sub (ls' := [(0, .ref a0), (1, .int (a1)), (2, .int (a2)), (3, .int (a3)), (4, .int (v8))]) [1, 2, 3, 4, 0] rfl ?_
        exact hk5 h
      · rw [e7]
        refine ev_ifnull_n dX6_present_19 ?_
        refine ev_iload_n 3 dX6_present_22 rfl ?_
        refine ev_iconst (v := 1) dX6_present_23 (by decide) ?_
        refine ev_iload 4 dX6_present_24 rfl ?_
        refine ev_ishl dX6_present_26 ?_
        refine ev_ior dX6_present_27 ?_
        obtain ⟨v10, e11, h⟩ := lt_some h
        refine ev_topI e11 ?_
        refine ev_istore_n (ls' := [(3, .int (v10)), (0, .ref a0), (1, .int (a1)), (2, .int (a2)), (4, .int (a4))]) dX6_present_28 (by decide) rfl ?_
        obtain ⟨v12, e13, h⟩ := lt_some h
        refine ev_iinc (v := v12) (ls' := [(4, .int (v12)), (3, .int (v10)), (0, .ref a0), (1, .int (a1)), (2, .int (a2))]) 4 dX6_present_29 rfl e13.symm (by decide) rfl ?_
        refine ev_goto (tgt := 5) dX6_present_32 rfl ?_
        refine ev_sub (ls' := [(0, .ref a0), (1, .int (a1)), (2, .int (a2)), (3, .int (v10)), (4, .int (v12))]) [2, 3, 4, 1, 0] rfl ?_
        exact hk5 h
def s_X6_present (a0 : Nat) (a1 : Int32) (a2 : Int32) (σ : St) : Option (Int32 × St) :=
 s_X6_present_5 16000 a0 a1 a2 0 0 σ
set_option maxHeartbeats 4000000 in
set_option maxRecDepth 100000 in
theorem x_X6_present {a0 : Nat} {a1 : Int32} {a2 : Int32} {σ : St} {r : Int32} {σ' : St} (h : s_X6_present a0 a1 a2 σ = some (r, σ')) : Ex M_X6_present (2) [.ref a0, .int (a1), .int (a2)] σ (some (.int r)) σ' := by
  unfold s_X6_present at h
  refine ex_of (by decide) rfl (Nat.le_of_ble_eq_true rfl) ?_
  show Ev _ _ 0 [(0, .ref a0), (1, .int (a1)), (2, .int (a2))] [] _ _ _
  refine ev_iconst (v := 0) dX6_present_0 (by decide) ?_
  refine ev_istore_n (ls' := [(3, .int (0)), (0, .ref a0), (1, .int (a1)), (2, .int (a2))]) dX6_present_1 (by decide) rfl ?_
  refine ev_iconst (v := 0) dX6_present_2 (by decide) ?_
  refine ev_istore (ls' := [(4, .int (0)), (3, .int (0)), (0, .ref a0), (1, .int (a1)), (2, .int (a2))]) dX6_present_3 (by decide) rfl ?_
  refine ev_sub (ls' := [(0, .ref a0), (1, .int (a1)), (2, .int (a2)), (3, .int (0)), (4, .int (0))]) [2, 3, 4, 1, 0] rfl ?_
  exact e_X6_present_5 16000 h
def s_X6_nodes_40 (k13 : Int32 → Nat → Int32 → Int32 → St → Option (Int32 × St)) (a2 : Nat) (a3 : Int32) (a4 : Int32) (t0 : Int32) (t1 : Int32) (σ : St) : Option (Int32 × St) :=
 lt (t0 + t1 : Int32) fun v1 =>
 lt (a4 + 1 : Int32) fun v3 =>
 k13 v1 a2 a3 v3 σ
set_option maxHeartbeats 4000000 in
set_option maxRecDepth 100000 in
theorem e_X6_nodes_40 {r : Int32} {σ' : St} {k13 : Int32 → Nat → Int32 → Int32 → St → Option (Int32 × St)} (hk13 : ∀ {y0 : Int32} {y1 : Nat} {y2 : Int32} {y3 : Int32} {σ : St}, k13 y0 y1 y2 y3 σ = some (r, σ') → Ev M_X6_nodes (2) 13 [(1, .int (y0)), (2, .ref y1), (3, .int (y2)), (4, .int (y3))] [] σ (some (.int r)) σ') : ∀ {a2 : Nat} {a3 : Int32} {a4 : Int32} {t0 : Int32} {t1 : Int32} {σ : St}, s_X6_nodes_40 k13 a2 a3 a4 t0 t1 σ = some (r, σ') → Ev M_X6_nodes (2) 40 [(2, .ref a2), (3, .int (a3)), (4, .int (a4))] [.int (t1), .int (t0)] σ (some (.int r)) σ' := by
  intro a2 a3 a4 t0 t1 σ h
  unfold s_X6_nodes_40 at h
  refine ev_iadd dX6_nodes_40 ?_
  obtain ⟨v1, e2, h⟩ := lt_some h
  refine ev_topI e2 ?_
  refine ev_istore_n (ls' := [(1, .int (v1)), (2, .ref a2), (3, .int (a3)), (4, .int (a4))]) dX6_nodes_41 (by decide) rfl ?_
  obtain ⟨v3, e4, h⟩ := lt_some h
  refine ev_iinc (v := v3) (ls' := [(4, .int (v3)), (1, .int (v1)), (2, .ref a2), (3, .int (a3))]) 3 dX6_nodes_42 rfl e4.symm (by decide) rfl ?_
  refine ev_goto (tgt := 13) dX6_nodes_45 rfl ?_
  refine ev_sub (ls' := [(1, .int (v1)), (2, .ref a2), (3, .int (a3)), (4, .int (v3))]) [1, 2, 3, 0] rfl ?_
  exact hk13 h
def sb_X6_nodes_13 (k13 : Int32 → Nat → Int32 → Int32 → St → Option (Int32 × St)) (a1 : Int32) (a2 : Nat) (a3 : Int32) (a4 : Int32) (σ : St) : Option (Int32 × St) :=
 if a3 ≤ a4 then (some (a1, σ)) else (if isO σ 16 a2 = true then (if inR a4 (alen σ a2) = true then (on ((sP σ a2 a4.toNatClampNeg)) (s_X6_nodes_40 k13 a2 a3 a4 a1 0 σ) fun w8 => if isO σ 1 w8 = true then (bd (s_X1_nodes w8 σ) fun r13 σ11 =>
 s_X6_nodes_40 k13 a2 a3 a4 a1 r13 σ11) else none) else none) else none)
def s_X6_nodes_13 (F : Nat) : Int32 → Nat → Int32 → Int32 → St → Option (Int32 × St) := lp (fun _ _ _ _ _ => none) (sb_X6_nodes_13 ) F
set_option maxHeartbeats 4000000 in
set_option maxRecDepth 100000 in
theorem e_X6_nodes_13 {r : Int32} {σ' : St} (F : Nat) : ∀ {a1 : Int32} {a2 : Nat} {a3 : Int32} {a4 : Int32} {σ : St}, s_X6_nodes_13 F a1 a2 a3 a4 σ = some (r, σ') → Ev M_X6_nodes (2) 13 [(1, .int (a1)), (2, .ref a2), (3, .int (a3)), (4, .int (a4))] [] σ (some (.int r)) σ' := by
  induction F with
  | zero => intro a1 a2 a3 a4 σ h; cases h
  | succ F ih =>
    intro a1 a2 a3 a4 σ h
    change sb_X6_nodes_13  (s_X6_nodes_13 F) a1 a2 a3 a4 σ = some (r, σ') at h
    unfold sb_X6_nodes_13 at h
    have hk13 := @ih
    refine ev_iload 3 dX6_nodes_13 rfl ?_
    refine ev_iload_n 2 dX6_nodes_15 rfl ?_
    rcases it_some h with ⟨c5, h⟩ | ⟨c5, h⟩
    · refine ev_icmp_ge (tgt := 48) dX6_nodes_16 rfl c5 ?_
      refine ev_iload_n 0 dX6_nodes_48 rfl ?_
      exact ev_retI .int dX6_nodes_49 rfl rfl h
    · refine ev_icmp_ge_n 48 dX6_nodes_16 rfl c5 ?_
      refine ev_aload_nR 1 dX6_nodes_19 rfl ?_
      refine ev_iload 3 dX6_nodes_20 rfl ?_
      obtain ⟨g6, h⟩ := gd_some h
      obtain ⟨g7, h⟩ := gd_some h
      refine ev_aald dX6_nodes_22 (by decide) (isA_O g6) g7 rfl ?_
      refine ev_astore (ls' := [(5, va_rf (sP σ a2 a4.toNatClampNeg)), (1, .int (a1)), (2, .ref a2), (3, .int (a3)), (4, .int (a4))]) dX6_nodes_23 (by decide) rfl ?_
      refine ev_iload_n 1 dX6_nodes_25 rfl ?_
      refine ev_aload 0 dX6_nodes_26 rfl ?_
      rcases on_some h with ⟨e9, h⟩ | ⟨w8, e9, h⟩
      · rw [e9]
        refine ev_ifnonnull_n dX6_nodes_28 ?_
        refine ev_iconst (v := 0) dX6_nodes_31 (by decide) ?_
        refine ev_goto (tgt := 40) dX6_nodes_32 rfl ?_
        refine ev_sub (ls' := [(2, .ref a2), (3, .int (a3)), (4, .int (a4))]) [2, 3, 4] rfl ?_
        exact e_X6_nodes_40 hk13 h
      · rw [e9]
        refine ev_ifnonnull (tgt := 35) dX6_nodes_28 rfl ?_
        refine ev_aloadR 0 dX6_nodes_35 rfl ?_
        obtain ⟨g10, h⟩ := gd_some h
        obtain ⟨r13, σ11, e12, h⟩ := bd_some h
        refine ev_invVi (As := []) (st := [.int (a1)]) dX6_nodes_37 cb_X1_nodes tp_430 tp_431 tp_432 kf1 rfl (by omega) g10 rfl rfl (Nat.le_of_ble_eq_true rfl) (x_X1_nodes e12) ?_
        refine ev_sub (ls' := [(2, .ref a2), (3, .int (a3)), (4, .int (a4))]) [2, 3, 4] rfl ?_
        exact e_X6_nodes_40 hk13 h
def s_X6_nodes (a0 : Nat) (σ : St) : Option (Int32 × St) :=
 if isO σ 6 a0 = true then (op (sP σ a0 0) fun p15 =>
 if isO σ 16 p15 = true then (lt (nI (alen σ p15) : Int32) fun v18 =>
 s_X6_nodes_13 16000 0 p15 v18 0 σ) else none) else none
set_option maxHeartbeats 4000000 in
set_option maxRecDepth 100000 in
theorem x_X6_nodes {a0 : Nat} {σ : St} {r : Int32} {σ' : St} (h : s_X6_nodes a0 σ = some (r, σ')) : Ex M_X6_nodes (2) [.ref a0] σ (some (.int r)) σ' := by
  unfold s_X6_nodes at h
  refine ex_of (by decide) rfl (Nat.le_of_ble_eq_true rfl) ?_
  show Ev _ _ 0 [(0, .ref a0)] [] _ _ _
  refine ev_iconst (v := 0) dX6_nodes_0 (by decide) ?_
  refine ev_istore_n (ls' := [(1, .int (0)), (0, .ref a0)]) dX6_nodes_1 (by decide) rfl ?_
  refine ev_aload_nR 1 dX6_nodes_2 rfl ?_
  obtain ⟨g14, h⟩ := gd_some h
  obtain ⟨p15, e16, h⟩ := op_some h
  refine ev_getPR dX6_nodes_3 fl_X6_11 rfl g14 e16 ?_
  refine ev_astore_nR (ls' := [(2, .ref p15), (1, .int (0)), (0, .ref a0)]) dX6_nodes_6 (by decide) rfl ?_
  refine ev_aload_nR 0 dX6_nodes_7 rfl ?_
  obtain ⟨g17, h⟩ := gd_some h
  refine ev_alen dX6_nodes_8 (isA_O g17) (by decide) ?_
  obtain ⟨v18, e19, h⟩ := lt_some h
  refine ev_topI e19 ?_
  refine ev_istore_n (ls' := [(3, .int (v18)), (2, .ref p15), (1, .int (0)), (0, .ref a0)]) dX6_nodes_9 (by decide) rfl ?_
  refine ev_iconst (v := 0) dX6_nodes_10 (by decide) ?_
  refine ev_istore (ls' := [(4, .int (0)), (3, .int (v18)), (2, .ref p15), (1, .int (0)), (0, .ref a0)]) dX6_nodes_11 (by decide) rfl ?_
  refine ev_sub (ls' := [(1, .int (0)), (2, .ref p15), (3, .int (v18)), (4, .int (0))]) [3, 2, 1, 0] rfl ?_
  exact e_X6_nodes_13 16000 h
def s_X6_loans_40 (k13 : Int32 → Nat → Int32 → Int32 → St → Option (Int32 × St)) (a2 : Nat) (a3 : Int32) (a4 : Int32) (t0 : Int32) (t1 : Int32) (σ : St) : Option (Int32 × St) :=
 lt (t0 + t1 : Int32) fun v1 =>
 lt (a4 + 1 : Int32) fun v3 =>
 k13 v1 a2 a3 v3 σ
set_option maxHeartbeats 4000000 in
set_option maxRecDepth 100000 in
theorem e_X6_loans_40 {r : Int32} {σ' : St} {k13 : Int32 → Nat → Int32 → Int32 → St → Option (Int32 × St)} (hk13 : ∀ {y0 : Int32} {y1 : Nat} {y2 : Int32} {y3 : Int32} {σ : St}, k13 y0 y1 y2 y3 σ = some (r, σ') → Ev M_X6_loans (2) 13 [(1, .int (y0)), (2, .ref y1), (3, .int (y2)), (4, .int (y3))] [] σ (some (.int r)) σ') : ∀ {a2 : Nat} {a3 : Int32} {a4 : Int32} {t0 : Int32} {t1 : Int32} {σ : St}, s_X6_loans_40 k13 a2 a3 a4 t0 t1 σ = some (r, σ') → Ev M_X6_loans (2) 40 [(2, .ref a2), (3, .int (a3)), (4, .int (a4))] [.int (t1), .int (t0)] σ (some (.int r)) σ' := by
  intro a2 a3 a4 t0 t1 σ h
  unfold s_X6_loans_40 at h
  refine ev_iadd dX6_loans_40 ?_
  obtain ⟨v1, e2, h⟩ := lt_some h
  refine ev_topI e2 ?_
  refine ev_istore_n (ls' := [(1, .int (v1)), (2, .ref a2), (3, .int (a3)), (4, .int (a4))]) dX6_loans_41 (by decide) rfl ?_
  obtain ⟨v3, e4, h⟩ := lt_some h
  refine ev_iinc (v := v3) (ls' := [(4, .int (v3)), (1, .int (v1)), (2, .ref a2), (3, .int (a3))]) 3 dX6_loans_42 rfl e4.symm (by decide) rfl ?_
  refine ev_goto (tgt := 13) dX6_loans_45 rfl ?_
  refine ev_sub (ls' := [(1, .int (v1)), (2, .ref a2), (3, .int (a3)), (4, .int (v3))]) [1, 2, 3, 0] rfl ?_
  exact hk13 h
def sb_X6_loans_13 (k13 : Int32 → Nat → Int32 → Int32 → St → Option (Int32 × St)) (a1 : Int32) (a2 : Nat) (a3 : Int32) (a4 : Int32) (σ : St) : Option (Int32 × St) :=
 if a3 ≤ a4 then (some (a1, σ)) else (if isO σ 16 a2 = true then (if inR a4 (alen σ a2) = true then (on ((sP σ a2 a4.toNatClampNeg)) (s_X6_loans_40 k13 a2 a3 a4 a1 0 σ) fun w8 => if isO σ 1 w8 = true then (bd (s_X1_loans w8 σ) fun r13 σ11 =>
 s_X6_loans_40 k13 a2 a3 a4 a1 r13 σ11) else none) else none) else none)
def s_X6_loans_13 (F : Nat) : Int32 → Nat → Int32 → Int32 → St → Option (Int32 × St) := lp (fun _ _ _ _ _ => none) (sb_X6_loans_13 ) F
set_option maxHeartbeats 4000000 in
set_option maxRecDepth 100000 in
theorem e_X6_loans_13 {r : Int32} {σ' : St} (F : Nat) : ∀ {a1 : Int32} {a2 : Nat} {a3 : Int32} {a4 : Int32} {σ : St}, s_X6_loans_13 F a1 a2 a3 a4 σ = some (r, σ') → Ev M_X6_loans (2) 13 [(1, .int (a1)), (2, .ref a2), (3, .int (a3)), (4, .int (a4))] [] σ (some (.int r)) σ' := by
  induction F with
  | zero => intro a1 a2 a3 a4 σ h; cases h
  | succ F ih =>
    intro a1 a2 a3 a4 σ h
    change sb_X6_loans_13  (s_X6_loans_13 F) a1 a2 a3 a4 σ = some (r, σ') at h
    unfold sb_X6_loans_13 at h
    have hk13 := @ih
    refine ev_iload 3 dX6_loans_13 rfl ?_
    refine ev_iload_n 2 dX6_loans_15 rfl ?_
    rcases it_some h with ⟨c5, h⟩ | ⟨c5, h⟩
    · refine ev_icmp_ge (tgt := 48) dX6_loans_16 rfl c5 ?_
      refine ev_iload_n 0 dX6_loans_48 rfl ?_
      exact ev_retI .int dX6_loans_49 rfl rfl h
    · refine ev_icmp_ge_n 48 dX6_loans_16 rfl c5 ?_
      refine ev_aload_nR 1 dX6_loans_19 rfl ?_
      refine ev_iload 3 dX6_loans_20 rfl ?_
      obtain ⟨g6, h⟩ := gd_some h
      obtain ⟨g7, h⟩ := gd_some h
      refine ev_aald dX6_loans_22 (by decide) (isA_O g6) g7 rfl ?_
      refine ev_astore (ls' := [(5, va_rf (sP σ a2 a4.toNatClampNeg)), (1, .int (a1)), (2, .ref a2), (3, .int (a3)), (4, .int (a4))]) dX6_loans_23 (by decide) rfl ?_
      refine ev_iload_n 1 dX6_loans_25 rfl ?_
      refine ev_aload 0 dX6_loans_26 rfl ?_
      rcases on_some h with ⟨e9, h⟩ | ⟨w8, e9, h⟩
      · rw [e9]
        refine ev_ifnonnull_n dX6_loans_28 ?_
        refine ev_iconst (v := 0) dX6_loans_31 (by decide) ?_
        refine ev_goto (tgt := 40) dX6_loans_32 rfl ?_
        refine ev_sub (ls' := [(2, .ref a2), (3, .int (a3)), (4, .int (a4))]) [2, 3, 4] rfl ?_
        exact e_X6_loans_40 hk13 h
      · rw [e9]
        refine ev_ifnonnull (tgt := 35) dX6_loans_28 rfl ?_
        refine ev_aloadR 0 dX6_loans_35 rfl ?_
        obtain ⟨g10, h⟩ := gd_some h
        obtain ⟨r13, σ11, e12, h⟩ := bd_some h
        refine ev_invVi (As := []) (st := [.int (a1)]) dX6_loans_37 cb_X1_loans tp_434 tp_435 tp_436 kf1 rfl (by omega) g10 rfl rfl (Nat.le_of_ble_eq_true rfl) (x_X1_loans e12) ?_
        refine ev_sub (ls' := [(2, .ref a2), (3, .int (a3)), (4, .int (a4))]) [2, 3, 4] rfl ?_
        exact e_X6_loans_40 hk13 h
def s_X6_loans (a0 : Nat) (σ : St) : Option (Int32 × St) :=
 if isO σ 6 a0 = true then (op (sP σ a0 0) fun p15 =>
 if isO σ 16 p15 = true then (lt (nI (alen σ p15) : Int32) fun v18 =>
 s_X6_loans_13 16000 0 p15 v18 0 σ) else none) else none
set_option maxHeartbeats 4000000 in
set_option maxRecDepth 100000 in
theorem x_X6_loans {a0 : Nat} {σ : St} {r : Int32} {σ' : St} (h : s_X6_loans a0 σ = some (r, σ')) : Ex M_X6_loans (2) [.ref a0] σ (some (.int r)) σ' := by
  unfold s_X6_loans at h
  refine ex_of (by decide) rfl (Nat.le_of_ble_eq_true rfl) ?_
  show Ev _ _ 0 [(0, .ref a0)] [] _ _ _
  refine ev_iconst (v := 0) dX6_loans_0 (by decide) ?_
  refine ev_istore_n (ls' := [(1, .int (0)), (0, .ref a0)]) dX6_loans_1 (by decide) rfl ?_
  refine ev_aload_nR 1 dX6_loans_2 rfl ?_
  obtain ⟨g14, h⟩ := gd_some h
  obtain ⟨p15, e16, h⟩ := op_some h
  refine ev_getPR dX6_loans_3 fl_X6_11 rfl g14 e16 ?_
  refine ev_astore_nR (ls' := [(2, .ref p15), (1, .int (0)), (0, .ref a0)]) dX6_loans_6 (by decide) rfl ?_
  refine ev_aload_nR 0 dX6_loans_7 rfl ?_
  obtain ⟨g17, h⟩ := gd_some h
  refine ev_alen dX6_loans_8 (isA_O g17) (by decide) ?_
  obtain ⟨v18, e19, h⟩ := lt_some h
  refine ev_topI e19 ?_
  refine ev_istore_n (ls' := [(3, .int (v18)), (2, .ref p15), (1, .int (0)), (0, .ref a0)]) dX6_loans_9 (by decide) rfl ?_
  refine ev_iconst (v := 0) dX6_loans_10 (by decide) ?_
  refine ev_istore (ls' := [(4, .int (0)), (3, .int (v18)), (2, .ref p15), (1, .int (0)), (0, .ref a0)]) dX6_loans_11 (by decide) rfl ?_
  refine ev_sub (ls' := [(1, .int (0)), (2, .ref p15), (3, .int (v18)), (4, .int (0))]) [3, 2, 1, 0] rfl ?_
  exact e_X6_loans_13 16000 h
def s_X6_hasRoom_32 (a0 : Nat) (a2 : Nat) (a4 : Int32) (t0 : Int32) (σ : St) : Option (Int32 × St) :=
 if isO σ 6 a0 = true then (bd (s_X6_nodes a0 σ) fun r4 σ2 =>
 if isO σ2 1 a2 = true then (bd (s_X1_nodes a2 σ2) fun r8 σ6 =>
 if (60 : Int32) < ((r4 - a4) + r8) then (some (0, σ6)) else (if isO σ6 6 a0 = true then (bd (s_X6_loans a0 σ6) fun r13 σ11 =>
 if isO σ11 1 a2 = true then (bd (s_X1_loans a2 σ11) fun r17 σ15 =>
 if (3 : Int32) < ((r13 - t0) + r17) then (some (0, σ15)) else (some (1, σ15))) else none) else none)) else none) else none
set_option maxHeartbeats 4000000 in
set_option maxRecDepth 100000 in
theorem e_X6_hasRoom_32 {r : Int32} {σ' : St} : ∀ {a0 : Nat} {a2 : Nat} {a4 : Int32} {t0 : Int32} {σ : St}, s_X6_hasRoom_32 a0 a2 a4 t0 σ = some (r, σ') → Ev M_X6_hasRoom (3) 32 [(0, .ref a0), (2, .ref a2), (4, .int (a4))] [.int (t0)] σ (some (.int r)) σ' := by
  intro a0 a2 a4 t0 σ h
  unfold s_X6_hasRoom_32 at h
  refine ev_istore (ls' := [(5, .int (t0)), (0, .ref a0), (2, .ref a2), (4, .int (a4))]) dX6_hasRoom_32 (by decide) rfl ?_
  refine ev_aload_nR 1 dX6_hasRoom_34 rfl ?_
  obtain ⟨g1, h⟩ := gd_some h
  obtain ⟨r4, σ2, e3, h⟩ := bd_some h
  refine ev_invVi (As := []) (st := []) dX6_hasRoom_35 cb_X6_nodes tp_438 tp_439 tp_440 kf6 rfl (by omega) g1 rfl rfl (Nat.le_of_ble_eq_true rfl) (x_X6_nodes e3) ?_
  refine ev_iload 3 dX6_hasRoom_38 rfl ?_
  refine ev_isub dX6_hasRoom_40 ?_
  refine ev_aload_nR 2 dX6_hasRoom_41 rfl ?_
  obtain ⟨g5, h⟩ := gd_some h
  obtain ⟨r8, σ6, e7, h⟩ := bd_some h
  refine ev_invVi (As := []) (st := [.int (r4 - a4)]) dX6_hasRoom_42 cb_X1_nodes tp_430 tp_431 tp_432 kf1 rfl (by omega) g5 rfl rfl (Nat.le_of_ble_eq_true rfl) (x_X1_nodes e7) ?_
  refine ev_iadd dX6_hasRoom_45 ?_
  refine ev_bipush (v := 60) dX6_hasRoom_46 (by decide) ?_
  rcases it_some h with ⟨c9, h⟩ | ⟨c9, h⟩
  · refine ev_icmp_gt (tgt := 71) dX6_hasRoom_48 rfl c9 ?_
    refine ev_iconst (v := 0) dX6_hasRoom_71 (by decide) ?_
    exact ev_retI .boolean dX6_hasRoom_72 rfl rfl h
  · refine ev_icmp_gt_n 71 dX6_hasRoom_48 rfl c9 ?_
    refine ev_aload_nR 1 dX6_hasRoom_51 rfl ?_
    obtain ⟨g10, h⟩ := gd_some h
    obtain ⟨r13, σ11, e12, h⟩ := bd_some h
    refine ev_invVi (As := []) (st := []) dX6_hasRoom_52 cb_X6_loans tp_442 tp_443 tp_444 kf6 rfl (by omega) g10 rfl rfl (Nat.le_of_ble_eq_true rfl) (x_X6_loans e12) ?_
    refine ev_iload 0 dX6_hasRoom_55 rfl ?_
    refine ev_isub dX6_hasRoom_57 ?_
    refine ev_aload_nR 2 dX6_hasRoom_58 rfl ?_
    obtain ⟨g14, h⟩ := gd_some h
    obtain ⟨r17, σ15, e16, h⟩ := bd_some h
    refine ev_invVi (As := []) (st := [.int (r13 - t0)]) dX6_hasRoom_59 cb_X1_loans tp_434 tp_435 tp_436 kf1 rfl (by omega) g14 rfl rfl (Nat.le_of_ble_eq_true rfl) (x_X1_loans e16) ?_
    refine ev_iadd dX6_hasRoom_62 ?_
    refine ev_iconst (v := 3) dX6_hasRoom_63 (by decide) ?_
    rcases it_some h with ⟨c18, h⟩ | ⟨c18, h⟩
    · refine ev_icmp_gt (tgt := 71) dX6_hasRoom_64 rfl c18 ?_
      refine ev_iconst (v := 0) dX6_hasRoom_71 (by decide) ?_
      exact ev_retI .boolean dX6_hasRoom_72 rfl rfl h
    · refine ev_icmp_gt_n 71 dX6_hasRoom_64 rfl c18 ?_
      refine ev_iconst (v := 1) dX6_hasRoom_67 (by decide) ?_
      refine ev_goto (tgt := 72) dX6_hasRoom_68 rfl ?_
      exact ev_retI .boolean dX6_hasRoom_72 rfl rfl h
def s_X6_hasRoom_18 (a0 : Nat) (a2 : Nat) (a3 : Option Nat) (t0 : Int32) (σ : St) : Option (Int32 × St) :=
 on a3 (s_X6_hasRoom_32 a0 a2 t0 0 σ) fun w19 => if isO σ 1 w19 = true then (bd (s_X1_loans w19 σ) fun r24 σ22 =>
 s_X6_hasRoom_32 a0 a2 t0 r24 σ22) else none
set_option maxHeartbeats 4000000 in
set_option maxRecDepth 100000 in
theorem e_X6_hasRoom_18 {r : Int32} {σ' : St} : ∀ {a0 : Nat} {a2 : Nat} {a3 : Option Nat} {t0 : Int32} {σ : St}, s_X6_hasRoom_18 a0 a2 a3 t0 σ = some (r, σ') → Ev M_X6_hasRoom (3) 18 [(0, .ref a0), (2, .ref a2), (3, va_rf a3)] [.int (t0)] σ (some (.int r)) σ' := by
  intro a0 a2 a3 t0 σ h
  unfold s_X6_hasRoom_18 at h
  refine ev_istore (ls' := [(4, .int (t0)), (0, .ref a0), (2, .ref a2), (3, va_rf a3)]) dX6_hasRoom_18 (by decide) (by cases a3 <;> rfl) ?_
  refine ev_aload_n 3 dX6_hasRoom_20 rfl ?_
  rcases on_some h with ⟨e20, h⟩ | ⟨w19, e20, h⟩
  · rw [e20]
    refine ev_ifnonnull_n dX6_hasRoom_21 ?_
    refine ev_iconst (v := 0) dX6_hasRoom_24 (by decide) ?_
    refine ev_goto (tgt := 32) dX6_hasRoom_25 rfl ?_
    refine ev_sub (ls' := [(0, .ref a0), (2, .ref a2), (4, .int (t0))]) [1, 2, 0] rfl ?_
    exact e_X6_hasRoom_32  h
  · rw [e20]
    refine ev_ifnonnull (tgt := 28) dX6_hasRoom_21 rfl ?_
    refine ev_aload_nR 3 dX6_hasRoom_28 rfl ?_
    obtain ⟨g21, h⟩ := gd_some h
    obtain ⟨r24, σ22, e23, h⟩ := bd_some h
    refine ev_invVi (As := []) (st := []) dX6_hasRoom_29 cb_X1_loans tp_434 tp_435 tp_436 kf1 rfl (by omega) g21 rfl rfl (Nat.le_of_ble_eq_true rfl) (x_X1_loans e23) ?_
    refine ev_sub (ls' := [(0, .ref a0), (2, .ref a2), (4, .int (t0))]) [1, 2, 0] rfl ?_
    exact e_X6_hasRoom_32  h
def s_X6_hasRoom (a0 : Nat) (a1 : Int32) (a2 : Nat) (σ : St) : Option (Int32 × St) :=
 if isO σ 6 a0 = true then (bd (s_X6_at a0 a1 σ) fun r28 σ26 =>
 on r28 (s_X6_hasRoom_18 a0 a2 none 0 σ26) fun w29 => if isO σ26 1 w29 = true then (bd (s_X1_nodes w29 σ26) fun r34 σ32 =>
 s_X6_hasRoom_18 a0 a2 (some w29) r34 σ32) else none) else none
set_option maxHeartbeats 4000000 in
set_option maxRecDepth 100000 in
theorem x_X6_hasRoom {a0 : Nat} {a1 : Int32} {a2 : Nat} {σ : St} {r : Int32} {σ' : St} (h : s_X6_hasRoom a0 a1 a2 σ = some (r, σ')) : Ex M_X6_hasRoom (3) [.ref a0, .int (a1), .ref a2] σ (some (.int r)) σ' := by
  unfold s_X6_hasRoom at h
  refine ex_of (by decide) rfl (Nat.le_of_ble_eq_true rfl) ?_
  show Ev _ _ 0 [(0, .ref a0), (1, .int (a1)), (2, .ref a2)] [] _ _ _
  refine ev_aload_nR 0 dX6_hasRoom_0 rfl ?_
  refine ev_iload_n 1 dX6_hasRoom_1 rfl ?_
  obtain ⟨g25, h⟩ := gd_some h
  obtain ⟨r28, σ26, e27, h⟩ := bd_some h
  refine ev_invVq (As := [.int (a1)]) (st := []) dX6_hasRoom_2 cb_X6_at tp_426 tp_427 tp_428 kf6 rfl (by omega) g25 rfl rfl (Nat.le_of_ble_eq_true rfl) (x_X6_at e27) ?_
  refine ev_astore_n (ls' := [(3, va_rf r28), (0, .ref a0), (1, .int (a1)), (2, .ref a2)]) dX6_hasRoom_5 (by decide) rfl ?_
  refine ev_aload_n 0 dX6_hasRoom_6 rfl ?_
  rcases on_some h with ⟨e30, h⟩ | ⟨w29, e30, h⟩
  · rw [e30]
    refine ev_ifnonnull_n dX6_hasRoom_7 ?_
    refine ev_iconst (v := 0) dX6_hasRoom_10 (by decide) ?_
    refine ev_goto (tgt := 18) dX6_hasRoom_11 rfl ?_
    refine ev_sub (ls' := [(0, .ref a0), (2, .ref a2), (3, va_rf none)]) [1, 3, 0] rfl ?_
    exact e_X6_hasRoom_18  h
  · rw [e30]
    refine ev_ifnonnull (tgt := 14) dX6_hasRoom_7 rfl ?_
    refine ev_aload_nR 0 dX6_hasRoom_14 rfl ?_
    obtain ⟨g31, h⟩ := gd_some h
    obtain ⟨r34, σ32, e33, h⟩ := bd_some h
    refine ev_invVi (As := []) (st := []) dX6_hasRoom_15 cb_X1_nodes tp_430 tp_431 tp_432 kf1 rfl (by omega) g31 rfl rfl (Nat.le_of_ble_eq_true rfl) (x_X1_nodes e33) ?_
    refine ev_sub (ls' := [(0, .ref a0), (2, .ref a2), (3, va_rf (some w29))]) [1, 3, 0] rfl ?_
    exact e_X6_hasRoom_18  h
def s_X7_init (a0 : Nat) (σ : St) : Option (Unit × St) :=
 lt (sn σ) fun n1 => lt (newC σ 12 (60 : Int32).toNatClampNeg) fun σ3 =>
 if isO σ3 7 a0 = true then (lt (setP σ3 a0 0 (some n1)) fun σ6 =>
 lt (setI σ6 a0 1 0) fun σ8 =>
 some ((), σ8)) else none
set_option maxHeartbeats 4000000 in
set_option maxRecDepth 100000 in
theorem x_X7_init {a0 : Nat} {σ : St} {r : Unit} {σ' : St} (h : s_X7_init a0 σ = some (r, σ')) : Ex M_X7_init (1) [.ref a0] σ none σ' := by
  unfold s_X7_init at h
  refine ex_of (by decide) rfl (Nat.le_of_ble_eq_true rfl) ?_
  show Ev _ _ 0 [(0, .ref a0)] [] _ _ _
  refine ev_aload_nR 0 dX7_init_0 rfl ?_
  refine ev_objinit dX7_init_1 tp_81 tp_74 tp_75 (by omega) (Nat.le_of_ble_eq_true rfl) ?_
  refine ev_aload_nR 0 dX7_init_4 rfl ?_
  refine ev_bipush (v := 60) dX7_init_5 (by decide) ?_
  obtain ⟨n1, e2, h⟩ := lt_some h
  obtain ⟨σ3, e4, h⟩ := lt_some h
  refine ev_newaR (k := 12) dX7_init_7 (by decide) tp_89 (by decide) e2 ?_
  refine ev_st e4 ?_
  obtain ⟨g5, h⟩ := gd_some h
  obtain ⟨σ6, e7, h⟩ := lt_some h
  refine ev_putPR dX7_init_9 fl_X7_9 rfl (Or.inr ⟨rfl, rfl⟩) g5 ?_
  refine ev_st e7 ?_
  refine ev_aload_nR 0 dX7_init_12 rfl ?_
  refine ev_iconst (v := 0) dX7_init_13 (by decide) ?_
  obtain ⟨σ8, e9, h⟩ := lt_some h
  refine ev_putI dX7_init_14 fl_X7_15 rfl (Or.inl rfl) (isO_P e7 g5) ⟨rfl, rfl⟩ ?_
  refine ev_st e9 ?_
  exact ev_retV dX7_init_17 rfl h
def s_X7_append (a0 : Nat) (a1 : Int32) (σ : St) : Option (Int32 × St) :=
 if isO σ 7 a0 = true then (if (sI σ a0 1) < 0 then (some (0, σ)) else (op (sP σ a0 0) fun p3 =>
 if isO σ 12 p3 = true then (if (sI σ a0 1) < (nI (alen σ p3)) then (if inR (sI σ a0 1) (alen σ p3) = true then (lt (setI σ p3 ((sI σ a0 1).toNatClampNeg) (a1.toUInt32 % 65536).toInt32) fun σ8 =>
 lt (setI σ8 a0 1 ((sI σ8 a0 1) + 1)) fun σ10 =>
 some (1, σ10)) else none) else (some (0, σ))) else none)) else none
set_option maxHeartbeats 4000000 in
set_option maxRecDepth 100000 in
theorem x_X7_append {a0 : Nat} {a1 : Int32} {σ : St} {r : Int32} {σ' : St} (h : s_X7_append a0 a1 σ = some (r, σ')) : Ex M_X7_append (1) [.ref a0, .int (a1)] σ (some (.int r)) σ' := by
  unfold s_X7_append at h
  refine ex_of (by decide) rfl (Nat.le_of_ble_eq_true rfl) ?_
  show Ev _ _ 0 [(0, .ref a0), (1, .int (a1))] [] _ _ _
  refine ev_aload_nR 0 dX7_append_0 rfl ?_
  obtain ⟨g1, h⟩ := gd_some h
  refine ev_getI dX7_append_1 fl_X7_15 rfl g1 ?_
  rcases it_some h with ⟨c2, h⟩ | ⟨c2, h⟩
  · refine ev_if_lt (tgt := 19) dX7_append_4 rfl c2 ?_
    refine ev_iconst (v := 0) dX7_append_19 (by decide) ?_
    exact ev_retI .boolean dX7_append_20 rfl rfl h
  · refine ev_if_lt_n 19 dX7_append_4 rfl c2 ?_
    refine ev_aload_nR 0 dX7_append_7 rfl ?_
    refine ev_getI dX7_append_8 fl_X7_15 rfl g1 ?_
    refine ev_aload_nR 0 dX7_append_11 rfl ?_
    obtain ⟨p3, e4, h⟩ := op_some h
    refine ev_getPR dX7_append_12 fl_X7_9 rfl g1 e4 ?_
    obtain ⟨g5, h⟩ := gd_some h
    refine ev_alen dX7_append_15 (isA_O g5) (by decide) ?_
    rcases it_some h with ⟨c6, h⟩ | ⟨c6, h⟩
    · refine ev_icmp_lt (tgt := 21) dX7_append_16 rfl c6 ?_
      refine ev_aload_nR 0 dX7_append_21 rfl ?_
      refine ev_getPR dX7_append_22 fl_X7_9 rfl g1 e4 ?_
      refine ev_aload_nR 0 dX7_append_25 rfl ?_
      refine ev_getI dX7_append_26 fl_X7_15 rfl g1 ?_
      refine ev_iload_n 1 dX7_append_29 rfl ?_
      obtain ⟨g7, h⟩ := gd_some h
      obtain ⟨σ8, e9, h⟩ := lt_some h
      refine ev_cast dX7_append_30 (isO_spec g5).1 (isA_O g5) g7 ?_
      refine ev_st e9 ?_
      refine ev_aload_nR 0 dX7_append_31 rfl ?_
      refine ev_dup dX7_append_32 rfl ?_
      refine ev_getI dX7_append_33 fl_X7_15 rfl (isO_I e9 g1) ?_
      refine ev_iconst (v := 1) dX7_append_36 (by decide) ?_
      refine ev_iadd dX7_append_37 ?_
      obtain ⟨σ10, e11, h⟩ := lt_some h
      refine ev_putI dX7_append_38 fl_X7_15 rfl (Or.inl rfl) (isO_I e9 g1) ⟨rfl, rfl⟩ ?_
      refine ev_st e11 ?_
      refine ev_iconst (v := 1) dX7_append_41 (by decide) ?_
      exact ev_retI .boolean dX7_append_42 rfl rfl h
    · refine ev_icmp_lt_n 21 dX7_append_16 rfl c6 ?_
      refine ev_iconst (v := 0) dX7_append_19 (by decide) ?_
      exact ev_retI .boolean dX7_append_20 rfl rfl h
def s_X7_length (a0 : Nat) (σ : St) : Option (Int32 × St) :=
 if isO σ 7 a0 = true then (some (sI σ a0 1, σ)) else none
set_option maxHeartbeats 4000000 in
set_option maxRecDepth 100000 in
theorem x_X7_length {a0 : Nat} {σ : St} {r : Int32} {σ' : St} (h : s_X7_length a0 σ = some (r, σ')) : Ex M_X7_length (1) [.ref a0] σ (some (.int r)) σ' := by
  unfold s_X7_length at h
  refine ex_of (by decide) rfl (Nat.le_of_ble_eq_true rfl) ?_
  show Ev _ _ 0 [(0, .ref a0)] [] _ _ _
  refine ev_aload_nR 0 dX7_length_0 rfl ?_
  obtain ⟨g1, h⟩ := gd_some h
  refine ev_getI dX7_length_1 fl_X7_15 rfl g1 ?_
  exact ev_retI .int dX7_length_4 rfl rfl h
def sb_X7_copy_21 (k21 : Nat → Nat → Int32 → St → Option (Option Nat × St)) (a0 : Nat) (a1 : Nat) (a2 : Int32) (σ : St) : Option (Option Nat × St) :=
 if isO σ 12 a1 = true then (if (nI (alen σ a1)) ≤ a2 then (some (some a1, σ)) else (if isO σ 7 a0 = true then (op (sP σ a0 0) fun p4 =>
 if isO σ 12 p4 = true then (if (nI (alen σ p4)) ≤ a2 then (some (some a1, σ)) else (if inR a2 (alen σ p4) = true then (if inR a2 (alen σ a1) = true then (lt (setI σ a1 a2.toNatClampNeg ((sI σ p4 a2.toNatClampNeg).toUInt32 % 65536).toInt32) fun σ10 =>
 lt (a2 + 1 : Int32) fun v12 =>
 k21 a0 a1 v12 σ10) else none) else none)) else none) else none)) else none
def s_X7_copy_21 (F : Nat) : Nat → Nat → Int32 → St → Option (Option Nat × St) := lp (fun _ _ _ _ => none) (sb_X7_copy_21 ) F
set_option maxHeartbeats 4000000 in
set_option maxRecDepth 100000 in
theorem e_X7_copy_21 {r : Option Nat} {σ' : St} (F : Nat) : ∀ {a0 : Nat} {a1 : Nat} {a2 : Int32} {σ : St}, s_X7_copy_21 F a0 a1 a2 σ = some (r, σ') → Ev M_X7_copy (1) 21 [(0, .ref a0), (1, .ref a1), (2, .int (a2))] [] σ (some (va_rf r)) σ' := by
  induction F with
  | zero => intro a0 a1 a2 σ h; cases h
  | succ F ih =>
    intro a0 a1 a2 σ h
    change sb_X7_copy_21  (s_X7_copy_21 F) a0 a1 a2 σ = some (r, σ') at h
    unfold sb_X7_copy_21 at h
    have hk21 := @ih
    refine ev_iload_n 2 dX7_copy_21 rfl ?_
    refine ev_aload_nR 1 dX7_copy_22 rfl ?_
    obtain ⟨g1, h⟩ := gd_some h
    refine ev_alen dX7_copy_23 (isA_O g1) (by decide) ?_
    rcases it_some h with ⟨c2, h⟩ | ⟨c2, h⟩
    · refine ev_icmp_ge (tgt := 51) dX7_copy_24 rfl c2 ?_
      refine ev_aload_nR 1 dX7_copy_51 rfl ?_
      exact ev_retQ (x := some a1) _ dX7_copy_52 rfl (Or.inr ⟨_, rfl⟩) h
    · refine ev_icmp_ge_n 51 dX7_copy_24 rfl c2 ?_
      refine ev_iload_n 2 dX7_copy_27 rfl ?_
      refine ev_aload_nR 0 dX7_copy_28 rfl ?_
      obtain ⟨g3, h⟩ := gd_some h
      obtain ⟨p4, e5, h⟩ := op_some h
      refine ev_getPR dX7_copy_29 fl_X7_9 rfl g3 e5 ?_
      obtain ⟨g6, h⟩ := gd_some h
      refine ev_alen dX7_copy_32 (isA_O g6) (by decide) ?_
      rcases it_some h with ⟨c7, h⟩ | ⟨c7, h⟩
      · refine ev_icmp_ge (tgt := 51) dX7_copy_33 rfl c7 ?_
        refine ev_aload_nR 1 dX7_copy_51 rfl ?_
        exact ev_retQ (x := some a1) _ dX7_copy_52 rfl (Or.inr ⟨_, rfl⟩) h
      · refine ev_icmp_ge_n 51 dX7_copy_33 rfl c7 ?_
        refine ev_aload_nR 1 dX7_copy_36 rfl ?_
        refine ev_iload_n 2 dX7_copy_37 rfl ?_
        refine ev_aload_nR 0 dX7_copy_38 rfl ?_
        refine ev_getPR dX7_copy_39 fl_X7_9 rfl g3 e5 ?_
        refine ev_iload_n 2 dX7_copy_42 rfl ?_
        obtain ⟨g8, h⟩ := gd_some h
        refine ev_cald dX7_copy_43 (isA_O g6) g8 ?_
        obtain ⟨g9, h⟩ := gd_some h
        obtain ⟨σ10, e11, h⟩ := lt_some h
        refine ev_cast dX7_copy_44 (isO_spec g1).1 (isA_O g1) g9 ?_
        refine ev_st e11 ?_
        obtain ⟨v12, e13, h⟩ := lt_some h
        refine ev_iinc (v := v12) (ls' := [(2, .int (v12)), (0, .ref a0), (1, .ref a1)]) 2 dX7_copy_45 rfl e13.symm (by decide) rfl ?_
        refine ev_goto (tgt := 21) dX7_copy_48 rfl ?_
        refine ev_sub (ls' := [(0, .ref a0), (1, .ref a1), (2, .int (v12))]) [1, 2, 0] rfl ?_
        exact hk21 h
def s_X7_copy (a0 : Nat) (σ : St) : Option (Option Nat × St) :=
 if isO σ 7 a0 = true then (op (sP σ a0 0) fun p15 =>
 if isO σ 12 p15 = true then (lt (if (nI (alen σ p15)) < (sI σ a0 1) then (nI (alen σ p15)) else (sI σ a0 1) : Int32) fun v18 =>
 lt (if 0 < v18 then v18 else 0 : Int32) fun v20 =>
 if inR v20 1000001 = true then (lt (sn σ) fun n22 => lt (newC σ 12 v20.toNatClampNeg) fun σ24 =>
 s_X7_copy_21 16000 a0 n22 0 σ24) else none) else none) else none
set_option maxHeartbeats 4000000 in
set_option maxRecDepth 100000 in
theorem x_X7_copy {a0 : Nat} {σ : St} {r : Option Nat} {σ' : St} (h : s_X7_copy a0 σ = some (r, σ')) : Ex M_X7_copy (1) [.ref a0] σ (some (va_rf r)) σ' := by
  unfold s_X7_copy at h
  refine ex_of (by decide) rfl (Nat.le_of_ble_eq_true rfl) ?_
  show Ev _ _ 0 [(0, .ref a0)] [] _ _ _
  refine ev_iconst (v := 0) dX7_copy_0 (by decide) ?_
  refine ev_aload_nR 0 dX7_copy_1 rfl ?_
  obtain ⟨g14, h⟩ := gd_some h
  refine ev_getI dX7_copy_2 fl_X7_15 rfl g14 ?_
  refine ev_aload_nR 0 dX7_copy_5 rfl ?_
  obtain ⟨p15, e16, h⟩ := op_some h
  refine ev_getPR dX7_copy_6 fl_X7_9 rfl g14 e16 ?_
  obtain ⟨g17, h⟩ := gd_some h
  refine ev_alen dX7_copy_9 (isA_O g17) (by decide) ?_
  refine ev_mmin dX7_copy_10 tp_299 tp_300 tp_65 tp_301 (by omega) (Nat.le_of_ble_eq_true rfl) ?_
  obtain ⟨v18, e19, h⟩ := lt_some h
  refine ev_topI e19 ?_
  refine ev_mmax dX7_copy_13 tp_302 tp_303 tp_65 tp_304 (by omega) (Nat.le_of_ble_eq_true rfl) ?_
  obtain ⟨v20, e21, h⟩ := lt_some h
  refine ev_topI e21 ?_
  obtain ⟨g26, h⟩ := gd_some h
  obtain ⟨n22, e23, h⟩ := lt_some h
  obtain ⟨σ24, e25, h⟩ := lt_some h
  refine ev_newaR (k := 12) dX7_copy_16 (by decide) tp_89 g26 e23 ?_
  refine ev_st e25 ?_
  refine ev_astore_nR (ls' := [(1, .ref n22), (0, .ref a0)]) dX7_copy_18 (by decide) rfl ?_
  refine ev_iconst (v := 0) dX7_copy_19 (by decide) ?_
  refine ev_istore_n (ls' := [(2, .int (0)), (1, .ref n22), (0, .ref a0)]) dX7_copy_20 (by decide) rfl ?_
  refine ev_sub (ls' := [(0, .ref a0), (1, .ref n22), (2, .int (0))]) [2, 1, 0] rfl ?_
  exact e_X7_copy_21 16000 h
def s_X7_clear (a0 : Nat) (σ : St) : Option (Unit × St) :=
 if isO σ 7 a0 = true then (lt (setI σ a0 1 0) fun σ2 =>
 some ((), σ2)) else none
set_option maxHeartbeats 4000000 in
set_option maxRecDepth 100000 in
theorem x_X7_clear {a0 : Nat} {σ : St} {r : Unit} {σ' : St} (h : s_X7_clear a0 σ = some (r, σ')) : Ex M_X7_clear (1) [.ref a0] σ none σ' := by
  unfold s_X7_clear at h
  refine ex_of (by decide) rfl (Nat.le_of_ble_eq_true rfl) ?_
  show Ev _ _ 0 [(0, .ref a0)] [] _ _ _
  refine ev_aload_nR 0 dX7_clear_0 rfl ?_
  refine ev_iconst (v := 0) dX7_clear_1 (by decide) ?_
  obtain ⟨g1, h⟩ := gd_some h
  obtain ⟨σ2, e3, h⟩ := lt_some h
  refine ev_putI dX7_clear_2 fl_X7_15 rfl (Or.inl rfl) g1 ⟨rfl, rfl⟩ ?_
  refine ev_st e3 ?_
  exact ev_retV dX7_clear_5 rfl h
def s_X8_init (a0 : Nat) (σ : St) : Option (Unit × St) :=
 lt (sn σ) fun n1 => lt (newC σ 13 (60 : Int32).toNatClampNeg) fun σ3 =>
 if isO σ3 8 a0 = true then (lt (setP σ3 a0 0 (some n1)) fun σ6 =>
 lt (setI σ6 a0 1 0) fun σ8 =>
 some ((), σ8)) else none
set_option maxHeartbeats 4000000 in
set_option maxRecDepth 100000 in
theorem x_X8_init {a0 : Nat} {σ : St} {r : Unit} {σ' : St} (h : s_X8_init a0 σ = some (r, σ')) : Ex M_X8_init (1) [.ref a0] σ none σ' := by
  unfold s_X8_init at h
  refine ex_of (by decide) rfl (Nat.le_of_ble_eq_true rfl) ?_
  show Ev _ _ 0 [(0, .ref a0)] [] _ _ _
  refine ev_aload_nR 0 dX8_init_0 rfl ?_
  refine ev_objinit dX8_init_1 tp_208 tp_74 tp_75 (by omega) (Nat.le_of_ble_eq_true rfl) ?_
  refine ev_aload_nR 0 dX8_init_4 rfl ?_
  refine ev_bipush (v := 60) dX8_init_5 (by decide) ?_
  obtain ⟨n1, e2, h⟩ := lt_some h
  obtain ⟨σ3, e4, h⟩ := lt_some h
  refine ev_newaR (k := 13) dX8_init_7 (by decide) tp_134 (by decide) e2 ?_
  refine ev_st e4 ?_
  obtain ⟨g5, h⟩ := gd_some h
  obtain ⟨σ6, e7, h⟩ := lt_some h
  refine ev_putPR dX8_init_9 fl_X8_9 rfl (Or.inr ⟨rfl, rfl⟩) g5 ?_
  refine ev_st e7 ?_
  refine ev_aload_nR 0 dX8_init_12 rfl ?_
  refine ev_iconst (v := 0) dX8_init_13 (by decide) ?_
  obtain ⟨σ8, e9, h⟩ := lt_some h
  refine ev_putI dX8_init_14 fl_X8_15 rfl (Or.inl rfl) (isO_P e7 g5) ⟨rfl, rfl⟩ ?_
  refine ev_st e9 ?_
  exact ev_retV dX8_init_17 rfl h
def s_X8_append (a0 : Nat) (a1 : Int32) (σ : St) : Option (Int32 × St) :=
 if isO σ 8 a0 = true then (if (sI σ a0 1) < 0 then (some (0, σ)) else (op (sP σ a0 0) fun p3 =>
 if isO σ 13 p3 = true then (if (sI σ a0 1) < (nI (alen σ p3)) then (if inR (sI σ a0 1) (alen σ p3) = true then (lt (setI σ p3 ((sI σ a0 1).toNatClampNeg) a1) fun σ8 =>
 lt (setI σ8 a0 1 ((sI σ8 a0 1) + 1)) fun σ10 =>
 some (1, σ10)) else none) else (some (0, σ))) else none)) else none
set_option maxHeartbeats 4000000 in
set_option maxRecDepth 100000 in
theorem x_X8_append {a0 : Nat} {a1 : Int32} {σ : St} {r : Int32} {σ' : St} (h : s_X8_append a0 a1 σ = some (r, σ')) : Ex M_X8_append (1) [.ref a0, .int (a1)] σ (some (.int r)) σ' := by
  unfold s_X8_append at h
  refine ex_of (by decide) rfl (Nat.le_of_ble_eq_true rfl) ?_
  show Ev _ _ 0 [(0, .ref a0), (1, .int (a1))] [] _ _ _
  refine ev_aload_nR 0 dX8_append_0 rfl ?_
  obtain ⟨g1, h⟩ := gd_some h
  refine ev_getI dX8_append_1 fl_X8_15 rfl g1 ?_
  rcases it_some h with ⟨c2, h⟩ | ⟨c2, h⟩
  · refine ev_if_lt (tgt := 19) dX8_append_4 rfl c2 ?_
    refine ev_iconst (v := 0) dX8_append_19 (by decide) ?_
    exact ev_retI .boolean dX8_append_20 rfl rfl h
  · refine ev_if_lt_n 19 dX8_append_4 rfl c2 ?_
    refine ev_aload_nR 0 dX8_append_7 rfl ?_
    refine ev_getI dX8_append_8 fl_X8_15 rfl g1 ?_
    refine ev_aload_nR 0 dX8_append_11 rfl ?_
    obtain ⟨p3, e4, h⟩ := op_some h
    refine ev_getPR dX8_append_12 fl_X8_9 rfl g1 e4 ?_
    obtain ⟨g5, h⟩ := gd_some h
    refine ev_alen dX8_append_15 (isA_O g5) (by decide) ?_
    rcases it_some h with ⟨c6, h⟩ | ⟨c6, h⟩
    · refine ev_icmp_lt (tgt := 21) dX8_append_16 rfl c6 ?_
      refine ev_aload_nR 0 dX8_append_21 rfl ?_
      refine ev_getPR dX8_append_22 fl_X8_9 rfl g1 e4 ?_
      refine ev_aload_nR 0 dX8_append_25 rfl ?_
      refine ev_getI dX8_append_26 fl_X8_15 rfl g1 ?_
      refine ev_iload_n 1 dX8_append_29 rfl ?_
      obtain ⟨g7, h⟩ := gd_some h
      obtain ⟨σ8, e9, h⟩ := lt_some h
      refine ev_iast dX8_append_30 (isO_spec g5).1 (isA_O g5) g7 ?_
      refine ev_st e9 ?_
      refine ev_aload_nR 0 dX8_append_31 rfl ?_
      refine ev_dup dX8_append_32 rfl ?_
      refine ev_getI dX8_append_33 fl_X8_15 rfl (isO_I e9 g1) ?_
      refine ev_iconst (v := 1) dX8_append_36 (by decide) ?_
      refine ev_iadd dX8_append_37 ?_
      obtain ⟨σ10, e11, h⟩ := lt_some h
      refine ev_putI dX8_append_38 fl_X8_15 rfl (Or.inl rfl) (isO_I e9 g1) ⟨rfl, rfl⟩ ?_
      refine ev_st e11 ?_
      refine ev_iconst (v := 1) dX8_append_41 (by decide) ?_
      exact ev_retI .boolean dX8_append_42 rfl rfl h
    · refine ev_icmp_lt_n 21 dX8_append_16 rfl c6 ?_
      refine ev_iconst (v := 0) dX8_append_19 (by decide) ?_
      exact ev_retI .boolean dX8_append_20 rfl rfl h
def s_X8_clear (a0 : Nat) (σ : St) : Option (Unit × St) :=
 if isO σ 8 a0 = true then (lt (setI σ a0 1 0) fun σ2 =>
 some ((), σ2)) else none
set_option maxHeartbeats 4000000 in
set_option maxRecDepth 100000 in
theorem x_X8_clear {a0 : Nat} {σ : St} {r : Unit} {σ' : St} (h : s_X8_clear a0 σ = some (r, σ')) : Ex M_X8_clear (1) [.ref a0] σ none σ' := by
  unfold s_X8_clear at h
  refine ex_of (by decide) rfl (Nat.le_of_ble_eq_true rfl) ?_
  show Ev _ _ 0 [(0, .ref a0)] [] _ _ _
  refine ev_aload_nR 0 dX8_clear_0 rfl ?_
  refine ev_iconst (v := 0) dX8_clear_1 (by decide) ?_
  obtain ⟨g1, h⟩ := gd_some h
  obtain ⟨σ2, e3, h⟩ := lt_some h
  refine ev_putI dX8_clear_2 fl_X8_15 rfl (Or.inl rfl) g1 ⟨rfl, rfl⟩ ?_
  refine ev_st e3 ?_
  exact ev_retV dX8_clear_5 rfl h
def s_X9_init (a0 : Nat) (a1 : Nat) (a2 : Nat) (σ : St) : Option (Unit × St) :=
 lt (sn σ) fun n1 => lt (newC σ 14 (153600 : Int32).toNatClampNeg) fun σ3 =>
 if isO σ3 9 a0 = true then (lt (setP σ3 a0 2 (some n1)) fun σ6 =>
 lt (setL σ6 a0 3 0) fun σ8 =>
 lt (setP σ8 a0 0 (some a1)) fun σ10 =>
 lt (setP σ10 a0 1 (some a2)) fun σ12 =>
 some ((), σ12)) else none
set_option maxHeartbeats 4000000 in
set_option maxRecDepth 100000 in
theorem x_X9_init {a0 : Nat} {a1 : Nat} {a2 : Nat} {σ : St} {r : Unit} {σ' : St} (h : s_X9_init a0 a1 a2 σ = some (r, σ')) : Ex M_X9_init (1) [.ref a0, .ref a1, .ref a2] σ none σ' := by
  unfold s_X9_init at h
  refine ex_of (by decide) rfl (Nat.le_of_ble_eq_true rfl) ?_
  show Ev _ _ 0 [(0, .ref a0), (1, .ref a1), (2, .ref a2)] [] _ _ _
  refine ev_aload_nR 0 dX9_init_0 rfl ?_
  refine ev_objinit dX9_init_1 tp_163 tp_74 tp_75 (by omega) (Nat.le_of_ble_eq_true rfl) ?_
  refine ev_aload_nR 0 dX9_init_4 rfl ?_
  refine ev_ldc dX9_init_5 tp_164 ?_
  obtain ⟨n1, e2, h⟩ := lt_some h
  obtain ⟨σ3, e4, h⟩ := lt_some h
  refine ev_newaR (k := 14) dX9_init_7 (by decide) tp_157 (by decide) e2 ?_
  refine ev_st e4 ?_
  obtain ⟨g5, h⟩ := gd_some h
  obtain ⟨σ6, e7, h⟩ := lt_some h
  refine ev_putPR dX9_init_9 fl_X9_12 rfl (Or.inr ⟨rfl, rfl⟩) g5 ?_
  refine ev_st e7 ?_
  refine ev_aload_nR 0 dX9_init_12 rfl ?_
  refine ev_lconst (v := 0) dX9_init_13 (by decide) ?_
  obtain ⟨σ8, e9, h⟩ := lt_some h
  refine ev_putL dX9_init_14 fl_X9_16 rfl (Or.inl rfl) (isO_P e7 g5) ?_
  refine ev_st e9 ?_
  refine ev_aload_nR 0 dX9_init_17 rfl ?_
  refine ev_aload_nR 1 dX9_init_18 rfl ?_
  obtain ⟨σ10, e11, h⟩ := lt_some h
  refine ev_putPR dX9_init_19 fl_X9_20 rfl (Or.inr ⟨rfl, rfl⟩) (isO_L e9 (isO_P e7 g5)) ?_
  refine ev_st e11 ?_
  refine ev_aload_nR 0 dX9_init_22 rfl ?_
  refine ev_aload_nR 2 dX9_init_23 rfl ?_
  obtain ⟨σ12, e13, h⟩ := lt_some h
  refine ev_putPR dX9_init_24 fl_X9_24 rfl (Or.inr ⟨rfl, rfl⟩) (isO_P e11 (isO_L e9 (isO_P e7 g5))) ?_
  refine ev_st e13 ?_
  exact ev_retV dX9_init_27 rfl h
def s_X9_forget (a0 : Nat) (σ : St) : Option (Unit × St) :=
 if isO σ 9 a0 = true then (lt (setL σ a0 3 ((sL σ a0 3) + 1)) fun σ2 =>
 some ((), σ2)) else none
set_option maxHeartbeats 4000000 in
set_option maxRecDepth 100000 in
theorem x_X9_forget {a0 : Nat} {σ : St} {r : Unit} {σ' : St} (h : s_X9_forget a0 σ = some (r, σ')) : Ex M_X9_forget (1) [.ref a0] σ none σ' := by
  unfold s_X9_forget at h
  refine ex_of (by decide) rfl (Nat.le_of_ble_eq_true rfl) ?_
  show Ev _ _ 0 [(0, .ref a0)] [] _ _ _
  refine ev_aload_nR 0 dX9_forget_0 rfl ?_
  refine ev_dup dX9_forget_1 rfl ?_
  obtain ⟨g1, h⟩ := gd_some h
  refine ev_getL dX9_forget_2 fl_X9_16 rfl g1 ?_
  refine ev_lconst (v := 1) dX9_forget_5 (by decide) ?_
  refine ev_ladd dX9_forget_6 ?_
  obtain ⟨σ2, e3, h⟩ := lt_some h
  refine ev_putL dX9_forget_7 fl_X9_16 rfl (Or.inl rfl) g1 ?_
  refine ev_st e3 ?_
  exact ev_retV dX9_forget_10 rfl h
def s_X9_number (a0 : Nat) (a1 : Int32) (a2 : Int32) (σ : St) : Option (Int32 × St) :=
 if isO σ 9 a0 = true then (op (sP σ a0 0) fun p2 =>
 if isO σ 3 p2 = true then (bd (s_X3_root p2 σ) fun r7 σ5 =>
 if isO σ5 9 a0 = true then (bd (s_X9_tally 12 a0 r7 a1 a2 σ5) fun r11 σ9 =>
 some (r11.toInt32, σ9)) else none) else none) else none
set_option maxHeartbeats 4000000 in
set_option maxRecDepth 100000 in
theorem x_X9_number {a0 : Nat} {a1 : Int32} {a2 : Int32} {σ : St} {r : Int32} {σ' : St} (h : s_X9_number a0 a1 a2 σ = some (r, σ')) : Ex M_X9_number (73) [.ref a0, .int (a1), .int (a2)] σ (some (.int r)) σ' := by
  unfold s_X9_number at h
  refine ex_of (by decide) rfl (Nat.le_of_ble_eq_true rfl) ?_
  show Ev _ _ 0 [(0, .ref a0), (1, .int (a1)), (2, .int (a2))] [] _ _ _
  refine ev_aload_nR 0 dX9_number_0 rfl ?_
  refine ev_aload_nR 0 dX9_number_1 rfl ?_
  obtain ⟨g1, h⟩ := gd_some h
  obtain ⟨p2, e3, h⟩ := op_some h
  refine ev_getPR dX9_number_2 fl_X9_20 rfl g1 e3 ?_
  obtain ⟨g4, h⟩ := gd_some h
  obtain ⟨r7, σ5, e6, h⟩ := bd_some h
  refine ev_invVi (As := []) (st := [.ref a0]) dX9_number_5 cb_X3_root tp_858 tp_618 tp_619 kf3 rfl (by omega) g4 rfl rfl (Nat.le_of_ble_eq_true rfl) (x_X3_root e6) ?_
  refine ev_iload_n 1 dX9_number_8 rfl ?_
  refine ev_iload_n 2 dX9_number_9 rfl ?_
  obtain ⟨g8, h⟩ := gd_some h
  obtain ⟨r11, σ9, e10, h⟩ := bd_some h
  refine ev_invVl (As := [.int (r7), .int (a1), .int (a2)]) (st := []) dX9_number_10 cb_X9_tally tp_859 tp_861 tp_49 kf9 rfl (by omega) g8 rfl rfl (Nat.le_of_ble_eq_true rfl) (x_X9_tally 12 e10) ?_
  refine ev_l2i dX9_number_13 ?_
  exact ev_retI .int dX9_number_14 rfl rfl h
def s_X10_init (a0 : Nat) (σ : St) : Option (Unit × St) :=
 lt (sn σ) fun n1 => lt (newC σ 7 2) fun σ3 =>
 bd (s_X7_init n1 σ3) fun r7 σ5 =>
 if isO σ5 10 a0 = true then (lt (setP σ5 a0 0 (some n1)) fun σ9 =>
 lt (sn σ9) fun n11 => lt (newC σ9 6 1) fun σ13 =>
 bd (s_X6_init n11 σ13) fun r17 σ15 =>
 if isO σ15 10 a0 = true then (lt (setP σ15 a0 1 (some n11)) fun σ19 =>
 lt (sn σ19) fun n21 => lt (newC σ19 17 (2 : Int32).toNatClampNeg) fun σ23 =>
 lt (setP σ23 a0 2 (some n21)) fun σ25 =>
 lt (sn σ25) fun n27 => lt (newC σ25 3 8) fun σ29 =>
 bd (s_X3_init n27 σ29) fun r33 σ31 =>
 if isO σ31 10 a0 = true then (lt (setP σ31 a0 3 (some n27)) fun σ35 =>
 lt (sn σ35) fun n37 => lt (newC σ35 3 8) fun σ39 =>
 bd (s_X3_init n37 σ39) fun r43 σ41 =>
 if isO σ41 10 a0 = true then (lt (setP σ41 a0 4 (some n37)) fun σ45 =>
 lt (sn σ45) fun n47 => lt (newC σ45 4 5) fun σ49 =>
 op (sP σ49 a0 4) fun p51 =>
 bd (s_X4_init n47 p51 σ49) fun r55 σ53 =>
 if isO σ53 10 a0 = true then (lt (setP σ53 a0 5 (some n47)) fun σ57 =>
 lt (sn σ57) fun n59 => lt (newC σ57 9 4) fun σ61 =>
 op (sP σ61 a0 4) fun p63 =>
 op (sP σ61 a0 5) fun p65 =>
 bd (s_X9_init n59 p63 p65 σ61) fun r69 σ67 =>
 if isO σ67 10 a0 = true then (lt (setP σ67 a0 6 (some n59)) fun σ71 =>
 lt (sn σ71) fun n73 => lt (newC σ71 0 6) fun σ75 =>
 op (sP σ75 a0 4) fun p77 =>
 op (sP σ75 a0 5) fun p79 =>
 bd (s_X0_init n73 p77 p79 σ75) fun r83 σ81 =>
 if isO σ81 10 a0 = true then (lt (setP σ81 a0 7 (some n73)) fun σ85 =>
 lt (sn σ85) fun n87 => lt (newC σ85 8 2) fun σ89 =>
 bd (s_X8_init n87 σ89) fun r93 σ91 =>
 if isO σ91 10 a0 = true then (lt (setP σ91 a0 8 (some n87)) fun σ95 =>
 lt (sn σ95) fun n97 => lt (newC σ95 2 5) fun σ99 =>
 op (sP σ99 a0 4) fun p101 =>
 op (sP σ99 a0 8) fun p103 =>
 bd (s_X2_init n97 p101 p103 σ99) fun r107 σ105 =>
 if isO σ105 10 a0 = true then (lt (setP σ105 a0 9 (some n97)) fun σ109 =>
 lt (setI σ109 a0 10 ((-6))) fun σ111 =>
 lt (setI σ111 a0 11 1) fun σ113 =>
 some ((), σ113)) else none) else none) else none) else none) else none) else none) else none) else none) else none
set_option maxHeartbeats 4000000 in
set_option maxRecDepth 100000 in
theorem x_X10_init {a0 : Nat} {σ : St} {r : Unit} {σ' : St} (h : s_X10_init a0 σ = some (r, σ')) : Ex M_X10_init (2) [.ref a0] σ none σ' := by
  unfold s_X10_init at h
  refine ex_of (by decide) rfl (Nat.le_of_ble_eq_true rfl) ?_
  show Ev _ _ 0 [(0, .ref a0)] [] _ _ _
  refine ev_aload_nR 0 dX10_init_0 rfl ?_
  refine ev_objinit dX10_init_1 tp_73 tp_74 tp_75 (by omega) (Nat.le_of_ble_eq_true rfl) ?_
  refine ev_aload_nR 0 dX10_init_4 rfl ?_
  obtain ⟨n1, e2, h⟩ := lt_some h
  obtain ⟨σ3, e4, h⟩ := lt_some h
  refine ev_newR dX10_init_5 kf7 tp_76 tp_77 tp_56 e2 ?_
  refine ev_st e4 ?_
  refine ev_dup dX10_init_8 rfl ?_
  obtain ⟨r7, σ5, e6, h⟩ := bd_some h
  refine ev_invIN (r1 := none) (As := []) (st := [.ref n1, .ref a0]) dX10_init_9 cb_X7_init nl_X10_11 tp_79 rfl rfl (by omega) rfl rfl (Nat.le_of_ble_eq_true rfl) (x_X7_init e6) ?_
  show Ev _ _ _ _ [.ref n1, .ref a0] _ _ _
  obtain ⟨g8, h⟩ := gd_some h
  obtain ⟨σ9, e10, h⟩ := lt_some h
  refine ev_putPR dX10_init_12 fl_X10_12 rfl (Or.inr ⟨rfl, rfl⟩) g8 ?_
  refine ev_st e10 ?_
  refine ev_aload_nR 0 dX10_init_15 rfl ?_
  obtain ⟨n11, e12, h⟩ := lt_some h
  obtain ⟨σ13, e14, h⟩ := lt_some h
  refine ev_newR dX10_init_16 kf6 tp_90 tp_91 tp_57 e12 ?_
  refine ev_st e14 ?_
  refine ev_dup dX10_init_19 rfl ?_
  obtain ⟨r17, σ15, e16, h⟩ := bd_some h
  refine ev_invIN (r1 := none) (As := []) (st := [.ref n11, .ref a0]) dX10_init_20 cb_X6_init nl_X10_18 tp_93 rfl rfl (by omega) rfl rfl (Nat.le_of_ble_eq_true rfl) (x_X6_init e16) ?_
  show Ev _ _ _ _ [.ref n11, .ref a0] _ _ _
  obtain ⟨g18, h⟩ := gd_some h
  obtain ⟨σ19, e20, h⟩ := lt_some h
  refine ev_putPR dX10_init_23 fl_X10_19 rfl (Or.inr ⟨rfl, rfl⟩) g18 ?_
  refine ev_st e20 ?_
  refine ev_aload_nR 0 dX10_init_26 rfl ?_
  refine ev_iconst (v := 2) dX10_init_27 (by decide) ?_
  obtain ⟨n21, e22, h⟩ := lt_some h
  obtain ⟨σ23, e24, h⟩ := lt_some h
  refine ev_anewR (k := 17) (ko := 6) dX10_init_28 (by decide) tp_90 (by decide) e22 ?_
  refine ev_st e24 ?_
  obtain ⟨σ25, e26, h⟩ := lt_some h
  refine ev_putPR dX10_init_31 fl_X10_23 rfl (Or.inr ⟨rfl, rfl⟩) (isO_N e24 (isO_P e20 g18)) ?_
  refine ev_st e26 ?_
  refine ev_aload_nR 0 dX10_init_34 rfl ?_
  obtain ⟨n27, e28, h⟩ := lt_some h
  obtain ⟨σ29, e30, h⟩ := lt_some h
  refine ev_newR dX10_init_35 kf3 tp_103 tp_104 tp_58 e28 ?_
  refine ev_st e30 ?_
  refine ev_dup dX10_init_38 rfl ?_
  obtain ⟨r33, σ31, e32, h⟩ := bd_some h
  refine ev_invIN (r1 := none) (As := []) (st := [.ref n27, .ref a0]) dX10_init_39 cb_X3_init nl_X10_29 tp_106 rfl rfl (by omega) rfl rfl (Nat.le_of_ble_eq_true rfl) (x_X3_init e32) ?_
  show Ev _ _ _ _ [.ref n27, .ref a0] _ _ _
  obtain ⟨g34, h⟩ := gd_some h
  obtain ⟨σ35, e36, h⟩ := lt_some h
  refine ev_putPR dX10_init_42 fl_X10_30 rfl (Or.inr ⟨rfl, rfl⟩) g34 ?_
  refine ev_st e36 ?_
  refine ev_aload_nR 0 dX10_init_45 rfl ?_
  obtain ⟨n37, e38, h⟩ := lt_some h
  obtain ⟨σ39, e40, h⟩ := lt_some h
  refine ev_newR dX10_init_46 kf3 tp_103 tp_104 tp_58 e38 ?_
  refine ev_st e40 ?_
  refine ev_dup dX10_init_49 rfl ?_
  obtain ⟨r43, σ41, e42, h⟩ := bd_some h
  refine ev_invIN (r1 := none) (As := []) (st := [.ref n37, .ref a0]) dX10_init_50 cb_X3_init nl_X10_29 tp_106 rfl rfl (by omega) rfl rfl (Nat.le_of_ble_eq_true rfl) (x_X3_init e42) ?_
  show Ev _ _ _ _ [.ref n37, .ref a0] _ _ _
  obtain ⟨g44, h⟩ := gd_some h
  obtain ⟨σ45, e46, h⟩ := lt_some h
  refine ev_putPR dX10_init_53 fl_X10_34 rfl (Or.inr ⟨rfl, rfl⟩) g44 ?_
  refine ev_st e46 ?_
  refine ev_aload_nR 0 dX10_init_56 rfl ?_
  obtain ⟨n47, e48, h⟩ := lt_some h
  obtain ⟨σ49, e50, h⟩ := lt_some h
  refine ev_newR dX10_init_57 kf4 tp_135 tp_136 tp_59 e48 ?_
  refine ev_st e50 ?_
  refine ev_dup dX10_init_60 rfl ?_
  refine ev_aload_nR 0 dX10_init_61 rfl ?_
  obtain ⟨p51, e52, h⟩ := op_some h
  refine ev_getPR dX10_init_62 fl_X10_34 rfl (isO_N e50 (isO_P e46 g44)) e52 ?_
  obtain ⟨r55, σ53, e54, h⟩ := bd_some h
  refine ev_invI (r1 := none) (As := [.ref p51]) (st := [.ref n47, .ref a0]) dX10_init_65 cb_X4_init tp_137 tp_138 rfl rfl (by omega) rfl rfl (Nat.le_of_ble_eq_true rfl) (x_X4_init e54) ?_
  show Ev _ _ _ _ [.ref n47, .ref a0] _ _ _
  obtain ⟨g56, h⟩ := gd_some h
  obtain ⟨σ57, e58, h⟩ := lt_some h
  refine ev_putPR dX10_init_68 fl_X10_42 rfl (Or.inr ⟨rfl, rfl⟩) g56 ?_
  refine ev_st e58 ?_
  refine ev_aload_nR 0 dX10_init_71 rfl ?_
  obtain ⟨n59, e60, h⟩ := lt_some h
  obtain ⟨σ61, e62, h⟩ := lt_some h
  refine ev_newR dX10_init_72 kf9 tp_158 tp_159 tp_60 e60 ?_
  refine ev_st e62 ?_
  refine ev_dup dX10_init_75 rfl ?_
  refine ev_aload_nR 0 dX10_init_76 rfl ?_
  obtain ⟨p63, e64, h⟩ := op_some h
  refine ev_getPR dX10_init_77 fl_X10_34 rfl (isO_N e62 (isO_P e58 g56)) e64 ?_
  refine ev_aload_nR 0 dX10_init_80 rfl ?_
  obtain ⟨p65, e66, h⟩ := op_some h
  refine ev_getPR dX10_init_81 fl_X10_42 rfl (isO_N e62 (isO_P e58 g56)) e66 ?_
  obtain ⟨r69, σ67, e68, h⟩ := bd_some h
  refine ev_invI (r1 := none) (As := [.ref p63, .ref p65]) (st := [.ref n59, .ref a0]) dX10_init_84 cb_X9_init tp_160 tp_161 rfl rfl (by omega) rfl rfl (Nat.le_of_ble_eq_true rfl) (x_X9_init e68) ?_
  show Ev _ _ _ _ [.ref n59, .ref a0] _ _ _
  obtain ⟨g70, h⟩ := gd_some h
  obtain ⟨σ71, e72, h⟩ := lt_some h
  refine ev_putPR dX10_init_87 fl_X10_51 rfl (Or.inr ⟨rfl, rfl⟩) g70 ?_
  refine ev_st e72 ?_
  refine ev_aload_nR 0 dX10_init_90 rfl ?_
  obtain ⟨n73, e74, h⟩ := lt_some h
  obtain ⟨σ75, e76, h⟩ := lt_some h
  refine ev_newR dX10_init_91 kf0 tp_178 tp_179 tp_61 e74 ?_
  refine ev_st e76 ?_
  refine ev_dup dX10_init_94 rfl ?_
  refine ev_aload_nR 0 dX10_init_95 rfl ?_
  obtain ⟨p77, e78, h⟩ := op_some h
  refine ev_getPR dX10_init_96 fl_X10_34 rfl (isO_N e76 (isO_P e72 g70)) e78 ?_
  refine ev_aload_nR 0 dX10_init_99 rfl ?_
  obtain ⟨p79, e80, h⟩ := op_some h
  refine ev_getPR dX10_init_100 fl_X10_42 rfl (isO_N e76 (isO_P e72 g70)) e80 ?_
  obtain ⟨r83, σ81, e82, h⟩ := bd_some h
  refine ev_invI (r1 := none) (As := [.ref p77, .ref p79]) (st := [.ref n73, .ref a0]) dX10_init_103 cb_X0_init tp_180 tp_181 rfl rfl (by omega) rfl rfl (Nat.le_of_ble_eq_true rfl) (x_X0_init e82) ?_
  show Ev _ _ _ _ [.ref n73, .ref a0] _ _ _
  obtain ⟨g84, h⟩ := gd_some h
  obtain ⟨σ85, e86, h⟩ := lt_some h
  refine ev_putPR dX10_init_106 fl_X10_58 rfl (Or.inr ⟨rfl, rfl⟩) g84 ?_
  refine ev_st e86 ?_
  refine ev_aload_nR 0 dX10_init_109 rfl ?_
  obtain ⟨n87, e88, h⟩ := lt_some h
  obtain ⟨σ89, e90, h⟩ := lt_some h
  refine ev_newR dX10_init_110 kf8 tp_203 tp_204 tp_62 e88 ?_
  refine ev_st e90 ?_
  refine ev_dup dX10_init_113 rfl ?_
  obtain ⟨r93, σ91, e92, h⟩ := bd_some h
  refine ev_invIN (r1 := none) (As := []) (st := [.ref n87, .ref a0]) dX10_init_114 cb_X8_init nl_X10_64 tp_206 rfl rfl (by omega) rfl rfl (Nat.le_of_ble_eq_true rfl) (x_X8_init e92) ?_
  show Ev _ _ _ _ [.ref n87, .ref a0] _ _ _
  obtain ⟨g94, h⟩ := gd_some h
  obtain ⟨σ95, e96, h⟩ := lt_some h
  refine ev_putPR dX10_init_117 fl_X10_65 rfl (Or.inr ⟨rfl, rfl⟩) g94 ?_
  refine ev_st e96 ?_
  refine ev_aload_nR 0 dX10_init_120 rfl ?_
  obtain ⟨n97, e98, h⟩ := lt_some h
  obtain ⟨σ99, e100, h⟩ := lt_some h
  refine ev_newR dX10_init_121 kf2 tp_216 tp_217 tp_63 e98 ?_
  refine ev_st e100 ?_
  refine ev_dup dX10_init_124 rfl ?_
  refine ev_aload_nR 0 dX10_init_125 rfl ?_
  obtain ⟨p101, e102, h⟩ := op_some h
  refine ev_getPR dX10_init_126 fl_X10_34 rfl (isO_N e100 (isO_P e96 g94)) e102 ?_
  refine ev_aload_nR 0 dX10_init_129 rfl ?_
  obtain ⟨p103, e104, h⟩ := op_some h
  refine ev_getPR dX10_init_130 fl_X10_65 rfl (isO_N e100 (isO_P e96 g94)) e104 ?_
  obtain ⟨r107, σ105, e106, h⟩ := bd_some h
  refine ev_invI (r1 := none) (As := [.ref p101, .ref p103]) (st := [.ref n97, .ref a0]) dX10_init_133 cb_X2_init tp_218 tp_219 rfl rfl (by omega) rfl rfl (Nat.le_of_ble_eq_true rfl) (x_X2_init e106) ?_
  show Ev _ _ _ _ [.ref n97, .ref a0] _ _ _
  obtain ⟨g108, h⟩ := gd_some h
  obtain ⟨σ109, e110, h⟩ := lt_some h
  refine ev_putPR dX10_init_136 fl_X10_74 rfl (Or.inr ⟨rfl, rfl⟩) g108 ?_
  refine ev_st e110 ?_
  refine ev_aload_nR 0 dX10_init_139 rfl ?_
  refine ev_bipush (v := (-6)) dX10_init_140 (by decide) ?_
  obtain ⟨σ111, e112, h⟩ := lt_some h
  refine ev_putI dX10_init_142 fl_X10_78 rfl (Or.inl rfl) (isO_P e110 g108) ⟨rfl, rfl⟩ ?_
  refine ev_st e112 ?_
  refine ev_aload_nR 0 dX10_init_145 rfl ?_
  refine ev_iconst (v := 1) dX10_init_146 (by decide) ?_
  obtain ⟨σ113, e114, h⟩ := lt_some h
  refine ev_putI dX10_init_147 fl_X10_82 rfl (Or.inl rfl) (isO_I e112 (isO_P e110 g108)) ⟨rfl, rfl⟩ ?_
  refine ev_st e114 ?_
  exact ev_retV dX10_init_150 rfl h
def s_X10_say (a0 : Nat) (a1 : Int32) (σ : St) : Option (Int32 × St) :=
 if a1 < 33 then (some ((-2), σ)) else (if a1 ≤ 126 then (if isO σ 10 a0 = true then (op (sP σ a0 0) fun p4 =>
 if isO σ 7 p4 = true then (bd (s_X7_append p4 ((a1.toUInt32 % 65536).toInt32) σ) fun r9 σ7 =>
 if r9 = 0 then (some ((-4), σ7)) else (if isO σ7 10 a0 = true then (op (sP σ7 a0 0) fun p12 =>
 if isO σ7 7 p12 = true then (bd (s_X7_length p12 σ7) fun r17 σ15 =>
 some (r17, σ15)) else none) else none)) else none) else none) else (some ((-2), σ)))
set_option maxHeartbeats 4000000 in
set_option maxRecDepth 100000 in
theorem x_X10_say {a0 : Nat} {a1 : Int32} {σ : St} {r : Int32} {σ' : St} (h : s_X10_say a0 a1 σ = some (r, σ')) : Ex M_X10_say (2) [.ref a0, .int (a1)] σ (some (.int r)) σ' := by
  unfold s_X10_say at h
  refine ex_of (by decide) rfl (Nat.le_of_ble_eq_true rfl) ?_
  show Ev _ _ 0 [(0, .ref a0), (1, .int (a1))] [] _ _ _
  refine ev_iload_n 1 dX10_say_0 rfl ?_
  refine ev_bipush (v := 33) dX10_say_1 (by decide) ?_
  rcases it_some h with ⟨c1, h⟩ | ⟨c1, h⟩
  · refine ev_icmp_lt (tgt := 12) dX10_say_3 rfl c1 ?_
    refine ev_bipush (v := (-2)) dX10_say_12 (by decide) ?_
    exact ev_retI .int dX10_say_14 rfl rfl h
  · refine ev_icmp_lt_n 12 dX10_say_3 rfl c1 ?_
    refine ev_iload_n 1 dX10_say_6 rfl ?_
    refine ev_bipush (v := 126) dX10_say_7 (by decide) ?_
    rcases it_some h with ⟨c2, h⟩ | ⟨c2, h⟩
    · refine ev_icmp_le (tgt := 15) dX10_say_9 rfl c2 ?_
      refine ev_aload_nR 0 dX10_say_15 rfl ?_
      obtain ⟨g3, h⟩ := gd_some h
      obtain ⟨p4, e5, h⟩ := op_some h
      refine ev_getPR dX10_say_16 fl_X10_12 rfl g3 e5 ?_
      refine ev_iload_n 1 dX10_say_19 rfl ?_
      refine ev_i2c dX10_say_20 ?_
      obtain ⟨g6, h⟩ := gd_some h
      obtain ⟨r9, σ7, e8, h⟩ := bd_some h
      refine ev_invVi (As := [.int ((a1.toUInt32 % 65536).toInt32)]) (st := []) dX10_say_21 cb_X7_append tp_821 tp_822 tp_823 kf7 rfl (by omega) g6 rfl rfl (Nat.le_of_ble_eq_true rfl) (x_X7_append e8) ?_
      rcases it_some h with ⟨c10, h⟩ | ⟨c10, h⟩
      · refine ev_if_eq (tgt := 37) dX10_say_24 rfl c10 ?_
        refine ev_bipush (v := (-4)) dX10_say_37 (by decide) ?_
        exact ev_retI .int dX10_say_39 rfl rfl h
      · refine ev_if_eq_n 37 dX10_say_24 rfl c10 ?_
        refine ev_aload_nR 0 dX10_say_27 rfl ?_
        obtain ⟨g11, h⟩ := gd_some h
        obtain ⟨p12, e13, h⟩ := op_some h
        refine ev_getPR dX10_say_28 fl_X10_12 rfl g11 e13 ?_
        obtain ⟨g14, h⟩ := gd_some h
        obtain ⟨r17, σ15, e16, h⟩ := bd_some h
        refine ev_invVi (As := []) (st := []) dX10_say_31 cb_X7_length tp_279 tp_280 tp_281 kf7 rfl (by omega) g14 rfl rfl (Nat.le_of_ble_eq_true rfl) (x_X7_length e16) ?_
        refine ev_goto (tgt := 39) dX10_say_34 rfl ?_
        exact ev_retI .int dX10_say_39 rfl rfl h
    · refine ev_icmp_le_n 15 dX10_say_9 rfl c2 ?_
      refine ev_bipush (v := (-2)) dX10_say_12 (by decide) ?_
      exact ev_retI .int dX10_say_14 rfl rfl h
def s_X10_wipe (a0 : Nat) (σ : St) : Option (Int32 × St) :=
 if isO σ 10 a0 = true then (op (sP σ a0 0) fun p2 =>
 if isO σ 7 p2 = true then (bd (s_X7_length p2 σ) fun r7 σ5 =>
 if isO σ5 10 a0 = true then (op (sP σ5 a0 0) fun p9 =>
 if isO σ5 7 p9 = true then (bd (s_X7_clear p9 σ5) fun r14 σ12 =>
 some (r7, σ12)) else none) else none) else none) else none
set_option maxHeartbeats 4000000 in
set_option maxRecDepth 100000 in
theorem x_X10_wipe {a0 : Nat} {σ : St} {r : Int32} {σ' : St} (h : s_X10_wipe a0 σ = some (r, σ')) : Ex M_X10_wipe (2) [.ref a0] σ (some (.int r)) σ' := by
  unfold s_X10_wipe at h
  refine ex_of (by decide) rfl (Nat.le_of_ble_eq_true rfl) ?_
  show Ev _ _ 0 [(0, .ref a0)] [] _ _ _
  refine ev_aload_nR 0 dX10_wipe_0 rfl ?_
  obtain ⟨g1, h⟩ := gd_some h
  obtain ⟨p2, e3, h⟩ := op_some h
  refine ev_getPR dX10_wipe_1 fl_X10_12 rfl g1 e3 ?_
  obtain ⟨g4, h⟩ := gd_some h
  obtain ⟨r7, σ5, e6, h⟩ := bd_some h
  refine ev_invVi (As := []) (st := []) dX10_wipe_4 cb_X7_length tp_279 tp_280 tp_281 kf7 rfl (by omega) g4 rfl rfl (Nat.le_of_ble_eq_true rfl) (x_X7_length e6) ?_
  refine ev_istore_n (ls' := [(1, .int (r7)), (0, .ref a0)]) dX10_wipe_7 (by decide) rfl ?_
  refine ev_aload_nR 1 dX10_wipe_8 rfl ?_
  obtain ⟨g8, h⟩ := gd_some h
  obtain ⟨p9, e10, h⟩ := op_some h
  refine ev_getPR dX10_wipe_9 fl_X10_12 rfl g8 e10 ?_
  obtain ⟨g11, h⟩ := gd_some h
  obtain ⟨r14, σ12, e13, h⟩ := bd_some h
  refine ev_invVv (As := []) (st := []) dX10_wipe_12 cb_X7_clear tp_283 tp_284 tp_285 kf7 rfl (by omega) g11 rfl rfl (Nat.le_of_ble_eq_true rfl) (x_X7_clear e13) ?_
  refine ev_iload_n 0 dX10_wipe_15 rfl ?_
  exact ev_retI .int dX10_wipe_16 rfl rfl h
def s_X10_readText_45 (a0 : Nat) (a2 : Option Nat) (a3 : Nat) (σ : St) : Option (Option Nat × St) :=
 if isO σ 5 a3 = true then (bd (s_X5_failed a3 σ) fun r4 σ2 =>
 if r4 = 0 then (lt (sn σ2) fun n6 => lt (newC σ2 1 3) fun σ8 =>
 if isO σ8 10 a0 = true then (op (sP σ8 a0 3) fun p11 =>
 if isO σ8 3 p11 = true then (bd (s_X3_nodes p11 σ8) fun r16 σ14 =>
 if isO σ14 10 a0 = true then (op (sP σ14 a0 3) fun p18 =>
 if isO σ14 3 p18 = true then (bd (s_X3_loans p18 σ14) fun r23 σ21 =>
 op a2 fun p24 =>
 bd (s_X1_init n6 p24 r16 r23 σ21) fun r28 σ26 =>
 some (some n6, σ26)) else none) else none) else none) else none) else (if isO σ2 5 a3 = true then (bd (s_X5_faultPlace a3 σ2) fun r32 σ30 =>
 if isO σ30 10 a0 = true then (lt (setI σ30 a0 10 r32) fun σ34 =>
 some (none, σ34)) else none) else none)) else none
set_option maxHeartbeats 4000000 in
set_option maxRecDepth 100000 in
theorem e_X10_readText_45 {r : Option Nat} {σ' : St} : ∀ {a0 : Nat} {a2 : Option Nat} {a3 : Nat} {σ : St}, s_X10_readText_45 a0 a2 a3 σ = some (r, σ') → Ev M_X10_readText (390) 45 [(0, .ref a0), (2, va_rf a2), (3, .ref a3)] [] σ (some (va_rf r)) σ' := by
  intro a0 a2 a3 σ h
  unfold s_X10_readText_45 at h
  refine ev_aload_nR 2 dX10_readText_45 rfl ?_
  obtain ⟨g1, h⟩ := gd_some h
  obtain ⟨r4, σ2, e3, h⟩ := bd_some h
  refine ev_invVi (As := []) (st := []) dX10_readText_46 cb_X5_failed tp_390 tp_391 tp_392 kf5 rfl (by omega) g1 rfl rfl (Nat.le_of_ble_eq_true rfl) (x_X5_failed e3) ?_
  rcases it_some h with ⟨c5, h⟩ | ⟨c5, h⟩
  · refine ev_if_eq (tgt := 62) dX10_readText_49 rfl c5 ?_
    obtain ⟨n6, e7, h⟩ := lt_some h
    obtain ⟨σ8, e9, h⟩ := lt_some h
    refine ev_newR dX10_readText_62 kf1 tp_398 tp_399 tp_67 e7 ?_
    refine ev_st e9 ?_
    refine ev_dup dX10_readText_65 rfl ?_
    refine ev_aload_n 1 dX10_readText_66 rfl ?_
    refine ev_aload_nR 0 dX10_readText_67 rfl ?_
    obtain ⟨g10, h⟩ := gd_some h
    obtain ⟨p11, e12, h⟩ := op_some h
    refine ev_getPR dX10_readText_68 fl_X10_30 rfl g10 e12 ?_
    obtain ⟨g13, h⟩ := gd_some h
    obtain ⟨r16, σ14, e15, h⟩ := bd_some h
    refine ev_invVi (As := []) (st := [va_rf a2, .ref n6, .ref n6]) dX10_readText_71 cb_X3_nodes tp_400 tp_401 tp_402 kf3 rfl (by omega) g13 rfl rfl (by cases a2 <;> exact Nat.le_of_ble_eq_true rfl) (x_X3_nodes e15) ?_
    refine ev_aload_nR 0 dX10_readText_74 rfl ?_
    obtain ⟨g17, h⟩ := gd_some h
    obtain ⟨p18, e19, h⟩ := op_some h
    refine ev_getPR dX10_readText_75 fl_X10_30 rfl g17 e19 ?_
    obtain ⟨g20, h⟩ := gd_some h
    obtain ⟨r23, σ21, e22, h⟩ := bd_some h
    refine ev_invVi (As := []) (st := [.int (r16), va_rf a2, .ref n6, .ref n6]) dX10_readText_78 cb_X3_loans tp_404 tp_405 tp_406 kf3 rfl (by omega) g20 rfl rfl (by cases a2 <;> exact Nat.le_of_ble_eq_true rfl) (x_X3_loans e22) ?_
    obtain ⟨p24, e25, h⟩ := op_some h
    rw [e25]
    obtain ⟨r28, σ26, e27, h⟩ := bd_some h
    refine ev_invI (r1 := none) (As := [.ref p24, .int (r16), .int (r23)]) (st := [.ref n6]) dX10_readText_81 cb_X1_init tp_408 tp_409 rfl rfl (by omega) rfl rfl (Nat.le_of_ble_eq_true rfl) (x_X1_init e27) ?_
    show Ev _ _ _ _ [.ref n6] _ _ _
    exact ev_retQ (x := some n6) _ dX10_readText_84 rfl (Or.inl ⟨_, rfl⟩) h
  · refine ev_if_eq_n 62 dX10_readText_49 rfl c5 ?_
    refine ev_aload_nR 0 dX10_readText_52 rfl ?_
    refine ev_aload_nR 2 dX10_readText_53 rfl ?_
    obtain ⟨g29, h⟩ := gd_some h
    obtain ⟨r32, σ30, e31, h⟩ := bd_some h
    refine ev_invVi (As := []) (st := [.ref a0]) dX10_readText_54 cb_X5_faultPlace tp_394 tp_395 tp_396 kf5 rfl (by omega) g29 rfl rfl (Nat.le_of_ble_eq_true rfl) (x_X5_faultPlace e31) ?_
    obtain ⟨g33, h⟩ := gd_some h
    obtain ⟨σ34, e35, h⟩ := lt_some h
    refine ev_putI dX10_readText_57 fl_X10_78 rfl (Or.inl rfl) g33 ⟨rfl, rfl⟩ ?_
    refine ev_st e35 ?_
    refine ev_null dX10_readText_60 ?_
    exact ev_retQ (x := none) _ dX10_readText_61 rfl (Or.inl ⟨_, rfl⟩) h
def s_X10_readText (a0 : Nat) (a1 : Int32) (σ : St) : Option (Option Nat × St) :=
 if isO σ 10 a0 = true then (op (sP σ a0 0) fun p37 =>
 if isO σ 7 p37 = true then (bd (s_X7_copy p37 σ) fun r42 σ40 =>
 if isO σ40 10 a0 = true then (op (sP σ40 a0 3) fun p44 =>
 if isO σ40 3 p44 = true then (bd (s_X3_clear p44 σ40) fun r49 σ47 =>
 lt (sn σ47) fun n50 => lt (newC σ47 5 4) fun σ52 =>
 if isO σ52 10 a0 = true then (op (sP σ52 a0 3) fun p55 =>
 op r42 fun p57 =>
 bd (s_X5_init n50 p57 p55 σ52) fun r61 σ59 =>
 if a1 = 0 then (if isO σ59 5 n50 = true then (bd (s_X5_readWholeGoal n50 σ59) fun r66 σ64 =>
 s_X10_readText_45 a0 (some p57) n50 σ64) else none) else (if isO σ59 5 n50 = true then (bd (s_X5_readWholeOffer n50 0 σ59) fun r70 σ68 =>
 s_X10_readText_45 a0 (some p57) n50 σ68) else none)) else none) else none) else none) else none) else none
set_option maxHeartbeats 4000000 in
set_option maxRecDepth 100000 in
theorem x_X10_readText {a0 : Nat} {a1 : Int32} {σ : St} {r : Option Nat} {σ' : St} (h : s_X10_readText a0 a1 σ = some (r, σ')) : Ex M_X10_readText (390) [.ref a0, .int (a1)] σ (some (va_rf r)) σ' := by
  unfold s_X10_readText at h
  refine ex_of (by decide) rfl (Nat.le_of_ble_eq_true rfl) ?_
  show Ev _ _ 0 [(0, .ref a0), (1, .int (a1))] [] _ _ _
  refine ev_aload_nR 0 dX10_readText_0 rfl ?_
  obtain ⟨g36, h⟩ := gd_some h
  obtain ⟨p37, e38, h⟩ := op_some h
  refine ev_getPR dX10_readText_1 fl_X10_12 rfl g36 e38 ?_
  obtain ⟨g39, h⟩ := gd_some h
  obtain ⟨r42, σ40, e41, h⟩ := bd_some h
  refine ev_invVq (As := []) (st := []) dX10_readText_4 cb_X7_copy tp_295 tp_296 tp_297 kf7 rfl (by omega) g39 rfl rfl (Nat.le_of_ble_eq_true rfl) (x_X7_copy e41) ?_
  refine ev_astore_n (ls' := [(2, va_rf r42), (0, .ref a0), (1, .int (a1))]) dX10_readText_7 (by decide) rfl ?_
  refine ev_aload_nR 1 dX10_readText_8 rfl ?_
  obtain ⟨g43, h⟩ := gd_some h
  obtain ⟨p44, e45, h⟩ := op_some h
  refine ev_getPR dX10_readText_9 fl_X10_30 rfl g43 e45 ?_
  obtain ⟨g46, h⟩ := gd_some h
  obtain ⟨r49, σ47, e48, h⟩ := bd_some h
  refine ev_invVv (As := []) (st := []) dX10_readText_12 cb_X3_clear tp_305 tp_306 tp_307 kf3 rfl (by omega) g46 rfl rfl (Nat.le_of_ble_eq_true rfl) (x_X3_clear e48) ?_
  obtain ⟨n50, e51, h⟩ := lt_some h
  obtain ⟨σ52, e53, h⟩ := lt_some h
  refine ev_newR dX10_readText_15 kf5 tp_309 tp_310 tp_64 e51 ?_
  refine ev_st e53 ?_
  refine ev_dup dX10_readText_18 rfl ?_
  refine ev_aload_n 0 dX10_readText_19 rfl ?_
  refine ev_aload_nR 1 dX10_readText_20 rfl ?_
  obtain ⟨g54, h⟩ := gd_some h
  obtain ⟨p55, e56, h⟩ := op_some h
  refine ev_getPR dX10_readText_21 fl_X10_30 rfl g54 e56 ?_
  obtain ⟨p57, e58, h⟩ := op_some h
  rw [e58]
  obtain ⟨r61, σ59, e60, h⟩ := bd_some h
  refine ev_invI (r1 := none) (As := [.ref p57, .ref p55]) (st := [.ref n50]) dX10_readText_24 cb_X5_init tp_311 tp_312 rfl rfl (by omega) rfl rfl (Nat.le_of_ble_eq_true rfl) (x_X5_init e60) ?_
  show Ev _ _ _ _ [.ref n50] _ _ _
  refine ev_astore_nR (ls' := [(3, .ref n50), (2, .ref p57), (0, .ref a0), (1, .int (a1))]) dX10_readText_27 (by decide) rfl ?_
  refine ev_iload_n 3 dX10_readText_28 rfl ?_
  rcases it_some h with ⟨c62, h⟩ | ⟨c62, h⟩
  · refine ev_if_eq (tgt := 40) dX10_readText_29 rfl c62 ?_
    refine ev_aload_nR 0 dX10_readText_40 rfl ?_
    obtain ⟨g63, h⟩ := gd_some h
    obtain ⟨r66, σ64, e65, h⟩ := bd_some h
    refine ev_invVi (As := []) (st := []) dX10_readText_41 cb_X5_readWholeGoal tp_386 tp_387 tp_388 kf5 rfl (by omega) g63 rfl rfl (Nat.le_of_ble_eq_true rfl) (x_X5_readWholeGoal e65) ?_
    refine ev_pop dX10_readText_44 rfl ?_
    refine ev_sub (ls' := [(0, .ref a0), (2, va_rf (some p57)), (3, .ref n50)]) [2, 1, 0] rfl ?_
    exact e_X10_readText_45  h
  · refine ev_if_eq_n 40 dX10_readText_29 rfl c62 ?_
    refine ev_aload_nR 0 dX10_readText_32 rfl ?_
    refine ev_iconst (v := 0) dX10_readText_33 (by decide) ?_
    obtain ⟨g67, h⟩ := gd_some h
    obtain ⟨r70, σ68, e69, h⟩ := bd_some h
    refine ev_invVv (As := [.int (0)]) (st := []) dX10_readText_34 cb_X5_readWholeOffer tp_328 tp_329 tp_330 kf5 rfl (by omega) g67 rfl rfl (Nat.le_of_ble_eq_true rfl) (x_X5_readWholeOffer e69) ?_
    refine ev_goto (tgt := 45) dX10_readText_37 rfl ?_
    refine ev_sub (ls' := [(0, .ref a0), (2, va_rf (some p57)), (3, .ref n50)]) [2, 1, 0] rfl ?_
    exact e_X10_readText_45  h
def s_X10_settle (a0 : Nat) (a1 : Int32) (a2 : Nat) (σ : St) : Option (Unit × St) :=
 if isO σ 10 a0 = true then (op (sP σ a0 1) fun p2 =>
 if isO σ 6 p2 = true then (bd (s_X6_set p2 a1 (some a2) σ) fun r7 σ5 =>
 if isO σ5 10 a0 = true then (op (sP σ5 a0 0) fun p9 =>
 if isO σ5 7 p9 = true then (bd (s_X7_clear p9 σ5) fun r14 σ12 =>
 if isO σ12 10 a0 = true then (lt (setI σ12 a0 11 1) fun σ16 =>
 some ((), σ16)) else none) else none) else none) else none) else none
set_option maxHeartbeats 4000000 in
set_option maxRecDepth 100000 in
theorem x_X10_settle {a0 : Nat} {a1 : Int32} {a2 : Nat} {σ : St} {r : Unit} {σ' : St} (h : s_X10_settle a0 a1 a2 σ = some (r, σ')) : Ex M_X10_settle (2) [.ref a0, .int (a1), .ref a2] σ none σ' := by
  unfold s_X10_settle at h
  refine ex_of (by decide) rfl (Nat.le_of_ble_eq_true rfl) ?_
  show Ev _ _ 0 [(0, .ref a0), (1, .int (a1)), (2, .ref a2)] [] _ _ _
  refine ev_aload_nR 0 dX10_settle_0 rfl ?_
  obtain ⟨g1, h⟩ := gd_some h
  obtain ⟨p2, e3, h⟩ := op_some h
  refine ev_getPR dX10_settle_1 fl_X10_19 rfl g1 e3 ?_
  refine ev_iload_n 1 dX10_settle_4 rfl ?_
  refine ev_aload_nR 2 dX10_settle_5 rfl ?_
  obtain ⟨g4, h⟩ := gd_some h
  obtain ⟨r7, σ5, e6, h⟩ := bd_some h
  refine ev_invVv (As := [.int (a1), va_rf (some a2)]) (st := []) dX10_settle_6 cb_X6_set tp_450 tp_451 tp_452 kf6 rfl (by omega) g4 rfl rfl (Nat.le_of_ble_eq_true rfl) (x_X6_set e6) ?_
  refine ev_aload_nR 0 dX10_settle_9 rfl ?_
  obtain ⟨g8, h⟩ := gd_some h
  obtain ⟨p9, e10, h⟩ := op_some h
  refine ev_getPR dX10_settle_10 fl_X10_12 rfl g8 e10 ?_
  obtain ⟨g11, h⟩ := gd_some h
  obtain ⟨r14, σ12, e13, h⟩ := bd_some h
  refine ev_invVv (As := []) (st := []) dX10_settle_13 cb_X7_clear tp_283 tp_284 tp_285 kf7 rfl (by omega) g11 rfl rfl (Nat.le_of_ble_eq_true rfl) (x_X7_clear e13) ?_
  refine ev_aload_nR 0 dX10_settle_16 rfl ?_
  refine ev_iconst (v := 1) dX10_settle_17 (by decide) ?_
  obtain ⟨g15, h⟩ := gd_some h
  obtain ⟨σ16, e17, h⟩ := lt_some h
  refine ev_putI dX10_settle_18 fl_X10_82 rfl (Or.inl rfl) g15 ⟨rfl, rfl⟩ ?_
  refine ev_st e17 ?_
  exact ev_retV dX10_settle_21 rfl h
def s_X10_takeOffer (a0 : Nat) (a1 : Int32) (a2 : Int32) (σ : St) : Option (Int32 × St) :=
 if isO σ 10 a0 = true then (bd (s_X10_readText a0 1 σ) fun r4 σ2 =>
 on r4 (some ((-7), σ2)) fun w5 => if isO σ2 10 a0 = true then (op (sP σ2 a0 1) fun p8 =>
 if isO σ2 6 p8 = true then (bd (s_X6_firstFree p8 a1 a2 σ2) fun r13 σ11 =>
 if r13 = ((-1)) then (some ((-4), σ11)) else (if isO σ11 10 a0 = true then (op (sP σ11 a0 1) fun p16 =>
 if isO σ11 6 p16 = true then (bd (s_X6_hasRoom p16 r13 w5 σ11) fun r21 σ19 =>
 if r21 = 0 then (some ((-4), σ19)) else (if isO σ19 10 a0 = true then (bd (s_X10_settle a0 r13 w5 σ19) fun r26 σ24 =>
 some (r13 - a1, σ24)) else none)) else none) else none)) else none) else none) else none
set_option maxHeartbeats 4000000 in
set_option maxRecDepth 100000 in
theorem x_X10_takeOffer {a0 : Nat} {a1 : Int32} {a2 : Int32} {σ : St} {r : Int32} {σ' : St} (h : s_X10_takeOffer a0 a1 a2 σ = some (r, σ')) : Ex M_X10_takeOffer (391) [.ref a0, .int (a1), .int (a2)] σ (some (.int r)) σ' := by
  unfold s_X10_takeOffer at h
  refine ex_of (by decide) rfl (Nat.le_of_ble_eq_true rfl) ?_
  show Ev _ _ 0 [(0, .ref a0), (1, .int (a1)), (2, .int (a2))] [] _ _ _
  refine ev_aload_nR 0 dX10_takeOffer_0 rfl ?_
  refine ev_iconst (v := 1) dX10_takeOffer_1 (by decide) ?_
  obtain ⟨g1, h⟩ := gd_some h
  obtain ⟨r4, σ2, e3, h⟩ := bd_some h
  refine ev_invVq (As := [.int (1)]) (st := []) dX10_takeOffer_2 cb_X10_readText tp_291 tp_293 tp_0 kf10 rfl (by omega) g1 rfl rfl (Nat.le_of_ble_eq_true rfl) (x_X10_readText e3) ?_
  refine ev_astore_n (ls' := [(3, va_rf r4), (0, .ref a0), (1, .int (a1)), (2, .int (a2))]) dX10_takeOffer_5 (by decide) rfl ?_
  refine ev_aload_n 0 dX10_takeOffer_6 rfl ?_
  rcases on_some h with ⟨e6, h⟩ | ⟨w5, e6, h⟩
  · rw [e6]
    refine ev_ifnonnull_n dX10_takeOffer_7 ?_
    refine ev_bipush (v := (-7)) dX10_takeOffer_10 (by decide) ?_
    exact ev_retI .int dX10_takeOffer_12 rfl rfl h
  · rw [e6]
    refine ev_ifnonnull (tgt := 13) dX10_takeOffer_7 rfl ?_
    refine ev_aload_nR 1 dX10_takeOffer_13 rfl ?_
    obtain ⟨g7, h⟩ := gd_some h
    obtain ⟨p8, e9, h⟩ := op_some h
    refine ev_getPR dX10_takeOffer_14 fl_X10_19 rfl g7 e9 ?_
    refine ev_iload_n 2 dX10_takeOffer_17 rfl ?_
    refine ev_iload_n 3 dX10_takeOffer_18 rfl ?_
    obtain ⟨g10, h⟩ := gd_some h
    obtain ⟨r13, σ11, e12, h⟩ := bd_some h
    refine ev_invVi (As := [.int (a1), .int (a2)]) (st := []) dX10_takeOffer_19 cb_X6_firstFree tp_839 tp_840 tp_841 kf6 rfl (by omega) g10 rfl rfl (Nat.le_of_ble_eq_true rfl) (x_X6_firstFree e12) ?_
    refine ev_istore (ls' := [(4, .int (r13)), (3, .ref w5), (0, .ref a0), (1, .int (a1)), (2, .int (a2))]) dX10_takeOffer_22 (by decide) rfl ?_
    refine ev_iload 0 dX10_takeOffer_24 rfl ?_
    refine ev_iconst (v := (-1)) dX10_takeOffer_26 (by decide) ?_
    rcases it_some h with ⟨c14, h⟩ | ⟨c14, h⟩
    · refine ev_icmp_eq (tgt := 43) dX10_takeOffer_27 rfl c14 ?_
      refine ev_bipush (v := (-4)) dX10_takeOffer_43 (by decide) ?_
      exact ev_retI .int dX10_takeOffer_45 rfl rfl h
    · refine ev_icmp_eq_n 43 dX10_takeOffer_27 rfl c14 ?_
      refine ev_aload_nR 2 dX10_takeOffer_30 rfl ?_
      obtain ⟨g15, h⟩ := gd_some h
      obtain ⟨p16, e17, h⟩ := op_some h
      refine ev_getPR dX10_takeOffer_31 fl_X10_19 rfl g15 e17 ?_
      refine ev_iload 0 dX10_takeOffer_34 rfl ?_
      refine ev_aload_nR 1 dX10_takeOffer_36 rfl ?_
      obtain ⟨g18, h⟩ := gd_some h
      obtain ⟨r21, σ19, e20, h⟩ := bd_some h
      refine ev_invVi (As := [.int (r13), .ref w5]) (st := []) dX10_takeOffer_37 cb_X6_hasRoom tp_422 tp_423 tp_424 kf6 rfl (by omega) g18 rfl rfl (Nat.le_of_ble_eq_true rfl) (x_X6_hasRoom e20) ?_
      rcases it_some h with ⟨c22, h⟩ | ⟨c22, h⟩
      · refine ev_if_ne_n 46 dX10_takeOffer_40 rfl c22 ?_
        refine ev_bipush (v := (-4)) dX10_takeOffer_43 (by decide) ?_
        exact ev_retI .int dX10_takeOffer_45 rfl rfl h
      · refine ev_if_ne (tgt := 46) dX10_takeOffer_40 rfl c22 ?_
        refine ev_aload_nR 2 dX10_takeOffer_46 rfl ?_
        refine ev_iload 0 dX10_takeOffer_47 rfl ?_
        refine ev_aload_nR 1 dX10_takeOffer_49 rfl ?_
        obtain ⟨g23, h⟩ := gd_some h
        obtain ⟨r26, σ24, e25, h⟩ := bd_some h
        refine ev_invVv (As := [.int (r13), .ref w5]) (st := []) dX10_takeOffer_50 cb_X10_settle tp_446 tp_448 tp_10 kf10 rfl (by omega) g23 rfl rfl (Nat.le_of_ble_eq_true rfl) (x_X10_settle e25) ?_
        refine ev_iload 0 dX10_takeOffer_53 rfl ?_
        refine ev_iload_n 3 dX10_takeOffer_55 rfl ?_
        refine ev_isub dX10_takeOffer_56 ?_
        exact ev_retI .int dX10_takeOffer_57 rfl rfl h
def s_X10_resource (a0 : Nat) (σ : St) : Option (Int32 × St) :=
 if isO σ 10 a0 = true then (bd (s_X10_takeOffer a0 1 5 σ) fun r4 σ2 =>
 some (r4, σ2)) else none
set_option maxHeartbeats 4000000 in
set_option maxRecDepth 100000 in
theorem x_X10_resource {a0 : Nat} {σ : St} {r : Int32} {σ' : St} (h : s_X10_resource a0 σ = some (r, σ')) : Ex M_X10_resource (392) [.ref a0] σ (some (.int r)) σ' := by
  unfold s_X10_resource at h
  refine ex_of (by decide) rfl (Nat.le_of_ble_eq_true rfl) ?_
  show Ev _ _ 0 [(0, .ref a0)] [] _ _ _
  refine ev_aload_nR 0 dX10_resource_0 rfl ?_
  refine ev_iconst (v := 1) dX10_resource_1 (by decide) ?_
  refine ev_iconst (v := 5) dX10_resource_2 (by decide) ?_
  obtain ⟨g1, h⟩ := gd_some h
  obtain ⟨r4, σ2, e3, h⟩ := bd_some h
  refine ev_invVi (As := [.int (1), .int (5)]) (st := []) dX10_resource_3 cb_X10_takeOffer tp_835 tp_837 tp_48 kf10 rfl (by omega) g1 rfl rfl (Nat.le_of_ble_eq_true rfl) (x_X10_takeOffer e3) ?_
  exact ev_retI .int dX10_resource_6 rfl rfl h
def s_X10_well (a0 : Nat) (σ : St) : Option (Int32 × St) :=
 if isO σ 10 a0 = true then (bd (s_X10_takeOffer a0 6 4 σ) fun r4 σ2 =>
 some (r4, σ2)) else none
set_option maxHeartbeats 4000000 in
set_option maxRecDepth 100000 in
theorem x_X10_well {a0 : Nat} {σ : St} {r : Int32} {σ' : St} (h : s_X10_well a0 σ = some (r, σ')) : Ex M_X10_well (392) [.ref a0] σ (some (.int r)) σ' := by
  unfold s_X10_well at h
  refine ex_of (by decide) rfl (Nat.le_of_ble_eq_true rfl) ?_
  show Ev _ _ 0 [(0, .ref a0)] [] _ _ _
  refine ev_aload_nR 0 dX10_well_0 rfl ?_
  refine ev_bipush (v := 6) dX10_well_1 (by decide) ?_
  refine ev_iconst (v := 4) dX10_well_3 (by decide) ?_
  obtain ⟨g1, h⟩ := gd_some h
  obtain ⟨r4, σ2, e3, h⟩ := bd_some h
  refine ev_invVi (As := [.int (6), .int (4)]) (st := []) dX10_well_4 cb_X10_takeOffer tp_835 tp_837 tp_48 kf10 rfl (by omega) g1 rfl rfl (Nat.le_of_ble_eq_true rfl) (x_X10_takeOffer e3) ?_
  exact ev_retI .int dX10_well_7 rfl rfl h
def s_X10_goal (a0 : Nat) (σ : St) : Option (Int32 × St) :=
 if isO σ 10 a0 = true then (bd (s_X10_readText a0 0 σ) fun r4 σ2 =>
 on r4 (some ((-7), σ2)) fun w5 => if isO σ2 10 a0 = true then (op (sP σ2 a0 1) fun p8 =>
 if isO σ2 6 p8 = true then (bd (s_X6_hasRoom p8 0 w5 σ2) fun r13 σ11 =>
 if r13 = 0 then (some ((-4), σ11)) else (if isO σ11 10 a0 = true then (bd (s_X10_settle a0 0 w5 σ11) fun r18 σ16 =>
 if isO σ16 1 w5 = true then (bd (s_X1_nodes w5 σ16) fun r22 σ20 =>
 some (r22, σ20)) else none) else none)) else none) else none) else none
set_option maxHeartbeats 4000000 in
set_option maxRecDepth 100000 in
theorem x_X10_goal {a0 : Nat} {σ : St} {r : Int32} {σ' : St} (h : s_X10_goal a0 σ = some (r, σ')) : Ex M_X10_goal (391) [.ref a0] σ (some (.int r)) σ' := by
  unfold s_X10_goal at h
  refine ex_of (by decide) rfl (Nat.le_of_ble_eq_true rfl) ?_
  show Ev _ _ 0 [(0, .ref a0)] [] _ _ _
  refine ev_aload_nR 0 dX10_goal_0 rfl ?_
  refine ev_iconst (v := 0) dX10_goal_1 (by decide) ?_
  obtain ⟨g1, h⟩ := gd_some h
  obtain ⟨r4, σ2, e3, h⟩ := bd_some h
  refine ev_invVq (As := [.int (0)]) (st := []) dX10_goal_2 cb_X10_readText tp_291 tp_293 tp_0 kf10 rfl (by omega) g1 rfl rfl (Nat.le_of_ble_eq_true rfl) (x_X10_readText e3) ?_
  refine ev_astore_n (ls' := [(1, va_rf r4), (0, .ref a0)]) dX10_goal_5 (by decide) rfl ?_
  refine ev_aload_n 0 dX10_goal_6 rfl ?_
  rcases on_some h with ⟨e6, h⟩ | ⟨w5, e6, h⟩
  · rw [e6]
    refine ev_ifnonnull_n dX10_goal_7 ?_
    refine ev_bipush (v := (-7)) dX10_goal_10 (by decide) ?_
    exact ev_retI .int dX10_goal_12 rfl rfl h
  · rw [e6]
    refine ev_ifnonnull (tgt := 13) dX10_goal_7 rfl ?_
    refine ev_aload_nR 1 dX10_goal_13 rfl ?_
    obtain ⟨g7, h⟩ := gd_some h
    obtain ⟨p8, e9, h⟩ := op_some h
    refine ev_getPR dX10_goal_14 fl_X10_19 rfl g7 e9 ?_
    refine ev_iconst (v := 0) dX10_goal_17 (by decide) ?_
    refine ev_aload_nR 0 dX10_goal_18 rfl ?_
    obtain ⟨g10, h⟩ := gd_some h
    obtain ⟨r13, σ11, e12, h⟩ := bd_some h
    refine ev_invVi (As := [.int (0), .ref w5]) (st := []) dX10_goal_19 cb_X6_hasRoom tp_422 tp_423 tp_424 kf6 rfl (by omega) g10 rfl rfl (Nat.le_of_ble_eq_true rfl) (x_X6_hasRoom e12) ?_
    rcases it_some h with ⟨c14, h⟩ | ⟨c14, h⟩
    · refine ev_if_ne_n 28 dX10_goal_22 rfl c14 ?_
      refine ev_bipush (v := (-4)) dX10_goal_25 (by decide) ?_
      exact ev_retI .int dX10_goal_27 rfl rfl h
    · refine ev_if_ne (tgt := 28) dX10_goal_22 rfl c14 ?_
      refine ev_aload_nR 1 dX10_goal_28 rfl ?_
      refine ev_iconst (v := 0) dX10_goal_29 (by decide) ?_
      refine ev_aload_nR 0 dX10_goal_30 rfl ?_
      obtain ⟨g15, h⟩ := gd_some h
      obtain ⟨r18, σ16, e17, h⟩ := bd_some h
      refine ev_invVv (As := [.int (0), .ref w5]) (st := []) dX10_goal_31 cb_X10_settle tp_446 tp_448 tp_10 kf10 rfl (by omega) g15 rfl rfl (Nat.le_of_ble_eq_true rfl) (x_X10_settle e17) ?_
      refine ev_aload_nR 0 dX10_goal_34 rfl ?_
      obtain ⟨g19, h⟩ := gd_some h
      obtain ⟨r22, σ20, e21, h⟩ := bd_some h
      refine ev_invVi (As := []) (st := []) dX10_goal_35 cb_X1_nodes tp_454 tp_431 tp_432 kf1 rfl (by omega) g19 rfl rfl (Nat.le_of_ble_eq_true rfl) (x_X1_nodes e21) ?_
      exact ev_retI .int dX10_goal_38 rfl rfl h
def s_X10_dropNumbered (a0 : Nat) (a1 : Int32) (a2 : Int32) (a3 : Int32) (σ : St) : Option (Int32 × St) :=
 if a3 < 0 then (some ((-1), σ)) else (if a2 ≤ a3 then (some ((-1), σ)) else (if isO σ 10 a0 = true then (op (sP σ a0 1) fun p4 =>
 if isO σ 6 p4 = true then (bd (s_X6_at p4 (a1 + a3) σ) fun r9 σ7 =>
 on r9 (some ((-1), σ7)) fun w10 => if isO σ7 10 a0 = true then (op (sP σ7 a0 1) fun p13 =>
 if isO σ7 6 p13 = true then (bd (s_X6_set p13 (a1 + a3) none σ7) fun r18 σ16 =>
 if isO σ16 10 a0 = true then (lt (setI σ16 a0 11 1) fun σ20 =>
 op (sP σ20 a0 1) fun p22 =>
 if isO σ20 6 p22 = true then (bd (s_X6_present p22 a1 a2 σ20) fun r27 σ25 =>
 bd (s_J6_bitCount_0f7a4 r27 σ25) fun r30 σ28 =>
 some (r30, σ28)) else none) else none) else none) else none) else none) else none))
set_option maxHeartbeats 4000000 in
set_option maxRecDepth 100000 in
theorem x_X10_dropNumbered {a0 : Nat} {a1 : Int32} {a2 : Int32} {a3 : Int32} {σ : St} {r : Int32} {σ' : St} (h : s_X10_dropNumbered a0 a1 a2 a3 σ = some (r, σ')) : Ex M_X10_dropNumbered (3) [.ref a0, .int (a1), .int (a2), .int (a3)] σ (some (.int r)) σ' := by
  unfold s_X10_dropNumbered at h
  refine ex_of (by decide) rfl (Nat.le_of_ble_eq_true rfl) ?_
  show Ev _ _ 0 [(0, .ref a0), (1, .int (a1)), (2, .int (a2)), (3, .int (a3))] [] _ _ _
  refine ev_iload_n 3 dX10_dropNumbered_0 rfl ?_
  rcases it_some h with ⟨c1, h⟩ | ⟨c1, h⟩
  · refine ev_if_lt (tgt := 22) dX10_dropNumbered_1 rfl c1 ?_
    refine ev_iconst (v := (-1)) dX10_dropNumbered_22 (by decide) ?_
    exact ev_retI .int dX10_dropNumbered_23 rfl rfl h
  · refine ev_if_lt_n 22 dX10_dropNumbered_1 rfl c1 ?_
    refine ev_iload_n 3 dX10_dropNumbered_4 rfl ?_
    refine ev_iload_n 2 dX10_dropNumbered_5 rfl ?_
    rcases it_some h with ⟨c2, h⟩ | ⟨c2, h⟩
    · refine ev_icmp_ge (tgt := 22) dX10_dropNumbered_6 rfl c2 ?_
      refine ev_iconst (v := (-1)) dX10_dropNumbered_22 (by decide) ?_
      exact ev_retI .int dX10_dropNumbered_23 rfl rfl h
    · refine ev_icmp_ge_n 22 dX10_dropNumbered_6 rfl c2 ?_
      refine ev_aload_nR 0 dX10_dropNumbered_9 rfl ?_
      obtain ⟨g3, h⟩ := gd_some h
      obtain ⟨p4, e5, h⟩ := op_some h
      refine ev_getPR dX10_dropNumbered_10 fl_X10_19 rfl g3 e5 ?_
      refine ev_iload_n 1 dX10_dropNumbered_13 rfl ?_
      refine ev_iload_n 3 dX10_dropNumbered_14 rfl ?_
      refine ev_iadd dX10_dropNumbered_15 ?_
      obtain ⟨g6, h⟩ := gd_some h
      obtain ⟨r9, σ7, e8, h⟩ := bd_some h
      refine ev_invVq (As := [.int (a1 + a3)]) (st := []) dX10_dropNumbered_16 cb_X6_at tp_463 tp_427 tp_428 kf6 rfl (by omega) g6 rfl rfl (Nat.le_of_ble_eq_true rfl) (x_X6_at e8) ?_
      rcases on_some h with ⟨e11, h⟩ | ⟨w10, e11, h⟩
      · rw [e11]
        refine ev_ifnonnull_n dX10_dropNumbered_19 ?_
        refine ev_iconst (v := (-1)) dX10_dropNumbered_22 (by decide) ?_
        exact ev_retI .int dX10_dropNumbered_23 rfl rfl h
      · rw [e11]
        refine ev_ifnonnull (tgt := 24) dX10_dropNumbered_19 rfl ?_
        refine ev_aload_nR 0 dX10_dropNumbered_24 rfl ?_
        obtain ⟨g12, h⟩ := gd_some h
        obtain ⟨p13, e14, h⟩ := op_some h
        refine ev_getPR dX10_dropNumbered_25 fl_X10_19 rfl g12 e14 ?_
        refine ev_iload_n 1 dX10_dropNumbered_28 rfl ?_
        refine ev_iload_n 3 dX10_dropNumbered_29 rfl ?_
        refine ev_iadd dX10_dropNumbered_30 ?_
        refine ev_null dX10_dropNumbered_31 ?_
        obtain ⟨g15, h⟩ := gd_some h
        obtain ⟨r18, σ16, e17, h⟩ := bd_some h
        refine ev_invVv (As := [.int (a1 + a3), va_rf none]) (st := []) dX10_dropNumbered_32 cb_X6_set tp_450 tp_451 tp_452 kf6 rfl (by omega) g15 rfl rfl (Nat.le_of_ble_eq_true rfl) (x_X6_set e17) ?_
        refine ev_aload_nR 0 dX10_dropNumbered_35 rfl ?_
        refine ev_iconst (v := 1) dX10_dropNumbered_36 (by decide) ?_
        obtain ⟨g19, h⟩ := gd_some h
        obtain ⟨σ20, e21, h⟩ := lt_some h
        refine ev_putI dX10_dropNumbered_37 fl_X10_82 rfl (Or.inl rfl) g19 ⟨rfl, rfl⟩ ?_
        refine ev_st e21 ?_
        refine ev_aload_nR 0 dX10_dropNumbered_40 rfl ?_
        obtain ⟨p22, e23, h⟩ := op_some h
        refine ev_getPR dX10_dropNumbered_41 fl_X10_19 rfl (isO_I e21 g19) e23 ?_
        refine ev_iload_n 1 dX10_dropNumbered_44 rfl ?_
        refine ev_iload_n 2 dX10_dropNumbered_45 rfl ?_
        obtain ⟨g24, h⟩ := gd_some h
        obtain ⟨r27, σ25, e26, h⟩ := bd_some h
        refine ev_invVi (As := [.int (a1), .int (a2)]) (st := []) dX10_dropNumbered_46 cb_X6_present tp_464 tp_465 tp_466 kf6 rfl (by omega) g24 rfl rfl (Nat.le_of_ble_eq_true rfl) (x_X6_present e26) ?_
        obtain ⟨r30, σ28, e29, h⟩ := bd_some h
        refine ev_invSi (As := [.int (r27)]) (st := []) dX10_dropNumbered_49 cb_J6_bitCount_0f7a4 tp_468 tp_469 (by omega) rfl rfl (Nat.le_of_ble_eq_true rfl) (x_J6_bitCount_0f7a4 e29) ?_
        exact ev_retI .int dX10_dropNumbered_52 rfl rfl h
def s_X10_hasGoal (a0 : Nat) (σ : St) : Option (Int32 × St) :=
 if isO σ 10 a0 = true then (op (sP σ a0 1) fun p2 =>
 if isO σ 6 p2 = true then (bd (s_X6_at p2 0 σ) fun r7 σ5 =>
 on r7 (some (0, σ5)) fun w8 => some (1, σ5)) else none) else none
set_option maxHeartbeats 4000000 in
set_option maxRecDepth 100000 in
theorem x_X10_hasGoal {a0 : Nat} {σ : St} {r : Int32} {σ' : St} (h : s_X10_hasGoal a0 σ = some (r, σ')) : Ex M_X10_hasGoal (2) [.ref a0] σ (some (.int r)) σ' := by
  unfold s_X10_hasGoal at h
  refine ex_of (by decide) rfl (Nat.le_of_ble_eq_true rfl) ?_
  show Ev _ _ 0 [(0, .ref a0)] [] _ _ _
  refine ev_aload_nR 0 dX10_hasGoal_0 rfl ?_
  obtain ⟨g1, h⟩ := gd_some h
  obtain ⟨p2, e3, h⟩ := op_some h
  refine ev_getPR dX10_hasGoal_1 fl_X10_19 rfl g1 e3 ?_
  refine ev_iconst (v := 0) dX10_hasGoal_4 (by decide) ?_
  obtain ⟨g4, h⟩ := gd_some h
  obtain ⟨r7, σ5, e6, h⟩ := bd_some h
  refine ev_invVq (As := [.int (0)]) (st := []) dX10_hasGoal_5 cb_X6_at tp_463 tp_427 tp_428 kf6 rfl (by omega) g4 rfl rfl (Nat.le_of_ble_eq_true rfl) (x_X6_at e6) ?_
  rcases on_some h with ⟨e9, h⟩ | ⟨w8, e9, h⟩
  · rw [e9]
    refine ev_ifnull (tgt := 15) dX10_hasGoal_8 rfl ?_
    refine ev_iconst (v := 0) dX10_hasGoal_15 (by decide) ?_
    exact ev_retI .boolean dX10_hasGoal_16 rfl rfl h
  · rw [e9]
    refine ev_ifnull_n dX10_hasGoal_8 ?_
    refine ev_iconst (v := 1) dX10_hasGoal_11 (by decide) ?_
    refine ev_goto (tgt := 16) dX10_hasGoal_12 rfl ?_
    exact ev_retI .boolean dX10_hasGoal_16 rfl rfl h
def s_X10_dropGoal (a0 : Nat) (σ : St) : Option (Int32 × St) :=
 if isO σ 10 a0 = true then (bd (s_X10_hasGoal a0 σ) fun r4 σ2 =>
 if r4 = 0 then (some ((-3), σ2)) else (if isO σ2 10 a0 = true then (op (sP σ2 a0 1) fun p7 =>
 if isO σ2 6 p7 = true then (bd (s_X6_set p7 0 none σ2) fun r12 σ10 =>
 if isO σ10 10 a0 = true then (lt (setI σ10 a0 11 1) fun σ14 =>
 some (0, σ14)) else none) else none) else none)) else none
set_option maxHeartbeats 4000000 in
set_option maxRecDepth 100000 in
theorem x_X10_dropGoal {a0 : Nat} {σ : St} {r : Int32} {σ' : St} (h : s_X10_dropGoal a0 σ = some (r, σ')) : Ex M_X10_dropGoal (3) [.ref a0] σ (some (.int r)) σ' := by
  unfold s_X10_dropGoal at h
  refine ex_of (by decide) rfl (Nat.le_of_ble_eq_true rfl) ?_
  show Ev _ _ 0 [(0, .ref a0)] [] _ _ _
  refine ev_aload_nR 0 dX10_dropGoal_0 rfl ?_
  obtain ⟨g1, h⟩ := gd_some h
  obtain ⟨r4, σ2, e3, h⟩ := bd_some h
  refine ev_invVi (As := []) (st := []) dX10_dropGoal_1 cb_X10_hasGoal tp_478 tp_480 tp_13 kf10 rfl (by omega) g1 rfl rfl (Nat.le_of_ble_eq_true rfl) (x_X10_hasGoal e3) ?_
  rcases it_some h with ⟨c5, h⟩ | ⟨c5, h⟩
  · refine ev_if_ne_n 10 dX10_dropGoal_4 rfl c5 ?_
    refine ev_bipush (v := (-3)) dX10_dropGoal_7 (by decide) ?_
    exact ev_retI .int dX10_dropGoal_9 rfl rfl h
  · refine ev_if_ne (tgt := 10) dX10_dropGoal_4 rfl c5 ?_
    refine ev_aload_nR 0 dX10_dropGoal_10 rfl ?_
    obtain ⟨g6, h⟩ := gd_some h
    obtain ⟨p7, e8, h⟩ := op_some h
    refine ev_getPR dX10_dropGoal_11 fl_X10_19 rfl g6 e8 ?_
    refine ev_iconst (v := 0) dX10_dropGoal_14 (by decide) ?_
    refine ev_null dX10_dropGoal_15 ?_
    obtain ⟨g9, h⟩ := gd_some h
    obtain ⟨r12, σ10, e11, h⟩ := bd_some h
    refine ev_invVv (As := [.int (0), va_rf none]) (st := []) dX10_dropGoal_16 cb_X6_set tp_450 tp_451 tp_452 kf6 rfl (by omega) g9 rfl rfl (Nat.le_of_ble_eq_true rfl) (x_X6_set e11) ?_
    refine ev_aload_nR 0 dX10_dropGoal_19 rfl ?_
    refine ev_iconst (v := 1) dX10_dropGoal_20 (by decide) ?_
    obtain ⟨g13, h⟩ := gd_some h
    obtain ⟨σ14, e15, h⟩ := lt_some h
    refine ev_putI dX10_dropGoal_21 fl_X10_82 rfl (Or.inl rfl) g13 ⟨rfl, rfl⟩ ?_
    refine ev_st e15 ?_
    refine ev_iconst (v := 0) dX10_dropGoal_24 (by decide) ?_
    exact ev_retI .int dX10_dropGoal_25 rfl rfl h
def s_X10_drop (a0 : Nat) (a1 : Int32) (a2 : Int32) (σ : St) : Option (Int32 × St) :=
 if a1 = 0 then (if isO σ 10 a0 = true then (bd (s_X10_dropNumbered a0 1 5 a2 σ) fun r5 σ3 =>
 some (r5, σ3)) else none) else (if a1 = 1 then (if isO σ 10 a0 = true then (bd (s_X10_dropNumbered a0 6 4 a2 σ) fun r10 σ8 =>
 some (r10, σ8)) else none) else (if a1 = 2 then (if isO σ 10 a0 = true then (bd (s_X10_dropGoal a0 σ) fun r15 σ13 =>
 some (r15, σ13)) else none) else (some ((-2), σ))))
set_option maxHeartbeats 4000000 in
set_option maxRecDepth 100000 in
theorem x_X10_drop {a0 : Nat} {a1 : Int32} {a2 : Int32} {σ : St} {r : Int32} {σ' : St} (h : s_X10_drop a0 a1 a2 σ = some (r, σ')) : Ex M_X10_drop (4) [.ref a0, .int (a1), .int (a2)] σ (some (.int r)) σ' := by
  unfold s_X10_drop at h
  refine ex_of (by decide) rfl (Nat.le_of_ble_eq_true rfl) ?_
  show Ev _ _ 0 [(0, .ref a0), (1, .int (a1)), (2, .int (a2))] [] _ _ _
  refine ev_iload_n 1 dX10_drop_0 rfl ?_
  rcases it_some h with ⟨c1, h⟩ | ⟨c1, h⟩
  · refine ev_tableIn (off := 27) (tgt := 28) dX10_drop_1 0 (by rw [c1]; decide) (by decide) rfl rfl ?_
    refine ev_aload_nR 0 dX10_drop_28 rfl ?_
    refine ev_iconst (v := 1) dX10_drop_29 (by decide) ?_
    refine ev_iconst (v := 5) dX10_drop_30 (by decide) ?_
    refine ev_iload_n 2 dX10_drop_31 rfl ?_
    obtain ⟨g2, h⟩ := gd_some h
    obtain ⟨r5, σ3, e4, h⟩ := bd_some h
    refine ev_invVi (As := [.int (1), .int (5), .int (a2)]) (st := []) dX10_drop_32 cb_X10_dropNumbered tp_459 tp_461 tp_11 kf10 rfl (by omega) g2 rfl rfl (Nat.le_of_ble_eq_true rfl) (x_X10_dropNumbered e4) ?_
    exact ev_retI .int dX10_drop_35 rfl rfl h
  rcases it_some h with ⟨c6, h⟩ | ⟨c6, h⟩
  · refine ev_tableIn (off := 35) (tgt := 36) dX10_drop_1 1 (by rw [c6]; decide) (by decide) rfl rfl ?_
    refine ev_aload_nR 0 dX10_drop_36 rfl ?_
    refine ev_bipush (v := 6) dX10_drop_37 (by decide) ?_
    refine ev_iconst (v := 4) dX10_drop_39 (by decide) ?_
    refine ev_iload_n 2 dX10_drop_40 rfl ?_
    obtain ⟨g7, h⟩ := gd_some h
    obtain ⟨r10, σ8, e9, h⟩ := bd_some h
    refine ev_invVi (As := [.int (6), .int (4), .int (a2)]) (st := []) dX10_drop_41 cb_X10_dropNumbered tp_459 tp_461 tp_11 kf10 rfl (by omega) g7 rfl rfl (Nat.le_of_ble_eq_true rfl) (x_X10_dropNumbered e9) ?_
    exact ev_retI .int dX10_drop_44 rfl rfl h
  rcases it_some h with ⟨c11, h⟩ | ⟨c11, h⟩
  · refine ev_tableIn (off := 44) (tgt := 45) dX10_drop_1 2 (by rw [c11]; decide) (by decide) rfl rfl ?_
    refine ev_aload_nR 0 dX10_drop_45 rfl ?_
    obtain ⟨g12, h⟩ := gd_some h
    obtain ⟨r15, σ13, e14, h⟩ := bd_some h
    refine ev_invVi (As := []) (st := []) dX10_drop_46 cb_X10_dropGoal tp_474 tp_476 tp_12 kf10 rfl (by omega) g12 rfl rfl (Nat.le_of_ble_eq_true rfl) (x_X10_dropGoal e14) ?_
    exact ev_retI .int dX10_drop_49 rfl rfl h
  have hx : a1.toInt < 0 ∨ 2 < a1.toInt := tab_out a1 0 2 (by decide) (fun k h1 h2 => by
      rcases (show k = 0 ∨ k = 1 ∨ k = 2 by omega) with rfl | rfl | rfl
      · exact ne_toInt c1
      · exact ne_toInt c6
      · exact ne_toInt c11)
  refine ev_tableOut (tgt := 50) dX10_drop_1 hx rfl ?_
  refine ev_bipush (v := (-2)) dX10_drop_50 (by decide) ?_
  exact ev_retI .int dX10_drop_52 rfl rfl h
def s_X10_allResources (a0 : Nat) (σ : St) : Option (Int32 × St) :=
 if isO σ 10 a0 = true then (op (sP σ a0 1) fun p2 =>
 if isO σ 6 p2 = true then (bd (s_X6_present p2 1 5 σ) fun r7 σ5 =>
 some (r7, σ5)) else none) else none
set_option maxHeartbeats 4000000 in
set_option maxRecDepth 100000 in
theorem x_X10_allResources {a0 : Nat} {σ : St} {r : Int32} {σ' : St} (h : s_X10_allResources a0 σ = some (r, σ')) : Ex M_X10_allResources (3) [.ref a0] σ (some (.int r)) σ' := by
  unfold s_X10_allResources at h
  refine ex_of (by decide) rfl (Nat.le_of_ble_eq_true rfl) ?_
  show Ev _ _ 0 [(0, .ref a0)] [] _ _ _
  refine ev_aload_nR 0 dX10_allResources_0 rfl ?_
  obtain ⟨g1, h⟩ := gd_some h
  obtain ⟨p2, e3, h⟩ := op_some h
  refine ev_getPR dX10_allResources_1 fl_X10_19 rfl g1 e3 ?_
  refine ev_iconst (v := 1) dX10_allResources_4 (by decide) ?_
  refine ev_iconst (v := 5) dX10_allResources_5 (by decide) ?_
  obtain ⟨g4, h⟩ := gd_some h
  obtain ⟨r7, σ5, e6, h⟩ := bd_some h
  refine ev_invVi (As := [.int (1), .int (5)]) (st := []) dX10_allResources_6 cb_X6_present tp_464 tp_465 tp_466 kf6 rfl (by omega) g4 rfl rfl (Nat.le_of_ble_eq_true rfl) (x_X6_present e6) ?_
  exact ev_retI .int dX10_allResources_9 rfl rfl h
def s_X10_isSetOfResources (a0 : Nat) (a1 : Int32) (σ : St) : Option (Int32 × St) :=
 if a1 < 0 then (some (0, σ)) else (if isO σ 10 a0 = true then (bd (s_X10_allResources a0 σ) fun r5 σ3 =>
 if (a1 &&& (r5 ^^^ ((-1)))) = 0 then (some (1, σ3)) else (some (0, σ3))) else none)
set_option maxHeartbeats 4000000 in
set_option maxRecDepth 100000 in
theorem x_X10_isSetOfResources {a0 : Nat} {a1 : Int32} {σ : St} {r : Int32} {σ' : St} (h : s_X10_isSetOfResources a0 a1 σ = some (r, σ')) : Ex M_X10_isSetOfResources (4) [.ref a0, .int (a1)] σ (some (.int r)) σ' := by
  unfold s_X10_isSetOfResources at h
  refine ex_of (by decide) rfl (Nat.le_of_ble_eq_true rfl) ?_
  show Ev _ _ 0 [(0, .ref a0), (1, .int (a1))] [] _ _ _
  refine ev_iload_n 1 dX10_isSetOfResources_0 rfl ?_
  rcases it_some h with ⟨c1, h⟩ | ⟨c1, h⟩
  · refine ev_if_lt (tgt := 19) dX10_isSetOfResources_1 rfl c1 ?_
    refine ev_iconst (v := 0) dX10_isSetOfResources_19 (by decide) ?_
    exact ev_retI .boolean dX10_isSetOfResources_20 rfl rfl h
  · refine ev_if_lt_n 19 dX10_isSetOfResources_1 rfl c1 ?_
    refine ev_iload_n 1 dX10_isSetOfResources_4 rfl ?_
    refine ev_aload_nR 0 dX10_isSetOfResources_5 rfl ?_
    obtain ⟨g2, h⟩ := gd_some h
    obtain ⟨r5, σ3, e4, h⟩ := bd_some h
    refine ev_invVi (As := []) (st := [.int (a1)]) dX10_isSetOfResources_6 cb_X10_allResources tp_490 tp_492 tp_15 kf10 rfl (by omega) g2 rfl rfl (Nat.le_of_ble_eq_true rfl) (x_X10_allResources e4) ?_
    refine ev_iconst (v := (-1)) dX10_isSetOfResources_9 (by decide) ?_
    refine ev_ixor dX10_isSetOfResources_10 ?_
    refine ev_iand dX10_isSetOfResources_11 ?_
    rcases it_some h with ⟨c6, h⟩ | ⟨c6, h⟩
    · refine ev_if_ne_n 19 dX10_isSetOfResources_12 rfl c6 ?_
      refine ev_iconst (v := 1) dX10_isSetOfResources_15 (by decide) ?_
      refine ev_goto (tgt := 20) dX10_isSetOfResources_16 rfl ?_
      exact ev_retI .boolean dX10_isSetOfResources_20 rfl rfl h
    · refine ev_if_ne (tgt := 19) dX10_isSetOfResources_12 rfl c6 ?_
      refine ev_iconst (v := 0) dX10_isSetOfResources_19 (by decide) ?_
      exact ev_retI .boolean dX10_isSetOfResources_20 rfl rfl h
def s_X10_prepare (a0 : Nat) (σ : St) : Option (Unit × St) :=
 if isO σ 10 a0 = true then (if (sI σ a0 11) = 0 then (some ((), σ)) else (op (sP σ a0 4) fun p3 =>
 op (sP σ a0 1) fun p5 =>
 if isO σ 3 p3 = true then (bd (s_X3_build p3 p5 σ) fun r10 σ8 =>
 if isO σ8 10 a0 = true then (op (sP σ8 a0 5) fun p12 =>
 if isO σ8 4 p12 = true then (bd (s_X4_compute p12 σ8) fun r17 σ15 =>
 if isO σ15 10 a0 = true then (op (sP σ15 a0 6) fun p19 =>
 if isO σ15 9 p19 = true then (bd (s_X9_forget p19 σ15) fun r24 σ22 =>
 if isO σ22 10 a0 = true then (op (sP σ22 a0 7) fun p26 =>
 if isO σ22 0 p26 = true then (bd (s_X0_forget p26 σ22) fun r31 σ29 =>
 if isO σ29 10 a0 = true then (lt (setI σ29 a0 11 0) fun σ33 =>
 some ((), σ33)) else none) else none) else none) else none) else none) else none) else none) else none)) else none
set_option maxHeartbeats 4000000 in
set_option maxRecDepth 100000 in
theorem x_X10_prepare {a0 : Nat} {σ : St} {r : Unit} {σ' : St} (h : s_X10_prepare a0 σ = some (r, σ')) : Ex M_X10_prepare (391) [.ref a0] σ none σ' := by
  unfold s_X10_prepare at h
  refine ex_of (by decide) rfl (Nat.le_of_ble_eq_true rfl) ?_
  show Ev _ _ 0 [(0, .ref a0)] [] _ _ _
  refine ev_aload_nR 0 dX10_prepare_0 rfl ?_
  obtain ⟨g1, h⟩ := gd_some h
  refine ev_getI dX10_prepare_1 fl_X10_82 rfl g1 ?_
  rcases it_some h with ⟨c2, h⟩ | ⟨c2, h⟩
  · refine ev_if_eq (tgt := 44) dX10_prepare_4 rfl c2 ?_
    exact ev_retV dX10_prepare_44 rfl h
  · refine ev_if_eq_n 44 dX10_prepare_4 rfl c2 ?_
    refine ev_aload_nR 0 dX10_prepare_7 rfl ?_
    obtain ⟨p3, e4, h⟩ := op_some h
    refine ev_getPR dX10_prepare_8 fl_X10_34 rfl g1 e4 ?_
    refine ev_aload_nR 0 dX10_prepare_11 rfl ?_
    obtain ⟨p5, e6, h⟩ := op_some h
    refine ev_getPR dX10_prepare_12 fl_X10_19 rfl g1 e6 ?_
    obtain ⟨g7, h⟩ := gd_some h
    obtain ⟨r10, σ8, e9, h⟩ := bd_some h
    refine ev_invVv (As := [.ref p5]) (st := []) dX10_prepare_15 cb_X3_build tp_498 tp_499 tp_500 kf3 rfl (by omega) g7 rfl rfl (Nat.le_of_ble_eq_true rfl) (x_X3_build e9) ?_
    refine ev_aload_nR 0 dX10_prepare_18 rfl ?_
    obtain ⟨g11, h⟩ := gd_some h
    obtain ⟨p12, e13, h⟩ := op_some h
    refine ev_getPR dX10_prepare_19 fl_X10_42 rfl g11 e13 ?_
    obtain ⟨g14, h⟩ := gd_some h
    obtain ⟨r17, σ15, e16, h⟩ := bd_some h
    refine ev_invVv (As := []) (st := []) dX10_prepare_22 cb_X4_compute tp_512 tp_513 tp_514 kf4 rfl (by omega) g14 rfl rfl (Nat.le_of_ble_eq_true rfl) (x_X4_compute e16) ?_
    refine ev_aload_nR 0 dX10_prepare_25 rfl ?_
    obtain ⟨g18, h⟩ := gd_some h
    obtain ⟨p19, e20, h⟩ := op_some h
    refine ev_getPR dX10_prepare_26 fl_X10_51 rfl g18 e20 ?_
    obtain ⟨g21, h⟩ := gd_some h
    obtain ⟨r24, σ22, e23, h⟩ := bd_some h
    refine ev_invVv (As := []) (st := []) dX10_prepare_29 cb_X9_forget tp_609 tp_610 tp_611 kf9 rfl (by omega) g21 rfl rfl (Nat.le_of_ble_eq_true rfl) (x_X9_forget e23) ?_
    refine ev_aload_nR 0 dX10_prepare_32 rfl ?_
    obtain ⟨g25, h⟩ := gd_some h
    obtain ⟨p26, e27, h⟩ := op_some h
    refine ev_getPR dX10_prepare_33 fl_X10_58 rfl g25 e27 ?_
    obtain ⟨g28, h⟩ := gd_some h
    obtain ⟨r31, σ29, e30, h⟩ := bd_some h
    refine ev_invVv (As := []) (st := []) dX10_prepare_36 cb_X0_forget tp_613 tp_614 tp_615 kf0 rfl (by omega) g28 rfl rfl (Nat.le_of_ble_eq_true rfl) (x_X0_forget e30) ?_
    refine ev_aload_nR 0 dX10_prepare_39 rfl ?_
    refine ev_iconst (v := 0) dX10_prepare_40 (by decide) ?_
    obtain ⟨g32, h⟩ := gd_some h
    obtain ⟨σ33, e34, h⟩ := lt_some h
    refine ev_putI dX10_prepare_41 fl_X10_82 rfl (Or.inl rfl) g32 ⟨rfl, rfl⟩ ?_
    refine ev_st e34 ?_
    exact ev_retV dX10_prepare_44 rfl h
def s_X10_height (a0 : Nat) (a1 : Int32) (σ : St) : Option (Int32 × St) :=
 if isO σ 10 a0 = true then (bd (s_X10_isSetOfResources a0 a1 σ) fun r4 σ2 =>
 if r4 = 0 then (some ((-1), σ2)) else (if isO σ2 10 a0 = true then (bd (s_X10_hasGoal a0 σ2) fun r9 σ7 =>
 if r9 = 0 then (some ((-3), σ7)) else (if isO σ7 10 a0 = true then (bd (s_X10_prepare a0 σ7) fun r14 σ12 =>
 if isO σ12 10 a0 = true then (op (sP σ12 a0 5) fun p16 =>
 op (sP σ12 a0 4) fun p18 =>
 if isO σ12 3 p18 = true then (bd (s_X3_root p18 σ12) fun r23 σ21 =>
 if isO σ21 4 p16 = true then (bd (s_X4_leastHeight p16 r23 a1 σ21) fun r27 σ25 =>
 some (r27, σ25)) else none) else none) else none) else none)) else none)) else none
set_option maxHeartbeats 4000000 in
set_option maxRecDepth 100000 in
theorem x_X10_height {a0 : Nat} {a1 : Int32} {σ : St} {r : Int32} {σ' : St} (h : s_X10_height a0 a1 σ = some (r, σ')) : Ex M_X10_height (392) [.ref a0, .int (a1)] σ (some (.int r)) σ' := by
  unfold s_X10_height at h
  refine ex_of (by decide) rfl (Nat.le_of_ble_eq_true rfl) ?_
  show Ev _ _ 0 [(0, .ref a0), (1, .int (a1))] [] _ _ _
  refine ev_aload_nR 0 dX10_height_0 rfl ?_
  refine ev_iload_n 1 dX10_height_1 rfl ?_
  obtain ⟨g1, h⟩ := gd_some h
  obtain ⟨r4, σ2, e3, h⟩ := bd_some h
  refine ev_invVi (As := [.int (a1)]) (st := []) dX10_height_2 cb_X10_isSetOfResources tp_486 tp_488 tp_14 kf10 rfl (by omega) g1 rfl rfl (Nat.le_of_ble_eq_true rfl) (x_X10_isSetOfResources e3) ?_
  rcases it_some h with ⟨c5, h⟩ | ⟨c5, h⟩
  · refine ev_if_ne_n 10 dX10_height_5 rfl c5 ?_
    refine ev_iconst (v := (-1)) dX10_height_8 (by decide) ?_
    exact ev_retI .int dX10_height_9 rfl rfl h
  · refine ev_if_ne (tgt := 10) dX10_height_5 rfl c5 ?_
    refine ev_aload_nR 0 dX10_height_10 rfl ?_
    obtain ⟨g6, h⟩ := gd_some h
    obtain ⟨r9, σ7, e8, h⟩ := bd_some h
    refine ev_invVi (As := []) (st := []) dX10_height_11 cb_X10_hasGoal tp_478 tp_480 tp_13 kf10 rfl (by omega) g6 rfl rfl (Nat.le_of_ble_eq_true rfl) (x_X10_hasGoal e8) ?_
    rcases it_some h with ⟨c10, h⟩ | ⟨c10, h⟩
    · refine ev_if_ne_n 20 dX10_height_14 rfl c10 ?_
      refine ev_bipush (v := (-3)) dX10_height_17 (by decide) ?_
      exact ev_retI .int dX10_height_19 rfl rfl h
    · refine ev_if_ne (tgt := 20) dX10_height_14 rfl c10 ?_
      refine ev_aload_nR 0 dX10_height_20 rfl ?_
      obtain ⟨g11, h⟩ := gd_some h
      obtain ⟨r14, σ12, e13, h⟩ := bd_some h
      refine ev_invVv (As := []) (st := []) dX10_height_21 cb_X10_prepare tp_494 tp_496 tp_16 kf10 rfl (by omega) g11 rfl rfl (Nat.le_of_ble_eq_true rfl) (x_X10_prepare e13) ?_
      refine ev_aload_nR 0 dX10_height_24 rfl ?_
      obtain ⟨g15, h⟩ := gd_some h
      obtain ⟨p16, e17, h⟩ := op_some h
      refine ev_getPR dX10_height_25 fl_X10_42 rfl g15 e17 ?_
      refine ev_aload_nR 0 dX10_height_28 rfl ?_
      obtain ⟨p18, e19, h⟩ := op_some h
      refine ev_getPR dX10_height_29 fl_X10_34 rfl g15 e19 ?_
      obtain ⟨g20, h⟩ := gd_some h
      obtain ⟨r23, σ21, e22, h⟩ := bd_some h
      refine ev_invVi (As := []) (st := [.ref p16]) dX10_height_32 cb_X3_root tp_617 tp_618 tp_619 kf3 rfl (by omega) g20 rfl rfl (Nat.le_of_ble_eq_true rfl) (x_X3_root e22) ?_
      refine ev_iload_n 1 dX10_height_35 rfl ?_
      obtain ⟨g24, h⟩ := gd_some h
      obtain ⟨r27, σ25, e26, h⟩ := bd_some h
      refine ev_invVi (As := [.int (r23), .int (a1)]) (st := []) dX10_height_36 cb_X4_leastHeight tp_621 tp_622 tp_623 kf4 rfl (by omega) g24 rfl rfl (Nat.le_of_ble_eq_true rfl) (x_X4_leastHeight e26) ?_
      exact ev_retI .int dX10_height_39 rfl rfl h
def sb_X10_left_43 (k43 : Nat → Int32 → Int32 → Int32 → Int32 → Int32 → St → Option (Int32 × St)) (a0 : Nat) (a1 : Int32) (a2 : Int32) (a3 : Int32) (a4 : Int32) (a5 : Int32) (σ : St) : Option (Int32 × St) :=
 if a3 < a5 then (if a2 = ((-1)) then (some (a4, σ)) else (some ((-6), σ))) else (if (a5 &&& (a3 ^^^ ((-1)))) = 0 then (if isO σ 10 a0 = true then (op (sP σ a0 5) fun p7 =>
 op (sP σ a0 4) fun p9 =>
 if isO σ 3 p9 = true then (bd (s_X3_root p9 σ) fun r14 σ12 =>
 if isO σ12 4 p7 = true then (bd (s_X4_proves p7 r14 (a3 &&& (a5 ^^^ ((-1)))) a1 σ12) fun r18 σ16 =>
 if r18 = 0 then (lt (a5 + 1 : Int32) fun v20 =>
 k43 a0 a1 a2 a3 a4 v20 σ16) else (if a4 = a2 then (some (a5, σ16)) else (lt (a4 + 1 : Int32) fun v23 =>
 lt (a5 + 1 : Int32) fun v25 =>
 k43 a0 a1 a2 a3 v23 v25 σ16))) else none) else none) else none) else (lt (a5 + 1 : Int32) fun v4 =>
 k43 a0 a1 a2 a3 a4 v4 σ))
def s_X10_left_43 (F : Nat) : Nat → Int32 → Int32 → Int32 → Int32 → Int32 → St → Option (Int32 × St) := lp (fun _ _ _ _ _ _ _ => none) (sb_X10_left_43 ) F
set_option maxHeartbeats 4000000 in
set_option maxRecDepth 100000 in
theorem e_X10_left_43 {r : Int32} {σ' : St} (F : Nat) : ∀ {a0 : Nat} {a1 : Int32} {a2 : Int32} {a3 : Int32} {a4 : Int32} {a5 : Int32} {σ : St}, s_X10_left_43 F a0 a1 a2 a3 a4 a5 σ = some (r, σ') → Ev M_X10_left (392) 43 [(0, .ref a0), (1, .int (a1)), (2, .int (a2)), (3, .int (a3)), (4, .int (a4)), (5, .int (a5))] [] σ (some (.int r)) σ' := by
  induction F with
  | zero => intro a0 a1 a2 a3 a4 a5 σ h; cases h
  | succ F ih =>
    intro a0 a1 a2 a3 a4 a5 σ h
    change sb_X10_left_43  (s_X10_left_43 F) a0 a1 a2 a3 a4 a5 σ = some (r, σ') at h
    unfold sb_X10_left_43 at h
    have hk43 := @ih
    refine ev_iload 5 dX10_left_43 rfl ?_
    refine ev_iload_n 3 dX10_left_45 rfl ?_
    rcases it_some h with ⟨c1, h⟩ | ⟨c1, h⟩
    · refine ev_icmp_gt (tgt := 100) dX10_left_46 rfl c1 ?_
      refine ev_iload_n 2 dX10_left_100 rfl ?_
      refine ev_iconst (v := (-1)) dX10_left_101 (by decide) ?_
      rcases it_some h with ⟨c2, h⟩ | ⟨c2, h⟩
      · refine ev_icmp_ne_n 110 dX10_left_102 rfl c2 ?_
        refine ev_iload 4 dX10_left_105 rfl ?_
        refine ev_goto (tgt := 112) dX10_left_107 rfl ?_
        exact ev_retI .int dX10_left_112 rfl rfl h
      · refine ev_icmp_ne (tgt := 110) dX10_left_102 rfl c2 ?_
        refine ev_bipush (v := (-6)) dX10_left_110 (by decide) ?_
        exact ev_retI .int dX10_left_112 rfl rfl h
    · refine ev_icmp_gt_n 100 dX10_left_46 rfl c1 ?_
      refine ev_iload 5 dX10_left_49 rfl ?_
      refine ev_iload_n 3 dX10_left_51 rfl ?_
      refine ev_iconst (v := (-1)) dX10_left_52 (by decide) ?_
      refine ev_ixor dX10_left_53 ?_
      refine ev_iand dX10_left_54 ?_
      rcases it_some h with ⟨c3, h⟩ | ⟨c3, h⟩
      · refine ev_if_ne_n 94 dX10_left_55 rfl c3 ?_
        refine ev_aload_nR 0 dX10_left_58 rfl ?_
        obtain ⟨g6, h⟩ := gd_some h
        obtain ⟨p7, e8, h⟩ := op_some h
        refine ev_getPR dX10_left_59 fl_X10_42 rfl g6 e8 ?_
        refine ev_aload_nR 0 dX10_left_62 rfl ?_
        obtain ⟨p9, e10, h⟩ := op_some h
        refine ev_getPR dX10_left_63 fl_X10_34 rfl g6 e10 ?_
        obtain ⟨g11, h⟩ := gd_some h
        obtain ⟨r14, σ12, e13, h⟩ := bd_some h
        refine ev_invVi (As := []) (st := [.ref p7]) dX10_left_66 cb_X3_root tp_617 tp_618 tp_619 kf3 rfl (by omega) g11 rfl rfl (Nat.le_of_ble_eq_true rfl) (x_X3_root e13) ?_
        refine ev_iload_n 3 dX10_left_69 rfl ?_
        refine ev_iload 5 dX10_left_70 rfl ?_
        refine ev_iconst (v := (-1)) dX10_left_72 (by decide) ?_
        refine ev_ixor dX10_left_73 ?_
        refine ev_iand dX10_left_74 ?_
        refine ev_iload_n 1 dX10_left_75 rfl ?_
        obtain ⟨g15, h⟩ := gd_some h
        obtain ⟨r18, σ16, e17, h⟩ := bd_some h
        refine ev_invVi (As := [.int (r14), .int (a3 &&& (a5 ^^^ ((-1)))), .int (a1)]) (st := []) dX10_left_76 cb_X4_proves tp_634 tp_626 tp_627 kf4 rfl (by omega) g15 rfl rfl (Nat.le_of_ble_eq_true rfl) (x_X4_proves e17) ?_
        rcases it_some h with ⟨c19, h⟩ | ⟨c19, h⟩
        · refine ev_if_eq (tgt := 94) dX10_left_79 rfl c19 ?_
          obtain ⟨v20, e21, h⟩ := lt_some h
          refine ev_iinc (v := v20) (ls' := [(5, .int (v20)), (0, .ref a0), (1, .int (a1)), (2, .int (a2)), (3, .int (a3)), (4, .int (a4))]) 5 dX10_left_94 rfl e21.symm (by decide) rfl ?_
          refine ev_goto (tgt := 43) dX10_left_97 rfl ?_
          refine ev_sub (ls' := [(0, .ref a0), (1, .int (a1)), (2, .int (a2)), (3, .int (a3)), (4, .int (a4)), (5, .int (v20))]) [1, 2, 3, 4, 5, 0] rfl ?_
          exact hk43 h
        · refine ev_if_eq_n 94 dX10_left_79 rfl c19 ?_
          refine ev_iload 4 dX10_left_82 rfl ?_
          refine ev_iload_n 2 dX10_left_84 rfl ?_
          rcases it_some h with ⟨c22, h⟩ | ⟨c22, h⟩
          · refine ev_icmp_ne_n 91 dX10_left_85 rfl c22 ?_
            refine ev_iload 5 dX10_left_88 rfl ?_
            exact ev_retI .int dX10_left_90 rfl rfl h
          · refine ev_icmp_ne (tgt := 91) dX10_left_85 rfl c22 ?_
            obtain ⟨v23, e24, h⟩ := lt_some h
            refine ev_iinc (v := v23) (ls' := [(4, .int (v23)), (0, .ref a0), (1, .int (a1)), (2, .int (a2)), (3, .int (a3)), (5, .int (a5))]) 4 dX10_left_91 rfl e24.symm (by decide) rfl ?_
            obtain ⟨v25, e26, h⟩ := lt_some h
            refine ev_iinc (v := v25) (ls' := [(5, .int (v25)), (4, .int (v23)), (0, .ref a0), (1, .int (a1)), (2, .int (a2)), (3, .int (a3))]) 5 dX10_left_94 rfl e26.symm (by decide) rfl ?_
            refine ev_goto (tgt := 43) dX10_left_97 rfl ?_
            refine ev_sub (ls' := [(0, .ref a0), (1, .int (a1)), (2, .int (a2)), (3, .int (a3)), (4, .int (v23)), (5, .int (v25))]) [2, 3, 4, 5, 1, 0] rfl ?_
            exact hk43 h
      · refine ev_if_ne (tgt := 94) dX10_left_55 rfl c3 ?_
        obtain ⟨v4, e5, h⟩ := lt_some h
        refine ev_iinc (v := v4) (ls' := [(5, .int (v4)), (0, .ref a0), (1, .int (a1)), (2, .int (a2)), (3, .int (a3)), (4, .int (a4))]) 5 dX10_left_94 rfl e5.symm (by decide) rfl ?_
        refine ev_goto (tgt := 43) dX10_left_97 rfl ?_
        refine ev_sub (ls' := [(0, .ref a0), (1, .int (a1)), (2, .int (a2)), (3, .int (a3)), (4, .int (a4)), (5, .int (v4))]) [1, 2, 3, 4, 5, 0] rfl ?_
        exact hk43 h
def s_X10_left (a0 : Nat) (a1 : Int32) (a2 : Int32) (σ : St) : Option (Int32 × St) :=
 if a1 < 0 then (some ((-2), σ)) else (if (10 : Int32) < a1 then (some ((-2), σ)) else (if ((-1)) ≤ a2 then (if isO σ 10 a0 = true then (bd (s_X10_hasGoal a0 σ) fun r33 σ31 =>
 if r33 = 0 then (some ((-3), σ31)) else (if isO σ31 10 a0 = true then (bd (s_X10_prepare a0 σ31) fun r38 σ36 =>
 if isO σ36 10 a0 = true then (bd (s_X10_allResources a0 σ36) fun r42 σ40 =>
 s_X10_left_43 16000 a0 a1 a2 r42 0 0 σ40) else none) else none)) else none) else (some ((-2), σ))))
set_option maxHeartbeats 4000000 in
set_option maxRecDepth 100000 in
theorem x_X10_left {a0 : Nat} {a1 : Int32} {a2 : Int32} {σ : St} {r : Int32} {σ' : St} (h : s_X10_left a0 a1 a2 σ = some (r, σ')) : Ex M_X10_left (392) [.ref a0, .int (a1), .int (a2)] σ (some (.int r)) σ' := by
  unfold s_X10_left at h
  refine ex_of (by decide) rfl (Nat.le_of_ble_eq_true rfl) ?_
  show Ev _ _ 0 [(0, .ref a0), (1, .int (a1)), (2, .int (a2))] [] _ _ _
  refine ev_iload_n 1 dX10_left_0 rfl ?_
  rcases it_some h with ⟨c27, h⟩ | ⟨c27, h⟩
  · refine ev_if_lt (tgt := 15) dX10_left_1 rfl c27 ?_
    refine ev_bipush (v := (-2)) dX10_left_15 (by decide) ?_
    exact ev_retI .int dX10_left_17 rfl rfl h
  · refine ev_if_lt_n 15 dX10_left_1 rfl c27 ?_
    refine ev_iload_n 1 dX10_left_4 rfl ?_
    refine ev_bipush (v := 10) dX10_left_5 (by decide) ?_
    rcases it_some h with ⟨c28, h⟩ | ⟨c28, h⟩
    · refine ev_icmp_gt (tgt := 15) dX10_left_7 rfl c28 ?_
      refine ev_bipush (v := (-2)) dX10_left_15 (by decide) ?_
      exact ev_retI .int dX10_left_17 rfl rfl h
    · refine ev_icmp_gt_n 15 dX10_left_7 rfl c28 ?_
      refine ev_iload_n 2 dX10_left_10 rfl ?_
      refine ev_iconst (v := (-1)) dX10_left_11 (by decide) ?_
      rcases it_some h with ⟨c29, h⟩ | ⟨c29, h⟩
      · refine ev_icmp_ge (tgt := 18) dX10_left_12 rfl c29 ?_
        refine ev_aload_nR 0 dX10_left_18 rfl ?_
        obtain ⟨g30, h⟩ := gd_some h
        obtain ⟨r33, σ31, e32, h⟩ := bd_some h
        refine ev_invVi (As := []) (st := []) dX10_left_19 cb_X10_hasGoal tp_478 tp_480 tp_13 kf10 rfl (by omega) g30 rfl rfl (Nat.le_of_ble_eq_true rfl) (x_X10_hasGoal e32) ?_
        rcases it_some h with ⟨c34, h⟩ | ⟨c34, h⟩
        · refine ev_if_ne_n 28 dX10_left_22 rfl c34 ?_
          refine ev_bipush (v := (-3)) dX10_left_25 (by decide) ?_
          exact ev_retI .int dX10_left_27 rfl rfl h
        · refine ev_if_ne (tgt := 28) dX10_left_22 rfl c34 ?_
          refine ev_aload_nR 0 dX10_left_28 rfl ?_
          obtain ⟨g35, h⟩ := gd_some h
          obtain ⟨r38, σ36, e37, h⟩ := bd_some h
          refine ev_invVv (As := []) (st := []) dX10_left_29 cb_X10_prepare tp_494 tp_496 tp_16 kf10 rfl (by omega) g35 rfl rfl (Nat.le_of_ble_eq_true rfl) (x_X10_prepare e37) ?_
          refine ev_aload_nR 0 dX10_left_32 rfl ?_
          obtain ⟨g39, h⟩ := gd_some h
          obtain ⟨r42, σ40, e41, h⟩ := bd_some h
          refine ev_invVi (As := []) (st := []) dX10_left_33 cb_X10_allResources tp_490 tp_492 tp_15 kf10 rfl (by omega) g39 rfl rfl (Nat.le_of_ble_eq_true rfl) (x_X10_allResources e41) ?_
          refine ev_istore_n (ls' := [(3, .int (r42)), (0, .ref a0), (1, .int (a1)), (2, .int (a2))]) dX10_left_36 (by decide) rfl ?_
          refine ev_iconst (v := 0) dX10_left_37 (by decide) ?_
          refine ev_istore (ls' := [(4, .int (0)), (3, .int (r42)), (0, .ref a0), (1, .int (a1)), (2, .int (a2))]) dX10_left_38 (by decide) rfl ?_
          refine ev_iconst (v := 0) dX10_left_40 (by decide) ?_
          refine ev_istore (ls' := [(5, .int (0)), (4, .int (0)), (3, .int (r42)), (0, .ref a0), (1, .int (a1)), (2, .int (a2))]) dX10_left_41 (by decide) rfl ?_
          refine ev_sub (ls' := [(0, .ref a0), (1, .int (a1)), (2, .int (a2)), (3, .int (r42)), (4, .int (0)), (5, .int (0))]) [3, 4, 5, 2, 1, 0] rfl ?_
          exact e_X10_left_43 16000 h
      · refine ev_icmp_ge_n 18 dX10_left_12 rfl c29 ?_
        refine ev_bipush (v := (-2)) dX10_left_15 (by decide) ?_
        exact ev_retI .int dX10_left_17 rfl rfl h
def s_X10_ways (a0 : Nat) (a1 : Int32) (a2 : Int32) (σ : St) : Option (Int32 × St) :=
 if isO σ 10 a0 = true then (bd (s_X10_isSetOfResources a0 a1 σ) fun r4 σ2 =>
 if r4 = 0 then (some ((-1), σ2)) else (if a2 < 0 then (some ((-2), σ2)) else (if a2 ≤ 10 then (if isO σ2 10 a0 = true then (bd (s_X10_hasGoal a0 σ2) fun r11 σ9 =>
 if r11 = 0 then (some ((-3), σ9)) else (if isO σ9 10 a0 = true then (bd (s_X10_prepare a0 σ9) fun r16 σ14 =>
 if isO σ14 10 a0 = true then (op (sP σ14 a0 6) fun p18 =>
 if isO σ14 9 p18 = true then (bd (s_X9_number p18 a1 a2 σ14) fun r23 σ21 =>
 some (r23, σ21)) else none) else none) else none)) else none) else (some ((-2), σ2))))) else none
set_option maxHeartbeats 4000000 in
set_option maxRecDepth 100000 in
theorem x_X10_ways {a0 : Nat} {a1 : Int32} {a2 : Int32} {σ : St} {r : Int32} {σ' : St} (h : s_X10_ways a0 a1 a2 σ = some (r, σ')) : Ex M_X10_ways (392) [.ref a0, .int (a1), .int (a2)] σ (some (.int r)) σ' := by
  unfold s_X10_ways at h
  refine ex_of (by decide) rfl (Nat.le_of_ble_eq_true rfl) ?_
  show Ev _ _ 0 [(0, .ref a0), (1, .int (a1)), (2, .int (a2))] [] _ _ _
  refine ev_aload_nR 0 dX10_ways_0 rfl ?_
  refine ev_iload_n 1 dX10_ways_1 rfl ?_
  obtain ⟨g1, h⟩ := gd_some h
  obtain ⟨r4, σ2, e3, h⟩ := bd_some h
  refine ev_invVi (As := [.int (a1)]) (st := []) dX10_ways_2 cb_X10_isSetOfResources tp_486 tp_488 tp_14 kf10 rfl (by omega) g1 rfl rfl (Nat.le_of_ble_eq_true rfl) (x_X10_isSetOfResources e3) ?_
  rcases it_some h with ⟨c5, h⟩ | ⟨c5, h⟩
  · refine ev_if_ne_n 10 dX10_ways_5 rfl c5 ?_
    refine ev_iconst (v := (-1)) dX10_ways_8 (by decide) ?_
    exact ev_retI .int dX10_ways_9 rfl rfl h
  · refine ev_if_ne (tgt := 10) dX10_ways_5 rfl c5 ?_
    refine ev_iload_n 2 dX10_ways_10 rfl ?_
    rcases it_some h with ⟨c6, h⟩ | ⟨c6, h⟩
    · refine ev_if_lt (tgt := 20) dX10_ways_11 rfl c6 ?_
      refine ev_bipush (v := (-2)) dX10_ways_20 (by decide) ?_
      exact ev_retI .int dX10_ways_22 rfl rfl h
    · refine ev_if_lt_n 20 dX10_ways_11 rfl c6 ?_
      refine ev_iload_n 2 dX10_ways_14 rfl ?_
      refine ev_bipush (v := 10) dX10_ways_15 (by decide) ?_
      rcases it_some h with ⟨c7, h⟩ | ⟨c7, h⟩
      · refine ev_icmp_le (tgt := 23) dX10_ways_17 rfl c7 ?_
        refine ev_aload_nR 0 dX10_ways_23 rfl ?_
        obtain ⟨g8, h⟩ := gd_some h
        obtain ⟨r11, σ9, e10, h⟩ := bd_some h
        refine ev_invVi (As := []) (st := []) dX10_ways_24 cb_X10_hasGoal tp_478 tp_480 tp_13 kf10 rfl (by omega) g8 rfl rfl (Nat.le_of_ble_eq_true rfl) (x_X10_hasGoal e10) ?_
        rcases it_some h with ⟨c12, h⟩ | ⟨c12, h⟩
        · refine ev_if_ne_n 33 dX10_ways_27 rfl c12 ?_
          refine ev_bipush (v := (-3)) dX10_ways_30 (by decide) ?_
          exact ev_retI .int dX10_ways_32 rfl rfl h
        · refine ev_if_ne (tgt := 33) dX10_ways_27 rfl c12 ?_
          refine ev_aload_nR 0 dX10_ways_33 rfl ?_
          obtain ⟨g13, h⟩ := gd_some h
          obtain ⟨r16, σ14, e15, h⟩ := bd_some h
          refine ev_invVv (As := []) (st := []) dX10_ways_34 cb_X10_prepare tp_494 tp_496 tp_16 kf10 rfl (by omega) g13 rfl rfl (Nat.le_of_ble_eq_true rfl) (x_X10_prepare e15) ?_
          refine ev_aload_nR 0 dX10_ways_37 rfl ?_
          obtain ⟨g17, h⟩ := gd_some h
          obtain ⟨p18, e19, h⟩ := op_some h
          refine ev_getPR dX10_ways_38 fl_X10_51 rfl g17 e19 ?_
          refine ev_iload_n 1 dX10_ways_41 rfl ?_
          refine ev_iload_n 2 dX10_ways_42 rfl ?_
          obtain ⟨g20, h⟩ := gd_some h
          obtain ⟨r23, σ21, e22, h⟩ := bd_some h
          refine ev_invVi (As := [.int (a1), .int (a2)]) (st := []) dX10_ways_43 cb_X9_number tp_854 tp_855 tp_856 kf9 rfl (by omega) g20 rfl rfl (Nat.le_of_ble_eq_true rfl) (x_X9_number e22) ?_
          exact ev_retI .int dX10_ways_46 rfl rfl h
      · refine ev_icmp_le_n 23 dX10_ways_17 rfl c7 ?_
        refine ev_bipush (v := (-2)) dX10_ways_20 (by decide) ?_
        exact ev_retI .int dX10_ways_22 rfl rfl h
def s_X10_isProvable (a0 : Nat) (a1 : Int32) (σ : St) : Option (Int32 × St) :=
 if isO σ 10 a0 = true then (op (sP σ a0 5) fun p2 =>
 op (sP σ a0 4) fun p4 =>
 if isO σ 3 p4 = true then (bd (s_X3_root p4 σ) fun r9 σ7 =>
 if isO σ7 4 p2 = true then (bd (s_X4_proves p2 r9 a1 10 σ7) fun r13 σ11 =>
 if zok r13 = true then (some (r13, σ11)) else none) else none) else none) else none
set_option maxHeartbeats 4000000 in
set_option maxRecDepth 100000 in
theorem x_X10_isProvable {a0 : Nat} {a1 : Int32} {σ : St} {r : Int32} {σ' : St} (h : s_X10_isProvable a0 a1 σ = some (r, σ')) : Ex M_X10_isProvable (4) [.ref a0, .int (a1)] σ (some (.int r)) σ' := by
  unfold s_X10_isProvable at h
  refine ex_of (by decide) rfl (Nat.le_of_ble_eq_true rfl) ?_
  show Ev _ _ 0 [(0, .ref a0), (1, .int (a1))] [] _ _ _
  refine ev_aload_nR 0 dX10_isProvable_0 rfl ?_
  obtain ⟨g1, h⟩ := gd_some h
  obtain ⟨p2, e3, h⟩ := op_some h
  refine ev_getPR dX10_isProvable_1 fl_X10_42 rfl g1 e3 ?_
  refine ev_aload_nR 0 dX10_isProvable_4 rfl ?_
  obtain ⟨p4, e5, h⟩ := op_some h
  refine ev_getPR dX10_isProvable_5 fl_X10_34 rfl g1 e5 ?_
  obtain ⟨g6, h⟩ := gd_some h
  obtain ⟨r9, σ7, e8, h⟩ := bd_some h
  refine ev_invVi (As := []) (st := [.ref p2]) dX10_isProvable_8 cb_X3_root tp_617 tp_618 tp_619 kf3 rfl (by omega) g6 rfl rfl (Nat.le_of_ble_eq_true rfl) (x_X3_root e8) ?_
  refine ev_iload_n 1 dX10_isProvable_11 rfl ?_
  refine ev_bipush (v := 10) dX10_isProvable_12 (by decide) ?_
  obtain ⟨g10, h⟩ := gd_some h
  obtain ⟨r13, σ11, e12, h⟩ := bd_some h
  refine ev_invVi (As := [.int (r9), .int (a1), .int (10)]) (st := []) dX10_isProvable_14 cb_X4_proves tp_634 tp_626 tp_627 kf4 rfl (by omega) g10 rfl rfl (Nat.le_of_ble_eq_true rfl) (x_X4_proves e12) ?_
  obtain ⟨g14, h⟩ := gd_some h
  exact ev_retI .boolean dX10_isProvable_17 rfl (nz_of g14).1 h
def sb_X10_fewest_28 (k28 : Nat → Int32 → Int32 → Int32 → Int32 → St → Option (Int32 × St)) (a0 : Nat) (a1 : Int32) (a2 : Int32) (a3 : Int32) (a4 : Int32) (σ : St) : Option (Int32 × St) :=
 if a1 < a4 then (some (a2, σ)) else (if (a4 &&& (a1 ^^^ ((-1)))) = 0 then (bd (s_J6_bitCount_0f7a4 a4 σ) fun r7 σ5 =>
 if a3 ≤ r7 then (lt (a4 + 1 : Int32) fun v9 =>
 k28 a0 a1 a2 a3 v9 σ5) else (if isO σ5 10 a0 = true then (bd (s_X10_isProvable a0 a4 σ5) fun r14 σ12 =>
 if r14 = 0 then (lt (a4 + 1 : Int32) fun v16 =>
 k28 a0 a1 a2 a3 v16 σ12) else (bd (s_J6_bitCount_0f7a4 a4 σ12) fun r20 σ18 =>
 lt (a4 + 1 : Int32) fun v21 =>
 k28 a0 a1 a4 r20 v21 σ18)) else none)) else (lt (a4 + 1 : Int32) fun v3 =>
 k28 a0 a1 a2 a3 v3 σ))
def s_X10_fewest_28 (F : Nat) : Nat → Int32 → Int32 → Int32 → Int32 → St → Option (Int32 × St) := lp (fun _ _ _ _ _ _ => none) (sb_X10_fewest_28 ) F
set_option maxHeartbeats 4000000 in
set_option maxRecDepth 100000 in
theorem e_X10_fewest_28 {r : Int32} {σ' : St} (F : Nat) : ∀ {a0 : Nat} {a1 : Int32} {a2 : Int32} {a3 : Int32} {a4 : Int32} {σ : St}, s_X10_fewest_28 F a0 a1 a2 a3 a4 σ = some (r, σ') → Ev M_X10_fewest (392) 28 [(0, .ref a0), (1, .int (a1)), (2, .int (a2)), (3, .int (a3)), (4, .int (a4))] [] σ (some (.int r)) σ' := by
  induction F with
  | zero => intro a0 a1 a2 a3 a4 σ h; cases h
  | succ F ih =>
    intro a0 a1 a2 a3 a4 σ h
    change sb_X10_fewest_28  (s_X10_fewest_28 F) a0 a1 a2 a3 a4 σ = some (r, σ') at h
    unfold sb_X10_fewest_28 at h
    have hk28 := @ih
    refine ev_iload 4 dX10_fewest_28 rfl ?_
    refine ev_iload_n 1 dX10_fewest_30 rfl ?_
    rcases it_some h with ⟨c1, h⟩ | ⟨c1, h⟩
    · refine ev_icmp_gt (tgt := 76) dX10_fewest_31 rfl c1 ?_
      refine ev_iload_n 2 dX10_fewest_76 rfl ?_
      exact ev_retI .int dX10_fewest_77 rfl rfl h
    · refine ev_icmp_gt_n 76 dX10_fewest_31 rfl c1 ?_
      refine ev_iload 4 dX10_fewest_34 rfl ?_
      refine ev_iload_n 1 dX10_fewest_36 rfl ?_
      refine ev_iconst (v := (-1)) dX10_fewest_37 (by decide) ?_
      refine ev_ixor dX10_fewest_38 ?_
      refine ev_iand dX10_fewest_39 ?_
      rcases it_some h with ⟨c2, h⟩ | ⟨c2, h⟩
      · refine ev_if_ne_n 70 dX10_fewest_40 rfl c2 ?_
        refine ev_iload 4 dX10_fewest_43 rfl ?_
        obtain ⟨r7, σ5, e6, h⟩ := bd_some h
        refine ev_invSi (As := [.int (a4)]) (st := []) dX10_fewest_45 cb_J6_bitCount_0f7a4 tp_468 tp_469 (by omega) rfl rfl (Nat.le_of_ble_eq_true rfl) (x_J6_bitCount_0f7a4 e6) ?_
        refine ev_iload_n 3 dX10_fewest_48 rfl ?_
        rcases it_some h with ⟨c8, h⟩ | ⟨c8, h⟩
        · refine ev_icmp_ge (tgt := 70) dX10_fewest_49 rfl c8 ?_
          obtain ⟨v9, e10, h⟩ := lt_some h
          refine ev_iinc (v := v9) (ls' := [(4, .int (v9)), (0, .ref a0), (1, .int (a1)), (2, .int (a2)), (3, .int (a3))]) 4 dX10_fewest_70 rfl e10.symm (by decide) rfl ?_
          refine ev_goto (tgt := 28) dX10_fewest_73 rfl ?_
          refine ev_sub (ls' := [(0, .ref a0), (1, .int (a1)), (2, .int (a2)), (3, .int (a3)), (4, .int (v9))]) [1, 2, 3, 4, 0] rfl ?_
          exact hk28 h
        · refine ev_icmp_ge_n 70 dX10_fewest_49 rfl c8 ?_
          refine ev_aload_nR 0 dX10_fewest_52 rfl ?_
          refine ev_iload 4 dX10_fewest_53 rfl ?_
          obtain ⟨g11, h⟩ := gd_some h
          obtain ⟨r14, σ12, e13, h⟩ := bd_some h
          refine ev_invVi (As := [.int (a4)]) (st := []) dX10_fewest_55 cb_X10_isProvable tp_639 tp_641 tp_32 kf10 rfl (by omega) g11 rfl rfl (Nat.le_of_ble_eq_true rfl) (x_X10_isProvable e13) ?_
          rcases it_some h with ⟨c15, h⟩ | ⟨c15, h⟩
          · refine ev_if_eq (tgt := 70) dX10_fewest_58 rfl c15 ?_
            obtain ⟨v16, e17, h⟩ := lt_some h
            refine ev_iinc (v := v16) (ls' := [(4, .int (v16)), (0, .ref a0), (1, .int (a1)), (2, .int (a2)), (3, .int (a3))]) 4 dX10_fewest_70 rfl e17.symm (by decide) rfl ?_
            refine ev_goto (tgt := 28) dX10_fewest_73 rfl ?_
            refine ev_sub (ls' := [(0, .ref a0), (1, .int (a1)), (2, .int (a2)), (3, .int (a3)), (4, .int (v16))]) [1, 2, 3, 4, 0] rfl ?_
            exact hk28 h
          · refine ev_if_eq_n 70 dX10_fewest_58 rfl c15 ?_
            refine ev_iload 4 dX10_fewest_61 rfl ?_
            refine ev_istore_n (ls' := [(2, .int (a4)), (0, .ref a0), (1, .int (a1)), (3, .int (a3)), (4, .int (a4))]) dX10_fewest_63 (by decide) rfl ?_
            refine ev_iload 4 dX10_fewest_64 rfl ?_
            obtain ⟨r20, σ18, e19, h⟩ := bd_some h
            refine ev_invSi (As := [.int (a4)]) (st := []) dX10_fewest_66 cb_J6_bitCount_0f7a4 tp_468 tp_469 (by omega) rfl rfl (Nat.le_of_ble_eq_true rfl) (x_J6_bitCount_0f7a4 e19) ?_
            refine ev_istore_n (ls' := [(3, .int (r20)), (2, .int (a4)), (0, .ref a0), (1, .int (a1)), (4, .int (a4))]) dX10_fewest_69 (by decide) rfl ?_
            obtain ⟨v21, e22, h⟩ := lt_some h
            refine ev_iinc (v := v21) (ls' := [(4, .int (v21)), (3, .int (r20)), (2, .int (a4)), (0, .ref a0), (1, .int (a1))]) 4 dX10_fewest_70 rfl e22.symm (by decide) rfl ?_
            refine ev_goto (tgt := 28) dX10_fewest_73 rfl ?_
            refine ev_sub (ls' := [(0, .ref a0), (1, .int (a1)), (2, .int (a4)), (3, .int (r20)), (4, .int (v21))]) [3, 4, 2, 1, 0] rfl ?_
            exact hk28 h
      · refine ev_if_ne (tgt := 70) dX10_fewest_40 rfl c2 ?_
        obtain ⟨v3, e4, h⟩ := lt_some h
        refine ev_iinc (v := v3) (ls' := [(4, .int (v3)), (0, .ref a0), (1, .int (a1)), (2, .int (a2)), (3, .int (a3))]) 4 dX10_fewest_70 rfl e4.symm (by decide) rfl ?_
        refine ev_goto (tgt := 28) dX10_fewest_73 rfl ?_
        refine ev_sub (ls' := [(0, .ref a0), (1, .int (a1)), (2, .int (a2)), (3, .int (a3)), (4, .int (v3))]) [1, 2, 3, 4, 0] rfl ?_
        exact hk28 h
def s_X10_fewest (a0 : Nat) (σ : St) : Option (Int32 × St) :=
 if isO σ 10 a0 = true then (bd (s_X10_hasGoal a0 σ) fun r26 σ24 =>
 if r26 = 0 then (some ((-3), σ24)) else (if isO σ24 10 a0 = true then (bd (s_X10_prepare a0 σ24) fun r31 σ29 =>
 if isO σ29 10 a0 = true then (bd (s_X10_allResources a0 σ29) fun r35 σ33 =>
 s_X10_fewest_28 16000 a0 r35 ((-6)) 6 0 σ33) else none) else none)) else none
set_option maxHeartbeats 4000000 in
set_option maxRecDepth 100000 in
theorem x_X10_fewest {a0 : Nat} {σ : St} {r : Int32} {σ' : St} (h : s_X10_fewest a0 σ = some (r, σ')) : Ex M_X10_fewest (392) [.ref a0] σ (some (.int r)) σ' := by
  unfold s_X10_fewest at h
  refine ex_of (by decide) rfl (Nat.le_of_ble_eq_true rfl) ?_
  show Ev _ _ 0 [(0, .ref a0)] [] _ _ _
  refine ev_aload_nR 0 dX10_fewest_0 rfl ?_
  obtain ⟨g23, h⟩ := gd_some h
  obtain ⟨r26, σ24, e25, h⟩ := bd_some h
  refine ev_invVi (As := []) (st := []) dX10_fewest_1 cb_X10_hasGoal tp_478 tp_480 tp_13 kf10 rfl (by omega) g23 rfl rfl (Nat.le_of_ble_eq_true rfl) (x_X10_hasGoal e25) ?_
  rcases it_some h with ⟨c27, h⟩ | ⟨c27, h⟩
  · refine ev_if_ne_n 10 dX10_fewest_4 rfl c27 ?_
    refine ev_bipush (v := (-3)) dX10_fewest_7 (by decide) ?_
    exact ev_retI .int dX10_fewest_9 rfl rfl h
  · refine ev_if_ne (tgt := 10) dX10_fewest_4 rfl c27 ?_
    refine ev_aload_nR 0 dX10_fewest_10 rfl ?_
    obtain ⟨g28, h⟩ := gd_some h
    obtain ⟨r31, σ29, e30, h⟩ := bd_some h
    refine ev_invVv (As := []) (st := []) dX10_fewest_11 cb_X10_prepare tp_494 tp_496 tp_16 kf10 rfl (by omega) g28 rfl rfl (Nat.le_of_ble_eq_true rfl) (x_X10_prepare e30) ?_
    refine ev_aload_nR 0 dX10_fewest_14 rfl ?_
    obtain ⟨g32, h⟩ := gd_some h
    obtain ⟨r35, σ33, e34, h⟩ := bd_some h
    refine ev_invVi (As := []) (st := []) dX10_fewest_15 cb_X10_allResources tp_490 tp_492 tp_15 kf10 rfl (by omega) g32 rfl rfl (Nat.le_of_ble_eq_true rfl) (x_X10_allResources e34) ?_
    refine ev_istore_n (ls' := [(1, .int (r35)), (0, .ref a0)]) dX10_fewest_18 (by decide) rfl ?_
    refine ev_bipush (v := (-6)) dX10_fewest_19 (by decide) ?_
    refine ev_istore_n (ls' := [(2, .int ((-6))), (1, .int (r35)), (0, .ref a0)]) dX10_fewest_21 (by decide) rfl ?_
    refine ev_bipush (v := 6) dX10_fewest_22 (by decide) ?_
    refine ev_istore_n (ls' := [(3, .int (6)), (2, .int ((-6))), (1, .int (r35)), (0, .ref a0)]) dX10_fewest_24 (by decide) rfl ?_
    refine ev_iconst (v := 0) dX10_fewest_25 (by decide) ?_
    refine ev_istore (ls' := [(4, .int (0)), (3, .int (6)), (2, .int ((-6))), (1, .int (r35)), (0, .ref a0)]) dX10_fewest_26 (by decide) rfl ?_
    refine ev_sub (ls' := [(0, .ref a0), (1, .int (r35)), (2, .int (((-6)))), (3, .int (6)), (4, .int (0))]) [4, 3, 2, 1, 0] rfl ?_
    exact e_X10_fewest_28 16000 h
