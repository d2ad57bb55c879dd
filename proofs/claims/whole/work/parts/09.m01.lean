def s_X4_rowOf (a0 : Int32) (a1 : Int32) (σ : St) : Option (Int32 × St) :=
 if a0 < 0 then (some ((-1), σ)) else (if (60 : Int32) ≤ a0 then (some ((-1), σ)) else (some (((a1 * 60) + a0) * 4, σ)))
set_option maxHeartbeats 4000000 in
set_option maxRecDepth 100000 in
theorem x_X4_rowOf {a0 : Int32} {a1 : Int32} {σ : St} {r : Int32} {σ' : St} (h : s_X4_rowOf a0 a1 σ = some (r, σ')) : Ex M_X4_rowOf (1) [.int (a0), .int (a1)] σ (some (.int r)) σ' := by
  unfold s_X4_rowOf at h
  refine ex_of (by decide) rfl (Nat.le_of_ble_eq_true rfl) ?_
  show Ev _ _ 0 [(0, .int (a0)), (1, .int (a1))] [] _ _ _
  refine ev_iload_n 0 dX4_rowOf_0 rfl ?_
  rcases it_some h with ⟨c1, h⟩ | ⟨c1, h⟩
  · refine ev_if_lt (tgt := 21) dX4_rowOf_1 rfl c1 ?_
    refine ev_iconst (v := (-1)) dX4_rowOf_21 (by decide) ?_
    exact ev_retI .int dX4_rowOf_22 rfl rfl h
  · refine ev_if_lt_n 21 dX4_rowOf_1 rfl c1 ?_
    refine ev_iload_n 0 dX4_rowOf_4 rfl ?_
    refine ev_bipush (v := 60) dX4_rowOf_5 (by decide) ?_
    rcases it_some h with ⟨c2, h⟩ | ⟨c2, h⟩
    · refine ev_icmp_ge (tgt := 21) dX4_rowOf_7 rfl c2 ?_
      refine ev_iconst (v := (-1)) dX4_rowOf_21 (by decide) ?_
      exact ev_retI .int dX4_rowOf_22 rfl rfl h
    · refine ev_icmp_ge_n 21 dX4_rowOf_7 rfl c2 ?_
      refine ev_iload_n 1 dX4_rowOf_10 rfl ?_
      refine ev_bipush (v := 60) dX4_rowOf_11 (by decide) ?_
      refine ev_imul dX4_rowOf_13 ?_
      refine ev_iload_n 0 dX4_rowOf_14 rfl ?_
      refine ev_iadd dX4_rowOf_15 ?_
      refine ev_iconst (v := 4) dX4_rowOf_16 (by decide) ?_
      refine ev_imul dX4_rowOf_17 ?_
      refine ev_goto (tgt := 22) dX4_rowOf_18 rfl ?_
      exact ev_retI .int dX4_rowOf_22 rfl rfl h
def s_X4_wordAt (a0 : Nat) (a1 : Int32) (a2 : Int32) (σ : St) : Option (Int64 × St) :=
 if a1 < 0 then (some (0, σ)) else (if a2 < 0 then (some (0, σ)) else (if isO σ 4 a0 = true then (op (sP σ a0 1) fun p4 =>
 if isO σ 14 p4 = true then (if (nI (alen σ p4)) ≤ (a1 + a2) then (some (0, σ)) else (if inR (a1 + a2) (alen σ p4) = true then (some (sL σ p4 ((a1 + a2).toNatClampNeg), σ)) else none)) else none) else none))
set_option maxHeartbeats 4000000 in
set_option maxRecDepth 100000 in
theorem x_X4_wordAt {a0 : Nat} {a1 : Int32} {a2 : Int32} {σ : St} {r : Int64} {σ' : St} (h : s_X4_wordAt a0 a1 a2 σ = some (r, σ')) : Ex M_X4_wordAt (1) [.ref a0, .int (a1), .int (a2)] σ (some (.long r)) σ' := by
  unfold s_X4_wordAt at h
  refine ex_of (by decide) rfl (Nat.le_of_ble_eq_true rfl) ?_
  show Ev _ _ 0 [(0, .ref a0), (1, .int (a1)), (2, .int (a2))] [] _ _ _
  refine ev_iload_n 1 dX4_wordAt_0 rfl ?_
  rcases it_some h with ⟨c1, h⟩ | ⟨c1, h⟩
  · refine ev_if_lt (tgt := 30) dX4_wordAt_1 rfl c1 ?_
    refine ev_lconst (v := 0) dX4_wordAt_30 (by decide) ?_
    exact ev_retL dX4_wordAt_31 rfl h
  · refine ev_if_lt_n 30 dX4_wordAt_1 rfl c1 ?_
    refine ev_iload_n 2 dX4_wordAt_4 rfl ?_
    rcases it_some h with ⟨c2, h⟩ | ⟨c2, h⟩
    · refine ev_if_lt (tgt := 30) dX4_wordAt_5 rfl c2 ?_
      refine ev_lconst (v := 0) dX4_wordAt_30 (by decide) ?_
      exact ev_retL dX4_wordAt_31 rfl h
    · refine ev_if_lt_n 30 dX4_wordAt_5 rfl c2 ?_
      refine ev_iload_n 1 dX4_wordAt_8 rfl ?_
      refine ev_iload_n 2 dX4_wordAt_9 rfl ?_
      refine ev_iadd dX4_wordAt_10 ?_
      refine ev_aload_nR 0 dX4_wordAt_11 rfl ?_
      obtain ⟨g3, h⟩ := gd_some h
      obtain ⟨p4, e5, h⟩ := op_some h
      refine ev_getPR dX4_wordAt_12 fl_X4_11 rfl g3 e5 ?_
      obtain ⟨g6, h⟩ := gd_some h
      refine ev_alen dX4_wordAt_15 (isA_O g6) (by decide) ?_
      rcases it_some h with ⟨c7, h⟩ | ⟨c7, h⟩
      · refine ev_icmp_ge (tgt := 30) dX4_wordAt_16 rfl c7 ?_
        refine ev_lconst (v := 0) dX4_wordAt_30 (by decide) ?_
        exact ev_retL dX4_wordAt_31 rfl h
      · refine ev_icmp_ge_n 30 dX4_wordAt_16 rfl c7 ?_
        refine ev_aload_nR 0 dX4_wordAt_19 rfl ?_
        refine ev_getPR dX4_wordAt_20 fl_X4_11 rfl g3 e5 ?_
        refine ev_iload_n 1 dX4_wordAt_23 rfl ?_
        refine ev_iload_n 2 dX4_wordAt_24 rfl ?_
        refine ev_iadd dX4_wordAt_25 ?_
        obtain ⟨g8, h⟩ := gd_some h
        refine ev_lald dX4_wordAt_26 (isA_O g6) g8 ?_
        refine ev_goto (tgt := 31) dX4_wordAt_27 rfl ?_
        exact ev_retL dX4_wordAt_31 rfl h
def sb_X4_init_51 (k40 : Nat → Int32 → St → Option (Unit × St)) (k51 : Nat → Int32 → Int32 → St → Option (Unit × St)) (a0 : Nat) (a2 : Int32) (a3 : Int32) (σ : St) : Option (Unit × St) :=
 if (63 : Int32) < a3 then (lt (a2 + 1 : Int32) fun v2 =>
 k40 a0 v2 σ) else (if (a2 &&& a3) = 0 then (if isO σ 4 a0 = true then (op (sP σ a0 3) fun p8 =>
 if isO σ 14 p8 = true then (if inR a2 (alen σ p8) = true then (if inR a2 (alen σ p8) = true then (lt (setL σ p8 a2.toNatClampNeg ((sL σ p8 a2.toNatClampNeg) ||| (1 <<< (a3.toInt64 &&& 63)))) fun σ13 =>
 lt (a3 + 1 : Int32) fun v15 =>
 k51 a0 a2 v15 σ13) else none) else none) else none) else none) else (lt (a3 + 1 : Int32) fun v5 =>
 k51 a0 a2 v5 σ))
def s_X4_init_51 (k40 : Nat → Int32 → St → Option (Unit × St)) (F : Nat) : Nat → Int32 → Int32 → St → Option (Unit × St) := lp (fun _ _ _ _ => none) (sb_X4_init_51 k40) F
set_option maxHeartbeats 4000000 in
set_option maxRecDepth 100000 in
theorem e_X4_init_51 {r : Unit} {σ' : St} {k40 : Nat → Int32 → St → Option (Unit × St)} (hk40 : ∀ {y0 : Nat} {y1 : Int32} {σ : St}, k40 y0 y1 σ = some (r, σ') → Ev M_X4_init (1) 40 [(0, .ref y0), (2, .int (y1))] [] σ none σ') (F : Nat) : ∀ {a0 : Nat} {a2 : Int32} {a3 : Int32} {σ : St}, s_X4_init_51 k40 F a0 a2 a3 σ = some (r, σ') → Ev M_X4_init (1) 51 [(0, .ref a0), (2, .int (a2)), (3, .int (a3))] [] σ none σ' := by
  induction F with
  | zero => intro a0 a2 a3 σ h; cases h
  | succ F ih =>
    intro a0 a2 a3 σ h
    change sb_X4_init_51 k40 (s_X4_init_51 k40 F) a0 a2 a3 σ = some (r, σ') at h
    unfold sb_X4_init_51 at h
    have hk51 := @ih
    refine ev_iload_n 2 dX4_init_51 rfl ?_
    refine ev_bipush (v := 63) dX4_init_52 (by decide) ?_
    rcases it_some h with ⟨c1, h⟩ | ⟨c1, h⟩
    · refine ev_icmp_gt (tgt := 81) dX4_init_54 rfl c1 ?_
      obtain ⟨v2, e3, h⟩ := lt_some h
      refine ev_iinc (v := v2) (ls' := [(2, .int (v2)), (0, .ref a0), (3, .int (a3))]) 1 dX4_init_81 rfl e3.symm (by decide) rfl ?_
      refine ev_goto (tgt := 40) dX4_init_84 rfl ?_
      refine ev_sub (ls' := [(0, .ref a0), (2, .int (v2))]) [1, 0] rfl ?_
      exact hk40 h
    · refine ev_icmp_gt_n 81 dX4_init_54 rfl c1 ?_
      refine ev_iload_n 1 dX4_init_57 rfl ?_
      refine ev_iload_n 2 dX4_init_58 rfl ?_
      refine ev_iand dX4_init_59 ?_
      rcases it_some h with ⟨c4, h⟩ | ⟨c4, h⟩
      · refine ev_if_ne_n 75 dX4_init_60 rfl c4 ?_
        refine ev_aload_nR 0 dX4_init_63 rfl ?_
        obtain ⟨g7, h⟩ := gd_some h
        obtain ⟨p8, e9, h⟩ := op_some h
        refine ev_getPR dX4_init_64 fl_X4_18 rfl g7 e9 ?_
        refine ev_iload_n 1 dX4_init_67 rfl ?_
        refine ev_dup2 dX4_init_68 rfl rfl ?_
        obtain ⟨g10, h⟩ := gd_some h
        obtain ⟨g11, h⟩ := gd_some h
        refine ev_lald dX4_init_69 (isA_O g10) g11 ?_
        refine ev_lconst (v := 1) dX4_init_70 (by decide) ?_
        refine ev_iload_n 2 dX4_init_71 rfl ?_
        refine ev_lshl dX4_init_72 ?_
        refine ev_lor dX4_init_73 ?_
        obtain ⟨g12, h⟩ := gd_some h
        obtain ⟨σ13, e14, h⟩ := lt_some h
        refine ev_last dX4_init_74 (isO_spec g10).1 (isA_O g10) g12 ?_
        refine ev_st e14 ?_
        obtain ⟨v15, e16, h⟩ := lt_some h
        refine ev_iinc (v := v15) (ls' := [(3, .int (v15)), (0, .ref a0), (2, .int (a2))]) 2 dX4_init_75 rfl e16.symm (by decide) rfl ?_
        refine ev_goto (tgt := 51) dX4_init_78 rfl ?_
        refine ev_sub (ls' := [(0, .ref a0), (2, .int (a2)), (3, .int (v15))]) [1, 2, 0] rfl ?_
        exact hk51 h
      · refine ev_if_ne (tgt := 75) dX4_init_60 rfl c4 ?_
        obtain ⟨v5, e6, h⟩ := lt_some h
        refine ev_iinc (v := v5) (ls' := [(3, .int (v5)), (0, .ref a0), (2, .int (a2))]) 2 dX4_init_75 rfl e6.symm (by decide) rfl ?_
        refine ev_goto (tgt := 51) dX4_init_78 rfl ?_
        refine ev_sub (ls' := [(0, .ref a0), (2, .int (a2)), (3, .int (v5))]) [1, 2, 0] rfl ?_
        exact hk51 h
def sb_X4_init_40 (k40 : Nat → Int32 → St → Option (Unit × St)) (a0 : Nat) (a2 : Int32) (σ : St) : Option (Unit × St) :=
 if isO σ 4 a0 = true then (op (sP σ a0 3) fun p18 =>
 if isO σ 14 p18 = true then (if (nI (alen σ p18)) ≤ a2 then (some ((), σ)) else (s_X4_init_51 k40 16000 a0 a2 0 σ)) else none) else none
def s_X4_init_40 (F : Nat) : Nat → Int32 → St → Option (Unit × St) := lp (fun _ _ _ => none) (sb_X4_init_40 ) F
set_option maxHeartbeats 4000000 in
set_option maxRecDepth 100000 in
theorem e_X4_init_40 {r : Unit} {σ' : St} (F : Nat) : ∀ {a0 : Nat} {a2 : Int32} {σ : St}, s_X4_init_40 F a0 a2 σ = some (r, σ') → Ev M_X4_init (1) 40 [(0, .ref a0), (2, .int (a2))] [] σ none σ' := by
  induction F with
  | zero => intro a0 a2 σ h; cases h
  | succ F ih =>
    intro a0 a2 σ h
    change sb_X4_init_40  (s_X4_init_40 F) a0 a2 σ = some (r, σ') at h
    unfold sb_X4_init_40 at h
    have hk40 := @ih
    refine ev_iload_n 1 dX4_init_40 rfl ?_
    refine ev_aload_nR 0 dX4_init_41 rfl ?_
    obtain ⟨g17, h⟩ := gd_some h
    obtain ⟨p18, e19, h⟩ := op_some h
    refine ev_getPR dX4_init_42 fl_X4_18 rfl g17 e19 ?_
    obtain ⟨g20, h⟩ := gd_some h
    refine ev_alen dX4_init_45 (isA_O g20) (by decide) ?_
    rcases it_some h with ⟨c21, h⟩ | ⟨c21, h⟩
    · refine ev_icmp_ge (tgt := 87) dX4_init_46 rfl c21 ?_
      exact ev_retV dX4_init_87 rfl h
    · refine ev_icmp_ge_n 87 dX4_init_46 rfl c21 ?_
      refine ev_iconst (v := 0) dX4_init_49 (by decide) ?_
      refine ev_istore_n (ls' := [(3, .int (0)), (0, .ref a0), (2, .int (a2))]) dX4_init_50 (by decide) rfl ?_
      refine ev_sub (ls' := [(0, .ref a0), (2, .int (a2)), (3, .int (0))]) [1, 2, 0] rfl ?_
      exact e_X4_init_51 hk40 16000 h
def s_X4_init (a0 : Nat) (a1 : Nat) (σ : St) : Option (Unit × St) :=
 lt (sn σ) fun n22 => lt (newC σ 14 (2640 : Int32).toNatClampNeg) fun σ24 =>
 if isO σ24 4 a0 = true then (lt (setP σ24 a0 1 (some n22)) fun σ27 =>
 lt (sn σ27) fun n29 => lt (newC σ27 14 (4 : Int32).toNatClampNeg) fun σ31 =>
 lt (setP σ31 a0 2 (some n29)) fun σ33 =>
 lt (sn σ33) fun n35 => lt (newC σ33 14 (64 : Int32).toNatClampNeg) fun σ37 =>
 lt (setP σ37 a0 3 (some n35)) fun σ39 =>
 lt (setI σ39 a0 4 0) fun σ41 =>
 lt (setP σ41 a0 0 (some a1)) fun σ43 =>
 s_X4_init_40 16000 a0 0 σ43) else none
set_option maxHeartbeats 4000000 in
set_option maxRecDepth 100000 in
theorem x_X4_init {a0 : Nat} {a1 : Nat} {σ : St} {r : Unit} {σ' : St} (h : s_X4_init a0 a1 σ = some (r, σ')) : Ex M_X4_init (1) [.ref a0, .ref a1] σ none σ' := by
  unfold s_X4_init at h
  refine ex_of (by decide) rfl (Nat.le_of_ble_eq_true rfl) ?_
  show Ev _ _ 0 [(0, .ref a0), (1, .ref a1)] [] _ _ _
  refine ev_aload_nR 0 dX4_init_0 rfl ?_
  refine ev_objinit dX4_init_1 tp_179 tp_113 tp_114 (by omega) (by decide) ?_
  refine ev_aload_nR 0 dX4_init_4 rfl ?_
  refine ev_sipush (v := 2640) dX4_init_5 (by decide) ?_
  obtain ⟨n22, e23, h⟩ := lt_some h
  obtain ⟨σ24, e25, h⟩ := lt_some h
  refine ev_newaR (k := 14) dX4_init_8 (by decide) tp_196 (by decide) e23 ?_
  refine ev_st e25 ?_
  obtain ⟨g26, h⟩ := gd_some h
  obtain ⟨σ27, e28, h⟩ := lt_some h
  refine ev_putPR dX4_init_10 fl_X4_11 rfl (Or.inr ⟨rfl, rfl⟩) g26 ?_
  refine ev_st e28 ?_
  refine ev_aload_nR 0 dX4_init_13 rfl ?_
  refine ev_iconst (v := 4) dX4_init_14 (by decide) ?_
  obtain ⟨n29, e30, h⟩ := lt_some h
  obtain ⟨σ31, e32, h⟩ := lt_some h
  refine ev_newaR (k := 14) dX4_init_15 (by decide) tp_196 (by decide) e30 ?_
  refine ev_st e32 ?_
  obtain ⟨σ33, e34, h⟩ := lt_some h
  refine ev_putPR dX4_init_17 fl_X4_15 rfl (Or.inr ⟨rfl, rfl⟩) (isO_N e32 (isO_P e28 g26)) ?_
  refine ev_st e34 ?_
  refine ev_aload_nR 0 dX4_init_20 rfl ?_
  refine ev_bipush (v := 64) dX4_init_21 (by decide) ?_
  obtain ⟨n35, e36, h⟩ := lt_some h
  obtain ⟨σ37, e38, h⟩ := lt_some h
  refine ev_newaR (k := 14) dX4_init_23 (by decide) tp_196 (by decide) e36 ?_
  refine ev_st e38 ?_
  obtain ⟨σ39, e40, h⟩ := lt_some h
  refine ev_putPR dX4_init_25 fl_X4_18 rfl (Or.inr ⟨rfl, rfl⟩) (isO_N e38 (isO_P e34 (isO_N e32 (isO_P e28 g26)))) ?_
  refine ev_st e40 ?_
  refine ev_aload_nR 0 dX4_init_28 rfl ?_
  refine ev_iconst (v := 0) dX4_init_29 (by decide) ?_
  obtain ⟨σ41, e42, h⟩ := lt_some h
  refine ev_putI dX4_init_30 fl_X4_21 rfl (Or.inl rfl) (isO_P e40 (isO_N e38 (isO_P e34 (isO_N e32 (isO_P e28 g26))))) ⟨rfl, rfl⟩ ?_
  refine ev_st e42 ?_
  refine ev_aload_nR 0 dX4_init_33 rfl ?_
  refine ev_aload_nR 1 dX4_init_34 rfl ?_
  obtain ⟨σ43, e44, h⟩ := lt_some h
  refine ev_putPR dX4_init_35 fl_X4_25 rfl (Or.inr ⟨rfl, rfl⟩) (isO_I e42 (isO_P e40 (isO_N e38 (isO_P e34 (isO_N e32 (isO_P e28 g26)))))) ?_
  refine ev_st e44 ?_
  refine ev_iconst (v := 0) dX4_init_38 (by decide) ?_
  refine ev_istore_n (ls' := [(2, .int (0)), (0, .ref a0), (1, .ref a1)]) dX4_init_39 (by decide) rfl ?_
  refine ev_sub (ls' := [(0, .ref a0), (2, .int (0))]) [1, 0] rfl ?_
  exact e_X4_init_40 16000 h
def sb_X4_clearRow_2 (k2 : Nat → Int32 → Int32 → St → Option (Unit × St)) (a0 : Nat) (a1 : Int32) (a2 : Int32) (σ : St) : Option (Unit × St) :=
 if (4 : Int32) ≤ a2 then (some ((), σ)) else (if a1 < 0 then (lt (a2 + 1 : Int32) fun v3 =>
 k2 a0 a1 v3 σ) else (if isO σ 4 a0 = true then (op (sP σ a0 1) fun p6 =>
 if isO σ 14 p6 = true then (if (nI (alen σ p6)) ≤ (a1 + a2) then (lt (a2 + 1 : Int32) fun v10 =>
 k2 a0 a1 v10 σ) else (if inR (a1 + a2) (alen σ p6) = true then (lt (setL σ p6 ((a1 + a2).toNatClampNeg) 0) fun σ13 =>
 lt (a2 + 1 : Int32) fun v15 =>
 k2 a0 a1 v15 σ13) else none)) else none) else none))
def s_X4_clearRow_2 (F : Nat) : Nat → Int32 → Int32 → St → Option (Unit × St) := lp (fun _ _ _ _ => none) (sb_X4_clearRow_2 ) F
set_option maxHeartbeats 4000000 in
set_option maxRecDepth 100000 in
theorem e_X4_clearRow_2 {r : Unit} {σ' : St} (F : Nat) : ∀ {a0 : Nat} {a1 : Int32} {a2 : Int32} {σ : St}, s_X4_clearRow_2 F a0 a1 a2 σ = some (r, σ') → Ev M_X4_clearRow (1) 2 [(0, .ref a0), (1, .int (a1)), (2, .int (a2))] [] σ none σ' := by
  induction F with
  | zero => intro a0 a1 a2 σ h; cases h
  | succ F ih =>
    intro a0 a1 a2 σ h
    change sb_X4_clearRow_2  (s_X4_clearRow_2 F) a0 a1 a2 σ = some (r, σ') at h
    unfold sb_X4_clearRow_2 at h
    have hk2 := @ih
    refine ev_iload_n 2 dX4_clearRow_2 rfl ?_
    refine ev_iconst (v := 4) dX4_clearRow_3 (by decide) ?_
    rcases it_some h with ⟨c1, h⟩ | ⟨c1, h⟩
    · refine ev_icmp_ge (tgt := 37) dX4_clearRow_4 rfl c1 ?_
      exact ev_retV dX4_clearRow_37 rfl h
    · refine ev_icmp_ge_n 37 dX4_clearRow_4 rfl c1 ?_
      refine ev_iload_n 1 dX4_clearRow_7 rfl ?_
      rcases it_some h with ⟨c2, h⟩ | ⟨c2, h⟩
      · refine ev_if_lt (tgt := 31) dX4_clearRow_8 rfl c2 ?_
        obtain ⟨v3, e4, h⟩ := lt_some h
        refine ev_iinc (v := v3) (ls' := [(2, .int (v3)), (0, .ref a0), (1, .int (a1))]) 2 dX4_clearRow_31 rfl e4.symm (by decide) rfl ?_
        refine ev_goto (tgt := 2) dX4_clearRow_34 rfl ?_
        refine ev_sub (ls' := [(0, .ref a0), (1, .int (a1)), (2, .int (v3))]) [1, 2, 0] rfl ?_
        exact hk2 h
      · refine ev_if_lt_n 31 dX4_clearRow_8 rfl c2 ?_
        refine ev_iload_n 1 dX4_clearRow_11 rfl ?_
        refine ev_iload_n 2 dX4_clearRow_12 rfl ?_
        refine ev_iadd dX4_clearRow_13 ?_
        refine ev_aload_nR 0 dX4_clearRow_14 rfl ?_
        obtain ⟨g5, h⟩ := gd_some h
        obtain ⟨p6, e7, h⟩ := op_some h
        refine ev_getPR dX4_clearRow_15 fl_X4_11 rfl g5 e7 ?_
        obtain ⟨g8, h⟩ := gd_some h
        refine ev_alen dX4_clearRow_18 (isA_O g8) (by decide) ?_
        rcases it_some h with ⟨c9, h⟩ | ⟨c9, h⟩
        · refine ev_icmp_ge (tgt := 31) dX4_clearRow_19 rfl c9 ?_
          obtain ⟨v10, e11, h⟩ := lt_some h
          refine ev_iinc (v := v10) (ls' := [(2, .int (v10)), (0, .ref a0), (1, .int (a1))]) 2 dX4_clearRow_31 rfl e11.symm (by decide) rfl ?_
          refine ev_goto (tgt := 2) dX4_clearRow_34 rfl ?_
          refine ev_sub (ls' := [(0, .ref a0), (1, .int (a1)), (2, .int (v10))]) [1, 2, 0] rfl ?_
          exact hk2 h
        · refine ev_icmp_ge_n 31 dX4_clearRow_19 rfl c9 ?_
          refine ev_aload_nR 0 dX4_clearRow_22 rfl ?_
          refine ev_getPR dX4_clearRow_23 fl_X4_11 rfl g5 e7 ?_
          refine ev_iload_n 1 dX4_clearRow_26 rfl ?_
          refine ev_iload_n 2 dX4_clearRow_27 rfl ?_
          refine ev_iadd dX4_clearRow_28 ?_
          refine ev_lconst (v := 0) dX4_clearRow_29 (by decide) ?_
          obtain ⟨g12, h⟩ := gd_some h
          obtain ⟨σ13, e14, h⟩ := lt_some h
          refine ev_last dX4_clearRow_30 (isO_spec g8).1 (isA_O g8) g12 ?_
          refine ev_st e14 ?_
          obtain ⟨v15, e16, h⟩ := lt_some h
          refine ev_iinc (v := v15) (ls' := [(2, .int (v15)), (0, .ref a0), (1, .int (a1))]) 2 dX4_clearRow_31 rfl e16.symm (by decide) rfl ?_
          refine ev_goto (tgt := 2) dX4_clearRow_34 rfl ?_
          refine ev_sub (ls' := [(0, .ref a0), (1, .int (a1)), (2, .int (v15))]) [1, 2, 0] rfl ?_
          exact hk2 h
def s_X4_clearRow (a0 : Nat) (a1 : Int32) (σ : St) : Option (Unit × St) :=
 s_X4_clearRow_2 16000 a0 a1 0 σ
set_option maxHeartbeats 4000000 in
set_option maxRecDepth 100000 in
theorem x_X4_clearRow {a0 : Nat} {a1 : Int32} {σ : St} {r : Unit} {σ' : St} (h : s_X4_clearRow a0 a1 σ = some (r, σ')) : Ex M_X4_clearRow (1) [.ref a0, .int (a1)] σ none σ' := by
  unfold s_X4_clearRow at h
  refine ex_of (by decide) rfl (Nat.le_of_ble_eq_true rfl) ?_
  show Ev _ _ 0 [(0, .ref a0), (1, .int (a1))] [] _ _ _
  refine ev_iconst (v := 0) dX4_clearRow_0 (by decide) ?_
  refine ev_istore_n (ls' := [(2, .int (0)), (0, .ref a0), (1, .int (a1))]) dX4_clearRow_1 (by decide) rfl ?_
  refine ev_sub (ls' := [(0, .ref a0), (1, .int (a1)), (2, .int (0))]) [1, 2, 0] rfl ?_
  exact e_X4_clearRow_2 16000 h
def s_X4_orWord (a0 : Nat) (a1 : Int32) (a2 : Int32) (a3 : Int64) (σ : St) : Option (Unit × St) :=
 if a1 < 0 then (some ((), σ)) else (if a2 < 0 then (some ((), σ)) else (if isO σ 4 a0 = true then (op (sP σ a0 1) fun p4 =>
 if isO σ 14 p4 = true then (if (nI (alen σ p4)) ≤ (a1 + a2) then (some ((), σ)) else (if inR (a1 + a2) (alen σ p4) = true then (if inR (a1 + a2) (alen σ p4) = true then (lt (setL σ p4 ((a1 + a2).toNatClampNeg) ((sL σ p4 ((a1 + a2).toNatClampNeg)) ||| a3)) fun σ10 =>
 some ((), σ10)) else none) else none)) else none) else none))
set_option maxHeartbeats 4000000 in
set_option maxRecDepth 100000 in
theorem x_X4_orWord {a0 : Nat} {a1 : Int32} {a2 : Int32} {a3 : Int64} {σ : St} {r : Unit} {σ' : St} (h : s_X4_orWord a0 a1 a2 a3 σ = some (r, σ')) : Ex M_X4_orWord (1) [.ref a0, .int (a1), .int (a2), .long (a3)] σ none σ' := by
  unfold s_X4_orWord at h
  refine ex_of (by decide) rfl (Nat.le_of_ble_eq_true rfl) ?_
  show Ev _ _ 0 [(0, .ref a0), (1, .int (a1)), (2, .int (a2)), (3, .long (a3))] [] _ _ _
  refine ev_iload_n 1 dX4_orWord_0 rfl ?_
  rcases it_some h with ⟨c1, h⟩ | ⟨c1, h⟩
  · refine ev_if_lt (tgt := 31) dX4_orWord_1 rfl c1 ?_
    exact ev_retV dX4_orWord_31 rfl h
  · refine ev_if_lt_n 31 dX4_orWord_1 rfl c1 ?_
    refine ev_iload_n 2 dX4_orWord_4 rfl ?_
    rcases it_some h with ⟨c2, h⟩ | ⟨c2, h⟩
    · refine ev_if_lt (tgt := 31) dX4_orWord_5 rfl c2 ?_
      exact ev_retV dX4_orWord_31 rfl h
    · refine ev_if_lt_n 31 dX4_orWord_5 rfl c2 ?_
      refine ev_iload_n 1 dX4_orWord_8 rfl ?_
      refine ev_iload_n 2 dX4_orWord_9 rfl ?_
      refine ev_iadd dX4_orWord_10 ?_
      refine ev_aload_nR 0 dX4_orWord_11 rfl ?_
      obtain ⟨g3, h⟩ := gd_some h
      obtain ⟨p4, e5, h⟩ := op_some h
      refine ev_getPR dX4_orWord_12 fl_X4_11 rfl g3 e5 ?_
      obtain ⟨g6, h⟩ := gd_some h
      refine ev_alen dX4_orWord_15 (isA_O g6) (by decide) ?_
      rcases it_some h with ⟨c7, h⟩ | ⟨c7, h⟩
      · refine ev_icmp_ge (tgt := 31) dX4_orWord_16 rfl c7 ?_
        exact ev_retV dX4_orWord_31 rfl h
      · refine ev_icmp_ge_n 31 dX4_orWord_16 rfl c7 ?_
        refine ev_aload_nR 0 dX4_orWord_19 rfl ?_
        refine ev_getPR dX4_orWord_20 fl_X4_11 rfl g3 e5 ?_
        refine ev_iload_n 1 dX4_orWord_23 rfl ?_
        refine ev_iload_n 2 dX4_orWord_24 rfl ?_
        refine ev_iadd dX4_orWord_25 ?_
        refine ev_dup2 dX4_orWord_26 rfl rfl ?_
        obtain ⟨g8, h⟩ := gd_some h
        refine ev_lald dX4_orWord_27 (isA_O g6) g8 ?_
        refine ev_lload_n 3 dX4_orWord_28 rfl ?_
        refine ev_lor dX4_orWord_29 ?_
        obtain ⟨g9, h⟩ := gd_some h
        obtain ⟨σ10, e11, h⟩ := lt_some h
        refine ev_last dX4_orWord_30 (isO_spec g6).1 (isA_O g6) g9 ?_
        refine ev_st e11 ?_
        exact ev_retV dX4_orWord_31 rfl h
def sb_X4_addMoved_24 (k24 : Nat → Int32 → Int32 → Int32 → Int32 → Int64 → Int32 → St → Option (Unit × St)) (a0 : Nat) (a1 : Int32) (a2 : Int32) (a4 : Int32) (a5 : Int32) (a6 : Int64) (a8 : Int32) (σ : St) : Option (Unit × St) :=
 if (4 : Int32) ≤ a8 then (some ((), σ)) else (if (a8 &&& a5) = 0 then (if isO σ 4 a0 = true then (bd (s_X4_wordAt a0 a2 a8 σ) fun r8 σ6 =>
 if isO σ6 4 a0 = true then (bd (s_X4_orWord a0 a1 (a8 ||| a5) ((r8 &&& a6) <<< (a4.toInt64 &&& 63)) σ6) fun r12 σ10 =>
 lt (a8 + 1 : Int32) fun v13 =>
 k24 a0 a1 a2 a4 a5 a6 v13 σ10) else none) else none) else (lt (a8 + 1 : Int32) fun v3 =>
 k24 a0 a1 a2 a4 a5 a6 v3 σ))
def s_X4_addMoved_24 (F : Nat) : Nat → Int32 → Int32 → Int32 → Int32 → Int64 → Int32 → St → Option (Unit × St) := lp (fun _ _ _ _ _ _ _ _ => none) (sb_X4_addMoved_24 ) F
set_option maxHeartbeats 4000000 in
set_option maxRecDepth 100000 in
theorem e_X4_addMoved_24 {r : Unit} {σ' : St} (F : Nat) : ∀ {a0 : Nat} {a1 : Int32} {a2 : Int32} {a4 : Int32} {a5 : Int32} {a6 : Int64} {a8 : Int32} {σ : St}, s_X4_addMoved_24 F a0 a1 a2 a4 a5 a6 a8 σ = some (r, σ') → Ev M_X4_addMoved (2) 24 [(0, .ref a0), (1, .int (a1)), (2, .int (a2)), (4, .int (a4)), (5, .int (a5)), (6, .long (a6)), (8, .int (a8))] [] σ none σ' := by
  induction F with
  | zero => intro a0 a1 a2 a4 a5 a6 a8 σ h; cases h
  | succ F ih =>
    intro a0 a1 a2 a4 a5 a6 a8 σ h
    change sb_X4_addMoved_24  (s_X4_addMoved_24 F) a0 a1 a2 a4 a5 a6 a8 σ = some (r, σ') at h
    unfold sb_X4_addMoved_24 at h
    have hk24 := @ih
    refine ev_iload 6 dX4_addMoved_24 rfl ?_
    refine ev_iconst (v := 4) dX4_addMoved_26 (by decide) ?_
    rcases it_some h with ⟨c1, h⟩ | ⟨c1, h⟩
    · refine ev_icmp_ge (tgt := 67) dX4_addMoved_27 rfl c1 ?_
      exact ev_retV dX4_addMoved_67 rfl h
    · refine ev_icmp_ge_n 67 dX4_addMoved_27 rfl c1 ?_
      refine ev_iload 6 dX4_addMoved_30 rfl ?_
      refine ev_iload 4 dX4_addMoved_32 rfl ?_
      refine ev_iand dX4_addMoved_34 ?_
      rcases it_some h with ⟨c2, h⟩ | ⟨c2, h⟩
      · refine ev_if_ne_n 61 dX4_addMoved_35 rfl c2 ?_
        refine ev_aload_nR 0 dX4_addMoved_38 rfl ?_
        refine ev_iload_n 1 dX4_addMoved_39 rfl ?_
        refine ev_iload 6 dX4_addMoved_40 rfl ?_
        refine ev_iload 4 dX4_addMoved_42 rfl ?_
        refine ev_ior dX4_addMoved_44 ?_
        refine ev_aload_nR 0 dX4_addMoved_45 rfl ?_
        refine ev_iload_n 2 dX4_addMoved_46 rfl ?_
        refine ev_iload 6 dX4_addMoved_47 rfl ?_
        obtain ⟨g5, h⟩ := gd_some h
        obtain ⟨r8, σ6, e7, h⟩ := bd_some h
        refine ev_invVl (As := [.int (a2), .int (a8)]) (st := [.int (a8 ||| a5), .int (a1), .ref a0]) dX4_addMoved_49 cb_X4_wordAt tp_635 tp_637 tp_26 kf4 rfl (by omega) g5 rfl rfl (by decide) (x_X4_wordAt e7) ?_
        refine ev_lload 5 dX4_addMoved_52 rfl ?_
        refine ev_land dX4_addMoved_54 ?_
        refine ev_iload 3 dX4_addMoved_55 rfl ?_
        refine ev_lshl dX4_addMoved_57 ?_
        obtain ⟨g9, h⟩ := gd_some h
        obtain ⟨r12, σ10, e11, h⟩ := bd_some h
        refine ev_invVv (As := [.int (a1), .int (a8 ||| a5), .long ((r8 &&& a6) <<< (a4.toInt64 &&& 63))]) (st := []) dX4_addMoved_58 cb_X4_orWord tp_623 tp_625 tp_23 kf4 rfl (by omega) g9 rfl rfl (by decide) (x_X4_orWord e11) ?_
        obtain ⟨v13, e14, h⟩ := lt_some h
        refine ev_iinc (v := v13) (ls' := [(8, .int (v13)), (0, .ref a0), (1, .int (a1)), (2, .int (a2)), (4, .int (a4)), (5, .int (a5)), (6, .long (a6))]) 6 dX4_addMoved_61 rfl e14.symm (by decide) rfl ?_
        refine ev_goto (tgt := 24) dX4_addMoved_64 rfl ?_
        refine ev_sub (ls' := [(0, .ref a0), (1, .int (a1)), (2, .int (a2)), (4, .int (a4)), (5, .int (a5)), (6, .long (a6)), (8, .int (v13))]) [1, 2, 3, 4, 5, 6, 0] rfl ?_
        exact hk24 h
      · refine ev_if_ne (tgt := 61) dX4_addMoved_35 rfl c2 ?_
        obtain ⟨v3, e4, h⟩ := lt_some h
        refine ev_iinc (v := v3) (ls' := [(8, .int (v3)), (0, .ref a0), (1, .int (a1)), (2, .int (a2)), (4, .int (a4)), (5, .int (a5)), (6, .long (a6))]) 6 dX4_addMoved_61 rfl e4.symm (by decide) rfl ?_
        refine ev_goto (tgt := 24) dX4_addMoved_64 rfl ?_
        refine ev_sub (ls' := [(0, .ref a0), (1, .int (a1)), (2, .int (a2)), (4, .int (a4)), (5, .int (a5)), (6, .long (a6)), (8, .int (v3))]) [1, 2, 3, 4, 5, 6, 0] rfl ?_
        exact hk24 h
def s_X4_addMoved (a0 : Nat) (a1 : Int32) (a2 : Int32) (a3 : Int32) (σ : St) : Option (Unit × St) :=
 lt (a3 &&& 63 : Int32) fun v15 =>
 lt (a3 >>> (6 &&& 31) : Int32) fun v17 =>
 if isO σ 4 a0 = true then (op (sP σ a0 3) fun p20 =>
 if isO σ 14 p20 = true then (if inR v15 (alen σ p20) = true then (lt (sL σ p20 v15.toNatClampNeg : Int64) fun v24 =>
 s_X4_addMoved_24 16000 a0 a1 a2 v15 v17 v24 0 σ) else none) else none) else none
set_option maxHeartbeats 4000000 in
set_option maxRecDepth 100000 in
theorem x_X4_addMoved {a0 : Nat} {a1 : Int32} {a2 : Int32} {a3 : Int32} {σ : St} {r : Unit} {σ' : St} (h : s_X4_addMoved a0 a1 a2 a3 σ = some (r, σ')) : Ex M_X4_addMoved (2) [.ref a0, .int (a1), .int (a2), .int (a3)] σ none σ' := by
  unfold s_X4_addMoved at h
  refine ex_of (by decide) rfl (Nat.le_of_ble_eq_true rfl) ?_
  show Ev _ _ 0 [(0, .ref a0), (1, .int (a1)), (2, .int (a2)), (3, .int (a3))] [] _ _ _
  refine ev_iload_n 3 dX4_addMoved_0 rfl ?_
  refine ev_bipush (v := 63) dX4_addMoved_1 (by decide) ?_
  refine ev_iand dX4_addMoved_3 ?_
  obtain ⟨v15, e16, h⟩ := lt_some h
  refine ev_topI e16 ?_
  refine ev_istore (ls' := [(4, .int (v15)), (0, .ref a0), (1, .int (a1)), (2, .int (a2)), (3, .int (a3))]) dX4_addMoved_4 (by decide) rfl ?_
  refine ev_iload_n 4 dX4_addMoved_6 rfl ?_
  refine ev_bipush (v := 6) dX4_addMoved_7 (by decide) ?_
  refine ev_ishr dX4_addMoved_9 ?_
  obtain ⟨v17, e18, h⟩ := lt_some h
  refine ev_topI e18 ?_
  refine ev_istore (ls' := [(5, .int (v17)), (4, .int (v15)), (0, .ref a0), (1, .int (a1)), (2, .int (a2)), (3, .int (a3))]) dX4_addMoved_10 (by decide) rfl ?_
  refine ev_aload_nR 2 dX4_addMoved_12 rfl ?_
  obtain ⟨g19, h⟩ := gd_some h
  obtain ⟨p20, e21, h⟩ := op_some h
  refine ev_getPR dX4_addMoved_13 fl_X4_18 rfl g19 e21 ?_
  refine ev_iload 1 dX4_addMoved_16 rfl ?_
  obtain ⟨g22, h⟩ := gd_some h
  obtain ⟨g23, h⟩ := gd_some h
  refine ev_lald dX4_addMoved_18 (isA_O g22) g23 ?_
  obtain ⟨v24, e25, h⟩ := lt_some h
  refine ev_topL e25 ?_
  refine ev_lstore (ls' := [(6, .long (v24)), (5, .int (v17)), (4, .int (v15)), (0, .ref a0), (1, .int (a1)), (2, .int (a2)), (3, .int (a3))]) dX4_addMoved_19 (by decide) rfl ?_
  refine ev_iconst (v := 0) dX4_addMoved_21 (by decide) ?_
  refine ev_istore (ls' := [(8, .int (0)), (6, .long (v24)), (5, .int (v17)), (4, .int (v15)), (0, .ref a0), (1, .int (a1)), (2, .int (a2)), (3, .int (a3))]) dX4_addMoved_22 (by decide) rfl ?_
  refine ev_sub (ls' := [(0, .ref a0), (1, .int (a1)), (2, .int (a2)), (4, .int (v15)), (5, .int (v17)), (6, .long (v24)), (8, .int (0))]) [4, 5, 6, 3, 2, 1, 0] rfl ?_
  exact e_X4_addMoved_24 16000 h
def s_X7_append (a0 : Nat) (a1 : Int32) (σ : St) : Option (Int32 × St) :=
 if isO σ 7 a0 = true then (if (sI σ a0 1) < 0 then (some (0, σ)) else (op (sP σ a0 0) fun p3 =>
 if isO σ 12 p3 = true then (if (sI σ a0 1) < (nI (alen σ p3)) then (if inR (sI σ a0 1) (alen σ p3) = true then (lt (setI σ p3 ((sI σ a0 1).toNatClampNeg) (a1.toUInt32 % 65536).toInt32) fun σ8 =>
 lt (setI σ8 a0 1 ((sI σ8 a0 1) + 1)) fun σ10 =>
 some (1, σ10)) else none) else (some (0, σ))) else none)) else none
set_option maxHeartbeats 4000000 in
set_option maxRecDepth 100000 in
theorem x_X7_append {a0 : Nat} {a1 : Int32} {σ : St} {r : Int32} {σ' : St} (h : s_X7_append a0 a1 σ = some (r, σ')) : Ex M_X7_append (1) [.ref a0, .int (a1)] σ (some (.int r)) σ' := by
  unfold s_X7_append at h
  refine ex_of (by decide) rfl (Nat.le_of_ble_eq_true rfl) ?_
  show Ev _ _ 0 [(0, .ref a0), (1, .int (a1))] [] _ _ _
  refine ev_aload_nR 0 dX7_append_0 rfl ?_
  obtain ⟨g1, h⟩ := gd_some h
  refine ev_getI dX7_append_1 fl_X7_15 rfl g1 ?_
  rcases it_some h with ⟨c2, h⟩ | ⟨c2, h⟩
  · refine ev_if_lt (tgt := 19) dX7_append_4 rfl c2 ?_
    refine ev_iconst (v := 0) dX7_append_19 (by decide) ?_
    exact ev_retI .boolean dX7_append_20 rfl rfl h
  · refine ev_if_lt_n 19 dX7_append_4 rfl c2 ?_
    refine ev_aload_nR 0 dX7_append_7 rfl ?_
    refine ev_getI dX7_append_8 fl_X7_15 rfl g1 ?_
    refine ev_aload_nR 0 dX7_append_11 rfl ?_
    obtain ⟨p3, e4, h⟩ := op_some h
    refine ev_getPR dX7_append_12 fl_X7_9 rfl g1 e4 ?_
    obtain ⟨g5, h⟩ := gd_some h
    refine ev_alen dX7_append_15 (isA_O g5) (by decide) ?_
    rcases it_some h with ⟨c6, h⟩ | ⟨c6, h⟩
    · refine ev_icmp_lt (tgt := 21) dX7_append_16 rfl c6 ?_
      refine ev_aload_nR 0 dX7_append_21 rfl ?_
      refine ev_getPR dX7_append_22 fl_X7_9 rfl g1 e4 ?_
      refine ev_aload_nR 0 dX7_append_25 rfl ?_
      refine ev_getI dX7_append_26 fl_X7_15 rfl g1 ?_
      refine ev_iload_n 1 dX7_append_29 rfl ?_
      obtain ⟨g7, h⟩ := gd_some h
      obtain ⟨σ8, e9, h⟩ := lt_some h
      refine ev_cast dX7_append_30 (isO_spec g5).1 (isA_O g5) g7 ?_
      refine ev_st e9 ?_
      refine ev_aload_nR 0 dX7_append_31 rfl ?_
      refine ev_dup dX7_append_32 rfl ?_
      refine ev_getI dX7_append_33 fl_X7_15 rfl (isO_I e9 g1) ?_
      refine ev_iconst (v := 1) dX7_append_36 (by decide) ?_
      refine ev_iadd dX7_append_37 ?_
      obtain ⟨σ10, e11, h⟩ := lt_some h
      refine ev_putI dX7_append_38 fl_X7_15 rfl (Or.inl rfl) (isO_I e9 g1) ⟨rfl, rfl⟩ ?_
      refine ev_st e11 ?_
      refine ev_iconst (v := 1) dX7_append_41 (by decide) ?_
      exact ev_retI .boolean dX7_append_42 rfl rfl h
    · refine ev_icmp_lt_n 21 dX7_append_16 rfl c6 ?_
      refine ev_iconst (v := 0) dX7_append_19 (by decide) ?_
      exact ev_retI .boolean dX7_append_20 rfl rfl h
def s_X7_clear (a0 : Nat) (σ : St) : Option (Unit × St) :=
 if isO σ 7 a0 = true then (lt (setI σ a0 1 0) fun σ2 =>
 some ((), σ2)) else none
set_option maxHeartbeats 4000000 in
set_option maxRecDepth 100000 in
theorem x_X7_clear {a0 : Nat} {σ : St} {r : Unit} {σ' : St} (h : s_X7_clear a0 σ = some (r, σ')) : Ex M_X7_clear (1) [.ref a0] σ none σ' := by
  unfold s_X7_clear at h
  refine ex_of (by decide) rfl (Nat.le_of_ble_eq_true rfl) ?_
  show Ev _ _ 0 [(0, .ref a0)] [] _ _ _
  refine ev_aload_nR 0 dX7_clear_0 rfl ?_
  refine ev_iconst (v := 0) dX7_clear_1 (by decide) ?_
  obtain ⟨g1, h⟩ := gd_some h
  obtain ⟨σ2, e3, h⟩ := lt_some h
  refine ev_putI dX7_clear_2 fl_X7_15 rfl (Or.inl rfl) g1 ⟨rfl, rfl⟩ ?_
  refine ev_st e3 ?_
  exact ev_retV dX7_clear_5 rfl h
