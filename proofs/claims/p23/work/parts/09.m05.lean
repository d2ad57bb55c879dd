def sb_L_law_136 (k136 : Nat → Nat → Int32 → Int32 → St → Option (Int32 × St)) (a0 : Nat) (a1 : Nat) (a2 : Int32) (a4 : Int32) (σ : St) : Option (Int32 × St) :=
 if (2 : Int32) ≤ a4 then (some (1, σ)) else (if isO σ 10 a1 = true then (bd (s_X10_wipe a1 σ) fun r5 σ3 =>
 bd (s_L_goal a1 a0 (130 + (10 * a4)) σ3) fun r8 σ6 =>
 if r8 = 0 then (some (0, σ6)) else (if isO σ6 10 a1 = true then (bd (s_X10_goal a1 σ6) fun r13 σ11 =>
 if (1 : Int32) ≤ r13 then (if isO σ11 10 a1 = true then (bd (s_X10_count a1 0 σ11) fun r18 σ16 =>
 bd (s_L_areHeights a1 r18 σ16) fun r21 σ19 =>
 if r21 = 0 then (some (0, σ19)) else (bd (s_L_isWay a1 r18 σ19) fun r25 σ23 =>
 if r25 = 0 then (some (0, σ23)) else (if a4 = 0 then (if a2 ≤ 0 then (lt (a4 + 1 : Int32) fun v31 =>
 k136 a0 a1 a2 v31 σ23) else (bd (s_L_cell a0 150 a2 σ23) fun r35 σ33 =>
 if isO σ33 10 a1 = true then (bd (s_X10_drop a1 0 r35 σ33) fun r39 σ37 =>
 if r39 = (a2 - 1) then (lt (a4 + 1 : Int32) fun v41 =>
 k136 a0 a1 a2 v41 σ37) else (some (0, σ37))) else none)) else (lt (a4 + 1 : Int32) fun v28 =>
 k136 a0 a1 a2 v28 σ23)))) else none) else (some (0, σ11))) else none)) else none)
def s_L_law_136 (F : Nat) : Nat → Nat → Int32 → Int32 → St → Option (Int32 × St) := lp (fun _ _ _ _ _ => none) (sb_L_law_136 ) F
set_option maxHeartbeats 4000000 in
set_option maxRecDepth 100000 in
theorem e_L_law_136 {r : Int32} {σ' : St} (F : Nat) : ∀ {a0 : Nat} {a1 : Nat} {a2 : Int32} {a4 : Int32} {σ : St}, s_L_law_136 F a0 a1 a2 a4 σ = some (r, σ') → Ev M_L_law (394) 136 [(0, .ref a0), (1, .ref a1), (2, .int (a2)), (4, .int (a4))] [] σ (some (.int r)) σ' := by
  induction F with
  | zero => intro a0 a1 a2 a4 σ h; cases h
  | succ F ih =>
    intro a0 a1 a2 a4 σ h
    change sb_L_law_136  (s_L_law_136 F) a0 a1 a2 a4 σ = some (r, σ') at h
    unfold sb_L_law_136 at h
    have hk136 := @ih
    refine ev_iload 3 dL_law_136 rfl ?_
    refine ev_iconst (v := 2) dL_law_138 (by decide) ?_
    rcases it_some h with ⟨c1, h⟩ | ⟨c1, h⟩
    · refine ev_icmp_ge (tgt := 237) dL_law_139 rfl c1 ?_
      refine ev_iconst (v := 1) dL_law_237 (by decide) ?_
      exact ev_retI .boolean dL_law_238 rfl rfl h
    · refine ev_icmp_ge_n 237 dL_law_139 rfl c1 ?_
      refine ev_aload_nR 1 dL_law_142 rfl ?_
      obtain ⟨g2, h⟩ := gd_some h
      obtain ⟨r5, σ3, e4, h⟩ := bd_some h
      refine ev_invVi (As := []) (st := []) dL_law_143 cb_X10_wipe tp_275 tp_276 tp_277 kf10 rfl (by omega) g2 rfl rfl (Nat.le_of_ble_eq_true rfl) (x_X10_wipe e4) ?_
      refine ev_pop dL_law_146 rfl ?_
      refine ev_aload_nR 1 dL_law_147 rfl ?_
      refine ev_aload_nR 0 dL_law_148 rfl ?_
      refine ev_sipush (v := 130) dL_law_149 (by decide) ?_
      refine ev_bipush (v := 10) dL_law_152 (by decide) ?_
      refine ev_iload 3 dL_law_154 rfl ?_
      refine ev_imul dL_law_156 ?_
      refine ev_iadd dL_law_157 ?_
      obtain ⟨r8, σ6, e7, h⟩ := bd_some h
      refine ev_invSi (As := [.ref a1, .ref a0, .int (130 + (10 * a4))]) (st := []) dL_law_158 cb_L_goal tp_811 tp_812 (by omega) rfl rfl (Nat.le_of_ble_eq_true rfl) (x_L_goal e7) ?_
      rcases it_some h with ⟨c9, h⟩ | ⟨c9, h⟩
      · refine ev_if_eq (tgt := 172) dL_law_161 rfl c9 ?_
        refine ev_iconst (v := 0) dL_law_172 (by decide) ?_
        exact ev_retI .boolean dL_law_173 rfl rfl h
      · refine ev_if_eq_n 172 dL_law_161 rfl c9 ?_
        refine ev_aload_nR 1 dL_law_164 rfl ?_
        obtain ⟨g10, h⟩ := gd_some h
        obtain ⟨r13, σ11, e12, h⟩ := bd_some h
        refine ev_invVi (As := []) (st := []) dL_law_165 cb_X10_goal tp_287 tp_288 tp_289 kf10 rfl (by omega) g10 rfl rfl (Nat.le_of_ble_eq_true rfl) (x_X10_goal e12) ?_
        refine ev_iconst (v := 1) dL_law_168 (by decide) ?_
        rcases it_some h with ⟨c14, h⟩ | ⟨c14, h⟩
        · refine ev_icmp_ge (tgt := 174) dL_law_169 rfl c14 ?_
          refine ev_aload_nR 1 dL_law_174 rfl ?_
          refine ev_iconst (v := 0) dL_law_175 (by decide) ?_
          obtain ⟨g15, h⟩ := gd_some h
          obtain ⟨r18, σ16, e17, h⟩ := bd_some h
          refine ev_invVi (As := [.int (0)]) (st := []) dL_law_176 cb_X10_count tp_797 tp_798 tp_799 kf10 rfl (by omega) g15 rfl rfl (Nat.le_of_ble_eq_true rfl) (x_X10_count e17) ?_
          refine ev_istore (ls' := [(5, .int (r18)), (0, .ref a0), (1, .ref a1), (2, .int (a2)), (4, .int (a4))]) dL_law_179 (by decide) rfl ?_
          refine ev_aload_nR 2 dL_law_181 rfl ?_
          refine ev_iload 0 dL_law_182 rfl ?_
          obtain ⟨r21, σ19, e20, h⟩ := bd_some h
          refine ev_invSi (As := [.ref a1, .int (r18)]) (st := []) dL_law_184 cb_L_areHeights tp_847 tp_848 (by omega) rfl rfl (Nat.le_of_ble_eq_true rfl) (x_L_areHeights e20) ?_
          rcases it_some h with ⟨c22, h⟩ | ⟨c22, h⟩
          · refine ev_if_eq (tgt := 199) dL_law_187 rfl c22 ?_
            refine ev_iconst (v := 0) dL_law_199 (by decide) ?_
            exact ev_retI .boolean dL_law_200 rfl rfl h
          · refine ev_if_eq_n 199 dL_law_187 rfl c22 ?_
            refine ev_aload_nR 2 dL_law_190 rfl ?_
            refine ev_iload 0 dL_law_191 rfl ?_
            obtain ⟨r25, σ23, e24, h⟩ := bd_some h
            refine ev_invSi (As := [.ref a1, .int (r18)]) (st := []) dL_law_193 cb_L_isWay tp_897 tp_898 (by omega) rfl rfl (Nat.le_of_ble_eq_true rfl) (x_L_isWay e24) ?_
            rcases it_some h with ⟨c26, h⟩ | ⟨c26, h⟩
            · refine ev_if_ne_n 201 dL_law_196 rfl c26 ?_
              refine ev_iconst (v := 0) dL_law_199 (by decide) ?_
              exact ev_retI .boolean dL_law_200 rfl rfl h
            · refine ev_if_ne (tgt := 201) dL_law_196 rfl c26 ?_
              refine ev_iload 4 dL_law_201 rfl ?_
              rcases it_some h with ⟨c27, h⟩ | ⟨c27, h⟩
              · refine ev_if_ne_n 231 dL_law_203 rfl c27 ?_
                refine ev_iload_n 3 dL_law_206 rfl ?_
                rcases it_some h with ⟨c30, h⟩ | ⟨c30, h⟩
                · refine ev_if_le (tgt := 231) dL_law_207 rfl c30 ?_
                  obtain ⟨v31, e32, h⟩ := lt_some h
                  refine ev_iinc (v := v31) (ls' := [(4, .int (v31)), (5, .int (r18)), (0, .ref a0), (1, .ref a1), (2, .int (a2))]) 4 dL_law_231 rfl e32.symm (by decide) rfl ?_
                  refine ev_goto (tgt := 136) dL_law_234 rfl ?_
                  refine ev_sub (ls' := [(0, .ref a0), (1, .ref a1), (2, .int (a2)), (4, .int (v31))]) [2, 3, 4, 0] rfl ?_
                  exact hk136 h
                · refine ev_if_le_n 231 dL_law_207 rfl c30 ?_
                  refine ev_aload_nR 2 dL_law_210 rfl ?_
                  refine ev_iconst (v := 0) dL_law_211 (by decide) ?_
                  refine ev_aload_nR 1 dL_law_212 rfl ?_
                  refine ev_sipush (v := 150) dL_law_213 (by decide) ?_
                  refine ev_iload_n 3 dL_law_216 rfl ?_
                  obtain ⟨r35, σ33, e34, h⟩ := bd_some h
                  refine ev_invSi (As := [.ref a0, .int (150), .int (a2)]) (st := [.int (0), .ref a1]) dL_law_217 cb_L_cell tp_807 tp_808 (by omega) rfl rfl (Nat.le_of_ble_eq_true rfl) (x_L_cell e34) ?_
                  obtain ⟨g36, h⟩ := gd_some h
                  obtain ⟨r39, σ37, e38, h⟩ := bd_some h
                  refine ev_invVi (As := [.int (0), .int (r35)]) (st := []) dL_law_220 cb_X10_drop tp_455 tp_456 tp_457 kf10 rfl (by omega) g36 rfl rfl (Nat.le_of_ble_eq_true rfl) (x_X10_drop e38) ?_
                  refine ev_iload_n 3 dL_law_223 rfl ?_
                  refine ev_iconst (v := 1) dL_law_224 (by decide) ?_
                  refine ev_isub dL_law_225 ?_
                  rcases it_some h with ⟨c40, h⟩ | ⟨c40, h⟩
                  · refine ev_icmp_eq (tgt := 231) dL_law_226 rfl c40 ?_
                    obtain ⟨v41, e42, h⟩ := lt_some h
                    refine ev_iinc (v := v41) (ls' := [(4, .int (v41)), (5, .int (r18)), (0, .ref a0), (1, .ref a1), (2, .int (a2))]) 4 dL_law_231 rfl e42.symm (by decide) rfl ?_
                    refine ev_goto (tgt := 136) dL_law_234 rfl ?_
                    refine ev_sub (ls' := [(0, .ref a0), (1, .ref a1), (2, .int (a2)), (4, .int (v41))]) [2, 3, 4, 0] rfl ?_
                    exact hk136 h
                  · refine ev_icmp_eq_n 231 dL_law_226 rfl c40 ?_
                    refine ev_iconst (v := 0) dL_law_229 (by decide) ?_
                    exact ev_retI .boolean dL_law_230 rfl rfl h
              · refine ev_if_ne (tgt := 231) dL_law_203 rfl c27 ?_
                obtain ⟨v28, e29, h⟩ := lt_some h
                refine ev_iinc (v := v28) (ls' := [(4, .int (v28)), (5, .int (r18)), (0, .ref a0), (1, .ref a1), (2, .int (a2))]) 4 dL_law_231 rfl e29.symm (by decide) rfl ?_
                refine ev_goto (tgt := 136) dL_law_234 rfl ?_
                refine ev_sub (ls' := [(0, .ref a0), (1, .ref a1), (2, .int (a2)), (4, .int (v28))]) [2, 3, 4, 0] rfl ?_
                exact hk136 h
        · refine ev_icmp_ge_n 174 dL_law_169 rfl c14 ?_
          refine ev_iconst (v := 0) dL_law_172 (by decide) ?_
          exact ev_retI .boolean dL_law_173 rfl rfl h
def s_L_law (a0 : Nat) (σ : St) : Option (Int32 × St) :=
 lt (sn σ) fun n43 => lt (newC σ 10 12) fun σ45 =>
 bd (s_X10_init n43 σ45) fun r49 σ47 =>
 if isO σ47 10 n43 = true then (bd (s_X10_height n43 0 σ47) fun r53 σ51 =>
 if r53 = ((-3)) then (if isO σ51 10 n43 = true then (bd (s_X10_height n43 1 σ51) fun r58 σ56 =>
 if r58 = ((-1)) then (if isO σ56 10 n43 = true then (bd (s_X10_left n43 0 0 σ56) fun r63 σ61 =>
 if r63 = ((-3)) then (if isO σ61 10 n43 = true then (bd (s_X10_fewest n43 σ61) fun r68 σ66 =>
 if r68 = ((-3)) then (if isO σ66 10 n43 = true then (bd (s_X10_needed n43 σ66) fun r73 σ71 =>
 if r73 = ((-3)) then (if isO σ71 10 n43 = true then (bd (s_X10_term n43 0 σ71) fun r78 σ76 =>
 if r78 = ((-3)) then (if isO σ76 10 n43 = true then (bd (s_X10_check n43 0 σ76) fun r83 σ81 =>
 if r83 = ((-3)) then (if isO σ81 10 n43 = true then (bd (s_X10_check n43 3 σ81) fun r88 σ86 =>
 if r88 = ((-2)) then (if isO σ86 10 n43 = true then (bd (s_X10_trial n43 1 σ86) fun r93 σ91 =>
 if r93 = ((-3)) then (if isO σ91 10 n43 = true then (bd (s_X10_trial n43 0 σ91) fun r98 σ96 =>
 if r98 = 0 then (bd (s_L_cell a0 0 6 σ96) fun r102 σ100 =>
 bd (s_L_cell a0 1 4 σ100) fun r105 σ103 =>
 bd (s_L_lay n43 a0 r102 r105 σ103) fun r108 σ106 =>
 if r108 = 0 then (some (0, σ106)) else (s_L_law_136 16000 a0 n43 r102 0 σ106)) else (some (0, σ96))) else none) else (some (0, σ91))) else none) else (some (0, σ86))) else none) else (some (0, σ81))) else none) else (some (0, σ76))) else none) else (some (0, σ71))) else none) else (some (0, σ66))) else none) else (some (0, σ61))) else none) else (some (0, σ56))) else none) else (some (0, σ51))) else none
set_option maxHeartbeats 4000000 in
set_option maxRecDepth 100000 in
theorem e_L_law {a0 : Nat} {σ : St} {r : Int32} {σ' : St} (h : s_L_law a0 σ = some (r, σ')) : Ev M_L_law (394) 0 [(0, .ref a0)] [] σ (some (.int r)) σ' := by
  unfold s_L_law at h
  obtain ⟨n43, e44, h⟩ := lt_some h
  obtain ⟨σ45, e46, h⟩ := lt_some h
  refine ev_newR dL_law_0 kf10 tp_68 tp_69 tp_55 e44 ?_
  refine ev_st e46 ?_
  refine ev_dup dL_law_3 rfl ?_
  obtain ⟨r49, σ47, e48, h⟩ := bd_some h
  refine ev_invI (r1 := none) (As := []) (st := [.ref n43]) dL_law_4 cb_X10_init tp_70 tp_71 rfl rfl (by omega) rfl rfl (Nat.le_of_ble_eq_true rfl) (x_X10_init e48) ?_
  show Ev _ _ _ _ [.ref n43] _ _ _
  refine ev_astore_nR (ls' := [(1, .ref n43), (0, .ref a0)]) dL_law_7 (by decide) rfl ?_
  refine ev_aload_nR 0 dL_law_8 rfl ?_
  refine ev_iconst (v := 0) dL_law_9 (by decide) ?_
  obtain ⟨g50, h⟩ := gd_some h
  obtain ⟨r53, σ51, e52, h⟩ := bd_some h
  refine ev_invVi (As := [.int (0)]) (st := []) dL_law_10 cb_X10_height tp_482 tp_483 tp_484 kf10 rfl (by omega) g50 rfl rfl (Nat.le_of_ble_eq_true rfl) (x_X10_height e52) ?_
  refine ev_bipush (v := (-3)) dL_law_13 (by decide) ?_
  rcases it_some h with ⟨c54, h⟩ | ⟨c54, h⟩
  · refine ev_icmp_ne_n 104 dL_law_15 rfl c54 ?_
    refine ev_aload_nR 0 dL_law_18 rfl ?_
    refine ev_iconst (v := 1) dL_law_19 (by decide) ?_
    obtain ⟨g55, h⟩ := gd_some h
    obtain ⟨r58, σ56, e57, h⟩ := bd_some h
    refine ev_invVi (As := [.int (1)]) (st := []) dL_law_20 cb_X10_height tp_482 tp_483 tp_484 kf10 rfl (by omega) g55 rfl rfl (Nat.le_of_ble_eq_true rfl) (x_X10_height e57) ?_
    refine ev_iconst (v := (-1)) dL_law_23 (by decide) ?_
    rcases it_some h with ⟨c59, h⟩ | ⟨c59, h⟩
    · refine ev_icmp_ne_n 104 dL_law_24 rfl c59 ?_
      refine ev_aload_nR 0 dL_law_27 rfl ?_
      refine ev_iconst (v := 0) dL_law_28 (by decide) ?_
      refine ev_iconst (v := 0) dL_law_29 (by decide) ?_
      obtain ⟨g60, h⟩ := gd_some h
      obtain ⟨r63, σ61, e62, h⟩ := bd_some h
      refine ev_invVi (As := [.int (0), .int (0)]) (st := []) dL_law_30 cb_X10_left tp_630 tp_631 tp_632 kf10 rfl (by omega) g60 rfl rfl (Nat.le_of_ble_eq_true rfl) (x_X10_left e62) ?_
      refine ev_bipush (v := (-3)) dL_law_33 (by decide) ?_
      rcases it_some h with ⟨c64, h⟩ | ⟨c64, h⟩
      · refine ev_icmp_ne_n 104 dL_law_35 rfl c64 ?_
        refine ev_aload_nR 0 dL_law_38 rfl ?_
        obtain ⟨g65, h⟩ := gd_some h
        obtain ⟨r68, σ66, e67, h⟩ := bd_some h
        refine ev_invVi (As := []) (st := []) dL_law_39 cb_X10_fewest tp_635 tp_636 tp_637 kf10 rfl (by omega) g65 rfl rfl (Nat.le_of_ble_eq_true rfl) (x_X10_fewest e67) ?_
        refine ev_bipush (v := (-3)) dL_law_42 (by decide) ?_
        rcases it_some h with ⟨c69, h⟩ | ⟨c69, h⟩
        · refine ev_icmp_ne_n 104 dL_law_44 rfl c69 ?_
          refine ev_aload_nR 0 dL_law_47 rfl ?_
          obtain ⟨g70, h⟩ := gd_some h
          obtain ⟨r73, σ71, e72, h⟩ := bd_some h
          refine ev_invVi (As := []) (st := []) dL_law_48 cb_X10_needed tp_643 tp_644 tp_645 kf10 rfl (by omega) g70 rfl rfl (Nat.le_of_ble_eq_true rfl) (x_X10_needed e72) ?_
          refine ev_bipush (v := (-3)) dL_law_51 (by decide) ?_
          rcases it_some h with ⟨c74, h⟩ | ⟨c74, h⟩
          · refine ev_icmp_ne_n 104 dL_law_53 rfl c74 ?_
            refine ev_aload_nR 0 dL_law_56 rfl ?_
            refine ev_iconst (v := 0) dL_law_57 (by decide) ?_
            obtain ⟨g75, h⟩ := gd_some h
            obtain ⟨r78, σ76, e77, h⟩ := bd_some h
            refine ev_invVi (As := [.int (0)]) (st := []) dL_law_58 cb_X10_term tp_647 tp_648 tp_649 kf10 rfl (by omega) g75 rfl rfl (Nat.le_of_ble_eq_true rfl) (x_X10_term e77) ?_
            refine ev_bipush (v := (-3)) dL_law_61 (by decide) ?_
            rcases it_some h with ⟨c79, h⟩ | ⟨c79, h⟩
            · refine ev_icmp_ne_n 104 dL_law_63 rfl c79 ?_
              refine ev_aload_nR 0 dL_law_66 rfl ?_
              refine ev_iconst (v := 0) dL_law_67 (by decide) ?_
              obtain ⟨g80, h⟩ := gd_some h
              obtain ⟨r83, σ81, e82, h⟩ := bd_some h
              refine ev_invVi (As := [.int (0)]) (st := []) dL_law_68 cb_X10_check tp_728 tp_729 tp_730 kf10 rfl (by omega) g80 rfl rfl (Nat.le_of_ble_eq_true rfl) (x_X10_check e82) ?_
              refine ev_bipush (v := (-3)) dL_law_71 (by decide) ?_
              rcases it_some h with ⟨c84, h⟩ | ⟨c84, h⟩
              · refine ev_icmp_ne_n 104 dL_law_73 rfl c84 ?_
                refine ev_aload_nR 0 dL_law_76 rfl ?_
                refine ev_iconst (v := 3) dL_law_77 (by decide) ?_
                obtain ⟨g85, h⟩ := gd_some h
                obtain ⟨r88, σ86, e87, h⟩ := bd_some h
                refine ev_invVi (As := [.int (3)]) (st := []) dL_law_78 cb_X10_check tp_728 tp_729 tp_730 kf10 rfl (by omega) g85 rfl rfl (Nat.le_of_ble_eq_true rfl) (x_X10_check e87) ?_
                refine ev_bipush (v := (-2)) dL_law_81 (by decide) ?_
                rcases it_some h with ⟨c89, h⟩ | ⟨c89, h⟩
                · refine ev_icmp_ne_n 104 dL_law_83 rfl c89 ?_
                  refine ev_aload_nR 0 dL_law_86 rfl ?_
                  refine ev_iconst (v := 1) dL_law_87 (by decide) ?_
                  obtain ⟨g90, h⟩ := gd_some h
                  obtain ⟨r93, σ91, e92, h⟩ := bd_some h
                  refine ev_invVi (As := [.int (1)]) (st := []) dL_law_88 cb_X10_trial tp_712 tp_713 tp_714 kf10 rfl (by omega) g90 rfl rfl (Nat.le_of_ble_eq_true rfl) (x_X10_trial e92) ?_
                  refine ev_bipush (v := (-3)) dL_law_91 (by decide) ?_
                  rcases it_some h with ⟨c94, h⟩ | ⟨c94, h⟩
                  · refine ev_icmp_ne_n 104 dL_law_93 rfl c94 ?_
                    refine ev_aload_nR 0 dL_law_96 rfl ?_
                    refine ev_iconst (v := 0) dL_law_97 (by decide) ?_
                    obtain ⟨g95, h⟩ := gd_some h
                    obtain ⟨r98, σ96, e97, h⟩ := bd_some h
                    refine ev_invVi (As := [.int (0)]) (st := []) dL_law_98 cb_X10_trial tp_712 tp_713 tp_714 kf10 rfl (by omega) g95 rfl rfl (Nat.le_of_ble_eq_true rfl) (x_X10_trial e97) ?_
                    rcases it_some h with ⟨c99, h⟩ | ⟨c99, h⟩
                    · refine ev_if_eq (tgt := 106) dL_law_101 rfl c99 ?_
                      refine ev_aload_nR 1 dL_law_106 rfl ?_
                      refine ev_iconst (v := 0) dL_law_107 (by decide) ?_
                      refine ev_bipush (v := 6) dL_law_108 (by decide) ?_
                      obtain ⟨r102, σ100, e101, h⟩ := bd_some h
                      refine ev_invSi (As := [.ref a0, .int (0), .int (6)]) (st := []) dL_law_110 cb_L_cell tp_807 tp_808 (by omega) rfl rfl (Nat.le_of_ble_eq_true rfl) (x_L_cell e101) ?_
                      refine ev_istore_n (ls' := [(2, .int (r102)), (1, .ref n43), (0, .ref a0)]) dL_law_113 (by decide) rfl ?_
                      refine ev_aload_nR 2 dL_law_114 rfl ?_
                      refine ev_iconst (v := 1) dL_law_115 (by decide) ?_
                      refine ev_iconst (v := 4) dL_law_116 (by decide) ?_
                      obtain ⟨r105, σ103, e104, h⟩ := bd_some h
                      refine ev_invSi (As := [.ref a0, .int (1), .int (4)]) (st := []) dL_law_117 cb_L_cell tp_807 tp_808 (by omega) rfl rfl (Nat.le_of_ble_eq_true rfl) (x_L_cell e104) ?_
                      refine ev_istore_n (ls' := [(3, .int (r105)), (2, .int (r102)), (1, .ref n43), (0, .ref a0)]) dL_law_120 (by decide) rfl ?_
                      refine ev_aload_nR 2 dL_law_121 rfl ?_
                      refine ev_aload_nR 3 dL_law_122 rfl ?_
                      refine ev_iload_n 1 dL_law_123 rfl ?_
                      refine ev_iload_n 0 dL_law_124 rfl ?_
                      obtain ⟨r108, σ106, e107, h⟩ := bd_some h
                      refine ev_invSi (As := [.ref n43, .ref a0, .int (r102), .int (r105)]) (st := []) dL_law_125 cb_L_lay tp_825 tp_826 (by omega) rfl rfl (Nat.le_of_ble_eq_true rfl) (x_L_lay e107) ?_
                      rcases it_some h with ⟨c109, h⟩ | ⟨c109, h⟩
                      · refine ev_if_ne_n 133 dL_law_128 rfl c109 ?_
                        refine ev_iconst (v := 0) dL_law_131 (by decide) ?_
                        exact ev_retI .boolean dL_law_132 rfl rfl h
                      · refine ev_if_ne (tgt := 133) dL_law_128 rfl c109 ?_
                        refine ev_iconst (v := 0) dL_law_133 (by decide) ?_
                        refine ev_istore (ls' := [(4, .int (0)), (3, .int (r105)), (2, .int (r102)), (1, .ref n43), (0, .ref a0)]) dL_law_134 (by decide) rfl ?_
                        refine ev_sub (ls' := [(0, .ref a0), (1, .ref n43), (2, .int (r102)), (4, .int (0))]) [4, 3, 2, 0] rfl ?_
                        exact e_L_law_136 16000 h
                    · refine ev_if_eq_n 106 dL_law_101 rfl c99 ?_
                      refine ev_iconst (v := 0) dL_law_104 (by decide) ?_
                      exact ev_retI .boolean dL_law_105 rfl rfl h
                  · refine ev_icmp_ne (tgt := 104) dL_law_93 rfl c94 ?_
                    refine ev_iconst (v := 0) dL_law_104 (by decide) ?_
                    exact ev_retI .boolean dL_law_105 rfl rfl h
                · refine ev_icmp_ne (tgt := 104) dL_law_83 rfl c89 ?_
                  refine ev_iconst (v := 0) dL_law_104 (by decide) ?_
                  exact ev_retI .boolean dL_law_105 rfl rfl h
              · refine ev_icmp_ne (tgt := 104) dL_law_73 rfl c84 ?_
                refine ev_iconst (v := 0) dL_law_104 (by decide) ?_
                exact ev_retI .boolean dL_law_105 rfl rfl h
            · refine ev_icmp_ne (tgt := 104) dL_law_63 rfl c79 ?_
              refine ev_iconst (v := 0) dL_law_104 (by decide) ?_
              exact ev_retI .boolean dL_law_105 rfl rfl h
          · refine ev_icmp_ne (tgt := 104) dL_law_53 rfl c74 ?_
            refine ev_iconst (v := 0) dL_law_104 (by decide) ?_
            exact ev_retI .boolean dL_law_105 rfl rfl h
        · refine ev_icmp_ne (tgt := 104) dL_law_44 rfl c69 ?_
          refine ev_iconst (v := 0) dL_law_104 (by decide) ?_
          exact ev_retI .boolean dL_law_105 rfl rfl h
      · refine ev_icmp_ne (tgt := 104) dL_law_35 rfl c64 ?_
        refine ev_iconst (v := 0) dL_law_104 (by decide) ?_
        exact ev_retI .boolean dL_law_105 rfl rfl h
    · refine ev_icmp_ne (tgt := 104) dL_law_24 rfl c59 ?_
      refine ev_iconst (v := 0) dL_law_104 (by decide) ?_
      exact ev_retI .boolean dL_law_105 rfl rfl h
  · refine ev_icmp_ne (tgt := 104) dL_law_15 rfl c54 ?_
    refine ev_iconst (v := 0) dL_law_104 (by decide) ?_
    exact ev_retI .boolean dL_law_105 rfl rfl h
