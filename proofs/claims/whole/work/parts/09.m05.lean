def s_X11_say (a0 : Nat) (a1 : Int32) (σ : St) : Option (Int32 × St) :=
 bd (s_X11_in a1 33 126 σ) fun r3 σ1 =>
 if r3 = 0 then (some ((-2), σ1)) else (if isO σ1 11 a0 = true then (op (sP σ1 a0 1) fun p6 =>
 if isO σ1 13 p6 = true then (if inR 10 (alen σ1 p6) = true then (if (sI σ1 p6 ((10 : Int32).toNatClampNeg)) = 60 then (some ((-4), σ1)) else (op (sP σ1 a0 0) fun p11 =>
 if inR 10 (alen σ1 p6) = true then (if isO σ1 13 p11 = true then (if inR (600 + (sI σ1 p6 ((10 : Int32).toNatClampNeg))) (alen σ1 p11) = true then (lt (setI σ1 p11 ((600 + (sI σ1 p6 ((10 : Int32).toNatClampNeg))).toNatClampNeg) a1) fun σ16 =>
 if inR 10 (alen σ16 p6) = true then (if inR 10 (alen σ16 p6) = true then (lt (setI σ16 p6 ((10 : Int32).toNatClampNeg) ((sI σ16 p6 ((10 : Int32).toNatClampNeg)) + 1)) fun σ20 =>
 if inR 10 (alen σ20 p6) = true then (some (sI σ20 p6 ((10 : Int32).toNatClampNeg), σ20)) else none) else none) else none) else none) else none) else none)) else none) else none) else none)
set_option maxHeartbeats 4000000 in
set_option maxRecDepth 100000 in
theorem x_X11_say {a0 : Nat} {a1 : Int32} {σ : St} {r : Int32} {σ' : St} (h : s_X11_say a0 a1 σ = some (r, σ')) : Ex M_X11_say (2) [.ref a0, .int (a1)] σ (some (.int r)) σ' := by
  unfold s_X11_say at h
  refine ex_of (by decide) rfl (Nat.le_of_ble_eq_true rfl) ?_
  show Ev _ _ 0 [(0, .ref a0), (1, .int (a1))] [] _ _ _
  refine ev_iload_n 1 dX11_say_0 rfl ?_
  refine ev_bipush (v := 33) dX11_say_1 (by decide) ?_
  refine ev_bipush (v := 126) dX11_say_3 (by decide) ?_
  obtain ⟨r3, σ1, e2, h⟩ := bd_some h
  refine ev_invSi (As := [.int (a1), .int (33), .int (126)]) (st := []) dX11_say_5 cb_X11_in tp_1066 tp_1067 (by omega) rfl rfl (Nat.le_of_ble_eq_true rfl) (x_X11_in e2) ?_
  rcases it_some h with ⟨c4, h⟩ | ⟨c4, h⟩
  · refine ev_if_ne_n 14 dX11_say_8 rfl c4 ?_
    refine ev_bipush (v := (-2)) dX11_say_11 (by decide) ?_
    exact ev_retI .int dX11_say_13 rfl rfl h
  · refine ev_if_ne (tgt := 14) dX11_say_8 rfl c4 ?_
    refine ev_aload_nR 0 dX11_say_14 rfl ?_
    obtain ⟨g5, h⟩ := gd_some h
    obtain ⟨p6, e7, h⟩ := op_some h
    refine ev_getPR dX11_say_15 fl_X11_13 rfl g5 e7 ?_
    refine ev_bipush (v := 10) dX11_say_18 (by decide) ?_
    obtain ⟨g8, h⟩ := gd_some h
    obtain ⟨g9, h⟩ := gd_some h
    refine ev_iald dX11_say_20 (isA_O g8) g9 ?_
    refine ev_bipush (v := 60) dX11_say_21 (by decide) ?_
    rcases it_some h with ⟨c10, h⟩ | ⟨c10, h⟩
    · refine ev_icmp_ne_n 29 dX11_say_23 rfl c10 ?_
      refine ev_bipush (v := (-4)) dX11_say_26 (by decide) ?_
      exact ev_retI .int dX11_say_28 rfl rfl h
    · refine ev_icmp_ne (tgt := 29) dX11_say_23 rfl c10 ?_
      refine ev_aload_nR 0 dX11_say_29 rfl ?_
      obtain ⟨p11, e12, h⟩ := op_some h
      refine ev_getPR dX11_say_30 fl_X11_7 rfl g5 e12 ?_
      refine ev_sipush (v := 600) dX11_say_33 (by decide) ?_
      refine ev_aload_nR 0 dX11_say_36 rfl ?_
      refine ev_getPR dX11_say_37 fl_X11_13 rfl g5 e7 ?_
      refine ev_bipush (v := 10) dX11_say_40 (by decide) ?_
      obtain ⟨g13, h⟩ := gd_some h
      refine ev_iald dX11_say_42 (isA_O g8) g13 ?_
      refine ev_iadd dX11_say_43 ?_
      refine ev_iload_n 1 dX11_say_44 rfl ?_
      obtain ⟨g14, h⟩ := gd_some h
      obtain ⟨g15, h⟩ := gd_some h
      obtain ⟨σ16, e17, h⟩ := lt_some h
      refine ev_iast dX11_say_45 (isO_spec g14).1 (isA_O g14) g15 ?_
      refine ev_st e17 ?_
      refine ev_aload_nR 0 dX11_say_46 rfl ?_
      refine ev_getPR dX11_say_47 fl_X11_13 rfl (isO_I e17 g5) (rf_I e17 e7) ?_
      refine ev_bipush (v := 10) dX11_say_50 (by decide) ?_
      refine ev_dup2 dX11_say_52 rfl rfl ?_
      obtain ⟨g18, h⟩ := gd_some h
      refine ev_iald dX11_say_53 (isA_O (isO_I e17 g8)) g18 ?_
      refine ev_iconst (v := 1) dX11_say_54 (by decide) ?_
      refine ev_iadd dX11_say_55 ?_
      obtain ⟨g19, h⟩ := gd_some h
      obtain ⟨σ20, e21, h⟩ := lt_some h
      refine ev_iast dX11_say_56 (isO_spec (isO_I e17 g8)).1 (isA_O (isO_I e17 g8)) g19 ?_
      refine ev_st e21 ?_
      refine ev_aload_nR 0 dX11_say_57 rfl ?_
      refine ev_getPR dX11_say_58 fl_X11_13 rfl (isO_I e21 (isO_I e17 g5)) (rf_I e21 (rf_I e17 e7)) ?_
      refine ev_bipush (v := 10) dX11_say_61 (by decide) ?_
      obtain ⟨g22, h⟩ := gd_some h
      refine ev_iald dX11_say_63 (isA_O (isO_I e21 (isO_I e17 g8))) g22 ?_
      exact ev_retI .int dX11_say_64 rfl rfl h
def s_X11_wipe (a0 : Nat) (σ : St) : Option (Int32 × St) :=
 if isO σ 11 a0 = true then (op (sP σ a0 1) fun p2 =>
 if isO σ 13 p2 = true then (if inR 10 (alen σ p2) = true then (lt (sI σ p2 ((10 : Int32).toNatClampNeg) : Int32) fun v6 =>
 if inR 10 (alen σ p2) = true then (lt (setI σ p2 ((10 : Int32).toNatClampNeg) 0) fun σ9 =>
 some (v6, σ9)) else none) else none) else none) else none
set_option maxHeartbeats 4000000 in
set_option maxRecDepth 100000 in
theorem x_X11_wipe {a0 : Nat} {σ : St} {r : Int32} {σ' : St} (h : s_X11_wipe a0 σ = some (r, σ')) : Ex M_X11_wipe (1) [.ref a0] σ (some (.int r)) σ' := by
  unfold s_X11_wipe at h
  refine ex_of (by decide) rfl (Nat.le_of_ble_eq_true rfl) ?_
  show Ev _ _ 0 [(0, .ref a0)] [] _ _ _
  refine ev_aload_nR 0 dX11_wipe_0 rfl ?_
  obtain ⟨g1, h⟩ := gd_some h
  obtain ⟨p2, e3, h⟩ := op_some h
  refine ev_getPR dX11_wipe_1 fl_X11_13 rfl g1 e3 ?_
  refine ev_bipush (v := 10) dX11_wipe_4 (by decide) ?_
  obtain ⟨g4, h⟩ := gd_some h
  obtain ⟨g5, h⟩ := gd_some h
  refine ev_iald dX11_wipe_6 (isA_O g4) g5 ?_
  obtain ⟨v6, e7, h⟩ := lt_some h
  refine ev_topI e7 ?_
  refine ev_istore_n (ls' := [(1, .int (v6)), (0, .ref a0)]) dX11_wipe_7 (by decide) rfl ?_
  refine ev_aload_nR 1 dX11_wipe_8 rfl ?_
  refine ev_getPR dX11_wipe_9 fl_X11_13 rfl g1 e3 ?_
  refine ev_bipush (v := 10) dX11_wipe_12 (by decide) ?_
  refine ev_iconst (v := 0) dX11_wipe_14 (by decide) ?_
  obtain ⟨g8, h⟩ := gd_some h
  obtain ⟨σ9, e10, h⟩ := lt_some h
  refine ev_iast dX11_wipe_15 (isO_spec g4).1 (isA_O g4) g8 ?_
  refine ev_st e10 ?_
  refine ev_iload_n 0 dX11_wipe_16 rfl ?_
  exact ev_retI .int dX11_wipe_17 rfl rfl h
def sb_X11_take_155 (k155 : Nat → Int32 → Int32 → Int32 → Int32 → Int32 → St → Option (Int32 × St)) (a0 : Nat) (a1 : Int32) (a3 : Int32) (a5 : Int32) (a6 : Int32) (a8 : Int32) (σ : St) : Option (Int32 × St) :=
 if isO σ 11 a0 = true then (op (sP σ a0 1) fun p2 =>
 if isO σ 13 p2 = true then (if inR 10 (alen σ p2) = true then (if (sI σ p2 ((10 : Int32).toNatClampNeg)) ≤ a8 then (if inR 10 (alen σ p2) = true then (if inR a5 (alen σ p2) = true then (lt (setI σ p2 a5.toNatClampNeg (sI σ p2 ((10 : Int32).toNatClampNeg))) fun σ9 =>
 if inR 10 (alen σ9 p2) = true then (lt (setI σ9 p2 ((10 : Int32).toNatClampNeg) 0) fun σ12 =>
 if a3 = 0 then (some (a5 - a1, σ12)) else (some (a6, σ12))) else none) else none) else none) else (op (sP σ a0 0) fun p15 =>
 if isO σ 13 p15 = true then (if inR (600 + a8) (alen σ p15) = true then (if inR ((60 * a5) + a8) (alen σ p15) = true then (lt (setI σ p15 (((60 * a5) + a8).toNatClampNeg) (sI σ p15 ((600 + a8).toNatClampNeg))) fun σ20 =>
 lt (a8 + 1 : Int32) fun v22 =>
 k155 a0 a1 a3 a5 a6 v22 σ20) else none) else none) else none)) else none) else none) else none
def s_X11_take_155 (F : Nat) : Nat → Int32 → Int32 → Int32 → Int32 → Int32 → St → Option (Int32 × St) := lp (fun _ _ _ _ _ _ _ => none) (sb_X11_take_155 ) F
set_option maxHeartbeats 4000000 in
set_option maxRecDepth 100000 in
theorem e_X11_take_155 {r : Int32} {σ' : St} (F : Nat) : ∀ {a0 : Nat} {a1 : Int32} {a3 : Int32} {a5 : Int32} {a6 : Int32} {a8 : Int32} {σ : St}, s_X11_take_155 F a0 a1 a3 a5 a6 a8 σ = some (r, σ') → Ev M_X11_take (7) 155 [(0, .ref a0), (1, .int (a1)), (3, .int (a3)), (5, .int (a5)), (6, .int (a6)), (8, .int (a8))] [] σ (some (.int r)) σ' := by
  induction F with
  | zero => intro a0 a1 a3 a5 a6 a8 σ h; cases h
  | succ F ih =>
    intro a0 a1 a3 a5 a6 a8 σ h
    change sb_X11_take_155  (s_X11_take_155 F) a0 a1 a3 a5 a6 a8 σ = some (r, σ') at h
    unfold sb_X11_take_155 at h
    have hk155 := @ih
    refine ev_iload 5 dX11_take_155 rfl ?_
    refine ev_aload_nR 0 dX11_take_157 rfl ?_
    obtain ⟨g1, h⟩ := gd_some h
    obtain ⟨p2, e3, h⟩ := op_some h
    refine ev_getPR dX11_take_158 fl_X11_13 rfl g1 e3 ?_
    refine ev_bipush (v := 10) dX11_take_161 (by decide) ?_
    obtain ⟨g4, h⟩ := gd_some h
    obtain ⟨g5, h⟩ := gd_some h
    refine ev_iald dX11_take_163 (isA_O g4) g5 ?_
    rcases it_some h with ⟨c6, h⟩ | ⟨c6, h⟩
    · refine ev_icmp_ge (tgt := 197) dX11_take_164 rfl c6 ?_
      refine ev_aload_nR 0 dX11_take_197 rfl ?_
      refine ev_getPR dX11_take_198 fl_X11_13 rfl g1 e3 ?_
      refine ev_iload 3 dX11_take_201 rfl ?_
      refine ev_aload_nR 0 dX11_take_203 rfl ?_
      refine ev_getPR dX11_take_204 fl_X11_13 rfl g1 e3 ?_
      refine ev_bipush (v := 10) dX11_take_207 (by decide) ?_
      obtain ⟨g7, h⟩ := gd_some h
      refine ev_iald dX11_take_209 (isA_O g4) g7 ?_
      obtain ⟨g8, h⟩ := gd_some h
      obtain ⟨σ9, e10, h⟩ := lt_some h
      refine ev_iast dX11_take_210 (isO_spec g4).1 (isA_O g4) g8 ?_
      refine ev_st e10 ?_
      refine ev_aload_nR 0 dX11_take_211 rfl ?_
      refine ev_getPR dX11_take_212 fl_X11_13 rfl (isO_I e10 g1) (rf_I e10 e3) ?_
      refine ev_bipush (v := 10) dX11_take_215 (by decide) ?_
      refine ev_iconst (v := 0) dX11_take_217 (by decide) ?_
      obtain ⟨g11, h⟩ := gd_some h
      obtain ⟨σ12, e13, h⟩ := lt_some h
      refine ev_iast dX11_take_218 (isO_spec (isO_I e10 g4)).1 (isA_O (isO_I e10 g4)) g11 ?_
      refine ev_st e13 ?_
      refine ev_iload_n 2 dX11_take_219 rfl ?_
      rcases it_some h with ⟨c14, h⟩ | ⟨c14, h⟩
      · refine ev_if_eq (tgt := 228) dX11_take_220 rfl c14 ?_
        refine ev_iload 3 dX11_take_228 rfl ?_
        refine ev_iload_n 1 dX11_take_230 rfl ?_
        refine ev_isub dX11_take_231 ?_
        exact ev_retI .int dX11_take_232 rfl rfl h
      · refine ev_if_eq_n 228 dX11_take_220 rfl c14 ?_
        refine ev_iload 4 dX11_take_223 rfl ?_
        refine ev_goto (tgt := 232) dX11_take_225 rfl ?_
        exact ev_retI .int dX11_take_232 rfl rfl h
    · refine ev_icmp_ge_n 197 dX11_take_164 rfl c6 ?_
      refine ev_aload_nR 0 dX11_take_167 rfl ?_
      obtain ⟨p15, e16, h⟩ := op_some h
      refine ev_getPR dX11_take_168 fl_X11_7 rfl g1 e16 ?_
      refine ev_bipush (v := 60) dX11_take_171 (by decide) ?_
      refine ev_iload 3 dX11_take_173 rfl ?_
      refine ev_imul dX11_take_175 ?_
      refine ev_iload 5 dX11_take_176 rfl ?_
      refine ev_iadd dX11_take_178 ?_
      refine ev_aload_nR 0 dX11_take_179 rfl ?_
      refine ev_getPR dX11_take_180 fl_X11_7 rfl g1 e16 ?_
      refine ev_sipush (v := 600) dX11_take_183 (by decide) ?_
      refine ev_iload 5 dX11_take_186 rfl ?_
      refine ev_iadd dX11_take_188 ?_
      obtain ⟨g17, h⟩ := gd_some h
      obtain ⟨g18, h⟩ := gd_some h
      refine ev_iald dX11_take_189 (isA_O g17) g18 ?_
      obtain ⟨g19, h⟩ := gd_some h
      obtain ⟨σ20, e21, h⟩ := lt_some h
      refine ev_iast dX11_take_190 (isO_spec g17).1 (isA_O g17) g19 ?_
      refine ev_st e21 ?_
      obtain ⟨v22, e23, h⟩ := lt_some h
      refine ev_iinc (v := v22) (ls' := [(8, .int (v22)), (0, .ref a0), (1, .int (a1)), (3, .int (a3)), (5, .int (a5)), (6, .int (a6))]) 5 dX11_take_191 rfl e23.symm (by decide) rfl ?_
      refine ev_goto (tgt := 155) dX11_take_194 rfl ?_
      refine ev_sub (ls' := [(0, .ref a0), (1, .int (a1)), (3, .int (a3)), (5, .int (a5)), (6, .int (a6)), (8, .int (v22))]) [1, 2, 3, 4, 5, 0] rfl ?_
      exact hk155 h
def s_X11_take_118 (a0 : Nat) (a1 : Int32) (a3 : Int32) (a5 : Int32) (a6 : Int32) (a7 : Int32) (t0 : Nat) (t1 : Int32) (t2 : Int32) (σ : St) : Option (Int32 × St) :=
 if isO σ 11 t0 = true then (bd (s_X11_readAll t0 t1 t2 σ) fun r27 σ25 =>
 if a5 < 0 then (some ((-4), σ25)) else (if isO σ25 11 a0 = true then (if (60 : Int32) < ((sI σ25 a0 5) + a6) then (some ((-4), σ25)) else (if ((sI σ25 a0 6) + a7) ≤ 3 then (s_X11_take_155 16000 a0 a1 a3 a5 a6 0 σ25) else (some ((-4), σ25)))) else none)) else none
set_option maxHeartbeats 4000000 in
set_option maxRecDepth 100000 in
theorem e_X11_take_118 {r : Int32} {σ' : St} : ∀ {a0 : Nat} {a1 : Int32} {a3 : Int32} {a5 : Int32} {a6 : Int32} {a7 : Int32} {t0 : Nat} {t1 : Int32} {t2 : Int32} {σ : St}, s_X11_take_118 a0 a1 a3 a5 a6 a7 t0 t1 t2 σ = some (r, σ') → Ev M_X11_take (7) 118 [(0, .ref a0), (1, .int (a1)), (3, .int (a3)), (5, .int (a5)), (6, .int (a6)), (7, .int (a7))] [.int (t2), .int (t1), .ref t0] σ (some (.int r)) σ' := by
  intro a0 a1 a3 a5 a6 a7 t0 t1 t2 σ h
  unfold s_X11_take_118 at h
  obtain ⟨g24, h⟩ := gd_some h
  obtain ⟨r27, σ25, e26, h⟩ := bd_some h
  refine ev_invVv (As := [.int (t1), .int (t2)]) (st := []) dX11_take_118 cb_X11_readAll tp_1124 tp_1126 tp_65 kf11 rfl (by omega) g24 rfl rfl (Nat.le_of_ble_eq_true rfl) (x_X11_readAll e26) ?_
  refine ev_iload 3 dX11_take_121 rfl ?_
  rcases it_some h with ⟨c28, h⟩ | ⟨c28, h⟩
  · refine ev_if_lt (tgt := 149) dX11_take_123 rfl c28 ?_
    refine ev_bipush (v := (-4)) dX11_take_149 (by decide) ?_
    exact ev_retI .int dX11_take_151 rfl rfl h
  · refine ev_if_lt_n 149 dX11_take_123 rfl c28 ?_
    refine ev_aload_nR 0 dX11_take_126 rfl ?_
    obtain ⟨g29, h⟩ := gd_some h
    refine ev_getI dX11_take_127 fl_X11_92 rfl g29 ?_
    refine ev_iload 4 dX11_take_130 rfl ?_
    refine ev_iadd dX11_take_132 ?_
    refine ev_bipush (v := 60) dX11_take_133 (by decide) ?_
    rcases it_some h with ⟨c30, h⟩ | ⟨c30, h⟩
    · refine ev_icmp_gt (tgt := 149) dX11_take_135 rfl c30 ?_
      refine ev_bipush (v := (-4)) dX11_take_149 (by decide) ?_
      exact ev_retI .int dX11_take_151 rfl rfl h
    · refine ev_icmp_gt_n 149 dX11_take_135 rfl c30 ?_
      refine ev_aload_nR 0 dX11_take_138 rfl ?_
      refine ev_getI dX11_take_139 fl_X11_126 rfl g29 ?_
      refine ev_iload 5 dX11_take_142 rfl ?_
      refine ev_iadd dX11_take_144 ?_
      refine ev_iconst (v := 3) dX11_take_145 (by decide) ?_
      rcases it_some h with ⟨c31, h⟩ | ⟨c31, h⟩
      · refine ev_icmp_le (tgt := 152) dX11_take_146 rfl c31 ?_
        refine ev_iconst (v := 0) dX11_take_152 (by decide) ?_
        refine ev_istore (ls' := [(8, .int (0)), (0, .ref a0), (1, .int (a1)), (3, .int (a3)), (5, .int (a5)), (6, .int (a6)), (7, .int (a7))]) dX11_take_153 (by decide) rfl ?_
        refine ev_sub (ls' := [(0, .ref a0), (1, .int (a1)), (3, .int (a3)), (5, .int (a5)), (6, .int (a6)), (8, .int (0))]) [1, 2, 3, 4, 5, 0] rfl ?_
        exact e_X11_take_155 16000 h
      · refine ev_icmp_le_n 152 dX11_take_146 rfl c31 ?_
        refine ev_bipush (v := (-4)) dX11_take_149 (by decide) ?_
        exact ev_retI .int dX11_take_151 rfl rfl h
def s_X11_take_86 (k59 : Nat → Int32 → Int32 → Int32 → Int32 → St → Option (Int32 × St)) (a0 : Nat) (a1 : Int32) (a3 : Int32) (a6 : Int32) (t0 : Int32) (σ : St) : Option (Int32 × St) :=
 lt (a6 + (-1) : Int32) fun v32 =>
 k59 a0 a1 a3 t0 v32 σ
set_option maxHeartbeats 4000000 in
set_option maxRecDepth 100000 in
theorem e_X11_take_86 {r : Int32} {σ' : St} {k59 : Nat → Int32 → Int32 → Int32 → Int32 → St → Option (Int32 × St)} (hk59 : ∀ {y0 : Nat} {y1 : Int32} {y2 : Int32} {y3 : Int32} {y4 : Int32} {σ : St}, k59 y0 y1 y2 y3 y4 σ = some (r, σ') → Ev M_X11_take (7) 59 [(0, .ref y0), (1, .int (y1)), (3, .int (y2)), (5, .int (y3)), (6, .int (y4))] [] σ (some (.int r)) σ') : ∀ {a0 : Nat} {a1 : Int32} {a3 : Int32} {a6 : Int32} {t0 : Int32} {σ : St}, s_X11_take_86 k59 a0 a1 a3 a6 t0 σ = some (r, σ') → Ev M_X11_take (7) 86 [(0, .ref a0), (1, .int (a1)), (3, .int (a3)), (6, .int (a6))] [.int (t0)] σ (some (.int r)) σ' := by
  intro a0 a1 a3 a6 t0 σ h
  unfold s_X11_take_86 at h
  refine ev_istore (ls' := [(5, .int (t0)), (0, .ref a0), (1, .int (a1)), (3, .int (a3)), (6, .int (a6))]) dX11_take_86 (by decide) rfl ?_
  obtain ⟨v32, e33, h⟩ := lt_some h
  refine ev_iinc (v := v32) (ls' := [(6, .int (v32)), (5, .int (t0)), (0, .ref a0), (1, .int (a1)), (3, .int (a3))]) 4 dX11_take_88 rfl e33.symm (by decide) rfl ?_
  refine ev_goto (tgt := 59) dX11_take_91 rfl ?_
  refine ev_sub (ls' := [(0, .ref a0), (1, .int (a1)), (3, .int (a3)), (5, .int (t0)), (6, .int (v32))]) [2, 3, 4, 1, 0] rfl ?_
  exact hk59 h
def sb_X11_take_59 (k59 : Nat → Int32 → Int32 → Int32 → Int32 → St → Option (Int32 × St)) (a0 : Nat) (a1 : Int32) (a3 : Int32) (a5 : Int32) (a6 : Int32) (σ : St) : Option (Int32 × St) :=
 if a6 < a1 then (if isO σ 11 a0 = true then (lt (sI σ a0 5 : Int32) fun v36 =>
 lt (sI σ a0 6 : Int32) fun v38 =>
 if a3 = 0 then (s_X11_take_118 a0 a1 a3 a5 v36 v38 a0 0 ((-6)) σ) else (s_X11_take_118 a0 a1 a3 a5 v36 v38 a0 0 0 σ)) else none) else (if a3 = 0 then (if isO σ 11 a0 = true then (op (sP σ a0 1) fun p43 =>
 if isO σ 13 p43 = true then (if inR a6 (alen σ p43) = true then (if (0 : Int32) ≤ (sI σ p43 a6.toNatClampNeg) then (s_X11_take_86 k59 a0 a1 a3 a6 a5 σ) else (s_X11_take_86 k59 a0 a1 a3 a6 a6 σ)) else none) else none) else none) else (s_X11_take_86 k59 a0 a1 a3 a6 a6 σ))
def s_X11_take_59 (F : Nat) : Nat → Int32 → Int32 → Int32 → Int32 → St → Option (Int32 × St) := lp (fun _ _ _ _ _ _ => none) (sb_X11_take_59 ) F
set_option maxHeartbeats 4000000 in
set_option maxRecDepth 100000 in
theorem e_X11_take_59 {r : Int32} {σ' : St} (F : Nat) : ∀ {a0 : Nat} {a1 : Int32} {a3 : Int32} {a5 : Int32} {a6 : Int32} {σ : St}, s_X11_take_59 F a0 a1 a3 a5 a6 σ = some (r, σ') → Ev M_X11_take (7) 59 [(0, .ref a0), (1, .int (a1)), (3, .int (a3)), (5, .int (a5)), (6, .int (a6))] [] σ (some (.int r)) σ' := by
  induction F with
  | zero => intro a0 a1 a3 a5 a6 σ h; cases h
  | succ F ih =>
    intro a0 a1 a3 a5 a6 σ h
    change sb_X11_take_59  (s_X11_take_59 F) a0 a1 a3 a5 a6 σ = some (r, σ') at h
    unfold sb_X11_take_59 at h
    have hk59 := @ih
    refine ev_iload 4 dX11_take_59 rfl ?_
    refine ev_iload_n 1 dX11_take_61 rfl ?_
    rcases it_some h with ⟨c34, h⟩ | ⟨c34, h⟩
    · refine ev_icmp_lt (tgt := 94) dX11_take_62 rfl c34 ?_
      refine ev_aload_nR 0 dX11_take_94 rfl ?_
      obtain ⟨g35, h⟩ := gd_some h
      refine ev_getI dX11_take_95 fl_X11_92 rfl g35 ?_
      obtain ⟨v36, e37, h⟩ := lt_some h
      refine ev_topI e37 ?_
      refine ev_istore (ls' := [(6, .int (v36)), (0, .ref a0), (1, .int (a1)), (3, .int (a3)), (5, .int (a5))]) dX11_take_98 (by decide) rfl ?_
      refine ev_aload_nR 1 dX11_take_100 rfl ?_
      refine ev_getI dX11_take_101 fl_X11_126 rfl g35 ?_
      obtain ⟨v38, e39, h⟩ := lt_some h
      refine ev_topI e39 ?_
      refine ev_istore (ls' := [(7, .int (v38)), (6, .int (v36)), (0, .ref a0), (1, .int (a1)), (3, .int (a3)), (5, .int (a5))]) dX11_take_104 (by decide) rfl ?_
      refine ev_aload_nR 2 dX11_take_106 rfl ?_
      refine ev_iconst (v := 0) dX11_take_107 (by decide) ?_
      refine ev_iload_n 4 dX11_take_108 rfl ?_
      rcases it_some h with ⟨c40, h⟩ | ⟨c40, h⟩
      · refine ev_if_eq (tgt := 116) dX11_take_109 rfl c40 ?_
        refine ev_bipush (v := (-6)) dX11_take_116 (by decide) ?_
        refine ev_sub (ls' := [(0, .ref a0), (1, .int (a1)), (3, .int (a3)), (5, .int (a5)), (6, .int (v36)), (7, .int (v38))]) [2, 3, 4, 5, 1, 0] rfl ?_
        exact e_X11_take_118  h
      · refine ev_if_eq_n 116 dX11_take_109 rfl c40 ?_
        refine ev_iconst (v := 0) dX11_take_112 (by decide) ?_
        refine ev_goto (tgt := 118) dX11_take_113 rfl ?_
        refine ev_sub (ls' := [(0, .ref a0), (1, .int (a1)), (3, .int (a3)), (5, .int (a5)), (6, .int (v36)), (7, .int (v38))]) [2, 3, 4, 5, 1, 0] rfl ?_
        exact e_X11_take_118  h
    · refine ev_icmp_lt_n 94 dX11_take_62 rfl c34 ?_
      refine ev_iload_n 2 dX11_take_65 rfl ?_
      rcases it_some h with ⟨c41, h⟩ | ⟨c41, h⟩
      · refine ev_if_ne_n 79 dX11_take_66 rfl c41 ?_
        refine ev_aload_nR 0 dX11_take_69 rfl ?_
        obtain ⟨g42, h⟩ := gd_some h
        obtain ⟨p43, e44, h⟩ := op_some h
        refine ev_getPR dX11_take_70 fl_X11_13 rfl g42 e44 ?_
        refine ev_iload 4 dX11_take_73 rfl ?_
        obtain ⟨g45, h⟩ := gd_some h
        obtain ⟨g46, h⟩ := gd_some h
        refine ev_iald dX11_take_75 (isA_O g45) g46 ?_
        rcases it_some h with ⟨c47, h⟩ | ⟨c47, h⟩
        · refine ev_if_ge (tgt := 84) dX11_take_76 rfl c47 ?_
          refine ev_iload 3 dX11_take_84 rfl ?_
          refine ev_sub (ls' := [(0, .ref a0), (1, .int (a1)), (3, .int (a3)), (6, .int (a6))]) [0, 1, 2, 4] rfl ?_
          exact e_X11_take_86 hk59 h
        · refine ev_if_ge_n 84 dX11_take_76 rfl c47 ?_
          refine ev_iload 4 dX11_take_79 rfl ?_
          refine ev_goto (tgt := 86) dX11_take_81 rfl ?_
          refine ev_sub (ls' := [(0, .ref a0), (1, .int (a1)), (3, .int (a3)), (6, .int (a6))]) [0, 1, 2, 4] rfl ?_
          exact e_X11_take_86 hk59 h
      · refine ev_if_ne (tgt := 79) dX11_take_66 rfl c41 ?_
        refine ev_iload 4 dX11_take_79 rfl ?_
        refine ev_goto (tgt := 86) dX11_take_81 rfl ?_
        refine ev_sub (ls' := [(0, .ref a0), (1, .int (a1)), (3, .int (a3)), (6, .int (a6))]) [0, 1, 2, 4] rfl ?_
        exact e_X11_take_86 hk59 h
def s_X11_take_33 (a0 : Nat) (a1 : Int32) (a2 : Int32) (a3 : Int32) (t0 : Nat) (t1 : Int32) (t2 : Int32) (σ : St) : Option (Int32 × St) :=
 if isO σ 11 t0 = true then (bd (s_X11_read t0 t1 t2 σ) fun r51 σ49 =>
 if r51 < 0 then (s_X11_take_59 16000 a0 a1 a3 ((-6)) a2 σ49) else (if isO σ49 11 a0 = true then (lt (setI σ49 a0 2 r51) fun σ54 =>
 some ((-7), σ54)) else none)) else none
set_option maxHeartbeats 4000000 in
set_option maxRecDepth 100000 in
theorem e_X11_take_33 {r : Int32} {σ' : St} : ∀ {a0 : Nat} {a1 : Int32} {a2 : Int32} {a3 : Int32} {t0 : Nat} {t1 : Int32} {t2 : Int32} {σ : St}, s_X11_take_33 a0 a1 a2 a3 t0 t1 t2 σ = some (r, σ') → Ev M_X11_take (7) 33 [(0, .ref a0), (1, .int (a1)), (2, .int (a2)), (3, .int (a3))] [.int (t2), .int (t1), .ref t0] σ (some (.int r)) σ' := by
  intro a0 a1 a2 a3 t0 t1 t2 σ h
  unfold s_X11_take_33 at h
  obtain ⟨g48, h⟩ := gd_some h
  obtain ⟨r51, σ49, e50, h⟩ := bd_some h
  refine ev_invVi (As := [.int (t1), .int (t2)]) (st := []) dX11_take_33 cb_X11_read tp_1081 tp_1083 tp_55 kf11 rfl (by omega) g48 rfl rfl (Nat.le_of_ble_eq_true rfl) (x_X11_read e50) ?_
  refine ev_istore (ls' := [(4, .int (r51)), (0, .ref a0), (1, .int (a1)), (2, .int (a2)), (3, .int (a3))]) dX11_take_36 (by decide) rfl ?_
  refine ev_iload 0 dX11_take_38 rfl ?_
  rcases it_some h with ⟨c52, h⟩ | ⟨c52, h⟩
  · refine ev_if_lt (tgt := 52) dX11_take_40 rfl c52 ?_
    refine ev_bipush (v := (-6)) dX11_take_52 (by decide) ?_
    refine ev_istore (ls' := [(5, .int ((-6))), (4, .int (r51)), (0, .ref a0), (1, .int (a1)), (2, .int (a2)), (3, .int (a3))]) dX11_take_54 (by decide) rfl ?_
    refine ev_iload_n 4 dX11_take_56 rfl ?_
    refine ev_istore (ls' := [(6, .int (a2)), (5, .int ((-6))), (4, .int (r51)), (0, .ref a0), (1, .int (a1)), (2, .int (a2)), (3, .int (a3))]) dX11_take_57 (by decide) rfl ?_
    refine ev_sub (ls' := [(0, .ref a0), (1, .int (a1)), (3, .int (a3)), (5, .int (((-6)))), (6, .int (a2))]) [3, 4, 6, 1, 0] rfl ?_
    exact e_X11_take_59 16000 h
  · refine ev_if_lt_n 52 dX11_take_40 rfl c52 ?_
    refine ev_aload_nR 1 dX11_take_43 rfl ?_
    refine ev_iload 0 dX11_take_44 rfl ?_
    obtain ⟨g53, h⟩ := gd_some h
    obtain ⟨σ54, e55, h⟩ := lt_some h
    refine ev_putI dX11_take_46 fl_X11_16 rfl (Or.inl rfl) g53 ⟨rfl, rfl⟩ ?_
    refine ev_st e55 ?_
    refine ev_bipush (v := (-7)) dX11_take_49 (by decide) ?_
    exact ev_retI .int dX11_take_51 rfl rfl h
def s_X11_take (a0 : Nat) (a1 : Int32) (a2 : Int32) (a3 : Int32) (σ : St) : Option (Int32 × St) :=
 if isO σ 11 a0 = true then (lt (setI σ a0 21 1) fun σ57 =>
 lt (setI σ57 a0 5 0) fun σ59 =>
 lt (setI σ59 a0 6 0) fun σ61 =>
 lt (setI σ61 a0 20 0) fun σ63 =>
 if a3 = 0 then (s_X11_take_33 a0 a1 a2 a3 a0 10 0 σ63) else (s_X11_take_33 a0 a1 a2 a3 a0 10 ((-6)) σ63)) else none
set_option maxHeartbeats 4000000 in
set_option maxRecDepth 100000 in
theorem x_X11_take {a0 : Nat} {a1 : Int32} {a2 : Int32} {a3 : Int32} {σ : St} {r : Int32} {σ' : St} (h : s_X11_take a0 a1 a2 a3 σ = some (r, σ')) : Ex M_X11_take (7) [.ref a0, .int (a1), .int (a2), .int (a3)] σ (some (.int r)) σ' := by
  unfold s_X11_take at h
  refine ex_of (by decide) rfl (Nat.le_of_ble_eq_true rfl) ?_
  show Ev _ _ 0 [(0, .ref a0), (1, .int (a1)), (2, .int (a2)), (3, .int (a3))] [] _ _ _
  refine ev_aload_nR 0 dX11_take_0 rfl ?_
  refine ev_iconst (v := 1) dX11_take_1 (by decide) ?_
  obtain ⟨g56, h⟩ := gd_some h
  obtain ⟨σ57, e58, h⟩ := lt_some h
  refine ev_putI dX11_take_2 fl_X11_53 rfl (Or.inl rfl) g56 ⟨rfl, rfl⟩ ?_
  refine ev_st e58 ?_
  refine ev_aload_nR 0 dX11_take_5 rfl ?_
  refine ev_iconst (v := 0) dX11_take_6 (by decide) ?_
  obtain ⟨σ59, e60, h⟩ := lt_some h
  refine ev_putI dX11_take_7 fl_X11_92 rfl (Or.inl rfl) (isO_I e58 g56) ⟨rfl, rfl⟩ ?_
  refine ev_st e60 ?_
  refine ev_aload_nR 0 dX11_take_10 rfl ?_
  refine ev_iconst (v := 0) dX11_take_11 (by decide) ?_
  obtain ⟨σ61, e62, h⟩ := lt_some h
  refine ev_putI dX11_take_12 fl_X11_126 rfl (Or.inl rfl) (isO_I e60 (isO_I e58 g56)) ⟨rfl, rfl⟩ ?_
  refine ev_st e62 ?_
  refine ev_aload_nR 0 dX11_take_15 rfl ?_
  refine ev_iconst (v := 0) dX11_take_16 (by decide) ?_
  obtain ⟨σ63, e64, h⟩ := lt_some h
  refine ev_putI dX11_take_17 fl_X11_95 rfl (Or.inl rfl) (isO_I e62 (isO_I e60 (isO_I e58 g56))) ⟨rfl, rfl⟩ ?_
  refine ev_st e64 ?_
  refine ev_aload_nR 0 dX11_take_20 rfl ?_
  refine ev_bipush (v := 10) dX11_take_21 (by decide) ?_
  refine ev_iload_n 3 dX11_take_23 rfl ?_
  rcases it_some h with ⟨c65, h⟩ | ⟨c65, h⟩
  · refine ev_if_eq (tgt := 32) dX11_take_24 rfl c65 ?_
    refine ev_iconst (v := 0) dX11_take_32 (by decide) ?_
    refine ev_sub (ls' := [(0, .ref a0), (1, .int (a1)), (2, .int (a2)), (3, .int (a3))]) [0, 1, 2, 3] rfl ?_
    exact e_X11_take_33  h
  · refine ev_if_eq_n 32 dX11_take_24 rfl c65 ?_
    refine ev_bipush (v := (-6)) dX11_take_27 (by decide) ?_
    refine ev_goto (tgt := 33) dX11_take_29 rfl ?_
    refine ev_sub (ls' := [(0, .ref a0), (1, .int (a1)), (2, .int (a2)), (3, .int (a3))]) [0, 1, 2, 3] rfl ?_
    exact e_X11_take_33  h
def s_X11_resource (a0 : Nat) (σ : St) : Option (Int32 × St) :=
 if isO σ 11 a0 = true then (bd (s_X11_take a0 1 5 0 σ) fun r4 σ2 =>
 some (r4, σ2)) else none
set_option maxHeartbeats 4000000 in
set_option maxRecDepth 100000 in
theorem x_X11_resource {a0 : Nat} {σ : St} {r : Int32} {σ' : St} (h : s_X11_resource a0 σ = some (r, σ')) : Ex M_X11_resource (8) [.ref a0] σ (some (.int r)) σ' := by
  unfold s_X11_resource at h
  refine ex_of (by decide) rfl (Nat.le_of_ble_eq_true rfl) ?_
  show Ev _ _ 0 [(0, .ref a0)] [] _ _ _
  refine ev_aload_nR 0 dX11_resource_0 rfl ?_
  refine ev_iconst (v := 1) dX11_resource_1 (by decide) ?_
  refine ev_iconst (v := 5) dX11_resource_2 (by decide) ?_
  refine ev_iconst (v := 0) dX11_resource_3 (by decide) ?_
  obtain ⟨g1, h⟩ := gd_some h
  obtain ⟨r4, σ2, e3, h⟩ := bd_some h
  refine ev_invVi (As := [.int (1), .int (5), .int (0)]) (st := []) dX11_resource_4 cb_X11_take tp_1077 tp_1079 tp_54 kf11 rfl (by omega) g1 rfl rfl (Nat.le_of_ble_eq_true rfl) (x_X11_take e3) ?_
  exact ev_retI .int dX11_resource_7 rfl rfl h
def s_X11_well (a0 : Nat) (σ : St) : Option (Int32 × St) :=
 if isO σ 11 a0 = true then (bd (s_X11_take a0 6 9 0 σ) fun r4 σ2 =>
 some (r4, σ2)) else none
set_option maxHeartbeats 4000000 in
set_option maxRecDepth 100000 in
theorem x_X11_well {a0 : Nat} {σ : St} {r : Int32} {σ' : St} (h : s_X11_well a0 σ = some (r, σ')) : Ex M_X11_well (8) [.ref a0] σ (some (.int r)) σ' := by
  unfold s_X11_well at h
  refine ex_of (by decide) rfl (Nat.le_of_ble_eq_true rfl) ?_
  show Ev _ _ 0 [(0, .ref a0)] [] _ _ _
  refine ev_aload_nR 0 dX11_well_0 rfl ?_
  refine ev_bipush (v := 6) dX11_well_1 (by decide) ?_
  refine ev_bipush (v := 9) dX11_well_3 (by decide) ?_
  refine ev_iconst (v := 0) dX11_well_5 (by decide) ?_
  obtain ⟨g1, h⟩ := gd_some h
  obtain ⟨r4, σ2, e3, h⟩ := bd_some h
  refine ev_invVi (As := [.int (6), .int (9), .int (0)]) (st := []) dX11_well_6 cb_X11_take tp_1077 tp_1079 tp_54 kf11 rfl (by omega) g1 rfl rfl (Nat.le_of_ble_eq_true rfl) (x_X11_take e3) ?_
  exact ev_retI .int dX11_well_9 rfl rfl h
def s_X11_goal (a0 : Nat) (σ : St) : Option (Int32 × St) :=
 if isO σ 11 a0 = true then (bd (s_X11_take a0 0 0 1 σ) fun r4 σ2 =>
 some (r4, σ2)) else none
set_option maxHeartbeats 4000000 in
set_option maxRecDepth 100000 in
theorem x_X11_goal {a0 : Nat} {σ : St} {r : Int32} {σ' : St} (h : s_X11_goal a0 σ = some (r, σ')) : Ex M_X11_goal (8) [.ref a0] σ (some (.int r)) σ' := by
  unfold s_X11_goal at h
  refine ex_of (by decide) rfl (Nat.le_of_ble_eq_true rfl) ?_
  show Ev _ _ 0 [(0, .ref a0)] [] _ _ _
  refine ev_aload_nR 0 dX11_goal_0 rfl ?_
  refine ev_iconst (v := 0) dX11_goal_1 (by decide) ?_
  refine ev_iconst (v := 0) dX11_goal_2 (by decide) ?_
  refine ev_iconst (v := 1) dX11_goal_3 (by decide) ?_
  obtain ⟨g1, h⟩ := gd_some h
  obtain ⟨r4, σ2, e3, h⟩ := bd_some h
  refine ev_invVi (As := [.int (0), .int (0), .int (1)]) (st := []) dX11_goal_4 cb_X11_take tp_1077 tp_1079 tp_54 kf11 rfl (by omega) g1 rfl rfl (Nat.le_of_ble_eq_true rfl) (x_X11_take e3) ?_
  exact ev_retI .int dX11_goal_7 rfl rfl h
def s_X11_fault (a0 : Nat) (σ : St) : Option (Int32 × St) :=
 if isO σ 11 a0 = true then (some (sI σ a0 2, σ)) else none
set_option maxHeartbeats 4000000 in
set_option maxRecDepth 100000 in
theorem x_X11_fault {a0 : Nat} {σ : St} {r : Int32} {σ' : St} (h : s_X11_fault a0 σ = some (r, σ')) : Ex M_X11_fault (1) [.ref a0] σ (some (.int r)) σ' := by
  unfold s_X11_fault at h
  refine ex_of (by decide) rfl (Nat.le_of_ble_eq_true rfl) ?_
  show Ev _ _ 0 [(0, .ref a0)] [] _ _ _
  refine ev_aload_nR 0 dX11_fault_0 rfl ?_
  obtain ⟨g1, h⟩ := gd_some h
  refine ev_getI dX11_fault_1 fl_X11_16 rfl g1 ?_
  exact ev_retI .int dX11_fault_4 rfl rfl h
def s_X11_there_32 (k5 : Nat → Int32 → Int32 → Int32 → Int32 → St → Option (Int32 × St)) (a0 : Nat) (a1 : Int32) (a2 : Int32) (a4 : Int32) (t0 : Int32) (t1 : Int32) (σ : St) : Option (Int32 × St) :=
 lt (t0 ||| t1 : Int32) fun v1 =>
 lt (a4 + 1 : Int32) fun v3 =>
 k5 a0 a1 a2 v1 v3 σ
set_option maxHeartbeats 4000000 in
set_option maxRecDepth 100000 in
theorem e_X11_there_32 {r : Int32} {σ' : St} {k5 : Nat → Int32 → Int32 → Int32 → Int32 → St → Option (Int32 × St)} (hk5 : ∀ {y0 : Nat} {y1 : Int32} {y2 : Int32} {y3 : Int32} {y4 : Int32} {σ : St}, k5 y0 y1 y2 y3 y4 σ = some (r, σ') → Ev M_X11_there (1) 5 [(0, .ref y0), (1, .int (y1)), (2, .int (y2)), (3, .int (y3)), (4, .int (y4))] [] σ (some (.int r)) σ') : ∀ {a0 : Nat} {a1 : Int32} {a2 : Int32} {a4 : Int32} {t0 : Int32} {t1 : Int32} {σ : St}, s_X11_there_32 k5 a0 a1 a2 a4 t0 t1 σ = some (r, σ') → Ev M_X11_there (1) 32 [(0, .ref a0), (1, .int (a1)), (2, .int (a2)), (4, .int (a4))] [.int (t1), .int (t0)] σ (some (.int r)) σ' := by
  intro a0 a1 a2 a4 t0 t1 σ h
  unfold s_X11_there_32 at h
  refine ev_ior dX11_there_32 ?_
  obtain ⟨v1, e2, h⟩ := lt_some h
  refine ev_topI e2 ?_
  refine ev_istore_n (ls' := [(3, .int (v1)), (0, .ref a0), (1, .int (a1)), (2, .int (a2)), (4, .int (a4))]) dX11_there_33 (by decide) rfl ?_
  obtain ⟨v3, e4, h⟩ := lt_some h
  refine ev_iinc (v := v3) (ls' := [(4, .int (v3)), (3, .int (v1)), (0, .ref a0), (1, .int (a1)), (2, .int (a2))]) 4 dX11_there_34 rfl e4.symm (by decide) rfl ?_
  refine ev_goto (tgt := 5) dX11_there_37 rfl ?_
  refine ev_sub (ls' := [(0, .ref a0), (1, .int (a1)), (2, .int (a2)), (3, .int (v1)), (4, .int (v3))]) [2, 3, 4, 1, 0] rfl ?_
  exact hk5 h
def sb_X11_there_5 (k5 : Nat → Int32 → Int32 → Int32 → Int32 → St → Option (Int32 × St)) (a0 : Nat) (a1 : Int32) (a2 : Int32) (a3 : Int32) (a4 : Int32) (σ : St) : Option (Int32 × St) :=
 if a2 < a4 then (some (a3, σ)) else (if isO σ 11 a0 = true then (op (sP σ a0 1) fun p7 =>
 if isO σ 13 p7 = true then (if inR a4 (alen σ p7) = true then (if (sI σ p7 a4.toNatClampNeg) < 0 then (s_X11_there_32 k5 a0 a1 a2 a4 a3 0 σ) else (s_X11_there_32 k5 a0 a1 a2 a4 a3 (1 <<< ((a4 - a1) &&& 31)) σ)) else none) else none) else none)
def s_X11_there_5 (F : Nat) : Nat → Int32 → Int32 → Int32 → Int32 → St → Option (Int32 × St) := lp (fun _ _ _ _ _ _ => none) (sb_X11_there_5 ) F
set_option maxHeartbeats 4000000 in
set_option maxRecDepth 100000 in
theorem e_X11_there_5 {r : Int32} {σ' : St} (F : Nat) : ∀ {a0 : Nat} {a1 : Int32} {a2 : Int32} {a3 : Int32} {a4 : Int32} {σ : St}, s_X11_there_5 F a0 a1 a2 a3 a4 σ = some (r, σ') → Ev M_X11_there (1) 5 [(0, .ref a0), (1, .int (a1)), (2, .int (a2)), (3, .int (a3)), (4, .int (a4))] [] σ (some (.int r)) σ' := by
  induction F with
  | zero => intro a0 a1 a2 a3 a4 σ h; cases h
  | succ F ih =>
    intro a0 a1 a2 a3 a4 σ h
    change sb_X11_there_5  (s_X11_there_5 F) a0 a1 a2 a3 a4 σ = some (r, σ') at h
    unfold sb_X11_there_5 at h
    have hk5 := @ih
    refine ev_iload 4 dX11_there_5 rfl ?_
    refine ev_iload_n 2 dX11_there_7 rfl ?_
    rcases it_some h with ⟨c5, h⟩ | ⟨c5, h⟩
    · refine ev_icmp_gt (tgt := 40) dX11_there_8 rfl c5 ?_
      refine ev_iload_n 3 dX11_there_40 rfl ?_
      exact ev_retI .int dX11_there_41 rfl rfl h
    · refine ev_icmp_gt_n 40 dX11_there_8 rfl c5 ?_
      refine ev_iload_n 3 dX11_there_11 rfl ?_
      refine ev_aload_nR 0 dX11_there_12 rfl ?_
      obtain ⟨g6, h⟩ := gd_some h
      obtain ⟨p7, e8, h⟩ := op_some h
      refine ev_getPR dX11_there_13 fl_X11_13 rfl g6 e8 ?_
      refine ev_iload 4 dX11_there_16 rfl ?_
      obtain ⟨g9, h⟩ := gd_some h
      obtain ⟨g10, h⟩ := gd_some h
      refine ev_iald dX11_there_18 (isA_O g9) g10 ?_
      rcases it_some h with ⟨c11, h⟩ | ⟨c11, h⟩
      · refine ev_if_lt (tgt := 31) dX11_there_19 rfl c11 ?_
        refine ev_iconst (v := 0) dX11_there_31 (by decide) ?_
        refine ev_sub (ls' := [(0, .ref a0), (1, .int (a1)), (2, .int (a2)), (4, .int (a4))]) [0, 1, 2, 4] rfl ?_
        exact e_X11_there_32 hk5 h
      · refine ev_if_lt_n 31 dX11_there_19 rfl c11 ?_
        refine ev_iconst (v := 1) dX11_there_22 (by decide) ?_
        refine ev_iload 4 dX11_there_23 rfl ?_
        refine ev_iload_n 1 dX11_there_25 rfl ?_
        refine ev_isub dX11_there_26 ?_
        refine ev_ishl dX11_there_27 ?_
        refine ev_goto (tgt := 32) dX11_there_28 rfl ?_
        refine ev_sub (ls' := [(0, .ref a0), (1, .int (a1)), (2, .int (a2)), (4, .int (a4))]) [0, 1, 2, 4] rfl ?_
        exact e_X11_there_32 hk5 h
def s_X11_there (a0 : Nat) (a1 : Int32) (a2 : Int32) (σ : St) : Option (Int32 × St) :=
 s_X11_there_5 16000 a0 a1 a2 0 a1 σ
set_option maxHeartbeats 4000000 in
set_option maxRecDepth 100000 in
theorem x_X11_there {a0 : Nat} {a1 : Int32} {a2 : Int32} {σ : St} {r : Int32} {σ' : St} (h : s_X11_there a0 a1 a2 σ = some (r, σ')) : Ex M_X11_there (1) [.ref a0, .int (a1), .int (a2)] σ (some (.int r)) σ' := by
  unfold s_X11_there at h
  refine ex_of (by decide) rfl (Nat.le_of_ble_eq_true rfl) ?_
  show Ev _ _ 0 [(0, .ref a0), (1, .int (a1)), (2, .int (a2))] [] _ _ _
  refine ev_iconst (v := 0) dX11_there_0 (by decide) ?_
  refine ev_istore_n (ls' := [(3, .int (0)), (0, .ref a0), (1, .int (a1)), (2, .int (a2))]) dX11_there_1 (by decide) rfl ?_
  refine ev_iload_n 2 dX11_there_2 rfl ?_
  refine ev_istore (ls' := [(4, .int (a1)), (3, .int (0)), (0, .ref a0), (1, .int (a1)), (2, .int (a2))]) dX11_there_3 (by decide) rfl ?_
  refine ev_sub (ls' := [(0, .ref a0), (1, .int (a1)), (2, .int (a2)), (3, .int (0)), (4, .int (a1))]) [2, 3, 4, 1, 0] rfl ?_
  exact e_X11_there_5 16000 h
def sb_X11_bits_4 (k4 : Int32 → Int32 → Int32 → St → Option (Int32 × St)) (a0 : Int32) (a1 : Int32) (a2 : Int32) (σ : St) : Option (Int32 × St) :=
 if (12 : Int32) ≤ a2 then (some (a1, σ)) else (lt (a1 + ((a0 >>> (a2 &&& 31)) &&& 1) : Int32) fun v2 =>
 lt (a2 + 1 : Int32) fun v4 =>
 k4 a0 v2 v4 σ)
def s_X11_bits_4 (F : Nat) : Int32 → Int32 → Int32 → St → Option (Int32 × St) := lp (fun _ _ _ _ => none) (sb_X11_bits_4 ) F
set_option maxHeartbeats 4000000 in
set_option maxRecDepth 100000 in
theorem e_X11_bits_4 {r : Int32} {σ' : St} (F : Nat) : ∀ {a0 : Int32} {a1 : Int32} {a2 : Int32} {σ : St}, s_X11_bits_4 F a0 a1 a2 σ = some (r, σ') → Ev M_X11_bits (1) 4 [(0, .int (a0)), (1, .int (a1)), (2, .int (a2))] [] σ (some (.int r)) σ' := by
  induction F with
  | zero => intro a0 a1 a2 σ h; cases h
  | succ F ih =>
    intro a0 a1 a2 σ h
    change sb_X11_bits_4  (s_X11_bits_4 F) a0 a1 a2 σ = some (r, σ') at h
    unfold sb_X11_bits_4 at h
    have hk4 := @ih
    refine ev_iload_n 2 dX11_bits_4 rfl ?_
    refine ev_bipush (v := 12) dX11_bits_5 (by decide) ?_
    rcases it_some h with ⟨c1, h⟩ | ⟨c1, h⟩
    · refine ev_icmp_ge (tgt := 24) dX11_bits_7 rfl c1 ?_
      refine ev_iload_n 1 dX11_bits_24 rfl ?_
      exact ev_retI .int dX11_bits_25 rfl rfl h
    · refine ev_icmp_ge_n 24 dX11_bits_7 rfl c1 ?_
      refine ev_iload_n 1 dX11_bits_10 rfl ?_
      refine ev_iload_n 0 dX11_bits_11 rfl ?_
      refine ev_iload_n 2 dX11_bits_12 rfl ?_
      refine ev_ishr dX11_bits_13 ?_
      refine ev_iconst (v := 1) dX11_bits_14 (by decide) ?_
      refine ev_iand dX11_bits_15 ?_
      refine ev_iadd dX11_bits_16 ?_
      obtain ⟨v2, e3, h⟩ := lt_some h
      refine ev_topI e3 ?_
      refine ev_istore_n (ls' := [(1, .int (v2)), (0, .int (a0)), (2, .int (a2))]) dX11_bits_17 (by decide) rfl ?_
      obtain ⟨v4, e5, h⟩ := lt_some h
      refine ev_iinc (v := v4) (ls' := [(2, .int (v4)), (1, .int (v2)), (0, .int (a0))]) 2 dX11_bits_18 rfl e5.symm (by decide) rfl ?_
      refine ev_goto (tgt := 4) dX11_bits_21 rfl ?_
      refine ev_sub (ls' := [(0, .int (a0)), (1, .int (v2)), (2, .int (v4))]) [2, 1, 0] rfl ?_
      exact hk4 h
def s_X11_bits (a0 : Int32) (σ : St) : Option (Int32 × St) :=
 s_X11_bits_4 16000 a0 0 0 σ
set_option maxHeartbeats 4000000 in
set_option maxRecDepth 100000 in
theorem x_X11_bits {a0 : Int32} {σ : St} {r : Int32} {σ' : St} (h : s_X11_bits a0 σ = some (r, σ')) : Ex M_X11_bits (1) [.int (a0)] σ (some (.int r)) σ' := by
  unfold s_X11_bits at h
  refine ex_of (by decide) rfl (Nat.le_of_ble_eq_true rfl) ?_
  show Ev _ _ 0 [(0, .int (a0))] [] _ _ _
  refine ev_iconst (v := 0) dX11_bits_0 (by decide) ?_
  refine ev_istore_n (ls' := [(1, .int (0)), (0, .int (a0))]) dX11_bits_1 (by decide) rfl ?_
  refine ev_iconst (v := 0) dX11_bits_2 (by decide) ?_
  refine ev_istore_n (ls' := [(2, .int (0)), (1, .int (0)), (0, .int (a0))]) dX11_bits_3 (by decide) rfl ?_
  refine ev_sub (ls' := [(0, .int (a0)), (1, .int (0)), (2, .int (0))]) [2, 1, 0] rfl ?_
  exact e_X11_bits_4 16000 h
def s_X11_drop_108 (a0 : Nat) (a1 : Int32) (t0 : Nat) (t1 : Int32) (σ : St) : Option (Int32 × St) :=
 if isO σ 13 t0 = true then (if inR t1 (alen σ t0) = true then (lt (setI σ t0 t1.toNatClampNeg ((-6))) fun σ3 =>
 if isO σ3 11 a0 = true then (lt (setI σ3 a0 21 1) fun σ6 =>
 if a1 = 0 then (bd (s_X11_there a0 1 5 σ6) fun r18 σ16 =>
 bd (s_X11_bits r18 σ16) fun r21 σ19 =>
 some (r21, σ19)) else (if a1 = 1 then (bd (s_X11_there a0 6 9 σ6) fun r12 σ10 =>
 bd (s_X11_bits r12 σ10) fun r15 σ13 =>
 some (r15, σ13)) else (some (0, σ6)))) else none) else none) else none
set_option maxHeartbeats 4000000 in
set_option maxRecDepth 100000 in
theorem e_X11_drop_108 {r : Int32} {σ' : St} : ∀ {a0 : Nat} {a1 : Int32} {t0 : Nat} {t1 : Int32} {σ : St}, s_X11_drop_108 a0 a1 t0 t1 σ = some (r, σ') → Ev M_X11_drop (2) 108 [(0, .ref a0), (1, .int (a1))] [.int (t1), .ref t0] σ (some (.int r)) σ' := by
  intro a0 a1 t0 t1 σ h
  unfold s_X11_drop_108 at h
  refine ev_bipush (v := (-6)) dX11_drop_108 (by decide) ?_
  obtain ⟨g1, h⟩ := gd_some h
  obtain ⟨g2, h⟩ := gd_some h
  obtain ⟨σ3, e4, h⟩ := lt_some h
  refine ev_iast dX11_drop_110 (isO_spec g1).1 (isA_O g1) g2 ?_
  refine ev_st e4 ?_
  refine ev_aload_nR 0 dX11_drop_111 rfl ?_
  refine ev_iconst (v := 1) dX11_drop_112 (by decide) ?_
  obtain ⟨g5, h⟩ := gd_some h
  obtain ⟨σ6, e7, h⟩ := lt_some h
  refine ev_putI dX11_drop_113 fl_X11_53 rfl (Or.inl rfl) g5 ⟨rfl, rfl⟩ ?_
  refine ev_st e7 ?_
  refine ev_iload_n 1 dX11_drop_116 rfl ?_
  rcases it_some h with ⟨c8, h⟩ | ⟨c8, h⟩
  · refine ev_if_ne_n 132 dX11_drop_117 rfl c8 ?_
    refine ev_aload_nR 0 dX11_drop_120 rfl ?_
    refine ev_iconst (v := 1) dX11_drop_121 (by decide) ?_
    refine ev_iconst (v := 5) dX11_drop_122 (by decide) ?_
    obtain ⟨r18, σ16, e17, h⟩ := bd_some h
    refine ev_invVi (As := [.int (1), .int (5)]) (st := []) dX11_drop_123 cb_X11_there tp_1147 tp_1149 tp_66 kf11 rfl (by omega) (isO_I e7 g5) rfl rfl (Nat.le_of_ble_eq_true rfl) (x_X11_there e17) ?_
    obtain ⟨r21, σ19, e20, h⟩ := bd_some h
    refine ev_invSi (As := [.int (r18)]) (st := []) dX11_drop_126 cb_X11_bits tp_1151 tp_1152 (by omega) rfl rfl (Nat.le_of_ble_eq_true rfl) (x_X11_bits e20) ?_
    refine ev_goto (tgt := 152) dX11_drop_129 rfl ?_
    exact ev_retI .int dX11_drop_152 rfl rfl h
  · refine ev_if_ne (tgt := 132) dX11_drop_117 rfl c8 ?_
    refine ev_iload_n 1 dX11_drop_132 rfl ?_
    refine ev_iconst (v := 1) dX11_drop_133 (by decide) ?_
    rcases it_some h with ⟨c9, h⟩ | ⟨c9, h⟩
    · refine ev_icmp_ne_n 151 dX11_drop_134 rfl c9 ?_
      refine ev_aload_nR 0 dX11_drop_137 rfl ?_
      refine ev_bipush (v := 6) dX11_drop_138 (by decide) ?_
      refine ev_bipush (v := 9) dX11_drop_140 (by decide) ?_
      obtain ⟨r12, σ10, e11, h⟩ := bd_some h
      refine ev_invVi (As := [.int (6), .int (9)]) (st := []) dX11_drop_142 cb_X11_there tp_1147 tp_1149 tp_66 kf11 rfl (by omega) (isO_I e7 g5) rfl rfl (Nat.le_of_ble_eq_true rfl) (x_X11_there e11) ?_
      obtain ⟨r15, σ13, e14, h⟩ := bd_some h
      refine ev_invSi (As := [.int (r12)]) (st := []) dX11_drop_145 cb_X11_bits tp_1151 tp_1152 (by omega) rfl rfl (Nat.le_of_ble_eq_true rfl) (x_X11_bits e14) ?_
      refine ev_goto (tgt := 152) dX11_drop_148 rfl ?_
      exact ev_retI .int dX11_drop_152 rfl rfl h
    · refine ev_icmp_ne (tgt := 151) dX11_drop_134 rfl c9 ?_
      refine ev_iconst (v := 0) dX11_drop_151 (by decide) ?_
      exact ev_retI .int dX11_drop_152 rfl rfl h
def s_X11_drop_81 (a0 : Nat) (a1 : Int32) (a2 : Int32) (σ : St) : Option (Int32 × St) :=
 if isO σ 11 a0 = true then (op (sP σ a0 1) fun p23 =>
 if a1 = 0 then (s_X11_drop_108 a0 a1 p23 (1 + a2) σ) else (if a1 = 1 then (s_X11_drop_108 a0 a1 p23 (6 + a2) σ) else (s_X11_drop_108 a0 a1 p23 0 σ))) else none
set_option maxHeartbeats 4000000 in
set_option maxRecDepth 100000 in
theorem e_X11_drop_81 {r : Int32} {σ' : St} : ∀ {a0 : Nat} {a1 : Int32} {a2 : Int32} {σ : St}, s_X11_drop_81 a0 a1 a2 σ = some (r, σ') → Ev M_X11_drop (2) 81 [(0, .ref a0), (1, .int (a1)), (2, .int (a2))] [] σ (some (.int r)) σ' := by
  intro a0 a1 a2 σ h
  unfold s_X11_drop_81 at h
  refine ev_aload_nR 0 dX11_drop_81 rfl ?_
  obtain ⟨g22, h⟩ := gd_some h
  obtain ⟨p23, e24, h⟩ := op_some h
  refine ev_getPR dX11_drop_82 fl_X11_13 rfl g22 e24 ?_
  refine ev_iload_n 1 dX11_drop_85 rfl ?_
  rcases it_some h with ⟨c25, h⟩ | ⟨c25, h⟩
  · refine ev_if_ne_n 95 dX11_drop_86 rfl c25 ?_
    refine ev_iconst (v := 1) dX11_drop_89 (by decide) ?_
    refine ev_iload_n 2 dX11_drop_90 rfl ?_
    refine ev_iadd dX11_drop_91 ?_
    refine ev_goto (tgt := 108) dX11_drop_92 rfl ?_
    refine ev_sub (ls' := [(0, .ref a0), (1, .int (a1))]) [0, 1] rfl ?_
    exact e_X11_drop_108  h
  · refine ev_if_ne (tgt := 95) dX11_drop_86 rfl c25 ?_
    refine ev_iload_n 1 dX11_drop_95 rfl ?_
    refine ev_iconst (v := 1) dX11_drop_96 (by decide) ?_
    rcases it_some h with ⟨c26, h⟩ | ⟨c26, h⟩
    · refine ev_icmp_ne_n 107 dX11_drop_97 rfl c26 ?_
      refine ev_bipush (v := 6) dX11_drop_100 (by decide) ?_
      refine ev_iload_n 2 dX11_drop_102 rfl ?_
      refine ev_iadd dX11_drop_103 ?_
      refine ev_goto (tgt := 108) dX11_drop_104 rfl ?_
      refine ev_sub (ls' := [(0, .ref a0), (1, .int (a1))]) [0, 1] rfl ?_
      exact e_X11_drop_108  h
    · refine ev_icmp_ne (tgt := 107) dX11_drop_97 rfl c26 ?_
      refine ev_iconst (v := 0) dX11_drop_107 (by decide) ?_
      refine ev_sub (ls' := [(0, .ref a0), (1, .int (a1))]) [0, 1] rfl ?_
      exact e_X11_drop_108  h
def s_X11_drop_64 (a0 : Nat) (a1 : Int32) (a2 : Int32) (σ : St) : Option (Int32 × St) :=
 if a1 = 2 then (if isO σ 11 a0 = true then (op (sP σ a0 1) fun p29 =>
 if isO σ 13 p29 = true then (if inR 0 (alen σ p29) = true then (if (0 : Int32) ≤ (sI σ p29 ((0 : Int32).toNatClampNeg)) then (s_X11_drop_81 a0 a1 a2 σ) else (some ((-3), σ))) else none) else none) else none) else (s_X11_drop_81 a0 a1 a2 σ)
set_option maxHeartbeats 4000000 in
set_option maxRecDepth 100000 in
theorem e_X11_drop_64 {r : Int32} {σ' : St} : ∀ {a0 : Nat} {a1 : Int32} {a2 : Int32} {σ : St}, s_X11_drop_64 a0 a1 a2 σ = some (r, σ') → Ev M_X11_drop (2) 64 [(0, .ref a0), (1, .int (a1)), (2, .int (a2))] [] σ (some (.int r)) σ' := by
  intro a0 a1 a2 σ h
  unfold s_X11_drop_64 at h
  refine ev_iload_n 1 dX11_drop_64 rfl ?_
  refine ev_iconst (v := 2) dX11_drop_65 (by decide) ?_
  rcases it_some h with ⟨c27, h⟩ | ⟨c27, h⟩
  · refine ev_icmp_ne_n 81 dX11_drop_66 rfl c27 ?_
    refine ev_aload_nR 0 dX11_drop_69 rfl ?_
    obtain ⟨g28, h⟩ := gd_some h
    obtain ⟨p29, e30, h⟩ := op_some h
    refine ev_getPR dX11_drop_70 fl_X11_13 rfl g28 e30 ?_
    refine ev_iconst (v := 0) dX11_drop_73 (by decide) ?_
    obtain ⟨g31, h⟩ := gd_some h
    obtain ⟨g32, h⟩ := gd_some h
    refine ev_iald dX11_drop_74 (isA_O g31) g32 ?_
    rcases it_some h with ⟨c33, h⟩ | ⟨c33, h⟩
    · refine ev_if_ge (tgt := 81) dX11_drop_75 rfl c33 ?_
      refine ev_sub (ls' := [(0, .ref a0), (1, .int (a1)), (2, .int (a2))]) [0, 1, 2] rfl ?_
      exact e_X11_drop_81  h
    · refine ev_if_ge_n 81 dX11_drop_75 rfl c33 ?_
      refine ev_bipush (v := (-3)) dX11_drop_78 (by decide) ?_
      exact ev_retI .int dX11_drop_80 rfl rfl h
  · refine ev_icmp_ne (tgt := 81) dX11_drop_66 rfl c27 ?_
    refine ev_sub (ls' := [(0, .ref a0), (1, .int (a1)), (2, .int (a2))]) [0, 1, 2] rfl ?_
    exact e_X11_drop_81  h
def s_X11_drop_36 (a0 : Nat) (a1 : Int32) (a2 : Int32) (σ : St) : Option (Int32 × St) :=
 if a1 = 1 then (bd (s_X11_in a2 0 3 σ) fun r37 σ35 =>
 if r37 = 0 then (some ((-1), σ35)) else (if isO σ35 11 a0 = true then (op (sP σ35 a0 1) fun p40 =>
 if isO σ35 13 p40 = true then (if inR (6 + a2) (alen σ35 p40) = true then (if (0 : Int32) ≤ (sI σ35 p40 ((6 + a2).toNatClampNeg)) then (s_X11_drop_64 a0 a1 a2 σ35) else (some ((-1), σ35))) else none) else none) else none)) else (s_X11_drop_64 a0 a1 a2 σ)
set_option maxHeartbeats 4000000 in
set_option maxRecDepth 100000 in
theorem e_X11_drop_36 {r : Int32} {σ' : St} : ∀ {a0 : Nat} {a1 : Int32} {a2 : Int32} {σ : St}, s_X11_drop_36 a0 a1 a2 σ = some (r, σ') → Ev M_X11_drop (2) 36 [(0, .ref a0), (1, .int (a1)), (2, .int (a2))] [] σ (some (.int r)) σ' := by
  intro a0 a1 a2 σ h
  unfold s_X11_drop_36 at h
  refine ev_iload_n 1 dX11_drop_36 rfl ?_
  refine ev_iconst (v := 1) dX11_drop_37 (by decide) ?_
  rcases it_some h with ⟨c34, h⟩ | ⟨c34, h⟩
  · refine ev_icmp_ne_n 64 dX11_drop_38 rfl c34 ?_
    refine ev_iload_n 2 dX11_drop_41 rfl ?_
    refine ev_iconst (v := 0) dX11_drop_42 (by decide) ?_
    refine ev_iconst (v := 3) dX11_drop_43 (by decide) ?_
    obtain ⟨r37, σ35, e36, h⟩ := bd_some h
    refine ev_invSi (As := [.int (a2), .int (0), .int (3)]) (st := []) dX11_drop_44 cb_X11_in tp_1066 tp_1067 (by omega) rfl rfl (Nat.le_of_ble_eq_true rfl) (x_X11_in e36) ?_
    rcases it_some h with ⟨c38, h⟩ | ⟨c38, h⟩
    · refine ev_if_eq (tgt := 62) dX11_drop_47 rfl c38 ?_
      refine ev_iconst (v := (-1)) dX11_drop_62 (by decide) ?_
      exact ev_retI .int dX11_drop_63 rfl rfl h
    · refine ev_if_eq_n 62 dX11_drop_47 rfl c38 ?_
      refine ev_aload_nR 0 dX11_drop_50 rfl ?_
      obtain ⟨g39, h⟩ := gd_some h
      obtain ⟨p40, e41, h⟩ := op_some h
      refine ev_getPR dX11_drop_51 fl_X11_13 rfl g39 e41 ?_
      refine ev_bipush (v := 6) dX11_drop_54 (by decide) ?_
      refine ev_iload_n 2 dX11_drop_56 rfl ?_
      refine ev_iadd dX11_drop_57 ?_
      obtain ⟨g42, h⟩ := gd_some h
      obtain ⟨g43, h⟩ := gd_some h
      refine ev_iald dX11_drop_58 (isA_O g42) g43 ?_
      rcases it_some h with ⟨c44, h⟩ | ⟨c44, h⟩
      · refine ev_if_ge (tgt := 64) dX11_drop_59 rfl c44 ?_
        refine ev_sub (ls' := [(0, .ref a0), (1, .int (a1)), (2, .int (a2))]) [0, 1, 2] rfl ?_
        exact e_X11_drop_64  h
      · refine ev_if_ge_n 64 dX11_drop_59 rfl c44 ?_
        refine ev_iconst (v := (-1)) dX11_drop_62 (by decide) ?_
        exact ev_retI .int dX11_drop_63 rfl rfl h
  · refine ev_icmp_ne (tgt := 64) dX11_drop_38 rfl c34 ?_
    refine ev_sub (ls' := [(0, .ref a0), (1, .int (a1)), (2, .int (a2))]) [0, 1, 2] rfl ?_
    exact e_X11_drop_64  h
def s_X11_drop (a0 : Nat) (a1 : Int32) (a2 : Int32) (σ : St) : Option (Int32 × St) :=
 bd (s_X11_in a1 0 2 σ) fun r47 σ45 =>
 if r47 = 0 then (some ((-2), σ45)) else (if a1 = 0 then (bd (s_X11_in a2 0 4 σ45) fun r52 σ50 =>
 if r52 = 0 then (some ((-1), σ50)) else (if isO σ50 11 a0 = true then (op (sP σ50 a0 1) fun p55 =>
 if isO σ50 13 p55 = true then (if inR (1 + a2) (alen σ50 p55) = true then (if (sI σ50 p55 ((1 + a2).toNatClampNeg)) < 0 then (some ((-1), σ50)) else (s_X11_drop_36 a0 a1 a2 σ50)) else none) else none) else none)) else (s_X11_drop_36 a0 a1 a2 σ45))
set_option maxHeartbeats 4000000 in
set_option maxRecDepth 100000 in
theorem x_X11_drop {a0 : Nat} {a1 : Int32} {a2 : Int32} {σ : St} {r : Int32} {σ' : St} (h : s_X11_drop a0 a1 a2 σ = some (r, σ')) : Ex M_X11_drop (2) [.ref a0, .int (a1), .int (a2)] σ (some (.int r)) σ' := by
  unfold s_X11_drop at h
  refine ex_of (by decide) rfl (Nat.le_of_ble_eq_true rfl) ?_
  show Ev _ _ 0 [(0, .ref a0), (1, .int (a1)), (2, .int (a2))] [] _ _ _
  refine ev_iload_n 1 dX11_drop_0 rfl ?_
  refine ev_iconst (v := 0) dX11_drop_1 (by decide) ?_
  refine ev_iconst (v := 2) dX11_drop_2 (by decide) ?_
  obtain ⟨r47, σ45, e46, h⟩ := bd_some h
  refine ev_invSi (As := [.int (a1), .int (0), .int (2)]) (st := []) dX11_drop_3 cb_X11_in tp_1066 tp_1067 (by omega) rfl rfl (Nat.le_of_ble_eq_true rfl) (x_X11_in e46) ?_
  rcases it_some h with ⟨c48, h⟩ | ⟨c48, h⟩
  · refine ev_if_ne_n 12 dX11_drop_6 rfl c48 ?_
    refine ev_bipush (v := (-2)) dX11_drop_9 (by decide) ?_
    exact ev_retI .int dX11_drop_11 rfl rfl h
  · refine ev_if_ne (tgt := 12) dX11_drop_6 rfl c48 ?_
    refine ev_iload_n 1 dX11_drop_12 rfl ?_
    rcases it_some h with ⟨c49, h⟩ | ⟨c49, h⟩
    · refine ev_if_ne_n 36 dX11_drop_13 rfl c49 ?_
      refine ev_iload_n 2 dX11_drop_16 rfl ?_
      refine ev_iconst (v := 0) dX11_drop_17 (by decide) ?_
      refine ev_iconst (v := 4) dX11_drop_18 (by decide) ?_
      obtain ⟨r52, σ50, e51, h⟩ := bd_some h
      refine ev_invSi (As := [.int (a2), .int (0), .int (4)]) (st := []) dX11_drop_19 cb_X11_in tp_1066 tp_1067 (by omega) rfl rfl (Nat.le_of_ble_eq_true rfl) (x_X11_in e51) ?_
      rcases it_some h with ⟨c53, h⟩ | ⟨c53, h⟩
      · refine ev_if_eq (tgt := 62) dX11_drop_22 rfl c53 ?_
        refine ev_iconst (v := (-1)) dX11_drop_62 (by decide) ?_
        exact ev_retI .int dX11_drop_63 rfl rfl h
      · refine ev_if_eq_n 62 dX11_drop_22 rfl c53 ?_
        refine ev_aload_nR 0 dX11_drop_25 rfl ?_
        obtain ⟨g54, h⟩ := gd_some h
        obtain ⟨p55, e56, h⟩ := op_some h
        refine ev_getPR dX11_drop_26 fl_X11_13 rfl g54 e56 ?_
        refine ev_iconst (v := 1) dX11_drop_29 (by decide) ?_
        refine ev_iload_n 2 dX11_drop_30 rfl ?_
        refine ev_iadd dX11_drop_31 ?_
        obtain ⟨g57, h⟩ := gd_some h
        obtain ⟨g58, h⟩ := gd_some h
        refine ev_iald dX11_drop_32 (isA_O g57) g58 ?_
        rcases it_some h with ⟨c59, h⟩ | ⟨c59, h⟩
        · refine ev_if_lt (tgt := 62) dX11_drop_33 rfl c59 ?_
          refine ev_iconst (v := (-1)) dX11_drop_62 (by decide) ?_
          exact ev_retI .int dX11_drop_63 rfl rfl h
        · refine ev_if_lt_n 62 dX11_drop_33 rfl c59 ?_
          refine ev_sub (ls' := [(0, .ref a0), (1, .int (a1)), (2, .int (a2))]) [0, 1, 2] rfl ?_
          exact e_X11_drop_36  h
    · refine ev_if_ne (tgt := 36) dX11_drop_13 rfl c49 ?_
      refine ev_sub (ls' := [(0, .ref a0), (1, .int (a1)), (2, .int (a2))]) [0, 1, 2] rfl ?_
      exact e_X11_drop_36  h
def s_X11_isBelow (a0 : Nat) (a1 : Int32) (a2 : Int32) (a3 : Int32) (σ : St) : Option (Int32 × St) :=
 if isO σ 11 a0 = true then (op (sP σ a0 22) fun p2 =>
 if isO σ 13 p2 = true then (if inR ((256 * a1) + a2) (alen σ p2) = true then (lt (sI σ p2 (((256 * a1) + a2).toNatClampNeg) : Int32) fun v6 =>
 if v6 ≤ 0 then (some (0, σ)) else (if a3 ≤ v6 then (some (0, σ)) else (some (1, σ)))) else none) else none) else none
set_option maxHeartbeats 4000000 in
set_option maxRecDepth 100000 in
theorem x_X11_isBelow {a0 : Nat} {a1 : Int32} {a2 : Int32} {a3 : Int32} {σ : St} {r : Int32} {σ' : St} (h : s_X11_isBelow a0 a1 a2 a3 σ = some (r, σ')) : Ex M_X11_isBelow (1) [.ref a0, .int (a1), .int (a2), .int (a3)] σ (some (.int r)) σ' := by
  unfold s_X11_isBelow at h
  refine ex_of (by decide) rfl (Nat.le_of_ble_eq_true rfl) ?_
  show Ev _ _ 0 [(0, .ref a0), (1, .int (a1)), (2, .int (a2)), (3, .int (a3))] [] _ _ _
  refine ev_aload_nR 0 dX11_isBelow_0 rfl ?_
  obtain ⟨g1, h⟩ := gd_some h
  obtain ⟨p2, e3, h⟩ := op_some h
  refine ev_getPR dX11_isBelow_1 fl_X11_57 rfl g1 e3 ?_
  refine ev_sipush (v := 256) dX11_isBelow_4 (by decide) ?_
  refine ev_iload_n 1 dX11_isBelow_7 rfl ?_
  refine ev_imul dX11_isBelow_8 ?_
  refine ev_iload_n 2 dX11_isBelow_9 rfl ?_
  refine ev_iadd dX11_isBelow_10 ?_
  obtain ⟨g4, h⟩ := gd_some h
  obtain ⟨g5, h⟩ := gd_some h
  refine ev_iald dX11_isBelow_11 (isA_O g4) g5 ?_
  obtain ⟨v6, e7, h⟩ := lt_some h
  refine ev_topI e7 ?_
  refine ev_istore (ls' := [(4, .int (v6)), (0, .ref a0), (1, .int (a1)), (2, .int (a2)), (3, .int (a3))]) dX11_isBelow_12 (by decide) rfl ?_
  refine ev_iload 0 dX11_isBelow_14 rfl ?_
  rcases it_some h with ⟨c8, h⟩ | ⟨c8, h⟩
  · refine ev_if_le (tgt := 29) dX11_isBelow_16 rfl c8 ?_
    refine ev_iconst (v := 0) dX11_isBelow_29 (by decide) ?_
    exact ev_retI .boolean dX11_isBelow_30 rfl rfl h
  · refine ev_if_le_n 29 dX11_isBelow_16 rfl c8 ?_
    refine ev_iload 0 dX11_isBelow_19 rfl ?_
    refine ev_iload_n 4 dX11_isBelow_21 rfl ?_
    rcases it_some h with ⟨c9, h⟩ | ⟨c9, h⟩
    · refine ev_icmp_ge (tgt := 29) dX11_isBelow_22 rfl c9 ?_
      refine ev_iconst (v := 0) dX11_isBelow_29 (by decide) ?_
      exact ev_retI .boolean dX11_isBelow_30 rfl rfl h
    · refine ev_icmp_ge_n 29 dX11_isBelow_22 rfl c9 ?_
      refine ev_iconst (v := 1) dX11_isBelow_25 (by decide) ?_
      refine ev_goto (tgt := 30) dX11_isBelow_26 rfl ?_
      exact ev_retI .boolean dX11_isBelow_30 rfl rfl h
def s_X11_isTold (a0 : Nat) (a1 : Int32) (a2 : Int32) (a3 : Int32) (a4 : Int32) (a5 : Int32) (σ : St) : Option (Int32 × St) :=
 lt ((3 * a1) + a2 : Int32) fun v1 =>
 if isO σ 11 a0 = true then (op (sP σ a0 11) fun p4 =>
 if isO σ 13 p4 = true then (if inR a1 (alen σ p4) = true then (if (sI σ p4 a1.toNatClampNeg) ≤ a2 then (some (0, σ)) else (op (sP σ a0 12) fun p9 =>
 if isO σ 13 p9 = true then (if inR v1 (alen σ p9) = true then (if (sI σ p9 v1.toNatClampNeg) = a3 then (op (sP σ a0 13) fun p14 =>
 if isO σ 13 p14 = true then (if inR v1 (alen σ p14) = true then (if (0 : Int32) ≤ (sI σ p14 v1.toNatClampNeg) then (if inR v1 (alen σ p14) = true then (bd (s_X11_isBelow a0 (sI σ p14 v1.toNatClampNeg) a4 a5 σ) fun r22 σ20 =>
 if zok r22 = true then (some (r22, σ20)) else none) else none) else (if a4 = 0 then (some (1, σ)) else (some (0, σ)))) else none) else none) else (some (0, σ))) else none) else none)) else none) else none) else none
set_option maxHeartbeats 4000000 in
set_option maxRecDepth 100000 in
theorem x_X11_isTold {a0 : Nat} {a1 : Int32} {a2 : Int32} {a3 : Int32} {a4 : Int32} {a5 : Int32} {σ : St} {r : Int32} {σ' : St} (h : s_X11_isTold a0 a1 a2 a3 a4 a5 σ = some (r, σ')) : Ex M_X11_isTold (2) [.ref a0, .int (a1), .int (a2), .int (a3), .int (a4), .int (a5)] σ (some (.int r)) σ' := by
  unfold s_X11_isTold at h
  refine ex_of (by decide) rfl (Nat.le_of_ble_eq_true rfl) ?_
  show Ev _ _ 0 [(0, .ref a0), (1, .int (a1)), (2, .int (a2)), (3, .int (a3)), (4, .int (a4)), (5, .int (a5))] [] _ _ _
  refine ev_iconst (v := 3) dX11_isTold_0 (by decide) ?_
  refine ev_iload_n 1 dX11_isTold_1 rfl ?_
  refine ev_imul dX11_isTold_2 ?_
  refine ev_iload_n 2 dX11_isTold_3 rfl ?_
  refine ev_iadd dX11_isTold_4 ?_
  obtain ⟨v1, e2, h⟩ := lt_some h
  refine ev_topI e2 ?_
  refine ev_istore (ls' := [(6, .int (v1)), (0, .ref a0), (1, .int (a1)), (2, .int (a2)), (3, .int (a3)), (4, .int (a4)), (5, .int (a5))]) dX11_isTold_5 (by decide) rfl ?_
  refine ev_iload_n 3 dX11_isTold_7 rfl ?_
  refine ev_aload_nR 1 dX11_isTold_8 rfl ?_
  obtain ⟨g3, h⟩ := gd_some h
  obtain ⟨p4, e5, h⟩ := op_some h
  refine ev_getPR dX11_isTold_9 fl_X11_32 rfl g3 e5 ?_
  refine ev_iload_n 2 dX11_isTold_12 rfl ?_
  obtain ⟨g6, h⟩ := gd_some h
  obtain ⟨g7, h⟩ := gd_some h
  refine ev_iald dX11_isTold_13 (isA_O g6) g7 ?_
  rcases it_some h with ⟨c8, h⟩ | ⟨c8, h⟩
  · refine ev_icmp_ge (tgt := 28) dX11_isTold_14 rfl c8 ?_
    refine ev_iconst (v := 0) dX11_isTold_28 (by decide) ?_
    exact ev_retI .boolean dX11_isTold_29 rfl rfl h
  · refine ev_icmp_ge_n 28 dX11_isTold_14 rfl c8 ?_
    refine ev_aload_nR 1 dX11_isTold_17 rfl ?_
    obtain ⟨p9, e10, h⟩ := op_some h
    refine ev_getPR dX11_isTold_18 fl_X11_35 rfl g3 e10 ?_
    refine ev_iload 0 dX11_isTold_21 rfl ?_
    obtain ⟨g11, h⟩ := gd_some h
    obtain ⟨g12, h⟩ := gd_some h
    refine ev_iald dX11_isTold_23 (isA_O g11) g12 ?_
    refine ev_iload_n 4 dX11_isTold_24 rfl ?_
    rcases it_some h with ⟨c13, h⟩ | ⟨c13, h⟩
    · refine ev_icmp_eq (tgt := 30) dX11_isTold_25 rfl c13 ?_
      refine ev_aload_nR 1 dX11_isTold_30 rfl ?_
      obtain ⟨p14, e15, h⟩ := op_some h
      refine ev_getPR dX11_isTold_31 fl_X11_38 rfl g3 e15 ?_
      refine ev_iload 0 dX11_isTold_34 rfl ?_
      obtain ⟨g16, h⟩ := gd_some h
      obtain ⟨g17, h⟩ := gd_some h
      refine ev_iald dX11_isTold_36 (isA_O g16) g17 ?_
      rcases it_some h with ⟨c18, h⟩ | ⟨c18, h⟩
      · refine ev_if_ge (tgt := 53) dX11_isTold_37 rfl c18 ?_
        refine ev_aload_nR 1 dX11_isTold_53 rfl ?_
        refine ev_aload_nR 1 dX11_isTold_54 rfl ?_
        refine ev_getPR dX11_isTold_55 fl_X11_38 rfl g3 e15 ?_
        refine ev_iload 0 dX11_isTold_58 rfl ?_
        obtain ⟨g19, h⟩ := gd_some h
        refine ev_iald dX11_isTold_60 (isA_O g16) g19 ?_
        refine ev_iload 5 dX11_isTold_61 rfl ?_
        refine ev_iload 6 dX11_isTold_63 rfl ?_
        obtain ⟨r22, σ20, e21, h⟩ := bd_some h
        refine ev_invVi (As := [.int (sI σ p14 v1.toNatClampNeg), .int (a4), .int (a5)]) (st := []) dX11_isTold_65 cb_X11_isBelow tp_1189 tp_1191 tp_74 kf11 rfl (by omega) g3 rfl rfl (Nat.le_of_ble_eq_true rfl) (x_X11_isBelow e21) ?_
        obtain ⟨g23, h⟩ := gd_some h
        exact ev_retI .boolean dX11_isTold_68 rfl (nz_of g23).1 h
      · refine ev_if_ge_n 53 dX11_isTold_37 rfl c18 ?_
        refine ev_iload 5 dX11_isTold_40 rfl ?_
        rcases it_some h with ⟨c24, h⟩ | ⟨c24, h⟩
        · refine ev_if_ne_n 49 dX11_isTold_42 rfl c24 ?_
          refine ev_iconst (v := 1) dX11_isTold_45 (by decide) ?_
          refine ev_goto (tgt := 68) dX11_isTold_46 rfl ?_
          exact ev_retI .boolean dX11_isTold_68 rfl rfl h
        · refine ev_if_ne (tgt := 49) dX11_isTold_42 rfl c24 ?_
          refine ev_iconst (v := 0) dX11_isTold_49 (by decide) ?_
          refine ev_goto (tgt := 68) dX11_isTold_50 rfl ?_
          exact ev_retI .boolean dX11_isTold_68 rfl rfl h
    · refine ev_icmp_eq_n 30 dX11_isTold_25 rfl c13 ?_
      refine ev_iconst (v := 0) dX11_isTold_28 (by decide) ?_
      exact ev_retI .boolean dX11_isTold_29 rfl rfl h
def sb_X11_firstFor_68 (k68 : Nat → Int32 → Int32 → Int32 → Int32 → St → Option (Int32 × St)) (a0 : Nat) (a1 : Int32) (a2 : Int32) (a3 : Int32) (a4 : Int32) (σ : St) : Option (Int32 × St) :=
 if (12 : Int32) ≤ a4 then (some ((-6), σ)) else (if isO σ 11 a0 = true then (bd (s_X11_isTold a0 (8 + (a4 / 3)) (a4 - a4 / 3 * 3) a1 a2 a3 σ) fun r5 σ3 =>
 if r5 = 0 then (lt (a4 + 1 : Int32) fun v7 =>
 k68 a0 a1 a2 a3 v7 σ3) else (some ((100 + (10 * (a4 / 3))) + (a4 - a4 / 3 * 3), σ3))) else none)
def s_X11_firstFor_68 (F : Nat) : Nat → Int32 → Int32 → Int32 → Int32 → St → Option (Int32 × St) := lp (fun _ _ _ _ _ _ => none) (sb_X11_firstFor_68 ) F
set_option maxHeartbeats 4000000 in
set_option maxRecDepth 100000 in
theorem e_X11_firstFor_68 {r : Int32} {σ' : St} (F : Nat) : ∀ {a0 : Nat} {a1 : Int32} {a2 : Int32} {a3 : Int32} {a4 : Int32} {σ : St}, s_X11_firstFor_68 F a0 a1 a2 a3 a4 σ = some (r, σ') → Ev M_X11_firstFor (3) 68 [(0, .ref a0), (1, .int (a1)), (2, .int (a2)), (3, .int (a3)), (4, .int (a4))] [] σ (some (.int r)) σ' := by
  induction F with
  | zero => intro a0 a1 a2 a3 a4 σ h; cases h
  | succ F ih =>
    intro a0 a1 a2 a3 a4 σ h
    change sb_X11_firstFor_68  (s_X11_firstFor_68 F) a0 a1 a2 a3 a4 σ = some (r, σ') at h
    unfold sb_X11_firstFor_68 at h
    have hk68 := @ih
    refine ev_iload 4 dX11_firstFor_68 rfl ?_
    refine ev_bipush (v := 12) dX11_firstFor_70 (by decide) ?_
    rcases it_some h with ⟨c1, h⟩ | ⟨c1, h⟩
    · refine ev_icmp_ge (tgt := 118) dX11_firstFor_72 rfl c1 ?_
      refine ev_bipush (v := (-6)) dX11_firstFor_118 (by decide) ?_
      exact ev_retI .int dX11_firstFor_120 rfl rfl h
    · refine ev_icmp_ge_n 118 dX11_firstFor_72 rfl c1 ?_
      refine ev_aload_nR 0 dX11_firstFor_75 rfl ?_
      refine ev_bipush (v := 8) dX11_firstFor_76 (by decide) ?_
      refine ev_iload 4 dX11_firstFor_78 rfl ?_
      refine ev_iconst (v := 3) dX11_firstFor_80 (by decide) ?_
      refine ev_idiv dX11_firstFor_81 (by decide) ?_
      refine ev_iadd dX11_firstFor_82 ?_
      refine ev_iload 4 dX11_firstFor_83 rfl ?_
      refine ev_iconst (v := 3) dX11_firstFor_85 (by decide) ?_
      refine ev_irem dX11_firstFor_86 (by decide) ?_
      refine ev_iload_n 1 dX11_firstFor_87 rfl ?_
      refine ev_iload_n 2 dX11_firstFor_88 rfl ?_
      refine ev_iload_n 3 dX11_firstFor_89 rfl ?_
      obtain ⟨g2, h⟩ := gd_some h
      obtain ⟨r5, σ3, e4, h⟩ := bd_some h
      refine ev_invVi (As := [.int (8 + (a4 / 3)), .int (a4 - a4 / 3 * 3), .int (a1), .int (a2), .int (a3)]) (st := []) dX11_firstFor_90 cb_X11_isTold tp_1185 tp_1187 tp_73 kf11 rfl (by omega) g2 rfl rfl (Nat.le_of_ble_eq_true rfl) (x_X11_isTold e4) ?_
      rcases it_some h with ⟨c6, h⟩ | ⟨c6, h⟩
      · refine ev_if_eq (tgt := 112) dX11_firstFor_93 rfl c6 ?_
        obtain ⟨v7, e8, h⟩ := lt_some h
        refine ev_iinc (v := v7) (ls' := [(4, .int (v7)), (0, .ref a0), (1, .int (a1)), (2, .int (a2)), (3, .int (a3))]) 4 dX11_firstFor_112 rfl e8.symm (by decide) rfl ?_
        refine ev_goto (tgt := 68) dX11_firstFor_115 rfl ?_
        refine ev_sub (ls' := [(0, .ref a0), (1, .int (a1)), (2, .int (a2)), (3, .int (a3)), (4, .int (v7))]) [1, 2, 3, 4, 0] rfl ?_
        exact hk68 h
      · refine ev_if_eq_n 112 dX11_firstFor_93 rfl c6 ?_
        refine ev_bipush (v := 100) dX11_firstFor_96 (by decide) ?_
        refine ev_bipush (v := 10) dX11_firstFor_98 (by decide) ?_
        refine ev_iload 4 dX11_firstFor_100 rfl ?_
        refine ev_iconst (v := 3) dX11_firstFor_102 (by decide) ?_
        refine ev_idiv dX11_firstFor_103 (by decide) ?_
        refine ev_imul dX11_firstFor_104 ?_
        refine ev_iadd dX11_firstFor_105 ?_
        refine ev_iload 4 dX11_firstFor_106 rfl ?_
        refine ev_iconst (v := 3) dX11_firstFor_108 (by decide) ?_
        refine ev_irem dX11_firstFor_109 (by decide) ?_
        refine ev_iadd dX11_firstFor_110 ?_
        exact ev_retI .int dX11_firstFor_111 rfl rfl h
def sb_X11_firstFor_3 (k3 : Nat → Int32 → Int32 → Int32 → Int32 → St → Option (Int32 × St)) (a0 : Nat) (a1 : Int32) (a2 : Int32) (a3 : Int32) (a4 : Int32) (σ : St) : Option (Int32 × St) :=
 if (24 : Int32) ≤ a4 then (s_X11_firstFor_68 16000 a0 a1 a2 a3 0 σ) else (lt (a4 / 3 : Int32) fun v10 =>
 bd (s_X11_has a2 v10 σ) fun r14 σ12 =>
 if r14 = 0 then (lt (a4 + 1 : Int32) fun v16 =>
 k3 a0 a1 a2 a3 v16 σ12) else (if isO σ12 11 a0 = true then (bd (s_X11_isTold a0 v10 (a4 - a4 / 3 * 3) a1 (a2 &&& ((1 <<< (v10 &&& 31)) ^^^ ((-1)))) a3 σ12) fun r21 σ19 =>
 if r21 = 0 then (lt (a4 + 1 : Int32) fun v23 =>
 k3 a0 a1 a2 a3 v23 σ19) else (some ((10 * v10) + (a4 - a4 / 3 * 3), σ19))) else none))
def s_X11_firstFor_3 (F : Nat) : Nat → Int32 → Int32 → Int32 → Int32 → St → Option (Int32 × St) := lp (fun _ _ _ _ _ _ => none) (sb_X11_firstFor_3 ) F
set_option maxHeartbeats 4000000 in
set_option maxRecDepth 100000 in
theorem e_X11_firstFor_3 {r : Int32} {σ' : St} (F : Nat) : ∀ {a0 : Nat} {a1 : Int32} {a2 : Int32} {a3 : Int32} {a4 : Int32} {σ : St}, s_X11_firstFor_3 F a0 a1 a2 a3 a4 σ = some (r, σ') → Ev M_X11_firstFor (3) 3 [(0, .ref a0), (1, .int (a1)), (2, .int (a2)), (3, .int (a3)), (4, .int (a4))] [] σ (some (.int r)) σ' := by
  induction F with
  | zero => intro a0 a1 a2 a3 a4 σ h; cases h
  | succ F ih =>
    intro a0 a1 a2 a3 a4 σ h
    change sb_X11_firstFor_3  (s_X11_firstFor_3 F) a0 a1 a2 a3 a4 σ = some (r, σ') at h
    unfold sb_X11_firstFor_3 at h
    have hk3 := @ih
    refine ev_iload 4 dX11_firstFor_3 rfl ?_
    refine ev_bipush (v := 24) dX11_firstFor_5 (by decide) ?_
    rcases it_some h with ⟨c9, h⟩ | ⟨c9, h⟩
    · refine ev_icmp_ge (tgt := 65) dX11_firstFor_7 rfl c9 ?_
      refine ev_iconst (v := 0) dX11_firstFor_65 (by decide) ?_
      refine ev_istore (ls' := [(4, .int (0)), (0, .ref a0), (1, .int (a1)), (2, .int (a2)), (3, .int (a3))]) dX11_firstFor_66 (by decide) rfl ?_
      refine ev_sub (ls' := [(0, .ref a0), (1, .int (a1)), (2, .int (a2)), (3, .int (a3)), (4, .int (0))]) [1, 2, 3, 4, 0] rfl ?_
      exact e_X11_firstFor_68 16000 h
    · refine ev_icmp_ge_n 65 dX11_firstFor_7 rfl c9 ?_
      refine ev_iload 4 dX11_firstFor_10 rfl ?_
      refine ev_iconst (v := 3) dX11_firstFor_12 (by decide) ?_
      refine ev_idiv dX11_firstFor_13 (by decide) ?_
      obtain ⟨v10, e11, h⟩ := lt_some h
      refine ev_topI e11 ?_
      refine ev_istore (ls' := [(5, .int (v10)), (0, .ref a0), (1, .int (a1)), (2, .int (a2)), (3, .int (a3)), (4, .int (a4))]) dX11_firstFor_14 (by decide) rfl ?_
      refine ev_iload_n 3 dX11_firstFor_16 rfl ?_
      refine ev_iload 0 dX11_firstFor_17 rfl ?_
      obtain ⟨r14, σ12, e13, h⟩ := bd_some h
      refine ev_invSi (As := [.int (a2), .int (v10)]) (st := []) dX11_firstFor_19 cb_X11_has tp_1182 tp_1183 (by omega) rfl rfl (Nat.le_of_ble_eq_true rfl) (x_X11_has e13) ?_
      rcases it_some h with ⟨c15, h⟩ | ⟨c15, h⟩
      · refine ev_if_eq (tgt := 59) dX11_firstFor_22 rfl c15 ?_
        obtain ⟨v16, e17, h⟩ := lt_some h
        refine ev_iinc (v := v16) (ls' := [(4, .int (v16)), (5, .int (v10)), (0, .ref a0), (1, .int (a1)), (2, .int (a2)), (3, .int (a3))]) 5 dX11_firstFor_59 rfl e17.symm (by decide) rfl ?_
        refine ev_goto (tgt := 3) dX11_firstFor_62 rfl ?_
        refine ev_sub (ls' := [(0, .ref a0), (1, .int (a1)), (2, .int (a2)), (3, .int (a3)), (4, .int (v16))]) [2, 3, 4, 5, 0] rfl ?_
        exact hk3 h
      · refine ev_if_eq_n 59 dX11_firstFor_22 rfl c15 ?_
        refine ev_aload_nR 1 dX11_firstFor_25 rfl ?_
        refine ev_iload 0 dX11_firstFor_26 rfl ?_
        refine ev_iload 5 dX11_firstFor_28 rfl ?_
        refine ev_iconst (v := 3) dX11_firstFor_30 (by decide) ?_
        refine ev_irem dX11_firstFor_31 (by decide) ?_
        refine ev_iload_n 2 dX11_firstFor_32 rfl ?_
        refine ev_iload_n 3 dX11_firstFor_33 rfl ?_
        refine ev_iconst (v := 1) dX11_firstFor_34 (by decide) ?_
        refine ev_iload 0 dX11_firstFor_35 rfl ?_
        refine ev_ishl dX11_firstFor_37 ?_
        refine ev_iconst (v := (-1)) dX11_firstFor_38 (by decide) ?_
        refine ev_ixor dX11_firstFor_39 ?_
        refine ev_iand dX11_firstFor_40 ?_
        refine ev_iload_n 4 dX11_firstFor_41 rfl ?_
        obtain ⟨g18, h⟩ := gd_some h
        obtain ⟨r21, σ19, e20, h⟩ := bd_some h
        refine ev_invVi (As := [.int (v10), .int (a4 - a4 / 3 * 3), .int (a1), .int (a2 &&& ((1 <<< (v10 &&& 31)) ^^^ ((-1)))), .int (a3)]) (st := []) dX11_firstFor_42 cb_X11_isTold tp_1185 tp_1187 tp_73 kf11 rfl (by omega) g18 rfl rfl (Nat.le_of_ble_eq_true rfl) (x_X11_isTold e20) ?_
        rcases it_some h with ⟨c22, h⟩ | ⟨c22, h⟩
        · refine ev_if_eq (tgt := 59) dX11_firstFor_45 rfl c22 ?_
          obtain ⟨v23, e24, h⟩ := lt_some h
          refine ev_iinc (v := v23) (ls' := [(4, .int (v23)), (5, .int (v10)), (0, .ref a0), (1, .int (a1)), (2, .int (a2)), (3, .int (a3))]) 5 dX11_firstFor_59 rfl e24.symm (by decide) rfl ?_
          refine ev_goto (tgt := 3) dX11_firstFor_62 rfl ?_
          refine ev_sub (ls' := [(0, .ref a0), (1, .int (a1)), (2, .int (a2)), (3, .int (a3)), (4, .int (v23))]) [2, 3, 4, 5, 0] rfl ?_
          exact hk3 h
        · refine ev_if_eq_n 59 dX11_firstFor_45 rfl c22 ?_
          refine ev_bipush (v := 10) dX11_firstFor_48 (by decide) ?_
          refine ev_iload 0 dX11_firstFor_50 rfl ?_
          refine ev_imul dX11_firstFor_52 ?_
          refine ev_iload 5 dX11_firstFor_53 rfl ?_
          refine ev_iconst (v := 3) dX11_firstFor_55 (by decide) ?_
          refine ev_irem dX11_firstFor_56 (by decide) ?_
          refine ev_iadd dX11_firstFor_57 ?_
          exact ev_retI .int dX11_firstFor_58 rfl rfl h
def s_X11_firstFor (a0 : Nat) (a1 : Int32) (a2 : Int32) (a3 : Int32) (σ : St) : Option (Int32 × St) :=
 s_X11_firstFor_3 16000 a0 a1 a2 a3 0 σ
set_option maxHeartbeats 4000000 in
set_option maxRecDepth 100000 in
theorem x_X11_firstFor {a0 : Nat} {a1 : Int32} {a2 : Int32} {a3 : Int32} {σ : St} {r : Int32} {σ' : St} (h : s_X11_firstFor a0 a1 a2 a3 σ = some (r, σ')) : Ex M_X11_firstFor (3) [.ref a0, .int (a1), .int (a2), .int (a3)] σ (some (.int r)) σ' := by
  unfold s_X11_firstFor at h
  refine ex_of (by decide) rfl (Nat.le_of_ble_eq_true rfl) ?_
  show Ev _ _ 0 [(0, .ref a0), (1, .int (a1)), (2, .int (a2)), (3, .int (a3))] [] _ _ _
  refine ev_iconst (v := 0) dX11_firstFor_0 (by decide) ?_
  refine ev_istore (ls' := [(4, .int (0)), (0, .ref a0), (1, .int (a1)), (2, .int (a2)), (3, .int (a3))]) dX11_firstFor_1 (by decide) rfl ?_
  refine ev_sub (ls' := [(0, .ref a0), (1, .int (a1)), (2, .int (a2)), (3, .int (a3)), (4, .int (0))]) [1, 2, 3, 4, 0] rfl ?_
  exact e_X11_firstFor_3 16000 h
def sb_X11_firstPart_3 (k3 : Nat → Int32 → Int32 → Int32 → Int32 → St → Option (Int32 × St)) (a0 : Nat) (a1 : Int32) (a2 : Int32) (a3 : Int32) (a4 : Int32) (σ : St) : Option (Int32 × St) :=
 if (256 : Int32) ≤ a4 then (some ((-6), σ)) else (if (a4 &&& (a2 ^^^ ((-1)))) = 0 then (if isO σ 11 a0 = true then (op (sP σ a0 8) fun p6 =>
 if isO σ 13 p6 = true then (if inR a1 (alen σ p6) = true then (bd (s_X11_isBelow a0 (sI σ p6 a1.toNatClampNeg) a4 a3 σ) fun r12 σ10 =>
 if r12 = 0 then (lt (a4 + 1 : Int32) fun v14 =>
 k3 a0 a1 a2 a3 v14 σ10) else (if isO σ10 11 a0 = true then (op (sP σ10 a0 9) fun p17 =>
 if isO σ10 13 p17 = true then (if inR a1 (alen σ10 p17) = true then (bd (s_X11_isBelow a0 (sI σ10 p17 a1.toNatClampNeg) (a2 &&& (a4 ^^^ ((-1)))) a3 σ10) fun r23 σ21 =>
 if r23 = 0 then (lt (a4 + 1 : Int32) fun v25 =>
 k3 a0 a1 a2 a3 v25 σ21) else (some (a4, σ21))) else none) else none) else none)) else none) else none) else none) else (lt (a4 + 1 : Int32) fun v3 =>
 k3 a0 a1 a2 a3 v3 σ))
def s_X11_firstPart_3 (F : Nat) : Nat → Int32 → Int32 → Int32 → Int32 → St → Option (Int32 × St) := lp (fun _ _ _ _ _ _ => none) (sb_X11_firstPart_3 ) F
set_option maxHeartbeats 4000000 in
set_option maxRecDepth 100000 in
theorem e_X11_firstPart_3 {r : Int32} {σ' : St} (F : Nat) : ∀ {a0 : Nat} {a1 : Int32} {a2 : Int32} {a3 : Int32} {a4 : Int32} {σ : St}, s_X11_firstPart_3 F a0 a1 a2 a3 a4 σ = some (r, σ') → Ev M_X11_firstPart (2) 3 [(0, .ref a0), (1, .int (a1)), (2, .int (a2)), (3, .int (a3)), (4, .int (a4))] [] σ (some (.int r)) σ' := by
  induction F with
  | zero => intro a0 a1 a2 a3 a4 σ h; cases h
  | succ F ih =>
    intro a0 a1 a2 a3 a4 σ h
    change sb_X11_firstPart_3  (s_X11_firstPart_3 F) a0 a1 a2 a3 a4 σ = some (r, σ') at h
    unfold sb_X11_firstPart_3 at h
    have hk3 := @ih
    refine ev_iload 4 dX11_firstPart_3 rfl ?_
    refine ev_sipush (v := 256) dX11_firstPart_5 (by decide) ?_
    rcases it_some h with ⟨c1, h⟩ | ⟨c1, h⟩
    · refine ev_icmp_ge (tgt := 65) dX11_firstPart_8 rfl c1 ?_
      refine ev_bipush (v := (-6)) dX11_firstPart_65 (by decide) ?_
      exact ev_retI .int dX11_firstPart_67 rfl rfl h
    · refine ev_icmp_ge_n 65 dX11_firstPart_8 rfl c1 ?_
      refine ev_iload 4 dX11_firstPart_11 rfl ?_
      refine ev_iload_n 2 dX11_firstPart_13 rfl ?_
      refine ev_iconst (v := (-1)) dX11_firstPart_14 (by decide) ?_
      refine ev_ixor dX11_firstPart_15 ?_
      refine ev_iand dX11_firstPart_16 ?_
      rcases it_some h with ⟨c2, h⟩ | ⟨c2, h⟩
      · refine ev_if_ne_n 59 dX11_firstPart_17 rfl c2 ?_
        refine ev_aload_nR 0 dX11_firstPart_20 rfl ?_
        refine ev_aload_nR 0 dX11_firstPart_21 rfl ?_
        obtain ⟨g5, h⟩ := gd_some h
        obtain ⟨p6, e7, h⟩ := op_some h
        refine ev_getPR dX11_firstPart_22 fl_X11_26 rfl g5 e7 ?_
        refine ev_iload_n 1 dX11_firstPart_25 rfl ?_
        obtain ⟨g8, h⟩ := gd_some h
        obtain ⟨g9, h⟩ := gd_some h
        refine ev_iald dX11_firstPart_26 (isA_O g8) g9 ?_
        refine ev_iload 4 dX11_firstPart_27 rfl ?_
        refine ev_iload_n 3 dX11_firstPart_29 rfl ?_
        obtain ⟨r12, σ10, e11, h⟩ := bd_some h
        refine ev_invVi (As := [.int (sI σ p6 a1.toNatClampNeg), .int (a4), .int (a3)]) (st := []) dX11_firstPart_30 cb_X11_isBelow tp_1189 tp_1191 tp_74 kf11 rfl (by omega) g5 rfl rfl (Nat.le_of_ble_eq_true rfl) (x_X11_isBelow e11) ?_
        rcases it_some h with ⟨c13, h⟩ | ⟨c13, h⟩
        · refine ev_if_eq (tgt := 59) dX11_firstPart_33 rfl c13 ?_
          obtain ⟨v14, e15, h⟩ := lt_some h
          refine ev_iinc (v := v14) (ls' := [(4, .int (v14)), (0, .ref a0), (1, .int (a1)), (2, .int (a2)), (3, .int (a3))]) 4 dX11_firstPart_59 rfl e15.symm (by decide) rfl ?_
          refine ev_goto (tgt := 3) dX11_firstPart_62 rfl ?_
          refine ev_sub (ls' := [(0, .ref a0), (1, .int (a1)), (2, .int (a2)), (3, .int (a3)), (4, .int (v14))]) [1, 2, 3, 4, 0] rfl ?_
          exact hk3 h
        · refine ev_if_eq_n 59 dX11_firstPart_33 rfl c13 ?_
          refine ev_aload_nR 0 dX11_firstPart_36 rfl ?_
          refine ev_aload_nR 0 dX11_firstPart_37 rfl ?_
          obtain ⟨g16, h⟩ := gd_some h
          obtain ⟨p17, e18, h⟩ := op_some h
          refine ev_getPR dX11_firstPart_38 fl_X11_29 rfl g16 e18 ?_
          refine ev_iload_n 1 dX11_firstPart_41 rfl ?_
          obtain ⟨g19, h⟩ := gd_some h
          obtain ⟨g20, h⟩ := gd_some h
          refine ev_iald dX11_firstPart_42 (isA_O g19) g20 ?_
          refine ev_iload_n 2 dX11_firstPart_43 rfl ?_
          refine ev_iload 4 dX11_firstPart_44 rfl ?_
          refine ev_iconst (v := (-1)) dX11_firstPart_46 (by decide) ?_
          refine ev_ixor dX11_firstPart_47 ?_
          refine ev_iand dX11_firstPart_48 ?_
          refine ev_iload_n 3 dX11_firstPart_49 rfl ?_
          obtain ⟨r23, σ21, e22, h⟩ := bd_some h
          refine ev_invVi (As := [.int (sI σ10 p17 a1.toNatClampNeg), .int (a2 &&& (a4 ^^^ ((-1)))), .int (a3)]) (st := []) dX11_firstPart_50 cb_X11_isBelow tp_1189 tp_1191 tp_74 kf11 rfl (by omega) g16 rfl rfl (Nat.le_of_ble_eq_true rfl) (x_X11_isBelow e22) ?_
          rcases it_some h with ⟨c24, h⟩ | ⟨c24, h⟩
          · refine ev_if_eq (tgt := 59) dX11_firstPart_53 rfl c24 ?_
            obtain ⟨v25, e26, h⟩ := lt_some h
            refine ev_iinc (v := v25) (ls' := [(4, .int (v25)), (0, .ref a0), (1, .int (a1)), (2, .int (a2)), (3, .int (a3))]) 4 dX11_firstPart_59 rfl e26.symm (by decide) rfl ?_
            refine ev_goto (tgt := 3) dX11_firstPart_62 rfl ?_
            refine ev_sub (ls' := [(0, .ref a0), (1, .int (a1)), (2, .int (a2)), (3, .int (a3)), (4, .int (v25))]) [1, 2, 3, 4, 0] rfl ?_
            exact hk3 h
          · refine ev_if_eq_n 59 dX11_firstPart_53 rfl c24 ?_
            refine ev_iload 4 dX11_firstPart_56 rfl ?_
            exact ev_retI .int dX11_firstPart_58 rfl rfl h
      · refine ev_if_ne (tgt := 59) dX11_firstPart_17 rfl c2 ?_
        obtain ⟨v3, e4, h⟩ := lt_some h
        refine ev_iinc (v := v3) (ls' := [(4, .int (v3)), (0, .ref a0), (1, .int (a1)), (2, .int (a2)), (3, .int (a3))]) 4 dX11_firstPart_59 rfl e4.symm (by decide) rfl ?_
        refine ev_goto (tgt := 3) dX11_firstPart_62 rfl ?_
        refine ev_sub (ls' := [(0, .ref a0), (1, .int (a1)), (2, .int (a2)), (3, .int (a3)), (4, .int (v3))]) [1, 2, 3, 4, 0] rfl ?_
        exact hk3 h
def s_X11_firstPart (a0 : Nat) (a1 : Int32) (a2 : Int32) (a3 : Int32) (σ : St) : Option (Int32 × St) :=
 s_X11_firstPart_3 16000 a0 a1 a2 a3 0 σ
set_option maxHeartbeats 4000000 in
set_option maxRecDepth 100000 in
theorem x_X11_firstPart {a0 : Nat} {a1 : Int32} {a2 : Int32} {a3 : Int32} {σ : St} {r : Int32} {σ' : St} (h : s_X11_firstPart a0 a1 a2 a3 σ = some (r, σ')) : Ex M_X11_firstPart (2) [.ref a0, .int (a1), .int (a2), .int (a3)] σ (some (.int r)) σ' := by
  unfold s_X11_firstPart at h
  refine ex_of (by decide) rfl (Nat.le_of_ble_eq_true rfl) ?_
  show Ev _ _ 0 [(0, .ref a0), (1, .int (a1)), (2, .int (a2)), (3, .int (a3))] [] _ _ _
  refine ev_iconst (v := 0) dX11_firstPart_0 (by decide) ?_
  refine ev_istore (ls' := [(4, .int (0)), (0, .ref a0), (1, .int (a1)), (2, .int (a2)), (3, .int (a3))]) dX11_firstPart_1 (by decide) rfl ?_
  refine ev_sub (ls' := [(0, .ref a0), (1, .int (a1)), (2, .int (a2)), (3, .int (a3)), (4, .int (0))]) [1, 2, 3, 4, 0] rfl ?_
  exact e_X11_firstPart_3 16000 h
def s_X11_isReached (a0 : Nat) (a1 : Int32) (a2 : Int32) (a3 : Int32) (σ : St) : Option (Int32 × St) :=
 if isO σ 11 a0 = true then (op (sP σ a0 8) fun p2 =>
 if isO σ 13 p2 = true then (if inR a1 (alen σ p2) = true then (lt (sI σ p2 a1.toNatClampNeg : Int32) fun v6 =>
 op (sP σ a0 9) fun p8 =>
 if isO σ 13 p8 = true then (if inR a1 (alen σ p8) = true then (lt (sI σ p8 a1.toNatClampNeg : Int32) fun v12 =>
 op (sP σ a0 7) fun p14 =>
 if isO σ 13 p14 = true then (if inR a1 (alen σ p14) = true then (lt (sI σ p14 a1.toNatClampNeg : Int32) fun v18 =>
 if v18 = 0 then (bd (s_X11_firstFor a0 v6 a2 a3 σ) fun r23 σ21 =>
 if r23 < 0 then (some (0, σ21)) else (some (1, σ21))) else (if v18 = 1 then (if a2 = 0 then (some (1, σ)) else (some (0, σ))) else (if v18 = 2 then (some (1, σ)) else (if v18 = 3 then (if a2 = 0 then (bd (s_X11_isBelow a0 v6 0 a3 σ) fun r32 σ30 =>
 if r32 = 0 then (some (0, σ30)) else (some (1, σ30))) else (some (0, σ))) else (if v18 = 4 then (bd (s_X11_firstPart a0 a1 a2 a3 σ) fun r37 σ35 =>
 if r37 < 0 then (some (0, σ35)) else (some (1, σ35))) else (if v18 = 5 then (bd (s_X11_isBelow a0 v6 a2 a3 σ) fun r42 σ40 =>
 if r42 = 0 then (some (0, σ40)) else (if isO σ40 11 a0 = true then (bd (s_X11_isBelow a0 v12 a2 a3 σ40) fun r47 σ45 =>
 if r47 = 0 then (some (0, σ45)) else (some (1, σ45))) else none)) else (if v18 = 6 then (bd (s_X11_isBelow a0 v6 a2 a3 σ) fun r52 σ50 =>
 if r52 = 0 then (if isO σ50 11 a0 = true then (bd (s_X11_isBelow a0 v12 a2 a3 σ50) fun r57 σ55 =>
 if r57 = 0 then (some (0, σ55)) else (some (1, σ55))) else none) else (some (1, σ50))) else (bd (s_X11_has a2 v12 σ) fun r61 σ59 =>
 if r61 = 0 then (if isO σ59 11 a0 = true then (bd (s_X11_isBelow a0 v6 (a2 ||| (1 <<< (v12 &&& 31))) a3 σ59) fun r66 σ64 =>
 if r66 = 0 then (some (0, σ64)) else (some (1, σ64))) else none) else (some (0, σ59)))))))))) else none) else none) else none) else none) else none) else none) else none
set_option maxHeartbeats 4000000 in
set_option maxRecDepth 100000 in
theorem x_X11_isReached {a0 : Nat} {a1 : Int32} {a2 : Int32} {a3 : Int32} {σ : St} {r : Int32} {σ' : St} (h : s_X11_isReached a0 a1 a2 a3 σ = some (r, σ')) : Ex M_X11_isReached (4) [.ref a0, .int (a1), .int (a2), .int (a3)] σ (some (.int r)) σ' := by
  unfold s_X11_isReached at h
  refine ex_of (by decide) rfl (Nat.le_of_ble_eq_true rfl) ?_
  show Ev _ _ 0 [(0, .ref a0), (1, .int (a1)), (2, .int (a2)), (3, .int (a3))] [] _ _ _
  refine ev_aload_nR 0 dX11_isReached_0 rfl ?_
  obtain ⟨g1, h⟩ := gd_some h
  obtain ⟨p2, e3, h⟩ := op_some h
  refine ev_getPR dX11_isReached_1 fl_X11_26 rfl g1 e3 ?_
  refine ev_iload_n 1 dX11_isReached_4 rfl ?_
  obtain ⟨g4, h⟩ := gd_some h
  obtain ⟨g5, h⟩ := gd_some h
  refine ev_iald dX11_isReached_5 (isA_O g4) g5 ?_
  obtain ⟨v6, e7, h⟩ := lt_some h
  refine ev_topI e7 ?_
  refine ev_istore (ls' := [(4, .int (v6)), (0, .ref a0), (1, .int (a1)), (2, .int (a2)), (3, .int (a3))]) dX11_isReached_6 (by decide) rfl ?_
  refine ev_aload_nR 1 dX11_isReached_8 rfl ?_
  obtain ⟨p8, e9, h⟩ := op_some h
  refine ev_getPR dX11_isReached_9 fl_X11_29 rfl g1 e9 ?_
  refine ev_iload_n 2 dX11_isReached_12 rfl ?_
  obtain ⟨g10, h⟩ := gd_some h
  obtain ⟨g11, h⟩ := gd_some h
  refine ev_iald dX11_isReached_13 (isA_O g10) g11 ?_
  obtain ⟨v12, e13, h⟩ := lt_some h
  refine ev_topI e13 ?_
  refine ev_istore (ls' := [(5, .int (v12)), (4, .int (v6)), (0, .ref a0), (1, .int (a1)), (2, .int (a2)), (3, .int (a3))]) dX11_isReached_14 (by decide) rfl ?_
  refine ev_aload_nR 2 dX11_isReached_16 rfl ?_
  obtain ⟨p14, e15, h⟩ := op_some h
  refine ev_getPR dX11_isReached_17 fl_X11_23 rfl g1 e15 ?_
  refine ev_iload_n 3 dX11_isReached_20 rfl ?_
  obtain ⟨g16, h⟩ := gd_some h
  obtain ⟨g17, h⟩ := gd_some h
  refine ev_iald dX11_isReached_21 (isA_O g16) g17 ?_
  obtain ⟨v18, e19, h⟩ := lt_some h
  refine ev_topI e19 ?_
  rcases it_some h with ⟨c20, h⟩ | ⟨c20, h⟩
  · refine ev_tableIn (off := 42) (tgt := 64) dX11_isReached_22 0 (by rw [c20]; decide) (by decide) rfl rfl ?_
    refine ev_aload_nR 2 dX11_isReached_64 rfl ?_
    refine ev_iload 1 dX11_isReached_65 rfl ?_
    refine ev_iload_n 4 dX11_isReached_67 rfl ?_
    refine ev_iload_n 5 dX11_isReached_68 rfl ?_
    obtain ⟨r23, σ21, e22, h⟩ := bd_some h
    refine ev_invVi (As := [.int (v6), .int (a2), .int (a3)]) (st := []) dX11_isReached_69 cb_X11_firstFor tp_1178 tp_1180 tp_72 kf11 rfl (by omega) g1 rfl rfl (Nat.le_of_ble_eq_true rfl) (x_X11_firstFor e22) ?_
    rcases it_some h with ⟨c24, h⟩ | ⟨c24, h⟩
    · refine ev_if_lt (tgt := 79) dX11_isReached_72 rfl c24 ?_
      refine ev_iconst (v := 0) dX11_isReached_79 (by decide) ?_
      exact ev_retI .boolean dX11_isReached_80 rfl rfl h
    · refine ev_if_lt_n 79 dX11_isReached_72 rfl c24 ?_
      refine ev_iconst (v := 1) dX11_isReached_75 (by decide) ?_
      refine ev_goto (tgt := 80) dX11_isReached_76 rfl ?_
      exact ev_retI .boolean dX11_isReached_80 rfl rfl h
  rcases it_some h with ⟨c25, h⟩ | ⟨c25, h⟩
  · refine ev_tableIn (off := 59) (tgt := 81) dX11_isReached_22 1 (by rw [c25]; decide) (by decide) rfl rfl ?_
    refine ev_iload_n 4 dX11_isReached_81 rfl ?_
    rcases it_some h with ⟨c26, h⟩ | ⟨c26, h⟩
    · refine ev_if_ne_n 89 dX11_isReached_82 rfl c26 ?_
      refine ev_iconst (v := 1) dX11_isReached_85 (by decide) ?_
      refine ev_goto (tgt := 90) dX11_isReached_86 rfl ?_
      exact ev_retI .boolean dX11_isReached_90 rfl rfl h
    · refine ev_if_ne (tgt := 89) dX11_isReached_82 rfl c26 ?_
      refine ev_iconst (v := 0) dX11_isReached_89 (by decide) ?_
      exact ev_retI .boolean dX11_isReached_90 rfl rfl h
  rcases it_some h with ⟨c27, h⟩ | ⟨c27, h⟩
  · refine ev_tableIn (off := 69) (tgt := 91) dX11_isReached_22 2 (by rw [c27]; decide) (by decide) rfl rfl ?_
    refine ev_iconst (v := 1) dX11_isReached_91 (by decide) ?_
    exact ev_retI .boolean dX11_isReached_92 rfl rfl h
  rcases it_some h with ⟨c28, h⟩ | ⟨c28, h⟩
  · refine ev_tableIn (off := 71) (tgt := 93) dX11_isReached_22 3 (by rw [c28]; decide) (by decide) rfl rfl ?_
    refine ev_iload_n 4 dX11_isReached_93 rfl ?_
    rcases it_some h with ⟨c29, h⟩ | ⟨c29, h⟩
    · refine ev_if_ne_n 112 dX11_isReached_94 rfl c29 ?_
      refine ev_aload_nR 2 dX11_isReached_97 rfl ?_
      refine ev_iload 1 dX11_isReached_98 rfl ?_
      refine ev_iconst (v := 0) dX11_isReached_100 (by decide) ?_
      refine ev_iload_n 5 dX11_isReached_101 rfl ?_
      obtain ⟨r32, σ30, e31, h⟩ := bd_some h
      refine ev_invVi (As := [.int (v6), .int (0), .int (a3)]) (st := []) dX11_isReached_102 cb_X11_isBelow tp_1189 tp_1191 tp_74 kf11 rfl (by omega) g1 rfl rfl (Nat.le_of_ble_eq_true rfl) (x_X11_isBelow e31) ?_
      rcases it_some h with ⟨c33, h⟩ | ⟨c33, h⟩
      · refine ev_if_eq (tgt := 112) dX11_isReached_105 rfl c33 ?_
        refine ev_iconst (v := 0) dX11_isReached_112 (by decide) ?_
        exact ev_retI .boolean dX11_isReached_113 rfl rfl h
      · refine ev_if_eq_n 112 dX11_isReached_105 rfl c33 ?_
        refine ev_iconst (v := 1) dX11_isReached_108 (by decide) ?_
        refine ev_goto (tgt := 113) dX11_isReached_109 rfl ?_
        exact ev_retI .boolean dX11_isReached_113 rfl rfl h
    · refine ev_if_ne (tgt := 112) dX11_isReached_94 rfl c29 ?_
      refine ev_iconst (v := 0) dX11_isReached_112 (by decide) ?_
      exact ev_retI .boolean dX11_isReached_113 rfl rfl h
  rcases it_some h with ⟨c34, h⟩ | ⟨c34, h⟩
  · refine ev_tableIn (off := 92) (tgt := 114) dX11_isReached_22 4 (by rw [c34]; decide) (by decide) rfl rfl ?_
    refine ev_aload_nR 2 dX11_isReached_114 rfl ?_
    refine ev_iload_n 3 dX11_isReached_115 rfl ?_
    refine ev_iload_n 4 dX11_isReached_116 rfl ?_
    refine ev_iload_n 5 dX11_isReached_117 rfl ?_
    obtain ⟨r37, σ35, e36, h⟩ := bd_some h
    refine ev_invVi (As := [.int (a1), .int (a2), .int (a3)]) (st := []) dX11_isReached_118 cb_X11_firstPart tp_1193 tp_1195 tp_75 kf11 rfl (by omega) g1 rfl rfl (Nat.le_of_ble_eq_true rfl) (x_X11_firstPart e36) ?_
    rcases it_some h with ⟨c38, h⟩ | ⟨c38, h⟩
    · refine ev_if_lt (tgt := 128) dX11_isReached_121 rfl c38 ?_
      refine ev_iconst (v := 0) dX11_isReached_128 (by decide) ?_
      exact ev_retI .boolean dX11_isReached_129 rfl rfl h
    · refine ev_if_lt_n 128 dX11_isReached_121 rfl c38 ?_
      refine ev_iconst (v := 1) dX11_isReached_124 (by decide) ?_
      refine ev_goto (tgt := 129) dX11_isReached_125 rfl ?_
      exact ev_retI .boolean dX11_isReached_129 rfl rfl h
  rcases it_some h with ⟨c39, h⟩ | ⟨c39, h⟩
  · refine ev_tableIn (off := 108) (tgt := 130) dX11_isReached_22 5 (by rw [c39]; decide) (by decide) rfl rfl ?_
    refine ev_aload_nR 2 dX11_isReached_130 rfl ?_
    refine ev_iload 1 dX11_isReached_131 rfl ?_
    refine ev_iload_n 4 dX11_isReached_133 rfl ?_
    refine ev_iload_n 5 dX11_isReached_134 rfl ?_
    obtain ⟨r42, σ40, e41, h⟩ := bd_some h
    refine ev_invVi (As := [.int (v6), .int (a2), .int (a3)]) (st := []) dX11_isReached_135 cb_X11_isBelow tp_1189 tp_1191 tp_74 kf11 rfl (by omega) g1 rfl rfl (Nat.le_of_ble_eq_true rfl) (x_X11_isBelow e41) ?_
    rcases it_some h with ⟨c43, h⟩ | ⟨c43, h⟩
    · refine ev_if_eq (tgt := 156) dX11_isReached_138 rfl c43 ?_
      refine ev_iconst (v := 0) dX11_isReached_156 (by decide) ?_
      exact ev_retI .boolean dX11_isReached_157 rfl rfl h
    · refine ev_if_eq_n 156 dX11_isReached_138 rfl c43 ?_
      refine ev_aload_nR 2 dX11_isReached_141 rfl ?_
      refine ev_iload 0 dX11_isReached_142 rfl ?_
      refine ev_iload_n 4 dX11_isReached_144 rfl ?_
      refine ev_iload_n 5 dX11_isReached_145 rfl ?_
      obtain ⟨g44, h⟩ := gd_some h
      obtain ⟨r47, σ45, e46, h⟩ := bd_some h
      refine ev_invVi (As := [.int (v12), .int (a2), .int (a3)]) (st := []) dX11_isReached_146 cb_X11_isBelow tp_1189 tp_1191 tp_74 kf11 rfl (by omega) g44 rfl rfl (Nat.le_of_ble_eq_true rfl) (x_X11_isBelow e46) ?_
      rcases it_some h with ⟨c48, h⟩ | ⟨c48, h⟩
      · refine ev_if_eq (tgt := 156) dX11_isReached_149 rfl c48 ?_
        refine ev_iconst (v := 0) dX11_isReached_156 (by decide) ?_
        exact ev_retI .boolean dX11_isReached_157 rfl rfl h
      · refine ev_if_eq_n 156 dX11_isReached_149 rfl c48 ?_
        refine ev_iconst (v := 1) dX11_isReached_152 (by decide) ?_
        refine ev_goto (tgt := 157) dX11_isReached_153 rfl ?_
        exact ev_retI .boolean dX11_isReached_157 rfl rfl h
  rcases it_some h with ⟨c49, h⟩ | ⟨c49, h⟩
  · refine ev_tableIn (off := 136) (tgt := 158) dX11_isReached_22 6 (by rw [c49]; decide) (by decide) rfl rfl ?_
    refine ev_aload_nR 2 dX11_isReached_158 rfl ?_
    refine ev_iload 1 dX11_isReached_159 rfl ?_
    refine ev_iload_n 4 dX11_isReached_161 rfl ?_
    refine ev_iload_n 5 dX11_isReached_162 rfl ?_
    obtain ⟨r52, σ50, e51, h⟩ := bd_some h
    refine ev_invVi (As := [.int (v6), .int (a2), .int (a3)]) (st := []) dX11_isReached_163 cb_X11_isBelow tp_1189 tp_1191 tp_74 kf11 rfl (by omega) g1 rfl rfl (Nat.le_of_ble_eq_true rfl) (x_X11_isBelow e51) ?_
    rcases it_some h with ⟨c53, h⟩ | ⟨c53, h⟩
    · refine ev_if_ne_n 180 dX11_isReached_166 rfl c53 ?_
      refine ev_aload_nR 2 dX11_isReached_169 rfl ?_
      refine ev_iload 0 dX11_isReached_170 rfl ?_
      refine ev_iload_n 4 dX11_isReached_172 rfl ?_
      refine ev_iload_n 5 dX11_isReached_173 rfl ?_
      obtain ⟨g54, h⟩ := gd_some h
      obtain ⟨r57, σ55, e56, h⟩ := bd_some h
      refine ev_invVi (As := [.int (v12), .int (a2), .int (a3)]) (st := []) dX11_isReached_174 cb_X11_isBelow tp_1189 tp_1191 tp_74 kf11 rfl (by omega) g54 rfl rfl (Nat.le_of_ble_eq_true rfl) (x_X11_isBelow e56) ?_
      rcases it_some h with ⟨c58, h⟩ | ⟨c58, h⟩
      · refine ev_if_eq (tgt := 184) dX11_isReached_177 rfl c58 ?_
        refine ev_iconst (v := 0) dX11_isReached_184 (by decide) ?_
        exact ev_retI .boolean dX11_isReached_185 rfl rfl h
      · refine ev_if_eq_n 184 dX11_isReached_177 rfl c58 ?_
        refine ev_iconst (v := 1) dX11_isReached_180 (by decide) ?_
        refine ev_goto (tgt := 185) dX11_isReached_181 rfl ?_
        exact ev_retI .boolean dX11_isReached_185 rfl rfl h
    · refine ev_if_ne (tgt := 180) dX11_isReached_166 rfl c53 ?_
      refine ev_iconst (v := 1) dX11_isReached_180 (by decide) ?_
      refine ev_goto (tgt := 185) dX11_isReached_181 rfl ?_
      exact ev_retI .boolean dX11_isReached_185 rfl rfl h
  have hx : v18.toInt < 0 ∨ 6 < v18.toInt := tab_out v18 0 6 (by decide) (fun k h1 h2 => by
      rcases (show k = 0 ∨ k = 1 ∨ k = 2 ∨ k = 3 ∨ k = 4 ∨ k = 5 ∨ k = 6 by omega) with rfl | rfl | rfl | rfl | rfl | rfl | rfl
      · exact ne_toInt c20
      · exact ne_toInt c25
      · exact ne_toInt c27
      · exact ne_toInt c28
      · exact ne_toInt c34
      · exact ne_toInt c39
      · exact ne_toInt c49)
  refine ev_tableOut (tgt := 186) dX11_isReached_22 hx rfl ?_
  refine ev_iload_n 4 dX11_isReached_186 rfl ?_
  refine ev_iload 0 dX11_isReached_187 rfl ?_
  obtain ⟨r61, σ59, e60, h⟩ := bd_some h
  refine ev_invSi (As := [.int (a2), .int (v12)]) (st := []) dX11_isReached_189 cb_X11_has tp_1182 tp_1183 (by omega) rfl rfl (Nat.le_of_ble_eq_true rfl) (x_X11_has e60) ?_
  rcases it_some h with ⟨c62, h⟩ | ⟨c62, h⟩
  · refine ev_if_ne_n 215 dX11_isReached_192 rfl c62 ?_
    refine ev_aload_nR 2 dX11_isReached_195 rfl ?_
    refine ev_iload 1 dX11_isReached_196 rfl ?_
    refine ev_iload_n 4 dX11_isReached_198 rfl ?_
    refine ev_iconst (v := 1) dX11_isReached_199 (by decide) ?_
    refine ev_iload 0 dX11_isReached_200 rfl ?_
    refine ev_ishl dX11_isReached_202 ?_
    refine ev_ior dX11_isReached_203 ?_
    refine ev_iload_n 5 dX11_isReached_204 rfl ?_
    obtain ⟨g63, h⟩ := gd_some h
    obtain ⟨r66, σ64, e65, h⟩ := bd_some h
    refine ev_invVi (As := [.int (v6), .int (a2 ||| (1 <<< (v12 &&& 31))), .int (a3)]) (st := []) dX11_isReached_205 cb_X11_isBelow tp_1189 tp_1191 tp_74 kf11 rfl (by omega) g63 rfl rfl (Nat.le_of_ble_eq_true rfl) (x_X11_isBelow e65) ?_
    rcases it_some h with ⟨c67, h⟩ | ⟨c67, h⟩
    · refine ev_if_eq (tgt := 215) dX11_isReached_208 rfl c67 ?_
      refine ev_iconst (v := 0) dX11_isReached_215 (by decide) ?_
      exact ev_retI .boolean dX11_isReached_216 rfl rfl h
    · refine ev_if_eq_n 215 dX11_isReached_208 rfl c67 ?_
      refine ev_iconst (v := 1) dX11_isReached_211 (by decide) ?_
      refine ev_goto (tgt := 216) dX11_isReached_212 rfl ?_
      exact ev_retI .boolean dX11_isReached_216 rfl rfl h
  · refine ev_if_ne (tgt := 215) dX11_isReached_192 rfl c62 ?_
    refine ev_iconst (v := 0) dX11_isReached_215 (by decide) ?_
    exact ev_retI .boolean dX11_isReached_216 rfl rfl h
def sb_X11_lay_57 (k49 : Nat → Int32 → St → Option (Unit × St)) (k57 : Nat → Int32 → Int32 → St → Option (Unit × St)) (a0 : Nat) (a1 : Int32) (a2 : Int32) (σ : St) : Option (Unit × St) :=
 if isO σ 11 a0 = true then (if ((256 : Int32) * (sI σ a0 5)) ≤ a2 then (lt (a1 + 1 : Int32) fun v3 =>
 k49 a0 v3 σ) else (op (sP σ a0 22) fun p5 =>
 if isO σ 13 p5 = true then (if inR a2 (alen σ p5) = true then (if (sI σ p5 a2.toNatClampNeg) = 0 then (bd (s_X11_isReached a0 (a2 / 256) (a2 - a2 / 256 * 256) a1 σ) fun r14 σ12 =>
 if r14 = 0 then (lt (a2 + 1 : Int32) fun v16 =>
 k57 a0 a1 v16 σ12) else (if isO σ12 11 a0 = true then (op (sP σ12 a0 22) fun p19 =>
 if isO σ12 13 p19 = true then (if inR a2 (alen σ12 p19) = true then (lt (setI σ12 p19 a2.toNatClampNeg a1) fun σ23 =>
 lt (a2 + 1 : Int32) fun v25 =>
 k57 a0 a1 v25 σ23) else none) else none) else none)) else (lt (a2 + 1 : Int32) fun v10 =>
 k57 a0 a1 v10 σ)) else none) else none)) else none
def s_X11_lay_57 (k49 : Nat → Int32 → St → Option (Unit × St)) (F : Nat) : Nat → Int32 → Int32 → St → Option (Unit × St) := lp (fun _ _ _ _ => none) (sb_X11_lay_57 k49) F
set_option maxHeartbeats 4000000 in
set_option maxRecDepth 100000 in
theorem e_X11_lay_57 {r : Unit} {σ' : St} {k49 : Nat → Int32 → St → Option (Unit × St)} (hk49 : ∀ {y0 : Nat} {y1 : Int32} {σ : St}, k49 y0 y1 σ = some (r, σ') → Ev M_X11_lay (7) 49 [(0, .ref y0), (1, .int (y1))] [] σ none σ') (F : Nat) : ∀ {a0 : Nat} {a1 : Int32} {a2 : Int32} {σ : St}, s_X11_lay_57 k49 F a0 a1 a2 σ = some (r, σ') → Ev M_X11_lay (7) 57 [(0, .ref a0), (1, .int (a1)), (2, .int (a2))] [] σ none σ' := by
  induction F with
  | zero => intro a0 a1 a2 σ h; cases h
  | succ F ih =>
    intro a0 a1 a2 σ h
    change sb_X11_lay_57 k49 (s_X11_lay_57 k49 F) a0 a1 a2 σ = some (r, σ') at h
    unfold sb_X11_lay_57 at h
    have hk57 := @ih
    refine ev_iload_n 2 dX11_lay_57 rfl ?_
    refine ev_sipush (v := 256) dX11_lay_58 (by decide) ?_
    refine ev_aload_nR 0 dX11_lay_61 rfl ?_
    obtain ⟨g1, h⟩ := gd_some h
    refine ev_getI dX11_lay_62 fl_X11_92 rfl g1 ?_
    refine ev_imul dX11_lay_65 ?_
    rcases it_some h with ⟨c2, h⟩ | ⟨c2, h⟩
    · refine ev_icmp_ge (tgt := 109) dX11_lay_66 rfl c2 ?_
      obtain ⟨v3, e4, h⟩ := lt_some h
      refine ev_iinc (v := v3) (ls' := [(1, .int (v3)), (0, .ref a0), (2, .int (a2))]) 1 dX11_lay_109 rfl e4.symm (by decide) rfl ?_
      refine ev_goto (tgt := 49) dX11_lay_112 rfl ?_
      refine ev_sub (ls' := [(0, .ref a0), (1, .int (v3))]) [1, 0] rfl ?_
      exact hk49 h
    · refine ev_icmp_ge_n 109 dX11_lay_66 rfl c2 ?_
      refine ev_aload_nR 0 dX11_lay_69 rfl ?_
      obtain ⟨p5, e6, h⟩ := op_some h
      refine ev_getPR dX11_lay_70 fl_X11_57 rfl g1 e6 ?_
      refine ev_iload_n 2 dX11_lay_73 rfl ?_
      obtain ⟨g7, h⟩ := gd_some h
      obtain ⟨g8, h⟩ := gd_some h
      refine ev_iald dX11_lay_74 (isA_O g7) g8 ?_
      rcases it_some h with ⟨c9, h⟩ | ⟨c9, h⟩
      · refine ev_if_ne_n 103 dX11_lay_75 rfl c9 ?_
        refine ev_aload_nR 0 dX11_lay_78 rfl ?_
        refine ev_iload_n 2 dX11_lay_79 rfl ?_
        refine ev_sipush (v := 256) dX11_lay_80 (by decide) ?_
        refine ev_idiv dX11_lay_83 (by decide) ?_
        refine ev_iload_n 2 dX11_lay_84 rfl ?_
        refine ev_sipush (v := 256) dX11_lay_85 (by decide) ?_
        refine ev_irem dX11_lay_88 (by decide) ?_
        refine ev_iload_n 1 dX11_lay_89 rfl ?_
        obtain ⟨r14, σ12, e13, h⟩ := bd_some h
        refine ev_invVi (As := [.int (a2 / 256), .int (a2 - a2 / 256 * 256), .int (a1)]) (st := []) dX11_lay_90 cb_X11_isReached tp_1174 tp_1176 tp_71 kf11 rfl (by omega) g1 rfl rfl (Nat.le_of_ble_eq_true rfl) (x_X11_isReached e13) ?_
        rcases it_some h with ⟨c15, h⟩ | ⟨c15, h⟩
        · refine ev_if_eq (tgt := 103) dX11_lay_93 rfl c15 ?_
          obtain ⟨v16, e17, h⟩ := lt_some h
          refine ev_iinc (v := v16) (ls' := [(2, .int (v16)), (0, .ref a0), (1, .int (a1))]) 2 dX11_lay_103 rfl e17.symm (by decide) rfl ?_
          refine ev_goto (tgt := 57) dX11_lay_106 rfl ?_
          refine ev_sub (ls' := [(0, .ref a0), (1, .int (a1)), (2, .int (v16))]) [1, 2, 0] rfl ?_
          exact hk57 h
        · refine ev_if_eq_n 103 dX11_lay_93 rfl c15 ?_
          refine ev_aload_nR 0 dX11_lay_96 rfl ?_
          obtain ⟨g18, h⟩ := gd_some h
          obtain ⟨p19, e20, h⟩ := op_some h
          refine ev_getPR dX11_lay_97 fl_X11_57 rfl g18 e20 ?_
          refine ev_iload_n 2 dX11_lay_100 rfl ?_
          refine ev_iload_n 1 dX11_lay_101 rfl ?_
          obtain ⟨g21, h⟩ := gd_some h
          obtain ⟨g22, h⟩ := gd_some h
          obtain ⟨σ23, e24, h⟩ := lt_some h
          refine ev_iast dX11_lay_102 (isO_spec g21).1 (isA_O g21) g22 ?_
          refine ev_st e24 ?_
          obtain ⟨v25, e26, h⟩ := lt_some h
          refine ev_iinc (v := v25) (ls' := [(2, .int (v25)), (0, .ref a0), (1, .int (a1))]) 2 dX11_lay_103 rfl e26.symm (by decide) rfl ?_
          refine ev_goto (tgt := 57) dX11_lay_106 rfl ?_
          refine ev_sub (ls' := [(0, .ref a0), (1, .int (a1)), (2, .int (v25))]) [1, 2, 0] rfl ?_
          exact hk57 h
      · refine ev_if_ne (tgt := 103) dX11_lay_75 rfl c9 ?_
        obtain ⟨v10, e11, h⟩ := lt_some h
        refine ev_iinc (v := v10) (ls' := [(2, .int (v10)), (0, .ref a0), (1, .int (a1))]) 2 dX11_lay_103 rfl e11.symm (by decide) rfl ?_
        refine ev_goto (tgt := 57) dX11_lay_106 rfl ?_
        refine ev_sub (ls' := [(0, .ref a0), (1, .int (a1)), (2, .int (v10))]) [1, 2, 0] rfl ?_
        exact hk57 h
def sb_X11_lay_49 (k49 : Nat → Int32 → St → Option (Unit × St)) (a0 : Nat) (a1 : Int32) (σ : St) : Option (Unit × St) :=
 if (10 : Int32) < a1 then (some ((), σ)) else (s_X11_lay_57 k49 16000 a0 a1 0 σ)
def s_X11_lay_49 (F : Nat) : Nat → Int32 → St → Option (Unit × St) := lp (fun _ _ _ => none) (sb_X11_lay_49 ) F
set_option maxHeartbeats 4000000 in
set_option maxRecDepth 100000 in
theorem e_X11_lay_49 {r : Unit} {σ' : St} (F : Nat) : ∀ {a0 : Nat} {a1 : Int32} {σ : St}, s_X11_lay_49 F a0 a1 σ = some (r, σ') → Ev M_X11_lay (7) 49 [(0, .ref a0), (1, .int (a1))] [] σ none σ' := by
  induction F with
  | zero => intro a0 a1 σ h; cases h
  | succ F ih =>
    intro a0 a1 σ h
    change sb_X11_lay_49  (s_X11_lay_49 F) a0 a1 σ = some (r, σ') at h
    unfold sb_X11_lay_49 at h
    have hk49 := @ih
    refine ev_iload_n 1 dX11_lay_49 rfl ?_
    refine ev_bipush (v := 10) dX11_lay_50 (by decide) ?_
    rcases it_some h with ⟨c27, h⟩ | ⟨c27, h⟩
    · refine ev_icmp_gt (tgt := 115) dX11_lay_52 rfl c27 ?_
      exact ev_retV dX11_lay_115 rfl h
    · refine ev_icmp_gt_n 115 dX11_lay_52 rfl c27 ?_
      refine ev_iconst (v := 0) dX11_lay_55 (by decide) ?_
      refine ev_istore_n (ls' := [(2, .int (0)), (0, .ref a0), (1, .int (a1))]) dX11_lay_56 (by decide) rfl ?_
      refine ev_sub (ls' := [(0, .ref a0), (1, .int (a1)), (2, .int (0))]) [1, 2, 0] rfl ?_
      exact e_X11_lay_57 hk49 16000 h
def sb_X11_lay_22 (k22 : Nat → Int32 → St → Option (Unit × St)) (a0 : Nat) (a1 : Int32) (σ : St) : Option (Unit × St) :=
 if isO σ 11 a0 = true then (if ((256 : Int32) * (sI σ a0 5)) ≤ a1 then (s_X11_lay_49 16000 a0 1 σ) else (op (sP σ a0 22) fun p30 =>
 if isO σ 13 p30 = true then (if inR a1 (alen σ p30) = true then (lt (setI σ p30 a1.toNatClampNeg 0) fun σ34 =>
 lt (a1 + 1 : Int32) fun v36 =>
 k22 a0 v36 σ34) else none) else none)) else none
def s_X11_lay_22 (F : Nat) : Nat → Int32 → St → Option (Unit × St) := lp (fun _ _ _ => none) (sb_X11_lay_22 ) F
set_option maxHeartbeats 4000000 in
set_option maxRecDepth 100000 in
theorem e_X11_lay_22 {r : Unit} {σ' : St} (F : Nat) : ∀ {a0 : Nat} {a1 : Int32} {σ : St}, s_X11_lay_22 F a0 a1 σ = some (r, σ') → Ev M_X11_lay (7) 22 [(0, .ref a0), (1, .int (a1))] [] σ none σ' := by
  induction F with
  | zero => intro a0 a1 σ h; cases h
  | succ F ih =>
    intro a0 a1 σ h
    change sb_X11_lay_22  (s_X11_lay_22 F) a0 a1 σ = some (r, σ') at h
    unfold sb_X11_lay_22 at h
    have hk22 := @ih
    refine ev_iload_n 1 dX11_lay_22 rfl ?_
    refine ev_sipush (v := 256) dX11_lay_23 (by decide) ?_
    refine ev_aload_nR 0 dX11_lay_26 rfl ?_
    obtain ⟨g28, h⟩ := gd_some h
    refine ev_getI dX11_lay_27 fl_X11_92 rfl g28 ?_
    refine ev_imul dX11_lay_30 ?_
    rcases it_some h with ⟨c29, h⟩ | ⟨c29, h⟩
    · refine ev_icmp_ge (tgt := 47) dX11_lay_31 rfl c29 ?_
      refine ev_iconst (v := 1) dX11_lay_47 (by decide) ?_
      refine ev_istore_n (ls' := [(1, .int (1)), (0, .ref a0)]) dX11_lay_48 (by decide) rfl ?_
      refine ev_sub (ls' := [(0, .ref a0), (1, .int (1))]) [1, 0] rfl ?_
      exact e_X11_lay_49 16000 h
    · refine ev_icmp_ge_n 47 dX11_lay_31 rfl c29 ?_
      refine ev_aload_nR 0 dX11_lay_34 rfl ?_
      obtain ⟨p30, e31, h⟩ := op_some h
      refine ev_getPR dX11_lay_35 fl_X11_57 rfl g28 e31 ?_
      refine ev_iload_n 1 dX11_lay_38 rfl ?_
      refine ev_iconst (v := 0) dX11_lay_39 (by decide) ?_
      obtain ⟨g32, h⟩ := gd_some h
      obtain ⟨g33, h⟩ := gd_some h
      obtain ⟨σ34, e35, h⟩ := lt_some h
      refine ev_iast dX11_lay_40 (isO_spec g32).1 (isA_O g32) g33 ?_
      refine ev_st e35 ?_
      obtain ⟨v36, e37, h⟩ := lt_some h
      refine ev_iinc (v := v36) (ls' := [(1, .int (v36)), (0, .ref a0)]) 1 dX11_lay_41 rfl e37.symm (by decide) rfl ?_
      refine ev_goto (tgt := 22) dX11_lay_44 rfl ?_
      refine ev_sub (ls' := [(0, .ref a0), (1, .int (v36))]) [1, 0] rfl ?_
      exact hk22 h
def s_X11_lay (a0 : Nat) (σ : St) : Option (Unit × St) :=
 if isO σ 11 a0 = true then (if (sI σ a0 21) = 0 then (some ((), σ)) else (lt (setI σ a0 21 0) fun σ40 =>
 bd (s_X11_readAll a0 1 ((-6)) σ40) fun r44 σ42 =>
 s_X11_lay_22 16000 a0 0 σ42)) else none
set_option maxHeartbeats 4000000 in
set_option maxRecDepth 100000 in
theorem x_X11_lay {a0 : Nat} {σ : St} {r : Unit} {σ' : St} (h : s_X11_lay a0 σ = some (r, σ')) : Ex M_X11_lay (7) [.ref a0] σ none σ' := by
  unfold s_X11_lay at h
  refine ex_of (by decide) rfl (Nat.le_of_ble_eq_true rfl) ?_
  show Ev _ _ 0 [(0, .ref a0)] [] _ _ _
  refine ev_aload_nR 0 dX11_lay_0 rfl ?_
  obtain ⟨g38, h⟩ := gd_some h
  refine ev_getI dX11_lay_1 fl_X11_53 rfl g38 ?_
  rcases it_some h with ⟨c39, h⟩ | ⟨c39, h⟩
  · refine ev_if_ne_n 8 dX11_lay_4 rfl c39 ?_
    exact ev_retV dX11_lay_7 rfl h
  · refine ev_if_ne (tgt := 8) dX11_lay_4 rfl c39 ?_
    refine ev_aload_nR 0 dX11_lay_8 rfl ?_
    refine ev_iconst (v := 0) dX11_lay_9 (by decide) ?_
    obtain ⟨σ40, e41, h⟩ := lt_some h
    refine ev_putI dX11_lay_10 fl_X11_53 rfl (Or.inl rfl) g38 ⟨rfl, rfl⟩ ?_
    refine ev_st e41 ?_
    refine ev_aload_nR 0 dX11_lay_13 rfl ?_
    refine ev_iconst (v := 1) dX11_lay_14 (by decide) ?_
    refine ev_bipush (v := (-6)) dX11_lay_15 (by decide) ?_
    obtain ⟨r44, σ42, e43, h⟩ := bd_some h
    refine ev_invVv (As := [.int (1), .int ((-6))]) (st := []) dX11_lay_17 cb_X11_readAll tp_1124 tp_1126 tp_65 kf11 rfl (by omega) (isO_I e41 g38) rfl rfl (Nat.le_of_ble_eq_true rfl) (x_X11_readAll e43) ?_
    refine ev_iconst (v := 0) dX11_lay_20 (by decide) ?_
    refine ev_istore_n (ls' := [(1, .int (0)), (0, .ref a0)]) dX11_lay_21 (by decide) rfl ?_
    refine ev_sub (ls' := [(0, .ref a0), (1, .int (0))]) [1, 0] rfl ?_
    exact e_X11_lay_22 16000 h
def s_X11_isGoal (a0 : Nat) (σ : St) : Option (Int32 × St) :=
 if isO σ 11 a0 = true then (op (sP σ a0 1) fun p2 =>
 if isO σ 13 p2 = true then (if inR 0 (alen σ p2) = true then (if (sI σ p2 ((0 : Int32).toNatClampNeg)) < 0 then (some (0, σ)) else (some (1, σ))) else none) else none) else none
set_option maxHeartbeats 4000000 in
set_option maxRecDepth 100000 in
theorem x_X11_isGoal {a0 : Nat} {σ : St} {r : Int32} {σ' : St} (h : s_X11_isGoal a0 σ = some (r, σ')) : Ex M_X11_isGoal (1) [.ref a0] σ (some (.int r)) σ' := by
  unfold s_X11_isGoal at h
  refine ex_of (by decide) rfl (Nat.le_of_ble_eq_true rfl) ?_
  show Ev _ _ 0 [(0, .ref a0)] [] _ _ _
  refine ev_aload_nR 0 dX11_isGoal_0 rfl ?_
  obtain ⟨g1, h⟩ := gd_some h
  obtain ⟨p2, e3, h⟩ := op_some h
  refine ev_getPR dX11_isGoal_1 fl_X11_13 rfl g1 e3 ?_
  refine ev_iconst (v := 0) dX11_isGoal_4 (by decide) ?_
  obtain ⟨g4, h⟩ := gd_some h
  obtain ⟨g5, h⟩ := gd_some h
  refine ev_iald dX11_isGoal_5 (isA_O g4) g5 ?_
  rcases it_some h with ⟨c6, h⟩ | ⟨c6, h⟩
  · refine ev_if_lt (tgt := 13) dX11_isGoal_6 rfl c6 ?_
    refine ev_iconst (v := 0) dX11_isGoal_13 (by decide) ?_
    exact ev_retI .boolean dX11_isGoal_14 rfl rfl h
  · refine ev_if_lt_n 13 dX11_isGoal_6 rfl c6 ?_
    refine ev_iconst (v := 1) dX11_isGoal_9 (by decide) ?_
    refine ev_goto (tgt := 14) dX11_isGoal_10 rfl ?_
    exact ev_retI .boolean dX11_isGoal_14 rfl rfl h
def s_X11_all (a0 : Nat) (σ : St) : Option (Int32 × St) :=
 if isO σ 11 a0 = true then (bd (s_X11_there a0 1 5 σ) fun r4 σ2 =>
 some (r4, σ2)) else none
set_option maxHeartbeats 4000000 in
set_option maxRecDepth 100000 in
theorem x_X11_all {a0 : Nat} {σ : St} {r : Int32} {σ' : St} (h : s_X11_all a0 σ = some (r, σ')) : Ex M_X11_all (2) [.ref a0] σ (some (.int r)) σ' := by
  unfold s_X11_all at h
  refine ex_of (by decide) rfl (Nat.le_of_ble_eq_true rfl) ?_
  show Ev _ _ 0 [(0, .ref a0)] [] _ _ _
  refine ev_aload_nR 0 dX11_all_0 rfl ?_
  refine ev_iconst (v := 1) dX11_all_1 (by decide) ?_
  refine ev_iconst (v := 5) dX11_all_2 (by decide) ?_
  obtain ⟨g1, h⟩ := gd_some h
  obtain ⟨r4, σ2, e3, h⟩ := bd_some h
  refine ev_invVi (As := [.int (1), .int (5)]) (st := []) dX11_all_3 cb_X11_there tp_1147 tp_1149 tp_66 kf11 rfl (by omega) g1 rfl rfl (Nat.le_of_ble_eq_true rfl) (x_X11_there e3) ?_
  exact ev_retI .int dX11_all_6 rfl rfl h
def s_X11_heightOf (a0 : Nat) (a1 : Int32) (σ : St) : Option (Int32 × St) :=
 if isO σ 11 a0 = true then (op (sP σ a0 22) fun p2 =>
 if isO σ 13 p2 = true then (if inR ((256 * (sI σ a0 10)) + a1) (alen σ p2) = true then (if (sI σ p2 (((256 * (sI σ a0 10)) + a1).toNatClampNeg)) = 0 then (some ((-6), σ)) else (if inR ((256 * (sI σ a0 10)) + a1) (alen σ p2) = true then (some (sI σ p2 (((256 * (sI σ a0 10)) + a1).toNatClampNeg), σ)) else none)) else none) else none) else none
set_option maxHeartbeats 4000000 in
set_option maxRecDepth 100000 in
theorem x_X11_heightOf {a0 : Nat} {a1 : Int32} {σ : St} {r : Int32} {σ' : St} (h : s_X11_heightOf a0 a1 σ = some (r, σ')) : Ex M_X11_heightOf (1) [.ref a0, .int (a1)] σ (some (.int r)) σ' := by
  unfold s_X11_heightOf at h
  refine ex_of (by decide) rfl (Nat.le_of_ble_eq_true rfl) ?_
  show Ev _ _ 0 [(0, .ref a0), (1, .int (a1))] [] _ _ _
  refine ev_aload_nR 0 dX11_heightOf_0 rfl ?_
  obtain ⟨g1, h⟩ := gd_some h
  obtain ⟨p2, e3, h⟩ := op_some h
  refine ev_getPR dX11_heightOf_1 fl_X11_57 rfl g1 e3 ?_
  refine ev_sipush (v := 256) dX11_heightOf_4 (by decide) ?_
  refine ev_aload_nR 0 dX11_heightOf_7 rfl ?_
  refine ev_getI dX11_heightOf_8 fl_X11_98 rfl g1 ?_
  refine ev_imul dX11_heightOf_11 ?_
  refine ev_iload_n 1 dX11_heightOf_12 rfl ?_
  refine ev_iadd dX11_heightOf_13 ?_
  obtain ⟨g4, h⟩ := gd_some h
  obtain ⟨g5, h⟩ := gd_some h
  refine ev_iald dX11_heightOf_14 (isA_O g4) g5 ?_
  rcases it_some h with ⟨c6, h⟩ | ⟨c6, h⟩
  · refine ev_if_ne_n 23 dX11_heightOf_15 rfl c6 ?_
    refine ev_bipush (v := (-6)) dX11_heightOf_18 (by decide) ?_
    refine ev_goto (tgt := 38) dX11_heightOf_20 rfl ?_
    exact ev_retI .int dX11_heightOf_38 rfl rfl h
  · refine ev_if_ne (tgt := 23) dX11_heightOf_15 rfl c6 ?_
    refine ev_aload_nR 0 dX11_heightOf_23 rfl ?_
    refine ev_getPR dX11_heightOf_24 fl_X11_57 rfl g1 e3 ?_
    refine ev_sipush (v := 256) dX11_heightOf_27 (by decide) ?_
    refine ev_aload_nR 0 dX11_heightOf_30 rfl ?_
    refine ev_getI dX11_heightOf_31 fl_X11_98 rfl g1 ?_
    refine ev_imul dX11_heightOf_34 ?_
    refine ev_iload_n 1 dX11_heightOf_35 rfl ?_
    refine ev_iadd dX11_heightOf_36 ?_
    obtain ⟨g7, h⟩ := gd_some h
    refine ev_iald dX11_heightOf_37 (isA_O g4) g7 ?_
    exact ev_retI .int dX11_heightOf_38 rfl rfl h
def s_X11_areThere (a0 : Nat) (a1 : Int32) (σ : St) : Option (Int32 × St) :=
 if a1 < 0 then (some (0, σ)) else (if isO σ 11 a0 = true then (bd (s_X11_all a0 σ) fun r5 σ3 =>
 if (a1 &&& (r5 ^^^ ((-1)))) = 0 then (some (1, σ3)) else (some (0, σ3))) else none)
set_option maxHeartbeats 4000000 in
set_option maxRecDepth 100000 in
theorem x_X11_areThere {a0 : Nat} {a1 : Int32} {σ : St} {r : Int32} {σ' : St} (h : s_X11_areThere a0 a1 σ = some (r, σ')) : Ex M_X11_areThere (3) [.ref a0, .int (a1)] σ (some (.int r)) σ' := by
  unfold s_X11_areThere at h
  refine ex_of (by decide) rfl (Nat.le_of_ble_eq_true rfl) ?_
  show Ev _ _ 0 [(0, .ref a0), (1, .int (a1))] [] _ _ _
  refine ev_iload_n 1 dX11_areThere_0 rfl ?_
  rcases it_some h with ⟨c1, h⟩ | ⟨c1, h⟩
  · refine ev_if_lt (tgt := 19) dX11_areThere_1 rfl c1 ?_
    refine ev_iconst (v := 0) dX11_areThere_19 (by decide) ?_
    exact ev_retI .boolean dX11_areThere_20 rfl rfl h
  · refine ev_if_lt_n 19 dX11_areThere_1 rfl c1 ?_
    refine ev_iload_n 1 dX11_areThere_4 rfl ?_
    refine ev_aload_nR 0 dX11_areThere_5 rfl ?_
    obtain ⟨g2, h⟩ := gd_some h
    obtain ⟨r5, σ3, e4, h⟩ := bd_some h
    refine ev_invVi (As := []) (st := [.int (a1)]) dX11_areThere_6 cb_X11_all tp_1162 tp_1164 tp_68 kf11 rfl (by omega) g2 rfl rfl (Nat.le_of_ble_eq_true rfl) (x_X11_all e4) ?_
    refine ev_iconst (v := (-1)) dX11_areThere_9 (by decide) ?_
    refine ev_ixor dX11_areThere_10 ?_
    refine ev_iand dX11_areThere_11 ?_
    rcases it_some h with ⟨c6, h⟩ | ⟨c6, h⟩
    · refine ev_if_ne_n 19 dX11_areThere_12 rfl c6 ?_
      refine ev_iconst (v := 1) dX11_areThere_15 (by decide) ?_
      refine ev_goto (tgt := 20) dX11_areThere_16 rfl ?_
      exact ev_retI .boolean dX11_areThere_20 rfl rfl h
    · refine ev_if_ne (tgt := 19) dX11_areThere_12 rfl c6 ?_
      refine ev_iconst (v := 0) dX11_areThere_19 (by decide) ?_
      exact ev_retI .boolean dX11_areThere_20 rfl rfl h
def s_X11_height (a0 : Nat) (a1 : Int32) (σ : St) : Option (Int32 × St) :=
 if isO σ 11 a0 = true then (bd (s_X11_areThere a0 a1 σ) fun r4 σ2 =>
 if r4 = 0 then (some ((-1), σ2)) else (if isO σ2 11 a0 = true then (bd (s_X11_isGoal a0 σ2) fun r9 σ7 =>
 if r9 = 0 then (some ((-3), σ7)) else (if isO σ7 11 a0 = true then (bd (s_X11_lay a0 σ7) fun r14 σ12 =>
 if isO σ12 11 a0 = true then (bd (s_X11_heightOf a0 a1 σ12) fun r18 σ16 =>
 some (r18, σ16)) else none) else none)) else none)) else none
set_option maxHeartbeats 4000000 in
set_option maxRecDepth 100000 in
theorem x_X11_height {a0 : Nat} {a1 : Int32} {σ : St} {r : Int32} {σ' : St} (h : s_X11_height a0 a1 σ = some (r, σ')) : Ex M_X11_height (8) [.ref a0, .int (a1)] σ (some (.int r)) σ' := by
  unfold s_X11_height at h
  refine ex_of (by decide) rfl (Nat.le_of_ble_eq_true rfl) ?_
  show Ev _ _ 0 [(0, .ref a0), (1, .int (a1))] [] _ _ _
  refine ev_aload_nR 0 dX11_height_0 rfl ?_
  refine ev_iload_n 1 dX11_height_1 rfl ?_
  obtain ⟨g1, h⟩ := gd_some h
  obtain ⟨r4, σ2, e3, h⟩ := bd_some h
  refine ev_invVi (As := [.int (a1)]) (st := []) dX11_height_2 cb_X11_areThere tp_1158 tp_1160 tp_67 kf11 rfl (by omega) g1 rfl rfl (Nat.le_of_ble_eq_true rfl) (x_X11_areThere e3) ?_
  rcases it_some h with ⟨c5, h⟩ | ⟨c5, h⟩
  · refine ev_if_ne_n 10 dX11_height_5 rfl c5 ?_
    refine ev_iconst (v := (-1)) dX11_height_8 (by decide) ?_
    exact ev_retI .int dX11_height_9 rfl rfl h
  · refine ev_if_ne (tgt := 10) dX11_height_5 rfl c5 ?_
    refine ev_aload_nR 0 dX11_height_10 rfl ?_
    obtain ⟨g6, h⟩ := gd_some h
    obtain ⟨r9, σ7, e8, h⟩ := bd_some h
    refine ev_invVi (As := []) (st := []) dX11_height_11 cb_X11_isGoal tp_1166 tp_1168 tp_69 kf11 rfl (by omega) g6 rfl rfl (Nat.le_of_ble_eq_true rfl) (x_X11_isGoal e8) ?_
    rcases it_some h with ⟨c10, h⟩ | ⟨c10, h⟩
    · refine ev_if_ne_n 20 dX11_height_14 rfl c10 ?_
      refine ev_bipush (v := (-3)) dX11_height_17 (by decide) ?_
      exact ev_retI .int dX11_height_19 rfl rfl h
    · refine ev_if_ne (tgt := 20) dX11_height_14 rfl c10 ?_
      refine ev_aload_nR 0 dX11_height_20 rfl ?_
      obtain ⟨g11, h⟩ := gd_some h
      obtain ⟨r14, σ12, e13, h⟩ := bd_some h
      refine ev_invVv (As := []) (st := []) dX11_height_21 cb_X11_lay tp_1170 tp_1172 tp_70 kf11 rfl (by omega) g11 rfl rfl (Nat.le_of_ble_eq_true rfl) (x_X11_lay e13) ?_
      refine ev_aload_nR 0 dX11_height_24 rfl ?_
      refine ev_iload_n 1 dX11_height_25 rfl ?_
      obtain ⟨g15, h⟩ := gd_some h
      obtain ⟨r18, σ16, e17, h⟩ := bd_some h
      refine ev_invVi (As := [.int (a1)]) (st := []) dX11_height_26 cb_X11_heightOf tp_1197 tp_1199 tp_76 kf11 rfl (by omega) g15 rfl rfl (Nat.le_of_ble_eq_true rfl) (x_X11_heightOf e17) ?_
      exact ev_retI .int dX11_height_29 rfl rfl h
def sb_X11_left_37 (k37 : Nat → Int32 → Int32 → Int32 → Int32 → St → Option (Int32 × St)) (a0 : Nat) (a1 : Int32) (a2 : Int32) (a3 : Int32) (a4 : Int32) (σ : St) : Option (Int32 × St) :=
 if (32 : Int32) ≤ a4 then (if a2 = ((-1)) then (some (a3, σ)) else (some ((-6), σ))) else (if isO σ 11 a0 = true then (bd (s_X11_all a0 σ) fun r6 σ4 =>
 if (a4 &&& (r6 ^^^ ((-1)))) = 0 then (if isO σ4 11 a0 = true then (bd (s_X11_all a0 σ4) fun r13 σ11 =>
 if isO σ11 11 a0 = true then (bd (s_X11_isBelow a0 (sI σ4 a0 10) (r13 &&& (a4 ^^^ ((-1)))) (a1 + 1) σ11) fun r17 σ15 =>
 if r17 = 0 then (lt (a4 + 1 : Int32) fun v19 =>
 k37 a0 a1 a2 a3 v19 σ15) else (if a3 = a2 then (some (a4, σ15)) else (lt (a3 + 1 : Int32) fun v22 =>
 lt (a4 + 1 : Int32) fun v24 =>
 k37 a0 a1 a2 v22 v24 σ15))) else none) else none) else (lt (a4 + 1 : Int32) fun v8 =>
 k37 a0 a1 a2 a3 v8 σ4)) else none)
def s_X11_left_37 (F : Nat) : Nat → Int32 → Int32 → Int32 → Int32 → St → Option (Int32 × St) := lp (fun _ _ _ _ _ _ => none) (sb_X11_left_37 ) F
set_option maxHeartbeats 4000000 in
set_option maxRecDepth 100000 in
theorem e_X11_left_37 {r : Int32} {σ' : St} (F : Nat) : ∀ {a0 : Nat} {a1 : Int32} {a2 : Int32} {a3 : Int32} {a4 : Int32} {σ : St}, s_X11_left_37 F a0 a1 a2 a3 a4 σ = some (r, σ') → Ev M_X11_left (8) 37 [(0, .ref a0), (1, .int (a1)), (2, .int (a2)), (3, .int (a3)), (4, .int (a4))] [] σ (some (.int r)) σ' := by
  induction F with
  | zero => intro a0 a1 a2 a3 a4 σ h; cases h
  | succ F ih =>
    intro a0 a1 a2 a3 a4 σ h
    change sb_X11_left_37  (s_X11_left_37 F) a0 a1 a2 a3 a4 σ = some (r, σ') at h
    unfold sb_X11_left_37 at h
    have hk37 := @ih
    refine ev_iload 4 dX11_left_37 rfl ?_
    refine ev_bipush (v := 32) dX11_left_39 (by decide) ?_
    rcases it_some h with ⟨c1, h⟩ | ⟨c1, h⟩
    · refine ev_icmp_ge (tgt := 96) dX11_left_41 rfl c1 ?_
      refine ev_iload_n 2 dX11_left_96 rfl ?_
      refine ev_iconst (v := (-1)) dX11_left_97 (by decide) ?_
      rcases it_some h with ⟨c2, h⟩ | ⟨c2, h⟩
      · refine ev_icmp_ne_n 105 dX11_left_98 rfl c2 ?_
        refine ev_iload_n 3 dX11_left_101 rfl ?_
        refine ev_goto (tgt := 107) dX11_left_102 rfl ?_
        exact ev_retI .int dX11_left_107 rfl rfl h
      · refine ev_icmp_ne (tgt := 105) dX11_left_98 rfl c2 ?_
        refine ev_bipush (v := (-6)) dX11_left_105 (by decide) ?_
        exact ev_retI .int dX11_left_107 rfl rfl h
    · refine ev_icmp_ge_n 96 dX11_left_41 rfl c1 ?_
      refine ev_iload 4 dX11_left_44 rfl ?_
      refine ev_aload_nR 0 dX11_left_46 rfl ?_
      obtain ⟨g3, h⟩ := gd_some h
      obtain ⟨r6, σ4, e5, h⟩ := bd_some h
      refine ev_invVi (As := []) (st := [.int (a4)]) dX11_left_47 cb_X11_all tp_1162 tp_1164 tp_68 kf11 rfl (by omega) g3 rfl rfl (Nat.le_of_ble_eq_true rfl) (x_X11_all e5) ?_
      refine ev_iconst (v := (-1)) dX11_left_50 (by decide) ?_
      refine ev_ixor dX11_left_51 ?_
      refine ev_iand dX11_left_52 ?_
      rcases it_some h with ⟨c7, h⟩ | ⟨c7, h⟩
      · refine ev_if_ne_n 90 dX11_left_53 rfl c7 ?_
        refine ev_aload_nR 0 dX11_left_56 rfl ?_
        refine ev_aload_nR 0 dX11_left_57 rfl ?_
        obtain ⟨g10, h⟩ := gd_some h
        refine ev_getI dX11_left_58 fl_X11_98 rfl g10 ?_
        refine ev_aload_nR 0 dX11_left_61 rfl ?_
        obtain ⟨r13, σ11, e12, h⟩ := bd_some h
        refine ev_invVi (As := []) (st := [.int (sI σ4 a0 10), .ref a0]) dX11_left_62 cb_X11_all tp_1162 tp_1164 tp_68 kf11 rfl (by omega) g10 rfl rfl (Nat.le_of_ble_eq_true rfl) (x_X11_all e12) ?_
        refine ev_iload 4 dX11_left_65 rfl ?_
        refine ev_iconst (v := (-1)) dX11_left_67 (by decide) ?_
        refine ev_ixor dX11_left_68 ?_
        refine ev_iand dX11_left_69 ?_
        refine ev_iload_n 1 dX11_left_70 rfl ?_
        refine ev_iconst (v := 1) dX11_left_71 (by decide) ?_
        refine ev_iadd dX11_left_72 ?_
        obtain ⟨g14, h⟩ := gd_some h
        obtain ⟨r17, σ15, e16, h⟩ := bd_some h
        refine ev_invVi (As := [.int (sI σ4 a0 10), .int (r13 &&& (a4 ^^^ ((-1)))), .int (a1 + 1)]) (st := []) dX11_left_73 cb_X11_isBelow tp_1189 tp_1191 tp_74 kf11 rfl (by omega) g14 rfl rfl (Nat.le_of_ble_eq_true rfl) (x_X11_isBelow e16) ?_
        rcases it_some h with ⟨c18, h⟩ | ⟨c18, h⟩
        · refine ev_if_eq (tgt := 90) dX11_left_76 rfl c18 ?_
          obtain ⟨v19, e20, h⟩ := lt_some h
          refine ev_iinc (v := v19) (ls' := [(4, .int (v19)), (0, .ref a0), (1, .int (a1)), (2, .int (a2)), (3, .int (a3))]) 4 dX11_left_90 rfl e20.symm (by decide) rfl ?_
          refine ev_goto (tgt := 37) dX11_left_93 rfl ?_
          refine ev_sub (ls' := [(0, .ref a0), (1, .int (a1)), (2, .int (a2)), (3, .int (a3)), (4, .int (v19))]) [1, 2, 3, 4, 0] rfl ?_
          exact hk37 h
        · refine ev_if_eq_n 90 dX11_left_76 rfl c18 ?_
          refine ev_iload_n 3 dX11_left_79 rfl ?_
          refine ev_iload_n 2 dX11_left_80 rfl ?_
          rcases it_some h with ⟨c21, h⟩ | ⟨c21, h⟩
          · refine ev_icmp_ne_n 87 dX11_left_81 rfl c21 ?_
            refine ev_iload 4 dX11_left_84 rfl ?_
            exact ev_retI .int dX11_left_86 rfl rfl h
          · refine ev_icmp_ne (tgt := 87) dX11_left_81 rfl c21 ?_
            obtain ⟨v22, e23, h⟩ := lt_some h
            refine ev_iinc (v := v22) (ls' := [(3, .int (v22)), (0, .ref a0), (1, .int (a1)), (2, .int (a2)), (4, .int (a4))]) 3 dX11_left_87 rfl e23.symm (by decide) rfl ?_
            obtain ⟨v24, e25, h⟩ := lt_some h
            refine ev_iinc (v := v24) (ls' := [(4, .int (v24)), (3, .int (v22)), (0, .ref a0), (1, .int (a1)), (2, .int (a2))]) 4 dX11_left_90 rfl e25.symm (by decide) rfl ?_
            refine ev_goto (tgt := 37) dX11_left_93 rfl ?_
            refine ev_sub (ls' := [(0, .ref a0), (1, .int (a1)), (2, .int (a2)), (3, .int (v22)), (4, .int (v24))]) [2, 3, 4, 1, 0] rfl ?_
            exact hk37 h
      · refine ev_if_ne (tgt := 90) dX11_left_53 rfl c7 ?_
        obtain ⟨v8, e9, h⟩ := lt_some h
        refine ev_iinc (v := v8) (ls' := [(4, .int (v8)), (0, .ref a0), (1, .int (a1)), (2, .int (a2)), (3, .int (a3))]) 4 dX11_left_90 rfl e9.symm (by decide) rfl ?_
        refine ev_goto (tgt := 37) dX11_left_93 rfl ?_
        refine ev_sub (ls' := [(0, .ref a0), (1, .int (a1)), (2, .int (a2)), (3, .int (a3)), (4, .int (v8))]) [1, 2, 3, 4, 0] rfl ?_
        exact hk37 h
def s_X11_left (a0 : Nat) (a1 : Int32) (a2 : Int32) (σ : St) : Option (Int32 × St) :=
 bd (s_X11_in a1 0 10 σ) fun r28 σ26 =>
 if r28 = 0 then (some ((-2), σ26)) else (if ((-1)) ≤ a2 then (if isO σ26 11 a0 = true then (bd (s_X11_isGoal a0 σ26) fun r34 σ32 =>
 if r34 = 0 then (some ((-3), σ32)) else (if isO σ32 11 a0 = true then (bd (s_X11_lay a0 σ32) fun r39 σ37 =>
 s_X11_left_37 16000 a0 a1 a2 0 0 σ37) else none)) else none) else (some ((-2), σ26)))
set_option maxHeartbeats 4000000 in
set_option maxRecDepth 100000 in
theorem x_X11_left {a0 : Nat} {a1 : Int32} {a2 : Int32} {σ : St} {r : Int32} {σ' : St} (h : s_X11_left a0 a1 a2 σ = some (r, σ')) : Ex M_X11_left (8) [.ref a0, .int (a1), .int (a2)] σ (some (.int r)) σ' := by
  unfold s_X11_left at h
  refine ex_of (by decide) rfl (Nat.le_of_ble_eq_true rfl) ?_
  show Ev _ _ 0 [(0, .ref a0), (1, .int (a1)), (2, .int (a2))] [] _ _ _
  refine ev_iload_n 1 dX11_left_0 rfl ?_
  refine ev_iconst (v := 0) dX11_left_1 (by decide) ?_
  refine ev_bipush (v := 10) dX11_left_2 (by decide) ?_
  obtain ⟨r28, σ26, e27, h⟩ := bd_some h
  refine ev_invSi (As := [.int (a1), .int (0), .int (10)]) (st := []) dX11_left_4 cb_X11_in tp_1066 tp_1067 (by omega) rfl rfl (Nat.le_of_ble_eq_true rfl) (x_X11_in e27) ?_
  rcases it_some h with ⟨c29, h⟩ | ⟨c29, h⟩
  · refine ev_if_eq (tgt := 15) dX11_left_7 rfl c29 ?_
    refine ev_bipush (v := (-2)) dX11_left_15 (by decide) ?_
    exact ev_retI .int dX11_left_17 rfl rfl h
  · refine ev_if_eq_n 15 dX11_left_7 rfl c29 ?_
    refine ev_iload_n 2 dX11_left_10 rfl ?_
    refine ev_iconst (v := (-1)) dX11_left_11 (by decide) ?_
    rcases it_some h with ⟨c30, h⟩ | ⟨c30, h⟩
    · refine ev_icmp_ge (tgt := 18) dX11_left_12 rfl c30 ?_
      refine ev_aload_nR 0 dX11_left_18 rfl ?_
      obtain ⟨g31, h⟩ := gd_some h
      obtain ⟨r34, σ32, e33, h⟩ := bd_some h
      refine ev_invVi (As := []) (st := []) dX11_left_19 cb_X11_isGoal tp_1166 tp_1168 tp_69 kf11 rfl (by omega) g31 rfl rfl (Nat.le_of_ble_eq_true rfl) (x_X11_isGoal e33) ?_
      rcases it_some h with ⟨c35, h⟩ | ⟨c35, h⟩
      · refine ev_if_ne_n 28 dX11_left_22 rfl c35 ?_
        refine ev_bipush (v := (-3)) dX11_left_25 (by decide) ?_
        exact ev_retI .int dX11_left_27 rfl rfl h
      · refine ev_if_ne (tgt := 28) dX11_left_22 rfl c35 ?_
        refine ev_aload_nR 0 dX11_left_28 rfl ?_
        obtain ⟨g36, h⟩ := gd_some h
        obtain ⟨r39, σ37, e38, h⟩ := bd_some h
        refine ev_invVv (As := []) (st := []) dX11_left_29 cb_X11_lay tp_1170 tp_1172 tp_70 kf11 rfl (by omega) g36 rfl rfl (Nat.le_of_ble_eq_true rfl) (x_X11_lay e38) ?_
        refine ev_iconst (v := 0) dX11_left_32 (by decide) ?_
        refine ev_istore_n (ls' := [(3, .int (0)), (0, .ref a0), (1, .int (a1)), (2, .int (a2))]) dX11_left_33 (by decide) rfl ?_
        refine ev_iconst (v := 0) dX11_left_34 (by decide) ?_
        refine ev_istore (ls' := [(4, .int (0)), (3, .int (0)), (0, .ref a0), (1, .int (a1)), (2, .int (a2))]) dX11_left_35 (by decide) rfl ?_
        refine ev_sub (ls' := [(0, .ref a0), (1, .int (a1)), (2, .int (a2)), (3, .int (0)), (4, .int (0))]) [2, 3, 4, 1, 0] rfl ?_
        exact e_X11_left_37 16000 h
    · refine ev_icmp_ge_n 18 dX11_left_12 rfl c30 ?_
      refine ev_bipush (v := (-2)) dX11_left_15 (by decide) ?_
      exact ev_retI .int dX11_left_17 rfl rfl h
def s_X11_capped (a0 : Int64) (σ : St) : Option (Int64 × St) :=
 if (lg_cmp a0 999999999) ≤ 0 then (some (a0, σ)) else (some (999999999, σ))
set_option maxHeartbeats 4000000 in
set_option maxRecDepth 100000 in
theorem x_X11_capped {a0 : Int64} {σ : St} {r : Int64} {σ' : St} (h : s_X11_capped a0 σ = some (r, σ')) : Ex M_X11_capped (1) [.long (a0)] σ (some (.long r)) σ' := by
  unfold s_X11_capped at h
  refine ex_of (by decide) rfl (Nat.le_of_ble_eq_true rfl) ?_
  show Ev _ _ 0 [(0, .long (a0))] [] _ _ _
  refine ev_lload_n 0 dX11_capped_0 rfl ?_
  refine ev_ldc2 dX11_capped_1 tp_1232 ?_
  refine ev_lcmp dX11_capped_4 ?_
  rcases it_some h with ⟨c1, h⟩ | ⟨c1, h⟩
  · refine ev_if_le (tgt := 14) dX11_capped_5 rfl c1 ?_
    refine ev_lload_n 0 dX11_capped_14 rfl ?_
    exact ev_retL dX11_capped_15 rfl h
  · refine ev_if_le_n 14 dX11_capped_5 rfl c1 ?_
    refine ev_ldc2 dX11_capped_8 tp_1232 ?_
    refine ev_goto (tgt := 15) dX11_capped_11 rfl ?_
    exact ev_retL dX11_capped_15 rfl h
def s_X11_waysBelow (a0 : Nat) (a1 : Int32) (a2 : Int32) (σ : St) : Option (Int64 × St) :=
 if isO σ 11 a0 = true then (op (sP σ a0 23) fun p2 =>
 if isO σ 14 p2 = true then (if inR ((256 * a1) + a2) (alen σ p2) = true then (some (sL σ p2 (((256 * a1) + a2).toNatClampNeg), σ)) else none) else none) else none
set_option maxHeartbeats 4000000 in
set_option maxRecDepth 100000 in
theorem x_X11_waysBelow {a0 : Nat} {a1 : Int32} {a2 : Int32} {σ : St} {r : Int64} {σ' : St} (h : s_X11_waysBelow a0 a1 a2 σ = some (r, σ')) : Ex M_X11_waysBelow (1) [.ref a0, .int (a1), .int (a2)] σ (some (.long r)) σ' := by
  unfold s_X11_waysBelow at h
  refine ex_of (by decide) rfl (Nat.le_of_ble_eq_true rfl) ?_
  show Ev _ _ 0 [(0, .ref a0), (1, .int (a1)), (2, .int (a2))] [] _ _ _
  refine ev_aload_nR 0 dX11_waysBelow_0 rfl ?_
  obtain ⟨g1, h⟩ := gd_some h
  obtain ⟨p2, e3, h⟩ := op_some h
  refine ev_getPR dX11_waysBelow_1 fl_X11_60 rfl g1 e3 ?_
  refine ev_sipush (v := 256) dX11_waysBelow_4 (by decide) ?_
  refine ev_iload_n 1 dX11_waysBelow_7 rfl ?_
  refine ev_imul dX11_waysBelow_8 ?_
  refine ev_iload_n 2 dX11_waysBelow_9 rfl ?_
  refine ev_iadd dX11_waysBelow_10 ?_
  obtain ⟨g4, h⟩ := gd_some h
  obtain ⟨g5, h⟩ := gd_some h
  refine ev_lald dX11_waysBelow_11 (isA_O g4) g5 ?_
  exact ev_retL dX11_waysBelow_12 rfl h
def s_X11_waysBy_72 (k6 : Nat → Int32 → Int32 → Int32 → Int64 → Int32 → St → Option (Int64 × St)) (a0 : Nat) (a1 : Int32) (a2 : Int32) (a3 : Int32) (a6 : Int32) (t0 : Int64) (t1 : Int64) (σ : St) : Option (Int64 × St) :=
 lt (t0 + t1 : Int64) fun v1 =>
 lt (a6 + 1 : Int32) fun v3 =>
 k6 a0 a1 a2 a3 v1 v3 σ
set_option maxHeartbeats 4000000 in
set_option maxRecDepth 100000 in
theorem e_X11_waysBy_72 {r : Int64} {σ' : St} {k6 : Nat → Int32 → Int32 → Int32 → Int64 → Int32 → St → Option (Int64 × St)} (hk6 : ∀ {y0 : Nat} {y1 : Int32} {y2 : Int32} {y3 : Int32} {y4 : Int64} {y5 : Int32} {σ : St}, k6 y0 y1 y2 y3 y4 y5 σ = some (r, σ') → Ev M_X11_waysBy (2) 6 [(0, .ref y0), (1, .int (y1)), (2, .int (y2)), (3, .int (y3)), (4, .long (y4)), (6, .int (y5))] [] σ (some (.long r)) σ') : ∀ {a0 : Nat} {a1 : Int32} {a2 : Int32} {a3 : Int32} {a6 : Int32} {t0 : Int64} {t1 : Int64} {σ : St}, s_X11_waysBy_72 k6 a0 a1 a2 a3 a6 t0 t1 σ = some (r, σ') → Ev M_X11_waysBy (2) 72 [(0, .ref a0), (1, .int (a1)), (2, .int (a2)), (3, .int (a3)), (6, .int (a6))] [.long (t1), .long (t0)] σ (some (.long r)) σ' := by
  intro a0 a1 a2 a3 a6 t0 t1 σ h
  unfold s_X11_waysBy_72 at h
  refine ev_ladd dX11_waysBy_72 ?_
  obtain ⟨v1, e2, h⟩ := lt_some h
  refine ev_topL e2 ?_
  refine ev_lstore (ls' := [(4, .long (v1)), (0, .ref a0), (1, .int (a1)), (2, .int (a2)), (3, .int (a3)), (6, .int (a6))]) dX11_waysBy_73 (by decide) rfl ?_
  obtain ⟨v3, e4, h⟩ := lt_some h
  refine ev_iinc (v := v3) (ls' := [(6, .int (v3)), (4, .long (v1)), (0, .ref a0), (1, .int (a1)), (2, .int (a2)), (3, .int (a3))]) 5 dX11_waysBy_75 rfl e4.symm (by decide) rfl ?_
  refine ev_goto (tgt := 6) dX11_waysBy_78 rfl ?_
  refine ev_sub (ls' := [(0, .ref a0), (1, .int (a1)), (2, .int (a2)), (3, .int (a3)), (4, .long (v1)), (6, .int (v3))]) [2, 3, 4, 5, 1, 0] rfl ?_
  exact hk6 h
def sb_X11_waysBy_6 (k6 : Nat → Int32 → Int32 → Int32 → Int64 → Int32 → St → Option (Int64 × St)) (a0 : Nat) (a1 : Int32) (a2 : Int32) (a3 : Int32) (a4 : Int64) (a6 : Int32) (σ : St) : Option (Int64 × St) :=
 if isO σ 11 a0 = true then (op (sP σ a0 11) fun p6 =>
 if isO σ 13 p6 = true then (if inR a1 (alen σ p6) = true then (if (sI σ p6 a1.toNatClampNeg) ≤ a6 then (some (a4, σ)) else (lt ((3 * a1) + a6 : Int32) fun v11 =>
 op (sP σ a0 12) fun p13 =>
 if isO σ 13 p13 = true then (if inR v11 (alen σ p13) = true then (if (sI σ p13 v11.toNatClampNeg) = a2 then (op (sP σ a0 13) fun p20 =>
 if isO σ 13 p20 = true then (if inR v11 (alen σ p20) = true then (if (0 : Int32) ≤ (sI σ p20 v11.toNatClampNeg) then (if inR v11 (alen σ p20) = true then (bd (s_X11_waysBelow a0 (sI σ p20 v11.toNatClampNeg) a3 σ) fun r28 σ26 =>
 s_X11_waysBy_72 k6 a0 a1 a2 a3 a6 a4 r28 σ26) else none) else (if a3 = 0 then (s_X11_waysBy_72 k6 a0 a1 a2 a3 a6 a4 1 σ) else (s_X11_waysBy_72 k6 a0 a1 a2 a3 a6 a4 0 σ))) else none) else none) else (lt (a6 + 1 : Int32) fun v18 =>
 k6 a0 a1 a2 a3 a4 v18 σ)) else none) else none)) else none) else none) else none
def s_X11_waysBy_6 (F : Nat) : Nat → Int32 → Int32 → Int32 → Int64 → Int32 → St → Option (Int64 × St) := lp (fun _ _ _ _ _ _ _ => none) (sb_X11_waysBy_6 ) F
set_option maxHeartbeats 4000000 in
set_option maxRecDepth 100000 in
theorem e_X11_waysBy_6 {r : Int64} {σ' : St} (F : Nat) : ∀ {a0 : Nat} {a1 : Int32} {a2 : Int32} {a3 : Int32} {a4 : Int64} {a6 : Int32} {σ : St}, s_X11_waysBy_6 F a0 a1 a2 a3 a4 a6 σ = some (r, σ') → Ev M_X11_waysBy (2) 6 [(0, .ref a0), (1, .int (a1)), (2, .int (a2)), (3, .int (a3)), (4, .long (a4)), (6, .int (a6))] [] σ (some (.long r)) σ' := by
  induction F with
  | zero => intro a0 a1 a2 a3 a4 a6 σ h; cases h
  | succ F ih =>
    intro a0 a1 a2 a3 a4 a6 σ h
    change sb_X11_waysBy_6  (s_X11_waysBy_6 F) a0 a1 a2 a3 a4 a6 σ = some (r, σ') at h
    unfold sb_X11_waysBy_6 at h
    have hk6 := @ih
    refine ev_iload 5 dX11_waysBy_6 rfl ?_
    refine ev_aload_nR 0 dX11_waysBy_8 rfl ?_
    obtain ⟨g5, h⟩ := gd_some h
    obtain ⟨p6, e7, h⟩ := op_some h
    refine ev_getPR dX11_waysBy_9 fl_X11_32 rfl g5 e7 ?_
    refine ev_iload_n 1 dX11_waysBy_12 rfl ?_
    obtain ⟨g8, h⟩ := gd_some h
    obtain ⟨g9, h⟩ := gd_some h
    refine ev_iald dX11_waysBy_13 (isA_O g8) g9 ?_
    rcases it_some h with ⟨c10, h⟩ | ⟨c10, h⟩
    · refine ev_icmp_ge (tgt := 81) dX11_waysBy_14 rfl c10 ?_
      refine ev_lload 4 dX11_waysBy_81 rfl ?_
      exact ev_retL dX11_waysBy_83 rfl h
    · refine ev_icmp_ge_n 81 dX11_waysBy_14 rfl c10 ?_
      refine ev_iconst (v := 3) dX11_waysBy_17 (by decide) ?_
      refine ev_iload_n 1 dX11_waysBy_18 rfl ?_
      refine ev_imul dX11_waysBy_19 ?_
      refine ev_iload 5 dX11_waysBy_20 rfl ?_
      refine ev_iadd dX11_waysBy_22 ?_
      obtain ⟨v11, e12, h⟩ := lt_some h
      refine ev_topI e12 ?_
      refine ev_istore (ls' := [(7, .int (v11)), (0, .ref a0), (1, .int (a1)), (2, .int (a2)), (3, .int (a3)), (4, .long (a4)), (6, .int (a6))]) dX11_waysBy_23 (by decide) rfl ?_
      refine ev_aload_nR 1 dX11_waysBy_25 rfl ?_
      obtain ⟨p13, e14, h⟩ := op_some h
      refine ev_getPR dX11_waysBy_26 fl_X11_35 rfl g5 e14 ?_
      refine ev_iload 0 dX11_waysBy_29 rfl ?_
      obtain ⟨g15, h⟩ := gd_some h
      obtain ⟨g16, h⟩ := gd_some h
      refine ev_iald dX11_waysBy_31 (isA_O g15) g16 ?_
      refine ev_iload_n 3 dX11_waysBy_32 rfl ?_
      rcases it_some h with ⟨c17, h⟩ | ⟨c17, h⟩
      · refine ev_icmp_ne_n 75 dX11_waysBy_33 rfl c17 ?_
        refine ev_lload 5 dX11_waysBy_36 rfl ?_
        refine ev_aload_nR 1 dX11_waysBy_38 rfl ?_
        obtain ⟨p20, e21, h⟩ := op_some h
        refine ev_getPR dX11_waysBy_39 fl_X11_38 rfl g5 e21 ?_
        refine ev_iload 0 dX11_waysBy_42 rfl ?_
        obtain ⟨g22, h⟩ := gd_some h
        obtain ⟨g23, h⟩ := gd_some h
        refine ev_iald dX11_waysBy_44 (isA_O g22) g23 ?_
        rcases it_some h with ⟨c24, h⟩ | ⟨c24, h⟩
        · refine ev_if_ge (tgt := 60) dX11_waysBy_45 rfl c24 ?_
          refine ev_aload_nR 1 dX11_waysBy_60 rfl ?_
          refine ev_aload_nR 1 dX11_waysBy_61 rfl ?_
          refine ev_getPR dX11_waysBy_62 fl_X11_38 rfl g5 e21 ?_
          refine ev_iload 0 dX11_waysBy_65 rfl ?_
          obtain ⟨g25, h⟩ := gd_some h
          refine ev_iald dX11_waysBy_67 (isA_O g22) g25 ?_
          refine ev_iload_n 4 dX11_waysBy_68 rfl ?_
          obtain ⟨r28, σ26, e27, h⟩ := bd_some h
          refine ev_invVl (As := [.int (sI σ p20 v11.toNatClampNeg), .int (a3)]) (st := [.long (a4)]) dX11_waysBy_69 cb_X11_waysBelow tp_1221 tp_1223 tp_80 kf11 rfl (by omega) g5 rfl rfl (Nat.le_of_ble_eq_true rfl) (x_X11_waysBelow e27) ?_
          refine ev_sub (ls' := [(0, .ref a0), (1, .int (a1)), (2, .int (a2)), (3, .int (a3)), (6, .int (a6))]) [1, 2, 3, 4, 6] rfl ?_
          exact e_X11_waysBy_72 hk6 h
        · refine ev_if_ge_n 60 dX11_waysBy_45 rfl c24 ?_
          refine ev_iload_n 4 dX11_waysBy_48 rfl ?_
          rcases it_some h with ⟨c29, h⟩ | ⟨c29, h⟩
          · refine ev_if_ne_n 56 dX11_waysBy_49 rfl c29 ?_
            refine ev_lconst (v := 1) dX11_waysBy_52 (by decide) ?_
            refine ev_goto (tgt := 72) dX11_waysBy_53 rfl ?_
            refine ev_sub (ls' := [(0, .ref a0), (1, .int (a1)), (2, .int (a2)), (3, .int (a3)), (6, .int (a6))]) [1, 2, 3, 4, 6] rfl ?_
            exact e_X11_waysBy_72 hk6 h
          · refine ev_if_ne (tgt := 56) dX11_waysBy_49 rfl c29 ?_
            refine ev_lconst (v := 0) dX11_waysBy_56 (by decide) ?_
            refine ev_goto (tgt := 72) dX11_waysBy_57 rfl ?_
            refine ev_sub (ls' := [(0, .ref a0), (1, .int (a1)), (2, .int (a2)), (3, .int (a3)), (6, .int (a6))]) [1, 2, 3, 4, 6] rfl ?_
            exact e_X11_waysBy_72 hk6 h
      · refine ev_icmp_ne (tgt := 75) dX11_waysBy_33 rfl c17 ?_
        obtain ⟨v18, e19, h⟩ := lt_some h
        refine ev_iinc (v := v18) (ls' := [(6, .int (v18)), (7, .int (v11)), (0, .ref a0), (1, .int (a1)), (2, .int (a2)), (3, .int (a3)), (4, .long (a4))]) 6 dX11_waysBy_75 rfl e19.symm (by decide) rfl ?_
        refine ev_goto (tgt := 6) dX11_waysBy_78 rfl ?_
        refine ev_sub (ls' := [(0, .ref a0), (1, .int (a1)), (2, .int (a2)), (3, .int (a3)), (4, .long (a4)), (6, .int (v18))]) [2, 3, 4, 5, 6, 0] rfl ?_
        exact hk6 h
def s_X11_waysBy (a0 : Nat) (a1 : Int32) (a2 : Int32) (a3 : Int32) (σ : St) : Option (Int64 × St) :=
 s_X11_waysBy_6 16000 a0 a1 a2 a3 0 0 σ
set_option maxHeartbeats 4000000 in
set_option maxRecDepth 100000 in
theorem x_X11_waysBy {a0 : Nat} {a1 : Int32} {a2 : Int32} {a3 : Int32} {σ : St} {r : Int64} {σ' : St} (h : s_X11_waysBy a0 a1 a2 a3 σ = some (r, σ')) : Ex M_X11_waysBy (2) [.ref a0, .int (a1), .int (a2), .int (a3)] σ (some (.long r)) σ' := by
  unfold s_X11_waysBy at h
  refine ex_of (by decide) rfl (Nat.le_of_ble_eq_true rfl) ?_
  show Ev _ _ 0 [(0, .ref a0), (1, .int (a1)), (2, .int (a2)), (3, .int (a3))] [] _ _ _
  refine ev_lconst (v := 0) dX11_waysBy_0 (by decide) ?_
  refine ev_lstore (ls' := [(4, .long (0)), (0, .ref a0), (1, .int (a1)), (2, .int (a2)), (3, .int (a3))]) dX11_waysBy_1 (by decide) rfl ?_
  refine ev_iconst (v := 0) dX11_waysBy_3 (by decide) ?_
  refine ev_istore (ls' := [(6, .int (0)), (4, .long (0)), (0, .ref a0), (1, .int (a1)), (2, .int (a2)), (3, .int (a3))]) dX11_waysBy_4 (by decide) rfl ?_
  refine ev_sub (ls' := [(0, .ref a0), (1, .int (a1)), (2, .int (a2)), (3, .int (a3)), (4, .long (0)), (6, .int (0))]) [2, 3, 4, 5, 1, 0] rfl ?_
  exact e_X11_waysBy_6 16000 h
def sb_X11_waysOfAtom_5 (k5 : Nat → Int32 → Int32 → Int64 → Int32 → St → Option (Int64 × St)) (a0 : Nat) (a1 : Int32) (a2 : Int32) (a3 : Int64) (a5 : Int32) (σ : St) : Option (Int64 × St) :=
 if (12 : Int32) ≤ a5 then (some (a3, σ)) else (if a5 ≤ 7 then (bd (s_X11_has a2 a5 σ) fun r5 σ3 =>
 if r5 = 0 then (lt (a5 + 1 : Int32) fun v7 =>
 k5 a0 a1 a2 a3 v7 σ3) else (if isO σ3 11 a0 = true then (bd (s_X11_waysBy a0 a5 a1 (a2 &&& ((1 <<< (a5 &&& 31)) ^^^ ((-1)))) σ3) fun r12 σ10 =>
 lt (a3 + r12 : Int64) fun v13 =>
 lt (a5 + 1 : Int32) fun v15 =>
 k5 a0 a1 a2 v13 v15 σ10) else none)) else (if isO σ 11 a0 = true then (bd (s_X11_waysBy a0 a5 a1 a2 σ) fun r20 σ18 =>
 lt (a3 + r20 : Int64) fun v21 =>
 lt (a5 + 1 : Int32) fun v23 =>
 k5 a0 a1 a2 v21 v23 σ18) else none))
def s_X11_waysOfAtom_5 (F : Nat) : Nat → Int32 → Int32 → Int64 → Int32 → St → Option (Int64 × St) := lp (fun _ _ _ _ _ _ => none) (sb_X11_waysOfAtom_5 ) F
set_option maxHeartbeats 4000000 in
set_option maxRecDepth 100000 in
theorem e_X11_waysOfAtom_5 {r : Int64} {σ' : St} (F : Nat) : ∀ {a0 : Nat} {a1 : Int32} {a2 : Int32} {a3 : Int64} {a5 : Int32} {σ : St}, s_X11_waysOfAtom_5 F a0 a1 a2 a3 a5 σ = some (r, σ') → Ev M_X11_waysOfAtom (3) 5 [(0, .ref a0), (1, .int (a1)), (2, .int (a2)), (3, .long (a3)), (5, .int (a5))] [] σ (some (.long r)) σ' := by
  induction F with
  | zero => intro a0 a1 a2 a3 a5 σ h; cases h
  | succ F ih =>
    intro a0 a1 a2 a3 a5 σ h
    change sb_X11_waysOfAtom_5  (s_X11_waysOfAtom_5 F) a0 a1 a2 a3 a5 σ = some (r, σ') at h
    unfold sb_X11_waysOfAtom_5 at h
    have hk5 := @ih
    refine ev_iload 4 dX11_waysOfAtom_5 rfl ?_
    refine ev_bipush (v := 12) dX11_waysOfAtom_7 (by decide) ?_
    rcases it_some h with ⟨c1, h⟩ | ⟨c1, h⟩
    · refine ev_icmp_ge (tgt := 66) dX11_waysOfAtom_9 rfl c1 ?_
      refine ev_lload_n 3 dX11_waysOfAtom_66 rfl ?_
      exact ev_retL dX11_waysOfAtom_67 rfl h
    · refine ev_icmp_ge_n 66 dX11_waysOfAtom_9 rfl c1 ?_
      refine ev_iload 4 dX11_waysOfAtom_12 rfl ?_
      refine ev_bipush (v := 7) dX11_waysOfAtom_14 (by decide) ?_
      rcases it_some h with ⟨c2, h⟩ | ⟨c2, h⟩
      · refine ev_icmp_le (tgt := 33) dX11_waysOfAtom_16 rfl c2 ?_
        refine ev_iload_n 2 dX11_waysOfAtom_33 rfl ?_
        refine ev_iload 4 dX11_waysOfAtom_34 rfl ?_
        obtain ⟨r5, σ3, e4, h⟩ := bd_some h
        refine ev_invSi (As := [.int (a2), .int (a5)]) (st := []) dX11_waysOfAtom_36 cb_X11_has tp_1182 tp_1183 (by omega) rfl rfl (Nat.le_of_ble_eq_true rfl) (x_X11_has e4) ?_
        rcases it_some h with ⟨c6, h⟩ | ⟨c6, h⟩
        · refine ev_if_eq (tgt := 60) dX11_waysOfAtom_39 rfl c6 ?_
          obtain ⟨v7, e8, h⟩ := lt_some h
          refine ev_iinc (v := v7) (ls' := [(5, .int (v7)), (0, .ref a0), (1, .int (a1)), (2, .int (a2)), (3, .long (a3))]) 4 dX11_waysOfAtom_60 rfl e8.symm (by decide) rfl ?_
          refine ev_goto (tgt := 5) dX11_waysOfAtom_63 rfl ?_
          refine ev_sub (ls' := [(0, .ref a0), (1, .int (a1)), (2, .int (a2)), (3, .long (a3)), (5, .int (v7))]) [1, 2, 3, 4, 0] rfl ?_
          exact hk5 h
        · refine ev_if_eq_n 60 dX11_waysOfAtom_39 rfl c6 ?_
          refine ev_lload_n 3 dX11_waysOfAtom_42 rfl ?_
          refine ev_aload_nR 0 dX11_waysOfAtom_43 rfl ?_
          refine ev_iload 4 dX11_waysOfAtom_44 rfl ?_
          refine ev_iload_n 1 dX11_waysOfAtom_46 rfl ?_
          refine ev_iload_n 2 dX11_waysOfAtom_47 rfl ?_
          refine ev_iconst (v := 1) dX11_waysOfAtom_48 (by decide) ?_
          refine ev_iload 4 dX11_waysOfAtom_49 rfl ?_
          refine ev_ishl dX11_waysOfAtom_51 ?_
          refine ev_iconst (v := (-1)) dX11_waysOfAtom_52 (by decide) ?_
          refine ev_ixor dX11_waysOfAtom_53 ?_
          refine ev_iand dX11_waysOfAtom_54 ?_
          obtain ⟨g9, h⟩ := gd_some h
          obtain ⟨r12, σ10, e11, h⟩ := bd_some h
          refine ev_invVl (As := [.int (a5), .int (a1), .int (a2 &&& ((1 <<< (a5 &&& 31)) ^^^ ((-1))))]) (st := [.long (a3)]) dX11_waysOfAtom_55 cb_X11_waysBy tp_1217 tp_1219 tp_79 kf11 rfl (by omega) g9 rfl rfl (Nat.le_of_ble_eq_true rfl) (x_X11_waysBy e11) ?_
          refine ev_ladd dX11_waysOfAtom_58 ?_
          obtain ⟨v13, e14, h⟩ := lt_some h
          refine ev_topL e14 ?_
          refine ev_lstore_n (ls' := [(3, .long (v13)), (0, .ref a0), (1, .int (a1)), (2, .int (a2)), (5, .int (a5))]) dX11_waysOfAtom_59 (by decide) rfl ?_
          obtain ⟨v15, e16, h⟩ := lt_some h
          refine ev_iinc (v := v15) (ls' := [(5, .int (v15)), (3, .long (v13)), (0, .ref a0), (1, .int (a1)), (2, .int (a2))]) 4 dX11_waysOfAtom_60 rfl e16.symm (by decide) rfl ?_
          refine ev_goto (tgt := 5) dX11_waysOfAtom_63 rfl ?_
          refine ev_sub (ls' := [(0, .ref a0), (1, .int (a1)), (2, .int (a2)), (3, .long (v13)), (5, .int (v15))]) [2, 3, 4, 1, 0] rfl ?_
          exact hk5 h
      · refine ev_icmp_le_n 33 dX11_waysOfAtom_16 rfl c2 ?_
        refine ev_lload_n 3 dX11_waysOfAtom_19 rfl ?_
        refine ev_aload_nR 0 dX11_waysOfAtom_20 rfl ?_
        refine ev_iload 4 dX11_waysOfAtom_21 rfl ?_
        refine ev_iload_n 1 dX11_waysOfAtom_23 rfl ?_
        refine ev_iload_n 2 dX11_waysOfAtom_24 rfl ?_
        obtain ⟨g17, h⟩ := gd_some h
        obtain ⟨r20, σ18, e19, h⟩ := bd_some h
        refine ev_invVl (As := [.int (a5), .int (a1), .int (a2)]) (st := [.long (a3)]) dX11_waysOfAtom_25 cb_X11_waysBy tp_1217 tp_1219 tp_79 kf11 rfl (by omega) g17 rfl rfl (Nat.le_of_ble_eq_true rfl) (x_X11_waysBy e19) ?_
        refine ev_ladd dX11_waysOfAtom_28 ?_
        obtain ⟨v21, e22, h⟩ := lt_some h
        refine ev_topL e22 ?_
        refine ev_lstore_n (ls' := [(3, .long (v21)), (0, .ref a0), (1, .int (a1)), (2, .int (a2)), (5, .int (a5))]) dX11_waysOfAtom_29 (by decide) rfl ?_
        refine ev_goto (tgt := 60) dX11_waysOfAtom_30 rfl ?_
        obtain ⟨v23, e24, h⟩ := lt_some h
        refine ev_iinc (v := v23) (ls' := [(5, .int (v23)), (3, .long (v21)), (0, .ref a0), (1, .int (a1)), (2, .int (a2))]) 4 dX11_waysOfAtom_60 rfl e24.symm (by decide) rfl ?_
        refine ev_goto (tgt := 5) dX11_waysOfAtom_63 rfl ?_
        refine ev_sub (ls' := [(0, .ref a0), (1, .int (a1)), (2, .int (a2)), (3, .long (v21)), (5, .int (v23))]) [2, 3, 4, 1, 0] rfl ?_
        exact hk5 h
def s_X11_waysOfAtom (a0 : Nat) (a1 : Int32) (a2 : Int32) (σ : St) : Option (Int64 × St) :=
 s_X11_waysOfAtom_5 16000 a0 a1 a2 0 0 σ
set_option maxHeartbeats 4000000 in
set_option maxRecDepth 100000 in
theorem x_X11_waysOfAtom {a0 : Nat} {a1 : Int32} {a2 : Int32} {σ : St} {r : Int64} {σ' : St} (h : s_X11_waysOfAtom a0 a1 a2 σ = some (r, σ')) : Ex M_X11_waysOfAtom (3) [.ref a0, .int (a1), .int (a2)] σ (some (.long r)) σ' := by
  unfold s_X11_waysOfAtom at h
  refine ex_of (by decide) rfl (Nat.le_of_ble_eq_true rfl) ?_
  show Ev _ _ 0 [(0, .ref a0), (1, .int (a1)), (2, .int (a2))] [] _ _ _
  refine ev_lconst (v := 0) dX11_waysOfAtom_0 (by decide) ?_
  refine ev_lstore_n (ls' := [(3, .long (0)), (0, .ref a0), (1, .int (a1)), (2, .int (a2))]) dX11_waysOfAtom_1 (by decide) rfl ?_
  refine ev_iconst (v := 0) dX11_waysOfAtom_2 (by decide) ?_
  refine ev_istore (ls' := [(5, .int (0)), (3, .long (0)), (0, .ref a0), (1, .int (a1)), (2, .int (a2))]) dX11_waysOfAtom_3 (by decide) rfl ?_
  refine ev_sub (ls' := [(0, .ref a0), (1, .int (a1)), (2, .int (a2)), (3, .long (0)), (5, .int (0))]) [2, 3, 4, 1, 0] rfl ?_
  exact e_X11_waysOfAtom_5 16000 h
def sb_X11_waysOfParts_5 (k5 : Nat → Int32 → Int32 → Int64 → Int32 → St → Option (Int64 × St)) (a0 : Nat) (a1 : Int32) (a2 : Int32) (a3 : Int64) (a5 : Int32) (σ : St) : Option (Int64 × St) :=
 if (256 : Int32) ≤ a5 then (some (a3, σ)) else (if (a5 &&& (a2 ^^^ ((-1)))) = 0 then (if isO σ 11 a0 = true then (op (sP σ a0 8) fun p6 =>
 if isO σ 13 p6 = true then (if inR a1 (alen σ p6) = true then (bd (s_X11_waysBelow a0 (sI σ p6 a1.toNatClampNeg) a5 σ) fun r12 σ10 =>
 if isO σ10 11 a0 = true then (op (sP σ10 a0 9) fun p14 =>
 if isO σ10 13 p14 = true then (if inR a1 (alen σ10 p14) = true then (bd (s_X11_waysBelow a0 (sI σ10 p14 a1.toNatClampNeg) (a2 &&& (a5 ^^^ ((-1)))) σ10) fun r20 σ18 =>
 bd (s_X11_capped (r12 * r20) σ18) fun r23 σ21 =>
 bd (s_X11_capped (a3 + r23) σ21) fun r26 σ24 =>
 lt (a5 + 1 : Int32) fun v27 =>
 k5 a0 a1 a2 r26 v27 σ24) else none) else none) else none) else none) else none) else none) else (lt (a5 + 1 : Int32) fun v3 =>
 k5 a0 a1 a2 a3 v3 σ))
def s_X11_waysOfParts_5 (F : Nat) : Nat → Int32 → Int32 → Int64 → Int32 → St → Option (Int64 × St) := lp (fun _ _ _ _ _ _ => none) (sb_X11_waysOfParts_5 ) F
set_option maxHeartbeats 4000000 in
set_option maxRecDepth 100000 in
theorem e_X11_waysOfParts_5 {r : Int64} {σ' : St} (F : Nat) : ∀ {a0 : Nat} {a1 : Int32} {a2 : Int32} {a3 : Int64} {a5 : Int32} {σ : St}, s_X11_waysOfParts_5 F a0 a1 a2 a3 a5 σ = some (r, σ') → Ev M_X11_waysOfParts (2) 5 [(0, .ref a0), (1, .int (a1)), (2, .int (a2)), (3, .long (a3)), (5, .int (a5))] [] σ (some (.long r)) σ' := by
  induction F with
  | zero => intro a0 a1 a2 a3 a5 σ h; cases h
  | succ F ih =>
    intro a0 a1 a2 a3 a5 σ h
    change sb_X11_waysOfParts_5  (s_X11_waysOfParts_5 F) a0 a1 a2 a3 a5 σ = some (r, σ') at h
    unfold sb_X11_waysOfParts_5 at h
    have hk5 := @ih
    refine ev_iload 4 dX11_waysOfParts_5 rfl ?_
    refine ev_sipush (v := 256) dX11_waysOfParts_7 (by decide) ?_
    rcases it_some h with ⟨c1, h⟩ | ⟨c1, h⟩
    · refine ev_icmp_ge (tgt := 66) dX11_waysOfParts_10 rfl c1 ?_
      refine ev_lload_n 3 dX11_waysOfParts_66 rfl ?_
      exact ev_retL dX11_waysOfParts_67 rfl h
    · refine ev_icmp_ge_n 66 dX11_waysOfParts_10 rfl c1 ?_
      refine ev_iload 4 dX11_waysOfParts_13 rfl ?_
      refine ev_iload_n 2 dX11_waysOfParts_15 rfl ?_
      refine ev_iconst (v := (-1)) dX11_waysOfParts_16 (by decide) ?_
      refine ev_ixor dX11_waysOfParts_17 ?_
      refine ev_iand dX11_waysOfParts_18 ?_
      rcases it_some h with ⟨c2, h⟩ | ⟨c2, h⟩
      · refine ev_if_ne_n 60 dX11_waysOfParts_19 rfl c2 ?_
        refine ev_lload_n 3 dX11_waysOfParts_22 rfl ?_
        refine ev_aload_nR 0 dX11_waysOfParts_23 rfl ?_
        refine ev_aload_nR 0 dX11_waysOfParts_24 rfl ?_
        obtain ⟨g5, h⟩ := gd_some h
        obtain ⟨p6, e7, h⟩ := op_some h
        refine ev_getPR dX11_waysOfParts_25 fl_X11_26 rfl g5 e7 ?_
        refine ev_iload_n 1 dX11_waysOfParts_28 rfl ?_
        obtain ⟨g8, h⟩ := gd_some h
        obtain ⟨g9, h⟩ := gd_some h
        refine ev_iald dX11_waysOfParts_29 (isA_O g8) g9 ?_
        refine ev_iload 4 dX11_waysOfParts_30 rfl ?_
        obtain ⟨r12, σ10, e11, h⟩ := bd_some h
        refine ev_invVl (As := [.int (sI σ p6 a1.toNatClampNeg), .int (a5)]) (st := [.long (a3)]) dX11_waysOfParts_32 cb_X11_waysBelow tp_1221 tp_1223 tp_80 kf11 rfl (by omega) g5 rfl rfl (Nat.le_of_ble_eq_true rfl) (x_X11_waysBelow e11) ?_
        refine ev_aload_nR 0 dX11_waysOfParts_35 rfl ?_
        refine ev_aload_nR 0 dX11_waysOfParts_36 rfl ?_
        obtain ⟨g13, h⟩ := gd_some h
        obtain ⟨p14, e15, h⟩ := op_some h
        refine ev_getPR dX11_waysOfParts_37 fl_X11_29 rfl g13 e15 ?_
        refine ev_iload_n 1 dX11_waysOfParts_40 rfl ?_
        obtain ⟨g16, h⟩ := gd_some h
        obtain ⟨g17, h⟩ := gd_some h
        refine ev_iald dX11_waysOfParts_41 (isA_O g16) g17 ?_
        refine ev_iload_n 2 dX11_waysOfParts_42 rfl ?_
        refine ev_iload 4 dX11_waysOfParts_43 rfl ?_
        refine ev_iconst (v := (-1)) dX11_waysOfParts_45 (by decide) ?_
        refine ev_ixor dX11_waysOfParts_46 ?_
        refine ev_iand dX11_waysOfParts_47 ?_
        obtain ⟨r20, σ18, e19, h⟩ := bd_some h
        refine ev_invVl (As := [.int (sI σ10 p14 a1.toNatClampNeg), .int (a2 &&& (a5 ^^^ ((-1))))]) (st := [.long (r12), .long (a3)]) dX11_waysOfParts_48 cb_X11_waysBelow tp_1221 tp_1223 tp_80 kf11 rfl (by omega) g13 rfl rfl (Nat.le_of_ble_eq_true rfl) (x_X11_waysBelow e19) ?_
        refine ev_lmul dX11_waysOfParts_51 ?_
        obtain ⟨r23, σ21, e22, h⟩ := bd_some h
        refine ev_invSl (As := [.long (r12 * r20)]) (st := [.long (a3)]) dX11_waysOfParts_52 cb_X11_capped tp_1229 tp_1230 (by omega) rfl rfl (Nat.le_of_ble_eq_true rfl) (x_X11_capped e22) ?_
        refine ev_ladd dX11_waysOfParts_55 ?_
        obtain ⟨r26, σ24, e25, h⟩ := bd_some h
        refine ev_invSl (As := [.long (a3 + r23)]) (st := []) dX11_waysOfParts_56 cb_X11_capped tp_1229 tp_1230 (by omega) rfl rfl (Nat.le_of_ble_eq_true rfl) (x_X11_capped e25) ?_
        refine ev_lstore_n (ls' := [(3, .long (r26)), (0, .ref a0), (1, .int (a1)), (2, .int (a2)), (5, .int (a5))]) dX11_waysOfParts_59 (by decide) rfl ?_
        obtain ⟨v27, e28, h⟩ := lt_some h
        refine ev_iinc (v := v27) (ls' := [(5, .int (v27)), (3, .long (r26)), (0, .ref a0), (1, .int (a1)), (2, .int (a2))]) 4 dX11_waysOfParts_60 rfl e28.symm (by decide) rfl ?_
        refine ev_goto (tgt := 5) dX11_waysOfParts_63 rfl ?_
        refine ev_sub (ls' := [(0, .ref a0), (1, .int (a1)), (2, .int (a2)), (3, .long (r26)), (5, .int (v27))]) [2, 3, 4, 1, 0] rfl ?_
        exact hk5 h
      · refine ev_if_ne (tgt := 60) dX11_waysOfParts_19 rfl c2 ?_
        obtain ⟨v3, e4, h⟩ := lt_some h
        refine ev_iinc (v := v3) (ls' := [(5, .int (v3)), (0, .ref a0), (1, .int (a1)), (2, .int (a2)), (3, .long (a3))]) 4 dX11_waysOfParts_60 rfl e4.symm (by decide) rfl ?_
        refine ev_goto (tgt := 5) dX11_waysOfParts_63 rfl ?_
        refine ev_sub (ls' := [(0, .ref a0), (1, .int (a1)), (2, .int (a2)), (3, .long (a3)), (5, .int (v3))]) [1, 2, 3, 4, 0] rfl ?_
        exact hk5 h
def s_X11_waysOfParts (a0 : Nat) (a1 : Int32) (a2 : Int32) (σ : St) : Option (Int64 × St) :=
 s_X11_waysOfParts_5 16000 a0 a1 a2 0 0 σ
set_option maxHeartbeats 4000000 in
set_option maxRecDepth 100000 in
theorem x_X11_waysOfParts {a0 : Nat} {a1 : Int32} {a2 : Int32} {σ : St} {r : Int64} {σ' : St} (h : s_X11_waysOfParts a0 a1 a2 σ = some (r, σ')) : Ex M_X11_waysOfParts (2) [.ref a0, .int (a1), .int (a2)] σ (some (.long r)) σ' := by
  unfold s_X11_waysOfParts at h
  refine ex_of (by decide) rfl (Nat.le_of_ble_eq_true rfl) ?_
  show Ev _ _ 0 [(0, .ref a0), (1, .int (a1)), (2, .int (a2))] [] _ _ _
  refine ev_lconst (v := 0) dX11_waysOfParts_0 (by decide) ?_
  refine ev_lstore_n (ls' := [(3, .long (0)), (0, .ref a0), (1, .int (a1)), (2, .int (a2))]) dX11_waysOfParts_1 (by decide) rfl ?_
  refine ev_iconst (v := 0) dX11_waysOfParts_2 (by decide) ?_
  refine ev_istore (ls' := [(5, .int (0)), (3, .long (0)), (0, .ref a0), (1, .int (a1)), (2, .int (a2))]) dX11_waysOfParts_3 (by decide) rfl ?_
  refine ev_sub (ls' := [(0, .ref a0), (1, .int (a1)), (2, .int (a2)), (3, .long (0)), (5, .int (0))]) [2, 3, 4, 1, 0] rfl ?_
  exact e_X11_waysOfParts_5 16000 h
def s_X11_waysOf (a0 : Nat) (a1 : Int32) (a2 : Int32) (σ : St) : Option (Int64 × St) :=
 if isO σ 11 a0 = true then (op (sP σ a0 8) fun p2 =>
 if isO σ 13 p2 = true then (if inR a1 (alen σ p2) = true then (lt (sI σ p2 a1.toNatClampNeg : Int32) fun v6 =>
 op (sP σ a0 9) fun p8 =>
 if isO σ 13 p8 = true then (if inR a1 (alen σ p8) = true then (lt (sI σ p8 a1.toNatClampNeg : Int32) fun v12 =>
 op (sP σ a0 7) fun p14 =>
 if isO σ 13 p14 = true then (if inR a1 (alen σ p14) = true then (lt (sI σ p14 a1.toNatClampNeg : Int32) fun v18 =>
 if v18 = 0 then (bd (s_X11_waysOfAtom a0 v6 a2 σ) fun r23 σ21 =>
 some (r23, σ21)) else (if v18 = 1 then (if a2 = 0 then (some (1, σ)) else (some (0, σ))) else (if v18 = 2 then (some (1, σ)) else (if v18 = 3 then (if a2 = 0 then (bd (s_X11_waysBelow a0 v6 0 σ) fun r31 σ29 =>
 some (r31, σ29)) else (some (0, σ))) else (if v18 = 4 then (bd (s_X11_waysOfParts a0 a1 a2 σ) fun r35 σ33 =>
 some (r35, σ33)) else (if v18 = 5 then (bd (s_X11_waysBelow a0 v6 a2 σ) fun r39 σ37 =>
 if isO σ37 11 a0 = true then (bd (s_X11_waysBelow a0 v12 a2 σ37) fun r43 σ41 =>
 some (r39 * r43, σ41)) else none) else (if v18 = 6 then (bd (s_X11_waysBelow a0 v6 a2 σ) fun r47 σ45 =>
 if isO σ45 11 a0 = true then (bd (s_X11_waysBelow a0 v12 a2 σ45) fun r51 σ49 =>
 some (r47 + r51, σ49)) else none) else (bd (s_X11_has a2 v12 σ) fun r54 σ52 =>
 if r54 = 0 then (if isO σ52 11 a0 = true then (bd (s_X11_waysBelow a0 v6 (a2 ||| (1 <<< (v12 &&& 31))) σ52) fun r59 σ57 =>
 some (r59, σ57)) else none) else (some (0, σ52)))))))))) else none) else none) else none) else none) else none) else none) else none
set_option maxHeartbeats 4000000 in
set_option maxRecDepth 100000 in
theorem x_X11_waysOf {a0 : Nat} {a1 : Int32} {a2 : Int32} {σ : St} {r : Int64} {σ' : St} (h : s_X11_waysOf a0 a1 a2 σ = some (r, σ')) : Ex M_X11_waysOf (4) [.ref a0, .int (a1), .int (a2)] σ (some (.long r)) σ' := by
  unfold s_X11_waysOf at h
  refine ex_of (by decide) rfl (Nat.le_of_ble_eq_true rfl) ?_
  show Ev _ _ 0 [(0, .ref a0), (1, .int (a1)), (2, .int (a2))] [] _ _ _
  refine ev_aload_nR 0 dX11_waysOf_0 rfl ?_
  obtain ⟨g1, h⟩ := gd_some h
  obtain ⟨p2, e3, h⟩ := op_some h
  refine ev_getPR dX11_waysOf_1 fl_X11_26 rfl g1 e3 ?_
  refine ev_iload_n 1 dX11_waysOf_4 rfl ?_
  obtain ⟨g4, h⟩ := gd_some h
  obtain ⟨g5, h⟩ := gd_some h
  refine ev_iald dX11_waysOf_5 (isA_O g4) g5 ?_
  obtain ⟨v6, e7, h⟩ := lt_some h
  refine ev_topI e7 ?_
  refine ev_istore_n (ls' := [(3, .int (v6)), (0, .ref a0), (1, .int (a1)), (2, .int (a2))]) dX11_waysOf_6 (by decide) rfl ?_
  refine ev_aload_nR 1 dX11_waysOf_7 rfl ?_
  obtain ⟨p8, e9, h⟩ := op_some h
  refine ev_getPR dX11_waysOf_8 fl_X11_29 rfl g1 e9 ?_
  refine ev_iload_n 2 dX11_waysOf_11 rfl ?_
  obtain ⟨g10, h⟩ := gd_some h
  obtain ⟨g11, h⟩ := gd_some h
  refine ev_iald dX11_waysOf_12 (isA_O g10) g11 ?_
  obtain ⟨v12, e13, h⟩ := lt_some h
  refine ev_topI e13 ?_
  refine ev_istore (ls' := [(4, .int (v12)), (3, .int (v6)), (0, .ref a0), (1, .int (a1)), (2, .int (a2))]) dX11_waysOf_13 (by decide) rfl ?_
  refine ev_aload_nR 2 dX11_waysOf_15 rfl ?_
  obtain ⟨p14, e15, h⟩ := op_some h
  refine ev_getPR dX11_waysOf_16 fl_X11_23 rfl g1 e15 ?_
  refine ev_iload_n 3 dX11_waysOf_19 rfl ?_
  obtain ⟨g16, h⟩ := gd_some h
  obtain ⟨g17, h⟩ := gd_some h
  refine ev_iald dX11_waysOf_20 (isA_O g16) g17 ?_
  obtain ⟨v18, e19, h⟩ := lt_some h
  refine ev_topI e19 ?_
  rcases it_some h with ⟨c20, h⟩ | ⟨c20, h⟩
  · refine ev_tableIn (off := 43) (tgt := 64) dX11_waysOf_21 0 (by rw [c20]; decide) (by decide) rfl rfl ?_
    refine ev_aload_nR 2 dX11_waysOf_64 rfl ?_
    refine ev_iload_n 1 dX11_waysOf_65 rfl ?_
    refine ev_iload_n 4 dX11_waysOf_66 rfl ?_
    obtain ⟨r23, σ21, e22, h⟩ := bd_some h
    refine ev_invVl (As := [.int (v6), .int (a2)]) (st := []) dX11_waysOf_67 cb_X11_waysOfAtom tp_1213 tp_1215 tp_78 kf11 rfl (by omega) g1 rfl rfl (Nat.le_of_ble_eq_true rfl) (x_X11_waysOfAtom e22) ?_
    exact ev_retL dX11_waysOf_70 rfl h
  rcases it_some h with ⟨c24, h⟩ | ⟨c24, h⟩
  · refine ev_tableIn (off := 50) (tgt := 71) dX11_waysOf_21 1 (by rw [c24]; decide) (by decide) rfl rfl ?_
    refine ev_iload_n 4 dX11_waysOf_71 rfl ?_
    rcases it_some h with ⟨c25, h⟩ | ⟨c25, h⟩
    · refine ev_if_ne_n 79 dX11_waysOf_72 rfl c25 ?_
      refine ev_lconst (v := 1) dX11_waysOf_75 (by decide) ?_
      refine ev_goto (tgt := 80) dX11_waysOf_76 rfl ?_
      exact ev_retL dX11_waysOf_80 rfl h
    · refine ev_if_ne (tgt := 79) dX11_waysOf_72 rfl c25 ?_
      refine ev_lconst (v := 0) dX11_waysOf_79 (by decide) ?_
      exact ev_retL dX11_waysOf_80 rfl h
  rcases it_some h with ⟨c26, h⟩ | ⟨c26, h⟩
  · refine ev_tableIn (off := 60) (tgt := 81) dX11_waysOf_21 2 (by rw [c26]; decide) (by decide) rfl rfl ?_
    refine ev_lconst (v := 1) dX11_waysOf_81 (by decide) ?_
    exact ev_retL dX11_waysOf_82 rfl h
  rcases it_some h with ⟨c27, h⟩ | ⟨c27, h⟩
  · refine ev_tableIn (off := 62) (tgt := 83) dX11_waysOf_21 3 (by rw [c27]; decide) (by decide) rfl rfl ?_
    refine ev_iload_n 4 dX11_waysOf_83 rfl ?_
    rcases it_some h with ⟨c28, h⟩ | ⟨c28, h⟩
    · refine ev_if_ne_n 96 dX11_waysOf_84 rfl c28 ?_
      refine ev_aload_nR 2 dX11_waysOf_87 rfl ?_
      refine ev_iload_n 1 dX11_waysOf_88 rfl ?_
      refine ev_iconst (v := 0) dX11_waysOf_89 (by decide) ?_
      obtain ⟨r31, σ29, e30, h⟩ := bd_some h
      refine ev_invVl (As := [.int (v6), .int (0)]) (st := []) dX11_waysOf_90 cb_X11_waysBelow tp_1221 tp_1223 tp_80 kf11 rfl (by omega) g1 rfl rfl (Nat.le_of_ble_eq_true rfl) (x_X11_waysBelow e30) ?_
      refine ev_goto (tgt := 97) dX11_waysOf_93 rfl ?_
      exact ev_retL dX11_waysOf_97 rfl h
    · refine ev_if_ne (tgt := 96) dX11_waysOf_84 rfl c28 ?_
      refine ev_lconst (v := 0) dX11_waysOf_96 (by decide) ?_
      exact ev_retL dX11_waysOf_97 rfl h
  rcases it_some h with ⟨c32, h⟩ | ⟨c32, h⟩
  · refine ev_tableIn (off := 77) (tgt := 98) dX11_waysOf_21 4 (by rw [c32]; decide) (by decide) rfl rfl ?_
    refine ev_aload_nR 2 dX11_waysOf_98 rfl ?_
    refine ev_iload_n 3 dX11_waysOf_99 rfl ?_
    refine ev_iload_n 4 dX11_waysOf_100 rfl ?_
    obtain ⟨r35, σ33, e34, h⟩ := bd_some h
    refine ev_invVl (As := [.int (a1), .int (a2)]) (st := []) dX11_waysOf_101 cb_X11_waysOfParts tp_1225 tp_1227 tp_81 kf11 rfl (by omega) g1 rfl rfl (Nat.le_of_ble_eq_true rfl) (x_X11_waysOfParts e34) ?_
    exact ev_retL dX11_waysOf_104 rfl h
  rcases it_some h with ⟨c36, h⟩ | ⟨c36, h⟩
  · refine ev_tableIn (off := 84) (tgt := 105) dX11_waysOf_21 5 (by rw [c36]; decide) (by decide) rfl rfl ?_
    refine ev_aload_nR 2 dX11_waysOf_105 rfl ?_
    refine ev_iload_n 1 dX11_waysOf_106 rfl ?_
    refine ev_iload_n 4 dX11_waysOf_107 rfl ?_
    obtain ⟨r39, σ37, e38, h⟩ := bd_some h
    refine ev_invVl (As := [.int (v6), .int (a2)]) (st := []) dX11_waysOf_108 cb_X11_waysBelow tp_1221 tp_1223 tp_80 kf11 rfl (by omega) g1 rfl rfl (Nat.le_of_ble_eq_true rfl) (x_X11_waysBelow e38) ?_
    refine ev_aload_nR 2 dX11_waysOf_111 rfl ?_
    refine ev_iload 0 dX11_waysOf_112 rfl ?_
    refine ev_iload_n 4 dX11_waysOf_114 rfl ?_
    obtain ⟨g40, h⟩ := gd_some h
    obtain ⟨r43, σ41, e42, h⟩ := bd_some h
    refine ev_invVl (As := [.int (v12), .int (a2)]) (st := [.long (r39)]) dX11_waysOf_115 cb_X11_waysBelow tp_1221 tp_1223 tp_80 kf11 rfl (by omega) g40 rfl rfl (Nat.le_of_ble_eq_true rfl) (x_X11_waysBelow e42) ?_
    refine ev_lmul dX11_waysOf_118 ?_
    exact ev_retL dX11_waysOf_119 rfl h
  rcases it_some h with ⟨c44, h⟩ | ⟨c44, h⟩
  · refine ev_tableIn (off := 99) (tgt := 120) dX11_waysOf_21 6 (by rw [c44]; decide) (by decide) rfl rfl ?_
    refine ev_aload_nR 2 dX11_waysOf_120 rfl ?_
    refine ev_iload_n 1 dX11_waysOf_121 rfl ?_
    refine ev_iload_n 4 dX11_waysOf_122 rfl ?_
    obtain ⟨r47, σ45, e46, h⟩ := bd_some h
    refine ev_invVl (As := [.int (v6), .int (a2)]) (st := []) dX11_waysOf_123 cb_X11_waysBelow tp_1221 tp_1223 tp_80 kf11 rfl (by omega) g1 rfl rfl (Nat.le_of_ble_eq_true rfl) (x_X11_waysBelow e46) ?_
    refine ev_aload_nR 2 dX11_waysOf_126 rfl ?_
    refine ev_iload 0 dX11_waysOf_127 rfl ?_
    refine ev_iload_n 4 dX11_waysOf_129 rfl ?_
    obtain ⟨g48, h⟩ := gd_some h
    obtain ⟨r51, σ49, e50, h⟩ := bd_some h
    refine ev_invVl (As := [.int (v12), .int (a2)]) (st := [.long (r47)]) dX11_waysOf_130 cb_X11_waysBelow tp_1221 tp_1223 tp_80 kf11 rfl (by omega) g48 rfl rfl (Nat.le_of_ble_eq_true rfl) (x_X11_waysBelow e50) ?_
    refine ev_ladd dX11_waysOf_133 ?_
    exact ev_retL dX11_waysOf_134 rfl h
  have hx : v18.toInt < 0 ∨ 6 < v18.toInt := tab_out v18 0 6 (by decide) (fun k h1 h2 => by
      rcases (show k = 0 ∨ k = 1 ∨ k = 2 ∨ k = 3 ∨ k = 4 ∨ k = 5 ∨ k = 6 by omega) with rfl | rfl | rfl | rfl | rfl | rfl | rfl
      · exact ne_toInt c20
      · exact ne_toInt c24
      · exact ne_toInt c26
      · exact ne_toInt c27
      · exact ne_toInt c32
      · exact ne_toInt c36
      · exact ne_toInt c44)
  refine ev_tableOut (tgt := 135) dX11_waysOf_21 hx rfl ?_
  refine ev_iload_n 4 dX11_waysOf_135 rfl ?_
  refine ev_iload 0 dX11_waysOf_136 rfl ?_
  obtain ⟨r54, σ52, e53, h⟩ := bd_some h
  refine ev_invSi (As := [.int (a2), .int (v12)]) (st := []) dX11_waysOf_138 cb_X11_has tp_1182 tp_1183 (by omega) rfl rfl (Nat.le_of_ble_eq_true rfl) (x_X11_has e53) ?_
  rcases it_some h with ⟨c55, h⟩ | ⟨c55, h⟩
  · refine ev_if_eq (tgt := 148) dX11_waysOf_141 rfl c55 ?_
    refine ev_aload_nR 2 dX11_waysOf_148 rfl ?_
    refine ev_iload_n 1 dX11_waysOf_149 rfl ?_
    refine ev_iload_n 4 dX11_waysOf_150 rfl ?_
    refine ev_iconst (v := 1) dX11_waysOf_151 (by decide) ?_
    refine ev_iload 0 dX11_waysOf_152 rfl ?_
    refine ev_ishl dX11_waysOf_154 ?_
    refine ev_ior dX11_waysOf_155 ?_
    obtain ⟨g56, h⟩ := gd_some h
    obtain ⟨r59, σ57, e58, h⟩ := bd_some h
    refine ev_invVl (As := [.int (v6), .int (a2 ||| (1 <<< (v12 &&& 31)))]) (st := []) dX11_waysOf_156 cb_X11_waysBelow tp_1221 tp_1223 tp_80 kf11 rfl (by omega) g56 rfl rfl (Nat.le_of_ble_eq_true rfl) (x_X11_waysBelow e58) ?_
    exact ev_retL dX11_waysOf_159 rfl h
  · refine ev_if_eq_n 148 dX11_waysOf_141 rfl c55 ?_
    refine ev_lconst (v := 0) dX11_waysOf_144 (by decide) ?_
    refine ev_goto (tgt := 159) dX11_waysOf_145 rfl ?_
    exact ev_retL dX11_waysOf_159 rfl h
def sb_X11_ways_122 (k66 : Nat → Int32 → Int32 → Int32 → St → Option (Int32 × St)) (k122 : Nat → Int32 → Int32 → Int32 → Int32 → St → Option (Int32 × St)) (a0 : Nat) (a1 : Int32) (a2 : Int32) (a3 : Int32) (a4 : Int32) (σ : St) : Option (Int32 × St) :=
 if isO σ 11 a0 = true then (if ((256 : Int32) * (sI σ a0 5)) ≤ a4 then (lt (a3 + 1 : Int32) fun v3 =>
 k66 a0 a1 a2 v3 σ) else (op (sP σ a0 23) fun p5 =>
 op (sP σ a0 24) fun p7 =>
 if isO σ 14 p7 = true then (if inR a4 (alen σ p7) = true then (if isO σ 14 p5 = true then (if inR a4 (alen σ p5) = true then (lt (setL σ p5 a4.toNatClampNeg (sL σ p7 a4.toNatClampNeg)) fun σ13 =>
 lt (a4 + 1 : Int32) fun v15 =>
 k122 a0 a1 a2 a3 v15 σ13) else none) else none) else none) else none)) else none
def s_X11_ways_122 (k66 : Nat → Int32 → Int32 → Int32 → St → Option (Int32 × St)) (F : Nat) : Nat → Int32 → Int32 → Int32 → Int32 → St → Option (Int32 × St) := lp (fun _ _ _ _ _ _ => none) (sb_X11_ways_122 k66) F
set_option maxHeartbeats 4000000 in
set_option maxRecDepth 100000 in
theorem e_X11_ways_122 {r : Int32} {σ' : St} {k66 : Nat → Int32 → Int32 → Int32 → St → Option (Int32 × St)} (hk66 : ∀ {y0 : Nat} {y1 : Int32} {y2 : Int32} {y3 : Int32} {σ : St}, k66 y0 y1 y2 y3 σ = some (r, σ') → Ev M_X11_ways (8) 66 [(0, .ref y0), (1, .int (y1)), (2, .int (y2)), (3, .int (y3))] [] σ (some (.int r)) σ') (F : Nat) : ∀ {a0 : Nat} {a1 : Int32} {a2 : Int32} {a3 : Int32} {a4 : Int32} {σ : St}, s_X11_ways_122 k66 F a0 a1 a2 a3 a4 σ = some (r, σ') → Ev M_X11_ways (8) 122 [(0, .ref a0), (1, .int (a1)), (2, .int (a2)), (3, .int (a3)), (4, .int (a4))] [] σ (some (.int r)) σ' := by
  induction F with
  | zero => intro a0 a1 a2 a3 a4 σ h; cases h
  | succ F ih =>
    intro a0 a1 a2 a3 a4 σ h
    change sb_X11_ways_122 k66 (s_X11_ways_122 k66 F) a0 a1 a2 a3 a4 σ = some (r, σ') at h
    unfold sb_X11_ways_122 at h
    have hk122 := @ih
    refine ev_iload 4 dX11_ways_122 rfl ?_
    refine ev_sipush (v := 256) dX11_ways_124 (by decide) ?_
    refine ev_aload_nR 0 dX11_ways_127 rfl ?_
    obtain ⟨g1, h⟩ := gd_some h
    refine ev_getI dX11_ways_128 fl_X11_92 rfl g1 ?_
    refine ev_imul dX11_ways_131 ?_
    rcases it_some h with ⟨c2, h⟩ | ⟨c2, h⟩
    · refine ev_icmp_ge (tgt := 155) dX11_ways_132 rfl c2 ?_
      obtain ⟨v3, e4, h⟩ := lt_some h
      refine ev_iinc (v := v3) (ls' := [(3, .int (v3)), (0, .ref a0), (1, .int (a1)), (2, .int (a2)), (4, .int (a4))]) 3 dX11_ways_155 rfl e4.symm (by decide) rfl ?_
      refine ev_goto (tgt := 66) dX11_ways_158 rfl ?_
      refine ev_sub (ls' := [(0, .ref a0), (1, .int (a1)), (2, .int (a2)), (3, .int (v3))]) [1, 2, 3, 0] rfl ?_
      exact hk66 h
    · refine ev_icmp_ge_n 155 dX11_ways_132 rfl c2 ?_
      refine ev_aload_nR 0 dX11_ways_135 rfl ?_
      obtain ⟨p5, e6, h⟩ := op_some h
      refine ev_getPR dX11_ways_136 fl_X11_60 rfl g1 e6 ?_
      refine ev_iload 4 dX11_ways_139 rfl ?_
      refine ev_aload_nR 0 dX11_ways_141 rfl ?_
      obtain ⟨p7, e8, h⟩ := op_some h
      refine ev_getPR dX11_ways_142 fl_X11_64 rfl g1 e8 ?_
      refine ev_iload 4 dX11_ways_145 rfl ?_
      obtain ⟨g9, h⟩ := gd_some h
      obtain ⟨g10, h⟩ := gd_some h
      refine ev_lald dX11_ways_147 (isA_O g9) g10 ?_
      obtain ⟨g11, h⟩ := gd_some h
      obtain ⟨g12, h⟩ := gd_some h
      obtain ⟨σ13, e14, h⟩ := lt_some h
      refine ev_last dX11_ways_148 (isO_spec g11).1 (isA_O g11) g12 ?_
      refine ev_st e14 ?_
      obtain ⟨v15, e16, h⟩ := lt_some h
      refine ev_iinc (v := v15) (ls' := [(4, .int (v15)), (0, .ref a0), (1, .int (a1)), (2, .int (a2)), (3, .int (a3))]) 4 dX11_ways_149 rfl e16.symm (by decide) rfl ?_
      refine ev_goto (tgt := 122) dX11_ways_152 rfl ?_
      refine ev_sub (ls' := [(0, .ref a0), (1, .int (a1)), (2, .int (a2)), (3, .int (a3)), (4, .int (v15))]) [1, 2, 3, 4, 0] rfl ?_
      exact hk122 h
def sb_X11_ways_74 (k66 : Nat → Int32 → Int32 → Int32 → St → Option (Int32 × St)) (k74 : Nat → Int32 → Int32 → Int32 → Int32 → St → Option (Int32 × St)) (a0 : Nat) (a1 : Int32) (a2 : Int32) (a3 : Int32) (a4 : Int32) (σ : St) : Option (Int32 × St) :=
 if isO σ 11 a0 = true then (if ((256 : Int32) * (sI σ a0 5)) ≤ a4 then (s_X11_ways_122 k66 16000 a0 a1 a2 a3 0 σ) else (op (sP σ a0 24) fun p19 =>
 bd (s_X11_waysOf a0 (a4 / 256) (a4 - a4 / 256 * 256) σ) fun r23 σ21 =>
 bd (s_X11_capped r23 σ21) fun r26 σ24 =>
 if isO σ24 14 p19 = true then (if inR a4 (alen σ24 p19) = true then (lt (setL σ24 p19 a4.toNatClampNeg r26) fun σ29 =>
 lt (a4 + 1 : Int32) fun v31 =>
 k74 a0 a1 a2 a3 v31 σ29) else none) else none)) else none
def s_X11_ways_74 (k66 : Nat → Int32 → Int32 → Int32 → St → Option (Int32 × St)) (F : Nat) : Nat → Int32 → Int32 → Int32 → Int32 → St → Option (Int32 × St) := lp (fun _ _ _ _ _ _ => none) (sb_X11_ways_74 k66) F
set_option maxHeartbeats 4000000 in
set_option maxRecDepth 100000 in
theorem e_X11_ways_74 {r : Int32} {σ' : St} {k66 : Nat → Int32 → Int32 → Int32 → St → Option (Int32 × St)} (hk66 : ∀ {y0 : Nat} {y1 : Int32} {y2 : Int32} {y3 : Int32} {σ : St}, k66 y0 y1 y2 y3 σ = some (r, σ') → Ev M_X11_ways (8) 66 [(0, .ref y0), (1, .int (y1)), (2, .int (y2)), (3, .int (y3))] [] σ (some (.int r)) σ') (F : Nat) : ∀ {a0 : Nat} {a1 : Int32} {a2 : Int32} {a3 : Int32} {a4 : Int32} {σ : St}, s_X11_ways_74 k66 F a0 a1 a2 a3 a4 σ = some (r, σ') → Ev M_X11_ways (8) 74 [(0, .ref a0), (1, .int (a1)), (2, .int (a2)), (3, .int (a3)), (4, .int (a4))] [] σ (some (.int r)) σ' := by
  induction F with
  | zero => intro a0 a1 a2 a3 a4 σ h; cases h
  | succ F ih =>
    intro a0 a1 a2 a3 a4 σ h
    change sb_X11_ways_74 k66 (s_X11_ways_74 k66 F) a0 a1 a2 a3 a4 σ = some (r, σ') at h
    unfold sb_X11_ways_74 at h
    have hk74 := @ih
    refine ev_iload 4 dX11_ways_74 rfl ?_
    refine ev_sipush (v := 256) dX11_ways_76 (by decide) ?_
    refine ev_aload_nR 0 dX11_ways_79 rfl ?_
    obtain ⟨g17, h⟩ := gd_some h
    refine ev_getI dX11_ways_80 fl_X11_92 rfl g17 ?_
    refine ev_imul dX11_ways_83 ?_
    rcases it_some h with ⟨c18, h⟩ | ⟨c18, h⟩
    · refine ev_icmp_ge (tgt := 119) dX11_ways_84 rfl c18 ?_
      refine ev_iconst (v := 0) dX11_ways_119 (by decide) ?_
      refine ev_istore (ls' := [(4, .int (0)), (0, .ref a0), (1, .int (a1)), (2, .int (a2)), (3, .int (a3))]) dX11_ways_120 (by decide) rfl ?_
      refine ev_sub (ls' := [(0, .ref a0), (1, .int (a1)), (2, .int (a2)), (3, .int (a3)), (4, .int (0))]) [1, 2, 3, 4, 0] rfl ?_
      exact e_X11_ways_122 hk66 16000 h
    · refine ev_icmp_ge_n 119 dX11_ways_84 rfl c18 ?_
      refine ev_aload_nR 0 dX11_ways_87 rfl ?_
      obtain ⟨p19, e20, h⟩ := op_some h
      refine ev_getPR dX11_ways_88 fl_X11_64 rfl g17 e20 ?_
      refine ev_iload 4 dX11_ways_91 rfl ?_
      refine ev_aload_nR 0 dX11_ways_93 rfl ?_
      refine ev_iload 4 dX11_ways_94 rfl ?_
      refine ev_sipush (v := 256) dX11_ways_96 (by decide) ?_
      refine ev_idiv dX11_ways_99 (by decide) ?_
      refine ev_iload 4 dX11_ways_100 rfl ?_
      refine ev_sipush (v := 256) dX11_ways_102 (by decide) ?_
      refine ev_irem dX11_ways_105 (by decide) ?_
      obtain ⟨r23, σ21, e22, h⟩ := bd_some h
      refine ev_invVl (As := [.int (a4 / 256), .int (a4 - a4 / 256 * 256)]) (st := [.int (a4), .ref p19]) dX11_ways_106 cb_X11_waysOf tp_1209 tp_1211 tp_77 kf11 rfl (by omega) g17 rfl rfl (Nat.le_of_ble_eq_true rfl) (x_X11_waysOf e22) ?_
      obtain ⟨r26, σ24, e25, h⟩ := bd_some h
      refine ev_invSl (As := [.long (r23)]) (st := [.int (a4), .ref p19]) dX11_ways_109 cb_X11_capped tp_1229 tp_1230 (by omega) rfl rfl (Nat.le_of_ble_eq_true rfl) (x_X11_capped e25) ?_
      obtain ⟨g27, h⟩ := gd_some h
      obtain ⟨g28, h⟩ := gd_some h
      obtain ⟨σ29, e30, h⟩ := lt_some h
      refine ev_last dX11_ways_112 (isO_spec g27).1 (isA_O g27) g28 ?_
      refine ev_st e30 ?_
      obtain ⟨v31, e32, h⟩ := lt_some h
      refine ev_iinc (v := v31) (ls' := [(4, .int (v31)), (0, .ref a0), (1, .int (a1)), (2, .int (a2)), (3, .int (a3))]) 4 dX11_ways_113 rfl e32.symm (by decide) rfl ?_
      refine ev_goto (tgt := 74) dX11_ways_116 rfl ?_
      refine ev_sub (ls' := [(0, .ref a0), (1, .int (a1)), (2, .int (a2)), (3, .int (a3)), (4, .int (v31))]) [1, 2, 3, 4, 0] rfl ?_
      exact hk74 h
def sb_X11_ways_66 (k66 : Nat → Int32 → Int32 → Int32 → St → Option (Int32 × St)) (a0 : Nat) (a1 : Int32) (a2 : Int32) (a3 : Int32) (σ : St) : Option (Int32 × St) :=
 if a2 < a3 then (if isO σ 11 a0 = true then (op (sP σ a0 23) fun p35 =>
 if isO σ 14 p35 = true then (if inR ((256 * (sI σ a0 10)) + a1) (alen σ p35) = true then (some ((sL σ p35 (((256 * (sI σ a0 10)) + a1).toNatClampNeg)).toInt32, σ)) else none) else none) else none) else (s_X11_ways_74 k66 16000 a0 a1 a2 a3 0 σ)
def s_X11_ways_66 (F : Nat) : Nat → Int32 → Int32 → Int32 → St → Option (Int32 × St) := lp (fun _ _ _ _ _ => none) (sb_X11_ways_66 ) F
set_option maxHeartbeats 4000000 in
set_option maxRecDepth 100000 in
theorem e_X11_ways_66 {r : Int32} {σ' : St} (F : Nat) : ∀ {a0 : Nat} {a1 : Int32} {a2 : Int32} {a3 : Int32} {σ : St}, s_X11_ways_66 F a0 a1 a2 a3 σ = some (r, σ') → Ev M_X11_ways (8) 66 [(0, .ref a0), (1, .int (a1)), (2, .int (a2)), (3, .int (a3))] [] σ (some (.int r)) σ' := by
  induction F with
  | zero => intro a0 a1 a2 a3 σ h; cases h
  | succ F ih =>
    intro a0 a1 a2 a3 σ h
    change sb_X11_ways_66  (s_X11_ways_66 F) a0 a1 a2 a3 σ = some (r, σ') at h
    unfold sb_X11_ways_66 at h
    have hk66 := @ih
    refine ev_iload_n 3 dX11_ways_66 rfl ?_
    refine ev_iload_n 2 dX11_ways_67 rfl ?_
    rcases it_some h with ⟨c33, h⟩ | ⟨c33, h⟩
    · refine ev_icmp_gt (tgt := 161) dX11_ways_68 rfl c33 ?_
      refine ev_aload_nR 0 dX11_ways_161 rfl ?_
      obtain ⟨g34, h⟩ := gd_some h
      obtain ⟨p35, e36, h⟩ := op_some h
      refine ev_getPR dX11_ways_162 fl_X11_60 rfl g34 e36 ?_
      refine ev_sipush (v := 256) dX11_ways_165 (by decide) ?_
      refine ev_aload_nR 0 dX11_ways_168 rfl ?_
      refine ev_getI dX11_ways_169 fl_X11_98 rfl g34 ?_
      refine ev_imul dX11_ways_172 ?_
      refine ev_iload_n 1 dX11_ways_173 rfl ?_
      refine ev_iadd dX11_ways_174 ?_
      obtain ⟨g37, h⟩ := gd_some h
      obtain ⟨g38, h⟩ := gd_some h
      refine ev_lald dX11_ways_175 (isA_O g37) g38 ?_
      refine ev_l2i dX11_ways_176 ?_
      exact ev_retI .int dX11_ways_177 rfl rfl h
    · refine ev_icmp_gt_n 161 dX11_ways_68 rfl c33 ?_
      refine ev_iconst (v := 0) dX11_ways_71 (by decide) ?_
      refine ev_istore (ls' := [(4, .int (0)), (0, .ref a0), (1, .int (a1)), (2, .int (a2)), (3, .int (a3))]) dX11_ways_72 (by decide) rfl ?_
      refine ev_sub (ls' := [(0, .ref a0), (1, .int (a1)), (2, .int (a2)), (3, .int (a3)), (4, .int (0))]) [1, 2, 3, 4, 0] rfl ?_
      exact e_X11_ways_74 hk66 16000 h
def sb_X11_ways_39 (k39 : Nat → Int32 → Int32 → Int32 → St → Option (Int32 × St)) (a0 : Nat) (a1 : Int32) (a2 : Int32) (a3 : Int32) (σ : St) : Option (Int32 × St) :=
 if isO σ 11 a0 = true then (if ((256 : Int32) * (sI σ a0 5)) ≤ a3 then (s_X11_ways_66 16000 a0 a1 a2 1 σ) else (op (sP σ a0 23) fun p41 =>
 if isO σ 14 p41 = true then (if inR a3 (alen σ p41) = true then (lt (setL σ p41 a3.toNatClampNeg 0) fun σ45 =>
 lt (a3 + 1 : Int32) fun v47 =>
 k39 a0 a1 a2 v47 σ45) else none) else none)) else none
def s_X11_ways_39 (F : Nat) : Nat → Int32 → Int32 → Int32 → St → Option (Int32 × St) := lp (fun _ _ _ _ _ => none) (sb_X11_ways_39 ) F
set_option maxHeartbeats 4000000 in
set_option maxRecDepth 100000 in
theorem e_X11_ways_39 {r : Int32} {σ' : St} (F : Nat) : ∀ {a0 : Nat} {a1 : Int32} {a2 : Int32} {a3 : Int32} {σ : St}, s_X11_ways_39 F a0 a1 a2 a3 σ = some (r, σ') → Ev M_X11_ways (8) 39 [(0, .ref a0), (1, .int (a1)), (2, .int (a2)), (3, .int (a3))] [] σ (some (.int r)) σ' := by
  induction F with
  | zero => intro a0 a1 a2 a3 σ h; cases h
  | succ F ih =>
    intro a0 a1 a2 a3 σ h
    change sb_X11_ways_39  (s_X11_ways_39 F) a0 a1 a2 a3 σ = some (r, σ') at h
    unfold sb_X11_ways_39 at h
    have hk39 := @ih
    refine ev_iload_n 3 dX11_ways_39 rfl ?_
    refine ev_sipush (v := 256) dX11_ways_40 (by decide) ?_
    refine ev_aload_nR 0 dX11_ways_43 rfl ?_
    obtain ⟨g39, h⟩ := gd_some h
    refine ev_getI dX11_ways_44 fl_X11_92 rfl g39 ?_
    refine ev_imul dX11_ways_47 ?_
    rcases it_some h with ⟨c40, h⟩ | ⟨c40, h⟩
    · refine ev_icmp_ge (tgt := 64) dX11_ways_48 rfl c40 ?_
      refine ev_iconst (v := 1) dX11_ways_64 (by decide) ?_
      refine ev_istore_n (ls' := [(3, .int (1)), (0, .ref a0), (1, .int (a1)), (2, .int (a2))]) dX11_ways_65 (by decide) rfl ?_
      refine ev_sub (ls' := [(0, .ref a0), (1, .int (a1)), (2, .int (a2)), (3, .int (1))]) [1, 2, 3, 0] rfl ?_
      exact e_X11_ways_66 16000 h
    · refine ev_icmp_ge_n 64 dX11_ways_48 rfl c40 ?_
      refine ev_aload_nR 0 dX11_ways_51 rfl ?_
      obtain ⟨p41, e42, h⟩ := op_some h
      refine ev_getPR dX11_ways_52 fl_X11_60 rfl g39 e42 ?_
      refine ev_iload_n 3 dX11_ways_55 rfl ?_
      refine ev_lconst (v := 0) dX11_ways_56 (by decide) ?_
      obtain ⟨g43, h⟩ := gd_some h
      obtain ⟨g44, h⟩ := gd_some h
      obtain ⟨σ45, e46, h⟩ := lt_some h
      refine ev_last dX11_ways_57 (isO_spec g43).1 (isA_O g43) g44 ?_
      refine ev_st e46 ?_
      obtain ⟨v47, e48, h⟩ := lt_some h
      refine ev_iinc (v := v47) (ls' := [(3, .int (v47)), (0, .ref a0), (1, .int (a1)), (2, .int (a2))]) 3 dX11_ways_58 rfl e48.symm (by decide) rfl ?_
      refine ev_goto (tgt := 39) dX11_ways_61 rfl ?_
      refine ev_sub (ls' := [(0, .ref a0), (1, .int (a1)), (2, .int (a2)), (3, .int (v47))]) [1, 2, 3, 0] rfl ?_
      exact hk39 h
def s_X11_ways (a0 : Nat) (a1 : Int32) (a2 : Int32) (σ : St) : Option (Int32 × St) :=
 if isO σ 11 a0 = true then (bd (s_X11_areThere a0 a1 σ) fun r52 σ50 =>
 if r52 = 0 then (some ((-1), σ50)) else (bd (s_X11_in a2 0 10 σ50) fun r56 σ54 =>
 if r56 = 0 then (some ((-2), σ54)) else (if isO σ54 11 a0 = true then (bd (s_X11_isGoal a0 σ54) fun r61 σ59 =>
 if r61 = 0 then (some ((-3), σ59)) else (if isO σ59 11 a0 = true then (bd (s_X11_lay a0 σ59) fun r66 σ64 =>
 s_X11_ways_39 16000 a0 a1 a2 0 σ64) else none)) else none))) else none
set_option maxHeartbeats 4000000 in
set_option maxRecDepth 100000 in
theorem x_X11_ways {a0 : Nat} {a1 : Int32} {a2 : Int32} {σ : St} {r : Int32} {σ' : St} (h : s_X11_ways a0 a1 a2 σ = some (r, σ')) : Ex M_X11_ways (8) [.ref a0, .int (a1), .int (a2)] σ (some (.int r)) σ' := by
  unfold s_X11_ways at h
  refine ex_of (by decide) rfl (Nat.le_of_ble_eq_true rfl) ?_
  show Ev _ _ 0 [(0, .ref a0), (1, .int (a1)), (2, .int (a2))] [] _ _ _
  refine ev_aload_nR 0 dX11_ways_0 rfl ?_
  refine ev_iload_n 1 dX11_ways_1 rfl ?_
  obtain ⟨g49, h⟩ := gd_some h
  obtain ⟨r52, σ50, e51, h⟩ := bd_some h
  refine ev_invVi (As := [.int (a1)]) (st := []) dX11_ways_2 cb_X11_areThere tp_1158 tp_1160 tp_67 kf11 rfl (by omega) g49 rfl rfl (Nat.le_of_ble_eq_true rfl) (x_X11_areThere e51) ?_
  rcases it_some h with ⟨c53, h⟩ | ⟨c53, h⟩
  · refine ev_if_ne_n 10 dX11_ways_5 rfl c53 ?_
    refine ev_iconst (v := (-1)) dX11_ways_8 (by decide) ?_
    exact ev_retI .int dX11_ways_9 rfl rfl h
  · refine ev_if_ne (tgt := 10) dX11_ways_5 rfl c53 ?_
    refine ev_iload_n 2 dX11_ways_10 rfl ?_
    refine ev_iconst (v := 0) dX11_ways_11 (by decide) ?_
    refine ev_bipush (v := 10) dX11_ways_12 (by decide) ?_
    obtain ⟨r56, σ54, e55, h⟩ := bd_some h
    refine ev_invSi (As := [.int (a2), .int (0), .int (10)]) (st := []) dX11_ways_14 cb_X11_in tp_1066 tp_1067 (by omega) rfl rfl (Nat.le_of_ble_eq_true rfl) (x_X11_in e55) ?_
    rcases it_some h with ⟨c57, h⟩ | ⟨c57, h⟩
    · refine ev_if_ne_n 23 dX11_ways_17 rfl c57 ?_
      refine ev_bipush (v := (-2)) dX11_ways_20 (by decide) ?_
      exact ev_retI .int dX11_ways_22 rfl rfl h
    · refine ev_if_ne (tgt := 23) dX11_ways_17 rfl c57 ?_
      refine ev_aload_nR 0 dX11_ways_23 rfl ?_
      obtain ⟨g58, h⟩ := gd_some h
      obtain ⟨r61, σ59, e60, h⟩ := bd_some h
      refine ev_invVi (As := []) (st := []) dX11_ways_24 cb_X11_isGoal tp_1166 tp_1168 tp_69 kf11 rfl (by omega) g58 rfl rfl (Nat.le_of_ble_eq_true rfl) (x_X11_isGoal e60) ?_
      rcases it_some h with ⟨c62, h⟩ | ⟨c62, h⟩
      · refine ev_if_ne_n 33 dX11_ways_27 rfl c62 ?_
        refine ev_bipush (v := (-3)) dX11_ways_30 (by decide) ?_
        exact ev_retI .int dX11_ways_32 rfl rfl h
      · refine ev_if_ne (tgt := 33) dX11_ways_27 rfl c62 ?_
        refine ev_aload_nR 0 dX11_ways_33 rfl ?_
        obtain ⟨g63, h⟩ := gd_some h
        obtain ⟨r66, σ64, e65, h⟩ := bd_some h
        refine ev_invVv (As := []) (st := []) dX11_ways_34 cb_X11_lay tp_1170 tp_1172 tp_70 kf11 rfl (by omega) g63 rfl rfl (Nat.le_of_ble_eq_true rfl) (x_X11_lay e65) ?_
        refine ev_iconst (v := 0) dX11_ways_37 (by decide) ?_
        refine ev_istore_n (ls' := [(3, .int (0)), (0, .ref a0), (1, .int (a1)), (2, .int (a2))]) dX11_ways_38 (by decide) rfl ?_
        refine ev_sub (ls' := [(0, .ref a0), (1, .int (a1)), (2, .int (a2)), (3, .int (0))]) [1, 2, 3, 0] rfl ?_
        exact e_X11_ways_39 16000 h
def s_X11_fewest_56 (k19 : Nat → Int32 → Int32 → St → Option (Int32 × St)) (a0 : Nat) (a2 : Int32) (σ : St) : Option (Int32 × St) :=
 lt (a2 + 1 : Int32) fun v1 =>
 k19 a0 a2 v1 σ
set_option maxHeartbeats 4000000 in
set_option maxRecDepth 100000 in
theorem e_X11_fewest_56 {r : Int32} {σ' : St} {k19 : Nat → Int32 → Int32 → St → Option (Int32 × St)} (hk19 : ∀ {y0 : Nat} {y1 : Int32} {y2 : Int32} {σ : St}, k19 y0 y1 y2 σ = some (r, σ') → Ev M_X11_fewest (8) 19 [(0, .ref y0), (1, .int (y1)), (2, .int (y2))] [] σ (some (.int r)) σ') : ∀ {a0 : Nat} {a2 : Int32} {σ : St}, s_X11_fewest_56 k19 a0 a2 σ = some (r, σ') → Ev M_X11_fewest (8) 56 [(0, .ref a0), (2, .int (a2))] [] σ (some (.int r)) σ' := by
  intro a0 a2 σ h
  unfold s_X11_fewest_56 at h
  refine ev_iload_n 1 dX11_fewest_56 rfl ?_
  refine ev_istore_n (ls' := [(1, .int (a2)), (0, .ref a0), (2, .int (a2))]) dX11_fewest_57 (by decide) rfl ?_
  obtain ⟨v1, e2, h⟩ := lt_some h
  refine ev_iinc (v := v1) (ls' := [(2, .int (v1)), (1, .int (a2)), (0, .ref a0)]) 2 dX11_fewest_58 rfl e2.symm (by decide) rfl ?_
  refine ev_goto (tgt := 19) dX11_fewest_61 rfl ?_
  refine ev_sub (ls' := [(0, .ref a0), (1, .int (a2)), (2, .int (v1))]) [2, 1, 0] rfl ?_
  exact hk19 h
def sb_X11_fewest_19 (k19 : Nat → Int32 → Int32 → St → Option (Int32 × St)) (a0 : Nat) (a1 : Int32) (a2 : Int32) (σ : St) : Option (Int32 × St) :=
 if (32 : Int32) ≤ a2 then (some (a1, σ)) else (if isO σ 11 a0 = true then (bd (s_X11_areThere a0 a2 σ) fun r7 σ5 =>
 if r7 = 0 then (lt (a2 + 1 : Int32) fun v9 =>
 k19 a0 a1 v9 σ5) else (if isO σ5 11 a0 = true then (bd (s_X11_heightOf a0 a2 σ5) fun r14 σ12 =>
 if r14 ≤ 0 then (lt (a2 + 1 : Int32) fun v16 =>
 k19 a0 a1 v16 σ12) else (if a1 < 0 then (s_X11_fewest_56 k19 a0 a2 σ12) else (bd (s_X11_bits a2 σ12) fun r21 σ19 =>
 bd (s_X11_bits a1 σ19) fun r24 σ22 =>
 if r24 ≤ r21 then (lt (a2 + 1 : Int32) fun v26 =>
 k19 a0 a1 v26 σ22) else (s_X11_fewest_56 k19 a0 a2 σ22)))) else none)) else none)
def s_X11_fewest_19 (F : Nat) : Nat → Int32 → Int32 → St → Option (Int32 × St) := lp (fun _ _ _ _ => none) (sb_X11_fewest_19 ) F
set_option maxHeartbeats 4000000 in
set_option maxRecDepth 100000 in
theorem e_X11_fewest_19 {r : Int32} {σ' : St} (F : Nat) : ∀ {a0 : Nat} {a1 : Int32} {a2 : Int32} {σ : St}, s_X11_fewest_19 F a0 a1 a2 σ = some (r, σ') → Ev M_X11_fewest (8) 19 [(0, .ref a0), (1, .int (a1)), (2, .int (a2))] [] σ (some (.int r)) σ' := by
  induction F with
  | zero => intro a0 a1 a2 σ h; cases h
  | succ F ih =>
    intro a0 a1 a2 σ h
    change sb_X11_fewest_19  (s_X11_fewest_19 F) a0 a1 a2 σ = some (r, σ') at h
    unfold sb_X11_fewest_19 at h
    have hk19 := @ih
    refine ev_iload_n 2 dX11_fewest_19 rfl ?_
    refine ev_bipush (v := 32) dX11_fewest_20 (by decide) ?_
    rcases it_some h with ⟨c3, h⟩ | ⟨c3, h⟩
    · refine ev_icmp_ge (tgt := 64) dX11_fewest_22 rfl c3 ?_
      refine ev_iload_n 1 dX11_fewest_64 rfl ?_
      exact ev_retI .int dX11_fewest_65 rfl rfl h
    · refine ev_icmp_ge_n 64 dX11_fewest_22 rfl c3 ?_
      refine ev_aload_nR 0 dX11_fewest_25 rfl ?_
      refine ev_iload_n 2 dX11_fewest_26 rfl ?_
      obtain ⟨g4, h⟩ := gd_some h
      obtain ⟨r7, σ5, e6, h⟩ := bd_some h
      refine ev_invVi (As := [.int (a2)]) (st := []) dX11_fewest_27 cb_X11_areThere tp_1158 tp_1160 tp_67 kf11 rfl (by omega) g4 rfl rfl (Nat.le_of_ble_eq_true rfl) (x_X11_areThere e6) ?_
      rcases it_some h with ⟨c8, h⟩ | ⟨c8, h⟩
      · refine ev_if_eq (tgt := 58) dX11_fewest_30 rfl c8 ?_
        obtain ⟨v9, e10, h⟩ := lt_some h
        refine ev_iinc (v := v9) (ls' := [(2, .int (v9)), (0, .ref a0), (1, .int (a1))]) 2 dX11_fewest_58 rfl e10.symm (by decide) rfl ?_
        refine ev_goto (tgt := 19) dX11_fewest_61 rfl ?_
        refine ev_sub (ls' := [(0, .ref a0), (1, .int (a1)), (2, .int (v9))]) [1, 2, 0] rfl ?_
        exact hk19 h
      · refine ev_if_eq_n 58 dX11_fewest_30 rfl c8 ?_
        refine ev_aload_nR 0 dX11_fewest_33 rfl ?_
        refine ev_iload_n 2 dX11_fewest_34 rfl ?_
        obtain ⟨g11, h⟩ := gd_some h
        obtain ⟨r14, σ12, e13, h⟩ := bd_some h
        refine ev_invVi (As := [.int (a2)]) (st := []) dX11_fewest_35 cb_X11_heightOf tp_1197 tp_1199 tp_76 kf11 rfl (by omega) g11 rfl rfl (Nat.le_of_ble_eq_true rfl) (x_X11_heightOf e13) ?_
        rcases it_some h with ⟨c15, h⟩ | ⟨c15, h⟩
        · refine ev_if_le (tgt := 58) dX11_fewest_38 rfl c15 ?_
          obtain ⟨v16, e17, h⟩ := lt_some h
          refine ev_iinc (v := v16) (ls' := [(2, .int (v16)), (0, .ref a0), (1, .int (a1))]) 2 dX11_fewest_58 rfl e17.symm (by decide) rfl ?_
          refine ev_goto (tgt := 19) dX11_fewest_61 rfl ?_
          refine ev_sub (ls' := [(0, .ref a0), (1, .int (a1)), (2, .int (v16))]) [1, 2, 0] rfl ?_
          exact hk19 h
        · refine ev_if_le_n 58 dX11_fewest_38 rfl c15 ?_
          refine ev_iload_n 1 dX11_fewest_41 rfl ?_
          rcases it_some h with ⟨c18, h⟩ | ⟨c18, h⟩
          · refine ev_if_lt (tgt := 56) dX11_fewest_42 rfl c18 ?_
            refine ev_sub (ls' := [(0, .ref a0), (2, .int (a2))]) [0, 2] rfl ?_
            exact e_X11_fewest_56 hk19 h
          · refine ev_if_lt_n 56 dX11_fewest_42 rfl c18 ?_
            refine ev_iload_n 2 dX11_fewest_45 rfl ?_
            obtain ⟨r21, σ19, e20, h⟩ := bd_some h
            refine ev_invSi (As := [.int (a2)]) (st := []) dX11_fewest_46 cb_X11_bits tp_1151 tp_1152 (by omega) rfl rfl (Nat.le_of_ble_eq_true rfl) (x_X11_bits e20) ?_
            refine ev_iload_n 1 dX11_fewest_49 rfl ?_
            obtain ⟨r24, σ22, e23, h⟩ := bd_some h
            refine ev_invSi (As := [.int (a1)]) (st := [.int (r21)]) dX11_fewest_50 cb_X11_bits tp_1151 tp_1152 (by omega) rfl rfl (Nat.le_of_ble_eq_true rfl) (x_X11_bits e23) ?_
            rcases it_some h with ⟨c25, h⟩ | ⟨c25, h⟩
            · refine ev_icmp_ge (tgt := 58) dX11_fewest_53 rfl c25 ?_
              obtain ⟨v26, e27, h⟩ := lt_some h
              refine ev_iinc (v := v26) (ls' := [(2, .int (v26)), (0, .ref a0), (1, .int (a1))]) 2 dX11_fewest_58 rfl e27.symm (by decide) rfl ?_
              refine ev_goto (tgt := 19) dX11_fewest_61 rfl ?_
              refine ev_sub (ls' := [(0, .ref a0), (1, .int (a1)), (2, .int (v26))]) [1, 2, 0] rfl ?_
              exact hk19 h
            · refine ev_icmp_ge_n 58 dX11_fewest_53 rfl c25 ?_
              refine ev_sub (ls' := [(0, .ref a0), (2, .int (a2))]) [0, 2] rfl ?_
              exact e_X11_fewest_56 hk19 h
def s_X11_fewest (a0 : Nat) (σ : St) : Option (Int32 × St) :=
 if isO σ 11 a0 = true then (bd (s_X11_isGoal a0 σ) fun r31 σ29 =>
 if r31 = 0 then (some ((-3), σ29)) else (if isO σ29 11 a0 = true then (bd (s_X11_lay a0 σ29) fun r36 σ34 =>
 s_X11_fewest_19 16000 a0 ((-6)) 0 σ34) else none)) else none
set_option maxHeartbeats 4000000 in
set_option maxRecDepth 100000 in
theorem x_X11_fewest {a0 : Nat} {σ : St} {r : Int32} {σ' : St} (h : s_X11_fewest a0 σ = some (r, σ')) : Ex M_X11_fewest (8) [.ref a0] σ (some (.int r)) σ' := by
  unfold s_X11_fewest at h
  refine ex_of (by decide) rfl (Nat.le_of_ble_eq_true rfl) ?_
  show Ev _ _ 0 [(0, .ref a0)] [] _ _ _
  refine ev_aload_nR 0 dX11_fewest_0 rfl ?_
  obtain ⟨g28, h⟩ := gd_some h
  obtain ⟨r31, σ29, e30, h⟩ := bd_some h
  refine ev_invVi (As := []) (st := []) dX11_fewest_1 cb_X11_isGoal tp_1166 tp_1168 tp_69 kf11 rfl (by omega) g28 rfl rfl (Nat.le_of_ble_eq_true rfl) (x_X11_isGoal e30) ?_
  rcases it_some h with ⟨c32, h⟩ | ⟨c32, h⟩
  · refine ev_if_ne_n 10 dX11_fewest_4 rfl c32 ?_
    refine ev_bipush (v := (-3)) dX11_fewest_7 (by decide) ?_
    exact ev_retI .int dX11_fewest_9 rfl rfl h
  · refine ev_if_ne (tgt := 10) dX11_fewest_4 rfl c32 ?_
    refine ev_aload_nR 0 dX11_fewest_10 rfl ?_
    obtain ⟨g33, h⟩ := gd_some h
    obtain ⟨r36, σ34, e35, h⟩ := bd_some h
    refine ev_invVv (As := []) (st := []) dX11_fewest_11 cb_X11_lay tp_1170 tp_1172 tp_70 kf11 rfl (by omega) g33 rfl rfl (Nat.le_of_ble_eq_true rfl) (x_X11_lay e35) ?_
    refine ev_bipush (v := (-6)) dX11_fewest_14 (by decide) ?_
    refine ev_istore_n (ls' := [(1, .int ((-6))), (0, .ref a0)]) dX11_fewest_16 (by decide) rfl ?_
    refine ev_iconst (v := 0) dX11_fewest_17 (by decide) ?_
    refine ev_istore_n (ls' := [(2, .int (0)), (1, .int ((-6))), (0, .ref a0)]) dX11_fewest_18 (by decide) rfl ?_
    refine ev_sub (ls' := [(0, .ref a0), (1, .int (((-6)))), (2, .int (0))]) [2, 1, 0] rfl ?_
    exact e_X11_fewest_19 16000 h
