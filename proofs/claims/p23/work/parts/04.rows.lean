section EVQ
variable {M : MI} {d pc : Nat} {ls : List (Nat × Value)} {st : List Value} {σ σ' : St} {r : Option Value}
theorem ev_iadd {x y : Int32} (hd : decode M.2.1 pc = .ok (.iadd, 1)) (k : Ev M d (pc + 1) ls (.int (x + y) :: st) σ r σ') : Ev M d pc ls (.int y :: .int x :: st) σ r σ' :=
  ev_pure (fun _ _ _ _ _ _ _ _ _ _ _ _ _ _ _ _ ar hF hl kk => lv_iadd hF.hx hF.hb hd (kk ar hl)) k
theorem ev_isub {x y : Int32} (hd : decode M.2.1 pc = .ok (.isub, 1)) (k : Ev M d (pc + 1) ls (.int (x - y) :: st) σ r σ') : Ev M d pc ls (.int y :: .int x :: st) σ r σ' :=
  ev_pure (fun _ _ _ _ _ _ _ _ _ _ _ _ _ _ _ _ ar hF hl kk => lv_isub hF.hx hF.hb hd (kk ar hl)) k
theorem ev_imul {x y : Int32} (hd : decode M.2.1 pc = .ok (.imul, 1)) (k : Ev M d (pc + 1) ls (.int (x * y) :: st) σ r σ') : Ev M d pc ls (.int y :: .int x :: st) σ r σ' :=
  ev_pure (fun _ _ _ _ _ _ _ _ _ _ _ _ _ _ _ _ ar hF hl kk => lv_imul hF.hx hF.hb hd (kk ar hl)) k
theorem ev_iand {x y : Int32} (hd : decode M.2.1 pc = .ok (.iand, 1)) (k : Ev M d (pc + 1) ls (.int (x &&& y) :: st) σ r σ') : Ev M d pc ls (.int y :: .int x :: st) σ r σ' :=
  ev_pure (fun _ _ _ _ _ _ _ _ _ _ _ _ _ _ _ _ ar hF hl kk => lv_iand hF.hx hF.hb hd (kk ar hl)) k
theorem ev_ior {x y : Int32} (hd : decode M.2.1 pc = .ok (.ior, 1)) (k : Ev M d (pc + 1) ls (.int (x ||| y) :: st) σ r σ') : Ev M d pc ls (.int y :: .int x :: st) σ r σ' :=
  ev_pure (fun _ _ _ _ _ _ _ _ _ _ _ _ _ _ _ _ ar hF hl kk => lv_ior hF.hx hF.hb hd (kk ar hl)) k
theorem ev_ixor {x y : Int32} (hd : decode M.2.1 pc = .ok (.ixor, 1)) (k : Ev M d (pc + 1) ls (.int (x ^^^ y) :: st) σ r σ') : Ev M d pc ls (.int y :: .int x :: st) σ r σ' :=
  ev_pure (fun _ _ _ _ _ _ _ _ _ _ _ _ _ _ _ _ ar hF hl kk => lv_ixor hF.hx hF.hb hd (kk ar hl)) k
theorem ev_ishl {x y : Int32} (hd : decode M.2.1 pc = .ok (.ishl, 1)) (k : Ev M d (pc + 1) ls (.int (x <<< (y &&& 31)) :: st) σ r σ') : Ev M d pc ls (.int y :: .int x :: st) σ r σ' :=
  ev_pure (fun _ _ _ _ _ _ _ _ _ _ _ _ _ _ _ _ ar hF hl kk => lv_ishl hF.hx hF.hb hd (kk ar hl)) k
theorem ev_ishr {x y : Int32} (hd : decode M.2.1 pc = .ok (.ishr, 1)) (k : Ev M d (pc + 1) ls (.int (x >>> (y &&& 31)) :: st) σ r σ') : Ev M d pc ls (.int y :: .int x :: st) σ r σ' :=
  ev_pure (fun _ _ _ _ _ _ _ _ _ _ _ _ _ _ _ _ ar hF hl kk => lv_ishr hF.hx hF.hb hd (kk ar hl)) k
theorem ev_idiv {x y : Int32} (hd : decode M.2.1 pc = .ok (.idiv, 1)) (h0 : ¬ y = 0) (k : Ev M d (pc + 1) ls (.int (x / y) :: st) σ r σ') : Ev M d pc ls (.int y :: .int x :: st) σ r σ' :=
  ev_pure (fun _ _ _ _ _ _ _ _ _ _ _ _ _ _ _ _ ar hF hl kk => lv_idiv hF.hx hF.hb hd h0 (kk ar hl)) k
theorem ev_irem {x y : Int32} (hd : decode M.2.1 pc = .ok (.irem, 1)) (h0 : ¬ y = 0) (k : Ev M d (pc + 1) ls (.int (x - x / y * y) :: st) σ r σ') : Ev M d pc ls (.int y :: .int x :: st) σ r σ' :=
  ev_pure (fun _ _ _ _ _ _ _ _ _ _ _ _ _ _ _ _ ar hF hl kk => lv_irem hF.hx hF.hb hd h0 (kk ar hl)) k
theorem ev_iushr {x y : Int32} (hd : decode M.2.1 pc = .ok (.iushr, 1)) (k : Ev M d (pc + 1) ls (.int ((x.toUInt32 >>> (y.toUInt32 &&& Int32.toUInt32 31)).toInt32) :: st) σ r σ') : Ev M d pc ls (.int y :: .int x :: st) σ r σ' :=
  ev_pure (fun _ _ _ _ _ _ _ _ _ _ _ _ _ _ _ _ ar hF hl kk => lv_iushr hF.hx hF.hb hd rfl (kk ar hl)) k
theorem ev_ladd {x y : Int64} (hd : decode M.2.1 pc = .ok (.ladd, 1)) (k : Ev M d (pc + 1) ls (.long (x + y) :: st) σ r σ') : Ev M d pc ls (.long y :: .long x :: st) σ r σ' :=
  ev_pure (fun _ _ _ _ _ _ _ _ _ _ _ _ _ _ _ _ ar hF hl kk => lv_ladd hF.hx hF.hb hd (kk ar hl)) k
theorem ev_lsub {x y : Int64} (hd : decode M.2.1 pc = .ok (.lsub, 1)) (k : Ev M d (pc + 1) ls (.long (x - y) :: st) σ r σ') : Ev M d pc ls (.long y :: .long x :: st) σ r σ' :=
  ev_pure (fun _ _ _ _ _ _ _ _ _ _ _ _ _ _ _ _ ar hF hl kk => lv_lsub hF.hx hF.hb hd (kk ar hl)) k
theorem ev_lmul {x y : Int64} (hd : decode M.2.1 pc = .ok (.lmul, 1)) (k : Ev M d (pc + 1) ls (.long (x * y) :: st) σ r σ') : Ev M d pc ls (.long y :: .long x :: st) σ r σ' :=
  ev_pure (fun _ _ _ _ _ _ _ _ _ _ _ _ _ _ _ _ ar hF hl kk => lv_lmul hF.hx hF.hb hd (kk ar hl)) k
theorem ev_land {x y : Int64} (hd : decode M.2.1 pc = .ok (.land, 1)) (k : Ev M d (pc + 1) ls (.long (x &&& y) :: st) σ r σ') : Ev M d pc ls (.long y :: .long x :: st) σ r σ' :=
  ev_pure (fun _ _ _ _ _ _ _ _ _ _ _ _ _ _ _ _ ar hF hl kk => lv_land hF.hx hF.hb hd (kk ar hl)) k
theorem ev_lor {x y : Int64} (hd : decode M.2.1 pc = .ok (.lor, 1)) (k : Ev M d (pc + 1) ls (.long (x ||| y) :: st) σ r σ') : Ev M d pc ls (.long y :: .long x :: st) σ r σ' :=
  ev_pure (fun _ _ _ _ _ _ _ _ _ _ _ _ _ _ _ _ ar hF hl kk => lv_lor hF.hx hF.hb hd (kk ar hl)) k
theorem ev_lcmp {x y : Int64} (hd : decode M.2.1 pc = .ok (.lcmp, 1)) (k : Ev M d (pc + 1) ls (.int (lg_cmp x y) :: st) σ r σ') : Ev M d pc ls (.long y :: .long x :: st) σ r σ' :=
  ev_pure (fun _ _ _ _ _ _ _ _ _ _ _ _ _ _ _ _ ar hF hl kk => W.lcmp hF.hx hF.hb hd (kk ar hl)) k
theorem ev_lshl {x : Int64} {y : Int32} (hd : decode M.2.1 pc = .ok (.lshl, 1)) (k : Ev M d (pc + 1) ls (.long (x <<< (y.toInt64 &&& 63)) :: st) σ r σ') : Ev M d pc ls (.int y :: .long x :: st) σ r σ' :=
  ev_pure (fun _ _ _ _ _ _ _ _ _ _ _ _ _ _ _ _ ar hF hl kk => lv_lshl hF.hx hF.hb hd rfl (kk ar hl)) k
theorem ev_lushr {x : Int64} {y : Int32} (hd : decode M.2.1 pc = .ok (.lushr, 1)) (k : Ev M d (pc + 1) ls (.long ((x.toUInt64 >>> (y.toInt64.toUInt64 &&& Int64.toUInt64 63)).toInt64) :: st) σ r σ') : Ev M d pc ls (.int y :: .long x :: st) σ r σ' :=
  ev_pure (fun _ _ _ _ _ _ _ _ _ _ _ _ _ _ _ _ ar hF hl kk => lv_lushr hF.hx hF.hb hd rfl (kk ar hl)) k
theorem ev_i2l {x : Int32} (hd : decode M.2.1 pc = .ok (.i2l, 1)) (k : Ev M d (pc + 1) ls (.long (x.toInt64) :: st) σ r σ') : Ev M d pc ls (.int x :: st) σ r σ' :=
  ev_pure (fun _ _ _ _ _ _ _ _ _ _ _ _ _ _ _ _ ar hF hl kk => lv_i2l hF.hx hF.hb hd rfl (kk ar hl)) k
theorem ev_l2i {x : Int64} (hd : decode M.2.1 pc = .ok (.l2i, 1)) (k : Ev M d (pc + 1) ls (.int (x.toInt32) :: st) σ r σ') : Ev M d pc ls (.long x :: st) σ r σ' :=
  ev_pure (fun _ _ _ _ _ _ _ _ _ _ _ _ _ _ _ _ ar hF hl kk => lv_l2i hF.hx hF.hb hd rfl (kk ar hl)) k
theorem ev_i2c {x : Int32} (hd : decode M.2.1 pc = .ok (.i2c, 1)) (k : Ev M d (pc + 1) ls (.int ((x.toUInt32 % 65536).toInt32) :: st) σ r σ') : Ev M d pc ls (.int x :: st) σ r σ' :=
  ev_pure (fun _ _ _ _ _ _ _ _ _ _ _ _ _ _ _ _ ar hF hl kk => lv_i2c hF.hx hF.hb hd rfl (kk ar hl)) k
theorem ev_dup {v : Value} (hd : decode M.2.1 pc = .ok (.dup, 1)) (hv : v.category = 1) (k : Ev M d (pc + 1) ls (v :: v :: st) σ r σ') : Ev M d pc ls (v :: st) σ r σ' :=
  ev_pure (fun G _ _ _ _ _ _ _ _ _ _ _ _ _ _ _ ar hF hl kk => lv_dup hF.hx hF.hb hd (by rw [cv_cat]; exact hv) (kk ar hl)) k
theorem ev_pop {v : Value} (hd : decode M.2.1 pc = .ok (.pop, 1)) (hv : v.category = 1) (k : Ev M d (pc + 1) ls st σ r σ') : Ev M d pc ls (v :: st) σ r σ' :=
  ev_pure (fun G _ _ _ _ _ _ _ _ _ _ _ _ _ _ _ ar hF hl kk => lv_pop hF.hx hF.hb hd (by rw [cv_cat]; exact hv) (kk ar hl)) k
theorem ev_dup2 {v w : Value} (hd : decode M.2.1 pc = .ok (.dup2, 1)) (hv : v.category = 1) (hw : w.category = 1) (k : Ev M d (pc + 1) ls (v :: w :: v :: w :: st) σ r σ') : Ev M d pc ls (v :: w :: st) σ r σ' :=
  ev_pure (fun G _ _ _ _ _ _ _ _ _ _ _ _ _ _ _ ar hF hl kk => lv_dup2_11 hF.hx hF.hb hd (by rw [cv_cat]; exact hv) (by rw [cv_cat]; exact hw) (kk ar hl)) k
theorem ev_if_eq {x : Int32} {off : Int} {tgt : Nat} (hd : decode M.2.1 pc = .ok (.ifCond .eq off, 3)) (ht : (pc : Int) + off = (tgt : Int)) (c1 : x = 0) (k : Ev M d tgt ls st σ r σ') : Ev M d pc ls (.int x :: st) σ r σ' :=
  ev_pure (fun _ _ _ _ _ _ _ _ _ _ _ _ _ _ _ _ ar hF hl kk => lv_if_eq hF.hx hF.hb hd ht (fun _ => kk ar hl) (fun h => absurd c1 h)) k
theorem ev_if_eq_n {x : Int32} {off : Int} (tgt : Nat) (hd : decode M.2.1 pc = .ok (.ifCond .eq off, 3)) (ht : (pc : Int) + off = (tgt : Int)) (c1 : ¬ x = 0) (k : Ev M d (pc + 3) ls st σ r σ') : Ev M d pc ls (.int x :: st) σ r σ' :=
  ev_pure (fun _ _ _ _ _ _ _ _ _ _ _ _ _ _ _ _ ar hF hl kk => lv_if_eq hF.hx hF.hb hd ht (fun h => absurd h c1) (fun _ => kk ar hl)) k
theorem ev_if_ne {x : Int32} {off : Int} {tgt : Nat} (hd : decode M.2.1 pc = .ok (.ifCond .ne off, 3)) (ht : (pc : Int) + off = (tgt : Int)) (c1 : ¬ x = 0) (k : Ev M d tgt ls st σ r σ') : Ev M d pc ls (.int x :: st) σ r σ' :=
  ev_pure (fun _ _ _ _ _ _ _ _ _ _ _ _ _ _ _ _ ar hF hl kk => lv_if_ne hF.hx hF.hb hd ht (fun _ => kk ar hl) (fun h => absurd h c1)) k
theorem ev_if_ne_n {x : Int32} {off : Int} (tgt : Nat) (hd : decode M.2.1 pc = .ok (.ifCond .ne off, 3)) (ht : (pc : Int) + off = (tgt : Int)) (c1 : x = 0) (k : Ev M d (pc + 3) ls st σ r σ') : Ev M d pc ls (.int x :: st) σ r σ' :=
  ev_pure (fun _ _ _ _ _ _ _ _ _ _ _ _ _ _ _ _ ar hF hl kk => lv_if_ne hF.hx hF.hb hd ht (fun h => absurd c1 h) (fun _ => kk ar hl)) k
theorem ev_if_lt {x : Int32} {off : Int} {tgt : Nat} (hd : decode M.2.1 pc = .ok (.ifCond .lt off, 3)) (ht : (pc : Int) + off = (tgt : Int)) (c1 : x < 0) (k : Ev M d tgt ls st σ r σ') : Ev M d pc ls (.int x :: st) σ r σ' :=
  ev_pure (fun _ _ _ _ _ _ _ _ _ _ _ _ _ _ _ _ ar hF hl kk => lv_if_lt hF.hx hF.hb hd ht (fun _ => kk ar hl) (fun h => absurd c1 h)) k
theorem ev_if_lt_n {x : Int32} {off : Int} (tgt : Nat) (hd : decode M.2.1 pc = .ok (.ifCond .lt off, 3)) (ht : (pc : Int) + off = (tgt : Int)) (c1 : ¬ x < 0) (k : Ev M d (pc + 3) ls st σ r σ') : Ev M d pc ls (.int x :: st) σ r σ' :=
  ev_pure (fun _ _ _ _ _ _ _ _ _ _ _ _ _ _ _ _ ar hF hl kk => lv_if_lt hF.hx hF.hb hd ht (fun h => absurd h c1) (fun _ => kk ar hl)) k
theorem ev_if_ge {x : Int32} {off : Int} {tgt : Nat} (hd : decode M.2.1 pc = .ok (.ifCond .ge off, 3)) (ht : (pc : Int) + off = (tgt : Int)) (c1 : 0 ≤ x) (k : Ev M d tgt ls st σ r σ') : Ev M d pc ls (.int x :: st) σ r σ' :=
  ev_pure (fun _ _ _ _ _ _ _ _ _ _ _ _ _ _ _ _ ar hF hl kk => lv_if_ge hF.hx hF.hb hd ht (fun _ => kk ar hl) (fun h => absurd c1 h)) k
theorem ev_if_ge_n {x : Int32} {off : Int} (tgt : Nat) (hd : decode M.2.1 pc = .ok (.ifCond .ge off, 3)) (ht : (pc : Int) + off = (tgt : Int)) (c1 : ¬ 0 ≤ x) (k : Ev M d (pc + 3) ls st σ r σ') : Ev M d pc ls (.int x :: st) σ r σ' :=
  ev_pure (fun _ _ _ _ _ _ _ _ _ _ _ _ _ _ _ _ ar hF hl kk => lv_if_ge hF.hx hF.hb hd ht (fun h => absurd h c1) (fun _ => kk ar hl)) k
theorem ev_if_gt {x : Int32} {off : Int} {tgt : Nat} (hd : decode M.2.1 pc = .ok (.ifCond .gt off, 3)) (ht : (pc : Int) + off = (tgt : Int)) (c1 : 0 < x) (k : Ev M d tgt ls st σ r σ') : Ev M d pc ls (.int x :: st) σ r σ' :=
  ev_pure (fun _ _ _ _ _ _ _ _ _ _ _ _ _ _ _ _ ar hF hl kk => lv_if_gt hF.hx hF.hb hd ht (fun _ => kk ar hl) (fun h => absurd c1 h)) k
theorem ev_if_gt_n {x : Int32} {off : Int} (tgt : Nat) (hd : decode M.2.1 pc = .ok (.ifCond .gt off, 3)) (ht : (pc : Int) + off = (tgt : Int)) (c1 : ¬ 0 < x) (k : Ev M d (pc + 3) ls st σ r σ') : Ev M d pc ls (.int x :: st) σ r σ' :=
  ev_pure (fun _ _ _ _ _ _ _ _ _ _ _ _ _ _ _ _ ar hF hl kk => lv_if_gt hF.hx hF.hb hd ht (fun h => absurd h c1) (fun _ => kk ar hl)) k
theorem ev_if_le {x : Int32} {off : Int} {tgt : Nat} (hd : decode M.2.1 pc = .ok (.ifCond .le off, 3)) (ht : (pc : Int) + off = (tgt : Int)) (c1 : x ≤ 0) (k : Ev M d tgt ls st σ r σ') : Ev M d pc ls (.int x :: st) σ r σ' :=
  ev_pure (fun _ _ _ _ _ _ _ _ _ _ _ _ _ _ _ _ ar hF hl kk => lv_if_le hF.hx hF.hb hd ht (fun _ => kk ar hl) (fun h => absurd c1 h)) k
theorem ev_if_le_n {x : Int32} {off : Int} (tgt : Nat) (hd : decode M.2.1 pc = .ok (.ifCond .le off, 3)) (ht : (pc : Int) + off = (tgt : Int)) (c1 : ¬ x ≤ 0) (k : Ev M d (pc + 3) ls st σ r σ') : Ev M d pc ls (.int x :: st) σ r σ' :=
  ev_pure (fun _ _ _ _ _ _ _ _ _ _ _ _ _ _ _ _ ar hF hl kk => lv_if_le hF.hx hF.hb hd ht (fun h => absurd h c1) (fun _ => kk ar hl)) k
theorem ev_icmp_eq {x y : Int32} {off : Int} {tgt : Nat} (hd : decode M.2.1 pc = .ok (.if_icmp .eq off, 3)) (ht : (pc : Int) + off = (tgt : Int)) (c1 : x = y) (k : Ev M d tgt ls st σ r σ') : Ev M d pc ls (.int y :: .int x :: st) σ r σ' :=
  ev_pure (fun _ _ _ _ _ _ _ _ _ _ _ _ _ _ _ _ ar hF hl kk => lv_icmp_eq hF.hx hF.hb hd ht (fun _ => kk ar hl) (fun h => absurd c1 h)) k
theorem ev_icmp_eq_n {x y : Int32} {off : Int} (tgt : Nat) (hd : decode M.2.1 pc = .ok (.if_icmp .eq off, 3)) (ht : (pc : Int) + off = (tgt : Int)) (c1 : ¬ x = y) (k : Ev M d (pc + 3) ls st σ r σ') : Ev M d pc ls (.int y :: .int x :: st) σ r σ' :=
  ev_pure (fun _ _ _ _ _ _ _ _ _ _ _ _ _ _ _ _ ar hF hl kk => lv_icmp_eq hF.hx hF.hb hd ht (fun h => absurd h c1) (fun _ => kk ar hl)) k
theorem ev_icmp_ne {x y : Int32} {off : Int} {tgt : Nat} (hd : decode M.2.1 pc = .ok (.if_icmp .ne off, 3)) (ht : (pc : Int) + off = (tgt : Int)) (c1 : ¬ x = y) (k : Ev M d tgt ls st σ r σ') : Ev M d pc ls (.int y :: .int x :: st) σ r σ' :=
  ev_pure (fun _ _ _ _ _ _ _ _ _ _ _ _ _ _ _ _ ar hF hl kk => lv_icmp_ne hF.hx hF.hb hd ht (fun _ => kk ar hl) (fun h => absurd h c1)) k
theorem ev_icmp_ne_n {x y : Int32} {off : Int} (tgt : Nat) (hd : decode M.2.1 pc = .ok (.if_icmp .ne off, 3)) (ht : (pc : Int) + off = (tgt : Int)) (c1 : x = y) (k : Ev M d (pc + 3) ls st σ r σ') : Ev M d pc ls (.int y :: .int x :: st) σ r σ' :=
  ev_pure (fun _ _ _ _ _ _ _ _ _ _ _ _ _ _ _ _ ar hF hl kk => lv_icmp_ne hF.hx hF.hb hd ht (fun h => absurd c1 h) (fun _ => kk ar hl)) k
theorem ev_icmp_lt {x y : Int32} {off : Int} {tgt : Nat} (hd : decode M.2.1 pc = .ok (.if_icmp .lt off, 3)) (ht : (pc : Int) + off = (tgt : Int)) (c1 : x < y) (k : Ev M d tgt ls st σ r σ') : Ev M d pc ls (.int y :: .int x :: st) σ r σ' :=
  ev_pure (fun _ _ _ _ _ _ _ _ _ _ _ _ _ _ _ _ ar hF hl kk => lv_icmp_lt hF.hx hF.hb hd ht (fun _ => kk ar hl) (fun h => absurd c1 h)) k
theorem ev_icmp_lt_n {x y : Int32} {off : Int} (tgt : Nat) (hd : decode M.2.1 pc = .ok (.if_icmp .lt off, 3)) (ht : (pc : Int) + off = (tgt : Int)) (c1 : ¬ x < y) (k : Ev M d (pc + 3) ls st σ r σ') : Ev M d pc ls (.int y :: .int x :: st) σ r σ' :=
  ev_pure (fun _ _ _ _ _ _ _ _ _ _ _ _ _ _ _ _ ar hF hl kk => lv_icmp_lt hF.hx hF.hb hd ht (fun h => absurd h c1) (fun _ => kk ar hl)) k
theorem ev_icmp_ge {x y : Int32} {off : Int} {tgt : Nat} (hd : decode M.2.1 pc = .ok (.if_icmp .ge off, 3)) (ht : (pc : Int) + off = (tgt : Int)) (c1 : y ≤ x) (k : Ev M d tgt ls st σ r σ') : Ev M d pc ls (.int y :: .int x :: st) σ r σ' :=
  ev_pure (fun _ _ _ _ _ _ _ _ _ _ _ _ _ _ _ _ ar hF hl kk => lv_icmp_ge hF.hx hF.hb hd ht (fun _ => kk ar hl) (fun h => absurd c1 h)) k
theorem ev_icmp_ge_n {x y : Int32} {off : Int} (tgt : Nat) (hd : decode M.2.1 pc = .ok (.if_icmp .ge off, 3)) (ht : (pc : Int) + off = (tgt : Int)) (c1 : ¬ y ≤ x) (k : Ev M d (pc + 3) ls st σ r σ') : Ev M d pc ls (.int y :: .int x :: st) σ r σ' :=
  ev_pure (fun _ _ _ _ _ _ _ _ _ _ _ _ _ _ _ _ ar hF hl kk => lv_icmp_ge hF.hx hF.hb hd ht (fun h => absurd h c1) (fun _ => kk ar hl)) k
theorem ev_icmp_gt {x y : Int32} {off : Int} {tgt : Nat} (hd : decode M.2.1 pc = .ok (.if_icmp .gt off, 3)) (ht : (pc : Int) + off = (tgt : Int)) (c1 : y < x) (k : Ev M d tgt ls st σ r σ') : Ev M d pc ls (.int y :: .int x :: st) σ r σ' :=
  ev_pure (fun _ _ _ _ _ _ _ _ _ _ _ _ _ _ _ _ ar hF hl kk => lv_icmp_gt hF.hx hF.hb hd ht (fun _ => kk ar hl) (fun h => absurd c1 h)) k
theorem ev_icmp_gt_n {x y : Int32} {off : Int} (tgt : Nat) (hd : decode M.2.1 pc = .ok (.if_icmp .gt off, 3)) (ht : (pc : Int) + off = (tgt : Int)) (c1 : ¬ y < x) (k : Ev M d (pc + 3) ls st σ r σ') : Ev M d pc ls (.int y :: .int x :: st) σ r σ' :=
  ev_pure (fun _ _ _ _ _ _ _ _ _ _ _ _ _ _ _ _ ar hF hl kk => lv_icmp_gt hF.hx hF.hb hd ht (fun h => absurd h c1) (fun _ => kk ar hl)) k
theorem ev_icmp_le {x y : Int32} {off : Int} {tgt : Nat} (hd : decode M.2.1 pc = .ok (.if_icmp .le off, 3)) (ht : (pc : Int) + off = (tgt : Int)) (c1 : x ≤ y) (k : Ev M d tgt ls st σ r σ') : Ev M d pc ls (.int y :: .int x :: st) σ r σ' :=
  ev_pure (fun _ _ _ _ _ _ _ _ _ _ _ _ _ _ _ _ ar hF hl kk => lv_icmp_le hF.hx hF.hb hd ht (fun _ => kk ar hl) (fun h => absurd c1 h)) k
theorem ev_icmp_le_n {x y : Int32} {off : Int} (tgt : Nat) (hd : decode M.2.1 pc = .ok (.if_icmp .le off, 3)) (ht : (pc : Int) + off = (tgt : Int)) (c1 : ¬ x ≤ y) (k : Ev M d (pc + 3) ls st σ r σ') : Ev M d pc ls (.int y :: .int x :: st) σ r σ' :=
  ev_pure (fun _ _ _ _ _ _ _ _ _ _ _ _ _ _ _ _ ar hF hl kk => lv_icmp_le hF.hx hF.hb hd ht (fun h => absurd h c1) (fun _ => kk ar hl)) k
theorem ev_goto {off : Int} {tgt : Nat} (hd : decode M.2.1 pc = .ok (.goto off, 3)) (ht : (pc : Int) + off = (tgt : Int)) (k : Ev M d tgt ls st σ r σ') : Ev M d pc ls st σ r σ' :=
  ev_pure (fun _ _ _ _ _ _ _ _ _ _ _ _ _ _ _ _ ar hF hl kk => lv_goto hF.hx hF.hb hd ht (kk ar hl)) k
theorem ev_ifnull {off : Int} {tgt : Nat} (hd : decode M.2.1 pc = .ok (.ifnull off, 3)) (ht : (pc : Int) + off = (tgt : Int)) (k : Ev M d tgt ls st σ r σ') : Ev M d pc ls (va_rf none :: st) σ r σ' :=
  ev_pure (fun _ _ _ _ _ _ _ _ _ _ _ _ _ _ _ _ ar hF hl kk => lv_ifnullN hF.hx hF.hb hd ht (kk ar hl)) k
theorem ev_ifnull_n {a : Nat} {off : Int} (hd : decode M.2.1 pc = .ok (.ifnull off, 3)) (k : Ev M d (pc + 3) ls st σ r σ') : Ev M d pc ls (va_rf (some a) :: st) σ r σ' :=
  ev_pure (fun _ _ _ _ _ _ _ _ _ _ _ _ _ _ _ _ ar hF hl kk => lv_ifnull hF.hx hF.hb hd (kk ar hl)) k
theorem ev_ifnonnull {a : Nat} {off : Int} {tgt : Nat} (hd : decode M.2.1 pc = .ok (.ifnonnull off, 3)) (ht : (pc : Int) + off = (tgt : Int)) (k : Ev M d tgt ls st σ r σ') : Ev M d pc ls (va_rf (some a) :: st) σ r σ' :=
  ev_pure (fun _ _ _ _ _ _ _ _ _ _ _ _ _ _ _ _ ar hF hl kk => lv_ifnonnull hF.hx hF.hb hd ht (kk ar hl)) k
theorem ev_ifnonnull_n {off : Int} (hd : decode M.2.1 pc = .ok (.ifnonnull off, 3)) (k : Ev M d (pc + 3) ls st σ r σ') : Ev M d pc ls (va_rf none :: st) σ r σ' :=
  ev_pure (fun _ _ _ _ _ _ _ _ _ _ _ _ _ _ _ _ ar hF hl kk => lv_ifnonnullN hF.hx hF.hb hd (kk ar hl)) k
theorem ev_tableIn {dflt lo hi : Int} {offs : Array Int} {len : Nat} {x : Int32} {off : Int} {tgt : Nat} (hd : decode M.2.1 pc = .ok (.tableswitch dflt lo hi offs, len)) (v : Int) (hv : x.toInt = v) (h1 : decide (¬ v < lo ∧ ¬ hi < v) = true) (ho : offs[(v - lo).toNat]? = some off) (ht : (pc : Int) + off = (tgt : Int)) (k : Ev M d tgt ls st σ r σ') : Ev M d pc ls (.int x :: st) σ r σ' :=
  ev_pure (fun _ _ _ _ _ _ _ _ _ _ _ _ _ _ _ _ ar hF hl kk => lv_tableIn hF.hx hF.hb hd (by rw [hv]; exact (of_decide_eq_true h1).1) (by rw [hv]; exact (of_decide_eq_true h1).2) (by rw [hv]; exact ho) ht (kk ar hl)) k
theorem ev_tableOut {dflt lo hi : Int} {offs : Array Int} {len : Nat} {x : Int32} {tgt : Nat} (hd : decode M.2.1 pc = .ok (.tableswitch dflt lo hi offs, len)) (h : x.toInt < lo ∨ hi < x.toInt) (ht : (pc : Int) + dflt = (tgt : Int)) (k : Ev M d tgt ls st σ r σ') : Ev M d pc ls (.int x :: st) σ r σ' :=
  ev_pure (fun _ _ _ _ _ _ _ _ _ _ _ _ _ _ _ _ ar hF hl kk => lv_tableOut hF.hx hF.hb hd h ht (kk ar hl)) k
theorem ev_lookup {dflt : Int} {ps : Array (Int × Int)} {len : Nat} {x : Int32} {off : Int} {tgt : Nat} (hd : decode M.2.1 pc = .ok (.lookupswitch dflt ps, len)) (hp : (ps.toList.zip (ps.toList.drop 1)).all (fun (a, next) => a.1 < next.1) = true) (ho : Op.lookupswitch.offset ps.toList dflt x.toInt = off) (ht : (pc : Int) + off = (tgt : Int)) (k : Ev M d tgt ls st σ r σ') : Ev M d pc ls (.int x :: st) σ r σ' :=
  ev_pure (fun _ _ _ _ _ _ _ _ _ _ _ _ _ _ _ _ ar hF hl kk => lv_lookup hF.hx hF.hb hd hp ho ht (kk ar hl)) k
theorem ne_toInt {x y : Int32} (h : ¬ x = y) : x.toInt ≠ y.toInt := fun e => h (Int32.toInt_inj.mp e)
end EVQ
