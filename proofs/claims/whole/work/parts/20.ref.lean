/-! the reference's reader: one sign at a time, over a row of what is open -/
def mC (N sp : Nat) (N' lam lam' : Nat) (t : Nat × Nat) : Nat → Nat → Prop := fun a k =>
  (a = 30 ∧ (k = 5 ∨ k = 6 ∨ k = 18 ∨ k = 19)) ∨ (a = t.1 ∧ k = t.2) ∨ ((a = 34 ∨ a = 35 ∨ a = 36) ∧ N ≤ k ∧ k < N') ∨ (a = 37 ∧ 5 + lam ≤ k ∧ k < 5 + lam') ∨ ((a = 38 ∨ a = 39) ∧ 15 + 3 * lam ≤ k ∧ k < 15 + 3 * lam') ∨ (40 ≤ a ∧ a ≤ 43 ∧ sp ≤ k)
def RM (ch : Nat → Nat) (s n : Nat) (σ : St) : Prop :=
  SS σ ∧ s ≤ 10 ∧ n ≤ 60 ∧ sI σ 32 s = I (n : Nat) ∧ (∀ i, i < n → sI σ 31 (60 * s + i) = I (ch (64 * s + i) : Nat)) ∧ (∀ i, ch i ≤ 126) ∧ (∀ i, 64 * s + n ≤ i → i < 64 * s + 64 → ch i = 0)
def MA (σ : St) (N lam sp nx lay : Nat) : Prop := sI σ 30 5 = I (N : Nat) ∧ sI σ 30 6 = I (lam : Nat) ∧ sI σ 30 18 = I (sp : Nat) ∧ sI σ 30 19 = I (nx : Nat) ∧ sI σ 30 20 = I (lay : Nat)
def WH (w : Nat → Nat) (sp : Nat) (σ : St) : Prop := ∀ j, j < sp → sI σ 40 j = I (w j : Nat) ∧ w j ≤ 6
def cmp (w : Nat → Nat) : Nat → Nat × Nat
  | 0 => (0, 6)
  | j + 1 => if w j = 3 then cmp w j else if w j = 0 then (j + 1, 6) else if w j = 1 then (j + 1, 1) else if w j = 2 then (j + 1, 2) else (j, 5)
theorem cmp_congr {w w' : Nat → Nat} : ∀ {sp : Nat}, (∀ j, j < sp → w j = w' j) → cmp w sp = cmp w' sp
  | 0, _ => rfl
  | j + 1, h => by
    unfold cmp
    rw [h j (Nat.lt_succ_self j), cmp_congr (fun i hi => h i (Nat.lt_succ_of_lt hi))]
theorem cmp_le (w : Nat → Nat) : ∀ sp, (cmp w sp).1 ≤ sp ∧ (cmp w sp).2 ≤ 6
  | 0 => ⟨Nat.le_refl _, Nat.le_refl _⟩
  | j + 1 => by
    have := cmp_le w j
    unfold cmp
    split
    · omega
    split
    · exact ⟨Nat.le_refl _, Nat.le_refl _⟩
    split
    · dsimp only; omega
    split
    · dsimp only; omega
    · dsimp only; omega
/-- what is open on top, and where the next goal is put -/
def tg (w x : Nat) : Nat × Nat := if w = 0 then (30, 10) else if w = 2 then (36, x) else if w = 4 then (39, x) else (35, x)
def TF (σ : St) (sp w x N lam : Nat) : Prop :=
  (w = 0 ∨ ((w = 1 ∨ w = 2 ∨ w = 3) ∧ sI σ 41 (sp - 1) = I (x : Nat) ∧ x < N) ∨ (w = 4 ∧ 2 ≤ sp ∧ ∃ o f : Nat, sI σ 42 (sp - 1) = I (o : Nat) ∧ sI σ 43 (sp - 2) = I (f : Nat) ∧ x + 1 = 3 * o + f ∧ 1 ≤ f ∧ f ≤ 3 ∧ o < 12 ∧ (o < 5 + lam ∨ 8 ≤ o)))
theorem RM.fr {ch : Nat → Nat} {s n : Nat} {σ σ' : St} {C : Nat → Nat → Prop} (h : RM ch s n σ) (hf : Fr C σ σ') (hC : ∀ k, ¬ C 31 k ∧ ¬ C 32 k) : RM ch s n σ' := by
  obtain ⟨h1, h2, h3, h4, h5, h6, h7⟩ := h
  refine ⟨hf.ss h1, h2, h3, by rw [hf.i 32 s (hC s).2]; exact h4, fun i hi => ?_, h6, h7⟩
  rw [hf.i 31 _ (hC _).1]
  exact h5 i hi
def pushS (σ : St) (sp : Nat) (a b c : Int32) : St := setI (setI (setI (setI (setI σ 40 sp a) 41 sp b) 42 sp c) 43 sp 0) 30 18 (I (sp + 1 : Nat))
theorem sIn {σ : St} {a k x y : Nat} {v : Int32} (h : x ≠ a ∨ y ≠ k) : sI (setI σ a k v) x y = sI σ x y := by rw [sI_I, if_neg (by omega)]
theorem sIe {σ : St} {a k : Nat} {v : Int32} : sI (setI σ a k v) a k = v := by rw [sI_I, if_pos ⟨rfl, rfl⟩]
theorem inN {i n : Nat} (h : i < n) (hn : n < 100000) : inR (I (i : Nat)) n = true := by
  rw [inR_I (by omega)]
  simp
  omega
theorem tNI {i : Nat} (h : i < 100000) : (I (i : Nat)).toNatClampNeg = i := by rw [I_nat (by omega) (by omega)]; omega
/-- an array's place is written -/
theorem pst {β : Type} {σ : St} {a f arr i : Nat} (n : Nat) {e v : Int32} {k : St → Option β} (hp : sP σ a f = some arr) (ho : isO σ 13 arr = true) (hl : alen σ arr = n) (he : e = I (i : Nat)) (hi : i < n) (hn : n < 100000) :
    (op (sP σ a f) fun p => if isO σ 13 p = true then (if inR e (alen σ p) = true then (lt (setI σ p e.toNatClampNeg v) fun s => k s) else none) else none) = k (setI σ arr i v) := by
  rw [hp, op_eq, if_pos ho, hl, he, if_pos (inN hi hn), tNI (by omega), lt_eq]
theorem I_p1 (n : Nat) : I (n : Nat) + 1 = I ((n + 1 : Nat) : Int) := by rw [I_lit, I_add]; rfl
theorem I_m1 {n : Nat} (h : 1 ≤ n) : I (n : Nat) - 1 = I ((n - 1 : Nat) : Int) := by rw [I_lit, I_sub, show ((n - 1 : Nat) : Int) = (n : Int) - 1 by omega]
theorem q_push {σ : St} (hs : SS σ) {sp : Nat} (h : sI σ 30 18 = I (sp : Nat)) (hsp : sp < 128) (a b c : Int32) : s_X11_push 30 a b c σ = some ((), pushS σ sp a b c) := by
  unfold s_X11_push
  rw [if_pos (hs.o 11 30 (by decide)), pst 128 (hs.p 30 14 40 (by decide)) (hs.o 13 40 (by decide)) (hs.len 40 128 (by decide)) h hsp (by omega)]
  have h1 : sI (setI σ 40 sp a) 30 18 = I (sp : Nat) := by rw [sIn (by omega)]; exact h
  have s1 := hs.i 40 sp a
  rw [pst 128 (s1.p 30 15 41 (by decide)) (s1.o 13 41 (by decide)) (s1.len 41 128 (by decide)) h1 hsp (by omega)]
  have h2 : sI (setI (setI σ 40 sp a) 41 sp b) 30 18 = I (sp : Nat) := by rw [sIn (by omega)]; exact h1
  have s2 := s1.i 41 sp b
  rw [pst 128 (s2.p 30 16 42 (by decide)) (s2.o 13 42 (by decide)) (s2.len 42 128 (by decide)) h2 hsp (by omega)]
  have h3 : sI (setI (setI (setI σ 40 sp a) 41 sp b) 42 sp c) 30 18 = I (sp : Nat) := by rw [sIn (by omega)]; exact h2
  have s3 := s2.i 42 sp c
  rw [pst 128 (s3.p 30 17 43 (by decide)) (s3.o 13 43 (by decide)) (s3.len 43 128 (by decide)) h3 hsp (by omega)]
  rw [lt_eq, sIn (by omega), h3, I_p1]
  rfl
/-- a goal begins -/
def begS (σ : St) (N : Nat) (kind one : Int32) (t : Nat × Nat) : St := setI (setI (setI (setI (setI σ 30 5 (I (N + 1 : Nat))) 34 N kind) 35 N one) 36 N (I (-6))) t.1 t.2 (I (N : Nat))
theorem q_begin0 {σ : St} (hs : SS σ) {N : Nat} (h : sI σ 30 5 = I (N : Nat)) (hl : sI σ 30 20 = I (0 : Nat)) (kind one : Int32) : s_X11_begin 30 kind one σ = some (I (N : Nat), setI σ 30 5 (I (N + 1 : Nat))) := by
  unfold s_X11_begin
  have e : sI (setI σ 30 5 (I (N : Nat) + 1)) 30 20 = 0 := by rw [sIn (by omega)]; exact hl
  rw [if_pos (hs.o 11 30 (by decide)), lt_eq, lt_eq, h, if_pos e, I_p1]
theorem q_begin1 {σ : St} (hs : SS σ) {N sp w x lam : Nat} (h : sI σ 30 5 = I (N : Nat)) (hN : N < 60) (hl : sI σ 30 20 = I (1 : Nat)) (hsp : sI σ 30 18 = I (sp : Nat)) (hsp1 : 1 ≤ sp) (hsp2 : sp ≤ 128) (hw : sI σ 40 (sp - 1) = I (w : Nat)) (ht : TF σ sp w x N lam) (kind one : Int32) :
    s_X11_begin 30 kind one σ = some (I (N : Nat), begS σ N kind one (tg w x)) := by
  unfold s_X11_begin
  have e : ¬ sI (setI σ 30 5 (I (N + 1 : Nat))) 30 20 = 0 := by rw [sIn (by omega), hl]; decide
  rw [if_pos (hs.o 11 30 (by decide)), lt_eq, lt_eq, h, I_p1, if_neg e]
  have s1 := hs.i 30 5 (I (N + 1 : Nat))
  rw [pst 64 (s1.p 30 7 34 (by decide)) (s1.o 13 34 (by decide)) (s1.len 34 64 (by decide)) rfl (show N < 64 by omega) (by omega)]
  have s2 := s1.i 34 N kind
  rw [pst 64 (s2.p 30 8 35 (by decide)) (s2.o 13 35 (by decide)) (s2.len 35 64 (by decide)) rfl (show N < 64 by omega) (by omega)]
  have s3 := s2.i 35 N one
  rw [s3.p 30 9 36 (by decide), op_eq, if_pos (s3.o 13 36 (by decide)), s3.len 36 64 (by decide), if_pos (inN (show N < 64 by omega) (by omega)), lt_eq, tNI (by omega), lt_eq]
  have s4 := s3.i 36 N (-6)
  generalize hσ : setI (setI (setI (setI σ 30 5 (I (N + 1 : Nat))) 34 N kind) 35 N one) 36 N (-6) = σ4 at *
  have r : ∀ a k : Nat, (a = 30 → k ≠ 5) → a ≠ 34 → a ≠ 35 → a ≠ 36 → sI σ4 a k = sI σ a k := fun a k h1 h2 h3 h4 => by
    rw [← hσ, sIn (by omega), sIn (by omega), sIn (by omega), sIn (by omega)]
  rw [r 30 18 (by omega) (by omega) (by omega) (by omega), hsp, I_m1 hsp1, s4.p 30 14 40 (by decide), op_eq, if_pos (s4.o 13 40 (by decide)), s4.len 40 128 (by decide), if_pos (inN (show sp - 1 < 128 by omega) (by omega)), lt_eq, tNI (by omega),
    r 40 (sp - 1) (by omega) (by omega) (by omega) (by omega), hw]
  have hb : begS σ N kind one (tg w x) = setI σ4 (tg w x).1 (tg w x).2 (I (N : Nat)) := by unfold begS; rw [← hσ]; rfl
  rw [hb]
  have h146 : (w = 1 ∨ w = 3) → s_X11_begin_146 30 (I (N : Nat)) (I ((sp - 1 : Nat) : Int)) σ4 = some (I (N : Nat), setI σ4 35 x (I (N : Nat))) := by
    intro hw
    have ⟨t1, t2⟩ : sI σ 41 (sp - 1) = I (x : Nat) ∧ x < 64 := by
      rcases ht with ht | ht | ht
      · omega
      · exact ⟨ht.2.1, by omega⟩
      · omega
    unfold s_X11_begin_146
    rw [if_pos (s4.o 11 30 (by decide)), s4.p 30 8 35 (by decide), op_eq, s4.p 30 15 41 (by decide), op_eq, if_pos (s4.o 13 41 (by decide)), s4.len 41 128 (by decide), if_pos (inN (show sp - 1 < 128 by omega) (by omega)), if_pos (s4.o 13 35 (by decide)),
      s4.len 35 64 (by decide), tNI (by omega), r 41 (sp - 1) (by omega) (by omega) (by omega) (by omega), t1, if_pos (inN t2 (by omega)), lt_eq, tNI (by omega)]
  have e0 : ∀ n : Nat, n < 10 → ((I (w : Nat) = (OfNat.ofNat n : Int32)) ↔ w = n) := fun n hn => by
    have hw9 : w ≤ 6 := by rcases ht with ht | ht | ht <;> omega
    rw [I_lit, show (OfNat.ofNat n : Int) = (n : Int) from rfl, I_eq (by omega) (by omega)]
    omega
  rcases ht with ht | ⟨ht, t1, t2⟩ | ⟨ht, t0, o, f, t1, t2, t3, t4, t5, t6, -⟩
  · rw [if_pos ((e0 0 (by omega)).mpr ht), lt_eq]
    subst ht
    rfl
  · rw [if_neg (fun q => by have := (e0 0 (by omega)).mp q; omega)]
    by_cases c1 : w = 1
    · rw [if_pos ((e0 1 (by omega)).mpr c1), h146 (by omega)]
      subst c1
      rfl
    rw [if_neg (fun q => c1 ((e0 1 (by omega)).mp q))]
    by_cases c2 : w = 2
    · rw [if_pos ((e0 2 (by omega)).mpr c2), s4.p 30 15 41 (by decide), op_eq, if_pos (s4.o 13 41 (by decide)), s4.len 41 128 (by decide), if_pos (inN (show sp - 1 < 128 by omega) (by omega)),
        r 41 (sp - 1) (by omega) (by omega) (by omega) (by omega), t1, s4.len 36 64 (by decide), if_pos (inN (show x < 64 by omega) (by omega)), lt_eq, tNI (by omega)]
      subst c2
      rfl
    rw [if_neg (fun q => c2 ((e0 2 (by omega)).mp q))]
    have c3 : w = 3 := by omega
    rw [if_pos ((e0 3 (by omega)).mpr c3), h146 (by omega)]
    subst c3
    rfl
  · rw [if_neg (fun q => by have := (e0 0 (by omega)).mp q; omega), if_neg (fun q => by have := (e0 1 (by omega)).mp q; omega), if_neg (fun q => by have := (e0 2 (by omega)).mp q; omega), if_neg (fun q => by have := (e0 3 (by omega)).mp q; omega), if_pos ((e0 4 (by omega)).mpr ht),
      s4.p 30 13 39 (by decide), op_eq, s4.p 30 16 42 (by decide), op_eq, if_pos (s4.o 13 42 (by decide)), s4.len 42 128 (by decide), if_pos (inN (show sp - 1 < 128 by omega) (by omega)), s4.p 30 17 43 (by decide), op_eq, if_pos (s4.o 13 43 (by decide)), s4.len 43 128 (by decide),
      I_m1 (show 1 ≤ sp - 1 by omega), if_pos (inN (show sp - 1 - 1 < 128 by omega) (by omega)), if_pos (s4.o 13 39 (by decide)), tNI (by omega), r 42 (sp - 1) (by omega) (by omega) (by omega) (by omega), show sp - 1 - 1 = sp - 2 by omega, r 43 (sp - 2) (by omega) (by omega) (by omega) (by omega), t1, t2,
      s4.len 39 36 (by decide)]
    have ex : (3 : Int32) * I (o : Nat) + I (f : Nat) - 1 = I (x : Nat) := by
      rw [I_lit, I_mul, I_add, I_lit, I_sub]
      congr 1
      show (3 : Int) * o + f - 1 = x
      omega
    rw [ex, if_pos (inN (by omega) (by omega)), lt_eq, tNI (by omega)]
    subst ht
    rfl
