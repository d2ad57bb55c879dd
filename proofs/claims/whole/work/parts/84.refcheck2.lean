theorem CRes.rebase {τ σ : St} {d B : Nat} {a : VR} (h : CRes σ σ d B a) (f : Fr ckC τ σ) (sb : Sb τ σ d) : CRes τ σ d B a := by
  obtain ⟨σ', n, h1, h2, h3, h4⟩ := h
  refine ⟨σ', n, h1, h2, f.trans h3, ?_⟩
  rcases h4 with ⟨g1, g2, g3, g4⟩ | g
  · exact Or.inl ⟨g1, g2, g3, sb.trans g4⟩
  · exact Or.inr g
theorem ckA_118 {σ : St} (cc s D x n o : Int32) : s_X11_checkAtom_118 30 cc s D x n 0 o σ = some (3, σ) := by
  unfold s_X11_checkAtom_118
  rw [if_pos rfl]
theorem ckA_99 {σ : St} (cc s D x n : Int32) : s_X11_checkAtom_99 30 cc s D x n 0 σ = some (3, σ) := by
  unfold s_X11_checkAtom_99
  by_cases c : (100 : Int32) ≤ x
  · rw [if_pos c, ckA_118]
  · rw [if_neg c, ckA_118]
theorem ckA_key {ch κ : Nat → Nat} {N : Nat} {t : List Nat} {σ : St} (hm : MK ch κ N t σ) (htk : Tok t) {u dp cc s : Nat} (hk : KS σ u dp) (hu : u < t.length) (hs2 : s < 256) (D : Int32) :
    (∃ o r, offD (t.getD u 0) = some o ∧ afU o s = some r ∧ s_X11_checkAtom 30 (I (cc : Nat)) (I (s : Nat)) D σ = s_X11_checkAtom_118 30 (I (cc : Nat)) (I (s : Nat)) D (I (t.getD u 0 : Nat)) (I ((if t.getD u 0 < 100 then o else o - 8 : Nat) : Int)) 1 (I (o : Nat)) σ) ∨
    ((∀ o r, offD (t.getD u 0) = some o → afU o s = some r → False) ∧ s_X11_checkAtom 30 (I (cc : Nat)) (I (s : Nat)) D σ = some (3, σ)) := by
  have hs := hm.1.1
  have hx5 := htk.2 _ (getD_mem hu)
  have hv := hm.2.2 u _ (getD_some hu)
  have hl := htk.1
  unfold s_X11_checkAtom
  rw [if_pos (hs.o 11 30 (by decide)), hk.1, hm.2.1, if_neg (by rw [I_eq (by omega) (by omega)]; omega), hs.p 30 3 33 (by decide), op_eq, if_pos (hs.o 13 33 (by decide)), hs.len 33 60 (by decide), if_pos (inN (by omega) (by omega)), tNI (by omega), hv, lt_eq]
  generalize t.getD u 0 = x at *
  unfold s_X11_checkAtom_47 s_X11_checkAtom_98
  by_cases c : 100 ≤ x
  · have e1 : (I (x : Nat) - 100) / 10 = I (((x - 100) / 10 : Nat) : Int) := by
      rw [show (100 : Int32) = I ((100 : Nat) : Int) from rfl, I_sub, show ((x : Nat) : Int) - (100 : Nat) = ((x - 100 : Nat) : Int) by omega, d10 (by omega)]
    rw [if_pos (by rw [I_lit, I_le (by omega) (by omega)]; omega), if_pos (by rw [I_lit, I_le (by omega) (by omega)]; omega), e1]
    by_cases c2 : 200 ≤ x
    · have eo : offD x = none := by unfold offD; rw [if_neg (by omega), if_neg (by omega)]
      rw [if_pos (by rw [I_lit, I_le (by omega) (by omega)]; omega), ckA_99, eo]
      exact Or.inr ⟨fun o r q => (by cases q), rfl⟩
    · rw [if_neg (by rw [I_lit, I_le (by omega) (by omega)]; omega)]
      by_cases c3 : (x - 100) / 10 < 4
      · have eo : offD x = some (8 + (x - 100) / 10) := by unfold offD; rw [if_neg (by omega), if_pos (by omega), if_pos c3]
        rw [if_neg (by rw [I_lit, I_le (by omega) (by omega)]; omega), eo]
        refine Or.inl ⟨8 + (x - 100) / 10, s, rfl, by unfold afU; rw [if_pos (by omega)], ?_⟩
        unfold s_X11_checkAtom_99
        have e8 : (8 : Int32) + I (((x - 100) / 10 : Nat) : Int) = I ((8 + (x - 100) / 10 : Nat) : Int) := by rw [I_lit, I_add]; rfl
        rw [if_pos (by rw [I_lit, I_le (by omega) (by omega)]; omega), e8, if_neg (show ¬ x < 100 by omega), show 8 + (x - 100) / 10 - 8 = (x - 100) / 10 by omega]
      · have eo : offD x = none := by unfold offD; rw [if_neg (by omega), if_pos (by omega), if_neg c3]
        rw [if_pos (by rw [I_lit, I_le (by omega) (by omega)]; omega), ckA_99, eo]
        exact Or.inr ⟨fun o r q => (by cases q), rfl⟩
  · rw [if_neg (by rw [I_lit, I_le (by omega) (by omega)]; omega), if_neg (by rw [I_lit, I_le (by omega) (by omega)]; omega), d10 (by omega)]
    by_cases c3 : x / 10 < 8
    · have eo : offD x = some (x / 10) := by unfold offD; rw [if_pos (by omega), if_pos c3]
      rw [if_neg (by rw [I_lit, I_le (by omega) (by omega)]; omega), q_has11 s _ (by omega) (by omega), bd_eq, eo]
      by_cases cb : s.testBit (x / 10) = true
      · rw [if_neg (by rw [bI0, cb]; decide)]
        refine Or.inl ⟨x / 10, s ^^^ 2 ^ (x / 10), rfl, by unfold afU; rw [if_neg (by omega), if_pos cb], ?_⟩
        unfold s_X11_checkAtom_99
        rw [if_neg (by rw [I_lit, I_le (by omega) (by omega)]; omega), if_pos (show x < 100 by omega)]
      · rw [if_pos (by rw [bI0]; exact Bool.eq_false_iff.2 cb), ckA_99]
        refine Or.inr ⟨fun o r q1 q2 => ?_, rfl⟩
        obtain rfl := Option.some.inj q1
        unfold afU at q2
        rw [if_neg (by omega), if_neg cb] at q2
        cases q2
    · have eo : offD x = none := by unfold offD; rw [if_pos (by omega), if_neg c3]
      rw [if_pos (by rw [I_lit, I_le (by omega) (by omega)]; omega), ckA_99, eo]
      exact Or.inr ⟨fun o r q => (by cases q), rfl⟩
theorem pc_s {ch κ : Nat → Nat} {N r : Nat} {t : List Nat} (htk : Tok t) (hr : r ≤ 11) (ih : PC ch κ N t r) : PC ch κ N t (r + 1) := by
  intro c s d u dp σ hc hs2 hu hd hm hi hst hd2 hk
  have hN := hm.1.2.1
  have hl := htk.1
  have hB : 2 ^ (r + 1 + 1) = 2 ^ (r + 1) + 2 ^ (r + 1) := by rw [Nat.pow_succ]; omega
  have hp1 : 2 ≤ 2 ^ (r + 1) := by
    have : 2 ^ 1 ≤ 2 ^ (r + 1) := Nat.pow_le_pow_right (by decide) (by omega)
    omega
  rw [show 13 - (r + 1) = 12 - r by omega] at hi
  have run := fun (σ1 : St) (w : Nat) (hw : w ≤ 5) (q : s_X11_checkOne 30 (I (c : Nat)) (I (s : Nat)) (I ((12 - r : Nat) : Int)) (setI (setI σ 30 30 (I (d : Nat))) 30 32 (I ((max dp (12 - r) : Nat) : Int))) = some (I (w : Nat), σ1)) => ck_step hm.1.1 hr (show d < 64 by omega) hd hw hst hi hk.2 q
  have f0 : Fr (fun a k => a = 30 ∧ (k = 30 ∨ k = 32)) σ (setI (setI σ 30 30 (I (d : Nat))) 30 32 (I ((max dp (12 - r) : Nat) : Int))) := ((Fr.refl σ).put _ ⟨rfl, Or.inl rfl⟩).put _ ⟨rfl, Or.inr rfl⟩
  have f0' : Fr ckC σ (setI (setI σ 30 30 (I (d : Nat))) 30 32 (I ((max dp (12 - r) : Nat) : Int))) := f0.mono (fun a k q => Or.inl ⟨q.1, q.2.elim Or.inl (fun x => Or.inr (Or.inr x))⟩)
  have sb0 : Sb σ (setI (setI σ 30 30 (I (d : Nat))) 30 32 (I ((max dp (12 - r) : Nat) : Int))) d := f0.sb (fun a i h1 h2 h3 => by omega)
  have hm0 := hm.fr f0'
  have hd0 : sI (setI (setI σ 30 30 (I (d : Nat))) 30 32 (I ((max dp (12 - r) : Nat) : Int))) 30 30 = I (d : Nat) := by rw [sIn (by omega), sIe]
  have hk0 : KS (setI (setI σ 30 30 (I (d : Nat))) 30 32 (I ((max dp (12 - r) : Nat) : Int))) u (max dp (12 - r)) := ⟨by rw [sIn (by omega), sIn (by omega)]; exact hk.1, sIe⟩
  show CRes σ σ d (2 ^ (r + 1 + 1)) (stV ch t (vis ch t r) (κ c) s u (max dp (12 - r)))
  have hd1 : max dp (12 - r) ≤ 12 := by omega
  generalize setI (setI σ 30 30 (I (d : Nat))) 30 32 (I ((max dp (12 - r) : Nat) : Int)) = τ at *
  generalize max dp (12 - r) = dp1 at *
  have hgt := hm0.1
  have hs := hgt.1
  have ho := hs.o 11 30 (by decide)
  obtain ⟨n1, n2, n3, n4, n5, n6, n7⟩ := hgt.2.2.2.1.1 c hc
  have e13 : I ((12 - r : Nat) : Int) + 1 = I ((13 - r : Nat) : Int) := by rw [I_p1]; exact congrArg I (by omega)
  unfold s_X11_checkOne at run
  rw [if_pos ho, hs.p 30 7 34 (by decide), op_eq, if_pos (hs.o 13 34 (by decide)), hs.len 34 64 (by decide), if_pos (inN (by omega) (by omega)), tNI (by omega), lt_eq, n1] at run
  have leaf0 : ∀ (σ1 : St) (u' : Nat), KS σ1 u' dp1 → Fr ckC τ σ1 → Sb τ σ1 d → sI σ1 30 30 = I (d : Nat) → (∀ m, s_X11_checked_32 (m + 1) 30 σ = if 0 = 0 then s_X11_checked_32 m 30 σ1 else some (I ((0 : Nat) : Int), σ1)) → CRes σ σ d (2 ^ (r + 1 + 1)) (0, u', dp1) := fun σ1 u' h1 h2 h3 h4 h5 => CRes.leaf0 h1 (f0'.trans h2) (sb0.trans h3) h4 (fun m => by rw [h5 m, if_pos rfl]) (by omega)
  have leafV : ∀ (σ1 : St) (w u' : Nat), w ≠ 0 → KS σ1 u' dp1 → Fr ckC τ σ1 → (∀ m, s_X11_checked_32 (m + 1) 30 σ = if w = 0 then s_X11_checked_32 m 30 σ1 else some (I (w : Nat), σ1)) → CRes σ σ d (2 ^ (r + 1 + 1)) (w, u', dp1) := fun σ1 w u' h0 h1 h2 h5 => CRes.leafV h1 (f0'.trans h2) h0 (fun m => by rw [h5 m, if_neg h0]) (by omega)
  have go : ∀ (σ1 : St) (B : Nat) (a : VR), CRes τ σ1 d B a → B + 1 ≤ 2 ^ (r + 1 + 1) → (∀ m, s_X11_checked_32 (m + 1) 30 σ = if 0 = 0 then s_X11_checked_32 m 30 σ1 else some (I ((0 : Nat) : Int), σ1)) → CRes σ σ d (2 ^ (r + 1 + 1)) a := fun σ1 B a h1 h2 h3 => h1.step f0' sb0 (fun m => by rw [h3 m, if_pos rfl]) h2
  rcases n6 with a | a | a | a | a | a
  · have a' := isAt_iff.1 a
    have hk' : kd ch (κ c) = ch (κ c) := kd_ne (by omega)
    have ka : isAt (kd ch (κ c)) = true := by rw [hk']; exact a
    rw [mk_at ka, if_pos (by decide), hs.p 30 8 35 (by decide), op_eq, if_pos (hs.o 13 35 (by decide)), hs.len 35 64 (by decide), if_pos (inN (by omega) (by omega)), n2 a] at run
    rw [stV_at ka, hk']
    by_cases c0 : t.length ≤ u
    · have e2 : s_X11_checkAtom 30 (I (ch (κ c) : Nat)) (I (s : Nat)) (I ((12 - r : Nat) : Int)) τ = some (2, τ) := by
        unfold s_X11_checkAtom
        rw [if_pos ho, hk0.1, hm0.2.1, if_pos (congrArg I (by omega))]
      rw [e2, bd_eq] at run
      rw [if_pos c0]
      exact leafV τ 2 u (by decide) hk0 (Fr.refl τ) (run τ 2 (by omega) rfl)
    · rw [if_neg c0]
      have huv : u < t.length := by omega
      have hx5 := htk.2 _ (getD_mem huv)
      have key := ckA_key hm0 htk (cc := ch (κ c)) hk0 huv hs2 (I ((12 - r : Nat) : Int))
      generalize t.getD u 0 = x at *
      unfold vAt
      rcases key with ⟨o, r', eo, ea, eq1⟩ | ⟨hno, eq1⟩
      · have ho12 := offD_lt eo
        have hr2 : r' < 256 := by
          unfold afU at ea
          by_cases c8 : 8 ≤ o
          · rw [if_pos c8] at ea; obtain rfl := Option.some.inj ea; exact hs2
          · rw [if_neg c8] at ea
            by_cases cb : s.testBit o = true
            · rw [if_pos cb] at ea; obtain rfl := Option.some.inj ea; exact xor_lt hs2 (pow8 (by omega))
            · rw [if_neg cb] at ea; cases ea
        obtain ⟨nf, g1, g2, g3⟩ := hgt.cnt ho12
        rw [eo]
        show CRes σ σ d (2 ^ (r + 1 + 1)) (if x % 10 < 3 then vAtF ch (fun p r' => vis ch t r p r' (u + 1) dp1) (ch (κ c)) s u dp1 o (x % 10) else (3, u, dp1))
        rw [eq1] at run
        unfold s_X11_checkAtom_118 at run
        have e39 : (3 : Int32) * I (o : Nat) + I ((x % 10 : Nat) : Int) = I ((3 * o + x % 10 : Nat) : Int) := by rw [I_lit, I_mul, I_add]; rfl
        rw [if_neg (by decide), if_pos ho, hs.p 30 11 37 (by decide), op_eq, if_pos (hs.o 13 37 (by decide)), hs.len 37 12 (by decide), if_pos (inN ho12 (by omega)), tNI (by omega), g1, d10 (by omega), r10] at run
        by_cases c3 : x % 10 < nf
        · have c33 : x % 10 < 3 := by omega
          have hsome := (g3 _ c33).2 c3
          rw [if_pos c33]
          unfold vAtF
          rw [ea]
          show CRes σ σ d (2 ^ (r + 1 + 1)) (match fp ch o (x % 10) with
            | none => (3, u, dp1)
            | some q => if ch q = ch (κ c) then (if ch (q + 1) = 60 then vis ch t r (q + 2) r' (u + 1) dp1 else if r' = 0 then (0, u + 1, dp1) else (4, u + 1, dp1)) else (3, u, dp1))
          have hF := hgt.2.2.2.1.2 o (x % 10) ho12 c33
          cases ef : fp ch o (x % 10) with
          | none => rw [ef] at hsome; cases hsome
          | some q =>
            rw [ef] at hF
            obtain ⟨_, f1, f2, f3⟩ := hF
            have hq := hgt.2.2.2.2 q
            show CRes σ σ d (2 ^ (r + 1 + 1)) (if ch q = ch (κ c) then (if ch (q + 1) = 60 then vis ch t r (q + 2) r' (u + 1) dp1 else if r' = 0 then (0, u + 1, dp1) else (4, u + 1, dp1)) else (3, u, dp1))
            rw [if_neg (by rw [I_le (by omega) (by omega)]; omega), hs.p 30 12 38 (by decide), op_eq, if_pos (hs.o 13 38 (by decide)), hs.len 38 36 (by decide), e39, if_pos (inN (by omega) (by omega)), tNI (by omega), f1] at run
            by_cases c4 : ch q = ch (κ c)
            · rw [if_pos (by rw [c4]), hk0.1, I_p1, lt_eq] at run
              rw [if_pos c4]
              have ft : Fr (fun a k => a = 30 ∧ k = 31) τ (setI τ 30 31 (I ((u + 1 : Nat) : Int))) := (Fr.refl τ).put _ ⟨rfl, rfl⟩
              have ft' : Fr ckC τ (setI τ 30 31 (I ((u + 1 : Nat) : Int))) := ft.mono (fun a k q => Or.inl ⟨q.1, Or.inr (Or.inl q.2)⟩)
              have sbt : Sb τ (setI τ 30 31 (I ((u + 1 : Nat) : Int))) d := ft.sb (fun a i h1 h2 h3 => by omega)
              have hmt := hm0.fr ft'
              have hkt : KS (setI τ 30 31 (I ((u + 1 : Nat) : Int))) (u + 1) dp1 := ⟨sIe, by rw [sIn (by omega)]; exact hk0.2⟩
              have hdt : sI (setI τ 30 31 (I ((u + 1 : Nat) : Int))) 30 30 = I (d : Nat) := by rw [sIn (by omega)]; exact hd0
              have f39 : sI (setI τ 30 31 (I ((u + 1 : Nat) : Int))) 39 (3 * o + x % 10) = sI τ 39 (3 * o + x % 10) := sIn (by omega)
              generalize setI τ 30 31 (I ((u + 1 : Nat) : Int)) = τ2 at *
              have hst2 := hmt.1.1
              have e190 : ∀ rr : Int32, rr = I (r' : Nat) → s_X11_checkAtom_190 30 (I ((12 - r : Nat) : Int)) (I (x : Nat)) (I (o : Nat)) rr τ2 = (if sI τ 39 (3 * o + x % 10) < 0 then (if I (r' : Nat) = 0 then (some (0, τ2)) else (some (4, τ2))) else (bd (s_X11_await 30 (sI τ 39 (3 * o + x % 10)) (I (r' : Nat)) (I ((13 - r : Nat) : Int)) τ2) fun r12 σ10 => some (0, σ10))) := by
                intro rr hrr
                unfold s_X11_checkAtom_190
                rw [if_pos (hst2.o 11 30 (by decide)), hst2.p 30 13 39 (by decide), op_eq, if_pos (hst2.o 13 39 (by decide)), hst2.len 39 36 (by decide), d10 (by omega), r10, e39, if_pos (inN (by omega) (by omega)), tNI (by omega), lt_eq, f39, hrr, e13]
              have eif : (if (100 : Int32) ≤ I (x : Nat) then (s_X11_checkAtom_190 30 (I ((12 - r : Nat) : Int)) (I (x : Nat)) (I (o : Nat)) (I (s : Nat)) τ2) else (s_X11_checkAtom_190 30 (I ((12 - r : Nat) : Int)) (I (x : Nat)) (I (o : Nat)) (I (s : Nat) &&& ((1 <<< (I ((if x < 100 then o else o - 8 : Nat) : Int) &&& 31)) ^^^ ((-1)))) τ2)) = (if sI τ 39 (3 * o + x % 10) < 0 then (if I (r' : Nat) = 0 then (some (0, τ2)) else (some (4, τ2))) else (bd (s_X11_await 30 (sI τ 39 (3 * o + x % 10)) (I (r' : Nat)) (I ((13 - r : Nat) : Int)) τ2) fun r12 σ10 => some (0, σ10))) := by
                by_cases c100 : 100 ≤ x
                · rw [if_pos (by rw [I_lit, I_le (by omega) (by omega)]; omega)]
                  apply e190
                  unfold offD at eo
                  rw [if_neg (by omega)] at eo
                  have h8 : 8 ≤ o := by
                    split at eo
                    · split at eo
                      · have := Option.some.inj eo; omega
                      · cases eo
                    · cases eo
                  unfold afU at ea
                  rw [if_pos h8] at ea
                  rw [Option.some.inj ea]
                · rw [if_neg (by rw [I_lit, I_le (by omega) (by omega)]; omega)]
                  apply e190
                  unfold offD at eo
                  rw [if_pos (by omega)] at eo
                  have h8 : o < 8 := by
                    split at eo
                    · have := Option.some.inj eo; omega
                    · cases eo
                  unfold afU at ea
                  rw [if_neg (by omega)] at ea
                  by_cases cb : s.testBit o = true
                  · rw [if_pos cb] at ea
                    rw [if_pos (show x < 100 by omega), I_shl1 _ (by omega), I_dif (by omega) (bit_sub cb), Option.some.inj ea]
                  · rw [if_neg cb] at ea; cases ea
              rw [eif] at run
              by_cases h6 : ch (q + 1) = 60
              · rw [if_pos h6] at f3
                rw [if_pos h6]
                obtain ⟨c1, b1, b2, b3⟩ := f3
                obtain ⟨σ1, w1, w2, w3, w4, w5⟩ := pc_one ih b1 hr2 (by omega) hd1 hmt hdt (by omega) hkt
                rw [b2, if_neg (by rw [I_lit, I_lt (by omega) (by omega)]; omega), w1, bd_eq, bd_eq] at run
                rw [b3] at w5
                have w6 : CRes τ σ1 d (2 ^ (r + 1)) (vis ch t r (q + 2) r' (u + 1) dp1) := by
                  obtain ⟨σ', n, h1, h2, h3, h4⟩ := w5
                  refine ⟨σ', n, h1, h2, ft'.trans h3, ?_⟩
                  rcases h4 with ⟨g1, g2, g3, g4⟩ | g
                  · exact Or.inl ⟨g1, g2, g3, sbt.trans g4⟩
                  · exact Or.inr g
                exact go σ1 _ _ w6 (by omega) (run σ1 0 (by omega) rfl)
              · rw [if_neg h6] at f3
                rw [if_neg h6]
                rw [f3, if_pos (by decide)] at run
                by_cases c7 : r' = 0
                · rw [if_pos ((I_z (by omega)).2 c7), bd_eq] at run
                  rw [if_pos c7]
                  exact leaf0 τ2 (u + 1) hkt ft' sbt hdt (run τ2 0 (by omega) rfl)
                · rw [if_neg (fun q => c7 ((I_z (by omega)).1 q)), bd_eq] at run
                  rw [if_neg c7]
                  exact leafV τ2 4 (u + 1) (by decide) hkt ft' (run τ2 4 (by omega) rfl)
            · rw [if_neg (by rw [I_eq (by omega) (by omega)]; omega), bd_eq] at run
              rw [if_neg c4]
              exact leafV τ 3 u (by decide) hk0 (Fr.refl τ) (run τ 3 (by omega) rfl)
        · rw [if_pos (by rw [I_le (by omega) (by omega)]; omega), bd_eq] at run
          have e3 : (if x % 10 < 3 then vAtF ch (fun p r' => vis ch t r p r' (u + 1) dp1) (ch (κ c)) s u dp1 o (x % 10) else (3, u, dp1)) = (3, u, dp1) := by
            split
            · rename_i c33
              unfold vAtF
              rw [ea]
              show (match fp ch o (x % 10) with
                | none => (3, u, dp1)
                | some q => if ch q = ch (κ c) then (if ch (q + 1) = 60 then vis ch t r (q + 2) r' (u + 1) dp1 else if r' = 0 then (0, u + 1, dp1) else (4, u + 1, dp1)) else (3, u, dp1)) = (3, u, dp1)
              cases ef : fp ch o (x % 10) with
              | none => rfl
              | some q => exact absurd ((g3 _ c33).1 (by rw [ef]; rfl)) c3
            · rfl
          rw [e3]
          exact leafV τ 3 u (by decide) hk0 (Fr.refl τ) (run τ 3 (by omega) rfl)
      · rw [eq1, bd_eq] at run
        have e3 : (match offD x with
          | none => (3, u, dp1)
          | some o => if x % 10 < 3 then vAtF ch (fun p r' => vis ch t r p r' (u + 1) dp1) (ch (κ c)) s u dp1 o (x % 10) else (3, u, dp1)) = (3, u, dp1) := by
          cases eo : offD x with
          | none => rfl
          | some o =>
            show (if x % 10 < 3 then vAtF ch (fun p r' => vis ch t r p r' (u + 1) dp1) (ch (κ c)) s u dp1 o (x % 10) else (3, u, dp1)) = (3, u, dp1)
            split
            · unfold vAtF
              cases ea : afU o s with
              | none => rfl
              | some r' => exact (hno o r' eo ea).elim
            · rfl
        refine Eq.mpr (congrArg (CRes σ σ d (2 ^ (r + 1 + 1))) e3) ?_
        exact leafV τ 3 u (by decide) hk0 (Fr.refl τ) (run τ 3 (by omega) rfl)
  · have hk' : kd ch (κ c) = 49 := by rw [kd_ne (by omega)]; exact a
    rw [hk', if_neg (by decide), if_pos (by decide)] at run
    rw [stV_49 hk']
    by_cases c0 : s = 0
    · rw [if_pos ((I_z (by omega)).2 c0)] at run
      rw [if_pos c0]
      exact leaf0 τ u hk0 (Fr.refl τ) (fun _ _ _ _ _ => rfl) hd0 (run τ 0 (by omega) rfl)
    · rw [if_neg (fun q => c0 ((I_z (by omega)).1 q))] at run
      rw [if_neg c0]
      exact leafV τ 4 u (by decide) hk0 (Fr.refl τ) (run τ 4 (by omega) rfl)
  · have hk' : kd ch (κ c) = 84 := by rw [kd_ne (by omega)]; exact a
    rw [hk', if_neg (by decide), if_neg (by decide), if_pos (by decide)] at run
    rw [stV_84 hk']
    exact leaf0 τ u hk0 (Fr.refl τ) (fun _ _ _ _ _ => rfl) hd0 (run τ 0 (by omega) rfl)
  · have hk' : kd ch (κ c) = 33 := by rw [kd_ne (by omega)]; exact a
    obtain ⟨c1, p1, p2, p3⟩ := n3 (Or.inl a)
    obtain ⟨σ1, w1, w2, w3, w4, w5⟩ := pc_one ih p1 hs2 hu hd1 hm0 hd0 (by omega) hk0
    rw [hk', if_neg (by decide), if_neg (by decide), if_neg (by decide), if_pos (by decide), hs.p 30 8 35 (by decide), op_eq, if_pos (hs.o 13 35 (by decide)), hs.len 35 64 (by decide), if_pos (inN (by omega) (by omega)), p2, e13, w1, bd_eq] at run
    rw [stV_33 hk']
    by_cases c0 : s = 0
    · rw [if_pos ((I_z (by omega)).2 c0)] at run
      rw [if_pos c0, ← p3]
      exact go σ1 _ _ w5 (by omega) (run σ1 0 (by omega) rfl)
    · rw [if_neg (fun q => c0 ((I_z (by omega)).1 q))] at run
      rw [if_neg c0]
      exact leafV σ1 4 u (by decide) w3 w4 (run σ1 4 (by omega) rfl)
  · obtain ⟨c1, p1, p2, p3⟩ := n3 (Or.inr (Or.inl a))
    obtain ⟨c2, p4, p5, p6⟩ := n4 a
    rcases isOp_iff.1 (n7 a) with hk' | hk' | hk'
    · rw [hk', if_neg (by decide), if_neg (by decide), if_neg (by decide), if_neg (by decide), if_pos (by decide)] at run
      rw [stV_42 hk']
      unfold s_X11_checkParts at run
      rw [if_pos ho, hk0.1, hm0.2.1] at run
      by_cases c0 : t.length ≤ u
      · rw [if_pos (congrArg I (by omega)), bd_eq] at run
        rw [if_pos c0]
        exact leafV τ 2 u (by decide) hk0 (Fr.refl τ) (run τ 2 (by omega) rfl)
      · have huv : u < t.length := by omega
        have hx5 := htk.2 _ (getD_mem huv)
        have hv := hm0.2.2 u _ (getD_some huv)
        rw [if_neg (by rw [I_eq (by omega) (by omega)]; omega), hs.p 30 3 33 (by decide), op_eq, if_pos (hs.o 13 33 (by decide)), hs.len 33 60 (by decide), if_pos (inN (by omega) (by omega)), tNI (by omega), hv, lt_eq] at run
        rw [if_neg c0]
        generalize t.getD u 0 = x at *
        have e200 : I (x : Nat) - 200 = I ((x : Int) - 200) := by rw [I_lit, I_sub]
        rw [e200] at run
        by_cases c2' : 200 ≤ x
        · have e3 : I ((x : Int) - 200) = I ((x - 200 : Nat) : Int) := congrArg I (by omega)
          rw [if_neg (by rw [I_lit, I_lt (by omega) (by omega)]; omega), e3] at run
          by_cases c3 : (x - 200) &&& s = x - 200
          · have hps : x - 200 < 256 := by have := sub_le c3; omega
            have ft : Fr (fun a k => a = 30 ∧ k = 31) τ (setI τ 30 31 (I ((u + 1 : Nat) : Int))) := (Fr.refl τ).put _ ⟨rfl, rfl⟩
            have ft' : Fr ckC τ (setI τ 30 31 (I ((u + 1 : Nat) : Int))) := ft.mono (fun a k q => Or.inl ⟨q.1, Or.inr (Or.inl q.2)⟩)
            have sbt : Sb τ (setI τ 30 31 (I ((u + 1 : Nat) : Int))) d := ft.sb (fun a i h1 h2 h3 => by omega)
            have hmt := hm0.fr ft'
            have hkt : KS (setI τ 30 31 (I ((u + 1 : Nat) : Int))) (u + 1) dp1 := ⟨sIe, by rw [sIn (by omega)]; exact hk0.2⟩
            have hdt : sI (setI τ 30 31 (I ((u + 1 : Nat) : Int))) 30 30 = I (d : Nat) := by rw [sIn (by omega)]; exact hd0
            rw [if_pos ((I_dif0 (by omega)).2 c3), I_p1, lt_eq] at run
            rw [if_pos ⟨c2', c3⟩]
            have f36 : sI (setI τ 30 31 (I ((u + 1 : Nat) : Int))) 36 c = sI τ 36 c := sIn (by omega)
            generalize setI τ 30 31 (I ((u + 1 : Nat) : Int)) = τ2 at *
            obtain ⟨σ1, w1, ws, wg, σ2, w2, w3⟩ := pc_two ih (c1 := c1) (s1 := x - 200) (c2 := c2) (s2 := s ^^^ (x - 200)) p1 hps p4 (xor_lt hs2 hps) (by omega) hd1 hmt hdt (by omega) hkt
            have f35 : sI σ1 35 c = I (c1 : Nat) := by
              have hσ1 : σ1 = awS τ2 d (I (c2 : Nat)) (I ((s ^^^ (x - 200) : Nat) : Int)) (I ((13 - r : Nat) : Int)) := by
                have := q_await hmt.1.1 hdt (show d < 64 by omega) (I (c2 : Nat)) (I ((s ^^^ (x - 200) : Nat) : Int)) (I ((13 - r : Nat) : Int))
                rw [this] at w1
                exact (congrArg Prod.snd (Option.some.inj w1)).symm
              rw [hσ1, (awS_fr _ _ _).i 35 c (by omega), ft'.i 35 c (by unfold ckC; omega)]
              exact p2
            rw [hmt.1.1.p 30 9 36 (by decide), op_eq, if_pos (hmt.1.1.o 13 36 (by decide)), hmt.1.1.len 36 64 (by decide), if_pos (inN (by omega) (by omega)), tNI (i := c) (by omega), f36, p5, I_dif (by omega) c3, e13, w1, bd_eq, if_pos (ws.o 11 30 (by decide)), ws.p 30 8 35 (by decide), op_eq, if_pos (ws.o 13 35 (by decide)), ws.len 35 64 (by decide), if_pos (inN (by omega) (by omega)), f35, w2, bd_eq, bd_eq] at run
            rw [p3, p6] at w3
            have w6 : CRes τ σ2 d (2 ^ (r + 1) + 2 ^ (r + 1) - 1) (sq (vis ch t r (ch1 ch (κ c)) (x - 200) (u + 1) dp1) (fun u' dp' => vis ch t r (ch2 ch (κ c)) (s ^^^ (x - 200)) u' dp')) := by
              obtain ⟨σ', n, h1, h2, h3, h4⟩ := w3
              refine ⟨σ', n, h1, h2, ft'.trans h3, ?_⟩
              rcases h4 with ⟨g1, g2, g3, g4⟩ | g
              · exact Or.inl ⟨g1, g2, g3, sbt.trans g4⟩
              · exact Or.inr g
            exact go σ2 _ _ w6 (by omega) (run σ2 0 (by omega) rfl)
          · rw [if_neg (fun q => c3 ((I_dif0 (by omega)).1 q)), bd_eq] at run
            rw [if_neg (fun q => c3 q.2)]
            exact leafV τ 3 u (by decide) hk0 (Fr.refl τ) (run τ 3 (by omega) rfl)
        · rw [if_pos (by rw [I_lit, I_lt (by omega) (by omega)]; omega), bd_eq] at run
          rw [if_neg (fun q => c2' q.1)]
          exact leafV τ 3 u (by decide) hk0 (Fr.refl τ) (run τ 3 (by omega) rfl)
    · obtain ⟨σ1, w1, ws, wg, σ2, w2, w3⟩ := pc_two ih (c1 := c1) (s1 := s) (c2 := c2) (s2 := s) p1 hs2 p4 hs2 hu hd1 hm0 hd0 (by omega) hk0
      have f35 : sI σ1 35 c = I (c1 : Nat) := by
        have hσ1 : σ1 = awS τ d (I (c2 : Nat)) (I (s : Nat)) (I ((13 - r : Nat) : Int)) := by
          have := q_await hs hd0 (show d < 64 by omega) (I (c2 : Nat)) (I (s : Nat)) (I ((13 - r : Nat) : Int))
          rw [this] at w1
          exact (congrArg Prod.snd (Option.some.inj w1)).symm
        rw [hσ1, (awS_fr _ _ _).i 35 c (by omega)]
        exact p2
      rw [hk', if_neg (by decide), if_neg (by decide), if_neg (by decide), if_neg (by decide), if_neg (by decide), if_pos (by decide), hs.p 30 9 36 (by decide), op_eq, if_pos (hs.o 13 36 (by decide)), hs.len 36 64 (by decide), if_pos (inN (by omega) (by omega)), p5, e13, w1, bd_eq, if_pos (ws.o 11 30 (by decide)), ws.p 30 8 35 (by decide), op_eq, if_pos (ws.o 13 35 (by decide)), ws.len 35 64 (by decide), if_pos (inN (by omega) (by omega)), f35, w2, bd_eq] at run
      rw [stV_38 hk']
      rw [p3, p6] at w3
      exact go σ2 _ _ w3 (by omega) (run σ2 0 (by omega) rfl)
    · rw [hk', if_neg (by decide), if_neg (by decide), if_neg (by decide), if_neg (by decide), if_neg (by decide), if_neg (by decide), if_pos (by decide)] at run
      rw [stV_43 hk']
      unfold s_X11_checkPlus at run
      rw [if_pos ho, hk0.1, hm0.2.1] at run
      by_cases c0 : t.length ≤ u
      · rw [if_pos (congrArg I (by omega)), bd_eq] at run
        rw [if_pos c0]
        exact leafV τ 2 u (by decide) hk0 (Fr.refl τ) (run τ 2 (by omega) rfl)
      · have huv : u < t.length := by omega
        have hx5 := htk.2 _ (getD_mem huv)
        have hv := hm0.2.2 u _ (getD_some huv)
        rw [if_neg (by rw [I_eq (by omega) (by omega)]; omega), hs.p 30 3 33 (by decide), op_eq, if_pos (hs.o 13 33 (by decide)), hs.len 33 60 (by decide), if_pos (inN (by omega) (by omega)), tNI (by omega), hv, q_inb (z := ((t.getD u 0 : Nat) : Int)) (a := 300) (b := 301) (by omega) (by omega) (by omega) τ |> (fun q => (show s_X11_in (I (t.getD u 0 : Nat)) 300 301 τ = some (bI (decide ((300 : Int) ≤ (t.getD u 0 : Nat) ∧ ((t.getD u 0 : Nat) : Int) ≤ 301)), τ) from q)), bd_eq] at run
        rw [if_neg c0]
        generalize t.getD u 0 = x at *
        have push : ∀ (c3 : Nat), c3 < N → ∃ σ2, s_X11_checkPlus_67 30 (I (s : Nat)) (I ((12 - r : Nat) : Int)) 30 (I (c3 : Nat)) τ = some (0, σ2) ∧ CRes τ σ2 d (2 ^ (r + 1)) (vis ch t r (κ c3) s (u + 1) dp1) := by
          intro c3 hc3
          have f1 := awS_fr (σ := τ) (d := d) (I (c3 : Nat)) (I (s : Nat)) (I ((13 - r : Nat) : Int))
          obtain ⟨i1, i2⟩ := awS_it (σ := τ) (d := d) c3 s (13 - r)
          have hsa := f1.ss hs
          have hka := hk0.fr f1 (by omega) (by omega)
          have ft : Fr (fun a k => a = 30 ∧ k = 31) (awS τ d (I (c3 : Nat)) (I (s : Nat)) (I ((13 - r : Nat) : Int))) (setI (awS τ d (I (c3 : Nat)) (I (s : Nat)) (I ((13 - r : Nat) : Int))) 30 31 (I ((u + 1 : Nat) : Int))) := (Fr.refl _).put _ ⟨rfl, rfl⟩
          have fa : Fr ckC τ (setI (awS τ d (I (c3 : Nat)) (I (s : Nat)) (I ((13 - r : Nat) : Int))) 30 31 (I ((u + 1 : Nat) : Int))) := (f1.mono (fun a k q => by unfold ckC; omega)).trans (ft.mono (fun a k q => Or.inl ⟨q.1, Or.inr (Or.inl q.2)⟩))
          refine ⟨setI (awS τ d (I (c3 : Nat)) (I (s : Nat)) (I ((13 - r : Nat) : Int))) 30 31 (I ((u + 1 : Nat) : Int)), ?_, ?_⟩
          · unfold s_X11_checkPlus_67
            rw [if_pos ho, e13, q_await hs hd0 (by omega) _ _ _, bd_eq, if_pos (hsa.o 11 30 (by decide)), hka.1, I_p1, lt_eq]
          · exact (ih c3 s d (u + 1) dp1 _ hc3 hs2 (by omega) hd1 (hm0.fr fa) (i1.fr ft (fun a h1 h2 => by omega)) (by rw [sIn (by omega)]; exact i2) (by omega) ⟨sIe, by rw [sIn (by omega)]; exact hka.2⟩).rebase fa ((f1.sb (fun a i h1 h2 h3 => by omega)).trans (ft.sb (fun a i h1 h2 h3 => by omega)))
        by_cases c300 : x = 300
        · obtain ⟨σ2, w1, w2⟩ := push c1 p1
          rw [if_neg (by rw [bI0, decide_eq_true (by omega)]; decide), if_pos ho, hs.p 30 3 33 (by decide), op_eq, if_pos (hs.o 13 33 (by decide)), hk0.1, hs.len 33 60 (by decide), if_pos (inN (by omega) (by omega)), tNI (i := u) (by omega), hv, if_pos (by rw [c300]; decide), hs.p 30 8 35 (by decide), op_eq, if_pos (hs.o 13 35 (by decide)), hs.len 35 64 (by decide), if_pos (inN (by omega) (by omega)), tNI (i := c) (by omega), p2, w1, bd_eq] at run
          rw [if_pos c300, ← p3]
          exact go σ2 _ _ w2 (by omega) (run σ2 0 (by omega) rfl)
        · rw [if_neg c300]
          by_cases c301 : x = 301
          · obtain ⟨σ2, w1, w2⟩ := push c2 p4
            rw [if_neg (by rw [bI0, decide_eq_true (by omega)]; decide), if_pos ho, hs.p 30 3 33 (by decide), op_eq, if_pos (hs.o 13 33 (by decide)), hk0.1, hs.len 33 60 (by decide), if_pos (inN (by omega) (by omega)), tNI (i := u) (by omega), hv, if_neg (by rw [c301]; decide), hs.p 30 9 36 (by decide), op_eq, if_pos (hs.o 13 36 (by decide)), hs.len 36 64 (by decide), if_pos (inN (by omega) (by omega)), tNI (i := c) (by omega), p5, w1, bd_eq] at run
            rw [if_pos c301, ← p6]
            exact go σ2 _ _ w2 (by omega) (run σ2 0 (by omega) rfl)
          · rw [if_pos (by rw [bI0]; exact decide_eq_false (by omega)), bd_eq] at run
            rw [if_neg c301]
            exact leafV τ 3 u (by decide) hk0 (Fr.refl τ) (run τ 3 (by omega) rfl)
  · have hk' : kd ch (κ c) = 91 := by rw [kd_ne (by omega)]; exact a
    obtain ⟨c1, p1, p2, p3⟩ := n3 (Or.inr (Or.inr a))
    obtain ⟨p4, p5⟩ := n5 a
    obtain ⟨σ1, w1, w2, w3, w4, w5⟩ := pc_one ih p1 (or_lt hs2 (pow8 p5)) hu hd1 hm0 hd0 (by omega) hk0
    have f36 : sI σ1 36 c = I (ln ch (κ c) : Nat) := by rw [w4.i 36 c (by unfold ckC; omega)]; exact p4
    rw [hk', if_neg (by decide), if_neg (by decide), if_neg (by decide), if_neg (by decide), if_neg (by decide), if_neg (by decide), if_neg (by decide), hs.p 30 8 35 (by decide), op_eq, if_pos (hs.o 13 35 (by decide)), hs.len 35 64 (by decide), if_pos (inN (by omega) (by omega)), hs.p 30 9 36 (by decide), op_eq, if_pos (hs.o 13 36 (by decide)), hs.len 36 64 (by decide), if_pos (inN (by omega) (by omega)), p2, p4, I_shl1 _ (by omega), I_or, e13, w1, bd_eq, if_pos (w2.o 11 30 (by decide)), w2.p 30 9 36 (by decide), op_eq, if_pos (w2.o 13 36 (by decide)), w2.len 36 64 (by decide), if_pos (inN (by omega) (by omega)), f36, q_has11 s _ (by omega) (by omega), bd_eq] at run
    rw [stV_91 hk']
    by_cases cb : s.testBit (ln ch (κ c)) = true
    · rw [if_neg (by rw [bI0, cb]; decide)] at run
      rw [if_pos cb]
      exact leafV σ1 5 u (by decide) w3 w4 (run σ1 5 (by omega) rfl)
    · rw [if_pos (by rw [bI0]; exact Bool.eq_false_iff.2 cb)] at run
      rw [if_neg cb, ← p3]
      exact go σ1 _ _ w5 (by omega) (run σ1 0 (by omega) rfl)
theorem q_pc {ch κ : Nat → Nat} {N : Nat} {t : List Nat} (htk : Tok t) : ∀ r, r ≤ 12 → PC ch κ N t r := by
  intro r
  induction r with
  | zero => intro _; exact pc_0
  | succ r ih => intro hr; exact pc_s htk (by omega) (ih (by omega))
