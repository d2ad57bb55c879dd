/-- what the reference reads of a node -/
theorem tell_read {ch κ : Nat → Nat} {N : Nat} {σ : St} (hg : GM ch κ N σ) {c : Nat} (hc : c < N) (s h : Int32) :
    s_X11_tellOne 30 (I (c : Nat)) s h σ = (if I (mk (kd ch (κ c)) : Nat) = 0 then (bd (s_X11_tellAtom 30 (sI σ 35 c) s h σ) fun r32 σ30 => some ((), σ30)) else (if I (mk (kd ch (κ c)) : Nat) = 1 then (some ((), σ)) else (if I (mk (kd ch (κ c)) : Nat) = 2 then (some ((), σ)) else (if I (mk (kd ch (κ c)) : Nat) = 3 then (bd (s_X11_await 30 (sI σ 35 c) s (h - 1) σ) fun r38 σ36 => some ((), σ36)) else (if I (mk (kd ch (κ c)) : Nat) = 4 then (bd (s_X11_firstPart 30 (I (c : Nat)) s h σ) fun r42 σ40 => if isO σ40 11 30 = true then (bd (s_X11_tell 30 (200 + r42) σ40) fun r46 σ44 => if isO σ44 11 30 = true then (bd (s_X11_await 30 (sI σ 36 c) (s &&& (r42 ^^^ ((-1)))) (h - 1) σ44) fun r50 σ48 => if isO σ48 11 30 = true then (bd (s_X11_await 30 (sI σ 35 c) r42 (h - 1) σ48) fun r54 σ52 => some ((), σ52)) else none) else none) else none)
      else (if I (mk (kd ch (κ c)) : Nat) = 5 then (bd (s_X11_await 30 (sI σ 36 c) s (h - 1) σ) fun r58 σ56 => if isO σ56 11 30 = true then (bd (s_X11_await 30 (sI σ 35 c) s (h - 1) σ56) fun r62 σ60 => some ((), σ60)) else none) else (if I (mk (kd ch (κ c)) : Nat) = 6 then (bd (s_X11_isBelow 30 (sI σ 35 c) s h σ) fun r66 σ64 => if r66 = 0 then (s_X11_tellOne_188 30 s h (sI σ 35 c) (sI σ 36 c) r66 30 301 σ64) else (s_X11_tellOne_188 30 s h (sI σ 35 c) (sI σ 36 c) r66 30 300 σ64)) else (if I (mk (kd ch (κ c)) : Nat) = 7 then (bd (s_X11_await 30 (sI σ 35 c) (s ||| (1 <<< (sI σ 36 c &&& 31))) (h - 1) σ) fun r71 σ69 => some ((), σ69)) else (some ((), σ)))))))))) := by
  have n1 := (hg.2.2.2.1.1 c hc).1
  have hN := hg.2.1
  have hs := hg.1
  unfold s_X11_tellOne
  rw [if_pos (hs.o 11 30 (by decide)), hs.p 30 8 35 (by decide), op_eq, if_pos (hs.o 13 35 (by decide)), hs.len 35 64 (by decide), if_pos (inN (by omega) (by omega)), tNI (by omega), lt_eq, hs.p 30 9 36 (by decide), op_eq, if_pos (hs.o 13 36 (by decide)), hs.len 36 64 (by decide), if_pos (inN (by omega) (by omega)), lt_eq, hs.p 30 7 34 (by decide), op_eq, if_pos (hs.o 13 34 (by decide)), hs.len 34 64 (by decide), if_pos (inN (by omega) (by omega)), lt_eq, n1]
theorem bd_un {σ : St} {r : Option (Unit × St)} (h : r = some ((), σ)) : (bd r fun _ σ1 => some ((), σ1)) = some ((), σ) := by rw [h]; rfl
theorem pw_s {ch κ : Nat → Nat} {N h : Nat} (hh : h ≤ 9) (ih : PW ch κ N h) : PW ch κ N (h + 1) := by
  intro c s d σ l hc hs2 hl hm hi hst hd hr hlen
  have hg := hm.1
  have hN := hg.2.1
  have h2h : 2 ^ (h + 1) = 2 ^ h + 2 ^ h := by rw [Nat.pow_succ]; omega
  have hp1 : 1 ≤ 2 ^ h := Nat.one_le_two_pow
  have hh1 : h + 1 - 1 = h := by omega
  have f0 : Fr (fun a k => a = 30 ∧ k = 30) σ (setI σ 30 30 (I (d : Nat))) := (Fr.refl σ).put _ ⟨rfl, rfl⟩
  have f0' : Fr lwC σ (setI σ 30 30 (I (d : Nat))) := f0.mono (fun a k q => Or.inl ⟨q.1, Or.inr q.2⟩)
  have sb0 : Sb σ (setI σ 30 30 (I (d : Nat))) d := f0.sb (fun a i h1 h2 h3 => by omega)
  have hm0 := hm.lw f0'
  have hr0 := hr.fr f0 (by omega) (fun k => by omega)
  have hd0 : sI (setI σ 30 30 (I (d : Nat))) 30 30 = I (d : Nat) := sIe
  have run := fun (σ1 : St) (q : s_X11_tellOne 30 (I (c : Nat)) (I (s : Nat)) (I ((h + 1 : Nat) : Int)) (setI σ 30 30 (I (d : Nat))) = some ((), σ1)) => run_1 hg.1 (show d < 64 by omega) hst hi q
  generalize setI σ 30 30 (I (d : Nat)) = τ at *
  have hgt := hm0.1
  have hB := hm0.bm (g := h) hh
  have ho := hgt.1.o 11 30 (by decide)
  obtain ⟨n1, n2, n3, n4, n5, n6, n7⟩ := hgt.2.2.2.1.1 c hc
  rw [tell_read hgt hc] at run
  change stp ch one (Lv ch one h) (κ c) s = true at hl
  show ∃ σ' n, n + 1 ≤ 2 ^ (h + 1) ∧ Run σ σ' n ∧ sI σ' 30 30 = I (d : Nat) ∧ RWl σ' (l ++ stF ch (Lv ch one h) (wr ch h) (κ c) s) ∧ Sb σ σ' d ∧ Fr lwC σ σ'
  rw [h2h] at hlen ⊢
  rcases n6 with a | a | a | a | a | a
  · have a' := isAt_iff.1 a
    have hk : kd ch (κ c) = ch (κ c) := kd_ne (by omega)
    have ka : isAt (kd ch (κ c)) = true := by rw [hk]; exact a
    rw [mk_at ka, if_pos (by decide), n2 a] at run
    rw [stp_at ka, hk] at hl
    rw [stF_at ka, hk]
    cases e : fstN (tol ch (Lv ch one h) (ch (κ c)) s) 36 0 with
    | none => rw [e] at hl; cases hl
    | some k =>
      have hk36 := fst36 k e
      have hkn := numK_lt hk36
      obtain ⟨u1, u2, u3⟩ := numK_o hk36
      have htol := (fstN_some e).2.2.1
      obtain ⟨σ1, t1, t2, t3⟩ := q_tell hgt.1 hr0 (show l.length < 1024 by omega) (numK k)
      have hgm1 := hgt.fr t2 (by unfold tlC; omega) (fun a k h1 h2 => by unfold tlC; omega)
      have ff := q_firstFor hgt hB (cc := ch (κ c)) (s := s) (by omega) hs2
      rw [e] at ff
      have ff' : s_X11_firstFor 30 (I (ch (κ c) : Nat)) (I (s : Nat)) (I ((h + 1 : Nat) : Int)) τ = some (I (numK k : Nat), τ) := ff
      -- the face
      unfold tol at htol
      have hafu : ∃ r, afU (k / 3) s = some r := by
        cases ea : afU (k / 3) s with
        | none => rw [ea] at htol; cases htol
        | some r => exact ⟨r, rfl⟩
      obtain ⟨r, ea⟩ := hafu
      rw [ea] at htol
      change tolR ch (Lv ch one h) (ch (κ c)) (k / 3) (k % 3) r = true at htol
      unfold tolR at htol
      have hfp : ∃ q, fp ch (k / 3) (k % 3) = some q := by
        cases eq : fp ch (k / 3) (k % 3) with
        | none => rw [eq] at htol; cases htol
        | some q => exact ⟨q, rfl⟩
      obtain ⟨q, eq⟩ := hfp
      rw [eq] at htol
      change (decide (ch q = ch (κ c)) && (if ch (q + 1) = 60 then Lv ch one h (q + 2) r else decide (r = 0))) = true at htol
      rw [Bool.and_eq_true] at htol
      have hF := hgm1.2.2.2.1.2 (k / 3) (k % 3) (by omega) (by omega)
      rw [eq] at hF
      have hb := hF.2.2.2
      have hr256 : r < 256 := by
        unfold afU at ea
        by_cases c8 : 8 ≤ k / 3
        · rw [if_pos c8] at ea; obtain rfl := Option.some.inj ea; exact hs2
        · rw [if_neg c8] at ea
          by_cases cb : s.testBit (k / 3) = true
          · rw [if_pos cb] at ea; obtain rfl := Option.some.inj ea; exact xor_lt hs2 (pow8 (by omega))
          · rw [if_neg cb] at ea; cases ea
      have eoff : ∃ o1 : Int32, o1 = I (k / 3 : Nat) ∧ s_X11_tellAtom 30 (I (ch (κ c) : Nat)) (I (s : Nat)) (I ((h + 1 : Nat) : Int)) τ = s_X11_tellAtom_41 30 (I (s : Nat)) (I ((h + 1 : Nat) : Int)) (I (numK k : Nat)) o1 σ1 := by
        unfold s_X11_tellAtom
        rw [if_pos ho, ff', bd_eq, if_pos ho, t1, bd_eq]
        by_cases c100 : 100 ≤ numK k
        · refine ⟨_, ?_, by rw [if_pos (by rw [I_lit, I_le (by omega) (by omega)]; omega)]⟩
          rw [show (100 : Int32) = I ((100 : Nat) : Int) from rfl, I_sub, show ((numK k : Nat) : Int) - (100 : Nat) = ((numK k - 100 : Nat) : Int) by omega, d10 (by omega), I_lit, I_add]
          rw [if_neg (by omega)] at u1
          exact congrArg I (by omega)
        · refine ⟨_, ?_, by rw [if_neg (by rw [I_lit, I_le (by omega) (by omega)]; omega)]⟩
          rw [d10 (by omega)]
          rw [if_pos (by omega)] at u1
          rw [u1]
      obtain ⟨o1, eo, et⟩ := eoff
      subst eo
      have e39 : (3 : Int32) * I ((k / 3 : Nat) : Int) + I ((numK k % 10 : Nat) : Int) = I ((3 * (k / 3) + k % 3 : Nat) : Int) := by rw [I_lit, I_mul, I_add, u2]; rfl
      have ho1 := hgm1.1.o 11 30 (by decide)
      have et2 : s_X11_tellAtom_41 30 (I (s : Nat)) (I ((h + 1 : Nat) : Int)) (I (numK k : Nat)) (I (k / 3 : Nat)) σ1 = (if sI σ1 39 (3 * (k / 3) + k % 3) < 0 then (some ((), σ1)) else (if (100 : Int32) ≤ I (numK k : Nat) then (s_X11_tellAtom_87 (I ((h + 1 : Nat) : Int)) 30 (sI σ1 39 (3 * (k / 3) + k % 3)) (I (s : Nat)) σ1) else (s_X11_tellAtom_87 (I ((h + 1 : Nat) : Int)) 30 (sI σ1 39 (3 * (k / 3) + k % 3)) (I (s : Nat) &&& ((1 <<< (I (k / 3 : Nat) &&& 31)) ^^^ ((-1)))) σ1))) := by
        unfold s_X11_tellAtom_41
        rw [if_pos ho1, hgm1.1.p 30 13 39 (by decide), op_eq, if_pos (hgm1.1.o 13 39 (by decide)), hgm1.1.len 39 36 (by decide), d10 (by omega), r10, e39, if_pos (inN (by omega) (by omega)), tNI (by omega), lt_eq]
      by_cases h6 : ch (q + 1) = 60
      · rw [if_pos h6] at hb
        obtain ⟨c1, b1, b2, b3⟩ := hb
        have hlv : Lv ch one h (κ c1) r = true := by have := htol.2; rw [if_pos h6, ← b3] at this; exact this
        obtain ⟨σ2, w1, σ3, n, w2, w3, w4, w5, w6, w7⟩ := pw_one ih (τ := σ1) (d := d) b1 hr256 hlv (hm0.fr t2 (by unfold tlC; omega) (fun a k h1 h2 => by unfold tlC; omega) (fun k => by unfold tlC; omega)) (by rw [t2.i 30 30 (by unfold tlC; omega)]; exact hd0) (by omega) t3 (by rw [List.length_append]; show l.length + 1 + _ ≤ _; omega)
        have erest : (if (100 : Int32) ≤ I (numK k : Nat) then (s_X11_tellAtom_87 (I ((h + 1 : Nat) : Int)) 30 (I (c1 : Nat)) (I (s : Nat)) σ1) else (s_X11_tellAtom_87 (I ((h + 1 : Nat) : Int)) 30 (I (c1 : Nat)) (I (s : Nat) &&& ((1 <<< (I (k / 3 : Nat) &&& 31)) ^^^ ((-1)))) σ1)) = some ((), σ2) := by
          have e87 : ∀ x, x = I (r : Nat) → s_X11_tellAtom_87 (I ((h + 1 : Nat) : Int)) 30 (I (c1 : Nat)) x σ1 = some ((), σ2) := by
            intro x hx
            unfold s_X11_tellAtom_87
            rw [if_pos ho1, I_m1 (by omega), hh1, hx]
            exact bd_un w1
          by_cases c100 : 100 ≤ numK k
          · rw [if_pos (by rw [I_lit, I_le (by omega) (by omega)]; omega)]
            apply e87
            unfold afU at ea
            rw [if_pos (by omega)] at ea
            rw [Option.some.inj ea]
          · rw [if_neg (by rw [I_lit, I_le (by omega) (by omega)]; omega)]
            apply e87
            unfold afU at ea
            rw [if_neg (by omega)] at ea
            by_cases cb : s.testBit (k / 3) = true
            · rw [if_pos cb] at ea
              rw [I_shl1 _ (by omega), I_dif (by omega) (bit_sub cb), Option.some.inj ea]
            · rw [if_neg cb] at ea; cases ea
        rw [et, et2, b2, if_neg (by rw [I_lit, I_lt (by omega) (by omega)]; omega), erest] at run
        refine ⟨σ3, 1 + n, by omega, (run σ2 rfl).trans w3, w4, ?_, (sb0.trans (t2.sb (fun a i h1 h2 h3 => by unfold tlC; omega))).trans w6, (f0'.trans (t2.mono (fun a k q => by unfold tlC at q; unfold lwC; omega))).trans w7⟩
        rw [List.append_assoc] at w5
        show RWl σ3 (l ++ (numK k :: wrB ch (wr ch h) s k))
        unfold wrB
        rw [eq]
        show RWl σ3 (l ++ (numK k :: if ch (q + 1) = 60 then wrS (afU (k / 3) s) (fun r => wr ch h (q + 2) r) else []))
        rw [if_pos h6, ea]
        show RWl σ3 (l ++ (numK k :: wr ch h (q + 2) r))
        rw [← b3]
        exact w5
      · rw [if_neg h6] at hb
        rw [et, et2, hb, if_pos (by decide)] at run
        refine ⟨σ1, 1, by omega, run σ1 rfl, by rw [t2.i 30 30 (by unfold tlC; omega)]; exact hd0, ?_, sb0.trans (t2.sb (fun a i h1 h2 h3 => by unfold tlC; omega)), f0'.trans (t2.mono (fun a k q => by unfold tlC at q; unfold lwC; omega))⟩
        show RWl σ1 (l ++ (numK k :: wrB ch (wr ch h) s k))
        unfold wrB
        rw [eq]
        show RWl σ1 (l ++ (numK k :: if ch (q + 1) = 60 then wrS (afU (k / 3) s) (fun r => wr ch h (q + 2) r) else []))
        rw [if_neg h6]
        exact t3
  · have hk : kd ch (κ c) = 49 := by rw [kd_ne (by omega)]; exact a
    rw [hk, if_neg (by decide), if_pos (by decide)] at run
    rw [stF_49 hk, List.append_nil]
    exact ⟨τ, 1, by omega, run τ rfl, hd0, hr0, sb0, f0'⟩
  · have hk : kd ch (κ c) = 84 := by rw [kd_ne (by omega)]; exact a
    rw [hk, if_neg (by decide), if_neg (by decide), if_pos (by decide)] at run
    rw [stF_84 hk, List.append_nil]
    exact ⟨τ, 1, by omega, run τ rfl, hd0, hr0, sb0, f0'⟩
  · have hk : kd ch (κ c) = 33 := by rw [kd_ne (by omega)]; exact a
    obtain ⟨c1, p1, p2, p3⟩ := n3 (Or.inl a)
    rw [stp_33 hk, Bool.and_eq_true] at hl
    have h0 := of_decide_eq_true hl.1
    obtain ⟨σ2, w1, σ3, n, w2, w3, w4, w5, w6, w7⟩ := pw_one ih (τ := τ) (d := d) p1 hs2 (by rw [p3, h0]; exact hl.2) hm0 hd0 (by omega) hr0 (by omega)
    rw [hk, if_neg (by decide), if_neg (by decide), if_neg (by decide), if_pos (by decide), p2, I_m1 (by omega), hh1, bd_un w1] at run
    rw [stF_33 hk, ← p3]
    exact ⟨σ3, 1 + n, by omega, (run σ2 rfl).trans w3, w4, w5, sb0.trans w6, f0'.trans w7⟩
  · obtain ⟨c1, p1, p2, p3⟩ := n3 (Or.inr (Or.inl a))
    obtain ⟨c2, p4, p5, p6⟩ := n4 a
    rcases isOp_iff.1 (n7 a) with hk | hk | hk
    · rw [stp_42 hk] at hl
      have hfp := q_firstPart hgt hB hc a hs2
      rw [stF_42 hk]
      cases e : fstN (splt ch (Lv ch one h) (κ c) s) 256 0 with
      | none => rw [e] at hl; cases hl
      | some q =>
        have hq := fst256 q e
        have hsp := (fstN_some e).2.2.1
        unfold splt at hsp
        rw [Bool.and_eq_true, Bool.and_eq_true] at hsp
        have hqs := of_decide_eq_true hsp.1
        rw [e] at hfp
        change s_X11_firstPart 30 (I (c : Nat)) (I (s : Nat)) (I ((h + 1 : Nat) : Int)) τ = some (I (q : Nat), τ) at hfp
        obtain ⟨σ1, t1, t2, t3⟩ := q_tell hgt.1 hr0 (show l.length < 1024 by omega) (200 + q)
        have hm1 := hm0.fr t2 (by unfold tlC; omega) (fun a k h1 h2 => by unfold tlC; omega) (fun k => by unfold tlC; omega)
        obtain ⟨σ2, w1, ws, σ3, w2, σ4, n, w3, w4, w5, w6, w7, w8⟩ := pw_two ih (τ := σ1) (d := d) (c1 := c1) (s1 := q) (c2 := c2) (s2 := s ^^^ q) p1 hq (by rw [p3]; exact hsp.2.1) p4 (xor_lt hs2 hq) (by rw [p6]; exact hsp.2.2) hm1 (by rw [t2.i 30 30 (by unfold tlC; omega)]; exact hd0) (by omega) t3 (by rw [List.length_append]; show l.length + 1 + _ + _ ≤ _; omega)
        have ea : (200 : Int32) + I (q : Nat) = I ((200 + q : Nat) : Int) := by rw [I_lit, I_add]; rfl
        rw [hk, if_neg (by decide), if_neg (by decide), if_neg (by decide), if_neg (by decide), if_pos (by decide), hfp, bd_eq, if_pos ho, ea, t1, bd_eq, if_pos (hm1.1.1.o 11 30 (by decide)), p5, I_dif (by omega) hqs, I_m1 (by omega), hh1, w1, bd_eq, if_pos (ws.o 11 30 (by decide)), p2, bd_un w2] at run
        refine ⟨σ4, 1 + n, by omega, (run σ3 rfl).trans w4, w5, ?_, (sb0.trans (t2.sb (fun a i h1 h2 h3 => by unfold tlC; omega))).trans w7, (f0'.trans (t2.mono (fun a k q => by unfold tlC at q; unfold lwC; omega))).trans w8⟩
        rw [List.append_assoc, p3, p6] at w6
        exact w6
    · rw [stp_38 hk, Bool.and_eq_true] at hl
      obtain ⟨σ2, w1, ws, σ3, w2, σ4, n, w3, w4, w5, w6, w7, w8⟩ := pw_two ih (τ := τ) (d := d) (c1 := c1) (s1 := s) (c2 := c2) (s2 := s) p1 hs2 (by rw [p3]; exact hl.1) p4 hs2 (by rw [p6]; exact hl.2) hm0 hd0 (by omega) hr0 (by omega)
      rw [hk, if_neg (by decide), if_neg (by decide), if_neg (by decide), if_neg (by decide), if_neg (by decide), if_pos (by decide), p5, I_m1 (by omega), hh1, w1, bd_eq, if_pos (ws.o 11 30 (by decide)), p2, bd_un w2] at run
      rw [stF_38 hk, ← p3, ← p6]
      exact ⟨σ4, 1 + n, by omega, (run σ3 rfl).trans w4, w5, w6, sb0.trans w7, f0'.trans w8⟩
    · rw [stp_43 hk] at hl
      rw [stF_43 hk]
      have hbel := hB c1 s p1 hs2
      rw [p3] at hbel
      cases e : Lv ch one h (ch1 ch (κ c)) s with
      | true =>
        rw [e] at hbel
        obtain ⟨σ1, t1, t2, t3⟩ := q_tell hgt.1 hr0 (show l.length < 1024 by omega) 300
        have hm1 := hm0.fr t2 (by unfold tlC; omega) (fun a k h1 h2 => by unfold tlC; omega) (fun k => by unfold tlC; omega)
        obtain ⟨σ2, w1, σ3, n, w2, w3, w4, w5, w6, w7⟩ := pw_one ih (τ := σ1) (d := d) p1 hs2 (by rw [p3]; exact e) hm1 (by rw [t2.i 30 30 (by unfold tlC; omega)]; exact hd0) (by omega) t3 (by rw [List.length_append]; show l.length + 1 + _ ≤ _; omega)
        have e188 : s_X11_tellOne_188 30 (I (s : Nat)) (I ((h + 1 : Nat) : Int)) (I (c1 : Nat)) (I (c2 : Nat)) (bI true) 30 300 τ = some ((), σ2) := by
          unfold s_X11_tellOne_188 s_X11_tellOne_204
          rw [if_pos ho, show (300 : Int32) = I ((300 : Nat) : Int) from rfl, t1, bd_eq, if_neg (by decide), if_pos (hm1.1.1.o 11 30 (by decide)), I_m1 (by omega), hh1, bd_un w1]
        rw [hk, if_neg (by decide), if_neg (by decide), if_neg (by decide), if_neg (by decide), if_neg (by decide), if_neg (by decide), if_pos (by decide), p2, hbel, bd_eq, if_neg (by decide), p5, e188] at run
        rw [if_pos rfl, ← p3]
        refine ⟨σ3, 1 + n, by omega, (run σ2 rfl).trans w3, w4, ?_, (sb0.trans (t2.sb (fun a i h1 h2 h3 => by unfold tlC; omega))).trans w6, (f0'.trans (t2.mono (fun a k q => by unfold tlC at q; unfold lwC; omega))).trans w7⟩
        rw [List.append_assoc] at w5
        exact w5
      | false =>
        rw [e] at hbel hl
        rw [Bool.false_or] at hl
        obtain ⟨σ1, t1, t2, t3⟩ := q_tell hgt.1 hr0 (show l.length < 1024 by omega) 301
        have hm1 := hm0.fr t2 (by unfold tlC; omega) (fun a k h1 h2 => by unfold tlC; omega) (fun k => by unfold tlC; omega)
        obtain ⟨σ2, w1, σ3, n, w2, w3, w4, w5, w6, w7⟩ := pw_one ih (τ := σ1) (d := d) p4 hs2 (by rw [p6]; exact hl) hm1 (by rw [t2.i 30 30 (by unfold tlC; omega)]; exact hd0) (by omega) t3 (by rw [List.length_append]; show l.length + 1 + _ ≤ _; omega)
        have e188 : s_X11_tellOne_188 30 (I (s : Nat)) (I ((h + 1 : Nat) : Int)) (I (c1 : Nat)) (I (c2 : Nat)) (bI false) 30 301 τ = some ((), σ2) := by
          unfold s_X11_tellOne_188 s_X11_tellOne_204
          rw [if_pos ho, show (301 : Int32) = I ((301 : Nat) : Int) from rfl, t1, bd_eq, if_pos (by decide), if_pos (hm1.1.1.o 11 30 (by decide)), I_m1 (by omega), hh1, bd_un w1]
        rw [hk, if_neg (by decide), if_neg (by decide), if_neg (by decide), if_neg (by decide), if_neg (by decide), if_neg (by decide), if_pos (by decide), p2, hbel, bd_eq, if_pos (by decide), p5, e188] at run
        rw [if_neg (by decide), ← p6]
        refine ⟨σ3, 1 + n, by omega, (run σ2 rfl).trans w3, w4, ?_, (sb0.trans (t2.sb (fun a i h1 h2 h3 => by unfold tlC; omega))).trans w6, (f0'.trans (t2.mono (fun a k q => by unfold tlC at q; unfold lwC; omega))).trans w7⟩
        rw [List.append_assoc] at w5
        exact w5
  · have hk : kd ch (κ c) = 91 := by rw [kd_ne (by omega)]; exact a
    obtain ⟨c1, p1, p2, p3⟩ := n3 (Or.inr (Or.inr a))
    obtain ⟨p4, p5⟩ := n5 a
    rw [stp_91 hk, Bool.and_eq_true] at hl
    obtain ⟨σ2, w1, σ3, n, w2, w3, w4, w5, w6, w7⟩ := pw_one ih (τ := τ) (d := d) p1 (or_lt hs2 (pow8 p5)) (by rw [p3]; exact hl.2) hm0 hd0 (by omega) hr0 (by omega)
    rw [hk, if_neg (by decide), if_neg (by decide), if_neg (by decide), if_neg (by decide), if_neg (by decide), if_neg (by decide), if_neg (by decide), if_pos (by decide), p2, p4, I_shl1 _ (by omega), I_or, I_m1 (by omega), hh1, bd_un w1] at run
    rw [stF_91 hk, ← p3]
    exact ⟨σ3, 1 + n, by omega, (run σ2 rfl).trans w3, w4, w5, sb0.trans w6, f0'.trans w7⟩
theorem q_pw {ch κ : Nat → Nat} {N : Nat} : ∀ h, h ≤ 10 → PW ch κ N h := by
  intro h
  induction h with
  | zero => intro _ c s d σ l _ _ hl; cases hl
  | succ h ih => intro hh; exact pw_s (by omega) (ih (by omega))
