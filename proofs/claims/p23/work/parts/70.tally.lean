/-! the class counts the ways -/
def C24 : Nat → Nat → Prop := fun a _ => a = 24
def Wmem (ch κ : Nat → Nat) (N S : Nat) (σ : St) : Prop := sL σ 23 3 = L (S : Nat) ∧ 1 ≤ S ∧ S < 2147483648 ∧ ∀ i, i < 153600 → ∃ st v : Nat, sL σ 24 i = L ((4294967296 * st + v : Nat) : Int) ∧ v < 4294967296 ∧ st ≤ S ∧
  (st = S → ∀ c s h, i = (c * 256 + s) * 10 + h → c < N → h < 10 → s < 256 → s &&& sgl ch = s → v = Wy ch (h + 1) (κ c) s)
def CW (ch κ : Nat → Nat) (N S : Nat) (σ : St) : Prop := PG ch κ N σ ∧ Rdy ch κ N σ ∧ Wmem ch κ N S σ
def KG (ch κ : Nat → Nat) (N S h : Nat) (kg : Nat → Int32 → Int32 → Int32 → St → Option (Int64 × St)) : Prop := ∀ c s σ, c < N → s &&& sgl ch = s → CW ch κ N S σ →
  ∃ σ', kg 23 (I (c : Nat)) (I (s : Nat)) (I (h : Nat)) σ = some (L (Wy ch h (κ c) s : Nat), σ') ∧ FX noC C24 σ σ' ∧ CW ch κ N S σ'
theorem sg_lt {ch : Nat → Nat} {s : Nat} (h : s &&& sgl ch = s) : s < 256 := Nat.lt_of_le_of_lt (sub_le h) (sgl_lt ch)
/-- from a part to the next -/
theorem cnt_no {s : Nat} : ∀ {i q j : Nat}, noPart s i q = true → cntP s (i + j) q = cntP s j (q + i) := by
  intro i
  induction i with
  | zero => intro q j _; rw [Nat.zero_add]; rfl
  | succ i ih =>
    intro q j h
    rw [noPart, Bool.and_eq_true] at h
    rw [show i + 1 + j = (i + j) + 1 by omega, cntP, if_neg (by simpa using h.1), ih h.2, show q + 1 + i = q + (i + 1) by omega, Nat.zero_add]
theorem no_at {s : Nat} : ∀ {i q : Nat}, noPart s i q = true → ∀ x, q ≤ x → x < q + i → x &&& s ≠ x := by
  intro i
  induction i with
  | zero => intro q _ x h1 h2; omega
  | succ i ih =>
    intro q h x h1 h2
    rw [noPart, Bool.and_eq_true] at h
    by_cases e : x = q
    · rw [e]; simpa using h.1
    · exact ih h.2 x (by omega) (by omega)
theorem part_next {s p : Nat} (hs : s < 256) (hp : p < 256) (h : p &&& s = p) : (nxtP p s = 0 ∧ cntP s (256 - p) p = 1 ∧ ∀ q, p < q → q < 256 → q &&& s ≠ q) ∨
    (p < nxtP p s ∧ nxtP p s < 256 ∧ nxtP p s &&& s = nxtP p s ∧ cntP s (256 - p) p = 1 + cntP s (256 - nxtP p s) (nxtP p s) ∧ ∀ q, p < q → q < nxtP p s → q &&& s ≠ q) := by
  rcases next_ok hs hp h with ⟨_, b, c⟩ | ⟨a, b, c, d⟩
  · refine Or.inl ⟨b, ?_, fun q h1 h2 => no_at c q (by omega) (by omega)⟩
    rw [show 256 - p = (255 - p) + 1 by omega, cntP, if_pos h, show 255 - p = 255 - p + 0 by omega, cnt_no c]
    rfl
  · refine Or.inr ⟨a, b, c, ?_, fun q h1 h2 => no_at d q (by omega) (by omega)⟩
    rw [show 256 - p = ((nxtP p s - (p + 1)) + (256 - nxtP p s)) + 1 by omega, cntP, if_pos h, cnt_no d, show p + 1 + (nxtP p s - (p + 1)) = nxtP p s by omega]
theorem cntP_le {s : Nat} : ∀ {j q : Nat}, cntP s j q ≤ j := by
  intro j
  induction j with
  | zero => intro q; exact Nat.le_refl 0
  | succ j ih => intro q; rw [cntP]; have := ih (q := q + 1); split <;> omega
theorem smW_ext {P : Nat → Nat} {a b : Nat} (hab : a ≤ b) (h : ∀ q, a ≤ q → q < b → P q = 0) : smW P b = smW P a := by
  induction b with
  | zero => obtain rfl : a = 0 := (by omega); rfl
  | succ b ih =>
    by_cases e : a = b + 1
    · rw [e]
    · rw [smW, ih (by omega) (fun q h1 h2 => h q h1 (by omega)), h b (by omega) (by omega)]
      rfl
theorem lp_sp12 (kg : Nat → Int32 → Int32 → Int32 → St → Option (Int64 × St)) (n a : Nat) (b c d e : Int32) (f : Int64) (g h : Int32) (σ : St) : s_X9_tallySplits_12 kg (n + 1) a b c d e f g h σ = sb_X9_tallySplits_12 kg (s_X9_tallySplits_12 kg n) a b c d e f g h σ := rfl
theorem L0 {w : Nat} (hw : w ≤ 999999999) : L (w : Int) = 0 ↔ w = 0 := by
  rw [show (0 : Int64) = L ((0 : Nat) : Int) from rfl, L_eq (by omega) (by omega)]
  omega
theorem sp12 {ch κ : Nat → Nat} {N S h c c1 c2 s : Nat} {kg : Nat → Int32 → Int32 → Int32 → St → Option (Int64 × St)} (hk : KG ch κ N S h kg) (hh : h ≤ 9) (h1 : c1 < N) (h2 : c2 < N) (e1 : κ c1 = ch1 ch (κ c)) (e2 : κ c2 = ch2 ch (κ c)) (hs : s &&& sgl ch = s) :
    ∀ (j p m : Nat) (σ : St), 256 - p ≤ j → p < 256 → p &&& s = p → CW ch κ N S σ →
    ∃ σ', s_X9_tallySplits_12 kg (m + j + 1) 23 (I (c1 : Nat)) (I (c2 : Nat)) (I (s : Nat)) (I ((h + 1 : Nat) : Int)) (L (cap (smW (spW ch (Wy ch h) (κ c) s) p) : Nat)) (I (p : Nat)) (I (cntP s (256 - p) p : Nat)) σ = some (L (cap (smW (spW ch (Wy ch h) (κ c) s) 256) : Nat), σ') ∧ FX noC C24 σ σ' ∧ CW ch κ N S σ' := by
  have hs2 := sg_lt hs
  intro j
  induction j with
  | zero => intro p m σ hj hp; omega
  | succ j ih =>
    intro p m σ hj hp hps hcw
    have hcl := cntP_le (s := s) (j := 256 - p) (q := p)
    have hsp0 : ∀ q, ¬ q &&& s = q → spW ch (Wy ch h) (κ c) s q = 0 := fun q hq => by unfold spW; rw [if_neg hq]
    have hspp : spW ch (Wy ch h) (κ c) s p = Wy ch h (κ c1) p * Wy ch h (κ c2) (s ^^^ p) := by unfold spW; rw [if_pos hps, e1, e2]
    -- behind the part
    have hnext : ∀ (σ1 : St), CW ch κ N S σ1 → ∃ σ', s_X9_tallySplits_78 kg (s_X9_tallySplits_12 kg (m + j + 1)) 23 (I (c1 : Nat)) (I (c2 : Nat)) (I (s : Nat)) (I ((h + 1 : Nat) : Int)) (L (cap (smW (spW ch (Wy ch h) (κ c) s) (p + 1)) : Nat)) (I (p : Nat)) (I (cntP s (256 - p) p : Nat)) σ1 = some (L (cap (smW (spW ch (Wy ch h) (κ c) s) 256) : Nat), σ') ∧ FX noC C24 σ1 σ' ∧ CW ch κ N S σ' := by
      intro σ1 hc1
      unfold s_X9_tallySplits_78
      rw [q_nextPart hs2 hp, bd_eq, show (-1 : Int32) = I (-1) from rfl, I_add, lt_eq]
      rcases part_next hs2 hp hps with ⟨a1, a2, a3⟩ | ⟨a1, a2, a3, a4, a5⟩
      · rw [a1, a2, lp_sp12]
        unfold sb_X9_tallySplits_12
        rw [if_pos (by decide), smW_ext (a := p + 1) (b := 256) (by omega) (fun q q1 q2 => hsp0 q (a3 q (by omega) q2))]
        exact ⟨σ1, rfl, FX.refl σ1, hc1⟩
      · rw [a4, show ((1 + cntP s (256 - nxtP p s) (nxtP p s) : Nat) : Int) + -1 = (cntP s (256 - nxtP p s) (nxtP p s) : Nat) by omega, ← smW_ext (a := p + 1) (b := nxtP p s) (by omega) (fun q q1 q2 => hsp0 q (a5 q (by omega) q2))]
        exact ih (nxtP p s) m σ1 (by omega) a2 a3 hc1
    have hsum : smW (spW ch (Wy ch h) (κ c) s) (p + 1) = smW (spW ch (Wy ch h) (κ c) s) p + Wy ch h (κ c1) p * Wy ch h (κ c2) (s ^^^ p) := by rw [smW, hspp]
    have hpg := sub_tr hps hs
    have hxg : (s ^^^ p) &&& sgl ch = s ^^^ p := sub_tr (xor_sub hps) hs
    have hpos : 1 ≤ cntP s (256 - p) p := by rcases part_next hs2 hp hps with ⟨_, a2, _⟩ | ⟨_, _, _, a4, _⟩ <;> omega
    rw [lp_sp12]
    unfold sb_X9_tallySplits_12
    have hss := hcw.1.1
    have hN := hcw.1.2.1
    rw [if_neg (by rw [I_lit, I_le (by omega) (by omega)]; omega), if_pos (hss.o 9 23 (by decide)), hss.p 23 1 19 (by decide), op_eq, if_pos (hss.o 4 19 (by decide)), I_m1 (by omega), show h + 1 - 1 = h by omega, q_proves hss hN hcw.2.1 h1 hp (by omega), bd_eq]
    by_cases c0 : LvT ch h (κ c1) p = true
    · rw [if_neg (by rw [bI0, c0]; decide), if_pos (hss.o 9 23 (by decide)), I_xor]
      obtain ⟨σ1, a1, a2, a3⟩ := hk c2 (s ^^^ p) σ h2 hxg hcw
      rw [a1, bd_eq]
      by_cases c3 : Wy ch h (κ c2) (s ^^^ p) = 0
      · rw [if_pos ((cmp0 _ _).2 ((L0 Wy_le).2 c3))]
        rw [c3, Nat.mul_zero] at hsum
        rw [show smW (spW ch (Wy ch h) (κ c) s) p = smW (spW ch (Wy ch h) (κ c) s) (p + 1) from hsum.symm]
        obtain ⟨σ', b1, b2, b3⟩ := hnext σ1 a3
        exact ⟨σ', b1, a2.trans b2, b3⟩
      · have hs1 := a3.1.1
        rw [if_neg (fun q => c3 ((L0 Wy_le).1 ((cmp0 _ _).1 q))), if_pos (hs1.o 9 23 (by decide))]
        obtain ⟨σ2, d1, d2, d3⟩ := hk c1 p σ1 h1 hpg a3
        have hm := mul_lt (Wy_le (ch := ch) (h := h) (p := κ c1) (s := p)) (Wy_le (ch := ch) (h := h) (p := κ c2) (s := s ^^^ p))
        have hcp := cap_le (smW (spW ch (Wy ch h) (κ c) s) p)
        have eL : L (cap (smW (spW ch (Wy ch h) (κ c) s) p) : Nat) + L (Wy ch h (κ c1) p : Nat) * L (Wy ch h (κ c2) (s ^^^ p) : Nat) = L ((cap (smW (spW ch (Wy ch h) (κ c) s) p) + Wy ch h (κ c1) p * Wy ch h (κ c2) (s ^^^ p) : Nat) : Int) := by rw [L_mul, L_add]; rfl
        rw [d1, bd_eq, eL, q_capped (by omega), bd_eq, cap_l, ← hsum]
        obtain ⟨σ', b1, b2, b3⟩ := hnext σ2 d3
        exact ⟨σ', b1, (a2.trans d2).trans b2, b3⟩
    · rw [if_pos (by rw [bI0]; exact Bool.eq_false_iff.2 c0)]
      have z : Wy ch h (κ c1) p = 0 := Wy_0 (by rw [← Lv_TT hcw.1.clo h c1 p h1 hpg]; exact Bool.eq_false_iff.2 c0)
      rw [z, Nat.zero_mul] at hsum
      rw [show smW (spW ch (Wy ch h) (κ c) s) p = smW (spW ch (Wy ch h) (κ c) s) (p + 1) from hsum.symm]
      exact hnext σ hcw
theorem q_splits {ch κ : Nat → Nat} {N S h c c1 c2 s : Nat} {kg : Nat → Int32 → Int32 → Int32 → St → Option (Int64 × St)} (hk : KG ch κ N S h kg) (hh : h ≤ 9) (h1 : c1 < N) (h2 : c2 < N) (e1 : κ c1 = ch1 ch (κ c)) (e2 : κ c2 = ch2 ch (κ c)) (hs : s &&& sgl ch = s) {σ : St} (hcw : CW ch κ N S σ) :
    ∃ σ', s_X9_tallySplits kg 23 (I (c1 : Nat)) (I (c2 : Nat)) (I (s : Nat)) (I ((h + 1 : Nat) : Int)) σ = some (L (cap (smW (spW ch (Wy ch h) (κ c) s) 256) : Nat), σ') ∧ FX noC C24 σ σ' ∧ CW ch κ N S σ' := by
  unfold s_X9_tallySplits
  rw [q_partsOf (sg_lt hs), bd_eq]
  exact sp12 hk hh h1 h2 e1 e2 hs 256 0 15743 σ (by omega) (by omega) (Nat.zero_and s) hcw
/-! an atom -/
theorem lp_ta24 (kg : Nat → Int32 → Int32 → Int32 → St → Option (Int64 × St)) (k6 : Nat → Int32 → Int32 → Int32 → Int64 → Int32 → St → Option (Int64 × St)) (n a : Nat) (b c d : Int32) (e : Int64) (f g h : Int32) (σ : St) : s_X9_tallyAtom_24 kg k6 (n + 1) a b c d e f g h σ = sb_X9_tallyAtom_24 kg k6 (s_X9_tallyAtom_24 kg k6 n) a b c d e f g h σ := rfl
theorem lp_ta6 (kg : Nat → Int32 → Int32 → Int32 → St → Option (Int64 × St)) (n a : Nat) (b c d : Int32) (e : Int64) (f : Int32) (σ : St) : s_X9_tallyAtom_6 kg (n + 1) a b c d e f σ = sb_X9_tallyAtom_6 kg (s_X9_tallyAtom_6 kg n) a b c d e f σ := rfl
theorem tlW_3 {ch : Nat → Nat} {B : Nat → Nat → Nat} {cc s o f : Nat} (hf : f < 3) : tlW ch B cc s (3 * o + f) = (match afU o s with
    | none => 0
    | some r => tolW ch B cc o f r) := by
  unfold tlW
  rw [show (3 * o + f) / 3 = o by omega, show (3 * o + f) % 3 = f by omega]
  rfl
theorem tolW_no {ch : Nat → Nat} {B : Nat → Nat → Nat} {cc o f r : Nat} (h : hdIs ch o f cc = false) : tolW ch B cc o f r = 0 := by
  unfold tolW
  unfold hdIs at h
  cases e : fp ch o f with
  | none => rfl
  | some q =>
    rw [e] at h
    show (if ch q = cc then _ else 0) = 0
    rw [if_neg (of_decide_eq_false h)]
theorem afU_sg {ch : Nat → Nat} {o s r : Nat} (hs : s &&& sgl ch = s) (h : afU o s = some r) : r &&& sgl ch = r := by
  unfold afU at h
  by_cases c : 8 ≤ o
  · rw [if_pos c] at h; obtain rfl := Option.some.inj h; exact hs
  · rw [if_neg c] at h
    by_cases c2 : s.testBit o = true
    · rw [if_pos c2] at h; obtain rfl := Option.some.inj h; exact sub_tr (xor_sub (bit_sub c2)) hs
    · rw [if_neg c2] at h; cases h
theorem ta24 {ch κ : Nat → Nat} {N S h s cc : Nat} {kg : Nat → Int32 → Int32 → Int32 → St → Option (Int64 × St)} (hk : KG ch κ N S h kg) (hs : s &&& sgl ch = s) (hcc : isAt cc = true) (hh : h ≤ 9) (k6 : Nat → Int32 → Int32 → Int32 → Int64 → Int32 → St → Option (Int64 × St)) {o : Nat} (ho : o < 12) : ∀ (j f m : Nat) (σ : St), f + j = 3 → CW ch κ N S σ →
    ∃ σ', s_X9_tallyAtom_24 kg k6 (m + j + 1) 23 (I (cc : Nat)) (I (s : Nat)) (I ((h + 1 : Nat) : Int)) (L (cap (smW (tlW ch (Wy ch h) cc s) (3 * o + f)) : Nat)) (I (o : Nat)) (aR (afU o s)) (I (f : Nat)) σ = k6 23 (I (cc : Nat)) (I (s : Nat)) (I ((h + 1 : Nat) : Int)) (L (cap (smW (tlW ch (Wy ch h) cc s) (3 * (o + 1))) : Nat)) (I ((o + 1 : Nat) : Int)) σ' ∧ FX noC C24 σ σ' ∧ CW ch κ N S σ' := by
  intro j
  induction j with
  | zero =>
    intro f m σ hj hcw
    obtain rfl : f = 3 := (by omega)
    refine ⟨σ, ?_, FX.refl σ, hcw⟩
    rw [lp_ta24]
    unfold sb_X9_tallyAtom_24
    rw [if_pos (by decide), I_p1, lt_eq, show 3 * (o + 1) = 3 * o + 3 by omega]
  | succ j ih =>
    intro f m σ hj hcw
    rw [lp_ta24]
    unfold sb_X9_tallyAtom_24
    rw [if_neg (by rw [I_lit, I_le (by omega) (by omega)]; omega)]
    cases ea : afU o s with
    | none =>
      rw [show aR none = I (-1) from rfl, if_pos (by decide), I_p1, lt_eq]
      rw [smW_ext (a := 3 * o + f) (b := 3 * (o + 1)) (by omega) (fun q q1 q2 => by rw [show q = 3 * o + (q - 3 * o) by omega, tlW_3 (by omega), ea])]
      exact ⟨σ, rfl, FX.refl σ, hcw⟩
    | some r =>
      have hr := afU_sg hs ea
      have hr2 := sg_lt hr
      have hss := hcw.1.1
      have ih := ih (f + 1) m
      rw [ea] at ih
      have est : smW (tlW ch (Wy ch h) cc s) (3 * o + (f + 1)) = smW (tlW ch (Wy ch h) cc s) (3 * o + f) + tolW ch (Wy ch h) cc o f r := by
        rw [show 3 * o + (f + 1) = (3 * o + f) + 1 by omega, smW, tlW_3 (by omega), ea]
      rw [show aR (some r) = I (r : Nat) from rfl] at ih ⊢
      rw [if_neg (by rw [show (-1 : Int32) = I (-1) from rfl, I_eq (by omega) (by omega)]; omega), if_pos (hss.o 9 23 (by decide)), hss.p 23 0 13 (by decide), op_eq, if_pos (hss.o 3 13 (by decide)), q_hasHead hcw.1 ho (by omega) hcc, bd_eq]
      by_cases c1 : hdIs ch o f cc = true
      · obtain ⟨q, e, hq⟩ := hdIs_some c1
        have hb := (hcw.1.face ho (show f < 3 by omega) e).2
        rw [if_neg (by rw [bI0, c1]; decide), if_pos (hss.o 9 23 (by decide)), hss.p 23 0 13 (by decide), op_eq, if_pos (hss.o 3 13 (by decide)), q_body hcw.1 ho (by omega), bd_eq, if_pos (hss.o 9 23 (by decide))]
        have hcp := cap_le (smW (tlW ch (Wy ch h) cc s) (3 * o + f))
        have hface : ∃ σ1, s_X9_tallyFace kg 23 (sI σ 18 (o * 3 + f)) (I (r : Nat)) (I ((h + 1 : Nat) : Int)) σ = some (L (tolW ch (Wy ch h) cc o f r : Nat), σ1) ∧ FX noC C24 σ σ1 ∧ CW ch κ N S σ1 ∧ tolW ch (Wy ch h) cc o f r ≤ 999999999 := by
          unfold s_X9_tallyFace tolW
          rw [e]
          show ∃ σ1, _ = some (L ((if ch q = cc then _ else 0 : Nat) : Int), σ1) ∧ _ ∧ _ ∧ (if ch q = cc then _ else 0) ≤ 999999999
          rw [if_pos hq]
          by_cases h6 : ch (q + 1) = 60
          · rw [if_pos h6] at hb ⊢
            obtain ⟨c, b1, b2, b3⟩ := hb
            have hN := hcw.1.2.1
            obtain ⟨σ1, d1, d2, d3⟩ := hk c r σ b1 hr hcw
            rw [b2, if_neg (by rw [show (-1 : Int32) = I (-1) from rfl, I_eq (by omega) (by omega)]; omega), if_pos (hss.o 9 23 (by decide)), I_m1 (by omega), show h + 1 - 1 = h by omega, d1, bd_eq, b3]
            exact ⟨σ1, rfl, d2, d3, Wy_le⟩
          · rw [if_neg h6] at hb ⊢
            rw [hb, if_pos (by decide)]
            by_cases c0 : r = 0
            · rw [if_pos ((I_z (by omega)).2 c0), if_pos c0]
              exact ⟨σ, rfl, FX.refl σ, hcw, by omega⟩
            · rw [if_neg (fun q => c0 ((I_z (by omega)).1 q)), if_neg c0]
              exact ⟨σ, rfl, FX.refl σ, hcw, by omega⟩
        obtain ⟨σ1, d1, d2, d3, d4⟩ := hface
        have eL : L (cap (smW (tlW ch (Wy ch h) cc s) (3 * o + f)) : Nat) + L (tolW ch (Wy ch h) cc o f r : Nat) = L ((cap (smW (tlW ch (Wy ch h) cc s) (3 * o + f)) + tolW ch (Wy ch h) cc o f r : Nat) : Int) := by rw [L_add]; rfl
        rw [d1, bd_eq, eL, q_capped (by omega), bd_eq, cap_l, ← est, I_p1, lt_eq]
        obtain ⟨σ2, b1, b2, b3⟩ := ih σ1 (by omega) d3
        exact ⟨σ2, b1, d2.trans b2, b3⟩
      · have c1' := Bool.eq_false_iff.2 c1
        rw [tolW_no c1'] at est
        rw [if_pos (by rw [bI0]; exact c1'), I_p1, lt_eq, show smW (tlW ch (Wy ch h) cc s) (3 * o + f) = smW (tlW ch (Wy ch h) cc s) (3 * o + (f + 1)) from est.symm]
        exact ih σ (by omega) hcw
theorem ta6 {ch κ : Nat → Nat} {N S h s cc : Nat} {kg : Nat → Int32 → Int32 → Int32 → St → Option (Int64 × St)} (hk : KG ch κ N S h kg) (hs : s &&& sgl ch = s) (hcc : isAt cc = true) (hh : h ≤ 9) : ∀ (j o m : Nat) (σ : St), o + j = 12 → CW ch κ N S σ →
    ∃ σ', s_X9_tallyAtom_6 kg (m + j + 1) 23 (I (cc : Nat)) (I (s : Nat)) (I ((h + 1 : Nat) : Int)) (L (cap (smW (tlW ch (Wy ch h) cc s) (3 * o)) : Nat)) (I (o : Nat)) σ = some (L (cap (smW (tlW ch (Wy ch h) cc s) 36) : Nat), σ') ∧ FX noC C24 σ σ' ∧ CW ch κ N S σ' := by
  have hs2 := sg_lt hs
  intro j
  induction j with
  | zero =>
    intro o m σ hj hcw
    obtain rfl : o = 12 := (by omega)
    refine ⟨σ, ?_, FX.refl σ, hcw⟩
    rw [lp_ta6]
    unfold sb_X9_tallyAtom_6
    rw [if_pos (by decide)]
  | succ j ih =>
    intro o m σ hj hcw
    obtain ⟨σ1, a1, a2, a3⟩ := ta24 hk hs hcc hh (s_X9_tallyAtom_6 kg (m + j + 1)) (show o < 12 by omega) 3 0 15996 σ rfl hcw
    obtain ⟨σ2, b1, b2, b3⟩ := ih (o + 1) m σ1 (by omega) a3
    refine ⟨σ2, ?_, a2.trans b2, b3⟩
    rw [lp_ta6]
    unfold sb_X9_tallyAtom_6
    rw [if_neg (by rw [I_lit, I_le (by omega) (by omega)]; omega), q_afterUse (by omega) (by omega), bd_eq]
    exact a1.trans b1
