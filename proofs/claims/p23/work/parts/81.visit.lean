/-! the class's judge -/
def CTr (σ : St) (t : List Nat) : Prop := sI σ 27 1 = I (t.length : Nat) ∧ ∀ i v : Nat, t[i]? = some v → sI σ 28 i = I (v : Nat)
theorem CTr.fx {σ σ' : St} {CI CL : Nat → Nat → Prop} {t : List Nat} (h : CTr σ t) (hf : FX CI CL σ σ') (h1 : ¬ CI 27 1) (h2 : ∀ k, ¬ CI 28 k) : CTr σ' t :=
  ⟨by rw [hf.i 27 1 h1]; exact h.1, fun i v hi => by rw [hf.i 28 i (h2 i)]; exact h.2 i v hi⟩
def JS (σ : St) (a : VR) : Prop := sI σ 29 2 = I (a.1 : Nat) ∧ sI σ 29 3 = I (a.2.1 : Nat) ∧ sI σ 29 4 = I (a.2.2 : Nat)
def jC : Nat → Nat → Prop := fun a k => a = 29 ∧ (k = 2 ∨ k = 3 ∨ k = 4)
theorem JS.v {σ : St} {v u d : Nat} (h : JS σ (v, u, d)) (w : Nat) : JS (setI σ 29 2 (I (w : Nat))) (w, u, d) ∧ FX jC noC σ (setI σ 29 2 (I (w : Nat))) :=
  ⟨⟨sIe, by rw [sIn (by omega)]; exact h.2.1, by rw [sIn (by omega)]; exact h.2.2⟩, FX.setI 29 2 _ ⟨rfl, by omega⟩⟩
theorem JS.u {σ : St} {v u d : Nat} (h : JS σ (v, u, d)) (w : Nat) : JS (setI σ 29 3 (I (w : Nat))) (v, w, d) ∧ FX jC noC σ (setI σ 29 3 (I (w : Nat))) :=
  ⟨⟨by rw [sIn (by omega)]; exact h.1, sIe, by rw [sIn (by omega)]; exact h.2.2⟩, FX.setI 29 3 _ ⟨rfl, by omega⟩⟩
theorem JS.d {σ : St} {v u d : Nat} (h : JS σ (v, u, d)) (w : Nat) : JS (setI σ 29 4 (I (w : Nat))) (v, u, w) ∧ FX jC noC σ (setI σ 29 4 (I (w : Nat))) :=
  ⟨⟨by rw [sIn (by omega)]; exact h.1, by rw [sIn (by omega)]; exact h.2.1, sIe⟩, FX.setI 29 4 _ ⟨rfl, by omega⟩⟩
theorem q_lacks {σ : St} (hs : SS σ) {t : List Nat} (ht : CTr σ t) (hl : t.length ≤ 60) {v u d : Nat} (hj : JS σ (v, u, d)) (hu : u ≤ 60) : s_X2_lacksNumber 29 σ = if t.length ≤ u then some (1, setI σ 29 2 (I (2 : Nat))) else some (0, σ) := by
  unfold s_X2_lacksNumber s_X8_length
  have hj1 : sI σ 29 3 = I (u : Nat) := hj.2.1
  rw [if_pos (hs.o 2 29 (by decide)), hs.p 29 1 27 (by decide), op_eq, if_pos (hs.o 8 27 (by decide)), if_pos (hs.o 8 27 (by decide)), bd_eq, ht.1, hj1]
  by_cases c : t.length ≤ u
  · rw [if_pos (by rw [I_le (by omega) (by omega)]; omega), if_pos (hs.o 2 29 (by decide)), lt_eq, if_pos c]
    rfl
  · rw [if_neg (by rw [I_le (by omega) (by omega)]; omega), if_neg c]
theorem q_at8 {σ : St} (hs : SS σ) {t : List Nat} (ht : CTr σ t) (hl : t.length ≤ 60) {u : Nat} (hu : u ≤ 60) : s_X8_at 27 (I (u : Nat)) σ = some (if t.length ≤ u then I (-1) else I (t.getD u 0 : Nat), σ) := by
  unfold s_X8_at
  rw [if_neg (by rw [I_lit, I_lt (by omega) (by omega)]; omega), if_pos (hs.o 8 27 (by decide)), ht.1]
  by_cases c : t.length ≤ u
  · rw [if_pos (by rw [I_le (by omega) (by omega)]; omega), if_pos c]; rfl
  · rw [if_neg (by rw [I_le (by omega) (by omega)]; omega), hs.p 27 0 28 (by decide), op_eq, if_pos (hs.o 13 28 (by decide)), hs.len 28 60 (by decide), I_nI, if_neg (by rw [I_le (by omega) (by omega)]; omega), if_pos (inN (by omega) (by omega)), tNI (by omega), ht.2 u _ (getD_some (by omega)), if_neg c]
theorem q_ref0 {σ : St} (hs : SS σ) : s_X2_refuseUnless 29 0 σ = some (1, setI σ 29 2 (I (3 : Nat))) := by
  unfold s_X2_refuseUnless s_X2_refuseUnless_9
  rw [if_pos rfl, if_pos (hs.o 2 29 (by decide)), lt_eq, if_pos rfl]
  rfl
theorem q_ref1 {σ : St} : s_X2_refuseUnless 29 1 σ = some (0, σ) := by
  unfold s_X2_refuseUnless s_X2_refuseUnless_9
  rw [if_neg (by decide), if_neg (by decide)]
theorem q_empty {σ : St} (hs : SS σ) {s : Nat} (h : s < 256) : s_X2_demandEmpty 29 (I (s : Nat)) σ = if s = 0 then some ((), σ) else some ((), setI σ 29 2 (I (4 : Nat))) := by
  unfold s_X2_demandEmpty
  by_cases c : s = 0
  · rw [if_pos ((I_z (by omega)).2 c), if_pos c]
  · rw [if_neg (fun q => c ((I_z (by omega)).1 q)), if_pos (hs.o 2 29 (by decide)), lt_eq, if_neg c]
    rfl
theorem m100 {x : Nat} (hx : x < 500) : I (x : Nat) - I (x : Nat) / 100 * 100 = I ((x % 100 : Nat) : Int) := by
  rw [show I (x : Nat) / 100 = I ((x / 100 : Nat) : Int) by rw [show (100 : Int32) = I ((100 : Nat) : Int) from rfl, I_div (by omega) (by omega)], I_lit, I_mul, I_sub]
  exact congrArg I (by omega)
theorem q_offerOf {x : Nat} (hx : x < 200) (σ : St) : s_X2_offerOf (I (x : Nat)) σ = some (aR (offD x), σ) := by
  unfold s_X2_offerOf offD
  rw [m100 (by omega), d10 (by omega), lt_eq]
  by_cases c : 100 ≤ x
  · rw [if_pos (by rw [I_lit, I_le (by omega) (by omega)]; omega), if_neg (show ¬ x < 100 by omega), if_pos hx]
    by_cases c2 : (x - 100) / 10 < 4
    · rw [if_neg (by rw [I_lit, I_le (by omega) (by omega)]; omega), if_pos c2, I_lit, I_add]
      exact congrArg (fun z => some (I z, σ)) (by omega)
    · rw [if_pos (by rw [I_lit, I_le (by omega) (by omega)]; omega), if_neg c2]
      rfl
  · rw [if_neg (by rw [I_lit, I_le (by omega) (by omega)]; omega), if_pos (show x < 100 by omega)]
    by_cases c2 : x / 10 < 8
    · rw [if_neg (by rw [I_lit, I_le (by omega) (by omega)]; omega), if_pos c2]
      exact congrArg (fun z => some (I z, σ)) (by omega)
    · rw [if_pos (by rw [I_lit, I_le (by omega) (by omega)]; omega), if_neg c2]
      rfl
theorem offD_lt {x o : Nat} (h : offD x = some o) : o < 12 := by
  unfold offD at h
  split at h
  · split at h
    · have := Option.some.inj h; omega
    · cases h
  · split at h
    · split at h
      · have := Option.some.inj h; omega
      · cases h
    · cases h
theorem q_hasHead3 {o f cc : Nat} (ho : o < 12) (hf : 3 ≤ f) (hf2 : f < 10) (σ : St) : s_X3_hasHead 13 (I (o : Nat)) (I (f : Nat)) (I (cc : Nat)) σ = some (0, σ) := by
  unfold s_X3_hasHead s_X3_isFace
  rw [if_neg (by rw [I_lit, I_lt (by omega) (by omega)]; omega), if_neg (by rw [I_lit, I_le (by omega) (by omega)]; omega), if_neg (by rw [I_lit, I_lt (by omega) (by omega)]; omega), if_pos (by rw [I_lit, I_le (by omega) (by omega)]; omega), bd_eq, if_pos rfl]
/-- nothing is visited once there is a verdict -/
def VZ (kg : Nat → Int32 → Int32 → Int32 → St → Option (Unit × St)) : Prop := ∀ σ x y z (v : Nat), SS σ → sI σ 29 2 = I (v : Nat) → v ≠ 0 → v ≤ 10 → kg 29 x y z σ = some ((), σ)
def VKx (ch κ : Nat → Nat) (N : Nat) (t : List Nat) (σ : St) : Prop := PG ch κ N σ ∧ CTr σ t
theorem VKx.fx {ch κ : Nat → Nat} {N : Nat} {t : List Nat} {σ σ' : St} (h : VKx ch κ N t σ) (hf : FX jC noC σ σ') : VKx ch κ N t σ' :=
  ⟨h.1.fx hf (fun a k h1 h2 q => by unfold jC at q; omega), h.2.fx hf (by unfold jC; omega) (fun k => by unfold jC; omega)⟩
def VK (ch κ : Nat → Nat) (N : Nat) (t : List Nat) (r : Nat) (kg : Nat → Int32 → Int32 → Int32 → St → Option (Unit × St)) : Prop := ∀ c s u dp σ, c < N → s < 256 → u ≤ t.length → dp ≤ 12 → VKx ch κ N t σ → JS σ (0, u, dp) →
  ∃ σ', kg 29 (I (c : Nat)) (I (s : Nat)) (I ((13 - r : Nat) : Int)) σ = some ((), σ') ∧ FX jC noC σ σ' ∧ JS σ' (vis ch t r (κ c) s u dp)
theorem visit_z {F : Nat} : VZ (s_X2_visit (F + 1)) := by
  intro σ x y z v hs hv h0 h10
  show sc_X2_visit (s_X2_visit F) 29 x y z σ = _
  unfold sc_X2_visit
  rw [if_pos (hs.o 2 29 (by decide)), hv, if_neg (by rw [I_z (by omega)]; exact h0)]
/-- one visit behind another -/
theorem vk_sq {ch κ : Nat → Nat} {N r : Nat} {t : List Nat} {kg : Nat → Int32 → Int32 → Int32 → St → Option (Unit × St)} (hk : VK ch κ N t r kg) (hz : VZ kg) {c s : Nat} (hc : c < N) (hs2 : s < 256) {a : VR} (ha : vok t a) {σ : St} (hx : VKx ch κ N t σ) (hj : JS σ a) :
    ∃ σ', kg 29 (I (c : Nat)) (I (s : Nat)) (I ((13 - r : Nat) : Int)) σ = some ((), σ') ∧ FX jC noC σ σ' ∧ JS σ' (sq a (fun u dp => vis ch t r (κ c) s u dp)) := by
  unfold sq
  by_cases c0 : a.1 = 0
  · rw [if_pos c0]
    have hj' : JS σ (0, a.2.1, a.2.2) := by
      obtain ⟨v, u, d⟩ := a
      change v = 0 at c0
      rw [c0] at hj
      exact hj
    exact hk c s a.2.1 a.2.2 σ hc hs2 ha.1 ha.2.1 hx hj'
  · rw [if_neg c0]
    exact ⟨σ, hz σ _ _ _ a.1 hx.1.1 hj.1 c0 (by have := ha.2.2; omega), FX.refl σ, hj⟩
theorem q_vAtom {ch κ : Nat → Nat} {N r : Nat} {t : List Nat} {kg : Nat → Int32 → Int32 → Int32 → St → Option (Unit × St)} (hk : VK ch κ N t r kg) (hr : r ≤ 11) (htk : Tok t) {cc s u dp : Nat} (hcc : isAt cc = true) (hs2 : s < 256) (hu : u ≤ t.length) (hd : dp ≤ 12) {σ : St} (hx : VKx ch κ N t σ) (hj : JS σ (0, u, dp)) :
    ∃ σ', s_X2_visitAtom kg 29 (I (cc : Nat)) (I (s : Nat)) (I ((12 - r : Nat) : Int)) σ = some ((), σ') ∧ FX jC noC σ σ' ∧ JS σ' (if t.length ≤ u then (2, u, dp) else vAt ch (fun p r' => vis ch t r p r' (u + 1) dp) cc s u dp (t.getD u 0)) := by
  have hs := hx.1.1
  have hl := htk.1
  have ho := hs.o 2 29 (by decide)
  have hj1 : sI σ 29 3 = I (u : Nat) := hj.2.1
  unfold s_X2_visitAtom
  rw [if_pos ho, hs.p 29 1 27 (by decide), op_eq, if_pos (hs.o 8 27 (by decide)), hj1, q_at8 hs hx.2 hl (by omega), bd_eq, if_pos ho, q_lacks hs hx.2 hl hj (by omega)]
  by_cases c : t.length ≤ u
  · rw [if_pos c, if_pos c, bd_eq, if_neg (by decide)]
    obtain ⟨a1, a2⟩ := hj.v 2
    rw [if_pos c]
    exact ⟨_, rfl, a2, a1⟩
  · rw [if_neg c, if_neg c, bd_eq, if_pos rfl]
    have hx5 := htk.2 _ (getD_mem (show u < t.length by omega))
    rw [if_neg c]
    generalize t.getD u 0 = x at *
    obtain ⟨b1, b2⟩ := hj.v 3
    have ref : ∀ a5 a6 a7 : Int32, s_X2_visitAtom_99 kg 29 (I ((12 - r : Nat) : Int)) a5 a6 a7 29 σ = some ((), setI σ 29 2 (I (3 : Nat))) := by
      intro a5 a6 a7
      unfold s_X2_visitAtom_99 s_X2_visitAtom_100
      rw [if_pos ho, q_ref0 hs, bd_eq, if_neg (by decide)]
    by_cases c2 : 200 ≤ x
    · rw [if_pos (by rw [I_lit, I_le (by omega) (by omega)]; omega)]
      unfold s_X2_visitAtom_34
      rw [if_pos ho, q_ref0 hs, bd_eq, if_neg (by decide)]
      have e : offD x = none := by unfold offD; rw [if_neg (by omega), if_neg (by omega)]
      unfold vAt
      rw [e]
      exact ⟨_, rfl, b2, b1⟩
    · rw [if_neg (by rw [I_lit, I_le (by omega) (by omega)]; omega)]
      unfold s_X2_visitAtom_34 vAt
      rw [if_pos ho, q_ref1, bd_eq, if_pos rfl, q_offerOf (by omega), bd_eq, d10 (by omega), r10, lt_eq]
      cases eo : offD x with
      | none =>
        rw [show aR none = I (-1) from rfl, if_pos (by decide)]
        unfold s_X2_visitAtom_71
        rw [if_pos rfl, ref]
        exact ⟨_, rfl, b2, b1⟩
      | some o =>
        have ho12 := offD_lt eo
        rw [show aR (some o) = I (o : Nat) from rfl, if_neg (by rw [show (-1 : Int32) = I (-1) from rfl, I_eq (by omega) (by omega)]; omega), q_afterUse ho12 (by omega), bd_eq]
        show ∃ σ', _ ∧ _ ∧ JS σ' (if x % 10 < 3 then vAtF ch (fun p r' => vis ch t r p r' (u + 1) dp) cc s u dp o (x % 10) else (3, u, dp))
        unfold s_X2_visitAtom_71
        cases ea : afU o s with
        | none =>
          rw [show aR none = I (-1) from rfl, if_pos (by decide), ref]
          have e3 : (if x % 10 < 3 then vAtF ch (fun p r' => vis ch t r p r' (u + 1) dp) cc s u dp o (x % 10) else (3, u, dp)) = (3, u, dp) := by
            split
            · unfold vAtF; rw [ea]
            · rfl
          rw [e3]
          exact ⟨_, rfl, b2, b1⟩
        | some r' =>
          have hr2 : r' < 256 := by
            unfold afU at ea
            by_cases c8 : 8 ≤ o
            · rw [if_pos c8] at ea; obtain rfl := Option.some.inj ea; exact hs2
            · rw [if_neg c8] at ea
              by_cases cb : s.testBit o = true
              · rw [if_pos cb] at ea; obtain rfl := Option.some.inj ea; exact xor_lt hs2 (pow8 (by omega))
              · rw [if_neg cb] at ea; cases ea
          rw [show aR (some r') = I (r' : Nat) from rfl, if_neg (by rw [show (-1 : Int32) = I (-1) from rfl, I_eq (by omega) (by omega)]; omega), if_pos ho, hs.p 29 0 13 (by decide), op_eq, if_pos (hs.o 3 13 (by decide))]
          by_cases c3 : x % 10 < 3
          · rw [if_pos c3, q_hasHead hx.1 ho12 c3 hcc, bd_eq]
            unfold vAtF
            rw [ea]
            show ∃ σ', _ ∧ _ ∧ JS σ' (match fp ch o (x % 10) with
              | none => (3, u, dp)
              | some q => if ch q = cc then (if ch (q + 1) = 60 then vis ch t r (q + 2) r' (u + 1) dp else if r' = 0 then (0, u + 1, dp) else (4, u + 1, dp)) else (3, u, dp))
            cases e : fp ch o (x % 10) with
            | none =>
              have eh : hdIs ch o (x % 10) cc = false := by unfold hdIs; rw [e]
              rw [eh, if_pos (by decide), ref]
              exact ⟨_, rfl, b2, b1⟩
            | some q =>
              have eh : hdIs ch o (x % 10) cc = decide (ch q = cc) := by unfold hdIs; rw [e]
              show ∃ σ', _ ∧ _ ∧ JS σ' (if ch q = cc then (if ch (q + 1) = 60 then vis ch t r (q + 2) r' (u + 1) dp else if r' = 0 then (0, u + 1, dp) else (4, u + 1, dp)) else (3, u, dp))
              rw [eh]
              by_cases c4 : ch q = cc
              · obtain ⟨d1, d2⟩ := hj.u (u + 1)
                have hx2 := hx.fx d2
                have hsx := hx2.1.1
                have hb := (hx2.1.face ho12 c3 e).2
                rw [if_neg (by rw [bI0, decide_eq_true c4]; decide), if_pos c4]
                unfold s_X2_visitAtom_100
                rw [if_pos ho, q_ref1, bd_eq, if_pos rfl, if_pos ho, hj1, I_p1, lt_eq, hsx.p 29 0 13 (by decide), op_eq, if_pos (hsx.o 3 13 (by decide)), q_body hx2.1 ho12 c3, bd_eq]
                by_cases h6 : ch (q + 1) = 60
                · rw [if_pos h6] at hb ⊢
                  obtain ⟨c1, g1, g2, g3⟩ := hb
                  have hN := hx.1.2.1
                  obtain ⟨σ2, w1, w2, w3⟩ := hk c1 r' (u + 1) dp _ g1 hr2 (by omega) hd hx2 d1
                  rw [g2, if_neg (by rw [show (-1 : Int32) = I (-1) from rfl, I_eq (by omega) (by omega)]; omega), if_pos (hsx.o 2 29 (by decide)), I_p1, show 12 - r + 1 = 13 - r by omega, w1, bd_eq]
                  rw [g3] at w3
                  exact ⟨σ2, rfl, d2.trans w2, w3⟩
                · rw [if_neg h6] at hb ⊢
                  rw [hb, if_pos (by decide), if_pos (hsx.o 2 29 (by decide)), q_empty hsx hr2]
                  by_cases c0 : r' = 0
                  · rw [if_pos c0, bd_eq, if_pos c0]
                    exact ⟨_, rfl, d2, d1⟩
                  · rw [if_neg c0, bd_eq, if_neg c0]
                    obtain ⟨e1, e2⟩ := d1.v 4
                    exact ⟨_, rfl, d2.trans e2, e1⟩
              · rw [if_pos (by rw [bI0]; exact decide_eq_false c4), ref, if_neg c4]
                exact ⟨_, rfl, b2, b1⟩
          · rw [if_neg c3, q_hasHead3 ho12 (by omega) (by omega), bd_eq, if_pos rfl, ref]
            exact ⟨_, rfl, b2, b1⟩
theorem q_vSplit {ch κ : Nat → Nat} {N r : Nat} {t : List Nat} {kg : Nat → Int32 → Int32 → Int32 → St → Option (Unit × St)} (hk : VK ch κ N t r kg) (hz : VZ kg) (hr : r ≤ 11) (htk : Tok t) {c s u dp : Nat} (hc : c < N) (h4 : ch (κ c) = 40) (hs2 : s < 256) (hu : u ≤ t.length) (hd : dp ≤ 12) {σ : St} (hx : VKx ch κ N t σ) (hj : JS σ (0, u, dp)) :
    ∃ σ', s_X2_visitSplit kg 29 (I (c : Nat)) (I (s : Nat)) (I ((12 - r : Nat) : Int)) σ = some ((), σ') ∧ FX jC noC σ σ' ∧ JS σ' (if t.length ≤ u then (2, u, dp) else if 200 ≤ t.getD u 0 ∧ (t.getD u 0 - 200) &&& s = t.getD u 0 - 200 then sq (vis ch t r (ch1 ch (κ c)) (t.getD u 0 - 200) (u + 1) dp) (fun u' dp' => vis ch t r (ch2 ch (κ c)) (s ^^^ (t.getD u 0 - 200)) u' dp') else (3, u, dp)) := by
  have hs := hx.1.1
  have hl := htk.1
  have ho := hs.o 2 29 (by decide)
  have hj1 : sI σ 29 3 = I (u : Nat) := hj.2.1
  unfold s_X2_visitSplit
  rw [if_pos ho, hs.p 29 1 27 (by decide), op_eq, if_pos (hs.o 8 27 (by decide)), hj1, q_at8 hs hx.2 hl (by omega), bd_eq, lt_eq, if_pos ho, q_lacks hs hx.2 hl hj (by omega)]
  by_cases c0 : t.length ≤ u
  · rw [if_pos c0, if_pos c0, bd_eq, if_neg (by decide)]
    obtain ⟨a1, a2⟩ := hj.v 2
    rw [if_pos c0]
    exact ⟨_, rfl, a2, a1⟩
  · rw [if_neg c0, if_neg c0, bd_eq, if_pos rfl]
    have hx5 := htk.2 _ (getD_mem (show u < t.length by omega))
    rw [if_neg c0]
    generalize t.getD u 0 = x at *
    obtain ⟨b1, b2⟩ := hj.v 3
    have ref : ∀ a4 : Int32, s_X2_visitSplit_43 kg 29 (I (c : Nat)) (I (s : Nat)) (I ((12 - r : Nat) : Int)) a4 29 σ = some ((), setI σ 29 2 (I (3 : Nat))) := by
      intro a4
      unfold s_X2_visitSplit_43 s_X2_visitSplit_44
      rw [if_pos ho, q_ref0 hs, bd_eq, if_neg (by decide)]
    have e200 : I (x : Nat) - 200 = I ((x : Int) - 200) := by rw [I_lit, I_sub]
    rw [e200]
    by_cases c2 : 200 ≤ x
    · have e3 : I ((x : Int) - 200) = I ((x - 200 : Nat) : Int) := congrArg I (by omega)
      rw [if_neg (by rw [I_lit, I_lt (by omega) (by omega)]; omega), e3]
      by_cases c3 : (x - 200) &&& s = x - 200
      · have hps : x - 200 < 256 := by have := sub_le c3; omega
        obtain ⟨d1, d2⟩ := hj.u (u + 1)
        have hx2 := hx.fx d2
        have hsx := hx2.1.1
        obtain ⟨c1, p1, p2, p3⟩ := hx2.1.one hc (Or.inr (Or.inl h4))
        obtain ⟨σ2, w1, w2, w3⟩ := hk c1 (x - 200) (u + 1) dp _ p1 hps (by omega) hd hx2 d1
        have hx3 := hx2.fx w2
        obtain ⟨c2', p4, p5, p6⟩ := hx3.1.two hc h4
        obtain ⟨σ3, y1, y2, y3⟩ := vk_sq hk hz p4 (xor_lt hs2 hps) (vis_ok (by omega) hd) hx3 w3
        rw [if_pos ((I_dif0 (by omega)).2 c3), if_pos ⟨c2, c3⟩]
        unfold s_X2_visitSplit_44
        rw [if_pos ho, q_ref1, bd_eq, if_pos rfl, if_pos ho, hj1, I_p1, lt_eq, hsx.p 29 0 13 (by decide), op_eq, if_pos (hsx.o 3 13 (by decide)), q_first hx2.1 hc, bd_eq, if_pos (hsx.o 2 29 (by decide)), I_p1, show 12 - r + 1 = 13 - r by omega, p2, w1, bd_eq, if_pos (hx3.1.1.o 2 29 (by decide)), hx3.1.1.p 29 0 13 (by decide), op_eq, if_pos (hx3.1.1.o 3 13 (by decide)), q_second hx3.1 hc, bd_eq, if_pos (hx3.1.1.o 2 29 (by decide)), I_xor, p5, y1, bd_eq]
        rw [p3, p6] at y3
        exact ⟨σ3, rfl, (d2.trans w2).trans y2, y3⟩
      · rw [if_neg (fun q => c3 ((I_dif0 (by omega)).1 q)), ref, if_neg (fun q => c3 q.2)]
        exact ⟨_, rfl, b2, b1⟩
    · rw [if_pos (by rw [I_lit, I_lt (by omega) (by omega)]; omega), ref, if_neg (fun q => c2 q.1)]
      exact ⟨_, rfl, b2, b1⟩
theorem q_vChoice {ch κ : Nat → Nat} {N r : Nat} {t : List Nat} {kg : Nat → Int32 → Int32 → Int32 → St → Option (Unit × St)} (hk : VK ch κ N t r kg) (hr : r ≤ 11) (htk : Tok t) {c s u dp : Nat} (hc : c < N) (h4 : ch (κ c) = 40) (hs2 : s < 256) (hu : u ≤ t.length) (hd : dp ≤ 12) {σ : St} (hx : VKx ch κ N t σ) (hj : JS σ (0, u, dp)) :
    ∃ σ', s_X2_visitChoice kg 29 (I (c : Nat)) (I (s : Nat)) (I ((12 - r : Nat) : Int)) σ = some ((), σ') ∧ FX jC noC σ σ' ∧ JS σ' (if t.length ≤ u then (2, u, dp) else if t.getD u 0 = 300 then vis ch t r (ch1 ch (κ c)) s (u + 1) dp else if t.getD u 0 = 301 then vis ch t r (ch2 ch (κ c)) s (u + 1) dp else (3, u, dp)) := by
  have hs := hx.1.1
  have hl := htk.1
  have ho := hs.o 2 29 (by decide)
  have hj1 : sI σ 29 3 = I (u : Nat) := hj.2.1
  unfold s_X2_visitChoice
  rw [if_pos ho, hs.p 29 1 27 (by decide), op_eq, if_pos (hs.o 8 27 (by decide)), hj1, q_at8 hs hx.2 hl (by omega), bd_eq, if_pos ho, q_lacks hs hx.2 hl hj (by omega)]
  by_cases c0 : t.length ≤ u
  · rw [if_pos c0, if_pos c0, bd_eq, if_neg (by decide)]
    obtain ⟨a1, a2⟩ := hj.v 2
    rw [if_pos c0]
    exact ⟨_, rfl, a2, a1⟩
  · rw [if_neg c0, if_neg c0, bd_eq, if_pos rfl]
    have hx5 := htk.2 _ (getD_mem (show u < t.length by omega))
    rw [if_neg c0]
    generalize t.getD u 0 = x at *
    obtain ⟨b1, b2⟩ := hj.v 3
    obtain ⟨d1, d2⟩ := hj.u (u + 1)
    have hx2 := hx.fx d2
    have hsx := hx2.1.1
    obtain ⟨c1, p1, p2, p3⟩ := hx2.1.one hc (Or.inr (Or.inl h4))
    obtain ⟨c2, p4, p5, p6⟩ := hx2.1.two hc h4
    unfold s_X2_visitChoice_42 s_X2_visitChoice_87
    by_cases c1' : x = 300
    · subst c1'
      obtain ⟨σ2, w1, w2, w3⟩ := hk c1 s (u + 1) dp _ p1 hs2 (by omega) hd hx2 d1
      rw [if_pos (by decide), if_pos ho, q_ref1, bd_eq, if_pos rfl, if_pos ho, hj1, I_p1, lt_eq, if_pos (by decide), hsx.p 29 0 13 (by decide), op_eq, if_pos (hsx.o 3 13 (by decide)), q_first hx2.1 hc, bd_eq, if_pos (hsx.o 2 29 (by decide)), I_p1, show 12 - r + 1 = 13 - r by omega, p2, w1, bd_eq, if_pos rfl]
      rw [p3] at w3
      exact ⟨σ2, rfl, d2.trans w2, w3⟩
    · rw [if_neg (by rw [I_lit, I_eq (by omega) (by omega)]; omega), if_neg c1']
      by_cases c2' : x = 301
      · subst c2'
        obtain ⟨σ2, w1, w2, w3⟩ := hk c2 s (u + 1) dp _ p4 hs2 (by omega) hd hx2 d1
        rw [if_pos (by decide), if_pos ho, q_ref1, bd_eq, if_pos rfl, if_pos ho, hj1, I_p1, lt_eq, if_neg (by decide), hsx.p 29 0 13 (by decide), op_eq, if_pos (hsx.o 3 13 (by decide)), q_second hx2.1 hc, bd_eq, if_pos (hsx.o 2 29 (by decide)), I_p1, show 12 - r + 1 = 13 - r by omega, p5, w1, bd_eq, if_pos rfl]
        rw [p6] at w3
        exact ⟨σ2, rfl, d2.trans w2, w3⟩
      · rw [if_neg (by rw [I_lit, I_eq (by omega) (by omega)]; omega), if_neg c2', if_pos ho, q_ref0 hs, bd_eq, if_neg (by decide)]
        exact ⟨_, rfl, b2, b1⟩
