def wkC : Nat → Nat → Prop := fun a k => lyC a k ∨ ckC a k
def chkA (ch sl : Nat → Nat) (t : List Nat) (z : Int) : Int32 := if 0 ≤ z ∧ z ≤ 2 then (if sl 0 = 0 then I (-3) else if z = 0 then I (chkR ch sl t : Nat) else if z = 1 then I ((chkV ch sl t).2.1 : Nat) else I ((chkV ch sl t).2.2 : Nat)) else I (-2)
theorem q_checked {ch sl : Nat → Nat} (hg : GI ch sl) (h0 : sl 0 ≠ 0) {σ : St} {t : List Nat} (htk : Tok t) (hm : MT ch sl σ) (ho : MOld ch sl σ) (ht : MTr σ t) :
    ∃ σ', s_X11_checked 30 σ = some (I (chkR ch sl t : Nat), σ') ∧ Fr wkC σ σ' ∧ MT ch sl σ' ∧ MOld ch sl σ' ∧ KS σ' (chkV ch sl t).2.1 (chkV ch sl t).2.2 := by
  obtain ⟨htx, hv, hN, hL⟩ := hg
  obtain ⟨σ1, κ, a1, a2, a3, a4⟩ := q_lay htx hv hN hL hm ho
  have ha := all5_lt sl
  have hl := htk.1
  have f2 : Fr ckC σ1 (setI (setI (setI σ1 30 31 0) 30 32 0) 30 30 0) := (((Fr.refl σ1).put _ (Or.inl ⟨rfl, Or.inr (Or.inl rfl)⟩)).put _ (Or.inl ⟨rfl, Or.inr (Or.inr rfl)⟩)).put _ (Or.inl ⟨rfl, Or.inl rfl⟩)
  have ht1 := ht.fr a2 (by unfold lyC mF; omega) (fun k => by unfold lyC mF; omega)
  have mtc : ∀ {x y : St}, MT ch sl x → Fr ckC x y → MT ch sl y := fun hx hf => hx.fr hf (fun k => by unfold ckC; omega)
  have mlc : ∀ {x y : St}, Mly ch sl x κ → Fr ckC x y → Mly ch sl y κ := fun hx hf => hx.fx (hf.fx noC) (fun k hk => by unfold ckC; omega) (fun a k h1 h2 => by unfold ckC; omega) (fun k => by unfold ckC; omega)
  have b3 := mtc a3 f2
  have b4 := mlc a4 f2
  have hob := b3.1.o 11 30 (by decide)
  obtain ⟨r1, r2, r3⟩ := b4.2.1.2.2.2 h0
  have hmk : MK ch κ (tot (nN ch sl) 99 10) t (setI (setI (setI σ1 30 31 0) 30 32 0) 30 30 0) := ⟨⟨b3.1, hN, b4.2.1.1, b4.2.1.2.2.1, htx.2⟩, ht1.fr f2 (by unfold ckC; omega) (fun k => by unfold ckC; omega)⟩
  have hd0 : sI (setI (setI (setI σ1 30 31 0) 30 32 0) 30 30 0) 30 30 = I ((0 : Nat) : Int) := sIe
  have hk0 : KS (setI (setI (setI σ1 30 31 0) 30 32 0) 30 30 0) 0 0 := ⟨by rw [sIn (by omega), sIn (by omega), sIe]; rfl, by rw [sIn (by omega), sIe]; rfl⟩
  obtain ⟨σ2, w1, w2, w3, w4, σ3, n, y1, y2, y3, y4⟩ := pc_one (q_pc (ch := ch) (κ := κ) (N := tot (nN ch sl) 99 10) htk 12 (by omega)) (c := 0) (s := all5 sl) (d := 0) (u := 0) (dp := 0) (by omega) (by omega) (Nat.zero_le _) (by omega) hmk hd0 (by omega) hk0
  rw [r2] at y2 y4
  change KS σ3 (chkV ch sl t).2.1 (chkV ch sl t).2.2 at y2
  have hvok := vis_ok (ch := ch) (t := t) (r := 12) (p := 0) (s := all5 sl) (u := 0) (dp := 0) (Nat.zero_le _) (by omega)
  change vok t (chkV ch sl t) at hvok
  obtain ⟨v1, v2, v3⟩ := hvok
  have hm3 := mtc b3 y3
  have ht3 := hmk.2.fr y3 (by unfold ckC; omega) (fun k => by unfold ckC; omega)
  have w1' : s_X11_await 30 (I ((0 : Nat) : Int)) (I (all5 sl : Nat)) 1 (setI (setI (setI σ1 30 31 0) 30 32 0) 30 30 0) = some ((), σ2) := w1
  unfold s_X11_checked
  rw [if_pos (hm.1.o 11 30 (by decide)), a1, bd_eq, if_pos (a3.1.o 11 30 (by decide)), lt_eq, lt_eq, lt_eq, q_all b3 htx, bd_eq, if_pos hob, r1, w1', bd_eq]
  refine ⟨σ3, ?_, ((a2.mono (fun a k q => Or.inl q)).trans (f2.mono (fun a k q => Or.inr q))).trans (y3.mono (fun a k q => Or.inr q)), hm3, Or.inr ⟨κ, mlc b4 y3⟩, y2⟩
  have hn : n + 1 ≤ 8192 := y1
  unfold chkR
  rcases y4 with ⟨g1, g2, g3, g4⟩ | ⟨g1, g2⟩
  · change (chkV ch sl t).1 = 0 at g1
    have := g2 (16000 - n)
    rw [show 16000 - n + n = 16000 by omega] at this
    rw [this, show 16000 - n = (16000 - n - 1) + 1 by omega, if_pos g1]
    show sb_X11_checked_32 (s_X11_checked_32 (16000 - n - 1)) 30 σ3 = _
    unfold sb_X11_checked_32
    rw [if_pos (hm3.1.o 11 30 (by decide)), g3, if_pos (by decide), ht3.1, y2.1]
    by_cases c1 : t.length ≤ (chkV ch sl t).2.1
    · rw [if_pos (by rw [I_le (by omega) (by omega)]; omega), if_pos c1]; rfl
    · rw [if_neg (by rw [I_le (by omega) (by omega)]; omega), if_neg c1]; rfl
  · change (chkV ch sl t).1 ≠ 0 at g1
    have := g2 (16000 - n)
    rw [show 16000 - n + n = 16000 by omega] at this
    rw [this, if_neg g1]
    rfl
theorem m_check {ch sl : Nat → Nat} (hg : GI ch sl) {σ : St} {t : List Nat} (htk : Tok t) (hm : MT ch sl σ) (ho : MOld ch sl σ) (ht : MTr σ t) {z : Int} (hz : -2147483648 ≤ z ∧ z < 2147483648) : askM ch sl wkC σ (s_X11_check 30 (I z) σ) (chkA ch sl t z) := by
  have htx := hg.1
  unfold s_X11_check chkA askM
  rw [show s_X11_in (I z) 0 2 σ = some (bI (decide (0 ≤ z ∧ z ≤ 2)), σ) from q_inb hz (a := 0) (b := 2) (by omega) (by omega) σ, bd_eq]
  by_cases c : 0 ≤ z ∧ z ≤ 2
  · rw [if_neg (by rw [bI0, decide_eq_true c]; decide), if_pos (hm.1.o 11 30 (by decide)), q_isGoal hm htx, bd_eq, if_pos c]
    by_cases c0 : sl 0 = 0
    · rw [if_pos (by rw [bI0]; exact decide_eq_false (fun q => q c0)), if_pos c0]
      exact ⟨σ, rfl, Fr.refl σ, hm, ho⟩
    · obtain ⟨σ1, a1, a2, a3, a4, a5⟩ := q_checked hg c0 htk hm ho ht
      rw [if_neg (by rw [bI0, decide_eq_true c0]; decide), if_pos (hm.1.o 11 30 (by decide)), a1, bd_eq, if_neg c0]
      by_cases c1 : z = 0
      · rw [if_pos (by rw [c1]; rfl), if_pos c1]
        exact ⟨σ1, rfl, a2, a3, a4⟩
      · rw [if_neg (by rw [show (0 : Int32) = I 0 from rfl, I_eq hz (by omega)]; exact c1), if_neg c1]
        by_cases c2 : z = 1
        · rw [if_pos (by rw [c2]; rfl), if_pos c2, if_pos (a3.1.o 11 30 (by decide)), a5.1]
          exact ⟨σ1, rfl, a2, a3, a4⟩
        · rw [if_neg (by rw [show (1 : Int32) = I 1 from rfl, I_eq hz (by omega)]; exact c2), if_neg c2, if_pos (a3.1.o 11 30 (by decide)), a5.2]
          exact ⟨σ1, rfl, a2, a3, a4⟩
  · rw [if_pos (by rw [bI0]; exact decide_eq_false c), if_neg c]
    exact ⟨σ, rfl, Fr.refl σ, hm, ho⟩
