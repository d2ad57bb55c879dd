/-! the reference's answers from the first proof -/
def fpL (ch sl : Nat → Nat) : List Nat := wr ch (hgt ch (all5 sl)) 0 (all5 sl)
theorem fpL_len (ch sl : Nat → Nat) : (fpL ch sl).length ≤ 1023 := by
  have h := wr_len (ch := ch) (h := hgt ch (all5 sl)) (p := 0) (s := all5 sl)
  have hp10 : 2 ^ hgt ch (all5 sl) ≤ 2 ^ 10 := Nat.pow_le_pow_right (by decide) (hgt_le ch (all5 sl))
  unfold fpL
  omega
theorem getD_some {l : List Nat} {i : Nat} (h : i < l.length) : l[i]? = some (l.getD i 0) := by
  rw [List.getD_eq_getElem?_getD, List.getElem?_eq_getElem h]
  rfl
theorem getD_mem {l : List Nat} {i : Nat} (h : i < l.length) : l.getD i 0 ∈ l := List.mem_of_getElem? (getD_some h)
def termA (ch sl : Nat → Nat) (i : Int) : Int32 := if -1 ≤ i then (if sl 0 = 0 then I (-3) else if 0 < hgt ch (all5 sl) then (if i = -1 then I ((fpL ch sl).length : Nat) else if i < (fpL ch sl).length then I ((fpL ch sl).getD i.toNat 0 : Nat) else I (-6)) else I (-6)) else I (-2)
/-! how often an offer is used -/
def cntL (f : Nat → Bool) (l : List Nat) : Nat → Nat
  | 0 => 0
  | k + 1 => cntL f l k + if f (l.getD k 0) = true then 1 else 0
def usF (t n x : Nat) : Bool := decide (x < 200 ∧ x / 10 = 10 * t + n)
theorem fpL_num (ch sl : Nat → Nat) : ∀ x ∈ fpL ch sl, x < 500 := wr_num
def usesA (ch sl : Nat → Nat) (t n : Int) : Int32 := if 0 ≤ t ∧ t ≤ 1 then (if 0 ≤ n ∧ n ≤ (if t = 0 then 7 else 3) then (if sl 0 = 0 then I (-3) else I (cntL (usF t.toNat n.toNat) (fpL ch sl) (fpL ch sl).length : Nat)) else I (-1)) else I (-2)
