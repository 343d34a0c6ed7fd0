/-! ODD NODES AND THE CHEAPEST PAIRS -/
def odd (N : NT) : Nat → Nat
  | 0 => 0
  | e + 1 => if 0 < wDe N e then (odd N e ^^^ 2 ^ wTl N (2 * e)) ^^^ 2 ^ wTl N (2 * e + 1) else odd N e
theorem bit_1 : ∀ s, s < 256 → ∀ i, i < 8 → ((nI s >>> (nI i &&& 31)) &&& (1 : Int32)) = if s.testBit i then 1 else 0 := by decide +kernel
theorem bit_2 : ∀ s, s < 256 → ∀ i, i < 8 → nI s &&& (((1 : Int32) <<< (nI i &&& 31)) ^^^ (-1 : Int32)) = nI (if s.testBit i then s - 2 ^ i else s) := by decide +kernel
theorem bit_3 : ∀ s, s < 256 → ∀ i, i < 8 → s.testBit i = true → cnt (s - 2 ^ i).testBit 8 + 1 = cnt s.testBit 8 := by decide +kernel
theorem bit_4b : ∀ s, s < 256 → ∀ i, i < 8 → ∀ j, j < 8 → (!(s.testBit i) || Nat.beq j i || ((s - 2 ^ i).testBit j == s.testBit j)) = true := by decide +kernel
theorem bit_4 {s i j : Nat} (hs : s < 256) (hi : i < 8) (hj : j < 8) (h1 : s.testBit i = true) (h2 : j ≠ i) : (s - 2 ^ i).testBit j = s.testBit j := by
  have h := bit_4b s hs i hi j hj
  rw [h1, show Nat.beq j i = false from Bool.eq_false_iff.mpr (fun z => h2 (Nat.eq_of_beq_eq_true z))] at h
  exact eq_of_beq h
theorem bit_5 : ∀ s, s < 256 → ∀ v, v < 8 → nI s ^^^ ((1 : Int32) <<< (nI v &&& 31)) = nI (s ^^^ 2 ^ v) ∧ s ^^^ 2 ^ v < 256 := by decide +kernel
theorem bit_6 : ∀ i, i < 8 → ∀ j, j < 8 → ((((1 : Int32) <<< (nI i &&& 31)) ||| ((1 : Int32) <<< (nI j &&& 31))) ^^^ (-1 : Int32)) = (((1 : Int32) <<< (nI i &&& 31)) ^^^ (-1 : Int32)) &&& (((1 : Int32) <<< (nI j &&& 31)) ^^^ (-1 : Int32)) := by decide +kernel
theorem bit_7 : ∀ s, s < 256 → s ≠ 0 → ∃ i, i < 8 ∧ s.testBit i = true := by decide +kernel
theorem bit_8 : ∀ s, s < 256 → cnt s.testBit 8 = 0 → s = 0 := by decide +kernel
