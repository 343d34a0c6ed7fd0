/-! THE REFERENCE'S NETWORK AND ROUTES -/
section RRT
variable {h : PH} {N : NT}
theorem r_mod {x : Nat} (hx : x < 100) : nI x - nI x / (2 : Int32) * (2 : Int32) = nI (x % 2) := by
  rw [i2]
  exact nI_mod (by omega) (by omega) (by omega)
theorem r_half {x : Nat} (hx : x < 100) : nI x / (2 : Int32) = nI (x / 2) := by
  rw [i2]
  exact nI_div (by omega) (by omega)
theorem r_num {j : Nat} (hj : j < 1556) : ald 1556 h 124 (nI j) = some (h.1 124 j) := ald_in (by omega) hj
def S137 (a : Nat) : Prop := 137 ≤ a ∧ a ≤ 164
end RRT
