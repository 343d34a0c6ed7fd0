/-! A CHAIN OF PIECES AND OPERATIONS: terms of factors, sums of terms -/
section CHN
variable {b : Nat → Nat} {n : Nat} {g r : PH}
def opC (o : Nat) : Prop := 2 ≤ o ∧ o ≤ 5 ∧ sgn o < 256 ∧ isD (sgn o) = false ∧ isL (sgn o) = false
theorem opC_ok : ∀ o, 2 ≤ o → o ≤ 5 → opC o := fun o h1 h2 => by
  have : o = 2 ∨ o = 3 ∨ o = 4 ∨ o = 5 := by omega
  rcases this with rfl | rfl | rfl | rfl <;> exact ⟨by omega, by omega, by decide, rfl, rfl⟩
end CHN
