section PNU
variable {b : Nat → Nat} {n : Nat} {g r : PH}
/-! both, with an error or without -/
def Jo (b : Nat → Nat) (n : Nat) (g r : PH) : Option Nat → Prop
  | some p => JT b n g r p
  | none => JB b n g r
theorem Jo.base {o : Option Nat} (J : Jo b n g r o) : CB b n g ∧ RB b n r := by
  cases o with
  | none => exact ⟨J.1, J.2.1⟩
  | some p => exact ⟨J.1, J.2.1⟩
end PNU
