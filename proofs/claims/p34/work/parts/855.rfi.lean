/-! THE REFERENCE'S SEARCH -/
def S3 (a : Nat) : Prop := a = 124 ∨ a = 165
section RFI
variable {h : PH} {N : NT} {P : PT}
theorem cB_ne {st : Option (Nat × Int)} (h : ∀ c w, st = some (c, w) → c < 4000) : cB st = (-1 : Int32) ↔ st = none := by
  cases st with
  | none => exact ⟨fun _ => rfl, fun _ => rfl⟩
  | some p =>
    obtain ⟨c, w⟩ := p
    have := h c w rfl
    exact ⟨fun z => absurd z (eA_ne (x := c) (by omega)), fun z => by cases z⟩
def lB (st : Option (Nat × Int)) (v : Int32) : Prop := ∀ c w, st = some (c, w) → v = zi w
/-! the best place found, made -/
/-- the plan with the best insertion of e -/
def bpl (P : PT) (e c : Nat) : PT := setT P (c / 1000) (pL P (c / 1000) + 1) (insA (pA P (c / 1000)) (c % 1000 / 10) (2 * e + c % 10))
theorem code_dec {t k s : Nat} (hk : k ≤ 13) (hs : s < 2) : (1000 * t + 10 * k + s) / 1000 = t ∧ (1000 * t + 10 * k + s) % 1000 / 10 = k ∧ (1000 * t + 10 * k + s) % 10 = s := by omega
theorem dec_c {c : Nat} (h : c < 4000) : nI c / (1000 : Int32) = nI (c / 1000) ∧ (nI c - nI c / (1000 : Int32) * (1000 : Int32)) / (10 : Int32) = nI (c % 1000 / 10) ∧ nI c - nI c / (10 : Int32) * (10 : Int32) = nI (c % 10) := by
  rw [i1000, i10]
  refine ⟨nI_div (by omega) (by omega), ?_, nI_mod (by omega) (by omega) (by omega)⟩
  rw [nI_mod (by omega) (by omega) (by omega), nI_div (by omega) (by omega)]
end RFI
