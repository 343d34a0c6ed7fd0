/-! THE REFERENCE'S COPIES, CHANGES AND GAINS -/
section RGA
variable {h : PH} {N : NT} {P : PT}
theorem laid_ag2 {f g : Nat → Int32} : ∀ {p : Nat} {l : List Stq}, (∀ j, p ≤ j → j < p + offs l → g j = f j) → laid f p l → laid g p l
  | _, [], _, _ => trivial
  | p, s :: t, e, h => by
    obtain ⟨a, b, c⟩ := h
    have hs : offs (s :: t) = wdt s + offs t := rfl
    have h1 := wdt_pos s
    refine ⟨by rw [e p (by omega) (by omega)]; exact a, fun z => ?_, laid_ag2 (fun j hj1 hj2 => e j (by omega) (by omega)) c⟩
    have h2 : wdt s = 2 := by unfold wdt; rw [if_pos z]
    rw [e (p + 1) (by omega) (by omega)]
    exact b z
def S4 (a : Nat) : Prop := a = 124 ∨ a = 165 ∨ a = 126
theorem S3_4 {h1 h2 : PH} (f : Fr S3 h1 h2) : Fr S4 h1 h2 := f.mono (fun i hi => by unfold S3 at hi; unfold S4; omega)
end RGA
