/-! THE TWO EVALUATORS OF THE SERVICE EXPRESSION -/
theorem nI_m1 (n : Nat) : nI (n + 1) + (-1 : Int32) = nI n := by
  show nI (n + 1) + zi (-1) = nI n
  rw [nI_zi, nI_zi, zi_add]
  congr 1
  omega
theorem offs_len : ∀ (l : List Stq), l.length ≤ offs l
  | [] => Nat.le_refl _
  | s :: t => by
    have := offs_len t
    show t.length + 1 ≤ wdt s + offs t
    unfold wdt
    split <;> omega
theorem wdt_pos (s : Stq) : 1 ≤ wdt s := by unfold wdt; split <;> omega
theorem evs_op {c d : Int} {s : Stq} {t : List Stq} {st z : List Int} (hs : ¬ s.1 ≤ 1) (h : evs c d (s :: t) st = some z) : ∃ b a r, st = b :: a :: r ∧ evs c d t (apo s.1 a b :: r) = some z := by
  unfold evs at h
  rw [if_neg hs] at h
  match st, h with
  | [], h => cases h
  | [_], h => cases h
  | b :: a :: r, h => exact ⟨b, a, r, rfl, h⟩
theorem evs_pu {c d : Int} {s : Stq} {t : List Stq} {st z : List Int} (hs : s.1 ≤ 1) (h : evs c d (s :: t) st = some z) : st.length < 11 ∧ evs c d t (opv c d s :: st) = some z := by
  unfold evs at h
  rw [if_pos hs] at h
  by_cases q : st.length < 11
  · rw [if_pos q] at h
    exact ⟨q, h⟩
  · rw [if_neg q] at h
    cases h
theorem ex_pr {α β : Type} {x : Option (α × β)} {v : α} {P : β → Prop} (h : ∃ t, x = some t ∧ (t.1 = v ∧ P t.2)) : ∃ b, x = some (v, b) ∧ P b := by
  obtain ⟨⟨a, b⟩, h1, h2, h3⟩ := h
  exact ⟨b, by rw [h1]; exact congrArg (fun y => some (y, b)) h2, h3⟩
section SRW
variable {h : PH} {N : NT}
end SRW
