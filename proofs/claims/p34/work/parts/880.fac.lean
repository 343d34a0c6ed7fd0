/-- a formula's piece read by both, at nesting d, with at most K values below -/
def PF (b : Nat → Nat) (n d K : Nat) (Sc : PH → Int32 → Option PH) (Sr : PH → Option PH) : Prop :=
  (∀ g r l p e k, k ≤ K → JT b n g r (p + e) → FK g r l p k → r.1 122 14 = nI d → ∃ g' r', Sc g (nI d) = some g' ∧ Sr r = some r' ∧ GC g g' ∧ GR r r' ∧ ((∃ l' p', JT b n g' r' (p' + e) ∧ FK g' r' l' p' (k + 1) ∧ p < p' ∧ r'.1 122 14 = nI d) ∨ JB b n g' r')) ∧
  (∀ g r, JB b n g r → ∃ g', Sc g (nI d) = some g' ∧ GC g g' ∧ JB b n g' r)
/-- the reference's piece does nothing in an error -/
def RQ (Sr : PH → Option PH) : Prop := ∀ r, r.1 122 5 ≠ 0 → Sr r = some r
section FAC
variable {b : Nat → Nat} {n : Nat} {g r : PH}
theorem JT.rr {p : Nat} {r' : PH} (J : JT b n g r p) (e3 : ∀ j, j = 3 ∨ j = 4 ∨ j = 5 ∨ j = 6 → r'.1 122 j = r.1 122 j) (e4 : r'.1 123 = r.1 123) : JT b n g r' p := by
  unfold JT RB at J ⊢
  rw [e3 3 (by omega), e3 4 (by omega), e3 5 (by omega), e3 6 (by omega), e4]
  exact J
theorem JB.rr {r' : PH} (J : JB b n g r) (e3 : ∀ j, j = 3 ∨ j = 5 ∨ j = 6 → r'.1 122 j = r.1 122 j) (e4 : r'.1 123 = r.1 123) : JB b n g r' := by
  unfold JB RB at J ⊢
  rw [e3 3 (by omega), e3 5 (by omega), e3 6 (by omega), e4]
  exact J
theorem GR.p14 {v : Int32} : GR r (pu r 122 14 v) := ⟨Fr.pu (S := fun a => a = 122 ∨ a = 125) (Or.inl rfl), fun j hj => by rw [pu_get, if_neg (fun z => by omega)], fun j _ _ => by rw [pu_get, if_neg (by omega)]⟩
theorem GR.p4 {v : Int32} : GR r (pu r 122 4 v) := ⟨Fr.pu (S := fun a => a = 122 ∨ a = 125) (Or.inl rfl), fun j hj => by rw [pu_get, if_neg (fun z => by omega)], fun j _ _ => by rw [pu_get, if_neg (by omega)]⟩
theorem wm_no {i q : Nat} (hi : i < 7) (h : ¬ (q < n ∧ isL (b q) = true)) : ¬ WM b n i q := fun w => by
  obtain ⟨z1, -, -⟩ := WM_tok hi w
  have l1 := (wl_ok i hi).1
  have e0 := w.2.1 0 l1
  rw [Nat.add_zero] at e0
  exact h ⟨z1, by rw [e0]; exact (wc_ok i hi 0 l1).2.1⟩
theorem GR.of5 {r' : PH} (f : Fr (fun a => a = 125) r r') (h : ∀ j, j < 256 → j ≠ 6 → r'.1 125 j = r.1 125 j) : GR r r' := ⟨f.mono (fun i hi => Or.inr hi), fun j _ => by rw [(f 122 (by omega)).1], h⟩
theorem GC.of11 {g' : PH} (f : Fr (fun a => a = 10 ∨ a = 11) g g') : GC g g' := ⟨f.mono (fun i hi => Or.inr hi), fun j _ => by rw [(f 1 (by omega)).1]⟩
end FAC
