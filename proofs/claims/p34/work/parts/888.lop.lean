section LOP
variable {b : Nat → Nat} {n : Nat} {g r : PH} {N : NT}
/-- two loops in step, up to the states in which they end -/
theorem loop_pair2 {σ1 τ1 σ2 τ2 : Type} {B1 : σ1 → Option (σ1 ⊕ τ1)} {B2 : σ2 → Option (σ2 ⊕ τ2)} (R : Nat → σ1 → σ2 → Prop) (F : σ1 → σ2 → Prop)
    (step : ∀ k s1 s2, R k s1 s2 → F s1 s2 ∨ ∃ k' s1' s2', k' < k ∧ B1 s1 = some (.inl s1') ∧ B2 s2 = some (.inl s2') ∧ R k' s1' s2') :
    ∀ (k : Nat) (s1 : σ1) (s2 : σ2), R k s1 s2 → ∃ t1 t2, loop B1 s1 = loop B1 t1 ∧ loop B2 s2 = loop B2 t2 ∧ F t1 t2 := by
  intro k
  induction k using Nat.strongRecOn with
  | ind k ih =>
    intro s1 s2 hR
    rcases step k s1 s2 hR with h3 | ⟨k', s1', s2', hk, h1, h2, h3⟩
    · exact ⟨s1, s2, rfl, rfl, h3⟩
    · obtain ⟨t1, t2, h4, h5, h6⟩ := ih k' hk s1' s2' h3
      exact ⟨t1, t2, by rw [loop_eq, h1]; exact h4, by rw [loop_eq, h2]; exact h5, h6⟩
end LOP
