/-! LEAST WAYS: a third arc between, and what a search of steps comes to -/
section WAY
variable {N : NT}
theorem om_le1 {a b : Option Nat} {u : Nat} (h : a = some u) : ∃ w, w ≤ u ∧ om a b = some w := by
  subst h
  cases b with
  | none => exact ⟨u, Nat.le_refl _, rfl⟩
  | some v => exact ⟨min u v, Nat.min_le_left _ _, rfl⟩
theorem om_le2 {a b : Option Nat} {u : Nat} (h : b = some u) : ∃ w, w ≤ u ∧ om a b = some w := by
  subst h
  cases a with
  | none => exact ⟨u, Nat.le_refl _, rfl⟩
  | some v => exact ⟨min v u, Nat.min_le_right _ _, rfl⟩
theorem om_or {a b : Option Nat} {u : Nat} (h : om a b = some u) : a = some u ∨ b = some u := by
  cases a with
  | none => cases b with
    | none => cases h
    | some v => exact Or.inr h
  | some x => cases b with
    | none => exact Or.inl h
    | some v =>
      have h : some (min x v) = some u := h
      rcases Nat.le_total x v with q | q
      · rw [Nat.min_eq_left q] at h
        exact Or.inl h
      · rw [Nat.min_eq_right q] at h
        exact Or.inr h
theorem oa_some {a b : Option Nat} {u : Nat} (h : oa a b = some u) : ∃ x y, a = some x ∧ b = some y ∧ u = x + y := by
  cases a with
  | none => cases h
  | some x => cases b with
    | none => cases h
    | some y =>
      cases h
      exact ⟨x, y, rfl, rfl, rfl⟩
theorem fw_via {k x y u : Nat} (h : fw N (k + 1) x y = some u) : fw N k x y = some u ∨ ∃ a b, fw N k x k = some a ∧ fw N k k y = some b ∧ u = a + wCo N k + b := by
  rcases om_or (show om (fw N k x y) (oa (oa (fw N k x k) (some (wCo N k))) (fw N k k y)) = some u from h) with q | q
  · exact Or.inl q
  · obtain ⟨p, b, h1, h2, rfl⟩ := oa_some q
    obtain ⟨a, c, h3, h4, rfl⟩ := oa_some h1
    cases h4
    exact Or.inr ⟨a, b, h3, h2, rfl⟩
theorem fw_up {k x y u : Nat} (h : fw N k x y = some u) : ∃ w, w ≤ u ∧ fw N (k + 1) x y = some w := om_le1 h
theorem fw_thr {k x y a b : Nat} (h1 : fw N k x k = some a) (h2 : fw N k k y = some b) : ∃ w, w ≤ a + wCo N k + b ∧ fw N (k + 1) x y = some w := by
  refine om_le2 (a := fw N k x y) ?_
  rw [h1, h2]
  rfl
theorem fw_ups {k x y u : Nat} (h : fw N k x y = some u) : ∀ m, ∃ w, w ≤ u ∧ fw N (k + m) x y = some w
  | 0 => ⟨u, Nat.le_refl _, h⟩
  | m + 1 => by
    obtain ⟨w, h1, h2⟩ := fw_ups h m
    obtain ⟨w', h3, h4⟩ := fw_up h2
    exact ⟨w', by omega, h4⟩
/-- through an arc below k -/
theorem fw_tri : ∀ (k x y z u v : Nat), y < k → fw N k x y = some u → fw N k y z = some v → ∃ w, w ≤ u + wCo N y + v ∧ fw N k x z = some w
  | 0, _, y, _, _, _, hy, _, _ => absurd hy (Nat.not_lt_zero y)
  | k + 1, x, y, z, u, v, hy, h1, h2 => by
    rcases Nat.lt_or_ge y k with q | q
    · rcases fw_via h1 with p1 | ⟨a, b, p1, p2, rfl⟩
      · rcases fw_via h2 with r1 | ⟨c, d, r1, r2, rfl⟩
        · obtain ⟨w, g1, g2⟩ := fw_tri k x y z u v q p1 r1
          obtain ⟨w', g3, g4⟩ := fw_up g2
          exact ⟨w', by omega, g4⟩
        · obtain ⟨w, g1, g2⟩ := fw_tri k x y k u c q p1 r1
          obtain ⟨w', g3, g4⟩ := fw_thr g2 r2
          exact ⟨w', by omega, g4⟩
      · rcases fw_via h2 with r1 | ⟨c, d, r1, r2, rfl⟩
        · obtain ⟨w, g1, g2⟩ := fw_tri k k y z b v q p2 r1
          obtain ⟨w', g3, g4⟩ := fw_thr p1 g2
          exact ⟨w', by omega, g4⟩
        · obtain ⟨w', g3, g4⟩ := fw_thr p1 r2
          exact ⟨w', by omega, g4⟩
    · obtain rfl : y = k := by omega
      rw [fw_col] at h1
      rw [fw_row] at h2
      exact fw_thr h1 h2
theorem wDh_fol {x y : Nat} (h : wFol N x y = true) : wDh N x y = some 0 := by
  have h0 : fw N 0 x y = some 0 := by
    show (if wFol N x y then some 0 else none) = some 0
    rw [if_pos h]
  obtain ⟨w, h1, h2⟩ := fw_ups h0 (2 * wE N)
  rw [Nat.zero_add] at h2
  obtain rfl : w = 0 := by omega
  exact h2
/-- the city's way from arc to arc: with the second's own cost -/
def gval (N : NT) (x y : Nat) : Nat := match wDh N x y with
  | some u => u + wCo N y
  | none => 500000
theorem gval_le (hN : WN N) {x y : Nat} (hy : y < 2 * wE N) : gval N x y ≤ 500000 := by
  unfold gval
  split
  · rename_i u h
    have h1 := wDh_le hN h
    have h2 := (hN.2.2.2.2.1 y hy).2.2.1
    omega
  · exact Nat.le_refl _
/-- a step more -/
theorem gval_step (hN : WN N) {x y z : Nat} (hy : y < 2 * wE N) (hz : z < 2 * wE N) (h : wFol N y z = true) : gval N x z ≤ gval N x y + wCo N z := by
  unfold gval
  cases hxy : wDh N x y with
  | none =>
    have := gval_le hN (x := x) hz
    unfold gval at this
    show _ ≤ 500000 + wCo N z
    omega
  | some u =>
    obtain ⟨w, h1, h2⟩ := fw_tri (2 * wE N) x y z u 0 hy hxy (wDh_fol h)
    rw [show wDh N x z = some w from h2]
    show w + wCo N z ≤ u + wCo N y + wCo N z
    omega
theorem gval_first {x y : Nat} (h : wFol N x y = true) : gval N x y = wCo N y := by
  unfold gval
  rw [wDh_fol h]
  exact Nat.zero_add _
/-- what no step makes less is the least -/
theorem gval_fix {a : Nat} {g : Nat → Nat} (hN : WN N) (h1 : ∀ b, b < 2 * wE N → wFol N a b = true → g b ≤ wCo N b) (h0 : ∀ b, b < 2 * wE N → g b ≤ 500000) (h2 : ∀ b c, b < 2 * wE N → c < 2 * wE N → wFol N b c = true → g c ≤ g b + wCo N c) : ∀ b, b < 2 * wE N → g b ≤ gval N a b := by
  have key : ∀ k, k ≤ 2 * wE N → (∀ b u, b < 2 * wE N → fw N k a b = some u → g b ≤ u + wCo N b) ∧ (∀ b c v, b < 2 * wE N → c < 2 * wE N → fw N k b c = some v → g c ≤ g b + v + wCo N c) := by
    intro k
    induction k with
    | zero =>
      intro _
      refine ⟨fun b u hb h => ?_, fun b c v hb hc h => ?_⟩
      · have h : (if wFol N a b then some 0 else none) = some u := h
        cases q : wFol N a b with
        | true => have := h1 b hb q; omega
        | false => rw [q] at h; cases h
      · have h : (if wFol N b c then some 0 else none) = some v := h
        cases q : wFol N b c with
        | true => have := h2 b c hb hc q; omega
        | false => rw [q] at h; cases h
    | succ k ih =>
      intro hk
      obtain ⟨i1, i2⟩ := ih (by omega)
      refine ⟨fun b u hb h => ?_, fun b c v hb hc h => ?_⟩
      · rcases fw_via h with q | ⟨x, y, q1, q2, rfl⟩
        · exact i1 b u hb q
        · have e1 := i1 k x (by omega) q1
          have e2 := i2 k b y (by omega) hb q2
          omega
      · rcases fw_via h with q | ⟨x, y, q1, q2, rfl⟩
        · exact i2 b c v hb hc q
        · have e1 := i2 b k x hb (by omega) q1
          have e2 := i2 k c y (by omega) hc q2
          omega
  intro b hb
  unfold gval
  cases h : wDh N a b with
  | none => exact h0 b hb
  | some u => exact (key (2 * wE N) (Nat.le_refl _)).1 b u hb h
end WAY
