/-! CITY'S READERS OF THE MATRIX: gap, reach, back -/
section GAP
variable {D : gDS} {c e b d hh tt g : Nat} {N : NT} {sv : gRF}
theorem gval_en {x y : Nat} (hN : WN N) (hy : y < 2 * wE N) : gval N x y = min 500000 (en 500000 (wDh N x y) + wCo N y) := by
  have hc := (hN.2.2.2.2.1 y hy).2.2.1
  unfold gval
  cases h : wDh N x y with
  | none => exact (Nat.min_eq_left (Nat.le_add_right _ _)).symm
  | some u =>
    have := wDh_le hN h
    exact (Nat.min_eq_right (a := 500000) (b := u + wCo N y) (by omega)).symm
theorem g_gap {x y : Nat} (hN : WN N) (hC : CO D c N sv e b d hh tt (rf g)) (hE : GEd D N e) (hM : GM D g (2 * wE N) (gval N)) (hx : x < 2 * wE N) (hy : y < 2 * wE N) : F_X8_gap D (rf c) (nI x) (nI y) = some (nI (en 500000 (wDh N x y))) := by
  have hE4 := hN.2.2.1
  have hc := (hN.2.2.2.2.1 y hy).2.2.1
  unfold F_X8_gap
  rw [gRv_t hC, Option.bind_some, gFr_t hC (b := 8) rfl, Option.bind_some, hM.row hx (by omega), Option.bind_some, hM.get hx hy (by omega), Option.bind_some, i5e]
  cases h : wDh N x y with
  | none =>
    have h1 : gval N x y = 500000 := by unfold gval; rw [h]
    have h2 : ¬ nI 500000 < nI 500000 := fun z => by
      have := (nI_lt' (a := 500000) (b := 500000) (by omega) (by omega)).mp z
      omega
    rw [h1, if_neg h2]
    rfl
  | some u =>
    have hu := wDh_le hN h
    have h1 : gval N x y = u + wCo N y := by unfold gval; rw [h]
    have h2 : nI (u + wCo N y) < nI 500000 := (nI_lt' (by omega) (by omega)).mpr (by omega)
    rw [h1, if_pos h2, g_cost hN hC hE hy, Option.bind_some, hM.row hx (by omega), Option.bind_some, hM.get hx hy (by omega), Option.bind_some, Option.bind_some, h1, nI_sub (by omega), Nat.add_sub_cancel]
    rfl
theorem fapp_pos (hN : WN N) {v x w : Nat} : ∀ k, k ≤ 2 * wE N → fapp N v x k = some w → 1 ≤ w
  | 0, _, h => by cases h
  | k + 1, hk, h => by
    unfold fapp at h
    by_cases q : wTl N k = v
    · rw [if_pos q] at h
      rcases om_or h with h | h
      · exact fapp_pos hN k (by omega) h
      · obtain ⟨a, z, h1, h2, rfl⟩ := oa_some h
        cases h1
        have := (hN.2.2.2.2.1 k (by omega)).2.1
        omega
    · rw [if_neg q] at h
      exact fapp_pos hN k (by omega) h
theorem fret_pos (hN : WN N) {v x w : Nat} : ∀ k, k ≤ 2 * wE N → fret N x v k = some w → 1 ≤ w
  | 0, _, h => by cases h
  | k + 1, hk, h => by
    unfold fret at h
    by_cases q : wHd N k = v
    · rw [if_pos q] at h
      rcases om_or h with h | h
      · exact fret_pos hN k (by omega) h
      · obtain ⟨a, z, h1, h2, rfl⟩ := oa_some h
        cases h1
        have := (hN.2.2.2.2.1 k (by omega)).2.1
        omega
    · rw [if_neg q] at h
      exact fret_pos hN k (by omega) h
theorem en_pos {K : Nat} {o : Option Nat} (h : ∀ v, o = some v → 1 ≤ v) (hK : 1 ≤ K) : 1 ≤ en K o := by
  cases o with
  | none => exact hK
  | some v => exact h v rfl
theorem i_pos {a : Nat} (h : 1 ≤ a) (hb : a < 2 ^ 31) : ¬ nI a ≤ (0 : Int32) := fun z => by
  have := (nI_le' (a := a) (b := 0) hb (by omega)).mp z
  omega
theorem g_reach {x v : Nat} (hN : WN N) (hC : CO D c N sv e b d hh tt (rf g)) (hE : GEd D N e) (hM : GM D g (2 * wE N) (gval N)) (hx : x < 2 * wE N) (hv : v < 8) : F_X8_reach D (rf c) (nI v) (nI x) = some (nI (en 500000 (wApp N v x))) := by
  have hE4 := hN.2.2.1
  have hn := hN.1
  have tlt : ∀ z, z < 2 * wE N → wTl N z < 8 := fun z hz => by have := (hN.2.2.2.2.1 z hz).1; omega
  unfold F_X8_reach wApp
  rw [gRv_t hC, Option.bind_some, g_from hN hC hE hx, Option.bind_some, g_arcs hC hE]
  by_cases q : wTl N x = v
  · rw [if_pos q, q]
    have h2 : ¬ nI (2 * wE N) ≤ (0 : Int32) := i_pos (by omega) (by omega)
    unfold jn
    dsimp only
    rw [if_neg (fun z => z rfl)]
    refine loop_to (fun _ => ((0 : Int32), (0 : Int32))) 0 rfl (fun k hk => absurd hk (Nat.not_lt_zero k)) ?_
    dsimp only
    rw [Option.bind_some, if_neg h2, if_pos (Int32.le_refl _)]
    rfl
  · have q2 : ¬ nI (wTl N x) = nI v := fun z => q ((nI_eq (by have := tlt x hx; omega) (by omega)).mp z)
    unfold jn
    dsimp only
    rw [if_pos q2, if_neg q]
    refine loop_to (fun k => (nI (en 500000 (fapp N v x k)), nI k)) (2 * wE N) rfl (fun k hk => ?_) ?_
    · dsimp only
      have b1 : en 500000 (fapp N v x k) ≤ 500000 := en_le (fun w hw => fapp_le hN k w (by omega) hw) (by omega)
      have b0 : 1 ≤ en 500000 (fapp N v x k) := en_pos (fun w hw => fapp_pos hN k (by omega) hw) (by omega)
      have b2 : en 500000 (wDh N k x) ≤ 500000 := en_le (fun w hw => wDh_le hN hw) (by omega)
      have hck : wCo N k ≤ 99 := (hN.2.2.2.2.1 k hk).2.2.1
      have n1 : ¬ nI (2 * wE N) ≤ nI k := fun z => by
        have := (nI_le' (by omega) (by omega)).mp z
        omega
      rw [Option.bind_some, if_neg n1, if_neg (i_pos b0 (by omega)), g_from hN hC hE hk, Option.bind_some]
      by_cases z : wTl N k = v
      · rw [if_neg (by rw [z]; exact fun z => z rfl), g_cost hN hC hE hk, Option.bind_some, g_gap hN hC hE hM hk hx, Option.bind_some, nI_add, min_I (by omega) (by omega), en_min2 (fun w hw => by have := fapp_le hN k w (by omega) hw; omega) (fun w hw => by have := wDh_le hN hw; omega), i1, nI_add]
        show _ = some (Sum.inl (nI (en 500000 (if wTl N k = v then _ else _)), nI (k + 1)))
        rw [if_pos z]
      · have z2 : ¬ nI (wTl N k) = nI v := fun y => z ((nI_eq (by have := tlt k hk; omega) (by omega)).mp y)
        rw [if_pos z2, i1, nI_add]
        show _ = some (Sum.inl (nI (en 500000 (if wTl N k = v then _ else _)), nI (k + 1)))
        rw [if_neg z]
    · dsimp only
      rw [Option.bind_some, if_pos (Int32.le_refl _)]
theorem g_back {x v : Nat} (hN : WN N) (hC : CO D c N sv e b d hh tt (rf g)) (hE : GEd D N e) (hM : GM D g (2 * wE N) (gval N)) (hx : x < 2 * wE N) (hv : v < 8) : F_X8_back D (rf c) (nI x) (nI v) = some (nI (en 500000 (wRet N x v))) := by
  have hE4 := hN.2.2.1
  have hn := hN.1
  have tlt : ∀ z, z < 2 * wE N → wHd N z < 8 := fun z hz => by have := (hN.2.2.2.2.1 _ (wFl_lt hz)).1; unfold wHd; omega
  unfold F_X8_back wRet
  rw [gRv_t hC, Option.bind_some, g_to hN hC hE hx, Option.bind_some, g_arcs hC hE]
  by_cases q : wHd N x = v
  · rw [if_pos q, q]
    have h2 : ¬ nI (2 * wE N) ≤ (0 : Int32) := i_pos (by omega) (by omega)
    unfold jn
    dsimp only
    rw [if_neg (fun z => z rfl)]
    refine loop_to (fun _ => ((0 : Int32), (0 : Int32))) 0 rfl (fun k hk => absurd hk (Nat.not_lt_zero k)) ?_
    dsimp only
    rw [Option.bind_some, if_neg h2, if_pos (Int32.le_refl _)]
    rfl
  · have q2 : ¬ nI (wHd N x) = nI v := fun z => q ((nI_eq (by have := tlt x hx; omega) (by omega)).mp z)
    unfold jn
    dsimp only
    rw [if_pos q2, if_neg q, gFr_t hC (b := 8) rfl]
    refine loop_to (fun k => (nI (en 500000 (fret N x v k)), nI k)) (2 * wE N) rfl (fun k hk => ?_) ?_
    · dsimp only
      have b1 : en 500000 (fret N x v k) ≤ 500000 := en_le (fun w hw => fret_le hN k w (by omega) hw) (by omega)
      have b0 : 1 ≤ en 500000 (fret N x v k) := en_pos (fun w hw => fret_pos hN k (by omega) hw) (by omega)
      have b2 : en 500000 (wDh N x k) ≤ 500000 := en_le (fun w hw => wDh_le hN hw) (by omega)
      have hck : wCo N k ≤ 99 := (hN.2.2.2.2.1 k hk).2.2.1
      have n1 : ¬ nI (2 * wE N) ≤ nI k := fun z => by
        have := (nI_le' (by omega) (by omega)).mp z
        omega
      rw [Option.bind_some, if_neg n1, if_neg (i_pos b0 (by omega)), g_to hN hC hE hk, Option.bind_some]
      by_cases z : wHd N k = v
      · have e1 : min (en 500000 (fret N x v k)) (gval N x k) = en 500000 (om (fret N x v k) (oa (some (wCo N k)) (wDh N x k))) := by
          rw [← en_min2 (fun w hw => by have := fret_le hN k w (by omega) hw; omega) (fun w hw => by have := wDh_le hN hw; omega), gval_en hN hk]
          omega
        have b3 := gval_le hN hk (x := x)
        rw [if_neg (by rw [z]; exact fun z => z rfl), Option.bind_some, hM.row hx (by omega), Option.bind_some, hM.get hx hk (by omega), Option.bind_some, min_I (by omega) (by omega), e1, i1, nI_add]
        show _ = some (Sum.inl (nI (en 500000 (if wHd N k = v then _ else _)), nI (k + 1)))
        rw [if_pos z]
      · have z2 : ¬ nI (wHd N k) = nI v := fun y => z ((nI_eq (by have := tlt k hk; omega) (by omega)).mp y)
        rw [if_pos z2, i1, nI_add]
        show _ = some (Sum.inl (nI (en 500000 (if wHd N k = v then _ else _)), nI (k + 1)))
        rw [if_neg z]
    · dsimp only
      rw [Option.bind_some, if_pos (Int32.le_refl _)]
end GAP
