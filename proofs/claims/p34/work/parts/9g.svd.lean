/-! SOLVE, done -/
section SVD
variable {D0 : gDS} {c e b d hh tt : Nat} {N : NT} {sv gp : gRF} {R : Nat → Nat → Nat}
theorem slv5 {ρ' : Type} (hN : WN N) (hC0 : CO D0 c N sv e b d hh tt gp) (hE0 : GEd D0 N e) (hB0 : GBn D0 N b) {a : Nat} (ha : a < 2 * wE N) {g0 : Nat → Nat} {D : gDS} (hS : SV D0 D c N sv e b d hh tt (rA R a g0)) :
    ∃ t, loop (b5 c (nI (2 * wE N)) (nI a)) ((0 : Int32), D) = some t ∧ ∃ g' D', t = (Sum.inl (nI (a + 1), D') : (Int32 × gDS) ⊕ ρ') ∧ SV D0 D' c N sv e b d hh tt (rA R a g') ∧ ∀ y, y < 2 * wE N → g' y = gval N a y := by
  have hE4 := hN.2.2.1
  refine loop_ind0 (fun k s => k ≤ 2 * wE N ∧ ∃ g D, s = (nI k, D) ∧ SV D0 D c N sv e b d hh tt (rA R a g) ∧ ∀ y, y < k → g y = if wFol N a y then wCo N y else 500000) _ (2 * wE N) ⟨Nat.zero_le _, g0, D, rfl, hS, fun y hy => absurd hy (Nat.not_lt_zero y)⟩ (fun k s hI => ?_)
  obtain ⟨hk, g, D, rfl, hS, hg⟩ := hI
  obtain ⟨s1, s2, s3, s4, -⟩ := id hS
  unfold b5
  dsimp only
  rcases Nat.lt_or_ge k (2 * wE N) with q | q
  · have hn : ¬ nI (2 * wE N) ≤ nI k := fun z => by
      have := (nI_le' (by omega) (by omega)).mp z
      omega
    have step : ∀ v, (v = if wFol N a k then wCo N k else 500000) → ∀ D', SV D0 D' c N sv e b d hh tt (rA (rA R a g) a (up8 (rA R a g a) k v)) → k + 1 ≤ 2 * wE N ∧ ∃ g D9, (nI (k + 1), D') = (nI (k + 1), D9) ∧ SV D0 D9 c N sv e b d hh tt (rA R a g) ∧ ∀ y, y < k + 1 → g y = if wFol N a y then wCo N y else 500000 := fun v hv D' hS' => by
      rw [rA_rA, rA_at] at hS'
      refine ⟨q, up8 g k v, D', rfl, hS', fun y hy => ?_⟩
      unfold up8
      by_cases r : y = k
      · rw [if_pos r, r, hv]
      · rw [if_neg r]
        exact hg y (by omega)
    rw [if_neg hn, gFr_t s1 (b := 8) rfl, Option.bind_some, s4.row ha (by omega), Option.bind_some, g_turn hN s1 s2 s3 ha q, Option.bind_some]
    cases hw : wFol N a k with
    | false =>
      obtain ⟨D', w1, w2⟩ := hS.set (v := 500000) ha q hN hC0 hE0 hB0
      have w1 : gIst D (rf (D0.1.length + 1 + a)) 1 (nI k) (500000 : Int32) = some D' := w1
      obtain ⟨g1, g2⟩ := step 500000 (by rw [hw]; rfl) D' w2
      refine Or.inr ⟨q, (nI (k + 1), D'), ?_, g1, g2⟩
      have w0 : (if false = true then (1 : Int32) else 0) = 0 := rfl
      rw [if_pos w0, w1, Option.bind_some, i1, nI_add]
    | true =>
      obtain ⟨D', w1, w2⟩ := hS.set (v := wCo N k) ha q hN hC0 hE0 hB0
      obtain ⟨g1, g2⟩ := step (wCo N k) (by rw [hw]; rfl) D' w2
      refine Or.inr ⟨q, (nI (k + 1), D'), ?_, g1, g2⟩
      rw [if_neg (by decide : ¬ (if true = true then (1 : Int32) else 0) = 0), g_cost hN s1 s2 q, Option.bind_some, w1, Option.bind_some, i1, nI_add]
  · obtain rfl : k = 2 * wE N := by omega
    rw [if_pos (Int32.le_refl _)]
    have hG : Gd N a g := fun y hy => by
      rw [hg y hy]
      have hco := (hN.2.2.2.2.1 y hy).2.2.1
      cases hw : wFol N a y with
      | true => exact ⟨by rw [if_pos rfl]; omega, by rw [if_pos rfl, gval_first hw]; exact Nat.le_refl _, fun _ => by rw [if_pos rfl]; exact Nat.le_refl _⟩
      | false => exact ⟨by rw [if_neg (by decide)]; exact Nat.le_refl _, by rw [if_neg (by decide)]; exact gval_le hN hy, fun h => by cases h⟩
    obtain ⟨t, h1, g', D', h2, h3, h4⟩ := slv6 (ρ := Int32 × gDS) (ρ' := ρ') hN hC0 hE0 hB0 ha hS hG
    subst h2
    exact Or.inl ⟨_, h1, g', D', rfl, h3, h4⟩
theorem rA_self {a : Nat} : rA R a (R a) = R := by
  funext x
  unfold rA
  by_cases q : x = a
  · rw [if_pos q, q]
  · rw [if_neg q]
theorem slv4 (hN : WN N) (hC0 : CO D0 c N sv e b d hh tt gp) (hE0 : GEd D0 N e) (hB0 : GBn D0 N b) {D : gDS} (hS : SV D0 D c N sv e b d hh tt R) :
    ∃ D', loop (b4 c (nI (2 * wE N))) ((0 : Int32), D) = some D' ∧ SV D0 D' c N sv e b d hh tt (gval N) := by
  have hE4 := hN.2.2.1
  refine loop_ind0 (fun k s => k ≤ 2 * wE N ∧ ∃ R D, s = (nI k, D) ∧ SV D0 D c N sv e b d hh tt R ∧ ∀ x, x < k → ∀ y, y < 2 * wE N → R x y = gval N x y) _ (2 * wE N) ⟨Nat.zero_le _, R, D, rfl, hS, fun x hx => absurd hx (Nat.not_lt_zero x)⟩ (fun k s hI => ?_)
  obtain ⟨hk, R, D, rfl, hS, hR⟩ := hI
  unfold b4
  dsimp only
  rcases Nat.lt_or_ge k (2 * wE N) with q | q
  · have hn : ¬ nI (2 * wE N) ≤ nI k := fun z => by
      have := (nI_le' (by omega) (by omega)).mp z
      omega
    rw [if_neg hn]
    obtain ⟨t, h1, g', D', h2, h3, h4⟩ := slv5 (ρ' := gDS) hN hC0 hE0 hB0 q (R := R) (g0 := R k) (by rw [rA_self]; exact hS)
    subst h2
    refine Or.inr ⟨q, _, h1, q, rA R k g', D', rfl, h3, fun x hx y hy => ?_⟩
    unfold rA
    by_cases r : x = k
    · rw [if_pos r, r]
      exact h4 y hy
    · rw [if_neg r]
      exact hR x (by omega) y hy
  · obtain rfl : k = 2 * wE N := by omega
    refine Or.inl ⟨_, if_pos (Int32.le_refl _), ?_⟩
    obtain ⟨s1, s2, s3, s4, s5⟩ := hS
    exact ⟨s1, s2, s3, s4.congr (fun x y hx hy => hR x hx y hy), s5⟩
theorem g_solve {D : gDS} (hN : WN N) (hC : CO D c N sv e b d hh tt gp) (hE : GEd D N e) (hB : GBn D N b) : ∃ D', F_X8_solve D (rf c) = some D' ∧ SV D D' c N sv e b d hh tt (gval N) := by
  have hE4 := hN.2.2.1
  have hc := tO_lt hC
  rw [solve_is, gRv_t hC, Option.bind_some, g_arcs hC hE, Option.bind_some]
  obtain ⟨D2, h1, h2, h3, h4, h5, h6⟩ := gNwM_n (D := D) (n := 2 * wE N) (by omega)
  have hC2 : CO D2 c N sv e b d hh tt gp := h3.tO (fun q => q) hC
  rw [h1, Option.bind_some, gFst_t hC2 (by show 8 < 9; omega), Option.bind_some]
  generalize hD3 : gSet D2 c _ = D3
  have hE9 : gE (fun i => i = c) D D3 := by
    rw [← hD3]
    exact ⟨by rw [gSet_len]; exact h3.1, fun i hi hw => (gSet_ne (fun q => hw q.symm)).trans (h3.2 i hi (fun q => q))⟩
  have hS : SV D D3 c N sv e b d hh tt (fun _ _ => 0) := by
    refine ⟨?_, GEd.of hC hE hE9, GBn.of hC hB hE9, ⟨?_, fun x hx => ?_⟩, hE9, hc, ?_, ?_, ?_⟩
    · rw [← hD3]
      exact gSet_at (by omega)
    · rw [← hD3]
      exact (gSet_ne (by omega)).trans h2.1
    · rw [← hD3]
      exact (gSet_ne (by omega)).trans (h2.2 x hx)
    · rw [← hD3, gSet_len]
      exact h4
    · rw [← hD3]
      exact h5
    · rw [← hD3]
      exact h6
  exact slv4 hN hC hE hB hS
end SVD
