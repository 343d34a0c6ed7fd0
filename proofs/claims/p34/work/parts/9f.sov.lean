/-! SOLVE, the loops about it -/
noncomputable def b8 {ρ : Type} (c : Nat) (nv av yv : Int32) : Int32 × Int32 × gDS → Option ((Int32 × Int32 × gDS) ⊕ ((Int32 × Int32 × gDS) ⊕ ρ)) := fun s8 =>
  if nv ≤ s8.2.1 then
   some (.inr (.inl (s8.1, (yv + (1 : Int32)), s8.2.2)))
  else
   (gFr s8.2.2 (rf c) 8 8).bind fun r9 =>
   (gQld s8.2.2 r9 av).bind fun r10 =>
   (gIld s8.2.2 r10 1 yv).bind fun z11 =>
   if (500000 : Int32) ≤ z11 then
    some (.inr (.inl (s8.1, (yv + (1 : Int32)), s8.2.2)))
   else
    (F_X8_mayTurn s8.2.2 (rf c) yv s8.2.1).bind fun y12 =>
    if y12 = 0 then
     some (.inl (s8.1, (s8.2.1 + (1 : Int32)), s8.2.2))
    else
     (gFr s8.2.2 (rf c) 8 8).bind fun r13 =>
     (gQld s8.2.2 r13 av).bind fun r14 =>
     (gIld s8.2.2 r14 1 s8.2.1).bind fun z15 =>
     (gFr s8.2.2 (rf c) 8 8).bind fun r16 =>
     (gQld s8.2.2 r16 av).bind fun r17 =>
     (gIld s8.2.2 r17 1 yv).bind fun z18 =>
     (F_X8_cost s8.2.2 (rf c) s8.2.1).bind fun y19 =>
     if (z18 + y19) < z15 then
      (gFr s8.2.2 (rf c) 8 8).bind fun r20 =>
      (gQld s8.2.2 r20 av).bind fun r21 =>
      (gFr s8.2.2 (rf c) 8 8).bind fun r22 =>
      (gQld s8.2.2 r22 av).bind fun r23 =>
      (gIld s8.2.2 r23 1 yv).bind fun z24 =>
      (F_X8_cost s8.2.2 (rf c) s8.2.1).bind fun y25 =>
      (gIst s8.2.2 r21 1 s8.2.1 (z24 + y25)).bind fun D26 =>
      some (.inl ((1 : Int32), (s8.2.1 + (1 : Int32)), D26))
     else
      some (.inl (s8.1, (s8.2.1 + (1 : Int32)), s8.2.2))
noncomputable def b7 {ρ : Type} (c : Nat) (nv av : Int32) : Int32 × Int32 × gDS → Option ((Int32 × Int32 × gDS) ⊕ ((Int32 × gDS) ⊕ ρ)) := fun s7 =>
  if nv ≤ s7.2.1 then some (.inr (.inl (s7.1, s7.2.2))) else loop (b8 c nv av s7.2.1) (s7.1, (0 : Int32), s7.2.2)
noncomputable def b6 {ρ ρ' : Type} (c : Nat) (nv av : Int32) : Int32 × gDS → Option ((Int32 × gDS) ⊕ (ρ ⊕ ((Int32 × gDS) ⊕ ρ'))) := fun s6 =>
  if s6.1 = 0 then some (.inr (.inr (.inl ((av + (1 : Int32)), s6.2)))) else loop (b7 c nv av) ((0 : Int32), (0 : Int32), s6.2)
noncomputable def b5 {ρ' : Type} (c : Nat) (nv av : Int32) : Int32 × gDS → Option ((Int32 × gDS) ⊕ ((Int32 × gDS) ⊕ ρ')) := fun s5 =>
  if nv ≤ s5.1 then loop (b6 c nv av) ((1 : Int32), s5.2) else
   (gFr s5.2 (rf c) 8 8).bind fun r27 =>
   (gQld s5.2 r27 av).bind fun r28 =>
   (F_X8_mayTurn s5.2 (rf c) av s5.1).bind fun y29 =>
   if y29 = 0 then
    (gIst s5.2 r28 1 s5.1 (500000 : Int32)).bind fun D30 =>
    some (.inl ((s5.1 + (1 : Int32)), D30))
   else
    (F_X8_cost s5.2 (rf c) s5.1).bind fun y31 =>
    (gIst s5.2 r28 1 s5.1 y31).bind fun D32 =>
    some (.inl ((s5.1 + (1 : Int32)), D32))
noncomputable def b4 (c : Nat) (nv : Int32) : Int32 × gDS → Option ((Int32 × gDS) ⊕ gDS) := fun s4 =>
  if nv ≤ s4.1 then some (.inr (s4.2)) else loop (b5 c nv s4.1) ((0 : Int32), s4.2)
theorem solve_is (D : gDS) (c : Nat) : F_X8_solve D (rf c) = (gRv D (rf c) 8).bind fun _ => (F_X8_arcs D (rf c)).bind fun y1 => (gNwM D y1 y1).bind fun D2 => (gFst D2 (rf c) 8 8 (.inr (.inr (gTop D)))).bind fun D3 => loop (b4 c y1) ((0 : Int32), D3) := rfl
section SOV
variable {D0 : gDS} {c e b d hh tt : Nat} {N : NT} {sv gp : gRF} {R : Nat → Nat → Nat}
theorem slv7 {ρ : Type} (hN : WN N) (hC0 : CO D0 c N sv e b d hh tt gp) (hE0 : GEd D0 N e) (hB0 : GBn D0 N b) {a : Nat} (ha : a < 2 * wE N) {g0 : Nat → Nat} {D : gDS} (hS : SV D0 D c N sv e b d hh tt (rA R a g0)) (hG : Gd N a g0) :
    ∃ t, loop (b7 c (nI (2 * wE N)) (nI a)) ((0 : Int32), (0 : Int32), D) = some t ∧ ∃ f' g' D', t = (Sum.inl (nI f', D') : (Int32 × gDS) ⊕ ρ) ∧ SV D0 D' c N sv e b d hh tt (rA R a g') ∧ Gd N a g' ∧ PI8 N g0 f' g' (2 * wE N) 0 := by
  have hE4 := hN.2.2.1
  have hGs := hG
  refine loop_ind0 (fun k s => k ≤ 2 * wE N ∧ ∃ f g D, s = (nI f, nI k, D) ∧ SV D0 D c N sv e b d hh tt (rA R a g) ∧ Gd N a g ∧ PI8 N g0 f g k 0) _ (2 * wE N) ⟨Nat.zero_le _, 0, g0, D, rfl, hS, hG, Or.inl ⟨rfl, rfl, fun b' c' _ _ h _ => by omega⟩⟩ (fun k s hI => ?_)
  obtain ⟨hk, f, g, D, rfl, hS, hG, hI⟩ := hI
  unfold b7
  dsimp only
  rcases Nat.lt_or_ge k (2 * wE N) with q | q
  · have hn : ¬ nI (2 * wE N) ≤ nI k := fun z => by
      have := (nI_le' (by omega) (by omega)).mp z
      omega
    rw [if_neg hn]
    obtain ⟨s', h1, f', g', D', h2, h3, h4, h5⟩ := slv8 (ρ := (Int32 × gDS) ⊕ ρ) hN hC0 hE0 hB0 ha q (fun z hz => (hGs z hz).1) hS hG hI
    subst h2
    exact Or.inr ⟨q, _, h1, q, f', g', D', rfl, h3, h4, h5⟩
  · obtain rfl : k = 2 * wE N := by omega
    exact Or.inl ⟨_, if_pos (Int32.le_refl _), f, g, D, rfl, hS, hG, hI⟩
theorem slv6 {ρ ρ' : Type} (hN : WN N) (hC0 : CO D0 c N sv e b d hh tt gp) (hE0 : GEd D0 N e) (hB0 : GBn D0 N b) {a : Nat} (ha : a < 2 * wE N) {g0 : Nat → Nat} {D : gDS} (hS : SV D0 D c N sv e b d hh tt (rA R a g0)) (hG : Gd N a g0) :
    ∃ t, loop (b6 c (nI (2 * wE N)) (nI a)) ((1 : Int32), D) = some t ∧ ∃ g' D', t = (Sum.inr (Sum.inl (nI (a + 1), D')) : ρ ⊕ ((Int32 × gDS) ⊕ ρ')) ∧ SV D0 D' c N sv e b d hh tt (rA R a g') ∧ ∀ y, y < 2 * wE N → g' y = gval N a y := by
  have hE4 := hN.2.2.1
  refine loop_ind0 (fun k s => ∃ f g D, s = (nI f, D) ∧ SV D0 D c N sv e b d hh tt (rA R a g) ∧ Gd N a g ∧ ((f = 1 ∧ k + sumN g (2 * wE N) ≤ sumN g0 (2 * wE N)) ∨ (f = 0 ∧ k ≤ sumN g0 (2 * wE N) + 1 ∧ ∀ b' c', b' < 2 * wE N → c' < 2 * wE N → wFol N b' c' = true → g c' ≤ g b' + wCo N c'))) _ (sumN g0 (2 * wE N) + 1) ⟨1, g0, D, rfl, hS, hG, Or.inl ⟨rfl, by omega⟩⟩ (fun k s hI => ?_)
  obtain ⟨f, g, D, rfl, hS, hG, hI⟩ := hI
  unfold b6
  dsimp only
  rcases hI with ⟨rfl, hk⟩ | ⟨rfl, hk, hcl⟩
  · rw [if_neg (by decide : ¬ nI 1 = 0)]
    obtain ⟨t, h1, f', g', D', h2, h3, h4, h5⟩ := slv7 (ρ := ρ ⊕ ((Int32 × gDS) ⊕ ρ')) hN hC0 hE0 hB0 ha hS hG
    subst h2
    refine Or.inr ⟨by omega, _, h1, f', g', D', rfl, h3, h4, ?_⟩
    rcases h5 with ⟨rfl, rfl, h6⟩ | ⟨rfl, h6⟩
    · exact Or.inr ⟨rfl, by omega, fun b' c' hb hc hf => h6 b' c' hb hc (Or.inl hb) hf⟩
    · exact Or.inl ⟨rfl, by omega⟩
  · refine Or.inl ⟨_, if_pos rfl, g, D, by rw [i1, nI_add], hS, fun y hy => ?_⟩
    have h1 := gval_fix hN (fun y hy h => (hG y hy).2.2 h) (fun y hy => (hG y hy).1) hcl y hy
    have h2 := (hG y hy).2.1
    omega
end SOV
