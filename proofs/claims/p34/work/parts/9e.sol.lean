/-! SOLVE: the city's ways are the least -/
section SOL
variable {D0 : gDS} {c e b d hh tt : Nat} {N : NT} {sv gp : gRF} {R : Nat → Nat → Nat}
theorem rA_rA {a : Nat} {g g' : Nat → Nat} : rA (rA R a g) a g' = rA R a g' := by
  funext x
  unfold rA
  by_cases q : x = a
  · rw [if_pos q, if_pos q]
  · rw [if_neg q, if_neg q, if_neg q]
/-- how far a pass is: nothing found yet, or something made less -/
def PI8 (N : NT) (g0 : Nat → Nat) (f : Nat) (g : Nat → Nat) (y k : Nat) : Prop := (f = 0 ∧ g = g0 ∧ ∀ b' c', b' < 2 * wE N → c' < 2 * wE N → (b' < y ∨ (b' = y ∧ c' < k)) → wFol N b' c' = true → g0 c' ≤ g0 b' + wCo N c') ∨ (f = 1 ∧ sumN g (2 * wE N) < sumN g0 (2 * wE N))
theorem slv8 {ρ : Type} (hN : WN N) (hC0 : CO D0 c N sv e b d hh tt gp) (hE0 : GEd D0 N e) (hB0 : GBn D0 N b) {a y : Nat} (ha : a < 2 * wE N) (hy : y < 2 * wE N) {g0 : Nat → Nat} (hg0 : ∀ z, z < 2 * wE N → g0 z ≤ 500000) {f : Nat} {g : Nat → Nat} {D : gDS} (hS : SV D0 D c N sv e b d hh tt (rA R a g)) (hG : Gd N a g) (hI : PI8 N g0 f g y 0) :
    ∃ t, loop (fun (s8 : Int32 × Int32 × gDS) =>
      if nI (2 * wE N) ≤ s8.2.1 then
       some (.inr (.inl (s8.1, (nI y + (1 : Int32)), s8.2.2)))
      else
       (gFr s8.2.2 (rf c) 8 8).bind fun r9 =>
       (gQld s8.2.2 r9 (nI a)).bind fun r10 =>
       (gIld s8.2.2 r10 1 (nI y)).bind fun z11 =>
       if (500000 : Int32) ≤ z11 then
        some (.inr (.inl (s8.1, (nI y + (1 : Int32)), s8.2.2)))
       else
        (F_X8_mayTurn s8.2.2 (rf c) (nI y) s8.2.1).bind fun y12 =>
        if y12 = 0 then
         some (.inl (s8.1, (s8.2.1 + (1 : Int32)), s8.2.2))
        else
         (gFr s8.2.2 (rf c) 8 8).bind fun r13 =>
         (gQld s8.2.2 r13 (nI a)).bind fun r14 =>
         (gIld s8.2.2 r14 1 s8.2.1).bind fun z15 =>
         (gFr s8.2.2 (rf c) 8 8).bind fun r16 =>
         (gQld s8.2.2 r16 (nI a)).bind fun r17 =>
         (gIld s8.2.2 r17 1 (nI y)).bind fun z18 =>
         (F_X8_cost s8.2.2 (rf c) s8.2.1).bind fun y19 =>
         if (z18 + y19) < z15 then
          (gFr s8.2.2 (rf c) 8 8).bind fun r20 =>
          (gQld s8.2.2 r20 (nI a)).bind fun r21 =>
          (gFr s8.2.2 (rf c) 8 8).bind fun r22 =>
          (gQld s8.2.2 r22 (nI a)).bind fun r23 =>
          (gIld s8.2.2 r23 1 (nI y)).bind fun z24 =>
          (F_X8_cost s8.2.2 (rf c) s8.2.1).bind fun y25 =>
          (gIst s8.2.2 r21 1 s8.2.1 (z24 + y25)).bind fun D26 =>
          some (.inl ((1 : Int32), (s8.2.1 + (1 : Int32)), D26))
         else
          some (.inl (s8.1, (s8.2.1 + (1 : Int32)), s8.2.2))) (nI f, (0 : Int32), D) = some t ∧
      ∃ f' g' D', t = (Sum.inl (nI f', nI (y + 1), D') : (Int32 × Int32 × gDS) ⊕ ρ) ∧ SV D0 D' c N sv e b d hh tt (rA R a g') ∧ Gd N a g' ∧ PI8 N g0 f' g' (y + 1) 0 := by
  have hE4 := hN.2.2.1
  refine loop_ind0 (fun k s => k ≤ 2 * wE N ∧ ∃ f g D, s = (nI f, nI k, D) ∧ SV D0 D c N sv e b d hh tt (rA R a g) ∧ Gd N a g ∧ PI8 N g0 f g y k) _ (2 * wE N) ⟨Nat.zero_le _, f, g, D, rfl, hS, hG, hI⟩ (fun k s hI => ?_)
  obtain ⟨hk, f, g, D, rfl, hS, hG, hI⟩ := hI
  obtain ⟨s1, s2, s3, s4, -⟩ := id hS
  dsimp only
  rw [i1]
  simp only [nI_add]
  rcases Nat.lt_or_ge k (2 * wE N) with q | q
  · have hn : ¬ nI (2 * wE N) ≤ nI k := fun z => by
      have := (nI_le' (by omega) (by omega)).mp z
      omega
    have eg : ∀ z, z < 2 * wE N → gIld D (rf (D0.1.length + 1 + a)) 1 (nI z) = some (nI (g z)) := fun z hz => by
      rw [s4.get ha hz (by omega), rA_at]
    have hgy := (hG y hy).1
    have hgk := (hG k q).1
    have hco := (hN.2.2.2.2.1 k q).2.2.1
    rw [if_neg hn, gFr_t s1 (b := 8) rfl, Option.bind_some, s4.row ha (by omega), Option.bind_some, eg y hy, Option.bind_some]
    have e5 : (500000 : Int32) ≤ nI (g y) ↔ 500000 ≤ g y := nI_le' (a := 500000) (by omega) (by omega)
    by_cases q5 : 500000 ≤ g y
    · refine Or.inl ⟨_, if_pos (e5.mpr q5), f, g, D, rfl, hS, hG, ?_⟩
      rcases hI with ⟨rfl, rfl, h9⟩ | h9
      · refine Or.inl ⟨rfl, rfl, fun b' c' hb hc hlt hf => ?_⟩
        rcases Nat.lt_or_ge b' y with r | r
        · exact h9 b' c' hb hc (Or.inl r) hf
        · obtain rfl : b' = y := by omega
          have := hg0 c' hc
          omega
      · exact Or.inr h9
    · rw [if_neg (fun z => q5 (e5.mp z)), g_turn hN s1 s2 s3 hy q, Option.bind_some]
      cases hw : wFol N y k with
      | false =>
        refine Or.inr ⟨q, _, if_pos rfl, q, f, g, D, rfl, hS, hG, ?_⟩
        rcases hI with ⟨rfl, rfl, h9⟩ | h9
        · refine Or.inl ⟨rfl, rfl, fun b' c' hb hc hlt hf => ?_⟩
          by_cases r : b' = y ∧ c' = k
          · rw [r.1, r.2, hw] at hf
            cases hf
          · exact h9 b' c' hb hc (by omega) hf
        · exact Or.inr h9
      | true =>
        rw [if_pos rfl, if_neg (by decide), Option.bind_some, s4.row ha (by omega), Option.bind_some, eg k q, Option.bind_some, Option.bind_some, s4.row ha (by omega), Option.bind_some, eg y hy, Option.bind_some, g_cost hN s1 s2 q, Option.bind_some, nI_add]
        by_cases q6 : g y + wCo N k < g k
        · have hv : g y + wCo N k < (rA R a g) a k := by rw [rA_at]; exact q6
          obtain ⟨D', w1, w2⟩ := hS.set (v := g y + wCo N k) ha q hN hC0 hE0 hB0
          rw [if_pos ((nI_lt' (by omega) (by omega)).mpr q6), Option.bind_some, s4.row ha (by omega), Option.bind_some, Option.bind_some, s4.row ha (by omega), Option.bind_some, eg y hy, Option.bind_some, Option.bind_some, nI_add, w1, Option.bind_some]
          refine Or.inr ⟨q, _, rfl, q, 1, up8 g k (g y + wCo N k), D', rfl, ?_, ?_, Or.inr ⟨rfl, ?_⟩⟩
          · rw [rA_rA, rA_at] at w2
            exact w2
          · intro z hz
            unfold up8
            by_cases r : z = k
            · subst r
              rw [if_pos rfl]
              obtain ⟨h1, h2, h3⟩ := hG z hz
              have h4 := gval_step hN (x := a) hy hz hw
              have h5 := (hG y hy).2.1
              exact ⟨by omega, by omega, fun h6 => by have := h3 h6; omega⟩
            · rw [if_neg r]
              exact hG z hz
          · have h7 := sum_up (f := g) q q6
            rcases hI with ⟨-, rfl, -⟩ | ⟨-, h8⟩
            · exact h7
            · omega
        · rw [if_neg (fun z => q6 ((nI_lt' (by omega) (by omega)).mp z))]
          refine Or.inr ⟨q, _, rfl, q, f, g, D, rfl, hS, hG, ?_⟩
          rcases hI with ⟨rfl, rfl, h9⟩ | h9
          · refine Or.inl ⟨rfl, rfl, fun b' c' hb hc hlt hf => ?_⟩
            by_cases r : b' = y ∧ c' = k
            · rw [r.1, r.2]
              omega
            · exact h9 b' c' hb hc (by omega) hf
          · exact Or.inr h9
  · obtain rfl : k = 2 * wE N := by omega
    refine Or.inl ⟨_, if_pos (Int32.le_refl _), f, g, D, rfl, hS, hG, ?_⟩
    rcases hI with ⟨rfl, rfl, h9⟩ | h9
    · exact Or.inl ⟨rfl, rfl, fun b' c' hb hc hlt hf => h9 b' c' hb hc (by omega) hf⟩
    · exact Or.inr h9
end SOL
