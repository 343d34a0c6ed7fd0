/-! CITY'S PRICE OF A TOUR -/
/-- a city's network, with all of its parts -/
def CV (D : gDS) (c : Nat) (N : NT) (sv : gRF) (e b d hh tt g : Nat) : Prop := CO D c N sv e b d hh tt (rf g) ∧ GEd D N e ∧ GBn D N b ∧ GM D g (2 * wE N) (gval N) ∧ GSv D N sv ∧ GDp D N d
theorem CV.ext {A B : gDS} {c e b d hh tt g : Nat} {N : NT} {sv : gRF} (h : CV A c N sv e b d hh tt g) (x : gE noW A B) : CV B c N sv e b d hh tt g :=
  ⟨h.1.ext x (fun q => q), h.2.1.ext x (fun _ _ q => absurd q id), h.2.2.1.ext x (fun _ _ q => absurd q id), h.2.2.2.1.ext x (fun _ _ _ q => q), h.2.2.2.2.1.ext x (fun _ _ q => absurd q id), x.tI (fun q => q) h.2.2.2.2.2⟩
section PRI
variable {D : gDS} {c e b d hh tt g : Nat} {N : NT} {sv : gRF}
theorem g_price {i n home : Nat} {a : Nat → Nat} (hN : WN N) (hV : CV D c N sv e b d hh tt g) (hR : tI D i (rw8 n a)) (hn : n ≤ 15) (ha : arcsOK N n a) (hh8 : home < 8) : ∃ D', F_X8_price D (rf c) (nI home) (rf i) = some (nI (CK 500000 N home n a), D') ∧ gE noW D D' ∧ gMd n (2 * n) D D' := by
  unfold F_X8_price
  rw [gRv_t hV.1, Option.bind_some]
  obtain ⟨t, h1, h2⟩ := loop_ind0 (body := fun (s1 : Int32 × Int32 × gDS) =>
    (gLen s1.2.2 (rf i)).bind fun z2 =>
    if z2 ≤ s1.2.1 then
     (gLen s1.2.2 (rf i)).bind fun z3 =>
     if ¬ z3 = 0 then
      (gLen s1.2.2 (rf i)).bind fun z4 =>
      (gIld s1.2.2 (rf i) 1 (z4 - (1 : Int32))).bind fun z5 =>
      (F_X8_back s1.2.2 (rf c) z5 (nI home)).bind fun y6 =>
      some (.inr (((s1.1 + y6), s1.2.2)))
     else
      some (.inr (((0 : Int32), s1.2.2)))
    else
     (gIld s1.2.2 (rf i) 1 s1.2.1).bind fun z7 =>
     (F_X8_work s1.2.2 (rf c) z7).bind fun y8 =>
     if ¬ s1.2.1 = 0 then
      (gIld y8.2 (rf i) 1 (s1.2.1 - (1 : Int32))).bind fun z9 =>
      (gIld y8.2 (rf i) 1 s1.2.1).bind fun z10 =>
      (F_X8_gap y8.2 (rf c) z9 z10).bind fun y11 =>
      some (.inl ((s1.1 + (y8.1 + y11)), (s1.2.1 + (1 : Int32)), y8.2))
     else
      (gIld y8.2 (rf i) 1 (0 : Int32)).bind fun z12 =>
      (F_X8_reach y8.2 (rf c) (nI home) z12).bind fun y13 =>
      some (.inl ((s1.1 + (y8.1 + y13)), (s1.2.1 + (1 : Int32)), y8.2)))
    (fun k s => k ≤ n ∧ ∃ D', s = (nI (sumN (cL 500000 N home n a) k + sumN (fun k => wSv N (a k)) k), nI k, D') ∧ gE noW D D' ∧ gMd k (2 * k) D D') (fun t => ∃ D', t = (nI (CK 500000 N home n a), D') ∧ gE noW D D' ∧ gMd n (2 * n) D D') n (s0 := ((0 : Int32), (0 : Int32), D)) ⟨Nat.zero_le _, D, rfl, gE.rf D, gMd.rf D⟩ (fun k s hI => by
    obtain ⟨hk, D', rfl, x, m⟩ := hI
    have hV' := hV.ext x
    have hR' := x.tI (fun q => q) hR
    have hl : gLen D' (rf i) = some (nI n) := by rw [gLen_t hR', rw8_len]
    dsimp only
    rw [hl, Option.bind_some]
    rcases Nat.lt_or_ge k n with q | q
    · have n1 : ¬ nI n ≤ nI k := fun z => by
        have := (nI_le' (by omega) (by omega)).mp z
        omega
      have r1 : ∀ {A : gDS} {j : Nat}, gE noW D A → j < n → gIld A (rf i) 1 (nI j) = some (nI (a j)) := fun {A j} x hj => by
        rw [gIld_t (x.tI (fun q => q) hR) (by rw [rw8_len]; exact hj) (by omega), rw8_get hj]
      obtain ⟨D2, w1, w2, w3⟩ := g_work hN hV'.1 hV'.2.1 hV'.2.2.2.2.1 (ha k q)
      have x2 := x.tr w2
      have hV2 := hV.ext x2
      have m2 : gMd (k + 1) (2 * (k + 1)) D D2 := (m.tr w3).mono (Nat.le_refl _) (by omega)
      refine Or.inr ⟨q, ?_⟩
      rw [if_neg n1, r1 x q, Option.bind_some, w1, Option.bind_some]
      dsimp only
      by_cases z : k = 0
      · subst z
        have n2 : ¬ ¬ nI 0 = 0 := fun z => z rfl
        have r2 : gIld D2 (rf i) 1 (0 : Int32) = some (nI (a 0)) := r1 x2 q
        rw [if_neg n2, r2, Option.bind_some, g_reach hN hV2.1 hV2.2.1 hV2.2.2.2.1 (ha 0 q) hh8, Option.bind_some, i1]
        simp only [nI_add]
        refine ⟨_, rfl, q, D2, ?_, x2, m2⟩
        have e1 : cL 500000 N home n a 0 = en 500000 (wApp N home (a 0)) := by
          unfold cL pv nx
          rw [if_pos rfl, if_pos q]
          rfl
        show _ = (nI (sumN _ 0 + cL 500000 N home n a 0 + (sumN _ 0 + wSv N (a 0))), nI (0 + 1), D2)
        rw [e1, Nat.add_comm (wSv N (a 0))]
        simp only [sumN, Nat.zero_add]
      · have n2 : ¬ nI k = 0 := fun y => z ((nI_eq (b := 0) (by omega) (by omega)).mp y)
        rw [if_pos n2, i1, nI_sub (by omega), r1 x2 (by omega), Option.bind_some, r1 x2 q, Option.bind_some, g_gap hN hV2.1 hV2.2.1 hV2.2.2.2.1 (ha (k - 1) (by omega)) (ha k q), Option.bind_some]
        simp only [nI_add]
        refine ⟨_, rfl, q, D2, ?_, x2, m2⟩
        have e1 : cL 500000 N home n a k = en 500000 (wDh N (a (k - 1)) (a k)) := by
          unfold cL pv nx
          rw [if_neg z, if_pos q]
          rfl
        show _ = (nI (sumN _ k + cL 500000 N home n a k + (sumN (fun k => wSv N (a k)) k + wSv N (a k))), nI (k + 1), D2)
        rw [e1]
        exact congrArg (fun z => ((nI z, nI (k + 1), D2) : Int32 × Int32 × gDS)) (by omega)
    · obtain rfl : k = n := by omega
      refine Or.inl ?_
      rw [if_pos (Int32.le_refl _), Option.bind_some]
      by_cases z : k = 0
      · subst z
        have n2 : ¬ ¬ nI 0 = 0 := fun z => z rfl
        rw [if_neg n2]
        exact ⟨_, rfl, D', rfl, x, m⟩
      · have n2 : ¬ nI k = 0 := fun y => z ((nI_eq (b := 0) (by omega) (by omega)).mp y)
        rw [if_pos n2, Option.bind_some, i1, nI_sub (by omega), gIld_t hR' (by rw [rw8_len]; omega) (by omega), rw8_get (by omega), Option.bind_some, g_back hN hV'.1 hV'.2.1 hV'.2.2.2.1 (ha (k - 1) (by omega)) hh8, Option.bind_some, nI_add]
        refine ⟨_, rfl, D', ?_, x, m⟩
        have e1 : cL 500000 N home k a k = en 500000 (wRet N (a (k - 1)) home) := by
          unfold cL pv nx
          rw [if_neg z, if_neg (Nat.lt_irrefl k)]
          rfl
        unfold CK
        show _ = (nI (sumN _ k + cL 500000 N home k a k + sumN _ k), D')
        rw [e1, show ∀ p r s : Nat, p + r + s = p + s + r from fun p r s => by omega])
  obtain ⟨D', rfl, x, m⟩ := h2
  exact ⟨D', h1, x, m⟩
end PRI
