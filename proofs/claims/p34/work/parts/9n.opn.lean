/-! CITY'S isOpen, open -/
section OPN
variable {D : gDS} {c e b d hh tt g : Nat} {N : NT} {sv : gRF} {P : PT}
theorem WH.ext {x : Nat} {r : gRF} {D' : gDS} (h : WH D P x r D') : gE noW D D' ∧ gMd 1 2 D D' := by
  rcases h with ⟨-, -, rfl⟩ | ⟨t, k, -, -, -, -, h1, -, h2⟩
  · exact ⟨gE.rf _, (gMd.rf _).mono (by omega) (by omega)⟩
  · exact ⟨h1, h2⟩
theorem g_isOpen {x : Nat} (hN : WN N) (hw : WQ N P) (hV : CV D c N sv e b d hh tt g) (hP : GP D P hh tt) (hx : x < wE N) : ∃ D', F_X8_isOpen D (rf c) (nI x) = some (if wWt N P x then (1 : Int32) else (0 : Int32), D') ∧ gE noW D D' ∧ gMd 1 2 D D' := by
  have hE4 := hN.2.2.1
  have hdk := hN.2.2.2.2.2.1 x hx
  obtain ⟨i, g1, g2⟩ := g_row hV.2.1 hx hN
  have g3 : gIld D (rf i) 1 (4 : Int32) = some (nI (wDe N x)) := gIld_t (a := 4) g2 (by show 4 < 5; omega) (by omega)
  unfold F_X8_isOpen
  rw [gRv_t hV.1, Option.bind_some, gFr_t hV.1 (b := 3) rfl, Option.bind_some, g1, Option.bind_some, g3, Option.bind_some]
  unfold wWt
  by_cases q : 0 < wDe N x
  · rw [if_neg (i_pos q (by omega))]
    obtain ⟨r, D', h1, h2⟩ := g_where hN hw hV hP (show x < 2 ^ 31 by omega)
    rw [h1, Option.bind_some]
    refine ⟨D', ?_, h2.ext⟩
    rcases h2 with ⟨y, rfl, rfl⟩ | ⟨t, k, y, -, rfl, -⟩
    · rw [y]
      simp [q]
    · have z : ¬ gTop D = none := fun z => by cases z
      rw [y]
      simp [z]
  · have z : wDe N x = 0 := by omega
    refine ⟨D, ?_, gE.rf D, (gMd.rf D).mono (by omega) (by omega)⟩
    rw [z, if_pos (show nI 0 ≤ (0 : Int32) from Int32.le_refl _)]
    simp
theorem g_open (hN : WN N) (hw : WQ N P) (hV : CV D c N sv e b d hh tt g) (hP : GP D P hh tt) : ∃ D', F_X8_open D (rf c) = some (nI (wUn N P), D') ∧ gE noW D D' ∧ gMd 14 28 D D' := by
  have hE4 := hN.2.2.1
  unfold F_X8_open
  rw [gRv_t hV.1, Option.bind_some]
  obtain ⟨t, h1, h2⟩ := loop_ind0 (body := fun (s1 : Int32 × Int32 × gDS) =>
    (gFr s1.2.2 (rf c) 8 3).bind fun r2 =>
    (gLen s1.2.2 r2).bind fun z3 =>
    if z3 ≤ s1.2.1 then
     some (.inr ((s1.1, s1.2.2)))
    else
     (F_X8_isOpen s1.2.2 (rf c) s1.2.1).bind fun y4 =>
     if y4.1 = 0 then
      some (.inl (s1.1, (s1.2.1 + (1 : Int32)), y4.2))
     else
      some (.inl ((s1.1 + (1 : Int32)), (s1.2.1 + (1 : Int32)), y4.2)))
    (fun k s => k ≤ wE N ∧ ∃ D', s = (nI (cnt (wWt N P) k), nI k, D') ∧ gE noW D D' ∧ gMd k (2 * k) D D') (fun t => ∃ D', t = (nI (wUn N P), D') ∧ gE noW D D' ∧ gMd 14 28 D D') (wE N) (s0 := ((0 : Int32), (0 : Int32), D)) ⟨Nat.zero_le _, D, rfl, gE.rf D, gMd.rf D⟩ (fun k s hI => by
    obtain ⟨hk, D', rfl, x, m⟩ := hI
    have hV' := hV.ext x
    have hP' := hP.ext x
    obtain ⟨es, e1, e2, -⟩ := hV'.2.1
    dsimp only
    rw [gFr_t hV'.1 (b := 3) rfl, Option.bind_some, gLen_q e1, e2, Option.bind_some]
    rcases Nat.lt_or_ge k (wE N) with q | q
    · have n1 : ¬ nI (wE N) ≤ nI k := fun z => by
        have := (nI_le' (by omega) (by omega)).mp z
        omega
      obtain ⟨D2, p1, p2, p3⟩ := g_isOpen hN hw hV' hP' q
      refine Or.inr ⟨q, ?_⟩
      rw [if_neg n1, p1, Option.bind_some]
      have m2 : gMd (k + 1) (2 * (k + 1)) D D2 := (m.tr p3).mono (by omega) (by omega)
      cases z : wWt N P k with
      | true =>
        have z2 : ¬ (if true = true then (1 : Int32) else (0 : Int32)) = 0 := by decide
        rw [if_neg z2, i1]
        simp only [nI_add]
        refine ⟨_, rfl, q, D2, ?_, x.tr p2, m2⟩
        show _ = (nI (cnt (wWt N P) k + (if wWt N P k then 1 else 0)), nI (k + 1), D2)
        rw [z]
        rfl
      | false =>
        have z2 : (if false = true then (1 : Int32) else (0 : Int32)) = 0 := rfl
        rw [if_pos z2, i1]
        simp only [nI_add]
        refine ⟨_, rfl, q, D2, ?_, x.tr p2, m2⟩
        show _ = (nI (cnt (wWt N P) k + (if wWt N P k then 1 else 0)), nI (k + 1), D2)
        rw [z]
        rfl
    · obtain rfl : k = wE N := by omega
      exact Or.inl ⟨_, if_pos (Int32.le_refl _), D', rfl, x, m.mono (by omega) (by omega)⟩)
  obtain ⟨D', rfl, x, m⟩ := h2
  exact ⟨D', h1, x, m⟩
end OPN
