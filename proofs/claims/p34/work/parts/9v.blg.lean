/-! CITY'S build -/
section BLG
variable {D : gDS} {c e b d hh tt g : Nat} {N : NT} {sv : gRF} {P : PT}
theorem bpl_at {e t k s : Nat} (hk : k ≤ 99) (hs : s < 2) : bpl P e (1000 * t + 10 * k + s) = setT P t (pL P t + 1) (insA (pA P t) k (2 * e + s)) := by
  unfold bpl
  rw [show (1000 * t + 10 * k + s) / 1000 = t by omega, show (1000 * t + 10 * k + s) % 1000 / 10 = k by omega, show (1000 * t + 10 * k + s) % 10 = s by omega]
theorem GP.arr {D : gDS} (h : GP D P hh tt) : ∃ ts, tQ D tt ts := by
  obtain ⟨-, ts, h1, -⟩ := h
  exact ⟨ts, h1⟩
theorem g_build (hN : WN N) (hp : WP N P) (hV : CV D c N sv e b d hh tt g) (hP : GP D P hh tt) (ne : e ≠ tt ∧ b ≠ tt ∧ g ≠ tt) (h8 : wE N ≤ 8) : ∃ D', F_X8_build D (rf c) = some (nI (fB N P (wE N)).2, D') ∧ CV D' c N sv e b d hh tt g ∧ GP D' (fB N P (wE N)).1 hh tt ∧ gE (fun j => j = tt) D D' ∧ gMd 4432 11264 D D' := by
  have hE4 := hN.2.2.1
  unfold F_X8_build
  rw [gRv_t hV.1, Option.bind_some]
  obtain ⟨u, h1, h2⟩ := loop_ind0 (body := fun (s1 : Int32 × Int32 × gDS) =>
    (gFr s1.2.2 (rf c) 8 3).bind fun r2 =>
    (gLen s1.2.2 r2).bind fun z3 =>
    if z3 ≤ s1.2.1 then
     some (.inr ((s1.1, s1.2.2)))
    else
     (F_X8_isOpen s1.2.2 (rf c) s1.2.1).bind fun y4 =>
     jn (fun (v6 : gRF × gDS) =>
      if v6.1 = none then
       some (.inl (s1.1, (s1.2.1 + (1 : Int32)), v6.2))
      else
       (F_X8_put v6.2 (rf c) v6.1).bind fun y7 =>
       some (.inl ((s1.1 + (1 : Int32)), (s1.2.1 + (1 : Int32)), y7))) (fun k5 =>
      if y4.1 = 0 then
       k5 (none, y4.2)
      else
       (F_X8_best y4.2 (rf c) s1.2.1).bind fun y8 =>
       k5 (y8.1, y8.2))) (fun j s => j ≤ wE N ∧ ∃ D', s = (nI (fB N P j).2, nI j, D') ∧ CV D' c N sv e b d hh tt g ∧ GP D' (fB N P j).1 hh tt ∧ gE (fun j => j = tt) D D' ∧ gMd (554 * j) (1408 * j) D D') (fun u => ∃ D', u = (nI (fB N P (wE N)).2, D') ∧ CV D' c N sv e b d hh tt g ∧ GP D' (fB N P (wE N)).1 hh tt ∧ gE (fun j => j = tt) D D' ∧ gMd 4432 11264 D D') (wE N) (s0 := ((0 : Int32), (0 : Int32), D)) ⟨Nat.zero_le _, D, rfl, hV, hP, gE.rf D, gMd.rf D⟩ (fun j s hI => by
    obtain ⟨hj, D', rfl, hV', hP', x, m⟩ := hI
    obtain ⟨w1, w2⟩ := fB_WP hN hp j hj
    obtain ⟨es, e1, e2, -⟩ := hV'.2.1
    dsimp only
    rw [gFr_t hV'.1 (b := 3) rfl, Option.bind_some, gLen_q e1, e2, Option.bind_some]
    rcases Nat.lt_or_ge j (wE N) with q | q
    · have n1 : ¬ nI (wE N) ≤ nI j := fun z => by
        have := (nI_le' (by omega) (by omega)).mp z
        omega
      refine Or.inr ⟨q, ?_⟩
      obtain ⟨D1, p1, p2, p3⟩ := g_isOpen hN w1.1 hV' hP' q
      have hV1 := hV'.ext p2
      have hP1 := hP'.ext p2
      have x1 : gE (fun j => j = tt) D D1 := x.tr (p2.mono (fun _ _ z => absurd z id))
      have f1 : fB N P (j + 1) = if wWt N (fB N P j).1 j then (match wBest N (fB N P j).1 j with
        | none => fB N P j
        | some (c, _) => (bpl (fB N P j).1 j c, (fB N P j).2 + 1)) else fB N P j := rfl
      rw [if_neg n1, p1, Option.bind_some, f1]
      unfold jn
      dsimp only
      by_cases y : wWt N (fB N P j).1 j = true
      · have y2 := y
        unfold wWt at y2
        rw [Bool.and_eq_true, Option.isNone_iff_eq_none] at y2
        have h13 := room13 hN w1.1 w1.2.1 q y2.2
        have hc8 := best_c8 w1.1.1 (show aS (fB N P j).1 ≤ 8 by have := aS_le w1.1 w1.2.1; omega)
        obtain ⟨r, D2, r1, r2, r3, r4⟩ := g_best hN w1.1 w1.2.2 hV1 hP1 h13 q
        have z0 : ¬ (if true = true then (1 : Int32) else (0 : Int32)) = 0 := by decide
        have hV2 := hV1.ext r3
        have hP2 := hP1.ext r3
        have x2 : gE (fun j => j = tt) D D2 := x1.tr (r3.mono (fun _ _ z => absurd z id))
        rw [y, if_neg z0, r1, Option.bind_some, if_pos rfl]
        rcases r2 with ⟨k1, k2⟩ | ⟨i, t, k, s, k1, k2, k3, k4, k5, k6, k7⟩
        · rw [k1, if_pos k2]
          exact ⟨_, rfl, q, D2, by rw [nI_1], hV2, hP2, x2, ((m.tr p3).tr r4).mono (by omega) (by omega)⟩
        · have k8 : ¬ r = none := fun z => by rw [k1] at z; cases z
          have h13t := h13 t k2
          obtain ⟨D3, s1, s2, s3, s4⟩ := g_put w1.1 hV2 hP2 k2 k3 h13t k7
          obtain ⟨ts, t1⟩ := hP2.arr
          rw [k6, if_neg k8, k1, s1, Option.bind_some]
          refine ⟨_, rfl, q, D3, by rw [nI_1, nI_1], hV2.exT s3 t1 ne, ?_, x2.tr s3, (((m.tr p3).tr r4).tr s4).mono (by omega) (by omega)⟩
          show GP D3 (bpl (fB N P j).1 j (1000 * t + 10 * k + s)) hh tt
          rw [bpl_at (by omega) k4]
          exact s2
      · rw [Bool.not_eq_true] at y
        have z0 : (if false = true then (1 : Int32) else (0 : Int32)) = 0 := rfl
        rw [y, if_pos z0, if_pos rfl]
        exact ⟨_, rfl, q, D1, by rw [nI_1]; rfl, hV1, hP1, x1, (m.tr p3).mono (by omega) (by omega)⟩
    · obtain rfl : j = wE N := by omega
      exact Or.inl ⟨_, if_pos (Int32.le_refl _), D', rfl, hV', hP', x, m.mono (by omega) (by omega)⟩)
  obtain ⟨D', rfl, h3⟩ := h2
  exact ⟨D', h1, h3⟩
end BLG
