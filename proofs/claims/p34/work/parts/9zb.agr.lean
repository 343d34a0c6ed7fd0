/-! CITY'S sum; whether class and city agree -/
theorem gBm_E {W : Nat → Prop} {D : gDS} {n : Nat} : gE W D (gBm D n) := ⟨Nat.le_refl _, fun _ _ _ => rfl⟩
theorem gBm_M {D : gDS} {n : Nat} : gMd n (6 * n) D (gBm D n) := ⟨Nat.le_refl _, Nat.le_refl _⟩
/-- no tour is loaded beyond the capacity -/
def LDs (N : NT) (P : PT) : Prop := ∀ t, t < pT P → wLd N P t ≤ wC N
section AGR
variable {D : gDS} {c e b d hh tt g : Nat} {N : NT} {sv : gRF} {P : PT}
theorem g_sum (hN : WN N) (hp : WP N P) (h8 : wE N ≤ 8) (hV : CV D c N sv e b d hh tt g) (hP : GP D P hh tt) : ∃ D', F_X8_sum D (rf c) = some (ckT N P (pT P), D') ∧ gE noW D D' ∧ gMd 22 44 D D' := by
  have h4 := hp.1.1
  have haS := aS_le hp.1 hp.2.1
  obtain ⟨D1, a1, a2, a3⟩ := g_totalA hN hp.1 hp.2.2 hV hP
  obtain ⟨D2, b1, b2, b3⟩ := g_open hN hp.1 (hV.ext a2) (hP.ext a2)
  have x2 := a2.tr b2
  have hV2 := hV.ext x2
  have hP2 := hP.ext x2
  refine ⟨D2, ?_, x2, (a3.tr b3).mono (by omega) (by omega)⟩
  unfold F_X8_sum
  rw [gRv_t hV.1, Option.bind_some, a1, Option.bind_some, b1, Option.bind_some]
  dsimp only
  refine loop_to (fun t => (ckT N P t, nI t)) (pT P) rfl (fun t ht => ?_) ?_
  · have n1 : ¬ nI (pT P) ≤ nI t := fun z => by
      have := (nI_le' (by omega) (by omega)).mp z
      omega
    have hL := (hp.1.2 t ht).2.1
    obtain ⟨i, g1, g2⟩ := hP2.row ht h4
    dsimp only
    rw [gFr_t hV2.1 (b := 7) rfl, Option.bind_some, hP2.cnt, Option.bind_some, if_neg n1, gFr_t hV2.1 (b := 6) rfl, Option.bind_some, hP2.home ht h4, Option.bind_some, Option.bind_some, g1, Option.bind_some, gLen_t g2, rw8_len, Option.bind_some, Option.bind_some, g1, Option.bind_some, gLen_t g2, rw8_len, Option.bind_some]
    refine loop_to (fun k => (ckR P t (ckT N P t) (2 + k), nI k)) (pL P t) rfl (fun k hk => ?_) ?_
    · have n2 : ¬ nI (pL P t) ≤ nI k := fun z => by
        have := (nI_le' (by omega) (by omega)).mp z
        omega
      dsimp only
      rw [if_neg n2, gIld_t g2 (by rw [rw8_len]; exact hk) (by omega), rw8_get hk, Option.bind_some, i1]
      simp only [nI_add]
      have e2 : ckR P t (ckT N P t) (2 + (k + 1)) = (31 : Int64) * ckR P t (ckT N P t) (2 + k) + (nI (pA P t k)).toInt64 := by
        rw [show 2 + (k + 1) = (2 + k) + 1 by omega]
        show (31 : Int64) * ckR P t (ckT N P t) (2 + k) + (nI (ckC P t (2 + k))).toInt64 = _
        rw [show 2 + k = k + 2 by omega]
        rfl
      rw [e2]
    · dsimp only
      rw [if_pos (Int32.le_refl _), nI_1]
      rfl
  · dsimp only
    rw [gFr_t hV2.1 (b := 7) rfl, Option.bind_some, hP2.cnt, Option.bind_some, if_pos (Int32.le_refl _)]
theorem g_agrees {h : PH} {H : HT} (ok : okS N P H) (hl : LDs N P) (ca : CA h N P) (h8 : wE N ≤ 8) (hV : CV D c N sv e b d hh tt g) (hP : GP D P hh tt) : ∃ D', F_L_agrees (h, D) (rf c) = some ((1 : Int32), (h, D')) ∧ gE noW D D' ∧ gMd 106 500 D D' := by
  have ok' := ok
  obtain ⟨hN, hp, hw⟩ := ok
  have h4 := hp.1.1
  have haS := aS_le hp.1 hp.2.1
  have hE4 := hN.2.2.1
  have z1 : ¬ (1 : Int32) = 0 := by decide
  obtain ⟨es, hE1, hE2, -⟩ := id hV.2.1
  suffices hh : ∃ t, F_L_agrees (h, D) (rf c) = some t ∧ ∃ D', t = ((1 : Int32), (h, D')) ∧ gE noW D D' ∧ gMd 106 500 D D' by
    obtain ⟨t, h1, D', rfl, h2⟩ := hh
    exact ⟨D', h1, h2⟩
  obtain ⟨D1, a1, a2, a3⟩ := g_totalA hN hp.1 hp.2.2 hV hP
  obtain ⟨D2, b1, b2, b3⟩ := g_open hN hp.1 (hV.ext a2) (hP.ext a2)
  have x2 := a2.tr b2
  obtain ⟨D3, c1, c2, c3⟩ := g_sum hN hp h8 (hV.ext x2) (hP.ext x2)
  have x3 := x2.tr c2
  have m3 : gMd 44 88 D D3 := ((a3.tr b3).tr c3).mono (by omega) (by omega)
  have k1 : F_X7_nodeCount h = nI (wN N) := ca.1.1
  have k2 : F_X7_edgeCount h = nI (wE N) := ca.1.2.2.1
  have k3 : F_X7_depotCount h = nI (wD N) := ca.1.2.2.2.1
  have k4 : F_X7_tourCount h = nI (pT P) := ca.2.2.1
  have kd : gLen D (rf d) = some (nI (wD N)) := by
    rw [gLen_t hV.2.2.2.2.2, List.length_map, List.length_range]
  unfold F_L_agrees jn
  dsimp only
  rw [gFi_t hV.1 (b := 0) rfl, Option.bind_some, k1, if_neg (fun z => z rfl), gFr_t hV.1 (b := 3) rfl, Option.bind_some, gLen_q hE1, hE2, Option.bind_some, k2, if_neg (fun z => z rfl), gFr_t hV.1 (b := 5) rfl, Option.bind_some, kd, Option.bind_some, k3, if_neg (fun z => z rfl), gFr_t hV.1 (b := 7) rfl, Option.bind_some, hP.cnt, Option.bind_some, k4, if_neg (fun z => z rfl), c_total hN hp.1 hp.2.2 ca.1 ca.2.1 ca.2.2, Option.bind_some, a1, Option.bind_some]
  dsimp only
  rw [if_neg (fun z => z rfl), c_unserved hN hp.1 ca.1 ca.2.2, Option.bind_some, b1, Option.bind_some]
  dsimp only
  rw [if_neg (fun z => z rfl), c_check ok' ca, Option.bind_some, c1, Option.bind_some]
  dsimp only
  rw [lg_self, if_neg (fun z => z rfl)]
  refine loop_ind0 (fun t s => t ≤ pT P ∧ ∃ D', s = ((1 : Int32), nI t, (h, D')) ∧ gE noW D D' ∧ gMd (44 + 7 * t + 4 * sumN (pL P) t) (88 + 42 * t + 20 * sumN (pL P) t) D D') _ (pT P) ⟨Nat.zero_le _, D3, rfl, x3, m3⟩ (fun t s hI => ?_)
  obtain ⟨ht, A, rfl, x, m⟩ := hI
  have hVA := hV.ext x
  have hPA := hP.ext x
  dsimp only
  rw [gFr_t hVA.1 (b := 7) rfl, Option.bind_some, hPA.cnt, Option.bind_some]
  rcases Nat.lt_or_ge t (pT P) with q | q
  · have n1 : ¬ nI (pT P) ≤ nI t := fun z => by
      have := (nI_le' (by omega) (by omega)).mp z
      omega
    have hL := (hp.1.2 t q).2.1
    have e5 : ∀ {n}, gE noW A (gBm A n) := gBm_E
    have x1 : gE noW A (gBm A 1) := gBm_E
    have x2 : gE noW A (gBm (gBm A 1) 1) := x1.tr gBm_E
    have x3 : gE noW A (gBm (gBm (gBm A 1) 1) 1) := x2.tr gBm_E
    have x4 : gE noW A (gBm (gBm (gBm (gBm A 1) 1) 1) 1) := x3.tr gBm_E
    have x5 : gE noW A (gBm (gBm (gBm (gBm (gBm A 1) 1) 1) 1) 1) := x4.tr gBm_E
    have m5 : gMd 5 30 A (gBm (gBm (gBm (gBm (gBm A 1) 1) 1) 1) 1) := ((((gBm_M.tr gBm_M).tr gBm_M).tr gBm_M).tr gBm_M)
    have f1 := (hVA.ext x1).1
    obtain ⟨i, g1, g2⟩ := (hPA.ext x2).row q h4
    obtain ⟨B, p1, p2, p3⟩ := g_price_ hN hp.1 (hVA.ext x5) (hPA.ext x5) q
    have e1 : CK 500000 N (pH P t) (pL P t) (pA P t) = wTC N P t := CK_dv (hp.2.2 t q)
    rw [e1] at p1
    have xB := x5.tr p2
    have mB := m5.tr p3
    obtain ⟨i2, g3, g4⟩ := (hPA.ext xB).row q h4
    have n3 : ¬ nI (wC N) < nI (wLd N P t) := fun z => by
      have h9 := hN.2.1
      have := hl t q
      have := (nI_lt' (by omega) (by omega)).mp z
      omega
    refine Or.inr ⟨q, ?_⟩
    rw [if_neg n1, if_neg z1, l_depot hp ca q, Option.bind_some, gFr_t f1 (b := 6) rfl, Option.bind_some, (hPA.ext x1).home q h4, Option.bind_some, if_neg (fun z => z rfl), l_length hp ca q, Option.bind_some, gFr_t (hVA.ext x2).1 (b := 7) rfl, Option.bind_some, g1, Option.bind_some, gLen_t g2, rw8_len, Option.bind_some, if_neg (fun z => z rfl), l_load hN hp ca q, Option.bind_some, g_load hN hp.1 (hVA.ext x3) (hPA.ext x3) q, Option.bind_some, if_neg (fun z => z rfl), Option.bind_some, gFi_t (hVA.ext x4).1 (b := 1) rfl, Option.bind_some, if_neg n3, l_cost hN hp ca q, Option.bind_some, p1, Option.bind_some]
    dsimp only
    rw [if_neg (fun z => z rfl), gFr_t (hVA.ext xB).1 (b := 7) rfl, Option.bind_some, g3, Option.bind_some, gLen_t g4, rw8_len, Option.bind_some, l_arc_end hp ca q, Option.bind_some, if_neg (fun z => z rfl)]
    have xC : gE noW A (gBm B 2) := xB.tr gBm_E
    have mC : gMd (7 + pL P t) (42 + 2 * pL P t) A (gBm B 2) := (mB.tr gBm_M).mono (by omega) (by omega)
    refine ex_inl (loop_ind0 (fun k s => k ≤ pL P t ∧ ∃ D', s = ((1 : Int32), nI k, (h, D')) ∧ gE noW A D' ∧ gMd (7 + pL P t + 3 * k) (42 + 2 * pL P t + 18 * k) A D') _ (pL P t) ⟨Nat.zero_le _, _, rfl, xC, mC⟩ (fun k s hI => ?_))
    obtain ⟨hk, B', rfl, y, n⟩ := hI
    have hV' := hVA.ext y
    have hP' := hPA.ext y
    obtain ⟨i3, g5, g6⟩ := hP'.row q h4
    dsimp only
    rw [gFr_t hV'.1 (b := 7) rfl, Option.bind_some, g5, Option.bind_some, gLen_t g6, rw8_len, Option.bind_some]
    rcases Nat.lt_or_ge k (pL P t) with q2 | q2
    · have n2 : ¬ nI (pL P t) ≤ nI k := fun z => by
        have := (nI_le' (by omega) (by omega)).mp z
        omega
      have y2 : gE noW A (gBm B' 2) := y.tr gBm_E
      obtain ⟨i4, g7, g8⟩ := (hPA.ext y2).row q h4
      have hax := (hp.1.2 t q).2.2 k q2
      have hto : wTour P (pA P t k / 2) = some t := by
        cases hw : wTour P (pA P t k / 2) with
        | none => exact absurd rfl (tour_none.mp hw t k q q2)
        | some u =>
          obtain ⟨h1, j, h2⟩ := wTour_lt hw
          obtain ⟨h3, h5⟩ := wPos_lt h2
          rw [(hp.2.1 u j t k h1 h3 q q2 h5).1]
      refine Or.inr ⟨q2, ?_⟩
      rw [if_neg n2, if_neg z1, l_arc hN hp ca q q2, Option.bind_some, gFr_t (hVA.ext y2).1 (b := 7) rfl, Option.bind_some, g7, Option.bind_some, gIld_t g8 (by rw [rw8_len]; exact q2) (by omega), rw8_get q2, Option.bind_some, if_neg (fun z => z rfl), Option.bind_some, g7, Option.bind_some, gIld_t g8 (by rw [rw8_len]; exact q2) (by omega), rw8_get q2, Option.bind_some, half_I (by omega), l_tourOf hN hp ca (by omega), Option.bind_some, hto, show eA (some t) = nI t from rfl, if_neg (fun z => z rfl)]
      refine ⟨_, rfl, q2, _, by rw [nI_1], (y2.tr gBm_E), ((n.tr gBm_M).tr gBm_M).mono (by omega) (by omega)⟩
    · obtain rfl : k = pL P t := by omega
      refine Or.inl ⟨_, if_pos (Int32.le_refl _), _, rfl, q, B', by rw [nI_1], x.tr y, ?_⟩
      have e6 : sumN (pL P) (t + 1) = sumN (pL P) t + pL P t := rfl
      exact (m.tr n).mono (by omega) (by omega)
  · obtain rfl : t = pT P := by omega
    have e7 : aS P = sumN (pL P) (pT P) := rfl
    have x1 : gE noW A (gBm A 1) := gBm_E
    have hE9 := gE.tQ (x.tr x1) id hE1
    refine Or.inl ?_
    rw [if_pos (Int32.le_refl _), if_neg z1, Option.bind_some, hPA.cnt, Option.bind_some, l_length_no hp ca, Option.bind_some, if_neg (fun z => z rfl), gFr_t (hVA.ext x1).1 (b := 3) rfl, Option.bind_some, gLen_q hE9, hE2, Option.bind_some, l_tourOf_no hN ca, Option.bind_some, if_neg (fun z => z rfl)]
    exact ⟨_, rfl, _, rfl, x.tr (x1.tr gBm_E), ((m.tr gBm_M).tr gBm_M).mono (by omega) (by omega)⟩
end AGR
