/-! CITY'S TOURS, READ -/
/-- a plan in a city's homes and tours -/
def GP (D : gDS) (P : PT) (hh tt : Nat) : Prop := tI D hh (rw8 (pT P) (pH P)) ∧ ∃ ts : List gRF, tQ D tt ts ∧ ts.length = pT P ∧ ∀ t, t < pT P → ∃ i, ts[t]? = some (rf i) ∧ tI D i (rw8 (pL P t) (pA P t))
theorem GP.ext {A B : gDS} {P : PT} {hh tt : Nat} (h : GP A P hh tt) (x : gE noW A B) : GP B P hh tt := by
  obtain ⟨h1, ts, h2, h3, h4⟩ := h
  refine ⟨x.tI (fun q => q) h1, ts, x.tQ (fun q => q) h2, h3, fun t ht => ?_⟩
  obtain ⟨i, g1, g2⟩ := h4 t ht
  exact ⟨i, g1, x.tI (fun q => q) g2⟩
theorem GP.row {D : gDS} {P : PT} {hh tt t : Nat} (h : GP D P hh tt) (ht : t < pT P) (h4 : pT P ≤ 4) : ∃ i, gQld D (rf tt) (nI t) = some (rf i) ∧ tI D i (rw8 (pL P t) (pA P t)) := by
  obtain ⟨h1, ts, h2, h3, h5⟩ := h
  obtain ⟨i, g1, g2⟩ := h5 t ht
  exact ⟨i, gQld_t h2 g1 (by omega), g2⟩
theorem GP.cnt {D : gDS} {P : PT} {hh tt : Nat} (h : GP D P hh tt) : gLen D (rf tt) = some (nI (pT P)) := by
  obtain ⟨h1, ts, h2, h3, h5⟩ := h
  rw [gLen_q h2, h3]
theorem GP.home {D : gDS} {P : PT} {hh tt t : Nat} (h : GP D P hh tt) (ht : t < pT P) (h4 : pT P ≤ 4) : gIld D (rf hh) 1 (nI t) = some (nI (pH P t)) := by
  rw [gIld_t h.1 (by rw [rw8_len]; exact ht) (by omega), rw8_get ht]
section TOUR
variable {D : gDS} {c e b d hh tt g : Nat} {N : NT} {sv : gRF} {P : PT}
theorem g_price_ {t : Nat} (hN : WN N) (hw : WQ N P) (hV : CV D c N sv e b d hh tt g) (hP : GP D P hh tt) (ht : t < pT P) : ∃ D', F_X8_price_ D (rf c) (nI t) = some (nI (CK 500000 N (pH P t) (pL P t) (pA P t)), D') ∧ gE noW D D' ∧ gMd (pL P t) (2 * pL P t) D D' := by
  have hn := hN.1
  obtain ⟨w1, w2, w3⟩ := hw.2 t ht
  obtain ⟨i, g1, g2⟩ := hP.row ht hw.1
  obtain ⟨D', p1, p2, p3⟩ := g_price hN hV g2 (by omega) w3 (show pH P t < 8 by omega)
  refine ⟨D', ?_, p2, p3⟩
  unfold F_X8_price_
  rw [gRv_t hV.1, Option.bind_some, gFr_t hV.1 (b := 6) rfl, Option.bind_some, hP.home ht hw.1, Option.bind_some, gFr_t hV.1 (b := 7) rfl, Option.bind_some, g1, Option.bind_some, p1, Option.bind_some]
theorem g_total (hN : WN N) (hw : WQ N P) (hd : DVs N P) (hV : CV D c N sv e b d hh tt g) (hP : GP D P hh tt) : ∃ D', F_X8_total D (rf c) = some (nI (wTot N P), D') ∧ gE noW D D' ∧ gMd 56 112 D D' := by
  have h4 := hw.1
  unfold F_X8_total
  rw [gRv_t hV.1, Option.bind_some]
  obtain ⟨t, h1, h2⟩ := loop_ind0 (body := fun (s1 : Int32 × Int32 × gDS) =>
    (gFr s1.2.2 (rf c) 8 7).bind fun r2 =>
    (gLen s1.2.2 r2).bind fun z3 =>
    if z3 ≤ s1.2.1 then
     some (.inr ((s1.1, s1.2.2)))
    else
     (F_X8_price_ s1.2.2 (rf c) s1.2.1).bind fun y4 =>
     some (.inl ((s1.1 + y4.1), (s1.2.1 + (1 : Int32)), y4.2)))
    (fun k s => k ≤ pT P ∧ ∃ D', s = (nI (sumN (wTC N P) k), nI k, D') ∧ gE noW D D' ∧ gMd (14 * k) (28 * k) D D') (fun t => ∃ D', t = (nI (wTot N P), D') ∧ gE noW D D' ∧ gMd 56 112 D D') (pT P) (s0 := ((0 : Int32), (0 : Int32), D)) ⟨Nat.zero_le _, D, rfl, gE.rf D, gMd.rf D⟩ (fun k s hI => by
    obtain ⟨hk, D', rfl, x, m⟩ := hI
    have hV' := hV.ext x
    have hP' := hP.ext x
    dsimp only
    rw [gFr_t hV'.1 (b := 7) rfl, Option.bind_some, hP'.cnt, Option.bind_some]
    rcases Nat.lt_or_ge k (pT P) with q | q
    · have n1 : ¬ nI (pT P) ≤ nI k := fun z => by
        have := (nI_le' (by omega) (by omega)).mp z
        omega
      obtain ⟨D2, p1, p2, p3⟩ := g_price_ hN hw hV' hP' q
      have h14 := (hw.2 k q).2.1
      refine Or.inr ⟨q, ?_⟩
      rw [if_neg n1, p1, Option.bind_some, i1]
      simp only [nI_add]
      refine ⟨_, rfl, q, D2, ?_, x.tr p2, (m.tr p3).mono (by omega) (by omega)⟩
      have e1 : CK 500000 N (pH P k) (pL P k) (pA P k) = wTC N P k := CK_dv (hd k q)
      show _ = (nI (sumN (wTC N P) k + wTC N P k), nI (k + 1), D2)
      rw [e1]
    · obtain rfl : k = pT P := by omega
      exact Or.inl ⟨_, if_pos (Int32.le_refl _), D', rfl, x, m.mono (by omega) (by omega)⟩)
  obtain ⟨D', rfl, x, m⟩ := h2
  exact ⟨D', h1, x, m⟩
theorem g_load {t : Nat} (hN : WN N) (hw : WQ N P) (hV : CV D c N sv e b d hh tt g) (hP : GP D P hh tt) (ht : t < pT P) : F_X8_load D (rf c) (nI t) = some (nI (wLd N P t)) := by
  obtain ⟨w1, w2, w3⟩ := hw.2 t ht
  obtain ⟨i, g1, g2⟩ := hP.row ht hw.1
  unfold F_X8_load
  rw [gRv_t hV.1, Option.bind_some, gFr_t hV.1 (b := 7) rfl, Option.bind_some, g1, Option.bind_some, gLen_t g2, rw8_len, Option.bind_some]
  refine loop_to (fun k => (nI (sumN (fun k => wDe N (pA P t k / 2)) k), nI k)) (pL P t) rfl (fun k hk => ?_) ?_
  · have n1 : ¬ nI (pL P t) ≤ nI k := fun z => by
      have := (nI_le' (by omega) (by omega)).mp z
      omega
    dsimp only
    rw [if_neg n1, gIld_t g2 (by rw [rw8_len]; exact hk) (by omega), rw8_get hk, Option.bind_some, g_demand hN hV.1 hV.2.1 (w3 k hk), Option.bind_some, i1]
    simp only [nI_add]
    rfl
  · exact if_pos (Int32.le_refl _)
end TOUR
