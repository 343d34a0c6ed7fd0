/-! CITY'S changed -/
section CHG
variable {D : gDS} {c e b d hh tt g : Nat} {N : NT} {sv : gRF} {P : PT}
/-- what changed answers for an edge that tour t serves at k -/
def CG (D D' : gDS) (N : NT) (P : PT) (sv : gRF) (e b d hh g x t k : Nat) (r : gRF) : Prop :=
  (r = none ∧ (¬ wSpare N P t k = true ∨ wBest N (dpl P t k) x = none)) ∨ ∃ c' tt' code w, r = rf c' ∧ wSpare N P t k = true ∧ wBest N (dpl P t k) x = some (code, w) ∧ D.1.length ≤ c' ∧ D.1.length ≤ tt' ∧ CV D' c' N sv e b d hh tt' g ∧ GP D' (bpl (dpl P t k) x code) hh tt'
theorem g_changed {x t k : Nat} (hN : WN N) (hp : WP N P) (h8 : wE N ≤ 8) (hV : CV D c N sv e b d hh tt g) (hP : GP D P hh tt) (hx : x < wE N) (ht' : wTour P x = some t) (hk' : wPos P t x = some k) : ∃ r D', F_X8_changed D (rf c) (nI x) = some (r, D') ∧ CG D D' N P sv e b d hh g x t k r ∧ gE noW D D' ∧ gMd 469 1184 D D' := by
  have hE4 := hN.2.2.1
  have h4 := hp.1.1
  obtain ⟨ht, -⟩ := wTour_lt ht'
  obtain ⟨hk, hke⟩ := wPos_lt hk'
  have hL := (hp.1.2 t ht).2.1
  have hlt := hV.lt
  have haS : aS P ≤ 8 := by have := aS_le hp.1 hp.2.1; omega
  have haD := aS_dpl ht hk
  obtain ⟨D1, tt1, a1, a2, a3, a4, a5, a6, a7⟩ := g_copy h4 hV hP
  obtain ⟨r2, D2, b1, b2⟩ := g_where hN hp.1 (hV.ext a6) (hP.ext a6) (show x < 2 ^ 31 by omega)
  rcases b2 with ⟨q, -, -⟩ | ⟨t', k', q1, q2, rfl, q3, q4, q5, q6⟩
  · rw [ht'] at q
    cases q
  rw [ht'] at q1
  obtain rfl : t = t' := Option.some.inj q1
  rw [hk'] at q2
  obtain rfl : k = k' := Option.some.inj q2
  have x2 := a6.tr q4
  have hV2 := hV.ext x2
  have hP2 := hP.ext x2
  have cV2 := a2.ext q4
  have cP2 := a3.ext q4
  have y0 : gIld D2 (gTop D1) 1 (0 : Int32) = some (nI t) := gIld_t (a := 0) q3 (by show 0 < 2; omega) (by omega)
  have y1 : gIld D2 (gTop D1) 1 (1 : Int32) = some (nI k) := gIld_t (a := 1) q3 (by show 1 < 2; omega) (by omega)
  obtain ⟨i, g1, g2⟩ := hP2.row ht h4
  have g2 : tI D2 i (rw8 (pL P t - 1 + 1) (pA P t)) := by rw [show pL P t - 1 + 1 = pL P t by omega]; exact g2
  obtain ⟨D3, d1, d2, d3, d4, d5⟩ := g_wth (k := k) g2 (by omega) (by omega)
  have cV3 := cV2.ext d3
  have cP3 := cP2.ext d3
  obtain ⟨D4, e1, e2, e3, e4, e5⟩ := cP3.setr ht h4 d2
  have e2 : GP D4 (dpl P t k) hh tt1 := e2
  have e1 : gQst D3 (rf tt1) (nI t) (gTop D2) = some D4 := e1
  obtain ⟨ts3, s3⟩ := cP3.arr
  have ne : e ≠ tt1 ∧ b ≠ tt1 ∧ g ≠ tt1 := ⟨by omega, by omega, by omega⟩
  have cV4 := cV3.exT e3 s3 ne
  have x3 : gE noW D D3 := x2.tr d3
  have x4 : gE noW D D4 := x3.on e3 (fun i hi => by omega)
  have y4 : gIld D4 (gTop D1) 1 (0 : Int32) = some (nI t) := gIld_t (a := 0) (e3.tI (fun q => by
    have := (show D3.1[tt1]? = _ from s3).symm.trans ((congrArg (fun j => D3.1[j]?) q.symm).trans (show D3.1[D1.1.length]? = _ from d3.tI id q3))
    cases this) (d3.tI id q3)) (by show 0 < 2; omega) (by omega)
  have wq := dpl_WQ hp.1 ht hk
  have dL : pL (dpl P t k) t = pL P t - 1 := setT_L1 _ _ _ _
  have dA : pA (dpl P t k) t = delA (pA P t) k := setT_A1 _ _ _ _
  have dH : pH (dpl P t k) t = pH P t := rfl
  obtain ⟨D5, f1, f2, f3⟩ := g_price_ hN wq cV4 e2 (t := t) ht
  have cV5 := cV4.ext f2
  have cP5 := e2.ext f2
  have x5 := x4.tr f2
  have m4 : gMd 9 28 D D4 := by
    have := ((a7.tr q6).tr d5)
    exact ⟨by have := this.1; rw [← e5] at this; omega, by have := this.2; rw [← e5] at this; omega⟩
  have m5 : gMd 22 54 D D5 := (m4.tr f3).mono (by omega) (by omega)
  unfold F_X8_changed jn
  rw [gRv_t hV.1, Option.bind_some, a1, Option.bind_some, b1, Option.bind_some]
  dsimp only
  rw [gTop_rf D, gFr_t (b := 7) cV2.1 rfl, Option.bind_some, y0, Option.bind_some, gFr_t (b := 7) hV2.1 rfl, Option.bind_some, Option.bind_some, g1, Option.bind_some, y1, Option.bind_some, d1, Option.bind_some, e1, Option.bind_some, y4, Option.bind_some, f1, Option.bind_some]
  dsimp only
  rw [i5e]
  by_cases hsp : wSpare N P t k = true
  · have hp1 := dpl_WP hp ht hk hsp
    have hle := CK_dvle (K := 500000) hN (show pL (dpl P t k) t ≤ 14 by omega) (wq.2 t ht).2.2 (hp1.2.2 t ht)
    have n2 : ¬ nI 500000 ≤ nI (CK 500000 N (pH (dpl P t k) t) (pL (dpl P t k) t) (pA (dpl P t k) t)) := fun y => by
      have := (nI_le' (a := 500000) (by omega) (by omega)).mp y
      omega
    have h13 := room13 hN wq hp1.2.1 hx (dpl_none hp.2.1 ht hk hke)
    obtain ⟨r6, D6, p1, p2, p3, p4⟩ := g_best hN wq hp1.2.2 cV5 cP5 h13 hx
    have hc7 := best_c7 (P := dpl P t k) h4 (by omega)
    have x6 := x5.tr p3
    rw [if_neg n2, p1, Option.bind_some]
    dsimp only
    rcases p2 with ⟨k1, k2⟩ | ⟨i, u, l, s, k1, k2, k3, k4, k5, k6, k7⟩
    · rw [if_pos k2]
      exact ⟨_, D6, rfl, Or.inl ⟨rfl, Or.inr k1⟩, x6, (m5.tr p4).mono (by omega) (by omega)⟩
    · have k8 : ¬ r6 = none := fun z => by rw [k1] at z; cases z
      have h13t := h13 u k2
      have cV6 := cV5.ext p3
      have cP6 := cP5.ext p3
      obtain ⟨D7, s1, s2, s3, s4⟩ := g_put wq cV6 cP6 k2 k3 h13t k7
      obtain ⟨ts6, t6⟩ := cP6.arr
      rw [if_neg k8, k1, s1, Option.bind_some]
      refine ⟨_, D7, rfl, Or.inr ⟨D.1.length, tt1, 1000 * u + 10 * l + s, _, rfl, hsp, k6, Nat.le_refl _, by omega, cV6.exT s3 t6 ne, ?_⟩, x6.on s3 (fun i hi => by omega), ((m5.tr p4).tr s4).mono (by omega) (by omega)⟩
      rw [bpl_at (by omega) k4]
      exact s2
  · have hnd : ¬ DV N (pH (dpl P t k) t) (pL (dpl P t k) t) (pA (dpl P t k) t) := fun z => hsp ((dpl_DV hk (hp.2.2 t ht)).2.mpr (by rw [dH, dL, dA] at z; exact z))
    have h2 := CK_nd (K := 500000) hnd
    have hb := CK_le (K := 500000) (home := pH (dpl P t k) t) hN (by omega) (show pL (dpl P t k) t ≤ 14 by omega) (wq.2 t ht).2.2
    have n2 : nI 500000 ≤ nI (CK 500000 N (pH (dpl P t k) t) (pL (dpl P t k) t) (pA (dpl P t k) t)) := (nI_le' (a := 500000) (by omega) (by omega)).mpr h2
    rw [if_pos n2, if_pos rfl]
    exact ⟨_, D5, rfl, Or.inl ⟨rfl, Or.inl hsp⟩, x5, m5.mono (by omega) (by omega)⟩
end CHG
