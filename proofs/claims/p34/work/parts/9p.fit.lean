/-! CITY'S fits -/
theorem wLd_le9 {N : NT} {P : PT} {t : Nat} (hN : WN N) (hw : WQ N P) (ht : t < pT P) : wLd N P t ≤ 1386 := by
  obtain ⟨w1, w2, w3⟩ := hw.2 t ht
  have h := sumN_le (f := fun k => wDe N (pA P t k / 2)) (B := 99) (k := pL P t) (fun j hj => hN.2.2.2.2.2.1 _ (by have := w3 j hj; omega))
  unfold wLd
  omega
section FIT
variable {D : gDS} {c e b d hh tt g : Nat} {N : NT} {sv : gRF} {P : PT}
theorem g_fits {t k x : Nat} (hN : WN N) (hw : WQ N P) (hd : DVs N P) (hV : CV D c N sv e b d hh tt g) (hP : GP D P hh tt) (ht : t < pT P) (hk : k ≤ pL P t) (h13 : pL P t ≤ 13) (hx : x < 2 * wE N) : ∃ D', F_X8_fits D (rf c) (nI t) (nI k) (nI x) = some (if (wRoom N P t (x / 2) && wCand N P t k x) = true then (1 : Int32) else (0 : Int32), D') ∧ gE noW D D' ∧ gMd (pL P t + 2) (3 * pL P t + 3) D D' := by
  have hn := hN.1
  have hC9 := hN.2.1
  obtain ⟨w1, w2, w3⟩ := hw.2 t ht
  obtain ⟨i, g1, g2⟩ := hP.row ht hw.1
  have hl := wLd_le9 hN hw ht
  have hdk := hN.2.2.2.2.2.1 (x / 2) (by omega)
  unfold F_X8_fits
  rw [gRv_t hV.1, Option.bind_some, g_load hN hw hV hP ht, Option.bind_some, g_demand hN hV.1 hV.2.1 hx, Option.bind_some, gFi_t hV.1 (b := 1) rfl, Option.bind_some, nI_add]
  unfold wRoom
  by_cases q : wLd N P t + wDe N (x / 2) ≤ wC N
  · have n1 : ¬ nI (wC N) < nI (wLd N P t + wDe N (x / 2)) := fun z => by
      have := (nI_lt' (by omega) (by omega)).mp z
      omega
    obtain ⟨D1, p1, p2, p3, p4, p5⟩ := g_ins (k := k) (x := x) g2 (by omega) hk
    obtain ⟨D2, r1, r2, r3⟩ := g_price hN (hV.ext p3) p2 (by omega) (ins_ok w3 hx hk) (show pH P t < 8 by omega)
    have r1 : F_X8_price D1 (rf c) (nI (pH P t)) (gTop D) = some (nI (CK 500000 N (pH P t) (pL P t + 1) (insA (pA P t) k x)), D2) := r1
    refine ⟨D2, ?_, p3.tr r2, (p5.tr r3).mono (by omega) (by omega)⟩
    rw [if_neg n1, gFr_t hV.1 (b := 6) rfl, Option.bind_some, hP.home ht hw.1, Option.bind_some, gFr_t hV.1 (b := 7) rfl, Option.bind_some, g1, Option.bind_some, p1, Option.bind_some, r1, Option.bind_some, i5e]
    have hb := CK_le (K := 500000) (home := pH P t) hN (by omega) (show pL P t + 1 ≤ 14 by omega) (ins_ok w3 hx hk)
    by_cases z : wCand N P t k x = true
    · have h2 := CK_dvle (K := 500000) hN (show pL P t + 1 ≤ 14 by omega) (ins_ok w3 hx hk) ((cand_DV (hd t ht) hk).mp z)
      have n2 : ¬ nI 500000 ≤ nI (CK 500000 N (pH P t) (pL P t + 1) (insA (pA P t) k x)) := fun y => by
        have := (nI_le' (a := 500000) (by omega) (by omega)).mp y
        omega
      rw [if_neg n2, z]
      simp [q]
    · have h2 := CK_nd (K := 500000) (fun y => z ((cand_DV (hd t ht) hk).mpr y))
      have n2 : nI 500000 ≤ nI (CK 500000 N (pH P t) (pL P t + 1) (insA (pA P t) k x)) := (nI_le' (a := 500000) (by omega) (by omega)).mpr h2
      rw [Bool.not_eq_true] at z
      rw [if_pos n2, z]
      simp
  · have n1 : nI (wC N) < nI (wLd N P t + wDe N (x / 2)) := (nI_lt' (by omega) (by omega)).mpr (by omega)
    refine ⟨D, ?_, gE.rf D, (gMd.rf D).mono (by omega) (by omega)⟩
    rw [if_pos n1]
    simp [q]
end FIT
