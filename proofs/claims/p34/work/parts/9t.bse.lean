/-! BEST, done -/
section BSE
variable {D : gDS} {c e0 b d hh tt g : Nat} {N : NT} {sv : gRF} {P : PT} {e : Nat} {W : Option (Nat × Int)}
def bCe (P : PT) (t : Nat) : Nat := (pL P t + 1) * (6 * pL P t + 10)
def bSl (P : PT) (t : Nat) : Nat := (pL P t + 1) * (16 * pL P t + 20)
theorem g_mid {ρ : Type} {t : Nat} {r : gRF} {st F : Option (Nat × Int)} (hN : WN N) (hw : WQ N P) (hd : DVs N P) (hV : CV D c N sv e0 b d hh tt g) (hP : GP D P hh tt) (ht : t < pT P) (h13 : R13 P) (he : e < wE N) (hB : BR D N P e r st) (hW : mg (fK N P e F t (pL P t + 1)) st = W) : ∃ u, loop (d7 (ρ := ρ) (rf c) (nI e) (nI t)) (r, nI (pL P t), D) = some u ∧ ∃ r' D' st', u = .inl (r', nI t - (1 : Int32), D') ∧ BR D' N P e r' st' ∧ mg F st' = W ∧ gE noW D D' ∧ gMd (bCe P t) (bSl P t) D D' := by
  have h13t := h13 t ht
  refine loop_ind0 (fun l s => l ≤ pL P t + 1 ∧ ∃ r' D' st', s = (r', zi ((pL P t : Int) - (l : Int)), D') ∧ BR D' N P e r' st' ∧ mg (fK N P e F t (pL P t + 1 - l)) st' = W ∧ gE noW D D' ∧ gMd (l * (6 * pL P t + 10)) (l * (16 * pL P t + 20)) D D') _ (pL P t + 1) ⟨by omega, r, D, st, ?_, hB, hW, gE.rf D, (gMd.rf D).mono (by omega) (by omega)⟩ (fun l s hI => ?_)
  · rw [nI_zi]
    congr 3
  obtain ⟨hl, r', D', st', rfl, hB', hW', x, m⟩ := hI
  rcases Nat.lt_or_ge l (pL P t + 1) with q | q
  · have e1 : zi ((pL P t : Int) - (l : Int)) = nI (pL P t - l) := by
      rw [nI_zi]
      congr 1
      omega
    have n1 : ¬ nI (pL P t - l) < (0 : Int32) := fun z => by
      have := (nI_lt' (a := pL P t - l) (b := 0) (by omega) (by omega)).mp z
      omega
    rw [show pL P t + 1 - l = (pL P t - l) + 1 by omega] at hW'
    obtain ⟨u, p0, r2, D2, st2, rfl, p2, p5, p3, p4⟩ := g_in (ρ := bSt ⊕ ρ) (k := pL P t - l) hN hw hd (hV.ext x) (hP.ext x) ht (by omega) h13 he hB' hW'
    rw [e1]
    refine Or.inr ⟨q, _, (if_neg n1).trans p0, q, r2, D2, st2, ?_, p2, ?_, x.tr p3, (m.tr p4).mono ?_ ?_⟩
    · rw [nI_zi, show (1 : Int32) = zi 1 from rfl, zi_sub]
      congr 3
      omega
    · rw [show pL P t + 1 - (l + 1) = pL P t - l by omega]
      exact p5
    · rw [Nat.add_mul, Nat.one_mul]
      exact Nat.le_refl _
    · rw [Nat.add_mul, Nat.one_mul]
      exact Nat.le_refl _
  · obtain rfl : l = pL P t + 1 := by omega
    have n1 : zi ((pL P t : Int) - ((pL P t + 1 : Nat) : Int)) < (0 : Int32) := (zi_lt (b := 0) (by omega) (by omega)).mpr (by omega)
    rw [Nat.sub_self] at hW'
    exact Or.inl ⟨_, if_pos n1, r', D', st', rfl, hB', hW', x, m⟩
theorem g_best (hN : WN N) (hw : WQ N P) (hd : DVs N P) (hV : CV D c N sv e0 b d hh tt g) (hP : GP D P hh tt) (h13 : R13 P) (he : e < wE N) : ∃ r' D', F_X8_best D (rf c) (nI e) = some (r', D') ∧ BR D' N P e r' (wBest N P e) ∧ gE noW D D' ∧ gMd (sumN (bCe P) (pT P)) (sumN (bSl P) (pT P)) D D' := by
  have h4 := hw.1
  rw [best_is, gRv_t hV.1, Option.bind_some, gFr_t hV.1 (b := 7) rfl, Option.bind_some, hP.cnt, Option.bind_some]
  obtain ⟨u, h1, h2⟩ := loop_ind0 (body := d3 (rf c) (nI e)) (fun l s => l ≤ pT P ∧ ∃ r' D' st', s = (r', zi ((pT P : Int) - 1 - (l : Int)), D') ∧ BR D' N P e r' st' ∧ mg (fTo N P e (pT P - l)) st' = wBest N P e ∧ gE noW D D' ∧ ∃ a b, a + sumN (bCe P) (pT P - l) = sumN (bCe P) (pT P) ∧ b + sumN (bSl P) (pT P - l) = sumN (bSl P) (pT P) ∧ gMd a b D D') (fun u => ∃ r' D', u = (r', D') ∧ BR D' N P e r' (wBest N P e) ∧ gE noW D D' ∧ gMd (sumN (bCe P) (pT P)) (sumN (bSl P) (pT P)) D D') (pT P) (s0 := (none, nI (pT P) - (1 : Int32), D)) ⟨by omega, none, D, none, by rw [nI_zi, show (1 : Int32) = zi 1 from rfl, zi_sub]; congr 3; omega, Or.inl ⟨rfl, rfl⟩, mg_none _, gE.rf D, 0, 0, by rw [Nat.sub_zero, Nat.zero_add], by rw [Nat.sub_zero, Nat.zero_add], gMd.rf D⟩ (fun l s hI => by
    obtain ⟨hl, r', D', st', rfl, hB', hW', x, a, b, ha, hb, m⟩ := hI
    rcases Nat.lt_or_ge l (pT P) with q | q
    · have e1 : zi ((pT P : Int) - 1 - (l : Int)) = nI (pT P - 1 - l) := by
        rw [nI_zi]
        congr 1
        omega
      have n1 : ¬ nI (pT P - 1 - l) < (0 : Int32) := fun z => by
        have := (nI_lt' (a := pT P - 1 - l) (b := 0) (by omega) (by omega)).mp z
        omega
      rw [show pT P - l = (pT P - 1 - l) + 1 by omega] at hW' ha hb
      have hV' := hV.ext x
      have hP' := hP.ext x
      have ht : pT P - 1 - l < pT P := by omega
      obtain ⟨i, g1, g2⟩ := hP'.row ht h4
      obtain ⟨u, p0, r2, D2, st2, rfl, p2, p5, p3, p4⟩ := g_mid (ρ := gRF × gDS) hN hw hd hV' hP' ht h13 he hB' hW'
      rw [e1]
      refine Or.inr ⟨q, (r2, nI (pT P - 1 - l) - (1 : Int32), D2), ?_, q, r2, D2, st2, ?_, p2, ?_, x.tr p3, a + bCe P (pT P - 1 - l), b + bSl P (pT P - 1 - l), ?_, ?_, m.tr p4⟩
      · unfold d3
        dsimp only
        rw [if_neg n1, gFr_t hV'.1 (b := 7) rfl, Option.bind_some, g1, Option.bind_some, gLen_t g2, rw8_len, Option.bind_some]
        exact p0
      · rw [nI_zi, show (1 : Int32) = zi 1 from rfl, zi_sub]
        congr 3
        omega
      · rw [show pT P - (l + 1) = pT P - 1 - l by omega]
        exact p5
      · rw [show pT P - (l + 1) = pT P - 1 - l by omega, ← ha]
        show _ = a + (sumN (bCe P) (pT P - 1 - l) + bCe P (pT P - 1 - l))
        omega
      · rw [show pT P - (l + 1) = pT P - 1 - l by omega, ← hb]
        show _ = b + (sumN (bSl P) (pT P - 1 - l) + bSl P (pT P - 1 - l))
        omega
    · obtain rfl : l = pT P := by omega
      have n1 : zi ((pT P : Int) - 1 - (pT P : Int)) < (0 : Int32) := (zi_lt (b := 0) (by omega) (by omega)).mpr (by omega)
      rw [Nat.sub_self] at hW'
      have hW2 : st' = wBest N P e := (none_mg st').symm.trans hW'
      rw [hW2] at hB'
      exact Or.inl ⟨_, if_pos n1, r', D', rfl, hB', x, m.mono (by omega) (by omega)⟩)
  obtain ⟨r', D', rfl, h3⟩ := h2
  exact ⟨r', D', h1, h3⟩
end BSE
