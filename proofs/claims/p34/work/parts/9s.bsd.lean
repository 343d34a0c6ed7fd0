/-! BEST: its loops, done -/
section BSD
variable {D : gDS} {c e0 b d hh tt g : Nat} {N : NT} {sv : gRF} {P : PT} {e : Nat} {W : Option (Nat × Int)}
theorem g_in {ρ : Type} {t k : Nat} {r : gRF} {st F : Option (Nat × Int)} (hN : WN N) (hw : WQ N P) (hd : DVs N P) (hV : CV D c N sv e0 b d hh tt g) (hP : GP D P hh tt) (ht : t < pT P) (hk : k ≤ pL P t) (h13 : R13 P) (he : e < wE N) (hB : BR D N P e r st) (hW : mg (fS N P e F t k 2) st = W) : ∃ u, loop (d8 (ρ := ρ) (rf c) (nI e) (nI t) (nI k)) (r, ((2 : Int32) * nI e) + (1 : Int32), D) = some u ∧ ∃ r' D' st', u = .inl (r', nI k - (1 : Int32), D') ∧ BR D' N P e r' st' ∧ mg F st' = W ∧ gE noW D D' ∧ gMd (6 * pL P t + 10) (16 * pL P t + 20) D D' := by
  have hE4 := hN.2.2.1
  refine loop_ind0 (fun l s => l ≤ 2 ∧ ∃ r' D' st', s = (r', zi (2 * (e : Int) + 1 - (l : Int)), D') ∧ BR D' N P e r' st' ∧ mg (fS N P e F t k (2 - l)) st' = W ∧ gE noW D D' ∧ gMd (l * (3 * pL P t + 5)) (l * (8 * pL P t + 10)) D D') _ 2 ⟨by omega, r, D, st, ?_, hB, hW, gE.rf D, (gMd.rf D).mono (by omega) (by omega)⟩ (fun l s hI => ?_)
  · rw [i2, nI_mul, i1, nI_add, nI_zi]
    congr 3
    
  obtain ⟨hl, r', D', st', rfl, hB', hW', x, m⟩ := hI
  rcases Nat.lt_or_ge l 2 with q | q
  · have e1 : zi (2 * (e : Int) + 1 - (l : Int)) = nI (2 * e + (1 - l)) := by
      rw [nI_zi]
      congr 1
      omega
    obtain ⟨r2, D2, p1, p2, p3, p4⟩ := g_side (ρ := ρ) (s := 1 - l) hN hw hd (hV.ext x) (hP.ext x) ht hk h13 he (by omega) hB'
    rw [e1]
    refine Or.inr ⟨q, _, p1, q, r2, D2, _, ?_, p2, ?_, x.tr p3, (m.tr p4).mono ?_ ?_⟩
    · rw [nI_zi, show (1 : Int32) = zi 1 from rfl, zi_sub]
      congr 3
      omega
    · rw [← hW', show 2 - l = (1 - l) + 1 by omega, show 2 - (l + 1) = 1 - l by omega]
      show _ = mg (stepB N P e (fS N P e F t k (1 - l)) t k (1 - l)) st'
      rw [stepB_mg, mg_assoc]
    · rw [Nat.add_mul, Nat.one_mul]
      exact Nat.le_refl _
    · rw [Nat.add_mul, Nat.one_mul]
      exact Nat.le_refl _
  · obtain rfl : l = 2 := by omega
    have n1 : zi (2 * (e : Int) + 1 - ((2 : Nat) : Int)) < (2 : Int32) * nI e := by
      rw [i2, nI_mul, nI_zi]
      exact (zi_lt (by omega) (by omega)).mpr (by omega)
    refine Or.inl ⟨_, if_pos n1, r', D', st', rfl, hB', hW', x, m.mono (by omega) (by omega)⟩
end BSD
