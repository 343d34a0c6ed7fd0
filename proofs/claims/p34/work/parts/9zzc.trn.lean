/-! THE CHANGES UNDONE; the law's turn, whole -/
def hpops (H : HT) : Nat → HT
  | 0 => H
  | k + 1 => hpop (hpops H k)
theorem hpops_K (H : HT) : ∀ k, hK (hpops H k) = hK H - k
  | 0 => rfl
  | k + 1 => by
    show hK (hpops H k) - 1 = _
    rw [hpops_K H k]
    omega
theorem hpops_N (H : HT) : ∀ k j, hN (hpops H k) j = hN H (j + k)
  | 0, _ => rfl
  | k + 1, j => by
    show hN (hpops H k) (j + 1) = _
    rw [hpops_N H k (j + 1)]
    congr 1
    omega
theorem hpops_P (H : HT) : ∀ k j, hP (hpops H k) j = hP H (j + k)
  | 0, _ => rfl
  | k + 1, j => by
    show hP (hpops H k) (j + 1) = _
    rw [hpops_P H k (j + 1)]
    congr 1
    omega
theorem hpops_W {H : HT} (h : HW H) : ∀ k, HW (hpops H k)
  | 0 => h
  | k + 1 => (hpops_W h k).pop
section TRN
variable {h : PH} {D : gDS} {rnd bf c : Nat} {N : NT} {svr : gRF} {e b d g : Nat} {done : Nat}
set_option maxRecDepth 4000 in
theorem un_all {i : Int32} (hL : LST h D rnd bf c N svr e b d g done) (hd : done ≤ 40) : ∃ h' D', loop (unB (rf c) (rf bf) i (nI done)) ((1 : Int32), (0 : Int32), (h, D)) = some (.inr (.inl ((1 : Int32), i + (1 : Int32), (h', D')))) ∧ gMd 857 4100 D D' := by
  obtain ⟨hh, tt, P, H, f, hI, h3, hS⟩ := hL
  obtain ⟨ok, hl, ca, ch, hC, hE⟩ := id hI
  have hNN := ok.1
  have one : ¬ (1 : Int32) = 0 := by decide
  suffices hs : ∃ t, loop (unB (rf c) (rf bf) i (nI done)) ((1 : Int32), (0 : Int32), (h, D)) = some t ∧ ∃ h' D', t = .inr (.inl ((1 : Int32), i + (1 : Int32), (h', D'))) ∧ gMd 857 4100 D D' by
    obtain ⟨t, a1, h', D', rfl, a2⟩ := hs
    exact ⟨h', D', a1, a2⟩
  refine loop_ind0 (fun k s => k ≤ 8 ∧ k ≤ done ∧ ∃ h' D' Pk, s = ((1 : Int32), nI k, (h', D')) ∧ WP N Pk ∧ CA h' N Pk ∧ CH h' N (hpops H k) ∧ h'.1 1 3 = 0 ∧ gE noW D D' ∧ gMd (106 * k) (500 * k) D D') _ 8 ⟨Nat.zero_le _, Nat.zero_le _, h, D, P, rfl, ok.2.1, ca, ch, h3, gE.rf D, gMd.rf D⟩ (fun k s hI9 => ?_)
  obtain ⟨hk8, hkd, h1, D1, Pk, rfl, b1, b2, b3, b4, x, m⟩ := hI9
  unfold unB
  rw [jn_d]
  dsimp only
  by_cases q : k < 8 ∧ k < done
  · -- a change undone
    have n8 : ¬ (8 : Int32) ≤ nI k := fun z => by
      have := (nI_le' (a := 8) (b := k) (by omega) (by omega)).mp z
      omega
    have nd : ¬ nI done ≤ nI k := fun z => by
      have := (nI_le' (by omega) (by omega)).mp z
      omega
    obtain ⟨sR, sF, sS⟩ := hS
    obtain ⟨⟨ck, hhk, ttk, y1, y2, y3, y4, y5, y6⟩, y7, y8, y9⟩ := sS k q.2 q.1
    have hW := hpops_W ok.2.2 k
    have hp0 : 0 < hK (hpops H k) := by rw [hpops_K]; omega
    obtain ⟨h2, c1, c2, c3, c4⟩ := c_undo hW b2 b3 hp0
    have eN : hN (hpops H k) 0 = N := by rw [hpops_N, Nat.zero_add]; exact y7
    have eP : hP (hpops H k) 0 = hP H k := by rw [hpops_P, Nat.zero_add]
    have hWk := hW 0 hp0
    rw [eN, eP] at c3 hWk
    rw [eN] at c4
    have okk : okS N (hP H k) (hpop (hpops H k)) := ⟨hNN, hWk.2, hW.pop⟩
    obtain ⟨D2, d1, d2, d3⟩ := g_agrees okk y8 c3 hE.2.1 (y5.ext x) (y6.ext x)
    have nn : ¬ nI (hK (hpops H k) - 1) < (0 : Int32) := nI_pos (by
      have := ch
      obtain ⟨nx, -, -, z, -⟩ := this
      rw [hpops_K]
      omega)
    refine Or.inr ⟨q.1, ((1 : Int32), nI (k + 1), (h2, D2)), ?_, q.1, q.2, h2, D2, hP H k, rfl, hWk.2, c3, c4, by rw [(c2 1 (by unfold SU; omega)).1]; exact b4, x.tr d2, (m.tr d3).mono (by omega) (by omega)⟩
    rw [if_neg n8, if_neg nd, if_neg one, c1, Option.bind_some]
    dsimp only
    rw [if_neg nn, gQld_r (x.tR id sR) (show k < 9 by omega), Option.bind_some, y1, d1, Option.bind_some]
    dsimp only
    rw [if_neg one, nI_1]
  · -- the last calls
    have CC := hC.1.ext x
    obtain ⟨es, z1, z2, -⟩ := hC.1.2.1
    have f1 := l_load_no (h := h1) b4
    have f2 := l_edge5 hNN b2 (show 0 < wE N by omega)
    have f3 := l_edge_m1 (h := h1) b2
    have xg : gE noW D (gBm (gBm (gBm D1 1) 2) 2) := ((x.tr gBm_E).tr gBm_E).tr gBm_E
    have CG := hC.1.ext xg
    have f4 := g_arcs CG.1 CG.2.1
    have f5 := l_dead_no hNN b2 (show 0 < wE N by omega)
    have xh : gE noW D (gBm (gBm (gBm (gBm D1 1) 2) 2) 2) := xg.tr gBm_E
    have CH9 := hC.1.ext xh
    have f6 := l_best_no hNN b2
    have mg : gMd 9 54 D1 (gBm (gBm (gBm (gBm (gBm D1 1) 2) 2) 2) 2) := ((((gBm_M.tr gBm_M).tr gBm_M).tr gBm_M).tr gBm_M)
    have fin : ∃ t : oSt ⊕ tRs, (if (1 : Int32) = 0 then
         (some (.inr (.inr (.inl ((0 : Int32), (i + (1 : Int32)), (h1, D1))))) : Option ((Int32 × Int32 × gST) ⊕ (oSt ⊕ tRs)))
        else
         (F_L_load h1 (1 : Int32)).bind fun x16 =>
         if ¬ x16.1 = (-2000000098 : Int32) then
          some (.inr (.inr (.inl ((0 : Int32), (i + (1 : Int32)), (x16.2, (gBm D1 1))))))
         else
          (F_L_edge x16.2 (0 : Int32) (5 : Int32)).bind fun x17 =>
          if ¬ x17 = (-2000000098 : Int32) then
           some (.inr (.inr (.inl ((0 : Int32), (i + (1 : Int32)), (x16.2, (gBm (gBm D1 1) 2))))))
          else
           (F_L_edge x16.2 (-1 : Int32) (5 : Int32)).bind fun x18 =>
           if ¬ x18 = (-2000000097 : Int32) then
            some (.inr (.inr (.inl ((0 : Int32), (i + (1 : Int32)), (x16.2, (gBm (gBm (gBm D1 1) 2) 2))))))
           else
            (F_X8_arcs (gBm (gBm (gBm D1 1) 2) 2) (rf c)).bind fun y19 =>
            (F_L_deadhead x16.2 (0 : Int32) y19).bind fun x20 =>
            if ¬ x20 = (-2000000097 : Int32) then
             some (.inr (.inr (.inl ((0 : Int32), (i + (1 : Int32)), (x16.2, (gBm (gBm (gBm (gBm D1 1) 2) 2) 2))))))
            else
             (gFr (gBm (gBm (gBm (gBm D1 1) 2) 2) 2) (rf c) 8 3).bind fun r21 =>
             (gLen (gBm (gBm (gBm (gBm D1 1) 2) 2) 2) r21).bind fun z22 =>
             (F_L_bestInsertion x16.2 z22).bind fun x23 =>
             if ¬ x23 = (-2000000097 : Int32) then
              some (.inr (.inr (.inl ((0 : Int32), (i + (1 : Int32)), (x16.2, (gBm (gBm (gBm (gBm (gBm D1 1) 2) 2) 2) 2))))))
             else
              some (.inr (.inr (.inl ((1 : Int32), (i + (1 : Int32)), (x16.2, (gBm (gBm (gBm (gBm (gBm D1 1) 2) 2) 2) 2))))))) = some (.inr t) ∧ ∃ h' D', t = .inr (.inl ((1 : Int32), i + (1 : Int32), (h', D'))) ∧ gMd 857 4100 D D' := by
      refine ⟨_, ?_, h1, _, rfl, (m.tr mg).mono (by omega) (by omega)⟩
      rw [if_neg one, f1, Option.bind_some]
      dsimp only
      rw [if_neg (fun z => z rfl), f2, Option.bind_some, if_neg (fun z => z rfl), f3, Option.bind_some, if_neg (fun z => z rfl), f4, Option.bind_some, f5, Option.bind_some, if_neg (fun z => z rfl), gFr_t CH9.1 (b := 3) rfl, Option.bind_some, gLen_q (xh.tQ id z1), z2, Option.bind_some, f6, Option.bind_some, if_neg (fun z => z rfl)]
    refine Or.inl ?_
    by_cases q8 : k < 8
    · have n8 : ¬ (8 : Int32) ≤ nI k := fun z => by
        have := (nI_le' (a := 8) (b := k) (by omega) (by omega)).mp z
        omega
      rw [if_neg n8, if_pos ((nI_le' (by omega) (by omega)).mpr (by omega))]
      exact fin
    · rw [if_pos (show (8 : Int32) ≤ nI k from (nI_le' (a := 8) (b := k) (by omega) (by omega)).mpr (by omega))]
      exact fin
/-- all operations -/
theorem ops_all {i : Int32} (hL : LST h D rnd bf c N svr e b d g 0) : ∃ h' D', loop (opB (rf c) (rf rnd) (rf bf) i) ((1 : Int32), (0 : Int32), (0 : Int32), (h, D)) = some (.inl ((1 : Int32), i + (1 : Int32), (h', D'))) ∧ gMd 279597 722125 D D' := by
  suffices hs : ∃ t, loop (opB (rf c) (rf rnd) (rf bf) i) ((1 : Int32), (0 : Int32), (0 : Int32), (h, D)) = some t ∧ ∃ h' D', t = .inl ((1 : Int32), i + (1 : Int32), (h', D')) ∧ gMd 279597 722125 D D' by
    obtain ⟨t, a1, h', D', rfl, a2⟩ := hs
    exact ⟨h', D', a1, a2⟩
  refine loop_ind0 (fun n s => n ≤ 35 ∧ ∃ h' D' d9, s = ((1 : Int32), nI d9, nI n, (h', D')) ∧ d9 ≤ n ∧ LST h' D' rnd bf c N svr e b d g d9 ∧ gMd (7964 * n) (20515 * n) D D') _ 35 ⟨Nat.zero_le _, h, D, 0, rfl, Nat.le_refl _, hL, gMd.rf D⟩ (fun n s hI => ?_)
  obtain ⟨hn, h1, D1, d9, rfl, hd, hL1, m⟩ := hI
  rcases Nat.lt_or_ge n 35 with q | q
  · obtain ⟨h2, D2, d2, a1, a2, a3, a4⟩ := op_step (i := i) hL1 q hd
    exact Or.inr ⟨q, _, a1, q, h2, D2, d2, rfl, by omega, a2, (m.tr a4).mono (by omega) (by omega)⟩
  · obtain rfl : n = 35 := by omega
    obtain ⟨h2, D2, a1, a2⟩ := un_all (i := i) hL1 (by omega)
    refine Or.inl ⟨_, ?_, h2, D2, rfl, (m.tr a2).mono (by omega) (by omega)⟩
    rw [opB_is, jn_d]
    dsimp only
    rw [if_pos (show (35 : Int32) ≤ nI 35 from Int32.le_refl _)]
    exact a1
end TRN
