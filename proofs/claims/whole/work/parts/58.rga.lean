/-! THE REFERENCE'S COPIES, CHANGES AND GAINS -/
section RGA
variable {h : PH} {N : NT} {P : PT}
theorem r_copy {o w : Nat} (ho : o ≠ w) : ∃ h', F_X8_copy h o w = some h' ∧ Fr (fun a => a = w) h h' ∧ ∀ j, j < 1556 → h'.1 w j = h.1 o j := by
  unfold F_X8_copy
  refine loop_ind0 (σ := Int32 × PH) (fun j s => s.1 = nI j ∧ j ≤ 1556 ∧ Fr (fun a => a = w) h s.2 ∧ ∀ i, i < j → s.2.1 w i = h.1 o i) _ 1556 ⟨rfl, Nat.zero_le _, Fr.refl h, fun i hi => absurd hi (Nat.not_lt_zero _)⟩ ?_
  rintro j ⟨p1, p2⟩ ⟨e1, hj, fr, inv⟩
  dsimp only at e1 fr inv ⊢
  subst e1
  rw [i1556]
  rcases Nat.lt_or_ge j 1556 with q | q
  · right
    rw [if_neg (nI_ge q (by omega)), ald_in (by omega) q, Option.bind_some, ast_in (by omega) q]
    refine ⟨q, _, rfl, nI_1 j, q, fr.trans (Fr.pu rfl), fun i hi => ?_⟩
    dsimp only
    rw [pu_get, (fr o (fun z => ho z)).1]
    by_cases z : i = j
    · rw [if_pos ⟨rfl, z⟩, z]
    · rw [if_neg (fun y => z y.2)]
      exact inv i (by omega)
  · obtain rfl : j = 1556 := by omega
    exact Or.inl ⟨_, if_pos (Int32.le_refl _), fr, inv⟩
theorem laid_ag2 {f g : Nat → Int32} : ∀ {p : Nat} {l : List Stq}, (∀ j, p ≤ j → j < p + offs l → g j = f j) → laid f p l → laid g p l
  | _, [], _, _ => trivial
  | p, s :: t, e, h => by
    obtain ⟨a, b, c⟩ := h
    have hs : offs (s :: t) = wdt s + offs t := rfl
    have h1 := wdt_pos s
    refine ⟨by rw [e p (by omega) (by omega)]; exact a, fun z => ?_, laid_ag2 (fun j hj1 hj2 => e j (by omega) (by omega)) c⟩
    have h2 : wdt s = 2 := by unfold wdt; rw [if_pos z]
    rw [e (p + 1) (by omega) (by omega)]
    exact b z
theorem RS.cp {h' : PH} {r r' : Nat} (c : RS h r N) (e : ∀ j, j < 1556 → h'.1 r' j = h.1 r j) : RS h' r' N := by
  rcases c with ⟨c1, c2⟩ | ⟨c1, l, c2, c3, c4, c5, c6⟩
  · exact Or.inl ⟨by rw [e 5 (by omega)]; exact c1, c2⟩
  · exact Or.inr ⟨by rw [e 5 (by omega)]; exact c1, l, by rw [e 6 (by omega)]; exact c2, c3, c4, laid_ag2 (fun j _ hj => e _ (by omega)) c5, c6⟩
theorem RP.cp {h' : PH} {r r' : Nat} (c : RP h r P) (hw : WQ N P) (e : ∀ j, j < 1556 → h'.1 r' j = h.1 r j) : RP h' r' P := by
  have h4 := hw.1
  refine ⟨by rw [e 4 (by omega)]; exact c.1, fun t ht => ?_⟩
  have h14 := (hw.2 t ht).2.1
  rw [e _ (by omega), e _ (by omega)]
  obtain ⟨c1, c2, c3⟩ := c.2 t ht
  refine ⟨c1, c2, fun k hk => ?_⟩
  rw [e _ (by omega)]
  exact c3 k hk
theorem RN.cp {h' : PH} {r r' : Nat} (c : RN h r N) (hN : WN N) (e : ∀ j, j < 1556 → h'.1 r' j = h.1 r j) : RN h' r' N := c.row hN (fun j hj _ => e j (by omega))
def S4 (a : Nat) : Prop := a = 124 ∨ a = 165 ∨ a = 126
theorem S3_4 {h1 h2 : PH} (f : Fr S3 h1 h2) : Fr S4 h1 h2 := f.mono (fun i hi => by unfold S3 at hi; unfold S4; omega)
theorem RA.fr3x {h' : PH} {P' : PT} (hN : WN N) (c : RA h N P') (f : Fr (fun a => a = 126) h h') : RA h' N P' := c.fr hN f (by omega) (fun j hj => by omega)
/-- the change of a served edge -/
theorem r_change {e t k : Nat} (hN : WN N) (hp : WP N P) (hc : RA h N P) (he : e < wE N) (h1 : wTour P e = some t) (h2 : wPos P t e = some k) :
    ∃ h' g, F_X8_change h (nI e) = some (zi g, h') ∧ Fr S3 h h' ∧ ((g = wG N P e ∧ RA h' N (chE N P e)) ∨ (g = -1 ∧ wG N P e = 0)) := by
  have hE := hN.2.2.1
  obtain ⟨hw, hs, hd⟩ := hp
  have ht := (wTour_lt h1).1
  have hk := (wPos_lt h2).1
  have h4 := hw.1
  have h14 := (hw.2 t ht).2.1
  have eat : eA (some t) = nI t := rfl
  have eak : eA (some k) = nI k := rfl
  obtain ⟨g1, a1, b1⟩ := r_total hN hw hd hc
  have c1 := hc.fr3 hN b1
  obtain ⟨g2, a2, b2, c2⟩ := r_take hN hw c1 ht hk
  have c2 : RA g2 N (dpl P t k) := c2
  have w2 := dpl_WQ hw ht hk
  obtain ⟨g3, a3, b3⟩ := r_costTour hN w2 c2 (t := t) ht
  have c3 := c2.fr3 hN b3
  have f3 : Fr S3 h g3 := (b1.mono (fun i hi => Or.inr hi)).trans ((b2.mono (fun i hi => Or.inl hi)).trans (b3.mono (fun i hi => Or.inr hi)))
  have d0 : pH (dpl P t k) t = pH P t := rfl
  have d1 : pL (dpl P t k) t = pL P t - 1 := setT_L1 _ _ _ _
  have d2 : pA (dpl P t k) t = delA (pA P t) k := setT_A1 _ _ _ _
  unfold F_X8_change
  rw [r_with hN hw hc.2.2.2 (by omega), Option.bind_some, h1, eat, a1, Option.bind_some, r_place hN hw c1.2.2.2 ht (by omega), Option.bind_some, h2, eak, a2, Option.bind_some, a3, Option.bind_some]
  dsimp only
  rw [iK]
  by_cases hsp : wSpare N P t k = true
  · have hp1 := dpl_WP ⟨hw, hs, hd⟩ ht hk hsp
    have hu := dpl_none hs ht hk (wPos_lt h2).2
    have h13 := room13 hN hp1.1 hp1.2.1 he hu
    have hlt := CK_dvle (K := 1000000) hN (w2.2 t ht).2.1 (w2.2 t ht).2.2 (hp1.2.2 t ht)
    rw [if_pos (nI_lt (by omega) (by omega))]
    obtain ⟨g4, a4, b4, c4⟩ := r_find hN hp1.1 hp1.2.2 h13 c3 he
    rw [a4, Option.bind_some]
    dsimp only
    cases hq : wBest N (dpl P t k) e with
    | none =>
      rw [if_neg (fun z => z rfl)]
      exact ⟨g4, -1, rfl, f3.trans b4, Or.inr ⟨rfl, wG_2 h1 h2 hsp hq⟩⟩
    | some p =>
      obtain ⟨c, w⟩ := p
      have hg := best_gd hq
      obtain ⟨t', k', s', ht', hk', hs2, hcc, hcd, hww⟩ := hg c w rfl
      have h14' := h13 t' ht'
      have h4' := hp1.1.1
      obtain ⟨g5, a5, b5, c5⟩ := r_putBy hN hp1.1 h13 c4 he hg
      have hp2 := bpl_WP hN hp1 he hu hg
      obtain ⟨g6, a6, b6⟩ := r_total hN hp2.1 hp2.2.2 c5
      have ech : chE N P e = bpl (dpl P t k) e c := by unfold chE; rw [h1]; dsimp only; rw [h2]; dsimp only; rw [hq]
      rw [show cB (some (c, w)) = nI c from rfl, if_pos (show ¬ nI c = (-1 : Int32) from eA_ne (by omega)), a5, Option.bind_some, a6, Option.bind_some]
      have tb : bpl (dpl P t k) e c = ipl (dpl P t k) t' k' (2 * e + s') := bpl_ipl (w := w) hp1.1.1 h13 ht' hk' hs2 hcc
      have t1 : wTot N (dpl P t k) + wTC N P t = wTot N P + CK 0 N (pH P t) (pL P t - 1) (delA (pA P t) k) := tot_set ht
      have t2 : wTot N (ipl (dpl P t k) t' k' (2 * e + s')) + wTC N (dpl P t k) t' = wTot N (dpl P t k) + CK 0 N (pH (dpl P t k) t') (pL (dpl P t k) t' + 1) (insA (pA (dpl P t k) t') k' (2 * e + s')) := tot_set ht'
      have t3 : wTC N (dpl P t k) t = CK 0 N (pH P t) (pL P t - 1) (delA (pA P t) k) := by unfold wTC; rw [d0, d1, d2]
      refine ⟨g6, (wTot N P : Int) - (wTot N (bpl (dpl P t k) e c) : Int), ?_, f3.trans (b4.trans ((b5.mono (fun i hi => Or.inl hi)).trans (b6.mono (fun i hi => Or.inr hi)))), Or.inl ⟨?_, ?_⟩⟩
      · dsimp only
        rw [nI_zi, nI_zi, zi_sub]
      · rw [wG_3 h1 h2 hsp hq, hww, tb]
        unfold wInc
        omega
      · rw [ech]
        exact c5.fr3 hN b6
  · have hnd : ¬ DV N (pH P t) (pL P t - 1) (delA (pA P t) k) := fun z => hsp ((dpl_DV hk (hd t ht)).2.mpr z)
    have hge := CK_nd (K := 1000000) hnd
    have hle := CK_le (K := 1000000) (home := pH (dpl P t k) t) hN (by omega) (w2.2 t ht).2.1 (w2.2 t ht).2.2
    rw [d0, d1, d2] at hle ⊢
    rw [if_neg (nI_nlt hge (by omega))]
    exact ⟨g3, -1, rfl, f3, Or.inr ⟨rfl, wG_1 h1 h2 hsp⟩⟩
theorem r_gain {e t k : Nat} (hN : WN N) (hp : WP N P) (hc : RA h N P) (he : e < wE N) (h1 : wTour P e = some t) (h2 : wPos P t e = some k) :
    ∃ h' g, F_X8_gainOf h (nI e) = some (zi g, h') ∧ Fr S4 h h' ∧ RA h' N P ∧ (g = wG N P e ∨ (g = -1 ∧ wG N P e = 0)) := by
  obtain ⟨g1, a1, b1, c1⟩ := r_copy (h := h) (o := 124) (w := 126) (by omega)
  have r1 := hc.fr3x hN b1
  obtain ⟨g2, g, a2, b2, d2⟩ := r_change hN hp r1 he h1 h2
  obtain ⟨g3, a3, b3, c3⟩ := r_copy (h := g2) (o := 126) (w := 124) (by omega)
  have f3 : Fr S4 h g3 := (b1.mono (fun i hi => Or.inr (Or.inr hi))).trans ((S3_4 b2).trans (b3.mono (fun i hi => Or.inl hi)))
  have cell : ∀ j, j < 1556 → g3.1 124 j = h.1 124 j := fun j hj => by rw [c3 j hj, (b2 126 (by unfold S3; omega)).1, c1 j hj]
  unfold F_X8_gainOf
  rw [a1, Option.bind_some, a2, Option.bind_some]
  dsimp only
  rw [a3, Option.bind_some]
  refine ⟨g3, g, rfl, f3, ⟨hc.1.cp hN cell, hc.2.1.cp cell, hc.2.2.1.same (fun j hj => (f3 _ (by unfold S4; omega)).1) hN, hc.2.2.2.cp hp.1 cell⟩, ?_⟩
  rcases d2 with ⟨d, -⟩ | d
  · exact Or.inl d
  · exact Or.inr d
end RGA
