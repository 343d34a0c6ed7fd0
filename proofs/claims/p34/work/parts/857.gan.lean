/-! GAINS AND CHANGES: the abstract ones, and the class's -/
/-- the gain of an edge's best change; 0 if there is none -/
def wG (N : NT) (P : PT) (e : Nat) : Int := match wTour P e with
  | none => 0
  | some t => match wPos P t e with
    | none => 0
    | some k => if wSpare N P t k then (match wBest N (dpl P t k) e with
      | none => 0
      | some (_, w) => (wTC N P t : Int) - (wTC N (dpl P t k) t : Int) - w) else 0
/-- the plan with the best change of e made -/
def chE (N : NT) (P : PT) (e : Nat) : PT := match wTour P e with
  | none => P
  | some t => match wPos P t e with
    | none => P
    | some k => match wBest N (dpl P t k) e with
      | none => P
      | some (c, _) => bpl (dpl P t k) e c
/-- the first edge with the greatest gain above 0, among those below j -/
def fG (N : NT) (P : PT) : Nat → Option Nat × Int
  | 0 => (none, 0)
  | j + 1 => if (fG N P j).2 < wG N P j then (some j, wG N P j) else fG N P j
def wChg (N : NT) (P : PT) : Option Nat × Int := fG N P (wE N)
def chP (N : NT) (P : PT) : PT := match (wChg N P).1 with
  | none => P
  | some e => chE N P e
def fB (N : NT) (P : PT) : Nat → PT × Nat
  | 0 => (P, 0)
  | j + 1 => if wWt N (fB N P j).1 j then (match wBest N (fB N P j).1 j with
    | none => fB N P j
    | some (c, _) => (bpl (fB N P j).1 j c, (fB N P j).2 + 1)) else fB N P j
def impr (N : NT) : Nat → PT → Int → PT × Int
  | 0, P, s => (P, s)
  | m + 1, P, s => match (wChg N P).1 with
    | none => (P, s)
    | some _ => impr N m (chP N P) (s + (wChg N P).2)
section GAN
variable {N : NT} {P : PT}
theorem best_gd {e : Nat} {c : Nat} {w : Int} (h : wBest N P e = some (c, w)) : gdB N P e (some (c, w)) := by
  rw [← h]
  exact gd_T (pT P) (Nat.le_refl _)
/-- an edge's change, when there is one -/
theorem chE_WP {e : Nat} (hN : WN N) (hp : WP N P) (he : e < wE N) (hg : wG N P e ≠ 0) : ∃ t k c w, wTour P e = some t ∧ wPos P t e = some k ∧ wSpare N P t k = true ∧ wBest N (dpl P t k) e = some (c, w) ∧ wG N P e = (wTC N P t : Int) - (wTC N (dpl P t k) t : Int) - w ∧ chE N P e = bpl (dpl P t k) e c ∧ WP N (chE N P e) := by
  unfold wG at hg
  cases h1 : wTour P e with
  | none => rw [h1] at hg; exact absurd rfl hg
  | some t =>
    rw [h1] at hg
    dsimp only at hg
    cases h2 : wPos P t e with
    | none => rw [h2] at hg; exact absurd rfl hg
    | some k =>
      rw [h2] at hg
      dsimp only at hg
      cases h3 : wSpare N P t k with
      | false => rw [h3] at hg; exact absurd rfl hg
      | true =>
        rw [h3] at hg
        cases h4 : wBest N (dpl P t k) e with
        | none => rw [h4] at hg; exact absurd rfl hg
        | some p =>
          obtain ⟨c, w⟩ := p
          have ht := (wTour_lt h1).1
          have hk := (wPos_lt h2).1
          have e1 : chE N P e = bpl (dpl P t k) e c := by unfold chE; rw [h1]; dsimp only; rw [h2]; dsimp only; rw [h4]
          refine ⟨t, k, c, w, rfl, h2, h3, h4, ?_, e1, ?_⟩
          · unfold wG
            rw [h1]
            dsimp only
            rw [h2]
            dsimp only
            rw [h3, h4]
            rfl
          · rw [e1]
            exact bpl_WP hN (dpl_WP hp ht hk h3) he (dpl_none hp.2.1 ht hk (wPos_lt h2).2) (best_gd h4)
theorem wG_0 {e : Nat} (h1 : wTour P e = none) : wG N P e = 0 := by unfold wG; rw [h1]
theorem wG_1 {e t k : Nat} (h1 : wTour P e = some t) (h2 : wPos P t e = some k) (h3 : ¬ wSpare N P t k = true) : wG N P e = 0 := by
  unfold wG
  rw [h1]
  dsimp only
  rw [h2]
  dsimp only
  rw [if_neg h3]
theorem wG_2 {e t k : Nat} (h1 : wTour P e = some t) (h2 : wPos P t e = some k) (h3 : wSpare N P t k = true) (h4 : wBest N (dpl P t k) e = none) : wG N P e = 0 := by
  unfold wG
  rw [h1]
  dsimp only
  rw [h2]
  dsimp only
  rw [if_pos h3, h4]
theorem wG_3 {e t k c : Nat} {w : Int} (h1 : wTour P e = some t) (h2 : wPos P t e = some k) (h3 : wSpare N P t k = true) (h4 : wBest N (dpl P t k) e = some (c, w)) : wG N P e = (wTC N P t : Int) - (wTC N (dpl P t k) t : Int) - w := by
  unfold wG
  rw [h1]
  dsimp only
  rw [h2]
  dsimp only
  rw [if_pos h3, h4]
theorem saved_eq {t k : Nat} (hk : k < pL P t) : wInc N (dpl P t k) t k (pA P t k) = (wTC N P t : Int) - (wTC N (dpl P t k) t : Int) := by
  unfold wInc
  have e1 : pH (dpl P t k) t = pH P t := rfl
  have e2 : pL (dpl P t k) t = pL P t - 1 := setT_L1 _ _ _ _
  have e3 : pA (dpl P t k) t = delA (pA P t) k := setT_A1 _ _ _ _
  rw [e1, e2, e3, ins_del, show pL P t - 1 + 1 = pL P t by omega]
  rfl
theorem saved_cand {t k : Nat} (hk : k < pL P t) (hd : DVs N P) (ht : t < pT P) (hsp : wSpare N P t k = true) : wCand N (dpl P t k) t k (pA P t k) = true := by
  have hd1 := dpl_DVs hd ht hk hsp t ht
  have e1 : pH (dpl P t k) t = pH P t := rfl
  have e2 : pL (dpl P t k) t = pL P t - 1 := setT_L1 _ _ _ _
  have e3 : pA (dpl P t k) t = delA (pA P t) k := setT_A1 _ _ _ _
  rw [cand_DV hd1 (by rw [e2]; omega), e1, e2, e3, ins_del, show pL P t - 1 + 1 = pL P t by omega]
  exact hd t ht
theorem wG_bnd {e : Nat} (hN : WN N) (hp : WP N P) (he : e < wE N) : -400000 ≤ wG N P e ∧ wG N P e ≤ 400000 := by
  by_cases q : wG N P e = 0
  · omega
  · obtain ⟨t, k, c, w, h1, h2, h3, h4, h5, -, -⟩ := chE_WP hN hp he q
    have ht := (wTour_lt h1).1
    have hk := (wPos_lt h2).1
    have hp1 := dpl_WP hp ht hk h3
    have hu := dpl_none hp.2.1 ht hk (wPos_lt h2).2
    have b1 := wTC_le hN hp.1 hp.2.2 ht
    have b2 := wTC_le hN hp1.1 hp1.2.2 (t := t) ht
    have b3 := gd_bnd hN hp1.1 hp1.2.2 (room13 hN hp1.1 hp1.2.1 he hu) he (best_gd h4) rfl
    omega
theorem fG_ok (hN : WN N) (hp : WP N P) : ∀ j, j ≤ wE N → 0 ≤ (fG N P j).2 ∧ (fG N P j).2 ≤ 400000 ∧ (∀ e, (fG N P j).1 = some e → e < j ∧ (fG N P j).2 = wG N P e ∧ 0 < wG N P e) ∧ ((fG N P j).1 = none → (fG N P j).2 = 0)
  | 0, _ => ⟨Int.le_refl _, by show (0 : Int) ≤ 400000; omega, fun e h => (by cases h), fun _ => rfl⟩
  | j + 1, hj => by
    obtain ⟨a, b, c, d⟩ := fG_ok hN hp j (by omega)
    have hb := wG_bnd hN hp (e := j) (by omega)
    have e1 : fG N P (j + 1) = if (fG N P j).2 < wG N P j then (some j, wG N P j) else fG N P j := rfl
    rw [e1]
    by_cases q : (fG N P j).2 < wG N P j
    · rw [if_pos q]
      exact ⟨by show 0 ≤ wG N P j; omega, hb.2, fun e h => by cases h; exact ⟨by omega, rfl, by omega⟩, fun h => by cases h⟩
    · rw [if_neg q]
      exact ⟨a, b, fun e h => ⟨by have := (c e h).1; omega, (c e h).2⟩, d⟩
theorem chP_WP (hN : WN N) (hp : WP N P) : WP N (chP N P) := by
  unfold chP
  cases h : (wChg N P).1 with
  | none => exact hp
  | some e =>
    obtain ⟨-, -, c, -⟩ := fG_ok hN hp (wE N) (Nat.le_refl _)
    obtain ⟨c1, c2, c3⟩ := c e h
    obtain ⟨t, k, c, w, -, -, -, -, -, -, h7⟩ := chE_WP hN hp c1 (by omega)
    exact h7
theorem fB_WP (hN : WN N) (hp : WP N P) : ∀ j, j ≤ wE N → WP N (fB N P j).1 ∧ (fB N P j).2 ≤ j
  | 0, _ => ⟨hp, Nat.le_refl _⟩
  | j + 1, hj => by
    obtain ⟨a, b⟩ := fB_WP hN hp j (by omega)
    have e1 : fB N P (j + 1) = if wWt N (fB N P j).1 j then (match wBest N (fB N P j).1 j with
      | none => fB N P j
      | some (c, _) => (bpl (fB N P j).1 j c, (fB N P j).2 + 1)) else fB N P j := rfl
    rw [e1]
    by_cases q : wWt N (fB N P j).1 j = true
    · rw [if_pos q]
      have q2 := q
      unfold wWt at q2
      rw [Bool.and_eq_true, Option.isNone_iff_eq_none] at q2
      cases h : wBest N (fB N P j).1 j with
      | none => exact ⟨a, by show (fB N P j).2 ≤ j + 1; omega⟩
      | some p =>
        obtain ⟨c, w⟩ := p
        exact ⟨bpl_WP hN a (by omega) q2.2 (best_gd h), by show (fB N P j).2 + 1 ≤ j + 1; omega⟩
    · rw [if_neg q]
      exact ⟨a, by omega⟩
section CGA
variable {h : PH}
theorem c_pos_m1 (e : Int32) : F_X3_positionIn h (-1 : Int32) e = some (-1 : Int32) := by
  unfold F_X3_positionIn
  have e1 : F_X7_at 4 h 28 (-1 : Int32) = 0 := by
    unfold F_X7_at
    rw [if_neg (by decide)]
  rw [loop_eq, e1]
  rfl
theorem CN.frP {h' : PH} (c : CN h 14 N) (f : Fr S2829 h h') : CN h' 14 N := c.fr f (fun j hj => by unfold S2829; omega)
theorem CRt.same {h' : PH} (c : CRt h N) (e : ∀ j, 22 ≤ j → j ≤ 25 → h'.1 j = h.1 j) : CRt h' N := by
  refine ⟨fun x y hx hy => by rw [e 22 (by omega) (by omega)]; exact c.1 x y hx hy, fun x v hx hv => ?_, fun u v hu hv => ?_⟩
  · rw [e 23 (by omega) (by omega), e 24 (by omega) (by omega)]
    exact c.2.1 x v hx hv
  · rw [e 25 (by omega) (by omega)]
    exact c.2.2 u v hu hv
theorem CRt.frP {h' : PH} (c : CRt h N) (f : Fr S2829 h h') : CRt h' N := c.same fun j h1 h2 => (f j (by unfold S2829; omega)).1
/-- all that the class's tours stand on -/
def CA (h : PH) (N : NT) (P : PT) : Prop := CN h 14 N ∧ CRt h N ∧ CP h 26 P
theorem CA.mk {h' : PH} {P' : PT} (c : CA h N P) (f : Fr S2829 h h') (hp : CP h' 26 P') : CA h' N P' := ⟨c.1.frP f, c.2.1.frP f, hp⟩
theorem c_spare {t k : Nat} (hN : WN N) (hw : WQ N P) (hc : CA h N P) (ht : t < pT P) (hk : k < pL P t) : F_X4_canSpare h (nI t) (nI k) = if wSpare N P t k then (1 : Int32) else (0 : Int32) := by
  have h14 := (hw.2 t ht).2.1
  have ha : arcsOK N (pL P t) (pA P t) := (hw.2 t ht).2.2
  unfold F_X4_canSpare wSpare
  rw [c_pv hw hc.2.2 ht (by omega), nI_1, c_nx hw hc.2.2 ht (by omega), c_link hN hw hc.2.1 hc.2.2 ht (fun x hx => pv_ok ha (by omega) hx) (fun x hx => nx_ok ha hx), iM]
  cases q : lk N (pH P t) (pv (pA P t) k) (nx (pA P t) (pL P t) (k + 1)) with
  | none => exact if_pos (Int32.le_refl _)
  | some v =>
    have := lk_le hN q
    exact if_neg (nI_ge (show v < 100000000 by omega) (by omega))
theorem c_insB {e : Nat} (hN : WN N) (hp : WP N P) (hc : CA h N P) (he : e < wE N) (hu : wTour P e = none) : ∃ h', F_X4_insertBest h (nI e) = some ((if (wBest N P e).isSome then (1 : Int32) else (0 : Int32)), h') ∧ (Fr S2829 h h' ∧ CP h' 26 (match wBest N P e with
    | none => P
    | some (c, _) => bpl P e c)) := by
  obtain ⟨hw, hs, hd⟩ := hp
  have h13 := room13 hN hw hs he hu
  unfold F_X4_insertBest
  rw [c_best hN hw hd h13 hc.1 hc.2.1 hc.2.2 he, Option.bind_some]
  cases hq : wBest N P e with
  | none =>
    rw [if_neg (fun z => z rfl)]
    exact ⟨h, rfl, Fr.refl h, hc.2.2⟩
  | some p =>
    obtain ⟨c, w⟩ := p
    have hg := best_gd hq
    obtain ⟨t, k, s, ht, hk, hs2, hcc, -, -⟩ := hg c w rfl
    have h14 := h13 t ht
    have h4 := hw.1
    obtain ⟨d1, d2, d3⟩ := code_dec (t := t) (k := k) (s := s) (by omega) hs2
    rw [← hcc] at d1 d2 d3
    obtain ⟨z1, z2, z3⟩ := dec_c (c := c) (by omega)
    obtain ⟨h', e1, f1, p1⟩ := c_put (x := 2 * e + s) hw hc.2.2 ht hk h14
    rw [if_pos (show ¬ cB (some (c, w)) = (-1 : Int32) from eA_ne (x := c) (by omega))]
    show ∃ h', (F_X3_putIn h (nI c / (1000 : Int32)) ((nI c - nI c / (1000 : Int32) * (1000 : Int32)) / (10 : Int32)) ((2 : Int32) * nI e + (nI c - nI c / (10 : Int32) * (10 : Int32)))).bind _ = _ ∧ _
    rw [z2, z3, z1, d1, d2, d3, i2, nI_mul, nI_add, e1]
    refine ⟨h', rfl, f1, ?_⟩
    show CP h' 26 (bpl P e c)
    unfold bpl
    rw [d1, d2, d3]
    exact p1
theorem c_gain {e : Nat} (hN : WN N) (hp : WP N P) (hc : CA h N P) (he : e < wE N) : ∃ h', F_X4_gainOf h (nI e) = some (zi (wG N P e), h') ∧ (Fr S2829 h h' ∧ CP h' 26 P) := by
  have hE := hN.2.2.1
  obtain ⟨hw, hs, hd⟩ := hp
  have h4 := hw.1
  unfold F_X4_gainOf
  rw [c_tour hN hw hc.2.2 (by omega), Option.bind_some]
  cases h1 : wTour P e with
  | none =>
    show ∃ h', (F_X3_positionIn h (-1 : Int32) (nI e)).bind _ = _ ∧ _
    rw [c_pos_m1, Option.bind_some, if_pos (show eA none = (-1 : Int32) from rfl), wG_0 h1]
    exact ⟨h, rfl, Fr.refl h, hc.2.2⟩
  | some t =>
    obtain ⟨ht, k, h2⟩ := wTour_lt h1
    obtain ⟨hk, hke⟩ := wPos_lt h2
    have h14 := (hw.2 t ht).2.1
    have hak := (hw.2 t ht).2.2 k hk
    have eat : eA (some t) = nI t := rfl
    have eak : eA (some k) = nI k := rfl
    rw [eat, c_pos hN hw hc.2.2 ht (by omega), Option.bind_some, h2, eak, if_neg (show ¬ nI t = (-1 : Int32) from eA_ne (by omega)), c_spare hN hw hc ht hk]
    by_cases hsp : wSpare N P t k = true
    · have hp1 := dpl_WP ⟨hw, hs, hd⟩ ht hk hsp
      have hu := dpl_none hs ht hk hke
      have h13 := room13 hN hp1.1 hp1.2.1 he hu
      obtain ⟨h3, e3, f3, p3⟩ := c_take hw hc.2.2 ht hk
      have p3 : CP h3 26 (dpl P t k) := p3
      have c3 := hc.mk f3 p3
      have d1 : pL (dpl P t k) t = pL P t - 1 := setT_L1 _ _ _ _
      have d2 : pA (dpl P t k) t = delA (pA P t) k := setT_A1 _ _ _ _
      have earc : F_X3_arcOrDepot h (nI t) (nI k) = nI (pA P t k) := by
        rw [c_nx hw hc.2.2 ht (by omega), nx_lt hk]
        rfl
      obtain ⟨h7, e7, f7, p7⟩ := c_put (x := pA P t k) (k := k) hp1.1 c3.2.2 (t := t) ht (by omega) (h13 t ht)
      rw [d1, d2, ins_del, show pL P t - 1 + 1 = pL P t by omega] at p7
      have p7 : CP h7 26 (setT (setT P t (pL P t - 1) (delA (pA P t) k)) t (pL P t) (pA P t)) := p7
      rw [setT_setT, setT_id] at p7
      rw [if_pos hsp, if_pos (by decide)]
      rw [e3, Option.bind_some, c_best hN hp1.1 hp1.2.2 h13 c3.1 c3.2.1 c3.2.2 he, Option.bind_some]
      unfold jn
      dsimp only
      rw [earc, e7]
      cases hq : wBest N (dpl P t k) e with
      | none =>
        rw [if_neg (fun z => z rfl), wG_2 h1 h2 hsp hq]
        exact ⟨h7, rfl, f3.trans f7, p7⟩
      | some p =>
        obtain ⟨c, w⟩ := p
        have hg := best_gd hq
        obtain ⟨t', k', s', ht', hk', hs2, hcc, hcd, hww⟩ := hg c w rfl
        have h14' := h13 t' ht'
        have h4' := hp1.1.1
        obtain ⟨d1', d2', d3'⟩ := code_dec (t := t') (k := k') (s := s') (by omega) hs2
        rw [← hcc] at d1' d2' d3'
        obtain ⟨z1, z2, z3⟩ := dec_c (c := c) (by omega)
        have ei : F_X4_increaseAt h3 (nI e) (nI c) = zi w := by
          unfold F_X4_increaseAt
          unfold cdB at hcd
          rw [Bool.and_eq_true] at hcd
          rw [z2, z3, z1, d1', d2', d3', i2, nI_mul, nI_add, c_incr hN hp1.1 c3.2.1 c3.1 c3.2.2 ht' hk' (by omega) (hp1.2.2 t' ht'), if_pos hcd.2, hww]
        have es : F_X4_increaseBy h3 (nI t) (nI k) (nI (pA P t k)) = zi ((wTC N P t : Int) - (wTC N (dpl P t k) t : Int)) := by
          rw [c_incr hN hp1.1 c3.2.1 c3.1 c3.2.2 (t := t) ht (by omega) hak (hp1.2.2 t ht), if_pos (saved_cand hk hd ht hsp), saved_eq hk]
        rw [if_pos (show ¬ cB (some (c, w)) = (-1 : Int32) from eA_ne (x := c) (by omega))]
        refine ⟨h7, ?_, f3.trans f7, p7⟩
        rw [Option.bind_some, show cB (some (c, w)) = nI c from rfl, ei, es, zi_sub, wG_3 h1 h2 hsp hq]
    · rw [if_neg hsp, if_neg (fun z => z rfl), wG_1 h1 h2 hsp]
      exact ⟨h, rfl, Fr.refl h, hc.2.2⟩
/-- an edge, or none's mark -/
theorem c_change (hN : WN N) (hp : WP N P) (hc : CA h N P) : ∃ h', F_X4_makeBestChange h = some (zi (wChg N P).2, h') ∧ (Fr S2829 h h' ∧ CP h' 26 (chP N P)) := by
  have hE := hN.2.2.1
  unfold F_X4_makeBestChange
  refine ex_pr (loop_ind0 (σ := Int32 × Int32 × Int32 × PH) (fun j s => s.1 = eA (fG N P j).1 ∧ s.2.1 = zi (fG N P j).2 ∧ s.2.2.1 = nI j ∧ j ≤ wE N ∧ Fr S2829 h s.2.2.2 ∧ CP s.2.2.2 26 P) _ (wE N) ⟨rfl, rfl, rfl, Nat.zero_le _, Fr.refl h, hc.2.2⟩ ?_)
  rintro j ⟨p1, p2, p3, p4⟩ ⟨e1, e2, e3, hj, fr, cp⟩
  dsimp only at e1 e2 e3 fr cp ⊢
  subst e1
  subst e2
  subst e3
  have c4 : CA p4 N P := hc.mk fr cp
  obtain ⟨g1, g2, g3, g4⟩ := fG_ok hN hp j hj
  rw [c4.1.2.2.1]
  rcases Nat.lt_or_ge j (wE N) with q | q
  · right
    refine ⟨q, ?_⟩
    obtain ⟨h', e4, f4, p4'⟩ := c_gain hN hp c4 q
    have hb := wG_bnd hN hp q
    rw [if_neg (nI_ge q (by omega)), e4, Option.bind_some]
    have e5 : fG N P (j + 1) = if (fG N P j).2 < wG N P j then (some j, wG N P j) else fG N P j := rfl
    rw [e5]
    by_cases z : (fG N P j).2 < wG N P j
    · rw [if_neg (show ¬ zi (wG N P j) ≤ zi (fG N P j).2 from fun y => by rw [zi_le (by omega) (by omega)] at y; omega), if_pos z]
      exact ⟨_, rfl, rfl, rfl, nI_1 j, q, fr.trans f4, p4'⟩
    · rw [if_pos (show zi (wG N P j) ≤ zi (fG N P j).2 from (zi_le (by omega) (by omega)).mpr (by omega)), if_neg z]
      exact ⟨_, rfl, rfl, rfl, nI_1 j, q, fr.trans f4, p4'⟩
  · obtain rfl : j = wE N := by omega
    left
    rw [if_pos (nI_le (Nat.le_refl _) (by omega))]
    cases hch : (fG N P (wE N)).1 with
    | none =>
      rw [if_pos (show eA none = (-1 : Int32) from rfl)]
      refine ⟨_, rfl, rfl, fr, ?_⟩
      have : chP N P = P := by unfold chP wChg; rw [hch]
      rw [this]
      exact cp
    | some e =>
      obtain ⟨c1, c2, c3⟩ := g3 e hch
      obtain ⟨t, k, c, w, h1, h2, h3, h4, h5, h6, h7⟩ := chE_WP hN hp c1 (by omega)
      obtain ⟨hw, hs, hd⟩ := hp
      have ht := (wTour_lt h1).1
      have hk := (wPos_lt h2).1
      have hp1 := dpl_WP ⟨hw, hs, hd⟩ ht hk h3
      have hu := dpl_none hs ht hk (wPos_lt h2).2
      obtain ⟨h8, e8, f8, p8⟩ := c_take hw c4.2.2 ht hk
      have p8 : CP h8 26 (dpl P t k) := p8
      have c8 := c4.mk f8 p8
      obtain ⟨h9, e9, f9, p9⟩ := c_insB hN hp1 c8 c1 hu
      rw [h4] at p9
      rw [if_neg (show ¬ eA (some e) = (-1 : Int32) from eA_ne (by omega))]
      show ∃ r, (F_X3_tourServing p4 (nI e)).bind _ = some (Sum.inr r) ∧ _
      rw [c_tour hN hw c4.2.2 (by omega), Option.bind_some, h1]
      show ∃ r, (F_X3_positionIn p4 (nI t) (nI e)).bind _ = some (Sum.inr r) ∧ _
      rw [c_pos hN hw c4.2.2 ht (by omega), Option.bind_some, h2]
      show ∃ r, (F_X3_takeOut p4 (nI t) (nI k)).bind _ = some (Sum.inr r) ∧ _
      rw [e8, Option.bind_some]
      show ∃ r, (F_X4_insertBest h8 (nI e)).bind _ = some (Sum.inr r) ∧ _
      rw [e9, Option.bind_some]
      refine ⟨_, rfl, rfl, (fr.trans f8).trans f9, ?_⟩
      have : chP N P = bpl (dpl P t k) e c := by unfold chP wChg; rw [hch]; exact h6
      rw [this]
      exact p9
end CGA
end GAN
