/-! KINDS OF THINGS; what a change leaves of a city -/
def kt (D : gDS) (i : Nat) : Nat := match D.1[i]? with
  | some (.inl (c, _)) => 100 + c
  | some (.inr (.inl (k, _))) => 10 + k
  | some (.inr (.inr (.inl _))) => 1
  | some (.inr (.inr (.inr (k, _)))) => 1000 + k
  | none => 0
theorem tI.tg {D : gDS} {i : Nat} {xs : List Int32} (h : tI D i xs) : kt D i = 11 := by
  unfold kt
  rw [show D.1[i]? = _ from h]
theorem tQ.tg {D : gDS} {i : Nat} {xs : List gRF} (h : tQ D i xs) : kt D i = 1006 := by
  unfold kt
  rw [show D.1[i]? = _ from h]
theorem tO.tg {D : gDS} {i c : Nat} {vs : List gPV} (h : tO D i c vs) : kt D i = 100 + c := by
  unfold kt
  rw [show D.1[i]? = _ from h]
/-- all of a city's network but its object -/
def CW (D : gDS) (N : NT) (sv : gRF) (e b d g : Nat) : Prop := GEd D N e ∧ GBn D N b ∧ GM D g (2 * wE N) (gval N) ∧ GSv D N sv ∧ GDp D N d
theorem CW.ext {W : Nat → Prop} {A B : gDS} {N : NT} {sv : gRF} {e b d g : Nat} (h : CW A N sv e b d g) (x : gE W A B) (hw : ∀ i, i < A.1.length → W i → kt A i ≠ 11 ∧ kt A i ≠ 109 ∧ (kt A i ≠ 1006 ∨ (i ≠ e ∧ i ≠ b ∧ i ≠ g))) : CW B N sv e b d g := by
  obtain ⟨h2, h3, h4, h5, h6⟩ := h
  have nI' : ∀ i ys, i < A.1.length → W i → ¬ tI A i ys := fun i ys hi q z => (hw i hi q).1 z.tg
  have nq : ∀ i ys, W i → tQ A i ys → i ≠ e ∧ i ≠ b ∧ i ≠ g := fun i ys q z => by
    rcases (hw i (tQ_lt z) q).2.2 with y | y
    · exact absurd z.tg y
    · exact y
  have qe : ¬ W e := fun q => by
    obtain ⟨es, z, -⟩ := h2
    exact (nq e _ q z).1 rfl
  have qb : ¬ W b := fun q => by
    obtain ⟨es, B, z, -⟩ := h3
    exact (nq b _ q z).2.1 rfl
  exact ⟨h2.ext x (fun i hi q => ⟨fun z => qe (z ▸ q), fun ys => nI' i ys hi q⟩), h3.ext x (fun i hi q => ⟨fun z => qb (z ▸ q), fun ys => nI' i ys hi q⟩), ⟨x.tQ (fun q => (nq g _ q h4.1).2.2 rfl) h4.1, fun y hy => x.tI (fun q => nI' _ _ (tI_lt (h4.2 y hy)) q (h4.2 y hy)) (h4.2 y hy)⟩, h5.ext x (fun i hi q vs z => (hw i hi q).2.1 z.tg), x.tI (fun q => nI' _ _ (tI_lt h6) q h6) h6⟩
theorem GP.exW {W : Nat → Prop} {A B : gDS} {P : PT} {hh tt : Nat} (h : GP A P hh tt) (x : gE W A B) (hw : ∀ i, i < A.1.length → W i → kt A i ≠ 11 ∧ i ≠ tt) : GP B P hh tt := by
  obtain ⟨h1, ts, h2, h3, h4⟩ := h
  refine ⟨x.tI (fun q => (hw _ (tI_lt h1) q).1 h1.tg) h1, ts, x.tQ (fun q => (hw _ (tQ_lt h2) q).2 rfl) h2, h3, fun t ht => ?_⟩
  obtain ⟨i, g1, g2⟩ := h4 t ht
  exact ⟨i, g1, x.tI (fun q => (hw _ (tI_lt g2) q).1 g2.tg) g2⟩
theorem CV.exW {W : Nat → Prop} {A B : gDS} {N : NT} {sv : gRF} {c e b d hh tt g : Nat} (h : CV A c N sv e b d hh tt g) (x : gE W A B) (hw : ∀ i, i < A.1.length → W i → i ≠ c ∧ kt A i ≠ 11 ∧ kt A i ≠ 109 ∧ (kt A i ≠ 1006 ∨ (i ≠ e ∧ i ≠ b ∧ i ≠ g))) : CV B c N sv e b d hh tt g :=
  ⟨x.tO (fun q => (hw _ (tO_lt h.1) q).1 rfl) h.1, CW.ext h.2 x (fun i hi q => (hw i hi q).2)⟩
section SET
variable {D : gDS} {c e b d hh tt g : Nat} {N : NT} {sv : gRF} {P : PT}
/-- the object's field of homes or tours changed -/
theorem CV.setT {t2 : Nat} (hV : CV D c N sv e b d hh tt g) : ∃ D', gFst D (rf c) 8 7 (.inr (.inr (rf t2))) = some D' ∧ CV D' c N sv e b d hh t2 g ∧ gE (fun j => j = c) D D' ∧ D'.1.length = D.1.length ∧ D'.2 = D.2 := by
  have x : gE (fun j => j = c) D (gSet D c (.inl (8, [.inl (nI (wN N)), .inl (nI (wC N)), .inr (.inr sv), .inr (.inr (rf e)), .inr (.inr (rf b)), .inr (.inr (rf d)), .inr (.inr (rf hh)), .inr (.inr (rf t2)), .inr (.inr (rf g))]))) := gSet_E (Or.inl rfl)
  refine ⟨_, gFst_t hV.1 (by show 7 < 9; omega), ⟨gSet_at (tO_lt hV.1), ?_⟩, x, gSet_len, rfl⟩
  exact CW.ext hV.2 x (fun i hi q => by rw [q, (show kt D c = 108 from tO.tg hV.1)]; omega)
theorem CV.setH {h2 : Nat} (hV : CV D c N sv e b d hh tt g) : ∃ D', gFst D (rf c) 8 6 (.inr (.inr (rf h2))) = some D' ∧ CV D' c N sv e b d h2 tt g ∧ gE (fun j => j = c) D D' ∧ D'.1.length = D.1.length ∧ D'.2 = D.2 := by
  have x : gE (fun j => j = c) D (gSet D c (.inl (8, [.inl (nI (wN N)), .inl (nI (wC N)), .inr (.inr sv), .inr (.inr (rf e)), .inr (.inr (rf b)), .inr (.inr (rf d)), .inr (.inr (rf h2)), .inr (.inr (rf tt)), .inr (.inr (rf g))]))) := gSet_E (Or.inl rfl)
  refine ⟨_, gFst_t hV.1 (by show 6 < 9; omega), ⟨gSet_at (tO_lt hV.1), ?_⟩, x, gSet_len, rfl⟩
  exact CW.ext hV.2 x (fun i hi q => by rw [q, (show kt D c = 108 from tO.tg hV.1)]; omega)
/-- the object's own change leaves the plan's rows -/
theorem GP.exC {A B : gDS} {W : Nat → Prop} (h : GP A P hh tt) (x : gE W A B) (hw : ∀ i, i < A.1.length → W i → kt A i ≠ 11 ∧ kt A i ≠ 1006) : GP B P hh tt := h.exW x (fun i hi q => ⟨(hw i hi q).1, fun z => by
  obtain ⟨-, ts, h2, -⟩ := h
  exact (hw i hi q).2 (by rw [z]; exact h2.tg)⟩)
theorem g_totalA (hN : WN N) (hw : WQ N P) (hd : DVs N P) (hV : CV D c N sv e b d hh tt g) (hP : GP D P hh tt) : ∃ D', F_X8_total D (rf c) = some (nI (wTot N P), D') ∧ gE noW D D' ∧ gMd (aS P) (2 * aS P) D D' := by
  have h4 := hw.1
  unfold F_X8_total
  rw [gRv_t hV.1, Option.bind_some]
  obtain ⟨t, h1, h2⟩ := loop_ind0 (body := fun (s1 : Int32 × Int32 × gDS) =>
    (gFr s1.2.2 (rf c) 8 7).bind fun r2 =>
    (gLen s1.2.2 r2).bind fun z3 =>
    if z3 ≤ s1.2.1 then
     some (.inr ((s1.1, s1.2.2)))
    else
     (F_X8_price_ s1.2.2 (rf c) s1.2.1).bind fun y4 =>
     some (.inl ((s1.1 + y4.1), (s1.2.1 + (1 : Int32)), y4.2)))
    (fun k s => k ≤ pT P ∧ ∃ D', s = (nI (sumN (wTC N P) k), nI k, D') ∧ gE noW D D' ∧ gMd (sumN (pL P) k) (2 * sumN (pL P) k) D D') (fun t => ∃ D', t = (nI (wTot N P), D') ∧ gE noW D D' ∧ gMd (aS P) (2 * aS P) D D') (pT P) (s0 := ((0 : Int32), (0 : Int32), D)) ⟨Nat.zero_le _, D, rfl, gE.rf D, gMd.rf D⟩ (fun k s hI => by
    obtain ⟨hk, D', rfl, x, m⟩ := hI
    have hV' := hV.ext x
    have hP' := hP.ext x
    dsimp only
    rw [gFr_t hV'.1 (b := 7) rfl, Option.bind_some, hP'.cnt, Option.bind_some]
    rcases Nat.lt_or_ge k (pT P) with q | q
    · have n1 : ¬ nI (pT P) ≤ nI k := fun z => by
        have := (nI_le' (by omega) (by omega)).mp z
        omega
      obtain ⟨D2, p1, p2, p3⟩ := g_price_ hN hw hV' hP' q
      have h14 := (hw.2 k q).2.1
      have es : sumN (pL P) (k + 1) = sumN (pL P) k + pL P k := rfl
      refine Or.inr ⟨q, ?_⟩
      rw [if_neg n1, p1, Option.bind_some, i1]
      simp only [nI_add]
      refine ⟨_, rfl, q, D2, ?_, x.tr p2, (m.tr p3).mono (by omega) (by omega)⟩
      have e1 : CK 500000 N (pH P k) (pL P k) (pA P k) = wTC N P k := CK_dv (hd k q)
      show _ = (nI (sumN (wTC N P) k + wTC N P k), nI (k + 1), D2)
      rw [e1]
    · obtain rfl : k = pT P := by omega
      exact Or.inl ⟨_, if_pos (Int32.le_refl _), D', rfl, x, m⟩)
  obtain ⟨D', rfl, x, m⟩ := h2
  exact ⟨D', h1, x, m⟩
/-! the best change -/
theorem tot_chg {x t k code : Nat} {w : Int} (hN : WN N) (hp : WP N P) (hx : x < wE N) (ht' : wTour P x = some t) (hk' : wPos P t x = some k) (hsp : wSpare N P t k = true) (hb : wBest N (dpl P t k) x = some (code, w)) : (wTot N (bpl (dpl P t k) x code) : Int) = wTot N P - wG N P x ∧ WP N (bpl (dpl P t k) x code) := by
  obtain ⟨ht, -⟩ := wTour_lt ht'
  obtain ⟨hk, hke⟩ := wPos_lt hk'
  have hp1 := dpl_WP hp ht hk hsp
  have hu := dpl_none hp.2.1 ht hk hke
  have hg := best_gd hb
  have h13 := room13 hN hp1.1 hp1.2.1 hx hu
  refine ⟨?_, bpl_WP hN hp1 hx hu hg⟩
  obtain ⟨u, l, s, u1, u2, u3, u4, u5, u6⟩ := hg code w rfl
  have h13u := h13 u u1
  rw [wG_3 ht' hk' hsp hb, u4, bpl_at (by omega) u3]
  have e1 := tot_set (N := N) (P := dpl P t k) (n := pL (dpl P t k) u + 1) (a := insA (pA (dpl P t k) u) l (2 * x + s)) u1
  have e2 : wTot N (dpl P t k) + wTC N P t = wTot N P + wTC N (dpl P t k) t := by
    have := tot_set (N := N) (P := P) (n := pL P t - 1) (a := delA (pA P t) k) ht
    have e3 : wTC N (dpl P t k) t = CK 0 N (pH P t) (pL P t - 1) (delA (pA P t) k) := by
      unfold wTC
      rw [show pL (dpl P t k) t = pL P t - 1 from setT_L1 _ _ _ _, show pA (dpl P t k) t = delA (pA P t) k from setT_A1 _ _ _ _]
      rfl
    rw [e3]
    exact this
  unfold wInc at u6
  omega
theorem fG_all {N : NT} {Q : PT} : ∀ j, (∀ x, x < j → wG N Q x ≤ 0) → fG N Q j = (none, 0)
  | 0, _ => rfl
  | j + 1, h => by
    show (if (fG N Q j).2 < wG N Q j then (some j, wG N Q j) else fG N Q j) = _
    rw [fG_all j (fun x hx => h x (by omega))]
    exact if_neg (by have := h j (by omega); show ¬ (0 : Int) < _; omega)
theorem fG_lt {N : NT} {Q : PT} {v : Int} (h0 : 0 < v) : ∀ j, (∀ x, x < j → wG N Q x < v) → (fG N Q j).2 < v
  | 0, _ => h0
  | j + 1, h => by
    show (if (fG N Q j).2 < wG N Q j then (some j, wG N Q j) else fG N Q j).2 < v
    by_cases z : (fG N Q j).2 < wG N Q j
    · rw [if_pos z]
      exact h j (by omega)
    · rw [if_neg z]
      exact fG_lt h0 j (fun x hx => h x (by omega))
theorem fG_is {N : NT} {Q : PT} {x0 : Nat} (h0 : 0 < wG N Q x0) (h1 : ∀ x, x < x0 → wG N Q x < wG N Q x0) : ∀ j, x0 < j → (∀ x, x < j → wG N Q x ≤ wG N Q x0) → fG N Q j = (some x0, wG N Q x0)
  | 0, h, _ => absurd h (Nat.not_lt_zero _)
  | j + 1, h, h2 => by
    show (if (fG N Q j).2 < wG N Q j then (some j, wG N Q j) else fG N Q j) = _
    rcases Nat.lt_or_ge x0 j with q | q
    · rw [fG_is h0 h1 j q (fun x hx => h2 x (by omega))]
      exact if_neg (by have := h2 j (by omega); show ¬ wG N Q x0 < _; omega)
    · obtain rfl : j = x0 := by omega
      rw [if_pos (fG_lt h0 j h1)]
end SET
