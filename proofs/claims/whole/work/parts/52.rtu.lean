/-! TOURS OF THE REFERENCE; loads; what waits -/
def RA (h : PH) (N : NT) (P : PT) : Prop := RN h 124 N ∧ RS h 124 N ∧ RG h N (2 * wE N) ∧ RP h 124 P
def S165 (a : Nat) : Prop := a = 165
theorem RA.fr {h h' : PH} {N : NT} {P : PT} {S : Nat → Prop} (hN : WN N) (c : RA h N P) (f : Fr S h h') (h1 : ¬ S 124) (h2 : ∀ j, j < 28 → ¬ S (137 + j)) : RA h' N P :=
  ⟨c.1.fr f h1, c.2.1.same (f 124 h1).1, c.2.2.1.same (fun j hj => (f _ (h2 j hj)).1) hN, c.2.2.2.fr f h1⟩
def wLd (N : NT) (P : PT) (t : Nat) : Nat := sumN (fun k => wDe N (pA P t k / 2)) (pL P t)
/-- an edge with a demand that no tour serves -/
def wWt (N : NT) (P : PT) (e : Nat) : Bool := decide (0 < wDe N e) && (wTour P e).isNone
def DVs (N : NT) (P : PT) : Prop := ∀ t, t < pT P → DV N (pH P t) (pL P t) (pA P t)
def wTC (N : NT) (P : PT) (t : Nat) : Nat := CK 0 N (pH P t) (pL P t) (pA P t)
def wTot (N : NT) (P : PT) : Nat := sumN (wTC N P) (pT P)
theorem wTC_le {N : NT} {P : PT} {t : Nat} (hN : WN N) (hw : WQ N P) (hd : DVs N P) (ht : t < pT P) : wTC N P t ≤ 183051 := CK_dvle hN (hw.2 t ht).2.1 (hw.2 t ht).2.2 (hd t ht)
section RTU
variable {h : PH} {N : NT} {P : PT}
theorem r_tour (t : Nat) : F_X8_tour h (nI t) = nI (192 + 16 * t) := by
  unfold F_X8_tour
  rw [i192, i16, nI_mul, nI_add]
theorem r_len {t : Nat} (hw : WQ N P) (hp : RP h 124 P) (ht : t < pT P) : F_X8_lengthOf h (nI t) = some (nI (pL P t)) := by
  have h4 := hw.1
  unfold F_X8_lengthOf
  rw [r_tour, i1, nI_add, r_num (by omega), (hp.2 t ht).2.1]
  rfl
theorem r_hom {t : Nat} (hw : WQ N P) (hp : RP h 124 P) (ht : t < pT P) : ald 1556 h 124 (F_X8_tour h (nI t)) = some (nI (pH P t)) := by
  have h4 := hw.1
  rw [r_tour, r_num (by omega), (hp.2 t ht).1]
theorem r_arc {t k : Nat} (hw : WQ N P) (hp : RP h 124 P) (ht : t < pT P) (hk : k < pL P t) : F_X8_arcOf h (nI t) (nI k) = some (nI (pA P t k)) := by
  have h4 := hw.1
  have h14 := (hw.2 t ht).2.1
  unfold F_X8_arcOf
  rw [r_tour, i2, nI_add, nI_add, r_num (by omega), (hp.2 t ht).2.2 k hk]
  rfl
theorem r_demand {e : Nat} (hN : WN N) (hc : RN h 124 N) (he : e < wE N) : F_X8_demandOf h (nI e) = some (nI (wDe N e)) := by
  have hE := hN.2.2.1
  unfold F_X8_demandOf
  rw [r_edge, i4, nI_add, r_num (by omega), show 7 + 5 * e + 4 = 11 + 5 * e by omega, hc.2.2.2.2.2.1 e he]
  rfl
theorem r_costTour {t : Nat} (hN : WN N) (hw : WQ N P) (ha : RA h N P) (ht : t < pT P) : ∃ h', F_X8_costOfTour h (nI t) = some (nI (CK 1000000 N (pH P t) (pL P t) (pA P t)), h') ∧ Fr S165 h h' := by
  have hE := hN.2.2.1
  have hn8 := hN.1
  obtain ⟨hh, h14, hak⟩ := hw.2 t ht
  have hak : arcsOK N (pL P t) (pA P t) := hak
  unfold F_X8_costOfTour
  rw [r_len hw ha.2.2.2 ht]
  simp only [Option.bind_some]
  rw [r_hom hw ha.2.2.2 ht]
  simp only [Option.bind_some]
  cases hl : pL P t with
  | zero =>
    rw [if_neg (fun z => z rfl)]
    refine ⟨h, ?_, Fr.refl h⟩
    have : CK 1000000 N (pH P t) 0 (pA P t) = 0 := rfl
    rw [this]
    rfl
  | succ n =>
    have hn1 : n + 1 = pL P t := hl.symm
    rw [if_pos (nI_ne0 (by omega) (by omega)), i0, r_arc hw ha.2.2.2 ht (by omega)]
    simp only [Option.bind_some]
    rw [r_app hN ha.1 ha.2.2.1 (hak 0 (by omega)) (by omega)]
    simp only [Option.bind_some]
    rw [nI_pred, r_arc hw ha.2.2.2 ht (by omega)]
    simp only [Option.bind_some]
    rw [r_ret hN ha.1 ha.2.2.1 (hak n (by omega)) (by omega)]
    simp only [Option.bind_some]
    rw [hl] at hak h14
    generalize hcc : cL 1000000 N (pH P t) (n + 1) (pA P t) = c
    have c0 : c 0 = en 1000000 (wApp N (pH P t) (pA P t 0)) := by
      rw [← hcc]
      unfold cL
      rw [nx_lt (by omega)]
      rfl
    have cn : c (n + 1) = en 1000000 (wRet N (pA P t n) (pH P t)) := by
      rw [← hcc]
      unfold cL
      rw [pv_s, nx_ge (Nat.le_refl _)]
      rfl
    have cj : ∀ j, j + 1 < n + 1 → c (j + 1) = en 1000000 (wDh N (pA P t j) (pA P t (j + 1))) := fun j hj => by
      rw [← hcc]
      unfold cL
      rw [pv_s, nx_lt hj]
      rfl
    refine ex_pr (loop_ind0 (σ := Int32 × Int32 × PH) (fun k s => s.1 = nI ((if k = 0 then c 0 else sumN c k) + c (n + 1) + sumN (fun j => wSv N (pA P t j)) k) ∧ s.2.1 = nI k ∧ k ≤ n + 1 ∧ Fr S165 h s.2.2) _ (n + 1) ⟨?_, rfl, Nat.zero_le _, Fr.refl h⟩ ?_)
    · show nI _ + nI _ = _
      rw [nI_add, if_pos rfl, c0, cn]
      rfl
    rintro k ⟨p1, p2, p3⟩ ⟨e1, e2, hk, fr⟩
    dsimp only at e1 e2 fr ⊢
    subst e1
    subst e2
    have ha3 : RA p3 N P := ha.fr hN fr (by unfold S165; omega) (fun j hj => by unfold S165; omega)
    rcases Nat.lt_or_ge k (n + 1) with q | q
    · right
      refine ⟨q, ?_⟩
      rw [if_neg (nI_ge q (by omega)), r_arc hw ha3.2.2.2 ht (by omega)]
      simp only [Option.bind_some]
      obtain ⟨h9, s1, s2⟩ := r_serv hN ha3.1 ha3.2.1 (hak k q)
      rw [s1]
      simp only [Option.bind_some]
      have s2 : Fr S165 p3 h9 := s2
      have ha9 : RA h9 N P := ha3.fr hN s2 (by unfold S165; omega) (fun j hj => by unfold S165; omega)
      cases k with
      | zero =>
        rw [if_neg (fun z => z rfl)]
        refine ⟨_, rfl, ?_, nI_1 0, q, fr.trans s2⟩
        rw [nI_add, nI_add, if_pos rfl, if_neg (by omega)]
        show nI (c 0 + c (n + 1) + 0 + (wSv N (pA P t 0) + 0)) = nI (0 + c 0 + c (n + 1) + (0 + wSv N (pA P t 0)))
        congr 1
        omega
      | succ k =>
        rw [if_pos (show ¬ nI (k + 1) = nI 0 from fun z => by have := (nI_eq (by omega) (by omega)).mp z; omega), nI_pred, r_arc hw ha9.2.2.2 ht (by omega)]
        simp only [Option.bind_some]
        rw [aidx_in (by have := hak k (by omega); omega) (by have := hak k (by omega); omega)]
        simp only [Option.bind_some]
        rw [r_arc hw ha9.2.2.2 ht (by omega)]
        simp only [Option.bind_some]
        rw [r_gap hN ha9.2.2.1 (hak k (by omega)) (hak (k + 1) (by omega))]
        simp only [Option.bind_some]
        refine ⟨_, rfl, ?_, nI_1 _, q, fr.trans s2⟩
        rw [nI_add, nI_add, if_neg (by omega), if_neg (by omega), ← cj k q]
        show nI (sumN c (k + 1) + c (n + 1) + sumN _ (k + 1) + (wSv N (pA P t (k + 1)) + c (k + 1))) = nI (sumN c (k + 1) + c (k + 1) + c (n + 1) + (sumN _ (k + 1) + wSv N (pA P t (k + 1))))
        congr 1
        omega
    · obtain rfl : k = n + 1 := by omega
      left
      refine ⟨_, if_pos (nI_le (Nat.le_refl _) (by omega)), ?_, fr⟩
      rw [if_neg (by omega)]
      unfold CK
      rw [hcc]
      show _ = nI (sumN c (n + 1) + c (n + 1) + sumN _ (n + 1))
      rfl
theorem r_place {t e : Nat} (hN : WN N) (hw : WQ N P) (hp : RP h 124 P) (ht : t < pT P) (he : e < 2 ^ 31) : F_X8_placeIn h (nI t) (nI e) = some (eA (wPos P t e)) := by
  have hE := hN.2.2.1
  have h4 := hw.1
  obtain ⟨hh, h14, ha⟩ := hw.2 t ht
  unfold F_X8_placeIn
  obtain ⟨r, h1, h2⟩ := loop_ind0 (σ := Int32) (τ := Int32) (body := fun (s1 : Int32) =>
    (F_X8_lengthOf h (nI t)).bind fun z2 => if z2 ≤ s1 then some (.inr ((-1 : Int32)))
    else (F_X8_arcOf h (nI t) s1).bind fun z3 => if ¬ (z3 / (2 : Int32)) = nI e then some (.inl ((s1 + (1 : Int32)))) else some (.inr (s1))) (s0 := (0 : Int32)) (fun k s => s = nI k ∧ k ≤ pL P t ∧ ∀ j, j < k → decide (pA P t j / 2 = e) = false) (fun r => r = eA (wPos P t e)) (pL P t) ⟨rfl, Nat.zero_le _, fun j hj => absurd hj (Nat.not_lt_zero _)⟩ (by
    rintro k s ⟨rfl, hk, inv⟩
    rw [r_len hw hp ht]
    simp only [Option.bind_some]
    rcases Nat.lt_or_ge k (pL P t) with q | q
    · have hak := ha k q
      rw [if_neg (nI_ge q (by omega)), r_arc hw hp ht q]
      simp only [Option.bind_some]
      rw [r_half (by omega)]
      by_cases z : pA P t k / 2 = e
      · left
        refine ⟨_, if_neg (fun y => y (by rw [z])), ?_⟩
        unfold wPos
        rw [fnd_is q (by simp [z]) inv]
        rfl
      · right
        refine ⟨q, _, if_pos (fun y => z ((nI_eq (by omega) he).mp y)), nI_1 k, q, fun j hj => ?_⟩
        rcases Nat.lt_or_ge j k with y | y
        · exact inv j y
        · obtain rfl : j = k := by omega
          simp [z]
    · obtain rfl : k = pL P t := by omega
      left
      refine ⟨_, if_pos (nI_le (Nat.le_refl _) (by omega)), ?_⟩
      unfold wPos
      rw [fnd_no inv]
      rfl)
  rw [h1, h2]
theorem r_tours (hp : RP h 124 P) : ald 1556 h 124 (4 : Int32) = some (nI (pT P)) := by rw [i4, r_num (by omega), hp.1]
theorem r_edges (hc : RN h 124 N) : ald 1556 h 124 (2 : Int32) = some (nI (wE N)) := by rw [i2, r_num (by omega), hc.2.2.1]
theorem r_nodes (hc : RN h 124 N) : ald 1556 h 124 (0 : Int32) = some (nI (wN N)) := by rw [i0, r_num (by omega), hc.1]
theorem r_with {e : Nat} (hN : WN N) (hw : WQ N P) (hp : RP h 124 P) (he : e < 2 ^ 31) : F_X8_tourWith h (nI e) = some (eA (wTour P e)) := by
  have h4 := hw.1
  unfold F_X8_tourWith
  obtain ⟨r, h1, h2⟩ := loop_ind0 (σ := Int32) (τ := Int32) (body := fun (s1 : Int32) =>
    (ald 1556 h 124 (4 : Int32)).bind fun z2 => if z2 ≤ s1 then some (.inr ((-1 : Int32)))
    else (F_X8_placeIn h s1 (nI e)).bind fun z3 => if z3 = (-1 : Int32) then some (.inl ((s1 + (1 : Int32)))) else some (.inr (s1))) (s0 := (0 : Int32)) (fun k s => s = nI k ∧ k ≤ pT P ∧ ∀ j, j < k → (wPos P j e).isSome = false) (fun r => r = eA (wTour P e)) (pT P) ⟨rfl, Nat.zero_le _, fun j hj => absurd hj (Nat.not_lt_zero _)⟩ (by
    rintro k s ⟨rfl, hk, inv⟩
    rw [r_tours hp]
    simp only [Option.bind_some]
    rcases Nat.lt_or_ge k (pT P) with q | q
    · rw [if_neg (nI_ge q (by omega)), r_place hN hw hp q he]
      simp only [Option.bind_some]
      cases z : wPos P k e with
      | some j =>
        have hj := (wPos_lt z).1
        have h14 := (hw.2 k q).2.1
        left
        refine ⟨_, if_neg (show ¬ eA (some j) = (-1 : Int32) from eA_ne (by omega)), ?_⟩
        unfold wTour
        rw [fnd_is q (by rw [z]; rfl) inv]
        rfl
      | none =>
        right
        refine ⟨q, _, if_pos rfl, nI_1 k, q, fun j hj => ?_⟩
        rcases Nat.lt_or_ge j k with y | y
        · exact inv j y
        · obtain rfl : j = k := by omega
          rw [z]
          rfl
    · obtain rfl : k = pT P := by omega
      left
      refine ⟨_, if_pos (nI_le (Nat.le_refl _) (by omega)), ?_⟩
      unfold wTour
      rw [fnd_no inv]
      rfl)
  rw [h1, h2]
theorem r_load {t : Nat} (hN : WN N) (hw : WQ N P) (hc : RN h 124 N) (hp : RP h 124 P) (ht : t < pT P) : F_X8_loadOfTour h (nI t) = some (nI (wLd N P t)) := by
  have h14 := (hw.2 t ht).2.1
  have hE := hN.2.2.1
  unfold F_X8_loadOfTour
  refine loop_to (fun k => (nI (sumN (fun k => wDe N (pA P t k / 2)) k), nI k)) (pL P t) rfl (fun k hk => ?_) ?_
  · have ha := (hw.2 t ht).2.2 k hk
    rw [r_len hw hp ht]
    simp only [Option.bind_some]
    rw [if_neg (nI_ge hk (by omega)), r_arc hw hp ht hk]
    simp only [Option.bind_some]
    rw [r_half (by omega), r_demand hN hc (by omega)]
    simp only [Option.bind_some]
    rw [nI_add, nI_1]
    rfl
  · rw [r_len hw hp ht]
    simp only [Option.bind_some]
    exact if_pos (nI_le (Nat.le_refl _) (by omega))
theorem c_demand {e : Nat} (hN : WN N) (hc : CN h 14 N) (he : e < wE N) : F_X7_at 14 h 19 (nI e) = nI (wDe N e) := by
  have hE := hN.2.2.1
  rw [at_in (by omega) (by omega)]
  exact hc.2.2.2.2.2.1 e he
theorem c_load {t : Nat} (hN : WN N) (hw : WQ N P) (hc : CN h 14 N) (hp : CP h 26 P) (ht : t < pT P) : F_X4_demandIn h (nI t) = some (nI (wLd N P t)) := by
  have h14 := (hw.2 t ht).2.1
  have hE := hN.2.2.1
  unfold F_X4_demandIn
  refine loop_to (fun k => (nI (sumN (fun k => wDe N (pA P t k / 2)) k), nI k)) (pL P t) rfl (fun k hk => ?_) ?_
  · have ha := (hw.2 t ht).2.2 k hk
    dsimp only
    rw [c_size hp ht hw.1, if_neg (nI_ge hk (by omega)), c_nx hw hp ht (by omega), nx_lt hk]
    show some (Sum.inl (nI _ + F_X7_at 14 h 19 (nI (pA P t k) / (2 : Int32)), nI k + (1 : Int32))) = _
    rw [r_half (by omega), c_demand hN hc (by omega), nI_add, nI_1]
    rfl
  · dsimp only
    rw [c_size hp ht hw.1]
    exact if_pos (nI_le (Nat.le_refl _) (by omega))
theorem wLd_le {t : Nat} (hN : WN N) (hw : WQ N P) (ht : t < pT P) : wLd N P t ≤ 1386 := by
  have h14 := (hw.2 t ht).2.1
  have h1 := sumN_le (f := fun k => wDe N (pA P t k / 2)) (B := 99) (k := pL P t) (fun j hj => hN.2.2.2.2.2.1 _ (by have := (hw.2 t ht).2.2 j hj; omega))
  unfold wLd
  omega
theorem c_room {t e : Nat} (hN : WN N) (hw : WQ N P) (hc : CN h 14 N) (hp : CP h 26 P) (ht : t < pT P) (he : e < wE N) : F_X4_hasRoom h (nI t) (nI e) = some (if wC N < wLd N P t + wDe N e then (0 : Int32) else (1 : Int32)) := by
  have h1 := wLd_le hN hw ht
  have h2 := hN.2.2.2.2.2.1 e he
  have h3 := hN.2.1
  unfold F_X4_hasRoom
  rw [c_load hN hw hc hp ht]
  simp only [Option.bind_some]
  rw [c_demand hN hc he, hc.2.1, nI_add]
  by_cases q : wC N < wLd N P t + wDe N e
  · rw [if_pos (nI_lt q (by omega)), if_pos q]
  · rw [if_neg (nI_nlt (by omega) (by omega)), if_neg q]
theorem c_wait {e : Nat} (hN : WN N) (hw : WQ N P) (hc : CN h 14 N) (hp : CP h 26 P) (he : e < wE N) : F_X4_isWaiting h (nI e) = some (if wWt N P e then (1 : Int32) else (0 : Int32)) := by
  have hE := hN.2.2.1
  have h2 := hN.2.2.2.2.2.1 e he
  unfold F_X4_isWaiting wWt
  rw [c_demand hN hc he]
  by_cases q : 0 < wDe N e
  · rw [if_neg (nI_nle q (by omega)), c_tour hN hw hp (by omega)]
    simp only [Option.bind_some]
    cases z : wTour P e with
    | none =>
      rw [if_neg (fun y => y rfl)]
      simp [q]
    | some t =>
      have ht := (wTour_lt z).1
      have h4 := hw.1
      rw [if_pos (show ¬ eA (some t) = (-1 : Int32) from eA_ne (by omega))]
      simp
  · have q0 : wDe N e = 0 := by omega
    rw [q0, if_pos (show nI 0 ≤ 0 from Int32.le_refl _)]
    simp
theorem r_wait {e : Nat} (hN : WN N) (hw : WQ N P) (hc : RN h 124 N) (hp : RP h 124 P) (he : e < wE N) : F_X8_canBeServed h (nI e) = some (if wWt N P e then (1 : Int32) else (0 : Int32)) := by
  have hE := hN.2.2.1
  have h2 := hN.2.2.2.2.2.1 e he
  unfold F_X8_canBeServed wWt
  rw [r_demand hN hc he]
  simp only [Option.bind_some]
  by_cases q : 0 < wDe N e
  · rw [if_neg (nI_nle q (by omega)), r_with hN hw hp (by omega)]
    simp only [Option.bind_some]
    cases z : wTour P e with
    | none =>
      rw [if_neg (fun y => y rfl)]
      simp [q]
    | some t =>
      have ht := (wTour_lt z).1
      have h4 := hw.1
      rw [if_pos (show ¬ eA (some t) = (-1 : Int32) from eA_ne (by omega))]
      simp
  · have q0 : wDe N e = 0 := by omega
    rw [q0, if_pos (show nI 0 ≤ 0 from Int32.le_refl _)]
    simp
def wUn (N : NT) (P : PT) : Nat := cnt (wWt N P) (wE N)
theorem c_unserved (hN : WN N) (hw : WQ N P) (hc : CN h 14 N) (hp : CP h 26 P) : F_X7_unserved h = some (nI (wUn N P)) := by
  have hE := hN.2.2.1
  unfold F_X7_unserved
  refine loop_to (fun k => (nI (cnt (wWt N P) k), nI k)) (wE N) rfl (fun k hk => ?_) ?_
  · dsimp only
    rw [hc.2.2.1, if_neg (nI_ge hk (by omega)), c_wait hN hw hc hp hk]
    simp only [Option.bind_some]
    rw [cnt_s]
    by_cases q : wWt N P k = true
    · rw [if_pos q, if_neg (by decide), if_pos q, nI_1, nI_1]
    · rw [if_neg q, if_pos rfl, if_neg q, nI_1]
      rfl
  · dsimp only
    rw [hc.2.2.1]
    exact if_pos (nI_le (Nat.le_refl _) (by omega))
theorem r_unserved (hN : WN N) (hw : WQ N P) (hc : RN h 124 N) (hp : RP h 124 P) : F_X8_unservedOnes h = some (nI (wUn N P)) := by
  have hE := hN.2.2.1
  unfold F_X8_unservedOnes
  refine loop_to (fun k => (nI (cnt (wWt N P) k), nI k)) (wE N) rfl (fun k hk => ?_) ?_
  · dsimp only
    rw [r_edges hc]
    simp only [Option.bind_some]
    rw [if_neg (nI_ge hk (by omega)), r_wait hN hw hc hp hk]
    simp only [Option.bind_some]
    rw [cnt_s]
    by_cases q : wWt N P k = true
    · rw [if_pos q, if_neg (by decide), if_pos q, nI_1, nI_1]
    · rw [if_neg q, if_pos rfl, if_neg q, nI_1, i0, nI_add]
  · dsimp only
    rw [r_edges hc]
    simp only [Option.bind_some]
    exact if_pos (nI_le (Nat.le_refl _) (by omega))
theorem c_tourCost {t : Nat} (hN : WN N) (hw : WQ N P) (hd : DVs N P) (hn : CN h 14 N) (hr : CRt h N) (hc : CP h 26 P) (ht : t < pT P) : F_X4_costOf h (nI t) = some (nI (wTC N P t)) := by
  rw [c_costOf hN hw hn hr hc ht, CK_dv (K' := 0) (hd t ht)]
  rfl
theorem c_total (hN : WN N) (hw : WQ N P) (hd : DVs N P) (hn : CN h 14 N) (hr : CRt h N) (hc : CP h 26 P) : F_X7_totalCost h = some (nI (wTot N P)) := by
  have h4 := hw.1
  unfold F_X7_totalCost
  refine loop_to (fun k => (nI (sumN (wTC N P) k), nI k)) (pT P) rfl (fun k hk => ?_) ?_
  · dsimp only
    rw [hc.1, if_neg (nI_ge hk (by omega)), c_tourCost hN hw hd hn hr hc hk]
    simp only [Option.bind_some]
    rw [nI_add, nI_1]
    rfl
  · dsimp only
    rw [hc.1]
    exact if_pos (nI_le (Nat.le_refl _) (by omega))
theorem r_tourCost {t : Nat} (hN : WN N) (hw : WQ N P) (hd : DVs N P) (ha : RA h N P) (ht : t < pT P) : ∃ h', F_X8_costOfTour h (nI t) = some (nI (wTC N P t), h') ∧ Fr S165 h h' := by
  obtain ⟨h', e, f⟩ := r_costTour hN hw ha ht
  refine ⟨h', ?_, f⟩
  rw [e, CK_dv (K' := 0) (hd t ht)]
  rfl
theorem r_total (hN : WN N) (hw : WQ N P) (hd : DVs N P) (ha : RA h N P) : ∃ h', F_X8_totalOf h = some (nI (wTot N P), h') ∧ Fr S165 h h' := by
  have h4 := hw.1
  unfold F_X8_totalOf
  refine ex_pr (loop_ind0 (σ := Int32 × Int32 × PH) (fun k s => s.1 = nI (sumN (wTC N P) k) ∧ s.2.1 = nI k ∧ k ≤ pT P ∧ Fr S165 h s.2.2) _ (pT P) ⟨rfl, rfl, Nat.zero_le _, Fr.refl h⟩ ?_)
  rintro k ⟨p1, p2, p3⟩ ⟨e1, e2, hk, fr⟩
  dsimp only at e1 e2 fr ⊢
  subst e1
  subst e2
  have ha3 : RA p3 N P := ha.fr hN fr (by unfold S165; omega) (fun j hj => by unfold S165; omega)
  rw [r_tours ha3.2.2.2]
  simp only [Option.bind_some]
  rcases Nat.lt_or_ge k (pT P) with q | q
  · right
    obtain ⟨h', e, f⟩ := r_tourCost hN hw hd ha3 q
    rw [if_neg (nI_ge q (by omega)), e]
    simp only [Option.bind_some]
    exact ⟨q, _, rfl, by rw [nI_add]; rfl, nI_1 k, q, fr.trans f⟩
  · obtain rfl : k = pT P := by omega
    exact Or.inl ⟨_, if_pos (nI_le (Nat.le_refl _) (by omega)), rfl, fr⟩
end RTU
