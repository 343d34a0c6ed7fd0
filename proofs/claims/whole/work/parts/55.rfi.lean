/-! THE REFERENCE'S SEARCH -/
def S3 (a : Nat) : Prop := a = 124 ∨ a = 165
section RFI
variable {h : PH} {N : NT} {P : PT}
theorem RA.fr3 {h' : PH} {N' : NT} (hN : WN N') (c : RA h N' P) (f : Fr S165 h h') : RA h' N' P := c.fr hN f (by unfold S165; omega) (fun j hj => by unfold S165; omega)
theorem r_costWith {t k x : Nat} (hN : WN N) (hw : WQ N P) (hc : RA h N P) (ht : t < pT P) (hk : k ≤ pL P t) (h13 : pL P t ≤ 13) (hx : x < 2 * wE N) :
    ∃ h', F_X8_costWith h (nI t) (nI k) (nI x) = some (nI (if wRoom N P t (x / 2) then CK 1000000 N (pH P t) (pL P t + 1) (insA (pA P t) k x) else 1000000), h') ∧ (Fr S3 h h' ∧ RA h' N P) := by
  have hE := hN.2.2.1
  have l1 := wLd_le hN hw ht
  have l2 := hN.2.2.2.2.2.1 (x / 2) (by omega)
  have l3 := hN.2.1
  generalize hv : nI (if wRoom N P t (x / 2) then CK 1000000 N (pH P t) (pL P t + 1) (insA (pA P t) k x) else 1000000) = v
  unfold F_X8_costWith
  rw [iK, r_load hN hw hc.1 hc.2.2.2 ht]
  rw [Option.bind_some]
  rw [r_half (by omega), r_demand hN hc.1 (by omega)]
  rw [Option.bind_some]
  rw [i1, r_num (by omega), hc.1.2.1]
  rw [Option.bind_some]
  rw [nI_add]
  unfold wRoom at hv
  by_cases q : wLd N P t + wDe N (x / 2) ≤ wC N
  · rw [if_pos (decide_eq_true q)] at hv
    rw [if_pos (nI_le q (by omega)), ← hv]
    obtain ⟨h4, e4, f4, a4⟩ := r_put (x := x) hN hw hc ht hk h13
    have w4 : WQ N (setT P t (pL P t + 1) (insA (pA P t) k x)) := hw.set (by omega) (ins_ok (hw.2 t ht).2.2 hx hk)
    obtain ⟨h5, e5, f5⟩ := r_costTour hN w4 a4 (t := t) ht
    rw [setT_H, setT_L1, setT_A1] at e5
    have a5 := a4.fr3 hN f5
    obtain ⟨h6, e6, f6, a6⟩ := r_take (t := t) (k := k) hN w4 a5 ht (by rw [setT_L1]; omega)
    rw [setT_L1, setT_A1, setT_setT, del_ins, show pL P t + 1 - 1 = pL P t by omega, setT_id] at a6
    rw [e4]
    rw [Option.bind_some]
    rw [e5]
    rw [Option.bind_some]
    rw [e6]
    rw [Option.bind_some]
    refine ⟨h6, rfl, ?_⟩
    exact ⟨(f4.mono (fun i hi => Or.inl hi)).trans ((f5.mono (fun i hi => Or.inr hi)).trans (f6.mono (fun i hi => Or.inl hi))), a6⟩
  · have q2 : ¬ decide (wLd N P t + wDe N (x / 2) ≤ wC N) = true := fun z => q (of_decide_eq_true z)
    rw [if_neg q2] at hv
    rw [if_neg (nI_ge (show wC N < wLd N P t + wDe N (x / 2) by omega) (by omega)), ← hv]
    exact ⟨h, rfl, Fr.refl h, hc⟩
theorem cB_ne {st : Option (Nat × Int)} (h : ∀ c w, st = some (c, w) → c < 4000) : cB st = (-1 : Int32) ↔ st = none := by
  cases st with
  | none => exact ⟨fun _ => rfl, fun _ => rfl⟩
  | some p =>
    obtain ⟨c, w⟩ := p
    have := h c w rfl
    exact ⟨fun z => absurd z (eA_ne (x := c) (by omega)), fun z => by cases z⟩
def lB (st : Option (Nat × Int)) (v : Int32) : Prop := ∀ c w, st = some (c, w) → v = zi w
theorem r_find {e : Nat} (hN : WN N) (hw : WQ N P) (hd : DVs N P) (h13 : R13 P) (hc : RA h N P) (he : e < wE N) : ∃ h', F_X8_findInsertion h (nI e) = some (cB (wBest N P e), h') ∧ (Fr S3 h h' ∧ RA h' N P) := by
  have hE := hN.2.2.1
  have h4 := hw.1
  unfold F_X8_findInsertion
  refine ex_pr (loop_ind0 (σ := Int32 × Int32 × Int32 × PH) (fun j s => s.1 = cB (fTo N P e j) ∧ lB (fTo N P e j) s.2.1 ∧ s.2.2.1 = nI j ∧ j ≤ pT P ∧ Fr S3 h s.2.2.2 ∧ RA s.2.2.2 N P) _ (pT P) ⟨rfl, fun c w z => (by cases z), rfl, Nat.zero_le _, Fr.refl h, hc⟩ ?_)
  rintro t ⟨p1, p2, p3, p4⟩ ⟨e1, e2, e3, ht, fr, ra⟩
  dsimp only at e1 e2 e3 fr ra ⊢
  subst e1
  subst e3
  rw [r_tours ra.2.2.2]
  simp only [Option.bind_some]
  rcases Nat.lt_or_ge t (pT P) with q | q
  · right
    refine ⟨q, ?_⟩
    have h14 := h13 t q
    rw [if_neg (nI_ge q (by omega))]
    refine ex_inl (loop_ind0 (σ := Int32 × Int32 × Int32 × PH) (fun j s => s.1 = cB (fK N P e (fTo N P e t) t j) ∧ lB (fK N P e (fTo N P e t) t j) s.2.1 ∧ s.2.2.1 = nI j ∧ j ≤ pL P t + 1 ∧ Fr S3 h s.2.2.2 ∧ RA s.2.2.2 N P) _ (pL P t + 1) ⟨rfl, e2, rfl, Nat.zero_le _, fr, ra⟩ ?_)
    rintro k ⟨r1, r2, r3, r4⟩ ⟨g1, g2, g3, hk, fr2, ra2⟩
    dsimp only at g1 g2 g3 fr2 ra2 ⊢
    subst g1
    subst g3
    rw [r_len hw ra2.2.2.2 q]
    simp only [Option.bind_some]
    rcases Nat.lt_or_ge k (pL P t + 1) with q2 | q2
    · right
      refine ⟨q2, ?_⟩
      rw [if_neg (nI_nlt (by omega) (by omega))]
      refine ex_inl (loop_ind0 (σ := Int32 × Int32 × Int32 × PH) (fun j s => s.1 = cB (fS N P e (fK N P e (fTo N P e t) t k) t k j) ∧ lB (fS N P e (fK N P e (fTo N P e t) t k) t k j) s.2.1 ∧ s.2.2.1 = nI j ∧ j ≤ 2 ∧ Fr S3 h s.2.2.2 ∧ RA s.2.2.2 N P) _ 2 ⟨rfl, g2, rfl, Nat.zero_le _, fr2, ra2⟩ ?_)
      rintro s ⟨u1, u2, u3, u4⟩ ⟨w1, w2, w3, hs, fr3, ra3⟩
      dsimp only at w1 w2 w3 fr3 ra3 ⊢
      subst w1
      subst w3
      rcases Nat.lt_or_ge s 2 with q3 | q3
      · right
        refine ⟨q3, ?_⟩
        have gd := gd_S (gd_K (gd_T (N := N) (P := P) (e := e) t (by omega)) q k (by omega)) q (show k ≤ pL P t by omega) s (by omega)
        have hx : 2 * e + s < 2 * wE N := by omega
        obtain ⟨h6, e6, f6, a6⟩ := r_costWith hN hw ra3 q (show k ≤ pL P t by omega) h14 hx
        obtain ⟨h7, e7, f7⟩ := r_tourCost hN hw hd a6 q
        have a7 := a6.fr3 hN f7
        have ff : Fr S3 h h7 := fr3.trans (f6.trans (f7.mono (fun i hi => Or.inr hi)))
        rw [if_neg (show ¬ (2 : Int32) ≤ nI s from nI_ge (b := 2) q3 (by omega)), i2, nI_mul, nI_add, e6]
        simp only [Option.bind_some]
        rw [e7]
        simp only [Option.bind_some]
        rw [show (2 * e + s) / 2 = e by omega, i1000, i10, nI_mul, nI_mul, nI_add, nI_add, iK]
        have es : fS N P e (fK N P e (fTo N P e t) t k) t k (s + 1) = stepB N P e (fS N P e (fK N P e (fTo N P e t) t k) t k s) t k s := rfl
        rw [es]
        revert gd w2
        generalize fS N P e (fK N P e (fTo N P e t) t k) t k s = st
        intro w2 gd
        have gc : ∀ c w, st = some (c, w) → c < 4000 := fun c w z => (gd_bnd hN hw hd h13 he gd z).1
        unfold stepB
        by_cases qc : cdB N P e t k s = true
        · have qc2 := qc
          unfold cdB at qc2
          rw [Bool.and_eq_true] at qc2
          have hdv := (cand_DV (hd t q) (show k ≤ pL P t by omega)).mp qc2.2
          have hle := CK_dvle (K := 1000000) hN (by omega) (ins_ok (hw.2 t q).2.2 hx (show k ≤ pL P t by omega)) hdv
          have hb := inc_bnd hN hw hd q (show k ≤ pL P t by omega) h14 hx qc2.2
          have hmore : nI (CK 1000000 N (pH P t) (pL P t + 1) (insA (pA P t) k (2 * e + s))) - nI (wTC N P t) = zi (wInc N P t k (2 * e + s)) := by
            rw [nI_zi, nI_zi, zi_sub, CK_dv (K' := 0) hdv]
            rfl
          rw [if_pos qc2.1, if_pos qc, if_neg (nI_ge (by omega) (by omega)), hmore, nI_1]
          cases st with
          | none =>
            rw [if_pos ((cB_ne gc).mpr rfl)]
            refine ⟨_, rfl, rfl, fun c w z => ?_, rfl, q3, ff, a7⟩
            cases z
            rfl
          | some p =>
            obtain ⟨c, w⟩ := p
            have hb2 := gd_bnd hN hw hd h13 he gd rfl
            have hw2 : u2 = zi w := w2 c w rfl
            rw [if_neg (fun z => by have := (cB_ne gc).mp z; cases this), hw2]
            dsimp only
            by_cases z : wInc N P t k (2 * e + s) < w
            · rw [if_pos ((zi_lt (by omega) (by omega)).mpr z), if_pos z]
              refine ⟨_, rfl, rfl, fun c w z => ?_, rfl, q3, ff, a7⟩
              cases z
              rfl
            · rw [if_neg (fun y => z ((zi_lt (by omega) (by omega)).mp y)), if_neg z]
              refine ⟨_, rfl, rfl, fun c w z => ?_, rfl, q3, ff, a7⟩
              cases z
              rfl
        · rw [if_neg qc]
          have hge : 1000000 ≤ (if wRoom N P t e = true then CK 1000000 N (pH P t) (pL P t + 1) (insA (pA P t) k (2 * e + s)) else 1000000) := by
            split
            · rename_i z
              refine CK_nd (fun y => qc ?_)
              unfold cdB
              rw [z, (cand_DV (hd t q) (show k ≤ pL P t by omega)).mpr y]
              rfl
            · exact Nat.le_refl _
          have hle2 : (if wRoom N P t e = true then CK 1000000 N (pH P t) (pL P t + 1) (insA (pA P t) k (2 * e + s)) else 1000000) < 2 ^ 31 := by
            split
            · have := CK_le (K := 1000000) (home := pH P t) hN (by omega) (show pL P t + 1 ≤ 14 by omega) (ins_ok (hw.2 t q).2.2 hx (show k ≤ pL P t by omega))
              omega
            · omega
          rw [if_pos (nI_le hge hle2), nI_1]
          exact ⟨_, rfl, rfl, w2, rfl, q3, ff, a7⟩
      · obtain rfl : s = 2 := by omega
        left
        refine ⟨_, if_pos (show (2 : Int32) ≤ nI 2 from Int32.le_refl _), _, rfl, rfl, w2, nI_1 k, q2, fr3, ra3⟩
    · obtain rfl : k = pL P t + 1 := by omega
      left
      refine ⟨_, if_pos (nI_lt (by omega) (by omega)), _, rfl, rfl, g2, nI_1 t, q, fr2, ra2⟩
  · obtain rfl : t = pT P := by omega
    left
    exact ⟨_, if_pos (nI_le (Nat.le_refl _) (by omega)), rfl, fr, ra⟩
/-! the best place found, made -/
/-- the plan with the best insertion of e -/
def bpl (P : PT) (e c : Nat) : PT := setT P (c / 1000) (pL P (c / 1000) + 1) (insA (pA P (c / 1000)) (c % 1000 / 10) (2 * e + c % 10))
theorem code_dec {t k s : Nat} (hk : k ≤ 13) (hs : s < 2) : (1000 * t + 10 * k + s) / 1000 = t ∧ (1000 * t + 10 * k + s) % 1000 / 10 = k ∧ (1000 * t + 10 * k + s) % 10 = s := by omega
theorem dec_c {c : Nat} (h : c < 4000) : nI c / (1000 : Int32) = nI (c / 1000) ∧ (nI c - nI c / (1000 : Int32) * (1000 : Int32)) / (10 : Int32) = nI (c % 1000 / 10) ∧ nI c - nI c / (10 : Int32) * (10 : Int32) = nI (c % 10) := by
  rw [i1000, i10]
  refine ⟨nI_div (by omega) (by omega), ?_, nI_mod (by omega) (by omega) (by omega)⟩
  rw [nI_mod (by omega) (by omega) (by omega), nI_div (by omega) (by omega)]
theorem r_putBy {e c : Nat} {w : Int} (hN : WN N) (hw : WQ N P) (h13 : R13 P) (hc : RA h N P) (he : e < wE N) (hg : gdB N P e (some (c, w))) : ∃ h', F_X8_putBy h (nI c) (nI e) = some h' ∧ Fr S124 h h' ∧ RA h' N (bpl P e c) := by
  obtain ⟨t, k, s, ht, hk, hs, hcc, -, -⟩ := hg c w rfl
  have h14 := h13 t ht
  have h4 := hw.1
  obtain ⟨d1, d2, d3⟩ := code_dec (t := t) (k := k) (s := s) (by omega) hs
  rw [← hcc] at d1 d2 d3
  obtain ⟨z1, z2, z3⟩ := dec_c (c := c) (by omega)
  obtain ⟨h', e1, f1, a1⟩ := r_put (x := 2 * e + s) hN hw hc ht hk h14
  unfold F_X8_putBy
  rw [z2, z3, z1, d1, d2, d3, i2, nI_mul, nI_add, e1]
  refine ⟨h', rfl, f1, ?_⟩
  unfold bpl
  rw [d1, d2, d3]
  exact a1
end RFI
