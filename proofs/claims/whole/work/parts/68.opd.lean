section OPD
variable {h : PH} {N : NT} {P : PT} {H : HT}
theorem put_back {t k : Nat} (hN9 : WN N) (hp : WP N P) (ht : t < pT P) (hk : k < pL P t) (c : RA h N (dpl P t k)) : ∃ g, F_X8_put h (nI t) (nI k) (nI (pA P t k)) = some g ∧ Fr S124 h g ∧ RA g N P := by
  have h14 := (hp.1.2 t ht).2.1
  have d1 : pL (dpl P t k) t = pL P t - 1 := setT_L1 _ _ _ _
  have d2 : pA (dpl P t k) t = delA (pA P t) k := setT_A1 _ _ _ _
  obtain ⟨g, a, b, e⟩ := r_put (x := pA P t k) hN9 (dpl_WQ hp.1 ht hk) c (t := t) (k := k) ht (by omega) (by omega)
  rw [d1, d2, ins_del, show pL P t - 1 + 1 = pL P t by omega] at e
  have e : RA g N (setT (setT P t (pL P t - 1) (delA (pA P t) k)) t (pL P t) (pA P t)) := e
  rw [setT_setT, setT_id] at e
  exact ⟨g, a, b, e⟩
/-- the reference threw, behind work that it took back -/
theorem r_thr4 {S : Nat → Prop} {c w v : Int32} {g : PH} (hN9 : WN N) (hw : HW H) (rh : RH h H) (f : Fr S (pu h 122 0 (0 : Int32)) g) (hs : ∀ i, S i → 124 ≤ i ∧ ¬ (128 ≤ i ∧ i ≤ 135) ∧ i ≤ 165) (rg : RA g N P) (hc : c ≠ 0) : rOut h (some (w, pu g 122 0 c)) c v N P H :=
  ⟨w, _, rfl, ((FR.pu (by omega)).trans (FR.of f (fun i hi => ⟨(hs i hi).1, (hs i hi).2.2⟩))).trans (FR.pu (by omega)), by rw [pu_get, if_pos ⟨rfl, rfl⟩], rg.u0 hN9, ((rh.u0 (v := 0) (j := 0) hw (by omega)).fr hw f (fun i hi => ⟨by have := hs i hi; omega, (hs i hi).2.1⟩)).u0 hw (by omega), fun z => absurd z hc⟩
/-- work that the reference took back, then remembered, then did -/
theorem r_do {S S' : Nat → Prop} {v : Int32} {g g2 : PH} {P' : PT} {H' : HT} (f : Fr S (pu h 122 0 (0 : Int32)) g) (hs : ∀ i, S i → 124 ≤ i ∧ i ≤ 165) (f1 : FR g g2) (e0 : g2.1 122 0 = g.1 122 0) (rh2 : RH g2 H') (hw' : HW H') {g3 : PH} (f2 : Fr S' g2 g3) (hs' : ∀ i, S' i → 124 ≤ i ∧ ¬ (128 ≤ i ∧ i ≤ 135) ∧ i ≤ 165) (rg : RA g3 N P') : rOut h (some (v, g3)) 0 v N P' H' :=
  ⟨v, g3, rfl, (((FR.pu (by omega)).trans (FR.of f hs)).trans f1).trans (FR.of f2 (fun i hi => ⟨(hs' i hi).1, (hs' i hi).2.2⟩)), by rw [(f2 122 (fun z => by have := hs' 122 z; omega)).1, e0, (f 122 (fun z => by have := hs 122 z; omega)).1]; exact pu_0, rg, rh2.fr hw' f2 (fun i hi => ⟨by have := hs' i hi; omega, (hs' i hi).2.1⟩), fun _ => rfl⟩
theorem S3_of {g g2 g3 : PH} (a : Fr S124 g g2) (b : Fr S165 g2 g3) : Fr S3 g g3 := (a.mono (fun i hi => Or.inl hi)).trans (b.mono (fun i hi => Or.inr hi))
theorem S3_ok : ∀ i, S3 i → 124 ≤ i ∧ ¬ (128 ≤ i ∧ i ≤ 135) ∧ i ≤ 165 := fun i hi => by unfold S3 at hi; omega
theorem S3_ok2 : ∀ i, S3 i → 124 ≤ i ∧ i ≤ 165 := fun i hi => by unfold S3 at hi; omega
theorem op_drop (a : Int32) (ok : okS N P H) : opOK N P H (fun h => F_L_drop h a) (fun h => F_X8_drop h a) := by
  obtain ⟨hN9, hp, hw⟩ := ok
  have hE := hN9.2.2.1
  have h4 := hp.1.1
  intro h ca ch
  rcases rng (n := wE N) (by omega) a with ⟨e, he, rfl⟩ | q
  · cases hq : wTour P e with
    | none =>
      refine ⟨2, 0, N, P, H, ⟨hN9, hp, hw⟩, ?_, fun h1 ra rh => ?_⟩
      · dsimp only
        unfold F_L_drop F_X7_drop
        rw [reqE_ok hN9 ca he, Option.bind_some, bs_r, c_tour hN9 hp.1 ca.2.2 (by omega), Option.bind_some, hq, show eA none = (-1 : Int32) from rfl, if_neg (fun z => z rfl), Option.bind_some, bs_l]
        exact out_thr (by decide) ca ch
      · dsimp only
        unfold F_X8_drop jn
        have ra0 := ra.u0 (v := 0) (j := 0) hN9
        rw [noE_ok hN9 ra0 pu_0 he, Option.bind_some]
        dsimp only
        rw [if_pos rfl, r_with hN9 hp.1 ra0.2.2.2 (by omega), Option.bind_some, hq, show eA none = (-1 : Int32) from rfl, if_neg (fun z => z rfl), fails_1 pu_0 (by decide)]
        exact r_thr hN9 hw ra rh (by decide)
    | some t =>
      obtain ⟨ht, k, hk'⟩ := wTour_lt hq
      obtain ⟨hk, hke⟩ := wPos_lt hk'
      have h14 := (hp.1.2 t ht).2.1
      have hx := (hp.1.2 t ht).2.2 k hk
      have eat : eA (some t) = nI t := rfl
      have eak : eA (some k) = nI k := rfl
      have wq := dpl_WQ hp.1 ht hk
      have d0 : pH (dpl P t k) t = pH P t := rfl
      have d1 : pL (dpl P t k) t = pL P t - 1 := setT_L1 _ _ _ _
      have d2 : pA (dpl P t k) t = delA (pA P t) k := setT_A1 _ _ _ _
      by_cases hsp : wSpare N P t k = true
      · have hp1 := dpl_WP hp ht hk hsp
        refine ⟨0, nI (wTC N (dpl P t k) t), N, dpl P t k, hpush H N P false, ⟨hN9, hp1, hw.push hN9 hp⟩, ?_, fun h1 ra rh => ?_⟩
        · dsimp only
          unfold F_L_drop F_X7_drop
          obtain ⟨g, a1, a2, a3, a4⟩ := c_rem0 hN9 hp hw ca ch
          obtain ⟨g2, b1, b2, b3⟩ := c_take hp.1 a3.2.2 ht hk
          have c3 : CA g2 N (dpl P t k) := a3.mk b2 b3
          rw [reqE_ok hN9 ca he, Option.bind_some, bs_r, c_tour hN9 hp.1 ca.2.2 (by omega), Option.bind_some, hq, eat, if_pos (eA_ne (by omega)), c_pos hN9 hp.1 ca.2.2 ht (by omega), Option.bind_some, hk', eak, c_spare hN9 hp.1 ca ht hk, if_pos hsp, if_pos (show ¬ (1 : Int32) = 0 by decide), a1, Option.bind_some, b1, Option.bind_some, c_tourCost hN9 hp1.1 hp1.2.2 c3.1 c3.2.1 c3.2.2 ht, Option.bind_some, Option.bind_some, bs_r]
          exact out_val2 (a2.trans (b2.mono (fun i hi => by unfold S2829 at hi; unfold SC; omega))) c3 (a4.fr2 b2)
        · dsimp only
          unfold F_X8_drop jn
          have ra0 := ra.u0 (v := 0) (j := 0) hN9
          have rh0 := rh.u0 (v := 0) (j := 0) hw (by omega)
          obtain ⟨g1, b1, b2, b3⟩ := r_take hN9 hp.1 ra0 ht hk
          have b3 : RA g1 N (dpl P t k) := b3
          obtain ⟨g2, c1, c2⟩ := r_costTour hN9 wq b3 (t := t) ht
          obtain ⟨g3, m1, m2, m3⟩ := put_back hN9 hp ht hk (b3.fr3 hN9 c2)
          have f3 := (S3_of b2 c2).trans (m2.mono (fun i hi => Or.inl hi))
          have rh3 := rh0.fr hw f3 (fun i hi => by unfold S3 at hi; omega)
          obtain ⟨g4, n1, n2, n3, n4, n5⟩ := r_rem0 hN9 hp hw m3 rh3
          obtain ⟨g5, o1, o2, o3⟩ := r_take hN9 hp.1 n4 ht hk
          have o3 : RA g5 N (dpl P t k) := o3
          obtain ⟨g6, p1, p2⟩ := r_tourCost hN9 wq hp1.2.2 o3 (t := t) ht
          have hlt := CK_dvle (K := 1000000) hN9 (wq.2 t ht).2.1 (wq.2 t ht).2.2 (hp1.2.2 t ht)
          have z0 : g3.1 122 0 = 0 := by rw [(f3 122 (by unfold S3; omega)).1]; exact pu_0
          rw [noE_ok hN9 ra0 pu_0 he, Option.bind_some]
          dsimp only
          rw [if_pos rfl, r_with hN9 hp.1 ra0.2.2.2 (by omega), Option.bind_some, hq, eat, if_pos (eA_ne (by omega)), fails_0 _ pu_0]
          dsimp only
          rw [if_pos rfl, r_place hN9 hp.1 ra0.2.2.2 ht (by omega), Option.bind_some, hk', eak, r_arc hp.1 ra0.2.2.2 ht hk, Option.bind_some, b1, Option.bind_some, c1, Option.bind_some]
          dsimp only
          rw [iK, if_pos (nI_lt (by omega) (by omega)), m1, Option.bind_some, fails_0 _ z0]
          dsimp only
          rw [if_pos rfl, n1, Option.bind_some, o1, Option.bind_some, p1, Option.bind_some]
          exact r_do f3 S3_ok2 n2 n3 n5 (hw.push hN9 hp) (S3_of o2 p2) S3_ok (o3.fr3 hN9 p2)
      · refine ⟨2, 0, N, P, H, ⟨hN9, hp, hw⟩, ?_, fun h1 ra rh => ?_⟩
        · dsimp only
          unfold F_L_drop F_X7_drop
          rw [reqE_ok hN9 ca he, Option.bind_some, bs_r, c_tour hN9 hp.1 ca.2.2 (by omega), Option.bind_some, hq, eat, if_pos (eA_ne (by omega)), c_pos hN9 hp.1 ca.2.2 ht (by omega), Option.bind_some, hk', eak, c_spare hN9 hp.1 ca ht hk, if_neg hsp, if_neg (fun z => z rfl), Option.bind_some, bs_l]
          exact out_thr (by decide) ca ch
        · dsimp only
          unfold F_X8_drop jn
          have ra0 := ra.u0 (v := 0) (j := 0) hN9
          obtain ⟨g1, b1, b2, b3⟩ := r_take hN9 hp.1 ra0 ht hk
          have b3 : RA g1 N (dpl P t k) := b3
          obtain ⟨g2, c1, c2⟩ := r_costTour hN9 wq b3 (t := t) ht
          obtain ⟨g3, m1, m2, m3⟩ := put_back hN9 hp ht hk (b3.fr3 hN9 c2)
          have f3 := (S3_of b2 c2).trans (m2.mono (fun i hi => Or.inl hi))
          have hnd : ¬ DV N (pH P t) (pL P t - 1) (delA (pA P t) k) := fun z => hsp ((dpl_DV hk (hp.2.2 t ht)).2.mpr z)
          have hge := CK_nd (K := 1000000) hnd
          have hle := CK_le (K := 1000000) (home := pH (dpl P t k) t) hN9 (by omega) (wq.2 t ht).2.1 (wq.2 t ht).2.2
          rw [d0, d1, d2] at hle c1
          have z0 : g3.1 122 0 = 0 := by rw [(f3 122 (by unfold S3; omega)).1]; exact pu_0
          rw [noE_ok hN9 ra0 pu_0 he, Option.bind_some]
          dsimp only
          rw [if_pos rfl, r_with hN9 hp.1 ra0.2.2.2 (by omega), Option.bind_some, hq, eat, if_pos (eA_ne (by omega)), fails_0 _ pu_0]
          dsimp only
          rw [if_pos rfl, r_place hN9 hp.1 ra0.2.2.2 ht (by omega), Option.bind_some, hk', eak, r_arc hp.1 ra0.2.2.2 ht hk, Option.bind_some, b1, Option.bind_some, c1, Option.bind_some]
          dsimp only
          rw [iK, if_neg (nI_nlt hge (by omega)), m1, Option.bind_some, fails_1 z0 (by decide)]
          exact r_thr4 hN9 hw rh f3 S3_ok m3 (by decide)
  · refine ⟨1, 0, N, P, H, ⟨hN9, hp, hw⟩, ?_, fun h1 ra rh => ?_⟩
    · dsimp only
      unfold F_L_drop F_X7_drop
      rw [reqE_no ca q, Option.bind_some, bs_l, Option.bind_some, bs_l]
      exact out_thr (by decide) ca ch
    · dsimp only
      unfold F_X8_drop
      rw [noE_no hN9 (ra.u0 hN9) pu_0 q, Option.bind_some]
      exact r_thr hN9 hw ra rh (by decide)
end OPD
