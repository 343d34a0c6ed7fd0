section OPI
variable {h : PH} {N : NT} {P : PT} {H : HT}
theorem ipl_WP {t k x : Nat} (hp : WP N P) (ht : t < pT P) (hk : k ≤ pL P t) (h13 : pL P t ≤ 13) (hx : x < 2 * wE N) (hu : wTour P (x / 2) = none) (hc : wCand N P t k x = true) : WP N (ipl P t k x) := ⟨ipl_WQ hp.1 ht hk h13 hx, ipl_DS hp.2.1 ht hk rfl hu, ipl_DVs hp.2.2 ht hk hc⟩
theorem op_insert (a b c : Int32) (ok : okS N P H) : opOK N P H (fun h => F_L_insert h a b c) (fun h => F_X8_insert h a b c) := by
  obtain ⟨hN9, hp, hw⟩ := ok
  have hE := hN9.2.2.1
  have h4 := hp.1.1
  intro h ca ch
  rcases rng (n := pT P) (by omega) a with ⟨t, ht, rfl⟩ | q
  · have h14 := (hp.1.2 t ht).2.1
    rcases rng (n := pL P t + 1) (by omega) b with ⟨k, hk, rfl⟩ | q
    · rcases rng (n := 2 * wE N) (by omega) c with ⟨x, hx, rfl⟩ | q
      · have he : x / 2 < wE N := by omega
        have ehx : nI x / (2 : Int32) = nI (x / 2) := r_half (by omega)
        by_cases y : wWt N P (x / 2) = true
        · have hu := wt_none y
          have h13 := room13 hN9 hp.1 hp.2.1 he hu t ht
          by_cases ok2 : wRoom N P t (x / 2) = true ∧ wCand N P t k x = true
          · obtain ⟨hroom, hcand⟩ := ok2
            have hp1 := ipl_WP hp ht (by omega) h13 hx hu hcand
            have hroom2 := of_decide_eq_true hroom
            have hib := inc_bnd hN9 hp.1 hp.2.2 ht (by omega) h13 hx hcand
            refine ⟨0, nI (wTC N (ipl P t k x) t), N, ipl P t k x, hpush H N P false, ⟨hN9, hp1, hw.push hN9 hp⟩, ?_, fun h1 ra rh => ?_⟩
            · dsimp only
              unfold F_L_insert F_X7_insert
              obtain ⟨g, a1, a2, a3, a4⟩ := c_rem0 hN9 hp hw ca ch
              obtain ⟨g2, b1, b2, b3⟩ := c_put (x := x) hp.1 a3.2.2 ht (k := k) (by omega) h13
              have c3 : CA g2 N (ipl P t k x) := a3.mk b2 b3
              rw [reqT_ok hp ca ht, Option.bind_some, bs_r, c_size ca.2.2 ht h4, if_neg (nI_pos (by omega)), if_pos (nI_le (by omega) (by omega)), reqA_ok hN9 ca hx, Option.bind_some, bs_r, ehx, c_wait hN9 hp.1 ca.1 ca.2.2 he, if_pos y, Option.bind_some, if_pos (show ¬ (1 : Int32) = 0 by decide), c_room hN9 hp.1 ca.1 ca.2.2 ht he, if_neg (by omega), Option.bind_some, if_neg (show ¬ (1 : Int32) = 0 by decide), c_incr hN9 hp.1 ca.2.1 ca.1 ca.2.2 ht (by omega) hx (hp.2.2 t ht), if_pos hcand, iM, nI_zi, if_pos (by rw [zi_lt (by omega) (by omega)]; omega), a1, Option.bind_some, b1, Option.bind_some, c_tourCost hN9 hp1.1 hp1.2.2 c3.1 c3.2.1 c3.2.2 ht, Option.bind_some, Option.bind_some, bs_r]
              exact out_val2 (a2.trans (b2.mono (fun i hi => by unfold S2829 at hi; unfold SC; omega))) c3 (a4.fr2 b2)
            · dsimp only
              unfold F_X8_insert jn
              have ra0 := ra.u0 (v := 0) (j := 0) hN9
              have rh0 := rh.u0 (v := 0) (j := 0) hw (by omega)
              obtain ⟨g1, b1, b2, b3⟩ := r_costWith hN9 hp.1 ra0 ht (k := k) (by omega) h13 hx
              rw [if_pos hroom] at b1
              have hdv := (cand_DV (hp.2.2 t ht) (by omega)).mp hcand
              have hlt := CK_dvle (K := 1000000) hN9 (by omega) (ins_ok (hp.1.2 t ht).2.2 hx (by omega)) hdv
              have rh3 := rh0.fr hw b2 (fun i hi => by unfold S3 at hi; omega)
              obtain ⟨g4, n1, n2, n3, n4, n5⟩ := r_rem0 hN9 hp hw b3 rh3
              obtain ⟨g5, o1, o2, o3⟩ := r_put (x := x) hN9 hp.1 n4 ht (k := k) (by omega) h13
              have o3 : RA g5 N (ipl P t k x) := o3
              obtain ⟨g6, p1, p2⟩ := r_tourCost hN9 hp1.1 hp1.2.2 o3 (t := t) ht
              have z0 : g1.1 122 0 = 0 := by rw [(b2 122 (by unfold S3; omega)).1]; exact pu_0
              rw [noT_ok hp ra0 pu_0 ht, Option.bind_some]
              dsimp only
              rw [if_neg (fun z => z rfl), r_len hp.1 ra0.2.2.2 ht, Option.bind_some, show F_X8_in (pu h1 122 0 (0 : Int32)) (nI k) (0 : Int32) (nI (pL P t)) = 1 from in_yes (lo := 0) (by omega) (by omega) (by omega), if_pos (show ¬ (1 : Int32) = 0 by decide), fails_0 _ pu_0]
              dsimp only
              rw [if_neg (fun z => z rfl), noA_ok hN9 ra0 pu_0 hx, Option.bind_some]
              dsimp only
              rw [if_pos rfl, ehx, r_wait hN9 hp.1 ra0.1 ra0.2.2.2 he, if_pos y, Option.bind_some, if_neg (show ¬ (1 : Int32) = 0 by decide), b1, Option.bind_some]
              dsimp only
              rw [iK, if_pos (nI_lt (by omega) (by omega)), fails_0 _ z0]
              dsimp only
              rw [if_pos rfl, n1, Option.bind_some, o1, Option.bind_some, p1, Option.bind_some]
              exact r_do b2 S3_ok2 n2 n3 n5 (hw.push hN9 hp) (S3_of o2 p2) S3_ok (o3.fr3 hN9 p2)
          · refine ⟨2, 0, N, P, H, ⟨hN9, hp, hw⟩, ?_, fun h1 ra rh => ?_⟩
            · dsimp only
              unfold F_L_insert F_X7_insert
              rw [reqT_ok hp ca ht, Option.bind_some, bs_r, c_size ca.2.2 ht h4, if_neg (nI_pos (by omega)), if_pos (nI_le (by omega) (by omega)), reqA_ok hN9 ca hx, Option.bind_some, bs_r, ehx, c_wait hN9 hp.1 ca.1 ca.2.2 he, if_pos y, Option.bind_some, if_pos (show ¬ (1 : Int32) = 0 by decide), c_room hN9 hp.1 ca.1 ca.2.2 ht he]
              by_cases hroom : wRoom N P t (x / 2) = true
              · have hroom2 := of_decide_eq_true hroom
                rw [if_neg (by omega), Option.bind_some, if_neg (show ¬ (1 : Int32) = 0 by decide), c_incr hN9 hp.1 ca.2.1 ca.1 ca.2.2 ht (by omega) hx (hp.2.2 t ht), if_neg (fun z => ok2 ⟨hroom, z⟩), iM, if_neg (fun z => Int32.lt_irrefl z), Option.bind_some, bs_l]
                exact out_thr (by decide) ca ch
              · have hroom2 : wC N < wLd N P t + wDe N (x / 2) := by
                  apply Classical.byContradiction
                  intro z
                  exact hroom (decide_eq_true (by omega))
                rw [if_pos hroom2, Option.bind_some, if_pos rfl, Option.bind_some, bs_l]
                exact out_thr (by decide) ca ch
            · dsimp only
              unfold F_X8_insert jn
              have ra0 := ra.u0 (v := 0) (j := 0) hN9
              obtain ⟨g1, b1, b2, b3⟩ := r_costWith hN9 hp.1 ra0 ht (k := k) (by omega) h13 hx
              have z0 : g1.1 122 0 = 0 := by rw [(b2 122 (by unfold S3; omega)).1]; exact pu_0
              have hge : ¬ nI (if wRoom N P t (x / 2) then CK 1000000 N (pH P t) (pL P t + 1) (insA (pA P t) k x) else 1000000) < nI 1000000 := by
                by_cases hroom : wRoom N P t (x / 2) = true
                · rw [if_pos hroom]
                  have hnd : ¬ DV N (pH P t) (pL P t + 1) (insA (pA P t) k x) := fun z => ok2 ⟨hroom, (cand_DV (hp.2.2 t ht) (by omega)).mpr z⟩
                  have hle := CK_le (K := 1000000) (home := pH P t) hN9 (by omega) (show pL P t + 1 ≤ 14 by omega) (ins_ok (hp.1.2 t ht).2.2 hx (show k ≤ pL P t by omega))
                  exact nI_nlt (CK_nd hnd) (by omega)
                · rw [if_neg hroom]
                  exact fun z => Int32.lt_irrefl z
              rw [noT_ok hp ra0 pu_0 ht, Option.bind_some]
              dsimp only
              rw [if_neg (fun z => z rfl), r_len hp.1 ra0.2.2.2 ht, Option.bind_some, show F_X8_in (pu h1 122 0 (0 : Int32)) (nI k) (0 : Int32) (nI (pL P t)) = 1 from in_yes (lo := 0) (by omega) (by omega) (by omega), if_pos (show ¬ (1 : Int32) = 0 by decide), fails_0 _ pu_0]
              dsimp only
              rw [if_neg (fun z => z rfl), noA_ok hN9 ra0 pu_0 hx, Option.bind_some]
              dsimp only
              rw [if_pos rfl, ehx, r_wait hN9 hp.1 ra0.1 ra0.2.2.2 he, if_pos y, Option.bind_some, if_neg (show ¬ (1 : Int32) = 0 by decide), b1, Option.bind_some]
              dsimp only
              rw [iK, if_neg hge, fails_1 z0 (by decide)]
              exact r_thr4 hN9 hw rh b2 S3_ok b3 (by decide)
        · refine ⟨2, 0, N, P, H, ⟨hN9, hp, hw⟩, ?_, fun h1 ra rh => ?_⟩
          · dsimp only
            unfold F_L_insert F_X7_insert
            rw [reqT_ok hp ca ht, Option.bind_some, bs_r, c_size ca.2.2 ht h4, if_neg (nI_pos (by omega)), if_pos (nI_le (by omega) (by omega)), reqA_ok hN9 ca hx, Option.bind_some, bs_r, ehx, c_wait hN9 hp.1 ca.1 ca.2.2 he, if_neg y, Option.bind_some, if_neg (fun z => z rfl), Option.bind_some, bs_l]
            exact out_thr (by decide) ca ch
          · dsimp only
            unfold F_X8_insert jn
            have ra0 := ra.u0 (v := 0) (j := 0) hN9
            rw [noT_ok hp ra0 pu_0 ht, Option.bind_some]
            dsimp only
            rw [if_neg (fun z => z rfl), r_len hp.1 ra0.2.2.2 ht, Option.bind_some, show F_X8_in (pu h1 122 0 (0 : Int32)) (nI k) (0 : Int32) (nI (pL P t)) = 1 from in_yes (lo := 0) (by omega) (by omega) (by omega), if_pos (show ¬ (1 : Int32) = 0 by decide), fails_0 _ pu_0]
            dsimp only
            rw [if_neg (fun z => z rfl), noA_ok hN9 ra0 pu_0 hx, Option.bind_some]
            dsimp only
            rw [if_pos rfl, ehx, r_wait hN9 hp.1 ra0.1 ra0.2.2.2 he, if_neg y, Option.bind_some, if_pos rfl, fails_1 pu_0 (by decide)]
            exact r_thr hN9 hw ra rh (by decide)
      · refine ⟨1, 0, N, P, H, ⟨hN9, hp, hw⟩, ?_, fun h1 ra rh => ?_⟩
        · dsimp only
          unfold F_L_insert F_X7_insert
          rw [reqT_ok hp ca ht, Option.bind_some, bs_r, c_size ca.2.2 ht h4, if_neg (nI_pos (by omega)), if_pos (nI_le (by omega) (by omega)), reqA_no ca q, Option.bind_some, bs_l, Option.bind_some, bs_l]
          exact out_thr (by decide) ca ch
        · dsimp only
          unfold F_X8_insert jn
          have ra0 := ra.u0 (v := 0) (j := 0) hN9
          rw [noT_ok hp ra0 pu_0 ht, Option.bind_some]
          dsimp only
          rw [if_neg (fun z => z rfl), r_len hp.1 ra0.2.2.2 ht, Option.bind_some, show F_X8_in (pu h1 122 0 (0 : Int32)) (nI k) (0 : Int32) (nI (pL P t)) = 1 from in_yes (lo := 0) (by omega) (by omega) (by omega), if_pos (show ¬ (1 : Int32) = 0 by decide), fails_0 _ pu_0]
          dsimp only
          rw [if_neg (fun z => z rfl), noA_no hN9 ra0 pu_0 q, Option.bind_some]
          exact r_thr hN9 hw ra rh (by decide)
    · refine ⟨1, 0, N, P, H, ⟨hN9, hp, hw⟩, ?_, fun h1 ra rh => ?_⟩
      · dsimp only
        unfold F_L_insert F_X7_insert
        have : ∀ y : Option (Nat ⊕ (Int32 × PH)), (if b < 0 then some (.inl 1) else if b ≤ nI (pL P t) then y else some (.inl 1)) = some (.inl 1) := fun y => by
          by_cases z : b < 0
          · rw [if_pos z]
          · rw [if_neg z]
            rcases q with q | q
            · exact absurd q z
            · rw [if_neg]
              have e := zi_of b
              have hb := Int32.le_toInt b
              have hb2 := Int32.toInt_lt b
              intro z
              rw [e, nI_zi, zi_lt (by omega) (by omega)] at q
              rw [e, nI_zi, zi_le (by omega) (by omega)] at z
              omega
        rw [reqT_ok hp ca ht, Option.bind_some, bs_r, c_size ca.2.2 ht h4, this, Option.bind_some, bs_l]
        exact out_thr (by decide) ca ch
      · dsimp only
        unfold F_X8_insert jn
        have ra0 := ra.u0 (v := 0) (j := 0) hN9
        have e0 := in_no (h := pu h1 122 0 (0 : Int32)) (n := pL P t + 1) (by omega) q
        rw [nI_pred] at e0
        rw [noT_ok hp ra0 pu_0 ht, Option.bind_some]
        dsimp only
        rw [if_neg (fun z => z rfl), r_len hp.1 ra0.2.2.2 ht, Option.bind_some, e0, if_neg (fun z => z rfl), fails_1 pu_0 (by decide)]
        exact r_thr hN9 hw ra rh (by decide)
  · refine ⟨1, 0, N, P, H, ⟨hN9, hp, hw⟩, ?_, fun h1 ra rh => ?_⟩
    · dsimp only
      unfold F_L_insert F_X7_insert
      rw [reqT_no ca q, Option.bind_some, bs_l, Option.bind_some, bs_l]
      exact out_thr (by decide) ca ch
    · dsimp only
      unfold F_X8_insert
      rw [noT_no hp (ra.u0 hN9) pu_0 q, Option.bind_some]
      exact r_thr hN9 hw ra rh (by decide)
end OPI
