section OPR
variable {h : PH} {N : NT} {P : PT} {H : HT}
theorem op_edge (a b : Int32) (ok : okS N P H) : opOK N P H (fun h => F_L_edge h a b) (fun h => F_X8_edge_ h a b) := by
  obtain ⟨hN9, hp, hw⟩ := ok
  have hE := hN9.2.2.1
  intro h ca ch
  rcases rng (n := wE N) (by omega) a with ⟨k, hk, rfl⟩ | q
  · rcases rng (n := 5) (by omega) b with ⟨m, hm, rfl⟩ | q
    · refine ⟨0, nI (if m = 0 then wTl N (2 * k) else if m = 1 then wTl N (2 * k + 1) else if m = 2 then wCo N (2 * k) else if m = 3 then wCo N (2 * k + 1) else wDe N k), N, P, H, ⟨hN9, hp, hw⟩, ?_, fun h1 ra rh => ?_⟩
      · dsimp only
        unfold F_L_edge F_X7_edge
        have t0 : F_X7_at 28 h 15 ((2 : Int32) * nI k) = nI (wTl N (2 * k)) := by
          rw [i2, nI_mul, at_in (by omega) (by omega)]
          exact (ca.1.2.2.2.2.1 _ (by omega)).1
        have t1 : F_X7_at 28 h 15 ((2 : Int32) * nI k + (1 : Int32)) = nI (wTl N (2 * k + 1)) := by
          rw [i2, nI_mul, nI_1, at_in (by omega) (by omega)]
          exact (ca.1.2.2.2.2.1 _ (by omega)).1
        have t2 : F_X7_at 28 h 16 ((2 : Int32) * nI k) = nI (wCo N (2 * k)) := by
          rw [i2, nI_mul, at_in (by omega) (by omega)]
          exact (ca.1.2.2.2.2.1 _ (by omega)).2.1
        have t3 : F_X7_at 28 h 16 ((2 : Int32) * nI k + (1 : Int32)) = nI (wCo N (2 * k + 1)) := by
          rw [i2, nI_mul, nI_1, at_in (by omega) (by omega)]
          exact (ca.1.2.2.2.2.1 _ (by omega)).2.1
        have t4 : F_X7_at 14 h 19 (nI k) = nI (wDe N k) := c_demand hN9 ca.1 hk
        rw [reqE_ok hN9 ca hk, Option.bind_some, bs_r, t0, t1, t2, t3, t4]
        have e : ∀ j, j < 5 → (nI m = nI j ↔ m = j) := fun j hj => nI_eq (by omega) (by omega)
        have ee : (if nI m = 0 then some (Sum.inr (nI (wTl N (2 * k)))) else if nI m = 1 then some (Sum.inr (nI (wTl N (2 * k + 1)))) else if nI m = 2 then some (Sum.inr (nI (wCo N (2 * k)))) else if nI m = 3 then some (Sum.inr (nI (wCo N (2 * k + 1)))) else if nI m = 4 then some (Sum.inr (nI (wDe N k))) else some (Sum.inl 0)) = (some (Sum.inr (nI (if m = 0 then wTl N (2 * k) else if m = 1 then wTl N (2 * k + 1) else if m = 2 then wCo N (2 * k) else if m = 3 then wCo N (2 * k + 1) else wDe N k))) : Option (Nat ⊕ Int32)) := by
          by_cases z : m = 0
          · subst z; rfl
          by_cases z : m = 1
          · subst z; rfl
          by_cases z : m = 2
          · subst z; rfl
          by_cases z : m = 3
          · subst z; rfl
          have z : m = 4 := by omega
          subst z
          rfl
        rw [ee, Option.bind_some, bs_r]
        exact out_val ca ch
      · dsimp only
        unfold F_X8_edge_ jn
        have ra0 := ra.u0 (v := 0) (j := 0) hN9
        rw [noE_ok hN9 ra0 pu_0 hk, Option.bind_some]
        dsimp only
        rw [if_neg (fun z => z rfl), show F_X8_in (pu h1 122 0 (0 : Int32)) (nI m) (0 : Int32) (4 : Int32) = 1 from in_yes (lo := 0) (hi := 4) (by omega) (by omega) (by omega), if_pos (show ¬ (1 : Int32) = 0 by decide), fails_0 _ pu_0]
        dsimp only
        rw [if_pos rfl, r_edge, nI_add, r_num (by omega), Option.bind_some]
        have ee : (pu h1 122 0 (0 : Int32)).1 124 (7 + 5 * k + m) = nI (if m = 0 then wTl N (2 * k) else if m = 1 then wTl N (2 * k + 1) else if m = 2 then wCo N (2 * k) else if m = 3 then wCo N (2 * k + 1) else wDe N k) := by
          obtain ⟨-, -, -, -, c5, c6, -⟩ := ra0.1
          have d1 := c5 (2 * k) (by omega)
          have d2 := c5 (2 * k + 1) (by omega)
          have d3 := c6 k hk
          rw [show 7 + 5 * (2 * k / 2) + 2 * k % 2 = 7 + 5 * k + 0 by omega, show 9 + 5 * (2 * k / 2) + 2 * k % 2 = 7 + 5 * k + 2 by omega] at d1
          rw [show 7 + 5 * ((2 * k + 1) / 2) + (2 * k + 1) % 2 = 7 + 5 * k + 1 by omega, show 9 + 5 * ((2 * k + 1) / 2) + (2 * k + 1) % 2 = 7 + 5 * k + 3 by omega] at d2
          by_cases z : m = 0
          · subst z; exact d1.1
          by_cases z : m = 1
          · subst z; exact d2.1
          by_cases z : m = 2
          · subst z; exact d1.2.1
          by_cases z : m = 3
          · subst z; exact d2.2.1
          have z : m = 4 := by omega
          subst z
          rw [show 7 + 5 * k + 4 = 11 + 5 * k by omega]
          exact d3
        rw [ee]
        exact r_val hN9 hw ra rh
    · refine ⟨2, 0, N, P, H, ⟨hN9, hp, hw⟩, ?_, fun h1 ra rh => ?_⟩
      · dsimp only
        unfold F_L_edge F_X7_edge
        have nz : ∀ j, j < 5 → b ≠ nI j := fun j hj z => by
          subst z
          rcases q with q | q
          · exact nI_pos (by omega) q
          · exact q (nI_lt hj (by omega))
        rw [reqE_ok hN9 ca hk, Option.bind_some, bs_r, if_neg (show b ≠ 0 from nz 0 (by omega)), if_neg (show b ≠ 1 from nz 1 (by omega)), if_neg (show b ≠ 2 from nz 2 (by omega)), if_neg (show b ≠ 3 from nz 3 (by omega)), if_neg (show b ≠ 4 from nz 4 (by omega)), Option.bind_some, bs_l]
        exact out_thr (by decide) ca ch
      · dsimp only
        unfold F_X8_edge_ jn
        have ra0 := ra.u0 (v := 0) (j := 0) hN9
        rw [noE_ok hN9 ra0 pu_0 hk, Option.bind_some]
        dsimp only
        rw [if_neg (fun z => z rfl), show F_X8_in (pu h1 122 0 (0 : Int32)) b (0 : Int32) (4 : Int32) = 0 from in_no (n := 5) (by omega) q, if_neg (fun z => z rfl), fails_1 pu_0 (by decide)]
        exact r_thr hN9 hw ra rh (by decide)
  · refine ⟨1, 0, N, P, H, ⟨hN9, hp, hw⟩, ?_, fun h1 ra rh => ?_⟩
    · dsimp only
      unfold F_L_edge F_X7_edge
      rw [reqE_no ca q, Option.bind_some, bs_l, Option.bind_some, bs_l]
      exact out_thr (by decide) ca ch
    · dsimp only
      unfold F_X8_edge_
      rw [noE_no hN9 (ra.u0 hN9) pu_0 q, Option.bind_some]
      exact r_thr hN9 hw ra rh (by decide)
theorem op_arcAt (a b : Int32) (ok : okS N P H) : opOK N P H (fun h => F_L_arcAt h a b) (fun h => F_X8_arcAt h a b) := by
  obtain ⟨hN9, hp, hw⟩ := ok
  have hE := hN9.2.2.1
  have h4 := hp.1.1
  intro h ca ch
  rcases rng (n := pT P) (by omega) a with ⟨k, hk, rfl⟩ | q
  · have h14 := (hp.1.2 k hk).2.1
    rcases rng (n := pL P k) (by omega) b with ⟨m, hm, rfl⟩ | q
    · have hx := (hp.1.2 k hk).2.2 m hm
      refine ⟨0, nI (pA P k m), N, P, H, ⟨hN9, hp, hw⟩, ?_, fun h1 ra rh => ?_⟩
      · dsimp only
        unfold F_L_arcAt F_X7_arcAt
        have e1 : F_X3_arcOrDepot h (nI k) (nI m) = nI (pA P k m) := by
          rw [c_nx hp.1 ca.2.2 hk (by omega)]
          unfold nx
          rw [if_pos hm]
          rfl
        rw [reqT_ok hp ca hk, Option.bind_some, bs_r, e1, if_pos (eA_ne (by omega)), Option.bind_some, bs_r]
        exact out_val ca ch
      · dsimp only
        unfold F_X8_arcAt jn
        have ra0 := ra.u0 (v := 0) (j := 0) hN9
        rw [noT_ok hp ra0 pu_0 hk, Option.bind_some]
        dsimp only
        rw [if_neg (fun z => z rfl), r_len hp.1 ra0.2.2.2 hk, Option.bind_some, in_ok (by omega) hm, if_pos (show ¬ (1 : Int32) = 0 by decide), fails_0 _ pu_0]
        dsimp only
        rw [if_pos rfl, r_arc hp.1 ra0.2.2.2 hk hm, Option.bind_some]
        exact r_val hN9 hw ra rh
    · refine ⟨2, 0, N, P, H, ⟨hN9, hp, hw⟩, ?_, fun h1 ra rh => ?_⟩
      · dsimp only
        unfold F_L_arcAt F_X7_arcAt
        have e1 : F_X3_arcOrDepot h (nI k) b = (-1 : Int32) := by
          unfold F_X3_arcOrDepot
          rw [c_size ca.2.2 hk h4]
          exact req_no q
        rw [reqT_ok hp ca hk, Option.bind_some, bs_r, e1, if_neg (fun z => z rfl), Option.bind_some, bs_l]
        exact out_thr (by decide) ca ch
      · dsimp only
        unfold F_X8_arcAt jn
        have ra0 := ra.u0 (v := 0) (j := 0) hN9
        rw [noT_ok hp ra0 pu_0 hk, Option.bind_some]
        dsimp only
        rw [if_neg (fun z => z rfl), r_len hp.1 ra0.2.2.2 hk, Option.bind_some, in_no (by omega) q, if_neg (fun z => z rfl), fails_1 pu_0 (by decide)]
        exact r_thr hN9 hw ra rh (by decide)
  · refine ⟨1, 0, N, P, H, ⟨hN9, hp, hw⟩, ?_, fun h1 ra rh => ?_⟩
    · dsimp only
      unfold F_L_arcAt F_X7_arcAt
      rw [reqT_no ca q, Option.bind_some, bs_l, Option.bind_some, bs_l]
      exact out_thr (by decide) ca ch
    · dsimp only
      unfold F_X8_arcAt
      rw [noT_no hp (ra.u0 hN9) pu_0 q, Option.bind_some]
      exact r_thr hN9 hw ra rh (by decide)
theorem wt_none {e : Nat} (y : wWt N P e = true) : wTour P e = none := by
  unfold wWt at y
  rw [Bool.and_eq_true, Option.isNone_iff_eq_none] at y
  exact y.2
theorem op_best (a : Int32) (ok : okS N P H) : opOK N P H (fun h => F_L_bestInsertion h a) (fun h => F_X8_bestInsertion h a) := by
  obtain ⟨hN9, hp, hw⟩ := ok
  have hE := hN9.2.2.1
  intro h ca ch
  rcases rng (n := wE N) (by omega) a with ⟨k, hk, rfl⟩ | q
  · by_cases y : wWt N P k = true
    · have h13 := room13 hN9 hp.1 hp.2.1 hk (wt_none y)
      refine ⟨0, cB (wBest N P k), N, P, H, ⟨hN9, hp, hw⟩, ?_, fun h1 ra rh => ?_⟩
      · dsimp only
        unfold F_L_bestInsertion F_X7_bestInsertion
        rw [reqE_ok hN9 ca hk, Option.bind_some, bs_r, c_wait hN9 hp.1 ca.1 ca.2.2 hk, if_pos y, Option.bind_some, if_pos (by decide), c_best hN9 hp.1 hp.2.2 h13 ca.1 ca.2.1 ca.2.2 hk, Option.bind_some, Option.bind_some, bs_r]
        exact out_val ca ch
      · dsimp only
        unfold F_X8_bestInsertion jn
        have ra0 := ra.u0 (v := 0) (j := 0) hN9
        obtain ⟨h', e1, f1, ra1⟩ := r_find hN9 hp.1 hp.2.2 h13 ra0 hk
        rw [noE_ok hN9 ra0 pu_0 hk, Option.bind_some]
        dsimp only
        rw [if_neg (fun z => z rfl), r_wait hN9 hp.1 ra0.1 ra0.2.2.2 hk, if_pos y, Option.bind_some, if_pos (show ¬ (1 : Int32) = 0 by decide), fails_0 _ pu_0]
        dsimp only
        rw [if_pos rfl, e1, Option.bind_some]
        exact r_val3 hN9 hw ra rh f1 (fun i hi => by unfold S3 at hi; omega) ra1
    · refine ⟨2, 0, N, P, H, ⟨hN9, hp, hw⟩, ?_, fun h1 ra rh => ?_⟩
      · dsimp only
        unfold F_L_bestInsertion F_X7_bestInsertion
        rw [reqE_ok hN9 ca hk, Option.bind_some, bs_r, c_wait hN9 hp.1 ca.1 ca.2.2 hk, if_neg y, Option.bind_some, if_neg (fun z => z rfl), Option.bind_some, bs_l]
        exact out_thr (by decide) ca ch
      · dsimp only
        unfold F_X8_bestInsertion jn
        have ra0 := ra.u0 (v := 0) (j := 0) hN9
        rw [noE_ok hN9 ra0 pu_0 hk, Option.bind_some]
        dsimp only
        rw [if_neg (fun z => z rfl), r_wait hN9 hp.1 ra0.1 ra0.2.2.2 hk, if_neg y, Option.bind_some, if_neg (fun z => z rfl), fails_1 pu_0 (by decide)]
        exact r_thr hN9 hw ra rh (by decide)
  · refine ⟨1, 0, N, P, H, ⟨hN9, hp, hw⟩, ?_, fun h1 ra rh => ?_⟩
    · dsimp only
      unfold F_L_bestInsertion F_X7_bestInsertion
      rw [reqE_no ca q, Option.bind_some, bs_l, Option.bind_some, bs_l]
      exact out_thr (by decide) ca ch
    · dsimp only
      unfold F_X8_bestInsertion
      rw [noE_no hN9 (ra.u0 hN9) pu_0 q, Option.bind_some]
      exact r_thr hN9 hw ra rh (by decide)
theorem op_improve (a : Int32) (ok : okS N P H) : opOK N P H (fun h => F_L_improve h a) (fun h => F_X8_improve h a) := by
  obtain ⟨hN9, hp, hw⟩ := ok
  intro h ca ch
  have bad : (a < (1 : Int32) ∨ ¬ a ≤ (10 : Int32)) → ∃ k v N' P' H', okS N' P' H' ∧ cOut h (F_L_improve h a) k v N' P' H' ∧ ∀ h1, RA h1 N P → RH h1 H → rOut h1 (F_X8_improve h1 a) k v N' P' H' := fun q => by
    refine ⟨1, 0, N, P, H, ⟨hN9, hp, hw⟩, ?_, fun h1 ra rh => ?_⟩
    · unfold F_L_improve F_X7_improve
      have : ∀ y : Option (Nat ⊕ (Int32 × PH)), (if a < (1 : Int32) then some (.inl 0) else if a ≤ (10 : Int32) then y else some (.inl 0)) = some (.inl 0) := fun y => by
        by_cases z : a < (1 : Int32)
        · rw [if_pos z]
        · rw [if_neg z]
          rcases q with q | q
          · exact absurd q z
          · rw [if_neg q]
      rw [this, Option.bind_some, bs_l]
      exact out_thr (by decide) ca ch
    · unfold F_X8_improve jn
      dsimp only
      have : F_X8_in (pu h1 122 0 (0 : Int32)) a (1 : Int32) (10 : Int32) = 0 := by
        unfold F_X8_in
        by_cases z : a < (1 : Int32)
        · rw [if_pos z]
        · rw [if_neg z]
          rcases q with q | q
          · exact absurd q z
          · rw [if_pos (Int32.not_le.mp q)]
      rw [this, if_neg (fun z => z rfl), fails_1 pu_0 (by decide)]
      exact r_thr hN9 hw ra rh (by decide)
  rcases rng (n := 11) (by omega) a with ⟨k, hk, rfl⟩ | q
  · by_cases z : k = 0
    · subst z
      exact bad (Or.inl (by decide))
    · obtain ⟨i1, i2, i3⟩ := impr_ok hN9 k (s := 0) hp
      refine ⟨0, zi (impr N k P 0).2, N, (impr N k P 0).1, hpush H N P false, ⟨hN9, i1, hw.push hN9 hp⟩, ?_, fun h1 ra rh => ?_⟩
      · dsimp only
        obtain ⟨h', e1, f1, ca1, ch1⟩ := c_improve (r := k) (by omega) (by omega) hN9 hp hw ca ch
        unfold F_L_improve
        rw [e1, Option.bind_some, bs_r]
        exact out_val2 f1 ca1 ch1
      · dsimp only
        obtain ⟨h', e1, f1, t1, ra1, rh1⟩ := r_improve (r := k) (by omega) (by omega) hN9 hp hw ra rh
        exact ⟨_, h', e1, f1, t1, ra1, rh1, fun _ => rfl⟩
  · refine bad ?_
    rcases q with q | q
    · left
      have e := zi_of a
      have hb := Int32.le_toInt a
      have hb2 := Int32.toInt_lt a
      have q : a < zi 0 := q
      rw [e, zi_lt (by omega) (by omega)] at q
      show a < zi 1
      rw [e, zi_lt (by omega) (by omega)]
      omega
    · right
      have e := zi_of a
      have hb := Int32.le_toInt a
      have hb2 := Int32.toInt_lt a
      intro z
      have z : a ≤ zi 10 := z
      have q : ¬ a < zi 11 := q
      rw [e, zi_lt (by omega) (by omega)] at q
      rw [e, zi_le (by omega) (by omega)] at z
      omega
end OPR
