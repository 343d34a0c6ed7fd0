/-! THE CALLS THAT ONLY ASK -/
section OPQ
variable {h : PH} {N : NT} {P : PT} {H : HT}
theorem bs_r {β γ : Type} (f : Nat → Option γ) (g : β → Option γ) (x : β) : bsum f g (.inr x) = g x := rfl
theorem bs_l {β γ : Type} (f : Nat → Option γ) (g : β → Option γ) (x : Nat) : bsum f g (.inl x) = f x := rfl
theorem told_en {o : Option Nat} (hb : ∀ v, o = some v → v < 1000000) : F_X8_told h (nI (en 1000000 o)) = eA o := by
  unfold F_X8_told
  rw [iK]
  cases o with
  | none => exact if_neg (fun z => Int32.lt_irrefl z)
  | some v => exact if_pos (nI_lt (hb v rfl) (by omega))
theorem none_en {o : Option Nat} (hb : ∀ v, o = some v → v < 100000000) : F_X7_orNone h (nI (en 100000000 o)) = eA o := by
  unfold F_X7_orNone
  rw [iM]
  cases o with
  | none => exact if_neg (fun z => Int32.lt_irrefl z)
  | some v => exact if_pos (nI_lt (hb v rfl) (by omega))
theorem r_val3 {S : Nat → Prop} {v : Int32} {h' : PH} (hN9 : WN N) (hw : HW H) (ra : RA h N P) (rh : RH h H) (f : Fr S (pu h 122 0 (0 : Int32)) h') (hs : ∀ i, S i → 124 ≤ i ∧ ¬ (128 ≤ i ∧ i ≤ 135) ∧ i ≤ 165) (ra' : RA h' N P) : rOut h (some (v, h')) 0 v N P H :=
  ⟨v, h', rfl, (FR.pu (by omega)).trans (FR.of f (fun i hi => ⟨(hs i hi).1, (hs i hi).2.2⟩)), by rw [(f 122 (fun z => by have := hs 122 z; omega)).1]; exact pu_0, ra', (rh.u0 (v := 0) (j := 0) hw (by omega)).fr hw f (fun i hi => ⟨by have := hs i hi; omega, (hs i hi).2.1⟩), fun _ => rfl⟩
theorem op_tourOf (a : Int32) (ok : okS N P H) : opOK N P H (fun h => F_L_tourOf h a) (fun h => F_X8_tourOf h a) := by
  obtain ⟨hN9, hp, hw⟩ := ok
  have hE := hN9.2.2.1
  intro h ca ch
  rcases rng (n := wE N) (by omega) a with ⟨k, hk, rfl⟩ | q
  · refine ⟨0, eA (wTour P k), N, P, H, ⟨hN9, hp, hw⟩, ?_, fun h1 ra rh => ?_⟩
    · dsimp only
      unfold F_L_tourOf F_X7_tourOf
      rw [reqE_ok hN9 ca hk, Option.bind_some, bs_r, c_tour hN9 hp.1 ca.2.2 (by omega), Option.bind_some, Option.bind_some, bs_r]
      exact out_val ca ch
    · dsimp only
      unfold F_X8_tourOf
      rw [noE_ok hN9 (ra.u0 hN9) pu_0 hk, Option.bind_some]
      dsimp only
      rw [if_pos rfl, r_with hN9 hp.1 (ra.u0 hN9).2.2.2 (by omega), Option.bind_some]
      exact r_val hN9 hw ra rh
  · refine ⟨1, 0, N, P, H, ⟨hN9, hp, hw⟩, ?_, fun h1 ra rh => ?_⟩
    · dsimp only
      unfold F_L_tourOf F_X7_tourOf
      rw [reqE_no ca q, Option.bind_some, bs_l, Option.bind_some, bs_l]
      exact out_thr (by decide) ca ch
    · dsimp only
      unfold F_X8_tourOf
      rw [noE_no hN9 (ra.u0 hN9) pu_0 q, Option.bind_some]
      exact r_thr hN9 hw ra rh (by decide)
theorem op_depotOf (a : Int32) (ok : okS N P H) : opOK N P H (fun h => F_L_depotOf h a) (fun h => F_X8_depotOf h a) := by
  obtain ⟨hN9, hp, hw⟩ := ok
  have h4 := hp.1.1
  intro h ca ch
  rcases rng (n := pT P) (by omega) a with ⟨k, hk, rfl⟩ | q
  · refine ⟨0, nI (pH P k), N, P, H, ⟨hN9, hp, hw⟩, ?_, fun h1 ra rh => ?_⟩
    · dsimp only
      unfold F_L_depotOf F_X7_depotOf
      rw [reqT_ok hp ca hk, Option.bind_some, bs_r, c_home ca.2.2 hk h4, Option.bind_some, bs_r]
      exact out_val ca ch
    · dsimp only
      unfold F_X8_depotOf
      rw [noT_ok hp (ra.u0 hN9) pu_0 hk, Option.bind_some]
      dsimp only
      rw [if_pos rfl, r_hom hp.1 (ra.u0 hN9).2.2.2 hk, Option.bind_some]
      exact r_val hN9 hw ra rh
  · refine ⟨1, 0, N, P, H, ⟨hN9, hp, hw⟩, ?_, fun h1 ra rh => ?_⟩
    · dsimp only
      unfold F_L_depotOf F_X7_depotOf
      rw [reqT_no ca q, Option.bind_some, bs_l, Option.bind_some, bs_l]
      exact out_thr (by decide) ca ch
    · dsimp only
      unfold F_X8_depotOf
      rw [noT_no hp (ra.u0 hN9) pu_0 q, Option.bind_some]
      exact r_thr hN9 hw ra rh (by decide)
theorem op_length (a : Int32) (ok : okS N P H) : opOK N P H (fun h => F_L_length h a) (fun h => F_X8_length h a) := by
  obtain ⟨hN9, hp, hw⟩ := ok
  have h4 := hp.1.1
  intro h ca ch
  rcases rng (n := pT P) (by omega) a with ⟨k, hk, rfl⟩ | q
  · refine ⟨0, nI (pL P k), N, P, H, ⟨hN9, hp, hw⟩, ?_, fun h1 ra rh => ?_⟩
    · dsimp only
      unfold F_L_length F_X7_length
      rw [reqT_ok hp ca hk, Option.bind_some, bs_r, c_size ca.2.2 hk h4, Option.bind_some, bs_r]
      exact out_val ca ch
    · dsimp only
      unfold F_X8_length
      rw [noT_ok hp (ra.u0 hN9) pu_0 hk, Option.bind_some]
      dsimp only
      rw [if_pos rfl, r_len hp.1 (ra.u0 hN9).2.2.2 hk, Option.bind_some]
      exact r_val hN9 hw ra rh
  · refine ⟨1, 0, N, P, H, ⟨hN9, hp, hw⟩, ?_, fun h1 ra rh => ?_⟩
    · dsimp only
      unfold F_L_length F_X7_length
      rw [reqT_no ca q, Option.bind_some, bs_l, Option.bind_some, bs_l]
      exact out_thr (by decide) ca ch
    · dsimp only
      unfold F_X8_length
      rw [noT_no hp (ra.u0 hN9) pu_0 q, Option.bind_some]
      exact r_thr hN9 hw ra rh (by decide)
theorem op_loadOf (a : Int32) (ok : okS N P H) : opOK N P H (fun h => F_L_loadOf h a) (fun h => F_X8_loadOf h a) := by
  obtain ⟨hN9, hp, hw⟩ := ok
  have h4 := hp.1.1
  intro h ca ch
  rcases rng (n := pT P) (by omega) a with ⟨k, hk, rfl⟩ | q
  · refine ⟨0, nI (wLd N P k), N, P, H, ⟨hN9, hp, hw⟩, ?_, fun h1 ra rh => ?_⟩
    · dsimp only
      unfold F_L_loadOf F_X7_loadOf
      rw [reqT_ok hp ca hk, Option.bind_some, bs_r, c_load hN9 hp.1 ca.1 ca.2.2 hk, Option.bind_some, Option.bind_some, bs_r]
      exact out_val ca ch
    · dsimp only
      unfold F_X8_loadOf
      rw [noT_ok hp (ra.u0 hN9) pu_0 hk, Option.bind_some]
      dsimp only
      rw [if_pos rfl, r_load hN9 hp.1 (ra.u0 hN9).1 (ra.u0 hN9).2.2.2 hk, Option.bind_some]
      exact r_val hN9 hw ra rh
  · refine ⟨1, 0, N, P, H, ⟨hN9, hp, hw⟩, ?_, fun h1 ra rh => ?_⟩
    · dsimp only
      unfold F_L_loadOf F_X7_loadOf
      rw [reqT_no ca q, Option.bind_some, bs_l, Option.bind_some, bs_l]
      exact out_thr (by decide) ca ch
    · dsimp only
      unfold F_X8_loadOf
      rw [noT_no hp (ra.u0 hN9) pu_0 q, Option.bind_some]
      exact r_thr hN9 hw ra rh (by decide)
theorem op_tourCost (a : Int32) (ok : okS N P H) : opOK N P H (fun h => F_L_tourCost h a) (fun h => F_X8_tourCost h a) := by
  obtain ⟨hN9, hp, hw⟩ := ok
  have h4 := hp.1.1
  intro h ca ch
  rcases rng (n := pT P) (by omega) a with ⟨k, hk, rfl⟩ | q
  · refine ⟨0, nI (wTC N P k), N, P, H, ⟨hN9, hp, hw⟩, ?_, fun h1 ra rh => ?_⟩
    · dsimp only
      unfold F_L_tourCost F_X7_tourCost
      rw [reqT_ok hp ca hk, Option.bind_some, bs_r, c_tourCost hN9 hp.1 hp.2.2 ca.1 ca.2.1 ca.2.2 hk, Option.bind_some, Option.bind_some, bs_r]
      exact out_val ca ch
    · dsimp only
      unfold F_X8_tourCost
      obtain ⟨h', e1, f1⟩ := r_tourCost hN9 hp.1 hp.2.2 (ra.u0 (v := 0) (j := 0) hN9) hk
      rw [noT_ok hp (ra.u0 hN9) pu_0 hk, Option.bind_some]
      dsimp only
      rw [if_pos rfl, e1, Option.bind_some]
      exact r_val3 hN9 hw ra rh f1 (fun i hi => by unfold S165 at hi; omega) ((ra.u0 hN9).fr3 hN9 f1)
  · refine ⟨1, 0, N, P, H, ⟨hN9, hp, hw⟩, ?_, fun h1 ra rh => ?_⟩
    · dsimp only
      unfold F_L_tourCost F_X7_tourCost
      rw [reqT_no ca q, Option.bind_some, bs_l, Option.bind_some, bs_l]
      exact out_thr (by decide) ca ch
    · dsimp only
      unfold F_X8_tourCost
      rw [noT_no hp (ra.u0 hN9) pu_0 q, Option.bind_some]
      exact r_thr hN9 hw ra rh (by decide)
theorem op_service (a : Int32) (ok : okS N P H) : opOK N P H (fun h => F_L_serviceCost h a) (fun h => F_X8_serviceCost h a) := by
  obtain ⟨hN9, hp, hw⟩ := ok
  have hE := hN9.2.2.1
  intro h ca ch
  rcases rng (n := 2 * wE N) (by omega) a with ⟨k, hk, rfl⟩ | q
  · refine ⟨0, nI (wSv N k), N, P, H, ⟨hN9, hp, hw⟩, ?_, fun h1 ra rh => ?_⟩
    · dsimp only
      unfold F_L_serviceCost F_X7_serviceCost
      rw [reqA_ok hN9 ca hk, Option.bind_some, bs_r, c_serv hN9 ca.1 hk, Option.bind_some, bs_r]
      exact out_val ca ch
    · dsimp only
      unfold F_X8_serviceCost
      have ra0 := ra.u0 (v := 0) (j := 0) hN9
      obtain ⟨h', e1, f1⟩ := r_serv hN9 ra0.1 ra0.2.1 hk
      rw [noA_ok hN9 ra0 pu_0 hk, Option.bind_some]
      dsimp only
      rw [if_pos rfl, e1, Option.bind_some]
      exact r_val3 hN9 hw ra rh f1 (fun i hi => by omega) (ra0.fr hN9 f1 (by omega) (fun j hj => by omega))
  · refine ⟨1, 0, N, P, H, ⟨hN9, hp, hw⟩, ?_, fun h1 ra rh => ?_⟩
    · dsimp only
      unfold F_L_serviceCost F_X7_serviceCost
      rw [reqA_no ca q, Option.bind_some, bs_l, Option.bind_some, bs_l]
      exact out_thr (by decide) ca ch
    · dsimp only
      unfold F_X8_serviceCost
      rw [noA_no hN9 (ra.u0 hN9) pu_0 q, Option.bind_some]
      exact r_thr hN9 hw ra rh (by decide)
theorem op_deadhead (a b : Int32) (ok : okS N P H) : opOK N P H (fun h => F_L_deadhead h a b) (fun h => F_X8_deadhead h a b) := by
  obtain ⟨hN9, hp, hw⟩ := ok
  have hE := hN9.2.2.1
  intro h ca ch
  rcases rng (n := 2 * wE N) (by omega) a with ⟨k, hk, rfl⟩ | q
  · rcases rng (n := 2 * wE N) (by omega) b with ⟨m, hm, rfl⟩ | q
    · refine ⟨0, eA (wDh N k m), N, P, H, ⟨hN9, hp, hw⟩, ?_, fun h1 ra rh => ?_⟩
      · dsimp only
        unfold F_L_deadhead F_X7_deadhead
        rw [reqA_ok hN9 ca hk, Option.bind_some, bs_r, reqA_ok hN9 ca hm, Option.bind_some, bs_r, c_dh hN9 ca.2.1.1 hk hm, none_en (fun v hv => by have := wDh_le hN9 hv; omega), Option.bind_some, bs_r]
        exact out_val ca ch
      · dsimp only
        unfold F_X8_deadhead
        have ra0 := ra.u0 (v := 0) (j := 0) hN9
        rw [noA_ok hN9 ra0 pu_0 hk, Option.bind_some]
        dsimp only
        rw [if_neg (fun z => z rfl), noA_ok hN9 ra0 pu_0 hm, Option.bind_some]
        dsimp only
        rw [if_pos rfl, aidx_in (by omega) (by omega), Option.bind_some, r_gap hN9 ra0.2.2.1 hk hm, Option.bind_some, told_en (fun v hv => by have := wDh_le hN9 hv; omega)]
        exact r_val hN9 hw ra rh
    · refine ⟨1, 0, N, P, H, ⟨hN9, hp, hw⟩, ?_, fun h1 ra rh => ?_⟩
      · dsimp only
        unfold F_L_deadhead F_X7_deadhead
        rw [reqA_ok hN9 ca hk, Option.bind_some, bs_r, reqA_no ca q, Option.bind_some, bs_l, Option.bind_some, bs_l]
        exact out_thr (by decide) ca ch
      · dsimp only
        unfold F_X8_deadhead
        rw [noA_ok hN9 (ra.u0 hN9) pu_0 hk, Option.bind_some]
        dsimp only
        rw [if_neg (fun z => z rfl), noA_no hN9 (ra.u0 hN9) pu_0 q, Option.bind_some]
        exact r_thr hN9 hw ra rh (by decide)
  · refine ⟨1, 0, N, P, H, ⟨hN9, hp, hw⟩, ?_, fun h1 ra rh => ?_⟩
    · dsimp only
      unfold F_L_deadhead F_X7_deadhead
      rw [reqA_no ca q, Option.bind_some, bs_l, Option.bind_some, bs_l]
      exact out_thr (by decide) ca ch
    · dsimp only
      unfold F_X8_deadhead
      rw [noA_no hN9 (ra.u0 hN9) pu_0 q, Option.bind_some]
      exact r_thr hN9 hw ra rh (by decide)
theorem op_distance (a b : Int32) (ok : okS N P H) : opOK N P H (fun h => F_L_distance h a b) (fun h => F_X8_distance h a b) := by
  obtain ⟨hN9, hp, hw⟩ := ok
  have hn := hN9.1
  intro h ca ch
  rcases rng (n := wN N) (by omega) a with ⟨k, hk, rfl⟩ | q
  · rcases rng (n := wN N) (by omega) b with ⟨m, hm, rfl⟩ | q
    · refine ⟨0, eA (wDst N k m), N, P, H, ⟨hN9, hp, hw⟩, ?_, fun h1 ra rh => ?_⟩
      · dsimp only
        unfold F_L_distance F_X7_distance
        rw [reqN_ok hN9 ca hk, Option.bind_some, bs_r, reqN_ok hN9 ca hm, Option.bind_some, bs_r, i8, nI_mul, nI_add, at_in (by omega) (by omega), ca.2.1.2.2 k m hk hm, none_en (fun v hv => by have := wDst_le hN9 hv; omega), Option.bind_some, bs_r]
        exact out_val ca ch
      · dsimp only
        unfold F_X8_distance
        have ra0 := ra.u0 (v := 0) (j := 0) hN9
        rw [noN_ok hN9 ra0 pu_0 hk, Option.bind_some]
        dsimp only
        rw [if_neg (fun z => z rfl), noN_ok hN9 ra0 pu_0 hm, Option.bind_some]
        dsimp only
        rw [if_pos rfl, r_dst hN9 ra0.1 ra0.2.2.1 (by omega) (by omega), Option.bind_some, told_en (fun v hv => by have := wDst_le hN9 hv; omega)]
        exact r_val hN9 hw ra rh
    · refine ⟨1, 0, N, P, H, ⟨hN9, hp, hw⟩, ?_, fun h1 ra rh => ?_⟩
      · dsimp only
        unfold F_L_distance F_X7_distance
        rw [reqN_ok hN9 ca hk, Option.bind_some, bs_r, reqN_no ca q, Option.bind_some, bs_l, Option.bind_some, bs_l]
        exact out_thr (by decide) ca ch
      · dsimp only
        unfold F_X8_distance
        rw [noN_ok hN9 (ra.u0 hN9) pu_0 hk, Option.bind_some]
        dsimp only
        rw [if_neg (fun z => z rfl), noN_no hN9 (ra.u0 hN9) pu_0 q, Option.bind_some]
        exact r_thr hN9 hw ra rh (by decide)
  · refine ⟨1, 0, N, P, H, ⟨hN9, hp, hw⟩, ?_, fun h1 ra rh => ?_⟩
    · dsimp only
      unfold F_L_distance F_X7_distance
      rw [reqN_no ca q, Option.bind_some, bs_l, Option.bind_some, bs_l]
      exact out_thr (by decide) ca ch
    · dsimp only
      unfold F_X8_distance
      rw [noN_no hN9 (ra.u0 hN9) pu_0 q, Option.bind_some]
      exact r_thr hN9 hw ra rh (by decide)
end OPQ
