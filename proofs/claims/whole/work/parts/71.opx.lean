/-! THE CALLS THAT THROW NOTHING -/
section OPX
variable {h : PH} {N : NT} {P : PT} {H : HT} {L T : Nat} {xs : Nat → Int32} {j : Int32}
theorem turn_ask {r : Option (Int32 × PH)} {v : Int32} (ok : okS N P H) (hca : CA h N P) (hch : CH h N H) (htx : TX h T) (her : h.1 1 11 = h.1 122 7) (hs : scr L xs h) (hr : rOut h r 0 v N P H) : ∃ h', (r.bind fun z => if v = z.1 then some (.inl (j, z.2)) else some (.inr ((0 : Int32)))) = some (Sum.inl (j, h')) ∧ LI h' ∧ scr L xs h' := by
  obtain ⟨w, h3, e2, f2, t2, ra, rh, hv⟩ := hr
  rw [e2, Option.bind_some]
  dsimp only
  rw [hv rfl, if_pos rfl]
  refine ⟨h3, rfl, ⟨N, P, H, T, ok, hca.FR f2, hch.FR f2, ra, rh, htx.FR f2, ?_⟩, scr_of hs (f2.1 167 (by omega)).1 (f2.1 168 (by omega)).1⟩
  rw [(f2.1 1 (by omega)).1, f2.2 7 (by omega)]
  exact her
theorem turn_do {F : Option (Int32 × PH)} {G : PH → Option (Int32 × PH)} {v : Int32} {N' : NT} {P' : PT} {H' : HT} (ok : okS N P H) (ok' : okS N' P' H') (hra : RA h N P) (hrh : RH h H) (htx : TX h T) (her : h.1 1 11 = h.1 122 7) (hs : scr L xs h)
    (hF : ∃ g, F = some (v, g) ∧ Fr SC h g ∧ CA g N' P' ∧ CH g N' H') (hG : ∀ g, RA g N P → RH g H → ∃ h', G g = some (v, h') ∧ FR g h' ∧ RA h' N' P' ∧ RH h' H') :
    ∃ h', (F.bind fun z => (G z.2).bind fun z2 => if z.1 = z2.1 then some (.inl (j, z2.2)) else some (.inr ((0 : Int32)))) = some (Sum.inl (j, h')) ∧ LI h' ∧ scr L xs h' := by
  obtain ⟨g, e1, f1, ca, ch⟩ := hF
  have fs : Fr SF h g := f1.mono (fun i hi => Or.inl hi)
  obtain ⟨h3, e2, f2, ra, rh⟩ := hG g (hra.sf ok.1 fs) (hrh.sf ok.2.2 fs)
  rw [e1, Option.bind_some, e2, Option.bind_some]
  dsimp only
  rw [if_pos rfl]
  have hs2 := scr_fr hs fs (by unfold SF SC; omega) (by unfold SF SC; omega)
  refine ⟨h3, rfl, ⟨N', P', H', T, ok', ca.FR f2, ch.FR f2, ra, rh, (htx.sf fs).FR f2, ?_⟩, scr_of hs2 (f2.1 167 (by omega)).1 (f2.1 168 (by omega)).1⟩
  rw [(f2.1 1 (by omega)).1, f2.2 7 (by omega), (fs 1 (by unfold SF SC; omega)).1, (fs 122 (by unfold SF SC; omega)).1]
  exact her
theorem ask_nodes (ok : okS N P H) (ra : RA h N P) (rh : RH h H) : rOut h (F_X8_nodeCount h) 0 (nI (wN N)) N P H := by
  unfold F_X8_nodeCount
  rw [r_nodes (ra.u0 (v := 0) (j := 0) ok.1).1, Option.bind_some]
  exact r_val ok.1 ok.2.2 ra rh
theorem ask_edges (ok : okS N P H) (ra : RA h N P) (rh : RH h H) : rOut h (F_X8_edgeCount h) 0 (nI (wE N)) N P H := by
  unfold F_X8_edgeCount
  rw [r_edges (ra.u0 (v := 0) (j := 0) ok.1).1, Option.bind_some]
  exact r_val ok.1 ok.2.2 ra rh
theorem ask_depots (ok : okS N P H) (ra : RA h N P) (rh : RH h H) : rOut h (F_X8_depotCount h) 0 (nI (wD N)) N P H := by
  unfold F_X8_depotCount
  rw [i3, r_num (by omega), (ra.u0 (v := 0) (j := 0) ok.1).1.2.2.2.1, Option.bind_some]
  exact r_val ok.1 ok.2.2 ra rh
theorem ask_tours (ok : okS N P H) (ra : RA h N P) (rh : RH h H) : rOut h (F_X8_tourCount h) 0 (nI (pT P)) N P H := by
  unfold F_X8_tourCount
  rw [r_tours (ra.u0 (v := 0) (j := 0) ok.1).2.2.2, Option.bind_some]
  exact r_val ok.1 ok.2.2 ra rh
theorem ask_total (ok : okS N P H) (ra : RA h N P) (rh : RH h H) : rOut h (F_X8_totalCost h) 0 (nI (wTot N P)) N P H := by
  unfold F_X8_totalCost
  obtain ⟨g, e, f⟩ := r_total ok.1 ok.2.1.1 ok.2.1.2.2 (ra.u0 (v := 0) (j := 0) ok.1)
  rw [e, Option.bind_some]
  exact r_val3 ok.1 ok.2.2 ra rh f (fun i hi => by unfold S165 at hi; omega) ((ra.u0 ok.1).fr3 ok.1 f)
theorem ask_unserved (ok : okS N P H) (ra : RA h N P) (rh : RH h H) : rOut h (F_X8_unserved h) 0 (nI (wUn N P)) N P H := by
  unfold F_X8_unserved
  have ra0 := ra.u0 (v := 0) (j := 0) ok.1
  rw [r_unserved ok.1 ok.2.1.1 ra0.1 ra0.2.2.2, Option.bind_some]
  exact r_val ok.1 ok.2.2 ra rh
/-! the checksum -/
def ckC (P : PT) (t : Nat) : Nat → Nat
  | 0 => pH P t
  | 1 => pL P t
  | k + 2 => pA P t k
def ckR (P : PT) (t : Nat) (s : Int64) : Nat → Int64
  | 0 => s
  | k + 1 => (31 : Int64) * ckR P t s k + (nI (ckC P t k)).toInt64
def ckT (N : NT) (P : PT) : Nat → Int64
  | 0 => (31 : Int64) * (nI (wTot N P)).toInt64 + (nI (wUn N P)).toInt64
  | t + 1 => ckR P t (ckT N P t) (2 + pL P t)
theorem c_check (ok : okS N P H) (ca : CA h N P) : F_X7_checksum h = some (ckT N P (pT P)) := by
  obtain ⟨hN9, hp, hw⟩ := ok
  have h4 := hp.1.1
  unfold F_X7_checksum
  rw [c_total hN9 hp.1 hp.2.2 ca.1 ca.2.1 ca.2.2, Option.bind_some, c_unserved hN9 hp.1 ca.1 ca.2.2, Option.bind_some]
  refine loop_to (fun t => (ckT N P t, nI t)) (pT P) rfl (fun t ht => ?_) ?_
  · have h14 := (hp.1.2 t ht).2.1
    dsimp only
    rw [ca.2.2.1, if_neg (nI_ge ht (by omega)), c_home ca.2.2 ht h4, c_size ca.2.2 ht h4]
    refine loop_to (fun k => (ckR P t (ckT N P t) (2 + k), nI k)) (pL P t) rfl (fun k hk => ?_) ?_
    · dsimp only
      have e1 : F_X3_arcOrDepot h (nI t) (nI k) = nI (pA P t k) := by
        rw [c_nx hp.1 ca.2.2 ht (by omega)]
        unfold nx
        rw [if_pos hk]
        rfl
      rw [if_neg (nI_ge hk (by omega)), e1, nI_1]
      have e2 : ckC P t (2 + k) = pA P t k := by rw [Nat.add_comm]; rfl
      have e3 : ckR P t (ckT N P t) (2 + (k + 1)) = (31 : Int64) * ckR P t (ckT N P t) (2 + k) + (nI (ckC P t (2 + k))).toInt64 := rfl
      rw [e3, e2]
    · dsimp only
      rw [if_pos (nI_le (Nat.le_refl _) (by omega)), nI_1]
      rfl
  · dsimp only
    rw [ca.2.2.1, if_pos (nI_le (Nat.le_refl _) (by omega))]
theorem r_check (ok : okS N P H) (ra : RA h N P) (rh : RH h H) : ∃ h', F_X8_checksum h = some (ckT N P (pT P), h') ∧ FR h h' ∧ RA h' N P ∧ RH h' H := by
  obtain ⟨hN9, hp, hw⟩ := ok
  have h4 := hp.1.1
  have hE := hN9.2.2.1
  have hn := hN9.1
  have ra0 := ra.u0 (v := 0) (j := 0) hN9
  obtain ⟨g, e, f⟩ := r_total hN9 hp.1 hp.2.2 ra0
  have ra1 := ra0.fr3 hN9 f
  unfold F_X8_checksum
  rw [e, Option.bind_some]
  dsimp only
  rw [r_unserved hN9 hp.1 ra1.1 ra1.2.2.2, Option.bind_some]
  refine ⟨g, ?_, (FR.pu (by omega)).trans (FR.of f (fun i hi => by unfold S165 at hi; omega)), ra1, (rh.u0 (v := 0) (j := 0) hw (by omega)).fr hw f (fun i hi => by unfold S165 at hi; omega)⟩
  refine loop_to (fun t => (ckT N P t, nI t)) (pT P) rfl (fun t ht => ?_) ?_
  · have h14 := (hp.1.2 t ht).2.1
    have hh := (hp.1.2 t ht).1
    dsimp only
    rw [r_tours ra1.2.2.2, Option.bind_some, if_neg (nI_ge ht (by omega))]
    refine loop_to (fun k => (ckR P t (ckT N P t) k, nI k)) (2 + pL P t) rfl (fun k hk => ?_) ?_
    · dsimp only
      have e1 : ald 1556 g 124 (F_X8_tour g (nI t) + nI k) = some (nI (ckC P t k)) := by
        rw [r_tour, nI_add, r_num (by omega)]
        obtain ⟨b1, b2, b3⟩ := ra1.2.2.2.2 t ht
        match k, hk with
        | 0, _ => rw [Nat.add_zero]; exact congrArg some b1
        | 1, _ => exact congrArg some b2
        | k + 2, hk =>
          have := b3 k (by omega)
          rw [show 192 + 16 * t + (k + 2) = 192 + 16 * t + 2 + k by omega]
          exact congrArg some this
      rw [r_len hp.1 ra1.2.2.2 ht, Option.bind_some, i2, nI_add, if_neg (nI_ge hk (by omega)), e1, Option.bind_some, nI_1]
      rfl
    · dsimp only
      rw [r_len hp.1 ra1.2.2.2 ht, Option.bind_some, i2, nI_add, if_pos (nI_le (Nat.le_refl _) (by omega)), nI_1]
      rfl
  · dsimp only
    rw [r_tours ra1.2.2.2, Option.bind_some, if_pos (nI_le (Nat.le_refl _) (by omega))]
/-! whether a turn is allowed -/
theorem op_follow (a b : Int32) (ok : okS N P H) : ∀ h, CA h N P → CH h N H → ∃ k v, (v = 0 ∨ v = 1) ∧ cOut h (F_L_mayFollow h a b) k v N P H ∧ ∀ h1, RA h1 N P → RH h1 H → rOut h1 (F_X8_mayFollow h1 a b) k v N P H := by
  obtain ⟨hN9, hp, hw⟩ := ok
  have hE := hN9.2.2.1
  intro h ca ch
  rcases rng (n := 2 * wE N) (by omega) a with ⟨k, hk, rfl⟩ | q
  · rcases rng (n := 2 * wE N) (by omega) b with ⟨m, hm, rfl⟩ | q
    · refine ⟨0, if wFol N k m then 1 else 0, by split <;> simp, ?_, fun h1 ra rh => ?_⟩
      · unfold F_L_mayFollow F_X7_mayFollow
        rw [reqA_ok hN9 ca hk, Option.bind_some, bs_r, reqA_ok hN9 ca hm, Option.bind_some, bs_r, c_follow hN9 ca.1 hk hm]
        cases wFol N k m with
        | true => exact out_val (v := 1) ca ch
        | false => exact out_val (v := 0) ca ch
      · unfold F_X8_mayFollow
        have ra0 := ra.u0 (v := 0) (j := 0) hN9
        rw [noA_ok hN9 ra0 pu_0 hk, Option.bind_some]
        dsimp only
        rw [if_neg (fun z => z rfl), noA_ok hN9 ra0 pu_0 hm, Option.bind_some]
        dsimp only
        rw [if_neg (fun z => z rfl), r_follow hN9 ra0.1 hk hm, Option.bind_some]
        cases wFol N k m with
        | true => exact r_val hN9 hw ra rh
        | false => exact r_val hN9 hw ra rh
    · refine ⟨1, 0, Or.inl rfl, ?_, fun h1 ra rh => ?_⟩
      · unfold F_L_mayFollow F_X7_mayFollow
        rw [reqA_ok hN9 ca hk, Option.bind_some, bs_r, reqA_no ca q, Option.bind_some, bs_l, Option.bind_some, bs_l]
        exact out_thr (by decide) ca ch
      · unfold F_X8_mayFollow
        rw [noA_ok hN9 (ra.u0 hN9) pu_0 hk, Option.bind_some]
        dsimp only
        rw [if_neg (fun z => z rfl), noA_no hN9 (ra.u0 hN9) pu_0 q, Option.bind_some]
        exact r_thr hN9 hw ra rh (by decide)
  · refine ⟨1, 0, Or.inl rfl, ?_, fun h1 ra rh => ?_⟩
    · unfold F_L_mayFollow F_X7_mayFollow
      rw [reqA_no ca q, Option.bind_some, bs_l, Option.bind_some, bs_l]
      exact out_thr (by decide) ca ch
    · unfold F_X8_mayFollow
      rw [noA_no hN9 (ra.u0 hN9) pu_0 q, Option.bind_some]
      exact r_thr hN9 hw ra rh (by decide)
end OPX
