section TRN
theorem turn {L : Nat} {xs : Nat → Int32} {h : PH} {i : Nat} (hL : L ≤ 3072) (hs : scr L xs h) (hI : LI h) (hi : i + 6 ≤ L) : ∃ h', F_L_turn h (nI i) = some (.inl (nI (i + 6), h')) ∧ LI h' ∧ scr L xs h' := by
  obtain ⟨N, P, H, T, ok, hca, hch, hra, hrh, htx, her⟩ := hI
  have A0 : ald (h.1 168 0).toNatClampNeg h 167 (nI i) = some (xs i) := sc_ald hs hL (by omega)
  have A1 : ∀ {g : PH}, scr L xs g → ald (g.1 168 0).toNatClampNeg g 167 (nI i + (1 : Int32)) = some (xs (i + 1)) := fun hg => by rw [show nI i + (1 : Int32) = nI (i + 1) from nI_add i 1]; exact sc_ald hg hL (by omega)
  have A2 : ∀ {g : PH}, scr L xs g → ald (g.1 168 0).toNatClampNeg g 167 (nI i + (2 : Int32)) = some (xs (i + 2)) := fun hg => by rw [show nI i + (2 : Int32) = nI (i + 2) from nI_add i 2]; exact sc_ald hg hL (by omega)
  have A3 : ∀ {g : PH}, scr L xs g → ald (g.1 168 0).toNatClampNeg g 167 (nI i + (3 : Int32)) = some (xs (i + 3)) := fun hg => by rw [show nI i + (3 : Int32) = nI (i + 3) from nI_add i 3]; exact sc_ald hg hL (by omega)
  have A4 : ∀ {g : PH}, scr L xs g → ald (g.1 168 0).toNatClampNeg g 167 (nI i + (4 : Int32)) = some (xs (i + 4)) := fun hg => by rw [show nI i + (4 : Int32) = nI (i + 4) from nI_add i 4]; exact sc_ald hg hL (by omega)
  have A5 : ∀ {g : PH}, scr L xs g → ald (g.1 168 0).toNatClampNeg g 167 (nI i + (5 : Int32)) = some (xs (i + 5)) := fun hg => by rw [show nI i + (5 : Int32) = nI (i + 5) from nI_add i 5]; exact sc_ald hg hL (by omega)
  have e6 : nI i + (6 : Int32) = nI (i + 6) := nI_add i 6
  have c0 : ¬ (h.1 168 0) - (6 : Int32) < nI i := by
    rw [hs.2, show nI L - (6 : Int32) = nI (L - 6) from nI_sub (a := L) (b := 6) (by omega)]
    exact nI_nlt (by omega) (by omega)
  unfold F_L_turn
  rw [if_neg c0, A0, Option.bind_some, e6]
  by_cases q0 : (xs i &&& (31 : Int32)) = 0
  · rw [if_pos q0]
    rw [A1 hs, Option.bind_some, A2 hs, Option.bind_some, A3 hs, Option.bind_some, A4 hs, Option.bind_some, A5 hs, Option.bind_some]
    exact turn_app ok hca hch hra hrh htx her hs (fun z hz => by rw [A1 hz, Option.bind_some, A2 hz, Option.bind_some, A3 hz, Option.bind_some, A4 hz, Option.bind_some, A5 hz, Option.bind_some])
  rw [if_neg q0]
  by_cases q1 : (xs i &&& (31 : Int32)) = 1
  · rw [if_pos q1]
    rw [A1 hs, Option.bind_some]
    exact turn_load ok hca hch hra hrh htx her hs (fun z hz => by rw [A1 hz, Option.bind_some])
  rw [if_neg q1]
  by_cases q2 : (xs i &&& (31 : Int32)) = 2
  · rw [if_pos q2]
    have f2 : FR h (pu h 122 0 (0 : Int32)) := FR.pu (by omega)
    have e1 : F_X7_errorOffset h = (F_X8_errorOffset h).1 := by
      show h.1 1 11 = (pu h 122 0 (0 : Int32)).1 122 7
      rw [pu_get, if_neg (by omega)]
      exact her
    rw [if_pos e1]
    refine ⟨_, rfl, ⟨N, P, H, T, ok, hca.FR f2, hch.FR f2, hra.u0 ok.1, hrh.u0 ok.2.2 (by omega), htx.FR f2, ?_⟩, scr_of hs (f2.1 167 (by omega)).1 (f2.1 168 (by omega)).1⟩
    show (pu h 122 0 (0 : Int32)).1 1 11 = (pu h 122 0 (0 : Int32)).1 122 7
    rw [(f2.1 1 (by omega)).1, f2.2 7 (by omega)]
    exact her
  rw [if_neg q2]
  by_cases q3 : (xs i &&& (31 : Int32)) = 3
  · rw [if_pos q3]
    rw [show F_X7_nodeCount h = nI (wN N) from hca.1.1]
    exact turn_ask ok hca hch htx her hs (ask_nodes ok hra hrh)
  rw [if_neg q3]
  by_cases q4 : (xs i &&& (31 : Int32)) = 4
  · rw [if_pos q4]
    rw [show F_X7_edgeCount h = nI (wE N) from hca.1.2.2.1]
    exact turn_ask ok hca hch htx her hs (ask_edges ok hra hrh)
  rw [if_neg q4]
  by_cases q5 : (xs i &&& (31 : Int32)) = 5
  · rw [if_pos q5]
    rw [show F_X7_depotCount h = nI (wD N) from hca.1.2.2.2.1]
    exact turn_ask ok hca hch htx her hs (ask_depots ok hra hrh)
  rw [if_neg q5]
  by_cases q6 : (xs i &&& (31 : Int32)) = 6
  · rw [if_pos q6]
    rw [show F_X7_tourCount h = nI (pT P) from hca.2.2.1]
    exact turn_ask ok hca hch htx her hs (ask_tours ok hra hrh)
  rw [if_neg q6]
  by_cases q7 : (xs i &&& (31 : Int32)) = 7
  · rw [if_pos q7]
    rw [A1 hs, Option.bind_some, A2 hs, Option.bind_some]
    exact turn_op (F := fun h => F_L_edge h (xs (i + 1)) (xs (i + 2))) (G := fun h => F_X8_edge_ h (xs (i + 1)) (xs (i + 2))) (op_edge (xs (i + 1)) (xs (i + 2)) ok) ok hca hch hra hrh htx her hs (fun z hz => by rw [A1 hz, Option.bind_some, A2 hz, Option.bind_some])
  rw [if_neg q7]
  by_cases q8 : (xs i &&& (31 : Int32)) = 8
  · rw [if_pos q8]
    rw [A1 hs, Option.bind_some, A2 hs, Option.bind_some]
    exact turn_follow ok hca hch hra hrh htx her hs (fun z hz => by rw [A1 hz, Option.bind_some, A2 hz, Option.bind_some]; rfl)
  rw [if_neg q8]
  by_cases q9 : (xs i &&& (31 : Int32)) = 9
  · rw [if_pos q9]
    rw [A1 hs, Option.bind_some, A2 hs, Option.bind_some]
    exact turn_op (F := fun h => F_L_deadhead h (xs (i + 1)) (xs (i + 2))) (G := fun h => F_X8_deadhead h (xs (i + 1)) (xs (i + 2))) (op_deadhead (xs (i + 1)) (xs (i + 2)) ok) ok hca hch hra hrh htx her hs (fun z hz => by rw [A1 hz, Option.bind_some, A2 hz, Option.bind_some])
  rw [if_neg q9]
  by_cases q10 : (xs i &&& (31 : Int32)) = 10
  · rw [if_pos q10]
    rw [A1 hs, Option.bind_some, A2 hs, Option.bind_some]
    exact turn_op (F := fun h => F_L_distance h (xs (i + 1)) (xs (i + 2))) (G := fun h => F_X8_distance h (xs (i + 1)) (xs (i + 2))) (op_distance (xs (i + 1)) (xs (i + 2)) ok) ok hca hch hra hrh htx her hs (fun z hz => by rw [A1 hz, Option.bind_some, A2 hz, Option.bind_some])
  rw [if_neg q10]
  by_cases q11 : (xs i &&& (31 : Int32)) = 11
  · rw [if_pos q11]
    rw [A1 hs, Option.bind_some]
    exact turn_op (F := fun h => F_L_serviceCost h (xs (i + 1))) (G := fun h => F_X8_serviceCost h (xs (i + 1))) (op_service (xs (i + 1)) ok) ok hca hch hra hrh htx her hs (fun z hz => by rw [A1 hz, Option.bind_some])
  rw [if_neg q11]
  by_cases q12 : (xs i &&& (31 : Int32)) = 12
  · rw [if_pos q12]
    have e1 : F_X7_oddNodes h = some (nI (odd N (wE N))) := by unfold F_X7_oddNodes; rw [c_odd ok.1 hca]; rfl
    rw [e1, Option.bind_some]
    exact turn_ask ok hca hch htx her hs (ask_odd ok hra hrh)
  rw [if_neg q12]
  by_cases q13 : (xs i &&& (31 : Int32)) = 13
  · rw [if_pos q13]
    rw [c_match ok.1 hca, Option.bind_some]
    exact turn_ask ok hca hch htx her hs (ask_match ok hra hrh)
  rw [if_neg q13]
  by_cases q14 : (xs i &&& (31 : Int32)) = 14
  · rw [if_pos q14]
    rw [A1 hs, Option.bind_some]
    exact turn_op (F := fun h => F_L_depotOf h (xs (i + 1))) (G := fun h => F_X8_depotOf h (xs (i + 1))) (op_depotOf (xs (i + 1)) ok) ok hca hch hra hrh htx her hs (fun z hz => by rw [A1 hz, Option.bind_some])
  rw [if_neg q14]
  by_cases q15 : (xs i &&& (31 : Int32)) = 15
  · rw [if_pos q15]
    rw [A1 hs, Option.bind_some]
    exact turn_op (F := fun h => F_L_length h (xs (i + 1))) (G := fun h => F_X8_length h (xs (i + 1))) (op_length (xs (i + 1)) ok) ok hca hch hra hrh htx her hs (fun z hz => by rw [A1 hz, Option.bind_some])
  rw [if_neg q15]
  by_cases q16 : (xs i &&& (31 : Int32)) = 16
  · rw [if_pos q16]
    rw [A1 hs, Option.bind_some, A2 hs, Option.bind_some]
    exact turn_op (F := fun h => F_L_arcAt h (xs (i + 1)) (xs (i + 2))) (G := fun h => F_X8_arcAt h (xs (i + 1)) (xs (i + 2))) (op_arcAt (xs (i + 1)) (xs (i + 2)) ok) ok hca hch hra hrh htx her hs (fun z hz => by rw [A1 hz, Option.bind_some, A2 hz, Option.bind_some])
  rw [if_neg q16]
  by_cases q17 : (xs i &&& (31 : Int32)) = 17
  · rw [if_pos q17]
    rw [A1 hs, Option.bind_some]
    exact turn_op (F := fun h => F_L_loadOf h (xs (i + 1))) (G := fun h => F_X8_loadOf h (xs (i + 1))) (op_loadOf (xs (i + 1)) ok) ok hca hch hra hrh htx her hs (fun z hz => by rw [A1 hz, Option.bind_some])
  rw [if_neg q17]
  by_cases q18 : (xs i &&& (31 : Int32)) = 18
  · rw [if_pos q18]
    rw [A1 hs, Option.bind_some]
    exact turn_op (F := fun h => F_L_tourCost h (xs (i + 1))) (G := fun h => F_X8_tourCost h (xs (i + 1))) (op_tourCost (xs (i + 1)) ok) ok hca hch hra hrh htx her hs (fun z hz => by rw [A1 hz, Option.bind_some])
  rw [if_neg q18]
  by_cases q19 : (xs i &&& (31 : Int32)) = 19
  · rw [if_pos q19]
    rw [c_total ok.1 ok.2.1.1 ok.2.1.2.2 hca.1 hca.2.1 hca.2.2, Option.bind_some]
    exact turn_ask ok hca hch htx her hs (ask_total ok hra hrh)
  rw [if_neg q19]
  by_cases q20 : (xs i &&& (31 : Int32)) = 20
  · rw [if_pos q20]
    rw [c_unserved ok.1 ok.2.1.1 hca.1 hca.2.2, Option.bind_some]
    exact turn_ask ok hca hch htx her hs (ask_unserved ok hra hrh)
  rw [if_neg q20]
  by_cases q21 : (xs i &&& (31 : Int32)) = 21
  · rw [if_pos q21]
    rw [A1 hs, Option.bind_some]
    exact turn_op (F := fun h => F_L_tourOf h (xs (i + 1))) (G := fun h => F_X8_tourOf h (xs (i + 1))) (op_tourOf (xs (i + 1)) ok) ok hca hch hra hrh htx her hs (fun z hz => by rw [A1 hz, Option.bind_some])
  rw [if_neg q21]
  by_cases q22 : (xs i &&& (31 : Int32)) = 22
  · rw [if_pos q22]
    rw [A1 hs, Option.bind_some]
    exact turn_op (F := fun h => F_L_bestInsertion h (xs (i + 1))) (G := fun h => F_X8_bestInsertion h (xs (i + 1))) (op_best (xs (i + 1)) ok) ok hca hch hra hrh htx her hs (fun z hz => by rw [A1 hz, Option.bind_some])
  rw [if_neg q22]
  by_cases q23 : (xs i &&& (31 : Int32)) = 23
  · rw [if_pos q23]
    rw [A1 hs, Option.bind_some]
    exact turn_op (F := fun h => F_L_openTour h (xs (i + 1))) (G := fun h => F_X8_openTour h (xs (i + 1))) (op_open (xs (i + 1)) ok) ok hca hch hra hrh htx her hs (fun z hz => by rw [A1 hz, Option.bind_some])
  rw [if_neg q23]
  by_cases q24 : (xs i &&& (31 : Int32)) = 24
  · rw [if_pos q24]
    rw [A1 hs, Option.bind_some, A2 hs, Option.bind_some, A3 hs, Option.bind_some]
    exact turn_op (F := fun h => F_L_insert h (xs (i + 1)) (xs (i + 2)) (xs (i + 3))) (G := fun h => F_X8_insert h (xs (i + 1)) (xs (i + 2)) (xs (i + 3))) (op_insert (xs (i + 1)) (xs (i + 2)) (xs (i + 3)) ok) ok hca hch hra hrh htx her hs (fun z hz => by rw [A1 hz, Option.bind_some, A2 hz, Option.bind_some, A3 hz, Option.bind_some])
  rw [if_neg q24]
  by_cases q25 : (xs i &&& (31 : Int32)) = 25
  · rw [if_pos q25]
    rw [A1 hs, Option.bind_some]
    exact turn_op (F := fun h => F_L_drop h (xs (i + 1))) (G := fun h => F_X8_drop h (xs (i + 1))) (op_drop (xs (i + 1)) ok) ok hca hch hra hrh htx her hs (fun z hz => by rw [A1 hz, Option.bind_some])
  rw [if_neg q25]
  by_cases q26 : (xs i &&& (31 : Int32)) = 26
  · rw [if_pos q26]
    rw [A1 hs, Option.bind_some]
    exact turn_op (F := fun h => F_L_flip h (xs (i + 1))) (G := fun h => F_X8_flip h (xs (i + 1))) (op_flip (xs (i + 1)) ok) ok hca hch hra hrh htx her hs (fun z hz => by rw [A1 hz, Option.bind_some])
  rw [if_neg q26]
  by_cases q27 : (xs i &&& (31 : Int32)) = 27
  · rw [if_pos q27]
    obtain ⟨g, b1, b2, b3, b4⟩ := c_build ok.1 ok.2.1 ok.2.2 hca hch
    exact turn_do ok ⟨ok.1, (fB_WP ok.1 ok.2.1 (wE N) (Nat.le_refl _)).1, ok.2.2.push ok.1 ok.2.1⟩ hra hrh htx her hs ⟨g, b1, b2, b3, b4⟩ (fun g' r1 r2 => by
      obtain ⟨h', d1, d2, d3, d4, d5⟩ := r_build ok.1 ok.2.1 ok.2.2 r1 r2
      exact ⟨h', d1, d2, d4, d5⟩)
  rw [if_neg q27]
  by_cases q28 : (xs i &&& (31 : Int32)) = 28
  · rw [if_pos q28]
    rw [A1 hs, Option.bind_some]
    exact turn_op (F := fun h => F_L_improve h (xs (i + 1))) (G := fun h => F_X8_improve h (xs (i + 1))) (op_improve (xs (i + 1)) ok) ok hca hch hra hrh htx her hs (fun z hz => by rw [A1 hz, Option.bind_some])
  rw [if_neg q28]
  by_cases q29 : (xs i &&& (31 : Int32)) = 29
  · rw [if_pos q29]
    by_cases hk : hK H = 0
    · exact turn_do ok ok hra hrh htx her hs ⟨h, c_undo0 hch hk, Fr.refl h, hca, hch⟩ (fun g' r1 r2 => ⟨_, r_undo0 r2 hk, FR.pu (by omega), r1.u0 ok.1, r2.u0 ok.2.2 (by omega)⟩)
    · obtain ⟨g, b1, b2, b3, b4⟩ := c_undo ok.2.2 hca hch (by omega)
      have w := ok.2.2 0 (by omega)
      exact turn_do ok ⟨w.1, w.2, ok.2.2.pop⟩ hra hrh htx her hs ⟨g, b1, b2.mono (fun i hi => by unfold SU at hi; unfold SC; omega), b3, b4⟩ (fun g' r1 r2 => by
        obtain ⟨h', d1, d2, d3, d4, d5⟩ := r_undo ok.2.2 r2 (by omega)
        exact ⟨h', d1, d2, d4, d5⟩)
  rw [if_neg q29]
  by_cases q30 : (xs i &&& (31 : Int32)) = 30
  · rw [if_pos q30]
    obtain ⟨h', d1, f2, d3, d4⟩ := r_check ok hra hrh
    rw [c_check ok hca, Option.bind_some, d1, Option.bind_some]
    dsimp only
    rw [if_pos (lg_self _)]
    refine ⟨h', rfl, ⟨N, P, H, T, ok, hca.FR f2, hch.FR f2, d3, d4, htx.FR f2, ?_⟩, scr_of hs (f2.1 167 (by omega)).1 (f2.1 168 (by omega)).1⟩
    rw [(f2.1 1 (by omega)).1, f2.2 7 (by omega)]
    exact her
  rw [if_neg q30]
  exact ⟨h, rfl, ⟨N, P, H, T, ok, hca, hch, hra, hrh, htx, her⟩, hs⟩
end TRN
