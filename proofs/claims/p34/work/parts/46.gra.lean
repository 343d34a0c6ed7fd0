noncomputable def F_L_randomCity (s : gST) (p1 : gRF) (p2 : gRF) (p3 : Int32) : Option (gRF × gST) :=
 (F_X8_init (gNwO s.2 8) (gTop s.2)).bind fun y1 =>
 (F_X10_below y1 p2 (5 : Int32)).bind fun y2 =>
 (gFst y2.2 (gTop s.2) 8 0 (.inl ((2 : Int32) + y2.1))).bind fun D3 =>
 (F_X10_below D3 p2 (2 : Int32)).bind fun y4 =>
 jn (fun (v6 : Int32) =>
  (F_X10_below y4.2 p2 v6).bind fun y7 =>
  (gFst y7.2 (gTop s.2) 8 1 (.inl ((1 : Int32) + y7.1))).bind fun D8 =>
  (gFi (gAI D8 1 2) (gTop s.2) 8 0).bind fun z9 =>
  (gIst (gAI D8 1 2) (gTop D8) 1 (0 : Int32) z9).bind fun D10 =>
  (gFi D10 (gTop s.2) 8 1).bind fun z11 =>
  (gIst D10 (gTop D8) 1 (1 : Int32) z11).bind fun D12 =>
  (F_L_writeNumbers (s.1, D12) p1 (some (.inr 10)) (gTop D8)).bind fun y13 =>
  (F_X10_below y13.2 p2 p3).bind fun y14 =>
  loop (fun (s15 : Int32 × gST) =>
   if s15.1 ≤ 0 then
    (F_X10_below s15.2.2 p2 (9 : Int32)).bind fun y16 =>
    loop (fun (s17 : Int32 × gST) =>
     if s17.1 ≤ 0 then
      (F_X10_below s17.2.2 p2 (3 : Int32)).bind fun y18 =>
      loop (fun (s19 : Int32 × gST) =>
       if s19.1 ≤ 0 then
        (F_X10_below s19.2.2 p2 (2 : Int32)).bind fun y20 =>
        jn (fun (v22 : gST) =>
         (F_X8_solve v22.2 (gTop s.2)).bind fun y23 =>
         (F_L_loadText (v22.1, y23) p1).bind fun y24 =>
         (gFr y24.2.2 (gTop s.2) 8 3).bind fun r25 =>
         (gLen y24.2.2 r25).bind fun z26 =>
         if ¬ y24.1 = z26 then
          some (.inr (.inr (.inr ((none, (y24.2.1, y24.2.2))))))
         else
          some (.inr (.inr (.inr (((gTop s.2), (y24.2.1, y24.2.2))))))) (fun k21 =>
         if ¬ y20.1 = 0 then
          k21 ((s19.2.1, y20.2))
         else
          (F_X10_below y20.2 p2 (3 : Int32)).bind fun y27 =>
          (R_X9_random 4 y27.2 p2 y27.1).bind fun y28 =>
          (gFst y28.2 (gTop s.2) 8 2 (.inr (.inr y28.1))).bind fun D29 =>
          (F_L_write (s19.2.1, D29) p1 (some (.inr 18))).bind fun y30 =>
          (gFr y30.2 (gTop s.2) 8 2).bind fun r31 =>
          (R_X9_text 4 y30.2 r31 (0 : Int32)).bind fun y32 =>
          (F_L_write (y30.1, y32.2) p1 y32.1).bind fun y33 =>
          (F_L_write (y33.1, y33.2) p1 (some (.inr 22))).bind fun y34 =>
          k21 ((y34.1, y34.2)))
       else
        (gFi s19.2.2 (gTop s.2) 8 0).bind fun z35 =>
        (F_X10_below s19.2.2 p2 z35).bind fun y36 =>
        (gFr y36.2 (gTop s.2) 8 5).bind fun r37 =>
        (gFr y36.2 (gTop s.2) 8 5).bind fun r38 =>
        (gLen y36.2 r38).bind fun z39 =>
        (F_L_inserted y36.2 r37 z39 y36.1).bind fun y40 =>
        (gFst y40.2 (gTop s.2) 8 5 (.inr (.inr y40.1))).bind fun D41 =>
        (gIst (gAI D41 1 1) (gTop D41) 1 (0 : Int32) y36.1).bind fun D42 =>
        (F_L_writeNumbers (s19.2.1, D42) p1 (some (.inr 16)) (gTop D41)).bind fun y43 =>
        some (.inl ((s19.1 - (1 : Int32)), (y43.1, y43.2)))) (((1 : Int32) + y18.1), (s17.2.1, y18.2))
     else
      (gFr s17.2.2 (gTop s.2) 8 3).bind fun r44 =>
      (gLen s17.2.2 r44).bind fun z45 =>
      (F_X10_below s17.2.2 p2 z45).bind fun y46 =>
      (gFr y46.2 (gTop s.2) 8 3).bind fun r47 =>
      (gLen y46.2 r47).bind fun z48 =>
      (F_X10_below y46.2 p2 z48).bind fun y49 =>
      (gFr y49.2 (gTop s.2) 8 3).bind fun r50 =>
      (gQld y49.2 r50 y46.1).bind fun r51 =>
      (F_X10_below y49.2 p2 (2 : Int32)).bind fun y52 =>
      (gIld y52.2 r51 1 y52.1).bind fun z53 =>
      (gFr y52.2 (gTop s.2) 8 3).bind fun r54 =>
      (gQld y52.2 r54 y49.1).bind fun r55 =>
      (gIld y52.2 r55 1 (0 : Int32)).bind fun z56 =>
      if z56 = z53 then
       (gFr y52.2 (gTop s.2) 8 4).bind fun r57 =>
       (gIst (gAI y52.2 1 3) (gTop y52.2) 1 (0 : Int32) z53).bind fun D58 =>
       (gIst D58 (gTop y52.2) 1 (1 : Int32) y46.1).bind fun D59 =>
       (gIst D59 (gTop y52.2) 1 (2 : Int32) y49.1).bind fun D60 =>
       (F_L_with D60 r57 (gTop y52.2)).bind fun y61 =>
       (gFst y61.2 (gTop s.2) 8 4 (.inr (.inr y61.1))).bind fun D62 =>
       (gIst (gAI D62 1 3) (gTop D62) 1 (0 : Int32) z53).bind fun D63 =>
       (gIst D63 (gTop D62) 1 (1 : Int32) y46.1).bind fun D64 =>
       (gIst D64 (gTop D62) 1 (2 : Int32) y49.1).bind fun D65 =>
       (F_L_writeNumbers (s17.2.1, D65) p1 (some (.inr 14)) (gTop D62)).bind fun y66 =>
       some (.inl ((s17.1 - (1 : Int32)), (y66.1, y66.2)))
      else
       (gFr y52.2 (gTop s.2) 8 3).bind fun r67 =>
       (gQld y52.2 r67 y49.1).bind fun r68 =>
       (gIld y52.2 r68 1 (1 : Int32)).bind fun z69 =>
       if z69 = z53 then
        (gFr y52.2 (gTop s.2) 8 4).bind fun r70 =>
        (gIst (gAI y52.2 1 3) (gTop y52.2) 1 (0 : Int32) z53).bind fun D71 =>
        (gIst D71 (gTop y52.2) 1 (1 : Int32) y46.1).bind fun D72 =>
        (gIst D72 (gTop y52.2) 1 (2 : Int32) y49.1).bind fun D73 =>
        (F_L_with D73 r70 (gTop y52.2)).bind fun y74 =>
        (gFst y74.2 (gTop s.2) 8 4 (.inr (.inr y74.1))).bind fun D75 =>
        (gIst (gAI D75 1 3) (gTop D75) 1 (0 : Int32) z53).bind fun D76 =>
        (gIst D76 (gTop D75) 1 (1 : Int32) y46.1).bind fun D77 =>
        (gIst D77 (gTop D75) 1 (2 : Int32) y49.1).bind fun D78 =>
        (F_L_writeNumbers (s17.2.1, D78) p1 (some (.inr 14)) (gTop D75)).bind fun y79 =>
        some (.inl ((s17.1 - (1 : Int32)), (y79.1, y79.2)))
       else
        some (.inl ((s17.1 - (1 : Int32)), (s17.2.1, y52.2)))) (y16.1, (s15.2.1, y16.2))
   else
    (gFi s15.2.2 (gTop s.2) 8 0).bind fun z80 =>
    (F_X10_below s15.2.2 p2 z80).bind fun y81 =>
    (gFi y81.2 (gTop s.2) 8 0).bind fun z82 =>
    (F_X10_below y81.2 p2 (z82 - (1 : Int32))).bind fun y83 =>
    (gFi y83.2 (gTop s.2) 8 0).bind fun z84 =>
    (gRm ((y81.1 + (1 : Int32)) + y83.1) z84).bind fun z85 =>
    (gIst (gAI y83.2 1 5) (gTop y83.2) 1 (0 : Int32) y81.1).bind fun D86 =>
    (gIst D86 (gTop y83.2) 1 (1 : Int32) z85).bind fun D87 =>
    (F_X10_below D87 p2 (99 : Int32)).bind fun y88 =>
    (gIst y88.2 (gTop y83.2) 1 (2 : Int32) ((1 : Int32) + y88.1)).bind fun D89 =>
    (F_X10_below D89 p2 (99 : Int32)).bind fun y90 =>
    (gIst y90.2 (gTop y83.2) 1 (3 : Int32) ((1 : Int32) + y90.1)).bind fun D91 =>
    (F_X10_below D91 p2 (4 : Int32)).bind fun y92 =>
    jn (fun (v94 : Int32 × gST) =>
     (gIst v94.2.2 (gTop y83.2) 1 (4 : Int32) v94.1).bind fun D95 =>
     (gFr D95 (gTop s.2) 8 3).bind fun r96 =>
     (F_L_with D95 r96 (gTop y83.2)).bind fun y97 =>
     (gFst y97.2 (gTop s.2) 8 3 (.inr (.inr y97.1))).bind fun D98 =>
     (F_L_writeNumbers (v94.2.1, D98) p1 (some (.inr 12)) (gTop y83.2)).bind fun y99 =>
     some (.inl ((s15.1 - (1 : Int32)), (y99.1, y99.2)))) (fun k93 =>
     if ¬ y92.1 = 0 then
      (F_X10_below y92.2 p2 (100 : Int32)).bind fun y100 =>
      k93 (y100.1, (s15.2.1, y100.2))
     else
      k93 ((0 : Int32), (s15.2.1, y92.2)))) (((1 : Int32) + y14.1), (y13.1, y14.2))) (fun k5 =>
  if ¬ y4.1 = 0 then
   k5 ((150 : Int32))
  else
   k5 ((999 : Int32)))
set_option maxHeartbeats 4000000 in
set_option maxRecDepth 100000 in
theorem ok_L_randomCity (dX : Nat) (hX : 40 ≤ dX) (d : Nat) (hd : 13 ≤ d) (s : gST) (p1 : gRF) (p2 : gRF) (p3 : Int32) : ∀ z, F_L_randomCity s p1 p2 p3 = some z → gEx dX d 72 [.inr (.inr (some (.inr 0))), .inr (.inr p1), .inr (.inr p2), .inl p3] s (some (.inr (.inr z.1))) z.2 := by
  obtain ⟨d, rfl⟩ : ∃ e, d = e + 1 := ⟨d - 1, by omega⟩
  intro z hz
  refine ⟨rfl, ?_⟩
  refine (?_ : GSim (gEx dX d) (Ex dX) gmi_L_randomCity (fun o1 h1 => o1 = _ ∧ h1 = _) (F_L_randomCity s p1 p2 p3) (fun t => t = z) 0 [some (.inr (.inr (some (.inr 0)))), some (.inr (.inr p1)), some (.inr (.inr p2)), some (.inl p3), none, none, none, none, none] [] s) z hz rfl
  clear hz
  unfold F_L_randomCity
  refine gS rfl rfl ?_
  refine gS rfl rfl ?_
  refine gC (st' := fun y1 => [.inr (.inr (gTop s.2))]) rfl rfl (fun _ _ => rfl) rfl (ok_X8_init dX hX d (by omega) s.1 (gNwO s.2 8) (gTop s.2)) (fun z => rfl) (fun y1 => ?_)
  refine gS (lv' := [some (.inr (.inr (some (.inr 0)))), some (.inr (.inr p1)), some (.inr (.inr p2)), some (.inl p3), some (.inr (.inr (gTop s.2))), none, none, none, none]) rfl rfl ?_
  refine gS rfl rfl ?_
  refine gS rfl rfl ?_
  refine gS rfl rfl ?_
  refine gS rfl rfl ?_
  refine gC (st' := fun y2 => [.inl y2.1, .inl (2 : Int32), .inr (.inr (gTop s.2))]) rfl rfl (fun _ hz => rv_recv (ci := 10) (by omega) (rv_X10_below hz)) rfl (ok_X10_below dX hX d (by omega) s.1 y1 p2 (5 : Int32)) (fun z => rfl) (fun y2 => ?_)
  refine gS rfl rfl ?_
  refine gO rfl rfl (fun D3 => ?_)
  refine gS rfl rfl ?_
  refine gS rfl rfl ?_
  refine gS rfl rfl ?_
  refine gS rfl rfl ?_
  refine gS rfl rfl ?_
  refine gC (st' := fun y4 => [.inl y4.1, .inr (.inr p2), .inl (1 : Int32), .inr (.inr (gTop s.2))]) rfl rfl (fun _ hz => rv_recv (ci := 10) (by omega) (rv_X10_below hz)) rfl (ok_X10_below dX hX d (by omega) s.1 D3 p2 (2 : Int32)) (fun z => rfl) (fun y4 => ?_)
  refine gJn 42 (fun (v6 : Int32) => [some (.inr (.inr (some (.inr 0)))), some (.inr (.inr p1)), some (.inr (.inr p2)), some (.inl p3), some (.inr (.inr (gTop s.2))), none, none, none, none]) (fun (v6 : Int32) => [.inl v6, .inr (.inr p2), .inl (1 : Int32), .inr (.inr (gTop s.2))]) (fun (v6 : Int32) => (s.1, y4.2)) (fun v6 => ?_) (fun k5 hk5 => ?_)
  · refine gC (st' := fun y7 => [.inl y7.1, .inl (1 : Int32), .inr (.inr (gTop s.2))]) rfl rfl (fun _ hz => rv_recv (ci := 10) (by omega) (rv_X10_below hz)) rfl (ok_X10_below dX hX d (by omega) s.1 y4.2 p2 v6) (fun z => rfl) (fun y7 => ?_)
    refine gS rfl rfl ?_
    refine gO rfl rfl (fun D8 => ?_)
    refine gS rfl rfl ?_
    refine gS rfl rfl ?_
    refine gS rfl rfl ?_
    refine gS rfl rfl ?_
    refine gS (s' := (s.1, (gAI D8 1 2))) rfl rfl ?_
    refine gS rfl rfl ?_
    refine gS rfl rfl ?_
    refine gS rfl rfl ?_
    refine gO rfl rfl (fun z9 => ?_)
    refine gO rfl rfl (fun D10 => ?_)
    refine gS rfl rfl ?_
    refine gS rfl rfl ?_
    refine gS rfl rfl ?_
    refine gO rfl rfl (fun z11 => ?_)
    refine gO rfl rfl (fun D12 => ?_)
    refine gC (st' := fun y13 => []) rfl rfl (fun _ _ => rfl) rfl (ok_L_writeNumbers dX hX d (by omega) (s.1, D12) p1 (some (.inr 10)) (gTop D8)) (fun z => rfl) (fun y13 => ?_)
    refine gS rfl rfl ?_
    refine gS rfl rfl ?_
    refine gS rfl rfl ?_
    refine gC (st' := fun y14 => [.inl y14.1, .inl (1 : Int32)]) rfl rfl (fun _ hz => rv_recv (ci := 10) (by omega) (rv_X10_below hz)) rfl (ok_X10_below dX hX d (by omega) y13.1 y13.2 p2 p3) (fun z => rfl) (fun y14 => ?_)
    refine gS rfl rfl ?_
    refine gS (lv' := [some (.inr (.inr (some (.inr 0)))), some (.inr (.inr p1)), some (.inr (.inr p2)), some (.inl p3), some (.inr (.inr (gTop s.2))), some (.inl ((1 : Int32) + y14.1)), none, none, none]) rfl rfl ?_
    refine gMk [true, true, true, false, true, true, true, true, true] (lv' := [some (.inr (.inr (some (.inr 0)))), some (.inr (.inr p1)), some (.inr (.inr p2)), none, some (.inr (.inr (gTop s.2))), some (.inl ((1 : Int32) + y14.1)), none, none, none]) rfl rfl ?_
    refine gL (pc := 84) (lv := fun (s15 : Int32 × gST) => [some (.inr (.inr (some (.inr 0)))), some (.inr (.inr p1)), some (.inr (.inr p2)), none, some (.inr (.inr (gTop s.2))), some (.inl s15.1), none, none, none]) (s := fun (s15 : Int32 × gST) => (s15.2.1, s15.2.2)) (fun s15 => ?_) (((1 : Int32) + y14.1), (y13.1, y14.2))
    refine gS rfl rfl ?_
    refine gB rfl rfl ?_ ?_
    · refine gS rfl rfl ?_
      refine gS rfl rfl ?_
      refine gC (st' := fun y16 => [.inl y16.1]) rfl rfl (fun _ hz => rv_recv (ci := 10) (by omega) (rv_X10_below hz)) rfl (ok_X10_below dX hX d (by omega) s15.2.1 s15.2.2 p2 (9 : Int32)) (fun z => rfl) (fun y16 => ?_)
      refine gS (lv' := [some (.inr (.inr (some (.inr 0)))), some (.inr (.inr p1)), some (.inr (.inr p2)), none, some (.inr (.inr (gTop s.2))), some (.inl y16.1), none, none, none]) rfl rfl ?_
      refine gL (pc := 220) (lv := fun (s17 : Int32 × gST) => [some (.inr (.inr (some (.inr 0)))), some (.inr (.inr p1)), some (.inr (.inr p2)), none, some (.inr (.inr (gTop s.2))), some (.inl s17.1), none, none, none]) (s := fun (s17 : Int32 × gST) => (s17.2.1, s17.2.2)) (fun s17 => ?_) (y16.1, (s15.2.1, y16.2))
      refine gS rfl rfl ?_
      refine gB rfl rfl ?_ ?_
      · refine gS rfl rfl ?_
        refine gS rfl rfl ?_
        refine gS rfl rfl ?_
        refine gC (st' := fun y18 => [.inl y18.1, .inl (1 : Int32)]) rfl rfl (fun _ hz => rv_recv (ci := 10) (by omega) (rv_X10_below hz)) rfl (ok_X10_below dX hX d (by omega) s17.2.1 s17.2.2 p2 (3 : Int32)) (fun z => rfl) (fun y18 => ?_)
        refine gS rfl rfl ?_
        refine gS (lv' := [some (.inr (.inr (some (.inr 0)))), some (.inr (.inr p1)), some (.inr (.inr p2)), none, some (.inr (.inr (gTop s.2))), some (.inl ((1 : Int32) + y18.1)), none, none, none]) rfl rfl ?_
        refine gL (pc := 369) (lv := fun (s19 : Int32 × gST) => [some (.inr (.inr (some (.inr 0)))), some (.inr (.inr p1)), some (.inr (.inr p2)), none, some (.inr (.inr (gTop s.2))), some (.inl s19.1), none, none, none]) (s := fun (s19 : Int32 × gST) => (s19.2.1, s19.2.2)) (fun s19 => ?_) (((1 : Int32) + y18.1), (s17.2.1, y18.2))
        refine gS rfl rfl ?_
        refine gB rfl rfl ?_ ?_
        · refine gS rfl rfl ?_
          refine gS rfl rfl ?_
          refine gC (st' := fun y20 => [.inl y20.1]) rfl rfl (fun _ hz => rv_recv (ci := 10) (by omega) (rv_X10_below hz)) rfl (ok_X10_below dX hX d (by omega) s19.2.1 s19.2.2 p2 (2 : Int32)) (fun z => rfl) (fun y20 => ?_)
          refine gJn 477 (fun (v22 : gST) => [some (.inr (.inr (some (.inr 0)))), some (.inr (.inr p1)), none, none, some (.inr (.inr (gTop s.2))), none, none, none, none]) (fun (v22 : gST) => []) (fun (v22 : gST) => (v22.1, v22.2)) (fun v22 => ?_) (fun k21 hk21 => ?_)
          · refine gS rfl rfl ?_
            refine gC (st' := fun y23 => []) rfl rfl (fun _ hz => rv_recv (ci := 8) (by omega) (rv_X8_solve hz)) rfl (ok_X8_solve dX hX d (by omega) v22.1 v22.2 (gTop s.2)) (fun z => rfl) (fun y23 => ?_)
            refine gS rfl rfl ?_
            refine gS rfl rfl ?_
            refine gC (st' := fun y24 => [.inl y24.1]) rfl rfl (fun _ _ => rfl) rfl (ok_L_loadText dX hX d (by omega) (v22.1, y23) p1) (fun z => rfl) (fun y24 => ?_)
            refine gS rfl rfl ?_
            refine gO rfl rfl (fun r25 => ?_)
            refine gO rfl rfl (fun z26 => ?_)
            refine gB rfl rfl ?_ ?_
            · refine gS rfl rfl ?_
              exact gRt rfl rfl (fun hg => by cases hg; exact ⟨rfl, rfl⟩)
            · refine gS rfl rfl ?_
              refine gS rfl rfl ?_
              exact gRt rfl rfl (fun hg => by cases hg; exact ⟨rfl, rfl⟩)
          · refine gB rfl rfl ?_ ?_
            · refine gMk [true, true, false, true, true, false, true, true, true] (lv' := [some (.inr (.inr (some (.inr 0)))), some (.inr (.inr p1)), none, none, some (.inr (.inr (gTop s.2))), none, none, none, none]) rfl rfl ?_
              have h3 := hk21 ((s19.2.1, y20.2))
              exact h3
            · refine gS rfl rfl ?_
              refine gS rfl rfl ?_
              refine gS rfl rfl ?_
              refine gS rfl rfl ?_
              refine gC (st' := fun y27 => [.inl y27.1, .inr (.inr p2), .inr (.inr (gTop s.2))]) rfl rfl (fun _ hz => rv_recv (ci := 10) (by omega) (rv_X10_below hz)) rfl (ok_X10_below dX hX d (by omega) s19.2.1 y20.2 p2 (3 : Int32)) (fun z => rfl) (fun y27 => ?_)
              refine gC (st' := fun y28 => [.inr (.inr y28.1), .inr (.inr (gTop s.2))]) rfl rfl (fun _ _ => rfl) rfl (okR_X9_random 4 dX hX d (by omega) s19.2.1 y27.2 p2 y27.1) (fun z => rfl) (fun y28 => ?_)
              refine gO rfl rfl (fun D29 => ?_)
              refine gS rfl rfl ?_
              refine gS rfl rfl ?_
              refine gS rfl rfl ?_
              refine gC (st' := fun y30 => []) rfl rfl (fun _ _ => rfl) rfl (ok_L_write dX hX d (by omega) (s19.2.1, D29) p1 (some (.inr 18))) (fun z => rfl) (fun y30 => ?_)
              refine gS rfl rfl ?_
              refine gS rfl rfl ?_
              refine gS rfl rfl ?_
              refine gO rfl rfl (fun r31 => ?_)
              refine gS rfl rfl ?_
              refine gC (st' := fun y32 => [.inr (.inr y32.1), .inr (.inr p1), .inr (.inr (some (.inr 0)))]) rfl rfl (fun _ hz => rv_recv (ci := 9) (by omega) (rvR_X9_text 4 hz)) rfl (okR_X9_text 4 dX hX d (by omega) y30.1 y30.2 r31 (0 : Int32)) (fun z => rfl) (fun y32 => ?_)
              refine gC (st' := fun y33 => []) rfl rfl (fun _ _ => rfl) rfl (ok_L_write dX hX d (by omega) (y30.1, y32.2) p1 y32.1) (fun z => rfl) (fun y33 => ?_)
              refine gS rfl rfl ?_
              refine gS rfl rfl ?_
              refine gS rfl rfl ?_
              refine gC (st' := fun y34 => []) rfl rfl (fun _ _ => rfl) rfl (ok_L_write dX hX d (by omega) (y33.1, y33.2) p1 (some (.inr 22))) (fun z => rfl) (fun y34 => ?_)
              refine gMk [true, true, false, true, true, false, true, true, true] (lv' := [some (.inr (.inr (some (.inr 0)))), some (.inr (.inr p1)), none, none, some (.inr (.inr (gTop s.2))), none, none, none, none]) rfl rfl ?_
              have h3 := hk21 ((y34.1, y34.2))
              exact h3
        · refine gS rfl rfl ?_
          refine gS rfl rfl ?_
          refine gO rfl rfl (fun z35 => ?_)
          refine gC (st' := fun y36 => [.inl y36.1]) rfl rfl (fun _ hz => rv_recv (ci := 10) (by omega) (rv_X10_below hz)) rfl (ok_X10_below dX hX d (by omega) s19.2.1 s19.2.2 p2 z35) (fun z => rfl) (fun y36 => ?_)
          refine gS (lv' := [some (.inr (.inr (some (.inr 0)))), some (.inr (.inr p1)), some (.inr (.inr p2)), none, some (.inr (.inr (gTop s.2))), some (.inl s19.1), some (.inl y36.1), none, none]) rfl rfl ?_
          refine gS rfl rfl ?_
          refine gS rfl rfl ?_
          refine gO rfl rfl (fun r37 => ?_)
          refine gS rfl rfl ?_
          refine gO rfl rfl (fun r38 => ?_)
          refine gO rfl rfl (fun z39 => ?_)
          refine gS rfl rfl ?_
          refine gC (st' := fun y40 => [.inr (.inr y40.1), .inr (.inr (gTop s.2))]) rfl rfl (fun _ _ => rfl) rfl (ok_L_inserted dX hX d (by omega) s19.2.1 y36.2 r37 z39 y36.1) (fun z => rfl) (fun y40 => ?_)
          refine gO rfl rfl (fun D41 => ?_)
          refine gS rfl rfl ?_
          refine gS rfl rfl ?_
          refine gS rfl rfl ?_
          refine gS rfl rfl ?_
          refine gS (s' := (s19.2.1, (gAI D41 1 1))) rfl rfl ?_
          refine gS rfl rfl ?_
          refine gS rfl rfl ?_
          refine gS rfl rfl ?_
          refine gO rfl rfl (fun D42 => ?_)
          refine gC (st' := fun y43 => []) rfl rfl (fun _ _ => rfl) rfl (ok_L_writeNumbers dX hX d (by omega) (s19.2.1, D42) p1 (some (.inr 16)) (gTop D41)) (fun z => rfl) (fun y43 => ?_)
          refine gS (lv' := [some (.inr (.inr (some (.inr 0)))), some (.inr (.inr p1)), some (.inr (.inr p2)), none, some (.inr (.inr (gTop s.2))), some (.inl (s19.1 - (1 : Int32))), some (.inl y36.1), none, none]) rfl rfl ?_
          refine gS rfl rfl ?_
          refine gMk [true, true, true, true, true, true, false, true, true] (lv' := [some (.inr (.inr (some (.inr 0)))), some (.inr (.inr p1)), some (.inr (.inr p2)), none, some (.inr (.inr (gTop s.2))), some (.inl (s19.1 - (1 : Int32))), none, none, none]) rfl rfl ?_
          exact gJ (fun h2 => h2)
      · refine gS rfl rfl ?_
        refine gS rfl rfl ?_
        refine gO rfl rfl (fun r44 => ?_)
        refine gO rfl rfl (fun z45 => ?_)
        refine gC (st' := fun y46 => [.inl y46.1]) rfl rfl (fun _ hz => rv_recv (ci := 10) (by omega) (rv_X10_below hz)) rfl (ok_X10_below dX hX d (by omega) s17.2.1 s17.2.2 p2 z45) (fun z => rfl) (fun y46 => ?_)
        refine gS (lv' := [some (.inr (.inr (some (.inr 0)))), some (.inr (.inr p1)), some (.inr (.inr p2)), none, some (.inr (.inr (gTop s.2))), some (.inl s17.1), some (.inl y46.1), none, none]) rfl rfl ?_
        refine gS rfl rfl ?_
        refine gS rfl rfl ?_
        refine gO rfl rfl (fun r47 => ?_)
        refine gO rfl rfl (fun z48 => ?_)
        refine gC (st' := fun y49 => [.inl y49.1]) rfl rfl (fun _ hz => rv_recv (ci := 10) (by omega) (rv_X10_below hz)) rfl (ok_X10_below dX hX d (by omega) s17.2.1 y46.2 p2 z48) (fun z => rfl) (fun y49 => ?_)
        refine gS (lv' := [some (.inr (.inr (some (.inr 0)))), some (.inr (.inr p1)), some (.inr (.inr p2)), none, some (.inr (.inr (gTop s.2))), some (.inl s17.1), some (.inl y46.1), some (.inl y49.1), none]) rfl rfl ?_
        refine gS rfl rfl ?_
        refine gO rfl rfl (fun r50 => ?_)
        refine gS rfl rfl ?_
        refine gO rfl rfl (fun r51 => ?_)
        refine gS rfl rfl ?_
        refine gS rfl rfl ?_
        refine gC (st' := fun y52 => [.inl y52.1, .inr (.inr r51)]) rfl rfl (fun _ hz => rv_recv (ci := 10) (by omega) (rv_X10_below hz)) rfl (ok_X10_below dX hX d (by omega) s17.2.1 y49.2 p2 (2 : Int32)) (fun z => rfl) (fun y52 => ?_)
        refine gO rfl rfl (fun z53 => ?_)
        refine gS (lv' := [some (.inr (.inr (some (.inr 0)))), some (.inr (.inr p1)), some (.inr (.inr p2)), none, some (.inr (.inr (gTop s.2))), some (.inl s17.1), some (.inl y46.1), some (.inl y49.1), some (.inl z53)]) rfl rfl ?_
        refine gS rfl rfl ?_
        refine gO rfl rfl (fun r54 => ?_)
        refine gS rfl rfl ?_
        refine gO rfl rfl (fun r55 => ?_)
        refine gS rfl rfl ?_
        refine gO rfl rfl (fun z56 => ?_)
        refine gS rfl rfl ?_
        refine gB rfl rfl ?_ ?_
        · refine gS rfl rfl ?_
          refine gS rfl rfl ?_
          refine gO rfl rfl (fun r57 => ?_)
          refine gS rfl rfl ?_
          refine gS (s' := (s17.2.1, (gAI y52.2 1 3))) rfl rfl ?_
          refine gS rfl rfl ?_
          refine gS rfl rfl ?_
          refine gS rfl rfl ?_
          refine gO rfl rfl (fun D58 => ?_)
          refine gS rfl rfl ?_
          refine gS rfl rfl ?_
          refine gS rfl rfl ?_
          refine gO rfl rfl (fun D59 => ?_)
          refine gS rfl rfl ?_
          refine gS rfl rfl ?_
          refine gS rfl rfl ?_
          refine gO rfl rfl (fun D60 => ?_)
          refine gC (st' := fun y61 => [.inr (.inr y61.1), .inr (.inr (gTop s.2))]) rfl rfl (fun _ _ => rfl) rfl (ok_L_with dX hX d (by omega) s17.2.1 D60 r57 (gTop y52.2)) (fun z => rfl) (fun y61 => ?_)
          refine gO rfl rfl (fun D62 => ?_)
          refine gS rfl rfl ?_
          refine gS rfl rfl ?_
          refine gS rfl rfl ?_
          refine gS rfl rfl ?_
          refine gS (s' := (s17.2.1, (gAI D62 1 3))) rfl rfl ?_
          refine gS rfl rfl ?_
          refine gS rfl rfl ?_
          refine gS rfl rfl ?_
          refine gO rfl rfl (fun D63 => ?_)
          refine gS rfl rfl ?_
          refine gS rfl rfl ?_
          refine gS rfl rfl ?_
          refine gO rfl rfl (fun D64 => ?_)
          refine gS rfl rfl ?_
          refine gS rfl rfl ?_
          refine gS rfl rfl ?_
          refine gO rfl rfl (fun D65 => ?_)
          refine gC (st' := fun y66 => []) rfl rfl (fun _ _ => rfl) rfl (ok_L_writeNumbers dX hX d (by omega) (s17.2.1, D65) p1 (some (.inr 14)) (gTop D62)) (fun z => rfl) (fun y66 => ?_)
          refine gS (lv' := [some (.inr (.inr (some (.inr 0)))), some (.inr (.inr p1)), some (.inr (.inr p2)), none, some (.inr (.inr (gTop s.2))), some (.inl (s17.1 - (1 : Int32))), some (.inl y46.1), some (.inl y49.1), some (.inl z53)]) rfl rfl ?_
          refine gS rfl rfl ?_
          refine gMk [true, true, true, true, true, true, false, false, false] (lv' := [some (.inr (.inr (some (.inr 0)))), some (.inr (.inr p1)), some (.inr (.inr p2)), none, some (.inr (.inr (gTop s.2))), some (.inl (s17.1 - (1 : Int32))), none, none, none]) rfl rfl ?_
          exact gJ (fun h2 => h2)
        · refine gS rfl rfl ?_
          refine gO rfl rfl (fun r67 => ?_)
          refine gS rfl rfl ?_
          refine gO rfl rfl (fun r68 => ?_)
          refine gS rfl rfl ?_
          refine gO rfl rfl (fun z69 => ?_)
          refine gS rfl rfl ?_
          refine gB rfl rfl ?_ ?_
          · refine gS rfl rfl ?_
            refine gS rfl rfl ?_
            refine gO rfl rfl (fun r70 => ?_)
            refine gS rfl rfl ?_
            refine gS (s' := (s17.2.1, (gAI y52.2 1 3))) rfl rfl ?_
            refine gS rfl rfl ?_
            refine gS rfl rfl ?_
            refine gS rfl rfl ?_
            refine gO rfl rfl (fun D71 => ?_)
            refine gS rfl rfl ?_
            refine gS rfl rfl ?_
            refine gS rfl rfl ?_
            refine gO rfl rfl (fun D72 => ?_)
            refine gS rfl rfl ?_
            refine gS rfl rfl ?_
            refine gS rfl rfl ?_
            refine gO rfl rfl (fun D73 => ?_)
            refine gC (st' := fun y74 => [.inr (.inr y74.1), .inr (.inr (gTop s.2))]) rfl rfl (fun _ _ => rfl) rfl (ok_L_with dX hX d (by omega) s17.2.1 D73 r70 (gTop y52.2)) (fun z => rfl) (fun y74 => ?_)
            refine gO rfl rfl (fun D75 => ?_)
            refine gS rfl rfl ?_
            refine gS rfl rfl ?_
            refine gS rfl rfl ?_
            refine gS rfl rfl ?_
            refine gS (s' := (s17.2.1, (gAI D75 1 3))) rfl rfl ?_
            refine gS rfl rfl ?_
            refine gS rfl rfl ?_
            refine gS rfl rfl ?_
            refine gO rfl rfl (fun D76 => ?_)
            refine gS rfl rfl ?_
            refine gS rfl rfl ?_
            refine gS rfl rfl ?_
            refine gO rfl rfl (fun D77 => ?_)
            refine gS rfl rfl ?_
            refine gS rfl rfl ?_
            refine gS rfl rfl ?_
            refine gO rfl rfl (fun D78 => ?_)
            refine gC (st' := fun y79 => []) rfl rfl (fun _ _ => rfl) rfl (ok_L_writeNumbers dX hX d (by omega) (s17.2.1, D78) p1 (some (.inr 14)) (gTop D75)) (fun z => rfl) (fun y79 => ?_)
            refine gS (lv' := [some (.inr (.inr (some (.inr 0)))), some (.inr (.inr p1)), some (.inr (.inr p2)), none, some (.inr (.inr (gTop s.2))), some (.inl (s17.1 - (1 : Int32))), some (.inl y46.1), some (.inl y49.1), some (.inl z53)]) rfl rfl ?_
            refine gS rfl rfl ?_
            refine gMk [true, true, true, true, true, true, false, false, false] (lv' := [some (.inr (.inr (some (.inr 0)))), some (.inr (.inr p1)), some (.inr (.inr p2)), none, some (.inr (.inr (gTop s.2))), some (.inl (s17.1 - (1 : Int32))), none, none, none]) rfl rfl ?_
            exact gJ (fun h2 => h2)
          · refine gS rfl rfl ?_
            refine gS (lv' := [some (.inr (.inr (some (.inr 0)))), some (.inr (.inr p1)), some (.inr (.inr p2)), none, some (.inr (.inr (gTop s.2))), some (.inl (s17.1 - (1 : Int32))), some (.inl y46.1), some (.inl y49.1), some (.inl z53)]) rfl rfl ?_
            refine gS rfl rfl ?_
            refine gMk [true, true, true, true, true, true, false, false, false] (lv' := [some (.inr (.inr (some (.inr 0)))), some (.inr (.inr p1)), some (.inr (.inr p2)), none, some (.inr (.inr (gTop s.2))), some (.inl (s17.1 - (1 : Int32))), none, none, none]) rfl rfl ?_
            exact gJ (fun h2 => h2)
    · refine gS rfl rfl ?_
      refine gS rfl rfl ?_
      refine gO rfl rfl (fun z80 => ?_)
      refine gC (st' := fun y81 => [.inl y81.1]) rfl rfl (fun _ hz => rv_recv (ci := 10) (by omega) (rv_X10_below hz)) rfl (ok_X10_below dX hX d (by omega) s15.2.1 s15.2.2 p2 z80) (fun z => rfl) (fun y81 => ?_)
      refine gS (lv' := [some (.inr (.inr (some (.inr 0)))), some (.inr (.inr p1)), some (.inr (.inr p2)), none, some (.inr (.inr (gTop s.2))), some (.inl s15.1), some (.inl y81.1), none, none]) rfl rfl ?_
      refine gS rfl rfl ?_
      refine gS rfl rfl ?_
      refine gS rfl rfl ?_
      refine gS rfl rfl ?_
      refine gS rfl rfl ?_
      refine gO rfl rfl (fun z82 => ?_)
      refine gS rfl rfl ?_
      refine gS rfl rfl ?_
      refine gC (st' := fun y83 => [.inl y83.1, .inl (y81.1 + (1 : Int32))]) rfl rfl (fun _ hz => rv_recv (ci := 10) (by omega) (rv_X10_below hz)) rfl (ok_X10_below dX hX d (by omega) s15.2.1 y81.2 p2 (z82 - (1 : Int32))) (fun z => rfl) (fun y83 => ?_)
      refine gS rfl rfl ?_
      refine gS rfl rfl ?_
      refine gO rfl rfl (fun z84 => ?_)
      refine gO rfl rfl (fun z85 => ?_)
      refine gS (lv' := [some (.inr (.inr (some (.inr 0)))), some (.inr (.inr p1)), some (.inr (.inr p2)), none, some (.inr (.inr (gTop s.2))), some (.inl s15.1), some (.inl y81.1), some (.inl z85), none]) rfl rfl ?_
      refine gS rfl rfl ?_
      refine gS (s' := (s15.2.1, (gAI y83.2 1 5))) rfl rfl ?_
      refine gS rfl rfl ?_
      refine gS rfl rfl ?_
      refine gS rfl rfl ?_
      refine gO rfl rfl (fun D86 => ?_)
      refine gS rfl rfl ?_
      refine gS rfl rfl ?_
      refine gS rfl rfl ?_
      refine gO rfl rfl (fun D87 => ?_)
      refine gS rfl rfl ?_
      refine gS rfl rfl ?_
      refine gS rfl rfl ?_
      refine gS rfl rfl ?_
      refine gS rfl rfl ?_
      refine gC (st' := fun y88 => [.inl y88.1, .inl (1 : Int32), .inl (2 : Int32), .inr (.inr (gTop y83.2)), .inr (.inr (gTop y83.2))]) rfl rfl (fun _ hz => rv_recv (ci := 10) (by omega) (rv_X10_below hz)) rfl (ok_X10_below dX hX d (by omega) s15.2.1 D87 p2 (99 : Int32)) (fun z => rfl) (fun y88 => ?_)
      refine gS rfl rfl ?_
      refine gO rfl rfl (fun D89 => ?_)
      refine gS rfl rfl ?_
      refine gS rfl rfl ?_
      refine gS rfl rfl ?_
      refine gS rfl rfl ?_
      refine gS rfl rfl ?_
      refine gC (st' := fun y90 => [.inl y90.1, .inl (1 : Int32), .inl (3 : Int32), .inr (.inr (gTop y83.2)), .inr (.inr (gTop y83.2))]) rfl rfl (fun _ hz => rv_recv (ci := 10) (by omega) (rv_X10_below hz)) rfl (ok_X10_below dX hX d (by omega) s15.2.1 D89 p2 (99 : Int32)) (fun z => rfl) (fun y90 => ?_)
      refine gS rfl rfl ?_
      refine gO rfl rfl (fun D91 => ?_)
      refine gS rfl rfl ?_
      refine gS rfl rfl ?_
      refine gS rfl rfl ?_
      refine gS rfl rfl ?_
      refine gC (st' := fun y92 => [.inl y92.1, .inl (4 : Int32), .inr (.inr (gTop y83.2)), .inr (.inr (gTop y83.2))]) rfl rfl (fun _ hz => rv_recv (ci := 10) (by omega) (rv_X10_below hz)) rfl (ok_X10_below dX hX d (by omega) s15.2.1 D91 p2 (4 : Int32)) (fun z => rfl) (fun y92 => ?_)
      refine gJn 179 (fun (v94 : Int32 × gST) => [some (.inr (.inr (some (.inr 0)))), some (.inr (.inr p1)), some (.inr (.inr p2)), none, some (.inr (.inr (gTop s.2))), some (.inl s15.1), none, none, none]) (fun (v94 : Int32 × gST) => [.inl v94.1, .inl (4 : Int32), .inr (.inr (gTop y83.2)), .inr (.inr (gTop y83.2))]) (fun (v94 : Int32 × gST) => (v94.2.1, v94.2.2)) (fun v94 => ?_) (fun k93 hk93 => ?_)
      · refine gO rfl rfl (fun D95 => ?_)
        refine gS (lv' := [some (.inr (.inr (some (.inr 0)))), some (.inr (.inr p1)), some (.inr (.inr p2)), none, some (.inr (.inr (gTop s.2))), some (.inl s15.1), none, none, some (.inr (.inr (gTop y83.2)))]) rfl rfl ?_
        refine gS rfl rfl ?_
        refine gS rfl rfl ?_
        refine gO rfl rfl (fun r96 => ?_)
        refine gS rfl rfl ?_
        refine gC (st' := fun y97 => [.inr (.inr y97.1), .inr (.inr (gTop s.2))]) rfl rfl (fun _ _ => rfl) rfl (ok_L_with dX hX d (by omega) v94.2.1 D95 r96 (gTop y83.2)) (fun z => rfl) (fun y97 => ?_)
        refine gO rfl rfl (fun D98 => ?_)
        refine gS rfl rfl ?_
        refine gS rfl rfl ?_
        refine gS rfl rfl ?_
        refine gS rfl rfl ?_
        refine gC (st' := fun y99 => []) rfl rfl (fun _ _ => rfl) rfl (ok_L_writeNumbers dX hX d (by omega) (v94.2.1, D98) p1 (some (.inr 12)) (gTop y83.2)) (fun z => rfl) (fun y99 => ?_)
        refine gS (lv' := [some (.inr (.inr (some (.inr 0)))), some (.inr (.inr p1)), some (.inr (.inr p2)), none, some (.inr (.inr (gTop s.2))), some (.inl (s15.1 - (1 : Int32))), none, none, some (.inr (.inr (gTop y83.2)))]) rfl rfl ?_
        refine gS rfl rfl ?_
        refine gMk [true, true, true, true, true, true, true, true, false] (lv' := [some (.inr (.inr (some (.inr 0)))), some (.inr (.inr p1)), some (.inr (.inr p2)), none, some (.inr (.inr (gTop s.2))), some (.inl (s15.1 - (1 : Int32))), none, none, none]) rfl rfl ?_
        exact gJ (fun h2 => h2)
      · refine gB rfl rfl ?_ ?_
        · refine gS rfl rfl ?_
          refine gS rfl rfl ?_
          refine gC (st' := fun y100 => [.inl y100.1, .inl (4 : Int32), .inr (.inr (gTop y83.2)), .inr (.inr (gTop y83.2))]) rfl rfl (fun _ hz => rv_recv (ci := 10) (by omega) (rv_X10_below hz)) rfl (ok_X10_below dX hX d (by omega) s15.2.1 y92.2 p2 (100 : Int32)) (fun z => rfl) (fun y100 => ?_)
          refine gMk [true, true, true, true, true, true, false, false, true] (lv' := [some (.inr (.inr (some (.inr 0)))), some (.inr (.inr p1)), some (.inr (.inr p2)), none, some (.inr (.inr (gTop s.2))), some (.inl s15.1), none, none, none]) rfl rfl ?_
          have h3 := hk93 (y100.1, (s15.2.1, y100.2))
          exact h3
        · refine gS rfl rfl ?_
          refine gS rfl rfl ?_
          refine gMk [true, true, true, true, true, true, false, false, true] (lv' := [some (.inr (.inr (some (.inr 0)))), some (.inr (.inr p1)), some (.inr (.inr p2)), none, some (.inr (.inr (gTop s.2))), some (.inl s15.1), none, none, none]) rfl rfl ?_
          have h3 := hk93 ((0 : Int32), (s15.2.1, y92.2))
          exact h3
  · refine gB rfl rfl ?_ ?_
    · refine gS rfl rfl ?_
      have h3 := hk5 ((150 : Int32))
      exact h3
    · refine gS rfl rfl ?_
      refine gS rfl rfl ?_
      have h3 := hk5 ((999 : Int32))
      exact h3
noncomputable def F_L_agrees (s : gST) (p1 : gRF) : Option (Int32 × gST) :=
 (gFi s.2 p1 8 0).bind fun z1 =>
 jn (fun (v3 : Int32 × gST) =>
  loop (fun (s4 : Int32 × Int32 × gST) =>
   (gFr s4.2.2.2 p1 8 7).bind fun r5 =>
   (gLen s4.2.2.2 r5).bind fun z6 =>
   jn (fun (v8 : Unit) =>
    if s4.1 = 0 then
     some (.inr (((0 : Int32), (s4.2.2.1, s4.2.2.2))))
    else
     (gFr s4.2.2.2 p1 8 7).bind fun r9 =>
     (gLen s4.2.2.2 r9).bind fun z10 =>
     (F_L_length s4.2.2.1 z10).bind fun x11 =>
     if ¬ x11 = (-2000000097 : Int32) then
      some (.inr (((0 : Int32), (s4.2.2.1, (gBm s4.2.2.2 1)))))
     else
      (gFr (gBm s4.2.2.2 1) p1 8 3).bind fun r12 =>
      (gLen (gBm s4.2.2.2 1) r12).bind fun z13 =>
      (F_L_tourOf s4.2.2.1 z13).bind fun x14 =>
      if ¬ x14 = (-2000000097 : Int32) then
       some (.inr (((0 : Int32), (s4.2.2.1, (gBm (gBm s4.2.2.2 1) 1)))))
      else
       some (.inr (((1 : Int32), (s4.2.2.1, (gBm (gBm s4.2.2.2 1) 1)))))) (fun k7 =>
    if z6 ≤ s4.2.1 then
     k7 ()
    else
     if s4.1 = 0 then
      k7 ()
     else
      (F_L_depotOf s4.2.2.1 s4.2.1).bind fun x15 =>
      (gFr (gBm s4.2.2.2 1) p1 8 6).bind fun r16 =>
      (gIld (gBm s4.2.2.2 1) r16 1 s4.2.1).bind fun z17 =>
      jn (fun (v19 : Int32 × gST) =>
       loop (fun (s20 : Int32 × Int32 × gST) =>
        (gFr s20.2.2.2 p1 8 7).bind fun r21 =>
        (gQld s20.2.2.2 r21 s4.2.1).bind fun r22 =>
        (gLen s20.2.2.2 r22).bind fun z23 =>
        if z23 ≤ s20.2.1 then
         some (.inr (.inl (s20.1, (s4.2.1 + (1 : Int32)), (s20.2.2.1, s20.2.2.2))))
        else
         if s20.1 = 0 then
          some (.inr (.inl (s20.1, (s4.2.1 + (1 : Int32)), (s20.2.2.1, s20.2.2.2))))
         else
          (F_L_arcAt s20.2.2.1 s4.2.1 s20.2.1).bind fun x24 =>
          (gFr (gBm s20.2.2.2 2) p1 8 7).bind fun r25 =>
          (gQld (gBm s20.2.2.2 2) r25 s4.2.1).bind fun r26 =>
          (gIld (gBm s20.2.2.2 2) r26 1 s20.2.1).bind fun z27 =>
          if ¬ x24 = z27 then
           some (.inl ((0 : Int32), (s20.2.1 + (1 : Int32)), (s20.2.2.1, (gBm s20.2.2.2 2))))
          else
           (gFr (gBm s20.2.2.2 2) p1 8 7).bind fun r28 =>
           (gQld (gBm s20.2.2.2 2) r28 s4.2.1).bind fun r29 =>
           (gIld (gBm s20.2.2.2 2) r29 1 s20.2.1).bind fun z30 =>
           (F_L_tourOf s20.2.2.1 (z30 / (2 : Int32))).bind fun x31 =>
           if ¬ x31 = s4.2.1 then
            some (.inl ((0 : Int32), (s20.2.1 + (1 : Int32)), (s20.2.2.1, (gBm (gBm s20.2.2.2 2) 1))))
           else
            some (.inl ((1 : Int32), (s20.2.1 + (1 : Int32)), (s20.2.2.1, (gBm (gBm s20.2.2.2 2) 1))))) (v19.1, (0 : Int32), (v19.2.1, v19.2.2))) (fun k18 =>
       if ¬ x15 = z17 then
        k18 ((0 : Int32), (s4.2.2.1, (gBm s4.2.2.2 1)))
       else
        (F_L_length s4.2.2.1 s4.2.1).bind fun x32 =>
        (gFr (gBm (gBm s4.2.2.2 1) 1) p1 8 7).bind fun r33 =>
        (gQld (gBm (gBm s4.2.2.2 1) 1) r33 s4.2.1).bind fun r34 =>
        (gLen (gBm (gBm s4.2.2.2 1) 1) r34).bind fun z35 =>
        if ¬ x32 = z35 then
         k18 ((0 : Int32), (s4.2.2.1, (gBm (gBm s4.2.2.2 1) 1)))
        else
         (F_L_loadOf s4.2.2.1 s4.2.1).bind fun x36 =>
         (F_X8_load (gBm (gBm (gBm s4.2.2.2 1) 1) 1) p1 s4.2.1).bind fun y37 =>
         if ¬ x36 = y37 then
          k18 ((0 : Int32), (s4.2.2.1, (gBm (gBm (gBm s4.2.2.2 1) 1) 1)))
         else
          (F_L_loadOf s4.2.2.1 s4.2.1).bind fun x38 =>
          (gFi (gBm (gBm (gBm (gBm s4.2.2.2 1) 1) 1) 1) p1 8 1).bind fun z39 =>
          if z39 < x38 then
           k18 ((0 : Int32), (s4.2.2.1, (gBm (gBm (gBm (gBm s4.2.2.2 1) 1) 1) 1)))
          else
           (F_L_tourCost s4.2.2.1 s4.2.1).bind fun x40 =>
           (F_X8_price_ (gBm (gBm (gBm (gBm (gBm s4.2.2.2 1) 1) 1) 1) 1) p1 s4.2.1).bind fun y41 =>
           if ¬ x40 = y41.1 then
            k18 ((0 : Int32), (s4.2.2.1, y41.2))
           else
            (gFr y41.2 p1 8 7).bind fun r42 =>
            (gQld y41.2 r42 s4.2.1).bind fun r43 =>
            (gLen y41.2 r43).bind fun z44 =>
            (F_L_arcAt s4.2.2.1 s4.2.1 z44).bind fun x45 =>
            if ¬ x45 = (-2000000100 : Int32) then
             k18 ((0 : Int32), (s4.2.2.1, (gBm y41.2 2)))
            else
             k18 ((1 : Int32), (s4.2.2.1, (gBm y41.2 2)))))) (v3.1, (0 : Int32), (v3.2.1, v3.2.2))) (fun k2 =>
  if ¬ (F_X7_nodeCount s.1) = z1 then
   k2 ((0 : Int32), (s.1, s.2))
  else
   (gFr s.2 p1 8 3).bind fun r46 =>
   (gLen s.2 r46).bind fun z47 =>
   if ¬ (F_X7_edgeCount s.1) = z47 then
    k2 ((0 : Int32), (s.1, s.2))
   else
    (gFr s.2 p1 8 5).bind fun r48 =>
    (gLen s.2 r48).bind fun z49 =>
    if ¬ (F_X7_depotCount s.1) = z49 then
     k2 ((0 : Int32), (s.1, s.2))
    else
     (gFr s.2 p1 8 7).bind fun r50 =>
     (gLen s.2 r50).bind fun z51 =>
     if ¬ (F_X7_tourCount s.1) = z51 then
      k2 ((0 : Int32), (s.1, s.2))
     else
      (F_X7_totalCost s.1).bind fun x52 =>
      (F_X8_total s.2 p1).bind fun y53 =>
      if ¬ x52 = y53.1 then
       k2 ((0 : Int32), (s.1, y53.2))
      else
       (F_X7_unserved s.1).bind fun x54 =>
       (F_X8_open y53.2 p1).bind fun y55 =>
       if ¬ x54 = y55.1 then
        k2 ((0 : Int32), (s.1, y55.2))
       else
        (F_X7_checksum s.1).bind fun x56 =>
        (F_X8_sum y55.2 p1).bind fun y57 =>
        if ¬ (lg_cmp x56 y57.1) = 0 then
         k2 ((0 : Int32), (s.1, y57.2))
        else
         k2 ((1 : Int32), (s.1, y57.2)))
set_option maxHeartbeats 4000000 in
set_option maxRecDepth 100000 in
theorem ok_L_agrees (dX : Nat) (hX : 40 ≤ dX) (d : Nat) (hd : 12 ≤ d) (s : gST) (p1 : gRF) : ∀ z, F_L_agrees s p1 = some z → gEx dX d 73 [.inr (.inr (some (.inr 0))), .inr (.inr p1)] s (some (.inl z.1)) z.2 := by
  obtain ⟨d, rfl⟩ : ∃ e, d = e + 1 := ⟨d - 1, by omega⟩
  intro z hz
  refine ⟨rfl, ?_⟩
  refine (?_ : GSim (gEx dX d) (Ex dX) gmi_L_agrees (fun o1 h1 => o1 = _ ∧ h1 = _) (F_L_agrees s p1) (fun t => t = z) 0 [some (.inr (.inr (some (.inr 0)))), some (.inr (.inr p1)), none, none, none] [] s) z hz rfl
  clear hz
  unfold F_L_agrees
  refine gS rfl rfl ?_
  refine gXt (n := 0) (st' := [.inl (F_X7_nodeCount s.1)]) (s' := (s.1, s.2)) rfl rfl rfl rfl rfl rfl (ok_X7_nodeCount dX (by omega) s.1) rfl rfl ?_
  refine gS rfl rfl ?_
  refine gO rfl rfl (fun z1 => ?_)
  refine gJn 86 (fun (v3 : Int32 × gST) => [some (.inr (.inr (some (.inr 0)))), some (.inr (.inr p1)), none, none, none]) (fun (v3 : Int32 × gST) => [.inl v3.1]) (fun (v3 : Int32 × gST) => (v3.2.1, v3.2.2)) (fun v3 => ?_) (fun k2 hk2 => ?_)
  · refine gS (lv' := [some (.inr (.inr (some (.inr 0)))), some (.inr (.inr p1)), some (.inl v3.1), none, none]) rfl rfl ?_
    refine gS rfl rfl ?_
    refine gS (lv' := [some (.inr (.inr (some (.inr 0)))), some (.inr (.inr p1)), some (.inl v3.1), some (.inl (0 : Int32)), none]) rfl rfl ?_
    refine gL (pc := 89) (lv := fun (s4 : Int32 × Int32 × gST) => [some (.inr (.inr (some (.inr 0)))), some (.inr (.inr p1)), some (.inl s4.1), some (.inl s4.2.1), none]) (s := fun (s4 : Int32 × Int32 × gST) => (s4.2.2.1, s4.2.2.2)) (fun s4 => ?_) (v3.1, (0 : Int32), (v3.2.1, v3.2.2))
    refine gS rfl rfl ?_
    refine gS rfl rfl ?_
    refine gO rfl rfl (fun r5 => ?_)
    refine gO rfl rfl (fun z6 => ?_)
    refine gJn 267 (fun (v8 : Unit) => [some (.inr (.inr (some (.inr 0)))), some (.inr (.inr p1)), some (.inl s4.1), none, none]) (fun (v8 : Unit) => []) (fun (v8 : Unit) => (s4.2.2.1, s4.2.2.2)) (fun v8 => ?_) (fun k7 hk7 => ?_)
    · refine gS rfl rfl ?_
      refine gB rfl rfl ?_ ?_
      · refine gS rfl rfl ?_
        exact gRt rfl rfl (fun hg => by cases hg; exact ⟨rfl, rfl⟩)
      · refine gS rfl rfl ?_
        refine gS rfl rfl ?_
        refine gO rfl rfl (fun r9 => ?_)
        refine gO rfl rfl (fun z10 => ?_)
        refine gX (n := 1) (st' := fun x11 => [.inl x11]) (s' := fun x11 => (s4.2.2.1, (gBm s4.2.2.2 1))) rfl rfl rfl rfl rfl rfl (ok_L_length dX (by omega) s4.2.2.1 z10) (fun z => rfl) (fun z => rfl) (fun x11 => ?_)
        refine gS rfl rfl ?_
        refine gB rfl rfl ?_ ?_
        · refine gS rfl rfl ?_
          exact gRt rfl rfl (fun hg => by cases hg; exact ⟨rfl, rfl⟩)
        · refine gS rfl rfl ?_
          refine gS rfl rfl ?_
          refine gO rfl rfl (fun r12 => ?_)
          refine gO rfl rfl (fun z13 => ?_)
          refine gX (n := 1) (st' := fun x14 => [.inl x14]) (s' := fun x14 => (s4.2.2.1, (gBm (gBm s4.2.2.2 1) 1))) rfl rfl rfl rfl rfl rfl (ok_L_tourOf dX (by omega) s4.2.2.1 z13) (fun z => rfl) (fun z => rfl) (fun x14 => ?_)
          refine gS rfl rfl ?_
          refine gB rfl rfl ?_ ?_
          · refine gS rfl rfl ?_
            exact gRt rfl rfl (fun hg => by cases hg; exact ⟨rfl, rfl⟩)
          · refine gS rfl rfl ?_
            refine gS rfl rfl ?_
            exact gRt rfl rfl (fun hg => by cases hg; exact ⟨rfl, rfl⟩)
    · refine gB rfl rfl ?_ ?_
      · refine gMk [true, true, true, false, true] (lv' := [some (.inr (.inr (some (.inr 0)))), some (.inr (.inr p1)), some (.inl s4.1), none, none]) rfl rfl ?_
        have h3 := hk7 ()
        exact h3
      · refine gS rfl rfl ?_
        refine gB rfl rfl ?_ ?_
        · refine gMk [true, true, true, false, true] (lv' := [some (.inr (.inr (some (.inr 0)))), some (.inr (.inr p1)), some (.inl s4.1), none, none]) rfl rfl ?_
          have h3 := hk7 ()
          exact h3
        · refine gS rfl rfl ?_
          refine gS rfl rfl ?_
          refine gX (n := 1) (st' := fun x15 => [.inl x15]) (s' := fun x15 => (s4.2.2.1, (gBm s4.2.2.2 1))) rfl rfl rfl rfl rfl rfl (ok_L_depotOf dX (by omega) s4.2.2.1 s4.2.1) (fun z => rfl) (fun z => rfl) (fun x15 => ?_)
          refine gS rfl rfl ?_
          refine gO rfl rfl (fun r16 => ?_)
          refine gS rfl rfl ?_
          refine gO rfl rfl (fun z17 => ?_)
          refine gJn 191 (fun (v19 : Int32 × gST) => [some (.inr (.inr (some (.inr 0)))), some (.inr (.inr p1)), none, some (.inl s4.2.1), none]) (fun (v19 : Int32 × gST) => [.inl v19.1]) (fun (v19 : Int32 × gST) => (v19.2.1, v19.2.2)) (fun v19 => ?_) (fun k18 hk18 => ?_)
          · refine gS (lv' := [some (.inr (.inr (some (.inr 0)))), some (.inr (.inr p1)), some (.inl v19.1), some (.inl s4.2.1), none]) rfl rfl ?_
            refine gS rfl rfl ?_
            refine gS (lv' := [some (.inr (.inr (some (.inr 0)))), some (.inr (.inr p1)), some (.inl v19.1), some (.inl s4.2.1), some (.inl (0 : Int32))]) rfl rfl ?_
            refine gL (pc := 195) (lv := fun (s20 : Int32 × Int32 × gST) => [some (.inr (.inr (some (.inr 0)))), some (.inr (.inr p1)), some (.inl s20.1), some (.inl s4.2.1), some (.inl s20.2.1)]) (s := fun (s20 : Int32 × Int32 × gST) => (s20.2.2.1, s20.2.2.2)) (fun s20 => ?_) (v19.1, (0 : Int32), (v19.2.1, v19.2.2))
            refine gS rfl rfl ?_
            refine gS rfl rfl ?_
            refine gO rfl rfl (fun r21 => ?_)
            refine gS rfl rfl ?_
            refine gO rfl rfl (fun r22 => ?_)
            refine gO rfl rfl (fun z23 => ?_)
            refine gB rfl rfl ?_ ?_
            · refine gS (lv' := [some (.inr (.inr (some (.inr 0)))), some (.inr (.inr p1)), some (.inl s20.1), some (.inl (s4.2.1 + (1 : Int32))), some (.inl s20.2.1)]) rfl rfl ?_
              refine gS rfl rfl ?_
              refine gMk [true, true, true, true, false] (lv' := [some (.inr (.inr (some (.inr 0)))), some (.inr (.inr p1)), some (.inl s20.1), some (.inl (s4.2.1 + (1 : Int32))), none]) rfl rfl ?_
              refine gUp ?_
              exact gJ (fun h2 => h2)
            · refine gS rfl rfl ?_
              refine gB rfl rfl ?_ ?_
              · refine gS (lv' := [some (.inr (.inr (some (.inr 0)))), some (.inr (.inr p1)), some (.inl s20.1), some (.inl (s4.2.1 + (1 : Int32))), some (.inl s20.2.1)]) rfl rfl ?_
                refine gS rfl rfl ?_
                refine gMk [true, true, true, true, false] (lv' := [some (.inr (.inr (some (.inr 0)))), some (.inr (.inr p1)), some (.inl s20.1), some (.inl (s4.2.1 + (1 : Int32))), none]) rfl rfl ?_
                refine gUp ?_
                exact gJ (fun h2 => h2)
              · refine gS rfl rfl ?_
                refine gS rfl rfl ?_
                refine gS rfl rfl ?_
                refine gX (n := 2) (st' := fun x24 => [.inl x24]) (s' := fun x24 => (s20.2.2.1, (gBm s20.2.2.2 2))) rfl rfl rfl rfl rfl rfl (ok_L_arcAt dX (by omega) s20.2.2.1 s4.2.1 s20.2.1) (fun z => rfl) (fun z => rfl) (fun x24 => ?_)
                refine gS rfl rfl ?_
                refine gO rfl rfl (fun r25 => ?_)
                refine gS rfl rfl ?_
                refine gO rfl rfl (fun r26 => ?_)
                refine gS rfl rfl ?_
                refine gO rfl rfl (fun z27 => ?_)
                refine gB rfl rfl ?_ ?_
                · refine gS rfl rfl ?_
                  refine gS (lv' := [some (.inr (.inr (some (.inr 0)))), some (.inr (.inr p1)), some (.inl (0 : Int32)), some (.inl s4.2.1), some (.inl s20.2.1)]) rfl rfl ?_
                  refine gS (lv' := [some (.inr (.inr (some (.inr 0)))), some (.inr (.inr p1)), some (.inl (0 : Int32)), some (.inl s4.2.1), some (.inl (s20.2.1 + (1 : Int32)))]) rfl rfl ?_
                  refine gS rfl rfl ?_
                  exact gJ (fun h2 => h2)
                · refine gS rfl rfl ?_
                  refine gS rfl rfl ?_
                  refine gO rfl rfl (fun r28 => ?_)
                  refine gS rfl rfl ?_
                  refine gO rfl rfl (fun r29 => ?_)
                  refine gS rfl rfl ?_
                  refine gO rfl rfl (fun z30 => ?_)
                  refine gS rfl rfl ?_
                  refine gS rfl rfl ?_
                  refine gX (n := 1) (st' := fun x31 => [.inl x31]) (s' := fun x31 => (s20.2.2.1, (gBm (gBm s20.2.2.2 2) 1))) rfl rfl rfl rfl rfl rfl (ok_L_tourOf dX (by omega) s20.2.2.1 (z30 / (2 : Int32))) (fun z => rfl) (fun z => rfl) (fun x31 => ?_)
                  refine gS rfl rfl ?_
                  refine gB rfl rfl ?_ ?_
                  · refine gS rfl rfl ?_
                    refine gS (lv' := [some (.inr (.inr (some (.inr 0)))), some (.inr (.inr p1)), some (.inl (0 : Int32)), some (.inl s4.2.1), some (.inl s20.2.1)]) rfl rfl ?_
                    refine gS (lv' := [some (.inr (.inr (some (.inr 0)))), some (.inr (.inr p1)), some (.inl (0 : Int32)), some (.inl s4.2.1), some (.inl (s20.2.1 + (1 : Int32)))]) rfl rfl ?_
                    refine gS rfl rfl ?_
                    exact gJ (fun h2 => h2)
                  · refine gS rfl rfl ?_
                    refine gS rfl rfl ?_
                    refine gS (lv' := [some (.inr (.inr (some (.inr 0)))), some (.inr (.inr p1)), some (.inl (1 : Int32)), some (.inl s4.2.1), some (.inl s20.2.1)]) rfl rfl ?_
                    refine gS (lv' := [some (.inr (.inr (some (.inr 0)))), some (.inr (.inr p1)), some (.inl (1 : Int32)), some (.inl s4.2.1), some (.inl (s20.2.1 + (1 : Int32)))]) rfl rfl ?_
                    refine gS rfl rfl ?_
                    exact gJ (fun h2 => h2)
          · refine gB rfl rfl ?_ ?_
            · refine gS rfl rfl ?_
              refine gMk [true, true, false, true, true] (lv' := [some (.inr (.inr (some (.inr 0)))), some (.inr (.inr p1)), none, some (.inl s4.2.1), none]) rfl rfl ?_
              have h3 := hk18 ((0 : Int32), (s4.2.2.1, (gBm s4.2.2.2 1)))
              exact h3
            · refine gS rfl rfl ?_
              refine gS rfl rfl ?_
              refine gX (n := 1) (st' := fun x32 => [.inl x32]) (s' := fun x32 => (s4.2.2.1, (gBm (gBm s4.2.2.2 1) 1))) rfl rfl rfl rfl rfl rfl (ok_L_length dX (by omega) s4.2.2.1 s4.2.1) (fun z => rfl) (fun z => rfl) (fun x32 => ?_)
              refine gS rfl rfl ?_
              refine gO rfl rfl (fun r33 => ?_)
              refine gS rfl rfl ?_
              refine gO rfl rfl (fun r34 => ?_)
              refine gO rfl rfl (fun z35 => ?_)
              refine gB rfl rfl ?_ ?_
              · refine gS rfl rfl ?_
                refine gMk [true, true, false, true, true] (lv' := [some (.inr (.inr (some (.inr 0)))), some (.inr (.inr p1)), none, some (.inl s4.2.1), none]) rfl rfl ?_
                have h3 := hk18 ((0 : Int32), (s4.2.2.1, (gBm (gBm s4.2.2.2 1) 1)))
                exact h3
              · refine gS rfl rfl ?_
                refine gS rfl rfl ?_
                refine gX (n := 1) (st' := fun x36 => [.inl x36]) (s' := fun x36 => (s4.2.2.1, (gBm (gBm (gBm s4.2.2.2 1) 1) 1))) rfl rfl rfl rfl rfl rfl (ok_L_loadOf dX (by omega) s4.2.2.1 s4.2.1) (fun z => rfl) (fun z => rfl) (fun x36 => ?_)
                refine gS rfl rfl ?_
                refine gS rfl rfl ?_
                refine gC (st' := fun y37 => [.inl y37, .inl x36]) rfl rfl (fun _ hz => rv_recv (ci := 8) (by omega) (rv_X8_load hz)) rfl (ok_X8_load dX hX d (by omega) s4.2.2.1 (gBm (gBm (gBm s4.2.2.2 1) 1) 1) p1 s4.2.1) (fun z => rfl) (fun y37 => ?_)
                refine gB rfl rfl ?_ ?_
                · refine gS rfl rfl ?_
                  refine gMk [true, true, false, true, true] (lv' := [some (.inr (.inr (some (.inr 0)))), some (.inr (.inr p1)), none, some (.inl s4.2.1), none]) rfl rfl ?_
                  have h3 := hk18 ((0 : Int32), (s4.2.2.1, (gBm (gBm (gBm s4.2.2.2 1) 1) 1)))
                  exact h3
                · refine gS rfl rfl ?_
                  refine gS rfl rfl ?_
                  refine gX (n := 1) (st' := fun x38 => [.inl x38]) (s' := fun x38 => (s4.2.2.1, (gBm (gBm (gBm (gBm s4.2.2.2 1) 1) 1) 1))) rfl rfl rfl rfl rfl rfl (ok_L_loadOf dX (by omega) s4.2.2.1 s4.2.1) (fun z => rfl) (fun z => rfl) (fun x38 => ?_)
                  refine gS rfl rfl ?_
                  refine gO rfl rfl (fun z39 => ?_)
                  refine gB rfl rfl ?_ ?_
                  · refine gS rfl rfl ?_
                    refine gMk [true, true, false, true, true] (lv' := [some (.inr (.inr (some (.inr 0)))), some (.inr (.inr p1)), none, some (.inl s4.2.1), none]) rfl rfl ?_
                    have h3 := hk18 ((0 : Int32), (s4.2.2.1, (gBm (gBm (gBm (gBm s4.2.2.2 1) 1) 1) 1)))
                    exact h3
                  · refine gS rfl rfl ?_
                    refine gS rfl rfl ?_
                    refine gX (n := 1) (st' := fun x40 => [.inl x40]) (s' := fun x40 => (s4.2.2.1, (gBm (gBm (gBm (gBm (gBm s4.2.2.2 1) 1) 1) 1) 1))) rfl rfl rfl rfl rfl rfl (ok_L_tourCost dX (by omega) s4.2.2.1 s4.2.1) (fun z => rfl) (fun z => rfl) (fun x40 => ?_)
                    refine gS rfl rfl ?_
                    refine gS rfl rfl ?_
                    refine gC (st' := fun y41 => [.inl y41.1, .inl x40]) rfl rfl (fun _ hz => rv_recv (ci := 8) (by omega) (rv_X8_price_ hz)) rfl (ok_X8_price_ dX hX d (by omega) s4.2.2.1 (gBm (gBm (gBm (gBm (gBm s4.2.2.2 1) 1) 1) 1) 1) p1 s4.2.1) (fun z => rfl) (fun y41 => ?_)
                    refine gB rfl rfl ?_ ?_
                    · refine gS rfl rfl ?_
                      refine gMk [true, true, false, true, true] (lv' := [some (.inr (.inr (some (.inr 0)))), some (.inr (.inr p1)), none, some (.inl s4.2.1), none]) rfl rfl ?_
                      have h3 := hk18 ((0 : Int32), (s4.2.2.1, y41.2))
                      exact h3
                    · refine gS rfl rfl ?_
                      refine gS rfl rfl ?_
                      refine gS rfl rfl ?_
                      refine gO rfl rfl (fun r42 => ?_)
                      refine gS rfl rfl ?_
                      refine gO rfl rfl (fun r43 => ?_)
                      refine gO rfl rfl (fun z44 => ?_)
                      refine gX (n := 2) (st' := fun x45 => [.inl x45]) (s' := fun x45 => (s4.2.2.1, (gBm y41.2 2))) rfl rfl rfl rfl rfl rfl (ok_L_arcAt dX (by omega) s4.2.2.1 s4.2.1 z44) (fun z => rfl) (fun z => rfl) (fun x45 => ?_)
                      refine gS rfl rfl ?_
                      refine gB rfl rfl ?_ ?_
                      · refine gS rfl rfl ?_
                        refine gMk [true, true, false, true, true] (lv' := [some (.inr (.inr (some (.inr 0)))), some (.inr (.inr p1)), none, some (.inl s4.2.1), none]) rfl rfl ?_
                        have h3 := hk18 ((0 : Int32), (s4.2.2.1, (gBm y41.2 2)))
                        exact h3
                      · refine gS rfl rfl ?_
                        refine gS rfl rfl ?_
                        refine gMk [true, true, false, true, true] (lv' := [some (.inr (.inr (some (.inr 0)))), some (.inr (.inr p1)), none, some (.inl s4.2.1), none]) rfl rfl ?_
                        have h3 := hk18 ((1 : Int32), (s4.2.2.1, (gBm y41.2 2)))
                        exact h3
  · refine gB rfl rfl ?_ ?_
    · refine gS rfl rfl ?_
      have h3 := hk2 ((0 : Int32), (s.1, s.2))
      exact h3
    · refine gS rfl rfl ?_
      refine gXt (n := 0) (st' := [.inl (F_X7_edgeCount s.1)]) (s' := (s.1, s.2)) rfl rfl rfl rfl rfl rfl (ok_X7_edgeCount dX (by omega) s.1) rfl rfl ?_
      refine gS rfl rfl ?_
      refine gO rfl rfl (fun r46 => ?_)
      refine gO rfl rfl (fun z47 => ?_)
      refine gB rfl rfl ?_ ?_
      · refine gS rfl rfl ?_
        have h3 := hk2 ((0 : Int32), (s.1, s.2))
        exact h3
      · refine gS rfl rfl ?_
        refine gXt (n := 0) (st' := [.inl (F_X7_depotCount s.1)]) (s' := (s.1, s.2)) rfl rfl rfl rfl rfl rfl (ok_X7_depotCount dX (by omega) s.1) rfl rfl ?_
        refine gS rfl rfl ?_
        refine gO rfl rfl (fun r48 => ?_)
        refine gO rfl rfl (fun z49 => ?_)
        refine gB rfl rfl ?_ ?_
        · refine gS rfl rfl ?_
          have h3 := hk2 ((0 : Int32), (s.1, s.2))
          exact h3
        · refine gS rfl rfl ?_
          refine gXt (n := 0) (st' := [.inl (F_X7_tourCount s.1)]) (s' := (s.1, s.2)) rfl rfl rfl rfl rfl rfl (ok_X7_tourCount dX (by omega) s.1) rfl rfl ?_
          refine gS rfl rfl ?_
          refine gO rfl rfl (fun r50 => ?_)
          refine gO rfl rfl (fun z51 => ?_)
          refine gB rfl rfl ?_ ?_
          · refine gS rfl rfl ?_
            have h3 := hk2 ((0 : Int32), (s.1, s.2))
            exact h3
          · refine gS rfl rfl ?_
            refine gX (n := 0) (st' := fun x52 => [.inl x52]) (s' := fun x52 => (s.1, s.2)) rfl rfl rfl rfl rfl rfl (ok_X7_totalCost dX (by omega) s.1) (fun z => rfl) (fun z => rfl) (fun x52 => ?_)
            refine gS rfl rfl ?_
            refine gC (st' := fun y53 => [.inl y53.1, .inl x52]) rfl rfl (fun _ hz => rv_recv (ci := 8) (by omega) (rv_X8_total hz)) rfl (ok_X8_total dX hX d (by omega) s.1 s.2 p1) (fun z => rfl) (fun y53 => ?_)
            refine gB rfl rfl ?_ ?_
            · refine gS rfl rfl ?_
              have h3 := hk2 ((0 : Int32), (s.1, y53.2))
              exact h3
            · refine gS rfl rfl ?_
              refine gX (n := 0) (st' := fun x54 => [.inl x54]) (s' := fun x54 => (s.1, y53.2)) rfl rfl rfl rfl rfl rfl (ok_X7_unserved dX (by omega) s.1) (fun z => rfl) (fun z => rfl) (fun x54 => ?_)
              refine gS rfl rfl ?_
              refine gC (st' := fun y55 => [.inl y55.1, .inl x54]) rfl rfl (fun _ hz => rv_recv (ci := 8) (by omega) (rv_X8_open hz)) rfl (ok_X8_open dX hX d (by omega) s.1 y53.2 p1) (fun z => rfl) (fun y55 => ?_)
              refine gB rfl rfl ?_ ?_
              · refine gS rfl rfl ?_
                have h3 := hk2 ((0 : Int32), (s.1, y55.2))
                exact h3
              · refine gS rfl rfl ?_
                refine gX (n := 0) (st' := fun x56 => [.inr (.inl x56)]) (s' := fun x56 => (s.1, y55.2)) rfl rfl rfl rfl rfl rfl (ok_X7_checksum dX (by omega) s.1) (fun z => rfl) (fun z => rfl) (fun x56 => ?_)
                refine gS rfl rfl ?_
                refine gC (st' := fun y57 => [.inr (.inl y57.1), .inr (.inl x56)]) rfl rfl (fun _ hz => rv_recv (ci := 8) (by omega) (rv_X8_sum hz)) rfl (ok_X8_sum dX hX d (by omega) s.1 y55.2 p1) (fun z => rfl) (fun y57 => ?_)
                refine gS rfl rfl ?_
                refine gB rfl rfl ?_ ?_
                · refine gS rfl rfl ?_
                  have h3 := hk2 ((0 : Int32), (s.1, y57.2))
                  exact h3
                · refine gS rfl rfl ?_
                  refine gS rfl rfl ?_
                  have h3 := hk2 ((1 : Int32), (s.1, y57.2))
                  exact h3
