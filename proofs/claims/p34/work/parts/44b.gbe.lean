noncomputable def F_X8_best (D : gDS) (o : gRF) (p0 : Int32) : Option (gRF × gDS) :=
 (gRv D o 8).bind fun _ =>
 (gFr D o 8 7).bind fun r1 =>
 (gLen D r1).bind fun z2 =>
 loop (fun (s3 : gRF × Int32 × gDS) =>
  if s3.2.1 < 0 then
   some (.inr ((s3.1, s3.2.2)))
  else
   (gFr s3.2.2 o 8 7).bind fun r4 =>
   (gQld s3.2.2 r4 s3.2.1).bind fun r5 =>
   (gLen s3.2.2 r5).bind fun z6 =>
   loop (fun (s7 : gRF × Int32 × gDS) =>
    if s7.2.1 < 0 then
     some (.inr (.inl (s7.1, (s3.2.1 - (1 : Int32)), s7.2.2)))
    else
     loop (fun (s8 : gRF × Int32 × gDS) =>
      if s8.2.1 < ((2 : Int32) * p0) then
       some (.inr (.inl (s8.1, (s7.2.1 - (1 : Int32)), s8.2.2)))
      else
       (F_X8_fits s8.2.2 o s3.2.1 s7.2.1 s8.2.1).bind fun y9 =>
       if ¬ y9.1 = 0 then
        (gFr y9.2 o 8 6).bind fun r10 =>
        (gIld y9.2 r10 1 s3.2.1).bind fun z11 =>
        (gFr y9.2 o 8 7).bind fun r12 =>
        (gQld y9.2 r12 s3.2.1).bind fun r13 =>
        (F_L_inserted y9.2 r13 s7.2.1 s8.2.1).bind fun y14 =>
        (F_X8_price y14.2 o z11 y14.1).bind fun y15 =>
        (F_X8_price_ y15.2 o s3.2.1).bind fun y16 =>
        if s8.1 = none then
         (gIst (gAI y16.2 1 4) (gTop y16.2) 1 (0 : Int32) (y15.1 - y16.1)).bind fun D17 =>
         (gIst D17 (gTop y16.2) 1 (1 : Int32) s3.2.1).bind fun D18 =>
         (gIst D18 (gTop y16.2) 1 (2 : Int32) s7.2.1).bind fun D19 =>
         (gIst D19 (gTop y16.2) 1 (3 : Int32) s8.2.1).bind fun D20 =>
         some (.inl ((gTop y16.2), (s8.2.1 - (1 : Int32)), D20))
        else
         (gIld y16.2 s8.1 1 (0 : Int32)).bind fun z21 =>
         if z21 < (y15.1 - y16.1) then
          some (.inl (s8.1, (s8.2.1 - (1 : Int32)), y16.2))
         else
          (gIst (gAI y16.2 1 4) (gTop y16.2) 1 (0 : Int32) (y15.1 - y16.1)).bind fun D22 =>
          (gIst D22 (gTop y16.2) 1 (1 : Int32) s3.2.1).bind fun D23 =>
          (gIst D23 (gTop y16.2) 1 (2 : Int32) s7.2.1).bind fun D24 =>
          (gIst D24 (gTop y16.2) 1 (3 : Int32) s8.2.1).bind fun D25 =>
          some (.inl ((gTop y16.2), (s8.2.1 - (1 : Int32)), D25))
       else
        some (.inl (s8.1, (s8.2.1 - (1 : Int32)), y9.2))) (s7.1, (((2 : Int32) * p0) + (1 : Int32)), s7.2.2)) (s3.1, z6, s3.2.2)) (none, (z2 - (1 : Int32)), D)
theorem rv_X8_best {D : gDS} {o : gRF} {p0 : Int32} {z} (hz : F_X8_best D o p0 = some z) : gRv D o 8 = some () := by
  unfold F_X8_best at hz
  exact rv_bind hz
set_option maxHeartbeats 4000000 in
set_option maxRecDepth 100000 in
theorem ok_X8_best (dX : Nat) (hX : 40 ≤ dX) (d : Nat) (hd : 10 ≤ d) (h : PH) (D : gDS) (o : gRF) (p0 : Int32) : ∀ z, F_X8_best D o p0 = some z → gEx dX d 51 [.inr (.inr o), .inl p0] (h, D) (some (.inr (.inr z.1))) (h, z.2) := by
  obtain ⟨d, rfl⟩ : ∃ e, d = e + 1 := ⟨d - 1, by omega⟩
  intro z hz
  refine ⟨rfl, ?_⟩
  refine (?_ : GSim (gEx dX d) (Ex dX) gmi_X8_best (fun o1 h1 => o1 = _ ∧ h1 = _) (F_X8_best D o p0) (fun t => t = z) 0 [some (.inr (.inr o)), some (.inl p0), none, none, none, none, none] [] (h, D)) z hz rfl
  clear hz
  unfold F_X8_best
  refine gRc ?_
  refine gS rfl rfl ?_
  refine gS (lv' := [some (.inr (.inr o)), some (.inl p0), some (.inr (.inr none)), none, none, none, none]) rfl rfl ?_
  refine gS rfl rfl ?_
  refine gO rfl rfl (fun r1 => ?_)
  refine gO rfl rfl (fun z2 => ?_)
  refine gS rfl rfl ?_
  refine gS rfl rfl ?_
  refine gS (lv' := [some (.inr (.inr o)), some (.inl p0), some (.inr (.inr none)), some (.inl (z2 - (1 : Int32))), none, none, none]) rfl rfl ?_
  refine gL (pc := 10) (lv := fun (s3 : gRF × Int32 × gDS) => [some (.inr (.inr o)), some (.inl p0), some (.inr (.inr s3.1)), some (.inl s3.2.1), none, none, none]) (s := fun (s3 : gRF × Int32 × gDS) => (h, s3.2.2)) (fun s3 => ?_) (none, (z2 - (1 : Int32)), D)
  refine gS rfl rfl ?_
  refine gB rfl rfl ?_ ?_
  · refine gS rfl rfl ?_
    exact gRt rfl rfl (fun hg => by cases hg; exact ⟨rfl, rfl⟩)
  · refine gS rfl rfl ?_
    refine gO rfl rfl (fun r4 => ?_)
    refine gS rfl rfl ?_
    refine gO rfl rfl (fun r5 => ?_)
    refine gO rfl rfl (fun z6 => ?_)
    refine gS (lv' := [some (.inr (.inr o)), some (.inl p0), some (.inr (.inr s3.1)), some (.inl s3.2.1), some (.inl z6), none, none]) rfl rfl ?_
    refine gL (pc := 23) (lv := fun (s7 : gRF × Int32 × gDS) => [some (.inr (.inr o)), some (.inl p0), some (.inr (.inr s7.1)), some (.inl s3.2.1), some (.inl s7.2.1), none, none]) (s := fun (s7 : gRF × Int32 × gDS) => (h, s7.2.2)) (fun s7 => ?_) (s3.1, z6, s3.2.2)
    refine gS rfl rfl ?_
    refine gB rfl rfl ?_ ?_
    · refine gS (lv' := [some (.inr (.inr o)), some (.inl p0), some (.inr (.inr s7.1)), some (.inl (s3.2.1 - (1 : Int32))), some (.inl s7.2.1), none, none]) rfl rfl ?_
      refine gS rfl rfl ?_
      refine gMk [true, true, true, true, false, true, true] (lv' := [some (.inr (.inr o)), some (.inl p0), some (.inr (.inr s7.1)), some (.inl (s3.2.1 - (1 : Int32))), none, none, none]) rfl rfl ?_
      refine gUp ?_
      exact gJ (fun h2 => h2)
    · refine gS rfl rfl ?_
      refine gS rfl rfl ?_
      refine gS rfl rfl ?_
      refine gS rfl rfl ?_
      refine gS rfl rfl ?_
      refine gS (lv' := [some (.inr (.inr o)), some (.inl p0), some (.inr (.inr s7.1)), some (.inl s3.2.1), some (.inl s7.2.1), some (.inl (((2 : Int32) * p0) + (1 : Int32))), none]) rfl rfl ?_
      refine gL (pc := 35) (lv := fun (s8 : gRF × Int32 × gDS) => [some (.inr (.inr o)), some (.inl p0), some (.inr (.inr s8.1)), some (.inl s3.2.1), some (.inl s7.2.1), some (.inl s8.2.1), none]) (s := fun (s8 : gRF × Int32 × gDS) => (h, s8.2.2)) (fun s8 => ?_) (s7.1, (((2 : Int32) * p0) + (1 : Int32)), s7.2.2)
      refine gS rfl rfl ?_
      refine gS rfl rfl ?_
      refine gS rfl rfl ?_
      refine gS rfl rfl ?_
      refine gB rfl rfl ?_ ?_
      · refine gS (lv' := [some (.inr (.inr o)), some (.inl p0), some (.inr (.inr s8.1)), some (.inl s3.2.1), some (.inl (s7.2.1 - (1 : Int32))), some (.inl s8.2.1), none]) rfl rfl ?_
        refine gS rfl rfl ?_
        refine gMk [true, true, true, true, true, false, true] (lv' := [some (.inr (.inr o)), some (.inl p0), some (.inr (.inr s8.1)), some (.inl s3.2.1), some (.inl (s7.2.1 - (1 : Int32))), none, none]) rfl rfl ?_
        refine gUp ?_
        exact gJ (fun h2 => h2)
      · refine gS rfl rfl ?_
        refine gS rfl rfl ?_
        refine gS rfl rfl ?_
        refine gS rfl rfl ?_
        refine gC (st' := fun y9 => [.inl y9.1]) rfl rfl (fun _ hz => rv_recv (ci := 8) (by omega) (rv_X8_fits hz)) rfl (ok_X8_fits dX hX d (by omega) h s8.2.2 o s3.2.1 s7.2.1 s8.2.1) (fun z => rfl) (fun y9 => ?_)
        refine gB rfl rfl ?_ ?_
        · refine gS rfl rfl ?_
          refine gS rfl rfl ?_
          refine gO rfl rfl (fun r10 => ?_)
          refine gS rfl rfl ?_
          refine gO rfl rfl (fun z11 => ?_)
          refine gS rfl rfl ?_
          refine gO rfl rfl (fun r12 => ?_)
          refine gS rfl rfl ?_
          refine gO rfl rfl (fun r13 => ?_)
          refine gS rfl rfl ?_
          refine gS rfl rfl ?_
          refine gC (st' := fun y14 => [.inr (.inr y14.1), .inl z11, .inr (.inr o)]) rfl rfl (fun _ _ => rfl) rfl (ok_L_inserted dX hX d (by omega) h y9.2 r13 s7.2.1 s8.2.1) (fun z => rfl) (fun y14 => ?_)
          refine gC (st' := fun y15 => [.inl y15.1]) rfl rfl (fun _ hz => rv_recv (ci := 8) (by omega) (rv_X8_price hz)) rfl (ok_X8_price dX hX d (by omega) h y14.2 o z11 y14.1) (fun z => rfl) (fun y15 => ?_)
          refine gS rfl rfl ?_
          refine gS rfl rfl ?_
          refine gC (st' := fun y16 => [.inl y16.1, .inl y15.1]) rfl rfl (fun _ hz => rv_recv (ci := 8) (by omega) (rv_X8_price_ hz)) rfl (ok_X8_price_ dX hX d (by omega) h y15.2 o s3.2.1) (fun z => rfl) (fun y16 => ?_)
          refine gS rfl rfl ?_
          refine gS (lv' := [some (.inr (.inr o)), some (.inl p0), some (.inr (.inr s8.1)), some (.inl s3.2.1), some (.inl s7.2.1), some (.inl s8.2.1), some (.inl (y15.1 - y16.1))]) rfl rfl ?_
          refine gS rfl rfl ?_
          refine gB rfl rfl ?_ ?_
          · refine gS rfl rfl ?_
            refine gS (s' := (h, (gAI y16.2 1 4))) rfl rfl ?_
            refine gS rfl rfl ?_
            refine gS rfl rfl ?_
            refine gS rfl rfl ?_
            refine gO rfl rfl (fun D17 => ?_)
            refine gS rfl rfl ?_
            refine gS rfl rfl ?_
            refine gS rfl rfl ?_
            refine gO rfl rfl (fun D18 => ?_)
            refine gS rfl rfl ?_
            refine gS rfl rfl ?_
            refine gS rfl rfl ?_
            refine gO rfl rfl (fun D19 => ?_)
            refine gS rfl rfl ?_
            refine gS rfl rfl ?_
            refine gS rfl rfl ?_
            refine gO rfl rfl (fun D20 => ?_)
            refine gS (lv' := [some (.inr (.inr o)), some (.inl p0), some (.inr (.inr (gTop y16.2))), some (.inl s3.2.1), some (.inl s7.2.1), some (.inl s8.2.1), some (.inl (y15.1 - y16.1))]) rfl rfl ?_
            refine gS (lv' := [some (.inr (.inr o)), some (.inl p0), some (.inr (.inr (gTop y16.2))), some (.inl s3.2.1), some (.inl s7.2.1), some (.inl (s8.2.1 - (1 : Int32))), some (.inl (y15.1 - y16.1))]) rfl rfl ?_
            refine gS rfl rfl ?_
            refine gMk [true, true, true, true, true, true, false] (lv' := [some (.inr (.inr o)), some (.inl p0), some (.inr (.inr (gTop y16.2))), some (.inl s3.2.1), some (.inl s7.2.1), some (.inl (s8.2.1 - (1 : Int32))), none]) rfl rfl ?_
            exact gJ (fun h2 => h2)
          · refine gS rfl rfl ?_
            refine gS rfl rfl ?_
            refine gS rfl rfl ?_
            refine gO rfl rfl (fun z21 => ?_)
            refine gB rfl rfl ?_ ?_
            · refine gS (lv' := [some (.inr (.inr o)), some (.inl p0), some (.inr (.inr s8.1)), some (.inl s3.2.1), some (.inl s7.2.1), some (.inl (s8.2.1 - (1 : Int32))), some (.inl (y15.1 - y16.1))]) rfl rfl ?_
              refine gS rfl rfl ?_
              refine gMk [true, true, true, true, true, true, false] (lv' := [some (.inr (.inr o)), some (.inl p0), some (.inr (.inr s8.1)), some (.inl s3.2.1), some (.inl s7.2.1), some (.inl (s8.2.1 - (1 : Int32))), none]) rfl rfl ?_
              exact gJ (fun h2 => h2)
            · refine gS rfl rfl ?_
              refine gS (s' := (h, (gAI y16.2 1 4))) rfl rfl ?_
              refine gS rfl rfl ?_
              refine gS rfl rfl ?_
              refine gS rfl rfl ?_
              refine gO rfl rfl (fun D22 => ?_)
              refine gS rfl rfl ?_
              refine gS rfl rfl ?_
              refine gS rfl rfl ?_
              refine gO rfl rfl (fun D23 => ?_)
              refine gS rfl rfl ?_
              refine gS rfl rfl ?_
              refine gS rfl rfl ?_
              refine gO rfl rfl (fun D24 => ?_)
              refine gS rfl rfl ?_
              refine gS rfl rfl ?_
              refine gS rfl rfl ?_
              refine gO rfl rfl (fun D25 => ?_)
              refine gS (lv' := [some (.inr (.inr o)), some (.inl p0), some (.inr (.inr (gTop y16.2))), some (.inl s3.2.1), some (.inl s7.2.1), some (.inl s8.2.1), some (.inl (y15.1 - y16.1))]) rfl rfl ?_
              refine gS (lv' := [some (.inr (.inr o)), some (.inl p0), some (.inr (.inr (gTop y16.2))), some (.inl s3.2.1), some (.inl s7.2.1), some (.inl (s8.2.1 - (1 : Int32))), some (.inl (y15.1 - y16.1))]) rfl rfl ?_
              refine gS rfl rfl ?_
              refine gMk [true, true, true, true, true, true, false] (lv' := [some (.inr (.inr o)), some (.inl p0), some (.inr (.inr (gTop y16.2))), some (.inl s3.2.1), some (.inl s7.2.1), some (.inl (s8.2.1 - (1 : Int32))), none]) rfl rfl ?_
              exact gJ (fun h2 => h2)
        · refine gS rfl rfl ?_
          refine gS (lv' := [some (.inr (.inr o)), some (.inl p0), some (.inr (.inr s8.1)), some (.inl s3.2.1), some (.inl s7.2.1), some (.inl (s8.2.1 - (1 : Int32))), none]) rfl rfl ?_
          refine gS rfl rfl ?_
          exact gJ (fun h2 => h2)
