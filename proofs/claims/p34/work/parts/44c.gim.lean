noncomputable def F_X8_build (D : gDS) (o : gRF) : Option (Int32 × gDS) :=
 (gRv D o 8).bind fun _ =>
 loop (fun (s1 : Int32 × Int32 × gDS) =>
  (gFr s1.2.2 o 8 3).bind fun r2 =>
  (gLen s1.2.2 r2).bind fun z3 =>
  if z3 ≤ s1.2.1 then
   some (.inr ((s1.1, s1.2.2)))
  else
   (F_X8_isOpen s1.2.2 o s1.2.1).bind fun y4 =>
   jn (fun (v6 : gRF × gDS) =>
    if v6.1 = none then
     some (.inl (s1.1, (s1.2.1 + (1 : Int32)), v6.2))
    else
     (F_X8_put v6.2 o v6.1).bind fun y7 =>
     some (.inl ((s1.1 + (1 : Int32)), (s1.2.1 + (1 : Int32)), y7))) (fun k5 =>
    if y4.1 = 0 then
     k5 (none, y4.2)
    else
     (F_X8_best y4.2 o s1.2.1).bind fun y8 =>
     k5 (y8.1, y8.2))) ((0 : Int32), (0 : Int32), D)
theorem rv_X8_build {D : gDS} {o : gRF} {z} (hz : F_X8_build D o = some z) : gRv D o 8 = some () := by
  unfold F_X8_build at hz
  exact rv_bind hz
set_option maxHeartbeats 4000000 in
set_option maxRecDepth 100000 in
theorem ok_X8_build (dX : Nat) (hX : 40 ≤ dX) (d : Nat) (hd : 11 ≤ d) (h : PH) (D : gDS) (o : gRF) : ∀ z, F_X8_build D o = some z → gEx dX d 53 [.inr (.inr o)] (h, D) (some (.inl z.1)) (h, z.2) := by
  obtain ⟨d, rfl⟩ : ∃ e, d = e + 1 := ⟨d - 1, by omega⟩
  intro z hz
  refine ⟨rfl, ?_⟩
  refine (?_ : GSim (gEx dX d) (Ex dX) gmi_X8_build (fun o1 h1 => o1 = _ ∧ h1 = _) (F_X8_build D o) (fun t => t = z) 0 [some (.inr (.inr o)), none, none, none] [] (h, D)) z hz rfl
  clear hz
  unfold F_X8_build
  refine gRc ?_
  refine gS rfl rfl ?_
  refine gS (lv' := [some (.inr (.inr o)), some (.inl (0 : Int32)), none, none]) rfl rfl ?_
  refine gS rfl rfl ?_
  refine gS (lv' := [some (.inr (.inr o)), some (.inl (0 : Int32)), some (.inl (0 : Int32)), none]) rfl rfl ?_
  refine gL (pc := 4) (lv := fun (s1 : Int32 × Int32 × gDS) => [some (.inr (.inr o)), some (.inl s1.1), some (.inl s1.2.1), none]) (s := fun (s1 : Int32 × Int32 × gDS) => (h, s1.2.2)) (fun s1 => ?_) ((0 : Int32), (0 : Int32), D)
  refine gS rfl rfl ?_
  refine gS rfl rfl ?_
  refine gO rfl rfl (fun r2 => ?_)
  refine gO rfl rfl (fun z3 => ?_)
  refine gB rfl rfl ?_ ?_
  · refine gS rfl rfl ?_
    exact gRt rfl rfl (fun hg => by cases hg; exact ⟨rfl, rfl⟩)
  · refine gS rfl rfl ?_
    refine gS rfl rfl ?_
    refine gC (st' := fun y4 => [.inl y4.1]) rfl rfl (fun _ hz => rv_recv (ci := 8) (by omega) (rv_X8_isOpen hz)) rfl (ok_X8_isOpen dX hX d (by omega) h s1.2.2 o s1.2.1) (fun z => rfl) (fun y4 => ?_)
    refine gJn 30 (fun (v6 : gRF × gDS) => [some (.inr (.inr o)), some (.inl s1.1), some (.inl s1.2.1), none]) (fun (v6 : gRF × gDS) => [.inr (.inr v6.1)]) (fun (v6 : gRF × gDS) => (h, v6.2)) (fun v6 => ?_) (fun k5 hk5 => ?_)
    · refine gS (lv' := [some (.inr (.inr o)), some (.inl s1.1), some (.inl s1.2.1), some (.inr (.inr v6.1))]) rfl rfl ?_
      refine gS rfl rfl ?_
      refine gB rfl rfl ?_ ?_
      · refine gS rfl rfl ?_
        refine gS (lv' := [some (.inr (.inr o)), some (.inl s1.1), some (.inl (s1.2.1 + (1 : Int32))), some (.inr (.inr v6.1))]) rfl rfl ?_
        refine gS rfl rfl ?_
        refine gMk [true, true, true, false] (lv' := [some (.inr (.inr o)), some (.inl s1.1), some (.inl (s1.2.1 + (1 : Int32))), none]) rfl rfl ?_
        exact gJ (fun h2 => h2)
      · refine gS rfl rfl ?_
        refine gS rfl rfl ?_
        refine gC (st' := fun y7 => []) rfl rfl (fun _ hz => rv_recv (ci := 8) (by omega) (rv_X8_put hz)) rfl (ok_X8_put dX hX d (by omega) h v6.2 o v6.1) (fun z => rfl) (fun y7 => ?_)
        refine gS (lv' := [some (.inr (.inr o)), some (.inl (s1.1 + (1 : Int32))), some (.inl s1.2.1), some (.inr (.inr v6.1))]) rfl rfl ?_
        refine gS (lv' := [some (.inr (.inr o)), some (.inl (s1.1 + (1 : Int32))), some (.inl (s1.2.1 + (1 : Int32))), some (.inr (.inr v6.1))]) rfl rfl ?_
        refine gS rfl rfl ?_
        refine gMk [true, true, true, false] (lv' := [some (.inr (.inr o)), some (.inl (s1.1 + (1 : Int32))), some (.inl (s1.2.1 + (1 : Int32))), none]) rfl rfl ?_
        exact gJ (fun h2 => h2)
    · refine gB rfl rfl ?_ ?_
      · refine gS rfl rfl ?_
        have h3 := hk5 (none, y4.2)
        exact h3
      · refine gS rfl rfl ?_
        refine gS rfl rfl ?_
        refine gC (st' := fun y8 => [.inr (.inr y8.1)]) rfl rfl (fun _ hz => rv_recv (ci := 8) (by omega) (rv_X8_best hz)) rfl (ok_X8_best dX hX d (by omega) h y4.2 o s1.2.1) (fun z => rfl) (fun y8 => ?_)
        refine gS rfl rfl ?_
        have h3 := hk5 (y8.1, y8.2)
        exact h3
noncomputable def F_X8_changed (D : gDS) (o : gRF) (p0 : Int32) : Option (gRF × gDS) :=
 (gRv D o 8).bind fun _ =>
 (F_X8_copy D o).bind fun y1 =>
 (F_X8_where y1.2 o p0).bind fun y2 =>
 (gFr y2.2 y1.1 8 7).bind fun r3 =>
 (gIld y2.2 y2.1 1 (0 : Int32)).bind fun z4 =>
 (gFr y2.2 o 8 7).bind fun r5 =>
 (gIld y2.2 y2.1 1 (0 : Int32)).bind fun z6 =>
 (gQld y2.2 r5 z6).bind fun r7 =>
 (gIld y2.2 y2.1 1 (1 : Int32)).bind fun z8 =>
 (F_L_without y2.2 r7 z8).bind fun y9 =>
 (gQst y9.2 r3 z4 y9.1).bind fun D10 =>
 (gIld D10 y2.1 1 (0 : Int32)).bind fun z11 =>
 (F_X8_price_ D10 y1.1 z11).bind fun y12 =>
 jn (fun (v14 : gRF × gDS) =>
  if v14.1 = none then
   some ((none, v14.2))
  else
   (F_X8_put v14.2 y1.1 v14.1).bind fun y15 =>
   some ((y1.1, y15))) (fun k13 =>
  if (500000 : Int32) ≤ y12.1 then
   k13 (none, y12.2)
  else
   (F_X8_best y12.2 y1.1 p0).bind fun y16 =>
   k13 (y16.1, y16.2))
theorem rv_X8_changed {D : gDS} {o : gRF} {p0 : Int32} {z} (hz : F_X8_changed D o p0 = some z) : gRv D o 8 = some () := by
  unfold F_X8_changed at hz
  exact rv_bind hz
set_option maxHeartbeats 4000000 in
set_option maxRecDepth 100000 in
theorem ok_X8_changed (dX : Nat) (hX : 40 ≤ dX) (d : Nat) (hd : 11 ≤ d) (h : PH) (D : gDS) (o : gRF) (p0 : Int32) : ∀ z, F_X8_changed D o p0 = some z → gEx dX d 54 [.inr (.inr o), .inl p0] (h, D) (some (.inr (.inr z.1))) (h, z.2) := by
  obtain ⟨d, rfl⟩ : ∃ e, d = e + 1 := ⟨d - 1, by omega⟩
  intro z hz
  refine ⟨rfl, ?_⟩
  refine (?_ : GSim (gEx dX d) (Ex dX) gmi_X8_changed (fun o1 h1 => o1 = _ ∧ h1 = _) (F_X8_changed D o p0) (fun t => t = z) 0 [some (.inr (.inr o)), some (.inl p0), none, none, none] [] (h, D)) z hz rfl
  clear hz
  unfold F_X8_changed
  refine gRc ?_
  refine gS rfl rfl ?_
  refine gC (st' := fun y1 => [.inr (.inr y1.1)]) rfl rfl (fun _ hz => rv_recv (ci := 8) (by omega) (rv_X8_copy hz)) rfl (ok_X8_copy dX hX d (by omega) h D o) (fun z => rfl) (fun y1 => ?_)
  refine gS (lv' := [some (.inr (.inr o)), some (.inl p0), some (.inr (.inr y1.1)), none, none]) rfl rfl ?_
  refine gS rfl rfl ?_
  refine gS rfl rfl ?_
  refine gC (st' := fun y2 => [.inr (.inr y2.1)]) rfl rfl (fun _ hz => rv_recv (ci := 8) (by omega) (rv_X8_where hz)) rfl (ok_X8_where dX hX d (by omega) h y1.2 o p0) (fun z => rfl) (fun y2 => ?_)
  refine gS (lv' := [some (.inr (.inr o)), some (.inl p0), some (.inr (.inr y1.1)), some (.inr (.inr y2.1)), none]) rfl rfl ?_
  refine gS rfl rfl ?_
  refine gO rfl rfl (fun r3 => ?_)
  refine gS rfl rfl ?_
  refine gS rfl rfl ?_
  refine gO rfl rfl (fun z4 => ?_)
  refine gS rfl rfl ?_
  refine gO rfl rfl (fun r5 => ?_)
  refine gS rfl rfl ?_
  refine gS rfl rfl ?_
  refine gO rfl rfl (fun z6 => ?_)
  refine gO rfl rfl (fun r7 => ?_)
  refine gS rfl rfl ?_
  refine gS rfl rfl ?_
  refine gO rfl rfl (fun z8 => ?_)
  refine gC (st' := fun y9 => [.inr (.inr y9.1), .inl z4, .inr (.inr r3)]) rfl rfl (fun _ _ => rfl) rfl (ok_L_without dX hX d (by omega) h y2.2 r7 z8) (fun z => rfl) (fun y9 => ?_)
  refine gO rfl rfl (fun D10 => ?_)
  refine gS rfl rfl ?_
  refine gS rfl rfl ?_
  refine gS rfl rfl ?_
  refine gO rfl rfl (fun z11 => ?_)
  refine gC (st' := fun y12 => [.inl y12.1]) rfl rfl (fun _ hz => rv_recv (ci := 8) (by omega) (rv_X8_price_ hz)) rfl (ok_X8_price_ dX hX d (by omega) h D10 y1.1 z11) (fun z => rfl) (fun y12 => ?_)
  refine gS rfl rfl ?_
  refine gJn 54 (fun (v14 : gRF × gDS) => [none, none, some (.inr (.inr y1.1)), none, none]) (fun (v14 : gRF × gDS) => [.inr (.inr v14.1)]) (fun (v14 : gRF × gDS) => (h, v14.2)) (fun v14 => ?_) (fun k13 hk13 => ?_)
  · refine gS (lv' := [none, none, some (.inr (.inr y1.1)), none, some (.inr (.inr v14.1))]) rfl rfl ?_
    refine gS rfl rfl ?_
    refine gB rfl rfl ?_ ?_
    · refine gS rfl rfl ?_
      exact gRt rfl rfl (fun hg => by cases hg; exact ⟨rfl, rfl⟩)
    · refine gS rfl rfl ?_
      refine gS rfl rfl ?_
      refine gC (st' := fun y15 => []) rfl rfl (fun _ hz => rv_recv (ci := 8) (by omega) (rv_X8_put hz)) rfl (ok_X8_put dX hX d (by omega) h v14.2 y1.1 v14.1) (fun z => rfl) (fun y15 => ?_)
      refine gS rfl rfl ?_
      exact gRt rfl rfl (fun hg => by cases hg; exact ⟨rfl, rfl⟩)
  · refine gB rfl rfl ?_ ?_
    · refine gS rfl rfl ?_
      refine gMk [false, false, true, false, true] (lv' := [none, none, some (.inr (.inr y1.1)), none, none]) rfl rfl ?_
      have h3 := hk13 (none, y12.2)
      exact h3
    · refine gS rfl rfl ?_
      refine gS rfl rfl ?_
      refine gC (st' := fun y16 => [.inr (.inr y16.1)]) rfl rfl (fun _ hz => rv_recv (ci := 8) (by omega) (rv_X8_best hz)) rfl (ok_X8_best dX hX d (by omega) h y12.2 y1.1 p0) (fun z => rfl) (fun y16 => ?_)
      refine gS rfl rfl ?_
      refine gMk [false, false, true, false, true] (lv' := [none, none, some (.inr (.inr y1.1)), none, none]) rfl rfl ?_
      have h3 := hk13 (y16.1, y16.2)
      exact h3
noncomputable def F_X8_improve (D : gDS) (o : gRF) (p0 : Int32) : Option (Int32 × gDS) :=
 (gRv D o 8).bind fun _ =>
 (F_X8_total D o).bind fun y1 =>
 loop (fun (s2 : Int32 × gDS) =>
  jn (fun (v4 : gDS) =>
   (F_X8_total v4 o).bind fun y5 =>
   some (.inr (((y1.1 - y5.1), y5.2)))) (fun k3 =>
   if p0 ≤ s2.1 then
    k3 (s2.2)
   else
    (gFr s2.2 o 8 3).bind fun r6 =>
    (gLen s2.2 r6).bind fun z7 =>
    loop (fun (s8 : gRF × Int32 × gDS) =>
     if s8.2.1 < 0 then
      if s8.1 = none then
       (k3 (s8.2.2)).map Sum.inr
      else
       (F_X8_total s8.2.2 s8.1).bind fun y9 =>
       (F_X8_total y9.2 o).bind fun y10 =>
       if y9.1 < y10.1 then
        (gFr y10.2 s8.1 8 7).bind fun r11 =>
        (gFst y10.2 o 8 7 (.inr (.inr r11))).bind fun D12 =>
        some (.inr (.inl ((s2.1 + (1 : Int32)), D12)))
       else
        (k3 (y10.2)).map Sum.inr
     else
      (F_X8_where s8.2.2 o s8.2.1).bind fun y13 =>
      jn (fun (v15 : gRF × gDS) =>
       if v15.1 = none then
        some (.inl (s8.1, (s8.2.1 - (1 : Int32)), v15.2))
       else
        if s8.1 = none then
         some (.inl (v15.1, (s8.2.1 - (1 : Int32)), v15.2))
        else
         (F_X8_total v15.2 v15.1).bind fun y16 =>
         (F_X8_total y16.2 s8.1).bind fun y17 =>
         if y17.1 < y16.1 then
          some (.inl (s8.1, (s8.2.1 - (1 : Int32)), y17.2))
         else
          some (.inl (v15.1, (s8.2.1 - (1 : Int32)), y17.2))) (fun k14 =>
       if y13.1 = none then
        k14 (none, y13.2)
       else
        (F_X8_changed y13.2 o s8.2.1).bind fun y18 =>
        k14 (y18.1, y18.2))) (none, (z7 - (1 : Int32)), s2.2))) ((0 : Int32), y1.2)
theorem rv_X8_improve {D : gDS} {o : gRF} {p0 : Int32} {z} (hz : F_X8_improve D o p0 = some z) : gRv D o 8 = some () := by
  unfold F_X8_improve at hz
  exact rv_bind hz
set_option maxHeartbeats 4000000 in
set_option maxRecDepth 100000 in
theorem ok_X8_improve (dX : Nat) (hX : 40 ≤ dX) (d : Nat) (hd : 12 ≤ d) (h : PH) (D : gDS) (o : gRF) (p0 : Int32) : ∀ z, F_X8_improve D o p0 = some z → gEx dX d 55 [.inr (.inr o), .inl p0] (h, D) (some (.inl z.1)) (h, z.2) := by
  obtain ⟨d, rfl⟩ : ∃ e, d = e + 1 := ⟨d - 1, by omega⟩
  intro z hz
  refine ⟨rfl, ?_⟩
  refine (?_ : GSim (gEx dX d) (Ex dX) gmi_X8_improve (fun o1 h1 => o1 = _ ∧ h1 = _) (F_X8_improve D o p0) (fun t => t = z) 0 [some (.inr (.inr o)), some (.inl p0), none, none, none, none, none] [] (h, D)) z hz rfl
  clear hz
  unfold F_X8_improve
  refine gRc ?_
  refine gS rfl rfl ?_
  refine gC (st' := fun y1 => [.inl y1.1]) rfl rfl (fun _ hz => rv_recv (ci := 8) (by omega) (rv_X8_total hz)) rfl (ok_X8_total dX hX d (by omega) h D o) (fun z => rfl) (fun y1 => ?_)
  refine gS (lv' := [some (.inr (.inr o)), some (.inl p0), some (.inl y1.1), none, none, none, none]) rfl rfl ?_
  refine gS rfl rfl ?_
  refine gS (lv' := [some (.inr (.inr o)), some (.inl p0), some (.inl y1.1), some (.inl (0 : Int32)), none, none, none]) rfl rfl ?_
  refine gL (pc := 7) (lv := fun (s2 : Int32 × gDS) => [some (.inr (.inr o)), some (.inl p0), some (.inl y1.1), some (.inl s2.1), none, none, none]) (s := fun (s2 : Int32 × gDS) => (h, s2.2)) (fun s2 => ?_) ((0 : Int32), y1.2)
  refine gS rfl rfl ?_
  refine gS rfl rfl ?_
  refine gJn 118 (fun (v4 : gDS) => [some (.inr (.inr o)), none, some (.inl y1.1), none, none, none, none]) (fun (v4 : gDS) => []) (fun (v4 : gDS) => (h, v4)) (fun v4 => ?_) (fun k3 hk3 => ?_)
  · refine gS rfl rfl ?_
    refine gS rfl rfl ?_
    refine gC (st' := fun y5 => [.inl y5.1, .inl y1.1]) rfl rfl (fun _ hz => rv_recv (ci := 8) (by omega) (rv_X8_total hz)) rfl (ok_X8_total dX hX d (by omega) h v4 o) (fun z => rfl) (fun y5 => ?_)
    refine gS rfl rfl ?_
    exact gRt rfl rfl (fun hg => by cases hg; exact ⟨rfl, rfl⟩)
  · refine gB rfl rfl ?_ ?_
    · refine gMk [true, false, true, false, true, true, true] (lv' := [some (.inr (.inr o)), none, some (.inl y1.1), none, none, none, none]) rfl rfl ?_
      have h3 := hk3 (s2.2)
      exact h3
    · refine gS rfl rfl ?_
      refine gS (lv' := [some (.inr (.inr o)), some (.inl p0), some (.inl y1.1), some (.inl s2.1), some (.inr (.inr none)), none, none]) rfl rfl ?_
      refine gS rfl rfl ?_
      refine gO rfl rfl (fun r6 => ?_)
      refine gO rfl rfl (fun z7 => ?_)
      refine gS rfl rfl ?_
      refine gS rfl rfl ?_
      refine gS (lv' := [some (.inr (.inr o)), some (.inl p0), some (.inl y1.1), some (.inl s2.1), some (.inr (.inr none)), some (.inl (z7 - (1 : Int32))), none]) rfl rfl ?_
      refine gL (pc := 24) (lv := fun (s8 : gRF × Int32 × gDS) => [some (.inr (.inr o)), some (.inl p0), some (.inl y1.1), some (.inl s2.1), some (.inr (.inr s8.1)), some (.inl s8.2.1), none]) (s := fun (s8 : gRF × Int32 × gDS) => (h, s8.2.2)) (fun s8 => ?_) (none, (z7 - (1 : Int32)), s2.2)
      refine gS rfl rfl ?_
      refine gB rfl rfl ?_ ?_
      · refine gS rfl rfl ?_
        refine gB rfl rfl ?_ ?_
        · refine gMk [true, false, true, false, false, false, true] (lv' := [some (.inr (.inr o)), none, some (.inl y1.1), none, none, none, none]) rfl rfl ?_
          refine gN ?_
          have h3 := hk3 (s8.2.2)
          exact h3
        · refine gS rfl rfl ?_
          refine gC (st' := fun y9 => [.inl y9.1]) rfl rfl (fun _ hz => rv_recv (ci := 8) (by omega) (rv_X8_total hz)) rfl (ok_X8_total dX hX d (by omega) h s8.2.2 s8.1) (fun z => rfl) (fun y9 => ?_)
          refine gS rfl rfl ?_
          refine gC (st' := fun y10 => [.inl y10.1, .inl y9.1]) rfl rfl (fun _ hz => rv_recv (ci := 8) (by omega) (rv_X8_total hz)) rfl (ok_X8_total dX hX d (by omega) h y9.2 o) (fun z => rfl) (fun y10 => ?_)
          refine gB rfl rfl ?_ ?_
          · refine gS rfl rfl ?_
            refine gS rfl rfl ?_
            refine gO rfl rfl (fun r11 => ?_)
            refine gO rfl rfl (fun D12 => ?_)
            refine gS (lv' := [some (.inr (.inr o)), some (.inl p0), some (.inl y1.1), some (.inl (s2.1 + (1 : Int32))), some (.inr (.inr s8.1)), some (.inl s8.2.1), none]) rfl rfl ?_
            refine gS rfl rfl ?_
            refine gMk [true, true, true, true, false, false, true] (lv' := [some (.inr (.inr o)), some (.inl p0), some (.inl y1.1), some (.inl (s2.1 + (1 : Int32))), none, none, none]) rfl rfl ?_
            refine gUp ?_
            exact gJ (fun h2 => h2)
          · refine gS rfl rfl ?_
            refine gMk [true, false, true, false, false, false, true] (lv' := [some (.inr (.inr o)), none, some (.inl y1.1), none, none, none, none]) rfl rfl ?_
            refine gN ?_
            have h3 := hk3 (y10.2)
            exact h3
      · refine gS rfl rfl ?_
        refine gS rfl rfl ?_
        refine gC (st' := fun y13 => [.inr (.inr y13.1)]) rfl rfl (fun _ hz => rv_recv (ci := 8) (by omega) (rv_X8_where hz)) rfl (ok_X8_where dX hX d (by omega) h s8.2.2 o s8.2.1) (fun z => rfl) (fun y13 => ?_)
        refine gJn 48 (fun (v15 : gRF × gDS) => [some (.inr (.inr o)), some (.inl p0), some (.inl y1.1), some (.inl s2.1), some (.inr (.inr s8.1)), some (.inl s8.2.1), none]) (fun (v15 : gRF × gDS) => [.inr (.inr v15.1)]) (fun (v15 : gRF × gDS) => (h, v15.2)) (fun v15 => ?_) (fun k14 hk14 => ?_)
        · refine gS (lv' := [some (.inr (.inr o)), some (.inl p0), some (.inl y1.1), some (.inl s2.1), some (.inr (.inr s8.1)), some (.inl s8.2.1), some (.inr (.inr v15.1))]) rfl rfl ?_
          refine gS rfl rfl ?_
          refine gB rfl rfl ?_ ?_
          · refine gS (lv' := [some (.inr (.inr o)), some (.inl p0), some (.inl y1.1), some (.inl s2.1), some (.inr (.inr s8.1)), some (.inl (s8.2.1 - (1 : Int32))), some (.inr (.inr v15.1))]) rfl rfl ?_
            refine gS rfl rfl ?_
            refine gMk [true, true, true, true, true, true, false] (lv' := [some (.inr (.inr o)), some (.inl p0), some (.inl y1.1), some (.inl s2.1), some (.inr (.inr s8.1)), some (.inl (s8.2.1 - (1 : Int32))), none]) rfl rfl ?_
            exact gJ (fun h2 => h2)
          · refine gS rfl rfl ?_
            refine gB rfl rfl ?_ ?_
            · refine gS rfl rfl ?_
              refine gS (lv' := [some (.inr (.inr o)), some (.inl p0), some (.inl y1.1), some (.inl s2.1), some (.inr (.inr v15.1)), some (.inl s8.2.1), some (.inr (.inr v15.1))]) rfl rfl ?_
              refine gS (lv' := [some (.inr (.inr o)), some (.inl p0), some (.inl y1.1), some (.inl s2.1), some (.inr (.inr v15.1)), some (.inl (s8.2.1 - (1 : Int32))), some (.inr (.inr v15.1))]) rfl rfl ?_
              refine gS rfl rfl ?_
              refine gMk [true, true, true, true, true, true, false] (lv' := [some (.inr (.inr o)), some (.inl p0), some (.inl y1.1), some (.inl s2.1), some (.inr (.inr v15.1)), some (.inl (s8.2.1 - (1 : Int32))), none]) rfl rfl ?_
              exact gJ (fun h2 => h2)
            · refine gS rfl rfl ?_
              refine gC (st' := fun y16 => [.inl y16.1]) rfl rfl (fun _ hz => rv_recv (ci := 8) (by omega) (rv_X8_total hz)) rfl (ok_X8_total dX hX d (by omega) h v15.2 v15.1) (fun z => rfl) (fun y16 => ?_)
              refine gS rfl rfl ?_
              refine gC (st' := fun y17 => [.inl y17.1, .inl y16.1]) rfl rfl (fun _ hz => rv_recv (ci := 8) (by omega) (rv_X8_total hz)) rfl (ok_X8_total dX hX d (by omega) h y16.2 s8.1) (fun z => rfl) (fun y17 => ?_)
              refine gB rfl rfl ?_ ?_
              · refine gS (lv' := [some (.inr (.inr o)), some (.inl p0), some (.inl y1.1), some (.inl s2.1), some (.inr (.inr s8.1)), some (.inl (s8.2.1 - (1 : Int32))), some (.inr (.inr v15.1))]) rfl rfl ?_
                refine gS rfl rfl ?_
                refine gMk [true, true, true, true, true, true, false] (lv' := [some (.inr (.inr o)), some (.inl p0), some (.inl y1.1), some (.inl s2.1), some (.inr (.inr s8.1)), some (.inl (s8.2.1 - (1 : Int32))), none]) rfl rfl ?_
                exact gJ (fun h2 => h2)
              · refine gS rfl rfl ?_
                refine gS (lv' := [some (.inr (.inr o)), some (.inl p0), some (.inl y1.1), some (.inl s2.1), some (.inr (.inr v15.1)), some (.inl s8.2.1), some (.inr (.inr v15.1))]) rfl rfl ?_
                refine gS (lv' := [some (.inr (.inr o)), some (.inl p0), some (.inl y1.1), some (.inl s2.1), some (.inr (.inr v15.1)), some (.inl (s8.2.1 - (1 : Int32))), some (.inr (.inr v15.1))]) rfl rfl ?_
                refine gS rfl rfl ?_
                refine gMk [true, true, true, true, true, true, false] (lv' := [some (.inr (.inr o)), some (.inl p0), some (.inl y1.1), some (.inl s2.1), some (.inr (.inr v15.1)), some (.inl (s8.2.1 - (1 : Int32))), none]) rfl rfl ?_
                exact gJ (fun h2 => h2)
        · refine gB rfl rfl ?_ ?_
          · refine gS rfl rfl ?_
            refine gS rfl rfl ?_
            have h3 := hk14 (none, y13.2)
            exact h3
          · refine gS rfl rfl ?_
            refine gS rfl rfl ?_
            refine gC (st' := fun y18 => [.inr (.inr y18.1)]) rfl rfl (fun _ hz => rv_recv (ci := 8) (by omega) (rv_X8_changed hz)) rfl (ok_X8_changed dX hX d (by omega) h y13.2 o s8.2.1) (fun z => rfl) (fun y18 => ?_)
            have h3 := hk14 (y18.1, y18.2)
            exact h3
