noncomputable def F_X9_init (D : gDS) (o : gRF) : Option Unit :=
 (o).bind fun q1 =>
 some (())
set_option maxHeartbeats 4000000 in
set_option maxRecDepth 100000 in
theorem ok_X9_init (dX : Nat) (hX : 40 ≤ dX) (d : Nat) (hd : 1 ≤ d) (h : PH) (D : gDS) (o : gRF) : ∀ z, F_X9_init D o = some z → gEx dX d 57 [.inr (.inr o)] (h, D) (none) (h, D) := by
  obtain ⟨d, rfl⟩ : ∃ e, d = e + 1 := ⟨d - 1, by omega⟩
  intro z hz
  refine ⟨rfl, ?_⟩
  refine (?_ : GSim (gEx dX d) (Ex dX) gmi_X9_init (fun o1 h1 => o1 = _ ∧ h1 = _) (F_X9_init D o) (fun t => t = z) 0 [some (.inr (.inr o))] [] (h, D)) z hz rfl
  clear hz
  unfold F_X9_init
  refine gS rfl rfl ?_
  rcases o with _ | q1
  · exact gNb
  refine gSb ?_
  refine gS rfl rfl ?_
  exact gRt rfl rfl (fun hg => by cases hg; exact ⟨rfl, rfl⟩)
noncomputable def F_X10_below (D : gDS) (o : gRF) (p0 : Int32) : Option (Int32 × gDS) :=
 (gRv D o 10).bind fun _ =>
 (gFi D o 10 0).bind fun z1 =>
 (gFst D o 10 0 (.inl (((1103515245 : Int32) * z1) + (12345 : Int32)))).bind fun D2 =>
 (gFi D2 o 10 0).bind fun z3 =>
 (gRm ((z3.toUInt32 >>> ((16 : Int32).toUInt32 &&& Int32.toUInt32 31)).toInt32) p0).bind fun z4 =>
 some ((z4, D2))
theorem rv_X10_below {D : gDS} {o : gRF} {p0 : Int32} {z} (hz : F_X10_below D o p0 = some z) : gRv D o 10 = some () := by
  unfold F_X10_below at hz
  exact rv_bind hz
set_option maxHeartbeats 4000000 in
set_option maxRecDepth 100000 in
theorem ok_X10_below (dX : Nat) (hX : 40 ≤ dX) (d : Nat) (hd : 1 ≤ d) (h : PH) (D : gDS) (o : gRF) (p0 : Int32) : ∀ z, F_X10_below D o p0 = some z → gEx dX d 62 [.inr (.inr o), .inl p0] (h, D) (some (.inl z.1)) (h, z.2) := by
  obtain ⟨d, rfl⟩ : ∃ e, d = e + 1 := ⟨d - 1, by omega⟩
  intro z hz
  refine ⟨rfl, ?_⟩
  refine (?_ : GSim (gEx dX d) (Ex dX) gmi_X10_below (fun o1 h1 => o1 = _ ∧ h1 = _) (F_X10_below D o p0) (fun t => t = z) 0 [some (.inr (.inr o)), some (.inl p0)] [] (h, D)) z hz rfl
  clear hz
  unfold F_X10_below
  refine gRc ?_
  refine gS rfl rfl ?_
  refine gS rfl rfl ?_
  refine gS rfl rfl ?_
  refine gO rfl rfl (fun z1 => ?_)
  refine gS rfl rfl ?_
  refine gS rfl rfl ?_
  refine gS rfl rfl ?_
  refine gO rfl rfl (fun D2 => ?_)
  refine gS rfl rfl ?_
  refine gO rfl rfl (fun z3 => ?_)
  refine gS rfl rfl ?_
  refine gS rfl rfl ?_
  refine gS rfl rfl ?_
  refine gO rfl rfl (fun z4 => ?_)
  exact gRt rfl rfl (fun hg => by cases hg; exact ⟨rfl, rfl⟩)
noncomputable def F_X9_random (S : gDS → gRF → Int32 → Option (gRF × gDS)) (D : gDS) (p0 : gRF) (p1 : Int32) : Option (gRF × gDS) :=
 (F_X9_init (gNwO D 9) (gTop D)).bind fun y1 =>
 jn (fun (v3 : Int32 × gDS) =>
  (gFst v3.2 (gTop D) 9 0 (.inl v3.1)).bind fun D4 =>
  (gFi D4 (gTop D) 9 0).bind fun z5 =>
  jn (fun (v7 : Int32 × gDS) =>
   (gFst v7.2 (gTop D) 9 1 (.inl v7.1)).bind fun D8 =>
   (gFi D8 (gTop D) 9 0).bind fun z9 =>
   if z9 ≤ (1 : Int32) then
    some (((gTop D), D8))
   else
    (S D8 p0 (p1 - (1 : Int32))).bind fun y10 =>
    (gFst y10.2 (gTop D) 9 2 (.inr (.inr y10.1))).bind fun D11 =>
    (S D11 p0 (p1 - (1 : Int32))).bind fun y12 =>
    (gFst y12.2 (gTop D) 9 3 (.inr (.inr y12.1))).bind fun D13 =>
    some (((gTop D), D13))) (fun k6 =>
   if ¬ z5 = 0 then
    (F_X10_below D4 p0 (2 : Int32)).bind fun y14 =>
    k6 (y14.1, y14.2)
   else
    (F_X10_below D4 p0 (6 : Int32)).bind fun y15 =>
    if ¬ y15.1 = 0 then
     (F_X10_below y15.2 p0 (9 : Int32)).bind fun y16 =>
     k6 (y16.1, y16.2)
    else
     (F_X10_below y15.2 p0 (10000 : Int32)).bind fun y17 =>
     k6 (y17.1, y17.2))) (fun k2 =>
  if ¬ p1 = 0 then
   (F_X10_below (gNwO D 9) p0 (6 : Int32)).bind fun y18 =>
   k2 (y18.1, y18.2)
  else
   (F_X10_below (gNwO D 9) p0 (2 : Int32)).bind fun y19 =>
   k2 (y19.1, y19.2))
set_option maxHeartbeats 4000000 in
set_option maxRecDepth 100000 in
theorem ok_X9_random (S : gDS → gRF → Int32 → Option (gRF × gDS)) (dX : Nat) (hX : 40 ≤ dX) (dS : Nat) (hB : 1 ≤ dS) (hS : ∀ d, dS ≤ d → ∀ (h : PH) (D : gDS) (p0 : gRF) (p1 : Int32), ∀ z, S D p0 p1 = some z → gEx dX d 58 [.inr (.inr p0), .inl p1] (h, D) (some (.inr (.inr z.1))) (h, z.2)) (d : Nat) (hd : dS + 1 ≤ d) (h : PH) (D : gDS) (p0 : gRF) (p1 : Int32) : ∀ z, F_X9_random S D p0 p1 = some z → gEx dX d 58 [.inr (.inr p0), .inl p1] (h, D) (some (.inr (.inr z.1))) (h, z.2) := by
  obtain ⟨d, rfl⟩ : ∃ e, d = e + 1 := ⟨d - 1, by omega⟩
  intro z hz
  refine ⟨rfl, ?_⟩
  refine (?_ : GSim (gEx dX d) (Ex dX) gmi_X9_random (fun o1 h1 => o1 = _ ∧ h1 = _) (F_X9_random S D p0 p1) (fun t => t = z) 0 [some (.inr (.inr p0)), some (.inl p1), none] [] (h, D)) z hz rfl
  clear hz
  unfold F_X9_random
  refine gS rfl rfl ?_
  refine gS rfl rfl ?_
  refine gC (st' := fun y1 => [.inr (.inr (gTop D))]) rfl rfl (fun _ _ => rfl) rfl (ok_X9_init dX hX d (by omega) h (gNwO D 9) (gTop D)) (fun z => rfl) (fun y1 => ?_)
  refine gS (lv' := [some (.inr (.inr p0)), some (.inl p1), some (.inr (.inr (gTop D)))]) rfl rfl ?_
  refine gS rfl rfl ?_
  refine gS rfl rfl ?_
  refine gJn 27 (fun (v3 : Int32 × gDS) => [some (.inr (.inr p0)), some (.inl p1), some (.inr (.inr (gTop D)))]) (fun (v3 : Int32 × gDS) => [.inl v3.1, .inr (.inr (gTop D))]) (fun (v3 : Int32 × gDS) => (h, v3.2)) (fun v3 => ?_) (fun k2 hk2 => ?_)
  · refine gO rfl rfl (fun D4 => ?_)
    refine gS rfl rfl ?_
    refine gS rfl rfl ?_
    refine gO rfl rfl (fun z5 => ?_)
    refine gJn 67 (fun (v7 : Int32 × gDS) => [some (.inr (.inr p0)), some (.inl p1), some (.inr (.inr (gTop D)))]) (fun (v7 : Int32 × gDS) => [.inl v7.1, .inr (.inr (gTop D))]) (fun (v7 : Int32 × gDS) => (h, v7.2)) (fun v7 => ?_) (fun k6 hk6 => ?_)
    · refine gO rfl rfl (fun D8 => ?_)
      refine gS rfl rfl ?_
      refine gO rfl rfl (fun z9 => ?_)
      refine gS rfl rfl ?_
      refine gB rfl rfl ?_ ?_
      · refine gS rfl rfl ?_
        exact gRt rfl rfl (fun hg => by cases hg; exact ⟨rfl, rfl⟩)
      · refine gS rfl rfl ?_
        refine gS rfl rfl ?_
        refine gS rfl rfl ?_
        refine gS rfl rfl ?_
        refine gS rfl rfl ?_
        refine gC (st' := fun y10 => [.inr (.inr y10.1), .inr (.inr (gTop D))]) rfl rfl (fun _ _ => rfl) rfl (hS d (by omega) h D8 p0 (p1 - (1 : Int32))) (fun z => rfl) (fun y10 => ?_)
        refine gO rfl rfl (fun D11 => ?_)
        refine gS rfl rfl ?_
        refine gS rfl rfl ?_
        refine gS rfl rfl ?_
        refine gS rfl rfl ?_
        refine gS rfl rfl ?_
        refine gC (st' := fun y12 => [.inr (.inr y12.1), .inr (.inr (gTop D))]) rfl rfl (fun _ _ => rfl) rfl (hS d (by omega) h D11 p0 (p1 - (1 : Int32))) (fun z => rfl) (fun y12 => ?_)
        refine gO rfl rfl (fun D13 => ?_)
        refine gS rfl rfl ?_
        exact gRt rfl rfl (fun hg => by cases hg; exact ⟨rfl, rfl⟩)
    · refine gB rfl rfl ?_ ?_
      · refine gS rfl rfl ?_
        refine gS rfl rfl ?_
        refine gC (st' := fun y14 => [.inl y14.1, .inr (.inr (gTop D))]) rfl rfl (fun _ hz => rv_recv (ci := 10) (by omega) (rv_X10_below hz)) rfl (ok_X10_below dX hX d (by omega) h D4 p0 (2 : Int32)) (fun z => rfl) (fun y14 => ?_)
        have h3 := hk6 (y14.1, y14.2)
        exact h3
      · refine gS rfl rfl ?_
        refine gS rfl rfl ?_
        refine gS rfl rfl ?_
        refine gC (st' := fun y15 => [.inl y15.1, .inr (.inr p0), .inr (.inr (gTop D))]) rfl rfl (fun _ hz => rv_recv (ci := 10) (by omega) (rv_X10_below hz)) rfl (ok_X10_below dX hX d (by omega) h D4 p0 (6 : Int32)) (fun z => rfl) (fun y15 => ?_)
        refine gB rfl rfl ?_ ?_
        · refine gS rfl rfl ?_
          refine gC (st' := fun y16 => [.inl y16.1, .inr (.inr (gTop D))]) rfl rfl (fun _ hz => rv_recv (ci := 10) (by omega) (rv_X10_below hz)) rfl (ok_X10_below dX hX d (by omega) h y15.2 p0 (9 : Int32)) (fun z => rfl) (fun y16 => ?_)
          refine gS rfl rfl ?_
          have h3 := hk6 (y16.1, y16.2)
          exact h3
        · refine gS rfl rfl ?_
          refine gS rfl rfl ?_
          refine gC (st' := fun y17 => [.inl y17.1, .inr (.inr (gTop D))]) rfl rfl (fun _ hz => rv_recv (ci := 10) (by omega) (rv_X10_below hz)) rfl (ok_X10_below dX hX d (by omega) h y15.2 p0 (10000 : Int32)) (fun z => rfl) (fun y17 => ?_)
          refine gS rfl rfl ?_
          have h3 := hk6 (y17.1, y17.2)
          exact h3
  · refine gB rfl rfl ?_ ?_
    · refine gS rfl rfl ?_
      refine gS rfl rfl ?_
      refine gC (st' := fun y18 => [.inl y18.1, .inr (.inr (gTop D))]) rfl rfl (fun _ hz => rv_recv (ci := 10) (by omega) (rv_X10_below hz)) rfl (ok_X10_below dX hX d (by omega) h (gNwO D 9) p0 (6 : Int32)) (fun z => rfl) (fun y18 => ?_)
      have h3 := hk2 (y18.1, y18.2)
      exact h3
    · refine gS rfl rfl ?_
      refine gS rfl rfl ?_
      refine gC (st' := fun y19 => [.inl y19.1, .inr (.inr (gTop D))]) rfl rfl (fun _ hz => rv_recv (ci := 10) (by omega) (rv_X10_below hz)) rfl (ok_X10_below dX hX d (by omega) h (gNwO D 9) p0 (2 : Int32)) (fun z => rfl) (fun y19 => ?_)
      refine gS rfl rfl ?_
      have h3 := hk2 (y19.1, y19.2)
      exact h3
noncomputable def R_X9_random : Nat → gDS → gRF → Int32 → Option (gRF × gDS)
  | 0 => fun _ _ _ => none
  | n + 1 => F_X9_random (R_X9_random n)
theorem okR_X9_random : ∀ (n : Nat) (dX : Nat) (hX : 40 ≤ dX) (d : Nat), 1 + n ≤ d → ∀ (h : PH) (D : gDS) (p0 : gRF) (p1 : Int32), ∀ z, R_X9_random n D p0 p1 = some z → gEx dX d 58 [.inr (.inr p0), .inl p1] (h, D) (some (.inr (.inr z.1))) (h, z.2)
  | 0 => fun dX hX d _ h D p0 p1 z hz => by cases hz
  | n + 1 => fun dX hX d hd h D p0 p1 z hz => ok_X9_random (R_X9_random n) dX hX (1 + n) (by omega) (okR_X9_random n dX hX) d (by omega) h D p0 p1 z hz
noncomputable def F_X9_text (S : gDS → gRF → Int32 → Option (gRF × gDS)) (D : gDS) (o : gRF) (p0 : Int32) : Option (gRF × gDS) :=
 (gRv D o 9).bind fun _ =>
 (gFi D o 9 0).bind fun z1 =>
 if ¬ z1 = 0 then
  (gFi D o 9 0).bind fun z2 =>
  if ¬ z2 = (1 : Int32) then
   (gFi D o 9 0).bind fun z3 =>
   jn (fun (v5 : Int32) =>
    (F_J4_init_da8c8 (gNwO D 12) (gTop D)).bind fun y6 =>
    (gFr y6 o 9 2).bind fun r7 =>
    (S y6 r7 v5).bind fun y8 =>
    (F_J4_append_15ec4 y8.2 (gTop D) y8.1).bind fun y9 =>
    (gFi y9.2 o 9 0).bind fun z10 =>
    jn (fun (v12 : gRF) =>
     (F_J4_append_15ec4 y9.2 y9.1 v12).bind fun y13 =>
     (gFr y13.2 o 9 3).bind fun r14 =>
     (S y13.2 r14 (v5 + (1 : Int32))).bind fun y15 =>
     (F_J4_append_15ec4 y15.2 y13.1 y15.1).bind fun y16 =>
     (F_J4_toString_0e30d y16.2 y16.1).bind fun y17 =>
     if p0 ≤ v5 then
      some ((y17.1, y17.2))
     else
      (F_J4_init_da8c8 (gNwO y17.2 12) (gTop y17.2)).bind fun y18 =>
      (F_J4_append_15ec4 y18 (gTop y17.2) (some (.inr 38))).bind fun y19 =>
      (F_J4_append_15ec4 y19.2 y19.1 y17.1).bind fun y20 =>
      (F_J4_append_15ec4 y20.2 y20.1 (some (.inr 40))).bind fun y21 =>
      (F_J4_toString_0e30d y21.2 y21.1).bind fun y22 =>
      some ((y22.1, y22.2))) (fun k11 =>
     if ¬ z10 = (2 : Int32) then
      (gFi y9.2 o 9 0).bind fun z23 =>
      if ¬ z23 = (3 : Int32) then
       (gFi y9.2 o 9 0).bind fun z24 =>
       if ¬ z24 = (4 : Int32) then
        k11 ((some (.inr 36)))
       else
        k11 ((some (.inr 34)))
      else
       k11 ((some (.inr 32)))
     else
      k11 ((some (.inr 30))))) (fun k4 =>
    if (4 : Int32) ≤ z3 then
     k4 ((2 : Int32))
    else
     k4 ((1 : Int32)))
  else
   (gFi D o 9 1).bind fun z25 =>
   (gQld D (some (.inr 1)) z25).bind fun r26 =>
   some ((r26, D))
 else
  (F_J4_init_da8c8 (gNwO D 12) (gTop D)).bind fun y27 =>
  (F_J4_append_15ec4 y27 (gTop D) (some (.inr 24))).bind fun y28 =>
  (gFi y28.2 o 9 1).bind fun z29 =>
  (F_J4_append_bf812 y28.2 y28.1 z29).bind fun y30 =>
  (F_J4_toString_0e30d y30.2 y30.1).bind fun y31 =>
  some ((y31.1, y31.2))
theorem rv_X9_text {S : gDS → gRF → Int32 → Option (gRF × gDS)} {D : gDS} {o : gRF} {p0 : Int32} {z} (hz : F_X9_text S D o p0 = some z) : gRv D o 9 = some () := by
  unfold F_X9_text at hz
  exact rv_bind hz
set_option maxHeartbeats 4000000 in
set_option maxRecDepth 100000 in
theorem ok_X9_text (S : gDS → gRF → Int32 → Option (gRF × gDS)) (dX : Nat) (hX : 40 ≤ dX) (dS : Nat) (hB : 6 ≤ dS) (hS : ∀ d, dS ≤ d → ∀ (h : PH) (D : gDS) (o : gRF) (p0 : Int32), ∀ z, S D o p0 = some z → gEx dX d 59 [.inr (.inr o), .inl p0] (h, D) (some (.inr (.inr z.1))) (h, z.2)) (hV : ∀ {D : gDS} {o : gRF} {p0 : Int32} {z}, S D o p0 = some z → gRv D o 9 = some ()) (d : Nat) (hd : dS + 1 ≤ d) (h : PH) (D : gDS) (o : gRF) (p0 : Int32) : ∀ z, F_X9_text S D o p0 = some z → gEx dX d 59 [.inr (.inr o), .inl p0] (h, D) (some (.inr (.inr z.1))) (h, z.2) := by
  obtain ⟨d, rfl⟩ : ∃ e, d = e + 1 := ⟨d - 1, by omega⟩
  intro z hz
  refine ⟨rfl, ?_⟩
  refine (?_ : GSim (gEx dX d) (Ex dX) gmi_X9_text (fun o1 h1 => o1 = _ ∧ h1 = _) (F_X9_text S D o p0) (fun t => t = z) 0 [some (.inr (.inr o)), some (.inl p0), none, none] [] (h, D)) z hz rfl
  clear hz
  unfold F_X9_text
  refine gRc ?_
  refine gS rfl rfl ?_
  refine gO rfl rfl (fun z1 => ?_)
  refine gB rfl rfl ?_ ?_
  · refine gS rfl rfl ?_
    refine gO rfl rfl (fun z2 => ?_)
    refine gS rfl rfl ?_
    refine gB rfl rfl ?_ ?_
    · refine gS rfl rfl ?_
      refine gO rfl rfl (fun z3 => ?_)
      refine gS rfl rfl ?_
      refine gJn 60 (fun (v5 : Int32) => [some (.inr (.inr o)), some (.inl p0), none, none]) (fun (v5 : Int32) => [.inl v5]) (fun (v5 : Int32) => (h, D)) (fun v5 => ?_) (fun k4 hk4 => ?_)
      · refine gS (lv' := [some (.inr (.inr o)), some (.inl p0), some (.inl v5), none]) rfl rfl ?_
        refine gS rfl rfl ?_
        refine gS rfl rfl ?_
        refine gC (st' := fun y6 => [.inr (.inr (gTop D))]) rfl rfl (fun _ _ => rfl) rfl (ok_J4_init_da8c8 dX hX d (by omega) h (gNwO D 12) (gTop D)) (fun z => rfl) (fun y6 => ?_)
        refine gS rfl rfl ?_
        refine gO rfl rfl (fun r7 => ?_)
        refine gS rfl rfl ?_
        refine gC (st' := fun y8 => [.inr (.inr y8.1), .inr (.inr (gTop D))]) rfl rfl (fun _ hz => rv_recv (ci := 9) (by omega) (hV hz)) rfl (hS d (by omega) h y6 r7 v5) (fun z => rfl) (fun y8 => ?_)
        refine gC (st' := fun y9 => [.inr (.inr y9.1)]) rfl rfl (fun _ hz => rv_recv (ci := 12) (by omega) (rv_J4_append_15ec4 hz)) rfl (ok_J4_append_15ec4 dX hX d (by omega) h y8.2 (gTop D) y8.1) (fun z => rfl) (fun y9 => ?_)
        refine gS rfl rfl ?_
        refine gO rfl rfl (fun z10 => ?_)
        refine gS rfl rfl ?_
        refine gJn 120 (fun (v12 : gRF) => [some (.inr (.inr o)), some (.inl p0), some (.inl v5), none]) (fun (v12 : gRF) => [.inr (.inr v12), .inr (.inr y9.1)]) (fun (v12 : gRF) => (h, y9.2)) (fun v12 => ?_) (fun k11 hk11 => ?_)
        · refine gC (st' := fun y13 => [.inr (.inr y13.1)]) rfl rfl (fun _ hz => rv_recv (ci := 12) (by omega) (rv_J4_append_15ec4 hz)) rfl (ok_J4_append_15ec4 dX hX d (by omega) h y9.2 y9.1 v12) (fun z => rfl) (fun y13 => ?_)
          refine gS rfl rfl ?_
          refine gO rfl rfl (fun r14 => ?_)
          refine gS rfl rfl ?_
          refine gS rfl rfl ?_
          refine gS rfl rfl ?_
          refine gC (st' := fun y15 => [.inr (.inr y15.1), .inr (.inr y13.1)]) rfl rfl (fun _ hz => rv_recv (ci := 9) (by omega) (hV hz)) rfl (hS d (by omega) h y13.2 r14 (v5 + (1 : Int32))) (fun z => rfl) (fun y15 => ?_)
          refine gC (st' := fun y16 => [.inr (.inr y16.1)]) rfl rfl (fun _ hz => rv_recv (ci := 12) (by omega) (rv_J4_append_15ec4 hz)) rfl (ok_J4_append_15ec4 dX hX d (by omega) h y15.2 y13.1 y15.1) (fun z => rfl) (fun y16 => ?_)
          refine gC (st' := fun y17 => [.inr (.inr y17.1)]) rfl rfl (fun _ hz => rv_recv (ci := 12) (by omega) (rv_J4_toString_0e30d hz)) rfl (ok_J4_toString_0e30d dX hX d (by omega) h y16.2 y16.1) (fun z => rfl) (fun y17 => ?_)
          refine gS (lv' := [some (.inr (.inr o)), some (.inl p0), some (.inl v5), some (.inr (.inr y17.1))]) rfl rfl ?_
          refine gS rfl rfl ?_
          refine gS rfl rfl ?_
          refine gB rfl rfl ?_ ?_
          · refine gS rfl rfl ?_
            exact gRt rfl rfl (fun hg => by cases hg; exact ⟨rfl, rfl⟩)
          · refine gS rfl rfl ?_
            refine gS rfl rfl ?_
            refine gC (st' := fun y18 => [.inr (.inr (gTop y17.2))]) rfl rfl (fun _ _ => rfl) rfl (ok_J4_init_da8c8 dX hX d (by omega) h (gNwO y17.2 12) (gTop y17.2)) (fun z => rfl) (fun y18 => ?_)
            refine gS rfl rfl ?_
            refine gC (st' := fun y19 => [.inr (.inr y19.1)]) rfl rfl (fun _ hz => rv_recv (ci := 12) (by omega) (rv_J4_append_15ec4 hz)) rfl (ok_J4_append_15ec4 dX hX d (by omega) h y18 (gTop y17.2) (some (.inr 38))) (fun z => rfl) (fun y19 => ?_)
            refine gS rfl rfl ?_
            refine gC (st' := fun y20 => [.inr (.inr y20.1)]) rfl rfl (fun _ hz => rv_recv (ci := 12) (by omega) (rv_J4_append_15ec4 hz)) rfl (ok_J4_append_15ec4 dX hX d (by omega) h y19.2 y19.1 y17.1) (fun z => rfl) (fun y20 => ?_)
            refine gS rfl rfl ?_
            refine gC (st' := fun y21 => [.inr (.inr y21.1)]) rfl rfl (fun _ hz => rv_recv (ci := 12) (by omega) (rv_J4_append_15ec4 hz)) rfl (ok_J4_append_15ec4 dX hX d (by omega) h y20.2 y20.1 (some (.inr 40))) (fun z => rfl) (fun y21 => ?_)
            refine gC (st' := fun y22 => [.inr (.inr y22.1)]) rfl rfl (fun _ hz => rv_recv (ci := 12) (by omega) (rv_J4_toString_0e30d hz)) rfl (ok_J4_toString_0e30d dX hX d (by omega) h y21.2 y21.1) (fun z => rfl) (fun y22 => ?_)
            refine gS rfl rfl ?_
            exact gRt rfl rfl (fun hg => by cases hg; exact ⟨rfl, rfl⟩)
        · refine gB rfl rfl ?_ ?_
          · refine gS rfl rfl ?_
            refine gO rfl rfl (fun z23 => ?_)
            refine gS rfl rfl ?_
            refine gB rfl rfl ?_ ?_
            · refine gS rfl rfl ?_
              refine gO rfl rfl (fun z24 => ?_)
              refine gS rfl rfl ?_
              refine gB rfl rfl ?_ ?_
              · refine gS rfl rfl ?_
                have h3 := hk11 ((some (.inr 36)))
                exact h3
              · refine gS rfl rfl ?_
                refine gS rfl rfl ?_
                have h3 := hk11 ((some (.inr 34)))
                exact h3
            · refine gS rfl rfl ?_
              refine gS rfl rfl ?_
              have h3 := hk11 ((some (.inr 32)))
              exact h3
          · refine gS rfl rfl ?_
            refine gS rfl rfl ?_
            have h3 := hk11 ((some (.inr 30)))
            exact h3
      · refine gB rfl rfl ?_ ?_
        · refine gS rfl rfl ?_
          have h3 := hk4 ((2 : Int32))
          exact h3
        · refine gS rfl rfl ?_
          refine gS rfl rfl ?_
          have h3 := hk4 ((1 : Int32))
          exact h3
    · refine gS rfl rfl ?_
      refine gS rfl rfl ?_
      refine gO rfl rfl (fun z25 => ?_)
      refine gO rfl rfl (fun r26 => ?_)
      exact gRt rfl rfl (fun hg => by cases hg; exact ⟨rfl, rfl⟩)
  · refine gS rfl rfl ?_
    refine gS rfl rfl ?_
    refine gC (st' := fun y27 => [.inr (.inr (gTop D))]) rfl rfl (fun _ _ => rfl) rfl (ok_J4_init_da8c8 dX hX d (by omega) h (gNwO D 12) (gTop D)) (fun z => rfl) (fun y27 => ?_)
    refine gS rfl rfl ?_
    refine gC (st' := fun y28 => [.inr (.inr y28.1)]) rfl rfl (fun _ hz => rv_recv (ci := 12) (by omega) (rv_J4_append_15ec4 hz)) rfl (ok_J4_append_15ec4 dX hX d (by omega) h y27 (gTop D) (some (.inr 24))) (fun z => rfl) (fun y28 => ?_)
    refine gS rfl rfl ?_
    refine gO rfl rfl (fun z29 => ?_)
    refine gC (st' := fun y30 => [.inr (.inr y30.1)]) rfl rfl (fun _ hz => rv_recv (ci := 12) (by omega) (rv_J4_append_bf812 hz)) rfl (ok_J4_append_bf812 dX hX d (by omega) h y28.2 y28.1 z29) (fun z => rfl) (fun y30 => ?_)
    refine gC (st' := fun y31 => [.inr (.inr y31.1)]) rfl rfl (fun _ hz => rv_recv (ci := 12) (by omega) (rv_J4_toString_0e30d hz)) rfl (ok_J4_toString_0e30d dX hX d (by omega) h y30.2 y30.1) (fun z => rfl) (fun y31 => ?_)
    exact gRt rfl rfl (fun hg => by cases hg; exact ⟨rfl, rfl⟩)
noncomputable def R_X9_text : Nat → gDS → gRF → Int32 → Option (gRF × gDS)
  | 0 => fun _ _ _ => none
  | n + 1 => F_X9_text (R_X9_text n)
theorem rvR_X9_text (n : Nat) {D : gDS} {o : gRF} {p0 : Int32} {z} (hz : R_X9_text n D o p0 = some z) : gRv D o 9 = some () := by
  cases n with
  | zero => cases hz
  | succ n => exact rv_X9_text hz
theorem okR_X9_text : ∀ (n : Nat) (dX : Nat) (hX : 40 ≤ dX) (d : Nat), 6 + n ≤ d → ∀ (h : PH) (D : gDS) (o : gRF) (p0 : Int32), ∀ z, R_X9_text n D o p0 = some z → gEx dX d 59 [.inr (.inr o), .inl p0] (h, D) (some (.inr (.inr z.1))) (h, z.2)
  | 0 => fun dX hX d _ h D o p0 z hz => by cases hz
  | n + 1 => fun dX hX d hd h D o p0 z hz => ok_X9_text (R_X9_text n) dX hX (6 + n) (by omega) (okR_X9_text n dX hX) (fun hz => rvR_X9_text n hz) d (by omega) h D o p0 z hz
noncomputable def F_X10_init (D : gDS) (o : gRF) (p0 : Int32) : Option gDS :=
 (o).bind fun q1 =>
 (gFst D (some q1) 10 0 (.inl p0)).bind fun D2 =>
 some (D2)
set_option maxHeartbeats 4000000 in
set_option maxRecDepth 100000 in
theorem ok_X10_init (dX : Nat) (hX : 40 ≤ dX) (d : Nat) (hd : 1 ≤ d) (h : PH) (D : gDS) (o : gRF) (p0 : Int32) : ∀ z, F_X10_init D o p0 = some z → gEx dX d 61 [.inr (.inr o), .inl p0] (h, D) (none) (h, z) := by
  obtain ⟨d, rfl⟩ : ∃ e, d = e + 1 := ⟨d - 1, by omega⟩
  intro z hz
  refine ⟨rfl, ?_⟩
  refine (?_ : GSim (gEx dX d) (Ex dX) gmi_X10_init (fun o1 h1 => o1 = _ ∧ h1 = _) (F_X10_init D o p0) (fun t => t = z) 0 [some (.inr (.inr o)), some (.inl p0)] [] (h, D)) z hz rfl
  clear hz
  unfold F_X10_init
  refine gS rfl rfl ?_
  rcases o with _ | q1
  · exact gNb
  refine gSb ?_
  refine gS rfl rfl ?_
  refine gS rfl rfl ?_
  refine gS rfl rfl ?_
  refine gO rfl rfl (fun D2 => ?_)
  exact gRt rfl rfl (fun hg => by cases hg; exact ⟨rfl, rfl⟩)
noncomputable def F_L_flush (s : gST) (p1 : gRF) : Option gST :=
 (gIld s.2 p1 1 (1 : Int32)).bind fun z1 =>
 (gIld s.2 p1 1 (2 : Int32)).bind fun z2 =>
 (gIld s.2 p1 1 (3 : Int32)).bind fun z3 =>
 (gIld s.2 p1 1 (4 : Int32)).bind fun z4 =>
 (gIld s.2 p1 1 (5 : Int32)).bind fun z5 =>
 (F_X7_append s.1 z1 z2 z3 z4 z5).bind fun x6 =>
 loop (fun (s7 : Int32 × gST) =>
  if (6 : Int32) ≤ s7.1 then
   some (.inr ((s7.2.1, s7.2.2)))
  else
   (gIst s7.2.2 p1 1 s7.1 (0 : Int32)).bind fun D8 =>
   some (.inl ((s7.1 + (1 : Int32)), (s7.2.1, D8)))) ((1 : Int32), (x6.2, s.2))
set_option maxHeartbeats 4000000 in
set_option maxRecDepth 100000 in
theorem ok_L_flush (dX : Nat) (hX : 40 ≤ dX) (d : Nat) (hd : 1 ≤ d) (s : gST) (p1 : gRF) : ∀ z, F_L_flush s p1 = some z → gEx dX d 64 [.inr (.inr (some (.inr 0))), .inr (.inr p1)] s (none) z := by
  obtain ⟨d, rfl⟩ : ∃ e, d = e + 1 := ⟨d - 1, by omega⟩
  intro z hz
  refine ⟨rfl, ?_⟩
  refine (?_ : GSim (gEx dX d) (Ex dX) gmi_L_flush (fun o1 h1 => o1 = _ ∧ h1 = _) (F_L_flush s p1) (fun t => t = z) 0 [some (.inr (.inr (some (.inr 0)))), some (.inr (.inr p1)), none] [] s) z hz rfl
  clear hz
  unfold F_L_flush
  refine gS rfl rfl ?_
  refine gS rfl rfl ?_
  refine gS rfl rfl ?_
  refine gO rfl rfl (fun z1 => ?_)
  refine gS rfl rfl ?_
  refine gS rfl rfl ?_
  refine gO rfl rfl (fun z2 => ?_)
  refine gS rfl rfl ?_
  refine gS rfl rfl ?_
  refine gO rfl rfl (fun z3 => ?_)
  refine gS rfl rfl ?_
  refine gS rfl rfl ?_
  refine gO rfl rfl (fun z4 => ?_)
  refine gS rfl rfl ?_
  refine gS rfl rfl ?_
  refine gO rfl rfl (fun z5 => ?_)
  refine gX (n := 0) (st' := fun x6 => [.inl x6.1]) (s' := fun x6 => (x6.2, s.2)) rfl rfl rfl rfl rfl rfl (ok_X7_append dX (by omega) s.1 z1 z2 z3 z4 z5) (fun z => rfl) (fun z => rfl) (fun x6 => ?_)
  refine gS rfl rfl ?_
  refine gS rfl rfl ?_
  refine gS (lv' := [some (.inr (.inr (some (.inr 0)))), some (.inr (.inr p1)), some (.inl (1 : Int32))]) rfl rfl ?_
  refine gMk [false, true, true] (lv' := [none, some (.inr (.inr p1)), some (.inl (1 : Int32))]) rfl rfl ?_
  refine gL (pc := 22) (lv := fun (s7 : Int32 × gST) => [none, some (.inr (.inr p1)), some (.inl s7.1)]) (s := fun (s7 : Int32 × gST) => (s7.2.1, s7.2.2)) (fun s7 => ?_) ((1 : Int32), (x6.2, s.2))
  refine gS rfl rfl ?_
  refine gS rfl rfl ?_
  refine gB rfl rfl ?_ ?_
  · exact gRt rfl rfl (fun hg => by cases hg; exact ⟨rfl, rfl⟩)
  · refine gS rfl rfl ?_
    refine gS rfl rfl ?_
    refine gS rfl rfl ?_
    refine gO rfl rfl (fun D8 => ?_)
    refine gS (lv' := [none, some (.inr (.inr p1)), some (.inl (s7.1 + (1 : Int32)))]) rfl rfl ?_
    refine gS rfl rfl ?_
    exact gJ (fun h2 => h2)
noncomputable def F_L_put (s : gST) (p1 : gRF) (p2 : Int32) : Option gST :=
 (gIld s.2 p1 1 (0 : Int32)).bind fun z1 =>
 (gIld s.2 p1 1 ((1 : Int32) + ((z1 - z1 / (20 : Int32) * (20 : Int32)) / (4 : Int32)))).bind fun z2 =>
 (gIld s.2 p1 1 (0 : Int32)).bind fun z3 =>
 (gIst s.2 p1 1 ((1 : Int32) + ((z1 - z1 / (20 : Int32) * (20 : Int32)) / (4 : Int32))) (z2 ||| (p2 <<< (((24 : Int32) - ((8 : Int32) * (z3 - z3 / (4 : Int32) * (4 : Int32)))) &&& 31)))).bind fun D4 =>
 (gIld D4 p1 1 (0 : Int32)).bind fun z5 =>
 (gIst D4 p1 1 (0 : Int32) (z5 + (1 : Int32))).bind fun D6 =>
 (gIld D6 p1 1 (0 : Int32)).bind fun z7 =>
 if ¬ (z7 - z7 / (20 : Int32) * (20 : Int32)) = 0 then
  some ((s.1, D6))
 else
  (F_L_flush (s.1, D6) p1).bind fun y8 =>
  some ((y8.1, y8.2))
set_option maxHeartbeats 4000000 in
set_option maxRecDepth 100000 in
theorem ok_L_put (dX : Nat) (hX : 40 ≤ dX) (d : Nat) (hd : 2 ≤ d) (s : gST) (p1 : gRF) (p2 : Int32) : ∀ z, F_L_put s p1 p2 = some z → gEx dX d 63 [.inr (.inr (some (.inr 0))), .inr (.inr p1), .inl p2] s (none) z := by
  obtain ⟨d, rfl⟩ : ∃ e, d = e + 1 := ⟨d - 1, by omega⟩
  intro z hz
  refine ⟨rfl, ?_⟩
  refine (?_ : GSim (gEx dX d) (Ex dX) gmi_L_put (fun o1 h1 => o1 = _ ∧ h1 = _) (F_L_put s p1 p2) (fun t => t = z) 0 [some (.inr (.inr (some (.inr 0)))), some (.inr (.inr p1)), some (.inl p2)] [] s) z hz rfl
  clear hz
  unfold F_L_put
  refine gS rfl rfl ?_
  refine gS rfl rfl ?_
  refine gS rfl rfl ?_
  refine gS rfl rfl ?_
  refine gO rfl rfl (fun z1 => ?_)
  refine gS rfl rfl ?_
  refine gS rfl rfl ?_
  refine gS rfl rfl ?_
  refine gS rfl rfl ?_
  refine gS rfl rfl ?_
  refine gS rfl rfl ?_
  refine gO rfl rfl (fun z2 => ?_)
  refine gS rfl rfl ?_
  refine gS rfl rfl ?_
  refine gS rfl rfl ?_
  refine gS rfl rfl ?_
  refine gS rfl rfl ?_
  refine gO rfl rfl (fun z3 => ?_)
  refine gS rfl rfl ?_
  refine gS rfl rfl ?_
  refine gS rfl rfl ?_
  refine gS rfl rfl ?_
  refine gS rfl rfl ?_
  refine gS rfl rfl ?_
  refine gO rfl rfl (fun D4 => ?_)
  refine gS rfl rfl ?_
  refine gS rfl rfl ?_
  refine gS rfl rfl ?_
  refine gO rfl rfl (fun z5 => ?_)
  refine gS rfl rfl ?_
  refine gS rfl rfl ?_
  refine gO rfl rfl (fun D6 => ?_)
  refine gS rfl rfl ?_
  refine gS rfl rfl ?_
  refine gO rfl rfl (fun z7 => ?_)
  refine gS rfl rfl ?_
  refine gS rfl rfl ?_
  refine gB rfl rfl ?_ ?_
  · exact gRt rfl rfl (fun hg => by cases hg; exact ⟨rfl, rfl⟩)
  · refine gS rfl rfl ?_
    refine gS rfl rfl ?_
    refine gC (st' := fun y8 => []) rfl rfl (fun _ _ => rfl) rfl (ok_L_flush dX hX d (by omega) (s.1, D6) p1) (fun z => rfl) (fun y8 => ?_)
    exact gRt rfl rfl (fun hg => by cases hg; exact ⟨rfl, rfl⟩)
noncomputable def F_L_loadText (s : gST) (p1 : gRF) : Option (Int32 × gST) :=
 (gIld s.2 p1 1 (0 : Int32)).bind fun z1 =>
 jn (fun (v3 : gST) =>
  (gIst v3.2 p1 1 (0 : Int32) (0 : Int32)).bind fun D4 =>
  (F_L_load v3.1 z1).bind fun x5 =>
  some ((x5.1, (x5.2, (gBm D4 1))))) (fun k2 =>
  if (z1 - z1 / (20 : Int32) * (20 : Int32)) ≤ 0 then
   k2 ((s.1, s.2))
  else
   (F_L_flush (s.1, s.2) p1).bind fun y6 =>
   k2 ((y6.1, y6.2)))
set_option maxHeartbeats 4000000 in
set_option maxRecDepth 100000 in
theorem ok_L_loadText (dX : Nat) (hX : 40 ≤ dX) (d : Nat) (hd : 2 ≤ d) (s : gST) (p1 : gRF) : ∀ z, F_L_loadText s p1 = some z → gEx dX d 65 [.inr (.inr (some (.inr 0))), .inr (.inr p1)] s (some (.inl z.1)) z.2 := by
  obtain ⟨d, rfl⟩ : ∃ e, d = e + 1 := ⟨d - 1, by omega⟩
  intro z hz
  refine ⟨rfl, ?_⟩
  refine (?_ : GSim (gEx dX d) (Ex dX) gmi_L_loadText (fun o1 h1 => o1 = _ ∧ h1 = _) (F_L_loadText s p1) (fun t => t = z) 0 [some (.inr (.inr (some (.inr 0)))), some (.inr (.inr p1)), none] [] s) z hz rfl
  clear hz
  unfold F_L_loadText
  refine gS rfl rfl ?_
  refine gS rfl rfl ?_
  refine gO rfl rfl (fun z1 => ?_)
  refine gS (lv' := [some (.inr (.inr (some (.inr 0)))), some (.inr (.inr p1)), some (.inl z1)]) rfl rfl ?_
  refine gS rfl rfl ?_
  refine gS rfl rfl ?_
  refine gS rfl rfl ?_
  refine gJn 16 (fun (v3 : gST) => [some (.inr (.inr (some (.inr 0)))), some (.inr (.inr p1)), some (.inl z1)]) (fun (v3 : gST) => []) (fun (v3 : gST) => (v3.1, v3.2)) (fun v3 => ?_) (fun k2 hk2 => ?_)
  · refine gS rfl rfl ?_
    refine gS rfl rfl ?_
    refine gS rfl rfl ?_
    refine gO rfl rfl (fun D4 => ?_)
    refine gS rfl rfl ?_
    refine gS rfl rfl ?_
    refine gX (n := 1) (st' := fun x5 => [.inl x5.1]) (s' := fun x5 => (x5.2, (gBm D4 1))) rfl rfl rfl rfl rfl rfl (ok_L_load dX (by omega) v3.1 z1) (fun z => rfl) (fun z => rfl) (fun x5 => ?_)
    exact gRt rfl rfl (fun hg => by cases hg; exact ⟨rfl, rfl⟩)
  · refine gB rfl rfl ?_ ?_
    · have h3 := hk2 ((s.1, s.2))
      exact h3
    · refine gS rfl rfl ?_
      refine gS rfl rfl ?_
      refine gC (st' := fun y6 => []) rfl rfl (fun _ _ => rfl) rfl (ok_L_flush dX hX d (by omega) (s.1, s.2) p1) (fun z => rfl) (fun y6 => ?_)
      have h3 := hk2 ((y6.1, y6.2))
      exact h3
noncomputable def F_L_write (s : gST) (p1 : gRF) (p2 : gRF) : Option gST :=
 loop (fun (s1 : Int32 × gST) =>
  (F_J0_length_8abf5 s1.2.2 p2).bind fun y2 =>
  if y2 ≤ s1.1 then
   some (.inr ((s1.2.1, s1.2.2)))
  else
   (F_J0_charAt_5068e s1.2.2 p2 s1.1).bind fun y3 =>
   (F_L_put (s1.2.1, s1.2.2) p1 y3).bind fun y4 =>
   some (.inl ((s1.1 + (1 : Int32)), (y4.1, y4.2)))) ((0 : Int32), (s.1, s.2))
set_option maxHeartbeats 4000000 in
set_option maxRecDepth 100000 in
theorem ok_L_write (dX : Nat) (hX : 40 ≤ dX) (d : Nat) (hd : 3 ≤ d) (s : gST) (p1 : gRF) (p2 : gRF) : ∀ z, F_L_write s p1 p2 = some z → gEx dX d 66 [.inr (.inr (some (.inr 0))), .inr (.inr p1), .inr (.inr p2)] s (none) z := by
  obtain ⟨d, rfl⟩ : ∃ e, d = e + 1 := ⟨d - 1, by omega⟩
  intro z hz
  refine ⟨rfl, ?_⟩
  refine (?_ : GSim (gEx dX d) (Ex dX) gmi_L_write (fun o1 h1 => o1 = _ ∧ h1 = _) (F_L_write s p1 p2) (fun t => t = z) 0 [some (.inr (.inr (some (.inr 0)))), some (.inr (.inr p1)), some (.inr (.inr p2)), none] [] s) z hz rfl
  clear hz
  unfold F_L_write
  refine gS rfl rfl ?_
  refine gS (lv' := [some (.inr (.inr (some (.inr 0)))), some (.inr (.inr p1)), some (.inr (.inr p2)), some (.inl (0 : Int32))]) rfl rfl ?_
  refine gL (pc := 2) (lv := fun (s1 : Int32 × gST) => [some (.inr (.inr (some (.inr 0)))), some (.inr (.inr p1)), some (.inr (.inr p2)), some (.inl s1.1)]) (s := fun (s1 : Int32 × gST) => (s1.2.1, s1.2.2)) (fun s1 => ?_) ((0 : Int32), (s.1, s.2))
  refine gS rfl rfl ?_
  refine gS rfl rfl ?_
  refine gC (st' := fun y2 => [.inl y2, .inl s1.1]) rfl rfl (fun _ hz => rv_recv (ci := 11) (by omega) (rv_J0_length_8abf5 hz)) rfl (ok_J0_length_8abf5 dX hX d (by omega) s1.2.1 s1.2.2 p2) (fun z => rfl) (fun y2 => ?_)
  refine gB rfl rfl ?_ ?_
  · exact gRt rfl rfl (fun hg => by cases hg; exact ⟨rfl, rfl⟩)
  · refine gS rfl rfl ?_
    refine gS rfl rfl ?_
    refine gS rfl rfl ?_
    refine gS rfl rfl ?_
    refine gC (st' := fun y3 => [.inl y3, .inr (.inr p1), .inr (.inr (some (.inr 0)))]) rfl rfl (fun _ hz => rv_recv (ci := 11) (by omega) (rv_J0_charAt_5068e hz)) rfl (ok_J0_charAt_5068e dX hX d (by omega) s1.2.1 s1.2.2 p2 s1.1) (fun z => rfl) (fun y3 => ?_)
    refine gC (st' := fun y4 => []) rfl rfl (fun _ _ => rfl) rfl (ok_L_put dX hX d (by omega) (s1.2.1, s1.2.2) p1 y3) (fun z => rfl) (fun y4 => ?_)
    refine gS (lv' := [some (.inr (.inr (some (.inr 0)))), some (.inr (.inr p1)), some (.inr (.inr p2)), some (.inl (s1.1 + (1 : Int32)))]) rfl rfl ?_
    refine gS rfl rfl ?_
    exact gJ (fun h2 => h2)
noncomputable def F_L_writeNumber (s : gST) (p1 : gRF) (p2 : Int32) : Option gST :=
 loop (fun (s1 : Int32) =>
  if (p2 / (10 : Int32)) < s1 then
   loop (fun (s2 : Int32 × gST) =>
    if s2.1 ≤ 0 then
     some (.inr (.inr ((s2.2.1, s2.2.2))))
    else
     (gDv p2 s2.1).bind fun z3 =>
     (F_L_put (s2.2.1, s2.2.2) p1 ((48 : Int32) + (z3 - z3 / (10 : Int32) * (10 : Int32)))).bind fun y4 =>
     some (.inl ((s2.1 / (10 : Int32)), (y4.1, y4.2)))) (s1, (s.1, s.2))
  else
   some (.inl ((s1 * (10 : Int32))))) ((1 : Int32))
set_option maxHeartbeats 4000000 in
set_option maxRecDepth 100000 in
theorem ok_L_writeNumber (dX : Nat) (hX : 40 ≤ dX) (d : Nat) (hd : 3 ≤ d) (s : gST) (p1 : gRF) (p2 : Int32) : ∀ z, F_L_writeNumber s p1 p2 = some z → gEx dX d 67 [.inr (.inr (some (.inr 0))), .inr (.inr p1), .inl p2] s (none) z := by
  obtain ⟨d, rfl⟩ : ∃ e, d = e + 1 := ⟨d - 1, by omega⟩
  intro z hz
  refine ⟨rfl, ?_⟩
  refine (?_ : GSim (gEx dX d) (Ex dX) gmi_L_writeNumber (fun o1 h1 => o1 = _ ∧ h1 = _) (F_L_writeNumber s p1 p2) (fun t => t = z) 0 [some (.inr (.inr (some (.inr 0)))), some (.inr (.inr p1)), some (.inl p2), none] [] s) z hz rfl
  clear hz
  unfold F_L_writeNumber
  refine gS rfl rfl ?_
  refine gS (lv' := [some (.inr (.inr (some (.inr 0)))), some (.inr (.inr p1)), some (.inl p2), some (.inl (1 : Int32))]) rfl rfl ?_
  refine gL (pc := 2) (lv := fun (s1 : Int32) => [some (.inr (.inr (some (.inr 0)))), some (.inr (.inr p1)), some (.inl p2), some (.inl s1)]) (s := fun (s1 : Int32) => (s.1, s.2)) (fun s1 => ?_) ((1 : Int32))
  refine gS rfl rfl ?_
  refine gS rfl rfl ?_
  refine gS rfl rfl ?_
  refine gS rfl rfl ?_
  refine gB rfl rfl ?_ ?_
  · refine gL (pc := 18) (lv := fun (s2 : Int32 × gST) => [some (.inr (.inr (some (.inr 0)))), some (.inr (.inr p1)), some (.inl p2), some (.inl s2.1)]) (s := fun (s2 : Int32 × gST) => (s2.2.1, s2.2.2)) (fun s2 => ?_) (s1, (s.1, s.2))
    refine gS rfl rfl ?_
    refine gB rfl rfl ?_ ?_
    · exact gRt rfl rfl (fun hg => by cases hg; exact ⟨rfl, rfl⟩)
    · refine gS rfl rfl ?_
      refine gS rfl rfl ?_
      refine gS rfl rfl ?_
      refine gS rfl rfl ?_
      refine gS rfl rfl ?_
      refine gO rfl rfl (fun z3 => ?_)
      refine gS rfl rfl ?_
      refine gS rfl rfl ?_
      refine gS rfl rfl ?_
      refine gC (st' := fun y4 => []) rfl rfl (fun _ _ => rfl) rfl (ok_L_put dX hX d (by omega) (s2.2.1, s2.2.2) p1 ((48 : Int32) + (z3 - z3 / (10 : Int32) * (10 : Int32)))) (fun z => rfl) (fun y4 => ?_)
      refine gS rfl rfl ?_
      refine gS rfl rfl ?_
      refine gS rfl rfl ?_
      refine gS (lv' := [some (.inr (.inr (some (.inr 0)))), some (.inr (.inr p1)), some (.inl p2), some (.inl (s2.1 / (10 : Int32)))]) rfl rfl ?_
      refine gS rfl rfl ?_
      exact gJ (fun h2 => h2)
  · refine gS rfl rfl ?_
    refine gS rfl rfl ?_
    refine gS rfl rfl ?_
    refine gS (lv' := [some (.inr (.inr (some (.inr 0)))), some (.inr (.inr p1)), some (.inl p2), some (.inl (s1 * (10 : Int32)))]) rfl rfl ?_
    refine gS rfl rfl ?_
    exact gJ (fun h2 => h2)
noncomputable def F_L_with (D : gDS) (p0 : gRF) (p1 : gRF) : Option (gRF × gDS) :=
 (gLen D p0).bind fun z1 =>
 (gNwQ D 6 (z1 + (1 : Int32))).bind fun D2 =>
 loop (fun (s3 : Int32 × gDS) =>
  (gLen s3.2 p0).bind fun z4 =>
  if z4 ≤ s3.1 then
   (gLen s3.2 p0).bind fun z5 =>
   (gQst s3.2 (gTop D) z5 p1).bind fun D6 =>
   some (.inr (((gTop D), D6)))
  else
   (gQld s3.2 p0 s3.1).bind fun r7 =>
   (gQst s3.2 (gTop D) s3.1 r7).bind fun D8 =>
   some (.inl ((s3.1 + (1 : Int32)), D8))) ((0 : Int32), D2)
set_option maxHeartbeats 4000000 in
set_option maxRecDepth 100000 in
theorem ok_L_with (dX : Nat) (hX : 40 ≤ dX) (d : Nat) (hd : 1 ≤ d) (h : PH) (D : gDS) (p0 : gRF) (p1 : gRF) : ∀ z, F_L_with D p0 p1 = some z → gEx dX d 68 [.inr (.inr p0), .inr (.inr p1)] (h, D) (some (.inr (.inr z.1))) (h, z.2) := by
  obtain ⟨d, rfl⟩ : ∃ e, d = e + 1 := ⟨d - 1, by omega⟩
  intro z hz
  refine ⟨rfl, ?_⟩
  refine (?_ : GSim (gEx dX d) (Ex dX) gmi_L_with (fun o1 h1 => o1 = _ ∧ h1 = _) (F_L_with D p0 p1) (fun t => t = z) 0 [some (.inr (.inr p0)), some (.inr (.inr p1)), none, none] [] (h, D)) z hz rfl
  clear hz
  unfold F_L_with
  refine gS rfl rfl ?_
  refine gO rfl rfl (fun z1 => ?_)
  refine gS rfl rfl ?_
  refine gS rfl rfl ?_
  refine gO rfl rfl (fun D2 => ?_)
  refine gS (lv' := [some (.inr (.inr p0)), some (.inr (.inr p1)), some (.inr (.inr (gTop D))), none]) rfl rfl ?_
  refine gS rfl rfl ?_
  refine gS (lv' := [some (.inr (.inr p0)), some (.inr (.inr p1)), some (.inr (.inr (gTop D))), some (.inl (0 : Int32))]) rfl rfl ?_
  refine gL (pc := 10) (lv := fun (s3 : Int32 × gDS) => [some (.inr (.inr p0)), some (.inr (.inr p1)), some (.inr (.inr (gTop D))), some (.inl s3.1)]) (s := fun (s3 : Int32 × gDS) => (h, s3.2)) (fun s3 => ?_) ((0 : Int32), D2)
  refine gS rfl rfl ?_
  refine gS rfl rfl ?_
  refine gO rfl rfl (fun z4 => ?_)
  refine gB rfl rfl ?_ ?_
  · refine gS rfl rfl ?_
    refine gS rfl rfl ?_
    refine gO rfl rfl (fun z5 => ?_)
    refine gS rfl rfl ?_
    refine gO rfl rfl (fun D6 => ?_)
    refine gS rfl rfl ?_
    exact gRt rfl rfl (fun hg => by cases hg; exact ⟨rfl, rfl⟩)
  · refine gS rfl rfl ?_
    refine gS rfl rfl ?_
    refine gS rfl rfl ?_
    refine gS rfl rfl ?_
    refine gO rfl rfl (fun r7 => ?_)
    refine gO rfl rfl (fun D8 => ?_)
    refine gS (lv' := [some (.inr (.inr p0)), some (.inr (.inr p1)), some (.inr (.inr (gTop D))), some (.inl (s3.1 + (1 : Int32)))]) rfl rfl ?_
    refine gS rfl rfl ?_
    exact gJ (fun h2 => h2)
noncomputable def F_L_writeNumbers (s : gST) (p1 : gRF) (p2 : gRF) (p3 : gRF) : Option gST :=
 (F_L_write (s.1, s.2) p1 p2).bind fun y1 =>
 (gLen y1.2 p3).bind fun z2 =>
 loop (fun (s3 : Int32 × gST) =>
  if z2 ≤ s3.1 then
   (F_L_write (s3.2.1, s3.2.2) p1 (some (.inr 22))).bind fun y4 =>
   some (.inr ((y4.1, y4.2)))
  else
   (gIld s3.2.2 p3 1 s3.1).bind fun z5 =>
   (F_L_write (s3.2.1, s3.2.2) p1 (some (.inr 20))).bind fun y6 =>
   (F_L_writeNumber (y6.1, y6.2) p1 z5).bind fun y7 =>
   some (.inl ((s3.1 + (1 : Int32)), (y7.1, y7.2)))) ((0 : Int32), (y1.1, y1.2))
set_option maxHeartbeats 4000000 in
set_option maxRecDepth 100000 in
theorem ok_L_writeNumbers (dX : Nat) (hX : 40 ≤ dX) (d : Nat) (hd : 4 ≤ d) (s : gST) (p1 : gRF) (p2 : gRF) (p3 : gRF) : ∀ z, F_L_writeNumbers s p1 p2 p3 = some z → gEx dX d 71 [.inr (.inr (some (.inr 0))), .inr (.inr p1), .inr (.inr p2), .inr (.inr p3)] s (none) z := by
  obtain ⟨d, rfl⟩ : ∃ e, d = e + 1 := ⟨d - 1, by omega⟩
  intro z hz
  refine ⟨rfl, ?_⟩
  refine (?_ : GSim (gEx dX d) (Ex dX) gmi_L_writeNumbers (fun o1 h1 => o1 = _ ∧ h1 = _) (F_L_writeNumbers s p1 p2 p3) (fun t => t = z) 0 [some (.inr (.inr (some (.inr 0)))), some (.inr (.inr p1)), some (.inr (.inr p2)), some (.inr (.inr p3)), none, none, none, none] [] s) z hz rfl
  clear hz
  unfold F_L_writeNumbers
  refine gS rfl rfl ?_
  refine gS rfl rfl ?_
  refine gS rfl rfl ?_
  refine gC (st' := fun y1 => []) rfl rfl (fun _ _ => rfl) rfl (ok_L_write dX hX d (by omega) (s.1, s.2) p1 p2) (fun z => rfl) (fun y1 => ?_)
  refine gS rfl rfl ?_
  refine gS (lv' := [some (.inr (.inr (some (.inr 0)))), some (.inr (.inr p1)), some (.inr (.inr p2)), some (.inr (.inr p3)), some (.inr (.inr p3)), none, none, none]) rfl rfl ?_
  refine gS rfl rfl ?_
  refine gO rfl rfl (fun z2 => ?_)
  refine gS (lv' := [some (.inr (.inr (some (.inr 0)))), some (.inr (.inr p1)), some (.inr (.inr p2)), some (.inr (.inr p3)), some (.inr (.inr p3)), some (.inl z2), none, none]) rfl rfl ?_
  refine gS rfl rfl ?_
  refine gS (lv' := [some (.inr (.inr (some (.inr 0)))), some (.inr (.inr p1)), some (.inr (.inr p2)), some (.inr (.inr p3)), some (.inr (.inr p3)), some (.inl z2), some (.inl (0 : Int32)), none]) rfl rfl ?_
  refine gMk [true, true, false, false, true, true, true, true] (lv' := [some (.inr (.inr (some (.inr 0)))), some (.inr (.inr p1)), none, none, some (.inr (.inr p3)), some (.inl z2), some (.inl (0 : Int32)), none]) rfl rfl ?_
  refine gL (pc := 17) (lv := fun (s3 : Int32 × gST) => [some (.inr (.inr (some (.inr 0)))), some (.inr (.inr p1)), none, none, some (.inr (.inr p3)), some (.inl z2), some (.inl s3.1), none]) (s := fun (s3 : Int32 × gST) => (s3.2.1, s3.2.2)) (fun s3 => ?_) ((0 : Int32), (y1.1, y1.2))
  refine gS rfl rfl ?_
  refine gS rfl rfl ?_
  refine gB rfl rfl ?_ ?_
  · refine gS rfl rfl ?_
    refine gS rfl rfl ?_
    refine gS rfl rfl ?_
    refine gC (st' := fun y4 => []) rfl rfl (fun _ _ => rfl) rfl (ok_L_write dX hX d (by omega) (s3.2.1, s3.2.2) p1 (some (.inr 22))) (fun z => rfl) (fun y4 => ?_)
    exact gRt rfl rfl (fun hg => by cases hg; exact ⟨rfl, rfl⟩)
  · refine gS rfl rfl ?_
    refine gS rfl rfl ?_
    refine gO rfl rfl (fun z5 => ?_)
    refine gS (lv' := [some (.inr (.inr (some (.inr 0)))), some (.inr (.inr p1)), none, none, some (.inr (.inr p3)), some (.inl z2), some (.inl s3.1), some (.inl z5)]) rfl rfl ?_
    refine gS rfl rfl ?_
    refine gS rfl rfl ?_
    refine gS rfl rfl ?_
    refine gC (st' := fun y6 => []) rfl rfl (fun _ _ => rfl) rfl (ok_L_write dX hX d (by omega) (s3.2.1, s3.2.2) p1 (some (.inr 20))) (fun z => rfl) (fun y6 => ?_)
    refine gS rfl rfl ?_
    refine gS rfl rfl ?_
    refine gS rfl rfl ?_
    refine gC (st' := fun y7 => []) rfl rfl (fun _ _ => rfl) rfl (ok_L_writeNumber dX hX d (by omega) (y6.1, y6.2) p1 z5) (fun z => rfl) (fun y7 => ?_)
    refine gS (lv' := [some (.inr (.inr (some (.inr 0)))), some (.inr (.inr p1)), none, none, some (.inr (.inr p3)), some (.inl z2), some (.inl (s3.1 + (1 : Int32))), some (.inl z5)]) rfl rfl ?_
    refine gS rfl rfl ?_
    refine gMk [true, true, true, true, true, true, true, false] (lv' := [some (.inr (.inr (some (.inr 0)))), some (.inr (.inr p1)), none, none, some (.inr (.inr p3)), some (.inl z2), some (.inl (s3.1 + (1 : Int32))), none]) rfl rfl ?_
    exact gJ (fun h2 => h2)
