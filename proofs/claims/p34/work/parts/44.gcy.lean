noncomputable def F_X8_init (D : gDS) (o : gRF) : Option gDS :=
 (o).bind fun q1 =>
 (gFst (gAQ D 6 0) (some q1) 8 3 (.inr (.inr (gTop D)))).bind fun D2 =>
 (gFst (gAQ D2 6 0) (some q1) 8 4 (.inr (.inr (gTop D2)))).bind fun D3 =>
 (gFst (gAI D3 1 0) (some q1) 8 5 (.inr (.inr (gTop D3)))).bind fun D4 =>
 (gFst (gAI D4 1 0) (some q1) 8 6 (.inr (.inr (gTop D4)))).bind fun D5 =>
 (gFst (gAQ D5 6 0) (some q1) 8 7 (.inr (.inr (gTop D5)))).bind fun D6 =>
 some (D6)
set_option maxHeartbeats 4000000 in
set_option maxRecDepth 100000 in
theorem ok_X8_init (dX : Nat) (hX : 40 ≤ dX) (d : Nat) (hd : 1 ≤ d) (h : PH) (D : gDS) (o : gRF) : ∀ z, F_X8_init D o = some z → gEx dX d 30 [.inr (.inr o)] (h, D) (none) (h, z) := by
  obtain ⟨d, rfl⟩ : ∃ e, d = e + 1 := ⟨d - 1, by omega⟩
  intro z hz
  refine ⟨rfl, ?_⟩
  refine (?_ : GSim (gEx dX d) (Ex dX) gmi_X8_init (fun o1 h1 => o1 = _ ∧ h1 = _) (F_X8_init D o) (fun t => t = z) 0 [some (.inr (.inr o))] [] (h, D)) z hz rfl
  clear hz
  unfold F_X8_init
  refine gS rfl rfl ?_
  rcases o with _ | q1
  · exact gNb
  refine gSb ?_
  refine gS rfl rfl ?_
  refine gS rfl rfl ?_
  refine gS rfl rfl ?_
  refine gS (s' := (h, (gAQ D 6 0))) rfl rfl ?_
  refine gO rfl rfl (fun D2 => ?_)
  refine gS rfl rfl ?_
  refine gS rfl rfl ?_
  refine gS (s' := (h, (gAQ D2 6 0))) rfl rfl ?_
  refine gO rfl rfl (fun D3 => ?_)
  refine gS rfl rfl ?_
  refine gS rfl rfl ?_
  refine gS (s' := (h, (gAI D3 1 0))) rfl rfl ?_
  refine gO rfl rfl (fun D4 => ?_)
  refine gS rfl rfl ?_
  refine gS rfl rfl ?_
  refine gS (s' := (h, (gAI D4 1 0))) rfl rfl ?_
  refine gO rfl rfl (fun D5 => ?_)
  refine gS rfl rfl ?_
  refine gS rfl rfl ?_
  refine gS (s' := (h, (gAQ D5 6 0))) rfl rfl ?_
  refine gO rfl rfl (fun D6 => ?_)
  exact gRt rfl rfl (fun hg => by cases hg; exact ⟨rfl, rfl⟩)
noncomputable def F_X8_copy (D : gDS) (o : gRF) : Option (gRF × gDS) :=
 (gRv D o 8).bind fun _ =>
 (F_X8_init (gNwO D 8) (gTop D)).bind fun y1 =>
 (gFi y1 o 8 0).bind fun z2 =>
 (gFst y1 (gTop D) 8 0 (.inl z2)).bind fun D3 =>
 (gFi D3 o 8 1).bind fun z4 =>
 (gFst D3 (gTop D) 8 1 (.inl z4)).bind fun D5 =>
 (gFr D5 o 8 2).bind fun r6 =>
 (gFst D5 (gTop D) 8 2 (.inr (.inr r6))).bind fun D7 =>
 (gFr D7 o 8 3).bind fun r8 =>
 (gFst D7 (gTop D) 8 3 (.inr (.inr r8))).bind fun D9 =>
 (gFr D9 o 8 4).bind fun r10 =>
 (gFst D9 (gTop D) 8 4 (.inr (.inr r10))).bind fun D11 =>
 (gFr D11 o 8 5).bind fun r12 =>
 (gFst D11 (gTop D) 8 5 (.inr (.inr r12))).bind fun D13 =>
 (gFr D13 o 8 6).bind fun r14 =>
 (gFst D13 (gTop D) 8 6 (.inr (.inr r14))).bind fun D15 =>
 (gFr D15 o 8 7).bind fun r16 =>
 (gCln D15 r16 6).bind fun D17 =>
 (gIsA D17 (gTop D15) 6).bind fun u18 =>
 (gFst D17 (gTop D) 8 7 (.inr (.inr (gTop D15)))).bind fun D19 =>
 (gFr D19 o 8 8).bind fun r20 =>
 (gFst D19 (gTop D) 8 8 (.inr (.inr r20))).bind fun D21 =>
 some (((gTop D), D21))
theorem rv_X8_copy {D : gDS} {o : gRF} {z} (hz : F_X8_copy D o = some z) : gRv D o 8 = some () := by
  unfold F_X8_copy at hz
  exact rv_bind hz
set_option maxHeartbeats 4000000 in
set_option maxRecDepth 100000 in
theorem ok_X8_copy (dX : Nat) (hX : 40 ≤ dX) (d : Nat) (hd : 2 ≤ d) (h : PH) (D : gDS) (o : gRF) : ∀ z, F_X8_copy D o = some z → gEx dX d 31 [.inr (.inr o)] (h, D) (some (.inr (.inr z.1))) (h, z.2) := by
  obtain ⟨d, rfl⟩ : ∃ e, d = e + 1 := ⟨d - 1, by omega⟩
  intro z hz
  refine ⟨rfl, ?_⟩
  refine (?_ : GSim (gEx dX d) (Ex dX) gmi_X8_copy (fun o1 h1 => o1 = _ ∧ h1 = _) (F_X8_copy D o) (fun t => t = z) 0 [some (.inr (.inr o)), none] [] (h, D)) z hz rfl
  clear hz
  unfold F_X8_copy
  refine gRc ?_
  refine gS rfl rfl ?_
  refine gS rfl rfl ?_
  refine gC (st' := fun y1 => [.inr (.inr (gTop D))]) rfl rfl (fun _ _ => rfl) rfl (ok_X8_init dX hX d (by omega) h (gNwO D 8) (gTop D)) (fun z => rfl) (fun y1 => ?_)
  refine gS (lv' := [some (.inr (.inr o)), some (.inr (.inr (gTop D)))]) rfl rfl ?_
  refine gS rfl rfl ?_
  refine gS rfl rfl ?_
  refine gO rfl rfl (fun z2 => ?_)
  refine gO rfl rfl (fun D3 => ?_)
  refine gS rfl rfl ?_
  refine gS rfl rfl ?_
  refine gO rfl rfl (fun z4 => ?_)
  refine gO rfl rfl (fun D5 => ?_)
  refine gS rfl rfl ?_
  refine gS rfl rfl ?_
  refine gO rfl rfl (fun r6 => ?_)
  refine gO rfl rfl (fun D7 => ?_)
  refine gS rfl rfl ?_
  refine gS rfl rfl ?_
  refine gO rfl rfl (fun r8 => ?_)
  refine gO rfl rfl (fun D9 => ?_)
  refine gS rfl rfl ?_
  refine gS rfl rfl ?_
  refine gO rfl rfl (fun r10 => ?_)
  refine gO rfl rfl (fun D11 => ?_)
  refine gS rfl rfl ?_
  refine gS rfl rfl ?_
  refine gO rfl rfl (fun r12 => ?_)
  refine gO rfl rfl (fun D13 => ?_)
  refine gS rfl rfl ?_
  refine gS rfl rfl ?_
  refine gO rfl rfl (fun r14 => ?_)
  refine gO rfl rfl (fun D15 => ?_)
  refine gS rfl rfl ?_
  refine gS rfl rfl ?_
  refine gO rfl rfl (fun r16 => ?_)
  refine gO rfl rfl (fun D17 => ?_)
  refine gO rfl rfl (fun u18 => ?_)
  refine gO rfl rfl (fun D19 => ?_)
  refine gS rfl rfl ?_
  refine gS rfl rfl ?_
  refine gO rfl rfl (fun r20 => ?_)
  refine gO rfl rfl (fun D21 => ?_)
  refine gS rfl rfl ?_
  exact gRt rfl rfl (fun hg => by cases hg; exact ⟨rfl, rfl⟩)
noncomputable def F_X8_arcs (D : gDS) (o : gRF) : Option Int32 :=
 (gRv D o 8).bind fun _ =>
 (gFr D o 8 3).bind fun r1 =>
 (gLen D r1).bind fun z2 =>
 some (((2 : Int32) * z2))
theorem rv_X8_arcs {D : gDS} {o : gRF} {z} (hz : F_X8_arcs D o = some z) : gRv D o 8 = some () := by
  unfold F_X8_arcs at hz
  exact rv_bind hz
set_option maxHeartbeats 4000000 in
set_option maxRecDepth 100000 in
theorem ok_X8_arcs (dX : Nat) (hX : 40 ≤ dX) (d : Nat) (hd : 1 ≤ d) (h : PH) (D : gDS) (o : gRF) : ∀ z, F_X8_arcs D o = some z → gEx dX d 32 [.inr (.inr o)] (h, D) (some (.inl z)) (h, D) := by
  obtain ⟨d, rfl⟩ : ∃ e, d = e + 1 := ⟨d - 1, by omega⟩
  intro z hz
  refine ⟨rfl, ?_⟩
  refine (?_ : GSim (gEx dX d) (Ex dX) gmi_X8_arcs (fun o1 h1 => o1 = _ ∧ h1 = _) (F_X8_arcs D o) (fun t => t = z) 0 [some (.inr (.inr o))] [] (h, D)) z hz rfl
  clear hz
  unfold F_X8_arcs
  refine gRc ?_
  refine gS rfl rfl ?_
  refine gS rfl rfl ?_
  refine gO rfl rfl (fun r1 => ?_)
  refine gO rfl rfl (fun z2 => ?_)
  refine gS rfl rfl ?_
  exact gRt rfl rfl (fun hg => by cases hg; exact ⟨rfl, rfl⟩)
noncomputable def F_X8_from (D : gDS) (o : gRF) (p0 : Int32) : Option Int32 :=
 (gRv D o 8).bind fun _ =>
 (gFr D o 8 3).bind fun r1 =>
 (gQld D r1 (p0 / (2 : Int32))).bind fun r2 =>
 (gIld D r2 1 (p0 - p0 / (2 : Int32) * (2 : Int32))).bind fun z3 =>
 some (z3)
theorem rv_X8_from {D : gDS} {o : gRF} {p0 : Int32} {z} (hz : F_X8_from D o p0 = some z) : gRv D o 8 = some () := by
  unfold F_X8_from at hz
  exact rv_bind hz
set_option maxHeartbeats 4000000 in
set_option maxRecDepth 100000 in
theorem ok_X8_from (dX : Nat) (hX : 40 ≤ dX) (d : Nat) (hd : 1 ≤ d) (h : PH) (D : gDS) (o : gRF) (p0 : Int32) : ∀ z, F_X8_from D o p0 = some z → gEx dX d 33 [.inr (.inr o), .inl p0] (h, D) (some (.inl z)) (h, D) := by
  obtain ⟨d, rfl⟩ : ∃ e, d = e + 1 := ⟨d - 1, by omega⟩
  intro z hz
  refine ⟨rfl, ?_⟩
  refine (?_ : GSim (gEx dX d) (Ex dX) gmi_X8_from (fun o1 h1 => o1 = _ ∧ h1 = _) (F_X8_from D o p0) (fun t => t = z) 0 [some (.inr (.inr o)), some (.inl p0)] [] (h, D)) z hz rfl
  clear hz
  unfold F_X8_from
  refine gRc ?_
  refine gS rfl rfl ?_
  refine gO rfl rfl (fun r1 => ?_)
  refine gS rfl rfl ?_
  refine gS rfl rfl ?_
  refine gS rfl rfl ?_
  refine gO rfl rfl (fun r2 => ?_)
  refine gS rfl rfl ?_
  refine gS rfl rfl ?_
  refine gS rfl rfl ?_
  refine gO rfl rfl (fun z3 => ?_)
  exact gRt rfl rfl (fun hg => by cases hg; exact ⟨rfl, rfl⟩)
noncomputable def F_X8_to (D : gDS) (o : gRF) (p0 : Int32) : Option Int32 :=
 (gRv D o 8).bind fun _ =>
 (gFr D o 8 3).bind fun r1 =>
 (gQld D r1 (p0 / (2 : Int32))).bind fun r2 =>
 (gIld D r2 1 ((1 : Int32) - (p0 - p0 / (2 : Int32) * (2 : Int32)))).bind fun z3 =>
 some (z3)
theorem rv_X8_to {D : gDS} {o : gRF} {p0 : Int32} {z} (hz : F_X8_to D o p0 = some z) : gRv D o 8 = some () := by
  unfold F_X8_to at hz
  exact rv_bind hz
set_option maxHeartbeats 4000000 in
set_option maxRecDepth 100000 in
theorem ok_X8_to (dX : Nat) (hX : 40 ≤ dX) (d : Nat) (hd : 1 ≤ d) (h : PH) (D : gDS) (o : gRF) (p0 : Int32) : ∀ z, F_X8_to D o p0 = some z → gEx dX d 34 [.inr (.inr o), .inl p0] (h, D) (some (.inl z)) (h, D) := by
  obtain ⟨d, rfl⟩ : ∃ e, d = e + 1 := ⟨d - 1, by omega⟩
  intro z hz
  refine ⟨rfl, ?_⟩
  refine (?_ : GSim (gEx dX d) (Ex dX) gmi_X8_to (fun o1 h1 => o1 = _ ∧ h1 = _) (F_X8_to D o p0) (fun t => t = z) 0 [some (.inr (.inr o)), some (.inl p0)] [] (h, D)) z hz rfl
  clear hz
  unfold F_X8_to
  refine gRc ?_
  refine gS rfl rfl ?_
  refine gO rfl rfl (fun r1 => ?_)
  refine gS rfl rfl ?_
  refine gS rfl rfl ?_
  refine gS rfl rfl ?_
  refine gO rfl rfl (fun r2 => ?_)
  refine gS rfl rfl ?_
  refine gS rfl rfl ?_
  refine gS rfl rfl ?_
  refine gS rfl rfl ?_
  refine gS rfl rfl ?_
  refine gO rfl rfl (fun z3 => ?_)
  exact gRt rfl rfl (fun hg => by cases hg; exact ⟨rfl, rfl⟩)
noncomputable def F_X8_cost (D : gDS) (o : gRF) (p0 : Int32) : Option Int32 :=
 (gRv D o 8).bind fun _ =>
 (gFr D o 8 3).bind fun r1 =>
 (gQld D r1 (p0 / (2 : Int32))).bind fun r2 =>
 (gIld D r2 1 ((2 : Int32) + (p0 - p0 / (2 : Int32) * (2 : Int32)))).bind fun z3 =>
 some (z3)
theorem rv_X8_cost {D : gDS} {o : gRF} {p0 : Int32} {z} (hz : F_X8_cost D o p0 = some z) : gRv D o 8 = some () := by
  unfold F_X8_cost at hz
  exact rv_bind hz
set_option maxHeartbeats 4000000 in
set_option maxRecDepth 100000 in
theorem ok_X8_cost (dX : Nat) (hX : 40 ≤ dX) (d : Nat) (hd : 1 ≤ d) (h : PH) (D : gDS) (o : gRF) (p0 : Int32) : ∀ z, F_X8_cost D o p0 = some z → gEx dX d 35 [.inr (.inr o), .inl p0] (h, D) (some (.inl z)) (h, D) := by
  obtain ⟨d, rfl⟩ : ∃ e, d = e + 1 := ⟨d - 1, by omega⟩
  intro z hz
  refine ⟨rfl, ?_⟩
  refine (?_ : GSim (gEx dX d) (Ex dX) gmi_X8_cost (fun o1 h1 => o1 = _ ∧ h1 = _) (F_X8_cost D o p0) (fun t => t = z) 0 [some (.inr (.inr o)), some (.inl p0)] [] (h, D)) z hz rfl
  clear hz
  unfold F_X8_cost
  refine gRc ?_
  refine gS rfl rfl ?_
  refine gO rfl rfl (fun r1 => ?_)
  refine gS rfl rfl ?_
  refine gS rfl rfl ?_
  refine gS rfl rfl ?_
  refine gO rfl rfl (fun r2 => ?_)
  refine gS rfl rfl ?_
  refine gS rfl rfl ?_
  refine gS rfl rfl ?_
  refine gS rfl rfl ?_
  refine gS rfl rfl ?_
  refine gO rfl rfl (fun z3 => ?_)
  exact gRt rfl rfl (fun hg => by cases hg; exact ⟨rfl, rfl⟩)
noncomputable def F_X8_demand (D : gDS) (o : gRF) (p0 : Int32) : Option Int32 :=
 (gRv D o 8).bind fun _ =>
 (gFr D o 8 3).bind fun r1 =>
 (gQld D r1 (p0 / (2 : Int32))).bind fun r2 =>
 (gIld D r2 1 (4 : Int32)).bind fun z3 =>
 some (z3)
theorem rv_X8_demand {D : gDS} {o : gRF} {p0 : Int32} {z} (hz : F_X8_demand D o p0 = some z) : gRv D o 8 = some () := by
  unfold F_X8_demand at hz
  exact rv_bind hz
set_option maxHeartbeats 4000000 in
set_option maxRecDepth 100000 in
theorem ok_X8_demand (dX : Nat) (hX : 40 ≤ dX) (d : Nat) (hd : 1 ≤ d) (h : PH) (D : gDS) (o : gRF) (p0 : Int32) : ∀ z, F_X8_demand D o p0 = some z → gEx dX d 36 [.inr (.inr o), .inl p0] (h, D) (some (.inl z)) (h, D) := by
  obtain ⟨d, rfl⟩ : ∃ e, d = e + 1 := ⟨d - 1, by omega⟩
  intro z hz
  refine ⟨rfl, ?_⟩
  refine (?_ : GSim (gEx dX d) (Ex dX) gmi_X8_demand (fun o1 h1 => o1 = _ ∧ h1 = _) (F_X8_demand D o p0) (fun t => t = z) 0 [some (.inr (.inr o)), some (.inl p0)] [] (h, D)) z hz rfl
  clear hz
  unfold F_X8_demand
  refine gRc ?_
  refine gS rfl rfl ?_
  refine gO rfl rfl (fun r1 => ?_)
  refine gS rfl rfl ?_
  refine gS rfl rfl ?_
  refine gS rfl rfl ?_
  refine gO rfl rfl (fun r2 => ?_)
  refine gS rfl rfl ?_
  refine gO rfl rfl (fun z3 => ?_)
  exact gRt rfl rfl (fun hg => by cases hg; exact ⟨rfl, rfl⟩)
noncomputable def F_X8_mayTurn (D : gDS) (o : gRF) (p0 : Int32) (p1 : Int32) : Option Int32 :=
 (gRv D o 8).bind fun _ =>
 (F_X8_to D o p0).bind fun y1 =>
 (F_X8_from D o p1).bind fun y2 =>
 if y1 = y2 then
  (gFr D o 8 4).bind fun r3 =>
  (gLen D r3).bind fun z4 =>
  loop (fun (s5 : Int32) =>
   if z4 ≤ s5 then
    some (.inr ((1 : Int32)))
   else
    (gQld D r3 s5).bind fun r6 =>
    (gIld D r6 1 (0 : Int32)).bind fun z7 =>
    (F_X8_to D o p0).bind fun y8 =>
    if ¬ z7 = y8 then
     some (.inl ((s5 + (1 : Int32))))
    else
     (gIld D r6 1 (1 : Int32)).bind fun z9 =>
     if ¬ z9 = (p0 / (2 : Int32)) then
      some (.inl ((s5 + (1 : Int32))))
     else
      (gIld D r6 1 (2 : Int32)).bind fun z10 =>
      if ¬ z10 = (p1 / (2 : Int32)) then
       some (.inl ((s5 + (1 : Int32))))
      else
       some (.inr ((0 : Int32)))) ((0 : Int32))
 else
  some ((0 : Int32))
theorem rv_X8_mayTurn {D : gDS} {o : gRF} {p0 : Int32} {p1 : Int32} {z} (hz : F_X8_mayTurn D o p0 p1 = some z) : gRv D o 8 = some () := by
  unfold F_X8_mayTurn at hz
  exact rv_bind hz
set_option maxHeartbeats 4000000 in
set_option maxRecDepth 100000 in
theorem ok_X8_mayTurn (dX : Nat) (hX : 40 ≤ dX) (d : Nat) (hd : 2 ≤ d) (h : PH) (D : gDS) (o : gRF) (p0 : Int32) (p1 : Int32) : ∀ z, F_X8_mayTurn D o p0 p1 = some z → gEx dX d 37 [.inr (.inr o), .inl p0, .inl p1] (h, D) (some (.inl z)) (h, D) := by
  obtain ⟨d, rfl⟩ : ∃ e, d = e + 1 := ⟨d - 1, by omega⟩
  intro z hz
  refine ⟨rfl, ?_⟩
  refine (?_ : GSim (gEx dX d) (Ex dX) gmi_X8_mayTurn (fun o1 h1 => o1 = _ ∧ h1 = _) (F_X8_mayTurn D o p0 p1) (fun t => t = z) 0 [some (.inr (.inr o)), some (.inl p0), some (.inl p1), none, none, none, none] [] (h, D)) z hz rfl
  clear hz
  unfold F_X8_mayTurn
  refine gRc ?_
  refine gS rfl rfl ?_
  refine gS rfl rfl ?_
  refine gC (st' := fun y1 => [.inl y1]) rfl rfl (fun _ hz => rv_recv (ci := 8) (by omega) (rv_X8_to hz)) rfl (ok_X8_to dX hX d (by omega) h D o p0) (fun z => rfl) (fun y1 => ?_)
  refine gS rfl rfl ?_
  refine gS rfl rfl ?_
  refine gC (st' := fun y2 => [.inl y2, .inl y1]) rfl rfl (fun _ hz => rv_recv (ci := 8) (by omega) (rv_X8_from hz)) rfl (ok_X8_from dX hX d (by omega) h D o p1) (fun z => rfl) (fun y2 => ?_)
  refine gB rfl rfl ?_ ?_
  · refine gS rfl rfl ?_
    refine gO rfl rfl (fun r3 => ?_)
    refine gS (lv' := [some (.inr (.inr o)), some (.inl p0), some (.inl p1), some (.inr (.inr r3)), none, none, none]) rfl rfl ?_
    refine gS rfl rfl ?_
    refine gO rfl rfl (fun z4 => ?_)
    refine gS (lv' := [some (.inr (.inr o)), some (.inl p0), some (.inl p1), some (.inr (.inr r3)), some (.inl z4), none, none]) rfl rfl ?_
    refine gS rfl rfl ?_
    refine gS (lv' := [some (.inr (.inr o)), some (.inl p0), some (.inl p1), some (.inr (.inr r3)), some (.inl z4), some (.inl (0 : Int32)), none]) rfl rfl ?_
    refine gL (pc := 27) (lv := fun (s5 : Int32) => [some (.inr (.inr o)), some (.inl p0), some (.inl p1), some (.inr (.inr r3)), some (.inl z4), some (.inl s5), none]) (s := fun (s5 : Int32) => (h, D)) (fun s5 => ?_) ((0 : Int32))
    refine gS rfl rfl ?_
    refine gS rfl rfl ?_
    refine gB rfl rfl ?_ ?_
    · refine gS rfl rfl ?_
      exact gRt rfl rfl (fun hg => by cases hg; exact ⟨rfl, rfl⟩)
    · refine gS rfl rfl ?_
      refine gS rfl rfl ?_
      refine gO rfl rfl (fun r6 => ?_)
      refine gS (lv' := [some (.inr (.inr o)), some (.inl p0), some (.inl p1), some (.inr (.inr r3)), some (.inl z4), some (.inl s5), some (.inr (.inr r6))]) rfl rfl ?_
      refine gS rfl rfl ?_
      refine gS rfl rfl ?_
      refine gO rfl rfl (fun z7 => ?_)
      refine gS rfl rfl ?_
      refine gS rfl rfl ?_
      refine gC (st' := fun y8 => [.inl y8, .inl z7]) rfl rfl (fun _ hz => rv_recv (ci := 8) (by omega) (rv_X8_to hz)) rfl (ok_X8_to dX hX d (by omega) h D o p0) (fun z => rfl) (fun y8 => ?_)
      refine gB rfl rfl ?_ ?_
      · refine gS (lv' := [some (.inr (.inr o)), some (.inl p0), some (.inl p1), some (.inr (.inr r3)), some (.inl z4), some (.inl (s5 + (1 : Int32))), some (.inr (.inr r6))]) rfl rfl ?_
        refine gS rfl rfl ?_
        refine gMk [true, true, true, true, true, true, false] (lv' := [some (.inr (.inr o)), some (.inl p0), some (.inl p1), some (.inr (.inr r3)), some (.inl z4), some (.inl (s5 + (1 : Int32))), none]) rfl rfl ?_
        exact gJ (fun h2 => h2)
      · refine gS rfl rfl ?_
        refine gS rfl rfl ?_
        refine gO rfl rfl (fun z9 => ?_)
        refine gS rfl rfl ?_
        refine gS rfl rfl ?_
        refine gS rfl rfl ?_
        refine gB rfl rfl ?_ ?_
        · refine gS (lv' := [some (.inr (.inr o)), some (.inl p0), some (.inl p1), some (.inr (.inr r3)), some (.inl z4), some (.inl (s5 + (1 : Int32))), some (.inr (.inr r6))]) rfl rfl ?_
          refine gS rfl rfl ?_
          refine gMk [true, true, true, true, true, true, false] (lv' := [some (.inr (.inr o)), some (.inl p0), some (.inl p1), some (.inr (.inr r3)), some (.inl z4), some (.inl (s5 + (1 : Int32))), none]) rfl rfl ?_
          exact gJ (fun h2 => h2)
        · refine gS rfl rfl ?_
          refine gS rfl rfl ?_
          refine gO rfl rfl (fun z10 => ?_)
          refine gS rfl rfl ?_
          refine gS rfl rfl ?_
          refine gS rfl rfl ?_
          refine gB rfl rfl ?_ ?_
          · refine gS (lv' := [some (.inr (.inr o)), some (.inl p0), some (.inl p1), some (.inr (.inr r3)), some (.inl z4), some (.inl (s5 + (1 : Int32))), some (.inr (.inr r6))]) rfl rfl ?_
            refine gS rfl rfl ?_
            refine gMk [true, true, true, true, true, true, false] (lv' := [some (.inr (.inr o)), some (.inl p0), some (.inl p1), some (.inr (.inr r3)), some (.inl z4), some (.inl (s5 + (1 : Int32))), none]) rfl rfl ?_
            exact gJ (fun h2 => h2)
          · refine gS rfl rfl ?_
            exact gRt rfl rfl (fun hg => by cases hg; exact ⟨rfl, rfl⟩)
  · refine gS rfl rfl ?_
    exact gRt rfl rfl (fun hg => by cases hg; exact ⟨rfl, rfl⟩)
noncomputable def F_X8_solve (D : gDS) (o : gRF) : Option gDS :=
 (gRv D o 8).bind fun _ =>
 (F_X8_arcs D o).bind fun y1 =>
 (gNwM D y1 y1).bind fun D2 =>
 (gFst D2 o 8 8 (.inr (.inr (gTop D)))).bind fun D3 =>
 loop (fun (s4 : Int32 × gDS) =>
  if y1 ≤ s4.1 then
   some (.inr (s4.2))
  else
   loop (fun (s5 : Int32 × gDS) =>
    if y1 ≤ s5.1 then
     loop (fun (s6 : Int32 × gDS) =>
      if s6.1 = 0 then
       some (.inr (.inr (.inl ((s4.1 + (1 : Int32)), s6.2))))
      else
       loop (fun (s7 : Int32 × Int32 × gDS) =>
        if y1 ≤ s7.2.1 then
         some (.inr (.inl (s7.1, s7.2.2)))
        else
         loop (fun (s8 : Int32 × Int32 × gDS) =>
          if y1 ≤ s8.2.1 then
           some (.inr (.inl (s8.1, (s7.2.1 + (1 : Int32)), s8.2.2)))
          else
           (gFr s8.2.2 o 8 8).bind fun r9 =>
           (gQld s8.2.2 r9 s4.1).bind fun r10 =>
           (gIld s8.2.2 r10 1 s7.2.1).bind fun z11 =>
           if (500000 : Int32) ≤ z11 then
            some (.inr (.inl (s8.1, (s7.2.1 + (1 : Int32)), s8.2.2)))
           else
            (F_X8_mayTurn s8.2.2 o s7.2.1 s8.2.1).bind fun y12 =>
            if y12 = 0 then
             some (.inl (s8.1, (s8.2.1 + (1 : Int32)), s8.2.2))
            else
             (gFr s8.2.2 o 8 8).bind fun r13 =>
             (gQld s8.2.2 r13 s4.1).bind fun r14 =>
             (gIld s8.2.2 r14 1 s8.2.1).bind fun z15 =>
             (gFr s8.2.2 o 8 8).bind fun r16 =>
             (gQld s8.2.2 r16 s4.1).bind fun r17 =>
             (gIld s8.2.2 r17 1 s7.2.1).bind fun z18 =>
             (F_X8_cost s8.2.2 o s8.2.1).bind fun y19 =>
             if (z18 + y19) < z15 then
              (gFr s8.2.2 o 8 8).bind fun r20 =>
              (gQld s8.2.2 r20 s4.1).bind fun r21 =>
              (gFr s8.2.2 o 8 8).bind fun r22 =>
              (gQld s8.2.2 r22 s4.1).bind fun r23 =>
              (gIld s8.2.2 r23 1 s7.2.1).bind fun z24 =>
              (F_X8_cost s8.2.2 o s8.2.1).bind fun y25 =>
              (gIst s8.2.2 r21 1 s8.2.1 (z24 + y25)).bind fun D26 =>
              some (.inl ((1 : Int32), (s8.2.1 + (1 : Int32)), D26))
             else
              some (.inl (s8.1, (s8.2.1 + (1 : Int32)), s8.2.2))) (s7.1, (0 : Int32), s7.2.2)) ((0 : Int32), (0 : Int32), s6.2)) ((1 : Int32), s5.2)
    else
     (gFr s5.2 o 8 8).bind fun r27 =>
     (gQld s5.2 r27 s4.1).bind fun r28 =>
     (F_X8_mayTurn s5.2 o s4.1 s5.1).bind fun y29 =>
     if y29 = 0 then
      (gIst s5.2 r28 1 s5.1 (500000 : Int32)).bind fun D30 =>
      some (.inl ((s5.1 + (1 : Int32)), D30))
     else
      (F_X8_cost s5.2 o s5.1).bind fun y31 =>
      (gIst s5.2 r28 1 s5.1 y31).bind fun D32 =>
      some (.inl ((s5.1 + (1 : Int32)), D32))) ((0 : Int32), s4.2)) ((0 : Int32), D3)
theorem rv_X8_solve {D : gDS} {o : gRF} {z} (hz : F_X8_solve D o = some z) : gRv D o 8 = some () := by
  unfold F_X8_solve at hz
  exact rv_bind hz
set_option maxHeartbeats 4000000 in
set_option maxRecDepth 100000 in
theorem ok_X8_solve (dX : Nat) (hX : 40 ≤ dX) (d : Nat) (hd : 3 ≤ d) (h : PH) (D : gDS) (o : gRF) : ∀ z, F_X8_solve D o = some z → gEx dX d 38 [.inr (.inr o)] (h, D) (none) (h, z) := by
  obtain ⟨d, rfl⟩ : ∃ e, d = e + 1 := ⟨d - 1, by omega⟩
  intro z hz
  refine ⟨rfl, ?_⟩
  refine (?_ : GSim (gEx dX d) (Ex dX) gmi_X8_solve (fun o1 h1 => o1 = _ ∧ h1 = _) (F_X8_solve D o) (fun t => t = z) 0 [some (.inr (.inr o)), none, none, none, none, none] [] (h, D)) z hz rfl
  clear hz
  unfold F_X8_solve
  refine gRc ?_
  refine gS rfl rfl ?_
  refine gC (st' := fun y1 => [.inl y1]) rfl rfl (fun _ hz => rv_recv (ci := 8) (by omega) (rv_X8_arcs hz)) rfl (ok_X8_arcs dX hX d (by omega) h D o) (fun z => rfl) (fun y1 => ?_)
  refine gS (lv' := [some (.inr (.inr o)), some (.inl y1), none, none, none, none]) rfl rfl ?_
  refine gS rfl rfl ?_
  refine gS rfl rfl ?_
  refine gS rfl rfl ?_
  refine gO rfl rfl (fun D2 => ?_)
  refine gO rfl rfl (fun D3 => ?_)
  refine gS rfl rfl ?_
  refine gS (lv' := [some (.inr (.inr o)), some (.inl y1), some (.inl (0 : Int32)), none, none, none]) rfl rfl ?_
  refine gL (pc := 17) (lv := fun (s4 : Int32 × gDS) => [some (.inr (.inr o)), some (.inl y1), some (.inl s4.1), none, none, none]) (s := fun (s4 : Int32 × gDS) => (h, s4.2)) (fun s4 => ?_) ((0 : Int32), D3)
  refine gS rfl rfl ?_
  refine gS rfl rfl ?_
  refine gB rfl rfl ?_ ?_
  · exact gRt rfl rfl (fun hg => by cases hg; exact ⟨rfl, rfl⟩)
  · refine gS rfl rfl ?_
    refine gS (lv' := [some (.inr (.inr o)), some (.inl y1), some (.inl s4.1), some (.inl (0 : Int32)), none, none]) rfl rfl ?_
    refine gL (pc := 24) (lv := fun (s5 : Int32 × gDS) => [some (.inr (.inr o)), some (.inl y1), some (.inl s4.1), some (.inl s5.1), none, none]) (s := fun (s5 : Int32 × gDS) => (h, s5.2)) (fun s5 => ?_) ((0 : Int32), s4.2)
    refine gS rfl rfl ?_
    refine gS rfl rfl ?_
    refine gB rfl rfl ?_ ?_
    · refine gS rfl rfl ?_
      refine gS (lv' := [some (.inr (.inr o)), some (.inl y1), some (.inl s4.1), some (.inl (1 : Int32)), none, none]) rfl rfl ?_
      refine gL (pc := 64) (lv := fun (s6 : Int32 × gDS) => [some (.inr (.inr o)), some (.inl y1), some (.inl s4.1), some (.inl s6.1), none, none]) (s := fun (s6 : Int32 × gDS) => (h, s6.2)) (fun s6 => ?_) ((1 : Int32), s5.2)
      refine gS rfl rfl ?_
      refine gB rfl rfl ?_ ?_
      · refine gS (lv' := [some (.inr (.inr o)), some (.inl y1), some (.inl (s4.1 + (1 : Int32))), some (.inl s6.1), none, none]) rfl rfl ?_
        refine gS rfl rfl ?_
        refine gMk [true, true, true, false, true, true] (lv' := [some (.inr (.inr o)), some (.inl y1), some (.inl (s4.1 + (1 : Int32))), none, none, none]) rfl rfl ?_
        refine gUp ?_
        refine gUp ?_
        exact gJ (fun h2 => h2)
      · refine gS rfl rfl ?_
        refine gS (lv' := [some (.inr (.inr o)), some (.inl y1), some (.inl s4.1), some (.inl (0 : Int32)), none, none]) rfl rfl ?_
        refine gS rfl rfl ?_
        refine gS (lv' := [some (.inr (.inr o)), some (.inl y1), some (.inl s4.1), some (.inl (0 : Int32)), some (.inl (0 : Int32)), none]) rfl rfl ?_
        refine gL (pc := 73) (lv := fun (s7 : Int32 × Int32 × gDS) => [some (.inr (.inr o)), some (.inl y1), some (.inl s4.1), some (.inl s7.1), some (.inl s7.2.1), none]) (s := fun (s7 : Int32 × Int32 × gDS) => (h, s7.2.2)) (fun s7 => ?_) ((0 : Int32), (0 : Int32), s6.2)
        refine gS rfl rfl ?_
        refine gS rfl rfl ?_
        refine gB rfl rfl ?_ ?_
        · refine gS rfl rfl ?_
          refine gMk [true, true, true, true, false, true] (lv' := [some (.inr (.inr o)), some (.inl y1), some (.inl s4.1), some (.inl s7.1), none, none]) rfl rfl ?_
          refine gUp ?_
          exact gJ (fun h2 => h2)
        · refine gS rfl rfl ?_
          refine gS (lv' := [some (.inr (.inr o)), some (.inl y1), some (.inl s4.1), some (.inl s7.1), some (.inl s7.2.1), some (.inl (0 : Int32))]) rfl rfl ?_
          refine gL (pc := 82) (lv := fun (s8 : Int32 × Int32 × gDS) => [some (.inr (.inr o)), some (.inl y1), some (.inl s4.1), some (.inl s8.1), some (.inl s7.2.1), some (.inl s8.2.1)]) (s := fun (s8 : Int32 × Int32 × gDS) => (h, s8.2.2)) (fun s8 => ?_) (s7.1, (0 : Int32), s7.2.2)
          refine gS rfl rfl ?_
          refine gS rfl rfl ?_
          refine gB rfl rfl ?_ ?_
          · refine gS (lv' := [some (.inr (.inr o)), some (.inl y1), some (.inl s4.1), some (.inl s8.1), some (.inl (s7.2.1 + (1 : Int32))), some (.inl s8.2.1)]) rfl rfl ?_
            refine gS rfl rfl ?_
            refine gMk [true, true, true, true, true, false] (lv' := [some (.inr (.inr o)), some (.inl y1), some (.inl s4.1), some (.inl s8.1), some (.inl (s7.2.1 + (1 : Int32))), none]) rfl rfl ?_
            refine gUp ?_
            exact gJ (fun h2 => h2)
          · refine gS rfl rfl ?_
            refine gO rfl rfl (fun r9 => ?_)
            refine gS rfl rfl ?_
            refine gO rfl rfl (fun r10 => ?_)
            refine gS rfl rfl ?_
            refine gO rfl rfl (fun z11 => ?_)
            refine gS rfl rfl ?_
            refine gB rfl rfl ?_ ?_
            · refine gS (lv' := [some (.inr (.inr o)), some (.inl y1), some (.inl s4.1), some (.inl s8.1), some (.inl (s7.2.1 + (1 : Int32))), some (.inl s8.2.1)]) rfl rfl ?_
              refine gS rfl rfl ?_
              refine gMk [true, true, true, true, true, false] (lv' := [some (.inr (.inr o)), some (.inl y1), some (.inl s4.1), some (.inl s8.1), some (.inl (s7.2.1 + (1 : Int32))), none]) rfl rfl ?_
              refine gUp ?_
              exact gJ (fun h2 => h2)
            · refine gS rfl rfl ?_
              refine gS rfl rfl ?_
              refine gS rfl rfl ?_
              refine gC (st' := fun y12 => [.inl y12]) rfl rfl (fun _ hz => rv_recv (ci := 8) (by omega) (rv_X8_mayTurn hz)) rfl (ok_X8_mayTurn dX hX d (by omega) h s8.2.2 o s7.2.1 s8.2.1) (fun z => rfl) (fun y12 => ?_)
              refine gB rfl rfl ?_ ?_
              · refine gS (lv' := [some (.inr (.inr o)), some (.inl y1), some (.inl s4.1), some (.inl s8.1), some (.inl s7.2.1), some (.inl (s8.2.1 + (1 : Int32)))]) rfl rfl ?_
                refine gS rfl rfl ?_
                exact gJ (fun h2 => h2)
              · refine gS rfl rfl ?_
                refine gO rfl rfl (fun r13 => ?_)
                refine gS rfl rfl ?_
                refine gO rfl rfl (fun r14 => ?_)
                refine gS rfl rfl ?_
                refine gO rfl rfl (fun z15 => ?_)
                refine gS rfl rfl ?_
                refine gO rfl rfl (fun r16 => ?_)
                refine gS rfl rfl ?_
                refine gO rfl rfl (fun r17 => ?_)
                refine gS rfl rfl ?_
                refine gO rfl rfl (fun z18 => ?_)
                refine gS rfl rfl ?_
                refine gS rfl rfl ?_
                refine gC (st' := fun y19 => [.inl y19, .inl z18, .inl z15]) rfl rfl (fun _ hz => rv_recv (ci := 8) (by omega) (rv_X8_cost hz)) rfl (ok_X8_cost dX hX d (by omega) h s8.2.2 o s8.2.1) (fun z => rfl) (fun y19 => ?_)
                refine gS rfl rfl ?_
                refine gB rfl rfl ?_ ?_
                · refine gS rfl rfl ?_
                  refine gO rfl rfl (fun r20 => ?_)
                  refine gS rfl rfl ?_
                  refine gO rfl rfl (fun r21 => ?_)
                  refine gS rfl rfl ?_
                  refine gS rfl rfl ?_
                  refine gO rfl rfl (fun r22 => ?_)
                  refine gS rfl rfl ?_
                  refine gO rfl rfl (fun r23 => ?_)
                  refine gS rfl rfl ?_
                  refine gO rfl rfl (fun z24 => ?_)
                  refine gS rfl rfl ?_
                  refine gS rfl rfl ?_
                  refine gC (st' := fun y25 => [.inl y25, .inl z24, .inl s8.2.1, .inr (.inr r21)]) rfl rfl (fun _ hz => rv_recv (ci := 8) (by omega) (rv_X8_cost hz)) rfl (ok_X8_cost dX hX d (by omega) h s8.2.2 o s8.2.1) (fun z => rfl) (fun y25 => ?_)
                  refine gS rfl rfl ?_
                  refine gO rfl rfl (fun D26 => ?_)
                  refine gS rfl rfl ?_
                  refine gS (lv' := [some (.inr (.inr o)), some (.inl y1), some (.inl s4.1), some (.inl (1 : Int32)), some (.inl s7.2.1), some (.inl s8.2.1)]) rfl rfl ?_
                  refine gS (lv' := [some (.inr (.inr o)), some (.inl y1), some (.inl s4.1), some (.inl (1 : Int32)), some (.inl s7.2.1), some (.inl (s8.2.1 + (1 : Int32)))]) rfl rfl ?_
                  refine gS rfl rfl ?_
                  exact gJ (fun h2 => h2)
                · refine gS rfl rfl ?_
                  refine gS (lv' := [some (.inr (.inr o)), some (.inl y1), some (.inl s4.1), some (.inl s8.1), some (.inl s7.2.1), some (.inl (s8.2.1 + (1 : Int32)))]) rfl rfl ?_
                  refine gS rfl rfl ?_
                  exact gJ (fun h2 => h2)
    · refine gS rfl rfl ?_
      refine gO rfl rfl (fun r27 => ?_)
      refine gS rfl rfl ?_
      refine gO rfl rfl (fun r28 => ?_)
      refine gS rfl rfl ?_
      refine gS rfl rfl ?_
      refine gS rfl rfl ?_
      refine gS rfl rfl ?_
      refine gC (st' := fun y29 => [.inl y29, .inl s5.1, .inr (.inr r28)]) rfl rfl (fun _ hz => rv_recv (ci := 8) (by omega) (rv_X8_mayTurn hz)) rfl (ok_X8_mayTurn dX hX d (by omega) h s5.2 o s4.1 s5.1) (fun z => rfl) (fun y29 => ?_)
      refine gB rfl rfl ?_ ?_
      · refine gS rfl rfl ?_
        refine gO rfl rfl (fun D30 => ?_)
        refine gS (lv' := [some (.inr (.inr o)), some (.inl y1), some (.inl s4.1), some (.inl (s5.1 + (1 : Int32))), none, none]) rfl rfl ?_
        refine gS rfl rfl ?_
        exact gJ (fun h2 => h2)
      · refine gS rfl rfl ?_
        refine gS rfl rfl ?_
        refine gC (st' := fun y31 => [.inl y31, .inl s5.1, .inr (.inr r28)]) rfl rfl (fun _ hz => rv_recv (ci := 8) (by omega) (rv_X8_cost hz)) rfl (ok_X8_cost dX hX d (by omega) h s5.2 o s5.1) (fun z => rfl) (fun y31 => ?_)
        refine gS rfl rfl ?_
        refine gO rfl rfl (fun D32 => ?_)
        refine gS (lv' := [some (.inr (.inr o)), some (.inl y1), some (.inl s4.1), some (.inl (s5.1 + (1 : Int32))), none, none]) rfl rfl ?_
        refine gS rfl rfl ?_
        exact gJ (fun h2 => h2)
noncomputable def F_X8_gap (D : gDS) (o : gRF) (p0 : Int32) (p1 : Int32) : Option Int32 :=
 (gRv D o 8).bind fun _ =>
 (gFr D o 8 8).bind fun r1 =>
 (gQld D r1 p0).bind fun r2 =>
 (gIld D r2 1 p1).bind fun z3 =>
 if z3 < (500000 : Int32) then
  (gFr D o 8 8).bind fun r4 =>
  (gQld D r4 p0).bind fun r5 =>
  (gIld D r5 1 p1).bind fun z6 =>
  (F_X8_cost D o p1).bind fun y7 =>
  some ((z6 - y7))
 else
  some ((500000 : Int32))
theorem rv_X8_gap {D : gDS} {o : gRF} {p0 : Int32} {p1 : Int32} {z} (hz : F_X8_gap D o p0 p1 = some z) : gRv D o 8 = some () := by
  unfold F_X8_gap at hz
  exact rv_bind hz
set_option maxHeartbeats 4000000 in
set_option maxRecDepth 100000 in
theorem ok_X8_gap (dX : Nat) (hX : 40 ≤ dX) (d : Nat) (hd : 2 ≤ d) (h : PH) (D : gDS) (o : gRF) (p0 : Int32) (p1 : Int32) : ∀ z, F_X8_gap D o p0 p1 = some z → gEx dX d 39 [.inr (.inr o), .inl p0, .inl p1] (h, D) (some (.inl z)) (h, D) := by
  obtain ⟨d, rfl⟩ : ∃ e, d = e + 1 := ⟨d - 1, by omega⟩
  intro z hz
  refine ⟨rfl, ?_⟩
  refine (?_ : GSim (gEx dX d) (Ex dX) gmi_X8_gap (fun o1 h1 => o1 = _ ∧ h1 = _) (F_X8_gap D o p0 p1) (fun t => t = z) 0 [some (.inr (.inr o)), some (.inl p0), some (.inl p1)] [] (h, D)) z hz rfl
  clear hz
  unfold F_X8_gap
  refine gRc ?_
  refine gS rfl rfl ?_
  refine gO rfl rfl (fun r1 => ?_)
  refine gS rfl rfl ?_
  refine gO rfl rfl (fun r2 => ?_)
  refine gS rfl rfl ?_
  refine gO rfl rfl (fun z3 => ?_)
  refine gS rfl rfl ?_
  refine gB rfl rfl ?_ ?_
  · refine gS rfl rfl ?_
    refine gO rfl rfl (fun r4 => ?_)
    refine gS rfl rfl ?_
    refine gO rfl rfl (fun r5 => ?_)
    refine gS rfl rfl ?_
    refine gO rfl rfl (fun z6 => ?_)
    refine gS rfl rfl ?_
    refine gS rfl rfl ?_
    refine gC (st' := fun y7 => [.inl y7, .inl z6]) rfl rfl (fun _ hz => rv_recv (ci := 8) (by omega) (rv_X8_cost hz)) rfl (ok_X8_cost dX hX d (by omega) h D o p1) (fun z => rfl) (fun y7 => ?_)
    refine gS rfl rfl ?_
    exact gRt rfl rfl (fun hg => by cases hg; exact ⟨rfl, rfl⟩)
  · refine gS rfl rfl ?_
    refine gS rfl rfl ?_
    exact gRt rfl rfl (fun hg => by cases hg; exact ⟨rfl, rfl⟩)
noncomputable def F_X8_reach (D : gDS) (o : gRF) (p0 : Int32) (p1 : Int32) : Option Int32 :=
 (gRv D o 8).bind fun _ =>
 (F_X8_from D o p1).bind fun y1 =>
 jn (fun (v3 : Int32) =>
  loop (fun (s4 : Int32 × Int32) =>
   (F_X8_arcs D o).bind fun y5 =>
   if y5 ≤ s4.2 then
    some (.inr (s4.1))
   else
    if s4.1 ≤ 0 then
     some (.inr (s4.1))
    else
     (F_X8_from D o s4.2).bind fun y6 =>
     if ¬ y6 = p0 then
      some (.inl (s4.1, (s4.2 + (1 : Int32))))
     else
      (F_X8_cost D o s4.2).bind fun y7 =>
      (F_X8_gap D o s4.2 p1).bind fun y8 =>
      some (.inl ((if (y7 + y8) < s4.1 then (y7 + y8) else s4.1), (s4.2 + (1 : Int32))))) (v3, (0 : Int32))) (fun k2 =>
  if ¬ y1 = p0 then
   k2 ((500000 : Int32))
  else
   k2 ((0 : Int32)))
theorem rv_X8_reach {D : gDS} {o : gRF} {p0 : Int32} {p1 : Int32} {z} (hz : F_X8_reach D o p0 p1 = some z) : gRv D o 8 = some () := by
  unfold F_X8_reach at hz
  exact rv_bind hz
set_option maxHeartbeats 4000000 in
set_option maxRecDepth 100000 in
theorem ok_X8_reach (dX : Nat) (hX : 40 ≤ dX) (d : Nat) (hd : 3 ≤ d) (h : PH) (D : gDS) (o : gRF) (p0 : Int32) (p1 : Int32) : ∀ z, F_X8_reach D o p0 p1 = some z → gEx dX d 40 [.inr (.inr o), .inl p0, .inl p1] (h, D) (some (.inl z)) (h, D) := by
  obtain ⟨d, rfl⟩ : ∃ e, d = e + 1 := ⟨d - 1, by omega⟩
  intro z hz
  refine ⟨rfl, ?_⟩
  refine (?_ : GSim (gEx dX d) (Ex dX) gmi_X8_reach (fun o1 h1 => o1 = _ ∧ h1 = _) (F_X8_reach D o p0 p1) (fun t => t = z) 0 [some (.inr (.inr o)), some (.inl p0), some (.inl p1), none, none] [] (h, D)) z hz rfl
  clear hz
  unfold F_X8_reach
  refine gRc ?_
  refine gS rfl rfl ?_
  refine gS rfl rfl ?_
  refine gC (st' := fun y1 => [.inl y1]) rfl rfl (fun _ hz => rv_recv (ci := 8) (by omega) (rv_X8_from hz)) rfl (ok_X8_from dX hX d (by omega) h D o p1) (fun z => rfl) (fun y1 => ?_)
  refine gS rfl rfl ?_
  refine gJn 15 (fun (v3 : Int32) => [some (.inr (.inr o)), some (.inl p0), some (.inl p1), none, none]) (fun (v3 : Int32) => [.inl v3]) (fun (v3 : Int32) => (h, D)) (fun v3 => ?_) (fun k2 hk2 => ?_)
  · refine gS (lv' := [some (.inr (.inr o)), some (.inl p0), some (.inl p1), some (.inl v3), none]) rfl rfl ?_
    refine gS rfl rfl ?_
    refine gS (lv' := [some (.inr (.inr o)), some (.inl p0), some (.inl p1), some (.inl v3), some (.inl (0 : Int32))]) rfl rfl ?_
    refine gL (pc := 19) (lv := fun (s4 : Int32 × Int32) => [some (.inr (.inr o)), some (.inl p0), some (.inl p1), some (.inl s4.1), some (.inl s4.2)]) (s := fun (s4 : Int32 × Int32) => (h, D)) (fun s4 => ?_) (v3, (0 : Int32))
    refine gS rfl rfl ?_
    refine gS rfl rfl ?_
    refine gC (st' := fun y5 => [.inl y5, .inl s4.2]) rfl rfl (fun _ hz => rv_recv (ci := 8) (by omega) (rv_X8_arcs hz)) rfl (ok_X8_arcs dX hX d (by omega) h D o) (fun z => rfl) (fun y5 => ?_)
    refine gB rfl rfl ?_ ?_
    · refine gS rfl rfl ?_
      exact gRt rfl rfl (fun hg => by cases hg; exact ⟨rfl, rfl⟩)
    · refine gS rfl rfl ?_
      refine gB rfl rfl ?_ ?_
      · refine gS rfl rfl ?_
        exact gRt rfl rfl (fun hg => by cases hg; exact ⟨rfl, rfl⟩)
      · refine gS rfl rfl ?_
        refine gS rfl rfl ?_
        refine gC (st' := fun y6 => [.inl y6]) rfl rfl (fun _ hz => rv_recv (ci := 8) (by omega) (rv_X8_from hz)) rfl (ok_X8_from dX hX d (by omega) h D o s4.2) (fun z => rfl) (fun y6 => ?_)
        refine gS rfl rfl ?_
        refine gB rfl rfl ?_ ?_
        · refine gS (lv' := [some (.inr (.inr o)), some (.inl p0), some (.inl p1), some (.inl s4.1), some (.inl (s4.2 + (1 : Int32)))]) rfl rfl ?_
          refine gS rfl rfl ?_
          exact gJ (fun h2 => h2)
        · refine gS rfl rfl ?_
          refine gS rfl rfl ?_
          refine gS rfl rfl ?_
          refine gC (st' := fun y7 => [.inl y7, .inl s4.1]) rfl rfl (fun _ hz => rv_recv (ci := 8) (by omega) (rv_X8_cost hz)) rfl (ok_X8_cost dX hX d (by omega) h D o s4.2) (fun z => rfl) (fun y7 => ?_)
          refine gS rfl rfl ?_
          refine gS rfl rfl ?_
          refine gS rfl rfl ?_
          refine gC (st' := fun y8 => [.inl y8, .inl y7, .inl s4.1]) rfl rfl (fun _ hz => rv_recv (ci := 8) (by omega) (rv_X8_gap hz)) rfl (ok_X8_gap dX hX d (by omega) h D o s4.2 p1) (fun z => rfl) (fun y8 => ?_)
          refine gS rfl rfl ?_
          refine gS rfl rfl ?_
          refine gS (lv' := [some (.inr (.inr o)), some (.inl p0), some (.inl p1), some (.inl (if (y7 + y8) < s4.1 then (y7 + y8) else s4.1)), some (.inl s4.2)]) rfl rfl ?_
          refine gS (lv' := [some (.inr (.inr o)), some (.inl p0), some (.inl p1), some (.inl (if (y7 + y8) < s4.1 then (y7 + y8) else s4.1)), some (.inl (s4.2 + (1 : Int32)))]) rfl rfl ?_
          refine gS rfl rfl ?_
          exact gJ (fun h2 => h2)
  · refine gB rfl rfl ?_ ?_
    · refine gS rfl rfl ?_
      have h3 := hk2 ((500000 : Int32))
      exact h3
    · refine gS rfl rfl ?_
      refine gS rfl rfl ?_
      have h3 := hk2 ((0 : Int32))
      exact h3
noncomputable def F_X8_back (D : gDS) (o : gRF) (p0 : Int32) (p1 : Int32) : Option Int32 :=
 (gRv D o 8).bind fun _ =>
 (F_X8_to D o p0).bind fun y1 =>
 jn (fun (v3 : Int32) =>
  loop (fun (s4 : Int32 × Int32) =>
   (F_X8_arcs D o).bind fun y5 =>
   if y5 ≤ s4.2 then
    some (.inr (s4.1))
   else
    if s4.1 ≤ 0 then
     some (.inr (s4.1))
    else
     (F_X8_to D o s4.2).bind fun y6 =>
     if ¬ y6 = p1 then
      some (.inl (s4.1, (s4.2 + (1 : Int32))))
     else
      (gFr D o 8 8).bind fun r7 =>
      (gQld D r7 p0).bind fun r8 =>
      (gIld D r8 1 s4.2).bind fun z9 =>
      some (.inl ((if z9 < s4.1 then z9 else s4.1), (s4.2 + (1 : Int32))))) (v3, (0 : Int32))) (fun k2 =>
  if ¬ y1 = p1 then
   k2 ((500000 : Int32))
  else
   k2 ((0 : Int32)))
theorem rv_X8_back {D : gDS} {o : gRF} {p0 : Int32} {p1 : Int32} {z} (hz : F_X8_back D o p0 p1 = some z) : gRv D o 8 = some () := by
  unfold F_X8_back at hz
  exact rv_bind hz
set_option maxHeartbeats 4000000 in
set_option maxRecDepth 100000 in
theorem ok_X8_back (dX : Nat) (hX : 40 ≤ dX) (d : Nat) (hd : 2 ≤ d) (h : PH) (D : gDS) (o : gRF) (p0 : Int32) (p1 : Int32) : ∀ z, F_X8_back D o p0 p1 = some z → gEx dX d 41 [.inr (.inr o), .inl p0, .inl p1] (h, D) (some (.inl z)) (h, D) := by
  obtain ⟨d, rfl⟩ : ∃ e, d = e + 1 := ⟨d - 1, by omega⟩
  intro z hz
  refine ⟨rfl, ?_⟩
  refine (?_ : GSim (gEx dX d) (Ex dX) gmi_X8_back (fun o1 h1 => o1 = _ ∧ h1 = _) (F_X8_back D o p0 p1) (fun t => t = z) 0 [some (.inr (.inr o)), some (.inl p0), some (.inl p1), none, none] [] (h, D)) z hz rfl
  clear hz
  unfold F_X8_back
  refine gRc ?_
  refine gS rfl rfl ?_
  refine gS rfl rfl ?_
  refine gC (st' := fun y1 => [.inl y1]) rfl rfl (fun _ hz => rv_recv (ci := 8) (by omega) (rv_X8_to hz)) rfl (ok_X8_to dX hX d (by omega) h D o p0) (fun z => rfl) (fun y1 => ?_)
  refine gS rfl rfl ?_
  refine gJn 15 (fun (v3 : Int32) => [some (.inr (.inr o)), some (.inl p0), some (.inl p1), none, none]) (fun (v3 : Int32) => [.inl v3]) (fun (v3 : Int32) => (h, D)) (fun v3 => ?_) (fun k2 hk2 => ?_)
  · refine gS (lv' := [some (.inr (.inr o)), some (.inl p0), some (.inl p1), some (.inl v3), none]) rfl rfl ?_
    refine gS rfl rfl ?_
    refine gS (lv' := [some (.inr (.inr o)), some (.inl p0), some (.inl p1), some (.inl v3), some (.inl (0 : Int32))]) rfl rfl ?_
    refine gL (pc := 19) (lv := fun (s4 : Int32 × Int32) => [some (.inr (.inr o)), some (.inl p0), some (.inl p1), some (.inl s4.1), some (.inl s4.2)]) (s := fun (s4 : Int32 × Int32) => (h, D)) (fun s4 => ?_) (v3, (0 : Int32))
    refine gS rfl rfl ?_
    refine gS rfl rfl ?_
    refine gC (st' := fun y5 => [.inl y5, .inl s4.2]) rfl rfl (fun _ hz => rv_recv (ci := 8) (by omega) (rv_X8_arcs hz)) rfl (ok_X8_arcs dX hX d (by omega) h D o) (fun z => rfl) (fun y5 => ?_)
    refine gB rfl rfl ?_ ?_
    · refine gS rfl rfl ?_
      exact gRt rfl rfl (fun hg => by cases hg; exact ⟨rfl, rfl⟩)
    · refine gS rfl rfl ?_
      refine gB rfl rfl ?_ ?_
      · refine gS rfl rfl ?_
        exact gRt rfl rfl (fun hg => by cases hg; exact ⟨rfl, rfl⟩)
      · refine gS rfl rfl ?_
        refine gS rfl rfl ?_
        refine gC (st' := fun y6 => [.inl y6]) rfl rfl (fun _ hz => rv_recv (ci := 8) (by omega) (rv_X8_to hz)) rfl (ok_X8_to dX hX d (by omega) h D o s4.2) (fun z => rfl) (fun y6 => ?_)
        refine gS rfl rfl ?_
        refine gB rfl rfl ?_ ?_
        · refine gS (lv' := [some (.inr (.inr o)), some (.inl p0), some (.inl p1), some (.inl s4.1), some (.inl (s4.2 + (1 : Int32)))]) rfl rfl ?_
          refine gS rfl rfl ?_
          exact gJ (fun h2 => h2)
        · refine gS rfl rfl ?_
          refine gS rfl rfl ?_
          refine gO rfl rfl (fun r7 => ?_)
          refine gS rfl rfl ?_
          refine gO rfl rfl (fun r8 => ?_)
          refine gS rfl rfl ?_
          refine gO rfl rfl (fun z9 => ?_)
          refine gS rfl rfl ?_
          refine gS (lv' := [some (.inr (.inr o)), some (.inl p0), some (.inl p1), some (.inl (if z9 < s4.1 then z9 else s4.1)), some (.inl s4.2)]) rfl rfl ?_
          refine gS (lv' := [some (.inr (.inr o)), some (.inl p0), some (.inl p1), some (.inl (if z9 < s4.1 then z9 else s4.1)), some (.inl (s4.2 + (1 : Int32)))]) rfl rfl ?_
          refine gS rfl rfl ?_
          exact gJ (fun h2 => h2)
  · refine gB rfl rfl ?_ ?_
    · refine gS rfl rfl ?_
      have h3 := hk2 ((500000 : Int32))
      exact h3
    · refine gS rfl rfl ?_
      refine gS rfl rfl ?_
      have h3 := hk2 ((0 : Int32))
      exact h3
noncomputable def F_X9_value (S : gDS → gRF → gRF → Option Int64) (D : gDS) (o : gRF) (p0 : gRF) : Option Int64 :=
 (gRv D o 9).bind fun _ =>
 (gFi D o 9 0).bind fun z1 =>
 if (2 : Int32) ≤ z1 then
  (gFr D o 9 2).bind fun r2 =>
  (S D r2 p0).bind fun y3 =>
  (gFr D o 9 3).bind fun r4 =>
  (S D r4 p0).bind fun y5 =>
  (gFi D o 9 0).bind fun z6 =>
  jn (fun (v8 : Int64) =>
   some ((if (if v8 < (1000000 : Int64) then v8 else (1000000 : Int64)) < (-1000000 : Int64) then (-1000000 : Int64) else (if v8 < (1000000 : Int64) then v8 else (1000000 : Int64))))) (fun k7 =>
   if ¬ z6 = (2 : Int32) then
    (gFi D o 9 0).bind fun z9 =>
    if ¬ z9 = (3 : Int32) then
     (gFi D o 9 0).bind fun z10 =>
     if ¬ z10 = (4 : Int32) then
      if ¬ (lg_cmp y5 (0 : Int64)) = 0 then
       (dvl y3 y5).bind fun z11 =>
       k7 (z11)
      else
       k7 ((0 : Int64))
     else
      k7 ((y3 * y5))
    else
     k7 ((y3 - y5))
   else
    k7 ((y3 + y5)))
 else
  (gFi D o 9 0).bind fun z12 =>
  if ¬ z12 = 0 then
   (gFi D o 9 1).bind fun z13 =>
   (gJld D p0 z13).bind fun z14 =>
   some (z14)
  else
   (gFi D o 9 1).bind fun z15 =>
   some (z15.toInt64)
theorem rv_X9_value {S : gDS → gRF → gRF → Option Int64} {D : gDS} {o : gRF} {p0 : gRF} {z} (hz : F_X9_value S D o p0 = some z) : gRv D o 9 = some () := by
  unfold F_X9_value at hz
  exact rv_bind hz
set_option maxHeartbeats 4000000 in
set_option maxRecDepth 100000 in
theorem ok_X9_value (S : gDS → gRF → gRF → Option Int64) (dX : Nat) (hX : 40 ≤ dX) (dS : Nat) (hB : 0 ≤ dS) (hS : ∀ d, dS ≤ d → ∀ (h : PH) (D : gDS) (o : gRF) (p0 : gRF), ∀ z, S D o p0 = some z → gEx dX d 60 [.inr (.inr o), .inr (.inr p0)] (h, D) (some (.inr (.inl z))) (h, D)) (hV : ∀ {D : gDS} {o : gRF} {p0 : gRF} {z}, S D o p0 = some z → gRv D o 9 = some ()) (d : Nat) (hd : dS + 1 ≤ d) (h : PH) (D : gDS) (o : gRF) (p0 : gRF) : ∀ z, F_X9_value S D o p0 = some z → gEx dX d 60 [.inr (.inr o), .inr (.inr p0)] (h, D) (some (.inr (.inl z))) (h, D) := by
  obtain ⟨d, rfl⟩ : ∃ e, d = e + 1 := ⟨d - 1, by omega⟩
  intro z hz
  refine ⟨rfl, ?_⟩
  refine (?_ : GSim (gEx dX d) (Ex dX) gmi_X9_value (fun o1 h1 => o1 = _ ∧ h1 = _) (F_X9_value S D o p0) (fun t => t = z) 0 [some (.inr (.inr o)), some (.inr (.inr p0)), none, none, none, none, none, none] [] (h, D)) z hz rfl
  clear hz
  unfold F_X9_value
  refine gRc ?_
  refine gS rfl rfl ?_
  refine gO rfl rfl (fun z1 => ?_)
  refine gS rfl rfl ?_
  refine gB rfl rfl ?_ ?_
  · refine gS rfl rfl ?_
    refine gO rfl rfl (fun r2 => ?_)
    refine gS rfl rfl ?_
    refine gC (st' := fun y3 => [.inr (.inl y3)]) rfl rfl (fun _ hz => rv_recv (ci := 9) (by omega) (hV hz)) rfl (hS d (by omega) h D r2 p0) (fun z => rfl) (fun y3 => ?_)
    refine gS (lv' := [some (.inr (.inr o)), some (.inr (.inr p0)), some (.inr (.inl y3)), none, none, none, none, none]) rfl rfl ?_
    refine gS rfl rfl ?_
    refine gO rfl rfl (fun r4 => ?_)
    refine gS rfl rfl ?_
    refine gC (st' := fun y5 => [.inr (.inl y5)]) rfl rfl (fun _ hz => rv_recv (ci := 9) (by omega) (hV hz)) rfl (hS d (by omega) h D r4 p0) (fun z => rfl) (fun y5 => ?_)
    refine gS (lv' := [some (.inr (.inr o)), some (.inr (.inr p0)), some (.inr (.inl y3)), none, some (.inr (.inl y5)), none, none, none]) rfl rfl ?_
    refine gS rfl rfl ?_
    refine gO rfl rfl (fun z6 => ?_)
    refine gS rfl rfl ?_
    refine gJn 109 (fun (v8 : Int64) => [none, none, none, none, none, none, none, none]) (fun (v8 : Int64) => [.inr (.inl v8)]) (fun (v8 : Int64) => (h, D)) (fun v8 => ?_) (fun k7 hk7 => ?_)
    · refine gS (lv' := [none, none, none, none, none, none, some (.inr (.inl v8)), none]) rfl rfl ?_
      refine gS rfl rfl ?_
      refine gS rfl rfl ?_
      refine gS rfl rfl ?_
      refine gS rfl rfl ?_
      refine gS rfl rfl ?_
      exact gRt rfl rfl (fun hg => by cases hg; exact ⟨rfl, rfl⟩)
    · refine gB rfl rfl ?_ ?_
      · refine gS rfl rfl ?_
        refine gO rfl rfl (fun z9 => ?_)
        refine gS rfl rfl ?_
        refine gB rfl rfl ?_ ?_
        · refine gS rfl rfl ?_
          refine gO rfl rfl (fun z10 => ?_)
          refine gS rfl rfl ?_
          refine gB rfl rfl ?_ ?_
          · refine gS rfl rfl ?_
            refine gS rfl rfl ?_
            refine gS rfl rfl ?_
            refine gB rfl rfl ?_ ?_
            · refine gS rfl rfl ?_
              refine gS rfl rfl ?_
              refine gO rfl rfl (fun z11 => ?_)
              refine gMk [false, false, false, true, false, true, true, true] (lv' := [none, none, none, none, none, none, none, none]) rfl rfl ?_
              have h3 := hk7 (z11)
              exact h3
            · refine gS rfl rfl ?_
              refine gS rfl rfl ?_
              refine gMk [false, false, false, true, false, true, true, true] (lv' := [none, none, none, none, none, none, none, none]) rfl rfl ?_
              have h3 := hk7 ((0 : Int64))
              exact h3
          · refine gS rfl rfl ?_
            refine gS rfl rfl ?_
            refine gS rfl rfl ?_
            refine gS rfl rfl ?_
            refine gMk [false, false, false, true, false, true, true, true] (lv' := [none, none, none, none, none, none, none, none]) rfl rfl ?_
            have h3 := hk7 ((y3 * y5))
            exact h3
        · refine gS rfl rfl ?_
          refine gS rfl rfl ?_
          refine gS rfl rfl ?_
          refine gS rfl rfl ?_
          refine gMk [false, false, false, true, false, true, true, true] (lv' := [none, none, none, none, none, none, none, none]) rfl rfl ?_
          have h3 := hk7 ((y3 - y5))
          exact h3
      · refine gS rfl rfl ?_
        refine gS rfl rfl ?_
        refine gS rfl rfl ?_
        refine gS rfl rfl ?_
        refine gMk [false, false, false, true, false, true, true, true] (lv' := [none, none, none, none, none, none, none, none]) rfl rfl ?_
        have h3 := hk7 ((y3 + y5))
        exact h3
  · refine gS rfl rfl ?_
    refine gO rfl rfl (fun z12 => ?_)
    refine gB rfl rfl ?_ ?_
    · refine gS rfl rfl ?_
      refine gS rfl rfl ?_
      refine gO rfl rfl (fun z13 => ?_)
      refine gO rfl rfl (fun z14 => ?_)
      exact gRt rfl rfl (fun hg => by cases hg; exact ⟨rfl, rfl⟩)
    · refine gS rfl rfl ?_
      refine gO rfl rfl (fun z15 => ?_)
      refine gS rfl rfl ?_
      refine gS rfl rfl ?_
      exact gRt rfl rfl (fun hg => by cases hg; exact ⟨rfl, rfl⟩)
noncomputable def R_X9_value : Nat → gDS → gRF → gRF → Option Int64
  | 0 => fun _ _ _ => none
  | n + 1 => F_X9_value (R_X9_value n)
theorem rvR_X9_value (n : Nat) {D : gDS} {o : gRF} {p0 : gRF} {z} (hz : R_X9_value n D o p0 = some z) : gRv D o 9 = some () := by
  cases n with
  | zero => cases hz
  | succ n => exact rv_X9_value hz
theorem okR_X9_value : ∀ (n : Nat) (dX : Nat) (hX : 40 ≤ dX) (d : Nat), 0 + n ≤ d → ∀ (h : PH) (D : gDS) (o : gRF) (p0 : gRF), ∀ z, R_X9_value n D o p0 = some z → gEx dX d 60 [.inr (.inr o), .inr (.inr p0)] (h, D) (some (.inr (.inl z))) (h, D)
  | 0 => fun dX hX d _ h D o p0 z hz => by cases hz
  | n + 1 => fun dX hX d hd h D o p0 z hz => ok_X9_value (R_X9_value n) dX hX (0 + n) (by omega) (okR_X9_value n dX hX) (fun hz => rvR_X9_value n hz) d (by omega) h D o p0 z hz
noncomputable def F_X8_work (D : gDS) (o : gRF) (p0 : Int32) : Option (Int32 × gDS) :=
 (gRv D o 8).bind fun _ =>
 (gFr D o 8 2).bind fun r1 =>
 if r1 = none then
  (F_X8_cost D o p0).bind fun y2 =>
  some ((y2, D))
 else
  (gFr D o 8 2).bind fun r3 =>
  (F_X8_cost (gAJ D 2) o p0).bind fun y4 =>
  (gJst (gAJ D 2) (gTop D) (0 : Int32) y4.toInt64).bind fun D5 =>
  (F_X8_demand D5 o p0).bind fun y6 =>
  (gJst D5 (gTop D) (1 : Int32) y6.toInt64).bind fun D7 =>
  (R_X9_value 4 D7 r3 (gTop D)).bind fun y8 =>
  some (((if (if y8 < (9999 : Int64) then y8 else (9999 : Int64)) < (0 : Int64) then (0 : Int64) else (if y8 < (9999 : Int64) then y8 else (9999 : Int64))).toInt32, D7))
theorem rv_X8_work {D : gDS} {o : gRF} {p0 : Int32} {z} (hz : F_X8_work D o p0 = some z) : gRv D o 8 = some () := by
  unfold F_X8_work at hz
  exact rv_bind hz
set_option maxHeartbeats 4000000 in
set_option maxRecDepth 100000 in
theorem ok_X8_work (dX : Nat) (hX : 40 ≤ dX) (d : Nat) (hd : 7 ≤ d) (h : PH) (D : gDS) (o : gRF) (p0 : Int32) : ∀ z, F_X8_work D o p0 = some z → gEx dX d 42 [.inr (.inr o), .inl p0] (h, D) (some (.inl z.1)) (h, z.2) := by
  obtain ⟨d, rfl⟩ : ∃ e, d = e + 1 := ⟨d - 1, by omega⟩
  intro z hz
  refine ⟨rfl, ?_⟩
  refine (?_ : GSim (gEx dX d) (Ex dX) gmi_X8_work (fun o1 h1 => o1 = _ ∧ h1 = _) (F_X8_work D o p0) (fun t => t = z) 0 [some (.inr (.inr o)), some (.inl p0)] [] (h, D)) z hz rfl
  clear hz
  unfold F_X8_work
  refine gRc ?_
  refine gS rfl rfl ?_
  refine gO rfl rfl (fun r1 => ?_)
  refine gB rfl rfl ?_ ?_
  · refine gS rfl rfl ?_
    refine gS rfl rfl ?_
    refine gC (st' := fun y2 => [.inl y2]) rfl rfl (fun _ hz => rv_recv (ci := 8) (by omega) (rv_X8_cost hz)) rfl (ok_X8_cost dX hX d (by omega) h D o p0) (fun z => rfl) (fun y2 => ?_)
    refine gS rfl rfl ?_
    exact gRt rfl rfl (fun hg => by cases hg; exact ⟨rfl, rfl⟩)
  · refine gS rfl rfl ?_
    refine gS rfl rfl ?_
    refine gS rfl rfl ?_
    refine gO rfl rfl (fun r3 => ?_)
    refine gS rfl rfl ?_
    refine gS (s' := (h, (gAJ D 2))) rfl rfl ?_
    refine gS rfl rfl ?_
    refine gS rfl rfl ?_
    refine gS rfl rfl ?_
    refine gS rfl rfl ?_
    refine gC (st' := fun y4 => [.inl y4, .inl (0 : Int32), .inr (.inr (gTop D)), .inr (.inr (gTop D)), .inr (.inr r3), .inr (.inl (9999 : Int64)), .inr (.inl (0 : Int64))]) rfl rfl (fun _ hz => rv_recv (ci := 8) (by omega) (rv_X8_cost hz)) rfl (ok_X8_cost dX hX d (by omega) h (gAJ D 2) o p0) (fun z => rfl) (fun y4 => ?_)
    refine gS rfl rfl ?_
    refine gO rfl rfl (fun D5 => ?_)
    refine gS rfl rfl ?_
    refine gS rfl rfl ?_
    refine gS rfl rfl ?_
    refine gS rfl rfl ?_
    refine gC (st' := fun y6 => [.inl y6, .inl (1 : Int32), .inr (.inr (gTop D)), .inr (.inr (gTop D)), .inr (.inr r3), .inr (.inl (9999 : Int64)), .inr (.inl (0 : Int64))]) rfl rfl (fun _ hz => rv_recv (ci := 8) (by omega) (rv_X8_demand hz)) rfl (ok_X8_demand dX hX d (by omega) h D5 o p0) (fun z => rfl) (fun y6 => ?_)
    refine gS rfl rfl ?_
    refine gO rfl rfl (fun D7 => ?_)
    refine gC (st' := fun y8 => [.inr (.inl y8), .inr (.inl (9999 : Int64)), .inr (.inl (0 : Int64))]) rfl rfl (fun _ hz => rv_recv (ci := 9) (by omega) (rvR_X9_value 4 hz)) rfl (okR_X9_value 4 dX hX d (by omega) h D7 r3 (gTop D)) (fun z => rfl) (fun y8 => ?_)
    refine gS rfl rfl ?_
    refine gS rfl rfl ?_
    refine gS rfl rfl ?_
    exact gRt rfl rfl (fun hg => by cases hg; exact ⟨rfl, rfl⟩)
noncomputable def F_X8_price (D : gDS) (o : gRF) (p0 : Int32) (p1 : gRF) : Option (Int32 × gDS) :=
 (gRv D o 8).bind fun _ =>
 loop (fun (s1 : Int32 × Int32 × gDS) =>
  (gLen s1.2.2 p1).bind fun z2 =>
  if z2 ≤ s1.2.1 then
   (gLen s1.2.2 p1).bind fun z3 =>
   if ¬ z3 = 0 then
    (gLen s1.2.2 p1).bind fun z4 =>
    (gIld s1.2.2 p1 1 (z4 - (1 : Int32))).bind fun z5 =>
    (F_X8_back s1.2.2 o z5 p0).bind fun y6 =>
    some (.inr (((s1.1 + y6), s1.2.2)))
   else
    some (.inr (((0 : Int32), s1.2.2)))
  else
   (gIld s1.2.2 p1 1 s1.2.1).bind fun z7 =>
   (F_X8_work s1.2.2 o z7).bind fun y8 =>
   if ¬ s1.2.1 = 0 then
    (gIld y8.2 p1 1 (s1.2.1 - (1 : Int32))).bind fun z9 =>
    (gIld y8.2 p1 1 s1.2.1).bind fun z10 =>
    (F_X8_gap y8.2 o z9 z10).bind fun y11 =>
    some (.inl ((s1.1 + (y8.1 + y11)), (s1.2.1 + (1 : Int32)), y8.2))
   else
    (gIld y8.2 p1 1 (0 : Int32)).bind fun z12 =>
    (F_X8_reach y8.2 o p0 z12).bind fun y13 =>
    some (.inl ((s1.1 + (y8.1 + y13)), (s1.2.1 + (1 : Int32)), y8.2))) ((0 : Int32), (0 : Int32), D)
theorem rv_X8_price {D : gDS} {o : gRF} {p0 : Int32} {p1 : gRF} {z} (hz : F_X8_price D o p0 p1 = some z) : gRv D o 8 = some () := by
  unfold F_X8_price at hz
  exact rv_bind hz
set_option maxHeartbeats 4000000 in
set_option maxRecDepth 100000 in
theorem ok_X8_price (dX : Nat) (hX : 40 ≤ dX) (d : Nat) (hd : 8 ≤ d) (h : PH) (D : gDS) (o : gRF) (p0 : Int32) (p1 : gRF) : ∀ z, F_X8_price D o p0 p1 = some z → gEx dX d 43 [.inr (.inr o), .inl p0, .inr (.inr p1)] (h, D) (some (.inl z.1)) (h, z.2) := by
  obtain ⟨d, rfl⟩ : ∃ e, d = e + 1 := ⟨d - 1, by omega⟩
  intro z hz
  refine ⟨rfl, ?_⟩
  refine (?_ : GSim (gEx dX d) (Ex dX) gmi_X8_price (fun o1 h1 => o1 = _ ∧ h1 = _) (F_X8_price D o p0 p1) (fun t => t = z) 0 [some (.inr (.inr o)), some (.inl p0), some (.inr (.inr p1)), none, none] [] (h, D)) z hz rfl
  clear hz
  unfold F_X8_price
  refine gRc ?_
  refine gS rfl rfl ?_
  refine gS (lv' := [some (.inr (.inr o)), some (.inl p0), some (.inr (.inr p1)), some (.inl (0 : Int32)), none]) rfl rfl ?_
  refine gS rfl rfl ?_
  refine gS (lv' := [some (.inr (.inr o)), some (.inl p0), some (.inr (.inr p1)), some (.inl (0 : Int32)), some (.inl (0 : Int32))]) rfl rfl ?_
  refine gL (pc := 5) (lv := fun (s1 : Int32 × Int32 × gDS) => [some (.inr (.inr o)), some (.inl p0), some (.inr (.inr p1)), some (.inl s1.1), some (.inl s1.2.1)]) (s := fun (s1 : Int32 × Int32 × gDS) => (h, s1.2.2)) (fun s1 => ?_) ((0 : Int32), (0 : Int32), D)
  refine gS rfl rfl ?_
  refine gS rfl rfl ?_
  refine gO rfl rfl (fun z2 => ?_)
  refine gB rfl rfl ?_ ?_
  · refine gS rfl rfl ?_
    refine gO rfl rfl (fun z3 => ?_)
    refine gB rfl rfl ?_ ?_
    · refine gS rfl rfl ?_
      refine gS rfl rfl ?_
      refine gS rfl rfl ?_
      refine gS rfl rfl ?_
      refine gO rfl rfl (fun z4 => ?_)
      refine gS rfl rfl ?_
      refine gS rfl rfl ?_
      refine gO rfl rfl (fun z5 => ?_)
      refine gS rfl rfl ?_
      refine gC (st' := fun y6 => [.inl y6, .inl s1.1]) rfl rfl (fun _ hz => rv_recv (ci := 8) (by omega) (rv_X8_back hz)) rfl (ok_X8_back dX hX d (by omega) h s1.2.2 o z5 p0) (fun z => rfl) (fun y6 => ?_)
      refine gS rfl rfl ?_
      exact gRt rfl rfl (fun hg => by cases hg; exact ⟨rfl, rfl⟩)
    · refine gS rfl rfl ?_
      refine gS rfl rfl ?_
      exact gRt rfl rfl (fun hg => by cases hg; exact ⟨rfl, rfl⟩)
  · refine gS rfl rfl ?_
    refine gS rfl rfl ?_
    refine gS rfl rfl ?_
    refine gS rfl rfl ?_
    refine gO rfl rfl (fun z7 => ?_)
    refine gC (st' := fun y8 => [.inl y8.1, .inl s1.1]) rfl rfl (fun _ hz => rv_recv (ci := 8) (by omega) (rv_X8_work hz)) rfl (ok_X8_work dX hX d (by omega) h s1.2.2 o z7) (fun z => rfl) (fun y8 => ?_)
    refine gS rfl rfl ?_
    refine gB rfl rfl ?_ ?_
    · refine gS rfl rfl ?_
      refine gS rfl rfl ?_
      refine gS rfl rfl ?_
      refine gS rfl rfl ?_
      refine gS rfl rfl ?_
      refine gO rfl rfl (fun z9 => ?_)
      refine gS rfl rfl ?_
      refine gS rfl rfl ?_
      refine gO rfl rfl (fun z10 => ?_)
      refine gC (st' := fun y11 => [.inl y11, .inl y8.1, .inl s1.1]) rfl rfl (fun _ hz => rv_recv (ci := 8) (by omega) (rv_X8_gap hz)) rfl (ok_X8_gap dX hX d (by omega) h y8.2 o z9 z10) (fun z => rfl) (fun y11 => ?_)
      refine gS rfl rfl ?_
      refine gS rfl rfl ?_
      refine gS (lv' := [some (.inr (.inr o)), some (.inl p0), some (.inr (.inr p1)), some (.inl (s1.1 + (y8.1 + y11))), some (.inl s1.2.1)]) rfl rfl ?_
      refine gS (lv' := [some (.inr (.inr o)), some (.inl p0), some (.inr (.inr p1)), some (.inl (s1.1 + (y8.1 + y11))), some (.inl (s1.2.1 + (1 : Int32)))]) rfl rfl ?_
      refine gS rfl rfl ?_
      exact gJ (fun h2 => h2)
    · refine gS rfl rfl ?_
      refine gS rfl rfl ?_
      refine gS rfl rfl ?_
      refine gS rfl rfl ?_
      refine gO rfl rfl (fun z12 => ?_)
      refine gC (st' := fun y13 => [.inl y13, .inl y8.1, .inl s1.1]) rfl rfl (fun _ hz => rv_recv (ci := 8) (by omega) (rv_X8_reach hz)) rfl (ok_X8_reach dX hX d (by omega) h y8.2 o p0 z12) (fun z => rfl) (fun y13 => ?_)
      refine gS rfl rfl ?_
      refine gS rfl rfl ?_
      refine gS rfl rfl ?_
      refine gS (lv' := [some (.inr (.inr o)), some (.inl p0), some (.inr (.inr p1)), some (.inl (s1.1 + (y8.1 + y13))), some (.inl s1.2.1)]) rfl rfl ?_
      refine gS (lv' := [some (.inr (.inr o)), some (.inl p0), some (.inr (.inr p1)), some (.inl (s1.1 + (y8.1 + y13))), some (.inl (s1.2.1 + (1 : Int32)))]) rfl rfl ?_
      refine gS rfl rfl ?_
      exact gJ (fun h2 => h2)
noncomputable def F_X8_price_ (D : gDS) (o : gRF) (p0 : Int32) : Option (Int32 × gDS) :=
 (gRv D o 8).bind fun _ =>
 (gFr D o 8 6).bind fun r1 =>
 (gIld D r1 1 p0).bind fun z2 =>
 (gFr D o 8 7).bind fun r3 =>
 (gQld D r3 p0).bind fun r4 =>
 (F_X8_price D o z2 r4).bind fun y5 =>
 some ((y5.1, y5.2))
theorem rv_X8_price_ {D : gDS} {o : gRF} {p0 : Int32} {z} (hz : F_X8_price_ D o p0 = some z) : gRv D o 8 = some () := by
  unfold F_X8_price_ at hz
  exact rv_bind hz
set_option maxHeartbeats 4000000 in
set_option maxRecDepth 100000 in
theorem ok_X8_price_ (dX : Nat) (hX : 40 ≤ dX) (d : Nat) (hd : 9 ≤ d) (h : PH) (D : gDS) (o : gRF) (p0 : Int32) : ∀ z, F_X8_price_ D o p0 = some z → gEx dX d 44 [.inr (.inr o), .inl p0] (h, D) (some (.inl z.1)) (h, z.2) := by
  obtain ⟨d, rfl⟩ : ∃ e, d = e + 1 := ⟨d - 1, by omega⟩
  intro z hz
  refine ⟨rfl, ?_⟩
  refine (?_ : GSim (gEx dX d) (Ex dX) gmi_X8_price_ (fun o1 h1 => o1 = _ ∧ h1 = _) (F_X8_price_ D o p0) (fun t => t = z) 0 [some (.inr (.inr o)), some (.inl p0)] [] (h, D)) z hz rfl
  clear hz
  unfold F_X8_price_
  refine gRc ?_
  refine gS rfl rfl ?_
  refine gS rfl rfl ?_
  refine gO rfl rfl (fun r1 => ?_)
  refine gS rfl rfl ?_
  refine gO rfl rfl (fun z2 => ?_)
  refine gS rfl rfl ?_
  refine gO rfl rfl (fun r3 => ?_)
  refine gS rfl rfl ?_
  refine gO rfl rfl (fun r4 => ?_)
  refine gC (st' := fun y5 => [.inl y5.1]) rfl rfl (fun _ hz => rv_recv (ci := 8) (by omega) (rv_X8_price hz)) rfl (ok_X8_price dX hX d (by omega) h D o z2 r4) (fun z => rfl) (fun y5 => ?_)
  exact gRt rfl rfl (fun hg => by cases hg; exact ⟨rfl, rfl⟩)
noncomputable def F_X8_total (D : gDS) (o : gRF) : Option (Int32 × gDS) :=
 (gRv D o 8).bind fun _ =>
 loop (fun (s1 : Int32 × Int32 × gDS) =>
  (gFr s1.2.2 o 8 7).bind fun r2 =>
  (gLen s1.2.2 r2).bind fun z3 =>
  if z3 ≤ s1.2.1 then
   some (.inr ((s1.1, s1.2.2)))
  else
   (F_X8_price_ s1.2.2 o s1.2.1).bind fun y4 =>
   some (.inl ((s1.1 + y4.1), (s1.2.1 + (1 : Int32)), y4.2))) ((0 : Int32), (0 : Int32), D)
theorem rv_X8_total {D : gDS} {o : gRF} {z} (hz : F_X8_total D o = some z) : gRv D o 8 = some () := by
  unfold F_X8_total at hz
  exact rv_bind hz
set_option maxHeartbeats 4000000 in
set_option maxRecDepth 100000 in
theorem ok_X8_total (dX : Nat) (hX : 40 ≤ dX) (d : Nat) (hd : 10 ≤ d) (h : PH) (D : gDS) (o : gRF) : ∀ z, F_X8_total D o = some z → gEx dX d 45 [.inr (.inr o)] (h, D) (some (.inl z.1)) (h, z.2) := by
  obtain ⟨d, rfl⟩ : ∃ e, d = e + 1 := ⟨d - 1, by omega⟩
  intro z hz
  refine ⟨rfl, ?_⟩
  refine (?_ : GSim (gEx dX d) (Ex dX) gmi_X8_total (fun o1 h1 => o1 = _ ∧ h1 = _) (F_X8_total D o) (fun t => t = z) 0 [some (.inr (.inr o)), none, none] [] (h, D)) z hz rfl
  clear hz
  unfold F_X8_total
  refine gRc ?_
  refine gS rfl rfl ?_
  refine gS (lv' := [some (.inr (.inr o)), some (.inl (0 : Int32)), none]) rfl rfl ?_
  refine gS rfl rfl ?_
  refine gS (lv' := [some (.inr (.inr o)), some (.inl (0 : Int32)), some (.inl (0 : Int32))]) rfl rfl ?_
  refine gL (pc := 4) (lv := fun (s1 : Int32 × Int32 × gDS) => [some (.inr (.inr o)), some (.inl s1.1), some (.inl s1.2.1)]) (s := fun (s1 : Int32 × Int32 × gDS) => (h, s1.2.2)) (fun s1 => ?_) ((0 : Int32), (0 : Int32), D)
  refine gS rfl rfl ?_
  refine gS rfl rfl ?_
  refine gO rfl rfl (fun r2 => ?_)
  refine gO rfl rfl (fun z3 => ?_)
  refine gB rfl rfl ?_ ?_
  · refine gS rfl rfl ?_
    exact gRt rfl rfl (fun hg => by cases hg; exact ⟨rfl, rfl⟩)
  · refine gS rfl rfl ?_
    refine gS rfl rfl ?_
    refine gS rfl rfl ?_
    refine gC (st' := fun y4 => [.inl y4.1, .inl s1.1]) rfl rfl (fun _ hz => rv_recv (ci := 8) (by omega) (rv_X8_price_ hz)) rfl (ok_X8_price_ dX hX d (by omega) h s1.2.2 o s1.2.1) (fun z => rfl) (fun y4 => ?_)
    refine gS rfl rfl ?_
    refine gS (lv' := [some (.inr (.inr o)), some (.inl (s1.1 + y4.1)), some (.inl s1.2.1)]) rfl rfl ?_
    refine gS (lv' := [some (.inr (.inr o)), some (.inl (s1.1 + y4.1)), some (.inl (s1.2.1 + (1 : Int32)))]) rfl rfl ?_
    refine gS rfl rfl ?_
    exact gJ (fun h2 => h2)
noncomputable def F_X8_load (D : gDS) (o : gRF) (p0 : Int32) : Option Int32 :=
 (gRv D o 8).bind fun _ =>
 (gFr D o 8 7).bind fun r1 =>
 (gQld D r1 p0).bind fun r2 =>
 (gLen D r2).bind fun z3 =>
 loop (fun (s4 : Int32 × Int32) =>
  if z3 ≤ s4.2 then
   some (.inr (s4.1))
  else
   (gIld D r2 1 s4.2).bind fun z5 =>
   (F_X8_demand D o z5).bind fun y6 =>
   some (.inl ((s4.1 + y6), (s4.2 + (1 : Int32))))) ((0 : Int32), (0 : Int32))
theorem rv_X8_load {D : gDS} {o : gRF} {p0 : Int32} {z} (hz : F_X8_load D o p0 = some z) : gRv D o 8 = some () := by
  unfold F_X8_load at hz
  exact rv_bind hz
set_option maxHeartbeats 4000000 in
set_option maxRecDepth 100000 in
theorem ok_X8_load (dX : Nat) (hX : 40 ≤ dX) (d : Nat) (hd : 2 ≤ d) (h : PH) (D : gDS) (o : gRF) (p0 : Int32) : ∀ z, F_X8_load D o p0 = some z → gEx dX d 46 [.inr (.inr o), .inl p0] (h, D) (some (.inl z)) (h, D) := by
  obtain ⟨d, rfl⟩ : ∃ e, d = e + 1 := ⟨d - 1, by omega⟩
  intro z hz
  refine ⟨rfl, ?_⟩
  refine (?_ : GSim (gEx dX d) (Ex dX) gmi_X8_load (fun o1 h1 => o1 = _ ∧ h1 = _) (F_X8_load D o p0) (fun t => t = z) 0 [some (.inr (.inr o)), some (.inl p0), none, none, none, none, none] [] (h, D)) z hz rfl
  clear hz
  unfold F_X8_load
  refine gRc ?_
  refine gS rfl rfl ?_
  refine gS (lv' := [some (.inr (.inr o)), some (.inl p0), some (.inl (0 : Int32)), none, none, none, none]) rfl rfl ?_
  refine gS rfl rfl ?_
  refine gO rfl rfl (fun r1 => ?_)
  refine gS rfl rfl ?_
  refine gO rfl rfl (fun r2 => ?_)
  refine gS (lv' := [some (.inr (.inr o)), some (.inl p0), some (.inl (0 : Int32)), some (.inr (.inr r2)), none, none, none]) rfl rfl ?_
  refine gS rfl rfl ?_
  refine gO rfl rfl (fun z3 => ?_)
  refine gS (lv' := [some (.inr (.inr o)), some (.inl p0), some (.inl (0 : Int32)), some (.inr (.inr r2)), some (.inl z3), none, none]) rfl rfl ?_
  refine gS rfl rfl ?_
  refine gS (lv' := [some (.inr (.inr o)), some (.inl p0), some (.inl (0 : Int32)), some (.inr (.inr r2)), some (.inl z3), some (.inl (0 : Int32)), none]) rfl rfl ?_
  refine gMk [true, false, true, true, true, true, true] (lv' := [some (.inr (.inr o)), none, some (.inl (0 : Int32)), some (.inr (.inr r2)), some (.inl z3), some (.inl (0 : Int32)), none]) rfl rfl ?_
  refine gL (pc := 16) (lv := fun (s4 : Int32 × Int32) => [some (.inr (.inr o)), none, some (.inl s4.1), some (.inr (.inr r2)), some (.inl z3), some (.inl s4.2), none]) (s := fun (s4 : Int32 × Int32) => (h, D)) (fun s4 => ?_) ((0 : Int32), (0 : Int32))
  refine gS rfl rfl ?_
  refine gS rfl rfl ?_
  refine gB rfl rfl ?_ ?_
  · refine gS rfl rfl ?_
    exact gRt rfl rfl (fun hg => by cases hg; exact ⟨rfl, rfl⟩)
  · refine gS rfl rfl ?_
    refine gS rfl rfl ?_
    refine gO rfl rfl (fun z5 => ?_)
    refine gS (lv' := [some (.inr (.inr o)), none, some (.inl s4.1), some (.inr (.inr r2)), some (.inl z3), some (.inl s4.2), some (.inl z5)]) rfl rfl ?_
    refine gS rfl rfl ?_
    refine gS rfl rfl ?_
    refine gS rfl rfl ?_
    refine gC (st' := fun y6 => [.inl y6, .inl s4.1]) rfl rfl (fun _ hz => rv_recv (ci := 8) (by omega) (rv_X8_demand hz)) rfl (ok_X8_demand dX hX d (by omega) h D o z5) (fun z => rfl) (fun y6 => ?_)
    refine gS rfl rfl ?_
    refine gS (lv' := [some (.inr (.inr o)), none, some (.inl (s4.1 + y6)), some (.inr (.inr r2)), some (.inl z3), some (.inl s4.2), some (.inl z5)]) rfl rfl ?_
    refine gS (lv' := [some (.inr (.inr o)), none, some (.inl (s4.1 + y6)), some (.inr (.inr r2)), some (.inl z3), some (.inl (s4.2 + (1 : Int32))), some (.inl z5)]) rfl rfl ?_
    refine gS rfl rfl ?_
    refine gMk [true, true, true, true, true, true, false] (lv' := [some (.inr (.inr o)), none, some (.inl (s4.1 + y6)), some (.inr (.inr r2)), some (.inl z3), some (.inl (s4.2 + (1 : Int32))), none]) rfl rfl ?_
    exact gJ (fun h2 => h2)
noncomputable def F_X8_where (D : gDS) (o : gRF) (p0 : Int32) : Option (gRF × gDS) :=
 (gRv D o 8).bind fun _ =>
 loop (fun (s1 : Int32) =>
  (gFr D o 8 7).bind fun r2 =>
  (gLen D r2).bind fun z3 =>
  if z3 ≤ s1 then
   some (.inr ((none, D)))
  else
   loop (fun (s4 : Int32) =>
    (gFr D o 8 7).bind fun r5 =>
    (gQld D r5 s1).bind fun r6 =>
    (gLen D r6).bind fun z7 =>
    if z7 ≤ s4 then
     some (.inr (.inl ((s1 + (1 : Int32)))))
    else
     (gFr D o 8 7).bind fun r8 =>
     (gQld D r8 s1).bind fun r9 =>
     (gIld D r9 1 s4).bind fun z10 =>
     if ¬ (z10 / (2 : Int32)) = p0 then
      some (.inl ((s4 + (1 : Int32))))
     else
      (gIst (gAI D 1 2) (gTop D) 1 (0 : Int32) s1).bind fun D11 =>
      (gIst D11 (gTop D) 1 (1 : Int32) s4).bind fun D12 =>
      some (.inr (.inr (((gTop D), D12))))) ((0 : Int32))) ((0 : Int32))
theorem rv_X8_where {D : gDS} {o : gRF} {p0 : Int32} {z} (hz : F_X8_where D o p0 = some z) : gRv D o 8 = some () := by
  unfold F_X8_where at hz
  exact rv_bind hz
set_option maxHeartbeats 4000000 in
set_option maxRecDepth 100000 in
theorem ok_X8_where (dX : Nat) (hX : 40 ≤ dX) (d : Nat) (hd : 1 ≤ d) (h : PH) (D : gDS) (o : gRF) (p0 : Int32) : ∀ z, F_X8_where D o p0 = some z → gEx dX d 47 [.inr (.inr o), .inl p0] (h, D) (some (.inr (.inr z.1))) (h, z.2) := by
  obtain ⟨d, rfl⟩ : ∃ e, d = e + 1 := ⟨d - 1, by omega⟩
  intro z hz
  refine ⟨rfl, ?_⟩
  refine (?_ : GSim (gEx dX d) (Ex dX) gmi_X8_where (fun o1 h1 => o1 = _ ∧ h1 = _) (F_X8_where D o p0) (fun t => t = z) 0 [some (.inr (.inr o)), some (.inl p0), none, none] [] (h, D)) z hz rfl
  clear hz
  unfold F_X8_where
  refine gRc ?_
  refine gS rfl rfl ?_
  refine gS (lv' := [some (.inr (.inr o)), some (.inl p0), some (.inl (0 : Int32)), none]) rfl rfl ?_
  refine gL (pc := 2) (lv := fun (s1 : Int32) => [some (.inr (.inr o)), some (.inl p0), some (.inl s1), none]) (s := fun (s1 : Int32) => (h, D)) (fun s1 => ?_) ((0 : Int32))
  refine gS rfl rfl ?_
  refine gS rfl rfl ?_
  refine gO rfl rfl (fun r2 => ?_)
  refine gO rfl rfl (fun z3 => ?_)
  refine gB rfl rfl ?_ ?_
  · refine gS rfl rfl ?_
    exact gRt rfl rfl (fun hg => by cases hg; exact ⟨rfl, rfl⟩)
  · refine gS rfl rfl ?_
    refine gS (lv' := [some (.inr (.inr o)), some (.inl p0), some (.inl s1), some (.inl (0 : Int32))]) rfl rfl ?_
    refine gL (pc := 13) (lv := fun (s4 : Int32) => [some (.inr (.inr o)), some (.inl p0), some (.inl s1), some (.inl s4)]) (s := fun (s4 : Int32) => (h, D)) (fun s4 => ?_) ((0 : Int32))
    refine gS rfl rfl ?_
    refine gS rfl rfl ?_
    refine gO rfl rfl (fun r5 => ?_)
    refine gS rfl rfl ?_
    refine gO rfl rfl (fun r6 => ?_)
    refine gO rfl rfl (fun z7 => ?_)
    refine gB rfl rfl ?_ ?_
    · refine gS (lv' := [some (.inr (.inr o)), some (.inl p0), some (.inl (s1 + (1 : Int32))), some (.inl s4)]) rfl rfl ?_
      refine gS rfl rfl ?_
      refine gMk [true, true, true, false] (lv' := [some (.inr (.inr o)), some (.inl p0), some (.inl (s1 + (1 : Int32))), none]) rfl rfl ?_
      refine gUp ?_
      exact gJ (fun h2 => h2)
    · refine gS rfl rfl ?_
      refine gO rfl rfl (fun r8 => ?_)
      refine gS rfl rfl ?_
      refine gO rfl rfl (fun r9 => ?_)
      refine gS rfl rfl ?_
      refine gO rfl rfl (fun z10 => ?_)
      refine gS rfl rfl ?_
      refine gS rfl rfl ?_
      refine gS rfl rfl ?_
      refine gB rfl rfl ?_ ?_
      · refine gS (lv' := [some (.inr (.inr o)), some (.inl p0), some (.inl s1), some (.inl (s4 + (1 : Int32)))]) rfl rfl ?_
        refine gS rfl rfl ?_
        exact gJ (fun h2 => h2)
      · refine gS rfl rfl ?_
        refine gS (s' := (h, (gAI D 1 2))) rfl rfl ?_
        refine gS rfl rfl ?_
        refine gS rfl rfl ?_
        refine gS rfl rfl ?_
        refine gO rfl rfl (fun D11 => ?_)
        refine gS rfl rfl ?_
        refine gS rfl rfl ?_
        refine gS rfl rfl ?_
        refine gO rfl rfl (fun D12 => ?_)
        exact gRt rfl rfl (fun hg => by cases hg; exact ⟨rfl, rfl⟩)
noncomputable def F_X8_isOpen (D : gDS) (o : gRF) (p0 : Int32) : Option (Int32 × gDS) :=
 (gRv D o 8).bind fun _ =>
 (gFr D o 8 3).bind fun r1 =>
 (gQld D r1 p0).bind fun r2 =>
 (gIld D r2 1 (4 : Int32)).bind fun z3 =>
 if z3 ≤ 0 then
  some (((0 : Int32), D))
 else
  (F_X8_where D o p0).bind fun y4 =>
  if y4.1 = none then
   some (((1 : Int32), y4.2))
  else
   some (((0 : Int32), y4.2))
theorem rv_X8_isOpen {D : gDS} {o : gRF} {p0 : Int32} {z} (hz : F_X8_isOpen D o p0 = some z) : gRv D o 8 = some () := by
  unfold F_X8_isOpen at hz
  exact rv_bind hz
set_option maxHeartbeats 4000000 in
set_option maxRecDepth 100000 in
theorem ok_X8_isOpen (dX : Nat) (hX : 40 ≤ dX) (d : Nat) (hd : 2 ≤ d) (h : PH) (D : gDS) (o : gRF) (p0 : Int32) : ∀ z, F_X8_isOpen D o p0 = some z → gEx dX d 48 [.inr (.inr o), .inl p0] (h, D) (some (.inl z.1)) (h, z.2) := by
  obtain ⟨d, rfl⟩ : ∃ e, d = e + 1 := ⟨d - 1, by omega⟩
  intro z hz
  refine ⟨rfl, ?_⟩
  refine (?_ : GSim (gEx dX d) (Ex dX) gmi_X8_isOpen (fun o1 h1 => o1 = _ ∧ h1 = _) (F_X8_isOpen D o p0) (fun t => t = z) 0 [some (.inr (.inr o)), some (.inl p0)] [] (h, D)) z hz rfl
  clear hz
  unfold F_X8_isOpen
  refine gRc ?_
  refine gS rfl rfl ?_
  refine gO rfl rfl (fun r1 => ?_)
  refine gS rfl rfl ?_
  refine gO rfl rfl (fun r2 => ?_)
  refine gS rfl rfl ?_
  refine gO rfl rfl (fun z3 => ?_)
  refine gB rfl rfl ?_ ?_
  · refine gS rfl rfl ?_
    exact gRt rfl rfl (fun hg => by cases hg; exact ⟨rfl, rfl⟩)
  · refine gS rfl rfl ?_
    refine gS rfl rfl ?_
    refine gC (st' := fun y4 => [.inr (.inr y4.1)]) rfl rfl (fun _ hz => rv_recv (ci := 8) (by omega) (rv_X8_where hz)) rfl (ok_X8_where dX hX d (by omega) h D o p0) (fun z => rfl) (fun y4 => ?_)
    refine gB rfl rfl ?_ ?_
    · refine gS rfl rfl ?_
      refine gS rfl rfl ?_
      exact gRt rfl rfl (fun hg => by cases hg; exact ⟨rfl, rfl⟩)
    · refine gS rfl rfl ?_
      exact gRt rfl rfl (fun hg => by cases hg; exact ⟨rfl, rfl⟩)
noncomputable def F_X8_open (D : gDS) (o : gRF) : Option (Int32 × gDS) :=
 (gRv D o 8).bind fun _ =>
 loop (fun (s1 : Int32 × Int32 × gDS) =>
  (gFr s1.2.2 o 8 3).bind fun r2 =>
  (gLen s1.2.2 r2).bind fun z3 =>
  if z3 ≤ s1.2.1 then
   some (.inr ((s1.1, s1.2.2)))
  else
   (F_X8_isOpen s1.2.2 o s1.2.1).bind fun y4 =>
   if y4.1 = 0 then
    some (.inl (s1.1, (s1.2.1 + (1 : Int32)), y4.2))
   else
    some (.inl ((s1.1 + (1 : Int32)), (s1.2.1 + (1 : Int32)), y4.2))) ((0 : Int32), (0 : Int32), D)
theorem rv_X8_open {D : gDS} {o : gRF} {z} (hz : F_X8_open D o = some z) : gRv D o 8 = some () := by
  unfold F_X8_open at hz
  exact rv_bind hz
set_option maxHeartbeats 4000000 in
set_option maxRecDepth 100000 in
theorem ok_X8_open (dX : Nat) (hX : 40 ≤ dX) (d : Nat) (hd : 3 ≤ d) (h : PH) (D : gDS) (o : gRF) : ∀ z, F_X8_open D o = some z → gEx dX d 49 [.inr (.inr o)] (h, D) (some (.inl z.1)) (h, z.2) := by
  obtain ⟨d, rfl⟩ : ∃ e, d = e + 1 := ⟨d - 1, by omega⟩
  intro z hz
  refine ⟨rfl, ?_⟩
  refine (?_ : GSim (gEx dX d) (Ex dX) gmi_X8_open (fun o1 h1 => o1 = _ ∧ h1 = _) (F_X8_open D o) (fun t => t = z) 0 [some (.inr (.inr o)), none, none] [] (h, D)) z hz rfl
  clear hz
  unfold F_X8_open
  refine gRc ?_
  refine gS rfl rfl ?_
  refine gS (lv' := [some (.inr (.inr o)), some (.inl (0 : Int32)), none]) rfl rfl ?_
  refine gS rfl rfl ?_
  refine gS (lv' := [some (.inr (.inr o)), some (.inl (0 : Int32)), some (.inl (0 : Int32))]) rfl rfl ?_
  refine gL (pc := 4) (lv := fun (s1 : Int32 × Int32 × gDS) => [some (.inr (.inr o)), some (.inl s1.1), some (.inl s1.2.1)]) (s := fun (s1 : Int32 × Int32 × gDS) => (h, s1.2.2)) (fun s1 => ?_) ((0 : Int32), (0 : Int32), D)
  refine gS rfl rfl ?_
  refine gS rfl rfl ?_
  refine gO rfl rfl (fun r2 => ?_)
  refine gO rfl rfl (fun z3 => ?_)
  refine gB rfl rfl ?_ ?_
  · refine gS rfl rfl ?_
    exact gRt rfl rfl (fun hg => by cases hg; exact ⟨rfl, rfl⟩)
  · refine gS rfl rfl ?_
    refine gS rfl rfl ?_
    refine gC (st' := fun y4 => [.inl y4.1]) rfl rfl (fun _ hz => rv_recv (ci := 8) (by omega) (rv_X8_isOpen hz)) rfl (ok_X8_isOpen dX hX d (by omega) h s1.2.2 o s1.2.1) (fun z => rfl) (fun y4 => ?_)
    refine gB rfl rfl ?_ ?_
    · refine gS (lv' := [some (.inr (.inr o)), some (.inl s1.1), some (.inl (s1.2.1 + (1 : Int32)))]) rfl rfl ?_
      refine gS rfl rfl ?_
      exact gJ (fun h2 => h2)
    · refine gS (lv' := [some (.inr (.inr o)), some (.inl (s1.1 + (1 : Int32))), some (.inl s1.2.1)]) rfl rfl ?_
      refine gS (lv' := [some (.inr (.inr o)), some (.inl (s1.1 + (1 : Int32))), some (.inl (s1.2.1 + (1 : Int32)))]) rfl rfl ?_
      refine gS rfl rfl ?_
      exact gJ (fun h2 => h2)
noncomputable def F_L_inserted (D : gDS) (p0 : gRF) (p1 : Int32) (p2 : Int32) : Option (gRF × gDS) :=
 (gLen D p0).bind fun z1 =>
 (gNwI D 1 (z1 + (1 : Int32))).bind fun D2 =>
 loop (fun (s3 : Int32 × gDS) =>
  (gLen s3.2 (gTop D)).bind fun z4 =>
  if z4 ≤ s3.1 then
   some (.inr (((gTop D), s3.2)))
  else
   if p1 ≤ s3.1 then
    if ¬ s3.1 = p1 then
     (gIld s3.2 p0 1 (s3.1 - (1 : Int32))).bind fun z5 =>
     (gIst s3.2 (gTop D) 1 s3.1 z5).bind fun D6 =>
     some (.inl ((s3.1 + (1 : Int32)), D6))
    else
     (gIst s3.2 (gTop D) 1 s3.1 p2).bind fun D7 =>
     some (.inl ((s3.1 + (1 : Int32)), D7))
   else
    (gIld s3.2 p0 1 s3.1).bind fun z8 =>
    (gIst s3.2 (gTop D) 1 s3.1 z8).bind fun D9 =>
    some (.inl ((s3.1 + (1 : Int32)), D9))) ((0 : Int32), D2)
set_option maxHeartbeats 4000000 in
set_option maxRecDepth 100000 in
theorem ok_L_inserted (dX : Nat) (hX : 40 ≤ dX) (d : Nat) (hd : 1 ≤ d) (h : PH) (D : gDS) (p0 : gRF) (p1 : Int32) (p2 : Int32) : ∀ z, F_L_inserted D p0 p1 p2 = some z → gEx dX d 69 [.inr (.inr p0), .inl p1, .inl p2] (h, D) (some (.inr (.inr z.1))) (h, z.2) := by
  obtain ⟨d, rfl⟩ : ∃ e, d = e + 1 := ⟨d - 1, by omega⟩
  intro z hz
  refine ⟨rfl, ?_⟩
  refine (?_ : GSim (gEx dX d) (Ex dX) gmi_L_inserted (fun o1 h1 => o1 = _ ∧ h1 = _) (F_L_inserted D p0 p1 p2) (fun t => t = z) 0 [some (.inr (.inr p0)), some (.inl p1), some (.inl p2), none, none] [] (h, D)) z hz rfl
  clear hz
  unfold F_L_inserted
  refine gS rfl rfl ?_
  refine gO rfl rfl (fun z1 => ?_)
  refine gS rfl rfl ?_
  refine gS rfl rfl ?_
  refine gO rfl rfl (fun D2 => ?_)
  refine gS (lv' := [some (.inr (.inr p0)), some (.inl p1), some (.inl p2), some (.inr (.inr (gTop D))), none]) rfl rfl ?_
  refine gS rfl rfl ?_
  refine gS (lv' := [some (.inr (.inr p0)), some (.inl p1), some (.inl p2), some (.inr (.inr (gTop D))), some (.inl (0 : Int32))]) rfl rfl ?_
  refine gL (pc := 10) (lv := fun (s3 : Int32 × gDS) => [some (.inr (.inr p0)), some (.inl p1), some (.inl p2), some (.inr (.inr (gTop D))), some (.inl s3.1)]) (s := fun (s3 : Int32 × gDS) => (h, s3.2)) (fun s3 => ?_) ((0 : Int32), D2)
  refine gS rfl rfl ?_
  refine gS rfl rfl ?_
  refine gO rfl rfl (fun z4 => ?_)
  refine gB rfl rfl ?_ ?_
  · refine gS rfl rfl ?_
    exact gRt rfl rfl (fun hg => by cases hg; exact ⟨rfl, rfl⟩)
  · refine gS rfl rfl ?_
    refine gS rfl rfl ?_
    refine gS rfl rfl ?_
    refine gS rfl rfl ?_
    refine gB rfl rfl ?_ ?_
    · refine gS rfl rfl ?_
      refine gS rfl rfl ?_
      refine gB rfl rfl ?_ ?_
      · refine gS rfl rfl ?_
        refine gS rfl rfl ?_
        refine gS rfl rfl ?_
        refine gS rfl rfl ?_
        refine gO rfl rfl (fun z5 => ?_)
        refine gO rfl rfl (fun D6 => ?_)
        refine gS (lv' := [some (.inr (.inr p0)), some (.inl p1), some (.inl p2), some (.inr (.inr (gTop D))), some (.inl (s3.1 + (1 : Int32)))]) rfl rfl ?_
        refine gS rfl rfl ?_
        exact gJ (fun h2 => h2)
      · refine gS rfl rfl ?_
        refine gS rfl rfl ?_
        refine gO rfl rfl (fun D7 => ?_)
        refine gS (lv' := [some (.inr (.inr p0)), some (.inl p1), some (.inl p2), some (.inr (.inr (gTop D))), some (.inl (s3.1 + (1 : Int32)))]) rfl rfl ?_
        refine gS rfl rfl ?_
        exact gJ (fun h2 => h2)
    · refine gS rfl rfl ?_
      refine gS rfl rfl ?_
      refine gO rfl rfl (fun z8 => ?_)
      refine gS rfl rfl ?_
      refine gO rfl rfl (fun D9 => ?_)
      refine gS (lv' := [some (.inr (.inr p0)), some (.inl p1), some (.inl p2), some (.inr (.inr (gTop D))), some (.inl (s3.1 + (1 : Int32)))]) rfl rfl ?_
      refine gS rfl rfl ?_
      exact gJ (fun h2 => h2)
noncomputable def F_X8_fits (D : gDS) (o : gRF) (p0 : Int32) (p1 : Int32) (p2 : Int32) : Option (Int32 × gDS) :=
 (gRv D o 8).bind fun _ =>
 (F_X8_load D o p0).bind fun y1 =>
 (F_X8_demand D o p2).bind fun y2 =>
 (gFi D o 8 1).bind fun z3 =>
 if z3 < (y1 + y2) then
  some (((0 : Int32), D))
 else
  (gFr D o 8 6).bind fun r4 =>
  (gIld D r4 1 p0).bind fun z5 =>
  (gFr D o 8 7).bind fun r6 =>
  (gQld D r6 p0).bind fun r7 =>
  (F_L_inserted D r7 p1 p2).bind fun y8 =>
  (F_X8_price y8.2 o z5 y8.1).bind fun y9 =>
  if (500000 : Int32) ≤ y9.1 then
   some (((0 : Int32), y9.2))
  else
   some (((1 : Int32), y9.2))
theorem rv_X8_fits {D : gDS} {o : gRF} {p0 : Int32} {p1 : Int32} {p2 : Int32} {z} (hz : F_X8_fits D o p0 p1 p2 = some z) : gRv D o 8 = some () := by
  unfold F_X8_fits at hz
  exact rv_bind hz
set_option maxHeartbeats 4000000 in
set_option maxRecDepth 100000 in
theorem ok_X8_fits (dX : Nat) (hX : 40 ≤ dX) (d : Nat) (hd : 9 ≤ d) (h : PH) (D : gDS) (o : gRF) (p0 : Int32) (p1 : Int32) (p2 : Int32) : ∀ z, F_X8_fits D o p0 p1 p2 = some z → gEx dX d 50 [.inr (.inr o), .inl p0, .inl p1, .inl p2] (h, D) (some (.inl z.1)) (h, z.2) := by
  obtain ⟨d, rfl⟩ : ∃ e, d = e + 1 := ⟨d - 1, by omega⟩
  intro z hz
  refine ⟨rfl, ?_⟩
  refine (?_ : GSim (gEx dX d) (Ex dX) gmi_X8_fits (fun o1 h1 => o1 = _ ∧ h1 = _) (F_X8_fits D o p0 p1 p2) (fun t => t = z) 0 [some (.inr (.inr o)), some (.inl p0), some (.inl p1), some (.inl p2)] [] (h, D)) z hz rfl
  clear hz
  unfold F_X8_fits
  refine gRc ?_
  refine gS rfl rfl ?_
  refine gS rfl rfl ?_
  refine gC (st' := fun y1 => [.inl y1]) rfl rfl (fun _ hz => rv_recv (ci := 8) (by omega) (rv_X8_load hz)) rfl (ok_X8_load dX hX d (by omega) h D o p0) (fun z => rfl) (fun y1 => ?_)
  refine gS rfl rfl ?_
  refine gS rfl rfl ?_
  refine gC (st' := fun y2 => [.inl y2, .inl y1]) rfl rfl (fun _ hz => rv_recv (ci := 8) (by omega) (rv_X8_demand hz)) rfl (ok_X8_demand dX hX d (by omega) h D o p2) (fun z => rfl) (fun y2 => ?_)
  refine gS rfl rfl ?_
  refine gS rfl rfl ?_
  refine gO rfl rfl (fun z3 => ?_)
  refine gB rfl rfl ?_ ?_
  · refine gS rfl rfl ?_
    exact gRt rfl rfl (fun hg => by cases hg; exact ⟨rfl, rfl⟩)
  · refine gS rfl rfl ?_
    refine gS rfl rfl ?_
    refine gO rfl rfl (fun r4 => ?_)
    refine gS rfl rfl ?_
    refine gO rfl rfl (fun z5 => ?_)
    refine gS rfl rfl ?_
    refine gO rfl rfl (fun r6 => ?_)
    refine gS rfl rfl ?_
    refine gO rfl rfl (fun r7 => ?_)
    refine gS rfl rfl ?_
    refine gS rfl rfl ?_
    refine gC (st' := fun y8 => [.inr (.inr y8.1), .inl z5, .inr (.inr o)]) rfl rfl (fun _ _ => rfl) rfl (ok_L_inserted dX hX d (by omega) h D r7 p1 p2) (fun z => rfl) (fun y8 => ?_)
    refine gC (st' := fun y9 => [.inl y9.1]) rfl rfl (fun _ hz => rv_recv (ci := 8) (by omega) (rv_X8_price hz)) rfl (ok_X8_price dX hX d (by omega) h y8.2 o z5 y8.1) (fun z => rfl) (fun y9 => ?_)
    refine gS rfl rfl ?_
    refine gB rfl rfl ?_ ?_
    · refine gS rfl rfl ?_
      exact gRt rfl rfl (fun hg => by cases hg; exact ⟨rfl, rfl⟩)
    · refine gS rfl rfl ?_
      refine gS rfl rfl ?_
      exact gRt rfl rfl (fun hg => by cases hg; exact ⟨rfl, rfl⟩)
noncomputable def F_X8_put (D : gDS) (o : gRF) (p0 : gRF) : Option gDS :=
 (gRv D o 8).bind fun _ =>
 (gFr D o 8 7).bind fun r1 =>
 (gIld D p0 1 (1 : Int32)).bind fun z2 =>
 (gFr D o 8 7).bind fun r3 =>
 (gIld D p0 1 (1 : Int32)).bind fun z4 =>
 (gQld D r3 z4).bind fun r5 =>
 (gIld D p0 1 (2 : Int32)).bind fun z6 =>
 (gIld D p0 1 (3 : Int32)).bind fun z7 =>
 (F_L_inserted D r5 z6 z7).bind fun y8 =>
 (gQst y8.2 r1 z2 y8.1).bind fun D9 =>
 some (D9)
theorem rv_X8_put {D : gDS} {o : gRF} {p0 : gRF} {z} (hz : F_X8_put D o p0 = some z) : gRv D o 8 = some () := by
  unfold F_X8_put at hz
  exact rv_bind hz
set_option maxHeartbeats 4000000 in
set_option maxRecDepth 100000 in
theorem ok_X8_put (dX : Nat) (hX : 40 ≤ dX) (d : Nat) (hd : 2 ≤ d) (h : PH) (D : gDS) (o : gRF) (p0 : gRF) : ∀ z, F_X8_put D o p0 = some z → gEx dX d 52 [.inr (.inr o), .inr (.inr p0)] (h, D) (none) (h, z) := by
  obtain ⟨d, rfl⟩ : ∃ e, d = e + 1 := ⟨d - 1, by omega⟩
  intro z hz
  refine ⟨rfl, ?_⟩
  refine (?_ : GSim (gEx dX d) (Ex dX) gmi_X8_put (fun o1 h1 => o1 = _ ∧ h1 = _) (F_X8_put D o p0) (fun t => t = z) 0 [some (.inr (.inr o)), some (.inr (.inr p0))] [] (h, D)) z hz rfl
  clear hz
  unfold F_X8_put
  refine gRc ?_
  refine gS rfl rfl ?_
  refine gO rfl rfl (fun r1 => ?_)
  refine gS rfl rfl ?_
  refine gS rfl rfl ?_
  refine gO rfl rfl (fun z2 => ?_)
  refine gS rfl rfl ?_
  refine gO rfl rfl (fun r3 => ?_)
  refine gS rfl rfl ?_
  refine gS rfl rfl ?_
  refine gO rfl rfl (fun z4 => ?_)
  refine gO rfl rfl (fun r5 => ?_)
  refine gS rfl rfl ?_
  refine gS rfl rfl ?_
  refine gO rfl rfl (fun z6 => ?_)
  refine gS rfl rfl ?_
  refine gS rfl rfl ?_
  refine gO rfl rfl (fun z7 => ?_)
  refine gC (st' := fun y8 => [.inr (.inr y8.1), .inl z2, .inr (.inr r1)]) rfl rfl (fun _ _ => rfl) rfl (ok_L_inserted dX hX d (by omega) h D r5 z6 z7) (fun z => rfl) (fun y8 => ?_)
  refine gO rfl rfl (fun D9 => ?_)
  exact gRt rfl rfl (fun hg => by cases hg; exact ⟨rfl, rfl⟩)
noncomputable def F_L_without (D : gDS) (p0 : gRF) (p1 : Int32) : Option (gRF × gDS) :=
 (gLen D p0).bind fun z1 =>
 (gNwI D 1 (z1 - (1 : Int32))).bind fun D2 =>
 loop (fun (s3 : Int32 × gDS) =>
  (gLen s3.2 (gTop D)).bind fun z4 =>
  if z4 ≤ s3.1 then
   some (.inr (((gTop D), s3.2)))
  else
   if p1 ≤ s3.1 then
    (gIld s3.2 p0 1 (s3.1 + (1 : Int32))).bind fun z5 =>
    (gIst s3.2 (gTop D) 1 s3.1 z5).bind fun D6 =>
    some (.inl ((s3.1 + (1 : Int32)), D6))
   else
    (gIld s3.2 p0 1 s3.1).bind fun z7 =>
    (gIst s3.2 (gTop D) 1 s3.1 z7).bind fun D8 =>
    some (.inl ((s3.1 + (1 : Int32)), D8))) ((0 : Int32), D2)
set_option maxHeartbeats 4000000 in
set_option maxRecDepth 100000 in
theorem ok_L_without (dX : Nat) (hX : 40 ≤ dX) (d : Nat) (hd : 1 ≤ d) (h : PH) (D : gDS) (p0 : gRF) (p1 : Int32) : ∀ z, F_L_without D p0 p1 = some z → gEx dX d 70 [.inr (.inr p0), .inl p1] (h, D) (some (.inr (.inr z.1))) (h, z.2) := by
  obtain ⟨d, rfl⟩ : ∃ e, d = e + 1 := ⟨d - 1, by omega⟩
  intro z hz
  refine ⟨rfl, ?_⟩
  refine (?_ : GSim (gEx dX d) (Ex dX) gmi_L_without (fun o1 h1 => o1 = _ ∧ h1 = _) (F_L_without D p0 p1) (fun t => t = z) 0 [some (.inr (.inr p0)), some (.inl p1), none, none] [] (h, D)) z hz rfl
  clear hz
  unfold F_L_without
  refine gS rfl rfl ?_
  refine gO rfl rfl (fun z1 => ?_)
  refine gS rfl rfl ?_
  refine gS rfl rfl ?_
  refine gO rfl rfl (fun D2 => ?_)
  refine gS (lv' := [some (.inr (.inr p0)), some (.inl p1), some (.inr (.inr (gTop D))), none]) rfl rfl ?_
  refine gS rfl rfl ?_
  refine gS (lv' := [some (.inr (.inr p0)), some (.inl p1), some (.inr (.inr (gTop D))), some (.inl (0 : Int32))]) rfl rfl ?_
  refine gL (pc := 9) (lv := fun (s3 : Int32 × gDS) => [some (.inr (.inr p0)), some (.inl p1), some (.inr (.inr (gTop D))), some (.inl s3.1)]) (s := fun (s3 : Int32 × gDS) => (h, s3.2)) (fun s3 => ?_) ((0 : Int32), D2)
  refine gS rfl rfl ?_
  refine gS rfl rfl ?_
  refine gO rfl rfl (fun z4 => ?_)
  refine gB rfl rfl ?_ ?_
  · refine gS rfl rfl ?_
    exact gRt rfl rfl (fun hg => by cases hg; exact ⟨rfl, rfl⟩)
  · refine gS rfl rfl ?_
    refine gS rfl rfl ?_
    refine gS rfl rfl ?_
    refine gS rfl rfl ?_
    refine gS rfl rfl ?_
    refine gB rfl rfl ?_ ?_
    · refine gS rfl rfl ?_
      refine gS rfl rfl ?_
      refine gS rfl rfl ?_
      refine gO rfl rfl (fun z5 => ?_)
      refine gO rfl rfl (fun D6 => ?_)
      refine gS (lv' := [some (.inr (.inr p0)), some (.inl p1), some (.inr (.inr (gTop D))), some (.inl (s3.1 + (1 : Int32)))]) rfl rfl ?_
      refine gS rfl rfl ?_
      exact gJ (fun h2 => h2)
    · refine gS rfl rfl ?_
      refine gS rfl rfl ?_
      refine gO rfl rfl (fun z7 => ?_)
      refine gO rfl rfl (fun D8 => ?_)
      refine gS (lv' := [some (.inr (.inr p0)), some (.inl p1), some (.inr (.inr (gTop D))), some (.inl (s3.1 + (1 : Int32)))]) rfl rfl ?_
      refine gS rfl rfl ?_
      exact gJ (fun h2 => h2)
noncomputable def F_X8_sum (D : gDS) (o : gRF) : Option (Int64 × gDS) :=
 (gRv D o 8).bind fun _ =>
 (F_X8_total D o).bind fun y1 =>
 (F_X8_open y1.2 o).bind fun y2 =>
 loop (fun (s3 : Int64 × Int32) =>
  (gFr y2.2 o 8 7).bind fun r4 =>
  (gLen y2.2 r4).bind fun z5 =>
  if z5 ≤ s3.2 then
   some (.inr ((s3.1, y2.2)))
  else
   (gFr y2.2 o 8 6).bind fun r6 =>
   (gIld y2.2 r6 1 s3.2).bind fun z7 =>
   (gFr y2.2 o 8 7).bind fun r8 =>
   (gQld y2.2 r8 s3.2).bind fun r9 =>
   (gLen y2.2 r9).bind fun z10 =>
   (gFr y2.2 o 8 7).bind fun r11 =>
   (gQld y2.2 r11 s3.2).bind fun r12 =>
   (gLen y2.2 r12).bind fun z13 =>
   loop (fun (s14 : Int64 × Int32) =>
    if z13 ≤ s14.2 then
     some (.inr (.inl (s14.1, (s3.2 + (1 : Int32)))))
    else
     (gIld y2.2 r12 1 s14.2).bind fun z15 =>
     some (.inl ((((31 : Int64) * s14.1) + z15.toInt64), (s14.2 + (1 : Int32))))) ((((31 : Int64) * (((31 : Int64) * s3.1) + z7.toInt64)) + z10.toInt64), (0 : Int32))) ((((31 : Int64) * y1.1.toInt64) + y2.1.toInt64), (0 : Int32))
theorem rv_X8_sum {D : gDS} {o : gRF} {z} (hz : F_X8_sum D o = some z) : gRv D o 8 = some () := by
  unfold F_X8_sum at hz
  exact rv_bind hz
set_option maxHeartbeats 4000000 in
set_option maxRecDepth 100000 in
theorem ok_X8_sum (dX : Nat) (hX : 40 ≤ dX) (d : Nat) (hd : 11 ≤ d) (h : PH) (D : gDS) (o : gRF) : ∀ z, F_X8_sum D o = some z → gEx dX d 56 [.inr (.inr o)] (h, D) (some (.inr (.inl z.1))) (h, z.2) := by
  obtain ⟨d, rfl⟩ : ∃ e, d = e + 1 := ⟨d - 1, by omega⟩
  intro z hz
  refine ⟨rfl, ?_⟩
  refine (?_ : GSim (gEx dX d) (Ex dX) gmi_X8_sum (fun o1 h1 => o1 = _ ∧ h1 = _) (F_X8_sum D o) (fun t => t = z) 0 [some (.inr (.inr o)), none, none, none, none, none, none, none] [] (h, D)) z hz rfl
  clear hz
  unfold F_X8_sum
  refine gRc ?_
  refine gS rfl rfl ?_
  refine gS rfl rfl ?_
  refine gC (st' := fun y1 => [.inl y1.1, .inr (.inl (31 : Int64))]) rfl rfl (fun _ hz => rv_recv (ci := 8) (by omega) (rv_X8_total hz)) rfl (ok_X8_total dX hX d (by omega) h D o) (fun z => rfl) (fun y1 => ?_)
  refine gS rfl rfl ?_
  refine gS rfl rfl ?_
  refine gS rfl rfl ?_
  refine gC (st' := fun y2 => [.inl y2.1, .inr (.inl ((31 : Int64) * y1.1.toInt64))]) rfl rfl (fun _ hz => rv_recv (ci := 8) (by omega) (rv_X8_open hz)) rfl (ok_X8_open dX hX d (by omega) h y1.2 o) (fun z => rfl) (fun y2 => ?_)
  refine gS rfl rfl ?_
  refine gS rfl rfl ?_
  refine gS (lv' := [some (.inr (.inr o)), some (.inr (.inl (((31 : Int64) * y1.1.toInt64) + y2.1.toInt64))), none, none, none, none, none, none]) rfl rfl ?_
  refine gS rfl rfl ?_
  refine gS (lv' := [some (.inr (.inr o)), some (.inr (.inl (((31 : Int64) * y1.1.toInt64) + y2.1.toInt64))), none, some (.inl (0 : Int32)), none, none, none, none]) rfl rfl ?_
  refine gL (pc := 18) (lv := fun (s3 : Int64 × Int32) => [some (.inr (.inr o)), some (.inr (.inl s3.1)), none, some (.inl s3.2), none, none, none, none]) (s := fun (s3 : Int64 × Int32) => (h, y2.2)) (fun s3 => ?_) ((((31 : Int64) * y1.1.toInt64) + y2.1.toInt64), (0 : Int32))
  refine gS rfl rfl ?_
  refine gS rfl rfl ?_
  refine gO rfl rfl (fun r4 => ?_)
  refine gO rfl rfl (fun z5 => ?_)
  refine gB rfl rfl ?_ ?_
  · refine gS rfl rfl ?_
    exact gRt rfl rfl (fun hg => by cases hg; exact ⟨rfl, rfl⟩)
  · refine gS rfl rfl ?_
    refine gS rfl rfl ?_
    refine gS rfl rfl ?_
    refine gS rfl rfl ?_
    refine gS rfl rfl ?_
    refine gO rfl rfl (fun r6 => ?_)
    refine gS rfl rfl ?_
    refine gO rfl rfl (fun z7 => ?_)
    refine gS rfl rfl ?_
    refine gS rfl rfl ?_
    refine gS rfl rfl ?_
    refine gS rfl rfl ?_
    refine gO rfl rfl (fun r8 => ?_)
    refine gS rfl rfl ?_
    refine gO rfl rfl (fun r9 => ?_)
    refine gO rfl rfl (fun z10 => ?_)
    refine gS rfl rfl ?_
    refine gS rfl rfl ?_
    refine gS (lv' := [some (.inr (.inr o)), some (.inr (.inl (((31 : Int64) * (((31 : Int64) * s3.1) + z7.toInt64)) + z10.toInt64))), none, some (.inl s3.2), none, none, none, none]) rfl rfl ?_
    refine gS rfl rfl ?_
    refine gO rfl rfl (fun r11 => ?_)
    refine gS rfl rfl ?_
    refine gO rfl rfl (fun r12 => ?_)
    refine gS (lv' := [some (.inr (.inr o)), some (.inr (.inl (((31 : Int64) * (((31 : Int64) * s3.1) + z7.toInt64)) + z10.toInt64))), none, some (.inl s3.2), some (.inr (.inr r12)), none, none, none]) rfl rfl ?_
    refine gS rfl rfl ?_
    refine gO rfl rfl (fun z13 => ?_)
    refine gS (lv' := [some (.inr (.inr o)), some (.inr (.inl (((31 : Int64) * (((31 : Int64) * s3.1) + z7.toInt64)) + z10.toInt64))), none, some (.inl s3.2), some (.inr (.inr r12)), some (.inl z13), none, none]) rfl rfl ?_
    refine gS rfl rfl ?_
    refine gS (lv' := [some (.inr (.inr o)), some (.inr (.inl (((31 : Int64) * (((31 : Int64) * s3.1) + z7.toInt64)) + z10.toInt64))), none, some (.inl s3.2), some (.inr (.inr r12)), some (.inl z13), some (.inl (0 : Int32)), none]) rfl rfl ?_
    refine gL (pc := 70) (lv := fun (s14 : Int64 × Int32) => [some (.inr (.inr o)), some (.inr (.inl s14.1)), none, some (.inl s3.2), some (.inr (.inr r12)), some (.inl z13), some (.inl s14.2), none]) (s := fun (s14 : Int64 × Int32) => (h, y2.2)) (fun s14 => ?_) ((((31 : Int64) * (((31 : Int64) * s3.1) + z7.toInt64)) + z10.toInt64), (0 : Int32))
    refine gS rfl rfl ?_
    refine gS rfl rfl ?_
    refine gB rfl rfl ?_ ?_
    · refine gS (lv' := [some (.inr (.inr o)), some (.inr (.inl s14.1)), none, some (.inl (s3.2 + (1 : Int32))), some (.inr (.inr r12)), some (.inl z13), some (.inl s14.2), none]) rfl rfl ?_
      refine gS rfl rfl ?_
      refine gMk [true, true, true, true, false, false, false, true] (lv' := [some (.inr (.inr o)), some (.inr (.inl s14.1)), none, some (.inl (s3.2 + (1 : Int32))), none, none, none, none]) rfl rfl ?_
      refine gUp ?_
      exact gJ (fun h2 => h2)
    · refine gS rfl rfl ?_
      refine gS rfl rfl ?_
      refine gO rfl rfl (fun z15 => ?_)
      refine gS (lv' := [some (.inr (.inr o)), some (.inr (.inl s14.1)), none, some (.inl s3.2), some (.inr (.inr r12)), some (.inl z13), some (.inl s14.2), some (.inl z15)]) rfl rfl ?_
      refine gS rfl rfl ?_
      refine gS rfl rfl ?_
      refine gS rfl rfl ?_
      refine gS rfl rfl ?_
      refine gS rfl rfl ?_
      refine gS rfl rfl ?_
      refine gS (lv' := [some (.inr (.inr o)), some (.inr (.inl (((31 : Int64) * s14.1) + z15.toInt64))), none, some (.inl s3.2), some (.inr (.inr r12)), some (.inl z13), some (.inl s14.2), some (.inl z15)]) rfl rfl ?_
      refine gS (lv' := [some (.inr (.inr o)), some (.inr (.inl (((31 : Int64) * s14.1) + z15.toInt64))), none, some (.inl s3.2), some (.inr (.inr r12)), some (.inl z13), some (.inl (s14.2 + (1 : Int32))), some (.inl z15)]) rfl rfl ?_
      refine gS rfl rfl ?_
      refine gMk [true, true, true, true, true, true, true, false] (lv' := [some (.inr (.inr o)), some (.inr (.inl (((31 : Int64) * s14.1) + z15.toInt64))), none, some (.inl s3.2), some (.inr (.inr r12)), some (.inl z13), some (.inl (s14.2 + (1 : Int32))), none]) rfl rfl ?_
      exact gJ (fun h2 => h2)
