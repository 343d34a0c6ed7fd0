noncomputable def F_J0_isLatin1_aae02 (D : gDS) (o : gRF) : Option Int32 :=
 (gRv D o 11).bind fun _ =>
 (gFi D o 11 1).bind fun z1 =>
 if ¬ z1 = 0 then
  some ((0 : Int32))
 else
  some ((1 : Int32))
theorem rv_J0_isLatin1_aae02 {D : gDS} {o : gRF} {z} (hz : F_J0_isLatin1_aae02 D o = some z) : gRv D o 11 = some () := by
  unfold F_J0_isLatin1_aae02 at hz
  exact rv_bind hz
set_option maxHeartbeats 4000000 in
set_option maxRecDepth 100000 in
theorem ok_J0_isLatin1_aae02 (dX : Nat) (hX : 40 ≤ dX) (d : Nat) (hd : 1 ≤ d) (h : PH) (D : gDS) (o : gRF) : ∀ z, F_J0_isLatin1_aae02 D o = some z → gEx dX d 5 [.inr (.inr o)] (h, D) (some (.inl z)) (h, D) := by
  obtain ⟨d, rfl⟩ : ∃ e, d = e + 1 := ⟨d - 1, by omega⟩
  intro z hz
  refine ⟨rfl, ?_⟩
  refine (?_ : GSim (gEx dX d) (Ex dX) gmi_J0_isLatin1_aae02 (fun o1 h1 => o1 = _ ∧ h1 = _) (F_J0_isLatin1_aae02 D o) (fun t => t = z) 0 [some (.inr (.inr o))] [] (h, D)) z hz rfl
  clear hz
  unfold F_J0_isLatin1_aae02
  refine gRc ?_
  refine gS rfl rfl ?_
  refine gS rfl rfl ?_
  refine gS rfl rfl ?_
  refine gO rfl rfl (fun z1 => ?_)
  refine gB rfl rfl ?_ ?_
  · refine gS rfl rfl ?_
    exact gRt rfl rfl (fun hg => by cases hg; exact ⟨rfl, rfl⟩)
  · refine gS rfl rfl ?_
    refine gS rfl rfl ?_
    exact gRt rfl rfl (fun hg => by cases hg; exact ⟨rfl, rfl⟩)
noncomputable def F_J1_charAt_3b067 (D : gDS) (p0 : gRF) (p1 : Int32) : Option Int32 :=
 (gLen D p0).bind fun z1 =>
 (gChk p1 z1).bind fun u2 =>
 (gIld D p0 2 p1).bind fun z3 =>
 (gNar 5 (vp_nar .char (z3 &&& (255 : Int32)))).bind fun z4 => some (z4)
set_option maxHeartbeats 4000000 in
set_option maxRecDepth 100000 in
theorem ok_J1_charAt_3b067 (dX : Nat) (hX : 40 ≤ dX) (d : Nat) (hd : 1 ≤ d) (h : PH) (D : gDS) (p0 : gRF) (p1 : Int32) : ∀ z, F_J1_charAt_3b067 D p0 p1 = some z → gEx dX d 7 [.inr (.inr p0), .inl p1] (h, D) (some (.inl z)) (h, D) := by
  obtain ⟨d, rfl⟩ : ∃ e, d = e + 1 := ⟨d - 1, by omega⟩
  intro z hz
  refine ⟨rfl, ?_⟩
  refine (?_ : GSim (gEx dX d) (Ex dX) gmi_J1_charAt_3b067 (fun o1 h1 => o1 = _ ∧ h1 = _) (F_J1_charAt_3b067 D p0 p1) (fun t => t = z) 0 [some (.inr (.inr p0)), some (.inl p1)] [] (h, D)) z hz rfl
  clear hz
  unfold F_J1_charAt_3b067
  refine gS rfl rfl ?_
  refine gS rfl rfl ?_
  refine gO rfl rfl (fun z1 => ?_)
  refine gO rfl rfl (fun u2 => ?_)
  refine gS rfl rfl ?_
  refine gS rfl rfl ?_
  refine gO rfl rfl (fun z3 => ?_)
  refine gS rfl rfl ?_
  refine gS rfl rfl ?_
  refine gS rfl rfl ?_
  exact gRmm rfl rfl (fun z hg => by cases hg; exact ⟨rfl, rfl⟩)
noncomputable def F_J0_charAt_5068e (D : gDS) (o : gRF) (p0 : Int32) : Option Int32 :=
 (gRv D o 11).bind fun _ =>
 (F_J0_isLatin1_aae02 D o).bind fun y1 =>
 if y1 = 0 then
  (gFr D o 11 0).bind fun r2 =>
  none
 else
  (gFr D o 11 0).bind fun r3 =>
  (F_J1_charAt_3b067 D r3 p0).bind fun y4 =>
  (gNar 5 y4).bind fun z5 => some (z5)
theorem rv_J0_charAt_5068e {D : gDS} {o : gRF} {p0 : Int32} {z} (hz : F_J0_charAt_5068e D o p0 = some z) : gRv D o 11 = some () := by
  unfold F_J0_charAt_5068e at hz
  exact rv_bind hz
set_option maxHeartbeats 4000000 in
set_option maxRecDepth 100000 in
theorem ok_J0_charAt_5068e (dX : Nat) (hX : 40 ≤ dX) (d : Nat) (hd : 2 ≤ d) (h : PH) (D : gDS) (o : gRF) (p0 : Int32) : ∀ z, F_J0_charAt_5068e D o p0 = some z → gEx dX d 0 [.inr (.inr o), .inl p0] (h, D) (some (.inl z)) (h, D) := by
  obtain ⟨d, rfl⟩ : ∃ e, d = e + 1 := ⟨d - 1, by omega⟩
  intro z hz
  refine ⟨rfl, ?_⟩
  refine (?_ : GSim (gEx dX d) (Ex dX) gmi_J0_charAt_5068e (fun o1 h1 => o1 = _ ∧ h1 = _) (F_J0_charAt_5068e D o p0) (fun t => t = z) 0 [some (.inr (.inr o)), some (.inl p0)] [] (h, D)) z hz rfl
  clear hz
  unfold F_J0_charAt_5068e
  refine gRc ?_
  refine gS rfl rfl ?_
  refine gC (st' := fun y1 => [.inl y1]) rfl rfl (fun _ hz => rv_recv (ci := 11) (by omega) (rv_J0_isLatin1_aae02 hz)) rfl (ok_J0_isLatin1_aae02 dX hX d (by omega) h D o) (fun z => rfl) (fun y1 => ?_)
  refine gB rfl rfl ?_ ?_
  · refine gS rfl rfl ?_
    refine gO rfl rfl (fun r2 => ?_)
    refine gS rfl rfl ?_
    exact gNo
  · refine gS rfl rfl ?_
    refine gO rfl rfl (fun r3 => ?_)
    refine gS rfl rfl ?_
    refine gC (st' := fun y4 => [.inl y4]) rfl rfl (fun _ _ => rfl) rfl (ok_J1_charAt_3b067 dX hX d (by omega) h D r3 p0) (fun z => rfl) (fun y4 => ?_)
    exact gRmm rfl rfl (fun z hg => by cases hg; exact ⟨rfl, rfl⟩)
noncomputable def F_J0_coder_7d493 (D : gDS) (o : gRF) : Option Int32 :=
 (gRv D o 11).bind fun _ =>
 (gFi D o 11 1).bind fun z1 =>
 (gNar 6 z1).bind fun z2 => some (z2)
theorem rv_J0_coder_7d493 {D : gDS} {o : gRF} {z} (hz : F_J0_coder_7d493 D o = some z) : gRv D o 11 = some () := by
  unfold F_J0_coder_7d493 at hz
  exact rv_bind hz
set_option maxHeartbeats 4000000 in
set_option maxRecDepth 100000 in
theorem ok_J0_coder_7d493 (dX : Nat) (hX : 40 ≤ dX) (d : Nat) (hd : 1 ≤ d) (h : PH) (D : gDS) (o : gRF) : ∀ z, F_J0_coder_7d493 D o = some z → gEx dX d 1 [.inr (.inr o)] (h, D) (some (.inl z)) (h, D) := by
  obtain ⟨d, rfl⟩ : ∃ e, d = e + 1 := ⟨d - 1, by omega⟩
  intro z hz
  refine ⟨rfl, ?_⟩
  refine (?_ : GSim (gEx dX d) (Ex dX) gmi_J0_coder_7d493 (fun o1 h1 => o1 = _ ∧ h1 = _) (F_J0_coder_7d493 D o) (fun t => t = z) 0 [some (.inr (.inr o))] [] (h, D)) z hz rfl
  clear hz
  unfold F_J0_coder_7d493
  refine gRc ?_
  refine gS rfl rfl ?_
  refine gS rfl rfl ?_
  refine gS rfl rfl ?_
  refine gO rfl rfl (fun z1 => ?_)
  refine gS rfl rfl ?_
  exact gRmm rfl rfl (fun z hg => by cases hg; exact ⟨rfl, rfl⟩)
noncomputable def F_J0_getBytes_840e7 (D : gDS) (o : gRF) (p0 : gRF) (p1 : Int32) (p2 : Int32) : Option gDS :=
 (gRv D o 11).bind fun _ =>
 (F_J0_coder_7d493 D o).bind fun y1 =>
 if ¬ y1 = p2 then
  (gFr D o 11 0).bind fun r2 =>
  (gFr D o 11 0).bind fun r3 =>
  (gLen D r3).bind fun z4 =>
  none
 else
  (gFr D o 11 0).bind fun r5 =>
  (gFr D o 11 0).bind fun r6 =>
  (gLen D r6).bind fun z7 =>
  (gCpB D r5 (0 : Int32) p0 (p1 <<< (p2 &&& 31)) z7).bind fun D8 =>
  some (D8)
theorem rv_J0_getBytes_840e7 {D : gDS} {o : gRF} {p0 : gRF} {p1 : Int32} {p2 : Int32} {z} (hz : F_J0_getBytes_840e7 D o p0 p1 p2 = some z) : gRv D o 11 = some () := by
  unfold F_J0_getBytes_840e7 at hz
  exact rv_bind hz
set_option maxHeartbeats 4000000 in
set_option maxRecDepth 100000 in
theorem ok_J0_getBytes_840e7 (dX : Nat) (hX : 40 ≤ dX) (d : Nat) (hd : 2 ≤ d) (h : PH) (D : gDS) (o : gRF) (p0 : gRF) (p1 : Int32) (p2 : Int32) : ∀ z, F_J0_getBytes_840e7 D o p0 p1 p2 = some z → gEx dX d 2 [.inr (.inr o), .inr (.inr p0), .inl p1, .inl p2] (h, D) (none) (h, z) := by
  obtain ⟨d, rfl⟩ : ∃ e, d = e + 1 := ⟨d - 1, by omega⟩
  intro z hz
  refine ⟨rfl, ?_⟩
  refine (?_ : GSim (gEx dX d) (Ex dX) gmi_J0_getBytes_840e7 (fun o1 h1 => o1 = _ ∧ h1 = _) (F_J0_getBytes_840e7 D o p0 p1 p2) (fun t => t = z) 0 [some (.inr (.inr o)), some (.inr (.inr p0)), some (.inl p1), some (.inl p2)] [] (h, D)) z hz rfl
  clear hz
  unfold F_J0_getBytes_840e7
  refine gRc ?_
  refine gS rfl rfl ?_
  refine gC (st' := fun y1 => [.inl y1]) rfl rfl (fun _ hz => rv_recv (ci := 11) (by omega) (rv_J0_coder_7d493 hz)) rfl (ok_J0_coder_7d493 dX hX d (by omega) h D o) (fun z => rfl) (fun y1 => ?_)
  refine gS rfl rfl ?_
  refine gB rfl rfl ?_ ?_
  · refine gS rfl rfl ?_
    refine gO rfl rfl (fun r2 => ?_)
    refine gS rfl rfl ?_
    refine gS rfl rfl ?_
    refine gS rfl rfl ?_
    refine gS rfl rfl ?_
    refine gO rfl rfl (fun r3 => ?_)
    refine gO rfl rfl (fun z4 => ?_)
    exact gNo
  · refine gS rfl rfl ?_
    refine gO rfl rfl (fun r5 => ?_)
    refine gS rfl rfl ?_
    refine gS rfl rfl ?_
    refine gS rfl rfl ?_
    refine gS rfl rfl ?_
    refine gS rfl rfl ?_
    refine gS rfl rfl ?_
    refine gO rfl rfl (fun r6 => ?_)
    refine gO rfl rfl (fun z7 => ?_)
    refine gO rfl rfl (fun D8 => ?_)
    refine gS rfl rfl ?_
    exact gRt rfl rfl (fun hg => by cases hg; exact ⟨rfl, rfl⟩)
noncomputable def F_J5_getValue_6d5f1 (D : gDS) (o : gRF) : Option gRF :=
 (gRv D o 12).bind fun _ =>
 (gFr D o 12 0).bind fun r1 =>
 some (r1)
theorem rv_J5_getValue_6d5f1 {D : gDS} {o : gRF} {z} (hz : F_J5_getValue_6d5f1 D o = some z) : gRv D o 12 = some () := by
  unfold F_J5_getValue_6d5f1 at hz
  exact rv_bind hz
set_option maxHeartbeats 4000000 in
set_option maxRecDepth 100000 in
theorem ok_J5_getValue_6d5f1 (dX : Nat) (hX : 40 ≤ dX) (d : Nat) (hd : 1 ≤ d) (h : PH) (D : gDS) (o : gRF) : ∀ z, F_J5_getValue_6d5f1 D o = some z → gEx dX d 16 [.inr (.inr o)] (h, D) (some (.inr (.inr z))) (h, D) := by
  obtain ⟨d, rfl⟩ : ∃ e, d = e + 1 := ⟨d - 1, by omega⟩
  intro z hz
  refine ⟨rfl, ?_⟩
  refine (?_ : GSim (gEx dX d) (Ex dX) gmi_J5_getValue_6d5f1 (fun o1 h1 => o1 = _ ∧ h1 = _) (F_J5_getValue_6d5f1 D o) (fun t => t = z) 0 [some (.inr (.inr o))] [] (h, D)) z hz rfl
  clear hz
  unfold F_J5_getValue_6d5f1
  refine gRc ?_
  refine gS rfl rfl ?_
  refine gO rfl rfl (fun r1 => ?_)
  exact gRt rfl rfl (fun hg => by cases hg; exact ⟨rfl, rfl⟩)
noncomputable def F_J5_length_8abf5 (D : gDS) (o : gRF) : Option Int32 :=
 (gRv D o 12).bind fun _ =>
 (gFi D o 12 3).bind fun z1 =>
 some (z1)
theorem rv_J5_length_8abf5 {D : gDS} {o : gRF} {z} (hz : F_J5_length_8abf5 D o = some z) : gRv D o 12 = some () := by
  unfold F_J5_length_8abf5 at hz
  exact rv_bind hz
set_option maxHeartbeats 4000000 in
set_option maxRecDepth 100000 in
theorem ok_J5_length_8abf5 (dX : Nat) (hX : 40 ≤ dX) (d : Nat) (hd : 1 ≤ d) (h : PH) (D : gDS) (o : gRF) : ∀ z, F_J5_length_8abf5 D o = some z → gEx dX d 20 [.inr (.inr o)] (h, D) (some (.inl z)) (h, D) := by
  obtain ⟨d, rfl⟩ : ∃ e, d = e + 1 := ⟨d - 1, by omega⟩
  intro z hz
  refine ⟨rfl, ?_⟩
  refine (?_ : GSim (gEx dX d) (Ex dX) gmi_J5_length_8abf5 (fun o1 h1 => o1 = _ ∧ h1 = _) (F_J5_length_8abf5 D o) (fun t => t = z) 0 [some (.inr (.inr o))] [] (h, D)) z hz rfl
  clear hz
  unfold F_J5_length_8abf5
  refine gRc ?_
  refine gS rfl rfl ?_
  refine gO rfl rfl (fun z1 => ?_)
  exact gRt rfl rfl (fun hg => by cases hg; exact ⟨rfl, rfl⟩)
noncomputable def F_J4_length_8abf5 (D : gDS) (o : gRF) : Option Int32 :=
 (gRv D o 12).bind fun _ =>
 (F_J5_length_8abf5 D o).bind fun y1 =>
 some (y1)
theorem rv_J4_length_8abf5 {D : gDS} {o : gRF} {z} (hz : F_J4_length_8abf5 D o = some z) : gRv D o 12 = some () := by
  unfold F_J4_length_8abf5 at hz
  exact rv_bind hz
set_option maxHeartbeats 4000000 in
set_option maxRecDepth 100000 in
theorem ok_J4_length_8abf5 (dX : Nat) (hX : 40 ≤ dX) (d : Nat) (hd : 2 ≤ d) (h : PH) (D : gDS) (o : gRF) : ∀ z, F_J4_length_8abf5 D o = some z → gEx dX d 11 [.inr (.inr o)] (h, D) (some (.inl z)) (h, D) := by
  obtain ⟨d, rfl⟩ : ∃ e, d = e + 1 := ⟨d - 1, by omega⟩
  intro z hz
  refine ⟨rfl, ?_⟩
  refine (?_ : GSim (gEx dX d) (Ex dX) gmi_J4_length_8abf5 (fun o1 h1 => o1 = _ ∧ h1 = _) (F_J4_length_8abf5 D o) (fun t => t = z) 0 [some (.inr (.inr o))] [] (h, D)) z hz rfl
  clear hz
  unfold F_J4_length_8abf5
  refine gRc ?_
  refine gS rfl rfl ?_
  refine gC (st' := fun y1 => [.inl y1]) rfl rfl (fun _ hz => rv_super (rv_J5_length_8abf5 hz)) rfl (ok_J5_length_8abf5 dX hX d (by omega) h D o) (fun z => rfl) (fun y1 => ?_)
  exact gRt rfl rfl (fun hg => by cases hg; exact ⟨rfl, rfl⟩)
noncomputable def F_J5_isLatin1_aae02 (D : gDS) (o : gRF) : Option Int32 :=
 (gRv D o 12).bind fun _ =>
 (gFi D o 12 1).bind fun z1 =>
 if ¬ z1 = 0 then
  some ((0 : Int32))
 else
  some ((1 : Int32))
theorem rv_J5_isLatin1_aae02 {D : gDS} {o : gRF} {z} (hz : F_J5_isLatin1_aae02 D o = some z) : gRv D o 12 = some () := by
  unfold F_J5_isLatin1_aae02 at hz
  exact rv_bind hz
set_option maxHeartbeats 4000000 in
set_option maxRecDepth 100000 in
theorem ok_J5_isLatin1_aae02 (dX : Nat) (hX : 40 ≤ dX) (d : Nat) (hd : 1 ≤ d) (h : PH) (D : gDS) (o : gRF) : ∀ z, F_J5_isLatin1_aae02 D o = some z → gEx dX d 19 [.inr (.inr o)] (h, D) (some (.inl z)) (h, D) := by
  obtain ⟨d, rfl⟩ : ∃ e, d = e + 1 := ⟨d - 1, by omega⟩
  intro z hz
  refine ⟨rfl, ?_⟩
  refine (?_ : GSim (gEx dX d) (Ex dX) gmi_J5_isLatin1_aae02 (fun o1 h1 => o1 = _ ∧ h1 = _) (F_J5_isLatin1_aae02 D o) (fun t => t = z) 0 [some (.inr (.inr o))] [] (h, D)) z hz rfl
  clear hz
  unfold F_J5_isLatin1_aae02
  refine gRc ?_
  refine gS rfl rfl ?_
  refine gS rfl rfl ?_
  refine gS rfl rfl ?_
  refine gO rfl rfl (fun z1 => ?_)
  refine gB rfl rfl ?_ ?_
  · refine gS rfl rfl ?_
    exact gRt rfl rfl (fun hg => by cases hg; exact ⟨rfl, rfl⟩)
  · refine gS rfl rfl ?_
    refine gS rfl rfl ?_
    exact gRt rfl rfl (fun hg => by cases hg; exact ⟨rfl, rfl⟩)
noncomputable def F_J7_checkLength_df160 (D : gDS) (p0 : Int32) (p1 : Int32) : Option Unit :=
 if p0 ≤ p1 then
  some (())
 else
  none
set_option maxHeartbeats 4000000 in
set_option maxRecDepth 100000 in
theorem ok_J7_checkLength_df160 (dX : Nat) (hX : 40 ≤ dX) (d : Nat) (hd : 1 ≤ d) (h : PH) (D : gDS) (p0 : Int32) (p1 : Int32) : ∀ z, F_J7_checkLength_df160 D p0 p1 = some z → gEx dX d 25 [.inl p0, .inl p1] (h, D) (none) (h, D) := by
  obtain ⟨d, rfl⟩ : ∃ e, d = e + 1 := ⟨d - 1, by omega⟩
  intro z hz
  refine ⟨rfl, ?_⟩
  refine (?_ : GSim (gEx dX d) (Ex dX) gmi_J7_checkLength_df160 (fun o1 h1 => o1 = _ ∧ h1 = _) (F_J7_checkLength_df160 D p0 p1) (fun t => t = z) 0 [some (.inl p0), some (.inl p1)] [] (h, D)) z hz rfl
  clear hz
  unfold F_J7_checkLength_df160
  refine gS rfl rfl ?_
  refine gS rfl rfl ?_
  refine gB rfl rfl ?_ ?_
  · exact gRt rfl rfl (fun hg => by cases hg; exact ⟨rfl, rfl⟩)
  · exact gNo
noncomputable def F_J7_copyOfRangeByte_39247 (D : gDS) (p0 : gRF) (p1 : Int32) (p2 : Int32) : Option (gRF × gDS) :=
 (F_J7_checkLength_df160 D p1 p2).bind fun y1 =>
 (gNwI D 2 (p2 - p1)).bind fun D2 =>
 (gLen D2 p0).bind fun z3 =>
 (gCpB D2 p0 p1 (gTop D) (0 : Int32) (if (p2 - p1) < (z3 - p1) then (p2 - p1) else (z3 - p1))).bind fun D4 =>
 some (((gTop D), D4))
set_option maxHeartbeats 4000000 in
set_option maxRecDepth 100000 in
theorem ok_J7_copyOfRangeByte_39247 (dX : Nat) (hX : 40 ≤ dX) (d : Nat) (hd : 2 ≤ d) (h : PH) (D : gDS) (p0 : gRF) (p1 : Int32) (p2 : Int32) : ∀ z, F_J7_copyOfRangeByte_39247 D p0 p1 p2 = some z → gEx dX d 26 [.inr (.inr p0), .inl p1, .inl p2] (h, D) (some (.inr (.inr z.1))) (h, z.2) := by
  obtain ⟨d, rfl⟩ : ∃ e, d = e + 1 := ⟨d - 1, by omega⟩
  intro z hz
  refine ⟨rfl, ?_⟩
  refine (?_ : GSim (gEx dX d) (Ex dX) gmi_J7_copyOfRangeByte_39247 (fun o1 h1 => o1 = _ ∧ h1 = _) (F_J7_copyOfRangeByte_39247 D p0 p1 p2) (fun t => t = z) 0 [some (.inr (.inr p0)), some (.inl p1), some (.inl p2), none, none] [] (h, D)) z hz rfl
  clear hz
  unfold F_J7_copyOfRangeByte_39247
  refine gS rfl rfl ?_
  refine gS rfl rfl ?_
  refine gC (st' := fun y1 => []) rfl rfl (fun _ _ => rfl) rfl (ok_J7_checkLength_df160 dX hX d (by omega) h D p1 p2) (fun z => rfl) (fun y1 => ?_)
  refine gS rfl rfl ?_
  refine gS rfl rfl ?_
  refine gS rfl rfl ?_
  refine gS (lv' := [some (.inr (.inr p0)), some (.inl p1), some (.inl p2), some (.inl (p2 - p1)), none]) rfl rfl ?_
  refine gS rfl rfl ?_
  refine gO rfl rfl (fun D2 => ?_)
  refine gS (lv' := [some (.inr (.inr p0)), some (.inl p1), some (.inl p2), some (.inl (p2 - p1)), some (.inr (.inr (gTop D)))]) rfl rfl ?_
  refine gS rfl rfl ?_
  refine gS rfl rfl ?_
  refine gS rfl rfl ?_
  refine gS rfl rfl ?_
  refine gS rfl rfl ?_
  refine gO rfl rfl (fun z3 => ?_)
  refine gS rfl rfl ?_
  refine gS rfl rfl ?_
  refine gS rfl rfl ?_
  refine gS rfl rfl ?_
  refine gO rfl rfl (fun D4 => ?_)
  refine gS rfl rfl ?_
  exact gRt rfl rfl (fun hg => by cases hg; exact ⟨rfl, rfl⟩)
noncomputable def F_J7_copyOfRange_39247 (D : gDS) (p0 : gRF) (p1 : Int32) (p2 : Int32) : Option (gRF × gDS) :=
 if ¬ p1 = 0 then
  (F_J7_copyOfRangeByte_39247 D p0 p1 p2).bind fun y1 =>
  some ((y1.1, y1.2))
 else
  (gLen D p0).bind fun z2 =>
  if p2 = z2 then
   (gCln D p0 2).bind fun D3 =>
   (gIsA D3 (gTop D) 2).bind fun u4 =>
   some (((gTop D), D3))
  else
   (F_J7_copyOfRangeByte_39247 D p0 p1 p2).bind fun y5 =>
   some ((y5.1, y5.2))
set_option maxHeartbeats 4000000 in
set_option maxRecDepth 100000 in
theorem ok_J7_copyOfRange_39247 (dX : Nat) (hX : 40 ≤ dX) (d : Nat) (hd : 3 ≤ d) (h : PH) (D : gDS) (p0 : gRF) (p1 : Int32) (p2 : Int32) : ∀ z, F_J7_copyOfRange_39247 D p0 p1 p2 = some z → gEx dX d 27 [.inr (.inr p0), .inl p1, .inl p2] (h, D) (some (.inr (.inr z.1))) (h, z.2) := by
  obtain ⟨d, rfl⟩ : ∃ e, d = e + 1 := ⟨d - 1, by omega⟩
  intro z hz
  refine ⟨rfl, ?_⟩
  refine (?_ : GSim (gEx dX d) (Ex dX) gmi_J7_copyOfRange_39247 (fun o1 h1 => o1 = _ ∧ h1 = _) (F_J7_copyOfRange_39247 D p0 p1 p2) (fun t => t = z) 0 [some (.inr (.inr p0)), some (.inl p1), some (.inl p2)] [] (h, D)) z hz rfl
  clear hz
  unfold F_J7_copyOfRange_39247
  refine gS rfl rfl ?_
  refine gB rfl rfl ?_ ?_
  · refine gS rfl rfl ?_
    refine gS rfl rfl ?_
    refine gS rfl rfl ?_
    refine gC (st' := fun y1 => [.inr (.inr y1.1)]) rfl rfl (fun _ _ => rfl) rfl (ok_J7_copyOfRangeByte_39247 dX hX d (by omega) h D p0 p1 p2) (fun z => rfl) (fun y1 => ?_)
    exact gRt rfl rfl (fun hg => by cases hg; exact ⟨rfl, rfl⟩)
  · refine gS rfl rfl ?_
    refine gS rfl rfl ?_
    refine gO rfl rfl (fun z2 => ?_)
    refine gB rfl rfl ?_ ?_
    · refine gS rfl rfl ?_
      refine gO rfl rfl (fun D3 => ?_)
      refine gO rfl rfl (fun u4 => ?_)
      exact gRt rfl rfl (fun hg => by cases hg; exact ⟨rfl, rfl⟩)
    · refine gS rfl rfl ?_
      refine gS rfl rfl ?_
      refine gS rfl rfl ?_
      refine gC (st' := fun y5 => [.inr (.inr y5.1)]) rfl rfl (fun _ _ => rfl) rfl (ok_J7_copyOfRangeByte_39247 dX hX d (by omega) h D p0 p1 p2) (fun z => rfl) (fun y5 => ?_)
      exact gRt rfl rfl (fun hg => by cases hg; exact ⟨rfl, rfl⟩)
noncomputable def F_J0_init_db425 (D : gDS) (o : gRF) (p0 : gRF) (p1 : gRF) : Option gDS :=
 (o).bind fun q1 =>
 (F_J5_getValue_6d5f1 D p0).bind fun y2 =>
 (F_J4_length_8abf5 D p0).bind fun y3 =>
 (F_J5_isLatin1_aae02 D p0).bind fun y4 =>
 if y4 = 0 then
  (gFi D p0 12 2).bind fun z5 =>
  if z5 = 0 then
   (gFsN D (some q1) 11 1 (1 : Int32)).bind fun D6 =>
   (F_J7_copyOfRange_39247 D6 y2 (0 : Int32) (y3 <<< ((1 : Int32) &&& 31))).bind fun y7 =>
   (gFst y7.2 (some q1) 11 0 (.inr (.inr y7.1))).bind fun D8 =>
   some (D8)
  else
   none
 else
  (gFsN D (some q1) 11 1 (0 : Int32)).bind fun D9 =>
  (F_J7_copyOfRange_39247 D9 y2 (0 : Int32) y3).bind fun y10 =>
  (gFst y10.2 (some q1) 11 0 (.inr (.inr y10.1))).bind fun D11 =>
  some (D11)
set_option maxHeartbeats 4000000 in
set_option maxRecDepth 100000 in
theorem ok_J0_init_db425 (dX : Nat) (hX : 40 ≤ dX) (d : Nat) (hd : 4 ≤ d) (h : PH) (D : gDS) (o : gRF) (p0 : gRF) (p1 : gRF) : ∀ z, F_J0_init_db425 D o p0 p1 = some z → gEx dX d 4 [.inr (.inr o), .inr (.inr p0), .inr (.inr p1)] (h, D) (none) (h, z) := by
  obtain ⟨d, rfl⟩ : ∃ e, d = e + 1 := ⟨d - 1, by omega⟩
  intro z hz
  refine ⟨rfl, ?_⟩
  refine (?_ : GSim (gEx dX d) (Ex dX) gmi_J0_init_db425 (fun o1 h1 => o1 = _ ∧ h1 = _) (F_J0_init_db425 D o p0 p1) (fun t => t = z) 0 [some (.inr (.inr o)), some (.inr (.inr p0)), some (.inr (.inr p1)), none, none] [] (h, D)) z hz rfl
  clear hz
  unfold F_J0_init_db425
  refine gS rfl rfl ?_
  rcases o with _ | q1
  · exact gNb
  refine gSb ?_
  refine gS rfl rfl ?_
  refine gS rfl rfl ?_
  refine gC (st' := fun y2 => [.inr (.inr y2)]) rfl rfl (fun _ hz => rv_recv (ci := 12) (by omega) (rv_J5_getValue_6d5f1 hz)) rfl (ok_J5_getValue_6d5f1 dX hX d (by omega) h D p0) (fun z => rfl) (fun y2 => ?_)
  refine gS (lv' := [some (.inr (.inr (some q1))), some (.inr (.inr p0)), some (.inr (.inr p1)), some (.inr (.inr y2)), none]) rfl rfl ?_
  refine gS rfl rfl ?_
  refine gC (st' := fun y3 => [.inl y3]) rfl rfl (fun _ hz => rv_recv (ci := 12) (by omega) (rv_J4_length_8abf5 hz)) rfl (ok_J4_length_8abf5 dX hX d (by omega) h D p0) (fun z => rfl) (fun y3 => ?_)
  refine gS (lv' := [some (.inr (.inr (some q1))), some (.inr (.inr p0)), some (.inr (.inr p1)), some (.inr (.inr y2)), some (.inl y3)]) rfl rfl ?_
  refine gS rfl rfl ?_
  refine gC (st' := fun y4 => [.inl y4]) rfl rfl (fun _ hz => rv_recv (ci := 12) (by omega) (rv_J5_isLatin1_aae02 hz)) rfl (ok_J5_isLatin1_aae02 dX hX d (by omega) h D p0) (fun z => rfl) (fun y4 => ?_)
  refine gB rfl rfl ?_ ?_
  · refine gS rfl rfl ?_
    refine gS rfl rfl ?_
    refine gS rfl rfl ?_
    refine gO rfl rfl (fun z5 => ?_)
    refine gB rfl rfl ?_ ?_
    · refine gS rfl rfl ?_
      refine gS rfl rfl ?_
      refine gO rfl rfl (fun D6 => ?_)
      refine gS rfl rfl ?_
      refine gS rfl rfl ?_
      refine gS rfl rfl ?_
      refine gS rfl rfl ?_
      refine gS rfl rfl ?_
      refine gS rfl rfl ?_
      refine gC (st' := fun y7 => [.inr (.inr y7.1), .inr (.inr (some q1))]) rfl rfl (fun _ _ => rfl) rfl (ok_J7_copyOfRange_39247 dX hX d (by omega) h D6 y2 (0 : Int32) (y3 <<< ((1 : Int32) &&& 31))) (fun z => rfl) (fun y7 => ?_)
      refine gO rfl rfl (fun D8 => ?_)
      exact gRt rfl rfl (fun hg => by cases hg; exact ⟨rfl, rfl⟩)
    · refine gS rfl rfl ?_
      refine gS rfl rfl ?_
      refine gS rfl rfl ?_
      refine gS rfl rfl ?_
      exact gNo
  · refine gS rfl rfl ?_
    refine gS rfl rfl ?_
    refine gO rfl rfl (fun D9 => ?_)
    refine gS rfl rfl ?_
    refine gS rfl rfl ?_
    refine gS rfl rfl ?_
    refine gS rfl rfl ?_
    refine gC (st' := fun y10 => [.inr (.inr y10.1), .inr (.inr (some q1))]) rfl rfl (fun _ _ => rfl) rfl (ok_J7_copyOfRange_39247 dX hX d (by omega) h D9 y2 (0 : Int32) y3) (fun z => rfl) (fun y10 => ?_)
    refine gO rfl rfl (fun D11 => ?_)
    refine gS rfl rfl ?_
    exact gRt rfl rfl (fun hg => by cases hg; exact ⟨rfl, rfl⟩)
noncomputable def F_J0_init_81219 (D : gDS) (o : gRF) (p0 : gRF) : Option gDS :=
 (F_J0_init_db425 D o p0 none).bind fun y1 =>
 some (y1)
set_option maxHeartbeats 4000000 in
set_option maxRecDepth 100000 in
theorem ok_J0_init_81219 (dX : Nat) (hX : 40 ≤ dX) (d : Nat) (hd : 5 ≤ d) (h : PH) (D : gDS) (o : gRF) (p0 : gRF) : ∀ z, F_J0_init_81219 D o p0 = some z → gEx dX d 3 [.inr (.inr o), .inr (.inr p0)] (h, D) (none) (h, z) := by
  obtain ⟨d, rfl⟩ : ∃ e, d = e + 1 := ⟨d - 1, by omega⟩
  intro z hz
  refine ⟨rfl, ?_⟩
  refine (?_ : GSim (gEx dX d) (Ex dX) gmi_J0_init_81219 (fun o1 h1 => o1 = _ ∧ h1 = _) (F_J0_init_81219 D o p0) (fun t => t = z) 0 [some (.inr (.inr o)), some (.inr (.inr p0))] [] (h, D)) z hz rfl
  clear hz
  unfold F_J0_init_81219
  refine gS rfl rfl ?_
  refine gS rfl rfl ?_
  refine gS rfl rfl ?_
  refine gC (st' := fun y1 => []) rfl rfl (fun _ _ => rfl) rfl (ok_J0_init_db425 dX hX d (by omega) h D o p0 none) (fun z => rfl) (fun y1 => ?_)
  exact gRt rfl rfl (fun hg => by cases hg; exact ⟨rfl, rfl⟩)
noncomputable def F_J0_length_8abf5 (D : gDS) (o : gRF) : Option Int32 :=
 (gRv D o 11).bind fun _ =>
 (gFr D o 11 0).bind fun r1 =>
 (gLen D r1).bind fun z2 =>
 (F_J0_coder_7d493 D o).bind fun y3 =>
 some ((z2 >>> (y3 &&& 31)))
theorem rv_J0_length_8abf5 {D : gDS} {o : gRF} {z} (hz : F_J0_length_8abf5 D o = some z) : gRv D o 11 = some () := by
  unfold F_J0_length_8abf5 at hz
  exact rv_bind hz
set_option maxHeartbeats 4000000 in
set_option maxRecDepth 100000 in
theorem ok_J0_length_8abf5 (dX : Nat) (hX : 40 ≤ dX) (d : Nat) (hd : 2 ≤ d) (h : PH) (D : gDS) (o : gRF) : ∀ z, F_J0_length_8abf5 D o = some z → gEx dX d 6 [.inr (.inr o)] (h, D) (some (.inl z)) (h, D) := by
  obtain ⟨d, rfl⟩ : ∃ e, d = e + 1 := ⟨d - 1, by omega⟩
  intro z hz
  refine ⟨rfl, ?_⟩
  refine (?_ : GSim (gEx dX d) (Ex dX) gmi_J0_length_8abf5 (fun o1 h1 => o1 = _ ∧ h1 = _) (F_J0_length_8abf5 D o) (fun t => t = z) 0 [some (.inr (.inr o))] [] (h, D)) z hz rfl
  clear hz
  unfold F_J0_length_8abf5
  refine gRc ?_
  refine gS rfl rfl ?_
  refine gO rfl rfl (fun r1 => ?_)
  refine gO rfl rfl (fun z2 => ?_)
  refine gS rfl rfl ?_
  refine gC (st' := fun y3 => [.inl y3, .inl z2]) rfl rfl (fun _ hz => rv_recv (ci := 11) (by omega) (rv_J0_coder_7d493 hz)) rfl (ok_J0_coder_7d493 dX hX d (by omega) h D o) (fun z => rfl) (fun y3 => ?_)
  refine gS rfl rfl ?_
  exact gRt rfl rfl (fun hg => by cases hg; exact ⟨rfl, rfl⟩)
noncomputable def F_J8_newLength_cabcc (D : gDS) (p0 : Int32) (p1 : Int32) (p2 : Int32) : Option Int32 :=
 if (p0 + (if p2 < p1 then p1 else p2)) ≤ (0 : Int32) then
  none
 else
  if (2147483639 : Int32) < (p0 + (if p2 < p1 then p1 else p2)) then
   none
  else
   some ((p0 + (if p2 < p1 then p1 else p2)))
set_option maxHeartbeats 4000000 in
set_option maxRecDepth 100000 in
theorem ok_J8_newLength_cabcc (dX : Nat) (hX : 40 ≤ dX) (d : Nat) (hd : 1 ≤ d) (h : PH) (D : gDS) (p0 : Int32) (p1 : Int32) (p2 : Int32) : ∀ z, F_J8_newLength_cabcc D p0 p1 p2 = some z → gEx dX d 29 [.inl p0, .inl p1, .inl p2] (h, D) (some (.inl z)) (h, D) := by
  obtain ⟨d, rfl⟩ : ∃ e, d = e + 1 := ⟨d - 1, by omega⟩
  intro z hz
  refine ⟨rfl, ?_⟩
  refine (?_ : GSim (gEx dX d) (Ex dX) gmi_J8_newLength_cabcc (fun o1 h1 => o1 = _ ∧ h1 = _) (F_J8_newLength_cabcc D p0 p1 p2) (fun t => t = z) 0 [some (.inl p0), some (.inl p1), some (.inl p2), none] [] (h, D)) z hz rfl
  clear hz
  unfold F_J8_newLength_cabcc
  refine gS rfl rfl ?_
  refine gS rfl rfl ?_
  refine gS rfl rfl ?_
  refine gS rfl rfl ?_
  refine gS rfl rfl ?_
  refine gS (lv' := [some (.inl p0), some (.inl p1), some (.inl p2), some (.inl (p0 + (if p2 < p1 then p1 else p2)))]) rfl rfl ?_
  refine gS rfl rfl ?_
  refine gS rfl rfl ?_
  refine gB rfl rfl ?_ ?_
  · refine gS rfl rfl ?_
    refine gS rfl rfl ?_
    exact gNo
  · refine gS rfl rfl ?_
    refine gS rfl rfl ?_
    refine gB rfl rfl ?_ ?_
    · refine gS rfl rfl ?_
      refine gS rfl rfl ?_
      exact gNo
    · refine gS rfl rfl ?_
      exact gRt rfl rfl (fun hg => by cases hg; exact ⟨rfl, rfl⟩)
noncomputable def F_J5_newCapacity_0f7a4 (D : gDS) (o : gRF) (p0 : Int32) : Option Int32 :=
 (gRv D o 12).bind fun _ =>
 (gFr D o 12 0).bind fun r1 =>
 (gLen D r1).bind fun z2 =>
 (gFi D o 12 1).bind fun z3 =>
 (gFi D o 12 1).bind fun z4 =>
 (F_J8_newLength_cabcc D z2 ((p0 <<< (z3 &&& 31)) - z2) (z2 + ((2 : Int32) <<< (z4 &&& 31)))).bind fun y5 =>
 if ¬ y5 = (2147483647 : Int32) then
  (gFi D o 12 1).bind fun z6 =>
  some ((y5 >>> (z6 &&& 31)))
 else
  none
theorem rv_J5_newCapacity_0f7a4 {D : gDS} {o : gRF} {p0 : Int32} {z} (hz : F_J5_newCapacity_0f7a4 D o p0 = some z) : gRv D o 12 = some () := by
  unfold F_J5_newCapacity_0f7a4 at hz
  exact rv_bind hz
set_option maxHeartbeats 4000000 in
set_option maxRecDepth 100000 in
theorem ok_J5_newCapacity_0f7a4 (dX : Nat) (hX : 40 ≤ dX) (d : Nat) (hd : 2 ≤ d) (h : PH) (D : gDS) (o : gRF) (p0 : Int32) : ∀ z, F_J5_newCapacity_0f7a4 D o p0 = some z → gEx dX d 21 [.inr (.inr o), .inl p0] (h, D) (some (.inl z)) (h, D) := by
  obtain ⟨d, rfl⟩ : ∃ e, d = e + 1 := ⟨d - 1, by omega⟩
  intro z hz
  refine ⟨rfl, ?_⟩
  refine (?_ : GSim (gEx dX d) (Ex dX) gmi_J5_newCapacity_0f7a4 (fun o1 h1 => o1 = _ ∧ h1 = _) (F_J5_newCapacity_0f7a4 D o p0) (fun t => t = z) 0 [some (.inr (.inr o)), some (.inl p0), none, none, none, none] [] (h, D)) z hz rfl
  clear hz
  unfold F_J5_newCapacity_0f7a4
  refine gRc ?_
  refine gS rfl rfl ?_
  refine gO rfl rfl (fun r1 => ?_)
  refine gO rfl rfl (fun z2 => ?_)
  refine gS (lv' := [some (.inr (.inr o)), some (.inl p0), some (.inl z2), none, none, none]) rfl rfl ?_
  refine gS rfl rfl ?_
  refine gS rfl rfl ?_
  refine gO rfl rfl (fun z3 => ?_)
  refine gS rfl rfl ?_
  refine gS (lv' := [some (.inr (.inr o)), some (.inl p0), some (.inl z2), some (.inl (p0 <<< (z3 &&& 31))), none, none]) rfl rfl ?_
  refine gS rfl rfl ?_
  refine gS rfl rfl ?_
  refine gS rfl rfl ?_
  refine gS (lv' := [some (.inr (.inr o)), some (.inl p0), some (.inl z2), some (.inl (p0 <<< (z3 &&& 31))), some (.inl ((p0 <<< (z3 &&& 31)) - z2)), none]) rfl rfl ?_
  refine gS rfl rfl ?_
  refine gS rfl rfl ?_
  refine gS rfl rfl ?_
  refine gS rfl rfl ?_
  refine gS rfl rfl ?_
  refine gO rfl rfl (fun z4 => ?_)
  refine gS rfl rfl ?_
  refine gS rfl rfl ?_
  refine gC (st' := fun y5 => [.inl y5]) rfl rfl (fun _ _ => rfl) rfl (ok_J8_newLength_cabcc dX hX d (by omega) h D z2 ((p0 <<< (z3 &&& 31)) - z2) (z2 + ((2 : Int32) <<< (z4 &&& 31)))) (fun z => rfl) (fun y5 => ?_)
  refine gS (lv' := [some (.inr (.inr o)), some (.inl p0), some (.inl z2), some (.inl (p0 <<< (z3 &&& 31))), some (.inl ((p0 <<< (z3 &&& 31)) - z2)), some (.inl y5)]) rfl rfl ?_
  refine gS rfl rfl ?_
  refine gS rfl rfl ?_
  refine gB rfl rfl ?_ ?_
  · refine gS rfl rfl ?_
    refine gS rfl rfl ?_
    refine gO rfl rfl (fun z6 => ?_)
    refine gS rfl rfl ?_
    exact gRt rfl rfl (fun hg => by cases hg; exact ⟨rfl, rfl⟩)
  · exact gNo
noncomputable def F_J7_copyOf_9075b (D : gDS) (p0 : gRF) (p1 : Int32) : Option (gRF × gDS) :=
 (gLen D p0).bind fun z1 =>
 if ¬ p1 = z1 then
  (gNwI D 2 p1).bind fun D2 =>
  (gLen D2 p0).bind fun z3 =>
  (gCpB D2 p0 (0 : Int32) (gTop D) (0 : Int32) (if p1 < z3 then p1 else z3)).bind fun D4 =>
  some (((gTop D), D4))
 else
  (gCln D p0 2).bind fun D5 =>
  (gIsA D5 (gTop D) 2).bind fun u6 =>
  some (((gTop D), D5))
set_option maxHeartbeats 4000000 in
set_option maxRecDepth 100000 in
theorem ok_J7_copyOf_9075b (dX : Nat) (hX : 40 ≤ dX) (d : Nat) (hd : 1 ≤ d) (h : PH) (D : gDS) (p0 : gRF) (p1 : Int32) : ∀ z, F_J7_copyOf_9075b D p0 p1 = some z → gEx dX d 28 [.inr (.inr p0), .inl p1] (h, D) (some (.inr (.inr z.1))) (h, z.2) := by
  obtain ⟨d, rfl⟩ : ∃ e, d = e + 1 := ⟨d - 1, by omega⟩
  intro z hz
  refine ⟨rfl, ?_⟩
  refine (?_ : GSim (gEx dX d) (Ex dX) gmi_J7_copyOf_9075b (fun o1 h1 => o1 = _ ∧ h1 = _) (F_J7_copyOf_9075b D p0 p1) (fun t => t = z) 0 [some (.inr (.inr p0)), some (.inl p1), none] [] (h, D)) z hz rfl
  clear hz
  unfold F_J7_copyOf_9075b
  refine gS rfl rfl ?_
  refine gS rfl rfl ?_
  refine gO rfl rfl (fun z1 => ?_)
  refine gB rfl rfl ?_ ?_
  · refine gS rfl rfl ?_
    refine gO rfl rfl (fun D2 => ?_)
    refine gS (lv' := [some (.inr (.inr p0)), some (.inl p1), some (.inr (.inr (gTop D)))]) rfl rfl ?_
    refine gS rfl rfl ?_
    refine gS rfl rfl ?_
    refine gS rfl rfl ?_
    refine gS rfl rfl ?_
    refine gS rfl rfl ?_
    refine gO rfl rfl (fun z3 => ?_)
    refine gS rfl rfl ?_
    refine gS rfl rfl ?_
    refine gO rfl rfl (fun D4 => ?_)
    refine gS rfl rfl ?_
    exact gRt rfl rfl (fun hg => by cases hg; exact ⟨rfl, rfl⟩)
  · refine gS rfl rfl ?_
    refine gO rfl rfl (fun D5 => ?_)
    refine gO rfl rfl (fun u6 => ?_)
    exact gRt rfl rfl (fun hg => by cases hg; exact ⟨rfl, rfl⟩)
noncomputable def F_J5_ensureCapacityInternal_d00df (D : gDS) (o : gRF) (p0 : Int32) : Option gDS :=
 (gRv D o 12).bind fun _ =>
 (gFr D o 12 0).bind fun r1 =>
 (gLen D r1).bind fun z2 =>
 (gFi D o 12 1).bind fun z3 =>
 if (p0 - (z2 >>> (z3 &&& 31))) ≤ 0 then
  some (D)
 else
  (gFr D o 12 0).bind fun r4 =>
  (F_J5_newCapacity_0f7a4 D o p0).bind fun y5 =>
  (gFi D o 12 1).bind fun z6 =>
  (F_J7_copyOf_9075b D r4 (y5 <<< (z6 &&& 31))).bind fun y7 =>
  (gFst y7.2 o 12 0 (.inr (.inr y7.1))).bind fun D8 =>
  some (D8)
theorem rv_J5_ensureCapacityInternal_d00df {D : gDS} {o : gRF} {p0 : Int32} {z} (hz : F_J5_ensureCapacityInternal_d00df D o p0 = some z) : gRv D o 12 = some () := by
  unfold F_J5_ensureCapacityInternal_d00df at hz
  exact rv_bind hz
set_option maxHeartbeats 4000000 in
set_option maxRecDepth 100000 in
theorem ok_J5_ensureCapacityInternal_d00df (dX : Nat) (hX : 40 ≤ dX) (d : Nat) (hd : 3 ≤ d) (h : PH) (D : gDS) (o : gRF) (p0 : Int32) : ∀ z, F_J5_ensureCapacityInternal_d00df D o p0 = some z → gEx dX d 15 [.inr (.inr o), .inl p0] (h, D) (none) (h, z) := by
  obtain ⟨d, rfl⟩ : ∃ e, d = e + 1 := ⟨d - 1, by omega⟩
  intro z hz
  refine ⟨rfl, ?_⟩
  refine (?_ : GSim (gEx dX d) (Ex dX) gmi_J5_ensureCapacityInternal_d00df (fun o1 h1 => o1 = _ ∧ h1 = _) (F_J5_ensureCapacityInternal_d00df D o p0) (fun t => t = z) 0 [some (.inr (.inr o)), some (.inl p0), none] [] (h, D)) z hz rfl
  clear hz
  unfold F_J5_ensureCapacityInternal_d00df
  refine gRc ?_
  refine gS rfl rfl ?_
  refine gO rfl rfl (fun r1 => ?_)
  refine gO rfl rfl (fun z2 => ?_)
  refine gS rfl rfl ?_
  refine gO rfl rfl (fun z3 => ?_)
  refine gS rfl rfl ?_
  refine gS (lv' := [some (.inr (.inr o)), some (.inl p0), some (.inl (z2 >>> (z3 &&& 31)))]) rfl rfl ?_
  refine gS rfl rfl ?_
  refine gS rfl rfl ?_
  refine gS rfl rfl ?_
  refine gB rfl rfl ?_ ?_
  · exact gRt rfl rfl (fun hg => by cases hg; exact ⟨rfl, rfl⟩)
  · refine gS rfl rfl ?_
    refine gS rfl rfl ?_
    refine gO rfl rfl (fun r4 => ?_)
    refine gS rfl rfl ?_
    refine gS rfl rfl ?_
    refine gC (st' := fun y5 => [.inl y5, .inr (.inr r4), .inr (.inr o)]) rfl rfl (fun _ hz => rv_recv (ci := 12) (by omega) (rv_J5_newCapacity_0f7a4 hz)) rfl (ok_J5_newCapacity_0f7a4 dX hX d (by omega) h D o p0) (fun z => rfl) (fun y5 => ?_)
    refine gS rfl rfl ?_
    refine gO rfl rfl (fun z6 => ?_)
    refine gS rfl rfl ?_
    refine gC (st' := fun y7 => [.inr (.inr y7.1), .inr (.inr o)]) rfl rfl (fun _ _ => rfl) rfl (ok_J7_copyOf_9075b dX hX d (by omega) h D r4 (y5 <<< (z6 &&& 31))) (fun z => rfl) (fun y7 => ?_)
    refine gO rfl rfl (fun D8 => ?_)
    exact gRt rfl rfl (fun hg => by cases hg; exact ⟨rfl, rfl⟩)
noncomputable def F_J5_inflateIfNeededFor_a7421 (D : gDS) (o : gRF) (p0 : gRF) : Option Unit :=
 (gRv D o 12).bind fun _ =>
 (gFi D o 12 1).bind fun z1 =>
 (F_J0_coder_7d493 D p0).bind fun y2 =>
 if z1 = y2 then
  some (())
 else
  none
theorem rv_J5_inflateIfNeededFor_a7421 {D : gDS} {o : gRF} {p0 : gRF} {z} (hz : F_J5_inflateIfNeededFor_a7421 D o p0 = some z) : gRv D o 12 = some () := by
  unfold F_J5_inflateIfNeededFor_a7421 at hz
  exact rv_bind hz
set_option maxHeartbeats 4000000 in
set_option maxRecDepth 100000 in
theorem ok_J5_inflateIfNeededFor_a7421 (dX : Nat) (hX : 40 ≤ dX) (d : Nat) (hd : 2 ≤ d) (h : PH) (D : gDS) (o : gRF) (p0 : gRF) : ∀ z, F_J5_inflateIfNeededFor_a7421 D o p0 = some z → gEx dX d 17 [.inr (.inr o), .inr (.inr p0)] (h, D) (none) (h, D) := by
  obtain ⟨d, rfl⟩ : ∃ e, d = e + 1 := ⟨d - 1, by omega⟩
  intro z hz
  refine ⟨rfl, ?_⟩
  refine (?_ : GSim (gEx dX d) (Ex dX) gmi_J5_inflateIfNeededFor_a7421 (fun o1 h1 => o1 = _ ∧ h1 = _) (F_J5_inflateIfNeededFor_a7421 D o p0) (fun t => t = z) 0 [some (.inr (.inr o)), some (.inr (.inr p0))] [] (h, D)) z hz rfl
  clear hz
  unfold F_J5_inflateIfNeededFor_a7421
  refine gRc ?_
  refine gS rfl rfl ?_
  refine gS rfl rfl ?_
  refine gS rfl rfl ?_
  refine gO rfl rfl (fun z1 => ?_)
  refine gS rfl rfl ?_
  refine gC (st' := fun y2 => [.inl y2, .inl z1]) rfl rfl (fun _ hz => rv_recv (ci := 11) (by omega) (rv_J0_coder_7d493 hz)) rfl (ok_J0_coder_7d493 dX hX d (by omega) h D p0) (fun z => rfl) (fun y2 => ?_)
  refine gB rfl rfl ?_ ?_
  · exact gRt rfl rfl (fun hg => by cases hg; exact ⟨rfl, rfl⟩)
  · refine gS rfl rfl ?_
    exact gNo
noncomputable def F_J5_putStringAt_47b60 (D : gDS) (o : gRF) (p0 : Int32) (p1 : gRF) : Option gDS :=
 (gRv D o 12).bind fun _ =>
 (F_J5_inflateIfNeededFor_a7421 D o p1).bind fun y1 =>
 (gFr D o 12 0).bind fun r2 =>
 (gFi D o 12 1).bind fun z3 =>
 (F_J0_getBytes_840e7 D p1 r2 p0 z3).bind fun y4 =>
 some (y4)
theorem rv_J5_putStringAt_47b60 {D : gDS} {o : gRF} {p0 : Int32} {p1 : gRF} {z} (hz : F_J5_putStringAt_47b60 D o p0 p1 = some z) : gRv D o 12 = some () := by
  unfold F_J5_putStringAt_47b60 at hz
  exact rv_bind hz
set_option maxHeartbeats 4000000 in
set_option maxRecDepth 100000 in
theorem ok_J5_putStringAt_47b60 (dX : Nat) (hX : 40 ≤ dX) (d : Nat) (hd : 3 ≤ d) (h : PH) (D : gDS) (o : gRF) (p0 : Int32) (p1 : gRF) : ∀ z, F_J5_putStringAt_47b60 D o p0 p1 = some z → gEx dX d 22 [.inr (.inr o), .inl p0, .inr (.inr p1)] (h, D) (none) (h, z) := by
  obtain ⟨d, rfl⟩ : ∃ e, d = e + 1 := ⟨d - 1, by omega⟩
  intro z hz
  refine ⟨rfl, ?_⟩
  refine (?_ : GSim (gEx dX d) (Ex dX) gmi_J5_putStringAt_47b60 (fun o1 h1 => o1 = _ ∧ h1 = _) (F_J5_putStringAt_47b60 D o p0 p1) (fun t => t = z) 0 [some (.inr (.inr o)), some (.inl p0), some (.inr (.inr p1))] [] (h, D)) z hz rfl
  clear hz
  unfold F_J5_putStringAt_47b60
  refine gRc ?_
  refine gS rfl rfl ?_
  refine gS rfl rfl ?_
  refine gC (st' := fun y1 => []) rfl rfl (fun _ hz => rv_recv (ci := 12) (by omega) (rv_J5_inflateIfNeededFor_a7421 hz)) rfl (ok_J5_inflateIfNeededFor_a7421 dX hX d (by omega) h D o p1) (fun z => rfl) (fun y1 => ?_)
  refine gS rfl rfl ?_
  refine gS rfl rfl ?_
  refine gO rfl rfl (fun r2 => ?_)
  refine gS rfl rfl ?_
  refine gS rfl rfl ?_
  refine gO rfl rfl (fun z3 => ?_)
  refine gC (st' := fun y4 => []) rfl rfl (fun _ hz => rv_recv (ci := 11) (by omega) (rv_J0_getBytes_840e7 hz)) rfl (ok_J0_getBytes_840e7 dX hX d (by omega) h D p1 r2 p0 z3) (fun z => rfl) (fun y4 => ?_)
  exact gRt rfl rfl (fun hg => by cases hg; exact ⟨rfl, rfl⟩)
noncomputable def F_J5_append_cf1ce (D : gDS) (o : gRF) (p0 : gRF) : Option (gRF × gDS) :=
 (gRv D o 12).bind fun _ =>
 if p0 = none then
  none
 else
  (F_J0_length_8abf5 D p0).bind fun y1 =>
  (gFi D o 12 3).bind fun z2 =>
  (F_J5_ensureCapacityInternal_d00df D o (z2 + y1)).bind fun y3 =>
  (gFi y3 o 12 3).bind fun z4 =>
  (F_J5_putStringAt_47b60 y3 o z4 p0).bind fun y5 =>
  (gFi y5 o 12 3).bind fun z6 =>
  (gFst y5 o 12 3 (.inl (z6 + y1))).bind fun D7 =>
  some ((o, D7))
theorem rv_J5_append_cf1ce {D : gDS} {o : gRF} {p0 : gRF} {z} (hz : F_J5_append_cf1ce D o p0 = some z) : gRv D o 12 = some () := by
  unfold F_J5_append_cf1ce at hz
  exact rv_bind hz
set_option maxHeartbeats 4000000 in
set_option maxRecDepth 100000 in
theorem ok_J5_append_cf1ce (dX : Nat) (hX : 40 ≤ dX) (d : Nat) (hd : 4 ≤ d) (h : PH) (D : gDS) (o : gRF) (p0 : gRF) : ∀ z, F_J5_append_cf1ce D o p0 = some z → gEx dX d 14 [.inr (.inr o), .inr (.inr p0)] (h, D) (some (.inr (.inr z.1))) (h, z.2) := by
  obtain ⟨d, rfl⟩ : ∃ e, d = e + 1 := ⟨d - 1, by omega⟩
  intro z hz
  refine ⟨rfl, ?_⟩
  refine (?_ : GSim (gEx dX d) (Ex dX) gmi_J5_append_cf1ce (fun o1 h1 => o1 = _ ∧ h1 = _) (F_J5_append_cf1ce D o p0) (fun t => t = z) 0 [some (.inr (.inr o)), some (.inr (.inr p0)), none] [] (h, D)) z hz rfl
  clear hz
  unfold F_J5_append_cf1ce
  refine gRc ?_
  refine gS rfl rfl ?_
  refine gB rfl rfl ?_ ?_
  · refine gS rfl rfl ?_
    exact gNo
  · refine gS rfl rfl ?_
    refine gC (st' := fun y1 => [.inl y1]) rfl rfl (fun _ hz => rv_recv (ci := 11) (by omega) (rv_J0_length_8abf5 hz)) rfl (ok_J0_length_8abf5 dX hX d (by omega) h D p0) (fun z => rfl) (fun y1 => ?_)
    refine gS (lv' := [some (.inr (.inr o)), some (.inr (.inr p0)), some (.inl y1)]) rfl rfl ?_
    refine gS rfl rfl ?_
    refine gS rfl rfl ?_
    refine gO rfl rfl (fun z2 => ?_)
    refine gS rfl rfl ?_
    refine gS rfl rfl ?_
    refine gC (st' := fun y3 => []) rfl rfl (fun _ hz => rv_recv (ci := 12) (by omega) (rv_J5_ensureCapacityInternal_d00df hz)) rfl (ok_J5_ensureCapacityInternal_d00df dX hX d (by omega) h D o (z2 + y1)) (fun z => rfl) (fun y3 => ?_)
    refine gS rfl rfl ?_
    refine gS rfl rfl ?_
    refine gO rfl rfl (fun z4 => ?_)
    refine gS rfl rfl ?_
    refine gC (st' := fun y5 => []) rfl rfl (fun _ hz => rv_recv (ci := 12) (by omega) (rv_J5_putStringAt_47b60 hz)) rfl (ok_J5_putStringAt_47b60 dX hX d (by omega) h y3 o z4 p0) (fun z => rfl) (fun y5 => ?_)
    refine gS rfl rfl ?_
    refine gS rfl rfl ?_
    refine gO rfl rfl (fun z6 => ?_)
    refine gS rfl rfl ?_
    refine gS rfl rfl ?_
    refine gO rfl rfl (fun D7 => ?_)
    refine gS rfl rfl ?_
    exact gRt rfl rfl (fun hg => by cases hg; exact ⟨rfl, rfl⟩)
noncomputable def F_J4_append_15ec4 (D : gDS) (o : gRF) (p0 : gRF) : Option (gRF × gDS) :=
 (gRv D o 12).bind fun _ =>
 (F_J5_append_cf1ce D o p0).bind fun y1 =>
 some ((o, y1.2))
theorem rv_J4_append_15ec4 {D : gDS} {o : gRF} {p0 : gRF} {z} (hz : F_J4_append_15ec4 D o p0 = some z) : gRv D o 12 = some () := by
  unfold F_J4_append_15ec4 at hz
  exact rv_bind hz
set_option maxHeartbeats 4000000 in
set_option maxRecDepth 100000 in
theorem ok_J4_append_15ec4 (dX : Nat) (hX : 40 ≤ dX) (d : Nat) (hd : 5 ≤ d) (h : PH) (D : gDS) (o : gRF) (p0 : gRF) : ∀ z, F_J4_append_15ec4 D o p0 = some z → gEx dX d 8 [.inr (.inr o), .inr (.inr p0)] (h, D) (some (.inr (.inr z.1))) (h, z.2) := by
  obtain ⟨d, rfl⟩ : ∃ e, d = e + 1 := ⟨d - 1, by omega⟩
  intro z hz
  refine ⟨rfl, ?_⟩
  refine (?_ : GSim (gEx dX d) (Ex dX) gmi_J4_append_15ec4 (fun o1 h1 => o1 = _ ∧ h1 = _) (F_J4_append_15ec4 D o p0) (fun t => t = z) 0 [some (.inr (.inr o)), some (.inr (.inr p0))] [] (h, D)) z hz rfl
  clear hz
  unfold F_J4_append_15ec4
  refine gRc ?_
  refine gS rfl rfl ?_
  refine gS rfl rfl ?_
  refine gC (st' := fun y1 => [.inr (.inr y1.1)]) rfl rfl (fun _ hz => rv_super (rv_J5_append_cf1ce hz)) rfl (ok_J5_append_cf1ce dX hX d (by omega) h D o p0) (fun z => rfl) (fun y1 => ?_)
  refine gS rfl rfl ?_
  refine gS rfl rfl ?_
  exact gRt rfl rfl (fun hg => by cases hg; exact ⟨rfl, rfl⟩)
noncomputable def F_J6_stringSize_0f7a4 (D : gDS) (p0 : Int32) : Option Int32 :=
 jn (fun (v2 : Int32 × Int32) =>
  loop (fun (s3 : Int32 × Int32) =>
   if (10 : Int32) ≤ s3.2 then
    some (.inr (((10 : Int32) + v2.2)))
   else
    if v2.1 ≤ s3.1 then
     some (.inl (((10 : Int32) * s3.1), (s3.2 + (1 : Int32))))
    else
     some (.inr ((s3.2 + v2.2)))) ((-10 : Int32), (1 : Int32))) (fun k1 =>
  if p0 < 0 then
   k1 (p0, (1 : Int32))
  else
   k1 ((-p0), (0 : Int32)))
set_option maxHeartbeats 4000000 in
set_option maxRecDepth 100000 in
theorem ok_J6_stringSize_0f7a4 (dX : Nat) (hX : 40 ≤ dX) (d : Nat) (hd : 1 ≤ d) (h : PH) (D : gDS) (p0 : Int32) : ∀ z, F_J6_stringSize_0f7a4 D p0 = some z → gEx dX d 24 [.inl p0] (h, D) (some (.inl z)) (h, D) := by
  obtain ⟨d, rfl⟩ : ∃ e, d = e + 1 := ⟨d - 1, by omega⟩
  intro z hz
  refine ⟨rfl, ?_⟩
  refine (?_ : GSim (gEx dX d) (Ex dX) gmi_J6_stringSize_0f7a4 (fun o1 h1 => o1 = _ ∧ h1 = _) (F_J6_stringSize_0f7a4 D p0) (fun t => t = z) 0 [some (.inl p0), none, none, none] [] (h, D)) z hz rfl
  clear hz
  unfold F_J6_stringSize_0f7a4
  refine gS rfl rfl ?_
  refine gS (lv' := [some (.inl p0), some (.inl (1 : Int32)), none, none]) rfl rfl ?_
  refine gS rfl rfl ?_
  refine gJn 11 (fun (v2 : Int32 × Int32) => [some (.inl v2.1), some (.inl v2.2), none, none]) (fun (v2 : Int32 × Int32) => []) (fun (v2 : Int32 × Int32) => (h, D)) (fun v2 => ?_) (fun k1 hk1 => ?_)
  · refine gS rfl rfl ?_
    refine gS (lv' := [some (.inl v2.1), some (.inl v2.2), some (.inl (-10 : Int32)), none]) rfl rfl ?_
    refine gS rfl rfl ?_
    refine gS (lv' := [some (.inl v2.1), some (.inl v2.2), some (.inl (-10 : Int32)), some (.inl (1 : Int32))]) rfl rfl ?_
    refine gL (pc := 16) (lv := fun (s3 : Int32 × Int32) => [some (.inl v2.1), some (.inl v2.2), some (.inl s3.1), some (.inl s3.2)]) (s := fun (s3 : Int32 × Int32) => (h, D)) (fun s3 => ?_) ((-10 : Int32), (1 : Int32))
    refine gS rfl rfl ?_
    refine gS rfl rfl ?_
    refine gB rfl rfl ?_ ?_
    · refine gS rfl rfl ?_
      refine gS rfl rfl ?_
      refine gS rfl rfl ?_
      exact gRt rfl rfl (fun hg => by cases hg; exact ⟨rfl, rfl⟩)
    · refine gS rfl rfl ?_
      refine gS rfl rfl ?_
      refine gB rfl rfl ?_ ?_
      · refine gS rfl rfl ?_
        refine gS rfl rfl ?_
        refine gS rfl rfl ?_
        refine gS (lv' := [some (.inl v2.1), some (.inl v2.2), some (.inl ((10 : Int32) * s3.1)), some (.inl s3.2)]) rfl rfl ?_
        refine gS (lv' := [some (.inl v2.1), some (.inl v2.2), some (.inl ((10 : Int32) * s3.1)), some (.inl (s3.2 + (1 : Int32)))]) rfl rfl ?_
        refine gS rfl rfl ?_
        exact gJ (fun h2 => h2)
      · refine gS rfl rfl ?_
        refine gS rfl rfl ?_
        refine gS rfl rfl ?_
        exact gRt rfl rfl (fun hg => by cases hg; exact ⟨rfl, rfl⟩)
  · refine gB rfl rfl ?_ ?_
    · have h3 := hk1 (p0, (1 : Int32))
      exact h3
    · refine gS rfl rfl ?_
      refine gS (lv' := [some (.inl p0), some (.inl (0 : Int32)), none, none]) rfl rfl ?_
      refine gS rfl rfl ?_
      refine gS rfl rfl ?_
      refine gS (lv' := [some (.inl (-p0)), some (.inl (0 : Int32)), none, none]) rfl rfl ?_
      have h3 := hk1 ((-p0), (0 : Int32))
      exact h3
noncomputable def F_J6_getChars_ba4f3 (D : gDS) (p0 : Int32) (p1 : Int32) (p2 : gRF) : Option (Int32 × gDS) :=
 jn (fun (v2 : Int32) =>
  jn (fun (v4 : Int32) =>
   loop (fun (s5 : Int32 × Int32 × gDS) =>
    if (-100 : Int32) < s5.1 then
     (gIld s5.2.2 (some (.inr 3)) 2 (-s5.1)).bind fun z6 =>
     (gIst s5.2.2 p2 2 (s5.2.1 - (1 : Int32)) (vp_nar .byte z6)).bind fun D7 =>
     jn (fun (v9 : Int32 × gDS) =>
      if v2 = 0 then
       some (.inr ((v9.1, v9.2)))
      else
       (gIst v9.2 p2 2 (v9.1 - (1 : Int32)) (vp_nar .byte (45 : Int32))).bind fun D10 =>
       some (.inr (((v9.1 - (1 : Int32)), D10)))) (fun k8 =>
      if (-9 : Int32) ≤ s5.1 then
       k8 ((s5.2.1 - (1 : Int32)), D7)
      else
       (gIld D7 (some (.inr 4)) 2 (-s5.1)).bind fun z11 =>
       (gIst D7 p2 2 ((s5.2.1 - (1 : Int32)) - (1 : Int32)) (vp_nar .byte z11)).bind fun D12 =>
       k8 (((s5.2.1 - (1 : Int32)) - (1 : Int32)), D12))
    else
     (gIld s5.2.2 (some (.inr 3)) 2 (((s5.1 / (100 : Int32)) * (100 : Int32)) - s5.1)).bind fun z13 =>
     (gIst s5.2.2 p2 2 (s5.2.1 - (1 : Int32)) (vp_nar .byte z13)).bind fun D14 =>
     (gIld D14 (some (.inr 4)) 2 (((s5.1 / (100 : Int32)) * (100 : Int32)) - s5.1)).bind fun z15 =>
     (gIst D14 p2 2 ((s5.2.1 - (1 : Int32)) - (1 : Int32)) (vp_nar .byte z15)).bind fun D16 =>
     some (.inl ((s5.1 / (100 : Int32)), ((s5.2.1 - (1 : Int32)) - (1 : Int32)), D16))) (v4, p1, D)) (fun k3 =>
   if ¬ v2 = 0 then
    k3 (p0)
   else
    k3 ((-p0)))) (fun k1 =>
  if 0 ≤ p0 then
   k1 ((0 : Int32))
  else
   k1 ((1 : Int32)))
set_option maxHeartbeats 4000000 in
set_option maxRecDepth 100000 in
theorem ok_J6_getChars_ba4f3 (dX : Nat) (hX : 40 ≤ dX) (d : Nat) (hd : 1 ≤ d) (h : PH) (D : gDS) (p0 : Int32) (p1 : Int32) (p2 : gRF) : ∀ z, F_J6_getChars_ba4f3 D p0 p1 p2 = some z → gEx dX d 23 [.inl p0, .inl p1, .inr (.inr p2)] (h, D) (some (.inl z.1)) (h, z.2) := by
  obtain ⟨d, rfl⟩ : ∃ e, d = e + 1 := ⟨d - 1, by omega⟩
  intro z hz
  refine ⟨rfl, ?_⟩
  refine (?_ : GSim (gEx dX d) (Ex dX) gmi_J6_getChars_ba4f3 (fun o1 h1 => o1 = _ ∧ h1 = _) (F_J6_getChars_ba4f3 D p0 p1 p2) (fun t => t = z) 0 [some (.inl p0), some (.inl p1), some (.inr (.inr p2)), none, none, none, none] [] (h, D)) z hz rfl
  clear hz
  unfold F_J6_getChars_ba4f3
  refine gS rfl rfl ?_
  refine gS (lv' := [some (.inl p0), some (.inl p1), some (.inr (.inr p2)), none, none, some (.inl p1), none]) rfl rfl ?_
  refine gS rfl rfl ?_
  refine gJn 12 (fun (v2 : Int32) => [some (.inl p0), none, some (.inr (.inr p2)), none, none, some (.inl p1), none]) (fun (v2 : Int32) => [.inl v2]) (fun (v2 : Int32) => (h, D)) (fun v2 => ?_) (fun k1 hk1 => ?_)
  · refine gS (lv' := [some (.inl p0), none, some (.inr (.inr p2)), none, none, some (.inl p1), some (.inl v2)]) rfl rfl ?_
    refine gS rfl rfl ?_
    refine gJn 22 (fun (v4 : Int32) => [some (.inl v4), none, some (.inr (.inr p2)), none, none, some (.inl p1), some (.inl v2)]) (fun (v4 : Int32) => []) (fun (v4 : Int32) => (h, D)) (fun v4 => ?_) (fun k3 hk3 => ?_)
    · refine gL (pc := 22) (lv := fun (s5 : Int32 × Int32 × gDS) => [some (.inl s5.1), none, some (.inr (.inr p2)), none, none, some (.inl s5.2.1), some (.inl v2)]) (s := fun (s5 : Int32 × Int32 × gDS) => (h, s5.2.2)) (fun s5 => ?_) (v4, p1, D)
      refine gS rfl rfl ?_
      refine gS rfl rfl ?_
      refine gB rfl rfl ?_ ?_
      · refine gS rfl rfl ?_
        refine gS (lv' := [some (.inl s5.1), none, some (.inr (.inr p2)), none, none, some (.inl (s5.2.1 - (1 : Int32))), some (.inl v2)]) rfl rfl ?_
        refine gS rfl rfl ?_
        refine gS rfl rfl ?_
        refine gS rfl rfl ?_
        refine gS rfl rfl ?_
        refine gO rfl rfl (fun z6 => ?_)
        refine gO rfl rfl (fun D7 => ?_)
        refine gS rfl rfl ?_
        refine gS rfl rfl ?_
        refine gJn 104 (fun (v9 : Int32 × gDS) => [none, none, some (.inr (.inr p2)), none, none, some (.inl v9.1), some (.inl v2)]) (fun (v9 : Int32 × gDS) => []) (fun (v9 : Int32 × gDS) => (h, v9.2)) (fun v9 => ?_) (fun k8 hk8 => ?_)
        · refine gS rfl rfl ?_
          refine gB rfl rfl ?_ ?_
          · refine gS rfl rfl ?_
            exact gRt rfl rfl (fun hg => by cases hg; exact ⟨rfl, rfl⟩)
          · refine gS rfl rfl ?_
            refine gS (lv' := [none, none, some (.inr (.inr p2)), none, none, some (.inl (v9.1 - (1 : Int32))), some (.inl v2)]) rfl rfl ?_
            refine gS rfl rfl ?_
            refine gS rfl rfl ?_
            refine gO rfl rfl (fun D10 => ?_)
            refine gS rfl rfl ?_
            exact gRt rfl rfl (fun hg => by cases hg; exact ⟨rfl, rfl⟩)
        · refine gB rfl rfl ?_ ?_
          · refine gMk [false, true, true, true, true, true, true] (lv' := [none, none, some (.inr (.inr p2)), none, none, some (.inl (s5.2.1 - (1 : Int32))), some (.inl v2)]) rfl rfl ?_
            have h3 := hk8 ((s5.2.1 - (1 : Int32)), D7)
            exact h3
          · refine gS rfl rfl ?_
            refine gS (lv' := [some (.inl s5.1), none, some (.inr (.inr p2)), none, none, some (.inl ((s5.2.1 - (1 : Int32)) - (1 : Int32))), some (.inl v2)]) rfl rfl ?_
            refine gS rfl rfl ?_
            refine gS rfl rfl ?_
            refine gS rfl rfl ?_
            refine gS rfl rfl ?_
            refine gO rfl rfl (fun z11 => ?_)
            refine gO rfl rfl (fun D12 => ?_)
            refine gMk [false, true, true, true, true, true, true] (lv' := [none, none, some (.inr (.inr p2)), none, none, some (.inl ((s5.2.1 - (1 : Int32)) - (1 : Int32))), some (.inl v2)]) rfl rfl ?_
            have h3 := hk8 (((s5.2.1 - (1 : Int32)) - (1 : Int32)), D12)
            exact h3
      · refine gS rfl rfl ?_
        refine gS rfl rfl ?_
        refine gS rfl rfl ?_
        refine gS (lv' := [some (.inl s5.1), none, some (.inr (.inr p2)), some (.inl (s5.1 / (100 : Int32))), none, some (.inl s5.2.1), some (.inl v2)]) rfl rfl ?_
        refine gS rfl rfl ?_
        refine gS rfl rfl ?_
        refine gS rfl rfl ?_
        refine gS rfl rfl ?_
        refine gS rfl rfl ?_
        refine gS (lv' := [some (.inl s5.1), none, some (.inr (.inr p2)), some (.inl (s5.1 / (100 : Int32))), some (.inl (((s5.1 / (100 : Int32)) * (100 : Int32)) - s5.1)), some (.inl s5.2.1), some (.inl v2)]) rfl rfl ?_
        refine gS rfl rfl ?_
        refine gS (lv' := [some (.inl (s5.1 / (100 : Int32))), none, some (.inr (.inr p2)), some (.inl (s5.1 / (100 : Int32))), some (.inl (((s5.1 / (100 : Int32)) * (100 : Int32)) - s5.1)), some (.inl s5.2.1), some (.inl v2)]) rfl rfl ?_
        refine gS rfl rfl ?_
        refine gS (lv' := [some (.inl (s5.1 / (100 : Int32))), none, some (.inr (.inr p2)), some (.inl (s5.1 / (100 : Int32))), some (.inl (((s5.1 / (100 : Int32)) * (100 : Int32)) - s5.1)), some (.inl (s5.2.1 - (1 : Int32))), some (.inl v2)]) rfl rfl ?_
        refine gS rfl rfl ?_
        refine gS rfl rfl ?_
        refine gS rfl rfl ?_
        refine gO rfl rfl (fun z13 => ?_)
        refine gO rfl rfl (fun D14 => ?_)
        refine gS rfl rfl ?_
        refine gS (lv' := [some (.inl (s5.1 / (100 : Int32))), none, some (.inr (.inr p2)), some (.inl (s5.1 / (100 : Int32))), some (.inl (((s5.1 / (100 : Int32)) * (100 : Int32)) - s5.1)), some (.inl ((s5.2.1 - (1 : Int32)) - (1 : Int32))), some (.inl v2)]) rfl rfl ?_
        refine gS rfl rfl ?_
        refine gS rfl rfl ?_
        refine gS rfl rfl ?_
        refine gO rfl rfl (fun z15 => ?_)
        refine gO rfl rfl (fun D16 => ?_)
        refine gS rfl rfl ?_
        refine gMk [true, true, true, false, false, true, true] (lv' := [some (.inl (s5.1 / (100 : Int32))), none, some (.inr (.inr p2)), none, none, some (.inl ((s5.2.1 - (1 : Int32)) - (1 : Int32))), some (.inl v2)]) rfl rfl ?_
        exact gJ (fun h2 => h2)
    · refine gB rfl rfl ?_ ?_
      · have h3 := hk3 (p0)
        exact h3
      · refine gS rfl rfl ?_
        refine gS rfl rfl ?_
        refine gS (lv' := [some (.inl (-p0)), none, some (.inr (.inr p2)), none, none, some (.inl p1), some (.inl v2)]) rfl rfl ?_
        have h3 := hk3 ((-p0))
        exact h3
  · refine gB rfl rfl ?_ ?_
    · refine gS rfl rfl ?_
      refine gMk [true, false, true, true, true, true, true] (lv' := [some (.inl p0), none, some (.inr (.inr p2)), none, none, some (.inl p1), none]) rfl rfl ?_
      have h3 := hk1 ((0 : Int32))
      exact h3
    · refine gS rfl rfl ?_
      refine gS rfl rfl ?_
      refine gMk [true, false, true, true, true, true, true] (lv' := [some (.inl p0), none, some (.inr (.inr p2)), none, none, some (.inl p1), none]) rfl rfl ?_
      have h3 := hk1 ((1 : Int32))
      exact h3
noncomputable def F_J5_append_c97b9 (D : gDS) (o : gRF) (p0 : Int32) : Option (gRF × gDS) :=
 (gRv D o 12).bind fun _ =>
 (gFi D o 12 3).bind fun z1 =>
 (F_J6_stringSize_0f7a4 D p0).bind fun y2 =>
 (F_J5_ensureCapacityInternal_d00df D o (z1 + y2)).bind fun y3 =>
 (F_J5_isLatin1_aae02 y3 o).bind fun y4 =>
 if y4 = 0 then
  (gFr y3 o 12 0).bind fun r5 =>
  none
 else
  (gFr y3 o 12 0).bind fun r6 =>
  (F_J6_getChars_ba4f3 y3 p0 (z1 + y2) r6).bind fun y7 =>
  (gFst y7.2 o 12 3 (.inl (z1 + y2))).bind fun D8 =>
  some ((o, D8))
theorem rv_J5_append_c97b9 {D : gDS} {o : gRF} {p0 : Int32} {z} (hz : F_J5_append_c97b9 D o p0 = some z) : gRv D o 12 = some () := by
  unfold F_J5_append_c97b9 at hz
  exact rv_bind hz
set_option maxHeartbeats 4000000 in
set_option maxRecDepth 100000 in
theorem ok_J5_append_c97b9 (dX : Nat) (hX : 40 ≤ dX) (d : Nat) (hd : 4 ≤ d) (h : PH) (D : gDS) (o : gRF) (p0 : Int32) : ∀ z, F_J5_append_c97b9 D o p0 = some z → gEx dX d 13 [.inr (.inr o), .inl p0] (h, D) (some (.inr (.inr z.1))) (h, z.2) := by
  obtain ⟨d, rfl⟩ : ∃ e, d = e + 1 := ⟨d - 1, by omega⟩
  intro z hz
  refine ⟨rfl, ?_⟩
  refine (?_ : GSim (gEx dX d) (Ex dX) gmi_J5_append_c97b9 (fun o1 h1 => o1 = _ ∧ h1 = _) (F_J5_append_c97b9 D o p0) (fun t => t = z) 0 [some (.inr (.inr o)), some (.inl p0), none, none] [] (h, D)) z hz rfl
  clear hz
  unfold F_J5_append_c97b9
  refine gRc ?_
  refine gS rfl rfl ?_
  refine gO rfl rfl (fun z1 => ?_)
  refine gS (lv' := [some (.inr (.inr o)), some (.inl p0), some (.inl z1), none]) rfl rfl ?_
  refine gS rfl rfl ?_
  refine gS rfl rfl ?_
  refine gC (st' := fun y2 => [.inl y2, .inl z1]) rfl rfl (fun _ _ => rfl) rfl (ok_J6_stringSize_0f7a4 dX hX d (by omega) h D p0) (fun z => rfl) (fun y2 => ?_)
  refine gS rfl rfl ?_
  refine gS (lv' := [some (.inr (.inr o)), some (.inl p0), some (.inl z1), some (.inl (z1 + y2))]) rfl rfl ?_
  refine gS rfl rfl ?_
  refine gS rfl rfl ?_
  refine gC (st' := fun y3 => []) rfl rfl (fun _ hz => rv_recv (ci := 12) (by omega) (rv_J5_ensureCapacityInternal_d00df hz)) rfl (ok_J5_ensureCapacityInternal_d00df dX hX d (by omega) h D o (z1 + y2)) (fun z => rfl) (fun y3 => ?_)
  refine gS rfl rfl ?_
  refine gC (st' := fun y4 => [.inl y4]) rfl rfl (fun _ hz => rv_recv (ci := 12) (by omega) (rv_J5_isLatin1_aae02 hz)) rfl (ok_J5_isLatin1_aae02 dX hX d (by omega) h y3 o) (fun z => rfl) (fun y4 => ?_)
  refine gB rfl rfl ?_ ?_
  · refine gS rfl rfl ?_
    refine gS rfl rfl ?_
    refine gS rfl rfl ?_
    refine gS rfl rfl ?_
    refine gO rfl rfl (fun r5 => ?_)
    exact gNo
  · refine gS rfl rfl ?_
    refine gS rfl rfl ?_
    refine gS rfl rfl ?_
    refine gO rfl rfl (fun r6 => ?_)
    refine gC (st' := fun y7 => [.inl y7.1]) rfl rfl (fun _ _ => rfl) rfl (ok_J6_getChars_ba4f3 dX hX d (by omega) h y3 p0 (z1 + y2) r6) (fun z => rfl) (fun y7 => ?_)
    refine gS rfl rfl ?_
    refine gS rfl rfl ?_
    refine gS rfl rfl ?_
    refine gS rfl rfl ?_
    refine gO rfl rfl (fun D8 => ?_)
    refine gS rfl rfl ?_
    exact gRt rfl rfl (fun hg => by cases hg; exact ⟨rfl, rfl⟩)
noncomputable def F_J4_append_bf812 (D : gDS) (o : gRF) (p0 : Int32) : Option (gRF × gDS) :=
 (gRv D o 12).bind fun _ =>
 (F_J5_append_c97b9 D o p0).bind fun y1 =>
 some ((o, y1.2))
theorem rv_J4_append_bf812 {D : gDS} {o : gRF} {p0 : Int32} {z} (hz : F_J4_append_bf812 D o p0 = some z) : gRv D o 12 = some () := by
  unfold F_J4_append_bf812 at hz
  exact rv_bind hz
set_option maxHeartbeats 4000000 in
set_option maxRecDepth 100000 in
theorem ok_J4_append_bf812 (dX : Nat) (hX : 40 ≤ dX) (d : Nat) (hd : 5 ≤ d) (h : PH) (D : gDS) (o : gRF) (p0 : Int32) : ∀ z, F_J4_append_bf812 D o p0 = some z → gEx dX d 9 [.inr (.inr o), .inl p0] (h, D) (some (.inr (.inr z.1))) (h, z.2) := by
  obtain ⟨d, rfl⟩ : ∃ e, d = e + 1 := ⟨d - 1, by omega⟩
  intro z hz
  refine ⟨rfl, ?_⟩
  refine (?_ : GSim (gEx dX d) (Ex dX) gmi_J4_append_bf812 (fun o1 h1 => o1 = _ ∧ h1 = _) (F_J4_append_bf812 D o p0) (fun t => t = z) 0 [some (.inr (.inr o)), some (.inl p0)] [] (h, D)) z hz rfl
  clear hz
  unfold F_J4_append_bf812
  refine gRc ?_
  refine gS rfl rfl ?_
  refine gS rfl rfl ?_
  refine gC (st' := fun y1 => [.inr (.inr y1.1)]) rfl rfl (fun _ hz => rv_super (rv_J5_append_c97b9 hz)) rfl (ok_J5_append_c97b9 dX hX d (by omega) h D o p0) (fun z => rfl) (fun y1 => ?_)
  refine gS rfl rfl ?_
  refine gS rfl rfl ?_
  exact gRt rfl rfl (fun hg => by cases hg; exact ⟨rfl, rfl⟩)
noncomputable def F_J5_init_d00df (D : gDS) (o : gRF) (p0 : Int32) : Option gDS :=
 (o).bind fun q1 =>
 (gNwI D 2 p0).bind fun D2 =>
 (gFst D2 (some q1) 12 0 (.inr (.inr (gTop D)))).bind fun D3 =>
 (gFsN D3 (some q1) 12 1 (0 : Int32)).bind fun D4 =>
 some (D4)
set_option maxHeartbeats 4000000 in
set_option maxRecDepth 100000 in
theorem ok_J5_init_d00df (dX : Nat) (hX : 40 ≤ dX) (d : Nat) (hd : 1 ≤ d) (h : PH) (D : gDS) (o : gRF) (p0 : Int32) : ∀ z, F_J5_init_d00df D o p0 = some z → gEx dX d 18 [.inr (.inr o), .inl p0] (h, D) (none) (h, z) := by
  obtain ⟨d, rfl⟩ : ∃ e, d = e + 1 := ⟨d - 1, by omega⟩
  intro z hz
  refine ⟨rfl, ?_⟩
  refine (?_ : GSim (gEx dX d) (Ex dX) gmi_J5_init_d00df (fun o1 h1 => o1 = _ ∧ h1 = _) (F_J5_init_d00df D o p0) (fun t => t = z) 0 [some (.inr (.inr o)), some (.inl p0)] [] (h, D)) z hz rfl
  clear hz
  unfold F_J5_init_d00df
  refine gS rfl rfl ?_
  rcases o with _ | q1
  · exact gNb
  refine gSb ?_
  refine gS rfl rfl ?_
  refine gS rfl rfl ?_
  refine gS rfl rfl ?_
  refine gS rfl rfl ?_
  refine gS rfl rfl ?_
  refine gO rfl rfl (fun D2 => ?_)
  refine gO rfl rfl (fun D3 => ?_)
  refine gS rfl rfl ?_
  refine gS rfl rfl ?_
  refine gO rfl rfl (fun D4 => ?_)
  refine gS rfl rfl ?_
  exact gRt rfl rfl (fun hg => by cases hg; exact ⟨rfl, rfl⟩)
noncomputable def F_J4_init_da8c8 (D : gDS) (o : gRF) : Option gDS :=
 (F_J5_init_d00df D o (16 : Int32)).bind fun y1 =>
 some (y1)
set_option maxHeartbeats 4000000 in
set_option maxRecDepth 100000 in
theorem ok_J4_init_da8c8 (dX : Nat) (hX : 40 ≤ dX) (d : Nat) (hd : 2 ≤ d) (h : PH) (D : gDS) (o : gRF) : ∀ z, F_J4_init_da8c8 D o = some z → gEx dX d 10 [.inr (.inr o)] (h, D) (none) (h, z) := by
  obtain ⟨d, rfl⟩ : ∃ e, d = e + 1 := ⟨d - 1, by omega⟩
  intro z hz
  refine ⟨rfl, ?_⟩
  refine (?_ : GSim (gEx dX d) (Ex dX) gmi_J4_init_da8c8 (fun o1 h1 => o1 = _ ∧ h1 = _) (F_J4_init_da8c8 D o) (fun t => t = z) 0 [some (.inr (.inr o))] [] (h, D)) z hz rfl
  clear hz
  unfold F_J4_init_da8c8
  refine gS rfl rfl ?_
  refine gS rfl rfl ?_
  refine gC (st' := fun y1 => []) rfl rfl (fun _ _ => rfl) rfl (ok_J5_init_d00df dX hX d (by omega) h D o (16 : Int32)) (fun z => rfl) (fun y1 => ?_)
  exact gRt rfl rfl (fun hg => by cases hg; exact ⟨rfl, rfl⟩)
noncomputable def F_J4_toString_0e30d (D : gDS) (o : gRF) : Option (gRF × gDS) :=
 (gRv D o 12).bind fun _ =>
 (F_J0_init_81219 (gNwO D 11) (gTop D) o).bind fun y1 =>
 some (((gTop D), y1))
theorem rv_J4_toString_0e30d {D : gDS} {o : gRF} {z} (hz : F_J4_toString_0e30d D o = some z) : gRv D o 12 = some () := by
  unfold F_J4_toString_0e30d at hz
  exact rv_bind hz
set_option maxHeartbeats 4000000 in
set_option maxRecDepth 100000 in
theorem ok_J4_toString_0e30d (dX : Nat) (hX : 40 ≤ dX) (d : Nat) (hd : 6 ≤ d) (h : PH) (D : gDS) (o : gRF) : ∀ z, F_J4_toString_0e30d D o = some z → gEx dX d 12 [.inr (.inr o)] (h, D) (some (.inr (.inr z.1))) (h, z.2) := by
  obtain ⟨d, rfl⟩ : ∃ e, d = e + 1 := ⟨d - 1, by omega⟩
  intro z hz
  refine ⟨rfl, ?_⟩
  refine (?_ : GSim (gEx dX d) (Ex dX) gmi_J4_toString_0e30d (fun o1 h1 => o1 = _ ∧ h1 = _) (F_J4_toString_0e30d D o) (fun t => t = z) 0 [some (.inr (.inr o))] [] (h, D)) z hz rfl
  clear hz
  unfold F_J4_toString_0e30d
  refine gRc ?_
  refine gS rfl rfl ?_
  refine gS rfl rfl ?_
  refine gS rfl rfl ?_
  refine gC (st' := fun y1 => [.inr (.inr (gTop D))]) rfl rfl (fun _ _ => rfl) rfl (ok_J0_init_81219 dX hX d (by omega) h (gNwO D 11) (gTop D) o) (fun z => rfl) (fun y1 => ?_)
  exact gRt rfl rfl (fun hg => by cases hg; exact ⟨rfl, rfl⟩)
