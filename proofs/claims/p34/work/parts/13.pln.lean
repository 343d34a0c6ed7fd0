noncomputable def F_X4_isWaiting (h : PH) (p0 : Int32) : Option (Int32) :=
 if (F_X7_at 14 h 19 p0) ≤ 0 then
  some ((0 : Int32))
 else
  (F_X3_tourServing h p0).bind fun z1 =>
  if ¬ z1 = (-1 : Int32) then
   some ((0 : Int32))
  else
   some ((1 : Int32))
set_option maxHeartbeats 4000000 in
set_option maxRecDepth 100000 in
theorem ok_X4_isWaiting (d : Nat) (hd : 4 ≤ d) (h : PH) (p0 : Int32) : ∀ z, F_X4_isWaiting h p0 = some z → Ex d 28 [.ref 13, .int p0] h (.inl (some (.int z))) (h) := by
  obtain ⟨d, rfl⟩ : ∃ e, d = e + 1 := ⟨d - 1, by omega⟩
  intro z hz
  refine ⟨rfl, ?_⟩
  refine (?_ : Sim (Ex d) mi_X4_isWaiting (fun o1 h1 => o1 = _ ∧ h1 = _) (F_X4_isWaiting h p0) (fun t => t = z) 0 [some (.ref 13), some (.int p0)] [] h 0) z hz rfl
  unfold F_X4_isWaiting
  refine sS rfl rfl ?_
  refine sS rfl rfl ?_
  refine sS rfl rfl ?_
  refine sS rfl rfl ?_
  refine sT1 (c' := 0) rfl rfl rfl rfl rfl rfl (ok_X7_at d (by omega) 14 h 19 p0 rfl) ?_
  refine sB rfl rfl ?_ ?_
  · refine sS rfl rfl ?_
    exact sR rfl rfl (fun hg => by cases hg; exact ⟨rfl, rfl⟩)
  · refine sS rfl rfl ?_
    refine sS rfl rfl ?_
    refine sS rfl rfl ?_
    refine sC1 (c' := 0) rfl rfl rfl rfl rfl rfl (ok_X3_tourServing d (by omega) h p0) (fun z1 => ?_)
    refine sS rfl rfl ?_
    refine sB rfl rfl ?_ ?_
    · refine sS rfl rfl ?_
      exact sR rfl rfl (fun hg => by cases hg; exact ⟨rfl, rfl⟩)
    · refine sS rfl rfl ?_
      refine sS rfl rfl ?_
      exact sR rfl rfl (fun hg => by cases hg; exact ⟨rfl, rfl⟩)
noncomputable def F_X4_demandIn (h : PH) (p0 : Int32) : Option (Int32) :=
 loop (fun (s1 : Int32 × Int32) =>
  if (F_X7_at 4 h 28 p0) ≤ s1.2 then
   some (.inr (s1.1))
  else
   some (.inl ((s1.1 + (F_X7_at 14 h 19 ((F_X3_arcOrDepot h p0 s1.2) / (2 : Int32)))), (s1.2 + (1 : Int32))))) ((0 : Int32), (0 : Int32))
set_option maxHeartbeats 4000000 in
set_option maxRecDepth 100000 in
theorem ok_X4_demandIn (d : Nat) (hd : 3 ≤ d) (h : PH) (p0 : Int32) : ∀ z, F_X4_demandIn h p0 = some z → Ex d 29 [.ref 13, .int p0] h (.inl (some (.int z))) (h) := by
  obtain ⟨d, rfl⟩ : ∃ e, d = e + 1 := ⟨d - 1, by omega⟩
  intro z hz
  refine ⟨rfl, ?_⟩
  refine (?_ : Sim (Ex d) mi_X4_demandIn (fun o1 h1 => o1 = _ ∧ h1 = _) (F_X4_demandIn h p0) (fun t => t = z) 0 [some (.ref 13), some (.int p0), none, none, none] [] h 0) z hz rfl
  unfold F_X4_demandIn
  refine sS rfl rfl ?_
  refine sS rfl rfl ?_
  refine sS rfl rfl ?_
  refine sS rfl rfl ?_
  refine sT1 (c' := 0) rfl rfl rfl rfl rfl rfl (ok_X7_at d (by omega) 4 h 28 p0 rfl) ?_
  refine sS rfl rfl ?_
  refine sS rfl rfl ?_
  refine sS rfl rfl ?_
  refine sS rfl rfl ?_
  refine sS rfl rfl ?_
  refine sL (pc := 17) (lv := fun (s1 : Int32 × Int32) => [some (.ref 13), some (.int p0), some (.int ((F_X7_at 4 h 28 p0))), some (.int (s1.1)), some (.int (s1.2))]) (h := fun (s1 : Int32 × Int32) => h) (fun s1 => ?_) ((0 : Int32), (0 : Int32))
  refine sS rfl rfl ?_
  refine sS rfl rfl ?_
  refine sB rfl rfl ?_ ?_
  · refine sS rfl rfl ?_
    exact sR rfl rfl (fun hg => by cases hg; exact ⟨rfl, rfl⟩)
  · refine sS rfl rfl ?_
    refine sS rfl rfl ?_
    refine sS rfl rfl ?_
    refine sS rfl rfl ?_
    refine sS rfl rfl ?_
    refine sS rfl rfl ?_
    refine sS rfl rfl ?_
    refine sS rfl rfl ?_
    refine sT1 (c' := 0) rfl rfl rfl rfl rfl rfl (ok_X3_arcOrDepot d (by omega) h p0 s1.2) ?_
    refine sS rfl rfl ?_
    refine sS rfl rfl ?_
    refine sT1 (c' := 0) rfl rfl rfl rfl rfl rfl (ok_X7_at d (by omega) 14 h 19 ((F_X3_arcOrDepot h p0 s1.2) / (2 : Int32)) rfl) ?_
    refine sS rfl rfl ?_
    refine sS rfl rfl ?_
    refine sS rfl rfl ?_
    refine sS rfl rfl ?_
    exact sJ (fun h2 => by (try dsimp only at h2); exact h2)
noncomputable def F_X4_hasRoom (h : PH) (p0 : Int32) (p1 : Int32) : Option (Int32) :=
 (F_X4_demandIn h p0).bind fun z1 =>
 if (h.1 14 1) < (z1 + (F_X7_at 14 h 19 p1)) then
  some ((0 : Int32))
 else
  some ((1 : Int32))
set_option maxHeartbeats 4000000 in
set_option maxRecDepth 100000 in
theorem ok_X4_hasRoom (d : Nat) (hd : 4 ≤ d) (h : PH) (p0 : Int32) (p1 : Int32) : ∀ z, F_X4_hasRoom h p0 p1 = some z → Ex d 30 [.ref 13, .int p0, .int p1] h (.inl (some (.int z))) (h) := by
  obtain ⟨d, rfl⟩ : ∃ e, d = e + 1 := ⟨d - 1, by omega⟩
  intro z hz
  refine ⟨rfl, ?_⟩
  refine (?_ : Sim (Ex d) mi_X4_hasRoom (fun o1 h1 => o1 = _ ∧ h1 = _) (F_X4_hasRoom h p0 p1) (fun t => t = z) 0 [some (.ref 13), some (.int p0), some (.int p1)] [] h 0) z hz rfl
  unfold F_X4_hasRoom
  refine sS rfl rfl ?_
  refine sS rfl rfl ?_
  refine sC1 (c' := 0) rfl rfl rfl rfl rfl rfl (ok_X4_demandIn d (by omega) h p0) (fun z1 => ?_)
  refine sS rfl rfl ?_
  refine sS rfl rfl ?_
  refine sS rfl rfl ?_
  refine sS rfl rfl ?_
  refine sT1 (c' := 0) rfl rfl rfl rfl rfl rfl (ok_X7_at d (by omega) 14 h 19 p1 rfl) ?_
  refine sS rfl rfl ?_
  refine sS rfl rfl ?_
  refine sS rfl rfl ?_
  refine sS rfl rfl ?_
  refine sB rfl rfl ?_ ?_
  · refine sS rfl rfl ?_
    exact sR rfl rfl (fun hg => by cases hg; exact ⟨rfl, rfl⟩)
  · refine sS rfl rfl ?_
    refine sS rfl rfl ?_
    exact sR rfl rfl (fun hg => by cases hg; exact ⟨rfl, rfl⟩)
noncomputable def F_X4_link (h : PH) (p0 : Int32) (p1 : Int32) (p2 : Int32) : Int32 :=
 if ¬ p1 = (-1 : Int32) then
  if ¬ p2 = (-1 : Int32) then
   (F_X7_at 784 h 22 ((p1 * (28 : Int32)) + p2))
  else
   (F_X7_at 224 h 24 ((p1 * (8 : Int32)) + (F_X7_at 4 h 27 p0)))
 else
  if ¬ p2 = (-1 : Int32) then
   (F_X7_at 224 h 23 (((F_X7_at 4 h 27 p0) * (28 : Int32)) + p2))
  else
   (0 : Int32)
set_option maxHeartbeats 4000000 in
set_option maxRecDepth 100000 in
theorem ok_X4_link (d : Nat) (hd : 2 ≤ d) (h : PH) (p0 : Int32) (p1 : Int32) (p2 : Int32) : Ex d 31 [.ref 13, .int p0, .int p1, .int p2] h (.inl (some (.int (F_X4_link h p0 p1 p2)))) (h) := by
  obtain ⟨d, rfl⟩ : ∃ e, d = e + 1 := ⟨d - 1, by omega⟩
  suffices key : ∀ z, F_X4_link h p0 p1 p2 = z → Ex (d + 1) 31 [.ref 13, .int p0, .int p1, .int p2] h (.inl (some (.int z))) (h) from key _ rfl
  intro z hz
  refine ⟨rfl, ?_⟩
  refine (?_ : Sim (Ex d) mi_X4_link (fun o1 h1 => o1 = _ ∧ h1 = _) (some (F_X4_link h p0 p1 p2)) (fun t => t = z) 0 [some (.ref 13), some (.int p0), some (.int p1), some (.int p2), none] [] h 0) z (by rw [hz]) rfl
  clear hz
  unfold F_X4_link
  refine sS rfl rfl ?_
  refine sS rfl rfl ?_
  refine sS rfl rfl ?_
  refine sS rfl rfl ?_
  refine sT1 (c' := 0) rfl rfl rfl rfl rfl rfl (ok_X7_at d (by omega) 4 h 27 p0 rfl) ?_
  refine sS rfl rfl ?_
  refine sS rfl rfl ?_
  refine sS rfl rfl ?_
  refine sBt rfl rfl ?_ ?_
  · refine sS rfl rfl ?_
    refine sS rfl rfl ?_
    refine sBt rfl rfl ?_ ?_
    · refine sS rfl rfl ?_
      refine sS rfl rfl ?_
      refine sS rfl rfl ?_
      refine sS rfl rfl ?_
      refine sS rfl rfl ?_
      refine sS rfl rfl ?_
      refine sS rfl rfl ?_
      refine sS rfl rfl ?_
      refine sT1 (c' := 0) rfl rfl rfl rfl rfl rfl (ok_X7_at d (by omega) 784 h 22 ((p1 * (28 : Int32)) + p2) rfl) ?_
      exact sR rfl rfl (fun hg => by cases hg; exact ⟨rfl, rfl⟩)
    · refine sS rfl rfl ?_
      refine sS rfl rfl ?_
      refine sS rfl rfl ?_
      refine sS rfl rfl ?_
      refine sS rfl rfl ?_
      refine sS rfl rfl ?_
      refine sS rfl rfl ?_
      refine sS rfl rfl ?_
      refine sT1 (c' := 0) rfl rfl rfl rfl rfl rfl (ok_X7_at d (by omega) 224 h 24 ((p1 * (8 : Int32)) + (F_X7_at 4 h 27 p0)) rfl) ?_
      exact sR rfl rfl (fun hg => by cases hg; exact ⟨rfl, rfl⟩)
  · refine sS rfl rfl ?_
    refine sS rfl rfl ?_
    refine sBt rfl rfl ?_ ?_
    · refine sS rfl rfl ?_
      refine sS rfl rfl ?_
      refine sS rfl rfl ?_
      refine sS rfl rfl ?_
      refine sS rfl rfl ?_
      refine sS rfl rfl ?_
      refine sS rfl rfl ?_
      refine sS rfl rfl ?_
      refine sT1 (c' := 0) rfl rfl rfl rfl rfl rfl (ok_X7_at d (by omega) 224 h 23 (((F_X7_at 4 h 27 p0) * (28 : Int32)) + p2) rfl) ?_
      exact sR rfl rfl (fun hg => by cases hg; exact ⟨rfl, rfl⟩)
    · refine sS rfl rfl ?_
      refine sS rfl rfl ?_
      exact sR rfl rfl (fun hg => by cases hg; exact ⟨rfl, rfl⟩)
noncomputable def F_X4_costOf (h : PH) (p0 : Int32) : Option (Int32) :=
 loop (fun (s1 : Int32 × Int32 × Int32) =>
  if (F_X7_at 4 h 28 p0) ≤ s1.2.2 then
   some (.inr ((s1.1 + (F_X4_link h p0 s1.2.1 (-1 : Int32)))))
  else
   some (.inl ((s1.1 + ((F_X4_link h p0 s1.2.1 (F_X3_arcOrDepot h p0 s1.2.2)) + (F_X7_at 28 h 17 (F_X3_arcOrDepot h p0 s1.2.2)))), (F_X3_arcOrDepot h p0 s1.2.2), (s1.2.2 + (1 : Int32))))) ((0 : Int32), (-1 : Int32), (0 : Int32))
set_option maxHeartbeats 4000000 in
set_option maxRecDepth 100000 in
theorem ok_X4_costOf (d : Nat) (hd : 3 ≤ d) (h : PH) (p0 : Int32) : ∀ z, F_X4_costOf h p0 = some z → Ex d 32 [.ref 13, .int p0] h (.inl (some (.int z))) (h) := by
  obtain ⟨d, rfl⟩ : ∃ e, d = e + 1 := ⟨d - 1, by omega⟩
  intro z hz
  refine ⟨rfl, ?_⟩
  refine (?_ : Sim (Ex d) mi_X4_costOf (fun o1 h1 => o1 = _ ∧ h1 = _) (F_X4_costOf h p0) (fun t => t = z) 0 [some (.ref 13), some (.int p0), none, none, none, none, none] [] h 0) z hz rfl
  unfold F_X4_costOf
  refine sS rfl rfl ?_
  refine sS rfl rfl ?_
  refine sS rfl rfl ?_
  refine sS rfl rfl ?_
  refine sT1 (c' := 0) rfl rfl rfl rfl rfl rfl (ok_X7_at d (by omega) 4 h 28 p0 rfl) ?_
  refine sS rfl rfl ?_
  refine sS rfl rfl ?_
  refine sS rfl rfl ?_
  refine sS rfl rfl ?_
  refine sS rfl rfl ?_
  refine sS rfl rfl ?_
  refine sS rfl rfl ?_
  refine sL (pc := 20) (lv := fun (s1 : Int32 × Int32 × Int32) => [some (.ref 13), some (.int p0), some (.int ((F_X7_at 4 h 28 p0))), some (.int (s1.1)), some (.int (s1.2.1)), some (.int (s1.2.2)), none]) (h := fun (s1 : Int32 × Int32 × Int32) => h) (fun s1 => ?_) ((0 : Int32), (-1 : Int32), (0 : Int32))
  refine sS rfl rfl ?_
  refine sS rfl rfl ?_
  refine sB rfl rfl ?_ ?_
  · refine sS rfl rfl ?_
    refine sS rfl rfl ?_
    refine sS rfl rfl ?_
    refine sS rfl rfl ?_
    refine sS rfl rfl ?_
    refine sT1 (c' := 0) rfl rfl rfl rfl rfl rfl (ok_X4_link d (by omega) h p0 s1.2.1 (-1 : Int32)) ?_
    refine sS rfl rfl ?_
    exact sR rfl rfl (fun hg => by cases hg; exact ⟨rfl, rfl⟩)
  · refine sS rfl rfl ?_
    refine sS rfl rfl ?_
    refine sS rfl rfl ?_
    refine sS rfl rfl ?_
    refine sT1 (c' := 0) rfl rfl rfl rfl rfl rfl (ok_X3_arcOrDepot d (by omega) h p0 s1.2.2) ?_
    refine sS rfl rfl ?_
    refine sS rfl rfl ?_
    refine sS rfl rfl ?_
    refine sS rfl rfl ?_
    refine sS rfl rfl ?_
    refine sS rfl rfl ?_
    refine sT1 (c' := 0) rfl rfl rfl rfl rfl rfl (ok_X4_link d (by omega) h p0 s1.2.1 (F_X3_arcOrDepot h p0 s1.2.2)) ?_
    refine sS rfl rfl ?_
    refine sS rfl rfl ?_
    refine sS rfl rfl ?_
    refine sS rfl rfl ?_
    refine sT1 (c' := 0) rfl rfl rfl rfl rfl rfl (ok_X7_at d (by omega) 28 h 17 (F_X3_arcOrDepot h p0 s1.2.2) rfl) ?_
    refine sS rfl rfl ?_
    refine sS rfl rfl ?_
    refine sS rfl rfl ?_
    refine sS rfl rfl ?_
    refine sS rfl rfl ?_
    refine sS rfl rfl ?_
    refine sS rfl rfl ?_
    refine sM [true, true, true, true, true, true, false] rfl ?_
    exact sJ (fun h2 => by (try dsimp only at h2); exact h2)
noncomputable def F_X4_increaseBy (h : PH) (p0 : Int32) (p1 : Int32) (p2 : Int32) : Int32 :=
 if ((F_X4_link h p0 (F_X3_arcOrDepot h p0 (p1 - (1 : Int32))) p2) + (F_X4_link h p0 p2 (F_X3_arcOrDepot h p0 p1))) < (100000000 : Int32) then
  ((((F_X4_link h p0 (F_X3_arcOrDepot h p0 (p1 - (1 : Int32))) p2) + (F_X4_link h p0 p2 (F_X3_arcOrDepot h p0 p1))) + (F_X7_at 28 h 17 p2)) - (F_X4_link h p0 (F_X3_arcOrDepot h p0 (p1 - (1 : Int32))) (F_X3_arcOrDepot h p0 p1)))
 else
  (100000000 : Int32)
set_option maxHeartbeats 4000000 in
set_option maxRecDepth 100000 in
theorem ok_X4_increaseBy (d : Nat) (hd : 3 ≤ d) (h : PH) (p0 : Int32) (p1 : Int32) (p2 : Int32) : Ex d 33 [.ref 13, .int p0, .int p1, .int p2] h (.inl (some (.int (F_X4_increaseBy h p0 p1 p2)))) (h) := by
  obtain ⟨d, rfl⟩ : ∃ e, d = e + 1 := ⟨d - 1, by omega⟩
  suffices key : ∀ z, F_X4_increaseBy h p0 p1 p2 = z → Ex (d + 1) 33 [.ref 13, .int p0, .int p1, .int p2] h (.inl (some (.int z))) (h) from key _ rfl
  intro z hz
  refine ⟨rfl, ?_⟩
  refine (?_ : Sim (Ex d) mi_X4_increaseBy (fun o1 h1 => o1 = _ ∧ h1 = _) (some (F_X4_increaseBy h p0 p1 p2)) (fun t => t = z) 0 [some (.ref 13), some (.int p0), some (.int p1), some (.int p2), none, none, none] [] h 0) z (by rw [hz]) rfl
  clear hz
  unfold F_X4_increaseBy
  refine sS rfl rfl ?_
  refine sS rfl rfl ?_
  refine sS rfl rfl ?_
  refine sS rfl rfl ?_
  refine sS rfl rfl ?_
  refine sS rfl rfl ?_
  refine sT1 (c' := 0) rfl rfl rfl rfl rfl rfl (ok_X3_arcOrDepot d (by omega) h p0 (p1 - (1 : Int32))) ?_
  refine sS rfl rfl ?_
  refine sS rfl rfl ?_
  refine sS rfl rfl ?_
  refine sS rfl rfl ?_
  refine sS rfl rfl ?_
  refine sT1 (c' := 0) rfl rfl rfl rfl rfl rfl (ok_X3_arcOrDepot d (by omega) h p0 p1) ?_
  refine sS rfl rfl ?_
  refine sS rfl rfl ?_
  refine sS rfl rfl ?_
  refine sS rfl rfl ?_
  refine sS rfl rfl ?_
  refine sT1 (c' := 0) rfl rfl rfl rfl rfl rfl (ok_X4_link d (by omega) h p0 (F_X3_arcOrDepot h p0 (p1 - (1 : Int32))) p2) ?_
  refine sS rfl rfl ?_
  refine sS rfl rfl ?_
  refine sS rfl rfl ?_
  refine sS rfl rfl ?_
  refine sT1 (c' := 0) rfl rfl rfl rfl rfl rfl (ok_X4_link d (by omega) h p0 p2 (F_X3_arcOrDepot h p0 p1)) ?_
  refine sS rfl rfl ?_
  refine sS rfl rfl ?_
  refine sS rfl rfl ?_
  refine sS rfl rfl ?_
  refine sBt rfl rfl ?_ ?_
  · refine sS rfl rfl ?_
    refine sS rfl rfl ?_
    refine sS rfl rfl ?_
    refine sS rfl rfl ?_
    refine sS rfl rfl ?_
    refine sT1 (c' := 0) rfl rfl rfl rfl rfl rfl (ok_X7_at d (by omega) 28 h 17 p2 rfl) ?_
    refine sS rfl rfl ?_
    refine sS rfl rfl ?_
    refine sS rfl rfl ?_
    refine sS rfl rfl ?_
    refine sS rfl rfl ?_
    refine sT1 (c' := 0) rfl rfl rfl rfl rfl rfl (ok_X4_link d (by omega) h p0 (F_X3_arcOrDepot h p0 (p1 - (1 : Int32))) (F_X3_arcOrDepot h p0 p1)) ?_
    refine sS rfl rfl ?_
    exact sR rfl rfl (fun hg => by cases hg; exact ⟨rfl, rfl⟩)
  · refine sS rfl rfl ?_
    exact sR rfl rfl (fun hg => by cases hg; exact ⟨rfl, rfl⟩)
noncomputable def F_X4_canSpare (h : PH) (p0 : Int32) (p1 : Int32) : Int32 :=
 if (100000000 : Int32) ≤ (F_X4_link h p0 (F_X3_arcOrDepot h p0 (p1 - (1 : Int32))) (F_X3_arcOrDepot h p0 (p1 + (1 : Int32)))) then
  (0 : Int32)
 else
  (1 : Int32)
set_option maxHeartbeats 4000000 in
set_option maxRecDepth 100000 in
theorem ok_X4_canSpare (d : Nat) (hd : 3 ≤ d) (h : PH) (p0 : Int32) (p1 : Int32) : Ex d 34 [.ref 13, .int p0, .int p1] h (.inl (some (.int (F_X4_canSpare h p0 p1)))) (h) := by
  obtain ⟨d, rfl⟩ : ∃ e, d = e + 1 := ⟨d - 1, by omega⟩
  suffices key : ∀ z, F_X4_canSpare h p0 p1 = z → Ex (d + 1) 34 [.ref 13, .int p0, .int p1] h (.inl (some (.int z))) (h) from key _ rfl
  intro z hz
  refine ⟨rfl, ?_⟩
  refine (?_ : Sim (Ex d) mi_X4_canSpare (fun o1 h1 => o1 = _ ∧ h1 = _) (some (F_X4_canSpare h p0 p1)) (fun t => t = z) 0 [some (.ref 13), some (.int p0), some (.int p1), none, none] [] h 0) z (by rw [hz]) rfl
  clear hz
  unfold F_X4_canSpare
  refine sS rfl rfl ?_
  refine sS rfl rfl ?_
  refine sS rfl rfl ?_
  refine sS rfl rfl ?_
  refine sS rfl rfl ?_
  refine sS rfl rfl ?_
  refine sT1 (c' := 0) rfl rfl rfl rfl rfl rfl (ok_X3_arcOrDepot d (by omega) h p0 (p1 - (1 : Int32))) ?_
  refine sS rfl rfl ?_
  refine sS rfl rfl ?_
  refine sS rfl rfl ?_
  refine sS rfl rfl ?_
  refine sS rfl rfl ?_
  refine sS rfl rfl ?_
  refine sS rfl rfl ?_
  refine sT1 (c' := 0) rfl rfl rfl rfl rfl rfl (ok_X3_arcOrDepot d (by omega) h p0 (p1 + (1 : Int32))) ?_
  refine sS rfl rfl ?_
  refine sS rfl rfl ?_
  refine sS rfl rfl ?_
  refine sS rfl rfl ?_
  refine sS rfl rfl ?_
  refine sT1 (c' := 0) rfl rfl rfl rfl rfl rfl (ok_X4_link d (by omega) h p0 (F_X3_arcOrDepot h p0 (p1 - (1 : Int32))) (F_X3_arcOrDepot h p0 (p1 + (1 : Int32)))) ?_
  refine sS rfl rfl ?_
  refine sBt rfl rfl ?_ ?_
  · refine sS rfl rfl ?_
    exact sR rfl rfl (fun hg => by cases hg; exact ⟨rfl, rfl⟩)
  · refine sS rfl rfl ?_
    refine sS rfl rfl ?_
    exact sR rfl rfl (fun hg => by cases hg; exact ⟨rfl, rfl⟩)
noncomputable def F_X4_canTurn (h : PH) (p0 : Int32) (p1 : Int32) : Int32 :=
 if (100000000 : Int32) ≤ ((F_X4_link h p0 (F_X3_arcOrDepot h p0 (p1 - (1 : Int32))) ((F_X3_arcOrDepot h p0 p1) ^^^ (1 : Int32))) + (F_X4_link h p0 ((F_X3_arcOrDepot h p0 p1) ^^^ (1 : Int32)) (F_X3_arcOrDepot h p0 (p1 + (1 : Int32))))) then
  (0 : Int32)
 else
  (1 : Int32)
set_option maxHeartbeats 4000000 in
set_option maxRecDepth 100000 in
theorem ok_X4_canTurn (d : Nat) (hd : 3 ≤ d) (h : PH) (p0 : Int32) (p1 : Int32) : Ex d 35 [.ref 13, .int p0, .int p1] h (.inl (some (.int (F_X4_canTurn h p0 p1)))) (h) := by
  obtain ⟨d, rfl⟩ : ∃ e, d = e + 1 := ⟨d - 1, by omega⟩
  suffices key : ∀ z, F_X4_canTurn h p0 p1 = z → Ex (d + 1) 35 [.ref 13, .int p0, .int p1] h (.inl (some (.int z))) (h) from key _ rfl
  intro z hz
  refine ⟨rfl, ?_⟩
  refine (?_ : Sim (Ex d) mi_X4_canTurn (fun o1 h1 => o1 = _ ∧ h1 = _) (some (F_X4_canTurn h p0 p1)) (fun t => t = z) 0 [some (.ref 13), some (.int p0), some (.int p1), none, none, none] [] h 0) z (by rw [hz]) rfl
  clear hz
  unfold F_X4_canTurn
  refine sS rfl rfl ?_
  refine sS rfl rfl ?_
  refine sS rfl rfl ?_
  refine sS rfl rfl ?_
  refine sS rfl rfl ?_
  refine sS rfl rfl ?_
  refine sT1 (c' := 0) rfl rfl rfl rfl rfl rfl (ok_X3_arcOrDepot d (by omega) h p0 (p1 - (1 : Int32))) ?_
  refine sS rfl rfl ?_
  refine sS rfl rfl ?_
  refine sS rfl rfl ?_
  refine sS rfl rfl ?_
  refine sS rfl rfl ?_
  refine sS rfl rfl ?_
  refine sS rfl rfl ?_
  refine sT1 (c' := 0) rfl rfl rfl rfl rfl rfl (ok_X3_arcOrDepot d (by omega) h p0 (p1 + (1 : Int32))) ?_
  refine sS rfl rfl ?_
  refine sS rfl rfl ?_
  refine sS rfl rfl ?_
  refine sS rfl rfl ?_
  refine sS rfl rfl ?_
  refine sT1 (c' := 0) rfl rfl rfl rfl rfl rfl (ok_X3_arcOrDepot d (by omega) h p0 p1) ?_
  refine sS rfl rfl ?_
  refine sS rfl rfl ?_
  refine sS rfl rfl ?_
  refine sS rfl rfl ?_
  refine sS rfl rfl ?_
  refine sS rfl rfl ?_
  refine sS rfl rfl ?_
  refine sT1 (c' := 0) rfl rfl rfl rfl rfl rfl (ok_X4_link d (by omega) h p0 (F_X3_arcOrDepot h p0 (p1 - (1 : Int32))) ((F_X3_arcOrDepot h p0 p1) ^^^ (1 : Int32))) ?_
  refine sS rfl rfl ?_
  refine sS rfl rfl ?_
  refine sS rfl rfl ?_
  refine sS rfl rfl ?_
  refine sT1 (c' := 0) rfl rfl rfl rfl rfl rfl (ok_X4_link d (by omega) h p0 ((F_X3_arcOrDepot h p0 p1) ^^^ (1 : Int32)) (F_X3_arcOrDepot h p0 (p1 + (1 : Int32)))) ?_
  refine sS rfl rfl ?_
  refine sS rfl rfl ?_
  refine sBt rfl rfl ?_ ?_
  · refine sS rfl rfl ?_
    exact sR rfl rfl (fun hg => by cases hg; exact ⟨rfl, rfl⟩)
  · refine sS rfl rfl ?_
    refine sS rfl rfl ?_
    exact sR rfl rfl (fun hg => by cases hg; exact ⟨rfl, rfl⟩)
noncomputable def F_X4_bestPlace (h : PH) (p0 : Int32) : Option (Int32) :=
 loop (fun (s1 : Int32 × Int32 × Int32) =>
  if (h.1 26 0) ≤ s1.2.2 then
   some (.inr (s1.1))
  else
   (F_X4_hasRoom h s1.2.2 p0).bind fun z2 =>
   jn (fun (v4 : Int32) =>
    loop (fun (s5 : Int32 × Int32 × Int32) =>
     if v4 ≤ s5.2.2 then
      some (.inr (.inl (s5.1, s5.2.1, (s1.2.2 + (1 : Int32)))))
     else
      loop (fun (s6 : Int32 × Int32 × Int32) =>
       if (2 : Int32) ≤ s6.2.2 then
        some (.inr (.inl (s6.1, s6.2.1, (s5.2.2 + (1 : Int32)))))
       else
        if s6.2.1 ≤ (F_X4_increaseBy h s1.2.2 s5.2.2 (((2 : Int32) * p0) + s6.2.2)) then
         some (.inl (s6.1, s6.2.1, (s6.2.2 + (1 : Int32))))
        else
         some (.inl (((((1000 : Int32) * s1.2.2) + ((10 : Int32) * s5.2.2)) + s6.2.2), (F_X4_increaseBy h s1.2.2 s5.2.2 (((2 : Int32) * p0) + s6.2.2)), (s6.2.2 + (1 : Int32))))) (s5.1, s5.2.1, (0 : Int32))) (s1.1, s1.2.1, (0 : Int32))) (fun k3 =>
    if z2 = 0 then
     k3 ((0 : Int32))
    else
     k3 (((F_X7_at 4 h 28 s1.2.2) + (1 : Int32))))) ((-1 : Int32), (100000000 : Int32), (0 : Int32))
set_option maxHeartbeats 4000000 in
set_option maxRecDepth 100000 in
theorem ok_X4_bestPlace (d : Nat) (hd : 5 ≤ d) (h : PH) (p0 : Int32) : ∀ z, F_X4_bestPlace h p0 = some z → Ex d 36 [.ref 13, .int p0] h (.inl (some (.int z))) (h) := by
  obtain ⟨d, rfl⟩ : ∃ e, d = e + 1 := ⟨d - 1, by omega⟩
  intro z hz
  refine ⟨rfl, ?_⟩
  refine (?_ : Sim (Ex d) mi_X4_bestPlace (fun o1 h1 => o1 = _ ∧ h1 = _) (F_X4_bestPlace h p0) (fun t => t = z) 0 [some (.ref 13), some (.int p0), none, none, none, none, none, none, none] [] h 0) z hz rfl
  unfold F_X4_bestPlace
  refine sS rfl rfl ?_
  refine sS rfl rfl ?_
  refine sS rfl rfl ?_
  refine sS rfl rfl ?_
  refine sS rfl rfl ?_
  refine sS rfl rfl ?_
  refine sL (pc := 8) (lv := fun (s1 : Int32 × Int32 × Int32) => [some (.ref 13), some (.int p0), some (.int (s1.1)), some (.int (s1.2.1)), some (.int (s1.2.2)), none, none, none, none]) (h := fun (s1 : Int32 × Int32 × Int32) => h) (fun s1 => ?_) ((-1 : Int32), (100000000 : Int32), (0 : Int32))
  refine sS rfl rfl ?_
  refine sS rfl rfl ?_
  refine sS rfl rfl ?_
  refine sS rfl rfl ?_
  refine sB rfl rfl ?_ ?_
  · refine sS rfl rfl ?_
    exact sR rfl rfl (fun hg => by cases hg; exact ⟨rfl, rfl⟩)
  · refine sS rfl rfl ?_
    refine sS rfl rfl ?_
    refine sS rfl rfl ?_
    refine sC1 (c' := 0) rfl rfl rfl rfl rfl rfl (ok_X4_hasRoom d (by omega) h s1.2.2 p0) (fun z2 => ?_)
    refine sJn 48 (fun (v4 : Int32) => [some (.ref 13), some (.int p0), some (.int (s1.1)), some (.int (s1.2.1)), some (.int (s1.2.2)), none, none, none, none]) (fun (v4 : Int32) => [.int v4]) (fun (v4 : Int32) => h) (fun v4 => ?_) (fun k3 hk3 => ?_)
    · refine sS rfl rfl ?_
      refine sS rfl rfl ?_
      refine sS rfl rfl ?_
      refine sL (pc := 53) (lv := fun (s5 : Int32 × Int32 × Int32) => [some (.ref 13), some (.int p0), some (.int (s5.1)), some (.int (s5.2.1)), some (.int (s1.2.2)), some (.int v4), some (.int (s5.2.2)), none, none]) (h := fun (s5 : Int32 × Int32 × Int32) => h) (fun s5 => ?_) (s1.1, s1.2.1, (0 : Int32))
      refine sS rfl rfl ?_
      refine sS rfl rfl ?_
      refine sB rfl rfl ?_ ?_
      · refine sS rfl rfl ?_
        refine sS rfl rfl ?_
        refine sM [true, true, true, true, true, false, false, true, true] rfl ?_
        refine sUp ?_
        exact sJ (fun h2 => by (try dsimp only at h2); exact h2)
      · refine sS rfl rfl ?_
        refine sS rfl rfl ?_
        refine sL (pc := 63) (lv := fun (s6 : Int32 × Int32 × Int32) => [some (.ref 13), some (.int p0), some (.int (s6.1)), some (.int (s6.2.1)), some (.int (s1.2.2)), some (.int v4), some (.int (s5.2.2)), some (.int (s6.2.2)), none]) (h := fun (s6 : Int32 × Int32 × Int32) => h) (fun s6 => ?_) (s5.1, s5.2.1, (0 : Int32))
        refine sS rfl rfl ?_
        refine sS rfl rfl ?_
        refine sB rfl rfl ?_ ?_
        · refine sS rfl rfl ?_
          refine sS rfl rfl ?_
          refine sM [true, true, true, true, true, true, true, false, true] rfl ?_
          refine sUp ?_
          exact sJ (fun h2 => by (try dsimp only at h2); exact h2)
        · refine sS rfl rfl ?_
          refine sS rfl rfl ?_
          refine sS rfl rfl ?_
          refine sS rfl rfl ?_
          refine sS rfl rfl ?_
          refine sS rfl rfl ?_
          refine sS rfl rfl ?_
          refine sS rfl rfl ?_
          refine sT1 (c' := 0) rfl rfl rfl rfl rfl rfl (ok_X4_increaseBy d (by omega) h s1.2.2 s5.2.2 (((2 : Int32) * p0) + s6.2.2)) ?_
          refine sS rfl rfl ?_
          refine sS rfl rfl ?_
          refine sS rfl rfl ?_
          refine sB rfl rfl ?_ ?_
          · refine sS rfl rfl ?_
            refine sS rfl rfl ?_
            refine sM [true, true, true, true, true, true, true, true, false] rfl ?_
            exact sJ (fun h2 => by (try dsimp only at h2); exact h2)
          · refine sS rfl rfl ?_
            refine sS rfl rfl ?_
            refine sS rfl rfl ?_
            refine sS rfl rfl ?_
            refine sS rfl rfl ?_
            refine sS rfl rfl ?_
            refine sS rfl rfl ?_
            refine sS rfl rfl ?_
            refine sS rfl rfl ?_
            refine sS rfl rfl ?_
            refine sS rfl rfl ?_
            refine sS rfl rfl ?_
            refine sS rfl rfl ?_
            refine sS rfl rfl ?_
            refine sM [true, true, true, true, true, true, true, true, false] rfl ?_
            exact sJ (fun h2 => by (try dsimp only at h2); exact h2)
    · refine sB rfl rfl ?_ ?_
      · refine sS rfl rfl ?_
        have h3 := hk3 ((0 : Int32))
        try dsimp only at h3
        exact h3
      · refine sS rfl rfl ?_
        refine sS rfl rfl ?_
        refine sS rfl rfl ?_
        refine sS rfl rfl ?_
        refine sT1 (c' := 0) rfl rfl rfl rfl rfl rfl (ok_X7_at d (by omega) 4 h 28 s1.2.2 rfl) ?_
        refine sS rfl rfl ?_
        refine sS rfl rfl ?_
        refine sS rfl rfl ?_
        have h3 := hk3 (((F_X7_at 4 h 28 s1.2.2) + (1 : Int32)))
        try dsimp only at h3
        exact h3
noncomputable def F_X4_increaseAt (h : PH) (p0 : Int32) (p1 : Int32) : Int32 :=
 (F_X4_increaseBy h (p1 / (1000 : Int32)) ((p1 - p1 / (1000 : Int32) * (1000 : Int32)) / (10 : Int32)) (((2 : Int32) * p0) + (p1 - p1 / (10 : Int32) * (10 : Int32))))
set_option maxHeartbeats 4000000 in
set_option maxRecDepth 100000 in
theorem ok_X4_increaseAt (d : Nat) (hd : 4 ≤ d) (h : PH) (p0 : Int32) (p1 : Int32) : Ex d 37 [.ref 13, .int p0, .int p1] h (.inl (some (.int (F_X4_increaseAt h p0 p1)))) (h) := by
  obtain ⟨d, rfl⟩ : ∃ e, d = e + 1 := ⟨d - 1, by omega⟩
  suffices key : ∀ z, F_X4_increaseAt h p0 p1 = z → Ex (d + 1) 37 [.ref 13, .int p0, .int p1] h (.inl (some (.int z))) (h) from key _ rfl
  intro z hz
  refine ⟨rfl, ?_⟩
  refine (?_ : Sim (Ex d) mi_X4_increaseAt (fun o1 h1 => o1 = _ ∧ h1 = _) (some (F_X4_increaseAt h p0 p1)) (fun t => t = z) 0 [some (.ref 13), some (.int p0), some (.int p1)] [] h 0) z (by rw [hz]) rfl
  clear hz
  unfold F_X4_increaseAt
  refine sS rfl rfl ?_
  refine sS rfl rfl ?_
  refine sS rfl rfl ?_
  refine sS rfl rfl ?_
  refine sS rfl rfl ?_
  refine sS rfl rfl ?_
  refine sS rfl rfl ?_
  refine sS rfl rfl ?_
  refine sS rfl rfl ?_
  refine sS rfl rfl ?_
  refine sS rfl rfl ?_
  refine sS rfl rfl ?_
  refine sS rfl rfl ?_
  refine sS rfl rfl ?_
  refine sS rfl rfl ?_
  refine sS rfl rfl ?_
  refine sT1 (c' := 0) rfl rfl rfl rfl rfl rfl (ok_X4_increaseBy d (by omega) h (p1 / (1000 : Int32)) ((p1 - p1 / (1000 : Int32) * (1000 : Int32)) / (10 : Int32)) (((2 : Int32) * p0) + (p1 - p1 / (10 : Int32) * (10 : Int32)))) ?_
  exact sR rfl rfl (fun hg => by cases hg; exact ⟨rfl, rfl⟩)
noncomputable def F_X4_insertBest (h : PH) (p0 : Int32) : Option (Int32 × PH) :=
 (F_X4_bestPlace h p0).bind fun z1 =>
 if ¬ z1 = (-1 : Int32) then
  (F_X3_putIn h (z1 / (1000 : Int32)) ((z1 - z1 / (1000 : Int32) * (1000 : Int32)) / (10 : Int32)) (((2 : Int32) * p0) + (z1 - z1 / (10 : Int32) * (10 : Int32)))).bind fun h2 =>
  some (((1 : Int32), h2))
 else
  some (((0 : Int32), h))
set_option maxHeartbeats 4000000 in
set_option maxRecDepth 100000 in
theorem ok_X4_insertBest (d : Nat) (hd : 6 ≤ d) (h : PH) (p0 : Int32) : ∀ z, F_X4_insertBest h p0 = some z → Ex d 38 [.ref 13, .int p0] h (.inl (some (.int z.1))) (z.2) := by
  obtain ⟨d, rfl⟩ : ∃ e, d = e + 1 := ⟨d - 1, by omega⟩
  intro z hz
  refine ⟨rfl, ?_⟩
  refine (?_ : Sim (Ex d) mi_X4_insertBest (fun o1 h1 => o1 = _ ∧ h1 = _) (F_X4_insertBest h p0) (fun t => t = z) 0 [some (.ref 13), some (.int p0), none] [] h 0) z hz rfl
  unfold F_X4_insertBest
  refine sS rfl rfl ?_
  refine sS rfl rfl ?_
  refine sC1 (c' := 0) rfl rfl rfl rfl rfl rfl (ok_X4_bestPlace d (by omega) h p0) (fun z1 => ?_)
  refine sS rfl rfl ?_
  refine sS rfl rfl ?_
  refine sS rfl rfl ?_
  refine sB rfl rfl ?_ ?_
  · refine sS rfl rfl ?_
    refine sS rfl rfl ?_
    refine sS rfl rfl ?_
    refine sS rfl rfl ?_
    refine sS rfl rfl ?_
    refine sS rfl rfl ?_
    refine sS rfl rfl ?_
    refine sS rfl rfl ?_
    refine sS rfl rfl ?_
    refine sS rfl rfl ?_
    refine sS rfl rfl ?_
    refine sS rfl rfl ?_
    refine sS rfl rfl ?_
    refine sS rfl rfl ?_
    refine sS rfl rfl ?_
    refine sS rfl rfl ?_
    refine sS rfl rfl ?_
    refine sC0 (c' := 0) rfl rfl rfl rfl rfl rfl (ok_X3_putIn d (by omega) h (z1 / (1000 : Int32)) ((z1 - z1 / (1000 : Int32) * (1000 : Int32)) / (10 : Int32)) (((2 : Int32) * p0) + (z1 - z1 / (10 : Int32) * (10 : Int32)))) (fun h2 => ?_)
    refine sS rfl rfl ?_
    exact sR rfl rfl (fun hg => by cases hg; exact ⟨rfl, rfl⟩)
  · refine sS rfl rfl ?_
    exact sR rfl rfl (fun hg => by cases hg; exact ⟨rfl, rfl⟩)
noncomputable def F_X4_gainOf (h : PH) (p0 : Int32) : Option (Int32 × PH) :=
 (F_X3_tourServing h p0).bind fun z1 =>
 (F_X3_positionIn h z1 p0).bind fun z2 =>
 if z1 = (-1 : Int32) then
  some (((0 : Int32), h))
 else
  if ¬ (F_X4_canSpare h z1 z2) = 0 then
   (F_X3_takeOut h z1 z2).bind fun h3 =>
   (F_X4_bestPlace h3 p0).bind fun z4 =>
   jn (fun (v6 : Int32) =>
    (F_X3_putIn h3 z1 z2 (F_X3_arcOrDepot h z1 z2)).bind fun h7 =>
    some ((v6, h7))) (fun k5 =>
    if ¬ z4 = (-1 : Int32) then
     k5 (((F_X4_increaseBy h3 z1 z2 (F_X3_arcOrDepot h z1 z2)) - (F_X4_increaseAt h3 p0 z4)))
    else
     k5 ((0 : Int32)))
  else
   some (((0 : Int32), h))
set_option maxHeartbeats 4000000 in
set_option maxRecDepth 100000 in
theorem ok_X4_gainOf (d : Nat) (hd : 6 ≤ d) (h : PH) (p0 : Int32) : ∀ z, F_X4_gainOf h p0 = some z → Ex d 39 [.ref 13, .int p0] h (.inl (some (.int z.1))) (z.2) := by
  obtain ⟨d, rfl⟩ : ∃ e, d = e + 1 := ⟨d - 1, by omega⟩
  intro z hz
  refine ⟨rfl, ?_⟩
  refine (?_ : Sim (Ex d) mi_X4_gainOf (fun o1 h1 => o1 = _ ∧ h1 = _) (F_X4_gainOf h p0) (fun t => t = z) 0 [some (.ref 13), some (.int p0), none, none, none, none, none, none] [] h 0) z hz rfl
  unfold F_X4_gainOf
  refine sS rfl rfl ?_
  refine sS rfl rfl ?_
  refine sS rfl rfl ?_
  refine sC1 (c' := 0) rfl rfl rfl rfl rfl rfl (ok_X3_tourServing d (by omega) h p0) (fun z1 => ?_)
  refine sS rfl rfl ?_
  refine sS rfl rfl ?_
  refine sS rfl rfl ?_
  refine sS rfl rfl ?_
  refine sS rfl rfl ?_
  refine sC1 (c' := 0) rfl rfl rfl rfl rfl rfl (ok_X3_positionIn d (by omega) h z1 p0) (fun z2 => ?_)
  refine sS rfl rfl ?_
  refine sS rfl rfl ?_
  refine sS rfl rfl ?_
  refine sB rfl rfl ?_ ?_
  · refine sS rfl rfl ?_
    exact sR rfl rfl (fun hg => by cases hg; exact ⟨rfl, rfl⟩)
  · refine sS rfl rfl ?_
    refine sS rfl rfl ?_
    refine sS rfl rfl ?_
    refine sT1 (c' := 0) rfl rfl rfl rfl rfl rfl (ok_X4_canSpare d (by omega) h z1 z2) ?_
    refine sB rfl rfl ?_ ?_
    · refine sS rfl rfl ?_
      refine sS rfl rfl ?_
      refine sS rfl rfl ?_
      refine sS rfl rfl ?_
      refine sT1 (c' := 0) rfl rfl rfl rfl rfl rfl (ok_X3_arcOrDepot d (by omega) h z1 z2) ?_
      refine sS rfl rfl ?_
      refine sS rfl rfl ?_
      refine sS rfl rfl ?_
      refine sS rfl rfl ?_
      refine sS rfl rfl ?_
      refine sC0 (c' := 0) rfl rfl rfl rfl rfl rfl (ok_X3_takeOut d (by omega) h z1 z2) (fun h3 => ?_)
      refine sS rfl rfl ?_
      refine sS rfl rfl ?_
      refine sS rfl rfl ?_
      refine sS rfl rfl ?_
      refine sT1 (c' := 0) rfl rfl rfl rfl rfl rfl (ok_X4_increaseBy d (by omega) h3 z1 z2 (F_X3_arcOrDepot h z1 z2)) ?_
      refine sS rfl rfl ?_
      refine sS rfl rfl ?_
      refine sS rfl rfl ?_
      refine sC1 (c' := 0) rfl rfl rfl rfl rfl rfl (ok_X4_bestPlace d (by omega) h3 p0) (fun z4 => ?_)
      refine sS rfl rfl ?_
      refine sS rfl rfl ?_
      refine sS rfl rfl ?_
      refine sJn 92 (fun (v6 : Int32) => [some (.ref 13), none, some (.int z1), some (.int z2), some (.int ((F_X3_arcOrDepot h z1 z2))), none, none, none]) (fun (v6 : Int32) => [.int v6]) (fun (v6 : Int32) => h3) (fun v6 => ?_) (fun k5 hk5 => ?_)
      · refine sS rfl rfl ?_
        refine sS rfl rfl ?_
        refine sS rfl rfl ?_
        refine sS rfl rfl ?_
        refine sS rfl rfl ?_
        refine sS rfl rfl ?_
        refine sC0 (c' := 0) rfl rfl rfl rfl rfl rfl (ok_X3_putIn d (by omega) h3 z1 z2 (F_X3_arcOrDepot h z1 z2)) (fun h7 => ?_)
        refine sS rfl rfl ?_
        exact sR rfl rfl (fun hg => by cases hg; exact ⟨rfl, rfl⟩)
      · refine sB rfl rfl ?_ ?_
        · refine sS rfl rfl ?_
          refine sS rfl rfl ?_
          refine sS rfl rfl ?_
          refine sS rfl rfl ?_
          refine sT1 (c' := 0) rfl rfl rfl rfl rfl rfl (ok_X4_increaseAt d (by omega) h3 p0 z4) ?_
          refine sS rfl rfl ?_
          refine sM [true, false, true, true, true, false, false, true] rfl ?_
          have h3 := hk5 (((F_X4_increaseBy h3 z1 z2 (F_X3_arcOrDepot h z1 z2)) - (F_X4_increaseAt h3 p0 z4)))
          try dsimp only at h3
          exact h3
        · refine sS rfl rfl ?_
          refine sS rfl rfl ?_
          refine sM [true, false, true, true, true, false, false, true] rfl ?_
          have h3 := hk5 ((0 : Int32))
          try dsimp only at h3
          exact h3
    · refine sS rfl rfl ?_
      exact sR rfl rfl (fun hg => by cases hg; exact ⟨rfl, rfl⟩)
noncomputable def F_X4_makeBestChange (h : PH) : Option (Int32 × PH) :=
 loop (fun (s1 : Int32 × Int32 × Int32 × PH) =>
  if (s1.2.2.2.1 14 2) ≤ s1.2.2.1 then
   if s1.1 = (-1 : Int32) then
    some (.inr ((s1.2.1, s1.2.2.2)))
   else
    (F_X3_tourServing s1.2.2.2 s1.1).bind fun z2 =>
    (F_X3_positionIn s1.2.2.2 z2 s1.1).bind fun z3 =>
    (F_X3_takeOut s1.2.2.2 z2 z3).bind fun h4 =>
    (F_X4_insertBest h4 s1.1).bind fun z5 =>
    some (.inr ((s1.2.1, z5.2)))
  else
   (F_X4_gainOf s1.2.2.2 s1.2.2.1).bind fun z6 =>
   if z6.1 ≤ s1.2.1 then
    some (.inl (s1.1, s1.2.1, (s1.2.2.1 + (1 : Int32)), z6.2))
   else
    some (.inl (s1.2.2.1, z6.1, (s1.2.2.1 + (1 : Int32)), z6.2))) ((-1 : Int32), (0 : Int32), (0 : Int32), h)
set_option maxHeartbeats 4000000 in
set_option maxRecDepth 100000 in
theorem ok_X4_makeBestChange (d : Nat) (hd : 7 ≤ d) (h : PH) : ∀ z, F_X4_makeBestChange h = some z → Ex d 40 [.ref 13] h (.inl (some (.int z.1))) (z.2) := by
  obtain ⟨d, rfl⟩ : ∃ e, d = e + 1 := ⟨d - 1, by omega⟩
  intro z hz
  refine ⟨rfl, ?_⟩
  refine (?_ : Sim (Ex d) mi_X4_makeBestChange (fun o1 h1 => o1 = _ ∧ h1 = _) (F_X4_makeBestChange h) (fun t => t = z) 0 [some (.ref 13), none, none, none, none] [] h 0) z hz rfl
  unfold F_X4_makeBestChange
  refine sS rfl rfl ?_
  refine sS rfl rfl ?_
  refine sS rfl rfl ?_
  refine sS rfl rfl ?_
  refine sS rfl rfl ?_
  refine sS rfl rfl ?_
  refine sL (pc := 6) (lv := fun (s1 : Int32 × Int32 × Int32 × PH) => [some (.ref 13), some (.int (s1.1)), some (.int (s1.2.1)), some (.int (s1.2.2.1)), none]) (h := fun (s1 : Int32 × Int32 × Int32 × PH) => s1.2.2.2) (fun s1 => ?_) ((-1 : Int32), (0 : Int32), (0 : Int32), h)
  refine sS rfl rfl ?_
  refine sS rfl rfl ?_
  refine sS rfl rfl ?_
  refine sS rfl rfl ?_
  refine sB rfl rfl ?_ ?_
  · refine sS rfl rfl ?_
    refine sS rfl rfl ?_
    refine sB rfl rfl ?_ ?_
    · refine sS rfl rfl ?_
      exact sR rfl rfl (fun hg => by cases hg; exact ⟨rfl, rfl⟩)
    · refine sS rfl rfl ?_
      refine sS rfl rfl ?_
      refine sS rfl rfl ?_
      refine sC1 (c' := 0) rfl rfl rfl rfl rfl rfl (ok_X3_tourServing d (by omega) s1.2.2.2 s1.1) (fun z2 => ?_)
      refine sS rfl rfl ?_
      refine sS rfl rfl ?_
      refine sS rfl rfl ?_
      refine sS rfl rfl ?_
      refine sS rfl rfl ?_
      refine sS rfl rfl ?_
      refine sS rfl rfl ?_
      refine sS rfl rfl ?_
      refine sC1 (c' := 0) rfl rfl rfl rfl rfl rfl (ok_X3_positionIn d (by omega) s1.2.2.2 z2 s1.1) (fun z3 => ?_)
      refine sC0 (c' := 0) rfl rfl rfl rfl rfl rfl (ok_X3_takeOut d (by omega) s1.2.2.2 z2 z3) (fun h4 => ?_)
      refine sS rfl rfl ?_
      refine sS rfl rfl ?_
      refine sC1 (c' := 0) rfl rfl rfl rfl rfl rfl (ok_X4_insertBest d (by omega) h4 s1.1) (fun z5 => ?_)
      refine sS rfl rfl ?_
      refine sS rfl rfl ?_
      exact sR rfl rfl (fun hg => by cases hg; exact ⟨rfl, rfl⟩)
  · refine sS rfl rfl ?_
    refine sS rfl rfl ?_
    refine sC1 (c' := 0) rfl rfl rfl rfl rfl rfl (ok_X4_gainOf d (by omega) s1.2.2.2 s1.2.2.1) (fun z6 => ?_)
    refine sS rfl rfl ?_
    refine sS rfl rfl ?_
    refine sS rfl rfl ?_
    refine sB rfl rfl ?_ ?_
    · refine sS rfl rfl ?_
      refine sS rfl rfl ?_
      refine sM [true, true, true, true, false] rfl ?_
      exact sJ (fun h2 => by (try dsimp only at h2); exact h2)
    · refine sS rfl rfl ?_
      refine sS rfl rfl ?_
      refine sS rfl rfl ?_
      refine sS rfl rfl ?_
      refine sS rfl rfl ?_
      refine sS rfl rfl ?_
      refine sM [true, true, true, true, false] rfl ?_
      exact sJ (fun h2 => by (try dsimp only at h2); exact h2)
