noncomputable def F_X1_isReady (h : PH) (p0 : Int32) : Option (Int32) :=
 if p0 < 0 then
  some ((0 : Int32))
 else
  if (Int32.ofNat 8) ≤ p0 then
   some ((0 : Int32))
  else
   if (Int32.ofNat 8) ≤ p0 then
    some ((0 : Int32))
   else
    if (Int32.ofNat 8) ≤ p0 then
     some ((0 : Int32))
    else
     (aidx 8 p0).bind fun j1 =>
     (aidx 8 p0).bind fun j2 =>
     some ((1 : Int32))
set_option maxHeartbeats 4000000 in
set_option maxRecDepth 100000 in
theorem ok_X1_isReady (d : Nat) (hd : 1 ≤ d) (h : PH) (p0 : Int32) : ∀ z, F_X1_isReady h p0 = some z → Ex d 5 [.ref 30, .int p0] h (.inl (some (.int z))) (h) := by
  obtain ⟨d, rfl⟩ : ∃ e, d = e + 1 := ⟨d - 1, by omega⟩
  intro z hz
  refine ⟨rfl, ?_⟩
  refine (?_ : Sim (Ex d) mi_X1_isReady (fun o1 h1 => o1 = _ ∧ h1 = _) (F_X1_isReady h p0) (fun t => t = z) 0 [some (.ref 30), some (.int p0)] [] h 0) z hz rfl
  unfold F_X1_isReady
  refine sS rfl rfl ?_
  refine sB rfl rfl ?_ ?_
  · refine sS rfl rfl ?_
    exact sR rfl rfl (fun hg => by cases hg; exact ⟨rfl, rfl⟩)
  · refine sS rfl rfl ?_
    refine sS rfl rfl ?_
    refine sS rfl rfl ?_
    refine sS rfl rfl ?_
    refine sB rfl rfl ?_ ?_
    · refine sS rfl rfl ?_
      exact sR rfl rfl (fun hg => by cases hg; exact ⟨rfl, rfl⟩)
    · refine sS rfl rfl ?_
      refine sS rfl rfl ?_
      refine sS rfl rfl ?_
      refine sS rfl rfl ?_
      refine sB rfl rfl ?_ ?_
      · refine sS rfl rfl ?_
        exact sR rfl rfl (fun hg => by cases hg; exact ⟨rfl, rfl⟩)
      · refine sS rfl rfl ?_
        refine sS rfl rfl ?_
        refine sS rfl rfl ?_
        refine sS rfl rfl ?_
        refine sB rfl rfl ?_ ?_
        · refine sS rfl rfl ?_
          exact sR rfl rfl (fun hg => by cases hg; exact ⟨rfl, rfl⟩)
        · refine sS rfl rfl ?_
          refine sS rfl rfl ?_
          refine sS rfl rfl ?_
          refine sRald rfl rfl (fun j1 hj1 => ?_)
          refine sS rfl rfl ?_
          refine sS rfl rfl ?_
          refine sS rfl rfl ?_
          refine sS rfl rfl ?_
          refine sRald rfl rfl (fun j2 hj2 => ?_)
          refine sS rfl rfl ?_
          refine sS rfl rfl ?_
          refine sS rfl rfl ?_
          exact sR rfl rfl (fun hg => by cases hg; exact ⟨rfl, rfl⟩)
noncomputable def F_X1_remember (h : PH) (p0 : Int32) : Option (PH) :=
 (F_X1_isReady h (h.1 30 4)).bind fun z1 =>
 if ¬ z1 = 0 then
  (ast 8 h 33 (h.1 30 4) (vp_nar .boolean p0)).bind fun h2 =>
  jn (fun (v4 : PH) =>
   (aidx 8 (v4.1 30 4)).bind fun j5 =>
   some ((pu (pu (F_X3_copyFrom v4 (90 + 4 * j5) 26) 30 4 ((((F_X3_copyFrom v4 (90 + 4 * j5) 26).1 30 4) + (1 : Int32)) - (((F_X3_copyFrom v4 (90 + 4 * j5) 26).1 30 4) + (1 : Int32)) / (8 : Int32) * (8 : Int32))) 30 3 (if (8 : Int32) < (((pu (F_X3_copyFrom v4 (90 + 4 * j5) 26) 30 4 ((((F_X3_copyFrom v4 (90 + 4 * j5) 26).1 30 4) + (1 : Int32)) - (((F_X3_copyFrom v4 (90 + 4 * j5) 26).1 30 4) + (1 : Int32)) / (8 : Int32) * (8 : Int32))).1 30 3) + (1 : Int32)) then (8 : Int32) else (((pu (F_X3_copyFrom v4 (90 + 4 * j5) 26) 30 4 ((((F_X3_copyFrom v4 (90 + 4 * j5) 26).1 30 4) + (1 : Int32)) - (((F_X3_copyFrom v4 (90 + 4 * j5) 26).1 30 4) + (1 : Int32)) / (8 : Int32) * (8 : Int32))).1 30 3) + (1 : Int32)))))) (fun k3 =>
   if p0 = 0 then
    k3 h2
   else
    (aidx 8 (h2.1 30 4)).bind fun j6 =>
    k3 ((F_X2_copyFrom h2 (34 + 7 * j6) 14)))
 else
  some (h)
set_option maxHeartbeats 4000000 in
set_option maxRecDepth 100000 in
theorem ok_X1_remember (d : Nat) (hd : 3 ≤ d) (h : PH) (p0 : Int32) : ∀ z, F_X1_remember h p0 = some z → Ex d 6 [.ref 30, .ref 14, .ref 26, .int p0] h (.inl (none)) (z) := by
  obtain ⟨d, rfl⟩ : ∃ e, d = e + 1 := ⟨d - 1, by omega⟩
  intro z hz
  refine ⟨rfl, ?_⟩
  refine (?_ : Sim (Ex d) mi_X1_remember (fun o1 h1 => o1 = _ ∧ h1 = _) (F_X1_remember h p0) (fun t => t = z) 0 [some (.ref 30), some (.ref 14), some (.ref 26), some (.int p0)] [] h 0) z hz rfl
  unfold F_X1_remember
  refine sS rfl rfl ?_
  refine sS rfl rfl ?_
  refine sS rfl rfl ?_
  refine sC1 (c' := 0) rfl rfl rfl rfl rfl rfl (ok_X1_isReady d (by omega) h (h.1 30 4)) (fun z1 => ?_)
  refine sB rfl rfl ?_ ?_
  · refine sS rfl rfl ?_
    refine sS rfl rfl ?_
    refine sS rfl rfl ?_
    refine sS rfl rfl ?_
    refine sS rfl rfl ?_
    refine sZast rfl rfl (fun h2 => ?_)
    refine sS rfl rfl ?_
    refine sJn 39 (fun (v4 : PH) => [some (.ref 30), none, some (.ref 26), none]) (fun (v4 : PH) => []) (fun (v4 : PH) => v4) (fun v4 => ?_) (fun k3 hk3 => ?_)
    · refine sS rfl rfl ?_
      refine sS rfl rfl ?_
      refine sS rfl rfl ?_
      refine sS rfl rfl ?_
      refine sRald rfl rfl (fun j5 hj5 => ?_)
      refine sS rfl rfl ?_
      refine sT0 (c' := 0) rfl rfl (pm_recv (isPlan_h hj5).1) rfl rfl rfl (ok_X3_copyFrom d (by omega) v4 (90 + 4 * j5) (isPlan_h hj5) 26 isPlan_p (by omega)) ?_
      refine sS rfl rfl ?_
      refine sS rfl rfl ?_
      refine sS rfl rfl ?_
      refine sS rfl rfl ?_
      refine sS rfl rfl ?_
      refine sS rfl rfl ?_
      refine sS rfl rfl ?_
      refine sS rfl rfl ?_
      refine sS rfl rfl ?_
      refine sS rfl rfl ?_
      refine sS rfl rfl ?_
      refine sS rfl rfl ?_
      refine sS rfl rfl ?_
      refine sS rfl rfl ?_
      refine sS rfl rfl ?_
      refine sS rfl rfl ?_
      exact sR rfl rfl (fun hg => by cases hg; exact ⟨rfl, rfl⟩)
    · refine sB rfl rfl ?_ ?_
      · refine sM [true, false, true, false] rfl ?_
        have h3 := hk3 (h2)
        try dsimp only at h3
        exact h3
      · refine sS rfl rfl ?_
        refine sS rfl rfl ?_
        refine sS rfl rfl ?_
        refine sS rfl rfl ?_
        refine sRald rfl rfl (fun j6 hj6 => ?_)
        refine sS rfl rfl ?_
        refine sT0 (c' := 0) rfl rfl (pm_recv (isNet_h hj6).1) rfl rfl rfl (ok_X2_copyFrom d (by omega) h2 (34 + 7 * j6) (isNet_h hj6) 14 isNet_p (by omega)) ?_
        refine sM [true, false, true, false] rfl ?_
        have h3 := hk3 ((F_X2_copyFrom h2 (34 + 7 * j6) 14))
        try dsimp only at h3
        exact h3
  · exact sR rfl rfl (fun hg => by cases hg; exact ⟨rfl, rfl⟩)
noncomputable def F_X1_restore (h : PH) : Option (Int32 × PH) :=
 if (h.1 30 3) ≤ 0 then
  some (((0 : Int32), h))
 else
  (F_X1_isReady h ((((h.1 30 4) + (8 : Int32)) - (1 : Int32)) - (((h.1 30 4) + (8 : Int32)) - (1 : Int32)) / (8 : Int32) * (8 : Int32))).bind fun z1 =>
  if ¬ z1 = 0 then
   (aidx 8 ((((h.1 30 4) + (8 : Int32)) - (1 : Int32)) - (((h.1 30 4) + (8 : Int32)) - (1 : Int32)) / (8 : Int32) * (8 : Int32))).bind fun j2 =>
   (ald 8 (F_X3_copyFrom (pu (pu h 30 4 ((((h.1 30 4) + (8 : Int32)) - (1 : Int32)) - (((h.1 30 4) + (8 : Int32)) - (1 : Int32)) / (8 : Int32) * (8 : Int32))) 30 3 (((pu h 30 4 ((((h.1 30 4) + (8 : Int32)) - (1 : Int32)) - (((h.1 30 4) + (8 : Int32)) - (1 : Int32)) / (8 : Int32) * (8 : Int32))).1 30 3) - (1 : Int32))) 26 (90 + 4 * j2)) 33 ((((h.1 30 4) + (8 : Int32)) - (1 : Int32)) - (((h.1 30 4) + (8 : Int32)) - (1 : Int32)) / (8 : Int32) * (8 : Int32))).bind fun z3 =>
   if z3 = 0 then
    (ald 8 (F_X3_copyFrom (pu (pu h 30 4 ((((h.1 30 4) + (8 : Int32)) - (1 : Int32)) - (((h.1 30 4) + (8 : Int32)) - (1 : Int32)) / (8 : Int32) * (8 : Int32))) 30 3 (((pu h 30 4 ((((h.1 30 4) + (8 : Int32)) - (1 : Int32)) - (((h.1 30 4) + (8 : Int32)) - (1 : Int32)) / (8 : Int32) * (8 : Int32))).1 30 3) - (1 : Int32))) 26 (90 + 4 * j2)) 33 ((((h.1 30 4) + (8 : Int32)) - (1 : Int32)) - (((h.1 30 4) + (8 : Int32)) - (1 : Int32)) / (8 : Int32) * (8 : Int32))).bind fun z4 =>
    (zbo z4).bind fun z5 => some ((z5, (F_X3_copyFrom (pu (pu h 30 4 ((((h.1 30 4) + (8 : Int32)) - (1 : Int32)) - (((h.1 30 4) + (8 : Int32)) - (1 : Int32)) / (8 : Int32) * (8 : Int32))) 30 3 (((pu h 30 4 ((((h.1 30 4) + (8 : Int32)) - (1 : Int32)) - (((h.1 30 4) + (8 : Int32)) - (1 : Int32)) / (8 : Int32) * (8 : Int32))).1 30 3) - (1 : Int32))) 26 (90 + 4 * j2))))
   else
    (aidx 8 ((((h.1 30 4) + (8 : Int32)) - (1 : Int32)) - (((h.1 30 4) + (8 : Int32)) - (1 : Int32)) / (8 : Int32) * (8 : Int32))).bind fun j6 =>
    (ald 8 (F_X2_copyFrom (F_X3_copyFrom (pu (pu h 30 4 ((((h.1 30 4) + (8 : Int32)) - (1 : Int32)) - (((h.1 30 4) + (8 : Int32)) - (1 : Int32)) / (8 : Int32) * (8 : Int32))) 30 3 (((pu h 30 4 ((((h.1 30 4) + (8 : Int32)) - (1 : Int32)) - (((h.1 30 4) + (8 : Int32)) - (1 : Int32)) / (8 : Int32) * (8 : Int32))).1 30 3) - (1 : Int32))) 26 (90 + 4 * j2)) 14 (34 + 7 * j6)) 33 ((((h.1 30 4) + (8 : Int32)) - (1 : Int32)) - (((h.1 30 4) + (8 : Int32)) - (1 : Int32)) / (8 : Int32) * (8 : Int32))).bind fun z7 =>
    (zbo z7).bind fun z8 => some ((z8, (F_X2_copyFrom (F_X3_copyFrom (pu (pu h 30 4 ((((h.1 30 4) + (8 : Int32)) - (1 : Int32)) - (((h.1 30 4) + (8 : Int32)) - (1 : Int32)) / (8 : Int32) * (8 : Int32))) 30 3 (((pu h 30 4 ((((h.1 30 4) + (8 : Int32)) - (1 : Int32)) - (((h.1 30 4) + (8 : Int32)) - (1 : Int32)) / (8 : Int32) * (8 : Int32))).1 30 3) - (1 : Int32))) 26 (90 + 4 * j2)) 14 (34 + 7 * j6))))
  else
   some (((0 : Int32), h))
set_option maxHeartbeats 4000000 in
set_option maxRecDepth 100000 in
theorem ok_X1_restore (d : Nat) (hd : 3 ≤ d) (h : PH) : ∀ z, F_X1_restore h = some z → Ex d 7 [.ref 30, .ref 14, .ref 26] h (.inl (some (.int z.1))) (z.2) := by
  obtain ⟨d, rfl⟩ : ∃ e, d = e + 1 := ⟨d - 1, by omega⟩
  intro z hz
  refine ⟨rfl, ?_⟩
  refine (?_ : Sim (Ex d) mi_X1_restore (fun o1 h1 => o1 = _ ∧ h1 = _) (F_X1_restore h) (fun t => t = z) 0 [some (.ref 30), some (.ref 14), some (.ref 26), none] [] h 0) z hz rfl
  unfold F_X1_restore
  refine sS rfl rfl ?_
  refine sS rfl rfl ?_
  refine sS rfl rfl ?_
  refine sS rfl rfl ?_
  refine sS rfl rfl ?_
  refine sS rfl rfl ?_
  refine sS rfl rfl ?_
  refine sS rfl rfl ?_
  refine sS rfl rfl ?_
  refine sS rfl rfl ?_
  refine sS rfl rfl ?_
  refine sB rfl rfl ?_ ?_
  · refine sS rfl rfl ?_
    exact sR rfl rfl (fun hg => by cases hg; exact ⟨rfl, rfl⟩)
  · refine sS rfl rfl ?_
    refine sS rfl rfl ?_
    refine sC1 (c' := 0) rfl rfl rfl rfl rfl rfl (ok_X1_isReady d (by omega) h ((((h.1 30 4) + (8 : Int32)) - (1 : Int32)) - (((h.1 30 4) + (8 : Int32)) - (1 : Int32)) / (8 : Int32) * (8 : Int32))) (fun z1 => ?_)
    refine sB rfl rfl ?_ ?_
    · refine sS rfl rfl ?_
      refine sS rfl rfl ?_
      refine sS rfl rfl ?_
      refine sS rfl rfl ?_
      refine sS rfl rfl ?_
      refine sS rfl rfl ?_
      refine sS rfl rfl ?_
      refine sS rfl rfl ?_
      refine sS rfl rfl ?_
      refine sS rfl rfl ?_
      refine sS rfl rfl ?_
      refine sS rfl rfl ?_
      refine sS rfl rfl ?_
      refine sRald rfl rfl (fun j2 hj2 => ?_)
      refine sT0 (c' := 0) rfl rfl rfl rfl rfl rfl (ok_X3_copyFrom d (by omega) (pu (pu h 30 4 ((((h.1 30 4) + (8 : Int32)) - (1 : Int32)) - (((h.1 30 4) + (8 : Int32)) - (1 : Int32)) / (8 : Int32) * (8 : Int32))) 30 3 (((pu h 30 4 ((((h.1 30 4) + (8 : Int32)) - (1 : Int32)) - (((h.1 30 4) + (8 : Int32)) - (1 : Int32)) / (8 : Int32) * (8 : Int32))).1 30 3) - (1 : Int32))) 26 isPlan_p (90 + 4 * j2) (isPlan_h hj2) (by omega)) ?_
      refine sS rfl rfl ?_
      refine sS rfl rfl ?_
      refine sS rfl rfl ?_
      refine sZald rfl rfl (fun z3 => ?_)
      refine sB rfl rfl ?_ ?_
      · refine sS rfl rfl ?_
        refine sS rfl rfl ?_
        refine sS rfl rfl ?_
        refine sZald rfl rfl (fun z4 => ?_)
        exact sZ rfl rfl (fun z hg => by cases hg; exact ⟨rfl, rfl⟩)
      · refine sS rfl rfl ?_
        refine sS rfl rfl ?_
        refine sS rfl rfl ?_
        refine sS rfl rfl ?_
        refine sRald rfl rfl (fun j6 hj6 => ?_)
        refine sT0 (c' := 0) rfl rfl rfl rfl rfl rfl (ok_X2_copyFrom d (by omega) (F_X3_copyFrom (pu (pu h 30 4 ((((h.1 30 4) + (8 : Int32)) - (1 : Int32)) - (((h.1 30 4) + (8 : Int32)) - (1 : Int32)) / (8 : Int32) * (8 : Int32))) 30 3 (((pu h 30 4 ((((h.1 30 4) + (8 : Int32)) - (1 : Int32)) - (((h.1 30 4) + (8 : Int32)) - (1 : Int32)) / (8 : Int32) * (8 : Int32))).1 30 3) - (1 : Int32))) 26 (90 + 4 * j2)) 14 isNet_p (34 + 7 * j6) (isNet_h hj6) (by omega)) ?_
        refine sS rfl rfl ?_
        refine sS rfl rfl ?_
        refine sS rfl rfl ?_
        refine sZald rfl rfl (fun z7 => ?_)
        exact sZ rfl rfl (fun z hg => by cases hg; exact ⟨rfl, rfl⟩)
    · refine sS rfl rfl ?_
      exact sR rfl rfl (fun hg => by cases hg; exact ⟨rfl, rfl⟩)
noncomputable def F_X5_markTurns (h : PH) : Option (PH) :=
 loop (fun (s1 : Int32 × PH) =>
  if ((2 : Int32) * (h.1 14 2)) ≤ s1.1 then
   some (.inr (s1.2))
  else
   loop (fun (s2 : Int32 × PH) =>
    if ((2 : Int32) * (h.1 14 2)) ≤ s2.1 then
     some (.inr (.inl ((s1.1 + (1 : Int32)), s2.2)))
    else
     if (F_X2_allowsTurn s2.2 s1.1 s2.1) = 0 then
      some (.inl ((s2.1 + (1 : Int32)), (F_X7_put 784 s2.2 22 ((s1.1 * (28 : Int32)) + s2.1) (100000000 : Int32))))
     else
      some (.inl ((s2.1 + (1 : Int32)), (F_X7_put 784 s2.2 22 ((s1.1 * (28 : Int32)) + s2.1) (0 : Int32))))) ((0 : Int32), s1.2)) ((0 : Int32), h)
set_option maxHeartbeats 4000000 in
set_option maxRecDepth 100000 in
theorem ok_X5_markTurns (d : Nat) (hd : 4 ≤ d) (h : PH) : ∀ z, F_X5_markTurns h = some z → Ex d 42 [.ref 21, .ref 14] h (.inl (none)) (z) := by
  obtain ⟨d, rfl⟩ : ∃ e, d = e + 1 := ⟨d - 1, by omega⟩
  intro z hz
  refine ⟨rfl, ?_⟩
  refine (?_ : Sim (Ex d) mi_X5_markTurns (fun o1 h1 => o1 = _ ∧ h1 = _) (F_X5_markTurns h) (fun t => t = z) 0 [some (.ref 21), some (.ref 14), none, none, none] [] h 0) z hz rfl
  unfold F_X5_markTurns
  refine sS rfl rfl ?_
  refine sS rfl rfl ?_
  refine sS rfl rfl ?_
  refine sS rfl rfl ?_
  refine sS rfl rfl ?_
  refine sS rfl rfl ?_
  refine sS rfl rfl ?_
  refine sL (pc := 9) (lv := fun (s1 : Int32 × PH) => [some (.ref 21), some (.ref 14), some (.int (((2 : Int32) * (h.1 14 2)))), some (.int (s1.1)), none]) (h := fun (s1 : Int32 × PH) => s1.2) (fun s1 => ?_) ((0 : Int32), h)
  refine sS rfl rfl ?_
  refine sS rfl rfl ?_
  refine sB rfl rfl ?_ ?_
  · exact sR rfl rfl (fun hg => by cases hg; exact ⟨rfl, rfl⟩)
  · refine sS rfl rfl ?_
    refine sS rfl rfl ?_
    refine sL (pc := 17) (lv := fun (s2 : Int32 × PH) => [some (.ref 21), some (.ref 14), some (.int (((2 : Int32) * (h.1 14 2)))), some (.int (s1.1)), some (.int (s2.1))]) (h := fun (s2 : Int32 × PH) => s2.2) (fun s2 => ?_) ((0 : Int32), s1.2)
    refine sS rfl rfl ?_
    refine sS rfl rfl ?_
    refine sB rfl rfl ?_ ?_
    · refine sS rfl rfl ?_
      refine sS rfl rfl ?_
      refine sM [true, true, true, true, false] rfl ?_
      refine sUp ?_
      exact sJ (fun h2 => by (try dsimp only at h2); exact h2)
    · refine sS rfl rfl ?_
      refine sS rfl rfl ?_
      refine sS rfl rfl ?_
      refine sS rfl rfl ?_
      refine sS rfl rfl ?_
      refine sS rfl rfl ?_
      refine sS rfl rfl ?_
      refine sS rfl rfl ?_
      refine sS rfl rfl ?_
      refine sS rfl rfl ?_
      refine sT1 (c' := 0) rfl rfl rfl rfl rfl rfl (ok_X2_allowsTurn d (by omega) s2.2 s1.1 s2.1) ?_
      refine sB rfl rfl ?_ ?_
      · refine sS rfl rfl ?_
        refine sT0 (c' := 0) rfl rfl rfl rfl rfl rfl (ok_X7_put d (by omega) 784 s2.2 22 ((s1.1 * (28 : Int32)) + s2.1) (100000000 : Int32) rfl) ?_
        refine sS rfl rfl ?_
        refine sS rfl rfl ?_
        exact sJ (fun h2 => by (try dsimp only at h2); exact h2)
      · refine sS rfl rfl ?_
        refine sS rfl rfl ?_
        refine sT0 (c' := 0) rfl rfl rfl rfl rfl rfl (ok_X7_put d (by omega) 784 s2.2 22 ((s1.1 * (28 : Int32)) + s2.1) (0 : Int32) rfl) ?_
        refine sS rfl rfl ?_
        refine sS rfl rfl ?_
        exact sJ (fun h2 => by (try dsimp only at h2); exact h2)
noncomputable def F_X5_findDeadheads (h : PH) : Option (PH) :=
 loop (fun (s1 : Int32 × PH) =>
  if ((2 : Int32) * (h.1 14 2)) ≤ s1.1 then
   some (.inr (s1.2))
  else
   loop (fun (s2 : Int32 × PH) =>
    if ((2 : Int32) * (h.1 14 2)) ≤ s2.1 then
     some (.inr (.inl ((s1.1 + (1 : Int32)), s2.2)))
    else
     loop (fun (s3 : Int32 × PH) =>
      if (100000000 : Int32) ≤ ((F_X7_at 784 s2.2 22 ((s2.1 * (28 : Int32)) + s1.1)) + (F_X7_at 28 s1.2 16 s1.1)) then
       some (.inr (.inl ((s2.1 + (1 : Int32)), s3.2)))
      else
       if ((2 : Int32) * (h.1 14 2)) ≤ s3.1 then
        some (.inr (.inl ((s2.1 + (1 : Int32)), s3.2)))
       else
        if (F_X7_at 784 s3.2 22 ((s2.1 * (28 : Int32)) + s3.1)) ≤ (((F_X7_at 784 s2.2 22 ((s2.1 * (28 : Int32)) + s1.1)) + (F_X7_at 28 s1.2 16 s1.1)) + (F_X7_at 784 s3.2 22 ((s1.1 * (28 : Int32)) + s3.1))) then
         some (.inl ((s3.1 + (1 : Int32)), s3.2))
        else
         some (.inl ((s3.1 + (1 : Int32)), (F_X7_put 784 s3.2 22 ((s2.1 * (28 : Int32)) + s3.1) (((F_X7_at 784 s2.2 22 ((s2.1 * (28 : Int32)) + s1.1)) + (F_X7_at 28 s1.2 16 s1.1)) + (F_X7_at 784 s3.2 22 ((s1.1 * (28 : Int32)) + s3.1))))))) ((0 : Int32), s2.2)) ((0 : Int32), s1.2)) ((0 : Int32), h)
set_option maxHeartbeats 4000000 in
set_option maxRecDepth 100000 in
theorem ok_X5_findDeadheads (d : Nat) (hd : 2 ≤ d) (h : PH) : ∀ z, F_X5_findDeadheads h = some z → Ex d 43 [.ref 21, .ref 14] h (.inl (none)) (z) := by
  obtain ⟨d, rfl⟩ : ∃ e, d = e + 1 := ⟨d - 1, by omega⟩
  intro z hz
  refine ⟨rfl, ?_⟩
  refine (?_ : Sim (Ex d) mi_X5_findDeadheads (fun o1 h1 => o1 = _ ∧ h1 = _) (F_X5_findDeadheads h) (fun t => t = z) 0 [some (.ref 21), some (.ref 14), none, none, none, none, none, none, none] [] h 0) z hz rfl
  unfold F_X5_findDeadheads
  refine sS rfl rfl ?_
  refine sS rfl rfl ?_
  refine sS rfl rfl ?_
  refine sS rfl rfl ?_
  refine sS rfl rfl ?_
  refine sS rfl rfl ?_
  refine sS rfl rfl ?_
  refine sL (pc := 9) (lv := fun (s1 : Int32 × PH) => [some (.ref 21), some (.ref 14), some (.int (((2 : Int32) * (h.1 14 2)))), some (.int (s1.1)), none, none, none, none, none]) (h := fun (s1 : Int32 × PH) => s1.2) (fun s1 => ?_) ((0 : Int32), h)
  refine sS rfl rfl ?_
  refine sS rfl rfl ?_
  refine sB rfl rfl ?_ ?_
  · exact sR rfl rfl (fun hg => by cases hg; exact ⟨rfl, rfl⟩)
  · refine sS rfl rfl ?_
    refine sS rfl rfl ?_
    refine sS rfl rfl ?_
    refine sT1 (c' := 0) rfl rfl rfl rfl rfl rfl (ok_X7_at d (by omega) 28 s1.2 16 s1.1 rfl) ?_
    refine sS rfl rfl ?_
    refine sS rfl rfl ?_
    refine sS rfl rfl ?_
    refine sL (pc := 27) (lv := fun (s2 : Int32 × PH) => [some (.ref 21), some (.ref 14), some (.int (((2 : Int32) * (h.1 14 2)))), some (.int (s1.1)), some (.int ((F_X7_at 28 s1.2 16 s1.1))), some (.int (s2.1)), none, none, none]) (h := fun (s2 : Int32 × PH) => s2.2) (fun s2 => ?_) ((0 : Int32), s1.2)
    refine sS rfl rfl ?_
    refine sS rfl rfl ?_
    refine sB rfl rfl ?_ ?_
    · refine sS rfl rfl ?_
      refine sS rfl rfl ?_
      refine sM [true, true, true, true, false, false, true, true, true] rfl ?_
      refine sUp ?_
      exact sJ (fun h2 => by (try dsimp only at h2); exact h2)
    · refine sS rfl rfl ?_
      refine sS rfl rfl ?_
      refine sS rfl rfl ?_
      refine sS rfl rfl ?_
      refine sS rfl rfl ?_
      refine sS rfl rfl ?_
      refine sS rfl rfl ?_
      refine sT1 (c' := 0) rfl rfl rfl rfl rfl rfl (ok_X7_at d (by omega) 784 s2.2 22 ((s2.1 * (28 : Int32)) + s1.1) rfl) ?_
      refine sS rfl rfl ?_
      refine sS rfl rfl ?_
      refine sS rfl rfl ?_
      refine sS rfl rfl ?_
      refine sS rfl rfl ?_
      refine sL (pc := 55) (lv := fun (s3 : Int32 × PH) => [some (.ref 21), some (.ref 14), some (.int (((2 : Int32) * (h.1 14 2)))), some (.int (s1.1)), some (.int ((F_X7_at 28 s1.2 16 s1.1))), some (.int (s2.1)), some (.int (((F_X7_at 784 s2.2 22 ((s2.1 * (28 : Int32)) + s1.1)) + (F_X7_at 28 s1.2 16 s1.1)))), some (.int (s3.1)), none]) (h := fun (s3 : Int32 × PH) => s3.2) (fun s3 => ?_) ((0 : Int32), s2.2)
      refine sS rfl rfl ?_
      refine sS rfl rfl ?_
      refine sB rfl rfl ?_ ?_
      · refine sS rfl rfl ?_
        refine sS rfl rfl ?_
        refine sM [true, true, true, true, true, true, false, false, true] rfl ?_
        refine sUp ?_
        exact sJ (fun h2 => by (try dsimp only at h2); exact h2)
      · refine sS rfl rfl ?_
        refine sS rfl rfl ?_
        refine sB rfl rfl ?_ ?_
        · refine sS rfl rfl ?_
          refine sS rfl rfl ?_
          refine sM [true, true, true, true, true, true, false, false, true] rfl ?_
          refine sUp ?_
          exact sJ (fun h2 => by (try dsimp only at h2); exact h2)
        · refine sS rfl rfl ?_
          refine sS rfl rfl ?_
          refine sS rfl rfl ?_
          refine sS rfl rfl ?_
          refine sS rfl rfl ?_
          refine sS rfl rfl ?_
          refine sS rfl rfl ?_
          refine sS rfl rfl ?_
          refine sT1 (c' := 0) rfl rfl rfl rfl rfl rfl (ok_X7_at d (by omega) 784 s3.2 22 ((s1.1 * (28 : Int32)) + s3.1) rfl) ?_
          refine sS rfl rfl ?_
          refine sS rfl rfl ?_
          refine sS rfl rfl ?_
          refine sS rfl rfl ?_
          refine sS rfl rfl ?_
          refine sS rfl rfl ?_
          refine sS rfl rfl ?_
          refine sS rfl rfl ?_
          refine sS rfl rfl ?_
          refine sS rfl rfl ?_
          refine sT1 (c' := 0) rfl rfl rfl rfl rfl rfl (ok_X7_at d (by omega) 784 s3.2 22 ((s2.1 * (28 : Int32)) + s3.1) rfl) ?_
          refine sB rfl rfl ?_ ?_
          · refine sS rfl rfl ?_
            refine sS rfl rfl ?_
            refine sM [true, true, true, true, true, true, true, true, false] rfl ?_
            exact sJ (fun h2 => by (try dsimp only at h2); exact h2)
          · refine sS rfl rfl ?_
            refine sS rfl rfl ?_
            refine sS rfl rfl ?_
            refine sS rfl rfl ?_
            refine sS rfl rfl ?_
            refine sS rfl rfl ?_
            refine sS rfl rfl ?_
            refine sS rfl rfl ?_
            refine sT0 (c' := 0) rfl rfl rfl rfl rfl rfl (ok_X7_put d (by omega) 784 s3.2 22 ((s2.1 * (28 : Int32)) + s3.1) (((F_X7_at 784 s2.2 22 ((s2.1 * (28 : Int32)) + s1.1)) + (F_X7_at 28 s1.2 16 s1.1)) + (F_X7_at 784 s3.2 22 ((s1.1 * (28 : Int32)) + s3.1))) rfl) ?_
            refine sS rfl rfl ?_
            refine sS rfl rfl ?_
            refine sM [true, true, true, true, true, true, true, true, false] rfl ?_
            exact sJ (fun h2 => by (try dsimp only at h2); exact h2)
noncomputable def F_X5_approach (h : PH) (p0 : Int32) (p1 : Int32) : Option (Int32) :=
 if ¬ (F_X2_start h 14 p1) = p0 then
  loop (fun (s1 : Int32 × Int32) =>
   if ((2 : Int32) * (h.1 14 2)) ≤ s1.2 then
    some (.inr (s1.1))
   else
    if ¬ (F_X2_start h 14 s1.2) = p0 then
     some (.inl (s1.1, (s1.2 + (1 : Int32))))
    else
     some (.inl ((if ((F_X7_at 28 h 16 s1.2) + (F_X7_at 784 h 22 ((s1.2 * (28 : Int32)) + p1))) < s1.1 then ((F_X7_at 28 h 16 s1.2) + (F_X7_at 784 h 22 ((s1.2 * (28 : Int32)) + p1))) else s1.1), (s1.2 + (1 : Int32))))) ((100000000 : Int32), (0 : Int32))
 else
  some ((0 : Int32))
set_option maxHeartbeats 4000000 in
set_option maxRecDepth 100000 in
theorem ok_X5_approach (d : Nat) (hd : 3 ≤ d) (h : PH) (p0 : Int32) (p1 : Int32) : ∀ z, F_X5_approach h p0 p1 = some z → Ex d 44 [.ref 21, .ref 14, .int p0, .int p1] h (.inl (some (.int z))) (h) := by
  obtain ⟨d, rfl⟩ : ∃ e, d = e + 1 := ⟨d - 1, by omega⟩
  intro z hz
  refine ⟨rfl, ?_⟩
  refine (?_ : Sim (Ex d) mi_X5_approach (fun o1 h1 => o1 = _ ∧ h1 = _) (F_X5_approach h p0 p1) (fun t => t = z) 0 [some (.ref 21), some (.ref 14), some (.int p0), some (.int p1), none, none] [] h 0) z hz rfl
  unfold F_X5_approach
  refine sS rfl rfl ?_
  refine sS rfl rfl ?_
  refine sT1 (c' := 0) rfl rfl rfl rfl rfl rfl (ok_X2_start d (by omega) h 14 isNet_p p1) ?_
  refine sS rfl rfl ?_
  refine sB rfl rfl ?_ ?_
  · refine sS rfl rfl ?_
    refine sS rfl rfl ?_
    refine sS rfl rfl ?_
    refine sS rfl rfl ?_
    refine sL (pc := 18) (lv := fun (s1 : Int32 × Int32) => [some (.ref 21), some (.ref 14), some (.int p0), some (.int p1), some (.int (s1.1)), some (.int (s1.2))]) (h := fun (s1 : Int32 × Int32) => h) (fun s1 => ?_) ((100000000 : Int32), (0 : Int32))
    refine sS rfl rfl ?_
    refine sS rfl rfl ?_
    refine sS rfl rfl ?_
    refine sS rfl rfl ?_
    refine sS rfl rfl ?_
    refine sB rfl rfl ?_ ?_
    · refine sS rfl rfl ?_
      exact sR rfl rfl (fun hg => by cases hg; exact ⟨rfl, rfl⟩)
    · refine sS rfl rfl ?_
      refine sS rfl rfl ?_
      refine sT1 (c' := 0) rfl rfl rfl rfl rfl rfl (ok_X2_start d (by omega) h 14 isNet_p s1.2) ?_
      refine sS rfl rfl ?_
      refine sB rfl rfl ?_ ?_
      · refine sS rfl rfl ?_
        refine sS rfl rfl ?_
        exact sJ (fun h2 => by (try dsimp only at h2); exact h2)
      · refine sS rfl rfl ?_
        refine sS rfl rfl ?_
        refine sS rfl rfl ?_
        refine sS rfl rfl ?_
        refine sT1 (c' := 0) rfl rfl rfl rfl rfl rfl (ok_X7_at d (by omega) 28 h 16 s1.2 rfl) ?_
        refine sS rfl rfl ?_
        refine sS rfl rfl ?_
        refine sS rfl rfl ?_
        refine sS rfl rfl ?_
        refine sS rfl rfl ?_
        refine sS rfl rfl ?_
        refine sS rfl rfl ?_
        refine sT1 (c' := 0) rfl rfl rfl rfl rfl rfl (ok_X7_at d (by omega) 784 h 22 ((s1.2 * (28 : Int32)) + p1) rfl) ?_
        refine sS rfl rfl ?_
        refine sS rfl rfl ?_
        refine sS rfl rfl ?_
        refine sS rfl rfl ?_
        refine sS rfl rfl ?_
        exact sJ (fun h2 => by (try dsimp only at h2); exact h2)
  · refine sS rfl rfl ?_
    exact sR rfl rfl (fun hg => by cases hg; exact ⟨rfl, rfl⟩)
noncomputable def F_X5_returnTo (h : PH) (p0 : Int32) (p1 : Int32) : Option (Int32) :=
 if ¬ (F_X2_end h 14 p0) = p1 then
  loop (fun (s1 : Int32 × Int32) =>
   if ((2 : Int32) * (h.1 14 2)) ≤ s1.2 then
    some (.inr (s1.1))
   else
    if ¬ (F_X2_end h 14 s1.2) = p1 then
     some (.inl (s1.1, (s1.2 + (1 : Int32))))
    else
     some (.inl ((if ((F_X7_at 784 h 22 ((p0 * (28 : Int32)) + s1.2)) + (F_X7_at 28 h 16 s1.2)) < s1.1 then ((F_X7_at 784 h 22 ((p0 * (28 : Int32)) + s1.2)) + (F_X7_at 28 h 16 s1.2)) else s1.1), (s1.2 + (1 : Int32))))) ((100000000 : Int32), (0 : Int32))
 else
  some ((0 : Int32))
set_option maxHeartbeats 4000000 in
set_option maxRecDepth 100000 in
theorem ok_X5_returnTo (d : Nat) (hd : 3 ≤ d) (h : PH) (p0 : Int32) (p1 : Int32) : ∀ z, F_X5_returnTo h p0 p1 = some z → Ex d 45 [.ref 21, .ref 14, .int p0, .int p1] h (.inl (some (.int z))) (h) := by
  obtain ⟨d, rfl⟩ : ∃ e, d = e + 1 := ⟨d - 1, by omega⟩
  intro z hz
  refine ⟨rfl, ?_⟩
  refine (?_ : Sim (Ex d) mi_X5_returnTo (fun o1 h1 => o1 = _ ∧ h1 = _) (F_X5_returnTo h p0 p1) (fun t => t = z) 0 [some (.ref 21), some (.ref 14), some (.int p0), some (.int p1), none, none] [] h 0) z hz rfl
  unfold F_X5_returnTo
  refine sS rfl rfl ?_
  refine sS rfl rfl ?_
  refine sT1 (c' := 0) rfl rfl rfl rfl rfl rfl (ok_X2_end d (by omega) h 14 isNet_p p0) ?_
  refine sS rfl rfl ?_
  refine sB rfl rfl ?_ ?_
  · refine sS rfl rfl ?_
    refine sS rfl rfl ?_
    refine sS rfl rfl ?_
    refine sS rfl rfl ?_
    refine sL (pc := 18) (lv := fun (s1 : Int32 × Int32) => [some (.ref 21), some (.ref 14), some (.int p0), some (.int p1), some (.int (s1.1)), some (.int (s1.2))]) (h := fun (s1 : Int32 × Int32) => h) (fun s1 => ?_) ((100000000 : Int32), (0 : Int32))
    refine sS rfl rfl ?_
    refine sS rfl rfl ?_
    refine sS rfl rfl ?_
    refine sS rfl rfl ?_
    refine sS rfl rfl ?_
    refine sB rfl rfl ?_ ?_
    · refine sS rfl rfl ?_
      exact sR rfl rfl (fun hg => by cases hg; exact ⟨rfl, rfl⟩)
    · refine sS rfl rfl ?_
      refine sS rfl rfl ?_
      refine sT1 (c' := 0) rfl rfl rfl rfl rfl rfl (ok_X2_end d (by omega) h 14 isNet_p s1.2) ?_
      refine sS rfl rfl ?_
      refine sB rfl rfl ?_ ?_
      · refine sS rfl rfl ?_
        refine sS rfl rfl ?_
        exact sJ (fun h2 => by (try dsimp only at h2); exact h2)
      · refine sS rfl rfl ?_
        refine sS rfl rfl ?_
        refine sS rfl rfl ?_
        refine sS rfl rfl ?_
        refine sS rfl rfl ?_
        refine sS rfl rfl ?_
        refine sS rfl rfl ?_
        refine sS rfl rfl ?_
        refine sT1 (c' := 0) rfl rfl rfl rfl rfl rfl (ok_X7_at d (by omega) 784 h 22 ((p0 * (28 : Int32)) + s1.2) rfl) ?_
        refine sS rfl rfl ?_
        refine sS rfl rfl ?_
        refine sS rfl rfl ?_
        refine sT1 (c' := 0) rfl rfl rfl rfl rfl rfl (ok_X7_at d (by omega) 28 h 16 s1.2 rfl) ?_
        refine sS rfl rfl ?_
        refine sS rfl rfl ?_
        refine sS rfl rfl ?_
        refine sS rfl rfl ?_
        refine sS rfl rfl ?_
        exact sJ (fun h2 => by (try dsimp only at h2); exact h2)
  · refine sS rfl rfl ?_
    exact sR rfl rfl (fun hg => by cases hg; exact ⟨rfl, rfl⟩)
noncomputable def F_X5_between (h : PH) (p0 : Int32) (p1 : Int32) : Option (Int32) :=
 if ¬ p0 = p1 then
  loop (fun (s1 : Int32 × Int32) =>
   if ((2 : Int32) * (h.1 14 2)) ≤ s1.2 then
    some (.inr (s1.1))
   else
    if ¬ (F_X2_start h 14 s1.2) = p0 then
     some (.inl (s1.1, (s1.2 + (1 : Int32))))
    else
     some (.inl ((if ((F_X7_at 28 h 16 s1.2) + (F_X7_at 224 h 24 ((s1.2 * (8 : Int32)) + p1))) < s1.1 then ((F_X7_at 28 h 16 s1.2) + (F_X7_at 224 h 24 ((s1.2 * (8 : Int32)) + p1))) else s1.1), (s1.2 + (1 : Int32))))) ((100000000 : Int32), (0 : Int32))
 else
  some ((0 : Int32))
set_option maxHeartbeats 4000000 in
set_option maxRecDepth 100000 in
theorem ok_X5_between (d : Nat) (hd : 3 ≤ d) (h : PH) (p0 : Int32) (p1 : Int32) : ∀ z, F_X5_between h p0 p1 = some z → Ex d 46 [.ref 21, .ref 14, .int p0, .int p1] h (.inl (some (.int z))) (h) := by
  obtain ⟨d, rfl⟩ : ∃ e, d = e + 1 := ⟨d - 1, by omega⟩
  intro z hz
  refine ⟨rfl, ?_⟩
  refine (?_ : Sim (Ex d) mi_X5_between (fun o1 h1 => o1 = _ ∧ h1 = _) (F_X5_between h p0 p1) (fun t => t = z) 0 [some (.ref 21), some (.ref 14), some (.int p0), some (.int p1), none, none] [] h 0) z hz rfl
  unfold F_X5_between
  refine sS rfl rfl ?_
  refine sS rfl rfl ?_
  refine sB rfl rfl ?_ ?_
  · refine sS rfl rfl ?_
    refine sS rfl rfl ?_
    refine sS rfl rfl ?_
    refine sS rfl rfl ?_
    refine sL (pc := 14) (lv := fun (s1 : Int32 × Int32) => [some (.ref 21), some (.ref 14), some (.int p0), some (.int p1), some (.int (s1.1)), some (.int (s1.2))]) (h := fun (s1 : Int32 × Int32) => h) (fun s1 => ?_) ((100000000 : Int32), (0 : Int32))
    refine sS rfl rfl ?_
    refine sS rfl rfl ?_
    refine sS rfl rfl ?_
    refine sS rfl rfl ?_
    refine sS rfl rfl ?_
    refine sB rfl rfl ?_ ?_
    · refine sS rfl rfl ?_
      exact sR rfl rfl (fun hg => by cases hg; exact ⟨rfl, rfl⟩)
    · refine sS rfl rfl ?_
      refine sS rfl rfl ?_
      refine sT1 (c' := 0) rfl rfl rfl rfl rfl rfl (ok_X2_start d (by omega) h 14 isNet_p s1.2) ?_
      refine sS rfl rfl ?_
      refine sB rfl rfl ?_ ?_
      · refine sS rfl rfl ?_
        refine sS rfl rfl ?_
        exact sJ (fun h2 => by (try dsimp only at h2); exact h2)
      · refine sS rfl rfl ?_
        refine sS rfl rfl ?_
        refine sS rfl rfl ?_
        refine sS rfl rfl ?_
        refine sT1 (c' := 0) rfl rfl rfl rfl rfl rfl (ok_X7_at d (by omega) 28 h 16 s1.2 rfl) ?_
        refine sS rfl rfl ?_
        refine sS rfl rfl ?_
        refine sS rfl rfl ?_
        refine sS rfl rfl ?_
        refine sS rfl rfl ?_
        refine sS rfl rfl ?_
        refine sS rfl rfl ?_
        refine sT1 (c' := 0) rfl rfl rfl rfl rfl rfl (ok_X7_at d (by omega) 224 h 24 ((s1.2 * (8 : Int32)) + p1) rfl) ?_
        refine sS rfl rfl ?_
        refine sS rfl rfl ?_
        refine sS rfl rfl ?_
        refine sS rfl rfl ?_
        refine sS rfl rfl ?_
        exact sJ (fun h2 => by (try dsimp only at h2); exact h2)
  · refine sS rfl rfl ?_
    exact sR rfl rfl (fun hg => by cases hg; exact ⟨rfl, rfl⟩)
noncomputable def F_X5_explore (h : PH) : Option (PH) :=
 (F_X5_markTurns h).bind fun h1 =>
 (F_X5_findDeadheads h1).bind fun h2 =>
 loop (fun (s3 : Int32 × PH) =>
  if ((2 : Int32) * (s3.2.1 14 2)) ≤ s3.1 then
   loop (fun (s4 : Int32 × PH) =>
    if (s4.2.1 14 0) ≤ s4.1 then
     some (.inr (.inr (s4.2)))
    else
     loop (fun (s5 : Int32 × PH) =>
      if (s5.2.1 14 0) ≤ s5.1 then
       some (.inr (.inl ((s4.1 + (1 : Int32)), s5.2)))
      else
       (F_X5_between s5.2 s4.1 s5.1).bind fun z6 =>
       some (.inl ((s5.1 + (1 : Int32)), (F_X7_put 64 s5.2 25 ((s4.1 * (8 : Int32)) + s5.1) z6)))) ((0 : Int32), s4.2)) ((0 : Int32), s3.2)
  else
   loop (fun (s7 : Int32 × PH) =>
    if (s7.2.1 14 0) ≤ s7.1 then
     some (.inr (.inl ((s3.1 + (1 : Int32)), s7.2)))
    else
     (F_X5_approach s7.2 s7.1 s3.1).bind fun z8 =>
     (F_X5_returnTo (F_X7_put 224 s7.2 23 ((s7.1 * (28 : Int32)) + s3.1) z8) s3.1 s7.1).bind fun z9 =>
     some (.inl ((s7.1 + (1 : Int32)), (F_X7_put 224 (F_X7_put 224 s7.2 23 ((s7.1 * (28 : Int32)) + s3.1) z8) 24 ((s3.1 * (8 : Int32)) + s7.1) z9)))) ((0 : Int32), s3.2)) ((0 : Int32), h2)
set_option maxHeartbeats 4000000 in
set_option maxRecDepth 100000 in
theorem ok_X5_explore (d : Nat) (hd : 5 ≤ d) (h : PH) : ∀ z, F_X5_explore h = some z → Ex d 41 [.ref 21, .ref 14] h (.inl (none)) (z) := by
  obtain ⟨d, rfl⟩ : ∃ e, d = e + 1 := ⟨d - 1, by omega⟩
  intro z hz
  refine ⟨rfl, ?_⟩
  refine (?_ : Sim (Ex d) mi_X5_explore (fun o1 h1 => o1 = _ ∧ h1 = _) (F_X5_explore h) (fun t => t = z) 0 [some (.ref 21), some (.ref 14), none, none] [] h 0) z hz rfl
  unfold F_X5_explore
  refine sS rfl rfl ?_
  refine sS rfl rfl ?_
  refine sC0 (c' := 0) rfl rfl rfl rfl rfl rfl (ok_X5_markTurns d (by omega) h) (fun h1 => ?_)
  refine sS rfl rfl ?_
  refine sS rfl rfl ?_
  refine sC0 (c' := 0) rfl rfl rfl rfl rfl rfl (ok_X5_findDeadheads d (by omega) h1) (fun h2 => ?_)
  refine sS rfl rfl ?_
  refine sS rfl rfl ?_
  refine sL (pc := 12) (lv := fun (s3 : Int32 × PH) => [some (.ref 21), some (.ref 14), some (.int (s3.1)), none]) (h := fun (s3 : Int32 × PH) => s3.2) (fun s3 => ?_) ((0 : Int32), h2)
  refine sS rfl rfl ?_
  refine sS rfl rfl ?_
  refine sS rfl rfl ?_
  refine sS rfl rfl ?_
  refine sS rfl rfl ?_
  refine sB rfl rfl ?_ ?_
  · refine sS rfl rfl ?_
    refine sS rfl rfl ?_
    refine sL (pc := 86) (lv := fun (s4 : Int32 × PH) => [some (.ref 21), some (.ref 14), some (.int (s4.1)), none]) (h := fun (s4 : Int32 × PH) => s4.2) (fun s4 => ?_) ((0 : Int32), s3.2)
    refine sS rfl rfl ?_
    refine sS rfl rfl ?_
    refine sS rfl rfl ?_
    refine sB rfl rfl ?_ ?_
    · exact sR rfl rfl (fun hg => by cases hg; exact ⟨rfl, rfl⟩)
    · refine sS rfl rfl ?_
      refine sS rfl rfl ?_
      refine sL (pc := 96) (lv := fun (s5 : Int32 × PH) => [some (.ref 21), some (.ref 14), some (.int (s4.1)), some (.int (s5.1))]) (h := fun (s5 : Int32 × PH) => s5.2) (fun s5 => ?_) ((0 : Int32), s4.2)
      refine sS rfl rfl ?_
      refine sS rfl rfl ?_
      refine sS rfl rfl ?_
      refine sB rfl rfl ?_ ?_
      · refine sS rfl rfl ?_
        refine sS rfl rfl ?_
        refine sM [true, true, true, false] rfl ?_
        refine sUp ?_
        exact sJ (fun h2 => by (try dsimp only at h2); exact h2)
      · refine sS rfl rfl ?_
        refine sS rfl rfl ?_
        refine sS rfl rfl ?_
        refine sS rfl rfl ?_
        refine sS rfl rfl ?_
        refine sS rfl rfl ?_
        refine sS rfl rfl ?_
        refine sS rfl rfl ?_
        refine sS rfl rfl ?_
        refine sS rfl rfl ?_
        refine sS rfl rfl ?_
        refine sC1 (c' := 0) rfl rfl rfl rfl rfl rfl (ok_X5_between d (by omega) s5.2 s4.1 s5.1) (fun z6 => ?_)
        refine sT0 (c' := 0) rfl rfl rfl rfl rfl rfl (ok_X7_put d (by omega) 64 s5.2 25 ((s4.1 * (8 : Int32)) + s5.1) z6 rfl) ?_
        refine sS rfl rfl ?_
        refine sS rfl rfl ?_
        exact sJ (fun h2 => by (try dsimp only at h2); exact h2)
  · refine sS rfl rfl ?_
    refine sS rfl rfl ?_
    refine sL (pc := 24) (lv := fun (s7 : Int32 × PH) => [some (.ref 21), some (.ref 14), some (.int (s3.1)), some (.int (s7.1))]) (h := fun (s7 : Int32 × PH) => s7.2) (fun s7 => ?_) ((0 : Int32), s3.2)
    refine sS rfl rfl ?_
    refine sS rfl rfl ?_
    refine sS rfl rfl ?_
    refine sB rfl rfl ?_ ?_
    · refine sS rfl rfl ?_
      refine sS rfl rfl ?_
      refine sM [true, true, true, false] rfl ?_
      refine sUp ?_
      exact sJ (fun h2 => by (try dsimp only at h2); exact h2)
    · refine sS rfl rfl ?_
      refine sS rfl rfl ?_
      refine sS rfl rfl ?_
      refine sS rfl rfl ?_
      refine sS rfl rfl ?_
      refine sS rfl rfl ?_
      refine sS rfl rfl ?_
      refine sS rfl rfl ?_
      refine sS rfl rfl ?_
      refine sS rfl rfl ?_
      refine sS rfl rfl ?_
      refine sC1 (c' := 0) rfl rfl rfl rfl rfl rfl (ok_X5_approach d (by omega) s7.2 s7.1 s3.1) (fun z8 => ?_)
      refine sT0 (c' := 0) rfl rfl rfl rfl rfl rfl (ok_X7_put d (by omega) 224 s7.2 23 ((s7.1 * (28 : Int32)) + s3.1) z8 rfl) ?_
      refine sS rfl rfl ?_
      refine sS rfl rfl ?_
      refine sS rfl rfl ?_
      refine sS rfl rfl ?_
      refine sS rfl rfl ?_
      refine sS rfl rfl ?_
      refine sS rfl rfl ?_
      refine sS rfl rfl ?_
      refine sS rfl rfl ?_
      refine sS rfl rfl ?_
      refine sS rfl rfl ?_
      refine sC1 (c' := 0) rfl rfl rfl rfl rfl rfl (ok_X5_returnTo d (by omega) (F_X7_put 224 s7.2 23 ((s7.1 * (28 : Int32)) + s3.1) z8) s3.1 s7.1) (fun z9 => ?_)
      refine sT0 (c' := 0) rfl rfl rfl rfl rfl rfl (ok_X7_put d (by omega) 224 (F_X7_put 224 s7.2 23 ((s7.1 * (28 : Int32)) + s3.1) z8) 24 ((s3.1 * (8 : Int32)) + s7.1) z9 rfl) ?_
      refine sS rfl rfl ?_
      refine sS rfl rfl ?_
      exact sJ (fun h2 => by (try dsimp only at h2); exact h2)
noncomputable def F_X5_lowestIn (h : PH) (p0 : Int32) : Option (Int32) :=
 loop (fun (s1 : Int32) =>
  if (8 : Int32) ≤ s1 then
   some (.inr ((0 : Int32)))
  else
   if ((p0 >>> (s1 &&& 31)) &&& (1 : Int32)) = 0 then
    some (.inl ((s1 + (1 : Int32))))
   else
    some (.inr (s1))) ((0 : Int32))
set_option maxHeartbeats 4000000 in
set_option maxRecDepth 100000 in
theorem ok_X5_lowestIn (d : Nat) (hd : 1 ≤ d) (h : PH) (p0 : Int32) : ∀ z, F_X5_lowestIn h p0 = some z → Ex d 48 [.int p0] h (.inl (some (.int z))) (h) := by
  obtain ⟨d, rfl⟩ : ∃ e, d = e + 1 := ⟨d - 1, by omega⟩
  intro z hz
  refine ⟨rfl, ?_⟩
  refine (?_ : Sim (Ex d) mi_X5_lowestIn (fun o1 h1 => o1 = _ ∧ h1 = _) (F_X5_lowestIn h p0) (fun t => t = z) 0 [some (.int p0), none] [] h 0) z hz rfl
  unfold F_X5_lowestIn
  refine sS rfl rfl ?_
  refine sS rfl rfl ?_
  refine sL (pc := 2) (lv := fun (s1 : Int32) => [some (.int p0), some (.int s1)]) (h := fun (s1 : Int32) => h) (fun s1 => ?_) ((0 : Int32))
  refine sS rfl rfl ?_
  refine sS rfl rfl ?_
  refine sB rfl rfl ?_ ?_
  · refine sS rfl rfl ?_
    exact sR rfl rfl (fun hg => by cases hg; exact ⟨rfl, rfl⟩)
  · refine sS rfl rfl ?_
    refine sS rfl rfl ?_
    refine sS rfl rfl ?_
    refine sS rfl rfl ?_
    refine sS rfl rfl ?_
    refine sB rfl rfl ?_ ?_
    · refine sS rfl rfl ?_
      refine sS rfl rfl ?_
      exact sJ (fun h2 => by (try dsimp only at h2); exact h2)
    · refine sS rfl rfl ?_
      exact sR rfl rfl (fun hg => by cases hg; exact ⟨rfl, rfl⟩)
noncomputable def F_X5_cheapestPairs (S : PH → Int32 → Int32 → Option (Int32)) (h : PH) (p0 : Int32) (p1 : Int32) : Option (Int32) :=
 if ¬ p0 = 0 then
  (F_X5_lowestIn h p0).bind fun z1 =>
  loop (fun (s2 : Int32 × Int32) =>
   if (8 : Int32) ≤ s2.2 then
    some (.inr (s2.1))
   else
    if (4 : Int32) ≤ p1 then
     some (.inr (s2.1))
    else
     if (((p0 &&& (((1 : Int32) <<< (z1 &&& 31)) ^^^ (-1 : Int32))) >>> (s2.2 &&& 31)) &&& (1 : Int32)) = 0 then
      some (.inl (s2.1, (s2.2 + (1 : Int32))))
     else
      (S h ((p0 &&& (((1 : Int32) <<< (z1 &&& 31)) ^^^ (-1 : Int32))) &&& (((1 : Int32) <<< (s2.2 &&& 31)) ^^^ (-1 : Int32))) (p1 + (1 : Int32))).bind fun z3 =>
      some (.inl ((if ((if (F_X7_at 64 h 25 ((s2.2 * (8 : Int32)) + z1)) < (F_X7_at 64 h 25 ((z1 * (8 : Int32)) + s2.2)) then (F_X7_at 64 h 25 ((s2.2 * (8 : Int32)) + z1)) else (F_X7_at 64 h 25 ((z1 * (8 : Int32)) + s2.2))) + z3) < s2.1 then ((if (F_X7_at 64 h 25 ((s2.2 * (8 : Int32)) + z1)) < (F_X7_at 64 h 25 ((z1 * (8 : Int32)) + s2.2)) then (F_X7_at 64 h 25 ((s2.2 * (8 : Int32)) + z1)) else (F_X7_at 64 h 25 ((z1 * (8 : Int32)) + s2.2))) + z3) else s2.1), (s2.2 + (1 : Int32))))) ((100000000 : Int32), (z1 + (1 : Int32)))
 else
  some ((0 : Int32))
set_option maxHeartbeats 4000000 in
set_option maxRecDepth 100000 in
theorem ok_X5_cheapestPairs (S : PH → Int32 → Int32 → Option (Int32)) (dS : Nat) (hB : 1 ≤ dS) (hS : ∀ d, dS ≤ d → ∀ (h : PH) (p0 : Int32) (p1 : Int32), ∀ z, S h p0 p1 = some z → Ex d 47 [.ref 25, .int p0, .int p1] h (.inl (some (.int z))) (h)) (d : Nat) (hd : dS + 1 ≤ d) (h : PH) (p0 : Int32) (p1 : Int32) : ∀ z, F_X5_cheapestPairs S h p0 p1 = some z → Ex d 47 [.ref 25, .int p0, .int p1] h (.inl (some (.int z))) (h) := by
  obtain ⟨d, rfl⟩ : ∃ e, d = e + 1 := ⟨d - 1, by omega⟩
  intro z hz
  refine ⟨rfl, ?_⟩
  refine (?_ : Sim (Ex d) mi_X5_cheapestPairs (fun o1 h1 => o1 = _ ∧ h1 = _) (F_X5_cheapestPairs S h p0 p1) (fun t => t = z) 0 [some (.ref 25), some (.int p0), some (.int p1), none, none, none, none, none, none] [] h 0) z hz rfl
  unfold F_X5_cheapestPairs
  refine sS rfl rfl ?_
  refine sB rfl rfl ?_ ?_
  · refine sS rfl rfl ?_
    refine sC1 (c' := 0) rfl rfl rfl rfl rfl rfl (ok_X5_lowestIn d (by omega) h p0) (fun z1 => ?_)
    refine sS rfl rfl ?_
    refine sS rfl rfl ?_
    refine sS rfl rfl ?_
    refine sS rfl rfl ?_
    refine sS rfl rfl ?_
    refine sS rfl rfl ?_
    refine sS rfl rfl ?_
    refine sS rfl rfl ?_
    refine sS rfl rfl ?_
    refine sS rfl rfl ?_
    refine sS rfl rfl ?_
    refine sS rfl rfl ?_
    refine sS rfl rfl ?_
    refine sS rfl rfl ?_
    refine sS rfl rfl ?_
    refine sM [true, false, true, true, true, true, true, true, true] rfl ?_
    refine sL (pc := 29) (lv := fun (s2 : Int32 × Int32) => [some (.ref 25), none, some (.int p1), some (.int z1), some (.int ((p0 &&& (((1 : Int32) <<< (z1 &&& 31)) ^^^ (-1 : Int32))))), some (.int (s2.1)), some (.int (s2.2)), none, none]) (h := fun (s2 : Int32 × Int32) => h) (fun s2 => ?_) ((100000000 : Int32), (z1 + (1 : Int32)))
    refine sS rfl rfl ?_
    refine sS rfl rfl ?_
    refine sB rfl rfl ?_ ?_
    · refine sS rfl rfl ?_
      exact sR rfl rfl (fun hg => by cases hg; exact ⟨rfl, rfl⟩)
    · refine sS rfl rfl ?_
      refine sS rfl rfl ?_
      refine sB rfl rfl ?_ ?_
      · refine sS rfl rfl ?_
        exact sR rfl rfl (fun hg => by cases hg; exact ⟨rfl, rfl⟩)
      · refine sS rfl rfl ?_
        refine sS rfl rfl ?_
        refine sS rfl rfl ?_
        refine sS rfl rfl ?_
        refine sS rfl rfl ?_
        refine sB rfl rfl ?_ ?_
        · refine sS rfl rfl ?_
          refine sS rfl rfl ?_
          exact sJ (fun h2 => by (try dsimp only at h2); exact h2)
        · refine sS rfl rfl ?_
          refine sS rfl rfl ?_
          refine sS rfl rfl ?_
          refine sS rfl rfl ?_
          refine sS rfl rfl ?_
          refine sS rfl rfl ?_
          refine sT1 (c' := 0) rfl rfl rfl rfl rfl rfl (ok_X7_at d (by omega) 64 h 25 ((z1 * (8 : Int32)) + s2.2) rfl) ?_
          refine sS rfl rfl ?_
          refine sS rfl rfl ?_
          refine sS rfl rfl ?_
          refine sS rfl rfl ?_
          refine sS rfl rfl ?_
          refine sS rfl rfl ?_
          refine sT1 (c' := 0) rfl rfl rfl rfl rfl rfl (ok_X7_at d (by omega) 64 h 25 ((s2.2 * (8 : Int32)) + z1) rfl) ?_
          refine sS rfl rfl ?_
          refine sS rfl rfl ?_
          refine sS rfl rfl ?_
          refine sS rfl rfl ?_
          refine sS rfl rfl ?_
          refine sS rfl rfl ?_
          refine sS rfl rfl ?_
          refine sS rfl rfl ?_
          refine sS rfl rfl ?_
          refine sS rfl rfl ?_
          refine sS rfl rfl ?_
          refine sS rfl rfl ?_
          refine sS rfl rfl ?_
          refine sC1 (c' := 0) rfl rfl rfl rfl rfl rfl (hS d (by omega) h ((p0 &&& (((1 : Int32) <<< (z1 &&& 31)) ^^^ (-1 : Int32))) &&& (((1 : Int32) <<< (s2.2 &&& 31)) ^^^ (-1 : Int32))) (p1 + (1 : Int32))) (fun z3 => ?_)
          refine sS rfl rfl ?_
          refine sS rfl rfl ?_
          refine sS rfl rfl ?_
          refine sS rfl rfl ?_
          refine sS rfl rfl ?_
          refine sS rfl rfl ?_
          refine sS rfl rfl ?_
          refine sS rfl rfl ?_
          refine sS rfl rfl ?_
          refine sM [true, true, true, true, true, true, true, false, false] rfl ?_
          exact sJ (fun h2 => by (try dsimp only at h2); exact h2)
  · refine sS rfl rfl ?_
    exact sR rfl rfl (fun hg => by cases hg; exact ⟨rfl, rfl⟩)
noncomputable def R_X5_cheapestPairs : Nat → PH → Int32 → Int32 → Option (Int32)
  | 0 => fun _ _ _ => none
  | n + 1 => F_X5_cheapestPairs (R_X5_cheapestPairs n)
theorem okR_X5_cheapestPairs : ∀ (n d : Nat), 1 + 1 * n ≤ d → ∀ (h : PH) (p0 : Int32) (p1 : Int32), ∀ z, R_X5_cheapestPairs n h p0 p1 = some z → Ex d 47 [.ref 25, .int p0, .int p1] h (.inl (some (.int z))) (h)
  | 0 => fun d _ h p0 p1 z hz => by cases hz
  | n + 1 => fun d hd h p0 p1 z hz => ok_X5_cheapestPairs (R_X5_cheapestPairs n) (1 + 1 * n) (by omega) (okR_X5_cheapestPairs n) d (by omega) h p0 p1 z hz
