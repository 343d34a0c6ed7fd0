noncomputable def F_X7_limited (h : PH) (p0 : Int64) (p1 : Int32) (p2 : Int32) : Int32 :=
 (if (if p0 < p2.toInt64 then p0 else p2.toInt64) < p1.toInt64 then p1.toInt64 else (if p0 < p2.toInt64 then p0 else p2.toInt64)).toInt32
set_option maxHeartbeats 4000000 in
set_option maxRecDepth 100000 in
theorem ok_X7_limited (d : Nat) (hd : 1 ≤ d) (h : PH) (p0 : Int64) (p1 : Int32) (p2 : Int32) : Ex d 100 [.long p0, .int p1, .int p2] h (.inl (some (.int (F_X7_limited h p0 p1 p2)))) (h) := by
  obtain ⟨d, rfl⟩ : ∃ e, d = e + 1 := ⟨d - 1, by omega⟩
  suffices key : ∀ z, F_X7_limited h p0 p1 p2 = z → Ex (d + 1) 100 [.long p0, .int p1, .int p2] h (.inl (some (.int z))) (h) from key _ rfl
  intro z hz
  refine ⟨rfl, ?_⟩
  refine (?_ : Sim (Ex d) mi_X7_limited (fun o1 h1 => o1 = _ ∧ h1 = _) (some (F_X7_limited h p0 p1 p2)) (fun t => t = z) 0 [some (.long p0), none, some (.int p1), some (.int p2)] [] h 0) z (by rw [hz]) rfl
  clear hz
  unfold F_X7_limited
  refine sS rfl rfl ?_
  refine sS rfl rfl ?_
  refine sS rfl rfl ?_
  refine sS rfl rfl ?_
  refine sS rfl rfl ?_
  refine sS rfl rfl ?_
  refine sS rfl rfl ?_
  refine sS rfl rfl ?_
  exact sR rfl rfl (fun hg => by cases hg; exact ⟨rfl, rfl⟩)
noncomputable def F_X2_copyFrom (h : PH) (o : Nat) (w : Nat) : PH :=
 (F_X7_copyRow 3 (F_X7_copyRow 14 (F_X7_copyRow 28 (F_X7_copyRow 28 (F_X7_copyRow 28 (F_X7_copyRow 28 (pu (pu (pu (pu h o 0 (h.1 w 0)) o 1 ((pu h o 0 (h.1 w 0)).1 w 1)) o 2 ((pu (pu h o 0 (h.1 w 0)) o 1 ((pu h o 0 (h.1 w 0)).1 w 1)).1 w 2)) o 3 ((pu (pu (pu h o 0 (h.1 w 0)) o 1 ((pu h o 0 (h.1 w 0)).1 w 1)) o 2 ((pu (pu h o 0 (h.1 w 0)) o 1 ((pu h o 0 (h.1 w 0)).1 w 1)).1 w 2)).1 w 3)) (w + 1) (o + 1)) (w + 2) (o + 2)) (w + 3) (o + 3)) (w + 4) (o + 4)) (w + 5) (o + 5)) (w + 6) (o + 6))
set_option maxHeartbeats 4000000 in
set_option maxRecDepth 100000 in
theorem ok_X2_copyFrom (d : Nat) (hd : 2 ≤ d) (h : PH) (o : Nat) (Ho : isNet o) (w : Nat) (Hw : isNet w) (Hne : o ≠ w) : Ex d 9 [.ref o, .ref w] h (.inl (none)) ((F_X2_copyFrom h o w)) := by
  obtain ⟨d, rfl⟩ : ∃ e, d = e + 1 := ⟨d - 1, by omega⟩
  suffices key : ∀ z, F_X2_copyFrom h o w = z → Ex (d + 1) 9 [.ref o, .ref w] h (.inl (none)) (z) from key _ rfl
  intro z hz
  refine ⟨rfl, ?_⟩
  refine (?_ : Sim (Ex d) mi_X2_copyFrom (fun o1 h1 => o1 = _ ∧ h1 = _) (some (F_X2_copyFrom h o w)) (fun t => t = z) 0 [some (.ref o), some (.ref w)] [] h 0) z (by rw [hz]) rfl
  clear hz
  unfold F_X2_copyFrom
  refine sS rfl rfl ?_
  refine sS rfl rfl ?_
  refine sGi rfl Hw.1 rfl ?_
  refine sPi rfl Ho.1 rfl ?_
  refine sS rfl rfl ?_
  refine sS rfl rfl ?_
  refine sGi rfl Hw.1 rfl ?_
  refine sPi rfl Ho.1 rfl ?_
  refine sS rfl rfl ?_
  refine sS rfl rfl ?_
  refine sGi rfl Hw.1 rfl ?_
  refine sPi rfl Ho.1 rfl ?_
  refine sS rfl rfl ?_
  refine sS rfl rfl ?_
  refine sGi rfl Hw.1 rfl ?_
  refine sPi rfl Ho.1 rfl ?_
  refine sS rfl rfl ?_
  refine sGr rfl Hw.1 rfl ?_
  refine sS rfl rfl ?_
  refine sGr rfl Ho.1 rfl ?_
  refine sT0 (c' := 0) rfl rfl rfl rfl rfl rfl (ok_X7_copyRow d (by omega) 28 (pu (pu (pu (pu h o 0 (h.1 w 0)) o 1 ((pu h o 0 (h.1 w 0)).1 w 1)) o 2 ((pu (pu h o 0 (h.1 w 0)) o 1 ((pu h o 0 (h.1 w 0)).1 w 1)).1 w 2)) o 3 ((pu (pu (pu h o 0 (h.1 w 0)) o 1 ((pu h o 0 (h.1 w 0)).1 w 1)) o 2 ((pu (pu h o 0 (h.1 w 0)) o 1 ((pu h o 0 (h.1 w 0)).1 w 1)).1 w 2)).1 w 3)) (w + 1) (o + 1) Hw.2.1 Ho.2.1 (by omega)) ?_
  refine sS rfl rfl ?_
  refine sGr rfl Hw.1 rfl ?_
  refine sS rfl rfl ?_
  refine sGr rfl Ho.1 rfl ?_
  refine sT0 (c' := 0) rfl rfl rfl rfl rfl rfl (ok_X7_copyRow d (by omega) 28 (F_X7_copyRow 28 (pu (pu (pu (pu h o 0 (h.1 w 0)) o 1 ((pu h o 0 (h.1 w 0)).1 w 1)) o 2 ((pu (pu h o 0 (h.1 w 0)) o 1 ((pu h o 0 (h.1 w 0)).1 w 1)).1 w 2)) o 3 ((pu (pu (pu h o 0 (h.1 w 0)) o 1 ((pu h o 0 (h.1 w 0)).1 w 1)) o 2 ((pu (pu h o 0 (h.1 w 0)) o 1 ((pu h o 0 (h.1 w 0)).1 w 1)).1 w 2)).1 w 3)) (w + 1) (o + 1)) (w + 2) (o + 2) Hw.2.2.1 Ho.2.2.1 (by omega)) ?_
  refine sS rfl rfl ?_
  refine sGr rfl Hw.1 rfl ?_
  refine sS rfl rfl ?_
  refine sGr rfl Ho.1 rfl ?_
  refine sT0 (c' := 0) rfl rfl rfl rfl rfl rfl (ok_X7_copyRow d (by omega) 28 (F_X7_copyRow 28 (F_X7_copyRow 28 (pu (pu (pu (pu h o 0 (h.1 w 0)) o 1 ((pu h o 0 (h.1 w 0)).1 w 1)) o 2 ((pu (pu h o 0 (h.1 w 0)) o 1 ((pu h o 0 (h.1 w 0)).1 w 1)).1 w 2)) o 3 ((pu (pu (pu h o 0 (h.1 w 0)) o 1 ((pu h o 0 (h.1 w 0)).1 w 1)) o 2 ((pu (pu h o 0 (h.1 w 0)) o 1 ((pu h o 0 (h.1 w 0)).1 w 1)).1 w 2)).1 w 3)) (w + 1) (o + 1)) (w + 2) (o + 2)) (w + 3) (o + 3) Hw.2.2.2.1 Ho.2.2.2.1 (by omega)) ?_
  refine sS rfl rfl ?_
  refine sGr rfl Hw.1 rfl ?_
  refine sS rfl rfl ?_
  refine sGr rfl Ho.1 rfl ?_
  refine sT0 (c' := 0) rfl rfl rfl rfl rfl rfl (ok_X7_copyRow d (by omega) 28 (F_X7_copyRow 28 (F_X7_copyRow 28 (F_X7_copyRow 28 (pu (pu (pu (pu h o 0 (h.1 w 0)) o 1 ((pu h o 0 (h.1 w 0)).1 w 1)) o 2 ((pu (pu h o 0 (h.1 w 0)) o 1 ((pu h o 0 (h.1 w 0)).1 w 1)).1 w 2)) o 3 ((pu (pu (pu h o 0 (h.1 w 0)) o 1 ((pu h o 0 (h.1 w 0)).1 w 1)) o 2 ((pu (pu h o 0 (h.1 w 0)) o 1 ((pu h o 0 (h.1 w 0)).1 w 1)).1 w 2)).1 w 3)) (w + 1) (o + 1)) (w + 2) (o + 2)) (w + 3) (o + 3)) (w + 4) (o + 4) Hw.2.2.2.2.1 Ho.2.2.2.2.1 (by omega)) ?_
  refine sS rfl rfl ?_
  refine sGr rfl Hw.1 rfl ?_
  refine sS rfl rfl ?_
  refine sGr rfl Ho.1 rfl ?_
  refine sT0 (c' := 0) rfl rfl rfl rfl rfl rfl (ok_X7_copyRow d (by omega) 14 (F_X7_copyRow 28 (F_X7_copyRow 28 (F_X7_copyRow 28 (F_X7_copyRow 28 (pu (pu (pu (pu h o 0 (h.1 w 0)) o 1 ((pu h o 0 (h.1 w 0)).1 w 1)) o 2 ((pu (pu h o 0 (h.1 w 0)) o 1 ((pu h o 0 (h.1 w 0)).1 w 1)).1 w 2)) o 3 ((pu (pu (pu h o 0 (h.1 w 0)) o 1 ((pu h o 0 (h.1 w 0)).1 w 1)) o 2 ((pu (pu h o 0 (h.1 w 0)) o 1 ((pu h o 0 (h.1 w 0)).1 w 1)).1 w 2)).1 w 3)) (w + 1) (o + 1)) (w + 2) (o + 2)) (w + 3) (o + 3)) (w + 4) (o + 4)) (w + 5) (o + 5) Hw.2.2.2.2.2.1 Ho.2.2.2.2.2.1 (by omega)) ?_
  refine sS rfl rfl ?_
  refine sGr rfl Hw.1 rfl ?_
  refine sS rfl rfl ?_
  refine sGr rfl Ho.1 rfl ?_
  refine sT0 (c' := 0) rfl rfl rfl rfl rfl rfl (ok_X7_copyRow d (by omega) 3 (F_X7_copyRow 14 (F_X7_copyRow 28 (F_X7_copyRow 28 (F_X7_copyRow 28 (F_X7_copyRow 28 (pu (pu (pu (pu h o 0 (h.1 w 0)) o 1 ((pu h o 0 (h.1 w 0)).1 w 1)) o 2 ((pu (pu h o 0 (h.1 w 0)) o 1 ((pu h o 0 (h.1 w 0)).1 w 1)).1 w 2)) o 3 ((pu (pu (pu h o 0 (h.1 w 0)) o 1 ((pu h o 0 (h.1 w 0)).1 w 1)) o 2 ((pu (pu h o 0 (h.1 w 0)) o 1 ((pu h o 0 (h.1 w 0)).1 w 1)).1 w 2)).1 w 3)) (w + 1) (o + 1)) (w + 2) (o + 2)) (w + 3) (o + 3)) (w + 4) (o + 4)) (w + 5) (o + 5)) (w + 6) (o + 6) Hw.2.2.2.2.2.2 Ho.2.2.2.2.2.2 (by omega)) ?_
  exact sR rfl rfl (fun hg => by cases hg; exact ⟨rfl, rfl⟩)
noncomputable def F_X3_copyFrom (h : PH) (o : Nat) (w : Nat) : PH :=
 (F_X7_copyRow 56 (F_X7_copyRow 4 (F_X7_copyRow 4 (pu h o 0 (h.1 w 0)) (w + 1) (o + 1)) (w + 2) (o + 2)) (w + 3) (o + 3))
set_option maxHeartbeats 4000000 in
set_option maxRecDepth 100000 in
theorem ok_X3_copyFrom (d : Nat) (hd : 2 ≤ d) (h : PH) (o : Nat) (Ho : isPlan o) (w : Nat) (Hw : isPlan w) (Hne : o ≠ w) : Ex d 20 [.ref o, .ref w] h (.inl (none)) ((F_X3_copyFrom h o w)) := by
  obtain ⟨d, rfl⟩ : ∃ e, d = e + 1 := ⟨d - 1, by omega⟩
  suffices key : ∀ z, F_X3_copyFrom h o w = z → Ex (d + 1) 20 [.ref o, .ref w] h (.inl (none)) (z) from key _ rfl
  intro z hz
  refine ⟨rfl, ?_⟩
  refine (?_ : Sim (Ex d) mi_X3_copyFrom (fun o1 h1 => o1 = _ ∧ h1 = _) (some (F_X3_copyFrom h o w)) (fun t => t = z) 0 [some (.ref o), some (.ref w)] [] h 0) z (by rw [hz]) rfl
  clear hz
  unfold F_X3_copyFrom
  refine sS rfl rfl ?_
  refine sS rfl rfl ?_
  refine sGi rfl Hw.1 rfl ?_
  refine sPi rfl Ho.1 rfl ?_
  refine sS rfl rfl ?_
  refine sGr rfl Hw.1 rfl ?_
  refine sS rfl rfl ?_
  refine sGr rfl Ho.1 rfl ?_
  refine sT0 (c' := 0) rfl rfl rfl rfl rfl rfl (ok_X7_copyRow d (by omega) 4 (pu h o 0 (h.1 w 0)) (w + 1) (o + 1) Hw.2.1 Ho.2.1 (by omega)) ?_
  refine sS rfl rfl ?_
  refine sGr rfl Hw.1 rfl ?_
  refine sS rfl rfl ?_
  refine sGr rfl Ho.1 rfl ?_
  refine sT0 (c' := 0) rfl rfl rfl rfl rfl rfl (ok_X7_copyRow d (by omega) 4 (F_X7_copyRow 4 (pu h o 0 (h.1 w 0)) (w + 1) (o + 1)) (w + 2) (o + 2) Hw.2.2.1 Ho.2.2.1 (by omega)) ?_
  refine sS rfl rfl ?_
  refine sGr rfl Hw.1 rfl ?_
  refine sS rfl rfl ?_
  refine sGr rfl Ho.1 rfl ?_
  refine sT0 (c' := 0) rfl rfl rfl rfl rfl rfl (ok_X7_copyRow d (by omega) 56 (F_X7_copyRow 4 (F_X7_copyRow 4 (pu h o 0 (h.1 w 0)) (w + 1) (o + 1)) (w + 2) (o + 2)) (w + 3) (o + 3) Hw.2.2.2 Ho.2.2.2 (by omega)) ?_
  exact sR rfl rfl (fun hg => by cases hg; exact ⟨rfl, rfl⟩)
noncomputable def F_X2_clear (h : PH) : PH :=
 (pu (pu (pu (pu h 3 0 (0 : Int32)) 3 1 (0 : Int32)) 3 2 (0 : Int32)) 3 3 (0 : Int32))
set_option maxHeartbeats 4000000 in
set_option maxRecDepth 100000 in
theorem ok_X2_clear (d : Nat) (hd : 1 ≤ d) (h : PH) : Ex d 8 [.ref 3] h (.inl (none)) ((F_X2_clear h)) := by
  obtain ⟨d, rfl⟩ : ∃ e, d = e + 1 := ⟨d - 1, by omega⟩
  suffices key : ∀ z, F_X2_clear h = z → Ex (d + 1) 8 [.ref 3] h (.inl (none)) (z) from key _ rfl
  intro z hz
  refine ⟨rfl, ?_⟩
  refine (?_ : Sim (Ex d) mi_X2_clear (fun o1 h1 => o1 = _ ∧ h1 = _) (some (F_X2_clear h)) (fun t => t = z) 0 [some (.ref 3)] [] h 0) z (by rw [hz]) rfl
  clear hz
  unfold F_X2_clear
  refine sS rfl rfl ?_
  refine sS rfl rfl ?_
  refine sS rfl rfl ?_
  refine sS rfl rfl ?_
  refine sS rfl rfl ?_
  refine sS rfl rfl ?_
  refine sS rfl rfl ?_
  refine sS rfl rfl ?_
  refine sS rfl rfl ?_
  refine sS rfl rfl ?_
  refine sS rfl rfl ?_
  refine sS rfl rfl ?_
  exact sR rfl rfl (fun hg => by cases hg; exact ⟨rfl, rfl⟩)
noncomputable def F_X2_putArc (h : PH) (p0 : Int32) (p1 : Int32) (p2 : Int32) : PH :=
 (F_X7_put 28 (F_X7_put 28 (F_X7_put 28 (F_X7_put 28 h 4 p0 p1) 5 p0 p2) 6 p0 p2) 7 p0 (0 : Int32))
set_option maxHeartbeats 4000000 in
set_option maxRecDepth 100000 in
theorem ok_X2_putArc (d : Nat) (hd : 2 ≤ d) (h : PH) (p0 : Int32) (p1 : Int32) (p2 : Int32) : Ex d 11 [.ref 3, .int p0, .int p1, .int p2] h (.inl (none)) ((F_X2_putArc h p0 p1 p2)) := by
  obtain ⟨d, rfl⟩ : ∃ e, d = e + 1 := ⟨d - 1, by omega⟩
  suffices key : ∀ z, F_X2_putArc h p0 p1 p2 = z → Ex (d + 1) 11 [.ref 3, .int p0, .int p1, .int p2] h (.inl (none)) (z) from key _ rfl
  intro z hz
  refine ⟨rfl, ?_⟩
  refine (?_ : Sim (Ex d) mi_X2_putArc (fun o1 h1 => o1 = _ ∧ h1 = _) (some (F_X2_putArc h p0 p1 p2)) (fun t => t = z) 0 [some (.ref 3), some (.int p0), some (.int p1), some (.int p2)] [] h 0) z (by rw [hz]) rfl
  clear hz
  unfold F_X2_putArc
  refine sS rfl rfl ?_
  refine sS rfl rfl ?_
  refine sS rfl rfl ?_
  refine sS rfl rfl ?_
  refine sT0 (c' := 0) rfl rfl rfl rfl rfl rfl (ok_X7_put d (by omega) 28 h 4 p0 p1 rfl) ?_
  refine sS rfl rfl ?_
  refine sS rfl rfl ?_
  refine sS rfl rfl ?_
  refine sS rfl rfl ?_
  refine sT0 (c' := 0) rfl rfl rfl rfl rfl rfl (ok_X7_put d (by omega) 28 (F_X7_put 28 h 4 p0 p1) 5 p0 p2 rfl) ?_
  refine sS rfl rfl ?_
  refine sS rfl rfl ?_
  refine sS rfl rfl ?_
  refine sS rfl rfl ?_
  refine sT0 (c' := 0) rfl rfl rfl rfl rfl rfl (ok_X7_put d (by omega) 28 (F_X7_put 28 (F_X7_put 28 h 4 p0 p1) 5 p0 p2) 6 p0 p2 rfl) ?_
  refine sS rfl rfl ?_
  refine sS rfl rfl ?_
  refine sS rfl rfl ?_
  refine sS rfl rfl ?_
  refine sT0 (c' := 0) rfl rfl rfl rfl rfl rfl (ok_X7_put d (by omega) 28 (F_X7_put 28 (F_X7_put 28 (F_X7_put 28 h 4 p0 p1) 5 p0 p2) 6 p0 p2) 7 p0 (0 : Int32) rfl) ?_
  exact sR rfl rfl (fun hg => by cases hg; exact ⟨rfl, rfl⟩)
noncomputable def F_X2_addEdge (h : PH) (p0 : Int32) (p1 : Int32) (p2 : Int32) (p3 : Int32) (p4 : Int32) : PH :=
 if (h.1 3 2) < (14 : Int32) then
  (pu (F_X7_put 14 (F_X2_putArc (F_X2_putArc h ((2 : Int32) * (h.1 3 2)) p0 p2) (((2 : Int32) * ((F_X2_putArc h ((2 : Int32) * (h.1 3 2)) p0 p2).1 3 2)) + (1 : Int32)) p1 p3) 8 ((F_X2_putArc (F_X2_putArc h ((2 : Int32) * (h.1 3 2)) p0 p2) (((2 : Int32) * ((F_X2_putArc h ((2 : Int32) * (h.1 3 2)) p0 p2).1 3 2)) + (1 : Int32)) p1 p3).1 3 2) p4) 3 2 (((F_X7_put 14 (F_X2_putArc (F_X2_putArc h ((2 : Int32) * (h.1 3 2)) p0 p2) (((2 : Int32) * ((F_X2_putArc h ((2 : Int32) * (h.1 3 2)) p0 p2).1 3 2)) + (1 : Int32)) p1 p3) 8 ((F_X2_putArc (F_X2_putArc h ((2 : Int32) * (h.1 3 2)) p0 p2) (((2 : Int32) * ((F_X2_putArc h ((2 : Int32) * (h.1 3 2)) p0 p2).1 3 2)) + (1 : Int32)) p1 p3).1 3 2) p4).1 3 2) + (1 : Int32)))
 else
  h
set_option maxHeartbeats 4000000 in
set_option maxRecDepth 100000 in
theorem ok_X2_addEdge (d : Nat) (hd : 3 ≤ d) (h : PH) (p0 : Int32) (p1 : Int32) (p2 : Int32) (p3 : Int32) (p4 : Int32) : Ex d 10 [.ref 3, .int p0, .int p1, .int p2, .int p3, .int p4] h (.inl (none)) ((F_X2_addEdge h p0 p1 p2 p3 p4)) := by
  obtain ⟨d, rfl⟩ : ∃ e, d = e + 1 := ⟨d - 1, by omega⟩
  suffices key : ∀ z, F_X2_addEdge h p0 p1 p2 p3 p4 = z → Ex (d + 1) 10 [.ref 3, .int p0, .int p1, .int p2, .int p3, .int p4] h (.inl (none)) (z) from key _ rfl
  intro z hz
  refine ⟨rfl, ?_⟩
  refine (?_ : Sim (Ex d) mi_X2_addEdge (fun o1 h1 => o1 = _ ∧ h1 = _) (some (F_X2_addEdge h p0 p1 p2 p3 p4)) (fun t => t = z) 0 [some (.ref 3), some (.int p0), some (.int p1), some (.int p2), some (.int p3), some (.int p4)] [] h 0) z (by rw [hz]) rfl
  clear hz
  unfold F_X2_addEdge
  refine sS rfl rfl ?_
  refine sS rfl rfl ?_
  refine sS rfl rfl ?_
  refine sBt rfl rfl ?_ ?_
  · refine sS rfl rfl ?_
    refine sS rfl rfl ?_
    refine sS rfl rfl ?_
    refine sS rfl rfl ?_
    refine sS rfl rfl ?_
    refine sS rfl rfl ?_
    refine sS rfl rfl ?_
    refine sT0 (c' := 0) rfl rfl rfl rfl rfl rfl (ok_X2_putArc d (by omega) h ((2 : Int32) * (h.1 3 2)) p0 p2) ?_
    refine sS rfl rfl ?_
    refine sS rfl rfl ?_
    refine sS rfl rfl ?_
    refine sS rfl rfl ?_
    refine sS rfl rfl ?_
    refine sS rfl rfl ?_
    refine sS rfl rfl ?_
    refine sS rfl rfl ?_
    refine sS rfl rfl ?_
    refine sT0 (c' := 0) rfl rfl rfl rfl rfl rfl (ok_X2_putArc d (by omega) (F_X2_putArc h ((2 : Int32) * (h.1 3 2)) p0 p2) (((2 : Int32) * ((F_X2_putArc h ((2 : Int32) * (h.1 3 2)) p0 p2).1 3 2)) + (1 : Int32)) p1 p3) ?_
    refine sS rfl rfl ?_
    refine sS rfl rfl ?_
    refine sS rfl rfl ?_
    refine sS rfl rfl ?_
    refine sS rfl rfl ?_
    refine sT0 (c' := 0) rfl rfl rfl rfl rfl rfl (ok_X7_put d (by omega) 14 (F_X2_putArc (F_X2_putArc h ((2 : Int32) * (h.1 3 2)) p0 p2) (((2 : Int32) * ((F_X2_putArc h ((2 : Int32) * (h.1 3 2)) p0 p2).1 3 2)) + (1 : Int32)) p1 p3) 8 ((F_X2_putArc (F_X2_putArc h ((2 : Int32) * (h.1 3 2)) p0 p2) (((2 : Int32) * ((F_X2_putArc h ((2 : Int32) * (h.1 3 2)) p0 p2).1 3 2)) + (1 : Int32)) p1 p3).1 3 2) p4 rfl) ?_
    refine sS rfl rfl ?_
    refine sS rfl rfl ?_
    refine sS rfl rfl ?_
    refine sS rfl rfl ?_
    refine sS rfl rfl ?_
    refine sS rfl rfl ?_
    exact sR rfl rfl (fun hg => by cases hg; exact ⟨rfl, rfl⟩)
  · exact sR rfl rfl (fun hg => by cases hg; exact ⟨rfl, rfl⟩)
noncomputable def F_X2_addDepot (h : PH) (p0 : Int32) : PH :=
 if (h.1 3 3) < (3 : Int32) then
  (pu (F_X7_put 3 h 9 (h.1 3 3) p0) 3 3 (((F_X7_put 3 h 9 (h.1 3 3) p0).1 3 3) + (1 : Int32)))
 else
  h
set_option maxHeartbeats 4000000 in
set_option maxRecDepth 100000 in
theorem ok_X2_addDepot (d : Nat) (hd : 2 ≤ d) (h : PH) (p0 : Int32) : Ex d 12 [.ref 3, .int p0] h (.inl (none)) ((F_X2_addDepot h p0)) := by
  obtain ⟨d, rfl⟩ : ∃ e, d = e + 1 := ⟨d - 1, by omega⟩
  suffices key : ∀ z, F_X2_addDepot h p0 = z → Ex (d + 1) 12 [.ref 3, .int p0] h (.inl (none)) (z) from key _ rfl
  intro z hz
  refine ⟨rfl, ?_⟩
  refine (?_ : Sim (Ex d) mi_X2_addDepot (fun o1 h1 => o1 = _ ∧ h1 = _) (some (F_X2_addDepot h p0)) (fun t => t = z) 0 [some (.ref 3), some (.int p0)] [] h 0) z (by rw [hz]) rfl
  clear hz
  unfold F_X2_addDepot
  refine sS rfl rfl ?_
  refine sS rfl rfl ?_
  refine sS rfl rfl ?_
  refine sBt rfl rfl ?_ ?_
  · refine sS rfl rfl ?_
    refine sS rfl rfl ?_
    refine sS rfl rfl ?_
    refine sS rfl rfl ?_
    refine sS rfl rfl ?_
    refine sT0 (c' := 0) rfl rfl rfl rfl rfl rfl (ok_X7_put d (by omega) 3 h 9 (h.1 3 3) p0 rfl) ?_
    refine sS rfl rfl ?_
    refine sS rfl rfl ?_
    refine sS rfl rfl ?_
    refine sS rfl rfl ?_
    refine sS rfl rfl ?_
    refine sS rfl rfl ?_
    exact sR rfl rfl (fun hg => by cases hg; exact ⟨rfl, rfl⟩)
  · exact sR rfl rfl (fun hg => by cases hg; exact ⟨rfl, rfl⟩)
noncomputable def F_X2_end (h : PH) (o : Nat) (p0 : Int32) : Int32 :=
 (F_X7_at 28 h (o + 1) (p0 ^^^ (1 : Int32)))
set_option maxHeartbeats 4000000 in
set_option maxRecDepth 100000 in
theorem ok_X2_end (d : Nat) (hd : 2 ≤ d) (h : PH) (o : Nat) (Ho : isNet o) (p0 : Int32) : Ex d 15 [.ref o, .int p0] h (.inl (some (.int (F_X2_end h o p0)))) (h) := by
  obtain ⟨d, rfl⟩ : ∃ e, d = e + 1 := ⟨d - 1, by omega⟩
  suffices key : ∀ z, F_X2_end h o p0 = z → Ex (d + 1) 15 [.ref o, .int p0] h (.inl (some (.int z))) (h) from key _ rfl
  intro z hz
  refine ⟨rfl, ?_⟩
  refine (?_ : Sim (Ex d) mi_X2_end (fun o1 h1 => o1 = _ ∧ h1 = _) (some (F_X2_end h o p0)) (fun t => t = z) 0 [some (.ref o), some (.int p0)] [] h 0) z (by rw [hz]) rfl
  clear hz
  unfold F_X2_end
  refine sS rfl rfl ?_
  refine sGr rfl Ho.1 rfl ?_
  refine sS rfl rfl ?_
  refine sS rfl rfl ?_
  refine sS rfl rfl ?_
  refine sT1 (c' := 0) rfl rfl rfl rfl rfl rfl (ok_X7_at d (by omega) 28 h (o + 1) (p0 ^^^ (1 : Int32)) Ho.2.1) ?_
  exact sR rfl rfl (fun hg => by cases hg; exact ⟨rfl, rfl⟩)
noncomputable def F_X2_banTurn (h : PH) (p0 : Int32) (p1 : Int32) (p2 : Int32) : PH :=
 if ¬ (F_X2_end h 3 ((2 : Int32) * p1)) = p0 then
  (F_X7_put 28 h 7 (((2 : Int32) * p1) + (1 : Int32)) ((F_X7_at 28 h 7 (((2 : Int32) * p1) + (1 : Int32))) ||| ((1 : Int32) <<< (p2 &&& 31))))
 else
  (F_X7_put 28 h 7 ((2 : Int32) * p1) ((F_X7_at 28 h 7 ((2 : Int32) * p1)) ||| ((1 : Int32) <<< (p2 &&& 31))))
set_option maxHeartbeats 4000000 in
set_option maxRecDepth 100000 in
theorem ok_X2_banTurn (d : Nat) (hd : 3 ≤ d) (h : PH) (p0 : Int32) (p1 : Int32) (p2 : Int32) : Ex d 13 [.ref 3, .int p0, .int p1, .int p2] h (.inl (none)) ((F_X2_banTurn h p0 p1 p2)) := by
  obtain ⟨d, rfl⟩ : ∃ e, d = e + 1 := ⟨d - 1, by omega⟩
  suffices key : ∀ z, F_X2_banTurn h p0 p1 p2 = z → Ex (d + 1) 13 [.ref 3, .int p0, .int p1, .int p2] h (.inl (none)) (z) from key _ rfl
  intro z hz
  refine ⟨rfl, ?_⟩
  refine (?_ : Sim (Ex d) mi_X2_banTurn (fun o1 h1 => o1 = _ ∧ h1 = _) (some (F_X2_banTurn h p0 p1 p2)) (fun t => t = z) 0 [some (.ref 3), some (.int p0), some (.int p1), some (.int p2), none] [] h 0) z (by rw [hz]) rfl
  clear hz
  unfold F_X2_banTurn
  refine sS rfl rfl ?_
  refine sS rfl rfl ?_
  refine sS rfl rfl ?_
  refine sS rfl rfl ?_
  refine sT1 (c' := 0) rfl rfl rfl rfl rfl rfl (ok_X2_end d (by omega) h 3 isNet_r ((2 : Int32) * p1)) ?_
  refine sS rfl rfl ?_
  refine sBt rfl rfl ?_ ?_
  · refine sS rfl rfl ?_
    refine sS rfl rfl ?_
    refine sS rfl rfl ?_
    refine sS rfl rfl ?_
    refine sS rfl rfl ?_
    refine sS rfl rfl ?_
    refine sS rfl rfl ?_
    refine sS rfl rfl ?_
    refine sS rfl rfl ?_
    refine sS rfl rfl ?_
    refine sS rfl rfl ?_
    refine sS rfl rfl ?_
    refine sT1 (c' := 0) rfl rfl rfl rfl rfl rfl (ok_X7_at d (by omega) 28 h 7 (((2 : Int32) * p1) + (1 : Int32)) rfl) ?_
    refine sS rfl rfl ?_
    refine sS rfl rfl ?_
    refine sS rfl rfl ?_
    refine sS rfl rfl ?_
    refine sT0 (c' := 0) rfl rfl rfl rfl rfl rfl (ok_X7_put d (by omega) 28 h 7 (((2 : Int32) * p1) + (1 : Int32)) ((F_X7_at 28 h 7 (((2 : Int32) * p1) + (1 : Int32))) ||| ((1 : Int32) <<< (p2 &&& 31))) rfl) ?_
    exact sR rfl rfl (fun hg => by cases hg; exact ⟨rfl, rfl⟩)
  · refine sS rfl rfl ?_
    refine sS rfl rfl ?_
    refine sS rfl rfl ?_
    refine sS rfl rfl ?_
    refine sS rfl rfl ?_
    refine sS rfl rfl ?_
    refine sS rfl rfl ?_
    refine sS rfl rfl ?_
    refine sS rfl rfl ?_
    refine sS rfl rfl ?_
    refine sS rfl rfl ?_
    refine sT1 (c' := 0) rfl rfl rfl rfl rfl rfl (ok_X7_at d (by omega) 28 h 7 ((2 : Int32) * p1) rfl) ?_
    refine sS rfl rfl ?_
    refine sS rfl rfl ?_
    refine sS rfl rfl ?_
    refine sS rfl rfl ?_
    refine sT0 (c' := 0) rfl rfl rfl rfl rfl rfl (ok_X7_put d (by omega) 28 h 7 ((2 : Int32) * p1) ((F_X7_at 28 h 7 ((2 : Int32) * p1)) ||| ((1 : Int32) <<< (p2 &&& 31))) rfl) ?_
    exact sR rfl rfl (fun hg => by cases hg; exact ⟨rfl, rfl⟩)
noncomputable def F_X2_start (h : PH) (o : Nat) (p0 : Int32) : Int32 :=
 (F_X7_at 28 h (o + 1) p0)
set_option maxHeartbeats 4000000 in
set_option maxRecDepth 100000 in
theorem ok_X2_start (d : Nat) (hd : 2 ≤ d) (h : PH) (o : Nat) (Ho : isNet o) (p0 : Int32) : Ex d 14 [.ref o, .int p0] h (.inl (some (.int (F_X2_start h o p0)))) (h) := by
  obtain ⟨d, rfl⟩ : ∃ e, d = e + 1 := ⟨d - 1, by omega⟩
  suffices key : ∀ z, F_X2_start h o p0 = z → Ex (d + 1) 14 [.ref o, .int p0] h (.inl (some (.int z))) (h) from key _ rfl
  intro z hz
  refine ⟨rfl, ?_⟩
  refine (?_ : Sim (Ex d) mi_X2_start (fun o1 h1 => o1 = _ ∧ h1 = _) (some (F_X2_start h o p0)) (fun t => t = z) 0 [some (.ref o), some (.int p0)] [] h 0) z (by rw [hz]) rfl
  clear hz
  unfold F_X2_start
  refine sS rfl rfl ?_
  refine sGr rfl Ho.1 rfl ?_
  refine sS rfl rfl ?_
  refine sT1 (c' := 0) rfl rfl rfl rfl rfl rfl (ok_X7_at d (by omega) 28 h (o + 1) p0 Ho.2.1) ?_
  exact sR rfl rfl (fun hg => by cases hg; exact ⟨rfl, rfl⟩)
noncomputable def F_X2_touches (h : PH) (p0 : Int32) (p1 : Int32) : Int32 :=
 if (F_X2_start h 3 ((2 : Int32) * p0)) = p1 then
  (1 : Int32)
 else
  if ¬ (F_X2_end h 3 ((2 : Int32) * p0)) = p1 then
   (0 : Int32)
  else
   (1 : Int32)
set_option maxHeartbeats 4000000 in
set_option maxRecDepth 100000 in
theorem ok_X2_touches (d : Nat) (hd : 3 ≤ d) (h : PH) (p0 : Int32) (p1 : Int32) : Ex d 16 [.ref 3, .int p0, .int p1] h (.inl (some (.int (F_X2_touches h p0 p1)))) (h) := by
  obtain ⟨d, rfl⟩ : ∃ e, d = e + 1 := ⟨d - 1, by omega⟩
  suffices key : ∀ z, F_X2_touches h p0 p1 = z → Ex (d + 1) 16 [.ref 3, .int p0, .int p1] h (.inl (some (.int z))) (h) from key _ rfl
  intro z hz
  refine ⟨rfl, ?_⟩
  refine (?_ : Sim (Ex d) mi_X2_touches (fun o1 h1 => o1 = _ ∧ h1 = _) (some (F_X2_touches h p0 p1)) (fun t => t = z) 0 [some (.ref 3), some (.int p0), some (.int p1)] [] h 0) z (by rw [hz]) rfl
  clear hz
  unfold F_X2_touches
  refine sS rfl rfl ?_
  refine sS rfl rfl ?_
  refine sS rfl rfl ?_
  refine sS rfl rfl ?_
  refine sT1 (c' := 0) rfl rfl rfl rfl rfl rfl (ok_X2_start d (by omega) h 3 isNet_r ((2 : Int32) * p0)) ?_
  refine sS rfl rfl ?_
  refine sBt rfl rfl ?_ ?_
  · refine sS rfl rfl ?_
    refine sS rfl rfl ?_
    exact sR rfl rfl (fun hg => by cases hg; exact ⟨rfl, rfl⟩)
  · refine sS rfl rfl ?_
    refine sS rfl rfl ?_
    refine sS rfl rfl ?_
    refine sS rfl rfl ?_
    refine sT1 (c' := 0) rfl rfl rfl rfl rfl rfl (ok_X2_end d (by omega) h 3 isNet_r ((2 : Int32) * p0)) ?_
    refine sS rfl rfl ?_
    refine sBt rfl rfl ?_ ?_
    · refine sS rfl rfl ?_
      exact sR rfl rfl (fun hg => by cases hg; exact ⟨rfl, rfl⟩)
    · refine sS rfl rfl ?_
      refine sS rfl rfl ?_
      exact sR rfl rfl (fun hg => by cases hg; exact ⟨rfl, rfl⟩)
noncomputable def F_X2_allowsTurn (h : PH) (p0 : Int32) (p1 : Int32) : Int32 :=
 if ¬ (F_X2_end h 14 p0) = (F_X2_start h 14 p1) then
  (0 : Int32)
 else
  if ¬ (((F_X7_at 28 h 18 p0) >>> ((p1 / (2 : Int32)) &&& 31)) &&& (1 : Int32)) = 0 then
   (0 : Int32)
  else
   (1 : Int32)
set_option maxHeartbeats 4000000 in
set_option maxRecDepth 100000 in
theorem ok_X2_allowsTurn (d : Nat) (hd : 3 ≤ d) (h : PH) (p0 : Int32) (p1 : Int32) : Ex d 17 [.ref 14, .int p0, .int p1] h (.inl (some (.int (F_X2_allowsTurn h p0 p1)))) (h) := by
  obtain ⟨d, rfl⟩ : ∃ e, d = e + 1 := ⟨d - 1, by omega⟩
  suffices key : ∀ z, F_X2_allowsTurn h p0 p1 = z → Ex (d + 1) 17 [.ref 14, .int p0, .int p1] h (.inl (some (.int z))) (h) from key _ rfl
  intro z hz
  refine ⟨rfl, ?_⟩
  refine (?_ : Sim (Ex d) mi_X2_allowsTurn (fun o1 h1 => o1 = _ ∧ h1 = _) (some (F_X2_allowsTurn h p0 p1)) (fun t => t = z) 0 [some (.ref 14), some (.int p0), some (.int p1)] [] h 0) z (by rw [hz]) rfl
  clear hz
  unfold F_X2_allowsTurn
  refine sS rfl rfl ?_
  refine sS rfl rfl ?_
  refine sT1 (c' := 0) rfl rfl rfl rfl rfl rfl (ok_X2_end d (by omega) h 14 isNet_p p0) ?_
  refine sS rfl rfl ?_
  refine sS rfl rfl ?_
  refine sT1 (c' := 0) rfl rfl rfl rfl rfl rfl (ok_X2_start d (by omega) h 14 isNet_p p1) ?_
  refine sBt rfl rfl ?_ ?_
  · refine sS rfl rfl ?_
    exact sR rfl rfl (fun hg => by cases hg; exact ⟨rfl, rfl⟩)
  · refine sS rfl rfl ?_
    refine sS rfl rfl ?_
    refine sS rfl rfl ?_
    refine sT1 (c' := 0) rfl rfl rfl rfl rfl rfl (ok_X7_at d (by omega) 28 h 18 p0 rfl) ?_
    refine sS rfl rfl ?_
    refine sS rfl rfl ?_
    refine sS rfl rfl ?_
    refine sS rfl rfl ?_
    refine sS rfl rfl ?_
    refine sS rfl rfl ?_
    refine sBt rfl rfl ?_ ?_
    · refine sS rfl rfl ?_
      exact sR rfl rfl (fun hg => by cases hg; exact ⟨rfl, rfl⟩)
    · refine sS rfl rfl ?_
      refine sS rfl rfl ?_
      exact sR rfl rfl (fun hg => by cases hg; exact ⟨rfl, rfl⟩)
noncomputable def F_X2_oddSet (h : PH) : Option (Int32) :=
 loop (fun (s1 : Int32 × Int32) =>
  if (h.1 14 2) ≤ s1.2 then
   some (.inr (s1.1))
  else
   if (F_X7_at 14 h 19 s1.2) ≤ 0 then
    some (.inl (s1.1, (s1.2 + (1 : Int32))))
   else
    some (.inl (((s1.1 ^^^ ((1 : Int32) <<< ((F_X2_start h 14 ((2 : Int32) * s1.2)) &&& 31))) ^^^ ((1 : Int32) <<< ((F_X2_end h 14 ((2 : Int32) * s1.2)) &&& 31))), (s1.2 + (1 : Int32))))) ((0 : Int32), (0 : Int32))
set_option maxHeartbeats 4000000 in
set_option maxRecDepth 100000 in
theorem ok_X2_oddSet (d : Nat) (hd : 3 ≤ d) (h : PH) : ∀ z, F_X2_oddSet h = some z → Ex d 18 [.ref 14] h (.inl (some (.int z))) (h) := by
  obtain ⟨d, rfl⟩ : ∃ e, d = e + 1 := ⟨d - 1, by omega⟩
  intro z hz
  refine ⟨rfl, ?_⟩
  refine (?_ : Sim (Ex d) mi_X2_oddSet (fun o1 h1 => o1 = _ ∧ h1 = _) (F_X2_oddSet h) (fun t => t = z) 0 [some (.ref 14), none, none] [] h 0) z hz rfl
  unfold F_X2_oddSet
  refine sS rfl rfl ?_
  refine sS rfl rfl ?_
  refine sS rfl rfl ?_
  refine sS rfl rfl ?_
  refine sL (pc := 4) (lv := fun (s1 : Int32 × Int32) => [some (.ref 14), some (.int (s1.1)), some (.int (s1.2))]) (h := fun (s1 : Int32 × Int32) => h) (fun s1 => ?_) ((0 : Int32), (0 : Int32))
  refine sS rfl rfl ?_
  refine sS rfl rfl ?_
  refine sS rfl rfl ?_
  refine sB rfl rfl ?_ ?_
  · refine sS rfl rfl ?_
    exact sR rfl rfl (fun hg => by cases hg; exact ⟨rfl, rfl⟩)
  · refine sS rfl rfl ?_
    refine sS rfl rfl ?_
    refine sS rfl rfl ?_
    refine sT1 (c' := 0) rfl rfl rfl rfl rfl rfl (ok_X7_at d (by omega) 14 h 19 s1.2 rfl) ?_
    refine sB rfl rfl ?_ ?_
    · refine sS rfl rfl ?_
      refine sS rfl rfl ?_
      exact sJ (fun h2 => by (try dsimp only at h2); exact h2)
    · refine sS rfl rfl ?_
      refine sS rfl rfl ?_
      refine sS rfl rfl ?_
      refine sS rfl rfl ?_
      refine sS rfl rfl ?_
      refine sS rfl rfl ?_
      refine sT1 (c' := 0) rfl rfl rfl rfl rfl rfl (ok_X2_start d (by omega) h 14 isNet_p ((2 : Int32) * s1.2)) ?_
      refine sS rfl rfl ?_
      refine sS rfl rfl ?_
      refine sS rfl rfl ?_
      refine sS rfl rfl ?_
      refine sS rfl rfl ?_
      refine sS rfl rfl ?_
      refine sS rfl rfl ?_
      refine sS rfl rfl ?_
      refine sS rfl rfl ?_
      refine sT1 (c' := 0) rfl rfl rfl rfl rfl rfl (ok_X2_end d (by omega) h 14 isNet_p ((2 : Int32) * s1.2)) ?_
      refine sS rfl rfl ?_
      refine sS rfl rfl ?_
      refine sS rfl rfl ?_
      refine sS rfl rfl ?_
      refine sS rfl rfl ?_
      exact sJ (fun h2 => by (try dsimp only at h2); exact h2)
noncomputable def F_X3_clear (h : PH) : PH :=
 (pu h 26 0 (0 : Int32))
set_option maxHeartbeats 4000000 in
set_option maxRecDepth 100000 in
theorem ok_X3_clear (d : Nat) (hd : 1 ≤ d) (h : PH) : Ex d 19 [.ref 26] h (.inl (none)) ((F_X3_clear h)) := by
  obtain ⟨d, rfl⟩ : ∃ e, d = e + 1 := ⟨d - 1, by omega⟩
  suffices key : ∀ z, F_X3_clear h = z → Ex (d + 1) 19 [.ref 26] h (.inl (none)) (z) from key _ rfl
  intro z hz
  refine ⟨rfl, ?_⟩
  refine (?_ : Sim (Ex d) mi_X3_clear (fun o1 h1 => o1 = _ ∧ h1 = _) (some (F_X3_clear h)) (fun t => t = z) 0 [some (.ref 26)] [] h 0) z (by rw [hz]) rfl
  clear hz
  unfold F_X3_clear
  refine sS rfl rfl ?_
  refine sS rfl rfl ?_
  refine sS rfl rfl ?_
  exact sR rfl rfl (fun hg => by cases hg; exact ⟨rfl, rfl⟩)
noncomputable def F_X3_addTour (h : PH) (p0 : Int32) : Int32 × PH :=
 ((h.1 26 0), (pu (F_X7_put 4 (F_X7_put 4 h 27 (h.1 26 0) p0) 28 (h.1 26 0) (0 : Int32)) 26 0 (((F_X7_put 4 (F_X7_put 4 h 27 (h.1 26 0) p0) 28 (h.1 26 0) (0 : Int32)).1 26 0) + (1 : Int32))))
set_option maxHeartbeats 4000000 in
set_option maxRecDepth 100000 in
theorem ok_X3_addTour (d : Nat) (hd : 2 ≤ d) (h : PH) (p0 : Int32) : Ex d 21 [.ref 26, .int p0] h (.inl (some (.int (F_X3_addTour h p0).1))) ((F_X3_addTour h p0).2) := by
  obtain ⟨d, rfl⟩ : ∃ e, d = e + 1 := ⟨d - 1, by omega⟩
  suffices key : ∀ z, F_X3_addTour h p0 = z → Ex (d + 1) 21 [.ref 26, .int p0] h (.inl (some (.int z.1))) (z.2) from key _ rfl
  intro z hz
  refine ⟨rfl, ?_⟩
  refine (?_ : Sim (Ex d) mi_X3_addTour (fun o1 h1 => o1 = _ ∧ h1 = _) (some (F_X3_addTour h p0)) (fun t => t = z) 0 [some (.ref 26), some (.int p0), none] [] h 0) z (by rw [hz]) rfl
  clear hz
  unfold F_X3_addTour
  refine sS rfl rfl ?_
  refine sS rfl rfl ?_
  refine sS rfl rfl ?_
  refine sS rfl rfl ?_
  refine sS rfl rfl ?_
  refine sS rfl rfl ?_
  refine sS rfl rfl ?_
  refine sT0 (c' := 0) rfl rfl rfl rfl rfl rfl (ok_X7_put d (by omega) 4 h 27 (h.1 26 0) p0 rfl) ?_
  refine sS rfl rfl ?_
  refine sS rfl rfl ?_
  refine sS rfl rfl ?_
  refine sS rfl rfl ?_
  refine sT0 (c' := 0) rfl rfl rfl rfl rfl rfl (ok_X7_put d (by omega) 4 (F_X7_put 4 h 27 (h.1 26 0) p0) 28 (h.1 26 0) (0 : Int32) rfl) ?_
  refine sS rfl rfl ?_
  refine sS rfl rfl ?_
  refine sS rfl rfl ?_
  refine sS rfl rfl ?_
  refine sS rfl rfl ?_
  refine sS rfl rfl ?_
  refine sS rfl rfl ?_
  exact sR rfl rfl (fun hg => by cases hg; exact ⟨rfl, rfl⟩)
noncomputable def F_X3_arcOrDepot (h : PH) (p0 : Int32) (p1 : Int32) : Int32 :=
 if p1 < 0 then
  (-1 : Int32)
 else
  if p1 < (F_X7_at 4 h 28 p0) then
   (F_X7_at 56 h 29 ((p0 * (14 : Int32)) + p1))
  else
   (-1 : Int32)
set_option maxHeartbeats 4000000 in
set_option maxRecDepth 100000 in
theorem ok_X3_arcOrDepot (d : Nat) (hd : 2 ≤ d) (h : PH) (p0 : Int32) (p1 : Int32) : Ex d 22 [.ref 26, .int p0, .int p1] h (.inl (some (.int (F_X3_arcOrDepot h p0 p1)))) (h) := by
  obtain ⟨d, rfl⟩ : ∃ e, d = e + 1 := ⟨d - 1, by omega⟩
  suffices key : ∀ z, F_X3_arcOrDepot h p0 p1 = z → Ex (d + 1) 22 [.ref 26, .int p0, .int p1] h (.inl (some (.int z))) (h) from key _ rfl
  intro z hz
  refine ⟨rfl, ?_⟩
  refine (?_ : Sim (Ex d) mi_X3_arcOrDepot (fun o1 h1 => o1 = _ ∧ h1 = _) (some (F_X3_arcOrDepot h p0 p1)) (fun t => t = z) 0 [some (.ref 26), some (.int p0), some (.int p1)] [] h 0) z (by rw [hz]) rfl
  clear hz
  unfold F_X3_arcOrDepot
  refine sS rfl rfl ?_
  refine sBt rfl rfl ?_ ?_
  · refine sS rfl rfl ?_
    exact sR rfl rfl (fun hg => by cases hg; exact ⟨rfl, rfl⟩)
  · refine sS rfl rfl ?_
    refine sS rfl rfl ?_
    refine sS rfl rfl ?_
    refine sS rfl rfl ?_
    refine sT1 (c' := 0) rfl rfl rfl rfl rfl rfl (ok_X7_at d (by omega) 4 h 28 p0 rfl) ?_
    refine sBt rfl rfl ?_ ?_
    · refine sS rfl rfl ?_
      refine sS rfl rfl ?_
      refine sS rfl rfl ?_
      refine sS rfl rfl ?_
      refine sS rfl rfl ?_
      refine sS rfl rfl ?_
      refine sS rfl rfl ?_
      refine sT1 (c' := 0) rfl rfl rfl rfl rfl rfl (ok_X7_at d (by omega) 56 h 29 ((p0 * (14 : Int32)) + p1) rfl) ?_
      exact sR rfl rfl (fun hg => by cases hg; exact ⟨rfl, rfl⟩)
    · refine sS rfl rfl ?_
      exact sR rfl rfl (fun hg => by cases hg; exact ⟨rfl, rfl⟩)
noncomputable def F_X3_positionIn (h : PH) (p0 : Int32) (p1 : Int32) : Option (Int32) :=
 loop (fun (s1 : Int32) =>
  if (F_X7_at 4 h 28 p0) ≤ s1 then
   some (.inr ((-1 : Int32)))
  else
   if ¬ ((F_X7_at 56 h 29 ((p0 * (14 : Int32)) + s1)) / (2 : Int32)) = p1 then
    some (.inl ((s1 + (1 : Int32))))
   else
    some (.inr (s1))) ((0 : Int32))
set_option maxHeartbeats 4000000 in
set_option maxRecDepth 100000 in
theorem ok_X3_positionIn (d : Nat) (hd : 2 ≤ d) (h : PH) (p0 : Int32) (p1 : Int32) : ∀ z, F_X3_positionIn h p0 p1 = some z → Ex d 24 [.ref 26, .int p0, .int p1] h (.inl (some (.int z))) (h) := by
  obtain ⟨d, rfl⟩ : ∃ e, d = e + 1 := ⟨d - 1, by omega⟩
  intro z hz
  refine ⟨rfl, ?_⟩
  refine (?_ : Sim (Ex d) mi_X3_positionIn (fun o1 h1 => o1 = _ ∧ h1 = _) (F_X3_positionIn h p0 p1) (fun t => t = z) 0 [some (.ref 26), some (.int p0), some (.int p1), none, none] [] h 0) z hz rfl
  unfold F_X3_positionIn
  refine sS rfl rfl ?_
  refine sS rfl rfl ?_
  refine sS rfl rfl ?_
  refine sT1 (c' := 0) rfl rfl rfl rfl rfl rfl (ok_X7_at d (by omega) 4 h 28 p0 rfl) ?_
  refine sS rfl rfl ?_
  refine sS rfl rfl ?_
  refine sS rfl rfl ?_
  refine sL (pc := 12) (lv := fun (s1 : Int32) => [some (.ref 26), some (.int p0), some (.int p1), some (.int ((F_X7_at 4 h 28 p0))), some (.int s1)]) (h := fun (s1 : Int32) => h) (fun s1 => ?_) ((0 : Int32))
  refine sS rfl rfl ?_
  refine sS rfl rfl ?_
  refine sB rfl rfl ?_ ?_
  · refine sS rfl rfl ?_
    exact sR rfl rfl (fun hg => by cases hg; exact ⟨rfl, rfl⟩)
  · refine sS rfl rfl ?_
    refine sS rfl rfl ?_
    refine sS rfl rfl ?_
    refine sS rfl rfl ?_
    refine sS rfl rfl ?_
    refine sS rfl rfl ?_
    refine sS rfl rfl ?_
    refine sT1 (c' := 0) rfl rfl rfl rfl rfl rfl (ok_X7_at d (by omega) 56 h 29 ((p0 * (14 : Int32)) + s1) rfl) ?_
    refine sS rfl rfl ?_
    refine sS rfl rfl ?_
    refine sS rfl rfl ?_
    refine sB rfl rfl ?_ ?_
    · refine sS rfl rfl ?_
      refine sS rfl rfl ?_
      exact sJ (fun h2 => by (try dsimp only at h2); exact h2)
    · refine sS rfl rfl ?_
      exact sR rfl rfl (fun hg => by cases hg; exact ⟨rfl, rfl⟩)
noncomputable def F_X3_tourServing (h : PH) (p0 : Int32) : Option (Int32) :=
 loop (fun (s1 : Int32) =>
  if (h.1 26 0) ≤ s1 then
   some (.inr ((-1 : Int32)))
  else
   (F_X3_positionIn h s1 p0).bind fun z2 =>
   if z2 = (-1 : Int32) then
    some (.inl ((s1 + (1 : Int32))))
   else
    some (.inr (s1))) ((0 : Int32))
set_option maxHeartbeats 4000000 in
set_option maxRecDepth 100000 in
theorem ok_X3_tourServing (d : Nat) (hd : 3 ≤ d) (h : PH) (p0 : Int32) : ∀ z, F_X3_tourServing h p0 = some z → Ex d 23 [.ref 26, .int p0] h (.inl (some (.int z))) (h) := by
  obtain ⟨d, rfl⟩ : ∃ e, d = e + 1 := ⟨d - 1, by omega⟩
  intro z hz
  refine ⟨rfl, ?_⟩
  refine (?_ : Sim (Ex d) mi_X3_tourServing (fun o1 h1 => o1 = _ ∧ h1 = _) (F_X3_tourServing h p0) (fun t => t = z) 0 [some (.ref 26), some (.int p0), none] [] h 0) z hz rfl
  unfold F_X3_tourServing
  refine sS rfl rfl ?_
  refine sS rfl rfl ?_
  refine sL (pc := 2) (lv := fun (s1 : Int32) => [some (.ref 26), some (.int p0), some (.int s1)]) (h := fun (s1 : Int32) => h) (fun s1 => ?_) ((0 : Int32))
  refine sS rfl rfl ?_
  refine sS rfl rfl ?_
  refine sS rfl rfl ?_
  refine sB rfl rfl ?_ ?_
  · refine sS rfl rfl ?_
    exact sR rfl rfl (fun hg => by cases hg; exact ⟨rfl, rfl⟩)
  · refine sS rfl rfl ?_
    refine sS rfl rfl ?_
    refine sS rfl rfl ?_
    refine sC1 (c' := 0) rfl rfl rfl rfl rfl rfl (ok_X3_positionIn d (by omega) h s1 p0) (fun z2 => ?_)
    refine sS rfl rfl ?_
    refine sB rfl rfl ?_ ?_
    · refine sS rfl rfl ?_
      refine sS rfl rfl ?_
      exact sJ (fun h2 => by (try dsimp only at h2); exact h2)
    · refine sS rfl rfl ?_
      exact sR rfl rfl (fun hg => by cases hg; exact ⟨rfl, rfl⟩)
noncomputable def F_X3_putIn (h : PH) (p0 : Int32) (p1 : Int32) (p2 : Int32) : Option (PH) :=
 if (F_X7_at 4 h 28 p0) < (14 : Int32) then
  loop (fun (s1 : Int32 × PH) =>
   if s1.1 ≤ p1 then
    some (.inr ((F_X7_put 4 (F_X7_put 56 s1.2 29 ((p0 * (14 : Int32)) + p1) p2) 28 p0 ((F_X7_at 4 h 28 p0) + (1 : Int32)))))
   else
    some (.inl ((s1.1 + (-1 : Int32)), (F_X7_put 56 s1.2 29 ((p0 * (14 : Int32)) + s1.1) (F_X7_at 56 s1.2 29 (((p0 * (14 : Int32)) + s1.1) - (1 : Int32))))))) ((F_X7_at 4 h 28 p0), h)
 else
  some (h)
set_option maxHeartbeats 4000000 in
set_option maxRecDepth 100000 in
theorem ok_X3_putIn (d : Nat) (hd : 2 ≤ d) (h : PH) (p0 : Int32) (p1 : Int32) (p2 : Int32) : ∀ z, F_X3_putIn h p0 p1 p2 = some z → Ex d 25 [.ref 26, .int p0, .int p1, .int p2] h (.inl (none)) (z) := by
  obtain ⟨d, rfl⟩ : ∃ e, d = e + 1 := ⟨d - 1, by omega⟩
  intro z hz
  refine ⟨rfl, ?_⟩
  refine (?_ : Sim (Ex d) mi_X3_putIn (fun o1 h1 => o1 = _ ∧ h1 = _) (F_X3_putIn h p0 p1 p2) (fun t => t = z) 0 [some (.ref 26), some (.int p0), some (.int p1), some (.int p2), none, none, none] [] h 0) z hz rfl
  unfold F_X3_putIn
  refine sS rfl rfl ?_
  refine sS rfl rfl ?_
  refine sS rfl rfl ?_
  refine sT1 (c' := 0) rfl rfl rfl rfl rfl rfl (ok_X7_at d (by omega) 4 h 28 p0 rfl) ?_
  refine sS rfl rfl ?_
  refine sS rfl rfl ?_
  refine sS rfl rfl ?_
  refine sB rfl rfl ?_ ?_
  · refine sS rfl rfl ?_
    refine sS rfl rfl ?_
    refine sS rfl rfl ?_
    refine sS rfl rfl ?_
    refine sS rfl rfl ?_
    refine sS rfl rfl ?_
    refine sL (pc := 28) (lv := fun (s1 : Int32 × PH) => [some (.ref 26), some (.int p0), some (.int p1), some (.int p2), some (.int ((F_X7_at 4 h 28 p0))), some (.int ((p0 * (14 : Int32)))), some (.int (s1.1))]) (h := fun (s1 : Int32 × PH) => s1.2) (fun s1 => ?_) ((F_X7_at 4 h 28 p0), h)
    refine sS rfl rfl ?_
    refine sS rfl rfl ?_
    refine sB rfl rfl ?_ ?_
    · refine sS rfl rfl ?_
      refine sS rfl rfl ?_
      refine sS rfl rfl ?_
      refine sS rfl rfl ?_
      refine sS rfl rfl ?_
      refine sS rfl rfl ?_
      refine sT0 (c' := 0) rfl rfl rfl rfl rfl rfl (ok_X7_put d (by omega) 56 s1.2 29 ((p0 * (14 : Int32)) + p1) p2 rfl) ?_
      refine sS rfl rfl ?_
      refine sS rfl rfl ?_
      refine sS rfl rfl ?_
      refine sS rfl rfl ?_
      refine sS rfl rfl ?_
      refine sS rfl rfl ?_
      refine sT0 (c' := 0) rfl rfl rfl rfl rfl rfl (ok_X7_put d (by omega) 4 (F_X7_put 56 s1.2 29 ((p0 * (14 : Int32)) + p1) p2) 28 p0 ((F_X7_at 4 h 28 p0) + (1 : Int32)) rfl) ?_
      exact sR rfl rfl (fun hg => by cases hg; exact ⟨rfl, rfl⟩)
    · refine sS rfl rfl ?_
      refine sS rfl rfl ?_
      refine sS rfl rfl ?_
      refine sS rfl rfl ?_
      refine sS rfl rfl ?_
      refine sS rfl rfl ?_
      refine sS rfl rfl ?_
      refine sS rfl rfl ?_
      refine sS rfl rfl ?_
      refine sS rfl rfl ?_
      refine sS rfl rfl ?_
      refine sS rfl rfl ?_
      refine sT1 (c' := 0) rfl rfl rfl rfl rfl rfl (ok_X7_at d (by omega) 56 s1.2 29 (((p0 * (14 : Int32)) + s1.1) - (1 : Int32)) rfl) ?_
      refine sT0 (c' := 0) rfl rfl rfl rfl rfl rfl (ok_X7_put d (by omega) 56 s1.2 29 ((p0 * (14 : Int32)) + s1.1) (F_X7_at 56 s1.2 29 (((p0 * (14 : Int32)) + s1.1) - (1 : Int32))) rfl) ?_
      refine sS rfl rfl ?_
      refine sS rfl rfl ?_
      exact sJ (fun h2 => by (try dsimp only at h2); exact h2)
  · exact sR rfl rfl (fun hg => by cases hg; exact ⟨rfl, rfl⟩)
noncomputable def F_X3_takeOut (h : PH) (p0 : Int32) (p1 : Int32) : Option (PH) :=
 if 0 < (F_X7_at 4 h 28 p0) then
  loop (fun (s1 : Int32 × PH) =>
   if ((F_X7_at 4 h 28 p0) - (1 : Int32)) ≤ s1.1 then
    some (.inr ((F_X7_put 4 s1.2 28 p0 ((F_X7_at 4 h 28 p0) - (1 : Int32)))))
   else
    some (.inl ((s1.1 + (1 : Int32)), (F_X7_put 56 s1.2 29 ((p0 * (14 : Int32)) + s1.1) (F_X7_at 56 s1.2 29 (((p0 * (14 : Int32)) + s1.1) + (1 : Int32))))))) (p1, h)
 else
  some (h)
set_option maxHeartbeats 4000000 in
set_option maxRecDepth 100000 in
theorem ok_X3_takeOut (d : Nat) (hd : 2 ≤ d) (h : PH) (p0 : Int32) (p1 : Int32) : ∀ z, F_X3_takeOut h p0 p1 = some z → Ex d 26 [.ref 26, .int p0, .int p1] h (.inl (none)) (z) := by
  obtain ⟨d, rfl⟩ : ∃ e, d = e + 1 := ⟨d - 1, by omega⟩
  intro z hz
  refine ⟨rfl, ?_⟩
  refine (?_ : Sim (Ex d) mi_X3_takeOut (fun o1 h1 => o1 = _ ∧ h1 = _) (F_X3_takeOut h p0 p1) (fun t => t = z) 0 [some (.ref 26), some (.int p0), some (.int p1), none, none, none] [] h 0) z hz rfl
  unfold F_X3_takeOut
  refine sS rfl rfl ?_
  refine sS rfl rfl ?_
  refine sS rfl rfl ?_
  refine sT1 (c' := 0) rfl rfl rfl rfl rfl rfl (ok_X7_at d (by omega) 4 h 28 p0 rfl) ?_
  refine sS rfl rfl ?_
  refine sS rfl rfl ?_
  refine sB rfl rfl ?_ ?_
  · refine sS rfl rfl ?_
    refine sS rfl rfl ?_
    refine sS rfl rfl ?_
    refine sS rfl rfl ?_
    refine sS rfl rfl ?_
    refine sS rfl rfl ?_
    refine sM [true, true, false, true, true, true] rfl ?_
    refine sL (pc := 23) (lv := fun (s1 : Int32 × PH) => [some (.ref 26), some (.int p0), none, some (.int ((F_X7_at 4 h 28 p0))), some (.int ((p0 * (14 : Int32)))), some (.int (s1.1))]) (h := fun (s1 : Int32 × PH) => s1.2) (fun s1 => ?_) (p1, h)
    refine sS rfl rfl ?_
    refine sS rfl rfl ?_
    refine sS rfl rfl ?_
    refine sS rfl rfl ?_
    refine sB rfl rfl ?_ ?_
    · refine sS rfl rfl ?_
      refine sS rfl rfl ?_
      refine sS rfl rfl ?_
      refine sS rfl rfl ?_
      refine sS rfl rfl ?_
      refine sS rfl rfl ?_
      refine sT0 (c' := 0) rfl rfl rfl rfl rfl rfl (ok_X7_put d (by omega) 4 s1.2 28 p0 ((F_X7_at 4 h 28 p0) - (1 : Int32)) rfl) ?_
      exact sR rfl rfl (fun hg => by cases hg; exact ⟨rfl, rfl⟩)
    · refine sS rfl rfl ?_
      refine sS rfl rfl ?_
      refine sS rfl rfl ?_
      refine sS rfl rfl ?_
      refine sS rfl rfl ?_
      refine sS rfl rfl ?_
      refine sS rfl rfl ?_
      refine sS rfl rfl ?_
      refine sS rfl rfl ?_
      refine sS rfl rfl ?_
      refine sS rfl rfl ?_
      refine sS rfl rfl ?_
      refine sT1 (c' := 0) rfl rfl rfl rfl rfl rfl (ok_X7_at d (by omega) 56 s1.2 29 (((p0 * (14 : Int32)) + s1.1) + (1 : Int32)) rfl) ?_
      refine sT0 (c' := 0) rfl rfl rfl rfl rfl rfl (ok_X7_put d (by omega) 56 s1.2 29 ((p0 * (14 : Int32)) + s1.1) (F_X7_at 56 s1.2 29 (((p0 * (14 : Int32)) + s1.1) + (1 : Int32))) rfl) ?_
      refine sS rfl rfl ?_
      refine sS rfl rfl ?_
      exact sJ (fun h2 => by (try dsimp only at h2); exact h2)
  · exact sR rfl rfl (fun hg => by cases hg; exact ⟨rfl, rfl⟩)
noncomputable def F_X3_turnRound (h : PH) (p0 : Int32) (p1 : Int32) : PH :=
 (F_X7_put 56 h 29 ((p0 * (14 : Int32)) + p1) ((F_X7_at 56 h 29 ((p0 * (14 : Int32)) + p1)) ^^^ (1 : Int32)))
set_option maxHeartbeats 4000000 in
set_option maxRecDepth 100000 in
theorem ok_X3_turnRound (d : Nat) (hd : 2 ≤ d) (h : PH) (p0 : Int32) (p1 : Int32) : Ex d 27 [.ref 26, .int p0, .int p1] h (.inl (none)) ((F_X3_turnRound h p0 p1)) := by
  obtain ⟨d, rfl⟩ : ∃ e, d = e + 1 := ⟨d - 1, by omega⟩
  suffices key : ∀ z, F_X3_turnRound h p0 p1 = z → Ex (d + 1) 27 [.ref 26, .int p0, .int p1] h (.inl (none)) (z) from key _ rfl
  intro z hz
  refine ⟨rfl, ?_⟩
  refine (?_ : Sim (Ex d) mi_X3_turnRound (fun o1 h1 => o1 = _ ∧ h1 = _) (some (F_X3_turnRound h p0 p1)) (fun t => t = z) 0 [some (.ref 26), some (.int p0), some (.int p1), none] [] h 0) z (by rw [hz]) rfl
  clear hz
  unfold F_X3_turnRound
  refine sS rfl rfl ?_
  refine sS rfl rfl ?_
  refine sS rfl rfl ?_
  refine sS rfl rfl ?_
  refine sS rfl rfl ?_
  refine sS rfl rfl ?_
  refine sS rfl rfl ?_
  refine sS rfl rfl ?_
  refine sS rfl rfl ?_
  refine sS rfl rfl ?_
  refine sS rfl rfl ?_
  refine sS rfl rfl ?_
  refine sT1 (c' := 0) rfl rfl rfl rfl rfl rfl (ok_X7_at d (by omega) 56 h 29 ((p0 * (14 : Int32)) + p1) rfl) ?_
  refine sS rfl rfl ?_
  refine sS rfl rfl ?_
  refine sT0 (c' := 0) rfl rfl rfl rfl rfl rfl (ok_X7_put d (by omega) 56 h 29 ((p0 * (14 : Int32)) + p1) ((F_X7_at 56 h 29 ((p0 * (14 : Int32)) + p1)) ^^^ (1 : Int32)) rfl) ?_
  exact sR rfl rfl (fun hg => by cases hg; exact ⟨rfl, rfl⟩)
noncomputable def F_X7_orNone (h : PH) (p0 : Int32) : Int32 :=
 if p0 < (100000000 : Int32) then
  p0
 else
  (-1 : Int32)
set_option maxHeartbeats 4000000 in
set_option maxRecDepth 100000 in
theorem ok_X7_orNone (d : Nat) (hd : 1 ≤ d) (h : PH) (p0 : Int32) : Ex d 99 [.int p0] h (.inl (some (.int (F_X7_orNone h p0)))) (h) := by
  obtain ⟨d, rfl⟩ : ∃ e, d = e + 1 := ⟨d - 1, by omega⟩
  suffices key : ∀ z, F_X7_orNone h p0 = z → Ex (d + 1) 99 [.int p0] h (.inl (some (.int z))) (h) from key _ rfl
  intro z hz
  refine ⟨rfl, ?_⟩
  refine (?_ : Sim (Ex d) mi_X7_orNone (fun o1 h1 => o1 = _ ∧ h1 = _) (some (F_X7_orNone h p0)) (fun t => t = z) 0 [some (.int p0)] [] h 0) z (by rw [hz]) rfl
  clear hz
  unfold F_X7_orNone
  refine sS rfl rfl ?_
  refine sS rfl rfl ?_
  refine sBt rfl rfl ?_ ?_
  · refine sS rfl rfl ?_
    exact sR rfl rfl (fun hg => by cases hg; exact ⟨rfl, rfl⟩)
  · refine sS rfl rfl ?_
    refine sS rfl rfl ?_
    exact sR rfl rfl (fun hg => by cases hg; exact ⟨rfl, rfl⟩)
