noncomputable def F_X0_clear (h : PH) : PH :=
 (pu h 10 2 (0 : Int32))
set_option maxHeartbeats 4000000 in
set_option maxRecDepth 100000 in
theorem ok_X0_clear (d : Nat) (hd : 1 ≤ d) (h : PH) : Ex d 0 [.ref 10] h (.inl (none)) ((F_X0_clear h)) := by
  obtain ⟨d, rfl⟩ : ∃ e, d = e + 1 := ⟨d - 1, by omega⟩
  suffices key : ∀ z, F_X0_clear h = z → Ex (d + 1) 0 [.ref 10] h (.inl (none)) (z) from key _ rfl
  intro z hz
  refine ⟨rfl, ?_⟩
  refine (?_ : Sim (Ex d) mi_X0_clear (fun o1 h1 => o1 = _ ∧ h1 = _) (some (F_X0_clear h)) (fun t => t = z) 0 [some (.ref 10)] [] h 0) z (by rw [hz]) rfl
  clear hz
  unfold F_X0_clear
  refine sS rfl rfl ?_
  refine sS rfl rfl ?_
  refine sS rfl rfl ?_
  exact sR rfl rfl (fun hg => by cases hg; exact ⟨rfl, rfl⟩)
noncomputable def F_X0_addOperand (h : PH) (p0 : Int32) : PH :=
 (pu (F_X7_put 700 h 11 (h.1 10 2) p0) 10 2 (((F_X7_put 700 h 11 (h.1 10 2) p0).1 10 2) + (1 : Int32)))
set_option maxHeartbeats 4000000 in
set_option maxRecDepth 100000 in
theorem ok_X0_addOperand (d : Nat) (hd : 2 ≤ d) (h : PH) (p0 : Int32) : Ex d 1 [.ref 10, .int p0] h (.inl (none)) ((F_X0_addOperand h p0)) := by
  obtain ⟨d, rfl⟩ : ∃ e, d = e + 1 := ⟨d - 1, by omega⟩
  suffices key : ∀ z, F_X0_addOperand h p0 = z → Ex (d + 1) 1 [.ref 10, .int p0] h (.inl (none)) (z) from key _ rfl
  intro z hz
  refine ⟨rfl, ?_⟩
  refine (?_ : Sim (Ex d) mi_X0_addOperand (fun o1 h1 => o1 = _ ∧ h1 = _) (some (F_X0_addOperand h p0)) (fun t => t = z) 0 [some (.ref 10), some (.int p0)] [] h 0) z (by rw [hz]) rfl
  clear hz
  unfold F_X0_addOperand
  refine sS rfl rfl ?_
  refine sS rfl rfl ?_
  refine sS rfl rfl ?_
  refine sS rfl rfl ?_
  refine sS rfl rfl ?_
  refine sT0 (c' := 0) rfl rfl rfl rfl rfl rfl (ok_X7_put d (by omega) 700 h 11 (h.1 10 2) p0 rfl) ?_
  refine sS rfl rfl ?_
  refine sS rfl rfl ?_
  refine sS rfl rfl ?_
  refine sS rfl rfl ?_
  refine sS rfl rfl ?_
  refine sS rfl rfl ?_
  exact sR rfl rfl (fun hg => by cases hg; exact ⟨rfl, rfl⟩)
noncomputable def F_X0_addOperator (h : PH) (p0 : Int32) : PH :=
 (pu (F_X7_put 700 h 11 (h.1 10 2) (-p0)) 10 2 (((F_X7_put 700 h 11 (h.1 10 2) (-p0)).1 10 2) + (1 : Int32)))
set_option maxHeartbeats 4000000 in
set_option maxRecDepth 100000 in
theorem ok_X0_addOperator (d : Nat) (hd : 2 ≤ d) (h : PH) (p0 : Int32) : Ex d 2 [.ref 10, .int p0] h (.inl (none)) ((F_X0_addOperator h p0)) := by
  obtain ⟨d, rfl⟩ : ∃ e, d = e + 1 := ⟨d - 1, by omega⟩
  suffices key : ∀ z, F_X0_addOperator h p0 = z → Ex (d + 1) 2 [.ref 10, .int p0] h (.inl (none)) (z) from key _ rfl
  intro z hz
  refine ⟨rfl, ?_⟩
  refine (?_ : Sim (Ex d) mi_X0_addOperator (fun o1 h1 => o1 = _ ∧ h1 = _) (some (F_X0_addOperator h p0)) (fun t => t = z) 0 [some (.ref 10), some (.int p0)] [] h 0) z (by rw [hz]) rfl
  clear hz
  unfold F_X0_addOperator
  refine sS rfl rfl ?_
  refine sS rfl rfl ?_
  refine sS rfl rfl ?_
  refine sS rfl rfl ?_
  refine sS rfl rfl ?_
  refine sS rfl rfl ?_
  refine sT0 (c' := 0) rfl rfl rfl rfl rfl rfl (ok_X7_put d (by omega) 700 h 11 (h.1 10 2) (-p0) rfl) ?_
  refine sS rfl rfl ?_
  refine sS rfl rfl ?_
  refine sS rfl rfl ?_
  refine sS rfl rfl ?_
  refine sS rfl rfl ?_
  refine sS rfl rfl ?_
  exact sR rfl rfl (fun hg => by cases hg; exact ⟨rfl, rfl⟩)
noncomputable def F_X0_applied (h : PH) (p0 : Int32) (p1 : Int64) (p2 : Int64) : Option (Int32) :=
 jn (fun (v2 : Int64) =>
  some ((F_X7_limited h v2 (-1000000 : Int32) (1000000 : Int32)))) (fun k1 =>
  if ¬ p0 = (43 : Int32) then
   if ¬ p0 = (45 : Int32) then
    if ¬ p0 = (42 : Int32) then
     if (lg_cmp p2 (0 : Int64)) = 0 then
      k1 ((0 : Int64))
     else
      (dvl p1 p2).bind fun z3 =>
      k1 z3
    else
     k1 ((p1 * p2))
   else
    k1 ((p1 - p2))
  else
   k1 ((p1 + p2)))
set_option maxHeartbeats 4000000 in
set_option maxRecDepth 100000 in
theorem ok_X0_applied (d : Nat) (hd : 2 ≤ d) (h : PH) (p0 : Int32) (p1 : Int64) (p2 : Int64) : ∀ z, F_X0_applied h p0 p1 p2 = some z → Ex d 4 [.int p0, .long p1, .long p2] h (.inl (some (.int z))) (h) := by
  obtain ⟨d, rfl⟩ : ∃ e, d = e + 1 := ⟨d - 1, by omega⟩
  intro z hz
  refine ⟨rfl, ?_⟩
  refine (?_ : Sim (Ex d) mi_X0_applied (fun o1 h1 => o1 = _ ∧ h1 = _) (F_X0_applied h p0 p1 p2) (fun t => t = z) 0 [some (.int p0), some (.long p1), none, some (.long p2), none, none, none] [] h 0) z hz rfl
  unfold F_X0_applied
  refine sS rfl rfl ?_
  refine sS rfl rfl ?_
  refine sS rfl rfl ?_
  refine sS rfl rfl ?_
  refine sJn 56 (fun (v2 : Int64) => [none, none, none, none, none, some (.long v2), none]) (fun (v2 : Int64) => []) (fun (v2 : Int64) => h) (fun v2 => ?_) (fun k1 hk1 => ?_)
  · refine sS rfl rfl ?_
    refine sS rfl rfl ?_
    refine sS rfl rfl ?_
    refine sT1 (c' := 0) rfl rfl rfl rfl rfl rfl (ok_X7_limited d (by omega) h v2 (-1000000 : Int32) (1000000 : Int32)) ?_
    exact sR rfl rfl (fun hg => by cases hg; exact ⟨rfl, rfl⟩)
  · refine sB rfl rfl ?_ ?_
    · refine sS rfl rfl ?_
      refine sS rfl rfl ?_
      refine sB rfl rfl ?_ ?_
      · refine sS rfl rfl ?_
        refine sS rfl rfl ?_
        refine sB rfl rfl ?_ ?_
        · refine sS rfl rfl ?_
          refine sS rfl rfl ?_
          refine sS rfl rfl ?_
          refine sB rfl rfl ?_ ?_
          · refine sM [false, false, true, false, true, true, true] rfl ?_
            have h3 := hk1 ((0 : Int64))
            try dsimp only at h3
            exact h3
          · refine sS rfl rfl ?_
            refine sS rfl rfl ?_
            refine sLdiv rfl (fun z3 => ?_)
            refine sS rfl rfl ?_
            refine sM [false, false, true, false, true, true, true] rfl ?_
            have h3 := hk1 (z3)
            try dsimp only at h3
            exact h3
        · refine sS rfl rfl ?_
          refine sS rfl rfl ?_
          refine sS rfl rfl ?_
          refine sS rfl rfl ?_
          refine sS rfl rfl ?_
          refine sM [false, false, true, false, true, true, true] rfl ?_
          have h3 := hk1 ((p1 * p2))
          try dsimp only at h3
          exact h3
      · refine sS rfl rfl ?_
        refine sS rfl rfl ?_
        refine sS rfl rfl ?_
        refine sS rfl rfl ?_
        refine sS rfl rfl ?_
        refine sM [false, false, true, false, true, true, true] rfl ?_
        have h3 := hk1 ((p1 - p2))
        try dsimp only at h3
        exact h3
    · refine sS rfl rfl ?_
      refine sS rfl rfl ?_
      refine sS rfl rfl ?_
      refine sS rfl rfl ?_
      refine sS rfl rfl ?_
      refine sM [false, false, true, false, true, true, true] rfl ?_
      have h3 := hk1 ((p1 + p2))
      try dsimp only at h3
      exact h3
noncomputable def F_X0_valueFor (h : PH) (p0 : Int32) (p1 : Int32) : Option (Int32 × PH) :=
 loop (fun (s1 : Int32 × Int32 × PH) =>
  if (s1.2.2.1 10 2) ≤ s1.2.1 then
   some (.inr (((F_X7_at 11 s1.2.2 12 (0 : Int32)), s1.2.2)))
  else
   if 0 ≤ (F_X7_at 700 s1.2.2 11 s1.2.1) then
    jn (fun (v3 : Int32) =>
     some (.inl ((s1.1 + (1 : Int32)), (s1.2.1 + (1 : Int32)), (F_X7_put 11 s1.2.2 12 s1.1 v3)))) (fun k2 =>
     if ¬ (F_X7_at 700 s1.2.2 11 s1.2.1) = (10000 : Int32) then
      if ¬ (F_X7_at 700 s1.2.2 11 s1.2.1) = (10001 : Int32) then
       k2 ((F_X7_at 700 s1.2.2 11 s1.2.1))
      else
       k2 p1
     else
      k2 p0)
   else
    (F_X0_applied s1.2.2 (-(F_X7_at 700 s1.2.2 11 s1.2.1)) (F_X7_at 11 s1.2.2 12 ((s1.1 + (-1 : Int32)) - (1 : Int32))).toInt64 (F_X7_at 11 s1.2.2 12 (s1.1 + (-1 : Int32))).toInt64).bind fun z4 =>
    some (.inl ((s1.1 + (-1 : Int32)), (s1.2.1 + (1 : Int32)), (F_X7_put 11 s1.2.2 12 ((s1.1 + (-1 : Int32)) - (1 : Int32)) z4)))) ((0 : Int32), (0 : Int32), h)
set_option maxHeartbeats 4000000 in
set_option maxRecDepth 100000 in
theorem ok_X0_valueFor (d : Nat) (hd : 3 ≤ d) (h : PH) (p0 : Int32) (p1 : Int32) : ∀ z, F_X0_valueFor h p0 p1 = some z → Ex d 3 [.ref 10, .int p0, .int p1] h (.inl (some (.int z.1))) (z.2) := by
  obtain ⟨d, rfl⟩ : ∃ e, d = e + 1 := ⟨d - 1, by omega⟩
  intro z hz
  refine ⟨rfl, ?_⟩
  refine (?_ : Sim (Ex d) mi_X0_valueFor (fun o1 h1 => o1 = _ ∧ h1 = _) (F_X0_valueFor h p0 p1) (fun t => t = z) 0 [some (.ref 10), some (.int p0), some (.int p1), none, none, none] [] h 0) z hz rfl
  unfold F_X0_valueFor
  refine sS rfl rfl ?_
  refine sS rfl rfl ?_
  refine sS rfl rfl ?_
  refine sS rfl rfl ?_
  refine sL (pc := 5) (lv := fun (s1 : Int32 × Int32 × PH) => [some (.ref 10), some (.int p0), some (.int p1), some (.int (s1.1)), some (.int (s1.2.1)), none]) (h := fun (s1 : Int32 × Int32 × PH) => s1.2.2) (fun s1 => ?_) ((0 : Int32), (0 : Int32), h)
  refine sS rfl rfl ?_
  refine sS rfl rfl ?_
  refine sS rfl rfl ?_
  refine sB rfl rfl ?_ ?_
  · refine sS rfl rfl ?_
    refine sS rfl rfl ?_
    refine sS rfl rfl ?_
    refine sT1 (c' := 0) rfl rfl rfl rfl rfl rfl (ok_X7_at d (by omega) 11 s1.2.2 12 (0 : Int32) rfl) ?_
    exact sR rfl rfl (fun hg => by cases hg; exact ⟨rfl, rfl⟩)
  · refine sS rfl rfl ?_
    refine sS rfl rfl ?_
    refine sS rfl rfl ?_
    refine sT1 (c' := 0) rfl rfl rfl rfl rfl rfl (ok_X7_at d (by omega) 700 s1.2.2 11 s1.2.1 rfl) ?_
    refine sS rfl rfl ?_
    refine sS rfl rfl ?_
    refine sB rfl rfl ?_ ?_
    · refine sS rfl rfl ?_
      refine sS rfl rfl ?_
      refine sS rfl rfl ?_
      refine sS rfl rfl ?_
      refine sS rfl rfl ?_
      refine sJn 103 (fun (v3 : Int32) => [some (.ref 10), some (.int p0), some (.int p1), some (.int (s1.1)), some (.int (s1.2.1)), none]) (fun (v3 : Int32) => [.int v3, .int (s1.1), .ref 12]) (fun (v3 : Int32) => s1.2.2) (fun v3 => ?_) (fun k2 hk2 => ?_)
      · refine sT0 (c' := 0) rfl rfl rfl rfl rfl rfl (ok_X7_put d (by omega) 11 s1.2.2 12 s1.1 v3 rfl) ?_
        refine sS rfl rfl ?_
        refine sS rfl rfl ?_
        refine sS rfl rfl ?_
        exact sJ (fun h2 => by (try dsimp only at h2); exact h2)
      · refine sB rfl rfl ?_ ?_
        · refine sS rfl rfl ?_
          refine sS rfl rfl ?_
          refine sB rfl rfl ?_ ?_
          · refine sS rfl rfl ?_
            refine sM [true, true, true, true, true, false] rfl ?_
            have h3 := hk2 ((F_X7_at 700 s1.2.2 11 s1.2.1))
            try dsimp only at h3
            exact h3
          · refine sS rfl rfl ?_
            refine sS rfl rfl ?_
            refine sM [true, true, true, true, true, false] rfl ?_
            have h3 := hk2 (p1)
            try dsimp only at h3
            exact h3
        · refine sS rfl rfl ?_
          refine sS rfl rfl ?_
          refine sM [true, true, true, true, true, false] rfl ?_
          have h3 := hk2 (p0)
          try dsimp only at h3
          exact h3
    · refine sS rfl rfl ?_
      refine sS rfl rfl ?_
      refine sS rfl rfl ?_
      refine sS rfl rfl ?_
      refine sS rfl rfl ?_
      refine sS rfl rfl ?_
      refine sS rfl rfl ?_
      refine sS rfl rfl ?_
      refine sS rfl rfl ?_
      refine sS rfl rfl ?_
      refine sS rfl rfl ?_
      refine sS rfl rfl ?_
      refine sS rfl rfl ?_
      refine sT1 (c' := 0) rfl rfl rfl rfl rfl rfl (ok_X7_at d (by omega) 11 s1.2.2 12 ((s1.1 + (-1 : Int32)) - (1 : Int32)) rfl) ?_
      refine sS rfl rfl ?_
      refine sS rfl rfl ?_
      refine sS rfl rfl ?_
      refine sS rfl rfl ?_
      refine sT1 (c' := 0) rfl rfl rfl rfl rfl rfl (ok_X7_at d (by omega) 11 s1.2.2 12 (s1.1 + (-1 : Int32)) rfl) ?_
      refine sS rfl rfl ?_
      refine sC1 (c' := 0) rfl rfl rfl rfl rfl rfl (ok_X0_applied d (by omega) s1.2.2 (-(F_X7_at 700 s1.2.2 11 s1.2.1)) (F_X7_at 11 s1.2.2 12 ((s1.1 + (-1 : Int32)) - (1 : Int32))).toInt64 (F_X7_at 11 s1.2.2 12 (s1.1 + (-1 : Int32))).toInt64) (fun z4 => ?_)
      refine sT0 (c' := 0) rfl rfl rfl rfl rfl rfl (ok_X7_put d (by omega) 11 s1.2.2 12 ((s1.1 + (-1 : Int32)) - (1 : Int32)) z4 rfl) ?_
      refine sS rfl rfl ?_
      refine sS rfl rfl ?_
      refine sS rfl rfl ?_
      refine sM [true, true, true, true, true, false] rfl ?_
      exact sJ (fun h2 => by (try dsimp only at h2); exact h2)
noncomputable def F_X6_addWord (h : PH) (p0 : Int32) : Option (PH) :=
 loop (fun (s1 : Int32 × PH) =>
  if s1.1 < 0 then
   some (.inr (s1.2))
  else
   if (s1.2.1 1 3) < 0 then
    some (.inl ((s1.1 + (-8 : Int32)), s1.2))
   else
    if (Int32.ofNat 700) ≤ (s1.2.1 1 3) then
     some (.inl ((s1.1 + (-8 : Int32)), s1.2))
    else
     (ast 700 s1.2 2 (s1.2.1 1 3) (vp_nar .byte (p0.toUInt32 >>> (s1.1.toUInt32 &&& Int32.toUInt32 31)).toInt32.toInt8.toInt32)).bind fun h2 =>
     some (.inl ((s1.1 + (-8 : Int32)), (pu h2 1 3 ((h2.1 1 3) + (1 : Int32)))))) ((24 : Int32), h)
set_option maxHeartbeats 4000000 in
set_option maxRecDepth 100000 in
theorem ok_X6_addWord (d : Nat) (hd : 1 ≤ d) (h : PH) (p0 : Int32) : ∀ z, F_X6_addWord h p0 = some z → Ex d 49 [.ref 1, .int p0] h (.inl (none)) (z) := by
  obtain ⟨d, rfl⟩ : ∃ e, d = e + 1 := ⟨d - 1, by omega⟩
  intro z hz
  refine ⟨rfl, ?_⟩
  refine (?_ : Sim (Ex d) mi_X6_addWord (fun o1 h1 => o1 = _ ∧ h1 = _) (F_X6_addWord h p0) (fun t => t = z) 0 [some (.ref 1), some (.int p0), none] [] h 0) z hz rfl
  unfold F_X6_addWord
  refine sS rfl rfl ?_
  refine sS rfl rfl ?_
  refine sL (pc := 3) (lv := fun (s1 : Int32 × PH) => [some (.ref 1), some (.int p0), some (.int (s1.1))]) (h := fun (s1 : Int32 × PH) => s1.2) (fun s1 => ?_) ((24 : Int32), h)
  refine sS rfl rfl ?_
  refine sB rfl rfl ?_ ?_
  · exact sR rfl rfl (fun hg => by cases hg; exact ⟨rfl, rfl⟩)
  · refine sS rfl rfl ?_
    refine sS rfl rfl ?_
    refine sB rfl rfl ?_ ?_
    · refine sS rfl rfl ?_
      refine sS rfl rfl ?_
      exact sJ (fun h2 => by (try dsimp only at h2); exact h2)
    · refine sS rfl rfl ?_
      refine sS rfl rfl ?_
      refine sS rfl rfl ?_
      refine sS rfl rfl ?_
      refine sS rfl rfl ?_
      refine sB rfl rfl ?_ ?_
      · refine sS rfl rfl ?_
        refine sS rfl rfl ?_
        exact sJ (fun h2 => by (try dsimp only at h2); exact h2)
      · refine sS rfl rfl ?_
        refine sS rfl rfl ?_
        refine sS rfl rfl ?_
        refine sS rfl rfl ?_
        refine sS rfl rfl ?_
        refine sS rfl rfl ?_
        refine sS rfl rfl ?_
        refine sS rfl rfl ?_
        refine sBast rfl rfl (fun h2 => ?_)
        refine sS rfl rfl ?_
        refine sS rfl rfl ?_
        refine sS rfl rfl ?_
        refine sS rfl rfl ?_
        refine sS rfl rfl ?_
        refine sS rfl rfl ?_
        refine sS rfl rfl ?_
        refine sS rfl rfl ?_
        exact sJ (fun h2 => by (try dsimp only at h2); exact h2)
noncomputable def F_X6_byteAt (h : PH) (p0 : Int32) : Option (Int32) :=
 if p0 < 0 then
  some ((0 : Int32))
 else
  if (Int32.ofNat 700) ≤ p0 then
   some ((0 : Int32))
  else
   (ald 700 h 2 p0).bind fun z1 =>
   some ((z1 &&& (255 : Int32)))
set_option maxHeartbeats 4000000 in
set_option maxRecDepth 100000 in
theorem ok_X6_byteAt (d : Nat) (hd : 1 ≤ d) (h : PH) (p0 : Int32) : ∀ z, F_X6_byteAt h p0 = some z → Ex d 66 [.ref 1, .int p0] h (.inl (some (.int z))) (h) := by
  obtain ⟨d, rfl⟩ : ∃ e, d = e + 1 := ⟨d - 1, by omega⟩
  intro z hz
  refine ⟨rfl, ?_⟩
  refine (?_ : Sim (Ex d) mi_X6_byteAt (fun o1 h1 => o1 = _ ∧ h1 = _) (F_X6_byteAt h p0) (fun t => t = z) 0 [some (.ref 1), some (.int p0)] [] h 0) z hz rfl
  unfold F_X6_byteAt
  refine sS rfl rfl ?_
  refine sB rfl rfl ?_ ?_
  · refine sS rfl rfl ?_
    exact sR rfl rfl (fun hg => by cases hg; exact ⟨rfl, rfl⟩)
  · refine sS rfl rfl ?_
    refine sS rfl rfl ?_
    refine sS rfl rfl ?_
    refine sS rfl rfl ?_
    refine sB rfl rfl ?_ ?_
    · refine sS rfl rfl ?_
      exact sR rfl rfl (fun hg => by cases hg; exact ⟨rfl, rfl⟩)
    · refine sS rfl rfl ?_
      refine sS rfl rfl ?_
      refine sS rfl rfl ?_
      refine sBald rfl rfl (fun z1 => ?_)
      refine sS rfl rfl ?_
      refine sS rfl rfl ?_
      refine sS rfl rfl ?_
      exact sR rfl rfl (fun hg => by cases hg; exact ⟨rfl, rfl⟩)
noncomputable def F_X6_isDigit (h : PH) (p0 : Int32) : Int32 :=
 if p0 < (48 : Int32) then
  (0 : Int32)
 else
  if (57 : Int32) < p0 then
   (0 : Int32)
  else
   (1 : Int32)
set_option maxHeartbeats 4000000 in
set_option maxRecDepth 100000 in
theorem ok_X6_isDigit (d : Nat) (hd : 1 ≤ d) (h : PH) (p0 : Int32) : Ex d 67 [.int p0] h (.inl (some (.int (F_X6_isDigit h p0)))) (h) := by
  obtain ⟨d, rfl⟩ : ∃ e, d = e + 1 := ⟨d - 1, by omega⟩
  suffices key : ∀ z, F_X6_isDigit h p0 = z → Ex (d + 1) 67 [.int p0] h (.inl (some (.int z))) (h) from key _ rfl
  intro z hz
  refine ⟨rfl, ?_⟩
  refine (?_ : Sim (Ex d) mi_X6_isDigit (fun o1 h1 => o1 = _ ∧ h1 = _) (some (F_X6_isDigit h p0)) (fun t => t = z) 0 [some (.int p0)] [] h 0) z (by rw [hz]) rfl
  clear hz
  unfold F_X6_isDigit
  refine sS rfl rfl ?_
  refine sS rfl rfl ?_
  refine sBt rfl rfl ?_ ?_
  · refine sS rfl rfl ?_
    exact sR rfl rfl (fun hg => by cases hg; exact ⟨rfl, rfl⟩)
  · refine sS rfl rfl ?_
    refine sS rfl rfl ?_
    refine sBt rfl rfl ?_ ?_
    · refine sS rfl rfl ?_
      exact sR rfl rfl (fun hg => by cases hg; exact ⟨rfl, rfl⟩)
    · refine sS rfl rfl ?_
      refine sS rfl rfl ?_
      exact sR rfl rfl (fun hg => by cases hg; exact ⟨rfl, rfl⟩)
noncomputable def F_X6_isLetter (h : PH) (p0 : Int32) : Int32 :=
 if p0 < (97 : Int32) then
  (0 : Int32)
 else
  if (122 : Int32) < p0 then
   (0 : Int32)
  else
   (1 : Int32)
set_option maxHeartbeats 4000000 in
set_option maxRecDepth 100000 in
theorem ok_X6_isLetter (d : Nat) (hd : 1 ≤ d) (h : PH) (p0 : Int32) : Ex d 68 [.int p0] h (.inl (some (.int (F_X6_isLetter h p0)))) (h) := by
  obtain ⟨d, rfl⟩ : ∃ e, d = e + 1 := ⟨d - 1, by omega⟩
  suffices key : ∀ z, F_X6_isLetter h p0 = z → Ex (d + 1) 68 [.int p0] h (.inl (some (.int z))) (h) from key _ rfl
  intro z hz
  refine ⟨rfl, ?_⟩
  refine (?_ : Sim (Ex d) mi_X6_isLetter (fun o1 h1 => o1 = _ ∧ h1 = _) (some (F_X6_isLetter h p0)) (fun t => t = z) 0 [some (.int p0)] [] h 0) z (by rw [hz]) rfl
  clear hz
  unfold F_X6_isLetter
  refine sS rfl rfl ?_
  refine sS rfl rfl ?_
  refine sBt rfl rfl ?_ ?_
  · refine sS rfl rfl ?_
    exact sR rfl rfl (fun hg => by cases hg; exact ⟨rfl, rfl⟩)
  · refine sS rfl rfl ?_
    refine sS rfl rfl ?_
    refine sBt rfl rfl ?_ ?_
    · refine sS rfl rfl ?_
      exact sR rfl rfl (fun hg => by cases hg; exact ⟨rfl, rfl⟩)
    · refine sS rfl rfl ?_
      refine sS rfl rfl ?_
      exact sR rfl rfl (fun hg => by cases hg; exact ⟨rfl, rfl⟩)
noncomputable def F_X6_next (h : PH) : Option (PH) :=
 loop (fun (s1 : PH) =>
  jn (fun (v3 : Unit) =>
   if ((pu (pu s1 1 6 (s1.1 1 5)) 1 8 (0 : Int32)).1 1 5) < ((pu (pu s1 1 6 (s1.1 1 5)) 1 8 (0 : Int32)).1 1 4) then
    (F_X6_byteAt (pu (pu s1 1 6 (s1.1 1 5)) 1 8 (0 : Int32)) ((pu (pu s1 1 6 (s1.1 1 5)) 1 8 (0 : Int32)).1 1 5)).bind fun z4 =>
    if (F_X6_isDigit (pu (pu s1 1 6 (s1.1 1 5)) 1 8 (0 : Int32)) z4) = 0 then
     (F_X6_byteAt (pu (pu s1 1 6 (s1.1 1 5)) 1 8 (0 : Int32)) ((pu (pu s1 1 6 (s1.1 1 5)) 1 8 (0 : Int32)).1 1 5)).bind fun z5 =>
     if (F_X6_isLetter (pu (pu s1 1 6 (s1.1 1 5)) 1 8 (0 : Int32)) z5) = 0 then
      (F_X6_byteAt (pu (pu s1 1 6 (s1.1 1 5)) 1 8 (0 : Int32)) ((pu (pu s1 1 6 (s1.1 1 5)) 1 8 (0 : Int32)).1 1 5)).bind fun z6 =>
      some (.inr ((pu (pu (pu (pu s1 1 6 (s1.1 1 5)) 1 8 (0 : Int32)) 1 7 z6) 1 6 (((pu (pu (pu s1 1 6 (s1.1 1 5)) 1 8 (0 : Int32)) 1 7 z6).1 1 6) + (1 : Int32)))))
     else
      loop (fun (s7 : PH) =>
       if (s7.1 1 4) ≤ (s7.1 1 6) then
        some (.inr (.inr (s7)))
       else
        (F_X6_byteAt s7 (s7.1 1 6)).bind fun z8 =>
        if (F_X6_isLetter s7 z8) = 0 then
         some (.inr (.inr (s7)))
        else
         some (.inl ((pu s7 1 6 ((s7.1 1 6) + (1 : Int32)))))) ((pu (pu (pu s1 1 6 (s1.1 1 5)) 1 8 (0 : Int32)) 1 7 (257 : Int32)))
    else
     loop (fun (s9 : PH) =>
      if (s9.1 1 4) ≤ (s9.1 1 6) then
       some (.inr (.inr (s9)))
      else
       (F_X6_byteAt s9 (s9.1 1 6)).bind fun z10 =>
       if (F_X6_isDigit s9 z10) = 0 then
        some (.inr (.inr (s9)))
       else
        (F_X6_byteAt s9 (s9.1 1 6)).bind fun z11 =>
        some (.inl ((pu (pu s9 1 8 (if ((((10 : Int32) * (s9.1 1 8)) + z11) - (48 : Int32)) < (100000 : Int32) then ((((10 : Int32) * (s9.1 1 8)) + z11) - (48 : Int32)) else (100000 : Int32))) 1 6 (((pu s9 1 8 (if ((((10 : Int32) * (s9.1 1 8)) + z11) - (48 : Int32)) < (100000 : Int32) then ((((10 : Int32) * (s9.1 1 8)) + z11) - (48 : Int32)) else (100000 : Int32))).1 1 6) + (1 : Int32)))))) ((pu (pu (pu s1 1 6 (s1.1 1 5)) 1 8 (0 : Int32)) 1 7 (256 : Int32)))
   else
    some (.inr ((pu (pu (pu s1 1 6 (s1.1 1 5)) 1 8 (0 : Int32)) 1 7 (258 : Int32))))) (fun k2 =>
   if (s1.1 1 4) ≤ (s1.1 1 5) then
    k2 ()
   else
    (F_X6_byteAt s1 (s1.1 1 5)).bind fun z12 =>
    if ¬ z12 = (32 : Int32) then
     k2 ()
    else
     some (.inl ((pu s1 1 5 ((s1.1 1 5) + (1 : Int32))))))) ((pu h 1 5 (h.1 1 6)))
set_option maxHeartbeats 4000000 in
set_option maxRecDepth 100000 in
theorem ok_X6_next (d : Nat) (hd : 2 ≤ d) (h : PH) : ∀ z, F_X6_next h = some z → Ex d 65 [.ref 1] h (.inl (none)) (z) := by
  obtain ⟨d, rfl⟩ : ∃ e, d = e + 1 := ⟨d - 1, by omega⟩
  intro z hz
  refine ⟨rfl, ?_⟩
  refine (?_ : Sim (Ex d) mi_X6_next (fun o1 h1 => o1 = _ ∧ h1 = _) (F_X6_next h) (fun t => t = z) 0 [some (.ref 1)] [] h 0) z hz rfl
  unfold F_X6_next
  refine sS rfl rfl ?_
  refine sS rfl rfl ?_
  refine sS rfl rfl ?_
  refine sS rfl rfl ?_
  refine sL (pc := 8) (lv := fun (s1 : PH) => [some (.ref 1)]) (h := fun (s1 : PH) => s1) (fun s1 => ?_) ((pu h 1 5 (h.1 1 6)))
  refine sS rfl rfl ?_
  refine sS rfl rfl ?_
  refine sS rfl rfl ?_
  refine sS rfl rfl ?_
  refine sJn 45 (fun (v3 : Unit) => [some (.ref 1)]) (fun (v3 : Unit) => []) (fun (v3 : Unit) => s1) (fun v3 => ?_) (fun k2 hk2 => ?_)
  · refine sS rfl rfl ?_
    refine sS rfl rfl ?_
    refine sS rfl rfl ?_
    refine sS rfl rfl ?_
    refine sS rfl rfl ?_
    refine sS rfl rfl ?_
    refine sS rfl rfl ?_
    refine sS rfl rfl ?_
    refine sS rfl rfl ?_
    refine sS rfl rfl ?_
    refine sS rfl rfl ?_
    refine sB rfl rfl ?_ ?_
    · refine sS rfl rfl ?_
      refine sS rfl rfl ?_
      refine sS rfl rfl ?_
      refine sC1 (c' := 0) rfl rfl rfl rfl rfl rfl (ok_X6_byteAt d (by omega) (pu (pu s1 1 6 (s1.1 1 5)) 1 8 (0 : Int32)) ((pu (pu s1 1 6 (s1.1 1 5)) 1 8 (0 : Int32)).1 1 5)) (fun z4 => ?_)
      refine sT1 (c' := 0) rfl rfl rfl rfl rfl rfl (ok_X6_isDigit d (by omega) (pu (pu s1 1 6 (s1.1 1 5)) 1 8 (0 : Int32)) z4) ?_
      refine sB rfl rfl ?_ ?_
      · refine sS rfl rfl ?_
        refine sS rfl rfl ?_
        refine sS rfl rfl ?_
        refine sC1 (c' := 0) rfl rfl rfl rfl rfl rfl (ok_X6_byteAt d (by omega) (pu (pu s1 1 6 (s1.1 1 5)) 1 8 (0 : Int32)) ((pu (pu s1 1 6 (s1.1 1 5)) 1 8 (0 : Int32)).1 1 5)) (fun z5 => ?_)
        refine sT1 (c' := 0) rfl rfl rfl rfl rfl rfl (ok_X6_isLetter d (by omega) (pu (pu s1 1 6 (s1.1 1 5)) 1 8 (0 : Int32)) z5) ?_
        refine sB rfl rfl ?_ ?_
        · refine sS rfl rfl ?_
          refine sS rfl rfl ?_
          refine sS rfl rfl ?_
          refine sS rfl rfl ?_
          refine sC1 (c' := 0) rfl rfl rfl rfl rfl rfl (ok_X6_byteAt d (by omega) (pu (pu s1 1 6 (s1.1 1 5)) 1 8 (0 : Int32)) ((pu (pu s1 1 6 (s1.1 1 5)) 1 8 (0 : Int32)).1 1 5)) (fun z6 => ?_)
          refine sS rfl rfl ?_
          refine sS rfl rfl ?_
          refine sS rfl rfl ?_
          refine sS rfl rfl ?_
          refine sS rfl rfl ?_
          refine sS rfl rfl ?_
          refine sS rfl rfl ?_
          exact sR rfl rfl (fun hg => by cases hg; exact ⟨rfl, rfl⟩)
        · refine sS rfl rfl ?_
          refine sS rfl rfl ?_
          refine sS rfl rfl ?_
          refine sL (pc := 187) (lv := fun (s7 : PH) => [some (.ref 1)]) (h := fun (s7 : PH) => s7) (fun s7 => ?_) ((pu (pu (pu s1 1 6 (s1.1 1 5)) 1 8 (0 : Int32)) 1 7 (257 : Int32)))
          refine sS rfl rfl ?_
          refine sS rfl rfl ?_
          refine sS rfl rfl ?_
          refine sS rfl rfl ?_
          refine sB rfl rfl ?_ ?_
          · exact sR rfl rfl (fun hg => by cases hg; exact ⟨rfl, rfl⟩)
          · refine sS rfl rfl ?_
            refine sS rfl rfl ?_
            refine sS rfl rfl ?_
            refine sC1 (c' := 0) rfl rfl rfl rfl rfl rfl (ok_X6_byteAt d (by omega) s7 (s7.1 1 6)) (fun z8 => ?_)
            refine sT1 (c' := 0) rfl rfl rfl rfl rfl rfl (ok_X6_isLetter d (by omega) s7 z8) ?_
            refine sB rfl rfl ?_ ?_
            · exact sR rfl rfl (fun hg => by cases hg; exact ⟨rfl, rfl⟩)
            · refine sS rfl rfl ?_
              refine sS rfl rfl ?_
              refine sS rfl rfl ?_
              refine sS rfl rfl ?_
              refine sS rfl rfl ?_
              refine sS rfl rfl ?_
              refine sS rfl rfl ?_
              exact sJ (fun h2 => by (try dsimp only at h2); exact h2)
      · refine sS rfl rfl ?_
        refine sS rfl rfl ?_
        refine sS rfl rfl ?_
        refine sL (pc := 100) (lv := fun (s9 : PH) => [some (.ref 1)]) (h := fun (s9 : PH) => s9) (fun s9 => ?_) ((pu (pu (pu s1 1 6 (s1.1 1 5)) 1 8 (0 : Int32)) 1 7 (256 : Int32)))
        refine sS rfl rfl ?_
        refine sS rfl rfl ?_
        refine sS rfl rfl ?_
        refine sS rfl rfl ?_
        refine sB rfl rfl ?_ ?_
        · exact sR rfl rfl (fun hg => by cases hg; exact ⟨rfl, rfl⟩)
        · refine sS rfl rfl ?_
          refine sS rfl rfl ?_
          refine sS rfl rfl ?_
          refine sC1 (c' := 0) rfl rfl rfl rfl rfl rfl (ok_X6_byteAt d (by omega) s9 (s9.1 1 6)) (fun z10 => ?_)
          refine sT1 (c' := 0) rfl rfl rfl rfl rfl rfl (ok_X6_isDigit d (by omega) s9 z10) ?_
          refine sB rfl rfl ?_ ?_
          · exact sR rfl rfl (fun hg => by cases hg; exact ⟨rfl, rfl⟩)
          · refine sS rfl rfl ?_
            refine sS rfl rfl ?_
            refine sS rfl rfl ?_
            refine sS rfl rfl ?_
            refine sS rfl rfl ?_
            refine sS rfl rfl ?_
            refine sS rfl rfl ?_
            refine sS rfl rfl ?_
            refine sS rfl rfl ?_
            refine sC1 (c' := 0) rfl rfl rfl rfl rfl rfl (ok_X6_byteAt d (by omega) s9 (s9.1 1 6)) (fun z11 => ?_)
            refine sS rfl rfl ?_
            refine sS rfl rfl ?_
            refine sS rfl rfl ?_
            refine sS rfl rfl ?_
            refine sS rfl rfl ?_
            refine sS rfl rfl ?_
            refine sS rfl rfl ?_
            refine sS rfl rfl ?_
            refine sS rfl rfl ?_
            refine sS rfl rfl ?_
            refine sS rfl rfl ?_
            refine sS rfl rfl ?_
            exact sJ (fun h2 => by (try dsimp only at h2); exact h2)
    · refine sS rfl rfl ?_
      refine sS rfl rfl ?_
      refine sS rfl rfl ?_
      refine sS rfl rfl ?_
      exact sR rfl rfl (fun hg => by cases hg; exact ⟨rfl, rfl⟩)
  · refine sB rfl rfl ?_ ?_
    · have h3 := hk2 ()
      try dsimp only at h3
      exact h3
    · refine sS rfl rfl ?_
      refine sS rfl rfl ?_
      refine sS rfl rfl ?_
      refine sC1 (c' := 0) rfl rfl rfl rfl rfl rfl (ok_X6_byteAt d (by omega) s1 (s1.1 1 5)) (fun z12 => ?_)
      refine sS rfl rfl ?_
      refine sB rfl rfl ?_ ?_
      · have h3 := hk2 ()
        try dsimp only at h3
        exact h3
      · refine sS rfl rfl ?_
        refine sS rfl rfl ?_
        refine sS rfl rfl ?_
        refine sS rfl rfl ?_
        refine sS rfl rfl ?_
        refine sS rfl rfl ?_
        refine sS rfl rfl ?_
        exact sJ (fun h2 => by (try dsimp only at h2); exact h2)
noncomputable def F_X6_startOver (h : PH) (p0 : Int32) : Option (PH) :=
 (F_X6_next (pu (pu (pu (pu (pu (pu (F_X0_clear (F_X2_clear h)) 1 3 (0 : Int32)) 1 4 p0) 1 6 (0 : Int32)) 1 9 (0 : Int32)) 1 10 (0 : Int32)) 1 11 (-1 : Int32))).bind fun h1 =>
 some (h1)
set_option maxHeartbeats 4000000 in
set_option maxRecDepth 100000 in
theorem ok_X6_startOver (d : Nat) (hd : 3 ≤ d) (h : PH) (p0 : Int32) : ∀ z, F_X6_startOver h p0 = some z → Ex d 51 [.ref 1, .int p0] h (.inl (none)) (z) := by
  obtain ⟨d, rfl⟩ : ∃ e, d = e + 1 := ⟨d - 1, by omega⟩
  intro z hz
  refine ⟨rfl, ?_⟩
  refine (?_ : Sim (Ex d) mi_X6_startOver (fun o1 h1 => o1 = _ ∧ h1 = _) (F_X6_startOver h p0) (fun t => t = z) 0 [some (.ref 1), some (.int p0)] [] h 0) z hz rfl
  unfold F_X6_startOver
  refine sS rfl rfl ?_
  refine sS rfl rfl ?_
  refine sT0 (c' := 0) rfl rfl rfl rfl rfl rfl (ok_X2_clear d (by omega) h) ?_
  refine sS rfl rfl ?_
  refine sS rfl rfl ?_
  refine sT0 (c' := 0) rfl rfl rfl rfl rfl rfl (ok_X0_clear d (by omega) (F_X2_clear h)) ?_
  refine sS rfl rfl ?_
  refine sS rfl rfl ?_
  refine sS rfl rfl ?_
  refine sS rfl rfl ?_
  refine sS rfl rfl ?_
  refine sS rfl rfl ?_
  refine sS rfl rfl ?_
  refine sS rfl rfl ?_
  refine sS rfl rfl ?_
  refine sS rfl rfl ?_
  refine sS rfl rfl ?_
  refine sS rfl rfl ?_
  refine sS rfl rfl ?_
  refine sS rfl rfl ?_
  refine sS rfl rfl ?_
  refine sS rfl rfl ?_
  refine sS rfl rfl ?_
  refine sS rfl rfl ?_
  refine sS rfl rfl ?_
  refine sC0 (c' := 0) rfl rfl rfl rfl rfl rfl (ok_X6_next d (by omega) (pu (pu (pu (pu (pu (pu (F_X0_clear (F_X2_clear h)) 1 3 (0 : Int32)) 1 4 p0) 1 6 (0 : Int32)) 1 9 (0 : Int32)) 1 10 (0 : Int32)) 1 11 (-1 : Int32))) (fun h1 => ?_)
  exact sR rfl rfl (fun hg => by cases hg; exact ⟨rfl, rfl⟩)
noncomputable def F_X6_isWord (h : PH) (w : Nat) : Option (Int32) :=
 if ¬ (h.1 1 7) = (257 : Int32) then
  some ((0 : Int32))
 else
  if ((h.1 1 6) - (h.1 1 5)) = (Int32.ofNat (slenF (w - SB))) then
   loop (fun (s1 : Int32) =>
    if (Int32.ofNat (slenF (w - SB))) ≤ s1 then
     some (.inr ((1 : Int32)))
    else
     (F_X6_byteAt h ((h.1 1 5) + s1)).bind fun z2 =>
     (chO w s1).bind fun z3 =>
     if z2 = z3 then
      some (.inl ((s1 + (1 : Int32))))
     else
      some (.inr ((0 : Int32)))) ((0 : Int32))
  else
   some ((0 : Int32))
set_option maxHeartbeats 4000000 in
set_option maxRecDepth 100000 in
theorem ok_X6_isWord (d : Nat) (hd : 2 ≤ d) (h : PH) (w : Nat) (Hw : isStr w) : ∀ z, F_X6_isWord h w = some z → Ex d 64 [.ref 1, .ref w] h (.inl (some (.int z))) (h) := by
  obtain ⟨d, rfl⟩ : ∃ e, d = e + 1 := ⟨d - 1, by omega⟩
  intro z hz
  refine ⟨rfl, ?_⟩
  refine (?_ : Sim (Ex d) mi_X6_isWord (fun o1 h1 => o1 = _ ∧ h1 = _) (F_X6_isWord h w) (fun t => t = z) 0 [some (.ref 1), some (.ref w), none] [] h 0) z hz rfl
  unfold F_X6_isWord
  refine sS rfl rfl ?_
  refine sS rfl rfl ?_
  refine sS rfl rfl ?_
  refine sB rfl rfl ?_ ?_
  · refine sS rfl rfl ?_
    exact sR rfl rfl (fun hg => by cases hg; exact ⟨rfl, rfl⟩)
  · refine sS rfl rfl ?_
    refine sS rfl rfl ?_
    refine sS rfl rfl ?_
    refine sS rfl rfl ?_
    refine sS rfl rfl ?_
    refine sS rfl rfl ?_
    refine sSlen rfl Hw rfl ?_
    refine sB rfl rfl ?_ ?_
    · refine sS rfl rfl ?_
      refine sS rfl rfl ?_
      refine sL (pc := 30) (lv := fun (s1 : Int32) => [some (.ref 1), some (.ref w), some (.int s1)]) (h := fun (s1 : Int32) => h) (fun s1 => ?_) ((0 : Int32))
      refine sS rfl rfl ?_
      refine sS rfl rfl ?_
      refine sSlen rfl Hw rfl ?_
      refine sB rfl rfl ?_ ?_
      · refine sS rfl rfl ?_
        exact sR rfl rfl (fun hg => by cases hg; exact ⟨rfl, rfl⟩)
      · refine sS rfl rfl ?_
        refine sS rfl rfl ?_
        refine sS rfl rfl ?_
        refine sS rfl rfl ?_
        refine sS rfl rfl ?_
        refine sC1 (c' := 0) rfl rfl rfl rfl rfl rfl (ok_X6_byteAt d (by omega) h ((h.1 1 5) + s1)) (fun z2 => ?_)
        refine sS rfl rfl ?_
        refine sS rfl rfl ?_
        refine sChar rfl Hw rfl (fun z3 => ?_)
        refine sB rfl rfl ?_ ?_
        · refine sS rfl rfl ?_
          refine sS rfl rfl ?_
          exact sJ (fun h2 => by (try dsimp only at h2); exact h2)
        · refine sS rfl rfl ?_
          exact sR rfl rfl (fun hg => by cases hg; exact ⟨rfl, rfl⟩)
    · refine sS rfl rfl ?_
      exact sR rfl rfl (fun hg => by cases hg; exact ⟨rfl, rfl⟩)
noncomputable def F_X6_fail (h : PH) (p0 : Int32) : PH :=
 if ¬ (h.1 1 10) = 0 then
  h
 else
  (pu (pu h 1 10 p0) 1 11 ((pu h 1 10 p0).1 1 5))
set_option maxHeartbeats 4000000 in
set_option maxRecDepth 100000 in
theorem ok_X6_fail (d : Nat) (hd : 1 ≤ d) (h : PH) (p0 : Int32) : Ex d 60 [.ref 1, .int p0] h (.inl (none)) ((F_X6_fail h p0)) := by
  obtain ⟨d, rfl⟩ : ∃ e, d = e + 1 := ⟨d - 1, by omega⟩
  suffices key : ∀ z, F_X6_fail h p0 = z → Ex (d + 1) 60 [.ref 1, .int p0] h (.inl (none)) (z) from key _ rfl
  intro z hz
  refine ⟨rfl, ?_⟩
  refine (?_ : Sim (Ex d) mi_X6_fail (fun o1 h1 => o1 = _ ∧ h1 = _) (some (F_X6_fail h p0)) (fun t => t = z) 0 [some (.ref 1), some (.int p0)] [] h 0) z (by rw [hz]) rfl
  clear hz
  unfold F_X6_fail
  refine sS rfl rfl ?_
  refine sS rfl rfl ?_
  refine sBt rfl rfl ?_ ?_
  · exact sR rfl rfl (fun hg => by cases hg; exact ⟨rfl, rfl⟩)
  · refine sS rfl rfl ?_
    refine sS rfl rfl ?_
    refine sS rfl rfl ?_
    refine sS rfl rfl ?_
    refine sS rfl rfl ?_
    refine sS rfl rfl ?_
    refine sS rfl rfl ?_
    exact sR rfl rfl (fun hg => by cases hg; exact ⟨rfl, rfl⟩)
noncomputable def F_X6_takeWord (h : PH) (w : Nat) : Option (PH) :=
 (F_X6_isWord h w).bind fun z1 =>
 if ¬ z1 = 0 then
  (F_X6_next h).bind fun h2 =>
  some (h2)
 else
  (F_X6_next (F_X6_fail h (-2 : Int32))).bind fun h3 =>
  some (h3)
set_option maxHeartbeats 4000000 in
set_option maxRecDepth 100000 in
theorem ok_X6_takeWord (d : Nat) (hd : 3 ≤ d) (h : PH) (w : Nat) (Hw : isStr w) : ∀ z, F_X6_takeWord h w = some z → Ex d 62 [.ref 1, .ref w] h (.inl (none)) (z) := by
  obtain ⟨d, rfl⟩ : ∃ e, d = e + 1 := ⟨d - 1, by omega⟩
  intro z hz
  refine ⟨rfl, ?_⟩
  refine (?_ : Sim (Ex d) mi_X6_takeWord (fun o1 h1 => o1 = _ ∧ h1 = _) (F_X6_takeWord h w) (fun t => t = z) 0 [some (.ref 1), some (.ref w)] [] h 0) z hz rfl
  unfold F_X6_takeWord
  refine sS rfl rfl ?_
  refine sS rfl rfl ?_
  refine sC1 (c' := 0) rfl rfl rfl rfl rfl rfl (ok_X6_isWord d (by omega) h w Hw) (fun z1 => ?_)
  refine sB rfl rfl ?_ ?_
  · refine sS rfl rfl ?_
    refine sC0 (c' := 0) rfl rfl rfl rfl rfl rfl (ok_X6_next d (by omega) h) (fun h2 => ?_)
    exact sR rfl rfl (fun hg => by cases hg; exact ⟨rfl, rfl⟩)
  · refine sS rfl rfl ?_
    refine sS rfl rfl ?_
    refine sT0 (c' := 0) rfl rfl rfl rfl rfl rfl (ok_X6_fail d (by omega) h (-2 : Int32)) ?_
    refine sS rfl rfl ?_
    refine sC0 (c' := 0) rfl rfl rfl rfl rfl rfl (ok_X6_next d (by omega) (F_X6_fail h (-2 : Int32))) (fun h3 => ?_)
    exact sR rfl rfl (fun hg => by cases hg; exact ⟨rfl, rfl⟩)
noncomputable def F_X6_takeNumber (h : PH) (p0 : Int32) (p1 : Int32) : Option (Int32 × PH) :=
 if (h.1 1 7) = (256 : Int32) then
  if (h.1 1 8) < p0 then
   some ((p0, (F_X6_fail h (-3 : Int32))))
  else
   if (h.1 1 8) ≤ p1 then
    (F_X6_next h).bind fun h1 =>
    some (((h.1 1 8), h1))
   else
    some ((p0, (F_X6_fail h (-3 : Int32))))
 else
  some ((p0, (F_X6_fail h (-2 : Int32))))
set_option maxHeartbeats 4000000 in
set_option maxRecDepth 100000 in
theorem ok_X6_takeNumber (d : Nat) (hd : 3 ≤ d) (h : PH) (p0 : Int32) (p1 : Int32) : ∀ z, F_X6_takeNumber h p0 p1 = some z → Ex d 61 [.ref 1, .int p0, .int p1] h (.inl (some (.int z.1))) (z.2) := by
  obtain ⟨d, rfl⟩ : ∃ e, d = e + 1 := ⟨d - 1, by omega⟩
  intro z hz
  refine ⟨rfl, ?_⟩
  refine (?_ : Sim (Ex d) mi_X6_takeNumber (fun o1 h1 => o1 = _ ∧ h1 = _) (F_X6_takeNumber h p0 p1) (fun t => t = z) 0 [some (.ref 1), some (.int p0), some (.int p1), none] [] h 0) z hz rfl
  unfold F_X6_takeNumber
  refine sS rfl rfl ?_
  refine sS rfl rfl ?_
  refine sS rfl rfl ?_
  refine sS rfl rfl ?_
  refine sS rfl rfl ?_
  refine sS rfl rfl ?_
  refine sB rfl rfl ?_ ?_
  · refine sS rfl rfl ?_
    refine sS rfl rfl ?_
    refine sB rfl rfl ?_ ?_
    · refine sS rfl rfl ?_
      refine sS rfl rfl ?_
      refine sT0 (c' := 0) rfl rfl rfl rfl rfl rfl (ok_X6_fail d (by omega) h (-3 : Int32)) ?_
      refine sS rfl rfl ?_
      exact sR rfl rfl (fun hg => by cases hg; exact ⟨rfl, rfl⟩)
    · refine sS rfl rfl ?_
      refine sS rfl rfl ?_
      refine sB rfl rfl ?_ ?_
      · refine sS rfl rfl ?_
        refine sC0 (c' := 0) rfl rfl rfl rfl rfl rfl (ok_X6_next d (by omega) h) (fun h1 => ?_)
        refine sS rfl rfl ?_
        exact sR rfl rfl (fun hg => by cases hg; exact ⟨rfl, rfl⟩)
      · refine sS rfl rfl ?_
        refine sS rfl rfl ?_
        refine sT0 (c' := 0) rfl rfl rfl rfl rfl rfl (ok_X6_fail d (by omega) h (-3 : Int32)) ?_
        refine sS rfl rfl ?_
        exact sR rfl rfl (fun hg => by cases hg; exact ⟨rfl, rfl⟩)
  · refine sS rfl rfl ?_
    refine sS rfl rfl ?_
    refine sT0 (c' := 0) rfl rfl rfl rfl rfl rfl (ok_X6_fail d (by omega) h (-2 : Int32)) ?_
    refine sS rfl rfl ?_
    exact sR rfl rfl (fun hg => by cases hg; exact ⟨rfl, rfl⟩)
noncomputable def F_X6_takeSign (h : PH) (p0 : Int32) : Option (PH) :=
 if (h.1 1 7) = p0 then
  (F_X6_next h).bind fun h1 =>
  some (h1)
 else
  (F_X6_next (F_X6_fail h (-2 : Int32))).bind fun h2 =>
  some (h2)
set_option maxHeartbeats 4000000 in
set_option maxRecDepth 100000 in
theorem ok_X6_takeSign (d : Nat) (hd : 3 ≤ d) (h : PH) (p0 : Int32) : ∀ z, F_X6_takeSign h p0 = some z → Ex d 63 [.ref 1, .int p0] h (.inl (none)) (z) := by
  obtain ⟨d, rfl⟩ : ∃ e, d = e + 1 := ⟨d - 1, by omega⟩
  intro z hz
  refine ⟨rfl, ?_⟩
  refine (?_ : Sim (Ex d) mi_X6_takeSign (fun o1 h1 => o1 = _ ∧ h1 = _) (F_X6_takeSign h p0) (fun t => t = z) 0 [some (.ref 1), some (.int p0)] [] h 0) z hz rfl
  unfold F_X6_takeSign
  refine sS rfl rfl ?_
  refine sS rfl rfl ?_
  refine sS rfl rfl ?_
  refine sB rfl rfl ?_ ?_
  · refine sS rfl rfl ?_
    refine sC0 (c' := 0) rfl rfl rfl rfl rfl rfl (ok_X6_next d (by omega) h) (fun h1 => ?_)
    exact sR rfl rfl (fun hg => by cases hg; exact ⟨rfl, rfl⟩)
  · refine sS rfl rfl ?_
    refine sS rfl rfl ?_
    refine sT0 (c' := 0) rfl rfl rfl rfl rfl rfl (ok_X6_fail d (by omega) h (-2 : Int32)) ?_
    refine sS rfl rfl ?_
    refine sC0 (c' := 0) rfl rfl rfl rfl rfl rfl (ok_X6_next d (by omega) (F_X6_fail h (-2 : Int32))) (fun h2 => ?_)
    exact sR rfl rfl (fun hg => by cases hg; exact ⟨rfl, rfl⟩)
noncomputable def F_X6_readEdge (h : PH) : Option (PH) :=
 jn (fun (v2 : PH) =>
  (F_X6_next v2).bind fun h3 =>
  (F_X6_takeNumber h3 (0 : Int32) ((h3.1 3 0) - (1 : Int32))).bind fun z4 =>
  jn (fun (v6 : PH) =>
   (F_X6_takeNumber v6 (0 : Int32) ((v6.1 3 0) - (1 : Int32))).bind fun z7 =>
   (F_X6_takeNumber z7.2 (1 : Int32) (99 : Int32)).bind fun z8 =>
   (F_X6_takeNumber z8.2 (1 : Int32) (99 : Int32)).bind fun z9 =>
   (F_X6_takeNumber z9.2 (0 : Int32) (99 : Int32)).bind fun z10 =>
   if ¬ (z10.2.1 1 10) = 0 then
    some (z10.2)
   else
    some ((F_X2_addEdge z10.2 z4.1 z7.1 z8.1 z9.1 z10.1))) (fun k5 =>
   if ¬ (z4.2.1 1 7) = (256 : Int32) then
    k5 z4.2
   else
    if ¬ (z4.2.1 1 8) = z4.1 then
     k5 z4.2
    else
     k5 ((F_X6_fail z4.2 (-3 : Int32))))) (fun k1 =>
  if (h.1 3 2) < (14 : Int32) then
   k1 h
  else
   k1 ((F_X6_fail h (-4 : Int32))))
set_option maxHeartbeats 4000000 in
set_option maxRecDepth 100000 in
theorem ok_X6_readEdge (d : Nat) (hd : 4 ≤ d) (h : PH) : ∀ z, F_X6_readEdge h = some z → Ex d 52 [.ref 1] h (.inl (none)) (z) := by
  obtain ⟨d, rfl⟩ : ∃ e, d = e + 1 := ⟨d - 1, by omega⟩
  intro z hz
  refine ⟨rfl, ?_⟩
  refine (?_ : Sim (Ex d) mi_X6_readEdge (fun o1 h1 => o1 = _ ∧ h1 = _) (F_X6_readEdge h) (fun t => t = z) 0 [some (.ref 1), none, none, none, none, none] [] h 0) z hz rfl
  unfold F_X6_readEdge
  refine sS rfl rfl ?_
  refine sS rfl rfl ?_
  refine sS rfl rfl ?_
  refine sS rfl rfl ?_
  refine sJn 18 (fun (v2 : PH) => [some (.ref 1), none, none, none, none, none]) (fun (v2 : PH) => []) (fun (v2 : PH) => v2) (fun v2 => ?_) (fun k1 hk1 => ?_)
  · refine sS rfl rfl ?_
    refine sC0 (c' := 0) rfl rfl rfl rfl rfl rfl (ok_X6_next d (by omega) v2) (fun h3 => ?_)
    refine sS rfl rfl ?_
    refine sS rfl rfl ?_
    refine sS rfl rfl ?_
    refine sS rfl rfl ?_
    refine sS rfl rfl ?_
    refine sS rfl rfl ?_
    refine sS rfl rfl ?_
    refine sC1 (c' := 0) rfl rfl rfl rfl rfl rfl (ok_X6_takeNumber d (by omega) h3 (0 : Int32) ((h3.1 3 0) - (1 : Int32))) (fun z4 => ?_)
    refine sS rfl rfl ?_
    refine sS rfl rfl ?_
    refine sS rfl rfl ?_
    refine sS rfl rfl ?_
    refine sJn 61 (fun (v6 : PH) => [some (.ref 1), some (.int (z4.1)), none, none, none, none]) (fun (v6 : PH) => []) (fun (v6 : PH) => v6) (fun v6 => ?_) (fun k5 hk5 => ?_)
    · refine sS rfl rfl ?_
      refine sS rfl rfl ?_
      refine sS rfl rfl ?_
      refine sS rfl rfl ?_
      refine sS rfl rfl ?_
      refine sS rfl rfl ?_
      refine sS rfl rfl ?_
      refine sC1 (c' := 0) rfl rfl rfl rfl rfl rfl (ok_X6_takeNumber d (by omega) v6 (0 : Int32) ((v6.1 3 0) - (1 : Int32))) (fun z7 => ?_)
      refine sS rfl rfl ?_
      refine sS rfl rfl ?_
      refine sS rfl rfl ?_
      refine sS rfl rfl ?_
      refine sC1 (c' := 0) rfl rfl rfl rfl rfl rfl (ok_X6_takeNumber d (by omega) z7.2 (1 : Int32) (99 : Int32)) (fun z8 => ?_)
      refine sS rfl rfl ?_
      refine sS rfl rfl ?_
      refine sS rfl rfl ?_
      refine sS rfl rfl ?_
      refine sC1 (c' := 0) rfl rfl rfl rfl rfl rfl (ok_X6_takeNumber d (by omega) z8.2 (1 : Int32) (99 : Int32)) (fun z9 => ?_)
      refine sS rfl rfl ?_
      refine sS rfl rfl ?_
      refine sS rfl rfl ?_
      refine sS rfl rfl ?_
      refine sC1 (c' := 0) rfl rfl rfl rfl rfl rfl (ok_X6_takeNumber d (by omega) z9.2 (0 : Int32) (99 : Int32)) (fun z10 => ?_)
      refine sS rfl rfl ?_
      refine sS rfl rfl ?_
      refine sS rfl rfl ?_
      refine sB rfl rfl ?_ ?_
      · exact sR rfl rfl (fun hg => by cases hg; exact ⟨rfl, rfl⟩)
      · refine sS rfl rfl ?_
        refine sS rfl rfl ?_
        refine sS rfl rfl ?_
        refine sS rfl rfl ?_
        refine sS rfl rfl ?_
        refine sS rfl rfl ?_
        refine sS rfl rfl ?_
        refine sT0 (c' := 0) rfl rfl rfl rfl rfl rfl (ok_X2_addEdge d (by omega) z10.2 z4.1 z7.1 z8.1 z9.1 z10.1) ?_
        exact sR rfl rfl (fun hg => by cases hg; exact ⟨rfl, rfl⟩)
    · refine sB rfl rfl ?_ ?_
      · have h3 := hk5 (z4.2)
        try dsimp only at h3
        exact h3
      · refine sS rfl rfl ?_
        refine sS rfl rfl ?_
        refine sS rfl rfl ?_
        refine sB rfl rfl ?_ ?_
        · have h3 := hk5 (z4.2)
          try dsimp only at h3
          exact h3
        · refine sS rfl rfl ?_
          refine sS rfl rfl ?_
          refine sT0 (c' := 0) rfl rfl rfl rfl rfl rfl (ok_X6_fail d (by omega) z4.2 (-3 : Int32)) ?_
          have h3 := hk5 ((F_X6_fail z4.2 (-3 : Int32)))
          try dsimp only at h3
          exact h3
  · refine sB rfl rfl ?_ ?_
    · have h3 := hk1 (h)
      try dsimp only at h3
      exact h3
    · refine sS rfl rfl ?_
      refine sS rfl rfl ?_
      refine sT0 (c' := 0) rfl rfl rfl rfl rfl rfl (ok_X6_fail d (by omega) h (-4 : Int32)) ?_
      have h3 := hk1 ((F_X6_fail h (-4 : Int32)))
      try dsimp only at h3
      exact h3
noncomputable def F_X6_takeEdgeAt (h : PH) (p0 : Int32) : Option (Int32 × PH) :=
 jn (fun (v2 : PH) =>
  (F_X6_takeNumber v2 (0 : Int32) ((v2.1 3 2) - (1 : Int32))).bind fun z3 =>
  some ((z3.1, z3.2))) (fun k1 =>
  if ¬ (h.1 1 7) = (256 : Int32) then
   k1 h
  else
   if (h.1 3 2) ≤ (h.1 1 8) then
    k1 h
   else
    if ¬ (F_X2_touches h (h.1 1 8) p0) = 0 then
     k1 h
    else
     k1 ((F_X6_fail h (-3 : Int32))))
set_option maxHeartbeats 4000000 in
set_option maxRecDepth 100000 in
theorem ok_X6_takeEdgeAt (d : Nat) (hd : 4 ≤ d) (h : PH) (p0 : Int32) : ∀ z, F_X6_takeEdgeAt h p0 = some z → Ex d 54 [.ref 1, .int p0] h (.inl (some (.int z.1))) (z.2) := by
  obtain ⟨d, rfl⟩ : ∃ e, d = e + 1 := ⟨d - 1, by omega⟩
  intro z hz
  refine ⟨rfl, ?_⟩
  refine (?_ : Sim (Ex d) mi_X6_takeEdgeAt (fun o1 h1 => o1 = _ ∧ h1 = _) (F_X6_takeEdgeAt h p0) (fun t => t = z) 0 [some (.ref 1), some (.int p0)] [] h 0) z hz rfl
  unfold F_X6_takeEdgeAt
  refine sS rfl rfl ?_
  refine sS rfl rfl ?_
  refine sS rfl rfl ?_
  refine sJn 45 (fun (v2 : PH) => [some (.ref 1), none]) (fun (v2 : PH) => []) (fun (v2 : PH) => v2) (fun v2 => ?_) (fun k1 hk1 => ?_)
  · refine sS rfl rfl ?_
    refine sS rfl rfl ?_
    refine sS rfl rfl ?_
    refine sS rfl rfl ?_
    refine sS rfl rfl ?_
    refine sS rfl rfl ?_
    refine sS rfl rfl ?_
    refine sC1 (c' := 0) rfl rfl rfl rfl rfl rfl (ok_X6_takeNumber d (by omega) v2 (0 : Int32) ((v2.1 3 2) - (1 : Int32))) (fun z3 => ?_)
    exact sR rfl rfl (fun hg => by cases hg; exact ⟨rfl, rfl⟩)
  · refine sB rfl rfl ?_ ?_
    · refine sM [true, false] rfl ?_
      have h3 := hk1 (h)
      try dsimp only at h3
      exact h3
    · refine sS rfl rfl ?_
      refine sS rfl rfl ?_
      refine sS rfl rfl ?_
      refine sS rfl rfl ?_
      refine sS rfl rfl ?_
      refine sB rfl rfl ?_ ?_
      · refine sM [true, false] rfl ?_
        have h3 := hk1 (h)
        try dsimp only at h3
        exact h3
      · refine sS rfl rfl ?_
        refine sS rfl rfl ?_
        refine sS rfl rfl ?_
        refine sS rfl rfl ?_
        refine sS rfl rfl ?_
        refine sT1 (c' := 0) rfl rfl rfl rfl rfl rfl (ok_X2_touches d (by omega) h (h.1 1 8) p0) ?_
        refine sB rfl rfl ?_ ?_
        · refine sM [true, false] rfl ?_
          have h3 := hk1 (h)
          try dsimp only at h3
          exact h3
        · refine sS rfl rfl ?_
          refine sS rfl rfl ?_
          refine sT0 (c' := 0) rfl rfl rfl rfl rfl rfl (ok_X6_fail d (by omega) h (-3 : Int32)) ?_
          refine sM [true, false] rfl ?_
          have h3 := hk1 ((F_X6_fail h (-3 : Int32)))
          try dsimp only at h3
          exact h3
noncomputable def F_X6_readBan (h : PH) : Option (PH) :=
 (F_X6_next h).bind fun h1 =>
 (F_X6_takeNumber h1 (0 : Int32) ((h1.1 3 0) - (1 : Int32))).bind fun z2 =>
 (F_X6_takeEdgeAt z2.2 z2.1).bind fun z3 =>
 (F_X6_takeEdgeAt z3.2 z2.1).bind fun z4 =>
 if ¬ (z4.2.1 1 10) = 0 then
  some (z4.2)
 else
  some ((F_X2_banTurn z4.2 z2.1 z3.1 z4.1))
set_option maxHeartbeats 4000000 in
set_option maxRecDepth 100000 in
theorem ok_X6_readBan (d : Nat) (hd : 5 ≤ d) (h : PH) : ∀ z, F_X6_readBan h = some z → Ex d 53 [.ref 1] h (.inl (none)) (z) := by
  obtain ⟨d, rfl⟩ : ∃ e, d = e + 1 := ⟨d - 1, by omega⟩
  intro z hz
  refine ⟨rfl, ?_⟩
  refine (?_ : Sim (Ex d) mi_X6_readBan (fun o1 h1 => o1 = _ ∧ h1 = _) (F_X6_readBan h) (fun t => t = z) 0 [some (.ref 1), none, none, none] [] h 0) z hz rfl
  unfold F_X6_readBan
  refine sS rfl rfl ?_
  refine sC0 (c' := 0) rfl rfl rfl rfl rfl rfl (ok_X6_next d (by omega) h) (fun h1 => ?_)
  refine sS rfl rfl ?_
  refine sS rfl rfl ?_
  refine sS rfl rfl ?_
  refine sS rfl rfl ?_
  refine sS rfl rfl ?_
  refine sS rfl rfl ?_
  refine sS rfl rfl ?_
  refine sC1 (c' := 0) rfl rfl rfl rfl rfl rfl (ok_X6_takeNumber d (by omega) h1 (0 : Int32) ((h1.1 3 0) - (1 : Int32))) (fun z2 => ?_)
  refine sS rfl rfl ?_
  refine sS rfl rfl ?_
  refine sS rfl rfl ?_
  refine sC1 (c' := 0) rfl rfl rfl rfl rfl rfl (ok_X6_takeEdgeAt d (by omega) z2.2 z2.1) (fun z3 => ?_)
  refine sS rfl rfl ?_
  refine sS rfl rfl ?_
  refine sS rfl rfl ?_
  refine sC1 (c' := 0) rfl rfl rfl rfl rfl rfl (ok_X6_takeEdgeAt d (by omega) z3.2 z2.1) (fun z4 => ?_)
  refine sS rfl rfl ?_
  refine sS rfl rfl ?_
  refine sS rfl rfl ?_
  refine sB rfl rfl ?_ ?_
  · exact sR rfl rfl (fun hg => by cases hg; exact ⟨rfl, rfl⟩)
  · refine sS rfl rfl ?_
    refine sS rfl rfl ?_
    refine sS rfl rfl ?_
    refine sS rfl rfl ?_
    refine sS rfl rfl ?_
    refine sT0 (c' := 0) rfl rfl rfl rfl rfl rfl (ok_X2_banTurn d (by omega) z4.2 z2.1 z3.1 z4.1) ?_
    exact sR rfl rfl (fun hg => by cases hg; exact ⟨rfl, rfl⟩)
noncomputable def F_X6_readDepot (h : PH) : Option (PH) :=
 jn (fun (v2 : PH) =>
  (F_X6_next v2).bind fun h3 =>
  (F_X6_takeNumber h3 (0 : Int32) ((h3.1 3 0) - (1 : Int32))).bind fun z4 =>
  if ¬ (z4.2.1 1 10) = 0 then
   some (z4.2)
  else
   some ((F_X2_addDepot z4.2 z4.1))) (fun k1 =>
  if (h.1 3 3) < (3 : Int32) then
   k1 h
  else
   k1 ((F_X6_fail h (-4 : Int32))))
set_option maxHeartbeats 4000000 in
set_option maxRecDepth 100000 in
theorem ok_X6_readDepot (d : Nat) (hd : 4 ≤ d) (h : PH) : ∀ z, F_X6_readDepot h = some z → Ex d 55 [.ref 1] h (.inl (none)) (z) := by
  obtain ⟨d, rfl⟩ : ∃ e, d = e + 1 := ⟨d - 1, by omega⟩
  intro z hz
  refine ⟨rfl, ?_⟩
  refine (?_ : Sim (Ex d) mi_X6_readDepot (fun o1 h1 => o1 = _ ∧ h1 = _) (F_X6_readDepot h) (fun t => t = z) 0 [some (.ref 1), none] [] h 0) z hz rfl
  unfold F_X6_readDepot
  refine sS rfl rfl ?_
  refine sS rfl rfl ?_
  refine sS rfl rfl ?_
  refine sS rfl rfl ?_
  refine sJn 17 (fun (v2 : PH) => [some (.ref 1), none]) (fun (v2 : PH) => []) (fun (v2 : PH) => v2) (fun v2 => ?_) (fun k1 hk1 => ?_)
  · refine sS rfl rfl ?_
    refine sC0 (c' := 0) rfl rfl rfl rfl rfl rfl (ok_X6_next d (by omega) v2) (fun h3 => ?_)
    refine sS rfl rfl ?_
    refine sS rfl rfl ?_
    refine sS rfl rfl ?_
    refine sS rfl rfl ?_
    refine sS rfl rfl ?_
    refine sS rfl rfl ?_
    refine sS rfl rfl ?_
    refine sC1 (c' := 0) rfl rfl rfl rfl rfl rfl (ok_X6_takeNumber d (by omega) h3 (0 : Int32) ((h3.1 3 0) - (1 : Int32))) (fun z4 => ?_)
    refine sS rfl rfl ?_
    refine sS rfl rfl ?_
    refine sS rfl rfl ?_
    refine sB rfl rfl ?_ ?_
    · exact sR rfl rfl (fun hg => by cases hg; exact ⟨rfl, rfl⟩)
    · refine sS rfl rfl ?_
      refine sS rfl rfl ?_
      refine sS rfl rfl ?_
      refine sT0 (c' := 0) rfl rfl rfl rfl rfl rfl (ok_X2_addDepot d (by omega) z4.2 z4.1) ?_
      exact sR rfl rfl (fun hg => by cases hg; exact ⟨rfl, rfl⟩)
  · refine sB rfl rfl ?_ ?_
    · have h3 := hk1 (h)
      try dsimp only at h3
      exact h3
    · refine sS rfl rfl ?_
      refine sS rfl rfl ?_
      refine sT0 (c' := 0) rfl rfl rfl rfl rfl rfl (ok_X6_fail d (by omega) h (-4 : Int32)) ?_
      have h3 := hk1 ((F_X6_fail h (-4 : Int32)))
      try dsimp only at h3
      exact h3
noncomputable def F_X6_readFactor (S : PH → Int32 → Option (PH)) (h : PH) (p0 : Int32) : Option (PH) :=
 (F_X6_isWord h 1005).bind fun z1 =>
 if z1 = 0 then
  (F_X6_isWord h 1006).bind fun z2 =>
  if z2 = 0 then
   if (h.1 1 7) = (40 : Int32) then
    if p0 < (4 : Int32) then
     (F_X6_next h).bind fun h3 =>
     (S h3 (p0 + (1 : Int32))).bind fun h4 =>
     (F_X6_takeSign h4 (41 : Int32)).bind fun h5 =>
     some (h5)
    else
     some ((F_X6_fail h (-5 : Int32)))
   else
    (F_X6_takeNumber h (0 : Int32) (9999 : Int32)).bind fun z6 =>
    some ((F_X0_addOperand z6.2 z6.1))
  else
   (F_X6_next (F_X0_addOperand h (10001 : Int32))).bind fun h7 =>
   some (h7)
 else
  (F_X6_next (F_X0_addOperand h (10000 : Int32))).bind fun h8 =>
  some (h8)
set_option maxHeartbeats 4000000 in
set_option maxRecDepth 100000 in
theorem ok_X6_readFactor (S : PH → Int32 → Option (PH)) (dS : Nat) (hB : 3 ≤ dS) (hS : ∀ d, dS ≤ d → ∀ (h : PH) (p0 : Int32), ∀ z, S h p0 = some z → Ex d 56 [.ref 1, .int p0] h (.inl (none)) (z)) (d : Nat) (hd : dS + 1 ≤ d) (h : PH) (p0 : Int32) : ∀ z, F_X6_readFactor S h p0 = some z → Ex d 58 [.ref 1, .int p0] h (.inl (none)) (z) := by
  obtain ⟨d, rfl⟩ : ∃ e, d = e + 1 := ⟨d - 1, by omega⟩
  intro z hz
  refine ⟨rfl, ?_⟩
  refine (?_ : Sim (Ex d) mi_X6_readFactor (fun o1 h1 => o1 = _ ∧ h1 = _) (F_X6_readFactor S h p0) (fun t => t = z) 0 [some (.ref 1), some (.int p0)] [] h 0) z hz rfl
  unfold F_X6_readFactor
  refine sS rfl rfl ?_
  refine sS rfl rfl ?_
  refine sC1 (c' := 0) rfl rfl rfl rfl rfl rfl (ok_X6_isWord d (by omega) h 1005 ⟨rfl, rfl⟩) (fun z1 => ?_)
  refine sB rfl rfl ?_ ?_
  · refine sS rfl rfl ?_
    refine sS rfl rfl ?_
    refine sC1 (c' := 0) rfl rfl rfl rfl rfl rfl (ok_X6_isWord d (by omega) h 1006 ⟨rfl, rfl⟩) (fun z2 => ?_)
    refine sB rfl rfl ?_ ?_
    · refine sS rfl rfl ?_
      refine sS rfl rfl ?_
      refine sS rfl rfl ?_
      refine sB rfl rfl ?_ ?_
      · refine sS rfl rfl ?_
        refine sS rfl rfl ?_
        refine sB rfl rfl ?_ ?_
        · refine sS rfl rfl ?_
          refine sC0 (c' := 0) rfl rfl rfl rfl rfl rfl (ok_X6_next d (by omega) h) (fun h3 => ?_)
          refine sS rfl rfl ?_
          refine sS rfl rfl ?_
          refine sS rfl rfl ?_
          refine sS rfl rfl ?_
          refine sC0 (c' := 0) rfl rfl rfl rfl rfl rfl (hS d (by omega) h3 (p0 + (1 : Int32))) (fun h4 => ?_)
          refine sS rfl rfl ?_
          refine sS rfl rfl ?_
          refine sC0 (c' := 0) rfl rfl rfl rfl rfl rfl (ok_X6_takeSign d (by omega) h4 (41 : Int32)) (fun h5 => ?_)
          exact sR rfl rfl (fun hg => by cases hg; exact ⟨rfl, rfl⟩)
        · refine sS rfl rfl ?_
          refine sS rfl rfl ?_
          refine sT0 (c' := 0) rfl rfl rfl rfl rfl rfl (ok_X6_fail d (by omega) h (-5 : Int32)) ?_
          refine sS rfl rfl ?_
          exact sR rfl rfl (fun hg => by cases hg; exact ⟨rfl, rfl⟩)
      · refine sS rfl rfl ?_
        refine sS rfl rfl ?_
        refine sS rfl rfl ?_
        refine sS rfl rfl ?_
        refine sS rfl rfl ?_
        refine sC1 (c' := 0) rfl rfl rfl rfl rfl rfl (ok_X6_takeNumber d (by omega) h (0 : Int32) (9999 : Int32)) (fun z6 => ?_)
        refine sT0 (c' := 0) rfl rfl rfl rfl rfl rfl (ok_X0_addOperand d (by omega) z6.2 z6.1) ?_
        refine sS rfl rfl ?_
        exact sR rfl rfl (fun hg => by cases hg; exact ⟨rfl, rfl⟩)
    · refine sS rfl rfl ?_
      refine sS rfl rfl ?_
      refine sS rfl rfl ?_
      refine sT0 (c' := 0) rfl rfl rfl rfl rfl rfl (ok_X0_addOperand d (by omega) h (10001 : Int32)) ?_
      refine sS rfl rfl ?_
      refine sC0 (c' := 0) rfl rfl rfl rfl rfl rfl (ok_X6_next d (by omega) (F_X0_addOperand h (10001 : Int32))) (fun h7 => ?_)
      refine sS rfl rfl ?_
      exact sR rfl rfl (fun hg => by cases hg; exact ⟨rfl, rfl⟩)
  · refine sS rfl rfl ?_
    refine sS rfl rfl ?_
    refine sS rfl rfl ?_
    refine sT0 (c' := 0) rfl rfl rfl rfl rfl rfl (ok_X0_addOperand d (by omega) h (10000 : Int32)) ?_
    refine sS rfl rfl ?_
    refine sC0 (c' := 0) rfl rfl rfl rfl rfl rfl (ok_X6_next d (by omega) (F_X0_addOperand h (10000 : Int32))) (fun h8 => ?_)
    refine sS rfl rfl ?_
    exact sR rfl rfl (fun hg => by cases hg; exact ⟨rfl, rfl⟩)
noncomputable def F_X6_readTerm (S : PH → Int32 → Option (PH)) (h : PH) (p0 : Int32) : Option (PH) :=
 (F_X6_readFactor S h p0).bind fun h1 =>
 loop (fun (s2 : Int32 × PH) =>
  if (s2.2.1 1 4) ≤ s2.1 then
   some (.inr (s2.2))
  else
   if ¬ (s2.2.1 1 10) = 0 then
    some (.inr (s2.2))
   else
    if (s2.2.1 1 7) = (42 : Int32) then
     (F_X6_next s2.2).bind fun h3 =>
     (F_X6_readFactor S h3 p0).bind fun h4 =>
     some (.inl ((s2.1 + (1 : Int32)), (F_X0_addOperator h4 (s2.2.1 1 7))))
    else
     if ¬ (s2.2.1 1 7) = (47 : Int32) then
      some (.inr (s2.2))
     else
      (F_X6_next s2.2).bind fun h5 =>
      (F_X6_readFactor S h5 p0).bind fun h6 =>
      some (.inl ((s2.1 + (1 : Int32)), (F_X0_addOperator h6 (s2.2.1 1 7))))) ((0 : Int32), h1)
set_option maxHeartbeats 4000000 in
set_option maxRecDepth 100000 in
theorem ok_X6_readTerm (S : PH → Int32 → Option (PH)) (dS : Nat) (hB : 3 ≤ dS) (hS : ∀ d, dS ≤ d → ∀ (h : PH) (p0 : Int32), ∀ z, S h p0 = some z → Ex d 56 [.ref 1, .int p0] h (.inl (none)) (z)) (d : Nat) (hd : dS + 2 ≤ d) (h : PH) (p0 : Int32) : ∀ z, F_X6_readTerm S h p0 = some z → Ex d 57 [.ref 1, .int p0] h (.inl (none)) (z) := by
  obtain ⟨d, rfl⟩ : ∃ e, d = e + 1 := ⟨d - 1, by omega⟩
  intro z hz
  refine ⟨rfl, ?_⟩
  refine (?_ : Sim (Ex d) mi_X6_readTerm (fun o1 h1 => o1 = _ ∧ h1 = _) (F_X6_readTerm S h p0) (fun t => t = z) 0 [some (.ref 1), some (.int p0), none, none] [] h 0) z hz rfl
  unfold F_X6_readTerm
  refine sS rfl rfl ?_
  refine sS rfl rfl ?_
  refine sC0 (c' := 0) rfl rfl rfl rfl rfl rfl (ok_X6_readFactor S dS hB hS d (by omega) h p0) (fun h1 => ?_)
  refine sS rfl rfl ?_
  refine sS rfl rfl ?_
  refine sL (pc := 7) (lv := fun (s2 : Int32 × PH) => [some (.ref 1), some (.int p0), some (.int (s2.1)), none]) (h := fun (s2 : Int32 × PH) => s2.2) (fun s2 => ?_) ((0 : Int32), h1)
  refine sS rfl rfl ?_
  refine sS rfl rfl ?_
  refine sS rfl rfl ?_
  refine sB rfl rfl ?_ ?_
  · exact sR rfl rfl (fun hg => by cases hg; exact ⟨rfl, rfl⟩)
  · refine sS rfl rfl ?_
    refine sS rfl rfl ?_
    refine sB rfl rfl ?_ ?_
    · exact sR rfl rfl (fun hg => by cases hg; exact ⟨rfl, rfl⟩)
    · refine sS rfl rfl ?_
      refine sS rfl rfl ?_
      refine sS rfl rfl ?_
      refine sB rfl rfl ?_ ?_
      · refine sS rfl rfl ?_
        refine sS rfl rfl ?_
        refine sS rfl rfl ?_
        refine sS rfl rfl ?_
        refine sC0 (c' := 0) rfl rfl rfl rfl rfl rfl (ok_X6_next d (by omega) s2.2) (fun h3 => ?_)
        refine sS rfl rfl ?_
        refine sS rfl rfl ?_
        refine sC0 (c' := 0) rfl rfl rfl rfl rfl rfl (ok_X6_readFactor S dS hB hS d (by omega) h3 p0) (fun h4 => ?_)
        refine sS rfl rfl ?_
        refine sS rfl rfl ?_
        refine sS rfl rfl ?_
        refine sT0 (c' := 0) rfl rfl rfl rfl rfl rfl (ok_X0_addOperator d (by omega) h4 (s2.2.1 1 7)) ?_
        refine sS rfl rfl ?_
        refine sS rfl rfl ?_
        refine sM [true, true, true, false] rfl ?_
        exact sJ (fun h2 => by (try dsimp only at h2); exact h2)
      · refine sS rfl rfl ?_
        refine sS rfl rfl ?_
        refine sS rfl rfl ?_
        refine sB rfl rfl ?_ ?_
        · exact sR rfl rfl (fun hg => by cases hg; exact ⟨rfl, rfl⟩)
        · refine sS rfl rfl ?_
          refine sS rfl rfl ?_
          refine sS rfl rfl ?_
          refine sS rfl rfl ?_
          refine sC0 (c' := 0) rfl rfl rfl rfl rfl rfl (ok_X6_next d (by omega) s2.2) (fun h5 => ?_)
          refine sS rfl rfl ?_
          refine sS rfl rfl ?_
          refine sC0 (c' := 0) rfl rfl rfl rfl rfl rfl (ok_X6_readFactor S dS hB hS d (by omega) h5 p0) (fun h6 => ?_)
          refine sS rfl rfl ?_
          refine sS rfl rfl ?_
          refine sS rfl rfl ?_
          refine sT0 (c' := 0) rfl rfl rfl rfl rfl rfl (ok_X0_addOperator d (by omega) h6 (s2.2.1 1 7)) ?_
          refine sS rfl rfl ?_
          refine sS rfl rfl ?_
          refine sM [true, true, true, false] rfl ?_
          exact sJ (fun h2 => by (try dsimp only at h2); exact h2)
noncomputable def F_X6_readSum (S : PH → Int32 → Option (PH)) (h : PH) (p0 : Int32) : Option (PH) :=
 (F_X6_readTerm S h p0).bind fun h1 =>
 loop (fun (s2 : Int32 × PH) =>
  if (s2.2.1 1 4) ≤ s2.1 then
   some (.inr (s2.2))
  else
   if ¬ (s2.2.1 1 10) = 0 then
    some (.inr (s2.2))
   else
    if (s2.2.1 1 7) = (43 : Int32) then
     (F_X6_next s2.2).bind fun h3 =>
     (F_X6_readTerm S h3 p0).bind fun h4 =>
     some (.inl ((s2.1 + (1 : Int32)), (F_X0_addOperator h4 (s2.2.1 1 7))))
    else
     if ¬ (s2.2.1 1 7) = (45 : Int32) then
      some (.inr (s2.2))
     else
      (F_X6_next s2.2).bind fun h5 =>
      (F_X6_readTerm S h5 p0).bind fun h6 =>
      some (.inl ((s2.1 + (1 : Int32)), (F_X0_addOperator h6 (s2.2.1 1 7))))) ((0 : Int32), h1)
set_option maxHeartbeats 4000000 in
set_option maxRecDepth 100000 in
theorem ok_X6_readSum (S : PH → Int32 → Option (PH)) (dS : Nat) (hB : 3 ≤ dS) (hS : ∀ d, dS ≤ d → ∀ (h : PH) (p0 : Int32), ∀ z, S h p0 = some z → Ex d 56 [.ref 1, .int p0] h (.inl (none)) (z)) (d : Nat) (hd : dS + 3 ≤ d) (h : PH) (p0 : Int32) : ∀ z, F_X6_readSum S h p0 = some z → Ex d 56 [.ref 1, .int p0] h (.inl (none)) (z) := by
  obtain ⟨d, rfl⟩ : ∃ e, d = e + 1 := ⟨d - 1, by omega⟩
  intro z hz
  refine ⟨rfl, ?_⟩
  refine (?_ : Sim (Ex d) mi_X6_readSum (fun o1 h1 => o1 = _ ∧ h1 = _) (F_X6_readSum S h p0) (fun t => t = z) 0 [some (.ref 1), some (.int p0), none, none] [] h 0) z hz rfl
  unfold F_X6_readSum
  refine sS rfl rfl ?_
  refine sS rfl rfl ?_
  refine sC0 (c' := 0) rfl rfl rfl rfl rfl rfl (ok_X6_readTerm S dS hB hS d (by omega) h p0) (fun h1 => ?_)
  refine sS rfl rfl ?_
  refine sS rfl rfl ?_
  refine sL (pc := 7) (lv := fun (s2 : Int32 × PH) => [some (.ref 1), some (.int p0), some (.int (s2.1)), none]) (h := fun (s2 : Int32 × PH) => s2.2) (fun s2 => ?_) ((0 : Int32), h1)
  refine sS rfl rfl ?_
  refine sS rfl rfl ?_
  refine sS rfl rfl ?_
  refine sB rfl rfl ?_ ?_
  · exact sR rfl rfl (fun hg => by cases hg; exact ⟨rfl, rfl⟩)
  · refine sS rfl rfl ?_
    refine sS rfl rfl ?_
    refine sB rfl rfl ?_ ?_
    · exact sR rfl rfl (fun hg => by cases hg; exact ⟨rfl, rfl⟩)
    · refine sS rfl rfl ?_
      refine sS rfl rfl ?_
      refine sS rfl rfl ?_
      refine sB rfl rfl ?_ ?_
      · refine sS rfl rfl ?_
        refine sS rfl rfl ?_
        refine sS rfl rfl ?_
        refine sS rfl rfl ?_
        refine sC0 (c' := 0) rfl rfl rfl rfl rfl rfl (ok_X6_next d (by omega) s2.2) (fun h3 => ?_)
        refine sS rfl rfl ?_
        refine sS rfl rfl ?_
        refine sC0 (c' := 0) rfl rfl rfl rfl rfl rfl (ok_X6_readTerm S dS hB hS d (by omega) h3 p0) (fun h4 => ?_)
        refine sS rfl rfl ?_
        refine sS rfl rfl ?_
        refine sS rfl rfl ?_
        refine sT0 (c' := 0) rfl rfl rfl rfl rfl rfl (ok_X0_addOperator d (by omega) h4 (s2.2.1 1 7)) ?_
        refine sS rfl rfl ?_
        refine sS rfl rfl ?_
        refine sM [true, true, true, false] rfl ?_
        exact sJ (fun h2 => by (try dsimp only at h2); exact h2)
      · refine sS rfl rfl ?_
        refine sS rfl rfl ?_
        refine sS rfl rfl ?_
        refine sB rfl rfl ?_ ?_
        · exact sR rfl rfl (fun hg => by cases hg; exact ⟨rfl, rfl⟩)
        · refine sS rfl rfl ?_
          refine sS rfl rfl ?_
          refine sS rfl rfl ?_
          refine sS rfl rfl ?_
          refine sC0 (c' := 0) rfl rfl rfl rfl rfl rfl (ok_X6_next d (by omega) s2.2) (fun h5 => ?_)
          refine sS rfl rfl ?_
          refine sS rfl rfl ?_
          refine sC0 (c' := 0) rfl rfl rfl rfl rfl rfl (ok_X6_readTerm S dS hB hS d (by omega) h5 p0) (fun h6 => ?_)
          refine sS rfl rfl ?_
          refine sS rfl rfl ?_
          refine sS rfl rfl ?_
          refine sT0 (c' := 0) rfl rfl rfl rfl rfl rfl (ok_X0_addOperator d (by omega) h6 (s2.2.1 1 7)) ?_
          refine sS rfl rfl ?_
          refine sS rfl rfl ?_
          refine sM [true, true, true, false] rfl ?_
          exact sJ (fun h2 => by (try dsimp only at h2); exact h2)
noncomputable def R_X6_readSum : Nat → PH → Int32 → Option (PH)
  | 0 => fun _ _ => none
  | n + 1 => F_X6_readSum (R_X6_readSum n)
theorem okR_X6_readSum : ∀ (n d : Nat), 3 + 3 * n ≤ d → ∀ (h : PH) (p0 : Int32), ∀ z, R_X6_readSum n h p0 = some z → Ex d 56 [.ref 1, .int p0] h (.inl (none)) (z)
  | 0 => fun d _ h p0 z hz => by cases hz
  | n + 1 => fun d hd h p0 z hz => ok_X6_readSum (R_X6_readSum n) (3 + 3 * n) (by omega) (okR_X6_readSum n) d (by omega) h p0 z hz
noncomputable def F_X6_priceServices (h : PH) : Option (PH) :=
 loop (fun (s1 : Int32 × PH) =>
  if ((2 : Int32) * (s1.2.1 3 2)) ≤ s1.1 then
   some (.inr (s1.2))
  else
   (F_X0_valueFor s1.2 (F_X7_at 28 s1.2 5 s1.1) (F_X7_at 14 s1.2 8 (s1.1 / (2 : Int32)))).bind fun z2 =>
   some (.inl ((s1.1 + (1 : Int32)), (F_X7_put 28 z2.2 6 s1.1 (F_X7_limited z2.2 z2.1.toInt64 (0 : Int32) (9999 : Int32)))))) ((0 : Int32), h)
set_option maxHeartbeats 4000000 in
set_option maxRecDepth 100000 in
theorem ok_X6_priceServices (d : Nat) (hd : 4 ≤ d) (h : PH) : ∀ z, F_X6_priceServices h = some z → Ex d 59 [.ref 1] h (.inl (none)) (z) := by
  obtain ⟨d, rfl⟩ : ∃ e, d = e + 1 := ⟨d - 1, by omega⟩
  intro z hz
  refine ⟨rfl, ?_⟩
  refine (?_ : Sim (Ex d) mi_X6_priceServices (fun o1 h1 => o1 = _ ∧ h1 = _) (F_X6_priceServices h) (fun t => t = z) 0 [some (.ref 1), none, none] [] h 0) z hz rfl
  unfold F_X6_priceServices
  refine sS rfl rfl ?_
  refine sS rfl rfl ?_
  refine sL (pc := 2) (lv := fun (s1 : Int32 × PH) => [some (.ref 1), some (.int (s1.1)), none]) (h := fun (s1 : Int32 × PH) => s1.2) (fun s1 => ?_) ((0 : Int32), h)
  refine sS rfl rfl ?_
  refine sS rfl rfl ?_
  refine sS rfl rfl ?_
  refine sS rfl rfl ?_
  refine sS rfl rfl ?_
  refine sS rfl rfl ?_
  refine sB rfl rfl ?_ ?_
  · exact sR rfl rfl (fun hg => by cases hg; exact ⟨rfl, rfl⟩)
  · refine sS rfl rfl ?_
    refine sS rfl rfl ?_
    refine sS rfl rfl ?_
    refine sS rfl rfl ?_
    refine sS rfl rfl ?_
    refine sS rfl rfl ?_
    refine sT1 (c' := 0) rfl rfl rfl rfl rfl rfl (ok_X7_at d (by omega) 28 s1.2 5 s1.1 rfl) ?_
    refine sS rfl rfl ?_
    refine sS rfl rfl ?_
    refine sS rfl rfl ?_
    refine sS rfl rfl ?_
    refine sS rfl rfl ?_
    refine sS rfl rfl ?_
    refine sT1 (c' := 0) rfl rfl rfl rfl rfl rfl (ok_X7_at d (by omega) 14 s1.2 8 (s1.1 / (2 : Int32)) rfl) ?_
    refine sC1 (c' := 0) rfl rfl rfl rfl rfl rfl (ok_X0_valueFor d (by omega) s1.2 (F_X7_at 28 s1.2 5 s1.1) (F_X7_at 14 s1.2 8 (s1.1 / (2 : Int32)))) (fun z2 => ?_)
    refine sS rfl rfl ?_
    refine sS rfl rfl ?_
    refine sS rfl rfl ?_
    refine sS rfl rfl ?_
    refine sS rfl rfl ?_
    refine sS rfl rfl ?_
    refine sS rfl rfl ?_
    refine sS rfl rfl ?_
    refine sS rfl rfl ?_
    refine sT1 (c' := 0) rfl rfl rfl rfl rfl rfl (ok_X7_limited d (by omega) z2.2 z2.1.toInt64 (0 : Int32) (9999 : Int32)) ?_
    refine sT0 (c' := 0) rfl rfl rfl rfl rfl rfl (ok_X7_put d (by omega) 28 z2.2 6 s1.1 (F_X7_limited z2.2 z2.1.toInt64 (0 : Int32) (9999 : Int32)) rfl) ?_
    refine sS rfl rfl ?_
    refine sS rfl rfl ?_
    refine sM [true, true, false] rfl ?_
    exact sJ (fun h2 => by (try dsimp only at h2); exact h2)
noncomputable def F_X6_readSetup (h : PH) (p0 : Int32) : Option (Int32 × PH) :=
 (F_X6_startOver h p0).bind fun h1 =>
 (F_X6_takeWord h1 1000).bind fun h2 =>
 (F_X6_takeNumber h2 (2 : Int32) (8 : Int32)).bind fun z3 =>
 (F_X6_takeNumber (pu z3.2 3 0 z3.1) (1 : Int32) (999 : Int32)).bind fun z4 =>
 (F_X6_takeSign (pu z4.2 3 1 z4.1) (59 : Int32)).bind fun h5 =>
 loop (fun (s6 : Int32 × PH) =>
  jn (fun (v8 : Unit) =>
   if ¬ (s6.2.1 1 10) = 0 then
    some (.inr (((s6.2.1 1 10), s6.2)))
   else
    if (s6.2.1 1 9) = 0 then
     some (.inr (((s6.2.1 1 10), s6.2)))
    else
     (F_X6_priceServices s6.2).bind fun h9 =>
     some (.inr (((h9.1 1 10), h9)))) (fun k7 =>
   if (s6.2.1 1 4) ≤ s6.1 then
    k7 ()
   else
    if ¬ (s6.2.1 1 10) = 0 then
     k7 ()
    else
     if (s6.2.1 1 7) = (258 : Int32) then
      k7 ()
     else
      (F_X6_isWord s6.2 1001).bind fun z10 =>
      jn (fun (v12 : PH) =>
       (F_X6_takeSign v12 (59 : Int32)).bind fun h13 =>
       some (.inl ((s6.1 + (1 : Int32)), h13))) (fun k11 =>
       if z10 = 0 then
        (F_X6_isWord s6.2 1002).bind fun z14 =>
        if z14 = 0 then
         (F_X6_isWord s6.2 1003).bind fun z15 =>
         if z15 = 0 then
          (F_X6_isWord s6.2 1004).bind fun z16 =>
          if z16 = 0 then
           k11 ((F_X6_fail s6.2 (-2 : Int32)))
          else
           if ¬ (s6.2.1 1 9) = 0 then
            k11 ((F_X6_fail s6.2 (-2 : Int32)))
           else
            (F_X6_next (pu s6.2 1 9 (1 : Int32))).bind fun h17 =>
            (R_X6_readSum 8 h17 (0 : Int32)).bind fun h18 =>
            k11 h18
         else
          (F_X6_readDepot s6.2).bind fun h19 =>
          k11 h19
        else
         (F_X6_readBan s6.2).bind fun h20 =>
         k11 h20
       else
        (F_X6_readEdge s6.2).bind fun h21 =>
        k11 h21))) ((0 : Int32), h5)
set_option maxHeartbeats 4000000 in
set_option maxRecDepth 100000 in
theorem ok_X6_readSetup (d : Nat) (hd : 31 ≤ d) (h : PH) (p0 : Int32) : ∀ z, F_X6_readSetup h p0 = some z → Ex d 50 [.ref 1, .int p0] h (.inl (some (.int z.1))) (z.2) := by
  obtain ⟨d, rfl⟩ : ∃ e, d = e + 1 := ⟨d - 1, by omega⟩
  intro z hz
  refine ⟨rfl, ?_⟩
  refine (?_ : Sim (Ex d) mi_X6_readSetup (fun o1 h1 => o1 = _ ∧ h1 = _) (F_X6_readSetup h p0) (fun t => t = z) 0 [some (.ref 1), some (.int p0), none] [] h 0) z hz rfl
  unfold F_X6_readSetup
  refine sS rfl rfl ?_
  refine sS rfl rfl ?_
  refine sC0 (c' := 0) rfl rfl rfl rfl rfl rfl (ok_X6_startOver d (by omega) h p0) (fun h1 => ?_)
  refine sS rfl rfl ?_
  refine sS rfl rfl ?_
  refine sC0 (c' := 0) rfl rfl rfl rfl rfl rfl (ok_X6_takeWord d (by omega) h1 1000 ⟨rfl, rfl⟩) (fun h2 => ?_)
  refine sS rfl rfl ?_
  refine sS rfl rfl ?_
  refine sS rfl rfl ?_
  refine sS rfl rfl ?_
  refine sS rfl rfl ?_
  refine sC1 (c' := 0) rfl rfl rfl rfl rfl rfl (ok_X6_takeNumber d (by omega) h2 (2 : Int32) (8 : Int32)) (fun z3 => ?_)
  refine sS rfl rfl ?_
  refine sS rfl rfl ?_
  refine sS rfl rfl ?_
  refine sS rfl rfl ?_
  refine sS rfl rfl ?_
  refine sS rfl rfl ?_
  refine sC1 (c' := 0) rfl rfl rfl rfl rfl rfl (ok_X6_takeNumber d (by omega) (pu z3.2 3 0 z3.1) (1 : Int32) (999 : Int32)) (fun z4 => ?_)
  refine sS rfl rfl ?_
  refine sS rfl rfl ?_
  refine sS rfl rfl ?_
  refine sC0 (c' := 0) rfl rfl rfl rfl rfl rfl (ok_X6_takeSign d (by omega) (pu z4.2 3 1 z4.1) (59 : Int32)) (fun h5 => ?_)
  refine sS rfl rfl ?_
  refine sS rfl rfl ?_
  refine sM [true, false, true] rfl ?_
  refine sL (pc := 48) (lv := fun (s6 : Int32 × PH) => [some (.ref 1), none, some (.int (s6.1))]) (h := fun (s6 : Int32 × PH) => s6.2) (fun s6 => ?_) ((0 : Int32), h5)
  refine sS rfl rfl ?_
  refine sS rfl rfl ?_
  refine sS rfl rfl ?_
  refine sJn 172 (fun (v8 : Unit) => [some (.ref 1), none, none]) (fun (v8 : Unit) => []) (fun (v8 : Unit) => s6.2) (fun v8 => ?_) (fun k7 hk7 => ?_)
  · refine sS rfl rfl ?_
    refine sS rfl rfl ?_
    refine sB rfl rfl ?_ ?_
    · refine sS rfl rfl ?_
      refine sS rfl rfl ?_
      exact sR rfl rfl (fun hg => by cases hg; exact ⟨rfl, rfl⟩)
    · refine sS rfl rfl ?_
      refine sS rfl rfl ?_
      refine sB rfl rfl ?_ ?_
      · refine sS rfl rfl ?_
        refine sS rfl rfl ?_
        exact sR rfl rfl (fun hg => by cases hg; exact ⟨rfl, rfl⟩)
      · refine sS rfl rfl ?_
        refine sC0 (c' := 0) rfl rfl rfl rfl rfl rfl (ok_X6_priceServices d (by omega) s6.2) (fun h9 => ?_)
        refine sS rfl rfl ?_
        refine sS rfl rfl ?_
        exact sR rfl rfl (fun hg => by cases hg; exact ⟨rfl, rfl⟩)
  · refine sB rfl rfl ?_ ?_
    · refine sM [true, true, false] rfl ?_
      have h3 := hk7 ()
      try dsimp only at h3
      exact h3
    · refine sS rfl rfl ?_
      refine sS rfl rfl ?_
      refine sB rfl rfl ?_ ?_
      · refine sM [true, true, false] rfl ?_
        have h3 := hk7 ()
        try dsimp only at h3
        exact h3
      · refine sS rfl rfl ?_
        refine sS rfl rfl ?_
        refine sS rfl rfl ?_
        refine sB rfl rfl ?_ ?_
        · refine sM [true, true, false] rfl ?_
          have h3 := hk7 ()
          try dsimp only at h3
          exact h3
        · refine sS rfl rfl ?_
          refine sS rfl rfl ?_
          refine sC1 (c' := 0) rfl rfl rfl rfl rfl rfl (ok_X6_isWord d (by omega) s6.2 1001 ⟨rfl, rfl⟩) (fun z10 => ?_)
          refine sJn 160 (fun (v12 : PH) => [some (.ref 1), none, some (.int (s6.1))]) (fun (v12 : PH) => []) (fun (v12 : PH) => v12) (fun v12 => ?_) (fun k11 hk11 => ?_)
          · refine sS rfl rfl ?_
            refine sS rfl rfl ?_
            refine sC0 (c' := 0) rfl rfl rfl rfl rfl rfl (ok_X6_takeSign d (by omega) v12 (59 : Int32)) (fun h13 => ?_)
            refine sS rfl rfl ?_
            refine sS rfl rfl ?_
            exact sJ (fun h2 => by (try dsimp only at h2); exact h2)
          · refine sB rfl rfl ?_ ?_
            · refine sS rfl rfl ?_
              refine sS rfl rfl ?_
              refine sC1 (c' := 0) rfl rfl rfl rfl rfl rfl (ok_X6_isWord d (by omega) s6.2 1002 ⟨rfl, rfl⟩) (fun z14 => ?_)
              refine sB rfl rfl ?_ ?_
              · refine sS rfl rfl ?_
                refine sS rfl rfl ?_
                refine sC1 (c' := 0) rfl rfl rfl rfl rfl rfl (ok_X6_isWord d (by omega) s6.2 1003 ⟨rfl, rfl⟩) (fun z15 => ?_)
                refine sB rfl rfl ?_ ?_
                · refine sS rfl rfl ?_
                  refine sS rfl rfl ?_
                  refine sC1 (c' := 0) rfl rfl rfl rfl rfl rfl (ok_X6_isWord d (by omega) s6.2 1004 ⟨rfl, rfl⟩) (fun z16 => ?_)
                  refine sB rfl rfl ?_ ?_
                  · refine sS rfl rfl ?_
                    refine sS rfl rfl ?_
                    refine sT0 (c' := 0) rfl rfl rfl rfl rfl rfl (ok_X6_fail d (by omega) s6.2 (-2 : Int32)) ?_
                    have h3 := hk11 ((F_X6_fail s6.2 (-2 : Int32)))
                    try dsimp only at h3
                    exact h3
                  · refine sS rfl rfl ?_
                    refine sS rfl rfl ?_
                    refine sB rfl rfl ?_ ?_
                    · refine sS rfl rfl ?_
                      refine sS rfl rfl ?_
                      refine sT0 (c' := 0) rfl rfl rfl rfl rfl rfl (ok_X6_fail d (by omega) s6.2 (-2 : Int32)) ?_
                      have h3 := hk11 ((F_X6_fail s6.2 (-2 : Int32)))
                      try dsimp only at h3
                      exact h3
                    · refine sS rfl rfl ?_
                      refine sS rfl rfl ?_
                      refine sS rfl rfl ?_
                      refine sS rfl rfl ?_
                      refine sC0 (c' := 0) rfl rfl rfl rfl rfl rfl (ok_X6_next d (by omega) (pu s6.2 1 9 (1 : Int32))) (fun h17 => ?_)
                      refine sS rfl rfl ?_
                      refine sS rfl rfl ?_
                      refine sC0 (c' := 0) rfl rfl rfl rfl rfl rfl (okR_X6_readSum 8 d (by omega) h17 (0 : Int32)) (fun h18 => ?_)
                      refine sS rfl rfl ?_
                      have h3 := hk11 (h18)
                      try dsimp only at h3
                      exact h3
                · refine sS rfl rfl ?_
                  refine sC0 (c' := 0) rfl rfl rfl rfl rfl rfl (ok_X6_readDepot d (by omega) s6.2) (fun h19 => ?_)
                  refine sS rfl rfl ?_
                  have h3 := hk11 (h19)
                  try dsimp only at h3
                  exact h3
              · refine sS rfl rfl ?_
                refine sC0 (c' := 0) rfl rfl rfl rfl rfl rfl (ok_X6_readBan d (by omega) s6.2) (fun h20 => ?_)
                refine sS rfl rfl ?_
                have h3 := hk11 (h20)
                try dsimp only at h3
                exact h3
            · refine sS rfl rfl ?_
              refine sC0 (c' := 0) rfl rfl rfl rfl rfl rfl (ok_X6_readEdge d (by omega) s6.2) (fun h21 => ?_)
              refine sS rfl rfl ?_
              have h3 := hk11 (h21)
              try dsimp only at h3
              exact h3
