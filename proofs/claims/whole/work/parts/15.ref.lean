noncomputable def F_X8_thrown (h : PH) : Int32 :=
 (h.1 122 0)
set_option maxHeartbeats 4000000 in
set_option maxRecDepth 100000 in
theorem ok_X8_thrown (d : Nat) (hd : 1 ≤ d) (h : PH) : Ex d 109 [.ref 122] h (.inl (some (.int (F_X8_thrown h)))) (h) := by
  obtain ⟨d, rfl⟩ : ∃ e, d = e + 1 := ⟨d - 1, by omega⟩
  suffices key : ∀ z, F_X8_thrown h = z → Ex (d + 1) 109 [.ref 122] h (.inl (some (.int z))) (h) from key _ rfl
  intro z hz
  refine ⟨rfl, ?_⟩
  refine (?_ : Sim (Ex d) mi_X8_thrown (fun o1 h1 => o1 = _ ∧ h1 = _) (some (F_X8_thrown h)) (fun t => t = z) 0 [some (.ref 122)] [] h 0) z (by rw [hz]) rfl
  clear hz
  unfold F_X8_thrown
  refine sS rfl rfl ?_
  refine sS rfl rfl ?_
  exact sR rfl rfl (fun hg => by cases hg; exact ⟨rfl, rfl⟩)
noncomputable def F_X8_fails (h : PH) (p0 : Int32) (p1 : Int32) : Int32 × PH :=
 if p0 = 0 then
  if (h.1 122 0) = 0 then
   ((0 : Int32), h)
  else
   ((1 : Int32), h)
 else
  if ¬ (h.1 122 0) = 0 then
   if (h.1 122 0) = 0 then
    ((0 : Int32), h)
   else
    ((1 : Int32), h)
  else
   if ((pu h 122 0 p1).1 122 0) = 0 then
    ((0 : Int32), (pu h 122 0 p1))
   else
    ((1 : Int32), (pu h 122 0 p1))
set_option maxHeartbeats 4000000 in
set_option maxRecDepth 100000 in
theorem ok_X8_fails (d : Nat) (hd : 1 ≤ d) (h : PH) (p0 : Int32) (p1 : Int32) : Ex d 110 [.ref 122, .int p0, .int p1] h (.inl (some (.int (F_X8_fails h p0 p1).1))) ((F_X8_fails h p0 p1).2) := by
  obtain ⟨d, rfl⟩ : ∃ e, d = e + 1 := ⟨d - 1, by omega⟩
  suffices key : ∀ z, F_X8_fails h p0 p1 = z → Ex (d + 1) 110 [.ref 122, .int p0, .int p1] h (.inl (some (.int z.1))) (z.2) from key _ rfl
  intro z hz
  refine ⟨rfl, ?_⟩
  refine (?_ : Sim (Ex d) mi_X8_fails (fun o1 h1 => o1 = _ ∧ h1 = _) (some (F_X8_fails h p0 p1)) (fun t => t = z) 0 [some (.ref 122), some (.int p0), some (.int p1)] [] h 0) z (by rw [hz]) rfl
  clear hz
  unfold F_X8_fails
  refine sS rfl rfl ?_
  refine sBt rfl rfl ?_ ?_
  · refine sS rfl rfl ?_
    refine sS rfl rfl ?_
    refine sBt rfl rfl ?_ ?_
    · refine sS rfl rfl ?_
      exact sR rfl rfl (fun hg => by cases hg; exact ⟨rfl, rfl⟩)
    · refine sS rfl rfl ?_
      refine sS rfl rfl ?_
      exact sR rfl rfl (fun hg => by cases hg; exact ⟨rfl, rfl⟩)
  · refine sS rfl rfl ?_
    refine sS rfl rfl ?_
    refine sBt rfl rfl ?_ ?_
    · refine sS rfl rfl ?_
      refine sS rfl rfl ?_
      refine sBt rfl rfl ?_ ?_
      · refine sS rfl rfl ?_
        exact sR rfl rfl (fun hg => by cases hg; exact ⟨rfl, rfl⟩)
      · refine sS rfl rfl ?_
        refine sS rfl rfl ?_
        exact sR rfl rfl (fun hg => by cases hg; exact ⟨rfl, rfl⟩)
    · refine sS rfl rfl ?_
      refine sS rfl rfl ?_
      refine sS rfl rfl ?_
      refine sS rfl rfl ?_
      refine sS rfl rfl ?_
      refine sBt rfl rfl ?_ ?_
      · refine sS rfl rfl ?_
        exact sR rfl rfl (fun hg => by cases hg; exact ⟨rfl, rfl⟩)
      · refine sS rfl rfl ?_
        refine sS rfl rfl ?_
        exact sR rfl rfl (fun hg => by cases hg; exact ⟨rfl, rfl⟩)
noncomputable def F_X8_in (h : PH) (p0 : Int32) (p1 : Int32) (p2 : Int32) : Int32 :=
 if p0 < p1 then
  (0 : Int32)
 else
  if p2 < p0 then
   (0 : Int32)
  else
   (1 : Int32)
set_option maxHeartbeats 4000000 in
set_option maxRecDepth 100000 in
theorem ok_X8_in (d : Nat) (hd : 1 ≤ d) (h : PH) (p0 : Int32) (p1 : Int32) (p2 : Int32) : Ex d 111 [.int p0, .int p1, .int p2] h (.inl (some (.int (F_X8_in h p0 p1 p2)))) (h) := by
  obtain ⟨d, rfl⟩ : ∃ e, d = e + 1 := ⟨d - 1, by omega⟩
  suffices key : ∀ z, F_X8_in h p0 p1 p2 = z → Ex (d + 1) 111 [.int p0, .int p1, .int p2] h (.inl (some (.int z))) (h) from key _ rfl
  intro z hz
  refine ⟨rfl, ?_⟩
  refine (?_ : Sim (Ex d) mi_X8_in (fun o1 h1 => o1 = _ ∧ h1 = _) (some (F_X8_in h p0 p1 p2)) (fun t => t = z) 0 [some (.int p0), some (.int p1), some (.int p2)] [] h 0) z (by rw [hz]) rfl
  clear hz
  unfold F_X8_in
  refine sS rfl rfl ?_
  refine sS rfl rfl ?_
  refine sBt rfl rfl ?_ ?_
  · refine sS rfl rfl ?_
    exact sR rfl rfl (fun hg => by cases hg; exact ⟨rfl, rfl⟩)
  · refine sS rfl rfl ?_
    refine sS rfl rfl ?_
    refine sBt rfl rfl ?_ ?_
    · refine sS rfl rfl ?_
      exact sR rfl rfl (fun hg => by cases hg; exact ⟨rfl, rfl⟩)
    · refine sS rfl rfl ?_
      refine sS rfl rfl ?_
      exact sR rfl rfl (fun hg => by cases hg; exact ⟨rfl, rfl⟩)
noncomputable def F_X8_min (h : PH) (p0 : Int32) (p1 : Int32) : Int32 :=
 if p1 ≤ p0 then
  p1
 else
  p0
set_option maxHeartbeats 4000000 in
set_option maxRecDepth 100000 in
theorem ok_X8_min (d : Nat) (hd : 1 ≤ d) (h : PH) (p0 : Int32) (p1 : Int32) : Ex d 112 [.int p0, .int p1] h (.inl (some (.int (F_X8_min h p0 p1)))) (h) := by
  obtain ⟨d, rfl⟩ : ∃ e, d = e + 1 := ⟨d - 1, by omega⟩
  suffices key : ∀ z, F_X8_min h p0 p1 = z → Ex (d + 1) 112 [.int p0, .int p1] h (.inl (some (.int z))) (h) from key _ rfl
  intro z hz
  refine ⟨rfl, ?_⟩
  refine (?_ : Sim (Ex d) mi_X8_min (fun o1 h1 => o1 = _ ∧ h1 = _) (some (F_X8_min h p0 p1)) (fun t => t = z) 0 [some (.int p0), some (.int p1)] [] h 0) z (by rw [hz]) rfl
  clear hz
  unfold F_X8_min
  refine sS rfl rfl ?_
  refine sS rfl rfl ?_
  refine sBt rfl rfl ?_ ?_
  · refine sS rfl rfl ?_
    exact sR rfl rfl (fun hg => by cases hg; exact ⟨rfl, rfl⟩)
  · refine sS rfl rfl ?_
    refine sS rfl rfl ?_
    exact sR rfl rfl (fun hg => by cases hg; exact ⟨rfl, rfl⟩)
noncomputable def F_X8_copy (h : PH) (o : Nat) (w : Nat) : Option (PH) :=
 loop (fun (s1 : Int32 × PH) =>
  if (1556 : Int32) ≤ s1.1 then
   some (.inr (s1.2))
  else
   (ald 1556 s1.2 o s1.1).bind fun z2 =>
   (ast 1556 s1.2 w s1.1 z2).bind fun h3 =>
   some (.inl ((s1.1 + (1 : Int32)), h3))) ((0 : Int32), h)
set_option maxHeartbeats 4000000 in
set_option maxRecDepth 100000 in
theorem ok_X8_copy (d : Nat) (hd : 1 ≤ d) (h : PH) (o : Nat) (Ho : layF o = (1, 1556, [])) (w : Nat) (Hw : layF w = (1, 1556, [])) : ∀ z, F_X8_copy h o w = some z → Ex d 113 [.ref o, .ref w] h (.inl (none)) (z) := by
  obtain ⟨d, rfl⟩ : ∃ e, d = e + 1 := ⟨d - 1, by omega⟩
  intro z hz
  refine ⟨rfl, ?_⟩
  refine (?_ : Sim (Ex d) mi_X8_copy (fun o1 h1 => o1 = _ ∧ h1 = _) (F_X8_copy h o w) (fun t => t = z) 0 [some (.ref o), some (.ref w), none] [] h 0) z hz rfl
  unfold F_X8_copy
  refine sS rfl rfl ?_
  refine sS rfl rfl ?_
  refine sL (pc := 2) (lv := fun (s1 : Int32 × PH) => [some (.ref o), some (.ref w), some (.int (s1.1))]) (h := fun (s1 : Int32 × PH) => s1.2) (fun s1 => ?_) ((0 : Int32), h)
  refine sS rfl rfl ?_
  refine sS rfl rfl ?_
  refine sB rfl rfl ?_ ?_
  · exact sR rfl rfl (fun hg => by cases hg; exact ⟨rfl, rfl⟩)
  · refine sS rfl rfl ?_
    refine sS rfl rfl ?_
    refine sS rfl rfl ?_
    refine sS rfl rfl ?_
    refine sIald rfl Ho (fun z2 => ?_)
    refine sIast rfl Hw (fun h3 => ?_)
    refine sS rfl rfl ?_
    refine sS rfl rfl ?_
    exact sJ (fun h2 => by (try dsimp only at h2); exact h2)
noncomputable def F_X8_edge (h : PH) (p0 : Int32) : Int32 :=
 ((7 : Int32) + ((5 : Int32) * p0))
set_option maxHeartbeats 4000000 in
set_option maxRecDepth 100000 in
theorem ok_X8_edge (d : Nat) (hd : 1 ≤ d) (h : PH) (p0 : Int32) : Ex d 114 [.int p0] h (.inl (some (.int (F_X8_edge h p0)))) (h) := by
  obtain ⟨d, rfl⟩ : ∃ e, d = e + 1 := ⟨d - 1, by omega⟩
  suffices key : ∀ z, F_X8_edge h p0 = z → Ex (d + 1) 114 [.int p0] h (.inl (some (.int z))) (h) from key _ rfl
  intro z hz
  refine ⟨rfl, ?_⟩
  refine (?_ : Sim (Ex d) mi_X8_edge (fun o1 h1 => o1 = _ ∧ h1 = _) (some (F_X8_edge h p0)) (fun t => t = z) 0 [some (.int p0)] [] h 0) z (by rw [hz]) rfl
  clear hz
  unfold F_X8_edge
  refine sS rfl rfl ?_
  refine sS rfl rfl ?_
  refine sS rfl rfl ?_
  refine sS rfl rfl ?_
  refine sS rfl rfl ?_
  exact sR rfl rfl (fun hg => by cases hg; exact ⟨rfl, rfl⟩)
noncomputable def F_X8_ban (h : PH) (p0 : Int32) (p1 : Int32) : Int32 :=
 (((77 : Int32) + ((14 : Int32) * p0)) + p1)
set_option maxHeartbeats 4000000 in
set_option maxRecDepth 100000 in
theorem ok_X8_ban (d : Nat) (hd : 1 ≤ d) (h : PH) (p0 : Int32) (p1 : Int32) : Ex d 115 [.int p0, .int p1] h (.inl (some (.int (F_X8_ban h p0 p1)))) (h) := by
  obtain ⟨d, rfl⟩ : ∃ e, d = e + 1 := ⟨d - 1, by omega⟩
  suffices key : ∀ z, F_X8_ban h p0 p1 = z → Ex (d + 1) 115 [.int p0, .int p1] h (.inl (some (.int z))) (h) from key _ rfl
  intro z hz
  refine ⟨rfl, ?_⟩
  refine (?_ : Sim (Ex d) mi_X8_ban (fun o1 h1 => o1 = _ ∧ h1 = _) (some (F_X8_ban h p0 p1)) (fun t => t = z) 0 [some (.int p0), some (.int p1)] [] h 0) z (by rw [hz]) rfl
  clear hz
  unfold F_X8_ban
  refine sS rfl rfl ?_
  refine sS rfl rfl ?_
  refine sS rfl rfl ?_
  refine sS rfl rfl ?_
  refine sS rfl rfl ?_
  refine sS rfl rfl ?_
  refine sS rfl rfl ?_
  exact sR rfl rfl (fun hg => by cases hg; exact ⟨rfl, rfl⟩)
noncomputable def F_X8_tour (h : PH) (p0 : Int32) : Int32 :=
 ((192 : Int32) + ((16 : Int32) * p0))
set_option maxHeartbeats 4000000 in
set_option maxRecDepth 100000 in
theorem ok_X8_tour (d : Nat) (hd : 1 ≤ d) (h : PH) (p0 : Int32) : Ex d 116 [.int p0] h (.inl (some (.int (F_X8_tour h p0)))) (h) := by
  obtain ⟨d, rfl⟩ : ∃ e, d = e + 1 := ⟨d - 1, by omega⟩
  suffices key : ∀ z, F_X8_tour h p0 = z → Ex (d + 1) 116 [.int p0] h (.inl (some (.int z))) (h) from key _ rfl
  intro z hz
  refine ⟨rfl, ?_⟩
  refine (?_ : Sim (Ex d) mi_X8_tour (fun o1 h1 => o1 = _ ∧ h1 = _) (some (F_X8_tour h p0)) (fun t => t = z) 0 [some (.int p0)] [] h 0) z (by rw [hz]) rfl
  clear hz
  unfold F_X8_tour
  refine sS rfl rfl ?_
  refine sS rfl rfl ?_
  refine sS rfl rfl ?_
  refine sS rfl rfl ?_
  refine sS rfl rfl ?_
  exact sR rfl rfl (fun hg => by cases hg; exact ⟨rfl, rfl⟩)
noncomputable def F_X8_append (h : PH) (p0 : Int32) (p1 : Int32) (p2 : Int32) (p3 : Int32) (p4 : Int32) : Option (Int32 × PH) :=
 if (((pu h 122 0 (0 : Int32)).1 122 2) + (20 : Int32)) ≤ (700 : Int32) then
  loop (fun (s1 : Int32 × PH) =>
   if (20 : Int32) ≤ s1.1 then
    some (.inr (((s1.2.1 122 2), s1.2)))
   else
    jn (fun (v3 : Int32) =>
     (ast 700 s1.2 123 (s1.2.1 122 2) ((v3 >>> (((24 : Int32) - ((8 : Int32) * (s1.1 - s1.1 / (4 : Int32) * (4 : Int32)))) &&& 31)) &&& (255 : Int32))).bind fun h4 =>
     some (.inl ((s1.1 + (1 : Int32)), (pu h4 122 2 ((h4.1 122 2) + (1 : Int32)))))) (fun k2 =>
     if (4 : Int32) ≤ s1.1 then
      if (8 : Int32) ≤ s1.1 then
       if (12 : Int32) ≤ s1.1 then
        if (16 : Int32) ≤ s1.1 then
         k2 p4
        else
         k2 p3
       else
        k2 p2
      else
       k2 p1
     else
      k2 p0)) ((0 : Int32), (pu h 122 0 (0 : Int32)))
 else
  some (((-1 : Int32), (pu h 122 0 (0 : Int32))))
set_option maxHeartbeats 4000000 in
set_option maxRecDepth 100000 in
theorem ok_X8_append (d : Nat) (hd : 1 ≤ d) (h : PH) (p0 : Int32) (p1 : Int32) (p2 : Int32) (p3 : Int32) (p4 : Int32) : ∀ z, F_X8_append h p0 p1 p2 p3 p4 = some z → Ex d 117 [.ref 122, .int p0, .int p1, .int p2, .int p3, .int p4] h (.inl (some (.int z.1))) (z.2) := by
  obtain ⟨d, rfl⟩ : ∃ e, d = e + 1 := ⟨d - 1, by omega⟩
  intro z hz
  refine ⟨rfl, ?_⟩
  refine (?_ : Sim (Ex d) mi_X8_append (fun o1 h1 => o1 = _ ∧ h1 = _) (F_X8_append h p0 p1 p2 p3 p4) (fun t => t = z) 0 [some (.ref 122), some (.int p0), some (.int p1), some (.int p2), some (.int p3), some (.int p4), none, none] [] h 0) z hz rfl
  unfold F_X8_append
  refine sS rfl rfl ?_
  refine sS rfl rfl ?_
  refine sS rfl rfl ?_
  refine sS rfl rfl ?_
  refine sS rfl rfl ?_
  refine sS rfl rfl ?_
  refine sS rfl rfl ?_
  refine sS rfl rfl ?_
  refine sB rfl rfl ?_ ?_
  · refine sS rfl rfl ?_
    refine sS rfl rfl ?_
    refine sL (pc := 23) (lv := fun (s1 : Int32 × PH) => [some (.ref 122), some (.int p0), some (.int p1), some (.int p2), some (.int p3), some (.int p4), some (.int (s1.1)), none]) (h := fun (s1 : Int32 × PH) => s1.2) (fun s1 => ?_) ((0 : Int32), (pu h 122 0 (0 : Int32)))
    refine sS rfl rfl ?_
    refine sS rfl rfl ?_
    refine sB rfl rfl ?_ ?_
    · refine sS rfl rfl ?_
      refine sS rfl rfl ?_
      exact sR rfl rfl (fun hg => by cases hg; exact ⟨rfl, rfl⟩)
    · refine sS rfl rfl ?_
      refine sS rfl rfl ?_
      refine sJn 76 (fun (v3 : Int32) => [some (.ref 122), some (.int p0), some (.int p1), some (.int p2), some (.int p3), some (.int p4), some (.int (s1.1)), none]) (fun (v3 : Int32) => [.int v3]) (fun (v3 : Int32) => s1.2) (fun v3 => ?_) (fun k2 hk2 => ?_)
      · refine sS rfl rfl ?_
        refine sS rfl rfl ?_
        refine sS rfl rfl ?_
        refine sS rfl rfl ?_
        refine sS rfl rfl ?_
        refine sS rfl rfl ?_
        refine sS rfl rfl ?_
        refine sS rfl rfl ?_
        refine sS rfl rfl ?_
        refine sS rfl rfl ?_
        refine sS rfl rfl ?_
        refine sS rfl rfl ?_
        refine sS rfl rfl ?_
        refine sS rfl rfl ?_
        refine sS rfl rfl ?_
        refine sS rfl rfl ?_
        refine sIast rfl rfl (fun h4 => ?_)
        refine sS rfl rfl ?_
        refine sS rfl rfl ?_
        refine sS rfl rfl ?_
        refine sS rfl rfl ?_
        refine sS rfl rfl ?_
        refine sS rfl rfl ?_
        refine sS rfl rfl ?_
        refine sS rfl rfl ?_
        refine sM [true, true, true, true, true, true, true, false] rfl ?_
        exact sJ (fun h2 => by (try dsimp only at h2); exact h2)
      · refine sB rfl rfl ?_ ?_
        · refine sS rfl rfl ?_
          refine sS rfl rfl ?_
          refine sB rfl rfl ?_ ?_
          · refine sS rfl rfl ?_
            refine sS rfl rfl ?_
            refine sB rfl rfl ?_ ?_
            · refine sS rfl rfl ?_
              refine sS rfl rfl ?_
              refine sB rfl rfl ?_ ?_
              · refine sS rfl rfl ?_
                have h3 := hk2 (p4)
                try dsimp only at h3
                exact h3
              · refine sS rfl rfl ?_
                refine sS rfl rfl ?_
                have h3 := hk2 (p3)
                try dsimp only at h3
                exact h3
            · refine sS rfl rfl ?_
              refine sS rfl rfl ?_
              have h3 := hk2 (p2)
              try dsimp only at h3
              exact h3
          · refine sS rfl rfl ?_
            refine sS rfl rfl ?_
            have h3 := hk2 (p1)
            try dsimp only at h3
            exact h3
        · refine sS rfl rfl ?_
          refine sS rfl rfl ?_
          have h3 := hk2 (p0)
          try dsimp only at h3
          exact h3
  · refine sS rfl rfl ?_
    exact sR rfl rfl (fun hg => by cases hg; exact ⟨rfl, rfl⟩)
noncomputable def F_X8_byteAt (h : PH) (p0 : Int32) : Option (Int32) :=
 if (h.1 122 3) ≤ p0 then
  some ((-1 : Int32))
 else
  (ald 700 h 123 p0).bind fun z1 =>
  some (z1)
set_option maxHeartbeats 4000000 in
set_option maxRecDepth 100000 in
theorem ok_X8_byteAt (d : Nat) (hd : 1 ≤ d) (h : PH) (p0 : Int32) : ∀ z, F_X8_byteAt h p0 = some z → Ex d 118 [.ref 122, .int p0] h (.inl (some (.int z))) (h) := by
  obtain ⟨d, rfl⟩ : ∃ e, d = e + 1 := ⟨d - 1, by omega⟩
  intro z hz
  refine ⟨rfl, ?_⟩
  refine (?_ : Sim (Ex d) mi_X8_byteAt (fun o1 h1 => o1 = _ ∧ h1 = _) (F_X8_byteAt h p0) (fun t => t = z) 0 [some (.ref 122), some (.int p0)] [] h 0) z hz rfl
  unfold F_X8_byteAt
  refine sS rfl rfl ?_
  refine sS rfl rfl ?_
  refine sS rfl rfl ?_
  refine sB rfl rfl ?_ ?_
  · refine sS rfl rfl ?_
    exact sR rfl rfl (fun hg => by cases hg; exact ⟨rfl, rfl⟩)
  · refine sS rfl rfl ?_
    refine sS rfl rfl ?_
    refine sS rfl rfl ?_
    refine sIald rfl rfl (fun z1 => ?_)
    refine sS rfl rfl ?_
    exact sR rfl rfl (fun hg => by cases hg; exact ⟨rfl, rfl⟩)
noncomputable def F_X8_next (h : PH) : Option (Int32 × PH) :=
 loop (fun (s1 : PH) =>
  (F_X8_byteAt s1 (s1.1 122 4)).bind fun z2 =>
  if ¬ z2 = (32 : Int32) then
   (F_X8_byteAt s1 (s1.1 122 4)).bind fun z3 =>
   some (.inr ((z3, s1)))
  else
   some (.inl ((pu s1 122 4 ((s1.1 122 4) + (1 : Int32)))))) (h)
set_option maxHeartbeats 4000000 in
set_option maxRecDepth 100000 in
theorem ok_X8_next (d : Nat) (hd : 2 ≤ d) (h : PH) : ∀ z, F_X8_next h = some z → Ex d 119 [.ref 122] h (.inl (some (.int z.1))) (z.2) := by
  obtain ⟨d, rfl⟩ : ∃ e, d = e + 1 := ⟨d - 1, by omega⟩
  intro z hz
  refine ⟨rfl, ?_⟩
  refine (?_ : Sim (Ex d) mi_X8_next (fun o1 h1 => o1 = _ ∧ h1 = _) (F_X8_next h) (fun t => t = z) 0 [some (.ref 122)] [] h 0) z hz rfl
  unfold F_X8_next
  refine sL (pc := 0) (lv := fun (s1 : PH) => [some (.ref 122)]) (h := fun (s1 : PH) => s1) (fun s1 => ?_) (h)
  refine sS rfl rfl ?_
  refine sS rfl rfl ?_
  refine sS rfl rfl ?_
  refine sC1 (c' := 0) rfl rfl rfl rfl rfl rfl (ok_X8_byteAt d (by omega) s1 (s1.1 122 4)) (fun z2 => ?_)
  refine sS rfl rfl ?_
  refine sB rfl rfl ?_ ?_
  · refine sS rfl rfl ?_
    refine sS rfl rfl ?_
    refine sS rfl rfl ?_
    refine sC1 (c' := 0) rfl rfl rfl rfl rfl rfl (ok_X8_byteAt d (by omega) s1 (s1.1 122 4)) (fun z3 => ?_)
    exact sR rfl rfl (fun hg => by cases hg; exact ⟨rfl, rfl⟩)
  · refine sS rfl rfl ?_
    refine sS rfl rfl ?_
    refine sS rfl rfl ?_
    refine sS rfl rfl ?_
    refine sS rfl rfl ?_
    refine sS rfl rfl ?_
    refine sS rfl rfl ?_
    exact sJ (fun h2 => by (try dsimp only at h2); exact h2)
noncomputable def F_X8_isGood (h : PH) : Int32 :=
 if ¬ (h.1 122 5) = 0 then
  (0 : Int32)
 else
  (1 : Int32)
set_option maxHeartbeats 4000000 in
set_option maxRecDepth 100000 in
theorem ok_X8_isGood (d : Nat) (hd : 1 ≤ d) (h : PH) : Ex d 120 [.ref 122] h (.inl (some (.int (F_X8_isGood h)))) (h) := by
  obtain ⟨d, rfl⟩ : ∃ e, d = e + 1 := ⟨d - 1, by omega⟩
  suffices key : ∀ z, F_X8_isGood h = z → Ex (d + 1) 120 [.ref 122] h (.inl (some (.int z))) (h) from key _ rfl
  intro z hz
  refine ⟨rfl, ?_⟩
  refine (?_ : Sim (Ex d) mi_X8_isGood (fun o1 h1 => o1 = _ ∧ h1 = _) (some (F_X8_isGood h)) (fun t => t = z) 0 [some (.ref 122)] [] h 0) z (by rw [hz]) rfl
  clear hz
  unfold F_X8_isGood
  refine sS rfl rfl ?_
  refine sS rfl rfl ?_
  refine sBt rfl rfl ?_ ?_
  · refine sS rfl rfl ?_
    exact sR rfl rfl (fun hg => by cases hg; exact ⟨rfl, rfl⟩)
  · refine sS rfl rfl ?_
    refine sS rfl rfl ?_
    exact sR rfl rfl (fun hg => by cases hg; exact ⟨rfl, rfl⟩)
noncomputable def F_X8_report (h : PH) (p0 : Int32) (p1 : Int32) : PH :=
 if (h.1 122 5) = 0 then
  (pu (pu h 122 5 p0) 122 6 p1)
 else
  h
set_option maxHeartbeats 4000000 in
set_option maxRecDepth 100000 in
theorem ok_X8_report (d : Nat) (hd : 1 ≤ d) (h : PH) (p0 : Int32) (p1 : Int32) : Ex d 121 [.ref 122, .int p0, .int p1] h (.inl (none)) ((F_X8_report h p0 p1)) := by
  obtain ⟨d, rfl⟩ : ∃ e, d = e + 1 := ⟨d - 1, by omega⟩
  suffices key : ∀ z, F_X8_report h p0 p1 = z → Ex (d + 1) 121 [.ref 122, .int p0, .int p1] h (.inl (none)) (z) from key _ rfl
  intro z hz
  refine ⟨rfl, ?_⟩
  refine (?_ : Sim (Ex d) mi_X8_report (fun o1 h1 => o1 = _ ∧ h1 = _) (some (F_X8_report h p0 p1)) (fun t => t = z) 0 [some (.ref 122), some (.int p0), some (.int p1)] [] h 0) z (by rw [hz]) rfl
  clear hz
  unfold F_X8_report
  refine sS rfl rfl ?_
  refine sS rfl rfl ?_
  refine sBt rfl rfl ?_ ?_
  · refine sS rfl rfl ?_
    refine sS rfl rfl ?_
    refine sS rfl rfl ?_
    refine sS rfl rfl ?_
    refine sS rfl rfl ?_
    refine sS rfl rfl ?_
    exact sR rfl rfl (fun hg => by cases hg; exact ⟨rfl, rfl⟩)
  · exact sR rfl rfl (fun hg => by cases hg; exact ⟨rfl, rfl⟩)
noncomputable def F_X8_isDigit (h : PH) (p0 : Int32) : Option (Int32) :=
 (zbo (F_X8_in h p0 (48 : Int32) (57 : Int32))).bind fun z1 => some (z1)
set_option maxHeartbeats 4000000 in
set_option maxRecDepth 100000 in
theorem ok_X8_isDigit (d : Nat) (hd : 2 ≤ d) (h : PH) (p0 : Int32) : ∀ z, F_X8_isDigit h p0 = some z → Ex d 122 [.int p0] h (.inl (some (.int z))) (h) := by
  obtain ⟨d, rfl⟩ : ∃ e, d = e + 1 := ⟨d - 1, by omega⟩
  intro z hz
  refine ⟨rfl, ?_⟩
  refine (?_ : Sim (Ex d) mi_X8_isDigit (fun o1 h1 => o1 = _ ∧ h1 = _) (F_X8_isDigit h p0) (fun t => t = z) 0 [some (.int p0)] [] h 0) z hz rfl
  unfold F_X8_isDigit
  refine sS rfl rfl ?_
  refine sS rfl rfl ?_
  refine sS rfl rfl ?_
  refine sT1 (c' := 0) rfl rfl rfl rfl rfl rfl (ok_X8_in d (by omega) h p0 (48 : Int32) (57 : Int32)) ?_
  exact sZ rfl rfl (fun z hg => by cases hg; exact ⟨rfl, rfl⟩)
noncomputable def F_X8_takeWord (h : PH) (w : Nat) : Option (Int32 × PH) :=
 if ¬ (F_X8_isGood h) = 0 then
  (F_X8_next h).bind fun z1 =>
  loop (fun (s2 : Int32) =>
   jn (fun (v4 : Unit) =>
    if s2 < (Int32.ofNat (slenF (w - SB))) then
     some (.inr (((0 : Int32), z1.2)))
    else
     (F_X8_byteAt z1.2 ((z1.2.1 122 4) + s2)).bind fun z5 =>
     if (F_X8_in z1.2 z5 (97 : Int32) (122 : Int32)) = 0 then
      some (.inr (((1 : Int32), (pu z1.2 122 4 ((z1.2.1 122 4) + s2)))))
     else
      some (.inr (((0 : Int32), z1.2)))) (fun k3 =>
    if (Int32.ofNat (slenF (w - SB))) ≤ s2 then
     k3 ()
    else
     (F_X8_byteAt z1.2 ((z1.2.1 122 4) + s2)).bind fun z6 =>
     (chO w s2).bind fun z7 =>
     if ¬ z6 = z7 then
      k3 ()
     else
      some (.inl ((s2 + (1 : Int32)))))) ((0 : Int32))
 else
  some (((0 : Int32), h))
set_option maxHeartbeats 4000000 in
set_option maxRecDepth 100000 in
theorem ok_X8_takeWord (d : Nat) (hd : 3 ≤ d) (h : PH) (w : Nat) (Hw : isStr w) : ∀ z, F_X8_takeWord h w = some z → Ex d 123 [.ref 122, .ref w] h (.inl (some (.int z.1))) (z.2) := by
  obtain ⟨d, rfl⟩ : ∃ e, d = e + 1 := ⟨d - 1, by omega⟩
  intro z hz
  refine ⟨rfl, ?_⟩
  refine (?_ : Sim (Ex d) mi_X8_takeWord (fun o1 h1 => o1 = _ ∧ h1 = _) (F_X8_takeWord h w) (fun t => t = z) 0 [some (.ref 122), some (.ref w), none] [] h 0) z hz rfl
  unfold F_X8_takeWord
  refine sS rfl rfl ?_
  refine sT1 (c' := 0) rfl rfl rfl rfl rfl rfl (ok_X8_isGood d (by omega) h) ?_
  refine sB rfl rfl ?_ ?_
  · refine sS rfl rfl ?_
    refine sC1 (c' := 0) rfl rfl rfl rfl rfl rfl (ok_X8_next d (by omega) h) (fun z1 => ?_)
    refine sS rfl rfl ?_
    refine sS rfl rfl ?_
    refine sS rfl rfl ?_
    refine sL (pc := 16) (lv := fun (s2 : Int32) => [some (.ref 122), some (.ref w), some (.int s2)]) (h := fun (s2 : Int32) => z1.2) (fun s2 => ?_) ((0 : Int32))
    refine sS rfl rfl ?_
    refine sS rfl rfl ?_
    refine sSlen rfl Hw rfl ?_
    refine sJn 48 (fun (v4 : Unit) => [some (.ref 122), some (.ref w), some (.int s2)]) (fun (v4 : Unit) => []) (fun (v4 : Unit) => z1.2) (fun v4 => ?_) (fun k3 hk3 => ?_)
    · refine sS rfl rfl ?_
      refine sS rfl rfl ?_
      refine sSlen rfl Hw rfl ?_
      refine sB rfl rfl ?_ ?_
      · refine sS rfl rfl ?_
        exact sR rfl rfl (fun hg => by cases hg; exact ⟨rfl, rfl⟩)
      · refine sS rfl rfl ?_
        refine sS rfl rfl ?_
        refine sS rfl rfl ?_
        refine sS rfl rfl ?_
        refine sS rfl rfl ?_
        refine sC1 (c' := 0) rfl rfl rfl rfl rfl rfl (ok_X8_byteAt d (by omega) z1.2 ((z1.2.1 122 4) + s2)) (fun z5 => ?_)
        refine sS rfl rfl ?_
        refine sS rfl rfl ?_
        refine sT1 (c' := 0) rfl rfl rfl rfl rfl rfl (ok_X8_in d (by omega) z1.2 z5 (97 : Int32) (122 : Int32)) ?_
        refine sB rfl rfl ?_ ?_
        · refine sS rfl rfl ?_
          refine sS rfl rfl ?_
          refine sS rfl rfl ?_
          refine sS rfl rfl ?_
          refine sS rfl rfl ?_
          refine sS rfl rfl ?_
          refine sS rfl rfl ?_
          exact sR rfl rfl (fun hg => by cases hg; exact ⟨rfl, rfl⟩)
        · refine sS rfl rfl ?_
          exact sR rfl rfl (fun hg => by cases hg; exact ⟨rfl, rfl⟩)
    · refine sB rfl rfl ?_ ?_
      · have h3 := hk3 ()
        try dsimp only at h3
        exact h3
      · refine sS rfl rfl ?_
        refine sS rfl rfl ?_
        refine sS rfl rfl ?_
        refine sS rfl rfl ?_
        refine sS rfl rfl ?_
        refine sC1 (c' := 0) rfl rfl rfl rfl rfl rfl (ok_X8_byteAt d (by omega) z1.2 ((z1.2.1 122 4) + s2)) (fun z6 => ?_)
        refine sS rfl rfl ?_
        refine sS rfl rfl ?_
        refine sChar rfl Hw rfl (fun z7 => ?_)
        refine sB rfl rfl ?_ ?_
        · have h3 := hk3 ()
          try dsimp only at h3
          exact h3
        · refine sS rfl rfl ?_
          refine sS rfl rfl ?_
          exact sJ (fun h2 => by (try dsimp only at h2); exact h2)
  · refine sS rfl rfl ?_
    exact sR rfl rfl (fun hg => by cases hg; exact ⟨rfl, rfl⟩)
noncomputable def F_X8_expect (h : PH) (p0 : Int32) : Option (PH) :=
 if ¬ (F_X8_isGood h) = 0 then
  (F_X8_next h).bind fun z1 =>
  if ¬ z1.1 = p0 then
   some ((F_X8_report z1.2 (-2 : Int32) (z1.2.1 122 4)))
  else
   some ((pu z1.2 122 4 ((z1.2.1 122 4) + (1 : Int32))))
 else
  some (h)
set_option maxHeartbeats 4000000 in
set_option maxRecDepth 100000 in
theorem ok_X8_expect (d : Nat) (hd : 3 ≤ d) (h : PH) (p0 : Int32) : ∀ z, F_X8_expect h p0 = some z → Ex d 124 [.ref 122, .int p0] h (.inl (none)) (z) := by
  obtain ⟨d, rfl⟩ : ∃ e, d = e + 1 := ⟨d - 1, by omega⟩
  intro z hz
  refine ⟨rfl, ?_⟩
  refine (?_ : Sim (Ex d) mi_X8_expect (fun o1 h1 => o1 = _ ∧ h1 = _) (F_X8_expect h p0) (fun t => t = z) 0 [some (.ref 122), some (.int p0)] [] h 0) z hz rfl
  unfold F_X8_expect
  refine sS rfl rfl ?_
  refine sT1 (c' := 0) rfl rfl rfl rfl rfl rfl (ok_X8_isGood d (by omega) h) ?_
  refine sB rfl rfl ?_ ?_
  · refine sS rfl rfl ?_
    refine sC1 (c' := 0) rfl rfl rfl rfl rfl rfl (ok_X8_next d (by omega) h) (fun z1 => ?_)
    refine sS rfl rfl ?_
    refine sB rfl rfl ?_ ?_
    · refine sS rfl rfl ?_
      refine sS rfl rfl ?_
      refine sS rfl rfl ?_
      refine sS rfl rfl ?_
      refine sT0 (c' := 0) rfl rfl rfl rfl rfl rfl (ok_X8_report d (by omega) z1.2 (-2 : Int32) (z1.2.1 122 4)) ?_
      exact sR rfl rfl (fun hg => by cases hg; exact ⟨rfl, rfl⟩)
    · refine sS rfl rfl ?_
      refine sS rfl rfl ?_
      refine sS rfl rfl ?_
      refine sS rfl rfl ?_
      refine sS rfl rfl ?_
      refine sS rfl rfl ?_
      refine sS rfl rfl ?_
      exact sR rfl rfl (fun hg => by cases hg; exact ⟨rfl, rfl⟩)
  · exact sR rfl rfl (fun hg => by cases hg; exact ⟨rfl, rfl⟩)
noncomputable def F_X8_number (h : PH) (p0 : Int32) (p1 : Int32) : Option (Int32 × PH) :=
 if ¬ (F_X8_isGood h) = 0 then
  (F_X8_next h).bind fun z1 =>
  (F_X8_isDigit z1.2 z1.1).bind fun z2 =>
  if ¬ z2 = 0 then
   loop (fun (s3 : Int32 × PH) =>
    (F_X8_byteAt s3.2 (s3.2.1 122 4)).bind fun z4 =>
    (F_X8_isDigit s3.2 z4).bind fun z5 =>
    if z5 = 0 then
     if ¬ (F_X8_in s3.2 s3.1 p0 p1) = 0 then
      some (.inr ((s3.1, s3.2)))
     else
      some (.inr ((s3.1, (F_X8_report s3.2 (-3 : Int32) (s3.2.1 122 13)))))
    else
     (F_X8_byteAt s3.2 (s3.2.1 122 4)).bind fun z6 =>
     some (.inl ((F_X8_min s3.2 (1000000 : Int32) ((((10 : Int32) * s3.1) + z6) - (48 : Int32))), (pu s3.2 122 4 ((s3.2.1 122 4) + (1 : Int32)))))) ((0 : Int32), (pu z1.2 122 13 (z1.2.1 122 4)))
  else
   some (((0 : Int32), (F_X8_report z1.2 (-2 : Int32) (z1.2.1 122 4))))
 else
  some (((0 : Int32), h))
set_option maxHeartbeats 4000000 in
set_option maxRecDepth 100000 in
theorem ok_X8_number (d : Nat) (hd : 3 ≤ d) (h : PH) (p0 : Int32) (p1 : Int32) : ∀ z, F_X8_number h p0 p1 = some z → Ex d 125 [.ref 122, .int p0, .int p1] h (.inl (some (.int z.1))) (z.2) := by
  obtain ⟨d, rfl⟩ : ∃ e, d = e + 1 := ⟨d - 1, by omega⟩
  intro z hz
  refine ⟨rfl, ?_⟩
  refine (?_ : Sim (Ex d) mi_X8_number (fun o1 h1 => o1 = _ ∧ h1 = _) (F_X8_number h p0 p1) (fun t => t = z) 0 [some (.ref 122), some (.int p0), some (.int p1), none] [] h 0) z hz rfl
  unfold F_X8_number
  refine sS rfl rfl ?_
  refine sT1 (c' := 0) rfl rfl rfl rfl rfl rfl (ok_X8_isGood d (by omega) h) ?_
  refine sB rfl rfl ?_ ?_
  · refine sS rfl rfl ?_
    refine sC1 (c' := 0) rfl rfl rfl rfl rfl rfl (ok_X8_next d (by omega) h) (fun z1 => ?_)
    refine sC1 (c' := 0) rfl rfl rfl rfl rfl rfl (ok_X8_isDigit d (by omega) z1.2 z1.1) (fun z2 => ?_)
    refine sB rfl rfl ?_ ?_
    · refine sS rfl rfl ?_
      refine sS rfl rfl ?_
      refine sS rfl rfl ?_
      refine sS rfl rfl ?_
      refine sS rfl rfl ?_
      refine sS rfl rfl ?_
      refine sL (pc := 41) (lv := fun (s3 : Int32 × PH) => [some (.ref 122), some (.int p0), some (.int p1), some (.int (s3.1))]) (h := fun (s3 : Int32 × PH) => s3.2) (fun s3 => ?_) ((0 : Int32), (pu z1.2 122 13 (z1.2.1 122 4)))
      refine sS rfl rfl ?_
      refine sS rfl rfl ?_
      refine sS rfl rfl ?_
      refine sC1 (c' := 0) rfl rfl rfl rfl rfl rfl (ok_X8_byteAt d (by omega) s3.2 (s3.2.1 122 4)) (fun z4 => ?_)
      refine sC1 (c' := 0) rfl rfl rfl rfl rfl rfl (ok_X8_isDigit d (by omega) s3.2 z4) (fun z5 => ?_)
      refine sB rfl rfl ?_ ?_
      · refine sS rfl rfl ?_
        refine sS rfl rfl ?_
        refine sS rfl rfl ?_
        refine sT1 (c' := 0) rfl rfl rfl rfl rfl rfl (ok_X8_in d (by omega) s3.2 s3.1 p0 p1) ?_
        refine sB rfl rfl ?_ ?_
        · refine sS rfl rfl ?_
          exact sR rfl rfl (fun hg => by cases hg; exact ⟨rfl, rfl⟩)
        · refine sS rfl rfl ?_
          refine sS rfl rfl ?_
          refine sS rfl rfl ?_
          refine sS rfl rfl ?_
          refine sT0 (c' := 0) rfl rfl rfl rfl rfl rfl (ok_X8_report d (by omega) s3.2 (-3 : Int32) (s3.2.1 122 13)) ?_
          refine sS rfl rfl ?_
          exact sR rfl rfl (fun hg => by cases hg; exact ⟨rfl, rfl⟩)
      · refine sS rfl rfl ?_
        refine sS rfl rfl ?_
        refine sS rfl rfl ?_
        refine sS rfl rfl ?_
        refine sS rfl rfl ?_
        refine sS rfl rfl ?_
        refine sS rfl rfl ?_
        refine sC1 (c' := 0) rfl rfl rfl rfl rfl rfl (ok_X8_byteAt d (by omega) s3.2 (s3.2.1 122 4)) (fun z6 => ?_)
        refine sS rfl rfl ?_
        refine sS rfl rfl ?_
        refine sS rfl rfl ?_
        refine sT1 (c' := 0) rfl rfl rfl rfl rfl rfl (ok_X8_min d (by omega) s3.2 (1000000 : Int32) ((((10 : Int32) * s3.1) + z6) - (48 : Int32))) ?_
        refine sS rfl rfl ?_
        refine sS rfl rfl ?_
        refine sS rfl rfl ?_
        refine sS rfl rfl ?_
        refine sS rfl rfl ?_
        refine sS rfl rfl ?_
        refine sS rfl rfl ?_
        refine sS rfl rfl ?_
        exact sJ (fun h2 => by (try dsimp only at h2); exact h2)
    · refine sS rfl rfl ?_
      refine sS rfl rfl ?_
      refine sS rfl rfl ?_
      refine sS rfl rfl ?_
      refine sT0 (c' := 0) rfl rfl rfl rfl rfl rfl (ok_X8_report d (by omega) z1.2 (-2 : Int32) (z1.2.1 122 4)) ?_
      refine sS rfl rfl ?_
      exact sR rfl rfl (fun hg => by cases hg; exact ⟨rfl, rfl⟩)
  · refine sS rfl rfl ?_
    exact sR rfl rfl (fun hg => by cases hg; exact ⟨rfl, rfl⟩)
noncomputable def F_X8_emit (h : PH) (p0 : Int32) : Option (PH) :=
 if ¬ (F_X8_isGood h) = 0 then
  (ald 1556 h 125 (6 : Int32)).bind fun z1 =>
  (ast 1556 h 125 ((256 : Int32) + z1) p0).bind fun h2 =>
  (ald 1556 h2 125 (6 : Int32)).bind fun z3 =>
  (ast 1556 h2 125 (6 : Int32) (z3 + (1 : Int32))).bind fun h4 =>
  some (h4)
 else
  some (h)
set_option maxHeartbeats 4000000 in
set_option maxRecDepth 100000 in
theorem ok_X8_emit (d : Nat) (hd : 2 ≤ d) (h : PH) (p0 : Int32) : ∀ z, F_X8_emit h p0 = some z → Ex d 126 [.ref 122, .int p0] h (.inl (none)) (z) := by
  obtain ⟨d, rfl⟩ : ∃ e, d = e + 1 := ⟨d - 1, by omega⟩
  intro z hz
  refine ⟨rfl, ?_⟩
  refine (?_ : Sim (Ex d) mi_X8_emit (fun o1 h1 => o1 = _ ∧ h1 = _) (F_X8_emit h p0) (fun t => t = z) 0 [some (.ref 122), some (.int p0)] [] h 0) z hz rfl
  unfold F_X8_emit
  refine sS rfl rfl ?_
  refine sT1 (c' := 0) rfl rfl rfl rfl rfl rfl (ok_X8_isGood d (by omega) h) ?_
  refine sB rfl rfl ?_ ?_
  · refine sS rfl rfl ?_
    refine sS rfl rfl ?_
    refine sS rfl rfl ?_
    refine sS rfl rfl ?_
    refine sS rfl rfl ?_
    refine sS rfl rfl ?_
    refine sIald rfl rfl (fun z1 => ?_)
    refine sS rfl rfl ?_
    refine sS rfl rfl ?_
    refine sIast rfl rfl (fun h2 => ?_)
    refine sS rfl rfl ?_
    refine sS rfl rfl ?_
    refine sS rfl rfl ?_
    refine sS rfl rfl ?_
    refine sIald rfl rfl (fun z3 => ?_)
    refine sS rfl rfl ?_
    refine sS rfl rfl ?_
    refine sIast rfl rfl (fun h4 => ?_)
    exact sR rfl rfl (fun hg => by cases hg; exact ⟨rfl, rfl⟩)
  · exact sR rfl rfl (fun hg => by cases hg; exact ⟨rfl, rfl⟩)
noncomputable def F_X8_factor (S : PH → Option (PH)) (h : PH) : Option (PH) :=
 if ¬ (F_X8_isGood h) = 0 then
  (F_X8_next h).bind fun z1 =>
  if ¬ z1.1 = (40 : Int32) then
   (F_X8_isDigit z1.2 z1.1).bind fun z2 =>
   jn (fun (v4 : Int32 × PH) =>
    jn (fun (v6 : Int32 × PH) =>
     jn (fun (v8 : Int32) =>
      (F_X8_emit v6.2 v8).bind fun h9 =>
      (F_X8_emit h9 v6.1).bind fun h10 =>
      some (h10)) (fun k7 =>
      if 0 ≤ v4.1 then
       k7 ((1 : Int32))
      else
       k7 ((0 : Int32)))) (fun k5 =>
     if 0 ≤ v4.1 then
      k5 (v4.1, v4.2)
     else
      (F_X8_number v4.2 (0 : Int32) (9999 : Int32)).bind fun z11 =>
      k5 (z11.1, z11.2))) (fun k3 =>
    if z2 = 0 then
     (F_X8_takeWord z1.2 1005).bind fun z12 =>
     if z12.1 = 0 then
      (F_X8_takeWord z12.2 1006).bind fun z13 =>
      if z13.1 = 0 then
       k3 ((-1 : Int32), z13.2)
      else
       k3 ((1 : Int32), z13.2)
     else
      k3 ((0 : Int32), z12.2)
    else
     k3 ((-1 : Int32), z1.2))
  else
   jn (fun (v15 : PH) =>
    (S (pu (pu v15 122 4 ((v15.1 122 4) + (1 : Int32))) 122 14 (((pu v15 122 4 ((v15.1 122 4) + (1 : Int32))).1 122 14) + (1 : Int32)))).bind fun h16 =>
    (F_X8_expect h16 (41 : Int32)).bind fun h17 =>
    some ((pu h17 122 14 ((h17.1 122 14) - (1 : Int32))))) (fun k14 =>
    if ¬ (z1.2.1 122 14) = (4 : Int32) then
     k14 z1.2
    else
     k14 ((F_X8_report z1.2 (-5 : Int32) (z1.2.1 122 4))))
 else
  some (h)
set_option maxHeartbeats 4000000 in
set_option maxRecDepth 100000 in
theorem ok_X8_factor (S : PH → Option (PH)) (dS : Nat) (hB : 3 ≤ dS) (hS : ∀ d, dS ≤ d → ∀ (h : PH), ∀ z, S h  = some z → Ex d 129 [.ref 122] h (.inl (none)) (z)) (d : Nat) (hd : dS + 1 ≤ d) (h : PH) : ∀ z, F_X8_factor S h = some z → Ex d 127 [.ref 122] h (.inl (none)) (z) := by
  obtain ⟨d, rfl⟩ : ∃ e, d = e + 1 := ⟨d - 1, by omega⟩
  intro z hz
  refine ⟨rfl, ?_⟩
  refine (?_ : Sim (Ex d) mi_X8_factor (fun o1 h1 => o1 = _ ∧ h1 = _) (F_X8_factor S h) (fun t => t = z) 0 [some (.ref 122), none, none, none] [] h 0) z hz rfl
  unfold F_X8_factor
  refine sS rfl rfl ?_
  refine sT1 (c' := 0) rfl rfl rfl rfl rfl rfl (ok_X8_isGood d (by omega) h) ?_
  refine sB rfl rfl ?_ ?_
  · refine sS rfl rfl ?_
    refine sC1 (c' := 0) rfl rfl rfl rfl rfl rfl (ok_X8_next d (by omega) h) (fun z1 => ?_)
    refine sS rfl rfl ?_
    refine sS rfl rfl ?_
    refine sS rfl rfl ?_
    refine sB rfl rfl ?_ ?_
    · refine sS rfl rfl ?_
      refine sC1 (c' := 0) rfl rfl rfl rfl rfl rfl (ok_X8_isDigit d (by omega) z1.2 z1.1) (fun z2 => ?_)
      refine sJn 116 (fun (v4 : Int32 × PH) => [some (.ref 122), none, none, none]) (fun (v4 : Int32 × PH) => [.int (v4.1)]) (fun (v4 : Int32 × PH) => v4.2) (fun v4 => ?_) (fun k3 hk3 => ?_)
      · refine sS rfl rfl ?_
        refine sS rfl rfl ?_
        refine sJn 133 (fun (v6 : Int32 × PH) => [some (.ref 122), none, some (.int (v4.1)), none]) (fun (v6 : Int32 × PH) => [.int (v6.1)]) (fun (v6 : Int32 × PH) => v6.2) (fun v6 => ?_) (fun k5 hk5 => ?_)
        · refine sS rfl rfl ?_
          refine sS rfl rfl ?_
          refine sS rfl rfl ?_
          refine sJn 144 (fun (v8 : Int32) => [some (.ref 122), none, none, some (.int (v6.1))]) (fun (v8 : Int32) => [.int v8, .ref 122]) (fun (v8 : Int32) => v6.2) (fun v8 => ?_) (fun k7 hk7 => ?_)
          · refine sC0 (c' := 0) rfl rfl rfl rfl rfl rfl (ok_X8_emit d (by omega) v6.2 v8) (fun h9 => ?_)
            refine sS rfl rfl ?_
            refine sS rfl rfl ?_
            refine sC0 (c' := 0) rfl rfl rfl rfl rfl rfl (ok_X8_emit d (by omega) h9 v6.1) (fun h10 => ?_)
            exact sR rfl rfl (fun hg => by cases hg; exact ⟨rfl, rfl⟩)
          · refine sB rfl rfl ?_ ?_
            · refine sS rfl rfl ?_
              refine sM [true, true, false, true] rfl ?_
              have h3 := hk7 ((1 : Int32))
              try dsimp only at h3
              exact h3
            · refine sS rfl rfl ?_
              refine sS rfl rfl ?_
              refine sM [true, true, false, true] rfl ?_
              have h3 := hk7 ((0 : Int32))
              try dsimp only at h3
              exact h3
        · refine sB rfl rfl ?_ ?_
          · refine sS rfl rfl ?_
            have h3 := hk5 (v4.1, v4.2)
            try dsimp only at h3
            exact h3
          · refine sS rfl rfl ?_
            refine sS rfl rfl ?_
            refine sS rfl rfl ?_
            refine sC1 (c' := 0) rfl rfl rfl rfl rfl rfl (ok_X8_number d (by omega) v4.2 (0 : Int32) (9999 : Int32)) (fun z11 => ?_)
            refine sS rfl rfl ?_
            have h3 := hk5 (z11.1, z11.2)
            try dsimp only at h3
            exact h3
      · refine sB rfl rfl ?_ ?_
        · refine sS rfl rfl ?_
          refine sS rfl rfl ?_
          refine sC1 (c' := 0) rfl rfl rfl rfl rfl rfl (ok_X8_takeWord d (by omega) z1.2 1005 ⟨rfl, rfl⟩) (fun z12 => ?_)
          refine sB rfl rfl ?_ ?_
          · refine sS rfl rfl ?_
            refine sS rfl rfl ?_
            refine sC1 (c' := 0) rfl rfl rfl rfl rfl rfl (ok_X8_takeWord d (by omega) z12.2 1006 ⟨rfl, rfl⟩) (fun z13 => ?_)
            refine sB rfl rfl ?_ ?_
            · refine sS rfl rfl ?_
              refine sM [true, false, true, true] rfl ?_
              have h3 := hk3 ((-1 : Int32), z13.2)
              try dsimp only at h3
              exact h3
            · refine sS rfl rfl ?_
              refine sS rfl rfl ?_
              refine sM [true, false, true, true] rfl ?_
              have h3 := hk3 ((1 : Int32), z13.2)
              try dsimp only at h3
              exact h3
          · refine sS rfl rfl ?_
            refine sS rfl rfl ?_
            refine sM [true, false, true, true] rfl ?_
            have h3 := hk3 ((0 : Int32), z12.2)
            try dsimp only at h3
            exact h3
        · refine sS rfl rfl ?_
          refine sS rfl rfl ?_
          refine sM [true, false, true, true] rfl ?_
          have h3 := hk3 ((-1 : Int32), z1.2)
          try dsimp only at h3
          exact h3
    · refine sS rfl rfl ?_
      refine sS rfl rfl ?_
      refine sS rfl rfl ?_
      refine sJn 37 (fun (v15 : PH) => [some (.ref 122), none, none, none]) (fun (v15 : PH) => []) (fun (v15 : PH) => v15) (fun v15 => ?_) (fun k14 hk14 => ?_)
      · refine sS rfl rfl ?_
        refine sS rfl rfl ?_
        refine sS rfl rfl ?_
        refine sS rfl rfl ?_
        refine sS rfl rfl ?_
        refine sS rfl rfl ?_
        refine sS rfl rfl ?_
        refine sS rfl rfl ?_
        refine sS rfl rfl ?_
        refine sS rfl rfl ?_
        refine sS rfl rfl ?_
        refine sS rfl rfl ?_
        refine sS rfl rfl ?_
        refine sC0 (c' := 0) rfl rfl rfl rfl rfl rfl (hS d (by omega) (pu (pu v15 122 4 ((v15.1 122 4) + (1 : Int32))) 122 14 (((pu v15 122 4 ((v15.1 122 4) + (1 : Int32))).1 122 14) + (1 : Int32)))) (fun h16 => ?_)
        refine sS rfl rfl ?_
        refine sS rfl rfl ?_
        refine sC0 (c' := 0) rfl rfl rfl rfl rfl rfl (ok_X8_expect d (by omega) h16 (41 : Int32)) (fun h17 => ?_)
        refine sS rfl rfl ?_
        refine sS rfl rfl ?_
        refine sS rfl rfl ?_
        refine sS rfl rfl ?_
        refine sS rfl rfl ?_
        refine sS rfl rfl ?_
        exact sR rfl rfl (fun hg => by cases hg; exact ⟨rfl, rfl⟩)
      · refine sB rfl rfl ?_ ?_
        · refine sM [true, false, true, true] rfl ?_
          have h3 := hk14 (z1.2)
          try dsimp only at h3
          exact h3
        · refine sS rfl rfl ?_
          refine sS rfl rfl ?_
          refine sS rfl rfl ?_
          refine sS rfl rfl ?_
          refine sT0 (c' := 0) rfl rfl rfl rfl rfl rfl (ok_X8_report d (by omega) z1.2 (-5 : Int32) (z1.2.1 122 4)) ?_
          refine sM [true, false, true, true] rfl ?_
          have h3 := hk14 ((F_X8_report z1.2 (-5 : Int32) (z1.2.1 122 4)))
          try dsimp only at h3
          exact h3
  · exact sR rfl rfl (fun hg => by cases hg; exact ⟨rfl, rfl⟩)
noncomputable def F_X8_term (S : PH → Option (PH)) (h : PH) : Option (PH) :=
 (F_X8_factor S h).bind fun h1 =>
 loop (fun (s2 : PH) =>
  if (F_X8_isGood s2) = 0 then
   some (.inr (s2))
  else
   (F_X8_next s2).bind fun z3 =>
   if z3.1 = (42 : Int32) then
    (F_X8_next z3.2).bind fun z4 =>
    jn (fun (v6 : Int32) =>
     (F_X8_factor S (pu z4.2 122 4 ((z4.2.1 122 4) + (1 : Int32)))).bind fun h7 =>
     if v6 = 0 then
      (F_X8_emit h7 (5 : Int32)).bind fun h8 =>
      some (.inl (h8))
     else
      (F_X8_emit h7 (4 : Int32)).bind fun h9 =>
      some (.inl (h9))) (fun k5 =>
     if ¬ z4.1 = (42 : Int32) then
      k5 ((0 : Int32))
     else
      k5 ((1 : Int32)))
   else
    (F_X8_next z3.2).bind fun z10 =>
    if ¬ z10.1 = (47 : Int32) then
     some (.inr (z10.2))
    else
     (F_X8_next z10.2).bind fun z11 =>
     jn (fun (v13 : Int32) =>
      (F_X8_factor S (pu z11.2 122 4 ((z11.2.1 122 4) + (1 : Int32)))).bind fun h14 =>
      if v13 = 0 then
       (F_X8_emit h14 (5 : Int32)).bind fun h15 =>
       some (.inl (h15))
      else
       (F_X8_emit h14 (4 : Int32)).bind fun h16 =>
       some (.inl (h16))) (fun k12 =>
      if ¬ z11.1 = (42 : Int32) then
       k12 ((0 : Int32))
      else
       k12 ((1 : Int32)))) (h1)
set_option maxHeartbeats 4000000 in
set_option maxRecDepth 100000 in
theorem ok_X8_term (S : PH → Option (PH)) (dS : Nat) (hB : 3 ≤ dS) (hS : ∀ d, dS ≤ d → ∀ (h : PH), ∀ z, S h  = some z → Ex d 129 [.ref 122] h (.inl (none)) (z)) (d : Nat) (hd : dS + 2 ≤ d) (h : PH) : ∀ z, F_X8_term S h = some z → Ex d 128 [.ref 122] h (.inl (none)) (z) := by
  obtain ⟨d, rfl⟩ : ∃ e, d = e + 1 := ⟨d - 1, by omega⟩
  intro z hz
  refine ⟨rfl, ?_⟩
  refine (?_ : Sim (Ex d) mi_X8_term (fun o1 h1 => o1 = _ ∧ h1 = _) (F_X8_term S h) (fun t => t = z) 0 [some (.ref 122), none] [] h 0) z hz rfl
  unfold F_X8_term
  refine sS rfl rfl ?_
  refine sC0 (c' := 0) rfl rfl rfl rfl rfl rfl (ok_X8_factor S dS hB hS d (by omega) h) (fun h1 => ?_)
  refine sL (pc := 4) (lv := fun (s2 : PH) => [some (.ref 122), none]) (h := fun (s2 : PH) => s2) (fun s2 => ?_) (h1)
  refine sS rfl rfl ?_
  refine sT1 (c' := 0) rfl rfl rfl rfl rfl rfl (ok_X8_isGood d (by omega) s2) ?_
  refine sB rfl rfl ?_ ?_
  · exact sR rfl rfl (fun hg => by cases hg; exact ⟨rfl, rfl⟩)
  · refine sS rfl rfl ?_
    refine sC1 (c' := 0) rfl rfl rfl rfl rfl rfl (ok_X8_next d (by omega) s2) (fun z3 => ?_)
    refine sS rfl rfl ?_
    refine sB rfl rfl ?_ ?_
    · refine sS rfl rfl ?_
      refine sC1 (c' := 0) rfl rfl rfl rfl rfl rfl (ok_X8_next d (by omega) z3.2) (fun z4 => ?_)
      refine sS rfl rfl ?_
      refine sJn 43 (fun (v6 : Int32) => [some (.ref 122), none]) (fun (v6 : Int32) => [.int v6]) (fun (v6 : Int32) => z4.2) (fun v6 => ?_) (fun k5 hk5 => ?_)
      · refine sS rfl rfl ?_
        refine sS rfl rfl ?_
        refine sS rfl rfl ?_
        refine sS rfl rfl ?_
        refine sS rfl rfl ?_
        refine sS rfl rfl ?_
        refine sS rfl rfl ?_
        refine sS rfl rfl ?_
        refine sC0 (c' := 0) rfl rfl rfl rfl rfl rfl (ok_X8_factor S dS hB hS d (by omega) (pu z4.2 122 4 ((z4.2.1 122 4) + (1 : Int32)))) (fun h7 => ?_)
        refine sS rfl rfl ?_
        refine sS rfl rfl ?_
        refine sB rfl rfl ?_ ?_
        · refine sS rfl rfl ?_
          refine sC0 (c' := 0) rfl rfl rfl rfl rfl rfl (ok_X8_emit d (by omega) h7 (5 : Int32)) (fun h8 => ?_)
          refine sS rfl rfl ?_
          refine sM [true, false] rfl ?_
          exact sJ (fun h2 => by (try dsimp only at h2); exact h2)
        · refine sS rfl rfl ?_
          refine sS rfl rfl ?_
          refine sC0 (c' := 0) rfl rfl rfl rfl rfl rfl (ok_X8_emit d (by omega) h7 (4 : Int32)) (fun h9 => ?_)
          refine sS rfl rfl ?_
          refine sM [true, false] rfl ?_
          exact sJ (fun h2 => by (try dsimp only at h2); exact h2)
      · refine sB rfl rfl ?_ ?_
        · refine sS rfl rfl ?_
          have h3 := hk5 ((0 : Int32))
          try dsimp only at h3
          exact h3
        · refine sS rfl rfl ?_
          refine sS rfl rfl ?_
          have h3 := hk5 ((1 : Int32))
          try dsimp only at h3
          exact h3
    · refine sS rfl rfl ?_
      refine sC1 (c' := 0) rfl rfl rfl rfl rfl rfl (ok_X8_next d (by omega) z3.2) (fun z10 => ?_)
      refine sS rfl rfl ?_
      refine sB rfl rfl ?_ ?_
      · exact sR rfl rfl (fun hg => by cases hg; exact ⟨rfl, rfl⟩)
      · refine sS rfl rfl ?_
        refine sC1 (c' := 0) rfl rfl rfl rfl rfl rfl (ok_X8_next d (by omega) z10.2) (fun z11 => ?_)
        refine sS rfl rfl ?_
        refine sJn 43 (fun (v13 : Int32) => [some (.ref 122), none]) (fun (v13 : Int32) => [.int v13]) (fun (v13 : Int32) => z11.2) (fun v13 => ?_) (fun k12 hk12 => ?_)
        · refine sS rfl rfl ?_
          refine sS rfl rfl ?_
          refine sS rfl rfl ?_
          refine sS rfl rfl ?_
          refine sS rfl rfl ?_
          refine sS rfl rfl ?_
          refine sS rfl rfl ?_
          refine sS rfl rfl ?_
          refine sC0 (c' := 0) rfl rfl rfl rfl rfl rfl (ok_X8_factor S dS hB hS d (by omega) (pu z11.2 122 4 ((z11.2.1 122 4) + (1 : Int32)))) (fun h14 => ?_)
          refine sS rfl rfl ?_
          refine sS rfl rfl ?_
          refine sB rfl rfl ?_ ?_
          · refine sS rfl rfl ?_
            refine sC0 (c' := 0) rfl rfl rfl rfl rfl rfl (ok_X8_emit d (by omega) h14 (5 : Int32)) (fun h15 => ?_)
            refine sS rfl rfl ?_
            refine sM [true, false] rfl ?_
            exact sJ (fun h2 => by (try dsimp only at h2); exact h2)
          · refine sS rfl rfl ?_
            refine sS rfl rfl ?_
            refine sC0 (c' := 0) rfl rfl rfl rfl rfl rfl (ok_X8_emit d (by omega) h14 (4 : Int32)) (fun h16 => ?_)
            refine sS rfl rfl ?_
            refine sM [true, false] rfl ?_
            exact sJ (fun h2 => by (try dsimp only at h2); exact h2)
        · refine sB rfl rfl ?_ ?_
          · refine sS rfl rfl ?_
            have h3 := hk12 ((0 : Int32))
            try dsimp only at h3
            exact h3
          · refine sS rfl rfl ?_
            refine sS rfl rfl ?_
            have h3 := hk12 ((1 : Int32))
            try dsimp only at h3
            exact h3
noncomputable def F_X8_sum (S : PH → Option (PH)) (h : PH) : Option (PH) :=
 (F_X8_term S h).bind fun h1 =>
 loop (fun (s2 : PH) =>
  if (F_X8_isGood s2) = 0 then
   some (.inr (s2))
  else
   (F_X8_next s2).bind fun z3 =>
   if z3.1 = (43 : Int32) then
    (F_X8_next z3.2).bind fun z4 =>
    jn (fun (v6 : Int32) =>
     (F_X8_term S (pu z4.2 122 4 ((z4.2.1 122 4) + (1 : Int32)))).bind fun h7 =>
     if v6 = 0 then
      (F_X8_emit h7 (3 : Int32)).bind fun h8 =>
      some (.inl (h8))
     else
      (F_X8_emit h7 (2 : Int32)).bind fun h9 =>
      some (.inl (h9))) (fun k5 =>
     if ¬ z4.1 = (43 : Int32) then
      k5 ((0 : Int32))
     else
      k5 ((1 : Int32)))
   else
    (F_X8_next z3.2).bind fun z10 =>
    if ¬ z10.1 = (45 : Int32) then
     some (.inr (z10.2))
    else
     (F_X8_next z10.2).bind fun z11 =>
     jn (fun (v13 : Int32) =>
      (F_X8_term S (pu z11.2 122 4 ((z11.2.1 122 4) + (1 : Int32)))).bind fun h14 =>
      if v13 = 0 then
       (F_X8_emit h14 (3 : Int32)).bind fun h15 =>
       some (.inl (h15))
      else
       (F_X8_emit h14 (2 : Int32)).bind fun h16 =>
       some (.inl (h16))) (fun k12 =>
      if ¬ z11.1 = (43 : Int32) then
       k12 ((0 : Int32))
      else
       k12 ((1 : Int32)))) (h1)
set_option maxHeartbeats 4000000 in
set_option maxRecDepth 100000 in
theorem ok_X8_sum (S : PH → Option (PH)) (dS : Nat) (hB : 3 ≤ dS) (hS : ∀ d, dS ≤ d → ∀ (h : PH), ∀ z, S h  = some z → Ex d 129 [.ref 122] h (.inl (none)) (z)) (d : Nat) (hd : dS + 3 ≤ d) (h : PH) : ∀ z, F_X8_sum S h = some z → Ex d 129 [.ref 122] h (.inl (none)) (z) := by
  obtain ⟨d, rfl⟩ : ∃ e, d = e + 1 := ⟨d - 1, by omega⟩
  intro z hz
  refine ⟨rfl, ?_⟩
  refine (?_ : Sim (Ex d) mi_X8_sum (fun o1 h1 => o1 = _ ∧ h1 = _) (F_X8_sum S h) (fun t => t = z) 0 [some (.ref 122), none] [] h 0) z hz rfl
  unfold F_X8_sum
  refine sS rfl rfl ?_
  refine sC0 (c' := 0) rfl rfl rfl rfl rfl rfl (ok_X8_term S dS hB hS d (by omega) h) (fun h1 => ?_)
  refine sL (pc := 4) (lv := fun (s2 : PH) => [some (.ref 122), none]) (h := fun (s2 : PH) => s2) (fun s2 => ?_) (h1)
  refine sS rfl rfl ?_
  refine sT1 (c' := 0) rfl rfl rfl rfl rfl rfl (ok_X8_isGood d (by omega) s2) ?_
  refine sB rfl rfl ?_ ?_
  · exact sR rfl rfl (fun hg => by cases hg; exact ⟨rfl, rfl⟩)
  · refine sS rfl rfl ?_
    refine sC1 (c' := 0) rfl rfl rfl rfl rfl rfl (ok_X8_next d (by omega) s2) (fun z3 => ?_)
    refine sS rfl rfl ?_
    refine sB rfl rfl ?_ ?_
    · refine sS rfl rfl ?_
      refine sC1 (c' := 0) rfl rfl rfl rfl rfl rfl (ok_X8_next d (by omega) z3.2) (fun z4 => ?_)
      refine sS rfl rfl ?_
      refine sJn 43 (fun (v6 : Int32) => [some (.ref 122), none]) (fun (v6 : Int32) => [.int v6]) (fun (v6 : Int32) => z4.2) (fun v6 => ?_) (fun k5 hk5 => ?_)
      · refine sS rfl rfl ?_
        refine sS rfl rfl ?_
        refine sS rfl rfl ?_
        refine sS rfl rfl ?_
        refine sS rfl rfl ?_
        refine sS rfl rfl ?_
        refine sS rfl rfl ?_
        refine sS rfl rfl ?_
        refine sC0 (c' := 0) rfl rfl rfl rfl rfl rfl (ok_X8_term S dS hB hS d (by omega) (pu z4.2 122 4 ((z4.2.1 122 4) + (1 : Int32)))) (fun h7 => ?_)
        refine sS rfl rfl ?_
        refine sS rfl rfl ?_
        refine sB rfl rfl ?_ ?_
        · refine sS rfl rfl ?_
          refine sC0 (c' := 0) rfl rfl rfl rfl rfl rfl (ok_X8_emit d (by omega) h7 (3 : Int32)) (fun h8 => ?_)
          refine sS rfl rfl ?_
          refine sM [true, false] rfl ?_
          exact sJ (fun h2 => by (try dsimp only at h2); exact h2)
        · refine sS rfl rfl ?_
          refine sS rfl rfl ?_
          refine sC0 (c' := 0) rfl rfl rfl rfl rfl rfl (ok_X8_emit d (by omega) h7 (2 : Int32)) (fun h9 => ?_)
          refine sS rfl rfl ?_
          refine sM [true, false] rfl ?_
          exact sJ (fun h2 => by (try dsimp only at h2); exact h2)
      · refine sB rfl rfl ?_ ?_
        · refine sS rfl rfl ?_
          have h3 := hk5 ((0 : Int32))
          try dsimp only at h3
          exact h3
        · refine sS rfl rfl ?_
          refine sS rfl rfl ?_
          have h3 := hk5 ((1 : Int32))
          try dsimp only at h3
          exact h3
    · refine sS rfl rfl ?_
      refine sC1 (c' := 0) rfl rfl rfl rfl rfl rfl (ok_X8_next d (by omega) z3.2) (fun z10 => ?_)
      refine sS rfl rfl ?_
      refine sB rfl rfl ?_ ?_
      · exact sR rfl rfl (fun hg => by cases hg; exact ⟨rfl, rfl⟩)
      · refine sS rfl rfl ?_
        refine sC1 (c' := 0) rfl rfl rfl rfl rfl rfl (ok_X8_next d (by omega) z10.2) (fun z11 => ?_)
        refine sS rfl rfl ?_
        refine sJn 43 (fun (v13 : Int32) => [some (.ref 122), none]) (fun (v13 : Int32) => [.int v13]) (fun (v13 : Int32) => z11.2) (fun v13 => ?_) (fun k12 hk12 => ?_)
        · refine sS rfl rfl ?_
          refine sS rfl rfl ?_
          refine sS rfl rfl ?_
          refine sS rfl rfl ?_
          refine sS rfl rfl ?_
          refine sS rfl rfl ?_
          refine sS rfl rfl ?_
          refine sS rfl rfl ?_
          refine sC0 (c' := 0) rfl rfl rfl rfl rfl rfl (ok_X8_term S dS hB hS d (by omega) (pu z11.2 122 4 ((z11.2.1 122 4) + (1 : Int32)))) (fun h14 => ?_)
          refine sS rfl rfl ?_
          refine sS rfl rfl ?_
          refine sB rfl rfl ?_ ?_
          · refine sS rfl rfl ?_
            refine sC0 (c' := 0) rfl rfl rfl rfl rfl rfl (ok_X8_emit d (by omega) h14 (3 : Int32)) (fun h15 => ?_)
            refine sS rfl rfl ?_
            refine sM [true, false] rfl ?_
            exact sJ (fun h2 => by (try dsimp only at h2); exact h2)
          · refine sS rfl rfl ?_
            refine sS rfl rfl ?_
            refine sC0 (c' := 0) rfl rfl rfl rfl rfl rfl (ok_X8_emit d (by omega) h14 (2 : Int32)) (fun h16 => ?_)
            refine sS rfl rfl ?_
            refine sM [true, false] rfl ?_
            exact sJ (fun h2 => by (try dsimp only at h2); exact h2)
        · refine sB rfl rfl ?_ ?_
          · refine sS rfl rfl ?_
            have h3 := hk12 ((0 : Int32))
            try dsimp only at h3
            exact h3
          · refine sS rfl rfl ?_
            refine sS rfl rfl ?_
            have h3 := hk12 ((1 : Int32))
            try dsimp only at h3
            exact h3
noncomputable def R_X8_sum : Nat → PH → Option (PH)
  | 0 => fun _  => none
  | n + 1 => F_X8_sum (R_X8_sum n)
theorem okR_X8_sum : ∀ (n d : Nat), 3 + 3 * n ≤ d → ∀ (h : PH), ∀ z, R_X8_sum n h  = some z → Ex d 129 [.ref 122] h (.inl (none)) (z)
  | 0 => fun d _ h  z hz => by cases hz
  | n + 1 => fun d hd h  z hz => ok_X8_sum (R_X8_sum n) (3 + 3 * n) (by omega) (okR_X8_sum n) d (by omega) h  z hz
noncomputable def F_X8_once (h : PH) (p0 : Int32) (p1 : Int32) : PH :=
 if ¬ (((h.1 122 15) >>> (p0 &&& 31)) &&& (1 : Int32)) = (1 : Int32) then
  (pu h 122 15 ((h.1 122 15) ||| ((1 : Int32) <<< (p0 &&& 31))))
 else
  (pu (F_X8_report h (-2 : Int32) p1) 122 15 (((F_X8_report h (-2 : Int32) p1).1 122 15) ||| ((1 : Int32) <<< (p0 &&& 31))))
set_option maxHeartbeats 4000000 in
set_option maxRecDepth 100000 in
theorem ok_X8_once (d : Nat) (hd : 2 ≤ d) (h : PH) (p0 : Int32) (p1 : Int32) : Ex d 130 [.ref 122, .int p0, .int p1] h (.inl (none)) ((F_X8_once h p0 p1)) := by
  obtain ⟨d, rfl⟩ : ∃ e, d = e + 1 := ⟨d - 1, by omega⟩
  suffices key : ∀ z, F_X8_once h p0 p1 = z → Ex (d + 1) 130 [.ref 122, .int p0, .int p1] h (.inl (none)) (z) from key _ rfl
  intro z hz
  refine ⟨rfl, ?_⟩
  refine (?_ : Sim (Ex d) mi_X8_once (fun o1 h1 => o1 = _ ∧ h1 = _) (some (F_X8_once h p0 p1)) (fun t => t = z) 0 [some (.ref 122), some (.int p0), some (.int p1)] [] h 0) z (by rw [hz]) rfl
  clear hz
  unfold F_X8_once
  refine sS rfl rfl ?_
  refine sS rfl rfl ?_
  refine sS rfl rfl ?_
  refine sS rfl rfl ?_
  refine sS rfl rfl ?_
  refine sS rfl rfl ?_
  refine sS rfl rfl ?_
  refine sBt rfl rfl ?_ ?_
  · refine sS rfl rfl ?_
    refine sS rfl rfl ?_
    refine sS rfl rfl ?_
    refine sS rfl rfl ?_
    refine sS rfl rfl ?_
    refine sS rfl rfl ?_
    refine sS rfl rfl ?_
    refine sS rfl rfl ?_
    exact sR rfl rfl (fun hg => by cases hg; exact ⟨rfl, rfl⟩)
  · refine sS rfl rfl ?_
    refine sS rfl rfl ?_
    refine sS rfl rfl ?_
    refine sT0 (c' := 0) rfl rfl rfl rfl rfl rfl (ok_X8_report d (by omega) h (-2 : Int32) p1) ?_
    refine sS rfl rfl ?_
    refine sS rfl rfl ?_
    refine sS rfl rfl ?_
    refine sS rfl rfl ?_
    refine sS rfl rfl ?_
    refine sS rfl rfl ?_
    refine sS rfl rfl ?_
    refine sS rfl rfl ?_
    exact sR rfl rfl (fun hg => by cases hg; exact ⟨rfl, rfl⟩)
noncomputable def F_X8_readEdge (h : PH) (p0 : Int32) : Option (PH) :=
 (ald 1556 h 125 (2 : Int32)).bind fun z1 =>
 jn (fun (v3 : PH) =>
  (ald 1556 v3 125 (0 : Int32)).bind fun z4 =>
  (F_X8_number v3 (0 : Int32) (z4 - (1 : Int32))).bind fun z5 =>
  (ald 1556 z5.2 125 (0 : Int32)).bind fun z6 =>
  (F_X8_number z5.2 (0 : Int32) (z6 - (1 : Int32))).bind fun z7 =>
  jn (fun (v9 : PH) =>
   (F_X8_number v9 (1 : Int32) (99 : Int32)).bind fun z10 =>
   (F_X8_number z10.2 (1 : Int32) (99 : Int32)).bind fun z11 =>
   (F_X8_number z11.2 (0 : Int32) (99 : Int32)).bind fun z12 =>
   if ¬ (F_X8_isGood z12.2) = 0 then
    (ald 1556 z12.2 125 (2 : Int32)).bind fun z13 =>
    (ast 1556 z12.2 125 (F_X8_edge z12.2 z13) z5.1).bind fun h14 =>
    (ast 1556 h14 125 ((F_X8_edge z12.2 z13) + (1 : Int32)) z7.1).bind fun h15 =>
    (ast 1556 h15 125 ((F_X8_edge z12.2 z13) + (2 : Int32)) z10.1).bind fun h16 =>
    (ast 1556 h16 125 (((F_X8_edge z12.2 z13) + (2 : Int32)) + (1 : Int32)) z11.1).bind fun h17 =>
    (ast 1556 h17 125 ((F_X8_edge z12.2 z13) + (4 : Int32)) z12.1).bind fun h18 =>
    (ald 1556 h18 125 (2 : Int32)).bind fun z19 =>
    (ast 1556 h18 125 (2 : Int32) (z19 + (1 : Int32))).bind fun h20 =>
    some (h20)
   else
    some (z12.2)) (fun k8 =>
   if ¬ z5.1 = z7.1 then
    k8 z7.2
   else
    k8 ((F_X8_report z7.2 (-3 : Int32) (z7.2.1 122 13))))) (fun k2 =>
  if ¬ z1 = (14 : Int32) then
   k2 h
  else
   k2 ((F_X8_report h (-4 : Int32) p0)))
set_option maxHeartbeats 4000000 in
set_option maxRecDepth 100000 in
theorem ok_X8_readEdge (d : Nat) (hd : 4 ≤ d) (h : PH) (p0 : Int32) : ∀ z, F_X8_readEdge h p0 = some z → Ex d 131 [.ref 122, .int p0] h (.inl (none)) (z) := by
  obtain ⟨d, rfl⟩ : ∃ e, d = e + 1 := ⟨d - 1, by omega⟩
  intro z hz
  refine ⟨rfl, ?_⟩
  refine (?_ : Sim (Ex d) mi_X8_readEdge (fun o1 h1 => o1 = _ ∧ h1 = _) (F_X8_readEdge h p0) (fun t => t = z) 0 [some (.ref 122), some (.int p0), none, none, none, none, none, none] [] h 0) z hz rfl
  unfold F_X8_readEdge
  refine sS rfl rfl ?_
  refine sS rfl rfl ?_
  refine sS rfl rfl ?_
  refine sIald rfl rfl (fun z1 => ?_)
  refine sS rfl rfl ?_
  refine sJn 18 (fun (v3 : PH) => [some (.ref 122), none, none, none, none, none, none, none]) (fun (v3 : PH) => []) (fun (v3 : PH) => v3) (fun v3 => ?_) (fun k2 hk2 => ?_)
  · refine sS rfl rfl ?_
    refine sS rfl rfl ?_
    refine sS rfl rfl ?_
    refine sS rfl rfl ?_
    refine sS rfl rfl ?_
    refine sIald rfl rfl (fun z4 => ?_)
    refine sS rfl rfl ?_
    refine sS rfl rfl ?_
    refine sC1 (c' := 0) rfl rfl rfl rfl rfl rfl (ok_X8_number d (by omega) v3 (0 : Int32) (z4 - (1 : Int32))) (fun z5 => ?_)
    refine sS rfl rfl ?_
    refine sS rfl rfl ?_
    refine sS rfl rfl ?_
    refine sS rfl rfl ?_
    refine sS rfl rfl ?_
    refine sS rfl rfl ?_
    refine sIald rfl rfl (fun z6 => ?_)
    refine sS rfl rfl ?_
    refine sS rfl rfl ?_
    refine sC1 (c' := 0) rfl rfl rfl rfl rfl rfl (ok_X8_number d (by omega) z5.2 (0 : Int32) (z6 - (1 : Int32))) (fun z7 => ?_)
    refine sS rfl rfl ?_
    refine sS rfl rfl ?_
    refine sS rfl rfl ?_
    refine sJn 61 (fun (v9 : PH) => [some (.ref 122), none, some (.int (z5.1)), some (.int (z7.1)), none, none, none, none]) (fun (v9 : PH) => []) (fun (v9 : PH) => v9) (fun v9 => ?_) (fun k8 hk8 => ?_)
    · refine sS rfl rfl ?_
      refine sS rfl rfl ?_
      refine sS rfl rfl ?_
      refine sC1 (c' := 0) rfl rfl rfl rfl rfl rfl (ok_X8_number d (by omega) v9 (1 : Int32) (99 : Int32)) (fun z10 => ?_)
      refine sS rfl rfl ?_
      refine sS rfl rfl ?_
      refine sS rfl rfl ?_
      refine sS rfl rfl ?_
      refine sC1 (c' := 0) rfl rfl rfl rfl rfl rfl (ok_X8_number d (by omega) z10.2 (1 : Int32) (99 : Int32)) (fun z11 => ?_)
      refine sS rfl rfl ?_
      refine sS rfl rfl ?_
      refine sS rfl rfl ?_
      refine sS rfl rfl ?_
      refine sC1 (c' := 0) rfl rfl rfl rfl rfl rfl (ok_X8_number d (by omega) z11.2 (0 : Int32) (99 : Int32)) (fun z12 => ?_)
      refine sS rfl rfl ?_
      refine sS rfl rfl ?_
      refine sT1 (c' := 0) rfl rfl rfl rfl rfl rfl (ok_X8_isGood d (by omega) z12.2) ?_
      refine sB rfl rfl ?_ ?_
      · refine sS rfl rfl ?_
        refine sS rfl rfl ?_
        refine sS rfl rfl ?_
        refine sIald rfl rfl (fun z13 => ?_)
        refine sT1 (c' := 0) rfl rfl rfl rfl rfl rfl (ok_X8_edge d (by omega) z12.2 z13) ?_
        refine sS rfl rfl ?_
        refine sS rfl rfl ?_
        refine sS rfl rfl ?_
        refine sS rfl rfl ?_
        refine sS rfl rfl ?_
        refine sIast rfl rfl (fun h14 => ?_)
        refine sS rfl rfl ?_
        refine sS rfl rfl ?_
        refine sS rfl rfl ?_
        refine sS rfl rfl ?_
        refine sS rfl rfl ?_
        refine sS rfl rfl ?_
        refine sIast rfl rfl (fun h15 => ?_)
        refine sS rfl rfl ?_
        refine sS rfl rfl ?_
        refine sS rfl rfl ?_
        refine sS rfl rfl ?_
        refine sS rfl rfl ?_
        refine sS rfl rfl ?_
        refine sIast rfl rfl (fun h16 => ?_)
        refine sS rfl rfl ?_
        refine sS rfl rfl ?_
        refine sS rfl rfl ?_
        refine sS rfl rfl ?_
        refine sS rfl rfl ?_
        refine sS rfl rfl ?_
        refine sS rfl rfl ?_
        refine sS rfl rfl ?_
        refine sIast rfl rfl (fun h17 => ?_)
        refine sS rfl rfl ?_
        refine sS rfl rfl ?_
        refine sS rfl rfl ?_
        refine sS rfl rfl ?_
        refine sS rfl rfl ?_
        refine sS rfl rfl ?_
        refine sIast rfl rfl (fun h18 => ?_)
        refine sS rfl rfl ?_
        refine sS rfl rfl ?_
        refine sS rfl rfl ?_
        refine sS rfl rfl ?_
        refine sIald rfl rfl (fun z19 => ?_)
        refine sS rfl rfl ?_
        refine sS rfl rfl ?_
        refine sIast rfl rfl (fun h20 => ?_)
        exact sR rfl rfl (fun hg => by cases hg; exact ⟨rfl, rfl⟩)
      · exact sR rfl rfl (fun hg => by cases hg; exact ⟨rfl, rfl⟩)
    · refine sB rfl rfl ?_ ?_
      · have h3 := hk8 (z7.2)
        try dsimp only at h3
        exact h3
      · refine sS rfl rfl ?_
        refine sS rfl rfl ?_
        refine sS rfl rfl ?_
        refine sS rfl rfl ?_
        refine sT0 (c' := 0) rfl rfl rfl rfl rfl rfl (ok_X8_report d (by omega) z7.2 (-3 : Int32) (z7.2.1 122 13)) ?_
        have h3 := hk8 ((F_X8_report z7.2 (-3 : Int32) (z7.2.1 122 13)))
        try dsimp only at h3
        exact h3
  · refine sB rfl rfl ?_ ?_
    · refine sM [true, false, true, true, true, true, true, true] rfl ?_
      have h3 := hk2 (h)
      try dsimp only at h3
      exact h3
    · refine sS rfl rfl ?_
      refine sS rfl rfl ?_
      refine sS rfl rfl ?_
      refine sT0 (c' := 0) rfl rfl rfl rfl rfl rfl (ok_X8_report d (by omega) h (-4 : Int32) p0) ?_
      refine sM [true, false, true, true, true, true, true, true] rfl ?_
      have h3 := hk2 ((F_X8_report h (-4 : Int32) p0))
      try dsimp only at h3
      exact h3
noncomputable def F_X8_edgeAt (h : PH) (p0 : Int32) : Option (Int32 × PH) :=
 (ald 1556 h 125 (2 : Int32)).bind fun z1 =>
 (F_X8_number h (0 : Int32) (z1 - (1 : Int32))).bind fun z2 =>
 if (F_X8_isGood z2.2) = 0 then
  some ((z2.1, z2.2))
 else
  (ald 1556 z2.2 125 (F_X8_edge z2.2 z2.1)).bind fun z3 =>
  if z3 = p0 then
   some ((z2.1, z2.2))
  else
   (ald 1556 z2.2 125 ((F_X8_edge z2.2 z2.1) + (1 : Int32))).bind fun z4 =>
   if z4 = p0 then
    some ((z2.1, z2.2))
   else
    some ((z2.1, (F_X8_report z2.2 (-3 : Int32) (z2.2.1 122 13))))
set_option maxHeartbeats 4000000 in
set_option maxRecDepth 100000 in
theorem ok_X8_edgeAt (d : Nat) (hd : 4 ≤ d) (h : PH) (p0 : Int32) : ∀ z, F_X8_edgeAt h p0 = some z → Ex d 132 [.ref 122, .int p0] h (.inl (some (.int z.1))) (z.2) := by
  obtain ⟨d, rfl⟩ : ∃ e, d = e + 1 := ⟨d - 1, by omega⟩
  intro z hz
  refine ⟨rfl, ?_⟩
  refine (?_ : Sim (Ex d) mi_X8_edgeAt (fun o1 h1 => o1 = _ ∧ h1 = _) (F_X8_edgeAt h p0) (fun t => t = z) 0 [some (.ref 122), some (.int p0), none] [] h 0) z hz rfl
  unfold F_X8_edgeAt
  refine sS rfl rfl ?_
  refine sS rfl rfl ?_
  refine sS rfl rfl ?_
  refine sS rfl rfl ?_
  refine sS rfl rfl ?_
  refine sIald rfl rfl (fun z1 => ?_)
  refine sS rfl rfl ?_
  refine sS rfl rfl ?_
  refine sC1 (c' := 0) rfl rfl rfl rfl rfl rfl (ok_X8_number d (by omega) h (0 : Int32) (z1 - (1 : Int32))) (fun z2 => ?_)
  refine sS rfl rfl ?_
  refine sS rfl rfl ?_
  refine sT1 (c' := 0) rfl rfl rfl rfl rfl rfl (ok_X8_isGood d (by omega) z2.2) ?_
  refine sB rfl rfl ?_ ?_
  · refine sS rfl rfl ?_
    exact sR rfl rfl (fun hg => by cases hg; exact ⟨rfl, rfl⟩)
  · refine sS rfl rfl ?_
    refine sS rfl rfl ?_
    refine sS rfl rfl ?_
    refine sT1 (c' := 0) rfl rfl rfl rfl rfl rfl (ok_X8_edge d (by omega) z2.2 z2.1) ?_
    refine sIald rfl rfl (fun z3 => ?_)
    refine sS rfl rfl ?_
    refine sB rfl rfl ?_ ?_
    · refine sS rfl rfl ?_
      exact sR rfl rfl (fun hg => by cases hg; exact ⟨rfl, rfl⟩)
    · refine sS rfl rfl ?_
      refine sS rfl rfl ?_
      refine sS rfl rfl ?_
      refine sT1 (c' := 0) rfl rfl rfl rfl rfl rfl (ok_X8_edge d (by omega) z2.2 z2.1) ?_
      refine sS rfl rfl ?_
      refine sS rfl rfl ?_
      refine sIald rfl rfl (fun z4 => ?_)
      refine sS rfl rfl ?_
      refine sB rfl rfl ?_ ?_
      · refine sS rfl rfl ?_
        exact sR rfl rfl (fun hg => by cases hg; exact ⟨rfl, rfl⟩)
      · refine sS rfl rfl ?_
        refine sS rfl rfl ?_
        refine sS rfl rfl ?_
        refine sS rfl rfl ?_
        refine sT0 (c' := 0) rfl rfl rfl rfl rfl rfl (ok_X8_report d (by omega) z2.2 (-3 : Int32) (z2.2.1 122 13)) ?_
        refine sS rfl rfl ?_
        exact sR rfl rfl (fun hg => by cases hg; exact ⟨rfl, rfl⟩)
noncomputable def F_X8_readBan (h : PH) : Option (PH) :=
 (ald 1556 h 125 (0 : Int32)).bind fun z1 =>
 (F_X8_number h (0 : Int32) (z1 - (1 : Int32))).bind fun z2 =>
 (F_X8_edgeAt z2.2 z2.1).bind fun z3 =>
 (F_X8_edgeAt z3.2 z2.1).bind fun z4 =>
 if (F_X8_isGood z4.2) = 0 then
  some (z4.2)
 else
  (ald 1556 z4.2 125 (F_X8_ban z4.2 z2.1 z3.1)).bind fun z5 =>
  (ast 1556 z4.2 125 (F_X8_ban z4.2 z2.1 z3.1) (z5 ||| ((1 : Int32) <<< (z4.1 &&& 31)))).bind fun h6 =>
  some (h6)
set_option maxHeartbeats 4000000 in
set_option maxRecDepth 100000 in
theorem ok_X8_readBan (d : Nat) (hd : 5 ≤ d) (h : PH) : ∀ z, F_X8_readBan h = some z → Ex d 133 [.ref 122] h (.inl (none)) (z) := by
  obtain ⟨d, rfl⟩ : ∃ e, d = e + 1 := ⟨d - 1, by omega⟩
  intro z hz
  refine ⟨rfl, ?_⟩
  refine (?_ : Sim (Ex d) mi_X8_readBan (fun o1 h1 => o1 = _ ∧ h1 = _) (F_X8_readBan h) (fun t => t = z) 0 [some (.ref 122), none, none, none] [] h 0) z hz rfl
  unfold F_X8_readBan
  refine sS rfl rfl ?_
  refine sS rfl rfl ?_
  refine sS rfl rfl ?_
  refine sS rfl rfl ?_
  refine sS rfl rfl ?_
  refine sIald rfl rfl (fun z1 => ?_)
  refine sS rfl rfl ?_
  refine sS rfl rfl ?_
  refine sC1 (c' := 0) rfl rfl rfl rfl rfl rfl (ok_X8_number d (by omega) h (0 : Int32) (z1 - (1 : Int32))) (fun z2 => ?_)
  refine sS rfl rfl ?_
  refine sS rfl rfl ?_
  refine sS rfl rfl ?_
  refine sC1 (c' := 0) rfl rfl rfl rfl rfl rfl (ok_X8_edgeAt d (by omega) z2.2 z2.1) (fun z3 => ?_)
  refine sS rfl rfl ?_
  refine sS rfl rfl ?_
  refine sS rfl rfl ?_
  refine sC1 (c' := 0) rfl rfl rfl rfl rfl rfl (ok_X8_edgeAt d (by omega) z3.2 z2.1) (fun z4 => ?_)
  refine sS rfl rfl ?_
  refine sS rfl rfl ?_
  refine sT1 (c' := 0) rfl rfl rfl rfl rfl rfl (ok_X8_isGood d (by omega) z4.2) ?_
  refine sB rfl rfl ?_ ?_
  · exact sR rfl rfl (fun hg => by cases hg; exact ⟨rfl, rfl⟩)
  · refine sS rfl rfl ?_
    refine sS rfl rfl ?_
    refine sS rfl rfl ?_
    refine sS rfl rfl ?_
    refine sT1 (c' := 0) rfl rfl rfl rfl rfl rfl (ok_X8_ban d (by omega) z4.2 z2.1 z3.1) ?_
    refine sS rfl rfl ?_
    refine sIald rfl rfl (fun z5 => ?_)
    refine sS rfl rfl ?_
    refine sS rfl rfl ?_
    refine sS rfl rfl ?_
    refine sS rfl rfl ?_
    refine sIast rfl rfl (fun h6 => ?_)
    exact sR rfl rfl (fun hg => by cases hg; exact ⟨rfl, rfl⟩)
noncomputable def F_X8_readDepot (h : PH) (p0 : Int32) : Option (PH) :=
 (ald 1556 h 125 (3 : Int32)).bind fun z1 =>
 jn (fun (v3 : PH) =>
  (ald 1556 v3 125 (0 : Int32)).bind fun z4 =>
  (F_X8_number v3 (0 : Int32) (z4 - (1 : Int32))).bind fun z5 =>
  if ¬ (F_X8_isGood z5.2) = 0 then
   (ald 1556 z5.2 125 (3 : Int32)).bind fun z6 =>
   (ast 1556 z5.2 125 ((189 : Int32) + z6) z5.1).bind fun h7 =>
   (ald 1556 h7 125 (3 : Int32)).bind fun z8 =>
   (ast 1556 h7 125 (3 : Int32) (z8 + (1 : Int32))).bind fun h9 =>
   some (h9)
  else
   some (z5.2)) (fun k2 =>
  if ¬ z1 = (3 : Int32) then
   k2 h
  else
   k2 ((F_X8_report h (-4 : Int32) p0)))
set_option maxHeartbeats 4000000 in
set_option maxRecDepth 100000 in
theorem ok_X8_readDepot (d : Nat) (hd : 4 ≤ d) (h : PH) (p0 : Int32) : ∀ z, F_X8_readDepot h p0 = some z → Ex d 134 [.ref 122, .int p0] h (.inl (none)) (z) := by
  obtain ⟨d, rfl⟩ : ∃ e, d = e + 1 := ⟨d - 1, by omega⟩
  intro z hz
  refine ⟨rfl, ?_⟩
  refine (?_ : Sim (Ex d) mi_X8_readDepot (fun o1 h1 => o1 = _ ∧ h1 = _) (F_X8_readDepot h p0) (fun t => t = z) 0 [some (.ref 122), some (.int p0), none] [] h 0) z hz rfl
  unfold F_X8_readDepot
  refine sS rfl rfl ?_
  refine sS rfl rfl ?_
  refine sS rfl rfl ?_
  refine sIald rfl rfl (fun z1 => ?_)
  refine sS rfl rfl ?_
  refine sJn 17 (fun (v3 : PH) => [some (.ref 122), none, none]) (fun (v3 : PH) => []) (fun (v3 : PH) => v3) (fun v3 => ?_) (fun k2 hk2 => ?_)
  · refine sS rfl rfl ?_
    refine sS rfl rfl ?_
    refine sS rfl rfl ?_
    refine sS rfl rfl ?_
    refine sS rfl rfl ?_
    refine sIald rfl rfl (fun z4 => ?_)
    refine sS rfl rfl ?_
    refine sS rfl rfl ?_
    refine sC1 (c' := 0) rfl rfl rfl rfl rfl rfl (ok_X8_number d (by omega) v3 (0 : Int32) (z4 - (1 : Int32))) (fun z5 => ?_)
    refine sS rfl rfl ?_
    refine sS rfl rfl ?_
    refine sT1 (c' := 0) rfl rfl rfl rfl rfl rfl (ok_X8_isGood d (by omega) z5.2) ?_
    refine sB rfl rfl ?_ ?_
    · refine sS rfl rfl ?_
      refine sS rfl rfl ?_
      refine sS rfl rfl ?_
      refine sS rfl rfl ?_
      refine sS rfl rfl ?_
      refine sS rfl rfl ?_
      refine sIald rfl rfl (fun z6 => ?_)
      refine sS rfl rfl ?_
      refine sS rfl rfl ?_
      refine sIast rfl rfl (fun h7 => ?_)
      refine sS rfl rfl ?_
      refine sS rfl rfl ?_
      refine sS rfl rfl ?_
      refine sS rfl rfl ?_
      refine sIald rfl rfl (fun z8 => ?_)
      refine sS rfl rfl ?_
      refine sS rfl rfl ?_
      refine sIast rfl rfl (fun h9 => ?_)
      exact sR rfl rfl (fun hg => by cases hg; exact ⟨rfl, rfl⟩)
    · exact sR rfl rfl (fun hg => by cases hg; exact ⟨rfl, rfl⟩)
  · refine sB rfl rfl ?_ ?_
    · refine sM [true, false, true] rfl ?_
      have h3 := hk2 (h)
      try dsimp only at h3
      exact h3
    · refine sS rfl rfl ?_
      refine sS rfl rfl ?_
      refine sS rfl rfl ?_
      refine sT0 (c' := 0) rfl rfl rfl rfl rfl rfl (ok_X8_report d (by omega) h (-4 : Int32) p0) ?_
      refine sM [true, false, true] rfl ?_
      have h3 := hk2 ((F_X8_report h (-4 : Int32) p0))
      try dsimp only at h3
      exact h3
noncomputable def F_X8_statement (h : PH) : Option (PH) :=
 (F_X8_next h).bind fun z1 =>
 (F_X8_takeWord z1.2 1001).bind fun z2 =>
 jn (fun (v4 : PH) =>
  (F_X8_expect v4 (59 : Int32)).bind fun h5 =>
  some (h5)) (fun k3 =>
  if z2.1 = 0 then
   (F_X8_takeWord z2.2 1002).bind fun z6 =>
   if z6.1 = 0 then
    (F_X8_takeWord z6.2 1003).bind fun z7 =>
    if z7.1 = 0 then
     (F_X8_takeWord z7.2 1004).bind fun z8 =>
     if z8.1 = 0 then
      k3 ((F_X8_report z8.2 (-2 : Int32) (z1.2.1 122 4)))
     else
      (ast 1556 (F_X8_once z8.2 (0 : Int32) (z1.2.1 122 4)) 125 (5 : Int32) (1 : Int32)).bind fun h9 =>
      (R_X8_sum 8 h9).bind fun h10 =>
      k3 h10
    else
     (F_X8_readDepot z7.2 (z1.2.1 122 4)).bind fun h11 =>
     k3 h11
   else
    (F_X8_readBan z6.2).bind fun h12 =>
    k3 h12
  else
   (F_X8_readEdge z2.2 (z1.2.1 122 4)).bind fun h13 =>
   k3 h13)
set_option maxHeartbeats 4000000 in
set_option maxRecDepth 100000 in
theorem ok_X8_statement (d : Nat) (hd : 31 ≤ d) (h : PH) : ∀ z, F_X8_statement h = some z → Ex d 135 [.ref 122] h (.inl (none)) (z) := by
  obtain ⟨d, rfl⟩ : ∃ e, d = e + 1 := ⟨d - 1, by omega⟩
  intro z hz
  refine ⟨rfl, ?_⟩
  refine (?_ : Sim (Ex d) mi_X8_statement (fun o1 h1 => o1 = _ ∧ h1 = _) (F_X8_statement h) (fun t => t = z) 0 [some (.ref 122), none] [] h 0) z hz rfl
  unfold F_X8_statement
  refine sS rfl rfl ?_
  refine sC1 (c' := 0) rfl rfl rfl rfl rfl rfl (ok_X8_next d (by omega) h) (fun z1 => ?_)
  refine sS rfl rfl ?_
  refine sS rfl rfl ?_
  refine sS rfl rfl ?_
  refine sS rfl rfl ?_
  refine sS rfl rfl ?_
  refine sS rfl rfl ?_
  refine sC1 (c' := 0) rfl rfl rfl rfl rfl rfl (ok_X8_takeWord d (by omega) z1.2 1001 ⟨rfl, rfl⟩) (fun z2 => ?_)
  refine sJn 96 (fun (v4 : PH) => [some (.ref 122), none]) (fun (v4 : PH) => []) (fun (v4 : PH) => v4) (fun v4 => ?_) (fun k3 hk3 => ?_)
  · refine sS rfl rfl ?_
    refine sS rfl rfl ?_
    refine sC0 (c' := 0) rfl rfl rfl rfl rfl rfl (ok_X8_expect d (by omega) v4 (59 : Int32)) (fun h5 => ?_)
    exact sR rfl rfl (fun hg => by cases hg; exact ⟨rfl, rfl⟩)
  · refine sB rfl rfl ?_ ?_
    · refine sS rfl rfl ?_
      refine sS rfl rfl ?_
      refine sC1 (c' := 0) rfl rfl rfl rfl rfl rfl (ok_X8_takeWord d (by omega) z2.2 1002 ⟨rfl, rfl⟩) (fun z6 => ?_)
      refine sB rfl rfl ?_ ?_
      · refine sS rfl rfl ?_
        refine sS rfl rfl ?_
        refine sC1 (c' := 0) rfl rfl rfl rfl rfl rfl (ok_X8_takeWord d (by omega) z6.2 1003 ⟨rfl, rfl⟩) (fun z7 => ?_)
        refine sB rfl rfl ?_ ?_
        · refine sS rfl rfl ?_
          refine sS rfl rfl ?_
          refine sC1 (c' := 0) rfl rfl rfl rfl rfl rfl (ok_X8_takeWord d (by omega) z7.2 1004 ⟨rfl, rfl⟩) (fun z8 => ?_)
          refine sB rfl rfl ?_ ?_
          · refine sS rfl rfl ?_
            refine sS rfl rfl ?_
            refine sS rfl rfl ?_
            refine sT0 (c' := 0) rfl rfl rfl rfl rfl rfl (ok_X8_report d (by omega) z8.2 (-2 : Int32) (z1.2.1 122 4)) ?_
            refine sM [true, false] rfl ?_
            have h3 := hk3 ((F_X8_report z8.2 (-2 : Int32) (z1.2.1 122 4)))
            try dsimp only at h3
            exact h3
          · refine sS rfl rfl ?_
            refine sS rfl rfl ?_
            refine sS rfl rfl ?_
            refine sT0 (c' := 0) rfl rfl rfl rfl rfl rfl (ok_X8_once d (by omega) z8.2 (0 : Int32) (z1.2.1 122 4)) ?_
            refine sS rfl rfl ?_
            refine sS rfl rfl ?_
            refine sS rfl rfl ?_
            refine sS rfl rfl ?_
            refine sIast rfl rfl (fun h9 => ?_)
            refine sS rfl rfl ?_
            refine sC0 (c' := 0) rfl rfl rfl rfl rfl rfl (okR_X8_sum 8 d (by omega) h9) (fun h10 => ?_)
            refine sS rfl rfl ?_
            refine sM [true, false] rfl ?_
            have h3 := hk3 (h10)
            try dsimp only at h3
            exact h3
        · refine sS rfl rfl ?_
          refine sS rfl rfl ?_
          refine sC0 (c' := 0) rfl rfl rfl rfl rfl rfl (ok_X8_readDepot d (by omega) z7.2 (z1.2.1 122 4)) (fun h11 => ?_)
          refine sS rfl rfl ?_
          refine sM [true, false] rfl ?_
          have h3 := hk3 (h11)
          try dsimp only at h3
          exact h3
      · refine sS rfl rfl ?_
        refine sC0 (c' := 0) rfl rfl rfl rfl rfl rfl (ok_X8_readBan d (by omega) z6.2) (fun h12 => ?_)
        refine sS rfl rfl ?_
        refine sM [true, false] rfl ?_
        have h3 := hk3 (h12)
        try dsimp only at h3
        exact h3
    · refine sS rfl rfl ?_
      refine sS rfl rfl ?_
      refine sC0 (c' := 0) rfl rfl rfl rfl rfl rfl (ok_X8_readEdge d (by omega) z2.2 (z1.2.1 122 4)) (fun h13 => ?_)
      refine sS rfl rfl ?_
      refine sM [true, false] rfl ?_
      have h3 := hk3 (h13)
      try dsimp only at h3
      exact h3
noncomputable def F_X8_remember (h : PH) : Option (PH) :=
 jn (fun (v2 : PH) =>
  (aidx 8 (v2.1 122 12)).bind fun j3 =>
  (F_X8_copy v2 124 (128 + 1 * j3)).bind fun h4 =>
  some ((pu h4 122 12 ((h4.1 122 12) + (1 : Int32))))) (fun k1 =>
  if ¬ (h.1 122 12) = (8 : Int32) then
   k1 h
  else
   loop (fun (s5 : Int32 × PH) =>
    if (8 : Int32) ≤ s5.1 then
     (k1 ((pu s5.2 122 12 ((s5.2.1 122 12) - (1 : Int32))))).map Sum.inr
    else
     (aidx 8 s5.1).bind fun j6 =>
     (aidx 8 (s5.1 - (1 : Int32))).bind fun j7 =>
     (F_X8_copy s5.2 (128 + 1 * j6) (128 + 1 * j7)).bind fun h8 =>
     some (.inl ((s5.1 + (1 : Int32)), h8))) ((1 : Int32), h))
set_option maxHeartbeats 4000000 in
set_option maxRecDepth 100000 in
theorem ok_X8_remember (d : Nat) (hd : 2 ≤ d) (h : PH) : ∀ z, F_X8_remember h = some z → Ex d 194 [.ref 122] h (.inl (none)) (z) := by
  obtain ⟨d, rfl⟩ : ∃ e, d = e + 1 := ⟨d - 1, by omega⟩
  intro z hz
  refine ⟨rfl, ?_⟩
  refine (?_ : Sim (Ex d) mi_X8_remember (fun o1 h1 => o1 = _ ∧ h1 = _) (F_X8_remember h) (fun t => t = z) 0 [some (.ref 122), none] [] h 0) z hz rfl
  unfold F_X8_remember
  refine sS rfl rfl ?_
  refine sS rfl rfl ?_
  refine sS rfl rfl ?_
  refine sJn 50 (fun (v2 : PH) => [some (.ref 122), none]) (fun (v2 : PH) => []) (fun (v2 : PH) => v2) (fun v2 => ?_) (fun k1 hk1 => ?_)
  · refine sS rfl rfl ?_
    refine sS rfl rfl ?_
    refine sS rfl rfl ?_
    refine sS rfl rfl ?_
    refine sS rfl rfl ?_
    refine sS rfl rfl ?_
    refine sRald6 rfl rfl (fun j3 hj3 => ?_)
    refine sC0 (c' := 0) rfl rfl rfl rfl rfl rfl (ok_X8_copy d (by omega) v2 124 rfl (128 + 1 * j3) (isHis_h hj3)) (fun h4 => ?_)
    refine sS rfl rfl ?_
    refine sS rfl rfl ?_
    refine sS rfl rfl ?_
    refine sS rfl rfl ?_
    refine sS rfl rfl ?_
    refine sS rfl rfl ?_
    exact sR rfl rfl (fun hg => by cases hg; exact ⟨rfl, rfl⟩)
  · refine sB rfl rfl ?_ ?_
    · have h3 := hk1 (h)
      try dsimp only at h3
      exact h3
    · refine sS rfl rfl ?_
      refine sS rfl rfl ?_
      refine sL (pc := 11) (lv := fun (s5 : Int32 × PH) => [some (.ref 122), some (.int (s5.1))]) (h := fun (s5 : Int32 × PH) => s5.2) (fun s5 => ?_) ((1 : Int32), h)
      refine sS rfl rfl ?_
      refine sS rfl rfl ?_
      refine sB rfl rfl ?_ ?_
      · refine sS rfl rfl ?_
        refine sS rfl rfl ?_
        refine sS rfl rfl ?_
        refine sS rfl rfl ?_
        refine sS rfl rfl ?_
        refine sS rfl rfl ?_
        refine sM [true, false] rfl ?_
        refine sN ?_
        have h3 := hk1 ((pu s5.2 122 12 ((s5.2.1 122 12) - (1 : Int32))))
        try dsimp only at h3
        exact h3
      · refine sS rfl rfl ?_
        refine sS rfl rfl ?_
        refine sS rfl rfl ?_
        refine sRald6 rfl rfl (fun j6 hj6 => ?_)
        refine sS rfl rfl ?_
        refine sS rfl rfl ?_
        refine sS rfl rfl ?_
        refine sS rfl rfl ?_
        refine sS rfl rfl ?_
        refine sRald6 rfl rfl (fun j7 hj7 => ?_)
        refine sC0 (c' := 0) rfl rfl rfl rfl rfl rfl (ok_X8_copy d (by omega) s5.2 (128 + 1 * j6) (isHis_h hj6) (128 + 1 * j7) (isHis_h hj7)) (fun h8 => ?_)
        refine sS rfl rfl ?_
        refine sS rfl rfl ?_
        exact sJ (fun h2 => by (try dsimp only at h2); exact h2)
noncomputable def F_X8_arcs (h : PH) : Option (Int32) :=
 (ald 1556 h 124 (2 : Int32)).bind fun z1 =>
 some (((2 : Int32) * z1))
set_option maxHeartbeats 4000000 in
set_option maxRecDepth 100000 in
theorem ok_X8_arcs (d : Nat) (hd : 1 ≤ d) (h : PH) : ∀ z, F_X8_arcs h = some z → Ex d 138 [.ref 122] h (.inl (some (.int z))) (h) := by
  obtain ⟨d, rfl⟩ : ∃ e, d = e + 1 := ⟨d - 1, by omega⟩
  intro z hz
  refine ⟨rfl, ?_⟩
  refine (?_ : Sim (Ex d) mi_X8_arcs (fun o1 h1 => o1 = _ ∧ h1 = _) (F_X8_arcs h) (fun t => t = z) 0 [some (.ref 122)] [] h 0) z hz rfl
  unfold F_X8_arcs
  refine sS rfl rfl ?_
  refine sS rfl rfl ?_
  refine sS rfl rfl ?_
  refine sS rfl rfl ?_
  refine sIald rfl rfl (fun z1 => ?_)
  refine sS rfl rfl ?_
  exact sR rfl rfl (fun hg => by cases hg; exact ⟨rfl, rfl⟩)
noncomputable def F_X8_head (h : PH) (p0 : Int32) : Option (Int32) :=
 (ald 1556 h 124 (((F_X8_edge h (p0 / (2 : Int32))) + (1 : Int32)) - (p0 - p0 / (2 : Int32) * (2 : Int32)))).bind fun z1 =>
 some (z1)
set_option maxHeartbeats 4000000 in
set_option maxRecDepth 100000 in
theorem ok_X8_head (d : Nat) (hd : 2 ≤ d) (h : PH) (p0 : Int32) : ∀ z, F_X8_head h p0 = some z → Ex d 140 [.ref 122, .int p0] h (.inl (some (.int z))) (h) := by
  obtain ⟨d, rfl⟩ : ∃ e, d = e + 1 := ⟨d - 1, by omega⟩
  intro z hz
  refine ⟨rfl, ?_⟩
  refine (?_ : Sim (Ex d) mi_X8_head (fun o1 h1 => o1 = _ ∧ h1 = _) (F_X8_head h p0) (fun t => t = z) 0 [some (.ref 122), some (.int p0)] [] h 0) z hz rfl
  unfold F_X8_head
  refine sS rfl rfl ?_
  refine sS rfl rfl ?_
  refine sS rfl rfl ?_
  refine sS rfl rfl ?_
  refine sS rfl rfl ?_
  refine sT1 (c' := 0) rfl rfl rfl rfl rfl rfl (ok_X8_edge d (by omega) h (p0 / (2 : Int32))) ?_
  refine sS rfl rfl ?_
  refine sS rfl rfl ?_
  refine sS rfl rfl ?_
  refine sS rfl rfl ?_
  refine sS rfl rfl ?_
  refine sS rfl rfl ?_
  refine sIald rfl rfl (fun z1 => ?_)
  exact sR rfl rfl (fun hg => by cases hg; exact ⟨rfl, rfl⟩)
noncomputable def F_X8_tail (h : PH) (p0 : Int32) : Option (Int32) :=
 (ald 1556 h 124 ((F_X8_edge h (p0 / (2 : Int32))) + (p0 - p0 / (2 : Int32) * (2 : Int32)))).bind fun z1 =>
 some (z1)
set_option maxHeartbeats 4000000 in
set_option maxRecDepth 100000 in
theorem ok_X8_tail (d : Nat) (hd : 2 ≤ d) (h : PH) (p0 : Int32) : ∀ z, F_X8_tail h p0 = some z → Ex d 139 [.ref 122, .int p0] h (.inl (some (.int z))) (h) := by
  obtain ⟨d, rfl⟩ : ∃ e, d = e + 1 := ⟨d - 1, by omega⟩
  intro z hz
  refine ⟨rfl, ?_⟩
  refine (?_ : Sim (Ex d) mi_X8_tail (fun o1 h1 => o1 = _ ∧ h1 = _) (F_X8_tail h p0) (fun t => t = z) 0 [some (.ref 122), some (.int p0)] [] h 0) z hz rfl
  unfold F_X8_tail
  refine sS rfl rfl ?_
  refine sS rfl rfl ?_
  refine sS rfl rfl ?_
  refine sS rfl rfl ?_
  refine sS rfl rfl ?_
  refine sT1 (c' := 0) rfl rfl rfl rfl rfl rfl (ok_X8_edge d (by omega) h (p0 / (2 : Int32))) ?_
  refine sS rfl rfl ?_
  refine sS rfl rfl ?_
  refine sS rfl rfl ?_
  refine sS rfl rfl ?_
  refine sIald rfl rfl (fun z1 => ?_)
  exact sR rfl rfl (fun hg => by cases hg; exact ⟨rfl, rfl⟩)
noncomputable def F_X8_follows (h : PH) (p0 : Int32) (p1 : Int32) : Option (Int32) :=
 (F_X8_head h p0).bind fun z1 =>
 (F_X8_tail h p1).bind fun z2 =>
 if ¬ z1 = z2 then
  some ((0 : Int32))
 else
  (F_X8_head h p0).bind fun z3 =>
  (ald 1556 h 124 (F_X8_ban h z3 (p0 / (2 : Int32)))).bind fun z4 =>
  if ¬ ((z4 >>> ((p1 / (2 : Int32)) &&& 31)) &&& (1 : Int32)) = 0 then
   some ((0 : Int32))
  else
   some ((1 : Int32))
set_option maxHeartbeats 4000000 in
set_option maxRecDepth 100000 in
theorem ok_X8_follows (d : Nat) (hd : 3 ≤ d) (h : PH) (p0 : Int32) (p1 : Int32) : ∀ z, F_X8_follows h p0 p1 = some z → Ex d 142 [.ref 122, .int p0, .int p1] h (.inl (some (.int z))) (h) := by
  obtain ⟨d, rfl⟩ : ∃ e, d = e + 1 := ⟨d - 1, by omega⟩
  intro z hz
  refine ⟨rfl, ?_⟩
  refine (?_ : Sim (Ex d) mi_X8_follows (fun o1 h1 => o1 = _ ∧ h1 = _) (F_X8_follows h p0 p1) (fun t => t = z) 0 [some (.ref 122), some (.int p0), some (.int p1)] [] h 0) z hz rfl
  unfold F_X8_follows
  refine sS rfl rfl ?_
  refine sS rfl rfl ?_
  refine sC1 (c' := 0) rfl rfl rfl rfl rfl rfl (ok_X8_head d (by omega) h p0) (fun z1 => ?_)
  refine sS rfl rfl ?_
  refine sS rfl rfl ?_
  refine sC1 (c' := 0) rfl rfl rfl rfl rfl rfl (ok_X8_tail d (by omega) h p1) (fun z2 => ?_)
  refine sB rfl rfl ?_ ?_
  · refine sS rfl rfl ?_
    exact sR rfl rfl (fun hg => by cases hg; exact ⟨rfl, rfl⟩)
  · refine sS rfl rfl ?_
    refine sS rfl rfl ?_
    refine sS rfl rfl ?_
    refine sS rfl rfl ?_
    refine sC1 (c' := 0) rfl rfl rfl rfl rfl rfl (ok_X8_head d (by omega) h p0) (fun z3 => ?_)
    refine sS rfl rfl ?_
    refine sS rfl rfl ?_
    refine sS rfl rfl ?_
    refine sT1 (c' := 0) rfl rfl rfl rfl rfl rfl (ok_X8_ban d (by omega) h z3 (p0 / (2 : Int32))) ?_
    refine sIald rfl rfl (fun z4 => ?_)
    refine sS rfl rfl ?_
    refine sS rfl rfl ?_
    refine sS rfl rfl ?_
    refine sS rfl rfl ?_
    refine sS rfl rfl ?_
    refine sS rfl rfl ?_
    refine sB rfl rfl ?_ ?_
    · refine sS rfl rfl ?_
      exact sR rfl rfl (fun hg => by cases hg; exact ⟨rfl, rfl⟩)
    · refine sS rfl rfl ?_
      refine sS rfl rfl ?_
      exact sR rfl rfl (fun hg => by cases hg; exact ⟨rfl, rfl⟩)
noncomputable def F_X8_costOf (h : PH) (p0 : Int32) : Option (Int32) :=
 (ald 1556 h 124 (((F_X8_edge h (p0 / (2 : Int32))) + (2 : Int32)) + (p0 - p0 / (2 : Int32) * (2 : Int32)))).bind fun z1 =>
 some (z1)
set_option maxHeartbeats 4000000 in
set_option maxRecDepth 100000 in
theorem ok_X8_costOf (d : Nat) (hd : 2 ≤ d) (h : PH) (p0 : Int32) : ∀ z, F_X8_costOf h p0 = some z → Ex d 141 [.ref 122, .int p0] h (.inl (some (.int z))) (h) := by
  obtain ⟨d, rfl⟩ : ∃ e, d = e + 1 := ⟨d - 1, by omega⟩
  intro z hz
  refine ⟨rfl, ?_⟩
  refine (?_ : Sim (Ex d) mi_X8_costOf (fun o1 h1 => o1 = _ ∧ h1 = _) (F_X8_costOf h p0) (fun t => t = z) 0 [some (.ref 122), some (.int p0)] [] h 0) z hz rfl
  unfold F_X8_costOf
  refine sS rfl rfl ?_
  refine sS rfl rfl ?_
  refine sS rfl rfl ?_
  refine sS rfl rfl ?_
  refine sS rfl rfl ?_
  refine sT1 (c' := 0) rfl rfl rfl rfl rfl rfl (ok_X8_edge d (by omega) h (p0 / (2 : Int32))) ?_
  refine sS rfl rfl ?_
  refine sS rfl rfl ?_
  refine sS rfl rfl ?_
  refine sS rfl rfl ?_
  refine sS rfl rfl ?_
  refine sS rfl rfl ?_
  refine sIald rfl rfl (fun z1 => ?_)
  exact sR rfl rfl (fun hg => by cases hg; exact ⟨rfl, rfl⟩)
noncomputable def F_X8_layGaps (h : PH) : Option (PH) :=
 (F_X8_arcs h).bind fun z1 =>
 loop (fun (s2 : Int32 × PH) =>
  if z1 ≤ s2.1 then
   loop (fun (s3 : Int32 × PH) =>
    if z1 ≤ s3.1 then
     some (.inr (.inr (s3.2)))
    else
     loop (fun (s4 : Int32 × PH) =>
      if z1 ≤ s4.1 then
       some (.inr (.inl ((s3.1 + (1 : Int32)), s4.2)))
      else
       loop (fun (s5 : Int32 × PH) =>
        if z1 ≤ s5.1 then
         some (.inr (.inl ((s4.1 + (1 : Int32)), s5.2)))
        else
         (aidx 28 s4.1).bind fun j6 =>
         (aidx 28 s4.1).bind fun j7 =>
         (ald 28 s5.2 (137 + 1 * j7) s5.1).bind fun z8 =>
         (aidx 28 s4.1).bind fun j9 =>
         (ald 28 s5.2 (137 + 1 * j9) s3.1).bind fun z10 =>
         (F_X8_costOf s5.2 s3.1).bind fun z11 =>
         (aidx 28 s3.1).bind fun j12 =>
         (ald 28 s5.2 (137 + 1 * j12) s5.1).bind fun z13 =>
         (ast 28 s5.2 (137 + 1 * j6) s5.1 (F_X8_min s5.2 z8 ((z10 + z11) + z13))).bind fun h14 =>
         some (.inl ((s5.1 + (1 : Int32)), h14))) ((0 : Int32), s4.2)) ((0 : Int32), s3.2)) ((0 : Int32), s2.2)
  else
   loop (fun (s15 : Int32 × PH) =>
    if z1 ≤ s15.1 then
     some (.inr (.inl ((s2.1 + (1 : Int32)), s15.2)))
    else
     (aidx 28 s2.1).bind fun j16 =>
     (F_X8_follows s15.2 s2.1 s15.1).bind fun z17 =>
     if z17 = 0 then
      (ast 28 s15.2 (137 + 1 * j16) s15.1 (1000000 : Int32)).bind fun h18 =>
      some (.inl ((s15.1 + (1 : Int32)), h18))
     else
      (ast 28 s15.2 (137 + 1 * j16) s15.1 (0 : Int32)).bind fun h19 =>
      some (.inl ((s15.1 + (1 : Int32)), h19))) ((0 : Int32), s2.2)) ((0 : Int32), h)
set_option maxHeartbeats 4000000 in
set_option maxRecDepth 100000 in
theorem ok_X8_layGaps (d : Nat) (hd : 4 ≤ d) (h : PH) : ∀ z, F_X8_layGaps h = some z → Ex d 143 [.ref 122] h (.inl (none)) (z) := by
  obtain ⟨d, rfl⟩ : ∃ e, d = e + 1 := ⟨d - 1, by omega⟩
  intro z hz
  refine ⟨rfl, ?_⟩
  refine (?_ : Sim (Ex d) mi_X8_layGaps (fun o1 h1 => o1 = _ ∧ h1 = _) (F_X8_layGaps h) (fun t => t = z) 0 [some (.ref 122), none, none, none, none] [] h 0) z hz rfl
  unfold F_X8_layGaps
  refine sS rfl rfl ?_
  refine sC1 (c' := 0) rfl rfl rfl rfl rfl rfl (ok_X8_arcs d (by omega) h) (fun z1 => ?_)
  refine sS rfl rfl ?_
  refine sS rfl rfl ?_
  refine sS rfl rfl ?_
  refine sL (pc := 7) (lv := fun (s2 : Int32 × PH) => [some (.ref 122), some (.int z1), some (.int (s2.1)), none, none]) (h := fun (s2 : Int32 × PH) => s2.2) (fun s2 => ?_) ((0 : Int32), h)
  refine sS rfl rfl ?_
  refine sS rfl rfl ?_
  refine sB rfl rfl ?_ ?_
  · refine sS rfl rfl ?_
    refine sS rfl rfl ?_
    refine sL (pc := 56) (lv := fun (s3 : Int32 × PH) => [some (.ref 122), some (.int z1), some (.int (s3.1)), none, none]) (h := fun (s3 : Int32 × PH) => s3.2) (fun s3 => ?_) ((0 : Int32), s2.2)
    refine sS rfl rfl ?_
    refine sS rfl rfl ?_
    refine sB rfl rfl ?_ ?_
    · exact sR rfl rfl (fun hg => by cases hg; exact ⟨rfl, rfl⟩)
    · refine sS rfl rfl ?_
      refine sS rfl rfl ?_
      refine sL (pc := 63) (lv := fun (s4 : Int32 × PH) => [some (.ref 122), some (.int z1), some (.int (s3.1)), some (.int (s4.1)), none]) (h := fun (s4 : Int32 × PH) => s4.2) (fun s4 => ?_) ((0 : Int32), s3.2)
      refine sS rfl rfl ?_
      refine sS rfl rfl ?_
      refine sB rfl rfl ?_ ?_
      · refine sS rfl rfl ?_
        refine sS rfl rfl ?_
        refine sM [true, true, true, false, true] rfl ?_
        refine sUp ?_
        exact sJ (fun h2 => by (try dsimp only at h2); exact h2)
      · refine sS rfl rfl ?_
        refine sS rfl rfl ?_
        refine sL (pc := 71) (lv := fun (s5 : Int32 × PH) => [some (.ref 122), some (.int z1), some (.int (s3.1)), some (.int (s4.1)), some (.int (s5.1))]) (h := fun (s5 : Int32 × PH) => s5.2) (fun s5 => ?_) ((0 : Int32), s4.2)
        refine sS rfl rfl ?_
        refine sS rfl rfl ?_
        refine sB rfl rfl ?_ ?_
        · refine sS rfl rfl ?_
          refine sS rfl rfl ?_
          refine sM [true, true, true, true, false] rfl ?_
          refine sUp ?_
          exact sJ (fun h2 => by (try dsimp only at h2); exact h2)
        · refine sS rfl rfl ?_
          refine sS rfl rfl ?_
          refine sS rfl rfl ?_
          refine sRald6 rfl rfl (fun j6 hj6 => ?_)
          refine sS rfl rfl ?_
          refine sS rfl rfl ?_
          refine sS rfl rfl ?_
          refine sS rfl rfl ?_
          refine sRald6 rfl rfl (fun j7 hj7 => ?_)
          refine sS rfl rfl ?_
          refine sIald rfl (isGap_h hj7) (fun z8 => ?_)
          refine sS rfl rfl ?_
          refine sS rfl rfl ?_
          refine sS rfl rfl ?_
          refine sRald6 rfl rfl (fun j9 hj9 => ?_)
          refine sS rfl rfl ?_
          refine sIald rfl (isGap_h hj9) (fun z10 => ?_)
          refine sS rfl rfl ?_
          refine sS rfl rfl ?_
          refine sC1 (c' := 0) rfl rfl rfl rfl rfl rfl (ok_X8_costOf d (by omega) s5.2 s3.1) (fun z11 => ?_)
          refine sS rfl rfl ?_
          refine sS rfl rfl ?_
          refine sS rfl rfl ?_
          refine sS rfl rfl ?_
          refine sRald6 rfl rfl (fun j12 hj12 => ?_)
          refine sS rfl rfl ?_
          refine sIald rfl (isGap_h hj12) (fun z13 => ?_)
          refine sS rfl rfl ?_
          refine sT1 (c' := 0) rfl rfl rfl rfl rfl rfl (ok_X8_min d (by omega) s5.2 z8 ((z10 + z11) + z13)) ?_
          refine sIast rfl (isGap_h hj6) (fun h14 => ?_)
          refine sS rfl rfl ?_
          refine sS rfl rfl ?_
          exact sJ (fun h2 => by (try dsimp only at h2); exact h2)
  · refine sS rfl rfl ?_
    refine sS rfl rfl ?_
    refine sL (pc := 14) (lv := fun (s15 : Int32 × PH) => [some (.ref 122), some (.int z1), some (.int (s2.1)), some (.int (s15.1)), none]) (h := fun (s15 : Int32 × PH) => s15.2) (fun s15 => ?_) ((0 : Int32), s2.2)
    refine sS rfl rfl ?_
    refine sS rfl rfl ?_
    refine sB rfl rfl ?_ ?_
    · refine sS rfl rfl ?_
      refine sS rfl rfl ?_
      refine sM [true, true, true, false, true] rfl ?_
      refine sUp ?_
      exact sJ (fun h2 => by (try dsimp only at h2); exact h2)
    · refine sS rfl rfl ?_
      refine sS rfl rfl ?_
      refine sS rfl rfl ?_
      refine sRald6 rfl rfl (fun j16 hj16 => ?_)
      refine sS rfl rfl ?_
      refine sS rfl rfl ?_
      refine sS rfl rfl ?_
      refine sS rfl rfl ?_
      refine sC1 (c' := 0) rfl rfl rfl rfl rfl rfl (ok_X8_follows d (by omega) s15.2 s2.1 s15.1) (fun z17 => ?_)
      refine sB rfl rfl ?_ ?_
      · refine sS rfl rfl ?_
        refine sIast rfl (isGap_h hj16) (fun h18 => ?_)
        refine sS rfl rfl ?_
        refine sS rfl rfl ?_
        exact sJ (fun h2 => by (try dsimp only at h2); exact h2)
      · refine sS rfl rfl ?_
        refine sS rfl rfl ?_
        refine sIast rfl (isGap_h hj16) (fun h19 => ?_)
        refine sS rfl rfl ?_
        refine sS rfl rfl ?_
        exact sJ (fun h2 => by (try dsimp only at h2); exact h2)
noncomputable def F_X8_load (h : PH) (p0 : Int32) : Option (Int32 × PH) :=
 jn (fun (v2 : Int32) =>
  if (F_X8_fails (pu h 122 0 (0 : Int32)) v2 (1 : Int32)).1 = 0 then
   loop (fun (s3 : Int32 × PH) =>
    if (1556 : Int32) ≤ s3.1 then
     (F_X8_takeWord s3.2 1000).bind fun z4 =>
     jn (fun (v6 : PH) =>
      (F_X8_number v6 (2 : Int32) (8 : Int32)).bind fun z7 =>
      (ast 1556 z7.2 125 (0 : Int32) z7.1).bind fun h8 =>
      (F_X8_number h8 (1 : Int32) (999 : Int32)).bind fun z9 =>
      (ast 1556 z9.2 125 (1 : Int32) z9.1).bind fun h10 =>
      (F_X8_expect h10 (59 : Int32)).bind fun h11 =>
      loop (fun (s12 : PH) =>
       jn (fun (v14 : PH) =>
        if ¬ (F_X8_isGood (pu v14 122 7 (v14.1 122 6))) = 0 then
         (F_X8_remember (pu v14 122 7 (v14.1 122 6))).bind fun h15 =>
         (F_X8_copy h15 125 124).bind fun h16 =>
         (F_X8_layGaps h16).bind fun h17 =>
         (ald 1556 h17 124 (2 : Int32)).bind fun z18 =>
         some (.inr (.inr ((z18, h17))))
        else
         some (.inr (.inr ((((pu v14 122 7 (v14.1 122 6)).1 122 5), (pu v14 122 7 (v14.1 122 6))))))) (fun k13 =>
        if (F_X8_isGood s12) = 0 then
         k13 s12
        else
         (F_X8_next s12).bind fun z19 =>
         if z19.1 = (-1 : Int32) then
          k13 z19.2
         else
          (F_X8_statement z19.2).bind fun h20 =>
          some (.inl (h20)))) (h11)) (fun k5 =>
      if ¬ z4.1 = 0 then
       k5 z4.2
      else
       k5 ((F_X8_report z4.2 (-2 : Int32) (z4.2.1 122 4))))
    else
     (ast 1556 s3.2 125 s3.1 (0 : Int32)).bind fun h21 =>
     some (.inl ((s3.1 + (1 : Int32)), h21))) ((0 : Int32), (pu (pu (pu (pu (pu (pu (pu (F_X8_fails (pu h 122 0 (0 : Int32)) v2 (1 : Int32)).2 122 2 (0 : Int32)) 122 3 p0) 122 4 (0 : Int32)) 122 5 (0 : Int32)) 122 6 (-1 : Int32)) 122 14 (0 : Int32)) 122 15 (0 : Int32)))
  else
   some (((0 : Int32), (F_X8_fails (pu h 122 0 (0 : Int32)) v2 (1 : Int32)).2))) (fun k1 =>
  if ¬ (F_X8_in (pu h 122 0 (0 : Int32)) p0 (0 : Int32) ((pu h 122 0 (0 : Int32)).1 122 2)) = 0 then
   k1 ((0 : Int32))
  else
   k1 ((1 : Int32)))
set_option maxHeartbeats 4000000 in
set_option maxRecDepth 100000 in
theorem ok_X8_load (d : Nat) (hd : 32 ≤ d) (h : PH) (p0 : Int32) : ∀ z, F_X8_load h p0 = some z → Ex d 136 [.ref 122, .int p0] h (.inl (some (.int z.1))) (z.2) := by
  obtain ⟨d, rfl⟩ : ∃ e, d = e + 1 := ⟨d - 1, by omega⟩
  intro z hz
  refine ⟨rfl, ?_⟩
  refine (?_ : Sim (Ex d) mi_X8_load (fun o1 h1 => o1 = _ ∧ h1 = _) (F_X8_load h p0) (fun t => t = z) 0 [some (.ref 122), some (.int p0), none] [] h 0) z hz rfl
  unfold F_X8_load
  refine sS rfl rfl ?_
  refine sS rfl rfl ?_
  refine sS rfl rfl ?_
  refine sS rfl rfl ?_
  refine sS rfl rfl ?_
  refine sS rfl rfl ?_
  refine sS rfl rfl ?_
  refine sS rfl rfl ?_
  refine sT1 (c' := 0) rfl rfl rfl rfl rfl rfl (ok_X8_in d (by omega) (pu h 122 0 (0 : Int32)) p0 (0 : Int32) ((pu h 122 0 (0 : Int32)).1 122 2)) ?_
  refine sJn 23 (fun (v2 : Int32) => [some (.ref 122), some (.int p0), none]) (fun (v2 : Int32) => [.int v2, .ref 122]) (fun (v2 : Int32) => (pu h 122 0 (0 : Int32))) (fun v2 => ?_) (fun k1 hk1 => ?_)
  · refine sS rfl rfl ?_
    refine sT1 (c' := 0) rfl rfl rfl rfl rfl rfl (ok_X8_fails d (by omega) (pu h 122 0 (0 : Int32)) v2 (1 : Int32)) ?_
    refine sB rfl rfl ?_ ?_
    · refine sS rfl rfl ?_
      refine sS rfl rfl ?_
      refine sS rfl rfl ?_
      refine sS rfl rfl ?_
      refine sS rfl rfl ?_
      refine sS rfl rfl ?_
      refine sS rfl rfl ?_
      refine sS rfl rfl ?_
      refine sS rfl rfl ?_
      refine sS rfl rfl ?_
      refine sS rfl rfl ?_
      refine sS rfl rfl ?_
      refine sS rfl rfl ?_
      refine sS rfl rfl ?_
      refine sS rfl rfl ?_
      refine sS rfl rfl ?_
      refine sS rfl rfl ?_
      refine sS rfl rfl ?_
      refine sS rfl rfl ?_
      refine sS rfl rfl ?_
      refine sS rfl rfl ?_
      refine sS rfl rfl ?_
      refine sS rfl rfl ?_
      refine sM [true, false, true] rfl ?_
      refine sL (pc := 69) (lv := fun (s3 : Int32 × PH) => [some (.ref 122), none, some (.int (s3.1))]) (h := fun (s3 : Int32 × PH) => s3.2) (fun s3 => ?_) ((0 : Int32), (pu (pu (pu (pu (pu (pu (pu (F_X8_fails (pu h 122 0 (0 : Int32)) v2 (1 : Int32)).2 122 2 (0 : Int32)) 122 3 p0) 122 4 (0 : Int32)) 122 5 (0 : Int32)) 122 6 (-1 : Int32)) 122 14 (0 : Int32)) 122 15 (0 : Int32)))
      refine sS rfl rfl ?_
      refine sS rfl rfl ?_
      refine sB rfl rfl ?_ ?_
      · refine sS rfl rfl ?_
        refine sS rfl rfl ?_
        refine sC1 (c' := 0) rfl rfl rfl rfl rfl rfl (ok_X8_takeWord d (by omega) s3.2 1000 ⟨rfl, rfl⟩) (fun z4 => ?_)
        refine sJn 108 (fun (v6 : PH) => [some (.ref 122), none, none]) (fun (v6 : PH) => []) (fun (v6 : PH) => v6) (fun v6 => ?_) (fun k5 hk5 => ?_)
        · refine sS rfl rfl ?_
          refine sS rfl rfl ?_
          refine sS rfl rfl ?_
          refine sS rfl rfl ?_
          refine sS rfl rfl ?_
          refine sS rfl rfl ?_
          refine sC1 (c' := 0) rfl rfl rfl rfl rfl rfl (ok_X8_number d (by omega) v6 (2 : Int32) (8 : Int32)) (fun z7 => ?_)
          refine sIast rfl rfl (fun h8 => ?_)
          refine sS rfl rfl ?_
          refine sS rfl rfl ?_
          refine sS rfl rfl ?_
          refine sS rfl rfl ?_
          refine sS rfl rfl ?_
          refine sS rfl rfl ?_
          refine sC1 (c' := 0) rfl rfl rfl rfl rfl rfl (ok_X8_number d (by omega) h8 (1 : Int32) (999 : Int32)) (fun z9 => ?_)
          refine sIast rfl rfl (fun h10 => ?_)
          refine sS rfl rfl ?_
          refine sS rfl rfl ?_
          refine sC0 (c' := 0) rfl rfl rfl rfl rfl rfl (ok_X8_expect d (by omega) h10 (59 : Int32)) (fun h11 => ?_)
          refine sL (pc := 141) (lv := fun (s12 : PH) => [some (.ref 122), none, none]) (h := fun (s12 : PH) => s12) (fun s12 => ?_) (h11)
          refine sS rfl rfl ?_
          refine sT1 (c' := 0) rfl rfl rfl rfl rfl rfl (ok_X8_isGood d (by omega) s12) ?_
          refine sJn 163 (fun (v14 : PH) => [some (.ref 122), none, none]) (fun (v14 : PH) => []) (fun (v14 : PH) => v14) (fun v14 => ?_) (fun k13 hk13 => ?_)
          · refine sS rfl rfl ?_
            refine sS rfl rfl ?_
            refine sS rfl rfl ?_
            refine sS rfl rfl ?_
            refine sS rfl rfl ?_
            refine sT1 (c' := 0) rfl rfl rfl rfl rfl rfl (ok_X8_isGood d (by omega) (pu v14 122 7 (v14.1 122 6))) ?_
            refine sB rfl rfl ?_ ?_
            · refine sS rfl rfl ?_
              refine sC0 (c' := 0) rfl rfl rfl rfl rfl rfl (ok_X8_remember d (by omega) (pu v14 122 7 (v14.1 122 6))) (fun h15 => ?_)
              refine sS rfl rfl ?_
              refine sS rfl rfl ?_
              refine sS rfl rfl ?_
              refine sS rfl rfl ?_
              refine sC0 (c' := 0) rfl rfl rfl rfl rfl rfl (ok_X8_copy d (by omega) h15 125 rfl 124 rfl) (fun h16 => ?_)
              refine sS rfl rfl ?_
              refine sC0 (c' := 0) rfl rfl rfl rfl rfl rfl (ok_X8_layGaps d (by omega) h16) (fun h17 => ?_)
              refine sS rfl rfl ?_
              refine sS rfl rfl ?_
              refine sS rfl rfl ?_
              refine sIald rfl rfl (fun z18 => ?_)
              exact sR rfl rfl (fun hg => by cases hg; exact ⟨rfl, rfl⟩)
            · refine sS rfl rfl ?_
              refine sS rfl rfl ?_
              exact sR rfl rfl (fun hg => by cases hg; exact ⟨rfl, rfl⟩)
          · refine sB rfl rfl ?_ ?_
            · have h3 := hk13 (s12)
              try dsimp only at h3
              exact h3
            · refine sS rfl rfl ?_
              refine sC1 (c' := 0) rfl rfl rfl rfl rfl rfl (ok_X8_next d (by omega) s12) (fun z19 => ?_)
              refine sS rfl rfl ?_
              refine sB rfl rfl ?_ ?_
              · have h3 := hk13 (z19.2)
                try dsimp only at h3
                exact h3
              · refine sS rfl rfl ?_
                refine sC0 (c' := 0) rfl rfl rfl rfl rfl rfl (ok_X8_statement d (by omega) z19.2) (fun h20 => ?_)
                refine sS rfl rfl ?_
                exact sJ (fun h2 => by (try dsimp only at h2); exact h2)
        · refine sB rfl rfl ?_ ?_
          · refine sM [true, true, false] rfl ?_
            have h3 := hk5 (z4.2)
            try dsimp only at h3
            exact h3
          · refine sS rfl rfl ?_
            refine sS rfl rfl ?_
            refine sS rfl rfl ?_
            refine sS rfl rfl ?_
            refine sT0 (c' := 0) rfl rfl rfl rfl rfl rfl (ok_X8_report d (by omega) z4.2 (-2 : Int32) (z4.2.1 122 4)) ?_
            refine sM [true, true, false] rfl ?_
            have h3 := hk5 ((F_X8_report z4.2 (-2 : Int32) (z4.2.1 122 4)))
            try dsimp only at h3
            exact h3
      · refine sS rfl rfl ?_
        refine sS rfl rfl ?_
        refine sS rfl rfl ?_
        refine sS rfl rfl ?_
        refine sIast rfl rfl (fun h21 => ?_)
        refine sS rfl rfl ?_
        refine sS rfl rfl ?_
        exact sJ (fun h2 => by (try dsimp only at h2); exact h2)
    · refine sS rfl rfl ?_
      exact sR rfl rfl (fun hg => by cases hg; exact ⟨rfl, rfl⟩)
  · refine sB rfl rfl ?_ ?_
    · refine sS rfl rfl ?_
      have h3 := hk1 ((0 : Int32))
      try dsimp only at h3
      exact h3
    · refine sS rfl rfl ?_
      refine sS rfl rfl ?_
      have h3 := hk1 ((1 : Int32))
      try dsimp only at h3
      exact h3
noncomputable def F_X8_errorOffset (h : PH) : Int32 × PH :=
 (((pu h 122 0 (0 : Int32)).1 122 7), (pu h 122 0 (0 : Int32)))
set_option maxHeartbeats 4000000 in
set_option maxRecDepth 100000 in
theorem ok_X8_errorOffset (d : Nat) (hd : 1 ≤ d) (h : PH) : Ex d 137 [.ref 122] h (.inl (some (.int (F_X8_errorOffset h).1))) ((F_X8_errorOffset h).2) := by
  obtain ⟨d, rfl⟩ : ∃ e, d = e + 1 := ⟨d - 1, by omega⟩
  suffices key : ∀ z, F_X8_errorOffset h = z → Ex (d + 1) 137 [.ref 122] h (.inl (some (.int z.1))) (z.2) from key _ rfl
  intro z hz
  refine ⟨rfl, ?_⟩
  refine (?_ : Sim (Ex d) mi_X8_errorOffset (fun o1 h1 => o1 = _ ∧ h1 = _) (some (F_X8_errorOffset h)) (fun t => t = z) 0 [some (.ref 122)] [] h 0) z (by rw [hz]) rfl
  clear hz
  unfold F_X8_errorOffset
  refine sS rfl rfl ?_
  refine sS rfl rfl ?_
  refine sS rfl rfl ?_
  refine sS rfl rfl ?_
  refine sS rfl rfl ?_
  exact sR rfl rfl (fun hg => by cases hg; exact ⟨rfl, rfl⟩)
noncomputable def F_X8_approach (h : PH) (p0 : Int32) (p1 : Int32) : Option (Int32) :=
 (F_X8_tail h p1).bind fun z1 =>
 if ¬ z1 = p0 then
  loop (fun (s2 : Int32 × Int32) =>
   (F_X8_arcs h).bind fun z3 =>
   if z3 ≤ s2.2 then
    some (.inr (s2.1))
   else
    (F_X8_tail h s2.2).bind fun z4 =>
    if ¬ z4 = p0 then
     some (.inl (s2.1, (s2.2 + (1 : Int32))))
    else
     (F_X8_costOf h s2.2).bind fun z5 =>
     (aidx 28 s2.2).bind fun j6 =>
     (ald 28 h (137 + 1 * j6) p1).bind fun z7 =>
     some (.inl ((F_X8_min h s2.1 (z5 + z7)), (s2.2 + (1 : Int32))))) ((1000000 : Int32), (0 : Int32))
 else
  some ((0 : Int32))
set_option maxHeartbeats 4000000 in
set_option maxRecDepth 100000 in
theorem ok_X8_approach (d : Nat) (hd : 3 ≤ d) (h : PH) (p0 : Int32) (p1 : Int32) : ∀ z, F_X8_approach h p0 p1 = some z → Ex d 144 [.ref 122, .int p0, .int p1] h (.inl (some (.int z))) (h) := by
  obtain ⟨d, rfl⟩ : ∃ e, d = e + 1 := ⟨d - 1, by omega⟩
  intro z hz
  refine ⟨rfl, ?_⟩
  refine (?_ : Sim (Ex d) mi_X8_approach (fun o1 h1 => o1 = _ ∧ h1 = _) (F_X8_approach h p0 p1) (fun t => t = z) 0 [some (.ref 122), some (.int p0), some (.int p1), none, none] [] h 0) z hz rfl
  unfold F_X8_approach
  refine sS rfl rfl ?_
  refine sS rfl rfl ?_
  refine sC1 (c' := 0) rfl rfl rfl rfl rfl rfl (ok_X8_tail d (by omega) h p1) (fun z1 => ?_)
  refine sS rfl rfl ?_
  refine sB rfl rfl ?_ ?_
  · refine sS rfl rfl ?_
    refine sS rfl rfl ?_
    refine sS rfl rfl ?_
    refine sS rfl rfl ?_
    refine sL (pc := 17) (lv := fun (s2 : Int32 × Int32) => [some (.ref 122), some (.int p0), some (.int p1), some (.int (s2.1)), some (.int (s2.2))]) (h := fun (s2 : Int32 × Int32) => h) (fun s2 => ?_) ((1000000 : Int32), (0 : Int32))
    refine sS rfl rfl ?_
    refine sS rfl rfl ?_
    refine sC1 (c' := 0) rfl rfl rfl rfl rfl rfl (ok_X8_arcs d (by omega) h) (fun z3 => ?_)
    refine sB rfl rfl ?_ ?_
    · refine sS rfl rfl ?_
      exact sR rfl rfl (fun hg => by cases hg; exact ⟨rfl, rfl⟩)
    · refine sS rfl rfl ?_
      refine sS rfl rfl ?_
      refine sC1 (c' := 0) rfl rfl rfl rfl rfl rfl (ok_X8_tail d (by omega) h s2.2) (fun z4 => ?_)
      refine sS rfl rfl ?_
      refine sB rfl rfl ?_ ?_
      · refine sS rfl rfl ?_
        refine sS rfl rfl ?_
        exact sJ (fun h2 => by (try dsimp only at h2); exact h2)
      · refine sS rfl rfl ?_
        refine sS rfl rfl ?_
        refine sS rfl rfl ?_
        refine sC1 (c' := 0) rfl rfl rfl rfl rfl rfl (ok_X8_costOf d (by omega) h s2.2) (fun z5 => ?_)
        refine sS rfl rfl ?_
        refine sS rfl rfl ?_
        refine sS rfl rfl ?_
        refine sRald6 rfl rfl (fun j6 hj6 => ?_)
        refine sS rfl rfl ?_
        refine sIald rfl (isGap_h hj6) (fun z7 => ?_)
        refine sS rfl rfl ?_
        refine sT1 (c' := 0) rfl rfl rfl rfl rfl rfl (ok_X8_min d (by omega) h s2.1 (z5 + z7)) ?_
        refine sS rfl rfl ?_
        refine sS rfl rfl ?_
        refine sS rfl rfl ?_
        exact sJ (fun h2 => by (try dsimp only at h2); exact h2)
  · refine sS rfl rfl ?_
    exact sR rfl rfl (fun hg => by cases hg; exact ⟨rfl, rfl⟩)
noncomputable def F_X8_comeBack (h : PH) (p0 : Int32) (p1 : Int32) : Option (Int32) :=
 (F_X8_head h p0).bind fun z1 =>
 if ¬ z1 = p1 then
  loop (fun (s2 : Int32 × Int32) =>
   (F_X8_arcs h).bind fun z3 =>
   if z3 ≤ s2.2 then
    some (.inr (s2.1))
   else
    (F_X8_head h s2.2).bind fun z4 =>
    if ¬ z4 = p1 then
     some (.inl (s2.1, (s2.2 + (1 : Int32))))
    else
     (aidx 28 p0).bind fun j5 =>
     (ald 28 h (137 + 1 * j5) s2.2).bind fun z6 =>
     (F_X8_costOf h s2.2).bind fun z7 =>
     some (.inl ((F_X8_min h s2.1 (z6 + z7)), (s2.2 + (1 : Int32))))) ((1000000 : Int32), (0 : Int32))
 else
  some ((0 : Int32))
set_option maxHeartbeats 4000000 in
set_option maxRecDepth 100000 in
theorem ok_X8_comeBack (d : Nat) (hd : 3 ≤ d) (h : PH) (p0 : Int32) (p1 : Int32) : ∀ z, F_X8_comeBack h p0 p1 = some z → Ex d 145 [.ref 122, .int p0, .int p1] h (.inl (some (.int z))) (h) := by
  obtain ⟨d, rfl⟩ : ∃ e, d = e + 1 := ⟨d - 1, by omega⟩
  intro z hz
  refine ⟨rfl, ?_⟩
  refine (?_ : Sim (Ex d) mi_X8_comeBack (fun o1 h1 => o1 = _ ∧ h1 = _) (F_X8_comeBack h p0 p1) (fun t => t = z) 0 [some (.ref 122), some (.int p0), some (.int p1), none, none] [] h 0) z hz rfl
  unfold F_X8_comeBack
  refine sS rfl rfl ?_
  refine sS rfl rfl ?_
  refine sC1 (c' := 0) rfl rfl rfl rfl rfl rfl (ok_X8_head d (by omega) h p0) (fun z1 => ?_)
  refine sS rfl rfl ?_
  refine sB rfl rfl ?_ ?_
  · refine sS rfl rfl ?_
    refine sS rfl rfl ?_
    refine sS rfl rfl ?_
    refine sS rfl rfl ?_
    refine sL (pc := 17) (lv := fun (s2 : Int32 × Int32) => [some (.ref 122), some (.int p0), some (.int p1), some (.int (s2.1)), some (.int (s2.2))]) (h := fun (s2 : Int32 × Int32) => h) (fun s2 => ?_) ((1000000 : Int32), (0 : Int32))
    refine sS rfl rfl ?_
    refine sS rfl rfl ?_
    refine sC1 (c' := 0) rfl rfl rfl rfl rfl rfl (ok_X8_arcs d (by omega) h) (fun z3 => ?_)
    refine sB rfl rfl ?_ ?_
    · refine sS rfl rfl ?_
      exact sR rfl rfl (fun hg => by cases hg; exact ⟨rfl, rfl⟩)
    · refine sS rfl rfl ?_
      refine sS rfl rfl ?_
      refine sC1 (c' := 0) rfl rfl rfl rfl rfl rfl (ok_X8_head d (by omega) h s2.2) (fun z4 => ?_)
      refine sS rfl rfl ?_
      refine sB rfl rfl ?_ ?_
      · refine sS rfl rfl ?_
        refine sS rfl rfl ?_
        exact sJ (fun h2 => by (try dsimp only at h2); exact h2)
      · refine sS rfl rfl ?_
        refine sS rfl rfl ?_
        refine sS rfl rfl ?_
        refine sS rfl rfl ?_
        refine sRald6 rfl rfl (fun j5 hj5 => ?_)
        refine sS rfl rfl ?_
        refine sIald rfl (isGap_h hj5) (fun z6 => ?_)
        refine sS rfl rfl ?_
        refine sS rfl rfl ?_
        refine sC1 (c' := 0) rfl rfl rfl rfl rfl rfl (ok_X8_costOf d (by omega) h s2.2) (fun z7 => ?_)
        refine sS rfl rfl ?_
        refine sT1 (c' := 0) rfl rfl rfl rfl rfl rfl (ok_X8_min d (by omega) h s2.1 (z6 + z7)) ?_
        refine sS rfl rfl ?_
        refine sS rfl rfl ?_
        refine sS rfl rfl ?_
        exact sJ (fun h2 => by (try dsimp only at h2); exact h2)
  · refine sS rfl rfl ?_
    exact sR rfl rfl (fun hg => by cases hg; exact ⟨rfl, rfl⟩)
noncomputable def F_X8_distanceOf (h : PH) (p0 : Int32) (p1 : Int32) : Option (Int32) :=
 if ¬ p0 = p1 then
  loop (fun (s1 : Int32 × Int32) =>
   (F_X8_arcs h).bind fun z2 =>
   if z2 ≤ s1.2 then
    some (.inr (s1.1))
   else
    (F_X8_tail h s1.2).bind fun z3 =>
    if ¬ z3 = p0 then
     some (.inl (s1.1, (s1.2 + (1 : Int32))))
    else
     (F_X8_costOf h s1.2).bind fun z4 =>
     (F_X8_comeBack h s1.2 p1).bind fun z5 =>
     some (.inl ((F_X8_min h s1.1 (z4 + z5)), (s1.2 + (1 : Int32))))) ((1000000 : Int32), (0 : Int32))
 else
  some ((0 : Int32))
set_option maxHeartbeats 4000000 in
set_option maxRecDepth 100000 in
theorem ok_X8_distanceOf (d : Nat) (hd : 4 ≤ d) (h : PH) (p0 : Int32) (p1 : Int32) : ∀ z, F_X8_distanceOf h p0 p1 = some z → Ex d 146 [.ref 122, .int p0, .int p1] h (.inl (some (.int z))) (h) := by
  obtain ⟨d, rfl⟩ : ∃ e, d = e + 1 := ⟨d - 1, by omega⟩
  intro z hz
  refine ⟨rfl, ?_⟩
  refine (?_ : Sim (Ex d) mi_X8_distanceOf (fun o1 h1 => o1 = _ ∧ h1 = _) (F_X8_distanceOf h p0 p1) (fun t => t = z) 0 [some (.ref 122), some (.int p0), some (.int p1), none, none] [] h 0) z hz rfl
  unfold F_X8_distanceOf
  refine sS rfl rfl ?_
  refine sS rfl rfl ?_
  refine sB rfl rfl ?_ ?_
  · refine sS rfl rfl ?_
    refine sS rfl rfl ?_
    refine sS rfl rfl ?_
    refine sS rfl rfl ?_
    refine sL (pc := 13) (lv := fun (s1 : Int32 × Int32) => [some (.ref 122), some (.int p0), some (.int p1), some (.int (s1.1)), some (.int (s1.2))]) (h := fun (s1 : Int32 × Int32) => h) (fun s1 => ?_) ((1000000 : Int32), (0 : Int32))
    refine sS rfl rfl ?_
    refine sS rfl rfl ?_
    refine sC1 (c' := 0) rfl rfl rfl rfl rfl rfl (ok_X8_arcs d (by omega) h) (fun z2 => ?_)
    refine sB rfl rfl ?_ ?_
    · refine sS rfl rfl ?_
      exact sR rfl rfl (fun hg => by cases hg; exact ⟨rfl, rfl⟩)
    · refine sS rfl rfl ?_
      refine sS rfl rfl ?_
      refine sC1 (c' := 0) rfl rfl rfl rfl rfl rfl (ok_X8_tail d (by omega) h s1.2) (fun z3 => ?_)
      refine sS rfl rfl ?_
      refine sB rfl rfl ?_ ?_
      · refine sS rfl rfl ?_
        refine sS rfl rfl ?_
        exact sJ (fun h2 => by (try dsimp only at h2); exact h2)
      · refine sS rfl rfl ?_
        refine sS rfl rfl ?_
        refine sS rfl rfl ?_
        refine sC1 (c' := 0) rfl rfl rfl rfl rfl rfl (ok_X8_costOf d (by omega) h s1.2) (fun z4 => ?_)
        refine sS rfl rfl ?_
        refine sS rfl rfl ?_
        refine sS rfl rfl ?_
        refine sC1 (c' := 0) rfl rfl rfl rfl rfl rfl (ok_X8_comeBack d (by omega) h s1.2 p1) (fun z5 => ?_)
        refine sS rfl rfl ?_
        refine sT1 (c' := 0) rfl rfl rfl rfl rfl rfl (ok_X8_min d (by omega) h s1.1 (z4 + z5)) ?_
        refine sS rfl rfl ?_
        refine sS rfl rfl ?_
        refine sS rfl rfl ?_
        exact sJ (fun h2 => by (try dsimp only at h2); exact h2)
  · refine sS rfl rfl ?_
    exact sR rfl rfl (fun hg => by cases hg; exact ⟨rfl, rfl⟩)
noncomputable def F_X8_limited (h : PH) (p0 : Int64) : Int64 :=
 if (lg_cmp p0 (1000000 : Int64)) ≤ 0 then
  if 0 ≤ (lg_cmp p0 (-1000000 : Int64)) then
   p0
  else
   (-1000000 : Int64)
 else
  (1000000 : Int64)
set_option maxHeartbeats 4000000 in
set_option maxRecDepth 100000 in
theorem ok_X8_limited (d : Nat) (hd : 1 ≤ d) (h : PH) (p0 : Int64) : Ex d 147 [.long p0] h (.inl (some (.long (F_X8_limited h p0)))) (h) := by
  obtain ⟨d, rfl⟩ : ∃ e, d = e + 1 := ⟨d - 1, by omega⟩
  suffices key : ∀ z, F_X8_limited h p0 = z → Ex (d + 1) 147 [.long p0] h (.inl (some (.long z))) (h) from key _ rfl
  intro z hz
  refine ⟨rfl, ?_⟩
  refine (?_ : Sim (Ex d) mi_X8_limited (fun o1 h1 => o1 = _ ∧ h1 = _) (some (F_X8_limited h p0)) (fun t => t = z) 0 [some (.long p0), none] [] h 0) z (by rw [hz]) rfl
  clear hz
  unfold F_X8_limited
  refine sS rfl rfl ?_
  refine sS rfl rfl ?_
  refine sS rfl rfl ?_
  refine sBt rfl rfl ?_ ?_
  · refine sS rfl rfl ?_
    refine sS rfl rfl ?_
    refine sS rfl rfl ?_
    refine sBt rfl rfl ?_ ?_
    · refine sS rfl rfl ?_
      exact sR rfl rfl (fun hg => by cases hg; exact ⟨rfl, rfl⟩)
    · refine sS rfl rfl ?_
      refine sS rfl rfl ?_
      exact sR rfl rfl (fun hg => by cases hg; exact ⟨rfl, rfl⟩)
  · refine sS rfl rfl ?_
    refine sS rfl rfl ?_
    exact sR rfl rfl (fun hg => by cases hg; exact ⟨rfl, rfl⟩)
noncomputable def F_X8_operate (h : PH) (p0 : Int32) (p1 : Int64) (p2 : Int64) : Option (Int64) :=
 if ¬ p0 = (5 : Int32) then
  if ¬ p0 = (2 : Int32) then
   if ¬ p0 = (3 : Int32) then
    some ((F_X8_limited h (p1 * p2)))
   else
    some ((F_X8_limited h (p1 - p2)))
  else
   some ((F_X8_limited h (p1 + p2)))
 else
  if ¬ (lg_cmp p2 (0 : Int64)) = 0 then
   (dvl p1 p2).bind fun z1 =>
   some (z1)
  else
   some ((0 : Int64))
set_option maxHeartbeats 4000000 in
set_option maxRecDepth 100000 in
theorem ok_X8_operate (d : Nat) (hd : 2 ≤ d) (h : PH) (p0 : Int32) (p1 : Int64) (p2 : Int64) : ∀ z, F_X8_operate h p0 p1 p2 = some z → Ex d 148 [.int p0, .long p1, .long p2] h (.inl (some (.long z))) (h) := by
  obtain ⟨d, rfl⟩ : ∃ e, d = e + 1 := ⟨d - 1, by omega⟩
  intro z hz
  refine ⟨rfl, ?_⟩
  refine (?_ : Sim (Ex d) mi_X8_operate (fun o1 h1 => o1 = _ ∧ h1 = _) (F_X8_operate h p0 p1 p2) (fun t => t = z) 0 [some (.int p0), some (.long p1), none, some (.long p2), none] [] h 0) z hz rfl
  unfold F_X8_operate
  refine sS rfl rfl ?_
  refine sS rfl rfl ?_
  refine sB rfl rfl ?_ ?_
  · refine sS rfl rfl ?_
    refine sS rfl rfl ?_
    refine sB rfl rfl ?_ ?_
    · refine sS rfl rfl ?_
      refine sS rfl rfl ?_
      refine sB rfl rfl ?_ ?_
      · refine sS rfl rfl ?_
        refine sS rfl rfl ?_
        refine sS rfl rfl ?_
        refine sT1 (c' := 0) rfl rfl rfl rfl rfl rfl (ok_X8_limited d (by omega) h (p1 * p2)) ?_
        exact sR rfl rfl (fun hg => by cases hg; exact ⟨rfl, rfl⟩)
      · refine sS rfl rfl ?_
        refine sS rfl rfl ?_
        refine sS rfl rfl ?_
        refine sS rfl rfl ?_
        refine sT1 (c' := 0) rfl rfl rfl rfl rfl rfl (ok_X8_limited d (by omega) h (p1 - p2)) ?_
        exact sR rfl rfl (fun hg => by cases hg; exact ⟨rfl, rfl⟩)
    · refine sS rfl rfl ?_
      refine sS rfl rfl ?_
      refine sS rfl rfl ?_
      refine sS rfl rfl ?_
      refine sT1 (c' := 0) rfl rfl rfl rfl rfl rfl (ok_X8_limited d (by omega) h (p1 + p2)) ?_
      exact sR rfl rfl (fun hg => by cases hg; exact ⟨rfl, rfl⟩)
  · refine sS rfl rfl ?_
    refine sS rfl rfl ?_
    refine sS rfl rfl ?_
    refine sB rfl rfl ?_ ?_
    · refine sS rfl rfl ?_
      refine sS rfl rfl ?_
      refine sLdiv rfl (fun z1 => ?_)
      exact sR rfl rfl (fun hg => by cases hg; exact ⟨rfl, rfl⟩)
    · refine sS rfl rfl ?_
      refine sS rfl rfl ?_
      exact sR rfl rfl (fun hg => by cases hg; exact ⟨rfl, rfl⟩)
noncomputable def F_X8_serviceOf (h : PH) (p0 : Int32) : Option (Int32 × PH) :=
 (ald 1556 h 124 ((F_X8_edge h (p0 / (2 : Int32))) + (4 : Int32))).bind fun z1 =>
 (ald 1556 h 124 (5 : Int32)).bind fun z2 =>
 if ¬ z2 = 0 then
  loop (fun (s3 : Int32 × Int32 × PH) =>
   (ald 1556 s3.2.2 124 (6 : Int32)).bind fun z4 =>
   if z4 ≤ s3.2.1 then
    (ldl 1300 s3.2.2 165 (0 : Int32)).bind fun z5 =>
    if 0 ≤ (lg_cmp z5 (0 : Int64)) then
     (ldl 1300 s3.2.2 165 (0 : Int32)).bind fun z6 =>
     if (lg_cmp z6 (9999 : Int64)) ≤ 0 then
      (ldl 1300 s3.2.2 165 (0 : Int32)).bind fun z7 =>
      some (.inr ((z7.toInt32, s3.2.2)))
     else
      some (.inr (((9999 : Int32), s3.2.2)))
    else
     some (.inr (((0 : Int32), s3.2.2)))
   else
    (ald 1556 s3.2.2 124 ((256 : Int32) + s3.2.1)).bind fun z8 =>
    if (1 : Int32) < z8 then
     (ldl 1300 s3.2.2 165 ((s3.1 + (-1 : Int32)) - (1 : Int32))).bind fun z9 =>
     (ldl 1300 s3.2.2 165 (s3.1 + (-1 : Int32))).bind fun z10 =>
     (F_X8_operate s3.2.2 z8 z9 z10).bind fun z11 =>
     (asl 1300 s3.2.2 165 ((s3.1 + (-1 : Int32)) - (1 : Int32)) z11).bind fun h12 =>
     some (.inl ((s3.1 + (-1 : Int32)), (s3.2.1 + (1 : Int32)), h12))
    else
     (ald 1556 s3.2.2 124 ((256 : Int32) + (s3.2.1 + (1 : Int32)))).bind fun z13 =>
     if ¬ z8 = 0 then
      if ¬ z13 = 0 then
       (asl 1300 s3.2.2 165 s3.1 z1.toInt64).bind fun h14 =>
       some (.inl ((s3.1 + (1 : Int32)), ((s3.2.1 + (1 : Int32)) + (1 : Int32)), h14))
      else
       (F_X8_costOf s3.2.2 p0).bind fun z15 =>
       (asl 1300 s3.2.2 165 s3.1 z15.toInt64).bind fun h16 =>
       some (.inl ((s3.1 + (1 : Int32)), ((s3.2.1 + (1 : Int32)) + (1 : Int32)), h16))
     else
      (asl 1300 s3.2.2 165 s3.1 z13.toInt64).bind fun h17 =>
      some (.inl ((s3.1 + (1 : Int32)), ((s3.2.1 + (1 : Int32)) + (1 : Int32)), h17))) ((0 : Int32), (0 : Int32), h)
 else
  (F_X8_costOf h p0).bind fun z18 =>
  some ((z18, h))
set_option maxHeartbeats 4000000 in
set_option maxRecDepth 100000 in
theorem ok_X8_serviceOf (d : Nat) (hd : 3 ≤ d) (h : PH) (p0 : Int32) : ∀ z, F_X8_serviceOf h p0 = some z → Ex d 149 [.ref 122, .int p0] h (.inl (some (.int z.1))) (z.2) := by
  obtain ⟨d, rfl⟩ : ∃ e, d = e + 1 := ⟨d - 1, by omega⟩
  intro z hz
  refine ⟨rfl, ?_⟩
  refine (?_ : Sim (Ex d) mi_X8_serviceOf (fun o1 h1 => o1 = _ ∧ h1 = _) (F_X8_serviceOf h p0) (fun t => t = z) 0 [some (.ref 122), some (.int p0), none, none, none, none, none] [] h 0) z hz rfl
  unfold F_X8_serviceOf
  refine sS rfl rfl ?_
  refine sS rfl rfl ?_
  refine sS rfl rfl ?_
  refine sS rfl rfl ?_
  refine sS rfl rfl ?_
  refine sT1 (c' := 0) rfl rfl rfl rfl rfl rfl (ok_X8_edge d (by omega) h (p0 / (2 : Int32))) ?_
  refine sS rfl rfl ?_
  refine sS rfl rfl ?_
  refine sIald rfl rfl (fun z1 => ?_)
  refine sS rfl rfl ?_
  refine sS rfl rfl ?_
  refine sS rfl rfl ?_
  refine sS rfl rfl ?_
  refine sS rfl rfl ?_
  refine sS rfl rfl ?_
  refine sIald rfl rfl (fun z2 => ?_)
  refine sB rfl rfl ?_ ?_
  · refine sS rfl rfl ?_
    refine sS rfl rfl ?_
    refine sL (pc := 34) (lv := fun (s3 : Int32 × Int32 × PH) => [some (.ref 122), some (.int p0), some (.int z1), some (.int (s3.1)), some (.int (s3.2.1)), none, none]) (h := fun (s3 : Int32 × Int32 × PH) => s3.2.2) (fun s3 => ?_) ((0 : Int32), (0 : Int32), h)
    refine sS rfl rfl ?_
    refine sS rfl rfl ?_
    refine sS rfl rfl ?_
    refine sS rfl rfl ?_
    refine sIald rfl rfl (fun z4 => ?_)
    refine sB rfl rfl ?_ ?_
    · refine sS rfl rfl ?_
      refine sS rfl rfl ?_
      refine sS rfl rfl ?_
      refine sLald rfl rfl (fun z5 => ?_)
      refine sS rfl rfl ?_
      refine sS rfl rfl ?_
      refine sB rfl rfl ?_ ?_
      · refine sS rfl rfl ?_
        refine sS rfl rfl ?_
        refine sS rfl rfl ?_
        refine sLald rfl rfl (fun z6 => ?_)
        refine sS rfl rfl ?_
        refine sS rfl rfl ?_
        refine sB rfl rfl ?_ ?_
        · refine sS rfl rfl ?_
          refine sS rfl rfl ?_
          refine sS rfl rfl ?_
          refine sLald rfl rfl (fun z7 => ?_)
          refine sS rfl rfl ?_
          exact sR rfl rfl (fun hg => by cases hg; exact ⟨rfl, rfl⟩)
        · refine sS rfl rfl ?_
          refine sS rfl rfl ?_
          exact sR rfl rfl (fun hg => by cases hg; exact ⟨rfl, rfl⟩)
      · refine sS rfl rfl ?_
        refine sS rfl rfl ?_
        exact sR rfl rfl (fun hg => by cases hg; exact ⟨rfl, rfl⟩)
    · refine sS rfl rfl ?_
      refine sS rfl rfl ?_
      refine sS rfl rfl ?_
      refine sS rfl rfl ?_
      refine sS rfl rfl ?_
      refine sIald rfl rfl (fun z8 => ?_)
      refine sS rfl rfl ?_
      refine sS rfl rfl ?_
      refine sS rfl rfl ?_
      refine sB rfl rfl ?_ ?_
      · refine sS rfl rfl ?_
        refine sS rfl rfl ?_
        refine sS rfl rfl ?_
        refine sS rfl rfl ?_
        refine sS rfl rfl ?_
        refine sS rfl rfl ?_
        refine sS rfl rfl ?_
        refine sS rfl rfl ?_
        refine sS rfl rfl ?_
        refine sS rfl rfl ?_
        refine sS rfl rfl ?_
        refine sS rfl rfl ?_
        refine sLald rfl rfl (fun z9 => ?_)
        refine sS rfl rfl ?_
        refine sS rfl rfl ?_
        refine sS rfl rfl ?_
        refine sLald rfl rfl (fun z10 => ?_)
        refine sC1 (c' := 0) rfl rfl rfl rfl rfl rfl (ok_X8_operate d (by omega) s3.2.2 z8 z9 z10) (fun z11 => ?_)
        refine sLast rfl rfl (fun h12 => ?_)
        refine sS rfl rfl ?_
        refine sS rfl rfl ?_
        refine sM [true, true, true, true, true, false, true] rfl ?_
        exact sJ (fun h2 => by (try dsimp only at h2); exact h2)
      · refine sS rfl rfl ?_
        refine sS rfl rfl ?_
        refine sS rfl rfl ?_
        refine sS rfl rfl ?_
        refine sS rfl rfl ?_
        refine sS rfl rfl ?_
        refine sIald rfl rfl (fun z13 => ?_)
        refine sS rfl rfl ?_
        refine sS rfl rfl ?_
        refine sS rfl rfl ?_
        refine sS rfl rfl ?_
        refine sS rfl rfl ?_
        refine sB rfl rfl ?_ ?_
        · refine sS rfl rfl ?_
          refine sB rfl rfl ?_ ?_
          · refine sS rfl rfl ?_
            refine sS rfl rfl ?_
            refine sLast rfl rfl (fun h14 => ?_)
            refine sS rfl rfl ?_
            refine sS rfl rfl ?_
            refine sS rfl rfl ?_
            refine sS rfl rfl ?_
            refine sM [true, true, true, true, true, false, false] rfl ?_
            exact sJ (fun h2 => by (try dsimp only at h2); exact h2)
          · refine sS rfl rfl ?_
            refine sS rfl rfl ?_
            refine sC1 (c' := 0) rfl rfl rfl rfl rfl rfl (ok_X8_costOf d (by omega) s3.2.2 p0) (fun z15 => ?_)
            refine sS rfl rfl ?_
            refine sS rfl rfl ?_
            refine sLast rfl rfl (fun h16 => ?_)
            refine sS rfl rfl ?_
            refine sS rfl rfl ?_
            refine sS rfl rfl ?_
            refine sS rfl rfl ?_
            refine sM [true, true, true, true, true, false, false] rfl ?_
            exact sJ (fun h2 => by (try dsimp only at h2); exact h2)
        · refine sS rfl rfl ?_
          refine sS rfl rfl ?_
          refine sS rfl rfl ?_
          refine sLast rfl rfl (fun h17 => ?_)
          refine sS rfl rfl ?_
          refine sS rfl rfl ?_
          refine sS rfl rfl ?_
          refine sS rfl rfl ?_
          refine sM [true, true, true, true, true, false, false] rfl ?_
          exact sJ (fun h2 => by (try dsimp only at h2); exact h2)
  · refine sS rfl rfl ?_
    refine sS rfl rfl ?_
    refine sC1 (c' := 0) rfl rfl rfl rfl rfl rfl (ok_X8_costOf d (by omega) h p0) (fun z18 => ?_)
    exact sR rfl rfl (fun hg => by cases hg; exact ⟨rfl, rfl⟩)
noncomputable def F_X8_lengthOf (h : PH) (p0 : Int32) : Option (Int32) :=
 (ald 1556 h 124 ((F_X8_tour h p0) + (1 : Int32))).bind fun z1 =>
 some (z1)
set_option maxHeartbeats 4000000 in
set_option maxRecDepth 100000 in
theorem ok_X8_lengthOf (d : Nat) (hd : 2 ≤ d) (h : PH) (p0 : Int32) : ∀ z, F_X8_lengthOf h p0 = some z → Ex d 150 [.ref 122, .int p0] h (.inl (some (.int z))) (h) := by
  obtain ⟨d, rfl⟩ : ∃ e, d = e + 1 := ⟨d - 1, by omega⟩
  intro z hz
  refine ⟨rfl, ?_⟩
  refine (?_ : Sim (Ex d) mi_X8_lengthOf (fun o1 h1 => o1 = _ ∧ h1 = _) (F_X8_lengthOf h p0) (fun t => t = z) 0 [some (.ref 122), some (.int p0)] [] h 0) z hz rfl
  unfold F_X8_lengthOf
  refine sS rfl rfl ?_
  refine sS rfl rfl ?_
  refine sS rfl rfl ?_
  refine sT1 (c' := 0) rfl rfl rfl rfl rfl rfl (ok_X8_tour d (by omega) h p0) ?_
  refine sS rfl rfl ?_
  refine sS rfl rfl ?_
  refine sIald rfl rfl (fun z1 => ?_)
  exact sR rfl rfl (fun hg => by cases hg; exact ⟨rfl, rfl⟩)
noncomputable def F_X8_arcOf (h : PH) (p0 : Int32) (p1 : Int32) : Option (Int32) :=
 (ald 1556 h 124 (((F_X8_tour h p0) + (2 : Int32)) + p1)).bind fun z1 =>
 some (z1)
set_option maxHeartbeats 4000000 in
set_option maxRecDepth 100000 in
theorem ok_X8_arcOf (d : Nat) (hd : 2 ≤ d) (h : PH) (p0 : Int32) (p1 : Int32) : ∀ z, F_X8_arcOf h p0 p1 = some z → Ex d 151 [.ref 122, .int p0, .int p1] h (.inl (some (.int z))) (h) := by
  obtain ⟨d, rfl⟩ : ∃ e, d = e + 1 := ⟨d - 1, by omega⟩
  intro z hz
  refine ⟨rfl, ?_⟩
  refine (?_ : Sim (Ex d) mi_X8_arcOf (fun o1 h1 => o1 = _ ∧ h1 = _) (F_X8_arcOf h p0 p1) (fun t => t = z) 0 [some (.ref 122), some (.int p0), some (.int p1)] [] h 0) z hz rfl
  unfold F_X8_arcOf
  refine sS rfl rfl ?_
  refine sS rfl rfl ?_
  refine sS rfl rfl ?_
  refine sT1 (c' := 0) rfl rfl rfl rfl rfl rfl (ok_X8_tour d (by omega) h p0) ?_
  refine sS rfl rfl ?_
  refine sS rfl rfl ?_
  refine sS rfl rfl ?_
  refine sS rfl rfl ?_
  refine sIald rfl rfl (fun z1 => ?_)
  exact sR rfl rfl (fun hg => by cases hg; exact ⟨rfl, rfl⟩)
noncomputable def F_X8_costOfTour (h : PH) (p0 : Int32) : Option (Int32 × PH) :=
 (F_X8_lengthOf h p0).bind fun z1 =>
 (ald 1556 h 124 (F_X8_tour h p0)).bind fun z2 =>
 if ¬ z1 = 0 then
  (F_X8_arcOf h p0 (0 : Int32)).bind fun z3 =>
  (F_X8_approach h z2 z3).bind fun z4 =>
  (F_X8_arcOf h p0 (z1 - (1 : Int32))).bind fun z5 =>
  (F_X8_comeBack h z5 z2).bind fun z6 =>
  loop (fun (s7 : Int32 × Int32 × PH) =>
   if z1 ≤ s7.2.1 then
    some (.inr ((s7.1, s7.2.2)))
   else
    (F_X8_arcOf s7.2.2 p0 s7.2.1).bind fun z8 =>
    (F_X8_serviceOf s7.2.2 z8).bind fun z9 =>
    if ¬ s7.2.1 = 0 then
     (F_X8_arcOf z9.2 p0 (s7.2.1 - (1 : Int32))).bind fun z10 =>
     (aidx 28 z10).bind fun j11 =>
     (F_X8_arcOf z9.2 p0 s7.2.1).bind fun z12 =>
     (ald 28 z9.2 (137 + 1 * j11) z12).bind fun z13 =>
     some (.inl ((s7.1 + (z9.1 + z13)), (s7.2.1 + (1 : Int32)), z9.2))
    else
     some (.inl ((s7.1 + (z9.1 + (0 : Int32))), (s7.2.1 + (1 : Int32)), z9.2))) ((z4 + z6), (0 : Int32), h)
 else
  some (((0 : Int32), h))
set_option maxHeartbeats 4000000 in
set_option maxRecDepth 100000 in
theorem ok_X8_costOfTour (d : Nat) (hd : 4 ≤ d) (h : PH) (p0 : Int32) : ∀ z, F_X8_costOfTour h p0 = some z → Ex d 152 [.ref 122, .int p0] h (.inl (some (.int z.1))) (z.2) := by
  obtain ⟨d, rfl⟩ : ∃ e, d = e + 1 := ⟨d - 1, by omega⟩
  intro z hz
  refine ⟨rfl, ?_⟩
  refine (?_ : Sim (Ex d) mi_X8_costOfTour (fun o1 h1 => o1 = _ ∧ h1 = _) (F_X8_costOfTour h p0) (fun t => t = z) 0 [some (.ref 122), some (.int p0), none, none, none, none] [] h 0) z hz rfl
  unfold F_X8_costOfTour
  refine sS rfl rfl ?_
  refine sS rfl rfl ?_
  refine sC1 (c' := 0) rfl rfl rfl rfl rfl rfl (ok_X8_lengthOf d (by omega) h p0) (fun z1 => ?_)
  refine sS rfl rfl ?_
  refine sS rfl rfl ?_
  refine sS rfl rfl ?_
  refine sS rfl rfl ?_
  refine sT1 (c' := 0) rfl rfl rfl rfl rfl rfl (ok_X8_tour d (by omega) h p0) ?_
  refine sIald rfl rfl (fun z2 => ?_)
  refine sS rfl rfl ?_
  refine sS rfl rfl ?_
  refine sB rfl rfl ?_ ?_
  · refine sS rfl rfl ?_
    refine sS rfl rfl ?_
    refine sS rfl rfl ?_
    refine sS rfl rfl ?_
    refine sS rfl rfl ?_
    refine sC1 (c' := 0) rfl rfl rfl rfl rfl rfl (ok_X8_arcOf d (by omega) h p0 (0 : Int32)) (fun z3 => ?_)
    refine sC1 (c' := 0) rfl rfl rfl rfl rfl rfl (ok_X8_approach d (by omega) h z2 z3) (fun z4 => ?_)
    refine sS rfl rfl ?_
    refine sS rfl rfl ?_
    refine sS rfl rfl ?_
    refine sS rfl rfl ?_
    refine sS rfl rfl ?_
    refine sS rfl rfl ?_
    refine sC1 (c' := 0) rfl rfl rfl rfl rfl rfl (ok_X8_arcOf d (by omega) h p0 (z1 - (1 : Int32))) (fun z5 => ?_)
    refine sS rfl rfl ?_
    refine sC1 (c' := 0) rfl rfl rfl rfl rfl rfl (ok_X8_comeBack d (by omega) h z5 z2) (fun z6 => ?_)
    refine sS rfl rfl ?_
    refine sS rfl rfl ?_
    refine sS rfl rfl ?_
    refine sS rfl rfl ?_
    refine sM [true, true, true, false, true, true] rfl ?_
    refine sL (pc := 52) (lv := fun (s7 : Int32 × Int32 × PH) => [some (.ref 122), some (.int p0), some (.int z1), none, some (.int (s7.1)), some (.int (s7.2.1))]) (h := fun (s7 : Int32 × Int32 × PH) => s7.2.2) (fun s7 => ?_) ((z4 + z6), (0 : Int32), h)
    refine sS rfl rfl ?_
    refine sS rfl rfl ?_
    refine sB rfl rfl ?_ ?_
    · refine sS rfl rfl ?_
      exact sR rfl rfl (fun hg => by cases hg; exact ⟨rfl, rfl⟩)
    · refine sS rfl rfl ?_
      refine sS rfl rfl ?_
      refine sS rfl rfl ?_
      refine sS rfl rfl ?_
      refine sS rfl rfl ?_
      refine sC1 (c' := 0) rfl rfl rfl rfl rfl rfl (ok_X8_arcOf d (by omega) s7.2.2 p0 s7.2.1) (fun z8 => ?_)
      refine sC1 (c' := 0) rfl rfl rfl rfl rfl rfl (ok_X8_serviceOf d (by omega) s7.2.2 z8) (fun z9 => ?_)
      refine sS rfl rfl ?_
      refine sB rfl rfl ?_ ?_
      · refine sS rfl rfl ?_
        refine sS rfl rfl ?_
        refine sS rfl rfl ?_
        refine sS rfl rfl ?_
        refine sS rfl rfl ?_
        refine sS rfl rfl ?_
        refine sS rfl rfl ?_
        refine sC1 (c' := 0) rfl rfl rfl rfl rfl rfl (ok_X8_arcOf d (by omega) z9.2 p0 (s7.2.1 - (1 : Int32))) (fun z10 => ?_)
        refine sRald6 rfl rfl (fun j11 hj11 => ?_)
        refine sS rfl rfl ?_
        refine sS rfl rfl ?_
        refine sS rfl rfl ?_
        refine sC1 (c' := 0) rfl rfl rfl rfl rfl rfl (ok_X8_arcOf d (by omega) z9.2 p0 s7.2.1) (fun z12 => ?_)
        refine sIald rfl (isGap_h hj11) (fun z13 => ?_)
        refine sS rfl rfl ?_
        refine sS rfl rfl ?_
        refine sS rfl rfl ?_
        refine sS rfl rfl ?_
        refine sS rfl rfl ?_
        exact sJ (fun h2 => by (try dsimp only at h2); exact h2)
      · refine sS rfl rfl ?_
        refine sS rfl rfl ?_
        refine sS rfl rfl ?_
        refine sS rfl rfl ?_
        refine sS rfl rfl ?_
        refine sS rfl rfl ?_
        refine sS rfl rfl ?_
        exact sJ (fun h2 => by (try dsimp only at h2); exact h2)
  · refine sS rfl rfl ?_
    exact sR rfl rfl (fun hg => by cases hg; exact ⟨rfl, rfl⟩)
noncomputable def F_X8_demandOf (h : PH) (p0 : Int32) : Option (Int32) :=
 (ald 1556 h 124 ((F_X8_edge h p0) + (4 : Int32))).bind fun z1 =>
 some (z1)
set_option maxHeartbeats 4000000 in
set_option maxRecDepth 100000 in
theorem ok_X8_demandOf (d : Nat) (hd : 2 ≤ d) (h : PH) (p0 : Int32) : ∀ z, F_X8_demandOf h p0 = some z → Ex d 154 [.ref 122, .int p0] h (.inl (some (.int z))) (h) := by
  obtain ⟨d, rfl⟩ : ∃ e, d = e + 1 := ⟨d - 1, by omega⟩
  intro z hz
  refine ⟨rfl, ?_⟩
  refine (?_ : Sim (Ex d) mi_X8_demandOf (fun o1 h1 => o1 = _ ∧ h1 = _) (F_X8_demandOf h p0) (fun t => t = z) 0 [some (.ref 122), some (.int p0)] [] h 0) z hz rfl
  unfold F_X8_demandOf
  refine sS rfl rfl ?_
  refine sS rfl rfl ?_
  refine sS rfl rfl ?_
  refine sT1 (c' := 0) rfl rfl rfl rfl rfl rfl (ok_X8_edge d (by omega) h p0) ?_
  refine sS rfl rfl ?_
  refine sS rfl rfl ?_
  refine sIald rfl rfl (fun z1 => ?_)
  exact sR rfl rfl (fun hg => by cases hg; exact ⟨rfl, rfl⟩)
noncomputable def F_X8_loadOfTour (h : PH) (p0 : Int32) : Option (Int32) :=
 loop (fun (s1 : Int32 × Int32) =>
  (F_X8_lengthOf h p0).bind fun z2 =>
  if z2 ≤ s1.2 then
   some (.inr (s1.1))
  else
   (F_X8_arcOf h p0 s1.2).bind fun z3 =>
   (F_X8_demandOf h (z3 / (2 : Int32))).bind fun z4 =>
   some (.inl ((s1.1 + z4), (s1.2 + (1 : Int32))))) ((0 : Int32), (0 : Int32))
set_option maxHeartbeats 4000000 in
set_option maxRecDepth 100000 in
theorem ok_X8_loadOfTour (d : Nat) (hd : 3 ≤ d) (h : PH) (p0 : Int32) : ∀ z, F_X8_loadOfTour h p0 = some z → Ex d 153 [.ref 122, .int p0] h (.inl (some (.int z))) (h) := by
  obtain ⟨d, rfl⟩ : ∃ e, d = e + 1 := ⟨d - 1, by omega⟩
  intro z hz
  refine ⟨rfl, ?_⟩
  refine (?_ : Sim (Ex d) mi_X8_loadOfTour (fun o1 h1 => o1 = _ ∧ h1 = _) (F_X8_loadOfTour h p0) (fun t => t = z) 0 [some (.ref 122), some (.int p0), none, none] [] h 0) z hz rfl
  unfold F_X8_loadOfTour
  refine sS rfl rfl ?_
  refine sS rfl rfl ?_
  refine sS rfl rfl ?_
  refine sS rfl rfl ?_
  refine sL (pc := 4) (lv := fun (s1 : Int32 × Int32) => [some (.ref 122), some (.int p0), some (.int (s1.1)), some (.int (s1.2))]) (h := fun (s1 : Int32 × Int32) => h) (fun s1 => ?_) ((0 : Int32), (0 : Int32))
  refine sS rfl rfl ?_
  refine sS rfl rfl ?_
  refine sS rfl rfl ?_
  refine sC1 (c' := 0) rfl rfl rfl rfl rfl rfl (ok_X8_lengthOf d (by omega) h p0) (fun z2 => ?_)
  refine sB rfl rfl ?_ ?_
  · refine sS rfl rfl ?_
    exact sR rfl rfl (fun hg => by cases hg; exact ⟨rfl, rfl⟩)
  · refine sS rfl rfl ?_
    refine sS rfl rfl ?_
    refine sS rfl rfl ?_
    refine sS rfl rfl ?_
    refine sS rfl rfl ?_
    refine sC1 (c' := 0) rfl rfl rfl rfl rfl rfl (ok_X8_arcOf d (by omega) h p0 s1.2) (fun z3 => ?_)
    refine sS rfl rfl ?_
    refine sS rfl rfl ?_
    refine sC1 (c' := 0) rfl rfl rfl rfl rfl rfl (ok_X8_demandOf d (by omega) h (z3 / (2 : Int32))) (fun z4 => ?_)
    refine sS rfl rfl ?_
    refine sS rfl rfl ?_
    refine sS rfl rfl ?_
    refine sS rfl rfl ?_
    exact sJ (fun h2 => by (try dsimp only at h2); exact h2)
noncomputable def F_X8_totalOf (h : PH) : Option (Int32 × PH) :=
 loop (fun (s1 : Int32 × Int32 × PH) =>
  (ald 1556 s1.2.2 124 (4 : Int32)).bind fun z2 =>
  if z2 ≤ s1.2.1 then
   some (.inr ((s1.1, s1.2.2)))
  else
   (F_X8_costOfTour s1.2.2 s1.2.1).bind fun z3 =>
   some (.inl ((s1.1 + z3.1), (s1.2.1 + (1 : Int32)), z3.2))) ((0 : Int32), (0 : Int32), h)
set_option maxHeartbeats 4000000 in
set_option maxRecDepth 100000 in
theorem ok_X8_totalOf (d : Nat) (hd : 5 ≤ d) (h : PH) : ∀ z, F_X8_totalOf h = some z → Ex d 155 [.ref 122] h (.inl (some (.int z.1))) (z.2) := by
  obtain ⟨d, rfl⟩ : ∃ e, d = e + 1 := ⟨d - 1, by omega⟩
  intro z hz
  refine ⟨rfl, ?_⟩
  refine (?_ : Sim (Ex d) mi_X8_totalOf (fun o1 h1 => o1 = _ ∧ h1 = _) (F_X8_totalOf h) (fun t => t = z) 0 [some (.ref 122), none, none] [] h 0) z hz rfl
  unfold F_X8_totalOf
  refine sS rfl rfl ?_
  refine sS rfl rfl ?_
  refine sS rfl rfl ?_
  refine sS rfl rfl ?_
  refine sL (pc := 4) (lv := fun (s1 : Int32 × Int32 × PH) => [some (.ref 122), some (.int (s1.1)), some (.int (s1.2.1))]) (h := fun (s1 : Int32 × Int32 × PH) => s1.2.2) (fun s1 => ?_) ((0 : Int32), (0 : Int32), h)
  refine sS rfl rfl ?_
  refine sS rfl rfl ?_
  refine sS rfl rfl ?_
  refine sS rfl rfl ?_
  refine sIald rfl rfl (fun z2 => ?_)
  refine sB rfl rfl ?_ ?_
  · refine sS rfl rfl ?_
    exact sR rfl rfl (fun hg => by cases hg; exact ⟨rfl, rfl⟩)
  · refine sS rfl rfl ?_
    refine sS rfl rfl ?_
    refine sS rfl rfl ?_
    refine sC1 (c' := 0) rfl rfl rfl rfl rfl rfl (ok_X8_costOfTour d (by omega) s1.2.2 s1.2.1) (fun z3 => ?_)
    refine sS rfl rfl ?_
    refine sS rfl rfl ?_
    refine sS rfl rfl ?_
    refine sS rfl rfl ?_
    exact sJ (fun h2 => by (try dsimp only at h2); exact h2)
noncomputable def F_X8_placeIn (h : PH) (p0 : Int32) (p1 : Int32) : Option (Int32) :=
 loop (fun (s1 : Int32) =>
  (F_X8_lengthOf h p0).bind fun z2 =>
  if z2 ≤ s1 then
   some (.inr ((-1 : Int32)))
  else
   (F_X8_arcOf h p0 s1).bind fun z3 =>
   if ¬ (z3 / (2 : Int32)) = p1 then
    some (.inl ((s1 + (1 : Int32))))
   else
    some (.inr (s1))) ((0 : Int32))
set_option maxHeartbeats 4000000 in
set_option maxRecDepth 100000 in
theorem ok_X8_placeIn (d : Nat) (hd : 3 ≤ d) (h : PH) (p0 : Int32) (p1 : Int32) : ∀ z, F_X8_placeIn h p0 p1 = some z → Ex d 157 [.ref 122, .int p0, .int p1] h (.inl (some (.int z))) (h) := by
  obtain ⟨d, rfl⟩ : ∃ e, d = e + 1 := ⟨d - 1, by omega⟩
  intro z hz
  refine ⟨rfl, ?_⟩
  refine (?_ : Sim (Ex d) mi_X8_placeIn (fun o1 h1 => o1 = _ ∧ h1 = _) (F_X8_placeIn h p0 p1) (fun t => t = z) 0 [some (.ref 122), some (.int p0), some (.int p1), none] [] h 0) z hz rfl
  unfold F_X8_placeIn
  refine sS rfl rfl ?_
  refine sS rfl rfl ?_
  refine sL (pc := 2) (lv := fun (s1 : Int32) => [some (.ref 122), some (.int p0), some (.int p1), some (.int s1)]) (h := fun (s1 : Int32) => h) (fun s1 => ?_) ((0 : Int32))
  refine sS rfl rfl ?_
  refine sS rfl rfl ?_
  refine sS rfl rfl ?_
  refine sC1 (c' := 0) rfl rfl rfl rfl rfl rfl (ok_X8_lengthOf d (by omega) h p0) (fun z2 => ?_)
  refine sB rfl rfl ?_ ?_
  · refine sS rfl rfl ?_
    exact sR rfl rfl (fun hg => by cases hg; exact ⟨rfl, rfl⟩)
  · refine sS rfl rfl ?_
    refine sS rfl rfl ?_
    refine sS rfl rfl ?_
    refine sC1 (c' := 0) rfl rfl rfl rfl rfl rfl (ok_X8_arcOf d (by omega) h p0 s1) (fun z3 => ?_)
    refine sS rfl rfl ?_
    refine sS rfl rfl ?_
    refine sS rfl rfl ?_
    refine sB rfl rfl ?_ ?_
    · refine sS rfl rfl ?_
      refine sS rfl rfl ?_
      exact sJ (fun h2 => by (try dsimp only at h2); exact h2)
    · refine sS rfl rfl ?_
      exact sR rfl rfl (fun hg => by cases hg; exact ⟨rfl, rfl⟩)
noncomputable def F_X8_tourWith (h : PH) (p0 : Int32) : Option (Int32) :=
 loop (fun (s1 : Int32) =>
  (ald 1556 h 124 (4 : Int32)).bind fun z2 =>
  if z2 ≤ s1 then
   some (.inr ((-1 : Int32)))
  else
   (F_X8_placeIn h s1 p0).bind fun z3 =>
   if z3 = (-1 : Int32) then
    some (.inl ((s1 + (1 : Int32))))
   else
    some (.inr (s1))) ((0 : Int32))
set_option maxHeartbeats 4000000 in
set_option maxRecDepth 100000 in
theorem ok_X8_tourWith (d : Nat) (hd : 4 ≤ d) (h : PH) (p0 : Int32) : ∀ z, F_X8_tourWith h p0 = some z → Ex d 156 [.ref 122, .int p0] h (.inl (some (.int z))) (h) := by
  obtain ⟨d, rfl⟩ : ∃ e, d = e + 1 := ⟨d - 1, by omega⟩
  intro z hz
  refine ⟨rfl, ?_⟩
  refine (?_ : Sim (Ex d) mi_X8_tourWith (fun o1 h1 => o1 = _ ∧ h1 = _) (F_X8_tourWith h p0) (fun t => t = z) 0 [some (.ref 122), some (.int p0), none] [] h 0) z hz rfl
  unfold F_X8_tourWith
  refine sS rfl rfl ?_
  refine sS rfl rfl ?_
  refine sL (pc := 2) (lv := fun (s1 : Int32) => [some (.ref 122), some (.int p0), some (.int s1)]) (h := fun (s1 : Int32) => h) (fun s1 => ?_) ((0 : Int32))
  refine sS rfl rfl ?_
  refine sS rfl rfl ?_
  refine sS rfl rfl ?_
  refine sS rfl rfl ?_
  refine sIald rfl rfl (fun z2 => ?_)
  refine sB rfl rfl ?_ ?_
  · refine sS rfl rfl ?_
    exact sR rfl rfl (fun hg => by cases hg; exact ⟨rfl, rfl⟩)
  · refine sS rfl rfl ?_
    refine sS rfl rfl ?_
    refine sS rfl rfl ?_
    refine sC1 (c' := 0) rfl rfl rfl rfl rfl rfl (ok_X8_placeIn d (by omega) h s1 p0) (fun z3 => ?_)
    refine sS rfl rfl ?_
    refine sB rfl rfl ?_ ?_
    · refine sS rfl rfl ?_
      refine sS rfl rfl ?_
      exact sJ (fun h2 => by (try dsimp only at h2); exact h2)
    · refine sS rfl rfl ?_
      exact sR rfl rfl (fun hg => by cases hg; exact ⟨rfl, rfl⟩)
noncomputable def F_X8_put (h : PH) (p0 : Int32) (p1 : Int32) (p2 : Int32) : Option (PH) :=
 (F_X8_lengthOf h p0).bind fun z1 =>
 loop (fun (s2 : Int32 × PH) =>
  if s2.1 ≤ (((F_X8_tour h p0) + (2 : Int32)) + p1) then
   (ast 1556 s2.2 124 (((F_X8_tour h p0) + (2 : Int32)) + p1) p2).bind fun h3 =>
   (ald 1556 h3 124 ((F_X8_tour h3 p0) + (1 : Int32))).bind fun z4 =>
   (ast 1556 h3 124 ((F_X8_tour h3 p0) + (1 : Int32)) (z4 + (1 : Int32))).bind fun h5 =>
   some (.inr (h5))
  else
   (ald 1556 s2.2 124 (s2.1 - (1 : Int32))).bind fun z6 =>
   (ast 1556 s2.2 124 s2.1 z6).bind fun h7 =>
   some (.inl ((s2.1 + (-1 : Int32)), h7))) ((((F_X8_tour h p0) + (2 : Int32)) + z1), h)
set_option maxHeartbeats 4000000 in
set_option maxRecDepth 100000 in
theorem ok_X8_put (d : Nat) (hd : 3 ≤ d) (h : PH) (p0 : Int32) (p1 : Int32) (p2 : Int32) : ∀ z, F_X8_put h p0 p1 p2 = some z → Ex d 158 [.ref 122, .int p0, .int p1, .int p2] h (.inl (none)) (z) := by
  obtain ⟨d, rfl⟩ : ∃ e, d = e + 1 := ⟨d - 1, by omega⟩
  intro z hz
  refine ⟨rfl, ?_⟩
  refine (?_ : Sim (Ex d) mi_X8_put (fun o1 h1 => o1 = _ ∧ h1 = _) (F_X8_put h p0 p1 p2) (fun t => t = z) 0 [some (.ref 122), some (.int p0), some (.int p1), some (.int p2), none, none] [] h 0) z hz rfl
  unfold F_X8_put
  refine sS rfl rfl ?_
  refine sT1 (c' := 0) rfl rfl rfl rfl rfl rfl (ok_X8_tour d (by omega) h p0) ?_
  refine sS rfl rfl ?_
  refine sS rfl rfl ?_
  refine sS rfl rfl ?_
  refine sS rfl rfl ?_
  refine sS rfl rfl ?_
  refine sS rfl rfl ?_
  refine sC1 (c' := 0) rfl rfl rfl rfl rfl rfl (ok_X8_lengthOf d (by omega) h p0) (fun z1 => ?_)
  refine sS rfl rfl ?_
  refine sS rfl rfl ?_
  refine sL (pc := 18) (lv := fun (s2 : Int32 × PH) => [some (.ref 122), some (.int p0), some (.int p1), some (.int p2), some (.int (((F_X8_tour h p0) + (2 : Int32)))), some (.int (s2.1))]) (h := fun (s2 : Int32 × PH) => s2.2) (fun s2 => ?_) ((((F_X8_tour h p0) + (2 : Int32)) + z1), h)
  refine sS rfl rfl ?_
  refine sS rfl rfl ?_
  refine sS rfl rfl ?_
  refine sS rfl rfl ?_
  refine sB rfl rfl ?_ ?_
  · refine sS rfl rfl ?_
    refine sS rfl rfl ?_
    refine sS rfl rfl ?_
    refine sS rfl rfl ?_
    refine sS rfl rfl ?_
    refine sS rfl rfl ?_
    refine sIast rfl rfl (fun h3 => ?_)
    refine sS rfl rfl ?_
    refine sS rfl rfl ?_
    refine sS rfl rfl ?_
    refine sT1 (c' := 0) rfl rfl rfl rfl rfl rfl (ok_X8_tour d (by omega) h3 p0) ?_
    refine sS rfl rfl ?_
    refine sS rfl rfl ?_
    refine sS rfl rfl ?_
    refine sIald rfl rfl (fun z4 => ?_)
    refine sS rfl rfl ?_
    refine sS rfl rfl ?_
    refine sIast rfl rfl (fun h5 => ?_)
    exact sR rfl rfl (fun hg => by cases hg; exact ⟨rfl, rfl⟩)
  · refine sS rfl rfl ?_
    refine sS rfl rfl ?_
    refine sS rfl rfl ?_
    refine sS rfl rfl ?_
    refine sS rfl rfl ?_
    refine sS rfl rfl ?_
    refine sS rfl rfl ?_
    refine sS rfl rfl ?_
    refine sIald rfl rfl (fun z6 => ?_)
    refine sIast rfl rfl (fun h7 => ?_)
    refine sS rfl rfl ?_
    refine sS rfl rfl ?_
    exact sJ (fun h2 => by (try dsimp only at h2); exact h2)
noncomputable def F_X8_take (h : PH) (p0 : Int32) (p1 : Int32) : Option (PH) :=
 (ald 1556 h 124 ((F_X8_tour h p0) + (1 : Int32))).bind fun z1 =>
 (ast 1556 h 124 ((F_X8_tour h p0) + (1 : Int32)) (z1 - (1 : Int32))).bind fun h2 =>
 loop (fun (s3 : Int32 × PH) =>
  (F_X8_lengthOf s3.2 p0).bind fun z4 =>
  if (((F_X8_tour h2 p0) + (2 : Int32)) + z4) ≤ s3.1 then
   some (.inr (s3.2))
  else
   (ald 1556 s3.2 124 (s3.1 + (1 : Int32))).bind fun z5 =>
   (ast 1556 s3.2 124 s3.1 z5).bind fun h6 =>
   some (.inl ((s3.1 + (1 : Int32)), h6))) ((((F_X8_tour h2 p0) + (2 : Int32)) + p1), h2)
set_option maxHeartbeats 4000000 in
set_option maxRecDepth 100000 in
theorem ok_X8_take (d : Nat) (hd : 3 ≤ d) (h : PH) (p0 : Int32) (p1 : Int32) : ∀ z, F_X8_take h p0 p1 = some z → Ex d 159 [.ref 122, .int p0, .int p1] h (.inl (none)) (z) := by
  obtain ⟨d, rfl⟩ : ∃ e, d = e + 1 := ⟨d - 1, by omega⟩
  intro z hz
  refine ⟨rfl, ?_⟩
  refine (?_ : Sim (Ex d) mi_X8_take (fun o1 h1 => o1 = _ ∧ h1 = _) (F_X8_take h p0 p1) (fun t => t = z) 0 [some (.ref 122), some (.int p0), some (.int p1), none, none] [] h 0) z hz rfl
  unfold F_X8_take
  refine sS rfl rfl ?_
  refine sS rfl rfl ?_
  refine sS rfl rfl ?_
  refine sT1 (c' := 0) rfl rfl rfl rfl rfl rfl (ok_X8_tour d (by omega) h p0) ?_
  refine sS rfl rfl ?_
  refine sS rfl rfl ?_
  refine sS rfl rfl ?_
  refine sIald rfl rfl (fun z1 => ?_)
  refine sS rfl rfl ?_
  refine sS rfl rfl ?_
  refine sIast rfl rfl (fun h2 => ?_)
  refine sS rfl rfl ?_
  refine sT1 (c' := 0) rfl rfl rfl rfl rfl rfl (ok_X8_tour d (by omega) h2 p0) ?_
  refine sS rfl rfl ?_
  refine sS rfl rfl ?_
  refine sS rfl rfl ?_
  refine sS rfl rfl ?_
  refine sS rfl rfl ?_
  refine sS rfl rfl ?_
  refine sS rfl rfl ?_
  refine sM [true, true, false, true, true] rfl ?_
  refine sL (pc := 27) (lv := fun (s3 : Int32 × PH) => [some (.ref 122), some (.int p0), none, some (.int (((F_X8_tour h2 p0) + (2 : Int32)))), some (.int (s3.1))]) (h := fun (s3 : Int32 × PH) => s3.2) (fun s3 => ?_) ((((F_X8_tour h2 p0) + (2 : Int32)) + p1), h2)
  refine sS rfl rfl ?_
  refine sS rfl rfl ?_
  refine sS rfl rfl ?_
  refine sS rfl rfl ?_
  refine sC1 (c' := 0) rfl rfl rfl rfl rfl rfl (ok_X8_lengthOf d (by omega) s3.2 p0) (fun z4 => ?_)
  refine sS rfl rfl ?_
  refine sB rfl rfl ?_ ?_
  · exact sR rfl rfl (fun hg => by cases hg; exact ⟨rfl, rfl⟩)
  · refine sS rfl rfl ?_
    refine sS rfl rfl ?_
    refine sS rfl rfl ?_
    refine sS rfl rfl ?_
    refine sS rfl rfl ?_
    refine sS rfl rfl ?_
    refine sS rfl rfl ?_
    refine sS rfl rfl ?_
    refine sIald rfl rfl (fun z5 => ?_)
    refine sIast rfl rfl (fun h6 => ?_)
    refine sS rfl rfl ?_
    refine sS rfl rfl ?_
    exact sJ (fun h2 => by (try dsimp only at h2); exact h2)
noncomputable def F_X8_costWith (h : PH) (p0 : Int32) (p1 : Int32) (p2 : Int32) : Option (Int32 × PH) :=
 (F_X8_loadOfTour h p0).bind fun z1 =>
 (F_X8_demandOf h (p2 / (2 : Int32))).bind fun z2 =>
 (ald 1556 h 124 (1 : Int32)).bind fun z3 =>
 if (z1 + z2) ≤ z3 then
  (F_X8_put h p0 p1 p2).bind fun h4 =>
  (F_X8_costOfTour h4 p0).bind fun z5 =>
  (F_X8_take z5.2 p0 p1).bind fun h6 =>
  some ((z5.1, h6))
 else
  some (((1000000 : Int32), h))
set_option maxHeartbeats 4000000 in
set_option maxRecDepth 100000 in
theorem ok_X8_costWith (d : Nat) (hd : 5 ≤ d) (h : PH) (p0 : Int32) (p1 : Int32) (p2 : Int32) : ∀ z, F_X8_costWith h p0 p1 p2 = some z → Ex d 160 [.ref 122, .int p0, .int p1, .int p2] h (.inl (some (.int z.1))) (z.2) := by
  obtain ⟨d, rfl⟩ : ∃ e, d = e + 1 := ⟨d - 1, by omega⟩
  intro z hz
  refine ⟨rfl, ?_⟩
  refine (?_ : Sim (Ex d) mi_X8_costWith (fun o1 h1 => o1 = _ ∧ h1 = _) (F_X8_costWith h p0 p1 p2) (fun t => t = z) 0 [some (.ref 122), some (.int p0), some (.int p1), some (.int p2), none] [] h 0) z hz rfl
  unfold F_X8_costWith
  refine sS rfl rfl ?_
  refine sS rfl rfl ?_
  refine sC1 (c' := 0) rfl rfl rfl rfl rfl rfl (ok_X8_loadOfTour d (by omega) h p0) (fun z1 => ?_)
  refine sS rfl rfl ?_
  refine sS rfl rfl ?_
  refine sS rfl rfl ?_
  refine sS rfl rfl ?_
  refine sC1 (c' := 0) rfl rfl rfl rfl rfl rfl (ok_X8_demandOf d (by omega) h (p2 / (2 : Int32))) (fun z2 => ?_)
  refine sS rfl rfl ?_
  refine sS rfl rfl ?_
  refine sS rfl rfl ?_
  refine sS rfl rfl ?_
  refine sIald rfl rfl (fun z3 => ?_)
  refine sB rfl rfl ?_ ?_
  · refine sS rfl rfl ?_
    refine sS rfl rfl ?_
    refine sS rfl rfl ?_
    refine sS rfl rfl ?_
    refine sC0 (c' := 0) rfl rfl rfl rfl rfl rfl (ok_X8_put d (by omega) h p0 p1 p2) (fun h4 => ?_)
    refine sS rfl rfl ?_
    refine sS rfl rfl ?_
    refine sC1 (c' := 0) rfl rfl rfl rfl rfl rfl (ok_X8_costOfTour d (by omega) h4 p0) (fun z5 => ?_)
    refine sS rfl rfl ?_
    refine sS rfl rfl ?_
    refine sS rfl rfl ?_
    refine sS rfl rfl ?_
    refine sC0 (c' := 0) rfl rfl rfl rfl rfl rfl (ok_X8_take d (by omega) z5.2 p0 p1) (fun h6 => ?_)
    refine sS rfl rfl ?_
    exact sR rfl rfl (fun hg => by cases hg; exact ⟨rfl, rfl⟩)
  · refine sS rfl rfl ?_
    exact sR rfl rfl (fun hg => by cases hg; exact ⟨rfl, rfl⟩)
noncomputable def F_X8_canBeServed (h : PH) (p0 : Int32) : Option (Int32) :=
 (F_X8_demandOf h p0).bind fun z1 =>
 if z1 ≤ 0 then
  some ((0 : Int32))
 else
  (F_X8_tourWith h p0).bind fun z2 =>
  if ¬ z2 = (-1 : Int32) then
   some ((0 : Int32))
  else
   some ((1 : Int32))
set_option maxHeartbeats 4000000 in
set_option maxRecDepth 100000 in
theorem ok_X8_canBeServed (d : Nat) (hd : 5 ≤ d) (h : PH) (p0 : Int32) : ∀ z, F_X8_canBeServed h p0 = some z → Ex d 161 [.ref 122, .int p0] h (.inl (some (.int z))) (h) := by
  obtain ⟨d, rfl⟩ : ∃ e, d = e + 1 := ⟨d - 1, by omega⟩
  intro z hz
  refine ⟨rfl, ?_⟩
  refine (?_ : Sim (Ex d) mi_X8_canBeServed (fun o1 h1 => o1 = _ ∧ h1 = _) (F_X8_canBeServed h p0) (fun t => t = z) 0 [some (.ref 122), some (.int p0)] [] h 0) z hz rfl
  unfold F_X8_canBeServed
  refine sS rfl rfl ?_
  refine sS rfl rfl ?_
  refine sC1 (c' := 0) rfl rfl rfl rfl rfl rfl (ok_X8_demandOf d (by omega) h p0) (fun z1 => ?_)
  refine sB rfl rfl ?_ ?_
  · refine sS rfl rfl ?_
    exact sR rfl rfl (fun hg => by cases hg; exact ⟨rfl, rfl⟩)
  · refine sS rfl rfl ?_
    refine sS rfl rfl ?_
    refine sC1 (c' := 0) rfl rfl rfl rfl rfl rfl (ok_X8_tourWith d (by omega) h p0) (fun z2 => ?_)
    refine sS rfl rfl ?_
    refine sB rfl rfl ?_ ?_
    · refine sS rfl rfl ?_
      exact sR rfl rfl (fun hg => by cases hg; exact ⟨rfl, rfl⟩)
    · refine sS rfl rfl ?_
      refine sS rfl rfl ?_
      exact sR rfl rfl (fun hg => by cases hg; exact ⟨rfl, rfl⟩)
noncomputable def F_X8_findInsertion (h : PH) (p0 : Int32) : Option (Int32 × PH) :=
 loop (fun (s1 : Int32 × Int32 × Int32 × PH) =>
  (ald 1556 s1.2.2.2 124 (4 : Int32)).bind fun z2 =>
  if z2 ≤ s1.2.2.1 then
   some (.inr ((s1.1, s1.2.2.2)))
  else
   loop (fun (s3 : Int32 × Int32 × Int32 × PH) =>
    (F_X8_lengthOf s3.2.2.2 s1.2.2.1).bind fun z4 =>
    if z4 < s3.2.2.1 then
     some (.inr (.inl (s3.1, s3.2.1, (s1.2.2.1 + (1 : Int32)), s3.2.2.2)))
    else
     loop (fun (s5 : Int32 × Int32 × Int32 × PH) =>
      if (2 : Int32) ≤ s5.2.2.1 then
       some (.inr (.inl (s5.1, s5.2.1, (s3.2.2.1 + (1 : Int32)), s5.2.2.2)))
      else
       (F_X8_costWith s5.2.2.2 s1.2.2.1 s3.2.2.1 (((2 : Int32) * p0) + s5.2.2.1)).bind fun z6 =>
       (F_X8_costOfTour z6.2 s1.2.2.1).bind fun z7 =>
       if (1000000 : Int32) ≤ z6.1 then
        some (.inl (s5.1, s5.2.1, (s5.2.2.1 + (1 : Int32)), z7.2))
       else
        if s5.1 = (-1 : Int32) then
         some (.inl (((((1000 : Int32) * s1.2.2.1) + ((10 : Int32) * s3.2.2.1)) + s5.2.2.1), (z6.1 - z7.1), (s5.2.2.1 + (1 : Int32)), z7.2))
        else
         if (z6.1 - z7.1) < s5.2.1 then
          some (.inl (((((1000 : Int32) * s1.2.2.1) + ((10 : Int32) * s3.2.2.1)) + s5.2.2.1), (z6.1 - z7.1), (s5.2.2.1 + (1 : Int32)), z7.2))
         else
          some (.inl (s5.1, s5.2.1, (s5.2.2.1 + (1 : Int32)), z7.2))) (s3.1, s3.2.1, (0 : Int32), s3.2.2.2)) (s1.1, s1.2.1, (0 : Int32), s1.2.2.2)) ((-1 : Int32), (0 : Int32), (0 : Int32), h)
set_option maxHeartbeats 4000000 in
set_option maxRecDepth 100000 in
theorem ok_X8_findInsertion (d : Nat) (hd : 6 ≤ d) (h : PH) (p0 : Int32) : ∀ z, F_X8_findInsertion h p0 = some z → Ex d 162 [.ref 122, .int p0] h (.inl (some (.int z.1))) (z.2) := by
  obtain ⟨d, rfl⟩ : ∃ e, d = e + 1 := ⟨d - 1, by omega⟩
  intro z hz
  refine ⟨rfl, ?_⟩
  refine (?_ : Sim (Ex d) mi_X8_findInsertion (fun o1 h1 => o1 = _ ∧ h1 = _) (F_X8_findInsertion h p0) (fun t => t = z) 0 [some (.ref 122), some (.int p0), none, none, none, none, none, none, none] [] h 0) z hz rfl
  unfold F_X8_findInsertion
  refine sS rfl rfl ?_
  refine sS rfl rfl ?_
  refine sS rfl rfl ?_
  refine sS rfl rfl ?_
  refine sS rfl rfl ?_
  refine sS rfl rfl ?_
  refine sL (pc := 7) (lv := fun (s1 : Int32 × Int32 × Int32 × PH) => [some (.ref 122), some (.int p0), some (.int (s1.1)), some (.int (s1.2.1)), some (.int (s1.2.2.1)), none, none, none, none]) (h := fun (s1 : Int32 × Int32 × Int32 × PH) => s1.2.2.2) (fun s1 => ?_) ((-1 : Int32), (0 : Int32), (0 : Int32), h)
  refine sS rfl rfl ?_
  refine sS rfl rfl ?_
  refine sS rfl rfl ?_
  refine sS rfl rfl ?_
  refine sIald rfl rfl (fun z2 => ?_)
  refine sB rfl rfl ?_ ?_
  · refine sS rfl rfl ?_
    exact sR rfl rfl (fun hg => by cases hg; exact ⟨rfl, rfl⟩)
  · refine sS rfl rfl ?_
    refine sS rfl rfl ?_
    refine sL (pc := 21) (lv := fun (s3 : Int32 × Int32 × Int32 × PH) => [some (.ref 122), some (.int p0), some (.int (s3.1)), some (.int (s3.2.1)), some (.int (s1.2.2.1)), some (.int (s3.2.2.1)), none, none, none]) (h := fun (s3 : Int32 × Int32 × Int32 × PH) => s3.2.2.2) (fun s3 => ?_) (s1.1, s1.2.1, (0 : Int32), s1.2.2.2)
    refine sS rfl rfl ?_
    refine sS rfl rfl ?_
    refine sS rfl rfl ?_
    refine sC1 (c' := 0) rfl rfl rfl rfl rfl rfl (ok_X8_lengthOf d (by omega) s3.2.2.2 s1.2.2.1) (fun z4 => ?_)
    refine sB rfl rfl ?_ ?_
    · refine sS rfl rfl ?_
      refine sS rfl rfl ?_
      refine sM [true, true, true, true, true, false, true, true, true] rfl ?_
      refine sUp ?_
      exact sJ (fun h2 => by (try dsimp only at h2); exact h2)
    · refine sS rfl rfl ?_
      refine sS rfl rfl ?_
      refine sL (pc := 35) (lv := fun (s5 : Int32 × Int32 × Int32 × PH) => [some (.ref 122), some (.int p0), some (.int (s5.1)), some (.int (s5.2.1)), some (.int (s1.2.2.1)), some (.int (s3.2.2.1)), some (.int (s5.2.2.1)), none, none]) (h := fun (s5 : Int32 × Int32 × Int32 × PH) => s5.2.2.2) (fun s5 => ?_) (s3.1, s3.2.1, (0 : Int32), s3.2.2.2)
      refine sS rfl rfl ?_
      refine sS rfl rfl ?_
      refine sB rfl rfl ?_ ?_
      · refine sS rfl rfl ?_
        refine sS rfl rfl ?_
        refine sM [true, true, true, true, true, true, false, true, true] rfl ?_
        refine sUp ?_
        exact sJ (fun h2 => by (try dsimp only at h2); exact h2)
      · refine sS rfl rfl ?_
        refine sS rfl rfl ?_
        refine sS rfl rfl ?_
        refine sS rfl rfl ?_
        refine sS rfl rfl ?_
        refine sS rfl rfl ?_
        refine sS rfl rfl ?_
        refine sS rfl rfl ?_
        refine sC1 (c' := 0) rfl rfl rfl rfl rfl rfl (ok_X8_costWith d (by omega) s5.2.2.2 s1.2.2.1 s3.2.2.1 (((2 : Int32) * p0) + s5.2.2.1)) (fun z6 => ?_)
        refine sS rfl rfl ?_
        refine sS rfl rfl ?_
        refine sS rfl rfl ?_
        refine sS rfl rfl ?_
        refine sC1 (c' := 0) rfl rfl rfl rfl rfl rfl (ok_X8_costOfTour d (by omega) z6.2 s1.2.2.1) (fun z7 => ?_)
        refine sS rfl rfl ?_
        refine sS rfl rfl ?_
        refine sS rfl rfl ?_
        refine sS rfl rfl ?_
        refine sB rfl rfl ?_ ?_
        · refine sS rfl rfl ?_
          refine sS rfl rfl ?_
          refine sM [true, true, true, true, true, true, true, false, false] rfl ?_
          exact sJ (fun h2 => by (try dsimp only at h2); exact h2)
        · refine sS rfl rfl ?_
          refine sS rfl rfl ?_
          refine sB rfl rfl ?_ ?_
          · refine sS rfl rfl ?_
            refine sS rfl rfl ?_
            refine sS rfl rfl ?_
            refine sS rfl rfl ?_
            refine sS rfl rfl ?_
            refine sS rfl rfl ?_
            refine sS rfl rfl ?_
            refine sS rfl rfl ?_
            refine sS rfl rfl ?_
            refine sS rfl rfl ?_
            refine sS rfl rfl ?_
            refine sS rfl rfl ?_
            refine sS rfl rfl ?_
            refine sS rfl rfl ?_
            refine sM [true, true, true, true, true, true, true, false, false] rfl ?_
            exact sJ (fun h2 => by (try dsimp only at h2); exact h2)
          · refine sS rfl rfl ?_
            refine sS rfl rfl ?_
            refine sB rfl rfl ?_ ?_
            · refine sS rfl rfl ?_
              refine sS rfl rfl ?_
              refine sS rfl rfl ?_
              refine sS rfl rfl ?_
              refine sS rfl rfl ?_
              refine sS rfl rfl ?_
              refine sS rfl rfl ?_
              refine sS rfl rfl ?_
              refine sS rfl rfl ?_
              refine sS rfl rfl ?_
              refine sS rfl rfl ?_
              refine sS rfl rfl ?_
              refine sS rfl rfl ?_
              refine sS rfl rfl ?_
              refine sM [true, true, true, true, true, true, true, false, false] rfl ?_
              exact sJ (fun h2 => by (try dsimp only at h2); exact h2)
            · refine sS rfl rfl ?_
              refine sS rfl rfl ?_
              refine sS rfl rfl ?_
              refine sM [true, true, true, true, true, true, true, false, false] rfl ?_
              exact sJ (fun h2 => by (try dsimp only at h2); exact h2)
noncomputable def F_X8_putBy (h : PH) (p0 : Int32) (p1 : Int32) : Option (PH) :=
 (F_X8_put h (p0 / (1000 : Int32)) ((p0 - p0 / (1000 : Int32) * (1000 : Int32)) / (10 : Int32)) (((2 : Int32) * p1) + (p0 - p0 / (10 : Int32) * (10 : Int32)))).bind fun h1 =>
 some (h1)
set_option maxHeartbeats 4000000 in
set_option maxRecDepth 100000 in
theorem ok_X8_putBy (d : Nat) (hd : 4 ≤ d) (h : PH) (p0 : Int32) (p1 : Int32) : ∀ z, F_X8_putBy h p0 p1 = some z → Ex d 163 [.ref 122, .int p0, .int p1] h (.inl (none)) (z) := by
  obtain ⟨d, rfl⟩ : ∃ e, d = e + 1 := ⟨d - 1, by omega⟩
  intro z hz
  refine ⟨rfl, ?_⟩
  refine (?_ : Sim (Ex d) mi_X8_putBy (fun o1 h1 => o1 = _ ∧ h1 = _) (F_X8_putBy h p0 p1) (fun t => t = z) 0 [some (.ref 122), some (.int p0), some (.int p1)] [] h 0) z hz rfl
  unfold F_X8_putBy
  refine sS rfl rfl ?_
  refine sS rfl rfl ?_
  refine sS rfl rfl ?_
  refine sS rfl rfl ?_
  refine sS rfl rfl ?_
  refine sS rfl rfl ?_
  refine sS rfl rfl ?_
  refine sS rfl rfl ?_
  refine sS rfl rfl ?_
  refine sS rfl rfl ?_
  refine sS rfl rfl ?_
  refine sS rfl rfl ?_
  refine sS rfl rfl ?_
  refine sS rfl rfl ?_
  refine sS rfl rfl ?_
  refine sS rfl rfl ?_
  refine sC0 (c' := 0) rfl rfl rfl rfl rfl rfl (ok_X8_put d (by omega) h (p0 / (1000 : Int32)) ((p0 - p0 / (1000 : Int32) * (1000 : Int32)) / (10 : Int32)) (((2 : Int32) * p1) + (p0 - p0 / (10 : Int32) * (10 : Int32)))) (fun h1 => ?_)
  exact sR rfl rfl (fun hg => by cases hg; exact ⟨rfl, rfl⟩)
noncomputable def F_X8_change (h : PH) (p0 : Int32) : Option (Int32 × PH) :=
 (F_X8_tourWith h p0).bind fun z1 =>
 (F_X8_totalOf h).bind fun z2 =>
 (F_X8_placeIn z2.2 z1 p0).bind fun z3 =>
 (F_X8_take z2.2 z1 z3).bind fun h4 =>
 (F_X8_costOfTour h4 z1).bind fun z5 =>
 if z5.1 < (1000000 : Int32) then
  (F_X8_findInsertion z5.2 p0).bind fun z6 =>
  if ¬ z6.1 = (-1 : Int32) then
   (F_X8_putBy z6.2 z6.1 p0).bind fun h7 =>
   (F_X8_totalOf h7).bind fun z8 =>
   some (((z2.1 - z8.1), z8.2))
  else
   some (((-1 : Int32), z6.2))
 else
  some (((-1 : Int32), z5.2))
set_option maxHeartbeats 4000000 in
set_option maxRecDepth 100000 in
theorem ok_X8_change (d : Nat) (hd : 7 ≤ d) (h : PH) (p0 : Int32) : ∀ z, F_X8_change h p0 = some z → Ex d 164 [.ref 122, .int p0] h (.inl (some (.int z.1))) (z.2) := by
  obtain ⟨d, rfl⟩ : ∃ e, d = e + 1 := ⟨d - 1, by omega⟩
  intro z hz
  refine ⟨rfl, ?_⟩
  refine (?_ : Sim (Ex d) mi_X8_change (fun o1 h1 => o1 = _ ∧ h1 = _) (F_X8_change h p0) (fun t => t = z) 0 [some (.ref 122), some (.int p0), none, none, none] [] h 0) z hz rfl
  unfold F_X8_change
  refine sS rfl rfl ?_
  refine sS rfl rfl ?_
  refine sC1 (c' := 0) rfl rfl rfl rfl rfl rfl (ok_X8_tourWith d (by omega) h p0) (fun z1 => ?_)
  refine sS rfl rfl ?_
  refine sS rfl rfl ?_
  refine sC1 (c' := 0) rfl rfl rfl rfl rfl rfl (ok_X8_totalOf d (by omega) h) (fun z2 => ?_)
  refine sS rfl rfl ?_
  refine sS rfl rfl ?_
  refine sS rfl rfl ?_
  refine sS rfl rfl ?_
  refine sS rfl rfl ?_
  refine sS rfl rfl ?_
  refine sC1 (c' := 0) rfl rfl rfl rfl rfl rfl (ok_X8_placeIn d (by omega) z2.2 z1 p0) (fun z3 => ?_)
  refine sC0 (c' := 0) rfl rfl rfl rfl rfl rfl (ok_X8_take d (by omega) z2.2 z1 z3) (fun h4 => ?_)
  refine sS rfl rfl ?_
  refine sS rfl rfl ?_
  refine sC1 (c' := 0) rfl rfl rfl rfl rfl rfl (ok_X8_costOfTour d (by omega) h4 z1) (fun z5 => ?_)
  refine sS rfl rfl ?_
  refine sB rfl rfl ?_ ?_
  · refine sS rfl rfl ?_
    refine sS rfl rfl ?_
    refine sC1 (c' := 0) rfl rfl rfl rfl rfl rfl (ok_X8_findInsertion d (by omega) z5.2 p0) (fun z6 => ?_)
    refine sS rfl rfl ?_
    refine sS rfl rfl ?_
    refine sS rfl rfl ?_
    refine sB rfl rfl ?_ ?_
    · refine sS rfl rfl ?_
      refine sS rfl rfl ?_
      refine sS rfl rfl ?_
      refine sC0 (c' := 0) rfl rfl rfl rfl rfl rfl (ok_X8_putBy d (by omega) z6.2 z6.1 p0) (fun h7 => ?_)
      refine sS rfl rfl ?_
      refine sS rfl rfl ?_
      refine sC1 (c' := 0) rfl rfl rfl rfl rfl rfl (ok_X8_totalOf d (by omega) h7) (fun z8 => ?_)
      refine sS rfl rfl ?_
      exact sR rfl rfl (fun hg => by cases hg; exact ⟨rfl, rfl⟩)
    · refine sS rfl rfl ?_
      exact sR rfl rfl (fun hg => by cases hg; exact ⟨rfl, rfl⟩)
  · refine sS rfl rfl ?_
    exact sR rfl rfl (fun hg => by cases hg; exact ⟨rfl, rfl⟩)
noncomputable def F_X8_gainOf (h : PH) (p0 : Int32) : Option (Int32 × PH) :=
 (F_X8_copy h 124 126).bind fun h1 =>
 (F_X8_change h1 p0).bind fun z2 =>
 (F_X8_copy z2.2 126 124).bind fun h3 =>
 some ((z2.1, h3))
set_option maxHeartbeats 4000000 in
set_option maxRecDepth 100000 in
theorem ok_X8_gainOf (d : Nat) (hd : 8 ≤ d) (h : PH) (p0 : Int32) : ∀ z, F_X8_gainOf h p0 = some z → Ex d 165 [.ref 122, .int p0] h (.inl (some (.int z.1))) (z.2) := by
  obtain ⟨d, rfl⟩ : ∃ e, d = e + 1 := ⟨d - 1, by omega⟩
  intro z hz
  refine ⟨rfl, ?_⟩
  refine (?_ : Sim (Ex d) mi_X8_gainOf (fun o1 h1 => o1 = _ ∧ h1 = _) (F_X8_gainOf h p0) (fun t => t = z) 0 [some (.ref 122), some (.int p0), none] [] h 0) z hz rfl
  unfold F_X8_gainOf
  refine sS rfl rfl ?_
  refine sS rfl rfl ?_
  refine sS rfl rfl ?_
  refine sS rfl rfl ?_
  refine sC0 (c' := 0) rfl rfl rfl rfl rfl rfl (ok_X8_copy d (by omega) h 124 rfl 126 rfl) (fun h1 => ?_)
  refine sS rfl rfl ?_
  refine sS rfl rfl ?_
  refine sC1 (c' := 0) rfl rfl rfl rfl rfl rfl (ok_X8_change d (by omega) h1 p0) (fun z2 => ?_)
  refine sS rfl rfl ?_
  refine sS rfl rfl ?_
  refine sS rfl rfl ?_
  refine sS rfl rfl ?_
  refine sS rfl rfl ?_
  refine sC0 (c' := 0) rfl rfl rfl rfl rfl rfl (ok_X8_copy d (by omega) z2.2 126 rfl 124 rfl) (fun h3 => ?_)
  refine sS rfl rfl ?_
  exact sR rfl rfl (fun hg => by cases hg; exact ⟨rfl, rfl⟩)
noncomputable def F_X8_noEdge (h : PH) (p0 : Int32) : Option (Int32 × PH) :=
 (ald 1556 h 124 (2 : Int32)).bind fun z1 =>
 if ¬ (F_X8_in h p0 (0 : Int32) (z1 - (1 : Int32))) = 0 then
  (zbo (F_X8_fails h (0 : Int32) (1 : Int32)).1).bind fun z2 => some ((z2, (F_X8_fails h (0 : Int32) (1 : Int32)).2))
 else
  (zbo (F_X8_fails h (1 : Int32) (1 : Int32)).1).bind fun z3 => some ((z3, (F_X8_fails h (1 : Int32) (1 : Int32)).2))
set_option maxHeartbeats 4000000 in
set_option maxRecDepth 100000 in
theorem ok_X8_noEdge (d : Nat) (hd : 2 ≤ d) (h : PH) (p0 : Int32) : ∀ z, F_X8_noEdge h p0 = some z → Ex d 166 [.ref 122, .int p0] h (.inl (some (.int z.1))) (z.2) := by
  obtain ⟨d, rfl⟩ : ∃ e, d = e + 1 := ⟨d - 1, by omega⟩
  intro z hz
  refine ⟨rfl, ?_⟩
  refine (?_ : Sim (Ex d) mi_X8_noEdge (fun o1 h1 => o1 = _ ∧ h1 = _) (F_X8_noEdge h p0) (fun t => t = z) 0 [some (.ref 122), some (.int p0)] [] h 0) z hz rfl
  unfold F_X8_noEdge
  refine sS rfl rfl ?_
  refine sS rfl rfl ?_
  refine sS rfl rfl ?_
  refine sS rfl rfl ?_
  refine sS rfl rfl ?_
  refine sS rfl rfl ?_
  refine sIald rfl rfl (fun z1 => ?_)
  refine sS rfl rfl ?_
  refine sS rfl rfl ?_
  refine sT1 (c' := 0) rfl rfl rfl rfl rfl rfl (ok_X8_in d (by omega) h p0 (0 : Int32) (z1 - (1 : Int32))) ?_
  refine sB rfl rfl ?_ ?_
  · refine sS rfl rfl ?_
    refine sS rfl rfl ?_
    refine sT1 (c' := 0) rfl rfl rfl rfl rfl rfl (ok_X8_fails d (by omega) h (0 : Int32) (1 : Int32)) ?_
    exact sZ rfl rfl (fun z hg => by cases hg; exact ⟨rfl, rfl⟩)
  · refine sS rfl rfl ?_
    refine sS rfl rfl ?_
    refine sS rfl rfl ?_
    refine sT1 (c' := 0) rfl rfl rfl rfl rfl rfl (ok_X8_fails d (by omega) h (1 : Int32) (1 : Int32)) ?_
    exact sZ rfl rfl (fun z hg => by cases hg; exact ⟨rfl, rfl⟩)
noncomputable def F_X8_noArc (h : PH) (p0 : Int32) : Option (Int32 × PH) :=
 (F_X8_arcs h).bind fun z1 =>
 if ¬ (F_X8_in h p0 (0 : Int32) (z1 - (1 : Int32))) = 0 then
  (zbo (F_X8_fails h (0 : Int32) (1 : Int32)).1).bind fun z2 => some ((z2, (F_X8_fails h (0 : Int32) (1 : Int32)).2))
 else
  (zbo (F_X8_fails h (1 : Int32) (1 : Int32)).1).bind fun z3 => some ((z3, (F_X8_fails h (1 : Int32) (1 : Int32)).2))
set_option maxHeartbeats 4000000 in
set_option maxRecDepth 100000 in
theorem ok_X8_noArc (d : Nat) (hd : 2 ≤ d) (h : PH) (p0 : Int32) : ∀ z, F_X8_noArc h p0 = some z → Ex d 167 [.ref 122, .int p0] h (.inl (some (.int z.1))) (z.2) := by
  obtain ⟨d, rfl⟩ : ∃ e, d = e + 1 := ⟨d - 1, by omega⟩
  intro z hz
  refine ⟨rfl, ?_⟩
  refine (?_ : Sim (Ex d) mi_X8_noArc (fun o1 h1 => o1 = _ ∧ h1 = _) (F_X8_noArc h p0) (fun t => t = z) 0 [some (.ref 122), some (.int p0)] [] h 0) z hz rfl
  unfold F_X8_noArc
  refine sS rfl rfl ?_
  refine sS rfl rfl ?_
  refine sS rfl rfl ?_
  refine sS rfl rfl ?_
  refine sC1 (c' := 0) rfl rfl rfl rfl rfl rfl (ok_X8_arcs d (by omega) h) (fun z1 => ?_)
  refine sS rfl rfl ?_
  refine sS rfl rfl ?_
  refine sT1 (c' := 0) rfl rfl rfl rfl rfl rfl (ok_X8_in d (by omega) h p0 (0 : Int32) (z1 - (1 : Int32))) ?_
  refine sB rfl rfl ?_ ?_
  · refine sS rfl rfl ?_
    refine sS rfl rfl ?_
    refine sT1 (c' := 0) rfl rfl rfl rfl rfl rfl (ok_X8_fails d (by omega) h (0 : Int32) (1 : Int32)) ?_
    exact sZ rfl rfl (fun z hg => by cases hg; exact ⟨rfl, rfl⟩)
  · refine sS rfl rfl ?_
    refine sS rfl rfl ?_
    refine sS rfl rfl ?_
    refine sT1 (c' := 0) rfl rfl rfl rfl rfl rfl (ok_X8_fails d (by omega) h (1 : Int32) (1 : Int32)) ?_
    exact sZ rfl rfl (fun z hg => by cases hg; exact ⟨rfl, rfl⟩)
noncomputable def F_X8_noNode (h : PH) (p0 : Int32) : Option (Int32 × PH) :=
 (ald 1556 h 124 (0 : Int32)).bind fun z1 =>
 if ¬ (F_X8_in h p0 (0 : Int32) (z1 - (1 : Int32))) = 0 then
  (zbo (F_X8_fails h (0 : Int32) (1 : Int32)).1).bind fun z2 => some ((z2, (F_X8_fails h (0 : Int32) (1 : Int32)).2))
 else
  (zbo (F_X8_fails h (1 : Int32) (1 : Int32)).1).bind fun z3 => some ((z3, (F_X8_fails h (1 : Int32) (1 : Int32)).2))
set_option maxHeartbeats 4000000 in
set_option maxRecDepth 100000 in
theorem ok_X8_noNode (d : Nat) (hd : 2 ≤ d) (h : PH) (p0 : Int32) : ∀ z, F_X8_noNode h p0 = some z → Ex d 168 [.ref 122, .int p0] h (.inl (some (.int z.1))) (z.2) := by
  obtain ⟨d, rfl⟩ : ∃ e, d = e + 1 := ⟨d - 1, by omega⟩
  intro z hz
  refine ⟨rfl, ?_⟩
  refine (?_ : Sim (Ex d) mi_X8_noNode (fun o1 h1 => o1 = _ ∧ h1 = _) (F_X8_noNode h p0) (fun t => t = z) 0 [some (.ref 122), some (.int p0)] [] h 0) z hz rfl
  unfold F_X8_noNode
  refine sS rfl rfl ?_
  refine sS rfl rfl ?_
  refine sS rfl rfl ?_
  refine sS rfl rfl ?_
  refine sS rfl rfl ?_
  refine sS rfl rfl ?_
  refine sIald rfl rfl (fun z1 => ?_)
  refine sS rfl rfl ?_
  refine sS rfl rfl ?_
  refine sT1 (c' := 0) rfl rfl rfl rfl rfl rfl (ok_X8_in d (by omega) h p0 (0 : Int32) (z1 - (1 : Int32))) ?_
  refine sB rfl rfl ?_ ?_
  · refine sS rfl rfl ?_
    refine sS rfl rfl ?_
    refine sT1 (c' := 0) rfl rfl rfl rfl rfl rfl (ok_X8_fails d (by omega) h (0 : Int32) (1 : Int32)) ?_
    exact sZ rfl rfl (fun z hg => by cases hg; exact ⟨rfl, rfl⟩)
  · refine sS rfl rfl ?_
    refine sS rfl rfl ?_
    refine sS rfl rfl ?_
    refine sT1 (c' := 0) rfl rfl rfl rfl rfl rfl (ok_X8_fails d (by omega) h (1 : Int32) (1 : Int32)) ?_
    exact sZ rfl rfl (fun z hg => by cases hg; exact ⟨rfl, rfl⟩)
noncomputable def F_X8_noTour (h : PH) (p0 : Int32) : Option (Int32 × PH) :=
 (ald 1556 h 124 (4 : Int32)).bind fun z1 =>
 if ¬ (F_X8_in h p0 (0 : Int32) (z1 - (1 : Int32))) = 0 then
  (zbo (F_X8_fails h (0 : Int32) (1 : Int32)).1).bind fun z2 => some ((z2, (F_X8_fails h (0 : Int32) (1 : Int32)).2))
 else
  (zbo (F_X8_fails h (1 : Int32) (1 : Int32)).1).bind fun z3 => some ((z3, (F_X8_fails h (1 : Int32) (1 : Int32)).2))
set_option maxHeartbeats 4000000 in
set_option maxRecDepth 100000 in
theorem ok_X8_noTour (d : Nat) (hd : 2 ≤ d) (h : PH) (p0 : Int32) : ∀ z, F_X8_noTour h p0 = some z → Ex d 169 [.ref 122, .int p0] h (.inl (some (.int z.1))) (z.2) := by
  obtain ⟨d, rfl⟩ : ∃ e, d = e + 1 := ⟨d - 1, by omega⟩
  intro z hz
  refine ⟨rfl, ?_⟩
  refine (?_ : Sim (Ex d) mi_X8_noTour (fun o1 h1 => o1 = _ ∧ h1 = _) (F_X8_noTour h p0) (fun t => t = z) 0 [some (.ref 122), some (.int p0)] [] h 0) z hz rfl
  unfold F_X8_noTour
  refine sS rfl rfl ?_
  refine sS rfl rfl ?_
  refine sS rfl rfl ?_
  refine sS rfl rfl ?_
  refine sS rfl rfl ?_
  refine sS rfl rfl ?_
  refine sIald rfl rfl (fun z1 => ?_)
  refine sS rfl rfl ?_
  refine sS rfl rfl ?_
  refine sT1 (c' := 0) rfl rfl rfl rfl rfl rfl (ok_X8_in d (by omega) h p0 (0 : Int32) (z1 - (1 : Int32))) ?_
  refine sB rfl rfl ?_ ?_
  · refine sS rfl rfl ?_
    refine sS rfl rfl ?_
    refine sT1 (c' := 0) rfl rfl rfl rfl rfl rfl (ok_X8_fails d (by omega) h (0 : Int32) (1 : Int32)) ?_
    exact sZ rfl rfl (fun z hg => by cases hg; exact ⟨rfl, rfl⟩)
  · refine sS rfl rfl ?_
    refine sS rfl rfl ?_
    refine sS rfl rfl ?_
    refine sT1 (c' := 0) rfl rfl rfl rfl rfl rfl (ok_X8_fails d (by omega) h (1 : Int32) (1 : Int32)) ?_
    exact sZ rfl rfl (fun z hg => by cases hg; exact ⟨rfl, rfl⟩)
noncomputable def F_X8_told (h : PH) (p0 : Int32) : Int32 :=
 if p0 < (1000000 : Int32) then
  p0
 else
  (-1 : Int32)
set_option maxHeartbeats 4000000 in
set_option maxRecDepth 100000 in
theorem ok_X8_told (d : Nat) (hd : 1 ≤ d) (h : PH) (p0 : Int32) : Ex d 170 [.int p0] h (.inl (some (.int (F_X8_told h p0)))) (h) := by
  obtain ⟨d, rfl⟩ : ∃ e, d = e + 1 := ⟨d - 1, by omega⟩
  suffices key : ∀ z, F_X8_told h p0 = z → Ex (d + 1) 170 [.int p0] h (.inl (some (.int z))) (h) from key _ rfl
  intro z hz
  refine ⟨rfl, ?_⟩
  refine (?_ : Sim (Ex d) mi_X8_told (fun o1 h1 => o1 = _ ∧ h1 = _) (some (F_X8_told h p0)) (fun t => t = z) 0 [some (.int p0)] [] h 0) z (by rw [hz]) rfl
  clear hz
  unfold F_X8_told
  refine sS rfl rfl ?_
  refine sS rfl rfl ?_
  refine sBt rfl rfl ?_ ?_
  · refine sS rfl rfl ?_
    exact sR rfl rfl (fun hg => by cases hg; exact ⟨rfl, rfl⟩)
  · refine sS rfl rfl ?_
    refine sS rfl rfl ?_
    exact sR rfl rfl (fun hg => by cases hg; exact ⟨rfl, rfl⟩)
noncomputable def F_X8_nodeCount (h : PH) : Option (Int32 × PH) :=
 (ald 1556 (pu h 122 0 (0 : Int32)) 124 (0 : Int32)).bind fun z1 =>
 some ((z1, (pu h 122 0 (0 : Int32))))
set_option maxHeartbeats 4000000 in
set_option maxRecDepth 100000 in
theorem ok_X8_nodeCount (d : Nat) (hd : 1 ≤ d) (h : PH) : ∀ z, F_X8_nodeCount h = some z → Ex d 171 [.ref 122] h (.inl (some (.int z.1))) (z.2) := by
  obtain ⟨d, rfl⟩ : ∃ e, d = e + 1 := ⟨d - 1, by omega⟩
  intro z hz
  refine ⟨rfl, ?_⟩
  refine (?_ : Sim (Ex d) mi_X8_nodeCount (fun o1 h1 => o1 = _ ∧ h1 = _) (F_X8_nodeCount h) (fun t => t = z) 0 [some (.ref 122)] [] h 0) z hz rfl
  unfold F_X8_nodeCount
  refine sS rfl rfl ?_
  refine sS rfl rfl ?_
  refine sS rfl rfl ?_
  refine sS rfl rfl ?_
  refine sS rfl rfl ?_
  refine sS rfl rfl ?_
  refine sIald rfl rfl (fun z1 => ?_)
  exact sR rfl rfl (fun hg => by cases hg; exact ⟨rfl, rfl⟩)
noncomputable def F_X8_edgeCount (h : PH) : Option (Int32 × PH) :=
 (ald 1556 (pu h 122 0 (0 : Int32)) 124 (2 : Int32)).bind fun z1 =>
 some ((z1, (pu h 122 0 (0 : Int32))))
set_option maxHeartbeats 4000000 in
set_option maxRecDepth 100000 in
theorem ok_X8_edgeCount (d : Nat) (hd : 1 ≤ d) (h : PH) : ∀ z, F_X8_edgeCount h = some z → Ex d 172 [.ref 122] h (.inl (some (.int z.1))) (z.2) := by
  obtain ⟨d, rfl⟩ : ∃ e, d = e + 1 := ⟨d - 1, by omega⟩
  intro z hz
  refine ⟨rfl, ?_⟩
  refine (?_ : Sim (Ex d) mi_X8_edgeCount (fun o1 h1 => o1 = _ ∧ h1 = _) (F_X8_edgeCount h) (fun t => t = z) 0 [some (.ref 122)] [] h 0) z hz rfl
  unfold F_X8_edgeCount
  refine sS rfl rfl ?_
  refine sS rfl rfl ?_
  refine sS rfl rfl ?_
  refine sS rfl rfl ?_
  refine sS rfl rfl ?_
  refine sS rfl rfl ?_
  refine sIald rfl rfl (fun z1 => ?_)
  exact sR rfl rfl (fun hg => by cases hg; exact ⟨rfl, rfl⟩)
noncomputable def F_X8_depotCount (h : PH) : Option (Int32 × PH) :=
 (ald 1556 (pu h 122 0 (0 : Int32)) 124 (3 : Int32)).bind fun z1 =>
 some ((z1, (pu h 122 0 (0 : Int32))))
set_option maxHeartbeats 4000000 in
set_option maxRecDepth 100000 in
theorem ok_X8_depotCount (d : Nat) (hd : 1 ≤ d) (h : PH) : ∀ z, F_X8_depotCount h = some z → Ex d 173 [.ref 122] h (.inl (some (.int z.1))) (z.2) := by
  obtain ⟨d, rfl⟩ : ∃ e, d = e + 1 := ⟨d - 1, by omega⟩
  intro z hz
  refine ⟨rfl, ?_⟩
  refine (?_ : Sim (Ex d) mi_X8_depotCount (fun o1 h1 => o1 = _ ∧ h1 = _) (F_X8_depotCount h) (fun t => t = z) 0 [some (.ref 122)] [] h 0) z hz rfl
  unfold F_X8_depotCount
  refine sS rfl rfl ?_
  refine sS rfl rfl ?_
  refine sS rfl rfl ?_
  refine sS rfl rfl ?_
  refine sS rfl rfl ?_
  refine sS rfl rfl ?_
  refine sIald rfl rfl (fun z1 => ?_)
  exact sR rfl rfl (fun hg => by cases hg; exact ⟨rfl, rfl⟩)
noncomputable def F_X8_tourCount (h : PH) : Option (Int32 × PH) :=
 (ald 1556 (pu h 122 0 (0 : Int32)) 124 (4 : Int32)).bind fun z1 =>
 some ((z1, (pu h 122 0 (0 : Int32))))
set_option maxHeartbeats 4000000 in
set_option maxRecDepth 100000 in
theorem ok_X8_tourCount (d : Nat) (hd : 1 ≤ d) (h : PH) : ∀ z, F_X8_tourCount h = some z → Ex d 174 [.ref 122] h (.inl (some (.int z.1))) (z.2) := by
  obtain ⟨d, rfl⟩ : ∃ e, d = e + 1 := ⟨d - 1, by omega⟩
  intro z hz
  refine ⟨rfl, ?_⟩
  refine (?_ : Sim (Ex d) mi_X8_tourCount (fun o1 h1 => o1 = _ ∧ h1 = _) (F_X8_tourCount h) (fun t => t = z) 0 [some (.ref 122)] [] h 0) z hz rfl
  unfold F_X8_tourCount
  refine sS rfl rfl ?_
  refine sS rfl rfl ?_
  refine sS rfl rfl ?_
  refine sS rfl rfl ?_
  refine sS rfl rfl ?_
  refine sS rfl rfl ?_
  refine sIald rfl rfl (fun z1 => ?_)
  exact sR rfl rfl (fun hg => by cases hg; exact ⟨rfl, rfl⟩)
noncomputable def F_X8_edge_ (h : PH) (p0 : Int32) (p1 : Int32) : Option (Int32 × PH) :=
 (F_X8_noEdge (pu h 122 0 (0 : Int32)) p0).bind fun z1 =>
 if ¬ z1.1 = 0 then
  some (((0 : Int32), z1.2))
 else
  jn (fun (v3 : Int32) =>
   if (F_X8_fails z1.2 v3 (2 : Int32)).1 = 0 then
    (ald 1556 (F_X8_fails z1.2 v3 (2 : Int32)).2 124 ((F_X8_edge (F_X8_fails z1.2 v3 (2 : Int32)).2 p0) + p1)).bind fun z4 =>
    some ((z4, (F_X8_fails z1.2 v3 (2 : Int32)).2))
   else
    some (((0 : Int32), (F_X8_fails z1.2 v3 (2 : Int32)).2))) (fun k2 =>
   if ¬ (F_X8_in z1.2 p1 (0 : Int32) (4 : Int32)) = 0 then
    k2 ((0 : Int32))
   else
    k2 ((1 : Int32)))
set_option maxHeartbeats 4000000 in
set_option maxRecDepth 100000 in
theorem ok_X8_edge_ (d : Nat) (hd : 3 ≤ d) (h : PH) (p0 : Int32) (p1 : Int32) : ∀ z, F_X8_edge_ h p0 p1 = some z → Ex d 175 [.ref 122, .int p0, .int p1] h (.inl (some (.int z.1))) (z.2) := by
  obtain ⟨d, rfl⟩ : ∃ e, d = e + 1 := ⟨d - 1, by omega⟩
  intro z hz
  refine ⟨rfl, ?_⟩
  refine (?_ : Sim (Ex d) mi_X8_edge_ (fun o1 h1 => o1 = _ ∧ h1 = _) (F_X8_edge_ h p0 p1) (fun t => t = z) 0 [some (.ref 122), some (.int p0), some (.int p1)] [] h 0) z hz rfl
  unfold F_X8_edge_
  refine sS rfl rfl ?_
  refine sS rfl rfl ?_
  refine sS rfl rfl ?_
  refine sS rfl rfl ?_
  refine sS rfl rfl ?_
  refine sC1 (c' := 0) rfl rfl rfl rfl rfl rfl (ok_X8_noEdge d (by omega) (pu h 122 0 (0 : Int32)) p0) (fun z1 => ?_)
  refine sB rfl rfl ?_ ?_
  · refine sS rfl rfl ?_
    refine sS rfl rfl ?_
    exact sR rfl rfl (fun hg => by cases hg; exact ⟨rfl, rfl⟩)
  · refine sS rfl rfl ?_
    refine sS rfl rfl ?_
    refine sS rfl rfl ?_
    refine sS rfl rfl ?_
    refine sT1 (c' := 0) rfl rfl rfl rfl rfl rfl (ok_X8_in d (by omega) z1.2 p1 (0 : Int32) (4 : Int32)) ?_
    refine sJn 28 (fun (v3 : Int32) => [some (.ref 122), some (.int p0), some (.int p1)]) (fun (v3 : Int32) => [.int v3, .ref 122]) (fun (v3 : Int32) => z1.2) (fun v3 => ?_) (fun k2 hk2 => ?_)
    · refine sS rfl rfl ?_
      refine sT1 (c' := 0) rfl rfl rfl rfl rfl rfl (ok_X8_fails d (by omega) z1.2 v3 (2 : Int32)) ?_
      refine sB rfl rfl ?_ ?_
      · refine sS rfl rfl ?_
        refine sS rfl rfl ?_
        refine sS rfl rfl ?_
        refine sT1 (c' := 0) rfl rfl rfl rfl rfl rfl (ok_X8_edge d (by omega) (F_X8_fails z1.2 v3 (2 : Int32)).2 p0) ?_
        refine sS rfl rfl ?_
        refine sS rfl rfl ?_
        refine sIald rfl rfl (fun z4 => ?_)
        exact sR rfl rfl (fun hg => by cases hg; exact ⟨rfl, rfl⟩)
      · refine sS rfl rfl ?_
        refine sS rfl rfl ?_
        exact sR rfl rfl (fun hg => by cases hg; exact ⟨rfl, rfl⟩)
    · refine sB rfl rfl ?_ ?_
      · refine sS rfl rfl ?_
        have h3 := hk2 ((0 : Int32))
        try dsimp only at h3
        exact h3
      · refine sS rfl rfl ?_
        refine sS rfl rfl ?_
        have h3 := hk2 ((1 : Int32))
        try dsimp only at h3
        exact h3
noncomputable def F_X8_mayFollow (h : PH) (p0 : Int32) (p1 : Int32) : Option (Int32 × PH) :=
 (F_X8_noArc (pu h 122 0 (0 : Int32)) p0).bind fun z1 =>
 if ¬ z1.1 = 0 then
  some (((0 : Int32), z1.2))
 else
  (F_X8_noArc z1.2 p1).bind fun z2 =>
  if ¬ z2.1 = 0 then
   some (((0 : Int32), z2.2))
  else
   (F_X8_follows z2.2 p0 p1).bind fun z3 =>
   if z3 = 0 then
    some (((0 : Int32), z2.2))
   else
    some (((1 : Int32), z2.2))
set_option maxHeartbeats 4000000 in
set_option maxRecDepth 100000 in
theorem ok_X8_mayFollow (d : Nat) (hd : 4 ≤ d) (h : PH) (p0 : Int32) (p1 : Int32) : ∀ z, F_X8_mayFollow h p0 p1 = some z → Ex d 176 [.ref 122, .int p0, .int p1] h (.inl (some (.int z.1))) (z.2) := by
  obtain ⟨d, rfl⟩ : ∃ e, d = e + 1 := ⟨d - 1, by omega⟩
  intro z hz
  refine ⟨rfl, ?_⟩
  refine (?_ : Sim (Ex d) mi_X8_mayFollow (fun o1 h1 => o1 = _ ∧ h1 = _) (F_X8_mayFollow h p0 p1) (fun t => t = z) 0 [some (.ref 122), some (.int p0), some (.int p1)] [] h 0) z hz rfl
  unfold F_X8_mayFollow
  refine sS rfl rfl ?_
  refine sS rfl rfl ?_
  refine sS rfl rfl ?_
  refine sS rfl rfl ?_
  refine sS rfl rfl ?_
  refine sC1 (c' := 0) rfl rfl rfl rfl rfl rfl (ok_X8_noArc d (by omega) (pu h 122 0 (0 : Int32)) p0) (fun z1 => ?_)
  refine sB rfl rfl ?_ ?_
  · refine sS rfl rfl ?_
    exact sR rfl rfl (fun hg => by cases hg; exact ⟨rfl, rfl⟩)
  · refine sS rfl rfl ?_
    refine sS rfl rfl ?_
    refine sC1 (c' := 0) rfl rfl rfl rfl rfl rfl (ok_X8_noArc d (by omega) z1.2 p1) (fun z2 => ?_)
    refine sB rfl rfl ?_ ?_
    · refine sS rfl rfl ?_
      exact sR rfl rfl (fun hg => by cases hg; exact ⟨rfl, rfl⟩)
    · refine sS rfl rfl ?_
      refine sS rfl rfl ?_
      refine sS rfl rfl ?_
      refine sC1 (c' := 0) rfl rfl rfl rfl rfl rfl (ok_X8_follows d (by omega) z2.2 p0 p1) (fun z3 => ?_)
      refine sB rfl rfl ?_ ?_
      · refine sS rfl rfl ?_
        exact sR rfl rfl (fun hg => by cases hg; exact ⟨rfl, rfl⟩)
      · refine sS rfl rfl ?_
        refine sS rfl rfl ?_
        exact sR rfl rfl (fun hg => by cases hg; exact ⟨rfl, rfl⟩)
noncomputable def F_X8_deadhead (h : PH) (p0 : Int32) (p1 : Int32) : Option (Int32 × PH) :=
 (F_X8_noArc (pu h 122 0 (0 : Int32)) p0).bind fun z1 =>
 if ¬ z1.1 = 0 then
  some (((0 : Int32), z1.2))
 else
  (F_X8_noArc z1.2 p1).bind fun z2 =>
  if z2.1 = 0 then
   (aidx 28 p0).bind fun j3 =>
   (ald 28 z2.2 (137 + 1 * j3) p1).bind fun z4 =>
   some (((F_X8_told z2.2 z4), z2.2))
  else
   some (((0 : Int32), z2.2))
set_option maxHeartbeats 4000000 in
set_option maxRecDepth 100000 in
theorem ok_X8_deadhead (d : Nat) (hd : 3 ≤ d) (h : PH) (p0 : Int32) (p1 : Int32) : ∀ z, F_X8_deadhead h p0 p1 = some z → Ex d 177 [.ref 122, .int p0, .int p1] h (.inl (some (.int z.1))) (z.2) := by
  obtain ⟨d, rfl⟩ : ∃ e, d = e + 1 := ⟨d - 1, by omega⟩
  intro z hz
  refine ⟨rfl, ?_⟩
  refine (?_ : Sim (Ex d) mi_X8_deadhead (fun o1 h1 => o1 = _ ∧ h1 = _) (F_X8_deadhead h p0 p1) (fun t => t = z) 0 [some (.ref 122), some (.int p0), some (.int p1)] [] h 0) z hz rfl
  unfold F_X8_deadhead
  refine sS rfl rfl ?_
  refine sS rfl rfl ?_
  refine sS rfl rfl ?_
  refine sS rfl rfl ?_
  refine sS rfl rfl ?_
  refine sC1 (c' := 0) rfl rfl rfl rfl rfl rfl (ok_X8_noArc d (by omega) (pu h 122 0 (0 : Int32)) p0) (fun z1 => ?_)
  refine sB rfl rfl ?_ ?_
  · refine sS rfl rfl ?_
    refine sS rfl rfl ?_
    exact sR rfl rfl (fun hg => by cases hg; exact ⟨rfl, rfl⟩)
  · refine sS rfl rfl ?_
    refine sS rfl rfl ?_
    refine sC1 (c' := 0) rfl rfl rfl rfl rfl rfl (ok_X8_noArc d (by omega) z1.2 p1) (fun z2 => ?_)
    refine sB rfl rfl ?_ ?_
    · refine sS rfl rfl ?_
      refine sS rfl rfl ?_
      refine sS rfl rfl ?_
      refine sRald6 rfl rfl (fun j3 hj3 => ?_)
      refine sS rfl rfl ?_
      refine sIald rfl (isGap_h hj3) (fun z4 => ?_)
      refine sT1 (c' := 0) rfl rfl rfl rfl rfl rfl (ok_X8_told d (by omega) z2.2 z4) ?_
      exact sR rfl rfl (fun hg => by cases hg; exact ⟨rfl, rfl⟩)
    · refine sS rfl rfl ?_
      refine sS rfl rfl ?_
      exact sR rfl rfl (fun hg => by cases hg; exact ⟨rfl, rfl⟩)
noncomputable def F_X8_distance (h : PH) (p0 : Int32) (p1 : Int32) : Option (Int32 × PH) :=
 (F_X8_noNode (pu h 122 0 (0 : Int32)) p0).bind fun z1 =>
 if ¬ z1.1 = 0 then
  some (((0 : Int32), z1.2))
 else
  (F_X8_noNode z1.2 p1).bind fun z2 =>
  if z2.1 = 0 then
   (F_X8_distanceOf z2.2 p0 p1).bind fun z3 =>
   some (((F_X8_told z2.2 z3), z2.2))
  else
   some (((0 : Int32), z2.2))
set_option maxHeartbeats 4000000 in
set_option maxRecDepth 100000 in
theorem ok_X8_distance (d : Nat) (hd : 5 ≤ d) (h : PH) (p0 : Int32) (p1 : Int32) : ∀ z, F_X8_distance h p0 p1 = some z → Ex d 178 [.ref 122, .int p0, .int p1] h (.inl (some (.int z.1))) (z.2) := by
  obtain ⟨d, rfl⟩ : ∃ e, d = e + 1 := ⟨d - 1, by omega⟩
  intro z hz
  refine ⟨rfl, ?_⟩
  refine (?_ : Sim (Ex d) mi_X8_distance (fun o1 h1 => o1 = _ ∧ h1 = _) (F_X8_distance h p0 p1) (fun t => t = z) 0 [some (.ref 122), some (.int p0), some (.int p1)] [] h 0) z hz rfl
  unfold F_X8_distance
  refine sS rfl rfl ?_
  refine sS rfl rfl ?_
  refine sS rfl rfl ?_
  refine sS rfl rfl ?_
  refine sS rfl rfl ?_
  refine sC1 (c' := 0) rfl rfl rfl rfl rfl rfl (ok_X8_noNode d (by omega) (pu h 122 0 (0 : Int32)) p0) (fun z1 => ?_)
  refine sB rfl rfl ?_ ?_
  · refine sS rfl rfl ?_
    refine sS rfl rfl ?_
    exact sR rfl rfl (fun hg => by cases hg; exact ⟨rfl, rfl⟩)
  · refine sS rfl rfl ?_
    refine sS rfl rfl ?_
    refine sC1 (c' := 0) rfl rfl rfl rfl rfl rfl (ok_X8_noNode d (by omega) z1.2 p1) (fun z2 => ?_)
    refine sB rfl rfl ?_ ?_
    · refine sS rfl rfl ?_
      refine sS rfl rfl ?_
      refine sS rfl rfl ?_
      refine sC1 (c' := 0) rfl rfl rfl rfl rfl rfl (ok_X8_distanceOf d (by omega) z2.2 p0 p1) (fun z3 => ?_)
      refine sT1 (c' := 0) rfl rfl rfl rfl rfl rfl (ok_X8_told d (by omega) z2.2 z3) ?_
      exact sR rfl rfl (fun hg => by cases hg; exact ⟨rfl, rfl⟩)
    · refine sS rfl rfl ?_
      refine sS rfl rfl ?_
      exact sR rfl rfl (fun hg => by cases hg; exact ⟨rfl, rfl⟩)
noncomputable def F_X8_serviceCost (h : PH) (p0 : Int32) : Option (Int32 × PH) :=
 (F_X8_noArc (pu h 122 0 (0 : Int32)) p0).bind fun z1 =>
 if z1.1 = 0 then
  (F_X8_serviceOf z1.2 p0).bind fun z2 =>
  some ((z2.1, z2.2))
 else
  some (((0 : Int32), z1.2))
set_option maxHeartbeats 4000000 in
set_option maxRecDepth 100000 in
theorem ok_X8_serviceCost (d : Nat) (hd : 4 ≤ d) (h : PH) (p0 : Int32) : ∀ z, F_X8_serviceCost h p0 = some z → Ex d 179 [.ref 122, .int p0] h (.inl (some (.int z.1))) (z.2) := by
  obtain ⟨d, rfl⟩ : ∃ e, d = e + 1 := ⟨d - 1, by omega⟩
  intro z hz
  refine ⟨rfl, ?_⟩
  refine (?_ : Sim (Ex d) mi_X8_serviceCost (fun o1 h1 => o1 = _ ∧ h1 = _) (F_X8_serviceCost h p0) (fun t => t = z) 0 [some (.ref 122), some (.int p0)] [] h 0) z hz rfl
  unfold F_X8_serviceCost
  refine sS rfl rfl ?_
  refine sS rfl rfl ?_
  refine sS rfl rfl ?_
  refine sS rfl rfl ?_
  refine sS rfl rfl ?_
  refine sC1 (c' := 0) rfl rfl rfl rfl rfl rfl (ok_X8_noArc d (by omega) (pu h 122 0 (0 : Int32)) p0) (fun z1 => ?_)
  refine sB rfl rfl ?_ ?_
  · refine sS rfl rfl ?_
    refine sS rfl rfl ?_
    refine sC1 (c' := 0) rfl rfl rfl rfl rfl rfl (ok_X8_serviceOf d (by omega) z1.2 p0) (fun z2 => ?_)
    exact sR rfl rfl (fun hg => by cases hg; exact ⟨rfl, rfl⟩)
  · refine sS rfl rfl ?_
    refine sS rfl rfl ?_
    exact sR rfl rfl (fun hg => by cases hg; exact ⟨rfl, rfl⟩)
noncomputable def F_X8_oddOnes (h : PH) : Option (Int32) :=
 loop (fun (s1 : Int32 × Int32) =>
  (ald 1556 h 124 (2 : Int32)).bind fun z2 =>
  if z2 ≤ s1.2 then
   some (.inr (s1.1))
  else
   (F_X8_demandOf h s1.2).bind fun z3 =>
   if z3 ≤ 0 then
    some (.inl (s1.1, (s1.2 + (1 : Int32))))
   else
    (ald 1556 h 124 (F_X8_edge h s1.2)).bind fun z4 =>
    (ald 1556 h 124 ((F_X8_edge h s1.2) + (1 : Int32))).bind fun z5 =>
    some (.inl ((s1.1 ^^^ (((1 : Int32) <<< (z4 &&& 31)) ^^^ ((1 : Int32) <<< (z5 &&& 31)))), (s1.2 + (1 : Int32))))) ((0 : Int32), (0 : Int32))
set_option maxHeartbeats 4000000 in
set_option maxRecDepth 100000 in
theorem ok_X8_oddOnes (d : Nat) (hd : 3 ≤ d) (h : PH) : ∀ z, F_X8_oddOnes h = some z → Ex d 180 [.ref 122] h (.inl (some (.int z))) (h) := by
  obtain ⟨d, rfl⟩ : ∃ e, d = e + 1 := ⟨d - 1, by omega⟩
  intro z hz
  refine ⟨rfl, ?_⟩
  refine (?_ : Sim (Ex d) mi_X8_oddOnes (fun o1 h1 => o1 = _ ∧ h1 = _) (F_X8_oddOnes h) (fun t => t = z) 0 [some (.ref 122), none, none] [] h 0) z hz rfl
  unfold F_X8_oddOnes
  refine sS rfl rfl ?_
  refine sS rfl rfl ?_
  refine sS rfl rfl ?_
  refine sS rfl rfl ?_
  refine sL (pc := 4) (lv := fun (s1 : Int32 × Int32) => [some (.ref 122), some (.int (s1.1)), some (.int (s1.2))]) (h := fun (s1 : Int32 × Int32) => h) (fun s1 => ?_) ((0 : Int32), (0 : Int32))
  refine sS rfl rfl ?_
  refine sS rfl rfl ?_
  refine sS rfl rfl ?_
  refine sS rfl rfl ?_
  refine sIald rfl rfl (fun z2 => ?_)
  refine sB rfl rfl ?_ ?_
  · refine sS rfl rfl ?_
    exact sR rfl rfl (fun hg => by cases hg; exact ⟨rfl, rfl⟩)
  · refine sS rfl rfl ?_
    refine sS rfl rfl ?_
    refine sC1 (c' := 0) rfl rfl rfl rfl rfl rfl (ok_X8_demandOf d (by omega) h s1.2) (fun z3 => ?_)
    refine sB rfl rfl ?_ ?_
    · refine sS rfl rfl ?_
      refine sS rfl rfl ?_
      exact sJ (fun h2 => by (try dsimp only at h2); exact h2)
    · refine sS rfl rfl ?_
      refine sS rfl rfl ?_
      refine sS rfl rfl ?_
      refine sS rfl rfl ?_
      refine sS rfl rfl ?_
      refine sT1 (c' := 0) rfl rfl rfl rfl rfl rfl (ok_X8_edge d (by omega) h s1.2) ?_
      refine sIald rfl rfl (fun z4 => ?_)
      refine sS rfl rfl ?_
      refine sS rfl rfl ?_
      refine sS rfl rfl ?_
      refine sS rfl rfl ?_
      refine sS rfl rfl ?_
      refine sT1 (c' := 0) rfl rfl rfl rfl rfl rfl (ok_X8_edge d (by omega) h s1.2) ?_
      refine sS rfl rfl ?_
      refine sS rfl rfl ?_
      refine sIald rfl rfl (fun z5 => ?_)
      refine sS rfl rfl ?_
      refine sS rfl rfl ?_
      refine sS rfl rfl ?_
      refine sS rfl rfl ?_
      refine sS rfl rfl ?_
      refine sS rfl rfl ?_
      exact sJ (fun h2 => by (try dsimp only at h2); exact h2)
noncomputable def F_X8_oddNodes (h : PH) : Option (Int32 × PH) :=
 (F_X8_oddOnes (pu h 122 0 (0 : Int32))).bind fun z1 =>
 some ((z1, (pu h 122 0 (0 : Int32))))
set_option maxHeartbeats 4000000 in
set_option maxRecDepth 100000 in
theorem ok_X8_oddNodes (d : Nat) (hd : 4 ≤ d) (h : PH) : ∀ z, F_X8_oddNodes h = some z → Ex d 181 [.ref 122] h (.inl (some (.int z.1))) (z.2) := by
  obtain ⟨d, rfl⟩ : ∃ e, d = e + 1 := ⟨d - 1, by omega⟩
  intro z hz
  refine ⟨rfl, ?_⟩
  refine (?_ : Sim (Ex d) mi_X8_oddNodes (fun o1 h1 => o1 = _ ∧ h1 = _) (F_X8_oddNodes h) (fun t => t = z) 0 [some (.ref 122)] [] h 0) z hz rfl
  unfold F_X8_oddNodes
  refine sS rfl rfl ?_
  refine sS rfl rfl ?_
  refine sS rfl rfl ?_
  refine sS rfl rfl ?_
  refine sC1 (c' := 0) rfl rfl rfl rfl rfl rfl (ok_X8_oddOnes d (by omega) (pu h 122 0 (0 : Int32))) (fun z1 => ?_)
  exact sR rfl rfl (fun hg => by cases hg; exact ⟨rfl, rfl⟩)
noncomputable def F_X8_match (S : PH → Int32 → Option (Int32)) (h : PH) (p0 : Int32) : Option (Int32) :=
 if ¬ p0 = 0 then
  loop (fun (s1 : Int32) =>
   if ¬ ((p0 >>> (s1 &&& 31)) &&& (1 : Int32)) = 0 then
    loop (fun (s2 : Int32 × Int32) =>
     (ald 1556 h 124 (0 : Int32)).bind fun z3 =>
     if z3 ≤ s2.2 then
      some (.inr (.inr (s2.1)))
     else
      if ¬ ((p0 >>> (s2.2 &&& 31)) &&& (1 : Int32)) = (1 : Int32) then
       some (.inl (s2.1, (s2.2 + (1 : Int32))))
      else
       (F_X8_distanceOf h s1 s2.2).bind fun z4 =>
       (F_X8_distanceOf h s2.2 s1).bind fun z5 =>
       (S h (p0 &&& ((((1 : Int32) <<< (s1 &&& 31)) ||| ((1 : Int32) <<< (s2.2 &&& 31))) ^^^ (-1 : Int32)))).bind fun z6 =>
       some (.inl ((F_X8_min h s2.1 ((F_X8_min h z4 z5) + z6)), (s2.2 + (1 : Int32))))) ((1000000 : Int32), (s1 + (1 : Int32)))
   else
    some (.inl ((s1 + (1 : Int32))))) ((0 : Int32))
 else
  some ((0 : Int32))
set_option maxHeartbeats 4000000 in
set_option maxRecDepth 100000 in
theorem ok_X8_match (S : PH → Int32 → Option (Int32)) (dS : Nat) (hB : 4 ≤ dS) (hS : ∀ d, dS ≤ d → ∀ (h : PH) (p0 : Int32), ∀ z, S h p0 = some z → Ex d 182 [.ref 122, .int p0] h (.inl (some (.int z))) (h)) (d : Nat) (hd : dS + 1 ≤ d) (h : PH) (p0 : Int32) : ∀ z, F_X8_match S h p0 = some z → Ex d 182 [.ref 122, .int p0] h (.inl (some (.int z))) (h) := by
  obtain ⟨d, rfl⟩ : ∃ e, d = e + 1 := ⟨d - 1, by omega⟩
  intro z hz
  refine ⟨rfl, ?_⟩
  refine (?_ : Sim (Ex d) mi_X8_match (fun o1 h1 => o1 = _ ∧ h1 = _) (F_X8_match S h p0) (fun t => t = z) 0 [some (.ref 122), some (.int p0), none, none, none] [] h 0) z hz rfl
  unfold F_X8_match
  refine sS rfl rfl ?_
  refine sB rfl rfl ?_ ?_
  · refine sS rfl rfl ?_
    refine sS rfl rfl ?_
    refine sS rfl rfl ?_
    refine sS rfl rfl ?_
    refine sL (pc := 11) (lv := fun (s1 : Int32) => [some (.ref 122), some (.int p0), some (.int s1), some (.int ((1000000 : Int32))), none]) (h := fun (s1 : Int32) => h) (fun s1 => ?_) ((0 : Int32))
    refine sS rfl rfl ?_
    refine sS rfl rfl ?_
    refine sS rfl rfl ?_
    refine sS rfl rfl ?_
    refine sS rfl rfl ?_
    refine sB rfl rfl ?_ ?_
    · refine sS rfl rfl ?_
      refine sS rfl rfl ?_
      refine sS rfl rfl ?_
      refine sS rfl rfl ?_
      refine sL (pc := 30) (lv := fun (s2 : Int32 × Int32) => [some (.ref 122), some (.int p0), some (.int s1), some (.int (s2.1)), some (.int (s2.2))]) (h := fun (s2 : Int32 × Int32) => h) (fun s2 => ?_) ((1000000 : Int32), (s1 + (1 : Int32)))
      refine sS rfl rfl ?_
      refine sS rfl rfl ?_
      refine sS rfl rfl ?_
      refine sS rfl rfl ?_
      refine sIald rfl rfl (fun z3 => ?_)
      refine sB rfl rfl ?_ ?_
      · refine sS rfl rfl ?_
        exact sR rfl rfl (fun hg => by cases hg; exact ⟨rfl, rfl⟩)
      · refine sS rfl rfl ?_
        refine sS rfl rfl ?_
        refine sS rfl rfl ?_
        refine sS rfl rfl ?_
        refine sS rfl rfl ?_
        refine sS rfl rfl ?_
        refine sB rfl rfl ?_ ?_
        · refine sS rfl rfl ?_
          refine sS rfl rfl ?_
          exact sJ (fun h2 => by (try dsimp only at h2); exact h2)
        · refine sS rfl rfl ?_
          refine sS rfl rfl ?_
          refine sS rfl rfl ?_
          refine sS rfl rfl ?_
          refine sC1 (c' := 0) rfl rfl rfl rfl rfl rfl (ok_X8_distanceOf d (by omega) h s1 s2.2) (fun z4 => ?_)
          refine sS rfl rfl ?_
          refine sS rfl rfl ?_
          refine sS rfl rfl ?_
          refine sC1 (c' := 0) rfl rfl rfl rfl rfl rfl (ok_X8_distanceOf d (by omega) h s2.2 s1) (fun z5 => ?_)
          refine sT1 (c' := 0) rfl rfl rfl rfl rfl rfl (ok_X8_min d (by omega) h z4 z5) ?_
          refine sS rfl rfl ?_
          refine sS rfl rfl ?_
          refine sS rfl rfl ?_
          refine sS rfl rfl ?_
          refine sS rfl rfl ?_
          refine sS rfl rfl ?_
          refine sS rfl rfl ?_
          refine sS rfl rfl ?_
          refine sS rfl rfl ?_
          refine sS rfl rfl ?_
          refine sS rfl rfl ?_
          refine sS rfl rfl ?_
          refine sC1 (c' := 0) rfl rfl rfl rfl rfl rfl (hS d (by omega) h (p0 &&& ((((1 : Int32) <<< (s1 &&& 31)) ||| ((1 : Int32) <<< (s2.2 &&& 31))) ^^^ (-1 : Int32)))) (fun z6 => ?_)
          refine sS rfl rfl ?_
          refine sT1 (c' := 0) rfl rfl rfl rfl rfl rfl (ok_X8_min d (by omega) h s2.1 ((F_X8_min h z4 z5) + z6)) ?_
          refine sS rfl rfl ?_
          refine sS rfl rfl ?_
          refine sS rfl rfl ?_
          exact sJ (fun h2 => by (try dsimp only at h2); exact h2)
    · refine sS rfl rfl ?_
      refine sS rfl rfl ?_
      exact sJ (fun h2 => by (try dsimp only at h2); exact h2)
  · refine sS rfl rfl ?_
    exact sR rfl rfl (fun hg => by cases hg; exact ⟨rfl, rfl⟩)
noncomputable def R_X8_match : Nat → PH → Int32 → Option (Int32)
  | 0 => fun _ _ => none
  | n + 1 => F_X8_match (R_X8_match n)
theorem okR_X8_match : ∀ (n d : Nat), 4 + 1 * n ≤ d → ∀ (h : PH) (p0 : Int32), ∀ z, R_X8_match n h p0 = some z → Ex d 182 [.ref 122, .int p0] h (.inl (some (.int z))) (h)
  | 0 => fun d _ h p0 z hz => by cases hz
  | n + 1 => fun d hd h p0 z hz => ok_X8_match (R_X8_match n) (4 + 1 * n) (by omega) (okR_X8_match n) d (by omega) h p0 z hz
noncomputable def F_X8_matching (h : PH) : Option (Int32 × PH) :=
 (F_X8_oddOnes (pu h 122 0 (0 : Int32))).bind fun z1 =>
 (R_X8_match 6 (pu h 122 0 (0 : Int32)) z1).bind fun z2 =>
 some (((F_X8_told (pu h 122 0 (0 : Int32)) z2), (pu h 122 0 (0 : Int32))))
set_option maxHeartbeats 4000000 in
set_option maxRecDepth 100000 in
theorem ok_X8_matching (d : Nat) (hd : 14 ≤ d) (h : PH) : ∀ z, F_X8_matching h = some z → Ex d 183 [.ref 122] h (.inl (some (.int z.1))) (z.2) := by
  obtain ⟨d, rfl⟩ : ∃ e, d = e + 1 := ⟨d - 1, by omega⟩
  intro z hz
  refine ⟨rfl, ?_⟩
  refine (?_ : Sim (Ex d) mi_X8_matching (fun o1 h1 => o1 = _ ∧ h1 = _) (F_X8_matching h) (fun t => t = z) 0 [some (.ref 122)] [] h 0) z hz rfl
  unfold F_X8_matching
  refine sS rfl rfl ?_
  refine sS rfl rfl ?_
  refine sS rfl rfl ?_
  refine sS rfl rfl ?_
  refine sS rfl rfl ?_
  refine sC1 (c' := 0) rfl rfl rfl rfl rfl rfl (ok_X8_oddOnes d (by omega) (pu h 122 0 (0 : Int32))) (fun z1 => ?_)
  refine sC1 (c' := 0) rfl rfl rfl rfl rfl rfl (okR_X8_match 6 d (by omega) (pu h 122 0 (0 : Int32)) z1) (fun z2 => ?_)
  refine sT1 (c' := 0) rfl rfl rfl rfl rfl rfl (ok_X8_told d (by omega) (pu h 122 0 (0 : Int32)) z2) ?_
  exact sR rfl rfl (fun hg => by cases hg; exact ⟨rfl, rfl⟩)
noncomputable def F_X8_depotOf (h : PH) (p0 : Int32) : Option (Int32 × PH) :=
 (F_X8_noTour (pu h 122 0 (0 : Int32)) p0).bind fun z1 =>
 if z1.1 = 0 then
  (ald 1556 z1.2 124 (F_X8_tour z1.2 p0)).bind fun z2 =>
  some ((z2, z1.2))
 else
  some (((0 : Int32), z1.2))
set_option maxHeartbeats 4000000 in
set_option maxRecDepth 100000 in
theorem ok_X8_depotOf (d : Nat) (hd : 3 ≤ d) (h : PH) (p0 : Int32) : ∀ z, F_X8_depotOf h p0 = some z → Ex d 184 [.ref 122, .int p0] h (.inl (some (.int z.1))) (z.2) := by
  obtain ⟨d, rfl⟩ : ∃ e, d = e + 1 := ⟨d - 1, by omega⟩
  intro z hz
  refine ⟨rfl, ?_⟩
  refine (?_ : Sim (Ex d) mi_X8_depotOf (fun o1 h1 => o1 = _ ∧ h1 = _) (F_X8_depotOf h p0) (fun t => t = z) 0 [some (.ref 122), some (.int p0)] [] h 0) z hz rfl
  unfold F_X8_depotOf
  refine sS rfl rfl ?_
  refine sS rfl rfl ?_
  refine sS rfl rfl ?_
  refine sS rfl rfl ?_
  refine sS rfl rfl ?_
  refine sC1 (c' := 0) rfl rfl rfl rfl rfl rfl (ok_X8_noTour d (by omega) (pu h 122 0 (0 : Int32)) p0) (fun z1 => ?_)
  refine sB rfl rfl ?_ ?_
  · refine sS rfl rfl ?_
    refine sS rfl rfl ?_
    refine sS rfl rfl ?_
    refine sT1 (c' := 0) rfl rfl rfl rfl rfl rfl (ok_X8_tour d (by omega) z1.2 p0) ?_
    refine sIald rfl rfl (fun z2 => ?_)
    exact sR rfl rfl (fun hg => by cases hg; exact ⟨rfl, rfl⟩)
  · refine sS rfl rfl ?_
    refine sS rfl rfl ?_
    exact sR rfl rfl (fun hg => by cases hg; exact ⟨rfl, rfl⟩)
noncomputable def F_X8_length (h : PH) (p0 : Int32) : Option (Int32 × PH) :=
 (F_X8_noTour (pu h 122 0 (0 : Int32)) p0).bind fun z1 =>
 if z1.1 = 0 then
  (F_X8_lengthOf z1.2 p0).bind fun z2 =>
  some ((z2, z1.2))
 else
  some (((0 : Int32), z1.2))
set_option maxHeartbeats 4000000 in
set_option maxRecDepth 100000 in
theorem ok_X8_length (d : Nat) (hd : 3 ≤ d) (h : PH) (p0 : Int32) : ∀ z, F_X8_length h p0 = some z → Ex d 185 [.ref 122, .int p0] h (.inl (some (.int z.1))) (z.2) := by
  obtain ⟨d, rfl⟩ : ∃ e, d = e + 1 := ⟨d - 1, by omega⟩
  intro z hz
  refine ⟨rfl, ?_⟩
  refine (?_ : Sim (Ex d) mi_X8_length (fun o1 h1 => o1 = _ ∧ h1 = _) (F_X8_length h p0) (fun t => t = z) 0 [some (.ref 122), some (.int p0)] [] h 0) z hz rfl
  unfold F_X8_length
  refine sS rfl rfl ?_
  refine sS rfl rfl ?_
  refine sS rfl rfl ?_
  refine sS rfl rfl ?_
  refine sS rfl rfl ?_
  refine sC1 (c' := 0) rfl rfl rfl rfl rfl rfl (ok_X8_noTour d (by omega) (pu h 122 0 (0 : Int32)) p0) (fun z1 => ?_)
  refine sB rfl rfl ?_ ?_
  · refine sS rfl rfl ?_
    refine sS rfl rfl ?_
    refine sC1 (c' := 0) rfl rfl rfl rfl rfl rfl (ok_X8_lengthOf d (by omega) z1.2 p0) (fun z2 => ?_)
    exact sR rfl rfl (fun hg => by cases hg; exact ⟨rfl, rfl⟩)
  · refine sS rfl rfl ?_
    refine sS rfl rfl ?_
    exact sR rfl rfl (fun hg => by cases hg; exact ⟨rfl, rfl⟩)
noncomputable def F_X8_arcAt (h : PH) (p0 : Int32) (p1 : Int32) : Option (Int32 × PH) :=
 (F_X8_noTour (pu h 122 0 (0 : Int32)) p0).bind fun z1 =>
 if ¬ z1.1 = 0 then
  some (((0 : Int32), z1.2))
 else
  (F_X8_lengthOf z1.2 p0).bind fun z2 =>
  jn (fun (v4 : Int32) =>
   if (F_X8_fails z1.2 v4 (2 : Int32)).1 = 0 then
    (F_X8_arcOf (F_X8_fails z1.2 v4 (2 : Int32)).2 p0 p1).bind fun z5 =>
    some ((z5, (F_X8_fails z1.2 v4 (2 : Int32)).2))
   else
    some (((0 : Int32), (F_X8_fails z1.2 v4 (2 : Int32)).2))) (fun k3 =>
   if ¬ (F_X8_in z1.2 p1 (0 : Int32) (z2 - (1 : Int32))) = 0 then
    k3 ((0 : Int32))
   else
    k3 ((1 : Int32)))
set_option maxHeartbeats 4000000 in
set_option maxRecDepth 100000 in
theorem ok_X8_arcAt (d : Nat) (hd : 3 ≤ d) (h : PH) (p0 : Int32) (p1 : Int32) : ∀ z, F_X8_arcAt h p0 p1 = some z → Ex d 186 [.ref 122, .int p0, .int p1] h (.inl (some (.int z.1))) (z.2) := by
  obtain ⟨d, rfl⟩ : ∃ e, d = e + 1 := ⟨d - 1, by omega⟩
  intro z hz
  refine ⟨rfl, ?_⟩
  refine (?_ : Sim (Ex d) mi_X8_arcAt (fun o1 h1 => o1 = _ ∧ h1 = _) (F_X8_arcAt h p0 p1) (fun t => t = z) 0 [some (.ref 122), some (.int p0), some (.int p1)] [] h 0) z hz rfl
  unfold F_X8_arcAt
  refine sS rfl rfl ?_
  refine sS rfl rfl ?_
  refine sS rfl rfl ?_
  refine sS rfl rfl ?_
  refine sS rfl rfl ?_
  refine sC1 (c' := 0) rfl rfl rfl rfl rfl rfl (ok_X8_noTour d (by omega) (pu h 122 0 (0 : Int32)) p0) (fun z1 => ?_)
  refine sB rfl rfl ?_ ?_
  · refine sS rfl rfl ?_
    refine sS rfl rfl ?_
    exact sR rfl rfl (fun hg => by cases hg; exact ⟨rfl, rfl⟩)
  · refine sS rfl rfl ?_
    refine sS rfl rfl ?_
    refine sS rfl rfl ?_
    refine sS rfl rfl ?_
    refine sS rfl rfl ?_
    refine sC1 (c' := 0) rfl rfl rfl rfl rfl rfl (ok_X8_lengthOf d (by omega) z1.2 p0) (fun z2 => ?_)
    refine sS rfl rfl ?_
    refine sS rfl rfl ?_
    refine sT1 (c' := 0) rfl rfl rfl rfl rfl rfl (ok_X8_in d (by omega) z1.2 p1 (0 : Int32) (z2 - (1 : Int32))) ?_
    refine sJn 34 (fun (v4 : Int32) => [some (.ref 122), some (.int p0), some (.int p1)]) (fun (v4 : Int32) => [.int v4, .ref 122]) (fun (v4 : Int32) => z1.2) (fun v4 => ?_) (fun k3 hk3 => ?_)
    · refine sS rfl rfl ?_
      refine sT1 (c' := 0) rfl rfl rfl rfl rfl rfl (ok_X8_fails d (by omega) z1.2 v4 (2 : Int32)) ?_
      refine sB rfl rfl ?_ ?_
      · refine sS rfl rfl ?_
        refine sS rfl rfl ?_
        refine sS rfl rfl ?_
        refine sC1 (c' := 0) rfl rfl rfl rfl rfl rfl (ok_X8_arcOf d (by omega) (F_X8_fails z1.2 v4 (2 : Int32)).2 p0 p1) (fun z5 => ?_)
        exact sR rfl rfl (fun hg => by cases hg; exact ⟨rfl, rfl⟩)
      · refine sS rfl rfl ?_
        refine sS rfl rfl ?_
        exact sR rfl rfl (fun hg => by cases hg; exact ⟨rfl, rfl⟩)
    · refine sB rfl rfl ?_ ?_
      · refine sS rfl rfl ?_
        have h3 := hk3 ((0 : Int32))
        try dsimp only at h3
        exact h3
      · refine sS rfl rfl ?_
        refine sS rfl rfl ?_
        have h3 := hk3 ((1 : Int32))
        try dsimp only at h3
        exact h3
noncomputable def F_X8_loadOf (h : PH) (p0 : Int32) : Option (Int32 × PH) :=
 (F_X8_noTour (pu h 122 0 (0 : Int32)) p0).bind fun z1 =>
 if z1.1 = 0 then
  (F_X8_loadOfTour z1.2 p0).bind fun z2 =>
  some ((z2, z1.2))
 else
  some (((0 : Int32), z1.2))
set_option maxHeartbeats 4000000 in
set_option maxRecDepth 100000 in
theorem ok_X8_loadOf (d : Nat) (hd : 4 ≤ d) (h : PH) (p0 : Int32) : ∀ z, F_X8_loadOf h p0 = some z → Ex d 187 [.ref 122, .int p0] h (.inl (some (.int z.1))) (z.2) := by
  obtain ⟨d, rfl⟩ : ∃ e, d = e + 1 := ⟨d - 1, by omega⟩
  intro z hz
  refine ⟨rfl, ?_⟩
  refine (?_ : Sim (Ex d) mi_X8_loadOf (fun o1 h1 => o1 = _ ∧ h1 = _) (F_X8_loadOf h p0) (fun t => t = z) 0 [some (.ref 122), some (.int p0)] [] h 0) z hz rfl
  unfold F_X8_loadOf
  refine sS rfl rfl ?_
  refine sS rfl rfl ?_
  refine sS rfl rfl ?_
  refine sS rfl rfl ?_
  refine sS rfl rfl ?_
  refine sC1 (c' := 0) rfl rfl rfl rfl rfl rfl (ok_X8_noTour d (by omega) (pu h 122 0 (0 : Int32)) p0) (fun z1 => ?_)
  refine sB rfl rfl ?_ ?_
  · refine sS rfl rfl ?_
    refine sS rfl rfl ?_
    refine sC1 (c' := 0) rfl rfl rfl rfl rfl rfl (ok_X8_loadOfTour d (by omega) z1.2 p0) (fun z2 => ?_)
    exact sR rfl rfl (fun hg => by cases hg; exact ⟨rfl, rfl⟩)
  · refine sS rfl rfl ?_
    refine sS rfl rfl ?_
    exact sR rfl rfl (fun hg => by cases hg; exact ⟨rfl, rfl⟩)
noncomputable def F_X8_tourCost (h : PH) (p0 : Int32) : Option (Int32 × PH) :=
 (F_X8_noTour (pu h 122 0 (0 : Int32)) p0).bind fun z1 =>
 if z1.1 = 0 then
  (F_X8_costOfTour z1.2 p0).bind fun z2 =>
  some ((z2.1, z2.2))
 else
  some (((0 : Int32), z1.2))
set_option maxHeartbeats 4000000 in
set_option maxRecDepth 100000 in
theorem ok_X8_tourCost (d : Nat) (hd : 5 ≤ d) (h : PH) (p0 : Int32) : ∀ z, F_X8_tourCost h p0 = some z → Ex d 188 [.ref 122, .int p0] h (.inl (some (.int z.1))) (z.2) := by
  obtain ⟨d, rfl⟩ : ∃ e, d = e + 1 := ⟨d - 1, by omega⟩
  intro z hz
  refine ⟨rfl, ?_⟩
  refine (?_ : Sim (Ex d) mi_X8_tourCost (fun o1 h1 => o1 = _ ∧ h1 = _) (F_X8_tourCost h p0) (fun t => t = z) 0 [some (.ref 122), some (.int p0)] [] h 0) z hz rfl
  unfold F_X8_tourCost
  refine sS rfl rfl ?_
  refine sS rfl rfl ?_
  refine sS rfl rfl ?_
  refine sS rfl rfl ?_
  refine sS rfl rfl ?_
  refine sC1 (c' := 0) rfl rfl rfl rfl rfl rfl (ok_X8_noTour d (by omega) (pu h 122 0 (0 : Int32)) p0) (fun z1 => ?_)
  refine sB rfl rfl ?_ ?_
  · refine sS rfl rfl ?_
    refine sS rfl rfl ?_
    refine sC1 (c' := 0) rfl rfl rfl rfl rfl rfl (ok_X8_costOfTour d (by omega) z1.2 p0) (fun z2 => ?_)
    exact sR rfl rfl (fun hg => by cases hg; exact ⟨rfl, rfl⟩)
  · refine sS rfl rfl ?_
    refine sS rfl rfl ?_
    exact sR rfl rfl (fun hg => by cases hg; exact ⟨rfl, rfl⟩)
noncomputable def F_X8_totalCost (h : PH) : Option (Int32 × PH) :=
 (F_X8_totalOf (pu h 122 0 (0 : Int32))).bind fun z1 =>
 some ((z1.1, z1.2))
set_option maxHeartbeats 4000000 in
set_option maxRecDepth 100000 in
theorem ok_X8_totalCost (d : Nat) (hd : 6 ≤ d) (h : PH) : ∀ z, F_X8_totalCost h = some z → Ex d 189 [.ref 122] h (.inl (some (.int z.1))) (z.2) := by
  obtain ⟨d, rfl⟩ : ∃ e, d = e + 1 := ⟨d - 1, by omega⟩
  intro z hz
  refine ⟨rfl, ?_⟩
  refine (?_ : Sim (Ex d) mi_X8_totalCost (fun o1 h1 => o1 = _ ∧ h1 = _) (F_X8_totalCost h) (fun t => t = z) 0 [some (.ref 122)] [] h 0) z hz rfl
  unfold F_X8_totalCost
  refine sS rfl rfl ?_
  refine sS rfl rfl ?_
  refine sS rfl rfl ?_
  refine sS rfl rfl ?_
  refine sC1 (c' := 0) rfl rfl rfl rfl rfl rfl (ok_X8_totalOf d (by omega) (pu h 122 0 (0 : Int32))) (fun z1 => ?_)
  exact sR rfl rfl (fun hg => by cases hg; exact ⟨rfl, rfl⟩)
noncomputable def F_X8_unservedOnes (h : PH) : Option (Int32) :=
 loop (fun (s1 : Int32 × Int32) =>
  (ald 1556 h 124 (2 : Int32)).bind fun z2 =>
  if z2 ≤ s1.2 then
   some (.inr (s1.1))
  else
   (F_X8_canBeServed h s1.2).bind fun z3 =>
   if z3 = 0 then
    some (.inl ((s1.1 + (0 : Int32)), (s1.2 + (1 : Int32))))
   else
    some (.inl ((s1.1 + (1 : Int32)), (s1.2 + (1 : Int32))))) ((0 : Int32), (0 : Int32))
set_option maxHeartbeats 4000000 in
set_option maxRecDepth 100000 in
theorem ok_X8_unservedOnes (d : Nat) (hd : 6 ≤ d) (h : PH) : ∀ z, F_X8_unservedOnes h = some z → Ex d 190 [.ref 122] h (.inl (some (.int z))) (h) := by
  obtain ⟨d, rfl⟩ : ∃ e, d = e + 1 := ⟨d - 1, by omega⟩
  intro z hz
  refine ⟨rfl, ?_⟩
  refine (?_ : Sim (Ex d) mi_X8_unservedOnes (fun o1 h1 => o1 = _ ∧ h1 = _) (F_X8_unservedOnes h) (fun t => t = z) 0 [some (.ref 122), none, none] [] h 0) z hz rfl
  unfold F_X8_unservedOnes
  refine sS rfl rfl ?_
  refine sS rfl rfl ?_
  refine sS rfl rfl ?_
  refine sS rfl rfl ?_
  refine sL (pc := 4) (lv := fun (s1 : Int32 × Int32) => [some (.ref 122), some (.int (s1.1)), some (.int (s1.2))]) (h := fun (s1 : Int32 × Int32) => h) (fun s1 => ?_) ((0 : Int32), (0 : Int32))
  refine sS rfl rfl ?_
  refine sS rfl rfl ?_
  refine sS rfl rfl ?_
  refine sS rfl rfl ?_
  refine sIald rfl rfl (fun z2 => ?_)
  refine sB rfl rfl ?_ ?_
  · refine sS rfl rfl ?_
    exact sR rfl rfl (fun hg => by cases hg; exact ⟨rfl, rfl⟩)
  · refine sS rfl rfl ?_
    refine sS rfl rfl ?_
    refine sS rfl rfl ?_
    refine sC1 (c' := 0) rfl rfl rfl rfl rfl rfl (ok_X8_canBeServed d (by omega) h s1.2) (fun z3 => ?_)
    refine sB rfl rfl ?_ ?_
    · refine sS rfl rfl ?_
      refine sS rfl rfl ?_
      refine sS rfl rfl ?_
      refine sS rfl rfl ?_
      refine sS rfl rfl ?_
      exact sJ (fun h2 => by (try dsimp only at h2); exact h2)
    · refine sS rfl rfl ?_
      refine sS rfl rfl ?_
      refine sS rfl rfl ?_
      refine sS rfl rfl ?_
      refine sS rfl rfl ?_
      refine sS rfl rfl ?_
      exact sJ (fun h2 => by (try dsimp only at h2); exact h2)
noncomputable def F_X8_unserved (h : PH) : Option (Int32 × PH) :=
 (F_X8_unservedOnes (pu h 122 0 (0 : Int32))).bind fun z1 =>
 some ((z1, (pu h 122 0 (0 : Int32))))
set_option maxHeartbeats 4000000 in
set_option maxRecDepth 100000 in
theorem ok_X8_unserved (d : Nat) (hd : 7 ≤ d) (h : PH) : ∀ z, F_X8_unserved h = some z → Ex d 191 [.ref 122] h (.inl (some (.int z.1))) (z.2) := by
  obtain ⟨d, rfl⟩ : ∃ e, d = e + 1 := ⟨d - 1, by omega⟩
  intro z hz
  refine ⟨rfl, ?_⟩
  refine (?_ : Sim (Ex d) mi_X8_unserved (fun o1 h1 => o1 = _ ∧ h1 = _) (F_X8_unserved h) (fun t => t = z) 0 [some (.ref 122)] [] h 0) z hz rfl
  unfold F_X8_unserved
  refine sS rfl rfl ?_
  refine sS rfl rfl ?_
  refine sS rfl rfl ?_
  refine sS rfl rfl ?_
  refine sC1 (c' := 0) rfl rfl rfl rfl rfl rfl (ok_X8_unservedOnes d (by omega) (pu h 122 0 (0 : Int32))) (fun z1 => ?_)
  exact sR rfl rfl (fun hg => by cases hg; exact ⟨rfl, rfl⟩)
noncomputable def F_X8_tourOf (h : PH) (p0 : Int32) : Option (Int32 × PH) :=
 (F_X8_noEdge (pu h 122 0 (0 : Int32)) p0).bind fun z1 =>
 if z1.1 = 0 then
  (F_X8_tourWith z1.2 p0).bind fun z2 =>
  some ((z2, z1.2))
 else
  some (((0 : Int32), z1.2))
set_option maxHeartbeats 4000000 in
set_option maxRecDepth 100000 in
theorem ok_X8_tourOf (d : Nat) (hd : 5 ≤ d) (h : PH) (p0 : Int32) : ∀ z, F_X8_tourOf h p0 = some z → Ex d 192 [.ref 122, .int p0] h (.inl (some (.int z.1))) (z.2) := by
  obtain ⟨d, rfl⟩ : ∃ e, d = e + 1 := ⟨d - 1, by omega⟩
  intro z hz
  refine ⟨rfl, ?_⟩
  refine (?_ : Sim (Ex d) mi_X8_tourOf (fun o1 h1 => o1 = _ ∧ h1 = _) (F_X8_tourOf h p0) (fun t => t = z) 0 [some (.ref 122), some (.int p0)] [] h 0) z hz rfl
  unfold F_X8_tourOf
  refine sS rfl rfl ?_
  refine sS rfl rfl ?_
  refine sS rfl rfl ?_
  refine sS rfl rfl ?_
  refine sS rfl rfl ?_
  refine sC1 (c' := 0) rfl rfl rfl rfl rfl rfl (ok_X8_noEdge d (by omega) (pu h 122 0 (0 : Int32)) p0) (fun z1 => ?_)
  refine sB rfl rfl ?_ ?_
  · refine sS rfl rfl ?_
    refine sS rfl rfl ?_
    refine sC1 (c' := 0) rfl rfl rfl rfl rfl rfl (ok_X8_tourWith d (by omega) z1.2 p0) (fun z2 => ?_)
    exact sR rfl rfl (fun hg => by cases hg; exact ⟨rfl, rfl⟩)
  · refine sS rfl rfl ?_
    refine sS rfl rfl ?_
    exact sR rfl rfl (fun hg => by cases hg; exact ⟨rfl, rfl⟩)
noncomputable def F_X8_bestInsertion (h : PH) (p0 : Int32) : Option (Int32 × PH) :=
 (F_X8_noEdge (pu h 122 0 (0 : Int32)) p0).bind fun z1 =>
 if ¬ z1.1 = 0 then
  some (((0 : Int32), z1.2))
 else
  (F_X8_canBeServed z1.2 p0).bind fun z2 =>
  jn (fun (v4 : Int32) =>
   if (F_X8_fails z1.2 v4 (2 : Int32)).1 = 0 then
    (F_X8_findInsertion (F_X8_fails z1.2 v4 (2 : Int32)).2 p0).bind fun z5 =>
    some ((z5.1, z5.2))
   else
    some (((0 : Int32), (F_X8_fails z1.2 v4 (2 : Int32)).2))) (fun k3 =>
   if ¬ z2 = 0 then
    k3 ((0 : Int32))
   else
    k3 ((1 : Int32)))
set_option maxHeartbeats 4000000 in
set_option maxRecDepth 100000 in
theorem ok_X8_bestInsertion (d : Nat) (hd : 7 ≤ d) (h : PH) (p0 : Int32) : ∀ z, F_X8_bestInsertion h p0 = some z → Ex d 193 [.ref 122, .int p0] h (.inl (some (.int z.1))) (z.2) := by
  obtain ⟨d, rfl⟩ : ∃ e, d = e + 1 := ⟨d - 1, by omega⟩
  intro z hz
  refine ⟨rfl, ?_⟩
  refine (?_ : Sim (Ex d) mi_X8_bestInsertion (fun o1 h1 => o1 = _ ∧ h1 = _) (F_X8_bestInsertion h p0) (fun t => t = z) 0 [some (.ref 122), some (.int p0)] [] h 0) z hz rfl
  unfold F_X8_bestInsertion
  refine sS rfl rfl ?_
  refine sS rfl rfl ?_
  refine sS rfl rfl ?_
  refine sS rfl rfl ?_
  refine sS rfl rfl ?_
  refine sC1 (c' := 0) rfl rfl rfl rfl rfl rfl (ok_X8_noEdge d (by omega) (pu h 122 0 (0 : Int32)) p0) (fun z1 => ?_)
  refine sB rfl rfl ?_ ?_
  · refine sS rfl rfl ?_
    refine sS rfl rfl ?_
    exact sR rfl rfl (fun hg => by cases hg; exact ⟨rfl, rfl⟩)
  · refine sS rfl rfl ?_
    refine sS rfl rfl ?_
    refine sS rfl rfl ?_
    refine sC1 (c' := 0) rfl rfl rfl rfl rfl rfl (ok_X8_canBeServed d (by omega) z1.2 p0) (fun z2 => ?_)
    refine sJn 27 (fun (v4 : Int32) => [some (.ref 122), some (.int p0)]) (fun (v4 : Int32) => [.int v4, .ref 122]) (fun (v4 : Int32) => z1.2) (fun v4 => ?_) (fun k3 hk3 => ?_)
    · refine sS rfl rfl ?_
      refine sT1 (c' := 0) rfl rfl rfl rfl rfl rfl (ok_X8_fails d (by omega) z1.2 v4 (2 : Int32)) ?_
      refine sB rfl rfl ?_ ?_
      · refine sS rfl rfl ?_
        refine sS rfl rfl ?_
        refine sC1 (c' := 0) rfl rfl rfl rfl rfl rfl (ok_X8_findInsertion d (by omega) (F_X8_fails z1.2 v4 (2 : Int32)).2 p0) (fun z5 => ?_)
        exact sR rfl rfl (fun hg => by cases hg; exact ⟨rfl, rfl⟩)
      · refine sS rfl rfl ?_
        refine sS rfl rfl ?_
        exact sR rfl rfl (fun hg => by cases hg; exact ⟨rfl, rfl⟩)
    · refine sB rfl rfl ?_ ?_
      · refine sS rfl rfl ?_
        have h3 := hk3 ((0 : Int32))
        try dsimp only at h3
        exact h3
      · refine sS rfl rfl ?_
        refine sS rfl rfl ?_
        have h3 := hk3 ((1 : Int32))
        try dsimp only at h3
        exact h3
noncomputable def F_X8_openTour (h : PH) (p0 : Int32) : Option (Int32 × PH) :=
 (ald 1556 (pu h 122 0 (0 : Int32)) 124 (3 : Int32)).bind fun z1 =>
 jn (fun (v3 : Int32) =>
  if ¬ (F_X8_fails (pu h 122 0 (0 : Int32)) v3 (1 : Int32)).1 = 0 then
   some (((0 : Int32), (F_X8_fails (pu h 122 0 (0 : Int32)) v3 (1 : Int32)).2))
  else
   (ald 1556 (F_X8_fails (pu h 122 0 (0 : Int32)) v3 (1 : Int32)).2 124 (4 : Int32)).bind fun z4 =>
   jn (fun (v6 : Int32) =>
    if (F_X8_fails (F_X8_fails (pu h 122 0 (0 : Int32)) v3 (1 : Int32)).2 v6 (2 : Int32)).1 = 0 then
     (F_X8_remember (F_X8_fails (F_X8_fails (pu h 122 0 (0 : Int32)) v3 (1 : Int32)).2 v6 (2 : Int32)).2).bind fun h7 =>
     (ald 1556 h7 124 (4 : Int32)).bind fun z8 =>
     (ald 1556 h7 124 (4 : Int32)).bind fun z9 =>
     (ast 1556 h7 124 (4 : Int32) (z9 + (1 : Int32))).bind fun h10 =>
     (ald 1556 h10 124 ((189 : Int32) + p0)).bind fun z11 =>
     (ast 1556 h10 124 (F_X8_tour h10 z8) z11).bind fun h12 =>
     (ast 1556 h12 124 ((F_X8_tour h12 z8) + (1 : Int32)) (0 : Int32)).bind fun h13 =>
     some ((z8, h13))
    else
     some (((0 : Int32), (F_X8_fails (F_X8_fails (pu h 122 0 (0 : Int32)) v3 (1 : Int32)).2 v6 (2 : Int32)).2))) (fun k5 =>
    if ¬ z4 = (4 : Int32) then
     k5 ((0 : Int32))
    else
     k5 ((1 : Int32)))) (fun k2 =>
  if ¬ (F_X8_in (pu h 122 0 (0 : Int32)) p0 (0 : Int32) (z1 - (1 : Int32))) = 0 then
   k2 ((0 : Int32))
  else
   k2 ((1 : Int32)))
set_option maxHeartbeats 4000000 in
set_option maxRecDepth 100000 in
theorem ok_X8_openTour (d : Nat) (hd : 3 ≤ d) (h : PH) (p0 : Int32) : ∀ z, F_X8_openTour h p0 = some z → Ex d 195 [.ref 122, .int p0] h (.inl (some (.int z.1))) (z.2) := by
  obtain ⟨d, rfl⟩ : ∃ e, d = e + 1 := ⟨d - 1, by omega⟩
  intro z hz
  refine ⟨rfl, ?_⟩
  refine (?_ : Sim (Ex d) mi_X8_openTour (fun o1 h1 => o1 = _ ∧ h1 = _) (F_X8_openTour h p0) (fun t => t = z) 0 [some (.ref 122), some (.int p0), none] [] h 0) z hz rfl
  unfold F_X8_openTour
  refine sS rfl rfl ?_
  refine sS rfl rfl ?_
  refine sS rfl rfl ?_
  refine sS rfl rfl ?_
  refine sS rfl rfl ?_
  refine sS rfl rfl ?_
  refine sS rfl rfl ?_
  refine sS rfl rfl ?_
  refine sS rfl rfl ?_
  refine sIald rfl rfl (fun z1 => ?_)
  refine sS rfl rfl ?_
  refine sS rfl rfl ?_
  refine sT1 (c' := 0) rfl rfl rfl rfl rfl rfl (ok_X8_in d (by omega) (pu h 122 0 (0 : Int32)) p0 (0 : Int32) (z1 - (1 : Int32))) ?_
  refine sJn 27 (fun (v3 : Int32) => [some (.ref 122), some (.int p0), none]) (fun (v3 : Int32) => [.int v3, .ref 122]) (fun (v3 : Int32) => (pu h 122 0 (0 : Int32))) (fun v3 => ?_) (fun k2 hk2 => ?_)
  · refine sS rfl rfl ?_
    refine sT1 (c' := 0) rfl rfl rfl rfl rfl rfl (ok_X8_fails d (by omega) (pu h 122 0 (0 : Int32)) v3 (1 : Int32)) ?_
    refine sB rfl rfl ?_ ?_
    · refine sS rfl rfl ?_
      exact sR rfl rfl (fun hg => by cases hg; exact ⟨rfl, rfl⟩)
    · refine sS rfl rfl ?_
      refine sS rfl rfl ?_
      refine sS rfl rfl ?_
      refine sS rfl rfl ?_
      refine sIald rfl rfl (fun z4 => ?_)
      refine sS rfl rfl ?_
      refine sJn 50 (fun (v6 : Int32) => [some (.ref 122), some (.int p0), none]) (fun (v6 : Int32) => [.int v6, .ref 122]) (fun (v6 : Int32) => (F_X8_fails (pu h 122 0 (0 : Int32)) v3 (1 : Int32)).2) (fun v6 => ?_) (fun k5 hk5 => ?_)
      · refine sS rfl rfl ?_
        refine sT1 (c' := 0) rfl rfl rfl rfl rfl rfl (ok_X8_fails d (by omega) (F_X8_fails (pu h 122 0 (0 : Int32)) v3 (1 : Int32)).2 v6 (2 : Int32)) ?_
        refine sB rfl rfl ?_ ?_
        · refine sS rfl rfl ?_
          refine sC0 (c' := 0) rfl rfl rfl rfl rfl rfl (ok_X8_remember d (by omega) (F_X8_fails (F_X8_fails (pu h 122 0 (0 : Int32)) v3 (1 : Int32)).2 v6 (2 : Int32)).2) (fun h7 => ?_)
          refine sS rfl rfl ?_
          refine sS rfl rfl ?_
          refine sS rfl rfl ?_
          refine sIald rfl rfl (fun z8 => ?_)
          refine sS rfl rfl ?_
          refine sS rfl rfl ?_
          refine sS rfl rfl ?_
          refine sS rfl rfl ?_
          refine sS rfl rfl ?_
          refine sIald rfl rfl (fun z9 => ?_)
          refine sS rfl rfl ?_
          refine sS rfl rfl ?_
          refine sIast rfl rfl (fun h10 => ?_)
          refine sS rfl rfl ?_
          refine sS rfl rfl ?_
          refine sS rfl rfl ?_
          refine sT1 (c' := 0) rfl rfl rfl rfl rfl rfl (ok_X8_tour d (by omega) h10 z8) ?_
          refine sS rfl rfl ?_
          refine sS rfl rfl ?_
          refine sS rfl rfl ?_
          refine sS rfl rfl ?_
          refine sS rfl rfl ?_
          refine sIald rfl rfl (fun z11 => ?_)
          refine sIast rfl rfl (fun h12 => ?_)
          refine sS rfl rfl ?_
          refine sS rfl rfl ?_
          refine sS rfl rfl ?_
          refine sT1 (c' := 0) rfl rfl rfl rfl rfl rfl (ok_X8_tour d (by omega) h12 z8) ?_
          refine sS rfl rfl ?_
          refine sS rfl rfl ?_
          refine sS rfl rfl ?_
          refine sIast rfl rfl (fun h13 => ?_)
          refine sS rfl rfl ?_
          exact sR rfl rfl (fun hg => by cases hg; exact ⟨rfl, rfl⟩)
        · refine sS rfl rfl ?_
          exact sR rfl rfl (fun hg => by cases hg; exact ⟨rfl, rfl⟩)
      · refine sB rfl rfl ?_ ?_
        · refine sS rfl rfl ?_
          have h3 := hk5 ((0 : Int32))
          try dsimp only at h3
          exact h3
        · refine sS rfl rfl ?_
          refine sS rfl rfl ?_
          have h3 := hk5 ((1 : Int32))
          try dsimp only at h3
          exact h3
  · refine sB rfl rfl ?_ ?_
    · refine sS rfl rfl ?_
      have h3 := hk2 ((0 : Int32))
      try dsimp only at h3
      exact h3
    · refine sS rfl rfl ?_
      refine sS rfl rfl ?_
      have h3 := hk2 ((1 : Int32))
      try dsimp only at h3
      exact h3
noncomputable def F_X8_insert (h : PH) (p0 : Int32) (p1 : Int32) (p2 : Int32) : Option (Int32 × PH) :=
 (F_X8_noTour (pu h 122 0 (0 : Int32)) p0).bind fun z1 =>
 if ¬ z1.1 = 0 then
  some (((0 : Int32), z1.2))
 else
  (F_X8_lengthOf z1.2 p0).bind fun z2 =>
  jn (fun (v4 : Int32) =>
   if ¬ (F_X8_fails z1.2 v4 (1 : Int32)).1 = 0 then
    some (((0 : Int32), (F_X8_fails z1.2 v4 (1 : Int32)).2))
   else
    (F_X8_noArc (F_X8_fails z1.2 v4 (1 : Int32)).2 p2).bind fun z5 =>
    if z5.1 = 0 then
     (F_X8_canBeServed z5.2 (p2 / (2 : Int32))).bind fun z6 =>
     jn (fun (v8 : Int32 × PH) =>
      if (F_X8_fails v8.2 v8.1 (2 : Int32)).1 = 0 then
       (F_X8_remember (F_X8_fails v8.2 v8.1 (2 : Int32)).2).bind fun h9 =>
       (F_X8_put h9 p0 p1 p2).bind fun h10 =>
       (F_X8_costOfTour h10 p0).bind fun z11 =>
       some ((z11.1, z11.2))
      else
       some (((0 : Int32), (F_X8_fails v8.2 v8.1 (2 : Int32)).2))) (fun k7 =>
      if z6 = 0 then
       k7 ((1 : Int32), z5.2)
      else
       (F_X8_costWith z5.2 p0 p1 p2).bind fun z12 =>
       if z12.1 < (1000000 : Int32) then
        k7 ((0 : Int32), z12.2)
       else
        k7 ((1 : Int32), z12.2))
    else
     some (((0 : Int32), z5.2))) (fun k3 =>
   if ¬ (F_X8_in z1.2 p1 (0 : Int32) z2) = 0 then
    k3 ((0 : Int32))
   else
    k3 ((1 : Int32)))
set_option maxHeartbeats 4000000 in
set_option maxRecDepth 100000 in
theorem ok_X8_insert (d : Nat) (hd : 6 ≤ d) (h : PH) (p0 : Int32) (p1 : Int32) (p2 : Int32) : ∀ z, F_X8_insert h p0 p1 p2 = some z → Ex d 196 [.ref 122, .int p0, .int p1, .int p2] h (.inl (some (.int z.1))) (z.2) := by
  obtain ⟨d, rfl⟩ : ∃ e, d = e + 1 := ⟨d - 1, by omega⟩
  intro z hz
  refine ⟨rfl, ?_⟩
  refine (?_ : Sim (Ex d) mi_X8_insert (fun o1 h1 => o1 = _ ∧ h1 = _) (F_X8_insert h p0 p1 p2) (fun t => t = z) 0 [some (.ref 122), some (.int p0), some (.int p1), some (.int p2)] [] h 0) z hz rfl
  unfold F_X8_insert
  refine sS rfl rfl ?_
  refine sS rfl rfl ?_
  refine sS rfl rfl ?_
  refine sS rfl rfl ?_
  refine sS rfl rfl ?_
  refine sC1 (c' := 0) rfl rfl rfl rfl rfl rfl (ok_X8_noTour d (by omega) (pu h 122 0 (0 : Int32)) p0) (fun z1 => ?_)
  refine sB rfl rfl ?_ ?_
  · refine sS rfl rfl ?_
    exact sR rfl rfl (fun hg => by cases hg; exact ⟨rfl, rfl⟩)
  · refine sS rfl rfl ?_
    refine sS rfl rfl ?_
    refine sS rfl rfl ?_
    refine sS rfl rfl ?_
    refine sS rfl rfl ?_
    refine sC1 (c' := 0) rfl rfl rfl rfl rfl rfl (ok_X8_lengthOf d (by omega) z1.2 p0) (fun z2 => ?_)
    refine sT1 (c' := 0) rfl rfl rfl rfl rfl rfl (ok_X8_in d (by omega) z1.2 p1 (0 : Int32) z2) ?_
    refine sJn 32 (fun (v4 : Int32) => [some (.ref 122), some (.int p0), some (.int p1), some (.int p2)]) (fun (v4 : Int32) => [.int v4, .ref 122]) (fun (v4 : Int32) => z1.2) (fun v4 => ?_) (fun k3 hk3 => ?_)
    · refine sS rfl rfl ?_
      refine sT1 (c' := 0) rfl rfl rfl rfl rfl rfl (ok_X8_fails d (by omega) z1.2 v4 (1 : Int32)) ?_
      refine sB rfl rfl ?_ ?_
      · refine sS rfl rfl ?_
        exact sR rfl rfl (fun hg => by cases hg; exact ⟨rfl, rfl⟩)
      · refine sS rfl rfl ?_
        refine sS rfl rfl ?_
        refine sC1 (c' := 0) rfl rfl rfl rfl rfl rfl (ok_X8_noArc d (by omega) (F_X8_fails z1.2 v4 (1 : Int32)).2 p2) (fun z5 => ?_)
        refine sB rfl rfl ?_ ?_
        · refine sS rfl rfl ?_
          refine sS rfl rfl ?_
          refine sS rfl rfl ?_
          refine sS rfl rfl ?_
          refine sS rfl rfl ?_
          refine sC1 (c' := 0) rfl rfl rfl rfl rfl rfl (ok_X8_canBeServed d (by omega) z5.2 (p2 / (2 : Int32))) (fun z6 => ?_)
          refine sJn 77 (fun (v8 : Int32 × PH) => [some (.ref 122), some (.int p0), some (.int p1), some (.int p2)]) (fun (v8 : Int32 × PH) => [.int (v8.1), .ref 122]) (fun (v8 : Int32 × PH) => v8.2) (fun v8 => ?_) (fun k7 hk7 => ?_)
          · refine sS rfl rfl ?_
            refine sT1 (c' := 0) rfl rfl rfl rfl rfl rfl (ok_X8_fails d (by omega) v8.2 v8.1 (2 : Int32)) ?_
            refine sB rfl rfl ?_ ?_
            · refine sS rfl rfl ?_
              refine sC0 (c' := 0) rfl rfl rfl rfl rfl rfl (ok_X8_remember d (by omega) (F_X8_fails v8.2 v8.1 (2 : Int32)).2) (fun h9 => ?_)
              refine sS rfl rfl ?_
              refine sS rfl rfl ?_
              refine sS rfl rfl ?_
              refine sS rfl rfl ?_
              refine sC0 (c' := 0) rfl rfl rfl rfl rfl rfl (ok_X8_put d (by omega) h9 p0 p1 p2) (fun h10 => ?_)
              refine sS rfl rfl ?_
              refine sS rfl rfl ?_
              refine sC1 (c' := 0) rfl rfl rfl rfl rfl rfl (ok_X8_costOfTour d (by omega) h10 p0) (fun z11 => ?_)
              exact sR rfl rfl (fun hg => by cases hg; exact ⟨rfl, rfl⟩)
            · refine sS rfl rfl ?_
              exact sR rfl rfl (fun hg => by cases hg; exact ⟨rfl, rfl⟩)
          · refine sB rfl rfl ?_ ?_
            · refine sS rfl rfl ?_
              refine sS rfl rfl ?_
              have h3 := hk7 ((1 : Int32), z5.2)
              try dsimp only at h3
              exact h3
            · refine sS rfl rfl ?_
              refine sS rfl rfl ?_
              refine sS rfl rfl ?_
              refine sS rfl rfl ?_
              refine sC1 (c' := 0) rfl rfl rfl rfl rfl rfl (ok_X8_costWith d (by omega) z5.2 p0 p1 p2) (fun z12 => ?_)
              refine sS rfl rfl ?_
              refine sB rfl rfl ?_ ?_
              · refine sS rfl rfl ?_
                have h3 := hk7 ((0 : Int32), z12.2)
                try dsimp only at h3
                exact h3
              · refine sS rfl rfl ?_
                refine sS rfl rfl ?_
                have h3 := hk7 ((1 : Int32), z12.2)
                try dsimp only at h3
                exact h3
        · refine sS rfl rfl ?_
          exact sR rfl rfl (fun hg => by cases hg; exact ⟨rfl, rfl⟩)
    · refine sB rfl rfl ?_ ?_
      · refine sS rfl rfl ?_
        have h3 := hk3 ((0 : Int32))
        try dsimp only at h3
        exact h3
      · refine sS rfl rfl ?_
        refine sS rfl rfl ?_
        have h3 := hk3 ((1 : Int32))
        try dsimp only at h3
        exact h3
noncomputable def F_X8_drop (h : PH) (p0 : Int32) : Option (Int32 × PH) :=
 (F_X8_noEdge (pu h 122 0 (0 : Int32)) p0).bind fun z1 =>
 if z1.1 = 0 then
  (F_X8_tourWith z1.2 p0).bind fun z2 =>
  jn (fun (v4 : Int32) =>
   if (F_X8_fails z1.2 v4 (2 : Int32)).1 = 0 then
    (F_X8_placeIn (F_X8_fails z1.2 v4 (2 : Int32)).2 z2 p0).bind fun z5 =>
    (F_X8_arcOf (F_X8_fails z1.2 v4 (2 : Int32)).2 z2 z5).bind fun z6 =>
    (F_X8_take (F_X8_fails z1.2 v4 (2 : Int32)).2 z2 z5).bind fun h7 =>
    (F_X8_costOfTour h7 z2).bind fun z8 =>
    jn (fun (v10 : Int32) =>
     (F_X8_put z8.2 z2 z5 z6).bind fun h11 =>
     if (F_X8_fails h11 v10 (2 : Int32)).1 = 0 then
      (F_X8_remember (F_X8_fails h11 v10 (2 : Int32)).2).bind fun h12 =>
      (F_X8_take h12 z2 z5).bind fun h13 =>
      (F_X8_costOfTour h13 z2).bind fun z14 =>
      some ((z14.1, z14.2))
     else
      some (((0 : Int32), (F_X8_fails h11 v10 (2 : Int32)).2))) (fun k9 =>
     if z8.1 < (1000000 : Int32) then
      k9 ((0 : Int32))
     else
      k9 ((1 : Int32)))
   else
    some (((0 : Int32), (F_X8_fails z1.2 v4 (2 : Int32)).2))) (fun k3 =>
   if ¬ z2 = (-1 : Int32) then
    k3 ((0 : Int32))
   else
    k3 ((1 : Int32)))
 else
  some (((0 : Int32), z1.2))
set_option maxHeartbeats 4000000 in
set_option maxRecDepth 100000 in
theorem ok_X8_drop (d : Nat) (hd : 5 ≤ d) (h : PH) (p0 : Int32) : ∀ z, F_X8_drop h p0 = some z → Ex d 197 [.ref 122, .int p0] h (.inl (some (.int z.1))) (z.2) := by
  obtain ⟨d, rfl⟩ : ∃ e, d = e + 1 := ⟨d - 1, by omega⟩
  intro z hz
  refine ⟨rfl, ?_⟩
  refine (?_ : Sim (Ex d) mi_X8_drop (fun o1 h1 => o1 = _ ∧ h1 = _) (F_X8_drop h p0) (fun t => t = z) 0 [some (.ref 122), some (.int p0), none, none, none, none] [] h 0) z hz rfl
  unfold F_X8_drop
  refine sS rfl rfl ?_
  refine sS rfl rfl ?_
  refine sS rfl rfl ?_
  refine sS rfl rfl ?_
  refine sS rfl rfl ?_
  refine sC1 (c' := 0) rfl rfl rfl rfl rfl rfl (ok_X8_noEdge d (by omega) (pu h 122 0 (0 : Int32)) p0) (fun z1 => ?_)
  refine sB rfl rfl ?_ ?_
  · refine sS rfl rfl ?_
    refine sS rfl rfl ?_
    refine sC1 (c' := 0) rfl rfl rfl rfl rfl rfl (ok_X8_tourWith d (by omega) z1.2 p0) (fun z2 => ?_)
    refine sS rfl rfl ?_
    refine sS rfl rfl ?_
    refine sS rfl rfl ?_
    refine sS rfl rfl ?_
    refine sJn 32 (fun (v4 : Int32) => [some (.ref 122), some (.int p0), some (.int z2), none, none, none]) (fun (v4 : Int32) => [.int v4, .ref 122]) (fun (v4 : Int32) => z1.2) (fun v4 => ?_) (fun k3 hk3 => ?_)
    · refine sS rfl rfl ?_
      refine sT1 (c' := 0) rfl rfl rfl rfl rfl rfl (ok_X8_fails d (by omega) z1.2 v4 (2 : Int32)) ?_
      refine sB rfl rfl ?_ ?_
      · refine sS rfl rfl ?_
        refine sS rfl rfl ?_
        refine sS rfl rfl ?_
        refine sC1 (c' := 0) rfl rfl rfl rfl rfl rfl (ok_X8_placeIn d (by omega) (F_X8_fails z1.2 v4 (2 : Int32)).2 z2 p0) (fun z5 => ?_)
        refine sS rfl rfl ?_
        refine sS rfl rfl ?_
        refine sS rfl rfl ?_
        refine sS rfl rfl ?_
        refine sC1 (c' := 0) rfl rfl rfl rfl rfl rfl (ok_X8_arcOf d (by omega) (F_X8_fails z1.2 v4 (2 : Int32)).2 z2 z5) (fun z6 => ?_)
        refine sS rfl rfl ?_
        refine sS rfl rfl ?_
        refine sS rfl rfl ?_
        refine sS rfl rfl ?_
        refine sC0 (c' := 0) rfl rfl rfl rfl rfl rfl (ok_X8_take d (by omega) (F_X8_fails z1.2 v4 (2 : Int32)).2 z2 z5) (fun h7 => ?_)
        refine sS rfl rfl ?_
        refine sS rfl rfl ?_
        refine sC1 (c' := 0) rfl rfl rfl rfl rfl rfl (ok_X8_costOfTour d (by omega) h7 z2) (fun z8 => ?_)
        refine sS rfl rfl ?_
        refine sJn 77 (fun (v10 : Int32) => [some (.ref 122), none, some (.int z2), some (.int z5), some (.int z6), none]) (fun (v10 : Int32) => [.int v10]) (fun (v10 : Int32) => z8.2) (fun v10 => ?_) (fun k9 hk9 => ?_)
        · refine sS rfl rfl ?_
          refine sS rfl rfl ?_
          refine sS rfl rfl ?_
          refine sS rfl rfl ?_
          refine sS rfl rfl ?_
          refine sC0 (c' := 0) rfl rfl rfl rfl rfl rfl (ok_X8_put d (by omega) z8.2 z2 z5 z6) (fun h11 => ?_)
          refine sS rfl rfl ?_
          refine sS rfl rfl ?_
          refine sS rfl rfl ?_
          refine sT1 (c' := 0) rfl rfl rfl rfl rfl rfl (ok_X8_fails d (by omega) h11 v10 (2 : Int32)) ?_
          refine sB rfl rfl ?_ ?_
          · refine sS rfl rfl ?_
            refine sC0 (c' := 0) rfl rfl rfl rfl rfl rfl (ok_X8_remember d (by omega) (F_X8_fails h11 v10 (2 : Int32)).2) (fun h12 => ?_)
            refine sS rfl rfl ?_
            refine sS rfl rfl ?_
            refine sS rfl rfl ?_
            refine sC0 (c' := 0) rfl rfl rfl rfl rfl rfl (ok_X8_take d (by omega) h12 z2 z5) (fun h13 => ?_)
            refine sS rfl rfl ?_
            refine sS rfl rfl ?_
            refine sC1 (c' := 0) rfl rfl rfl rfl rfl rfl (ok_X8_costOfTour d (by omega) h13 z2) (fun z14 => ?_)
            exact sR rfl rfl (fun hg => by cases hg; exact ⟨rfl, rfl⟩)
          · refine sS rfl rfl ?_
            exact sR rfl rfl (fun hg => by cases hg; exact ⟨rfl, rfl⟩)
        · refine sB rfl rfl ?_ ?_
          · refine sS rfl rfl ?_
            refine sM [true, false, true, true, true, true] rfl ?_
            have h3 := hk9 ((0 : Int32))
            try dsimp only at h3
            exact h3
          · refine sS rfl rfl ?_
            refine sS rfl rfl ?_
            refine sM [true, false, true, true, true, true] rfl ?_
            have h3 := hk9 ((1 : Int32))
            try dsimp only at h3
            exact h3
      · refine sS rfl rfl ?_
        exact sR rfl rfl (fun hg => by cases hg; exact ⟨rfl, rfl⟩)
    · refine sB rfl rfl ?_ ?_
      · refine sS rfl rfl ?_
        have h3 := hk3 ((0 : Int32))
        try dsimp only at h3
        exact h3
      · refine sS rfl rfl ?_
        refine sS rfl rfl ?_
        have h3 := hk3 ((1 : Int32))
        try dsimp only at h3
        exact h3
  · refine sS rfl rfl ?_
    exact sR rfl rfl (fun hg => by cases hg; exact ⟨rfl, rfl⟩)
noncomputable def F_X8_flip (h : PH) (p0 : Int32) : Option (Int32 × PH) :=
 (F_X8_noEdge (pu h 122 0 (0 : Int32)) p0).bind fun z1 =>
 if z1.1 = 0 then
  (F_X8_tourWith z1.2 p0).bind fun z2 =>
  jn (fun (v4 : Int32) =>
   if (F_X8_fails z1.2 v4 (2 : Int32)).1 = 0 then
    (F_X8_placeIn (F_X8_fails z1.2 v4 (2 : Int32)).2 z2 p0).bind fun z5 =>
    (ald 1556 (F_X8_fails z1.2 v4 (2 : Int32)).2 124 (((F_X8_tour (F_X8_fails z1.2 v4 (2 : Int32)).2 z2) + (2 : Int32)) + z5)).bind fun z6 =>
    (ast 1556 (F_X8_fails z1.2 v4 (2 : Int32)).2 124 (((F_X8_tour (F_X8_fails z1.2 v4 (2 : Int32)).2 z2) + (2 : Int32)) + z5) (z6 ^^^ (1 : Int32))).bind fun h7 =>
    (F_X8_costOfTour h7 z2).bind fun z8 =>
    jn (fun (v10 : Int32) =>
     (ald 1556 z8.2 124 (((F_X8_tour (F_X8_fails z1.2 v4 (2 : Int32)).2 z2) + (2 : Int32)) + z5)).bind fun z11 =>
     (ast 1556 z8.2 124 (((F_X8_tour (F_X8_fails z1.2 v4 (2 : Int32)).2 z2) + (2 : Int32)) + z5) (z11 ^^^ (1 : Int32))).bind fun h12 =>
     if (F_X8_fails h12 v10 (2 : Int32)).1 = 0 then
      (F_X8_remember (F_X8_fails h12 v10 (2 : Int32)).2).bind fun h13 =>
      (ald 1556 h13 124 (((F_X8_tour (F_X8_fails z1.2 v4 (2 : Int32)).2 z2) + (2 : Int32)) + z5)).bind fun z14 =>
      (ast 1556 h13 124 (((F_X8_tour (F_X8_fails z1.2 v4 (2 : Int32)).2 z2) + (2 : Int32)) + z5) (z14 ^^^ (1 : Int32))).bind fun h15 =>
      (F_X8_costOfTour h15 z2).bind fun z16 =>
      some ((z16.1, z16.2))
     else
      some (((0 : Int32), (F_X8_fails h12 v10 (2 : Int32)).2))) (fun k9 =>
     if z8.1 < (1000000 : Int32) then
      k9 ((0 : Int32))
     else
      k9 ((1 : Int32)))
   else
    some (((0 : Int32), (F_X8_fails z1.2 v4 (2 : Int32)).2))) (fun k3 =>
   if ¬ z2 = (-1 : Int32) then
    k3 ((0 : Int32))
   else
    k3 ((1 : Int32)))
 else
  some (((0 : Int32), z1.2))
set_option maxHeartbeats 4000000 in
set_option maxRecDepth 100000 in
theorem ok_X8_flip (d : Nat) (hd : 5 ≤ d) (h : PH) (p0 : Int32) : ∀ z, F_X8_flip h p0 = some z → Ex d 198 [.ref 122, .int p0] h (.inl (some (.int z.1))) (z.2) := by
  obtain ⟨d, rfl⟩ : ∃ e, d = e + 1 := ⟨d - 1, by omega⟩
  intro z hz
  refine ⟨rfl, ?_⟩
  refine (?_ : Sim (Ex d) mi_X8_flip (fun o1 h1 => o1 = _ ∧ h1 = _) (F_X8_flip h p0) (fun t => t = z) 0 [some (.ref 122), some (.int p0), none, none, none] [] h 0) z hz rfl
  unfold F_X8_flip
  refine sS rfl rfl ?_
  refine sS rfl rfl ?_
  refine sS rfl rfl ?_
  refine sS rfl rfl ?_
  refine sS rfl rfl ?_
  refine sC1 (c' := 0) rfl rfl rfl rfl rfl rfl (ok_X8_noEdge d (by omega) (pu h 122 0 (0 : Int32)) p0) (fun z1 => ?_)
  refine sB rfl rfl ?_ ?_
  · refine sS rfl rfl ?_
    refine sS rfl rfl ?_
    refine sC1 (c' := 0) rfl rfl rfl rfl rfl rfl (ok_X8_tourWith d (by omega) z1.2 p0) (fun z2 => ?_)
    refine sS rfl rfl ?_
    refine sS rfl rfl ?_
    refine sS rfl rfl ?_
    refine sS rfl rfl ?_
    refine sJn 32 (fun (v4 : Int32) => [some (.ref 122), some (.int p0), some (.int z2), none, none]) (fun (v4 : Int32) => [.int v4, .ref 122]) (fun (v4 : Int32) => z1.2) (fun v4 => ?_) (fun k3 hk3 => ?_)
    · refine sS rfl rfl ?_
      refine sT1 (c' := 0) rfl rfl rfl rfl rfl rfl (ok_X8_fails d (by omega) z1.2 v4 (2 : Int32)) ?_
      refine sB rfl rfl ?_ ?_
      · refine sS rfl rfl ?_
        refine sT1 (c' := 0) rfl rfl rfl rfl rfl rfl (ok_X8_tour d (by omega) (F_X8_fails z1.2 v4 (2 : Int32)).2 z2) ?_
        refine sS rfl rfl ?_
        refine sS rfl rfl ?_
        refine sS rfl rfl ?_
        refine sS rfl rfl ?_
        refine sS rfl rfl ?_
        refine sC1 (c' := 0) rfl rfl rfl rfl rfl rfl (ok_X8_placeIn d (by omega) (F_X8_fails z1.2 v4 (2 : Int32)).2 z2 p0) (fun z5 => ?_)
        refine sS rfl rfl ?_
        refine sS rfl rfl ?_
        refine sS rfl rfl ?_
        refine sS rfl rfl ?_
        refine sS rfl rfl ?_
        refine sS rfl rfl ?_
        refine sIald rfl rfl (fun z6 => ?_)
        refine sS rfl rfl ?_
        refine sS rfl rfl ?_
        refine sIast rfl rfl (fun h7 => ?_)
        refine sS rfl rfl ?_
        refine sS rfl rfl ?_
        refine sC1 (c' := 0) rfl rfl rfl rfl rfl rfl (ok_X8_costOfTour d (by omega) h7 z2) (fun z8 => ?_)
        refine sS rfl rfl ?_
        refine sJn 80 (fun (v10 : Int32) => [some (.ref 122), none, some (.int z2), some (.int ((((F_X8_tour (F_X8_fails z1.2 v4 (2 : Int32)).2 z2) + (2 : Int32)) + z5))), none]) (fun (v10 : Int32) => [.int v10]) (fun (v10 : Int32) => z8.2) (fun v10 => ?_) (fun k9 hk9 => ?_)
        · refine sS rfl rfl ?_
          refine sS rfl rfl ?_
          refine sS rfl rfl ?_
          refine sS rfl rfl ?_
          refine sS rfl rfl ?_
          refine sIald rfl rfl (fun z11 => ?_)
          refine sS rfl rfl ?_
          refine sS rfl rfl ?_
          refine sIast rfl rfl (fun h12 => ?_)
          refine sS rfl rfl ?_
          refine sS rfl rfl ?_
          refine sS rfl rfl ?_
          refine sT1 (c' := 0) rfl rfl rfl rfl rfl rfl (ok_X8_fails d (by omega) h12 v10 (2 : Int32)) ?_
          refine sB rfl rfl ?_ ?_
          · refine sS rfl rfl ?_
            refine sC0 (c' := 0) rfl rfl rfl rfl rfl rfl (ok_X8_remember d (by omega) (F_X8_fails h12 v10 (2 : Int32)).2) (fun h13 => ?_)
            refine sS rfl rfl ?_
            refine sS rfl rfl ?_
            refine sS rfl rfl ?_
            refine sS rfl rfl ?_
            refine sIald rfl rfl (fun z14 => ?_)
            refine sS rfl rfl ?_
            refine sS rfl rfl ?_
            refine sIast rfl rfl (fun h15 => ?_)
            refine sS rfl rfl ?_
            refine sS rfl rfl ?_
            refine sC1 (c' := 0) rfl rfl rfl rfl rfl rfl (ok_X8_costOfTour d (by omega) h15 z2) (fun z16 => ?_)
            exact sR rfl rfl (fun hg => by cases hg; exact ⟨rfl, rfl⟩)
          · refine sS rfl rfl ?_
            exact sR rfl rfl (fun hg => by cases hg; exact ⟨rfl, rfl⟩)
        · refine sB rfl rfl ?_ ?_
          · refine sS rfl rfl ?_
            refine sM [true, false, true, true, true] rfl ?_
            have h3 := hk9 ((0 : Int32))
            try dsimp only at h3
            exact h3
          · refine sS rfl rfl ?_
            refine sS rfl rfl ?_
            refine sM [true, false, true, true, true] rfl ?_
            have h3 := hk9 ((1 : Int32))
            try dsimp only at h3
            exact h3
      · refine sS rfl rfl ?_
        exact sR rfl rfl (fun hg => by cases hg; exact ⟨rfl, rfl⟩)
    · refine sB rfl rfl ?_ ?_
      · refine sS rfl rfl ?_
        have h3 := hk3 ((0 : Int32))
        try dsimp only at h3
        exact h3
      · refine sS rfl rfl ?_
        refine sS rfl rfl ?_
        have h3 := hk3 ((1 : Int32))
        try dsimp only at h3
        exact h3
  · refine sS rfl rfl ?_
    exact sR rfl rfl (fun hg => by cases hg; exact ⟨rfl, rfl⟩)
noncomputable def F_X8_build (h : PH) : Option (Int32 × PH) :=
 (F_X8_remember (pu h 122 0 (0 : Int32))).bind fun h1 =>
 loop (fun (s2 : Int32 × Int32 × PH) =>
  (ald 1556 s2.2.2 124 (2 : Int32)).bind fun z3 =>
  if z3 ≤ s2.2.1 then
   some (.inr ((s2.1, s2.2.2)))
  else
   (F_X8_canBeServed s2.2.2 s2.2.1).bind fun z4 =>
   jn (fun (v6 : Int32 × PH) =>
    if ¬ v6.1 = (-1 : Int32) then
     (F_X8_putBy v6.2 v6.1 s2.2.1).bind fun h7 =>
     some (.inl ((s2.1 + (1 : Int32)), (s2.2.1 + (1 : Int32)), h7))
    else
     some (.inl (s2.1, (s2.2.1 + (1 : Int32)), v6.2))) (fun k5 =>
    if z4 = 0 then
     k5 ((-1 : Int32), s2.2.2)
    else
     (F_X8_findInsertion s2.2.2 s2.2.1).bind fun z8 =>
     k5 (z8.1, z8.2))) ((0 : Int32), (0 : Int32), h1)
set_option maxHeartbeats 4000000 in
set_option maxRecDepth 100000 in
theorem ok_X8_build (d : Nat) (hd : 7 ≤ d) (h : PH) : ∀ z, F_X8_build h = some z → Ex d 199 [.ref 122] h (.inl (some (.int z.1))) (z.2) := by
  obtain ⟨d, rfl⟩ : ∃ e, d = e + 1 := ⟨d - 1, by omega⟩
  intro z hz
  refine ⟨rfl, ?_⟩
  refine (?_ : Sim (Ex d) mi_X8_build (fun o1 h1 => o1 = _ ∧ h1 = _) (F_X8_build h) (fun t => t = z) 0 [some (.ref 122), none, none, none] [] h 0) z hz rfl
  unfold F_X8_build
  refine sS rfl rfl ?_
  refine sS rfl rfl ?_
  refine sS rfl rfl ?_
  refine sS rfl rfl ?_
  refine sC0 (c' := 0) rfl rfl rfl rfl rfl rfl (ok_X8_remember d (by omega) (pu h 122 0 (0 : Int32))) (fun h1 => ?_)
  refine sS rfl rfl ?_
  refine sS rfl rfl ?_
  refine sS rfl rfl ?_
  refine sS rfl rfl ?_
  refine sL (pc := 13) (lv := fun (s2 : Int32 × Int32 × PH) => [some (.ref 122), some (.int (s2.1)), some (.int (s2.2.1)), none]) (h := fun (s2 : Int32 × Int32 × PH) => s2.2.2) (fun s2 => ?_) ((0 : Int32), (0 : Int32), h1)
  refine sS rfl rfl ?_
  refine sS rfl rfl ?_
  refine sS rfl rfl ?_
  refine sS rfl rfl ?_
  refine sIald rfl rfl (fun z3 => ?_)
  refine sB rfl rfl ?_ ?_
  · refine sS rfl rfl ?_
    exact sR rfl rfl (fun hg => by cases hg; exact ⟨rfl, rfl⟩)
  · refine sS rfl rfl ?_
    refine sS rfl rfl ?_
    refine sC1 (c' := 0) rfl rfl rfl rfl rfl rfl (ok_X8_canBeServed d (by omega) s2.2.2 s2.2.1) (fun z4 => ?_)
    refine sJn 40 (fun (v6 : Int32 × PH) => [some (.ref 122), some (.int (s2.1)), some (.int (s2.2.1)), none]) (fun (v6 : Int32 × PH) => [.int (v6.1)]) (fun (v6 : Int32 × PH) => v6.2) (fun v6 => ?_) (fun k5 hk5 => ?_)
    · refine sS rfl rfl ?_
      refine sS rfl rfl ?_
      refine sS rfl rfl ?_
      refine sB rfl rfl ?_ ?_
      · refine sS rfl rfl ?_
        refine sS rfl rfl ?_
        refine sS rfl rfl ?_
        refine sC0 (c' := 0) rfl rfl rfl rfl rfl rfl (ok_X8_putBy d (by omega) v6.2 v6.1 s2.2.1) (fun h7 => ?_)
        refine sS rfl rfl ?_
        refine sS rfl rfl ?_
        refine sS rfl rfl ?_
        refine sM [true, true, true, false] rfl ?_
        exact sJ (fun h2 => by (try dsimp only at h2); exact h2)
      · refine sS rfl rfl ?_
        refine sS rfl rfl ?_
        refine sS rfl rfl ?_
        refine sM [true, true, true, false] rfl ?_
        exact sJ (fun h2 => by (try dsimp only at h2); exact h2)
    · refine sB rfl rfl ?_ ?_
      · refine sS rfl rfl ?_
        have h3 := hk5 ((-1 : Int32), s2.2.2)
        try dsimp only at h3
        exact h3
      · refine sS rfl rfl ?_
        refine sS rfl rfl ?_
        refine sC1 (c' := 0) rfl rfl rfl rfl rfl rfl (ok_X8_findInsertion d (by omega) s2.2.2 s2.2.1) (fun z8 => ?_)
        refine sS rfl rfl ?_
        have h3 := hk5 (z8.1, z8.2)
        try dsimp only at h3
        exact h3
noncomputable def F_X8_improve (h : PH) (p0 : Int32) : Option (Int32 × PH) :=
 jn (fun (v2 : Int32) =>
  if (F_X8_fails (pu h 122 0 (0 : Int32)) v2 (1 : Int32)).1 = 0 then
   (F_X8_remember (F_X8_fails (pu h 122 0 (0 : Int32)) v2 (1 : Int32)).2).bind fun h3 =>
   loop (fun (s4 : Int32 × Int32 × PH) =>
    if p0 ≤ s4.2.1 then
     some (.inr ((s4.1, s4.2.2)))
    else
     loop (fun (s5 : Int32 × Int32 × Int32 × PH) =>
      (ald 1556 s5.2.2.2 124 (2 : Int32)).bind fun z6 =>
      if z6 ≤ s5.2.2.1 then
       if ¬ s5.1 = (-1 : Int32) then
        (F_X8_change s5.2.2.2 s5.1).bind fun z7 =>
        some (.inr (.inl ((s4.1 + z7.1), (s4.2.1 + (1 : Int32)), z7.2)))
       else
        some (.inr (.inr ((s4.1, s5.2.2.2))))
      else
       (F_X8_tourWith s5.2.2.2 s5.2.2.1).bind fun z8 =>
       jn (fun (v10 : Int32 × PH) =>
        if s5.2.1 < v10.1 then
         some (.inl (s5.2.2.1, v10.1, (s5.2.2.1 + (1 : Int32)), v10.2))
        else
         some (.inl (s5.1, s5.2.1, (s5.2.2.1 + (1 : Int32)), v10.2))) (fun k9 =>
        if ¬ z8 = (-1 : Int32) then
         (F_X8_gainOf s5.2.2.2 s5.2.2.1).bind fun z11 =>
         k9 (z11.1, z11.2)
        else
         k9 ((0 : Int32), s5.2.2.2))) ((-1 : Int32), (0 : Int32), (0 : Int32), s4.2.2)) ((0 : Int32), (0 : Int32), h3)
  else
   some (((0 : Int32), (F_X8_fails (pu h 122 0 (0 : Int32)) v2 (1 : Int32)).2))) (fun k1 =>
  if ¬ (F_X8_in (pu h 122 0 (0 : Int32)) p0 (1 : Int32) (10 : Int32)) = 0 then
   k1 ((0 : Int32))
  else
   k1 ((1 : Int32)))
set_option maxHeartbeats 4000000 in
set_option maxRecDepth 100000 in
theorem ok_X8_improve (d : Nat) (hd : 9 ≤ d) (h : PH) (p0 : Int32) : ∀ z, F_X8_improve h p0 = some z → Ex d 200 [.ref 122, .int p0] h (.inl (some (.int z.1))) (z.2) := by
  obtain ⟨d, rfl⟩ : ∃ e, d = e + 1 := ⟨d - 1, by omega⟩
  intro z hz
  refine ⟨rfl, ?_⟩
  refine (?_ : Sim (Ex d) mi_X8_improve (fun o1 h1 => o1 = _ ∧ h1 = _) (F_X8_improve h p0) (fun t => t = z) 0 [some (.ref 122), some (.int p0), none, none, none, none, none, none] [] h 0) z hz rfl
  unfold F_X8_improve
  refine sS rfl rfl ?_
  refine sS rfl rfl ?_
  refine sS rfl rfl ?_
  refine sS rfl rfl ?_
  refine sS rfl rfl ?_
  refine sS rfl rfl ?_
  refine sS rfl rfl ?_
  refine sT1 (c' := 0) rfl rfl rfl rfl rfl rfl (ok_X8_in d (by omega) (pu h 122 0 (0 : Int32)) p0 (1 : Int32) (10 : Int32)) ?_
  refine sJn 21 (fun (v2 : Int32) => [some (.ref 122), some (.int p0), none, none, none, none, none, none]) (fun (v2 : Int32) => [.int v2, .ref 122]) (fun (v2 : Int32) => (pu h 122 0 (0 : Int32))) (fun v2 => ?_) (fun k1 hk1 => ?_)
  · refine sS rfl rfl ?_
    refine sT1 (c' := 0) rfl rfl rfl rfl rfl rfl (ok_X8_fails d (by omega) (pu h 122 0 (0 : Int32)) v2 (1 : Int32)) ?_
    refine sB rfl rfl ?_ ?_
    · refine sS rfl rfl ?_
      refine sC0 (c' := 0) rfl rfl rfl rfl rfl rfl (ok_X8_remember d (by omega) (F_X8_fails (pu h 122 0 (0 : Int32)) v2 (1 : Int32)).2) (fun h3 => ?_)
      refine sS rfl rfl ?_
      refine sS rfl rfl ?_
      refine sS rfl rfl ?_
      refine sS rfl rfl ?_
      refine sL (pc := 38) (lv := fun (s4 : Int32 × Int32 × PH) => [some (.ref 122), some (.int p0), some (.int (s4.1)), some (.int (s4.2.1)), none, none, none, none]) (h := fun (s4 : Int32 × Int32 × PH) => s4.2.2) (fun s4 => ?_) ((0 : Int32), (0 : Int32), h3)
      refine sS rfl rfl ?_
      refine sS rfl rfl ?_
      refine sB rfl rfl ?_ ?_
      · refine sS rfl rfl ?_
        exact sR rfl rfl (fun hg => by cases hg; exact ⟨rfl, rfl⟩)
      · refine sS rfl rfl ?_
        refine sS rfl rfl ?_
        refine sS rfl rfl ?_
        refine sS rfl rfl ?_
        refine sS rfl rfl ?_
        refine sS rfl rfl ?_
        refine sL (pc := 52) (lv := fun (s5 : Int32 × Int32 × Int32 × PH) => [some (.ref 122), some (.int p0), some (.int (s4.1)), some (.int (s4.2.1)), some (.int (s5.1)), some (.int (s5.2.1)), some (.int (s5.2.2.1)), none]) (h := fun (s5 : Int32 × Int32 × Int32 × PH) => s5.2.2.2) (fun s5 => ?_) ((-1 : Int32), (0 : Int32), (0 : Int32), s4.2.2)
        refine sS rfl rfl ?_
        refine sS rfl rfl ?_
        refine sS rfl rfl ?_
        refine sS rfl rfl ?_
        refine sIald rfl rfl (fun z6 => ?_)
        refine sB rfl rfl ?_ ?_
        · refine sS rfl rfl ?_
          refine sS rfl rfl ?_
          refine sB rfl rfl ?_ ?_
          · refine sS rfl rfl ?_
            refine sS rfl rfl ?_
            refine sS rfl rfl ?_
            refine sC1 (c' := 0) rfl rfl rfl rfl rfl rfl (ok_X8_change d (by omega) s5.2.2.2 s5.1) (fun z7 => ?_)
            refine sS rfl rfl ?_
            refine sS rfl rfl ?_
            refine sS rfl rfl ?_
            refine sS rfl rfl ?_
            refine sM [true, true, true, true, false, false, false, true] rfl ?_
            refine sUp ?_
            exact sJ (fun h2 => by (try dsimp only at h2); exact h2)
          · refine sS rfl rfl ?_
            exact sR rfl rfl (fun hg => by cases hg; exact ⟨rfl, rfl⟩)
        · refine sS rfl rfl ?_
          refine sS rfl rfl ?_
          refine sC1 (c' := 0) rfl rfl rfl rfl rfl rfl (ok_X8_tourWith d (by omega) s5.2.2.2 s5.2.2.1) (fun z8 => ?_)
          refine sS rfl rfl ?_
          refine sJn 83 (fun (v10 : Int32 × PH) => [some (.ref 122), some (.int p0), some (.int (s4.1)), some (.int (s4.2.1)), some (.int (s5.1)), some (.int (s5.2.1)), some (.int (s5.2.2.1)), none]) (fun (v10 : Int32 × PH) => [.int (v10.1)]) (fun (v10 : Int32 × PH) => v10.2) (fun v10 => ?_) (fun k9 hk9 => ?_)
          · refine sS rfl rfl ?_
            refine sS rfl rfl ?_
            refine sS rfl rfl ?_
            refine sB rfl rfl ?_ ?_
            · refine sS rfl rfl ?_
              refine sS rfl rfl ?_
              refine sS rfl rfl ?_
              refine sS rfl rfl ?_
              refine sS rfl rfl ?_
              refine sS rfl rfl ?_
              refine sM [true, true, true, true, true, true, true, false] rfl ?_
              exact sJ (fun h2 => by (try dsimp only at h2); exact h2)
            · refine sS rfl rfl ?_
              refine sS rfl rfl ?_
              refine sS rfl rfl ?_
              refine sM [true, true, true, true, true, true, true, false] rfl ?_
              exact sJ (fun h2 => by (try dsimp only at h2); exact h2)
          · refine sB rfl rfl ?_ ?_
            · refine sS rfl rfl ?_
              refine sS rfl rfl ?_
              refine sC1 (c' := 0) rfl rfl rfl rfl rfl rfl (ok_X8_gainOf d (by omega) s5.2.2.2 s5.2.2.1) (fun z11 => ?_)
              have h3 := hk9 (z11.1, z11.2)
              try dsimp only at h3
              exact h3
            · refine sS rfl rfl ?_
              refine sS rfl rfl ?_
              have h3 := hk9 ((0 : Int32), s5.2.2.2)
              try dsimp only at h3
              exact h3
    · refine sS rfl rfl ?_
      exact sR rfl rfl (fun hg => by cases hg; exact ⟨rfl, rfl⟩)
  · refine sB rfl rfl ?_ ?_
    · refine sS rfl rfl ?_
      have h3 := hk1 ((0 : Int32))
      try dsimp only at h3
      exact h3
    · refine sS rfl rfl ?_
      refine sS rfl rfl ?_
      have h3 := hk1 ((1 : Int32))
      try dsimp only at h3
      exact h3
noncomputable def F_X8_undo (h : PH) : Option (Int32 × PH) :=
 if ¬ ((pu h 122 0 (0 : Int32)).1 122 12) = 0 then
  (aidx 8 ((pu (pu h 122 0 (0 : Int32)) 122 12 (((pu h 122 0 (0 : Int32)).1 122 12) - (1 : Int32))).1 122 12)).bind fun j1 =>
  (F_X8_copy (pu (pu h 122 0 (0 : Int32)) 122 12 (((pu h 122 0 (0 : Int32)).1 122 12) - (1 : Int32))) (128 + 1 * j1) 124).bind fun h2 =>
  (F_X8_layGaps h2).bind fun h3 =>
  some (((h3.1 122 12), h3))
 else
  some (((-1 : Int32), (pu h 122 0 (0 : Int32))))
set_option maxHeartbeats 4000000 in
set_option maxRecDepth 100000 in
theorem ok_X8_undo (d : Nat) (hd : 5 ≤ d) (h : PH) : ∀ z, F_X8_undo h = some z → Ex d 201 [.ref 122] h (.inl (some (.int z.1))) (z.2) := by
  obtain ⟨d, rfl⟩ : ∃ e, d = e + 1 := ⟨d - 1, by omega⟩
  intro z hz
  refine ⟨rfl, ?_⟩
  refine (?_ : Sim (Ex d) mi_X8_undo (fun o1 h1 => o1 = _ ∧ h1 = _) (F_X8_undo h) (fun t => t = z) 0 [some (.ref 122)] [] h 0) z hz rfl
  unfold F_X8_undo
  refine sS rfl rfl ?_
  refine sS rfl rfl ?_
  refine sS rfl rfl ?_
  refine sS rfl rfl ?_
  refine sS rfl rfl ?_
  refine sB rfl rfl ?_ ?_
  · refine sS rfl rfl ?_
    refine sS rfl rfl ?_
    refine sS rfl rfl ?_
    refine sS rfl rfl ?_
    refine sS rfl rfl ?_
    refine sS rfl rfl ?_
    refine sS rfl rfl ?_
    refine sS rfl rfl ?_
    refine sS rfl rfl ?_
    refine sS rfl rfl ?_
    refine sRald6 rfl rfl (fun j1 hj1 => ?_)
    refine sS rfl rfl ?_
    refine sS rfl rfl ?_
    refine sC0 (c' := 0) rfl rfl rfl rfl rfl rfl (ok_X8_copy d (by omega) (pu (pu h 122 0 (0 : Int32)) 122 12 (((pu h 122 0 (0 : Int32)).1 122 12) - (1 : Int32))) (128 + 1 * j1) (isHis_h hj1) 124 rfl) (fun h2 => ?_)
    refine sS rfl rfl ?_
    refine sC0 (c' := 0) rfl rfl rfl rfl rfl rfl (ok_X8_layGaps d (by omega) h2) (fun h3 => ?_)
    refine sS rfl rfl ?_
    refine sS rfl rfl ?_
    exact sR rfl rfl (fun hg => by cases hg; exact ⟨rfl, rfl⟩)
  · refine sS rfl rfl ?_
    exact sR rfl rfl (fun hg => by cases hg; exact ⟨rfl, rfl⟩)
noncomputable def F_X8_checksum (h : PH) : Option (Int64 × PH) :=
 (F_X8_totalOf (pu h 122 0 (0 : Int32))).bind fun z1 =>
 (F_X8_unservedOnes z1.2).bind fun z2 =>
 loop (fun (s3 : Int64 × Int32) =>
  (ald 1556 z1.2 124 (4 : Int32)).bind fun z4 =>
  if z4 ≤ s3.2 then
   some (.inr ((s3.1, z1.2)))
  else
   loop (fun (s5 : Int64 × Int32) =>
    (F_X8_lengthOf z1.2 s3.2).bind fun z6 =>
    if ((2 : Int32) + z6) ≤ s5.2 then
     some (.inr (.inl (s5.1, (s3.2 + (1 : Int32)))))
    else
     (ald 1556 z1.2 124 ((F_X8_tour z1.2 s3.2) + s5.2)).bind fun z7 =>
     some (.inl ((((31 : Int64) * s5.1) + z7.toInt64), (s5.2 + (1 : Int32))))) (s3.1, (0 : Int32))) ((((31 : Int64) * z1.1.toInt64) + z2.toInt64), (0 : Int32))
set_option maxHeartbeats 4000000 in
set_option maxRecDepth 100000 in
theorem ok_X8_checksum (d : Nat) (hd : 7 ≤ d) (h : PH) : ∀ z, F_X8_checksum h = some z → Ex d 202 [.ref 122] h (.inl (some (.long z.1))) (z.2) := by
  obtain ⟨d, rfl⟩ : ∃ e, d = e + 1 := ⟨d - 1, by omega⟩
  intro z hz
  refine ⟨rfl, ?_⟩
  refine (?_ : Sim (Ex d) mi_X8_checksum (fun o1 h1 => o1 = _ ∧ h1 = _) (F_X8_checksum h) (fun t => t = z) 0 [some (.ref 122), none, none, none, none] [] h 0) z hz rfl
  unfold F_X8_checksum
  refine sS rfl rfl ?_
  refine sS rfl rfl ?_
  refine sS rfl rfl ?_
  refine sS rfl rfl ?_
  refine sS rfl rfl ?_
  refine sC1 (c' := 0) rfl rfl rfl rfl rfl rfl (ok_X8_totalOf d (by omega) (pu h 122 0 (0 : Int32))) (fun z1 => ?_)
  refine sS rfl rfl ?_
  refine sS rfl rfl ?_
  refine sS rfl rfl ?_
  refine sC1 (c' := 0) rfl rfl rfl rfl rfl rfl (ok_X8_unservedOnes d (by omega) z1.2) (fun z2 => ?_)
  refine sS rfl rfl ?_
  refine sS rfl rfl ?_
  refine sS rfl rfl ?_
  refine sS rfl rfl ?_
  refine sS rfl rfl ?_
  refine sL (pc := 23) (lv := fun (s3 : Int64 × Int32) => [some (.ref 122), some (.long (s3.1)), none, some (.int (s3.2)), none]) (h := fun (s3 : Int64 × Int32) => z1.2) (fun s3 => ?_) ((((31 : Int64) * z1.1.toInt64) + z2.toInt64), (0 : Int32))
  refine sS rfl rfl ?_
  refine sS rfl rfl ?_
  refine sS rfl rfl ?_
  refine sS rfl rfl ?_
  refine sIald rfl rfl (fun z4 => ?_)
  refine sB rfl rfl ?_ ?_
  · refine sS rfl rfl ?_
    exact sR rfl rfl (fun hg => by cases hg; exact ⟨rfl, rfl⟩)
  · refine sS rfl rfl ?_
    refine sS rfl rfl ?_
    refine sL (pc := 36) (lv := fun (s5 : Int64 × Int32) => [some (.ref 122), some (.long (s5.1)), none, some (.int (s3.2)), some (.int (s5.2))]) (h := fun (s5 : Int64 × Int32) => z1.2) (fun s5 => ?_) (s3.1, (0 : Int32))
    refine sS rfl rfl ?_
    refine sS rfl rfl ?_
    refine sS rfl rfl ?_
    refine sS rfl rfl ?_
    refine sC1 (c' := 0) rfl rfl rfl rfl rfl rfl (ok_X8_lengthOf d (by omega) z1.2 s3.2) (fun z6 => ?_)
    refine sS rfl rfl ?_
    refine sB rfl rfl ?_ ?_
    · refine sS rfl rfl ?_
      refine sS rfl rfl ?_
      refine sM [true, true, true, true, false] rfl ?_
      refine sUp ?_
      exact sJ (fun h2 => by (try dsimp only at h2); exact h2)
    · refine sS rfl rfl ?_
      refine sS rfl rfl ?_
      refine sS rfl rfl ?_
      refine sS rfl rfl ?_
      refine sS rfl rfl ?_
      refine sS rfl rfl ?_
      refine sT1 (c' := 0) rfl rfl rfl rfl rfl rfl (ok_X8_tour d (by omega) z1.2 s3.2) ?_
      refine sS rfl rfl ?_
      refine sS rfl rfl ?_
      refine sIald rfl rfl (fun z7 => ?_)
      refine sS rfl rfl ?_
      refine sS rfl rfl ?_
      refine sS rfl rfl ?_
      refine sS rfl rfl ?_
      refine sS rfl rfl ?_
      exact sJ (fun h2 => by (try dsimp only at h2); exact h2)
