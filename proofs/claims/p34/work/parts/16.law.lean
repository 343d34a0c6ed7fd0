noncomputable def F_L_load (h : PH) (p0 : Int32) : Option (Int32 × PH) :=
 (F_X7_load h p0).bind <| bsum (fun E => if E = 0 then some (((-2000000098 : Int32), h)) else none) fun z1v =>
 some ((z1v.1, z1v.2))
set_option maxHeartbeats 4000000 in
set_option maxRecDepth 100000 in
theorem ok_L_load (d : Nat) (hd : 33 ≤ d) (h : PH) (p0 : Int32) : ∀ z, F_L_load h p0 = some z → Ex d 104 [.ref 0, .int p0] h (.inl (some (.int z.1))) (z.2) := by
  obtain ⟨d, rfl⟩ : ∃ e, d = e + 1 := ⟨d - 1, by omega⟩
  intro z hz
  refine ⟨rfl, ?_⟩
  refine (?_ : Sim (Ex d) mi_L_load (fun o1 h1 => o1 = _ ∧ h1 = _) (F_L_load h p0) (fun t => t = z) 0 [some (.ref 0), some (.int p0), none] [] h 0) z hz rfl
  unfold F_L_load
  refine sS rfl rfl ?_
  refine sS rfl rfl ?_
  refine sCX1 (hx := h) (c' := 1) rfl rfl rfl rfl rfl rfl (ok_X7_load d (by omega) h p0) ?_ (fun z1v => ?_)
  · intro E t h1 h2
    by_cases q0 : E = 0
    · rw [if_pos q0] at h1
      cases h1
      cases h2
      subst q0
      refine Or.inr ⟨_, rfl, ?_⟩
      exact PW.s rfl rfl (PW.r rfl rfl ⟨rfl, rfl⟩)
    · rw [if_neg q0] at h1
      cases h1
  exact sR rfl rfl (fun hg => by cases hg; exact ⟨rfl, rfl⟩)
noncomputable def F_L_edge (h : PH) (p0 : Int32) (p1 : Int32) : Option (Int32) :=
 (F_X7_edge h p0 p1).bind <| bsum (fun E => if E = 1 then some ((-2000000097 : Int32)) else if E = 0 then some ((-2000000098 : Int32)) else none) fun z1v =>
 some (z1v)
set_option maxHeartbeats 4000000 in
set_option maxRecDepth 100000 in
theorem ok_L_edge (d : Nat) (hd : 3 ≤ d) (h : PH) (p0 : Int32) (p1 : Int32) : ∀ z, F_L_edge h p0 p1 = some z → Ex d 105 [.ref 0, .int p0, .int p1] h (.inl (some (.int z))) (h) := by
  obtain ⟨d, rfl⟩ : ∃ e, d = e + 1 := ⟨d - 1, by omega⟩
  intro z hz
  refine ⟨rfl, ?_⟩
  refine (?_ : Sim (Ex d) mi_L_edge (fun o1 h1 => o1 = _ ∧ h1 = _) (F_L_edge h p0 p1) (fun t => t = z) 0 [some (.ref 0), some (.int p0), some (.int p1), none] [] h 0) z hz rfl
  unfold F_L_edge
  refine sS rfl rfl ?_
  refine sS rfl rfl ?_
  refine sS rfl rfl ?_
  refine sCX1 (hx := h) (c' := 2) rfl rfl rfl rfl rfl rfl (ok_X7_edge d (by omega) h p0 p1) ?_ (fun z1v => ?_)
  · intro E t h1 h2
    by_cases q1 : E = 1
    · rw [if_pos q1] at h1
      cases h1
      cases h2
      subst q1
      refine Or.inr ⟨_, rfl, ?_⟩
      exact PW.s rfl rfl (PW.r rfl rfl ⟨rfl, rfl⟩)
    · rw [if_neg q1] at h1
      by_cases q0 : E = 0
      · rw [if_pos q0] at h1
        cases h1
        cases h2
        subst q0
        refine Or.inr ⟨_, rfl, ?_⟩
        exact PW.s rfl rfl (PW.r rfl rfl ⟨rfl, rfl⟩)
      · rw [if_neg q0] at h1
        cases h1
  exact sR rfl rfl (fun hg => by cases hg; exact ⟨rfl, rfl⟩)
noncomputable def F_L_deadhead (h : PH) (p0 : Int32) (p1 : Int32) : Option (Int32) :=
 (F_X7_deadhead h p0 p1).bind <| bsum (fun E => if E = 1 then some ((-2000000097 : Int32)) else none) fun z1v =>
 some (z1v)
set_option maxHeartbeats 4000000 in
set_option maxRecDepth 100000 in
theorem ok_L_deadhead (d : Nat) (hd : 3 ≤ d) (h : PH) (p0 : Int32) (p1 : Int32) : ∀ z, F_L_deadhead h p0 p1 = some z → Ex d 106 [.ref 0, .int p0, .int p1] h (.inl (some (.int z))) (h) := by
  obtain ⟨d, rfl⟩ : ∃ e, d = e + 1 := ⟨d - 1, by omega⟩
  intro z hz
  refine ⟨rfl, ?_⟩
  refine (?_ : Sim (Ex d) mi_L_deadhead (fun o1 h1 => o1 = _ ∧ h1 = _) (F_L_deadhead h p0 p1) (fun t => t = z) 0 [some (.ref 0), some (.int p0), some (.int p1), none] [] h 0) z hz rfl
  unfold F_L_deadhead
  refine sS rfl rfl ?_
  refine sS rfl rfl ?_
  refine sS rfl rfl ?_
  refine sCX1 (hx := h) (c' := 2) rfl rfl rfl rfl rfl rfl (ok_X7_deadhead d (by omega) h p0 p1) ?_ (fun z1v => ?_)
  · intro E t h1 h2
    by_cases q1 : E = 1
    · rw [if_pos q1] at h1
      cases h1
      cases h2
      subst q1
      refine Or.inr ⟨_, rfl, ?_⟩
      exact PW.s rfl rfl (PW.r rfl rfl ⟨rfl, rfl⟩)
    · rw [if_neg q1] at h1
      cases h1
  exact sR rfl rfl (fun hg => by cases hg; exact ⟨rfl, rfl⟩)
noncomputable def F_L_depotOf (h : PH) (p0 : Int32) : Option (Int32) :=
 (F_X7_depotOf h p0).bind <| bsum (fun E => if E = 1 then some ((-2000000097 : Int32)) else none) fun z1v =>
 some (z1v)
set_option maxHeartbeats 4000000 in
set_option maxRecDepth 100000 in
theorem ok_L_depotOf (d : Nat) (hd : 3 ≤ d) (h : PH) (p0 : Int32) : ∀ z, F_L_depotOf h p0 = some z → Ex d 107 [.ref 0, .int p0] h (.inl (some (.int z))) (h) := by
  obtain ⟨d, rfl⟩ : ∃ e, d = e + 1 := ⟨d - 1, by omega⟩
  intro z hz
  refine ⟨rfl, ?_⟩
  refine (?_ : Sim (Ex d) mi_L_depotOf (fun o1 h1 => o1 = _ ∧ h1 = _) (F_L_depotOf h p0) (fun t => t = z) 0 [some (.ref 0), some (.int p0), none] [] h 0) z hz rfl
  unfold F_L_depotOf
  refine sS rfl rfl ?_
  refine sS rfl rfl ?_
  refine sCX1 (hx := h) (c' := 1) rfl rfl rfl rfl rfl rfl (ok_X7_depotOf d (by omega) h p0) ?_ (fun z1v => ?_)
  · intro E t h1 h2
    by_cases q1 : E = 1
    · rw [if_pos q1] at h1
      cases h1
      cases h2
      subst q1
      refine Or.inr ⟨_, rfl, ?_⟩
      exact PW.s rfl rfl (PW.r rfl rfl ⟨rfl, rfl⟩)
    · rw [if_neg q1] at h1
      cases h1
  exact sR rfl rfl (fun hg => by cases hg; exact ⟨rfl, rfl⟩)
noncomputable def F_L_length (h : PH) (p0 : Int32) : Option (Int32) :=
 (F_X7_length h p0).bind <| bsum (fun E => if E = 1 then some ((-2000000097 : Int32)) else none) fun z1v =>
 some (z1v)
set_option maxHeartbeats 4000000 in
set_option maxRecDepth 100000 in
theorem ok_L_length (d : Nat) (hd : 3 ≤ d) (h : PH) (p0 : Int32) : ∀ z, F_L_length h p0 = some z → Ex d 108 [.ref 0, .int p0] h (.inl (some (.int z))) (h) := by
  obtain ⟨d, rfl⟩ : ∃ e, d = e + 1 := ⟨d - 1, by omega⟩
  intro z hz
  refine ⟨rfl, ?_⟩
  refine (?_ : Sim (Ex d) mi_L_length (fun o1 h1 => o1 = _ ∧ h1 = _) (F_L_length h p0) (fun t => t = z) 0 [some (.ref 0), some (.int p0), none] [] h 0) z hz rfl
  unfold F_L_length
  refine sS rfl rfl ?_
  refine sS rfl rfl ?_
  refine sCX1 (hx := h) (c' := 1) rfl rfl rfl rfl rfl rfl (ok_X7_length d (by omega) h p0) ?_ (fun z1v => ?_)
  · intro E t h1 h2
    by_cases q1 : E = 1
    · rw [if_pos q1] at h1
      cases h1
      cases h2
      subst q1
      refine Or.inr ⟨_, rfl, ?_⟩
      exact PW.s rfl rfl (PW.r rfl rfl ⟨rfl, rfl⟩)
    · rw [if_neg q1] at h1
      cases h1
  exact sR rfl rfl (fun hg => by cases hg; exact ⟨rfl, rfl⟩)
noncomputable def F_L_arcAt (h : PH) (p0 : Int32) (p1 : Int32) : Option (Int32) :=
 (F_X7_arcAt h p0 p1).bind <| bsum (fun E => if E = 1 then some ((-2000000097 : Int32)) else if E = 3 then some ((-2000000100 : Int32)) else none) fun z1v =>
 some (z1v)
set_option maxHeartbeats 4000000 in
set_option maxRecDepth 100000 in
theorem ok_L_arcAt (d : Nat) (hd : 4 ≤ d) (h : PH) (p0 : Int32) (p1 : Int32) : ∀ z, F_L_arcAt h p0 p1 = some z → Ex d 109 [.ref 0, .int p0, .int p1] h (.inl (some (.int z))) (h) := by
  obtain ⟨d, rfl⟩ : ∃ e, d = e + 1 := ⟨d - 1, by omega⟩
  intro z hz
  refine ⟨rfl, ?_⟩
  refine (?_ : Sim (Ex d) mi_L_arcAt (fun o1 h1 => o1 = _ ∧ h1 = _) (F_L_arcAt h p0 p1) (fun t => t = z) 0 [some (.ref 0), some (.int p0), some (.int p1), none] [] h 0) z hz rfl
  unfold F_L_arcAt
  refine sS rfl rfl ?_
  refine sS rfl rfl ?_
  refine sS rfl rfl ?_
  refine sCX1 (hx := h) (c' := 2) rfl rfl rfl rfl rfl rfl (ok_X7_arcAt d (by omega) h p0 p1) ?_ (fun z1v => ?_)
  · intro E t h1 h2
    by_cases q1 : E = 1
    · rw [if_pos q1] at h1
      cases h1
      cases h2
      subst q1
      refine Or.inr ⟨_, rfl, ?_⟩
      exact PW.s rfl rfl (PW.r rfl rfl ⟨rfl, rfl⟩)
    · rw [if_neg q1] at h1
      by_cases q3 : E = 3
      · rw [if_pos q3] at h1
        cases h1
        cases h2
        subst q3
        refine Or.inr ⟨_, rfl, ?_⟩
        exact PW.s rfl rfl (PW.r rfl rfl ⟨rfl, rfl⟩)
      · rw [if_neg q3] at h1
        cases h1
  exact sR rfl rfl (fun hg => by cases hg; exact ⟨rfl, rfl⟩)
noncomputable def F_L_loadOf (h : PH) (p0 : Int32) : Option (Int32) :=
 (F_X7_loadOf h p0).bind <| bsum (fun E => if E = 1 then some ((-2000000097 : Int32)) else none) fun z1v =>
 some (z1v)
set_option maxHeartbeats 4000000 in
set_option maxRecDepth 100000 in
theorem ok_L_loadOf (d : Nat) (hd : 5 ≤ d) (h : PH) (p0 : Int32) : ∀ z, F_L_loadOf h p0 = some z → Ex d 110 [.ref 0, .int p0] h (.inl (some (.int z))) (h) := by
  obtain ⟨d, rfl⟩ : ∃ e, d = e + 1 := ⟨d - 1, by omega⟩
  intro z hz
  refine ⟨rfl, ?_⟩
  refine (?_ : Sim (Ex d) mi_L_loadOf (fun o1 h1 => o1 = _ ∧ h1 = _) (F_L_loadOf h p0) (fun t => t = z) 0 [some (.ref 0), some (.int p0), none] [] h 0) z hz rfl
  unfold F_L_loadOf
  refine sS rfl rfl ?_
  refine sS rfl rfl ?_
  refine sCX1 (hx := h) (c' := 1) rfl rfl rfl rfl rfl rfl (ok_X7_loadOf d (by omega) h p0) ?_ (fun z1v => ?_)
  · intro E t h1 h2
    by_cases q1 : E = 1
    · rw [if_pos q1] at h1
      cases h1
      cases h2
      subst q1
      refine Or.inr ⟨_, rfl, ?_⟩
      exact PW.s rfl rfl (PW.r rfl rfl ⟨rfl, rfl⟩)
    · rw [if_neg q1] at h1
      cases h1
  exact sR rfl rfl (fun hg => by cases hg; exact ⟨rfl, rfl⟩)
noncomputable def F_L_tourCost (h : PH) (p0 : Int32) : Option (Int32) :=
 (F_X7_tourCost h p0).bind <| bsum (fun E => if E = 1 then some ((-2000000097 : Int32)) else none) fun z1v =>
 some (z1v)
set_option maxHeartbeats 4000000 in
set_option maxRecDepth 100000 in
theorem ok_L_tourCost (d : Nat) (hd : 5 ≤ d) (h : PH) (p0 : Int32) : ∀ z, F_L_tourCost h p0 = some z → Ex d 111 [.ref 0, .int p0] h (.inl (some (.int z))) (h) := by
  obtain ⟨d, rfl⟩ : ∃ e, d = e + 1 := ⟨d - 1, by omega⟩
  intro z hz
  refine ⟨rfl, ?_⟩
  refine (?_ : Sim (Ex d) mi_L_tourCost (fun o1 h1 => o1 = _ ∧ h1 = _) (F_L_tourCost h p0) (fun t => t = z) 0 [some (.ref 0), some (.int p0), none] [] h 0) z hz rfl
  unfold F_L_tourCost
  refine sS rfl rfl ?_
  refine sS rfl rfl ?_
  refine sCX1 (hx := h) (c' := 1) rfl rfl rfl rfl rfl rfl (ok_X7_tourCost d (by omega) h p0) ?_ (fun z1v => ?_)
  · intro E t h1 h2
    by_cases q1 : E = 1
    · rw [if_pos q1] at h1
      cases h1
      cases h2
      subst q1
      refine Or.inr ⟨_, rfl, ?_⟩
      exact PW.s rfl rfl (PW.r rfl rfl ⟨rfl, rfl⟩)
    · rw [if_neg q1] at h1
      cases h1
  exact sR rfl rfl (fun hg => by cases hg; exact ⟨rfl, rfl⟩)
noncomputable def F_L_tourOf (h : PH) (p0 : Int32) : Option (Int32) :=
 (F_X7_tourOf h p0).bind <| bsum (fun E => if E = 1 then some ((-2000000097 : Int32)) else none) fun z1v =>
 some (z1v)
set_option maxHeartbeats 4000000 in
set_option maxRecDepth 100000 in
theorem ok_L_tourOf (d : Nat) (hd : 5 ≤ d) (h : PH) (p0 : Int32) : ∀ z, F_L_tourOf h p0 = some z → Ex d 112 [.ref 0, .int p0] h (.inl (some (.int z))) (h) := by
  obtain ⟨d, rfl⟩ : ∃ e, d = e + 1 := ⟨d - 1, by omega⟩
  intro z hz
  refine ⟨rfl, ?_⟩
  refine (?_ : Sim (Ex d) mi_L_tourOf (fun o1 h1 => o1 = _ ∧ h1 = _) (F_L_tourOf h p0) (fun t => t = z) 0 [some (.ref 0), some (.int p0), none] [] h 0) z hz rfl
  unfold F_L_tourOf
  refine sS rfl rfl ?_
  refine sS rfl rfl ?_
  refine sCX1 (hx := h) (c' := 1) rfl rfl rfl rfl rfl rfl (ok_X7_tourOf d (by omega) h p0) ?_ (fun z1v => ?_)
  · intro E t h1 h2
    by_cases q1 : E = 1
    · rw [if_pos q1] at h1
      cases h1
      cases h2
      subst q1
      refine Or.inr ⟨_, rfl, ?_⟩
      exact PW.s rfl rfl (PW.r rfl rfl ⟨rfl, rfl⟩)
    · rw [if_neg q1] at h1
      cases h1
  exact sR rfl rfl (fun hg => by cases hg; exact ⟨rfl, rfl⟩)
noncomputable def F_L_bestInsertion (h : PH) (p0 : Int32) : Option (Int32) :=
 (F_X7_bestInsertion h p0).bind <| bsum (fun E => if E = 1 then some ((-2000000097 : Int32)) else if E = 2 then some ((-2000000099 : Int32)) else none) fun z1v =>
 some (z1v)
set_option maxHeartbeats 4000000 in
set_option maxRecDepth 100000 in
theorem ok_L_bestInsertion (d : Nat) (hd : 7 ≤ d) (h : PH) (p0 : Int32) : ∀ z, F_L_bestInsertion h p0 = some z → Ex d 113 [.ref 0, .int p0] h (.inl (some (.int z))) (h) := by
  obtain ⟨d, rfl⟩ : ∃ e, d = e + 1 := ⟨d - 1, by omega⟩
  intro z hz
  refine ⟨rfl, ?_⟩
  refine (?_ : Sim (Ex d) mi_L_bestInsertion (fun o1 h1 => o1 = _ ∧ h1 = _) (F_L_bestInsertion h p0) (fun t => t = z) 0 [some (.ref 0), some (.int p0), none] [] h 0) z hz rfl
  unfold F_L_bestInsertion
  refine sS rfl rfl ?_
  refine sS rfl rfl ?_
  refine sCX1 (hx := h) (c' := 2) rfl rfl rfl rfl rfl rfl (ok_X7_bestInsertion d (by omega) h p0) ?_ (fun z1v => ?_)
  · intro E t h1 h2
    by_cases q1 : E = 1
    · rw [if_pos q1] at h1
      cases h1
      cases h2
      subst q1
      refine Or.inr ⟨_, rfl, ?_⟩
      exact PW.s rfl rfl (PW.r rfl rfl ⟨rfl, rfl⟩)
    · rw [if_neg q1] at h1
      by_cases q2 : E = 2
      · rw [if_pos q2] at h1
        cases h1
        cases h2
        subst q2
        refine Or.inr ⟨_, rfl, ?_⟩
        exact PW.s rfl rfl (PW.r rfl rfl ⟨rfl, rfl⟩)
      · rw [if_neg q2] at h1
        cases h1
  exact sR rfl rfl (fun hg => by cases hg; exact ⟨rfl, rfl⟩)
noncomputable def F_L_openTour (h : PH) (p0 : Int32) : Option (Int32 × PH) :=
 (F_X7_openTour h p0).bind <| bsum (fun E => if E = 1 then some (((-2000000097 : Int32), h)) else if E = 2 then some (((-2000000099 : Int32), h)) else none) fun z1v =>
 some ((z1v.1, z1v.2))
set_option maxHeartbeats 4000000 in
set_option maxRecDepth 100000 in
theorem ok_L_openTour (d : Nat) (hd : 5 ≤ d) (h : PH) (p0 : Int32) : ∀ z, F_L_openTour h p0 = some z → Ex d 114 [.ref 0, .int p0] h (.inl (some (.int z.1))) (z.2) := by
  obtain ⟨d, rfl⟩ : ∃ e, d = e + 1 := ⟨d - 1, by omega⟩
  intro z hz
  refine ⟨rfl, ?_⟩
  refine (?_ : Sim (Ex d) mi_L_openTour (fun o1 h1 => o1 = _ ∧ h1 = _) (F_L_openTour h p0) (fun t => t = z) 0 [some (.ref 0), some (.int p0), none] [] h 0) z hz rfl
  unfold F_L_openTour
  refine sS rfl rfl ?_
  refine sS rfl rfl ?_
  refine sCX1 (hx := h) (c' := 2) rfl rfl rfl rfl rfl rfl (ok_X7_openTour d (by omega) h p0) ?_ (fun z1v => ?_)
  · intro E t h1 h2
    by_cases q1 : E = 1
    · rw [if_pos q1] at h1
      cases h1
      cases h2
      subst q1
      refine Or.inr ⟨_, rfl, ?_⟩
      exact PW.s rfl rfl (PW.r rfl rfl ⟨rfl, rfl⟩)
    · rw [if_neg q1] at h1
      by_cases q2 : E = 2
      · rw [if_pos q2] at h1
        cases h1
        cases h2
        subst q2
        refine Or.inr ⟨_, rfl, ?_⟩
        exact PW.s rfl rfl (PW.r rfl rfl ⟨rfl, rfl⟩)
      · rw [if_neg q2] at h1
        cases h1
  exact sR rfl rfl (fun hg => by cases hg; exact ⟨rfl, rfl⟩)
noncomputable def F_L_insert (h : PH) (p0 : Int32) (p1 : Int32) (p2 : Int32) : Option (Int32 × PH) :=
 (F_X7_insert h p0 p1 p2).bind <| bsum (fun E => if E = 1 then some (((-2000000097 : Int32), h)) else if E = 2 then some (((-2000000099 : Int32), h)) else none) fun z1v =>
 some ((z1v.1, z1v.2))
set_option maxHeartbeats 4000000 in
set_option maxRecDepth 100000 in
theorem ok_L_insert (d : Nat) (hd : 6 ≤ d) (h : PH) (p0 : Int32) (p1 : Int32) (p2 : Int32) : ∀ z, F_L_insert h p0 p1 p2 = some z → Ex d 115 [.ref 0, .int p0, .int p1, .int p2] h (.inl (some (.int z.1))) (z.2) := by
  obtain ⟨d, rfl⟩ : ∃ e, d = e + 1 := ⟨d - 1, by omega⟩
  intro z hz
  refine ⟨rfl, ?_⟩
  refine (?_ : Sim (Ex d) mi_L_insert (fun o1 h1 => o1 = _ ∧ h1 = _) (F_L_insert h p0 p1 p2) (fun t => t = z) 0 [some (.ref 0), some (.int p0), some (.int p1), some (.int p2), none] [] h 0) z hz rfl
  unfold F_L_insert
  refine sS rfl rfl ?_
  refine sS rfl rfl ?_
  refine sS rfl rfl ?_
  refine sS rfl rfl ?_
  refine sCX1 (hx := h) (c' := 5) rfl rfl rfl rfl rfl rfl (ok_X7_insert d (by omega) h p0 p1 p2) ?_ (fun z1v => ?_)
  · intro E t h1 h2
    by_cases q1 : E = 1
    · rw [if_pos q1] at h1
      cases h1
      cases h2
      subst q1
      refine Or.inr ⟨_, rfl, ?_⟩
      exact PW.s rfl rfl (PW.r rfl rfl ⟨rfl, rfl⟩)
    · rw [if_neg q1] at h1
      by_cases q2 : E = 2
      · rw [if_pos q2] at h1
        cases h1
        cases h2
        subst q2
        refine Or.inr ⟨_, rfl, ?_⟩
        exact PW.s rfl rfl (PW.r rfl rfl ⟨rfl, rfl⟩)
      · rw [if_neg q2] at h1
        cases h1
  exact sR rfl rfl (fun hg => by cases hg; exact ⟨rfl, rfl⟩)
noncomputable def F_L_drop (h : PH) (p0 : Int32) : Option (Int32 × PH) :=
 (F_X7_drop h p0).bind <| bsum (fun E => if E = 1 then some (((-2000000097 : Int32), h)) else if E = 2 then some (((-2000000099 : Int32), h)) else none) fun z1v =>
 some ((z1v.1, z1v.2))
set_option maxHeartbeats 4000000 in
set_option maxRecDepth 100000 in
theorem ok_L_drop (d : Nat) (hd : 5 ≤ d) (h : PH) (p0 : Int32) : ∀ z, F_L_drop h p0 = some z → Ex d 116 [.ref 0, .int p0] h (.inl (some (.int z.1))) (z.2) := by
  obtain ⟨d, rfl⟩ : ∃ e, d = e + 1 := ⟨d - 1, by omega⟩
  intro z hz
  refine ⟨rfl, ?_⟩
  refine (?_ : Sim (Ex d) mi_L_drop (fun o1 h1 => o1 = _ ∧ h1 = _) (F_L_drop h p0) (fun t => t = z) 0 [some (.ref 0), some (.int p0), none] [] h 0) z hz rfl
  unfold F_L_drop
  refine sS rfl rfl ?_
  refine sS rfl rfl ?_
  refine sCX1 (hx := h) (c' := 3) rfl rfl rfl rfl rfl rfl (ok_X7_drop d (by omega) h p0) ?_ (fun z1v => ?_)
  · intro E t h1 h2
    by_cases q1 : E = 1
    · rw [if_pos q1] at h1
      cases h1
      cases h2
      subst q1
      refine Or.inr ⟨_, rfl, ?_⟩
      exact PW.s rfl rfl (PW.r rfl rfl ⟨rfl, rfl⟩)
    · rw [if_neg q1] at h1
      by_cases q2 : E = 2
      · rw [if_pos q2] at h1
        cases h1
        cases h2
        subst q2
        refine Or.inr ⟨_, rfl, ?_⟩
        exact PW.s rfl rfl (PW.r rfl rfl ⟨rfl, rfl⟩)
      · rw [if_neg q2] at h1
        cases h1
  exact sR rfl rfl (fun hg => by cases hg; exact ⟨rfl, rfl⟩)
noncomputable def F_L_flip (h : PH) (p0 : Int32) : Option (Int32 × PH) :=
 (F_X7_flip h p0).bind <| bsum (fun E => if E = 1 then some (((-2000000097 : Int32), h)) else if E = 2 then some (((-2000000099 : Int32), h)) else none) fun z1v =>
 some ((z1v.1, z1v.2))
set_option maxHeartbeats 4000000 in
set_option maxRecDepth 100000 in
theorem ok_L_flip (d : Nat) (hd : 5 ≤ d) (h : PH) (p0 : Int32) : ∀ z, F_L_flip h p0 = some z → Ex d 117 [.ref 0, .int p0] h (.inl (some (.int z.1))) (z.2) := by
  obtain ⟨d, rfl⟩ : ∃ e, d = e + 1 := ⟨d - 1, by omega⟩
  intro z hz
  refine ⟨rfl, ?_⟩
  refine (?_ : Sim (Ex d) mi_L_flip (fun o1 h1 => o1 = _ ∧ h1 = _) (F_L_flip h p0) (fun t => t = z) 0 [some (.ref 0), some (.int p0), none] [] h 0) z hz rfl
  unfold F_L_flip
  refine sS rfl rfl ?_
  refine sS rfl rfl ?_
  refine sCX1 (hx := h) (c' := 3) rfl rfl rfl rfl rfl rfl (ok_X7_flip d (by omega) h p0) ?_ (fun z1v => ?_)
  · intro E t h1 h2
    by_cases q1 : E = 1
    · rw [if_pos q1] at h1
      cases h1
      cases h2
      subst q1
      refine Or.inr ⟨_, rfl, ?_⟩
      exact PW.s rfl rfl (PW.r rfl rfl ⟨rfl, rfl⟩)
    · rw [if_neg q1] at h1
      by_cases q2 : E = 2
      · rw [if_pos q2] at h1
        cases h1
        cases h2
        subst q2
        refine Or.inr ⟨_, rfl, ?_⟩
        exact PW.s rfl rfl (PW.r rfl rfl ⟨rfl, rfl⟩)
      · rw [if_neg q2] at h1
        cases h1
  exact sR rfl rfl (fun hg => by cases hg; exact ⟨rfl, rfl⟩)
noncomputable def F_L_improve (h : PH) (p0 : Int32) : Option (Int32 × PH) :=
 (F_X7_improve h p0).bind <| bsum (fun E => if E = 0 then some (((-2000000098 : Int32), h)) else none) fun z1v =>
 some ((z1v.1, z1v.2))
set_option maxHeartbeats 4000000 in
set_option maxRecDepth 100000 in
theorem ok_L_improve (d : Nat) (hd : 9 ≤ d) (h : PH) (p0 : Int32) : ∀ z, F_L_improve h p0 = some z → Ex d 118 [.ref 0, .int p0] h (.inl (some (.int z.1))) (z.2) := by
  obtain ⟨d, rfl⟩ : ∃ e, d = e + 1 := ⟨d - 1, by omega⟩
  intro z hz
  refine ⟨rfl, ?_⟩
  refine (?_ : Sim (Ex d) mi_L_improve (fun o1 h1 => o1 = _ ∧ h1 = _) (F_L_improve h p0) (fun t => t = z) 0 [some (.ref 0), some (.int p0), none] [] h 0) z hz rfl
  unfold F_L_improve
  refine sS rfl rfl ?_
  refine sS rfl rfl ?_
  refine sCX1 (hx := h) (c' := 1) rfl rfl rfl rfl rfl rfl (ok_X7_improve d (by omega) h p0) ?_ (fun z1v => ?_)
  · intro E t h1 h2
    by_cases q0 : E = 0
    · rw [if_pos q0] at h1
      cases h1
      cases h2
      subst q0
      refine Or.inr ⟨_, rfl, ?_⟩
      exact PW.s rfl rfl (PW.r rfl rfl ⟨rfl, rfl⟩)
    · rw [if_neg q0] at h1
      cases h1
  exact sR rfl rfl (fun hg => by cases hg; exact ⟨rfl, rfl⟩)
