noncomputable def F_X7_append (h : PH) (p0 : Int32) (p1 : Int32) (p2 : Int32) (p3 : Int32) (p4 : Int32) : Option (Int32 × PH) :=
 if ((h.1 1 3) + (20 : Int32)) ≤ (700 : Int32) then
  (F_X6_addWord h p0).bind fun h1 =>
  (F_X6_addWord h1 p1).bind fun h2 =>
  (F_X6_addWord h2 p2).bind fun h3 =>
  (F_X6_addWord h3 p3).bind fun h4 =>
  (F_X6_addWord h4 p4).bind fun h5 =>
  some (((h5.1 1 3), h5))
 else
  some (((-1 : Int32), h))
set_option maxHeartbeats 4000000 in
set_option maxRecDepth 100000 in
theorem ok_X7_append (d : Nat) (hd : 2 ≤ d) (h : PH) (p0 : Int32) (p1 : Int32) (p2 : Int32) (p3 : Int32) (p4 : Int32) : ∀ z, F_X7_append h p0 p1 p2 p3 p4 = some z → Ex d 69 [.ref 0, .int p0, .int p1, .int p2, .int p3, .int p4] h (.inl (some (.int z.1))) (z.2) := by
  obtain ⟨d, rfl⟩ : ∃ e, d = e + 1 := ⟨d - 1, by omega⟩
  intro z hz
  refine ⟨rfl, ?_⟩
  refine (?_ : Sim (Ex d) mi_X7_append (fun o1 h1 => o1 = _ ∧ h1 = _) (F_X7_append h p0 p1 p2 p3 p4) (fun t => t = z) 0 [some (.ref 0), some (.int p0), some (.int p1), some (.int p2), some (.int p3), some (.int p4)] [] h 0) z hz rfl
  unfold F_X7_append
  refine sS rfl rfl ?_
  refine sS rfl rfl ?_
  refine sS rfl rfl ?_
  refine sS rfl rfl ?_
  refine sS rfl rfl ?_
  refine sS rfl rfl ?_
  refine sB rfl rfl ?_ ?_
  · refine sS rfl rfl ?_
    refine sS rfl rfl ?_
    refine sS rfl rfl ?_
    refine sC0 (c' := 0) rfl rfl rfl rfl rfl rfl (ok_X6_addWord d (by omega) h p0) (fun h1 => ?_)
    refine sS rfl rfl ?_
    refine sS rfl rfl ?_
    refine sS rfl rfl ?_
    refine sC0 (c' := 0) rfl rfl rfl rfl rfl rfl (ok_X6_addWord d (by omega) h1 p1) (fun h2 => ?_)
    refine sS rfl rfl ?_
    refine sS rfl rfl ?_
    refine sS rfl rfl ?_
    refine sC0 (c' := 0) rfl rfl rfl rfl rfl rfl (ok_X6_addWord d (by omega) h2 p2) (fun h3 => ?_)
    refine sS rfl rfl ?_
    refine sS rfl rfl ?_
    refine sS rfl rfl ?_
    refine sC0 (c' := 0) rfl rfl rfl rfl rfl rfl (ok_X6_addWord d (by omega) h3 p3) (fun h4 => ?_)
    refine sS rfl rfl ?_
    refine sS rfl rfl ?_
    refine sS rfl rfl ?_
    refine sC0 (c' := 0) rfl rfl rfl rfl rfl rfl (ok_X6_addWord d (by omega) h4 p4) (fun h5 => ?_)
    refine sS rfl rfl ?_
    refine sS rfl rfl ?_
    refine sS rfl rfl ?_
    exact sR rfl rfl (fun hg => by cases hg; exact ⟨rfl, rfl⟩)
  · refine sS rfl rfl ?_
    exact sR rfl rfl (fun hg => by cases hg; exact ⟨rfl, rfl⟩)
noncomputable def F_X7_load (h : PH) (p0 : Int32) : Option (Nat ⊕ (Int32 × PH)) :=
 if p0 < 0 then
  some (.inl 0)
 else
  if p0 ≤ (h.1 1 3) then
   (F_X6_readSetup h p0).bind fun z1 =>
   if z1.1 = 0 then
    (F_X1_remember z1.2 (1 : Int32)).bind fun h2 =>
    (F_X5_explore (F_X2_copyFrom h2 14 3)).bind fun h3 =>
    some (.inr ((((F_X3_clear h3).1 14 2), (F_X3_clear h3))))
   else
    some (.inr ((z1.1, z1.2)))
  else
   some (.inl 0)
set_option maxHeartbeats 4000000 in
set_option maxRecDepth 100000 in
theorem ok_X7_load (d : Nat) (hd : 32 ≤ d) (h : PH) (p0 : Int32) : ∀ z, F_X7_load h p0 = some z → exx (fun E => Ex d 70 [.ref 0, .int p0] h (.inr E) h) (fun v => Ex d 70 [.ref 0, .int p0] h (.inl (some (.int v.1))) (v.2)) z := by
  obtain ⟨d, rfl⟩ : ∃ e, d = e + 1 := ⟨d - 1, by omega⟩
  intro z hz
  have key : PW (Ex d) mi_X7_load (fun o1 h1 => exx (fun E => o1 = .inr E ∧ h1 = h) (fun v => o1 = .inl (some (.int v.1)) ∧ h1 = v.2) z) 0 [some (.ref 0), some (.int p0), none] [] h 0 := by
    refine (?_ : Sim (Ex d) mi_X7_load _ (F_X7_load h p0) (fun t => t = z) 0 [some (.ref 0), some (.int p0), none] [] h 0) z hz rfl
    unfold F_X7_load
    refine sS rfl rfl ?_
    refine sB rfl rfl ?_ ?_
    · exact sThrow rfl rfl rfl rfl (fun hg => by cases hg; exact ⟨rfl, rfl⟩)
    · refine sS rfl rfl ?_
      refine sS rfl rfl ?_
      refine sS rfl rfl ?_
      refine sS rfl rfl ?_
      refine sB rfl rfl ?_ ?_
      · refine sS rfl rfl ?_
        refine sS rfl rfl ?_
        refine sS rfl rfl ?_
        refine sC1 (c' := 0) rfl rfl rfl rfl rfl rfl (ok_X6_readSetup d (by omega) h p0) (fun z1 => ?_)
        refine sS rfl rfl ?_
        refine sS rfl rfl ?_
        refine sB rfl rfl ?_ ?_
        · refine sS rfl rfl ?_
          refine sS rfl rfl ?_
          refine sS rfl rfl ?_
          refine sS rfl rfl ?_
          refine sS rfl rfl ?_
          refine sS rfl rfl ?_
          refine sS rfl rfl ?_
          refine sC0 (c' := 0) rfl rfl rfl rfl rfl rfl (ok_X1_remember d (by omega) z1.2 (1 : Int32)) (fun h2 => ?_)
          refine sS rfl rfl ?_
          refine sS rfl rfl ?_
          refine sS rfl rfl ?_
          refine sS rfl rfl ?_
          refine sS rfl rfl ?_
          refine sT0 (c' := 0) rfl rfl rfl rfl rfl rfl (ok_X2_copyFrom d (by omega) h2 14 isNet_p 3 isNet_r (by omega)) ?_
          refine sS rfl rfl ?_
          refine sS rfl rfl ?_
          refine sS rfl rfl ?_
          refine sS rfl rfl ?_
          refine sC0 (c' := 0) rfl rfl rfl rfl rfl rfl (ok_X5_explore d (by omega) (F_X2_copyFrom h2 14 3)) (fun h3 => ?_)
          refine sS rfl rfl ?_
          refine sS rfl rfl ?_
          refine sT0 (c' := 0) rfl rfl rfl rfl rfl rfl (ok_X3_clear d (by omega) h3) ?_
          refine sS rfl rfl ?_
          refine sS rfl rfl ?_
          refine sS rfl rfl ?_
          exact sR rfl rfl (fun hg => by cases hg; exact ⟨rfl, rfl⟩)
        · refine sS rfl rfl ?_
          exact sR rfl rfl (fun hg => by cases hg; exact ⟨rfl, rfl⟩)
      · exact sThrow rfl rfl rfl rfl (fun hg => by cases hg; exact ⟨rfl, rfl⟩)
  cases z with
  | inl E => exact ⟨rfl, key⟩
  | inr v => exact ⟨rfl, key⟩
noncomputable def F_X7_errorOffset (h : PH) : Int32 :=
 (h.1 1 11)
set_option maxHeartbeats 4000000 in
set_option maxRecDepth 100000 in
theorem ok_X7_errorOffset (d : Nat) (hd : 1 ≤ d) (h : PH) : Ex d 71 [.ref 0] h (.inl (some (.int (F_X7_errorOffset h)))) (h) := by
  obtain ⟨d, rfl⟩ : ∃ e, d = e + 1 := ⟨d - 1, by omega⟩
  suffices key : ∀ z, F_X7_errorOffset h = z → Ex (d + 1) 71 [.ref 0] h (.inl (some (.int z))) (h) from key _ rfl
  intro z hz
  refine ⟨rfl, ?_⟩
  refine (?_ : Sim (Ex d) mi_X7_errorOffset (fun o1 h1 => o1 = _ ∧ h1 = _) (some (F_X7_errorOffset h)) (fun t => t = z) 0 [some (.ref 0)] [] h 0) z (by rw [hz]) rfl
  clear hz
  unfold F_X7_errorOffset
  refine sS rfl rfl ?_
  refine sS rfl rfl ?_
  refine sS rfl rfl ?_
  exact sR rfl rfl (fun hg => by cases hg; exact ⟨rfl, rfl⟩)
noncomputable def F_X7_nodeCount (h : PH) : Int32 :=
 (h.1 14 0)
set_option maxHeartbeats 4000000 in
set_option maxRecDepth 100000 in
theorem ok_X7_nodeCount (d : Nat) (hd : 1 ≤ d) (h : PH) : Ex d 72 [.ref 0] h (.inl (some (.int (F_X7_nodeCount h)))) (h) := by
  obtain ⟨d, rfl⟩ : ∃ e, d = e + 1 := ⟨d - 1, by omega⟩
  suffices key : ∀ z, F_X7_nodeCount h = z → Ex (d + 1) 72 [.ref 0] h (.inl (some (.int z))) (h) from key _ rfl
  intro z hz
  refine ⟨rfl, ?_⟩
  refine (?_ : Sim (Ex d) mi_X7_nodeCount (fun o1 h1 => o1 = _ ∧ h1 = _) (some (F_X7_nodeCount h)) (fun t => t = z) 0 [some (.ref 0)] [] h 0) z (by rw [hz]) rfl
  clear hz
  unfold F_X7_nodeCount
  refine sS rfl rfl ?_
  refine sS rfl rfl ?_
  refine sS rfl rfl ?_
  exact sR rfl rfl (fun hg => by cases hg; exact ⟨rfl, rfl⟩)
noncomputable def F_X7_edgeCount (h : PH) : Int32 :=
 (h.1 14 2)
set_option maxHeartbeats 4000000 in
set_option maxRecDepth 100000 in
theorem ok_X7_edgeCount (d : Nat) (hd : 1 ≤ d) (h : PH) : Ex d 73 [.ref 0] h (.inl (some (.int (F_X7_edgeCount h)))) (h) := by
  obtain ⟨d, rfl⟩ : ∃ e, d = e + 1 := ⟨d - 1, by omega⟩
  suffices key : ∀ z, F_X7_edgeCount h = z → Ex (d + 1) 73 [.ref 0] h (.inl (some (.int z))) (h) from key _ rfl
  intro z hz
  refine ⟨rfl, ?_⟩
  refine (?_ : Sim (Ex d) mi_X7_edgeCount (fun o1 h1 => o1 = _ ∧ h1 = _) (some (F_X7_edgeCount h)) (fun t => t = z) 0 [some (.ref 0)] [] h 0) z (by rw [hz]) rfl
  clear hz
  unfold F_X7_edgeCount
  refine sS rfl rfl ?_
  refine sS rfl rfl ?_
  refine sS rfl rfl ?_
  exact sR rfl rfl (fun hg => by cases hg; exact ⟨rfl, rfl⟩)
noncomputable def F_X7_depotCount (h : PH) : Int32 :=
 (h.1 14 3)
set_option maxHeartbeats 4000000 in
set_option maxRecDepth 100000 in
theorem ok_X7_depotCount (d : Nat) (hd : 1 ≤ d) (h : PH) : Ex d 74 [.ref 0] h (.inl (some (.int (F_X7_depotCount h)))) (h) := by
  obtain ⟨d, rfl⟩ : ∃ e, d = e + 1 := ⟨d - 1, by omega⟩
  suffices key : ∀ z, F_X7_depotCount h = z → Ex (d + 1) 74 [.ref 0] h (.inl (some (.int z))) (h) from key _ rfl
  intro z hz
  refine ⟨rfl, ?_⟩
  refine (?_ : Sim (Ex d) mi_X7_depotCount (fun o1 h1 => o1 = _ ∧ h1 = _) (some (F_X7_depotCount h)) (fun t => t = z) 0 [some (.ref 0)] [] h 0) z (by rw [hz]) rfl
  clear hz
  unfold F_X7_depotCount
  refine sS rfl rfl ?_
  refine sS rfl rfl ?_
  refine sS rfl rfl ?_
  exact sR rfl rfl (fun hg => by cases hg; exact ⟨rfl, rfl⟩)
noncomputable def F_X7_tourCount (h : PH) : Int32 :=
 (h.1 26 0)
set_option maxHeartbeats 4000000 in
set_option maxRecDepth 100000 in
theorem ok_X7_tourCount (d : Nat) (hd : 1 ≤ d) (h : PH) : Ex d 75 [.ref 0] h (.inl (some (.int (F_X7_tourCount h)))) (h) := by
  obtain ⟨d, rfl⟩ : ∃ e, d = e + 1 := ⟨d - 1, by omega⟩
  suffices key : ∀ z, F_X7_tourCount h = z → Ex (d + 1) 75 [.ref 0] h (.inl (some (.int z))) (h) from key _ rfl
  intro z hz
  refine ⟨rfl, ?_⟩
  refine (?_ : Sim (Ex d) mi_X7_tourCount (fun o1 h1 => o1 = _ ∧ h1 = _) (some (F_X7_tourCount h)) (fun t => t = z) 0 [some (.ref 0)] [] h 0) z (by rw [hz]) rfl
  clear hz
  unfold F_X7_tourCount
  refine sS rfl rfl ?_
  refine sS rfl rfl ?_
  refine sS rfl rfl ?_
  exact sR rfl rfl (fun hg => by cases hg; exact ⟨rfl, rfl⟩)
noncomputable def F_X7_requireEdge (h : PH) (p0 : Int32) : Option (Nat ⊕ (Unit)) :=
 if p0 < 0 then
  some (.inl 1)
 else
  if p0 < (h.1 14 2) then
   some (.inr (()))
  else
   some (.inl 1)
set_option maxHeartbeats 4000000 in
set_option maxRecDepth 100000 in
theorem ok_X7_requireEdge (d : Nat) (hd : 1 ≤ d) (h : PH) (p0 : Int32) : ∀ z, F_X7_requireEdge h p0 = some z → exx (fun E => Ex d 96 [.ref 0, .int p0] h (.inr E) h) (fun v => Ex d 96 [.ref 0, .int p0] h (.inl (none)) (h)) z := by
  obtain ⟨d, rfl⟩ : ∃ e, d = e + 1 := ⟨d - 1, by omega⟩
  intro z hz
  have key : PW (Ex d) mi_X7_requireEdge (fun o1 h1 => exx (fun E => o1 = .inr E ∧ h1 = h) (fun v => o1 = .inl (none) ∧ h1 = h) z) 0 [some (.ref 0), some (.int p0)] [] h 0 := by
    refine (?_ : Sim (Ex d) mi_X7_requireEdge _ (F_X7_requireEdge h p0) (fun t => t = z) 0 [some (.ref 0), some (.int p0)] [] h 0) z hz rfl
    unfold F_X7_requireEdge
    refine sS rfl rfl ?_
    refine sB rfl rfl ?_ ?_
    · exact sThrow rfl rfl rfl rfl (fun hg => by cases hg; exact ⟨rfl, rfl⟩)
    · refine sS rfl rfl ?_
      refine sS rfl rfl ?_
      refine sS rfl rfl ?_
      refine sS rfl rfl ?_
      refine sB rfl rfl ?_ ?_
      · exact sR rfl rfl (fun hg => by cases hg; exact ⟨rfl, rfl⟩)
      · exact sThrow rfl rfl rfl rfl (fun hg => by cases hg; exact ⟨rfl, rfl⟩)
  cases z with
  | inl E => exact ⟨rfl, key⟩
  | inr v => exact ⟨rfl, key⟩
noncomputable def F_X7_edge (h : PH) (p0 : Int32) (p1 : Int32) : Option (Nat ⊕ (Int32)) :=
 (F_X7_requireEdge h p0).bind <| bsum (fun E => some (.inl E)) fun z1v =>
 if p1 = 0 then
  some (.inr ((F_X7_at 28 h 15 ((2 : Int32) * p0))))
 else
 if p1 = 1 then
  some (.inr ((F_X7_at 28 h 15 (((2 : Int32) * p0) + (1 : Int32)))))
 else
 if p1 = 2 then
  some (.inr ((F_X7_at 28 h 16 ((2 : Int32) * p0))))
 else
 if p1 = 3 then
  some (.inr ((F_X7_at 28 h 16 (((2 : Int32) * p0) + (1 : Int32)))))
 else
 if p1 = 4 then
  some (.inr ((F_X7_at 14 h 19 p0)))
 else
 some (.inl 0)
set_option maxHeartbeats 4000000 in
set_option maxRecDepth 100000 in
theorem ok_X7_edge (d : Nat) (hd : 2 ≤ d) (h : PH) (p0 : Int32) (p1 : Int32) : ∀ z, F_X7_edge h p0 p1 = some z → exx (fun E => Ex d 76 [.ref 0, .int p0, .int p1] h (.inr E) h) (fun v => Ex d 76 [.ref 0, .int p0, .int p1] h (.inl (some (.int v))) (h)) z := by
  obtain ⟨d, rfl⟩ : ∃ e, d = e + 1 := ⟨d - 1, by omega⟩
  intro z hz
  have key : PW (Ex d) mi_X7_edge (fun o1 h1 => exx (fun E => o1 = .inr E ∧ h1 = h) (fun v => o1 = .inl (some (.int v)) ∧ h1 = h) z) 0 [some (.ref 0), some (.int p0), some (.int p1)] [] h 0 := by
    refine (?_ : Sim (Ex d) mi_X7_edge _ (F_X7_edge h p0 p1) (fun t => t = z) 0 [some (.ref 0), some (.int p0), some (.int p1)] [] h 0) z hz rfl
    unfold F_X7_edge
    refine sS rfl rfl ?_
    refine sS rfl rfl ?_
    refine sCX0 (hx := h) (c' := 1) rfl rfl rfl rfl rfl rfl (ok_X7_requireEdge d (by omega) h p0) ?_ (fun z1v => ?_)
    · intro E t h1 h2
      cases h1
      cases h2
      exact Or.inl ⟨⟨rfl, rfl⟩, rfl, rfl⟩
    refine sS rfl rfl ?_
    refine sIf (fun q0 => ?_) (fun q0 => ?_)
    · rw [q0]
      refine sS rfl rfl ?_
      refine sS rfl rfl ?_
      refine sS rfl rfl ?_
      refine sS rfl rfl ?_
      refine sS rfl rfl ?_
      refine sS rfl rfl ?_
      refine sS rfl rfl ?_
      refine sT1 (c' := 1) rfl rfl rfl rfl rfl rfl (ok_X7_at d (by omega) 28 h 15 ((2 : Int32) * p0) rfl) ?_
      exact sR rfl rfl (fun hg => by cases hg; exact ⟨rfl, rfl⟩)
    refine sIf (fun q1 => ?_) (fun q1 => ?_)
    · rw [q1]
      refine sS rfl rfl ?_
      refine sS rfl rfl ?_
      refine sS rfl rfl ?_
      refine sS rfl rfl ?_
      refine sS rfl rfl ?_
      refine sS rfl rfl ?_
      refine sS rfl rfl ?_
      refine sS rfl rfl ?_
      refine sS rfl rfl ?_
      refine sT1 (c' := 1) rfl rfl rfl rfl rfl rfl (ok_X7_at d (by omega) 28 h 15 (((2 : Int32) * p0) + (1 : Int32)) rfl) ?_
      exact sR rfl rfl (fun hg => by cases hg; exact ⟨rfl, rfl⟩)
    refine sIf (fun q2 => ?_) (fun q2 => ?_)
    · rw [q2]
      refine sS rfl rfl ?_
      refine sS rfl rfl ?_
      refine sS rfl rfl ?_
      refine sS rfl rfl ?_
      refine sS rfl rfl ?_
      refine sS rfl rfl ?_
      refine sS rfl rfl ?_
      refine sT1 (c' := 1) rfl rfl rfl rfl rfl rfl (ok_X7_at d (by omega) 28 h 16 ((2 : Int32) * p0) rfl) ?_
      exact sR rfl rfl (fun hg => by cases hg; exact ⟨rfl, rfl⟩)
    refine sIf (fun q3 => ?_) (fun q3 => ?_)
    · rw [q3]
      refine sS rfl rfl ?_
      refine sS rfl rfl ?_
      refine sS rfl rfl ?_
      refine sS rfl rfl ?_
      refine sS rfl rfl ?_
      refine sS rfl rfl ?_
      refine sS rfl rfl ?_
      refine sS rfl rfl ?_
      refine sS rfl rfl ?_
      refine sT1 (c' := 1) rfl rfl rfl rfl rfl rfl (ok_X7_at d (by omega) 28 h 16 (((2 : Int32) * p0) + (1 : Int32)) rfl) ?_
      exact sR rfl rfl (fun hg => by cases hg; exact ⟨rfl, rfl⟩)
    refine sIf (fun q4 => ?_) (fun q4 => ?_)
    · rw [q4]
      refine sS rfl rfl ?_
      refine sS rfl rfl ?_
      refine sS rfl rfl ?_
      refine sS rfl rfl ?_
      refine sS rfl rfl ?_
      refine sT1 (c' := 1) rfl rfl rfl rfl rfl rfl (ok_X7_at d (by omega) 14 h 19 p0 rfl) ?_
      exact sR rfl rfl (fun hg => by cases hg; exact ⟨rfl, rfl⟩)
    have e0 := psw_ne (n := 0) rfl q0
    have e1 := psw_ne (n := 1) rfl q1
    have e2 := psw_ne (n := 2) rfl q2
    have e3 := psw_ne (n := 3) rfl q3
    have e4 := psw_ne (n := 4) rfl q4
    refine sSw rfl (by omega) ?_
    exact sThrow rfl rfl rfl rfl (fun hg => by cases hg; exact ⟨rfl, rfl⟩)
  cases z with
  | inl E => exact ⟨rfl, key⟩
  | inr v => exact ⟨rfl, key⟩
noncomputable def F_X7_requireArc (h : PH) (p0 : Int32) : Option (Nat ⊕ (Unit)) :=
 if p0 < 0 then
  some (.inl 1)
 else
  if p0 < ((2 : Int32) * (h.1 14 2)) then
   some (.inr (()))
  else
   some (.inl 1)
set_option maxHeartbeats 4000000 in
set_option maxRecDepth 100000 in
theorem ok_X7_requireArc (d : Nat) (hd : 1 ≤ d) (h : PH) (p0 : Int32) : ∀ z, F_X7_requireArc h p0 = some z → exx (fun E => Ex d 97 [.ref 0, .int p0] h (.inr E) h) (fun v => Ex d 97 [.ref 0, .int p0] h (.inl (none)) (h)) z := by
  obtain ⟨d, rfl⟩ : ∃ e, d = e + 1 := ⟨d - 1, by omega⟩
  intro z hz
  have key : PW (Ex d) mi_X7_requireArc (fun o1 h1 => exx (fun E => o1 = .inr E ∧ h1 = h) (fun v => o1 = .inl (none) ∧ h1 = h) z) 0 [some (.ref 0), some (.int p0)] [] h 0 := by
    refine (?_ : Sim (Ex d) mi_X7_requireArc _ (F_X7_requireArc h p0) (fun t => t = z) 0 [some (.ref 0), some (.int p0)] [] h 0) z hz rfl
    unfold F_X7_requireArc
    refine sS rfl rfl ?_
    refine sB rfl rfl ?_ ?_
    · exact sThrow rfl rfl rfl rfl (fun hg => by cases hg; exact ⟨rfl, rfl⟩)
    · refine sS rfl rfl ?_
      refine sS rfl rfl ?_
      refine sS rfl rfl ?_
      refine sS rfl rfl ?_
      refine sS rfl rfl ?_
      refine sS rfl rfl ?_
      refine sB rfl rfl ?_ ?_
      · exact sR rfl rfl (fun hg => by cases hg; exact ⟨rfl, rfl⟩)
      · exact sThrow rfl rfl rfl rfl (fun hg => by cases hg; exact ⟨rfl, rfl⟩)
  cases z with
  | inl E => exact ⟨rfl, key⟩
  | inr v => exact ⟨rfl, key⟩
noncomputable def F_X7_deadhead (h : PH) (p0 : Int32) (p1 : Int32) : Option (Nat ⊕ (Int32)) :=
 (F_X7_requireArc h p0).bind <| bsum (fun E => some (.inl E)) fun z1v =>
 (F_X7_requireArc h p1).bind <| bsum (fun E => some (.inl E)) fun z2v =>
 some (.inr ((F_X7_orNone h (F_X7_at 784 h 22 ((p0 * (28 : Int32)) + p1)))))
set_option maxHeartbeats 4000000 in
set_option maxRecDepth 100000 in
theorem ok_X7_deadhead (d : Nat) (hd : 2 ≤ d) (h : PH) (p0 : Int32) (p1 : Int32) : ∀ z, F_X7_deadhead h p0 p1 = some z → exx (fun E => Ex d 77 [.ref 0, .int p0, .int p1] h (.inr E) h) (fun v => Ex d 77 [.ref 0, .int p0, .int p1] h (.inl (some (.int v))) (h)) z := by
  obtain ⟨d, rfl⟩ : ∃ e, d = e + 1 := ⟨d - 1, by omega⟩
  intro z hz
  have key : PW (Ex d) mi_X7_deadhead (fun o1 h1 => exx (fun E => o1 = .inr E ∧ h1 = h) (fun v => o1 = .inl (some (.int v)) ∧ h1 = h) z) 0 [some (.ref 0), some (.int p0), some (.int p1)] [] h 0 := by
    refine (?_ : Sim (Ex d) mi_X7_deadhead _ (F_X7_deadhead h p0 p1) (fun t => t = z) 0 [some (.ref 0), some (.int p0), some (.int p1)] [] h 0) z hz rfl
    unfold F_X7_deadhead
    refine sS rfl rfl ?_
    refine sS rfl rfl ?_
    refine sCX0 (hx := h) (c' := 1) rfl rfl rfl rfl rfl rfl (ok_X7_requireArc d (by omega) h p0) ?_ (fun z1v => ?_)
    · intro E t h1 h2
      cases h1
      cases h2
      exact Or.inl ⟨⟨rfl, rfl⟩, rfl, rfl⟩
    refine sS rfl rfl ?_
    refine sS rfl rfl ?_
    refine sCX0 (hx := h) (c' := 2) rfl rfl rfl rfl rfl rfl (ok_X7_requireArc d (by omega) h p1) ?_ (fun z2v => ?_)
    · intro E t h1 h2
      cases h1
      cases h2
      exact Or.inl ⟨⟨rfl, rfl⟩, rfl, rfl⟩
    refine sS rfl rfl ?_
    refine sS rfl rfl ?_
    refine sS rfl rfl ?_
    refine sS rfl rfl ?_
    refine sS rfl rfl ?_
    refine sS rfl rfl ?_
    refine sS rfl rfl ?_
    refine sS rfl rfl ?_
    refine sT1 (c' := 2) rfl rfl rfl rfl rfl rfl (ok_X7_at d (by omega) 784 h 22 ((p0 * (28 : Int32)) + p1) rfl) ?_
    refine sT1 (c' := 2) rfl rfl rfl rfl rfl rfl (ok_X7_orNone d (by omega) h (F_X7_at 784 h 22 ((p0 * (28 : Int32)) + p1))) ?_
    exact sR rfl rfl (fun hg => by cases hg; exact ⟨rfl, rfl⟩)
  cases z with
  | inl E => exact ⟨rfl, key⟩
  | inr v => exact ⟨rfl, key⟩
noncomputable def F_X7_matching (h : PH) : Option (Int32) :=
 (F_X2_oddSet h).bind fun z1 =>
 (R_X5_cheapestPairs 6 h z1 (0 : Int32)).bind fun z2 =>
 some ((F_X7_orNone h z2))
set_option maxHeartbeats 4000000 in
set_option maxRecDepth 100000 in
theorem ok_X7_matching (d : Nat) (hd : 11 ≤ d) (h : PH) : ∀ z, F_X7_matching h = some z → Ex d 78 [.ref 0] h (.inl (some (.int z))) (h) := by
  obtain ⟨d, rfl⟩ : ∃ e, d = e + 1 := ⟨d - 1, by omega⟩
  intro z hz
  refine ⟨rfl, ?_⟩
  refine (?_ : Sim (Ex d) mi_X7_matching (fun o1 h1 => o1 = _ ∧ h1 = _) (F_X7_matching h) (fun t => t = z) 0 [some (.ref 0)] [] h 0) z hz rfl
  unfold F_X7_matching
  refine sS rfl rfl ?_
  refine sS rfl rfl ?_
  refine sS rfl rfl ?_
  refine sS rfl rfl ?_
  refine sS rfl rfl ?_
  refine sC1 (c' := 0) rfl rfl rfl rfl rfl rfl (ok_X2_oddSet d (by omega) h) (fun z1 => ?_)
  refine sS rfl rfl ?_
  refine sC1 (c' := 0) rfl rfl rfl rfl rfl rfl (okR_X5_cheapestPairs 6 d (by omega) h z1 (0 : Int32)) (fun z2 => ?_)
  refine sT1 (c' := 0) rfl rfl rfl rfl rfl rfl (ok_X7_orNone d (by omega) h z2) ?_
  exact sR rfl rfl (fun hg => by cases hg; exact ⟨rfl, rfl⟩)
noncomputable def F_X7_requireTour (h : PH) (p0 : Int32) : Option (Nat ⊕ (Unit)) :=
 if p0 < 0 then
  some (.inl 1)
 else
  if p0 < (h.1 26 0) then
   some (.inr (()))
  else
   some (.inl 1)
set_option maxHeartbeats 4000000 in
set_option maxRecDepth 100000 in
theorem ok_X7_requireTour (d : Nat) (hd : 1 ≤ d) (h : PH) (p0 : Int32) : ∀ z, F_X7_requireTour h p0 = some z → exx (fun E => Ex d 98 [.ref 0, .int p0] h (.inr E) h) (fun v => Ex d 98 [.ref 0, .int p0] h (.inl (none)) (h)) z := by
  obtain ⟨d, rfl⟩ : ∃ e, d = e + 1 := ⟨d - 1, by omega⟩
  intro z hz
  have key : PW (Ex d) mi_X7_requireTour (fun o1 h1 => exx (fun E => o1 = .inr E ∧ h1 = h) (fun v => o1 = .inl (none) ∧ h1 = h) z) 0 [some (.ref 0), some (.int p0)] [] h 0 := by
    refine (?_ : Sim (Ex d) mi_X7_requireTour _ (F_X7_requireTour h p0) (fun t => t = z) 0 [some (.ref 0), some (.int p0)] [] h 0) z hz rfl
    unfold F_X7_requireTour
    refine sS rfl rfl ?_
    refine sB rfl rfl ?_ ?_
    · exact sThrow rfl rfl rfl rfl (fun hg => by cases hg; exact ⟨rfl, rfl⟩)
    · refine sS rfl rfl ?_
      refine sS rfl rfl ?_
      refine sS rfl rfl ?_
      refine sS rfl rfl ?_
      refine sB rfl rfl ?_ ?_
      · exact sR rfl rfl (fun hg => by cases hg; exact ⟨rfl, rfl⟩)
      · exact sThrow rfl rfl rfl rfl (fun hg => by cases hg; exact ⟨rfl, rfl⟩)
  cases z with
  | inl E => exact ⟨rfl, key⟩
  | inr v => exact ⟨rfl, key⟩
noncomputable def F_X7_depotOf (h : PH) (p0 : Int32) : Option (Nat ⊕ (Int32)) :=
 (F_X7_requireTour h p0).bind <| bsum (fun E => some (.inl E)) fun z1v =>
 some (.inr ((F_X7_at 4 h 27 p0)))
set_option maxHeartbeats 4000000 in
set_option maxRecDepth 100000 in
theorem ok_X7_depotOf (d : Nat) (hd : 2 ≤ d) (h : PH) (p0 : Int32) : ∀ z, F_X7_depotOf h p0 = some z → exx (fun E => Ex d 79 [.ref 0, .int p0] h (.inr E) h) (fun v => Ex d 79 [.ref 0, .int p0] h (.inl (some (.int v))) (h)) z := by
  obtain ⟨d, rfl⟩ : ∃ e, d = e + 1 := ⟨d - 1, by omega⟩
  intro z hz
  have key : PW (Ex d) mi_X7_depotOf (fun o1 h1 => exx (fun E => o1 = .inr E ∧ h1 = h) (fun v => o1 = .inl (some (.int v)) ∧ h1 = h) z) 0 [some (.ref 0), some (.int p0)] [] h 0 := by
    refine (?_ : Sim (Ex d) mi_X7_depotOf _ (F_X7_depotOf h p0) (fun t => t = z) 0 [some (.ref 0), some (.int p0)] [] h 0) z hz rfl
    unfold F_X7_depotOf
    refine sS rfl rfl ?_
    refine sS rfl rfl ?_
    refine sCX0 (hx := h) (c' := 1) rfl rfl rfl rfl rfl rfl (ok_X7_requireTour d (by omega) h p0) ?_ (fun z1v => ?_)
    · intro E t h1 h2
      cases h1
      cases h2
      exact Or.inl ⟨⟨rfl, rfl⟩, rfl, rfl⟩
    refine sS rfl rfl ?_
    refine sS rfl rfl ?_
    refine sS rfl rfl ?_
    refine sS rfl rfl ?_
    refine sT1 (c' := 1) rfl rfl rfl rfl rfl rfl (ok_X7_at d (by omega) 4 h 27 p0 rfl) ?_
    exact sR rfl rfl (fun hg => by cases hg; exact ⟨rfl, rfl⟩)
  cases z with
  | inl E => exact ⟨rfl, key⟩
  | inr v => exact ⟨rfl, key⟩
noncomputable def F_X7_length (h : PH) (p0 : Int32) : Option (Nat ⊕ (Int32)) :=
 (F_X7_requireTour h p0).bind <| bsum (fun E => some (.inl E)) fun z1v =>
 some (.inr ((F_X7_at 4 h 28 p0)))
set_option maxHeartbeats 4000000 in
set_option maxRecDepth 100000 in
theorem ok_X7_length (d : Nat) (hd : 2 ≤ d) (h : PH) (p0 : Int32) : ∀ z, F_X7_length h p0 = some z → exx (fun E => Ex d 80 [.ref 0, .int p0] h (.inr E) h) (fun v => Ex d 80 [.ref 0, .int p0] h (.inl (some (.int v))) (h)) z := by
  obtain ⟨d, rfl⟩ : ∃ e, d = e + 1 := ⟨d - 1, by omega⟩
  intro z hz
  have key : PW (Ex d) mi_X7_length (fun o1 h1 => exx (fun E => o1 = .inr E ∧ h1 = h) (fun v => o1 = .inl (some (.int v)) ∧ h1 = h) z) 0 [some (.ref 0), some (.int p0)] [] h 0 := by
    refine (?_ : Sim (Ex d) mi_X7_length _ (F_X7_length h p0) (fun t => t = z) 0 [some (.ref 0), some (.int p0)] [] h 0) z hz rfl
    unfold F_X7_length
    refine sS rfl rfl ?_
    refine sS rfl rfl ?_
    refine sCX0 (hx := h) (c' := 1) rfl rfl rfl rfl rfl rfl (ok_X7_requireTour d (by omega) h p0) ?_ (fun z1v => ?_)
    · intro E t h1 h2
      cases h1
      cases h2
      exact Or.inl ⟨⟨rfl, rfl⟩, rfl, rfl⟩
    refine sS rfl rfl ?_
    refine sS rfl rfl ?_
    refine sS rfl rfl ?_
    refine sS rfl rfl ?_
    refine sT1 (c' := 1) rfl rfl rfl rfl rfl rfl (ok_X7_at d (by omega) 4 h 28 p0 rfl) ?_
    exact sR rfl rfl (fun hg => by cases hg; exact ⟨rfl, rfl⟩)
  cases z with
  | inl E => exact ⟨rfl, key⟩
  | inr v => exact ⟨rfl, key⟩
noncomputable def F_X7_arcAt (h : PH) (p0 : Int32) (p1 : Int32) : Option (Nat ⊕ (Int32)) :=
 (F_X7_requireTour h p0).bind <| bsum (fun E => some (.inl E)) fun z1v =>
 if ¬ (F_X3_arcOrDepot h p0 p1) = (-1 : Int32) then
  some (.inr ((F_X3_arcOrDepot h p0 p1)))
 else
  some (.inl 3)
set_option maxHeartbeats 4000000 in
set_option maxRecDepth 100000 in
theorem ok_X7_arcAt (d : Nat) (hd : 3 ≤ d) (h : PH) (p0 : Int32) (p1 : Int32) : ∀ z, F_X7_arcAt h p0 p1 = some z → exx (fun E => Ex d 81 [.ref 0, .int p0, .int p1] h (.inr E) h) (fun v => Ex d 81 [.ref 0, .int p0, .int p1] h (.inl (some (.int v))) (h)) z := by
  obtain ⟨d, rfl⟩ : ∃ e, d = e + 1 := ⟨d - 1, by omega⟩
  intro z hz
  have key : PW (Ex d) mi_X7_arcAt (fun o1 h1 => exx (fun E => o1 = .inr E ∧ h1 = h) (fun v => o1 = .inl (some (.int v)) ∧ h1 = h) z) 0 [some (.ref 0), some (.int p0), some (.int p1), none] [] h 0 := by
    refine (?_ : Sim (Ex d) mi_X7_arcAt _ (F_X7_arcAt h p0 p1) (fun t => t = z) 0 [some (.ref 0), some (.int p0), some (.int p1), none] [] h 0) z hz rfl
    unfold F_X7_arcAt
    refine sS rfl rfl ?_
    refine sS rfl rfl ?_
    refine sCX0 (hx := h) (c' := 1) rfl rfl rfl rfl rfl rfl (ok_X7_requireTour d (by omega) h p0) ?_ (fun z1v => ?_)
    · intro E t h1 h2
      cases h1
      cases h2
      exact Or.inl ⟨⟨rfl, rfl⟩, rfl, rfl⟩
    refine sS rfl rfl ?_
    refine sS rfl rfl ?_
    refine sS rfl rfl ?_
    refine sS rfl rfl ?_
    refine sT1 (c' := 1) rfl rfl rfl rfl rfl rfl (ok_X3_arcOrDepot d (by omega) h p0 p1) ?_
    refine sS rfl rfl ?_
    refine sS rfl rfl ?_
    refine sS rfl rfl ?_
    refine sB rfl rfl ?_ ?_
    · refine sS rfl rfl ?_
      exact sR rfl rfl (fun hg => by cases hg; exact ⟨rfl, rfl⟩)
    · exact sThrow rfl rfl rfl rfl (fun hg => by cases hg; exact ⟨rfl, rfl⟩)
  cases z with
  | inl E => exact ⟨rfl, key⟩
  | inr v => exact ⟨rfl, key⟩
noncomputable def F_X7_loadOf (h : PH) (p0 : Int32) : Option (Nat ⊕ (Int32)) :=
 (F_X7_requireTour h p0).bind <| bsum (fun E => some (.inl E)) fun z1v =>
 (F_X4_demandIn h p0).bind fun z2 =>
 some (.inr (z2))
set_option maxHeartbeats 4000000 in
set_option maxRecDepth 100000 in
theorem ok_X7_loadOf (d : Nat) (hd : 4 ≤ d) (h : PH) (p0 : Int32) : ∀ z, F_X7_loadOf h p0 = some z → exx (fun E => Ex d 82 [.ref 0, .int p0] h (.inr E) h) (fun v => Ex d 82 [.ref 0, .int p0] h (.inl (some (.int v))) (h)) z := by
  obtain ⟨d, rfl⟩ : ∃ e, d = e + 1 := ⟨d - 1, by omega⟩
  intro z hz
  have key : PW (Ex d) mi_X7_loadOf (fun o1 h1 => exx (fun E => o1 = .inr E ∧ h1 = h) (fun v => o1 = .inl (some (.int v)) ∧ h1 = h) z) 0 [some (.ref 0), some (.int p0)] [] h 0 := by
    refine (?_ : Sim (Ex d) mi_X7_loadOf _ (F_X7_loadOf h p0) (fun t => t = z) 0 [some (.ref 0), some (.int p0)] [] h 0) z hz rfl
    unfold F_X7_loadOf
    refine sS rfl rfl ?_
    refine sS rfl rfl ?_
    refine sCX0 (hx := h) (c' := 1) rfl rfl rfl rfl rfl rfl (ok_X7_requireTour d (by omega) h p0) ?_ (fun z1v => ?_)
    · intro E t h1 h2
      cases h1
      cases h2
      exact Or.inl ⟨⟨rfl, rfl⟩, rfl, rfl⟩
    refine sS rfl rfl ?_
    refine sS rfl rfl ?_
    refine sS rfl rfl ?_
    refine sC1 (c' := 1) rfl rfl rfl rfl rfl rfl (ok_X4_demandIn d (by omega) h p0) (fun z2 => ?_)
    exact sR rfl rfl (fun hg => by cases hg; exact ⟨rfl, rfl⟩)
  cases z with
  | inl E => exact ⟨rfl, key⟩
  | inr v => exact ⟨rfl, key⟩
noncomputable def F_X7_tourCost (h : PH) (p0 : Int32) : Option (Nat ⊕ (Int32)) :=
 (F_X7_requireTour h p0).bind <| bsum (fun E => some (.inl E)) fun z1v =>
 (F_X4_costOf h p0).bind fun z2 =>
 some (.inr (z2))
set_option maxHeartbeats 4000000 in
set_option maxRecDepth 100000 in
theorem ok_X7_tourCost (d : Nat) (hd : 4 ≤ d) (h : PH) (p0 : Int32) : ∀ z, F_X7_tourCost h p0 = some z → exx (fun E => Ex d 83 [.ref 0, .int p0] h (.inr E) h) (fun v => Ex d 83 [.ref 0, .int p0] h (.inl (some (.int v))) (h)) z := by
  obtain ⟨d, rfl⟩ : ∃ e, d = e + 1 := ⟨d - 1, by omega⟩
  intro z hz
  have key : PW (Ex d) mi_X7_tourCost (fun o1 h1 => exx (fun E => o1 = .inr E ∧ h1 = h) (fun v => o1 = .inl (some (.int v)) ∧ h1 = h) z) 0 [some (.ref 0), some (.int p0)] [] h 0 := by
    refine (?_ : Sim (Ex d) mi_X7_tourCost _ (F_X7_tourCost h p0) (fun t => t = z) 0 [some (.ref 0), some (.int p0)] [] h 0) z hz rfl
    unfold F_X7_tourCost
    refine sS rfl rfl ?_
    refine sS rfl rfl ?_
    refine sCX0 (hx := h) (c' := 1) rfl rfl rfl rfl rfl rfl (ok_X7_requireTour d (by omega) h p0) ?_ (fun z1v => ?_)
    · intro E t h1 h2
      cases h1
      cases h2
      exact Or.inl ⟨⟨rfl, rfl⟩, rfl, rfl⟩
    refine sS rfl rfl ?_
    refine sS rfl rfl ?_
    refine sS rfl rfl ?_
    refine sC1 (c' := 1) rfl rfl rfl rfl rfl rfl (ok_X4_costOf d (by omega) h p0) (fun z2 => ?_)
    exact sR rfl rfl (fun hg => by cases hg; exact ⟨rfl, rfl⟩)
  cases z with
  | inl E => exact ⟨rfl, key⟩
  | inr v => exact ⟨rfl, key⟩
noncomputable def F_X7_totalCost (h : PH) : Option (Int32) :=
 loop (fun (s1 : Int32 × Int32) =>
  if (h.1 26 0) ≤ s1.2 then
   some (.inr (s1.1))
  else
   (F_X4_costOf h s1.2).bind fun z2 =>
   some (.inl ((s1.1 + z2), (s1.2 + (1 : Int32))))) ((0 : Int32), (0 : Int32))
set_option maxHeartbeats 4000000 in
set_option maxRecDepth 100000 in
theorem ok_X7_totalCost (d : Nat) (hd : 4 ≤ d) (h : PH) : ∀ z, F_X7_totalCost h = some z → Ex d 84 [.ref 0] h (.inl (some (.int z))) (h) := by
  obtain ⟨d, rfl⟩ : ∃ e, d = e + 1 := ⟨d - 1, by omega⟩
  intro z hz
  refine ⟨rfl, ?_⟩
  refine (?_ : Sim (Ex d) mi_X7_totalCost (fun o1 h1 => o1 = _ ∧ h1 = _) (F_X7_totalCost h) (fun t => t = z) 0 [some (.ref 0), none, none] [] h 0) z hz rfl
  unfold F_X7_totalCost
  refine sS rfl rfl ?_
  refine sS rfl rfl ?_
  refine sS rfl rfl ?_
  refine sS rfl rfl ?_
  refine sL (pc := 4) (lv := fun (s1 : Int32 × Int32) => [some (.ref 0), some (.int (s1.1)), some (.int (s1.2))]) (h := fun (s1 : Int32 × Int32) => h) (fun s1 => ?_) ((0 : Int32), (0 : Int32))
  refine sS rfl rfl ?_
  refine sS rfl rfl ?_
  refine sS rfl rfl ?_
  refine sS rfl rfl ?_
  refine sB rfl rfl ?_ ?_
  · refine sS rfl rfl ?_
    exact sR rfl rfl (fun hg => by cases hg; exact ⟨rfl, rfl⟩)
  · refine sS rfl rfl ?_
    refine sS rfl rfl ?_
    refine sS rfl rfl ?_
    refine sS rfl rfl ?_
    refine sC1 (c' := 0) rfl rfl rfl rfl rfl rfl (ok_X4_costOf d (by omega) h s1.2) (fun z2 => ?_)
    refine sS rfl rfl ?_
    refine sS rfl rfl ?_
    refine sS rfl rfl ?_
    refine sS rfl rfl ?_
    exact sJ (fun h2 => by (try dsimp only at h2); exact h2)
noncomputable def F_X7_unserved (h : PH) : Option (Int32) :=
 loop (fun (s1 : Int32 × Int32) =>
  if (h.1 14 2) ≤ s1.2 then
   some (.inr (s1.1))
  else
   (F_X4_isWaiting h s1.2).bind fun z2 =>
   if z2 = 0 then
    some (.inl (s1.1, (s1.2 + (1 : Int32))))
   else
    some (.inl ((s1.1 + (1 : Int32)), (s1.2 + (1 : Int32))))) ((0 : Int32), (0 : Int32))
set_option maxHeartbeats 4000000 in
set_option maxRecDepth 100000 in
theorem ok_X7_unserved (d : Nat) (hd : 5 ≤ d) (h : PH) : ∀ z, F_X7_unserved h = some z → Ex d 85 [.ref 0] h (.inl (some (.int z))) (h) := by
  obtain ⟨d, rfl⟩ : ∃ e, d = e + 1 := ⟨d - 1, by omega⟩
  intro z hz
  refine ⟨rfl, ?_⟩
  refine (?_ : Sim (Ex d) mi_X7_unserved (fun o1 h1 => o1 = _ ∧ h1 = _) (F_X7_unserved h) (fun t => t = z) 0 [some (.ref 0), none, none] [] h 0) z hz rfl
  unfold F_X7_unserved
  refine sS rfl rfl ?_
  refine sS rfl rfl ?_
  refine sS rfl rfl ?_
  refine sS rfl rfl ?_
  refine sL (pc := 4) (lv := fun (s1 : Int32 × Int32) => [some (.ref 0), some (.int (s1.1)), some (.int (s1.2))]) (h := fun (s1 : Int32 × Int32) => h) (fun s1 => ?_) ((0 : Int32), (0 : Int32))
  refine sS rfl rfl ?_
  refine sS rfl rfl ?_
  refine sS rfl rfl ?_
  refine sS rfl rfl ?_
  refine sB rfl rfl ?_ ?_
  · refine sS rfl rfl ?_
    exact sR rfl rfl (fun hg => by cases hg; exact ⟨rfl, rfl⟩)
  · refine sS rfl rfl ?_
    refine sS rfl rfl ?_
    refine sS rfl rfl ?_
    refine sC1 (c' := 0) rfl rfl rfl rfl rfl rfl (ok_X4_isWaiting d (by omega) h s1.2) (fun z2 => ?_)
    refine sB rfl rfl ?_ ?_
    · refine sS rfl rfl ?_
      refine sS rfl rfl ?_
      exact sJ (fun h2 => by (try dsimp only at h2); exact h2)
    · refine sS rfl rfl ?_
      refine sS rfl rfl ?_
      refine sS rfl rfl ?_
      exact sJ (fun h2 => by (try dsimp only at h2); exact h2)
noncomputable def F_X7_tourOf (h : PH) (p0 : Int32) : Option (Nat ⊕ (Int32)) :=
 (F_X7_requireEdge h p0).bind <| bsum (fun E => some (.inl E)) fun z1v =>
 (F_X3_tourServing h p0).bind fun z2 =>
 some (.inr (z2))
set_option maxHeartbeats 4000000 in
set_option maxRecDepth 100000 in
theorem ok_X7_tourOf (d : Nat) (hd : 4 ≤ d) (h : PH) (p0 : Int32) : ∀ z, F_X7_tourOf h p0 = some z → exx (fun E => Ex d 86 [.ref 0, .int p0] h (.inr E) h) (fun v => Ex d 86 [.ref 0, .int p0] h (.inl (some (.int v))) (h)) z := by
  obtain ⟨d, rfl⟩ : ∃ e, d = e + 1 := ⟨d - 1, by omega⟩
  intro z hz
  have key : PW (Ex d) mi_X7_tourOf (fun o1 h1 => exx (fun E => o1 = .inr E ∧ h1 = h) (fun v => o1 = .inl (some (.int v)) ∧ h1 = h) z) 0 [some (.ref 0), some (.int p0)] [] h 0 := by
    refine (?_ : Sim (Ex d) mi_X7_tourOf _ (F_X7_tourOf h p0) (fun t => t = z) 0 [some (.ref 0), some (.int p0)] [] h 0) z hz rfl
    unfold F_X7_tourOf
    refine sS rfl rfl ?_
    refine sS rfl rfl ?_
    refine sCX0 (hx := h) (c' := 1) rfl rfl rfl rfl rfl rfl (ok_X7_requireEdge d (by omega) h p0) ?_ (fun z1v => ?_)
    · intro E t h1 h2
      cases h1
      cases h2
      exact Or.inl ⟨⟨rfl, rfl⟩, rfl, rfl⟩
    refine sS rfl rfl ?_
    refine sS rfl rfl ?_
    refine sS rfl rfl ?_
    refine sC1 (c' := 1) rfl rfl rfl rfl rfl rfl (ok_X3_tourServing d (by omega) h p0) (fun z2 => ?_)
    exact sR rfl rfl (fun hg => by cases hg; exact ⟨rfl, rfl⟩)
  cases z with
  | inl E => exact ⟨rfl, key⟩
  | inr v => exact ⟨rfl, key⟩
noncomputable def F_X7_bestInsertion (h : PH) (p0 : Int32) : Option (Nat ⊕ (Int32)) :=
 (F_X7_requireEdge h p0).bind <| bsum (fun E => some (.inl E)) fun z1v =>
 (F_X4_isWaiting h p0).bind fun z2 =>
 if ¬ z2 = 0 then
  (F_X4_bestPlace h p0).bind fun z3 =>
  some (.inr (z3))
 else
  some (.inl 2)
set_option maxHeartbeats 4000000 in
set_option maxRecDepth 100000 in
theorem ok_X7_bestInsertion (d : Nat) (hd : 6 ≤ d) (h : PH) (p0 : Int32) : ∀ z, F_X7_bestInsertion h p0 = some z → exx (fun E => Ex d 87 [.ref 0, .int p0] h (.inr E) h) (fun v => Ex d 87 [.ref 0, .int p0] h (.inl (some (.int v))) (h)) z := by
  obtain ⟨d, rfl⟩ : ∃ e, d = e + 1 := ⟨d - 1, by omega⟩
  intro z hz
  have key : PW (Ex d) mi_X7_bestInsertion (fun o1 h1 => exx (fun E => o1 = .inr E ∧ h1 = h) (fun v => o1 = .inl (some (.int v)) ∧ h1 = h) z) 0 [some (.ref 0), some (.int p0)] [] h 0 := by
    refine (?_ : Sim (Ex d) mi_X7_bestInsertion _ (F_X7_bestInsertion h p0) (fun t => t = z) 0 [some (.ref 0), some (.int p0)] [] h 0) z hz rfl
    unfold F_X7_bestInsertion
    refine sS rfl rfl ?_
    refine sS rfl rfl ?_
    refine sCX0 (hx := h) (c' := 1) rfl rfl rfl rfl rfl rfl (ok_X7_requireEdge d (by omega) h p0) ?_ (fun z1v => ?_)
    · intro E t h1 h2
      cases h1
      cases h2
      exact Or.inl ⟨⟨rfl, rfl⟩, rfl, rfl⟩
    refine sS rfl rfl ?_
    refine sS rfl rfl ?_
    refine sS rfl rfl ?_
    refine sC1 (c' := 1) rfl rfl rfl rfl rfl rfl (ok_X4_isWaiting d (by omega) h p0) (fun z2 => ?_)
    refine sB rfl rfl ?_ ?_
    · refine sS rfl rfl ?_
      refine sS rfl rfl ?_
      refine sS rfl rfl ?_
      refine sC1 (c' := 1) rfl rfl rfl rfl rfl rfl (ok_X4_bestPlace d (by omega) h p0) (fun z3 => ?_)
      exact sR rfl rfl (fun hg => by cases hg; exact ⟨rfl, rfl⟩)
    · exact sThrow rfl rfl rfl rfl (fun hg => by cases hg; exact ⟨rfl, rfl⟩)
  cases z with
  | inl E => exact ⟨rfl, key⟩
  | inr v => exact ⟨rfl, key⟩
noncomputable def F_X7_openTour (h : PH) (p0 : Int32) : Option (Nat ⊕ (Int32 × PH)) :=
 if p0 < 0 then
  some (.inl 1)
 else
  if p0 < (h.1 14 3) then
   if (h.1 26 0) < (4 : Int32) then
    (F_X1_remember h (0 : Int32)).bind fun h1 =>
    some (.inr (((F_X3_addTour h1 (F_X7_at 3 h1 20 p0)).1, (F_X3_addTour h1 (F_X7_at 3 h1 20 p0)).2)))
   else
    some (.inl 2)
  else
   some (.inl 1)
set_option maxHeartbeats 4000000 in
set_option maxRecDepth 100000 in
theorem ok_X7_openTour (d : Nat) (hd : 4 ≤ d) (h : PH) (p0 : Int32) : ∀ z, F_X7_openTour h p0 = some z → exx (fun E => Ex d 88 [.ref 0, .int p0] h (.inr E) h) (fun v => Ex d 88 [.ref 0, .int p0] h (.inl (some (.int v.1))) (v.2)) z := by
  obtain ⟨d, rfl⟩ : ∃ e, d = e + 1 := ⟨d - 1, by omega⟩
  intro z hz
  have key : PW (Ex d) mi_X7_openTour (fun o1 h1 => exx (fun E => o1 = .inr E ∧ h1 = h) (fun v => o1 = .inl (some (.int v.1)) ∧ h1 = v.2) z) 0 [some (.ref 0), some (.int p0)] [] h 0 := by
    refine (?_ : Sim (Ex d) mi_X7_openTour _ (F_X7_openTour h p0) (fun t => t = z) 0 [some (.ref 0), some (.int p0)] [] h 0) z hz rfl
    unfold F_X7_openTour
    refine sS rfl rfl ?_
    refine sB rfl rfl ?_ ?_
    · exact sThrow rfl rfl rfl rfl (fun hg => by cases hg; exact ⟨rfl, rfl⟩)
    · refine sS rfl rfl ?_
      refine sS rfl rfl ?_
      refine sS rfl rfl ?_
      refine sS rfl rfl ?_
      refine sB rfl rfl ?_ ?_
      · refine sS rfl rfl ?_
        refine sS rfl rfl ?_
        refine sS rfl rfl ?_
        refine sS rfl rfl ?_
        refine sB rfl rfl ?_ ?_
        · refine sS rfl rfl ?_
          refine sS rfl rfl ?_
          refine sS rfl rfl ?_
          refine sS rfl rfl ?_
          refine sS rfl rfl ?_
          refine sS rfl rfl ?_
          refine sS rfl rfl ?_
          refine sC0 (c' := 0) rfl rfl rfl rfl rfl rfl (ok_X1_remember d (by omega) h (0 : Int32)) (fun h1 => ?_)
          refine sS rfl rfl ?_
          refine sS rfl rfl ?_
          refine sS rfl rfl ?_
          refine sS rfl rfl ?_
          refine sS rfl rfl ?_
          refine sS rfl rfl ?_
          refine sT1 (c' := 0) rfl rfl rfl rfl rfl rfl (ok_X7_at d (by omega) 3 h1 20 p0 rfl) ?_
          refine sT1 (c' := 0) rfl rfl rfl rfl rfl rfl (ok_X3_addTour d (by omega) h1 (F_X7_at 3 h1 20 p0)) ?_
          exact sR rfl rfl (fun hg => by cases hg; exact ⟨rfl, rfl⟩)
        · exact sThrow rfl rfl rfl rfl (fun hg => by cases hg; exact ⟨rfl, rfl⟩)
      · exact sThrow rfl rfl rfl rfl (fun hg => by cases hg; exact ⟨rfl, rfl⟩)
  cases z with
  | inl E => exact ⟨rfl, key⟩
  | inr v => exact ⟨rfl, key⟩
noncomputable def F_X7_insert (h : PH) (p0 : Int32) (p1 : Int32) (p2 : Int32) : Option (Nat ⊕ (Int32 × PH)) :=
 (F_X7_requireTour h p0).bind <| bsum (fun E => some (.inl E)) fun z1v =>
 if p1 < 0 then
  some (.inl 1)
 else
  if p1 ≤ (F_X7_at 4 h 28 p0) then
   (F_X7_requireArc h p2).bind <| bsum (fun E => some (.inl E)) fun z2v =>
   (F_X4_isWaiting h (p2 / (2 : Int32))).bind fun z3 =>
   if ¬ z3 = 0 then
    (F_X4_hasRoom h p0 (p2 / (2 : Int32))).bind fun z4 =>
    if z4 = 0 then
     some (.inl 2)
    else
     if (F_X4_increaseBy h p0 p1 p2) < (100000000 : Int32) then
      (F_X1_remember h (0 : Int32)).bind fun h5 =>
      (F_X3_putIn h5 p0 p1 p2).bind fun h6 =>
      (F_X4_costOf h6 p0).bind fun z7 =>
      some (.inr ((z7, h6)))
     else
      some (.inl 2)
   else
    some (.inl 2)
  else
   some (.inl 1)
set_option maxHeartbeats 4000000 in
set_option maxRecDepth 100000 in
theorem ok_X7_insert (d : Nat) (hd : 5 ≤ d) (h : PH) (p0 : Int32) (p1 : Int32) (p2 : Int32) : ∀ z, F_X7_insert h p0 p1 p2 = some z → exx (fun E => Ex d 89 [.ref 0, .int p0, .int p1, .int p2] h (.inr E) h) (fun v => Ex d 89 [.ref 0, .int p0, .int p1, .int p2] h (.inl (some (.int v.1))) (v.2)) z := by
  obtain ⟨d, rfl⟩ : ∃ e, d = e + 1 := ⟨d - 1, by omega⟩
  intro z hz
  have key : PW (Ex d) mi_X7_insert (fun o1 h1 => exx (fun E => o1 = .inr E ∧ h1 = h) (fun v => o1 = .inl (some (.int v.1)) ∧ h1 = v.2) z) 0 [some (.ref 0), some (.int p0), some (.int p1), some (.int p2)] [] h 0 := by
    refine (?_ : Sim (Ex d) mi_X7_insert _ (F_X7_insert h p0 p1 p2) (fun t => t = z) 0 [some (.ref 0), some (.int p0), some (.int p1), some (.int p2)] [] h 0) z hz rfl
    unfold F_X7_insert
    refine sS rfl rfl ?_
    refine sS rfl rfl ?_
    refine sCX0 (hx := h) (c' := 1) rfl rfl rfl rfl rfl rfl (ok_X7_requireTour d (by omega) h p0) ?_ (fun z1v => ?_)
    · intro E t h1 h2
      cases h1
      cases h2
      exact Or.inl ⟨⟨rfl, rfl⟩, rfl, rfl⟩
    refine sS rfl rfl ?_
    refine sB rfl rfl ?_ ?_
    · exact sThrow rfl rfl rfl rfl (fun hg => by cases hg; exact ⟨rfl, rfl⟩)
    · refine sS rfl rfl ?_
      refine sS rfl rfl ?_
      refine sS rfl rfl ?_
      refine sS rfl rfl ?_
      refine sS rfl rfl ?_
      refine sT1 (c' := 1) rfl rfl rfl rfl rfl rfl (ok_X7_at d (by omega) 4 h 28 p0 rfl) ?_
      refine sB rfl rfl ?_ ?_
      · refine sS rfl rfl ?_
        refine sS rfl rfl ?_
        refine sCX0 (hx := h) (c' := 2) rfl rfl rfl rfl rfl rfl (ok_X7_requireArc d (by omega) h p2) ?_ (fun z2v => ?_)
        · intro E t h1 h2
          cases h1
          cases h2
          exact Or.inl ⟨⟨rfl, rfl⟩, rfl, rfl⟩
        refine sS rfl rfl ?_
        refine sS rfl rfl ?_
        refine sS rfl rfl ?_
        refine sS rfl rfl ?_
        refine sS rfl rfl ?_
        refine sC1 (c' := 2) rfl rfl rfl rfl rfl rfl (ok_X4_isWaiting d (by omega) h (p2 / (2 : Int32))) (fun z3 => ?_)
        refine sB rfl rfl ?_ ?_
        · refine sS rfl rfl ?_
          refine sS rfl rfl ?_
          refine sS rfl rfl ?_
          refine sS rfl rfl ?_
          refine sS rfl rfl ?_
          refine sS rfl rfl ?_
          refine sC1 (c' := 2) rfl rfl rfl rfl rfl rfl (ok_X4_hasRoom d (by omega) h p0 (p2 / (2 : Int32))) (fun z4 => ?_)
          refine sB rfl rfl ?_ ?_
          · exact sThrow rfl rfl rfl rfl (fun hg => by cases hg; exact ⟨rfl, rfl⟩)
          · refine sS rfl rfl ?_
            refine sS rfl rfl ?_
            refine sS rfl rfl ?_
            refine sS rfl rfl ?_
            refine sS rfl rfl ?_
            refine sT1 (c' := 2) rfl rfl rfl rfl rfl rfl (ok_X4_increaseBy d (by omega) h p0 p1 p2) ?_
            refine sS rfl rfl ?_
            refine sB rfl rfl ?_ ?_
            · refine sS rfl rfl ?_
              refine sS rfl rfl ?_
              refine sS rfl rfl ?_
              refine sS rfl rfl ?_
              refine sS rfl rfl ?_
              refine sS rfl rfl ?_
              refine sS rfl rfl ?_
              refine sC0 (c' := 2) rfl rfl rfl rfl rfl rfl (ok_X1_remember d (by omega) h (0 : Int32)) (fun h5 => ?_)
              refine sS rfl rfl ?_
              refine sS rfl rfl ?_
              refine sS rfl rfl ?_
              refine sS rfl rfl ?_
              refine sS rfl rfl ?_
              refine sC0 (c' := 2) rfl rfl rfl rfl rfl rfl (ok_X3_putIn d (by omega) h5 p0 p1 p2) (fun h6 => ?_)
              refine sS rfl rfl ?_
              refine sS rfl rfl ?_
              refine sS rfl rfl ?_
              refine sC1 (c' := 2) rfl rfl rfl rfl rfl rfl (ok_X4_costOf d (by omega) h6 p0) (fun z7 => ?_)
              exact sR rfl rfl (fun hg => by cases hg; exact ⟨rfl, rfl⟩)
            · exact sThrow rfl rfl rfl rfl (fun hg => by cases hg; exact ⟨rfl, rfl⟩)
        · exact sThrow rfl rfl rfl rfl (fun hg => by cases hg; exact ⟨rfl, rfl⟩)
      · exact sThrow rfl rfl rfl rfl (fun hg => by cases hg; exact ⟨rfl, rfl⟩)
  cases z with
  | inl E => exact ⟨rfl, key⟩
  | inr v => exact ⟨rfl, key⟩
noncomputable def F_X7_drop (h : PH) (p0 : Int32) : Option (Nat ⊕ (Int32 × PH)) :=
 (F_X7_requireEdge h p0).bind <| bsum (fun E => some (.inl E)) fun z1v =>
 (F_X3_tourServing h p0).bind fun z2 =>
 if ¬ z2 = (-1 : Int32) then
  (F_X3_positionIn h z2 p0).bind fun z3 =>
  if ¬ (F_X4_canSpare h z2 z3) = 0 then
   (F_X1_remember h (0 : Int32)).bind fun h4 =>
   (F_X3_takeOut h4 z2 z3).bind fun h5 =>
   (F_X4_costOf h5 z2).bind fun z6 =>
   some (.inr ((z6, h5)))
  else
   some (.inl 2)
 else
  some (.inl 2)
set_option maxHeartbeats 4000000 in
set_option maxRecDepth 100000 in
theorem ok_X7_drop (d : Nat) (hd : 4 ≤ d) (h : PH) (p0 : Int32) : ∀ z, F_X7_drop h p0 = some z → exx (fun E => Ex d 90 [.ref 0, .int p0] h (.inr E) h) (fun v => Ex d 90 [.ref 0, .int p0] h (.inl (some (.int v.1))) (v.2)) z := by
  obtain ⟨d, rfl⟩ : ∃ e, d = e + 1 := ⟨d - 1, by omega⟩
  intro z hz
  have key : PW (Ex d) mi_X7_drop (fun o1 h1 => exx (fun E => o1 = .inr E ∧ h1 = h) (fun v => o1 = .inl (some (.int v.1)) ∧ h1 = v.2) z) 0 [some (.ref 0), some (.int p0), none, none] [] h 0 := by
    refine (?_ : Sim (Ex d) mi_X7_drop _ (F_X7_drop h p0) (fun t => t = z) 0 [some (.ref 0), some (.int p0), none, none] [] h 0) z hz rfl
    unfold F_X7_drop
    refine sS rfl rfl ?_
    refine sS rfl rfl ?_
    refine sCX0 (hx := h) (c' := 1) rfl rfl rfl rfl rfl rfl (ok_X7_requireEdge d (by omega) h p0) ?_ (fun z1v => ?_)
    · intro E t h1 h2
      cases h1
      cases h2
      exact Or.inl ⟨⟨rfl, rfl⟩, rfl, rfl⟩
    refine sS rfl rfl ?_
    refine sS rfl rfl ?_
    refine sS rfl rfl ?_
    refine sC1 (c' := 1) rfl rfl rfl rfl rfl rfl (ok_X3_tourServing d (by omega) h p0) (fun z2 => ?_)
    refine sS rfl rfl ?_
    refine sS rfl rfl ?_
    refine sS rfl rfl ?_
    refine sB rfl rfl ?_ ?_
    · refine sS rfl rfl ?_
      refine sS rfl rfl ?_
      refine sS rfl rfl ?_
      refine sS rfl rfl ?_
      refine sC1 (c' := 1) rfl rfl rfl rfl rfl rfl (ok_X3_positionIn d (by omega) h z2 p0) (fun z3 => ?_)
      refine sS rfl rfl ?_
      refine sS rfl rfl ?_
      refine sS rfl rfl ?_
      refine sS rfl rfl ?_
      refine sS rfl rfl ?_
      refine sT1 (c' := 1) rfl rfl rfl rfl rfl rfl (ok_X4_canSpare d (by omega) h z2 z3) ?_
      refine sB rfl rfl ?_ ?_
      · refine sS rfl rfl ?_
        refine sS rfl rfl ?_
        refine sS rfl rfl ?_
        refine sS rfl rfl ?_
        refine sS rfl rfl ?_
        refine sS rfl rfl ?_
        refine sS rfl rfl ?_
        refine sC0 (c' := 1) rfl rfl rfl rfl rfl rfl (ok_X1_remember d (by omega) h (0 : Int32)) (fun h4 => ?_)
        refine sS rfl rfl ?_
        refine sS rfl rfl ?_
        refine sS rfl rfl ?_
        refine sS rfl rfl ?_
        refine sC0 (c' := 1) rfl rfl rfl rfl rfl rfl (ok_X3_takeOut d (by omega) h4 z2 z3) (fun h5 => ?_)
        refine sS rfl rfl ?_
        refine sS rfl rfl ?_
        refine sS rfl rfl ?_
        refine sC1 (c' := 1) rfl rfl rfl rfl rfl rfl (ok_X4_costOf d (by omega) h5 z2) (fun z6 => ?_)
        exact sR rfl rfl (fun hg => by cases hg; exact ⟨rfl, rfl⟩)
      · exact sThrow rfl rfl rfl rfl (fun hg => by cases hg; exact ⟨rfl, rfl⟩)
    · exact sThrow rfl rfl rfl rfl (fun hg => by cases hg; exact ⟨rfl, rfl⟩)
  cases z with
  | inl E => exact ⟨rfl, key⟩
  | inr v => exact ⟨rfl, key⟩
noncomputable def F_X7_flip (h : PH) (p0 : Int32) : Option (Nat ⊕ (Int32 × PH)) :=
 (F_X7_requireEdge h p0).bind <| bsum (fun E => some (.inl E)) fun z1v =>
 (F_X3_tourServing h p0).bind fun z2 =>
 if ¬ z2 = (-1 : Int32) then
  (F_X3_positionIn h z2 p0).bind fun z3 =>
  if ¬ (F_X4_canTurn h z2 z3) = 0 then
   (F_X1_remember h (0 : Int32)).bind fun h4 =>
   (F_X4_costOf (F_X3_turnRound h4 z2 z3) z2).bind fun z5 =>
   some (.inr ((z5, (F_X3_turnRound h4 z2 z3))))
  else
   some (.inl 2)
 else
  some (.inl 2)
set_option maxHeartbeats 4000000 in
set_option maxRecDepth 100000 in
theorem ok_X7_flip (d : Nat) (hd : 4 ≤ d) (h : PH) (p0 : Int32) : ∀ z, F_X7_flip h p0 = some z → exx (fun E => Ex d 91 [.ref 0, .int p0] h (.inr E) h) (fun v => Ex d 91 [.ref 0, .int p0] h (.inl (some (.int v.1))) (v.2)) z := by
  obtain ⟨d, rfl⟩ : ∃ e, d = e + 1 := ⟨d - 1, by omega⟩
  intro z hz
  have key : PW (Ex d) mi_X7_flip (fun o1 h1 => exx (fun E => o1 = .inr E ∧ h1 = h) (fun v => o1 = .inl (some (.int v.1)) ∧ h1 = v.2) z) 0 [some (.ref 0), some (.int p0), none, none] [] h 0 := by
    refine (?_ : Sim (Ex d) mi_X7_flip _ (F_X7_flip h p0) (fun t => t = z) 0 [some (.ref 0), some (.int p0), none, none] [] h 0) z hz rfl
    unfold F_X7_flip
    refine sS rfl rfl ?_
    refine sS rfl rfl ?_
    refine sCX0 (hx := h) (c' := 1) rfl rfl rfl rfl rfl rfl (ok_X7_requireEdge d (by omega) h p0) ?_ (fun z1v => ?_)
    · intro E t h1 h2
      cases h1
      cases h2
      exact Or.inl ⟨⟨rfl, rfl⟩, rfl, rfl⟩
    refine sS rfl rfl ?_
    refine sS rfl rfl ?_
    refine sS rfl rfl ?_
    refine sC1 (c' := 1) rfl rfl rfl rfl rfl rfl (ok_X3_tourServing d (by omega) h p0) (fun z2 => ?_)
    refine sS rfl rfl ?_
    refine sS rfl rfl ?_
    refine sS rfl rfl ?_
    refine sB rfl rfl ?_ ?_
    · refine sS rfl rfl ?_
      refine sS rfl rfl ?_
      refine sS rfl rfl ?_
      refine sS rfl rfl ?_
      refine sC1 (c' := 1) rfl rfl rfl rfl rfl rfl (ok_X3_positionIn d (by omega) h z2 p0) (fun z3 => ?_)
      refine sS rfl rfl ?_
      refine sS rfl rfl ?_
      refine sS rfl rfl ?_
      refine sS rfl rfl ?_
      refine sS rfl rfl ?_
      refine sT1 (c' := 1) rfl rfl rfl rfl rfl rfl (ok_X4_canTurn d (by omega) h z2 z3) ?_
      refine sB rfl rfl ?_ ?_
      · refine sS rfl rfl ?_
        refine sS rfl rfl ?_
        refine sS rfl rfl ?_
        refine sS rfl rfl ?_
        refine sS rfl rfl ?_
        refine sS rfl rfl ?_
        refine sS rfl rfl ?_
        refine sC0 (c' := 1) rfl rfl rfl rfl rfl rfl (ok_X1_remember d (by omega) h (0 : Int32)) (fun h4 => ?_)
        refine sS rfl rfl ?_
        refine sS rfl rfl ?_
        refine sS rfl rfl ?_
        refine sS rfl rfl ?_
        refine sT0 (c' := 1) rfl rfl rfl rfl rfl rfl (ok_X3_turnRound d (by omega) h4 z2 z3) ?_
        refine sS rfl rfl ?_
        refine sS rfl rfl ?_
        refine sS rfl rfl ?_
        refine sC1 (c' := 1) rfl rfl rfl rfl rfl rfl (ok_X4_costOf d (by omega) (F_X3_turnRound h4 z2 z3) z2) (fun z5 => ?_)
        exact sR rfl rfl (fun hg => by cases hg; exact ⟨rfl, rfl⟩)
      · exact sThrow rfl rfl rfl rfl (fun hg => by cases hg; exact ⟨rfl, rfl⟩)
    · exact sThrow rfl rfl rfl rfl (fun hg => by cases hg; exact ⟨rfl, rfl⟩)
  cases z with
  | inl E => exact ⟨rfl, key⟩
  | inr v => exact ⟨rfl, key⟩
noncomputable def F_X7_build (h : PH) : Option (Int32 × PH) :=
 (F_X1_remember h (0 : Int32)).bind fun h1 =>
 loop (fun (s2 : Int32 × Int32 × PH) =>
  if (s2.2.2.1 14 2) ≤ s2.2.1 then
   some (.inr ((s2.1, s2.2.2)))
  else
   (F_X4_isWaiting s2.2.2 s2.2.1).bind fun z3 =>
   if z3 = 0 then
    some (.inl (s2.1, (s2.2.1 + (1 : Int32)), s2.2.2))
   else
    (F_X4_insertBest s2.2.2 s2.2.1).bind fun z4 =>
    if z4.1 = 0 then
     some (.inl (s2.1, (s2.2.1 + (1 : Int32)), z4.2))
    else
     some (.inl ((s2.1 + (1 : Int32)), (s2.2.1 + (1 : Int32)), z4.2))) ((0 : Int32), (0 : Int32), h1)
set_option maxHeartbeats 4000000 in
set_option maxRecDepth 100000 in
theorem ok_X7_build (d : Nat) (hd : 7 ≤ d) (h : PH) : ∀ z, F_X7_build h = some z → Ex d 92 [.ref 0] h (.inl (some (.int z.1))) (z.2) := by
  obtain ⟨d, rfl⟩ : ∃ e, d = e + 1 := ⟨d - 1, by omega⟩
  intro z hz
  refine ⟨rfl, ?_⟩
  refine (?_ : Sim (Ex d) mi_X7_build (fun o1 h1 => o1 = _ ∧ h1 = _) (F_X7_build h) (fun t => t = z) 0 [some (.ref 0), none, none] [] h 0) z hz rfl
  unfold F_X7_build
  refine sS rfl rfl ?_
  refine sS rfl rfl ?_
  refine sS rfl rfl ?_
  refine sS rfl rfl ?_
  refine sS rfl rfl ?_
  refine sS rfl rfl ?_
  refine sS rfl rfl ?_
  refine sC0 (c' := 0) rfl rfl rfl rfl rfl rfl (ok_X1_remember d (by omega) h (0 : Int32)) (fun h1 => ?_)
  refine sS rfl rfl ?_
  refine sS rfl rfl ?_
  refine sS rfl rfl ?_
  refine sS rfl rfl ?_
  refine sL (pc := 20) (lv := fun (s2 : Int32 × Int32 × PH) => [some (.ref 0), some (.int (s2.1)), some (.int (s2.2.1))]) (h := fun (s2 : Int32 × Int32 × PH) => s2.2.2) (fun s2 => ?_) ((0 : Int32), (0 : Int32), h1)
  refine sS rfl rfl ?_
  refine sS rfl rfl ?_
  refine sS rfl rfl ?_
  refine sS rfl rfl ?_
  refine sB rfl rfl ?_ ?_
  · refine sS rfl rfl ?_
    exact sR rfl rfl (fun hg => by cases hg; exact ⟨rfl, rfl⟩)
  · refine sS rfl rfl ?_
    refine sS rfl rfl ?_
    refine sS rfl rfl ?_
    refine sC1 (c' := 0) rfl rfl rfl rfl rfl rfl (ok_X4_isWaiting d (by omega) s2.2.2 s2.2.1) (fun z3 => ?_)
    refine sB rfl rfl ?_ ?_
    · refine sS rfl rfl ?_
      refine sS rfl rfl ?_
      exact sJ (fun h2 => by (try dsimp only at h2); exact h2)
    · refine sS rfl rfl ?_
      refine sS rfl rfl ?_
      refine sS rfl rfl ?_
      refine sC1 (c' := 0) rfl rfl rfl rfl rfl rfl (ok_X4_insertBest d (by omega) s2.2.2 s2.2.1) (fun z4 => ?_)
      refine sB rfl rfl ?_ ?_
      · refine sS rfl rfl ?_
        refine sS rfl rfl ?_
        exact sJ (fun h2 => by (try dsimp only at h2); exact h2)
      · refine sS rfl rfl ?_
        refine sS rfl rfl ?_
        refine sS rfl rfl ?_
        exact sJ (fun h2 => by (try dsimp only at h2); exact h2)
noncomputable def F_X7_improve (h : PH) (p0 : Int32) : Option (Nat ⊕ (Int32 × PH)) :=
 if p0 < (1 : Int32) then
  some (.inl 0)
 else
  if p0 ≤ (10 : Int32) then
   (F_X1_remember h (0 : Int32)).bind fun h1 =>
   loop (fun (s2 : Int32 × Int32 × Int32 × PH) =>
    if p0 ≤ s2.2.2.1 then
     some (.inr (.inr ((s2.1, s2.2.2.2))))
    else
     if s2.2.1 ≤ 0 then
      some (.inr (.inr ((s2.1, s2.2.2.2))))
     else
      (F_X4_makeBestChange s2.2.2.2).bind fun z3 =>
      some (.inl ((s2.1 + z3.1), z3.1, (s2.2.2.1 + (1 : Int32)), z3.2))) ((0 : Int32), (1 : Int32), (0 : Int32), h1)
  else
   some (.inl 0)
set_option maxHeartbeats 4000000 in
set_option maxRecDepth 100000 in
theorem ok_X7_improve (d : Nat) (hd : 8 ≤ d) (h : PH) (p0 : Int32) : ∀ z, F_X7_improve h p0 = some z → exx (fun E => Ex d 93 [.ref 0, .int p0] h (.inr E) h) (fun v => Ex d 93 [.ref 0, .int p0] h (.inl (some (.int v.1))) (v.2)) z := by
  obtain ⟨d, rfl⟩ : ∃ e, d = e + 1 := ⟨d - 1, by omega⟩
  intro z hz
  have key : PW (Ex d) mi_X7_improve (fun o1 h1 => exx (fun E => o1 = .inr E ∧ h1 = h) (fun v => o1 = .inl (some (.int v.1)) ∧ h1 = v.2) z) 0 [some (.ref 0), some (.int p0), none, none, none] [] h 0 := by
    refine (?_ : Sim (Ex d) mi_X7_improve _ (F_X7_improve h p0) (fun t => t = z) 0 [some (.ref 0), some (.int p0), none, none, none] [] h 0) z hz rfl
    unfold F_X7_improve
    refine sS rfl rfl ?_
    refine sS rfl rfl ?_
    refine sB rfl rfl ?_ ?_
    · exact sThrow rfl rfl rfl rfl (fun hg => by cases hg; exact ⟨rfl, rfl⟩)
    · refine sS rfl rfl ?_
      refine sS rfl rfl ?_
      refine sB rfl rfl ?_ ?_
      · refine sS rfl rfl ?_
        refine sS rfl rfl ?_
        refine sS rfl rfl ?_
        refine sS rfl rfl ?_
        refine sS rfl rfl ?_
        refine sS rfl rfl ?_
        refine sS rfl rfl ?_
        refine sC0 (c' := 0) rfl rfl rfl rfl rfl rfl (ok_X1_remember d (by omega) h (0 : Int32)) (fun h1 => ?_)
        refine sS rfl rfl ?_
        refine sS rfl rfl ?_
        refine sS rfl rfl ?_
        refine sS rfl rfl ?_
        refine sS rfl rfl ?_
        refine sS rfl rfl ?_
        refine sL (pc := 44) (lv := fun (s2 : Int32 × Int32 × Int32 × PH) => [some (.ref 0), some (.int p0), some (.int (s2.1)), some (.int (s2.2.1)), some (.int (s2.2.2.1))]) (h := fun (s2 : Int32 × Int32 × Int32 × PH) => s2.2.2.2) (fun s2 => ?_) ((0 : Int32), (1 : Int32), (0 : Int32), h1)
        refine sS rfl rfl ?_
        refine sS rfl rfl ?_
        refine sB rfl rfl ?_ ?_
        · refine sS rfl rfl ?_
          exact sR rfl rfl (fun hg => by cases hg; exact ⟨rfl, rfl⟩)
        · refine sS rfl rfl ?_
          refine sB rfl rfl ?_ ?_
          · refine sS rfl rfl ?_
            exact sR rfl rfl (fun hg => by cases hg; exact ⟨rfl, rfl⟩)
          · refine sS rfl rfl ?_
            refine sS rfl rfl ?_
            refine sC1 (c' := 0) rfl rfl rfl rfl rfl rfl (ok_X4_makeBestChange d (by omega) s2.2.2.2) (fun z3 => ?_)
            refine sS rfl rfl ?_
            refine sS rfl rfl ?_
            refine sS rfl rfl ?_
            refine sS rfl rfl ?_
            refine sS rfl rfl ?_
            refine sS rfl rfl ?_
            refine sS rfl rfl ?_
            exact sJ (fun h2 => by (try dsimp only at h2); exact h2)
      · exact sThrow rfl rfl rfl rfl (fun hg => by cases hg; exact ⟨rfl, rfl⟩)
  cases z with
  | inl E => exact ⟨rfl, key⟩
  | inr v => exact ⟨rfl, key⟩
noncomputable def F_X7_undo (h : PH) : Option (Int32 × PH) :=
 if ¬ (h.1 30 3) = 0 then
  (F_X1_restore h).bind fun z1 =>
  if z1.1 = 0 then
   some (((z1.2.1 30 3), z1.2))
  else
   (F_X5_explore z1.2).bind fun h2 =>
   some (((h2.1 30 3), h2))
 else
  some (((-1 : Int32), h))
set_option maxHeartbeats 4000000 in
set_option maxRecDepth 100000 in
theorem ok_X7_undo (d : Nat) (hd : 6 ≤ d) (h : PH) : ∀ z, F_X7_undo h = some z → Ex d 94 [.ref 0] h (.inl (some (.int z.1))) (z.2) := by
  obtain ⟨d, rfl⟩ : ∃ e, d = e + 1 := ⟨d - 1, by omega⟩
  intro z hz
  refine ⟨rfl, ?_⟩
  refine (?_ : Sim (Ex d) mi_X7_undo (fun o1 h1 => o1 = _ ∧ h1 = _) (F_X7_undo h) (fun t => t = z) 0 [some (.ref 0)] [] h 0) z hz rfl
  unfold F_X7_undo
  refine sS rfl rfl ?_
  refine sS rfl rfl ?_
  refine sS rfl rfl ?_
  refine sB rfl rfl ?_ ?_
  · refine sS rfl rfl ?_
    refine sS rfl rfl ?_
    refine sS rfl rfl ?_
    refine sS rfl rfl ?_
    refine sS rfl rfl ?_
    refine sS rfl rfl ?_
    refine sC1 (c' := 0) rfl rfl rfl rfl rfl rfl (ok_X1_restore d (by omega) h) (fun z1 => ?_)
    refine sB rfl rfl ?_ ?_
    · refine sS rfl rfl ?_
      refine sS rfl rfl ?_
      refine sS rfl rfl ?_
      exact sR rfl rfl (fun hg => by cases hg; exact ⟨rfl, rfl⟩)
    · refine sS rfl rfl ?_
      refine sS rfl rfl ?_
      refine sS rfl rfl ?_
      refine sS rfl rfl ?_
      refine sC0 (c' := 0) rfl rfl rfl rfl rfl rfl (ok_X5_explore d (by omega) z1.2) (fun h2 => ?_)
      refine sS rfl rfl ?_
      refine sS rfl rfl ?_
      refine sS rfl rfl ?_
      exact sR rfl rfl (fun hg => by cases hg; exact ⟨rfl, rfl⟩)
  · refine sS rfl rfl ?_
    exact sR rfl rfl (fun hg => by cases hg; exact ⟨rfl, rfl⟩)
noncomputable def F_X7_checksum (h : PH) : Option (Int64) :=
 (F_X7_totalCost h).bind fun z1 =>
 (F_X7_unserved h).bind fun z2 =>
 loop (fun (s3 : Int64 × Int32) =>
  if (h.1 26 0) ≤ s3.2 then
   some (.inr (s3.1))
  else
   loop (fun (s4 : Int64 × Int32) =>
    if (F_X7_at 4 h 28 s3.2) ≤ s4.2 then
     some (.inr (.inl (s4.1, (s3.2 + (1 : Int32)))))
    else
     some (.inl ((((31 : Int64) * s4.1) + (F_X3_arcOrDepot h s3.2 s4.2).toInt64), (s4.2 + (1 : Int32))))) ((((31 : Int64) * (((31 : Int64) * s3.1) + (F_X7_at 4 h 27 s3.2).toInt64)) + (F_X7_at 4 h 28 s3.2).toInt64), (0 : Int32))) ((((31 : Int64) * z1.toInt64) + z2.toInt64), (0 : Int32))
set_option maxHeartbeats 4000000 in
set_option maxRecDepth 100000 in
theorem ok_X7_checksum (d : Nat) (hd : 6 ≤ d) (h : PH) : ∀ z, F_X7_checksum h = some z → Ex d 95 [.ref 0] h (.inl (some (.long z))) (h) := by
  obtain ⟨d, rfl⟩ : ∃ e, d = e + 1 := ⟨d - 1, by omega⟩
  intro z hz
  refine ⟨rfl, ?_⟩
  refine (?_ : Sim (Ex d) mi_X7_checksum (fun o1 h1 => o1 = _ ∧ h1 = _) (F_X7_checksum h) (fun t => t = z) 0 [some (.ref 0), none, none, none, none, none] [] h 0) z hz rfl
  unfold F_X7_checksum
  refine sS rfl rfl ?_
  refine sC1 (c' := 0) rfl rfl rfl rfl rfl rfl (ok_X7_totalCost d (by omega) h) (fun z1 => ?_)
  refine sS rfl rfl ?_
  refine sS rfl rfl ?_
  refine sS rfl rfl ?_
  refine sS rfl rfl ?_
  refine sS rfl rfl ?_
  refine sS rfl rfl ?_
  refine sC1 (c' := 0) rfl rfl rfl rfl rfl rfl (ok_X7_unserved d (by omega) h) (fun z2 => ?_)
  refine sS rfl rfl ?_
  refine sS rfl rfl ?_
  refine sS rfl rfl ?_
  refine sS rfl rfl ?_
  refine sS rfl rfl ?_
  refine sL (pc := 20) (lv := fun (s3 : Int64 × Int32) => [some (.ref 0), some (.long (s3.1)), none, some (.int (s3.2)), none, none]) (h := fun (s3 : Int64 × Int32) => h) (fun s3 => ?_) ((((31 : Int64) * z1.toInt64) + z2.toInt64), (0 : Int32))
  refine sS rfl rfl ?_
  refine sS rfl rfl ?_
  refine sS rfl rfl ?_
  refine sS rfl rfl ?_
  refine sB rfl rfl ?_ ?_
  · refine sS rfl rfl ?_
    exact sR rfl rfl (fun hg => by cases hg; exact ⟨rfl, rfl⟩)
  · refine sS rfl rfl ?_
    refine sS rfl rfl ?_
    refine sS rfl rfl ?_
    refine sS rfl rfl ?_
    refine sT1 (c' := 0) rfl rfl rfl rfl rfl rfl (ok_X7_at d (by omega) 4 h 28 s3.2 rfl) ?_
    refine sS rfl rfl ?_
    refine sS rfl rfl ?_
    refine sS rfl rfl ?_
    refine sS rfl rfl ?_
    refine sS rfl rfl ?_
    refine sS rfl rfl ?_
    refine sS rfl rfl ?_
    refine sS rfl rfl ?_
    refine sT1 (c' := 0) rfl rfl rfl rfl rfl rfl (ok_X7_at d (by omega) 4 h 27 s3.2 rfl) ?_
    refine sS rfl rfl ?_
    refine sS rfl rfl ?_
    refine sS rfl rfl ?_
    refine sS rfl rfl ?_
    refine sS rfl rfl ?_
    refine sS rfl rfl ?_
    refine sS rfl rfl ?_
    refine sS rfl rfl ?_
    refine sS rfl rfl ?_
    refine sS rfl rfl ?_
    refine sS rfl rfl ?_
    refine sS rfl rfl ?_
    refine sL (pc := 76) (lv := fun (s4 : Int64 × Int32) => [some (.ref 0), some (.long (s4.1)), none, some (.int (s3.2)), some (.int ((F_X7_at 4 h 28 s3.2))), some (.int (s4.2))]) (h := fun (s4 : Int64 × Int32) => h) (fun s4 => ?_) ((((31 : Int64) * (((31 : Int64) * s3.1) + (F_X7_at 4 h 27 s3.2).toInt64)) + (F_X7_at 4 h 28 s3.2).toInt64), (0 : Int32))
    refine sS rfl rfl ?_
    refine sS rfl rfl ?_
    refine sB rfl rfl ?_ ?_
    · refine sS rfl rfl ?_
      refine sS rfl rfl ?_
      refine sM [true, true, true, true, false, false] rfl ?_
      refine sUp ?_
      exact sJ (fun h2 => by (try dsimp only at h2); exact h2)
    · refine sS rfl rfl ?_
      refine sS rfl rfl ?_
      refine sS rfl rfl ?_
      refine sS rfl rfl ?_
      refine sS rfl rfl ?_
      refine sS rfl rfl ?_
      refine sS rfl rfl ?_
      refine sT1 (c' := 0) rfl rfl rfl rfl rfl rfl (ok_X3_arcOrDepot d (by omega) h s3.2 s4.2) ?_
      refine sS rfl rfl ?_
      refine sS rfl rfl ?_
      refine sS rfl rfl ?_
      refine sS rfl rfl ?_
      refine sS rfl rfl ?_
      exact sJ (fun h2 => by (try dsimp only at h2); exact h2)
