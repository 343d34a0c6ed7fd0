/-! THE SETUP'S STATEMENTS, on both sides -/
/-- the network read so far; the services are not priced yet -/
def NG (g r : PH) (N : NT) : Prop := CN g 3 N ∧ RN r 125 N ∧ WN N ∧ (∀ x, x < 2 * wE N → wSv N x = wCo N x) ∧ ∀ e v, wE N ≤ e → e < 14 → v < 8 → r.1 125 (77 + 14 * v + e) = 0
/-- what a statement on the network may write -/
def FN (h h' : PH) : Prop := Fr (fun a => a = 1 ∨ (3 ≤ a ∧ a ≤ 9)) h h' ∧ ∀ j, ¬ ((5 ≤ j ∧ j ≤ 8) ∨ j = 10 ∨ j = 11) → h'.1 1 j = h.1 1 j
def FM (h h' : PH) : Prop := Fr (fun a => a = 122 ∨ a = 125) h h' ∧ (∀ j, ¬ (j = 4 ∨ j = 5 ∨ j = 6 ∨ j = 13) → h'.1 122 j = h.1 122 j) ∧ ∀ j, j = 4 ∨ j = 5 ∨ j = 6 ∨ 192 ≤ j → h'.1 125 j = h.1 125 j
theorem FN.refl (h : PH) : FN h h := ⟨Fr.refl h, fun _ _ => rfl⟩
theorem FM.refl (h : PH) : FM h h := ⟨Fr.refl h, fun _ _ => rfl, fun _ _ => rfl⟩
theorem FN.trans {h h' h'' : PH} (f : FN h h') (g : FN h' h'') : FN h h'' := ⟨f.1.trans g.1, fun j hj => (g.2 j hj).trans (f.2 j hj)⟩
theorem FM.trans {h h' h'' : PH} (f : FM h h') (g : FM h' h'') : FM h h'' := ⟨f.1.trans g.1, fun j hj => (g.2.1 j hj).trans (f.2.1 j hj), fun j hj => (g.2.2 j hj).trans (f.2.2 j hj)⟩
theorem FE.FN {h h' : PH} (f : FE h h') : FN h h' := ⟨f.1.mono (fun i hi => Or.inl hi), f.2⟩
theorem FX.FM {h h' : PH} (f : FX h h') : FM h h' := ⟨f.1.mono (fun i hi => Or.inl hi), f.2, fun j _ => by rw [(f.1 125 (by omega)).1]⟩
def addE (N : NT) (u v c1 c2 dm : Nat) : NT := (fun i a => if i = 0 then (if a = 2 then wE N + 1 else N.1 0 a) else if i = 1 then (if a = 2 * wE N then u else if a = 2 * wE N + 1 then v else N.1 1 a) else if i = 2 then (if a = 2 * wE N then c1 else if a = 2 * wE N + 1 then c2 else N.1 2 a) else if i = 3 then (if a = wE N then dm else N.1 3 a) else if i = 6 then (if a = 2 * wE N then c1 else if a = 2 * wE N + 1 then c2 else N.1 6 a) else N.1 i a, fun a => if a / 2 = wE N then 0 else N.2 a)
section EDG
variable {b : Nat → Nat} {n : Nat} {g r : PH} {N : NT}
theorem NG.fe {g' r' : PH} (c : NG g r N) (f : FE g g') (f2 : FX r r') : NG g' r' N := ⟨c.1.fr f.1 (fun j hj => by omega), c.2.1.fr f2.1 (by omega), c.2.2.1, c.2.2.2.1, by rw [(f2.1 125 (by omega)).1]; exact c.2.2.2.2⟩
theorem addE_E (u v c1 c2 dm : Nat) : wE (addE N u v c1 c2 dm) = wE N + 1 := rfl
theorem addE_T {u v c1 c2 dm a : Nat} : wTl (addE N u v c1 c2 dm) a = if a = 2 * wE N then u else if a = 2 * wE N + 1 then v else wTl N a := rfl
theorem addE_C {u v c1 c2 dm a : Nat} : wCo (addE N u v c1 c2 dm) a = if a = 2 * wE N then c1 else if a = 2 * wE N + 1 then c2 else wCo N a := rfl
theorem addE_S {u v c1 c2 dm a : Nat} : wSv (addE N u v c1 c2 dm) a = if a = 2 * wE N then c1 else if a = 2 * wE N + 1 then c2 else wSv N a := rfl
theorem addE_D {u v c1 c2 dm a : Nat} : wDe (addE N u v c1 c2 dm) a = if a = wE N then dm else wDe N a := rfl
theorem addE_B {u v c1 c2 dm a : Nat} : wBn (addE N u v c1 c2 dm) a = if a / 2 = wE N then 0 else wBn N a := rfl
theorem addE_H {u v c1 c2 dm a : Nat} : wHd (addE N u v c1 c2 dm) a = if a = 2 * wE N then v else if a = 2 * wE N + 1 then u else wHd N a := by
  unfold wHd
  rw [addE_T]
  by_cases h1 : a = 2 * wE N
  · rw [if_pos h1, if_neg (by unfold wFl; rw [if_pos (by omega)]; omega), if_pos (by unfold wFl; rw [if_pos (by omega)]; omega)]
  · rw [if_neg h1]
    by_cases h2 : a = 2 * wE N + 1
    · rw [if_pos h2, if_pos (by unfold wFl; rw [if_neg (by omega)]; omega)]
    · rw [if_neg h2, if_neg (by unfold wFl; split <;> omega), if_neg (by unfold wFl; split <;> omega)]
theorem addE_WN {u v c1 c2 dm : Nat} (h : WN N) (hE : wE N < 14) (hu : u < wN N) (hv : v < wN N) (huv : u ≠ v) (h1 : 1 ≤ c1 ∧ c1 ≤ 99) (h2 : 1 ≤ c2 ∧ c2 ≤ 99) (hd : dm ≤ 99) : WN (addE N u v c1 c2 dm) := by
  obtain ⟨a1, a2, a3, a4, a5, a6, a7⟩ := h
  refine ⟨a1, a2, by rw [addE_E]; omega, a4, fun a ha => ?_, fun e he => ?_, a7⟩
  · rw [addE_E] at ha
    show wTl (addE N u v c1 c2 dm) a < wN N ∧ _
    rw [addE_T, addE_C, addE_S, addE_H]
    by_cases z1 : a = 2 * wE N
    · rw [if_pos z1, if_pos z1, if_pos z1, if_pos z1]
      exact ⟨hu, h1.1, h1.2, by omega, fun z => huv z.symm⟩
    · rw [if_neg z1, if_neg z1, if_neg z1, if_neg z1]
      by_cases z2 : a = 2 * wE N + 1
      · rw [if_pos z2, if_pos z2, if_pos z2, if_pos z2]
        exact ⟨hv, h2.1, h2.2, by omega, huv⟩
      · rw [if_neg z2, if_neg z2, if_neg z2, if_neg z2]
        exact a5 a (by omega)
  · rw [addE_E] at he
    rw [addE_D]
    split
    · exact hd
    · exact a6 e (by omega)
theorem c_addE {u v c1 c2 dm : Nat} (hc : CN g 3 N) (hE : wE N < 14) : ∃ g', F_X2_addEdge g (nI u) (nI v) (nI c1) (nI c2) (nI dm) = g' ∧ Fr (fun a => 3 ≤ a ∧ a ≤ 9) g g' ∧ CN g' 3 (addE N u v c1 c2 dm) := by
  obtain ⟨k1, k2, k3, k4, k5, k6, k7⟩ := hc
  have i14 : nI (wE N) < (14 : Int32) := nI_lt (b := 14) hE (by omega)
  have p28 : ∀ (h : PH) (r a : Nat) (x : Int32), a < 28 → F_X7_put 28 h r (nI a) x = pu h r a x := fun h r a x ha => put_in (by omega) ha
  unfold F_X2_addEdge
  rw [k3, if_pos i14, i2, nI_mul]
  have ea : F_X2_putArc g (nI (2 * wE N)) (nI u) (nI c1) = pu (pu (pu (pu g 4 (2 * wE N) (nI u)) 5 (2 * wE N) (nI c1)) 6 (2 * wE N) (nI c1)) 7 (2 * wE N) 0 := by
    unfold F_X2_putArc
    rw [p28 _ _ _ _ (by omega), p28 _ _ _ _ (by omega), p28 _ _ _ _ (by omega), p28 _ _ _ _ (by omega)]
  rw [ea]
  generalize hga : pu (pu (pu (pu g 4 (2 * wE N) (nI u)) 5 (2 * wE N) (nI c1)) 6 (2 * wE N) (nI c1)) 7 (2 * wE N) 0 = ga
  have a3 : ga.1 3 2 = nI (wE N) := by
    rw [← hga, (pu_o _ 7 _ _ 3 (by omega)).1, (pu_o _ 6 _ _ 3 (by omega)).1, (pu_o _ 5 _ _ 3 (by omega)).1, (pu_o _ 4 _ _ 3 (by omega)).1, k3]
  have fa : Fr (fun a => 3 ≤ a ∧ a ≤ 9) g ga := by rw [← hga]; exact (((Fr.pu (by omega)).trans (Fr.pu (by omega))).trans (Fr.pu (by omega))).trans (Fr.pu (by omega))
  rw [a3, nI_mul, nI_1]
  have eb : F_X2_putArc ga (nI (2 * wE N + 1)) (nI v) (nI c2) = pu (pu (pu (pu ga 4 (2 * wE N + 1) (nI v)) 5 (2 * wE N + 1) (nI c2)) 6 (2 * wE N + 1) (nI c2)) 7 (2 * wE N + 1) 0 := by
    unfold F_X2_putArc
    rw [p28 _ _ _ _ (by omega), p28 _ _ _ _ (by omega), p28 _ _ _ _ (by omega), p28 _ _ _ _ (by omega)]
  rw [eb]
  generalize hgb : pu (pu (pu (pu ga 4 (2 * wE N + 1) (nI v)) 5 (2 * wE N + 1) (nI c2)) 6 (2 * wE N + 1) (nI c2)) 7 (2 * wE N + 1) 0 = gb
  have b3 : gb.1 3 2 = nI (wE N) := by
    rw [← hgb, (pu_o _ 7 _ _ 3 (by omega)).1, (pu_o _ 6 _ _ 3 (by omega)).1, (pu_o _ 5 _ _ 3 (by omega)).1, (pu_o _ 4 _ _ 3 (by omega)).1, a3]
  have fb : Fr (fun a => 3 ≤ a ∧ a ≤ 9) ga gb := by rw [← hgb]; exact (((Fr.pu (by omega)).trans (Fr.pu (by omega))).trans (Fr.pu (by omega))).trans (Fr.pu (by omega))
  rw [b3, put_in (by omega) hE, (pu_o gb 8 _ _ 3 (by omega)).1, b3, nI_1]
  have row : ∀ t, t = 4 ∨ t = 5 ∨ t = 6 ∨ t = 7 → ∀ a, gb.1 t a = if a = 2 * wE N then (if t = 4 then nI u else if t = 7 then 0 else nI c1) else if a = 2 * wE N + 1 then (if t = 4 then nI v else if t = 7 then 0 else nI c2) else g.1 t a := by
    intro t ht a
    rw [← hgb, ← hga]
    rcases ht with rfl | rfl | rfl | rfl
    all_goals
      by_cases z1 : a = 2 * wE N
      · subst z1
        simp [pu_get]
      · by_cases z2 : a = 2 * wE N + 1
        · subst z2
          simp [pu_get]
        · simp [pu_get, z1, z2]
  have rest : ∀ t, t ≠ 4 → t ≠ 5 → t ≠ 6 → t ≠ 7 → gb.1 t = g.1 t := fun t h4 h5 h6 h7 => by
    rw [← hgb, ← hga, (pu_o _ 7 _ _ t h7).1, (pu_o _ 6 _ _ t h6).1, (pu_o _ 5 _ _ t h5).1, (pu_o _ 4 _ _ t h4).1, (pu_o _ 7 _ _ t h7).1, (pu_o _ 6 _ _ t h6).1, (pu_o _ 5 _ _ t h5).1, (pu_o _ 4 _ _ t h4).1]
  clear hgb hga
  refine ⟨_, rfl, ((fa.trans fb).trans (Fr.pu (by omega))).trans (Fr.pu (by omega)), ?_⟩
  have o3 : ∀ t, t ≠ 3 → t ≠ 8 → (pu (pu gb 8 (wE N) (nI dm)) 3 2 (nI (wE N + 1))).1 t = gb.1 t := fun t h1 h2 => by rw [(pu_o _ 3 _ _ t h1).1, (pu_o _ 8 _ _ t h2).1]
  have c3 : ∀ j, j ≠ 2 → (pu (pu gb 8 (wE N) (nI dm)) 3 2 (nI (wE N + 1))).1 3 j = g.1 3 j := fun j hj => by
    rw [pu_get, if_neg (fun z => hj z.2), (pu_o gb 8 _ _ 3 (by omega)).1, rest 3 (by omega) (by omega) (by omega) (by omega)]
  refine ⟨by rw [c3 0 (by omega)]; exact k1, by rw [c3 1 (by omega)]; exact k2, by rw [pu_get, if_pos ⟨rfl, rfl⟩]; rfl, by rw [c3 3 (by omega)]; exact k4, fun a ha => ?_, fun e he => ?_, fun d hd => ?_⟩
  · rw [addE_E] at ha
    rw [o3 4 (by omega) (by omega), o3 5 (by omega) (by omega), o3 6 (by omega) (by omega), o3 7 (by omega) (by omega), row 4 (by omega), row 5 (by omega), row 6 (by omega), row 7 (by omega), addE_T, addE_C, addE_S, addE_B]
    by_cases z1 : a = 2 * wE N
    · simp [z1]
    · by_cases z2 : a = 2 * wE N + 1
      · have : (2 * wE N + 1) / 2 = wE N := by omega
        simp [z2, this]
      · have hh := k5 a (by omega)
        have : a / 2 ≠ wE N := by omega
        simp [z1, z2, this]
        exact hh
  · rw [addE_E] at he
    rw [(pu_o _ 3 _ _ (3 + 5) (by omega)).1, pu_get, addE_D, rest (3 + 5) (by omega) (by omega) (by omega) (by omega)]
    by_cases z : e = wE N
    · rw [if_pos ⟨rfl, z⟩, if_pos z]
    · rw [if_neg (fun w => z w.2), if_neg z]
      exact k6 e (by omega)
  · rw [o3 (3 + 6) (by omega) (by omega), rest (3 + 6) (by omega) (by omega) (by omega) (by omega)]
    exact k7 d hd
/-- the reference's row of a new edge -/
theorem r_addE {u v c1 c2 dm : Nat} (hc : NG g r N) (hE : wE N < 14) (hu : u < wN N) (hv : v < wN N) : ∃ r', ((ald 1556 r 125 (2 : Int32)).bind fun z13 =>
    (ast 1556 r 125 (F_X8_edge r z13) (nI u)).bind fun h14 =>
    (ast 1556 h14 125 ((F_X8_edge r z13) + (1 : Int32)) (nI v)).bind fun h15 =>
    (ast 1556 h15 125 ((F_X8_edge r z13) + (2 : Int32)) (nI c1)).bind fun h16 =>
    (ast 1556 h16 125 (((F_X8_edge r z13) + (2 : Int32)) + (1 : Int32)) (nI c2)).bind fun h17 =>
    (ast 1556 h17 125 ((F_X8_edge r z13) + (4 : Int32)) (nI dm)).bind fun h18 =>
    (ald 1556 h18 125 (2 : Int32)).bind fun z19 =>
    (ast 1556 h18 125 (2 : Int32) (z19 + (1 : Int32))).bind fun h20 =>
    some (h20)) = some r' ∧ Fr (fun a => a = 125) r r' ∧ (∀ j, j = 4 ∨ j = 5 ∨ j = 6 ∨ 192 ≤ j → r'.1 125 j = r.1 125 j) ∧ RN r' 125 (addE N u v c1 c2 dm) ∧ ∀ e w, wE N + 1 ≤ e → e < 14 → w < 8 → r'.1 125 (77 + 14 * w + e) = 0 := by
  obtain ⟨-, ⟨k1, k2, k3, k4, k5, k6, k7⟩, hN9, -, hz⟩ := hc
  have hn8 := hN9.1
  have e0 : ald 1556 r 125 (2 : Int32) = some (nI (wE N)) := by rw [i2, ald_in (by omega) (by omega), k3]
  rw [e0, Option.bind_some, r_edge, ast_in (by omega) (by omega), Option.bind_some, nI_1, ast_in (by omega) (by omega), Option.bind_some, i2, nI_add, ast_in (by omega) (by omega), Option.bind_some, nI_1, ast_in (by omega) (by omega), Option.bind_some, i4, nI_add, ast_in (by omega) (by omega), Option.bind_some, ald_in (by omega) (by omega), Option.bind_some]
  generalize hg : pu (pu (pu (pu (pu r 125 (7 + 5 * wE N) (nI u)) 125 (7 + 5 * wE N + 1) (nI v)) 125 (7 + 5 * wE N + 2) (nI c1)) 125 (7 + 5 * wE N + 2 + 1) (nI c2)) 125 (7 + 5 * wE N + 4) (nI dm) = g5
  have f5 : Fr (fun a => a = 125) r g5 := by rw [← hg]; exact ((((Fr.pu (S := fun a => a = 125) rfl).trans (Fr.pu (S := fun a => a = 125) rfl)).trans (Fr.pu (S := fun a => a = 125) rfl)).trans (Fr.pu (S := fun a => a = 125) rfl)).trans (Fr.pu (S := fun a => a = 125) rfl)
  have cell : ∀ j, g5.1 125 j = if j = 7 + 5 * wE N + 4 then nI dm else if j = 7 + 5 * wE N + 3 then nI c2 else if j = 7 + 5 * wE N + 2 then nI c1 else if j = 7 + 5 * wE N + 1 then nI v else if j = 7 + 5 * wE N then nI u else r.1 125 j := fun j => by
    rw [← hg, pu_get, pu_get, pu_get, pu_get, pu_get]
    by_cases z4 : j = 7 + 5 * wE N + 4
    · rw [if_pos ⟨rfl, z4⟩, if_pos z4]
    rw [if_neg (fun w => z4 w.2), if_neg z4]
    by_cases z3 : j = 7 + 5 * wE N + 3
    · rw [if_pos ⟨rfl, by omega⟩, if_pos z3]
    rw [if_neg (fun w => z3 (by omega)), if_neg z3]
    by_cases z2 : j = 7 + 5 * wE N + 2
    · rw [if_pos ⟨rfl, z2⟩, if_pos z2]
    rw [if_neg (fun w => z2 w.2), if_neg z2]
    by_cases z1 : j = 7 + 5 * wE N + 1
    · rw [if_pos ⟨rfl, z1⟩, if_pos z1]
    rw [if_neg (fun w => z1 w.2), if_neg z1]
    by_cases z0 : j = 7 + 5 * wE N
    · rw [if_pos ⟨rfl, z0⟩, if_pos z0]
    rw [if_neg (fun w => z0 w.2), if_neg z0]
  clear hg
  have c2' : g5.1 125 2 = nI (wE N) := by
    rw [cell, if_neg (by omega), if_neg (by omega), if_neg (by omega), if_neg (by omega), if_neg (by omega)]
    exact k3
  rw [c2', nI_1, ast_in (by omega) (by omega), Option.bind_some]
  have far : ∀ j, j ≠ 2 → (j < 7 + 5 * wE N ∨ 7 + 5 * wE N + 5 ≤ j) → (pu g5 125 2 (nI (wE N + 1))).1 125 j = r.1 125 j := fun j h1 h2 => by
    rw [pu_get, if_neg (fun w => h1 w.2), cell, if_neg (by omega), if_neg (by omega), if_neg (by omega), if_neg (by omega), if_neg (by omega)]
  have near : ∀ j, j ≠ 2 → (pu g5 125 2 (nI (wE N + 1))).1 125 j = g5.1 125 j := fun j h1 => by rw [pu_get, if_neg (fun w => h1 w.2)]
  refine ⟨_, rfl, f5.trans (Fr.pu (S := fun a => a = 125) rfl), fun j hj => far j (by omega) (by omega), ⟨by rw [far 0 (by omega) (by omega)]; exact k1, by rw [far 1 (by omega) (by omega)]; exact k2, by rw [pu_get, if_pos ⟨rfl, rfl⟩]; rfl, by rw [far 3 (by omega) (by omega)]; exact k4, fun a ha => ?_, fun e he => ?_, fun d hd => ?_⟩, fun e w h1 h2 h3 => ?_⟩
  · rw [addE_E] at ha
    rw [addE_T, addE_C, addE_B, addE_H]
    by_cases z1 : a = 2 * wE N
    · rw [if_pos z1, if_pos z1, if_pos z1, if_pos (show a / 2 = wE N by omega)]
      refine ⟨?_, ?_, ?_⟩
      · rw [near _ (by omega), cell, if_neg (by omega), if_neg (by omega), if_neg (by omega), if_neg (by omega), if_pos (by omega)]
      · rw [near _ (by omega), cell, if_neg (by omega), if_neg (by omega), if_pos (by omega)]
      · rw [far _ (by omega) (by omega)]
        rw [show a / 2 = wE N by omega]
        exact hz _ v (Nat.le_refl _) hE (by omega)
    · rw [if_neg z1, if_neg z1, if_neg z1]
      by_cases z2 : a = 2 * wE N + 1
      · rw [if_pos z2, if_pos z2, if_pos z2, if_pos (show a / 2 = wE N by omega)]
        refine ⟨?_, ?_, ?_⟩
        · rw [near _ (by omega), cell, if_neg (by omega), if_neg (by omega), if_neg (by omega), if_pos (by omega)]
        · rw [near _ (by omega), cell, if_neg (by omega), if_pos (by omega)]
        · rw [far _ (by omega) (by omega)]
          rw [show a / 2 = wE N by omega]
          exact hz _ u (Nat.le_refl _) hE (by omega)
      · rw [if_neg z2, if_neg z2, if_neg z2, if_neg (show ¬ a / 2 = wE N by omega)]
        obtain ⟨q1, q2, q3⟩ := k5 a (by omega)
        have hh : wHd N a < wN N := (hN9.2.2.2.2.1 _ (wFl_lt (show a < 2 * wE N by omega))).1
        refine ⟨by rw [far _ (by omega) (by omega)]; exact q1, by rw [far _ (by omega) (by omega)]; exact q2, by rw [far _ (by omega) (by omega)]; exact q3⟩
  · rw [addE_E] at he
    rw [addE_D]
    by_cases z : e = wE N
    · rw [if_pos z, near _ (by omega), cell, if_pos (by omega)]
    · rw [if_neg z, far _ (by omega) (by omega)]
      exact k6 e (by omega)
  · rw [far _ (by omega) (by omega)]
    exact k7 d hd
  · rw [far _ (by omega) (by omega)]
    exact hz e w (by omega) h2 h3
end EDG
