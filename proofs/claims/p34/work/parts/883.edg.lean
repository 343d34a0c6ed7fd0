/-! THE SETUP'S STATEMENTS, on both sides -/
/-- what a statement on the network may write -/
def FN (h h' : PH) : Prop := Fr (fun a => a = 1 ∨ (3 ≤ a ∧ a ≤ 9)) h h' ∧ ∀ j, ¬ ((5 ≤ j ∧ j ≤ 8) ∨ j = 10 ∨ j = 11) → h'.1 1 j = h.1 1 j
def FM (h h' : PH) : Prop := Fr (fun a => a = 122 ∨ a = 125) h h' ∧ (∀ j, ¬ (j = 4 ∨ j = 5 ∨ j = 6 ∨ j = 13) → h'.1 122 j = h.1 122 j) ∧ ∀ j, j = 4 ∨ j = 5 ∨ j = 6 ∨ 192 ≤ j → h'.1 125 j = h.1 125 j
theorem FN.refl (h : PH) : FN h h := ⟨Fr.refl h, fun _ _ => rfl⟩
theorem FM.refl (h : PH) : FM h h := ⟨Fr.refl h, fun _ _ => rfl, fun _ _ => rfl⟩
theorem FN.trans {h h' h'' : PH} (f : FN h h') (g : FN h' h'') : FN h h'' := ⟨f.1.trans g.1, fun j hj => (g.2 j hj).trans (f.2 j hj)⟩
theorem FM.trans {h h' h'' : PH} (f : FM h h') (g : FM h' h'') : FM h h'' := ⟨f.1.trans g.1, fun j hj => (g.2.1 j hj).trans (f.2.1 j hj), fun j hj => (g.2.2 j hj).trans (f.2.2 j hj)⟩
theorem FE.FN {h h' : PH} (f : FE h h') : FN h h' := ⟨f.1.mono (fun i hi => Or.inl hi), f.2⟩
theorem FX.FM {h h' : PH} (f : FX h h') : FM h h' := ⟨f.1.mono (fun i hi => Or.inl hi), f.2, fun j _ => by rw [(f.1 125 (by omega)).1]⟩
def addE (N : NT) (u v c1 c2 dm : Nat) : NT := (fun i a => if i = 0 then (if a = 2 then wE N + 1 else N.1 0 a) else if i = 1 then (if a = 2 * wE N then u else if a = 2 * wE N + 1 then v else N.1 1 a) else if i = 2 then (if a = 2 * wE N then c1 else if a = 2 * wE N + 1 then c2 else N.1 2 a) else if i = 3 then (if a = wE N then dm else N.1 3 a) else if i = 6 then (if a = 2 * wE N then c1 else if a = 2 * wE N + 1 then c2 else N.1 6 a) else N.1 i a, fun a => if a / 2 = wE N then 0 else N.2 a)
section EDG
variable {b : Nat → Nat} {n : Nat} {g r : PH} {N : NT}
theorem addE_E (u v c1 c2 dm : Nat) : wE (addE N u v c1 c2 dm) = wE N + 1 := rfl
theorem addE_T {u v c1 c2 dm a : Nat} : wTl (addE N u v c1 c2 dm) a = if a = 2 * wE N then u else if a = 2 * wE N + 1 then v else wTl N a := rfl
theorem addE_C {u v c1 c2 dm a : Nat} : wCo (addE N u v c1 c2 dm) a = if a = 2 * wE N then c1 else if a = 2 * wE N + 1 then c2 else wCo N a := rfl
theorem addE_S {u v c1 c2 dm a : Nat} : wSv (addE N u v c1 c2 dm) a = if a = 2 * wE N then c1 else if a = 2 * wE N + 1 then c2 else wSv N a := rfl
theorem addE_D {u v c1 c2 dm a : Nat} : wDe (addE N u v c1 c2 dm) a = if a = wE N then dm else wDe N a := rfl
theorem addE_B {u v c1 c2 dm a : Nat} : wBn (addE N u v c1 c2 dm) a = if a / 2 = wE N then 0 else wBn N a := rfl
theorem addE_H {u v c1 c2 dm a : Nat} : wHd (addE N u v c1 c2 dm) a = if a = 2 * wE N then v else if a = 2 * wE N + 1 then u else wHd N a := by
  unfold wHd
  rw [addE_T]
  by_cases h1 : a = 2 * wE N
  · rw [if_pos h1, if_neg (by unfold wFl; rw [if_pos (by omega)]; omega), if_pos (by unfold wFl; rw [if_pos (by omega)]; omega)]
  · rw [if_neg h1]
    by_cases h2 : a = 2 * wE N + 1
    · rw [if_pos h2, if_pos (by unfold wFl; rw [if_neg (by omega)]; omega)]
    · rw [if_neg h2, if_neg (by unfold wFl; split <;> omega), if_neg (by unfold wFl; split <;> omega)]
theorem addE_WN {u v c1 c2 dm : Nat} (h : WN N) (hE : wE N < 14) (hu : u < wN N) (hv : v < wN N) (huv : u ≠ v) (h1 : 1 ≤ c1 ∧ c1 ≤ 99) (h2 : 1 ≤ c2 ∧ c2 ≤ 99) (hd : dm ≤ 99) : WN (addE N u v c1 c2 dm) := by
  obtain ⟨a1, a2, a3, a4, a5, a6, a7⟩ := h
  refine ⟨a1, a2, by rw [addE_E]; omega, a4, fun a ha => ?_, fun e he => ?_, a7⟩
  · rw [addE_E] at ha
    show wTl (addE N u v c1 c2 dm) a < wN N ∧ _
    rw [addE_T, addE_C, addE_S, addE_H]
    by_cases z1 : a = 2 * wE N
    · rw [if_pos z1, if_pos z1, if_pos z1, if_pos z1]
      exact ⟨hu, h1.1, h1.2, by omega, fun z => huv z.symm⟩
    · rw [if_neg z1, if_neg z1, if_neg z1, if_neg z1]
      by_cases z2 : a = 2 * wE N + 1
      · rw [if_pos z2, if_pos z2, if_pos z2, if_pos z2]
        exact ⟨hv, h2.1, h2.2, by omega, huv⟩
      · rw [if_neg z2, if_neg z2, if_neg z2, if_neg z2]
        exact a5 a (by omega)
  · rw [addE_E] at he
    rw [addE_D]
    split
    · exact hd
    · exact a6 e (by omega)
theorem c_addE {u v c1 c2 dm : Nat} (hc : CN g 3 N) (hE : wE N < 14) : ∃ g', F_X2_addEdge g (nI u) (nI v) (nI c1) (nI c2) (nI dm) = g' ∧ Fr (fun a => 3 ≤ a ∧ a ≤ 9) g g' ∧ CN g' 3 (addE N u v c1 c2 dm) := by
  obtain ⟨k1, k2, k3, k4, k5, k6, k7⟩ := hc
  have i14 : nI (wE N) < (14 : Int32) := nI_lt (b := 14) hE (by omega)
  have p28 : ∀ (h : PH) (r a : Nat) (x : Int32), a < 28 → F_X7_put 28 h r (nI a) x = pu h r a x := fun h r a x ha => put_in (by omega) ha
  unfold F_X2_addEdge
  rw [k3, if_pos i14, i2, nI_mul]
  have ea : F_X2_putArc g (nI (2 * wE N)) (nI u) (nI c1) = pu (pu (pu (pu g 4 (2 * wE N) (nI u)) 5 (2 * wE N) (nI c1)) 6 (2 * wE N) (nI c1)) 7 (2 * wE N) 0 := by
    unfold F_X2_putArc
    rw [p28 _ _ _ _ (by omega), p28 _ _ _ _ (by omega), p28 _ _ _ _ (by omega), p28 _ _ _ _ (by omega)]
  rw [ea]
  generalize hga : pu (pu (pu (pu g 4 (2 * wE N) (nI u)) 5 (2 * wE N) (nI c1)) 6 (2 * wE N) (nI c1)) 7 (2 * wE N) 0 = ga
  have a3 : ga.1 3 2 = nI (wE N) := by
    rw [← hga, (pu_o _ 7 _ _ 3 (by omega)).1, (pu_o _ 6 _ _ 3 (by omega)).1, (pu_o _ 5 _ _ 3 (by omega)).1, (pu_o _ 4 _ _ 3 (by omega)).1, k3]
  have fa : Fr (fun a => 3 ≤ a ∧ a ≤ 9) g ga := by rw [← hga]; exact (((Fr.pu (by omega)).trans (Fr.pu (by omega))).trans (Fr.pu (by omega))).trans (Fr.pu (by omega))
  rw [a3, nI_mul, nI_1]
  have eb : F_X2_putArc ga (nI (2 * wE N + 1)) (nI v) (nI c2) = pu (pu (pu (pu ga 4 (2 * wE N + 1) (nI v)) 5 (2 * wE N + 1) (nI c2)) 6 (2 * wE N + 1) (nI c2)) 7 (2 * wE N + 1) 0 := by
    unfold F_X2_putArc
    rw [p28 _ _ _ _ (by omega), p28 _ _ _ _ (by omega), p28 _ _ _ _ (by omega), p28 _ _ _ _ (by omega)]
  rw [eb]
  generalize hgb : pu (pu (pu (pu ga 4 (2 * wE N + 1) (nI v)) 5 (2 * wE N + 1) (nI c2)) 6 (2 * wE N + 1) (nI c2)) 7 (2 * wE N + 1) 0 = gb
  have b3 : gb.1 3 2 = nI (wE N) := by
    rw [← hgb, (pu_o _ 7 _ _ 3 (by omega)).1, (pu_o _ 6 _ _ 3 (by omega)).1, (pu_o _ 5 _ _ 3 (by omega)).1, (pu_o _ 4 _ _ 3 (by omega)).1, a3]
  have fb : Fr (fun a => 3 ≤ a ∧ a ≤ 9) ga gb := by rw [← hgb]; exact (((Fr.pu (by omega)).trans (Fr.pu (by omega))).trans (Fr.pu (by omega))).trans (Fr.pu (by omega))
  rw [b3, put_in (by omega) hE, (pu_o gb 8 _ _ 3 (by omega)).1, b3, nI_1]
  have row : ∀ t, t = 4 ∨ t = 5 ∨ t = 6 ∨ t = 7 → ∀ a, gb.1 t a = if a = 2 * wE N then (if t = 4 then nI u else if t = 7 then 0 else nI c1) else if a = 2 * wE N + 1 then (if t = 4 then nI v else if t = 7 then 0 else nI c2) else g.1 t a := by
    intro t ht a
    rw [← hgb, ← hga]
    rcases ht with rfl | rfl | rfl | rfl
    all_goals
      by_cases z1 : a = 2 * wE N
      · subst z1
        simp [pu_get]
      · by_cases z2 : a = 2 * wE N + 1
        · subst z2
          simp [pu_get]
        · simp [pu_get, z1, z2]
  have rest : ∀ t, t ≠ 4 → t ≠ 5 → t ≠ 6 → t ≠ 7 → gb.1 t = g.1 t := fun t h4 h5 h6 h7 => by
    rw [← hgb, ← hga, (pu_o _ 7 _ _ t h7).1, (pu_o _ 6 _ _ t h6).1, (pu_o _ 5 _ _ t h5).1, (pu_o _ 4 _ _ t h4).1, (pu_o _ 7 _ _ t h7).1, (pu_o _ 6 _ _ t h6).1, (pu_o _ 5 _ _ t h5).1, (pu_o _ 4 _ _ t h4).1]
  clear hgb hga
  refine ⟨_, rfl, ((fa.trans fb).trans (Fr.pu (by omega))).trans (Fr.pu (by omega)), ?_⟩
  have o3 : ∀ t, t ≠ 3 → t ≠ 8 → (pu (pu gb 8 (wE N) (nI dm)) 3 2 (nI (wE N + 1))).1 t = gb.1 t := fun t h1 h2 => by rw [(pu_o _ 3 _ _ t h1).1, (pu_o _ 8 _ _ t h2).1]
  have c3 : ∀ j, j ≠ 2 → (pu (pu gb 8 (wE N) (nI dm)) 3 2 (nI (wE N + 1))).1 3 j = g.1 3 j := fun j hj => by
    rw [pu_get, if_neg (fun z => hj z.2), (pu_o gb 8 _ _ 3 (by omega)).1, rest 3 (by omega) (by omega) (by omega) (by omega)]
  refine ⟨by rw [c3 0 (by omega)]; exact k1, by rw [c3 1 (by omega)]; exact k2, by rw [pu_get, if_pos ⟨rfl, rfl⟩]; rfl, by rw [c3 3 (by omega)]; exact k4, fun a ha => ?_, fun e he => ?_, fun d hd => ?_⟩
  · rw [addE_E] at ha
    rw [o3 4 (by omega) (by omega), o3 5 (by omega) (by omega), o3 6 (by omega) (by omega), o3 7 (by omega) (by omega), row 4 (by omega), row 5 (by omega), row 6 (by omega), row 7 (by omega), addE_T, addE_C, addE_S, addE_B]
    by_cases z1 : a = 2 * wE N
    · simp [z1]
    · by_cases z2 : a = 2 * wE N + 1
      · have : (2 * wE N + 1) / 2 = wE N := by omega
        simp [z2, this]
      · have hh := k5 a (by omega)
        have : a / 2 ≠ wE N := by omega
        simp [z1, z2, this]
        exact hh
  · rw [addE_E] at he
    rw [(pu_o _ 3 _ _ (3 + 5) (by omega)).1, pu_get, addE_D, rest (3 + 5) (by omega) (by omega) (by omega) (by omega)]
    by_cases z : e = wE N
    · rw [if_pos ⟨rfl, z⟩, if_pos z]
    · rw [if_neg (fun w => z w.2), if_neg z]
      exact k6 e (by omega)
  · rw [o3 (3 + 6) (by omega) (by omega), rest (3 + 6) (by omega) (by omega) (by omega) (by omega)]
    exact k7 d hd
end EDG
