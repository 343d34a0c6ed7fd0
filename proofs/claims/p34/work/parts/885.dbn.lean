/-! depots and bans -/
def addD (N : NT) (v : Nat) : NT := (fun i a => if i = 0 then (if a = 3 then wD N + 1 else N.1 0 a) else if i = 5 then (if a = wD N then v else N.1 5 a) else N.1 i a, N.2)
def addB (N : NT) (a0 : Nat) (m : Int32) : NT := (N.1, fun a => if a = a0 then N.2 a ||| m else N.2 a)
noncomputable def dC1 (g : PH) : Option PH := (F_X6_takeNumber g (0 : Int32) ((g.1 3 0) - (1 : Int32))).bind fun z4 => if ¬ (z4.2.1 1 10) = 0 then some (z4.2) else some ((F_X2_addDepot z4.2 z4.1))
theorem dC0 (g : PH) : F_X6_readDepot g = if (g.1 3 3) < (3 : Int32) then (F_X6_next g).bind dC1 else (F_X6_next (F_X6_fail g (-4 : Int32))).bind dC1 := rfl
section DBN
variable {b : Nat → Nat} {n : Nat} {g r : PH} {N : NT}
theorem addD_WN {v : Nat} (h : WN N) (hD : wD N < 3) (hv : v < wN N) : WN (addD N v) := by
  obtain ⟨a1, a2, a3, a4, a5, a6, a7⟩ := h
  refine ⟨a1, a2, a3, by show wD N + 1 ≤ 3; omega, a5, a6, fun d hd => ?_⟩
  have hd : d < wD N + 1 := hd
  show (if d = wD N then v else wDp N d) < wN N
  split
  · exact hv
  · exact a7 d (by omega)
end DBN
