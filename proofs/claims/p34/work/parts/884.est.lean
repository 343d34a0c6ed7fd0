/-! the edge's statement, cut in pieces -/
noncomputable def eC3 (a1 a2 : Int32) (g : PH) : Option PH := (F_X6_takeNumber g (1 : Int32) (99 : Int32)).bind fun z8 => (F_X6_takeNumber z8.2 (1 : Int32) (99 : Int32)).bind fun z9 => (F_X6_takeNumber z9.2 (0 : Int32) (99 : Int32)).bind fun z10 => if ¬ (z10.2.1 1 10) = 0 then some (z10.2) else some ((F_X2_addEdge z10.2 a1 a2 z8.1 z9.1 z10.1))
noncomputable def eCC (v : Int32) (g : PH) : Option PH := (F_X6_takeNumber g (0 : Int32) ((g.1 3 0) - (1 : Int32))).bind fun z7 => eC3 v z7.1 z7.2
noncomputable def eC2 (v : Int32) (g : PH) : Option PH := if ¬ (g.1 1 7) = (256 : Int32) then eCC v g else if ¬ (g.1 1 8) = v then eCC v g else eCC v (F_X6_fail g (-3 : Int32))
noncomputable def eC1 (g : PH) : Option PH := (F_X6_takeNumber g (0 : Int32) ((g.1 3 0) - (1 : Int32))).bind fun z4 => eC2 z4.1 z4.2
theorem eC0 (g : PH) : F_X6_readEdge g = if (g.1 3 2) < (14 : Int32) then (F_X6_next g).bind eC1 else (F_X6_next (F_X6_fail g (-4 : Int32))).bind eC1 := rfl
section EST
variable {b : Nat → Nat} {n : Nat} {g r : PH} {N : NT}
theorem Jo.fr {o : Option Nat} {g' r' : PH} (J : Jo b n g r o) (e1 : g'.1 1 = g.1 1) (e2 : g'.1 2 = g.1 2) (e3 : r'.1 122 = r.1 122) (e4 : r'.1 123 = r.1 123) : Jo b n g' r' o := by
  cases o with
  | none => exact JB.fr J e1 e2 e3 e4
  | some p => exact JT.fr J e1 e2 e3 e4
end EST
