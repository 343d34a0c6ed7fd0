section BAN
variable {b : Nat → Nat} {n : Nat} {g r : PH} {N : NT}
theorem eAt_c (g : PH) (v : Int32) : F_X6_takeEdgeAt g v = if ¬ (g.1 1 7) = (256 : Int32) then ((F_X6_takeNumber g (0 : Int32) ((g.1 3 2) - (1 : Int32))).bind fun z3 => some ((z3.1, z3.2))) else if (g.1 3 2) ≤ (g.1 1 8) then ((F_X6_takeNumber g (0 : Int32) ((g.1 3 2) - (1 : Int32))).bind fun z3 => some ((z3.1, z3.2))) else if ¬ (F_X2_touches g (g.1 1 8) v) = 0 then ((F_X6_takeNumber g (0 : Int32) ((g.1 3 2) - (1 : Int32))).bind fun z3 => some ((z3.1, z3.2))) else ((F_X6_takeNumber (F_X6_fail g (-3 : Int32)) (0 : Int32) (((F_X6_fail g (-3 : Int32)).1 3 2) - (1 : Int32))).bind fun z3 => some ((z3.1, z3.2))) := rfl
end BAN
