/-! THE READERS' MAIN LOOPS -/
noncomputable def cM (h : PH) : Option PH := (F_X6_isWord h 1001).bind fun z10 =>
       if z10 = 0 then
        (F_X6_isWord h 1002).bind fun z14 =>
        if z14 = 0 then
         (F_X6_isWord h 1003).bind fun z15 =>
         if z15 = 0 then
          (F_X6_isWord h 1004).bind fun z16 =>
          if z16 = 0 then
           some ((F_X6_fail h (-2 : Int32)))
          else
           if ¬ (h.1 1 9) = 0 then
            some ((F_X6_fail h (-2 : Int32)))
           else
            (F_X6_next (pu h 1 9 (1 : Int32))).bind fun h17 => R_X6_readSum 8 h17 (0 : Int32)
         else
          F_X6_readDepot h
        else
         F_X6_readBan h
       else
        F_X6_readEdge h
theorem str_K {α : Type} (h : PH) (K : PH → Option α) : ((F_X6_isWord h 1001).bind fun z10 =>
       if z10 = 0 then
        (F_X6_isWord h 1002).bind fun z14 =>
        if z14 = 0 then
         (F_X6_isWord h 1003).bind fun z15 =>
         if z15 = 0 then
          (F_X6_isWord h 1004).bind fun z16 =>
          if z16 = 0 then
           K ((F_X6_fail h (-2 : Int32)))
          else
           if ¬ (h.1 1 9) = 0 then
            K ((F_X6_fail h (-2 : Int32)))
           else
            (F_X6_next (pu h 1 9 (1 : Int32))).bind fun h17 =>
            (R_X6_readSum 8 h17 (0 : Int32)).bind fun h18 =>
            K h18
         else
          (F_X6_readDepot h).bind fun h19 =>
          K h19
        else
         (F_X6_readBan h).bind fun h20 =>
         K h20
       else
        (F_X6_readEdge h).bind fun h21 =>
        K h21) = (cM h).bind K := by
  unfold cM
  cases F_X6_isWord h 1001 with
  | none => rfl
  | some z10 =>
    rw [Option.bind_some, Option.bind_some]
    split
    · cases F_X6_isWord h 1002 with
      | none => rfl
      | some z14 =>
        rw [Option.bind_some, Option.bind_some]
        split
        · cases F_X6_isWord h 1003 with
          | none => rfl
          | some z15 =>
            rw [Option.bind_some, Option.bind_some]
            split
            · cases F_X6_isWord h 1004 with
              | none => rfl
              | some z16 =>
                rw [Option.bind_some, Option.bind_some]
                split
                · rfl
                · split
                  · rfl
                  · rw [Option.bind_assoc]
            · rfl
        · rfl
    · rfl
theorem cS_M (h : PH) : cS h = (cM h).bind fun v => F_X6_takeSign v (59 : Int32) := str_K h (fun v => F_X6_takeSign v (59 : Int32))
/-- the class's loop -/
noncomputable def Bc (s6 : Int32 × PH) : Option ((Int32 × PH) ⊕ (Int32 × PH)) :=
  jn (fun (v8 : Unit) =>
   if ¬ (s6.2.1 1 10) = 0 then
    some (.inr (((s6.2.1 1 10), s6.2)))
   else
    if (s6.2.1 1 9) = 0 then
     some (.inr (((s6.2.1 1 10), s6.2)))
    else
     (F_X6_priceServices s6.2).bind fun h9 =>
     some (.inr (((h9.1 1 10), h9)))) (fun k7 =>
   if (s6.2.1 1 4) ≤ s6.1 then
    k7 ()
   else
    if ¬ (s6.2.1 1 10) = 0 then
     k7 ()
    else
     if (s6.2.1 1 7) = (258 : Int32) then
      k7 ()
     else
      (F_X6_isWord s6.2 1001).bind fun z10 =>
      jn (fun (v12 : PH) =>
       (F_X6_takeSign v12 (59 : Int32)).bind fun h13 =>
       some (.inl ((s6.1 + (1 : Int32)), h13))) (fun k11 =>
       if z10 = 0 then
        (F_X6_isWord s6.2 1002).bind fun z14 =>
        if z14 = 0 then
         (F_X6_isWord s6.2 1003).bind fun z15 =>
         if z15 = 0 then
          (F_X6_isWord s6.2 1004).bind fun z16 =>
          if z16 = 0 then
           k11 ((F_X6_fail s6.2 (-2 : Int32)))
          else
           if ¬ (s6.2.1 1 9) = 0 then
            k11 ((F_X6_fail s6.2 (-2 : Int32)))
           else
            (F_X6_next (pu s6.2 1 9 (1 : Int32))).bind fun h17 =>
            (R_X6_readSum 8 h17 (0 : Int32)).bind fun h18 =>
            k11 h18
         else
          (F_X6_readDepot s6.2).bind fun h19 =>
          k11 h19
        else
         (F_X6_readBan s6.2).bind fun h20 =>
         k11 h20
       else
        (F_X6_readEdge s6.2).bind fun h21 =>
        k11 h21))
theorem Bc_S (s : Int32 × PH) : Bc s = if (s.2.1 1 4) ≤ s.1 ∨ ¬ (s.2.1 1 10) = 0 ∨ (s.2.1 1 7) = (258 : Int32) then (if ¬ (s.2.1 1 10) = 0 then some (.inr (((s.2.1 1 10), s.2))) else if (s.2.1 1 9) = 0 then some (.inr (((s.2.1 1 10), s.2))) else (F_X6_priceServices s.2).bind fun h9 => some (.inr (((h9.1 1 10), h9)))) else (cS s.2).bind fun h13 => some (.inl ((s.1 + (1 : Int32)), h13)) := by
  unfold Bc jn
  dsimp only
  by_cases z1 : (s.2.1 1 4) ≤ s.1
  · rw [if_pos z1, if_pos (show _ ∨ _ from Or.inl z1)]
  · rw [if_neg z1]
    by_cases z2 : ¬ (s.2.1 1 10) = 0
    · rw [if_pos z2, if_pos z2, if_pos (show _ ∨ _ from Or.inr (Or.inl z2))]
    · by_cases z3 : (s.2.1 1 7) = (258 : Int32)
      · rw [if_pos z3, if_pos (show (s.2.1 1 4) ≤ s.1 ∨ ¬ (s.2.1 1 10) = 0 ∨ (s.2.1 1 7) = (258 : Int32) from Or.inr (Or.inr z3)), if_neg z2, if_neg z2]
      · have z4 : ¬ ((s.2.1 1 4) ≤ s.1 ∨ ¬ (s.2.1 1 10) = 0 ∨ (s.2.1 1 7) = (258 : Int32)) := fun w => w.elim z1 (fun w => w.elim z2 z3)
        rw [if_neg z2, if_neg z3, if_neg z4, cS_M, Option.bind_assoc]
        exact str_K s.2 (fun v12 => (F_X6_takeSign v12 (59 : Int32)).bind fun h13 => some (Sum.inl ((s.1 + (1 : Int32)), h13) : (Int32 × PH) ⊕ (Int32 × PH)))
section MLP
variable {b : Nat → Nat} {n : Nat} {g r : PH}
theorem kd_258 {q : Nat} (hb : ∀ j, b j < 256) (h : q < n) : kd b n q ≠ 258 := by
  have := hb q
  unfold kd
  rw [if_pos h]
  split
  · omega
  · split <;> omega
end MLP
