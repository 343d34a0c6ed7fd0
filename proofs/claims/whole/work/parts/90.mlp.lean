/-! THE READERS' MAIN LOOPS -/
noncomputable def cM (h : PH) : Option PH := (F_X6_isWord h 1001).bind fun z10 =>
       if z10 = 0 then
        (F_X6_isWord h 1002).bind fun z14 =>
        if z14 = 0 then
         (F_X6_isWord h 1003).bind fun z15 =>
         if z15 = 0 then
          (F_X6_isWord h 1004).bind fun z16 =>
          if z16 = 0 then
           some ((F_X6_fail h (-2 : Int32)))
          else
           if ¬ (h.1 1 9) = 0 then
            some ((F_X6_fail h (-2 : Int32)))
           else
            (F_X6_next (pu h 1 9 (1 : Int32))).bind fun h17 => R_X6_readSum 8 h17 (0 : Int32)
         else
          F_X6_readDepot h
        else
         F_X6_readBan h
       else
        F_X6_readEdge h
theorem str_K {α : Type} (h : PH) (K : PH → Option α) : ((F_X6_isWord h 1001).bind fun z10 =>
       if z10 = 0 then
        (F_X6_isWord h 1002).bind fun z14 =>
        if z14 = 0 then
         (F_X6_isWord h 1003).bind fun z15 =>
         if z15 = 0 then
          (F_X6_isWord h 1004).bind fun z16 =>
          if z16 = 0 then
           K ((F_X6_fail h (-2 : Int32)))
          else
           if ¬ (h.1 1 9) = 0 then
            K ((F_X6_fail h (-2 : Int32)))
           else
            (F_X6_next (pu h 1 9 (1 : Int32))).bind fun h17 =>
            (R_X6_readSum 8 h17 (0 : Int32)).bind fun h18 =>
            K h18
         else
          (F_X6_readDepot h).bind fun h19 =>
          K h19
        else
         (F_X6_readBan h).bind fun h20 =>
         K h20
       else
        (F_X6_readEdge h).bind fun h21 =>
        K h21) = (cM h).bind K := by
  unfold cM
  cases F_X6_isWord h 1001 with
  | none => rfl
  | some z10 =>
    rw [Option.bind_some, Option.bind_some]
    split
    · cases F_X6_isWord h 1002 with
      | none => rfl
      | some z14 =>
        rw [Option.bind_some, Option.bind_some]
        split
        · cases F_X6_isWord h 1003 with
          | none => rfl
          | some z15 =>
            rw [Option.bind_some, Option.bind_some]
            split
            · cases F_X6_isWord h 1004 with
              | none => rfl
              | some z16 =>
                rw [Option.bind_some, Option.bind_some]
                split
                · rfl
                · split
                  · rfl
                  · rw [Option.bind_assoc]
            · rfl
        · rfl
    · rfl
theorem cS_M (h : PH) : cS h = (cM h).bind fun v => F_X6_takeSign v (59 : Int32) := str_K h (fun v => F_X6_takeSign v (59 : Int32))
/-- the class's loop -/
noncomputable def Bc (s6 : Int32 × PH) : Option ((Int32 × PH) ⊕ (Int32 × PH)) :=
  jn (fun (v8 : Unit) =>
   if ¬ (s6.2.1 1 10) = 0 then
    some (.inr (((s6.2.1 1 10), s6.2)))
   else
    if (s6.2.1 1 9) = 0 then
     some (.inr (((s6.2.1 1 10), s6.2)))
    else
     (F_X6_priceServices s6.2).bind fun h9 =>
     some (.inr (((h9.1 1 10), h9)))) (fun k7 =>
   if (s6.2.1 1 4) ≤ s6.1 then
    k7 ()
   else
    if ¬ (s6.2.1 1 10) = 0 then
     k7 ()
    else
     if (s6.2.1 1 7) = (258 : Int32) then
      k7 ()
     else
      (F_X6_isWord s6.2 1001).bind fun z10 =>
      jn (fun (v12 : PH) =>
       (F_X6_takeSign v12 (59 : Int32)).bind fun h13 =>
       some (.inl ((s6.1 + (1 : Int32)), h13))) (fun k11 =>
       if z10 = 0 then
        (F_X6_isWord s6.2 1002).bind fun z14 =>
        if z14 = 0 then
         (F_X6_isWord s6.2 1003).bind fun z15 =>
         if z15 = 0 then
          (F_X6_isWord s6.2 1004).bind fun z16 =>
          if z16 = 0 then
           k11 ((F_X6_fail s6.2 (-2 : Int32)))
          else
           if ¬ (s6.2.1 1 9) = 0 then
            k11 ((F_X6_fail s6.2 (-2 : Int32)))
           else
            (F_X6_next (pu s6.2 1 9 (1 : Int32))).bind fun h17 =>
            (R_X6_readSum 8 h17 (0 : Int32)).bind fun h18 =>
            k11 h18
         else
          (F_X6_readDepot s6.2).bind fun h19 =>
          k11 h19
        else
         (F_X6_readBan s6.2).bind fun h20 =>
         k11 h20
       else
        (F_X6_readEdge s6.2).bind fun h21 =>
        k11 h21))
theorem Bc_S (s : Int32 × PH) : Bc s = if (s.2.1 1 4) ≤ s.1 ∨ ¬ (s.2.1 1 10) = 0 ∨ (s.2.1 1 7) = (258 : Int32) then (if ¬ (s.2.1 1 10) = 0 then some (.inr (((s.2.1 1 10), s.2))) else if (s.2.1 1 9) = 0 then some (.inr (((s.2.1 1 10), s.2))) else (F_X6_priceServices s.2).bind fun h9 => some (.inr (((h9.1 1 10), h9)))) else (cS s.2).bind fun h13 => some (.inl ((s.1 + (1 : Int32)), h13)) := by
  unfold Bc jn
  dsimp only
  by_cases z1 : (s.2.1 1 4) ≤ s.1
  · rw [if_pos z1, if_pos (show _ ∨ _ from Or.inl z1)]
  · rw [if_neg z1]
    by_cases z2 : ¬ (s.2.1 1 10) = 0
    · rw [if_pos z2, if_pos z2, if_pos (show _ ∨ _ from Or.inr (Or.inl z2))]
    · by_cases z3 : (s.2.1 1 7) = (258 : Int32)
      · rw [if_pos z3, if_pos (show (s.2.1 1 4) ≤ s.1 ∨ ¬ (s.2.1 1 10) = 0 ∨ (s.2.1 1 7) = (258 : Int32) from Or.inr (Or.inr z3)), if_neg z2, if_neg z2]
      · have z4 : ¬ ((s.2.1 1 4) ≤ s.1 ∨ ¬ (s.2.1 1 10) = 0 ∨ (s.2.1 1 7) = (258 : Int32)) := fun w => w.elim z1 (fun w => w.elim z2 z3)
        rw [if_neg z2, if_neg z3, if_neg z4, cS_M, Option.bind_assoc]
        exact str_K s.2 (fun v12 => (F_X6_takeSign v12 (59 : Int32)).bind fun h13 => some (Sum.inl ((s.1 + (1 : Int32)), h13) : (Int32 × PH) ⊕ (Int32 × PH)))
/-- the reference's loop; X is what comes behind it -/
noncomputable def Bq {α : Type} (X : PH → Option (PH ⊕ α)) (s12 : PH) : Option (PH ⊕ α) :=
  if (F_X8_isGood s12) = 0 then X s12 else (F_X8_next s12).bind fun z19 => if z19.1 = (-1 : Int32) then X z19.2 else (F_X8_statement z19.2).bind fun h20 => some (.inl (h20))
section MLP
variable {b : Nat → Nat} {n : Nat} {g r : PH}
theorem kd_258 {q : Nat} (hb : ∀ j, b j < 256) (h : q < n) : kd b n q ≠ 258 := by
  have := hb q
  unfold kd
  rw [if_pos h]
  split
  · omega
  · split <;> omega
theorem main_loop {α : Type} {X : PH → Option (PH ⊕ α)} {o : Option Nat} (hn : n ≤ 700) (hb : ∀ j, b j < 256) (J : Jo b n g r o) (hh : ∀ p, o = some p → ∃ N, NG g r N ∧ HG g r false p) :
    ∃ s1 s2, loop Bc ((0 : Int32), g) = loop Bc s1 ∧ loop (Bq X) r = loop (Bq X) s2 ∧ FS g s1.2 ∧ FZ r s2 ∧ ((∃ p N hs, JT b n s1.2 s2 p ∧ NG s1.2 s2 N ∧ HG s1.2 s2 hs p ∧ sk b n p = n) ∨ JB b n s1.2 s2) := by
  obtain ⟨k0, h0⟩ : ∃ k0 : Nat, (∃ i p N hs, (((0 : Int32), g) : Int32 × PH).1 = nI i ∧ i ≤ p ∧ FS g g ∧ FZ r r ∧ JT b n g r p ∧ NG g r N ∧ HG g r hs p ∧ k0 = n + 1 - p) ∨ (FS g g ∧ FZ r r ∧ JB b n g r ∧ k0 = 0) := by
    cases o with
    | none => exact ⟨0, Or.inr ⟨FS.refl g, FZ.refl r, J, rfl⟩⟩
    | some p =>
      obtain ⟨N, h1, h2⟩ := hh p rfl
      exact ⟨_, Or.inl ⟨0, p, N, false, rfl, Nat.zero_le _, FS.refl g, FZ.refl r, J, h1, h2, rfl⟩⟩
  obtain ⟨s1, s2, k1, k2, k3⟩ := loop_pair2 (B1 := Bc) (B2 := Bq X) (fun k (s1 : Int32 × PH) (s2 : PH) => (∃ i p N hs, s1.1 = nI i ∧ i ≤ p ∧ FS g s1.2 ∧ FZ r s2 ∧ JT b n s1.2 s2 p ∧ NG s1.2 s2 N ∧ HG s1.2 s2 hs p ∧ k = n + 1 - p) ∨ (FS g s1.2 ∧ FZ r s2 ∧ JB b n s1.2 s2 ∧ k = 0))
    (fun s1 s2 => FS g s1.2 ∧ FZ r s2 ∧ ((∃ p N hs, JT b n s1.2 s2 p ∧ NG s1.2 s2 N ∧ HG s1.2 s2 hs p ∧ sk b n p = n) ∨ JB b n s1.2 s2)) (by
      intro k s1 s2 hR
      rcases hR with ⟨i, p, N, hs, e1, e2, e3, e4, e5, e6, e7, e8⟩ | ⟨e3, e4, e5, e6⟩
      · have hpn := e5.2.2.1.1
        have hle := sk_le (b := b) hpn
        have hge := sk_ge (b := b) (n := n) p
        rcases Nat.lt_or_ge (sk b n p) n with z | z
        · right
          obtain ⟨q, q1, q2, q3⟩ := e5.2.2.2.1
          obtain ⟨ra, e0, f0⟩ := r_next hn hb e5.2.1 q1 q2
          rw [q3] at e0 f0
          have J0 : JT b n s1.2 ra p := ⟨e5.1, e5.2.1.fx f0.FX, e5.2.2.1, ⟨_, f0.2.1, sk_le hpn, sk_id _⟩, e5.2.2.2.2.1, by rw [f0.2.2 5 (by omega)]; exact e5.2.2.2.2.2.1, e5.2.2.2.2.2.2.1, by rw [f0.2.2 6 (by omega)]; exact e5.2.2.2.2.2.2.2⟩
          obtain ⟨g', r', o', a1, a2, a3, a4, a5, a6⟩ := j_stmt hn hb J0 (e6.fe (FE.refl _) f0.FX) (e7.net (Nat.le_refl _) (FN.refl _) f0.FX.FM) z
          have hbz : ¬ bz b n (sk b n p) = (-1 : Int32) := by
            unfold bz
            rw [if_pos z]
            exact eA_ne (by have := hb (sk b n p); omega)
          have c1 : Bc s1 = some (.inl (s1.1 + (1 : Int32), g')) := by
            rw [Bc_S, if_neg, a1, Option.bind_some]
            rintro (w | w | w)
            · rw [e1, e5.1.1] at w
              exact nI_ge (by omega) (by omega) w
            · exact w e5.2.2.2.2.1
            · rw [e5.2.2.1.2.2.2.1] at w
              exact kd_258 hb z ((nI_eq (b := 258) (by have := kd_lt (n := n) (q := sk b n p) hb; omega) (by omega)).mp w)
          have c2 : Bq X s2 = some (.inl r') := by
            unfold Bq
            rw [good_0 e5.2.2.2.2.2.1, if_neg (show ¬ (1 : Int32) = 0 by decide), e0, Option.bind_some]
            dsimp only
            rw [if_neg hbz, a2, Option.bind_some]
          have fs := e3.trans a3
          have fz := e4.trans (f0.FX.FM.FZ.trans a4)
          cases o' with
          | none => exact ⟨0, _, _, by omega, c1, c2, Or.inr ⟨fs, fz, a5, rfl⟩⟩
          | some p' =>
            obtain ⟨t1, N', hs', t2, t3⟩ := a6 p' rfl
            have a5 : JT b n g' r' p' := a5
            have := a5.2.2.1.1
            exact ⟨n + 1 - p', _, _, by omega, c1, c2, Or.inl ⟨i + 1, p', N', hs', by rw [e1]; exact nI_1 i, by omega, fs, fz, a5, t2, t3, rfl⟩⟩
        · exact Or.inl ⟨e3, e4, Or.inl ⟨p, N, hs, e5, e6, e7, by omega⟩⟩
      · exact Or.inl ⟨e3, e4, Or.inr e5⟩) k0 ((0 : Int32), g) r h0
  exact ⟨s1, s2, k1, k2, k3⟩
end MLP
