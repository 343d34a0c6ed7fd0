/-! THE SETUP'S HEAD, both sides -/
theorem loop_run {σ τ : Type} {body : σ → Option (σ ⊕ τ)} (S : Nat → σ) : ∀ (N : Nat), (∀ k, k < N → body (S k) = some (.inl (S (k + 1)))) → loop body (S 0) = loop body (S N)
  | 0, _ => rfl
  | N + 1, h => by
    rw [loop_run S N (fun k hk => h k (by omega)), loop_eq, h N (by omega)]
    rfl
def zr (r : PH) (k : Nat) : PH := (fun i j => if i = 125 ∧ j < k then 0 else r.1 i j, r.2)
def net0 (a c : Nat) : NT := (fun i j => if i = 0 then (if j = 0 then a else if j = 1 then c else 0) else 0, fun _ => 0)
section HED
variable {b : Nat → Nat} {n : Nat} {g r : PH}
theorem zr_s {k : Nat} : pu (zr r k) 125 k 0 = zr r (k + 1) := by
  refine Prod.ext ?_ rfl
  funext i j
  show (pu (zr r k) 125 k 0).1 i j = _
  rw [pu_get]
  show (if i = 125 ∧ j = k then (0 : Int32) else if i = 125 ∧ j < k then 0 else r.1 i j) = if i = 125 ∧ j < k + 1 then 0 else r.1 i j
  by_cases z : i = 125 ∧ j = k
  · rw [if_pos z, if_pos ⟨z.1, by omega⟩]
  · rw [if_neg z]
    by_cases y : i = 125 ∧ j < k
    · rw [if_pos y, if_pos ⟨y.1, by omega⟩]
    · rw [if_neg y, if_neg (fun w => by
        by_cases q : j = k
        · exact z ⟨w.1, q⟩
        · exact y ⟨w.1, by omega⟩)]
theorem zr_o {k i : Nat} (h : i ≠ 125) : (zr r k).1 i = r.1 i := by
  funext j
  show (if i = 125 ∧ j < k then (0 : Int32) else r.1 i j) = _
  rw [if_neg (fun z => h z.1)]
theorem zr_in {k j : Nat} (h : j < k) : (zr r k).1 125 j = 0 := if_pos ⟨rfl, h⟩
theorem j_head (hn : n ≤ 700) (hb : ∀ j, b j < 256) (hg : ∀ j, j < n → g.1 2 j &&& (255 : Int32) = nI (b j)) (hr : ∀ j, j < n → r.1 123 j = nI (b j)) (r3 : r.1 122 3 = nI n) (r4 : r.1 122 4 = nI 0) (r5 : r.1 122 5 = 0) (r6 : r.1 122 6 = (-1 : Int32)) (r14 : r.1 122 14 = 0) (r15 : r.1 122 15 = 0) :
    ∃ g1 r1 o, (∀ {α : Type} (K : PH → Option α), ((F_X6_startOver g (nI n)).bind fun h1 => (F_X6_takeWord h1 1000).bind fun h2 => (F_X6_takeNumber h2 (2 : Int32) (8 : Int32)).bind fun z3 => (F_X6_takeNumber (pu z3.2 3 0 z3.1) (1 : Int32) (999 : Int32)).bind fun z4 => (F_X6_takeSign (pu z4.2 3 1 z4.1) (59 : Int32)).bind K) = K g1) ∧
      (∀ {α : Type} (K : PH → Option α), ((F_X8_takeWord (zr r 1556) 1000).bind fun z4 =>
     jn (fun (v6 : PH) =>
      (F_X8_number v6 (2 : Int32) (8 : Int32)).bind fun z7 =>
      (ast 1556 z7.2 125 (0 : Int32) z7.1).bind fun h8 =>
      (F_X8_number h8 (1 : Int32) (999 : Int32)).bind fun z9 =>
      (ast 1556 z9.2 125 (1 : Int32) z9.1).bind fun h10 =>
      (F_X8_expect h10 (59 : Int32)).bind K) (fun k5 =>
      if ¬ z4.1 = 0 then
       k5 z4.2
      else
       k5 ((F_X8_report z4.2 (-2 : Int32) (z4.2.1 122 4))))) = K r1) ∧
      Fr (fun a => a = 1 ∨ (3 ≤ a ∧ a ≤ 11)) g g1 ∧ g1.1 1 3 = nI 0 ∧ FZ (zr r 1556) r1 ∧ Jo b n g1 r1 o ∧ ∀ p, o = some p → ∃ N, NG g1 r1 N ∧ HG g1 r1 false p := by
  -- the class begins
  generalize hg0 : pu (pu (pu (pu (pu (pu (F_X0_clear (F_X2_clear g)) 1 3 (0 : Int32)) 1 4 (nI n)) 1 6 (0 : Int32)) 1 9 (0 : Int32)) 1 10 (0 : Int32)) 1 11 (-1 : Int32) = g0
  have ec : F_X0_clear (F_X2_clear g) = pu (pu (pu (pu (pu g 3 0 0) 3 1 0) 3 2 0) 3 3 0) 10 2 0 := rfl
  rw [ec] at hg0
  have f0 : Fr (fun a => a = 1 ∨ (3 ≤ a ∧ a ≤ 11)) g g0 := by
    rw [← hg0]
    exact ((((((((((Fr.pu (by omega)).trans (Fr.pu (by omega))).trans (Fr.pu (by omega))).trans (Fr.pu (by omega))).trans (Fr.pu (by omega))).trans (Fr.pu (by omega))).trans (Fr.pu (by omega))).trans (Fr.pu (by omega))).trans (Fr.pu (by omega))).trans (Fr.pu (by omega))).trans (Fr.pu (by omega))
  have c1 : g0.1 1 3 = 0 ∧ g0.1 1 4 = nI n ∧ g0.1 1 6 = nI 0 ∧ g0.1 1 9 = 0 ∧ g0.1 1 10 = 0 ∧ g0.1 1 11 = (-1 : Int32) := by
    rw [← hg0]
    refine ⟨?_, ?_, ?_, ?_, ?_, ?_⟩ <;> simp [pu_get] <;> rfl
  have c3 : g0.1 3 2 = 0 ∧ g0.1 3 3 = 0 ∧ g0.1 10 2 = 0 := by
    rw [← hg0]
    refine ⟨?_, ?_, ?_⟩ <;> simp [pu_get]
  obtain ⟨c13, c14, c16, c19, c110, c111⟩ := c1
  obtain ⟨c32, c33, c102⟩ := c3
  have cb0 : CB b n g0 := ⟨c14, fun j hj => by rw [(f0 2 (by omega)).1]; exact hg j hj⟩
  obtain ⟨g1, a1, a2, a3⟩ := c_next hn hb cb0 (Nat.zero_le n) c16
  have es : F_X6_startOver g (nI n) = some g1 := by
    unfold F_X6_startOver
    rw [ec, hg0, a1, Option.bind_some]
  clear hg0 ec
  have rb0 : RB b n (zr r 1556) := ⟨by rw [zr_o (by omega)]; exact r3, fun j hj => by rw [zr_o (by omega)]; exact hr j hj⟩
  have z5 : (zr r 1556).1 122 5 = 0 := by rw [zr_o (by omega)]; exact r5
  have J1 : JT b n g1 (zr r 1556) 0 := ⟨cb0.ft a2, rb0, a3, ⟨0, by rw [zr_o (by omega)]; exact r4, Nat.zero_le _, rfl⟩, by rw [a2.2 10 (by omega)]; exact c110, z5, by rw [a2.2 11 (by omega)]; exact c111, by rw [zr_o (by omega)]; exact r6⟩
  -- the word
  obtain ⟨g2, r2, o2, w1, w2, w3, w4, w5⟩ : ∃ g2 r2 o2, F_X6_takeWord g1 1000 = some g2 ∧ (∀ {α : Type} (K : PH → Option α), ((F_X8_takeWord (zr r 1556) 1000).bind fun z4 => if ¬ z4.1 = 0 then K z4.2 else K ((F_X8_report z4.2 (-2 : Int32) (z4.2.1 122 4)))) = K r2) ∧ FE g1 g2 ∧ FX (zr r 1556) r2 ∧ Jo b n g2 r2 o2 := by
    obtain ⟨ra, W⟩ := j_word (i := 0) hn hb (by omega) J1
    unfold F_X6_takeWord
    rcases W with ⟨x1, x2, x3, x4, x5⟩ | ⟨x1, x2, x3, x4, J2⟩
    · have r5' : ra.1 122 5 = 0 := by rw [x1.2.2 5 (by omega)]; exact z5
      obtain ⟨g', e, fe, J2⟩ := j_go hn hb J1 x1.FX x1.2.1 rfl r5' (x1.2.2 6 (by omega))
      rw [show F_X6_isWord g1 1000 = some 1 from x3, Option.bind_some, if_pos (show ¬ (1 : Int32) = 0 by decide), e, Option.bind_some, show F_X8_takeWord (zr r 1556) 1000 = some (1, ra) from x4]
      exact ⟨g', ra, some _, rfl, fun K => by rw [Option.bind_some]; exact if_pos (show ¬ (1 : Int32) = 0 by decide), fe, x1.FX, J2⟩
    · have Jf := j_fail (c := (-2 : Int32)) (by decide) J2 J2.2.1 J2.2.2.2.2.2.1
      obtain ⟨g', e, fe, J3⟩ := jb_next hn hb Jf
      rw [show F_X6_isWord g1 1000 = some 0 from x3, Option.bind_some, if_neg (fun z => z rfl), e, Option.bind_some, show F_X8_takeWord (zr r 1556) 1000 = some (0, ra) from x4]
      refine ⟨g', _, none, rfl, fun K => ?_, fail_FE.trans fe, x1.FX.trans (rep_FX (r := ra) (c := (-2 : Int32)) (a := nI (sk b n 0))), J3⟩
      rw [Option.bind_some]
      dsimp only
      rw [if_neg (fun z => z rfl), x1.2.1]
  -- nodes and room
  obtain ⟨v3, g3, w3', r3', o3, n1, n2, n3, n4, n5, n6⟩ := jo_number (lo := 2) (m := 9) (hi := (8 : Int32)) (hi' := (8 : Int32)) hn hb (by omega) w5 (fun _ => ⟨by omega, rfl, rfl⟩)
  have J3 : Jo b n (pu g3 3 0 v3) (pu r3' 125 0 w3') o3 := n5.fr (pu_o _ 3 _ _ 1 (by omega)).1 (pu_o _ 3 _ _ 2 (by omega)).1 (pu_o _ 125 _ _ 122 (by omega)).1 (pu_o _ 125 _ _ 123 (by omega)).1
  obtain ⟨v4, g4, w4', r4', o4, m1, m2, m3, m4, m5, m6⟩ := jo_number (lo := 1) (m := 1000) (hi := (999 : Int32)) (hi' := (999 : Int32)) hn hb (by omega) J3 (fun _ => ⟨by omega, rfl, rfl⟩)
  have J4 : Jo b n (pu g4 3 1 v4) (pu r4' 125 1 w4') o4 := m5.fr (pu_o _ 3 _ _ 1 (by omega)).1 (pu_o _ 3 _ _ 2 (by omega)).1 (pu_o _ 125 _ _ 122 (by omega)).1 (pu_o _ 125 _ _ 123 (by omega)).1
  obtain ⟨g5, r5', o5, s1, s2, s3, s4, s5, s6⟩ := jo_sign (c := 59) hn hb (by omega) rfl rfl J4
  have fA : Fr (fun a => a = 1 ∨ (3 ≤ a ∧ a ≤ 11)) g g5 := by
    have u : ∀ {h h' : PH}, FE h h' → Fr (fun a => a = 1 ∨ (3 ≤ a ∧ a ≤ 11)) h h' := fun f => f.1.mono (fun i hi => Or.inl hi)
    exact ((((((f0.trans (u a2.FE)).trans (u w3)).trans (u n3)).trans (Fr.pu (by omega))).trans (u m3)).trans (Fr.pu (by omega))).trans (u s3)
  have fR : FZ (zr r 1556) r5' := by
    have u : ∀ {h : PH} {j : Nat} {v : Int32}, FZ h (pu h 125 j v) := fun {h j v} => ⟨Fr.pu (S := fun a => a = 122 ∨ a = 125) (Or.inr rfl), fun i _ => by rw [(pu_o _ 125 _ _ 122 (by omega)).1]⟩
    exact ((((w4.FM.FZ.trans n4.FM.FZ).trans u).trans m4.FM.FZ).trans u).trans s4.FM.FZ
  have g13 : g5.1 1 3 = nI 0 := by
    rw [s3.2 3 (by omega), (pu_o _ 3 _ _ 1 (by omega)).1, m3.2 3 (by omega), (pu_o _ 3 _ _ 1 (by omega)).1, n3.2 3 (by omega), w3.2 3 (by omega), a2.2 3 (by omega), c13]
    rfl
  refine ⟨g5, r5', o5, fun K => ?_, fun K => ?_, fA, g13, fR, s5, fun p z => ?_⟩
  · rw [es, Option.bind_some, w1, Option.bind_some, show F_X6_takeNumber g2 (2 : Int32) (8 : Int32) = some (v3, g3) from n1, Option.bind_some, show F_X6_takeNumber (pu g3 3 0 v3) (1 : Int32) (999 : Int32) = some (v4, g4) from m1, Option.bind_some, show F_X6_takeSign (pu g4 3 1 v4) (59 : Int32) = some g5 from s1, Option.bind_some]
  · unfold jn
    rw [w2 (fun v6 => (F_X8_number v6 (2 : Int32) (8 : Int32)).bind fun z7 =>
      (ast 1556 z7.2 125 (0 : Int32) z7.1).bind fun h8 =>
      (F_X8_number h8 (1 : Int32) (999 : Int32)).bind fun z9 =>
      (ast 1556 z9.2 125 (1 : Int32) z9.1).bind fun h10 =>
      (F_X8_expect h10 (59 : Int32)).bind K)]
    have e0 : ast 1556 r3' 125 (0 : Int32) w3' = some (pu r3' 125 0 w3') := ast_in (a := 0) (by omega) (by omega)
    have e1 : ast 1556 r4' 125 (1 : Int32) w4' = some (pu r4' 125 1 w4') := ast_in (a := 1) (by omega) (by omega)
    rw [show F_X8_number r2 (2 : Int32) (8 : Int32) = some (w3', r3') from n2, Option.bind_some, e0, Option.bind_some, show F_X8_number (pu r3' 125 0 w3') (1 : Int32) (999 : Int32) = some (w4', r4') from m2, Option.bind_some, e1, Option.bind_some, show F_X8_expect (pu r4' 125 1 w4') (59 : Int32) = some r5' from s2, Option.bind_some]
  · obtain ⟨p4, t1, t2⟩ := s6 p z
    obtain ⟨p3, x4, t3, t4, t5, t6, t7, t8⟩ := m6 p4 t1
    obtain ⟨p2, x3, t9, t10, t11, t12, t13, t14⟩ := n6 p3 t3
    subst t4 t5 t10 t11
    have o3' : ∀ a, a ≠ 1 → a ≠ 3 → g5.1 a = g0.1 a := fun a h1 h2 => by
      rw [(s3.1 a h1).1, (pu_o _ 3 _ _ a h2).1, (m3.1 a h1).1, (pu_o _ 3 _ _ a h2).1, (n3.1 a h1).1, (w3.1 a h1).1, (a2.1 a h1).1]
    have net : ∀ j, g5.1 3 j = if j = 1 then nI x4 else if j = 0 then nI x3 else g0.1 3 j := fun j => by
      rw [(s3.1 3 (by omega)).1, pu_get, (m3.1 3 (by omega)).1, pu_get, (n3.1 3 (by omega)).1, (w3.1 3 (by omega)).1, (a2.1 3 (by omega)).1]
      by_cases y : j = 1
      · rw [if_pos ⟨rfl, y⟩, if_pos y]
      · rw [if_neg (fun q => y q.2), if_neg y]
        by_cases y0 : j = 0
        · rw [if_pos ⟨rfl, y0⟩, if_pos y0]
        · rw [if_neg (fun q => y0 q.2), if_neg y0]
    have row : ∀ j, j < 1556 → r5'.1 125 j = if j = 1 then nI x4 else if j = 0 then nI x3 else 0 := fun j hj => by
      rw [(s4.1 125 (by omega)).1, pu_get, (m4.1 125 (by omega)).1, pu_get, (n4.1 125 (by omega)).1, (w4.1 125 (by omega)).1, zr_in hj]
      by_cases y : j = 1
      · rw [if_pos ⟨rfl, y⟩, if_pos y]
      · rw [if_neg (fun q => y q.2), if_neg y]
        by_cases y0 : j = 0
        · rw [if_pos ⟨rfl, y0⟩, if_pos y0]
        · rw [if_neg (fun q => y0 q.2), if_neg y0]
    have r0 : ∀ j, j ≠ 0 → j ≠ 1 → j < 1556 → r5'.1 125 j = 0 := fun j h1 h2 h3 => by rw [row j h3, if_neg h2, if_neg h1]
    refine ⟨net0 x3 x4, ⟨⟨by rw [net, if_neg (by omega), if_pos rfl]; rfl, by rw [net, if_pos rfl]; rfl, by rw [net, if_neg (by omega), if_neg (by omega), c32]; rfl, by rw [net, if_neg (by omega), if_neg (by omega), c33]; rfl, fun a ha => absurd ha (Nat.not_lt_zero _), fun e he => absurd he (Nat.not_lt_zero _), fun d hd => absurd hd (Nat.not_lt_zero _)⟩, ⟨by rw [row 0 (by omega), if_neg (by omega), if_pos rfl]; rfl, by rw [row 1 (by omega), if_pos rfl]; rfl, r0 2 (by omega) (by omega) (by omega), r0 3 (by omega) (by omega) (by omega), fun a ha => absurd ha (Nat.not_lt_zero _), fun e he => absurd he (Nat.not_lt_zero _), fun d hd => absurd hd (Nat.not_lt_zero _)⟩, ⟨by show x3 ≤ 8; omega, by show x4 ≤ 999; omega, Nat.zero_le _, Nat.zero_le _, fun a ha => absurd ha (Nat.not_lt_zero _), fun e he => absurd he (Nat.not_lt_zero _), fun d hd => absurd hd (Nat.not_lt_zero _)⟩, fun x hx => absurd hx (Nat.not_lt_zero _), fun e v _ h2 h3 => r0 _ (by omega) (by omega) (by omega)⟩, ?_, ?_, r0 5 (by omega) (by omega) (by omega), r0 4 (by omega) (by omega) (by omega), ?_, [], ?_, fun i s hs => (by cases hs), r0 6 (by omega) (by omega) (by omega), trivial, fun s hs => (by cases hs), Nat.zero_le _, Nat.zero_le _, fun c d => ⟨[], rfl, rfl⟩⟩
    · rw [s3.2 9 (by omega), (pu_o _ 3 _ _ 1 (by omega)).1, m3.2 9 (by omega), (pu_o _ 3 _ _ 1 (by omega)).1, n3.2 9 (by omega), w3.2 9 (by omega), a2.2 9 (by omega), c19]
      rfl
    · rw [s4.2 15 (by omega), (pu_o _ 125 _ _ 122 (by omega)).1, m4.2 15 (by omega), (pu_o _ 125 _ _ 122 (by omega)).1, n4.2 15 (by omega), w4.2 15 (by omega), zr_o (by omega)]
      exact r15
    · rw [s4.2 14 (by omega), (pu_o _ 125 _ _ 122 (by omega)).1, m4.2 14 (by omega), (pu_o _ 125 _ _ 122 (by omega)).1, n4.2 14 (by omega), w4.2 14 (by omega), zr_o (by omega)]
      exact r14
    · rw [o3' 10 (by omega) (by omega), c102]
      rfl
end HED
