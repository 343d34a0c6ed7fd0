/-! the edge's statement, cut in pieces -/
noncomputable def eC3 (a1 a2 : Int32) (g : PH) : Option PH := (F_X6_takeNumber g (1 : Int32) (99 : Int32)).bind fun z8 => (F_X6_takeNumber z8.2 (1 : Int32) (99 : Int32)).bind fun z9 => (F_X6_takeNumber z9.2 (0 : Int32) (99 : Int32)).bind fun z10 => if ¬ (z10.2.1 1 10) = 0 then some (z10.2) else some ((F_X2_addEdge z10.2 a1 a2 z8.1 z9.1 z10.1))
noncomputable def eR3 (a1 a2 : Int32) (r : PH) : Option PH := (F_X8_number r (1 : Int32) (99 : Int32)).bind fun z10 =>
   (F_X8_number z10.2 (1 : Int32) (99 : Int32)).bind fun z11 =>
   (F_X8_number z11.2 (0 : Int32) (99 : Int32)).bind fun z12 =>
   if ¬ (F_X8_isGood z12.2) = 0 then
    (ald 1556 z12.2 125 (2 : Int32)).bind fun z13 =>
    (ast 1556 z12.2 125 (F_X8_edge z12.2 z13) a1).bind fun h14 =>
    (ast 1556 h14 125 ((F_X8_edge z12.2 z13) + (1 : Int32)) a2).bind fun h15 =>
    (ast 1556 h15 125 ((F_X8_edge z12.2 z13) + (2 : Int32)) z10.1).bind fun h16 =>
    (ast 1556 h16 125 (((F_X8_edge z12.2 z13) + (2 : Int32)) + (1 : Int32)) z11.1).bind fun h17 =>
    (ast 1556 h17 125 ((F_X8_edge z12.2 z13) + (4 : Int32)) z12.1).bind fun h18 =>
    (ald 1556 h18 125 (2 : Int32)).bind fun z19 =>
    (ast 1556 h18 125 (2 : Int32) (z19 + (1 : Int32))).bind fun h20 =>
    some (h20)
   else
    some (z12.2)
noncomputable def eCC (v : Int32) (g : PH) : Option PH := (F_X6_takeNumber g (0 : Int32) ((g.1 3 0) - (1 : Int32))).bind fun z7 => eC3 v z7.1 z7.2
noncomputable def eC2 (v : Int32) (g : PH) : Option PH := if ¬ (g.1 1 7) = (256 : Int32) then eCC v g else if ¬ (g.1 1 8) = v then eCC v g else eCC v (F_X6_fail g (-3 : Int32))
noncomputable def eR2 (w : Int32) (r : PH) : Option PH := (ald 1556 r 125 (0 : Int32)).bind fun z6 => (F_X8_number r (0 : Int32) (z6 - (1 : Int32))).bind fun z7 => if ¬ w = z7.1 then eR3 w z7.1 z7.2 else eR3 w z7.1 (F_X8_report z7.2 (-3 : Int32) (z7.2.1 122 13))
noncomputable def eC1 (g : PH) : Option PH := (F_X6_takeNumber g (0 : Int32) ((g.1 3 0) - (1 : Int32))).bind fun z4 => eC2 z4.1 z4.2
noncomputable def eR1 (r : PH) : Option PH := (ald 1556 r 125 (0 : Int32)).bind fun z4 => (F_X8_number r (0 : Int32) (z4 - (1 : Int32))).bind fun z5 => eR2 z5.1 z5.2
theorem eC0 (g : PH) : F_X6_readEdge g = if (g.1 3 2) < (14 : Int32) then (F_X6_next g).bind eC1 else (F_X6_next (F_X6_fail g (-4 : Int32))).bind eC1 := rfl
theorem eR0 (r : PH) (p0 : Int32) : F_X8_readEdge r p0 = (ald 1556 r 125 (2 : Int32)).bind fun z1 => if ¬ z1 = (14 : Int32) then eR1 r else eR1 (F_X8_report r (-4 : Int32) p0) := rfl
section EST
variable {b : Nat → Nat} {n : Nat} {g r : PH} {N : NT}
theorem Jo.fr {o : Option Nat} {g' r' : PH} (J : Jo b n g r o) (e1 : g'.1 1 = g.1 1) (e2 : g'.1 2 = g.1 2) (e3 : r'.1 122 = r.1 122) (e4 : r'.1 123 = r.1 123) : Jo b n g' r' o := by
  cases o with
  | none => exact JB.fr J e1 e2 e3 e4
  | some p => exact JT.fr J e1 e2 e3 e4
theorem edge3 {o : Option Nat} {a1 a2 c1 c2 : Int32} (hn : n ≤ 700) (hb : ∀ j, b j < 256) (J : Jo b n g r o) (hh : ∀ p, o = some p → NG g r N ∧ wE N < 14 ∧ ∃ u v, u < wN N ∧ v < wN N ∧ u ≠ v ∧ a1 = nI u ∧ a2 = nI v ∧ c1 = nI u ∧ c2 = nI v) :
    ∃ g' r' o', eC3 a1 a2 g = some g' ∧ eR3 c1 c2 r = some r' ∧ FN g g' ∧ FM r r' ∧ Jo b n g' r' o' ∧ ∀ p', o' = some p' → ∃ p N', o = some p ∧ p < p' ∧ NG g' r' N' := by
  obtain ⟨v1, g1, w1, r1, o1, x1, y1, f1, q1, J1, s1⟩ := jo_number (lo := 1) (m := 100) (hi := (99 : Int32)) (hi' := (99 : Int32)) hn hb (by omega) J (fun _ => ⟨by omega, rfl, rfl⟩)
  obtain ⟨v2, g2, w2, r2, o2, x2, y2, f2, q2, J2, s2⟩ := jo_number (lo := 1) (m := 100) (hi := (99 : Int32)) (hi' := (99 : Int32)) hn hb (by omega) J1 (fun _ => ⟨by omega, rfl, rfl⟩)
  obtain ⟨v3, g3, w3, r3, o3, x3, y3, f3, q3, J3, s3⟩ := jo_number (lo := 0) (m := 100) (hi := (99 : Int32)) (hi' := (99 : Int32)) hn hb (by omega) J2 (fun _ => ⟨by omega, rfl, rfl⟩)
  have fe : FE g g3 := (f1.trans f2).trans f3
  have fx : FX r r3 := (q1.trans q2).trans q3
  unfold eC3 eR3
  rw [show F_X6_takeNumber g (1 : Int32) (99 : Int32) = some (v1, g1) from x1, Option.bind_some, show F_X6_takeNumber g1 (1 : Int32) (99 : Int32) = some (v2, g2) from x2, Option.bind_some, show F_X6_takeNumber g2 (0 : Int32) (99 : Int32) = some (v3, g3) from x3, Option.bind_some, show F_X8_number r (1 : Int32) (99 : Int32) = some (w1, r1) from y1, Option.bind_some, show F_X8_number r1 (1 : Int32) (99 : Int32) = some (w2, r2) from y2, Option.bind_some, show F_X8_number r2 (0 : Int32) (99 : Int32) = some (w3, r3) from y3, Option.bind_some]
  dsimp only
  cases o3 with
  | none =>
    have J3 : JB b n g3 r3 := J3
    rw [if_pos J3.2.2.2.1, good_1 (jb_r5 J3), if_neg (fun z => z rfl)]
    exact ⟨g3, r3, none, rfl, rfl, fe.FN, fx.FM, J3, fun p' z => by cases z⟩
  | some p3 =>
    have J3' : JT b n g3 r3 p3 := J3
    obtain ⟨p2, k3, t1, t2, t3, t4, t5, t6⟩ := s3 p3 rfl
    obtain ⟨p1, k2, t7, t8, t9, t10, t11, t12⟩ := s2 p2 t1
    obtain ⟨p0, k1, t13, t14, t15, t16, t17, t18⟩ := s1 p1 t7
    obtain ⟨ng, hE, u, v, hu, hv, huv, rfl, rfl, rfl, rfl⟩ := hh p0 t13
    subst t2 t3 t8 t9 t14 t15
    have ng3 := ng.fe fe fx
    obtain ⟨g4, d1, d2, d3⟩ := c_addE (u := u) (v := v) (c1 := k1) (c2 := k2) (dm := k3) ng3.1 hE
    obtain ⟨r4, e1, e2, e3, e4, e5⟩ := r_addE (u := u) (v := v) (c1 := k1) (c2 := k2) (dm := k3) ng3 hE hu hv
    rw [if_neg (fun z => z J3'.2.2.2.2.1), good_0 J3'.2.2.2.2.2.1, if_pos (show ¬ (1 : Int32) = 0 by decide), d1, e1]
    refine ⟨g4, r4, some p3, rfl, rfl, fe.FN.trans ⟨d2.mono (fun i hi => Or.inr hi), fun j _ => by rw [(d2 1 (by omega)).1]⟩, fx.FM.trans ⟨e2.mono (fun i hi => Or.inr hi), fun j _ => by rw [(e2 122 (by omega)).1], e3⟩, Jo.fr J3 (d2 1 (by omega)).1 (d2 2 (by omega)).1 (e2 122 (by omega)).1 (e2 123 (by omega)).1, fun p' z => ?_⟩
    cases z
    refine ⟨p0, _, t13, by omega, d3, e4, addE_WN ng.2.2.1 hE hu hv huv (by omega) (by omega) (by omega), fun x hx => ?_, e5⟩
    rw [addE_E] at hx
    rw [addE_S, addE_C]
    split
    · rfl
    · split
      · rfl
      · exact ng.2.2.2.1 x (by omega)
theorem edge2 {o : Option Nat} {v w : Int32} (hn : n ≤ 700) (hb : ∀ j, b j < 256) (J : Jo b n g r o) (hh : ∀ p, o = some p → NG g r N ∧ wE N < 14 ∧ ∃ y, y < wN N ∧ v = nI y ∧ w = nI y) :
    ∃ g' r' o', eC2 v g = some g' ∧ eR2 w r = some r' ∧ FN g g' ∧ FM r r' ∧ Jo b n g' r' o' ∧ ∀ p', o' = some p' → ∃ p N', o = some p ∧ p < p' ∧ NG g' r' N' := by
  have ea : ald 1556 r 125 (0 : Int32) = some (r.1 125 0) := ald_in (a := 0) (by omega) (by omega)
  cases o with
  | none =>
    have JJ : JB b n g r := J
    obtain ⟨v', g3, x1, f1, J3⟩ := jb_number (lo := (0 : Int32)) (hi := g.1 3 0 - (1 : Int32)) hn hb JJ
    obtain ⟨g4, r4, o4, d1, d2, d3, d4, d5, d6⟩ := edge3 (N := N) (a1 := v) (a2 := v') (c1 := w) (c2 := 0) (o := none) hn hb J3 (fun p z => by cases z)
    have ec : eCC v g = some g4 := by
      unfold eCC
      rw [x1, Option.bind_some]
      exact d1
    unfold eC2 eR2
    rw [fail_1 JJ.2.2.2.1, ec, ea, Option.bind_some, jb_rnum JJ, Option.bind_some]
    dsimp only
    rw [rep_1 (jb_r5 JJ), d2]
    refine ⟨g4, r4, o4, ?_, ?_, f1.FN.trans d3, d4, d5, fun p' z => ?_⟩
    · split
      · rfl
      · split <;> rfl
    · split <;> rfl
    · obtain ⟨p, N', z1, -⟩ := d6 p' z
      cases z1
  | some p =>
    have JJ : JT b n g r p := J
    obtain ⟨ng, hE, y, hy, rfl, rfl⟩ := hh p rfl
    have hn8 := ng.2.2.1.1
    have e3 : g.1 3 0 = nI (wN N) := ng.1.1
    have e4 : r.1 125 0 = nI (wN N) := ng.2.1.1
    obtain ⟨v', g3, w', r3, x1, y1, f1, q1, res⟩ := j_number (lo := 0) (m := wN N) hn hb (by omega) (by omega) JJ
    unfold eC2 eR2
    rw [ea, Option.bind_some, e4, show F_X8_number r (0 : Int32) (nI (wN N) - (1 : Int32)) = some (w', r3) from y1, Option.bind_some]
    dsimp only
    have cc : ∀ w2 r4, (∃ g4 r5 o4, eC3 (nI y) v' g3 = some g4 ∧ eR3 (nI y) w2 r4 = some r5 ∧ FN g3 g4 ∧ FM r4 r5 ∧ Jo b n g4 r5 o4 ∧ ∀ p', o4 = some p' → ∃ p2 N', (p < p2) ∧ p2 < p' ∧ NG g4 r5 N') → ∃ g4 r5 o4, eCC (nI y) g = some g4 ∧ eR3 (nI y) w2 r4 = some r5 ∧ FN g g4 ∧ FM r4 r5 ∧ Jo b n g4 r5 o4 ∧ ∀ p', o4 = some p' → ∃ p2 N', (p < p2) ∧ p2 < p' ∧ NG g4 r5 N' := by
      intro w2 r4 ⟨g4, r5, o4, z1, z2, z3, z4, z5, z6⟩
      refine ⟨g4, r5, o4, ?_, z2, f1.FN.trans z3, z4, z5, z6⟩
      unfold eCC
      rw [e3, show F_X6_takeNumber g (0 : Int32) (nI (wN N) - (1 : Int32)) = some (v', g3) from x1, Option.bind_some]
      exact z1
    rcases res with ⟨x, rfl, rfl, t1, t2, J3, t4, t5, t6, t7⟩ | ⟨J3, no⟩
    · rw [t6, t7, if_neg (show ¬ ¬ nI 256 = (256 : Int32) from fun z => z rfl)]
      by_cases z : x = y
      · subst z
        rw [if_neg (fun z => z rfl), if_neg (fun z => z rfl), t5]
        have Jf := j_fail (c := (-3 : Int32)) (by decide) JJ J3.2.1 J3.2.2.2.2.2.1
        obtain ⟨v5, g5, m1, m2, m3⟩ := jb_number (lo := (0 : Int32)) (hi := (F_X6_fail g (-3 : Int32)).1 3 0 - (1 : Int32)) hn hb Jf
        obtain ⟨g4, r4, o4, d1, d2, d3, d4, d5, d6⟩ := edge3 (N := N) (a1 := nI x) (a2 := v5) (c1 := nI x) (c2 := nI x) (o := none) hn hb m3 (fun p z => by cases z)
        refine ⟨g4, r4, o4, ?_, d2, (fail_FE.FN.trans m2.FN).trans d3, (q1.FM.trans rep_FX.FM).trans d4, d5, fun p' z => ?_⟩
        · unfold eCC
          rw [m1, Option.bind_some]
          exact d1
        · obtain ⟨p, N', z1, -⟩ := d6 p' z
          cases z1
      · rw [if_pos (show ¬ nI x = nI y from fun w => z ((nI_eq (by omega) (by omega)).mp w)), if_pos (show ¬ nI y = nI x from fun w => z ((nI_eq (by omega) (by omega)).mp w).symm)]
        obtain ⟨g4, r4, o4, d1, d2, d3, d4, d5, d6⟩ := edge3 (N := N) (a1 := nI y) (a2 := nI x) (c1 := nI y) (c2 := nI x) (o := some _) hn hb J3 (fun p9 z9 => ⟨ng.fe f1 q1, hE, y, x, hy, t2, fun w => z w.symm, rfl, rfl, rfl, rfl⟩)
        obtain ⟨g6, r6, o6, u1, u2, u3, u4, u5, u6⟩ := cc (nI x) r3 ⟨g4, r4, o4, d1, d2, d3, d4, d5, fun p' z => by
          obtain ⟨p2, N', z1, z2, z3⟩ := d6 p' z
          cases z1
          exact ⟨_, N', t4, z2, z3⟩⟩
        exact ⟨g6, r6, o6, u1, u2, u3, q1.FM.trans u4, u5, fun p' z => by
          obtain ⟨p2, N', z1, z2, z3⟩ := u6 p' z
          exact ⟨p, N', rfl, by omega, z3⟩⟩
    · have J3 : JB b n g3 r3 := J3
      obtain ⟨g4, r4, o4, d1, d2, d3, d4, d5, d6⟩ := edge3 (N := N) (a1 := nI y) (a2 := v') (c1 := nI y) (c2 := w') (o := none) hn hb J3 (fun p z => by cases z)
      obtain ⟨g6, r6, o6, u1, u2, u3, u4, u5, u6⟩ := cc w' r3 ⟨g4, r4, o4, d1, d2, d3, d4, d5, fun p' z => by
        obtain ⟨p2, N', z1, -⟩ := d6 p' z
        cases z1⟩
      rw [rep_1 (jb_r5 J3), u1, u2]
      refine ⟨g6, r6, o6, ?_, ?_, u3, q1.FM.trans u4, u5, fun p' z => ?_⟩
      · have nn := no y (Nat.zero_le _) hy
        by_cases z1 : g.1 1 7 = (256 : Int32)
        · rw [if_neg (fun z => z z1), if_pos (fun z2 => nn ⟨z1, z2⟩)]
        · rw [if_pos z1]
      · split <;> rfl
      · obtain ⟨p2, N', z1, z2, z3⟩ := u6 p' z
        exact ⟨p, N', rfl, by omega, z3⟩
theorem edge1 {o : Option Nat} (hn : n ≤ 700) (hb : ∀ j, b j < 256) (J : Jo b n g r o) (hh : ∀ p, o = some p → NG g r N ∧ wE N < 14) :
    ∃ g' r' o', eC1 g = some g' ∧ eR1 r = some r' ∧ FN g g' ∧ FM r r' ∧ Jo b n g' r' o' ∧ ∀ p', o' = some p' → ∃ p N', o = some p ∧ p < p' ∧ NG g' r' N' := by
  have ea : ald 1556 r 125 (0 : Int32) = some (r.1 125 0) := ald_in (a := 0) (by omega) (by omega)
  obtain ⟨v, g1, w, r1, o1, x1, y1, f1, q1, J1, s1⟩ := jo_number (lo := 0) (m := wN N) (hi := g.1 3 0 - (1 : Int32)) (hi' := r.1 125 0 - (1 : Int32)) hn hb (by omega) J (fun z => by
    cases o with
    | none => exact absurd rfl z
    | some p =>
      obtain ⟨ng, -⟩ := hh p rfl
      have := ng.2.2.1.1
      exact ⟨by omega, by rw [ng.1.1], by rw [ng.2.1.1]⟩)
  obtain ⟨g2, r2, o2, d1, d2, d3, d4, d5, d6⟩ := edge2 (N := N) hn hb J1 (v := v) (w := w) (fun p z => by
    obtain ⟨p0, x, t1, t2, t3, t4, t5, t6⟩ := s1 p z
    obtain ⟨ng, hE⟩ := hh p0 t1
    exact ⟨ng.fe f1 q1, hE, x, t5, t2, t3⟩)
  unfold eC1 eR1
  rw [show F_X6_takeNumber g (0 : Int32) (g.1 3 0 - (1 : Int32)) = some (v, g1) from x1, Option.bind_some, ea, Option.bind_some, show F_X8_number r (0 : Int32) (r.1 125 0 - (1 : Int32)) = some (w, r1) from y1, Option.bind_some]
  refine ⟨g2, r2, o2, d1, d2, f1.FN.trans d3, q1.FM.trans d4, d5, fun p' z => ?_⟩
  obtain ⟨p1, N', z1, z2, z3⟩ := d6 p' z
  obtain ⟨p0, x, t1, t2, t3, t4, t5, t6⟩ := s1 p1 z1
  exact ⟨p0, N', t1, by omega, z3⟩
/-- a statement's first word, with the check of a limit -/
theorem j_start {p : Nat} {r1 : PH} (hn : n ≤ 700) (hb : ∀ j, b j < 256) (J : JT b n g r p) (f : FQ r r1 (te b n (sk b n p))) (lt : sk b n p < n) (full : Bool) : ∃ g1 r2 o, F_X6_next (if full then F_X6_fail g (-4 : Int32) else g) = some g1 ∧ (if full then F_X8_report r1 (-4 : Int32) (nI (sk b n p)) else r1) = r2 ∧ FE g g1 ∧ FX r r2 ∧ Jo b n g1 r2 o ∧ ∀ p1, o = some p1 → full = false ∧ p < p1 := by
  have r5 : r1.1 122 5 = 0 := by rw [f.2.2 5 (by omega)]; exact J.2.2.2.2.2.1
  cases full with
  | false =>
    obtain ⟨g', e, fe, J2⟩ := j_go hn hb J f.FX f.2.1 rfl r5 (f.2.2 6 (by omega))
    have := te_gt (b := b) lt
    have := sk_ge (b := b) (n := n) p
    exact ⟨g', r1, some _, e, rfl, fe, f.FX, J2, fun p1 z => by cases z; exact ⟨rfl, by omega⟩⟩
  | true =>
    have Jf := j_fail (c := (-4 : Int32)) (by decide) J (J.2.1.fx f.FX) r5
    obtain ⟨g', e, fe, J2⟩ := jb_next hn hb Jf
    exact ⟨g', _, none, e, rfl, fail_FE.trans fe, f.FX.trans rep_FX, J2, fun p1 z => by cases z⟩
theorem j_edge {p : Nat} {r1 : PH} (hn : n ≤ 700) (hb : ∀ j, b j < 256) (J : JT b n g r p) (ng : NG g r N) (f : FQ r r1 (te b n (sk b n p))) (lt : sk b n p < n) :
    ∃ g' r' o', F_X6_readEdge g = some g' ∧ F_X8_readEdge r1 (nI (sk b n p)) = some r' ∧ FN g g' ∧ FM r r' ∧ Jo b n g' r' o' ∧ ∀ p', o' = some p' → p < p' ∧ ∃ N', NG g' r' N' := by
  obtain ⟨g1, r2, o, a1, a2, a3, a4, a5, a6⟩ := j_start hn hb J f lt (!(decide (wE N < 14)))
  have hE := ng.2.2.1.2.2.1
  obtain ⟨g', r', o', d1, d2, d3, d4, d5, d6⟩ := edge1 (N := N) hn hb a5 (fun p1 z => ⟨ng.fe a3 a4, by
    have := (a6 p1 z).1
    rw [Bool.not_eq_false', decide_eq_true_eq] at this
    exact this⟩)
  have e3 : g.1 3 2 = nI (wE N) := ng.1.2.2.1
  have e4 : ald 1556 r1 125 (2 : Int32) = some (nI (wE N)) := by rw [i2, ald_in (by omega) (by omega), (f.1 125 (by omega)).1, ng.2.1.2.2.1]
  rw [eC0, eR0, e3, e4, Option.bind_some]
  refine ⟨g', r', o', ?_, ?_, a3.FN.trans d3, a4.FM.trans d4, d5, fun p' z => ?_⟩
  · by_cases y : wE N < 14
    · rw [decide_eq_true y] at a1
      rw [if_pos (show nI (wE N) < (14 : Int32) from nI_lt (b := 14) y (by omega)), show F_X6_next g = some g1 from a1, Option.bind_some]
      exact d1
    · rw [decide_eq_false y] at a1
      rw [if_neg (show ¬ nI (wE N) < (14 : Int32) from nI_nlt (b := 14) (by omega) (by omega)), show F_X6_next (F_X6_fail g (-4 : Int32)) = some g1 from a1, Option.bind_some]
      exact d1
  · by_cases y : wE N < 14
    · rw [decide_eq_true y] at a2
      have a2 : r1 = r2 := a2
      rw [if_pos (show ¬ nI (wE N) = (14 : Int32) from fun z => by have := (nI_eq (b := 14) (by omega) (by omega)).mp z; omega), a2]
      exact d2
    · rw [decide_eq_false y] at a2
      have a2 : F_X8_report r1 (-4 : Int32) (nI (sk b n p)) = r2 := a2
      rw [if_neg (show ¬ ¬ nI (wE N) = (14 : Int32) from fun z => z (by rw [show wE N = 14 by omega]; rfl)), a2]
      exact d2
  · obtain ⟨p1, N', z1, z2, z3⟩ := d6 p' z
    have := (a6 p1 z1).2
    exact ⟨by omega, N', z3⟩
end EST
