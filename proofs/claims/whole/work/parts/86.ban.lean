section BAN
variable {b : Nat → Nat} {n : Nat} {g r : PH} {N : NT}
theorem eAt_c (g : PH) (v : Int32) : F_X6_takeEdgeAt g v = if ¬ (g.1 1 7) = (256 : Int32) then ((F_X6_takeNumber g (0 : Int32) ((g.1 3 2) - (1 : Int32))).bind fun z3 => some ((z3.1, z3.2))) else if (g.1 3 2) ≤ (g.1 1 8) then ((F_X6_takeNumber g (0 : Int32) ((g.1 3 2) - (1 : Int32))).bind fun z3 => some ((z3.1, z3.2))) else if ¬ (F_X2_touches g (g.1 1 8) v) = 0 then ((F_X6_takeNumber g (0 : Int32) ((g.1 3 2) - (1 : Int32))).bind fun z3 => some ((z3.1, z3.2))) else ((F_X6_takeNumber (F_X6_fail g (-3 : Int32)) (0 : Int32) (((F_X6_fail g (-3 : Int32)).1 3 2) - (1 : Int32))).bind fun z3 => some ((z3.1, z3.2))) := rfl
theorem j_edgeAt {o : Option Nat} {v w : Int32} (hn : n ≤ 700) (hb : ∀ j, b j < 256) (J : Jo b n g r o) (hh : ∀ p, o = some p → NG g r N ∧ ∃ y, y < wN N ∧ v = nI y ∧ w = nI y) :
    ∃ a g' c r' o', F_X6_takeEdgeAt g v = some (a, g') ∧ F_X8_edgeAt r w = some (c, r') ∧ FE g g' ∧ FX r r' ∧ Jo b n g' r' o' ∧ ∀ p', o' = some p' → ∃ p x y, o = some p ∧ p < p' ∧ v = nI y ∧ a = nI x ∧ c = nI x ∧ x < wE N ∧ (wTl N (2 * x) = y ∨ wHd N (2 * x) = y) := by
  have ea : ald 1556 r 125 (2 : Int32) = some (r.1 125 2) := ald_in (a := 2) (by omega) (by omega)
  rw [eAt_c]
  unfold F_X8_edgeAt
  rw [ea, Option.bind_some]
  cases o with
  | none =>
    have JJ : JB b n g r := J
    obtain ⟨v', g3, x1, f1, J3⟩ := jb_number (lo := (0 : Int32)) (hi := g.1 3 2 - (1 : Int32)) hn hb JJ
    rw [fail_1 JJ.2.2.2.1, x1, Option.bind_some, jb_rnum JJ, Option.bind_some]
    dsimp only
    rw [good_1 (jb_r5 JJ), if_pos rfl]
    refine ⟨v', g3, 0, r, none, ?_, rfl, f1, FX.refl r, J3, fun p' z => by cases z⟩
    split
    · rfl
    · split
      · rfl
      · split <;> rfl
  | some p =>
    have JJ : JT b n g r p := J
    obtain ⟨ng, y, hy, rfl, rfl⟩ := hh p rfl
    have hn8 := ng.2.2.1.1
    have hE := ng.2.2.1.2.2.1
    have e3 : g.1 3 2 = nI (wE N) := ng.1.2.2.1
    have e4 : r.1 125 2 = nI (wE N) := ng.2.1.2.2.1
    obtain ⟨v', g3, w', r3, x1, y1, f1, q1, res⟩ := j_number (lo := 0) (m := wE N) hn hb (by omega) (by omega) JJ
    rw [e3, e4, show F_X6_takeNumber g (0 : Int32) (nI (wE N) - (1 : Int32)) = some (v', g3) from x1, Option.bind_some, show F_X8_number r (0 : Int32) (nI (wE N) - (1 : Int32)) = some (w', r3) from y1, Option.bind_some]
    dsimp only
    rcases res with ⟨x, rfl, rfl, t1, t2, J3, t4, t5, t6, t7⟩ | ⟨J3, no⟩
    · have et : F_X2_touches g (nI x) (nI y) = if wTl N (2 * x) = y ∨ wHd N (2 * x) = y then 1 else 0 := by
        unfold F_X2_touches
        rw [i2, nI_mul, c_start ng.2.2.1 ng.1 (by omega), c_end ng.2.2.1 ng.1 (by omega)]
        have h1 := (ng.2.2.1.2.2.2.2.1 (2 * x) (by omega)).1
        have h2 := (ng.2.2.1.2.2.2.2.1 (wFl (2 * x)) (wFl_lt (by omega))).1
        have h2 : wHd N (2 * x) < wN N := h2
        by_cases z : wTl N (2 * x) = y
        · rw [if_pos (by rw [z]), if_pos (Or.inl z)]
        · rw [if_neg (fun w => z ((nI_eq (by omega) (by omega)).mp w))]
          by_cases z2 : wHd N (2 * x) = y
          · rw [if_neg (fun w => w (by rw [z2])), if_pos (Or.inr z2)]
          · rw [if_pos (fun w => z2 ((nI_eq (by omega) (by omega)).mp w)), if_neg (fun w => w.elim z z2)]
      rw [t6, t7, if_neg (show ¬ ¬ nI 256 = (256 : Int32) from fun z => z rfl), if_neg (nI_ge t2 (by omega)), et, good_0 J3.2.2.2.2.2.1, if_neg (show ¬ (1 : Int32) = 0 by decide), r_edge]
      have hh1 : wHd N (2 * x) = wTl N (2 * x + 1) := by unfold wHd wFl; rw [if_pos (by omega)]
      have ng3 := ng.fe f1 q1
      have c1 := (ng3.2.1.2.2.2.2.1 (2 * x) (by omega)).1
      have c2 := (ng3.2.1.2.2.2.2.1 (2 * x + 1) (by omega)).1
      rw [show 7 + 5 * (2 * x / 2) + 2 * x % 2 = 7 + 5 * x by omega] at c1
      rw [show 7 + 5 * ((2 * x + 1) / 2) + (2 * x + 1) % 2 = 7 + 5 * x + 1 by omega, ← hh1] at c2
      have h1 := (ng.2.2.1.2.2.2.2.1 (2 * x) (by omega)).1
      have h2 : wHd N (2 * x) < wN N := (ng.2.2.1.2.2.2.2.1 (wFl (2 * x)) (wFl_lt (by omega))).1
      rw [ald_in (by omega) (by omega), Option.bind_some, c1, nI_1, ald_in (by omega) (by omega), Option.bind_some, c2, t5]
      by_cases z : wTl N (2 * x) = y ∨ wHd N (2 * x) = y
      · rw [if_pos z, if_pos (show ¬ (1 : Int32) = 0 by decide)]
        refine ⟨nI x, g3, nI x, r3, some _, rfl, ?_, f1, q1, J3, fun p' z9 => ⟨p, x, y, rfl, by cases z9; exact t4, rfl, rfl, rfl, t2, z⟩⟩
        rcases z with z | z
        · rw [if_pos (by rw [z])]
        · rw [z, if_pos rfl]
          split <;> rfl
      · rw [if_neg z, if_neg (fun w => w rfl), if_neg (fun w => z (Or.inl ((nI_eq (by omega) (by omega)).mp w))), if_neg (fun w => z (Or.inr ((nI_eq (by omega) (by omega)).mp w)))]
        have Jf := j_fail (c := (-3 : Int32)) (by decide) JJ J3.2.1 J3.2.2.2.2.2.1
        obtain ⟨v5, g5, m1, m2, m3⟩ := jb_number (lo := (0 : Int32)) (hi := (F_X6_fail g (-3 : Int32)).1 3 2 - (1 : Int32)) hn hb Jf
        rw [m1, Option.bind_some]
        exact ⟨v5, g5, nI x, _, none, rfl, rfl, fail_FE.trans m2, q1.trans rep_FX, m3, fun p' z9 => by cases z9⟩
    · have J3 : JB b n g3 r3 := J3
      rw [good_1 (jb_r5 J3), if_pos rfl]
      refine ⟨v', g3, w', r3, none, ?_, rfl, f1, q1, J3, fun p' z9 => by cases z9⟩
      by_cases z1 : g.1 1 7 = (256 : Int32)
      · rw [if_neg (fun z => z z1)]
        have tv := JJ.2.2.1.2.2.2.2
        have hv : vlc b n (sk b n p) ≤ 100000 := by
          unfold vlc
          split <;> omega
        rw [if_pos]
        rw [tv]
        apply nI_le _ (by omega)
        rcases Nat.lt_or_ge (vlc b n (sk b n p)) (wE N) with z2 | z2
        · exact absurd ⟨z1, tv⟩ (no _ (Nat.zero_le _) z2)
        · exact z2
      · rw [if_pos z1]
theorem j_ban {p : Nat} {r1 : PH} (hn : n ≤ 700) (hb : ∀ j, b j < 256) (J : JT b n g r p) (ng : NG g r N) (f : FQ r r1 (te b n (sk b n p))) (lt : sk b n p < n) :
    ∃ g' r' o', F_X6_readBan g = some g' ∧ F_X8_readBan r1 = some r' ∧ FN g g' ∧ FM r r' ∧ Jo b n g' r' o' ∧ ∀ p', o' = some p' → p < p' ∧ ∃ N', NG g' r' N' := by
  have hn8 := ng.2.2.1.1
  have hE := ng.2.2.1.2.2.1
  obtain ⟨g1, r2, o, a1, a2, a3, a4, a5, a6⟩ := j_start hn hb J f lt false
  have a1 : F_X6_next g = some g1 := a1
  have a2 : r1 = r2 := a2
  subst a2
  have ea : ald 1556 r1 125 (0 : Int32) = some (r1.1 125 0) := ald_in (a := 0) (by omega) (by omega)
  have ng1 := ng.fe a3 a4
  obtain ⟨v, g2, w, r2, o2, x1, y1, f1, q1, J2, s1⟩ := jo_number (lo := 0) (m := wN N) (hi := g1.1 3 0 - (1 : Int32)) (hi' := r1.1 125 0 - (1 : Int32)) hn hb (by omega) a5 (fun _ => ⟨by omega, by rw [ng1.1.1], by rw [ng1.2.1.1]⟩)
  have ng2 := ng1.fe f1 q1
  obtain ⟨c1, g3, d1, r3, o3, x2, y2, f2, q2, J3, s2⟩ := j_edgeAt (N := N) (v := v) (w := w) hn hb J2 (fun p9 z => by
    obtain ⟨p0, x, t1, t2, t3, t4, t5, t6⟩ := s1 p9 z
    exact ⟨ng2, x, t5, t2, t3⟩)
  have ng3 := ng2.fe f2 q2
  obtain ⟨c2, g4, d2, r4, o4, x3, y3, f3, q3, J4, s3⟩ := j_edgeAt (N := N) (v := v) (w := w) hn hb J3 (fun p9 z => by
    obtain ⟨p0, x, y, t1, -⟩ := s2 p9 z
    obtain ⟨p1, x', t1', t2', t3', t4', t5', t6'⟩ := s1 p0 t1
    exact ⟨ng3, x', t5', t2', t3'⟩)
  have ng4 := ng3.fe f3 q3
  have fe : FE g g4 := ((a3.trans f1).trans f2).trans f3
  have fx : FX r r4 := ((a4.trans q1).trans q2).trans q3
  unfold F_X6_readBan F_X8_readBan
  rw [a1, Option.bind_some, show F_X6_takeNumber g1 (0 : Int32) (g1.1 3 0 - (1 : Int32)) = some (v, g2) from x1, Option.bind_some, x2, Option.bind_some, x3, Option.bind_some, ea, Option.bind_some, show F_X8_number r1 (0 : Int32) (r1.1 125 0 - (1 : Int32)) = some (w, r2) from y1, Option.bind_some, y2, Option.bind_some, y3, Option.bind_some]
  dsimp only
  cases o4 with
  | none =>
    have J4 : JB b n g4 r4 := J4
    rw [if_pos J4.2.2.2.1, good_1 (jb_r5 J4), if_pos rfl]
    exact ⟨g4, r4, none, rfl, rfl, fe.FN, fx.FM, J4, fun p' z => by cases z⟩
  | some p4 =>
    have J4' : JT b n g4 r4 p4 := J4
    obtain ⟨p3, e2, y2', t1, t2, t3, t4, t5, t6, t7⟩ := s3 p4 rfl
    obtain ⟨p2, e1, y1', u1, u2, u3, u4, u5, u6, u7⟩ := s2 p3 t1
    obtain ⟨p1, y, w1, w2, w3, w4, w5, w6⟩ := s1 p2 u1
    have hp1 := (a6 p1 w1).2
    subst w2 w3 u4 u5 t4 t5
    have hy1 : wTl N (2 * e1) = y ∨ wHd N (2 * e1) = y := by
      have h9 : y = y1' := by
        have k1 := (ng.2.2.1.2.2.2.2.1 (2 * e1) (by omega)).1
        have k2 : wHd N (2 * e1) < wN N := (ng.2.2.1.2.2.2.2.1 (wFl (2 * e1)) (wFl_lt (by omega))).1
        exact (nI_eq (by omega) (by omega)).mp u3
      rw [h9]
      exact u7
    obtain ⟨⟨k1, k2, k3, k4, k5, k6, k7⟩, ⟨l1, l2, l3, l4, l5, l6, l7⟩, hN9, hsv, hz⟩ := ng4
    rw [if_neg (fun z => z J4'.2.2.2.2.1), good_0 J4'.2.2.2.2.2.1, if_neg (show ¬ (1 : Int32) = 0 by decide)]
    -- the arc that ends in y
    have h12 := (hN9.2.2.2.2.1 (2 * e1) (by omega)).2.2.2.2
    have hT : wTl N (2 * e1) < wN N := (hN9.2.2.2.2.1 (2 * e1) (by omega)).1
    have hH : wHd N (2 * e1) < wN N := (hN9.2.2.2.2.1 (wFl (2 * e1)) (wFl_lt (by omega))).1
    have hH1 : wHd N (2 * e1 + 1) = wTl N (2 * e1) := by unfold wHd wFl; rw [if_neg (by omega)]; congr 1
    obtain ⟨a0, ha0, hha, ec⟩ : ∃ a0, a0 / 2 = e1 ∧ wHd N a0 = y ∧ F_X2_banTurn g4 (nI y) (nI e1) (nI e2) = pu g4 7 a0 (g4.1 7 a0 ||| ((1 : Int32) <<< (nI e2 &&& 31))) := by
      unfold F_X2_banTurn
      rw [i2, nI_mul, c_end hN9 (o := 3) ⟨k1, k2, k3, k4, k5, k6, k7⟩ (by omega), nI_1]
      by_cases z : wHd N (2 * e1) = y
      · refine ⟨2 * e1, by omega, z, ?_⟩
        rw [if_neg (fun w => w (by rw [z])), at_in (by omega) (by omega), put_in (by omega) (by omega)]
      · refine ⟨2 * e1 + 1, by omega, by rw [hH1]; exact hy1.resolve_right z, ?_⟩
        rw [if_pos (fun w => z ((nI_eq (by omega) (by omega)).mp w)), at_in (by omega) (by omega), put_in (by omega) (by omega)]
    have ha : a0 < 2 * wE N := by omega
    have eb : F_X8_ban r4 (nI y) (nI e1) = nI (77 + 14 * y + e1) := by
      unfold F_X8_ban
      rw [i77, i14, nI_mul, nI_add, nI_add]
    have hc : r4.1 125 (77 + 14 * y + e1) = wBn N a0 := by
      have := (l5 a0 ha).2.2
      rw [hha, ha0] at this
      exact this
    rw [ec, eb, ald_in (by omega) (by omega), Option.bind_some, hc, ast_in (by omega) (by omega), Option.bind_some, show g4.1 7 a0 = wBn N a0 from (k5 a0 ha).2.2.2]
    have co : ∀ t, t ≠ 7 → (pu g4 7 a0 (wBn N a0 ||| ((1 : Int32) <<< (nI e2 &&& 31)))).1 t = g4.1 t := fun t ht => (pu_o _ 7 _ _ t ht).1
    have ro : ∀ j, j ≠ 77 + 14 * y + e1 → (pu r4 125 (77 + 14 * y + e1) (wBn N a0 ||| ((1 : Int32) <<< (nI e2 &&& 31)))).1 125 j = r4.1 125 j := fun j hj => by rw [pu_get, if_neg (fun z => hj z.2)]
    refine ⟨_, _, some p4, rfl, rfl, fe.FN.trans ⟨Fr.pu (by omega), fun j _ => by rw [co 1 (by omega)]⟩, fx.FM.trans ⟨Fr.pu (S := fun a => a = 122 ∨ a = 125) (Or.inr rfl), fun j _ => by rw [(pu_o _ 125 _ _ 122 (by omega)).1], fun j hj => ro j (by omega)⟩, Jo.fr J4 (co 1 (by omega)) (co 2 (by omega)) ((pu_o _ 125 _ _ 122 (by omega)).1) ((pu_o _ 125 _ _ 123 (by omega)).1), fun p' z => ?_⟩
    cases z
    have hB : ∀ a, wBn (addB N a0 ((1 : Int32) <<< (nI e2 &&& 31))) a = if a = a0 then wBn N a ||| ((1 : Int32) <<< (nI e2 &&& 31)) else wBn N a := fun a => rfl
    refine ⟨by omega, addB N a0 ((1 : Int32) <<< (nI e2 &&& 31)), ⟨by rw [co 3 (by omega)]; exact k1, by rw [co 3 (by omega)]; exact k2, by rw [co 3 (by omega)]; exact k3, by rw [co 3 (by omega)]; exact k4, fun a ha2 => ?_, fun e he => ?_, fun d hd => ?_⟩, ⟨by rw [ro 0 (by omega)]; exact l1, by rw [ro 1 (by omega)]; exact l2, by rw [ro 2 (by omega)]; exact l3, by rw [ro 3 (by omega)]; exact l4, fun a ha2 => ?_, fun e he => ?_, fun d hd => ?_⟩, hN9, hsv, fun e w9 h1 h2 h3 => ?_⟩
    · have ha2 : a < 2 * wE N := ha2
      rw [co (3 + 1) (by omega), co (3 + 2) (by omega), co (3 + 3) (by omega), hB]
      obtain ⟨b1, b2, b3, b4⟩ := k5 a ha2
      refine ⟨b1, b2, b3, ?_⟩
      rw [pu_get]
      by_cases z : a = a0
      · rw [if_pos ⟨rfl, z⟩, if_pos z, z]
      · rw [if_neg (fun y => z y.2), if_neg z]
        exact b4
    · rw [co (3 + 5) (by omega)]
      exact k6 e he
    · rw [co (3 + 6) (by omega)]
      exact k7 d hd
    · have ha2 : a < 2 * wE N := ha2
      have hh : wHd N a < wN N := (hN9.2.2.2.2.1 _ (wFl_lt ha2)).1
      have hh2 : wHd (addB N a0 ((1 : Int32) <<< (nI e2 &&& 31))) a = wHd N a := rfl
      obtain ⟨b1, b2, b3⟩ := l5 a ha2
      rw [hh2, hB, ro _ (by omega), ro _ (by omega)]
      refine ⟨b1, b2, ?_⟩
      by_cases z : a = a0
      · rw [z, hha, ha0, if_pos rfl, pu_get, if_pos ⟨rfl, rfl⟩]
      · rw [if_neg z, ro]
        · exact b3
        · intro q
          have h5 : wHd N a = y ∧ a / 2 = e1 := by omega
          have h6 : a = wFl a0 := by
            unfold wFl
            split <;> omega
          have h7 := (hN9.2.2.2.2.1 a0 ha).2.2.2.2
          apply h7
          rw [hha, ← h5.1, h6]
          unfold wHd
          rw [wFl_fl]
    · rw [ro _ (by have he : e < wE N := he; omega)]
      exact l6 e he
    · rw [ro _ (by have hd : d < wD N := hd; have := hN9.2.2.2.1; omega)]
      exact l7 d hd
    · have h1 : wE N ≤ e := h1
      rw [ro _ (by omega)]
      exact hz e w9 h1 h2 h3
end BAN
