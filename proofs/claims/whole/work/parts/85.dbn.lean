/-! depots and bans -/
def addD (N : NT) (v : Nat) : NT := (fun i a => if i = 0 then (if a = 3 then wD N + 1 else N.1 0 a) else if i = 5 then (if a = wD N then v else N.1 5 a) else N.1 i a, N.2)
def addB (N : NT) (a0 : Nat) (m : Int32) : NT := (N.1, fun a => if a = a0 then N.2 a ||| m else N.2 a)
noncomputable def dC1 (g : PH) : Option PH := (F_X6_takeNumber g (0 : Int32) ((g.1 3 0) - (1 : Int32))).bind fun z4 => if ¬ (z4.2.1 1 10) = 0 then some (z4.2) else some ((F_X2_addDepot z4.2 z4.1))
noncomputable def dR1 (r : PH) : Option PH := (ald 1556 r 125 (0 : Int32)).bind fun z4 =>
  (F_X8_number r (0 : Int32) (z4 - (1 : Int32))).bind fun z5 =>
  if ¬ (F_X8_isGood z5.2) = 0 then
   (ald 1556 z5.2 125 (3 : Int32)).bind fun z6 =>
   (ast 1556 z5.2 125 ((189 : Int32) + z6) z5.1).bind fun h7 =>
   (ald 1556 h7 125 (3 : Int32)).bind fun z8 =>
   (ast 1556 h7 125 (3 : Int32) (z8 + (1 : Int32))).bind fun h9 =>
   some (h9)
  else
   some (z5.2)
theorem dC0 (g : PH) : F_X6_readDepot g = if (g.1 3 3) < (3 : Int32) then (F_X6_next g).bind dC1 else (F_X6_next (F_X6_fail g (-4 : Int32))).bind dC1 := rfl
theorem dR0 (r : PH) (p0 : Int32) : F_X8_readDepot r p0 = (ald 1556 r 125 (3 : Int32)).bind fun z1 => if ¬ z1 = (3 : Int32) then dR1 r else dR1 (F_X8_report r (-4 : Int32) p0) := rfl
section DBN
variable {b : Nat → Nat} {n : Nat} {g r : PH} {N : NT}
theorem addD_WN {v : Nat} (h : WN N) (hD : wD N < 3) (hv : v < wN N) : WN (addD N v) := by
  obtain ⟨a1, a2, a3, a4, a5, a6, a7⟩ := h
  refine ⟨a1, a2, a3, by show wD N + 1 ≤ 3; omega, a5, a6, fun d hd => ?_⟩
  have hd : d < wD N + 1 := hd
  show (if d = wD N then v else wDp N d) < wN N
  split
  · exact hv
  · exact a7 d (by omega)
theorem depot1 {o : Option Nat} (hn : n ≤ 700) (hb : ∀ j, b j < 256) (J : Jo b n g r o) (hh : ∀ p, o = some p → NG g r N ∧ wD N < 3) :
    ∃ g' r' o', dC1 g = some g' ∧ dR1 r = some r' ∧ FN g g' ∧ FM r r' ∧ Jo b n g' r' o' ∧ ∀ p', o' = some p' → ∃ p N', o = some p ∧ p < p' ∧ NG g' r' N' := by
  have ea : ald 1556 r 125 (0 : Int32) = some (r.1 125 0) := ald_in (a := 0) (by omega) (by omega)
  obtain ⟨v, g1, w, r1, o1, x1, y1, f1, q1, J1, s1⟩ := jo_number (lo := 0) (m := wN N) (hi := g.1 3 0 - (1 : Int32)) (hi' := r.1 125 0 - (1 : Int32)) hn hb (by omega) J (fun z => by
    cases o with
    | none => exact absurd rfl z
    | some p =>
      obtain ⟨ng, -⟩ := hh p rfl
      have := ng.2.2.1.1
      exact ⟨by omega, by rw [ng.1.1], by rw [ng.2.1.1]⟩)
  unfold dC1 dR1
  rw [show F_X6_takeNumber g (0 : Int32) (g.1 3 0 - (1 : Int32)) = some (v, g1) from x1, Option.bind_some, ea, Option.bind_some, show F_X8_number r (0 : Int32) (r.1 125 0 - (1 : Int32)) = some (w, r1) from y1, Option.bind_some]
  dsimp only
  cases o1 with
  | none =>
    have J3 : JB b n g1 r1 := J1
    rw [if_pos J3.2.2.2.1, good_1 (jb_r5 J3), if_neg (fun z => z rfl)]
    exact ⟨g1, r1, none, rfl, rfl, f1.FN, q1.FM, J3, fun p' z => by cases z⟩
  | some p3 =>
    have J3 : JT b n g1 r1 p3 := J1
    obtain ⟨p0, x, t1, t2, t3, t4, t5, t6⟩ := s1 p3 rfl
    obtain ⟨ng, hD⟩ := hh p0 t1
    subst t2 t3
    obtain ⟨⟨k1, k2, k3, k4, k5, k6, k7⟩, ⟨l1, l2, l3, l4, l5, l6, l7⟩, hN9, hsv, hz⟩ := ng.fe f1 q1
    have hn8 := hN9.1
    have hE := hN9.2.2.1
    have e3 : ald 1556 r1 125 (3 : Int32) = some (nI (wD N)) := by rw [i3, ald_in (by omega) (by omega), l4]
    rw [if_neg (fun z => z J3.2.2.2.2.1), good_0 J3.2.2.2.2.2.1, if_pos (show ¬ (1 : Int32) = 0 by decide), e3, Option.bind_some, i189, nI_add, ast_in (by omega) (by omega), Option.bind_some]
    have e4 : ald 1556 (pu r1 125 (189 + wD N) (nI x)) 125 (3 : Int32) = some (nI (wD N)) := by rw [i3, ald_in (by omega) (by omega), pu_get, if_neg (fun z => by omega), l4]
    rw [e4, Option.bind_some, nI_1, i3, ast_in (by omega) (by omega), Option.bind_some]
    have ec : F_X2_addDepot g1 (nI x) = pu (pu g1 9 (wD N) (nI x)) 3 3 (nI (wD N + 1)) := by
      unfold F_X2_addDepot
      rw [k4, if_pos (show nI (wD N) < (3 : Int32) from nI_lt (b := 3) hD (by omega)), put_in (by omega) hD, (pu_o g1 9 _ _ 3 (by omega)).1, k4, nI_1]
    rw [ec]
    have co : ∀ t, t ≠ 3 → t ≠ 9 → (pu (pu g1 9 (wD N) (nI x)) 3 3 (nI (wD N + 1))).1 t = g1.1 t := fun t h1 h2 => by rw [(pu_o _ 3 _ _ t h1).1, (pu_o _ 9 _ _ t h2).1]
    have c3 : ∀ j, j ≠ 3 → (pu (pu g1 9 (wD N) (nI x)) 3 3 (nI (wD N + 1))).1 3 j = g1.1 3 j := fun j hj => by rw [pu_get, if_neg (fun z => hj z.2), (pu_o _ 9 _ _ 3 (by omega)).1]
    have ro : ∀ j, j ≠ 3 → j ≠ 189 + wD N → (pu (pu r1 125 (189 + wD N) (nI x)) 125 3 (nI (wD N + 1))).1 125 j = r1.1 125 j := fun j h1 h2 => by rw [pu_get, if_neg (fun z => h1 z.2), pu_get, if_neg (fun z => h2 z.2)]
    refine ⟨_, _, some p3, rfl, rfl, f1.FN.trans ⟨(Fr.pu (by omega)).trans (Fr.pu (by omega)), fun j _ => by rw [co 1 (by omega) (by omega)]⟩, q1.FM.trans ⟨(Fr.pu (S := fun a => a = 122 ∨ a = 125) (Or.inr rfl)).trans (Fr.pu (S := fun a => a = 122 ∨ a = 125) (Or.inr rfl)), fun j _ => by rw [(pu_o _ 125 _ _ 122 (by omega)).1, (pu_o _ 125 _ _ 122 (by omega)).1], fun j hj => ro j (by omega) (by omega)⟩, ?_, fun p' z => ?_⟩
    · exact Jo.fr J1 (co 1 (by omega) (by omega)) (co 2 (by omega) (by omega)) (by rw [(pu_o _ 125 _ _ 122 (by omega)).1, (pu_o _ 125 _ _ 122 (by omega)).1]) (by rw [(pu_o _ 125 _ _ 123 (by omega)).1, (pu_o _ 125 _ _ 123 (by omega)).1])
    · cases z
      refine ⟨p0, addD N x, t1, by omega, ⟨by rw [c3 0 (by omega)]; exact k1, by rw [c3 1 (by omega)]; exact k2, by rw [c3 2 (by omega)]; exact k3, by rw [pu_get, if_pos ⟨rfl, rfl⟩]; rfl, fun a ha => ?_, fun e he => ?_, fun d hd => ?_⟩, ⟨by rw [ro 0 (by omega) (by omega)]; exact l1, by rw [ro 1 (by omega) (by omega)]; exact l2, by rw [ro 2 (by omega) (by omega)]; exact l3, by rw [pu_get, if_pos ⟨rfl, rfl⟩]; rfl, fun a ha => ?_, fun e he => ?_, fun d hd => ?_⟩, addD_WN hN9 hD t5, hsv, fun e w h1 h2 h3 => ?_⟩
      · rw [co (3 + 1) (by omega) (by omega), co (3 + 2) (by omega) (by omega), co (3 + 3) (by omega) (by omega), co (3 + 4) (by omega) (by omega)]
        exact k5 a ha
      · rw [co (3 + 5) (by omega) (by omega)]
        exact k6 e he
      · have hd : d < wD N + 1 := hd
        rw [(pu_o _ 3 _ _ (3 + 6) (by omega)).1, pu_get]
        show _ = nI (if d = wD N then x else wDp N d)
        by_cases y : d = wD N
        · rw [if_pos ⟨rfl, y⟩, if_pos y]
        · rw [if_neg (fun z => y z.2), if_neg y]
          exact k7 d (by omega)
      · have ha : a < 2 * wE N := ha
        have hh : wHd N a < wN N := (hN9.2.2.2.2.1 _ (wFl_lt ha)).1
        have hh2 : wHd (addD N x) a = wHd N a := rfl
        rw [hh2, ro _ (by omega) (by omega), ro _ (by omega) (by omega), ro _ (by omega) (by omega)]
        exact l5 a ha
      · have he : e < wE N := he
        rw [ro _ (by omega) (by omega)]
        exact l6 e he
      · have hd : d < wD N + 1 := hd
        show _ = nI (if d = wD N then x else wDp N d)
        by_cases y : d = wD N
        · rw [if_pos y, pu_get, if_neg (fun z => by omega), pu_get, if_pos ⟨rfl, by omega⟩]
        · rw [if_neg y, ro _ (by omega) (by omega)]
          exact l7 d (by omega)
      · rw [ro _ (by omega) (by omega)]
        exact hz e w h1 h2 h3
theorem j_depot {p : Nat} {r1 : PH} (hn : n ≤ 700) (hb : ∀ j, b j < 256) (J : JT b n g r p) (ng : NG g r N) (f : FQ r r1 (te b n (sk b n p))) (lt : sk b n p < n) :
    ∃ g' r' o', F_X6_readDepot g = some g' ∧ F_X8_readDepot r1 (nI (sk b n p)) = some r' ∧ FN g g' ∧ FM r r' ∧ Jo b n g' r' o' ∧ ∀ p', o' = some p' → p < p' ∧ ∃ N', NG g' r' N' := by
  obtain ⟨g1, r2, o, a1, a2, a3, a4, a5, a6⟩ := j_start hn hb J f lt (!(decide (wD N < 3)))
  have hD := ng.2.2.1.2.2.2.1
  obtain ⟨g', r', o', d1, d2, d3, d4, d5, d6⟩ := depot1 (N := N) hn hb a5 (fun p1 z => ⟨ng.fe a3 a4, by
    have := (a6 p1 z).1
    rw [Bool.not_eq_false', decide_eq_true_eq] at this
    exact this⟩)
  have e3 : g.1 3 3 = nI (wD N) := ng.1.2.2.2.1
  have e4 : ald 1556 r1 125 (3 : Int32) = some (nI (wD N)) := by rw [i3, ald_in (by omega) (by omega), (f.1 125 (by omega)).1, ng.2.1.2.2.2.1]
  rw [dC0, dR0, e3, e4, Option.bind_some]
  refine ⟨g', r', o', ?_, ?_, a3.FN.trans d3, a4.FM.trans d4, d5, fun p' z => ?_⟩
  · by_cases y : wD N < 3
    · rw [decide_eq_true y] at a1
      rw [if_pos (show nI (wD N) < (3 : Int32) from nI_lt (b := 3) y (by omega)), show F_X6_next g = some g1 from a1, Option.bind_some]
      exact d1
    · rw [decide_eq_false y] at a1
      rw [if_neg (show ¬ nI (wD N) < (3 : Int32) from nI_nlt (b := 3) (by omega) (by omega)), show F_X6_next (F_X6_fail g (-4 : Int32)) = some g1 from a1, Option.bind_some]
      exact d1
  · by_cases y : wD N < 3
    · rw [decide_eq_true y] at a2
      have a2 : r1 = r2 := a2
      rw [if_pos (show ¬ nI (wD N) = (3 : Int32) from fun z => by have := (nI_eq (b := 3) (by omega) (by omega)).mp z; omega), a2]
      exact d2
    · rw [decide_eq_false y] at a2
      have a2 : F_X8_report r1 (-4 : Int32) (nI (sk b n p)) = r2 := a2
      rw [if_neg (show ¬ ¬ nI (wD N) = (3 : Int32) from fun z => z (by rw [show wD N = 3 by omega]; rfl)), a2]
      exact d2
  · obtain ⟨p1, N', z1, z2, z3⟩ := d6 p' z
    have := (a6 p1 z1).2
    exact ⟨by omega, N', z3⟩
end DBN
