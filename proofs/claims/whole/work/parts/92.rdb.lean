/-! BOTH READ THE SAME TEXT -/
section RDB
variable {b : Nat → Nat} {n : Nat} {g r : PH}
theorem read_both {α : Type} {X : PH → Option (PH ⊕ α)} (hn : n ≤ 700) (hb : ∀ j, b j < 256) (hg : ∀ j, j < n → g.1 2 j &&& (255 : Int32) = nI (b j)) (hr : ∀ j, j < n → r.1 123 j = nI (b j)) (r3 : r.1 122 3 = nI n) (r4 : r.1 122 4 = nI 0) (r5 : r.1 122 5 = 0) (r6 : r.1 122 6 = (-1 : Int32)) (r14 : r.1 122 14 = 0) (r15 : r.1 122 15 = 0) :
    ∃ c g' r', F_X6_readSetup g (nI n) = some (c, g') ∧
      ((F_X8_takeWord (zr r 1556) 1000).bind fun z4 =>
     jn (fun (v6 : PH) =>
      (F_X8_number v6 (2 : Int32) (8 : Int32)).bind fun z7 =>
      (ast 1556 z7.2 125 (0 : Int32) z7.1).bind fun h8 =>
      (F_X8_number h8 (1 : Int32) (999 : Int32)).bind fun z9 =>
      (ast 1556 z9.2 125 (1 : Int32) z9.1).bind fun h10 =>
      (F_X8_expect h10 (59 : Int32)).bind fun h11 => loop (Bq X) h11) (fun k5 =>
      if ¬ z4.1 = 0 then
       k5 z4.2
      else
       k5 ((F_X8_report z4.2 (-2 : Int32) (z4.2.1 122 4))))) = (X r').bind (fun z => Sum.elim (fun s' => loop (Bq X) s') some z) ∧
      Fr (fun a => a = 1 ∨ (3 ≤ a ∧ a ≤ 12)) g g' ∧ g'.1 1 3 = nI 0 ∧ FZ (zr r 1556) r' ∧
      ((c = 0 ∧ g'.1 1 11 = (-1 : Int32) ∧ r'.1 122 5 = 0 ∧ r'.1 122 6 = (-1 : Int32) ∧ ∃ N', WN N' ∧ CN g' 3 N' ∧ RN r' 125 N' ∧ RS r' 125 N' ∧ RP r' 125 P0) ∨ (c ≠ 0 ∧ r'.1 122 5 = c ∧ r'.1 122 6 = g'.1 1 11)) := by
  obtain ⟨g1, r1, o, k1, k2, k3, k4, k5, k6, k7⟩ := j_head hn hb hg hr r3 r4 r5 r6 r14 r15
  obtain ⟨s1, s2, l1, l2, l3, l4, l5⟩ := main_loop (X := X) hn hb k6 k7
  have eq1 : F_X6_readSetup g (nI n) = loop Bc s1 := by
    rw [← l1]
    exact k1 (fun h5 => loop Bc ((0 : Int32), h5))
  rw [eq1, k2 (fun h11 => loop (Bq X) h11), l2, loop_eq Bc, loop_eq (Bq X)]
  obtain ⟨t, gg⟩ := s1
  dsimp only at l3 l5
  have f1 : Fr (fun a => a = 1 ∨ (3 ≤ a ∧ a ≤ 12)) g gg := (k3.mono (fun i hi => by omega)).trans (l3.1.mono (fun i hi => by omega))
  have g13 : gg.1 1 3 = nI 0 := by rw [l3.2 3 (by omega)]; exact k4
  rcases l5 with ⟨p, N, hs, m1, m2, m3, m4⟩ | m1
  · obtain ⟨q, q1, q2, q3⟩ := m1.2.2.2.1
    obtain ⟨ra, e0, f0⟩ := r_next hn hb m1.2.1 q1 q2
    rw [q3, m4] at e0 f0
    have J0 : JT b n gg ra p := ⟨m1.1, m1.2.1.fx f0.FX, m1.2.2.1, ⟨_, f0.2.1, Nat.le_refl _, by rw [m4]; exact rn_end (Nat.le_refl _)⟩, m1.2.2.2.2.1, by rw [f0.2.2 5 (by omega)]; exact m1.2.2.2.2.2.1, m1.2.2.2.2.2.2.1, by rw [f0.2.2 6 (by omega)]; exact m1.2.2.2.2.2.2.2⟩
    obtain ⟨g', N', d1, d2, d3, d4, d5, d6, d7⟩ := read_end (t := t) hn J0 (m2.fe (FE.refl _) f0.FX) (m3.net (Nat.le_refl _) (FN.refl _) f0.FX.FM) m4
    have ex : Bq X s2 = X ra := by
      unfold Bq
      rw [good_0 m1.2.2.2.2.2.1, if_neg (show ¬ (1 : Int32) = 0 by decide), e0, Option.bind_some]
      dsimp only
      unfold bz
      rw [if_neg (Nat.lt_irrefl _), if_pos rfl]
    rw [d1, ex]
    refine ⟨0, g', ra, rfl, (by cases X ra with | none => rfl | some z => cases z <;> rfl), f1.trans (d2.mono (fun i hi => by omega)), by rw [(d2 1 (by omega)).1]; exact g13, k5.trans (l4.trans f0.FX.FM.FZ), Or.inl ⟨rfl, ?_, J0.2.2.2.2.2.1, J0.2.2.2.2.2.2.2, N', d3, d4, d5, d6, d7⟩⟩
    rw [(d2 1 (by omega)).1]
    exact m1.2.2.2.2.2.2.1
  · have ex : Bq X s2 = X s2 := by
      unfold Bq
      rw [good_1 (jb_r5 m1), if_pos rfl]
    rw [Bc_S, if_pos (show (gg.1 1 4) ≤ t ∨ ¬ (gg.1 1 10) = 0 ∨ (gg.1 1 7) = (258 : Int32) from Or.inr (Or.inl m1.2.2.2.1)), if_pos m1.2.2.2.1, ex]
    exact ⟨gg.1 1 10, gg, s2, rfl, (by cases X s2 with | none => rfl | some z => cases z <;> rfl), f1, g13, k5.trans l4, Or.inr ⟨m1.2.2.2.1, m1.2.2.2.2.1, m1.2.2.2.2.2⟩⟩
end RDB
