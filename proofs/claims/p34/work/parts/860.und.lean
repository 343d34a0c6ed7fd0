section UND
variable {h : PH} {N : NT} {P : PT} {H : HT}
/-- things that the class's undo writes -/
def SU (a : Nat) : Prop := (14 ≤ a ∧ a ≤ 20) ∨ (22 ≤ a ∧ a ≤ 30)
theorem hslot_pop {nx k : Nat} (hx : nx < 8) (hk : k < 7) : hslot ((nx + 7) % 8) k = hslot nx (k + 1) := by unfold hslot; omega
theorem hslot_0 {nx : Nat} : hslot nx 0 = (nx + 7) % 8 := rfl
theorem c_restore (hw : HW H) (hn : CN h 14 N) (hh : CH h N H) (hp : 0 < hK H) : ∃ h', F_X1_restore h = some ((if hL H 0 then (1 : Int32) else (0 : Int32)), h') ∧ Fr (fun a => (14 ≤ a ∧ a ≤ 20) ∨ (26 ≤ a ∧ a ≤ 30)) h h' ∧ CN h' 14 (hN H 0) ∧ CP h' 26 (hP H 0) ∧ CH h' (hN H 0) (hpop H) ∧ (hL H 0 = false → hN H 0 = N) := by
  obtain ⟨nx, hx, k1, k2, k3, k4⟩ := hh
  obtain ⟨d1, d2, d3, d4⟩ := k4 0 hp
  obtain ⟨w1, w2⟩ := hw 0 hp
  rw [hslot_0] at d1 d2 d3
  have hj : (nx + 7) % 8 < 8 := Nat.mod_lt _ (by omega)
  have hpo : ∀ k, k < 7 → hslot ((nx + 7) % 8) k = hslot nx (k + 1) := fun k hk => hslot_pop hx hk
  generalize (nx + 7) % 8 = j at d1 d2 d3 hj hpo
  have em : nI nx + (8 : Int32) - (1 : Int32) = nI (nx + 7) := by
    rw [i8, nI_add]
    exact nI_pred (nx + 7)
  unfold F_X1_restore
  have ej : (nx + 7) % 8 = j := by
    have := hpo 0 (by omega)
    unfold hslot at this
    omega
  rw [k1, k3, em, mod8 (by omega), ej, if_neg (nI_nle hp (by omega)), c_ready hj, Option.bind_some, if_pos (by decide), aidx_in (by omega) hj, Option.bind_some]
  have e1 : (pu h 30 4 (nI j)).1 30 3 - (1 : Int32) = nI (hK H - 1) := by
    rw [pu_get, if_neg (by omega), k1]
    exact nI_sub (a := hK H) (b := 1) hp
  rw [e1]
  generalize hg1 : pu (pu h 30 4 (nI j)) 30 3 (nI (hK H - 1)) = g1
  have o1 : ∀ a, a ≠ 30 → g1.1 a = h.1 a := fun a ha => by rw [← hg1, (pu_o _ 30 _ _ a ha).1, (pu_o _ 30 _ _ a ha).1]
  have f1 : Fr (fun a => a = 30) h g1 := by rw [← hg1]; exact (Fr.pu (S := fun a => a = 30) rfl).trans (Fr.pu (S := fun a => a = 30) rfl)
  have q3 : g1.1 30 3 = nI (hK H - 1) := by rw [← hg1, pu_get, if_pos ⟨rfl, rfl⟩]
  have q4 : g1.1 30 4 = nI j := by rw [← hg1, pu_get, if_neg (by omega), pu_get, if_pos ⟨rfl, rfl⟩]
  clear hg1
  obtain ⟨a1, a2⟩ := c_cpP (h := g1) (o := 26) (w := 90 + 4 * j) (Or.inl (by omega)) w2.1 (d2.same (fun i hi => o1 _ (by omega)))
  generalize F_X3_copyFrom g1 26 (90 + 4 * j) = g2 at a1 a2
  have o2 : ∀ a, ¬ (26 ≤ a ∧ a ≤ 30) → g2.1 a = h.1 a := fun a ha => by rw [(a1 a (by unfold SPln; omega)).1, o1 a (by omega)]
  have e30 : g2.1 30 = g1.1 30 := (a1 30 (by unfold SPln; omega)).1
  have f2 : Fr (fun a => (14 ≤ a ∧ a ≤ 20) ∨ (26 ≤ a ∧ a ≤ 30)) h g2 := (f1.mono (fun i hi => Or.inr (by omega))).trans (a1.mono (fun i hi => Or.inr (by unfold SPln at hi; omega)))
  -- the ring that is left, in any heap that differs only below
  have ring : ∀ g : PH, (∀ a, 30 ≤ a → g.1 a = g2.1 a) → CH g (hN H 0) (hpop H) := fun g hg => by
    refine ⟨j, hj, ?_, ?_, ?_, fun k hk => ?_⟩
    · rw [hg 30 (by omega), e30, q3]
      rfl
    · have : hK (hpop H) = hK H - 1 := rfl
      omega
    · rw [hg 30 (by omega), e30, q4]
    · have hk : k < hK H - 1 := hk
      rw [hpo k (by omega)]
      obtain ⟨b1, b2, b3, b4⟩ := k4 (k + 1) (by omega)
      have hs := hslot_lt nx (k + 1)
      refine ⟨?_, b2.same (fun i hi => ?_), fun z => (b3 z).same (fun i hi => ?_), fun z => ?_⟩
      · rw [hg 33 (by omega), o2 33 (by omega)]
        exact b1
      · rw [hg _ (by omega), o2 _ (by omega)]
      · rw [hg _ (by omega), o2 _ (by omega)]
      · have b5 := b4 z
        have b6 : hN (hpop H) k = hN H (k + 1) := rfl
        rw [b6, b5]
        unfold prevN
        rw [if_neg (by omega)]
        by_cases y : k = 0
        · subst y
          rw [if_pos rfl]
        · rw [if_neg y]
          have : hN (hpop H) (k - 1) = hN H (k - 1 + 1) := rfl
          rw [this]
          congr 1
          omega
  have ez : ald 8 g2 33 (nI j) = some (if hL H 0 then (1 : Int32) else (0 : Int32)) := by
    rw [ald_in (by omega) hj, o2 33 (by omega), d1]
  rw [ez, Option.bind_some]
  cases hb : hL H 0 with
  | false =>
    rw [hb] at ez
    have e9 := d4 hb
    have e9 : hN H 0 = N := e9
    refine ⟨g2, ?_, f2, ?_, a2, ring g2 (fun a _ => rfl), fun _ => e9⟩
    · rfl
    · rw [e9]
      exact hn.same (fun i hi => o2 _ (by omega))
  | true =>
    rw [hb] at ez
    obtain ⟨c1, c2⟩ := c_cpN (h := g2) (o := 14) (w := 34 + 7 * j) (Or.inl (by omega)) w1 ((d3 hb).same (fun i hi => o2 _ (by omega)))
    rw [if_neg (by decide), Option.bind_some]
    have e5 : ald 8 (F_X2_copyFrom g2 14 (34 + 7 * j)) 33 (nI j) = some (1 : Int32) := by
      rw [ald_in (by omega) hj, (c1 33 (by unfold SNet; omega)).1, o2 33 (by omega), d1, hb]
      rfl
    rw [e5, Option.bind_some]
    refine ⟨F_X2_copyFrom g2 14 (34 + 7 * j), rfl, f2.trans (c1.mono (fun i hi => Or.inl (by unfold SNet at hi; omega))), c2, a2.fr c1 (fun i hi => by unfold SNet; omega), ring _ (fun a ha => (c1 a (by unfold SNet; omega)).1), fun z => by cases z⟩
theorem c_undo (hw : HW H) (hc : CA h N P) (hh : CH h N H) (hp : 0 < hK H) : ∃ h', F_X7_undo h = some (nI (hK H - 1), h') ∧ Fr SU h h' ∧ CA h' (hN H 0) (hP H 0) ∧ CH h' (hN H 0) (hpop H) := by
  obtain ⟨g, a1, a2, a3, a4, a5, a6⟩ := c_restore hw hc.1 hh hp
  obtain ⟨w1, w2⟩ := hw 0 hp
  have k1 : h.1 30 3 = nI (hK H) := by
    obtain ⟨nx, _, k1, _⟩ := hh
    exact k1
  have h8 : hK H ≤ 8 := by
    obtain ⟨nx, _, _, k2, _⟩ := hh
    exact k2
  have g3 : ∀ g' : PH, CH g' (hN H 0) (hpop H) → g'.1 30 3 = nI (hK H - 1) := fun g' hg => by
    obtain ⟨nx, _, k1, _⟩ := hg
    exact k1
  have fSU : Fr SU h g := a2.mono (fun i hi => by unfold SU; omega)
  unfold F_X7_undo
  rw [k1, if_pos (nI_ne0 hp (by omega)), a1, Option.bind_some]
  dsimp only
  cases hb : hL H 0 with
  | false =>
    have e9 := a6 hb
    refine ⟨g, ?_, fSU, ⟨a3, ?_, a4⟩, a5⟩
    · rw [if_pos (by rfl), g3 g a5]
    · rw [e9]
      exact hc.2.1.same (fun i h1 h2 => (a2 i (by omega)).1)
  | true =>
    obtain ⟨g', b1, b2, b3⟩ := c_explore w1 a3
    have ch : CH g' (hN H 0) (hpop H) := by
      obtain ⟨nx, n1, n2, n3, n4, n5⟩ := a5
      have ee : ∀ a, 26 ≤ a → g'.1 a = g.1 a := fun a ha => (b2 a (by unfold S2225; omega)).1
      refine ⟨nx, n1, by rw [ee 30 (by omega)]; exact n2, n3, by rw [ee 30 (by omega)]; exact n4, fun k hk => ?_⟩
      obtain ⟨m1, m2, m3, m4⟩ := n5 k hk
      exact ⟨by rw [ee 33 (by omega)]; exact m1, m2.same (fun i hi => ee _ (by omega)), fun z => (m3 z).same (fun i hi => ee _ (by omega)), m4⟩
    refine ⟨g', ?_, fSU.trans (b2.mono (fun i hi => by unfold S2225 at hi; unfold SU; omega)), ⟨a3.fr b2 (fun i hi => by unfold S2225; omega), b3, a4.fr b2 (fun i hi => by unfold S2225; omega)⟩, ch⟩
    rw [if_neg (by decide), b1, Option.bind_some, g3 g' ch]
theorem c_undo0 (hh : CH h N H) (hp : hK H = 0) : F_X7_undo h = some (-1, h) := by
  obtain ⟨nx, _, k1, _⟩ := hh
  unfold F_X7_undo
  rw [k1, hp, if_neg (fun z => z rfl)]
/-! the reference's rows -/
def S128 (a : Nat) : Prop := 128 ≤ a ∧ a ≤ 135
/-- what the reference's remember writes -/
def FrR (h h' : PH) : Prop := ∀ a, ¬ S128 a → (a ≠ 122 → h'.1 a = h.1 a) ∧ (∀ j, j ≠ 12 → h'.1 a j = h.1 a j) ∧ h'.2 a = h.2 a
theorem FrR.of {h h' : PH} (f : Fr S128 h h') : FrR h h' := fun a ha => ⟨fun _ => (f a ha).1, fun j _ => by rw [(f a ha).1], (f a ha).2⟩
theorem FrR.trans {h h' h'' : PH} (f : FrR h h') (g : FrR h' h'') : FrR h h'' := fun a ha => ⟨fun z => ((g a ha).1 z).trans ((f a ha).1 z), fun j hj => ((g a ha).2.1 j hj).trans ((f a ha).2.1 j hj), (g a ha).2.2.trans (f a ha).2.2⟩
theorem FrR.pu {h : PH} {v : Int32} : FrR h (pu h 122 12 v) := fun a _ => ⟨fun z => (pu_o h 122 12 v a z).1, fun j hj => by rw [pu_get, if_neg (fun y => hj y.2)], rfl⟩
end UND
