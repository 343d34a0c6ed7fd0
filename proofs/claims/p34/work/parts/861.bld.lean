/-! BUILD AND IMPROVE -/
/-- what the class's calls may write, beside the reader -/
def SC (a : Nat) : Prop := 14 ≤ a ∧ a ≤ 121
section BLD
variable {h : PH} {N : NT} {P : PT} {H : HT}
theorem CH.up {h' : PH} (c : CH h N H) (e : ∀ a, a = 30 ∨ 33 ≤ a → a ≤ 121 → h'.1 a = h.1 a) : CH h' N H := by
  obtain ⟨nx, n1, n2, n3, n4, n5⟩ := c
  refine ⟨nx, n1, by rw [e 30 (by omega) (by omega)]; exact n2, n3, by rw [e 30 (by omega) (by omega)]; exact n4, fun k hk => ?_⟩
  obtain ⟨m1, m2, m3, m4⟩ := n5 k hk
  have hs := hslot_lt nx k
  exact ⟨by rw [e 33 (by omega) (by omega)]; exact m1, m2.same (fun i hi => e _ (by omega) (by omega)), fun z => (m3 z).same (fun i hi => e _ (by omega) (by omega)), m4⟩
theorem CH.fr2 {h' : PH} (c : CH h N H) (f : Fr S2829 h h') : CH h' N H := c.up (fun a ha _ => (f a (by unfold S2829; omega)).1)
theorem CA.fr30 {h' : PH} (c : CA h N P) (f : Fr S30 h h') : CA h' N P := ⟨c.1.fr f (fun i hi => by unfold S30; omega), c.2.1.same (fun i h1 h2 => (f i (by unfold S30; omega)).1), c.2.2.fr f (fun i hi => by unfold S30; omega)⟩
theorem c_build (hN9 : WN N) (hp : WP N P) (hw : HW H) (hc : CA h N P) (hh : CH h N H) : ∃ h', F_X7_build h = some (nI (fB N P (wE N)).2, h') ∧ (Fr SC h h' ∧ CA h' N (fB N P (wE N)).1 ∧ CH h' N (hpush H N P false)) := by
  have hE := hN9.2.2.1
  obtain ⟨g, a1, a2, a3⟩ := c_remember (b := false) hN9 hp hc.1 hc.2.2 hw hh
  have ca := hc.fr30 a2
  have fS : Fr SC h g := a2.mono (fun i hi => by unfold S30 at hi; unfold SC; omega)
  unfold F_X7_build
  rw [show F_X1_remember h (0 : Int32) = some g from a1, Option.bind_some]
  refine ex_pr (loop_ind0 (σ := Int32 × Int32 × PH) (fun j s => s.1 = nI (fB N P j).2 ∧ s.2.1 = nI j ∧ j ≤ wE N ∧ Fr S2829 g s.2.2 ∧ CP s.2.2 26 (fB N P j).1) _ (wE N) ⟨rfl, rfl, Nat.zero_le _, Fr.refl g, ca.2.2⟩ ?_)
  rintro j ⟨p1, p2, p3⟩ ⟨e1, e2, hj, fr, cp⟩
  dsimp only at e1 e2 fr cp ⊢
  subst e1
  subst e2
  have c4 : CA p3 N (fB N P j).1 := ca.mk fr cp
  obtain ⟨w1, w2⟩ := fB_WP hN9 hp j hj
  rw [c4.1.2.2.1]
  rcases Nat.lt_or_ge j (wE N) with q | q
  · right
    refine ⟨q, ?_⟩
    rw [if_neg (nI_ge q (by omega)), c_wait hN9 w1.1 c4.1 c4.2.2 q, Option.bind_some]
    have e1 : fB N P (j + 1) = if wWt N (fB N P j).1 j then (match wBest N (fB N P j).1 j with
      | none => fB N P j
      | some (c, _) => (bpl (fB N P j).1 j c, (fB N P j).2 + 1)) else fB N P j := rfl
    rw [e1]
    by_cases y : wWt N (fB N P j).1 j = true
    · have y2 := y
      unfold wWt at y2
      rw [Bool.and_eq_true, Option.isNone_iff_eq_none] at y2
      obtain ⟨h', b1, b2, b3⟩ := c_insB hN9 w1 c4 q y2.2
      rw [if_pos y, if_neg (by decide), b1, Option.bind_some, if_pos y]
      cases hq : wBest N (fB N P j).1 j with
      | none =>
        rw [hq] at b3
        exact ⟨_, if_pos rfl, rfl, nI_1 j, q, fr.trans b2, b3⟩
      | some p =>
        obtain ⟨c, w⟩ := p
        rw [hq] at b3
        exact ⟨_, if_neg (show ¬ (1 : Int32) = 0 by decide), nI_1 _, nI_1 j, q, fr.trans b2, b3⟩
    · rw [if_neg y, if_pos rfl, if_neg y]
      exact ⟨_, rfl, rfl, nI_1 j, q, fr, cp⟩
  · obtain rfl : j = wE N := by omega
    left
    rw [if_pos (nI_le (Nat.le_refl _) (by omega))]
    exact ⟨_, rfl, rfl, fS.trans (fr.mono (fun i hi => by unfold S2829 at hi; unfold SC; omega)), c4, a3.fr2 fr⟩
theorem impr_ok (hN9 : WN N) : ∀ (m : Nat) {P : PT} {s : Int}, WP N P → WP N (impr N m P s).1 ∧ s ≤ (impr N m P s).2 ∧ (impr N m P s).2 ≤ s + 400000 * m
  | 0, P, s, hp => ⟨hp, Int.le_refl _, by show s ≤ s + 400000 * ((0 : Nat) : Int); omega⟩
  | m + 1, P, s, hp => by
    obtain ⟨g1, g2, g3, g4⟩ := fG_ok hN9 hp (wE N) (Nat.le_refl _)
    unfold impr
    cases hch : (wChg N P).1 with
    | none => exact ⟨hp, Int.le_refl _, by dsimp only; omega⟩
    | some e =>
      have hb : 0 ≤ (wChg N P).2 ∧ (wChg N P).2 ≤ 400000 := ⟨g1, g2⟩
      obtain ⟨a, b, c⟩ := impr_ok hN9 m (P := chP N P) (s := s + (wChg N P).2) (chP_WP hN9 hp)
      exact ⟨a, by dsimp only; omega, by dsimp only; omega⟩
theorem c_improve {r : Nat} (h1 : 1 ≤ r) (h10 : r ≤ 10) (hN9 : WN N) (hp : WP N P) (hw : HW H) (hc : CA h N P) (hh : CH h N H) : ∃ h', F_X7_improve h (nI r) = some (.inr (zi (impr N r P 0).2, h')) ∧ (Fr SC h h' ∧ CA h' N (impr N r P 0).1 ∧ CH h' N (hpush H N P false)) := by
  obtain ⟨g, a1, a2, a3⟩ := c_remember (b := false) hN9 hp hc.1 hc.2.2 hw hh
  have ca := hc.fr30 a2
  have fS : Fr SC h g := a2.mono (fun i hi => by unfold S30 at hi; unfold SC; omega)
  unfold F_X7_improve
  rw [if_neg (show ¬ nI r < (1 : Int32) from nI_nlt (b := 1) h1 (by omega)), if_pos (show nI r ≤ (10 : Int32) from nI_le (b := 10) h10 (by omega)), show F_X1_remember h (0 : Int32) = some g from a1, Option.bind_some]
  have key : ∃ t : Nat ⊕ (Int32 × PH), loop (fun (s2 : Int32 × Int32 × Int32 × PH) =>
    if nI r ≤ s2.2.2.1 then
     some (.inr (.inr ((s2.1, s2.2.2.2))))
    else
     if s2.2.1 ≤ 0 then
      some (.inr (.inr ((s2.1, s2.2.2.2))))
     else
      (F_X4_makeBestChange s2.2.2.2).bind fun z3 =>
      some (.inl ((s2.1 + z3.1), z3.1, (s2.2.2.1 + (1 : Int32)), z3.2))) ((0 : Int32), (1 : Int32), (0 : Int32), g) = some t ∧ (∃ p, t = .inr p ∧ p.1 = zi (impr N r P 0).2 ∧ Fr S2829 g p.2 ∧ CP p.2 26 (impr N r P 0).1) := by
    refine loop_ind0 (σ := Int32 × Int32 × Int32 × PH) (fun j s => s.2.2.1 = nI j ∧ j ≤ r ∧ ∃ P' S u, s.1 = zi S ∧ s.2.1 = zi u ∧ WP N P' ∧ 0 ≤ S ∧ S ≤ 400000 * j ∧ Fr S2829 g s.2.2.2 ∧ CP s.2.2.2 26 P' ∧ 0 ≤ u ∧ u ≤ 400000 ∧ (0 < u → impr N r P 0 = impr N (r - j) P' S) ∧ (u = 0 → impr N r P 0 = (P', S))) _ r ⟨rfl, Nat.zero_le _, P, 0, 1, rfl, rfl, hp, Int.le_refl _, by omega, Fr.refl g, ca.2.2, by omega, by omega, fun _ => rfl, fun z => (by omega)⟩ ?_
    rintro j ⟨p1, p2, p3, p4⟩ ⟨e3, hj, P', S, u, e1, e2, w1, s1, s2, fr, cp, u1, u2, v1, v2⟩
    dsimp only at e1 e2 e3 fr cp ⊢
    subst e1
    subst e2
    subst e3
    have c4 : CA p4 N P' := ca.mk fr cp
    rcases Nat.lt_or_ge j r with q | q
    · rw [if_neg (nI_ge q (by omega))]
      by_cases y : u = 0
      · left
        rw [if_pos (show zi u ≤ 0 by rw [y]; exact Int32.le_refl _)]
        have := v2 y
        exact ⟨_, rfl, (zi S, p4), rfl, by rw [this], fr, by rw [this]; exact cp⟩
      · right
        refine ⟨q, ?_⟩
        have ii := v1 (by omega)
        have nz : ¬ zi u ≤ 0 := fun z => by
          have z : zi u ≤ zi 0 := z
          rw [zi_le (by omega) (by omega)] at z
          omega
        rw [if_neg nz]
        obtain ⟨h', b1, b2, b3⟩ := c_change hN9 w1 c4
        obtain ⟨g1, g2, g3, g4⟩ := fG_ok hN9 w1 (wE N) (Nat.le_refl _)
        rw [b1, Option.bind_some]
        have hb : 0 ≤ (wChg N P').2 ∧ (wChg N P').2 ≤ 400000 := ⟨g1, g2⟩
        have er : r - j = (r - (j + 1)) + 1 := by omega
        refine ⟨_, rfl, nI_1 j, q, chP N P', S + (wChg N P').2, (wChg N P').2, zi_add _ _, rfl, chP_WP hN9 w1, by omega, by omega, fr.trans b2, b3, hb.1, hb.2, fun z => ?_, fun z => ?_⟩
        · rw [ii, er]
          cases hch : (wChg N P').1 with
          | none => exact absurd (g4 hch) (by unfold wChg at z; omega)
          | some e =>
            conv => lhs; unfold impr
            rw [hch]
        · rw [ii, er]
          cases hch : (wChg N P').1 with
          | none =>
            conv => lhs; unfold impr
            have : chP N P' = P' := by unfold chP; rw [hch]
            rw [hch, z, this]
            show (P', S) = (P', S + 0)
            rw [Int.add_zero]
          | some e =>
            obtain ⟨_, c2, c3⟩ := g3 e hch
            exact absurd z (by unfold wChg; omega)
    · obtain rfl : j = r := by omega
      left
      rw [if_pos (nI_le (Nat.le_refl _) (by omega))]
      have : impr N j P 0 = (P', S) := by
        by_cases y : u = 0
        · exact v2 y
        · rw [v1 (by omega), Nat.sub_self]
          rfl
      exact ⟨_, rfl, (zi S, p4), rfl, by rw [this], fr, by rw [this]; exact cp⟩
  obtain ⟨t, k1, ⟨x, y⟩, rfl, k2, k3, k4⟩ := key
  have k2 : x = _ := k2
  rw [k2] at k1
  exact ⟨y, k1, fS.trans (k3.mono (fun i hi => by unfold S2829 at hi; unfold SC; omega)), ca.mk k3 k4, a3.fr2 k3⟩
end BLD
