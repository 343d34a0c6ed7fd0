/-! the reference's build and improve, behind their remember -/
section RBL
variable {h : PH} {N : NT} {P : PT} {H : HT}
/-- what the reference's calls keep: the class, the buffer, the text's length, the error's place -/
def FR (h h' : PH) : Prop := (∀ a, a < 122 ∨ a = 123 ∨ 166 ≤ a → h'.1 a = h.1 a ∧ h'.2 a = h.2 a) ∧ ∀ j, j = 2 ∨ j = 7 → h'.1 122 j = h.1 122 j
theorem FR.refl (h : PH) : FR h h := ⟨fun _ _ => ⟨rfl, rfl⟩, fun _ _ => rfl⟩
theorem FR.trans {h h' h'' : PH} (f : FR h h') (g : FR h' h'') : FR h h'' := ⟨fun a ha => ⟨(g.1 a ha).1.trans (f.1 a ha).1, (g.1 a ha).2.trans (f.1 a ha).2⟩, fun j hj => (g.2 j hj).trans (f.2 j hj)⟩
theorem FR.of {S : Nat → Prop} {h h' : PH} (f : Fr S h h') (hs : ∀ i, S i → 124 ≤ i ∧ i ≤ 165) : FR h h' := ⟨fun a ha => f a (fun z => by have := hs a z; omega), fun j _ => by rw [(f 122 (fun z => by have := hs 122 z; omega)).1]⟩
theorem FrR.FR {h h' : PH} (f : FrR h h') : FR h h' := ⟨fun a ha => ⟨(f a (by unfold S128; omega)).1 (by omega), (f a (by unfold S128; omega)).2.2⟩, fun j hj => (f 122 (by unfold S128; omega)).2.1 j (by omega)⟩
theorem FR.pu {h : PH} {j : Nat} {v : Int32} (hj : j ≠ 2 ∧ j ≠ 7) : FR h (pu h 122 j v) := ⟨fun a ha => pu_o h 122 j v a (by omega), fun i hi => by rw [pu_get, if_neg (fun y => by omega)]⟩
/-- a row that the reference's calls leave -/
theorem RH.up {h' : PH} (c : RH h H) (hw : HW H) (e12 : h'.1 122 12 = h.1 122 12) (e : ∀ a, 128 ≤ a → a ≤ 135 → h'.1 a = h.1 a) : RH h' H := ⟨by rw [e12]; exact c.1, c.2.1, fun k hk => (c.2.2 k hk).same (hw k hk).1 (hw k hk).2.1 (by
    have := c.2.1
    exact e _ (by omega) (by omega))⟩
theorem RH.fr {h' : PH} {S : Nat → Prop} (c : RH h H) (hw : HW H) (f : Fr S h h') (hs : ∀ i, S i → 123 ≤ i ∧ ¬ (128 ≤ i ∧ i ≤ 135)) : RH h' H := c.up hw (by rw [(f 122 (fun z => by have := hs 122 z; omega)).1]) (fun a h1 h2 => (f a (fun z => by have := hs a z; omega)).1)
theorem RA.frR {h' : PH} (hN9 : WN N) (hw : WQ N P) (c : RA h N P) (f : FrR h h') : RA h' N P := by
  have e : ∀ a, ¬ S128 a → a ≠ 122 → h'.1 a = h.1 a := fun a ha hb => (f a ha).1 hb
  exact ⟨c.1.same (e 124 (by unfold S128; omega) (by omega)), c.2.1.cp (fun j _ => by rw [e 124 (by unfold S128; omega) (by omega)]), c.2.2.1.same (fun j hj => e _ (by unfold S128; omega) (by omega)) hN9, c.2.2.2.same (e 124 (by unfold S128; omega) (by omega))⟩
theorem r_undo (hw : HW H) (hh : RH h H) (h0 : 0 < hK H) : ∃ h', F_X8_undo h = some (nI (hK H - 1), h') ∧ FR h h' ∧ h'.1 122 0 = 0 ∧ RA h' (hN H 0) (hP H 0) ∧ RH h' (hpop H) := by
  obtain ⟨k1, k2, k3⟩ := hh
  obtain ⟨w1, w2⟩ := hw 0 h0
  unfold F_X8_undo
  have e1 : (pu h 122 0 (0 : Int32)).1 122 12 = nI (hK H) := by rw [pu_get, if_neg (by omega), k1]
  rw [e1, if_pos (nI_ne0 h0 (by omega)), show nI (hK H) - (1 : Int32) = nI (hK H - 1) from nI_sub (a := hK H) (b := 1) h0]
  generalize hg1 : pu (pu h 122 0 (0 : Int32)) 122 12 (nI (hK H - 1)) = g1
  have q1 : g1.1 122 12 = nI (hK H - 1) := by rw [← hg1, pu_get, if_pos ⟨rfl, rfl⟩]
  have q0 : g1.1 122 0 = 0 := by rw [← hg1, pu_get, if_neg (by omega), pu_get, if_pos ⟨rfl, rfl⟩]
  have qo : ∀ a, a ≠ 122 → g1.1 a = h.1 a := fun a ha => by rw [← hg1, (pu_o _ 122 _ _ a ha).1, (pu_o _ 122 _ _ a ha).1]
  have f1 : FR h g1 := by rw [← hg1]; exact (FR.pu (by omega)).trans (FR.pu (by omega))
  clear hg1
  obtain ⟨g2, a1, a2, a3⟩ := r_copy (h := g1) (o := 128 + 1 * (hK H - 1)) (w := 124) (by omega)
  have d2 : DA g2 124 (hN H 0) (hP H 0) := by
    have := k3 0 h0
    rw [Nat.sub_zero] at this
    exact this.cp w1 w2.1 (fun j hj => by rw [a3 j hj, qo _ (by omega)])
  obtain ⟨g3, b1, b2, b3⟩ := r_gaps w1 d2.1
  rw [q1, aidx_in (by omega) (by omega), Option.bind_some, a1, Option.bind_some, b1, Option.bind_some]
  have e12 : g3.1 122 = g1.1 122 := by rw [(b2 122 (by unfold S137; omega)).1, (a2 122 (by omega)).1]
  refine ⟨g3, by rw [e12, q1], (f1.trans (FR.of a2 (fun i hi => by omega))).trans (FR.of b2 (fun i hi => by unfold S137 at hi; omega)), by rw [e12, q0], ⟨d2.1.fr b2 (by unfold S137; omega), d2.2.1.cp (fun j _ => by rw [(b2 124 (by unfold S137; omega)).1]), b3, d2.2.2.fr b2 (by unfold S137; omega)⟩, by rw [e12, q1]; rfl, by have : hK (hpop H) = hK H - 1 := rfl; omega, fun k hk => ?_⟩
  have hk : k < hK H - 1 := hk
  have e9 : hK (hpop H) - 1 - k = hK H - 1 - (k + 1) := by have : hK (hpop H) = hK H - 1 := rfl; omega
  rw [e9]
  obtain ⟨v1, v2⟩ := hw (k + 1) (by omega)
  exact (k3 (k + 1) (by omega)).same v1 v2.1 (by rw [(b2 _ (by unfold S137; omega)).1, (a2 _ (by omega)).1, qo _ (by omega)])
theorem r_undo0 (hh : RH h H) (h0 : hK H = 0) : F_X8_undo h = some (-1, pu h 122 0 (0 : Int32)) := by
  unfold F_X8_undo
  have e1 : (pu h 122 0 (0 : Int32)).1 122 12 = nI (hK H) := by rw [pu_get, if_neg (by omega), hh.1]
  rw [e1, h0, if_neg (fun z => z rfl)]
def SR (a : Nat) : Prop := a = 124 ∨ a = 165 ∨ a = 126
theorem RA.u0 {v : Int32} {j : Nat} (hN9 : WN N) (c : RA h N P) : RA (pu h 122 j v) N P := c.fr hN9 (Fr.pu (S := fun a => a = 122) rfl) (by omega) (fun j hj => by omega)
theorem RH.u0 {v : Int32} {j : Nat} (hw : HW H) (c : RH h H) (hj : j ≠ 12) : RH (pu h 122 j v) H := c.up hw (by rw [pu_get, if_neg (fun z => by omega)]) (fun a h1 h2 => (pu_o _ _ _ _ a (by omega)).1)
theorem r_build (hN9 : WN N) (hp : WP N P) (hw : HW H) (hc : RA h N P) (hh : RH h H) : ∃ h', F_X8_build h = some (nI (fB N P (wE N)).2, h') ∧ (FR h h' ∧ h'.1 122 0 = 0 ∧ RA h' N (fB N P (wE N)).1 ∧ RH h' (hpush H N P false)) := by
  have hE := hN9.2.2.1
  obtain ⟨g, a1, a2, a3⟩ := r_remember (b := false) hN9 hp (hc.u0 (v := 0) (j := 0) hN9) hw (hh.u0 (v := 0) (j := 0) hw (by omega))
  have ra := (hc.u0 (v := 0) (j := 0) hN9).frR hN9 hp.1 a2
  have f1 : FR h g := (FR.pu (by omega)).trans a2.FR
  have g0 : g.1 122 0 = 0 := by rw [(a2 122 (by unfold S128; omega)).2.1 0 (by omega), pu_get, if_pos ⟨rfl, rfl⟩]
  have hw2 : HW (hpush H N P false) := hw.push hN9 hp
  unfold F_X8_build
  rw [a1, Option.bind_some]
  refine ex_pr (loop_ind0 (σ := Int32 × Int32 × PH) (fun j s => s.1 = nI (fB N P j).2 ∧ s.2.1 = nI j ∧ j ≤ wE N ∧ Fr SR g s.2.2 ∧ RA s.2.2 N (fB N P j).1) _ (wE N) ⟨rfl, rfl, Nat.zero_le _, Fr.refl g, ra⟩ ?_)
  rintro j ⟨p1, p2, p3⟩ ⟨e1, e2, hj, fr, c4⟩
  dsimp only at e1 e2 fr c4 ⊢
  subst e1
  subst e2
  obtain ⟨w1, w2⟩ := fB_WP hN9 hp j hj
  rw [r_edges c4.1, Option.bind_some]
  rcases Nat.lt_or_ge j (wE N) with q | q
  · right
    refine ⟨q, ?_⟩
    rw [if_neg (nI_ge q (by omega)), r_wait hN9 w1.1 c4.1 c4.2.2.2 q, Option.bind_some]
    unfold jn
    dsimp only
    have e1 : fB N P (j + 1) = if wWt N (fB N P j).1 j then (match wBest N (fB N P j).1 j with
      | none => fB N P j
      | some (c, _) => (bpl (fB N P j).1 j c, (fB N P j).2 + 1)) else fB N P j := rfl
    rw [e1]
    by_cases y : wWt N (fB N P j).1 j = true
    · have y2 := y
      unfold wWt at y2
      rw [Bool.and_eq_true, Option.isNone_iff_eq_none] at y2
      have h13 := room13 hN9 w1.1 w1.2.1 q y2.2
      obtain ⟨h', b1, b2, b3⟩ := r_find hN9 w1.1 w1.2.2 h13 c4 q
      rw [if_pos y, if_neg (show ¬ (1 : Int32) = 0 by decide), b1, Option.bind_some, if_pos y]
      dsimp only
      cases hq : wBest N (fB N P j).1 j with
      | none =>
        rw [show cB none = (-1 : Int32) from rfl, if_neg (fun z => z rfl)]
        exact ⟨_, rfl, rfl, nI_1 j, q, fr.trans (b2.mono (fun i hi => by unfold S3 at hi; unfold SR; omega)), b3⟩
      | some p =>
        obtain ⟨c, w⟩ := p
        have hg := best_gd hq
        have hcb := (gd_bnd hN9 w1.1 w1.2.2 h13 q hg rfl).1
        obtain ⟨h2, d1, d2, d3⟩ := r_putBy hN9 w1.1 h13 b3 q hg
        rw [show cB (some (c, w)) = nI c from rfl, if_pos (show ¬ nI c = (-1 : Int32) from eA_ne (by omega)), d1, Option.bind_some]
        exact ⟨_, rfl, nI_1 _, nI_1 j, q, fr.trans ((b2.mono (fun i hi => by unfold S3 at hi; unfold SR; omega)).trans (d2.mono (fun i hi => by unfold S124 at hi; unfold SR; omega))), d3⟩
    · rw [if_neg y, if_pos rfl, if_neg y, if_neg (fun z => z rfl)]
      exact ⟨_, rfl, rfl, nI_1 j, q, fr, c4⟩
  · obtain rfl : j = wE N := by omega
    left
    rw [if_pos (nI_le (Nat.le_refl _) (by omega))]
    exact ⟨_, rfl, rfl, f1.trans (FR.of fr (fun i hi => by unfold SR at hi; omega)), by rw [(fr 122 (by unfold SR; omega)).1]; exact g0, c4, a3.fr hw2 fr (fun i hi => by unfold SR at hi; omega)⟩
end RBL
