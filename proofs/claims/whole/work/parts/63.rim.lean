section RIM
variable {h : PH} {N : NT} {P : PT} {H : HT}
theorem r_impr1 {P' : PT} (hN9 : WN N) (w1 : WP N P') (c4 : RA h N P') (S : Int) (j : Int32) :
    ∃ t : (Int32 × Int32 × PH) ⊕ (Int32 × PH), loop (fun (s5 : Int32 × Int32 × Int32 × PH) =>
      (ald 1556 s5.2.2.2 124 (2 : Int32)).bind fun z6 =>
      if z6 ≤ s5.2.2.1 then
       if ¬ s5.1 = (-1 : Int32) then
        (F_X8_change s5.2.2.2 s5.1).bind fun z7 =>
        some (.inr (.inl ((zi S + z7.1), (j + (1 : Int32)), z7.2)))
       else
        some (.inr (.inr ((zi S, s5.2.2.2))))
      else
       (F_X8_tourWith s5.2.2.2 s5.2.2.1).bind fun z8 =>
        if ¬ z8 = (-1 : Int32) then
         (F_X8_gainOf s5.2.2.2 s5.2.2.1).bind fun z11 =>
         if s5.2.1 < z11.1 then
          some (.inl (s5.2.2.1, z11.1, (s5.2.2.1 + (1 : Int32)), z11.2))
         else
          some (.inl (s5.1, s5.2.1, (s5.2.2.1 + (1 : Int32)), z11.2))
        else
         if s5.2.1 < (0 : Int32) then
          some (.inl (s5.2.2.1, (0 : Int32), (s5.2.2.1 + (1 : Int32)), s5.2.2.2))
         else
          some (.inl (s5.1, s5.2.1, (s5.2.2.1 + (1 : Int32)), s5.2.2.2))) ((-1 : Int32), (0 : Int32), (0 : Int32), h) = some t ∧
      (∃ h', Fr SR h h' ∧ RA h' N (chP N P') ∧ (((wChg N P').1 = none ∧ t = .inr (zi S, h')) ∨ (∃ e, (wChg N P').1 = some e ∧ t = .inl (zi (S + (wChg N P').2), j + (1 : Int32), h')))) := by
  have hE := hN9.2.2.1
  refine loop_ind0 (σ := Int32 × Int32 × Int32 × PH) (fun j s => s.1 = eA (fG N P' j).1 ∧ s.2.1 = zi (fG N P' j).2 ∧ s.2.2.1 = nI j ∧ j ≤ wE N ∧ Fr SR h s.2.2.2 ∧ RA s.2.2.2 N P') _ (wE N) ⟨rfl, rfl, rfl, Nat.zero_le _, Fr.refl h, c4⟩ ?_
  rintro k ⟨p1, p2, p3, p4⟩ ⟨e1, e2, e3, hj, fr, ra⟩
  dsimp only at e1 e2 e3 fr ra ⊢
  subst e1
  subst e2
  subst e3
  obtain ⟨g1, g2, g3, g4⟩ := fG_ok hN9 w1 k hj
  rw [r_edges ra.1, Option.bind_some]
  rcases Nat.lt_or_ge k (wE N) with q | q
  · right
    refine ⟨q, ?_⟩
    rw [if_neg (nI_ge q (by omega)), r_with hN9 w1.1 ra.2.2.2 (by omega), Option.bind_some]
    have hb := wG_bnd hN9 w1 q
    have e5 : fG N P' (k + 1) = if (fG N P' k).2 < wG N P' k then (some k, wG N P' k) else fG N P' k := rfl
    rw [e5]
    cases hq : wTour P' k with
    | none =>
      have z0 := wG_0 (N := N) hq
      rw [show eA none = (-1 : Int32) from rfl, if_neg (fun z => z rfl), z0, if_neg (show ¬ (fG N P' k).2 < 0 by omega)]
      have nz : ¬ zi (fG N P' k).2 < 0 := fun z => by
        have z : zi (fG N P' k).2 < zi 0 := z
        rw [zi_lt (by omega) (by omega)] at z
        omega
      rw [if_neg nz]
      exact ⟨_, rfl, rfl, rfl, nI_1 k, q, fr, ra⟩
    | some t =>
      obtain ⟨ht, kk, hk⟩ := wTour_lt hq
      have h4 := w1.1.1
      obtain ⟨h', g, b1, b2, b3, b4⟩ := r_gain hN9 w1 ra q hq hk
      rw [show eA (some t) = nI t from rfl, if_pos (eA_ne (by omega)), b1, Option.bind_some]
      dsimp only
      by_cases z : (fG N P' k).2 < wG N P' k
      · have : g = wG N P' k := by omega
        subst this
        rw [if_pos (show zi (fG N P' k).2 < zi (wG N P' k) from (zi_lt (by omega) (by omega)).mpr z), if_pos z]
        exact ⟨_, rfl, rfl, rfl, nI_1 k, q, fr.trans (b2.mono (fun i hi => hi)), b3⟩
      · rw [if_neg (show ¬ zi (fG N P' k).2 < zi g from fun y => by rw [zi_lt (by omega) (by omega)] at y; omega), if_neg z]
        exact ⟨_, rfl, rfl, rfl, nI_1 k, q, fr.trans (b2.mono (fun i hi => hi)), b3⟩
  · obtain rfl : k = wE N := by omega
    left
    rw [if_pos (nI_le (Nat.le_refl _) (by omega))]
    have ew : wChg N P' = fG N P' (wE N) := rfl
    cases hch : (fG N P' (wE N)).1 with
    | none =>
      rw [show eA none = (-1 : Int32) from rfl, if_neg (fun z => z rfl)]
      refine ⟨_, rfl, p4, fr, ?_, Or.inl ⟨by rw [ew]; exact hch, rfl⟩⟩
      have : chP N P' = P' := by unfold chP wChg; rw [hch]
      rw [this]
      exact ra
    | some e =>
      obtain ⟨c1, c2, c3⟩ := g3 e hch
      obtain ⟨t, kk, c, w, h1, h2, h3, h4, h5, h6, h7⟩ := chE_WP hN9 w1 c1 (by omega)
      obtain ⟨h', g, b1, b2, b3⟩ := r_change hN9 w1 ra c1 h1 h2
      have b4 : g = wG N P' e ∧ RA h' N (chE N P' e) := by
        rcases b3 with z | z
        · exact z
        · omega
      obtain ⟨rfl, b5⟩ := b4
      rw [show eA (some e) = nI e from rfl, if_pos (eA_ne (by omega)), b1, Option.bind_some, zi_add]
      have : chP N P' = chE N P' e := by unfold chP wChg; rw [hch]
      refine ⟨_, rfl, h', fr.trans (b2.mono (fun i hi => by unfold S3 at hi; unfold SR; omega)), by rw [this]; exact b5, Or.inr ⟨e, by rw [ew]; exact hch, ?_⟩⟩
      rw [ew, c2]
theorem in_yes {a lo hi : Nat} (h1 : lo ≤ a) (h2 : a ≤ hi) (hb : hi < 2 ^ 31) : F_X8_in h (nI a) (nI lo) (nI hi) = (1 : Int32) := by
  unfold F_X8_in
  rw [if_neg (nI_nlt h1 (by omega)), if_neg (nI_nlt h2 (by omega))]
theorem fails_0 (c : Int32) (h0 : h.1 122 0 = 0) : F_X8_fails h (0 : Int32) c = ((0 : Int32), h) := by
  unfold F_X8_fails
  rw [if_pos rfl, if_pos h0]
theorem fails_1 {c : Int32} (h0 : h.1 122 0 = 0) (hc : c ≠ 0) : F_X8_fails h (1 : Int32) c = ((1 : Int32), pu h 122 0 c) := by
  unfold F_X8_fails
  have e : (pu h 122 0 c).1 122 0 = c := by rw [pu_get, if_pos ⟨rfl, rfl⟩]
  rw [if_neg (by decide), if_neg (fun z => z h0), e, if_neg hc]
theorem pu_0 : (pu h 122 0 (0 : Int32)).1 122 0 = 0 := by rw [pu_get, if_pos ⟨rfl, rfl⟩]
theorem r_improve {r : Nat} (h1 : 1 ≤ r) (h10 : r ≤ 10) (hN9 : WN N) (hp : WP N P) (hw : HW H) (hc : RA h N P) (hh : RH h H) : ∃ h', F_X8_improve h (nI r) = some (zi (impr N r P 0).2, h') ∧ FR h h' ∧ h'.1 122 0 = 0 ∧ RA h' N (impr N r P 0).1 ∧ RH h' (hpush H N P false) := by
  obtain ⟨g, a1, a2, a3⟩ := r_remember (b := false) hN9 hp (hc.u0 (v := 0) (j := 0) hN9) hw (hh.u0 (v := 0) (j := 0) hw (by omega))
  have ra := (hc.u0 (v := 0) (j := 0) hN9).frR hN9 hp.1 a2
  have f1 : FR h g := (FR.pu (by omega)).trans a2.FR
  have g0 : g.1 122 0 = 0 := by rw [(a2 122 (by unfold S128; omega)).2.1 0 (by omega), pu_get, if_pos ⟨rfl, rfl⟩]
  have hw2 : HW (hpush H N P false) := hw.push hN9 hp
  unfold F_X8_improve
  unfold jn
  dsimp only
  rw [show F_X8_in (pu h 122 0 (0 : Int32)) (nI r) (1 : Int32) (10 : Int32) = (1 : Int32) from in_yes (lo := 1) (hi := 10) h1 h10 (by omega), if_pos (show ¬ (1 : Int32) = 0 by decide), fails_0 _ pu_0]
  dsimp only
  rw [if_pos rfl, a1, Option.bind_some]
  refine ex_pr (loop_ind0 (σ := Int32 × Int32 × PH) (fun j s => s.2.1 = nI j ∧ j ≤ r ∧ ∃ P' S, s.1 = zi S ∧ WP N P' ∧ Fr SR g s.2.2 ∧ RA s.2.2 N P' ∧ impr N r P 0 = impr N (r - j) P' S) _ r ⟨rfl, Nat.zero_le _, P, 0, rfl, hp, Fr.refl g, ra, rfl⟩ ?_)
  have fin : ∀ g' : PH, Fr SR g g' → RA g' N (impr N r P 0).1 → FR h g' ∧ g'.1 122 0 = 0 ∧ RA g' N (impr N r P 0).1 ∧ RH g' (hpush H N P false) := fun g' y2 y3 => ⟨f1.trans (FR.of y2 (fun i hi => by unfold SR at hi; omega)), by rw [(y2 122 (by unfold SR; omega)).1]; exact g0, y3, a3.fr hw2 y2 (fun i hi => by unfold SR at hi; omega)⟩
  · rintro j ⟨p1, p2, p3⟩ ⟨e2, hj, P', S, e1, w1, fr, ra', ii⟩
    dsimp only at e1 e2 fr ra' ⊢
    subst e1
    subst e2
    rcases Nat.lt_or_ge j r with q | q
    · rw [if_neg (nI_ge q (by omega))]
      obtain ⟨t, k1, h', k2, k3, k4⟩ := r_impr1 hN9 w1 ra' S (nI j)
      rw [k1]
      have er : r - j = (r - (j + 1)) + 1 := by omega
      rcases k4 with ⟨z1, rfl⟩ | ⟨e, z1, rfl⟩
      · left
        have e9 : impr N r P 0 = (P', S) := by
          rw [ii, er]
          conv => lhs; unfold impr
          rw [z1]
        have e8 : chP N P' = P' := by unfold chP; rw [z1]
        rw [e8] at k3
        exact ⟨_, rfl, by rw [e9], fin h' (fr.trans k2) (by rw [e9]; exact k3)⟩
      · right
        refine ⟨q, _, rfl, nI_1 j, q, chP N P', S + (wChg N P').2, rfl, chP_WP hN9 w1, fr.trans k2, k3, ?_⟩
        rw [ii, er]
        conv => lhs; unfold impr
        rw [z1]
    · obtain rfl : j = r := by omega
      left
      rw [if_pos (nI_le (Nat.le_refl _) (by omega))]
      have : impr N j P 0 = (P', S) := by rw [ii, Nat.sub_self]; rfl
      exact ⟨_, rfl, by rw [this], fin p3 fr (by rw [this]; exact ra')⟩
end RIM
