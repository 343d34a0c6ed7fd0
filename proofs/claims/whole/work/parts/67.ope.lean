/-! THE CALLS THAT CHANGE THE PLAN -/
def opl (N : NT) (P : PT) (d : Nat) : PT := (pT P + 1, fun u => if u = pT P then wDp N d else pH P u, fun u => if u = pT P then 0 else pL P u, fun u => pA P u)
section OPE
variable {h : PH} {N : NT} {P : PT} {H : HT}
theorem opl_T (d : Nat) : pT (opl N P d) = pT P + 1 := rfl
theorem opl_H (d u : Nat) : pH (opl N P d) u = if u = pT P then wDp N d else pH P u := rfl
theorem opl_L (d u : Nat) : pL (opl N P d) u = if u = pT P then 0 else pL P u := rfl
theorem opl_A (d u k : Nat) : pA (opl N P d) u k = pA P u k := rfl
theorem opl_WP {d : Nat} (hN9 : WN N) (hp : WP N P) (hd : d < wD N) (h4 : pT P < 4) : WP N (opl N P d) := by
  obtain ⟨hw, hs, hv⟩ := hp
  refine ⟨⟨by rw [opl_T]; omega, fun u hu => ?_⟩, fun t k u j ht hk hu hj e => ?_, fun u hu => ?_⟩
  · rw [opl_T] at hu
    by_cases q : u = pT P
    · rw [opl_H, opl_L, if_pos q, if_pos q]
      exact ⟨hN9.2.2.2.2.2.2 d hd, by omega, fun k hk => by omega⟩
    · rw [opl_H, opl_L, if_neg q, if_neg q]
      exact hw.2 u (by omega)
  · rw [opl_T] at ht hu
    rw [opl_L] at hk hj
    by_cases q : t = pT P
    · rw [if_pos q] at hk; omega
    · by_cases q2 : u = pT P
      · rw [if_pos q2] at hj; omega
      · rw [if_neg q] at hk
        rw [if_neg q2] at hj
        exact hs t k u j (by omega) hk (by omega) hj e
  · rw [opl_T] at hu
    by_cases q : u = pT P
    · rw [opl_H, opl_L, if_pos q, if_pos q]
      intro k hk
      obtain rfl : k = 0 := by omega
      intro z
      cases z
    · rw [opl_H, opl_L, if_neg q, if_neg q]
      exact hv u (by omega)
theorem c_open {d : Nat} (hN9 : WN N) (hp : WP N P) (hc : CA h N P) (hd : d < wD N) (h4 : pT P < 4) : ∃ h', F_X3_addTour h (F_X7_at 3 h 20 (nI d)) = (nI (pT P), h') ∧ Fr (fun a => 26 ≤ a ∧ a ≤ 28) h h' ∧ CP h' 26 (opl N P d) := by
  have hD := hN9.2.2.2.1
  have e1 : F_X7_at 3 h 20 (nI d) = nI (wDp N d) := by
    rw [at_in (by omega) (by omega)]
    exact hc.1.2.2.2.2.2.2 d hd
  unfold F_X3_addTour
  rw [e1, hc.2.2.1, put_in (by omega) (by omega), put_in (by omega) (by omega)]
  generalize hg : pu (pu h 27 (pT P) (nI (wDp N d))) 28 (pT P) (0 : Int32) = g
  have fg : Fr (fun a => 26 ≤ a ∧ a ≤ 28) h g := by rw [← hg]; exact (Fr.pu (by omega)).trans (Fr.pu (by omega))
  have g27 : ∀ k, g.1 27 k = if k = pT P then nI (wDp N d) else h.1 27 k := fun k => by
    rw [← hg, pu_get, if_neg (by omega), pu_get]
    by_cases z : k = pT P
    · rw [if_pos ⟨rfl, z⟩, if_pos z]
    · rw [if_neg (fun y => z y.2), if_neg z]
  have g28 : ∀ k, g.1 28 k = if k = pT P then 0 else h.1 28 k := fun k => by
    rw [← hg, pu_get]
    by_cases z : k = pT P
    · rw [if_pos ⟨rfl, z⟩, if_pos z]
    · rw [if_neg (fun y => z y.2), if_neg z, pu_get, if_neg (by omega)]
  have g26 : g.1 26 = h.1 26 := by rw [← hg, (pu_o _ _ _ _ 26 (by omega)).1, (pu_o _ _ _ _ 26 (by omega)).1]
  have g29 : g.1 29 = h.1 29 := by rw [← hg, (pu_o _ _ _ _ 29 (by omega)).1, (pu_o _ _ _ _ 29 (by omega)).1]
  clear hg
  rw [g26, hc.2.2.1, nI_1]
  have oo : ∀ a, a ≠ 26 → (pu g 26 0 (nI (pT P + 1))).1 a = g.1 a := fun a ha => (pu_o g _ _ _ a ha).1
  refine ⟨_, rfl, fg.trans (Fr.pu (by omega)), by rw [pu_get, if_pos ⟨rfl, rfl⟩]; rfl, fun u hu => ?_⟩
  rw [opl_T] at hu
  rw [oo _ (by omega), oo _ (by omega), g27, g28, opl_H, opl_L]
  by_cases q : u = pT P
  · rw [if_pos q, if_pos q, if_pos q, if_pos q]
    exact ⟨rfl, rfl, fun k hk => by omega⟩
  · rw [if_neg q, if_neg q, if_neg q, if_neg q]
    obtain ⟨b1, b2, b3⟩ := hc.2.2.2 u (by omega)
    refine ⟨b1, b2, fun k hk => ?_⟩
    rw [oo _ (by omega), g29]
    exact b3 k hk
theorem r_open {d : Nat} (hN9 : WN N) (hp : WP N P) (hc : RA h N P) (hd : d < wD N) (h4 : pT P < 4) : ∃ h', ((ald 1556 h 124 (4 : Int32)).bind fun z8 =>
     (ald 1556 h 124 (4 : Int32)).bind fun z9 =>
     (ast 1556 h 124 (4 : Int32) (z9 + (1 : Int32))).bind fun h10 =>
     (ald 1556 h10 124 ((189 : Int32) + nI d)).bind fun z11 =>
     (ast 1556 h10 124 (F_X8_tour h10 z8) z11).bind fun h12 =>
     (ast 1556 h12 124 ((F_X8_tour h12 z8) + (1 : Int32)) (0 : Int32)).bind fun h13 =>
     some ((z8, h13))) = some (nI (pT P), h') ∧ Fr S124 h h' ∧ RA h' N (opl N P d) := by
  have hD := hN9.2.2.2.1
  rw [r_tours hc.2.2.2, Option.bind_some, Option.bind_some, nI_1, i4, ast_in (by omega) (by omega), Option.bind_some, i189, nI_add, ald_in (by omega) (by omega), Option.bind_some, r_tour, ast_in (by omega) (by omega), Option.bind_some, r_tour, nI_1, ast_in (by omega) (by omega), Option.bind_some]
  have e1 : (pu h 124 4 (nI (pT P + 1))).1 124 (189 + d) = nI (wDp N d) := by
    rw [pu_get, if_neg (by omega)]
    exact hc.1.2.2.2.2.2.2 d hd
  rw [e1]
  generalize hg : pu (pu (pu h 124 4 (nI (pT P + 1))) 124 (192 + 16 * pT P) (nI (wDp N d))) 124 (192 + 16 * pT P + 1) (0 : Int32) = g
  have fg : Fr S124 h g := by rw [← hg]; exact ((Fr.pu (S := S124) rfl).trans (Fr.pu (S := S124) rfl)).trans (Fr.pu (S := S124) rfl)
  have cell : ∀ k, g.1 124 k = if k = 192 + 16 * pT P + 1 then 0 else if k = 192 + 16 * pT P then nI (wDp N d) else if k = 4 then nI (pT P + 1) else h.1 124 k := fun k => by
    rw [← hg, pu_get]
    by_cases z : k = 192 + 16 * pT P + 1
    · rw [if_pos ⟨rfl, z⟩, if_pos z]
    · rw [if_neg (fun y => z y.2), if_neg z, pu_get]
      by_cases z : k = 192 + 16 * pT P
      · rw [if_pos ⟨rfl, z⟩, if_pos z]
      · rw [if_neg (fun y => z y.2), if_neg z, pu_get]
        by_cases z : k = 4
        · rw [if_pos ⟨rfl, z⟩, if_pos z]
        · rw [if_neg (fun y => z y.2), if_neg z]
  clear hg
  have far : ∀ k, k ≠ 4 → (k < 192 ∨ 256 ≤ k) → g.1 124 k = h.1 124 k := fun k h1 h2 => by
    rw [cell, if_neg (by omega), if_neg (by omega), if_neg h1]
  refine ⟨g, rfl, fg, hc.1.row hN9 (fun j h1 h2 => far j h2 (Or.inl h1)), hc.2.1.row (far 5 (by omega) (by omega)) (far 6 (by omega) (by omega)) (fun j hj => far j (by omega) (Or.inr hj)), hc.2.2.1.same (fun j hj => (fg _ (by unfold S124; omega)).1) hN9, ?_, fun u hu => ?_⟩
  · rw [cell, if_neg (by omega), if_neg (by omega), if_pos rfl]
    rfl
  · rw [opl_T] at hu
    rw [opl_H, opl_L]
    by_cases q : u = pT P
    · rw [if_pos q, if_pos q, cell, if_neg (by omega), if_pos (by omega), cell, if_pos (by omega)]
      exact ⟨rfl, rfl, fun k hk => by omega⟩
    · rw [if_neg q, if_neg q]
      obtain ⟨b1, b2, b3⟩ := hc.2.2.2.2 u (by omega)
      refine ⟨?_, ?_, fun k hk => ?_⟩
      · rw [cell, if_neg (by omega), if_neg (by omega), if_neg (by omega)]
        exact b1
      · rw [cell, if_neg (by omega), if_neg (by omega), if_neg (by omega)]
        exact b2
      · have h14 := (hp.1.2 u (by omega)).2.1
        rw [cell, if_neg (by omega), if_neg (by omega), if_neg (by omega)]
        exact b3 k hk
/-- behind the class's remember -/
theorem c_rem0 (hN9 : WN N) (hp : WP N P) (hw : HW H) (ca : CA h N P) (ch : CH h N H) : ∃ g, F_X1_remember h (0 : Int32) = some g ∧ Fr SC h g ∧ CA g N P ∧ CH g N (hpush H N P false) := by
  obtain ⟨g, a1, a2, a3⟩ := c_remember (b := false) hN9 hp ca.1 ca.2.2 hw ch
  exact ⟨g, a1, a2.mono (fun i hi => by unfold S30 at hi; unfold SC; omega), ca.fr30 a2, a3⟩
/-- behind the reference's -/
theorem r_rem0 (hN9 : WN N) (hp : WP N P) (hw : HW H) (ra : RA h N P) (rh : RH h H) : ∃ g, F_X8_remember h = some g ∧ FR h g ∧ g.1 122 0 = h.1 122 0 ∧ RA g N P ∧ RH g (hpush H N P false) := by
  obtain ⟨g, a1, a2, a3⟩ := r_remember (b := false) hN9 hp ra hw rh
  exact ⟨g, a1, a2.FR, (a2 122 (by unfold S128; omega)).2.1 0 (by omega), ra.frR hN9 hp.1 a2, a3⟩
theorem op_open (a : Int32) (ok : okS N P H) : opOK N P H (fun h => F_L_openTour h a) (fun h => F_X8_openTour h a) := by
  obtain ⟨hN9, hp, hw⟩ := ok
  have hD := hN9.2.2.2.1
  have hT := hp.1.1
  intro h ca ch
  have edep : ∀ {h1 : PH}, RA h1 N P → ald 1556 h1 124 (3 : Int32) = some (nI (wD N)) := fun ra => by rw [i3, r_num (by omega), ra.1.2.2.2.1]
  rcases rng (n := wD N) (by omega) a with ⟨d, hd, rfl⟩ | q
  · by_cases h4 : pT P < 4
    · refine ⟨0, nI (pT P), N, opl N P d, hpush H N P false, ⟨hN9, opl_WP hN9 hp hd h4, hw.push hN9 hp⟩, ?_, fun h1 ra rh => ?_⟩
      · dsimp only
        unfold F_L_openTour F_X7_openTour
        obtain ⟨g, a1, a2, a3, a4⟩ := c_rem0 hN9 hp hw ca ch
        obtain ⟨g2, b1, b2, b3⟩ := c_open hN9 hp a3 hd h4
        rw [ca.1.2.2.2.1, if_neg (nI_pos (by omega)), if_pos (nI_lt hd (by omega)), ca.2.2.1, if_pos (show nI (pT P) < (4 : Int32) from nI_lt (b := 4) h4 (by omega)), a1, Option.bind_some, b1, Option.bind_some, bs_r]
        refine out_val2 (a2.trans (b2.mono (fun i hi => by unfold SC; omega))) ⟨a3.1.fr b2 (fun j hj => by omega), a3.2.1.same (fun j h1 h2 => (b2 j (by omega)).1), b3⟩ (a4.up (fun a ha h1 => (b2 a (by omega)).1))
      · dsimp only
        unfold F_X8_openTour jn
        dsimp only
        have ra0 := ra.u0 (v := 0) (j := 0) hN9
        have rh0 := rh.u0 (v := 0) (j := 0) hw (by omega)
        obtain ⟨g, a1, a2, a3, a4, a5⟩ := r_rem0 hN9 hp hw ra0 rh0
        obtain ⟨g2, b1, b2, b3⟩ := r_open hN9 hp a4 hd h4
        rw [edep ra0, Option.bind_some, in_ok (by omega) hd, if_pos (show ¬ (1 : Int32) = 0 by decide), fails_0 _ pu_0]
        dsimp only
        rw [if_neg (fun z => z rfl), r_tours ra0.2.2.2, Option.bind_some, if_pos (show ¬ nI (pT P) = (4 : Int32) from fun z => by have := (nI_eq (b := 4) (by omega) (by omega)).mp z; omega), fails_0 _ pu_0]
        dsimp only
        rw [if_pos rfl, a1, Option.bind_some, b1]
        exact ⟨_, g2, rfl, ((FR.pu (by omega)).trans a2).trans (FR.of b2 (fun i hi => by unfold S124 at hi; omega)), by rw [(b2 122 (by unfold S124; omega)).1, a3]; exact pu_0, b3, a5.fr (hw.push hN9 hp) b2 (fun i hi => by unfold S124 at hi; omega), fun _ => rfl⟩
    · have h4 : pT P = 4 := by omega
      refine ⟨2, 0, N, P, H, ⟨hN9, hp, hw⟩, ?_, fun h1 ra rh => ?_⟩
      · dsimp only
        unfold F_L_openTour F_X7_openTour
        rw [ca.1.2.2.2.1, if_neg (nI_pos (by omega)), if_pos (nI_lt hd (by omega)), ca.2.2.1, h4, if_neg (show ¬ nI 4 < (4 : Int32) from fun z => Int32.lt_irrefl z), Option.bind_some, bs_l]
        exact out_thr (by decide) ca ch
      · dsimp only
        unfold F_X8_openTour jn
        dsimp only
        have ra0 := ra.u0 (v := 0) (j := 0) hN9
        rw [edep ra0, Option.bind_some, in_ok (by omega) hd, if_pos (show ¬ (1 : Int32) = 0 by decide), fails_0 _ pu_0]
        dsimp only
        rw [if_neg (fun z => z rfl), r_tours ra0.2.2.2, Option.bind_some, h4, if_neg (fun z => z rfl), fails_1 pu_0 (by decide)]
        exact r_thr hN9 hw ra rh (by decide)
  · refine ⟨1, 0, N, P, H, ⟨hN9, hp, hw⟩, ?_, fun h1 ra rh => ?_⟩
    · dsimp only
      unfold F_L_openTour F_X7_openTour
      rw [ca.1.2.2.2.1, req_no q, Option.bind_some, bs_l]
      exact out_thr (by decide) ca ch
    · dsimp only
      unfold F_X8_openTour jn
      dsimp only
      have ra0 := ra.u0 (v := 0) (j := 0) hN9
      rw [edep ra0, Option.bind_some, in_no (by omega) q, if_neg (fun z => z rfl), fails_1 pu_0 (by decide)]
      exact r_thr hN9 hw ra rh (by decide)
end OPE
