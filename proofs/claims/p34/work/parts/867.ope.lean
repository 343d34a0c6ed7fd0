/-! THE CALLS THAT CHANGE THE PLAN -/
def opl (N : NT) (P : PT) (d : Nat) : PT := (pT P + 1, fun u => if u = pT P then wDp N d else pH P u, fun u => if u = pT P then 0 else pL P u, fun u => pA P u)
section OPE
variable {h : PH} {N : NT} {P : PT} {H : HT}
theorem opl_T (d : Nat) : pT (opl N P d) = pT P + 1 := rfl
theorem opl_H (d u : Nat) : pH (opl N P d) u = if u = pT P then wDp N d else pH P u := rfl
theorem opl_L (d u : Nat) : pL (opl N P d) u = if u = pT P then 0 else pL P u := rfl
theorem opl_A (d u k : Nat) : pA (opl N P d) u k = pA P u k := rfl
theorem opl_WP {d : Nat} (hN9 : WN N) (hp : WP N P) (hd : d < wD N) (h4 : pT P < 4) : WP N (opl N P d) := by
  obtain ⟨hw, hs, hv⟩ := hp
  refine ⟨⟨by rw [opl_T]; omega, fun u hu => ?_⟩, fun t k u j ht hk hu hj e => ?_, fun u hu => ?_⟩
  · rw [opl_T] at hu
    by_cases q : u = pT P
    · rw [opl_H, opl_L, if_pos q, if_pos q]
      exact ⟨hN9.2.2.2.2.2.2 d hd, by omega, fun k hk => by omega⟩
    · rw [opl_H, opl_L, if_neg q, if_neg q]
      exact hw.2 u (by omega)
  · rw [opl_T] at ht hu
    rw [opl_L] at hk hj
    by_cases q : t = pT P
    · rw [if_pos q] at hk; omega
    · by_cases q2 : u = pT P
      · rw [if_pos q2] at hj; omega
      · rw [if_neg q] at hk
        rw [if_neg q2] at hj
        exact hs t k u j (by omega) hk (by omega) hj e
  · rw [opl_T] at hu
    by_cases q : u = pT P
    · rw [opl_H, opl_L, if_pos q, if_pos q]
      intro k hk
      obtain rfl : k = 0 := by omega
      intro z
      cases z
    · rw [opl_H, opl_L, if_neg q, if_neg q]
      exact hv u (by omega)
theorem c_open {d : Nat} (hN9 : WN N) (hp : WP N P) (hc : CA h N P) (hd : d < wD N) (h4 : pT P < 4) : ∃ h', F_X3_addTour h (F_X7_at 3 h 20 (nI d)) = (nI (pT P), h') ∧ Fr (fun a => 26 ≤ a ∧ a ≤ 28) h h' ∧ CP h' 26 (opl N P d) := by
  have hD := hN9.2.2.2.1
  have e1 : F_X7_at 3 h 20 (nI d) = nI (wDp N d) := by
    rw [at_in (by omega) (by omega)]
    exact hc.1.2.2.2.2.2.2 d hd
  unfold F_X3_addTour
  rw [e1, hc.2.2.1, put_in (by omega) (by omega), put_in (by omega) (by omega)]
  generalize hg : pu (pu h 27 (pT P) (nI (wDp N d))) 28 (pT P) (0 : Int32) = g
  have fg : Fr (fun a => 26 ≤ a ∧ a ≤ 28) h g := by rw [← hg]; exact (Fr.pu (by omega)).trans (Fr.pu (by omega))
  have g27 : ∀ k, g.1 27 k = if k = pT P then nI (wDp N d) else h.1 27 k := fun k => by
    rw [← hg, pu_get, if_neg (by omega), pu_get]
    by_cases z : k = pT P
    · rw [if_pos ⟨rfl, z⟩, if_pos z]
    · rw [if_neg (fun y => z y.2), if_neg z]
  have g28 : ∀ k, g.1 28 k = if k = pT P then 0 else h.1 28 k := fun k => by
    rw [← hg, pu_get]
    by_cases z : k = pT P
    · rw [if_pos ⟨rfl, z⟩, if_pos z]
    · rw [if_neg (fun y => z y.2), if_neg z, pu_get, if_neg (by omega)]
  have g26 : g.1 26 = h.1 26 := by rw [← hg, (pu_o _ _ _ _ 26 (by omega)).1, (pu_o _ _ _ _ 26 (by omega)).1]
  have g29 : g.1 29 = h.1 29 := by rw [← hg, (pu_o _ _ _ _ 29 (by omega)).1, (pu_o _ _ _ _ 29 (by omega)).1]
  clear hg
  rw [g26, hc.2.2.1, nI_1]
  have oo : ∀ a, a ≠ 26 → (pu g 26 0 (nI (pT P + 1))).1 a = g.1 a := fun a ha => (pu_o g _ _ _ a ha).1
  refine ⟨_, rfl, fg.trans (Fr.pu (by omega)), by rw [pu_get, if_pos ⟨rfl, rfl⟩]; rfl, fun u hu => ?_⟩
  rw [opl_T] at hu
  rw [oo _ (by omega), oo _ (by omega), g27, g28, opl_H, opl_L]
  by_cases q : u = pT P
  · rw [if_pos q, if_pos q, if_pos q, if_pos q]
    exact ⟨rfl, rfl, fun k hk => by omega⟩
  · rw [if_neg q, if_neg q, if_neg q, if_neg q]
    obtain ⟨b1, b2, b3⟩ := hc.2.2.2 u (by omega)
    refine ⟨b1, b2, fun k hk => ?_⟩
    rw [oo _ (by omega), g29]
    exact b3 k hk
/-- behind the class's remember -/
theorem c_rem0 (hN9 : WN N) (hp : WP N P) (hw : HW H) (ca : CA h N P) (ch : CH h N H) : ∃ g, F_X1_remember h (0 : Int32) = some g ∧ Fr SC h g ∧ CA g N P ∧ CH g N (hpush H N P false) := by
  obtain ⟨g, a1, a2, a3⟩ := c_remember (b := false) hN9 hp ca.1 ca.2.2 hw ch
  exact ⟨g, a1, a2.mono (fun i hi => by unfold S30 at hi; unfold SC; omega), ca.fr30 a2, a3⟩
end OPE
