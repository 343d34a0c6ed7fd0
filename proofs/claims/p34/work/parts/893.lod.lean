/-! LOAD -/
def rS (x : PH) (n : Nat) : PH := pu (pu (pu (pu (pu (pu (pu (pu x 122 0 (0 : Int32)) 122 2 (0 : Int32)) 122 3 (nI n)) 122 4 (0 : Int32)) 122 5 (0 : Int32)) 122 6 (-1 : Int32)) 122 14 (0 : Int32)) 122 15 (0 : Int32)
section LOD
variable {h : PH} {N : NT} {P : PT} {H : HT}
theorem and255 (x : Int32) : (x &&& (255 : Int32)).toBitVec.toNat < 256 ∧ x &&& (255 : Int32) = nI (x &&& (255 : Int32)).toBitVec.toNat := by
  constructor
  · rw [Int32.toBitVec_and, BitVec.toNat_and]
    exact Nat.lt_of_le_of_lt Nat.and_le_right (by decide)
  · apply Int32.toBitVec_inj.mp
    show _ = (Int32.ofNat _).toBitVec
    rw [Int32.toBitVec_ofNat', BitVec.ofNat_toNat, BitVec.setWidth_eq]
theorem rS_o {n a : Nat} (ha : a ≠ 122) : (rS h n).1 a = h.1 a := by
  unfold rS
  rw [(pu_o _ 122 _ _ a ha).1, (pu_o _ 122 _ _ a ha).1, (pu_o _ 122 _ _ a ha).1, (pu_o _ 122 _ _ a ha).1, (pu_o _ 122 _ _ a ha).1, (pu_o _ 122 _ _ a ha).1, (pu_o _ 122 _ _ a ha).1, (pu_o _ 122 _ _ a ha).1]
theorem rS_c {n : Nat} : (rS h n).1 122 0 = 0 ∧ (rS h n).1 122 2 = 0 ∧ (rS h n).1 122 3 = nI n ∧ (rS h n).1 122 4 = 0 ∧ (rS h n).1 122 5 = 0 ∧ (rS h n).1 122 6 = (-1 : Int32) ∧ (rS h n).1 122 14 = 0 ∧ (rS h n).1 122 15 = 0 ∧ (rS h n).1 122 12 = h.1 122 12 := by
  unfold rS
  refine ⟨?_, ?_, ?_, ?_, ?_, ?_, ?_, ?_, ?_⟩ <;> simp [pu_get]
theorem CH.net {N' : NT} (c : CH h N H) (hL0 : hL H 0 = true) : CH h N' H := by
  obtain ⟨nx, n1, n2, n3, n4, n5⟩ := c
  refine ⟨nx, n1, n2, n3, n4, fun k hk => ?_⟩
  obtain ⟨m1, m2, m3, m4⟩ := n5 k hk
  refine ⟨m1, m2, m3, fun z => ?_⟩
  by_cases y : k = 0
  · subst y; rw [hL0] at z; cases z
  · rw [m4 z]
    unfold prevN
    rw [if_neg y, if_neg y]
theorem P0_WP : WP N P0 := ⟨⟨Nat.zero_le _, fun t ht => absurd ht (Nat.not_lt_zero _)⟩, fun t k u j ht => absurd ht (Nat.not_lt_zero _), fun t ht => absurd ht (Nat.not_lt_zero _)⟩
/-- the class's load of a good text, behind its reading -/
theorem c_loaded {g : PH} {N' : NT} (ok : okS N P H) (hN' : WN N') (ca : CA g N P) (ch : CH g N H) (cn : CN g 3 N') : ∃ g2, ((F_X1_remember g (1 : Int32)).bind fun h2 => (F_X5_explore (F_X2_copyFrom h2 14 3)).bind fun h3 => some (Sum.inr ((((F_X3_clear h3).1 14 2), (F_X3_clear h3))) : Nat ⊕ (Int32 × PH))) = some (.inr (nI (wE N'), g2)) ∧ Fr SC g g2 ∧ CA g2 N' P0 ∧ CH g2 N' (hpush H N P true) := by
  obtain ⟨hN9, hp, hw⟩ := ok
  obtain ⟨h2, a1, a2, a3⟩ := c_remember (b := true) hN9 hp ca.1 ca.2.2 hw ch
  have cn2 : CN h2 3 N' := cn.fr a2 (fun j hj => by unfold S30; omega)
  obtain ⟨b1, b2⟩ := c_cpN (h := h2) (o := 14) (w := 3) (Or.inr (by omega)) hN' cn2
  obtain ⟨h3, d1, d2, d3⟩ := c_explore hN' b2
  rw [show F_X1_remember g (1 : Int32) = some h2 from a1, Option.bind_some, d1, Option.bind_some]
  have c14 : CN h3 14 N' := b2.fr d2 (fun j hj => by unfold S2225; omega)
  have f3 : Fr SC g h3 := ((a2.mono (fun i hi => by unfold S30 at hi; unfold SC; omega)).trans (b1.mono (fun i hi => by unfold SNet at hi; unfold SC; omega))).trans (d2.mono (fun i hi => by unfold S2225 at hi; unfold SC; omega))
  have ec : F_X3_clear h3 = pu h3 26 0 (0 : Int32) := rfl
  have co : ∀ t, t ≠ 26 → (pu h3 26 0 (0 : Int32)).1 t = h3.1 t := fun t ht => (pu_o h3 26 _ _ t ht).1
  rw [ec]
  refine ⟨_, ?_, f3.trans (Fr.pu (by unfold SC; omega)), ⟨c14.same (fun j hj => co _ (by omega)), d3.same (fun j h1 h2 => co _ (by omega)), by rw [pu_get, if_pos ⟨rfl, rfl⟩]; rfl, fun t ht => absurd ht (Nat.not_lt_zero _)⟩, ?_⟩
  · rw [co 14 (by omega), c14.2.2.1]
  · refine CH.net (N := N) ?_ rfl
    exact a3.up (fun a h1 h2 => by rw [co a (by omega), (d2 a (by unfold S2225; omega)).1, (b1 a (by unfold SNet; omega)).1])
end LOD
