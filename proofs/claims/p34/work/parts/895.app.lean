/-! APPEND -/
theorem nar_b (y : Int32) {j : Nat} (hj : j < 8) : (vp_nar .byte y.toInt8.toInt32).toBitVec.getLsbD j = y.toBitVec.getLsbD j := by
  have e : vp_nar .byte y.toInt8.toInt32 = y.toInt8.toInt32.toInt8.toInt32 := rfl
  rw [e]
  have h1 : j < 32 := by omega
  simp [BitVec.getElem_signExtend, hj, h1]
theorem bit255 : ∀ j, j < 32 → (255#32).getLsbD j = decide (j < 8) := by decide
theorem app_byte (x : Int32) : ∀ i, i < 4 → (vp_nar .byte (x.toUInt32 >>> ((nI (8 * i)).toUInt32 &&& Int32.toUInt32 31)).toInt32.toInt8.toInt32) &&& (255 : Int32) = (x >>> (nI (8 * i) &&& 31)) &&& (255 : Int32) := by
  intro i hi
  apply Int32.toBitVec_inj.mp
  apply BitVec.eq_of_getLsbD_eq
  intro j hj
  rw [Int32.toBitVec_and, Int32.toBitVec_and, BitVec.getLsbD_and, BitVec.getLsbD_and, show ((255 : Int32)).toBitVec = 255#32 from rfl, bit255 j hj]
  by_cases h8 : j < 8
  · rw [nar_b _ h8, decide_eq_true h8, Bool.and_true, Bool.and_true]
    have : i = 0 ∨ i = 1 ∨ i = 2 ∨ i = 3 := by omega
    rcases this with rfl | rfl | rfl | rfl
    · have e1 : ((nI (8 * 0)).toUInt32 &&& Int32.toUInt32 31) = 0 := by decide
      have e2 : (nI (8 * 0) &&& 31) = 0 := by decide
      rw [e1, e2]
      simp
    · have e1 : ((nI (8 * 1)).toUInt32 &&& Int32.toUInt32 31) = 8 := by decide
      have e2 : (nI (8 * 1) &&& 31) = 8 := by decide
      rw [e1, e2]
      have : 8 + j < 32 := by omega
      simp [BitVec.getElem_sshiftRight, this, hj]
    · have e1 : ((nI (8 * 2)).toUInt32 &&& Int32.toUInt32 31) = 16 := by decide
      have e2 : (nI (8 * 2) &&& 31) = 16 := by decide
      rw [e1, e2]
      have : 16 + j < 32 := by omega
      simp [BitVec.getElem_sshiftRight, this, hj]
    · have e1 : ((nI (8 * 3)).toUInt32 &&& Int32.toUInt32 31) = 24 := by decide
      have e2 : (nI (8 * 3) &&& 31) = 24 := by decide
      rw [e1, e2]
      have : 24 + j < 32 := by omega
      simp [BitVec.getElem_sshiftRight, this, hj]
  · rw [decide_eq_false h8, Bool.and_false, Bool.and_false]
section APP
variable {h : PH} {N : NT} {P : PT} {H : HT}
/-- what the class appends -/
def wB (x : Int32) (i : Nat) : Int32 := vp_nar .byte (x.toUInt32 >>> ((nI (8 * (3 - i))).toUInt32 &&& Int32.toUInt32 31)).toInt32.toInt8.toInt32
theorem c_word {x : Int32} {m : Nat} (hm : m + 4 ≤ 700) (h3 : h.1 1 3 = nI m) : ∃ h', F_X6_addWord h x = some h' ∧ Fr (fun a => a = 1 ∨ a = 2) h h' ∧ h'.1 1 3 = nI (m + 4) ∧ (∀ j, j ≠ 3 → h'.1 1 j = h.1 1 j) ∧ ∀ j, h'.1 2 j = if m ≤ j ∧ j < m + 4 then wB x (j - m) else h.1 2 j := by
  unfold F_X6_addWord
  refine loop_ind0 (σ := Int32 × PH) (fun k s => k ≤ 4 ∧ s.1 = zi (24 - 8 * k) ∧ Fr (fun a => a = 1 ∨ a = 2) h s.2 ∧ s.2.1 1 3 = nI (m + k) ∧ (∀ j, j ≠ 3 → s.2.1 1 j = h.1 1 j) ∧ ∀ j, s.2.1 2 j = if m ≤ j ∧ j < m + k then wB x (j - m) else h.1 2 j) _ 4 ⟨Nat.zero_le _, rfl, Fr.refl h, h3, fun _ _ => rfl, fun j => (if_neg (fun z => by omega)).symm⟩ ?_
  rintro k ⟨s1, s2⟩ ⟨i1, i2', i3', i4', i5', i6'⟩
  dsimp only at i2' i3' i4' i5' i6' ⊢
  subst i2'
  rcases Nat.lt_or_ge k 4 with q | q
  · right
    have e24 : zi (24 - 8 * k) = nI (8 * (3 - k)) := by rw [nI_zi]; congr 1; omega
    have nz : ¬ zi (24 - 8 * k) < 0 := by rw [e24]; exact nI_pos (by omega)
    rw [if_neg nz, i4', if_neg (nI_pos (by omega)), if_neg (show ¬ Int32.ofNat 700 ≤ nI (m + k) from nI_ge (b := 700) (by omega) (by omega)), ast_in (by omega) (by omega), Option.bind_some, (pu_o _ 2 _ _ 1 (by omega)).1, i4', nI_1]
    refine ⟨q, _, rfl, by omega, ?_, i3'.trans ((Fr.pu (Or.inr rfl)).trans (Fr.pu (Or.inl rfl))), ?_, fun j hj => ?_, fun j => ?_⟩
    · show zi (24 - 8 * k) + zi (-8) = zi (24 - 8 * (k + 1 : Nat))
      rw [zi_add]
      congr 1
      omega
    · dsimp only
      rw [pu_get, if_pos ⟨rfl, rfl⟩]
      rfl
    · dsimp only
      rw [pu_get, if_neg (fun z => hj z.2), (pu_o _ 2 _ _ 1 (by omega)).1]
      exact i5' j hj
    · dsimp only
      rw [(pu_o _ 1 _ _ 2 (by omega)).1, pu_get]
      by_cases z : j = m + k
      · rw [if_pos ⟨rfl, z⟩, if_pos ⟨by omega, by omega⟩, show j - m = k by omega, e24]
        rfl
      · rw [if_neg (fun w => z w.2), i6']
        by_cases y : m ≤ j ∧ j < m + k
        · rw [if_pos y, if_pos ⟨y.1, by omega⟩]
        · rw [if_neg y, if_neg (fun w => y ⟨w.1, by omega⟩)]
  · obtain rfl : k = 4 := by omega
    left
    rw [if_pos (show zi (24 - 8 * (4 : Nat)) < 0 by decide)]
    exact ⟨s2, rfl, i3', i4', i5', i6'⟩
end APP
