section APT
variable {h : PH} {N : NT} {P : PT} {H : HT}
def sel (p0 p1 p2 p3 p4 : Int32) (q : Nat) : Int32 := if 4 ≤ q then p4 else if 3 ≤ q then p3 else if 2 ≤ q then p2 else if 1 ≤ q then p1 else p0
theorem c_apnd {p0 p1 p2 p3 p4 : Int32} {T : Nat} (hT : T + 20 ≤ 700) (h3 : h.1 1 3 = nI T) : ∃ h', F_X7_append h p0 p1 p2 p3 p4 = some (nI (T + 20), h') ∧ Fr (fun a => a = 1 ∨ a = 2) h h' ∧ h'.1 1 3 = nI (T + 20) ∧ (∀ j, j ≠ 3 → h'.1 1 j = h.1 1 j) ∧ ∀ j, h'.1 2 j = if T ≤ j ∧ j < T + 20 then wB (sel p0 p1 p2 p3 p4 ((j - T) / 4)) ((j - T) % 4) else h.1 2 j := by
  obtain ⟨h1, a1, a2, a3, a4, a5⟩ := c_word (x := p0) (m := T) (by omega) h3
  obtain ⟨h2, b1, b2, b3, b4, b5⟩ := c_word (x := p1) (m := T + 4) (by omega) a3
  obtain ⟨h3', c1, c2, c3, c4, c5⟩ := c_word (x := p2) (m := T + 4 + 4) (by omega) b3
  obtain ⟨h4, d1, d2, d3, d4, d5⟩ := c_word (x := p3) (m := T + 4 + 4 + 4) (by omega) c3
  obtain ⟨h5, e1, e2, e3, e4, e5⟩ := c_word (x := p4) (m := T + 4 + 4 + 4 + 4) (by omega) d3
  unfold F_X7_append
  have ec : (nI T + (20 : Int32)) ≤ (700 : Int32) := by
    rw [show (20 : Int32) = nI 20 from rfl, nI_add]
    exact nI_le (b := 700) hT (by omega)
  rw [h3, if_pos ec, a1, Option.bind_some, b1, Option.bind_some, c1, Option.bind_some, d1, Option.bind_some, e1, Option.bind_some, e3]
  refine ⟨h5, rfl, (((a2.trans b2).trans c2).trans d2).trans e2, e3, fun j hj => by rw [e4 j hj, d4 j hj, c4 j hj, b4 j hj, a4 j hj], fun j => ?_⟩
  rw [e5, d5, c5, b5, a5]
  unfold sel
  by_cases z : T ≤ j ∧ j < T + 20
  · rw [if_pos z]
    by_cases y4 : T + 4 + 4 + 4 + 4 ≤ j
    · rw [if_pos ⟨y4, by omega⟩, if_pos (show 4 ≤ (j - T) / 4 by omega)]
      congr 1
      omega
    rw [if_neg (fun w => y4 w.1), if_neg (show ¬ 4 ≤ (j - T) / 4 by omega)]
    by_cases y3 : T + 4 + 4 + 4 ≤ j
    · rw [if_pos ⟨y3, by omega⟩, if_pos (show 3 ≤ (j - T) / 4 by omega)]
      congr 1
      omega
    rw [if_neg (fun w => y3 w.1), if_neg (show ¬ 3 ≤ (j - T) / 4 by omega)]
    by_cases y2 : T + 4 + 4 ≤ j
    · rw [if_pos ⟨y2, by omega⟩, if_pos (show 2 ≤ (j - T) / 4 by omega)]
      congr 1
      omega
    rw [if_neg (fun w => y2 w.1), if_neg (show ¬ 2 ≤ (j - T) / 4 by omega)]
    by_cases y1 : T + 4 ≤ j
    · rw [if_pos ⟨y1, by omega⟩, if_pos (show 1 ≤ (j - T) / 4 by omega)]
      congr 1
      omega
    rw [if_neg (fun w => y1 w.1), if_neg (show ¬ 1 ≤ (j - T) / 4 by omega), if_pos ⟨by omega, by omega⟩]
    congr 1
    omega
  · rw [if_neg z, if_neg (fun w => z ⟨by omega, by omega⟩), if_neg (fun w => z ⟨by omega, by omega⟩), if_neg (fun w => z ⟨by omega, by omega⟩), if_neg (fun w => z ⟨by omega, by omega⟩), if_neg (fun w => z ⟨by omega, by omega⟩)]
theorem r_apnd {p0 p1 p2 p3 p4 : Int32} {T : Nat} (hT : T + 20 ≤ 700) (h2 : h.1 122 2 = nI T) : ∃ h', F_X8_append h p0 p1 p2 p3 p4 = some (nI (T + 20), h') ∧ Fr (fun a => a = 122 ∨ a = 123) h h' ∧ h'.1 122 2 = nI (T + 20) ∧ h'.1 122 0 = 0 ∧ (∀ j, j ≠ 2 → j ≠ 0 → h'.1 122 j = h.1 122 j) ∧ ∀ j, h'.1 123 j = if T ≤ j ∧ j < T + 20 then wB (sel p0 p1 p2 p3 p4 ((j - T) / 4)) ((j - T) % 4) &&& (255 : Int32) else h.1 123 j := by
  unfold F_X8_append
  have e0 : (pu h 122 0 (0 : Int32)).1 122 2 = nI T := by rw [pu_get, if_neg (by omega), h2]
  have ec : (nI T + (20 : Int32)) ≤ (700 : Int32) := by
    rw [show (20 : Int32) = nI 20 from rfl, nI_add]
    exact nI_le (b := 700) hT (by omega)
  rw [e0, if_pos ec]
  refine ex_pr (loop_ind0 (σ := Int32 × PH) (fun k s => k ≤ 20 ∧ s.1 = nI k ∧ Fr (fun a => a = 122 ∨ a = 123) h s.2 ∧ s.2.1 122 2 = nI (T + k) ∧ s.2.1 122 0 = 0 ∧ (∀ j, j ≠ 2 → j ≠ 0 → s.2.1 122 j = h.1 122 j) ∧ ∀ j, s.2.1 123 j = if T ≤ j ∧ j < T + k then wB (sel p0 p1 p2 p3 p4 ((j - T) / 4)) ((j - T) % 4) &&& (255 : Int32) else h.1 123 j) _ 20 ⟨Nat.zero_le _, rfl, Fr.pu (Or.inl rfl), e0, pu_0, fun j h1 h2 => by rw [pu_get, if_neg (fun z => h2 z.2)], fun j => by rw [(pu_o _ 122 _ _ 123 (by omega)).1, if_neg (fun z => by omega)]⟩ ?_)
  rintro k ⟨s1, s2⟩ ⟨i1, i2', i3', i4', i5', i6', i7'⟩
  dsimp only at i2' i3' i4' i5' i6' i7' ⊢
  subst i2'
  rcases Nat.lt_or_ge k 20 with q | q
  · right
    unfold jn
    dsimp only
    have e4 : nI k - nI k / (4 : Int32) * (4 : Int32) = nI (k % 4) := by rw [i4]; exact nI_mod (by omega) (by omega) (by omega)
    have e24 : (24 : Int32) - (8 : Int32) * nI (k % 4) = nI (8 * (3 - k % 4)) := by
      rw [i8, nI_mul, show (24 : Int32) = nI 24 from rfl, nI_sub (by omega)]
      congr 1
      omega
    have ev : ∀ x : Int32, (x >>> (((24 : Int32) - ((8 : Int32) * (nI k - nI k / (4 : Int32) * (4 : Int32)))) &&& 31)) &&& (255 : Int32) = wB x (k % 4) &&& (255 : Int32) := fun x => by
      rw [e4, e24]
      exact (app_byte x (3 - k % 4) (by omega)).symm
    have le : ∀ m, m < 2 ^ 30 → (nI m ≤ nI k ↔ m ≤ k) := fun m hm => nI_leI (by omega) (by omega)
    have es : ∀ (K : Int32 → Option ((Int32 × PH) ⊕ (Int32 × PH))), (if (4 : Int32) ≤ nI k then (if (8 : Int32) ≤ nI k then (if (12 : Int32) ≤ nI k then (if (16 : Int32) ≤ nI k then K p4 else K p3) else K p2) else K p1) else K p0) = K (sel p0 p1 p2 p3 p4 (k / 4)) := fun K => by
      have l4 : ((4 : Int32) ≤ nI k) = (4 ≤ k) := propext (le 4 (by omega))
      have l8 : ((8 : Int32) ≤ nI k) = (8 ≤ k) := propext (le 8 (by omega))
      have l12 : ((12 : Int32) ≤ nI k) = (12 ≤ k) := propext (le 12 (by omega))
      have l16 : ((16 : Int32) ≤ nI k) = (16 ≤ k) := propext (le 16 (by omega))
      simp only [l4, l8, l12, l16]
      unfold sel
      by_cases y4 : 16 ≤ k
      · rw [if_pos (by omega), if_pos (by omega), if_pos (by omega), if_pos y4, if_pos (show 4 ≤ k / 4 by omega)]
      rw [if_neg (show ¬ 4 ≤ k / 4 by omega)]
      by_cases y3 : 12 ≤ k
      · rw [if_pos (by omega), if_pos (by omega), if_pos y3, if_neg y4, if_pos (show 3 ≤ k / 4 by omega)]
      rw [if_neg (show ¬ 3 ≤ k / 4 by omega)]
      by_cases y2 : 8 ≤ k
      · rw [if_pos (by omega), if_pos y2, if_neg y3, if_pos (show 2 ≤ k / 4 by omega)]
      rw [if_neg (show ¬ 2 ≤ k / 4 by omega)]
      by_cases y1 : 4 ≤ k
      · rw [if_pos y1, if_neg y2, if_pos (show 1 ≤ k / 4 by omega)]
      rw [if_neg y1, if_neg (show ¬ 1 ≤ k / 4 by omega)]
    rw [if_neg (show ¬ (20 : Int32) ≤ nI k from nI_ge (b := 20) q (by omega)), es (fun v3 => (ast 700 s2 123 (s2.1 122 2) ((v3 >>> (((24 : Int32) - ((8 : Int32) * (nI k - nI k / (4 : Int32) * (4 : Int32)))) &&& 31)) &&& (255 : Int32))).bind fun h4 => some (.inl ((nI k + (1 : Int32)), (pu h4 122 2 ((h4.1 122 2) + (1 : Int32)))))), ev, i4', ast_in (by omega) (by omega), Option.bind_some, (pu_o _ 123 _ _ 122 (by omega)).1, i4', nI_1, nI_1]
    refine ⟨q, _, rfl, by omega, rfl, i3'.trans ((Fr.pu (S := fun a => a = 122 ∨ a = 123) (Or.inr rfl)).trans (Fr.pu (S := fun a => a = 122 ∨ a = 123) (Or.inl rfl))), ?_, ?_, fun j h1 h2 => ?_, fun j => ?_⟩
    · dsimp only
      rw [pu_get, if_pos ⟨rfl, rfl⟩]
      rfl
    · dsimp only
      rw [pu_get, if_neg (by omega), (pu_o _ 123 _ _ 122 (by omega)).1]
      exact i5'
    · dsimp only
      rw [pu_get, if_neg (fun z => h1 z.2), (pu_o _ 123 _ _ 122 (by omega)).1]
      exact i6' j h1 h2
    · dsimp only
      rw [(pu_o _ 122 _ _ 123 (by omega)).1, pu_get]
      by_cases z : j = T + k
      · rw [if_pos ⟨rfl, z⟩, if_pos ⟨by omega, by omega⟩, show j - T = k by omega]
      · rw [if_neg (fun w => z w.2), i7']
        by_cases y : T ≤ j ∧ j < T + k
        · rw [if_pos y, if_pos ⟨y.1, by omega⟩]
        · rw [if_neg y, if_neg (fun w => y ⟨w.1, by omega⟩)]
  · obtain rfl : k = 20 := by omega
    left
    rw [if_pos (show (20 : Int32) ≤ nI 20 from Int32.le_refl _)]
    exact ⟨_, rfl, i4', i3', i4', i5', i6', i7'⟩
end APT
