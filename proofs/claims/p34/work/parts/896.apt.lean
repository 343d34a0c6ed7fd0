section APT
variable {h : PH} {N : NT} {P : PT} {H : HT}
def sel (p0 p1 p2 p3 p4 : Int32) (q : Nat) : Int32 := if 4 ≤ q then p4 else if 3 ≤ q then p3 else if 2 ≤ q then p2 else if 1 ≤ q then p1 else p0
theorem c_apnd {p0 p1 p2 p3 p4 : Int32} {T : Nat} (hT : T + 20 ≤ 700) (h3 : h.1 1 3 = nI T) : ∃ h', F_X7_append h p0 p1 p2 p3 p4 = some (nI (T + 20), h') ∧ Fr (fun a => a = 1 ∨ a = 2) h h' ∧ h'.1 1 3 = nI (T + 20) ∧ (∀ j, j ≠ 3 → h'.1 1 j = h.1 1 j) ∧ ∀ j, h'.1 2 j = if T ≤ j ∧ j < T + 20 then wB (sel p0 p1 p2 p3 p4 ((j - T) / 4)) ((j - T) % 4) else h.1 2 j := by
  obtain ⟨h1, a1, a2, a3, a4, a5⟩ := c_word (x := p0) (m := T) (by omega) h3
  obtain ⟨h2, b1, b2, b3, b4, b5⟩ := c_word (x := p1) (m := T + 4) (by omega) a3
  obtain ⟨h3', c1, c2, c3, c4, c5⟩ := c_word (x := p2) (m := T + 4 + 4) (by omega) b3
  obtain ⟨h4, d1, d2, d3, d4, d5⟩ := c_word (x := p3) (m := T + 4 + 4 + 4) (by omega) c3
  obtain ⟨h5, e1, e2, e3, e4, e5⟩ := c_word (x := p4) (m := T + 4 + 4 + 4 + 4) (by omega) d3
  unfold F_X7_append
  have ec : (nI T + (20 : Int32)) ≤ (700 : Int32) := by
    rw [show (20 : Int32) = nI 20 from rfl, nI_add]
    exact nI_le (b := 700) hT (by omega)
  rw [h3, if_pos ec, a1, Option.bind_some, b1, Option.bind_some, c1, Option.bind_some, d1, Option.bind_some, e1, Option.bind_some, e3]
  refine ⟨h5, rfl, (((a2.trans b2).trans c2).trans d2).trans e2, e3, fun j hj => by rw [e4 j hj, d4 j hj, c4 j hj, b4 j hj, a4 j hj], fun j => ?_⟩
  rw [e5, d5, c5, b5, a5]
  unfold sel
  by_cases z : T ≤ j ∧ j < T + 20
  · rw [if_pos z]
    by_cases y4 : T + 4 + 4 + 4 + 4 ≤ j
    · rw [if_pos ⟨y4, by omega⟩, if_pos (show 4 ≤ (j - T) / 4 by omega)]
      congr 1
      omega
    rw [if_neg (fun w => y4 w.1), if_neg (show ¬ 4 ≤ (j - T) / 4 by omega)]
    by_cases y3 : T + 4 + 4 + 4 ≤ j
    · rw [if_pos ⟨y3, by omega⟩, if_pos (show 3 ≤ (j - T) / 4 by omega)]
      congr 1
      omega
    rw [if_neg (fun w => y3 w.1), if_neg (show ¬ 3 ≤ (j - T) / 4 by omega)]
    by_cases y2 : T + 4 + 4 ≤ j
    · rw [if_pos ⟨y2, by omega⟩, if_pos (show 2 ≤ (j - T) / 4 by omega)]
      congr 1
      omega
    rw [if_neg (fun w => y2 w.1), if_neg (show ¬ 2 ≤ (j - T) / 4 by omega)]
    by_cases y1 : T + 4 ≤ j
    · rw [if_pos ⟨y1, by omega⟩, if_pos (show 1 ≤ (j - T) / 4 by omega)]
      congr 1
      omega
    rw [if_neg (fun w => y1 w.1), if_neg (show ¬ 1 ≤ (j - T) / 4 by omega), if_pos ⟨by omega, by omega⟩]
    congr 1
    omega
  · rw [if_neg z, if_neg (fun w => z ⟨by omega, by omega⟩), if_neg (fun w => z ⟨by omega, by omega⟩), if_neg (fun w => z ⟨by omega, by omega⟩), if_neg (fun w => z ⟨by omega, by omega⟩), if_neg (fun w => z ⟨by omega, by omega⟩)]
end APT
