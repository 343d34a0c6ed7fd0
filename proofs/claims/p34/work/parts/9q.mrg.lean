/-! THE BEST PLACE: searched upward or downward -/
/-- the earlier, but the later where it is strictly cheaper -/
def mg (a b : Option (Nat × Int)) : Option (Nat × Int) := match a, b with
  | none, b => b
  | some p, none => some p
  | some p, some q => if q.2 < p.2 then some q else some p
theorem mg_none (a : Option (Nat × Int)) : mg a none = a := by cases a <;> rfl
theorem none_mg (a : Option (Nat × Int)) : mg none a = a := by cases a <;> rfl
theorem mg_assoc (a b c : Option (Nat × Int)) : mg (mg a b) c = mg a (mg b c) := by
  cases a with
  | none => rw [none_mg, none_mg]
  | some p =>
    cases b with
    | none => rw [mg_none, none_mg]
    | some q =>
      cases c with
      | none => rw [mg_none, mg_none]
      | some r =>
        show mg (if q.2 < p.2 then some q else some p) (some r) = mg (some p) (if r.2 < q.2 then some r else some q)
        by_cases h1 : q.2 < p.2
        · rw [if_pos h1]
          show (if r.2 < q.2 then some r else some q) = _
          by_cases h2 : r.2 < q.2
          · rw [if_pos h2]
            show _ = (if r.2 < p.2 then some r else some p)
            rw [if_pos (by omega)]
          · rw [if_neg h2]
            show _ = (if q.2 < p.2 then some q else some p)
            rw [if_pos h1]
        · rw [if_neg h1]
          show (if r.2 < p.2 then some r else some p) = _
          by_cases h2 : r.2 < q.2
          · rw [if_pos h2]
            rfl
          · rw [if_neg h2, if_neg (by omega)]
            show _ = (if q.2 < p.2 then some q else some p)
            rw [if_neg h1]
def cnd (N : NT) (P : PT) (e t k s : Nat) : Option (Nat × Int) := if cdB N P e t k s = true then some (1000 * t + 10 * k + s, wInc N P t k (2 * e + s)) else none
theorem stepB_mg {N : NT} {P : PT} {e t k s : Nat} {st : Option (Nat × Int)} : stepB N P e st t k s = mg st (cnd N P e t k s) := by
  unfold stepB cnd
  by_cases h : cdB N P e t k s = true
  · rw [if_pos h, if_pos h]
    cases st with
    | none => rfl
    | some p => rfl
  · rw [if_neg h, if_neg h, mg_none]
section BST
variable {N : NT} {P : PT} {e : Nat}
/-- what the city's search holds -/
def BR (D : gDS) (N : NT) (P : PT) (e : Nat) (r : gRF) (st : Option (Nat × Int)) : Prop := (st = none ∧ r = none) ∨ ∃ i t k s, r = rf i ∧ t < pT P ∧ k ≤ pL P t ∧ s < 2 ∧ cdB N P e t k s = true ∧ st = some (1000 * t + 10 * k + s, wInc N P t k (2 * e + s)) ∧ tI D i [zi (wInc N P t k (2 * e + s)), nI t, nI k, nI (2 * e + s)]
theorem BR.ext {A B : gDS} {r : gRF} {st : Option (Nat × Int)} (h : BR A N P e r st) (x : gE noW A B) : BR B N P e r st := by
  rcases h with h | ⟨i, t, k, s, h1, h2, h3, h4, h5, h6, h7⟩
  · exact Or.inl h
  · exact Or.inr ⟨i, t, k, s, h1, h2, h3, h4, h5, h6, x.tI (fun q => q) h7⟩
theorem g_quad {D : gDS} (a b c d : Int32) : ∃ D1 D2 D3 D4, gIst (gAI D 1 4) (gTop D) 1 (0 : Int32) a = some D1 ∧ gIst D1 (gTop D) 1 (1 : Int32) b = some D2 ∧ gIst D2 (gTop D) 1 (2 : Int32) c = some D3 ∧ gIst D3 (gTop D) 1 (3 : Int32) d = some D4 ∧ tI D4 D.1.length [a, b, c, d] ∧ gE noW D D4 ∧ D4.1.length = D.1.length + 1 ∧ gMd 1 4 D D4 := by
  have x0 : gE noW D (gAI D 1 4) := gNew_E
  have len0 : (gAI D 1 4).1.length = D.1.length + 1 := gNew_len
  have m0 : gMd 1 4 D (gAI D 1 4) := gNew_M
  have st : ∀ {A : gDS} {xs : List Int32} {j : Nat} {v : Int32}, tI A D.1.length xs → gE noW D A → A.1.length = D.1.length + 1 → gMd 1 4 D A → j < xs.length → j < 10 → ∃ B, gIst A (gTop D) 1 (nI j) v = some B ∧ tI B D.1.length (xs.set j v) ∧ gE noW D B ∧ B.1.length = D.1.length + 1 ∧ gMd 1 4 D B := fun {A xs j v} h x l m hj h10 =>
    ⟨_, gIst_t h hj (by omega), gSet_at (by omega), ⟨by rw [gSet_len]; omega, fun i hi hw => (gSet_ne (by omega)).trans (x.2 i hi hw)⟩, by rw [gSet_len]; exact l, ⟨m.1, m.2⟩⟩
  obtain ⟨D1, p1, q1, x1, l1, m1⟩ := st (j := 0) (v := a) (xs := [0, 0, 0, 0]) gNew_at x0 len0 m0 (by show 0 < 4; omega) (by omega)
  obtain ⟨D2, p2, q2, x2, l2, m2⟩ := st (j := 1) (v := b) q1 x1 l1 m1 (by show 1 < 4; omega) (by omega)
  obtain ⟨D3, p3, q3, x3, l3, m3⟩ := st (j := 2) (v := c) q2 x2 l2 m2 (by show 2 < 4; omega) (by omega)
  obtain ⟨D4, p4, q4, x4, l4, m4⟩ := st (j := 3) (v := d) q3 x3 l3 m3 (by show 3 < 4; omega) (by omega)
  exact ⟨D1, D2, D3, D4, p1, p2, p3, p4, q4, x4, l4, m4⟩
end BST
