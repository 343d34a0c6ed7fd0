/-! BOTH READERS SIDE BY SIDE: g the class's heap, r the reference's -/
def FE (h h' : PH) : Prop := Fr (fun a => a = 1) h h' ∧ ∀ j, ¬ ((5 ≤ j ∧ j ≤ 8) ∨ j = 10 ∨ j = 11) → h'.1 1 j = h.1 1 j
/-- both good; the class's token is at p, the reference will see the same -/
def JT (b : Nat → Nat) (n : Nat) (g r : PH) (p : Nat) : Prop := CB b n g ∧ RB b n r ∧ TK b n g p ∧ (∃ q, r.1 122 4 = nI q ∧ q ≤ n ∧ sk b n q = sk b n p) ∧ g.1 1 10 = 0 ∧ r.1 122 5 = 0 ∧ g.1 1 11 = (-1 : Int32) ∧ r.1 122 6 = (-1 : Int32)
/-- both in the same error -/
def JB (b : Nat → Nat) (n : Nat) (g r : PH) : Prop := CB b n g ∧ RB b n r ∧ (∃ p, TK b n g p) ∧ g.1 1 10 ≠ 0 ∧ r.1 122 5 = g.1 1 10 ∧ r.1 122 6 = g.1 1 11
section PAI
variable {b : Nat → Nat} {n : Nat} {g r : PH}
theorem FE.refl (h : PH) : FE h h := ⟨Fr.refl h, fun _ _ => rfl⟩
theorem FE.trans {h h' h'' : PH} (f : FE h h') (g : FE h' h'') : FE h h'' := ⟨f.1.trans g.1, fun j hj => (g.2 j hj).trans (f.2 j hj)⟩
theorem FE.pu {h : PH} {j : Nat} {v : Int32} (hj : (5 ≤ j ∧ j ≤ 8) ∨ j = 10 ∨ j = 11) : FE h (pu h 1 j v) := ⟨Fr.pu rfl, fun i hi => by rw [pu_get, if_neg (fun z => hi (by omega))]⟩
theorem FT.FE {h h' : PH} (f : FT h h') : FE h h' := ⟨f.1, fun j hj => f.2 j (by omega)⟩
theorem CB.fe {h h' : PH} (c : CB b n h) (f : FE h h') : CB b n h' := ⟨by rw [f.2 4 (by omega)]; exact c.1, fun j hj => by rw [(f.1 2 (by omega)).1]; exact c.2 j hj⟩
theorem fail_0 {c : Int32} (h0 : g.1 1 10 = 0) : F_X6_fail g c = pu (pu g 1 10 c) 1 11 (g.1 1 5) := by
  unfold F_X6_fail
  rw [if_neg (fun z => z h0), pu_get g 1 10 c 1 5, if_neg (by omega)]
theorem fail_1 {c : Int32} (h0 : g.1 1 10 ≠ 0) : F_X6_fail g c = g := by
  unfold F_X6_fail
  rw [if_pos h0]
theorem fail_FE {c : Int32} : FE g (F_X6_fail g c) := by
  by_cases z : g.1 1 10 = 0
  · rw [fail_0 z]
    exact (FE.pu (by omega)).trans (FE.pu (by omega))
  · rw [fail_1 z]
    exact FE.refl g
/-! in an error nothing happens any more -/
theorem JB.ft {g' : PH} (J : JB b n g r) (f : FT g g') (t : ∃ p, TK b n g' p) : JB b n g' r := by
  obtain ⟨j1, j2, j3, j4, j5, j6⟩ := J
  exact ⟨j1.ft f, j2, t, by rw [f.2 10 (by omega)]; exact j4, by rw [f.2 10 (by omega)]; exact j5, by rw [f.2 11 (by omega)]; exact j6⟩
theorem jb_next (hn : n ≤ 700) (hb : ∀ j, b j < 256) (J : JB b n g r) : ∃ g', F_X6_next g = some g' ∧ FE g g' ∧ JB b n g' r := by
  obtain ⟨p, t1, t2, t3, t4, t5⟩ := J.2.2.1
  have hq := sk_le (b := b) t1
  obtain ⟨g', e, f, t⟩ := c_next hn hb J.1 (te_ge (b := b) hq).2 t3
  exact ⟨g', e, f.FE, J.ft f ⟨_, t⟩⟩
theorem jb_number {lo hi : Int32} (hn : n ≤ 700) (hb : ∀ j, b j < 256) (J : JB b n g r) : ∃ v g', F_X6_takeNumber g lo hi = some (v, g') ∧ FE g g' ∧ JB b n g' r := by
  have h1 := J.2.2.2.1
  unfold F_X6_takeNumber
  rw [fail_1 h1, fail_1 h1]
  obtain ⟨g', e, f, t⟩ := jb_next hn hb J
  rw [e, Option.bind_some]
  split
  · split
    · exact ⟨_, g, rfl, FE.refl g, J⟩
    · split
      · exact ⟨_, g', rfl, f, t⟩
      · exact ⟨_, g, rfl, FE.refl g, J⟩
  · exact ⟨_, g, rfl, FE.refl g, J⟩
theorem jb_sign {c : Int32} (hn : n ≤ 700) (hb : ∀ j, b j < 256) (J : JB b n g r) : ∃ g', F_X6_takeSign g c = some g' ∧ FE g g' ∧ JB b n g' r := by
  have h1 := J.2.2.2.1
  unfold F_X6_takeSign
  rw [fail_1 h1]
  obtain ⟨g', e, f, t⟩ := jb_next hn hb J
  rw [e, Option.bind_some]
  split <;> exact ⟨g', rfl, f, t⟩
theorem jb_r5 (J : JB b n g r) : r.1 122 5 ≠ 0 := by rw [J.2.2.2.2.1]; exact J.2.2.2.1
/-! a token taken -/
theorem j_go {p q : Nat} {r' : PH} (hn : n ≤ 700) (hb : ∀ j, b j < 256) (J : JT b n g r p) (f : FX r r') (q4 : r'.1 122 4 = nI q) (hq : q = te b n (sk b n p)) (f5 : r'.1 122 5 = 0) (f6 : r'.1 122 6 = r.1 122 6) : ∃ g', F_X6_next g = some g' ∧ FE g g' ∧ JT b n g' r' (te b n (sk b n p)) := by
  obtain ⟨j1, j2, j3, j4, j5, j6, j7, j8⟩ := J
  obtain ⟨t1, t2, t3, t4, t5⟩ := j3
  have hs := sk_le (b := b) t1
  have ht := te_ge (b := b) hs
  obtain ⟨g', e, ft, t⟩ := c_next hn hb j1 ht.2 t3
  exact ⟨g', e, ft.FE, j1.ft ft, j2.fx f, t, ⟨q, q4, by omega, by rw [hq]⟩, by rw [ft.2 10 (by omega)]; exact j5, f5, by rw [ft.2 11 (by omega)]; exact j7, by rw [f6]; exact j8⟩
theorem pred_lt {m v : Nat} (hm : m < 2 ^ 30) (hv : v < 2 ^ 30) : nI m - (1 : Int32) < nI v ↔ m ≤ v := by
  show nI m - zi 1 < nI v ↔ m ≤ v
  rw [nI_zi, nI_zi, zi_sub, zi_lt (by omega) (by omega)]
  omega
theorem le_pred {m v : Nat} (hm : m < 2 ^ 30) (hv : v < 2 ^ 30) : nI v ≤ nI m - (1 : Int32) ↔ v < m := by
  show nI v ≤ nI m - zi 1 ↔ v < m
  rw [nI_zi, nI_zi, zi_sub, zi_le (by omega) (by omega)]
  omega
end PAI
