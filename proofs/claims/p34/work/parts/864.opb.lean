/-! ONE CALL ON BOTH SIDES -/
def okS (N : NT) (P : PT) (H : HT) : Prop := WN N ∧ WP N P ∧ HW H
def SF (a : Nat) : Prop := SC a ∨ a = 166
def cOut (h : PH) (r : Option (Int32 × PH)) (k v : Int32) (N' : NT) (P' : PT) (H' : HT) : Prop := ∃ h', r = some (k, h') ∧ Fr SF h h' ∧ CA h' N' P' ∧ CH h' N' H' ∧ (k = 0 → h'.2 166 0 = v.toInt64)
/-- the buffer's text, on both sides -/
def TX (h : PH) (T : Nat) : Prop := T ≤ 700 ∧ h.1 1 3 = nI T ∧ h.1 122 2 = nI T ∧ ∀ j, j < T → h.1 123 j = h.1 2 j &&& (255 : Int32)
section OPB
variable {h : PH} {N : NT} {P : PT} {H : HT}
theorem CA.FR {h' : PH} (c : CA h N P) (f : FR h h') : CA h' N P := ⟨c.1.same (fun j hj => (f.1 _ (by omega)).1), c.2.1.same (fun j h1 h2 => (f.1 _ (by omega)).1), c.2.2.same (fun j hj => (f.1 _ (by omega)).1)⟩
theorem CH.FR {h' : PH} (c : CH h N H) (f : FR h h') : CH h' N H := c.up (fun a ha h1 => (f.1 a (by omega)).1)
theorem TX.sf {h' : PH} {T : Nat} (c : TX h T) (f : Fr SF h h') : TX h' T := by
  obtain ⟨c1, c2, c3, c4⟩ := c
  have e : ∀ a, a = 1 ∨ a = 2 ∨ a = 122 ∨ a = 123 → h'.1 a = h.1 a := fun a ha => (f a (by unfold SF SC; omega)).1
  refine ⟨c1, by rw [e 1 (by omega)]; exact c2, by rw [e 122 (by omega)]; exact c3, ?_⟩
  rw [e 123 (by omega), e 2 (by omega)]
  exact c4
theorem TX.FR {h' : PH} {T : Nat} (c : TX h T) (f : FR h h') : TX h' T := by
  obtain ⟨c1, c2, c3, c4⟩ := c
  refine ⟨c1, by rw [(f.1 1 (by omega)).1]; exact c2, by rw [f.2 2 (by omega)]; exact c3, ?_⟩
  rw [(f.1 123 (by omega)).1, (f.1 2 (by omega)).1]
  exact c4
theorem lg_self (a : Int64) : lg_cmp a a = 0 := by
  unfold lg_cmp
  split
  · rename_i q
    exact (Int64.lt_irrefl q).elim
  · rw [if_pos rfl]
/-- a value of the class's, written out -/
theorem out_val {v : Int32} (hca : CA h N P) (hch : CH h N H) : cOut h ((asl 1 h 166 (0 : Int32) v.toInt64).bind fun h2 => some (((0 : Int32), h2))) 0 v N P H := by
  rw [show (0 : Int32) = nI 0 from rfl, asl_in (by omega) (by omega), Option.bind_some]
  have f : Fr (fun a => a = 166) h (pul h 166 0 v.toInt64) := Fr.pul rfl
  refine ⟨_, rfl, f.mono (fun i hi => Or.inr hi), ⟨hca.1.fr f (fun j hj => by omega), hca.2.1.same (fun j h1 h2 => (f j (by omega)).1), hca.2.2.fr f (fun j hj => by omega)⟩, hch.up (fun a h1 h2 => (f a (by omega)).1), fun _ => ?_⟩
  rw [pul_get, if_pos ⟨rfl, rfl⟩]
theorem out_val2 {v : Int32} {h0 : PH} (f0 : Fr SC h0 h) (hca : CA h N P) (hch : CH h N H) : cOut h0 ((asl 1 h 166 (0 : Int32) v.toInt64).bind fun h2 => some (((0 : Int32), h2))) 0 v N P H := by
  obtain ⟨h', a, b, c⟩ := out_val (v := v) hca hch
  exact ⟨h', a, (f0.mono (fun i hi => Or.inl hi)).trans b, c⟩
theorem out_thr {k : Int32} (hk : k ≠ 0) (hca : CA h N P) (hch : CH h N H) {v : Int32} : cOut h (some (k, h)) k v N P H := ⟨h, rfl, Fr.refl h, hca, hch, fun z => absurd z hk⟩
/-! an index in its bounds, or out of them -/
theorem rng {n : Nat} (hn : n < 2 ^ 30) (a : Int32) : (∃ k, k < n ∧ a = nI k) ∨ (a < 0 ∨ ¬ a < nI n) := by
  rcases (inferInstance : Decidable (a < 0)) with q | q
  · rcases (inferInstance : Decidable (a < nI n)) with q2 | q2
    · exact Or.inr (Or.inr q2)
    · left
      have e := zi_of a
      rw [e] at q q2
      have hb := Int32.le_toInt a
      have hb2 := Int32.toInt_lt a
      have q : ¬ zi a.toInt < zi 0 := q
      rw [zi_lt (by omega) (by omega)] at q
      rw [nI_zi, zi_lt (by omega) (by omega)] at q2
      refine ⟨a.toInt.toNat, by omega, ?_⟩
      rw [nI_zi, show ((a.toInt.toNat : Nat) : Int) = a.toInt by omega]
      exact e
  · exact Or.inr (Or.inl q)
theorem req_ok {α : Type} {n k : Nat} {x y : α} (hn : n < 2 ^ 30) (q : k < n) : (if nI k < 0 then x else if nI k < nI n then y else x) = y := by
  rw [if_neg (nI_pos (by omega)), if_pos (nI_lt q (by omega))]
theorem req_no {α : Type} {n : Nat} {a : Int32} {x y : α} (q : a < 0 ∨ ¬ a < nI n) : (if a < 0 then x else if a < nI n then y else x) = x := by
  by_cases z : a < 0
  · rw [if_pos z]
  · rw [if_neg z]
    rcases q with q | q
    · exact absurd q z
    · rw [if_neg q]
theorem reqE_ok {k : Nat} (hN9 : WN N) (ca : CA h N P) (hk : k < wE N) : F_X7_requireEdge h (nI k) = some (.inr ()) := by
  have := hN9.2.2.1
  unfold F_X7_requireEdge
  rw [ca.1.2.2.1]
  exact req_ok (by omega) hk
theorem reqE_no {a : Int32} (ca : CA h N P) (q : a < 0 ∨ ¬ a < nI (wE N)) : F_X7_requireEdge h a = some (.inl 1) := by
  unfold F_X7_requireEdge
  rw [ca.1.2.2.1]
  exact req_no q
theorem reqA_ok {k : Nat} (hN9 : WN N) (ca : CA h N P) (hk : k < 2 * wE N) : F_X7_requireArc h (nI k) = some (.inr ()) := by
  have := hN9.2.2.1
  unfold F_X7_requireArc
  rw [ca.1.2.2.1, i2, nI_mul]
  exact req_ok (by omega) hk
theorem reqA_no {a : Int32} (ca : CA h N P) (q : a < 0 ∨ ¬ a < nI (2 * wE N)) : F_X7_requireArc h a = some (.inl 1) := by
  unfold F_X7_requireArc
  rw [ca.1.2.2.1, i2, nI_mul]
  exact req_no q
theorem reqT_ok {k : Nat} (hp : WP N P) (ca : CA h N P) (hk : k < pT P) : F_X7_requireTour h (nI k) = some (.inr ()) := by
  have := hp.1.1
  unfold F_X7_requireTour
  rw [ca.2.2.1]
  exact req_ok (by omega) hk
theorem reqT_no {a : Int32} (ca : CA h N P) (q : a < 0 ∨ ¬ a < nI (pT P)) : F_X7_requireTour h a = some (.inl 1) := by
  unfold F_X7_requireTour
  rw [ca.2.2.1]
  exact req_no q
end OPB
