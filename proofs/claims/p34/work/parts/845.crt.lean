/-! THE CLASS'S ROUTES -/
theorem ex_inl {σ τ : Type} {x : Option (σ ⊕ τ)} {P : σ → Prop} (h : ∃ t, x = some t ∧ ∃ s', t = Sum.inl s' ∧ P s') : ∃ s', x = some (Sum.inl s') ∧ P s' := by
  obtain ⟨t, h1, s', rfl, h2⟩ := h
  exact ⟨s', h1, h2⟩
theorem ex_inr {σ τ : Type} {x : Option (σ ⊕ τ)} {P : τ → Prop} (h : ∃ t, x = some t ∧ ∃ s', t = Sum.inr s' ∧ P s') : ∃ s', x = some (Sum.inr s') ∧ P s' := by
  obtain ⟨t, h1, s', rfl, h2⟩ := h
  exact ⟨s', h1, h2⟩
theorem CN.fr {h h' : PH} {o : Nat} {N : NT} {S : Nat → Prop} (c : CN h o N) (f : Fr S h h') (hs : ∀ j, j < 7 → ¬ S (o + j)) : CN h' o N := c.same fun j hj => (f _ (hs j hj)).1
section CRT
variable {h : PH} {N : NT}
theorem c_start {o x : Nat} (hN : WN N) (hc : CN h o N) (hx : x < 2 * wE N) : F_X2_start h o (nI x) = nI (wTl N x) := by
  have hE := hN.2.2.1
  unfold F_X2_start
  rw [at_in (by omega) (by omega)]
  exact (hc.2.2.2.2.1 x hx).1
theorem c_end {o x : Nat} (hN : WN N) (hc : CN h o N) (hx : x < 2 * wE N) : F_X2_end h o (nI x) = nI (wHd N x) := by
  have hE := hN.2.2.1
  have h1 := wFl_lt hx
  unfold F_X2_end
  rw [wFl_xor (by omega), at_in (by omega) (by omega)]
  exact (hc.2.2.2.2.1 _ h1).1
theorem c_follow {x y : Nat} (hN : WN N) (hc : CN h 14 N) (hx : x < 2 * wE N) (hy : y < 2 * wE N) : F_X2_allowsTurn h (nI x) (nI y) = if wFol N x y then (1 : Int32) else (0 : Int32) := by
  have hE := hN.2.2.1
  have hn := hN.1
  have t1 := (hN.2.2.2.2.1 y hy).1
  have t2 := (hN.2.2.2.2.1 _ (wFl_lt hx)).1
  have eb : F_X7_at 28 h 18 (nI x) = wBn N x := by
    rw [at_in (by omega) (by omega)]
    exact (hc.2.2.2.2.1 x hx).2.2.2
  unfold F_X2_allowsTurn wFol
  rw [c_end hN hc hx, c_start hN hc hy, eb, i2, nI_div (by omega) (by omega)]
  have q : nI (wHd N x) = nI (wTl N y) ↔ wHd N x = wTl N y := nI_eq (by unfold wHd; omega) (by omega)
  by_cases q1 : wHd N x = wTl N y
  · by_cases q2 : ((wBn N x) >>> (nI (y / 2) &&& 31)) &&& (1 : Int32) = 0
    · simp [q, q1, q2]
    · simp [q, q1, q2]
  · simp [q, q1]
/-- deadheads as known at stage k -/
def CD (h : PH) (N : NT) (k : Nat) : Prop := ∀ x y, x < 2 * wE N → y < 2 * wE N → h.1 22 (x * 28 + y) = nI (en 100000000 (fw N k x y))
theorem c_lim (hc : CN h 14 N) : (2 : Int32) * h.1 14 2 = nI (2 * wE N) := by rw [hc.2.2.1, i2, nI_mul]
theorem nI_M {a b : Nat} : nI a * (28 : Int32) + nI b = nI (a * 28 + b) := by rw [i28, nI_mul, nI_add]
theorem nI_8 {a b : Nat} : nI a * (8 : Int32) + nI b = nI (a * 8 + b) := by rw [i8, nI_mul, nI_add]
theorem nI_14 {a b : Nat} : nI a * (14 : Int32) + nI b = nI (a * 14 + b) := by rw [i14, nI_mul, nI_add]
theorem cell_ne {x y a b n : Nat} (hy : y < n) (hb : b < n) (h : ¬ (x = a ∧ y = b)) : x * n + y ≠ a * n + b := by
  intro e
  apply h
  have h1 : (x * n + y) / n = x := by rw [Nat.mul_comm, Nat.mul_add_div (by omega), Nat.div_eq_of_lt hy]; omega
  have h2 : (a * n + b) / n = a := by rw [Nat.mul_comm, Nat.mul_add_div (by omega), Nat.div_eq_of_lt hb]; omega
  have h3 : x = a := by rw [← h1, ← h2, e]
  subst h3
  exact ⟨rfl, by omega⟩
theorem c_mark (hN : WN N) (hc : CN h 14 N) : ∃ h', F_X5_markTurns h = some h' ∧ Fr (fun a => a = 22) h h' ∧ CD h' N 0 := by
  have hE := hN.2.2.1
  unfold F_X5_markTurns
  refine loop_ind0 (fun k (s : Int32 × PH) => s.1 = nI k ∧ k ≤ 2 * wE N ∧ Fr (fun a => a = 22) h s.2 ∧ ∀ x y, x < k → y < 2 * wE N → s.2.1 22 (x * 28 + y) = nI (en 100000000 (fw N 0 x y))) _ (2 * wE N) ⟨rfl, Nat.zero_le _, Fr.refl _, fun x y hx => absurd hx (Nat.not_lt_zero _)⟩ ?_
  rintro k ⟨s1, s2⟩ ⟨rfl, hk, fr, inv⟩
  dsimp only at fr inv ⊢
  rw [c_lim hc]
  rcases Nat.lt_or_ge k (2 * wE N) with q | q
  · refine Or.inr ⟨q, ?_⟩
    rw [if_neg (nI_ge q (by omega))]
    refine ex_inl (loop_ind0 (fun j (s : Int32 × PH) => s.1 = nI j ∧ j ≤ 2 * wE N ∧ Fr (fun a => a = 22) h s.2 ∧ ∀ x y, y < 2 * wE N → (x < k ∨ (x = k ∧ y < j)) → s.2.1 22 (x * 28 + y) = nI (en 100000000 (fw N 0 x y))) _ (2 * wE N) ⟨rfl, Nat.zero_le _, fr, fun x y hy hx => ?_⟩ ?_)
    · rcases hx with hx | ⟨-, hx⟩
      · exact inv x y hx hy
      · omega
    rintro j ⟨r1, r2⟩ ⟨rfl, hj, fr2, inv2⟩
    dsimp only at fr2 inv2 ⊢
    rcases Nat.lt_or_ge j (2 * wE N) with q2 | q2
    · refine Or.inr ⟨q2, ?_⟩
      rw [if_neg (nI_ge q2 (by omega)), c_follow hN (hc.fr fr2 (fun i hi => by show ¬ (14 + i = 22); omega)) q q2, nI_M, put_in (by omega) (by omega), put_in (by omega) (by omega)]
      have step : ∀ v : Int32, v = nI (en 100000000 (fw N 0 k j)) → ((nI j + (1 : Int32), pu r2 22 (k * 28 + j) v) : Int32 × PH).1 = nI (j + 1) ∧ j + 1 ≤ 2 * wE N ∧ Fr (fun a => a = 22) h (pu r2 22 (k * 28 + j) v) ∧ ∀ x y, y < 2 * wE N → (x < k ∨ (x = k ∧ y < j + 1)) → (pu r2 22 (k * 28 + j) v).1 22 (x * 28 + y) = nI (en 100000000 (fw N 0 x y)) := by
        intro v hv
        refine ⟨nI_1 j, q2, fr2.trans (Fr.pu rfl), fun x y hy hx => ?_⟩
        rw [pu_get]
        by_cases e : x = k ∧ y = j
        · obtain ⟨rfl, rfl⟩ := e
          rw [if_pos ⟨rfl, rfl⟩, hv]
        · rw [if_neg (fun z => cell_ne (n := 28) (by omega) (by omega) e z.2)]
          exact inv2 x y hy (by omega)
      by_cases f : wFol N k j = true
      · rw [if_pos f, if_neg (by decide)]
        refine ⟨_, rfl, step _ ?_⟩
        unfold fw
        rw [if_pos f]
        rfl
      · rw [if_neg f, if_pos rfl]
        refine ⟨_, rfl, step _ ?_⟩
        unfold fw
        rw [if_neg f]
        rfl
    · obtain rfl : j = 2 * wE N := by omega
      refine Or.inl ⟨_, if_pos (nI_le (Nat.le_refl _) (by omega)), _, rfl, nI_1 k, q, fr2, fun x y hx hy => inv2 x y hy (by omega)⟩
  · obtain rfl : k = 2 * wE N := by omega
    exact Or.inl ⟨_, if_pos (nI_le (Nat.le_refl _) (by omega)), fr, inv⟩
theorem c_deads (hN : WN N) (hc : CN h 14 N) (h0 : CD h N 0) : ∃ h', F_X5_findDeadheads h = some h' ∧ Fr (fun a => a = 22) h h' ∧ CD h' N (2 * wE N) := by
  have hE := hN.2.2.1
  unfold F_X5_findDeadheads
  refine loop_ind0 (fun k (s : Int32 × PH) => s.1 = nI k ∧ k ≤ 2 * wE N ∧ Fr (fun a => a = 22) h s.2 ∧ CD s.2 N k) _ (2 * wE N) ⟨rfl, Nat.zero_le _, Fr.refl _, h0⟩ ?_
  rintro k ⟨s1, s2⟩ ⟨rfl, hk, fr, inv⟩
  dsimp only at fr inv ⊢
  rw [c_lim hc]
  rcases Nat.lt_or_ge k (2 * wE N) with q | q
  · refine Or.inr ⟨q, ?_⟩
    have hck : wCo N k ≤ 99 := (hN.2.2.2.2.1 k q).2.2.1
    have eco : F_X7_at 28 s2 16 (nI k) = nI (wCo N k) := by
      rw [at_in (by omega) (by omega), (fr 16 (by omega)).1]
      exact (hc.2.2.2.2.1 k q).2.1
    rw [if_neg (nI_ge q (by omega)), eco]
    refine ex_inl (loop_ind0 (fun i (s : Int32 × PH) => s.1 = nI i ∧ i ≤ 2 * wE N ∧ Fr (fun a => a = 22) h s.2 ∧ ∀ x y, x < 2 * wE N → y < 2 * wE N → s.2.1 22 (x * 28 + y) = nI (en 100000000 (fw N (if x < i then k + 1 else k) x y))) _ (2 * wE N) ⟨rfl, Nat.zero_le _, fr, fun x y hx hy => by rw [if_neg (Nat.not_lt_zero _)]; exact inv x y hx hy⟩ ?_)
    rintro i ⟨r1, r2⟩ ⟨rfl, hi, fr2, inv2⟩
    dsimp only at fr2 inv2 ⊢
    rcases Nat.lt_or_ge i (2 * wE N) with q2 | q2
    · refine Or.inr ⟨q2, ?_⟩
      have exk : F_X7_at 784 r2 22 (nI i * (28 : Int32) + nI k) = nI (en 100000000 (fw N k i k)) := by
        rw [nI_M, at_in (by omega) (by omega), inv2 i k q2 q, if_neg (Nat.lt_irrefl _)]
      rw [if_neg (nI_ge q2 (by omega)), exk, nI_add]
      have hen : en 100000000 (fw N k i k) ≤ 100000000 := by
        cases hq : fw N k i k with
        | none => exact Nat.le_refl _
        | some v => have := fw_le hN hk hq; show v ≤ _; omega
      refine ex_inl (loop_ind0 (fun j (s : Int32 × PH) => s.1 = nI j ∧ j ≤ 2 * wE N ∧ Fr (fun a => a = 22) h s.2 ∧ ∀ x y, x < 2 * wE N → y < 2 * wE N → s.2.1 22 (x * 28 + y) = nI (en 100000000 (fw N (if x < i ∨ (x = i ∧ y < j) then k + 1 else k) x y))) _ (2 * wE N) ⟨rfl, Nat.zero_le _, fr2, fun x y hx hy => ?_⟩ ?_)
      · rw [inv2 x y hx hy]
        by_cases z : x < i
        · rw [if_pos z, if_pos (Or.inl z)]
        · rw [if_neg z, if_neg (by omega)]
      rintro j ⟨u1, u2⟩ ⟨rfl, hj, fr3, inv3⟩
      dsimp only at fr3 inv3 ⊢
      rcases Nat.lt_or_ge (en 100000000 (fw N k i k) + wCo N k) 100000000 with q4 | q4 <;> rw [iM]
      · rw [if_neg (nI_ge q4 (by omega))]
        rcases Nat.lt_or_ge j (2 * wE N) with q3 | q3
        · refine Or.inr ⟨q3, ?_⟩
          have e1 : F_X7_at 784 u2 22 (nI i * (28 : Int32) + nI j) = nI (en 100000000 (fw N k i j)) := by
            rw [nI_M, at_in (by omega) (by omega), inv3 i j q2 q3, if_neg (by omega)]
          have e2 : F_X7_at 784 u2 22 (nI k * (28 : Int32) + nI j) = nI (en 100000000 (fw N k k j)) := by
            rw [nI_M, at_in (by omega) (by omega), inv3 k j q q3]
            by_cases z : k < i ∨ (k = i ∧ j < j)
            · rw [if_pos z, fw_row]
            · rw [if_neg z]
          have hen2 : en 100000000 (fw N k k j) ≤ 100000000 := by
            cases hq : fw N k k j with
            | none => exact Nat.le_refl _
            | some v => have := fw_le hN hk hq; show v ≤ _; omega
          have hen1 : en 100000000 (fw N k i j) ≤ 100000000 := by
            cases hq : fw N k i j with
            | none => exact Nat.le_refl _
            | some v => have := fw_le hN hk hq; show v ≤ _; omega
          have hmin : min (en 100000000 (fw N k i j)) (en 100000000 (fw N k i k) + wCo N k + en 100000000 (fw N k k j)) = en 100000000 (fw N (k + 1) i j) :=
            en_min3 (fun v hv => by have := fw_le hN hk hv; omega) (fun u v hu hv => by have := fw_le hN hk hu; have := fw_le hN hk hv; omega)
          rw [if_neg (nI_ge q3 (by omega)), e1, e2, nI_add, nI_M, put_in (by omega) (by omega)]
          by_cases z : en 100000000 (fw N k i j) ≤ en 100000000 (fw N k i k) + wCo N k + en 100000000 (fw N k k j)
          · rw [if_pos (nI_le z (by omega))]
            refine ⟨_, rfl, nI_1 j, q3, fr3, fun x y hx hy => ?_⟩
            rw [inv3 x y hx hy]
            by_cases e : x = i ∧ y = j
            · obtain ⟨rfl, rfl⟩ := e
              rw [if_neg (by omega), if_pos (by omega), ← hmin, Nat.min_eq_left z]
            · by_cases z2 : x < i ∨ (x = i ∧ y < j)
              · rw [if_pos z2, if_pos (by omega)]
              · rw [if_neg z2, if_neg (by omega)]
          · rw [if_neg (nI_ge (by omega) (by omega))]
            refine ⟨_, rfl, nI_1 j, q3, fr3.trans (Fr.pu rfl), fun x y hx hy => ?_⟩
            rw [pu_get]
            by_cases e : x = i ∧ y = j
            · obtain ⟨rfl, rfl⟩ := e
              rw [if_pos ⟨rfl, rfl⟩, if_pos (by omega), ← hmin, Nat.min_eq_right (by omega)]
            · rw [if_neg (fun z => cell_ne (n := 28) (by omega) (by omega) e z.2), inv3 x y hx hy]
              by_cases z2 : x < i ∨ (x = i ∧ y < j)
              · rw [if_pos z2, if_pos (by omega)]
              · rw [if_neg z2, if_neg (by omega)]
        · obtain rfl : j = 2 * wE N := by omega
          refine Or.inl ⟨_, if_pos (nI_le (Nat.le_refl _) (by omega)), _, rfl, nI_1 i, q2, fr3, fun x y hx hy => ?_⟩
          rw [inv3 x y hx hy]
          by_cases z2 : x < i ∨ (x = i ∧ y < 2 * wE N)
          · rw [if_pos z2, if_pos (by omega)]
          · rw [if_neg z2, if_neg (by omega)]
      · have hnone : fw N k i k = none := by
          cases hq : fw N k i k with
          | none => rfl
          | some v =>
            have := fw_le hN hk hq
            rw [hq] at q4
            have q4 : 100000000 ≤ v + wCo N k := q4
            omega
        refine Or.inl ⟨_, if_pos (nI_le q4 (by omega)), _, rfl, nI_1 i, q2, fr3, fun x y hx hy => ?_⟩
        rw [inv3 x y hx hy]
        by_cases e : x = i
        · subst e
          have same : fw N (k + 1) x y = fw N k x y := by
            show om (fw N k x y) (oa (oa (fw N k x k) (some (wCo N k))) (fw N k k y)) = _
            rw [hnone]
            exact om_none _
          have e9 : (if x < x + 1 then k + 1 else k) = k + 1 := if_pos (by omega)
          rw [e9]
          split <;> rw [same]
        · by_cases z2 : x < i ∨ (x = i ∧ y < j)
          · rw [if_pos z2, if_pos (by omega)]
          · rw [if_neg z2, if_neg (by omega)]
    · obtain rfl : i = 2 * wE N := by omega
      refine Or.inl ⟨_, if_pos (nI_le (Nat.le_refl _) (by omega)), _, rfl, nI_1 k, q, fr2, fun x y hx hy => ?_⟩
      rw [inv2 x y hx hy, if_pos hx]
  · obtain rfl : k = 2 * wE N := by omega
    exact Or.inl ⟨_, if_pos (nI_le (Nat.le_refl _) (by omega)), fr, inv⟩
end CRT
