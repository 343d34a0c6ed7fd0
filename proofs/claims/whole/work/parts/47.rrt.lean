/-! THE REFERENCE'S NETWORK AND ROUTES -/
def RN (h : PH) (r : Nat) (N : NT) : Prop := h.1 r 0 = nI (wN N) ∧ h.1 r 1 = nI (wC N) ∧ h.1 r 2 = nI (wE N) ∧ h.1 r 3 = nI (wD N) ∧
  (∀ a, a < 2 * wE N → h.1 r (7 + 5 * (a / 2) + a % 2) = nI (wTl N a) ∧ h.1 r (9 + 5 * (a / 2) + a % 2) = nI (wCo N a) ∧ h.1 r (77 + 14 * wHd N a + a / 2) = wBn N a) ∧ (∀ e, e < wE N → h.1 r (11 + 5 * e) = nI (wDe N e)) ∧ (∀ d, d < wD N → h.1 r (189 + d) = nI (wDp N d))
theorem RN.same {h h' : PH} {r r' : Nat} {N : NT} (c : RN h r N) (e : h'.1 r' = h.1 r) : RN h' r' N := by
  unfold RN
  rw [e]
  exact c
theorem RN.fr {h h' : PH} {r : Nat} {N : NT} {S : Nat → Prop} (c : RN h r N) (f : Fr S h h') (hs : ¬ S r) : RN h' r N := c.same (f r hs).1
section RRT
variable {h : PH} {N : NT}
theorem r_mod {x : Nat} (hx : x < 100) : nI x - nI x / (2 : Int32) * (2 : Int32) = nI (x % 2) := by
  rw [i2]
  exact nI_mod (by omega) (by omega) (by omega)
theorem r_half {x : Nat} (hx : x < 100) : nI x / (2 : Int32) = nI (x / 2) := by
  rw [i2]
  exact nI_div (by omega) (by omega)
theorem r_edge (x : Nat) : F_X8_edge h (nI x) = nI (7 + 5 * x) := by
  unfold F_X8_edge
  rw [i7, i5, nI_mul, nI_add]
theorem r_num {j : Nat} (hj : j < 1556) : ald 1556 h 124 (nI j) = some (h.1 124 j) := ald_in (by omega) hj
theorem r_arcs (hc : RN h 124 N) : F_X8_arcs h = some (nI (2 * wE N)) := by
  unfold F_X8_arcs
  rw [i2, r_num (by omega), hc.2.2.1]
  show some (nI 2 * nI (wE N)) = _
  rw [nI_mul]
theorem r_tail {x : Nat} (hN : WN N) (hc : RN h 124 N) (hx : x < 2 * wE N) : F_X8_tail h (nI x) = some (nI (wTl N x)) := by
  have hE := hN.2.2.1
  unfold F_X8_tail
  rw [r_mod (by omega), r_half (by omega), r_edge, nI_add, r_num (by omega), (hc.2.2.2.2.1 x hx).1]
  rfl
theorem r_head {x : Nat} (hN : WN N) (hc : RN h 124 N) (hx : x < 2 * wE N) : F_X8_head h (nI x) = some (nI (wHd N x)) := by
  have hE := hN.2.2.1
  have hf := wFl_lt hx
  unfold F_X8_head
  have e : 7 + 5 * (x / 2) + 1 - x % 2 = 7 + 5 * (wFl x / 2) + wFl x % 2 := by unfold wFl; split <;> omega
  rw [r_mod (by omega), r_half (by omega), r_edge, i1, nI_add, nI_sub (by omega), e, r_num (by omega), (hc.2.2.2.2.1 _ hf).1]
  rfl
theorem r_cost {x : Nat} (hN : WN N) (hc : RN h 124 N) (hx : x < 2 * wE N) : F_X8_costOf h (nI x) = some (nI (wCo N x)) := by
  have hE := hN.2.2.1
  unfold F_X8_costOf
  rw [r_mod (by omega), r_half (by omega), r_edge, i2, nI_add, nI_add, r_num (by omega), show 7 + 5 * (x / 2) + 2 + x % 2 = 9 + 5 * (x / 2) + x % 2 by omega, (hc.2.2.2.2.1 x hx).2.1]
  rfl
theorem r_follow {x y : Nat} (hN : WN N) (hc : RN h 124 N) (hx : x < 2 * wE N) (hy : y < 2 * wE N) : F_X8_follows h (nI x) (nI y) = some (if wFol N x y then (1 : Int32) else (0 : Int32)) := by
  have hE := hN.2.2.1
  have hn := hN.1
  have t1 := (hN.2.2.2.2.1 y hy).1
  have t2 : wHd N x < 8 := by have := (hN.2.2.2.2.1 _ (wFl_lt hx)).1; unfold wHd; omega
  unfold F_X8_follows wFol
  rw [r_head hN hc hx, r_tail hN hc hy]
  have q : nI (wHd N x) = nI (wTl N y) ↔ wHd N x = wTl N y := nI_eq (by omega) (by omega)
  show (if ¬ nI (wHd N x) = nI (wTl N y) then some (0 : Int32) else (ald 1556 h 124 (F_X8_ban h (nI (wHd N x)) (nI x / (2 : Int32)))).bind fun z4 => if ¬ ((z4 >>> ((nI y / (2 : Int32)) &&& 31)) &&& (1 : Int32)) = 0 then some (0 : Int32) else some (1 : Int32)) = _
  by_cases q1 : wHd N x = wTl N y
  · have eb : F_X8_ban h (nI (wHd N x)) (nI x / (2 : Int32)) = nI (77 + 14 * wHd N x + x / 2) := by
      unfold F_X8_ban
      rw [r_half (by omega), i77, i14, nI_mul, nI_add, nI_add]
    rw [if_neg (fun z => z (q.mpr q1)), eb, r_num (by omega), (hc.2.2.2.2.1 x hx).2.2, r_half (by omega)]
    show (if ¬ ((wBn N x >>> (nI (y / 2) &&& 31)) &&& (1 : Int32)) = 0 then some (0 : Int32) else some (1 : Int32)) = _
    by_cases q2 : ((wBn N x) >>> (nI (y / 2) &&& 31)) &&& (1 : Int32) = 0
    · simp [q1, q2]
    · simp [q1, q2]
  · rw [if_pos (fun z => q1 (q.mp z))]
    simp [q1]
theorem r_min {a b : Nat} (ha : a < 2 ^ 31) (hb : b < 2 ^ 31) : F_X8_min h (nI a) (nI b) = nI (min a b) := by
  unfold F_X8_min
  by_cases q : b ≤ a
  · rw [if_pos (nI_le q ha), Nat.min_eq_right q]
  · rw [if_neg (nI_ge (by omega) hb), Nat.min_eq_left (by omega)]
def S137 (a : Nat) : Prop := 137 ≤ a ∧ a ≤ 164
def RG (h : PH) (N : NT) (k : Nat) : Prop := ∀ x y, x < 2 * wE N → y < 2 * wE N → h.1 (137 + 1 * x) y = nI (en 1000000 (fw N k x y))
theorem RG.same {h h' : PH} {k : Nat} (c : RG h N k) (e : ∀ j, j < 28 → h'.1 (137 + j) = h.1 (137 + j)) (hN : WN N) : RG h' N k := fun x y hx hy => by
  have hE := hN.2.2.1
  have := c x y hx hy
  rw [show 137 + 1 * x = 137 + x by omega] at this ⊢
  rw [e x (by omega)]
  exact this
theorem r_gaps (hN : WN N) (hc : RN h 124 N) : ∃ h', F_X8_layGaps h = some h' ∧ Fr S137 h h' ∧ RG h' N (2 * wE N) := by
  have hE := hN.2.2.1
  have nC : ∀ {g : PH}, Fr S137 h g → RN g 124 N := fun fr => hc.fr fr (fun z => by have := z.1; omega)
  unfold F_X8_layGaps
  rw [r_arcs hc]
  show ∃ h', loop _ _ = some h' ∧ _
  refine loop_ind0 (fun k (s : Int32 × PH) => s.1 = nI k ∧ k ≤ 2 * wE N ∧ Fr S137 h s.2 ∧ ∀ x y, x < k → y < 2 * wE N → s.2.1 (137 + 1 * x) y = nI (en 1000000 (fw N 0 x y))) _ (2 * wE N) ⟨rfl, Nat.zero_le _, Fr.refl _, fun x y hx => absurd hx (Nat.not_lt_zero _)⟩ ?_
  rintro k ⟨s1, s2⟩ ⟨rfl, hk, fr, inv⟩
  dsimp only at fr inv ⊢
  rcases Nat.lt_or_ge k (2 * wE N) with q | q
  · refine Or.inr ⟨q, ?_⟩
    rw [if_neg (nI_ge q (by omega))]
    refine ex_inl (loop_ind0 (fun j (s : Int32 × PH) => s.1 = nI j ∧ j ≤ 2 * wE N ∧ Fr S137 h s.2 ∧ ∀ x y, y < 2 * wE N → (x < k ∨ (x = k ∧ y < j)) → s.2.1 (137 + 1 * x) y = nI (en 1000000 (fw N 0 x y))) _ (2 * wE N) ⟨rfl, Nat.zero_le _, fr, fun x y hy hx => ?_⟩ ?_)
    · rcases hx with hx | ⟨-, hx⟩
      · exact inv x y hx hy
      · omega
    rintro j ⟨r1, r2⟩ ⟨rfl, hj, fr2, inv2⟩
    dsimp only at fr2 inv2 ⊢
    rcases Nat.lt_or_ge j (2 * wE N) with q2 | q2
    · refine Or.inr ⟨q2, ?_⟩
      rw [if_neg (nI_ge q2 (by omega)), aidx_in (by omega) (show k < 28 by omega), r_follow hN (nC fr2) q q2]
      show ∃ s', (if (if wFol N k j then (1 : Int32) else (0 : Int32)) = 0 then (ast 28 r2 (137 + 1 * k) (nI j) (1000000 : Int32)).bind _ else (ast 28 r2 (137 + 1 * k) (nI j) (0 : Int32)).bind _) = some (Sum.inl s') ∧ _
      rw [ast_in (by omega) (by omega), ast_in (by omega) (by omega)]
      have step : ∀ v : Int32, v = nI (en 1000000 (fw N 0 k j)) → ((nI j + (1 : Int32), pu r2 (137 + 1 * k) j v) : Int32 × PH).1 = nI (j + 1) ∧ j + 1 ≤ 2 * wE N ∧ Fr S137 h (pu r2 (137 + 1 * k) j v) ∧ ∀ x y, y < 2 * wE N → (x < k ∨ (x = k ∧ y < j + 1)) → (pu r2 (137 + 1 * k) j v).1 (137 + 1 * x) y = nI (en 1000000 (fw N 0 x y)) := by
        intro v hv
        refine ⟨nI_1 j, q2, fr2.trans (Fr.pu ⟨by omega, by omega⟩), fun x y hy hx => ?_⟩
        rw [pu_get]
        by_cases e : x = k ∧ y = j
        · obtain ⟨rfl, rfl⟩ := e
          rw [if_pos ⟨rfl, rfl⟩, hv]
        · rw [if_neg (by omega)]
          exact inv2 x y hy (by omega)
      by_cases f : wFol N k j = true
      · rw [if_pos f, if_neg (by decide)]
        refine ⟨_, rfl, step _ ?_⟩
        unfold fw
        rw [if_pos f]
        rfl
      · rw [if_neg f, if_pos rfl]
        refine ⟨_, rfl, step _ ?_⟩
        unfold fw
        rw [if_neg f]
        rfl
    · obtain rfl : j = 2 * wE N := by omega
      refine Or.inl ⟨_, if_pos (nI_le (Nat.le_refl _) (by omega)), _, rfl, nI_1 k, q, fr2, fun x y hx hy => inv2 x y hy (by omega)⟩
  · obtain rfl : k = 2 * wE N := by omega
    refine Or.inl ?_
    rw [if_pos (nI_le (Nat.le_refl _) (by omega))]
    refine ex_inr (loop_ind0 (fun k (s : Int32 × PH) => s.1 = nI k ∧ k ≤ 2 * wE N ∧ Fr S137 h s.2 ∧ RG s.2 N k) _ (2 * wE N) ⟨rfl, Nat.zero_le _, fr, fun x y hx hy => inv x y hx hy⟩ ?_)
    rintro k ⟨u1, u2⟩ ⟨rfl, hk3, fr3, inv3⟩
    dsimp only at fr3 inv3 ⊢
    rcases Nat.lt_or_ge k (2 * wE N) with q3 | q3
    · refine Or.inr ⟨q3, ?_⟩
      have hck : wCo N k ≤ 99 := (hN.2.2.2.2.1 k q3).2.2.1
      rw [if_neg (nI_ge q3 (by omega))]
      refine ex_inl (loop_ind0 (fun i (s : Int32 × PH) => s.1 = nI i ∧ i ≤ 2 * wE N ∧ Fr S137 h s.2 ∧ ∀ x y, x < 2 * wE N → y < 2 * wE N → s.2.1 (137 + 1 * x) y = nI (en 1000000 (fw N (if x < i then k + 1 else k) x y))) _ (2 * wE N) ⟨rfl, Nat.zero_le _, fr3, fun x y hx hy => by rw [if_neg (Nat.not_lt_zero _)]; exact inv3 x y hx hy⟩ ?_)
      rintro i ⟨v1, v2⟩ ⟨rfl, hi, fr4, inv4⟩
      dsimp only at fr4 inv4 ⊢
      rcases Nat.lt_or_ge i (2 * wE N) with q4 | q4
      · refine Or.inr ⟨q4, ?_⟩
        rw [if_neg (nI_ge q4 (by omega))]
        refine ex_inl (loop_ind0 (fun j (s : Int32 × PH) => s.1 = nI j ∧ j ≤ 2 * wE N ∧ Fr S137 h s.2 ∧ ∀ x y, x < 2 * wE N → y < 2 * wE N → s.2.1 (137 + 1 * x) y = nI (en 1000000 (fw N (if x < i ∨ (x = i ∧ y < j) then k + 1 else k) x y))) _ (2 * wE N) ⟨rfl, Nat.zero_le _, fr4, fun x y hx hy => ?_⟩ ?_)
        · rw [inv4 x y hx hy]
          by_cases z : x < i
          · rw [if_pos z, if_pos (Or.inl z)]
          · rw [if_neg z, if_neg (by omega)]
        rintro j ⟨w1, w2⟩ ⟨rfl, hj, fr5, inv5⟩
        dsimp only at fr5 inv5 ⊢
        rcases Nat.lt_or_ge j (2 * wE N) with q5 | q5
        · refine Or.inr ⟨q5, ?_⟩
          have e1 : w2.1 (137 + 1 * i) j = nI (en 1000000 (fw N k i j)) := by rw [inv5 i j q4 q5, if_neg (by omega)]
          have e2 : w2.1 (137 + 1 * i) k = nI (en 1000000 (fw N k i k)) := by
            rw [inv5 i k q4 q3]
            by_cases z : i < i ∨ (i = i ∧ k < j)
            · rw [if_pos z, fw_col]
            · rw [if_neg z]
          have e3 : w2.1 (137 + 1 * k) j = nI (en 1000000 (fw N k k j)) := by
            rw [inv5 k j q3 q5]
            by_cases z : k < i ∨ (k = i ∧ j < j)
            · rw [if_pos z, fw_row]
            · rw [if_neg z]
          have l1 : en 1000000 (fw N k i j) ≤ 1000000 := en_le (fun w hw => fw_le hN hk3 hw) (by omega)
          have l2 : en 1000000 (fw N k i k) ≤ 1000000 := en_le (fun w hw => fw_le hN hk3 hw) (by omega)
          have l3 : en 1000000 (fw N k k j) ≤ 1000000 := en_le (fun w hw => fw_le hN hk3 hw) (by omega)
          have hmin : min (en 1000000 (fw N k i j)) (en 1000000 (fw N k i k) + wCo N k + en 1000000 (fw N k k j)) = en 1000000 (fw N (k + 1) i j) :=
            en_min3 (fun v hv => by have := fw_le hN hk3 hv; omega) (fun u v hu hv => by have := fw_le hN hk3 hu; have := fw_le hN hk3 hv; omega)
          rw [if_neg (nI_ge q5 (by omega)), aidx_in (by omega) (show i < 28 by omega)]
          show ∃ s', (ald 28 w2 (137 + 1 * i) (nI j)).bind _ = some (Sum.inl s') ∧ _
          rw [ald_in (by omega) (show j < 28 by omega)]
          show ∃ s', (ald 28 w2 (137 + 1 * i) (nI k)).bind _ = some (Sum.inl s') ∧ _
          rw [ald_in (by omega) (show k < 28 by omega)]
          show ∃ s', (F_X8_costOf w2 (nI k)).bind _ = some (Sum.inl s') ∧ _
          rw [r_cost hN (nC fr5) q3, aidx_in (by omega) (show k < 28 by omega)]
          show ∃ s', (ald 28 w2 (137 + 1 * k) (nI j)).bind _ = some (Sum.inl s') ∧ _
          rw [ald_in (by omega) (show j < 28 by omega)]
          show ∃ s', (ast 28 w2 (137 + 1 * i) (nI j) (F_X8_min w2 (w2.1 (137 + 1 * i) j) ((w2.1 (137 + 1 * i) k + nI (wCo N k)) + w2.1 (137 + 1 * k) j))).bind _ = some (Sum.inl s') ∧ _
          rw [e1, e2, e3, nI_add, nI_add, r_min (by omega) (by omega), hmin, ast_in (by omega) (by omega)]
          refine ⟨_, rfl, nI_1 j, q5, fr5.trans (Fr.pu ⟨by omega, by omega⟩), fun x y hx hy => ?_⟩
          dsimp only
          rw [pu_get]
          by_cases e : x = i ∧ y = j
          · obtain ⟨rfl, rfl⟩ := e
            rw [if_pos ⟨rfl, rfl⟩, if_pos (by omega)]
          · rw [if_neg (by omega), inv5 x y hx hy]
            by_cases z2 : x < i ∨ (x = i ∧ y < j)
            · rw [if_pos z2, if_pos (by omega)]
            · rw [if_neg z2, if_neg (by omega)]
        · obtain rfl : j = 2 * wE N := by omega
          refine Or.inl ⟨_, if_pos (nI_le (Nat.le_refl _) (by omega)), _, rfl, nI_1 i, q4, fr5, fun x y hx hy => ?_⟩
          rw [inv5 x y hx hy]
          by_cases z2 : x < i ∨ (x = i ∧ y < 2 * wE N)
          · rw [if_pos z2, if_pos (by omega)]
          · rw [if_neg z2, if_neg (by omega)]
      · obtain rfl : i = 2 * wE N := by omega
        refine Or.inl ⟨_, if_pos (nI_le (Nat.le_refl _) (by omega)), _, rfl, nI_1 k, q3, fr4, fun x y hx hy => ?_⟩
        rw [inv4 x y hx hy, if_pos hx]
    · obtain rfl : k = 2 * wE N := by omega
      exact Or.inl ⟨_, if_pos (nI_le (Nat.le_refl _) (by omega)), _, rfl, fr3, inv3⟩
/-- a gap -/
theorem r_gap {x y : Nat} (hN : WN N) (hg : RG h N (2 * wE N)) (hx : x < 2 * wE N) (hy : y < 2 * wE N) : ald 28 h (137 + 1 * x) (nI y) = some (nI (en 1000000 (wDh N x y))) := by
  have hE := hN.2.2.1
  rw [ald_in (by omega) (by omega), hg x y hx hy]
  rfl
theorem r_app {x v : Nat} (hN : WN N) (hc : RN h 124 N) (hg : RG h N (2 * wE N)) (hx : x < 2 * wE N) (hv : v < 8) : F_X8_approach h (nI v) (nI x) = some (nI (en 1000000 (wApp N v x))) := by
  have hE := hN.2.2.1
  have hn := hN.1
  have tlt : ∀ z, z < 2 * wE N → wTl N z < 8 := fun z hz => by have := (hN.2.2.2.2.1 z hz).1; omega
  unfold F_X8_approach wApp
  rw [r_tail hN hc hx]
  show (if ¬ nI (wTl N x) = nI v then loop _ _ else some (0 : Int32)) = _
  by_cases q : wTl N x = v
  · rw [if_neg (by rw [q]; exact fun z => z rfl), if_pos q]
    rfl
  · have q2 : ¬ nI (wTl N x) = nI v := fun z => q ((nI_eq (by have := tlt x hx; omega) (by omega)).mp z)
    rw [if_pos q2, if_neg q]
    refine loop_to (fun k => (nI (en 1000000 (fapp N v x k)), nI k)) (2 * wE N) rfl (fun k hk => ?_) ?_
    · dsimp only
      have b1 : en 1000000 (fapp N v x k) ≤ 1000000 := en_le (fun w hw => fapp_le hN k w (by omega) hw) (by omega)
      have b2 : en 1000000 (wDh N k x) ≤ 1000000 := en_le (fun w hw => wDh_le hN hw) (by omega)
      have hck : wCo N k ≤ 99 := (hN.2.2.2.2.1 k hk).2.2.1
      rw [r_arcs hc]
      show (if nI (2 * wE N) ≤ nI k then _ else (F_X8_tail h (nI k)).bind _) = _
      rw [if_neg (nI_ge hk (by omega)), r_tail hN hc hk]
      show (if ¬ nI (wTl N k) = nI v then some (Sum.inl (nI (en 1000000 (fapp N v x k)), nI k + (1 : Int32))) else (F_X8_costOf h (nI k)).bind _) = _
      by_cases z : wTl N k = v
      · rw [if_neg (by rw [z]; exact fun z => z rfl), r_cost hN hc hk, aidx_in (by omega) (show k < 28 by omega)]
        show (ald 28 h (137 + 1 * k) (nI x)).bind _ = _
        rw [r_gap hN hg hk hx]
        show some (Sum.inl (F_X8_min h (nI (en 1000000 (fapp N v x k))) (nI (wCo N k) + nI (en 1000000 (wDh N k x))), nI k + (1 : Int32))) = some (Sum.inl (nI (en 1000000 (if wTl N k = v then _ else _)), nI (k + 1)))
        rw [if_pos z, nI_add, r_min (by omega) (by omega), en_min2 (fun w hw => by have := fapp_le hN k w (by omega) hw; omega) (fun w hw => by have := wDh_le hN hw; omega), nI_1]
      · have z2 : ¬ nI (wTl N k) = nI v := fun y => z ((nI_eq (by have := tlt k hk; omega) (by omega)).mp y)
        rw [if_pos z2]
        show some (Sum.inl (nI (en 1000000 (fapp N v x k)), nI k + (1 : Int32))) = some (Sum.inl (nI (en 1000000 (if wTl N k = v then _ else _)), nI (k + 1)))
        rw [if_neg z, nI_1]
    · dsimp only
      rw [r_arcs hc]
      exact if_pos (nI_le (Nat.le_refl _) (by omega))
theorem r_ret {x v : Nat} (hN : WN N) (hc : RN h 124 N) (hg : RG h N (2 * wE N)) (hx : x < 2 * wE N) (hv : v < 8) : F_X8_comeBack h (nI x) (nI v) = some (nI (en 1000000 (wRet N x v))) := by
  have hE := hN.2.2.1
  have hn := hN.1
  have tlt : ∀ z, z < 2 * wE N → wHd N z < 8 := fun z hz => by have := (hN.2.2.2.2.1 _ (wFl_lt hz)).1; unfold wHd; omega
  unfold F_X8_comeBack wRet
  rw [r_head hN hc hx]
  show (if ¬ nI (wHd N x) = nI v then loop _ _ else some (0 : Int32)) = _
  by_cases q : wHd N x = v
  · rw [if_neg (by rw [q]; exact fun z => z rfl), if_pos q]
    rfl
  · have q2 : ¬ nI (wHd N x) = nI v := fun z => q ((nI_eq (by have := tlt x hx; omega) (by omega)).mp z)
    rw [if_pos q2, if_neg q]
    refine loop_to (fun k => (nI (en 1000000 (fret N x v k)), nI k)) (2 * wE N) rfl (fun k hk => ?_) ?_
    · dsimp only
      have b1 : en 1000000 (fret N x v k) ≤ 1000000 := en_le (fun w hw => fret_le hN k w (by omega) hw) (by omega)
      have b2 : en 1000000 (wDh N x k) ≤ 1000000 := en_le (fun w hw => wDh_le hN hw) (by omega)
      have hck : wCo N k ≤ 99 := (hN.2.2.2.2.1 k hk).2.2.1
      rw [r_arcs hc]
      show (if nI (2 * wE N) ≤ nI k then _ else (F_X8_head h (nI k)).bind _) = _
      rw [if_neg (nI_ge hk (by omega)), r_head hN hc hk]
      show (if ¬ nI (wHd N k) = nI v then some (Sum.inl (nI (en 1000000 (fret N x v k)), nI k + (1 : Int32))) else (aidx 28 (nI x)).bind _) = _
      by_cases z : wHd N k = v
      · rw [if_neg (by rw [z]; exact fun z => z rfl), aidx_in (by omega) (show x < 28 by omega)]
        show (ald 28 h (137 + 1 * x) (nI k)).bind _ = _
        rw [r_gap hN hg hx hk]
        show (F_X8_costOf h (nI k)).bind _ = _
        rw [r_cost hN hc hk]
        show some (Sum.inl (F_X8_min h (nI (en 1000000 (fret N x v k))) (nI (en 1000000 (wDh N x k)) + nI (wCo N k)), nI k + (1 : Int32))) = some (Sum.inl (nI (en 1000000 (if wHd N k = v then _ else _)), nI (k + 1)))
        rw [if_pos z, nI_add, Nat.add_comm (en 1000000 (wDh N x k)), r_min (by omega) (by omega), en_min2 (fun w hw => by have := fret_le hN k w (by omega) hw; omega) (fun w hw => by have := wDh_le hN hw; omega), nI_1]
      · have z2 : ¬ nI (wHd N k) = nI v := fun y => z ((nI_eq (by have := tlt k hk; omega) (by omega)).mp y)
        rw [if_pos z2]
        show some (Sum.inl (nI (en 1000000 (fret N x v k)), nI k + (1 : Int32))) = some (Sum.inl (nI (en 1000000 (if wHd N k = v then _ else _)), nI (k + 1)))
        rw [if_neg z, nI_1]
    · dsimp only
      rw [r_arcs hc]
      exact if_pos (nI_le (Nat.le_refl _) (by omega))
theorem r_dst {u v : Nat} (hN : WN N) (hc : RN h 124 N) (hg : RG h N (2 * wE N)) (hu : u < 8) (hv : v < 8) : F_X8_distanceOf h (nI u) (nI v) = some (nI (en 1000000 (wDst N u v))) := by
  have hE := hN.2.2.1
  have hn := hN.1
  have tlt : ∀ z, z < 2 * wE N → wTl N z < 8 := fun z hz => by have := (hN.2.2.2.2.1 z hz).1; omega
  unfold F_X8_distanceOf wDst
  by_cases q : u = v
  · rw [if_neg (by rw [q]; exact fun z => z rfl), if_pos q]
    rfl
  · have q2 : ¬ nI u = nI v := fun z => q ((nI_eq (by omega) (by omega)).mp z)
    rw [if_pos q2, if_neg q]
    refine loop_to (fun k => (nI (en 1000000 (fdst N u v k)), nI k)) (2 * wE N) rfl (fun k hk => ?_) ?_
    · dsimp only
      have b1 : en 1000000 (fdst N u v k) ≤ 1000000 := en_le (fun w hw => fdst_le hN k w (by omega) hw) (by omega)
      have b2 : en 1000000 (wRet N k v) ≤ 1000000 := en_le (fun w hw => wRet_le hN hw) (by omega)
      have hck : wCo N k ≤ 99 := (hN.2.2.2.2.1 k hk).2.2.1
      rw [r_arcs hc]
      show (if nI (2 * wE N) ≤ nI k then _ else (F_X8_tail h (nI k)).bind _) = _
      rw [if_neg (nI_ge hk (by omega)), r_tail hN hc hk]
      show (if ¬ nI (wTl N k) = nI u then some (Sum.inl (nI (en 1000000 (fdst N u v k)), nI k + (1 : Int32))) else (F_X8_costOf h (nI k)).bind _) = _
      by_cases z : wTl N k = u
      · rw [if_neg (by rw [z]; exact fun z => z rfl), r_cost hN hc hk]
        show (F_X8_comeBack h (nI k) (nI v)).bind _ = _
        rw [r_ret hN hc hg hk hv]
        show some (Sum.inl (F_X8_min h (nI (en 1000000 (fdst N u v k))) (nI (wCo N k) + nI (en 1000000 (wRet N k v))), nI k + (1 : Int32))) = some (Sum.inl (nI (en 1000000 (if wTl N k = u then _ else _)), nI (k + 1)))
        rw [if_pos z, nI_add, r_min (by omega) (by omega), en_min2 (fun w hw => by have := fdst_le hN k w (by omega) hw; omega) (fun w hw => by have := wRet_le hN hw; omega), nI_1]
      · have z2 : ¬ nI (wTl N k) = nI u := fun y => z ((nI_eq (by have := tlt k hk; omega) (by omega)).mp y)
        rw [if_pos z2]
        show some (Sum.inl (nI (en 1000000 (fdst N u v k)), nI k + (1 : Int32))) = some (Sum.inl (nI (en 1000000 (if wTl N k = u then _ else _)), nI (k + 1)))
        rw [if_neg z, nI_1]
    · dsimp only
      rw [r_arcs hc]
      exact if_pos (nI_le (Nat.le_refl _) (by omega))
end RRT
