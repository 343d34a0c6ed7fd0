/-! THE CITY'S NETWORK, READ -/
def CO (D : gDS) (c : Nat) (N : NT) (sv : gRF) (e b d hh tt : Nat) (gp : gRF) : Prop := tO D c 8 [.inl (nI (wN N)), .inl (nI (wC N)), .inr (.inr sv), .inr (.inr (rf e)), .inr (.inr (rf b)), .inr (.inr (rf d)), .inr (.inr (rf hh)), .inr (.inr (rf tt)), .inr (.inr gp)]
/-- a row of the edges -/
def eRow (N : NT) (k : Nat) : List Int32 := [nI (wTl N (2 * k)), nI (wTl N (2 * k + 1)), nI (wCo N (2 * k)), nI (wCo N (2 * k + 1)), nI (wDe N k)]
def GEd (D : gDS) (N : NT) (e : Nat) : Prop := ∃ es : List gRF, tQ D e es ∧ es.length = wE N ∧ ∀ k, k < wE N → ∃ i, es[k]? = some (rf i) ∧ tI D i (eRow N k)
/-- a ban: node, from edge, onto edge -/
def bRow (x : Nat × Nat × Nat) : List Int32 := [nI x.1, nI x.2.1, nI x.2.2]
def GBn (D : gDS) (N : NT) (b : Nat) : Prop := ∃ (bs : List gRF) (B : List (Nat × Nat × Nat)), tQ D b bs ∧ bs.length = B.length ∧ B.length ≤ 1000 ∧ (∀ (j : Nat) (x : Nat × Nat × Nat), B[j]? = some x → (∃ i, bs[j]? = some (rf i) ∧ tI D i (bRow x)) ∧ x.1 < 8 ∧ x.2.1 < 14 ∧ x.2.2 < 14) ∧
  ∀ x y, x < 2 * wE N → y < 2 * wE N → wHd N x = wTl N y → (((wBn N x) >>> (nI (y / 2) &&& 31)) &&& (1 : Int32) = 0 ↔ ¬ (wHd N x, x / 2, y / 2) ∈ B)
def GDp (D : gDS) (N : NT) (d : Nat) : Prop := tI D d ((List.range (wD N)).map fun k => nI (wDp N k))
theorem GEd.ext {W : Nat → Prop} {A B : gDS} {N : NT} {e : Nat} (h : GEd A N e) (x : gE W A B) (hw : ∀ i, i < A.1.length → W i → i ≠ e ∧ ∀ ys, ¬ tI A i ys) : GEd B N e := by
  obtain ⟨es, h1, h2, h3⟩ := h
  refine ⟨es, x.tQ (fun q => (hw e (tQ_lt h1) q).1 rfl) h1, h2, fun k hk => ?_⟩
  obtain ⟨i, h4, h5⟩ := h3 k hk
  exact ⟨i, h4, x.tI (fun q => (hw i (tI_lt h5) q).2 _ h5) h5⟩
theorem GBn.ext {W : Nat → Prop} {A B : gDS} {N : NT} {b : Nat} (h : GBn A N b) (x : gE W A B) (hw : ∀ i, i < A.1.length → W i → i ≠ b ∧ ∀ ys, ¬ tI A i ys) : GBn B N b := by
  obtain ⟨bs, Bl, h1, h2, h3, h4, h5⟩ := h
  refine ⟨bs, Bl, x.tQ (fun q => (hw b (tQ_lt h1) q).1 rfl) h1, h2, h3, fun j y hy => ?_, h5⟩
  obtain ⟨⟨i, h6, h7⟩, h8⟩ := h4 j y hy
  exact ⟨⟨i, h6, x.tI (fun q => (hw i (tI_lt h7) q).2 _ h7) h7⟩, h8⟩
section CNET
variable {D : gDS} {c e b d hh tt : Nat} {N : NT} {sv gp : gRF}
theorem g_arcs (hC : CO D c N sv e b d hh tt gp) (hE : GEd D N e) : F_X8_arcs D (rf c) = some (nI (2 * wE N)) := by
  obtain ⟨es, h1, h2, -⟩ := hE
  unfold F_X8_arcs
  rw [gRv_t hC, Option.bind_some, gFr_t hC (b := 3) rfl, Option.bind_some, gLen_q h1, Option.bind_some, h2, i2, nI_mul]
theorem g_row {k : Nat} (hE : GEd D N e) (hk : k < wE N) (hN : WN N) : ∃ i, gQld D (rf e) (nI k) = some (rf i) ∧ tI D i (eRow N k) := by
  obtain ⟨es, h1, h2, h3⟩ := hE
  obtain ⟨i, h4, h5⟩ := h3 k hk
  have hE := hN.2.2.1
  exact ⟨i, gQld_t h1 h4 (by omega), h5⟩
theorem half_I {x : Nat} (hx : x < 2 ^ 31) : nI x / (2 : Int32) = nI (x / 2) := by rw [i2, nI_div hx (by omega)]
theorem mod_I {x : Nat} (hx : x < 2 ^ 31) : nI x - nI x / (2 : Int32) * (2 : Int32) = nI (x % 2) := by rw [i2, nI_mod hx (by omega) (by omega)]
theorem g_from {x : Nat} (hN : WN N) (hC : CO D c N sv e b d hh tt gp) (hE : GEd D N e) (hx : x < 2 * wE N) : F_X8_from D (rf c) (nI x) = some (nI (wTl N x)) := by
  have hE4 := hN.2.2.1
  obtain ⟨i, h1, h2⟩ := g_row hE (k := x / 2) (by omega) hN
  have hm := Nat.mod_lt x (show 0 < 2 by omega)
  unfold F_X8_from
  rw [gRv_t hC, Option.bind_some, gFr_t hC (b := 3) rfl, Option.bind_some, half_I (by omega), h1, Option.bind_some, ← half_I (by omega : x < 2 ^ 31), mod_I (by omega), gIld_t h2 (by show x % 2 < 5; omega) (by omega), Option.bind_some]
  rcases Nat.mod_two_eq_zero_or_one x with q | q
  · rw [q]
    show some (nI (wTl N (2 * (x / 2)))) = _
    rw [show 2 * (x / 2) = x by omega]
  · rw [q]
    show some (nI (wTl N (2 * (x / 2) + 1))) = _
    rw [show 2 * (x / 2) + 1 = x by omega]
theorem g_to {x : Nat} (hN : WN N) (hC : CO D c N sv e b d hh tt gp) (hE : GEd D N e) (hx : x < 2 * wE N) : F_X8_to D (rf c) (nI x) = some (nI (wHd N x)) := by
  have hE4 := hN.2.2.1
  obtain ⟨i, h1, h2⟩ := g_row hE (k := x / 2) (by omega) hN
  have hm := Nat.mod_lt x (show 0 < 2 by omega)
  unfold F_X8_to
  rw [gRv_t hC, Option.bind_some, gFr_t hC (b := 3) rfl, Option.bind_some, half_I (by omega), h1, Option.bind_some, ← half_I (by omega : x < 2 ^ 31), mod_I (by omega), i1, nI_sub (by omega), gIld_t h2 (by show 1 - x % 2 < 5; omega) (by omega), Option.bind_some]
  unfold wHd wFl
  rcases Nat.mod_two_eq_zero_or_one x with q | q
  · rw [q, if_pos rfl]
    show some (nI (wTl N (2 * (x / 2) + 1))) = _
    rw [show 2 * (x / 2) + 1 = x + 1 by omega]
  · rw [q, if_neg (by omega)]
    show some (nI (wTl N (2 * (x / 2)))) = _
    rw [show 2 * (x / 2) = x - 1 by omega]
theorem g_cost {x : Nat} (hN : WN N) (hC : CO D c N sv e b d hh tt gp) (hE : GEd D N e) (hx : x < 2 * wE N) : F_X8_cost D (rf c) (nI x) = some (nI (wCo N x)) := by
  have hE4 := hN.2.2.1
  obtain ⟨i, h1, h2⟩ := g_row hE (k := x / 2) (by omega) hN
  have hm := Nat.mod_lt x (show 0 < 2 by omega)
  unfold F_X8_cost
  rw [gRv_t hC, Option.bind_some, gFr_t hC (b := 3) rfl, Option.bind_some, half_I (by omega), h1, Option.bind_some, ← half_I (by omega : x < 2 ^ 31), mod_I (by omega), i2, nI_add, gIld_t h2 (by show 2 + x % 2 < 5; omega) (by omega), Option.bind_some]
  rcases Nat.mod_two_eq_zero_or_one x with q | q
  · rw [q]
    show some (nI (wCo N (2 * (x / 2)))) = _
    rw [show 2 * (x / 2) = x by omega]
  · rw [q]
    show some (nI (wCo N (2 * (x / 2) + 1))) = _
    rw [show 2 * (x / 2) + 1 = x by omega]
theorem g_demand {x : Nat} (hN : WN N) (hC : CO D c N sv e b d hh tt gp) (hE : GEd D N e) (hx : x < 2 * wE N) : F_X8_demand D (rf c) (nI x) = some (nI (wDe N (x / 2))) := by
  have hE4 := hN.2.2.1
  obtain ⟨i, h1, h2⟩ := g_row hE (k := x / 2) (by omega) hN
  unfold F_X8_demand
  rw [gRv_t hC, Option.bind_some, gFr_t hC (b := 3) rfl, Option.bind_some, half_I (by omega), h1, Option.bind_some, show (4 : Int32) = nI 4 from rfl, gIld_t h2 (by show 4 < 5; omega) (by omega)]
  rfl
theorem g_turn {x y : Nat} (hN : WN N) (hC : CO D c N sv e b d hh tt gp) (hE : GEd D N e) (hB : GBn D N b) (hx : x < 2 * wE N) (hy : y < 2 * wE N) : F_X8_mayTurn D (rf c) (nI x) (nI y) = some (if wFol N x y then (1 : Int32) else (0 : Int32)) := by
  have hE4 := hN.2.2.1
  have hn := hN.1
  have t1 := (hN.2.2.2.2.1 y hy).1
  have t2 := (hN.2.2.2.2.1 _ (wFl_lt hx)).1
  have t3 : wHd N x < 8 := by unfold wHd; omega
  obtain ⟨bs, B, h1, h2, h3, h4, h5⟩ := hB
  have hb : ∀ j, (hj : j < B.length) → ∃ i, bs[j]? = some (rf i) ∧ tI D i (bRow B[j]) ∧ B[j].1 < 8 ∧ B[j].2.1 < 14 ∧ B[j].2.2 < 14 := fun j hj => by
    obtain ⟨⟨i, q1, q2⟩, q3⟩ := h4 j B[j] (List.getElem?_eq_getElem hj)
    exact ⟨i, q1, q2, q3⟩
  unfold F_X8_mayTurn
  rw [gRv_t hC, Option.bind_some, g_to hN hC hE hx, Option.bind_some, g_from hN hC hE hy, Option.bind_some]
  have q : nI (wHd N x) = nI (wTl N y) ↔ wHd N x = wTl N y := nI_eq (by omega) (by omega)
  by_cases q1 : wHd N x = wTl N y
  · rw [if_pos (q.mpr q1), gFr_t hC (b := 4) rfl, Option.bind_some, gLen_q h1, Option.bind_some, h2]
    have h6 := h5 x y hx hy q1
    have key : ∃ t, loop (fun (s5 : Int32) =>
        if nI B.length ≤ s5 then
         some (.inr ((1 : Int32)))
        else
         (gQld D (rf b) s5).bind fun r6 =>
         (gIld D r6 1 (0 : Int32)).bind fun z7 =>
         (some (nI (wHd N x))).bind fun y8 =>
         if ¬ z7 = y8 then
          some (.inl ((s5 + (1 : Int32))))
         else
          (gIld D r6 1 (1 : Int32)).bind fun z9 =>
          if ¬ z9 = (nI x / (2 : Int32)) then
           some (.inl ((s5 + (1 : Int32))))
          else
           (gIld D r6 1 (2 : Int32)).bind fun z10 =>
           if ¬ z10 = (nI y / (2 : Int32)) then
            some (.inl ((s5 + (1 : Int32))))
           else
            some (.inr ((0 : Int32)))) ((0 : Int32)) = some t ∧ t = if (wHd N x, x / 2, y / 2) ∈ B then (0 : Int32) else (1 : Int32) := by
      refine loop_ind0 (fun k s => k ≤ B.length ∧ s = nI k ∧ ∀ j (hj : j < B.length), j < k → B[j] ≠ (wHd N x, x / 2, y / 2)) _ B.length ⟨Nat.zero_le _, rfl, fun j _ hj => absurd hj (Nat.not_lt_zero j)⟩ (fun k s hI => ?_)
      obtain ⟨hk, rfl, hno⟩ := hI
      rcases Nat.lt_or_ge k B.length with q2 | q2
      · have hle : ¬ nI B.length ≤ nI k := fun z => by
          rw [Int32.le_iff_toInt_le, nI_toInt (by omega), nI_toInt (by omega)] at z
          omega
        obtain ⟨i, b1, b2, b3, b4, b5⟩ := hb k q2
        rw [if_neg hle, gQld_t h1 b1 (by omega), Option.bind_some, show (0 : Int32) = nI 0 from rfl, gIld_t b2 (by show 0 < 3; omega) (by omega), Option.bind_some, Option.bind_some, show (1 : Int32) = nI 1 from rfl, gIld_t b2 (by show 1 < 3; omega) (by omega), Option.bind_some, half_I (by omega), half_I (by omega : y < 2 ^ 31), show (2 : Int32) = nI 2 from rfl, gIld_t b2 (by show 2 < 3; omega) (by omega), Option.bind_some, nI_add]
        rw [show (bRow B[k]).getD 0 0 = nI B[k].1 from rfl, show (bRow B[k]).getD 1 0 = nI B[k].2.1 from rfl, show (bRow B[k]).getD 2 0 = nI B[k].2.2 from rfl]
        have c1 : nI B[k].1 = nI (wHd N x) ↔ B[k].1 = wHd N x := nI_eq (by omega) (by omega)
        have c2 : nI B[k].2.1 = nI (x / 2) ↔ B[k].2.1 = x / 2 := nI_eq (by omega) (by omega)
        have c3 : nI B[k].2.2 = nI (y / 2) ↔ B[k].2.2 = y / 2 := nI_eq (by omega) (by omega)
        have go : B[k] ≠ (wHd N x, x / 2, y / 2) → k + 1 ≤ B.length ∧ nI (k + 1) = nI (k + 1) ∧ ∀ j (hj : j < B.length), j < k + 1 → B[j] ≠ (wHd N x, x / 2, y / 2) := fun hne => ⟨q2, rfl, fun j hj hjk => by
          rcases Nat.lt_or_ge j k with q3 | q3
          · exact hno j hj q3
          · obtain rfl : j = k := by omega
            exact hne⟩
        by_cases d1 : B[k].1 = wHd N x
        · by_cases d2 : B[k].2.1 = x / 2
          · by_cases d3 : B[k].2.2 = y / 2
            · refine Or.inl ⟨0, ?_, ?_⟩
              · rw [if_neg (fun z => z (c1.mpr d1)), if_neg (fun z => z (c2.mpr d2)), if_neg (fun z => z (c3.mpr d3))]
                rfl
              · have e9 : B[k] = (wHd N x, x / 2, y / 2) := by rw [← d1, ← d2, ← d3]
                have hm : (wHd N x, x / 2, y / 2) ∈ B := e9 ▸ List.getElem_mem q2
                rw [if_pos hm]
                rfl
            · refine Or.inr ⟨q2, nI (k + 1), ?_, go (fun z => d3 (by rw [z]))⟩
              rw [if_neg (fun z => z (c1.mpr d1)), if_neg (fun z => z (c2.mpr d2)), if_pos (fun z => d3 (c3.mp z))]
          · refine Or.inr ⟨q2, nI (k + 1), ?_, go (fun z => d2 (by rw [z]))⟩
            rw [if_neg (fun z => z (c1.mpr d1)), if_pos (fun z => d2 (c2.mp z))]
        · refine Or.inr ⟨q2, nI (k + 1), ?_, go (fun z => d1 (by rw [z]))⟩
          rw [if_pos (fun z => d1 (c1.mp z))]
      · obtain rfl : k = B.length := by omega
        refine Or.inl ⟨1, ?_, ?_⟩
        · rw [if_pos (Int32.le_refl _)]
        · rw [if_neg]
          intro hm
          obtain ⟨j, hj, e9⟩ := List.getElem_of_mem hm
          exact hno j hj hj e9
    obtain ⟨t, k1, k2⟩ := key
    refine k1.trans ?_
    rw [k2]
    unfold wFol
    by_cases q2 : (wHd N x, x / 2, y / 2) ∈ B
    · have : ¬ ((wBn N x) >>> (nI (y / 2) &&& 31)) &&& (1 : Int32) = 0 := fun z => (h6.mp z) q2
      rw [if_pos q2]
      simp [q1, this]
    · have := h6.mpr q2
      rw [if_neg q2]
      simp [q1, this]
  · rw [if_neg (fun z => q1 (q.mp z))]
    unfold wFol
    simp [q1]
end CNET
