/-! ROWS MADE: inserted, without -/
def fil (f : Nat → Nat) (j : Nat) : Nat → Nat := fun y => if y < j then f y else 0
theorem fil_up {f : Nat → Nat} {j : Nat} : up8 (fil f j) j (f j) = fil f (j + 1) := by
  funext y
  unfold up8 fil
  by_cases q : y = j
  · rw [if_pos q, if_pos (by omega), q]
  · rw [if_neg q]
    by_cases z : y < j
    · rw [if_pos z, if_pos (by omega)]
    · rw [if_neg z, if_neg (by omega)]
theorem rw8_ag {n : Nat} {f f' : Nat → Nat} (h : ∀ y, y < n → f y = f' y) : rw8 n f = rw8 n f' := by
  unfold rw8
  refine List.map_congr_left fun y hy => ?_
  rw [h y (List.mem_range.mp hy)]
theorem rw8_fil {n : Nat} {f : Nat → Nat} : rw8 n (fil f n) = rw8 n f := rw8_ag fun y hy => if_pos hy
theorem rw8_fil0 {n : Nat} {f : Nat → Nat} : rw8 n (fil f 0) = List.replicate n (0 : Int32) := by
  have h : ∀ y, y < n → fil f 0 y = (fun _ => 0) y := fun y _ => if_neg (Nat.not_lt_zero y)
  rw [rw8_ag h]
  unfold rw8
  rw [List.map_const', List.length_range]
  rfl
/-- a row being filled, behind all of D's things -/
def FL (D D' : gDS) (n : Nat) (f : Nat → Nat) (j : Nat) : Prop := tI D' D.1.length (rw8 n (fil f j)) ∧ gE noW D D' ∧ D'.1.length = D.1.length + 1 ∧ gMd 1 n D D'
theorem FL.new {D : gDS} {n : Nat} {f : Nat → Nat} (h : n ≤ 100000) : ∃ D', gNwI D 1 (nI n) = some D' ∧ FL D D' n f 0 := by
  refine ⟨_, gNwI_n h, ?_, gNew_E, gNew_len, gNew_M⟩
  rw [rw8_fil0]
  exact gNew_at
theorem FL.put {D D' : gDS} {n j v : Nat} {f : Nat → Nat} (h : FL D D' n f j) (hj : j < n) (hn : n ≤ 100000) (hv : v = f j) : ∃ D2, gIst D' (gTop D) 1 (nI j) (nI v) = some D2 ∧ FL D D2 n f (j + 1) := by
  obtain ⟨h1, h2, h3, h4⟩ := h
  have s : gIst D' (gTop D) 1 (nI j) (nI v) = some (gSet D' D.1.length (.inr (.inl (1, (rw8 n (fil f j)).set j (nI v))))) := gIst_t h1 (by rw [rw8_len]; exact hj) (by omega)
  rw [rw8_set, hv, fil_up] at s
  rw [hv]
  exact ⟨_, s, gSet_at (by omega), ⟨by rw [gSet_len]; omega, fun i hi hw => (gSet_ne (by omega)).trans (h2.2 i hi hw)⟩, by rw [gSet_len]; exact h3, ⟨h4.1, h4.2⟩⟩
theorem FL.done {D D' : gDS} {n : Nat} {f : Nat → Nat} (h : FL D D' n f n) : tI D' D.1.length (rw8 n f) := by
  have := h.1
  rw [rw8_fil] at this
  exact this
theorem g_ins {D : gDS} {i n k x : Nat} {a : Nat → Nat} (hR : tI D i (rw8 n a)) (hn : n ≤ 15) (hk : k ≤ n) : ∃ D', F_L_inserted D (rf i) (nI k) (nI x) = some (gTop D, D') ∧ tI D' D.1.length (rw8 (n + 1) (insA a k x)) ∧ gE noW D D' ∧ D'.1.length = D.1.length + 1 ∧ gMd 1 (n + 1) D D' := by
  unfold F_L_inserted
  obtain ⟨D2, w1, w2⟩ := FL.new (D := D) (n := n + 1) (f := insA a k x) (by omega)
  rw [gLen_t hR, rw8_len, Option.bind_some, nI_1, w1, Option.bind_some]
  obtain ⟨t, h1, h2⟩ := loop_ind0 (body := fun (s3 : Int32 × gDS) =>
    (gLen s3.2 (gTop D)).bind fun z4 =>
    if z4 ≤ s3.1 then
     some (.inr (((gTop D), s3.2)))
    else
     if nI k ≤ s3.1 then
      if ¬ s3.1 = nI k then
       (gIld s3.2 (rf i) 1 (s3.1 - (1 : Int32))).bind fun z5 =>
       (gIst s3.2 (gTop D) 1 s3.1 z5).bind fun D6 =>
       some (.inl ((s3.1 + (1 : Int32)), D6))
      else
       (gIst s3.2 (gTop D) 1 s3.1 (nI x)).bind fun D7 =>
       some (.inl ((s3.1 + (1 : Int32)), D7))
     else
      (gIld s3.2 (rf i) 1 s3.1).bind fun z8 =>
      (gIst s3.2 (gTop D) 1 s3.1 z8).bind fun D9 =>
      some (.inl ((s3.1 + (1 : Int32)), D9))) (fun j s => j ≤ n + 1 ∧ ∃ D', s = (nI j, D') ∧ FL D D' (n + 1) (insA a k x) j) (fun t => ∃ D', t = (gTop D, D') ∧ FL D D' (n + 1) (insA a k x) (n + 1)) (n + 1) (s0 := ((0 : Int32), D2)) ⟨Nat.zero_le _, D2, rfl, w2⟩ (fun j s hI => by
    obtain ⟨hj, D', rfl, hF⟩ := hI
    have hl : gLen D' (gTop D) = some (nI (n + 1)) := by
      have := gLen_t hF.1
      rw [rw8_len] at this
      exact this
    have r1 : ∀ {l : Nat}, l < n → gIld D' (rf i) 1 (nI l) = some (nI (a l)) := fun {l} hl => by
      rw [gIld_t (hF.2.1.tI (fun q => q) hR) (by rw [rw8_len]; exact hl) (by omega), rw8_get hl]
    dsimp only
    rw [hl, Option.bind_some]
    rcases Nat.lt_or_ge j (n + 1) with q | q
    · have n1 : ¬ nI (n + 1) ≤ nI j := fun z => by
        have := (nI_le' (by omega) (by omega)).mp z
        omega
      refine Or.inr ⟨q, ?_⟩
      rw [if_neg n1]
      rcases Nat.lt_trichotomy j k with z | z | z
      · have n2 : ¬ nI k ≤ nI j := fun y => by
          have := (nI_le' (by omega) (by omega)).mp y
          omega
        obtain ⟨D3, p1, p2⟩ := hF.put q (by omega) (v := a j) (by unfold insA; rw [if_pos z])
        rw [if_neg n2, r1 (by omega), Option.bind_some, p1, Option.bind_some, nI_1]
        exact ⟨_, rfl, q, D3, rfl, p2⟩
      · subst z
        obtain ⟨D3, p1, p2⟩ := hF.put q (by omega) (v := x) (by unfold insA; rw [if_neg (Nat.lt_irrefl j), if_pos rfl])
        rw [if_pos (Int32.le_refl _), if_neg (fun y => y rfl), p1, Option.bind_some, nI_1]
        exact ⟨_, rfl, q, D3, rfl, p2⟩
      · have n2 : nI k ≤ nI j := (nI_le' (by omega) (by omega)).mpr (by omega)
        have n3 : ¬ nI j = nI k := fun y => by
          have := (nI_eq (by omega) (by omega)).mp y
          omega
        obtain ⟨D3, p1, p2⟩ := hF.put q (by omega) (v := a (j - 1)) (by unfold insA; rw [if_neg (by omega), if_neg (by omega)])
        rw [if_pos n2, if_pos n3, i1, nI_sub (by omega), r1 (by omega), Option.bind_some, p1, Option.bind_some, ← i1, nI_1]
        exact ⟨_, rfl, q, D3, rfl, p2⟩
    · obtain rfl : j = n + 1 := by omega
      exact Or.inl ⟨_, if_pos (Int32.le_refl _), D', rfl, hF⟩)
  obtain ⟨D', rfl, hF⟩ := h2
  exact ⟨D', h1, hF.done, hF.2.1, hF.2.2.1, hF.2.2.2⟩
theorem g_wth {D : gDS} {i n k : Nat} {a : Nat → Nat} (hR : tI D i (rw8 (n + 1) a)) (hn : n ≤ 15) (hk : k ≤ n) : ∃ D', F_L_without D (rf i) (nI k) = some (gTop D, D') ∧ tI D' D.1.length (rw8 n (delA a k)) ∧ gE noW D D' ∧ D'.1.length = D.1.length + 1 ∧ gMd 1 n D D' := by
  unfold F_L_without
  obtain ⟨D2, w1, w2⟩ := FL.new (D := D) (n := n) (f := delA a k) (by omega)
  rw [gLen_t hR, rw8_len, Option.bind_some, i1, nI_sub (by omega), Nat.add_sub_cancel, w1, Option.bind_some]
  obtain ⟨t, h1, h2⟩ := loop_ind0 (body := fun (s3 : Int32 × gDS) =>
    (gLen s3.2 (gTop D)).bind fun z4 =>
    if z4 ≤ s3.1 then
     some (.inr (((gTop D), s3.2)))
    else
     if nI k ≤ s3.1 then
      (gIld s3.2 (rf i) 1 (s3.1 + nI 1)).bind fun z5 =>
      (gIst s3.2 (gTop D) 1 s3.1 z5).bind fun D6 =>
      some (.inl ((s3.1 + nI 1), D6))
     else
      (gIld s3.2 (rf i) 1 s3.1).bind fun z7 =>
      (gIst s3.2 (gTop D) 1 s3.1 z7).bind fun D8 =>
      some (.inl ((s3.1 + nI 1), D8))) (fun j s => j ≤ n ∧ ∃ D', s = (nI j, D') ∧ FL D D' n (delA a k) j) (fun t => ∃ D', t = (gTop D, D') ∧ FL D D' n (delA a k) n) n (s0 := ((0 : Int32), D2)) ⟨Nat.zero_le _, D2, rfl, w2⟩ (fun j s hI => by
    obtain ⟨hj, D', rfl, hF⟩ := hI
    have hl : gLen D' (gTop D) = some (nI n) := by
      have := gLen_t hF.1
      rw [rw8_len] at this
      exact this
    have r1 : ∀ {l : Nat}, l < n + 1 → gIld D' (rf i) 1 (nI l) = some (nI (a l)) := fun {l} hl => by
      rw [gIld_t (hF.2.1.tI (fun q => q) hR) (by rw [rw8_len]; exact hl) (by omega), rw8_get hl]
    dsimp only
    rw [hl, Option.bind_some, nI_add]
    rcases Nat.lt_or_ge j n with q | q
    · have n1 : ¬ nI n ≤ nI j := fun z => by
        have := (nI_le' (by omega) (by omega)).mp z
        omega
      refine Or.inr ⟨q, ?_⟩
      rw [if_neg n1]
      rcases Nat.lt_or_ge j k with z | z
      · have n2 : ¬ nI k ≤ nI j := fun y => by
          have := (nI_le' (by omega) (by omega)).mp y
          omega
        obtain ⟨D3, p1, p2⟩ := hF.put q (by omega) (v := a j) (by unfold delA; rw [if_pos z])
        rw [if_neg n2, r1 (by omega), Option.bind_some, p1, Option.bind_some]
        exact ⟨_, rfl, q, D3, rfl, p2⟩
      · have n2 : nI k ≤ nI j := (nI_le' (by omega) (by omega)).mpr (by omega)
        obtain ⟨D3, p1, p2⟩ := hF.put q (by omega) (v := a (j + 1)) (by unfold delA; rw [if_neg (by omega)])
        rw [if_pos n2, r1 (by omega), Option.bind_some, p1, Option.bind_some]
        exact ⟨_, rfl, q, D3, rfl, p2⟩
    · obtain rfl : j = n := by omega
      exact Or.inl ⟨_, if_pos (Int32.le_refl _), D', rfl, hF⟩)
  obtain ⟨D', rfl, hF⟩ := h2
  exact ⟨D', h1, hF.done, hF.2.1, hF.2.2.1, hF.2.2.2⟩
