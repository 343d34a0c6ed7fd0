/-! THE RANDOM CITY, DONE -/
theorem gn_ok {D : gDS} : ∀ {n : Nat} {r : gRF} {l : List Stq}, GN D n r l → (∀ s ∈ l, stOK s) ∧ l.length + 1 ≤ 2 ^ n ∧ ∀ (c d : Int) (st : List Int), st.length + n ≤ 11 → ∃ v, evs c d l st = some (v :: st)
  | 0, _, _, h => absurd h id
  | n + 1, _, _, ⟨i, k, v, a, b, h1, h2, h3⟩ => by
    rcases h3 with ⟨q1, q2, rfl⟩ | ⟨q1, q2, la, lb, q3, q4, rfl⟩
    · refine ⟨fun s hs => by rw [List.mem_singleton] at hs; rw [hs]; exact q2, ?_, fun c d st hl => ⟨opv c d (k, v), ?_⟩⟩
      · show 1 + 1 ≤ 2 ^ (n + 1)
        rw [Nat.pow_succ]
        have := Nat.one_le_two_pow (n := n)
        omega
      · show (if (k, v).1 ≤ 1 then (if st.length < 11 then evs c d [] (opv c d (k, v) :: st) else none) else _) = _
        rw [if_pos q1, if_pos (by omega)]
        rfl
    · obtain ⟨a1, a2, a3⟩ := gn_ok q3
      obtain ⟨b1, b2, b3⟩ := gn_ok q4
      refine ⟨fun s hs => ?_, ?_, fun c d st hl => ?_⟩
      · rw [List.mem_append, List.mem_append, List.mem_singleton] at hs
        rcases hs with hs | hs | hs
        · exact a1 s hs
        · exact b1 s hs
        · rw [hs]
          exact ⟨q2, fun z => by have z : k = 0 := z; omega, fun z => by have z : k = 1 := z; omega⟩
      · rw [Nat.pow_succ]
        simp only [List.length_append, List.length_cons, List.length_nil]
        omega
      · obtain ⟨va, ea⟩ := a3 c d st (by omega)
        obtain ⟨vb, eb⟩ := b3 c d (va :: st) (by show st.length + 1 + n ≤ 11; omega)
        refine ⟨apo k va vb, ?_⟩
        rw [evs_app, ea, Option.bind_some, evs_app, eb, Option.bind_some]
        show (if (k, 0).1 ≤ 1 then _ else evs c d [] (apo (k, 0).1 va vb :: st)) = _
        rw [if_neg (by show ¬ k ≤ 1; omega)]
        rfl
theorem gn_svOK {D : gDS} {r : gRF} {l : List Stq} (h : GN D 4 r l) : svOK (some l) := by
  obtain ⟨h1, h2, h3⟩ := gn_ok h
  refine ⟨by have : 2 ^ 4 = 16 := rfl; omega, h1, fun c d => ?_⟩
  obtain ⟨v, e⟩ := h3 c d [] (by show 0 + 4 ≤ 11; omega)
  exact ⟨[v], e, rfl⟩
theorem opI_good {k k0 : Nat} (hk : 2 ≤ k ∧ k ≤ 5) : goodF k0 (opI k) ∧ (lastK k0 (opI k) = 0 ∨ lastK k0 (opI k) = 3) := by
  have s0 : ∀ c k1, c < 128 → isD c = false → isL c = false → isS c = false → itOK (0, c) ∧ ¬ (k1 = 0 ∧ (k1 = 1 ∨ k1 = 2)) := fun c k1 h1 h2 h3 h4 => ⟨Or.inl ⟨rfl, h1, h2, h3, h4⟩, fun z => by omega⟩
  have s3 : ∀ k1, itOK (3, 0) ∧ ¬ (k1 = 3 ∧ (k1 = 1 ∨ k1 = 2)) := fun k1 => ⟨Or.inr (Or.inr (Or.inr rfl)), fun z => by omega⟩
  have c : k = 2 ∨ k = 3 ∨ k = 4 ∨ k = 5 := by omega
  rcases c with rfl | rfl | rfl | rfl
  · exact ⟨⟨(s0 43 k0 (by omega) rfl rfl rfl).1, (s0 43 k0 (by omega) rfl rfl rfl).2, trivial⟩, Or.inl rfl⟩
  · exact ⟨⟨(s3 k0).1, (s3 k0).2, (s0 45 3 (by omega) rfl rfl rfl).1, (s0 45 3 (by omega) rfl rfl rfl).2, (s3 0).1, (s3 0).2, trivial⟩, Or.inr rfl⟩
  · exact ⟨⟨(s0 42 k0 (by omega) rfl rfl rfl).1, (s0 42 k0 (by omega) rfl rfl rfl).2, (s3 0).1, (s3 0).2, trivial⟩, Or.inr rfl⟩
  · exact ⟨⟨(s0 47 k0 (by omega) rfl rfl rfl).1, (s0 47 k0 (by omega) rfl rfl rfl).2, trivial⟩, Or.inl rfl⟩
theorem x_good {D : gDS} : ∀ {n : Nat} {r : gRF} {l : List Stq} {tx : Nat → List Itm}, GTX D n r l tx → ∀ q k0, (k0 = 0 ∨ k0 = 3) → goodF k0 (tx q)
  | 0, _, _, _, h, _, _, _ => absurd h id
  | n + 1, _, _, _, ⟨i, k, v, a, b, h1, h2, h3⟩, q, k0, hk0 => by
    rcases h3 with ⟨q1, q2, -, q4⟩ | ⟨q1, q2, la, lb, ta, tb, q3, q4, -, q6⟩
    · rw [q4 q]
      by_cases z : k = 0
      · rw [if_pos z]
        have hv : v ≤ 9999 := q2.2.1 z
        exact ⟨Or.inr (Or.inl ⟨rfl, by show v < 10000; omega⟩), fun y => by omega, trivial⟩
      · rw [if_neg z]
        have hv : v ≤ 1 := q2.2.2 (show k = 1 by omega)
        exact ⟨Or.inr (Or.inr (Or.inl ⟨rfl, by show 5 + v < 7; omega⟩)), fun y => by omega, trivial⟩
    · have par : ∀ c, (c = 40 ∨ c = 41) → itOK (0, c) := fun c hc => by
        rcases hc with rfl | rfl
        · exact Or.inl ⟨rfl, by show 40 < 128; omega, rfl, rfl, rfl⟩
        · exact Or.inl ⟨rfl, by show 41 < 128; omega, rfl, rfl, rfl⟩
      have mid : ∀ k1 w, (k1 = 0 ∨ k1 = 3) → (∀ k2, goodF k2 w) → goodF k1 (ta (owk k) ++ (opI k ++ (tb (owk k + 1) ++ w))) := fun k1 w hk1 hw => by
        refine goodF_app (x_good q3 _ _ hk1) ?_
        obtain ⟨o1, o2⟩ := opI_good (k := k) (k0 := lastK k1 (ta (owk k))) ⟨q1, q2⟩
        exact goodF_app o1 (goodF_app (x_good q4 _ _ o2) (hw _))
      rw [q6 q]
      split
      · exact ⟨par 40 (Or.inl rfl), fun y => by have : k0 = 0 := y.1; omega, mid 0 [(0, 41)] (Or.inl rfl) (fun k2 => ⟨par 41 (Or.inr rfl), fun y => by have : k2 = 0 := y.1; omega, trivial⟩)⟩
      · have := mid k0 [] hk0 (fun _ => trivial)
        rw [List.append_nil] at this
        exact this
theorem rend_lt : ∀ {l : List Itm} {k : Nat}, goodF k l → ∀ c ∈ rend l, c < 128
  | [], _, _, c, hc => by cases hc
  | x :: l, _, ⟨h1, _, h3⟩, c, hc => by
    rw [rend_cons, List.mem_append] at hc
    rcases hc with hc | hc
    · exact (fst_b h1).2.2.2 c hc
    · exact rend_lt h3 c hc
theorem fw_addS (N : NT) (sv : Nat → Nat) : ∀ k x y, fw (addS N sv) k x y = fw N k x y
  | 0, _, _ => rfl
  | k + 1, x, y => by
    show om (fw (addS N sv) k x y) (oa (oa (fw (addS N sv) k x k) (some (wCo (addS N sv) k))) (fw (addS N sv) k k y)) = om (fw N k x y) (oa (oa (fw N k x k) (some (wCo N k))) (fw N k k y))
    rw [fw_addS N sv k x y, fw_addS N sv k x k, fw_addS N sv k k y]
    rfl
