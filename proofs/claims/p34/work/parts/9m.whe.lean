/-! CITY'S where, isOpen, open -/
theorem g_pair {D : gDS} (a b : Int32) : ∃ D1 D2, gIst (gAI D 1 2) (gTop D) 1 (0 : Int32) a = some D1 ∧ gIst D1 (gTop D) 1 (1 : Int32) b = some D2 ∧ tI D2 D.1.length [a, b] ∧ gE noW D D2 ∧ D2.1.length = D.1.length + 1 ∧ gMd 1 2 D D2 := by
  have x0 : gE noW D (gAI D 1 2) := gNew_E
  have j0 : tI (gAI D 1 2) D.1.length [0, 0] := gNew_at
  have len0 : (gAI D 1 2).1.length = D.1.length + 1 := gNew_len
  have s0 : gIst (gAI D 1 2) (gTop D) 1 (0 : Int32) a = some (gSet (gAI D 1 2) D.1.length (.inr (.inl (1, [a, 0])))) := gIst_t (a := 0) j0 (by show 0 < 2; omega) (by omega)
  have j1 : tI (gSet (gAI D 1 2) D.1.length (.inr (.inl (1, [a, 0])))) D.1.length [a, 0] := gSet_at (by omega)
  have s1 : gIst (gSet (gAI D 1 2) D.1.length (.inr (.inl (1, [a, 0])))) (gTop D) 1 (1 : Int32) b = some (gSet (gSet (gAI D 1 2) D.1.length (.inr (.inl (1, [a, 0])))) D.1.length (.inr (.inl (1, [a, b])))) := gIst_t (a := 1) j1 (by show 1 < 2; omega) (by omega)
  refine ⟨_, _, s0, s1, gSet_at (by rw [gSet_len]; omega), ⟨by rw [gSet_len, gSet_len]; omega, fun i hi hw => ?_⟩, by rw [gSet_len, gSet_len, len0], ⟨Nat.le_refl _, Nat.le_refl _⟩⟩
  rw [gSet_ne (by omega), gSet_ne (by omega)]
  exact x0.2 i hi hw
section WHE
variable {D : gDS} {c e b d hh tt g : Nat} {N : NT} {sv : gRF} {P : PT}
/-- where's answer -/
def WH (D : gDS) (P : PT) (x : Nat) (r : gRF) (D' : gDS) : Prop := (wTour P x = none ∧ r = none ∧ D' = D) ∨ ∃ t k, wTour P x = some t ∧ wPos P t x = some k ∧ r = gTop D ∧ tI D' D.1.length [nI t, nI k] ∧ gE noW D D' ∧ D'.1.length = D.1.length + 1 ∧ gMd 1 2 D D'
theorem g_where {x : Nat} (hN : WN N) (hw : WQ N P) (hV : CV D c N sv e b d hh tt g) (hP : GP D P hh tt) (hx : x < 2 ^ 31) : ∃ r D', F_X8_where D (rf c) (nI x) = some (r, D') ∧ WH D P x r D' := by
  have hE4 := hN.2.2.1
  have h4 := hw.1
  unfold F_X8_where
  rw [gRv_t hV.1, Option.bind_some, gFr_t hV.1 (b := 7) rfl]
  obtain ⟨t, h1, h2⟩ := loop_ind0 (σ := Int32) (τ := gRF × gDS) (body := fun (s1 : Int32) =>
    (some (rf tt)).bind fun r2 =>
    (gLen D r2).bind fun z3 =>
    if z3 ≤ s1 then
     some (.inr ((none, D)))
    else
     loop (fun (s4 : Int32) =>
      (some (rf tt)).bind fun r5 =>
      (gQld D r5 s1).bind fun r6 =>
      (gLen D r6).bind fun z7 =>
      if z7 ≤ s4 then
       some (.inr (.inl ((s1 + (1 : Int32)))))
      else
       (some (rf tt)).bind fun r8 =>
       (gQld D r8 s1).bind fun r9 =>
       (gIld D r9 1 s4).bind fun z10 =>
       if ¬ (z10 / (2 : Int32)) = nI x then
        some (.inl ((s4 + (1 : Int32))))
       else
        (gIst (gAI D 1 2) (gTop D) 1 (0 : Int32) s1).bind fun D11 =>
        (gIst D11 (gTop D) 1 (1 : Int32) s4).bind fun D12 =>
        some (.inr (.inr (((gTop D), D12))))) ((0 : Int32))) (s0 := (0 : Int32)) (fun k s => s = nI k ∧ k ≤ pT P ∧ ∀ j, j < k → (wPos P j x).isSome = false) (fun t => WH D P x t.1 t.2) (pT P) ⟨rfl, Nat.zero_le _, fun j hj => absurd hj (Nat.not_lt_zero _)⟩ (by
    rintro k s ⟨rfl, hk, inv⟩
    rw [Option.bind_some, hP.cnt, Option.bind_some]
    rcases Nat.lt_or_ge k (pT P) with q | q
    · have n1 : ¬ nI (pT P) ≤ nI k := fun z => by
        have := (nI_le' (by omega) (by omega)).mp z
        omega
      obtain ⟨w1, w2, w3⟩ := hw.2 k q
      obtain ⟨i, g1, g2⟩ := hP.row q h4
      rw [if_neg n1]
      obtain ⟨u, h3, h5⟩ := loop_ind0 (σ := Int32) (τ := Int32 ⊕ (gRF × gDS)) (body := fun (s4 : Int32) =>
        (some (rf tt)).bind fun r5 =>
        (gQld D r5 (nI k)).bind fun r6 =>
        (gLen D r6).bind fun z7 =>
        if z7 ≤ s4 then
         some (.inr (.inl ((nI k + (1 : Int32)))))
        else
         (some (rf tt)).bind fun r8 =>
         (gQld D r8 (nI k)).bind fun r9 =>
         (gIld D r9 1 s4).bind fun z10 =>
         if ¬ (z10 / (2 : Int32)) = nI x then
          some (.inl ((s4 + (1 : Int32))))
         else
          (gIst (gAI D 1 2) (gTop D) 1 (0 : Int32) (nI k)).bind fun D11 =>
          (gIst D11 (gTop D) 1 (1 : Int32) s4).bind fun D12 =>
          some (.inr (.inr (((gTop D), D12))))) (s0 := (0 : Int32)) (fun l s => s = nI l ∧ l ≤ pL P k ∧ ∀ j, j < l → decide (pA P k j / 2 = x) = false) (fun u => (wPos P k x = none ∧ u = .inl (nI (k + 1))) ∨ ∃ l D', wPos P k x = some l ∧ u = .inr (gTop D, D') ∧ tI D' D.1.length [nI k, nI l] ∧ gE noW D D' ∧ D'.1.length = D.1.length + 1 ∧ gMd 1 2 D D') (pL P k) ⟨rfl, Nat.zero_le _, fun j hj => absurd hj (Nat.not_lt_zero _)⟩ (by
        rintro l s ⟨rfl, hl, inv2⟩
        rw [Option.bind_some, g1, Option.bind_some, gLen_t g2, rw8_len, Option.bind_some]
        rcases Nat.lt_or_ge l (pL P k) with q2 | q2
        · have n2 : ¬ nI (pL P k) ≤ nI l := fun z => by
            have := (nI_le' (by omega) (by omega)).mp z
            omega
          have hak := w3 l q2
          rw [if_neg n2, Option.bind_some, g1, Option.bind_some, gIld_t g2 (by rw [rw8_len]; exact q2) (by omega), rw8_get q2, Option.bind_some, half_I (by omega)]
          by_cases z : pA P k l / 2 = x
          · left
            obtain ⟨D1, D2, p1, p2, p3, p4, p5, p6⟩ := g_pair (D := D) (nI k) (nI l)
            rw [if_neg (fun y => y (by rw [z])), p1, Option.bind_some, p2, Option.bind_some]
            refine ⟨_, rfl, Or.inr ⟨l, D2, ?_, rfl, p3, p4, p5, p6⟩⟩
            unfold wPos
            rw [fnd_is q2 (by simp [z]) inv2]
          · right
            refine ⟨q2, _, if_pos (fun y => z ((nI_eq (by omega) hx).mp y)), nI_1 l, q2, fun j hj => ?_⟩
            rcases Nat.lt_or_ge j l with y | y
            · exact inv2 j y
            · obtain rfl : j = l := by omega
              simp [z]
        · obtain rfl : l = pL P k := by omega
          left
          refine ⟨_, if_pos (Int32.le_refl _), Or.inl ⟨?_, by rw [nI_1]⟩⟩
          unfold wPos
          rw [fnd_no inv2])
      rcases h5 with ⟨y, rfl⟩ | ⟨l, D', y, rfl, p3, p4, p5, p6⟩
      · right
        refine ⟨q, nI (k + 1), h3, rfl, q, fun j hj => ?_⟩
        rcases Nat.lt_or_ge j k with y2 | y2
        · exact inv j y2
        · obtain rfl : j = k := by omega
          rw [y]
          rfl
      · left
        refine ⟨_, h3, Or.inr ⟨k, l, ?_, y, rfl, p3, p4, p5, p6⟩⟩
        unfold wTour
        rw [fnd_is q (by rw [y]; rfl) inv]
    · obtain rfl : k = pT P := by omega
      left
      refine ⟨_, if_pos (Int32.le_refl _), Or.inl ⟨?_, rfl, rfl⟩⟩
      unfold wTour
      rw [fnd_no inv])
  exact ⟨t.1, t.2, h1, h2⟩
end WHE
