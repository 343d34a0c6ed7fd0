/-! STRING BUILDERS -/
/-- a builder with what it holds so far -/
def BB (D : gDS) (i : Nat) (xs : List Int32) (a : Nat) : Prop := ∃ ys : List Int32, tO D i 12 [.inr (.inr (rf a)), .inl 0, .inl 0, .inl (nI xs.length)] ∧ tB D a ys ∧ ys.take xs.length = xs ∧ xs.length ≤ ys.length ∧ 16 ≤ ys.length ∧ ys.length ≤ 2002
theorem BB.ext {W : Nat → Prop} {A B : gDS} {i a : Nat} {xs : List Int32} (h : BB A i xs a) (x : gE W A B) (h1 : ¬ W i) (h2 : ¬ W a) : BB B i xs a := by
  obtain ⟨ys, a1, a2, a3⟩ := h
  exact ⟨ys, x.tO h1 a1, x.tB h2 a2, a3⟩
theorem BB.lt {D : gDS} {i a : Nat} {xs : List Int32} (h : BB D i xs a) : i < D.1.length ∧ a < D.1.length := by
  obtain ⟨ys, a1, a2, a3⟩ := h
  exact ⟨tO_lt a1, tB_lt a2⟩
theorem gNar_0 : gNar 6 (0 : Int32) = some 0 := rfl
section BLR
variable {D : gDS}
theorem b_init : ∃ D', F_J4_init_da8c8 (gNwO D 12) (gTop D) = some D' ∧ BB D' D.1.length [] (D.1.length + 1) ∧ gE noW D D' ∧ D'.1.length = D.1.length + 2 ∧ gMd 2 20 D D' := by
  have x0 : gE noW D (gNwO D 12) := gNew_E
  have l0 : (gNwO D 12).1.length = D.1.length + 1 := gNew_len
  have m0 : gMd 1 4 D (gNwO D 12) := gNew_M
  have o0 : tO (gNwO D 12) D.1.length 12 [.inr (.inr none), .inl 0, .inl 0, .inl 0] := gNew_at
  generalize gNwO D 12 = A at *
  have x1 : gE noW A (gNew A (.inr (.inl (2, List.replicate 16 0))) 16) := gNew_E
  have l1 : (gNew A (.inr (.inl (2, List.replicate 16 0))) 16).1.length = A.1.length + 1 := gNew_len
  have m1 : gMd 1 16 A (gNew A (.inr (.inl (2, List.replicate 16 0))) 16) := gNew_M
  have b1 : tB (gNew A (.inr (.inl (2, List.replicate 16 0))) 16) A.1.length (List.replicate 16 0) := gNew_at
  have w1 : gNwI A 2 (16 : Int32) = some (gNew A (.inr (.inl (2, List.replicate 16 0))) 16) := gNwB_n (n := 16) (by omega)
  generalize gNew A (.inr (.inl (2, List.replicate 16 0))) 16 = B at *
  have o1 := x1.tO id o0
  have s1 : gFst B (rf D.1.length) 12 0 (.inr (.inr (rf A.1.length))) = some (gSet B D.1.length (.inl (12, [.inr (.inr (rf A.1.length)), .inl 0, .inl 0, .inl 0]))) := gFst_t o1 (b := 0) (by show 0 < 4; omega)
  have o2 : tO (gSet B D.1.length (.inl (12, [.inr (.inr (rf A.1.length)), .inl 0, .inl 0, .inl 0]))) D.1.length 12 [.inr (.inr (rf A.1.length)), .inl 0, .inl 0, .inl 0] := gSet_at (by omega)
  have s2 := gFst_t (v := .inl (0 : Int32)) o2 (b := 1) (by show 1 < 4; omega)
  refine ⟨gSet (gSet B D.1.length (.inl (12, [.inr (.inr (rf A.1.length)), .inl 0, .inl 0, .inl 0]))) D.1.length (.inl (12, [.inr (.inr (rf A.1.length)), .inl 0, .inl 0, .inl 0])), ?_, ⟨List.replicate 16 0, ?_, ?_, rfl, Nat.zero_le _, by rw [List.length_replicate]; omega, by rw [List.length_replicate]; omega⟩, ?_, ?_, ?_⟩
  · unfold F_J4_init_da8c8 F_J5_init_d00df gFsN
    rw [show gTop D = rf D.1.length from rfl, Option.bind_some, w1, Option.bind_some, gTop_rf]
    rw [show gFst B (some (.inl D.1.length)) 12 0 (.inr (.inr (rf A.1.length))) = _ from s1, Option.bind_some, gNar_0, Option.bind_some]
    rw [show gFst (gSet B D.1.length (.inl (12, [.inr (.inr (rf A.1.length)), .inl 0, .inl 0, .inl 0]))) (some (.inl D.1.length)) 12 1 (.inl 0) = _ from s2, Option.bind_some, Option.bind_some]
    rfl
  · rw [← l0]
    exact gSet_at (by rw [gSet_len]; omega)
  · rw [← l0]
    exact (gSet_ne (by omega)).trans ((gSet_ne (by omega)).trans b1)
  · exact ((x0.tr x1).on (gSet_E (W := fun j => j = D.1.length) (Or.inl rfl)) (fun i hi => by omega)).on (gSet_E (W := fun j => j = D.1.length) (Or.inl rfl)) (fun i hi => by omega)
  · rw [gSet_len, gSet_len]
    omega
  · exact ((m0.tr m1).tr (gSet_M.tr gSet_M)).mono (by omega) (by omega)
theorem rdB {i a : Nat} {xs : List Int32} (hB : BB D i xs a) : ∃ ys, gRv D (rf i) 12 = some () ∧ gFr D (rf i) 12 0 = some (rf a) ∧ gFi D (rf i) 12 1 = some 0 ∧ gFi D (rf i) 12 3 = some (nI xs.length) ∧ tB D a ys ∧ ys.take xs.length = xs ∧ xs.length ≤ ys.length ∧ 16 ≤ ys.length ∧ ys.length ≤ 2002 := by
  obtain ⟨ys, a1, a2⟩ := hB
  exact ⟨ys, gRv_t a1, gFr_t a1 (b := 0) rfl, gFi_t a1 (b := 1) rfl, gFi_t a1 (b := 3) rfl, a2⟩
/-- room for n more -/
theorem b_ens {i a n : Nat} {xs : List Int32} (hB : BB D i xs a) (hn : n ≤ 1000) : ∃ D' a', F_J5_ensureCapacityInternal_d00df D (rf i) (nI n) = some D' ∧ BB D' i xs a' ∧ (∀ ys, tB D' a' ys → n ≤ ys.length) ∧ (a' = a ∨ a' = D.1.length) ∧ gE (fun j => j = i) D D' ∧ gMd 1 2002 D D' := by
  obtain ⟨ys, r1, r2, r3, r4, h2, h3, h4, h5, h6⟩ := rdB hB
  have o1 : tO D i 12 [.inr (.inr (rf a)), .inl 0, .inl 0, .inl (nI xs.length)] := by
    obtain ⟨_, a1, -⟩ := hB
    exact a1
  unfold F_J5_ensureCapacityInternal_d00df
  rw [r1, Option.bind_some, r2, Option.bind_some, gLen_b h2, Option.bind_some, r3, Option.bind_some, shr_0]
  by_cases q : n ≤ ys.length
  · refine ⟨D, a, ?_, hB, fun zs z => ?_, Or.inl rfl, gE.rf D, (gMd.rf D).mono (by omega) (by omega)⟩
    · refine if_pos ?_
      rw [nI_zi, nI_zi, zi_sub]
      exact (zi_le (b := 0) (by omega) (by omega)).mpr (by omega)
    · have : zs = ys := by
        have := (show D.1[a]? = _ from z).symm.trans (show D.1[a]? = _ from h2)
        injection this with e1
        injection e1 with e1
        injection e1 with e1
        injection e1
      rw [this]
      exact q
  · have n1 : ¬ nI n - nI ys.length ≤ 0 := by
      rw [nI_zi, nI_zi, zi_sub]
      exact fun z => by
        have := (zi_le (b := 0) (by omega) (by omega)).mp z
        omega
    obtain ⟨cap, hc1, hc2, hc3⟩ : ∃ cap, cap = ys.length + (if ys.length + 2 < n - ys.length then n - ys.length else ys.length + 2) ∧ n ≤ cap ∧ cap ≤ 2002 ∧ ys.length < cap := by
      refine ⟨_, rfl, ?_⟩
      by_cases z : ys.length + 2 < n - ys.length
      · rw [if_pos z]
        omega
      · rw [if_neg z]
        omega
    have e1 : F_J5_newCapacity_0f7a4 D (rf i) (nI n) = some (nI cap) := by
      unfold F_J5_newCapacity_0f7a4 F_J8_newLength_cabcc
      rw [r1, Option.bind_some, r2, Option.bind_some, gLen_b h2, Option.bind_some, r3, Option.bind_some, Option.bind_some, shl_0, shl_0, nI_sub (by omega), i2, nI_add]
      have e2 : (if nI (ys.length + 2) < nI (n - ys.length) then nI (n - ys.length) else nI (ys.length + 2)) = nI (if ys.length + 2 < n - ys.length then n - ys.length else ys.length + 2) := by
        by_cases z : ys.length + 2 < n - ys.length
        · rw [if_pos z, if_pos ((nI_lt' (by omega) (by omega)).mpr z)]
        · rw [if_neg z, if_neg (fun y => z ((nI_lt' (by omega) (by omega)).mp y))]
      rw [e2, nI_add, ← hc1]
      have n2 : ¬ nI cap ≤ (0 : Int32) := fun z => by
        have := (nI_le' (b := 0) (by omega) (by omega)).mp z
        omega
      have n3 : ¬ (2147483639 : Int32) < nI cap := fun z => by
        have := (nI_lt' (a := 2147483639) (by omega) (by omega)).mp z
        omega
      have n4 : ¬ nI cap = (2147483647 : Int32) := fun z => by
        have := (nI_eq (b := 2147483647) (by omega) (by omega)).mp z
        omega
      rw [if_neg n2, if_neg n3, Option.bind_some, if_pos n4, Option.bind_some, shr_0]
    have n5 : ¬ nI cap = nI ys.length := fun z => by
      have := (nI_eq (by omega) (by omega)).mp z
      omega
    have n6 : ¬ nI cap < nI ys.length := fun z => by
      have := (nI_lt' (by omega) (by omega)).mp z
      omega
    have w1 : gNwI D 2 (nI cap) = some (gNew D (.inr (.inl (2, List.replicate cap 0))) cap) := gNwB_n (by omega)
    have x1 : gE noW D (gNew D (.inr (.inl (2, List.replicate cap 0))) cap) := gNew_E
    have l1 : (gNew D (.inr (.inl (2, List.replicate cap 0))) cap).1.length = D.1.length + 1 := gNew_len
    have m1 : gMd 1 cap D (gNew D (.inr (.inl (2, List.replicate cap 0))) cap) := gNew_M
    have b1 : tB (gNew D (.inr (.inl (2, List.replicate cap 0))) cap) D.1.length (List.replicate cap 0) := gNew_at
    generalize gNew D (.inr (.inl (2, List.replicate cap 0))) cap = A at *
    have hal := tB_lt h2
    have hil := tO_lt o1
    have s1 := gCpB_t (src := rf a) (dp := 0) (n := ys.length) (gInt_b (x1.tB id h2)) b1 (Nat.le_refl _) (by rw [List.length_replicate]; omega) (fun z => by injection z with z; injection z with z; omega) (by rw [List.length_replicate]; omega) (by omega)
    rw [List.take_zero, List.nil_append, List.take_length, Nat.zero_add] at s1
    have b2 : tB (gSet A D.1.length (.inr (.inl (2, ys ++ (List.replicate cap (0 : Int32)).drop ys.length)))) D.1.length (ys ++ (List.replicate cap (0 : Int32)).drop ys.length) := gSet_at (by omega)
    have x2 : gE noW D (gSet A D.1.length (.inr (.inl (2, ys ++ (List.replicate cap (0 : Int32)).drop ys.length)))) := x1.on (gSet_E (W := fun j => j = D.1.length) (Or.inl rfl)) (fun j hj => by omega)
    have l2 : (gSet A D.1.length (.inr (.inl (2, ys ++ (List.replicate cap (0 : Int32)).drop ys.length)))).1.length = A.1.length := gSet_len
    have m2 : gMd 0 0 A (gSet A D.1.length (.inr (.inl (2, ys ++ (List.replicate cap (0 : Int32)).drop ys.length)))) := gSet_M
    have el : (ys ++ (List.replicate cap (0 : Int32)).drop ys.length).length = cap := by
      rw [List.length_append, List.length_drop, List.length_replicate]
      omega
    have et : (ys ++ (List.replicate cap (0 : Int32)).drop ys.length).take xs.length = xs := by
      rw [List.take_append_of_le_length h4]
      exact h3
    generalize hA2 : gSet A D.1.length (.inr (.inl (2, ys ++ (List.replicate cap (0 : Int32)).drop ys.length))) = A2 at *
    generalize ys ++ (List.replicate cap (0 : Int32)).drop ys.length = zs at *
    have o2 := x2.tO id o1
    have s2 := gFst_t (v := .inr (.inr (rf D.1.length))) o2 (b := 0) (by show 0 < 4; omega)
    have b3 : tB (gSet A2 i (.inl (12, [.inr (.inr (rf D.1.length)), .inl 0, .inl 0, .inl (nI xs.length)]))) D.1.length zs := (gSet_ne (by omega)).trans b2
    refine ⟨gSet A2 i (.inl (12, [.inr (.inr (rf D.1.length)), .inl 0, .inl 0, .inl (nI xs.length)])), D.1.length, ?_, ⟨zs, gSet_at (by omega), b3, et, by omega, by omega, by omega⟩, fun vs z => ?_, Or.inr rfl, (x2.mono (fun _ _ z => absurd z id)).tr (gSet_E (Or.inl rfl)), (m1.tr (m2.tr gSet_M)).mono (by omega) (by omega)⟩
    · rw [if_neg n1, Option.bind_some, e1, Option.bind_some, Option.bind_some, shl_0]
      unfold F_J7_copyOf_9075b
      rw [gLen_b h2, Option.bind_some, if_pos n5, w1, Option.bind_some, gLen_b (x1.tB id h2), Option.bind_some, if_neg n6, gTop_rf]
      rw [show gCpB A (rf a) (0 : Int32) (rf D.1.length) (0 : Int32) (nI ys.length) = some A2 from s1, Option.bind_some, Option.bind_some]
      show (Option.bind (gFst A2 (rf i) 12 0 (.inr (.inr (rf D.1.length)))) _) = _
      rw [s2, Option.bind_some]
      rfl
    · have : vs = zs := by
        have := (show _ = _ from z).symm.trans (show _ = _ from b3)
        injection this with e1
        injection e1 with e1
        injection e1 with e1
        injection e1
      rw [this]
      omega
/-- a String more -/
theorem b_append {i a : Nat} {r : gRF} {xs zs : List Int32} (hB : BB D i xs a) (hS : SS D r zs) (hne : ∀ b, gFr D r 11 0 = some (rf b) → b ≠ a) (hl : xs.length + zs.length ≤ 1000) : ∃ D' a', F_J4_append_15ec4 D (rf i) r = some (rf i, D') ∧ BB D' i (xs ++ zs) a' ∧ (a' = a ∨ a' = D.1.length) ∧ gE (fun j => j = i ∨ j = a) D D' ∧ gMd 1 2002 D D' := by
  obtain ⟨A, a', e1, e2, e3, e4, e5, e6⟩ := b_ens (n := xs.length + zs.length) hB hl
  obtain ⟨ys, r1, r2, r3, r4, h2, h3, h4, h5, h6⟩ := rdB e2
  have lB := hB.lt
  have hn := e3 ys h2
  have o1 : tO A i 12 [.inr (.inr (rf a')), .inl 0, .inl 0, .inl (nI xs.length)] := by
    obtain ⟨_, a1, -⟩ := e2
    exact a1
  have oD : tO D i 12 [.inr (.inr (rf a)), .inl 0, .inl 0, .inl (nI xs.length)] := by
    obtain ⟨_, a1, -⟩ := hB
    exact a1
  have hSA : SS A r zs := hS.ext e5 (fun j hj z => by rw [z, (show kt D i = 112 from tO.tg oD)]; omega)
  have hnr : ¬ r = none := fun z => by
    have := hS.rd.1
    rw [z] at this
    cases this
  obtain ⟨q1, q2, b, q3, q4, q5, q6⟩ := hSA.rd
  obtain ⟨p1, p2, b0, p3, p4, p5, p6⟩ := hS.rd
  have hbb : ¬ b = rf a' := fun z => by
    subst z
    have hb9 : gFr D r 11 0 = some (rf a') := by
      rcases hS with ⟨j, a9, v2, v3, y1, y2, y3⟩ | ⟨j, y1, y2, y3⟩
      · subst y1
        have ne : j ≠ i := fun z => by
          have := y2.tg
          rw [z, (show kt D i = 112 from tO.tg oD)] at this
          omega
        have y4 : tO A j 11 [.inr (.inr (rf a9)), .inl 0, v2, v3] := e5.tO ne y2
        have := (gFr_t y4 (b := 0) rfl).symm.trans q3
        rw [gFr_t y2 (b := 0) rfl]
        exact this
      · subst y2
        have : gFr A (some (.inr (10 + 2 * j))) 11 0 = gFr D (some (.inr (10 + 2 * j))) 11 0 := rfl
        rw [← this]
        exact q3
    rcases e4 with z | z
    · exact hne a' hb9 z
    · have h9 := p3.symm.trans hb9
      injection h9 with h9
      have := p6 a' h9
      have := tB_lt this
      omega
  have s1 := gCpB_t (src := b) (dp := xs.length) (n := zs.length) q4 h2 (Nat.le_refl _) hn hbb (by omega) (by omega)
  rw [List.take_length, h3] at s1
  have b2 : tB (gSet A a' (.inr (.inl (2, xs ++ (zs ++ ys.drop (xs.length + zs.length)))))) a' (xs ++ (zs ++ ys.drop (xs.length + zs.length))) := gSet_at (tB_lt h2)
  have ne2 : i ≠ a' := fun z => by
    have := (show A.1[i]? = _ from o1).symm.trans ((congrArg (fun j => A.1[j]?) z).trans (show A.1[a']? = _ from h2))
    cases this
  have o2 : tO (gSet A a' (.inr (.inl (2, xs ++ (zs ++ ys.drop (xs.length + zs.length)))))) i 12 [.inr (.inr (rf a')), .inl 0, .inl 0, .inl (nI xs.length)] := (gSet_ne (fun z => ne2 z.symm)).trans o1
  have x2 : gE (fun j => j = a') A (gSet A a' (.inr (.inl (2, xs ++ (zs ++ ys.drop (xs.length + zs.length)))))) := gSet_E (Or.inl rfl)
  have el : (xs ++ (zs ++ ys.drop (xs.length + zs.length))).length = ys.length := by
    rw [List.length_append, List.length_append, List.length_drop]
    omega
  have et : (xs ++ (zs ++ ys.drop (xs.length + zs.length))).take (xs ++ zs).length = xs ++ zs := by
    rw [← List.append_assoc, List.take_append_of_le_length (Nat.le_refl _), List.take_length]
  have l2 : (gSet A a' (.inr (.inl (2, xs ++ (zs ++ ys.drop (xs.length + zs.length)))))).1.length = A.1.length := gSet_len
  have m2 : gMd 0 0 A (gSet A a' (.inr (.inl (2, xs ++ (zs ++ ys.drop (xs.length + zs.length)))))) := gSet_M
  generalize hA2 : gSet A a' (.inr (.inl (2, xs ++ (zs ++ ys.drop (xs.length + zs.length))))) = A2 at *
  generalize xs ++ (zs ++ ys.drop (xs.length + zs.length)) = vs at *
  have s2 := gFst_t (v := .inl (nI (xs.length + zs.length))) o2 (b := 3) (by show 3 < 4; omega)
  refine ⟨gSet A2 i (.inl (12, [.inr (.inr (rf a')), .inl 0, .inl 0, .inl (nI (xs.length + zs.length))])), a', ?_, ⟨vs, ?_, (gSet_ne ne2).trans b2, et, by rw [List.length_append]; omega, by omega, by omega⟩, e4, ?_, ?_⟩
  · obtain ⟨ysD, d1, d2, d3, d4, -⟩ := rdB hB
    unfold F_J4_append_15ec4 F_J5_append_cf1ce
    rw [d1, Option.bind_some, Option.bind_some, if_neg hnr, s_length hS, Option.bind_some, d4, Option.bind_some, nI_add, e1, Option.bind_some, r4, Option.bind_some]
    unfold F_J5_putStringAt_47b60 F_J5_inflateIfNeededFor_a7421 F_J0_getBytes_840e7
    rw [r1, Option.bind_some, Option.bind_some, r3, Option.bind_some, s_coder hSA, Option.bind_some, if_pos rfl, Option.bind_some, r2, Option.bind_some, Option.bind_some, q1, Option.bind_some, Option.bind_some, if_neg (fun z => z rfl), q3, Option.bind_some, Option.bind_some, q5, Option.bind_some, shl_0, s1, Option.bind_some, Option.bind_some, Option.bind_some, gFi_t o2 (b := 3) rfl, Option.bind_some, nI_add]
    show (Option.bind (Option.bind (gFst A2 (rf i) 12 3 (.inl (nI (xs.length + zs.length)))) _) _) = _
    rw [s2, Option.bind_some, Option.bind_some]
    rfl
  · rw [List.length_append]
    exact gSet_at (by have := tO_lt o2; exact this)
  · refine ⟨by rw [gSet_len, l2]; exact e5.1, fun j hj hw => ?_⟩
    have h9 := e5.1
    rw [gSet_ne (fun z => hw (Or.inl z.symm))]
    have nj : ¬ j = a' := fun z => by
      rcases e4 with y | y
      · exact hw (Or.inr (z.trans y))
      · omega
    exact (x2.2 j (by omega) nj).trans (e5.2 j hj (fun z => hw (Or.inl z)))
  · exact (e6.tr (m2.tr gSet_M)).mono (by omega) (by omega)
end BLR
