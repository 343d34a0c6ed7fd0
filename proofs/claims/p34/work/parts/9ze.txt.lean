/-! NUMBERS WRITTEN INTO BUILDERS; builders made into Strings -/
theorem zi_div {a b : Int} (ha : -2147483648 < a ∧ a < 2147483648) (hb : -2147483648 ≤ b ∧ b < 2147483648) : zi a / zi b = zi (a.tdiv b) := by
  refine (Int32.ofInt_tdiv ?_ ?_ ?_ ?_).symm
  · show (-2147483648 : Int) ≤ a
    omega
  · show a ≤ 2147483647
    omega
  · show (-2147483648 : Int) ≤ b
    omega
  · show b ≤ 2147483647
    omega
/-- a number's digits -/
def dgF : Nat → Nat → List Nat
  | 0, _ => []
  | f + 1, v => if v < 10 then [48 + v] else dgF f (v / 10) ++ [48 + v % 10]
def dg (v : Nat) : List Nat := dgF 6 v
theorem dg_1 {v : Nat} (h : v < 10) : dg v = [48 + v] := by
  unfold dg dgF
  rw [if_pos h]
theorem dg_2 {v : Nat} (h : 10 ≤ v) (h2 : v < 100) : dg v = [48 + v / 10, 48 + v % 10] := by
  unfold dg dgF dgF
  rw [if_neg (by omega), if_pos (by omega)]
  rfl
theorem dg_3 {v : Nat} (h : 100 ≤ v) (h2 : v < 1000) : dg v = [48 + v / 100, 48 + v / 10 % 10, 48 + v % 10] := by
  unfold dg dgF dgF dgF
  rw [if_neg (by omega), if_neg (by omega), if_pos (by omega), Nat.div_div_eq_div_mul]
  rfl
theorem dg_4 {v : Nat} (h : 1000 ≤ v) (h2 : v < 10000) : dg v = [48 + v / 1000, 48 + v / 100 % 10, 48 + v / 10 % 10, 48 + v % 10] := by
  unfold dg dgF dgF dgF dgF
  rw [if_neg (by omega), if_neg (by omega), if_neg (by omega), if_pos (by omega)]
  simp only [Nat.div_div_eq_div_mul]
  rfl
section LIT
variable {D : gDS}
theorem ild3 {k : Nat} (hk : k < 100) : gIld D (some (.inr 3)) 2 (nI k) = some (nI (48 + k % 10)) := by
  have h : ∀ k, k < 100 → gOnes.getD k 0 = nI (48 + k % 10) := by decide +kernel
  have hl : gOnes.length = 100 := by decide +kernel
  unfold gIld
  rw [show gInt D (some (.inr 3)) 2 = some gOnes from rfl, Option.bind_some, aidx_in (by omega) (by omega), Option.bind_some, h k hk]
theorem ild4 {k : Nat} (hk : k < 100) : gIld D (some (.inr 4)) 2 (nI k) = some (nI (48 + k / 10)) := by
  have h : ∀ k, k < 100 → gTens.getD k 0 = nI (48 + k / 10) := by decide +kernel
  have hl : gTens.length = 100 := by decide +kernel
  unfold gIld
  rw [show gInt D (some (.inr 4)) 2 = some gTens from rfl, Option.bind_some, aidx_in (by omega) (by omega), Option.bind_some, h k hk]
theorem nar_dg {k : Nat} (hk : k < 128) : vp_nar .byte (nI k) = nI k := by
  have h : ∀ k, k < 128 → vp_nar .byte (nI k) = nI k := by decide +kernel
  exact h k hk
/-- the body of getChars -/
noncomputable def gcB (p2 : gRF) (v2 : Int32) (s5 : Int32 × Int32 × gDS) : Option ((Int32 × Int32 × gDS) ⊕ (Int32 × gDS)) :=
    if (-100 : Int32) < s5.1 then
     (gIld s5.2.2 (some (.inr 3)) 2 (-s5.1)).bind fun z6 =>
     (gIst s5.2.2 p2 2 (s5.2.1 - (1 : Int32)) (vp_nar .byte z6)).bind fun D7 =>
     jn (fun (v9 : Int32 × gDS) =>
      if v2 = 0 then
       some (.inr ((v9.1, v9.2)))
      else
       (gIst v9.2 p2 2 (v9.1 - (1 : Int32)) (vp_nar .byte (45 : Int32))).bind fun D10 =>
       some (.inr (((v9.1 - (1 : Int32)), D10)))) (fun k8 =>
      if (-9 : Int32) ≤ s5.1 then
       k8 ((s5.2.1 - (1 : Int32)), D7)
      else
       (gIld D7 (some (.inr 4)) 2 (-s5.1)).bind fun z11 =>
       (gIst D7 p2 2 ((s5.2.1 - (1 : Int32)) - (1 : Int32)) (vp_nar .byte z11)).bind fun D12 =>
       k8 (((s5.2.1 - (1 : Int32)) - (1 : Int32)), D12))
    else
     (gIld s5.2.2 (some (.inr 3)) 2 (((s5.1 / (100 : Int32)) * (100 : Int32)) - s5.1)).bind fun z13 =>
     (gIst s5.2.2 p2 2 (s5.2.1 - (1 : Int32)) (vp_nar .byte z13)).bind fun D14 =>
     (gIld D14 (some (.inr 4)) 2 (((s5.1 / (100 : Int32)) * (100 : Int32)) - s5.1)).bind fun z15 =>
     (gIst D14 p2 2 ((s5.2.1 - (1 : Int32)) - (1 : Int32)) (vp_nar .byte z15)).bind fun D16 =>
     some (.inl ((s5.1 / (100 : Int32)), ((s5.2.1 - (1 : Int32)) - (1 : Int32)), D16))
theorem getChars_is (D : gDS) (p0 p1 : Int32) (p2 : gRF) (h : 0 ≤ p0) : F_J6_getChars_ba4f3 D p0 p1 p2 = loop (gcB p2 0) (-p0, p1, D) := by
  unfold F_J6_getChars_ba4f3 jn
  dsimp only
  rw [if_pos h, if_neg (fun z => z rfl)]
  rfl
/-- below a hundred -/
theorem gc_low {a w q : Nat} {xs : List Int32} (hB : tB D a xs) (hw : w < 100) (hx : xs.length < 3000) (hq : (if w < 10 then 1 else 2) ≤ q) (hq2 : q ≤ xs.length) : ∃ v D', loop (gcB (rf a) 0) (-(nI w), nI q, D) = some (v, D') ∧ tB D' a (if w < 10 then xs.set (q - 1) (nI (48 + w)) else (xs.set (q - 1) (nI (48 + w % 10))).set (q - 2) (nI (48 + w / 10))) ∧ gE (fun j => j = a) D D' ∧ D'.2 = D.2 ∧ D'.1.length = D.1.length := by
  have hm : w % 10 < 10 := Nat.mod_lt _ (by omega)
  have e0 : -(-(nI w)) = nI w := by
    rw [nI_zi, zi_neg, zi_neg]
    congr 1
    omega
  have n1 : (-100 : Int32) < -(nI w) := by
    rw [nI_zi, zi_neg]
    rw [show (-100 : Int32) = zi (-100) from by decide]
    exact (zi_lt (a := -100) (b := -(w : Int)) (by omega) (by omega)).mpr (by omega)
  have q1 : 1 ≤ q := by split at hq <;> omega
  have s1 := gIst_b (v := nI (48 + w % 10)) hB (a := q - 1) (by omega) (by omega)
  have lt := tB_lt hB
  have b1 : tB (gSet D a (.inr (.inl (2, xs.set (q - 1) (nI (48 + w % 10)))))) a (xs.set (q - 1) (nI (48 + w % 10))) := gSet_at lt
  have x1 : gE (fun j => j = a) D (gSet D a (.inr (.inl (2, xs.set (q - 1) (nI (48 + w % 10)))))) := gSet_E (Or.inl rfl)
  by_cases z : w < 10
  · have n2 : (-9 : Int32) ≤ -(nI w) := by
      rw [nI_zi, zi_neg]
      rw [show (-9 : Int32) = zi (-9) from by decide]
      exact (zi_le (a := -9) (b := -(w : Int)) (by omega) (by omega)).mpr (by omega)
    refine ⟨nI (q - 1), gSet D a (.inr (.inl (2, xs.set (q - 1) (nI (48 + w % 10))))), ?_, ?_, x1, rfl, gSet_len⟩
    · rw [loop_eq]
      unfold gcB jn
      dsimp only
      rw [if_pos n1, e0, ild3 hw, Option.bind_some, nar_dg (by omega), i1, nI_sub q1, s1, Option.bind_some, if_pos n2, if_pos rfl, Option.bind_some]
    · rw [if_pos z]
      rw [show w % 10 = w by omega] at b1 ⊢
      exact b1
  · have n2 : ¬ (-9 : Int32) ≤ -(nI w) := by
      rw [nI_zi, zi_neg]
      rw [show (-9 : Int32) = zi (-9) from by decide]
      exact fun y => by
        have := (zi_le (a := -9) (b := -(w : Int)) (by omega) (by omega)).mp y
        omega
    rw [if_neg z] at hq
    have s2 := gIst_b (v := nI (48 + w / 10)) b1 (a := q - 2) (by rw [List.length_set]; omega) (by omega)
    refine ⟨nI (q - 2), gSet (gSet D a (.inr (.inl (2, xs.set (q - 1) (nI (48 + w % 10)))))) a (.inr (.inl (2, (xs.set (q - 1) (nI (48 + w % 10))).set (q - 2) (nI (48 + w / 10))))), ?_, ?_, x1.tr (gSet_E (Or.inl rfl)), rfl, by rw [gSet_len, gSet_len]⟩
    · rw [loop_eq]
      unfold gcB jn
      dsimp only
      rw [if_pos n1, e0, ild3 hw, Option.bind_some, nar_dg (by omega), i1, nI_sub q1, s1, Option.bind_some, if_neg n2, ild4 hw, Option.bind_some, nar_dg (by omega), nI_sub (show 1 ≤ q - 1 by omega), show q - 1 - 1 = q - 2 by omega, s2, Option.bind_some, if_pos rfl, Option.bind_some]
    · rw [if_neg z]
      exact gSet_at (by rw [gSet_len]; exact lt)
/-- a hundred and more: one turn -/
theorem gc_step {a w q : Nat} {xs : List Int32} (hB : tB D a xs) (h1 : 100 ≤ w) (hw : w < 10000) (hx : xs.length < 3000) (hq : 2 ≤ q) (hq2 : q ≤ xs.length) : ∃ D', loop (gcB (rf a) 0) (-(nI w), nI q, D) = loop (gcB (rf a) 0) (-(nI (w / 100)), nI (q - 2), D') ∧ tB D' a ((xs.set (q - 1) (nI (48 + w % 100 % 10))).set (q - 2) (nI (48 + w % 100 / 10))) ∧ gE (fun j => j = a) D D' ∧ D'.2 = D.2 ∧ D'.1.length = D.1.length := by
  have hm : w % 100 < 100 := Nat.mod_lt _ (by omega)
  have hm2 : w % 100 % 10 < 10 := Nat.mod_lt _ (by omega)
  have n1 : ¬ (-100 : Int32) < -(nI w) := by
    rw [nI_zi, zi_neg]
    rw [show (-100 : Int32) = zi (-100) from by decide]
    exact fun y => by
      have := (zi_lt (a := -100) (b := -(w : Int)) (by omega) (by omega)).mp y
      omega
  have e1 : -(nI w) / (100 : Int32) = -(nI (w / 100)) := by
    rw [nI_zi, nI_zi, zi_neg, zi_neg, show (100 : Int32) = zi 100 from rfl, zi_div (by omega) (by omega), Int.neg_tdiv, Int.tdiv_eq_ediv_of_nonneg (by omega)]
    rfl
  have e2 : -(nI (w / 100)) * (100 : Int32) - -(nI w) = nI (w % 100) := by
    rw [nI_zi, nI_zi, nI_zi, zi_neg, zi_neg, show (100 : Int32) = zi 100 from rfl, zi_mul, zi_sub]
    congr 1
    omega
  have s1 := gIst_b (v := nI (48 + w % 100 % 10)) hB (a := q - 1) (by omega) (by omega)
  have lt := tB_lt hB
  have b1 : tB (gSet D a (.inr (.inl (2, xs.set (q - 1) (nI (48 + w % 100 % 10)))))) a (xs.set (q - 1) (nI (48 + w % 100 % 10))) := gSet_at lt
  have x1 : gE (fun j => j = a) D (gSet D a (.inr (.inl (2, xs.set (q - 1) (nI (48 + w % 100 % 10)))))) := gSet_E (Or.inl rfl)
  have s2 := gIst_b (v := nI (48 + w % 100 / 10)) b1 (a := q - 2) (by rw [List.length_set]; omega) (by omega)
  refine ⟨gSet (gSet D a (.inr (.inl (2, xs.set (q - 1) (nI (48 + w % 100 % 10)))))) a (.inr (.inl (2, (xs.set (q - 1) (nI (48 + w % 100 % 10))).set (q - 2) (nI (48 + w % 100 / 10))))), ?_, gSet_at (by rw [gSet_len]; exact lt), x1.tr (gSet_E (Or.inl rfl)), rfl, by rw [gSet_len, gSet_len]⟩
  rw [loop_eq]
  conv => lhs; unfold gcB
  dsimp only
  rw [if_neg n1, e1, e2, ild3 hm, Option.bind_some, nar_dg (by omega), i1, nI_sub (by omega), s1, Option.bind_some, ild4 hm, Option.bind_some, nar_dg (by omega), nI_sub (by omega), show q - 1 - 1 = q - 2 by omega, s2, Option.bind_some, Option.bind_some]
  rfl
theorem ssz {v d : Nat} (h : v < 10000) (hd : d = if v < 10 then 1 else if v < 100 then 2 else if v < 1000 then 3 else 4) : F_J6_stringSize_0f7a4 D (nI v) = some (nI d) := by
  unfold F_J6_stringSize_0f7a4 jn
  dsimp only
  have e : -(nI v) = zi (-(v : Int)) := by rw [nI_zi, zi_neg]
  have cmp : ∀ m : Int, -20000 < m → m < 0 → (-(nI v) ≤ zi m ↔ -(v : Int) ≤ m) := fun m h1 h2 => by
    rw [e]
    exact zi_le (by omega) (by omega)
  have c1 := cmp (-10) (by omega) (by omega)
  have c2 := cmp (-100) (by omega) (by omega)
  have c3 := cmp (-1000) (by omega) (by omega)
  have c4 := cmp (-10000) (by omega) (by omega)
  have m1 : (10 : Int32) * zi (-10) = zi (-100) := by decide
  have m2 : (10 : Int32) * zi (-100) = zi (-1000) := by decide
  have m3 : (10 : Int32) * zi (-1000) = zi (-10000) := by decide
  have p1 : (1 : Int32) + 1 = 2 := by decide
  have p2 : (2 : Int32) + 1 = 3 := by decide
  have p3 : (3 : Int32) + 1 = 4 := by decide
  rw [if_neg (nI_pos (by omega)), show (-10 : Int32) = zi (-10) from rfl, loop_eq]
  dsimp only
  rw [if_neg (show ¬ (10 : Int32) ≤ 1 by decide)]
  by_cases q1 : v < 10
  · rw [if_neg (fun z => by have := c1.mp z; omega), Option.bind_some, hd, if_pos q1]
    rfl
  · rw [if_pos (c1.mpr (by omega)), Option.bind_some, m1, p1]
    dsimp only
    rw [loop_eq]
    dsimp only
    rw [if_neg (show ¬ (10 : Int32) ≤ 2 by decide)]
    by_cases q2 : v < 100
    · rw [if_neg (fun z => by have := c2.mp z; omega), Option.bind_some, hd, if_neg q1, if_pos q2]
      rfl
    · rw [if_pos (c2.mpr (by omega)), Option.bind_some, m2, p2]
      dsimp only
      rw [loop_eq]
      dsimp only
      rw [if_neg (show ¬ (10 : Int32) ≤ 3 by decide)]
      by_cases q3 : v < 1000
      · rw [if_neg (fun z => by have := c3.mp z; omega), Option.bind_some, hd, if_neg q1, if_neg q2, if_pos q3]
        rfl
      · rw [if_pos (c3.mpr (by omega)), Option.bind_some, m3, p3]
        dsimp only
        rw [loop_eq]
        dsimp only
        rw [if_neg (show ¬ (10 : Int32) ≤ 4 by decide), if_neg (fun z => by have := c4.mp z; omega), Option.bind_some, hd, if_neg q1, if_neg q2, if_neg q3]
        rfl
/-- the digits into an empty builder -/
theorem b_lit {i a v : Nat} (hB : BB D i [] a) (hv : v < 10000) : ∃ D' a', F_J4_append_bf812 D (rf i) (nI v) = some (rf i, D') ∧ BB D' i ((dg v).map nI) a' ∧ (a' = a ∨ a' = D.1.length) ∧ gE (fun j => j = i ∨ j = a) D D' ∧ gMd 1 2002 D D' := by
  obtain ⟨d, hd⟩ : ∃ d, d = if v < 10 then 1 else if v < 100 then 2 else if v < 1000 then 3 else 4 := ⟨_, rfl⟩
  have hd4 : 1 ≤ d ∧ d ≤ 4 := by
    rw [hd]
    split
    · omega
    · split
      · omega
      · split <;> omega
  obtain ⟨A, a', e1, e2, e3, e4, e5, e6⟩ := b_ens (n := d) hB (by omega)
  obtain ⟨ys, r1, r2, r3, r4, h2, h3, h4, h5, h6⟩ := rdB e2
  have lB := hB.lt
  have o1 : tO A i 12 [.inr (.inr (rf a')), .inl 0, .inl 0, .inl (nI 0)] := by
    obtain ⟨_, a1, -⟩ := e2
    exact a1
  have ne2 : i ≠ a' := fun z => by
    have := (show A.1[i]? = _ from o1).symm.trans ((congrArg (fun j => A.1[j]?) z).trans (show A.1[a']? = _ from h2))
    cases this
  have key : ∃ w B zs, F_J6_getChars_ba4f3 A (nI v) (nI d) (rf a') = some (w, B) ∧ tB B a' zs ∧ zs.length = ys.length ∧ zs.take d = (dg v).map nI ∧ gE (fun j => j = a') A B ∧ B.2 = A.2 ∧ B.1.length = A.1.length := by
    have hp : (0 : Int32) ≤ nI v := (nI_le' (a := 0) (by omega) (by omega)).mpr (by omega)
    rw [getChars_is _ _ _ _ hp]
    match ys, h2, h5, h6 with
    | [], _, h5, _ => exact absurd h5 (by decide)
    | [_], _, h5, _ => exact absurd h5 (by show ¬ 16 ≤ 1; omega)
    | [_, _], _, h5, _ => exact absurd h5 (by show ¬ 16 ≤ 2; omega)
    | [_, _, _], _, h5, _ => exact absurd h5 (by show ¬ 16 ≤ 3; omega)
    | y0 :: y1 :: y2 :: y3 :: zs, h2, h5, h6 =>
      have hl : (y0 :: y1 :: y2 :: y3 :: zs).length = zs.length + 4 := rfl
      by_cases q1 : v < 10
      · rw [if_pos q1] at hd
        subst hd
        obtain ⟨w, B, g1, g2, g3, g4, g5⟩ := gc_low (w := v) (q := 1) h2 (by omega) (by omega) (by rw [if_pos q1]; omega) (by omega)
        rw [if_pos q1] at g2
        refine ⟨w, B, _, g1, g2, rfl, ?_, g3, g4, g5⟩
        rw [dg_1 q1]
        rfl
      · by_cases q2 : v < 100
        · rw [if_neg q1, if_pos q2] at hd
          subst hd
          obtain ⟨w, B, g1, g2, g3, g4, g5⟩ := gc_low (w := v) (q := 2) h2 (by omega) (by omega) (by rw [if_neg q1]; omega) (by omega)
          rw [if_neg q1] at g2
          refine ⟨w, B, _, g1, g2, rfl, ?_, g3, g4, g5⟩
          rw [dg_2 (by omega) q2]
          rfl
        · by_cases q3 : v < 1000
          · rw [if_neg q1, if_neg q2, if_pos q3] at hd
            subst hd
            obtain ⟨B0, k1, k2, k3, k4, k5⟩ := gc_step (w := v) (q := 3) h2 (by omega) (by omega) (by omega) (by omega) (by omega)
            obtain ⟨w, B, g1, g2, g3, g4, g5⟩ := gc_low (w := v / 100) (q := 1) k2 (by omega) (by rw [List.length_set, List.length_set]; omega) (by rw [if_pos (by omega)]; omega) (by rw [List.length_set, List.length_set]; omega)
            rw [if_pos (by omega)] at g2
            refine ⟨w, B, _, k1.trans g1, g2, rfl, ?_, k3.tr g3, g4.trans k4, g5.trans k5⟩
            rw [dg_3 (by omega) q3, show v % 100 % 10 = v % 10 by omega, show v % 100 / 10 = v / 10 % 10 by omega]
            rfl
          · rw [if_neg q1, if_neg q2, if_neg q3] at hd
            subst hd
            obtain ⟨B0, k1, k2, k3, k4, k5⟩ := gc_step (w := v) (q := 4) h2 (by omega) (by omega) (by omega) (by omega) (by omega)
            obtain ⟨w, B, g1, g2, g3, g4, g5⟩ := gc_low (w := v / 100) (q := 2) k2 (by omega) (by rw [List.length_set, List.length_set]; omega) (by rw [if_neg (by omega)]; omega) (by rw [List.length_set, List.length_set]; omega)
            rw [if_neg (by omega)] at g2
            refine ⟨w, B, _, k1.trans g1, g2, rfl, ?_, k3.tr g3, g4.trans k4, g5.trans k5⟩
            rw [dg_4 (by omega) hv, show v % 100 % 10 = v % 10 by omega, show v % 100 / 10 = v / 10 % 10 by omega, show v / 100 / 10 = v / 1000 by omega]
            rfl
  obtain ⟨w, B, zs, g1, g2, g3, g4, g5, g6, g7⟩ := key
  have hlen : ((dg v).map nI).length = d := by
    rw [← g4, List.length_take]
    omega
  have o2 := g5.tO ne2 o1
  have s2 : gFst B (rf i) 12 3 (.inl (nI d)) = some (gSet B i (.inl (12, [.inr (.inr (rf a')), .inl 0, .inl 0, .inl (nI d)]))) := gFst_t o2 (b := 3) (by show 3 < 4; omega)
  have z1 : ¬ (1 : Int32) = 0 := by decide
  refine ⟨gSet B i (.inl (12, [.inr (.inr (rf a')), .inl 0, .inl 0, .inl (nI d)])), a', ?_, ⟨zs, ?_, (gSet_ne ne2).trans g2, by rw [hlen]; exact g4, by omega, by omega, by omega⟩, e4, ?_, ?_⟩
  · obtain ⟨ysD, d1, d2, d3, d4, -⟩ := rdB hB
    unfold F_J4_append_bf812 F_J5_append_c97b9 F_J5_isLatin1_aae02
    rw [d1, Option.bind_some, Option.bind_some, d4, Option.bind_some, ssz hv hd, Option.bind_some, show nI ([] : List Int32).length + nI d = nI d by rw [nI_add]; congr 1; show 0 + d = d; omega, e1, Option.bind_some, r1, Option.bind_some, r3, Option.bind_some, if_neg (fun z => z rfl), Option.bind_some, if_neg z1, r2, Option.bind_some, g1, Option.bind_some]
    rw [s2, Option.bind_some, Option.bind_some]
  · rw [hlen]
    exact gSet_at (tO_lt o2)
  · refine ⟨by rw [gSet_len, g7]; exact e5.1, fun j hj hw => ?_⟩
    have h9 := e5.1
    rw [gSet_ne (fun z => hw (Or.inl z.symm))]
    have nj : ¬ j = a' := fun z => by
      rcases e4 with y | y
      · exact hw (Or.inr (z.trans y))
      · omega
    exact (g5.2 j (by omega) nj).trans (e5.2 j hj (fun z => hw (Or.inl z)))
  · exact ⟨by show B.2.1 ≤ _; rw [g6]; exact e6.1, by show B.2.2 ≤ _; rw [g6]; exact e6.2⟩
/-- a builder's String -/
theorem b_str {i a : Nat} {xs : List Int32} (hB : BB D i xs a) : ∃ D', F_J4_toString_0e30d D (rf i) = some (rf D.1.length, D') ∧ SS D' (rf D.1.length) xs ∧ gFr D' (rf D.1.length) 11 0 = some (rf (D.1.length + 1)) ∧ gE noW D D' ∧ gMd 2 2006 D D' := by
  obtain ⟨ysD, d1, -⟩ := rdB hB
  have lB := hB.lt
  have x0 : gE noW D (gNwO D 11) := gNew_E
  have l0 : (gNwO D 11).1.length = D.1.length + 1 := gNew_len
  have m0 : gMd 1 4 D (gNwO D 11) := gNew_M
  have o0 : tO (gNwO D 11) D.1.length 11 [.inr (.inr none), .inl 0, .inl 0, .inl 0] := gNew_at
  unfold F_J4_toString_0e30d F_J0_init_81219 F_J0_init_db425
  rw [d1, Option.bind_some]
  generalize gNwO D 11 = A at *
  obtain ⟨ys, r1, r2, r3, r4, h2, h3, h4, h5, h6⟩ := rdB (hB.ext x0 id id)
  have s1 : gFst A (rf D.1.length) 11 1 (.inl (0 : Int32)) = some (gSet A D.1.length (.inl (11, [.inr (.inr none), .inl 0, .inl 0, .inl 0]))) := gFst_t o0 (b := 1) (by show 1 < 4; omega)
  have x1 : gE noW D (gSet A D.1.length (.inl (11, [.inr (.inr none), .inl 0, .inl 0, .inl 0]))) := x0.on (gSet_E (W := fun j => j = D.1.length) (Or.inl rfl)) (fun j hj => by omega)
  have l1 : (gSet A D.1.length (.inl (11, [.inr (.inr none), .inl 0, .inl 0, .inl 0]))).1.length = A.1.length := gSet_len
  have m1 : gMd 0 0 A (gSet A D.1.length (.inl (11, [.inr (.inr none), .inl 0, .inl 0, .inl 0]))) := gSet_M
  have o1 : tO (gSet A D.1.length (.inl (11, [.inr (.inr none), .inl 0, .inl 0, .inl 0]))) D.1.length 11 [.inr (.inr none), .inl 0, .inl 0, .inl 0] := gSet_at (by omega)
  have h2B : tB (gSet A D.1.length (.inl (11, [.inr (.inr none), .inl 0, .inl 0, .inl 0]))) a ys := (gSet_ne (by omega)).trans h2
  have z1 : ¬ (1 : Int32) = 0 := by decide
  have key : ∃ C, F_J7_copyOfRange_39247 (gSet A D.1.length (.inl (11, [.inr (.inr none), .inl 0, .inl 0, .inl 0]))) (rf a) (0 : Int32) (nI xs.length) = some (rf (D.1.length + 1), C) ∧ tB C (D.1.length + 1) xs ∧ tO C D.1.length 11 [.inr (.inr none), .inl 0, .inl 0, .inl 0] ∧ gE noW D C ∧ gMd 2 2006 D C := by
    generalize gSet A D.1.length (.inl (11, [.inr (.inr none), .inl 0, .inl 0, .inl 0])) = B at *
    have eT : gTop B = rf (D.1.length + 1) := by rw [gTop_rf, l1, l0]
    unfold F_J7_copyOfRange_39247
    rw [if_neg (fun z => z rfl), gLen_b h2B, Option.bind_some]
    by_cases q : xs.length = ys.length
    · have hxy : xs = ys := by
        rw [← h3, q, List.take_length]
      rw [q, if_pos rfl, gCln_b h2B, Option.bind_some, eT]
      have xk : gE noW B (gNew B (.inr (.inl (2, ys))) ys.length) := gNew_E
      have mk : gMd 1 ys.length B (gNew B (.inr (.inl (2, ys))) ys.length) := gNew_M
      have tk : tB (gNew B (.inr (.inl (2, ys))) ys.length) B.1.length ys := gNew_at
      rw [l1, l0] at tk
      rw [gIsA_b tk, Option.bind_some]
      exact ⟨_, rfl, by rw [hxy]; exact tk, xk.tO id o1, x1.tr xk, ((m0.tr m1).tr mk).mono (by omega) (by omega)⟩
    · have n1 : ¬ nI xs.length = nI ys.length := fun z => q ((nI_eq (by omega) (by omega)).mp z)
      have n2 : (0 : Int32) ≤ nI xs.length := (nI_le' (a := 0) (by omega) (by omega)).mpr (by omega)
      rw [if_neg n1]
      unfold F_J7_copyOfRangeByte_39247 F_J7_checkLength_df160
      have w1 : gNwI B 2 (nI xs.length) = some (gNew B (.inr (.inl (2, List.replicate xs.length 0))) xs.length) := gNwB_n (by omega)
      have xk : gE noW B (gNew B (.inr (.inl (2, List.replicate xs.length 0))) xs.length) := gNew_E
      have lk : (gNew B (.inr (.inl (2, List.replicate xs.length 0))) xs.length).1.length = B.1.length + 1 := gNew_len
      have mk : gMd 1 xs.length B (gNew B (.inr (.inl (2, List.replicate xs.length 0))) xs.length) := gNew_M
      have tk : tB (gNew B (.inr (.inl (2, List.replicate xs.length 0))) xs.length) B.1.length (List.replicate xs.length 0) := gNew_at
      have e0 : ∀ x : Int32, x - 0 = x := fun x => by
        rw [Int32.sub_zero]
      have n3 : nI xs.length < nI ys.length := nI_lt (by omega) (by omega)
      rw [if_pos n2, Option.bind_some, e0, w1, Option.bind_some]
      generalize gNew B (.inr (.inl (2, List.replicate xs.length 0))) xs.length = B2 at *
      rw [gLen_b (xk.tB id h2B), Option.bind_some, e0, if_pos n3, eT]
      rw [l1, l0] at tk
      have s2 := gCpB_t (src := rf a) (dp := 0) (n := xs.length) (gInt_b (xk.tB id h2B)) tk h4 (by rw [List.length_replicate]; omega) (fun z => by injection z with z; injection z with z; omega) (by rw [List.length_replicate]; omega) (by omega)
      rw [List.take_zero, List.nil_append, h3, Nat.zero_add, List.drop_eq_nil_of_le (by rw [List.length_replicate]; exact Nat.le_refl _), List.append_nil] at s2
      rw [show gCpB B2 (rf a) (0 : Int32) (rf (D.1.length + 1)) (0 : Int32) (nI xs.length) = some (gSet B2 (D.1.length + 1) (.inr (.inl (2, xs)))) from s2, Option.bind_some, Option.bind_some]
      refine ⟨_, rfl, gSet_at (by omega), (gSet_ne (by omega)).trans (xk.tO id o1), (x1.tr xk).on (gSet_E (W := fun j => j = D.1.length + 1) (Or.inl rfl)) (fun j hj => by omega), (((m0.tr m1).tr mk).tr gSet_M).mono (by omega) (by omega)⟩
  obtain ⟨C, c1, c2, c3, c4, c5⟩ := key
  have s3 : gFst C (rf D.1.length) 11 0 (.inr (.inr (rf (D.1.length + 1)))) = some (gSet C D.1.length (.inl (11, [.inr (.inr (rf (D.1.length + 1))), .inl 0, .inl 0, .inl 0]))) := gFst_t c3 (b := 0) (by show 0 < 4; omega)
  have o3 : tO (gSet C D.1.length (.inl (11, [.inr (.inr (rf (D.1.length + 1))), .inl 0, .inl 0, .inl 0]))) D.1.length 11 [.inr (.inr (rf (D.1.length + 1))), .inl 0, .inl 0, .inl 0] := gSet_at (tO_lt c3)
  refine ⟨_, ?_, Or.inl ⟨D.1.length, D.1.length + 1, _, _, rfl, o3, (gSet_ne (by omega)).trans c2⟩, gFr_t o3 (b := 0) rfl, c4.on (gSet_E (W := fun j => j = D.1.length) (Or.inl rfl)) (fun j hj => by omega), (c5.tr gSet_M).mono (by omega) (by omega)⟩
  unfold F_J5_getValue_6d5f1 F_J4_length_8abf5 F_J5_length_8abf5 F_J5_isLatin1_aae02 gFsN
  rw [show gTop D = rf D.1.length from rfl, Option.bind_some, r1, Option.bind_some, r2, Option.bind_some, Option.bind_some, Option.bind_some, Option.bind_some, r4, Option.bind_some, Option.bind_some, Option.bind_some, r3]
  simp only [Option.bind_some]
  rw [if_neg (fun z => z trivial), Option.bind_some, if_neg z1, gNar_0, Option.bind_some]
  rw [show gFst A (some (.inl D.1.length)) 11 1 (.inl 0) = _ from s1, Option.bind_some, c1, Option.bind_some]
  rw [show gFst C (some (.inl D.1.length)) 11 0 (.inr (.inr (rf (D.1.length + 1)))) = _ from s3, Option.bind_some, Option.bind_some, Option.bind_some]
end LIT
