/-! THREE SMALL METHODS BY HAND: a read, a write and a copy of rows that look at the index first -/
theorem nI_ltb {i : Int32} {n : Nat} (hn : n ≤ 1556) : (¬ i < 0 ∧ ¬ Int32.ofNat n ≤ i) ↔ inb i n = true := by
  unfold inb
  rw [Bool.and_eq_true, decide_eq_true_eq, decide_eq_true_eq]
  have hN : (Int32.ofNat n).toInt = (n : Int) := nI_toInt (n := n) (by omega)
  have h0 : (0 : Int32).toInt = 0 := rfl
  rw [Int32.lt_iff_toInt_lt, Int32.le_iff_toInt_le, Int32.le_iff_toInt_le, hN, h0]
  have hc : i.toNatClampNeg = i.toInt.toNat := rfl
  rw [hc]
  omega
noncomputable def F_X7_at (n : Nat) (h : PH) (r : Nat) (i : Int32) : Int32 := if inb i n then h.1 r i.toNatClampNeg else 0
noncomputable def F_X7_put (n : Nat) (h : PH) (r : Nat) (i v : Int32) : PH := if inb i n then pu h r i.toNatClampNeg v else h
set_option maxRecDepth 100000 in
theorem ok_X7_at (d : Nat) (hd : 1 ≤ d) (n : Nat) (h : PH) (r : Nat) (i : Int32) (hl : layF r = (1, n, [])) : Ex d 101 [.ref r, .int i] h (.inl (some (.int (F_X7_at n h r i)))) h := by
  obtain ⟨d, rfl⟩ : ∃ e, d = e + 1 := ⟨d - 1, by omega⟩
  have hn : n ≤ 1556 := by have := lay_n r; rw [hl] at this; exact this
  refine ⟨rfl, ?_⟩
  show PW (Ex d) mi_X7_at (fun o1 h1 => o1 = _ ∧ h1 = _) 0 [some (.ref r), some (.int i)] [] h 0
  refine PW.s rfl rfl ?_
  by_cases q0 : i < 0
  · refine PW.bt rfl rfl q0 ?_
    refine PW.s rfl rfl ?_
    refine PW.r rfl rfl ⟨?_, rfl⟩
    have hb : ¬ inb i n = true := fun q => ((nI_ltb hn).mpr q).1 q0
    unfold F_X7_at
    rw [if_neg hb]
  · refine PW.bf rfl rfl q0 ?_
    refine PW.s rfl rfl ?_
    refine PW.s rfl rfl ?_
    refine PW.s (pc' := _) (lv' := _) (st' := .int (Int32.ofNat n) :: [.int i]) (h' := h) rfl (by simp only [pstep, hl]; rfl) ?_
    by_cases q1 : Int32.ofNat n ≤ i
    · refine PW.bt rfl rfl q1 ?_
      refine PW.s rfl rfl ?_
      refine PW.r rfl rfl ⟨?_, rfl⟩
      have hb : ¬ inb i n = true := fun q => ((nI_ltb hn).mpr q).2 q1
      unfold F_X7_at
      rw [if_neg hb]
    · have hb : inb i n = true := (nI_ltb hn).mp ⟨q0, q1⟩
      refine PW.bf rfl rfl q1 ?_
      refine PW.s rfl rfl ?_
      refine PW.s rfl rfl ?_
      refine PW.s (st' := [.int (h.1 r i.toNatClampNeg)]) (h' := h) rfl (by simp only [pstep, hl, hb, if_true]; rfl) ?_
      refine PW.s rfl rfl ?_
      refine PW.r rfl rfl ⟨?_, rfl⟩
      unfold F_X7_at
      rw [if_pos hb]
set_option maxRecDepth 100000 in
theorem ok_X7_put (d : Nat) (hd : 1 ≤ d) (n : Nat) (h : PH) (r : Nat) (i v : Int32) (hl : layF r = (1, n, [])) : Ex d 102 [.ref r, .int i, .int v] h (.inl none) (F_X7_put n h r i v) := by
  obtain ⟨d, rfl⟩ : ∃ e, d = e + 1 := ⟨d - 1, by omega⟩
  have hn : n ≤ 1556 := by have := lay_n r; rw [hl] at this; exact this
  refine ⟨rfl, ?_⟩
  show PW (Ex d) mi_X7_put (fun o1 h1 => o1 = _ ∧ h1 = _) 0 [some (.ref r), some (.int i), some (.int v)] [] h 0
  refine PW.s rfl rfl ?_
  by_cases q0 : i < 0
  · refine PW.bt rfl rfl q0 ?_
    refine PW.r rfl rfl ⟨rfl, ?_⟩
    have hb : ¬ inb i n = true := fun q => ((nI_ltb hn).mpr q).1 q0
    unfold F_X7_put
    rw [if_neg hb]
  · refine PW.bf rfl rfl q0 ?_
    refine PW.s rfl rfl ?_
    refine PW.s rfl rfl ?_
    refine PW.s (st' := .int (Int32.ofNat n) :: [.int i]) (h' := h) rfl (by simp only [pstep, hl]; rfl) ?_
    by_cases q1 : Int32.ofNat n ≤ i
    · refine PW.bt rfl rfl q1 ?_
      refine PW.r rfl rfl ⟨rfl, ?_⟩
      have hb : ¬ inb i n = true := fun q => ((nI_ltb hn).mpr q).2 q1
      unfold F_X7_put
      rw [if_neg hb]
    · have hb : inb i n = true := (nI_ltb hn).mp ⟨q0, q1⟩
      refine PW.bf rfl rfl q1 ?_
      refine PW.s rfl rfl ?_
      refine PW.s rfl rfl ?_
      refine PW.s rfl rfl ?_
      refine PW.s (st' := []) (h' := pu h r i.toNatClampNeg v) rfl (by simp only [pstep, hl, hb, if_true]; rfl) ?_
      refine PW.r rfl rfl ⟨rfl, ?_⟩
      unfold F_X7_put
      rw [if_pos hb]
noncomputable def F_X7_copyRow (n : Nat) (h : PH) (src dst : Nat) : PH := pcpy h src 0 dst 0 n
set_option maxRecDepth 100000 in
theorem ok_X7_copyRow (d : Nat) (hd : 1 ≤ d) (n : Nat) (h : PH) (src dst : Nat) (hl : layF src = (1, n, [])) (hl2 : layF dst = (1, n, [])) (hne : src ≠ dst) : Ex d 103 [.ref src, .ref dst] h (.inl none) (F_X7_copyRow n h src dst) := by
  obtain ⟨d, rfl⟩ : ∃ e, d = e + 1 := ⟨d - 1, by omega⟩
  have hn : n ≤ 1556 := by have := lay_n src; rw [hl] at this; exact this
  refine ⟨rfl, ?_⟩
  show PW (Ex d) mi_X7_copyRow (fun o1 h1 => o1 = _ ∧ h1 = _) 0 [some (.ref src), some (.ref dst)] [] h 0
  refine PW.s rfl rfl ?_
  refine PW.s rfl rfl ?_
  refine PW.s rfl rfl ?_
  refine PW.s rfl rfl ?_
  refine PW.s rfl rfl ?_
  refine PW.s (st' := .int (Int32.ofNat n) :: [.int 0, .ref dst, .int 0, .ref src]) (h' := h) rfl (by simp only [pstep, hl]; rfl) ?_
  refine PW.s rfl rfl ?_
  refine PW.s (st' := .int (Int32.ofNat n) :: .int (Int32.ofNat n) :: [.int 0, .ref dst, .int 0, .ref src]) (h' := h) rfl (by simp only [pstep, hl2]; rfl) ?_
  refine PW.s (st' := .int (Int32.ofNat n) :: [.int 0, .ref dst, .int 0, .ref src]) (h' := h) rfl (by simp only [pstep, ite_self]; rfl) ?_
  have hN : (Int32.ofNat n).toNatClampNeg = n := nI_clamp (n := n) (by omega)
  have h0 : ¬ (Int32.ofNat n) < 0 := nI_pos (n := n) (by omega)
  have c : Nat.ble (catz []) 8 = true ∧ ¬ (0 : Int32) < 0 ∧ ¬ (0 : Int32) < 0 ∧ ¬ (Int32.ofNat n) < 0 ∧ (0 : Int32).toNatClampNeg + (Int32.ofNat n).toNatClampNeg ≤ n ∧ (0 : Int32).toNatClampNeg + (Int32.ofNat n).toNatClampNeg ≤ n ∧ src ≠ dst := by
    rw [hN]
    exact ⟨rfl, by decide, by decide, h0, by show 0 + n ≤ n; omega, by show 0 + n ≤ n; omega, hne⟩
  refine PW.s (st' := []) (h' := pcpy h src 0 dst 0 n) rfl (by simp only [pstep, hl, hl2]; rw [if_pos c, hN]; rfl) ?_
  exact PW.r rfl rfl ⟨rfl, rfl⟩
