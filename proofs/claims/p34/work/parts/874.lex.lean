/-! THE TEXT'S TOKENS: b its bytes, n its length -/
def rnF (b : Nat → Nat) (C : Nat → Bool) : Nat → Nat → Nat
  | 0, q => q
  | f + 1, q => if C (b q) then rnF b C f (q + 1) else q
/-- the first place from q on, not beyond n, whose byte is not C -/
def rn (b : Nat → Nat) (n : Nat) (C : Nat → Bool) (q : Nat) : Nat := rnF b C (n - q) q
def isD (c : Nat) : Bool := decide (48 ≤ c) && decide (c ≤ 57)
def isL (c : Nat) : Bool := decide (97 ≤ c) && decide (c ≤ 122)
def isS (c : Nat) : Bool := decide (c = 32)
def nmF (b : Nat → Nat) : Nat → Nat → Nat → Nat
  | 0, _, a => a
  | f + 1, q, a => if isD (b q) then nmF b f (q + 1) (10 * a + (b q - 48)) else a
/-- the number read from q on, behind a -/
def nm (b : Nat → Nat) (n : Nat) (q a : Nat) : Nat := nmF b (n - q) q a
def sk (b : Nat → Nat) (n : Nat) (p : Nat) : Nat := rn b n isS p
def te (b : Nat → Nat) (n : Nat) (q : Nat) : Nat := if q < n then (if isD (b q) then rn b n isD q else if isL (b q) then rn b n isL q else q + 1) else q
def kd (b : Nat → Nat) (n : Nat) (q : Nat) : Nat := if q < n then (if isD (b q) then 256 else if isL (b q) then 257 else b q) else 258
def vlc (b : Nat → Nat) (n : Nat) (q : Nat) : Nat := if q < n ∧ isD (b q) = true then min 100000 (nm b n q 0) else 0
section LEX
variable {b : Nat → Nat} {n : Nat}
theorem rn_end {C : Nat → Bool} {q : Nat} (h : n ≤ q) : rn b n C q = q := by unfold rn; rw [Nat.sub_eq_zero_of_le h]; rfl
theorem rn_go {C : Nat → Bool} {q : Nat} (h : q < n) (hc : C (b q) = true) : rn b n C q = rn b n C (q + 1) := by
  unfold rn
  obtain ⟨f, hf⟩ : ∃ f, n - q = f + 1 := ⟨n - q - 1, by omega⟩
  rw [hf, show n - (q + 1) = f by omega]
  exact if_pos hc
theorem rn_st {C : Nat → Bool} {q : Nat} (hc : C (b q) = false) : rn b n C q = q := by
  rcases Nat.lt_or_ge q n with h | h
  · unfold rn
    obtain ⟨f, hf⟩ : ∃ f, n - q = f + 1 := ⟨n - q - 1, by omega⟩
    rw [hf]
    exact if_neg (by rw [hc]; decide)
  · exact rn_end h
theorem rnF_ok {C : Nat → Bool} : ∀ (f q : Nat), q ≤ rnF b C f q ∧ rnF b C f q ≤ q + f ∧ (rnF b C f q < q + f → C (b (rnF b C f q)) = false) ∧ ∀ j, q ≤ j → j < rnF b C f q → C (b j) = true
  | 0, q => ⟨Nat.le_refl _, Nat.le_refl _, fun z => absurd z (Nat.lt_irrefl _), fun j h1 h2 => absurd h2 (Nat.not_lt.mpr h1)⟩
  | f + 1, q => by
    have e : rnF b C (f + 1) q = if C (b q) then rnF b C f (q + 1) else q := rfl
    rw [e]
    obtain ⟨a1, a2, a3, a4⟩ := rnF_ok (C := C) f (q + 1)
    by_cases z : C (b q) = true
    · rw [if_pos z]
      refine ⟨by omega, by omega, fun y => a3 (by omega), fun j h1 h2 => ?_⟩
      rcases Nat.lt_or_ge q j with y | y
      · exact a4 j y h2
      · rw [show j = q by omega]; exact z
    · rw [if_neg z]
      exact ⟨Nat.le_refl _, by omega, fun _ => Bool.eq_false_iff.mpr z, fun j h1 h2 => absurd h2 (Nat.not_lt.mpr h1)⟩
theorem rn_ok {C : Nat → Bool} (q : Nat) : q ≤ rn b n C q ∧ (q ≤ n → rn b n C q ≤ n) ∧ (rn b n C q < n → C (b (rn b n C q)) = false) ∧ ∀ j, q ≤ j → j < rn b n C q → C (b j) = true := by
  obtain ⟨a1, a2, a3, a4⟩ := rnF_ok (b := b) (C := C) (n - q) q
  exact ⟨a1, fun h => by unfold rn; omega, fun h => a3 (by unfold rn at h; omega), a4⟩
theorem rn_id {C : Nat → Bool} (q : Nat) : rn b n C (rn b n C q) = rn b n C q := by
  rcases Nat.lt_or_ge (rn b n C q) n with h | h
  · exact rn_st ((rn_ok q).2.2.1 h)
  · exact rn_end h
theorem nm_end {q a : Nat} (h : n ≤ q) : nm b n q a = a := by unfold nm; rw [Nat.sub_eq_zero_of_le h]; rfl
theorem nm_go {q a : Nat} (h : q < n) (hc : isD (b q) = true) : nm b n q a = nm b n (q + 1) (10 * a + (b q - 48)) := by
  unfold nm
  obtain ⟨f, hf⟩ : ∃ f, n - q = f + 1 := ⟨n - q - 1, by omega⟩
  rw [hf, show n - (q + 1) = f by omega]
  exact if_pos hc
theorem nm_st {q a : Nat} (hc : isD (b q) = false) : nm b n q a = a := by
  rcases Nat.lt_or_ge q n with h | h
  · unfold nm
    obtain ⟨f, hf⟩ : ∃ f, n - q = f + 1 := ⟨n - q - 1, by omega⟩
    rw [hf]
    exact if_neg (by rw [hc]; decide)
  · exact nm_end h
theorem isD_iff {c : Nat} : isD c = true ↔ 48 ≤ c ∧ c ≤ 57 := by unfold isD; rw [Bool.and_eq_true, decide_eq_true_eq, decide_eq_true_eq]
theorem isL_iff {c : Nat} : isL c = true ↔ 97 ≤ c ∧ c ≤ 122 := by unfold isL; rw [Bool.and_eq_true, decide_eq_true_eq, decide_eq_true_eq]
theorem sk_le {p : Nat} (h : p ≤ n) : sk b n p ≤ n := (rn_ok p).2.1 h
theorem sk_ge (p : Nat) : p ≤ sk b n p := (rn_ok p).1
theorem sk_id (p : Nat) : sk b n (sk b n p) = sk b n p := rn_id p
theorem te_gt {q : Nat} (h : q < n) : q < te b n q ∧ te b n q ≤ n := by
  unfold te
  rw [if_pos h]
  by_cases z : isD (b q) = true
  · rw [if_pos z, rn_go h z]
    exact ⟨(rn_ok (q + 1)).1, (rn_ok (q + 1)).2.1 h⟩
  · rw [if_neg z]
    by_cases y : isL (b q) = true
    · rw [if_pos y, rn_go h y]
      exact ⟨(rn_ok (q + 1)).1, (rn_ok (q + 1)).2.1 h⟩
    · rw [if_neg y]
      omega
theorem te_ge {q : Nat} (h : q ≤ n) : q ≤ te b n q ∧ te b n q ≤ n := by
  rcases Nat.lt_or_ge q n with z | z
  · have := te_gt (b := b) z; omega
  · have : te b n q = q := if_neg (by omega)
    omega
variable {h : PH}
/-- the class's text -/
def CB (b : Nat → Nat) (n : Nat) (h : PH) : Prop := h.1 1 4 = nI n ∧ ∀ j, j < n → h.1 2 j &&& (255 : Int32) = nI (b j)
/-- the class's token is the one at p -/
def TK (b : Nat → Nat) (n : Nat) (h : PH) (p : Nat) : Prop := p ≤ n ∧ h.1 1 5 = nI (sk b n p) ∧ h.1 1 6 = nI (te b n (sk b n p)) ∧ h.1 1 7 = nI (kd b n (sk b n p)) ∧ h.1 1 8 = nI (vlc b n (sk b n p))
/-- only the token's fields -/
def FT (h h' : PH) : Prop := Fr (fun a => a = 1) h h' ∧ ∀ j, ¬ (5 ≤ j ∧ j ≤ 8) → h'.1 1 j = h.1 1 j
theorem FT.refl (h : PH) : FT h h := ⟨Fr.refl h, fun _ _ => rfl⟩
theorem FT.trans {h h' h'' : PH} (f : FT h h') (g : FT h' h'') : FT h h'' := ⟨f.1.trans g.1, fun j hj => (g.2 j hj).trans (f.2 j hj)⟩
theorem FT.pu {h : PH} {j : Nat} {v : Int32} (hj : 5 ≤ j ∧ j ≤ 8) : FT h (pu h 1 j v) := ⟨Fr.pu rfl, fun i hi => by rw [pu_get, if_neg (fun z => hi (by omega))]⟩
theorem CB.ft {h' : PH} (c : CB b n h) (f : FT h h') : CB b n h' := ⟨by rw [f.2 4 (by omega)]; exact c.1, fun j hj => by rw [(f.1 2 (by omega)).1]; exact c.2 j hj⟩
theorem c_byte {q : Nat} (hn : n ≤ 700) (c : CB b n h) (hq : q < n) : F_X6_byteAt h (nI q) = some (nI (b q)) := by
  unfold F_X6_byteAt
  rw [if_neg (nI_pos (by omega)), if_neg (show ¬ Int32.ofNat 700 ≤ nI q from nI_ge (b := 700) (by omega) (by omega)), ald_in (by omega) (by omega), Option.bind_some, c.2 q hq]
theorem c_dig {c : Nat} (hc : c < 256) : F_X6_isDigit h (nI c) = if isD c then (1 : Int32) else (0 : Int32) := by
  unfold F_X6_isDigit
  by_cases z : 48 ≤ c
  · rw [if_neg (show ¬ nI c < (48 : Int32) from nI_nlt (b := 48) z (by omega))]
    by_cases y : c ≤ 57
    · rw [if_neg (show ¬ (57 : Int32) < nI c from nI_nlt (a := 57) y (by omega)), if_pos (isD_iff.mpr ⟨z, y⟩)]
    · rw [if_pos (show (57 : Int32) < nI c from nI_lt (a := 57) (by omega) (by omega)), if_neg (fun w => y (isD_iff.mp w).2)]
  · rw [if_pos (show nI c < (48 : Int32) from nI_lt (b := 48) (by omega) (by omega)), if_neg (fun w => z (isD_iff.mp w).1)]
theorem c_let {c : Nat} (hc : c < 256) : F_X6_isLetter h (nI c) = if isL c then (1 : Int32) else (0 : Int32) := by
  unfold F_X6_isLetter
  by_cases z : 97 ≤ c
  · rw [if_neg (show ¬ nI c < (97 : Int32) from nI_nlt (b := 97) z (by omega))]
    by_cases y : c ≤ 122
    · rw [if_neg (show ¬ (122 : Int32) < nI c from nI_nlt (a := 122) y (by omega)), if_pos (isL_iff.mpr ⟨z, y⟩)]
    · rw [if_pos (show (122 : Int32) < nI c from nI_lt (a := 122) (by omega) (by omega)), if_neg (fun w => y (isL_iff.mp w).2)]
  · rw [if_pos (show nI c < (97 : Int32) from nI_lt (b := 97) (by omega) (by omega)), if_neg (fun w => z (isL_iff.mp w).1)]
theorem c_letters {q : Nat} (hn : n ≤ 700) (hb : ∀ j, b j < 256) (c : CB b n h) (hq : q ≤ n) (h6 : h.1 1 6 = nI q) :
    ∃ t : PH ⊕ PH, loop (fun (s7 : PH) =>
       if (s7.1 1 4) ≤ (s7.1 1 6) then
        some (.inr (.inr (s7)))
       else
        (F_X6_byteAt s7 (s7.1 1 6)).bind fun z8 =>
        if (F_X6_isLetter s7 z8) = 0 then
         some (.inr (.inr (s7)))
        else
         some (.inl ((pu s7 1 6 ((s7.1 1 6) + (1 : Int32)))))) h = some t ∧ ∃ h', t = .inr h' ∧ FT h h' ∧ h'.1 1 6 = nI (rn b n isL q) ∧ ∀ j, j ≠ 6 → h'.1 1 j = h.1 1 j := by
  refine loop_ind0 (σ := PH) (fun k s => q + k ≤ n ∧ s.1 1 6 = nI (q + k) ∧ FT h s ∧ (∀ j, j ≠ 6 → s.1 1 j = h.1 1 j) ∧ rn b n isL q = rn b n isL (q + k)) _ (n - q) ⟨hq, h6, FT.refl h, fun _ _ => rfl, rfl⟩ ?_
  intro k s ⟨i1, i2, i3, i4, i5⟩
  have cs := c.ft i3
  rw [cs.1, i2]
  rcases Nat.lt_or_ge (q + k) n with z | z
  · rw [if_neg (nI_ge z (by omega)), c_byte hn cs z, Option.bind_some, c_let (hb _)]
    by_cases y : isL (b (q + k)) = true
    · right
      rw [if_pos y, if_neg (by decide)]
      refine ⟨by omega, _, rfl, by omega, ?_, i3.trans (FT.pu (by omega)), fun j hj => ?_, ?_⟩
      · rw [pu_get, if_pos ⟨rfl, rfl⟩, nI_1]
        rfl
      · rw [pu_get, if_neg (fun w => hj w.2)]
        exact i4 j hj
      · rw [i5, rn_go z y]
        rfl
    · left
      rw [if_neg y, if_pos rfl]
      exact ⟨_, rfl, s, rfl, i3, by rw [i2, i5, rn_st (Bool.eq_false_iff.mpr y)], i4⟩
  · left
    rw [if_pos (nI_le z (by omega))]
    exact ⟨_, rfl, s, rfl, i3, by rw [i2, i5, rn_end z], i4⟩
theorem c_digits {q : Nat} (hn : n ≤ 700) (hb : ∀ j, b j < 256) (c : CB b n h) (hq : q ≤ n) (h6 : h.1 1 6 = nI q) (h8 : h.1 1 8 = nI 0) :
    ∃ t : PH ⊕ PH, loop (fun (s9 : PH) =>
      if (s9.1 1 4) ≤ (s9.1 1 6) then
       some (.inr (.inr (s9)))
      else
       (F_X6_byteAt s9 (s9.1 1 6)).bind fun z10 =>
       if (F_X6_isDigit s9 z10) = 0 then
        some (.inr (.inr (s9)))
       else
        (F_X6_byteAt s9 (s9.1 1 6)).bind fun z11 =>
        some (.inl ((pu (pu s9 1 8 (if ((((10 : Int32) * (s9.1 1 8)) + z11) - (48 : Int32)) < (100000 : Int32) then ((((10 : Int32) * (s9.1 1 8)) + z11) - (48 : Int32)) else (100000 : Int32))) 1 6 (((pu s9 1 8 (if ((((10 : Int32) * (s9.1 1 8)) + z11) - (48 : Int32)) < (100000 : Int32) then ((((10 : Int32) * (s9.1 1 8)) + z11) - (48 : Int32)) else (100000 : Int32))).1 1 6) + (1 : Int32)))))) h = some t ∧ ∃ h', t = .inr h' ∧ FT h h' ∧ h'.1 1 6 = nI (rn b n isD q) ∧ h'.1 1 8 = nI (min 100000 (nm b n q 0)) ∧ ∀ j, j ≠ 6 → j ≠ 8 → h'.1 1 j = h.1 1 j := by
  refine loop_ind0 (σ := PH) (fun k s => q + k ≤ n ∧ s.1 1 6 = nI (q + k) ∧ FT h s ∧ (∀ j, j ≠ 6 → j ≠ 8 → s.1 1 j = h.1 1 j) ∧ rn b n isD q = rn b n isD (q + k) ∧ ∃ a, s.1 1 8 = nI (min 100000 a) ∧ nm b n q 0 = nm b n (q + k) a) _ (n - q) ⟨hq, h6, FT.refl h, fun _ _ _ => rfl, rfl, 0, h8, rfl⟩ ?_
  intro k s ⟨i1, i2, i3, i4, i5, a, i6, i7⟩
  have cs := c.ft i3
  rw [cs.1, i2]
  rcases Nat.lt_or_ge (q + k) n with z | z
  · have hbb := hb (q + k)
    rw [if_neg (nI_ge z (by omega)), c_byte hn cs z, Option.bind_some, c_dig hbb]
    by_cases y : isD (b (q + k)) = true
    · right
      have hd := isD_iff.mp y
      have ev : (if (((10 : Int32) * (s.1 1 8)) + nI (b (q + k))) - (48 : Int32) < (100000 : Int32) then (((10 : Int32) * (s.1 1 8)) + nI (b (q + k))) - (48 : Int32) else (100000 : Int32)) = nI (min 100000 (10 * a + (b (q + k) - 48))) := by
        have e1 : (((10 : Int32) * (s.1 1 8)) + nI (b (q + k))) - (48 : Int32) = nI (10 * min 100000 a + b (q + k) - 48) := by
          rw [i6, i10, nI_mul, nI_add]
          exact nI_sub (b := 48) (by omega)
        rw [e1]
        by_cases w : 10 * min 100000 a + b (q + k) - 48 < 100000
        · rw [if_pos (show nI (10 * min 100000 a + b (q + k) - 48) < (100000 : Int32) from nI_lt (b := 100000) w (by omega))]
          congr 1
          omega
        · rw [if_neg (show ¬ nI (10 * min 100000 a + b (q + k) - 48) < (100000 : Int32) from nI_nlt (b := 100000) (by omega) (by omega)), show min 100000 (10 * a + (b (q + k) - 48)) = 100000 by omega]
          rfl
      rw [if_pos y, if_neg (show ¬ (1 : Int32) = 0 by decide), Option.bind_some, ev]
      have e6 : (pu s 1 8 (nI (min 100000 (10 * a + (b (q + k) - 48))))).1 1 6 = nI (q + k) := by rw [pu_get, if_neg (by omega), i2]
      rw [e6, nI_1]
      refine ⟨by omega, _, rfl, by omega, ?_, i3.trans ((FT.pu (by omega)).trans (FT.pu (by omega))), fun j hj hj2 => ?_, ?_, 10 * a + (b (q + k) - 48), ?_, ?_⟩
      · rw [pu_get, if_pos ⟨rfl, rfl⟩]
        rfl
      · rw [pu_get, if_neg (fun w => hj w.2), pu_get, if_neg (fun w => hj2 w.2)]
        exact i4 j hj hj2
      · rw [i5, rn_go z y]
        rfl
      · rw [pu_get, if_neg (by omega), pu_get, if_pos ⟨rfl, rfl⟩]
      · rw [i7, nm_go z y]
        rfl
    · left
      have y2 := Bool.eq_false_iff.mpr y
      rw [if_neg y, if_pos rfl]
      exact ⟨_, rfl, s, rfl, i3, by rw [i2, i5, rn_st y2], by rw [i6, i7, nm_st y2], i4⟩
  · left
    rw [if_pos (nI_le z (by omega))]
    exact ⟨_, rfl, s, rfl, i3, by rw [i2, i5, rn_end z], by rw [i6, i7, nm_end z], i4⟩
end LEX
