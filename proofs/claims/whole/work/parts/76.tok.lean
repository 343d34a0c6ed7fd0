/-! TOKENS ON BOTH SIDES -/
def wc (i k : Nat) : Nat := ([[110, 101, 116, 119, 111, 114, 107], [101, 100, 103, 101], [98, 97, 110], [100, 101, 112, 111, 116], [115, 101, 114, 118, 105, 99, 101], [99, 111, 115, 116], [100, 101, 109, 97, 110, 100]].getD i []).getD k 0
theorem wc_ok : ∀ i, i < 7 → ∀ k, k < slenF i → schF i k = nI (wc i k) ∧ isL (wc i k) = true ∧ isD (wc i k) = false ∧ wc i k < 256 := by decide +kernel
theorem wl_ok : ∀ i, i < 7 → 0 < slenF i ∧ slenF i ≤ 7 := by decide +kernel
/-- the word i stands at q -/
def WM (b : Nat → Nat) (n i q : Nat) : Prop := q + slenF i ≤ n ∧ (∀ k, k < slenF i → b (q + k) = wc i k) ∧ (q + slenF i < n → isL (b (q + slenF i)) = false)
section TOK
variable {b : Nat → Nat} {n : Nat} {h : PH}
theorem rn_uniq {C : Nat → Bool} {q m : Nat} (h1 : q ≤ m) (h2 : m ≤ n) (h3 : ∀ j, q ≤ j → j < m → C (b j) = true) (h4 : m < n → C (b m) = false) : rn b n C q = m := by
  obtain ⟨a1, a2, a3, a4⟩ := rn_ok (b := b) (n := n) (C := C) q
  have a2 := a2 (by omega)
  rcases Nat.lt_trichotomy (rn b n C q) m with z | z | z
  · have := h3 _ a1 z
    rw [a3 (by omega)] at this
    cases this
  · exact z
  · have := a4 m h1 z
    rw [h4 (by omega)] at this
    cases this
theorem chO_at {i k : Nat} (hi : i < 7) (hk : k < slenF i) : chO (1000 + i) (nI k) = some (nI (wc i k)) := by
  have h7 := (wl_ok i hi).2
  unfold chO
  rw [show 1000 + i - SB = i from Nat.add_sub_cancel_left 1000 i, nI_inb (by omega), if_pos (decide_eq_true hk), nI_clamp (by omega), (wc_ok i hi k hk).1]
theorem len_at {i : Nat} : Int32.ofNat (slenF (1000 + i - SB)) = nI (slenF i) := by rw [show 1000 + i - SB = i from Nat.add_sub_cancel_left 1000 i]; rfl
theorem WM_tok {i q : Nat} (hi : i < 7) (w : WM b n i q) : q < n ∧ kd b n q = 257 ∧ te b n q = q + slenF i := by
  obtain ⟨w1, w2, w3⟩ := w
  obtain ⟨l1, l2⟩ := wl_ok i hi
  have hq : q < n := by omega
  have e0 := w2 0 l1
  rw [Nat.add_zero] at e0
  obtain ⟨-, c1, c2, -⟩ := wc_ok i hi 0 l1
  unfold kd te
  rw [if_pos hq, if_pos hq, e0, if_neg (by rw [c2]; decide), if_pos c1, if_neg (by rw [c2]; decide), if_pos c1]
  refine ⟨hq, rfl, rn_uniq (by omega) w1 (fun j h1 h2 => ?_) w3⟩
  have := w2 (j - q) (by omega)
  rw [show q + (j - q) = j by omega] at this
  rw [this]
  exact (wc_ok i hi _ (by omega)).2.1
theorem kd_w {q : Nat} (hb : ∀ j, b j < 256) (k : kd b n q = 257) : q < n ∧ isD (b q) = false ∧ isL (b q) = true ∧ te b n q = rn b n isL q := by
  unfold kd at k
  have := hb q
  by_cases z : q < n
  · rw [if_pos z] at k
    by_cases y : isD (b q) = true
    · rw [if_pos y] at k; omega
    · rw [if_neg y] at k
      by_cases x : isL (b q) = true
      · refine ⟨z, Bool.eq_false_iff.mpr y, x, ?_⟩
        unfold te
        rw [if_pos z, if_neg y, if_pos x]
      · rw [if_neg x] at k; omega
  · rw [if_neg z] at k; omega
theorem kd_n {q : Nat} (hb : ∀ j, b j < 256) : kd b n q = 256 ↔ q < n ∧ isD (b q) = true := by
  have := hb q
  unfold kd
  by_cases z : q < n
  · rw [if_pos z]
    by_cases y : isD (b q) = true
    · rw [if_pos y]; exact ⟨fun _ => ⟨z, y⟩, fun _ => rfl⟩
    · rw [if_neg y]
      refine ⟨fun w => ?_, fun w => absurd w.2 y⟩
      split at w <;> omega
  · rw [if_neg z]
    exact ⟨fun w => by omega, fun w => absurd w.1 z⟩
theorem kd_c {q c : Nat} (hc : c < 256) (h1 : isD c = false) (h2 : isL c = false) : kd b n q = c ↔ q < n ∧ b q = c := by
  unfold kd
  by_cases z : q < n
  · rw [if_pos z]
    by_cases y : isD (b q) = true
    · rw [if_pos y]
      exact ⟨fun w => by omega, fun w => by rw [w.2, h1] at y; cases y⟩
    · rw [if_neg y]
      by_cases x : isL (b q) = true
      · rw [if_pos x]
        exact ⟨fun w => by omega, fun w => by rw [w.2, h2] at x; cases x⟩
      · rw [if_neg x]
        exact ⟨fun w => ⟨z, w⟩, fun w => w.2⟩
  · rw [if_neg z]
    exact ⟨fun w => by omega, fun w => absurd w.1 z⟩
theorem kd_lt {q : Nat} (hb : ∀ j, b j < 256) : kd b n q ≤ 258 := by
  have := hb q
  unfold kd
  split
  · split
    · omega
    · split <;> omega
  · omega
theorem c_isWord {i p : Nat} (hn : n ≤ 700) (hb : ∀ j, b j < 256) (c : CB b n h) (t : TK b n h p) (hi : i < 7) : (WM b n i (sk b n p) → F_X6_isWord h (1000 + i) = some (1 : Int32)) ∧ (¬ WM b n i (sk b n p) → F_X6_isWord h (1000 + i) = some (0 : Int32)) := by
  obtain ⟨t1, t2, t3, t4, t5⟩ := t
  obtain ⟨l1, l2⟩ := wl_ok i hi
  have hq := sk_le (b := b) t1
  generalize sk b n p = q at *
  have hk258 := kd_lt (n := n) (q := q) hb
  have hte := te_ge (b := b) hq
  unfold F_X6_isWord
  rw [t4, len_at]
  by_cases z : kd b n q = 257
  · obtain ⟨z1, z2, z3, z4⟩ := kd_w hb z
    rw [if_neg (show ¬ ¬ nI (kd b n q) = (257 : Int32) from fun w => w (by rw [z]; rfl)), t3, t2, nI_sub hte.1]
    by_cases y : te b n q - q = slenF i
    · rw [y, if_pos rfl]
      have key : ∃ v, loop (fun (s1 : Int32) =>
    if nI (slenF i) ≤ s1 then
     some (.inr ((1 : Int32)))
    else
     (F_X6_byteAt h (nI q + s1)).bind fun z2 =>
     (chO (1000 + i) s1).bind fun z3 =>
     if z2 = z3 then
      some (.inl ((s1 + (1 : Int32))))
     else
      some (.inr ((0 : Int32)))) ((0 : Int32)) = some v ∧ ((v = 1 ∧ ∀ k, k < slenF i → b (q + k) = wc i k) ∨ (v = 0 ∧ ¬ ∀ k, k < slenF i → b (q + k) = wc i k)) := by
        refine loop_ind0 (σ := Int32) (fun k s => s = nI k ∧ k ≤ slenF i ∧ ∀ j, j < k → b (q + j) = wc i j) _ (slenF i) ⟨rfl, Nat.zero_le _, fun j hj => absurd hj (Nat.not_lt_zero _)⟩ ?_
        rintro k s ⟨rfl, i2, i3⟩
        rcases Nat.lt_or_ge k (slenF i) with x | x
        · have hbk := hb (q + k)
          have hwk := (wc_ok i hi k x).2.2.2
          rw [if_neg (nI_ge x (by omega)), nI_add, c_byte hn c (by omega), Option.bind_some, chO_at hi x, Option.bind_some]
          by_cases u : b (q + k) = wc i k
          · right
            rw [u, if_pos rfl]
            refine ⟨x, _, rfl, nI_1 k, x, fun j hj => ?_⟩
            rcases Nat.lt_or_ge j k with v | v
            · exact i3 j v
            · rw [show j = k by omega]; exact u
          · left
            rw [if_neg (fun w => u ((nI_eq (by omega) (by omega)).mp w))]
            exact ⟨0, rfl, Or.inr ⟨rfl, fun w => u (w k x)⟩⟩
        · left
          rw [if_pos (nI_le x (by omega))]
          exact ⟨1, rfl, Or.inl ⟨rfl, fun k hk => i3 k (by omega)⟩⟩
      obtain ⟨v, k1, k2⟩ := key
      rw [k1]
      rcases k2 with ⟨rfl, k2⟩ | ⟨rfl, k2⟩
      · refine ⟨fun _ => rfl, fun w => absurd ⟨by omega, k2, fun u => ?_⟩ w⟩
        have := (rn_ok (b := b) (n := n) (C := isL) q).2.2.1 (by rw [← z4]; omega)
        rw [← z4, show te b n q = q + slenF i by omega] at this
        exact this
      · exact ⟨fun w => absurd w.2.1 k2, fun _ => rfl⟩
    · rw [if_neg (fun w => y ((nI_eq (by omega) (by omega)).mp w))]
      exact ⟨fun w => absurd (WM_tok hi w).2.2 (by omega), fun _ => rfl⟩
  · rw [if_pos (show ¬ nI (kd b n q) = (257 : Int32) from fun w => z ((nI_eq (b := 257) (by omega) (by omega)).mp w))]
    exact ⟨fun w => absurd (WM_tok hi w).2.1 z, fun _ => rfl⟩
/-! the reference's -/
def RB (b : Nat → Nat) (n : Nat) (h : PH) : Prop := h.1 122 3 = nI n ∧ ∀ j, j < n → h.1 123 j = nI (b j)
def FX (h h' : PH) : Prop := Fr (fun a => a = 122) h h' ∧ ∀ j, ¬ (j = 4 ∨ j = 5 ∨ j = 6 ∨ j = 13) → h'.1 122 j = h.1 122 j
/-- only the position -/
def FQ (h h' : PH) (q : Nat) : Prop := Fr (fun a => a = 122) h h' ∧ h'.1 122 4 = nI q ∧ ∀ j, j ≠ 4 → h'.1 122 j = h.1 122 j
theorem FX.refl (h : PH) : FX h h := ⟨Fr.refl h, fun _ _ => rfl⟩
theorem FX.trans {h h' h'' : PH} (f : FX h h') (g : FX h' h'') : FX h h'' := ⟨f.1.trans g.1, fun j hj => (g.2 j hj).trans (f.2 j hj)⟩
theorem FX.pu {h : PH} {j : Nat} {v : Int32} (hj : j = 4 ∨ j = 5 ∨ j = 6 ∨ j = 13) : FX h (pu h 122 j v) := ⟨Fr.pu rfl, fun i hi => by rw [pu_get, if_neg (fun z => hi (by omega))]⟩
theorem FQ.FX {h h' : PH} {q : Nat} (f : FQ h h' q) : FX h h' := ⟨f.1, fun j hj => f.2.2 j (by omega)⟩
theorem FQ.pu {h : PH} {q : Nat} : FQ h (pu h 122 4 (nI q)) q := ⟨Fr.pu rfl, by rw [pu_get, if_pos ⟨rfl, rfl⟩], fun j hj => by rw [pu_get, if_neg (fun z => hj z.2)]⟩
theorem FQ.trans {h h' h'' : PH} {q q' : Nat} (f : FQ h h' q) (g : FQ h' h'' q') : FQ h h'' q' := ⟨f.1.trans g.1, g.2.1, fun j hj => (g.2.2 j hj).trans (f.2.2 j hj)⟩
theorem RB.fx {h' : PH} (c : RB b n h) (f : FX h h') : RB b n h' := ⟨by rw [f.2 3 (by omega)]; exact c.1, fun j hj => by rw [(f.1 123 (by omega)).1]; exact c.2 j hj⟩
def bz (b : Nat → Nat) (n q : Nat) : Int32 := if q < n then nI (b q) else (-1 : Int32)
theorem r_byte {q : Nat} (hn : n ≤ 700) (c : RB b n h) (hq : q ≤ n) : F_X8_byteAt h (nI q) = some (bz b n q) := by
  unfold F_X8_byteAt bz
  rw [c.1]
  rcases Nat.lt_or_ge q n with z | z
  · rw [if_neg (nI_ge z (by omega)), ald_in (by omega) (by omega), Option.bind_some, c.2 q z, if_pos z]
  · rw [if_pos (nI_le z (by omega)), if_neg (by omega)]
theorem bz_eq {q c : Nat} (hb : ∀ j, b j < 256) (hc : c < 256) : bz b n q = nI c ↔ q < n ∧ b q = c := by
  have := hb q
  unfold bz
  by_cases z : q < n
  · rw [if_pos z, nI_eq (by omega) (by omega)]
    exact ⟨fun w => ⟨z, w⟩, fun w => w.2⟩
  · rw [if_neg z]
    exact ⟨fun w => absurd w.symm (eA_ne (by omega)), fun w => absurd w.1 z⟩
theorem r_next {q : Nat} (hn : n ≤ 700) (hb : ∀ j, b j < 256) (c : RB b n h) (h4 : h.1 122 4 = nI q) (hq : q ≤ n) : ∃ h', F_X8_next h = some (bz b n (sk b n q), h') ∧ FQ h h' (sk b n q) := by
  unfold F_X8_next
  refine ex_pr (loop_ind0 (σ := PH) (fun k s => q + k ≤ n ∧ FQ h s (q + k) ∧ sk b n q = sk b n (q + k)) _ (n - q) ⟨hq, ⟨Fr.refl h, h4, fun _ _ => rfl⟩, rfl⟩ ?_)
  intro k s ⟨i1, i2, i3⟩
  have cs := c.fx i2.FX
  rw [i2.2.1, r_byte hn cs i1, Option.bind_some, Option.bind_some]
  by_cases z : bz b n (q + k) = (32 : Int32)
  · right
    obtain ⟨y, x⟩ := (bz_eq (c := 32) hb (by omega)).mp z
    rw [if_neg (fun w => w z), nI_1]
    refine ⟨by omega, _, rfl, by omega, i2.trans FQ.pu, ?_⟩
    rw [i3]
    exact rn_go y (by unfold isS; exact decide_eq_true x)
  · left
    have e9 : sk b n q = q + k := by
      rw [i3]
      rcases Nat.lt_or_ge (q + k) n with y | y
      · exact rn_st (by unfold isS; exact decide_eq_false (fun w => z ((bz_eq (c := 32) hb (by omega)).mpr ⟨y, w⟩)))
      · exact rn_end y
    rw [if_pos z]
    exact ⟨_, rfl, by rw [e9], by rw [e9]; exact i2⟩
theorem r_dig {q : Nat} (hb : ∀ j, b j < 256) : F_X8_isDigit h (bz b n q) = some (if q < n ∧ isD (b q) = true then (1 : Int32) else (0 : Int32)) := by
  have hbq := hb q
  unfold F_X8_isDigit F_X8_in bz
  by_cases z : q < n
  · rw [if_pos z]
    by_cases y : 48 ≤ b q
    · rw [if_neg (show ¬ nI (b q) < (48 : Int32) from nI_nlt (b := 48) y (by omega))]
      by_cases x : b q ≤ 57
      · rw [if_neg (show ¬ (57 : Int32) < nI (b q) from nI_nlt (a := 57) x (by omega)), if_pos ⟨z, isD_iff.mpr ⟨y, x⟩⟩]
        rfl
      · rw [if_pos (show (57 : Int32) < nI (b q) from nI_lt (a := 57) (by omega) (by omega)), if_neg (fun w => x (isD_iff.mp w.2).2)]
        rfl
    · rw [if_pos (show nI (b q) < (48 : Int32) from nI_lt (b := 48) (by omega) (by omega)), if_neg (fun w => y (isD_iff.mp w.2).1)]
      rfl
  · rw [if_neg z, if_pos (show (-1 : Int32) < (48 : Int32) by decide), if_neg (show ¬ (q < n ∧ isD (b q) = true) from fun w => z w.1)]
    rfl
theorem r_let {q : Nat} (hb : ∀ j, b j < 256) : F_X8_in h (bz b n q) (97 : Int32) (122 : Int32) = if q < n ∧ isL (b q) = true then (1 : Int32) else (0 : Int32) := by
  have hbq := hb q
  unfold F_X8_in bz
  by_cases z : q < n
  · rw [if_pos z]
    by_cases y : 97 ≤ b q
    · rw [if_neg (show ¬ nI (b q) < (97 : Int32) from nI_nlt (b := 97) y (by omega))]
      by_cases x : b q ≤ 122
      · rw [if_neg (show ¬ (122 : Int32) < nI (b q) from nI_nlt (a := 122) x (by omega)), if_pos ⟨z, isL_iff.mpr ⟨y, x⟩⟩]
      · rw [if_pos (show (122 : Int32) < nI (b q) from nI_lt (a := 122) (by omega) (by omega)), if_neg (fun w => x (isL_iff.mp w.2).2)]
    · rw [if_pos (show nI (b q) < (97 : Int32) from nI_lt (b := 97) (by omega) (by omega)), if_neg (fun w => y (isL_iff.mp w.2).1)]
  · rw [if_neg z, if_pos (show (-1 : Int32) < (97 : Int32) by decide), if_neg (show ¬ (q < n ∧ isL (b q) = true) from fun w => z w.1)]
theorem good_0 (h5 : h.1 122 5 = 0) : F_X8_isGood h = 1 := by unfold F_X8_isGood; rw [if_neg (fun z => z h5)]
theorem good_1 (h5 : h.1 122 5 ≠ 0) : F_X8_isGood h = 0 := by unfold F_X8_isGood; rw [if_pos h5]
theorem r_word {i q : Nat} (hn : n ≤ 700) (hb : ∀ j, b j < 256) (c : RB b n h) (h4 : h.1 122 4 = nI q) (hq : q ≤ n) (h5 : h.1 122 5 = 0) (hi : i < 7) : (WM b n i (sk b n q) → ∃ h', F_X8_takeWord h (1000 + i) = some ((1 : Int32), h') ∧ FQ h h' (sk b n q + slenF i)) ∧ (¬ WM b n i (sk b n q) → ∃ h', F_X8_takeWord h (1000 + i) = some ((0 : Int32), h') ∧ FQ h h' (sk b n q)) := by
  obtain ⟨l1, l2⟩ := wl_ok i hi
  obtain ⟨g, e1, f1⟩ := r_next hn hb c h4 hq
  have hs := sk_le (b := b) hq
  unfold F_X8_takeWord
  rw [good_0 h5, if_pos (by decide), e1, Option.bind_some]
  dsimp only
  unfold jn
  rw [len_at, f1.2.1]
  generalize sk b n q = q0 at *
  have cg := c.fx f1.FX
  have key : ∃ t : Int32 × PH, loop (fun (s2 : Int32) =>
    if nI (slenF i) ≤ s2 then
     (if s2 < nI (slenF i) then
     some (.inr (((0 : Int32), g)))
    else
     (F_X8_byteAt g (nI q0 + s2)).bind fun z5 =>
     if (F_X8_in g z5 (97 : Int32) (122 : Int32)) = 0 then
      some (.inr (((1 : Int32), (pu g 122 4 (nI q0 + s2)))))
     else
      some (.inr (((0 : Int32), g))))
    else
     (F_X8_byteAt g (nI q0 + s2)).bind fun z6 =>
     (chO (1000 + i) s2).bind fun z7 =>
     if ¬ z6 = z7 then
      (if s2 < nI (slenF i) then
     some (.inr (((0 : Int32), g)))
    else
     (F_X8_byteAt g (nI q0 + s2)).bind fun z5 =>
     if (F_X8_in g z5 (97 : Int32) (122 : Int32)) = 0 then
      some (.inr (((1 : Int32), (pu g 122 4 (nI q0 + s2)))))
     else
      some (.inr (((0 : Int32), g))))
     else
      some (.inl ((s2 + (1 : Int32))))) ((0 : Int32)) = some t ∧ ((t.1 = 1 ∧ WM b n i q0 ∧ FQ h t.2 (q0 + slenF i)) ∨ (t.1 = 0 ∧ ¬ WM b n i q0 ∧ FQ h t.2 q0)) := by
    refine loop_ind0 (σ := Int32) (fun k s => s = nI k ∧ k ≤ slenF i ∧ q0 + k ≤ n ∧ ∀ j, j < k → b (q0 + j) = wc i j) _ (slenF i) ⟨rfl, Nat.zero_le _, hs, fun j hj => absurd hj (Nat.not_lt_zero _)⟩ ?_
    rintro k s ⟨rfl, i2, i3, i4⟩
    rcases Nat.lt_or_ge k (slenF i) with x | x
    · have hwk := (wc_ok i hi k x).2.2.2
      rw [if_neg (nI_ge x (by omega)), nI_add, r_byte hn cg i3, Option.bind_some, chO_at hi x, Option.bind_some]
      by_cases u : q0 + k < n ∧ b (q0 + k) = wc i k
      · right
        rw [if_neg (fun w => w ((bz_eq hb hwk).mpr u))]
        refine ⟨x, _, rfl, nI_1 k, x, by omega, fun j hj => ?_⟩
        rcases Nat.lt_or_ge j k with v | v
        · exact i4 j v
        · rw [show j = k by omega]; exact u.2
      · left
        rw [if_pos (fun w => u ((bz_eq hb hwk).mp w)), if_pos (nI_lt x (by omega))]
        exact ⟨_, rfl, Or.inr ⟨rfl, fun w => u ⟨by have := w.1; omega, w.2.1 k x⟩, f1⟩⟩
    · obtain rfl : k = slenF i := by omega
      left
      rw [if_pos (nI_le (Nat.le_refl _) (by omega)), if_neg (nI_nlt (Nat.le_refl _) (by omega)), nI_add, r_byte hn cg i3, Option.bind_some, r_let hb]
      by_cases u : q0 + slenF i < n ∧ isL (b (q0 + slenF i)) = true
      · rw [if_pos u, if_neg (by decide)]
        exact ⟨_, rfl, Or.inr ⟨rfl, fun w => Bool.noConfusion ((w.2.2 u.1).symm.trans u.2), f1⟩⟩
      · rw [if_neg u, if_pos rfl]
        exact ⟨_, rfl, Or.inl ⟨rfl, ⟨i3, i4, fun w => Bool.eq_false_iff.mpr (fun v => u ⟨w, v⟩)⟩, f1.trans FQ.pu⟩⟩
  obtain ⟨⟨t1, t2⟩, k1, k2⟩ := key
  dsimp only at k2
  rcases k2 with ⟨rfl, k2, k3⟩ | ⟨rfl, k2, k3⟩
  · exact ⟨fun _ => ⟨t2, k1, k3⟩, fun w => absurd k2 w⟩
  · exact ⟨fun w => absurd w k2, fun _ => ⟨t2, k1, k3⟩⟩
end TOK
