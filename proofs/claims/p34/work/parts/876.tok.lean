/-! TOKENS ON BOTH SIDES -/
def wc (i k : Nat) : Nat := ([[110, 101, 116, 119, 111, 114, 107], [101, 100, 103, 101], [98, 97, 110], [100, 101, 112, 111, 116], [115, 101, 114, 118, 105, 99, 101], [99, 111, 115, 116], [100, 101, 109, 97, 110, 100]].getD i []).getD k 0
theorem wc_ok : ∀ i, i < 7 → ∀ k, k < slenF i → schF i k = nI (wc i k) ∧ isL (wc i k) = true ∧ isD (wc i k) = false ∧ wc i k < 256 := by decide +kernel
theorem wl_ok : ∀ i, i < 7 → 0 < slenF i ∧ slenF i ≤ 7 := by decide +kernel
/-- the word i stands at q -/
def WM (b : Nat → Nat) (n i q : Nat) : Prop := q + slenF i ≤ n ∧ (∀ k, k < slenF i → b (q + k) = wc i k) ∧ (q + slenF i < n → isL (b (q + slenF i)) = false)
section TOK
variable {b : Nat → Nat} {n : Nat} {h : PH}
theorem rn_uniq {C : Nat → Bool} {q m : Nat} (h1 : q ≤ m) (h2 : m ≤ n) (h3 : ∀ j, q ≤ j → j < m → C (b j) = true) (h4 : m < n → C (b m) = false) : rn b n C q = m := by
  obtain ⟨a1, a2, a3, a4⟩ := rn_ok (b := b) (n := n) (C := C) q
  have a2 := a2 (by omega)
  rcases Nat.lt_trichotomy (rn b n C q) m with z | z | z
  · have := h3 _ a1 z
    rw [a3 (by omega)] at this
    cases this
  · exact z
  · have := a4 m h1 z
    rw [h4 (by omega)] at this
    cases this
theorem chO_at {i k : Nat} (hi : i < 7) (hk : k < slenF i) : chO (1000 + i) (nI k) = some (nI (wc i k)) := by
  have h7 := (wl_ok i hi).2
  unfold chO
  rw [show 1000 + i - SB = i from Nat.add_sub_cancel_left 1000 i, nI_inb (by omega), if_pos (decide_eq_true hk), nI_clamp (by omega), (wc_ok i hi k hk).1]
theorem len_at {i : Nat} : Int32.ofNat (slenF (1000 + i - SB)) = nI (slenF i) := by rw [show 1000 + i - SB = i from Nat.add_sub_cancel_left 1000 i]; rfl
theorem WM_tok {i q : Nat} (hi : i < 7) (w : WM b n i q) : q < n ∧ kd b n q = 257 ∧ te b n q = q + slenF i := by
  obtain ⟨w1, w2, w3⟩ := w
  obtain ⟨l1, l2⟩ := wl_ok i hi
  have hq : q < n := by omega
  have e0 := w2 0 l1
  rw [Nat.add_zero] at e0
  obtain ⟨-, c1, c2, -⟩ := wc_ok i hi 0 l1
  unfold kd te
  rw [if_pos hq, if_pos hq, e0, if_neg (by rw [c2]; decide), if_pos c1, if_neg (by rw [c2]; decide), if_pos c1]
  refine ⟨hq, rfl, rn_uniq (by omega) w1 (fun j h1 h2 => ?_) w3⟩
  have := w2 (j - q) (by omega)
  rw [show q + (j - q) = j by omega] at this
  rw [this]
  exact (wc_ok i hi _ (by omega)).2.1
theorem kd_w {q : Nat} (hb : ∀ j, b j < 256) (k : kd b n q = 257) : q < n ∧ isD (b q) = false ∧ isL (b q) = true ∧ te b n q = rn b n isL q := by
  unfold kd at k
  have := hb q
  by_cases z : q < n
  · rw [if_pos z] at k
    by_cases y : isD (b q) = true
    · rw [if_pos y] at k; omega
    · rw [if_neg y] at k
      by_cases x : isL (b q) = true
      · refine ⟨z, Bool.eq_false_iff.mpr y, x, ?_⟩
        unfold te
        rw [if_pos z, if_neg y, if_pos x]
      · rw [if_neg x] at k; omega
  · rw [if_neg z] at k; omega
theorem kd_n {q : Nat} (hb : ∀ j, b j < 256) : kd b n q = 256 ↔ q < n ∧ isD (b q) = true := by
  have := hb q
  unfold kd
  by_cases z : q < n
  · rw [if_pos z]
    by_cases y : isD (b q) = true
    · rw [if_pos y]; exact ⟨fun _ => ⟨z, y⟩, fun _ => rfl⟩
    · rw [if_neg y]
      refine ⟨fun w => ?_, fun w => absurd w.2 y⟩
      split at w <;> omega
  · rw [if_neg z]
    exact ⟨fun w => by omega, fun w => absurd w.1 z⟩
theorem kd_c {q c : Nat} (hc : c < 256) (h1 : isD c = false) (h2 : isL c = false) : kd b n q = c ↔ q < n ∧ b q = c := by
  unfold kd
  by_cases z : q < n
  · rw [if_pos z]
    by_cases y : isD (b q) = true
    · rw [if_pos y]
      exact ⟨fun w => by omega, fun w => by rw [w.2, h1] at y; cases y⟩
    · rw [if_neg y]
      by_cases x : isL (b q) = true
      · rw [if_pos x]
        exact ⟨fun w => by omega, fun w => by rw [w.2, h2] at x; cases x⟩
      · rw [if_neg x]
        exact ⟨fun w => ⟨z, w⟩, fun w => w.2⟩
  · rw [if_neg z]
    exact ⟨fun w => by omega, fun w => absurd w.1 z⟩
theorem kd_lt {q : Nat} (hb : ∀ j, b j < 256) : kd b n q ≤ 258 := by
  have := hb q
  unfold kd
  split
  · split
    · omega
    · split <;> omega
  · omega
theorem c_isWord {i p : Nat} (hn : n ≤ 700) (hb : ∀ j, b j < 256) (c : CB b n h) (t : TK b n h p) (hi : i < 7) : (WM b n i (sk b n p) → F_X6_isWord h (1000 + i) = some (1 : Int32)) ∧ (¬ WM b n i (sk b n p) → F_X6_isWord h (1000 + i) = some (0 : Int32)) := by
  obtain ⟨t1, t2, t3, t4, t5⟩ := t
  obtain ⟨l1, l2⟩ := wl_ok i hi
  have hq := sk_le (b := b) t1
  generalize sk b n p = q at *
  have hk258 := kd_lt (n := n) (q := q) hb
  have hte := te_ge (b := b) hq
  unfold F_X6_isWord
  rw [t4, len_at]
  by_cases z : kd b n q = 257
  · obtain ⟨z1, z2, z3, z4⟩ := kd_w hb z
    rw [if_neg (show ¬ ¬ nI (kd b n q) = (257 : Int32) from fun w => w (by rw [z]; rfl)), t3, t2, nI_sub hte.1]
    by_cases y : te b n q - q = slenF i
    · rw [y, if_pos rfl]
      have key : ∃ v, loop (fun (s1 : Int32) =>
    if nI (slenF i) ≤ s1 then
     some (.inr ((1 : Int32)))
    else
     (F_X6_byteAt h (nI q + s1)).bind fun z2 =>
     (chO (1000 + i) s1).bind fun z3 =>
     if z2 = z3 then
      some (.inl ((s1 + (1 : Int32))))
     else
      some (.inr ((0 : Int32)))) ((0 : Int32)) = some v ∧ ((v = 1 ∧ ∀ k, k < slenF i → b (q + k) = wc i k) ∨ (v = 0 ∧ ¬ ∀ k, k < slenF i → b (q + k) = wc i k)) := by
        refine loop_ind0 (σ := Int32) (fun k s => s = nI k ∧ k ≤ slenF i ∧ ∀ j, j < k → b (q + j) = wc i j) _ (slenF i) ⟨rfl, Nat.zero_le _, fun j hj => absurd hj (Nat.not_lt_zero _)⟩ ?_
        rintro k s ⟨rfl, i2, i3⟩
        rcases Nat.lt_or_ge k (slenF i) with x | x
        · have hbk := hb (q + k)
          have hwk := (wc_ok i hi k x).2.2.2
          rw [if_neg (nI_ge x (by omega)), nI_add, c_byte hn c (by omega), Option.bind_some, chO_at hi x, Option.bind_some]
          by_cases u : b (q + k) = wc i k
          · right
            rw [u, if_pos rfl]
            refine ⟨x, _, rfl, nI_1 k, x, fun j hj => ?_⟩
            rcases Nat.lt_or_ge j k with v | v
            · exact i3 j v
            · rw [show j = k by omega]; exact u
          · left
            rw [if_neg (fun w => u ((nI_eq (by omega) (by omega)).mp w))]
            exact ⟨0, rfl, Or.inr ⟨rfl, fun w => u (w k x)⟩⟩
        · left
          rw [if_pos (nI_le x (by omega))]
          exact ⟨1, rfl, Or.inl ⟨rfl, fun k hk => i3 k (by omega)⟩⟩
      obtain ⟨v, k1, k2⟩ := key
      rw [k1]
      rcases k2 with ⟨rfl, k2⟩ | ⟨rfl, k2⟩
      · refine ⟨fun _ => rfl, fun w => absurd ⟨by omega, k2, fun u => ?_⟩ w⟩
        have := (rn_ok (b := b) (n := n) (C := isL) q).2.2.1 (by rw [← z4]; omega)
        rw [← z4, show te b n q = q + slenF i by omega] at this
        exact this
      · exact ⟨fun w => absurd w.2.1 k2, fun _ => rfl⟩
    · rw [if_neg (fun w => y ((nI_eq (by omega) (by omega)).mp w))]
      exact ⟨fun w => absurd (WM_tok hi w).2.2 (by omega), fun _ => rfl⟩
  · rw [if_pos (show ¬ nI (kd b n q) = (257 : Int32) from fun w => z ((nI_eq (b := 257) (by omega) (by omega)).mp w))]
    exact ⟨fun w => absurd (WM_tok hi w).2.1 z, fun _ => rfl⟩
/-! the reference's -/
def RB (b : Nat → Nat) (n : Nat) (h : PH) : Prop := h.1 122 3 = nI n ∧ ∀ j, j < n → h.1 123 j = nI (b j)
def FX (h h' : PH) : Prop := Fr (fun a => a = 122) h h' ∧ ∀ j, ¬ (j = 4 ∨ j = 5 ∨ j = 6 ∨ j = 13) → h'.1 122 j = h.1 122 j
/-- only the position -/
def FQ (h h' : PH) (q : Nat) : Prop := Fr (fun a => a = 122) h h' ∧ h'.1 122 4 = nI q ∧ ∀ j, j ≠ 4 → h'.1 122 j = h.1 122 j
theorem FX.refl (h : PH) : FX h h := ⟨Fr.refl h, fun _ _ => rfl⟩
theorem FX.trans {h h' h'' : PH} (f : FX h h') (g : FX h' h'') : FX h h'' := ⟨f.1.trans g.1, fun j hj => (g.2 j hj).trans (f.2 j hj)⟩
theorem FX.pu {h : PH} {j : Nat} {v : Int32} (hj : j = 4 ∨ j = 5 ∨ j = 6 ∨ j = 13) : FX h (pu h 122 j v) := ⟨Fr.pu rfl, fun i hi => by rw [pu_get, if_neg (fun z => hi (by omega))]⟩
theorem FQ.FX {h h' : PH} {q : Nat} (f : FQ h h' q) : FX h h' := ⟨f.1, fun j hj => f.2.2 j (by omega)⟩
theorem FQ.pu {h : PH} {q : Nat} : FQ h (pu h 122 4 (nI q)) q := ⟨Fr.pu rfl, by rw [pu_get, if_pos ⟨rfl, rfl⟩], fun j hj => by rw [pu_get, if_neg (fun z => hj z.2)]⟩
theorem FQ.trans {h h' h'' : PH} {q q' : Nat} (f : FQ h h' q) (g : FQ h' h'' q') : FQ h h'' q' := ⟨f.1.trans g.1, g.2.1, fun j hj => (g.2.2 j hj).trans (f.2.2 j hj)⟩
theorem RB.fx {h' : PH} (c : RB b n h) (f : FX h h') : RB b n h' := ⟨by rw [f.2 3 (by omega)]; exact c.1, fun j hj => by rw [(f.1 123 (by omega)).1]; exact c.2 j hj⟩
def bz (b : Nat → Nat) (n q : Nat) : Int32 := if q < n then nI (b q) else (-1 : Int32)
theorem bz_eq {q c : Nat} (hb : ∀ j, b j < 256) (hc : c < 256) : bz b n q = nI c ↔ q < n ∧ b q = c := by
  have := hb q
  unfold bz
  by_cases z : q < n
  · rw [if_pos z, nI_eq (by omega) (by omega)]
    exact ⟨fun w => ⟨z, w⟩, fun w => w.2⟩
  · rw [if_neg z]
    exact ⟨fun w => absurd w.symm (eA_ne (by omega)), fun w => absurd w.1 z⟩
end TOK
