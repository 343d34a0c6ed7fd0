/-- the lowest node of a set -/
def lw (s : Nat) : Nat := (fnd (fun j => s.testBit j) 8).getD 0
def mf (M : Nat → Option Nat) (N : NT) (s i : Nat) : Nat → Option Nat
  | 0 => none
  | k + 1 => if i < k ∧ s.testBit k = true then om (mf M N s i k) (oa (om (wDst N i k) (wDst N k i)) (M (s - 2 ^ i - 2 ^ k))) else mf M N s i k
def mt (N : NT) : Nat → Nat → Option Nat
  | 0, _ => none
  | n + 1, s => if s = 0 then some 0 else mf (mt N n) N s (lw s) 8
section MTC
variable {h : PH} {N : NT} {P : PT} {H : HT}
theorem lw_ok {s : Nat} (hs : s < 256) (h0 : s ≠ 0) : lw s < 8 ∧ s.testBit (lw s) = true ∧ ∀ j, j < lw s → s.testBit j = false := by
  unfold lw
  cases hq : fnd (fun j => s.testBit j) 8 with
  | none =>
    obtain ⟨i, hi, hb⟩ := bit_7 s hs h0
    have := fnd_none hq i hi
    rw [hb] at this
    cases this
  | some k => exact fnd_some hq
theorem mf_low {M : Nat → Option Nat} {s i : Nat} : ∀ {k : Nat}, k ≤ i + 1 → mf M N s i k = none
  | 0, _ => rfl
  | k + 1, hk => by
    show (if i < k ∧ s.testBit k = true then _ else mf M N s i k) = none
    rw [if_neg (fun z => by omega)]
    exact mf_low (by omega)
theorem mf_high {M : Nat → Option Nat} {s i n : Nat} (hs : ∀ k, n ≤ k → s.testBit k = false) : ∀ {k : Nat}, n ≤ k → mf M N s i k = mf M N s i n
  | 0, hk => by rw [show n = 0 by omega]
  | k + 1, hk => by
    rcases Nat.lt_or_ge k n with q | q
    · rw [show n = k + 1 by omega]
    · show (if i < k ∧ s.testBit k = true then _ else mf M N s i k) = _
      rw [if_neg (fun z => by rw [hs k q] at z; cases z.2)]
      exact mf_high hs q
theorem om_bnd {a b : Option Nat} {B : Nat} (ha : ∀ v, a = some v → v ≤ B) (hb : ∀ v, b = some v → v ≤ B) : ∀ v, om a b = some v → v ≤ B := fun v hv => om_le ha hb hv
theorem oa_bnd {a b : Option Nat} {A B : Nat} (ha : ∀ v, a = some v → v ≤ A) (hb : ∀ v, b = some v → v ≤ B) : ∀ v, oa a b = some v → v ≤ A + B := fun v hv => by
  cases a with
  | none => cases hv
  | some x =>
    cases b with
    | none => cases hv
    | some y =>
      cases hv
      have := ha x rfl
      have := hb y rfl
      omega
theorem mf_le {M : Nat → Option Nat} {B s i : Nat} (hN9 : WN N) (hM : ∀ s v, M s = some v → v ≤ B) : ∀ (k v : Nat), mf M N s i k = some v → v ≤ 2970 + B
  | 0, v, h => by cases h
  | k + 1, v, h => by
    have e : mf M N s i (k + 1) = if i < k ∧ s.testBit k = true then om (mf M N s i k) (oa (om (wDst N i k) (wDst N k i)) (M (s - 2 ^ i - 2 ^ k))) else mf M N s i k := rfl
    rw [e] at h
    split at h
    · exact om_bnd (fun v hv => mf_le hN9 hM k v hv) (oa_bnd (om_bnd (fun v hv => wDst_le hN9 hv) (fun v hv => wDst_le hN9 hv)) (hM _)) v h
    · exact mf_le hN9 hM k v h
theorem mt_le (hN9 : WN N) : ∀ (n s v : Nat), mt N n s = some v → v ≤ 2970 * n
  | 0, _, _, h => by cases h
  | n + 1, s, v, h => by
    have e : mt N (n + 1) s = if s = 0 then some 0 else mf (mt N n) N s (lw s) 8 := rfl
    rw [e] at h
    split at h
    · cases h; omega
    · have := mf_le hN9 (fun s v hv => mt_le hN9 n s v hv) 8 v h
      omega
theorem en_om {K : Nat} {a b : Option Nat} (ha : ∀ v, a = some v → v ≤ K) (hb : ∀ v, b = some v → v ≤ K) : min (en K a) (en K b) = en K (om a b) := by
  cases a with
  | none =>
    cases b with
    | none => exact Nat.min_self _
    | some y => exact Nat.min_eq_right (hb y rfl)
  | some x =>
    cases b with
    | none => exact Nat.min_eq_left (ha x rfl)
    | some y => rfl
theorem en_oa {K : Nat} {o a b : Option Nat} (ho : ∀ v, o = some v → v ≤ K) (hab : ∀ v, oa a b = some v → v ≤ K) : min (en K o) (en K a + en K b) = en K (om o (oa a b)) := by
  have key : K ≤ en K a + en K b ∧ oa a b = none ∨ ∃ v, oa a b = some v ∧ en K a + en K b = v ∧ v ≤ K := by
    cases a with
    | none => exact Or.inl ⟨Nat.le_add_right _ _, by cases b <;> rfl⟩
    | some x =>
      cases b with
      | none => exact Or.inl ⟨Nat.le_add_left _ _, rfl⟩
      | some y => exact Or.inr ⟨x + y, rfl, rfl, hab _ rfl⟩
  rcases key with ⟨k1, k2⟩ | ⟨v, k1, k2, k3⟩
  · rw [k2, om_none]
    refine Nat.min_eq_left (Nat.le_trans ?_ k1)
    cases o with
    | none => exact Nat.le_refl _
    | some w => exact ho w rfl
  · rw [k2, k1]
    exact en_om (a := o) (b := some v) ho (fun w hw => by cases hw; exact k3)
theorem bit_hi {s n k : Nat} (hs : s < 2 ^ n) (hk : n ≤ k) : s.testBit k = false := Nat.testBit_lt_two_pow (Nat.lt_of_lt_of_le hs (Nat.pow_le_pow_right (by omega) hk))
theorem c_low {s : Nat} (hs : s < 256) (h0 : s ≠ 0) : F_X5_lowestIn h (nI s) = some (nI (lw s)) := by
  obtain ⟨l1, l2, l3⟩ := lw_ok hs h0
  unfold F_X5_lowestIn
  refine loop_to (fun k => nI k) (lw s) rfl (fun k hk => ?_) ?_
  · rw [if_neg (show ¬ (8 : Int32) ≤ nI k from nI_ge (b := 8) (by omega) (by omega)), bit_1 s hs k (by omega), l3 k hk, if_pos (show (if false = true then (1 : Int32) else 0) = 0 from rfl), nI_1]
  · rw [if_neg (show ¬ (8 : Int32) ≤ nI (lw s) from nI_ge (b := 8) (by omega) (by omega)), bit_1 s hs _ l1, l2]
    rfl
theorem c_pairs (hN9 : WN N) (ca : CA h N P) : ∀ (n p s : Nat), p + n = 6 → s < 2 ^ wN N → cnt s.testBit 8 + 4 ≤ 2 * n → R_X5_cheapestPairs n h (nI s) (nI p) = some (nI (en 100000000 (mt N n s)))
  | 0, p, s, _, _, hc => by omega
  | n + 1, p, s, hp, hs, hc => by
    have hn := hN9.1
    have h256 : s < 256 := Nat.lt_of_lt_of_le hs (Nat.pow_le_pow_right (n := 2) (by omega) hn)
    show F_X5_cheapestPairs (R_X5_cheapestPairs n) h (nI s) (nI p) = _
    unfold F_X5_cheapestPairs
    by_cases q : s = 0
    · subst q
      rw [if_neg (fun z => z rfl)]
      rfl
    · obtain ⟨l1, l2, l3⟩ := lw_ok h256 q
      have em : mt N (n + 1) s = mf (mt N n) N s (lw s) 8 := if_neg q
      have c3 := bit_3 s h256 _ l1 l2
      have hsi : ∀ x, s - x < 256 := fun x => Nat.lt_of_le_of_lt (Nat.sub_le _ _) h256
      have hsw : ∀ x y, s - x - y < 2 ^ wN N := fun x y => Nat.lt_of_le_of_lt (Nat.le_trans (Nat.sub_le _ _) (Nat.sub_le _ _)) hs
      have hi : lw s < wN N := by
        rcases Nat.lt_or_ge (lw s) (wN N) with z | z
        · exact z
        · rw [bit_hi hs z] at l2; cases l2
      rw [if_pos (nI_ne0 (by omega) (by omega)), c_low h256 q, Option.bind_some, bit_2 s h256 _ l1, if_pos l2, em, nI_1]
      generalize lw s = i at *
      have hmt : ∀ s v, mt N n s = some v → v ≤ 14850 := fun s v hv => by
        have := mt_le hN9 n s v hv
        omega
      have b6 : ∀ k v, mf (mt N n) N s i k = some v → v ≤ 100000000 := fun k v hv => by
        have := mf_le hN9 hmt k v hv
        omega
      have b7 : ∀ k, en 100000000 (mf (mt N n) N s i k) ≤ 100000000 := fun k => en_le (b6 k) (Nat.le_refl _)
      refine loop_to (fun k => (nI (en 100000000 (mf (mt N n) N s i (i + 1 + k))), nI (i + 1 + k))) (8 - (i + 1)) ?_ (fun k hk => ?_) ?_
      · rw [mf_low (by omega), nI_1]
        rfl
      · dsimp only
        have hj : i + 1 + k < 8 := by omega
        generalize ej : i + 1 + k = jj at hj ⊢
        rw [show i + 1 + (k + 1) = jj + 1 by omega]
        have e5 : mf (mt N n) N s i (jj + 1) = if i < jj ∧ s.testBit jj = true then om (mf (mt N n) N s i jj) (oa (om (wDst N i jj) (wDst N jj i)) (mt N n (s - 2 ^ i - 2 ^ jj))) else mf (mt N n) N s i jj := rfl
        have hbit := bit_4 h256 l1 hj l2 (show jj ≠ i by omega)
        rw [if_neg (show ¬ (8 : Int32) ≤ nI jj from nI_ge (b := 8) hj (by omega)), if_neg (show ¬ (4 : Int32) ≤ nI p from nI_ge (b := 4) (by omega) (by omega)), bit_1 _ (hsi _) _ hj, hbit, e5]
        by_cases z : s.testBit jj = true
        · have hjn : jj < wN N := by
            rcases Nat.lt_or_ge jj (wN N) with y | y
            · exact y
            · rw [bit_hi hs y] at z; cases z
          have c4 := bit_3 (s - 2 ^ i) (hsi _) jj hj (by rw [hbit]; exact z)
          have rc := c_pairs hN9 ca n (p + 1) (s - 2 ^ i - 2 ^ jj) (by omega) (hsw _ _) (by omega)
          rw [if_pos z, if_neg (by decide), bit_2 _ (hsi _) _ hj, if_pos (by rw [hbit]; exact z), rc, Option.bind_some, if_pos (show i < jj ∧ s.testBit jj = true from ⟨by omega, z⟩)]
          have d1 : F_X7_at 64 h 25 (nI jj * (8 : Int32) + nI i) = nI (en 100000000 (wDst N jj i)) := by
            rw [i8, nI_mul, nI_add, at_in (by omega) (by omega)]
            exact ca.2.1.2.2 jj i hjn hi
          have d2 : F_X7_at 64 h 25 (nI i * (8 : Int32) + nI jj) = nI (en 100000000 (wDst N i jj)) := by
            rw [i8, nI_mul, nI_add, at_in (by omega) (by omega)]
            exact ca.2.1.2.2 i jj hi hjn
          have e1 : en 100000000 (wDst N jj i) ≤ 100000000 := en_le (fun v hv => wDst_le hN9 hv) (by omega)
          have e2 : en 100000000 (wDst N i jj) ≤ 100000000 := en_le (fun v hv => wDst_le hN9 hv) (by omega)
          have dd : ∀ v, om (wDst N i jj) (wDst N jj i) = some v → v ≤ 2970 := om_bnd (fun v hv => wDst_le hN9 hv) (fun v hv => wDst_le hN9 hv)
          have e3 : en 100000000 (om (wDst N i jj) (wDst N jj i)) ≤ 100000000 := en_le dd (by omega)
          have e4 : en 100000000 (mt N n (s - 2 ^ i - 2 ^ jj)) ≤ 100000000 := en_le (hmt _) (by omega)
          have b8 := b7 jj
          rw [d1, d2, min_I (by omega) (by omega), en_om (fun v hv => by have := wDst_le hN9 hv; omega) (fun v hv => by have := wDst_le hN9 hv; omega), nI_add, min_I (by omega) (by omega), en_oa (b6 jj) (fun v hv => by have := oa_bnd dd (hmt _) v hv; omega), nI_1]
        · rw [if_neg z, if_pos rfl, if_neg (fun y => z y.2), nI_1]
      · dsimp only
        rw [show i + 1 + (8 - (i + 1)) = 8 by omega, if_pos (show (8 : Int32) ≤ nI 8 from Int32.le_refl _)]
theorem odd_lt (hN9 : WN N) : ∀ e, e ≤ wE N → odd N e < 2 ^ wN N
  | 0, _ => Nat.pow_pos (by omega)
  | e + 1, he => by
    have ih := odd_lt hN9 e (by omega)
    have t1 := (hN9.2.2.2.2.1 (2 * e) (by omega)).1
    have t2 := (hN9.2.2.2.2.1 (2 * e + 1) (by omega)).1
    show (if 0 < wDe N e then (odd N e ^^^ 2 ^ wTl N (2 * e)) ^^^ 2 ^ wTl N (2 * e + 1) else odd N e) < _
    split
    · exact Nat.xor_lt_two_pow (Nat.xor_lt_two_pow ih (Nat.pow_lt_pow_right (by omega) t1)) (Nat.pow_lt_pow_right (by omega) t2)
    · exact ih
theorem c_odd (hN9 : WN N) (ca : CA h N P) : F_X2_oddSet h = some (nI (odd N (wE N))) := by
  have hE := hN9.2.2.1
  have hn := hN9.1
  unfold F_X2_oddSet
  refine loop_to (fun e => (nI (odd N e), nI e)) (wE N) rfl (fun e he => ?_) ?_
  · dsimp only
    have h256 : odd N e < 256 := Nat.lt_of_lt_of_le (odd_lt hN9 e (by omega)) (Nat.pow_le_pow_right (n := 2) (by omega) hn)
    have t1 := (hN9.2.2.2.2.1 (2 * e) (by omega)).1
    have t2 := (hN9.2.2.2.2.1 (2 * e + 1) (by omega)).1
    have hh : wHd N (2 * e) = wTl N (2 * e + 1) := by unfold wHd wFl; rw [if_pos (by omega)]
    have hde := hN9.2.2.2.2.2.1 e he
    have e5 : odd N (e + 1) = if 0 < wDe N e then (odd N e ^^^ 2 ^ wTl N (2 * e)) ^^^ 2 ^ wTl N (2 * e + 1) else odd N e := rfl
    rw [ca.1.2.2.1, if_neg (nI_ge he (by omega)), c_demand hN9 ca.1 he, e5, nI_1]
    by_cases z : 0 < wDe N e
    · obtain ⟨b1, b2⟩ := bit_5 _ h256 (wTl N (2 * e)) (by omega)
      obtain ⟨b3, b4⟩ := bit_5 _ b2 (wTl N (2 * e + 1)) (by omega)
      rw [if_neg (nI_nle z (by omega)), if_pos z, i2, nI_mul, c_start hN9 ca.1 (by omega), c_end hN9 ca.1 (by omega), hh, b1, b3]
    · rw [show wDe N e = 0 by omega, if_pos (show nI 0 ≤ 0 from Int32.le_refl _), if_neg (by omega)]
  · dsimp only
    rw [ca.1.2.2.1, if_pos (nI_le (Nat.le_refl _) (by omega))]
def wMat (N : NT) : Option Nat := mt N 6 (odd N (wE N))
theorem c_match (hN9 : WN N) (ca : CA h N P) : F_X7_matching h = some (eA (wMat N)) := by
  unfold F_X7_matching
  have hs := odd_lt hN9 (wE N) (Nat.le_refl _)
  have h1 := c_pairs hN9 ca 6 0 (odd N (wE N)) rfl hs (by have := cnt_le (odd N (wE N)).testBit 8; omega)
  rw [c_odd hN9 ca, Option.bind_some, show R_X5_cheapestPairs 6 h (nI (odd N (wE N))) (0 : Int32) = _ from h1, Option.bind_some, none_en (fun v hv => by have := mt_le hN9 _ _ _ hv; omega)]
  rfl
end MTC
