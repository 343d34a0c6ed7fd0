/-! RANDOM NUMBERS, RANDOM TREES -/
def RD (D : gDS) (rnd : Nat) : Prop := ∃ seed, tO D rnd 10 [.inl seed]
theorem RD.ext {W : Nat → Prop} {A B : gDS} {rnd : Nat} (h : RD A rnd) (x : gE W A B) (hw : ¬ W rnd) : RD B rnd := by
  obtain ⟨s, h1⟩ := h
  exact ⟨s, x.tO hw h1⟩
theorem RD.lt {D : gDS} {rnd : Nat} (h : RD D rnd) : rnd < D.1.length := by
  obtain ⟨s, h1⟩ := h
  exact tO_lt h1
theorem RD.kt {D : gDS} {rnd : Nat} (h : RD D rnd) : kt D rnd = 110 := by
  obtain ⟨s, h1⟩ := h
  exact h1.tg
theorem gMd.eq {D D' : gDS} (h : D'.2 = D.2) : gMd 0 0 D D' := ⟨by rw [h]; exact Nat.le_refl _, by rw [h]; exact Nat.le_refl _⟩
theorem shr16 (z : Int32) : ∃ n, n < 65536 ∧ (z.toUInt32 >>> ((16 : Int32).toUInt32 &&& Int32.toUInt32 31)).toInt32 = nI n := by
  have e : ((16 : Int32).toUInt32 &&& Int32.toUInt32 31) = 16 := by decide
  rw [e]
  refine ⟨(z.toUInt32 >>> 16).toNat, ?_, ?_⟩
  · rw [UInt32.toNat_shiftRight, show (16 : UInt32).toNat % 32 = 16 from rfl, Nat.shiftRight_eq_div_pow]
    have := z.toUInt32.toNat_lt
    omega
  · generalize z.toUInt32 >>> 16 = u
    apply Int32.toBitVec_inj.mp
    apply BitVec.eq_of_toNat_eq
    show u.toBitVec.toNat = (BitVec.ofNat 32 u.toNat).toNat
    rw [BitVec.toNat_ofNat]
    exact (Nat.mod_eq_of_lt u.toNat_lt).symm
theorem nz_I {a : Nat} (h : ¬ a = 0) (hb : a < 2 ^ 31) : ¬ nI a = (0 : Int32) := fun z => h ((nI_eq (b := 0) hb (by omega)).mp z)
theorem gRm_n {a b : Nat} (ha : a < 2 ^ 31) (hb : b < 2 ^ 31) (h0 : 0 < b) : gRm (nI a) (nI b) = some (nI (a % b)) := by
  unfold gRm
  rw [if_neg (fun z => by have := (nI_eq (b := 0) hb (by omega)).mp z; omega), nI_mod ha hb h0]
theorem g_below {D : gDS} {rnd bound : Nat} (hR : RD D rnd) (h0 : 0 < bound) (hb : bound < 2 ^ 31) : ∃ v D', F_X10_below D (rf rnd) (nI bound) = some (nI v, D') ∧ v < bound ∧ RD D' rnd ∧ gE (fun j => j = rnd) D D' ∧ D'.1.length = D.1.length ∧ D'.2 = D.2 := by
  obtain ⟨s, h1⟩ := hR
  have s1 : gFst D (rf rnd) 10 0 (.inl ((1103515245 : Int32) * s + (12345 : Int32))) = some (gSet D rnd (.inl (10, [.inl ((1103515245 : Int32) * s + (12345 : Int32))]))) := gFst_t h1 (b := 0) (by show 0 < 1; omega)
  have o1 : tO (gSet D rnd (.inl (10, [.inl ((1103515245 : Int32) * s + (12345 : Int32))]))) rnd 10 [.inl ((1103515245 : Int32) * s + (12345 : Int32))] := gSet_at (tO_lt h1)
  obtain ⟨n, hn, he⟩ := shr16 ((1103515245 : Int32) * s + (12345 : Int32))
  refine ⟨n % bound, _, ?_, Nat.mod_lt _ h0, ⟨_, o1⟩, gSet_E (Or.inl rfl), gSet_len, rfl⟩
  unfold F_X10_below
  rw [gRv_t h1, Option.bind_some, gFi_t h1 (b := 0) rfl, Option.bind_some, s1, Option.bind_some, gFi_t o1 (b := 0) rfl, Option.bind_some, he, gRm_n (by omega) hb h0, Option.bind_some]
/-- a tree whose nodes were made at m or behind -/
def GTY (D : gDS) (m : Nat) : Nat → gRF → List Stq → (Nat → List Itm) → Prop
  | 0, _, _, _ => False
  | n + 1, r, l, tx => ∃ (i k v : Nat) (a b : gRF), m ≤ i ∧ r = rf i ∧ tO D i 9 [.inl (nI k), .inl (nI v), .inr (.inr a), .inr (.inr b)] ∧ ((k ≤ 1 ∧ stOK (k, v) ∧ l = [(k, v)] ∧ ∀ q, tx q = [if k = 0 then (1, v) else (2, 5 + v)]) ∨ (2 ≤ k ∧ k ≤ 5 ∧ ∃ la lb ta tb, GTY D m n a la ta ∧ GTY D m n b lb tb ∧ l = la ++ (lb ++ [(k, 0)]) ∧ ∀ q, tx q = if owk k < q then (0, 40) :: (ta (owk k) ++ (opI k ++ (tb (owk k + 1) ++ [(0, 41)]))) else ta (owk k) ++ (opI k ++ tb (owk k + 1))))
theorem GTY.ext {W : Nat → Prop} {A B : gDS} {m : Nat} (x : gE W A B) (hw : ∀ i, i < A.1.length → W i → kt A i ≠ 109 ∨ i < m) : ∀ {n r l tx}, GTY A m n r l tx → GTY B m n r l tx
  | 0, _, _, _, h => h
  | n + 1, _, _, _, ⟨i, k, v, a, b, h0, h1, h2, h3⟩ => ⟨i, k, v, a, b, h0, h1, x.tO (fun q => by
    rcases hw i (tO_lt h2) q with y | y
    · exact y (tO.tg h2)
    · omega) h2, by
    rcases h3 with h3 | ⟨q1, q2, la, lb, ta, tb, q3, q4, q5⟩
    · exact Or.inl h3
    · exact Or.inr ⟨q1, q2, la, lb, ta, tb, GTY.ext x hw q3, GTY.ext x hw q4, q5⟩⟩
theorem GTY.lo {D : gDS} {m m' : Nat} (hm : m' ≤ m) : ∀ {n r l tx}, GTY D m n r l tx → GTY D m' n r l tx
  | 0, _, _, _, h => h
  | n + 1, _, _, _, ⟨i, k, v, a, b, h0, h1, h2, h3⟩ => ⟨i, k, v, a, b, Nat.le_trans hm h0, h1, h2, by
    rcases h3 with h3 | ⟨q1, q2, la, lb, ta, tb, q3, q4, q5⟩
    · exact Or.inl h3
    · exact Or.inr ⟨q1, q2, la, lb, ta, tb, GTY.lo hm q3, GTY.lo hm q4, q5⟩⟩
theorem GTY.GTX {D : gDS} {m : Nat} : ∀ {n r l tx}, GTY D m n r l tx → GTX D n r l tx
  | 0, _, _, _, h => h
  | n + 1, _, _, _, ⟨i, k, v, a, b, h0, h1, h2, h3⟩ => ⟨i, k, v, a, b, h1, h2, by
    rcases h3 with h3 | ⟨q1, q2, la, lb, ta, tb, q3, q4, q5⟩
    · exact Or.inl h3
    · exact Or.inr ⟨q1, q2, la, lb, ta, tb, GTY.GTX q3, GTY.GTX q4, q5⟩⟩
def knr : Nat → Nat
  | 0 => 1
  | p + 1 => 2 * knr p + 1
theorem knr_pos : ∀ p, 1 ≤ knr p
  | 0 => Nat.le_refl _
  | p + 1 => by
    show 1 ≤ 2 * knr p + 1
    omega
theorem ft9 {A : gDS} {i b : Nat} {vs : List gPV} {v : gPV} (h : tO A i 9 vs) (hb : b < vs.length) : ∃ B, gFst A (rf i) 9 b v = some B ∧ tO B i 9 (vs.set b v) ∧ gE (fun j => j = i) A B ∧ B.1.length = A.1.length ∧ B.2 = A.2 :=
  ⟨gSet A i (.inl (9, vs.set b v)), gFst_t h hb, gSet_at (tO_lt h), gSet_E (Or.inl rfl), gSet_len, rfl⟩
theorem x_random : ∀ (n : Nat) (D : gDS) (rnd p : Nat), RD D rnd → p + 1 ≤ n → p ≤ 2 → ∃ r D' l tx, R_X9_random n D (rf rnd) (nI p) = some (r, D') ∧ GTY D' D.1.length (p + 1) r l tx ∧ gE (fun j => j = rnd) D D' ∧ RD D' rnd ∧ gMd (knr p) (4 * knr p) D D'
  | 0, _, _, _, _, h, _ => by omega
  | n + 1, D, rnd, p, hR, hn, hp => by
    have hlt := hR.lt
    have x0 : gE noW D (gNwO D 9) := gNew_E
    have l0 : (gNwO D 9).1.length = D.1.length + 1 := gNew_len
    have m0 : gMd 1 4 D (gNwO D 9) := gNew_M
    have o0 : tO (gNwO D 9) D.1.length 9 [.inl 0, .inl 0, .inr (.inr none), .inr (.inr none)] := gNew_at
    have R0 := hR.ext x0 id
    show ∃ r D' l tx, F_X9_random (R_X9_random n) D (rf rnd) (nI p) = some (r, D') ∧ _
    unfold F_X9_random F_X9_init
    generalize gNwO D 9 = A at *
    rw [gTop_rf D, show (rf D.1.length).bind (fun q1 => some (())) = some () from rfl, Option.bind_some]
    -- the kind
    have kind : ∃ k B, (∀ K : Int32 × gDS → Option (gRF × gDS), jn K (fun k2 => if ¬ nI p = 0 then (F_X10_below A (rf rnd) (6 : Int32)).bind fun y18 => k2 (y18.1, y18.2) else (F_X10_below A (rf rnd) (2 : Int32)).bind fun y19 => k2 (y19.1, y19.2)) = K (nI k, B)) ∧ k < 6 ∧ (p = 0 → k < 2) ∧ RD B rnd ∧ gE (fun j => j = rnd) A B ∧ B.1.length = A.1.length ∧ B.2 = A.2 := by
      by_cases q : p = 0
      · obtain ⟨v, B, b1, b2, b3, b4, b5, b6⟩ := g_below R0 (show 0 < 2 by omega) (by omega)
        refine ⟨v, B, fun K => ?_, by omega, fun _ => b2, b3, b4, b5, b6⟩
        unfold jn
        dsimp only
        rw [q, if_neg (fun z => z rfl), show F_X10_below A (rf rnd) (2 : Int32) = _ from b1, Option.bind_some]
      · obtain ⟨v, B, b1, b2, b3, b4, b5, b6⟩ := g_below R0 (show 0 < 6 by omega) (by omega)
        refine ⟨v, B, fun K => ?_, b2, fun z => absurd z q, b3, b4, b5, b6⟩
        unfold jn
        dsimp only
        rw [if_pos (nz_I q (by omega)), show F_X10_below A (rf rnd) (6 : Int32) = _ from b1, Option.bind_some]
    obtain ⟨k, B, hk, k6, k0, RB, xB, lB, mB⟩ := kind
    have nr : ¬ D.1.length = rnd := by omega
    obtain ⟨B2, e1, e2, e3, e4, e5⟩ := ft9 (b := 0) (v := .inl (nI k)) (xB.tO nr o0) (by show 0 < 4; omega)
    have RB2 := RB.ext e3 (fun z => nr z.symm)
    -- the number
    have numb : ∃ v C, (∀ K : Int32 × gDS → Option (gRF × gDS), jn K (fun k6 => if ¬ nI k = 0 then (F_X10_below B2 (rf rnd) (2 : Int32)).bind fun y14 => k6 (y14.1, y14.2) else (F_X10_below B2 (rf rnd) (6 : Int32)).bind fun y15 => if ¬ y15.1 = 0 then (F_X10_below y15.2 (rf rnd) (9 : Int32)).bind fun y16 => k6 (y16.1, y16.2) else (F_X10_below y15.2 (rf rnd) (10000 : Int32)).bind fun y17 => k6 (y17.1, y17.2)) = K (nI v, C)) ∧ (k ≤ 1 → stOK (k, v)) ∧ RD C rnd ∧ gE (fun j => j = rnd) B2 C ∧ C.1.length = B2.1.length ∧ C.2 = B2.2 := by
      by_cases q : k = 0
      · obtain ⟨v, C, b1, b2, b3, b4, b5, b6⟩ := g_below RB2 (show 0 < 6 by omega) (by omega)
        by_cases z : v = 0
        · obtain ⟨w, E, c1, c2, c3, c4, c5, c6⟩ := g_below b3 (show 0 < 10000 by omega) (by omega)
          refine ⟨w, E, fun K => ?_, fun _ => ⟨by show k ≤ 5; omega, fun _ => by show w ≤ 9999; omega, fun y => by have y : k = 1 := y; omega⟩, c3, b4.tr c4, c5.trans b5, c6.trans b6⟩
          unfold jn
          dsimp only
          rw [q, if_neg (fun z => z rfl), show F_X10_below B2 (rf rnd) (6 : Int32) = _ from b1, Option.bind_some]
          dsimp only
          rw [z, if_neg (fun z => z rfl), show F_X10_below C (rf rnd) (10000 : Int32) = _ from c1, Option.bind_some]
        · obtain ⟨w, E, c1, c2, c3, c4, c5, c6⟩ := g_below b3 (show 0 < 9 by omega) (by omega)
          refine ⟨w, E, fun K => ?_, fun _ => ⟨by show k ≤ 5; omega, fun _ => by show w ≤ 9999; omega, fun y => by have y : k = 1 := y; omega⟩, c3, b4.tr c4, c5.trans b5, c6.trans b6⟩
          unfold jn
          dsimp only
          rw [q, if_neg (fun z => z rfl), show F_X10_below B2 (rf rnd) (6 : Int32) = _ from b1, Option.bind_some]
          dsimp only
          rw [if_pos (nz_I z (by omega)), show F_X10_below C (rf rnd) (9 : Int32) = _ from c1, Option.bind_some]
      · obtain ⟨w, E, c1, c2, c3, c4, c5, c6⟩ := g_below RB2 (show 0 < 2 by omega) (by omega)
        refine ⟨w, E, fun K => ?_, fun y => ⟨by show k ≤ 5; omega, fun y => absurd y q, fun _ => by show w ≤ 1; omega⟩, c3, c4, c5, c6⟩
        unfold jn
        dsimp only
        rw [if_pos (nz_I q (by omega)), show F_X10_below B2 (rf rnd) (2 : Int32) = _ from c1, Option.bind_some]
    obtain ⟨v, C, hv, hst, RC, xC, lC, mC⟩ := numb
    have e2 : tO B2 D.1.length 9 [.inl (nI k), .inl 0, .inr (.inr none), .inr (.inr none)] := e2
    obtain ⟨C2, f1, f2, f3, f4, f5⟩ := ft9 (b := 1) (v := .inl (nI v)) (xC.tO nr e2) (by show 1 < 4; omega)
    have f2 : tO C2 D.1.length 9 [.inl (nI k), .inl (nI v), .inr (.inr none), .inr (.inr none)] := f2
    have RC2 := RC.ext f3 (fun z => nr z.symm)
    have w1 : gE (fun j => j = rnd) D B := (x0.mono (fun _ _ z => absurd z id)).tr xB
    have onD : ∀ {X Y : gDS}, gE (fun j => j = rnd) D X → gE (fun j => j = D.1.length) X Y → gE (fun j => j = rnd) D Y := fun {X Y} a b => ⟨Nat.le_trans a.1 b.1, fun i hi hw => (b.2 i (Nat.lt_of_lt_of_le hi a.1) (by omega)).trans (a.2 i hi hw)⟩
    have w4 : gE (fun j => j = rnd) D C2 := onD ((onD w1 e3).tr xC) f3
    have m4 : gMd 1 4 D C2 := by
      have : C2.2 = A.2 := f5.trans (mC.trans (e5.trans mB))
      exact ⟨by rw [this]; exact m0.1, by rw [this]; exact m0.2⟩
    rw [hk]
    dsimp only
    rw [e1, Option.bind_some, gFi_t e2 (b := 0) rfl, Option.bind_some, hv]
    dsimp only
    rw [f1, Option.bind_some, gFi_t f2 (b := 0) rfl, Option.bind_some]
    have kp := knr_pos p
    by_cases q : k ≤ 1
    · rw [if_pos (show nI k ≤ (1 : Int32) from (nI_le' (a := k) (b := 1) (by omega) (by omega)).mpr q)]
      exact ⟨_, C2, [(k, v)], fun _ => [if k = 0 then (1, v) else (2, 5 + v)], rfl, ⟨D.1.length, k, v, none, none, Nat.le_refl _, rfl, f2, Or.inl ⟨q, hst q, rfl, fun _ => rfl⟩⟩, w4, RC2, m4.mono (by omega) (by omega)⟩
    · have hp0 : ¬ p = 0 := fun z => by
        have := k0 z
        omega
      obtain ⟨p', rfl⟩ : ∃ p', p = p' + 1 := ⟨p - 1, by omega⟩
      have n1 : ¬ nI k ≤ (1 : Int32) := fun z => by
        have := (nI_le' (a := k) (b := 1) (by omega) (by omega)).mp z
        omega
      have e9 : nI (p' + 1) - (1 : Int32) = nI p' := by rw [i1, nI_sub (by omega), Nat.add_sub_cancel]
      obtain ⟨ra, D10, la, ta, g1, g2, g3, g4, g5⟩ := x_random n C2 rnd p' RC2 (by omega) (by omega)
      have lC2 : C2.1.length = D.1.length + 1 := by omega
      have lg := g3.1
      obtain ⟨D11, h1, h2, h3, h4, h5⟩ := ft9 (b := 2) (v := .inr (.inr ra)) (g3.tO nr f2) (by show 2 < 4; omega)
      have h2 : tO D11 D.1.length 9 [.inl (nI k), .inl (nI v), .inr (.inr ra), .inr (.inr none)] := h2
      have R11 := g4.ext h3 (fun z => nr z.symm)
      obtain ⟨rb, D12, lb, tb, i1, i2, i3, i4, i5⟩ := x_random n D11 rnd p' R11 (by omega) (by omega)
      have li := i3.1
      obtain ⟨D13, j1, j2, j3, j4, j5⟩ := ft9 (b := 3) (v := .inr (.inr rb)) (i3.tO nr h2) (by show 3 < 4; omega)
      have j2 : tO D13 D.1.length 9 [.inl (nI k), .inl (nI v), .inr (.inr ra), .inr (.inr rb)] := j2
      have ya : GTY D13 D.1.length (p' + 1) ra la ta := by
        refine GTY.lo (m := C2.1.length) (by omega) ?_
        refine GTY.ext j3 (fun i hi z => Or.inr (by omega)) ?_
        refine GTY.ext i3 (fun i hi z => Or.inl (by rw [z, R11.kt]; omega)) ?_
        exact GTY.ext h3 (fun i hi z => Or.inr (by omega)) g2
      have yb : GTY D13 D.1.length (p' + 1) rb lb tb := by
        refine GTY.lo (m := D11.1.length) (by omega) ?_
        exact GTY.ext j3 (fun i hi z => Or.inr (by omega)) i2
      have ek : knr (p' + 1) = 2 * knr p' + 1 := rfl
      have m13 : gMd (knr (p' + 1)) (4 * knr (p' + 1)) D D13 := ((((m4.tr g5).tr (gMd.eq h5)).tr i5).tr (gMd.eq j5)).mono (by omega) (by omega)
      rw [if_neg n1, e9, g1, Option.bind_some, h1, Option.bind_some, i1, Option.bind_some, j1, Option.bind_some]
      exact ⟨_, D13, la ++ (lb ++ [(k, 0)]), fun q => if owk k < q then (0, 40) :: (ta (owk k) ++ (opI k ++ (tb (owk k + 1) ++ [(0, 41)]))) else ta (owk k) ++ (opI k ++ tb (owk k + 1)), rfl, ⟨D.1.length, k, v, ra, rb, Nat.le_refl _, rfl, j2, Or.inr ⟨by omega, by omega, la, lb, ta, tb, ya, yb, rfl, fun _ => rfl⟩⟩, onD ((onD (w4.tr g3) h3).tr i3) j3, i4.ext j3 (fun z => nr z.symm), m13⟩
