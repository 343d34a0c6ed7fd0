/-! BOTH READERS SIDE BY SIDE: g the class's heap, r the reference's -/
def FE (h h' : PH) : Prop := Fr (fun a => a = 1) h h' ∧ ∀ j, ¬ ((5 ≤ j ∧ j ≤ 8) ∨ j = 10 ∨ j = 11) → h'.1 1 j = h.1 1 j
/-- both good; the class's token is at p, the reference will see the same -/
def JT (b : Nat → Nat) (n : Nat) (g r : PH) (p : Nat) : Prop := CB b n g ∧ RB b n r ∧ TK b n g p ∧ (∃ q, r.1 122 4 = nI q ∧ q ≤ n ∧ sk b n q = sk b n p) ∧ g.1 1 10 = 0 ∧ r.1 122 5 = 0 ∧ g.1 1 11 = (-1 : Int32) ∧ r.1 122 6 = (-1 : Int32)
/-- both in the same error -/
def JB (b : Nat → Nat) (n : Nat) (g r : PH) : Prop := CB b n g ∧ RB b n r ∧ (∃ p, TK b n g p) ∧ g.1 1 10 ≠ 0 ∧ r.1 122 5 = g.1 1 10 ∧ r.1 122 6 = g.1 1 11
section PAI
variable {b : Nat → Nat} {n : Nat} {g r : PH}
theorem FE.refl (h : PH) : FE h h := ⟨Fr.refl h, fun _ _ => rfl⟩
theorem FE.trans {h h' h'' : PH} (f : FE h h') (g : FE h' h'') : FE h h'' := ⟨f.1.trans g.1, fun j hj => (g.2 j hj).trans (f.2 j hj)⟩
theorem FE.pu {h : PH} {j : Nat} {v : Int32} (hj : (5 ≤ j ∧ j ≤ 8) ∨ j = 10 ∨ j = 11) : FE h (pu h 1 j v) := ⟨Fr.pu rfl, fun i hi => by rw [pu_get, if_neg (fun z => hi (by omega))]⟩
theorem FT.FE {h h' : PH} (f : FT h h') : FE h h' := ⟨f.1, fun j hj => f.2 j (by omega)⟩
theorem CB.fe {h h' : PH} (c : CB b n h) (f : FE h h') : CB b n h' := ⟨by rw [f.2 4 (by omega)]; exact c.1, fun j hj => by rw [(f.1 2 (by omega)).1]; exact c.2 j hj⟩
theorem fail_0 {c : Int32} (h0 : g.1 1 10 = 0) : F_X6_fail g c = pu (pu g 1 10 c) 1 11 (g.1 1 5) := by
  unfold F_X6_fail
  rw [if_neg (fun z => z h0), pu_get g 1 10 c 1 5, if_neg (by omega)]
theorem fail_1 {c : Int32} (h0 : g.1 1 10 ≠ 0) : F_X6_fail g c = g := by
  unfold F_X6_fail
  rw [if_pos h0]
theorem rep_0 {c a : Int32} (h0 : r.1 122 5 = 0) : F_X8_report r c a = pu (pu r 122 5 c) 122 6 a := by
  unfold F_X8_report
  rw [if_pos h0]
theorem rep_1 {c a : Int32} (h0 : r.1 122 5 ≠ 0) : F_X8_report r c a = r := by
  unfold F_X8_report
  rw [if_neg h0]
theorem fail_FE {c : Int32} : FE g (F_X6_fail g c) := by
  by_cases z : g.1 1 10 = 0
  · rw [fail_0 z]
    exact (FE.pu (by omega)).trans (FE.pu (by omega))
  · rw [fail_1 z]
    exact FE.refl g
theorem rep_FX {c a : Int32} : FX r (F_X8_report r c a) := by
  by_cases z : r.1 122 5 = 0
  · rw [rep_0 z]
    exact (FX.pu (by omega)).trans (FX.pu (by omega))
  · rw [rep_1 z]
    exact FX.refl r
/-- the two readers fail at the same place -/
theorem j_fail {c : Int32} {p : Nat} {r' : PH} (hc : c ≠ 0) (J : JT b n g r p) (rb : RB b n r') (r5 : r'.1 122 5 = 0) : JB b n (F_X6_fail g c) (F_X8_report r' c (nI (sk b n p))) := by
  obtain ⟨j1, j2, j3, j4, j5, j6, j7, j8⟩ := J
  refine ⟨j1.fe fail_FE, rb.fx rep_FX, ⟨p, ?_⟩, ?_, ?_, ?_⟩
  · obtain ⟨t1, t2, t3, t4, t5⟩ := j3
    rw [fail_0 j5]
    refine ⟨t1, ?_, ?_, ?_, ?_⟩ <;> rw [pu_get, if_neg (by omega), pu_get, if_neg (by omega)] <;> assumption
  · rw [fail_0 j5, pu_get, if_neg (by omega), pu_get, if_pos ⟨rfl, rfl⟩]
    exact hc
  · rw [fail_0 j5, rep_0 r5, pu_get, if_neg (by omega), pu_get, if_pos ⟨rfl, rfl⟩, pu_get, if_neg (by omega), pu_get, if_pos ⟨rfl, rfl⟩]
  · rw [fail_0 j5, rep_0 r5, pu_get, if_pos ⟨rfl, rfl⟩, pu_get, if_pos ⟨rfl, rfl⟩]
    exact j3.2.1.symm
/-! in an error nothing happens any more -/
theorem JB.ft {g' : PH} (J : JB b n g r) (f : FT g g') (t : ∃ p, TK b n g' p) : JB b n g' r := by
  obtain ⟨j1, j2, j3, j4, j5, j6⟩ := J
  exact ⟨j1.ft f, j2, t, by rw [f.2 10 (by omega)]; exact j4, by rw [f.2 10 (by omega)]; exact j5, by rw [f.2 11 (by omega)]; exact j6⟩
theorem jb_next (hn : n ≤ 700) (hb : ∀ j, b j < 256) (J : JB b n g r) : ∃ g', F_X6_next g = some g' ∧ FE g g' ∧ JB b n g' r := by
  obtain ⟨p, t1, t2, t3, t4, t5⟩ := J.2.2.1
  have hq := sk_le (b := b) t1
  obtain ⟨g', e, f, t⟩ := c_next hn hb J.1 (te_ge (b := b) hq).2 t3
  exact ⟨g', e, f.FE, J.ft f ⟨_, t⟩⟩
theorem jb_number {lo hi : Int32} (hn : n ≤ 700) (hb : ∀ j, b j < 256) (J : JB b n g r) : ∃ v g', F_X6_takeNumber g lo hi = some (v, g') ∧ FE g g' ∧ JB b n g' r := by
  have h1 := J.2.2.2.1
  unfold F_X6_takeNumber
  rw [fail_1 h1, fail_1 h1]
  obtain ⟨g', e, f, t⟩ := jb_next hn hb J
  rw [e, Option.bind_some]
  split
  · split
    · exact ⟨_, g, rfl, FE.refl g, J⟩
    · split
      · exact ⟨_, g', rfl, f, t⟩
      · exact ⟨_, g, rfl, FE.refl g, J⟩
  · exact ⟨_, g, rfl, FE.refl g, J⟩
theorem jb_sign {c : Int32} (hn : n ≤ 700) (hb : ∀ j, b j < 256) (J : JB b n g r) : ∃ g', F_X6_takeSign g c = some g' ∧ FE g g' ∧ JB b n g' r := by
  have h1 := J.2.2.2.1
  unfold F_X6_takeSign
  rw [fail_1 h1]
  obtain ⟨g', e, f, t⟩ := jb_next hn hb J
  rw [e, Option.bind_some]
  split <;> exact ⟨g', rfl, f, t⟩
theorem jb_rnum {lo hi : Int32} (J : JB b n g r) : F_X8_number r lo hi = some (0, r) := by
  unfold F_X8_number
  rw [good_1 (by rw [J.2.2.2.2.1]; exact J.2.2.2.1), if_neg (fun z => z rfl)]
theorem jb_exp {c : Int32} (J : JB b n g r) : F_X8_expect r c = some r := by
  unfold F_X8_expect
  rw [good_1 (by rw [J.2.2.2.2.1]; exact J.2.2.2.1), if_neg (fun z => z rfl)]
theorem jb_r5 (J : JB b n g r) : r.1 122 5 ≠ 0 := by rw [J.2.2.2.2.1]; exact J.2.2.2.1
/-! a token taken -/
theorem j_go {p q : Nat} {r' : PH} (hn : n ≤ 700) (hb : ∀ j, b j < 256) (J : JT b n g r p) (f : FX r r') (q4 : r'.1 122 4 = nI q) (hq : q = te b n (sk b n p)) (f5 : r'.1 122 5 = 0) (f6 : r'.1 122 6 = r.1 122 6) : ∃ g', F_X6_next g = some g' ∧ FE g g' ∧ JT b n g' r' (te b n (sk b n p)) := by
  obtain ⟨j1, j2, j3, j4, j5, j6, j7, j8⟩ := J
  obtain ⟨t1, t2, t3, t4, t5⟩ := j3
  have hs := sk_le (b := b) t1
  have ht := te_ge (b := b) hs
  obtain ⟨g', e, ft, t⟩ := c_next hn hb j1 ht.2 t3
  exact ⟨g', e, ft.FE, j1.ft ft, j2.fx f, t, ⟨q, q4, by omega, by rw [hq]⟩, by rw [ft.2 10 (by omega)]; exact j5, f5, by rw [ft.2 11 (by omega)]; exact j7, by rw [f6]; exact j8⟩
theorem pred_lt {m v : Nat} (hm : m < 2 ^ 30) (hv : v < 2 ^ 30) : nI m - (1 : Int32) < nI v ↔ m ≤ v := by
  show nI m - zi 1 < nI v ↔ m ≤ v
  rw [nI_zi, nI_zi, zi_sub, zi_lt (by omega) (by omega)]
  omega
theorem le_pred {m v : Nat} (hm : m < 2 ^ 30) (hv : v < 2 ^ 30) : nI v ≤ nI m - (1 : Int32) ↔ v < m := by
  show nI v ≤ nI m - zi 1 ↔ v < m
  rw [nI_zi, nI_zi, zi_sub, zi_le (by omega) (by omega)]
  omega
/-- the reference's number -/
theorem r_numb {lo m q : Nat} (hn : n ≤ 700) (hb : ∀ j, b j < 256) (c : RB b n r) (h4 : r.1 122 4 = nI q) (hq : q ≤ n) (h5 : r.1 122 5 = 0) (hlo : lo ≤ 10000) (hm : m ≤ 10000) :
    (sk b n q < n ∧ isD (b (sk b n q)) = true → ∃ r0 r', F_X8_number r (nI lo) (nI m - (1 : Int32)) = some (nI (min 1000000 (nm b n (sk b n q) 0)), r') ∧ FX r r0 ∧ r0.1 122 5 = 0 ∧ r0.1 122 6 = r.1 122 6 ∧ r0.1 122 4 = nI (te b n (sk b n q)) ∧ r0.1 122 13 = nI (sk b n q) ∧ r' = if lo ≤ nm b n (sk b n q) 0 ∧ nm b n (sk b n q) 0 < m then r0 else F_X8_report r0 (-3 : Int32) (nI (sk b n q)))
    ∧ (¬ (sk b n q < n ∧ isD (b (sk b n q)) = true) → ∃ r0, F_X8_number r (nI lo) (nI m - (1 : Int32)) = some (0, F_X8_report r0 (-2 : Int32) (nI (sk b n q))) ∧ FX r r0 ∧ r0.1 122 5 = 0) := by
  obtain ⟨r1, e1, f1⟩ := r_next hn hb c h4 hq
  have hs := sk_le (b := b) hq
  unfold F_X8_number
  rw [good_0 h5, if_pos (by decide), e1, Option.bind_some]
  dsimp only
  rw [r_dig hb, Option.bind_some]
  generalize sk b n q = q0 at *
  have c1 := c.fx f1.FX
  have g5 : r1.1 122 5 = 0 := by rw [f1.2.2 5 (by omega)]; exact h5
  refine ⟨fun y => ?_, fun y => ?_⟩
  · rw [if_pos y, if_pos (show ¬ (1 : Int32) = 0 by decide), f1.2.1]
    have key : ∃ t : Int32 × PH, loop (fun (s3 : Int32 × PH) =>
    (F_X8_byteAt s3.2 (s3.2.1 122 4)).bind fun z4 =>
    (F_X8_isDigit s3.2 z4).bind fun z5 =>
    if z5 = 0 then
     if ¬ (F_X8_in s3.2 s3.1 (nI lo) (nI m - (1 : Int32))) = 0 then
      some (.inr ((s3.1, s3.2)))
     else
      some (.inr ((s3.1, (F_X8_report s3.2 (-3 : Int32) (s3.2.1 122 13)))))
    else
     (F_X8_byteAt s3.2 (s3.2.1 122 4)).bind fun z6 =>
     some (.inl ((F_X8_min s3.2 (1000000 : Int32) ((((10 : Int32) * s3.1) + z6) - (48 : Int32))), (pu s3.2 122 4 ((s3.2.1 122 4) + (1 : Int32)))))) ((0 : Int32), (pu r1 122 13 (nI q0))) = some t ∧ (t.1 = nI (min 1000000 (nm b n q0 0)) ∧ ∃ r0, FX r r0 ∧ r0.1 122 5 = 0 ∧ r0.1 122 6 = r.1 122 6 ∧ r0.1 122 4 = nI (te b n q0) ∧ r0.1 122 13 = nI q0 ∧ t.2 = if lo ≤ nm b n q0 0 ∧ nm b n q0 0 < m then r0 else F_X8_report r0 (-3 : Int32) (nI q0)) := by
      refine loop_ind0 (σ := Int32 × PH) (fun k s => q0 + k ≤ n ∧ s.2.1 122 4 = nI (q0 + k) ∧ FX r s.2 ∧ s.2.1 122 5 = 0 ∧ s.2.1 122 6 = r.1 122 6 ∧ s.2.1 122 13 = nI q0 ∧ rn b n isD q0 = rn b n isD (q0 + k) ∧ ∃ a, s.1 = nI (min 1000000 a) ∧ nm b n q0 0 = nm b n (q0 + k) a) _ (n - q0) ⟨hs, ?_, f1.FX.trans (FX.pu (by omega)), ?_, ?_, ?_, rfl, 0, rfl, rfl⟩ ?_
      · rw [pu_get, if_neg (by omega)]; exact f1.2.1
      · rw [pu_get, if_neg (by omega)]; exact g5
      · rw [pu_get, if_neg (by omega)]; exact f1.2.2 6 (by omega)
      · rw [pu_get, if_pos ⟨rfl, rfl⟩]
      · rintro k ⟨s1, s2⟩ ⟨i1, i2, i3, i4, i5, i6, i7, a, i8', i9⟩
        dsimp only at i2 i3 i4 i5 i6 i8' ⊢
        subst i8'
        have cs := c.fx i3
        rw [i2, r_byte hn cs i1, Option.bind_some, r_dig hb, Option.bind_some, Option.bind_some]
        by_cases z : q0 + k < n ∧ isD (b (q0 + k)) = true
        · right
          have hd := isD_iff.mp z.2
          have hbz : bz b n (q0 + k) = nI (b (q0 + k)) := if_pos z.1
          have ev : F_X8_min s2 (1000000 : Int32) ((((10 : Int32) * nI (min 1000000 a)) + bz b n (q0 + k)) - (48 : Int32)) = nI (min 1000000 (10 * a + (b (q0 + k) - 48))) := by
            have e1 : (((10 : Int32) * nI (min 1000000 a)) + bz b n (q0 + k)) - (48 : Int32) = nI (10 * min 1000000 a + b (q0 + k) - 48) := by
              rw [hbz, i10, nI_mul, nI_add]
              exact nI_sub (b := 48) (by omega)
            rw [e1, iK, r_min (by omega) (by omega)]
            congr 1
            omega
          rw [if_pos z, if_neg (show ¬ (1 : Int32) = 0 by decide), ev, nI_1]
          refine ⟨by omega, _, rfl, by omega, ?_, i3.trans (FX.pu (by omega)), ?_, ?_, ?_, ?_, 10 * a + (b (q0 + k) - 48), rfl, ?_⟩
          · dsimp only; rw [pu_get, if_pos ⟨rfl, rfl⟩]; rfl
          · dsimp only; rw [pu_get, if_neg (by omega)]; exact i4
          · dsimp only; rw [pu_get, if_neg (by omega)]; exact i5
          · dsimp only; rw [pu_get, if_neg (by omega)]; exact i6
          · rw [i7, rn_go z.1 z.2]; rfl
          · rw [i9, nm_go z.1 z.2]; rfl
        · left
          have st : rn b n isD (q0 + k) = q0 + k ∧ nm b n (q0 + k) a = a := by
            rcases Nat.lt_or_ge (q0 + k) n with x | x
            · have x2 : isD (b (q0 + k)) = false := Bool.eq_false_iff.mpr (fun w => z ⟨x, w⟩)
              exact ⟨rn_st x2, nm_st x2⟩
            · exact ⟨rn_end x, nm_end x⟩
          have ete : te b n q0 = q0 + k := by
            unfold te
            rw [if_pos y.1, if_pos y.2, i7, st.1]
          have enm : nm b n q0 0 = a := by rw [i9, st.2]
          rw [if_neg z, if_pos rfl, i6, enm, ete]
          have key2 : F_X8_in s2 (nI (min 1000000 a)) (nI lo) (nI m - (1 : Int32)) = if lo ≤ a ∧ a < m then 1 else 0 := by
            unfold F_X8_in
            by_cases x : lo ≤ a
            · rw [if_neg (show ¬ nI (min 1000000 a) < nI lo from nI_nlt (by omega) (by omega))]
              by_cases w : a < m
              · rw [if_neg (fun v => by have := (pred_lt (by omega) (by omega)).mp v; omega), if_pos ⟨x, w⟩]
              · rw [if_pos ((pred_lt (by omega) (by omega)).mpr (by omega)), if_neg (fun v => w v.2)]
            · rw [if_pos (show nI (min 1000000 a) < nI lo from nI_lt (by omega) (by omega)), if_neg (fun v => x v.1)]
          rw [key2]
          by_cases x : lo ≤ a ∧ a < m
          · rw [if_pos x, if_pos (show ¬ (1 : Int32) = 0 by decide)]
            exact ⟨_, rfl, rfl, s2, i3, i4, i5, i2, i6, (if_pos x).symm⟩
          · rw [if_neg x, if_neg (fun v => v rfl)]
            exact ⟨_, rfl, rfl, s2, i3, i4, i5, i2, i6, (if_neg x).symm⟩
    obtain ⟨⟨t1, t2⟩, k1, k2, r0, k3, k4, k5, k6, k7, k8⟩ := key
    dsimp only at k2 k8
    subst k2
    exact ⟨r0, t2, k1, k3, k4, k5, k6, k7, k8⟩
  · rw [if_neg y, if_neg (fun z => z rfl), f1.2.1]
    exact ⟨r1, rfl, f1.FX, g5⟩
end PAI
