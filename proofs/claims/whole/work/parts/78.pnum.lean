section PNU
variable {b : Nat → Nat} {n : Nat} {g r : PH}
theorem j_number {lo m p : Nat} (hn : n ≤ 700) (hb : ∀ j, b j < 256) (hlo : lo ≤ 10000) (hm : m ≤ 10000) (J : JT b n g r p) : ∃ v g' w r', F_X6_takeNumber g (nI lo) (nI m - (1 : Int32)) = some (v, g') ∧ F_X8_number r (nI lo) (nI m - (1 : Int32)) = some (w, r') ∧ FE g g' ∧ FX r r' ∧ ((∃ x, v = nI x ∧ w = nI x ∧ lo ≤ x ∧ x < m ∧ JT b n g' r' (te b n (sk b n p)) ∧ p < te b n (sk b n p) ∧ r'.1 122 13 = nI (sk b n p) ∧ g.1 1 7 = nI 256 ∧ g.1 1 8 = nI x) ∨ (JB b n g' r' ∧ ∀ x, lo ≤ x → x < m → ¬ (g.1 1 7 = nI 256 ∧ g.1 1 8 = nI x))) := by
  have J0 := J
  obtain ⟨j1, j2, j3, ⟨q, q1, q2, q3⟩, j5, j6, j7, j8⟩ := J
  obtain ⟨t1, t2, t3, t4, t5⟩ := j3
  obtain ⟨R1, R2⟩ := r_numb (lo := lo) (m := m) hn hb j2 q1 q2 j6 hlo hm
  rw [q3] at R1 R2
  have hk := kd_n (n := n) (q := sk b n p) hb
  have hk2 := kd_lt (n := n) (q := sk b n p) hb
  have hpq := sk_ge (b := b) (n := n) p
  unfold F_X6_takeNumber
  rw [t4, t5]
  by_cases y : sk b n p < n ∧ isD (b (sk b n p)) = true
  · obtain ⟨r0, r', e1, f1, r5, r6, r4, r13, er⟩ := R1 y
    have htg := te_gt (b := b) y.1
    have hv : vlc b n (sk b n p) = min 100000 (nm b n (sk b n p) 0) := if_pos y
    rw [hk.mpr y, if_pos (show nI 256 = (256 : Int32) from rfl), hv]
    by_cases x : lo ≤ nm b n (sk b n p) 0 ∧ nm b n (sk b n p) 0 < m
    · rw [if_pos x] at er
      subst er
      obtain ⟨g', e2, f2, J2⟩ := j_go hn hb J0 f1 r4 rfl r5 r6
      rw [if_neg (show ¬ nI (min 100000 (nm b n (sk b n p) 0)) < nI lo from nI_nlt (by omega) (by omega)), if_pos ((le_pred (by omega) (by omega)).mpr (by omega)), e2, Option.bind_some]
      refine ⟨_, g', _, r', rfl, e1, f2, f1, Or.inl ⟨nm b n (sk b n p) 0, ?_, ?_, x.1, x.2, J2, by omega, r13, rfl, ?_⟩⟩
      · rw [Nat.min_eq_right (by omega)]
      · rw [Nat.min_eq_right (by omega)]
      · rw [Nat.min_eq_right (by omega)]
    · rw [if_neg x] at er
      subst er
      have JJ := j_fail (c := (-3 : Int32)) (by decide) J0 (j2.fx f1) r5
      have no : ∀ z, lo ≤ z → z < m → ¬ (nI 256 = nI 256 ∧ nI (min 100000 (nm b n (sk b n p) 0)) = nI z) := fun z z1 z2 w => by
        have := (nI_eq (by omega) (by omega)).mp w.2
        omega
      have ec : (if nI (min 100000 (nm b n (sk b n p) 0)) < nI lo then some (nI lo, F_X6_fail g (-3 : Int32)) else if nI (min 100000 (nm b n (sk b n p) 0)) ≤ nI m - (1 : Int32) then (F_X6_next g).bind fun h1 => some ((nI (min 100000 (nm b n (sk b n p) 0))), h1) else some (nI lo, F_X6_fail g (-3 : Int32))) = some (nI lo, F_X6_fail g (-3 : Int32)) := by
        by_cases w : nm b n (sk b n p) 0 < lo
        · rw [if_pos (show nI (min 100000 (nm b n (sk b n p) 0)) < nI lo from nI_lt (by omega) (by omega))]
        · rw [if_neg (show ¬ nI (min 100000 (nm b n (sk b n p) 0)) < nI lo from nI_nlt (by omega) (by omega)), if_neg (fun v => by have := (le_pred (by omega) (by omega)).mp v; omega)]
      rw [ec]
      exact ⟨_, _, _, _, rfl, e1, fail_FE, f1.trans rep_FX, Or.inr ⟨JJ, no⟩⟩
  · obtain ⟨r0, e1, f1, r5⟩ := R2 y
    have JJ := j_fail (c := (-2 : Int32)) (by decide) J0 (j2.fx f1) r5
    have nk : ¬ nI (kd b n (sk b n p)) = nI 256 := fun w => y (hk.mp ((nI_eq (by omega) (by omega)).mp w))
    rw [if_neg (show ¬ nI (kd b n (sk b n p)) = (256 : Int32) from nk)]
    exact ⟨_, _, _, _, rfl, e1, fail_FE, f1.trans rep_FX, Or.inr ⟨JJ, fun z _ _ w => nk w.1⟩⟩
theorem j_sign {c p : Nat} (hn : n ≤ 700) (hb : ∀ j, b j < 256) (hc : c < 256) (h1 : isD c = false) (h2 : isL c = false) (J : JT b n g r p) : ∃ g' r', F_X6_takeSign g (nI c) = some g' ∧ F_X8_expect r (nI c) = some r' ∧ FE g g' ∧ FX r r' ∧ ((JT b n g' r' (te b n (sk b n p)) ∧ p < te b n (sk b n p)) ∨ JB b n g' r') := by
  have J0 := J
  obtain ⟨j1, j2, j3, ⟨q, q1, q2, q3⟩, j5, j6, j7, j8⟩ := J
  obtain ⟨t1, t2, t3, t4, t5⟩ := j3
  obtain ⟨r1, e1, f1⟩ := r_next hn hb j2 q1 q2
  rw [q3] at e1 f1
  have hk := kd_c (b := b) (n := n) (q := sk b n p) hc h1 h2
  have hk2 := kd_lt (n := n) (q := sk b n p) hb
  have hpq := sk_ge (b := b) (n := n) p
  have r5 : r1.1 122 5 = 0 := by rw [f1.2.2 5 (by omega)]; exact j6
  unfold F_X6_takeSign F_X8_expect
  rw [t4, good_0 j6, if_pos (show ¬ (1 : Int32) = 0 by decide), e1, Option.bind_some]
  dsimp only
  rw [f1.2.1]
  by_cases y : sk b n p < n ∧ b (sk b n p) = c
  · have ete : te b n (sk b n p) = sk b n p + 1 := by
      unfold te
      rw [if_pos y.1, y.2, if_neg (by rw [h1]; decide), if_neg (by rw [h2]; decide)]
    rw [if_pos (show nI (kd b n (sk b n p)) = nI c by rw [hk.mpr y]), if_neg (fun w => w ((bz_eq hb hc).mpr y)), nI_1]
    obtain ⟨g', e2, f2, J2⟩ := j_go (r' := pu r1 122 4 (nI (sk b n p + 1))) hn hb J0 (f1.FX.trans (FX.pu (by omega))) (by rw [pu_get, if_pos ⟨rfl, rfl⟩]) ete.symm (by rw [pu_get, if_neg (by omega)]; exact r5) (by rw [pu_get, if_neg (by omega)]; exact f1.2.2 6 (by omega))
    rw [e2, Option.bind_some]
    exact ⟨g', _, rfl, rfl, f2, f1.FX.trans (FX.pu (by omega)), Or.inl ⟨J2, by omega⟩⟩
  · have JJ := j_fail (c := (-2 : Int32)) (by decide) J0 (j2.fx f1.FX) r5
    obtain ⟨g', e2, f2, J2⟩ := jb_next hn hb JJ
    rw [if_neg (show ¬ nI (kd b n (sk b n p)) = nI c from fun w => y (hk.mp ((nI_eq (by omega) (by omega)).mp w))), if_pos (fun w => y ((bz_eq hb hc).mp w)), e2, Option.bind_some]
    exact ⟨g', _, rfl, rfl, fail_FE.trans f2, f1.FX.trans rep_FX, Or.inr J2⟩
/-! both, with an error or without -/
def Jo (b : Nat → Nat) (n : Nat) (g r : PH) : Option Nat → Prop
  | some p => JT b n g r p
  | none => JB b n g r
theorem Jo.base {o : Option Nat} (J : Jo b n g r o) : CB b n g ∧ RB b n r := by
  cases o with
  | none => exact ⟨J.1, J.2.1⟩
  | some p => exact ⟨J.1, J.2.1⟩
theorem jo_number {lo m : Nat} {o : Option Nat} {hi hi' : Int32} (hn : n ≤ 700) (hb : ∀ j, b j < 256) (hlo : lo ≤ 10000) (J : Jo b n g r o) (hh : o ≠ none → m ≤ 10000 ∧ hi = nI m - (1 : Int32) ∧ hi' = nI m - (1 : Int32)) : ∃ v g' w r' o', F_X6_takeNumber g (nI lo) hi = some (v, g') ∧ F_X8_number r (nI lo) hi' = some (w, r') ∧ FE g g' ∧ FX r r' ∧ Jo b n g' r' o' ∧ ∀ p', o' = some p' → ∃ p x, o = some p ∧ v = nI x ∧ w = nI x ∧ lo ≤ x ∧ x < m ∧ p < p' := by
  cases o with
  | none =>
    obtain ⟨v, g', e, f, J2⟩ := jb_number (lo := nI lo) (hi := hi) hn hb J
    exact ⟨v, g', 0, r, none, e, jb_rnum J, f, FX.refl r, J2, fun p' z => by cases z⟩
  | some p =>
    obtain ⟨hm, rfl, rfl⟩ := hh (fun z => by cases z)
    obtain ⟨v, g', w, r', e1, e2, f1, f2, J2⟩ := j_number hn hb hlo hm J
    rcases J2 with ⟨x, x1, x2, x3, x4, x5, x6, -⟩ | ⟨J2, -⟩
    · exact ⟨v, g', w, r', some _, e1, e2, f1, f2, x5, fun p' z => ⟨p, x, rfl, x1, x2, x3, x4, by cases z; exact x6⟩⟩
    · exact ⟨v, g', w, r', none, e1, e2, f1, f2, J2, fun p' z => by cases z⟩
theorem jo_sign {c : Nat} {o : Option Nat} (hn : n ≤ 700) (hb : ∀ j, b j < 256) (hc : c < 256) (h1 : isD c = false) (h2 : isL c = false) (J : Jo b n g r o) : ∃ g' r' o', F_X6_takeSign g (nI c) = some g' ∧ F_X8_expect r (nI c) = some r' ∧ FE g g' ∧ FX r r' ∧ Jo b n g' r' o' ∧ ∀ p', o' = some p' → ∃ p, o = some p ∧ p < p' := by
  cases o with
  | none =>
    obtain ⟨g', e, f, J2⟩ := jb_sign (c := nI c) hn hb J
    exact ⟨g', r, none, e, jb_exp J, f, FX.refl r, J2, fun p' z => by cases z⟩
  | some p =>
    obtain ⟨g', r', e1, e2, f1, f2, J2⟩ := j_sign hn hb hc h1 h2 J
    rcases J2 with ⟨J2, x⟩ | J2
    · exact ⟨g', r', some _, e1, e2, f1, f2, J2, fun p' z => ⟨p, rfl, by cases z; exact x⟩⟩
    · exact ⟨g', r', none, e1, e2, f1, f2, J2, fun p' z => by cases z⟩
/-- a word: the class looks at it, the reference takes it -/
theorem j_word {i p : Nat} (hn : n ≤ 700) (hb : ∀ j, b j < 256) (hi : i < 7) (J : JT b n g r p) : ∃ r', (FQ r r' (te b n (sk b n p)) ∧ WM b n i (sk b n p) ∧ F_X6_isWord g (1000 + i) = some (1 : Int32) ∧ F_X8_takeWord r (1000 + i) = some ((1 : Int32), r') ∧ sk b n p < n) ∨ (FQ r r' (sk b n p) ∧ ¬ WM b n i (sk b n p) ∧ F_X6_isWord g (1000 + i) = some (0 : Int32) ∧ F_X8_takeWord r (1000 + i) = some ((0 : Int32), r') ∧ JT b n g r' p) := by
  have J0 := J
  obtain ⟨j1, j2, j3, ⟨q, q1, q2, q3⟩, j5, j6, j7, j8⟩ := J
  obtain ⟨w1, w2⟩ := c_isWord hn hb j1 j3 hi
  obtain ⟨v1, v2⟩ := r_word hn hb j2 q1 q2 j6 hi
  rw [q3] at v1 v2
  by_cases z : WM b n i (sk b n p)
  · obtain ⟨r', e, f⟩ := v1 z
    obtain ⟨z1, -, z3⟩ := WM_tok hi z
    exact ⟨r', Or.inl ⟨by rw [z3]; exact f, z, w1 z, e, z1⟩⟩
  · obtain ⟨r', e, f⟩ := v2 z
    exact ⟨r', Or.inr ⟨f, z, w2 z, e, j1, j2.fx f.FX, j3, ⟨sk b n p, f.2.1, sk_le j3.1, sk_id p⟩, j5, by rw [f.2.2 5 (by omega)]; exact j6, j7, by rw [f.2.2 6 (by omega)]; exact j8⟩⟩
end PNU
