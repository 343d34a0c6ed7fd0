/-- a formula's piece read by both, at nesting d, with at most K values below -/
def PF (b : Nat → Nat) (n d K : Nat) (Sc : PH → Int32 → Option PH) (Sr : PH → Option PH) : Prop :=
  (∀ g r l p e k, k ≤ K → JT b n g r (p + e) → FK g r l p k → r.1 122 14 = nI d → ∃ g' r', Sc g (nI d) = some g' ∧ Sr r = some r' ∧ GC g g' ∧ GR r r' ∧ ((∃ l' p', JT b n g' r' (p' + e) ∧ FK g' r' l' p' (k + 1) ∧ p < p' ∧ r'.1 122 14 = nI d) ∨ JB b n g' r')) ∧
  (∀ g r, JB b n g r → ∃ g', Sc g (nI d) = some g' ∧ GC g g' ∧ JB b n g' r)
/-- the reference's piece does nothing in an error -/
def RQ (Sr : PH → Option PH) : Prop := ∀ r, r.1 122 5 ≠ 0 → Sr r = some r
section FAC
variable {b : Nat → Nat} {n : Nat} {g r : PH}
theorem JT.rr {p : Nat} {r' : PH} (J : JT b n g r p) (e3 : ∀ j, j = 3 ∨ j = 4 ∨ j = 5 ∨ j = 6 → r'.1 122 j = r.1 122 j) (e4 : r'.1 123 = r.1 123) : JT b n g r' p := by
  unfold JT RB at J ⊢
  rw [e3 3 (by omega), e3 4 (by omega), e3 5 (by omega), e3 6 (by omega), e4]
  exact J
theorem JB.rr {r' : PH} (J : JB b n g r) (e3 : ∀ j, j = 3 ∨ j = 5 ∨ j = 6 → r'.1 122 j = r.1 122 j) (e4 : r'.1 123 = r.1 123) : JB b n g r' := by
  unfold JB RB at J ⊢
  rw [e3 3 (by omega), e3 5 (by omega), e3 6 (by omega), e4]
  exact J
theorem GR.p14 {v : Int32} : GR r (pu r 122 14 v) := ⟨Fr.pu (S := fun a => a = 122 ∨ a = 125) (Or.inl rfl), fun j hj => by rw [pu_get, if_neg (fun z => by omega)], fun j _ _ => by rw [pu_get, if_neg (by omega)]⟩
theorem GR.p4 {v : Int32} : GR r (pu r 122 4 v) := ⟨Fr.pu (S := fun a => a = 122 ∨ a = 125) (Or.inl rfl), fun j hj => by rw [pu_get, if_neg (fun z => by omega)], fun j _ _ => by rw [pu_get, if_neg (by omega)]⟩
theorem wm_no {i q : Nat} (hi : i < 7) (h : ¬ (q < n ∧ isL (b q) = true)) : ¬ WM b n i q := fun w => by
  obtain ⟨z1, -, -⟩ := WM_tok hi w
  have l1 := (wl_ok i hi).1
  have e0 := w.2.1 0 l1
  rw [Nat.add_zero] at e0
  exact h ⟨z1, by rw [e0]; exact (wc_ok i hi 0 l1).2.1⟩
theorem GR.of5 {r' : PH} (f : Fr (fun a => a = 125) r r') (h : ∀ j, j < 256 → j ≠ 6 → r'.1 125 j = r.1 125 j) : GR r r' := ⟨f.mono (fun i hi => Or.inr hi), fun j _ => by rw [(f 122 (by omega)).1], h⟩
theorem GC.of11 {g' : PH} (f : Fr (fun a => a = 10 ∨ a = 11) g g') : GC g g' := ⟨f.mono (fun i hi => Or.inr hi), fun j _ => by rw [(f 1 (by omega)).1]⟩
/-- a number, put down by both -/
theorem fac_num {l : List Stq} {p e k d : Nat} {r2 : PH} (hn : n ≤ 700) (hb : ∀ j, b j < 256) (hk : k < 11) (J : JT b n g r2 (p + e)) (F : FK g r2 l p k) (h14 : r2.1 122 14 = nI d) :
    ∃ g' r', ((F_X6_takeNumber g (0 : Int32) (9999 : Int32)).bind fun z6 => some ((F_X0_addOperand z6.2 z6.1))) = some g' ∧ ((F_X8_number r2 (0 : Int32) (9999 : Int32)).bind fun z11 => (F_X8_emit z11.2 (0 : Int32)).bind fun h9 => (F_X8_emit h9 z11.1).bind fun h10 => some (h10)) = some r' ∧ GC g g' ∧ GR r2 r' ∧ ((∃ l' p', JT b n g' r' (p' + e) ∧ FK g' r' l' p' (k + 1) ∧ p < p' ∧ r'.1 122 14 = nI d) ∨ JB b n g' r') := by
  obtain ⟨v, g1, w, r1, e1, e2, f1, f2, J2⟩ := j_number (lo := 0) (m := 10000) hn hb (by omega) (by omega) J
  rw [show F_X6_takeNumber g (0 : Int32) (9999 : Int32) = some (v, g1) from e1, show F_X8_number r2 (0 : Int32) (9999 : Int32) = some (w, r1) from e2, Option.bind_some, Option.bind_some]
  dsimp only
  rcases J2 with ⟨x, rfl, rfl, x3, x4, x5, x6, -⟩ | ⟨J2, -⟩
  · have r5 : r1.1 122 5 = 0 := x5.2.2.2.2.2.1
    have hq := sk_ge (b := b) (n := n) (p + e)
    obtain ⟨t, ht⟩ : ∃ t, te b n (sk b n (p + e)) = p + t + 1 + e := ⟨te b n (sk b n (p + e)) - (p + 1 + e), by omega⟩
    have hpn := x5.2.2.1.1
    rw [ht] at x5 hpn
    have F1 : FK g1 r1 l p k := F.mono (Nat.le_refl _) (f1.1 10 (by omega)).1 (f1.1 11 (by omega)).1 (f2.1 125 (by omega)).1
    obtain ⟨g', r', a1, a2, a3, a4, a5, a6⟩ := f_push (s := (0, x)) (p' := p + t + 1) F1 r5 (Nat.zero_le _) ⟨Nat.zero_le _, (fun _ => by show x ≤ 9999; omega), (fun z => by cases z)⟩ (by omega) (by omega) hk
    refine ⟨g', r', congrArg some a1, a2, f1.GC.trans (GC.of11 a3), f2.GR.trans (GR.of5 a4 a5), Or.inl ⟨_, _, x5.fr (a3 1 (by omega)).1 (a3 2 (by omega)).1 (a4 122 (by omega)).1 (a4 123 (by omega)).1, a6, by omega, ?_⟩⟩
    rw [(a4 122 (by omega)).1, f2.2 14 (by omega)]
    exact h14
  · have r5 := jb_r5 J2
    obtain ⟨g', a1, a3⟩ := c_addb (g := g1) (v := v)
    rw [r_emitb r5, Option.bind_some, r_emitb r5, Option.bind_some, a1]
    exact ⟨g', r1, rfl, rfl, f1.GC.trans (GC.of11 a3), f2.GR, Or.inr (J2.fr (a3 1 (by omega)).1 (a3 2 (by omega)).1 rfl rfl)⟩
/-- a name, put down by both -/
theorem fac_word {l : List Stq} {p e k d x : Nat} {r1 : PH} (hn : n ≤ 700) (hb : ∀ j, b j < 256) (hk : k < 11) (hx : x ≤ 1) (J : JT b n g r (p + e)) (F : FK g r l p k) (h14 : r.1 122 14 = nI d) (f : FQ r r1 (te b n (sk b n (p + e)))) (hlt : sk b n (p + e) < n) :
    ∃ g' r', (F_X6_next (F_X0_addOperand g (if x = 0 then nI 10000 else nI 10001))) = some g' ∧ ((F_X8_emit r1 (nI 1)).bind fun h9 => (F_X8_emit h9 (nI x)).bind fun h10 => some (h10)) = some r' ∧ GC g g' ∧ GR r r' ∧ ((∃ l' p', JT b n g' r' (p' + e) ∧ FK g' r' l' p' (k + 1) ∧ p < p' ∧ r'.1 122 14 = nI d) ∨ JB b n g' r') := by
  have htg := te_gt (b := b) hlt
  have hq := sk_ge (b := b) (n := n) (p + e)
  obtain ⟨t, ht⟩ : ∃ t, te b n (sk b n (p + e)) = p + t + 1 + e := ⟨te b n (sk b n (p + e)) - (p + 1 + e), by omega⟩
  have r5 : r1.1 122 5 = 0 := by rw [f.2.2 5 (by omega)]; exact J.2.2.2.2.2.1
  have F1 : FK g r1 l p k := F.mono (Nat.le_refl _) rfl rfl (f.1 125 (by omega)).1
  obtain ⟨g1, r', a1, a2, a3, a4, a5, a6⟩ := f_push (s := (1, x)) (p' := p + t + 1) F1 r5 (Nat.le_refl _) ⟨(by show (1 : Nat) ≤ 5; omega), (fun z => by cases z), (fun _ => hx)⟩ (by omega) (by omega) hk
  have J1 : JT b n g1 r (p + e) := J.fr (a3 1 (by omega)).1 (a3 2 (by omega)).1 rfl rfl
  obtain ⟨g', b1, b2, b3⟩ := j_go hn hb J1 f.FX f.2.1 rfl r5 (f.2.2 6 (by omega))
  have ea : F_X0_addOperand g (if x = 0 then nI 10000 else nI 10001) = g1 := a1
  rw [ea, b1]
  rw [ht] at b3
  refine ⟨g', r', rfl, a2, (GC.of11 a3).trans b2.GC, f.FX.GR.trans (GR.of5 a4 a5), Or.inl ⟨_, p + t + 1, b3.fr rfl rfl (a4 122 (by omega)).1 (a4 123 (by omega)).1, a6.mono (Nat.le_refl _) (b2.1 10 (by omega)).1 (b2.1 11 (by omega)).1 rfl, by omega, ?_⟩⟩
  rw [(a4 122 (by omega)).1, f.2.2 14 (by omega)]
  exact h14
theorem fac_ok {d : Nat} {Sc : PH → Int32 → Option PH} {Sr : PH → Option PH} (hn : n ≤ 700) (hb : ∀ j, b j < 256) (hd : d ≤ 4) (HS : d < 4 → PF b n (d + 1) (2 * (d + 1)) Sc Sr) (HB : RQ Sr) : PF b n d (2 * d + 2) (F_X6_readFactor Sc) (F_X8_factor Sr) := by
  refine ⟨fun g r l p e k hk J F h14 => ?_, fun g r J => ?_⟩
  · have J0 := J
    obtain ⟨j1, j2, j3, ⟨q, q1, q2, q3⟩, j5, j6, j7, j8⟩ := J
    have tk := j3
    obtain ⟨t1, t2, t3, t4, t5⟩ := j3
    obtain ⟨r1, e1, f1⟩ := r_next hn hb j2 q1 q2
    rw [q3] at e1 f1
    have r5 : r1.1 122 5 = 0 := by rw [f1.2.2 5 (by omega)]; exact j6
    have r14 : r1.1 122 14 = nI d := by rw [f1.2.2 14 (by omega)]; exact h14
    have J1 : JT b n g r1 (p + e) := ⟨j1, j2.fx f1.FX, tk, ⟨_, f1.2.1, sk_le t1, sk_id _⟩, j5, r5, j7, by rw [f1.2.2 6 (by omega)]; exact j8⟩
    have F1 : FK g r1 l p k := F.mono (Nat.le_refl _) rfl rfl (f1.1 125 (by omega)).1
    have hk40 := kd_c (b := b) (n := n) (q := sk b n (p + e)) (c := 40) (by omega) rfl rfl
    have hk2 := kd_lt (n := n) (q := sk b n (p + e)) hb
    have hpq := sk_ge (b := b) (n := n) (p + e)
    unfold F_X6_readFactor F_X8_factor
    rw [good_0 j6, if_pos (show ¬ (1 : Int32) = 0 by decide), e1, Option.bind_some]
    dsimp only
    by_cases y : sk b n (p + e) < n ∧ b (sk b n (p + e)) = 40
    · have nl : ¬ (sk b n (p + e) < n ∧ isL (b (sk b n (p + e))) = true) := fun z => by rw [y.2] at z; exact absurd z.2 (by decide)
      have ete : te b n (sk b n (p + e)) = sk b n (p + e) + 1 := by
        unfold te
        rw [if_pos y.1, y.2]
        rfl
      obtain ⟨c51, c52⟩ := c_isWord (i := 5) hn hb j1 tk (by omega)
      obtain ⟨c61, c62⟩ := c_isWord (i := 6) hn hb j1 tk (by omega)
      rw [show F_X6_isWord g 1005 = some 0 from c52 (wm_no (by omega) nl), Option.bind_some, if_pos rfl, show F_X6_isWord g 1006 = some 0 from c62 (wm_no (by omega) nl), Option.bind_some, if_pos rfl, t4, hk40.mpr y, if_pos (show nI 40 = (40 : Int32) from rfl), if_neg (show ¬ ¬ bz b n (sk b n (p + e)) = (40 : Int32) from fun w => w ((bz_eq (c := 40) hb (by omega)).mpr y))]
      unfold jn
      dsimp only
      rw [r14, f1.2.1]
      by_cases hd4 : d < 4
      · obtain ⟨P1, P2⟩ := HS hd4
        have e14 : (pu r1 122 4 (nI (sk b n (p + e)) + (1 : Int32))).1 122 14 = nI d := by rw [pu_get, if_neg (by omega)]; exact r14
        rw [if_pos (show nI d < (4 : Int32) from nI_lt (b := 4) hd4 (by omega)), if_pos (show ¬ nI d = (4 : Int32) from fun z => by have := (nI_eq (b := 4) (by omega) (by omega)).mp z; omega), e14, nI_1, nI_1]
        obtain ⟨g1, a1, a2, a3⟩ := j_go (r' := pu r1 122 4 (nI (sk b n (p + e) + 1))) hn hb J0 (f1.FX.trans (FX.pu (by omega))) (by rw [pu_get, if_pos ⟨rfl, rfl⟩]) ete.symm (by rw [pu_get, if_neg (by omega)]; exact r5) (by rw [pu_get, if_neg (by omega)]; exact f1.2.2 6 (by omega))
        generalize hr2 : pu (pu r1 122 4 (nI (sk b n (p + e) + 1))) 122 14 (nI (d + 1)) = r2
        have g2 : GR r r2 := by rw [← hr2]; exact f1.FX.GR.trans (GR.p4.trans GR.p14)
        have a3' : JT b n g1 r2 (te b n (sk b n (p + e))) := by
          refine a3.rr (fun j hj => ?_) ?_
          · rw [← hr2, pu_get, if_neg (fun z => by omega)]
          · rw [← hr2]
            exact (pu_o _ _ _ _ 123 (by omega)).1
        have h2 : r2.1 122 14 = nI (d + 1) := by rw [← hr2, pu_get, if_pos ⟨rfl, rfl⟩]
        have r125 : r2.1 125 = r1.1 125 := by rw [← hr2, (pu_o _ 122 _ _ 125 (by omega)).1, (pu_o _ 122 _ _ 125 (by omega)).1]
        clear hr2
        obtain ⟨t, ht⟩ : ∃ t, te b n (sk b n (p + e)) = p + t + 1 + e := ⟨te b n (sk b n (p + e)) - (p + 1 + e), by omega⟩
        rw [ht] at a3'
        have F2 : FK g1 r2 l (p + t + 1) k := F1.mono (by omega) (a2.1 10 (by omega)).1 (a2.1 11 (by omega)).1 r125
        obtain ⟨g3, r3, b1, b2, b3, b4, b5⟩ := P1 g1 r2 l (p + t + 1) e k (by omega) a3' F2 h2
        rw [a1, Option.bind_some, b1, Option.bind_some, b2, Option.bind_some]
        have Jx : ∃ o, Jo b n g3 r3 o ∧ ∀ p', o = some p' → ∃ l' p'', p' = p'' + e ∧ FK g3 r3 l' p'' (k + 1) ∧ p < p'' ∧ r3.1 122 14 = nI (d + 1) := by
          rcases b5 with ⟨l', p', c1, c2, c3, c4⟩ | c1
          · exact ⟨some (p' + e), c1, fun p2 z => ⟨l', p', by cases z; rfl, c2, by omega, c4⟩⟩
          · exact ⟨none, c1, fun p2 z => by cases z⟩
        obtain ⟨o, Jx, hx⟩ := Jx
        obtain ⟨g4, r4, o', d1, d2, d3, d4, d5, d6⟩ := jo_sign (c := 41) hn hb (by omega) rfl rfl Jx
        rw [show F_X6_takeSign g3 (41 : Int32) = some g4 from d1, Option.bind_some, show F_X8_expect r3 (41 : Int32) = some r4 from d2, Option.bind_some]
        refine ⟨g4, _, rfl, rfl, (a2.GC.trans b3).trans d3.GC, ((g2.trans b4).trans d4.GR).trans GR.p14, ?_⟩
        cases o' with
        | none => exact Or.inr (JB.rr d5 (fun j hj => by rw [pu_get, if_neg (fun z => by omega)]) rfl)
        | some p2 =>
          left
          obtain ⟨p1, z1, z2⟩ := d6 p2 rfl
          obtain ⟨l', p'', z3, z4, z5, z6⟩ := hx p1 z1
          refine ⟨l', p2 - e, ?_, z4.mono (by omega) (d3.1 10 (by omega)).1 (d3.1 11 (by omega)).1 ?_, by omega, ?_⟩
          · rw [show p2 - e + e = p2 by omega]
            exact JT.rr d5 (fun j hj => by rw [pu_get, if_neg (fun z => by omega)]) rfl
          · show (pu r4 122 14 _).1 125 = _
            rw [(pu_o _ _ _ _ 125 (by omega)).1, (d4.1 125 (by omega)).1]
          · rw [pu_get, if_pos ⟨rfl, rfl⟩, d4.2 14 (by omega), z6]
            exact nI_pred d
      · obtain rfl : d = 4 := by omega
        rw [if_neg (show ¬ nI 4 < (4 : Int32) from fun z => Int32.lt_irrefl z), if_neg (show ¬ ¬ nI 4 = (4 : Int32) from fun z => z rfl)]
        have JJ := j_fail (c := (-5 : Int32)) (by decide) J0 (j2.fx f1.FX) r5
        have n5 := jb_r5 JJ
        generalize hr3 : F_X8_report r1 (-5 : Int32) (nI (sk b n (p + e))) = r3 at *
        have g3 : GR r r3 := by rw [← hr3]; exact f1.FX.GR.trans rep_FX.GR
        clear hr3
        generalize hr4 : pu (pu r3 122 4 (r3.1 122 4 + (1 : Int32))) 122 14 ((pu r3 122 4 (r3.1 122 4 + (1 : Int32))).1 122 14 + (1 : Int32)) = r4
        have g4 : GR r r4 := by rw [← hr4]; exact g3.trans (GR.p4.trans GR.p14)
        have c3 : ∀ j, j ≠ 4 → j ≠ 14 → r4.1 122 j = r3.1 122 j := fun j h1 h2 => by rw [← hr4, pu_get, if_neg (fun z => h2 z.2), pu_get, if_neg (fun z => h1 z.2)]
        have c4 : r4.1 123 = r3.1 123 := by rw [← hr4, (pu_o _ 122 _ _ 123 (by omega)).1, (pu_o _ 122 _ _ 123 (by omega)).1]
        clear hr4
        have m5 : r4.1 122 5 ≠ 0 := by rw [c3 5 (by omega) (by omega)]; exact n5
        have J4 : JB b n (F_X6_fail g (-5 : Int32)) r4 := JJ.rr (fun j hj => c3 j (by omega) (by omega)) c4
        rw [HB r4 m5, Option.bind_some, jb_exp J4, Option.bind_some]
        exact ⟨_, _, rfl, rfl, fail_FE.GC, g4.trans GR.p14, Or.inr (J4.rr (fun j hj => by rw [pu_get, if_neg (fun z => by omega)]) rfl)⟩
    · rw [if_pos (show ¬ bz b n (sk b n (p + e)) = (40 : Int32) from fun w => y ((bz_eq (c := 40) hb (by omega)).mp w)), r_dig hb, Option.bind_some]
      have nk : ¬ g.1 1 7 = (40 : Int32) := fun w => by
        rw [t4] at w
        exact y (hk40.mp ((nI_eq (b := 40) (by omega) (by omega)).mp w))
      unfold jn
      dsimp only
      have m1 : ¬ (0 : Int32) ≤ (-1 : Int32) := by decide
      by_cases hdg : sk b n (p + e) < n ∧ isD (b (sk b n (p + e))) = true
      · have nl : ¬ (sk b n (p + e) < n ∧ isL (b (sk b n (p + e))) = true) := fun z => by
          have h1 := isD_iff.mp hdg.2
          have h2 := isL_iff.mp z.2
          omega
        obtain ⟨c51, c52⟩ := c_isWord (i := 5) hn hb j1 tk (by omega)
        obtain ⟨c61, c62⟩ := c_isWord (i := 6) hn hb j1 tk (by omega)
        rw [show F_X6_isWord g 1005 = some 0 from c52 (wm_no (by omega) nl), Option.bind_some, if_pos rfl, show F_X6_isWord g 1006 = some 0 from c62 (wm_no (by omega) nl), Option.bind_some, if_pos rfl, if_neg nk, if_pos hdg, if_neg (show ¬ (1 : Int32) = 0 by decide), if_neg m1]
        simp only [if_neg m1]
        obtain ⟨g', r', a1, a2, a3, a4, a5⟩ := fac_num hn hb (by omega) J1 F1 r14
        exact ⟨g', r', a1, a2, a3, f1.FX.GR.trans a4, a5⟩
      · rw [if_neg hdg, if_pos rfl]
        obtain ⟨r2, W5⟩ := j_word (i := 5) hn hb (by omega) J1
        rcases W5 with ⟨w1, w2, w3, w4, w5⟩ | ⟨w1, w2, w3, w4, J2⟩
        · rw [show F_X6_isWord g 1005 = some 1 from w3, Option.bind_some, if_neg (show ¬ (1 : Int32) = 0 by decide), show F_X8_takeWord r1 1005 = some (1, r2) from w4, Option.bind_some]
          dsimp only
          rw [if_neg (show ¬ (1 : Int32) = 0 by decide), if_pos (show (0 : Int32) ≤ 0 from Int32.le_refl _), if_pos (show (0 : Int32) ≤ 0 from Int32.le_refl _)]
          obtain ⟨g', r', a1, a2, a3, a4, a5⟩ := fac_word (x := 0) hn hb (by omega) (by omega) J1 F1 r14 w1 w5
          rw [show F_X6_next (F_X0_addOperand g (10000 : Int32)) = some g' from a1, Option.bind_some]
          exact ⟨g', r', rfl, a2, a3, f1.FX.GR.trans a4, a5⟩
        · have F2 : FK g r2 l p k := F1.mono (Nat.le_refl _) rfl rfl (w1.1 125 (by omega)).1
          have r24 : r2.1 122 14 = nI d := by rw [w1.2.2 14 (by omega)]; exact r14
          rw [show F_X6_isWord g 1005 = some 0 from w3, Option.bind_some, if_pos rfl, show F_X8_takeWord r1 1005 = some (0, r2) from w4, Option.bind_some]
          dsimp only
          rw [if_pos rfl]
          obtain ⟨r3, W6⟩ := j_word (i := 6) hn hb (by omega) J2
          rcases W6 with ⟨v1, v2, v3, v4, v5⟩ | ⟨v1, v2, v3, v4, J3⟩
          · rw [show F_X6_isWord g 1006 = some 1 from v3, Option.bind_some, if_neg (show ¬ (1 : Int32) = 0 by decide), show F_X8_takeWord r2 1006 = some (1, r3) from v4, Option.bind_some]
            dsimp only
            rw [if_neg (show ¬ (1 : Int32) = 0 by decide), if_pos (show (0 : Int32) ≤ 1 by decide), if_pos (show (0 : Int32) ≤ 1 by decide)]
            obtain ⟨g', r', a1, a2, a3, a4, a5⟩ := fac_word (x := 1) hn hb (by omega) (by omega) J2 F2 r24 v1 v5
            rw [show F_X6_next (F_X0_addOperand g (10001 : Int32)) = some g' from a1, Option.bind_some]
            exact ⟨g', r', rfl, a2, a3, (f1.FX.GR.trans w1.FX.GR).trans a4, a5⟩
          · have F3 : FK g r3 l p k := F2.mono (Nat.le_refl _) rfl rfl (v1.1 125 (by omega)).1
            have r34 : r3.1 122 14 = nI d := by rw [v1.2.2 14 (by omega)]; exact r24
            rw [show F_X6_isWord g 1006 = some 0 from v3, Option.bind_some, if_pos rfl, if_neg nk, show F_X8_takeWord r2 1006 = some (0, r3) from v4, Option.bind_some]
            dsimp only
            rw [if_pos rfl, if_neg m1]
            simp only [if_neg m1]
            obtain ⟨g', r', a1, a2, a3, a4, a5⟩ := fac_num hn hb (by omega) J3 F3 r34
            exact ⟨g', r', a1, a2, a3, ((f1.FX.GR.trans w1.FX.GR).trans v1.FX.GR).trans a4, a5⟩
  · unfold F_X6_readFactor
    obtain ⟨q, tk⟩ := J.2.2.1
    have isw : ∀ i, i < 7 → ∃ v, F_X6_isWord g (1000 + i) = some v := fun i hi => by
      obtain ⟨c1, c2⟩ := c_isWord (i := i) hn hb J.1 tk hi
      by_cases z : WM b n i (sk b n q)
      · exact ⟨_, c1 z⟩
      · exact ⟨_, c2 z⟩
    have addn : ∀ v, ∃ g', F_X6_next (F_X0_addOperand g v) = some g' ∧ GC g g' ∧ JB b n g' r := fun v => by
      obtain ⟨g1, a1, a2⟩ := c_addb (g := g) (v := v)
      obtain ⟨g', b1, b2, b3⟩ := jb_next hn hb (J.fr (a2 1 (by omega)).1 (a2 2 (by omega)).1 rfl rfl)
      exact ⟨g', by rw [a1]; exact b1, (GC.of11 a2).trans b2.GC, b3⟩
    obtain ⟨v5, e5⟩ := isw 5 (by omega)
    obtain ⟨v6, e6⟩ := isw 6 (by omega)
    rw [show F_X6_isWord g 1005 = some v5 from e5, Option.bind_some, show F_X6_isWord g 1006 = some v6 from e6, Option.bind_some]
    split
    · split
      · split
        · split
          · rename_i z1 z2 z3 z4
            have hd4 : d < 4 := by
              rcases Nat.lt_or_ge d 4 with w | w
              · exact w
              · exact absurd z4 (show ¬ nI d < (4 : Int32) from nI_nlt (b := 4) w (by omega))
            obtain ⟨P1, P2⟩ := HS hd4
            obtain ⟨g1, a1, a2, a3⟩ := jb_next hn hb J
            obtain ⟨g2, b1, b2, b3⟩ := P2 g1 r a3
            obtain ⟨g3, c1, c2, c3⟩ := jb_sign (c := (41 : Int32)) hn hb b3
            rw [a1, Option.bind_some, nI_1, b1, Option.bind_some, c1, Option.bind_some]
            exact ⟨g3, rfl, (a2.GC.trans b2).trans c2.GC, c3⟩
          · rw [fail_1 J.2.2.2.1]
            exact ⟨g, rfl, GC.refl g, J⟩
        · obtain ⟨v, g1, a1, a2, a3⟩ := jb_number (lo := (0 : Int32)) (hi := (9999 : Int32)) hn hb J
          rw [a1, Option.bind_some]
          obtain ⟨g2, b1, b2⟩ := c_addb (g := g1) (v := v)
          exact ⟨g2, congrArg some b1, a2.GC.trans (GC.of11 b2), a3.fr (b2 1 (by omega)).1 (b2 2 (by omega)).1 rfl rfl⟩
      · obtain ⟨g', a1, a2, a3⟩ := addn (10001 : Int32)
        rw [a1, Option.bind_some]
        exact ⟨g', rfl, a2, a3⟩
    · obtain ⟨g', a1, a2, a3⟩ := addn (10000 : Int32)
      rw [a1, Option.bind_some]
      exact ⟨g', rfl, a2, a3⟩
theorem fac_RQ {Sr : PH → Option PH} : RQ (F_X8_factor Sr) := fun r h => by
  unfold F_X8_factor
  rw [good_1 h, if_neg (fun z => z rfl)]
end FAC
