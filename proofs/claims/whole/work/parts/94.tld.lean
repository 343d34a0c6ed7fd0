section TLD
variable {h : PH} {N : NT} {P : PT} {H : HT}
/-- the reference's run from its start heap x to its end -/
theorem r_loaded {x r' : PH} {n : Nat} {res : Int32 × PH} (hx : F_X8_load x (nI n) = loop (fun (s3 : Int32 × PH) =>
    if (1556 : Int32) ≤ s3.1 then
     (F_X8_takeWord s3.2 1000).bind fun z4 =>
     jn (fun (v6 : PH) =>
      (F_X8_number v6 (2 : Int32) (8 : Int32)).bind fun z7 =>
      (ast 1556 z7.2 125 (0 : Int32) z7.1).bind fun h8 =>
      (F_X8_number h8 (1 : Int32) (999 : Int32)).bind fun z9 =>
      (ast 1556 z9.2 125 (1 : Int32) z9.1).bind fun h10 =>
      (F_X8_expect h10 (59 : Int32)).bind fun h11 => loop (Bq Xq) h11) (fun k5 =>
      if ¬ z4.1 = 0 then
       k5 z4.2
      else
       k5 ((F_X8_report z4.2 (-2 : Int32) (z4.2.1 122 4))))
    else
     (ast 1556 s3.2 125 s3.1 (0 : Int32)).bind fun h21 =>
     some (.inl ((s3.1 + (1 : Int32)), h21))) ((0 : Int32), rS x n))
    (hr : ((F_X8_takeWord (zr (rS x n) 1556) 1000).bind fun z4 =>
     jn (fun (v6 : PH) =>
      (F_X8_number v6 (2 : Int32) (8 : Int32)).bind fun z7 =>
      (ast 1556 z7.2 125 (0 : Int32) z7.1).bind fun h8 =>
      (F_X8_number h8 (1 : Int32) (999 : Int32)).bind fun z9 =>
      (ast 1556 z9.2 125 (1 : Int32) z9.1).bind fun h10 =>
      (F_X8_expect h10 (59 : Int32)).bind fun h11 => loop (Bq Xq) h11) (fun k5 =>
      if ¬ z4.1 = 0 then
       k5 z4.2
      else
       k5 ((F_X8_report z4.2 (-2 : Int32) (z4.2.1 122 4))))) = (Xq r').bind (fun z => Sum.elim (fun s' => loop (Bq Xq) s') some z)) (hX : Xq r' = some (.inr (.inr res))) : F_X8_load x (nI n) = some res := by
  rw [hX, Option.bind_some] at hr
  have z0 : rS x n = zr (rS x n) 0 := by
    refine Prod.ext ?_ rfl
    funext i j
    show _ = if i = 125 ∧ j < 0 then (0 : Int32) else (rS x n).1 i j
    rw [if_neg (fun z => absurd z.2 (Nat.not_lt_zero _))]
  rw [hx]
  have key := loop_run (body := fun (s3 : Int32 × PH) =>
    if (1556 : Int32) ≤ s3.1 then
     (F_X8_takeWord s3.2 1000).bind fun z4 =>
     jn (fun (v6 : PH) =>
      (F_X8_number v6 (2 : Int32) (8 : Int32)).bind fun z7 =>
      (ast 1556 z7.2 125 (0 : Int32) z7.1).bind fun h8 =>
      (F_X8_number h8 (1 : Int32) (999 : Int32)).bind fun z9 =>
      (ast 1556 z9.2 125 (1 : Int32) z9.1).bind fun h10 =>
      (F_X8_expect h10 (59 : Int32)).bind fun h11 => loop (Bq Xq) h11) (fun k5 =>
      if ¬ z4.1 = 0 then
       k5 z4.2
      else
       k5 ((F_X8_report z4.2 (-2 : Int32) (z4.2.1 122 4))))
    else
     (ast 1556 s3.2 125 s3.1 (0 : Int32)).bind fun h21 =>
     some (.inl ((s3.1 + (1 : Int32)), h21))) (fun k => (nI k, zr (rS x n) k)) 1556 (fun k hk => by
      dsimp only
      rw [i1556, if_neg (nI_ge hk (by omega)), ast_in (by omega) hk, Option.bind_some, zr_s, nI_1])
  rw [z0, show (0 : Int32) = nI 0 from rfl]
  refine key.trans ?_
  rw [loop_eq]
  dsimp only
  rw [if_pos (show (1556 : Int32) ≤ nI 1556 from Int32.le_refl _)]
  exact (congrArg (fun y => Option.bind y _) hr).trans rfl
theorem turn_load {L : Nat} {xs : Nat → Int32} {T : Nat} {j a : Int32} {B : Int32 × PH → Option ((Int32 × PH) ⊕ Int32)} (ok : okS N P H) (hca : CA h N P) (hch : CH h N H) (hra : RA h N P) (hrh : RH h H) (htx : TX h T) (her : h.1 1 11 = h.1 122 7) (hs : scr L xs h)
    (hB : ∀ z, scr L xs z.2 → B z = (F_X8_load z.2 a).bind fun z28 => if (F_X8_thrown z28.2) = z.1 then if ¬ z.1 = 0 then some (.inl (j, z28.2)) else (ldl 1 z28.2 166 (0 : Int32)).bind fun z29 => if (lg_cmp z29 z28.1.toInt64) = 0 then some (.inl (j, z28.2)) else some (.inr ((0 : Int32))) else some (.inr ((0 : Int32)))) :
    ∃ h', (F_L_load h a).bind B = some (.inl (j, h')) ∧ LI h' ∧ scr L xs h' := by
  obtain ⟨x1, x2, x3, x4⟩ := htx
  rcases rng (n := T + 1) (by omega) a with ⟨n, hnT, rfl⟩ | q
  · have hn : n ≤ 700 := by omega
    have hb : ∀ i, (h.1 2 i &&& (255 : Int32)).toBitVec.toNat < 256 := fun i => (and255 _).1
    have hg : ∀ i, i < n → h.1 2 i &&& (255 : Int32) = nI (h.1 2 i &&& (255 : Int32)).toBitVec.toNat := fun i _ => (and255 _).2
    -- a start heap of the reference's
    have both : ∀ x : PH, x.1 123 = h.1 123 → ∃ c g' r', F_X6_readSetup h (nI n) = some (c, g') ∧ _ ∧ Fr (fun a => a = 1 ∨ (3 ≤ a ∧ a ≤ 12)) h g' ∧ g'.1 1 3 = nI 0 ∧ FZ (zr (rS x n) 1556) r' ∧ ((c = 0 ∧ g'.1 1 11 = (-1 : Int32) ∧ r'.1 122 5 = 0 ∧ r'.1 122 6 = (-1 : Int32) ∧ ∃ N', WN N' ∧ CN g' 3 N' ∧ RN r' 125 N' ∧ RS r' 125 N' ∧ RP r' 125 P0) ∨ (c ≠ 0 ∧ r'.1 122 5 = c ∧ r'.1 122 6 = g'.1 1 11)) := fun x hx => by
      obtain ⟨s0, s2, s3, s4, s5, s6, s14, s15, s12⟩ := rS_c (h := x) (n := n)
      exact read_both (X := Xq) (b := fun i => (h.1 2 i &&& (255 : Int32)).toBitVec.toNat) (g := h) (r := rS x n) hn hb hg (fun i hi => by rw [rS_o (by omega), hx, x4 i (by omega)]; exact (and255 _).2) s3 s4 s5 s6 s14 s15
    obtain ⟨c, g', r0, c1, -, c3, c4, -, c6⟩ := both h rfl
    have cag : CA g' N P := ⟨hca.1.fr c3 (fun i hi => by omega), hca.2.1.same (fun i h1 h2 => (c3 i (by omega)).1), hca.2.2.fr c3 (fun i hi => by omega)⟩
    have chg : CH g' N H := hch.up (fun i h1 h2 => (c3 i (by omega)).1)
    have ecl : F_X7_load h (nI n) = (if c = 0 then (F_X1_remember g' (1 : Int32)).bind fun h2 => (F_X5_explore (F_X2_copyFrom h2 14 3)).bind fun h3 => some (.inr ((((F_X3_clear h3).1 14 2), (F_X3_clear h3)))) else some (.inr (c, g'))) := by
      unfold F_X7_load
      rw [if_neg (nI_pos (by omega)), x2, if_pos (nI_le (by omega) (by omega)), c1, Option.bind_some]
    -- the class's end: value v, heap g2
    obtain ⟨v, g2, e1, f2⟩ : ∃ v g2, F_X7_load h (nI n) = some (.inr (v, g2)) ∧ Fr SC g' g2 := by
      rcases c6 with ⟨d1, d2, d3, d4, N', d5, d6, d7, d8, d9⟩ | ⟨d1, d2, d3⟩
      · obtain ⟨g2, e1, e2, e3, e4⟩ := c_loaded ok d5 cag chg d6
        exact ⟨nI (wE N'), g2, by rw [ecl, if_pos d1]; exact e1, e2⟩
      · exact ⟨c, g', by rw [ecl, if_neg d1], Fr.refl g'⟩
    -- written out
    obtain ⟨h2', w1, w2, w5⟩ : ∃ h2', ((asl 1 g2 166 (0 : Int32) v.toInt64).bind fun h2 => some (((0 : Int32), h2))) = some ((0 : Int32), h2') ∧ Fr (fun a => a = 166) g2 h2' ∧ h2'.2 166 0 = v.toInt64 :=
      ⟨pul g2 166 0 v.toInt64, by rw [show (0 : Int32) = nI 0 from rfl, asl_in (by omega) (by omega)]; rfl, Fr.pul rfl, by rw [pul_get, if_pos ⟨rfl, rfl⟩]⟩
    have el : F_L_load h (nI n) = some ((0 : Int32), h2') := by
      unfold F_L_load
      rw [e1, Option.bind_some, bs_r]
      exact w1
    -- what of h is left in h2'
    have keep : ∀ i, (i = 2 ∨ 122 ≤ i) → i ≠ 166 → h2'.1 i = h.1 i := fun i hi h6 => by rw [(w2 i h6).1, (f2 i (by unfold SC; omega)).1, (c3 i (by omega)).1]
    have keep1 : ∀ i, h2'.1 1 i = g'.1 1 i := fun i => by rw [(w2 1 (by omega)).1, (f2 1 (by unfold SC; omega)).1]
    have hs2 : scr L xs h2' := scr_of hs (keep 167 (by omega) (by omega)) (keep 168 (by omega) (by omega))
    -- the reference's run
    obtain ⟨c', g'', r', t1, t2, t3, t4, t5, t6⟩ := both h2' (keep 123 (by omega) (by omega))
    rw [c1] at t1
    obtain ⟨rfl, rfl⟩ : c = c' ∧ g' = g'' := by cases t1; exact ⟨rfl, rfl⟩
    have hx := F_X8_load_eq (h := h2') x1 (by omega : n ≤ T) (by rw [keep 122 (by omega) (by omega)]; exact x3)
    obtain ⟨s0, s2, s3, s4, s5, s6, s14, s15, s12⟩ := rS_c (h := h2') (n := n)
    have k122 : ∀ i, ¬ (i = 4 ∨ i = 5 ∨ i = 6 ∨ i = 13 ∨ i = 14 ∨ i = 15) → r'.1 122 i = (rS h2' n).1 122 i := fun i hi => by rw [t5.2 i hi, zr_o (by omega)]
    have kO : ∀ i, i ≠ 122 → i ≠ 125 → r'.1 i = h2'.1 i ∧ r'.2 i = h2'.2 i := fun i h1 h2 => ⟨by rw [(t5.1 i (by omega)).1, zr_o h2, rS_o h1], by rw [(t5.1 i (by omega)).2]; rfl⟩
    generalize hq : pu r' 122 7 (r'.1 122 6) = rq
    have q122 : ∀ i, i ≠ 7 → rq.1 122 i = r'.1 122 i := fun i hi => by rw [← hq, pu_get, if_neg (fun z => hi z.2)]
    have qO : ∀ i, i ≠ 122 → rq.1 i = r'.1 i := fun i hi => by rw [← hq, (pu_o _ 122 _ _ i hi).1]
    have q2 : rq.2 = r'.2 := by rw [← hq]; rfl
    have q7 : rq.1 122 7 = r'.1 122 6 := by rw [← hq, pu_get, if_pos ⟨rfl, rfl⟩]
    have raq : RA rq N P := ⟨hra.1.same (by rw [qO 124 (by omega), (kO 124 (by omega) (by omega)).1, keep 124 (by omega) (by omega)]), hra.2.1.cp (fun i _ => by rw [qO 124 (by omega), (kO 124 (by omega) (by omega)).1, keep 124 (by omega) (by omega)]), hra.2.2.1.same (fun i hi => by rw [qO _ (by omega), (kO _ (by omega) (by omega)).1, keep _ (by omega) (by omega)]) ok.1, hra.2.2.2.same (by rw [qO 124 (by omega), (kO 124 (by omega) (by omega)).1, keep 124 (by omega) (by omega)])⟩
    have rhq : RH rq H := hrh.up ok.2.2 (by rw [q122 12 (by omega), k122 12 (by omega), s12, keep 122 (by omega) (by omega)]) (fun i h1 h2 => by rw [qO i (by omega), (kO i (by omega) (by omega)).1, keep i (by omega) (by omega)])
    -- the two ends
    obtain ⟨rf, N2, P2, H2, ok2, ca2, ch2, y1, y2, y3, y4, y5, y6, y7⟩ : ∃ rf N2 P2 H2, okS N2 P2 H2 ∧ CA g2 N2 P2 ∧ CH g2 N2 H2 ∧ Xq r' = some (.inr (.inr (v, rf))) ∧ (∀ i, i < 122 ∨ i = 123 ∨ 166 ≤ i → rf.1 i = h2'.1 i ∧ rf.2 i = h2'.2 i) ∧ rf.1 122 0 = 0 ∧ rf.1 122 2 = 0 ∧ rf.1 122 7 = r'.1 122 6 ∧ RA rf N2 P2 ∧ RH rf H2 := by
      unfold Xq
      rw [hq]
      rcases t6 with ⟨d1, d2, d3, d4, N', d5, d6, d7, d8, d9⟩ | ⟨d1, d2, d3⟩
      · obtain ⟨gb, e1', e2', e3', e4'⟩ := c_loaded ok d5 cag chg d6
        have ee := e1
        rw [ecl, if_pos d1] at ee
        rw [ee] at e1'
        obtain ⟨rfl, rfl⟩ : v = nI (wE N') ∧ g2 = gb := by cases e1'; exact ⟨rfl, rfl⟩
        obtain ⟨h15, m1, m2, m3⟩ := r_remember (b := true) ok.1 ok.2.1 raq ok.2.2 rhq
        obtain ⟨h16, m4, m5, m6⟩ := r_copy (h := h15) (o := 125) (w := 124) (by omega)
        have e125 : h15.1 125 = r'.1 125 := by rw [(m2 125 (by unfold S128; omega)).1 (by omega), qO 125 (by omega)]
        have da : DA h16 124 N' P0 := DA.cp (h := r') (r := 125) ⟨d7, d8, d9⟩ d5 P0_WP.1 (fun i hi => by rw [m6 i hi, e125])
        obtain ⟨h17, m7, m8, m9⟩ := r_gaps d5 da.1
        have e17 : RN h17 124 N' := da.1.fr m8 (by unfold S137; omega)
        have hw2 : HW (hpush H N P true) := ok.2.2.push ok.1 ok.2.1
        have fo : ∀ i, ¬ (i = 124 ∨ (128 ≤ i ∧ i ≤ 164)) → h17.1 i = h15.1 i ∧ h17.2 i = h15.2 i := fun i hi => ⟨by rw [(m8 i (by unfold S137; omega)).1, (m5 i (by omega)).1], by rw [(m8 i (by unfold S137; omega)).2, (m5 i (by omega)).2]⟩
        rw [good_0 (by rw [q122 5 (by omega)]; exact d3), if_pos (show ¬ (1 : Int32) = 0 by decide), m1, Option.bind_some, m4, Option.bind_some, m7, Option.bind_some, r_edges e17, Option.bind_some]
        refine ⟨h17, N', P0, hpush H N P true, ⟨d5, P0_WP, hw2⟩, e3', e4', rfl, fun i hi => ⟨?_, ?_⟩, ?_, ?_, ?_, ⟨e17, da.2.1.cp (fun i _ => by rw [(m8 124 (by unfold S137; omega)).1]), m9, da.2.2.fr m8 (by unfold S137; omega)⟩, ?_⟩
        · rw [(fo i (by omega)).1, (m2 i (by unfold S128; omega)).1 (by omega), qO i (by omega), (kO i (by omega) (by omega)).1]
        · rw [(fo i (by omega)).2, (m2 i (by unfold S128; omega)).2.2, q2, (kO i (by omega) (by omega)).2]
        · rw [(fo 122 (by omega)).1, (m2 122 (by unfold S128; omega)).2.1 0 (by omega), q122 0 (by omega), k122 0 (by omega)]
          exact s0
        · rw [(fo 122 (by omega)).1, (m2 122 (by unfold S128; omega)).2.1 2 (by omega), q122 2 (by omega), k122 2 (by omega)]
          exact s2
        · rw [(fo 122 (by omega)).1, (m2 122 (by unfold S128; omega)).2.1 7 (by omega), q7]
        · refine m3.up hw2 (by rw [(fo 122 (by omega)).1]) (fun i h1 h2 => ?_)
          rw [(m8 i (by unfold S137; omega)).1, (m5 i (by omega)).1]
      · have ee := e1
        rw [ecl, if_neg d1] at ee
        obtain ⟨rfl, rfl⟩ : c = v ∧ g' = g2 := by cases ee; exact ⟨rfl, rfl⟩
        rw [good_1 (by rw [q122 5 (by omega), d2]; exact d1), if_neg (fun z => z rfl), q122 5 (by omega), d2]
        exact ⟨rq, N, P, H, ok, cag, chg, rfl, fun i hi => ⟨by rw [qO i (by omega), (kO i (by omega) (by omega)).1], by rw [q2, (kO i (by omega) (by omega)).2]⟩, by rw [q122 0 (by omega), k122 0 (by omega)]; exact s0, by rw [q122 2 (by omega), k122 2 (by omega)]; exact s2, q7, raq, rhq⟩
    have w3 : CA h2' N2 P2 := ⟨ca2.1.fr w2 (fun j hj => by omega), ca2.2.1.same (fun j h1 h2 => (w2 j (by omega)).1), ca2.2.2.fr w2 (fun j hj => by omega)⟩
    have w4 : CH h2' N2 H2 := ch2.up (fun a h1 h2 => (w2 a (by omega)).1)
    have er := r_loaded hx t2 y1
    rw [el, Option.bind_some, hB _ hs2, er, Option.bind_some]
    dsimp only
    rw [if_pos (show F_X8_thrown rf = 0 from y3), if_neg (fun z => z rfl), show (0 : Int32) = nI 0 from rfl, ldl_in (by omega) (by omega), Option.bind_some, (y2 166 (by omega)).2, w5]
    refine ⟨rf, if_pos (lg_self _), ⟨N2, P2, H2, 0, ok2, ⟨w3.1.same (fun i hi => (y2 _ (by omega)).1), w3.2.1.same (fun i h1 h2 => (y2 _ (by omega)).1), w3.2.2.same (fun i hi => (y2 _ (by omega)).1)⟩, w4.up (fun i h1 h2 => (y2 i (by omega)).1), y6, y7, ⟨by omega, by rw [(y2 1 (by omega)).1, keep1]; exact c4, by rw [y4]; rfl, fun i hi => absurd hi (Nat.not_lt_zero _)⟩, ?_⟩, scr_of hs2 (y2 167 (by omega)).1 (y2 168 (by omega)).1⟩
    rw [(y2 1 (by omega)).1, keep1, y5]
    rcases t6 with ⟨d1, d2, d3, d4, -⟩ | ⟨d1, d2, d3⟩
    · rw [d2, d4]
    · rw [d3]
  · have e1 : F_X7_load h a = some (.inl 0) := by
      unfold F_X7_load
      rw [x2]
      by_cases z : a < 0
      · rw [if_pos z]
      · rw [if_neg z, if_neg]
        rcases q with q | q
        · exact absurd q z
        · have e := zi_of a
          have hb := Int32.le_toInt a
          have hb2 := Int32.toInt_lt a
          intro z
          rw [e, nI_zi, zi_lt (by omega) (by omega)] at q
          rw [e, nI_zi, zi_le (by omega) (by omega)] at z
          omega
    have el : F_L_load h a = some ((1 : Int32), h) := by
      unfold F_L_load
      rw [e1, Option.bind_some, bs_l]
      rfl
    have ein : F_X8_in (pu h 122 0 (0 : Int32)) a (0 : Int32) ((pu h 122 0 (0 : Int32)).1 122 2) = 0 := by
      have := in_no (h := pu h 122 0 (0 : Int32)) (n := T + 1) (by omega) q
      rw [nI_pred] at this
      rw [pu_get, if_neg (by omega), x3]
      exact this
    have er : F_X8_load h a = some ((0 : Int32), pu (pu h 122 0 (0 : Int32)) 122 0 (1 : Int32)) := by
      unfold F_X8_load
      rw [show ∀ (f : Int32 → Option (Int32 × PH)), jn f (fun k1 => if ¬ (F_X8_in (pu h 122 0 (0 : Int32)) a (0 : Int32) ((pu h 122 0 (0 : Int32)).1 122 2)) = 0 then k1 ((0 : Int32)) else k1 ((1 : Int32))) = f 1 from fun f => by unfold jn; dsimp only; rw [ein]; rfl, fails_1 pu_0 (by decide)]
      rfl
    obtain ⟨w, h3, f1, f2, f3, f4, f5, -⟩ := r_thr (h := h) (c := 1) (w := 0) (v := 0) ok.1 ok.2.2 hra hrh (by decide)
    cases f1
    rw [el, Option.bind_some, hB _ hs, er, Option.bind_some]
    dsimp only
    rw [if_pos (show F_X8_thrown _ = 1 from f3), if_pos (show ¬ (1 : Int32) = 0 by decide)]
    refine ⟨_, rfl, ⟨N, P, H, T, ok, hca.FR f2, hch.FR f2, f4, f5, TX.FR ⟨x1, x2, x3, x4⟩ f2, ?_⟩, scr_of hs (f2.1 167 (by omega)).1 (f2.1 168 (by omega)).1⟩
    rw [(f2.1 1 (by omega)).1, f2.2 7 (by omega)]
    exact her
end TLD
