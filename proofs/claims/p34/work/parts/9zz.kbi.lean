/-! BUILD, IMPROVE, INSERT, IN LAW AND CLASS -/
theorem jn_d {α γ : Type} (K : α → Option γ) (f : (α → Option γ) → Option γ) : jn K f = f K := rfl
section KBI
variable {h : PH} {D : gDS} {rnd c : Nat} {N : NT} {svr : gRF} {e b d hh tt g : Nat} {P : PT} {H : HT}
theorem CST.rt (hS : CST D rnd c N svr e b d hh tt g P) : ¬ rnd = tt ∧ ¬ rnd = c := by
  obtain ⟨hV, hP, hne, hR⟩ := hS
  obtain ⟨ts, t1⟩ := hP.arr
  constructor
  · intro z
    have := hR.kt
    rw [z, t1.tg] at this
    omega
  · intro z
    have := hR.kt
    rw [z, (show kt D c = 108 from hV.1.tg)] at this
    omega
theorem k_build {τ : Type} (K : Int32 × Int32 × gST → Option τ) (hI : OPI h D rnd c N svr e b d hh tt g P H) : ∃ ic h' D', cs5 K (rf c) (rf rnd) D h 1 = K (1, ic, (h', D')) ∧ OPR h D rnd c N svr e b d hh tt g P H ic h' D' := by
  obtain ⟨ok, hl, ca, ch, hS, hE⟩ := id hI
  have hN := ok.1
  have hp := ok.2.1
  obtain ⟨v, D1, a1, a2, a3, a4, a5, a6⟩ := g_below hS.2.2.2 (show 0 < 2 by omega) (by omega)
  have S1 := hS.rnd_ a4 a3
  unfold cs5 jn
  dsimp only
  rw [show F_X10_below D (rf rnd) (2 : Int32) = _ from a1, Option.bind_some]
  dsimp only
  by_cases z : v = 0
  · obtain ⟨D2, b1, b2, b3, b4, b5⟩ := g_build hN hp S1.1 S1.2.1 S1.2.2.1 hE.2.1
    obtain ⟨h', c1, c2, c3, c4⟩ := l_build ok ca ch
    refine ⟨1, h', D2, ?_, (fB N P (wE N)).1, hpush H N P false, Or.inr ⟨rfl, rfl⟩, ⟨hN, (fB_WP hN hp _ (Nat.le_refl _)).1, ok.2.2.push hN hp⟩, ld_fB hN hp hl _ (Nat.le_refl _), c3, c4, Fr1 c2, ⟨hh, tt, ⟨b2, b3, S1.2.2.1, a3.ext b4 S1.rt.1⟩, Or.inl rfl⟩, (a4.mono (fun _ _ z => Or.inr (Or.inr z))).tr (b4.mono (fun _ _ z => Or.inr (Or.inl z))), ((gMd.eq a6).tr b5).mono (by omega) (by omega)⟩
    rw [if_neg (show ¬ ¬ nI v = 0 by rw [z]; exact fun y => y rfl), if_neg (show ¬ (1 : Int32) = 0 by decide), c1, Option.bind_some, b1, Option.bind_some]
    dsimp only
    rw [if_neg (fun y => y rfl)]
  · refine ⟨0, h, D1, ?_, OPR.no hI a4 a3 ((gMd.eq a6).mono (by omega) (by omega))⟩
    rw [if_pos (nz_I z (by omega)), if_pos rfl]
theorem k_impr {τ : Type} (K : Int32 × Int32 × gST → Option τ) (hI : OPI h D rnd c N svr e b d hh tt g P H) : ∃ ic h' D', cs6 K (rf c) (rf rnd) D h = K (1, ic, (h', D')) ∧ OPR h D rnd c N svr e b d hh tt g P H ic h' D' := by
  obtain ⟨ok, hl, ca, ch, hS, hE⟩ := id hI
  have hN := ok.1
  have hp := ok.2.1
  obtain ⟨m, D1, a1, a2, a3, a4, a5, a6⟩ := g_below hS.2.2.2 (show 0 < 3 by omega) (by omega)
  have S1 := hS.rnd_ a4 a3
  have S2 : CST (gBm D1 1) rnd c N svr e b d hh tt g P := S1.ext gBm_E
  have x2 : gE (fun j => j = rnd) D (gBm D1 1) := a4.tr gBm_E
  have m2 : gMd 1 6 D (gBm D1 1) := ((gMd.eq a6).tr gBm_M).mono (by omega) (by omega)
  unfold cs6 jn
  dsimp only
  rw [show F_X10_below D (rf rnd) (3 : Int32) = _ from a1, Option.bind_some]
  dsimp only
  rcases Nat.eq_zero_or_pos m with z | z
  · refine ⟨0, h, gBm D1 1, ?_, OPR.no hI x2 S2.2.2.2 (m2.mono (by omega) (by omega))⟩
    subst z
    rw [if_pos (show nI 0 ≤ 0 from Int32.le_refl _), l_impr_no, Option.bind_some, if_pos rfl]
    dsimp only
    rw [if_neg (fun y => y rfl)]
  · have one : ¬ (1 : Int32) = 0 := by decide
    obtain ⟨h', c1, c2, c3, c4⟩ := l_impr_ok ok ca ch (r := m) (by omega) (by omega)
    obtain ⟨D3, t2, b1, b2, b3, b4, b5, b6⟩ := g_improve (r := m) hN hp hE.2.1 S2.1 S2.2.1 (by omega)
    have hlt := S2.1.lt
    have hlen := x2.1
    have hne := S2.2.2.1
    refine ⟨1, h', D3, ?_, (impr N m P 0).1, hpush H N P false, Or.inr ⟨rfl, rfl⟩, ⟨hN, (impr_ok hN m hp).1, ok.2.2.push hN hp⟩, ld_impr hN m hp hl, c3, c4, Fr1 c2, ⟨hh, t2, ⟨b2, b3, ?_, S2.2.2.2.ext b5 S2.rt.2⟩, ?_⟩, (x2.mono (fun _ _ z => Or.inr (Or.inr z))).tr (b5.mono (fun _ _ z => Or.inl z)), (m2.tr b6).mono (by omega) (by omega)⟩
    · rw [if_neg (fun y => by have := (nI_le' (a := m) (b := 0) (by omega) (by omega)).mp y; omega), c1, Option.bind_some, if_neg one, b1, Option.bind_some]
      dsimp only
      rw [if_neg (fun y => y rfl)]
    · rcases b4 with y | y
      · rw [y]
        exact hne
      · exact ⟨by omega, by omega, by omega⟩
    · rcases b4 with y | y
      · exact Or.inl y
      · exact Or.inr (by omega)
set_option maxRecDepth 4000 in
theorem k_ins {τ : Type} (K : Int32 × Int32 × gST → Option τ) (hI : OPI h D rnd c N svr e b d hh tt g P H) {x : Nat} {at_ : gRF} {ie ex : Int32} (hA : ATP D N P x at_ ie ex) : ∃ ic h' D', cs7 K (rf c) (rf rnd) D h (nI x) ie = K (1, ic, (h', D')) ∧ OPR h D rnd c N svr e b d hh tt g P H ic h' D' := by
  obtain ⟨ok, hl, ca, ch, hS, hE⟩ := id hI
  have hN := ok.1
  have hp := ok.2.1
  have h4 := hp.1.1
  have hE14 := hN.2.2.1
  have hx14 : x ≤ 14 := by rcases hA with ⟨q, -⟩ | ⟨q, -⟩ <;> omega
  have one : ¬ (1 : Int32) = 0 := by decide
  obtain ⟨t, D1, a1, a2, a3, a4, a5, a6⟩ := g_below hS.2.2.2 (show 0 < pT P + 1 by omega) (by omega)
  have S1 := hS.rnd_ a4 a3
  have two : ∀ s, (2 : Int32) * nI x + nI s = nI (2 * x + s) := fun s => by rw [i2, nI_mul, nI_add]
  unfold cs7
  rw [gFr_t hS.1.1 (b := 7) rfl, Option.bind_some, hS.2.1.cnt, Option.bind_some, nI_1, a1, Option.bind_some]
  dsimp only
  rw [gFr_t S1.1.1 (b := 7) rfl, Option.bind_some, S1.2.1.cnt, Option.bind_some]
  by_cases htp : t < pT P
  · -- a tour
    have n1 : ¬ nI (pT P) ≤ nI t := fun y => by
      have := (nI_le' (by omega) (by omega)).mp y
      omega
    obtain ⟨w1, w2, w3⟩ := hp.1.2 t htp
    obtain ⟨i, g1, g2⟩ := S1.2.1.row htp h4
    obtain ⟨v, D2, b1, b2, b3, b4, b5, b6⟩ := g_below a3 (show 0 < 14 by omega) (by omega)
    have S2 := S1.rnd_ b4 b3
    obtain ⟨u, hu, hu2⟩ : ∃ u, (∀ K : Int32 → Option τ, jn K (fun k230 => if ¬ nI v = 0 then k230 ((1 : Int32)) else k230 ((2 : Int32))) = K (nI u)) ∧ 1 ≤ u ∧ u ≤ 2 := by
      by_cases z : v = 0
      · refine ⟨2, fun K => ?_, by omega⟩
        unfold jn
        dsimp only
        rw [z, if_neg (fun y => y rfl)]
        rfl
      · refine ⟨1, fun K => ?_, by omega⟩
        unfold jn
        dsimp only
        rw [if_pos (nz_I z (by omega))]
        rfl
    obtain ⟨k, D3, c1, c2, c3, c4, c5, c6⟩ := g_below b3 (show 0 < pL P t + u by omega) (by omega)
    have S3 := S2.rnd_ c4 c3
    obtain ⟨s, D4, d1, d2, d3, d4, d5, d6⟩ := g_below c3 (show 0 < 2 by omega) (by omega)
    have S4 := S3.rnd_ d4 d3
    have x4 : gE (fun j => j = rnd) D D4 := ((a4.tr b4).tr c4).tr d4
    have m4 : D4.2 = D.2 := d6.trans (c6.trans (b6.trans a6))
    have hx2 : (2 * x + s) / 2 = x := by omega
    have SB : CST (gBm D4 5) rnd c N svr e b d hh tt g P := S4.ext gBm_E
    have noR : OPR h D rnd c N svr e b d hh tt g P H 0 h (gBm D4 5) := OPR.no hI (x4.tr gBm_E) SB.2.2.2 (((gMd.eq m4).tr gBm_M).mono (by omega) (by omega))
    obtain ⟨i4, q1, q2⟩ := S4.2.1.row htp h4
    rw [jn_d]
    dsimp only
    rw [if_neg n1, jn_d]
    dsimp only
    rw [if_neg one, Option.bind_some, g1, Option.bind_some, gLen_t g2, rw8_len, Option.bind_some, show F_X10_below D1 (rf rnd) (14 : Int32) = _ from b1, Option.bind_some]
    dsimp only
    rw [hu, nI_add, c1, Option.bind_some]
    dsimp only
    rw [show F_X10_below D3 (rf rnd) (2 : Int32) = _ from d1, Option.bind_some]
    dsimp only
    rw [two, jn_d]
    dsimp only
    rw [if_neg one]
    rcases hA with ⟨hxE, -, rfl, -⟩ | ⟨hxE, rfl, -, -⟩
    · -- no edge
      have hF : F_L_insert h (nI t) (nI k) (nI (2 * x + s)) = some ((-2000000097 : Int32), h) := by
        rcases Nat.lt_or_ge (pL P t) k with z | z
        · exact l_ins_noK ok ca htp z (by omega)
        · exact l_ins_noX ok ca htp z (by omega) (by omega)
      refine ⟨0, h, gBm D4 5, ?_, noR⟩
      rw [if_pos rfl, jn_d]
      dsimp only
      rw [if_pos rfl, jn_d]
      dsimp only
      rw [if_pos rfl, jn_d]
      dsimp only
      rw [if_pos rfl, hF, Option.bind_some]
      dsimp only
      rw [if_neg (fun z => z rfl)]
    · rw [if_neg one, gFr_t S4.1.1 (b := 7) rfl, Option.bind_some, q1, Option.bind_some, gLen_t q2, rw8_len, Option.bind_some]
      rcases Nat.lt_or_ge (pL P t) k with z | z
      · -- the place is too far
        refine ⟨0, h, gBm D4 5, ?_, noR⟩
        rw [if_pos (nI_lt z (by omega)), jn_d]
        dsimp only
        rw [if_pos rfl, jn_d]
        dsimp only
        rw [if_pos rfl, jn_d]
        dsimp only
        rw [if_pos rfl, l_ins_noK ok ca htp z (by omega), Option.bind_some]
        dsimp only
        rw [if_neg (fun z => z rfl)]
      · have hxx : 2 * x + s < 2 * wE N := by omega
        obtain ⟨D5, f1, f2, f3⟩ := g_isOpen hN hp.1 S4.1 S4.2.1 hxE
        have S5 := S4.ext f2
        rw [if_neg (fun y => by have := (nI_lt' (by omega) (by omega)).mp y; omega), jn_d]
        dsimp only
        rw [if_neg one, f1, Option.bind_some]
        dsimp only
        by_cases y1 : wWt N P x = true
        · have h13 := room13 hN hp.1 hp.2.1 hxE (wt_none y1) t htp
          obtain ⟨D6, j1, j2, j3⟩ := g_fits (x := 2 * x + s) hN hp.1 hp.2.2 S5.1 S5.2.1 htp z h13 hxx
          rw [hx2] at j1
          have S6 := S5.ext j2
          have x6 : gE (fun j => j = rnd) D D6 := (x4.tr (f2.mono (fun _ _ z => absurd z id))).tr (j2.mono (fun _ _ z => absurd z id))
          have m6 : gMd 20 60 D D6 := (((gMd.eq m4).tr f3).tr j3).mono (by omega) (by omega)
          rw [y1, if_neg (show ¬ (if true = true then (1 : Int32) else (0 : Int32)) = 0 by decide), j1, Option.bind_some]
          dsimp only
          by_cases y2 : (wRoom N P t x && wCand N P t k (2 * x + s)) = true
          · -- inserted
            have y3 := y2
            rw [Bool.and_eq_true] at y3
            have hp1 := ipl_WP hp htp z h13 hxx (by rw [hx2]; exact wt_none y1) y3.2
            obtain ⟨i6, q3, q4⟩ := S6.2.1.row htp h4
            obtain ⟨D7, r1, r2, r3, r4, r5⟩ := g_ins (k := k) (x := 2 * x + s) q4 (by omega) z
            have S7 := S6.ext r3
            obtain ⟨D8, s1, s2, s3, s4, s5⟩ := S7.setr htp h4 r2
            have s2 : CST D8 rnd c N svr e b d hh tt g (ipl P t k (2 * x + s)) := s2
            have s1 : gQst D7 (rf tt) (nI t) (gTop D6) = some D8 := s1
            obtain ⟨D9, t1, t2, t3⟩ := g_price_ hN hp1.1 s2.1 s2.2.1 (t := t) htp
            have e1 : CK 500000 N (pH (ipl P t k (2 * x + s)) t) (pL (ipl P t k (2 * x + s)) t) (pA (ipl P t k (2 * x + s)) t) = wTC N (ipl P t k (2 * x + s)) t := CK_dv (hp1.2.2 t htp)
            rw [e1] at t1
            obtain ⟨h', p1, p2, p3, p4⟩ := l_ins_ok ok ca ch htp z hxx (by rw [hx2]; exact y1) (by rw [hx2]; exact y3.1) y3.2
            have hpl : pL (ipl P t k (2 * x + s)) t ≤ 14 := (hp1.1.2 t htp).2.1
            refine ⟨1, h', gBm D9 5, ?_, ipl P t k (2 * x + s), hpush H N P false, Or.inr ⟨rfl, rfl⟩, ⟨hN, hp1, ok.2.2.push hN hp⟩, hl.ins z (by rw [hx2]; exact y3.1), p3, p4, Fr1 p2, ⟨hh, tt, (s2.ext t2).ext gBm_E, Or.inl rfl⟩, ?_, ?_⟩
            · rw [y2, if_neg (show ¬ (if true = true then (1 : Int32) else (0 : Int32)) = 0 by decide), jn_d]
              dsimp only
              rw [if_neg one, jn_d]
              dsimp only
              rw [if_neg one, gFr_t S6.1.1 (b := 7) rfl, Option.bind_some, Option.bind_some, q3, Option.bind_some, r1, Option.bind_some]
              dsimp only
              rw [s1, Option.bind_some, t1, Option.bind_some, p1, Option.bind_some]
              dsimp only
              rw [if_neg (fun z => z rfl)]
            · exact (((x6.mono (fun _ _ z => Or.inr (Or.inr z))).tr (r3.mono (fun _ _ z => absurd z id))).tr ((s3.mono (fun _ _ z => Or.inr (Or.inl z))).tr (t2.mono (fun _ _ z => absurd z id)))).tr gBm_E
            · exact (((m6.tr r5).tr (s4.tr t3)).tr gBm_M).mono (by omega) (by omega)
          · have hF := l_ins_bad (x := 2 * x + s) ok ca htp z hxx (fun w => y2 (by rw [hx2] at w; rw [Bool.and_eq_true]; exact w.2))
            rw [Bool.not_eq_true] at y2
            refine ⟨0, h, gBm D6 5, ?_, OPR.no hI (x6.tr gBm_E) (S6.2.2.2.ext gBm_E (id : ¬ noW rnd)) ((m6.tr gBm_M).mono (by omega) (by omega))⟩
            rw [y2, if_pos (show (if false = true then (1 : Int32) else (0 : Int32)) = 0 from rfl), jn_d]
            dsimp only
            rw [if_neg one, jn_d]
            dsimp only
            rw [if_pos rfl, hF, Option.bind_some]
            dsimp only
            rw [if_neg (fun z => z rfl)]
        · have hF := l_ins_bad (x := 2 * x + s) ok ca htp z hxx (fun w => y1 (by rw [hx2] at w; exact w.1))
          rw [Bool.not_eq_true] at y1
          refine ⟨0, h, gBm D5 5, ?_, OPR.no hI ((x4.tr (f2.mono (fun _ _ z => absurd z id))).tr gBm_E) (S5.2.2.2.ext gBm_E (id : ¬ noW rnd)) ((((gMd.eq m4).tr f3).tr gBm_M).mono (by omega) (by omega))⟩
          rw [y1, if_pos (show (if false = true then (1 : Int32) else (0 : Int32)) = 0 from rfl), jn_d]
          dsimp only
          rw [if_neg one, jn_d]
          dsimp only
          rw [if_pos rfl, hF, Option.bind_some]
          dsimp only
          rw [if_neg (fun z => z rfl)]
  · -- no tour
    have e0 : t = pT P := by omega
    obtain ⟨s, D4, d1, d2, d3, d4, d5, d6⟩ := g_below a3 (show 0 < 2 by omega) (by omega)
    have S4 := S1.rnd_ d4 d3
    have SB : CST (gBm D4 5) rnd c N svr e b d hh tt g P := S4.ext gBm_E
    have x4 : gE (fun j => j = rnd) D D4 := a4.tr d4
    refine ⟨0, h, gBm D4 5, ?_, OPR.no hI (x4.tr gBm_E) SB.2.2.2 (((gMd.eq (d6.trans a6)).tr gBm_M).mono (by omega) (by omega))⟩
    rw [jn_d]
    dsimp only
    rw [if_pos ((nI_le' (by omega) (by omega)).mpr (by omega)), jn_d]
    dsimp only
    rw [if_pos rfl, show F_X10_below D1 (rf rnd) (2 : Int32) = _ from d1, Option.bind_some]
    dsimp only
    rw [two, jn_d]
    dsimp only
    rw [if_pos rfl, jn_d]
    dsimp only
    rw [if_pos rfl, jn_d]
    dsimp only
    rw [if_pos rfl, jn_d]
    dsimp only
    rw [if_pos rfl, show F_L_insert h (nI t) (0 : Int32) (nI (2 * x + s)) = _ from l_ins_noT (k := 0) ca (by omega) (by omega), Option.bind_some]
    dsimp only
    rw [if_neg (fun z => z rfl)]
end KBI
