/-! AN EDGE DROPPED, AN EDGE TURNED ROUND -/
theorem far_cmp {N : NT} {home n : Nat} {a : Nat → Nat} (hN : WN N) (hn : n ≤ 14) (ha : arcsOK N n a) : (DV N home n a → ¬ (500000 : Int32) ≤ nI (CK 500000 N home n a)) ∧ (¬ DV N home n a → (500000 : Int32) ≤ nI (CK 500000 N home n a)) := by
  have hb := CK_le (K := 500000) (home := home) hN (by omega) hn ha
  rw [i5e]
  refine ⟨fun h y => ?_, fun h => (nI_le' (a := 500000) (by omega) (by omega)).mpr (CK_nd h)⟩
  have := CK_dvle (K := 500000) hN hn ha h
  have := (nI_le' (a := 500000) (by omega) (by omega)).mp y
  omega
/-- where an edge is, as the law knows it -/
def ATP (D : gDS) (N : NT) (P : PT) (x : Nat) (at_ : gRF) (ie ex : Int32) : Prop := (x = wE N ∧ at_ = none ∧ ie = 0 ∧ ex = (-2000000097 : Int32)) ∨ (x < wE N ∧ ie = 1 ∧ ex = (-2000000099 : Int32) ∧ ((wTour P x = none ∧ at_ = none) ∨ ∃ t k ai, wTour P x = some t ∧ wPos P t x = some k ∧ at_ = rf ai ∧ tI D ai [nI t, nI k]))
section KDF
variable {h : PH} {D : gDS} {rnd c : Nat} {N : NT} {svr : gRF} {e b d hh tt g : Nat} {P : PT} {H : HT}
/-- a row of the plan replaced -/
theorem CST.setr {t n j : Nat} {a : Nat → Nat} (hS : CST D rnd c N svr e b d hh tt g P) (ht : t < pT P) (h4 : pT P ≤ 4) (hj : tI D j (rw8 n a)) : ∃ D', gQst D (rf tt) (nI t) (rf j) = some D' ∧ CST D' rnd c N svr e b d hh tt g (setT P t n a) ∧ gE (fun l => l = tt) D D' ∧ gMd 0 0 D D' ∧ ∀ i xs, tI D i xs → tI D' i xs := by
  obtain ⟨hV, hP, hne, hR⟩ := hS
  obtain ⟨D', a1, a2, a3, a4, a5⟩ := hP.setr ht h4 hj
  obtain ⟨ts, t1⟩ := hP.arr
  refine ⟨D', a1, ⟨hV.exT a3 t1 hne, a2, hne, hR.ext a3 (fun z => ?_)⟩, a3, gMd.eq a5, fun i xs hi => a3.tI (fun z => ?_) hi⟩
  · have := hR.kt
    rw [z, t1.tg] at this
    omega
  · have := hi.tg
    rw [z, t1.tg] at this
    omega
set_option maxRecDepth 4000 in
theorem k_drop {τ : Type} (K : Int32 × Int32 × gST → Option τ) (hI : OPI h D rnd c N svr e b d hh tt g P H) {x : Nat} {at_ : gRF} {ie ex : Int32} (hA : ATP D N P x at_ ie ex) : ∃ ic h' D', cs2 K (rf c) D h at_ (nI x) ex = K (1, ic, (h', D')) ∧ OPR h D rnd c N svr e b d hh tt g P H ic h' D' := by
  obtain ⟨ok, hl, ca, ch, hS, hE⟩ := id hI
  have hN := ok.1
  have hp := ok.2.1
  have h4 := hp.1.1
  have hE14 := hN.2.2.1
  have out : at_ = none → F_L_drop h (nI x) = some (ex, h) → ∃ ic h' D', cs2 K (rf c) D h at_ (nI x) ex = K (1, ic, (h', D')) ∧ OPR h D rnd c N svr e b d hh tt g P H ic h' D' := fun ha hF => by
    refine ⟨0, h, gBm D 3, ?_, OPR.no hI gBm_E (hS.2.2.2.ext gBm_E (id : ¬ noW rnd)) (gBm_M.mono (by omega) (by omega))⟩
    subst ha
    unfold cs2 jn
    dsimp only
    rw [if_pos rfl, if_pos rfl, if_pos rfl, hF, Option.bind_some]
    dsimp only
    rw [if_neg (fun z => z rfl)]
  rcases hA with ⟨rfl, ha, -, rfl⟩ | ⟨hx, -, rfl, ⟨ht, ha⟩ | ⟨t, k, ai, ht', hk', rfl, hai⟩⟩
  · exact out ha (l_drop_no ca (Nat.le_refl _) (by omega))
  · exact out ha (l_drop_out ok ca hx ht)
  · obtain ⟨ht, -⟩ := wTour_lt ht'
    obtain ⟨hk, hke⟩ := wPos_lt hk'
    obtain ⟨w1, w2, w3⟩ := hp.1.2 t ht
    have hn8 := hN.1
    have nn : ∀ i, ¬ rf i = none := fun i z => by cases z
    obtain ⟨i, g1, g2⟩ := hS.2.1.row ht h4
    have g2 : tI D i (rw8 (pL P t - 1 + 1) (pA P t)) := by rw [show pL P t - 1 + 1 = pL P t by omega]; exact g2
    have y0 : ∀ {A : gDS}, tI A ai [nI t, nI k] → gIld A (rf ai) 1 (0 : Int32) = some (nI t) := fun {A} z => gIld_t (a := 0) z (by show 0 < 2; omega) (by omega)
    have y1 : gIld D (rf ai) 1 (1 : Int32) = some (nI k) := gIld_t (a := 1) hai (by show 1 < 2; omega) (by omega)
    obtain ⟨D1, a1, a2, a3, a4, a5⟩ := g_wth (k := k) g2 (by omega) (by omega)
    have S1 := hS.ext a3
    have hdel : arcsOK N (pL P t - 1) (delA (pA P t) k) := del_ok (by rw [show pL P t - 1 + 1 = pL P t by omega]; exact w3)
    obtain ⟨D2, b1, b2, b3⟩ := g_price hN S1.1 a2 (by omega) hdel (show pH P t < 8 by omega)
    have S2 := S1.ext b2
    have b1 : F_X8_price D1 (rf c) (nI (pH P t)) (gTop D) = some (nI (CK 500000 N (pH P t) (pL P t - 1) (delA (pA P t) k)), D2) := b1
    have hai1 := a3.tI id hai
    have hai2 := b2.tI id hai1
    obtain ⟨f1, f2⟩ := far_cmp (home := pH P t) hN (show pL P t - 1 ≤ 14 by omega) hdel
    have hdv := (dpl_DV (N := N) hk (hp.2.2 t ht)).2
    have x2 := a3.tr b2
    have start : ∀ (r : Int32), (if (500000 : Int32) ≤ nI (CK 500000 N (pH P t) (pL P t - 1) (delA (pA P t) k)) then r = 0 else r = 1) → cs2 K (rf c) D h (rf ai) (nI x) (-2000000099 : Int32) = jn (fun (v116 : Int32 × gST) =>
                 (F_L_drop v116.2.1 (nI x)).bind fun x117 =>
                 if ¬ x117.1 = v116.1 then
                  K ((0 : Int32), r, (x117.2, (gBm v116.2.2 3)))
                 else
                  K ((1 : Int32), r, (x117.2, (gBm v116.2.2 3)))) (fun k115 =>
                 if r = 0 then
                  k115 ((-2000000099 : Int32), (h, D2))
                 else
                  (gFr D2 (rf c) 8 7).bind fun r118 =>
                  (gIld D2 (rf ai) 1 (0 : Int32)).bind fun z119 =>
                  (gQst D2 r118 z119 (gTop D)).bind fun D120 =>
                  (gIld D120 (rf ai) 1 (0 : Int32)).bind fun z121 =>
                  (F_X8_price_ D120 (rf c) z121).bind fun y122 =>
                  k115 (y122.1, (h, y122.2))) := fun r hr => by
      have n2 : ¬ gTop D = none := fun z => by cases z
      unfold cs2 jn
      dsimp only
      rw [if_neg (nn ai), gFr_t hS.1.1 (b := 7) rfl, Option.bind_some, y0 hai, Option.bind_some, g1, Option.bind_some, y1, Option.bind_some, a1, Option.bind_some]
      dsimp only
      rw [if_neg n2, gFr_t S1.1.1 (b := 6) rfl, Option.bind_some, y0 hai1, Option.bind_some, S1.2.1.home ht h4, Option.bind_some, b1, Option.bind_some]
      dsimp only
      by_cases z : (500000 : Int32) ≤ nI (CK 500000 N (pH P t) (pL P t - 1) (delA (pA P t) k))
      · rw [if_pos z] at hr ⊢
        rw [hr]
      · rw [if_neg z] at hr ⊢
        rw [hr]
    by_cases hsp : wSpare N P t k = true
    · have hp1 := dpl_WP hp ht hk hsp
      have n5 := f1 (hdv.mp hsp)
      obtain ⟨D3, c1, c2, c3, c4, c5⟩ := S2.setr ht h4 (b2.tI id a2)
      have c2 : CST D3 rnd c N svr e b d hh tt g (dpl P t k) := c2
      have c1 : gQst D2 (rf tt) (nI t) (gTop D) = some D3 := c1
      obtain ⟨D4, d1, d2, d3⟩ := g_price_ hN hp1.1 c2.1 c2.2.1 (t := t) ht
      have e1 : CK 500000 N (pH (dpl P t k) t) (pL (dpl P t k) t) (pA (dpl P t k) t) = wTC N (dpl P t k) t := CK_dv (hp1.2.2 t ht)
      rw [e1] at d1
      obtain ⟨h', p1, p2, p3, p4⟩ := l_drop_ok ok ca ch hx ht' hk' hsp
      have one : ¬ (1 : Int32) = 0 := by decide
      refine ⟨1, h', gBm D4 3, ?_, dpl P t k, hpush H N P false, Or.inr ⟨rfl, rfl⟩, ⟨hN, hp1, ok.2.2.push hN hp⟩, hl.del ht hk, p3, p4, Fr1 p2, ⟨hh, tt, (c2.ext d2).ext gBm_E, Or.inl rfl⟩, ?_, ?_⟩
      · rw [start 1 (by rw [if_neg n5])]
        unfold jn
        dsimp only
        rw [if_neg one, gFr_t S2.1.1 (b := 7) rfl, Option.bind_some, y0 hai2, Option.bind_some, c1, Option.bind_some, y0 (c5 _ _ hai2), Option.bind_some, d1, Option.bind_some, p1, Option.bind_some]
        dsimp only
        rw [if_neg (fun z => z rfl)]
      · exact (((x2.mono (fun _ _ z => absurd z id)).tr (c3.mono (fun _ _ z => Or.inr (Or.inl z)))).tr (d2.mono (fun _ _ z => absurd z id))).tr gBm_E
      · have hpl : pL (dpl P t k) t ≤ 14 := (hp1.1.2 t ht).2.1
        exact (((a5.tr b3).tr (c4.tr d3)).tr gBm_M).mono (by omega) (by omega)
    · have n5 := f2 (fun z => hsp (hdv.mpr z))
      refine ⟨0, h, gBm D2 3, ?_, OPR.no hI ((x2.mono (fun _ _ z => absurd z id)).tr gBm_E) (S2.2.2.2.ext gBm_E (id : ¬ noW rnd)) (((a5.tr b3).tr gBm_M).mono (by omega) (by omega))⟩
      rw [start 0 (by rw [if_pos n5])]
      unfold jn
      dsimp only
      rw [if_pos rfl, l_drop_bad ok ca hx ht' hk' hsp, Option.bind_some]
      dsimp only
      rw [if_neg (fun z => z rfl)]
set_option maxRecDepth 4000 in
theorem k_flip {τ : Type} (K : Int32 × Int32 × gST → Option τ) (hI : OPI h D rnd c N svr e b d hh tt g P H) {x : Nat} {at_ : gRF} {ie ex : Int32} (hA : ATP D N P x at_ ie ex) : ∃ ic h' D', cs3 K (rf c) D h at_ (nI x) ex = K (1, ic, (h', D')) ∧ OPR h D rnd c N svr e b d hh tt g P H ic h' D' := by
  obtain ⟨ok, hl, ca, ch, hS, hE⟩ := id hI
  have hN := ok.1
  have hp := ok.2.1
  have h4 := hp.1.1
  have hE14 := hN.2.2.1
  have out : at_ = none → F_L_flip h (nI x) = some (ex, h) → ∃ ic h' D', cs3 K (rf c) D h at_ (nI x) ex = K (1, ic, (h', D')) ∧ OPR h D rnd c N svr e b d hh tt g P H ic h' D' := fun ha hF => by
    refine ⟨0, h, gBm D 3, ?_, OPR.no hI gBm_E (hS.2.2.2.ext gBm_E (id : ¬ noW rnd)) (gBm_M.mono (by omega) (by omega))⟩
    subst ha
    unfold cs3 jn
    dsimp only
    rw [if_pos rfl, if_pos rfl, if_pos rfl, if_pos rfl, hF, Option.bind_some]
    dsimp only
    rw [if_neg (fun z => z rfl)]
  rcases hA with ⟨rfl, ha, -, rfl⟩ | ⟨hx, -, rfl, ⟨ht, ha⟩ | ⟨t, k, ai, ht', hk', rfl, hai⟩⟩
  · exact out ha (l_flip_no ca (Nat.le_refl _) (by omega))
  · exact out ha (l_flip_out ok ca hx ht)
  · obtain ⟨ht, -⟩ := wTour_lt ht'
    obtain ⟨hk, hke⟩ := wPos_lt hk'
    obtain ⟨w1, w2, w3⟩ := hp.1.2 t ht
    have hn8 := hN.1
    have hak := w3 k hk
    have nn : ∀ i, ¬ rf i = none := fun i z => by cases z
    have n2 : ¬ gTop D = none := fun z => by cases z
    obtain ⟨i, g1, g2⟩ := hS.2.1.row ht h4
    have y0 : ∀ {A : gDS}, tI A ai [nI t, nI k] → gIld A (rf ai) 1 (0 : Int32) = some (nI t) := fun {A} z => gIld_t (a := 0) z (by show 0 < 2; omega) (by omega)
    have y1 : ∀ {A : gDS}, tI A ai [nI t, nI k] → gIld A (rf ai) 1 (1 : Int32) = some (nI k) := fun {A} z => gIld_t (a := 1) z (by show 1 < 2; omega) (by omega)
    -- the row copied, its arc turned
    have s0 := gCln_i g2
    have xk : gE noW D (gNew D (.inr (.inl (1, rw8 (pL P t) (pA P t)))) (rw8 (pL P t) (pA P t)).length) := gNew_E
    have lk : (gNew D (.inr (.inl (1, rw8 (pL P t) (pA P t)))) (rw8 (pL P t) (pA P t)).length).1.length = D.1.length + 1 := gNew_len
    have mk : gMd 1 (rw8 (pL P t) (pA P t)).length D (gNew D (.inr (.inl (1, rw8 (pL P t) (pA P t)))) (rw8 (pL P t) (pA P t)).length) := gNew_M
    have tk : tI (gNew D (.inr (.inl (1, rw8 (pL P t) (pA P t)))) (rw8 (pL P t) (pA P t)).length) D.1.length (rw8 (pL P t) (pA P t)) := gNew_at
    generalize gNew D (.inr (.inl (1, rw8 (pL P t) (pA P t)))) (rw8 (pL P t) (pA P t)).length = D1 at *
    rw [rw8_len] at mk
    obtain ⟨D2, e1, e2, e3, e4, e5⟩ := ia_st (k := k) (v := nI (wFl (pA P t k))) tk (by rw [rw8_len]; exact hk) (by omega)
    rw [rw8_set] at e2
    have e2 : tI D2 D.1.length (rw8 (pL P t) (fplA (pA P t) k)) := e2
    have x12 : gE noW D D2 := xk.on e3 (fun j hj => by omega)
    have S2 := hS.ext x12
    have hai1 := xk.tI id hai
    have hai2 := x12.tI id hai
    have hfl : arcsOK N (pL P t) (fplA (pA P t) k) := fun j hj => by
      show (if j = k then wFl (pA P t k) else pA P t j) < _
      split
      · exact wFl_lt hak
      · exact w3 j hj
    obtain ⟨D3, b1, b2, b3⟩ := g_price hN S2.1 e2 (by omega) hfl (show pH P t < 8 by omega)
    have b1 : F_X8_price D2 (rf c) (nI (pH P t)) (gTop D) = some (nI (CK 500000 N (pH P t) (pL P t) (fplA (pA P t) k)), D3) := b1
    have S3 := S2.ext b2
    have hai3 := b2.tI id hai2
    obtain ⟨f1, f2⟩ := far_cmp (home := pH P t) hN (show pL P t ≤ 14 by omega) hfl
    have hdv := turn_DV (N := N) hk (hp.2.2 t ht)
    have x3 := x12.tr b2
    have m3 : gMd 16 50 D D3 := ((mk.tr (gMd.eq e5)).tr b3).mono (by omega) (by omega)
    have start : ∀ (r : Int32), (if (500000 : Int32) ≤ nI (CK 500000 N (pH P t) (pL P t) (fplA (pA P t) k)) then r = 0 else r = 1) → cs3 K (rf c) D h (rf ai) (nI x) (-2000000099 : Int32) = jn (fun (v139 : Int32 × gST) =>
                  (F_L_flip v139.2.1 (nI x)).bind fun x140 =>
                  if ¬ x140.1 = v139.1 then
                   K ((0 : Int32), r, (x140.2, (gBm v139.2.2 3)))
                  else
                   K ((1 : Int32), r, (x140.2, (gBm v139.2.2 3)))) (fun k138 =>
                  if r = 0 then
                   k138 ((-2000000099 : Int32), (h, D3))
                  else
                   (gFr D3 (rf c) 8 7).bind fun r141 =>
                   (gIld D3 (rf ai) 1 (0 : Int32)).bind fun z142 =>
                   (gQst D3 r141 z142 (gTop D)).bind fun D143 =>
                   (gIld D143 (rf ai) 1 (0 : Int32)).bind fun z144 =>
                   (F_X8_price_ D143 (rf c) z144).bind fun y145 =>
                   k138 (y145.1, (h, y145.2))) := fun r hr => by
      unfold cs3 jn
      dsimp only
      rw [if_neg (nn ai), gFr_t hS.1.1 (b := 7) rfl, Option.bind_some, y0 hai, Option.bind_some, g1, Option.bind_some, s0, Option.bind_some, gTop_rf D, gIsA_i tk, Option.bind_some]
      rw [if_neg (nn _), y1 hai1, Option.bind_some, gIld_t tk (by rw [rw8_len]; exact hk) (by omega), rw8_get hk, Option.bind_some, wFl_xor (by omega), e1, Option.bind_some]
      rw [if_neg (nn _), gFr_t S2.1.1 (b := 6) rfl, Option.bind_some, y0 hai2, Option.bind_some, S2.2.1.home ht h4, Option.bind_some, show F_X8_price D2 (rf c) (nI (pH P t)) (rf D.1.length) = _ from b1, Option.bind_some]
      dsimp only
      by_cases z : (500000 : Int32) ≤ nI (CK 500000 N (pH P t) (pL P t) (fplA (pA P t) k))
      · rw [if_pos z] at hr ⊢
        rw [hr]
      · rw [if_neg z] at hr ⊢
        rw [hr]
    by_cases hsp : wTurn N P t k = true
    · have hp1 := fpl_WP hp ht hk hsp
      have n5 := f1 (hdv.mp hsp)
      obtain ⟨D4, c1, c2, c3, c4, c5⟩ := S3.setr ht h4 (b2.tI id e2)
      have c2 : CST D4 rnd c N svr e b d hh tt g (fpl P t k) := c2
      have c1 : gQst D3 (rf tt) (nI t) (gTop D) = some D4 := c1
      obtain ⟨D5, d1, d2, d3⟩ := g_price_ hN hp1.1 c2.1 c2.2.1 (t := t) ht
      have e1 : CK 500000 N (pH (fpl P t k) t) (pL (fpl P t k) t) (pA (fpl P t k) t) = wTC N (fpl P t k) t := CK_dv (hp1.2.2 t ht)
      rw [e1] at d1
      obtain ⟨h', p1, p2, p3, p4⟩ := l_flip_ok ok ca ch hx ht' hk' hsp
      have one : ¬ (1 : Int32) = 0 := by decide
      refine ⟨1, h', gBm D5 3, ?_, fpl P t k, hpush H N P false, Or.inr ⟨rfl, rfl⟩, ⟨hN, hp1, ok.2.2.push hN hp⟩, hl.flip ht, p3, p4, Fr1 p2, ⟨hh, tt, (c2.ext d2).ext gBm_E, Or.inl rfl⟩, ?_, ?_⟩
      · rw [start 1 (by rw [if_neg n5])]
        unfold jn
        dsimp only
        rw [if_neg one, gFr_t S3.1.1 (b := 7) rfl, Option.bind_some, y0 hai3, Option.bind_some, c1, Option.bind_some, y0 (c5 _ _ hai3), Option.bind_some, d1, Option.bind_some, p1, Option.bind_some]
        dsimp only
        rw [if_neg (fun z => z rfl)]
      · exact (((x3.mono (fun _ _ z => absurd z id)).tr (c3.mono (fun _ _ z => Or.inr (Or.inl z)))).tr (d2.mono (fun _ _ z => absurd z id))).tr gBm_E
      · have hpl : pL (fpl P t k) t ≤ 14 := (hp1.1.2 t ht).2.1
        exact ((m3.tr (c4.tr d3)).tr gBm_M).mono (by omega) (by omega)
    · have n5 := f2 (fun z => hsp (hdv.mpr z))
      refine ⟨0, h, gBm D3 3, ?_, OPR.no hI ((x3.mono (fun _ _ z => absurd z id)).tr gBm_E) (S3.2.2.2.ext gBm_E (id : ¬ noW rnd)) ((m3.tr gBm_M).mono (by omega) (by omega))⟩
      rw [start 0 (by rw [if_pos n5])]
      unfold jn
      dsimp only
      rw [if_pos rfl, l_flip_bad ok ca hx ht' hk' hsp, Option.bind_some]
      dsimp only
      rw [if_neg (fun z => z rfl)]
end KDF
