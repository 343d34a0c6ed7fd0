/-! A TOUR OPENED, IN LAW AND CLASS -/
section KOP
variable {h : PH} {D : gDS} {rnd c : Nat} {N : NT} {svr : gRF} {e b d hh tt g : Nat} {P : PT} {H : HT}
theorem opl_LT (ok : okS N P H) {dp : Nat} (hd : dp < wD N) (h4 : pT P < 4) : okS N (opl N P dp) (hpush H N P false) := ⟨ok.1, opl_WP ok.1 ok.2.1 hd h4, ok.2.2.push ok.1 ok.2.1⟩
set_option maxRecDepth 4000 in
/-- the city's new tour -/
theorem g_openC {dp : Nat} (hN : WN N) (hp : WP N P) (hS : CST D rnd c N svr e b d hh tt g P) (hd : dp < wD N) (h4 : pT P < 4) : ∃ D2 D3 D4 D5, F_L_inserted D (rf hh) (nI (pT P)) (nI (wDp N dp)) = some (rf D.1.length, D2) ∧ gFst D2 (rf c) 8 6 (.inr (.inr (rf D.1.length))) = some D3 ∧ gFr D3 (rf c) 8 7 = some (rf tt) ∧ F_L_with (gAI D3 1 0) (rf tt) (gTop D3) = some (rf D4.1.length, D5) ∧ D4 = gAI D3 1 0 ∧ ∃ D6, gFst D5 (rf c) 8 7 (.inr (.inr (rf D4.1.length))) = some D6 ∧ CST D6 rnd c N svr e b d D.1.length D4.1.length g (opl N P dp) ∧ D.1.length ≤ D4.1.length ∧ gE (fun j => j = c) D D6 ∧ gMd 3 10 D D6 := by
  obtain ⟨hV, hP, ⟨n1, n2, n3⟩, hR⟩ := hS
  have hlt := hV.lt
  have hgl := hP.lt
  have hlr := hR.lt
  have ncr : ¬ rnd = c := fun z => by
    have := hR.kt
    rw [z, (show kt D c = 108 from hV.1.tg)] at this
    omega
  obtain ⟨D2, a1, a2, a3, a4, a5⟩ := g_ins (k := pT P) (x := wDp N dp) hP.1 (by omega) (Nat.le_refl _)
  obtain ⟨D3, b1, b2, b3, b4, b5⟩ := (hV.ext a3).setH (h2 := D.1.length)
  have P2 := hP.ext a3
  have kc2 : kt D2 c = 108 := (hV.ext a3).1.tg
  have P3 : GP D3 P hh tt := P2.exC b3 (fun i hi z => by rw [z, kc2]; omega)
  have a2' : tI D3 D.1.length (rw8 (pT P + 1) (insA (pH P) (pT P) (wDp N dp))) := b3.tI (fun z => by omega) a2
  obtain ⟨t4, y4, l4, m4⟩ := gAI_t (D := D3) (n := 0)
  have V4 := b2.ext y4
  have P4 := P3.ext y4
  have a2'' := y4.tI id a2'
  obtain ⟨g1, ts, g2, g3, g4⟩ := id P4
  obtain ⟨D5, c1, c2, c3, c4, c5⟩ := g_with g2 (fun k r hr => by
    have hk := (List.getElem?_eq_some_iff.mp hr).1
    obtain ⟨i, q1, q2⟩ := g4 k (by omega)
    rw [hr] at q1
    injection q1 with q1
    exact ⟨i, _, q1, q2⟩) t4 (by omega)
  have V5 := V4.ext c3
  obtain ⟨D6, d1, d2, d3, d4, d5⟩ := V5.setT (t2 := (gAI D3 1 0).1.length)
  have kc5 : kt D5 c = 108 := V5.1.tg
  have kc4 : kt (gAI D3 1 0) c = 108 := V4.1.tg
  have x46 : gE (fun j => j = c) (gAI D3 1 0) D6 := (c3.mono (fun _ _ z => absurd z id)).tr d3
  have okc : ∀ i xs, tI (gAI D3 1 0) i xs → ¬ i = c := fun i xs t z => by
    have := t.tg
    rw [z, kc4] at this
    omega
  have xx : gE (fun j => j = c) D D6 := ((a3.mono (fun _ _ z => absurd z id)).tr b3).tr ((y4.mono (fun _ _ z => absurd z id)).tr x46)
  refine ⟨D2, D3, gAI D3 1 0, D5, a1, b1, gFr_t b2.1 (b := 7) rfl, c1, rfl, D6, d1, ⟨d2, ⟨?_, ts ++ [rf D3.1.length], ?_, ?_, fun u hu => ?_⟩, ⟨by omega, by omega, by omega⟩, hR.ext xx ncr⟩, by omega, xx, ?_⟩
  · have e0 : rw8 (pT P + 1) (insA (pH P) (pT P) (wDp N dp)) = rw8 (pT P + 1) (pH (opl N P dp)) := rw8_ag (fun y hy => by
      rw [opl_H]
      unfold insA
      by_cases z : y = pT P
      · rw [if_neg (by omega), if_pos z, if_pos z]
      · rw [if_pos (by omega), if_neg z])
    rw [e0] at a2''
    exact x46.tI (okc _ _ a2'') a2''
  · exact d3.tQ (fun z => by have := hlt.1; omega) c2
  · rw [List.length_append, g3]
    rfl
  · have hu : u < pT P + 1 := hu
    rw [opl_L]
    rcases Nat.lt_or_ge u (pT P) with q | q
    · obtain ⟨i, q1, q2⟩ := g4 u q
      refine ⟨i, by rw [List.getElem?_append_left (by omega)]; exact q1, ?_⟩
      rw [if_neg (by omega)]
      have e0 : rw8 (pL P u) (pA (opl N P dp) u) = rw8 (pL P u) (pA P u) := rfl
      rw [e0]
      exact x46.tI (okc _ _ q2) q2
    · obtain rfl : u = pT P := by omega
      refine ⟨D3.1.length, by rw [List.getElem?_append_right (by omega), g3, Nat.sub_self]; rfl, ?_⟩
      rw [if_pos rfl]
      exact x46.tI (okc _ _ t4) t4
  · have := ((a5.tr (gMd.eq b5)).tr (m4.tr c5)).tr (gMd.eq d5)
    exact this.mono (by omega) (by omega)
theorem k_open {τ : Type} (K : Int32 × Int32 × gST → Option τ) (hI : OPI h D rnd c N svr e b d hh tt g P H) : ∃ ic h' D', cs0 K (rf c) (rf rnd) D h = K (1, ic, (h', D')) ∧ OPR h D rnd c N svr e b d hh tt g P H ic h' D' := by
  obtain ⟨ok, hl, ca, ch, hS, hE⟩ := id hI
  have hN := ok.1
  have hp := ok.2.1
  have h4 := hp.1.1
  have hD3 := hN.2.2.2.1
  have dl : ∀ {A : gDS}, CST A rnd c N svr e b d hh tt g P → gLen A (rf d) = some (nI (wD N)) := fun {A} S => by rw [gLen_t S.1.2.2.2.2.2, List.length_map, List.length_range]
  obtain ⟨v, D1, a1, a2, a3, a4, a5, a6⟩ := g_below hS.2.2.2 (show 0 < 10 by omega) (by omega)
  have S1 := hS.rnd_ a4 a3
  obtain ⟨x, hx, hx1⟩ : ∃ x, (∀ K : Int32 → Option τ, jn K (fun k52 => if ¬ nI v = 0 then k52 ((0 : Int32)) else k52 ((1 : Int32))) = K (nI x)) ∧ x ≤ 1 := by
    by_cases z : v = 0
    · refine ⟨1, fun K => ?_, by omega⟩
      unfold jn
      dsimp only
      rw [z, if_neg (fun y => y rfl)]
      rfl
    · refine ⟨0, fun K => ?_, by omega⟩
      unfold jn
      dsimp only
      rw [if_pos (nz_I z (by omega))]
      rfl
  obtain ⟨dp, D2, b1, b2, b3, b4, b5, b6⟩ := g_below a3 (show 0 < wD N + x by omega) (by omega)
  have S2 := S1.rnd_ b4 b3
  have S3 : CST (gBm D2 2) rnd c N svr e b d hh tt g P := S2.ext gBm_E
  have xr : gE (fun j => j = rnd) D (gBm D2 2) := (a4.tr b4).tr gBm_E
  have mr : gMd 2 12 D (gBm D2 2) := ((gMd.eq a6).tr ((gMd.eq b6).tr gBm_M)).mono (by omega) (by omega)
  -- whether it is a change
  obtain ⟨ic, hic, hic2⟩ : ∃ ic, (∀ K : Int32 → Option τ, jn K (fun k57 => if nI (wD N) ≤ nI dp then k57 ((0 : Int32)) else (some (rf tt)).bind fun r78 => (gLen D2 r78).bind fun z79 => if (4 : Int32) ≤ z79 then k57 ((0 : Int32)) else k57 ((1 : Int32))) = K ic) ∧ ((ic = 1 ∧ dp < wD N ∧ pT P < 4) ∨ (ic = 0 ∧ ¬ (dp < wD N ∧ pT P < 4))) := by
    by_cases z : wD N ≤ dp
    · refine ⟨0, fun K => ?_, Or.inr ⟨rfl, by omega⟩⟩
      unfold jn
      dsimp only
      rw [if_pos ((nI_le' (by omega) (by omega)).mpr z)]
    · have n1 : ¬ nI (wD N) ≤ nI dp := fun y => z ((nI_le' (by omega) (by omega)).mp y)
      by_cases z2 : pT P < 4
      · refine ⟨1, fun K => ?_, Or.inl ⟨rfl, by omega, z2⟩⟩
        unfold jn
        dsimp only
        rw [if_neg n1, Option.bind_some, S2.2.1.cnt, Option.bind_some, if_neg (fun y => by have := (nI_le' (a := 4) (b := pT P) (by omega) (by omega)).mp y; omega)]
      · refine ⟨0, fun K => ?_, Or.inr ⟨rfl, by omega⟩⟩
        unfold jn
        dsimp only
        rw [if_neg n1, Option.bind_some, S2.2.1.cnt, Option.bind_some, if_pos (show (4 : Int32) ≤ nI (pT P) from (nI_le' (a := 4) (b := pT P) (by omega) (by omega)).mpr (by omega))]
  have key : ∀ (r : Int32) (h' : PH), F_L_openTour h (nI dp) = some (r, h') → cs0 K (rf c) (rf rnd) D h = jn (fun (v63 : Int32) =>
                 jn (fun (v65 : Int32) =>
                  if ¬ ic = 0 then
                   (some (rf hh)).bind fun r66 =>
                   (some (rf hh)).bind fun r67 =>
                   (gLen (gBm D2 2) r67).bind fun z68 =>
                   (some (rf d)).bind fun r69 =>
                   (gIld (gBm D2 2) r69 1 (nI dp)).bind fun z70 =>
                   (F_L_inserted (gBm D2 2) r66 z68 z70).bind fun y71 =>
                   (gFst y71.2 (rf c) 8 6 (.inr (.inr y71.1))).bind fun D72 =>
                   (gFr D72 (rf c) 8 7).bind fun r73 =>
                   (F_L_with (gAI D72 1 0) r73 (gTop D72)).bind fun y74 =>
                   (gFst y74.2 (rf c) 8 7 (.inr (.inr y74.1))).bind fun D75 =>
                   K (v65, ic, (h', D75))
                  else
                   K (v65, ic, (h', (gBm D2 2)))) (fun k64 =>
                  if ¬ r = v63 then
                   k64 ((0 : Int32))
                  else
                   k64 ((1 : Int32)))) (fun k62 =>
                 if ¬ nI dp = nI (wD N) then
                  if ic = 0 then
                   k62 ((-2000000099 : Int32))
                  else
                   (some (rf tt)).bind fun r76 =>
                   (gLen (gBm D2 2) r76).bind fun z77 =>
                   k62 (z77)
                 else
                  k62 ((-2000000097 : Int32))) := fun r h' hF => by
    unfold cs0
    rw [gFr_t hS.1.1 (b := 5) rfl, Option.bind_some, dl hS, Option.bind_some, show F_X10_below D (rf rnd) (10 : Int32) = _ from a1, Option.bind_some]
    dsimp only
    rw [hx, nI_add, b1, Option.bind_some]
    dsimp only
    rw [gFr_t S2.1.1 (b := 5) rfl, Option.bind_some, dl S2, Option.bind_some, gFr_t S2.1.1 (b := 7) rfl, hic, hF, Option.bind_some]
    dsimp only
    rw [gFr_t S3.1.1 (b := 5) rfl, Option.bind_some, dl S3, Option.bind_some, gFr_t S3.1.1 (b := 6) rfl, gFr_t S3.1.1 (b := 7) rfl]
  by_cases hdp : dp < wD N
  · have nd : ¬ nI dp = nI (wD N) := fun y => by
      have := (nI_eq (by omega) (by omega)).mp y
      omega
    by_cases z4 : pT P < 4
    · rcases hic2 with ⟨rfl, -, -⟩ | ⟨-, q⟩
      · obtain ⟨h', c1, c2, c3, c4⟩ := l_open_ok ok ca ch hdp z4
        obtain ⟨E2, E3, E4, E5, d1, d2, d3, d4, d5, E6, d6, d7, d8, d9, d10⟩ := g_openC hN hp S3 hdp z4
        have gd : gIld (gBm D2 2) (rf d) 1 (nI dp) = some (nI (wDp N dp)) := by
          have := S3.1.2.2.2.2.2
          rw [gIld_t this (by rw [List.length_map, List.length_range]; exact hdp) (by omega), List.getD_eq_getElem?_getD, List.getElem?_map, List.getElem?_range hdp]
          rfl
        refine ⟨1, h', E6, ?_, opl N P dp, hpush H N P false, Or.inr ⟨rfl, rfl⟩, opl_LT ok hdp z4, hl.opn, c3, c4, Fr1 c2, ⟨_, _, d7, Or.inr (by have := xr.1; omega)⟩, (xr.mono (fun _ _ z => Or.inr (Or.inr z))).tr (d9.mono (fun _ _ z => Or.inl z)), (mr.tr d10).mono (by omega) (by omega)⟩
        rw [key _ _ c1]
        unfold jn
        dsimp only
        have one : ¬ (1 : Int32) = 0 := by decide
        rw [if_pos nd, if_neg one, Option.bind_some, S3.2.1.cnt, Option.bind_some, if_neg (fun z => z rfl), if_pos one, Option.bind_some, Option.bind_some, gLen_t S3.2.1.1, rw8_len, Option.bind_some, Option.bind_some, gd, Option.bind_some, d1, Option.bind_some]
        dsimp only
        rw [d2, Option.bind_some, d3, Option.bind_some, d4, Option.bind_some]
        dsimp only
        rw [d6, Option.bind_some]
      · exact absurd ⟨hdp, z4⟩ q
    · rcases hic2 with ⟨-, -, q⟩ | ⟨rfl, -⟩
      · exact absurd q z4
      · refine ⟨0, h, gBm D2 2, ?_, OPR.no hI xr S3.2.2.2 (mr.mono (by omega) (by omega))⟩
        rw [key _ _ (l_open_full ok ca hdp z4)]
        unfold jn
        dsimp only
        rw [if_pos nd, if_pos rfl, if_neg (fun z => z rfl), if_neg (fun z => z rfl)]
  · rcases hic2 with ⟨-, q, -⟩ | ⟨rfl, -⟩
    · exact absurd q hdp
    · have e0 : dp = wD N := by omega
      refine ⟨0, h, gBm D2 2, ?_, OPR.no hI xr S3.2.2.2 (mr.mono (by omega) (by omega))⟩
      rw [key _ _ (l_open_no ok ca (by omega) (by omega))]
      unfold jn
      dsimp only
      rw [e0, if_neg (fun z => z rfl), if_neg (fun z => z rfl), if_neg (fun z => z rfl)]
end KOP
