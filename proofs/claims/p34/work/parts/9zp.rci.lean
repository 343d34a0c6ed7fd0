abbrev rSt : Type := Int32 × gST
noncomputable def edB {τ : Type} (X : rSt → Option (rSt ⊕ τ)) (o p1 p2 : gRF) (s15 : rSt) : Option (rSt ⊕ τ) :=
 if s15.1 ≤ 0 then X s15 else
    (gFi s15.2.2 o 8 0).bind fun z80 =>
    (F_X10_below s15.2.2 p2 z80).bind fun y81 =>
    (gFi y81.2 o 8 0).bind fun z82 =>
    (F_X10_below y81.2 p2 (z82 - (1 : Int32))).bind fun y83 =>
    (gFi y83.2 o 8 0).bind fun z84 =>
    (gRm ((y81.1 + (1 : Int32)) + y83.1) z84).bind fun z85 =>
    (gIst (gAI y83.2 1 5) (gTop y83.2) 1 (0 : Int32) y81.1).bind fun D86 =>
    (gIst D86 (gTop y83.2) 1 (1 : Int32) z85).bind fun D87 =>
    (F_X10_below D87 p2 (99 : Int32)).bind fun y88 =>
    (gIst y88.2 (gTop y83.2) 1 (2 : Int32) ((1 : Int32) + y88.1)).bind fun D89 =>
    (F_X10_below D89 p2 (99 : Int32)).bind fun y90 =>
    (gIst y90.2 (gTop y83.2) 1 (3 : Int32) ((1 : Int32) + y90.1)).bind fun D91 =>
    (F_X10_below D91 p2 (4 : Int32)).bind fun y92 =>
    jn (fun (v94 : Int32 × gST) =>
     (gIst v94.2.2 (gTop y83.2) 1 (4 : Int32) v94.1).bind fun D95 =>
     (gFr D95 o 8 3).bind fun r96 =>
     (F_L_with D95 r96 (gTop y83.2)).bind fun y97 =>
     (gFst y97.2 o 8 3 (.inr (.inr y97.1))).bind fun D98 =>
     (F_L_writeNumbers (v94.2.1, D98) p1 (some (.inr 12)) (gTop y83.2)).bind fun y99 =>
     some (.inl ((s15.1 - (1 : Int32)), (y99.1, y99.2)))) (fun k93 =>
     if ¬ y92.1 = 0 then
      (F_X10_below y92.2 p2 (100 : Int32)).bind fun y100 =>
      k93 (y100.1, (s15.2.1, y100.2))
     else
      k93 ((0 : Int32), (s15.2.1, y92.2)))
noncomputable def baB {τ : Type} (X : rSt → Option (rSt ⊕ τ)) (o p1 p2 : gRF) (s17 : rSt) : Option (rSt ⊕ τ) :=
 if s17.1 ≤ 0 then X s17 else
      (gFr s17.2.2 o 8 3).bind fun r44 =>
      (gLen s17.2.2 r44).bind fun z45 =>
      (F_X10_below s17.2.2 p2 z45).bind fun y46 =>
      (gFr y46.2 o 8 3).bind fun r47 =>
      (gLen y46.2 r47).bind fun z48 =>
      (F_X10_below y46.2 p2 z48).bind fun y49 =>
      (gFr y49.2 o 8 3).bind fun r50 =>
      (gQld y49.2 r50 y46.1).bind fun r51 =>
      (F_X10_below y49.2 p2 (2 : Int32)).bind fun y52 =>
      (gIld y52.2 r51 1 y52.1).bind fun z53 =>
      (gFr y52.2 o 8 3).bind fun r54 =>
      (gQld y52.2 r54 y49.1).bind fun r55 =>
      (gIld y52.2 r55 1 (0 : Int32)).bind fun z56 =>
      if z56 = z53 then
       (gFr y52.2 o 8 4).bind fun r57 =>
       (gIst (gAI y52.2 1 3) (gTop y52.2) 1 (0 : Int32) z53).bind fun D58 =>
       (gIst D58 (gTop y52.2) 1 (1 : Int32) y46.1).bind fun D59 =>
       (gIst D59 (gTop y52.2) 1 (2 : Int32) y49.1).bind fun D60 =>
       (F_L_with D60 r57 (gTop y52.2)).bind fun y61 =>
       (gFst y61.2 o 8 4 (.inr (.inr y61.1))).bind fun D62 =>
       (gIst (gAI D62 1 3) (gTop D62) 1 (0 : Int32) z53).bind fun D63 =>
       (gIst D63 (gTop D62) 1 (1 : Int32) y46.1).bind fun D64 =>
       (gIst D64 (gTop D62) 1 (2 : Int32) y49.1).bind fun D65 =>
       (F_L_writeNumbers (s17.2.1, D65) p1 (some (.inr 14)) (gTop D62)).bind fun y66 =>
       some (.inl ((s17.1 - (1 : Int32)), (y66.1, y66.2)))
      else
       (gFr y52.2 o 8 3).bind fun r67 =>
       (gQld y52.2 r67 y49.1).bind fun r68 =>
       (gIld y52.2 r68 1 (1 : Int32)).bind fun z69 =>
       if z69 = z53 then
        (gFr y52.2 o 8 4).bind fun r70 =>
        (gIst (gAI y52.2 1 3) (gTop y52.2) 1 (0 : Int32) z53).bind fun D71 =>
        (gIst D71 (gTop y52.2) 1 (1 : Int32) y46.1).bind fun D72 =>
        (gIst D72 (gTop y52.2) 1 (2 : Int32) y49.1).bind fun D73 =>
        (F_L_with D73 r70 (gTop y52.2)).bind fun y74 =>
        (gFst y74.2 o 8 4 (.inr (.inr y74.1))).bind fun D75 =>
        (gIst (gAI D75 1 3) (gTop D75) 1 (0 : Int32) z53).bind fun D76 =>
        (gIst D76 (gTop D75) 1 (1 : Int32) y46.1).bind fun D77 =>
        (gIst D77 (gTop D75) 1 (2 : Int32) y49.1).bind fun D78 =>
        (F_L_writeNumbers (s17.2.1, D78) p1 (some (.inr 14)) (gTop D75)).bind fun y79 =>
        some (.inl ((s17.1 - (1 : Int32)), (y79.1, y79.2)))
       else
        some (.inl ((s17.1 - (1 : Int32)), (s17.2.1, y52.2)))
noncomputable def deB {τ : Type} (X : rSt → Option (rSt ⊕ τ)) (o p1 p2 : gRF) (s19 : rSt) : Option (rSt ⊕ τ) :=
 if s19.1 ≤ 0 then X s19 else
        (gFi s19.2.2 o 8 0).bind fun z35 =>
        (F_X10_below s19.2.2 p2 z35).bind fun y36 =>
        (gFr y36.2 o 8 5).bind fun r37 =>
        (gFr y36.2 o 8 5).bind fun r38 =>
        (gLen y36.2 r38).bind fun z39 =>
        (F_L_inserted y36.2 r37 z39 y36.1).bind fun y40 =>
        (gFst y40.2 o 8 5 (.inr (.inr y40.1))).bind fun D41 =>
        (gIst (gAI D41 1 1) (gTop D41) 1 (0 : Int32) y36.1).bind fun D42 =>
        (F_L_writeNumbers (s19.2.1, D42) p1 (some (.inr 16)) (gTop D41)).bind fun y43 =>
        some (.inl ((s19.1 - (1 : Int32)), (y43.1, y43.2)))
noncomputable def enB (o p1 p2 : gRF) (s19 : rSt) : Option (rSt ⊕ (rSt ⊕ (rSt ⊕ (gRF × gST)))) :=
        (F_X10_below s19.2.2 p2 (2 : Int32)).bind fun y20 =>
        jn (fun (v22 : gST) =>
         (F_X8_solve v22.2 o).bind fun y23 =>
         (F_L_loadText (v22.1, y23) p1).bind fun y24 =>
         (gFr y24.2.2 o 8 3).bind fun r25 =>
         (gLen y24.2.2 r25).bind fun z26 =>
         if ¬ y24.1 = z26 then
          some (.inr (.inr (.inr ((none, (y24.2.1, y24.2.2))))))
         else
          some (.inr (.inr (.inr ((o, (y24.2.1, y24.2.2))))))) (fun k21 =>
         if ¬ y20.1 = 0 then
          k21 ((s19.2.1, y20.2))
         else
          (F_X10_below y20.2 p2 (3 : Int32)).bind fun y27 =>
          (R_X9_random 4 y27.2 p2 y27.1).bind fun y28 =>
          (gFst y28.2 o 8 2 (.inr (.inr y28.1))).bind fun D29 =>
          (F_L_write (s19.2.1, D29) p1 (some (.inr 18))).bind fun y30 =>
          (gFr y30.2 o 8 2).bind fun r31 =>
          (R_X9_text 4 y30.2 r31 (0 : Int32)).bind fun y32 =>
          (F_L_write (y30.1, y32.2) p1 y32.1).bind fun y33 =>
          (F_L_write (y33.1, y33.2) p1 (some (.inr 22))).bind fun y34 =>
          k21 ((y34.1, y34.2)))
noncomputable def xD (o p1 p2 : gRF) (s17 : rSt) : Option (rSt ⊕ (rSt ⊕ (gRF × gST))) := (F_X10_below s17.2.2 p2 (3 : Int32)).bind fun y18 => loop (deB (enB o p1 p2) o p1 p2) (((1 : Int32) + y18.1), (s17.2.1, y18.2))
noncomputable def xB (o p1 p2 : gRF) (s15 : rSt) : Option (rSt ⊕ (gRF × gST)) := (F_X10_below s15.2.2 p2 (9 : Int32)).bind fun y16 => loop (baB (xD o p1 p2) o p1 p2) (y16.1, (s15.2.1, y16.2))
set_option maxRecDepth 100000 in
theorem randomCity_is (s : gST) (p1 p2 : gRF) (p3 : Int32) : F_L_randomCity s p1 p2 p3 =
 (F_X8_init (gNwO s.2 8) (gTop s.2)).bind fun y1 =>
 (F_X10_below y1 p2 (5 : Int32)).bind fun y2 =>
 (gFst y2.2 (gTop s.2) 8 0 (.inl ((2 : Int32) + y2.1))).bind fun D3 =>
 (F_X10_below D3 p2 (2 : Int32)).bind fun y4 =>
 jn (fun (v6 : Int32) =>
  (F_X10_below y4.2 p2 v6).bind fun y7 =>
  (gFst y7.2 (gTop s.2) 8 1 (.inl ((1 : Int32) + y7.1))).bind fun D8 =>
  (gFi (gAI D8 1 2) (gTop s.2) 8 0).bind fun z9 =>
  (gIst (gAI D8 1 2) (gTop D8) 1 (0 : Int32) z9).bind fun D10 =>
  (gFi D10 (gTop s.2) 8 1).bind fun z11 =>
  (gIst D10 (gTop D8) 1 (1 : Int32) z11).bind fun D12 =>
  (F_L_writeNumbers (s.1, D12) p1 (some (.inr 10)) (gTop D8)).bind fun y13 =>
  (F_X10_below y13.2 p2 p3).bind fun y14 =>
  loop (edB (xB (gTop s.2) p1 p2) (gTop s.2) p1 p2) (((1 : Int32) + y14.1), (y13.1, y14.2))) (fun k5 =>
  if ¬ y4.1 = 0 then
   k5 ((150 : Int32))
  else
   k5 ((999 : Int32))) := rfl
theorem gE.onW {D A B : gDS} {W W' : Nat → Prop} (x : gE W D A) (y : gE W' A B) (hw : ∀ i, W' i → D.1.length ≤ i ∨ W i) : gE W D B :=
  ⟨Nat.le_trans x.1 y.1, fun i hi hn => (y.2 i (Nat.lt_of_lt_of_le hi x.1) (fun w => by
    rcases hw i w with z | z
    · omega
    · exact hn z)).trans (x.2 i hi hn)⟩
/-- the parts of a city under way -/
def RCP (m : Nat) (A : gDS) (N : NT) (B : List (Nat × Nat × Nat)) (e b d hh tt : Nat) : Prop := GEm A m N e ∧ GBm A m N b B ∧ (GDp A N d ∧ m ≤ d) ∧ (tI A hh [] ∧ m ≤ hh) ∧ (tQ A tt [] ∧ m ≤ tt)
theorem RCP.ext {m : Nat} {A C : gDS} {N : NT} {B : List (Nat × Nat × Nat)} {e b d hh tt : Nat} {W : Nat → Prop} (h : RCP m A N B e b d hh tt) (x : gE W A C) (hw : ∀ i, i < A.1.length → W i → i < m ∨ kt A i = 108) : RCP m C N B e b d hh tt := by
  obtain ⟨h1, h2, ⟨h3, h4⟩, ⟨h5, h6⟩, ⟨h7, h8⟩⟩ := h
  have no : ∀ i xs, m ≤ i → tI A i xs → ¬ W i := fun i xs hi t q => by
    rcases hw i (tI_lt t) q with z | z
    · omega
    · rw [t.tg] at z
      omega
  refine ⟨h1.ext x hw, h2.ext x hw, ⟨x.tI (no _ _ h4 h3) h3, h4⟩, ⟨x.tI (no _ _ h6 h5) h5, h6⟩, ⟨x.tQ (fun q => ?_) h7, h8⟩⟩
  rcases hw tt (tQ_lt h7) q with z | z
  · omega
  · rw [h7.tg] at z
    omega
/-- a city under way -/
def RCI (h0 : PH) (D0 : gDS) (buf rnd c : Nat) (s : gST) (N : NT) (its : List Itm) (B : List (Nat × Nat × Nat)) (e b d hh tt : Nat) : Prop :=
  CO s.2 c N none e b d hh tt none ∧ RCP D0.1.length s.2 N B e b d hh tt ∧ (D0.1.length ≤ c ∧ e ≠ tt ∧ b ≠ tt) ∧ TW s.1 s.2 buf (rend its) ∧ FWr h0 s.1 ∧ RD s.2 rnd ∧ gE (fun j => j = buf ∨ j = rnd) D0 s.2 ∧ (WN N ∧ PRD its N none ∧ 2 ≤ wN N) ∧ (goodF 0 its ∧ lastK 0 its = 0) ∧ (buf < D0.1.length ∧ rnd < D0.1.length)
theorem sh0 : ∀ q, q < 14 → ((0 : Int32) >>> (nI q &&& 31)) &&& (1 : Int32) = 0 := by decide +kernel
theorem st_good {its w : List Itm} {vs : List Nat} (h : goodF 0 its ∧ lastK 0 its = 0) (hw : goodF 0 w) (hv : ∀ v ∈ vs, v < 10000) : goodF 0 (its ++ (w ++ (numI vs ++ [(0, 59)]))) ∧ lastK 0 (its ++ (w ++ (numI vs ++ [(0, 59)]))) = 0 := by
  refine ⟨goodF_app h.1 (by rw [h.2]; exact goodF_app hw (goodF_nums vs _ hv)), ?_⟩
  rw [lastK_app, lastK_app]
  exact lastK_nums vs _
theorem st_rend {its w : List Itm} {vs : List Nat} : rend (its ++ (w ++ (numI vs ++ [(0, 59)]))) = rend its ++ rend w ++ rend (numI vs) ++ [59] := by
  rw [rend_app, rend_app, rend_app]
  show rend its ++ (rend w ++ (rend (numI vs) ++ [59])) = _
  simp only [List.append_assoc]
section RCE
variable {h0 : PH} {D0 : gDS} {buf rnd c : Nat}
set_option maxRecDepth 4000 in
theorem rc_edge {τ : Type} {X : rSt → Option (rSt ⊕ τ)} {s : gST} {N : NT} {its : List Itm} {e b d hh tt k : Nat} (hI : RCI h0 D0 buf rnd c s N its [] e b d hh tt) (hE : wE N < 8) (hz : ∀ a, wBn N a = 0) (hsv : ∀ a, a < 2 * wE N → wSv N a = wCo N a) (hl : (rend its).length ≤ 600) (hk : k < 100) : ∃ s' N' its' e', loop (edB X (rf c) (rf buf) (rf rnd)) (nI (k + 1), s) = loop (edB X (rf c) (rf buf) (rf rnd)) (nI k, s') ∧ RCI h0 D0 buf rnd c s' N' its' [] e' b d hh tt ∧ wE N' = wE N + 1 ∧ wD N' = wD N ∧ (∀ a, wBn N' a = 0) ∧ (∀ a, a < 2 * wE N' → wSv N' a = wCo N' a) ∧ (rend its').length ≤ (rend its).length + 31 ∧ gMd 2 14 s.2 s'.2 := by
  obtain ⟨hC, hP, ⟨hc0, hne1, hne2⟩, hW, hF, hR, hx, ⟨hN, hPR, hN2⟩, hG, ⟨hb0, hr0⟩⟩ := hI
  obtain ⟨h, D⟩ := s
  dsimp only at hC hP hW hF hR hx ⊢
  have hN8 := hN.1
  have hcr : ¬ c = rnd := by omega
  have hcb : ¬ c = buf := by omega
  have hbr : ¬ buf = rnd := fun z => by
    have := hR.kt
    rw [← z, hW.kt] at this
    omega
  have lD := hx.1
  -- the random numbers and the row
  obtain ⟨a, D1, a1, a2, a3, a4, a5, a6⟩ := g_below hR (show 0 < wN N by omega) (by omega)
  have C1 := a4.tO hcr hC
  obtain ⟨v, D2, b1, b2, b3, b4, b5, b6⟩ := g_below a3 (show 0 < wN N - 1 by omega) (by omega)
  have C2 := b4.tO hcr C1
  obtain ⟨bb, hbb⟩ : ∃ bb, bb = (a + 1 + v) % wN N := ⟨_, rfl⟩
  have bb1 : bb < wN N := by rw [hbb]; exact Nat.mod_lt _ (by omega)
  have bb2 : a ≠ bb := by
    rw [hbb]
    rcases Nat.lt_or_ge (a + 1 + v) (wN N) with z | z
    · rw [Nat.mod_eq_of_lt z]
      omega
    · rw [Nat.mod_eq_sub_mod z, Nat.mod_eq_of_lt (by omega)]
      omega
  have x2 : gE (fun j => j = rnd ∨ j = c) D D2 := (a4.tr b4).mono (fun _ _ z => Or.inl z)
  obtain ⟨t3, y3, l3, m3⟩ := gAI_t (D := D2) (n := 5)
  have ri1 : D2.1.length = D.1.length := by omega
  have nrr : ¬ D2.1.length = rnd := by omega
  have toW : ∀ {A B : gDS}, gE (fun j => j = rnd ∨ j = c) D A → gE (fun j => j = D2.1.length) A B → gE (fun j => j = rnd ∨ j = c) D B := fun {A B} x y => x.onW y (fun i hi => Or.inl (by omega))
  have toR : ∀ {A B : gDS}, gE (fun j => j = rnd ∨ j = c) D A → gE (fun j => j = rnd) A B → gE (fun j => j = rnd ∨ j = c) D B := fun {A B} x y => x.tr (y.mono (fun _ _ z => Or.inl z))
  have x3 : gE (fun j => j = rnd ∨ j = c) D (gAI D2 1 5) := x2.tr (y3.mono (fun _ _ z => absurd z id))
  obtain ⟨D4, c1, c2, c3, c4, c5⟩ := ia_st (k := 0) (v := nI a) t3 (by rw [List.length_replicate]; omega) (by omega)
  have x4 := toW x3 c3
  obtain ⟨D5, d1, d2, d3, d4, d5⟩ := ia_st (k := 1) (v := nI bb) c2 (by rw [List.length_set, List.length_replicate]; omega) (by omega)
  have x5 := toW x4 d3
  have R5 : RD D5 rnd := ((b3.ext y3 id).ext c3 (fun z => nrr z.symm)).ext d3 (fun z => nrr z.symm)
  obtain ⟨k1, D6, e1, e2, e3, e4, e5, e6⟩ := g_below R5 (show 0 < 99 by omega) (by omega)
  have x6 := toR x5 e4
  obtain ⟨D7, f1, f2, f3, f4, f5⟩ := ia_st (k := 2) (v := nI (1 + k1)) (e4.tI nrr d2) (by rw [List.length_set, List.length_set, List.length_replicate]; omega) (by omega)
  have x7 := toW x6 f3
  obtain ⟨k2, D8, g1, g2, g3, g4, g5, g6⟩ := g_below (e3.ext f3 (fun z => nrr z.symm)) (show 0 < 99 by omega) (by omega)
  have x8 := toR x7 g4
  obtain ⟨D9, i1', i2', i3', i4', i5'⟩ := ia_st (k := 3) (v := nI (1 + k2)) (g4.tI nrr f2) (by rw [List.length_set, List.length_set, List.length_set, List.length_replicate]; omega) (by omega)
  have x9 := toW x8 i3'
  obtain ⟨q, D10, j1, j2, j3, j4, j5, j6⟩ := g_below (g3.ext i3' (fun z => nrr z.symm)) (show 0 < 4 by omega) (by omega)
  have x10 := toR x9 j4
  have dem : ∃ dm D11, (∀ K : Int32 × gST → Option (rSt ⊕ τ), jn K (fun k93 => if ¬ nI q = 0 then (F_X10_below D10 (rf rnd) (100 : Int32)).bind fun y100 => k93 (y100.1, (h, y100.2)) else k93 ((0 : Int32), (h, D10))) = K (nI dm, (h, D11))) ∧ dm ≤ 99 ∧ RD D11 rnd ∧ gE (fun j => j = rnd) D10 D11 ∧ D11.1.length = D10.1.length ∧ D11.2 = D10.2 := by
    by_cases z : q = 0
    · refine ⟨0, D10, fun K => ?_, by omega, j3, gE.rf _, rfl, rfl⟩
      unfold jn
      dsimp only
      rw [z, if_neg (fun y => y rfl)]
      rfl
    · obtain ⟨w, E, w1, w2, w3, w4, w5, w6⟩ := g_below j3 (show 0 < 100 by omega) (by omega)
      refine ⟨w, E, fun K => ?_, by omega, w3, w4, w5, w6⟩
      unfold jn
      dsimp only
      rw [if_pos (nz_I z (by omega)), show F_X10_below D10 (rf rnd) (100 : Int32) = _ from w1, Option.bind_some]
  obtain ⟨dm, D11, hdm, dm1, R11, y11, l11, m11⟩ := dem
  have x11 := toR x10 y11
  obtain ⟨D12, o1, o2, o3, o4, o5⟩ := ia_st (k := 4) (v := nI dm) (y11.tI nrr (j4.tI nrr i2')) (by rw [List.length_set, List.length_set, List.length_set, List.length_set, List.length_replicate]; omega) (by omega)
  have x12 := toW x11 o3
  have row : tI D12 D2.1.length ([a, bb, 1 + k1, 1 + k2, dm].map nI) := o2
  have l12 : D12.1.length = D2.1.length + 1 := by omega
  have m12 : gMd 1 5 D D12 := by
    have e0 : D12.2 = (gAI D2 1 5).2 := o5.trans (m11.trans (j6.trans (i5'.trans (g6.trans (f5.trans (e6.trans (d5.trans c5)))))))
    have e1 : D2.2 = D.2 := b6.trans a6
    exact ⟨by rw [e0]; have := m3.1; rw [e1] at this; exact this, by rw [e0]; have := m3.2; rw [e1] at this; exact this⟩
  have P12 : RCP D0.1.length D12 N [] e b d hh tt := hP.ext x12 (fun i hi z => by
    rcases z with z | z
    · exact Or.inl (by omega)
    · exact Or.inr (by rw [z]; exact hC.tg))
  have C12 : CO D12 c N none e b d hh tt none := by
    have h0 := (b4.tO hcr (a4.tO hcr hC))
    have ncr : ¬ c = D2.1.length := fun z => by have := tO_lt hC; omega
    exact o3.tO ncr (y11.tO hcr (j4.tO hcr (i3'.tO ncr (g4.tO hcr (f3.tO ncr (e4.tO hcr (d3.tO ncr (c3.tO ncr (y3.tO id h0)))))))))
  have W12 : TW h D12 buf (rend its) := hW.ext x12 (fun z => by omega)
  have R12 : RD D12 rnd := R11.ext o3 (fun z => nrr z.symm)
  obtain ⟨q1, q2, ⟨q3, q4⟩, ⟨q5, q6⟩, ⟨q7, q8⟩⟩ := P12
  obtain ⟨em, es, es1, es2, es3⟩ := q1
  obtain ⟨D13, p1, p2, p3, p4, p5⟩ := g_with es1 (fun kk r hr => by
    obtain ⟨i, -, e4, e5⟩ := es3 kk (by have := (List.getElem?_eq_some_iff.mp hr).1; omega)
    rw [e4] at hr
    injection hr with hr
    exact ⟨i, _, hr.symm, e5⟩) row (by omega)
  have C13 : CO D13 c N none e b d hh tt none := p3.tO id C12
  have s14 : gFst D13 (rf c) 8 3 (.inr (.inr (rf D12.1.length))) = some (gSet D13 c (.inl (8, [.inl (nI (wN N)), .inl (nI (wC N)), .inr (.inr none), .inr (.inr (rf D12.1.length)), .inr (.inr (rf b)), .inr (.inr (rf d)), .inr (.inr (rf hh)), .inr (.inr (rf tt)), .inr (.inr none)]))) := gFst_t C13 (by show 3 < 9; omega)
  have C14 : CO (gSet D13 c (.inl (8, [.inl (nI (wN N)), .inl (nI (wC N)), .inr (.inr none), .inr (.inr (rf D12.1.length)), .inr (.inr (rf b)), .inr (.inr (rf d)), .inr (.inr (rf hh)), .inr (.inr (rf tt)), .inr (.inr none)]))) c N none D12.1.length b d hh tt none := gSet_at (tO_lt C13)
  have y14 : gE (fun j => j = c) D13 (gSet D13 c (.inl (8, [.inl (nI (wN N)), .inl (nI (wC N)), .inr (.inr none), .inr (.inr (rf D12.1.length)), .inr (.inr (rf b)), .inr (.inr (rf d)), .inr (.inr (rf hh)), .inr (.inr (rf tt)), .inr (.inr none)]))) := gSet_E (Or.inl rfl)
  have l14 : (gSet D13 c (.inl (8, [.inl (nI (wN N)), .inl (nI (wC N)), .inr (.inr none), .inr (.inr (rf D12.1.length)), .inr (.inr (rf b)), .inr (.inr (rf d)), .inr (.inr (rf hh)), .inr (.inr (rf tt)), .inr (.inr none)]))).1.length = D13.1.length := gSet_len
  have m14 : (gSet D13 c (.inl (8, [.inl (nI (wN N)), .inl (nI (wC N)), .inr (.inr none), .inr (.inr (rf D12.1.length)), .inr (.inr (rf b)), .inr (.inr (rf d)), .inr (.inr (rf hh)), .inr (.inr (rf tt)), .inr (.inr none)]))).2 = D13.2 := rfl
  generalize hD14 : gSet D13 c (.inl (8, [.inl (nI (wN N)), .inl (nI (wC N)), .inr (.inr none), .inr (.inr (rf D12.1.length)), .inr (.inr (rf b)), .inr (.inr (rf d)), .inr (.inr (rf hh)), .inr (.inr (rf tt)), .inr (.inr none)])) = D14 at *
  have x1214 : gE (fun j => j = c) D12 D14 := (p3.mono (fun _ _ z => absurd z id)).tr y14
  have x14 : gE (fun j => j = rnd ∨ j = c) D D14 := x12.tr (x1214.mono (fun _ _ z => Or.inr z))
  have hkc : kt D12 c = 108 := C12.tg
  have row14 : tI D14 D2.1.length ([a, bb, 1 + k1, 1 + k2, dm].map nI) := x1214.tI (fun z => by have := row.tg; rw [z, hkc] at this; omega) row
  have W14 : TW h D14 buf (rend its) := W12.ext x1214 (fun z => hcb z.symm)
  have vok : ∀ w ∈ [a, bb, 1 + k1, 1 + k2, dm], w < 1000 := fun w hw => by
    simp at hw
    omega
  obtain ⟨s', u1, u2, u3, u4, u5⟩ := w_nums (WO.rf W14) (bs := rend [(3, 0), (2, 1)]) (r := some (.inr 12)) (vs := [a, bb, 1 + k1, 1 + k2, dm]) (a := D2.1.length) (SS_c (j := 1) (by omega)) (by decide) row14 (by have := hW.1; have := tI_lt this; omega) vok (by show (rend its).length + 5 + 5 * 5 + 1 ≤ 680; omega) (by show 5 ≤ 10; omega)
  rw [← st_rend] at u2
  have hst : toks ([(3, 0), (2, 1)] ++ (numI [a, bb, 1 + k1, 1 + k2, dm] ++ [(0, 59)])) = [(2, 1), (1, a), (1, bb), (1, 1 + k1), (1, 1 + k2), (1, dm), (0, 59)] := rfl
  have hNN := addE_WN hN (show wE N < 14 by omega) a2 bb1 bb2 (show 1 ≤ 1 + k1 ∧ 1 + k1 ≤ 99 by omega) (show 1 ≤ 1 + k2 ∧ 1 + k2 ≤ 99 by omega) (show dm ≤ 99 by omega)
  have hPR' : PRD (its ++ ([(3, 0), (2, 1)] ++ (numI [a, bb, 1 + k1, 1 + k2, dm] ++ [(0, 59)]))) (addE N a bb (1 + k1) (1 + k2) dm) none := pr_step hPR (by rw [hst]; exact st_edge (by omega) a2 bb1 bb2 (by omega) (by omega) (by omega)) ⟨_, _, hst, fun _ => by show 1 < 7; omega⟩
  have ldr : (rend (numI [a, bb, 1 + k1, 1 + k2, dm])).length ≤ 25 := numI_len _ (fun w hw => by have := vok w hw; omega)
  have xs : gE (fun j => j = buf ∨ j = rnd) D0 s'.2 := by
    refine (hx.onW x14 (fun i hi => ?_)).tr (u4.mono (fun _ _ z => Or.inl z))
    rcases hi with z | z
    · exact Or.inr (Or.inr z)
    · exact Or.inl (by omega)
  have P' : RCP D0.1.length s'.2 (addE N a bb (1 + k1) (1 + k2) dm) [] D12.1.length b d hh tt := by
    have P12' : RCP D0.1.length D14 (addE N a bb (1 + k1) (1 + k2) dm) [] D12.1.length b d hh tt := by
      have okc : ∀ i xs, tI D12 i xs → ¬ i = c := fun i xs t z => by
        have := t.tg
        rw [z, hkc] at this
        omega
      refine ⟨⟨by omega, es ++ [rf D2.1.length], ?_, ?_, fun kk hkk => ?_⟩, ?_, ⟨?_, q4⟩, ⟨x1214.tI (okc _ _ q5) q5, q6⟩, ⟨x1214.tQ (fun z => by have := q7.tg; rw [z, hkc] at this; omega) q7, q8⟩⟩
      · exact y14.tQ (fun z => by have := tO_lt C12; omega) p2
      · rw [List.length_append, es2]
        rfl
      · have hkk : kk < wE N + 1 := hkk
        rcases Nat.lt_or_ge kk (wE N) with z | z
        · obtain ⟨i, e4, e5, e6⟩ := es3 kk z
          refine ⟨i, e4, by rw [List.getElem?_append_left (by omega)]; exact e5, ?_⟩
          have er : eRow (addE N a bb (1 + k1) (1 + k2) dm) kk = eRow N kk := by
            unfold eRow
            rw [addE_T, addE_T, addE_C, addE_C, addE_D, if_neg (by omega), if_neg (by omega), if_neg (by omega), if_neg (by omega), if_neg (by omega), if_neg (by omega), if_neg (by omega), if_neg (by omega), if_neg (by omega)]
          rw [er]
          exact x1214.tI (okc _ _ e6) e6
        · obtain rfl : kk = wE N := by omega
          refine ⟨D2.1.length, by omega, by rw [List.getElem?_append_right (by omega), es2, Nat.sub_self]; rfl, ?_⟩
          have er : eRow (addE N a bb (1 + k1) (1 + k2) dm) (wE N) = [a, bb, 1 + k1, 1 + k2, dm].map nI := by
            unfold eRow
            rw [addE_T, addE_T, addE_C, addE_C, addE_D, if_pos rfl, if_neg (by omega), if_pos rfl, if_pos rfl, if_neg (by omega), if_pos rfl, if_pos rfl]
            rfl
          rw [er]
          exact row14
      · obtain ⟨bm, bs, b1, b2, b3, b4⟩ := q2
        refine ⟨bm, bs, x1214.tQ (fun z => by have := b1.tg; rw [z, hkc] at this; omega) b1, b2, fun j x hx => (by cases hx), fun x y hx hy _ => ?_⟩
        have hy : y < 2 * (wE N + 1) := hy
        have e0 : wBn (addE N a bb (1 + k1) (1 + k2) dm) x = 0 := by
          rw [addE_B]
          split
          · rfl
          · exact hz x
        rw [e0]
        exact ⟨fun _ z => (by cases z), fun _ => sh0 _ (by omega)⟩
      · exact x1214.tI (okc _ _ q3) q3
    exact P12'.ext u4 (fun i hi z => Or.inl (by have : i = buf := z; omega))
  refine ⟨s', addE N a bb (1 + k1) (1 + k2) dm, _, D12.1.length, ?_, ⟨u4.tO hcb C14, P', ⟨hc0, ?_, hne2⟩, u2, hF.trans u3, ((R12.ext p3 id).ext y14 (fun z => hcr z.symm)).ext u4 (fun z => hbr z.symm), xs, ⟨hNN, hPR', hN2⟩, st_good hG (by refine ⟨Or.inr (Or.inr (Or.inr rfl)), fun z => by omega, Or.inr (Or.inr (Or.inl ⟨rfl, by show 1 < 7; omega⟩)), fun z => by have : (3 : Nat) = 2 := z.1; omega, trivial⟩) (fun w hw => by have := vok w hw; omega), hb0, hr0⟩, rfl, rfl, fun x => ?_, fun x hxx => ?_, ?_, ?_⟩
  · conv => lhs; rw [loop_eq]; unfold edB
    have n1 : ¬ nI (k + 1) ≤ (0 : Int32) := fun z => by
      have := (nI_le' (a := k + 1) (b := 0) (by omega) (by omega)).mp z
      omega
    have e9 : nI (k + 1) - (1 : Int32) = nI k := by rw [i1, nI_sub (by omega), Nat.add_sub_cancel]
    have e8 : (nI a + (1 : Int32)) + nI v = nI (a + 1 + v) := by rw [nI_1, nI_add]
    have ew : nI (wN N) - (1 : Int32) = nI (wN N - 1) := pm1 (by omega)
    have f1k : ∀ x, (1 : Int32) + nI x = nI (1 + x) := fun x => nI_add 1 x
    dsimp only
    rw [if_neg n1, gFi_t hC (b := 0) rfl, Option.bind_some, a1, Option.bind_some]
    dsimp only
    rw [gFi_t C1 (b := 0) rfl, Option.bind_some, ew, b1, Option.bind_some]
    dsimp only
    rw [gFi_t C2 (b := 0) rfl, Option.bind_some, e8, gRm_n (by omega) (by omega) (by omega), ← hbb, Option.bind_some, gTop_rf D2, show gIst (gAI D2 1 5) (rf D2.1.length) 1 (0 : Int32) (nI a) = some D4 from c1, Option.bind_some, show gIst D4 (rf D2.1.length) 1 (1 : Int32) (nI bb) = some D5 from d1, Option.bind_some, show F_X10_below D5 (rf rnd) (99 : Int32) = _ from e1, Option.bind_some]
    dsimp only
    rw [f1k, show gIst D6 (rf D2.1.length) 1 (2 : Int32) (nI (1 + k1)) = some D7 from f1, Option.bind_some, show F_X10_below D7 (rf rnd) (99 : Int32) = _ from g1, Option.bind_some]
    dsimp only
    rw [f1k, show gIst D8 (rf D2.1.length) 1 (3 : Int32) (nI (1 + k2)) = some D9 from i1', Option.bind_some, show F_X10_below D9 (rf rnd) (4 : Int32) = _ from j1, Option.bind_some]
    dsimp only
    rw [hdm]
    dsimp only
    rw [show gIst D11 (rf D2.1.length) 1 (4 : Int32) (nI dm) = some D12 from o1, Option.bind_some, gFr_t C12 (b := 3) rfl, Option.bind_some, p1, Option.bind_some]
    dsimp only
    rw [gTop_rf D12, s14, Option.bind_some, u1, Option.bind_some, Option.bind_some, e9]
    rfl
  · intro z
    have := tQ_lt q7
    omega
  · rw [addE_B]
    split
    · rfl
    · exact hz x
  · have hxx : x < 2 * (wE N + 1) := hxx
    rw [addE_S, addE_C]
    by_cases z1 : x = 2 * wE N
    · rw [if_pos z1, if_pos z1]
    · rw [if_neg z1, if_neg z1]
      by_cases z2 : x = 2 * wE N + 1
      · rw [if_pos z2, if_pos z2]
      · rw [if_neg z2, if_neg z2]
        exact hsv x (by omega)
  · rw [st_rend]
    have : (rend [(3, 0), (2, 1)]).length = 5 := rfl
    simp only [List.length_append, List.length_singleton]
    omega
  · have m13 := m12.tr p5
    have e3 : s'.2.2 = D13.2 := u5.trans m14
    exact ⟨by rw [e3]; have := m13.1; omega, by rw [e3]; have := m13.2; omega⟩
end RCE
