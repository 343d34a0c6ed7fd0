/-! CITY'S improve -/
noncomputable def iK_ (o : gRF) (b0 : Int32) (v4 : gDS) : Option ((Int32 × gDS) ⊕ (Int32 × gDS)) :=
  (F_X8_total v4 o).bind fun y5 => some (.inr (((b0 - y5.1), y5.2)))
noncomputable def iB_ (o : gRF) (b0 : Int32) (n : Int32) (s8 : gRF × Int32 × gDS) : Option ((gRF × Int32 × gDS) ⊕ ((Int32 × gDS) ⊕ (Int32 × gDS))) :=
     if s8.2.1 < 0 then
      if s8.1 = none then
       (iK_ o b0 (s8.2.2)).map Sum.inr
      else
       (F_X8_total s8.2.2 s8.1).bind fun y9 =>
       (F_X8_total y9.2 o).bind fun y10 =>
       if y9.1 < y10.1 then
        (gFr y10.2 s8.1 8 7).bind fun r11 =>
        (gFst y10.2 o 8 7 (.inr (.inr r11))).bind fun D12 =>
        some (.inr (.inl ((n + (1 : Int32)), D12)))
       else
        (iK_ o b0 (y10.2)).map Sum.inr
     else
      (F_X8_where s8.2.2 o s8.2.1).bind fun y13 =>
      jn (fun (v15 : gRF × gDS) =>
       if v15.1 = none then
        some (.inl (s8.1, (s8.2.1 - (1 : Int32)), v15.2))
       else
        if s8.1 = none then
         some (.inl (v15.1, (s8.2.1 - (1 : Int32)), v15.2))
        else
         (F_X8_total v15.2 v15.1).bind fun y16 =>
         (F_X8_total y16.2 s8.1).bind fun y17 =>
         if y17.1 < y16.1 then
          some (.inl (s8.1, (s8.2.1 - (1 : Int32)), y17.2))
         else
          some (.inl (v15.1, (s8.2.1 - (1 : Int32)), y17.2))) (fun k14 =>
       if y13.1 = none then
        k14 (none, y13.2)
       else
        (F_X8_changed y13.2 o s8.2.1).bind fun y18 =>
        k14 (y18.1, y18.2))
theorem improve_is (D : gDS) (o : gRF) (p0 : Int32) : F_X8_improve D o p0 = (gRv D o 8).bind fun _ => (F_X8_total D o).bind fun y1 => loop (fun (s2 : Int32 × gDS) => if p0 ≤ s2.1 then iK_ o y1.1 s2.2 else (gFr s2.2 o 8 3).bind fun r6 => (gLen s2.2 r6).bind fun z7 => loop (iB_ o y1.1 s2.1) (none, (z7 - (1 : Int32)), s2.2)) ((0 : Int32), y1.2) := rfl
section IMP
variable {D : gDS} {c e b d hh tt g : Nat} {N : NT} {sv : gRF} {P : PT}
theorem chE_eq {x t k code : Nat} {w : Int} (h1 : wTour P x = some t) (h2 : wPos P t x = some k) (h3 : wBest N (dpl P t k) x = some (code, w)) : chE N P x = bpl (dpl P t k) x code := by
  unfold chE
  rw [h1]
  dsimp only
  rw [h2]
  dsimp only
  rw [h3]
/-- a changed city at hand -/
def IB (D D' : gDS) (N : NT) (P : PT) (sv : gRF) (e b d hh g x0 : Nat) (r : gRF) : Prop := ∃ c' t2, r = rf c' ∧ D.1.length ≤ c' ∧ D.1.length ≤ t2 ∧ CV D' c' N sv e b d hh t2 g ∧ GP D' (chE N P x0) hh t2 ∧ (wTot N (chE N P x0) : Int) = wTot N P - wG N P x0 ∧ WP N (chE N P x0)
theorem IB.ext {A B : gDS} {x0 : Nat} {r : gRF} (h : IB D A N P sv e b d hh g x0 r) (x : gE noW A B) : IB D B N P sv e b d hh g x0 r := by
  obtain ⟨c', t2, h1, h2, h3, h4, h5, h6⟩ := h
  exact ⟨c', t2, h1, h2, h3, h4.ext x, h5.ext x, h6⟩
theorem IB.tot {A : gDS} {x0 : Nat} {r : gRF} (hN : WN N) (h8 : wE N ≤ 8) (h : IB D A N P sv e b d hh g x0 r) : ∃ D', F_X8_total A r = some (nI (wTot N (chE N P x0)), D') ∧ gE noW A D' ∧ gMd 8 16 A D' := by
  obtain ⟨c', t2, rfl, h2, h3, h4, h5, h6, h7⟩ := h
  obtain ⟨D', p1, p2, p3⟩ := g_totalA hN h7.1 h7.2.2 h4 h5
  have := aS_le h7.1 h7.2.1
  exact ⟨D', p1, p2, p3.mono (by omega) (by omega)⟩
/-- the search at E - l -/
def IR (D D' : gDS) (N : NT) (P : PT) (sv : gRF) (e b d hh g l : Nat) (r : gRF) : Prop :=
  (r = none ∧ ∀ x, wE N - l ≤ x → x < wE N → wG N P x = 0) ∨ ∃ x0, wE N - l ≤ x0 ∧ x0 < wE N ∧ IB D D' N P sv e b d hh g x0 r ∧ (∀ x, wE N - l ≤ x → x < wE N → wG N P x ≤ wG N P x0 ∨ wG N P x = 0) ∧ ∀ x, wE N - l ≤ x → x < x0 → wG N P x < wG N P x0 ∨ wG N P x = 0
theorem IR.nul {A B : gDS} {l : Nat} {r : gRF} (h : IR D A N P sv e b d hh g l r) (x : gE noW A B) (hl : l < wE N) (h0 : wG N P (wE N - 1 - l) = 0) : IR D B N P sv e b d hh g (l + 1) r := by
  have sp : ∀ x, wE N - (l + 1) ≤ x → x = wE N - 1 - l ∨ wE N - l ≤ x := fun x hx => by omega
  rcases h with ⟨h1, h2⟩ | ⟨x0, h1, h2, h3, h4, h5⟩
  · refine Or.inl ⟨h1, fun y hy hE => ?_⟩
    rcases sp y hy with rfl | q
    · exact h0
    · exact h2 y q hE
  · refine Or.inr ⟨x0, by omega, h2, h3.ext x, fun y hy hE => ?_, fun y hy hE => ?_⟩
    · rcases sp y hy with rfl | q
      · exact Or.inr h0
      · exact h4 y q hE
    · rcases sp y hy with rfl | q
      · exact Or.inr h0
      · exact h5 y q hE
theorem chE_le (hN : WN N) {Q : PT} (hp : WP N Q) : wTot N Q ≤ 732204 := tot_le hN hp.1 hp.2.2
/-- one edge tried -/
theorem g_impst {l : Nat} {r : gRF} {b0 n : Int32} (hN : WN N) (hp : WP N P) (h8 : wE N ≤ 8) {A : gDS} (xA : gE noW D A) (hV : CV A c N sv e b d hh tt g) (hP : GP A P hh tt) (hl : l < wE N) (hI : IR D A N P sv e b d hh g l r) : ∃ r' D', iB_ (rf c) b0 n (r, nI (wE N - 1 - l), A) = some (.inl (r', nI (wE N - 1 - l) - (1 : Int32), D')) ∧ IR D D' N P sv e b d hh g (l + 1) r' ∧ gE noW A D' ∧ gMd 486 1218 A D' := by
  have hx : wE N - 1 - l < wE N := by omega
  have sp : ∀ x, wE N - (l + 1) ≤ x → x = wE N - 1 - l ∨ wE N - l ≤ x := fun x hx => by omega
  have n1 : ¬ nI (wE N - 1 - l) < (0 : Int32) := nI_pos (by omega)
  obtain ⟨r2, D2, b1, b2⟩ := g_where hN hp.1 hV hP (show wE N - 1 - l < 2 ^ 31 by omega)
  unfold iB_ jn
  dsimp only
  rw [if_neg n1, b1, Option.bind_some]
  dsimp only
  rcases b2 with ⟨q1, rfl, rfl⟩ | ⟨t, k, q1, q2, rfl, q3, q4, q5, q6⟩
  · rw [if_pos rfl, if_pos rfl]
    exact ⟨_, D2, rfl, hI.nul (gE.rf D2) hl (wG_0 q1), gE.rf D2, (gMd.rf D2).mono (by omega) (by omega)⟩
  · have n2 : ¬ gTop A = none := fun z => by cases z
    obtain ⟨r3, D3, c1, c2, c3, c4⟩ := g_changed hN hp h8 (hV.ext q4) (hP.ext q4) hx q1 q2
    have x3 := q4.tr c3
    have m3 : gMd 470 1186 A D3 := (q6.tr c4).mono (by omega) (by omega)
    rw [if_neg n2, c1, Option.bind_some]
    rcases c2 with ⟨rfl, h0⟩ | ⟨c', t2, code, w, rfl, hsp, hb, l1, l2, hV2, hP2⟩
    · have hz : wG N P (wE N - 1 - l) = 0 := by
        rcases h0 with y | y
        · exact wG_1 q1 q2 y
        · by_cases hsp : wSpare N P t k = true
          · exact wG_2 q1 q2 hsp y
          · exact wG_1 q1 q2 hsp
      rw [if_pos rfl]
      exact ⟨_, D3, rfl, hI.nul x3 hl hz, x3, m3.mono (by omega) (by omega)⟩
    · have n3 : ¬ rf c' = none := fun z => by cases z
      obtain ⟨tc1, tc2⟩ := tot_chg hN hp hx q1 q2 hsp hb
      rw [← chE_eq q1 q2 hb] at tc1 tc2 hP2
      have lx := xA.1
      have lx2 := q4.1
      have hB : IB D D3 N P sv e b d hh g (wE N - 1 - l) (rf c') := ⟨c', t2, rfl, by omega, by omega, hV2, hP2, tc1, tc2⟩
      rw [if_neg n3]
      rcases hI with ⟨rfl, h2⟩ | ⟨x0, h1, h2, h3, h4, h5⟩
      · rw [if_pos rfl]
        refine ⟨_, D3, rfl, Or.inr ⟨_, by omega, hx, hB, fun y hy hE => ?_, fun y hy hE => by omega⟩, x3, m3.mono (by omega) (by omega)⟩
        rcases sp y hy with rfl | q
        · exact Or.inl (Int.le_refl _)
        · exact Or.inr (h2 y q hE)
      · have n4 : ¬ r = none := fun z => by
          obtain ⟨c9, t9, rfl, -⟩ := h3
          cases z
        have h3' := h3.ext x3
        obtain ⟨D4, d1, d2, d3⟩ := hB.tot hN h8
        obtain ⟨D5, e1, e2, e3⟩ := (h3'.ext d2).tot hN h8
        have t0 : (wTot N (chE N P x0) : Int) = wTot N P - wG N P x0 ∧ WP N (chE N P x0) := by
          obtain ⟨c9, t9, -, -, -, -, -, y1, y2⟩ := h3
          exact ⟨y1, y2⟩
        have b1 := chE_le hN t0.2
        have b2 := chE_le hN tc2
        have x5 := (x3.tr d2).tr e2
        have m5 : gMd 486 1218 A D5 := ((m3.tr d3).tr e3).mono (by omega) (by omega)
        rw [if_neg n4, d1, Option.bind_some, e1, Option.bind_some]
        by_cases z : wTot N (chE N P x0) < wTot N (chE N P (wE N - 1 - l))
        · rw [if_pos ((nI_lt' (by omega) (by omega)).mpr z)]
          refine ⟨_, D5, rfl, Or.inr ⟨x0, by omega, h2, (h3'.ext d2).ext e2, fun y hy hE => ?_, fun y hy hE => ?_⟩, x5, m5⟩
          · rcases sp y hy with rfl | q
            · exact Or.inl (by omega)
            · exact h4 y q hE
          · rcases sp y hy with rfl | q
            · exact Or.inl (by omega)
            · exact h5 y q hE
        · rw [if_neg (fun y => z ((nI_lt' (by omega) (by omega)).mp y))]
          refine ⟨_, D5, rfl, Or.inr ⟨_, by omega, hx, (hB.ext d2).ext e2, fun y hy hE => ?_, fun y hy hE => by omega⟩, x5, m5⟩
          rcases sp y hy with rfl | q
          · exact Or.inl (Int.le_refl _)
          · rcases h4 y q hE with v | v
            · exact Or.inl (by omega)
            · exact Or.inr v
/-- what a round does -/
def IO (D : gDS) (c : Nat) (N : NT) (P : PT) (sv : gRF) (e b d hh g : Nat) (b0 n : Int32) (u : (Int32 × gDS) ⊕ (Int32 × gDS)) : Prop :=
  ((wChg N P).1 = none ∧ ∃ D', u = .inr (b0 - nI (wTot N P), D') ∧ gE noW D D' ∧ gMd 3912 9792 D D') ∨ ∃ x0, wChg N P = (some x0, wG N P x0) ∧ (wTot N (chP N P) : Int) = wTot N P - wG N P x0 ∧ ∃ D' t2, u = .inl (n + (1 : Int32), D') ∧ CV D' c N sv e b d hh t2 g ∧ GP D' (chP N P) hh t2 ∧ D.1.length ≤ t2 ∧ gE (fun j => j = c) D D' ∧ gMd 3912 9792 D D'
theorem g_impin {b0 n : Int32} (hN : WN N) (hp : WP N P) (h8 : wE N ≤ 8) (hV : CV D c N sv e b d hh tt g) (hP : GP D P hh tt) : ∃ u, loop (iB_ (rf c) b0 n) (none, nI (wE N) - (1 : Int32), D) = some u ∧ IO D c N P sv e b d hh g b0 n u := by
  refine loop_ind0 (fun l s => l ≤ wE N ∧ ∃ r D', s = (r, zi ((wE N : Int) - 1 - (l : Int)), D') ∧ IR D D' N P sv e b d hh g l r ∧ gE noW D D' ∧ gMd (486 * l) (1218 * l) D D') _ (wE N) ⟨by omega, none, D, by rw [nI_zi, show (1 : Int32) = zi 1 from rfl, zi_sub]; congr 3; omega, Or.inl ⟨rfl, fun x h1 h2 => by omega⟩, gE.rf D, gMd.rf D⟩ (fun l s hI => ?_)
  obtain ⟨hl, r, D', rfl, hR, x, m⟩ := hI
  rcases Nat.lt_or_ge l (wE N) with q | q
  · have e1 : zi ((wE N : Int) - 1 - (l : Int)) = nI (wE N - 1 - l) := by
      rw [nI_zi]
      congr 1
      omega
    obtain ⟨r2, D2, p1, p2, p3, p4⟩ := g_impst (b0 := b0) (n := n) hN hp h8 x (hV.ext x) (hP.ext x) q hR
    rw [e1]
    refine Or.inr ⟨q, _, p1, q, r2, D2, ?_, p2, x.tr p3, (m.tr p4).mono (by omega) (by omega)⟩
    rw [nI_zi, show (1 : Int32) = zi 1 from rfl, zi_sub]
    congr 3
    omega
  · obtain rfl : l = wE N := by omega
    have n1 : zi ((wE N : Int) - 1 - (wE N : Int)) < (0 : Int32) := (zi_lt (b := 0) (by omega) (by omega)).mpr (by omega)
    have hV' := hV.ext x
    have hP' := hP.ext x
    have haS := aS_le hp.1 hp.2.1
    refine Or.inl ?_
    unfold iB_
    dsimp only
    rw [if_pos n1]
    rcases hR with ⟨rfl, h2⟩ | ⟨x0, h1, h2, h3, h4, h5⟩
    · obtain ⟨D3, t1, t2, t3⟩ := g_totalA hN hp.1 hp.2.2 hV' hP'
      rw [if_pos rfl]
      unfold iK_
      rw [t1, Option.bind_some]
      refine ⟨_, rfl, Or.inl ⟨?_, D3, rfl, x.tr t2, (m.tr t3).mono (by omega) (by omega)⟩⟩
      unfold wChg
      rw [fG_all (wE N) (fun y hy => by rw [h2 y (by omega) hy]; exact Int.le_refl 0)]
    · have n4 : ¬ r = none := fun z => by
        obtain ⟨c9, t9, rfl, -⟩ := h3
        cases z
      obtain ⟨D4, d1, d2, d3⟩ := h3.tot hN h8
      obtain ⟨D5, e1, e2, e3⟩ := g_totalA hN hp.1 hp.2.2 (hV'.ext d2) (hP'.ext d2)
      have h3' := (h3.ext d2).ext e2
      have hV5 := (hV'.ext d2).ext e2
      have hP5 := (hP'.ext d2).ext e2
      have x5 := (x.tr d2).tr e2
      have m5 := (m.tr d3).tr e3
      obtain ⟨c9, t9, rfl, y1, y2, y3, y4, y5, y6⟩ := h3'
      have b1 := chE_le hN y6
      have b2 := chE_le hN hp
      rw [if_neg n4, d1, Option.bind_some, e1, Option.bind_some]
      dsimp only
      by_cases z : wTot N (chE N P x0) < wTot N P
      · have hg : 0 < wG N P x0 := by omega
        have hch : wChg N P = (some x0, wG N P x0) := by
          unfold wChg
          refine fG_is hg (fun y hy => ?_) (wE N) h2 (fun y hy => ?_)
          · rcases h5 y (by omega) hy with v | v <;> omega
          · rcases h4 y (by omega) hy with v | v <;> omega
        have hcp : chP N P = chE N P x0 := by
          unfold chP
          rw [hch]
        obtain ⟨D6, f1, f2, f3, f4, f5⟩ := hV5.setT (t2 := t9)
        rw [if_pos ((nI_lt' (by omega) (by omega)).mpr z), gFr_t (b := 7) y3.1 rfl, Option.bind_some, f1, Option.bind_some]
        refine ⟨_, rfl, Or.inr ⟨x0, hch, by rw [hcp]; exact y5, D6, t9, rfl, f2, ?_, y2, (x5.mono (fun _ _ v => absurd v id)).tr f3, ?_⟩⟩
        · rw [hcp]
          exact y4.exC f3 (fun i hi v => by rw [v, (show kt D5 c = 108 from tO.tg hV5.1)]; omega)
        · have := m5
          exact ⟨by rw [f5]; have := this.1; omega, by rw [f5]; have := this.2; omega⟩
      · obtain ⟨D6, t1, t2, t3⟩ := g_totalA hN hp.1 hp.2.2 hV5 hP5
        rw [if_neg (fun y => z ((nI_lt' (by omega) (by omega)).mp y))]
        unfold iK_
        rw [t1, Option.bind_some]
        refine ⟨_, rfl, Or.inl ⟨?_, D6, rfl, x5.tr t2, (m5.tr t3).mono (by omega) (by omega)⟩⟩
        unfold wChg
        rw [fG_all (wE N) (fun y hy => by rcases h4 y (by omega) hy with v | v <;> omega)]
theorem g_improve {r : Nat} (hN : WN N) (hp : WP N P) (h8 : wE N ≤ 8) (hV : CV D c N sv e b d hh tt g) (hP : GP D P hh tt) (hr : r ≤ 2) : ∃ D' t2, F_X8_improve D (rf c) (nI r) = some (zi (impr N r P 0).2, D') ∧ CV D' c N sv e b d hh t2 g ∧ GP D' (impr N r P 0).1 hh t2 ∧ (t2 = tt ∨ D.1.length ≤ t2) ∧ gE (fun j => j = c) D D' ∧ gMd 7840 19616 D D' := by
  have haS := aS_le hp.1 hp.2.1
  obtain ⟨D1, a1, a2, a3⟩ := g_totalA hN hp.1 hp.2.2 hV hP
  have b0 := chE_le hN hp
  rw [improve_is, gRv_t hV.1, Option.bind_some, a1, Option.bind_some]
  dsimp only
  obtain ⟨u, h1, h2⟩ := loop_ind0 (body := fun (s2 : Int32 × gDS) => if nI r ≤ s2.1 then iK_ (rf c) (nI (wTot N P)) s2.2 else (gFr s2.2 (rf c) 8 3).bind fun r6 => (gLen s2.2 r6).bind fun z7 => loop (iB_ (rf c) (nI (wTot N P)) s2.1) (none, (z7 - (1 : Int32)), s2.2)) (fun n s => n ≤ r ∧ ∃ Q v D' t2, s = (nI n, D') ∧ impr N (r - n) Q v = impr N r P 0 ∧ (wTot N Q : Int) + v = wTot N P ∧ WP N Q ∧ CV D' c N sv e b d hh t2 g ∧ GP D' Q hh t2 ∧ (t2 = tt ∨ D.1.length ≤ t2) ∧ gE (fun j => j = c) D D' ∧ gMd (8 + 3912 * n) (16 + 9792 * n) D D') (fun u => ∃ D' t2, u = (zi (impr N r P 0).2, D') ∧ CV D' c N sv e b d hh t2 g ∧ GP D' (impr N r P 0).1 hh t2 ∧ (t2 = tt ∨ D.1.length ≤ t2) ∧ gE (fun j => j = c) D D' ∧ gMd 7840 19616 D D') r (s0 := ((0 : Int32), D1)) ⟨Nat.zero_le _, P, 0, D1, tt, rfl, rfl, by omega, hp, hV.ext a2, hP.ext a2, Or.inl rfl, a2.mono (fun _ _ v => absurd v id), a3.mono (by omega) (by omega)⟩ (fun n s hI => by
    obtain ⟨hn, Q, v, D', t2, rfl, i1, i2, i3, i4, i5, i6, i7, i8⟩ := hI
    have haQ := aS_le i3.1 i3.2.1
    have bQ := chE_le hN i3
    dsimp only
    rcases Nat.lt_or_ge n r with q | q
    · have n1 : ¬ nI r ≤ nI n := fun z => by
        have := (nI_le' (by omega) (by omega)).mp z
        omega
      obtain ⟨es, y1, y2, -⟩ := i4.2.1
      obtain ⟨u, p1, p2⟩ := g_impin (b0 := nI (wTot N P)) (n := nI n) hN i3 h8 i4 i5
      obtain ⟨m, hm⟩ : ∃ m, r - n = m + 1 := ⟨r - n - 1, by omega⟩
      rw [hm] at i1
      rw [if_neg n1, gFr_t (b := 3) i4.1 rfl, Option.bind_some, gLen_q y1, y2, Option.bind_some, p1]
      rcases p2 with ⟨c1, D2, rfl, c2, c3⟩ | ⟨x0, c1, c2, D2, t3, rfl, c3, c4, c5, c6, c7⟩
      · have i9 : impr N (m + 1) Q v = (Q, v) := by
          show (match (wChg N Q).1 with
            | none => (Q, v)
            | some _ => impr N m (chP N Q) (v + (wChg N Q).2)) = _
          rw [c1]
        rw [i9] at i1
        refine Or.inl ⟨_, rfl, D2, t2, ?_, i4.ext c2, ?_, i6, i7.tr (c2.mono (fun _ _ v => absurd v id)), (i8.tr c3).mono (by omega) (by omega)⟩
        · rw [← i1]
          rw [nI_zi, nI_zi, zi_sub]
          congr 2
          omega
        · rw [← i1]
          exact i5.ext c2
      · refine Or.inr ⟨q, _, rfl, q, chP N Q, v + wG N Q x0, D2, t3, by rw [nI_1], ?_, by omega, chP_WP hN i3, c3, c4, Or.inr (by have := i7.1; omega), i7.tr c6, (i8.tr c7).mono (by omega) (by omega)⟩
        rw [show r - (n + 1) = m by omega, ← i1]
        show _ = (match (wChg N Q).1 with
            | none => (Q, v)
            | some _ => impr N m (chP N Q) (v + (wChg N Q).2))
        rw [c1]
    · obtain rfl : n = r := by omega
      rw [Nat.sub_self] at i1
      have i1 : (Q, v) = impr N n P 0 := i1
      obtain ⟨D2, d1, d2, d3⟩ := g_totalA hN i3.1 i3.2.2 i4 i5
      rw [if_pos (Int32.le_refl _)]
      unfold iK_
      rw [d1, Option.bind_some]
      refine Or.inl ⟨_, rfl, D2, t2, ?_, i4.ext d2, ?_, i6, i7.tr (d2.mono (fun _ _ v => absurd v id)), (i8.tr d3).mono (by omega) (by omega)⟩
      · rw [← i1, nI_zi, nI_zi, zi_sub]
        congr 2
        omega
      · rw [← i1]
        exact i5.ext d2)
  obtain ⟨D', t2, rfl, h3⟩ := h2
  exact ⟨D', t2, h1, h3⟩
end IMP
