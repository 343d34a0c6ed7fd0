/-! THE LOOP OVER THE OPERATIONS: one turn, cut in pieces -/
noncomputable def opF (o : gRF) (n okv : Int32) (v43 : Int32 × gST) : Option (oSt ⊕ tRs) :=
              if okv = 0 then
               some (.inl ((0 : Int32), v43.1, (n + (1 : Int32)), (v43.2.1, v43.2.2)))
              else
               (F_L_agrees (v43.2.1, v43.2.2) o).bind fun y44 =>
               if y44.1 = 0 then
                some (.inl ((0 : Int32), v43.1, (n + (1 : Int32)), (y44.2.1, y44.2.2)))
               else
                some (.inl ((1 : Int32), v43.1, (n + (1 : Int32)), (y44.2.1, y44.2.2)))
noncomputable def opK (o bfr : gRF) (done n : Int32) (cp : gRF) (v41 : Int32 × Int32 × gST) : Option (oSt ⊕ tRs) :=
             jn (opF o n v41.1) (fun k42 =>
              if v41.2.1 = 0 then
               k42 (done, (v41.2.2.1, v41.2.2.2))
              else
               loop (shB (fun (s45 : Int32 × gST) => (gQst s45.2.2 bfr (0 : Int32) cp).bind fun D46 =>
                 (k42 ((done + (1 : Int32)), (s45.2.1, D46))).map Sum.inr) bfr) ((8 : Int32), (v41.2.2.1, v41.2.2.2)))
noncomputable def opW (K : Int32 × Int32 × gST → Option (oSt ⊕ tRs)) (o rn : gRF) (ok : Int32) (h : PH) (at_ : gRF) (ed ie ex : Int32) (y : Int32) (D : gDS) : Option (oSt ⊕ tRs) :=
             if y = 0 then cs0 K o rn D h
             else
             if y = 1 then cs0 K o rn D h
             else
             if y = 2 then cs2 K o D h at_ ed ex
             else
             if y = 3 then cs3 K o D h at_ ed ex
             else
             if y = 4 then cs3 K o D h at_ ed ex
             else
             if y = 5 then cs5 K o rn D h ok
             else
             if y = 6 then cs6 K o rn D h
             else cs7 K o rn D h ed ie
noncomputable def opT (o rn bfr : gRF) (ok done n : Int32) (cp : gRF) (h : PH) (at_ : gRF) (ed ie ex : Int32) (D : gDS) : Option (oSt ⊕ tRs) :=
  (F_X10_below D rn (12 : Int32)).bind fun y39 => opW (opK o bfr done n cp) o rn ok h at_ ed ie ex y39.1 y39.2
theorem opB_is (o rn bfr : gRF) (i : Int32) (s10 : oSt) : opB o rn bfr i s10 = jn (fun (v12 : Unit) =>
      loop (unB o bfr i s10.2.1) (s10.1, (0 : Int32), (s10.2.2.2.1, s10.2.2.2.2))) (fun k11 =>
      if (35 : Int32) ≤ s10.2.2.1 then
       k11 ()
      else
       if s10.1 = 0 then
        k11 ()
       else
        (F_X8_copy s10.2.2.2.2 o).bind fun y27 =>
        (F_X10_below y27.2 rn (14 : Int32)).bind fun y28 =>
        jn (fun (v30 : Int32 × gST) =>
         (gFr v30.2.2 o 8 3).bind fun r31 =>
         (gLen v30.2.2 r31).bind fun z32 =>
         jn (fun (v34 : Int32) =>
          jn (fun (v36 : gRF × gST) =>
           jn (fun (v38 : Int32) => opT o rn bfr s10.1 s10.2.1 s10.2.2.1 y27.1 v36.2.1 v36.1 v30.1 v34 v38 v36.2.2) (fun k37 =>
            if v34 = 0 then
             k37 ((-2000000097 : Int32))
            else
             k37 ((-2000000099 : Int32)))) (fun k35 =>
           if v34 = 0 then
            k35 (none, (v30.2.1, v30.2.2))
           else
            (F_X8_where v30.2.2 o v30.1).bind fun y233 =>
            k35 (y233.1, (v30.2.1, y233.2)))) (fun k33 =>
          if z32 ≤ v30.1 then
           k33 ((0 : Int32))
          else
           k33 ((1 : Int32)))) (fun k29 =>
         if ¬ y28.1 = 0 then
          (gFr y28.2 o 8 3).bind fun r234 =>
          (gLen y28.2 r234).bind fun z235 =>
          (F_X10_below y28.2 rn z235).bind fun y236 =>
          k29 (y236.1, (s10.2.2.2.1, y236.2))
         else
          (gFr y28.2 o 8 3).bind fun r237 =>
          (gLen y28.2 r237).bind fun z238 =>
          k29 (z238, (s10.2.2.2.1, y28.2)))) := rfl
section OPL
variable {h : PH} {D : gDS} {rnd bf c : Nat} {N : NT} {svr : gRF} {e b d hh tt g : Nat} {P : PT} {H : HT} {done : Nat} {f : Nat → gRF}
/-- what stands at each turn -/
def LST (h : PH) (D : gDS) (rnd bf c : Nat) (N : NT) (svr : gRF) (e b d g done : Nat) : Prop := ∃ hh tt P H f, OPI h D rnd c N svr e b d hh tt g P H ∧ h.1 1 3 = 0 ∧ SNP D bf c tt N svr e b d g H done f
theorem CST.wok (hS : CST D rnd c N svr e b d hh tt g P) (hR : tR D bf (r9 f)) : Wok D bf c tt rnd := by
  obtain ⟨hV, hP, hne, hr⟩ := hS
  obtain ⟨ts, t1⟩ := hP.arr
  exact ⟨hV.1.tg, t1.tg, hr.kt, hR.tg⟩
/-- agreed at the end of a turn -/
theorem op_fin {n d9 : Nat} (hI : OPI h D rnd c N svr e b d hh tt g P H) (h3 : h.1 1 3 = 0) (hS : SNP D bf c tt N svr e b d g H d9 f) : ∃ D', opF (rf c) (nI n) 1 (nI d9, (h, D)) = some (.inl ((1 : Int32), nI d9, nI (n + 1), (h, D'))) ∧ LST h D' rnd bf c N svr e b d g d9 ∧ gE noW D D' ∧ gMd 106 500 D D' := by
  obtain ⟨ok, hl, ca, ch, hC, hE⟩ := id hI
  obtain ⟨D', a1, a2, a3⟩ := g_agrees ok hl ca hE.2.1 hC.1 hC.2.1
  have one : ¬ (1 : Int32) = 0 := by decide
  refine ⟨D', ?_, ⟨hh, tt, P, H, f, ⟨ok, hl, ca, ch, hC.ext a2, hE⟩, h3, hS.ext (a2.mono (fun _ _ z => absurd z id)) (hC.wok hS.1) hC.2.2.1 (Or.inl rfl)⟩, a2, a3⟩
  unfold opF
  dsimp only
  rw [if_neg one, a1, Option.bind_some]
  dsimp only
  rw [if_neg one, nI_1]
theorem op_k {ic : Int32} {n cp : Nat} {D0 : gDS} {h0 : PH} (hI0 : OPI h0 D0 rnd c N svr e b d hh tt g P H) (hS0 : SNP D0 bf c tt N svr e b d g H done f) (hp1 : SN1 D0 c tt N svr e b d g P (rf cp)) (h3 : h0.1 1 3 = 0) (hd : done ≤ 34) (hO : OPR h0 D0 rnd c N svr e b d hh tt g P H ic h D) : ∃ D' d9, opK (rf c) (rf bf) (nI done) (nI n) (rf cp) (1, ic, (h, D)) = some (.inl ((1 : Int32), nI d9, nI (n + 1), (h, D'))) ∧ LST h D' rnd bf c N svr e b d g d9 ∧ d9 ≤ done + 1 ∧ gMd 7956 20500 D0 D' := by
  obtain ⟨P', H', hc, ok', hl', ca', ch', h11, ⟨hh', tt', hC', ht'⟩, x, m⟩ := hO
  have hC0 := hI0.2.2.2.2.1
  have hE := hI0.2.2.2.2.2
  have w0 := hC0.wok hS0.1
  have hI' : OPI h D rnd c N svr e b d hh' tt' g P' H' := ⟨ok', hl', ca', ch', hC', hE⟩
  have h3' : h.1 1 3 = 0 := by rw [h11]; exact h3
  have S' := hS0.ext x w0 hC0.2.2.1 ht'
  unfold opK
  rw [jn_d]
  dsimp only
  rcases hc with ⟨rfl, rfl, rfl⟩ | ⟨rfl, rfl⟩
  · obtain ⟨D', a1, a2, a3, a4⟩ := op_fin (n := n) (d9 := done) hI' h3' S'
    refine ⟨D', done, ?_, a2, by omega, (m.tr a4).mono (by omega) (by omega)⟩
    rw [if_pos rfl, a1]
  · have one : ¬ (1 : Int32) = 0 := by decide
    rw [if_neg one]
    have xW : gE (Wop bf c tt rnd) D0 D := x.mono (fun i _ z => by
      rcases z with z | z | z
      · exact Or.inl z
      · exact Or.inr (Or.inl z)
      · exact Or.inr (Or.inr (Or.inl z)))
    have p1 : SN1 D c tt' N svr e b d g P (rf cp) := hp1.ext xW w0 hC0.2.2.1 ht'
    obtain ⟨hR, hf, hs⟩ := S'
    have hbk : ∀ ck vs, tO D ck 8 vs → ck ≠ bf := fun ck vs hk z => by
      have := hk.tg
      rw [z, hR.tg] at this
      omega
    have r8 : tR D bf (r9 (shf f 8)) := by
      rw [r9_ag (f := shf f 8) (g := f) (fun i hi => by unfold shf; rw [if_neg (by omega)])]
      exact hR
    obtain ⟨A, a1, a2, a3, a4, a5⟩ := g_shift (D := D) (c := c) (bf := bf) (f := f) (h := h) hf hbk (fun (s45 : Int32 × gST) => (gQst s45.2.2 (rf bf) (0 : Int32) (rf cp)).bind fun D46 => (opF (rf c) (nI n) 1 ((nI done + (1 : Int32)), (s45.2.1, D46))).map Sum.inr) 8 D (Nat.le_refl _) r8 (gE.rf D) rfl rfl
    -- the newest snapshot set
    have w' := hC'.wok hR
    have xWA : gE (Wop bf c tt' rnd) D A := a3.mono (fun i _ z => Or.inr (Or.inr (Or.inr z)))
    have pA : SN1 A c tt' N svr e b d g P (rf cp) := p1.ext xWA w' hC'.2.2.1 (Or.inl rfl)
    have ftA : fit8 A (rf cp) := by
      obtain ⟨ck, hhk, ttk, y1, y2, y3, y4, y5, y6⟩ := pA
      exact Or.inr ⟨ck, _, y1, y5.1⟩
    have s1 := gQst_r a2 (k := 0) (by omega) ftA
    have xWB : gE (Wop bf c tt' rnd) D (gSet A bf (.inr (.inr (.inr (41, r9 (fun j => if j = 0 then rf cp else shf f 0 j)))))) := xWA.tr (gSet_E (Or.inl (Or.inr (Or.inr (Or.inr rfl)))))
    have rB : tR (gSet A bf (.inr (.inr (.inr (41, r9 (fun j => if j = 0 then rf cp else shf f 0 j)))))) bf (r9 (fun j => if j = 0 then rf cp else shf f 0 j)) := gSet_at (tR_lt a2)
    have mB : (gSet A bf (.inr (.inr (.inr (41, r9 (fun j => if j = 0 then rf cp else shf f 0 j)))))).2 = D.2 := a4
    have xB : gE (fun i => i = bf) D (gSet A bf (.inr (.inr (.inr (41, r9 (fun j => if j = 0 then rf cp else shf f 0 j)))))) := a3.tr (gSet_E (Or.inl rfl))
    generalize hBd : gSet A bf (.inr (.inr (.inr (41, r9 (fun j => if j = 0 then rf cp else shf f 0 j))))) = B at *
    have SB : SNP B bf c tt' N svr e b d g (hpush H N P false) (done + 1) (fun j => if j = 0 then rf cp else shf f 0 j) := by
      refine ⟨rB, fun k hk => ?_, fun k hk hk8 => ?_⟩
      · show oth B c (if k = 0 then rf cp else shf f 0 k)
        by_cases z : k = 0
        · rw [if_pos z]
          have := p1.ext xWB w' hC'.2.2.1 (Or.inl rfl)
          obtain ⟨ck, hhk, ttk, y1, y2, y3, y4, y5, y6⟩ := this
          exact Or.inr ⟨ck, _, y1, y2, y5.1⟩
        · rw [if_neg z]
          unfold shf
          rw [if_pos (by omega)]
          exact (hf (k - 1) (by omega)).ext xWB w'
      · show SN1 B c tt' N svr e b d g (hP (hpush H N P false) k) (if k = 0 then rf cp else shf f 0 k) ∧ _
        by_cases z : k = 0
        · subst z
          rw [if_pos rfl]
          refine ⟨p1.ext xWB w' hC'.2.2.1 (Or.inl rfl), rfl, hI0.2.1, ?_⟩
          show 0 < min 8 (hK H + 1)
          omega
        · rw [if_neg z]
          unfold shf
          rw [if_pos (by omega)]
          obtain ⟨y1, y2, y3, y4⟩ := hs (k - 1) (by omega) (by omega)
          have eP : hP (hpush H N P false) k = hP H (k - 1) := if_neg z
          have eN : hN (hpush H N P false) k = hN H (k - 1) := if_neg z
          rw [eP, eN]
          refine ⟨y1.ext xWB w' hC'.2.2.1 (Or.inl rfl), y2, y3, ?_⟩
          show k < min 8 (hK H + 1)
          omega
    have hCB : CST B rnd c N svr e b d hh' tt' g P' := by
      obtain ⟨hV, hP9, hne, hRd⟩ := hC'
      obtain ⟨w1, w2, w3, w4⟩ := w'
      refine ⟨hV.exW xB (fun i hi z => ?_), hP9.exC xB (fun i hi z => ?_), hne, hRd.ext xB (fun z => ?_)⟩
      · have z : i = bf := z
        refine ⟨fun y => ?_, by rw [z, w4]; omega, by rw [z, w4]; omega, Or.inl (by rw [z, w4]; omega)⟩
        rw [← y, z, w4] at w1
        omega
      · have z : i = bf := z
        rw [z, w4]
        omega
      · have z : rnd = bf := z
        rw [z, w4] at w3
        omega
    obtain ⟨D', b1, b2, b3, b4⟩ := op_fin (n := n) (d9 := done + 1) (⟨ok', hl', ca', ch', hCB, hE⟩ : OPI h B rnd c N svr e b d hh' tt' g P' (hpush H N P false)) h3' SB
    refine ⟨D', done + 1, ?_, b2, by omega, ((m.tr (gMd.eq mB)).tr b4).mono (by omega) (by omega)⟩
    refine (show _ = _ from a1).trans ?_
    rw [loop_eq]
    unfold shB
    dsimp only
    rw [if_pos (show nI 0 ≤ (0 : Int32) from Int32.le_refl _), show gQst A (rf bf) (0 : Int32) (rf cp) = some B from s1, Option.bind_some, nI_1, b1]
    rfl
theorem op_sw {x y : Nat} {at_ : gRF} {ie ex : Int32} (K : Int32 × Int32 × gST → Option (oSt ⊕ tRs)) (hI : OPI h D rnd c N svr e b d hh tt g P H) (hA : ATP D N P x at_ ie ex) (hy : y < 12) : ∃ ic h' D', opW K (rf c) (rf rnd) 1 h at_ (nI x) ie ex (nI y) D = K (1, ic, (h', D')) ∧ OPR h D rnd c N svr e b d hh tt g P H ic h' D' := by
  have ne : ∀ j, j < 12 → y ≠ j → ¬ nI y = nI j := fun j hj h z => h ((nI_eq (by omega) (by omega)).mp z)
  unfold opW
  by_cases z0 : y = 0
  · rw [if_pos (show nI y = 0 by rw [z0]; rfl)]
    exact k_open K hI
  rw [if_neg (show ¬ nI y = 0 from ne 0 (by omega) z0)]
  by_cases z1 : y = 1
  · rw [if_pos (show nI y = 1 by rw [z1]; rfl)]
    exact k_open K hI
  rw [if_neg (show ¬ nI y = (1 : Int32) from ne 1 (by omega) z1)]
  by_cases z2 : y = 2
  · rw [if_pos (show nI y = 2 by rw [z2]; rfl)]
    exact k_drop K hI hA
  rw [if_neg (show ¬ nI y = (2 : Int32) from ne 2 (by omega) z2)]
  by_cases z3 : y = 3
  · rw [if_pos (show nI y = 3 by rw [z3]; rfl)]
    exact k_flip K hI hA
  rw [if_neg (show ¬ nI y = (3 : Int32) from ne 3 (by omega) z3)]
  by_cases z4 : y = 4
  · rw [if_pos (show nI y = 4 by rw [z4]; rfl)]
    exact k_flip K hI hA
  rw [if_neg (show ¬ nI y = (4 : Int32) from ne 4 (by omega) z4)]
  by_cases z5 : y = 5
  · rw [if_pos (show nI y = 5 by rw [z5]; rfl)]
    exact k_build K hI
  rw [if_neg (show ¬ nI y = (5 : Int32) from ne 5 (by omega) z5)]
  by_cases z6 : y = 6
  · rw [if_pos (show nI y = 6 by rw [z6]; rfl)]
    exact k_impr K hI
  rw [if_neg (show ¬ nI y = (6 : Int32) from ne 6 (by omega) z6)]
  exact k_ins K hI hA
theorem ATP.ext {D' : gDS} {x : Nat} {at_ : gRF} {ie ex : Int32} {W : Nat → Prop} (hA : ATP D N P x at_ ie ex) (x9 : gE W D D') (hw : ∀ i xs, W i → ¬ tI D i xs) : ATP D' N P x at_ ie ex := by
  rcases hA with h | ⟨h1, h2, h3, h4⟩
  · exact Or.inl h
  · refine Or.inr ⟨h1, h2, h3, ?_⟩
    rcases h4 with h4 | ⟨t, k, ai, y1, y2, y3, y4⟩
    · exact Or.inl h4
    · exact Or.inr ⟨t, k, ai, y1, y2, y3, x9.tI (fun z => hw ai _ z y4) y4⟩
/-- the turn from the operation's number on -/
theorem op_tail {n cp x : Nat} {at_ : gRF} {ie ex : Int32} (hI : OPI h D rnd c N svr e b d hh tt g P H) (hS : SNP D bf c tt N svr e b d g H done f) (hp1 : SN1 D c tt N svr e b d g P (rf cp)) (h3 : h.1 1 3 = 0) (hd : done ≤ 34) (hA : ATP D N P x at_ ie ex) : ∃ h' D' d9, opT (rf c) (rf rnd) (rf bf) 1 (nI done) (nI n) (rf cp) h at_ (nI x) ie ex D = some (.inl ((1 : Int32), nI d9, nI (n + 1), (h', D'))) ∧ LST h' D' rnd bf c N svr e b d g d9 ∧ d9 ≤ done + 1 ∧ gMd 7956 20500 D D' := by
  have hC := hI.2.2.2.2.1
  have w := hC.wok hS.1
  obtain ⟨y, D1, a1, a2, a3, a4, a5, a6⟩ := g_below hC.2.2.2 (show 0 < 12 by omega) (by omega)
  have I1 := hI.rnd_ a4 a3
  have xr : gE (fun i => i = c ∨ i = tt ∨ i = rnd) D D1 := a4.mono (fun _ _ z => Or.inr (Or.inr z))
  have S1 := hS.ext xr w hC.2.2.1 (Or.inl rfl)
  have p1 : SN1 D1 c tt N svr e b d g P (rf cp) := hp1.ext (bf := bf) (rnd := rnd) (a4.mono (fun _ _ z => Or.inr (Or.inr (Or.inl z)))) w hC.2.2.1 (Or.inl rfl)
  have A1 : ATP D1 N P x at_ ie ex := hA.ext a4 (fun i xs z t => by
    have := t.tg
    have z : i = rnd := z
    rw [z, hC.2.2.2.kt] at this
    omega)
  obtain ⟨ic, h', D2, b1, b2⟩ := op_sw (y := y) (opK (rf c) (rf bf) (nI done) (nI n) (rf cp)) I1 A1 a2
  obtain ⟨D3, d9, c1, c2, c3, c4⟩ := op_k (n := n) I1 S1 p1 h3 hd b2
  refine ⟨h', D3, d9, ?_, c2, c3, ((gMd.eq a6).tr c4).mono (by omega) (by omega)⟩
  unfold opT
  rw [show F_X10_below D (rf rnd) (12 : Int32) = _ from a1, Option.bind_some, b1, c1]
/-- one turn -/
theorem op_step {n : Nat} {i : Int32} (hL : LST h D rnd bf c N svr e b d g done) (hn : n < 35) (hd : done ≤ n) : ∃ h' D' d9, opB (rf c) (rf rnd) (rf bf) i ((1 : Int32), nI done, nI n, (h, D)) = some (.inl ((1 : Int32), nI d9, nI (n + 1), (h', D'))) ∧ LST h' D' rnd bf c N svr e b d g d9 ∧ d9 ≤ done + 1 ∧ gMd 7964 20515 D D' := by
  obtain ⟨hh, tt, P, H, f, hI, h3, hS⟩ := hL
  obtain ⟨ok, hl, ca, ch, hC, hE⟩ := id hI
  have hN := ok.1
  have hp := ok.2.1
  have hE14 := hN.2.2.1
  have w := hC.wok hS.1
  have hlt := hC.1.lt
  have hgl := hC.2.1.lt
  obtain ⟨D1, ttp, a1, a2, a3, a4, a5, a6, a7⟩ := g_copy hp.1.1 hC.1 hC.2.1
  have C1 := hC.ext a6
  have I1 : OPI h D1 rnd c N svr e b d hh tt g P H := ⟨ok, hl, ca, ch, C1, hE⟩
  have S1 := hS.ext (a6.mono (fun _ _ z => absurd z id)) w hC.2.2.1 (Or.inl rfl)
  have p1 : SN1 D1 c tt N svr e b d g P (rf D.1.length) := ⟨D.1.length, hh, ttp, rfl, by omega, by omega, ⟨by omega, by omega, by omega⟩, a2, a3⟩
  have w1 := C1.wok S1.1
  obtain ⟨v, D2, b1, b2, b3, b4, b5, b6⟩ := g_below C1.2.2.2 (show 0 < 14 by omega) (by omega)
  have C2 := C1.rnd_ b4 b3
  have eL : ∀ {A : gDS}, CST A rnd c N svr e b d hh tt g P → (gFr A (rf c) 8 3 = some (rf e) ∧ gLen A (rf e) = some (nI (wE N))) := fun {A} S => by
    obtain ⟨es, y1, y2, -⟩ := S.1.2.1
    exact ⟨gFr_t S.1.1 (b := 3) rfl, by rw [gLen_q y1, y2]⟩
  -- the edge
  obtain ⟨x, D3, hx, hxE, x3, R3, m3⟩ : ∃ x D3, (∀ K : Int32 × gST → Option (oSt ⊕ tRs), jn K (fun k29 =>
         if ¬ nI v = 0 then
          (gFr D2 (rf c) 8 3).bind fun r234 =>
          (gLen D2 r234).bind fun z235 =>
          (F_X10_below D2 (rf rnd) z235).bind fun y236 =>
          k29 (y236.1, (h, y236.2))
         else
          (gFr D2 (rf c) 8 3).bind fun r237 =>
          (gLen D2 r237).bind fun z238 =>
          k29 (z238, (h, D2))) = K (nI x, (h, D3))) ∧ x ≤ wE N ∧ gE (fun j => j = rnd) D2 D3 ∧ RD D3 rnd ∧ D3.2 = D2.2 := by
    obtain ⟨l1, l2⟩ := eL C2
    by_cases z : v = 0
    · refine ⟨wE N, D2, fun K => ?_, Nat.le_refl _, gE.rf _, b3, rfl⟩
      rw [jn_d, z, if_neg (fun y => y rfl), l1, Option.bind_some, l2, Option.bind_some]
    · obtain ⟨u, D3, c1, c2, c3, c4, c5, c6⟩ := g_below b3 (show 0 < wE N by omega) (by omega)
      refine ⟨u, D3, fun K => ?_, by omega, c4, c3, c6⟩
      rw [jn_d, if_pos (nz_I z (by omega)), l1, Option.bind_some, l2, Option.bind_some, c1, Option.bind_some]
  have C3 := C2.rnd_ x3 R3
  have xr3 : gE (fun j => j = rnd) D1 D3 := b4.tr x3
  have mr3 : D3.2 = D1.2 := m3.trans b6
  obtain ⟨l1, l2⟩ := eL C3
  have nlt : ¬ (35 : Int32) ≤ nI n := fun z => by
    have := (nI_le' (a := 35) (b := n) (by omega) (by omega)).mp z
    omega
  have one : ¬ (1 : Int32) = 0 := by decide
  -- what comes behind the edge's place
  have rest : ∀ (A : gDS) (at_ : gRF) (ie ex : Int32), gE (fun j => j = rnd) D1 A → RD A rnd → gMd 1 2 D1 A → ATP A N P x at_ ie ex → ∃ h' D' d9, opT (rf c) (rf rnd) (rf bf) 1 (nI done) (nI n) (rf D.1.length) h at_ (nI x) ie ex A = some (.inl ((1 : Int32), nI d9, nI (n + 1), (h', D'))) ∧ LST h' D' rnd bf c N svr e b d g d9 ∧ d9 ≤ done + 1 ∧ gMd 7964 20515 D D' := fun A at_ ie ex xA RA mA hA => by
    have IA := I1.rnd_ xA RA
    have SA := S1.ext (xA.mono (fun _ _ z => Or.inr (Or.inr z))) w1 hC.2.2.1 (Or.inl rfl)
    have pA : SN1 A c tt N svr e b d g P (rf D.1.length) := p1.ext (bf := bf) (rnd := rnd) (xA.mono (fun _ _ z => Or.inr (Or.inr (Or.inl z)))) w1 hC.2.2.1 (Or.inl rfl)
    obtain ⟨h', D', d9, c1, c2, c3, c4⟩ := op_tail (n := n) IA SA pA h3 (by omega) hA
    exact ⟨h', D', d9, c1, c2, c3, ((a7.tr mA).tr c4).mono (by omega) (by omega)⟩
  rw [opB_is, jn_d]
  dsimp only
  rw [if_neg nlt, if_neg one, a1, Option.bind_some]
  dsimp only
  rw [show F_X10_below D1 (rf rnd) (14 : Int32) = _ from b1, Option.bind_some]
  dsimp only
  rw [hx]
  dsimp only
  rw [l1, Option.bind_some, l2, Option.bind_some, jn_d]
  dsimp only
  rcases Nat.lt_or_ge x (wE N) with z | z
  · -- an edge
    obtain ⟨r, D4, f1, f2⟩ := g_where hN hp.1 C3.1 C3.2.1 (show x < 2 ^ 31 by omega)
    obtain ⟨f3, f4⟩ := f2.ext
    have x4 : gE (fun j => j = rnd) D1 D4 := xr3.tr (f3.mono (fun _ _ z => absurd z id))
    have R4 := R3.ext f3 id
    have m4 : gMd 1 2 D1 D4 := ((gMd.eq mr3).tr f4).mono (by omega) (by omega)
    have hA : ATP D4 N P x r 1 (-2000000099 : Int32) := by
      refine Or.inr ⟨z, rfl, rfl, ?_⟩
      rcases f2 with ⟨y1, y2, -⟩ | ⟨t, k, y1, y2, y3, y4, -⟩
      · exact Or.inl ⟨y1, y2⟩
      · exact Or.inr ⟨t, k, D3.1.length, y1, y2, y3, y4⟩
    obtain ⟨h', D', d9, g1, g2⟩ := rest D4 r 1 (-2000000099) x4 R4 m4 hA
    refine ⟨h', D', d9, ?_, g2⟩
    rw [if_neg (fun y => by have := (nI_le' (by omega) (by omega)).mp y; omega), jn_d]
    dsimp only
    rw [if_neg one, f1, Option.bind_some, jn_d]
    dsimp only
    rw [if_neg one]
    exact g1
  · have hA : ATP D3 N P x none 0 (-2000000097 : Int32) := Or.inl ⟨by omega, rfl, rfl, rfl⟩
    obtain ⟨h', D', d9, g1, g2⟩ := rest D3 none 0 (-2000000097) xr3 R3 ((gMd.eq mr3).mono (by omega) (by omega)) hA
    refine ⟨h', D', d9, ?_, g2⟩
    rw [if_pos ((nI_le' (by omega) (by omega)).mpr (by omega)), jn_d]
    dsimp only
    rw [if_pos rfl, jn_d]
    dsimp only
    rw [if_pos rfl]
    exact g1
end OPL
