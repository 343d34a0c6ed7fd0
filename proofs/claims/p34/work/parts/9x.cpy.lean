/-! CITY'S copy -/
theorem gE.on {D A B : gDS} {W : Nat → Prop} (x : gE noW D A) (y : gE W A B) (hw : ∀ i, W i → D.1.length ≤ i) : gE noW D B :=
  ⟨Nat.le_trans x.1 y.1, fun i hi _ => (y.2 i (Nat.lt_of_lt_of_le hi x.1) (fun w => absurd (hw i w) (by omega))).trans (x.2 i hi id)⟩
theorem gTop_rf (D : gDS) : gTop D = rf D.1.length := rfl
theorem cp_st {D A : gDS} {c b : Nat} {vs : List gPV} {v : gPV} (hl : D.1.length ≤ c) (h : tO A c 8 vs) (x : gE noW D A) (hb : b < vs.length) : ∃ B, gFst A (rf c) 8 b v = some B ∧ tO B c 8 (vs.set b v) ∧ gE noW D B ∧ B.1.length = A.1.length ∧ B.2 = A.2 ∧ ∀ i, i ≠ c → B.1[i]? = A.1[i]? :=
  ⟨gSet A c (.inl (8, vs.set b v)), gFst_t h hb, gSet_at (tO_lt h), x.on (gSet_E (W := fun j => j = c) (Or.inl rfl)) (fun i hi => by rw [hi]; exact hl), gSet_len, rfl, fun i hi => gSet_ne (fun q => hi q.symm)⟩
theorem init_st {D A : gDS} {c k b : Nat} {vs : List gPV} {t : gDT} (hc : tO A c 8 vs) (x : gE (fun j => j = c) D A) (l : A.1.length = D.1.length + k) (m : gMd k 0 D A) (hb : b < vs.length) : ∃ C, gFst (gNew A t 0) (rf c) 8 b (.inr (.inr (gTop A))) = some C ∧ tO C c 8 (vs.set b (.inr (.inr (rf (D.1.length + k))))) ∧ gE (fun j => j = c) D C ∧ C.1.length = D.1.length + (k + 1) ∧ gMd (k + 1) 0 D C ∧ C.1[D.1.length + k]? = some t ∧ ∀ i, i < D.1.length + k → i ≠ c → C.1[i]? = A.1[i]? := by
  have hlt := tO_lt hc
  have e0 : gE noW A (gNew A t 0) := gNew_E
  have hB : tO (gNew A t 0) c 8 vs := e0.tO id hc
  have l0 : (gNew A t 0).1.length = A.1.length + 1 := gNew_len
  have m0 : gMd 1 0 A (gNew A t 0) := gNew_M
  rw [gTop_rf, l]
  refine ⟨_, gFst_t hB hb, gSet_at (by omega), ?_, ?_, ?_, ?_, fun i hi hne => ?_⟩
  · exact (x.tr (e0.mono (fun _ _ z => absurd z id))).tr (gSet_E (Or.inl rfl))
  · rw [gSet_len]
    omega
  · exact ((m.tr m0).tr gSet_M).mono (by omega) (by omega)
  · rw [gSet_ne (by omega), ← l]
    exact gNew_at
  · rw [gSet_ne (fun q => hne q.symm)]
    exact e0.2 i (by omega) id
theorem g_init {D : gDS} {c : Nat} {v0 v1 v2 v3 v4 v5 v6 v7 v8 : gPV} (h : tO D c 8 [v0, v1, v2, v3, v4, v5, v6, v7, v8]) : ∃ D', F_X8_init D (rf c) = some D' ∧ tO D' c 8 [v0, v1, v2, .inr (.inr (rf D.1.length)), .inr (.inr (rf (D.1.length + 1))), .inr (.inr (rf (D.1.length + 2))), .inr (.inr (rf (D.1.length + 3))), .inr (.inr (rf (D.1.length + 4))), v8] ∧ gE (fun j => j = c) D D' ∧ D'.1.length = D.1.length + 5 ∧ gMd 5 0 D D' ∧ tQ D' D.1.length [] ∧ tQ D' (D.1.length + 1) [] ∧ tI D' (D.1.length + 2) [] ∧ tI D' (D.1.length + 3) [] ∧ tQ D' (D.1.length + 4) [] := by
  have hlt := tO_lt h
  obtain ⟨D2, a1, a2, a3, a4, a5, a6, a7⟩ := init_st (D := D) (k := 0) (b := 3) (t := .inr (.inr (.inr (6, List.replicate 0 none)))) h (gE.rf D) rfl (gMd.rf D) (by show 3 < 9; omega)
  obtain ⟨D3, b1, b2, b3, b4, b5, b6, b7⟩ := init_st (D := D) (k := 1) (b := 4) (t := .inr (.inr (.inr (6, List.replicate 0 none)))) a2 a3 a4 a5 (by show 4 < 9; omega)
  obtain ⟨D4, c1, c2, c3, c4, c5, c6, c7⟩ := init_st (D := D) (k := 2) (b := 5) (t := .inr (.inl (1, List.replicate 0 0))) b2 b3 b4 b5 (by show 5 < 9; omega)
  obtain ⟨D5, d1, d2, d3, d4, d5, d6, d7⟩ := init_st (D := D) (k := 3) (b := 6) (t := .inr (.inl (1, List.replicate 0 0))) c2 c3 c4 c5 (by show 6 < 9; omega)
  obtain ⟨D6, e1, e2, e3, e4, e5, e6, e7⟩ := init_st (D := D) (k := 4) (b := 7) (t := .inr (.inr (.inr (6, List.replicate 0 none)))) d2 d3 d4 d5 (by show 7 < 9; omega)
  refine ⟨D6, ?_, e2, e3, e4, e5, ?_, ?_, ?_, ?_, e6⟩
  · unfold F_X8_init
    show ((gFst (gAQ D 6 0) (rf c) 8 3 (.inr (.inr (gTop D)))).bind _) = _
    rw [show gFst (gAQ D 6 0) (rf c) 8 3 (.inr (.inr (gTop D))) = some D2 from a1, Option.bind_some]
    show ((gFst (gAQ D2 6 0) (rf c) 8 4 (.inr (.inr (gTop D2)))).bind _) = _
    rw [show gFst (gAQ D2 6 0) (rf c) 8 4 (.inr (.inr (gTop D2))) = some D3 from b1, Option.bind_some]
    show ((gFst (gAI D3 1 0) (rf c) 8 5 (.inr (.inr (gTop D3)))).bind _) = _
    rw [show gFst (gAI D3 1 0) (rf c) 8 5 (.inr (.inr (gTop D3))) = some D4 from c1, Option.bind_some]
    show ((gFst (gAI D4 1 0) (rf c) 8 6 (.inr (.inr (gTop D4)))).bind _) = _
    rw [show gFst (gAI D4 1 0) (rf c) 8 6 (.inr (.inr (gTop D4))) = some D5 from d1, Option.bind_some]
    show ((gFst (gAQ D5 6 0) (rf c) 8 7 (.inr (.inr (gTop D5)))).bind _) = _
    rw [show gFst (gAQ D5 6 0) (rf c) 8 7 (.inr (.inr (gTop D5))) = some D6 from e1, Option.bind_some]
  · exact (e7 _ (by omega) (by omega)).trans ((d7 _ (by omega) (by omega)).trans ((c7 _ (by omega) (by omega)).trans ((b7 _ (by omega) (by omega)).trans a6)))
  · exact (e7 _ (by omega) (by omega)).trans ((d7 _ (by omega) (by omega)).trans ((c7 _ (by omega) (by omega)).trans b6))
  · exact (e7 _ (by omega) (by omega)).trans ((d7 _ (by omega) (by omega)).trans c6)
  · exact (e7 _ (by omega) (by omega)).trans d6
theorem gCln_q {D : gDS} {i : Nat} {rs : List gRF} (h : tQ D i rs) : gCln D (rf i) 6 = some (gNew D (.inr (.inr (.inr (6, rs)))) rs.length) := by
  show (match D.1[i]? with
    | some (.inr (.inl (k, xs))) => bif Nat.beq k 6 then some (gNew D (.inr (.inl (k, xs))) xs.length) else none
    | some (.inr (.inr (.inr (k, xs)))) => bif Nat.beq k 6 && Nat.beq 6 6 then some (gNew D (.inr (.inr (.inr (k, xs)))) xs.length) else none
    | _ => none) = _
  rw [show D.1[i]? = _ from h]
  rfl
theorem gIsA_q {D : gDS} {i : Nat} {rs : List gRF} (h : tQ D i rs) : gIsA D (rf i) 6 = some () := by
  show (match D.1[i]? with
    | some (.inr (.inl (k, _))) => bif Nat.beq k 6 then some () else none
    | some (.inr (.inr (.inr (k, _)))) => bif Nat.beq k 6 && Nat.beq 6 6 then some () else none
    | _ => none) = _
  rw [show D.1[i]? = _ from h]
  rfl
theorem gCln_i {D : gDS} {i : Nat} {xs : List Int32} (h : tI D i xs) : gCln D (rf i) 1 = some (gNew D (.inr (.inl (1, xs))) xs.length) := by
  show (match D.1[i]? with
    | some (.inr (.inl (k, xs))) => bif Nat.beq k 1 then some (gNew D (.inr (.inl (k, xs))) xs.length) else none
    | some (.inr (.inr (.inr (k, xs)))) => bif Nat.beq k 1 && Nat.beq 1 6 then some (gNew D (.inr (.inr (.inr (k, xs)))) xs.length) else none
    | _ => none) = _
  rw [show D.1[i]? = _ from h]
  rfl
theorem gIsA_i {D : gDS} {i : Nat} {xs : List Int32} (h : tI D i xs) : gIsA D (rf i) 1 = some () := by
  show (match D.1[i]? with
    | some (.inr (.inl (k, _))) => bif Nat.beq k 1 then some () else none
    | some (.inr (.inr (.inr (k, _)))) => bif Nat.beq k 1 && Nat.beq 1 6 then some () else none
    | _ => none) = _
  rw [show D.1[i]? = _ from h]
  rfl
theorem gFr_set {D : gDS} {c b : Nat} {vs : List gPV} {x : gRF} (h : tO D c 8 vs) (hb : vs[b]? = some (.inr (.inr x))) : gFr D (rf c) 8 b = some x := gFr_t h hb
section CPY
variable {D : gDS} {c e b d hh tt g : Nat} {N : NT} {sv : gRF} {P : PT}
theorem CV.lt (h : CV D c N sv e b d hh tt g) : c < D.1.length ∧ e < D.1.length ∧ b < D.1.length ∧ d < D.1.length ∧ g < D.1.length := by
  obtain ⟨h1, ⟨es, h2, -⟩, ⟨bs, B, h3, -⟩, h4, h5, h6⟩ := h
  exact ⟨tO_lt h1, tQ_lt h2, tQ_lt h3, tI_lt h6, tQ_lt h4.1⟩
theorem GP.lt (h : GP D P hh tt) : hh < D.1.length ∧ tt < D.1.length := by
  obtain ⟨h1, ts, h2, -⟩ := h
  exact ⟨tI_lt h1, tQ_lt h2⟩
theorem g_copy (h4 : pT P ≤ 4) (hV : CV D c N sv e b d hh tt g) (hP : GP D P hh tt) : ∃ D' tt', F_X8_copy D (rf c) = some (gTop D, D') ∧ CV D' D.1.length N sv e b d hh tt' g ∧ GP D' P hh tt' ∧ D.1.length < tt' ∧ tt' < D'.1.length ∧ gE noW D D' ∧ gMd 7 13 D D' := by
  have hlt := hV.lt
  have x0 : gE noW D (gNwO D 8) := gNew_E
  have l0 : (gNwO D 8).1.length = D.1.length + 1 := gNew_len
  have m0 : gMd 1 9 D (gNwO D 8) := gNew_M
  have o0 : tO (gNwO D 8) D.1.length 8 (gDef 8) := gNew_at
  obtain ⟨A, a1, a2, a3, a4, a5, -, -, -, -, -⟩ := g_init o0
  have xA : gE noW D A := x0.on a3 (fun i hi => by rw [hi]; exact Nat.le_refl _)
  have hC := hV.1
  have le := Nat.le_refl D.1.length
  obtain ⟨D3, p1, p2, p3, p4, p5, p6⟩ := cp_st (b := 0) (v := .inl (nI (wN N))) le a2 xA (by show 0 < 9; omega)
  obtain ⟨D5, q1, q2, q3, q4, q5, q6⟩ := cp_st (b := 1) (v := .inl (nI (wC N))) le p2 p3 (by show 1 < 9; omega)
  obtain ⟨D7, r1, r2, r3, r4, r5, r6⟩ := cp_st (b := 2) (v := .inr (.inr sv)) le q2 q3 (by show 2 < 9; omega)
  obtain ⟨D9, s1, s2, s3, s4, s5, s6⟩ := cp_st (b := 3) (v := .inr (.inr (rf e))) le r2 r3 (by show 3 < 9; omega)
  obtain ⟨D11, t1, t2, t3, t4, t5, t6⟩ := cp_st (b := 4) (v := .inr (.inr (rf b))) le s2 s3 (by show 4 < 9; omega)
  obtain ⟨D13, u1, u2, u3, u4, u5, u6⟩ := cp_st (b := 5) (v := .inr (.inr (rf d))) le t2 t3 (by show 5 < 9; omega)
  obtain ⟨D15, v1, v2, v3, v4, v5, v6⟩ := cp_st (b := 6) (v := .inr (.inr (rf hh))) le u2 u3 (by show 6 < 9; omega)
  obtain ⟨g1, ts, g2, g3, g4⟩ := hP.ext v3
  have k1 := gCln_q g2
  have xk : gE noW D15 (gNew D15 (.inr (.inr (.inr (6, ts)))) ts.length) := gNew_E
  have lk : (gNew D15 (.inr (.inr (.inr (6, ts)))) ts.length).1.length = D15.1.length + 1 := gNew_len
  have mk : gMd 1 ts.length D15 (gNew D15 (.inr (.inr (.inr (6, ts)))) ts.length) := gNew_M
  have tk : tQ (gNew D15 (.inr (.inr (.inr (6, ts)))) ts.length) D15.1.length ts := gNew_at
  generalize gNew D15 (.inr (.inr (.inr (6, ts)))) ts.length = D17 at *
  obtain ⟨D19, w1, w2, w3, w4, w5, w6⟩ := cp_st (b := 7) (v := .inr (.inr (rf D15.1.length))) le (xk.tO id v2) (v3.tr xk) (by show 7 < 9; omega)
  obtain ⟨D21, z1, z2, z3, z4, z5, z6⟩ := cp_st (b := 8) (v := .inr (.inr (rf g))) le w2 w3 (by show 8 < 9; omega)
  have l21 : D21.1.length = D.1.length + 7 := by omega
  have l15 : D15.1.length = D.1.length + 6 := by omega
  have keep : ∀ i, i ≠ D.1.length → D21.1[i]? = D17.1[i]? := fun i hi => (z6 i hi).trans (w6 i hi)
  refine ⟨D21, D15.1.length, ?_, ?_, ⟨?_, ts, ?_, g3, fun t ht => ?_⟩, by omega, by omega, z3, ?_⟩
  · have y0 : gFi A (rf c) 8 0 = some (nI (wN N)) := gFi_t (xA.tO id hC) rfl
    have y1 : gFi D3 (rf c) 8 1 = some (nI (wC N)) := gFi_t (p3.tO id hC) rfl
    have y2 : gFr D5 (rf c) 8 2 = some sv := gFr_t (q3.tO id hC) rfl
    have y3 : gFr D7 (rf c) 8 3 = some (rf e) := gFr_t (r3.tO id hC) rfl
    have y4 : gFr D9 (rf c) 8 4 = some (rf b) := gFr_t (s3.tO id hC) rfl
    have y5 : gFr D11 (rf c) 8 5 = some (rf d) := gFr_t (t3.tO id hC) rfl
    have y6 : gFr D13 (rf c) 8 6 = some (rf hh) := gFr_t (u3.tO id hC) rfl
    have y7 : gFr D15 (rf c) 8 7 = some (rf tt) := gFr_t (v3.tO id hC) rfl
    have y8 : gFr D19 (rf c) 8 8 = some (rf g) := gFr_t (w3.tO id hC) rfl
    unfold F_X8_copy
    rw [gRv_t hC, Option.bind_some]
    simp only [gTop_rf]
    rw [a1, Option.bind_some, y0, Option.bind_some, p1, Option.bind_some, y1, Option.bind_some, q1, Option.bind_some, y2, Option.bind_some, r1, Option.bind_some, y3, Option.bind_some, s1, Option.bind_some, y4, Option.bind_some, t1, Option.bind_some, y5, Option.bind_some, u1, Option.bind_some, y6, Option.bind_some, v1, Option.bind_some, y7, Option.bind_some, k1, Option.bind_some, gIsA_q tk, Option.bind_some, w1, Option.bind_some, y8, Option.bind_some, z1, Option.bind_some]
  · have hV' := hV.ext z3
    exact ⟨z2, hV'.2.1, hV'.2.2.1, hV'.2.2.2.1, hV'.2.2.2.2.1, hV'.2.2.2.2.2⟩
  · exact (keep hh (by have := hP.lt; omega)).trans (xk.tI id g1)
  · exact (keep _ (by omega)).trans tk
  · obtain ⟨i, i1, i2⟩ := g4 t ht
    exact ⟨i, i1, (keep i (fun q => by have := (v2 : D15.1[_]? = _).symm.trans ((congrArg (fun j => D15.1[j]?) q.symm).trans (i2 : D15.1[i]? = _)); cases this)).trans (xk.tI id i2)⟩
  · have e1 : D15.2 = A.2 := v5.trans (u5.trans (t5.trans (s5.trans (r5.trans (q5.trans p5)))))
    have e2 : D21.2 = D17.2 := z5.trans w5
    have h3 : ts.length ≤ 4 := by omega
    have m1 := m0.tr a5
    obtain ⟨ma, mb⟩ := m1
    obtain ⟨mc, md⟩ := mk
    rw [e1] at mc md
    exact ⟨by rw [e2]; omega, by rw [e2]; omega⟩
/-- a row of the tours replaced -/
theorem GP.setr {t n j : Nat} {a : Nat → Nat} (hP : GP D P hh tt) (ht : t < pT P) (h4 : pT P ≤ 4) (hj : tI D j (rw8 n a)) : ∃ D', gQst D (rf tt) (nI t) (rf j) = some D' ∧ GP D' (setT P t n a) hh tt ∧ gE (fun l => l = tt) D D' ∧ D'.1.length = D.1.length ∧ D'.2 = D.2 := by
  obtain ⟨q1, ts, q2, q3, q4⟩ := hP
  have s := gQst_t (a := t) (j := j) q2 (by omega) (by omega) hj
  have htt := tQ_lt q2
  have ne : ∀ {l : Nat} {ys : List Int32}, tI D l ys → tt ≠ l := fun {l ys} z q => by
    have := (show D.1[tt]? = _ from q2).symm.trans (q ▸ z)
    cases this
  refine ⟨_, s, ⟨(gSet_ne (ne q1)).trans q1, ts.set t (rf j), gSet_at htt, by rw [List.length_set]; exact q3, fun u hu => ?_⟩, gSet_E (Or.inl rfl), gSet_len, rfl⟩
  have hu : u < pT P := hu
  by_cases z : u = t
  · refine ⟨j, by rw [z]; exact List.getElem?_set_self (by omega), (gSet_ne (ne hj)).trans ?_⟩
    show D.1[j]? = some (.inr (.inl (1, rw8 (if u = t then n else pL P u) (fun y => (if u = t then a else pA P u) y))))
    rw [if_pos z, if_pos z]
    exact hj
  · obtain ⟨l, m1, m2⟩ := q4 u hu
    refine ⟨l, by rw [List.getElem?_set_ne (fun q => z q.symm)]; exact m1, (gSet_ne (ne m2)).trans ?_⟩
    show D.1[l]? = some (.inr (.inl (1, rw8 (if u = t then n else pL P u) (fun y => (if u = t then a else pA P u) y))))
    rw [if_neg z, if_neg z]
    exact m2
end CPY
