/-! THE RANDOM CITY'S BANS AND DEPOTS -/
section RCB
variable {h0 : PH} {D0 : gDS} {buf rnd c : Nat} {h : PH} {D : gDS} {N : NT} {its : List Itm} {B : List (Nat × Nat × Nat)} {e b d hh tt : Nat}
theorem rci_rnd {D' : gDS} (hI : RCI h0 D0 buf rnd c (h, D) N its B e b d hh tt) (x : gE (fun j => j = rnd) D D') (hR' : RD D' rnd) : RCI h0 D0 buf rnd c (h, D') N its B e b d hh tt := by
  obtain ⟨hC, hP, ⟨hc0, hne1, hne2⟩, hW, hF, hR, hx, hNN, hG, ⟨hb0, hr0⟩⟩ := hI
  dsimp only at hC hP hW hF hR hx
  have hbr : ¬ buf = rnd := fun z => by
    have := hR.kt
    rw [← z, hW.kt] at this
    omega
  exact ⟨x.tO (fun z => by have : c = rnd := z; omega) hC, hP.ext x (fun i hi z => Or.inl (by have : i = rnd := z; omega)), ⟨hc0, hne1, hne2⟩, hW.ext x hbr, hF, hR', hx.tr (x.mono (fun _ _ z => Or.inr z)), hNN, hG, hb0, hr0⟩
/-- a new array of three numbers -/
theorem ar3 {A : gDS} (x y z : Int32) : ∃ B1 B2 B3, gIst (gAI A 1 3) (rf A.1.length) 1 (0 : Int32) x = some B1 ∧ gIst B1 (rf A.1.length) 1 (1 : Int32) y = some B2 ∧ gIst B2 (rf A.1.length) 1 (2 : Int32) z = some B3 ∧ tI B3 A.1.length [x, y, z] ∧ gE noW A B3 ∧ B3.1.length = A.1.length + 1 ∧ gMd 1 3 A B3 := by
  obtain ⟨t3, y3, l3, m3⟩ := gAI_t (D := A) (n := 3)
  obtain ⟨B1, c1, c2, c3, c4, c5⟩ := ia_st (k := 0) (v := x) t3 (by rw [List.length_replicate]; omega) (by omega)
  obtain ⟨B2, d1, d2, d3, d4, d5⟩ := ia_st (k := 1) (v := y) c2 (by rw [List.length_set, List.length_replicate]; omega) (by omega)
  obtain ⟨B3, e1, e2, e3, e4, e5⟩ := ia_st (k := 2) (v := z) d2 (by rw [List.length_set, List.length_set, List.length_replicate]; omega) (by omega)
  exact ⟨B1, B2, B3, c1, d1, e1, e2, ((y3.on c3 (fun i hi => by omega)).on d3 (fun i hi => by omega)).on e3 (fun i hi => by omega), by omega, (m3.tr ((gMd.eq c5).tr ((gMd.eq d5).tr (gMd.eq e5)))).mono (by omega) (by omega)⟩
set_option maxRecDepth 4000 in
theorem ban_add {v e1 e2 : Nat} (hI : RCI h0 D0 buf rnd c (h, D) N its B e b d hh tt) (hBl : B.length ≤ 100) (hl : (rend its).length ≤ 640) (hv : v < wN N) (h1 : e1 < wE N) (h2 : e2 < wE N) (ht1 : wTl N (2 * e1) = v ∨ wHd N (2 * e1) = v) (ht2 : wTl N (2 * e2) = v ∨ wHd N (2 * e2) = v) :
    ∃ D58 D59 D60 y61 D62 D63 D64 D65 s', gIst (gAI D 1 3) (rf D.1.length) 1 (0 : Int32) (nI v) = some D58 ∧ gIst D58 (rf D.1.length) 1 (1 : Int32) (nI e1) = some D59 ∧ gIst D59 (rf D.1.length) 1 (2 : Int32) (nI e2) = some D60 ∧ gFr D (rf c) 8 4 = some (rf b) ∧ F_L_with D60 (rf b) (rf D.1.length) = some y61 ∧ gFst y61.2 (rf c) 8 4 (.inr (.inr y61.1)) = some D62 ∧
      gIst (gAI D62 1 3) (rf D62.1.length) 1 (0 : Int32) (nI v) = some D63 ∧ gIst D63 (rf D62.1.length) 1 (1 : Int32) (nI e1) = some D64 ∧ gIst D64 (rf D62.1.length) 1 (2 : Int32) (nI e2) = some D65 ∧ F_L_writeNumbers (h, D65) (rf buf) (some (.inr 14)) (rf D62.1.length) = some s' ∧
      RCI h0 D0 buf rnd c s' (addB N (arcTo N e1 v) ((1 : Int32) <<< (nI e2 &&& 31))) (its ++ ([(2, 2)] ++ (numI [v, e1, e2] ++ [(0, 59)]))) (B ++ [(v, e1, e2)]) e D60.1.length d hh tt ∧ gMd 3 (B.length + 7) D s'.2 := by
  obtain ⟨hC, hP, ⟨hc0, hne1, hne2⟩, hW, hF, hR, hx, ⟨hN, hPR, hN2⟩, hG, ⟨hb0, hr0⟩⟩ := hI
  dsimp only at hC hP hW hF hR hx
  have hN8 := hN.1
  have hE14 := hN.2.2.1
  have hcr : ¬ c = rnd := by omega
  have hcb : ¬ c = buf := by omega
  have hbr : ¬ buf = rnd := fun z => by
    have := hR.kt
    rw [← z, hW.kt] at this
    omega
  have lD := hx.1
  obtain ⟨B1, B2, D12, c1, c2, c3, row, x12, l12, m12⟩ := ar3 (A := D) (nI v) (nI e1) (nI e2)
  have P12 : RCP D0.1.length D12 N B e b d hh tt := hP.ext x12 (fun i hi z => absurd z id)
  have C12 : CO D12 c N none e b d hh tt none := x12.tO id hC
  have W12 : TW h D12 buf (rend its) := hW.ext x12 id
  have R12 : RD D12 rnd := hR.ext x12 id
  obtain ⟨q1, q2, ⟨q3, q4⟩, ⟨q5, q6⟩, ⟨q7, q8⟩⟩ := P12
  obtain ⟨bm, bs, bs1, bs2, bs3, bs4⟩ := q2
  obtain ⟨D13, p1, p2, p3, p4, p5⟩ := g_with bs1 (fun kk r hr => by
    have hlt := (List.getElem?_eq_some_iff.mp hr).1
    obtain ⟨⟨i, -, e4, e5⟩, -⟩ := bs3 kk B[kk] (List.getElem?_eq_getElem (by omega))
    rw [e4] at hr
    injection hr with hr
    exact ⟨i, _, hr.symm, e5⟩) row (by omega)
  have C13 : CO D13 c N none e b d hh tt none := p3.tO id C12
  obtain ⟨D14, s14, C14, y14, l14, m14⟩ : ∃ D14, gFst D13 (rf c) 8 4 (.inr (.inr (rf D12.1.length))) = some D14 ∧ CO D14 c N none e D12.1.length d hh tt none ∧ gE (fun j => j = c) D13 D14 ∧ D14.1.length = D13.1.length ∧ D14.2 = D13.2 :=
    ⟨_, gFst_t C13 (by show 4 < 9; omega), gSet_at (tO_lt C13), gSet_E (Or.inl rfl), gSet_len, rfl⟩
  have x1214 : gE (fun j => j = c) D12 D14 := (p3.mono (fun _ _ z => absurd z id)).tr y14
  have hkc : kt D12 c = 108 := C12.tg
  have hkc14 : kt D14 c = 108 := C14.tg
  have okc : ∀ i xs, tI D12 i xs → ¬ i = c := fun i xs t z => by
    have := t.tg
    rw [z, hkc] at this
    omega
  have row14 : tI D14 D.1.length [nI v, nI e1, nI e2] := x1214.tI (okc _ _ row) row
  have W14 : TW h D14 buf (rend its) := W12.ext x1214 (fun z => hcb z.symm)
  obtain ⟨B4, B5, D15, d1, d2, d3, row2, x15, l15, m15⟩ := ar3 (A := D14) (nI v) (nI e1) (nI e2)
  have W15 := W14.ext x15 id
  have vok : ∀ w ∈ [v, e1, e2], w < 1000 := fun w hw => by
    simp at hw
    omega
  obtain ⟨s', u1, u2, u3, u4, u5⟩ := w_nums (WO.rf W15) (bs := rend [(2, 2)]) (r := some (.inr 14)) (vs := [v, e1, e2]) (a := D14.1.length) (SS_c (j := 2) (by omega)) (by decide) row2 (by have := tI_lt hW.1; omega) vok (by show (rend its).length + 3 + 5 * 3 + 1 ≤ 680; omega) (by show 3 ≤ 10; omega)
  rw [← st_rend] at u2
  have hst : toks ([(2, 2)] ++ (numI [v, e1, e2] ++ [(0, 59)])) = [(2, 2), (1, v), (1, e1), (1, e2), (0, 59)] := rfl
  have hPR' : PRD (its ++ ([(2, 2)] ++ (numI [v, e1, e2] ++ [(0, 59)]))) (addB N (arcTo N e1 v) ((1 : Int32) <<< (nI e2 &&& 31))) none := pr_step hPR (by rw [hst]; exact st_ban hv h1 h2 ht1 ht2) ⟨_, _, hst, fun _ => by show 2 < 7; omega⟩
  have xs : gE (fun j => j = buf ∨ j = rnd) D0 s'.2 := by
    have x14 : gE (fun j => j = c) D D14 := (x12.mono (fun _ _ z => absurd z id)).tr x1214
    exact ((hx.onW x14 (fun i hi => Or.inl (by omega))).tr (x15.mono (fun _ _ z => absurd z id))).tr (u4.mono (fun _ _ z => Or.inl z))
  have hwl : ∀ x, wHd (addB N (arcTo N e1 v) ((1 : Int32) <<< (nI e2 &&& 31))) x = wHd N x := fun _ => rfl
  have ha : wHd N (arcTo N e1 v) = v ∧ arcTo N e1 v / 2 = e1 := by
    unfold arcTo
    by_cases q : wHd N (2 * e1) = v
    · rw [if_pos q]
      exact ⟨q, by omega⟩
    · rw [if_neg q]
      refine ⟨?_, by omega⟩
      have e0 : wHd N (2 * e1 + 1) = wTl N (2 * e1) := by
        unfold wHd wFl
        rw [if_neg (by omega), Nat.add_sub_cancel]
      rw [e0]
      omega
  have P14 : RCP D0.1.length D14 (addB N (arcTo N e1 v) ((1 : Int32) <<< (nI e2 &&& 31))) (B ++ [(v, e1, e2)]) e D12.1.length d hh tt := by
    refine ⟨?_, ⟨by omega, bs ++ [rf D.1.length], y14.tQ (fun z => by have := tO_lt C12; omega) p2, by rw [List.length_append, List.length_append, bs2]; rfl, fun j x hx => ?_, fun x y hx hy hxy => ?_⟩, ⟨x1214.tI (okc _ _ q3) q3, q4⟩, ⟨x1214.tI (okc _ _ q5) q5, q6⟩, ⟨x1214.tQ (fun z => by have := q7.tg; rw [z, hkc] at this; omega) q7, q8⟩⟩
    · exact q1.ext x1214 (fun i hi z => Or.inr (by rw [z]; exact hkc))
    · rcases Nat.lt_or_ge j B.length with z | z
      · rw [List.getElem?_append_left z] at hx
        obtain ⟨⟨i, e3, e4, e5⟩, e6⟩ := bs3 j x hx
        exact ⟨⟨i, e3, by rw [List.getElem?_append_left (by omega)]; exact e4, x1214.tI (okc _ _ e5) e5⟩, e6⟩
      · have hj := (List.getElem?_eq_some_iff.mp hx).1
        rw [List.length_append] at hj
        have hj : j < B.length + 1 := hj
        obtain rfl : j = B.length := by omega
        rw [List.getElem?_append_right (Nat.le_refl _), Nat.sub_self] at hx
        injection hx with hx
        subst hx
        exact ⟨⟨D.1.length, by omega, by rw [List.getElem?_append_right (by omega), bs2, Nat.sub_self]; rfl, row14⟩, by show v < 8; omega, by show e1 < 14; omega, by show e2 < 14; omega⟩
    · have old := bs4 x y hx hy hxy
      have hx' : x < 2 * wE N := hx
      have hy' : y < 2 * wE N := hy
      rw [List.mem_append, List.mem_singleton]
      show ((if x = arcTo N e1 v then wBn N x ||| ((1 : Int32) <<< (nI e2 &&& 31)) else wBn N x) >>> (nI (y / 2) &&& 31)) &&& (1 : Int32) = 0 ↔ ¬ ((wHd N x, x / 2, y / 2) ∈ B ∨ (wHd N x, x / 2, y / 2) = (v, e1, e2))
      by_cases z : x = arcTo N e1 v
      · rw [if_pos z, bit_or (by omega) (by omega), old]
        have e9 : (wHd N x, x / 2, y / 2) = (v, e1, e2) ↔ y / 2 = e2 := by
          rw [z, ha.1, ha.2]
          exact ⟨fun w => by injection w with w1 w2; injection w2, fun w => by rw [w]⟩
        rw [e9]
        exact ⟨fun w => fun y => y.elim w.1 w.2, fun w => ⟨fun y => w (Or.inl y), fun y => w (Or.inr y)⟩⟩
      · rw [if_neg z, old]
        have e9 : ¬ (wHd N x, x / 2, y / 2) = (v, e1, e2) := fun w => by
          injection w with w1 w2
          injection w2 with w2 w3
          have hcase : x = 2 * e1 ∨ x = 2 * e1 + 1 := by omega
          have t1 := (hN.2.2.2.2.1 (2 * e1) (by omega)).2.2.2.2
          have e0 : wHd N (2 * e1 + 1) = wTl N (2 * e1) := by
            unfold wHd wFl
            rw [if_neg (by omega), Nat.add_sub_cancel]
          unfold arcTo at z
          rcases hcase with rfl | rfl
          · rw [if_pos w1] at z
            exact z rfl
          · rw [e0] at w1
            rw [if_neg (fun q => t1 (q.trans w1.symm))] at z
            exact z rfl
        exact ⟨fun w => fun y => y.elim w e9, fun w => fun y => w (Or.inl y)⟩
  have P' : RCP D0.1.length s'.2 (addB N (arcTo N e1 v) ((1 : Int32) <<< (nI e2 &&& 31))) (B ++ [(v, e1, e2)]) e D12.1.length d hh tt := (P14.ext x15 (fun i hi z => absurd z id)).ext u4 (fun i hi z => Or.inl (by have : i = buf := z; omega))
  refine ⟨B1, B2, D12, (rf D12.1.length, D13), D14, B4, B5, D15, s', c1, c2, c3, gFr_t hC (b := 4) rfl, p1, s14, d1, d2, d3, u1, ⟨u4.tO hcb (x15.tO id C14), P', ⟨hc0, hne1, ?_⟩, u2, hF.trans u3, (((R12.ext p3 id).ext y14 (fun z => hcr z.symm)).ext x15 id).ext u4 (fun z => hbr z.symm), xs, ⟨addB_WN hN, hPR', hN2⟩, st_good hG ⟨Or.inr (Or.inr (Or.inl ⟨rfl, by show 2 < 7; omega⟩)), fun z => by omega, trivial⟩ (fun w hw => by have := vok w hw; omega), hb0, hr0⟩, ?_⟩
  · intro z
    have := tQ_lt q7
    omega
  · have m13 := (m12.tr p5).tr ((gMd.eq m14).tr (m15.tr (gMd.eq u5)))
    exact m13.mono (by omega) (by omega)
theorem gld_e {k j : Nat} {A : gDS} {m : Nat} (hN : WN N) (hE : GEm A m N e) (hk : k < wE N) (hj : j < 2) : ∃ i, gQld A (rf e) (nI k) = some (rf i) ∧ gIld A (rf i) 1 (nI j) = some (nI (wTl N (2 * k + j))) := by
  obtain ⟨i, h1, h2⟩ := g_row hE.GEd hk hN
  refine ⟨i, h1, ?_⟩
  rw [gIld_t h2 (by show j < 5; omega) (by omega)]
  have c : j = 0 ∨ j = 1 := by omega
  rcases c with rfl | rfl <;> rfl
theorem hd_2 (k : Nat) : wHd N (2 * k) = wTl N (2 * k + 1) := by
  unfold wHd wFl
  rw [if_pos (by omega)]
set_option maxRecDepth 4000 in
theorem rc_ban {τ : Type} {X : rSt → Option (rSt ⊕ τ)} {s : gST} {k : Nat} (hI : RCI h0 D0 buf rnd c s N its B e b d hh tt) (hE : 1 ≤ wE N) (hBl : B.length ≤ 20) (hl : (rend its).length ≤ 640) (hk : k < 100) : ∃ s' N' its' B' b', loop (baB X (rf c) (rf buf) (rf rnd)) (nI (k + 1), s) = loop (baB X (rf c) (rf buf) (rf rnd)) (nI k, s') ∧ RCI h0 D0 buf rnd c s' N' its' B' e b' d hh tt ∧ wE N' = wE N ∧ wD N' = wD N ∧ B'.length ≤ B.length + 1 ∧ ((∀ a, a < 2 * wE N → wSv N a = wCo N a) → ∀ a, a < 2 * wE N' → wSv N' a = wCo N' a) ∧ (rend its').length ≤ (rend its).length + 19 ∧ gMd 3 27 s.2 s'.2 := by
  obtain ⟨h, D⟩ := s
  have hE14 := hI.2.2.2.2.2.2.2.1.1.2.2.1
  have hN := hI.2.2.2.2.2.2.2.1.1
  have hN8 := hN.1
  obtain ⟨e1, D1, a1, a2, a3, a4, a5, a6⟩ := g_below hI.2.2.2.2.2.1 (show 0 < wE N by omega) (by omega)
  have I1 := rci_rnd hI a4 a3
  obtain ⟨e2, D2, b1, b2, b3, b4, b5, b6⟩ := g_below a3 (show 0 < wE N by omega) (by omega)
  have I2 := rci_rnd I1 b4 b3
  obtain ⟨z, D3, c1, c2, c3, c4, c5, c6⟩ := g_below b3 (show 0 < 2 by omega) (by omega)
  have I3 := rci_rnd I2 c4 c3
  have m3 : D3.2 = D.2 := c6.trans (b6.trans a6)
  obtain ⟨i1', r1, r2⟩ := gld_e hN I2.2.1.1 a2 c2
  obtain ⟨i1'', r1', r2'⟩ := gld_e hN I3.2.1.1 a2 c2
  obtain ⟨i2', q1, q2⟩ := gld_e hN I3.2.1.1 b2 (show 0 < 2 by omega)
  obtain ⟨i3', q3, q4⟩ := gld_e hN I3.2.1.1 b2 (show 1 < 2 by omega)
  have eqi : i1' = i1'' := by
    -- the row is the same before and behind the last random number
    obtain ⟨_, es, es1, es2, es3⟩ := I2.2.1.1
    obtain ⟨_, es', es1', es2', es3'⟩ := I3.2.1.1
    have hne : ¬ e = rnd := fun w => by
      have := b3.kt
      rw [← w, es1.tg] at this
      omega
    have es9 : es = es' := by
      have := (show D3.1[e]? = _ from c4.tQ hne es1).symm.trans (show D3.1[e]? = _ from es1')
      injection this with this
      injection this with this
      injection this with this
      injection this with this
      injection this with _ this
    obtain ⟨i, y1, y2, y3⟩ := es3 e1 a2
    have h1 := r1.symm.trans (gQld_t es1 y2 (by omega))
    have h2 := r1'.symm.trans (gQld_t es1' (es9 ▸ y2) (by omega))
    injection h1 with h1
    injection h2 with h2
    rw [← h2] at h1
    injection h1 with h1
    injection h1
  subst eqi
  have hv : wTl N (2 * e1 + z) < wN N := (hN.2.2.2.2.1 _ (by omega)).1
  have ht1 : wTl N (2 * e1) = wTl N (2 * e1 + z) ∨ wHd N (2 * e1) = wTl N (2 * e1 + z) := by
    rw [hd_2]
    have c : z = 0 ∨ z = 1 := by omega
    rcases c with rfl | rfl
    · exact Or.inl rfl
    · exact Or.inr rfl
  have t8 : ∀ x, x < 2 * wE N → wTl N x < 8 := fun x hx => by
    have := (hN.2.2.2.2.1 x hx).1
    omega
  have w0 := t8 (2 * e1 + z) (by omega)
  have w1 := t8 (2 * e2 + 0) (by omega)
  have w2 := t8 (2 * e2 + 1) (by omega)
  have n1 : ¬ nI (k + 1) ≤ (0 : Int32) := fun y => by
    have := (nI_le' (a := k + 1) (b := 0) (by omega) (by omega)).mp y
    omega
  have e9 : nI (k + 1) - (1 : Int32) = nI k := by rw [i1, nI_sub (by omega), Nat.add_sub_cancel]
  obtain ⟨_, es, es1, es2, -⟩ := hI.2.1.1
  obtain ⟨_, es', es1', es2', -⟩ := I1.2.1.1
  by_cases y1 : wTl N (2 * e2 + 0) = wTl N (2 * e1 + z) ∨ wTl N (2 * e2 + 1) = wTl N (2 * e1 + z)
  · have ht2 : wTl N (2 * e2) = wTl N (2 * e1 + z) ∨ wHd N (2 * e2) = wTl N (2 * e1 + z) := by
      rw [hd_2]
      exact y1
    obtain ⟨D58, D59, D60, y61, D62, D63, D64, D65, s', o1, o2, o3, o0, o4, o5, o6, o7, o8, o9, IO, mO⟩ := ban_add I3 (by omega) hl hv a2 b2 ht1 ht2
    refine ⟨s', _, _, _, _, ?_, IO, rfl, rfl, by rw [List.length_append]; exact Nat.le_refl _, fun hs a ha => hs a ha, ?_, ?_⟩
    · conv => lhs; rw [loop_eq]; unfold baB
      dsimp only
      rw [if_neg n1, gFr_t hI.1 (b := 3) rfl, Option.bind_some, gLen_q es1, es2, Option.bind_some, a1, Option.bind_some]
      dsimp only
      rw [gFr_t I1.1 (b := 3) rfl, Option.bind_some, gLen_q es1', es2', Option.bind_some, b1, Option.bind_some]
      dsimp only
      rw [gFr_t I2.1 (b := 3) rfl, Option.bind_some, r1, Option.bind_some, show F_X10_below D2 (rf rnd) (2 : Int32) = _ from c1, Option.bind_some]
      dsimp only
      rw [r2', Option.bind_some, gFr_t I3.1 (b := 3) rfl, Option.bind_some, q1, Option.bind_some, show gIld D3 (rf i2') 1 (0 : Int32) = _ from q2, Option.bind_some]
      by_cases y2 : wTl N (2 * e2 + 0) = wTl N (2 * e1 + z)
      · rw [if_pos (by rw [y2]), o0, Option.bind_some, gTop_rf D3, o1, Option.bind_some, o2, Option.bind_some, o3, Option.bind_some, o4, Option.bind_some, o5, Option.bind_some, gTop_rf D62, o6, Option.bind_some, o7, Option.bind_some, o8, Option.bind_some, o9, Option.bind_some, Option.bind_some, e9]
        rfl
      · have y3 : wTl N (2 * e2 + 1) = wTl N (2 * e1 + z) := y1.resolve_left y2
        have q3' : i3' = i2' := by
          have := q3.symm.trans q1
          injection this with this
          injection this with this
          injection this
        rw [if_neg (fun w => y2 ((nI_eq (by omega) (by omega)).mp w)), Option.bind_some, q1, Option.bind_some, ← q3', show gIld D3 (rf i3') 1 (1 : Int32) = _ from q4, Option.bind_some, if_pos (by rw [y3]), o0, Option.bind_some, gTop_rf D3, o1, Option.bind_some, o2, Option.bind_some, o3, Option.bind_some, o4, Option.bind_some, o5, Option.bind_some, gTop_rf D62, o6, Option.bind_some, o7, Option.bind_some, o8, Option.bind_some, o9, Option.bind_some, Option.bind_some, e9]
        rfl
    · rw [st_rend]
      have h1 : (rend [(2, 2)]).length = 3 := rfl
      have h2 := numI_len [wTl N (2 * e1 + z), e1, e2] (fun w hw => by simp at hw; omega)
      have h3 : [wTl N (2 * e1 + z), e1, e2].length = 3 := rfl
      simp only [List.length_append, List.length_singleton]
      omega
    · have := (gMd.eq m3).tr mO
      exact this.mono (by omega) (by omega)
  · have y2 : ¬ wTl N (2 * e2 + 0) = wTl N (2 * e1 + z) := fun w => y1 (Or.inl w)
    have y3 : ¬ wTl N (2 * e2 + 1) = wTl N (2 * e1 + z) := fun w => y1 (Or.inr w)
    have q3' : i3' = i2' := by
      have := q3.symm.trans q1
      injection this with this
      injection this with this
      injection this
    refine ⟨(h, D3), N, its, B, b, ?_, I3, rfl, rfl, by omega, fun hs => hs, by omega, (gMd.eq m3).mono (by omega) (by omega)⟩
    conv => lhs; rw [loop_eq]; unfold baB
    dsimp only
    rw [if_neg n1, gFr_t hI.1 (b := 3) rfl, Option.bind_some, gLen_q es1, es2, Option.bind_some, a1, Option.bind_some]
    dsimp only
    rw [gFr_t I1.1 (b := 3) rfl, Option.bind_some, gLen_q es1', es2', Option.bind_some, b1, Option.bind_some]
    dsimp only
    rw [gFr_t I2.1 (b := 3) rfl, Option.bind_some, r1, Option.bind_some, show F_X10_below D2 (rf rnd) (2 : Int32) = _ from c1, Option.bind_some]
    dsimp only
    rw [r2', Option.bind_some, gFr_t I3.1 (b := 3) rfl, Option.bind_some, q1, Option.bind_some, show gIld D3 (rf i2') 1 (0 : Int32) = _ from q2, Option.bind_some, if_neg (fun w => y2 ((nI_eq (by omega) (by omega)).mp w)), Option.bind_some, q1, Option.bind_some, ← q3', show gIld D3 (rf i3') 1 (1 : Int32) = _ from q4, Option.bind_some, if_neg (fun w => y3 ((nI_eq (by omega) (by omega)).mp w)), Option.bind_some, e9]
    rfl
/-- a depot more -/
theorem rc_depot {τ : Type} {X : rSt → Option (rSt ⊕ τ)} {s : gST} {k : Nat} (hI : RCI h0 D0 buf rnd c s N its B e b d hh tt) (hD : wD N < 3) (hl : (rend its).length ≤ 640) (hk : k < 100) : ∃ s' N' its' d', loop (deB X (rf c) (rf buf) (rf rnd)) (nI (k + 1), s) = loop (deB X (rf c) (rf buf) (rf rnd)) (nI k, s') ∧ RCI h0 D0 buf rnd c s' N' its' B e b d' hh tt ∧ wE N' = wE N ∧ wD N' = wD N + 1 ∧ ((∀ a, a < 2 * wE N → wSv N a = wCo N a) → ∀ a, a < 2 * wE N' → wSv N' a = wCo N' a) ∧ (rend its').length ≤ (rend its).length + 11 ∧ gMd 2 4 s.2 s'.2 := by
  obtain ⟨h, D⟩ := s
  have hR := hI.2.2.2.2.2.1
  have hN2 := hI.2.2.2.2.2.2.2.1.2.2
  obtain ⟨v, D1, a1, a2, a3, a4, a5, a6⟩ := g_below hR (show 0 < wN N by omega) (by have := hI.2.2.2.2.2.2.2.1.1.1; omega)
  have I1 := rci_rnd hI a4 a3
  have hC0 := hI.1
  obtain ⟨hC, hP, ⟨hc0, hne1, hne2⟩, hW, hF, hR1, hx, ⟨hN, hPR, -⟩, hG, ⟨hb0, hr0⟩⟩ := I1
  dsimp only at hC hP hW hF hR1 hx
  have hN8 := hN.1
  have hcr : ¬ c = rnd := by omega
  have hcb : ¬ c = buf := by omega
  have hbr : ¬ buf = rnd := fun z => by
    have := hR1.kt
    rw [← z, hW.kt] at this
    omega
  have lD := hx.1
  obtain ⟨q1, q2, ⟨q3, q4⟩, ⟨q5, q6⟩, ⟨q7, q8⟩⟩ := hP
  have q3' : tI D1 d (rw8 (wD N) (wDp N)) := q3
  obtain ⟨D2, b1, b2, b3, b4, b5⟩ := g_ins (k := wD N) (x := v) q3' (by omega) (Nat.le_refl _)
  have C2 : CO D2 c N none e b d hh tt none := b3.tO id hC
  obtain ⟨D3, s3, C3, y3, l3, m3⟩ : ∃ D3, gFst D2 (rf c) 8 5 (.inr (.inr (rf D1.1.length))) = some D3 ∧ CO D3 c N none e b D1.1.length hh tt none ∧ gE (fun j => j = c) D2 D3 ∧ D3.1.length = D2.1.length ∧ D3.2 = D2.2 :=
    ⟨_, gFst_t C2 (by show 5 < 9; omega), gSet_at (tO_lt C2), gSet_E (Or.inl rfl), gSet_len, rfl⟩
  have x13 : gE (fun j => j = c) D1 D3 := (b3.mono (fun _ _ z => absurd z id)).tr y3
  obtain ⟨t4, y4, l4, m4⟩ := gAI_t (D := D3) (n := 1)
  obtain ⟨D5, c1, c2, c3, c4, c5⟩ := ia_st (k := 0) (v := nI v) t4 (by rw [List.length_replicate]; omega) (by omega)
  have x35 : gE noW D3 D5 := y4.on c3 (fun i hi => by omega)
  have row : tI D5 D3.1.length ([v].map nI) := c2
  have hkc : kt D1 c = 108 := hC.tg
  have W5 : TW h D5 buf (rend its) := (hW.ext x13 (fun z => hcb z.symm)).ext x35 id
  have vok : ∀ w ∈ [v], w < 1000 := fun w hw => by
    simp at hw
    omega
  obtain ⟨s', u1, u2, u3, u4, u5⟩ := w_nums (WO.rf W5) (bs := rend [(2, 3)]) (r := some (.inr 16)) (vs := [v]) (a := D3.1.length) (SS_c (j := 3) (by omega)) (by decide) row (by have := tI_lt hW.1; omega) vok (by show (rend its).length + 5 + 5 * 1 + 1 ≤ 680; omega) (by show 1 ≤ 10; omega)
  rw [← st_rend] at u2
  have hst : toks ([(2, 3)] ++ (numI [v] ++ [(0, 59)])) = [(2, 3), (1, v), (0, 59)] := rfl
  have hPR' : PRD (its ++ ([(2, 3)] ++ (numI [v] ++ [(0, 59)]))) (addD N v) none := pr_step hPR (by rw [hst]; exact st_depot hD a2) ⟨_, _, hst, fun _ => by show 3 < 7; omega⟩
  have xs : gE (fun j => j = buf ∨ j = rnd) D0 s'.2 := ((hx.onW x13 (fun i hi => Or.inl (by omega))).tr (x35.mono (fun _ _ z => absurd z id))).tr (u4.mono (fun _ _ z => Or.inl z))
  have okc : ∀ i xs, tI D1 i xs → ¬ i = c := fun i xs t z => by
    have := t.tg
    rw [z, hkc] at this
    omega
  have P3 : RCP D0.1.length D3 (addD N v) B e b D1.1.length hh tt := by
    refine ⟨?_, ?_, ⟨?_, by omega⟩, ⟨x13.tI (okc _ _ q5) q5, q6⟩, ⟨x13.tQ (fun z => by have := q7.tg; rw [z, hkc] at this; omega) q7, q8⟩⟩
    · exact q1.ext x13 (fun i hi z => Or.inr (by rw [z]; exact hkc))
    · exact q2.ext x13 (fun i hi z => Or.inr (by rw [z]; exact hkc))
    · have e0 : rw8 (wD N + 1) (insA (wDp N) (wD N) v) = rw8 (wD N + 1) (wDp (addD N v)) := rw8_ag (fun y hy => by
        show insA (wDp N) (wD N) v y = if y = wD N then v else wDp N y
        unfold insA
        by_cases z : y = wD N
        · rw [if_neg (by omega), if_pos z, if_pos z]
        · rw [if_pos (by omega), if_neg z])
      have b2' : tI D3 D1.1.length (rw8 (wD N + 1) (insA (wDp N) (wD N) v)) := y3.tI (fun z => by have := tO_lt hC; omega) b2
      rw [e0] at b2'
      exact b2'
  have P' : RCP D0.1.length s'.2 (addD N v) B e b D1.1.length hh tt := (P3.ext x35 (fun i hi z => absurd z id)).ext u4 (fun i hi z => Or.inl (by have : i = buf := z; omega))
  refine ⟨s', addD N v, _, D1.1.length, ?_, ⟨u4.tO hcb (x35.tO id C3), P', ⟨hc0, hne1, hne2⟩, u2, hF.trans u3, (((hR1.ext b3 id).ext y3 (fun z => hcr z.symm)).ext x35 id).ext u4 (fun z => hbr z.symm), xs, ⟨addD_WN hN hD a2, hPR', hN2⟩, st_good hG ⟨Or.inr (Or.inr (Or.inl ⟨rfl, by show 3 < 7; omega⟩)), fun z => by omega, trivial⟩ (fun w hw => by have := vok w hw; omega), hb0, hr0⟩, rfl, rfl, fun hs a ha => hs a ha, ?_, ?_⟩
  · have n1 : ¬ nI (k + 1) ≤ (0 : Int32) := fun y => by
      have := (nI_le' (a := k + 1) (b := 0) (by omega) (by omega)).mp y
      omega
    have e9 : nI (k + 1) - (1 : Int32) = nI k := by rw [i1, nI_sub (by omega), Nat.add_sub_cancel]
    conv => lhs; rw [loop_eq]; unfold deB
    dsimp only
    rw [if_neg n1, gFi_t hC0 (b := 0) rfl, Option.bind_some, a1, Option.bind_some]
    dsimp only
    rw [gFr_t hC (b := 5) rfl, Option.bind_some, Option.bind_some, gLen_t q3', rw8_len, Option.bind_some, b1, Option.bind_some]
    dsimp only
    rw [gTop_rf D1, s3, Option.bind_some, gTop_rf D3, show gIst (gAI D3 1 1) (rf D3.1.length) 1 (0 : Int32) (nI v) = some D5 from c1, Option.bind_some, u1, Option.bind_some, Option.bind_some, e9]
    rfl
  · rw [st_rend]
    have h1 : (rend [(2, 3)]).length = 5 := rfl
    have h2 := numI_len [v] (fun w hw => by simp at hw; omega)
    have h3 : [v].length = 1 := rfl
    simp only [List.length_append, List.length_singleton]
    omega
  · have := (gMd.eq a6).tr (b5.tr ((gMd.eq m3).tr (m4.tr ((gMd.eq c5).tr (gMd.eq u5)))))
    exact this.mono (by omega) (by omega)
end RCB
