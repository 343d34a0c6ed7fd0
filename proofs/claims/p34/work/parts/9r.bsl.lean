/-! BEST: the search's loops -/
abbrev bSt : Type := gRF × Int32 × gDS
noncomputable def d8 {ρ : Type} (o : gRF) (p0 t k : Int32) (s8 : bSt) : Option (bSt ⊕ (bSt ⊕ ρ)) :=
  if s8.2.1 < ((2 : Int32) * p0) then
   some (.inr (.inl (s8.1, (k - (1 : Int32)), s8.2.2)))
  else
   (F_X8_fits s8.2.2 o t k s8.2.1).bind fun y9 =>
   if ¬ y9.1 = 0 then
    (gFr y9.2 o 8 6).bind fun r10 =>
    (gIld y9.2 r10 1 t).bind fun z11 =>
    (gFr y9.2 o 8 7).bind fun r12 =>
    (gQld y9.2 r12 t).bind fun r13 =>
    (F_L_inserted y9.2 r13 k s8.2.1).bind fun y14 =>
    (F_X8_price y14.2 o z11 y14.1).bind fun y15 =>
    (F_X8_price_ y15.2 o t).bind fun y16 =>
    if s8.1 = none then
     (gIst (gAI y16.2 1 4) (gTop y16.2) 1 (0 : Int32) (y15.1 - y16.1)).bind fun D17 =>
     (gIst D17 (gTop y16.2) 1 (1 : Int32) t).bind fun D18 =>
     (gIst D18 (gTop y16.2) 1 (2 : Int32) k).bind fun D19 =>
     (gIst D19 (gTop y16.2) 1 (3 : Int32) s8.2.1).bind fun D20 =>
     some (.inl ((gTop y16.2), (s8.2.1 - (1 : Int32)), D20))
    else
     (gIld y16.2 s8.1 1 (0 : Int32)).bind fun z21 =>
     if z21 < (y15.1 - y16.1) then
      some (.inl (s8.1, (s8.2.1 - (1 : Int32)), y16.2))
     else
      (gIst (gAI y16.2 1 4) (gTop y16.2) 1 (0 : Int32) (y15.1 - y16.1)).bind fun D22 =>
      (gIst D22 (gTop y16.2) 1 (1 : Int32) t).bind fun D23 =>
      (gIst D23 (gTop y16.2) 1 (2 : Int32) k).bind fun D24 =>
      (gIst D24 (gTop y16.2) 1 (3 : Int32) s8.2.1).bind fun D25 =>
      some (.inl ((gTop y16.2), (s8.2.1 - (1 : Int32)), D25))
   else
    some (.inl (s8.1, (s8.2.1 - (1 : Int32)), y9.2))
noncomputable def d7 {ρ : Type} (o : gRF) (p0 t : Int32) (s7 : bSt) : Option (bSt ⊕ (bSt ⊕ ρ)) :=
  if s7.2.1 < 0 then
   some (.inr (.inl (s7.1, (t - (1 : Int32)), s7.2.2)))
  else
   loop (d8 o p0 t s7.2.1) (s7.1, (((2 : Int32) * p0) + (1 : Int32)), s7.2.2)
noncomputable def d3 (o : gRF) (p0 : Int32) (s3 : bSt) : Option (bSt ⊕ (gRF × gDS)) :=
  if s3.2.1 < 0 then
   some (.inr ((s3.1, s3.2.2)))
  else
   (gFr s3.2.2 o 8 7).bind fun r4 =>
   (gQld s3.2.2 r4 s3.2.1).bind fun r5 =>
   (gLen s3.2.2 r5).bind fun z6 =>
   loop (d7 o p0 s3.2.1) (s3.1, z6, s3.2.2)
theorem best_is (D : gDS) (o : gRF) (p0 : Int32) : F_X8_best D o p0 = (gRv D o 8).bind fun _ => (gFr D o 8 7).bind fun r1 => (gLen D r1).bind fun z2 => loop (d3 o p0) (none, (z2 - (1 : Int32)), D) := rfl
section BSL
variable {D : gDS} {c e0 b d hh tt g : Nat} {N : NT} {sv : gRF} {P : PT} {e : Nat}
/-- one side tried -/
theorem g_side {ρ : Type} {t k s : Nat} {r : gRF} {st : Option (Nat × Int)} (hN : WN N) (hw : WQ N P) (hd : DVs N P) (hV : CV D c N sv e0 b d hh tt g) (hP : GP D P hh tt) (ht : t < pT P) (hk : k ≤ pL P t) (h13 : R13 P) (he : e < wE N) (hs : s < 2) (hB : BR D N P e r st) : ∃ r' D', d8 (ρ := ρ) (rf c) (nI e) (nI t) (nI k) (r, nI (2 * e + s), D) = some (.inl (r', nI (2 * e + s) - (1 : Int32), D')) ∧ BR D' N P e r' (mg (cnd N P e t k s) st) ∧ gE noW D D' ∧ gMd (3 * pL P t + 5) (8 * pL P t + 10) D D' := by
  have hE4 := hN.2.2.1
  have hn := hN.1
  have hx : 2 * e + s < 2 * wE N := by omega
  have hx2 : (2 * e + s) / 2 = e := by omega
  obtain ⟨w1, w2, w3⟩ := hw.2 t ht
  have h13t := h13 t ht
  have n1 : ¬ nI (2 * e + s) < (2 : Int32) * nI e := by
    rw [i2, nI_mul]
    exact fun z => by
      have := (nI_lt' (by omega) (by omega)).mp z
      omega
  obtain ⟨D1, p1, p2, p3⟩ := g_fits (x := 2 * e + s) hN hw hd hV hP ht hk h13t hx
  rw [hx2] at p1
  unfold d8
  dsimp only
  rw [if_neg n1, p1, Option.bind_some]
  by_cases q : cdB N P e t k s = true
  · have q1 : (wRoom N P t e && wCand N P t k (2 * e + s)) = true := q
    have q2 : wCand N P t k (2 * e + s) = true := by
      rw [Bool.and_eq_true] at q1
      exact q1.2
    have z0 : ¬ (1 : Int32) = 0 := by decide
    have hV1 := hV.ext p2
    have hP1 := hP.ext p2
    obtain ⟨i, g1, g2⟩ := hP1.row ht hw.1
    obtain ⟨D2, r1, r2, r3, -, r5⟩ := g_ins (k := k) (x := 2 * e + s) g2 (by omega) hk
    have hV2 := hV1.ext r3
    have hP2 := hP1.ext r3
    obtain ⟨D3, t1, t2, t3⟩ := g_price hN hV2 r2 (by omega) (ins_ok w3 hx hk) (show pH P t < 8 by omega)
    have t1 : F_X8_price D2 (rf c) (nI (pH P t)) (gTop D1) = some (nI (CK 500000 N (pH P t) (pL P t + 1) (insA (pA P t) k (2 * e + s))), D3) := t1
    obtain ⟨D4, u1, u2, u3⟩ := g_price_ hN hw (hV2.ext t2) (hP2.ext t2) ht
    have x4 : gE noW D D4 := ((p2.tr r3).tr t2).tr u2
    have m4 : gMd (3 * pL P t + 4) (8 * pL P t + 6) D D4 := (((p3.tr r5).tr t3).tr u3).mono (by omega) (by omega)
    have hB4 := hB.ext x4
    have e1 : CK 500000 N (pH P t) (pL P t + 1) (insA (pA P t) k (2 * e + s)) = CK 0 N (pH P t) (pL P t + 1) (insA (pA P t) k (2 * e + s)) := CK_dv ((cand_DV (hd t ht) hk).mp q2)
    have e2 : CK 500000 N (pH P t) (pL P t) (pA P t) = wTC N P t := CK_dv (hd t ht)
    have e3 : nI (CK 500000 N (pH P t) (pL P t + 1) (insA (pA P t) k (2 * e + s))) - nI (CK 500000 N (pH P t) (pL P t) (pA P t)) = zi (wInc N P t k (2 * e + s)) := by
      rw [e1, e2, nI_zi, nI_zi, zi_sub]
      rfl
    have hb := inc_bnd hN hw hd ht hk h13t hx q2
    obtain ⟨Da, Db, Dc, Dd, v1, v2, v3, v4, v5, v6, -, v8⟩ := g_quad (D := D4) (zi (wInc N P t k (2 * e + s))) (nI t) (nI k) (nI (2 * e + s))
    have hc1 : cnd N P e t k s = some (1000 * t + 10 * k + s, wInc N P t k (2 * e + s)) := if_pos q
    have hBd : BR Dd N P e (gTop D4) (some (1000 * t + 10 * k + s, wInc N P t k (2 * e + s))) := Or.inr ⟨D4.1.length, t, k, s, rfl, ht, hk, hs, q, rfl, v5⟩
    have md : gMd (3 * pL P t + 5) (8 * pL P t + 10) D Dd := (m4.tr v8).mono (by omega) (by omega)
    rw [if_pos q1, if_pos z0, gFr_t hV1.1 (b := 6) rfl, Option.bind_some, hP1.home ht hw.1, Option.bind_some, gFr_t hV1.1 (b := 7) rfl, Option.bind_some, g1, Option.bind_some, r1, Option.bind_some, t1, Option.bind_some, u1, Option.bind_some, e3]
    rcases hB4 with ⟨rfl, rfl⟩ | ⟨i', t', k', s', rfl, ht', hk', hs', c', rfl, h7⟩
    · rw [if_pos rfl, v1, Option.bind_some, v2, Option.bind_some, v3, Option.bind_some, v4, Option.bind_some]
      refine ⟨_, Dd, rfl, ?_, x4.tr v6, md⟩
      rw [hc1, mg_none]
      exact hBd
    · have n3 : ¬ rf i' = none := fun z => by cases z
      have f1 : gIld D4 (rf i') 1 (0 : Int32) = some (zi (wInc N P t' k' (2 * e + s'))) := gIld_t (a := 0) h7 (by show 0 < 4; omega) (by omega)
      have q3 : wCand N P t' k' (2 * e + s') = true := by
        unfold cdB at c'
        rw [Bool.and_eq_true] at c'
        exact c'.2
      have hb' := inc_bnd hN hw hd ht' hk' (h13 t' ht') (show 2 * e + s' < 2 * wE N by omega) q3
      rw [if_neg n3, f1, Option.bind_some]
      by_cases y : wInc N P t' k' (2 * e + s') < wInc N P t k (2 * e + s)
      · rw [if_pos ((zi_lt (by omega) (by omega)).mpr y)]
        refine ⟨_, D4, rfl, ?_, x4, m4.mono (by omega) (by omega)⟩
        rw [hc1]
        show BR D4 N P e _ (if wInc N P t' k' (2 * e + s') < wInc N P t k (2 * e + s) then some _ else some _)
        rw [if_pos y]
        exact Or.inr ⟨i', t', k', s', rfl, ht', hk', hs', c', rfl, h7⟩
      · rw [if_neg (fun z => y ((zi_lt (by omega) (by omega)).mp z)), v1, Option.bind_some, v2, Option.bind_some, v3, Option.bind_some, v4, Option.bind_some]
        refine ⟨_, Dd, rfl, ?_, x4.tr v6, md⟩
        rw [hc1]
        show BR Dd N P e _ (if wInc N P t' k' (2 * e + s') < wInc N P t k (2 * e + s) then some _ else some _)
        rw [if_neg y]
        exact hBd
  · rw [Bool.not_eq_true] at q
    have q1 : (wRoom N P t e && wCand N P t k (2 * e + s)) = false := q
    have z1 : ¬ ¬ (0 : Int32) = 0 := fun z => z rfl
    refine ⟨r, D1, ?_, ?_, p2, p3.mono (by omega) (by omega)⟩
    · rw [q1]
      exact if_neg z1
    · have : cnd N P e t k s = none := if_neg (by rw [q]; decide)
      rw [this, none_mg]
      exact hB.ext p2
end BSL
