/-! THE RANDOM CITY: its text loaded, its ways found -/
theorem FWr.CA {h h' : PH} {N : NT} {P : PT} (f : FWr h h') (c : CA h N P) : CA h' N P := ⟨c.1.fr f.1 (fun j hj => by omega), c.2.1.same (fun j h1 h2 => (f.1 j (by omega)).1), c.2.2.fr f.1 (fun j hj => by omega)⟩
theorem FWr.CH {h h' : PH} {N : NT} {H : HT} (f : FWr h h') (c : CH h N H) : CH h' N H := c.up (fun a h1 h2 => (f.1 a (by omega)).1)
section RCZ
variable {h0 : PH} {D0 : gDS} {buf rnd c : Nat}
theorem w_load {h : PH} {D : gDS} {its : List Itm} {N N0 : NT} {P : PT} {H : HT} {sv : Option (List Stq)} (hT : TW h D buf (rend its)) (hG : goodF 0 its) (hl : (rend its).length ≤ 660) (hP : PRD its N sv) (hsv : svOK sv) (ok : okS N0 P H) (ca : CA h N0 P) (ch : CH h N0 H) : ∃ g D', F_L_loadText (h, D) (rf buf) = some (nI (wE N), (g, D')) ∧ CA g (netOf N sv) P0 ∧ CH g (netOf N sv) (hpush H N0 P true) ∧ WN (netOf N sv) ∧ g.1 1 3 = 0 ∧ gE (fun j => j = buf) D D' ∧ gMd 1 6 D D' := by
  obtain ⟨T, hTe⟩ : ∃ T, T = rend its := ⟨_, rfl⟩
  obtain ⟨L, hL⟩ : ∃ L, L = T.length := ⟨_, rfl⟩
  have hLl : L ≤ 660 := by rw [hL, hTe]; exact hl
  obtain ⟨t1, t2, t3, t4⟩ := hT
  rw [← hTe] at t1 t2 t3 t4
  rw [← hL] at t2 t3
  have g0 : gT T 0 = nI L := by
    unfold gT
    rw [if_pos rfl, hL]
  have rd0 : gIld D (rf buf) 1 (0 : Int32) = some (nI L) := by
    rw [show (0 : Int32) = nI 0 from rfl, gIld_t t1 (by rw [wr_len]; omega) (by omega), wr_get (by omega), g0]
  have hX : LX (fun j => T.getD j 0) L 0 (toks its) := lx_ok (fun j => by have := t4 j; omega) its 0 0 hG (fun j hj => by rw [Nat.zero_add, hTe]) (by rw [Nat.zero_add, hL, hTe])
  -- all bytes stand in the class
  have key : ∃ h1 D1, (if (nI L - nI L / (20 : Int32) * (20 : Int32)) ≤ 0 then some (h, D) else (F_L_flush (h, D) (rf buf)).bind fun y6 => some (y6.1, y6.2)) = some (h1, D1) ∧ (∀ j, j < L → h1.1 2 j &&& (255 : Int32) = nI (T.getD j 0)) ∧ (∃ B, h1.1 1 3 = nI B ∧ L ≤ B ∧ B ≤ 700) ∧ FWr h h1 ∧ (∃ gg, tI D1 buf (wr gg)) ∧ gE (fun j => j = buf) D D1 ∧ D1.2 = D.2 := by
    have e1 : nI L - nI L / (20 : Int32) * (20 : Int32) = nI (L % 20) := nI_mod (b := 20) (by omega) (by omega) (by omega)
    rw [e1]
    by_cases z : L % 20 = 0
    · rw [if_pos (show nI (L % 20) ≤ 0 from (nI_le' (b := 0) (by omega) (by omega)).mpr (by omega))]
      exact ⟨h, D, rfl, fun j hj => t3 j (by omega), ⟨L / 20 * 20, t2, by omega, by omega⟩, FWr.refl h, ⟨_, t1⟩, gE.rf D, rfl⟩
    · rw [if_neg (fun y => by have := (nI_le' (a := L % 20) (b := 0) (by omega) (by omega)).mp y; omega)]
      obtain ⟨h1, D1, f1, f2, f3, f4, f5, f6, f7, f8⟩ := w_flush (t := fun j => T.getD j 0) (B := L / 20 * 20) (L := L) t1 (fun q hq => by
        unfold gT
        rw [if_neg (by omega), if_pos (by omega), ← hL, show 1 + q - 1 = q by omega]) (by omega) t4 t2 t3 (by omega)
      rw [f1, Option.bind_some]
      exact ⟨h1, D1, rfl, f4, ⟨_, f3, by omega, by omega⟩, f5, ⟨_, f2⟩, f6, f7⟩
  obtain ⟨h1, D1, k1, k2, ⟨B, k3, k4, k5⟩, k6, ⟨gg, k7⟩, k8, k9⟩ := key
  obtain ⟨D2, m1, m2, m3, m4, m5⟩ := ia_st (k := 0) (v := (0 : Int32)) k7 (by rw [wr_len]; omega) (by omega)
  obtain ⟨g, a1, a2, a3, a4, a5⟩ := l_loadT hP hsv ok (k6.CA ca) (k6.CH ch) (b := fun j => T.getD j 0) (n := L) (by omega) (fun j => by have := t4 j; omega) k2 hX k3 k4 k5
  refine ⟨g, gBm D2 1, ?_, a2, a3, a4, a5, (k8.tr m3).tr gBm_E, ((gMd.eq k9).tr ((gMd.eq m5).tr gBm_M)).mono (by omega) (by omega)⟩
  unfold F_L_loadText jn
  dsimp only
  rw [rd0, Option.bind_some]
  by_cases z : (nI L - nI L / (20 : Int32) * (20 : Int32)) ≤ 0
  · rw [if_pos z] at k1 ⊢
    injection k1 with k1
    injection k1 with k1 k1'
    subst k1
    subst k1'
    rw [show gIst D (rf buf) 1 (0 : Int32) (0 : Int32) = some D2 from m1, Option.bind_some, a1, Option.bind_some]
  · rw [if_neg z] at k1 ⊢
    cases hf : F_L_flush (h, D) (rf buf) with
    | none =>
      rw [hf] at k1
      cases k1
    | some y =>
      rw [hf, Option.bind_some] at k1
      injection k1 with k1
      injection k1 with q1 q2
      rw [Option.bind_some, q1, q2, show gIst D1 (rf buf) 1 (0 : Int32) (0 : Int32) = some D2 from m1, Option.bind_some, a1, Option.bind_some]
/-- the service, or none -/
def SvO (D : gDS) (N : NT) (svl : Option (List Stq)) (svr : gRF) : Prop := (svl = none ∧ svr = none ∧ ∀ a, a < 2 * wE N → wSv N a = wCo N a) ∨ ∃ l, svl = some l ∧ svr ≠ none ∧ GN D 4 svr l
theorem SvO.ok {D : gDS} {N : NT} {svl : Option (List Stq)} {svr : gRF} (h : SvO D N svl svr) : svOK svl := by
  rcases h with ⟨rfl, -, -⟩ | ⟨l, rfl, -, h3⟩
  · trivial
  · exact gn_svOK h3
theorem SvO.gs {D : gDS} {N : NT} {svl : Option (List Stq)} {svr : gRF} (h : SvO D N svl svr) : GSv D (netOf N svl) svr := by
  rcases h with ⟨rfl, rfl, h3⟩ | ⟨l, rfl, h2, h3⟩
  · exact Or.inl ⟨rfl, h3⟩
  · refine Or.inr ⟨h2, l, h3, fun a ha v hv => ?_⟩
    have hv : evs (wCo N a : Int) (wDe N (a / 2) : Int) l [] = some [v] := hv
    show (svOf N l a : Int) = max 0 (min 9999 v)
    obtain ⟨w, w1, w2, w3⟩ := svOf_ok (N := N) (x := a) (gn_svOK h3).2.2
    rw [hv] at w1
    injection w1 with w1
    injection w1 with w1
    rw [w3, w1]
theorem gval_net {N : NT} {svl : Option (List Stq)} : gval (netOf N svl) = gval N := by
  cases svl with
  | none => rfl
  | some l =>
    funext x y
    unfold gval wDh
    rw [show netOf N (some l) = addS N (svOf N l) from rfl, fw_addS]
    rfl
/-- ways found, text loaded -/
theorem rc_solve {h : PH} {D : gDS} {N N0 : NT} {its : List Itm} {B : List (Nat × Nat × Nat)} {e b d hh tt : Nat} {svr : gRF} {svl : Option (List Stq)} {P : PT} {H : HT} (hC : CO D c N svr e b d hh tt none) (hP : RCP D0.1.length D N B e b d hh tt) (hc0 : D0.1.length ≤ c) (hne : e ≠ tt ∧ b ≠ tt) (hW : TW h D buf (rend its)) (hF : FWr h0 h) (hR : RD D rnd) (hx : gE (fun j => j = buf ∨ j = rnd) D0 D) (hN : WN N) (hPR : PRD its N svl) (hG : goodF 0 its) (hb0 : buf < D0.1.length) (hr0 : rnd < D0.1.length) (hS : SvO D N svl svr) (hl : (rend its).length ≤ 660) (hBl : B.length ≤ 100) (ok : okS N0 P H) (ca : CA h0 N0 P) (ch : CH h0 N0 H) :
    ∃ D1 g D2 gg, F_X8_solve D (rf c) = some D1 ∧ F_L_loadText (h, D1) (rf buf) = some (nI (wE N), (g, D2)) ∧ CV D2 c (netOf N svl) svr e b d hh tt gg ∧ GP D2 P0 hh tt ∧ gg ≠ tt ∧ CA g (netOf N svl) P0 ∧ CH g (netOf N svl) (hpush H N0 P true) ∧ WN (netOf N svl) ∧ g.1 1 3 = 0 ∧ RD D2 rnd ∧ gE (fun j => j = buf ∨ j = rnd) D0 D2 ∧ gMd (2 + 2 * wE N) (6 + (2 * wE N + 2 * wE N * (2 * wE N))) D D2 := by
  obtain ⟨q1, q2, ⟨q3, q4⟩, ⟨q5, q6⟩, ⟨q7, q8⟩⟩ := id hP
  obtain ⟨D1, s1, s2, s3, s4, s5, s6, s7, s8, s9, s10⟩ := g_solve hN hC q1.GEd (q2.GBn (by omega))
  have hbr : ¬ buf = rnd := fun z => by
    have := hR.kt
    rw [← z, hW.kt] at this
    omega
  have hcr : ¬ c = rnd := by omega
  have hcb : ¬ c = buf := by omega
  have hkc : kt D c = 108 := hC.tg
  have W1 : TW h D1 buf (rend its) := hW.ext s6 (fun z => hcb z.symm)
  obtain ⟨g, D2, l1, l2, l3, l4, l5, l6, l7⟩ := w_load W1 hG hl hPR hS.ok ok (hF.CA ca) (hF.CH ch)
  have P1 : RCP D0.1.length D1 N B e b d hh tt := hP.ext s6 (fun i hi z => Or.inr (by rw [z]; exact hkc))
  have P2 : RCP D0.1.length D2 N B e b d hh tt := P1.ext l6 (fun i hi z => Or.inl (by have : i = buf := z; omega))
  obtain ⟨p1, p2, ⟨p3, p4⟩, ⟨p5, p6⟩, ⟨p7, p8⟩⟩ := P2
  have lD := hx.1
  have M2 : GM D2 D.1.length (2 * wE N) (gval N) := by
    refine ⟨l6.tQ (fun z => by have : D.1.length = buf := z; omega) s5.1, fun x hx => l6.tI (fun z => by have : D.1.length + 1 + x = buf := z; omega) (s5.2 x hx)⟩
  have C2 : CO D2 c N svr e b d hh tt (rf D.1.length) := l6.tO hcb s2
  have S2 : SvO D2 N svl svr := by
    rcases hS with hS | ⟨l, y1, y2, y3⟩
    · exact Or.inl hS
    · refine Or.inr ⟨l, y1, y2, ?_⟩
      have z1 : GN D1 4 svr l := GN.ext s6 (fun i hi z vs t => by have := t.tg; rw [z, hkc] at this; omega) y3
      exact GN.ext l6 (fun i hi z vs t => by have := t.tg; have z : i = buf := z; rw [z, W1.kt] at this; omega) z1
  have lts : tt < D.1.length := tQ_lt q7
  refine ⟨D1, g, D2, D.1.length, s1, l1, ⟨?_, ?_, ?_, ?_, S2.gs, ?_⟩, ⟨p5, [], p7, rfl, fun t ht => absurd ht (Nat.not_lt_zero _)⟩, by omega, l2, l3, l4, l5, ?_, ?_, ?_⟩
  · cases svl <;> exact C2
  · have := p1.GEd
    cases svl <;> exact this
  · have := p2.GBn (by omega)
    cases svl <;> exact this
  · rw [gval_net]
    cases svl <;> exact M2
  · cases svl <;> exact p3
  · exact (hR.ext s6 (fun z => hcr z.symm)).ext l6 (fun z => hbr z.symm)
  · exact (hx.onW s6 (fun i hi => Or.inl (by have : i = c := hi; omega))).tr (l6.mono (fun _ _ z => Or.inl z))
  · have m1 : gMd (1 + 2 * wE N) (2 * wE N + 2 * wE N * (2 * wE N)) D D1 := ⟨by omega, by omega⟩
    exact (m1.tr l7).mono (by omega) (by omega)
end RCZ
