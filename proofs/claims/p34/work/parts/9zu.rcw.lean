section RCW
variable {h0 : PH} {D0 : gDS} {buf rnd c : Nat}
theorem edges_all {τ : Type} {X : rSt → Option (rSt ⊕ τ)} {b d hh tt : Nat} : ∀ (k : Nat) (s : gST) (N : NT) (its : List Itm) (e : Nat), RCI h0 D0 buf rnd c s N its [] e b d hh tt → wE N + k ≤ 8 → (∀ a, wBn N a = 0) → (∀ a, a < 2 * wE N → wSv N a = wCo N a) → (rend its).length + 31 * k ≤ 600 → ∃ s' N' its' e', loop (edB X (rf c) (rf buf) (rf rnd)) (nI k, s) = loop (edB X (rf c) (rf buf) (rf rnd)) (nI 0, s') ∧ RCI h0 D0 buf rnd c s' N' its' [] e' b d hh tt ∧ wE N' = wE N + k ∧ wD N' = wD N ∧ (∀ a, a < 2 * wE N' → wSv N' a = wCo N' a) ∧ (rend its').length ≤ (rend its).length + 31 * k ∧ gMd (2 * k) (14 * k) s.2 s'.2
  | 0, s, N, its, e, hI, _, _, hs, _ => ⟨s, N, its, e, rfl, hI, rfl, rfl, hs, by omega, gMd.rf _⟩
  | k + 1, s, N, its, e, hI, h8, hz, hs, hl => by
    obtain ⟨s1, N1, its1, e1, a1, a2, a3, a4, a5, a6, a7, a8⟩ := rc_edge (X := X) hI (by omega) hz hs (by omega) (k := k) (by omega)
    obtain ⟨s', N', its', e', b1, b2, b3, b4, b5, b6, b7⟩ := edges_all (X := X) k s1 N1 its1 e1 a2 (by omega) a5 a6 (by omega)
    exact ⟨s', N', its', e', a1.trans b1, b2, by omega, by omega, b5, by omega, (a8.tr b7).mono (by omega) (by omega)⟩
theorem bans_all {τ : Type} {X : rSt → Option (rSt ⊕ τ)} {e d hh tt : Nat} : ∀ (k : Nat) (s : gST) (N : NT) (its : List Itm) (B : List (Nat × Nat × Nat)) (b : Nat), RCI h0 D0 buf rnd c s N its B e b d hh tt → 1 ≤ wE N → B.length + k ≤ 20 → (∀ a, a < 2 * wE N → wSv N a = wCo N a) → (rend its).length + 19 * k ≤ 640 → ∃ s' N' its' B' b', loop (baB X (rf c) (rf buf) (rf rnd)) (nI k, s) = loop (baB X (rf c) (rf buf) (rf rnd)) (nI 0, s') ∧ RCI h0 D0 buf rnd c s' N' its' B' e b' d hh tt ∧ wE N' = wE N ∧ wD N' = wD N ∧ B'.length ≤ B.length + k ∧ (∀ a, a < 2 * wE N' → wSv N' a = wCo N' a) ∧ (rend its').length ≤ (rend its).length + 19 * k ∧ gMd (3 * k) (27 * k) s.2 s'.2
  | 0, s, N, its, B, b, hI, _, _, hs, _ => ⟨s, N, its, B, b, rfl, hI, rfl, rfl, by omega, hs, by omega, gMd.rf _⟩
  | k + 1, s, N, its, B, b, hI, hE, hB, hs, hl => by
    obtain ⟨s1, N1, its1, B1, b1, a1, a2, a3, a4, a5, a6, a7, a8⟩ := rc_ban (X := X) hI hE (by omega) (by omega) (k := k) (by omega)
    obtain ⟨s', N', its', B', b', c1, c2, c3, c4, c5, c6, c7, c8⟩ := bans_all (X := X) k s1 N1 its1 B1 b1 a2 (by omega) (by omega) (a6 hs) (by omega)
    exact ⟨s', N', its', B', b', a1.trans c1, c2, by omega, by omega, by omega, c6, by omega, (a8.tr c8).mono (by omega) (by omega)⟩
theorem deps_all {τ : Type} {X : rSt → Option (rSt ⊕ τ)} {B : List (Nat × Nat × Nat)} {e b hh tt : Nat} : ∀ (k : Nat) (s : gST) (N : NT) (its : List Itm) (d : Nat), RCI h0 D0 buf rnd c s N its B e b d hh tt → wD N + k ≤ 3 → (∀ a, a < 2 * wE N → wSv N a = wCo N a) → (rend its).length + 11 * k ≤ 640 → ∃ s' N' its' d', loop (deB X (rf c) (rf buf) (rf rnd)) (nI k, s) = loop (deB X (rf c) (rf buf) (rf rnd)) (nI 0, s') ∧ RCI h0 D0 buf rnd c s' N' its' B e b d' hh tt ∧ wE N' = wE N ∧ wD N' = wD N + k ∧ (∀ a, a < 2 * wE N' → wSv N' a = wCo N' a) ∧ (rend its').length ≤ (rend its).length + 11 * k ∧ gMd (2 * k) (4 * k) s.2 s'.2
  | 0, s, N, its, d, hI, _, hs, _ => ⟨s, N, its, d, rfl, hI, rfl, rfl, hs, by omega, gMd.rf _⟩
  | k + 1, s, N, its, d, hI, hD, hs, hl => by
    obtain ⟨s1, N1, its1, d1, a1, a2, a3, a4, a5, a6, a7⟩ := rc_depot (X := X) hI (by omega) (by omega) (k := k) (by omega)
    obtain ⟨s', N', its', d', c1, c2, c3, c4, c5, c6, c7⟩ := deps_all (X := X) k s1 N1 its1 d1 a2 (by omega) (a5 hs) (by omega)
    exact ⟨s', N', its', d', a1.trans c1, c2, by omega, by omega, c5, by omega, (a7.tr c7).mono (by omega) (by omega)⟩
/-- the three loops -/
theorem rc_loops {s : gST} {N N0 : NT} {its : List Itm} {e b d hh tt m : Nat} {P : PT} {H : HT} (hI : RCI h0 D0 buf rnd c s N its [] e b d hh tt) (hE : wE N = 0) (hDp : wD N = 0) (hz : ∀ a, wBn N a = 0) (hm : m < 8) (hl : (rend its).length ≤ 40) (ok : okS N0 P H) (ca : CA h0 N0 P) (ch : CH h0 N0 H) :
    ∃ g D' N' e b d gg svr, loop (edB (xB (rf c) (rf buf) (rf rnd)) (rf c) (rf buf) (rf rnd)) (nI (1 + m), s) = some (rf c, (g, D')) ∧ RCO h0 D0 rnd buf N0 P H c g D' N' e b d hh tt gg svr ∧ 1 ≤ wE N' ∧ wE N' ≤ 8 ∧ 1 ≤ wD N' ∧ wD N' ≤ 3 ∧ gMd 316 301340 s.2 D' := by
  obtain ⟨s1, N1, its1, e1, a1, a2, a3, a4, a5, a6, a7⟩ := edges_all (X := xB (rf c) (rf buf) (rf rnd)) (1 + m) s N its e hI (by omega) hz (fun a ha => by omega) (by omega)
  obtain ⟨h1, D1⟩ := s1
  obtain ⟨kb, D2, b1, b2, b3, b4, b5, b6⟩ := g_below a2.2.2.2.2.2.1 (show 0 < 9 by omega) (by omega)
  have I2 := rci_rnd a2 b4 b3
  obtain ⟨s3, N3, its3, B3, bb3, c1, c2, c3, c4, c5, c6, c7, c8⟩ := bans_all (X := xD (rf c) (rf buf) (rf rnd)) kb (h1, D2) N1 its1 [] b I2 (by omega) (by show 0 + kb ≤ 20; omega) a5 (by omega)
  have c5 : B3.length ≤ 0 + kb := c5
  obtain ⟨h3, D3⟩ := s3
  obtain ⟨kd, D4, d1, d2, d3, d4, d5, d6⟩ := g_below c2.2.2.2.2.2.1 (show 0 < 3 by omega) (by omega)
  have I4 := rci_rnd c2 d4 d3
  obtain ⟨s5, N5, its5, dd5, e1', e2', e3', e4', e5', e6', e7'⟩ := deps_all (X := enB (rf c) (rf buf) (rf rnd)) (1 + kd) (h3, D4) N3 its3 d I4 (by omega) c6 (by omega)
  obtain ⟨g, D', N', gg, svr, f1, f2, f3, f4, f5⟩ := rc_end e2' e5' (by omega) (by omega) (by omega) ok ca ch
  have hend : loop (deB (enB (rf c) (rf buf) (rf rnd)) (rf c) (rf buf) (rf rnd)) (nI 0, s5) = some (.inr (.inr (rf c, (g, D')))) := by
    rw [loop_eq]
    unfold deB
    dsimp only
    rw [if_pos (show nI 0 ≤ (0 : Int32) from Int32.le_refl _), f1, Option.bind_some]
  have hx2 : xD (rf c) (rf buf) (rf rnd) (nI 0, (h3, D3)) = some (.inr (.inr (rf c, (g, D')))) := by
    unfold xD
    dsimp only
    rw [show F_X10_below D3 (rf rnd) (3 : Int32) = _ from d1, Option.bind_some]
    dsimp only
    rw [show (1 : Int32) + nI kd = nI (1 + kd) from nI_add 1 kd, e1', hend]
  have hban : loop (baB (xD (rf c) (rf buf) (rf rnd)) (rf c) (rf buf) (rf rnd)) (nI 0, (h3, D3)) = some (.inr (rf c, (g, D'))) := by
    rw [loop_eq]
    unfold baB
    dsimp only
    rw [if_pos (show nI 0 ≤ (0 : Int32) from Int32.le_refl _), hx2, Option.bind_some]
  have hx1 : xB (rf c) (rf buf) (rf rnd) (nI 0, (h1, D1)) = some (.inr (rf c, (g, D'))) := by
    unfold xB
    dsimp only
    rw [show F_X10_below D1 (rf rnd) (9 : Int32) = _ from b1, Option.bind_some]
    dsimp only
    rw [c1, hban]
  refine ⟨g, D', N', e1, bb3, dd5, gg, svr, ?_, f2, by omega, by omega, by omega, by omega, ?_⟩
  · rw [a1, loop_eq]
    unfold edB
    dsimp only
    rw [if_pos (show nI 0 ≤ (0 : Int32) from Int32.le_refl _), hx1, Option.bind_some]
  · have := ((((a7.tr (gMd.eq b6)).tr c8).tr (gMd.eq d6)).tr e7').tr f5
    exact this.mono (by omega) (by omega)
end RCW
section RCX
variable {h : PH} {D : gDS} {buf rnd : Nat}
set_option maxRecDepth 4000 in
theorem g_randomCity {N0 : NT} {P : PT} {H : HT} (hT : TW h D buf []) (hR : RD D rnd) (ok : okS N0 P H) (ca : CA h N0 P) (ch : CH h N0 H) : ∃ g D' N' e b d hh tt gg svr, F_L_randomCity (h, D) (rf buf) (rf rnd) (8 : Int32) = some (rf D.1.length, (g, D')) ∧ RCO h D rnd buf N0 P H D.1.length g D' N' e b d hh tt gg svr ∧ 1 ≤ wE N' ∧ wE N' ≤ 8 ∧ 1 ≤ wD N' ∧ wD N' ≤ 3 ∧ gMd 330 301400 D D' := by
  have lb : buf < D.1.length := tI_lt hT.1
  have lr := hR.lt
  have hbr : ¬ buf = rnd := fun z => by
    have := hR.kt
    rw [← z, hT.kt] at this
    omega
  have x0 : gE noW D (gNwO D 8) := gNew_E
  have l0 : (gNwO D 8).1.length = D.1.length + 1 := gNew_len
  have m0 : gMd 1 9 D (gNwO D 8) := gNew_M
  have o0 : tO (gNwO D 8) D.1.length 8 (gDef 8) := gNew_at
  obtain ⟨A, a1, a2, a3, a4, a5, q1, q2, q3, q4, q5⟩ := g_init o0
  rw [l0] at a2 q1 q2 q3 q4 q5 a4
  obtain ⟨c, hc⟩ : ∃ c, c = D.1.length := ⟨_, rfl⟩
  rw [← hc] at a1 a2 a3 a4 q1 q2 q3 q4 q5 lb lr l0 ⊢
  have ncr : ¬ c = rnd := by omega
  have ncb : ¬ c = buf := by omega
  have xA : gE noW D A := x0.on a3 (fun i hi => by omega)
  have mA : gMd 6 9 D A := (m0.tr a5).mono (by omega) (by omega)
  -- nodes and capacity
  obtain ⟨v, A1, b1, b2, b3, b4, b5, b6⟩ := g_below (hR.ext xA id) (show 0 < 5 by omega) (by omega)
  have o1 := b4.tO ncr a2
  obtain ⟨A2, s2, o2, y2, l2, m2⟩ : ∃ A2, gFst A1 (rf c) 8 0 (.inl (nI (2 + v))) = some A2 ∧ tO A2 c 8 [.inl (nI (2 + v)), .inl 0, .inr (.inr none), .inr (.inr (rf (c + 1))), .inr (.inr (rf (c + 1 + 1))), .inr (.inr (rf (c + 1 + 2))), .inr (.inr (rf (c + 1 + 3))), .inr (.inr (rf (c + 1 + 4))), .inr (.inr none)] ∧ gE (fun j => j = c) A1 A2 ∧ A2.1.length = A1.1.length ∧ A2.2 = A1.2 :=
    ⟨_, gFst_t o1 (by show 0 < 9; omega), gSet_at (tO_lt o1), gSet_E (Or.inl rfl), gSet_len, rfl⟩
  obtain ⟨w, A3, c1, c2, c3, c4, c5, c6⟩ := g_below (b3.ext y2 (fun z => ncr z.symm)) (show 0 < 2 by omega) (by omega)
  obtain ⟨bd, hbd, hbd1, hbd2⟩ : ∃ bd, (∀ K : Int32 → Option (gRF × gST), jn K (fun k5 => if ¬ nI w = 0 then k5 ((150 : Int32)) else k5 ((999 : Int32))) = K (nI bd)) ∧ 1 ≤ bd ∧ bd ≤ 999 := by
    by_cases z : w = 0
    · refine ⟨999, fun K => ?_, by omega, by omega⟩
      unfold jn
      dsimp only
      rw [z, if_neg (fun y => y rfl)]
      rfl
    · refine ⟨150, fun K => ?_, by omega, by omega⟩
      unfold jn
      dsimp only
      rw [if_pos (nz_I z (by omega))]
      rfl
  obtain ⟨u, A4, d1, d2, d3, d4, d5, d6⟩ := g_below c3 (show 0 < bd by omega) (by omega)
  have o4 := d4.tO ncr (c4.tO ncr o2)
  obtain ⟨A5, s5, o5, y5, l5, m5⟩ : ∃ A5, gFst A4 (rf c) 8 1 (.inl (nI (1 + u))) = some A5 ∧ tO A5 c 8 [.inl (nI (2 + v)), .inl (nI (1 + u)), .inr (.inr none), .inr (.inr (rf (c + 1))), .inr (.inr (rf (c + 1 + 1))), .inr (.inr (rf (c + 1 + 2))), .inr (.inr (rf (c + 1 + 3))), .inr (.inr (rf (c + 1 + 4))), .inr (.inr none)] ∧ gE (fun j => j = c) A4 A5 ∧ A5.1.length = A4.1.length ∧ A5.2 = A4.2 :=
    ⟨_, gFst_t o4 (by show 1 < 9; omega), gSet_at (tO_lt o4), gSet_E (Or.inl rfl), gSet_len, rfl⟩
  obtain ⟨t6, y6, l6, m6⟩ := gAI_t (D := A5) (n := 2)
  obtain ⟨A7, e1, e2, e3, e4, e5⟩ := ia_st (k := 0) (v := nI (2 + v)) t6 (by rw [List.length_replicate]; omega) (by omega)
  obtain ⟨A8, f1, f2, f3, f4, f5⟩ := ia_st (k := 1) (v := nI (1 + u)) e2 (by rw [List.length_set, List.length_replicate]; omega) (by omega)
  have row : tI A8 A5.1.length ([2 + v, 1 + u].map nI) := f2
  have x58 : gE noW A5 A8 := (y6.on e3 (fun i hi => by omega)).on f3 (fun i hi => by omega)
  have xAA5 : gE (fun j => j = rnd ∨ j = c) A A5 := ((((b4.mono (fun _ _ z => Or.inl z)).tr (y2.mono (fun _ _ z => Or.inr z))).tr (c4.mono (fun _ _ z => Or.inl z))).tr (d4.mono (fun _ _ z => Or.inl z))).tr (y5.mono (fun _ _ z => Or.inr z))
  have xAA8 : gE (fun j => j = rnd ∨ j = c) A A8 := xAA5.tr (x58.mono (fun _ _ z => absurd z id))
  have W8 : TW h A8 buf (rend []) := (hT.ext xA id).ext xAA8 (fun z => by omega)
  have vok : ∀ w ∈ [2 + v, 1 + u], w < 1000 := fun w hw => by
    simp at hw
    omega
  obtain ⟨s9, g1, g2, g3, g4, g5⟩ := w_nums (WO.rf W8) (bs := rend [(2, 0)]) (r := some (.inr 10)) (vs := [2 + v, 1 + u]) (a := A5.1.length) (SS_c (j := 0) (by omega)) (by decide) row (by omega) vok (by show 0 + 7 + 5 * 2 + 1 ≤ 680; omega) (by show 2 ≤ 10; omega)
  rw [← st_rend] at g2
  have hits : ([] : List Itm) ++ ([(2, 0)] ++ (numI [2 + v, 1 + u] ++ [(0, 59)])) = [(2, 0), (3, 0), (1, 2 + v), (3, 0), (1, 1 + u), (0, 59)] := rfl
  have lits : (rend (([] : List Itm) ++ ([(2, 0)] ++ (numI [2 + v, 1 + u] ++ [(0, 59)])))).length ≤ 40 := by
    rw [st_rend]
    have h1 : (rend [(2, 0)]).length = 7 := rfl
    have h0 : (rend ([] : List Itm)).length = 0 := rfl
    have h2 := numI_len [2 + v, 1 + u] (fun w hw => by have := vok w hw; omega)
    have h3 : [2 + v, 1 + u].length = 2 := rfl
    simp only [List.length_append, List.length_singleton]
    omega
  have x89 : gE (fun j => j = buf) A8 s9.2 := g4
  have xA9 : gE (fun j => j = rnd ∨ j = c ∨ j = buf) A s9.2 := (xAA8.mono (fun _ _ z => by rcases z with z | z; exact Or.inl z; exact Or.inr (Or.inl z))).tr (x89.mono (fun _ _ z => Or.inr (Or.inr z)))
  have lc : ∀ j, c + 1 ≤ j → ¬ (j = rnd ∨ j = c ∨ j = buf) := fun j hj z => by omega
  have R9 : RD s9.2 rnd := ((d3.ext y5 (fun z => ncr z.symm)).ext x58 id).ext x89 (fun z => hbr z.symm)
  have xs : gE (fun j => j = buf ∨ j = rnd) D s9.2 := by
    refine (xA.mono (W' := fun j => j = buf ∨ j = rnd) (fun _ _ z => absurd z id)).onW xA9 (fun i hi => ?_)
    rcases hi with z | z | z
    · exact Or.inr (Or.inr z)
    · exact Or.inl (by omega)
    · exact Or.inr (Or.inl z)
  have hI : RCI h D buf rnd c s9 (net0 (2 + v) (1 + u)) (([] : List Itm) ++ ([(2, 0)] ++ (numI [2 + v, 1 + u] ++ [(0, 59)]))) [] (c + 1) (c + 1 + 1) (c + 1 + 2) (c + 1 + 3) (c + 1 + 4) := by
    refine ⟨x89.tO ncb (x58.tO id o5), ⟨⟨by omega, [], xA9.tQ (lc _ (by omega)) q1, rfl, fun k hk => absurd hk (Nat.not_lt_zero _)⟩, ⟨by omega, [], xA9.tQ (lc _ (by omega)) q2, rfl, fun j x hx => (by cases hx), fun x y hx _ _ => absurd hx (Nat.not_lt_zero _)⟩, ⟨xA9.tI (lc _ (by omega)) q3, by omega⟩, ⟨xA9.tI (lc _ (by omega)) q4, by omega⟩, ⟨xA9.tQ (lc _ (by omega)) q5, by omega⟩⟩, ⟨by omega, by omega, by omega⟩, g2, g3, R9, xs, ⟨net0_WN (by omega) (by omega), ?_, by show 2 ≤ 2 + v; omega⟩, ?_, by omega, by omega⟩
    · rw [hits]
      exact pr_head (by omega) (by omega)
    · exact st_good ⟨trivial, rfl⟩ ⟨Or.inr (Or.inr (Or.inl ⟨rfl, by show 0 < 7; omega⟩)), fun z => by omega, trivial⟩ (fun w hw => by have := vok w hw; omega)
  obtain ⟨h9, D9⟩ := s9
  obtain ⟨m, E1, i1', i2', i3', i4', i5', i6'⟩ := g_below R9 (show 0 < 8 by omega) (by omega)
  have I2 := rci_rnd hI i4' i3'
  obtain ⟨g, D', N', e, b, d, gg, svr, j1, j2, j3, j4, j5, j6, j7⟩ := rc_loops I2 rfl rfl (fun a => rfl) i2' lits ok ca ch
  refine ⟨g, D', N', e, b, d, c + 1 + 3, c + 1 + 4, gg, svr, ?_, j2, j3, j4, j5, j6, ?_⟩
  · have t1 : ∀ x, (2 : Int32) + nI x = nI (2 + x) := fun x => nI_add 2 x
    have t2 : ∀ x, (1 : Int32) + nI x = nI (1 + x) := fun x => nI_add 1 x
    rw [randomCity_is]
    rw [show gTop (h, D).2 = rf c from congrArg rf hc.symm, a1, Option.bind_some, show F_X10_below A (rf rnd) (5 : Int32) = _ from b1, Option.bind_some]
    dsimp only
    rw [t1, s2, Option.bind_some, show F_X10_below A2 (rf rnd) (2 : Int32) = _ from c1, Option.bind_some]
    dsimp only
    rw [hbd, d1, Option.bind_some]
    dsimp only
    rw [t2, s5, Option.bind_some, gFi_t (y6.tO id o5) (b := 0) rfl, Option.bind_some, gTop_rf A5, show gIst (gAI A5 1 2) (rf A5.1.length) 1 (0 : Int32) (nI (2 + v)) = some A7 from e1, Option.bind_some, gFi_t ((y6.on e3 (fun i hi => by omega)).tO id o5) (b := 1) rfl, Option.bind_some, show gIst A7 (rf A5.1.length) 1 (1 : Int32) (nI (1 + u)) = some A8 from f1, Option.bind_some, g1, Option.bind_some]
    dsimp only
    rw [show F_X10_below D9 (rf rnd) (8 : Int32) = _ from i1', Option.bind_some]
    dsimp only
    rw [t2, j1]
  · have e9 : D9.2 = A8.2 := g5
    have mA5 : A5.2 = A.2 := m5.trans (d6.trans (c6.trans (m2.trans b6)))
    have m8 : gMd 1 2 A5 A8 := (m6.tr ((gMd.eq e5).tr (gMd.eq f5))).mono (by omega) (by omega)
    exact ((((mA.tr (gMd.eq mA5)).tr m8).tr (gMd.eq e9)).tr ((gMd.eq i6').tr j7)).mono (by omega) (by omega)
end RCX
