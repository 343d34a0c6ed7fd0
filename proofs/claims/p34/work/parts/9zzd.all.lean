/-! THE LAW'S TURN COMES TO ITS END WITH TRUE -/
section ALL
variable {h : PH} {D : gDS} {c : Nat}
def N00 : NT := net0 0 0
def H00 : HT := (0, fun _ => N00, fun _ => P0, fun _ => true)
theorem ok00 : okS N00 P0 H00 := ⟨net0_WN (by omega) (by omega), P0_WP, fun k hk => absurd hk (Nat.not_lt_zero _)⟩
/-- a city without anything -/
theorem g_agrees0 {N : NT} {P : PT} {H : HT} {e b d hh tt : Nat} (wn : wN N = 0) (we : wE N = 0) (wd : wD N = 0) (wp : pT P = 0) (ok : okS N P H) (ca : CA h N P) (hC : tO D c 8 [.inl 0, .inl 0, .inr (.inr none), .inr (.inr (rf e)), .inr (.inr (rf b)), .inr (.inr (rf d)), .inr (.inr (rf hh)), .inr (.inr (rf tt)), .inr (.inr none)]) (hE : tQ D e []) (hD : tI D d []) (hT : tQ D tt []) : F_L_agrees (h, D) (rf c) = some ((1 : Int32), (h, gBm (gBm D 1) 1)) := by
  have one : ¬ (1 : Int32) = 0 := by decide
  have k1 : F_X7_nodeCount h = (0 : Int32) := by
    have := ca.1.1
    rw [wn] at this
    exact this
  have k2 : F_X7_edgeCount h = nI 0 := by
    have := ca.1.2.2.1
    rw [we] at this
    exact this
  have k3 : F_X7_depotCount h = nI 0 := by
    have := ca.1.2.2.2.1
    rw [wd] at this
    exact this
  have k4 : F_X7_tourCount h = nI 0 := by
    have := ca.2.2.1
    rw [wp] at this
    exact this
  have lE : gLen D (rf e) = some (nI 0) := gLen_q hE
  have lD : gLen D (rf d) = some (nI 0) := gLen_t hD
  have lT : gLen D (rf tt) = some (nI 0) := gLen_q hT
  have le : nI 0 ≤ (0 : Int32) := Int32.le_refl _
  have t0 : F_X8_total D (rf c) = some (nI 0, D) := by
    unfold F_X8_total
    rw [gRv_t hC, Option.bind_some, loop_eq]
    dsimp only
    rw [gFr_t hC (b := 7) rfl, Option.bind_some, lT, Option.bind_some, if_pos le, Option.bind_some]
    rfl
  have o0 : F_X8_open D (rf c) = some (nI 0, D) := by
    unfold F_X8_open
    rw [gRv_t hC, Option.bind_some, loop_eq]
    dsimp only
    rw [gFr_t hC (b := 3) rfl, Option.bind_some, lE, Option.bind_some, if_pos le, Option.bind_some]
    rfl
  have s0 : F_X8_sum D (rf c) = some ((31 : Int64) * (nI 0).toInt64 + (nI 0).toInt64, D) := by
    unfold F_X8_sum
    rw [gRv_t hC, Option.bind_some, t0, Option.bind_some]
    dsimp only
    rw [o0, Option.bind_some]
    dsimp only
    rw [loop_eq]
    dsimp only
    rw [gFr_t hC (b := 7) rfl, Option.bind_some, lT, Option.bind_some, if_pos le, Option.bind_some]
  have v1 : wTot N P = 0 := by
    unfold wTot
    rw [wp]
    rfl
  have v2 : wUn N P = 0 := by
    unfold wUn
    rw [we]
    rfl
  have c0 : F_X7_totalCost h = some (nI 0) := by
    rw [c_total ok.1 ok.2.1.1 ok.2.1.2.2 ca.1 ca.2.1 ca.2.2, v1]
  have u0 : F_X7_unserved h = some (nI 0) := by
    rw [c_unserved ok.1 ok.2.1.1 ca.1 ca.2.2, v2]
  have v3 : ckT N P 0 = (31 : Int64) * (nI (wTot N P)).toInt64 + (nI (wUn N P)).toInt64 := rfl
  have x0 : F_X7_checksum h = some ((31 : Int64) * (nI 0).toInt64 + (nI 0).toInt64) := by
    rw [c_check ok ca, wp, v3, v1, v2]
  have p1 : F_L_length h (nI 0) = some (-2000000097 : Int32) := by
    have := l_length_no ok.2.1 ca
    rw [wp] at this
    exact this
  have p2 : F_L_tourOf h (nI 0) = some (-2000000097 : Int32) := by
    have := l_tourOf_no ok.1 ca
    rw [we] at this
    exact this
  have x1 : gE noW D (gBm D 1) := gBm_E
  unfold F_L_agrees jn
  dsimp only
  rw [gFi_t hC (b := 0) rfl, Option.bind_some, k1, if_neg (fun z => z rfl), gFr_t hC (b := 3) rfl, Option.bind_some, lE, Option.bind_some, k2, if_neg (fun z => z rfl), gFr_t hC (b := 5) rfl, Option.bind_some, lD, Option.bind_some, k3, if_neg (fun z => z rfl), gFr_t hC (b := 7) rfl, Option.bind_some, lT, Option.bind_some, k4, if_neg (fun z => z rfl), c0, Option.bind_some, t0, Option.bind_some]
  dsimp only
  rw [if_neg (fun z => z rfl), u0, Option.bind_some, o0, Option.bind_some]
  dsimp only
  rw [if_neg (fun z => z rfl), x0, Option.bind_some, s0, Option.bind_some]
  dsimp only
  rw [lg_self, if_neg (fun z => z rfl), loop_eq]
  dsimp only
  rw [gFr_t hC (b := 7) rfl, Option.bind_some, lT, Option.bind_some, if_pos le, if_neg one, Option.bind_some, lT, Option.bind_some, p1, Option.bind_some, if_neg (fun z => z rfl), gFr_t (x1.tO id hC) (b := 3) rfl, Option.bind_some, show gLen (gBm D 1) (rf e) = some (nI 0) from gLen_q (x1.tQ id hE), Option.bind_some, p2, Option.bind_some, if_neg (fun z => z rfl), Option.bind_some]
end ALL
section FIN
variable {L : Nat} {xs : Nat → Int32}
theorem ini_CA : CA (hIni L xs) N00 P0 := by
  have z : ∀ i, i < 122 → i ≠ 1 → ∀ k, (hIni L xs).1 i k = 0 := fun i h1 h2 k => by rw [hIni_0 h1 h2]
  refine ⟨⟨z 14 (by omega) (by omega) 0, z 14 (by omega) (by omega) 1, z 14 (by omega) (by omega) 2, z 14 (by omega) (by omega) 3, fun a ha => absurd ha (Nat.not_lt_zero _), fun a ha => absurd ha (Nat.not_lt_zero _), fun a ha => absurd ha (Nat.not_lt_zero _)⟩, ⟨fun x y hx => absurd hx (Nat.not_lt_zero _), fun x v hx => absurd hx (Nat.not_lt_zero _), fun u v hu => absurd hu (Nat.not_lt_zero _)⟩, ⟨z 26 (by omega) (by omega) 0, fun t ht => absurd ht (Nat.not_lt_zero _)⟩⟩
theorem ini_CH : CH (hIni L xs) N00 H00 := by
  have z : ∀ i, i < 122 → i ≠ 1 → ∀ k, (hIni L xs).1 i k = 0 := fun i h1 h2 k => by rw [hIni_0 h1 h2]
  exact ⟨0, by omega, z 30 (by omega) (by omega) 3, Nat.zero_le _, z 30 (by omega) (by omega) 4, fun k hk => absurd hk (Nat.not_lt_zero _)⟩
theorem ini_3 : (hIni L xs).1 1 3 = 0 := by rw [hIni_1 (by omega)]; decide +kernel
theorem ini_11 : (hIni L xs).1 1 11 = (-1 : Int32) := by rw [hIni_1 (by omega)]; decide +kernel
theorem wr_nil : wr (gT []) = List.replicate 8 (0 : Int32) := by
  have : ∀ i, i < 8 → gT [] i = (0 : Int32) := fun i _ => by
    unfold gT
    split
    · rfl
    · split
      · rw [show min 4 (([] : List Nat).length - (([] : List Nat).length / 20 * 20 + 4 * (i - 1))) = 0 by show min 4 (0 - _) = 0; omega]
        rfl
      · rfl
  rw [wr_ag (g' := fun _ => 0) this]
  rfl
set_option maxRecDepth 8000 in
theorem turn_all (hL : L ≤ 260) : TurnOK L xs := by
  intro j cA sA hj hj2
  have one : ¬ (1 : Int32) = 0 := by decide
  rw [turn_is]
  have e1 : gScr (hIni L xs) (nI j) = some (xs j) := by
    have hs := hIni_scr (L := L) (xs := xs)
    unfold gScr
    rw [show (hIni L xs).1 168 0 = nI L from hs.2, nI_clamp (by omega), nI_inb (by omega), decide_eq_true hj, if_pos rfl, nI_clamp (by omega)]
    exact congrArg some (hs.1 j)
  -- the buffer, the random numbers, an empty city
  obtain ⟨t0, y0, l0, m0⟩ := gAI_t (D := (([], cA, sA) : gDS)) (n := 8)
  have l0 : (gAI ([], cA, sA) 1 8).1.length = 1 := l0
  have t0 : tI (gAI ([], cA, sA) 1 8) 0 (List.replicate 8 0) := t0
  generalize hA0 : gAI (([], cA, sA) : gDS) 1 8 = A0 at *
  have x1 : gE noW A0 (gNwO A0 10) := gNew_E
  have l1 : (gNwO A0 10).1.length = A0.1.length + 1 := gNew_len
  have m1 : gMd 1 1 A0 (gNwO A0 10) := gNew_M
  have o1 : tO (gNwO A0 10) A0.1.length 10 [.inl 0] := gNew_at
  rw [l0] at o1 l1
  obtain ⟨A1, s1, R1, y1, l1', m1'⟩ : ∃ A1, gFst (gNwO A0 10) (rf 1) 10 0 (.inl (xs j)) = some A1 ∧ RD A1 1 ∧ gE (fun i => i = 1) (gNwO A0 10) A1 ∧ A1.1.length = (gNwO A0 10).1.length ∧ A1.2 = (gNwO A0 10).2 :=
    ⟨_, gFst_t o1 (by show 0 < 1; omega), ⟨_, gSet_at (tO_lt o1)⟩, gSet_E (Or.inl rfl), gSet_len, rfl⟩
  have l1'' : A1.1.length = 2 := by omega
  have x01 : gE (fun i => i = 1) A0 A1 := (x1.mono (fun _ _ z => absurd z id)).tr y1
  have x2 : gE noW A1 (gNwO A1 8) := gNew_E
  have l2 : (gNwO A1 8).1.length = A1.1.length + 1 := gNew_len
  have m2 : gMd 1 9 A1 (gNwO A1 8) := gNew_M
  have o2 : tO (gNwO A1 8) A1.1.length 8 (gDef 8) := gNew_at
  rw [l1''] at o2 l2
  obtain ⟨A2, a1, a2, a3, a4, a5, q1, q2, q3, q4, q5⟩ := g_init o2
  rw [l2] at a2 q1 q2 q3 q4 q5 a4
  have g0 := g_agrees0 (N := N00) (P := P0) rfl rfl rfl rfl ok00 (ini_CA (L := L) (xs := xs)) a2 q1 q3 q5
  have x12 : gE (fun i => i = 2) A1 A2 := (x2.mono (fun _ _ z => absurd z id)).tr a3
  -- the class's calls on a fresh object
  have f1 : F_X7_errorOffset (hIni L xs) = (-1 : Int32) := ini_11
  have f2 : F_X7_undo (hIni L xs) = some (-1, hIni L xs) := c_undo0 ini_CH rfl
  have f3 : F_L_openTour (hIni L xs) (0 : Int32) = some ((-2000000097 : Int32), hIni L xs) := l_open_no (d := 0) ok00 ini_CA (Nat.zero_le _) (by omega)
  have f4 : F_L_insert (hIni L xs) (0 : Int32) (0 : Int32) (0 : Int32) = some ((-2000000097 : Int32), hIni L xs) := l_ins_noT (t := 0) (k := 0) (x := 0) ini_CA (Nat.zero_le _) (by omega)
  have f5 : F_L_improve (hIni L xs) (0 : Int32) = some ((-2000000098 : Int32), hIni L xs) := l_impr_no
  have f6 : F_X7_matching (hIni L xs) = some 0 := by
    rw [c_match ok00.1 ini_CA]
    rfl
  -- the random city
  obtain ⟨A3, hA3⟩ : ∃ A3, A3 = gBm (gBm (gBm (gBm (gBm A2 1) 1) 2) 5) 1 := ⟨_, rfl⟩
  have x23 : gE noW A2 A3 := by
    rw [hA3]
    exact (((gBm_E.tr gBm_E).tr gBm_E).tr gBm_E).tr gBm_E
  have m23 : gMd 10 60 A2 A3 := by
    rw [hA3]
    exact (((gBm_M.tr gBm_M).tr gBm_M).tr gBm_M).tr gBm_M
  have TW3 : TW (hIni L xs) A3 0 [] := by
    refine ⟨?_, ini_3, fun i hi => absurd hi (Nat.not_lt_zero _), fun i => by show 0 < 128; omega⟩
    rw [wr_nil]
    exact x23.tI id (x12.tI (show ¬ (0 : Nat) = 2 by omega) (x01.tI (show ¬ (0 : Nat) = 1 by omega) t0))
  have R3 : RD A3 1 := (R1.ext x12 (show ¬ (1 : Nat) = 2 by omega)).ext x23 id
  obtain ⟨gh, A4, N', e, b, d, hh, tt, gg, svr, r1, ⟨c1, c2, c3, c4, c5, c6, c7, c8, c9, c10⟩, r3, r4, r5, r6, r7⟩ := g_randomCity TW3 R3 ok00 ini_CA ini_CH
  have ok4 : okS N' P0 (hpush H00 N00 P0 true) := ⟨c6, P0_WP, HW.push ok00.2.2 ok00.1 P0_WP⟩
  have ld4 : LDs N' P0 := fun t ht => absurd ht (Nat.not_lt_zero _)
  obtain ⟨A5, d1, d2, d3⟩ := g_agrees ok4 ld4 c4 r4 c1 c2
  -- the snapshots' array
  have x6 : gE noW A5 (gAQ A5 41 9) := gNew_E
  have m6 : gMd 1 9 A5 (gAQ A5 41 9) := gNew_M
  have t6 : tR (gAQ A5 41 9) A5.1.length (r9 (fun _ => none)) := gNew_at
  have x46 := d2.tr x6
  have hLS : LST gh (gAQ A5 41 9) 1 A5.1.length A3.1.length N' svr e b d gg 0 := ⟨hh, tt, P0, hpush H00 N00 P0 true, fun _ => none, ⟨ok4, ld4, c4, c5, ⟨c1.ext x46, c2.ext x46, c3, c8.ext x46 id⟩, r3, r4, r5⟩, c7, t6, fun k hk => Or.inl rfl, fun k hk => absurd hk (Nat.not_lt_zero _)⟩
  obtain ⟨h9, A9, w1, w2⟩ := ops_all (i := nI j) hLS
  refine ⟨(h9, A9), ?_, ?_⟩
  · dsimp only
    rw [e1, Option.bind_some, show gTop A0 = rf 1 from congrArg rf l0]
    unfold F_X10_init
    rw [show (rf 1).bind (fun q1 => (gFst (gNwO A0 10) (some q1) 10 0 (.inl (xs j))).bind fun D2 => some D2) = some A1 by
      show (gFst (gNwO A0 10) (rf 1) 10 0 (.inl (xs j))).bind _ = _
      rw [s1, Option.bind_some], Option.bind_some, show gTop A1 = rf 2 from congrArg rf l1'', a1, Option.bind_some, g0, Option.bind_some, jn_d]
    dsimp only
    rw [if_neg one, f1, if_neg (fun z => z rfl), f2, Option.bind_some]
    dsimp only
    rw [if_neg (fun z => z rfl), f3, Option.bind_some]
    dsimp only
    rw [if_neg (fun z => z rfl), f4, Option.bind_some]
    dsimp only
    rw [if_neg (fun z => z rfl), f5, Option.bind_some]
    dsimp only
    rw [if_neg (fun z => z rfl), f6, Option.bind_some, if_neg (fun z => z rfl), ← hA3, show gTop (([], cA, sA) : gDS) = rf 0 from rfl, r1, Option.bind_some]
    dsimp only
    rw [if_neg (show ¬ rf A3.1.length = none from fun z => by cases z), jn_d]
    dsimp only
    rw [if_neg one, d1, Option.bind_some]
    dsimp only
    rw [if_neg one, gTop_rf A5, w1]
  · have mm := (((((m0.tr m1).tr (gMd.eq m1')).tr (m2.tr a5)).tr m23).tr (r7.tr (d3.tr m6))).tr w2
    exact ⟨Nat.le_trans mm.1 (by show cA + _ ≤ cA + 295000; omega), Nat.le_trans mm.2 (by show sA + _ ≤ sA + 2000000; omega)⟩
end FIN
