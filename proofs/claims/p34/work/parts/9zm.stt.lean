/-! THE TEXT'S STATEMENTS, READ BY THE CLASS -/
def slen (sv : Option (List Stq)) : List Stq := sv.getD []
/-- reading: the network N and the service sv are known, the tokens l follow -/
def RS (b : Nat → Nat) (n : Nat) (g : PH) (p : Nat) (l : List Itm) (N : NT) (sv : Option (List Stq)) : Prop := GS b n g p l ∧ CN g 3 N ∧ WN N ∧ g.1 1 9 = fl sv.isSome ∧ FG g (slen sv)
/-- a statement with its semicolon -/
def STM (ts : List Itm) (N N' : NT) (sv sv' : Option (List Stq)) : Prop :=
  ∀ (b : Nat → Nat) (n : Nat) (g : PH) (p : Nat) (rest : List Itm), n ≤ 700 → (∀ j, b j < 256) → RS b n g p (ts ++ rest) N sv → ∃ g' p', cS g = some g' ∧ RS b n g' p' rest N' sv' ∧ FS g g' ∧ p < p'
theorem nu_O (v : Nat) : tkO (1, v) := fun z => absurd z k12
section STT
variable {b : Nat → Nat} {n : Nat} {g : PH} {N : NT}
theorem CN.ft {g' : PH} (c : CN g 3 N) (f : FT g g') : CN g' 3 N := c.fr f.1 (fun j hj => by omega)
theorem FT.FS {g g' : PH} (f : FT g g') : FS g g' := ⟨f.1.mono (fun i hi => Or.inl hi), fun j hj => f.2 j (by omega)⟩
theorem FS.of {g g' : PH} {S : Nat → Prop} (f : Fr S g g') (hs : ∀ i, S i → 3 ≤ i ∧ i ≤ 11) : FS g g' := ⟨f.mono (fun i hi => Or.inr (hs i hi)), fun j _ => by rw [(f 1 (fun z => by have := hs 1 z; omega)).1]⟩
/-- the semicolon -/
theorem st_end {p : Nat} {rest : List Itm} {sv : Option (List Stq)} (hn : n ≤ 700) (hb : ∀ j, b j < 256) (h : RS b n g p ((0, 59) :: rest) N sv) : ∃ g' p', F_X6_takeSign g (59 : Int32) = some g' ∧ RS b n g' p' rest N sv ∧ FT g g' ∧ p < p' := by
  obtain ⟨h1, h2, h3, h4, h5⟩ := h
  obtain ⟨g', p', a1, a2, a3, a4⟩ := p_sign hn hb h1
  exact ⟨g', p', a1, ⟨a2, h2.ft a3, h3, (a3.2 9 (by omega)).trans h4, h5.ft a3⟩, a3, a4⟩
theorem w_is {p i j : Nat} {l : List Itm} (hn : n ≤ 700) (hb : ∀ j, b j < 256) (h : GS b n g p ((2, i) :: l)) (hi : i < 7) (hj : j < 7) : F_X6_isWord g (1000 + j) = some (if i = j then (1 : Int32) else (0 : Int32)) := by
  rw [p_isw hn hb h (fun _ => hi) hj]
  by_cases q : i = j
  · rw [if_pos q, if_pos (by rw [q])]
  · rw [if_neg q, if_neg (fun z => by injection z with y1 y2; exact q y2)]
theorem pm1 {a : Nat} (h : 1 ≤ a) : nI a - (1 : Int32) = nI (a - 1) := by rw [i1, nI_sub h]
/-- an edge -/
theorem st_edge {u v c1 c2 dm : Nat} {sv : Option (List Stq)} (hE : wE N < 14) (hu : u < wN N) (hv : v < wN N) (huv : u ≠ v) (h1 : 1 ≤ c1 ∧ c1 ≤ 99) (h2 : 1 ≤ c2 ∧ c2 ≤ 99) (hd : dm ≤ 99) : STM [(2, 1), (1, u), (1, v), (1, c1), (1, c2), (1, dm), (0, 59)] N (addE N u v c1 c2 dm) sv sv := fun b n g p rest hn hb ⟨g1, g2, g3, g4, g5⟩ => by
  have hN8 := g3.1
  have g1 : GS b n g p ((2, 1) :: (1, u) :: (1, v) :: (1, c1) :: (1, c2) :: (1, dm) :: (0, 59) :: rest) := g1
  obtain ⟨A, pa, a1, a2, a3, a4⟩ := p_next hn hb g1 (fun _ => by show 1 < 7; omega)
  have cA := g2.ft a3
  obtain ⟨B, pb, b1, b2, b3, b4⟩ := p_num hn hb a2 (lo := 0) (hi := wN N - 1) (Nat.zero_le _) (by omega) (by omega)
  have cB := cA.ft b3
  obtain ⟨C, pc, c1', c2', c3, c4⟩ := p_num hn hb b2 (lo := 0) (hi := wN N - 1) (Nat.zero_le _) (by omega) (by omega)
  obtain ⟨D, pd, d1, d2, d3, d4⟩ := p_num hn hb c2' (lo := 1) (hi := 99) h1.1 h1.2 (by omega)
  obtain ⟨E, pe, e1, e2, e3, e4⟩ := p_num hn hb d2 (lo := 1) (hi := 99) h2.1 h2.2 (by omega)
  obtain ⟨F, pf, f1, f2, f3, f4⟩ := p_num hn hb e2 (lo := 0) (hi := 99) (Nat.zero_le _) hd (by omega)
  have fF : FT g F := a3.trans (b3.trans (c3.trans (d3.trans (e3.trans f3))))
  obtain ⟨G, i1', i2', i3'⟩ := c_addE (u := u) (v := v) (c1 := c1) (c2 := c2) (dm := dm) (g2.ft fF) hE
  have hG : RS b n G pf ((0, 59) :: rest) (addE N u v c1 c2 dm) sv := ⟨f2.same (i2' 1 (by omega)).1 (i2' 2 (by omega)).1, i3', addE_WN g3 hE hu hv huv h1 h2 hd, by rw [(i2' 1 (by omega)).1, fF.2 9 (by omega)]; exact g4, (g5.ft fF).same (i2' 10 (by omega)).1 (i2' 11 (by omega)).1⟩
  obtain ⟨H, ph, j1, j2, j3, j4⟩ := st_end hn hb hG
  refine ⟨H, ph, ?_, j2, (FT.FS fF).trans ((FS.of i2' (fun i hi => by omega)).trans (FT.FS j3)), by omega⟩
  have k7 : B.1 1 7 = (256 : Int32) := (p_kind b2 (nu_O v)).trans rfl
  have k8 : B.1 1 8 = nI v := by
    rw [b2.2.1.2.2.2.2]
    rcases b2.2.2.1.1 with ⟨z, -⟩ | ⟨-, -, y2⟩ | ⟨z, -⟩
    · exact absurd z k10
    · rw [y2]
    · exact absurd z k12
  have z10 : ¬ ¬ (F.1 1 10) = 0 := fun z => z f2.2.2.2.1
  rw [cS_M]
  unfold cM
  rw [show F_X6_isWord g 1001 = some 1 from w_is hn hb g1 (j := 1) (by omega) (by omega), Option.bind_some, if_neg (show ¬ (1 : Int32) = 0 by decide), eC0, g2.2.2.1, if_pos (show nI (wE N) < (14 : Int32) from nI_lt (b := 14) hE (by omega)), a1, Option.bind_some]
  unfold eC1 eC2 eCC eC3
  rw [cA.1, pm1 (by omega), show F_X6_takeNumber A (0 : Int32) (nI (wN N - 1)) = _ from b1, Option.bind_some]
  dsimp only
  rw [if_neg (fun z => z k7), k8, if_pos (show ¬ nI v = nI u from fun z => huv ((nI_eq (by omega) (by omega)).mp z).symm), cB.1, pm1 (by omega), show F_X6_takeNumber B (0 : Int32) (nI (wN N - 1)) = _ from c1', Option.bind_some]
  dsimp only
  rw [show F_X6_takeNumber C (1 : Int32) (99 : Int32) = _ from d1, Option.bind_some]
  dsimp only
  rw [show F_X6_takeNumber D (1 : Int32) (99 : Int32) = _ from e1, Option.bind_some]
  dsimp only
  rw [show F_X6_takeNumber E (0 : Int32) (99 : Int32) = _ from f1, Option.bind_some]
  dsimp only
  rw [if_neg z10, i1', Option.bind_some, j1]
/-- a depot -/
theorem st_depot {v : Nat} {sv : Option (List Stq)} (hD : wD N < 3) (hv : v < wN N) : STM [(2, 3), (1, v), (0, 59)] N (addD N v) sv sv := fun b n g p rest hn hb ⟨g1, g2, g3, g4, g5⟩ => by
  have hN8 := g3.1
  have g1 : GS b n g p ((2, 3) :: (1, v) :: (0, 59) :: rest) := g1
  obtain ⟨A, pa, a1, a2, a3, a4⟩ := p_next hn hb g1 (fun _ => by show 3 < 7; omega)
  have cA := g2.ft a3
  obtain ⟨B, pb, b1, b2, b3, b4⟩ := p_num hn hb a2 (lo := 0) (hi := wN N - 1) (Nat.zero_le _) (by omega) (by omega)
  have cB := cA.ft b3
  have fB : FT g B := a3.trans b3
  obtain ⟨G, hGe⟩ : ∃ G, G = pu (pu B 9 (wD N) (nI v)) 3 3 (nI (wD N + 1)) := ⟨_, rfl⟩
  have eG : F_X2_addDepot B (nI v) = G := by
    unfold F_X2_addDepot
    rw [cB.2.2.2.1, if_pos (show nI (wD N) < (3 : Int32) from nI_lt (b := 3) hD (by omega)), put_in (by omega) (by omega), hGe]
    rw [show (pu B 9 (wD N) (nI v)).1 3 3 = nI (wD N) by rw [pu_get, if_neg (by omega)]; exact cB.2.2.2.1, nI_1]
  have i2' : Fr (fun a => 3 ≤ a ∧ a ≤ 9) B G := by
    rw [hGe]
    exact (Fr.pu (by omega)).trans (Fr.pu (by omega))
  have gG : ∀ a k, G.1 a k = if a = 3 ∧ k = 3 then nI (wD N + 1) else if a = 9 ∧ k = wD N then nI v else B.1 a k := fun a k => by
    rw [hGe, pu_get, pu_get]
  have cG : CN G 3 (addD N v) := by
    obtain ⟨y1, y2, y3, y4, y5, y6, y7⟩ := cB
    refine ⟨?_, ?_, ?_, ?_, fun a ha => ?_, fun e he => ?_, fun d hd => ?_⟩
    · rw [gG, if_neg (by omega), if_neg (by omega)]
      exact y1
    · rw [gG, if_neg (by omega), if_neg (by omega)]
      exact y2
    · rw [gG, if_neg (by omega), if_neg (by omega)]
      exact y3
    · rw [gG, if_pos ⟨rfl, rfl⟩]
      rfl
    · obtain ⟨z1, z2, z3, z4⟩ := y5 a ha
      refine ⟨?_, ?_, ?_, ?_⟩
      · rw [gG, if_neg (by omega), if_neg (by omega)]
        exact z1
      · rw [gG, if_neg (by omega), if_neg (by omega)]
        exact z2
      · rw [gG, if_neg (by omega), if_neg (by omega)]
        exact z3
      · rw [gG, if_neg (by omega), if_neg (by omega)]
        exact z4
    · rw [gG, if_neg (by omega), if_neg (by omega)]
      exact y6 e he
    · rw [gG, if_neg (by omega)]
      show (if 3 + 6 = 9 ∧ d = wD N then nI v else B.1 (3 + 6) d) = nI (if d = wD N then v else wDp N d)
      have hd : d < wD N + 1 := hd
      by_cases z : d = wD N
      · rw [if_pos ⟨rfl, z⟩, if_pos z]
      · rw [if_neg (fun w => z w.2), if_neg z]
        exact y7 d (by omega)
  have hG : RS b n G pb ((0, 59) :: rest) (addD N v) sv := ⟨b2.same (i2' 1 (by omega)).1 (i2' 2 (by omega)).1, cG, addD_WN g3 hD hv, by rw [(i2' 1 (by omega)).1, fB.2 9 (by omega)]; exact g4, (g5.ft fB).same (i2' 10 (by omega)).1 (i2' 11 (by omega)).1⟩
  obtain ⟨H, ph, j1, j2, j3, j4⟩ := st_end hn hb hG
  refine ⟨H, ph, ?_, j2, (FT.FS fB).trans ((FS.of i2' (fun i hi => by omega)).trans (FT.FS j3)), by omega⟩
  have z10 : ¬ ¬ (B.1 1 10) = 0 := fun z => z b2.2.2.2.1
  have w0 : ∀ j, j < 7 → 3 ≠ j → F_X6_isWord g (1000 + j) = some 0 := fun j hj hne => by
    rw [w_is hn hb g1 (by omega) hj, if_neg hne]
  rw [cS_M]
  unfold cM
  rw [show F_X6_isWord g 1001 = some 0 from w0 1 (by omega) (by omega), Option.bind_some, if_pos rfl, show F_X6_isWord g 1002 = some 0 from w0 2 (by omega) (by omega), Option.bind_some, if_pos rfl, show F_X6_isWord g 1003 = some 1 from w_is hn hb g1 (j := 3) (by omega) (by omega), Option.bind_some, if_neg (show ¬ (1 : Int32) = 0 by decide), dC0, g2.2.2.2.1, if_pos (show nI (wD N) < (3 : Int32) from nI_lt (b := 3) hD (by omega)), a1, Option.bind_some]
  unfold dC1
  rw [cA.1, pm1 (by omega), show F_X6_takeNumber A (0 : Int32) (nI (wN N - 1)) = _ from b1, Option.bind_some]
  dsimp only
  rw [if_neg z10, eG, Option.bind_some, j1]
/-- the arc of an edge that comes to a node -/
def arcTo (N : NT) (e v : Nat) : Nat := if wHd N (2 * e) = v then 2 * e else 2 * e + 1
theorem addB_WN {a0 : Nat} {m : Int32} (h : WN N) : WN (addB N a0 m) := h
theorem st_edgeAt {p e v : Nat} {rest : List Itm} (hn : n ≤ 700) (hb : ∀ j, b j < 256) (h : GS b n g p ((1, e) :: rest)) (hc : CN g 3 N) (hN : WN N) (he : e < wE N) (ht : wTl N (2 * e) = v ∨ wHd N (2 * e) = v) : ∃ g' p', F_X6_takeEdgeAt g (nI v) = some (nI e, g') ∧ GS b n g' p' rest ∧ FT g g' ∧ p < p' := by
  have hE := hN.2.2.1
  have hv8 : v < 8 := by
    have := (hN.2.2.2.2.1 (2 * e) (by omega)).1
    have := (hN.2.2.2.2.1 _ (wFl_lt (E := wE N) (show 2 * e < 2 * wE N by omega))).1
    have := hN.1
    unfold wHd at ht
    omega
  obtain ⟨g', p', a1, a2, a3, a4⟩ := p_num hn hb h (lo := 0) (hi := wE N - 1) (Nat.zero_le _) (by omega) (by omega)
  refine ⟨g', p', ?_, a2, a3, a4⟩
  have k7 : g.1 1 7 = (256 : Int32) := (p_kind h (nu_O e)).trans rfl
  have k8 : g.1 1 8 = nI e := by
    rw [h.2.1.2.2.2.2]
    rcases h.2.2.1.1 with ⟨z, -⟩ | ⟨-, -, y2⟩ | ⟨z, -⟩
    · exact absurd z k10
    · rw [y2]
    · exact absurd z k12
  have tch : ¬ (F_X2_touches g (nI e) (nI v)) = 0 := by
    unfold F_X2_touches
    rw [i2, nI_mul, c_start hN hc (by omega), c_end hN hc (by omega)]
    by_cases q : wTl N (2 * e) = v
    · rw [if_pos (by rw [q])]
      decide
    · have q2 : wHd N (2 * e) = v := by omega
      have t8 := (hN.2.2.2.2.1 (2 * e) (by omega)).1
      have := hN.1
      rw [if_neg (fun z => q ((nI_eq (by omega) (by omega)).mp z)), if_neg (by rw [q2]; exact fun z => z rfl)]
      decide
  rw [eAt_c, if_neg (fun z => z k7), k8, hc.2.2.1, if_neg (fun z => by have := (nI_le' (by omega) (by omega)).mp z; omega), if_pos tch, pm1 (by omega), show F_X6_takeNumber g (0 : Int32) (nI (wE N - 1)) = _ from a1, Option.bind_some]
theorem st_ban {v e1 e2 : Nat} {sv : Option (List Stq)} (hv : v < wN N) (h1 : e1 < wE N) (h2 : e2 < wE N) (ht1 : wTl N (2 * e1) = v ∨ wHd N (2 * e1) = v) (ht2 : wTl N (2 * e2) = v ∨ wHd N (2 * e2) = v) : STM [(2, 2), (1, v), (1, e1), (1, e2), (0, 59)] N (addB N (arcTo N e1 v) ((1 : Int32) <<< (nI e2 &&& 31))) sv sv := fun b n g p rest hn hb ⟨g1, g2, g3, g4, g5⟩ => by
  have hN8 := g3.1
  have hE := g3.2.2.1
  have g1 : GS b n g p ((2, 2) :: (1, v) :: (1, e1) :: (1, e2) :: (0, 59) :: rest) := g1
  obtain ⟨A, pa, a1, a2, a3, a4⟩ := p_next hn hb g1 (fun _ => by show 2 < 7; omega)
  have cA := g2.ft a3
  obtain ⟨B, pb, b1, b2, b3, b4⟩ := p_num hn hb a2 (lo := 0) (hi := wN N - 1) (Nat.zero_le _) (by omega) (by omega)
  have cB := cA.ft b3
  obtain ⟨C, pc, c1, c2, c3, c4⟩ := st_edgeAt hn hb b2 cB g3 h1 ht1
  have cC := cB.ft c3
  obtain ⟨D, pd, d1, d2, d3, d4⟩ := st_edgeAt hn hb c2 cC g3 h2 ht2
  have cD := cC.ft d3
  have fD : FT g D := a3.trans (b3.trans (c3.trans d3))
  have ha0 : arcTo N e1 v < 2 * wE N := by unfold arcTo; split <;> omega
  obtain ⟨G, hGe⟩ : ∃ G, G = pu D 7 (arcTo N e1 v) (wBn N (arcTo N e1 v) ||| ((1 : Int32) <<< (nI e2 &&& 31))) := ⟨_, rfl⟩
  have bn : ∀ a, a < 2 * wE N → F_X7_at 28 D 7 (nI a) = wBn N a := fun a ha => by
    rw [at_in (by omega) (by omega)]
    exact (cD.2.2.2.2.1 a ha).2.2.2
  have eG : F_X2_banTurn D (nI v) (nI e1) (nI e2) = G := by
    unfold F_X2_banTurn
    have t8 : wHd N (2 * e1) < 8 := by
      have := (g3.2.2.2.2.1 _ (wFl_lt (E := wE N) (show 2 * e1 < 2 * wE N by omega))).1
      unfold wHd
      omega
    rw [i2, nI_mul, c_end g3 cD (by omega), nI_1]
    by_cases q : wHd N (2 * e1) = v
    · have e0 : arcTo N e1 v = 2 * e1 := if_pos q
      rw [if_neg (by rw [q]; exact fun z => z rfl), bn _ (by omega), put_in (by omega) (by omega), hGe, e0]
    · have e0 : arcTo N e1 v = 2 * e1 + 1 := if_neg q
      rw [if_pos (fun z => q ((nI_eq (by omega) (by omega)).mp z)), bn _ (by omega), put_in (by omega) (by omega), hGe, e0]
  have i2' : Fr (fun a => 3 ≤ a ∧ a ≤ 9) D G := by
    rw [hGe]
    exact Fr.pu (by omega)
  have gG : ∀ a k, G.1 a k = if a = 7 ∧ k = arcTo N e1 v then wBn N (arcTo N e1 v) ||| ((1 : Int32) <<< (nI e2 &&& 31)) else D.1 a k := fun a k => by
    rw [hGe, pu_get]
  have cG : CN G 3 (addB N (arcTo N e1 v) ((1 : Int32) <<< (nI e2 &&& 31))) := by
    obtain ⟨y1, y2, y3, y4, y5, y6, y7⟩ := cD
    have o : ∀ a k, a ≠ 7 → G.1 a k = D.1 a k := fun a k ha => by rw [gG, if_neg (fun z => ha z.1)]
    refine ⟨(o _ _ (by omega)).trans y1, (o _ _ (by omega)).trans y2, (o _ _ (by omega)).trans y3, (o _ _ (by omega)).trans y4, fun a ha => ?_, fun e he => (o _ _ (by omega)).trans (y6 e he), fun d hd => (o _ _ (by omega)).trans (y7 d hd)⟩
    obtain ⟨z1, z2, z3, z4⟩ := y5 a ha
    refine ⟨(o _ _ (by omega)).trans z1, (o _ _ (by omega)).trans z2, (o _ _ (by omega)).trans z3, ?_⟩
    rw [gG]
    show (if 3 + 4 = 7 ∧ a = arcTo N e1 v then _ else D.1 (3 + 4) a) = (if a = arcTo N e1 v then N.2 a ||| ((1 : Int32) <<< (nI e2 &&& 31)) else N.2 a)
    by_cases z : a = arcTo N e1 v
    · rw [if_pos ⟨rfl, z⟩, if_pos z, z]
      rfl
    · rw [if_neg (fun w => z w.2), if_neg z]
      exact z4
  have hG : RS b n G pd ((0, 59) :: rest) (addB N (arcTo N e1 v) ((1 : Int32) <<< (nI e2 &&& 31))) sv := ⟨d2.same (i2' 1 (by omega)).1 (i2' 2 (by omega)).1, cG, addB_WN g3, by rw [(i2' 1 (by omega)).1, fD.2 9 (by omega)]; exact g4, (g5.ft fD).same (i2' 10 (by omega)).1 (i2' 11 (by omega)).1⟩
  obtain ⟨H, ph, j1, j2, j3, j4⟩ := st_end hn hb hG
  refine ⟨H, ph, ?_, j2, (FT.FS fD).trans ((FS.of i2' (fun i hi => by omega)).trans (FT.FS j3)), by omega⟩
  have z10 : ¬ ¬ (D.1 1 10) = 0 := fun z => z d2.2.2.2.1
  have w0 : ∀ j, j < 7 → 2 ≠ j → F_X6_isWord g (1000 + j) = some 0 := fun j hj hne => by
    rw [w_is hn hb g1 (by omega) hj, if_neg hne]
  rw [cS_M]
  unfold cM
  rw [show F_X6_isWord g 1001 = some 0 from w0 1 (by omega) (by omega), Option.bind_some, if_pos rfl, show F_X6_isWord g 1002 = some 1 from w_is hn hb g1 (j := 2) (by omega) (by omega), Option.bind_some, if_neg (show ¬ (1 : Int32) = 0 by decide)]
  unfold F_X6_readBan
  rw [a1, Option.bind_some, cA.1, pm1 (by omega), show F_X6_takeNumber A (0 : Int32) (nI (wN N - 1)) = _ from b1, Option.bind_some]
  dsimp only
  rw [c1, Option.bind_some]
  dsimp only
  rw [d1, Option.bind_some]
  dsimp only
  rw [if_neg z10, eG, Option.bind_some, j1]
/-- the service -/
theorem st_serv {D : gDS} {m : Nat} {r : gRF} {l : List Stq} {tx : Nat → List Itm} (hT : GTX D m r l tx) (hm : m ≤ 4) (hl : l.length ≤ 500) : STM ((2, 4) :: (toks (tx 0) ++ [(0, 59)])) N N none (some l) := fun b n g p rest hn hb ⟨g1, g2, g3, g4, g5⟩ => by
  have g1 : GS b n g p ((2, 4) :: (toks (tx 0) ++ (0, 59) :: rest)) := by
    have e : ((2, 4) :: (toks (tx 0) ++ [(0, 59)])) ++ rest = (2, 4) :: (toks (tx 0) ++ (0, 59) :: rest) := by simp
    rw [e] at g1
    exact g1
  have g4 : g.1 1 9 = 0 := g4
  -- the flag of the service is set
  have gs9 : GS b n (pu g 1 9 (1 : Int32)) p ((2, 4) :: (toks (tx 0) ++ (0, 59) :: rest)) := by
    obtain ⟨⟨h1, h2⟩, ⟨t1, t2, t3, t4, t5⟩, h3, h4, h5⟩ := g1
    have o : ∀ a k, ¬ (a = 1 ∧ k = 9) → (pu g 1 9 (1 : Int32)).1 a k = g.1 a k := fun a k h => by rw [pu_get, if_neg h]
    refine ⟨⟨?_, fun j hj => ?_⟩, ⟨t1, ?_, ?_, ?_, ?_⟩, h3, ?_, ?_⟩
    · rw [o _ _ (by omega)]; exact h1
    · rw [o _ _ (by omega)]; exact h2 j hj
    · rw [o _ _ (by omega)]; exact t2
    · rw [o _ _ (by omega)]; exact t3
    · rw [o _ _ (by omega)]; exact t4
    · rw [o _ _ (by omega)]; exact t5
    · rw [o _ _ (by omega)]; exact h4
    · rw [o _ _ (by omega)]; exact h5
  have f9 : Fr (fun a => a = 1) g (pu g 1 9 (1 : Int32)) := Fr.pu rfl
  have e9 : (pu g 1 9 (1 : Int32)).1 1 9 = 1 := by rw [pu_get, if_pos ⟨rfl, rfl⟩]
  have o9 : ∀ j, j ≠ 9 → (pu g 1 9 (1 : Int32)).1 1 j = g.1 1 j := fun j hj => by rw [pu_get, if_neg (fun z => hj z.2)]
  have eqp : F_X6_next (pu g 1 9 (1 : Int32)) = F_X6_next (pu g 1 9 (1 : Int32)) := rfl
  generalize hG9 : pu g 1 9 (1 : Int32) = g9 at *
  obtain ⟨A, pa, a1, a2, a3, a4⟩ := p_next hn hb gs9 (fun _ => by show 4 < 7; omega)
  have hF0 : FG A [] := (g5.same (f9 10 (by omega)).1 (f9 11 (by omega)).1).ft a3
  obtain ⟨g1', m', B, pb, b1, b2, b3, b4, b5, b6⟩ := (p_tree hn hb m r l tx hT).1 7 0 (by omega) (by omega) 0 (by omega) A pa (0, 59) rest [] a2 (sg_O 59) (fun y => by injection y with y1 y2; omega) (fun y => by injection y with y1 y2; omega) hF0 (by show 0 + l.length ≤ 590; omega)
  have e1 : R_X6_readSum 8 A (0 : Int32) = some B := by
    show F_X6_readSum (R_X6_readSum 7) A (nI 0) = some B
    rw [rs_is, b1, Option.bind_some, b2]
    exact BS_stop hn b3 (sg_O 59) (by omega) (fun y => by injection y with y1 y2; omega) (fun y => by injection y with y1 y2; omega)
  have cB : CN B 3 N := ((g2.fr f9 (fun j hj => by omega)).ft a3).fr b5.1 (fun j hj => by omega)
  have hB9 : B.1 1 9 = 1 := by
    rw [b5.2 9 (by omega), a3.2 9 (by omega)]
    exact e9
  have hR : RS b n B pb ((0, 59) :: rest) N (some l) := ⟨b3, cB, g3, hB9, b4⟩
  obtain ⟨H, ph, j1, j2, j3, j4⟩ := st_end hn hb hR
  have fs1 : FS g g9 := ⟨f9.mono (fun i hi => Or.inl hi), fun j hj => o9 j (by omega)⟩
  refine ⟨H, ph, ?_, j2, fs1.trans ((FT.FS a3).trans ((GC.FS b5).trans (FT.FS j3))), by omega⟩
  have w0 : ∀ j, j < 7 → 4 ≠ j → F_X6_isWord g (1000 + j) = some 0 := fun j hj hne => by
    rw [w_is hn hb g1 (by omega) hj, if_neg hne]
  rw [cS_M]
  unfold cM
  rw [show F_X6_isWord g 1001 = some 0 from w0 1 (by omega) (by omega), Option.bind_some, if_pos rfl, show F_X6_isWord g 1002 = some 0 from w0 2 (by omega) (by omega), Option.bind_some, if_pos rfl, show F_X6_isWord g 1003 = some 0 from w0 3 (by omega) (by omega), Option.bind_some, if_pos rfl, show F_X6_isWord g 1004 = some 1 from w_is hn hb g1 (j := 4) (by omega) (by omega), Option.bind_some, if_neg (show ¬ (1 : Int32) = 0 by decide), if_neg (fun z => z g4), hG9, a1, Option.bind_some, e1, Option.bind_some, j1]
end STT
