section UND
variable {h : PH} {N : NT} {P : PT} {H : HT}
/-- things that the class's undo writes -/
def SU (a : Nat) : Prop := (14 ≤ a ∧ a ≤ 20) ∨ (22 ≤ a ∧ a ≤ 30)
theorem hslot_pop {nx k : Nat} (hx : nx < 8) (hk : k < 7) : hslot ((nx + 7) % 8) k = hslot nx (k + 1) := by unfold hslot; omega
theorem hslot_0 {nx : Nat} : hslot nx 0 = (nx + 7) % 8 := rfl
theorem c_restore (hw : HW H) (hn : CN h 14 N) (hh : CH h N H) (hp : 0 < hK H) : ∃ h', F_X1_restore h = some ((if hL H 0 then (1 : Int32) else (0 : Int32)), h') ∧ Fr (fun a => (14 ≤ a ∧ a ≤ 20) ∨ (26 ≤ a ∧ a ≤ 30)) h h' ∧ CN h' 14 (hN H 0) ∧ CP h' 26 (hP H 0) ∧ CH h' (hN H 0) (hpop H) ∧ (hL H 0 = false → hN H 0 = N) := by
  obtain ⟨nx, hx, k1, k2, k3, k4⟩ := hh
  obtain ⟨d1, d2, d3, d4⟩ := k4 0 hp
  obtain ⟨w1, w2⟩ := hw 0 hp
  rw [hslot_0] at d1 d2 d3
  have hj : (nx + 7) % 8 < 8 := Nat.mod_lt _ (by omega)
  have hpo : ∀ k, k < 7 → hslot ((nx + 7) % 8) k = hslot nx (k + 1) := fun k hk => hslot_pop hx hk
  generalize (nx + 7) % 8 = j at d1 d2 d3 hj hpo
  have em : nI nx + (8 : Int32) - (1 : Int32) = nI (nx + 7) := by
    rw [i8, nI_add]
    exact nI_pred (nx + 7)
  unfold F_X1_restore
  have ej : (nx + 7) % 8 = j := by
    have := hpo 0 (by omega)
    unfold hslot at this
    omega
  rw [k1, k3, em, mod8 (by omega), ej, if_neg (nI_nle hp (by omega)), c_ready hj, Option.bind_some, if_pos (by decide), aidx_in (by omega) hj, Option.bind_some]
  have e1 : (pu h 30 4 (nI j)).1 30 3 - (1 : Int32) = nI (hK H - 1) := by
    rw [pu_get, if_neg (by omega), k1]
    exact nI_sub (a := hK H) (b := 1) hp
  rw [e1]
  generalize hg1 : pu (pu h 30 4 (nI j)) 30 3 (nI (hK H - 1)) = g1
  have o1 : ∀ a, a ≠ 30 → g1.1 a = h.1 a := fun a ha => by rw [← hg1, (pu_o _ 30 _ _ a ha).1, (pu_o _ 30 _ _ a ha).1]
  have f1 : Fr (fun a => a = 30) h g1 := by rw [← hg1]; exact (Fr.pu (S := fun a => a = 30) rfl).trans (Fr.pu (S := fun a => a = 30) rfl)
  have q3 : g1.1 30 3 = nI (hK H - 1) := by rw [← hg1, pu_get, if_pos ⟨rfl, rfl⟩]
  have q4 : g1.1 30 4 = nI j := by rw [← hg1, pu_get, if_neg (by omega), pu_get, if_pos ⟨rfl, rfl⟩]
  clear hg1
  obtain ⟨a1, a2⟩ := c_cpP (h := g1) (o := 26) (w := 90 + 4 * j) (Or.inl (by omega)) w2.1 (d2.same (fun i hi => o1 _ (by omega)))
  generalize F_X3_copyFrom g1 26 (90 + 4 * j) = g2 at a1 a2
  have o2 : ∀ a, ¬ (26 ≤ a ∧ a ≤ 30) → g2.1 a = h.1 a := fun a ha => by rw [(a1 a (by unfold SPln; omega)).1, o1 a (by omega)]
  have e30 : g2.1 30 = g1.1 30 := (a1 30 (by unfold SPln; omega)).1
  have f2 : Fr (fun a => (14 ≤ a ∧ a ≤ 20) ∨ (26 ≤ a ∧ a ≤ 30)) h g2 := (f1.mono (fun i hi => Or.inr (by omega))).trans (a1.mono (fun i hi => Or.inr (by unfold SPln at hi; omega)))
  -- the ring that is left, in any heap that differs only below
  have ring : ∀ g : PH, (∀ a, 30 ≤ a → g.1 a = g2.1 a) → CH g (hN H 0) (hpop H) := fun g hg => by
    refine ⟨j, hj, ?_, ?_, ?_, fun k hk => ?_⟩
    · rw [hg 30 (by omega), e30, q3]
      rfl
    · have : hK (hpop H) = hK H - 1 := rfl
      omega
    · rw [hg 30 (by omega), e30, q4]
    · have hk : k < hK H - 1 := hk
      rw [hpo k (by omega)]
      obtain ⟨b1, b2, b3, b4⟩ := k4 (k + 1) (by omega)
      have hs := hslot_lt nx (k + 1)
      refine ⟨?_, b2.same (fun i hi => ?_), fun z => (b3 z).same (fun i hi => ?_), fun z => ?_⟩
      · rw [hg 33 (by omega), o2 33 (by omega)]
        exact b1
      · rw [hg _ (by omega), o2 _ (by omega)]
      · rw [hg _ (by omega), o2 _ (by omega)]
      · have b5 := b4 z
        have b6 : hN (hpop H) k = hN H (k + 1) := rfl
        rw [b6, b5]
        unfold prevN
        rw [if_neg (by omega)]
        by_cases y : k = 0
        · subst y
          rw [if_pos rfl]
        · rw [if_neg y]
          have : hN (hpop H) (k - 1) = hN H (k - 1 + 1) := rfl
          rw [this]
          congr 1
          omega
  have ez : ald 8 g2 33 (nI j) = some (if hL H 0 then (1 : Int32) else (0 : Int32)) := by
    rw [ald_in (by omega) hj, o2 33 (by omega), d1]
  rw [ez, Option.bind_some]
  cases hb : hL H 0 with
  | false =>
    rw [hb] at ez
    have e9 := d4 hb
    have e9 : hN H 0 = N := e9
    refine ⟨g2, ?_, f2, ?_, a2, ring g2 (fun a _ => rfl), fun _ => e9⟩
    · rfl
    · rw [e9]
      exact hn.same (fun i hi => o2 _ (by omega))
  | true =>
    rw [hb] at ez
    obtain ⟨c1, c2⟩ := c_cpN (h := g2) (o := 14) (w := 34 + 7 * j) (Or.inl (by omega)) w1 ((d3 hb).same (fun i hi => o2 _ (by omega)))
    rw [if_neg (by decide), Option.bind_some]
    have e5 : ald 8 (F_X2_copyFrom g2 14 (34 + 7 * j)) 33 (nI j) = some (1 : Int32) := by
      rw [ald_in (by omega) hj, (c1 33 (by unfold SNet; omega)).1, o2 33 (by omega), d1, hb]
      rfl
    rw [e5, Option.bind_some]
    refine ⟨F_X2_copyFrom g2 14 (34 + 7 * j), rfl, f2.trans (c1.mono (fun i hi => Or.inl (by unfold SNet at hi; omega))), c2, a2.fr c1 (fun i hi => by unfold SNet; omega), ring _ (fun a ha => (c1 a (by unfold SNet; omega)).1), fun z => by cases z⟩
theorem c_undo (hw : HW H) (hc : CA h N P) (hh : CH h N H) (hp : 0 < hK H) : ∃ h', F_X7_undo h = some (nI (hK H - 1), h') ∧ Fr SU h h' ∧ CA h' (hN H 0) (hP H 0) ∧ CH h' (hN H 0) (hpop H) := by
  obtain ⟨g, a1, a2, a3, a4, a5, a6⟩ := c_restore hw hc.1 hh hp
  obtain ⟨w1, w2⟩ := hw 0 hp
  have k1 : h.1 30 3 = nI (hK H) := by
    obtain ⟨nx, _, k1, _⟩ := hh
    exact k1
  have h8 : hK H ≤ 8 := by
    obtain ⟨nx, _, _, k2, _⟩ := hh
    exact k2
  have g3 : ∀ g' : PH, CH g' (hN H 0) (hpop H) → g'.1 30 3 = nI (hK H - 1) := fun g' hg => by
    obtain ⟨nx, _, k1, _⟩ := hg
    exact k1
  have fSU : Fr SU h g := a2.mono (fun i hi => by unfold SU; omega)
  unfold F_X7_undo
  rw [k1, if_pos (nI_ne0 hp (by omega)), a1, Option.bind_some]
  dsimp only
  cases hb : hL H 0 with
  | false =>
    have e9 := a6 hb
    refine ⟨g, ?_, fSU, ⟨a3, ?_, a4⟩, a5⟩
    · rw [if_pos (by rfl), g3 g a5]
    · rw [e9]
      exact hc.2.1.same (fun i h1 h2 => (a2 i (by omega)).1)
  | true =>
    obtain ⟨g', b1, b2, b3⟩ := c_explore w1 a3
    have ch : CH g' (hN H 0) (hpop H) := by
      obtain ⟨nx, n1, n2, n3, n4, n5⟩ := a5
      have ee : ∀ a, 26 ≤ a → g'.1 a = g.1 a := fun a ha => (b2 a (by unfold S2225; omega)).1
      refine ⟨nx, n1, by rw [ee 30 (by omega)]; exact n2, n3, by rw [ee 30 (by omega)]; exact n4, fun k hk => ?_⟩
      obtain ⟨m1, m2, m3, m4⟩ := n5 k hk
      exact ⟨by rw [ee 33 (by omega)]; exact m1, m2.same (fun i hi => ee _ (by omega)), fun z => (m3 z).same (fun i hi => ee _ (by omega)), m4⟩
    refine ⟨g', ?_, fSU.trans (b2.mono (fun i hi => by unfold S2225 at hi; unfold SU; omega)), ⟨a3.fr b2 (fun i hi => by unfold S2225; omega), b3, a4.fr b2 (fun i hi => by unfold S2225; omega)⟩, ch⟩
    rw [if_neg (by decide), b1, Option.bind_some, g3 g' ch]
theorem c_undo0 (hh : CH h N H) (hp : hK H = 0) : F_X7_undo h = some (-1, h) := by
  obtain ⟨nx, _, k1, _⟩ := hh
  unfold F_X7_undo
  rw [k1, hp, if_neg (fun z => z rfl)]
/-! the reference's rows -/
theorem DA.cp {h' : PH} {r r' : Nat} (c : DA h r N P) (hN9 : WN N) (hw : WQ N P) (e : ∀ j, j < 1556 → h'.1 r' j = h.1 r j) : DA h' r' N P := ⟨c.1.cp hN9 e, c.2.1.cp e, c.2.2.cp hw e⟩
theorem DA.same {h' : PH} {r r' : Nat} (c : DA h r N P) (hN9 : WN N) (hw : WQ N P) (e : h'.1 r' = h.1 r) : DA h' r' N P := c.cp hN9 hw (fun j _ => by rw [e])
theorem RA.da (c : RA h N P) : DA h 124 N P := ⟨c.1, c.2.1, c.2.2.2⟩
def S128 (a : Nat) : Prop := 128 ≤ a ∧ a ≤ 135
/-- what the reference's remember writes -/
def FrR (h h' : PH) : Prop := ∀ a, ¬ S128 a → (a ≠ 122 → h'.1 a = h.1 a) ∧ (∀ j, j ≠ 12 → h'.1 a j = h.1 a j) ∧ h'.2 a = h.2 a
theorem FrR.of {h h' : PH} (f : Fr S128 h h') : FrR h h' := fun a ha => ⟨fun _ => (f a ha).1, fun j _ => by rw [(f a ha).1], (f a ha).2⟩
theorem FrR.trans {h h' h'' : PH} (f : FrR h h') (g : FrR h' h'') : FrR h h'' := fun a ha => ⟨fun z => ((g a ha).1 z).trans ((f a ha).1 z), fun j hj => ((g a ha).2.1 j hj).trans ((f a ha).2.1 j hj), (g a ha).2.2.trans (f a ha).2.2⟩
theorem FrR.pu {h : PH} {v : Int32} : FrR h (pu h 122 12 v) := fun a _ => ⟨fun z => (pu_o h 122 12 v a z).1, fun j hj => by rw [pu_get, if_neg (fun y => hj y.2)], rfl⟩
theorem r_rem1 {k : Nat} (hk : k < 8) (h12 : h.1 122 12 = nI k) : ∃ h', ((aidx 8 (h.1 122 12)).bind fun j3 => (F_X8_copy h 124 (128 + 1 * j3)).bind fun h4 => some ((pu h4 122 12 ((h4.1 122 12) + (1 : Int32))))) = some h' ∧ FrR h h' ∧ h'.1 122 12 = nI (k + 1) ∧ (∀ j, j < 1556 → h'.1 (128 + k) j = h.1 124 j) ∧ (∀ i, i < 8 → i ≠ k → h'.1 (128 + i) = h.1 (128 + i)) := by
  obtain ⟨g, a1, a2, a3⟩ := r_copy (h := h) (o := 124) (w := 128 + 1 * k) (by omega)
  rw [h12, aidx_in (by omega) hk, Option.bind_some, a1, Option.bind_some, (a2 122 (by omega)).1, h12, nI_1]
  refine ⟨_, rfl, (FrR.of (a2.mono (fun i hi => by unfold S128; omega))).trans FrR.pu, by rw [pu_get, if_pos ⟨rfl, rfl⟩], fun j hj => ?_, fun i hi hne => ?_⟩
  · rw [(pu_o g 122 12 _ (128 + k) (by omega)).1]
    have := a3 j hj
    rwa [Nat.one_mul] at this
  · rw [(pu_o g 122 12 _ (128 + i) (by omega)).1, (a2 _ (by omega)).1]
theorem r_remember {b : Bool} (hN9 : WN N) (hp : WP N P) (hc : RA h N P) (hw : HW H) (hh : RH h H) : ∃ h', F_X8_remember h = some h' ∧ FrR h h' ∧ RH h' (hpush H N P b) := by
  obtain ⟨k1, k2, k3⟩ := hh
  unfold F_X8_remember
  unfold jn
  dsimp only
  by_cases q : hK H = 8
  · rw [if_neg (fun z => z (by rw [k1, q]; rfl))]
    have key : ∃ t, loop (fun (s5 : Int32 × PH) =>
    if (8 : Int32) ≤ s5.1 then
     ((aidx 8 ((pu s5.2 122 12 ((s5.2.1 122 12) - (1 : Int32))).1 122 12)).bind fun j3 => (F_X8_copy (pu s5.2 122 12 ((s5.2.1 122 12) - (1 : Int32))) 124 (128 + 1 * j3)).bind fun h4 => some ((pu h4 122 12 ((h4.1 122 12) + (1 : Int32))))).map (Sum.inr (α := Int32 × PH))
    else
     (aidx 8 s5.1).bind fun j6 =>
     (aidx 8 (s5.1 - (1 : Int32))).bind fun j7 =>
     (F_X8_copy s5.2 (128 + 1 * j6) (128 + 1 * j7)).bind fun h8 =>
     some (.inl ((s5.1 + (1 : Int32)), h8))) ((1 : Int32), h) = some t ∧ (FrR h t ∧ RH t (hpush H N P b)) := by
      refine loop_ind0 (σ := Int32 × PH) (fun k s => s.1 = nI (k + 1) ∧ k ≤ 7 ∧ Fr S128 h s.2 ∧ (∀ i, i < k → ∀ j, j < 1556 → s.2.1 (128 + i) j = h.1 (128 + (i + 1)) j) ∧ (∀ i, k ≤ i → i < 8 → s.2.1 (128 + i) = h.1 (128 + i))) _ 7 ⟨rfl, Nat.zero_le _, Fr.refl _, fun i hi => absurd hi (Nat.not_lt_zero _), fun i _ _ => rfl⟩ ?_
      rintro k ⟨p1, p2⟩ ⟨e1, hk, fr, v1, v2⟩
      dsimp only at e1 fr v1 v2 ⊢
      subst e1
      rcases Nat.lt_or_ge k 7 with y | y
      · right
        obtain ⟨g, a1, a2, a3⟩ := r_copy (h := p2) (o := 128 + 1 * (k + 1)) (w := 128 + 1 * k) (by omega)
        rw [i8, if_neg (nI_ge (by omega) (by omega)), aidx_in (by omega) (by omega), Option.bind_some, nI_pred, aidx_in (by omega) (by omega), Option.bind_some, a1, Option.bind_some]
        refine ⟨y, _, rfl, nI_1 _, y, fr.trans (a2.mono (fun i hi => by unfold S128; omega)), fun i hi j hj => ?_, fun i h1 h2 => ?_⟩
        · dsimp only
          by_cases z : i = k
          · subst z
            have := a3 j hj
            rw [Nat.one_mul, Nat.one_mul] at this
            rw [this, v2 (i + 1) (by omega) (by omega)]
          · rw [(a2 _ (by omega)).1]
            exact v1 i (by omega) j hj
        · dsimp only
          rw [(a2 _ (by omega)).1]
          exact v2 i (by omega) h2
      · left
        obtain rfl : k = 7 := by omega
        have h12 : p2.1 122 12 = nI 8 := by rw [(fr 122 (by unfold S128; omega)).1, k1, q]
        have g12 : (pu p2 122 12 (p2.1 122 12 - (1 : Int32))).1 122 12 = nI 7 := by
          rw [pu_get, if_pos ⟨rfl, rfl⟩, h12]
          rfl
        obtain ⟨g, a1, a2, a3, a4, a5⟩ := r_rem1 (k := 7) (by omega) g12
        have oo : ∀ a, a ≠ 122 → (pu p2 122 12 (p2.1 122 12 - (1 : Int32))).1 a = p2.1 a := fun a ha => (pu_o _ _ _ _ a ha).1
        rw [if_pos (show (8 : Int32) ≤ nI (7 + 1) from Int32.le_refl _), a1]
        refine ⟨g, rfl, ((FrR.of fr).trans FrR.pu).trans a2, ?_, Nat.min_le_left _ _, fun i hi => ?_⟩
        · rw [a3]
          have : hK (hpush H N P b) = min 8 (hK H + 1) := rfl
          rw [this, q]
          rfl
        · have e8 : hK (hpush H N P b) = 8 := by
            have : hK (hpush H N P b) = min 8 (hK H + 1) := rfl
            rw [this, q]
            rfl
          rw [e8] at hi ⊢
          by_cases z : i = 0
          · subst z
            have : DA g (128 + 7) N P := hc.da.cp hN9 hp.1 (fun j hj => by rw [a4 j hj, oo 124 (by omega), (fr 124 (by unfold S128; omega)).1])
            exact this
          · have e1 : hN (hpush H N P b) i = hN H (i - 1) := if_neg z
            have e2 : hP (hpush H N P b) i = hP H (i - 1) := if_neg z
            rw [e1, e2]
            obtain ⟨w1, w2⟩ := hw (i - 1) (by omega)
            refine (k3 (i - 1) (by omega)).cp w1 w2.1 (fun j hj => ?_)
            rw [Nat.one_mul, Nat.one_mul, a5 _ (by omega) (by omega), oo _ (by omega), v1 _ (by omega) j hj, q]
            have : 128 + (8 - 1 - i + 1) = 128 + (8 - 1 - (i - 1)) := by omega
            rw [this]
    exact key
  · have hk : hK H < 8 := by omega
    rw [if_pos (fun z => q ((nI_eq (b := 8) (by omega) (by omega)).mp (by rw [← k1]; exact z)))]
    obtain ⟨g, a1, a2, a3, a4, a5⟩ := r_rem1 hk k1
    refine ⟨g, a1, a2, ?_, Nat.min_le_left _ _, fun i hi => ?_⟩
    · rw [a3]
      have : hK (hpush H N P b) = min 8 (hK H + 1) := rfl
      rw [this, Nat.min_eq_right (by omega)]
    · have e8 : hK (hpush H N P b) = hK H + 1 := Nat.min_eq_right (by omega)
      rw [e8] at hi ⊢
      by_cases z : i = 0
      · subst z
        have : DA g (128 + hK H) N P := hc.da.cp hN9 hp.1 a4
        have e9 : 128 + 1 * (hK H + 1 - 1 - 0) = 128 + hK H := by omega
        rw [e9]
        exact this
      · have e1 : hN (hpush H N P b) i = hN H (i - 1) := if_neg z
        have e2 : hP (hpush H N P b) i = hP H (i - 1) := if_neg z
        rw [e1, e2]
        obtain ⟨w1, w2⟩ := hw (i - 1) (by omega)
        refine (k3 (i - 1) (by omega)).same w1 w2.1 ?_
        have : 128 + 1 * (hK H + 1 - 1 - i) = 128 + (hK H - i) := by omega
        have e9 : 128 + 1 * (hK H - 1 - (i - 1)) = 128 + (hK H - i) := by omega
        rw [this, a5 _ (by omega) (by omega), e9]
end UND
