/-! HISTORY -/
abbrev HT : Type := Nat × (Nat → NT) × (Nat → PT) × (Nat → Bool)
def hK (H : HT) : Nat := H.1
def hN (H : HT) (k : Nat) : NT := H.2.1 k
def hP (H : HT) (k : Nat) : PT := H.2.2.1 k
def hL (H : HT) (k : Nat) : Bool := H.2.2.2 k
def prevN (N : NT) (H : HT) (k : Nat) : NT := if k = 0 then N else hN H (k - 1)
def hslot (nx k : Nat) : Nat := (nx + 7 - k) % 8
/-- the class's ring -/
def CH (h : PH) (N : NT) (H : HT) : Prop := ∃ nx, nx < 8 ∧ h.1 30 3 = nI (hK H) ∧ hK H ≤ 8 ∧ h.1 30 4 = nI nx ∧ ∀ k, k < hK H →
  h.1 33 (hslot nx k) = (if hL H k then (1 : Int32) else (0 : Int32)) ∧ CP h (90 + 4 * hslot nx k) (hP H k) ∧ (hL H k = true → CN h (34 + 7 * hslot nx k) (hN H k)) ∧ (hL H k = false → hN H k = prevN N H k)
def HW (H : HT) : Prop := ∀ k, k < hK H → WN (hN H k) ∧ WP (hN H k) (hP H k)
def hpush (H : HT) (N : NT) (P : PT) (b : Bool) : HT := (min 8 (hK H + 1), fun k => if k = 0 then N else hN H (k - 1), fun k => if k = 0 then P else hP H (k - 1), fun k => if k = 0 then b else hL H (k - 1))
def hpop (H : HT) : HT := (hK H - 1, fun k => hN H (k + 1), fun k => hP H (k + 1), fun k => hL H (k + 1))
theorem HW.push {H : HT} {N : NT} {P : PT} {b : Bool} (h : HW H) (hN9 : WN N) (hp : WP N P) : HW (hpush H N P b) := by
  intro k hk
  have hk : k < min 8 (hK H + 1) := hk
  by_cases q : k = 0
  · subst q
    exact ⟨hN9, hp⟩
  · have e1 : hN (hpush H N P b) k = hN H (k - 1) := if_neg q
    have e2 : hP (hpush H N P b) k = hP H (k - 1) := if_neg q
    rw [e1, e2]
    exact h (k - 1) (by omega)
theorem HW.pop {H : HT} (h : HW H) : HW (hpop H) := fun k hk => h (k + 1) (by have hk : k < hK H - 1 := hk; omega)
section HIS
variable {h : PH} {N : NT} {P : PT} {H : HT}
theorem row_get (n : Nat) (g : PH) (src dst a k : Nat) : (F_X7_copyRow n g src dst).1 a k = if a = dst ∧ k < n then g.1 src k else g.1 a k := pcpy_get g src dst n a k
theorem row_fr {S : Nat → Prop} (n : Nat) (g : PH) (src dst : Nat) (hs : S dst) : Fr S g (F_X7_copyRow n g src dst) := Fr.cpy hs
def SNet (o a : Nat) : Prop := o ≤ a ∧ a ≤ o + 6
theorem c_cpN {o w : Nat} (hd : o + 6 < w ∨ w + 6 < o) (hN9 : WN N) (hc : CN h w N) : Fr (SNet o) h (F_X2_copyFrom h o w) ∧ CN (F_X2_copyFrom h o w) o N := by
  have hE := hN9.2.2.1
  have hD := hN9.2.2.2.1
  obtain ⟨c1, c2, c3, c4, c5, c6, c7⟩ := hc
  unfold F_X2_copyFrom
  generalize hg : pu (pu (pu (pu h o 0 (h.1 w 0)) o 1 ((pu h o 0 (h.1 w 0)).1 w 1)) o 2 ((pu (pu h o 0 (h.1 w 0)) o 1 ((pu h o 0 (h.1 w 0)).1 w 1)).1 w 2)) o 3 ((pu (pu (pu h o 0 (h.1 w 0)) o 1 ((pu h o 0 (h.1 w 0)).1 w 1)) o 2 ((pu (pu h o 0 (h.1 w 0)) o 1 ((pu h o 0 (h.1 w 0)).1 w 1)).1 w 2)).1 w 3) = g
  have fg : Fr (SNet o) h g := by
    rw [← hg]
    exact (((Fr.pu ⟨Nat.le_refl _, by omega⟩).trans (Fr.pu ⟨Nat.le_refl _, by omega⟩)).trans (Fr.pu ⟨Nat.le_refl _, by omega⟩)).trans (Fr.pu ⟨Nat.le_refl _, by omega⟩)
  have gw : ∀ i k, i < 7 → g.1 (w + i) k = h.1 (w + i) k := fun i k hi => by rw [(fg (w + i) (by unfold SNet; omega)).1]
  have g0 : g.1 o 0 = h.1 w 0 ∧ g.1 o 1 = h.1 w 1 ∧ g.1 o 2 = h.1 w 2 ∧ g.1 o 3 = h.1 w 3 := by
    rw [← hg]
    have e : ∀ (x : PH) (j : Nat) (v : Int32), (pu x o j v).1 w = x.1 w := fun x j v => (pu_o x o j v w (by omega)).1
    refine ⟨?_, ?_, ?_, ?_⟩
    · rw [pu_get, if_neg (by omega), pu_get, if_neg (by omega), pu_get, if_neg (by omega), pu_get, if_pos ⟨rfl, rfl⟩]
    · rw [pu_get, if_neg (by omega), pu_get, if_neg (by omega), pu_get, if_pos ⟨rfl, rfl⟩, e]
    · rw [pu_get, if_neg (by omega), pu_get, if_pos ⟨rfl, rfl⟩, e, e]
    · rw [pu_get, if_pos ⟨rfl, rfl⟩, e, e, e]
  clear hg
  refine ⟨(((((fg.trans (row_fr _ _ _ _ ⟨by omega, by omega⟩)).trans (row_fr _ _ _ _ ⟨by omega, by omega⟩)).trans (row_fr _ _ _ _ ⟨by omega, by omega⟩)).trans (row_fr _ _ _ _ ⟨by omega, by omega⟩)).trans (row_fr _ _ _ _ ⟨by omega, by omega⟩)).trans (row_fr _ _ _ _ ⟨by omega, by omega⟩), ?_⟩
  have cell0 : ∀ k, (F_X7_copyRow 3 (F_X7_copyRow 14 (F_X7_copyRow 28 (F_X7_copyRow 28 (F_X7_copyRow 28 (F_X7_copyRow 28 g (w + 1) (o + 1)) (w + 2) (o + 2)) (w + 3) (o + 3)) (w + 4) (o + 4)) (w + 5) (o + 5)) (w + 6) (o + 6)).1 o k = g.1 o k := fun k => by
    simp only [row_get]
    repeat rw [if_neg (by omega)]
  refine ⟨by rw [cell0, g0.1]; exact c1, by rw [cell0, g0.2.1]; exact c2, by rw [cell0, g0.2.2.1]; exact c3, by rw [cell0, g0.2.2.2]; exact c4, fun a ha => ⟨?_, ?_, ?_, ?_⟩, fun a ha => ?_, fun a ha => ?_⟩
  · rw [row_get, if_neg (by omega), row_get, if_neg (by omega), row_get, if_neg (by omega), row_get, if_neg (by omega), row_get, if_neg (by omega), row_get, if_pos ⟨rfl, by omega⟩, gw 1 a (by omega)]
    exact (c5 a ha).1
  · rw [row_get, if_neg (by omega), row_get, if_neg (by omega), row_get, if_neg (by omega), row_get, if_neg (by omega), row_get, if_pos ⟨rfl, by omega⟩, row_get, if_neg (by omega), gw 2 a (by omega)]
    exact (c5 a ha).2.1
  · rw [row_get, if_neg (by omega), row_get, if_neg (by omega), row_get, if_neg (by omega), row_get, if_pos ⟨rfl, by omega⟩, row_get, if_neg (by omega), row_get, if_neg (by omega), gw 3 a (by omega)]
    exact (c5 a ha).2.2.1
  · rw [row_get, if_neg (by omega), row_get, if_neg (by omega), row_get, if_pos ⟨rfl, by omega⟩, row_get, if_neg (by omega), row_get, if_neg (by omega), row_get, if_neg (by omega), gw 4 a (by omega)]
    exact (c5 a ha).2.2.2
  · rw [row_get, if_neg (by omega), row_get, if_pos ⟨rfl, by omega⟩, row_get, if_neg (by omega), row_get, if_neg (by omega), row_get, if_neg (by omega), row_get, if_neg (by omega), gw 5 a (by omega)]
    exact c6 a ha
  · rw [row_get, if_pos ⟨rfl, by omega⟩, row_get, if_neg (by omega), row_get, if_neg (by omega), row_get, if_neg (by omega), row_get, if_neg (by omega), row_get, if_neg (by omega), gw 6 a (by omega)]
    exact c7 a ha
def SPln (o a : Nat) : Prop := o ≤ a ∧ a ≤ o + 3
theorem c_cpP {o w : Nat} (hd : o + 3 < w ∨ w + 3 < o) (hw : WQ N P) (hc : CP h w P) : Fr (SPln o) h (F_X3_copyFrom h o w) ∧ CP (F_X3_copyFrom h o w) o P := by
  have h4 := hw.1
  unfold F_X3_copyFrom
  have fg : Fr (SPln o) h (pu h o 0 (h.1 w 0)) := Fr.pu ⟨Nat.le_refl _, by omega⟩
  have gw : ∀ i k, i < 4 → (pu h o 0 (h.1 w 0)).1 (w + i) k = h.1 (w + i) k := fun i k hi => by rw [(fg (w + i) (by unfold SPln; omega)).1]
  refine ⟨((fg.trans (row_fr _ _ _ _ ⟨by omega, by omega⟩)).trans (row_fr _ _ _ _ ⟨by omega, by omega⟩)).trans (row_fr _ _ _ _ ⟨by omega, by omega⟩), ?_, fun t ht => ⟨?_, ?_, fun k hk => ?_⟩⟩
  · rw [row_get, if_neg (by omega), row_get, if_neg (by omega), row_get, if_neg (by omega), pu_get, if_pos ⟨rfl, rfl⟩]
    exact hc.1
  · rw [row_get, if_neg (by omega), row_get, if_neg (by omega), row_get, if_pos ⟨rfl, by omega⟩, gw 1 t (by omega)]
    exact (hc.2 t ht).1
  · rw [row_get, if_neg (by omega), row_get, if_pos ⟨rfl, by omega⟩, row_get, if_neg (by omega), gw 2 t (by omega)]
    exact (hc.2 t ht).2.1
  · have h14 := (hw.2 t ht).2.1
    rw [row_get, if_pos ⟨rfl, by omega⟩, row_get, if_neg (by omega), row_get, if_neg (by omega), gw 3 _ (by omega)]
    exact (hc.2 t ht).2.2 k hk
theorem hslot_lt (nx k : Nat) : hslot nx k < 8 := Nat.mod_lt _ (by omega)
theorem c_ready {j : Nat} (hj : j < 8) : F_X1_isReady h (nI j) = some (1 : Int32) := by
  unfold F_X1_isReady
  rw [if_neg (nI_pos (by omega)), if_neg (show ¬ Int32.ofNat 8 ≤ nI j from nI_ge (b := 8) hj (by omega)), if_neg (show ¬ Int32.ofNat 8 ≤ nI j from nI_ge (b := 8) hj (by omega)), if_neg (show ¬ Int32.ofNat 8 ≤ nI j from nI_ge (b := 8) hj (by omega)), aidx_in (by omega) hj]
  rfl
/-- things that the class's history writes -/
def S30 (a : Nat) : Prop := a = 30 ∨ a = 33 ∨ (34 ≤ a ∧ a ≤ 121)
theorem mod8 {a : Nat} (h : a < 100) : nI a - nI a / (8 : Int32) * (8 : Int32) = nI (a % 8) := by
  rw [i8]
  exact nI_mod (by omega) (by omega) (by omega)
theorem c_remember {b : Bool} (hN9 : WN N) (hp : WP N P) (hn : CN h 14 N) (hc : CP h 26 P) (hw : HW H) (hh : CH h N H) : ∃ h', F_X1_remember h (if b then (1 : Int32) else (0 : Int32)) = some h' ∧ Fr S30 h h' ∧ CH h' N (hpush H N P b) := by
  obtain ⟨nx, hx, k1, k2, k3, k4⟩ := hh
  have s0 : ∀ k, k < 8 → hslot ((nx + 1) % 8) k = if k = 0 then nx else hslot nx (k - 1) := fun k hk => by
    unfold hslot
    split <;> omega
  have sne : ∀ k, k < 7 → hslot nx k ≠ nx := fun k hk => by unfold hslot; omega
  unfold F_X1_remember
  rw [k3, c_ready hx, Option.bind_some, if_pos (by decide)]
  have eb : vp_nar .boolean (if b then (1 : Int32) else (0 : Int32)) = if b then (1 : Int32) else (0 : Int32) := by cases b <;> rfl
  rw [eb, ast_in (by omega) hx, Option.bind_some]
  unfold jn
  dsimp only
  generalize hg1 : pu h 33 nx (if b then (1 : Int32) else (0 : Int32)) = g1
  have f1 : Fr S30 h g1 := by rw [← hg1]; exact Fr.pu (Or.inr (Or.inl rfl))
  have e33 : ∀ k, g1.1 33 k = if k = nx then (if b then (1 : Int32) else (0 : Int32)) else h.1 33 k := fun k => by
    rw [← hg1, pu_get]
    by_cases z : k = nx
    · rw [if_pos ⟨rfl, z⟩, if_pos z]
    · rw [if_neg (fun y => z y.2), if_neg z]
  have eo : ∀ a, a ≠ 33 → g1.1 a = h.1 a := fun a ha => by rw [← hg1]; exact (pu_o h 33 _ _ a ha).1
  have n1 : CN g1 14 N := hn.same (fun j hj => eo _ (by omega))
  have p1 : CP g1 26 P := hc.same (fun j hj => eo _ (by omega))
  -- the heap behind the network's copy
  obtain ⟨g2, e2, f2, h2a, h2b⟩ : ∃ g2, (if (if b then (1 : Int32) else (0 : Int32)) = 0 then some g1 else (aidx 8 (g1.1 30 4)).bind fun j6 => some (F_X2_copyFrom g1 (34 + 7 * j6) 14)) = some g2 ∧ Fr (SNet (34 + 7 * nx)) g1 g2 ∧ (b = true → CN g2 (34 + 7 * nx) N) ∧ g2.1 33 = g1.1 33 := by
    cases b with
    | false =>
      refine ⟨g1, if_pos rfl, Fr.refl _, fun z => (by cases z), rfl⟩
    | true =>
      obtain ⟨a1, a2⟩ := c_cpN (o := 34 + 7 * nx) (w := 14) (Or.inr (by omega)) hN9 n1
      refine ⟨F_X2_copyFrom g1 (34 + 7 * nx) 14, ?_, a1, fun _ => a2, (a1 33 (by unfold SNet; omega)).1⟩
      rw [if_neg (by decide), eo 30 (by omega), k3, aidx_in (by omega) hx]
      rfl
  have p2 : CP g2 26 P := p1.fr f2 (fun j hj => by unfold SNet; omega)
  have e30 : g2.1 30 = h.1 30 := by rw [(f2 30 (by unfold SNet; omega)).1, eo 30 (by omega)]
  have key : ∃ h', ((aidx 8 (g2.1 30 4)).bind fun j5 => some (pu (pu (F_X3_copyFrom g2 (90 + 4 * j5) 26) 30 4 ((((F_X3_copyFrom g2 (90 + 4 * j5) 26).1 30 4) + (1 : Int32)) - (((F_X3_copyFrom g2 (90 + 4 * j5) 26).1 30 4) + (1 : Int32)) / (8 : Int32) * (8 : Int32))) 30 3 (if (8 : Int32) < (((pu (F_X3_copyFrom g2 (90 + 4 * j5) 26) 30 4 ((((F_X3_copyFrom g2 (90 + 4 * j5) 26).1 30 4) + (1 : Int32)) - (((F_X3_copyFrom g2 (90 + 4 * j5) 26).1 30 4) + (1 : Int32)) / (8 : Int32) * (8 : Int32))).1 30 3) + (1 : Int32)) then (8 : Int32) else (((pu (F_X3_copyFrom g2 (90 + 4 * j5) 26) 30 4 ((((F_X3_copyFrom g2 (90 + 4 * j5) 26).1 30 4) + (1 : Int32)) - (((F_X3_copyFrom g2 (90 + 4 * j5) 26).1 30 4) + (1 : Int32)) / (8 : Int32) * (8 : Int32))).1 30 3) + (1 : Int32))))) = some h' ∧ Fr S30 h h' ∧ CH h' N (hpush H N P b) := by
    rw [e30, k3, aidx_in (by omega) hx, Option.bind_some]
    obtain ⟨a1, a2⟩ := c_cpP (o := 90 + 4 * nx) (w := 26) (Or.inr (by omega)) hp.1 p2
    generalize F_X3_copyFrom g2 (90 + 4 * nx) 26 = g3 at a1 a2
    have e3 : g3.1 30 = h.1 30 := by rw [(a1 30 (by unfold SPln; omega)).1, e30]
    rw [e3, k3, nI_1 nx, mod8 (by omega)]
    have e4 : (pu g3 30 4 (nI ((nx + 1) % 8))).1 30 3 = nI (hK H) := by rw [pu_get, if_neg (by omega), e3, k1]
    rw [e4, nI_1]
    have e5 : (if (8 : Int32) < nI (hK H + 1) then (8 : Int32) else nI (hK H + 1)) = nI (min 8 (hK H + 1)) := by
      by_cases z : hK H + 1 ≤ 8
      · rw [if_neg (show ¬ (8 : Int32) < nI (hK H + 1) from nI_nlt (a := 8) z (by omega)), Nat.min_eq_right z]
      · rw [if_pos (show (8 : Int32) < nI (hK H + 1) from nI_lt (a := 8) (by omega) (by omega)), Nat.min_eq_left (by omega)]
        rfl
    rw [e5]
    have f3 : Fr S30 h g3 := (f1.trans (f2.mono (fun i hi => by unfold SNet at hi; unfold S30; omega))).trans (a1.mono (fun i hi => by unfold SPln at hi; unfold S30; omega))
    refine ⟨_, rfl, (f3.trans (Fr.pu (Or.inl rfl))).trans (Fr.pu (Or.inl rfl)), (nx + 1) % 8, Nat.mod_lt _ (by omega), ?_, Nat.min_le_left _ _, ?_, fun k hk => ?_⟩
    · rw [pu_get, if_pos ⟨rfl, rfl⟩]
      rfl
    · rw [pu_get, if_neg (by omega), pu_get, if_pos ⟨rfl, rfl⟩]
    · have hk : k < min 8 (hK H + 1) := hk
      rw [s0 k (by omega)]
      have oo : ∀ a, a ≠ 30 → (pu (pu g3 30 4 (nI ((nx + 1) % 8))) 30 3 (nI (min 8 (hK H + 1)))).1 a = g3.1 a := fun a ha => by rw [(pu_o _ 30 _ _ a ha).1, (pu_o _ 30 _ _ a ha).1]
      by_cases q : k = 0
      · subst q
        rw [if_pos rfl]
        refine ⟨?_, a2.same (fun j hj => oo _ (by omega)), fun z => ?_, fun z => ?_⟩
        · rw [oo 33 (by omega), (a1 33 (by unfold SPln; omega)).1, h2b, e33, if_pos rfl]
          rfl
        · have z : b = true := z
          refine CN.same (h := g2) (h2a z) (fun j hj => ?_)
          rw [oo _ (by omega), (a1 _ (by unfold SPln; omega)).1]
        · rfl
      · rw [if_neg q]
        have hs := hslot_lt nx (k - 1)
        have hne := sne (k - 1) (by omega)
        obtain ⟨d1, d2, d3, d4⟩ := k4 (k - 1) (by omega)
        have l1 : hL (hpush H N P b) k = hL H (k - 1) := if_neg q
        have l2 : hN (hpush H N P b) k = hN H (k - 1) := if_neg q
        have l3 : hP (hpush H N P b) k = hP H (k - 1) := if_neg q
        rw [l1, l2, l3]
        refine ⟨?_, d2.same (fun j hj => ?_), fun z => (d3 z).same (fun j hj => ?_), fun z => ?_⟩
        · rw [oo 33 (by omega), (a1 33 (by unfold SPln; omega)).1, h2b, e33, if_neg hne]
          exact d1
        · rw [oo _ (by omega), (a1 _ (by unfold SPln; omega)).1, (f2 _ (by unfold SNet; omega)).1, eo _ (by omega)]
        · rw [oo _ (by omega), (a1 _ (by unfold SPln; omega)).1, (f2 _ (by unfold SNet; omega)).1, eo _ (by omega)]
        · rw [d4 z]
          unfold prevN
          rw [if_neg q]
          by_cases y : k = 1
          · subst y
            rfl
          · have : hN (hpush H N P b) (k - 1) = hN H (k - 1 - 1) := if_neg (by omega)
            rw [if_neg (by omega), this]
  obtain ⟨h', e9, f9⟩ := key
  refine ⟨h', ?_, f9⟩
  have e2' := e2
  by_cases qb : (if b then (1 : Int32) else (0 : Int32)) = 0
  · rw [if_pos qb] at e2 ⊢
    cases e2
    exact e9
  · rw [if_neg qb] at e2 ⊢
    cases ha : aidx 8 (g1.1 30 4) with
    | none => rw [ha] at e2; cases e2
    | some j6 =>
      rw [ha, Option.bind_some] at e2
      cases e2
      rw [Option.bind_some]
      exact e9
end HIS
