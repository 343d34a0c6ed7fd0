/-- the plan with the arc at place k of tour t turned round -/
def fplA (a : Nat → Nat) (k : Nat) : Nat → Nat := fun i => if i = k then wFl (a k) else a i
def fpl (P : PT) (t k : Nat) : PT := setT P t (pL P t) (fplA (pA P t) k)
section OPF
variable {h : PH} {N : NT} {P : PT} {H : HT}
theorem fplA_ins (a : Nat → Nat) (k : Nat) : fplA a k = insA (delA a k) k (wFl (a k)) := by
  funext i
  unfold fplA insA delA
  by_cases h1 : i < k
  · rw [if_neg (by omega), if_pos h1, if_pos h1]
  · rw [if_neg h1]
    by_cases h2 : i = k
    · rw [if_pos h2, if_pos h2]
    · rw [if_neg h2, if_neg h2, if_neg (by omega)]
      congr 1
      omega
theorem fplA_2 (a : Nat → Nat) (k : Nat) : fplA (fplA a k) k = a := by
  funext i
  unfold fplA
  by_cases h2 : i = k
  · rw [if_pos h2, if_pos rfl, wFl_fl, h2]
  · rw [if_neg h2, if_neg h2]
theorem fpl_L {t k u : Nat} : pL (fpl P t k) u = pL P u := by
  unfold fpl
  rw [setT_L]
  split
  · rename_i q; rw [q]
  · rfl
theorem fpl_A {t k u i : Nat} : pA (fpl P t k) u i = if u = t ∧ i = k then wFl (pA P t k) else pA P u i := by
  unfold fpl
  rw [setT_A]
  by_cases q : u = t
  · rw [if_pos q]
    unfold fplA
    by_cases q2 : i = k
    · rw [if_pos q2, if_pos ⟨q, q2⟩]
    · rw [if_neg q2, if_neg (fun z => q2 z.2), q]
  · rw [if_neg q, if_neg (fun z => q z.1)]
theorem fpl_2 (t k : Nat) : fpl (fpl P t k) t k = P := by
  unfold fpl
  rw [setT_L1, setT_A1, setT_setT, fplA_2, setT_id]
def wTurn (N : NT) (P : PT) (t k : Nat) : Bool := (lk N (pH P t) (pv (pA P t) k) (some (wFl (pA P t k)))).isSome && (lk N (pH P t) (some (wFl (pA P t k))) (nx (pA P t) (pL P t) (k + 1))).isSome
theorem turn_DV {t k : Nat} (hk : k < pL P t) (hd : DV N (pH P t) (pL P t) (pA P t)) : wTurn N P t k = true ↔ DV N (pH P t) (pL P t) (fplA (pA P t) k) := by
  have h1 := (dpl_DV hk hd).1
  obtain ⟨n, hn⟩ : ∃ n, pL P t = n + 1 := ⟨pL P t - 1, by omega⟩
  unfold wTurn
  rw [hn] at hk h1 ⊢
  have e2 : pv (delA (pA P t) k) k = pv (pA P t) k := by
    have := pv_ins1 (a := delA (pA P t) k) (k := k) (x := pA P t k) (j := k) (Nat.le_refl _)
    rw [ins_del] at this
    exact this.symm
  have e3 : nx (delA (pA P t) k) n k = nx (pA P t) (n + 1) (k + 1) := by
    have := nx_ins3 (a := delA (pA P t) k) (n := n) (k := k) (x := pA P t k) (j := k) (Nat.le_refl _)
    rw [ins_del] at this
    exact this.symm
  rw [fplA_ins, DV_ins (by omega : k ≤ n), e2, e3, Bool.and_eq_true, Option.isSome_iff_ne_none, Option.isSome_iff_ne_none]
  exact ⟨fun z => ⟨h1, z.1, z.2⟩, fun z => ⟨z.2.1, z.2.2⟩⟩
theorem fpl_WQ {t k : Nat} (hw : WQ N P) (ht : t < pT P) (hk : k < pL P t) : WQ N (fpl P t k) := by
  refine hw.set (hw.2 t ht).2.1 (fun i hi => ?_)
  unfold fplA
  split
  · exact wFl_lt ((hw.2 t ht).2.2 k hk)
  · exact (hw.2 t ht).2.2 i hi
theorem fpl_WP {t k : Nat} (hp : WP N P) (ht : t < pT P) (hk : k < pL P t) (hc : wTurn N P t k = true) : WP N (fpl P t k) := by
  refine ⟨fpl_WQ hp.1 ht hk, fun u i v j hu hi hv hj e => ?_, fun u hu => ?_⟩
  · rw [fpl_L] at hi hj
    have half : ∀ w l, pA (fpl P t k) w l / 2 = pA P w l / 2 := fun w l => by
      rw [fpl_A]
      split
      · rename_i q
        rw [wFl_div, q.1, q.2]
      · rfl
    rw [half, half] at e
    exact hp.2.1 u i v j hu hi hv hj e
  · rw [fpl_L]
    by_cases q : u = t
    · subst q
      have : pA (fpl P u k) u = fplA (pA P u) k := setT_A1 _ _ _ _
      rw [this]
      exact (turn_DV hk (hp.2.2 u ht)).mp hc
    · have : pA (fpl P t k) u = pA P u := setT_A2 P q
      rw [this]
      exact hp.2.2 u hu
theorem c_turn {t k : Nat} (hw : WQ N P) (hE : wE N ≤ 14) (hc : CP h 26 P) (ht : t < pT P) (hk : k < pL P t) : Fr S2829 h (F_X3_turnRound h (nI t) (nI k)) ∧ CP (F_X3_turnRound h (nI t) (nI k)) 26 (fpl P t k) := by
  have h4 := hw.1
  have h14 := (hw.2 t ht).2.1
  have hx := (hw.2 t ht).2.2 k hk
  unfold F_X3_turnRound
  rw [nI_14, at_in (by omega) (by omega), put_in (by omega) (by omega), (hc.2 t ht).2.2 k hk, wFl_xor (by omega)]
  refine ⟨Fr.pu (Or.inr rfl), ?_, fun u hu => ?_⟩
  · rw [(pu_o _ 29 _ _ 26 (by omega)).1]
    exact hc.1
  · have hu : u < pT P := hu
    obtain ⟨b1, b2, b3⟩ := hc.2 u hu
    rw [(pu_o _ 29 _ _ (26 + 1) (by omega)).1, (pu_o _ 29 _ _ (26 + 2) (by omega)).1, fpl_L]
    refine ⟨b1, b2, fun i hi => ?_⟩
    have h14u := (hw.2 u hu).2.1
    rw [pu_get, fpl_A]
    by_cases q : u = t ∧ i = k
    · rw [if_pos q, if_pos ⟨rfl, by rw [q.1, q.2]⟩]
    · rw [if_neg q, if_neg (fun z => q (by omega))]
      exact b3 i hi
theorem c_canTurn {t k : Nat} (hN9 : WN N) (hw : WQ N P) (hc : CA h N P) (ht : t < pT P) (hk : k < pL P t) : F_X4_canTurn h (nI t) (nI k) = if wTurn N P t k then (1 : Int32) else (0 : Int32) := by
  have hE := hN9.2.2.1
  have h14 := (hw.2 t ht).2.1
  have hx := (hw.2 t ht).2.2 k hk
  have ha : arcsOK N (pL P t) (pA P t) := (hw.2 t ht).2.2
  unfold F_X4_canTurn wTurn
  have e1 : F_X3_arcOrDepot h (nI t) (nI k) = nI (pA P t k) := by
    rw [c_nx hw hc.2.2 ht (by omega)]
    unfold nx
    rw [if_pos hk]
    rfl
  have e2 : nI (wFl (pA P t k)) = eA (some (wFl (pA P t k))) := rfl
  rw [c_pv hw hc.2.2 ht (by omega), e1, wFl_xor (by omega), nI_1, c_nx hw hc.2.2 ht (by omega), e2, c_link hN9 hw hc.2.1 hc.2.2 ht (fun x hx => pv_ok ha (by omega) hx) (fun x hx2 => by cases hx2; exact wFl_lt hx), c_link hN9 hw hc.2.1 hc.2.2 ht (fun x hx2 => by cases hx2; exact wFl_lt hx) (fun x hx => nx_ok ha hx), nI_add, iM]
  cases q : lk N (pH P t) (pv (pA P t) k) (some (wFl (pA P t k))) with
  | none =>
    have hb : en 100000000 (lk N (pH P t) (some (wFl (pA P t k))) (nx (pA P t) (pL P t) (k + 1))) ≤ 100000000 := en_le (fun w hw => by have := lk_le hN9 hw; exact this) (by omega)
    exact if_pos (nI_le (show 100000000 ≤ 100000000 + en 100000000 _ by omega) (show 100000000 + en 100000000 _ < 2 ^ 31 by omega))
  | some v =>
    have b1 := lk_le hN9 q
    cases q2 : lk N (pH P t) (some (wFl (pA P t k))) (nx (pA P t) (pL P t) (k + 1)) with
    | none => exact if_pos (nI_le (show 100000000 ≤ v + 100000000 by omega) (show v + 100000000 < 2 ^ 31 by omega))
    | some u =>
      have b2 := lk_le hN9 q2
      exact if_neg (nI_ge (show v + u < 100000000 by omega) (by omega))
end OPF
