/-! TOURS OF THE REFERENCE; loads; what waits -/
def S165 (a : Nat) : Prop := a = 165
def wLd (N : NT) (P : PT) (t : Nat) : Nat := sumN (fun k => wDe N (pA P t k / 2)) (pL P t)
/-- an edge with a demand that no tour serves -/
def wWt (N : NT) (P : PT) (e : Nat) : Bool := decide (0 < wDe N e) && (wTour P e).isNone
def DVs (N : NT) (P : PT) : Prop := ∀ t, t < pT P → DV N (pH P t) (pL P t) (pA P t)
def wTC (N : NT) (P : PT) (t : Nat) : Nat := CK 0 N (pH P t) (pL P t) (pA P t)
def wTot (N : NT) (P : PT) : Nat := sumN (wTC N P) (pT P)
theorem wTC_le {N : NT} {P : PT} {t : Nat} (hN : WN N) (hw : WQ N P) (hd : DVs N P) (ht : t < pT P) : wTC N P t ≤ 183051 := CK_dvle hN (hw.2 t ht).2.1 (hw.2 t ht).2.2 (hd t ht)
section RTU
variable {h : PH} {N : NT} {P : PT}
theorem c_demand {e : Nat} (hN : WN N) (hc : CN h 14 N) (he : e < wE N) : F_X7_at 14 h 19 (nI e) = nI (wDe N e) := by
  have hE := hN.2.2.1
  rw [at_in (by omega) (by omega)]
  exact hc.2.2.2.2.2.1 e he
theorem c_load {t : Nat} (hN : WN N) (hw : WQ N P) (hc : CN h 14 N) (hp : CP h 26 P) (ht : t < pT P) : F_X4_demandIn h (nI t) = some (nI (wLd N P t)) := by
  have h14 := (hw.2 t ht).2.1
  have hE := hN.2.2.1
  unfold F_X4_demandIn
  refine loop_to (fun k => (nI (sumN (fun k => wDe N (pA P t k / 2)) k), nI k)) (pL P t) rfl (fun k hk => ?_) ?_
  · have ha := (hw.2 t ht).2.2 k hk
    dsimp only
    rw [c_size hp ht hw.1, if_neg (nI_ge hk (by omega)), c_nx hw hp ht (by omega), nx_lt hk]
    show some (Sum.inl (nI _ + F_X7_at 14 h 19 (nI (pA P t k) / (2 : Int32)), nI k + (1 : Int32))) = _
    rw [r_half (by omega), c_demand hN hc (by omega), nI_add, nI_1]
    rfl
  · dsimp only
    rw [c_size hp ht hw.1]
    exact if_pos (nI_le (Nat.le_refl _) (by omega))
theorem wLd_le {t : Nat} (hN : WN N) (hw : WQ N P) (ht : t < pT P) : wLd N P t ≤ 1386 := by
  have h14 := (hw.2 t ht).2.1
  have h1 := sumN_le (f := fun k => wDe N (pA P t k / 2)) (B := 99) (k := pL P t) (fun j hj => hN.2.2.2.2.2.1 _ (by have := (hw.2 t ht).2.2 j hj; omega))
  unfold wLd
  omega
theorem c_room {t e : Nat} (hN : WN N) (hw : WQ N P) (hc : CN h 14 N) (hp : CP h 26 P) (ht : t < pT P) (he : e < wE N) : F_X4_hasRoom h (nI t) (nI e) = some (if wC N < wLd N P t + wDe N e then (0 : Int32) else (1 : Int32)) := by
  have h1 := wLd_le hN hw ht
  have h2 := hN.2.2.2.2.2.1 e he
  have h3 := hN.2.1
  unfold F_X4_hasRoom
  rw [c_load hN hw hc hp ht]
  simp only [Option.bind_some]
  rw [c_demand hN hc he, hc.2.1, nI_add]
  by_cases q : wC N < wLd N P t + wDe N e
  · rw [if_pos (nI_lt q (by omega)), if_pos q]
  · rw [if_neg (nI_nlt (by omega) (by omega)), if_neg q]
theorem c_wait {e : Nat} (hN : WN N) (hw : WQ N P) (hc : CN h 14 N) (hp : CP h 26 P) (he : e < wE N) : F_X4_isWaiting h (nI e) = some (if wWt N P e then (1 : Int32) else (0 : Int32)) := by
  have hE := hN.2.2.1
  have h2 := hN.2.2.2.2.2.1 e he
  unfold F_X4_isWaiting wWt
  rw [c_demand hN hc he]
  by_cases q : 0 < wDe N e
  · rw [if_neg (nI_nle q (by omega)), c_tour hN hw hp (by omega)]
    simp only [Option.bind_some]
    cases z : wTour P e with
    | none =>
      rw [if_neg (fun y => y rfl)]
      simp [q]
    | some t =>
      have ht := (wTour_lt z).1
      have h4 := hw.1
      rw [if_pos (show ¬ eA (some t) = (-1 : Int32) from eA_ne (by omega))]
      simp
  · have q0 : wDe N e = 0 := by omega
    rw [q0, if_pos (show nI 0 ≤ 0 from Int32.le_refl _)]
    simp
def wUn (N : NT) (P : PT) : Nat := cnt (wWt N P) (wE N)
theorem c_unserved (hN : WN N) (hw : WQ N P) (hc : CN h 14 N) (hp : CP h 26 P) : F_X7_unserved h = some (nI (wUn N P)) := by
  have hE := hN.2.2.1
  unfold F_X7_unserved
  refine loop_to (fun k => (nI (cnt (wWt N P) k), nI k)) (wE N) rfl (fun k hk => ?_) ?_
  · dsimp only
    rw [hc.2.2.1, if_neg (nI_ge hk (by omega)), c_wait hN hw hc hp hk]
    simp only [Option.bind_some]
    rw [cnt_s]
    by_cases q : wWt N P k = true
    · rw [if_pos q, if_neg (by decide), if_pos q, nI_1, nI_1]
    · rw [if_neg q, if_pos rfl, if_neg q, nI_1]
      rfl
  · dsimp only
    rw [hc.2.2.1]
    exact if_pos (nI_le (Nat.le_refl _) (by omega))
theorem c_tourCost {t : Nat} (hN : WN N) (hw : WQ N P) (hd : DVs N P) (hn : CN h 14 N) (hr : CRt h N) (hc : CP h 26 P) (ht : t < pT P) : F_X4_costOf h (nI t) = some (nI (wTC N P t)) := by
  rw [c_costOf hN hw hn hr hc ht, CK_dv (K' := 0) (hd t ht)]
  rfl
theorem c_total (hN : WN N) (hw : WQ N P) (hd : DVs N P) (hn : CN h 14 N) (hr : CRt h N) (hc : CP h 26 P) : F_X7_totalCost h = some (nI (wTot N P)) := by
  have h4 := hw.1
  unfold F_X7_totalCost
  refine loop_to (fun k => (nI (sumN (wTC N P) k), nI k)) (pT P) rfl (fun k hk => ?_) ?_
  · dsimp only
    rw [hc.1, if_neg (nI_ge hk (by omega)), c_tourCost hN hw hd hn hr hc hk]
    simp only [Option.bind_some]
    rw [nI_add, nI_1]
    rfl
  · dsimp only
    rw [hc.1]
    exact if_pos (nI_le (Nat.le_refl _) (by omega))
end RTU
