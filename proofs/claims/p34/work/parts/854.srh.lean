/-! AN ARC MORE: costs, and the search for the best place -/
theorem sum_ins {f g : Nat → Nat} {k : Nat} : ∀ {n : Nat}, k ≤ n → (∀ j, j < k → g j = f j) → (∀ j, k < j → j ≤ n → g (j + 1) = f j) → sumN g (n + 2) + f k = sumN f (n + 1) + g k + g (k + 1)
  | 0, hk, h1, h2 => by
    obtain rfl : k = 0 := by omega
    show 0 + g 0 + g 1 + f 0 = 0 + f 0 + g 0 + g 1
    omega
  | n + 1, hk, h1, h2 => by
    by_cases q : k = n + 1
    · subst q
      have e1 : sumN g (n + 1) = sumN f (n + 1) := sumN_ag (fun j hj => h1 j hj)
      show sumN g (n + 1) + g (n + 1) + g (n + 1 + 1) + f (n + 1) = sumN f (n + 1) + f (n + 1) + g (n + 1) + g (n + 1 + 1)
      rw [e1]
      omega
    · have ih := sum_ins (f := f) (g := g) (k := k) (n := n) (by omega) h1 (fun j hj1 hj2 => h2 j hj1 (by omega))
      have e2 := h2 (n + 1) (by omega) (by omega)
      show sumN g (n + 2) + g (n + 2) + f k = sumN f (n + 1) + f (n + 1) + g k + g (k + 1)
      have e3 : g (n + 2) = f (n + 1) := e2
      rw [e3]
      omega
theorem sum_ins1 {f g : Nat → Nat} {k : Nat} : ∀ {n : Nat}, k ≤ n → (∀ j, j < k → g j = f j) → (∀ j, k ≤ j → j < n → g (j + 1) = f j) → sumN g (n + 1) = sumN f n + g k
  | 0, hk, h1, h2 => by
    obtain rfl : k = 0 := by omega
    rfl
  | n + 1, hk, h1, h2 => by
    by_cases q : k = n + 1
    · subst q
      have e1 : sumN g (n + 1) = sumN f (n + 1) := sumN_ag (fun j hj => h1 j hj)
      show sumN g (n + 1) + g (n + 1) = sumN f (n + 1) + g (n + 1)
      rw [e1]
    · have ih := sum_ins1 (f := f) (g := g) (k := k) (n := n) (by omega) h1 (fun j hj1 hj2 => h2 j hj1 (by omega))
      have e2 := h2 n (by omega) (by omega)
      show sumN g (n + 1) + g (n + 1) = sumN f n + f n + g k
      rw [e2]
      omega
theorem pv_ins1 {a : Nat → Nat} {k x j : Nat} (h : j ≤ k) : pv (insA a k x) j = pv a j := by
  unfold pv insA
  by_cases q : j = 0
  · rw [if_pos q, if_pos q]
  · rw [if_neg q, if_neg q, if_pos (by omega)]
theorem pv_ins2 {a : Nat → Nat} {k x : Nat} : pv (insA a k x) (k + 1) = some x := by
  rw [pv_s]
  unfold insA
  rw [if_neg (by omega), if_pos rfl]
theorem pv_ins3 {a : Nat → Nat} {k x j : Nat} (h : k < j) : pv (insA a k x) (j + 1) = pv a j := by
  rw [pv_s]
  unfold insA pv
  rw [if_neg (by omega), if_neg (by omega), if_neg (by omega)]
theorem nx_ins1 {a : Nat → Nat} {n k x j : Nat} (h : j < k) (hk : k ≤ n) : nx (insA a k x) (n + 1) j = nx a n j := by
  rw [nx_lt (by omega), nx_lt (by omega)]
  unfold insA
  rw [if_pos h]
theorem nx_ins2 {a : Nat → Nat} {n k x : Nat} (hk : k ≤ n) : nx (insA a k x) (n + 1) k = some x := by
  rw [nx_lt (by omega)]
  unfold insA
  rw [if_neg (by omega), if_pos rfl]
theorem nx_ins3 {a : Nat → Nat} {n k x j : Nat} (h : k ≤ j) : nx (insA a k x) (n + 1) (j + 1) = nx a n j := by
  unfold nx insA
  by_cases q : j < n
  · rw [if_pos (by omega), if_pos q, if_neg (by omega), if_neg (by omega)]
    rfl
  · rw [if_neg (by omega), if_neg q]
section SRH
variable {N : NT}
theorem CK_ins {K home n k x : Nat} {a : Nat → Nat} (hk : k ≤ n) : CK K N home (n + 1) (insA a k x) + en K (lk N home (pv a k) (nx a n k)) = CK K N home n a + en K (lk N home (pv a k) (some x)) + en K (lk N home (some x) (nx a n k)) + wSv N x := by
  have h1 := sum_ins (f := cL K N home n a) (g := cL K N home (n + 1) (insA a k x)) hk (fun j hj => by unfold cL; rw [pv_ins1 (by omega), nx_ins1 hj hk]) (fun j hj1 hj2 => by unfold cL; rw [pv_ins3 hj1, nx_ins3 (by omega)])
  have h2 := sum_ins1 (f := fun j => wSv N (a j)) (g := fun j => wSv N (insA a k x j)) hk (fun j hj => by unfold insA; rw [if_pos hj]) (fun j hj1 hj2 => by unfold insA; rw [if_neg (by omega), if_neg (by omega)]; rfl)
  have h3 : wSv N (insA a k x k) = wSv N x := by
    unfold insA
    rw [if_neg (by omega), if_pos rfl]
  have h4 : cL K N home (n + 1) (insA a k x) k = en K (lk N home (pv a k) (some x)) := by unfold cL; rw [pv_ins1 (Nat.le_refl _), nx_ins2 hk]
  have h5 : cL K N home (n + 1) (insA a k x) (k + 1) = en K (lk N home (some x) (nx a n k)) := by unfold cL; rw [pv_ins2, nx_ins3 (Nat.le_refl _)]
  have h6 : cL K N home n a k = en K (lk N home (pv a k) (nx a n k)) := rfl
  rw [h3] at h2
  rw [h4, h5, h6] at h1
  have g1 : CK K N home (n + 1) (insA a k x) = sumN (cL K N home (n + 1) (insA a k x)) (n + 2) + sumN (fun j => wSv N (insA a k x j)) (n + 1) := rfl
  have g2 : CK K N home n a = sumN (cL K N home n a) (n + 1) + sumN (fun j => wSv N (a j)) n := rfl
  omega
def okX (N : NT) (home n : Nat) (a : Nat → Nat) (k : Nat) : Prop := ∀ j, j ≤ n → j ≠ k → lk N home (pv a j) (nx a n j) ≠ none
theorem DV_iff {home n k : Nat} {a : Nat → Nat} (hk : k ≤ n) : DV N home n a ↔ okX N home n a k ∧ lk N home (pv a k) (nx a n k) ≠ none := by
  constructor
  · exact fun h => ⟨fun j hj _ => h j hj, h k hk⟩
  · intro ⟨h1, h2⟩ j hj
    by_cases q : j = k
    · rw [q]; exact h2
    · exact h1 j hj q
theorem DV_ins {home n k x : Nat} {a : Nat → Nat} (hk : k ≤ n) : DV N home (n + 1) (insA a k x) ↔ okX N home n a k ∧ lk N home (pv a k) (some x) ≠ none ∧ lk N home (some x) (nx a n k) ≠ none := by
  constructor
  · intro h
    refine ⟨fun j hj hne => ?_, ?_, ?_⟩
    · rcases Nat.lt_or_ge j k with q | q
      · have := h j (by omega)
        rw [pv_ins1 (by omega), nx_ins1 q hk] at this
        exact this
      · have := h (j + 1) (by omega)
        rw [pv_ins3 (by omega), nx_ins3 (by omega)] at this
        exact this
    · have := h k (by omega)
      rw [pv_ins1 (Nat.le_refl _), nx_ins2 hk] at this
      exact this
    · have := h (k + 1) (by omega)
      rw [pv_ins2, nx_ins3 (Nat.le_refl _)] at this
      exact this
  · intro ⟨h1, h2, h3⟩ j hj
    rcases Nat.lt_trichotomy j k with q | q | q
    · rw [pv_ins1 (by omega), nx_ins1 q hk]
      exact h1 j (by omega) (by omega)
    · rw [q, pv_ins1 (Nat.le_refl _), nx_ins2 hk]
      exact h2
    · by_cases q2 : j = k + 1
      · rw [q2, pv_ins2, nx_ins3 (Nat.le_refl _)]
        exact h3
      · obtain ⟨i, rfl⟩ : ∃ i, j = i + 1 := ⟨j - 1, by omega⟩
        rw [pv_ins3 (by omega), nx_ins3 (by omega)]
        exact h1 i (by omega) (by omega)
def wRoom (N : NT) (P : PT) (t e : Nat) : Bool := decide (wLd N P t + wDe N e ≤ wC N)
def wCand (N : NT) (P : PT) (t k x : Nat) : Bool := (lk N (pH P t) (pv (pA P t) k) (some x)).isSome && (lk N (pH P t) (some x) (nx (pA P t) (pL P t) k)).isSome
/-- by how much the tour's cost grows -/
def wInc (N : NT) (P : PT) (t k x : Nat) : Int := (CK 0 N (pH P t) (pL P t + 1) (insA (pA P t) k x) : Int) - (wTC N P t : Int)
theorem cand_DV {P : PT} {t k x : Nat} (hd : DV N (pH P t) (pL P t) (pA P t)) (hk : k ≤ pL P t) : wCand N P t k x = true ↔ DV N (pH P t) (pL P t + 1) (insA (pA P t) k x) := by
  rw [DV_ins hk]
  unfold wCand
  rw [Bool.and_eq_true, Option.isSome_iff_ne_none, Option.isSome_iff_ne_none]
  exact ⟨fun h => ⟨((DV_iff hk).mp hd).1, h.1, h.2⟩, fun h => ⟨h.2.1, h.2.2⟩⟩
theorem inc_bnd {P : PT} {t k x : Nat} (hN : WN N) (hw : WQ N P) (hd : DVs N P) (ht : t < pT P) (hk : k ≤ pL P t) (h13 : pL P t ≤ 13) (hx : x < 2 * wE N) (hc : wCand N P t k x = true) : -200000 ≤ wInc N P t k x ∧ wInc N P t k x ≤ 200000 := by
  have h1 := wTC_le hN hw hd ht
  have h2 := CK_dvle (K := 0) hN (by omega) (ins_ok (hw.2 t ht).2.2 hx hk) ((cand_DV (hd t ht) hk).mp hc)
  unfold wInc
  omega
theorem en_eq {K : Nat} {o : Option Nat} (h : o ≠ none) : en K o = en 0 o := by
  cases o with
  | none => exact absurd rfl h
  | some v => rfl
theorem c_incr {h : PH} {P : PT} {t k x : Nat} (hN : WN N) (hw : WQ N P) (hr : CRt h N) (hn : CN h 14 N) (hc : CP h 26 P) (ht : t < pT P) (hk : k ≤ pL P t) (hx : x < 2 * wE N) (hd : DV N (pH P t) (pL P t) (pA P t)) : F_X4_increaseBy h (nI t) (nI k) (nI x) = if wCand N P t k x then zi (wInc N P t k x) else nI 100000000 := by
  have hE := hN.2.2.1
  obtain ⟨hh, h14, ha⟩ := hw.2 t ht
  have ha : arcsOK N (pL P t) (pA P t) := ha
  have fx : ∀ y, some x = some y → y < 2 * wE N := fun y hy => by cases hy; exact hx
  have f1 : ∀ y, pv (pA P t) k = some y → y < 2 * wE N := fun y hy => pv_ok ha hk hy
  have f2 : ∀ y, nx (pA P t) (pL P t) k = some y → y < 2 * wE N := fun y hy => nx_ok ha hy
  have e1 := c_link hN hw hr hc ht f1 fx
  have e2 := c_link hN hw hr hc ht fx f2
  have e3 := c_link hN hw hr hc ht f1 f2
  unfold F_X4_increaseBy
  rw [c_pv hw hc ht hk, c_nx hw hc ht (by omega)]
  have ex : nI x = eA (some x) := rfl
  rw [ex, e1, e2, e3, nI_add, ← ex, c_serv hN hn hx]
  have b3 : lk N (pH P t) (pv (pA P t) k) (nx (pA P t) (pL P t) k) ≠ none := ((DV_iff hk).mp hd).2
  have l1 : en 100000000 (lk N (pH P t) (pv (pA P t) k) (some x)) ≤ 100000000 := en_le (fun v hv => lk_le hN hv) (by omega)
  have l2 : en 100000000 (lk N (pH P t) (some x) (nx (pA P t) (pL P t) k)) ≤ 100000000 := en_le (fun v hv => lk_le hN hv) (by omega)
  have l3 : en 0 (lk N (pH P t) (pv (pA P t) k) (nx (pA P t) (pL P t) k)) ≤ 2871 := by
    cases hq : lk N (pH P t) (pv (pA P t) k) (nx (pA P t) (pL P t) k) with
    | none => exact absurd hq b3
    | some v => exact lk_le hN hq
  have hs : wSv N x ≤ 9999 := (hN.2.2.2.2.1 x hx).2.2.2.1
  by_cases q : wCand N P t k x = true
  · have q2 := q
    unfold wCand at q2
    rw [Bool.and_eq_true, Option.isSome_iff_ne_none, Option.isSome_iff_ne_none] at q2
    have g1 : en 0 (lk N (pH P t) (pv (pA P t) k) (some x)) ≤ 2871 := by
      cases hq : lk N (pH P t) (pv (pA P t) k) (some x) with
      | none => exact absurd hq q2.1
      | some v => exact lk_le hN hq
    have g2 : en 0 (lk N (pH P t) (some x) (nx (pA P t) (pL P t) k)) ≤ 2871 := by
      cases hq : lk N (pH P t) (some x) (nx (pA P t) (pL P t) k) with
      | none => exact absurd hq q2.2
      | some v => exact lk_le hN hq
    rw [if_pos q, en_eq q2.1, en_eq q2.2, en_eq b3, iM, if_pos (nI_lt (by omega) (by omega)), nI_add, nI_zi, nI_zi, zi_sub]
    have hm := CK_ins (K := 0) (N := N) (home := pH P t) (n := pL P t) (k := k) (x := x) (a := pA P t) hk
    congr 1
    unfold wInc wTC
    omega
  · rw [if_neg q, iM, if_neg (nI_nlt ?_ (by omega))]
    rw [Bool.not_eq_true] at q
    unfold wCand at q
    rw [Bool.and_eq_false_iff] at q
    rcases q with q | q
    · rw [Option.isSome_eq_false_iff, Option.isNone_iff_eq_none] at q
      rw [q]
      show 100000000 ≤ 100000000 + _
      omega
    · rw [Option.isSome_eq_false_iff, Option.isNone_iff_eq_none] at q
      rw [q]
      show 100000000 ≤ _ + 100000000
      omega
/-! the search: tour by tour, place by place, side by side -/
def cdB (N : NT) (P : PT) (e t k s : Nat) : Bool := wRoom N P t e && wCand N P t k (2 * e + s)
def stepB (N : NT) (P : PT) (e : Nat) (st : Option (Nat × Int)) (t k s : Nat) : Option (Nat × Int) :=
  if cdB N P e t k s then (match st with
    | none => some (1000 * t + 10 * k + s, wInc N P t k (2 * e + s))
    | some (c, w) => if wInc N P t k (2 * e + s) < w then some (1000 * t + 10 * k + s, wInc N P t k (2 * e + s)) else some (c, w)) else st
def fS (N : NT) (P : PT) (e : Nat) (st : Option (Nat × Int)) (t k : Nat) : Nat → Option (Nat × Int)
  | 0 => st
  | j + 1 => stepB N P e (fS N P e st t k j) t k j
def fK (N : NT) (P : PT) (e : Nat) (st : Option (Nat × Int)) (t : Nat) : Nat → Option (Nat × Int)
  | 0 => st
  | j + 1 => fS N P e (fK N P e st t j) t j 2
def fTo (N : NT) (P : PT) (e : Nat) : Nat → Option (Nat × Int)
  | 0 => none
  | j + 1 => fK N P e (fTo N P e j) j (pL P j + 1)
def wBest (N : NT) (P : PT) (e : Nat) : Option (Nat × Int) := fTo N P e (pT P)
theorem fS_no {P : PT} {e t k : Nat} {st : Option (Nat × Int)} (h : wRoom N P t e = false) : ∀ j, fS N P e st t k j = st
  | 0 => rfl
  | j + 1 => by
    show stepB N P e (fS N P e st t k j) t k j = st
    rw [fS_no h j]
    unfold stepB cdB
    rw [h]
    rfl
theorem fK_no {P : PT} {e t : Nat} {st : Option (Nat × Int)} (h : wRoom N P t e = false) : ∀ j, fK N P e st t j = st
  | 0 => rfl
  | j + 1 => by
    show fS N P e (fK N P e st t j) t j 2 = st
    rw [fS_no h, fK_no h j]
/-- what a found place is -/
def gdB (N : NT) (P : PT) (e : Nat) (st : Option (Nat × Int)) : Prop := ∀ c w, st = some (c, w) → ∃ t k s, t < pT P ∧ k ≤ pL P t ∧ s < 2 ∧ c = 1000 * t + 10 * k + s ∧ cdB N P e t k s = true ∧ w = wInc N P t k (2 * e + s)
theorem gd_step {P : PT} {e t k s : Nat} {st : Option (Nat × Int)} (h : gdB N P e st) (ht : t < pT P) (hk : k ≤ pL P t) (hs : s < 2) : gdB N P e (stepB N P e st t k s) := by
  intro c w hq
  unfold stepB at hq
  by_cases q : cdB N P e t k s = true
  · rw [if_pos q] at hq
    cases st with
    | none =>
      cases hq
      exact ⟨t, k, s, ht, hk, hs, rfl, q, rfl⟩
    | some p =>
      obtain ⟨c', w'⟩ := p
      dsimp only at hq
      split at hq
      · cases hq
        exact ⟨t, k, s, ht, hk, hs, rfl, q, rfl⟩
      · exact h c w hq
  · rw [if_neg q] at hq
    exact h c w hq
theorem gd_S {P : PT} {e t k : Nat} {st : Option (Nat × Int)} (h : gdB N P e st) (ht : t < pT P) (hk : k ≤ pL P t) : ∀ j, j ≤ 2 → gdB N P e (fS N P e st t k j)
  | 0, _ => h
  | j + 1, hj => gd_step (gd_S h ht hk j (by omega)) ht hk (by omega)
theorem gd_K {P : PT} {e t : Nat} {st : Option (Nat × Int)} (h : gdB N P e st) (ht : t < pT P) : ∀ j, j ≤ pL P t + 1 → gdB N P e (fK N P e st t j)
  | 0, _ => h
  | j + 1, hj => gd_S (gd_K h ht j (by omega)) ht (by omega) 2 (Nat.le_refl _)
theorem gd_T {P : PT} {e : Nat} : ∀ j, j ≤ pT P → gdB N P e (fTo N P e j)
  | 0, _ => fun c w h => by cases h
  | j + 1, hj => gd_K (gd_T j (by omega)) (by omega) _ (Nat.le_refl _)
def cB (st : Option (Nat × Int)) : Int32 := match st with
  | none => (-1 : Int32)
  | some (c, _) => nI c
def vB (st : Option (Nat × Int)) : Int32 := match st with
  | none => nI 100000000
  | some (_, w) => zi w
/-- every tour has place for one more -/
def R13 (P : PT) : Prop := ∀ t, t < pT P → pL P t ≤ 13
theorem gd_bnd {P : PT} {e : Nat} {st : Option (Nat × Int)} (hN : WN N) (hw : WQ N P) (hd : DVs N P) (h13 : R13 P) (he : e < wE N) (h : gdB N P e st) {c : Nat} {w : Int} (hq : st = some (c, w)) : c < 4000 ∧ -200000 ≤ w ∧ w ≤ 200000 := by
  obtain ⟨t, k, s, ht, hk, hs, rfl, hc, rfl⟩ := h c w hq
  have h4 := hw.1
  have := h13 t ht
  unfold cdB at hc
  rw [Bool.and_eq_true] at hc
  exact ⟨by omega, inc_bnd hN hw hd ht hk this (by omega) hc.2⟩
section CSR
variable {h : PH} {P : PT}
theorem c_best {e : Nat} (hN : WN N) (hw : WQ N P) (hd : DVs N P) (h13 : R13 P) (hn : CN h 14 N) (hr : CRt h N) (hc : CP h 26 P) (he : e < wE N) : F_X4_bestPlace h (nI e) = some (cB (wBest N P e)) := by
  have hE := hN.2.2.1
  have h4 := hw.1
  unfold F_X4_bestPlace
  refine loop_to (σ := Int32 × Int32 × Int32) (fun j => (cB (fTo N P e j), vB (fTo N P e j), nI j)) (pT P) rfl (fun t ht => ?_) ?_
  · have h14 := h13 t ht
    dsimp only
    rw [hc.1, if_neg (nI_ge ht (by omega)), c_room hN hw hn hc ht he]
    simp only [Option.bind_some, jn]
    by_cases qr : wC N < wLd N P t + wDe N e
    · have nr : wRoom N P t e = false := by unfold wRoom; rw [decide_eq_false_iff_not]; omega
      rw [if_pos qr, if_pos rfl]
      have e1 : fTo N P e (t + 1) = fTo N P e t := fK_no nr _
      rw [e1, loop_eq]
      simp only [Int32.le_refl, if_true, Option.bind_some, nI_1]
    · have yr : wRoom N P t e = true := by unfold wRoom; rw [decide_eq_true_eq]; omega
      rw [if_neg qr, if_neg (by decide), c_size hc ht h4, nI_1]
      refine loop_to (σ := Int32 × Int32 × Int32) (fun j => (cB (fK N P e (fTo N P e t) t j), vB (fK N P e (fTo N P e t) t j), nI j)) (pL P t + 1) rfl (fun k hk => ?_) ?_
      · dsimp only
        rw [if_neg (nI_ge hk (by omega))]
        refine loop_to (σ := Int32 × Int32 × Int32) (fun j => (cB (fS N P e (fK N P e (fTo N P e t) t k) t k j), vB (fS N P e (fK N P e (fTo N P e t) t k) t k j), nI j)) 2 rfl (fun s hs => ?_) ?_
        · have gd := gd_S (gd_K (gd_T (N := N) (P := P) (e := e) t (by omega)) ht k (by omega)) ht (show k ≤ pL P t by omega) s (by omega)
          dsimp only
          rw [if_neg (show ¬ (2 : Int32) ≤ nI s from nI_ge (b := 2) hs (by omega)), i2, nI_mul, nI_add, c_incr hN hw hr hn hc ht (by omega) (by omega) (hd t ht), i1000, i10, nI_mul, nI_mul, nI_add, nI_add]
          have es : fS N P e (fK N P e (fTo N P e t) t k) t k (s + 1) = stepB N P e (fS N P e (fK N P e (fTo N P e t) t k) t k s) t k s := rfl
          rw [es]
          revert gd
          generalize fS N P e (fK N P e (fTo N P e t) t k) t k s = st
          intro gd
          unfold stepB
          by_cases q : wCand N P t k (2 * e + s) = true
          · have qc : cdB N P e t k s = true := by unfold cdB; rw [yr, q]; rfl
            have hb := inc_bnd hN hw hd ht (show k ≤ pL P t by omega) h14 (show 2 * e + s < 2 * wE N by omega) q
            rw [if_pos q, if_pos qc]
            cases st with
            | none =>
              have z : ¬ vB none ≤ zi (wInc N P t k (2 * e + s)) := by
                show ¬ nI 100000000 ≤ _
                rw [nI_zi, zi_le (by omega) (by omega)]
                omega
              rw [if_neg z, nI_1]
              rfl
            | some p =>
              obtain ⟨c, w⟩ := p
              have hb2 := gd_bnd hN hw hd h13 he gd rfl
              dsimp only
              by_cases z : wInc N P t k (2 * e + s) < w
              · rw [if_pos z, if_neg (show ¬ vB (some (c, w)) ≤ zi (wInc N P t k (2 * e + s)) from fun y => by have y : zi w ≤ zi (wInc N P t k (2 * e + s)) := y; rw [zi_le (by omega) (by omega)] at y; omega), nI_1]
                rfl
              · rw [if_neg z, if_pos (show vB (some (c, w)) ≤ zi (wInc N P t k (2 * e + s)) from (zi_le (by omega) (by omega)).mpr (by omega)), nI_1]
          · have qc : ¬ cdB N P e t k s = true := by unfold cdB; rw [yr]; exact q
            rw [if_neg q, if_neg qc]
            have z : vB st ≤ nI 100000000 := by
              cases st with
              | none => exact Int32.le_refl _
              | some p =>
                obtain ⟨c, w⟩ := p
                have hb2 := gd_bnd hN hw hd h13 he gd rfl
                show zi w ≤ nI 100000000
                rw [nI_zi, zi_le (by omega) (by omega)]
                omega
            rw [if_pos z, nI_1]
        · dsimp only
          rw [if_pos (show (2 : Int32) ≤ nI 2 from Int32.le_refl _), nI_1]
          rfl
      · dsimp only
        rw [if_pos (nI_le (Nat.le_refl _) (by omega)), nI_1]
        rfl
  · dsimp only
    rw [hc.1]
    exact if_pos (nI_le (Nat.le_refl _) (by omega))
end CSR
end SRH
