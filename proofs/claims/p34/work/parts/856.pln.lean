/-! PLANS: each edge served once; dropping and inserting keep it so -/
def DS (P : PT) : Prop := ∀ t k u j, t < pT P → k < pL P t → u < pT P → j < pL P u → pA P t k / 2 = pA P u j / 2 → t = u ∧ k = j
theorem pigeon : ∀ (m n : Nat) (f : Nat → Nat), (∀ i, i < n → f i < m) → (∀ i j, i < n → j < n → f i = f j → i = j) → n ≤ m
  | 0, n, f, h1, _ => by
    rcases Nat.eq_zero_or_pos n with q | q
    · omega
    · have := h1 0 q
      omega
  | m + 1, n, f, h1, h2 => by
    by_cases q : ∃ i, i < n ∧ f i = m
    · obtain ⟨i, hi, fi⟩ := q
      have h3 := pigeon m (n - 1) (fun j => if j < i then f j else f (j + 1)) (fun j hj => by
        split
        · have a := h1 j (by omega)
          rcases Nat.lt_or_ge (f j) m with z | z
          · exact z
          · have := h2 j i (by omega) hi (by omega)
            omega
        · have a := h1 (j + 1) (by omega)
          rcases Nat.lt_or_ge (f (j + 1)) m with z | z
          · exact z
          · have := h2 (j + 1) i (by omega) hi (by omega)
            omega) (fun a b ha hb e => by
        split at e
        · split at e
          · exact h2 a b (by omega) (by omega) e
          · have := h2 a (b + 1) (by omega) (by omega) e
            omega
        · split at e
          · have := h2 (a + 1) b (by omega) (by omega) e
            omega
          · have := h2 (a + 1) (b + 1) (by omega) (by omega) e
            omega)
      omega
    · have h3 := pigeon m n f (fun i hi => by
        have a := h1 i hi
        rcases Nat.lt_or_ge (f i) m with z | z
        · exact z
        · exact absurd ⟨i, hi, by omega⟩ q) h2
      omega
section PLN
variable {N : NT} {P : PT}
theorem tour_none {e : Nat} : wTour P e = none ↔ ∀ t k, t < pT P → k < pL P t → pA P t k / 2 ≠ e := by
  constructor
  · intro h t k ht hk z
    have h1 := fnd_none h t ht
    cases hq : wPos P t e with
    | none =>
      have h2 := fnd_none hq k hk
      rw [decide_eq_false_iff_not] at h2
      exact h2 z
    | some j => rw [hq] at h1; cases h1
  · intro h
    refine fnd_no fun t ht => ?_
    have : wPos P t e = none := fnd_no fun k hk => by
      rw [decide_eq_false_iff_not]
      exact h t k ht hk
    rw [this]
    rfl
theorem room13 {e : Nat} (hN : WN N) (hw : WQ N P) (hs : DS P) (he : e < wE N) (hu : wTour P e = none) : R13 P := by
  intro t ht
  have hE := hN.2.2.1
  have h0 := tour_none.mp hu
  have h1 := pigeon (wE N) (pL P t + 1) (fun i => if i < pL P t then pA P t i / 2 else e) (fun i hi => by
    split
    · have := (hw.2 t ht).2.2 i (by assumption)
      omega
    · exact he) (fun i j hi hj z => by
    split at z
    · split at z
      · exact (hs t i t j ht (by assumption) ht (by assumption) z).2
      · exact absurd z (h0 t i ht (by assumption))
    · split at z
      · exact absurd z.symm (h0 t j ht (by assumption))
      · omega)
  omega
/-- the plan without what tour t serves at k -/
def dpl (P : PT) (t k : Nat) : PT := setT P t (pL P t - 1) (delA (pA P t) k)
theorem dpl_at {t k u i : Nat} (hi : i < pL (dpl P t k) u) (hk : k < pL P t) : ∃ i', i' < pL P u ∧ pA (dpl P t k) u i = pA P u i' ∧ (u = t → i' ≠ k) ∧ i' = (if u = t ∧ k ≤ i then i + 1 else i) := by
  unfold dpl at hi ⊢
  rw [setT_L] at hi
  rw [setT_A]
  by_cases q : u = t
  · subst q
    rw [if_pos rfl] at hi ⊢
    unfold delA
    by_cases z : i < k
    · rw [if_pos z, if_neg (by omega)]
      exact ⟨i, by omega, rfl, fun _ => by omega, rfl⟩
    · rw [if_neg z, if_pos (by omega)]
      exact ⟨i + 1, by omega, rfl, fun _ => by omega, rfl⟩
  · rw [if_neg q] at hi ⊢
    rw [if_neg (by omega)]
    exact ⟨i, hi, rfl, fun y => absurd y q, rfl⟩
theorem dpl_WQ {t k : Nat} (hw : WQ N P) (ht : t < pT P) (hk : k < pL P t) : WQ N (dpl P t k) := by
  obtain ⟨n, hn⟩ : ∃ n, pL P t = n + 1 := ⟨pL P t - 1, by omega⟩
  have h14 := (hw.2 t ht).2.1
  unfold dpl
  refine hw.set (by omega) (del_ok ?_)
  rw [show pL P t - 1 + 1 = pL P t by omega]
  exact (hw.2 t ht).2.2
theorem dpl_DS {t k : Nat} (hs : DS P) (ht : t < pT P) (hk : k < pL P t) : DS (dpl P t k) := by
  intro u i v j hu hi hv hj e
  obtain ⟨i', a1, a2, a3, a4⟩ := dpl_at hi hk
  obtain ⟨j', b1, b2, b3, b4⟩ := dpl_at hj hk
  rw [a2, b2] at e
  obtain ⟨rfl, c2⟩ := hs u i' v j' hu a1 hv b1 e
  refine ⟨rfl, ?_⟩
  rw [a4, b4] at c2
  split at c2 <;> split at c2 <;> omega
theorem dpl_none {t k e : Nat} (hs : DS P) (ht : t < pT P) (hk : k < pL P t) (he : pA P t k / 2 = e) : wTour (dpl P t k) e = none := by
  rw [tour_none]
  intro u i hu hi z
  obtain ⟨i', a1, a2, a3, -⟩ := dpl_at hi hk
  rw [a2, ← he] at z
  obtain ⟨c1, c2⟩ := hs u i' t k hu a1 ht hk z
  exact a3 c1 c2
/-- whether the tour stays drivable without it -/
def wSpare (N : NT) (P : PT) (t k : Nat) : Bool := (lk N (pH P t) (pv (pA P t) k) (nx (pA P t) (pL P t) (k + 1))).isSome
theorem dpl_DV {t k : Nat} (hk : k < pL P t) (hd : DV N (pH P t) (pL P t) (pA P t)) : okX N (pH P t) (pL P t - 1) (delA (pA P t) k) k ∧ (wSpare N P t k = true ↔ DV N (pH P t) (pL P t - 1) (delA (pA P t) k)) := by
  obtain ⟨n, hn⟩ : ∃ n, pL P t = n + 1 := ⟨pL P t - 1, by omega⟩
  unfold wSpare
  rw [hn] at hd hk ⊢
  have e1 : DV N (pH P t) (n + 1) (insA (delA (pA P t) k) k (pA P t k)) := by rw [ins_del]; exact hd
  have h1 := (DV_ins (by omega : k ≤ n)).mp e1
  have e2 : pv (delA (pA P t) k) k = pv (pA P t) k := by
    have := pv_ins1 (a := delA (pA P t) k) (k := k) (x := pA P t k) (j := k) (Nat.le_refl _)
    rw [ins_del] at this
    exact this.symm
  have e3 : nx (delA (pA P t) k) n k = nx (pA P t) (n + 1) (k + 1) := by
    have := nx_ins3 (a := delA (pA P t) k) (n := n) (k := k) (x := pA P t k) (j := k) (Nat.le_refl _)
    rw [ins_del] at this
    exact this.symm
  refine ⟨h1.1, ?_⟩
  show _ ↔ DV N (pH P t) n (delA (pA P t) k)
  rw [DV_iff (by omega : k ≤ n), e2, e3, Option.isSome_iff_ne_none]
  exact ⟨fun z => ⟨h1.1, z⟩, fun z => z.2⟩
theorem dpl_DVs {t k : Nat} (hd : DVs N P) (ht : t < pT P) (hk : k < pL P t) (hsp : wSpare N P t k = true) : DVs N (dpl P t k) := by
  intro u hu
  unfold dpl
  by_cases q : u = t
  · subst q
    rw [setT_H, setT_L1, setT_A1]
    exact (dpl_DV hk (hd u ht)).2.mp hsp
  · rw [setT_H, setT_L2 P q, setT_A2 P q]
    exact hd u hu
/-- the plan with x at place k of tour t -/
def ipl (P : PT) (t k x : Nat) : PT := setT P t (pL P t + 1) (insA (pA P t) k x)
theorem ipl_WQ {t k x : Nat} (hw : WQ N P) (ht : t < pT P) (hk : k ≤ pL P t) (h13 : pL P t ≤ 13) (hx : x < 2 * wE N) : WQ N (ipl P t k x) := hw.set (by omega) (ins_ok (hw.2 t ht).2.2 hx hk)
theorem ipl_at {t k x u i : Nat} (hi : i < pL (ipl P t k x) u) (hk : k ≤ pL P t) : (u = t ∧ i = k ∧ pA (ipl P t k x) u i = x) ∨ ∃ i', i' < pL P u ∧ pA (ipl P t k x) u i = pA P u i' ∧ i' = (if u = t ∧ k < i then i - 1 else i) ∧ ¬ (u = t ∧ i = k) := by
  unfold ipl at hi ⊢
  rw [setT_L] at hi
  rw [setT_A]
  by_cases q : u = t
  · subst q
    rw [if_pos rfl] at hi ⊢
    unfold insA
    by_cases z : i < k
    · right
      rw [if_pos z]
      exact ⟨i, by omega, rfl, by rw [if_neg (by omega)], by omega⟩
    · rw [if_neg z]
      by_cases y : i = k
      · left
        rw [if_pos y]
        exact ⟨rfl, y, rfl⟩
      · right
        rw [if_neg y]
        exact ⟨i - 1, by omega, rfl, by rw [if_pos (by omega)], by omega⟩
  · right
    rw [if_neg q] at hi ⊢
    exact ⟨i, hi, rfl, by rw [if_neg (by omega)], by omega⟩
theorem ipl_DS {t k x e : Nat} (hs : DS P) (ht : t < pT P) (hk : k ≤ pL P t) (hx : x / 2 = e) (hu : wTour P e = none) : DS (ipl P t k x) := by
  have h0 := tour_none.mp hu
  intro u i v j hu hi hv hj z
  rcases ipl_at hi hk with ⟨a1, a2, a3⟩ | ⟨i', a1, a2, a3, a4⟩ <;> rcases ipl_at hj hk with ⟨b1, b2, b3⟩ | ⟨j', b1, b2, b3, b4⟩
  · exact ⟨by rw [a1, b1], by rw [a2, b2]⟩
  · rw [a3, b2, hx] at z
    exact absurd z.symm (h0 v j' hv b1)
  · rw [a2, b3, hx] at z
    exact absurd z (h0 u i' hu a1)
  · rw [a2, b2] at z
    obtain ⟨rfl, c2⟩ := hs u i' v j' hu a1 hv b1 z
    refine ⟨rfl, ?_⟩
    rw [a3, b3] at c2
    split at c2 <;> split at c2 <;> omega
theorem ipl_DVs {t k x : Nat} (hd : DVs N P) (ht : t < pT P) (hk : k ≤ pL P t) (hc : wCand N P t k x = true) : DVs N (ipl P t k x) := by
  intro u hu
  unfold ipl
  by_cases q : u = t
  · subst q
    rw [setT_H, setT_L1, setT_A1]
    exact (cand_DV (hd u ht) hk).mp hc
  · rw [setT_H, setT_L2 P q, setT_A2 P q]
    exact hd u hu
def WP (N : NT) (P : PT) : Prop := WQ N P ∧ DS P ∧ DVs N P
/-- the best insertion made -/
theorem bpl_ipl {e c : Nat} {w : Int} {t k s : Nat} (h4 : pT P ≤ 4) (h13 : R13 P) (ht : t < pT P) (hk : k ≤ pL P t) (hs : s < 2) (hcc : c = 1000 * t + 10 * k + s) : bpl P e c = ipl P t k (2 * e + s) := by
  have h14 := h13 t ht
  obtain ⟨d1, d2, d3⟩ := code_dec (t := t) (k := k) (s := s) (by omega) hs
  unfold bpl ipl
  rw [hcc, d1, d2, d3]
theorem bpl_WP {e c : Nat} {w : Int} (hN : WN N) (hp : WP N P) (he : e < wE N) (hu : wTour P e = none) (hg : gdB N P e (some (c, w))) : WP N (bpl P e c) := by
  obtain ⟨hw, hs, hd⟩ := hp
  have h13 := room13 hN hw hs he hu
  obtain ⟨t, k, s, ht, hk, hs2, hcc, hc, -⟩ := hg c w rfl
  rw [bpl_ipl (w := w) hw.1 h13 ht hk hs2 hcc]
  unfold cdB at hc
  rw [Bool.and_eq_true] at hc
  exact ⟨ipl_WQ hw ht hk (h13 t ht) (by omega), ipl_DS hs ht hk (by omega) hu, ipl_DVs hd ht hk hc.2⟩
theorem dpl_WP {t k : Nat} (hp : WP N P) (ht : t < pT P) (hk : k < pL P t) (hsp : wSpare N P t k = true) : WP N (dpl P t k) := ⟨dpl_WQ hp.1 ht hk, dpl_DS hp.2.1 ht hk, dpl_DVs hp.2.2 ht hk hsp⟩
/-! sums of costs -/
theorem sumN_upd {f g : Nat → Nat} {t : Nat} : ∀ {n : Nat}, t < n → (∀ j, j < n → j ≠ t → g j = f j) → sumN g n + f t = sumN f n + g t
  | 0, h, _ => absurd h (Nat.not_lt_zero _)
  | n + 1, h, e => by
    show sumN g n + g n + f t = sumN f n + f n + g t
    by_cases q : t = n
    · subst q
      rw [sumN_ag (f := g) (g := f) (fun j hj => e j (by omega) (by omega))]
      omega
    · have h1 := sumN_upd (f := f) (g := g) (t := t) (n := n) (by omega) (fun j hj => e j (by omega))
      rw [e n (by omega) (by omega)]
      omega
theorem tot_set {t n : Nat} {a : Nat → Nat} (ht : t < pT P) : wTot N (setT P t n a) + wTC N P t = wTot N P + CK 0 N (pH P t) n a := by
  have h := sumN_upd (f := wTC N P) (g := wTC N (setT P t n a)) (n := pT P) ht (fun j _ hj => by
    unfold wTC
    rw [setT_H, setT_L2 P hj, setT_A2 P hj])
  have e : wTC N (setT P t n a) t = CK 0 N (pH P t) n a := by
    unfold wTC
    rw [setT_H, setT_L1, setT_A1]
  rw [e] at h
  exact h
theorem tot_le (hN : WN N) (hw : WQ N P) (hd : DVs N P) : wTot N P ≤ 732204 := by
  have h4 := hw.1
  have := sumN_le (f := wTC N P) (B := 183051) (k := pT P) (fun j hj => wTC_le hN hw hd hj)
  unfold wTot
  omega
end PLN
