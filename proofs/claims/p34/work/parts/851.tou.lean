/-! TOURS: their costs and places -/
abbrev PT : Type := Nat × (Nat → Nat) × (Nat → Nat) × (Nat → Nat → Nat)
def pT (P : PT) : Nat := P.1
def pH (P : PT) (t : Nat) : Nat := P.2.1 t
def pL (P : PT) (t : Nat) : Nat := P.2.2.1 t
def pA (P : PT) (t k : Nat) : Nat := P.2.2.2 t k
def CP (h : PH) (o : Nat) (P : PT) : Prop := h.1 o 0 = nI (pT P) ∧ ∀ t, t < pT P → h.1 (o + 1) t = nI (pH P t) ∧ h.1 (o + 2) t = nI (pL P t) ∧ ∀ k, k < pL P t → h.1 (o + 3) (t * 14 + k) = nI (pA P t k)
theorem CP.same {h h' : PH} {o : Nat} {P : PT} (c : CP h o P) (e : ∀ j, j < 4 → h'.1 (o + j) = h.1 (o + j)) : CP h' o P := by
  have e0 : h'.1 o = h.1 o := e 0 (by omega)
  refine ⟨by rw [e0]; exact c.1, fun t ht => ?_⟩
  rw [e 1 (by omega), e 2 (by omega), e 3 (by omega)]
  exact c.2 t ht
theorem CP.fr {h h' : PH} {o : Nat} {P : PT} {S : Nat → Prop} (c : CP h o P) (f : Fr S h h') (hs : ∀ j, j < 4 → ¬ S (o + j)) : CP h' o P := c.same fun j hj => (f _ (hs j hj)).1
/-- what tours are, drivable or not -/
def WQ (N : NT) (P : PT) : Prop := pT P ≤ 4 ∧ ∀ t, t < pT P → pH P t < wN N ∧ pL P t ≤ 14 ∧ ∀ k, k < pL P t → pA P t k < 2 * wE N
def lk (N : NT) (home : Nat) : Option Nat → Option Nat → Option Nat
  | none, none => some 0
  | none, some y => wApp N home y
  | some x, none => wRet N x home
  | some x, some y => wDh N x y
def pv (a : Nat → Nat) (k : Nat) : Option Nat := if k = 0 then none else some (a (k - 1))
def nx (a : Nat → Nat) (n k : Nat) : Option Nat := if k < n then some (a k) else none
def sumN (f : Nat → Nat) : Nat → Nat
  | 0 => 0
  | k + 1 => sumN f k + f k
theorem sumN_ag {f g : Nat → Nat} : ∀ {k : Nat}, (∀ j, j < k → f j = g j) → sumN f k = sumN g k
  | 0, _ => rfl
  | k + 1, h => by
    show sumN f k + f k = sumN g k + g k
    rw [sumN_ag (fun j hj => h j (by omega)), h k (by omega)]
theorem sumN_le {f : Nat → Nat} {B : Nat} : ∀ {k : Nat}, (∀ j, j < k → f j ≤ B) → sumN f k ≤ k * B
  | 0, _ => Nat.zero_le _
  | k + 1, h => by
    have h1 := sumN_le (k := k) (fun j hj => h j (by omega))
    have h2 := h k (by omega)
    show sumN f k + f k ≤ (k + 1) * B
    rw [Nat.add_mul, Nat.one_mul]
    omega
theorem sumN_ge {f : Nat → Nat} : ∀ {k j : Nat}, j < k → f j ≤ sumN f k
  | 0, _, h => absurd h (Nat.not_lt_zero _)
  | k + 1, j, h => by
    show f j ≤ sumN f k + f k
    rcases Nat.lt_or_ge j k with q | q
    · have := sumN_ge (f := f) q
      omega
    · obtain rfl : j = k := by omega
      omega
theorem sumN_add (f g : Nat → Nat) : ∀ (k : Nat), sumN (fun j => f j + g j) k = sumN f k + sumN g k
  | 0 => rfl
  | k + 1 => by
    show sumN (fun j => f j + g j) k + (f k + g k) = _
    rw [sumN_add f g k]
    show _ = sumN f k + f k + (sumN g k + g k)
    omega
/-- a tour's links and services; K stands for none -/
def cL (K : Nat) (N : NT) (home n : Nat) (a : Nat → Nat) (k : Nat) : Nat := en K (lk N home (pv a k) (nx a n k))
def CK (K : Nat) (N : NT) (home n : Nat) (a : Nat → Nat) : Nat := sumN (cL K N home n a) (n + 1) + sumN (fun k => wSv N (a k)) n
def DV (N : NT) (home n : Nat) (a : Nat → Nat) : Prop := ∀ k, k ≤ n → lk N home (pv a k) (nx a n k) ≠ none
def arcsOK (N : NT) (n : Nat) (a : Nat → Nat) : Prop := ∀ k, k < n → a k < 2 * wE N
theorem lk_le {N : NT} (hN : WN N) {home v : Nat} {f g : Option Nat} (h : lk N home f g = some v) : v ≤ 2871 := by
  cases f <;> cases g
  · cases h; omega
  · exact wApp_le hN h
  · exact wRet_le hN h
  · have := wDh_le hN h; omega
theorem cL_le {N : NT} (hN : WN N) {K home n k : Nat} {a : Nat → Nat} (hK : 2871 ≤ K) : cL K N home n a k ≤ K := en_le (fun v hv => lk_le hN hv) hK
theorem CK_le {N : NT} (hN : WN N) {K home n : Nat} {a : Nat → Nat} (hK : 2871 ≤ K) (hn : n ≤ 14) (ha : arcsOK N n a) : CK K N home n a ≤ 15 * K + 139986 := by
  have h1 := sumN_le (f := cL K N home n a) (B := K) (k := n + 1) (fun j _ => cL_le hN hK)
  have h2 := sumN_le (f := fun k => wSv N (a k)) (B := 9999) (k := n) (fun j hj => (hN.2.2.2.2.1 _ (ha j hj)).2.2.2.1)
  have h3 : (n + 1) * K ≤ 15 * K := Nat.mul_le_mul_right K (by omega)
  unfold CK
  omega
theorem CK_dv {N : NT} {K K' home n : Nat} {a : Nat → Nat} (hd : DV N home n a) : CK K N home n a = CK K' N home n a := by
  unfold CK
  rw [sumN_ag (f := cL K N home n a) (g := cL K' N home n a) (fun j hj => ?_)]
  unfold cL
  cases hq : lk N home (pv a j) (nx a n j) with
  | none => exact absurd hq (hd j (by omega))
  | some v => rfl
theorem CK_dvle {N : NT} (hN : WN N) {K home n : Nat} {a : Nat → Nat} (hn : n ≤ 14) (ha : arcsOK N n a) (hd : DV N home n a) : CK K N home n a ≤ 183051 := by
  rw [CK_dv (K' := 2871) hd]
  exact CK_le hN (Nat.le_refl _) hn ha
theorem CK_nd {N : NT} {K home n : Nat} {a : Nat → Nat} (hd : ¬ DV N home n a) : K ≤ CK K N home n a := by
  have h1 : ∃ k, k ≤ n ∧ lk N home (pv a k) (nx a n k) = none := by
    apply Classical.byContradiction
    intro q
    apply hd
    intro k hk e
    exact q ⟨k, hk, e⟩
  obtain ⟨k, hk, e⟩ := h1
  have h2 := sumN_ge (f := cL K N home n a) (k := n + 1) (j := k) (by omega)
  have h3 : cL K N home n a k = K := by unfold cL; rw [e]; rfl
  unfold CK
  omega
/-- an arc, or the depot's mark -/
def eA : Option Nat → Int32
  | some x => nI x
  | none => (-1 : Int32)
theorem eA_ne {x : Nat} (h : x < 2 ^ 31) : ¬ nI x = (-1 : Int32) := by
  intro z
  have z2 : nI x = zi (-1) := z
  rw [nI_zi, zi_eq (by omega) (by omega)] at z2
  omega
theorem eA_inj {f g : Option Nat} (hf : ∀ x, f = some x → x < 2 ^ 31) (hg : ∀ x, g = some x → x < 2 ^ 31) : eA f = eA g ↔ f = g := by
  cases f <;> cases g
  · exact ⟨fun _ => rfl, fun _ => rfl⟩
  · exact ⟨fun z => absurd z.symm (eA_ne (hg _ rfl)), fun z => by cases z⟩
  · exact ⟨fun z => absurd z (eA_ne (hf _ rfl)), fun z => by cases z⟩
  · exact ⟨fun z => by rw [(nI_eq (hf _ rfl) (hg _ rfl)).mp z], fun z => by rw [z]⟩
theorem pv_s (a : Nat → Nat) (k : Nat) : pv a (k + 1) = some (a k) := by
  unfold pv
  rw [if_neg (by omega)]
  rfl
theorem nx_lt {a : Nat → Nat} {n k : Nat} (h : k < n) : nx a n k = some (a k) := if_pos h
theorem nx_ge {a : Nat → Nat} {n k : Nat} (h : n ≤ k) : nx a n k = none := if_neg (by omega)
/-- the first place where p holds -/
def fnd (p : Nat → Bool) : Nat → Option Nat
  | 0 => none
  | n + 1 => match fnd p n with
    | some k => some k
    | none => if p n then some n else none
theorem fnd_some {p : Nat → Bool} : ∀ {n k : Nat}, fnd p n = some k → k < n ∧ p k = true ∧ ∀ j, j < k → p j = false
  | 0, _, h => by cases h
  | n + 1, k, h => by
    unfold fnd at h
    cases hq : fnd p n with
    | some k' =>
      rw [hq] at h
      cases h
      obtain ⟨a, b, c⟩ := fnd_some hq
      exact ⟨by omega, b, c⟩
    | none =>
      rw [hq] at h
      dsimp only at h
      split at h
      · rename_i hp
        cases h
        refine ⟨by omega, hp, fun j hj => ?_⟩
        have none_all : ∀ (m : Nat), fnd p m = none → ∀ j, j < m → p j = false := by
          intro m
          induction m with
          | zero => intro _ j hj; omega
          | succ m ih =>
            intro hm j hj
            unfold fnd at hm
            cases hm2 : fnd p m with
            | some _ => rw [hm2] at hm; cases hm
            | none =>
              rw [hm2] at hm
              dsimp only at hm
              rcases Nat.lt_or_ge j m with q | q
              · exact ih hm2 j q
              · obtain rfl : j = m := by omega
                cases hp : p j with
                | false => rfl
                | true => rw [hp] at hm; cases hm
        exact none_all n hq j hj
      · cases h
theorem fnd_none {p : Nat → Bool} : ∀ {n : Nat}, fnd p n = none → ∀ j, j < n → p j = false
  | 0, _, j, hj => absurd hj (Nat.not_lt_zero _)
  | n + 1, h, j, hj => by
    unfold fnd at h
    cases hq : fnd p n with
    | some _ => rw [hq] at h; cases h
    | none =>
      rw [hq] at h
      dsimp only at h
      rcases Nat.lt_or_ge j n with q | q
      · exact fnd_none hq j q
      · obtain rfl : j = n := by omega
        cases hp : p j with
        | false => rfl
        | true => rw [hp] at h; cases h
theorem fnd_is {p : Nat → Bool} {n k : Nat} (hk : k < n) (hp : p k = true) (hl : ∀ j, j < k → p j = false) : fnd p n = some k := by
  cases hq : fnd p n with
  | none => rw [fnd_none hq k hk] at hp; cases hp
  | some k' =>
    obtain ⟨a, b, c⟩ := fnd_some hq
    rcases Nat.lt_trichotomy k k' with q | q | q
    · rw [c k q] at hp; cases hp
    · rw [q]
    · rw [hl k' q] at b; cases b
theorem fnd_no {p : Nat → Bool} {n : Nat} (hl : ∀ j, j < n → p j = false) : fnd p n = none := by
  cases hq : fnd p n with
  | none => rfl
  | some k =>
    obtain ⟨a, b, -⟩ := fnd_some hq
    rw [hl k a] at b
    cases b
/-- where a tour serves an edge; which tour does -/
def wPos (P : PT) (t e : Nat) : Option Nat := fnd (fun k => decide (pA P t k / 2 = e)) (pL P t)
def wTour (P : PT) (e : Nat) : Option Nat := fnd (fun t => (wPos P t e).isSome) (pT P)
section TOU
variable {h : PH} {N : NT} {P : PT}
theorem c_size {t : Nat} (hc : CP h 26 P) (ht : t < pT P) (h4 : pT P ≤ 4) : F_X7_at 4 h 28 (nI t) = nI (pL P t) := by
  rw [at_in (by omega) (by omega)]
  exact (hc.2 t ht).2.1
theorem c_home {t : Nat} (hc : CP h 26 P) (ht : t < pT P) (h4 : pT P ≤ 4) : F_X7_at 4 h 27 (nI t) = nI (pH P t) := by
  rw [at_in (by omega) (by omega)]
  exact (hc.2 t ht).1
theorem c_nx {t k : Nat} (hw : WQ N P) (hc : CP h 26 P) (ht : t < pT P) (hk : k < 2 ^ 31) : F_X3_arcOrDepot h (nI t) (nI k) = eA (nx (pA P t) (pL P t) k) := by
  have h14 := (hw.2 t ht).2.1
  have h4 := hw.1
  unfold F_X3_arcOrDepot
  rw [if_neg (nI_pos hk), c_size hc ht hw.1]
  rcases Nat.lt_or_ge k (pL P t) with q | q
  · rw [if_pos (nI_lt q (by omega)), nI_14, at_in (by omega) (by omega), nx_lt q]
    exact (hc.2 t ht).2.2 k q
  · rw [if_neg (nI_nlt q hk), nx_ge q]
    rfl
theorem c_pv {t k : Nat} (hw : WQ N P) (hc : CP h 26 P) (ht : t < pT P) (hk : k ≤ pL P t) : F_X3_arcOrDepot h (nI t) (nI k - (1 : Int32)) = eA (pv (pA P t) k) := by
  have h14 := (hw.2 t ht).2.1
  cases k with
  | zero =>
    unfold F_X3_arcOrDepot
    rw [if_pos (by decide)]
    rfl
  | succ k =>
    rw [nI_pred, c_nx hw hc ht (by omega), pv_s, nx_lt (by omega)]
theorem nx_ok {n k x : Nat} {a : Nat → Nat} (ha : arcsOK N n a) (h1 : nx a n k = some x) : x < 2 * wE N := by
  unfold nx at h1
  split at h1
  · cases h1; exact ha k (by assumption)
  · cases h1
theorem pv_ok {n k x : Nat} {a : Nat → Nat} (ha : arcsOK N n a) (hk : k ≤ n) (h1 : pv a k = some x) : x < 2 * wE N := by
  unfold pv at h1
  split at h1
  · cases h1
  · cases h1; exact ha _ (by omega)
theorem c_link {t : Nat} {f g : Option Nat} (hN : WN N) (hw : WQ N P) (hr : CRt h N) (hc : CP h 26 P) (ht : t < pT P) (hf : ∀ x, f = some x → x < 2 * wE N) (hg : ∀ x, g = some x → x < 2 * wE N) : F_X4_link h (nI t) (eA f) (eA g) = nI (en 100000000 (lk N (pH P t) f g)) := by
  have hE := hN.2.2.1
  have hn := hN.1
  have hh := (hw.2 t ht).1
  unfold F_X4_link
  cases f with
  | none =>
    rw [if_neg (fun z => z rfl)]
    cases g with
    | none => rw [if_neg (fun z => z rfl)]; rfl
    | some y =>
      have hy := hg y rfl
      rw [if_pos (show ¬ eA (some y) = (-1 : Int32) from eA_ne (by omega)), c_home hc ht hw.1]
      show F_X7_at 224 h 23 (nI (pH P t) * (28 : Int32) + nI y) = _
      rw [nI_M, at_in (by omega) (by omega)]
      exact (hr.2.1 y (pH P t) hy hh).1
  | some x =>
    have hx := hf x rfl
    rw [if_pos (show ¬ eA (some x) = (-1 : Int32) from eA_ne (by omega))]
    cases g with
    | none =>
      rw [if_neg (fun z => z rfl), c_home hc ht hw.1]
      show F_X7_at 224 h 24 (nI x * (8 : Int32) + nI (pH P t)) = _
      rw [nI_8, at_in (by omega) (by omega)]
      exact (hr.2.1 x (pH P t) hx hh).2
    | some y =>
      have hy := hg y rfl
      rw [if_pos (show ¬ eA (some y) = (-1 : Int32) from eA_ne (by omega))]
      exact c_dh hN hr.1 hx hy
theorem c_serv {x : Nat} (hN : WN N) (hc : CN h 14 N) (hx : x < 2 * wE N) : F_X7_at 28 h 17 (nI x) = nI (wSv N x) := by
  have hE := hN.2.2.1
  rw [at_in (by omega) (by omega)]
  exact (hc.2.2.2.2.1 x hx).2.2.1
theorem c_costOf {t : Nat} (hN : WN N) (hw : WQ N P) (hn : CN h 14 N) (hr : CRt h N) (hc : CP h 26 P) (ht : t < pT P) : F_X4_costOf h (nI t) = some (nI (CK 100000000 N (pH P t) (pL P t) (pA P t))) := by
  have hE := hN.2.2.1
  obtain ⟨hh, h14, ha⟩ := hw.2 t ht
  have ha : arcsOK N (pL P t) (pA P t) := ha
  unfold F_X4_costOf
  refine loop_to (fun k => (nI (sumN (cL 100000000 N (pH P t) (pL P t) (pA P t)) k + sumN (fun k => wSv N (pA P t k)) k), eA (pv (pA P t) k), nI k)) (pL P t) rfl (fun k hk => ?_) ?_
  · dsimp only
    rw [c_size hc ht hw.1, if_neg (nI_ge hk (by omega)), c_nx hw hc ht (by omega), nx_lt hk, c_link hN hw hr hc ht (fun x hx => pv_ok ha (by omega) hx) (fun x hx => by cases hx; exact ha k hk)]
    show some (Sum.inl (nI _ + (nI (en 100000000 (lk N (pH P t) (pv (pA P t) k) (some (pA P t k)))) + F_X7_at 28 h 17 (nI (pA P t k))), eA (some (pA P t k)), nI k + (1 : Int32))) = _
    rw [c_serv hN hn (ha k hk), nI_add, nI_add, nI_1, pv_s]
    show some (Sum.inl (nI _, _, _)) = some (Sum.inl (nI ((sumN _ k + cL _ _ _ _ _ k) + (sumN _ k + wSv N (pA P t k))), _, _))
    congr 3
    unfold cL
    rw [nx_lt hk]
    congr 1
    omega
  · dsimp only
    rw [c_size hc ht hw.1, if_pos (nI_le (Nat.le_refl _) (by omega))]
    show some (Sum.inr (nI _ + F_X4_link h (nI t) (eA (pv (pA P t) (pL P t))) (eA none))) = _
    rw [c_link hN hw hr hc ht (fun x hx => pv_ok ha (Nat.le_refl _) hx) (fun x hx => by cases hx), nI_add]
    congr 2
    unfold CK
    show _ = nI (sumN _ (pL P t) + cL _ _ _ _ _ (pL P t) + _)
    unfold cL
    rw [nx_ge (Nat.le_refl _)]
    congr 1
    omega
theorem c_pos {t e : Nat} (hN : WN N) (hw : WQ N P) (hc : CP h 26 P) (ht : t < pT P) (he : e < 2 ^ 31) : F_X3_positionIn h (nI t) (nI e) = some (eA (wPos P t e)) := by
  have hE := hN.2.2.1
  have h4 := hw.1
  obtain ⟨hh, h14, ha⟩ := hw.2 t ht
  unfold F_X3_positionIn
  obtain ⟨r, h1, h2⟩ := loop_ind0 (σ := Int32) (τ := Int32) (body := fun (s1 : Int32) =>
    if (F_X7_at 4 h 28 (nI t)) ≤ s1 then some (.inr ((-1 : Int32)))
    else if ¬ ((F_X7_at 56 h 29 ((nI t * (14 : Int32)) + s1)) / (2 : Int32)) = nI e then some (.inl ((s1 + (1 : Int32)))) else some (.inr (s1))) (s0 := (0 : Int32)) (fun k s => s = nI k ∧ k ≤ pL P t ∧ ∀ j, j < k → decide (pA P t j / 2 = e) = false) (fun r => r = eA (wPos P t e)) (pL P t) ⟨rfl, Nat.zero_le _, fun j hj => absurd hj (Nat.not_lt_zero _)⟩ (by
    rintro k s ⟨rfl, hk, inv⟩
    rw [c_size hc ht hw.1]
    rcases Nat.lt_or_ge k (pL P t) with q | q
    · have hak := ha k q
      have e1 : F_X7_at 56 h 29 (nI t * (14 : Int32) + nI k) = nI (pA P t k) := by
        rw [nI_14, at_in (by omega) (by omega)]
        exact (hc.2 t ht).2.2 k q
      rw [if_neg (nI_ge q (by omega)), e1, r_half (by omega)]
      by_cases z : pA P t k / 2 = e
      · left
        refine ⟨_, if_neg (fun y => y (by rw [z])), ?_⟩
        unfold wPos
        rw [fnd_is q (by simp [z]) inv]
        rfl
      · right
        refine ⟨q, _, if_pos (fun y => z ((nI_eq (by omega) he).mp y)), nI_1 k, q, fun j hj => ?_⟩
        rcases Nat.lt_or_ge j k with y | y
        · exact inv j y
        · obtain rfl : j = k := by omega
          simp [z]
    · obtain rfl : k = pL P t := by omega
      left
      refine ⟨_, if_pos (nI_le (Nat.le_refl _) (by omega)), ?_⟩
      unfold wPos
      rw [fnd_no inv]
      rfl)
  rw [h1, h2]
theorem wPos_lt {t e k : Nat} (hq : wPos P t e = some k) : k < pL P t ∧ pA P t k / 2 = e := by
  obtain ⟨a, b, -⟩ := fnd_some hq
  exact ⟨a, of_decide_eq_true b⟩
theorem wTour_lt {e t : Nat} (hq : wTour P e = some t) : t < pT P ∧ ∃ k, wPos P t e = some k := by
  obtain ⟨a, b, -⟩ := fnd_some hq
  exact ⟨a, Option.isSome_iff_exists.mp b⟩
theorem c_tour {e : Nat} (hN : WN N) (hw : WQ N P) (hc : CP h 26 P) (he : e < 2 ^ 31) : F_X3_tourServing h (nI e) = some (eA (wTour P e)) := by
  have h4 := hw.1
  unfold F_X3_tourServing
  obtain ⟨r, h1, h2⟩ := loop_ind0 (σ := Int32) (τ := Int32) (body := fun (s1 : Int32) =>
    if (h.1 26 0) ≤ s1 then some (.inr ((-1 : Int32)))
    else (F_X3_positionIn h s1 (nI e)).bind fun z2 => if z2 = (-1 : Int32) then some (.inl ((s1 + (1 : Int32)))) else some (.inr (s1))) (s0 := (0 : Int32)) (fun k s => s = nI k ∧ k ≤ pT P ∧ ∀ j, j < k → (wPos P j e).isSome = false) (fun r => r = eA (wTour P e)) (pT P) ⟨rfl, Nat.zero_le _, fun j hj => absurd hj (Nat.not_lt_zero _)⟩ (by
    rintro k s ⟨rfl, hk, inv⟩
    rw [hc.1]
    rcases Nat.lt_or_ge k (pT P) with q | q
    · rw [if_neg (nI_ge q (by omega)), c_pos hN hw hc q he]
      simp only [Option.bind_some]
      cases z : wPos P k e with
      | some j =>
        have hj := (wPos_lt z).1
        have h14 := (hw.2 k q).2.1
        left
        refine ⟨_, if_neg (show ¬ eA (some j) = (-1 : Int32) from eA_ne (by omega)), ?_⟩
        unfold wTour
        rw [fnd_is q (by rw [z]; rfl) inv]
        rfl
      | none =>
        right
        refine ⟨q, _, if_pos rfl, nI_1 k, q, fun j hj => ?_⟩
        rcases Nat.lt_or_ge j k with y | y
        · exact inv j y
        · obtain rfl : j = k := by omega
          rw [z]
          rfl
    · obtain rfl : k = pT P := by omega
      left
      refine ⟨_, if_pos (nI_le (Nat.le_refl _) (by omega)), ?_⟩
      unfold wTour
      rw [fnd_no inv]
      rfl)
  rw [h1, h2]
end TOU
