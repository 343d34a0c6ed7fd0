/-! THE READERS' END: the services are priced -/
def addS (N : NT) (sv : Nat → Nat) : NT := (fun i a => if i = 6 then sv a else N.1 i a, N.2)
def P0 : PT := (0, fun _ => 0, fun _ => 0, fun _ _ => 0)
def valOf (N : NT) (l : List Stq) (x : Nat) : Int := ((evs (wCo N x) (wDe N (x / 2)) l []).getD []).headD 0
def svOf (N : NT) (l : List Stq) (x : Nat) : Nat := (max 0 (min 9999 (valOf N l x))).toNat
section PRC
variable {b : Nat → Nat} {n : Nat} {g r : PH} {N : NT}
theorem laid_shift {f : Nat → Int32} {a : Nat} : ∀ {p : Nat} {l : List Stq}, laid f (a + p) l → laid (fun j => f (a + j)) p l
  | _, [], _ => trivial
  | p, s :: t, h => ⟨h.1, h.2.1, laid_shift (p := p + wdt s) (by rw [← Nat.add_assoc]; exact h.2.2)⟩
theorem svOf_ok {l : List Stq} {x : Nat} (h : ∀ c d : Int, ∃ st, evs c d l [] = some st ∧ st.length = 1) : ∃ v : Int, evs (wCo N x) (wDe N (x / 2)) l [] = some [v] ∧ valOf N l x = v ∧ (svOf N l x : Int) = max 0 (min 9999 v) := by
  obtain ⟨st, h1, h2⟩ := h (wCo N x) (wDe N (x / 2))
  match st, h2 with
  | [v], _ =>
    have e : valOf N l x = v := by unfold valOf; rw [h1]; rfl
    exact ⟨v, h1, e, by unfold svOf; rw [e]; omega⟩
  | [], h2 => cases h2
  | _ :: _ :: _, h2 => cases h2
theorem c_price {l : List Stq} {p : Nat} (hc : CN g 3 N) (hN9 : WN N) (F : FK g r l p 1) (hp : p ≤ 700) : ∃ g', F_X6_priceServices g = some g' ∧ Fr (fun a => a = 6 ∨ a = 12) g g' ∧ ∀ x, x < 2 * wE N → g'.1 6 x = nI (svOf N l x) := by
  have hE := hN9.2.2.1
  obtain ⟨f1, f2, -, -, f5, f6, -, f8⟩ := F
  unfold F_X6_priceServices
  refine loop_ind0 (σ := Int32 × PH) (fun k s => s.1 = nI k ∧ k ≤ 2 * wE N ∧ Fr (fun a => a = 6 ∨ a = 12) g s.2 ∧ ∀ x, x < k → s.2.1 6 x = nI (svOf N l x)) _ (2 * wE N) ⟨rfl, Nat.zero_le _, Fr.refl g, fun x hx => absurd hx (Nat.not_lt_zero _)⟩ ?_
  rintro k ⟨s1, s2⟩ ⟨e1, i2', i3', i4'⟩
  dsimp only at e1 i3' i4' ⊢
  subst e1
  have a3 : s2.1 3 2 = nI (wE N) := by rw [(i3' 3 (by omega)).1]; exact hc.2.2.1
  rw [a3, i2, nI_mul]
  rcases Nat.lt_or_ge k (2 * wE N) with q | q
  · right
    refine ⟨q, ?_⟩
    have a5 : F_X7_at 28 s2 5 (nI k) = nI (wCo N k) := by
      rw [at_in (by omega) (by omega), (i3' 5 (by omega)).1]
      exact (hc.2.2.2.2.1 k q).2.1
    have a8 : F_X7_at 14 s2 8 (nI k / nI 2) = nI (wDe N (k / 2)) := by
      rw [nI_div (by omega) (by omega), at_in (by omega) (by omega), (i3' 8 (by omega)).1]
      exact hc.2.2.2.2.2.1 (k / 2) (by omega)
    have hf : CF s2 l := ⟨by rw [(i3' 10 (by omega)).1]; exact f1, by omega, fun i s hs => by rw [(i3' 11 (by omega)).1]; exact f2 i s hs⟩
    obtain ⟨v, v1, v2, v3⟩ := svOf_ok (N := N) (x := k) f8
    obtain ⟨h', c1, c2, c3⟩ := c_value hf f5 (hN9.2.2.2.2.1 k q).2.2.1 (hN9.2.2.2.2.2.1 (k / 2) (by omega)) v1
    have hb := c3
    unfold bnd at hb
    have lim' : F_X7_limited h' (zi v).toInt64 (0 : Int32) (9999 : Int32) = nI (svOf N l k) := by
      rw [zi_64 (by omega), show (0 : Int32) = zi 0 from rfl, show (9999 : Int32) = zi 9999 from rfl, c_limited (by omega) (by omega) (by omega), nI_zi, v3]
    rw [if_neg (nI_ge q (by omega)), a5, a8, c1, Option.bind_some]
    dsimp only
    rw [lim', put_in (by omega) (by omega)]
    refine ⟨_, rfl, nI_1 k, q, (i3'.trans (c2.mono (fun i hi => Or.inr hi))).trans (Fr.pu (Or.inl rfl)), fun x hx => ?_⟩
    dsimp only
    rw [pu_get]
    by_cases y : x = k
    · rw [if_pos ⟨rfl, y⟩, y]
    · rw [if_neg (fun z => y z.2), (c2 6 (by omega)).1]
      exact i4' x (by omega)
  · obtain rfl : k = 2 * wE N := by omega
    left
    rw [if_pos (nI_le (Nat.le_refl _) (by omega))]
    exact ⟨_, rfl, i3', i4'⟩
/-- what both have read when the text is read without an error -/
theorem read_end {t : Int32} {p : Nat} {hs : Bool} (hn : n ≤ 700) (J : JT b n g r p) (ng : NG g r N) (hg : HG g r hs p) (he : sk b n p = n) : ∃ g' N', Bc (t, g) = some (.inr (0, g')) ∧ Fr (fun a => a = 6 ∨ a = 12) g g' ∧ WN N' ∧ CN g' 3 N' ∧ RN r 125 N' ∧ RS r 125 N' ∧ RP r 125 P0 := by
  obtain ⟨h1, h2, h3, h4, h5, l, h6⟩ := hg
  obtain ⟨j1, j2, j3, j4, j5, j6, j7, j8⟩ := J
  have hpn := j3.1
  have kk : g.1 1 7 = (258 : Int32) := by
    rw [j3.2.2.2.1, he]
    unfold kd
    rw [if_neg (Nat.lt_irrefl _)]
    rfl
  have rp : RP r 125 P0 := ⟨h4, fun t ht => absurd ht (Nat.not_lt_zero _)⟩
  rw [Bc_S, if_pos (Or.inr (Or.inr kk)), if_neg (fun z => z j5), h1, j5]
  cases hs with
  | false =>
    rw [if_pos (show fl false = 0 from rfl)]
    exact ⟨g, N, rfl, Fr.refl g, ng.2.2.1, ng.1, ng.2.1, Or.inl ⟨h3, ng.2.2.2.1⟩, rp⟩
  | true =>
    obtain ⟨g', a1, a2, a3⟩ := c_price ng.1 ng.2.2.1 h6 (by omega)
    obtain ⟨f1, f2, f3, f4, f5, f6, f7, f8⟩ := h6
    have hN9 := ng.2.2.1
    have f7 : 2 * offs l ≤ 3 * p + 1 := f7
    have f8 : ∀ c d : Int, ∃ st, evs c d l [] = some st ∧ st.length = 1 := f8
    have e0 : g'.1 1 10 = 0 := by rw [(a2 1 (by omega)).1]; exact j5
    rw [if_neg (show ¬ fl true = 0 by decide), a1, Option.bind_some, e0]
    refine ⟨g', addS N (svOf N l), rfl, a2, ⟨hN9.1, hN9.2.1, hN9.2.2.1, hN9.2.2.2.1, fun a ha => ?_, hN9.2.2.2.2.2.1, hN9.2.2.2.2.2.2⟩, ?_, ng.2.1, Or.inr ⟨h3, l, f3, by omega, f5, laid_shift (p := 0) f4, fun x hx => ?_⟩, rp⟩
    · have ha : a < 2 * wE N := ha
      obtain ⟨b1, b2, b3, b4, b5⟩ := hN9.2.2.2.2.1 a ha
      refine ⟨b1, b2, b3, ?_, b5⟩
      show svOf N l a ≤ 9999
      unfold svOf
      omega
    · obtain ⟨k1, k2, k3, k4, k5, k6, k7⟩ := ng.1
      have co : ∀ t, t ≠ 6 → t ≠ 12 → g'.1 t = g.1 t := fun t h1 h2 => (a2 t (by omega)).1
      refine ⟨by rw [co 3 (by omega) (by omega)]; exact k1, by rw [co 3 (by omega) (by omega)]; exact k2, by rw [co 3 (by omega) (by omega)]; exact k3, by rw [co 3 (by omega) (by omega)]; exact k4, fun a ha => ?_, fun e he => ?_, fun d hd => ?_⟩
      · rw [co (3 + 1) (by omega) (by omega), co (3 + 2) (by omega) (by omega), co (3 + 4) (by omega) (by omega)]
        exact ⟨(k5 a ha).1, (k5 a ha).2.1, a3 a ha, (k5 a ha).2.2.2⟩
      · rw [co (3 + 5) (by omega) (by omega)]
        exact k6 e he
      · rw [co (3 + 6) (by omega) (by omega)]
        exact k7 d hd
    · obtain ⟨v, v1, v2, v3⟩ := svOf_ok (N := N) (x := x) f8
      exact ⟨v, v1, v3⟩
end PRC
