/-! THE READERS' END: the services are priced -/
def addS (N : NT) (sv : Nat → Nat) : NT := (fun i a => if i = 6 then sv a else N.1 i a, N.2)
def P0 : PT := (0, fun _ => 0, fun _ => 0, fun _ _ => 0)
def valOf (N : NT) (l : List Stq) (x : Nat) : Int := ((evs (wCo N x) (wDe N (x / 2)) l []).getD []).headD 0
def svOf (N : NT) (l : List Stq) (x : Nat) : Nat := (max 0 (min 9999 (valOf N l x))).toNat
section PRC
variable {b : Nat → Nat} {n : Nat} {g r : PH} {N : NT}
theorem laid_shift {f : Nat → Int32} {a : Nat} : ∀ {p : Nat} {l : List Stq}, laid f (a + p) l → laid (fun j => f (a + j)) p l
  | _, [], _ => trivial
  | p, s :: t, h => ⟨h.1, h.2.1, laid_shift (p := p + wdt s) (by rw [← Nat.add_assoc]; exact h.2.2)⟩
theorem svOf_ok {l : List Stq} {x : Nat} (h : ∀ c d : Int, ∃ st, evs c d l [] = some st ∧ st.length = 1) : ∃ v : Int, evs (wCo N x) (wDe N (x / 2)) l [] = some [v] ∧ valOf N l x = v ∧ (svOf N l x : Int) = max 0 (min 9999 v) := by
  obtain ⟨st, h1, h2⟩ := h (wCo N x) (wDe N (x / 2))
  match st, h2 with
  | [v], _ =>
    have e : valOf N l x = v := by unfold valOf; rw [h1]; rfl
    exact ⟨v, h1, e, by unfold svOf; rw [e]; omega⟩
  | [], h2 => cases h2
  | _ :: _ :: _, h2 => cases h2
theorem c_price {l : List Stq} {p : Nat} (hc : CN g 3 N) (hN9 : WN N) (F : FK g r l p 1) (hp : p ≤ 700) : ∃ g', F_X6_priceServices g = some g' ∧ Fr (fun a => a = 6 ∨ a = 12) g g' ∧ ∀ x, x < 2 * wE N → g'.1 6 x = nI (svOf N l x) := by
  have hE := hN9.2.2.1
  obtain ⟨f1, f2, -, -, f5, f6, -, f8⟩ := F
  unfold F_X6_priceServices
  refine loop_ind0 (σ := Int32 × PH) (fun k s => s.1 = nI k ∧ k ≤ 2 * wE N ∧ Fr (fun a => a = 6 ∨ a = 12) g s.2 ∧ ∀ x, x < k → s.2.1 6 x = nI (svOf N l x)) _ (2 * wE N) ⟨rfl, Nat.zero_le _, Fr.refl g, fun x hx => absurd hx (Nat.not_lt_zero _)⟩ ?_
  rintro k ⟨s1, s2⟩ ⟨e1, i2', i3', i4'⟩
  dsimp only at e1 i3' i4' ⊢
  subst e1
  have a3 : s2.1 3 2 = nI (wE N) := by rw [(i3' 3 (by omega)).1]; exact hc.2.2.1
  rw [a3, i2, nI_mul]
  rcases Nat.lt_or_ge k (2 * wE N) with q | q
  · right
    refine ⟨q, ?_⟩
    have a5 : F_X7_at 28 s2 5 (nI k) = nI (wCo N k) := by
      rw [at_in (by omega) (by omega), (i3' 5 (by omega)).1]
      exact (hc.2.2.2.2.1 k q).2.1
    have a8 : F_X7_at 14 s2 8 (nI k / nI 2) = nI (wDe N (k / 2)) := by
      rw [nI_div (by omega) (by omega), at_in (by omega) (by omega), (i3' 8 (by omega)).1]
      exact hc.2.2.2.2.2.1 (k / 2) (by omega)
    have hf : CF s2 l := ⟨by rw [(i3' 10 (by omega)).1]; exact f1, by omega, fun i s hs => by rw [(i3' 11 (by omega)).1]; exact f2 i s hs⟩
    obtain ⟨v, v1, v2, v3⟩ := svOf_ok (N := N) (x := k) f8
    obtain ⟨h', c1, c2, c3⟩ := c_value hf f5 (hN9.2.2.2.2.1 k q).2.2.1 (hN9.2.2.2.2.2.1 (k / 2) (by omega)) v1
    have hb := c3
    unfold bnd at hb
    have lim' : F_X7_limited h' (zi v).toInt64 (0 : Int32) (9999 : Int32) = nI (svOf N l k) := by
      rw [zi_64 (by omega), show (0 : Int32) = zi 0 from rfl, show (9999 : Int32) = zi 9999 from rfl, c_limited (by omega) (by omega) (by omega), nI_zi, v3]
    rw [if_neg (nI_ge q (by omega)), a5, a8, c1, Option.bind_some]
    dsimp only
    rw [lim', put_in (by omega) (by omega)]
    refine ⟨_, rfl, nI_1 k, q, (i3'.trans (c2.mono (fun i hi => Or.inr hi))).trans (Fr.pu (Or.inl rfl)), fun x hx => ?_⟩
    dsimp only
    rw [pu_get]
    by_cases y : x = k
    · rw [if_pos ⟨rfl, y⟩, y]
    · rw [if_neg (fun z => y z.2), (c2 6 (by omega)).1]
      exact i4' x (by omega)
  · obtain rfl : k = 2 * wE N := by omega
    left
    rw [if_pos (nI_le (Nat.le_refl _) (by omega))]
    exact ⟨_, rfl, i3', i4'⟩
end PRC
