/-! HOW MANY ARCS A PLAN HAS; what a search for the best place costs -/
def aS (P : PT) : Nat := sumN (pL P) (pT P)
theorem flat_ex (f : Nat → Nat) : ∀ (n i : Nat), i < sumN f n → ∃ t k, t < n ∧ k < f t ∧ i = sumN f t + k
  | 0, i, h => absurd h (Nat.not_lt_zero _)
  | n + 1, i, h => by
    have h : i < sumN f n + f n := h
    rcases Nat.lt_or_ge i (sumN f n) with q | q
    · obtain ⟨t, k, a, b, c⟩ := flat_ex f n i q
      exact ⟨t, k, by omega, b, c⟩
    · exact ⟨n, i - sumN f n, by omega, by omega, by omega⟩
theorem aS_le {N : NT} {P : PT} (hw : WQ N P) (hs : DS P) : aS P ≤ wE N := by
  have ex : ∀ i : Nat, ∃ y : Nat, i < aS P → ∃ t k, t < pT P ∧ k < pL P t ∧ i = sumN (pL P) t + k ∧ y = pA P t k / 2 := fun i => by
    by_cases q : i < aS P
    · obtain ⟨t, k, a, b, c⟩ := flat_ex (pL P) (pT P) i q
      exact ⟨pA P t k / 2, fun _ => ⟨t, k, a, b, c, rfl⟩⟩
    · exact ⟨0, fun z => absurd z q⟩
  obtain ⟨f, hf⟩ := Classical.axiomOfChoice ex
  refine pigeon (wE N) (aS P) f (fun i hi => ?_) (fun i j hi hj q => ?_)
  · obtain ⟨t, k, a1, a2, -, a4⟩ := hf i hi
    have := (hw.2 t a1).2.2 k a2
    omega
  · obtain ⟨t, k, a1, a2, a3, a4⟩ := hf i hi
    obtain ⟨u, l, b1, b2, b3, b4⟩ := hf j hj
    obtain ⟨rfl, rfl⟩ := hs t k u l a1 a2 b1 b2 (by omega)
    omega
theorem sq_add (S a : Nat) : (S + a) * (S + a) = S * S + 2 * (S * a) + a * a := by
  rw [Nat.add_mul, Nat.mul_add, Nat.mul_add, Nat.mul_comm a S]
  omega
theorem bCe_eq (P : PT) (t : Nat) : bCe P t = 6 * (pL P t * pL P t) + 16 * pL P t + 10 := by
  unfold bCe
  generalize pL P t = l
  rw [Nat.add_mul, Nat.mul_add, Nat.mul_left_comm]
  omega
theorem bSl_eq (P : PT) (t : Nat) : bSl P t = 16 * (pL P t * pL P t) + 36 * pL P t + 20 := by
  unfold bSl
  generalize pL P t = l
  rw [Nat.add_mul, Nat.mul_add, Nat.mul_left_comm]
  omega
theorem sum_bCe (P : PT) : ∀ n, sumN (bCe P) n ≤ 6 * (sumN (pL P) n * sumN (pL P) n) + 16 * sumN (pL P) n + 10 * n
  | 0 => Nat.zero_le _
  | n + 1 => by
    have ih := sum_bCe P n
    have e := bCe_eq P n
    show sumN (bCe P) n + bCe P n ≤ 6 * ((sumN (pL P) n + pL P n) * (sumN (pL P) n + pL P n)) + 16 * (sumN (pL P) n + pL P n) + 10 * (n + 1)
    rw [sq_add]
    omega
theorem sum_bSl (P : PT) : ∀ n, sumN (bSl P) n ≤ 16 * (sumN (pL P) n * sumN (pL P) n) + 36 * sumN (pL P) n + 20 * n
  | 0 => Nat.zero_le _
  | n + 1 => by
    have ih := sum_bSl P n
    have e := bSl_eq P n
    show sumN (bSl P) n + bSl P n ≤ 16 * ((sumN (pL P) n + pL P n) * (sumN (pL P) n + pL P n)) + 36 * (sumN (pL P) n + pL P n) + 20 * (n + 1)
    rw [sq_add]
    omega
theorem best_cnt {P : PT} {m : Nat} (h4 : pT P ≤ 4) (h : aS P ≤ m) : sumN (bCe P) (pT P) ≤ 6 * (m * m) + 16 * m + 40 ∧ sumN (bSl P) (pT P) ≤ 16 * (m * m) + 36 * m + 80 := by
  have a := sum_bCe P (pT P)
  have b := sum_bSl P (pT P)
  have h : sumN (pL P) (pT P) ≤ m := h
  have q := Nat.mul_le_mul h h
  omega
theorem best_c8 {P : PT} (h4 : pT P ≤ 4) (h : aS P ≤ 8) : sumN (bCe P) (pT P) ≤ 552 ∧ sumN (bSl P) (pT P) ≤ 1392 := by
  have := best_cnt h4 h
  omega
theorem best_c7 {P : PT} (h4 : pT P ≤ 4) (h : aS P ≤ 7) : sumN (bCe P) (pT P) ≤ 446 ∧ sumN (bSl P) (pT P) ≤ 1116 := by
  have := best_cnt h4 h
  omega
theorem pL_aS {P : PT} {t : Nat} (ht : t < pT P) : pL P t ≤ aS P := sumN_ge ht
theorem aS_dpl {P : PT} {t k : Nat} (ht : t < pT P) (hk : k < pL P t) : aS (dpl P t k) + 1 = aS P := by
  have h := sumN_upd (f := pL P) (g := pL (dpl P t k)) ht (fun j hj hne => setT_L2 P hne)
  have h1 : pL (dpl P t k) t = pL P t - 1 := setT_L1 _ _ _ _
  have h2 : aS (dpl P t k) = sumN (pL (dpl P t k)) (pT P) := rfl
  have h3 : aS P = sumN (pL P) (pT P) := rfl
  omega
