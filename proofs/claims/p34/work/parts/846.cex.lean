/-! THE CLASS'S ROUTES: approaches, returns, distances -/
theorem min_I {a b : Nat} (ha : a < 2 ^ 31) (hb : b < 2 ^ 31) : (if nI a < nI b then nI a else nI b) = nI (min b a) := by
  by_cases q : a < b
  · rw [if_pos (nI_lt q hb), Nat.min_eq_right (by omega)]
  · rw [if_neg (nI_nlt (by omega) ha), Nat.min_eq_left (by omega)]
theorem en_le {K B : Nat} {o : Option Nat} (h : ∀ v, o = some v → v ≤ B) (hB : B ≤ K) : en K o ≤ K := by
  cases o with
  | none => exact Nat.le_refl _
  | some v => exact Nat.le_trans (h v rfl) hB
section CEX
variable {h : PH} {N : NT}
theorem c_cost {z : Nat} (hN : WN N) (hc : CN h 14 N) (hz : z < 2 * wE N) : F_X7_at 28 h 16 (nI z) = nI (wCo N z) := by
  have hE := hN.2.2.1
  rw [at_in (by omega) (by omega)]
  exact (hc.2.2.2.2.1 z hz).2.1
theorem c_dh {x y : Nat} (hN : WN N) (hd : CD h N (2 * wE N)) (hx : x < 2 * wE N) (hy : y < 2 * wE N) : F_X7_at 784 h 22 (nI x * (28 : Int32) + nI y) = nI (en 100000000 (wDh N x y)) := by
  have hE := hN.2.2.1
  rw [nI_M, at_in (by omega) (by omega)]
  exact hd x y hx hy
theorem c_app {x v : Nat} (hN : WN N) (hc : CN h 14 N) (hd : CD h N (2 * wE N)) (hx : x < 2 * wE N) (hv : v < 8) : F_X5_approach h (nI v) (nI x) = some (nI (en 100000000 (wApp N v x))) := by
  have hE := hN.2.2.1
  have hn := hN.1
  have tlt : ∀ z, z < 2 * wE N → wTl N z < 8 := fun z hz => by have := (hN.2.2.2.2.1 z hz).1; omega
  unfold F_X5_approach wApp
  rw [c_start hN hc hx, c_lim hc]
  by_cases q : wTl N x = v
  · rw [if_neg (by rw [q]; exact fun z => z rfl), if_pos q]
    rfl
  · have q2 : ¬ nI (wTl N x) = nI v := fun z => q ((nI_eq (by have := tlt x hx; omega) (by omega)).mp z)
    rw [if_pos q2, if_neg q]
    refine loop_to (fun k => (nI (en 100000000 (fapp N v x k)), nI k)) (2 * wE N) rfl (fun k hk => ?_) ?_
    · dsimp only
      have b1 : en 100000000 (fapp N v x k) ≤ 100000000 := en_le (fun w hw => fapp_le hN k w (by omega) hw) (by omega)
      have b2 : en 100000000 (wDh N k x) ≤ 100000000 := en_le (fun w hw => wDh_le hN hw) (by omega)
      have hck : wCo N k ≤ 99 := (hN.2.2.2.2.1 k hk).2.2.1
      rw [if_neg (nI_ge hk (by omega)), c_start hN hc hk, c_cost hN hc hk, c_dh hN hd hk hx, nI_add, min_I (by omega) (by omega), en_min2 (fun w hw => by have := fapp_le hN k w (by omega) hw; omega) (fun w hw => by have := wDh_le hN hw; omega), nI_1]
      by_cases z : wTl N k = v
      · rw [if_neg (by rw [z]; exact fun z => z rfl)]
        show _ = some (Sum.inl (nI (en 100000000 (if wTl N k = v then _ else _)), nI (k + 1)))
        rw [if_pos z]
      · have z2 : ¬ nI (wTl N k) = nI v := fun y => z ((nI_eq (by have := tlt k hk; omega) (by omega)).mp y)
        rw [if_pos z2]
        show _ = some (Sum.inl (nI (en 100000000 (if wTl N k = v then _ else _)), nI (k + 1)))
        rw [if_neg z]
    · exact if_pos (nI_le (Nat.le_refl _) (by omega))
theorem c_ret {x v : Nat} (hN : WN N) (hc : CN h 14 N) (hd : CD h N (2 * wE N)) (hx : x < 2 * wE N) (hv : v < 8) : F_X5_returnTo h (nI x) (nI v) = some (nI (en 100000000 (wRet N x v))) := by
  have hE := hN.2.2.1
  have hn := hN.1
  have tlt : ∀ z, z < 2 * wE N → wHd N z < 8 := fun z hz => by have := (hN.2.2.2.2.1 _ (wFl_lt hz)).1; unfold wHd; omega
  unfold F_X5_returnTo wRet
  rw [c_end hN hc hx, c_lim hc]
  by_cases q : wHd N x = v
  · rw [if_neg (by rw [q]; exact fun z => z rfl), if_pos q]
    rfl
  · have q2 : ¬ nI (wHd N x) = nI v := fun z => q ((nI_eq (by have := tlt x hx; omega) (by omega)).mp z)
    rw [if_pos q2, if_neg q]
    refine loop_to (fun k => (nI (en 100000000 (fret N x v k)), nI k)) (2 * wE N) rfl (fun k hk => ?_) ?_
    · dsimp only
      have b1 : en 100000000 (fret N x v k) ≤ 100000000 := en_le (fun w hw => fret_le hN k w (by omega) hw) (by omega)
      have b2 : en 100000000 (wDh N x k) ≤ 100000000 := en_le (fun w hw => wDh_le hN hw) (by omega)
      have hck : wCo N k ≤ 99 := (hN.2.2.2.2.1 k hk).2.2.1
      rw [if_neg (nI_ge hk (by omega)), c_end hN hc hk, c_cost hN hc hk, c_dh hN hd hx hk, nI_add, Nat.add_comm (en 100000000 (wDh N x k)), min_I (by omega) (by omega), en_min2 (fun w hw => by have := fret_le hN k w (by omega) hw; omega) (fun w hw => by have := wDh_le hN hw; omega), nI_1]
      by_cases z : wHd N k = v
      · rw [if_neg (by rw [z]; exact fun z => z rfl)]
        show _ = some (Sum.inl (nI (en 100000000 (if wHd N k = v then _ else _)), nI (k + 1)))
        rw [if_pos z]
      · have z2 : ¬ nI (wHd N k) = nI v := fun y => z ((nI_eq (by have := tlt k hk; omega) (by omega)).mp y)
        rw [if_pos z2]
        show _ = some (Sum.inl (nI (en 100000000 (if wHd N k = v then _ else _)), nI (k + 1)))
        rw [if_neg z]
    · exact if_pos (nI_le (Nat.le_refl _) (by omega))
/-- the tables as they should stand -/
def CRt (h : PH) (N : NT) : Prop := CD h N (2 * wE N) ∧ (∀ x v, x < 2 * wE N → v < wN N → h.1 23 (v * 28 + x) = nI (en 100000000 (wApp N v x)) ∧ h.1 24 (x * 8 + v) = nI (en 100000000 (wRet N x v))) ∧ (∀ u v, u < wN N → v < wN N → h.1 25 (u * 8 + v) = nI (en 100000000 (wDst N u v)))
theorem c_dst {u v : Nat} (hN : WN N) (hc : CN h 14 N) (hr : ∀ z, z < 2 * wE N → h.1 24 (z * 8 + v) = nI (en 100000000 (wRet N z v))) (hu : u < 8) (hv : v < 8) : F_X5_between h (nI u) (nI v) = some (nI (en 100000000 (wDst N u v))) := by
  have hE := hN.2.2.1
  have hn := hN.1
  have tlt : ∀ z, z < 2 * wE N → wTl N z < 8 := fun z hz => by have := (hN.2.2.2.2.1 z hz).1; omega
  unfold F_X5_between wDst
  rw [c_lim hc]
  by_cases q : u = v
  · rw [if_neg (by rw [q]; exact fun z => z rfl), if_pos q]
    rfl
  · have q2 : ¬ nI u = nI v := fun z => q ((nI_eq (by omega) (by omega)).mp z)
    rw [if_pos q2, if_neg q]
    refine loop_to (fun k => (nI (en 100000000 (fdst N u v k)), nI k)) (2 * wE N) rfl (fun k hk => ?_) ?_
    · dsimp only
      have b1 : en 100000000 (fdst N u v k) ≤ 100000000 := en_le (fun w hw => fdst_le hN k w (by omega) hw) (by omega)
      have b2 : en 100000000 (wRet N k v) ≤ 100000000 := en_le (fun w hw => wRet_le hN hw) (by omega)
      have hck : wCo N k ≤ 99 := (hN.2.2.2.2.1 k hk).2.2.1
      rw [if_neg (nI_ge hk (by omega)), c_start hN hc hk, c_cost hN hc hk, nI_8, at_in (by omega) (by omega), hr k hk, nI_add, min_I (by omega) (by omega), en_min2 (fun w hw => by have := fdst_le hN k w (by omega) hw; omega) (fun w hw => by have := wRet_le hN hw; omega), nI_1]
      by_cases z : wTl N k = u
      · rw [if_neg (by rw [z]; exact fun z => z rfl)]
        show _ = some (Sum.inl (nI (en 100000000 (if wTl N k = u then _ else _)), nI (k + 1)))
        rw [if_pos z]
      · have z2 : ¬ nI (wTl N k) = nI u := fun y => z ((nI_eq (by have := tlt k hk; omega) (by omega)).mp y)
        rw [if_pos z2]
        show _ = some (Sum.inl (nI (en 100000000 (if wTl N k = u then _ else _)), nI (k + 1)))
        rw [if_neg z]
    · exact if_pos (nI_le (Nat.le_refl _) (by omega))
def S2225 (a : Nat) : Prop := 22 ≤ a ∧ a ≤ 25
theorem CD.same {h h' : PH} {k : Nat} (c : CD h N k) (e : h'.1 22 = h.1 22) : CD h' N k := fun x y hx hy => by rw [e]; exact c x y hx hy
theorem c_explore (hN : WN N) (hc : CN h 14 N) : ∃ h', F_X5_explore h = some h' ∧ Fr S2225 h h' ∧ CRt h' N := by
  have hE := hN.2.2.1
  have hn := hN.1
  obtain ⟨h1, e1, f1, d1⟩ := c_mark hN hc
  have hc1 : CN h1 14 N := hc.fr f1 (fun i hi => by show ¬ (14 + i = 22); omega)
  obtain ⟨h2, e2, f2, d2⟩ := c_deads hN hc1 d1
  have g2 : Fr S2225 h h2 := (f1.trans f2).mono (fun i hi => by rw [hi]; exact ⟨by omega, by omega⟩)
  unfold F_X5_explore
  rw [e1]
  show ∃ h', (F_X5_findDeadheads h1).bind _ = some h' ∧ _
  rw [e2]
  show ∃ h', loop _ _ = some h' ∧ _
  have nC : ∀ {g : PH}, Fr S2225 h g → CN g 14 N := fun fr => hc.fr fr (fun i hi => by show ¬ (22 ≤ 14 + i ∧ 14 + i ≤ 25); omega)
  refine loop_ind0 (fun k (s : Int32 × PH) => s.1 = nI k ∧ k ≤ 2 * wE N ∧ Fr S2225 h s.2 ∧ CD s.2 N (2 * wE N) ∧ ∀ x v, x < k → v < wN N → s.2.1 23 (v * 28 + x) = nI (en 100000000 (wApp N v x)) ∧ s.2.1 24 (x * 8 + v) = nI (en 100000000 (wRet N x v))) _ (2 * wE N) ⟨rfl, Nat.zero_le _, g2, d2, fun x v hx => absurd hx (Nat.not_lt_zero _)⟩ ?_
  rintro k ⟨s1, s2⟩ ⟨rfl, hk, fr, dd, inv⟩
  dsimp only at fr dd inv ⊢
  rw [c_lim (nC fr)]
  rcases Nat.lt_or_ge k (2 * wE N) with q | q
  · refine Or.inr ⟨q, ?_⟩
    rw [if_neg (nI_ge q (by omega))]
    refine ex_inl (loop_ind0 (fun j (s : Int32 × PH) => s.1 = nI j ∧ j ≤ wN N ∧ Fr S2225 h s.2 ∧ CD s.2 N (2 * wE N) ∧ ∀ x v, v < wN N → (x < k ∨ (x = k ∧ v < j)) → s.2.1 23 (v * 28 + x) = nI (en 100000000 (wApp N v x)) ∧ s.2.1 24 (x * 8 + v) = nI (en 100000000 (wRet N x v))) _ (wN N) ⟨rfl, Nat.zero_le _, fr, dd, fun x v hv hx => ?_⟩ ?_)
    · rcases hx with hx | ⟨-, hx⟩
      · exact inv x v hx hv
      · omega
    rintro j ⟨r1, r2⟩ ⟨rfl, hj, fr2, dd2, inv2⟩
    dsimp only at fr2 dd2 inv2 ⊢
    rw [(nC fr2).1]
    rcases Nat.lt_or_ge j (wN N) with q2 | q2
    · refine Or.inr ⟨q2, ?_⟩
      have f3 : Fr S2225 h (pu r2 23 (j * 28 + k) (nI (en 100000000 (wApp N j k)))) := fr2.trans (Fr.pu ⟨by omega, by omega⟩)
      have dd3 : CD (pu r2 23 (j * 28 + k) (nI (en 100000000 (wApp N j k)))) N (2 * wE N) := dd2.same (pu_o _ _ _ _ 22 (by omega)).1
      rw [if_neg (nI_ge q2 (by omega)), c_app hN (nC fr2) dd2 q (by omega)]
      show ∃ s', (F_X5_returnTo (F_X7_put 224 r2 23 (nI j * (28 : Int32) + nI k) _) (nI k) (nI j)).bind _ = some (Sum.inl s') ∧ _
      rw [nI_M, put_in (by omega) (by omega), c_ret hN (nC f3) dd3 q (by omega)]
      refine ⟨_, rfl, nI_1 j, q2, ?_, ?_, ?_⟩
      · rw [nI_8, put_in (by omega) (by omega)]
        exact f3.trans (Fr.pu ⟨by omega, by omega⟩)
      · rw [nI_8, put_in (by omega) (by omega)]
        exact dd3.same (pu_o _ _ _ _ 22 (by omega)).1
      · intro x v hv hx
        rw [nI_8, put_in (by omega) (by omega)]
        dsimp only
        rw [pu_get, pu_get, pu_get, pu_get]
        by_cases e : x = k ∧ v = j
        · obtain ⟨rfl, rfl⟩ := e
          constructor
          · rw [if_neg (by omega), if_pos ⟨rfl, rfl⟩]
          · rw [if_pos ⟨rfl, rfl⟩]
        · obtain ⟨a1, a2⟩ := inv2 x v hv (by omega)
          constructor
          · rw [if_neg (by omega), if_neg (fun z => cell_ne (n := 28) (by omega) (by omega) (fun y => e ⟨y.2, y.1⟩) z.2)]
            exact a1
          · rw [if_neg (fun z => cell_ne (n := 8) (by omega) (by omega) e z.2), if_neg (by omega)]
            exact a2
    · obtain rfl : j = wN N := by omega
      exact Or.inl ⟨_, if_pos (nI_le (Nat.le_refl _) (by omega)), _, rfl, nI_1 k, q, fr2, dd2, fun x v hx hv => inv2 x v hv (by omega)⟩
  · obtain rfl : k = 2 * wE N := by omega
    refine Or.inl ?_
    rw [if_pos (nI_le (Nat.le_refl _) (by omega))]
    refine ex_inr (loop_ind0 (fun i (s : Int32 × PH) => s.1 = nI i ∧ i ≤ wN N ∧ Fr S2225 h s.2 ∧ CD s.2 N (2 * wE N) ∧ (∀ x v, x < 2 * wE N → v < wN N → s.2.1 23 (v * 28 + x) = nI (en 100000000 (wApp N v x)) ∧ s.2.1 24 (x * 8 + v) = nI (en 100000000 (wRet N x v))) ∧ ∀ u v, u < i → v < wN N → s.2.1 25 (u * 8 + v) = nI (en 100000000 (wDst N u v))) _ (wN N) ⟨rfl, Nat.zero_le _, fr, dd, inv, fun u v hu => absurd hu (Nat.not_lt_zero _)⟩ ?_)
    rintro i ⟨t1, t2⟩ ⟨rfl, hi, fr3, dd3, in3, inv3⟩
    dsimp only at fr3 dd3 in3 inv3 ⊢
    rw [(nC fr3).1]
    rcases Nat.lt_or_ge i (wN N) with q2 | q2
    · refine Or.inr ⟨q2, ?_⟩
      rw [if_neg (nI_ge q2 (by omega))]
      refine ex_inl (loop_ind0 (fun j (s : Int32 × PH) => s.1 = nI j ∧ j ≤ wN N ∧ Fr S2225 h s.2 ∧ CD s.2 N (2 * wE N) ∧ (∀ x v, x < 2 * wE N → v < wN N → s.2.1 23 (v * 28 + x) = nI (en 100000000 (wApp N v x)) ∧ s.2.1 24 (x * 8 + v) = nI (en 100000000 (wRet N x v))) ∧ ∀ u v, v < wN N → (u < i ∨ (u = i ∧ v < j)) → s.2.1 25 (u * 8 + v) = nI (en 100000000 (wDst N u v))) _ (wN N) ⟨rfl, Nat.zero_le _, fr3, dd3, in3, fun u v hv hu => ?_⟩ ?_)
      · rcases hu with hu | ⟨-, hu⟩
        · exact inv3 u v hu hv
        · omega
      rintro j ⟨w1, w2⟩ ⟨rfl, hj, fr4, dd4, in4, inv4⟩
      dsimp only at fr4 dd4 in4 inv4 ⊢
      rw [(nC fr4).1]
      rcases Nat.lt_or_ge j (wN N) with q3 | q3
      · refine Or.inr ⟨q3, ?_⟩
        rw [if_neg (nI_ge q3 (by omega)), c_dst hN (nC fr4) (fun z hz => (in4 z j hz q3).2) (by omega) (by omega)]
        show ∃ s', some (Sum.inl (nI j + (1 : Int32), F_X7_put 64 w2 25 (nI i * (8 : Int32) + nI j) (nI (en 100000000 (wDst N i j))))) = some (Sum.inl s') ∧ _
        rw [nI_8, put_in (by omega) (by omega)]
        refine ⟨_, rfl, nI_1 j, q3, fr4.trans (Fr.pu ⟨by omega, by omega⟩), dd4.same (pu_o _ _ _ _ 22 (by omega)).1, fun x v hx hv => ?_, fun u v hv hu => ?_⟩
        · dsimp only
          rw [(pu_o w2 25 _ _ 23 (by omega)).1, (pu_o w2 25 _ _ 24 (by omega)).1]
          exact in4 x v hx hv
        · dsimp only
          rw [pu_get]
          by_cases e : u = i ∧ v = j
          · obtain ⟨rfl, rfl⟩ := e
            rw [if_pos ⟨rfl, rfl⟩]
          · rw [if_neg (fun z => cell_ne (n := 8) (by omega) (by omega) e z.2)]
            exact inv4 u v hv (by omega)
      · obtain rfl : j = wN N := by omega
        exact Or.inl ⟨_, if_pos (nI_le (Nat.le_refl _) (by omega)), _, rfl, nI_1 i, q2, fr4, dd4, in4, fun u v hu hv => inv4 u v hv (by omega)⟩
    · obtain rfl : i = wN N := by omega
      exact Or.inl ⟨_, if_pos (nI_le (Nat.le_refl _) (by omega)), _, rfl, fr3, dd3, in3, inv3⟩
end CEX
