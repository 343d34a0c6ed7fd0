/-- the plan with the arc at place k of tour t turned round -/
def fplA (a : Nat → Nat) (k : Nat) : Nat → Nat := fun i => if i = k then wFl (a k) else a i
def fpl (P : PT) (t k : Nat) : PT := setT P t (pL P t) (fplA (pA P t) k)
section OPF
variable {h : PH} {N : NT} {P : PT} {H : HT}
theorem fplA_ins (a : Nat → Nat) (k : Nat) : fplA a k = insA (delA a k) k (wFl (a k)) := by
  funext i
  unfold fplA insA delA
  by_cases h1 : i < k
  · rw [if_neg (by omega), if_pos h1, if_pos h1]
  · rw [if_neg h1]
    by_cases h2 : i = k
    · rw [if_pos h2, if_pos h2]
    · rw [if_neg h2, if_neg h2, if_neg (by omega)]
      congr 1
      omega
theorem fplA_2 (a : Nat → Nat) (k : Nat) : fplA (fplA a k) k = a := by
  funext i
  unfold fplA
  by_cases h2 : i = k
  · rw [if_pos h2, if_pos rfl, wFl_fl, h2]
  · rw [if_neg h2, if_neg h2]
theorem fpl_L {t k u : Nat} : pL (fpl P t k) u = pL P u := by
  unfold fpl
  rw [setT_L]
  split
  · rename_i q; rw [q]
  · rfl
theorem fpl_A {t k u i : Nat} : pA (fpl P t k) u i = if u = t ∧ i = k then wFl (pA P t k) else pA P u i := by
  unfold fpl
  rw [setT_A]
  by_cases q : u = t
  · rw [if_pos q]
    unfold fplA
    by_cases q2 : i = k
    · rw [if_pos q2, if_pos ⟨q, q2⟩]
    · rw [if_neg q2, if_neg (fun z => q2 z.2), q]
  · rw [if_neg q, if_neg (fun z => q z.1)]
theorem fpl_2 (t k : Nat) : fpl (fpl P t k) t k = P := by
  unfold fpl
  rw [setT_L1, setT_A1, setT_setT, fplA_2, setT_id]
def wTurn (N : NT) (P : PT) (t k : Nat) : Bool := (lk N (pH P t) (pv (pA P t) k) (some (wFl (pA P t k)))).isSome && (lk N (pH P t) (some (wFl (pA P t k))) (nx (pA P t) (pL P t) (k + 1))).isSome
theorem turn_DV {t k : Nat} (hk : k < pL P t) (hd : DV N (pH P t) (pL P t) (pA P t)) : wTurn N P t k = true ↔ DV N (pH P t) (pL P t) (fplA (pA P t) k) := by
  have h1 := (dpl_DV hk hd).1
  obtain ⟨n, hn⟩ : ∃ n, pL P t = n + 1 := ⟨pL P t - 1, by omega⟩
  unfold wTurn
  rw [hn] at hk h1 ⊢
  have e2 : pv (delA (pA P t) k) k = pv (pA P t) k := by
    have := pv_ins1 (a := delA (pA P t) k) (k := k) (x := pA P t k) (j := k) (Nat.le_refl _)
    rw [ins_del] at this
    exact this.symm
  have e3 : nx (delA (pA P t) k) n k = nx (pA P t) (n + 1) (k + 1) := by
    have := nx_ins3 (a := delA (pA P t) k) (n := n) (k := k) (x := pA P t k) (j := k) (Nat.le_refl _)
    rw [ins_del] at this
    exact this.symm
  rw [fplA_ins, DV_ins (by omega : k ≤ n), e2, e3, Bool.and_eq_true, Option.isSome_iff_ne_none, Option.isSome_iff_ne_none]
  exact ⟨fun z => ⟨h1, z.1, z.2⟩, fun z => ⟨z.2.1, z.2.2⟩⟩
theorem fpl_WQ {t k : Nat} (hw : WQ N P) (ht : t < pT P) (hk : k < pL P t) : WQ N (fpl P t k) := by
  refine hw.set (hw.2 t ht).2.1 (fun i hi => ?_)
  unfold fplA
  split
  · exact wFl_lt ((hw.2 t ht).2.2 k hk)
  · exact (hw.2 t ht).2.2 i hi
theorem fpl_WP {t k : Nat} (hp : WP N P) (ht : t < pT P) (hk : k < pL P t) (hc : wTurn N P t k = true) : WP N (fpl P t k) := by
  refine ⟨fpl_WQ hp.1 ht hk, fun u i v j hu hi hv hj e => ?_, fun u hu => ?_⟩
  · rw [fpl_L] at hi hj
    have half : ∀ w l, pA (fpl P t k) w l / 2 = pA P w l / 2 := fun w l => by
      rw [fpl_A]
      split
      · rename_i q
        rw [wFl_div, q.1, q.2]
      · rfl
    rw [half, half] at e
    exact hp.2.1 u i v j hu hi hv hj e
  · rw [fpl_L]
    by_cases q : u = t
    · subst q
      have : pA (fpl P u k) u = fplA (pA P u) k := setT_A1 _ _ _ _
      rw [this]
      exact (turn_DV hk (hp.2.2 u ht)).mp hc
    · have : pA (fpl P t k) u = pA P u := setT_A2 P q
      rw [this]
      exact hp.2.2 u hu
theorem c_turn {t k : Nat} (hw : WQ N P) (hE : wE N ≤ 14) (hc : CP h 26 P) (ht : t < pT P) (hk : k < pL P t) : Fr S2829 h (F_X3_turnRound h (nI t) (nI k)) ∧ CP (F_X3_turnRound h (nI t) (nI k)) 26 (fpl P t k) := by
  have h4 := hw.1
  have h14 := (hw.2 t ht).2.1
  have hx := (hw.2 t ht).2.2 k hk
  unfold F_X3_turnRound
  rw [nI_14, at_in (by omega) (by omega), put_in (by omega) (by omega), (hc.2 t ht).2.2 k hk, wFl_xor (by omega)]
  refine ⟨Fr.pu (Or.inr rfl), ?_, fun u hu => ?_⟩
  · rw [(pu_o _ 29 _ _ 26 (by omega)).1]
    exact hc.1
  · have hu : u < pT P := hu
    obtain ⟨b1, b2, b3⟩ := hc.2 u hu
    rw [(pu_o _ 29 _ _ (26 + 1) (by omega)).1, (pu_o _ 29 _ _ (26 + 2) (by omega)).1, fpl_L]
    refine ⟨b1, b2, fun i hi => ?_⟩
    have h14u := (hw.2 u hu).2.1
    rw [pu_get, fpl_A]
    by_cases q : u = t ∧ i = k
    · rw [if_pos q, if_pos ⟨rfl, by rw [q.1, q.2]⟩]
    · rw [if_neg q, if_neg (fun z => q (by omega))]
      exact b3 i hi
theorem r_turn {t k : Nat} (hN9 : WN N) (hw : WQ N P) (hc : RA h N P) (ht : t < pT P) (hk : k < pL P t) : ∃ h', ((ald 1556 h 124 (nI (192 + 16 * t + 2 + k))).bind fun z6 => ast 1556 h 124 (nI (192 + 16 * t + 2 + k)) (z6 ^^^ (1 : Int32))) = some h' ∧ Fr S124 h h' ∧ RA h' N (fpl P t k) := by
  have h4 := hw.1
  have hE := hN9.2.2.1
  have h14 := (hw.2 t ht).2.1
  have hx := (hw.2 t ht).2.2 k hk
  rw [ald_in (by omega) (by omega), Option.bind_some, ast_in (by omega) (by omega), (hc.2.2.2.2 t ht).2.2 k hk, wFl_xor (by omega)]
  refine ⟨_, rfl, Fr.pu (S := S124) rfl, hc.edit hN9 (Fr.pu (S := S124) rfl) (fun j hj => by rw [pu_get, if_neg (fun z => by omega)]) ⟨?_, fun u hu => ?_⟩⟩
  · rw [pu_get, if_neg (fun z => by omega)]
    exact hc.2.2.2.1
  · have hu : u < pT P := hu
    obtain ⟨b1, b2, b3⟩ := hc.2.2.2.2 u hu
    rw [pu_get, if_neg (fun z => by omega), pu_get, if_neg (fun z => by omega), fpl_L]
    refine ⟨b1, b2, fun i hi => ?_⟩
    have h14u := (hw.2 u hu).2.1
    rw [pu_get, fpl_A]
    by_cases q : u = t ∧ i = k
    · rw [if_pos q, if_pos ⟨rfl, by rw [q.1, q.2]⟩]
    · rw [if_neg q, if_neg (fun z => q (by omega))]
      exact b3 i hi
theorem c_canTurn {t k : Nat} (hN9 : WN N) (hw : WQ N P) (hc : CA h N P) (ht : t < pT P) (hk : k < pL P t) : F_X4_canTurn h (nI t) (nI k) = if wTurn N P t k then (1 : Int32) else (0 : Int32) := by
  have hE := hN9.2.2.1
  have h14 := (hw.2 t ht).2.1
  have hx := (hw.2 t ht).2.2 k hk
  have ha : arcsOK N (pL P t) (pA P t) := (hw.2 t ht).2.2
  unfold F_X4_canTurn wTurn
  have e1 : F_X3_arcOrDepot h (nI t) (nI k) = nI (pA P t k) := by
    rw [c_nx hw hc.2.2 ht (by omega)]
    unfold nx
    rw [if_pos hk]
    rfl
  have e2 : nI (wFl (pA P t k)) = eA (some (wFl (pA P t k))) := rfl
  rw [c_pv hw hc.2.2 ht (by omega), e1, wFl_xor (by omega), nI_1, c_nx hw hc.2.2 ht (by omega), e2, c_link hN9 hw hc.2.1 hc.2.2 ht (fun x hx => pv_ok ha (by omega) hx) (fun x hx2 => by cases hx2; exact wFl_lt hx), c_link hN9 hw hc.2.1 hc.2.2 ht (fun x hx2 => by cases hx2; exact wFl_lt hx) (fun x hx => nx_ok ha hx), nI_add, iM]
  cases q : lk N (pH P t) (pv (pA P t) k) (some (wFl (pA P t k))) with
  | none =>
    have hb : en 100000000 (lk N (pH P t) (some (wFl (pA P t k))) (nx (pA P t) (pL P t) (k + 1))) ≤ 100000000 := en_le (fun w hw => by have := lk_le hN9 hw; exact this) (by omega)
    exact if_pos (nI_le (show 100000000 ≤ 100000000 + en 100000000 _ by omega) (show 100000000 + en 100000000 _ < 2 ^ 31 by omega))
  | some v =>
    have b1 := lk_le hN9 q
    cases q2 : lk N (pH P t) (some (wFl (pA P t k))) (nx (pA P t) (pL P t) (k + 1)) with
    | none => exact if_pos (nI_le (show 100000000 ≤ v + 100000000 by omega) (show v + 100000000 < 2 ^ 31 by omega))
    | some u =>
      have b2 := lk_le hN9 q2
      exact if_neg (nI_ge (show v + u < 100000000 by omega) (by omega))
theorem op_flip (a : Int32) (ok : okS N P H) : opOK N P H (fun h => F_L_flip h a) (fun h => F_X8_flip h a) := by
  obtain ⟨hN9, hp, hw⟩ := ok
  have hE := hN9.2.2.1
  have h4 := hp.1.1
  intro h ca ch
  rcases rng (n := wE N) (by omega) a with ⟨e, he, rfl⟩ | q
  · cases hq : wTour P e with
    | none =>
      refine ⟨2, 0, N, P, H, ⟨hN9, hp, hw⟩, ?_, fun h1 ra rh => ?_⟩
      · dsimp only
        unfold F_L_flip F_X7_flip
        rw [reqE_ok hN9 ca he, Option.bind_some, bs_r, c_tour hN9 hp.1 ca.2.2 (by omega), Option.bind_some, hq, show eA none = (-1 : Int32) from rfl, if_neg (fun z => z rfl), Option.bind_some, bs_l]
        exact out_thr (by decide) ca ch
      · dsimp only
        unfold F_X8_flip jn
        have ra0 := ra.u0 (v := 0) (j := 0) hN9
        rw [noE_ok hN9 ra0 pu_0 he, Option.bind_some]
        dsimp only
        rw [if_pos rfl, r_with hN9 hp.1 ra0.2.2.2 (by omega), Option.bind_some, hq, show eA none = (-1 : Int32) from rfl, if_neg (fun z => z rfl), fails_1 pu_0 (by decide)]
        exact r_thr hN9 hw ra rh (by decide)
    | some t =>
      obtain ⟨ht, k, hk'⟩ := wTour_lt hq
      obtain ⟨hk, hke⟩ := wPos_lt hk'
      have h14 := (hp.1.2 t ht).2.1
      have hx := (hp.1.2 t ht).2.2 k hk
      have eat : eA (some t) = nI t := rfl
      have eak : eA (some k) = nI k := rfl
      have wq := fpl_WQ hp.1 ht hk
      have d0 : pH (fpl P t k) t = pH P t := rfl
      have d1 : pL (fpl P t k) t = pL P t := setT_L1 _ _ _ _
      have d2 : pA (fpl P t k) t = fplA (pA P t) k := setT_A1 _ _ _ _
      have spot : ∀ g : PH, F_X8_tour g (nI t) + (2 : Int32) + nI k = nI (192 + 16 * t + 2 + k) := fun g => by rw [r_tour, i2, nI_add, nI_add]
      by_cases hsp : wTurn N P t k = true
      · have hp1 := fpl_WP hp ht hk hsp
        refine ⟨0, nI (wTC N (fpl P t k) t), N, fpl P t k, hpush H N P false, ⟨hN9, hp1, hw.push hN9 hp⟩, ?_, fun h1 ra rh => ?_⟩
        · dsimp only
          unfold F_L_flip F_X7_flip
          obtain ⟨g, a1, a2, a3, a4⟩ := c_rem0 hN9 hp hw ca ch
          obtain ⟨b2, b3⟩ := c_turn hp.1 hE a3.2.2 ht hk
          have c3 : CA (F_X3_turnRound g (nI t) (nI k)) N (fpl P t k) := a3.mk b2 b3
          rw [reqE_ok hN9 ca he, Option.bind_some, bs_r, c_tour hN9 hp.1 ca.2.2 (by omega), Option.bind_some, hq, eat, if_pos (eA_ne (by omega)), c_pos hN9 hp.1 ca.2.2 ht (by omega), Option.bind_some, hk', eak, c_canTurn hN9 hp.1 ca ht hk, if_pos hsp, if_pos (show ¬ (1 : Int32) = 0 by decide), a1, Option.bind_some, c_tourCost hN9 hp1.1 hp1.2.2 c3.1 c3.2.1 c3.2.2 ht, Option.bind_some, Option.bind_some, bs_r]
          exact out_val2 (a2.trans (b2.mono (fun i hi => by unfold S2829 at hi; unfold SC; omega))) c3 (a4.fr2 b2)
        · dsimp only
          unfold F_X8_flip jn
          have ra0 := ra.u0 (v := 0) (j := 0) hN9
          have rh0 := rh.u0 (v := 0) (j := 0) hw (by omega)
          obtain ⟨g1, b1, b2, b3⟩ := r_turn hN9 hp.1 ra0 ht hk
          obtain ⟨g2, c1, c2⟩ := r_costTour hN9 wq b3 (t := t) ht
          obtain ⟨g3, m1, m2, m3⟩ := r_turn hN9 wq (b3.fr3 hN9 c2) (t := t) (k := k) ht (by rw [d1]; exact hk)
          rw [fpl_2] at m3
          have f3 := (S3_of b2 c2).trans (m2.mono (fun i hi => Or.inl hi))
          have rh3 := rh0.fr hw f3 (fun i hi => by unfold S3 at hi; omega)
          obtain ⟨g4, n1, n2, n3, n4, n5⟩ := r_rem0 hN9 hp hw m3 rh3
          obtain ⟨g5, o1, o2, o3⟩ := r_turn hN9 hp.1 n4 ht hk
          obtain ⟨g6, p1, p2⟩ := r_tourCost hN9 wq hp1.2.2 o3 (t := t) ht
          have hlt := CK_dvle (K := 1000000) hN9 (wq.2 t ht).2.1 (wq.2 t ht).2.2 (hp1.2.2 t ht)
          have z0 : g3.1 122 0 = 0 := by rw [(f3 122 (by unfold S3; omega)).1]; exact pu_0
          rw [noE_ok hN9 ra0 pu_0 he, Option.bind_some]
          dsimp only
          rw [if_pos rfl, r_with hN9 hp.1 ra0.2.2.2 (by omega), Option.bind_some, hq, eat, if_pos (eA_ne (by omega)), fails_0 _ pu_0]
          dsimp only
          rw [if_pos rfl, r_place hN9 hp.1 ra0.2.2.2 ht (by omega), Option.bind_some, hk', eak, spot, ← Option.bind_assoc, b1, Option.bind_some, c1, Option.bind_some]
          dsimp only
          rw [iK, if_pos (nI_lt (by omega) (by omega)), ← Option.bind_assoc, m1, Option.bind_some, fails_0 _ z0]
          dsimp only
          rw [if_pos rfl, n1, Option.bind_some, ← Option.bind_assoc, o1, Option.bind_some, p1, Option.bind_some]
          exact r_do f3 S3_ok2 n2 n3 n5 (hw.push hN9 hp) (S3_of o2 p2) S3_ok (o3.fr3 hN9 p2)
      · refine ⟨2, 0, N, P, H, ⟨hN9, hp, hw⟩, ?_, fun h1 ra rh => ?_⟩
        · dsimp only
          unfold F_L_flip F_X7_flip
          rw [reqE_ok hN9 ca he, Option.bind_some, bs_r, c_tour hN9 hp.1 ca.2.2 (by omega), Option.bind_some, hq, eat, if_pos (eA_ne (by omega)), c_pos hN9 hp.1 ca.2.2 ht (by omega), Option.bind_some, hk', eak, c_canTurn hN9 hp.1 ca ht hk, if_neg hsp, if_neg (fun z => z rfl), Option.bind_some, bs_l]
          exact out_thr (by decide) ca ch
        · dsimp only
          unfold F_X8_flip jn
          have ra0 := ra.u0 (v := 0) (j := 0) hN9
          obtain ⟨g1, b1, b2, b3⟩ := r_turn hN9 hp.1 ra0 ht hk
          obtain ⟨g2, c1, c2⟩ := r_costTour hN9 wq b3 (t := t) ht
          obtain ⟨g3, m1, m2, m3⟩ := r_turn hN9 wq (b3.fr3 hN9 c2) (t := t) (k := k) ht (by rw [d1]; exact hk)
          rw [fpl_2] at m3
          have f3 := (S3_of b2 c2).trans (m2.mono (fun i hi => Or.inl hi))
          have hnd : ¬ DV N (pH P t) (pL P t) (fplA (pA P t) k) := fun z => hsp ((turn_DV hk (hp.2.2 t ht)).mpr z)
          have hge := CK_nd (K := 1000000) hnd
          have hle := CK_le (K := 1000000) (home := pH (fpl P t k) t) hN9 (by omega) (wq.2 t ht).2.1 (wq.2 t ht).2.2
          rw [d0, d1, d2] at hle c1
          have z0 : g3.1 122 0 = 0 := by rw [(f3 122 (by unfold S3; omega)).1]; exact pu_0
          rw [noE_ok hN9 ra0 pu_0 he, Option.bind_some]
          dsimp only
          rw [if_pos rfl, r_with hN9 hp.1 ra0.2.2.2 (by omega), Option.bind_some, hq, eat, if_pos (eA_ne (by omega)), fails_0 _ pu_0]
          dsimp only
          rw [if_pos rfl, r_place hN9 hp.1 ra0.2.2.2 ht (by omega), Option.bind_some, hk', eak, spot, ← Option.bind_assoc, b1, Option.bind_some, c1, Option.bind_some]
          dsimp only
          rw [iK, if_neg (nI_nlt hge (by omega)), ← Option.bind_assoc, m1, Option.bind_some, fails_1 z0 (by decide)]
          exact r_thr4 hN9 hw rh f3 S3_ok m3 (by decide)
  · refine ⟨1, 0, N, P, H, ⟨hN9, hp, hw⟩, ?_, fun h1 ra rh => ?_⟩
    · dsimp only
      unfold F_L_flip F_X7_flip
      rw [reqE_no ca q, Option.bind_some, bs_l, Option.bind_some, bs_l]
      exact out_thr (by decide) ca ch
    · dsimp only
      unfold F_X8_flip
      rw [noE_no hN9 (ra.u0 hN9) pu_0 q, Option.bind_some]
      exact r_thr hN9 hw ra rh (by decide)
end OPF
