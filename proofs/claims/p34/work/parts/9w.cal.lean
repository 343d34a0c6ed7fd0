/-! THE CLASS'S CHANGES AS THE LAW CALLS THEM -/
/-- a change came about -/
def cRes (h : PH) (r : Option (Int32 × PH)) (v : Int32) (N' : NT) (P' : PT) (H' : HT) : Prop := ∃ h', r = some (v, h') ∧ Fr SC h h' ∧ CA h' N' P' ∧ CH h' N' H'
section CAL
variable {h : PH} {N : NT} {P : PT} {H : HT}
theorem l_open_ok {d : Nat} (ok : okS N P H) (ca : CA h N P) (ch : CH h N H) (hd : d < wD N) (h4 : pT P < 4) : cRes h (F_L_openTour h (nI d)) (nI (pT P)) N (opl N P d) (hpush H N P false) := by
  obtain ⟨hN9, hp, hw⟩ := ok
  have hD := hN9.2.2.2.1
  unfold F_L_openTour F_X7_openTour
  obtain ⟨g, a1, a2, a3, a4⟩ := c_rem0 hN9 hp hw ca ch
  obtain ⟨g2, b1, b2, b3⟩ := c_open hN9 hp a3 hd h4
  rw [ca.1.2.2.2.1, if_neg (nI_pos (by omega)), if_pos (nI_lt hd (by omega)), ca.2.2.1, if_pos (show nI (pT P) < (4 : Int32) from nI_lt (b := 4) h4 (by omega)), a1, Option.bind_some, b1, Option.bind_some, bs_r]
  exact ⟨g2, rfl, a2.trans (b2.mono (fun i hi => by unfold SC; omega)), ⟨a3.1.fr b2 (fun j hj => by omega), a3.2.1.same (fun j h1 h2 => (b2 j (by omega)).1), b3⟩, a4.up (fun a ha h1 => (b2 a (by omega)).1)⟩
theorem l_open_full {d : Nat} (ok : okS N P H) (ca : CA h N P) (hd : d < wD N) (h4 : ¬ pT P < 4) : F_L_openTour h (nI d) = some ((-2000000099 : Int32), h) := by
  obtain ⟨hN9, hp, hw⟩ := ok
  have hD := hN9.2.2.2.1
  have h4 : pT P = 4 := by have := hp.1.1; omega
  unfold F_L_openTour F_X7_openTour
  rw [ca.1.2.2.2.1, if_neg (nI_pos (by omega)), if_pos (nI_lt hd (by omega)), ca.2.2.1, h4, if_neg (show ¬ nI 4 < (4 : Int32) from fun z => Int32.lt_irrefl z), Option.bind_some, bs_l]
  rfl
theorem l_open_no {d : Nat} (ok : okS N P H) (ca : CA h N P) (hd : wD N ≤ d) (hb : d < 2 ^ 30) : F_L_openTour h (nI d) = some ((-2000000097 : Int32), h) := by
  obtain ⟨hN9, hp, hw⟩ := ok
  have hD := hN9.2.2.2.1
  unfold F_L_openTour F_X7_openTour
  rw [ca.1.2.2.2.1, if_neg (nI_pos (by omega)), if_neg (fun z => by have := (nI_lt' (by omega) (by omega)).mp z; omega), Option.bind_some, bs_l]
  rfl
theorem l_drop_ok {e t k : Nat} (ok : okS N P H) (ca : CA h N P) (ch : CH h N H) (he : e < wE N) (hq : wTour P e = some t) (hk' : wPos P t e = some k) (hsp : wSpare N P t k = true) : cRes h (F_L_drop h (nI e)) (nI (wTC N (dpl P t k) t)) N (dpl P t k) (hpush H N P false) := by
  obtain ⟨hN9, hp, hw⟩ := ok
  have hE := hN9.2.2.1
  obtain ⟨ht, -⟩ := wTour_lt hq
  obtain ⟨hk, hke⟩ := wPos_lt hk'
  have h4 := hp.1.1
  have eat : eA (some t) = nI t := rfl
  have eak : eA (some k) = nI k := rfl
  have hp1 := dpl_WP hp ht hk hsp
  unfold F_L_drop F_X7_drop
  obtain ⟨g, a1, a2, a3, a4⟩ := c_rem0 hN9 hp hw ca ch
  obtain ⟨g2, b1, b2, b3⟩ := c_take hp.1 a3.2.2 ht hk
  have c3 : CA g2 N (dpl P t k) := a3.mk b2 b3
  rw [reqE_ok hN9 ca he, Option.bind_some, bs_r, c_tour hN9 hp.1 ca.2.2 (by omega), Option.bind_some, hq, eat, if_pos (eA_ne (by omega)), c_pos hN9 hp.1 ca.2.2 ht (by omega), Option.bind_some, hk', eak, c_spare hN9 hp.1 ca ht hk, if_pos hsp, if_pos (show ¬ (1 : Int32) = 0 by decide), a1, Option.bind_some, b1, Option.bind_some, c_tourCost hN9 hp1.1 hp1.2.2 c3.1 c3.2.1 c3.2.2 ht, Option.bind_some, Option.bind_some, bs_r]
  exact ⟨g2, rfl, a2.trans (b2.mono (fun i hi => by unfold S2829 at hi; unfold SC; omega)), c3, a4.fr2 b2⟩
theorem l_drop_bad {e t k : Nat} (ok : okS N P H) (ca : CA h N P) (he : e < wE N) (hq : wTour P e = some t) (hk' : wPos P t e = some k) (hsp : ¬ wSpare N P t k = true) : F_L_drop h (nI e) = some ((-2000000099 : Int32), h) := by
  obtain ⟨hN9, hp, hw⟩ := ok
  have hE := hN9.2.2.1
  obtain ⟨ht, -⟩ := wTour_lt hq
  obtain ⟨hk, hke⟩ := wPos_lt hk'
  have h4 := hp.1.1
  have eat : eA (some t) = nI t := rfl
  have eak : eA (some k) = nI k := rfl
  unfold F_L_drop F_X7_drop
  rw [reqE_ok hN9 ca he, Option.bind_some, bs_r, c_tour hN9 hp.1 ca.2.2 (by omega), Option.bind_some, hq, eat, if_pos (eA_ne (by omega)), c_pos hN9 hp.1 ca.2.2 ht (by omega), Option.bind_some, hk', eak, c_spare hN9 hp.1 ca ht hk, if_neg hsp, if_neg (fun z => z rfl), Option.bind_some, bs_l]
  rfl
theorem l_drop_out {e : Nat} (ok : okS N P H) (ca : CA h N P) (he : e < wE N) (hq : wTour P e = none) : F_L_drop h (nI e) = some ((-2000000099 : Int32), h) := by
  obtain ⟨hN9, hp, hw⟩ := ok
  have hE := hN9.2.2.1
  unfold F_L_drop F_X7_drop
  rw [reqE_ok hN9 ca he, Option.bind_some, bs_r, c_tour hN9 hp.1 ca.2.2 (by omega), Option.bind_some, hq, show eA none = (-1 : Int32) from rfl, if_neg (fun z => z rfl), Option.bind_some, bs_l]
  rfl
theorem big_no {n a : Nat} (h : n ≤ a) (hb : a < 2 ^ 30) : nI a < 0 ∨ ¬ nI a < nI n := Or.inr (fun z => by have := (nI_lt' (by omega) (by omega)).mp z; omega)
theorem l_drop_no {e : Nat} (ca : CA h N P) (he : wE N ≤ e) (hb : e < 2 ^ 30) : F_L_drop h (nI e) = some ((-2000000097 : Int32), h) := by
  unfold F_L_drop F_X7_drop
  rw [reqE_no ca (big_no he hb), Option.bind_some, bs_l, Option.bind_some, bs_l]
  rfl
theorem l_flip_ok {e t k : Nat} (ok : okS N P H) (ca : CA h N P) (ch : CH h N H) (he : e < wE N) (hq : wTour P e = some t) (hk' : wPos P t e = some k) (hsp : wTurn N P t k = true) : cRes h (F_L_flip h (nI e)) (nI (wTC N (fpl P t k) t)) N (fpl P t k) (hpush H N P false) := by
  obtain ⟨hN9, hp, hw⟩ := ok
  have hE := hN9.2.2.1
  obtain ⟨ht, -⟩ := wTour_lt hq
  obtain ⟨hk, hke⟩ := wPos_lt hk'
  have h4 := hp.1.1
  have eat : eA (some t) = nI t := rfl
  have eak : eA (some k) = nI k := rfl
  have hp1 := fpl_WP hp ht hk hsp
  unfold F_L_flip F_X7_flip
  obtain ⟨g, a1, a2, a3, a4⟩ := c_rem0 hN9 hp hw ca ch
  obtain ⟨b2, b3⟩ := c_turn hp.1 hE a3.2.2 ht hk
  have c3 : CA (F_X3_turnRound g (nI t) (nI k)) N (fpl P t k) := a3.mk b2 b3
  rw [reqE_ok hN9 ca he, Option.bind_some, bs_r, c_tour hN9 hp.1 ca.2.2 (by omega), Option.bind_some, hq, eat, if_pos (eA_ne (by omega)), c_pos hN9 hp.1 ca.2.2 ht (by omega), Option.bind_some, hk', eak, c_canTurn hN9 hp.1 ca ht hk, if_pos hsp, if_pos (show ¬ (1 : Int32) = 0 by decide), a1, Option.bind_some, c_tourCost hN9 hp1.1 hp1.2.2 c3.1 c3.2.1 c3.2.2 ht, Option.bind_some, Option.bind_some, bs_r]
  exact ⟨_, rfl, a2.trans (b2.mono (fun i hi => by unfold S2829 at hi; unfold SC; omega)), c3, a4.fr2 b2⟩
theorem l_flip_bad {e t k : Nat} (ok : okS N P H) (ca : CA h N P) (he : e < wE N) (hq : wTour P e = some t) (hk' : wPos P t e = some k) (hsp : ¬ wTurn N P t k = true) : F_L_flip h (nI e) = some ((-2000000099 : Int32), h) := by
  obtain ⟨hN9, hp, hw⟩ := ok
  have hE := hN9.2.2.1
  obtain ⟨ht, -⟩ := wTour_lt hq
  obtain ⟨hk, hke⟩ := wPos_lt hk'
  have h4 := hp.1.1
  have eat : eA (some t) = nI t := rfl
  have eak : eA (some k) = nI k := rfl
  unfold F_L_flip F_X7_flip
  rw [reqE_ok hN9 ca he, Option.bind_some, bs_r, c_tour hN9 hp.1 ca.2.2 (by omega), Option.bind_some, hq, eat, if_pos (eA_ne (by omega)), c_pos hN9 hp.1 ca.2.2 ht (by omega), Option.bind_some, hk', eak, c_canTurn hN9 hp.1 ca ht hk, if_neg hsp, if_neg (fun z => z rfl), Option.bind_some, bs_l]
  rfl
theorem l_flip_out {e : Nat} (ok : okS N P H) (ca : CA h N P) (he : e < wE N) (hq : wTour P e = none) : F_L_flip h (nI e) = some ((-2000000099 : Int32), h) := by
  obtain ⟨hN9, hp, hw⟩ := ok
  have hE := hN9.2.2.1
  unfold F_L_flip F_X7_flip
  rw [reqE_ok hN9 ca he, Option.bind_some, bs_r, c_tour hN9 hp.1 ca.2.2 (by omega), Option.bind_some, hq, show eA none = (-1 : Int32) from rfl, if_neg (fun z => z rfl), Option.bind_some, bs_l]
  rfl
theorem l_flip_no {e : Nat} (ca : CA h N P) (he : wE N ≤ e) (hb : e < 2 ^ 30) : F_L_flip h (nI e) = some ((-2000000097 : Int32), h) := by
  unfold F_L_flip F_X7_flip
  rw [reqE_no ca (big_no he hb), Option.bind_some, bs_l, Option.bind_some, bs_l]
  rfl
theorem l_ins_ok {t k x : Nat} (ok : okS N P H) (ca : CA h N P) (ch : CH h N H) (ht : t < pT P) (hk : k ≤ pL P t) (hx : x < 2 * wE N) (y : wWt N P (x / 2) = true) (hroom : wRoom N P t (x / 2) = true) (hcand : wCand N P t k x = true) : cRes h (F_L_insert h (nI t) (nI k) (nI x)) (nI (wTC N (ipl P t k x) t)) N (ipl P t k x) (hpush H N P false) := by
  obtain ⟨hN9, hp, hw⟩ := ok
  have hE := hN9.2.2.1
  have h4 := hp.1.1
  have h14 := (hp.1.2 t ht).2.1
  have he : x / 2 < wE N := by omega
  have ehx : nI x / (2 : Int32) = nI (x / 2) := r_half (by omega)
  have hu := wt_none y
  have h13 := room13 hN9 hp.1 hp.2.1 he hu t ht
  have hp1 := ipl_WP hp ht hk h13 hx hu hcand
  have hroom2 := of_decide_eq_true hroom
  have hib := inc_bnd hN9 hp.1 hp.2.2 ht hk h13 hx hcand
  unfold F_L_insert F_X7_insert
  obtain ⟨g, a1, a2, a3, a4⟩ := c_rem0 hN9 hp hw ca ch
  obtain ⟨g2, b1, b2, b3⟩ := c_put (x := x) hp.1 a3.2.2 ht (k := k) hk h13
  have c3 : CA g2 N (ipl P t k x) := a3.mk b2 b3
  rw [reqT_ok hp ca ht, Option.bind_some, bs_r, c_size ca.2.2 ht h4, if_neg (nI_pos (by omega)), if_pos (nI_le (by omega) (by omega)), reqA_ok hN9 ca hx, Option.bind_some, bs_r, ehx, c_wait hN9 hp.1 ca.1 ca.2.2 he, if_pos y, Option.bind_some, if_pos (show ¬ (1 : Int32) = 0 by decide), c_room hN9 hp.1 ca.1 ca.2.2 ht he, if_neg (by omega), Option.bind_some, if_neg (show ¬ (1 : Int32) = 0 by decide), c_incr hN9 hp.1 ca.2.1 ca.1 ca.2.2 ht hk hx (hp.2.2 t ht), if_pos hcand, iM, nI_zi, if_pos (by rw [zi_lt (by omega) (by omega)]; omega), a1, Option.bind_some, b1, Option.bind_some, c_tourCost hN9 hp1.1 hp1.2.2 c3.1 c3.2.1 c3.2.2 ht, Option.bind_some, Option.bind_some, bs_r]
  exact ⟨g2, rfl, a2.trans (b2.mono (fun i hi => by unfold S2829 at hi; unfold SC; omega)), c3, a4.fr2 b2⟩
theorem l_ins_bad {t k x : Nat} (ok : okS N P H) (ca : CA h N P) (ht : t < pT P) (hk : k ≤ pL P t) (hx : x < 2 * wE N) (y : ¬ (wWt N P (x / 2) = true ∧ wRoom N P t (x / 2) = true ∧ wCand N P t k x = true)) : F_L_insert h (nI t) (nI k) (nI x) = some ((-2000000099 : Int32), h) := by
  obtain ⟨hN9, hp, hw⟩ := ok
  have hE := hN9.2.2.1
  have h4 := hp.1.1
  have h14 := (hp.1.2 t ht).2.1
  have he : x / 2 < wE N := by omega
  have ehx : nI x / (2 : Int32) = nI (x / 2) := r_half (by omega)
  unfold F_L_insert F_X7_insert
  rw [reqT_ok hp ca ht, Option.bind_some, bs_r, c_size ca.2.2 ht h4, if_neg (nI_pos (by omega)), if_pos (nI_le (by omega) (by omega)), reqA_ok hN9 ca hx, Option.bind_some, bs_r, ehx, c_wait hN9 hp.1 ca.1 ca.2.2 he]
  by_cases w : wWt N P (x / 2) = true
  · rw [if_pos w, Option.bind_some, if_pos (show ¬ (1 : Int32) = 0 by decide), c_room hN9 hp.1 ca.1 ca.2.2 ht he]
    by_cases hroom : wRoom N P t (x / 2) = true
    · have hroom2 := of_decide_eq_true hroom
      rw [if_neg (by omega), Option.bind_some, if_neg (show ¬ (1 : Int32) = 0 by decide), c_incr hN9 hp.1 ca.2.1 ca.1 ca.2.2 ht hk hx (hp.2.2 t ht), if_neg (fun z => y ⟨w, hroom, z⟩), iM, if_neg (fun z => Int32.lt_irrefl z), Option.bind_some, bs_l]
      rfl
    · have hroom2 : wC N < wLd N P t + wDe N (x / 2) := by
        apply Classical.byContradiction
        intro z
        exact hroom (decide_eq_true (by omega))
      rw [if_pos hroom2, Option.bind_some, if_pos rfl, Option.bind_some, bs_l]
      rfl
  · rw [if_neg w, Option.bind_some, if_neg (fun z => z rfl), Option.bind_some, bs_l]
    rfl
theorem l_ins_noT {t k x : Nat} (ca : CA h N P) (ht : pT P ≤ t) (hb : t < 2 ^ 30) : F_L_insert h (nI t) (nI k) (nI x) = some ((-2000000097 : Int32), h) := by
  unfold F_L_insert F_X7_insert
  rw [reqT_no ca (big_no ht hb), Option.bind_some, bs_l, Option.bind_some, bs_l]
  rfl
theorem l_ins_noK {t k x : Nat} (ok : okS N P H) (ca : CA h N P) (ht : t < pT P) (hk : pL P t < k) (hb : k < 2 ^ 30) : F_L_insert h (nI t) (nI k) (nI x) = some ((-2000000097 : Int32), h) := by
  obtain ⟨hN9, hp, hw⟩ := ok
  have h4 := hp.1.1
  have h14 := (hp.1.2 t ht).2.1
  unfold F_L_insert F_X7_insert
  rw [reqT_ok hp ca ht, Option.bind_some, bs_r, c_size ca.2.2 ht h4, if_neg (nI_pos (by omega)), if_neg (fun z => by have := (nI_le' (by omega) (by omega)).mp z; omega), Option.bind_some, bs_l]
  rfl
theorem l_ins_noX {t k x : Nat} (ok : okS N P H) (ca : CA h N P) (ht : t < pT P) (hk : k ≤ pL P t) (hx : 2 * wE N ≤ x) (hb : x < 2 ^ 30) : F_L_insert h (nI t) (nI k) (nI x) = some ((-2000000097 : Int32), h) := by
  obtain ⟨hN9, hp, hw⟩ := ok
  have h4 := hp.1.1
  have h14 := (hp.1.2 t ht).2.1
  unfold F_L_insert F_X7_insert
  rw [reqT_ok hp ca ht, Option.bind_some, bs_r, c_size ca.2.2 ht h4, if_neg (nI_pos (by omega)), if_pos (nI_le (by omega) (by omega)), reqA_no ca (big_no hx hb), Option.bind_some, bs_l, Option.bind_some, bs_l]
  rfl
theorem l_impr_ok {r : Nat} (ok : okS N P H) (ca : CA h N P) (ch : CH h N H) (h1 : 1 ≤ r) (h10 : r ≤ 10) : cRes h (F_L_improve h (nI r)) (zi (impr N r P 0).2) N (impr N r P 0).1 (hpush H N P false) := by
  obtain ⟨hN9, hp, hw⟩ := ok
  obtain ⟨h', a1, a2, a3, a4⟩ := c_improve h1 h10 hN9 hp hw ca ch
  unfold F_L_improve
  rw [a1, Option.bind_some, bs_r]
  exact ⟨h', rfl, a2, a3, a4⟩
theorem l_impr_no : F_L_improve h (nI 0) = some ((-2000000098 : Int32), h) := by
  unfold F_L_improve F_X7_improve
  rw [if_pos (show nI 0 < (1 : Int32) by decide), Option.bind_some, bs_l]
  rfl
theorem l_build (ok : okS N P H) (ca : CA h N P) (ch : CH h N H) : cRes h (F_X7_build h) (nI (fB N P (wE N)).2) N (fB N P (wE N)).1 (hpush H N P false) := by
  obtain ⟨hN9, hp, hw⟩ := ok
  exact c_build hN9 hp hw ca ch
/-! the calls that ask -/
theorem l_depot {t : Nat} (hp : WP N P) (ca : CA h N P) (ht : t < pT P) : F_L_depotOf h (nI t) = some (nI (pH P t)) := by
  unfold F_L_depotOf F_X7_depotOf
  rw [reqT_ok hp ca ht, Option.bind_some, bs_r, c_home ca.2.2 ht hp.1.1, Option.bind_some, bs_r]
theorem l_length {t : Nat} (hp : WP N P) (ca : CA h N P) (ht : t < pT P) : F_L_length h (nI t) = some (nI (pL P t)) := by
  unfold F_L_length F_X7_length
  rw [reqT_ok hp ca ht, Option.bind_some, bs_r, c_size ca.2.2 ht hp.1.1, Option.bind_some, bs_r]
theorem l_length_no (hp : WP N P) (ca : CA h N P) : F_L_length h (nI (pT P)) = some (-2000000097 : Int32) := by
  have h4 := hp.1.1
  unfold F_L_length F_X7_length
  rw [reqT_no ca (big_no (Nat.le_refl _) (by omega)), Option.bind_some, bs_l, Option.bind_some, bs_l]
  rfl
theorem l_load {t : Nat} (hN9 : WN N) (hp : WP N P) (ca : CA h N P) (ht : t < pT P) : F_L_loadOf h (nI t) = some (nI (wLd N P t)) := by
  unfold F_L_loadOf F_X7_loadOf
  rw [reqT_ok hp ca ht, Option.bind_some, bs_r, c_load hN9 hp.1 ca.1 ca.2.2 ht, Option.bind_some, Option.bind_some, bs_r]
theorem l_cost {t : Nat} (hN9 : WN N) (hp : WP N P) (ca : CA h N P) (ht : t < pT P) : F_L_tourCost h (nI t) = some (nI (wTC N P t)) := by
  unfold F_L_tourCost F_X7_tourCost
  rw [reqT_ok hp ca ht, Option.bind_some, bs_r, c_tourCost hN9 hp.1 hp.2.2 ca.1 ca.2.1 ca.2.2 ht, Option.bind_some, Option.bind_some, bs_r]
theorem l_tourOf {e : Nat} (hN9 : WN N) (hp : WP N P) (ca : CA h N P) (he : e < wE N) : F_L_tourOf h (nI e) = some (eA (wTour P e)) := by
  have hE := hN9.2.2.1
  unfold F_L_tourOf F_X7_tourOf
  rw [reqE_ok hN9 ca he, Option.bind_some, bs_r, c_tour hN9 hp.1 ca.2.2 (by omega), Option.bind_some, Option.bind_some, bs_r]
theorem l_tourOf_no (hN9 : WN N) (ca : CA h N P) : F_L_tourOf h (nI (wE N)) = some (-2000000097 : Int32) := by
  have hE := hN9.2.2.1
  unfold F_L_tourOf F_X7_tourOf
  rw [reqE_no ca (big_no (Nat.le_refl _) (by omega)), Option.bind_some, bs_l, Option.bind_some, bs_l]
  rfl
theorem l_arc {t k : Nat} (hN9 : WN N) (hp : WP N P) (ca : CA h N P) (ht : t < pT P) (hk : k < pL P t) : F_L_arcAt h (nI t) (nI k) = some (nI (pA P t k)) := by
  have hE := hN9.2.2.1
  obtain ⟨w1, w2, w3⟩ := hp.1.2 t ht
  have hx := w3 k hk
  unfold F_L_arcAt F_X7_arcAt
  have e : F_X3_arcOrDepot h (nI t) (nI k) = nI (pA P t k) := by
    rw [c_nx hp.1 ca.2.2 ht (by omega), nx_lt hk]
    rfl
  rw [reqT_ok hp ca ht, Option.bind_some, bs_r, e, if_pos (eA_ne (by omega)), Option.bind_some, bs_r]
theorem l_arc_end {t : Nat} (hp : WP N P) (ca : CA h N P) (ht : t < pT P) : F_L_arcAt h (nI t) (nI (pL P t)) = some (-2000000100 : Int32) := by
  obtain ⟨w1, w2, w3⟩ := hp.1.2 t ht
  unfold F_L_arcAt F_X7_arcAt
  have e : F_X3_arcOrDepot h (nI t) (nI (pL P t)) = (-1 : Int32) := by
    rw [c_nx hp.1 ca.2.2 ht (by omega), nx_ge (Nat.le_refl _)]
    rfl
  rw [reqT_ok hp ca ht, Option.bind_some, bs_r, e, if_neg (fun z => z rfl), Option.bind_some, bs_l]
  rfl
/-! the calls at the end -/
theorem l_edge5 (hN9 : WN N) (ca : CA h N P) (h0 : 0 < wE N) : F_L_edge h (0 : Int32) (5 : Int32) = some (-2000000098 : Int32) := by
  unfold F_L_edge F_X7_edge
  rw [i0, reqE_ok hN9 ca h0, Option.bind_some, bs_r, if_neg (by decide), if_neg (by decide), if_neg (by decide), if_neg (by decide), if_neg (by decide), Option.bind_some, bs_l]
  rfl
theorem l_edge_m1 (ca : CA h N P) : F_L_edge h (-1 : Int32) (5 : Int32) = some (-2000000097 : Int32) := by
  unfold F_L_edge F_X7_edge
  rw [reqE_no ca (Or.inl (by decide)), Option.bind_some, bs_l, Option.bind_some, bs_l]
  rfl
theorem l_dead_no (hN9 : WN N) (ca : CA h N P) (h0 : 0 < wE N) : F_L_deadhead h (0 : Int32) (nI (2 * wE N)) = some (-2000000097 : Int32) := by
  have hE := hN9.2.2.1
  unfold F_L_deadhead F_X7_deadhead
  rw [i0, reqA_ok hN9 ca (by omega), Option.bind_some, bs_r, reqA_no ca (big_no (Nat.le_refl _) (by omega)), Option.bind_some, bs_l, Option.bind_some, bs_l]
  rfl
theorem l_best_no (hN9 : WN N) (ca : CA h N P) : F_L_bestInsertion h (nI (wE N)) = some (-2000000097 : Int32) := by
  have hE := hN9.2.2.1
  unfold F_L_bestInsertion F_X7_bestInsertion
  rw [reqE_no ca (big_no (Nat.le_refl _) (by omega)), Option.bind_some, bs_l, Option.bind_some, bs_l]
  rfl
theorem l_load_no (hT : h.1 1 3 = 0) : F_L_load h (1 : Int32) = some ((-2000000098 : Int32), h) := by
  unfold F_L_load F_X7_load
  rw [if_neg (by decide), hT, if_neg (by decide), Option.bind_some, bs_l]
  rfl
end CAL
