/-! THE WALK OF THE SECOND MACHINE, and every method's contract -/
theorem gini_ret : ∀ k, k < 74 → (gyO k).name = "<init>" → (gretO k).isNone = true := by decide +kernel
theorem gsup_nm : ∀ k, k < 74 → atT (gsamP k) (.sameMethod (gyO k).cls (gyO k).cls (gyO k).name (gyO k).desc) = true → (gyO k).name ≠ "<init>" := by decide +kernel
theorem gpop_stk {f : gPV → Value} {n : Nat} {st as r : List gPV} (h : gpop n st [] = some (as, r)) : st.map f = (as.map f).reverse ++ r.map f ∧ as.length = n := by
  obtain ⟨l, h1, h2, h3⟩ := gpop_spec h
  rw [List.append_nil] at h2
  subst h1
  subst h2
  exact ⟨by rw [List.map_append, List.map_reverse, List.reverse_reverse], by rw [List.length_reverse]; exact h3⟩
theorem gcallV_spec {x0 nx a b t k' : Nat} {v : Int32} {w : Int64} {st as r : List gPV} (h : gcall (.invokevirtual x0, nx, a, b, t, v, w) st = some (k', as, r)) : Nat.blt t 90 = true ∧ k' = a ∧ gpop b st [] = some (as, r) := by
  have h1 : (match (generalizing := false) Nat.blt t 90 with
    | true => (gpop b st []).map fun p => (a, p.1, p.2)
    | false => none) = some (k', as, r) := h
  obtain ⟨h0, h2⟩ := gbt h1
  obtain ⟨⟨as2, r2⟩, h3, h4⟩ := mp2 h2
  cases h4
  exact ⟨h0, rfl, h3⟩
theorem gcallS_spec {x0 nx a b t k' : Nat} {v : Int32} {w : Int64} {st as r : List gPV} (h : gcall (.invokestatic x0, nx, a, b, t, v, w) st = some (k', as, r)) : t = 99 ∧ k' = a ∧ gpop b st [] = some (as, r) := by
  have h1 : (match (generalizing := false) t with
    | 99 => (gpop b st []).map fun p => (a, p.1, p.2)
    | _ => none) = some (k', as, r) := h
  split at h1
  · obtain ⟨⟨as2, r2⟩, h3, h4⟩ := mp2 h1
    cases h4
    exact ⟨rfl, rfl, h3⟩
  · cases h1
theorem gcallI_spec {x0 nx a b t k' : Nat} {v : Int32} {w : Int64} {st as r : List gPV} (h : gcall (.invokespecial x0, nx, a, b, t, v, w) st = some (k', as, r)) : (t = 98 ∨ t = 97) ∧ k' = a ∧ gpop b st [] = some (as, r) := by
  have h1 : (match (generalizing := false) t with
    | 98 => (gpop b st []).map fun p => (a, p.1, p.2)
    | 97 => (gpop b st []).map fun p => (a, p.1, p.2)
    | _ => none) = some (k', as, r) := h
  split at h1
  · obtain ⟨⟨as2, r2⟩, h3, h4⟩ := mp2 h1
    cases h4
    exact ⟨Or.inl rfl, rfl, h3⟩
  · obtain ⟨⟨as2, r2⟩, h3, h4⟩ := mp2 h1
    cases h4
    exact ⟨Or.inr rfl, rfl, h3⟩
  · cases h1
theorem grev1 {x : Value} {l r : List Value} : (x :: l).reverse ++ r = l.reverse ++ x :: r := by simp
theorem gins12 : Cond.instantiable (fC 12) 4 ∈ lw_tbl := by decide +kernel
section GWK
variable {p : Program} {l : Launch} {e : Env} {R : Room} {s : State} {m : MethodId} {args : Array Value} {below : List Frame} {meth : Method} {c : Code} {Q : State → Prop}
variable {z : PP} {k L : Nat} {xs : Nat → Int32} {n0 : Nat} {ad0 : Nat → Nat} {c0 s0 pc : Nat} {lv : gLV} {st : List gPV} {S S' : gST}
theorem grecv_12 {as : List gPV} (K : GK z L xs s) {H : Heap} {locs : List Loc} {ad : Nat → Nat} (hP : va_P z.1 vwCl (gW z S.1 ad S.2.1) H) (hS : va_S (AB z) s.heap H locs) (h : grecv S.2 as 97 = true) : ∃ (r : Nat ⊕ Nat) (as0 : List gPV), as = .inr (.inr (some r)) :: as0 ∧ ∃ cell : Cell, H[gadr z ad r]? = some cell ∧ cell.vm.isStatics = false ∧ s.vm.findClass (fC 12) = some cell.cls := by
  have h1 : (match (generalizing := false) as with
    | .inr (.inr r) :: _ => (match gCls S.2 r with
      | some c => Nat.beq c 12
      | none => false)
    | _ => false) = true := h
  split at h1
  · rename_i r as0
    split at h1
    · rename_i c9 heq
      obtain rfl : c9 = 12 := Nat.eq_of_beq_eq_true h1
      rcases gCls_inv heq with ⟨i, vs, rfl, hD9⟩ | ⟨j, rfl, hj, e9⟩
      · exact ⟨.inl i, as0, rfl, va_recv K.1.1.1 hP (gclA (by omega)) (gW_get hD9)⟩
      · cases e9
    · cases h1
  · cases h1
set_option maxHeartbeats 4000000 in
/-- a call, whatever its kind: what the machine does -/
theorem gcall_run {dX d : Nat} {e0 : PE} {as r : List gPV} {k' : Nat} {o : gPO} {S1 : gST} {cells slots : Nat} {H : Heap} {locs : List Loc} {ls : Array Slot} {ad : Nat → Nat} (hf : GF z) (hcal : gEx dX d k' as S o S1) (hcon : k' < 74 → Con2 l z L xs dX d k' as S o S1)
    (C : GX k p s m args c) (K : GK z L xs s) (hm : (gmiOf k).1 pc = some e0) (hpc : gcall e0 st = some (k', as, r)) (hrc : grecv S.2 as e0.2.2.2.2.1 = true) (hz : gcat r ≤ 8)
    (hR : 41 + dX + d ≤ R.frames ∧ 1028 + 60 * (dX + d) ≤ R.locals ∧ cells + (S1.2.2.1 - S.2.2.1) ≤ R.cells ∧ slots + (S1.2.2.2 - S.2.2.2) ≤ R.slots)
    (hP : va_P z.1 vwCl (gW z S.1 ad S.2.1) H) (hD : va_D (AB z) (gW z S.1 ad S.2.1)) (hS : va_S (AB z) s.heap H locs) (hq : scr L xs S.1) (hls : ls.size = (gmiOf k).2.2) :
    e0.2.1 = pc + 3 ∧ va_Run p l e R s m args below meth c H locs cells slots (S1.2.2.1 - S.2.2.1) (S1.2.2.2 - S.2.2.2) (F0 m pc ls (st.map (gimg (gadr z ad)))) (r.map (gimg (gadr z ad))) (QK2 z L xs ad o S S1 (as.map (gimg (gadr z ad))).toArray) (AB z) := by
  obtain ⟨hx, hb, hml, hown, hts⟩ := C
  obtain ⟨i, nx, a, b, t, v, w⟩ := e0
  have hts2 := gts2 K hts
  have Sx : CallFix p m c (gccO k) (gmiOf k).2.2 s args gtbl2 (gownN (gclO k)) := ⟨hx, hb, hml, hown, hts2⟩
  have hzz : 2 * (F0 m pc ls (st.map (gimg (gadr z ad)))).monitorRoom + ((r.map (gimg (gadr z ad))).map fun v => v.category).sum ≤ 8 := by
    show 2 * 0 + _ ≤ 8
    rw [gcat_eq]
    omega
  have pre : ∀ U : State, U.heap = H → s.WarmedH U.vm → PK2 z L xs ad as S (as.map (gimg (gadr z ad))).toArray U := fun U hU hW => ⟨rfl, GK.go hf K hW (by rw [hU]; exact hS), by rw [hU]; exact hP, hD, hq⟩
  have hrm : ∀ {maxL : Nat}, maxL < 10 → (RM2 dX d (S1.2.2.1 - S.2.2.1) (S1.2.2.2 - S.2.2.2)).frames + 1 ≤ R.frames ∧ 8 + (maxL + 11) + (RM2 dX d (S1.2.2.1 - S.2.2.1) (S1.2.2.2 - S.2.2.2)).locals ≤ R.locals := fun {maxL} h => ⟨by show 40 + dX + d + 1 ≤ _; omega, by show 8 + (maxL + 11) + (1000 + 60 * (dX + d)) ≤ _; omega⟩
  have hfr : cells + (S1.2.2.1 - S.2.2.1) ≤ R.cells ∧ slots + (S1.2.2.2 - S.2.2.2) ≤ R.slots := ⟨hR.2.2.1, hR.2.2.2⟩
  have g2 : ∀ {w : Cond}, w ∈ gtbl → w ∈ gtbl2 := fun h => List.mem_append_right _ h
  cases i with
  | invokevirtual x0 =>
    obtain ⟨hd, hnx, hi⟩ := chk3 (A := decode (gccO k) pc = .ok (.invokevirtual x0, glen (.invokevirtual x0))) (n := nx) (m := pc + glen (.invokevirtual x0)) (B := Nat.blt (gpx (.invokevirtual x0)) 2000 && gchI k pc (.invokevirtual x0) a b t v w) (gchE_at hm)
    have hi := (and2 hi).2
    obtain ⟨hbt, rfl, hpo⟩ := gcallV_spec hpc
    simp only [gchI, hbt, Bool.and_eq_true] at hi
    obtain ⟨⟨⟨⟨⟨h1, h2⟩, h3⟩, h4⟩, h5⟩, h6⟩ := hi
    have hk2 : k' < 74 := blt_of h4
    have ht13 := blt_of h5
    have hcon := hcon hk2 ad
    obtain ⟨f1, f2, f3, f4, f5, f6, f7, f8, f9⟩ := gmth_at hk2
    obtain ⟨hstk, hlen⟩ := gpop_stk (f := gimg (gadr z ad)) hpo
    obtain ⟨r9, as0, rfl, hrec⟩ := grecv_at ht13 K hP hS hrc hbt
    have hn9 : (as0.map (gimg (gadr z ad))).length = gnrO k' := by
      rw [List.length_map]
      have h9 : as0.length + 1 = b := hlen
      have := Nat.eq_of_beq_eq_true h3
      omega
    have hst9 : (F0 m pc ls (st.map (gimg (gadr z ad)))).stack = (as0.map (gimg (gadr z ad))).reverse ++ .ref (gadr z ad r9) :: r.map (gimg (gadr z ad)) := by
      show st.map _ = _
      rw [hstk]
      exact grev1
    have hcg : ∀ w ∈ (gcodW k' :: gtbl), w ∈ gtbl2 := fun w hw => by
      rcases List.mem_cons.mp hw with rfl | hw
      · exact g2 f1
      · exact g2 hw
    refine ⟨hnx, ?_⟩
    cases hL9 : Nat.beq k' gLEN with
    | true =>
      rw [hL9] at h1
      simp only [Bool.and_eq_true, gin, decide_eq_true_eq] at h1
      obtain ⟨⟨⟨⟨j1, j2⟩, j3⟩, j4⟩, j5⟩ := h1
      obtain rfl : t = 12 := Nat.eq_of_beq_eq_true j5
      obtain rfl : k' = 11 := Nat.eq_of_beq_eq_true hL9
      have hG : GoodIn gtbl2 (va_wsO (gownN (gclO k)) x0 (fC 12) gyLen.cls gyLen (gyO 11) (gcodW 11 :: gtbl)) := goodIn_g2 (fun w hw => by
        unfold va_wsO at hw
        rcases List.mem_append.mp hw with hw | hw
        · simp only [List.mem_cons, List.not_mem_nil, or_false] at hw
          rcases hw with rfl | rfl | rfl | rfl | rfl | rfl
          · exact g2 (gtbl_in (atT_in j1) rfl)
          · exact g2 (gtbl_in j2 rfl)
          · exact g2 (gtbl_in j3 rfl)
          · exact g2 (gtbl_in j4 rfl)
          · exact g2 (gtbl_in (atT_in h2) rfl)
          · exact g2 f2
        · exact hcg w hw)
      exact va_runU (As := as0.map (gimg (gadr z ad))) (b := gadr z ad r9) Sx hcon (va_cwO 0 hts2 hG rfl rfl rfl (b0 := gccO 20) (m0 := (gmiOf 20).2.2) (r0 := gretO 20) (g2 (gmth_at (k := 20) (by omega)).1) (by decide +kernel) (hrm f9)) ⟨PK2.blind hf, hrec, pre⟩ rfl (hn9.trans rfl) hls hst9 hzz hd hfr
    | false =>
      rw [hL9] at h1
      dsimp only at h1
      cases h7 : Nat.beq (gclO k') 7 with
      | true =>
        rw [h7] at h1
        simp only [Bool.and_eq_true, decide_eq_true_eq] at h1
        obtain ⟨⟨⟨j1, j2⟩, j3⟩, j4⟩ := h1
        obtain rfl : t = 12 := Nat.eq_of_beq_eq_true j4
        have hG : GoodIn gtbl2 (va_wsU (gownN (gclO k)) x0 (fC 12) (gyO k').cls (gyO k') (gyO k') (gcodW k' :: gtbl)) := goodIn_g2 (fun w hw => by
          unfold va_wsU at hw
          rcases List.mem_append.mp hw with hw | hw
          · simp only [List.mem_cons, List.not_mem_nil, or_false] at hw
            rcases hw with rfl | rfl | rfl | rfl | rfl
            · exact g2 (gtbl_in (atT_in j1) rfl)
            · exact g2 (gtbl_in (atT_in j2) rfl)
            · exact gsel2 j3
            · exact g2 (gtbl_in (atT_in h2) rfl)
            · exact g2 f2
          · exact hcg w hw)
        exact va_runU (As := as0.map (gimg (gadr z ad))) (b := gadr z ad r9) Sx hcon (va_cwU (gnrO k') hts2 hG rfl rfl rfl rfl ⟨f7, f8, f5⟩ (hrm f9)) ⟨PK2.blind hf, hrec, pre⟩ rfl hn9 hls hst9 hzz hd hfr
      | false =>
        rw [h7] at h1
        simp only [Bool.and_eq_true, decide_eq_true_eq] at h1
        obtain ⟨⟨j1, j2⟩, j3⟩ := h1
        have hG : GoodIn gtbl2 (wsV (gownN (gclO k)) x0 (fC t) (gyO k') (gcodW k' :: gtbl)) := goodIn_g2 (fun w hw => by
          unfold wsV at hw
          rcases List.mem_append.mp hw with hw | hw
          · simp only [List.mem_cons, List.not_mem_nil, or_false] at hw
            rcases hw with rfl | rfl | rfl | rfl
            · exact g2 (gtbl_in (atT_in j1) rfl)
            · exact g2 (gtbl_in (atT_in h2) rfl)
            · rw [j3]; exact g2 (gtbl_in (atT_in j2) rfl)
            · rw [j3]; exact g2 f2
          · exact hcg w hw)
        exact va_runV (As := as0.map (gimg (gadr z ad))) (b := gadr z ad r9) Sx hcon (cwV (gnrO k') hts2 hG rfl rfl rfl ⟨j3.symm, f7, f8, f5⟩ (hrm f9)) ⟨PK2.blind hf, hrec, pre⟩ rfl hn9 hls hst9 hzz hd hfr
  | invokestatic x0 =>
    obtain ⟨hd, hnx, hi⟩ := chk3 (A := decode (gccO k) pc = .ok (.invokestatic x0, glen (.invokestatic x0))) (n := nx) (m := pc + glen (.invokestatic x0)) (B := Nat.blt (gpx (.invokestatic x0)) 2000 && gchI k pc (.invokestatic x0) a b t v w) (gchE_at hm)
    have hi := (and2 hi).2
    obtain ⟨rfl, rfl, hpo⟩ := gcallS_spec hpc
    simp only [gchI, Bool.and_eq_true] at hi
    obtain ⟨⟨⟨h1, h2⟩, h3⟩, h4⟩ := hi
    have hk2 : k' < 74 := blt_of h4
    have hcon := hcon hk2 ad
    obtain ⟨f1, f2, f3, f4, f5, f6, f7, f8, f9⟩ := gmth_at hk2
    obtain ⟨hstk, hlen⟩ := gpop_stk (f := gimg (gadr z ad)) hpo
    have hn9 : (as.map (gimg (gadr z ad))).length = gnrO k' := by
      rw [List.length_map, hlen]
      exact Nat.eq_of_beq_eq_true h3
    have hcg : ∀ w ∈ (gcodW k' :: gtbl), w ∈ gtbl2 := fun w hw => by
      rcases List.mem_cons.mp hw with rfl | hw
      · exact g2 f1
      · exact g2 hw
    refine ⟨hnx, ?_⟩
    cases hns : gnst (2000 * gclO k + x0) with
    | true =>
      rw [hns] at h1
      exact va_runSN (As := as.map (gimg (gadr z ad))) Sx hcon ⟨va_cnB (gnrO k') hts2 (goodIn_g2 hcg) rfl rfl rfl (K.1.1.2.1 _ (atT_in h1) rfl) (hts _ f2) ⟨f7, f8, f5⟩ (hrm f9), hts _ (gtbl_in (atT_in h2) rfl), trivial⟩ ⟨PK2.blind hf, pre⟩ rfl hn9 hls hstk hzz hd hfr
    | false =>
      rw [hns] at h1
      exact va_runS (As := as.map (gimg (gadr z ad))) Sx hcon ⟨callB_of (gnrO k') hts2 (goodIn_g2 hcg) rfl rfl rfl (hts _ f2) (hts _ (gtbl_in (atT_in h1) rfl)) ⟨f7, f8, f5⟩ (hrm f9), hts _ (gtbl_in (atT_in h2) rfl)⟩ ⟨PK2.blind hf, pre⟩ rfl hn9 hls hstk hzz hd hfr
  | invokespecial x0 =>
    obtain ⟨hd, hnx, hi⟩ := chk3 (A := decode (gccO k) pc = .ok (.invokespecial x0, glen (.invokespecial x0))) (n := nx) (m := pc + glen (.invokespecial x0)) (B := Nat.blt (gpx (.invokespecial x0)) 2000 && gchI k pc (.invokespecial x0) a b t v w) (gchE_at hm)
    have hi := (and2 hi).2
    obtain ⟨ht9, rfl, hpo⟩ := gcallI_spec hpc
    obtain ⟨hstk, hlen⟩ := gpop_stk (f := gimg (gadr z ad)) hpo
    refine ⟨hnx, ?_⟩
    rcases ht9 with rfl | rfl
    · simp only [gchI, Bool.and_eq_true, decide_eq_true_eq] at hi
      obtain ⟨⟨⟨⟨h1, h2⟩, h3⟩, h4⟩, h5⟩ := hi
      have hk2 : k' < 74 := blt_of h5
      have hcon := hcon hk2 ad
      obtain ⟨f1, f2, f3, f4, f5, f6, f7, f8, f9⟩ := gmth_at hk2
      have hrn : gretO k' = none := Option.isNone_iff_eq_none.mp (gini_ret k' hk2 h3)
      have hcod : gcodW k' = .code (gyO k') (gccO k') (gmiOf k').2.2 none := by unfold gcodW; rw [hrn]
      have hcg : ∀ w ∈ (gcodW k' :: gtbl), w ∈ gtbl2 := fun w hw => by
        rcases List.mem_cons.mp hw with rfl | hw
        · exact g2 f1
        · exact g2 hw
      have hlb := Nat.eq_of_beq_eq_true h4
      cases as with
      | nil => have h9 : 0 = b := hlen; omega
      | cons v0 as0 =>
      have hn9 : (as0.map (gimg (gadr z ad))).length = gnrO k' := by
        rw [List.length_map]
        have h9 : as0.length + 1 = b := hlen
        omega
      have hrf : ∃ r9, v0 = .inr (.inr (some r9)) := ginit_ref hk2 h3 hcal
      obtain ⟨r9, rfl⟩ := hrf
      have hst9 : (F0 m pc ls (st.map (gimg (gadr z ad)))).stack = (as0.map (gimg (gadr z ad))).reverse ++ .ref (gadr z ad r9) :: r.map (gimg (gadr z ad)) := by
        show st.map _ = _
        rw [hstk]
        exact grev1
      cases hns : gnst (2000 * gclO k + x0) with
      | true =>
        rw [hns] at h1
        exact va_runIN (As := as0.map (gimg (gadr z ad))) (b := gadr z ad r9) Sx hcon ⟨va_cnB (gnrO k') hts2 (goodIn_g2 hcg) (by rw [hcod]) rfl rfl (K.1.1.2.1 _ (atT_in h1) rfl) (hts _ f2) ⟨f7, f8, f5⟩ (hrm f9), h3, hts _ (gtbl_in (atT_in h2) rfl)⟩ ⟨PK2.blind hf, pre⟩ rfl hn9 hls hst9 hzz hd hfr
      | false =>
        rw [hns] at h1
        exact va_runI (As := as0.map (gimg (gadr z ad))) (b := gadr z ad r9) Sx hcon (cwI (gnrO k') hts2 (goodIn_g2 hcg) (by rw [hcod]) rfl rfl (hts _ f2) (hts _ (gtbl_in (atT_in h1) rfl)) (hts _ (gtbl_in (atT_in h2) rfl)) h3 ⟨f7, f8, f5⟩ (hrm f9)) ⟨PK2.blind hf, pre⟩ rfl hn9 hls hst9 hzz hd hfr
    · simp only [gchI, Bool.and_eq_true, gin, decide_eq_true_eq] at hi
      obtain ⟨⟨⟨⟨⟨h1, h2⟩, h3⟩, h4⟩, h5⟩, h6⟩ := hi
      have hk2 : k' < 74 := blt_of h6
      have hcon := hcon hk2 ad
      obtain ⟨f1, f2, f3, f4, f5, f6, f7, f8, f9⟩ := gmth_at hk2
      have hcg : ∀ w ∈ (gcodW k' :: gtbl), w ∈ gtbl2 := fun w hw => by
        rcases List.mem_cons.mp hw with rfl | hw
        · exact g2 f1
        · exact g2 hw
      obtain ⟨r9, as0, rfl, hrec⟩ := grecv_12 K hP hS hrc
      have hn9 : (as0.map (gimg (gadr z ad))).length = gnrO k' := by
        rw [List.length_map]
        have h9 : as0.length + 1 = b := hlen
        have := Nat.eq_of_beq_eq_true h5
        omega
      have hst9 : (F0 m pc ls (st.map (gimg (gadr z ad)))).stack = (as0.map (gimg (gadr z ad))).reverse ++ .ref (gadr z ad r9) :: r.map (gimg (gadr z ad)) := by
        show st.map _ = _
        rw [hstk]
        exact grev1
      have hG : GoodIn gtbl2 (va_wsSU (gownN (gclO k)) x0 (gyO k') (gcodW k' :: gtbl)) := goodIn_g2 (fun w hw => by
        unfold va_wsSU at hw
        rcases List.mem_append.mp hw with hw | hw
        · simp only [List.mem_cons, List.not_mem_nil, or_false] at hw
          rcases hw with rfl | rfl | rfl | rfl | rfl
          · exact g2 (gtbl_in (atT_in h1) rfl)
          · exact g2 (gtbl_in (atT_in h2) rfl)
          · exact g2 (gtbl_in h3 rfl)
          · exact g2 (gtbl_in (atT_in h4) rfl)
          · exact g2 f2
        · exact hcg w hw)
      obtain ⟨cC, kC, hc1, hc2, hc3, -, -, -⟩ := Cond.instantiable_spec (hts _ (gtbl_in gins12 rfl))
      exact va_runSU (As := as0.map (gimg (gadr z ad))) (b := gadr z ad r9) ⟨hc1, kC, hc2, hc3⟩ Sx hcon (va_cwSU (gnrO k') hts2 hG rfl rfl rfl ⟨gsup_nm k' hk2 h2, f5⟩ (hrm f9)) ⟨PK2.blind hf, hrec, pre⟩ rfl hn9 hls hst9 hzz hd hfr
  | _ => exact nomatch (show (none : Option (Nat × List gPV × List gPV)) = some _ from hpc)
/-- after a call: the things are those that it leaves -/
theorem grun_W {o : gPO} {S1 : gST} {mc ms cells slots : Nat} {H : Heap} {locs : List Loc} {ls : Array Slot} {ad : Nat → Nat} {st0 rest0 : List Value} {a9 : Array Value}
    (hr : va_Run p l e R s m args below meth c H locs cells slots mc ms (F0 m pc ls st0) rest0 (QK2 z L xs ad o S S1 a9) (AB z)) (hS : va_S (AB z) s.heap H locs)
    (kn : ∀ (ad' : Nat → Nat) (H1 : Heap) (locs1 : List Loc), (∀ i, i < S.2.1.length → ad' i = ad i) → va_P z.1 vwCl (gW z S1.1 ad' S1.2.1) H1 → va_D (AB z) (gW z S1.1 ad' S1.2.1) → scr L xs S1.1 → va_S (AB z) s.heap H1 locs1 → W p l e R s m args below meth c H1 locs1 (cells + mc) (slots + ms) Q (F0 m (pc + 3) ls ((o.map (gimg (gadr z ad'))).toList ++ rest0))) :
    W p l e R s m args below meth c H locs cells slots Q (F0 m pc ls st0) := by
  intro T hT X
  obtain ⟨v, st₀, t, T', L9, h0, X', hL, e1, e2, ⟨ad', hag, hv, ⟨hw1, hd1, hsc⟩, hF⟩, st⟩ := hr T hT X
  obtain ⟨k1, k2, k3⟩ := vx_keep h0 e1 hS (fun q _ h => h) (fun q h => h) hL hF
  cases hv
  obtain ⟨t2, a1, b1⟩ := kn ad' T'.heap (locs ++ L9) hag (by rw [e1]; exact hw1) hd1 hsc k3 T' rfl X'
  exact ⟨t2, st t2 a1, b1⟩
/-! calls of the class's machine -/
theorem gW_fst {z : PP} {h h1 : PH} {ad : Nat → Nat} {M : List gDT} : (gW z h ad M).map Prod.fst = (gW z h1 ad M).map Prod.fst := by
  unfold gW wd
  rw [List.map_append, List.map_append, List.map_map, List.map_map]
  rfl
theorem va_D_fst {A : Nat → Prop} {ws ws' : va_W} (h : ws.map Prod.fst = ws'.map Prod.fst) (hD : va_D A ws) : va_D A ws' := by
  have key : ∀ (k : Nat) (q : Nat × va_E), ws'[k]? = some q → ∃ q', ws[k]? = some q' ∧ q'.1 = q.1 := by
    intro k q hq
    have h1 : (ws.map Prod.fst)[k]? = some q.1 := by rw [h, List.getElem?_map, hq]; rfl
    rw [List.getElem?_map] at h1
    obtain ⟨q', h2, h3⟩ := Option.map_eq_some_iff.mp h1
    exact ⟨q', h2, h3⟩
  refine ⟨fun i j p q hi hj e => ?_, fun k q hq => ?_⟩
  · obtain ⟨p', h1, h2⟩ := key i p hi
    obtain ⟨q', h3, h4⟩ := key j q hj
    exact hD.1 i j _ _ h1 h3 (by rw [h2, h4, e])
  · obtain ⟨q', h1, h2⟩ := key k q hq
    rw [← h2]
    exact hD.2 k q' h1
theorem gW_wd {h : PH} {ad : Nat → Nat} {M : List gDT} {H : Heap} (hP : va_P z.1 vwCl (gW z h ad M) H) : va_P z.1 vwCl (wd z h) H := fun k q hk => hP k q (by
  unfold gW
  rw [List.getElem?_append_left (List.getElem?_eq_some_iff.mp hk).1]
  exact hk)
/-- the class's machine changed the class's things alone -/
theorem gW_other {h h1 : PH} {ad : Nat → Nat} {M : List gDT} {H H1 : Heap} (hP : va_P z.1 vwCl (gW z h ad M) H) (hD : va_D (AB z) (gW z h ad M)) (hk : ∀ q : Nat, q < H.size → ¬ A0 z q → H1[q]? = H[q]?) (hw : va_P z.1 vwCl (wd z h1) H1) : va_P z.1 vwCl (gW z h1 ad M) H1 := by
  refine hw.app (va_P.kept (H := H) (fun k q hq => hP (122 + k) q ?_) (fun k q hq => ?_))
  · unfold gW
    rw [List.getElem?_append_right (by rw [wd_len]; omega), wd_len, show 122 + k - 122 = k by omega]
    exact hq
  · have h9 : (gW z h ad M)[122 + k]? = some q := by
      unfold gW
      rw [List.getElem?_append_right (by rw [wd_len]; omega), wd_len, show 122 + k - 122 = k by omega]
      exact hq
    refine hk q.1 ((hP _ _ h9).lt) (fun ⟨i, hi, e9⟩ => ?_)
    have h8 : (gW z h ad M)[i]? = some (z.2.2.1 i, encE z h i) := by
      unfold gW
      rw [List.getElem?_append_left (by rw [wd_len]; exact hi), wd_get hi]
    have := hD.1 _ _ _ _ h9 h8 e9
    omega
theorem gxv_img {ad : Nat → Nat} {as : List gPV} (h : gxok as = true) : (as.map gxv).map (img z.2.2.1) = as.map (gimg (gadr z ad)) := by
  have h := (and2 (show (_ && as.all (fun v => match v with
    | .inl _ => true
    | .inr (.inr (some (.inr 0))) => true
    | _ => false)) = true from h)).2
  rw [List.map_map]
  refine List.map_congr_left fun v hv => ?_
  have h1 := List.all_eq_true.mp h v hv
  split at h1
  · rfl
  · rfl
  · cases h1
theorem gxok_0 {as : List gPV} (h : gxok as = true) : ∃ as0, as = .inr (.inr (some (.inr 0))) :: as0 := by
  have h := (and2 (show ((match (generalizing := false) as with
    | .inr (.inr (some (.inr 0))) :: _ => true
    | _ => false) && as.all (fun v => match v with
    | .inl _ => true
    | .inr (.inr (some (.inr 0))) => true
    | _ => false)) = true from h)).1
  split at h
  · exact ⟨_, rfl⟩
  · cases h
def gOutV (v : Option Value) : Prop := v = none ∨ (∃ x, v = some (.int x)) ∨ ∃ x, v = some (.long x)
theorem pw_out {d k : Nat} {v : Option Value} {h' : PH} : ∀ (n pc : Nat) (lv : PL) (st : List Value) (h : PH) (cnt : Nat), pw (Ex d) (miOf k) (fun o1 h1 => o1 = .inl v ∧ h1 = h') n pc lv st h cnt → gOutV v := by
  intro n
  induction n with
  | zero => intro pc lv st h cnt hp; exact hp.elim
  | succ n ih =>
    intro pc lv st h cnt hp
    obtain ⟨e0, hm, hp⟩ := hp
    rcases hp with ⟨pc', lv', st', h', hs, hk1⟩ | ⟨o, hr1, hQ⟩ | ⟨E, ht, hc1, hz, hQ⟩ | ⟨mm, hk1⟩ | ⟨k', as, r, o1, h1, hpc, hrc, hz, hb, hcal, hout⟩
    · exact ih _ _ _ _ _ hk1
    · cases hQ.1
      rcases pret_spec hr1 with ⟨-, x, -, ⟨-, h9⟩ | ⟨-, -, h9⟩⟩ | ⟨-, x, -, -, h9⟩ | ⟨-, -, -, h9⟩
      · exact Or.inr (Or.inl ⟨x, h9⟩)
      · exact Or.inr (Or.inl ⟨x, h9⟩)
      · exact Or.inr (Or.inr ⟨x, h9⟩)
      · exact Or.inl h9
    · cases hQ.1
    · exact ih _ _ _ _ _ hk1
    · rcases hout with ⟨v2, e2, hk2⟩ | ⟨E, e2, hx9⟩
      · exact ih _ _ _ _ _ hk2
      · rcases hx9 with ⟨-, hQ⟩ | ⟨t, ht, hk2⟩
        · cases hQ.1
        · exact ih _ _ _ _ _ hk2
theorem ex_out {d k : Nat} {as : List Value} {h h' : PH} {v : Option Value} (hex : Ex d k as h (.inl v) h') : gOutV v := by
  cases d with
  | zero => exact hex.elim
  | succ d =>
    obtain ⟨-, n, hp⟩ := hex
    exact pw_out n _ _ _ _ _ hp
theorem gOutV_img {v : Option Value} (h : gOutV v) (f : Nat ⊕ Nat → Nat) (g : Nat → Nat) : (v.map (img g)).toList = ((gxo v).toList).map (gimg f) := by
  rcases h with rfl | ⟨x, rfl⟩ | ⟨x, rfl⟩ <;> rfl
theorem gxcallV_spec {x0 nx a b t k' : Nat} {v : Int32} {w : Int64} {st as r : List gPV} (h : gxcall (.invokevirtual x0, nx, a, b, t, v, w) st = some (k', as, r)) : t = 140 ∧ k' = a ∧ gpop b st [] = some (as, r) := by
  have h1 : (match (generalizing := false) t with
    | 140 => (gpop b st []).map fun p => (a, p.1, p.2)
    | _ => none) = some (k', as, r) := h
  split at h1
  · obtain ⟨⟨as2, r2⟩, h3, h4⟩ := mp2 h1
    cases h4
    exact ⟨rfl, rfl, h3⟩
  · cases h1
theorem gxcallS_spec {x0 nx a b t k' : Nat} {v : Int32} {w : Int64} {st as r : List gPV} (h : gxcall (.invokestatic x0, nx, a, b, t, v, w) st = some (k', as, r)) : t = 140 ∧ k' = a ∧ gpop b st [] = some (as, r) := by
  have h1 : (match (generalizing := false) t with
    | 140 => (gpop b st []).map fun p => (a, p.1, p.2)
    | _ => none) = some (k', as, r) := h
  split at h1
  · obtain ⟨⟨as2, r2⟩, h3, h4⟩ := mp2 h1
    cases h4
    exact ⟨rfl, rfl, h3⟩
  · cases h1
set_option maxHeartbeats 4000000 in
theorem gxcall_run {dX : Nat} {e0 : PE} {as r : List gPV} {k' : Nat} {v : Option Value} {h1 : PH} {cells slots : Nat} {H : Heap} {locs : List Loc} {ls : Array Slot} {ad : Nat → Nat} (hst : l.stackTraces = false) (hf : GF z) (hL : L ≤ 3072)
    (C : GX k p s m args c) (K : GK z L xs s) (hm : (gmiOf k).1 pc = some e0) (hpc : gxcall e0 st = some (k', as, r)) (hxo : gxok as = true) (hz : gcat r ≤ 8) (hcal : Ex dX k' (as.map gxv) S.1 (.inl v) h1)
    (hR : 21 + dX ≤ R.frames ∧ 328 + 60 * dX ≤ R.locals ∧ cells + mcOf k' ≤ R.cells ∧ slots + 6 * mcOf k' ≤ R.slots)
    (hP : va_P z.1 vwCl (gW z S.1 ad S.2.1) H) (hS : va_S (AB z) s.heap H locs) (hq : scr L xs S.1) (hls : ls.size = (gmiOf k).2.2) :
    e0.2.1 = pc + 3 ∧ vx_Run p l e R s m args below meth c H locs cells slots (mcOf k') (6 * mcOf k') (F0 m pc ls (st.map (gimg (gadr z ad)))) (r.map (gimg (gadr z ad))) (QK z L xs (.inl v) h1 (as.map (gimg (gadr z ad))).toArray) (XK z L xs (.inl v) h1) (A0 z) := by
  obtain ⟨hx, hb, hml, hown, hts⟩ := C
  obtain ⟨i, nx, a, b, t, v9, w⟩ := e0
  have Sx : CallFix p m c (gccO k) (gmiOf k).2.2 s args gtbl (gownN (gclO k)) := ⟨hx, hb, hml, hown, hts⟩
  have hzz : 2 * (F0 m pc ls (st.map (gimg (gadr z ad)))).monitorRoom + ((r.map (gimg (gadr z ad))).map fun v => v.category).sum ≤ 8 := by
    show 2 * 0 + _ ≤ 8
    rw [gcat_eq]
    omega
  have himg := gxv_img (z := z) (ad := ad) hxo
  have pre : ∀ U : State, U.heap = H → s.WarmedH U.vm → PK z L xs (as.map gxv) S.1 (as.map (gimg (gadr z ad))).toArray U := fun U hU hW => ⟨by rw [himg], (GK.go hf K hW (by rw [hU]; exact hS)).1.wt hf.sub, by rw [hU]; exact gW_wd hP, hq⟩
  have hfr : cells + mcOf k' ≤ R.cells ∧ slots + 6 * mcOf k' ≤ R.slots := ⟨hR.2.2.1, hR.2.2.2⟩
  obtain ⟨as0, rfl⟩ := gxok_0 hxo
  cases i with
  | invokevirtual x0 =>
    obtain ⟨hd, hnx, hi⟩ := chk3 (A := decode (gccO k) pc = .ok (.invokevirtual x0, glen (.invokevirtual x0))) (n := nx) (m := pc + glen (.invokevirtual x0)) (B := Nat.blt (gpx (.invokevirtual x0)) 2000 && gchI k pc (.invokevirtual x0) a b t v9 w) (gchE_at hm)
    have hi := (and2 hi).2
    obtain ⟨rfl, rfl, hpo⟩ := gxcallV_spec hpc
    have hi1 : (atT (gpP (2000 * gclO k + x0)) (.methodLink (gownN (gclO k)) x0 (yOf k')) && atT (gxiP k') (.instanceMethod (yOf k')) && atT (gxsP k') (.selects "WindyTours" (yOf k') (yOf k')) && Nat.beq b (nargOf k' + 1) && Nat.blt k' 119 && Nat.beq (clsOf k') 7) = true := hi
    simp only [Bool.and_eq_true] at hi1
    obtain ⟨⟨⟨⟨⟨j1, j2⟩, j3⟩, j4⟩, j5⟩, j6⟩ := hi1
    have hk2 : k' < 119 := blt_of j5
    have hc7 : clsOf k' = 7 := Nat.eq_of_beq_eq_true j6
    obtain ⟨f1, f2, f3, f4, f5, f6, f7, f8, f9, f10⟩ := mth_at hk2
    obtain ⟨hstk, hlen⟩ := gpop_stk (f := gimg (gadr z ad)) hpo
    have hcn : (yOf k').cls = "WindyTours" := by rw [f3, hc7]; rfl
    have hn9 : (as0.map (gimg (gadr z ad))).length = nargOf k' := by
      rw [List.length_map]
      have h9 : as0.length + 1 = b := hlen
      have := Nat.eq_of_beq_eq_true j4
      omega
    have hst9 : (F0 m pc ls (st.map (gimg (gadr z ad)))).stack = (as0.map (gimg (gadr z ad))).reverse ++ .ref (z.2.2.1 0) :: r.map (gimg (gadr z ad)) := by
      show st.map _ = _
      rw [hstk]
      exact grev1
    have hget : (wd z S.1)[0]? = some (z.2.2.1 0, .inr (7, flds z.2.2.1 (S.1.1 0) (layF 0).2.2 0)) := by
      rw [wd_get (by omega)]
      rfl
    have hrec := va_recv K.1.1.1 (gW_wd hP) (clA (ci := 7) (by omega)) hget
    have hcod : codW k' = .code (yOf k') (ccOf k') (miOf k').2.2.2.2 (retOf k') := by unfold codW; rw [hh_virt hk2 (by omega)]
    have hG : GoodIn gtbl (wsV (gownN (gclO k)) x0 "WindyTours" (yOf k') (codW k' :: gtbl)) := goodIn_g (fun w hw => by
      unfold wsV at hw
      rcases List.mem_append.mp hw with hw | hw
      · simp only [List.mem_cons, List.not_mem_nil, or_false] at hw
        rcases hw with rfl | rfl | rfl | rfl
        · exact gtbl_in (atT_in j1) rfl
        · exact gtbl_in (atT_in j2) rfl
        · exact gtbl_in (atT_in j3) rfl
        · rw [← hcn]; exact f2
      · rcases List.mem_cons.mp hw with rfl | hw
        · exact f1
        · exact hw)
    exact ⟨hnx, vx_runV (As := as0.map (gimg (gadr z ad))) (b := z.2.2.1 0) Sx (sound hst hf.wf hL dX k' _ _ _ _ hcal hk2) (cwV (nargOf k') hts hG (by rw [hcod]) rfl rfl ⟨hcn, f7, f8, f5⟩ ⟨by show 20 + dX + 1 ≤ _; omega, by show 8 + (_ + 11) + (300 + 60 * dX) ≤ _; omega⟩) ⟨PK.blind hf.wf, hrec, pre⟩ rfl hn9 hls hst9 hzz hd hfr⟩
  | invokestatic x0 =>
    obtain ⟨hd, hnx, hi⟩ := chk3 (A := decode (gccO k) pc = .ok (.invokestatic x0, glen (.invokestatic x0))) (n := nx) (m := pc + glen (.invokestatic x0)) (B := Nat.blt (gpx (.invokestatic x0)) 2000 && gchI k pc (.invokestatic x0) a b t v9 w) (gchE_at hm)
    have hi := (and2 hi).2
    obtain ⟨rfl, rfl, hpo⟩ := gxcallS_spec hpc
    have hi1 : (atT (gpP (2000 * gclO k + x0)) (.methodLink (gownN (gclO k)) x0 (yOf k')) && atT (gstP k') (.static (yOf k')) && Nat.beq b (nargOf k') && Nat.blt k' 119 && !(hhOf k').isEmpty) = true := hi
    simp only [Bool.and_eq_true, Bool.not_eq_true'] at hi1
    obtain ⟨⟨⟨⟨j1, j2⟩, j4⟩, j5⟩, j6⟩ := hi1
    have hk2 : k' < 119 := blt_of j5
    obtain ⟨f1, f2, f3, f4, f5, f6, f7, f8, f9, f10⟩ := mth_at hk2
    obtain ⟨hstk, hlen⟩ := gpop_stk (f := gimg (gadr z ad)) hpo
    have hn9 : ((Sum.inr (Sum.inr (some (Sum.inr 0))) :: as0).map (gimg (gadr z ad))).length = nargOf k' := by
      rw [List.length_map, hlen]
      exact Nat.eq_of_beq_eq_true j4
    have hrm : (RMk dX k').frames + 1 ≤ R.frames ∧ 8 + ((miOf k').2.2.2.2 + 11) + (RMk dX k').locals ≤ R.locals := ⟨by show 20 + dX + 1 ≤ _; omega, by show 8 + (_ + 11) + (300 + 60 * dX) ≤ _; omega⟩
    cases hh : hhOf k' with
    | nil => rw [hh] at j6; cases j6
    | cons hq9 ht9 =>
      have hcod : codW k' = .codeWith (yOf k') (ccOf k') (miOf k').2.2.2.2 (retOf k') (hhOf k') := by unfold codW; rw [hh]
      have hG : GoodIn gtbl (va_wsS (gownN (gclO k)) x0 (yOf k') (codW k' :: gtbl)) := goodIn_g (fun w hw => by
        unfold va_wsS at hw
        rcases List.mem_append.mp hw with hw | hw
        · simp only [List.mem_cons, List.not_mem_nil, or_false] at hw
          rcases hw with rfl | rfl | rfl
          · exact gtbl_in (atT_in j1) rfl
          · exact gtbl_in (atT_in j2) rfl
          · exact f2
        · rcases List.mem_cons.mp hw with rfl | hw
          · exact f1
          · exact hw)
      exact ⟨hnx, vx_runSX (hh := hhOf k') (As := (Sum.inr (Sum.inr (some (Sum.inr 0))) :: as0).map (gimg (gadr z ad))) Sx (sound hst hf.wf hL dX k' _ _ _ _ hcal hk2) (vx_cwSW (nargOf k') hts hG (by rw [hcod]) rfl rfl ⟨f7, f8, f5⟩ hrm) ⟨PK.blind hf.wf, pre⟩ rfl hn9 hls hstk hzz hd hfr⟩
  | _ => exact nomatch (show (none : Option (Nat × List gPV × List gPV)) = some _ from hpc)
theorem grun_X {v : Option Value} {h h1 : PH} {ad : Nat → Nat} {M : List gDT} {mc ms cells slots : Nat} {H : Heap} {locs : List Loc} {ls : Array Slot} {st0 rest0 : List Value} {a9 : Array Value} (hf : GF z)
    (hr : vx_Run p l e R s m args below meth c H locs cells slots mc ms (F0 m pc ls st0) rest0 (QK z L xs (.inl v) h1 a9) (XK z L xs (.inl v) h1) (A0 z)) (hP : va_P z.1 vwCl (gW z h ad M) H) (hD : va_D (AB z) (gW z h ad M)) (hS : va_S (AB z) s.heap H locs)
    (kn : ∀ (H1 : Heap) (locs1 : List Loc), va_P z.1 vwCl (gW z h1 ad M) H1 → va_D (AB z) (gW z h1 ad M) → scr L xs h1 → va_S (AB z) s.heap H1 locs1 → W p l e R s m args below meth c H1 locs1 (cells + mc) (slots + ms) Q (F0 m (pc + 3) ls ((v.map (img z.2.2.1)).toList ++ rest0))) :
    W p l e R s m args below meth c H locs cells slots Q (F0 m pc ls st0) := by
  intro T hT X
  rcases hr T hT X with ⟨v1, st₀, t, T', L9, h0, X', hL, e1, e2, ⟨⟨v0, ho, hv⟩, ⟨hw1, hsc⟩, hF⟩, st⟩ | ⟨q, st₀, t, T', L9, E, ce, h0, X', hL, e1, e2, ⟨⟨j, ho, rfl, hj⟩, ⟨hw1, hsc⟩, hF⟩, hce, hcv, hcl, st⟩
  · obtain ⟨k1, k2, k3⟩ := vx_keep h0 e1 hS (fun q _ h => hf.sub q h) (fun q h => hf.sub q h) hL hF
    cases ho
    cases hv
    obtain ⟨t2, a1, b1⟩ := kn T'.heap (locs ++ L9) (gW_other hP hD k2 (by rw [e1]; exact hw1)) (va_D_fst gW_fst hD) hsc k3 T' rfl X'
    exact ⟨t2, st t2 a1, b1⟩
  · cases ho
theorem grtN_1 {r : Option FieldType} (h : grtN r = 1) : r = some .int := by
  unfold grtN at h
  split at h <;> first | rfl | (exact absurd h (by decide))
theorem grtN_2 {r : Option FieldType} (h : grtN r = 2) : r = some .boolean := by
  unfold grtN at h
  split at h <;> first | rfl | (exact absurd h (by decide))
theorem grtN_3 {r : Option FieldType} (h : grtN r = 3) : r = some .long := by
  unfold grtN at h
  split at h <;> first | rfl | (exact absurd h (by decide))
theorem grtN_0 {r : Option FieldType} (h : grtN r = 0) : r = none := by
  unfold grtN at h
  split at h <;> first | rfl | (exact absurd h (by decide))
theorem grtN_5 {r : Option FieldType} (h : grtN r = 5) : r = some .char := by
  unfold grtN at h
  split at h <;> first | rfl | (exact absurd h (by decide))
theorem grtN_6 {r : Option FieldType} (h : grtN r = 6) : r = some .byte := by
  unfold grtN at h
  split at h <;> first | rfl | (exact absurd h (by decide))
theorem grtN_4 {r : Option FieldType} (h : grtN r = 4) : ∃ rt, r = some rt ∧ ((∃ n, rt = .object n) ∨ ∃ t, rt = .array t) := by
  unfold grtN at h
  split at h <;> first | exact ⟨_, rfl, Or.inl ⟨_, rfl⟩⟩ | exact ⟨_, rfl, Or.inr ⟨_, rfl⟩⟩ | (exact absurd h (by decide))
/-- a method's return -/
theorem gend_ret {S0 : gST} {e0 : PE} {o : gPO} (C : GX k p s m args c) (hr : meth.sig.returnType = gretO k) (hlocks : meth.locks = false) (hk : k < 74) (hm : (gmiOf k).1 pc = some e0) (hp : gret (gmiOf k).2.1 e0 st = some o) :
    gGoal p l e R s m args below meth c (MQ below (QK2 z L xs ad0 o S0 S) args s (S.2.2.1 - S0.2.2.1) (S.2.2.2 - S0.2.2.2) (AB z)) z k L xs S0.2.1.length ad0 S0.2.2.1 S0.2.2.2 pc lv st S := by
  obtain ⟨hx, hb, hml, hown, hts⟩ := C
  intro ad H locs ls hag hP hD hS hq hl
  obtain ⟨i, nx, a, b, t, v, w⟩ := e0
  have hrt := (gmth_at hk).2.2.2.2.2.1
  have hk9 := gchE_at hm
  rcases gret_spec hp with ⟨hi, x, rfl, rfl, hx9⟩ | ⟨hi, x, rfl, h3, rfl⟩ | ⟨hi, x, rfl, h3, rfl⟩ | ⟨hi, rfl, h0, rfl⟩
  · obtain rfl : i = .ireturn := hi
    obtain ⟨hd, -, -⟩ := chk3 (A := decode (gccO k) pc = .ok (.ireturn, glen .ireturn)) (n := nx) (m := pc + glen .ireturn) (B := Nat.blt (gpx .ireturn) 2000 && gchI k pc .ireturn a b t v w) hk9
    rcases hx9 with h1 | ⟨h2, hx01⟩ | ⟨h5, hx5⟩ | ⟨h6, hx6⟩
    · have hr1 : gretO k = some .int := grtN_1 (hrt.trans h1)
      exact W.iret hx hb (hr.trans hr1) (fun t ht hW => ⟨ad, hag, rfl, ⟨by rw [ht]; exact hP, hD, hq⟩, hS.F ht⟩) hS.2.2 hd hlocks
    · have hr1 : gretO k = some .boolean := grtN_2 (hrt.trans h2)
      refine W.zret (ty := .boolean) hx hb (hr.trans hr1) ?_ (fun t ht hW => ⟨ad, hag, rfl, ⟨by rw [ht]; exact hP, hD, hq⟩, hS.F ht⟩) hS.2.2 hd hlocks
      rcases hx01 with rfl | rfl <;> rfl
    · have hr1 : gretO k = some .char := grtN_5 (hrt.trans h5)
      exact W.zret (ty := .char) hx hb (hr.trans hr1) (congrArg Value.int hx5) (fun t ht hW => ⟨ad, hag, rfl, ⟨by rw [ht]; exact hP, hD, hq⟩, hS.F ht⟩) hS.2.2 hd hlocks
    · have hr1 : gretO k = some .byte := grtN_6 (hrt.trans h6)
      exact W.zret (ty := .byte) hx hb (hr.trans hr1) (congrArg Value.int hx6) (fun t ht hW => ⟨ad, hag, rfl, ⟨by rw [ht]; exact hP, hD, hq⟩, hS.F ht⟩) hS.2.2 hd hlocks
  · obtain rfl : i = .lreturn := hi
    obtain ⟨hd, -, -⟩ := chk3 (A := decode (gccO k) pc = .ok (.lreturn, glen .lreturn)) (n := nx) (m := pc + glen .lreturn) (B := Nat.blt (gpx .lreturn) 2000 && gchI k pc .lreturn a b t v w) hk9
    have hr1 : gretO k = some .long := grtN_3 (hrt.trans h3)
    exact W.lret hx hb (hr.trans hr1) (fun t ht hW => ⟨ad, hag, rfl, ⟨by rw [ht]; exact hP, hD, hq⟩, hS.F ht⟩) hS.2.2 hd hlocks
  · obtain rfl : i = .areturn := hi
    obtain ⟨hd, -, -⟩ := chk3 (A := decode (gccO k) pc = .ok (.areturn, glen .areturn)) (n := nx) (m := pc + glen .areturn) (B := Nat.blt (gpx .areturn) 2000 && gchI k pc .areturn a b t v w) hk9
    obtain ⟨rt, hr1, hr2⟩ := grtN_4 (hrt.trans h3)
    refine W.aret hx hb (hr.trans hr1) hr2 ?_ (fun t ht hW => ⟨ad, hag, rfl, ⟨by rw [ht]; exact hP, hD, hq⟩, hS.F ht⟩) hS.2.2 hd hlocks
    cases x with
    | none => exact Or.inl rfl
    | some y => exact Or.inr ⟨_, rfl⟩
  · obtain rfl : i = .return_ := hi
    obtain ⟨hd, -, -⟩ := chk3 (A := decode (gccO k) pc = .ok (.return_, glen .return_)) (n := nx) (m := pc + glen .return_) (B := Nat.blt (gpx .return_) 2000 && gchI k pc .return_ a b t v w) hk9
    have hr1 : gretO k = none := grtN_0 (hrt.trans h0)
    exact W.vret hx hb (hr.trans hr1) (fun t ht hW => ⟨ad, hag, rfl, ⟨by rw [ht]; exact hP, hD, hq⟩, hS.F ht⟩) hS.2.2 hd hlocks
set_option maxHeartbeats 4000000 in
theorem gwalk {dX d : Nat} (hst : l.stackTraces = false) (hf : GF z) (hL : L ≤ 3072) (IH : ∀ (k : Nat) (as : List gPV) (S : gST) (o : gPO) (S' : gST), gEx dX d k as S o S' → k < 74 → gvD S.2 = true → as.all (gvv S.2.1.length) = true → Con2 l z L xs dX d k as S o S')
    (C : GX k p s m args c) (K : GK z L xs s) (hmn : meth.name = (gyO k).name) {Qf : gPO → gST → Prop} (hR : 41 + dX + d ≤ R.frames ∧ 1028 + 60 * (dX + d) ≤ R.locals) (hRc : ∀ o S', Qf o S' → S'.2.2.1 - c0 ≤ R.cells ∧ S'.2.2.2 - s0 ≤ R.slots)
    (E1 : ∀ (pc : Nat) (e0 : PE) (lv : gLV) (st : List gPV) (S : gST) (o : gPO), (gmiOf k).1 pc = some e0 → gret (gmiOf k).2.1 e0 st = some o → Qf o S → gInv S.2 lv st → gGoal p l e R s m args below meth c Q z k L xs n0 ad0 c0 s0 pc lv st S) :
    ∀ (n pc : Nat) (lv : gLV) (st : List gPV) (S : gST), gpw (gEx dX d) (Ex dX) (gmiOf k) Qf n pc lv st S → gInv S.2 lv st → n0 ≤ S.2.1.length → (c0 ≤ S.2.2.1 ∧ s0 ≤ S.2.2.2) → gGoal p l e R s m args below meth c Q z k L xs n0 ad0 c0 s0 pc lv st S := by
  intro n
  induction n with
  | zero => intro pc lv st S hp; exact hp.elim
  | succ n ih =>
    intro pc lv st S hp hi hn hcs
    obtain ⟨e0, hm, hp⟩ := hp
    have hR2 : 10 ≤ R.frames ∧ 200 ≤ R.locals := ⟨by omega, by omega⟩
    rcases hp with ⟨pc', lv', st', S1, hs, hk1⟩ | ⟨o, hr1, hQ⟩ | ⟨mm, hk1⟩ | ⟨k', as, r, o1, S1, hpc, hrc, hz, hcal, hk1⟩ | ⟨k', as, r, v, h1, hpc, hxo, hz, hcal, hk1⟩
    · obtain ⟨j1, j2⟩ := gstep_inv hs hi
      obtain ⟨o, S', q1, q2, q3, q4⟩ := gpw_inv (fun k as S o S' => gEx_inv d k as S o S') n _ _ _ _ hk1 j1
      have hr9 := hRc o S' q1
      have a1 := j2.1; have a2 := j2.2.1; have a3 := j2.2.2
      have b1 := q3.2.1; have b2 := q3.2.2
      exact gstep_ok C K hf hR2 hL hmn hm hs hi hn hcs ⟨by dsimp only at *; omega, by dsimp only at *; omega⟩ (ih _ _ _ _ hk1 j1 (Nat.le_trans hn a1) ⟨Nat.le_trans hcs.1 a2, Nat.le_trans hcs.2 a3⟩)
    · exact E1 pc e0 lv st S o hm hr1 hQ hi
    · intro ad H locs ls hag hP hD hS hq hl
      exact ih _ _ _ _ hk1 ⟨hi.1, gmask_all rfl hi.2.1, hi.2.2⟩ hn hcs ad H locs ls hag hP hD hS hq ⟨hl.1, hl.2.1, fun i v g => hl.2.2 i v (gmask_sub g)⟩
    · intro ad H locs ls hag hP hD hS hq hl
      obtain ⟨b, hpo⟩ := gcall_pop hpc
      obtain ⟨g1, g2⟩ := gpop_all hpo hi.2.2
      obtain ⟨j1, j2, j3⟩ := gEx_inv _ _ _ _ _ _ hcal hi.1 g1
      have hi2 : gInv S1.2 lv (o1.toList ++ r) := ⟨j1, all_mono (fun x => gvo_mono j2.1) hi.2.1, by rw [List.all_append, j3, all_mono (fun x => gvv_mono j2.1) g2]; rfl⟩
      obtain ⟨o, S', q1, q2, q3, q4⟩ := gpw_inv (fun k as S o S' => gEx_inv d k as S o S') n _ _ _ _ hk1 hi2
      have hr9 := hRc o S' q1
      have a1 := j2.1; have a2 := j2.2.1; have a3 := j2.2.2
      have b1 := q3.2.1; have b2 := q3.2.2
      obtain ⟨hnx, hrun⟩ := gcall_run (cells := S.2.2.1 - c0) (slots := S.2.2.2 - s0) hf hcal (fun hk => IH _ _ _ _ _ hcal hk hi.1 g1) C K hm hpc hrc hz ⟨hR.1, hR.2, by omega, by omega⟩ hP hD hS hq hl.1
      refine grun_W hrun hS (fun ad' H1 locs1 hag' hP1 hD1 hq1 hS1 => ?_)
      have hg : ∀ i, i < S.2.1.length → gadr z ad' (.inl i) = gadr z ad (.inl i) := hag'
      have g := ih _ _ _ _ hk1 hi2 (Nat.le_trans hn a1) ⟨Nat.le_trans hcs.1 a2, Nat.le_trans hcs.2 a3⟩ ad' H1 locs1 ls (fun i h9 => (hag' i (Nat.lt_of_lt_of_le h9 hn)).trans (hag i h9)) hP1 hD1 hS1 hq1 (gLH_ag (f := gadr z ad) (n := S.2.1.length) (fun _ => rfl) hg hl hi.2.1)
      rw [hnx] at g
      have e9 : (o1.map (gimg (gadr z ad'))).toList ++ r.map (gimg (gadr z ad)) = (o1.toList ++ r).map (gimg (gadr z ad')) := by
        rw [List.map_append, gst_ag (f := gadr z ad) (g := gadr z ad') (n := S.2.1.length) (fun _ => rfl) hg g2]
        cases o1 <;> rfl
      rw [e9, show S.2.2.1 - c0 + (S1.2.2.1 - S.2.2.1) = S1.2.2.1 - c0 by omega, show S.2.2.2 - s0 + (S1.2.2.2 - S.2.2.2) = S1.2.2.2 - s0 by omega]
      exact g
    · intro ad H locs ls hag hP hD hS hq hl
      obtain ⟨b, hpo⟩ := gxcall_pop hpc
      obtain ⟨g1, g2⟩ := gpop_all hpo hi.2.2
      have hi2 : gInv (gBm S.2 (mcOf k')) lv ((gxo v).toList ++ r) := ⟨hi.1, hi.2.1, by rw [List.all_append, gxo_all, Bool.true_and]; exact g2⟩
      obtain ⟨o, S', q1, q2, q3, q4⟩ := gpw_inv (fun k as S o S' => gEx_inv d k as S o S') n _ _ _ _ hk1 hi2
      have hr9 := hRc o S' q1
      have b1 : S.2.2.1 + mcOf k' ≤ S'.2.2.1 := q3.2.1
      have b2 : S.2.2.2 + 6 * mcOf k' ≤ S'.2.2.2 := q3.2.2
      obtain ⟨hnx, hrun⟩ := gxcall_run (p := p) (e := e) (R := R) (s := s) (args := args) (below := below) (meth := meth) (c := c) (z := z) (xs := xs) (L := L) (cells := S.2.2.1 - c0) (slots := S.2.2.2 - s0) hst hf hL C K hm hpc hxo hz hcal ⟨by omega, by omega, by omega, by omega⟩ hP hS hq hl.1
      refine grun_X hf hrun hP hD hS (fun H1 locs1 hP1 hD1 hq1 hS1 => ?_)
      have g := ih _ _ _ _ hk1 hi2 hn ⟨Nat.le_trans hcs.1 (Nat.le_add_right ..), Nat.le_trans hcs.2 (Nat.le_add_right ..)⟩ ad H1 locs1 ls hag hP1 hD1 hS1 hq1 hl
      rw [hnx] at g
      have e9 : (v.map (img z.2.2.1)).toList ++ r.map (gimg (gadr z ad)) = ((gxo v).toList ++ r).map (gimg (gadr z ad)) := by
        rw [List.map_append, gOutV_img (ex_out hcal) (gadr z ad)]
      rw [e9, show S.2.2.1 - c0 + mcOf k' = S.2.2.1 + mcOf k' - c0 by omega, show S.2.2.2 - s0 + 6 * mcOf k' = S.2.2.2 + 6 * mcOf k' - s0 by omega]
      exact g
end GWK
section GSND
variable {l : Launch} {z : PP} {L : Nat} {xs : Nat → Int32}
set_option maxHeartbeats 4000000 in
/-- EVERY METHOD OF THE SECOND MACHINE: what it comes to, the machine comes to -/
theorem gsound {dX : Nat} (hst : l.stackTraces = false) (hf : GF z) (hL : L ≤ 3072) :
    ∀ (d : Nat) (k : Nat) (as : List gPV) (S : gST) (o : gPO) (S' : gST), gEx dX d k as S o S' → k < 74 → gvD S.2 = true → as.all (gvv S.2.1.length) = true → Con2 l z L xs dX d k as S o S' := by
  intro d
  induction d with
  | zero => intro k as S o S' hex; exact hex.elim
  | succ d IH =>
    intro k as S o S' hex hk hv ha ad
    obtain ⟨hcat, n, hpw⟩ := hex
    have hcat := Nat.le_of_ble_eq_true hcat
    have hm9 := gmth_at hk
    refine Met.ofW (cc := gccO k) (maxL := (gmiOf k).2.2) (ret := gretO k) hm9.2.2.2.1 rfl ?_
    intro p e s m args below meth c s₁ B hml hp
    obtain ⟨rfl, K, hP, hD, hq⟩ := hp
    have hts0 := atoms_spec (ws := gcodW k :: gtbl) B.pre
    have hown : s.vm.findClass (gownN (gclO k)) = some m.cls := by rw [← hm9.2.2.1]; exact findClass_of_methodNamed B.named
    have C : GX k p s m (as.map (gimg (gadr z ad))).toArray c := ⟨B.exec, B.bytes, hml, hown, fun w hw => hts0 w (List.mem_cons_of_mem _ hw)⟩
    have hnm : meth.name = (gyO k).name := (name_of_methodNamed B.named B.method).1
    have wk := gwalk (Qf := fun o1 s1 => o1 = o ∧ s1 = S') (Q := MQ below (QK2 z L xs ad o S S') (as.map (gimg (gadr z ad))).toArray s (S'.2.2.1 - S.2.2.1) (S'.2.2.2 - S.2.2.2) (AB z)) (R := RM2 dX (d + 1) (S'.2.2.1 - S.2.2.1) (S'.2.2.2 - S.2.2.2)) (meth := meth) (below := below) (e := e) (n0 := S.2.1.length) (ad0 := ad) (c0 := S.2.2.1) (s0 := S.2.2.2) hst hf hL IH C K hnm ⟨by show 41 + dX + d ≤ 40 + dX + (d + 1); omega, by show 1028 + 60 * (dX + d) ≤ 1000 + 60 * (dX + (d + 1)); omega⟩
      (fun o1 s1 hQ => by obtain ⟨-, rfl⟩ := hQ; exact ⟨Nat.le_refl _, Nat.le_refl _⟩)
      (fun pc e0 lv st S9 o2 hm hp hQ hi => by obtain ⟨rfl, rfl⟩ := hQ; exact gend_ret C B.returns B.notSynchronized hk hm hp)
      n 0 _ _ S hpw ⟨hv, glA_all ha, rfl⟩ (Nat.le_refl _) ⟨Nat.le_refl _, Nat.le_refl _⟩
    have hle : (lg_sl (as.map (gimg (gadr z ad)))).length ≤ (gmiOf k).2.2 := by rw [glg_len]; exact hcat
    have hl := lv_entry (as.map (gimg (gadr z ad))) (n := (gmiOf k).2.2) hle
    rw [lg_entry_eq]
    have g := wk ad s.heap [] _ (fun i hi => rfl) hP hD va_S.rf hq ⟨hl.1, hl.2.1, fun i v g => by
      have := glA_spec (f := gadr z ad) (k := 0) g
      rw [Nat.zero_add] at this
      exact hl.2.2 _ this⟩
    rw [Nat.sub_self, Nat.sub_self] at g
    exact g
end GSND
