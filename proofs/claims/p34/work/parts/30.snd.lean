/-! THE WHOLE WALK, and every method's contract -/
def thrL (ik ic E : Nat) : List Cond := Cond.classLink RX7 ik (exN E) :: Cond.initialized (exN E) :: vx_atS RX7 ic (exN E) ["java/lang/RuntimeException", "java/lang/Exception"]
def thrOK (ik ic E : Nat) : Bool := (thrL ik ic E).all (fun w => decide (w ∈ lw_tbl) && (goodWord w || isDC w) && vx_ot w) && Bundle.fit (exN E)
theorem thrOK_0 : thrOK 53 57 0 = true := by decide +kernel
theorem thrOK_1 : thrOK 188 192 1 = true := by decide +kernel
theorem thrOK_2 : thrOK 180 184 2 = true := by decide +kernel
def thrNS : List Cond := Cond.classLink RX7 162 nsX :: Cond.initialized nsX :: nsF RX7 166
theorem thrNS_ok : thrNS.all (fun w => decide (w ∈ lw_tbl) && (goodWord w || isDC w) && vx_ot w) = true := by decide +kernel
def chkX (q : Nat) : Bool := match tres q with
  | none => true
  | some (ik, ic, E, _) => Nat.beq (q % 10000 / 1000) 7 && ((Nat.beq ik 53 && Nat.beq ic 57 && Nat.beq E 0) || (Nat.beq ik 188 && Nat.beq ic 192 && Nat.beq E 1) || (Nat.beq ik 180 && Nat.beq ic 184 && Nat.beq E 2) || (Nat.beq ik 162 && Nat.beq ic 166 && Nat.beq E 3))
theorem chkX_all : (List.range 100).all (fun i => (List.range 1000).all (fun j => chkX (1000 * i + j))) = true := by decide +kernel
theorem thr_at {q ik ic E : Nat} {tx : String} (h : tres q = some (ik, ic, E, tx)) : q % 10000 / 1000 = 7 ∧ E < 4 ∧ (thrOK ik ic E = true ∨ (ik = 162 ∧ ic = 166 ∧ E = 3)) := by
  have hq : q < 100000 := by
    unfold tres at h
    exact bif_lt h (fun e => by cases e)
  have h1 := List.all_eq_true.mp chkX_all (q / 1000) (List.mem_range.mpr (by omega))
  have h2 := List.all_eq_true.mp h1 (q % 1000) (List.mem_range.mpr (by omega))
  rw [show 1000 * (q / 1000) + q % 1000 = q by omega] at h2
  unfold chkX at h2
  rw [h] at h2
  simp only [Bool.and_eq_true, Bool.or_eq_true] at h2
  obtain ⟨a1, a2⟩ := h2
  refine ⟨Nat.eq_of_beq_eq_true a1, ?_⟩
  rcases a2 with ((⟨⟨b1, b2⟩, b3⟩ | ⟨⟨b1, b2⟩, b3⟩) | ⟨⟨b1, b2⟩, b3⟩) | ⟨⟨b1, b2⟩, b3⟩
  · rw [Nat.eq_of_beq_eq_true b1, Nat.eq_of_beq_eq_true b2, Nat.eq_of_beq_eq_true b3]
    exact ⟨by decide, Or.inl thrOK_0⟩
  · rw [Nat.eq_of_beq_eq_true b1, Nat.eq_of_beq_eq_true b2, Nat.eq_of_beq_eq_true b3]
    exact ⟨by decide, Or.inl thrOK_1⟩
  · rw [Nat.eq_of_beq_eq_true b1, Nat.eq_of_beq_eq_true b2, Nat.eq_of_beq_eq_true b3]
    exact ⟨by decide, Or.inl thrOK_2⟩
  · rw [Nat.eq_of_beq_eq_true b1, Nat.eq_of_beq_eq_true b2, Nat.eq_of_beq_eq_true b3]
    exact ⟨by decide, Or.inr ⟨rfl, rfl, rfl⟩⟩
def chkT (k : Nat) : Bool := (List.range (lenOf k)).all fun pc => match (miOf k).1 pc with
  | some (.new _, _, _, b, _, _, _) => Nat.blt b 1000
  | _ => true
theorem chkT_0 : (List.range 110).all chkT = true := by decide +kernel
theorem chkT_1 : (List.range 112).all (fun i => chkT (110 + i)) = true := by decide +kernel
theorem chkT_at {k pc ik nx a b t : Nat} {v : Int32} {w : Int64} (h : (miOf k).1 pc = some (.new ik, nx, a, b, t, v, w)) : b < 1000 := by
  obtain ⟨h1, h2, -⟩ := mi_at h
  have h3 : chkT k = true := by
    rcases Nat.lt_or_ge k 110 with q | q
    · exact List.all_eq_true.mp chkT_0 k (List.mem_range.mpr q)
    · have := List.all_eq_true.mp chkT_1 (k - 110) (List.mem_range.mpr (by omega))
      rw [show 110 + (k - 110) = k by omega] at this
      exact this
  unfold chkT at h3
  have h4 := List.all_eq_true.mp h3 pc (List.mem_range.mpr h2)
  rw [h] at h4
  exact blt_of h4
theorem chkH_at {k : Nat} (hk : k < 119) : chkH k = true := List.all_eq_true.mp chkH_all k (List.mem_range.mpr hk)
theorem hd_none {k pc : Nat} (hk : k < 119) (h : (miOf k).2.2.2.1 pc 99 = none) : hhOf k = [] := by
  have h1 : hdLOf k = [] := hdl_99 (show hdl (hdLOf k) pc 99 = none from h)
  have h2 := chkH_at hk
  unfold chkH at h2
  cases hh : hhOf k with
  | nil => rfl
  | cons x y =>
    rw [hh, h1] at h2
    simp at h2
theorem hd_some {k pc E : Nat} {t : Nat × Nat} (hk : k < 119) (h : (miOf k).2.2.2.1 pc E = some t) : hdOK k (hdLOf k) (hhOf k) = true := by
  have h2 := chkH_at hk
  unfold chkH at h2
  cases hh : hhOf k with
  | nil =>
    rw [hh] at h2
    dsimp only at h2
    have h1 : hdl (hdLOf k) pc E = some t := h
    cases hd : hdLOf k with
    | nil => rw [hd] at h1; cases h1
    | cons x y => rw [hd] at h2; cases h2
  | cons x y =>
    rw [hh] at h2
    rw [Bool.and_eq_true] at h2
    exact h2.1
section SND
variable {p : Program} {l : Launch} {e : Env} {R : Room} {s : State} {m : MethodId} {args : Array Value} {below : List Frame} {meth : Method} {c : Code} {Q : State → Prop}
variable {z : PP} {k L : Nat} {xs : Nat → Int32}
set_option maxHeartbeats 4000000 in
theorem walk {d : Nat} (hw : WF z) (hL : L ≤ 3072) (IH : ∀ (k : Nat) (as : List Value) (h : PH) (o : PO) (h' : PH), Ex d k as h o h' → k < 119 → Con l z L xs d k as h o h')
    (C : CX k p s m args c) (w0 : WT z L xs s) (HS : StrRule p l e R s m args below meth c z k) (hk : k < 119) (htab : c.exceptionTable.toList = tableOf (hhOf k)) {Qf : PO → PH → Prop} {c0 s0 : Nat}
    (hR : 21 + d ≤ R.frames ∧ 328 + 60 * d ≤ R.locals ∧ c0 + (miOf k).2.2.1 ≤ R.cells ∧ s0 + 6 * (miOf k).2.2.1 ≤ R.slots)
    (E1 : ∀ (pc : Nat) (e0 : PE) (lv : PL) (st : List Value) (h : PH) (cnt : Nat) (o : Option Value), (miOf k).1 pc = some e0 → pret (miOf k).2.1 e0 st = some o → Qf (.inl o) h → cnt ≤ (miOf k).2.2.1 → StepGoal p l e R s m args below meth c (c0 + cnt) (s0 + 6 * cnt) Q z k L xs pc lv st h)
    (E2 : ∀ (pc : Nat) (e0 : PE) (lv : PL) (st : List Value) (h : PH) (cnt E : Nat), (miOf k).1 pc = some e0 → pthrow e0 = some E → Qf (.inr E) h → cnt + 1 ≤ (miOf k).2.2.1 → catz st ≤ 8 → StepGoal p l e R s m args below meth c (c0 + cnt) (s0 + 6 * cnt) Q z k L xs pc lv st h)
    (E3 : ∀ (pc : Nat) (ls : Array Slot) (rest : List Value) (h : PH) (cnt : Nat) (H : Heap) (locs : List Loc) (E : Nat) (ce : Cell) (q : Addr), hhOf k = [] → Qf (.inr E) h → cnt ≤ (miOf k).2.2.1 → E < 4 → va_P z.1 vwCl (wd z h) H → scr L xs h → va_S (A0 z) s.heap H locs → H[q]? = some ce → ce.vm = .none → s.vm.findClass (exN E) = some ce.cls → vx_W p l e R s m args below meth c H locs (c0 + cnt) (s0 + 6 * cnt) Q (F0 m pc ls rest) q) :
    ∀ (n pc : Nat) (lv : PL) (st : List Value) (h : PH) (cnt : Nat), pw (Ex d) (miOf k) Qf n pc lv st h cnt → cnt ≤ (miOf k).2.2.1 → StepGoal p l e R s m args below meth c (c0 + cnt) (s0 + 6 * cnt) Q z k L xs pc lv st h := by
  intro n
  induction n with
  | zero => intro pc lv st h cnt hp; exact hp.elim
  | succ n ih =>
    intro pc lv st h cnt hp hc
    obtain ⟨e0, hm, hp⟩ := hp
    have hR2 : 10 ≤ R.frames ∧ 200 ≤ R.locals ∧ c0 + cnt ≤ R.cells ∧ s0 + 6 * cnt ≤ R.slots := ⟨by omega, by omega, by omega, by omega⟩
    rcases hp with ⟨pc', lv', st', h', hs, hk1⟩ | ⟨o, hr1, hQ⟩ | ⟨E, ht, hc1, hz, hQ⟩ | ⟨mm, hk1⟩ | ⟨k', as, r, o1, h1, hpc, hrc, hz, hb, hcal, hout⟩
    · refine step_ok C w0.1 hw hR2 hL HS (fun i j h9 hi hj => ?_) hm hs (ih _ _ _ _ _ hk1 hc)
      have g := w0.2.2.2.2.2.1 (1000 * clsOf k + i) j hi hj
      rw [show (1000 * clsOf k + i) / 1000 = clsOf k by omega, show (1000 * clsOf k + i) % 1000 = i by omega] at g
      exact g
    · exact E1 pc e0 lv st h cnt o hm hr1 hQ hc
    · exact E2 pc e0 lv st h cnt E hm ht hQ hc1 hz
    · intro H locs ls hP hS hq hl
      exact ih _ _ _ _ _ hk1 hc H locs ls hP hS hq (hl.sub (fun i v g => lmask_sub g))
    · intro H locs ls hP hS hq hl
      obtain ⟨hnx, hrun⟩ := call_run (cells := c0 + cnt) (slots := s0 + 6 * cnt) hw hL IH C w0 hm hpc hrc hz hcal ⟨hR.1, hR.2.1, by omega, by omega⟩ hP hS hq hl.1
      refine run_W hrun hS (fun v H1 locs1 ho hP1 hq1 hS1 => ?_) (fun j ce q H1 locs1 ho hj hP1 hq1 hS1 hce hcv hcl => ?_)
      · rcases hout with ⟨v2, e2, hk2⟩ | ⟨E, e2, -⟩
        · cases ho.symm.trans e2
          have g := ih _ _ _ _ _ hk2 hb H1 locs1 ls hP1 hS1 hq1 hl
          rw [hnx] at g
          have e9 : (v.map (img z.2.2.1)).toList ++ r.map (img z.2.2.1) = (v.toList ++ r).map (img z.2.2.1) := by cases v <;> rfl
          rw [e9, show c0 + cnt + mcOf k' = c0 + (cnt + mcOf k') by omega, show s0 + 6 * cnt + 6 * mcOf k' = s0 + 6 * (cnt + mcOf k') by omega]
          exact g
        · cases ho.symm.trans e2
      · rcases hout with ⟨v2, e2, -⟩ | ⟨E, e2, hx9⟩
        · cases ho.symm.trans e2
        · cases ho.symm.trans e2
          rw [show c0 + cnt + mcOf k' = c0 + (cnt + mcOf k') by omega, show s0 + 6 * cnt + 6 * mcOf k' = s0 + 6 * (cnt + mcOf k') by omega]
          rcases hx9 with ⟨⟨h99, -⟩, hQ⟩ | ⟨t, ht, hk2⟩
          · exact E3 pc ls _ h1 (cnt + mcOf k') H1 locs1 j ce q (hd_none hk h99) hQ hb hj hP1 hq1 hS1 hce hcv hcl
          · obtain ⟨hx, hb9, hml, hown, hts⟩ := C
            obtain ⟨pre, s1, e1, hp, ct, suf, c1, c2, c3, c4, c5, c6, c7, c8⟩ := hdl_at (hd_some hk ht) (show hdl (hdLOf k) pc j = some t from ht) hj
            have hcat : vx_W p l e R s m args below meth c H1 locs1 (c0 + (cnt + mcOf k')) (s0 + 6 * (cnt + mcOf k')) Q (F0 m pc ls (r.map (img z.2.2.1))) q := by
              refine vx_catch (name := exN j) hown (tableOf pre) ⟨s1, e1, hp, ct⟩ (tableOf suf) (by rw [htab, c1]; simp [tableOf]) (fun y hy => ?_) (by simp [covers, c2, c3]) c4 (hts _ (gtbl_in c5 rfl)) (va_Nw.use rfl (w0.2.2.2.1 _ (castE j hj) rfl)) hce hcv hcl ?_
              · obtain ⟨y0, hy0, rfl⟩ := List.mem_map.mp hy
                by_cases hcov : y0.1 ≤ pc ∧ pc < y0.2.1
                · obtain ⟨d1, j2, d2, d3, d4⟩ := c8 y0 hy0 hcov
                  exact Or.inr ⟨d1, exN j2, hts _ (gtbl_in d4 rfl), w0.2.2.2.2.1 j j2 hj d2 (fun q => d3 q.symm)⟩
                · refine Or.inl ?_
                  simp only [covers, Bool.and_eq_false_iff, decide_eq_false_iff_not]
                  by_cases q1 : y0.1 ≤ pc
                  · exact Or.inr (fun q2 => hcov ⟨q1, q2⟩)
                  · exact Or.inl q1
              · have g := ih _ _ _ _ _ hk2 hb H1 locs1
                rcases c7 with ⟨d1, n9, d2, d3⟩ | ⟨d1, d2⟩
                · refine lv_astore_n hx hb9 d3 d2 hl.has c6 rfl (fun ls9 h9 => ?_)
                  have g2 := g ls9 hP1 hS1 hq1 ⟨h9.1, h9.2.1, fun i v hi => by cases hi⟩
                  rw [d1] at g2
                  exact g2
                · refine lv_astore hx hb9 d2 hl.has c6 rfl (fun ls9 h9 => ?_)
                  have g2 := g ls9 hP1 hS1 hq1 ⟨h9.1, h9.2.1, fun i v hi => by cases hi⟩
                  rw [d1] at g2
                  exact g2
            exact hcat
end SND
theorem clsOf_lt {k : Nat} (hk : k < 119) : clsOf k < 10 := by
  have h : ∀ k, k < 119 → clsOf k < 10 := by decide +kernel
  exact h k hk
theorem lg_len (ad : Nat → Nat) : ∀ (as : List Value), (lg_sl (as.map (img ad))).length = catz as
  | [] => rfl
  | v :: t => by
    have ih := lg_len ad t
    unfold lg_sl at ih ⊢
    rw [List.map_cons, List.flatMap_cons, List.length_append, ih, img_cat]
    cases v <;> rfl
section SND2
variable {p : Program} {l : Launch} {e : Env} {R : Room} {s : State} {m : MethodId} {args : Array Value} {below : List Frame} {meth : Method} {c : Code}
variable {z : PP} {k L : Nat} {xs : Nat → Int32}
/-- a method's return -/
theorem end_ret {d : Nat} (C : CX k p s m args c) (hr : meth.sig.returnType = retOf k) (hlocks : meth.locks = false) (hk : k < 119) {O : PO} {H9 : PH} (pc : Nat) (e0 : PE) (lv : PL) (st : List Value) (h : PH) (cnt : Nat) (o : Option Value)
    (hm : (miOf k).1 pc = some e0) (hp : pret (miOf k).2.1 e0 st = some o) (hQ : Sum.inl o = O ∧ h = H9) (hc : cnt ≤ mcOf k) :
    StepGoal p l e R s m args below meth c cnt (6 * cnt) (vx_MQ below (QK z L xs O H9) (XK z L xs O H9) args s (mcOf k) (6 * mcOf k) (A0 z)) z k L xs pc lv st h := by
  obtain ⟨rfl, rfl⟩ := hQ
  obtain ⟨hx, hb, hml, hown, hts⟩ := C
  intro H locs ls hP hS hq hl
  obtain ⟨i, nx, a, b, t, v, w⟩ := e0
  have hrt := (mth_at hk).2.2.2.2.2.1
  have hk9 := chkE_at hm
  refine vx_ret (W.widen (k := mcOf k) (n := 6 * mcOf k) hc (by omega) ?_)
  rcases pret_spec hp with ⟨hi, x, rfl, hx9⟩ | ⟨hi, x, rfl, h3, rfl⟩ | ⟨hi, rfl, h0, rfl⟩
  · obtain rfl : i = .ireturn := hi
    obtain ⟨hd, -, -⟩ := chk3 (A := decode (ccOf k) pc = .ok (.ireturn, ilen .ireturn)) (n := nx) (m := pc + ilen .ireturn) (B := Nat.blt (pidx .ireturn) 1000 && chkI k pc .ireturn a b t v w) hk9
    rcases hx9 with ⟨h1, rfl⟩ | ⟨h2, hx01, rfl⟩
    · have hr1 : retOf k = some .int := rtN_1 (hrt.trans h1)
      exact W.iret hx hb (hr.trans hr1) (fun t ht hW => ⟨⟨some (.int x), rfl, rfl⟩, ⟨by rw [ht]; exact hP, hq⟩, hS.F ht⟩) hS.2.2 hd hlocks
    · have hr1 : retOf k = some .boolean := rtN_2 (hrt.trans h2)
      refine W.zret (ty := .boolean) hx hb (hr.trans hr1) ?_ (fun t ht hW => ⟨⟨some (.int x), rfl, rfl⟩, ⟨by rw [ht]; exact hP, hq⟩, hS.F ht⟩) hS.2.2 hd hlocks
      rcases hx01 with rfl | rfl <;> rfl
  · obtain rfl : i = .lreturn := hi
    obtain ⟨hd, -, -⟩ := chk3 (A := decode (ccOf k) pc = .ok (.lreturn, ilen .lreturn)) (n := nx) (m := pc + ilen .lreturn) (B := Nat.blt (pidx .lreturn) 1000 && chkI k pc .lreturn a b t v w) hk9
    have hr1 : retOf k = some .long := rtN_3 (hrt.trans h3)
    exact W.lret hx hb (hr.trans hr1) (fun t ht hW => ⟨⟨some (.long x), rfl, rfl⟩, ⟨by rw [ht]; exact hP, hq⟩, hS.F ht⟩) hS.2.2 hd hlocks
  · obtain rfl : i = .return_ := hi
    obtain ⟨hd, -, -⟩ := chk3 (A := decode (ccOf k) pc = .ok (.return_, ilen .return_)) (n := nx) (m := pc + ilen .return_) (B := Nat.blt (pidx .return_) 1000 && chkI k pc .return_ a b t v w) hk9
    have hr1 : retOf k = none := rtN_0 (hrt.trans h0)
    exact W.vret hx hb (hr.trans hr1) (fun t ht hW => ⟨⟨none, rfl, rfl⟩, ⟨by rw [ht]; exact hP, hq⟩, hS.F ht⟩) hS.2.2 hd hlocks
/-- a method's own throw -/
theorem end_thr {d : Nat} (hst : l.stackTraces = false) (C : CX k p s m args c) (w0 : WT z L xs s) (hlocks : meth.locks = false) (htab : c.exceptionTable.toList = tableOf (hhOf k)) (hR : 21 + d ≤ R.frames ∧ 328 + 60 * d ≤ R.locals ∧ mcOf k ≤ R.cells ∧ 6 * mcOf k ≤ R.slots) {O : PO} {H9 : PH} (pc : Nat) (e0 : PE) (lv : PL) (st : List Value) (h : PH) (cnt E : Nat)
    (hm : (miOf k).1 pc = some e0) (hp : pthrow e0 = some E) (hQ : Sum.inr E = O ∧ h = H9) (hc : cnt + 1 ≤ mcOf k) (hz : catz st ≤ 8) :
    StepGoal p l e R s m args below meth c cnt (6 * cnt) (vx_MQ below (QK z L xs O H9) (XK z L xs O H9) args s (mcOf k) (6 * mcOf k) (A0 z)) z k L xs pc lv st h := by
  obtain ⟨rfl, rfl⟩ := hQ
  obtain ⟨hx, hb, hml, hown, hts⟩ := C
  intro H locs ls hP hS hq hl
  obtain ⟨i, nx, a, b, t, v, w⟩ := e0
  have hk9 := chkE_at hm
  cases i with
  | new ik =>
    obtain rfl : a = E := Option.some.inj hp
    obtain ⟨hd, -, hi0⟩ := chk3 (A := decode (ccOf k) pc = .ok (.new ik, ilen (.new ik))) (n := nx) (m := pc + ilen (.new ik)) (B := Nat.blt (pidx (.new ik)) 1000 && chkI k pc (.new ik) a b t v w) hk9
    obtain ⟨-, hi⟩ := and2 hi0
    have hb1 : b < 1000 := chkT_at hm
    unfold chkI at hi
    rw [Bool.and_eq_true] at hi
    obtain ⟨hh0, hi⟩ := hi
    have hh : hhOf k = [] := by
      cases hh9 : hhOf k with
      | nil => rfl
      | cons x y => rw [hh9] at hh0; cases hh0
    split at hi
    · rename_i ik2 ic E2 tx heq
      simp only [Bool.and_eq_true, decide_eq_true_eq] at hi
      obtain ⟨⟨⟨e1, e2⟩, e3⟩, e4⟩ := hi
      obtain rfl : ik = ik2 := Nat.eq_of_beq_eq_true e1
      obtain rfl : E2 = a := Nat.eq_of_beq_eq_true e2
      obtain ⟨g1, g2, g3⟩ := thr_at heq
      have hcl := clsOf_lt (mi_at hm).1
      have o7 : clsOf k = 7 := by omega
      have hown7 : s.vm.findClass RX7 = some m.cls := by
        have h9 : ownN (clsOf k) = RX7 := by rw [o7]; rfl
        rw [← h9]; exact hown
      have gen : ∀ ws : List Cond, ws.all (fun w => decide (w ∈ lw_tbl) && (goodWord w || isDC w) && vx_ot w) = true → ∀ w ∈ ws, w.before args s = true ∧ vx_ot w = true := fun ws g3 w hw => by
        have h1 := List.all_eq_true.mp g3 w hw
        simp only [Bool.and_eq_true, Bool.or_eq_true, decide_eq_true_eq] at h1
        obtain ⟨⟨h2, h3⟩, h4⟩ := h1
        refine ⟨?_, h4⟩
        rcases h3 with h3 | h3
        · exact hts _ (gtbl_in h2 h3)
        · refine va_Nw.use ?_ (w0.2.2.2.1 w h2 h3)
          cases w <;> first | rfl | cases h3
      obtain ⟨sa, hsa⟩ := w0.2.2.2.2.2.2.1 _ _ _ _ _ heq
      rw [show (1000 * clsOf k + b + 10000 * E2) % 10000 / 1000 = 7 from g1, show (1000 * clsOf k + b + 10000 * E2) % 1000 = b by omega] at hsa
      have hout : ∀ n9, ∀ x ∈ c.exceptionTable.toList, covers x n9 = false := fun n9 x hx => by
        rw [htab, hh] at hx
        cases hx
      have hXK : ∀ t : State, s.vm.Alike t.vm → H.size ≤ t.heap.size → (∀ q : Nat, q < H.size → t.heap[q]? = H[q]?) → XK z L xs (.inr E2) h (exN E2) s t := fun t _ hz1 hz2 =>
        ⟨⟨E2, rfl, rfl, g2⟩, ⟨hP.kept (fun k9 x hx => hz2 x.1 ((hP k9 x hx).lt)), hq⟩, Nat.le_trans hS.1 hz1, fun q h1 h2 => (hz2 q (Nat.lt_of_lt_of_le h1 hS.1)).trans (hS.2.1 q h1 h2)⟩
      have hsz : ls.size = c.maxLocals := by rw [hml]; exact hl.1
      have hcz := catz_eq st z.2.2.1
      rcases g3 with g3 | ⟨rfl, rfl, rfl⟩
      rotate_left
      · have hns := gen _ thrNS_ok
        split at e4
        · simp only [Bool.and_eq_true, decide_eq_true_eq] at e4
          exact ns_throw hx hb hst hown7 (hns _ List.mem_cons_self).1 (hns _ (List.mem_cons_of_mem _ List.mem_cons_self)).1 hsa (fun w hw => (hns w (List.mem_cons_of_mem _ (List.mem_cons_of_mem _ hw))).1) (fun w hw => (hns w hw).2) w0.2.1 w0.2.2.1 hS hsz hd e3 e4.1.1 e4.1.2 e4.2 (hout _) (by show 2 + 3 < _; omega) (by show _ + (13 * 3 + 43) ≤ _; omega) (by omega) (by omega) hlocks hXK hS.2.2 hc (by omega)
        · simp only [Bool.and_eq_true, decide_eq_true_eq] at e4
          exact ns_throwW hx hb hst hown7 (hns _ List.mem_cons_self).1 (hns _ (List.mem_cons_of_mem _ List.mem_cons_self)).1 hsa (fun w hw => (hns w (List.mem_cons_of_mem _ (List.mem_cons_of_mem _ hw))).1) (fun w hw => (hns w hw).2) w0.2.1 w0.2.2.1 hS hsz hd e3 e4.1.1 e4.1.2 e4.2 (hout _) (by show 2 + 3 < _; omega) (by show _ + (13 * 3 + 43) ≤ _; omega) (by omega) (by omega) hlocks hXK hS.2.2 hc (by omega)
        · cases e4
      unfold thrOK at g3
      rw [Bool.and_eq_true] at g3
      obtain ⟨g3, g4⟩ := g3
      have hall : ∀ w ∈ thrL ik ic E2, w.before args s = true ∧ vx_ot w = true := gen _ g3
      have hat : ∀ w ∈ vx_atS RX7 ic (exN E2) ["java/lang/RuntimeException", "java/lang/Exception"], w.before args s = true := fun w hw => (hall w (List.mem_cons_of_mem _ (List.mem_cons_of_mem _ hw))).1
      have hgd : ∀ w ∈ Cond.classLink RX7 ik (exN E2) :: Cond.initialized (exN E2) :: vx_atS RX7 ic (exN E2) ["java/lang/RuntimeException", "java/lang/Exception"], vx_ot w = true := fun w hw => (hall w hw).2
      have hfit : ∀ n ∈ ["java/lang/RuntimeException", "java/lang/Exception"], Bundle.fit n = true := by decide +kernel
      split at e4
      · simp only [Bool.and_eq_true, decide_eq_true_eq] at e4
        exact vx_throwS (names := ["java/lang/RuntimeException", "java/lang/Exception"]) hx hb hst hown7 g4 hfit (hall _ List.mem_cons_self).1 (hall _ (List.mem_cons_of_mem _ List.mem_cons_self)).1 hsa hat hgd w0.2.1 w0.2.2.1 hS hsz hd e3 e4.1.1 e4.1.2 e4.2 (hout _) (by show 2 + 3 < _; omega) (by show _ + (13 * 3 + 43) ≤ _; omega) (by omega) (by omega) hlocks hXK hS.2.2 hc (by omega)
      · simp only [Bool.and_eq_true, decide_eq_true_eq] at e4
        exact vx_throwSW (names := ["java/lang/RuntimeException", "java/lang/Exception"]) hx hb hst hown7 g4 hfit (hall _ List.mem_cons_self).1 (hall _ (List.mem_cons_of_mem _ List.mem_cons_self)).1 hsa hat hgd w0.2.1 w0.2.2.1 hS hsz hd e3 e4.1.1 e4.1.2 e4.2 (hout _) (by show 2 + 3 < _; omega) (by show _ + (13 * 3 + 43) ≤ _; omega) (by omega) (by omega) hlocks hXK hS.2.2 hc (by omega)
      · cases e4
    · cases hi
  | _ => cases hp
end SND2
section SND3
variable {l : Launch} {z : PP} {L : Nat} {xs : Nat → Int32}
set_option maxHeartbeats 4000000 in
/-- EVERY METHOD: what the pure machine comes to, the machine comes to (HStr: the two small methods of String; closed elsewhere) -/
theorem sound_open (hst : l.stackTraces = false) (hw : WF z) (hL : L ≤ 3072)
    (HStr : ∀ (p : Program) (e : Env) (R : Room) (s : State) (m : MethodId) (args : Array Value) (below : List Frame) (meth : Method) (c : Code) (k : Nat), CX k p s m args c → WT z L xs s → 10 ≤ R.frames → 200 ≤ R.locals → StrRule p l e R s m args below meth c z k) :
    ∀ (d : Nat) (k : Nat) (as : List Value) (h : PH) (o : PO) (h' : PH), Ex d k as h o h' → k < 119 → Con l z L xs d k as h o h' := by
  intro d
  induction d with
  | zero => intro k as h o h' hex; exact hex.elim
  | succ d IH =>
    intro k as h o h' hex hk
    obtain ⟨hcat, n, hpw⟩ := hex
    have hcat := Nat.le_of_ble_eq_true hcat
    have hm9 := mth_at hk
    have body : ∀ (p : Program) (e : Env) (s : State) (m : MethodId) (args : Array Value) (below : List Frame) (meth : Method) (c : Code) (s₁ : State), BodyLoose p l (yOf k) (headSpec (codW k :: gtbl) (RMk (d + 1) k)) (ccOf k) (miOf k).2.2.2.2 (retOf k) e s m args below meth c s₁ → c.maxLocals = (miOf k).2.2.2.2 → c.exceptionTable.toList = tableOf (hhOf k) → PK z L xs as h args s →
        W p l e (headSpec (codW k :: gtbl) (RMk (d + 1) k)).room s m args below meth c s.heap [] 0 0 (vx_MQ below (QK z L xs o h') (XK z L xs o h') args s (mcOf k) (6 * mcOf k) (A0 z)) (entryFrame m args (miOf k).2.2.2.2) := by
      intro p e s m args below meth c s₁ B hml htab hp
      obtain ⟨rfl, w0, hP, hq⟩ := hp
      have hts0 := atoms_spec (ws := codW k :: gtbl) B.pre
      have hown : s.vm.findClass (ownN (clsOf k)) = some m.cls := by rw [← hm9.2.2.1]; exact findClass_of_methodNamed B.named
      have C : CX k p s m (as.map (img z.2.2.1)).toArray c := ⟨B.exec, B.bytes, hml, hown, fun w hw => hts0 w (List.mem_cons_of_mem _ hw)⟩
      have hR : 21 + d ≤ (RMk (d + 1) k).frames ∧ 328 + 60 * d ≤ (RMk (d + 1) k).locals ∧ 0 + (miOf k).2.2.1 ≤ (RMk (d + 1) k).cells ∧ 0 + 6 * (miOf k).2.2.1 ≤ (RMk (d + 1) k).slots := by
        refine ⟨?_, ?_, ?_, ?_⟩
        · show 21 + d ≤ 20 + (d + 1); omega
        · show 328 + 60 * d ≤ 300 + 60 * (d + 1); omega
        · show 0 + mcOf k ≤ mcOf k; omega
        · show 0 + 6 * mcOf k ≤ 6 * mcOf k; omega
      have HS := HStr p e (RMk (d + 1) k) s m (as.map (img z.2.2.1)).toArray below meth c k C w0 (by show 10 ≤ 20 + (d + 1); omega) (by show 200 ≤ 300 + 60 * (d + 1); omega)
      have wk := walk (Qf := fun o1 h1 => o1 = o ∧ h1 = h') (Q := vx_MQ below (QK z L xs o h') (XK z L xs o h') (as.map (img z.2.2.1)).toArray s (mcOf k) (6 * mcOf k) (A0 z)) (R := RMk (d + 1) k) (meth := meth) (below := below) (e := e) (c0 := 0) (s0 := 0) hw hL IH C w0 HS (by omega) htab hR
        (fun pc e0 lv st h cnt o2 hm hp hQ hc => by rw [Nat.zero_add, Nat.zero_add]; exact end_ret (d := d) C B.returns B.notSynchronized hk pc e0 lv st h cnt o2 hm hp hQ hc)
        (fun pc e0 lv st h cnt E hm hp hQ hc hz => by rw [Nat.zero_add, Nat.zero_add]; exact end_thr (d := d) hst C w0 B.notSynchronized htab ⟨hR.1, hR.2.1, by have := hR.2.2.1; show mcOf k ≤ _; exact Nat.le_refl _, by show 6 * mcOf k ≤ _; exact Nat.le_refl _⟩ pc e0 lv st h cnt E hm hp hQ hc hz)
        (fun pc ls rest h2 cnt H locs E ce q hh hQ hc hE hP hq hS hce hcv hcl => by
          obtain ⟨rfl, rfl⟩ := hQ
          rw [Nat.zero_add, Nat.zero_add]
          refine vx_out (fun x hx => ?_) B.notSynchronized hce hcv hcl (fun t ht hal => ⟨⟨E, rfl, rfl, hE⟩, ⟨by rw [ht]; exact hP, hq⟩, hS.F ht⟩) hS.2.2 hc (by have : cnt ≤ mcOf k := hc; omega)
          rw [htab, hh] at hx
          cases hx)
        n 0 _ _ h 0 hpw (Nat.zero_le _)
      have hle : (lg_sl (as.map (img z.2.2.1))).length ≤ (miOf k).2.2.2.2 := by rw [lg_len]; exact hcat
      have hl := lv_entry (as.map (img z.2.2.1)) (n := (miOf k).2.2.2.2) hle
      rw [lg_entry_eq]
      exact wk s.heap [] _ hP va_S.rf hq ⟨hl.1, hl.2.1, fun i v g => by
        have := lvA_spec (ad := z.2.2.1) (k := 0) g
        rw [Nat.zero_add] at this
        exact hl.2.2 _ this⟩
    unfold Con
    cases hh : hhOf k with
    | nil =>
      have hcod : codW k = .code (yOf k) (ccOf k) (miOf k).2.2.2.2 (retOf k) := by unfold codW; rw [hh]
      refine vx_ofW (cc := ccOf k) (maxL := (miOf k).2.2.2.2) (ret := retOf k) hm9.2.2.2.1 (by rw [hcod]) (fun p e s m args below meth c s₁ B hml ht hp => body p e s m args below meth c s₁ B hml ?_ hp)
      rw [hh]
      cases ht2 : c.exceptionTable.toList with
      | nil => rfl
      | cons x y => exact (ht x (by rw [ht2]; exact List.mem_cons_self)).elim
    | cons q9 t9 =>
      have hcod : codW k = .codeWith (yOf k) (ccOf k) (miOf k).2.2.2.2 (retOf k) (hhOf k) := by unfold codW; rw [hh]
      refine vx_ofWH (cc := ccOf k) (maxL := (miOf k).2.2.2.2) (ret := retOf k) (hh := hhOf k) hm9.2.2.2.1 (by rw [hcod]) (fun p e s m args below meth c s₁ B hml hp => body p e s m args below meth c s₁ B hml ?_ hp)
      refine vx_table B (x := yOf k) (y := yOf k) (bytes := ccOf k) (maxL' := (miOf k).2.2.2.2) (ret' := retOf k) ?_
      rw [← hcod]
      exact atoms_spec (ws := codW k :: gtbl) B.pre _ List.mem_cons_self
end SND3
