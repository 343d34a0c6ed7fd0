/-! THE WALK: any number of steps and calls -/
def hdOK (k : Nat) : List (Nat × Nat × Nat × Nat × Nat) → List (Nat × Nat × Nat × Nat) → Bool
  | [], [] => true
  | (s0, e0, E0, nx, sl) :: t, (s1, e1, hp, ct) :: t' => Nat.beq s0 s1 && Nat.beq e0 e1 && Nat.blt E0 4 && Nat.blt 0 ct && decide (Cond.classLink (ownN (clsOf k)) ct (exN E0) ∈ lw_tbl) && Nat.blt sl (miOf k).2.2.2.2 &&
    ((Nat.blt sl 4 && Nat.beq nx (hp + 1) && (match decode (ccOf k) hp with
      | .ok (.astore_n n, 1) => Nat.beq n.val sl
      | _ => false)) || (Nat.beq nx (hp + 2) && (match decode (ccOf k) hp with
      | .ok (.astore n, 2) => Nat.beq n sl
      | _ => false))) && hdOK k t t'
  | _, _ => false
def chkH (k : Nat) : Bool := match hhOf k with
  | [] => (match hdLOf k with
    | [] => true
    | _ => false)
  | hh => hdOK k (hdLOf k) hh && decide (hdLOf k ≠ [])
theorem chkH_all : (List.range 119).all chkH = true := by decide +kernel
theorem castE : ∀ i, i < 4 → Cond.castable (exN i) (exN i) ∈ lw_tbl := by
  have key : ∀ i, i < 4 → decide (Cond.castable (exN i) (exN i) ∈ lw_tbl) = true := by decide +kernel
  exact fun i hi => of_decide_eq_true (key i hi)
theorem hh_virt {k : Nat} (hk : k < 119) (hc : clsOf k < 9) : hhOf k = [] := by
  have key : ∀ k, k < 119 → (!(Nat.blt (clsOf k) 9) || (hhOf k).isEmpty) = true := by decide +kernel
  have h1 := key k hk
  rw [show Nat.blt (clsOf k) 9 = true from Nat.ble_eq_true_of_le hc] at h1
  exact List.isEmpty_iff.mp h1
def chkSt (q : Nat) : Bool := match mres q with
  | some (k', 1) => Nat.beq (clsOf k') (q / 1000)
  | _ => true
theorem chkSt_all : (List.range 10000).all chkSt = true := by decide +kernel
theorem stat_own {q k : Nat} (h : mres q = some (k, 1)) : clsOf k = q / 1000 := by
  have hq : q < 10000 := by
    unfold mres at h
    exact bif_lt h (fun e => by cases e)
  have h1 := List.all_eq_true.mp chkSt_all q (List.mem_range.mpr hq)
  unfold chkSt at h1
  rw [h] at h1
  exact Nat.eq_of_beq_eq_true h1
section WLK2
variable {p : Program} {l : Launch} {e : Env} {R : Room} {s : State} {m : MethodId} {args : Array Value} {below : List Frame} {meth : Method} {c : Code} {Q : State → Prop}
variable {z : PP} {k L : Nat} {xs : Nat → Int32}
theorem hdl_99 {t : List (Nat × Nat × Nat × Nat × Nat)} {pc : Nat} (h : hdl t pc 99 = none) : t = [] := by
  cases t with
  | nil => rfl
  | cons q t =>
    obtain ⟨s0, e0, E0, nx, sl⟩ := q
    cases h
/-- the row of the table that takes it -/
theorem hdl_at : ∀ {t : List (Nat × Nat × Nat × Nat × Nat)} {t' : List (Nat × Nat × Nat × Nat)} {pc E : Nat} {q : Nat × Nat}, hdOK k t t' = true → hdl t pc E = some q → E < 4 →
    ∃ (pre : List (Nat × Nat × Nat × Nat)) (s1 e1 hp ct : Nat) (suf : List (Nat × Nat × Nat × Nat)), t' = pre ++ (s1, e1, hp, ct) :: suf ∧ s1 ≤ pc ∧ pc < e1 ∧ ct ≠ 0 ∧ Cond.classLink (ownN (clsOf k)) ct (exN E) ∈ lw_tbl ∧ q.2 < (miOf k).2.2.2.2 ∧
      ((q.1 = hp + 1 ∧ ∃ n : Fin 4, (n : Nat) = q.2 ∧ decode (ccOf k) hp = .ok (.astore_n n, 1)) ∨ (q.1 = hp + 2 ∧ decode (ccOf k) hp = .ok (.astore q.2, 2))) ∧
      ∀ y ∈ pre, (y.1 ≤ pc ∧ pc < y.2.1 → y.2.2.2 ≠ 0 ∧ ∃ j, j < 4 ∧ j ≠ E ∧ Cond.classLink (ownN (clsOf k)) y.2.2.2 (exN j) ∈ lw_tbl)
  | [], t', pc, E, q, h, h1, hE => by cases h1
  | (s0, e0, E0, nx, sl) :: t, [], pc, E, q, h, h1, hE => by cases h
  | (s0, e0, E0, nx, sl) :: t, (s1, e1, hp, ct) :: t', pc, E, q, h, h1, hE => by
    unfold hdOK at h
    simp only [Bool.and_eq_true, decide_eq_true_eq] at h
    obtain ⟨⟨⟨⟨⟨⟨⟨a1, a2⟩, a3⟩, a4⟩, a5⟩, a6⟩, a7⟩, a8⟩ := h
    obtain rfl : s0 = s1 := Nat.eq_of_beq_eq_true a1
    obtain rfl : e0 = e1 := Nat.eq_of_beq_eq_true a2
    have h99 : Nat.beq E 99 = false := by
      cases hb : Nat.beq E 99 with
      | false => rfl
      | true => have := Nat.eq_of_beq_eq_true hb; omega
    have h1' : (bif Nat.beq E 99 then some (0, 0) else bif Nat.beq E E0 && (Nat.ble s0 pc && Nat.blt pc e0) then some (nx, sl) else hdl t pc E) = some q := h1
    rw [h99] at h1'
    cases hb : (Nat.beq E E0 && (Nat.ble s0 pc && Nat.blt pc e0)) with
    | true =>
      rw [hb] at h1'
      simp only [Bool.and_eq_true] at hb
      obtain ⟨b1, b2, b3⟩ := hb
      obtain rfl : E = E0 := Nat.eq_of_beq_eq_true b1
      cases h1'
      refine ⟨[], s0, e0, hp, ct, t', rfl, Nat.le_of_ble_eq_true b2, blt_of b3, by have := blt_of a4; omega, a5, blt_of a6, ?_, fun y hy => by cases hy⟩
      rw [Bool.or_eq_true] at a7
      rcases a7 with q | q
      · simp only [Bool.and_eq_true] at q
        obtain ⟨⟨q1, q2⟩, q3⟩ := q
        split at q3
        · rename_i n hd
          exact Or.inl ⟨Nat.eq_of_beq_eq_true q2, n, Nat.eq_of_beq_eq_true q3, hd⟩
        · cases q3
      · simp only [Bool.and_eq_true] at q
        obtain ⟨q2, q3⟩ := q
        split at q3
        · rename_i n hd
          obtain rfl : n = sl := Nat.eq_of_beq_eq_true q3
          exact Or.inr ⟨Nat.eq_of_beq_eq_true q2, hd⟩
        · cases q3
    | false =>
      rw [hb] at h1'
      obtain ⟨pre, s2, e2, hp2, ct2, suf, c1, c2, c3, c4, c5, c6, c7, c8⟩ := hdl_at (t := t) (t' := t') a8 h1' hE
      refine ⟨(s0, e0, hp, ct) :: pre, s2, e2, hp2, ct2, suf, by rw [c1]; rfl, c2, c3, c4, c5, c6, c7, fun y hy => ?_⟩
      rcases List.mem_cons.mp hy with rfl | hy
      · intro ⟨d1, d2⟩
        refine ⟨by have := blt_of a4; show ct ≠ 0; omega, E0, blt_of a3, fun q => ?_, a5⟩
        subst q
        have d1 : s0 ≤ pc := d1
        have d2 : pc < e0 := d2
        have : (Nat.beq E0 E0 && (Nat.ble s0 pc && Nat.blt pc e0)) = true := by
          rw [Nat.beq_refl, Nat.ble_eq_true_of_le d1, show Nat.blt pc e0 = true from Nat.ble_eq_true_of_le d2]
          rfl
        rw [this] at hb
        cases hb
      · exact c8 y hy
end WLK2
section WLK3
variable {p : Program} {l : Launch} {e : Env} {R : Room} {s : State} {m : MethodId} {args : Array Value} {below : List Frame} {meth : Method} {c : Code} {Q : State → Prop}
variable {z : PP} {k L : Nat} {xs : Nat → Int32}
set_option maxHeartbeats 4000000 in
/-- a call, whatever its kind: what the machine does -/
theorem call_run {d : Nat} (hw : WF z) (hL : L ≤ 3072) (IH : ∀ (k : Nat) (as : List Value) (h : PH) (o : PO) (h' : PH), Ex d k as h o h' → k < 119 → Con l z L xs d k as h o h')
    (C : CX k p s m args c) (w0 : WT z L xs s) {pc : Nat} {e0 : PE} {st as r : List Value} {h h1 : PH} {k' : Nat} {o : PO} {cells slots : Nat} (hm : (miOf k).1 pc = some e0) (hpc : pcall e0 st = some (k', as, r)) (hrc : recvB as e0.2.2.2.2.1 = true) (hz : catz r ≤ 8) (hcal : Ex d k' as h o h1)
    (hR : 21 + d ≤ R.frames ∧ 328 + 60 * d ≤ R.locals ∧ cells + mcOf k' ≤ R.cells ∧ slots + 6 * mcOf k' ≤ R.slots) {H : Heap} {locs : List Loc} {ls : Array Slot} (hP : va_P z.1 vwCl (wd z h) H) (hS : va_S (A0 z) s.heap H locs) (hq : scr L xs h) (hls : ls.size = (miOf k).2.2.2.2) :
    e0.2.1 = pc + 3 ∧ vx_Run p l e R s m args below meth c H locs cells slots (mcOf k') (6 * mcOf k') (F0 m pc ls (st.map (img z.2.2.1))) (r.map (img z.2.2.1)) (QK z L xs o h1 (as.map (img z.2.2.1)).toArray) (XK z L xs o h1) (A0 z) := by
  obtain ⟨hx, hb, hml, hown, hts⟩ := C
  obtain ⟨i, nx, a, b, t, v, w⟩ := e0
  have S : CallFix p m c (ccOf k) (miOf k).2.2.2.2 s args gtbl (ownN (clsOf k)) := ⟨hx, hb, hml, hown, hts⟩
  have hzz : 2 * (F0 m pc ls (st.map (img z.2.2.1))).monitorRoom + ((r.map (img z.2.2.1)).map fun v => v.category).sum ≤ 8 := by
    show 2 * 0 + _ ≤ 8
    rw [catz_eq]
    omega
  have pre : ∀ U : State, U.heap = H → s.WarmedH U.vm → PK z L xs as h (as.map (img z.2.2.1)).toArray U := fun U hU hW => ⟨rfl, WT.go hw w0 hW (by rw [hU]; exact hS), by rw [hU]; exact hP, hq⟩
  cases i with
  | invokevirtual x0 =>
    have hk9 := chkE_at hm
    obtain ⟨hd, hnx, hi0⟩ := chk3 (A := decode (ccOf k) pc = .ok (.invokevirtual x0, ilen (.invokevirtual x0))) (n := nx) (m := pc + ilen (.invokevirtual x0)) (B := Nat.blt (pidx (.invokevirtual x0)) 1000 && chkI k pc (.invokevirtual x0) a b t v w) hk9
    obtain ⟨hx0, hi⟩ := and2 hi0
    have hx0 : x0 < 1000 := blt_of hx0
    have hp1 : (match (generalizing := false) Nat.blt t 99 with
      | true => match popk b st [] with
        | some (as, r) => some (a, as, r)
        | none => none
      | false => none) = some (k', as, r) := hpc
    cases hbt : Nat.blt t 99 with
    | false => rw [hbt] at hp1; cases hp1
    | true =>
      rw [hbt] at hp1
      have hi2 : (match (generalizing := false) Nat.blt t 99 with
        | true => (match mres (1000 * clsOf k + x0) with
          | some (k', 0) => Nat.beq k' a && Nat.beq b (nargOf a + 1) && Nat.beq t (clsOf a)
          | _ => false)
        | false => Nat.beq (nres (1000 * clsOf k + x0)) t) = true := hi
      rw [hbt] at hi2
      cases hpk : popk b st [] with
      | none => rw [hpk] at hp1; cases hp1
      | some q9 =>
        rw [hpk] at hp1
        obtain ⟨as2, r2⟩ := q9
        cases hp1
        obtain ⟨l9, hst, has, hlen⟩ := popk_spec hpk
        rw [List.append_nil] at has
        dsimp only at hi2
        split at hi2
        · rename_i k2 heq
          rw [Bool.and_eq_true, Bool.and_eq_true] at hi2
          obtain ⟨⟨e1, e2⟩, e3⟩ := hi2
          obtain rfl : k2 = k' := Nat.eq_of_beq_eq_true e1
          have e2 := Nat.eq_of_beq_eq_true e2
          obtain rfl : t = clsOf k2 := Nat.eq_of_beq_eq_true e3
          have hc1 := chkMr_at heq
          unfold chkMr at hc1
          rw [heq] at hc1
          simp only [Bool.and_eq_true] at hc1
          obtain ⟨⟨⟨g1, g2⟩, g3⟩, g4, g5⟩ := hc1
          have hk2 : k2 < 119 := blt_of g3
          obtain ⟨f1, f2, f3, f4, f5, f6, f7, f8, f9, f10⟩ := mth_at hk2
          have q1 : (1000 * clsOf k + x0) / 1000 = clsOf k := by omega
          have q2 : (1000 * clsOf k + x0) % 1000 = x0 := by omega
          simp only [mW, q1, q2] at g1
          -- the receiver
          have hrc2 : recvB as (clsOf k2) = true := hrc
          have hne : Nat.beq (clsOf k2) 99 = false := by
            cases hb9 : Nat.beq (clsOf k2) 99 with
            | false => rfl
            | true =>
              have := Nat.eq_of_beq_eq_true hb9
              rw [this] at hbt
              cases hbt
          unfold recvB at hrc2
          rw [hne] at hrc2
          dsimp only at hrc2
          split at hrc2
          · rename_i b0 as0
            split at hrc2
            · rename_i ci fs heq2
              obtain rfl : ci = clsOf k2 := Nat.eq_of_beq_eq_true hrc2
              have ho := lay_lt heq2 (by decide) (by decide)
              have hE : encE z h b0 = .inr (clsOf k2, flds z.2.2.1 (h.1 b0) fs 0) := by unfold encE; rw [heq2]; rfl
              have hget : (wd z h)[b0]? = some (z.2.2.1 b0, .inr (clsOf k2, flds z.2.2.1 (h.1 b0) fs 0)) := by rw [wd_get ho, hE]
              have hc9 : clsOf k2 < 9 := lay_c heq2
              have hrec := va_recv w0.1.1 hP (clA hc9) hget
              have hcn : (yOf k2).cls = fC (clsOf k2) := by rw [f3, ownN_fC hc9]
              -- no table: a method that is called on an object has none
              have hhh : hhOf k2 = [] := hh_virt hk2 hc9
              have hcod : codW k2 = .code (yOf k2) (ccOf k2) (miOf k2).2.2.2.2 (retOf k2) := by unfold codW; rw [hhh]
              have hG : GoodIn gtbl (wsV (ownN (clsOf k)) x0 (fC (clsOf k2)) (yOf k2) (codW k2 :: gtbl)) := goodIn_g (fun w hw => by
                unfold wsV at hw
                rcases List.mem_append.mp hw with hw | hw
                · simp only [List.mem_cons, List.not_mem_nil, or_false] at hw
                  rcases hw with rfl | rfl | rfl | rfl
                  · exact gtbl_in (atT_in g1) rfl
                  · exact gtbl_in (atT_in g4) rfl
                  · rw [← hcn]; exact gtbl_in (atT_in g5) rfl
                  · rw [← hcn]; exact f2
                · rcases List.mem_cons.mp hw with rfl | hw
                  · exact f1
                  · exact hw)
              have hcw : CallW R s args (ownN (clsOf k)) (fC (clsOf k2)) x0 (yOf k2) (ccOf k2) (miOf k2).2.2.2.2 (retOf k2) (codW k2 :: gtbl) (RMk d k2) (mcOf k2) (6 * mcOf k2) (nargOf k2) :=
                cwV (nargOf k2) hts hG (by rw [hcod]) rfl rfl ⟨hcn, f7, f8, f5⟩ ⟨by show 20 + d + 1 ≤ _; omega, by show 8 + (_ + 11) + (300 + 60 * d) ≤ _; omega⟩
              have hn9 : (as0.map (img z.2.2.1)).length = nargOf k2 := by
                have h1 : (Value.ref b0 :: as0).length = b := by rw [has, List.length_reverse, hlen]
                rw [List.length_map]
                have : as0.length + 1 = b := h1
                omega
              refine ⟨hnx, vx_runV (As := as0.map (img z.2.2.1)) (b := z.2.2.1 b0) S (IH k2 _ h o h1 hcal hk2) hcw ⟨PK.blind hw, hrec, pre⟩ rfl hn9 hls ?_ hzz hd ⟨hR.2.2.1, hR.2.2.2⟩⟩
              show (st.map (img z.2.2.1)) = _
              have hl9 : l9 = (Value.ref b0 :: as0).reverse := by rw [has, List.reverse_reverse]
              rw [hst, hl9, List.map_append, List.map_reverse]
              simp [img]
            · cases hrc2
          · cases hrc2
        · cases hi2
  | invokestatic x0 =>
    have hk9 := chkE_at hm
    obtain ⟨hd, hnx, hi0⟩ := chk3 (A := decode (ccOf k) pc = .ok (.invokestatic x0, ilen (.invokestatic x0))) (n := nx) (m := pc + ilen (.invokestatic x0)) (B := Nat.blt (pidx (.invokestatic x0)) 1000 && chkI k pc (.invokestatic x0) a b t v w) hk9
    obtain ⟨hx0, hi⟩ := and2 hi0
    have hx0 : x0 < 1000 := blt_of hx0
    have hp1 : (match (generalizing := false) t with
      | 99 => match popk b st [] with
        | some (as, r) => some (a, as, r)
        | none => none
      | _ => none) = some (k', as, r) := hpc
    split at hp1
    · have hi2 : (match (generalizing := false) mres (1000 * clsOf k + x0) with
          | some (k', kind) => Nat.beq k' a && Nat.beq b (nargOf a) && Nat.blt 0 kind && (match hhOf a with
            | [] => Nat.blt kind 3
            | _ => Nat.beq kind 3)
          | none => false) = true := hi
      cases hpk : popk b st [] with
      | none => rw [hpk] at hp1; cases hp1
      | some q9 =>
        rw [hpk] at hp1
        obtain ⟨as2, r2⟩ := q9
        cases hp1
        obtain ⟨l9, hst, has, hlen⟩ := popk_spec hpk
        rw [List.append_nil] at has
        split at hi2
        · rename_i k2 kind heq
          simp only [Bool.and_eq_true] at hi2
          obtain ⟨⟨⟨e1, e2⟩, e3⟩, e4⟩ := hi2
          obtain rfl : k2 = k' := Nat.eq_of_beq_eq_true e1
          have e2 := Nat.eq_of_beq_eq_true e2
          have hc1 := chkMr_at heq
          unfold chkMr at hc1
          rw [heq] at hc1
          simp only [Bool.and_eq_true] at hc1
          obtain ⟨⟨⟨g1, g2⟩, g3⟩, g4⟩ := hc1
          have hk2 : k2 < 119 := blt_of g3
          obtain ⟨f1, f2, f3, f4, f5, f6, f7, f8, f9, f10⟩ := mth_at hk2
          have q1 : (1000 * clsOf k + x0) / 1000 = clsOf k := by omega
          have q2 : (1000 * clsOf k + x0) % 1000 = x0 := by omega
          have hn9 : (as.map (img z.2.2.1)).length = nargOf k2 := by
            rw [List.length_map, has, List.length_reverse, hlen, e2]
          have hstk : (F0 m pc ls (st.map (img z.2.2.1))).stack = (as.map (img z.2.2.1)).reverse ++ r.map (img z.2.2.1) := by
            show (st.map (img z.2.2.1)) = _
            have hl9 : l9 = as.reverse := by rw [has, List.reverse_reverse]
            rw [hst, hl9, List.map_append, List.map_reverse]
          have hst9 : Cond.static (yOf k2) ∈ gtbl := by
            match kind, e3, g4 with
            | 0, e3, _ => cases e3
            | n + 1, _, g4 => exact gtbl_in (atT_in g4) rfl
          have hrm : (RMk d k2).frames + 1 ≤ R.frames ∧ 8 + ((miOf k2).2.2.2.2 + 11) + (RMk d k2).locals ≤ R.locals := ⟨by show 20 + d + 1 ≤ _; omega, by show 8 + (_ + 11) + (300 + 60 * d) ≤ _; omega⟩
          have hcg : ∀ w ∈ (codW k2 :: gtbl), w ∈ gtbl := fun w hw => by
            rcases List.mem_cons.mp hw with rfl | hw
            · exact f1
            · exact hw
          cases hh : hhOf k2 with
          | nil =>
            rw [hh] at e4
            have hcod : codW k2 = .code (yOf k2) (ccOf k2) (miOf k2).2.2.2.2 (retOf k2) := by unfold codW; rw [hh]
            have e4 : kind < 3 := blt_of e4
            have e3 : 0 < kind := blt_of e3
            by_cases hk1 : kind = 1
            · subst hk1
              have hown2 : (yOf k2).cls = ownN (clsOf k) := by rw [f3, stat_own heq, q1]
              simp only [mW, q1, q2] at g1
              have hG : GoodIn gtbl (wsS (ownN (clsOf k)) x0 (yOf k2) (codW k2 :: gtbl)) := goodIn_g (fun w hw => by
                unfold wsS at hw
                rcases List.mem_append.mp hw with hw | hw
                · simp only [List.mem_cons, List.not_mem_nil, or_false] at hw
                  rcases hw with rfl | rfl | rfl
                  · exact gtbl_in (atT_in g1) rfl
                  · exact hst9
                  · rw [← hown2]; exact f2
                · exact hcg w hw)
              exact ⟨hnx, vx_runS (As := as.map (img z.2.2.1)) S (IH k2 as h o h1 hcal hk2) (cwS (nargOf k2) hts hG (by rw [hcod]) rfl rfl ⟨hown2, f7, f8, f5⟩ hrm) ⟨PK.blind hw, pre⟩ rfl hn9 hls hstk hzz hd ⟨hR.2.2.1, hR.2.2.2⟩⟩
            · obtain rfl : kind = 2 := by omega
              simp only [mW, q1, q2] at g1
              have hlk := w0.1.2.1 _ (atT_in g1) rfl
              exact ⟨hnx, vx_runSN (As := as.map (img z.2.2.1)) S (IH k2 as h o h1 hcal hk2) ⟨va_cnB (nargOf k2) hts (goodIn_g hcg) (by rw [hcod]) rfl rfl hlk (hts _ f2) ⟨f7, f8, f5⟩ hrm, hts _ hst9, trivial⟩ ⟨PK.blind hw, pre⟩ rfl hn9 hls hstk hzz hd ⟨hR.2.2.1, hR.2.2.2⟩⟩
          | cons hq ht =>
            rw [hh] at e4
            obtain rfl : kind = 3 := Nat.eq_of_beq_eq_true e4
            have hcod : codW k2 = .codeWith (yOf k2) (ccOf k2) (miOf k2).2.2.2.2 (retOf k2) (hhOf k2) := by unfold codW; rw [hh]
            simp only [mW, q1, q2] at g1
            have hG : GoodIn gtbl (va_wsS (ownN (clsOf k)) x0 (yOf k2) (codW k2 :: gtbl)) := goodIn_g (fun w hw => by
              unfold va_wsS at hw
              rcases List.mem_append.mp hw with hw | hw
              · simp only [List.mem_cons, List.not_mem_nil, or_false] at hw
                rcases hw with rfl | rfl | rfl
                · exact gtbl_in (atT_in g1) rfl
                · exact hst9
                · exact f2
              · exact hcg w hw)
            exact ⟨hnx, vx_runSX (hh := hhOf k2) (As := as.map (img z.2.2.1)) S (IH k2 as h o h1 hcal hk2) (vx_cwSW (nargOf k2) hts hG (by rw [hcod]) rfl rfl ⟨f7, f8, f5⟩ hrm) ⟨PK.blind hw, pre⟩ rfl hn9 hls hstk hzz hd ⟨hR.2.2.1, hR.2.2.2⟩⟩
        · cases hi2
    · cases hp1
  | _ => exact nomatch (show (none : Option (Nat × List Value × List Value)) = some _ from hpc)
end WLK3
