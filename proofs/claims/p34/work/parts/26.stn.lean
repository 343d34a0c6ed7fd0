/-! SWITCHES, the JDK's small methods, and every plain step together -/
def natW (t : Nat) (own : String) (x : Nat) : List Cond := match t with
  | 100 => [.methodLink own x Lib.Math.min.name, .static Lib.Math.min.name, .initialized "java/lang/Math", .code Lib.Math.min.name Lib.Math.min.code 2 (some .int)]
  | 101 => [.methodLink own x Lib.MathLoose.max_long.x, .static Lib.MathLoose.max_long.x, .initialized "java/lang/Math", .code Lib.MathLoose.max_long.x Lib.MathLoose.max_long.code 4 (some .long)]
  | 102 => [.methodLink own x Lib.MathLoose.min_long.x, .static Lib.MathLoose.min_long.x, .initialized "java/lang/Math", .code Lib.MathLoose.min_long.x Lib.MathLoose.min_long.code 4 (some .long)]
  | 103 => [.methodLink own x arraycopyName, .static arraycopyName, .initialized "java/lang/System", .native arraycopyName]
  | _ => []
def chkN (q : Nat) : Bool := (natW (nres q) (ownN (q / 1000)) (q % 1000)).all fun w => decide (w ∈ lw_tbl) && goodWord w
theorem chkN_all : (List.range 10000).all chkN = true := by decide +kernel
theorem nat_at {q t x o : Nat} (h : nres q = t) (h0 : t ≠ 0) (h1 : q / 1000 = o) (h2 : q % 1000 = x) : ∀ w ∈ natW t (ownN o) x, w ∈ gtbl := by
  have hq : q < 10000 := by
    unfold nres at h
    exact bif_lt h (fun e => h0 e.symm)
  have h3 := List.all_eq_true.mp chkN_all q (List.mem_range.mpr hq)
  unfold chkN at h3
  rw [h, h1, h2] at h3
  intro w hw
  have h4 := List.all_eq_true.mp h3 w hw
  rw [Bool.and_eq_true, decide_eq_true_eq] at h4
  exact gtbl_in h4.1 h4.2
section STN
variable {p : Program} {l : Launch} {e : Env} {R : Room} {s : State} {m : MethodId} {args : Array Value} {below : List Frame} {meth : Method} {c : Code} {Q : State → Prop} {cells slots : Nat}
variable {z : PP} {k L : Nat} {xs : Nat → Int32} {pc nx a b t : Nat} {v : Int32} {w : Int64} {lv lv' : PL} {st st' : List Value} {h h' : PH} {pc' : Nat}
/-- String.length and charAt of the constants -/
def StrRule (p : Program) (l : Launch) (e : Env) (R : Room) (s : State) (m : MethodId) (args : Array Value) (below : List Frame) (meth : Method) (c : Code) (z : PP) (k : Nat) : Prop :=
  (∀ (H : Heap) (locs : List Loc) (ls : Array Slot) (cells slots : Nat) (Q : State → Prop) (pc x0 j : Nat) (rest : List Value), va_S (A0 z) s.heap H locs → ls.size = c.maxLocals → (rest.map fun v => v.category).sum ≤ 8 → cells ≤ R.cells → slots ≤ R.slots → decode (ccOf k) pc = .ok (.invokevirtual x0, 3) → nres (1000 * clsOf k + x0) = 110 → x0 < 1000 → j < 7 →
    W p l e R s m args below meth c H locs cells slots Q (F0 m (pc + 3) ls (.int (Int32.ofNat (slenF j)) :: rest)) → W p l e R s m args below meth c H locs cells slots Q (F0 m pc ls (.ref (z.2.2.1 (SB + j)) :: rest))) ∧
  (∀ (H : Heap) (locs : List Loc) (ls : Array Slot) (cells slots : Nat) (Q : State → Prop) (pc x0 j : Nat) (i : Int32) (rest : List Value), va_S (A0 z) s.heap H locs → ls.size = c.maxLocals → (rest.map fun v => v.category).sum ≤ 8 → cells ≤ R.cells → slots ≤ R.slots → decode (ccOf k) pc = .ok (.invokevirtual x0, 3) → nres (1000 * clsOf k + x0) = 111 → x0 < 1000 → j < 7 → vp_in i (slenF j) →
    W p l e R s m args below meth c H locs cells slots Q (F0 m (pc + 3) ls (.int (schF j i.toNatClampNeg) :: rest)) → W p l e R s m args below meth c H locs cells slots Q (F0 m pc ls (.int i :: .ref (z.2.2.1 (SB + j)) :: rest)))
theorem st_tableswitch {dd lo hi9 : Int} {offs : Array Int} (C : CX k p s m args c) (hm : (miOf k).1 pc = some (.tableswitch dd lo hi9 offs, nx, a, b, t, v, w)) (hs : pstep layF slenF schF (.tableswitch dd lo hi9 offs, nx, a, b, t, v, w) lv st h = some (pc', lv', st', h'))
    (kk : StepGoal p l e R s m args below meth c cells slots Q z k L xs pc' lv' st' h') : StepGoal p l e R s m args below meth c cells slots Q z k L xs pc lv st h := by
  obtain ⟨hx, hb, hml, hown, hts⟩ := C
  have hk9 : (decide (decode (ccOf k) pc = .ok (.tableswitch dd lo hi9 offs, nx - pc)) && decide ((pc : Int) + dd = (a : Int)) && Nat.beq b pc && offs.all (fun o => decide (0 ≤ (pc : Int) + o))) = true := chkE_at hm
  simp only [Bool.and_eq_true, decide_eq_true_eq] at hk9
  obtain ⟨⟨⟨hd, ha⟩, hbp⟩, hof⟩ := hk9
  obtain rfl : b = pc := Nat.eq_of_beq_eq_true hbp
  intro H locs ls hP hS hq hl
  have hs1 : (match (generalizing := false) st with
    | .int x :: r => if x.toInt < lo ∨ hi9 < x.toInt then some (a, lv, r, h) else
      match offs[(x.toInt - lo).toNat]? with
      | some off => some (((b : Int) + off).toNat, lv, r, h)
      | none => none
    | _ => none) = some (pc', lv', st', h') := hs
  split at hs1
  · rename_i x r
    by_cases q : x.toInt < lo ∨ hi9 < x.toInt
    · rw [if_pos q] at hs1
      cases hs1
      exact lv_tableOut hx hb hd q ha (kk H locs ls hP hS hq hl)
    · rw [if_neg q] at hs1
      split at hs1
      · rename_i off heq
        cases hs1
        have h0 : 0 ≤ (b : Int) + off := by
          have := Array.all_eq_true'.mp hof off (Array.mem_of_getElem? heq)
          exact of_decide_eq_true this
        refine lv_tableIn (tgt := ((b : Int) + off).toNat) hx hb hd (fun q1 => q (Or.inl q1)) (fun q1 => q (Or.inr q1)) heq (by omega) (kk H locs ls hP hS hq hl)
      · cases hs1
  · cases hs1

theorem st_invokestatic {x0 : Nat} (C : CX k p s m args c) (w0 : WS z L xs s) (hw : WF z) (hR : 10 ≤ R.frames ∧ 200 ≤ R.locals ∧ cells ≤ R.cells ∧ slots ≤ R.slots) (hm : (miOf k).1 pc = some ((.invokestatic x0), nx, a, b, t, v, w)) (hs : pstep layF slenF schF ((.invokestatic x0), nx, a, b, t, v, w) lv st h = some (pc', lv', st', h')) 
    (kk : StepGoal p l e R s m args below meth c cells slots Q z k L xs pc' lv' st' h') : StepGoal p l e R s m args below meth c cells slots Q z k L xs pc lv st h := by
  obtain ⟨hx, hb, hml, hown, hts⟩ := C
  obtain ⟨hd, rfl, hi⟩ := chk3 (A := decode (ccOf k) pc = .ok ((.invokestatic x0), ilen ((.invokestatic x0)))) (n := nx) (m := pc + ilen ((.invokestatic x0))) (B := Nat.blt (pidx ((.invokestatic x0))) 1000 && chkI k pc ((.invokestatic x0)) a b t v w) (chkE_at hm)
  obtain ⟨hx0, hi⟩ := and2 hi
  have hx0 : pidx ((.invokestatic x0)) < 1000 := blt_of hx0
  intro H locs ls hP hS hq hl
  have hs1 : (match (generalizing := false) t with
    | 100 => match (generalizing := false) st with
      | .int y :: .int x :: r => match (generalizing := false) Nat.ble (catz r) 8 with
        | true => some ((pc + ilen ((.invokestatic x0))), lv, .int (if y < x then y else x) :: r, h)
        | false => none
      | _ => none
    | 101 => match (generalizing := false) st with
      | .long y :: .long x :: r => match (generalizing := false) Nat.ble (catz r) 8 with
        | true => some ((pc + ilen ((.invokestatic x0))), lv, .long (if y < x then x else y) :: r, h)
        | false => none
      | _ => none
    | 102 => match (generalizing := false) st with
      | .long y :: .long x :: r => match (generalizing := false) Nat.ble (catz r) 8 with
        | true => some ((pc + ilen ((.invokestatic x0))), lv, .long (if y < x then y else x) :: r, h)
        | false => none
      | _ => none
    | 103 => match (generalizing := false) st with
      | .int n :: .int dp :: .ref d :: .int sp :: .ref o :: r => match (generalizing := false) layF o, layF d with
        | (1, n0, _), (1, n1, _) => if Nat.ble (catz r) 8 = true ∧ ¬ sp < 0 ∧ ¬ dp < 0 ∧ ¬ n < 0 ∧ sp.toNatClampNeg + n.toNatClampNeg ≤ n0 ∧ dp.toNatClampNeg + n.toNatClampNeg ≤ n1 ∧ o ≠ d then some ((pc + ilen ((.invokestatic x0))), lv, r, pcpy h o sp.toNatClampNeg d dp.toNatClampNeg n.toNatClampNeg) else none
        | _, _ => none
      | _ => none
    | _ => none) = some (pc', lv', st', h') := hs
  have hq1 : (1000 * clsOf k + x0) / 1000 = clsOf k := by have : x0 < 1000 := hx0; omega
  have hq2 : (1000 * clsOf k + x0) % 1000 = x0 := by have : x0 < 1000 := hx0; omega
  have hls : c.maxLocals = ls.size := by rw [hml, hl.1]
  split at hs1
  · split at hs1
    · rename_i y x r
      obtain ⟨hz9, e9⟩ := bt hs1
      cases e9
      have hw9 := nat_at (q := 1000 * clsOf k + x0) (t := 100) (Nat.eq_of_beq_eq_true hi) (by decide) hq1 hq2
      simp only [natW, List.mem_cons, List.not_mem_nil, or_false, forall_eq_or_imp, forall_eq] at hw9
      exact va_mmin hx hb hls hown (hts _ hw9.1) (hts _ hw9.2.1) (hts _ hw9.2.2.1) (hts _ hw9.2.2.2) (by omega) (by rw [catz_eq]; have := Nat.le_of_ble_eq_true hz9; omega) hR.2.2.1 hR.2.2.2 hd (kk H locs ls hP hS hq hl)
    · cases hs1
  · split at hs1
    · rename_i y x r
      obtain ⟨hz9, e9⟩ := bt hs1
      cases e9
      have hw9 := nat_at (q := 1000 * clsOf k + x0) (t := 101) (Nat.eq_of_beq_eq_true hi) (by decide) hq1 hq2
      simp only [natW, List.mem_cons, List.not_mem_nil, or_false, forall_eq_or_imp, forall_eq] at hw9
      exact va_mmax_long hx hb hls hown (hts _ hw9.1) (hts _ hw9.2.1) (hts _ hw9.2.2.1) (hts _ hw9.2.2.2) (by omega) (by rw [catz_eq]; have := Nat.le_of_ble_eq_true hz9; omega) hR.2.2.1 hR.2.2.2 hd (kk H locs ls hP hS hq hl)
    · cases hs1
  · split at hs1
    · rename_i y x r
      obtain ⟨hz9, e9⟩ := bt hs1
      cases e9
      have hw9 := nat_at (q := 1000 * clsOf k + x0) (t := 102) (Nat.eq_of_beq_eq_true hi) (by decide) hq1 hq2
      simp only [natW, List.mem_cons, List.not_mem_nil, or_false, forall_eq_or_imp, forall_eq] at hw9
      exact va_mmin_long hx hb hls hown (hts _ hw9.1) (hts _ hw9.2.1) (hts _ hw9.2.2.1) (hts _ hw9.2.2.2) (by omega) (by rw [catz_eq]; have := Nat.le_of_ble_eq_true hz9; omega) hR.2.2.1 hR.2.2.2 hd (kk H locs ls hP hS hq hl)
    · cases hs1
  · split at hs1
    · rename_i n dp d sp o r
      split at hs1
      · rename_i n0 fs0 n1 fs1 heq heq1
        by_cases q : Nat.ble (catz r) 8 = true ∧ ¬ sp < 0 ∧ ¬ dp < 0 ∧ ¬ n < 0 ∧ sp.toNatClampNeg + n.toNatClampNeg ≤ n0 ∧ dp.toNatClampNeg + n.toNatClampNeg ≤ n1 ∧ o ≠ d
        · rw [if_pos q] at hs1
          cases hs1
          have hw9 := nat_at (q := 1000 * clsOf k + x0) (t := 103) (Nat.eq_of_beq_eq_true hi) (by decide) hq1 hq2
          simp only [natW, List.mem_cons, List.not_mem_nil, or_false, forall_eq_or_imp, forall_eq] at hw9
          have ho := lay_lt heq (by decide) (by decide)
          have hd9 := lay_lt heq1 (by decide) (by decide)
          have hE : encE z h o = .inl (z.2.1 1, n0, .inl (h.1 o)) := by unfold encE; rw [heq]; rfl
          have hE1 : encE z h d = .inl (z.2.1 1, n1, .inl (h.1 d)) := by unfold encE; rw [heq1]; rfl
          have hget : (wd z h)[o]? = some (z.2.2.1 o, .inl (z.2.1 1, n0, .inl (h.1 o))) := by rw [wd_get ho, hE]
          have hget1 : (wd z h)[d]? = some (z.2.2.1 d, .inl (z.2.1 1, n1, .inl (h.1 d))) := by rw [wd_get hd9, hE1]
          have hset : (wd z h).set d (z.2.2.1 d, .inl (z.2.1 1, n1, .inl (va_cpy (h.1 o) (h.1 d) sp.toNatClampNeg dp.toNatClampNeg n.toNatClampNeg))) = wd z (pcpy h o sp.toNatClampNeg d dp.toNatClampNeg n.toNatClampNeg) := by
            refine wd_upd hd9 ?_ (fun j hj => ⟨if_neg hj, rfl⟩)
            unfold encE
            rw [heq1]
            have e9 : (pcpy h o sp.toNatClampNeg d dp.toNatClampNeg n.toNatClampNeg).1 d = va_cpy (h.1 o) (h.1 d) sp.toNatClampNeg dp.toNatClampNeg n.toNatClampNeg := if_pos rfl
            rw [e9]
            rfl
          have hsc : scr L xs (pcpy h o sp.toNatClampNeg d dp.toNatClampNeg n.toNatClampNeg) := scr_of hq (if_neg (by omega)) (if_neg (by omega))
          have h77 : nativeFrameWords "java/lang/System" "arraycopy" 5 + 11 ≤ 100 := by decide +kernel
          have h88 := Nat.le_of_ble_eq_true q.1
          exact va_copyi hx hb hls hown (hts _ hw9.1) (hts _ hw9.2.2.2) (hts _ hw9.2.1) (hts _ hw9.2.2.1) w0.1 hP (wd_D hw h) hS o d 0 0 hget hget1 rfl rfl rfl q.2.1 q.2.2.1 q.2.2.2.1 q.2.2.2.2.1 q.2.2.2.2.2.1 (fun _ _ => rfl) (by omega) (by rw [catz_eq]; omega) hd (fun H1 locs1 hP1 hD1 hS1 => kk H1 locs1 ls (by rw [hset] at hP1; exact hP1) hS1 hsc hl)
        · rw [if_neg q] at hs1
          cases hs1
      · cases hs1
    · cases hs1
  · cases hs1
theorem st_invokevirtual {x0 : Nat} (C : CX k p s m args c) (w0 : WS z L xs s) (hw : WF z) (hR : 10 ≤ R.frames ∧ 200 ≤ R.locals ∧ cells ≤ R.cells ∧ slots ≤ R.slots) (hm : (miOf k).1 pc = some ((.invokevirtual x0), nx, a, b, t, v, w)) (hs : pstep layF slenF schF ((.invokevirtual x0), nx, a, b, t, v, w) lv st h = some (pc', lv', st', h')) (HS : StrRule p l e R s m args below meth c z k)
    (kk : StepGoal p l e R s m args below meth c cells slots Q z k L xs pc' lv' st' h') : StepGoal p l e R s m args below meth c cells slots Q z k L xs pc lv st h := by
  obtain ⟨hx, hb, hml, hown, hts⟩ := C
  obtain ⟨hd, rfl, hi⟩ := chk3 (A := decode (ccOf k) pc = .ok ((.invokevirtual x0), ilen ((.invokevirtual x0)))) (n := nx) (m := pc + ilen ((.invokevirtual x0))) (B := Nat.blt (pidx ((.invokevirtual x0))) 1000 && chkI k pc ((.invokevirtual x0)) a b t v w) (chkE_at hm)
  obtain ⟨hx0, hi⟩ := and2 hi
  have hx0 : pidx ((.invokevirtual x0)) < 1000 := blt_of hx0
  intro H locs ls hP hS hq hl
  have hs1 : (match (generalizing := false) t with
    | 110 => match (generalizing := false) st with
      | .ref o :: r => match (generalizing := false) Nat.ble SB o with
        | true => match (generalizing := false) Nat.ble (catz r) 8 && Nat.blt (o - SB) 7 with
          | true => some ((pc + ilen ((.invokevirtual x0))), lv, .int (Int32.ofNat (slenF (o - SB))) :: r, h)
          | false => none
        | false => none
      | _ => none
    | 111 => match (generalizing := false) st with
      | .int i :: .ref o :: r => match (generalizing := false) Nat.ble SB o with
        | true => match (generalizing := false) Nat.ble (catz r) 8 && Nat.blt (o - SB) 7 with
          | true => if inb i (slenF (o - SB)) then some ((pc + ilen ((.invokevirtual x0))), lv, .int (schF (o - SB) i.toNatClampNeg) :: r, h) else none
          | false => none
        | false => none
      | _ => none
    | _ => none) = some (pc', lv', st', h') := hs
  have hq1 : (1000 * clsOf k + x0) / 1000 = clsOf k := by have : x0 < 1000 := hx0; omega
  have hq2 : (1000 * clsOf k + x0) % 1000 = x0 := by have : x0 < 1000 := hx0; omega
  have hls : c.maxLocals = ls.size := by rw [hml, hl.1]
  split at hs1
  · split at hs1
    · rename_i o r
      split at hs1
      · rename_i hb1
        obtain ⟨hz9, e9⟩ := bt hs1
        cases e9
        obtain ⟨hz8, hj⟩ := and2 hz9
        obtain ⟨j, rfl⟩ : ∃ j, o = SB + j := ⟨o - SB, (Nat.add_sub_cancel' (Nat.le_of_ble_eq_true hb1)).symm⟩
        rw [show SB + j - SB = j by omega] at hj kk
        exact HS.1 H locs ls cells slots Q pc x0 j (r.map (img z.2.2.1)) hS hls.symm (by rw [catz_eq]; exact Nat.le_of_ble_eq_true hz8) hR.2.2.1 hR.2.2.2 hd (Nat.eq_of_beq_eq_true hi) hx0 (blt_of hj) (kk H locs ls hP hS hq hl)
      · cases hs1
    · cases hs1
  · split at hs1
    · rename_i i o r
      split at hs1
      · rename_i hb1
        split at hs1
        · rename_i hz9
          obtain ⟨hz8, hj⟩ := and2 hz9
          obtain ⟨j, rfl⟩ : ∃ j, o = SB + j := ⟨o - SB, (Nat.add_sub_cancel' (Nat.le_of_ble_eq_true hb1)).symm⟩
          rw [show SB + j - SB = j by omega] at hj hs1
          by_cases hb2 : inb i (slenF j) = true
          · rw [if_pos hb2] at hs1
            cases hs1
            exact HS.2 H locs ls cells slots Q pc x0 j i (r.map (img z.2.2.1)) hS hls.symm (by rw [catz_eq]; exact Nat.le_of_ble_eq_true hz8) hR.2.2.1 hR.2.2.2 hd (Nat.eq_of_beq_eq_true hi) hx0 (blt_of hj) (inb_in hb2) (kk H locs ls hP hS hq hl)
          · rw [if_neg hb2] at hs1
            cases hs1
        · cases hs1
      · cases hs1
    · cases hs1
  · cases hs1
end STN
