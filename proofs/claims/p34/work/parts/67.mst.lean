/-! A STEP OF THE MAKER IS A STEP OF THE MACHINE -/
def yM (ci : Nat) : MethodName := ⟨ownN ci, "<init>", "()V"⟩
def nLM (ci : Nat) : Nat := if Nat.beq ci 1 then 2 else 1
def mOkW (w : Cond) : Bool := decide (w ∈ lw_tbl) && goodWord w
theorem mOkW_in {w : Cond} (h : mOkW w = true) : w ∈ gtbl := by
  unfold mOkW at h
  rw [Bool.and_eq_true, decide_eq_true_eq] at h
  exact gtbl_in h.1 h.2
theorem mw_code : ∀ ci, ci < 9 → mOkW (.code (yM ci) (mBy ci) (nLM ci) none) = true := by decide +kernel
theorem mw_ins : ∀ ci, ci < 9 → mOkW (.instanceMethod (yM ci)) = true := by decide +kernel
theorem mw_ini : ∀ ci, ci < 9 → mOkW (.initialized (ownN ci)) = true := by decide +kernel
theorem mw_inst : ∀ ci, ci < 9 → mOkW (.instantiable (fC ci) (fN ci)) = true := by decide +kernel
theorem mw_own : ∀ ci, ci < 9 → ownN ci = fC ci := by decide +kernel
theorem mw_decl : ∀ ci, ci < 9 → ∀ b, b < fN ci → (fT ci b).1 = ownN ci := by decide +kernel
def mChkN (q : Nat) : Bool := !(Nat.blt (mNew q) 9) || mOkW (.classLink (ownN (q / 1000)) (q % 1000) (fC (mNew q)))
theorem mChkN_all : (List.range 10000).all mChkN = true := by decide +kernel
def mChkI (q : Nat) : Bool := (!(Nat.beq (mIni q) 50) || mOkW (.methodLink (ownN (q / 1000)) (q % 1000) Lib.objectInit)) &&
  (!(Nat.blt (mIni q) 9) || mOkW (.methodLink (ownN (q / 1000)) (q % 1000) (yM (mIni q))) || decide (.methodLinkNest (ownN (q / 1000)) (q % 1000) (yM (mIni q)) "WindyTours" ∈ lw_tbl))
theorem mChkI_all : (List.range 10000).all mChkI = true := by decide +kernel
theorem mw_obj : mOkW (.instanceMethod Lib.objectInit) = true ∧ mOkW (.code Lib.objectInit ⟨#[0xb1]⟩ 1 none) = true := by decide +kernel
theorem mw_arr : mOkW (.arrayClass .int) = true ∧ mOkW (.arrayClass .byte) = true ∧ mOkW (.arrayClass .boolean) = true ∧ mOkW (.arrayClass .long) = true := by decide +kernel
theorem mNew_at {ci x : Nat} (hci : ci ≤ 9) (hx : x < 1000) (hq : mNew (1000 * ci + x) < 9) : Cond.classLink (ownN ci) x (fC (mNew (1000 * ci + x))) ∈ gtbl := by
  have h := List.all_eq_true.mp mChkN_all (1000 * ci + x) (List.mem_range.mpr (by omega))
  unfold mChkN at h
  rw [show (1000 * ci + x) / 1000 = ci by omega, show (1000 * ci + x) % 1000 = x by omega, show Nat.blt (mNew (1000 * ci + x)) 9 = true from Nat.ble_eq_true_of_le hq] at h
  exact mOkW_in h
theorem mIni_obj {ci x : Nat} (hci : ci ≤ 9) (hx : x < 1000) (hq : mIni (1000 * ci + x) = 50) : Cond.methodLink (ownN ci) x Lib.objectInit ∈ gtbl := by
  have h := List.all_eq_true.mp mChkI_all (1000 * ci + x) (List.mem_range.mpr (by omega))
  unfold mChkI at h
  rw [show (1000 * ci + x) / 1000 = ci by omega, show (1000 * ci + x) % 1000 = x by omega, hq] at h
  exact mOkW_in (and2 h).1
theorem mIni_at {ci x : Nat} (hci : ci ≤ 9) (hx : x < 1000) (hq : mIni (1000 * ci + x) < 9) : Cond.methodLink (ownN ci) x (yM (mIni (1000 * ci + x))) ∈ gtbl ∨ Cond.methodLinkNest (ownN ci) x (yM (mIni (1000 * ci + x))) "WindyTours" ∈ lw_tbl := by
  have h := List.all_eq_true.mp mChkI_all (1000 * ci + x) (List.mem_range.mpr (by omega))
  unfold mChkI at h
  rw [show (1000 * ci + x) / 1000 = ci by omega, show (1000 * ci + x) % 1000 = x by omega, show Nat.blt (mIni (1000 * ci + x)) 9 = true from Nat.ble_eq_true_of_le hq] at h
  have h2 := (and2 h).2
  rw [Bool.or_eq_true, decide_eq_true_eq] at h2
  rcases h2 with h2 | h2
  · exact Or.inl (mOkW_in h2)
  · exact Or.inr h2
theorem mFr_at {q cj b : Nat} {nest : Bool} (h : mFr q = some (cj, b, nest)) : fW q cj b nest ∈ lw_tbl ∧ b < fN cj ∧ cj < 9 := by
  unfold mFr at h
  split at h
  · cases h
    exact ⟨of_decide_eq_true (by decide +kernel), by decide +kernel, by omega⟩
  · cases h
    exact ⟨of_decide_eq_true (by decide +kernel), by decide +kernel, by omega⟩
  · cases h
    exact ⟨of_decide_eq_true (by decide +kernel), by decide +kernel, by omega⟩
  · exact chkF_at h
theorem lgo_j : ∀ (lv : PL) (i : Nat), lgo lv i = (lv[i]?).getD none
  | [], i => by simp [lgo]
  | x :: t, 0 => by simp [lgo]
  | x :: t, i + 1 => by
    show lgo t i = _
    rw [lgo_j t i, List.getElem?_cons_succ]
theorem lgo_lt {lv : PL} {i : Nat} {v : Value} (h : lgo lv i = some v) : i < lv.length ∧ some v ∈ lv := by
  rw [lgo_j] at h
  cases hg : lv[i]? with
  | none => rw [hg] at h; cases h
  | some o =>
    rw [hg] at h
    have h2 : o = some v := h
    subst h2
    exact ⟨(List.getElem?_eq_some_iff.mp hg).1, List.mem_of_getElem? hg⟩
theorem lgo_set {lv : PL} {i j : Nat} {v w : Value} (h : lgo (lv.set i (some v)) j = some w) : (j = i ∧ w = v) ∨ (j ≠ i ∧ lgo lv j = some w) := by
  rw [lgo_j, List.getElem?_set] at h
  by_cases e : i = j
  · subst e
    rw [if_pos rfl] at h
    by_cases hl : i < lv.length
    · rw [if_pos hl] at h
      have h2 : some v = some w := h
      cases h2
      exact Or.inl ⟨rfl, rfl⟩
    · rw [if_neg hl] at h
      cases h
  · rw [if_neg e] at h
    exact Or.inr ⟨fun q => e q.symm, by rw [lgo_j]; exact h⟩
theorem mOkL_st {lv : PL} {st : List Value} {n : Nat} (h : mOkL lv st n = true) {v : Value} (hv : v ∈ st) : mRx n v = true := List.all_eq_true.mp (and2 h).1 v hv
theorem mOkL_lv {lv : PL} {st : List Value} {n i : Nat} (h : mOkL lv st n = true) {v : Value} (hv : lgo lv i = some v) : mRx n v = true := by
  have := List.all_eq_true.mp (and2 h).2 (some v) (lgo_lt hv).2
  exact this
theorem mRx_cat {n : Nat} {v : Value} (h : mRx n v = true) : v.category ≠ 2 := by
  cases v <;> first | (intro q; cases q; done) | cases h
theorem img_agx {ad ad' : Nat → Nat} {n : Nat} (h : ∀ i, i < n ∨ i = 167 → ad' i = ad i) {v : Value} (hv : mRx n v = true) : img ad' v = img ad v := by
  cases v with
  | ref a =>
    unfold mRx at hv
    rw [Bool.or_eq_true] at hv
    refine congrArg Value.ref (h a ?_)
    rcases hv with q | q
    · exact Or.inl (blt_of q)
    · exact Or.inr (Nat.eq_of_beq_eq_true q)
  | _ => rfl
theorem st_ag {ad ad' : Nat → Nat} {n : Nat} (h : ∀ i, i < n ∨ i = 167 → ad' i = ad i) {st : List Value} (hs : ∀ v ∈ st, mRx n v = true) : st.map (img ad') = st.map (img ad) := List.map_congr_left fun v hv => img_agx h (hs v hv)
theorem LH_ag {ad ad' : Nat → Nat} {n nL : Nat} {ls : Array Slot} {lv : PL} (h : ∀ i, i < n ∨ i = 167 → ad' i = ad i) (hl : LH ad ls nL lv) (hs : ∀ i v, lgo lv i = some v → mRx n v = true) : LH ad' ls nL lv :=
  ⟨hl.1, hl.2.1, fun i v hv => by rw [img_agx h (hs i v hv)]; exact hl.2.2 i v hv⟩
/-- what the maker knows of classes and nest mates -/
def MK (z : PP) (s : State) : Prop := va_K z.1 vwCl (tyL z) s ∧ (∀ w ∈ lw_tbl, isNest w = true → va_Nw w s) ∧ z.2.2.2 ≤ s.heap.size ∧ va_AO "WindyTours$Network" s ∧ va_AO "WindyTours$Plan" s ∧ va_AAI s
theorem MK.go {z : PP} {s U : State} (h : MK z s) (hW : s.WarmedH U.vm) (hs : s.heap.size ≤ U.heap.size) : MK z U := by
  obtain ⟨h1, h2, h3, h4, h5, h6⟩ := h
  refine ⟨va_K.moved hW.alike h1, fun w a b => ?_, Nat.le_trans h3 hs, h4.moved hW.alike, h5.moved hW.alike, va_AOA.moved hW.alike h6⟩
  have h7 := h2 w a b
  cases w with
  | fieldLinkNest _ _ _ _ _ _ => exact va_Nw.warmF hW h7
  | methodLinkNest _ _ _ _ => exact va_Nw.warmM hW h7
  | _ => cases b
section MST
variable {p : Program} {l : Launch} {e : Env} {R : Room} {s : State} {m : MethodId} {args : Array Value} {below : List Frame} {meth : Method} {c : Code} {Q : State → Prop} {cells slots : Nat}
variable {z : PP} {nL ci pc n0 : Nat} {ad0 : Nat → Nat} {lv : PL} {st : List Value} {M : List MT}
/-- what a maker's body knows of its code and class -/
def MX (ci nL : Nat) (p : Program) (s : State) (m : MethodId) (args : Array Value) (c : Code) : Prop :=
  p.tables.exec = Jvm.exec ∧ c.code = mBy ci ∧ c.maxLocals = nL ∧ s.vm.findClass (ownN ci) = some m.cls ∧ (∀ w ∈ gtbl, w.before args s = true)
/-- from here it runs to Q: for all addresses that agree with ad0 on the first n0 things and on the script -/
def MGoal (p : Program) (l : Launch) (e : Env) (R : Room) (s : State) (m : MethodId) (args : Array Value) (below : List Frame) (meth : Method) (c : Code) (cells slots : Nat) (Q : State → Prop) (z : PP) (nL n0 : Nat) (ad0 : Nat → Nat) (pc : Nat) (lv : PL) (st : List Value) (M : List MT) : Prop :=
  ∀ (ad : Nat → Nat) (H : Heap) (locs : List Loc) (ls : Array Slot), (∀ i, i < n0 ∨ i = 167 → ad i = ad0 i) → va_P z.1 vwCl (mkW z.2.1 ad M) H → va_D (AB z) (mkW z.2.1 ad M) → va_S (AB z) s.heap H locs → LH ad ls nL lv →
    W p l e R s m args below meth c H locs cells slots Q (F0 m pc ls (st.map (img ad)))
theorem ms_aload_n {i : Fin 4} {a : Nat} (C : MX ci nL p s m args c) (hd : decode (mBy ci) pc = .ok (.aload_n i, 1)) (hl : lgo lv i.val = some (.ref a))
    (kk : MGoal p l e R s m args below meth c cells slots Q z nL n0 ad0 (pc + 1) lv (.ref a :: st) M) : MGoal p l e R s m args below meth c cells slots Q z nL n0 ad0 pc lv st M :=
  fun ad H locs ls h0 h1 h2 h3 h4 => lv_aload_n C.1 C.2.1 hd rfl (h4.2.2 _ _ hl) (kk ad H locs ls h0 h1 h2 h3 h4)
theorem ms_iload_n {i : Fin 4} {a : Int32} (C : MX ci nL p s m args c) (hd : decode (mBy ci) pc = .ok (.iload_n i, 1)) (hl : lgo lv i.val = some (.int a))
    (kk : MGoal p l e R s m args below meth c cells slots Q z nL n0 ad0 (pc + 1) lv (.int a :: st) M) : MGoal p l e R s m args below meth c cells slots Q z nL n0 ad0 pc lv st M :=
  fun ad H locs ls h0 h1 h2 h3 h4 => lv_iload_n C.1 C.2.1 hd rfl (h4.2.2 _ _ hl) (kk ad H locs ls h0 h1 h2 h3 h4)
theorem ms_iconst {n : Int} (C : MX ci nL p s m args c) (hd : decode (mBy ci) pc = .ok (.iconst n, 1))
    (kk : MGoal p l e R s m args below meth c cells slots Q z nL n0 ad0 (pc + 1) lv (.int (Int32.ofInt n) :: st) M) : MGoal p l e R s m args below meth c cells slots Q z nL n0 ad0 pc lv st M :=
  fun ad H locs ls h0 h1 h2 h3 h4 => lv_iconst C.1 C.2.1 hd rfl (kk ad H locs ls h0 h1 h2 h3 h4)
theorem ms_bipush {n : Int} (C : MX ci nL p s m args c) (hd : decode (mBy ci) pc = .ok (.bipush n, 2))
    (kk : MGoal p l e R s m args below meth c cells slots Q z nL n0 ad0 (pc + 2) lv (.int (Int8.ofInt n).toInt32 :: st) M) : MGoal p l e R s m args below meth c cells slots Q z nL n0 ad0 pc lv st M :=
  fun ad H locs ls h0 h1 h2 h3 h4 => lv_bipush C.1 C.2.1 hd rfl (kk ad H locs ls h0 h1 h2 h3 h4)
theorem ms_sipush {n : Int} (C : MX ci nL p s m args c) (hd : decode (mBy ci) pc = .ok (.sipush n, 3))
    (kk : MGoal p l e R s m args below meth c cells slots Q z nL n0 ad0 (pc + 3) lv (.int (Int16.ofInt n).toInt32 :: st) M) : MGoal p l e R s m args below meth c cells slots Q z nL n0 ad0 pc lv st M :=
  fun ad H locs ls h0 h1 h2 h3 h4 => lv_sipush C.1 C.2.1 hd rfl (kk ad H locs ls h0 h1 h2 h3 h4)
theorem ms_dup {a : Nat} (C : MX ci nL p s m args c) (hd : decode (mBy ci) pc = .ok (.dup, 1))
    (kk : MGoal p l e R s m args below meth c cells slots Q z nL n0 ad0 (pc + 1) lv (.ref a :: .ref a :: st) M) : MGoal p l e R s m args below meth c cells slots Q z nL n0 ad0 pc lv (.ref a :: st) M :=
  fun ad H locs ls h0 h1 h2 h3 h4 => lv_dup C.1 C.2.1 hd rfl (kk ad H locs ls h0 h1 h2 h3 h4)
theorem ms_goto {d : Int} (C : MX ci nL p s m args c) (hd : decode (mBy ci) pc = .ok (.goto d, 3)) (hp : 0 ≤ (pc : Int) + d)
    (kk : MGoal p l e R s m args below meth c cells slots Q z nL n0 ad0 ((pc : Int) + d).toNat lv st M) : MGoal p l e R s m args below meth c cells slots Q z nL n0 ad0 pc lv st M :=
  fun ad H locs ls h0 h1 h2 h3 h4 => lv_goto C.1 C.2.1 hd (by omega) (kk ad H locs ls h0 h1 h2 h3 h4)
theorem ms_store {x : Value} {i n : Nat} (hL : mOkL lv st n = true) : ∀ j w, lgo (lv.set i (some x)) j = some w → (j = i ∧ w = x) ∨ (j ≠ i ∧ lgo lv j = some w ∧ ¬ (j + 1 = i ∧ w.category = 2)) := by
  intro j w hw
  rcases lgo_set hw with q | ⟨q1, q2⟩
  · exact Or.inl q
  · exact Or.inr ⟨q1, q2, fun q => mRx_cat (mOkL_lv hL q2) q.2⟩
theorem ms_astore_n {i : Fin 4} {a n : Nat} (C : MX ci nL p s m args c) (hd : decode (mBy ci) pc = .ok (.astore_n i, 1)) (hi : i.val < nL) (hL : mOkL lv (.ref a :: st) n = true)
    (kk : MGoal p l e R s m args below meth c cells slots Q z nL n0 ad0 (pc + 1) (lv.set i.val (some (.ref a))) st M) : MGoal p l e R s m args below meth c cells slots Q z nL n0 ad0 pc lv (.ref a :: st) M :=
  fun ad H locs ls h0 h1 h2 h3 h4 => lv_astore_n C.1 C.2.1 hd rfl h4.has hi rfl (fun ls9 h9 => kk ad H locs ls9 h0 h1 h2 h3 (st_store1 (x := .ref a) h4 (ms_store hL) h9))
theorem ms_istore_n {i : Fin 4} {a : Int32} {n : Nat} (C : MX ci nL p s m args c) (hd : decode (mBy ci) pc = .ok (.istore_n i, 1)) (hi : i.val < nL) (hL : mOkL lv (.int a :: st) n = true)
    (kk : MGoal p l e R s m args below meth c cells slots Q z nL n0 ad0 (pc + 1) (lv.set i.val (some (.int a))) st M) : MGoal p l e R s m args below meth c cells slots Q z nL n0 ad0 pc lv (.int a :: st) M :=
  fun ad H locs ls h0 h1 h2 h3 h4 => lv_istore_n C.1 C.2.1 hd rfl h4.has hi rfl (fun ls9 h9 => kk ad H locs ls9 h0 h1 h2 h3 (st_store1 (x := .int a) h4 (ms_store hL) h9))
theorem ms_istore {i : Nat} {a : Int32} {n : Nat} (C : MX ci nL p s m args c) (hd : decode (mBy ci) pc = .ok (.istore i, 2)) (hi : i < nL) (hL : mOkL lv (.int a :: st) n = true)
    (kk : MGoal p l e R s m args below meth c cells slots Q z nL n0 ad0 (pc + 2) (lv.set i (some (.int a))) st M) : MGoal p l e R s m args below meth c cells slots Q z nL n0 ad0 pc lv (.int a :: st) M :=
  fun ad H locs ls h0 h1 h2 h3 h4 => lv_istore C.1 C.2.1 hd h4.has hi rfl (fun ls9 h9 => kk ad H locs ls9 h0 h1 h2 h3 (st_store1 (x := .int a) h4 (ms_store hL) h9))
theorem ms_iinc {i : Nat} {d : Int} {a : Int32} {n : Nat} (C : MX ci nL p s m args c) (hd : decode (mBy ci) pc = .ok (.iinc i d, 3)) (hl : lgo lv i = some (.int a)) (hi : i < nL) (hL : mOkL lv st n = true)
    (kk : MGoal p l e R s m args below meth c cells slots Q z nL n0 ad0 (pc + 3) (lv.set i (some (.int (a + Int32.ofInt d)))) st M) : MGoal p l e R s m args below meth c cells slots Q z nL n0 ad0 pc lv st M := by
  intro ad H locs ls h0 h1 h2 h3 h4
  have hmem := al_to (ad := ad) (k := 0) hl
  rw [Nat.zero_add] at hmem
  obtain ⟨k9, hk9⟩ := List.getElem?_of_mem hmem
  exact lv_iinc (k := k9) C.1 C.2.1 hd h4.has hk9 rfl hi rfl (fun ls9 h9 => kk ad H locs ls9 h0 h1 h2 h3 (st_store1 (x := .int (a + Int32.ofInt d)) h4 (ms_store hL) h9))
theorem ms_icmp {d : Int} {a b : Int32} (C : MX ci nL p s m args c) (hd : decode (mBy ci) pc = .ok (.if_icmp .ge d, 3)) (hp : 0 ≤ (pc : Int) + d)
    (kk : MGoal p l e R s m args below meth c cells slots Q z nL n0 ad0 (if b ≤ a then ((pc : Int) + d).toNat else pc + 3) lv st M) : MGoal p l e R s m args below meth c cells slots Q z nL n0 ad0 pc lv (.int b :: .int a :: st) M := by
  intro ad H locs ls h0 h1 h2 h3 h4
  have kk2 := kk ad H locs ls h0 h1 h2 h3 h4
  by_cases q : b ≤ a
  · rw [if_pos q] at kk2
    exact lv_icmp_ge C.1 C.2.1 hd (show (pc : Int) + d = ((((pc : Int) + d).toNat : Nat) : Int) by omega) (fun _ => kk2) (fun q2 => absurd q q2)
  · rw [if_neg q] at kk2
    exact lv_icmp_ge C.1 C.2.1 hd (show (pc : Int) + d = ((((pc : Int) + d).toNat : Nat) : Int) by omega) (fun q2 => absurd q2 q) (fun _ => kk2)
theorem mDef_img (f : Nat → Nat) (cj : Nat) : (mDef cj).map (img f) = mDef cj := by
  have h : ∀ v ∈ mDef cj, img f v = v := by
    intro v hv
    unfold mDef at hv
    obtain ⟨k, -, rfl⟩ := List.mem_map.mp hv
    cases fY cj k <;> rfl
  exact (List.map_congr_left h).trans (List.map_id _)
theorem ms_new {x : Nat} (C : MX ci nL p s m args c) (K : MK z s) (hci : ci ≤ 9) (hd : decode (mBy ci) pc = .ok (.new x, 3)) (hx : x < 1000) (hq : mNew (1000 * ci + x) < 9) (hM : mOk M = true) (hl : M.length < 167) (hL : mOkL lv st M.length = true) (hn0 : n0 ≤ M.length) (hc : cells + 1 ≤ R.cells) (hs : slots + fN (mNew (1000 * ci + x)) ≤ R.slots)
    (kk : MGoal p l e R s m args below meth c (cells + 1) (slots + fN (mNew (1000 * ci + x))) Q z nL n0 ad0 (pc + 3) lv (.ref M.length :: st) (M ++ [(0, mNew (1000 * ci + x), mDef (mNew (1000 * ci + x)))])) : MGoal p l e R s m args below meth c cells slots Q z nL n0 ad0 pc lv st M := by
  intro ad H locs ls h0 h1 h2 h3 h4
  have hw1 := mNew_at hci hx hq
  revert hq hs kk hw1
  generalize mNew (1000 * ci + x) = cj
  intro hq hs kk hw1
  refine va_new C.1 C.2.1 C.2.2.2.2 (usw cj hq) (fY cj) (fY_ok hq) C.2.2.2.1 (C.2.2.2.2 _ hw1) (C.2.2.2.2 _ (mOkW_in (mw_inst cj hq))) (C.2.2.2.2 _ (by rw [← mw_own cj hq]; exact mOkW_in (mw_ini cj hq))) K.1 h1 h2 h3 (fun q hq => Nat.le_trans K.2.2.1 hq) (clA hq) (fs := mDef cj) (fun j hj => by simp [vp_V, mDef, List.getD, hj]) hc hs hd ?_
  intro q H1 hP hD hS
  have hag : ∀ i, i < M.length ∨ i = 167 → va_up ad M.length q i = ad i := fun i hi => va_up_ne ad q (by omega)
  have hw : mkW z.2.1 (va_up ad M.length q) (M ++ [(0, cj, mDef cj)]) = mkW z.2.1 ad M ++ [(q, .inr (cj, mDef cj))] := by
    rw [mkW_app hM]
    exact congrArg (fun y => mkW z.2.1 ad M ++ [(q, (.inr (cj, y) : va_E))]) (mDef_img _ cj)
  have h5 := kk (va_up ad M.length q) H1 locs ls (fun i hi => (hag i (by omega)).trans (h0 i hi)) (by rw [hw]; exact hP) (by rw [hw]; exact hD) hS (LH_ag hag h4 (fun i v hv => mOkL_lv hL hv))
  have e : (Value.ref M.length :: st).map (img (va_up ad M.length q)) = .ref q :: st.map (img ad) := by
    rw [List.map_cons, st_ag hag (fun v hv => mOkL_st hL hv)]
    exact congrArg (fun y => Value.ref y :: st.map (img ad)) (va_up_self ad M.length q)
  rw [e] at h5
  exact h5
end MST
