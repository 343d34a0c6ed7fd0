/-! A STEP OF THE PURE MACHINE IS A STEP OF THE MACHINE -/
def tyL (z : PP) : List (ClassId × FieldType) := [(z.2.1 1, .int), (z.2.1 2, .byte), (z.2.1 3, .boolean), (z.2.1 4, .long), (z.2.1 34, .object "WindyTours$Network"), (z.2.1 90, .object "WindyTours$Plan"), (z.2.1 6, .array .int), (z.2.1 41, .object "WindyToursLaw$City")]
def WF (z : PP) : Prop := (∀ i, i < 122 → A0 z (z.2.2.1 i)) ∧ (∀ i j, i < 122 → j < 122 → z.2.2.1 i = z.2.2.1 j → i = j) ∧ ¬ A0 z (z.2.2.1 167)
theorem wd_D {z : PP} (hw : WF z) (h : PH) : va_D (A0 z) (wd z h) := by
  have key : ∀ (k : Nat) (q : Nat × va_E), (wd z h)[k]? = some q → k < 122 ∧ q.1 = z.2.2.1 k := by
    intro k q hq
    have hk : k < 122 := by
      have := (List.getElem?_eq_some_iff.mp hq).1
      rw [wd_len] at this
      exact this
    rw [wd_get hk] at hq
    cases hq
    exact ⟨hk, rfl⟩
  refine ⟨fun i j p q hi hj e => ?_, fun k q hq => ?_⟩
  · obtain ⟨a, b⟩ := key i p hi
    obtain ⟨a', b'⟩ := key j q hj
    exact hw.2.1 i j a a' (by rw [← b, ← b', e])
  · obtain ⟨a, b⟩ := key k q hq
    rw [b]
    exact hw.1 k a
def scr (L : Nat) (xs : Nat → Int32) (h : PH) : Prop := (∀ j, h.1 167 j = xs j) ∧ h.1 168 0 = nI L
theorem scr_of {L : Nat} {xs : Nat → Int32} {h h' : PH} (q : scr L xs h) (a : h'.1 167 = h.1 167) (b : h'.1 168 = h.1 168) : scr L xs h' := ⟨fun j => by rw [a]; exact q.1 j, by rw [b]; exact q.2⟩
theorem bt {b : Bool} {α : Type} {x y : α} (h : (match b with | true => some x | false => none) = some y) : b = true ∧ x = y := by
  cases b with
  | true => exact ⟨rfl, Option.some.inj h⟩
  | false => cases h
theorem inb_in {i : Int32} {n : Nat} (h : inb i n = true) : vp_in i n := by
  unfold inb at h
  rw [Bool.and_eq_true, decide_eq_true_eq, decide_eq_true_eq] at h
  intro q
  rcases q with q | q
  · rw [Int32.lt_iff_toInt_lt] at q
    have := Int32.le_iff_toInt_le.mp h.1
    have h0 : (0 : Int32).toInt = 0 := rfl
    omega
  · omega
theorem catz_eq (st : List Value) (ad : Nat → Nat) : ((st.map (img ad)).map fun v => v.category).sum = catz st := by
  induction st with
  | nil => rfl
  | cons v t ih =>
    rw [List.map_cons, List.map_cons, List.sum_cons, ih, img_cat]
    cases v <;> rfl
/-- what is known of a body: the machine, the code, the words -/
def CX (k : Nat) (p : Program) (s : State) (m : MethodId) (args : Array Value) (c : Code) : Prop :=
  p.tables.exec = Jvm.exec ∧ c.code = ccOf k ∧ c.maxLocals = (miOf k).2.2.2.2 ∧ s.vm.findClass (ownN (clsOf k)) = some m.cls ∧ (∀ w ∈ gtbl, w.before args s = true)
def isNest (w : Cond) : Bool := match w with
  | .fieldLinkNest _ _ _ _ _ _ => true
  | .methodLinkNest _ _ _ _ => true
  | _ => false
/-- .. and of the world about it: classes, nest mates' words, the script -/
def WS (z : PP) (L : Nat) (xs : Nat → Int32) (s : State) : Prop :=
  va_K z.1 vwCl (tyL z) s ∧ (∀ w ∈ lw_tbl, isNest w = true → va_Nw w s) ∧ va_X (z.2.2.1 167) L xs s s.heap ∧ z.2.2.1 167 < s.heap.size
theorem bif_lt {α : Type} {q n : Nat} {x d y : α} (h : (bif Nat.blt q n then x else d) = y) (hd : d ≠ y) : q < n := by
  cases hb : Nat.blt q n with
  | true => exact Nat.le_of_ble_eq_true hb
  | false => rw [hb] at h; exact absurd h hd
theorem chkF_at {q ci b : Nat} {nest : Bool} (h : fres q = some (ci, b, nest)) : fW q ci b nest ∈ lw_tbl ∧ b < fN ci ∧ ci < 9 := by
  have hq : q < 9000 := by
    unfold fres at h
    exact bif_lt h (fun e => by cases e)
  have h1 := List.all_eq_true.mp chkF_all q (List.mem_range.mpr hq)
  unfold chkF at h1
  rw [h] at h1
  simp only [Bool.and_eq_true] at h1
  exact ⟨atT_in h1.1.1, Nat.le_of_ble_eq_true h1.1.2, Nat.le_of_ble_eq_true h1.2⟩
theorem chkMr_at {q k kind : Nat} (h : mres q = some (k, kind)) : chkMr q = true := by
  have hq : q < 10000 := by
    unfold mres at h
    exact bif_lt h (fun e => by cases e)
  have go : ∀ {n a : Nat}, (List.range n).all (fun i => chkMr (a + i)) = true → a ≤ q → q < a + n → chkMr q = true := by
    intro n a h h1 h2
    have h3 := List.all_eq_true.mp h (q - a) (List.mem_range.mpr (by omega))
    rw [show a + (q - a) = q by omega] at h3
    exact h3
  rcases Nat.lt_or_ge q 4000 with q1 | q1
  · exact List.all_eq_true.mp chkMr_all0 q (List.mem_range.mpr q1)
  rcases Nat.lt_or_ge q 7000 with q1 | q1
  · exact go chkMr_all1 (by omega) (by omega)
  rcases Nat.lt_or_ge q 8000 with q1 | q1
  · exact go chkMr_all2 (by omega) (by omega)
  exact go chkMr_all3 (by omega) (by omega)
theorem chkC_at {q : Nat} {v : Int32} (h : cres q = some v) : Cond.constant (ownN (q / 1000)) (q % 1000) v ∈ lw_tbl := by
  have hq : q < 10000 := by
    unfold cres at h
    exact bif_lt h (fun e => by cases e)
  have h1 := List.all_eq_true.mp chkC_all q (List.mem_range.mpr hq)
  unfold chkC at h1
  rw [h] at h1
  rw [Bool.and_eq_true] at h1
  exact atT_in h1.1
theorem chkL64_at {q : Nat} {v : Int64} (h : lres q = some v) : Cond.constantLong (ownN (q / 1000)) (q % 1000) v ∈ lw_tbl := by
  have hq : q < 10000 := by
    unfold lres at h
    exact bif_lt h (fun e => by cases e)
  have h1 := List.all_eq_true.mp chkC_all q (List.mem_range.mpr hq)
  unfold chkC at h1
  rw [h] at h1
  rw [Bool.and_eq_true] at h1
  exact atT_in h1.2
theorem mi_at {k pc : Nat} {e0 : PE} (h : (miOf k).1 pc = some e0) : k < 119 ∧ pc < lenOf k ∧ cdOf k pc = some e0 := by
  have h1 : (bif Nat.blt pc (lenOf k) then cdOf k pc else none) = some e0 := h
  cases hb : Nat.blt pc (lenOf k) with
  | false => rw [hb] at h1; cases h1
  | true =>
    rw [hb] at h1
    have hlt : pc < lenOf k := Nat.le_of_ble_eq_true hb
    refine ⟨?_, hlt, h1⟩
    rcases Nat.lt_or_ge k 119 with q | q
    · exact q
    · have h0 : Nat.blt k 119 = false := by
        cases hb : Nat.blt k 119 with
        | false => rfl
        | true => exact absurd (Nat.le_of_ble_eq_true hb) (by omega)
      have : lenOf k = 0 := by unfold lenOf; rw [h0]; rfl
      omega
theorem chkM_at {k : Nat} (hk : k < 119) : chkM k = true := by
  have go : ∀ {n a : Nat}, (List.range n).all (fun i => chkM (a + i)) = true → a ≤ k → k < a + n → chkM k = true := by
    intro n a h h1 h2
    have h3 := List.all_eq_true.mp h (k - a) (List.mem_range.mpr (by omega))
    rw [show a + (k - a) = k by omega] at h3
    exact h3
  rcases Nat.lt_or_ge k 10 with q | q
  · exact go chkM_0 (by omega) (by omega)
  rcases Nat.lt_or_ge k 20 with q | q
  · exact go chkM_1 (by omega) (by omega)
  rcases Nat.lt_or_ge k 30 with q | q
  · exact go chkM_2 (by omega) (by omega)
  rcases Nat.lt_or_ge k 40 with q | q
  · exact go chkM_3 (by omega) (by omega)
  rcases Nat.lt_or_ge k 50 with q | q
  · exact go chkM_4 (by omega) (by omega)
  rcases Nat.lt_or_ge k 60 with q | q
  · exact go chkM_5 (by omega) (by omega)
  rcases Nat.lt_or_ge k 70 with q | q
  · exact go chkM_6 (by omega) (by omega)
  rcases Nat.lt_or_ge k 80 with q | q
  · exact go chkM_7 (by omega) (by omega)
  rcases Nat.lt_or_ge k 90 with q | q
  · exact go chkM_8 (by omega) (by omega)
  rcases Nat.lt_or_ge k 100 with q | q
  · exact go chkM_9 (by omega) (by omega)
  rcases Nat.lt_or_ge k 110 with q | q
  · exact go chkM_10 (by omega) (by omega)
  exact go chkM_11 (by omega) (by omega)
theorem chkE_at {k pc : Nat} {e0 : PE} (h : (miOf k).1 pc = some e0) : chkE k pc e0 = true := by
  obtain ⟨h1, h2, -⟩ := mi_at h
  have h3 := List.all_eq_true.mp (show (List.range (lenOf k)).all (fun pc => match (miOf k).1 pc with
    | none => true
    | some e => chkE k pc e) = true from chkM_at h1) pc (List.mem_range.mpr h2)
  rw [h] at h3
  exact h3
section STP
variable {p : Program} {l : Launch} {e : Env} {R : Room} {s : State} {m : MethodId} {args : Array Value} {below : List Frame} {meth : Method} {c : Code} {Q : State → Prop} {cells slots : Nat}
variable {z : PP} {k L : Nat} {xs : Nat → Int32} {pc nx a b t : Nat} {v : Int32} {w : Int64} {lv lv' : PL} {st st' : List Value} {h h' : PH} {pc' : Nat} {H : Heap} {locs : List Loc} {ls : Array Slot}
/-- the goal of a step, and what it may use -/
def StepGoal (p : Program) (l : Launch) (e : Env) (R : Room) (s : State) (m : MethodId) (args : Array Value) (below : List Frame) (meth : Method) (c : Code) (cells slots : Nat) (Q : State → Prop) (z : PP) (k L : Nat) (xs : Nat → Int32) (pc : Nat) (lv : PL) (st : List Value) (h : PH) : Prop :=
  ∀ (H : Heap) (locs : List Loc) (ls : Array Slot), va_P z.1 vwCl (wd z h) H → va_S (A0 z) s.heap H locs → scr L xs h → LH z.2.2.1 ls (miOf k).2.2.2.2 lv →
    W p l e R s m args below meth c H locs cells slots Q (F0 m pc ls (st.map (img z.2.2.1)))
theorem st_store1 {ad : Nat → Nat} {nL : Nat} {x : Value} (hl : LH ad ls nL lv) (hs : ∀ i w, lgo lv' i = some w → (i = a ∧ w = x) ∨ (i ≠ a ∧ lgo lv i = some w ∧ ¬ (i + 1 = a ∧ w.category = 2))) {ls' : Array Slot} (h2 : lv_has ls' nL ((a, img ad x) :: (al ad 0 lv).filter (fun q => !(q.1 == a) && !(q.1 + 1 == a && q.2.category == 2)))) : LH ad ls' nL lv' := by
  refine ⟨h2.1, h2.2.1, fun i v g => ?_⟩
  rcases hs i v g with ⟨rfl, rfl⟩ | ⟨h3, h4, h5⟩
  · exact h2.2.2 _ List.mem_cons_self
  · refine h2.2.2 (i, img ad v) (List.mem_cons_of_mem _ (List.mem_filter.mpr ⟨?_, ?_⟩))
    · have := al_to (ad := ad) (k := 0) h4
      rw [Nat.zero_add] at this
      exact this
    · show (!(i == a) && !(i + 1 == a && (img ad v).category == 2)) = true
      rw [img_cat]
      simp only [Bool.and_eq_true, Bool.not_eq_true', beq_eq_false_iff_ne, ne_eq, Bool.and_eq_false_iff]
      refine ⟨h3, ?_⟩
      by_cases q : i + 1 = a
      · exact Or.inr fun q2 => h5 ⟨q, q2⟩
      · exact Or.inl q
theorem st_store2 {ad : Nat → Nat} {nL : Nat} {x : Value} (hl : LH ad ls nL lv) (hs : ∀ i w, lgo lv' i = some w → (i = a ∧ w = x) ∨ (i ≠ a ∧ i ≠ a + 1 ∧ lgo lv i = some w ∧ ¬ (i + 1 = a ∧ w.category = 2))) {ls' : Array Slot} (h2 : lv_has ls' nL ((a, img ad x) :: (al ad 0 lv).filter (fun q => !(q.1 == a) && (!(q.1 == a + 1) && !(q.1 + 1 == a && q.2.category == 2))))) : LH ad ls' nL lv' := by
  refine ⟨h2.1, h2.2.1, fun i v g => ?_⟩
  rcases hs i v g with ⟨rfl, rfl⟩ | ⟨h3, h3b, h4, h5⟩
  · exact h2.2.2 _ List.mem_cons_self
  · refine h2.2.2 (i, img ad v) (List.mem_cons_of_mem _ (List.mem_filter.mpr ⟨?_, ?_⟩))
    · have := al_to (ad := ad) (k := 0) h4
      rw [Nat.zero_add] at this
      exact this
    · show (!(i == a) && (!(i == a + 1) && !(i + 1 == a && (img ad v).category == 2))) = true
      rw [img_cat]
      simp only [Bool.and_eq_true, Bool.not_eq_true', beq_eq_false_iff_ne, ne_eq, Bool.and_eq_false_iff]
      refine ⟨h3, h3b, ?_⟩
      by_cases q : i + 1 = a
      · exact Or.inr fun q2 => h5 ⟨q, q2⟩
      · exact Or.inl q
end STP
