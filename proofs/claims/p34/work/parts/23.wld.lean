/-! THE PURE MACHINE'S THINGS IN THE HEAP -/
/-- a place: the classes' numbers and slots, the arrays' classes, the things' addresses, where the run's own cells begin -/
abbrev PP : Type := va_G × (Nat → Nat) × (Nat → Nat) × Nat
def img (ad : Nat → Nat) : Value → Value
  | .ref a => .ref (ad a)
  | v => v
theorem img_cat (ad : Nat → Nat) (v : Value) : (img ad v).category = v.category := by cases v <;> rfl
def A0 (z : PP) : Nat → Prop := fun q => ∃ i, i < 122 ∧ q = z.2.2.1 i
def flds (ad : Nat → Nat) (f : Nat → Int32) : List (Option Nat) → Nat → List Value
  | [], _ => []
  | none :: t, k => .int (f k) :: flds ad f t (k + 1)
  | some j :: t, k => .ref (ad j) :: flds ad f t (k + 1)
def encR (z : PP) (f : Nat → Int32) (g : Nat → Int64) (o : LO) : va_E :=
  match o with
  | (0, ci, fs) => .inr (ci, flds z.2.2.1 f fs 0)
  | (1, n, _) => .inl (z.2.1 1, n, .inl f)
  | (2, n, _) => .inl (z.2.1 2, n, .inl f)
  | (3, n, _) => .inl (z.2.1 3, n, .inl f)
  | (4, n, _) => .inl (z.2.1 4, n, .inr (.inl g))
  | (5, n, [some q, some d]) => .inl (z.2.1 q, n, .inr (.inr (.inr (.inr (fun j => some (z.2.2.1 (q + d * j)))))))
  | (6, n, [some q, some d]) => .inl (z.2.1 6, n, .inr (.inr (.inr (.inr (fun j => some (z.2.2.1 (q + d * j)))))))
  | _ => .inr (99, [])
def encE (z : PP) (h : PH) (i : Nat) : va_E := encR z (h.1 i) (h.2 i) (layF i)
def wd (z : PP) (h : PH) : va_W := (List.range 122).map fun i => (z.2.2.1 i, encE z h i)
theorem wd_get {z : PP} {h : PH} {i : Nat} (hi : i < 122) : (wd z h)[i]? = some (z.2.2.1 i, encE z h i) := by
  unfold wd
  rw [List.getElem?_map, List.getElem?_range hi]
  rfl
theorem wd_len (z : PP) (h : PH) : (wd z h).length = 122 := by unfold wd; rw [List.length_map, List.length_range]
theorem lay_out {r : Nat} (q : 168 ≤ r) : layF r = (9, 0, []) := by
  have h0 : Nat.blt r 168 = false := by
    cases hb : Nat.blt r 168 with
    | false => rfl
    | true => exact absurd (Nat.le_of_ble_eq_true hb) (by omega)
  unfold layF
  rw [h0]
  rfl
theorem lay_lt {r t n : Nat} {fs : List (Option Nat)} (hl : layF r = (t, n, fs)) (h7 : t ≠ 7) (h9 : t ≠ 9) : r < 122 := by
  have h : ∀ r, r < 168 → (layF r).1 = 7 ∨ (layF r).1 = 9 ∨ r < 122 := by decide +kernel
  rcases Nat.lt_or_ge r 168 with q | q
  · rcases h r q with q2 | q2 | q2
    · rw [hl] at q2
      exact absurd q2 h7
    · rw [hl] at q2
      exact absurd q2 h9
    · exact q2
  · rw [lay_out q] at hl
    cases hl
    exact absurd rfl h9
theorem lay_c {r ci : Nat} {fs : List (Option Nat)} (hl : layF r = (0, ci, fs)) : ci < 9 := by
  have h : ∀ r, r < 168 → (layF r).1 = 0 → (layF r).2.1 < 9 := by decide +kernel
  rcases Nat.lt_or_ge r 168 with q | q
  · have := h r q (by rw [hl])
    rw [hl] at this
    exact this
  · rw [lay_out q] at hl
    cases hl
theorem lay_7 {r n : Nat} {fs : List (Option Nat)} (hl : layF r = (7, n, fs)) : r = 167 := by
  have h : ∀ r, r < 168 → (layF r).1 = 7 → r = 167 := by decide +kernel
  rcases Nat.lt_or_ge r 168 with q | q
  · exact h r q (by rw [hl])
  · rw [lay_out q] at hl
    cases hl
/-- a changed thing, the others as they were -/
theorem wd_upd {z : PP} {h h' : PH} {i : Nat} {ee : va_E} (hi : i < 122) (he : encE z h' i = ee) (ho : ∀ j, j ≠ i → h'.1 j = h.1 j ∧ h'.2 j = h.2 j) : (wd z h).set i (z.2.2.1 i, ee) = wd z h' := by
  apply List.ext_getElem?
  intro j
  by_cases hj : j < 122
  · rw [wd_get hj]
    by_cases e : i = j
    · subst e
      rw [List.getElem?_set_self (by rw [wd_len]; exact hi), he]
    · rw [List.getElem?_set_ne e, wd_get hj]
      obtain ⟨a, b⟩ := ho j (fun q => e q.symm)
      unfold encE
      rw [a, b]
  · rw [List.getElem?_eq_none (by rw [List.length_set, wd_len]; omega), List.getElem?_eq_none (by rw [wd_len]; omega)]
theorem pu_at (h : PH) (i j : Nat) (v : Int32) : (pu h i j v).1 i = upd (h.1 i) j v := by
  have e : (pu h i j v).1 i = fun k => if k = j then v else h.1 i k := if_pos rfl
  rw [e]
  rfl
theorem pu_o (h : PH) (i j : Nat) (v : Int32) (a : Nat) (q : a ≠ i) : (pu h i j v).1 a = h.1 a ∧ (pu h i j v).2 a = h.2 a := ⟨if_neg q, rfl⟩
theorem pul_at (h : PH) (i j : Nat) (v : Int64) : (pul h i j v).2 i = vp_updL (h.2 i) j v := by
  have e : (pul h i j v).2 i = fun k => if k = j then v else h.2 i k := if_pos rfl
  rw [e]
  rfl
theorem pul_o (h : PH) (i j : Nat) (v : Int64) (a : Nat) (q : a ≠ i) : (pul h i j v).1 a = h.1 a ∧ (pul h i j v).2 a = h.2 a := ⟨rfl, if_neg q⟩
theorem flds_get {ad : Nat → Nat} {f : Nat → Int32} : ∀ {fs : List (Option Nat)} {k b : Nat} {x : Option Nat}, lgf fs b = some x → (flds ad f fs k)[b]? = some (match x with | none => Value.int (f (k + b)) | some j => Value.ref (ad j))
  | [], _, _, _, h => by cases h
  | none :: t, k, 0, x, h => by cases h; rfl
  | some j :: t, k, 0, x, h => by cases h; rfl
  | none :: t, k, b + 1, x, h => by
    have := flds_get (ad := ad) (f := f) (k := k + 1) (show lgf t b = some x from h)
    rw [show k + 1 + b = k + (b + 1) by omega] at this
    exact this
  | some j :: t, k, b + 1, x, h => by
    have := flds_get (ad := ad) (f := f) (k := k + 1) (show lgf t b = some x from h)
    rw [show k + 1 + b = k + (b + 1) by omega] at this
    exact this
theorem flds_far {ad : Nat → Nat} {f : Nat → Int32} {v : Int32} {i : Nat} : ∀ {fs : List (Option Nat)} {k : Nat}, i < k → flds ad f fs k = flds ad (upd f i v) fs k
  | [], _, _ => rfl
  | none :: t, k, h => by
    show Value.int (f k) :: _ = Value.int (upd f i v k) :: _
    rw [show upd f i v k = f k from if_neg (by omega), flds_far (show i < k + 1 by omega)]
  | some j :: t, k, h => by
    show Value.ref (ad j) :: _ = Value.ref (ad j) :: _
    rw [flds_far (show i < k + 1 by omega)]
theorem flds_set {ad : Nat → Nat} {f : Nat → Int32} {v : Int32} : ∀ {fs : List (Option Nat)} {k b : Nat}, lgf fs b = some none → (flds ad f fs k).set b (.int v) = flds ad (upd f (k + b) v) fs k
  | [], _, _, h => by cases h
  | none :: t, k, 0, h => by
    show Value.int v :: flds ad f t (k + 1) = Value.int (upd f (k + 0) v k) :: flds ad (upd f (k + 0) v) t (k + 1)
    rw [show upd f (k + 0) v k = v from if_pos rfl, ← flds_far (ad := ad) (f := f) (v := v) (i := k + 0) (fs := t) (show k + 0 < k + 1 by omega)]
  | some j :: t, k, 0, h => by cases h
  | none :: t, k, b + 1, h => by
    show Value.int (f k) :: (flds ad f t (k + 1)).set b (.int v) = Value.int (upd f (k + (b + 1)) v k) :: flds ad (upd f (k + (b + 1)) v) t (k + 1)
    rw [flds_set (show lgf t b = some none from h), show upd f (k + (b + 1)) v k = f k from if_neg (by omega), show k + 1 + b = k + (b + 1) by omega]
  | some j :: t, k, b + 1, h => by
    show Value.ref (ad j) :: (flds ad f t (k + 1)).set b (.int v) = Value.ref (ad j) :: flds ad (upd f (k + (b + 1)) v) t (k + 1)
    rw [flds_set (show lgf t b = some none from h), show k + 1 + b = k + (b + 1) by omega]
/-- locals -/
def LH (ad : Nat → Nat) (ls : Array Slot) (nL : Nat) (lv : PL) : Prop := ls.size = nL ∧ lv_wf ls ∧ ∀ (i : Nat) (v : Value), lgo lv i = some v → ls[i]? = some (.val (img ad v))
def al (ad : Nat → Nat) : Nat → PL → List (Nat × Value)
  | _, [] => []
  | k, none :: t => al ad (k + 1) t
  | k, some v :: t => (k, img ad v) :: al ad (k + 1) t
theorem al_of {ad : Nat → Nat} : ∀ {lv : PL} {k : Nat} {q : Nat × Value}, q ∈ al ad k lv → ∃ i v, q = (k + i, img ad v) ∧ lgo lv i = some v
  | [], _, _, h => by cases h
  | none :: t, k, q, h => by
    obtain ⟨i, v, e, g⟩ := al_of (lv := t) (k := k + 1) h
    exact ⟨i + 1, v, by rw [e]; congr 1; omega, g⟩
  | some x :: t, k, q, h => by
    rcases List.mem_cons.mp h with rfl | h
    · exact ⟨0, x, rfl, rfl⟩
    · obtain ⟨i, v, e, g⟩ := al_of (lv := t) (k := k + 1) h
      exact ⟨i + 1, v, by rw [e]; congr 1; omega, g⟩
theorem al_to {ad : Nat → Nat} : ∀ {lv : PL} {k i : Nat} {v : Value}, lgo lv i = some v → (k + i, img ad v) ∈ al ad k lv
  | [], _, _, _, h => by cases h
  | none :: t, k, 0, v, h => by cases h
  | none :: t, k, i + 1, v, h => by
    have := al_to (ad := ad) (k := k + 1) (show lgo t i = some v from h)
    rw [show k + 1 + i = k + (i + 1) by omega] at this
    exact this
  | some x :: t, k, 0, v, h => by
    cases h
    exact List.mem_cons_self
  | some x :: t, k, i + 1, v, h => by
    have := al_to (ad := ad) (k := k + 1) (show lgo t i = some v from h)
    rw [show k + 1 + i = k + (i + 1) by omega] at this
    exact List.mem_cons_of_mem _ this
theorem LH.has {ad : Nat → Nat} {ls : Array Slot} {nL : Nat} {lv : PL} (h : LH ad ls nL lv) : lv_has ls nL (al ad 0 lv) :=
  ⟨h.1, h.2.1, fun q hq => by
    obtain ⟨i, v, rfl, g⟩ := al_of hq
    show ls[0 + i]? = _
    rw [Nat.zero_add]
    exact h.2.2 i v g⟩
theorem LH.sub {ad : Nat → Nat} {ls : Array Slot} {nL : Nat} {lv lv' : PL} (h : LH ad ls nL lv) (hs : ∀ i v, lgo lv' i = some v → lgo lv i = some v) : LH ad ls nL lv' := ⟨h.1, h.2.1, fun i v g => h.2.2 i v (hs i v g)⟩
theorem lmask_sub : ∀ {m : List Bool} {lv : PL} {i : Nat} {v : Value}, lgo (lmask m lv) i = some v → lgo lv i = some v
  | [], lv, i, v, h => by cases lv <;> cases h
  | true :: m, [], i, v, h => by cases h
  | false :: m, [], i, v, h => by cases h
  | true :: m, x :: t, 0, v, h => h
  | false :: m, x :: t, 0, v, h => by cases h
  | true :: m, x :: t, i + 1, v, h => lmask_sub (m := m) (lv := t) (i := i) h
  | false :: m, x :: t, i + 1, v, h => lmask_sub (m := m) (lv := t) (i := i) h
set_option maxHeartbeats 4000000 in
theorem ls1_spec {α : Type} {lv : PL} {a : Nat} {v : Value} {k : PL → Option α} {z : α} (h : ls1 lv a v k = some z) : ∃ lv', k lv' = some z ∧ ∀ i w, lgo lv' i = some w → (i = a ∧ w = v) ∨ (i ≠ a ∧ lgo lv i = some w ∧ ¬ (i + 1 = a ∧ w.category = 2)) := by
  unfold ls1 at h
  split at h
  all_goals first
    | (cases h; done)
    | (refine ⟨_, h, ?_⟩
       intro i w hw
       rcases i with _ | _ | _ | _ | _ | _ | _ | _ | _ | i <;> simp_all [lgo, Value.category] <;> (try (cases w <;> simp_all)))
set_option maxHeartbeats 4000000 in
theorem ls2_spec {α : Type} {lv : PL} {a : Nat} {v : Value} {k : PL → Option α} {z : α} (h : ls2 lv a v k = some z) : ∃ lv', k lv' = some z ∧ ∀ i w, lgo lv' i = some w → (i = a ∧ w = v) ∨ (i ≠ a ∧ i ≠ a + 1 ∧ lgo lv i = some w ∧ ¬ (i + 1 = a ∧ w.category = 2)) := by
  unfold ls2 at h
  split at h
  all_goals first
    | (cases h; done)
    | (refine ⟨_, h, ?_⟩
       intro i w hw
       rcases i with _ | _ | _ | _ | _ | _ | _ | _ | _ | i <;> simp_all [lgo, Value.category] <;> (try (cases w <;> simp_all)))
