/-! THE SECOND MACHINE'S THINGS IN THE HEAP -/
/-- cells that a run of the law may write: those that it made -/
def AB (z : PP) : Nat → Prop := fun q => z.2.2.2 ≤ q
/-- where what was there before lies -/
def gkA (z : PP) (q : Nat) : Nat := z.2.2.1 (if q = 0 then 0 else 2000 + q)
def gadr (z : PP) (ad : Nat → Nat) : Nat ⊕ Nat → Nat
  | .inl i => ad i
  | .inr q => gkA z q
def gimg (f : Nat ⊕ Nat → Nat) : gPV → Value
  | .inl x => .int x
  | .inr (.inl x) => .long x
  | .inr (.inr r) => va_rf (r.map f)
def gEnc (z : PP) (ad : Nat → Nat) (t : gDT) : va_E := match t with
  | .inl (ci, vs) => .inr (ci, vs.map (gimg (gadr z ad)))
  | .inr (.inl (k, xs)) => .inl (z.2.1 k, xs.length, .inl fun j => xs.getD j 0)
  | .inr (.inr (.inl ls)) => .inl (z.2.1 4, ls.length, .inr (.inl fun j => ls.getD j 0))
  | .inr (.inr (.inr (key, rs))) => .inl (z.2.1 key, rs.length, .inr (.inr (.inr (.inr fun j => (rs.getD j none).map (gadr z ad)))))
def gmkW (z : PP) (ad : Nat → Nat) (M : List gDT) : va_W := M.zipIdx.map fun p => (ad p.2, gEnc z ad p.1)
def gW (z : PP) (h : PH) (ad : Nat → Nat) (M : List gDT) : va_W := wd z h ++ gmkW z ad M
theorem gmkW_get {z : PP} {ad : Nat → Nat} {M : List gDT} {i : Nat} : (gmkW z ad M)[i]? = M[i]?.map fun t => (ad i, gEnc z ad t) := by
  unfold gmkW
  rw [List.getElem?_map, List.getElem?_zipIdx]
  cases M[i]? with
  | none => rfl
  | some t => simp
theorem gmkW_len {z : PP} {ad : Nat → Nat} {M : List gDT} : (gmkW z ad M).length = M.length := by
  unfold gmkW
  rw [List.length_map, List.length_zipIdx]
theorem gW_get {z : PP} {h : PH} {ad : Nat → Nat} {M : List gDT} {i : Nat} {t : gDT} (hi : M[i]? = some t) : (gW z h ad M)[122 + i]? = some (ad i, gEnc z ad t) := by
  unfold gW
  rw [List.getElem?_append_right (by rw [wd_len]; omega), wd_len, show 122 + i - 122 = i by omega, gmkW_get, hi]
  rfl
theorem gW_set {z : PP} {h : PH} {ad : Nat → Nat} {M : List gDT} {t : gDT} {i : Nat} : (gW z h ad M).set (122 + i) (ad i, gEnc z ad t) = gW z h ad (M.set i t) := by
  unfold gW
  rw [List.set_append_right _ _ (by rw [wd_len]; omega), wd_len, show 122 + i - 122 = i by omega]
  congr 1
  apply List.ext_getElem?
  intro j
  rw [gmkW_get]
  by_cases e : i = j
  · subst e
    by_cases hl : i < M.length
    · rw [List.getElem?_set_self hl, List.getElem?_set_self (by rw [gmkW_len]; exact hl)]
      rfl
    · rw [List.getElem?_eq_none (by rw [List.length_set, gmkW_len]; omega), List.getElem?_eq_none (by rw [List.length_set]; omega)]
      rfl
  · rw [List.getElem?_set_ne e, List.getElem?_set_ne e, gmkW_get]
/-! references to what is there -/
def gvr (n : Nat) : gRF → Bool
  | some (.inl i) => Nat.blt i n
  | _ => true
def gvv (n : Nat) : gPV → Bool
  | .inr (.inr r) => gvr n r
  | _ => true
def gvo (n : Nat) : Option gPV → Bool
  | some v => gvv n v
  | none => true
def gbyt (x : Int32) : Bool := fits .byte (.int x)
def gvt (n : Nat) (t : gDT) : Bool := match t with
  | .inl (_, vs) => vs.all (gvv n)
  | .inr (.inl (k, xs)) => Nat.beq k 1 || (Nat.beq k 2 && xs.all gbyt)
  | .inr (.inr (.inl _)) => true
  | .inr (.inr (.inr (key, rs))) => (Nat.beq key 6 || Nat.beq key 41) && rs.all (gvr n)
def gvD (D : gDS) : Bool := D.1.all (gvt D.1.length)
theorem gvr_mono {n m : Nat} (h : n ≤ m) {r : gRF} (hr : gvr n r = true) : gvr m r = true := by
  unfold gvr at hr ⊢
  split at hr
  · exact Nat.ble_eq_true_of_le (by have := blt_of hr; omega)
  · rfl
theorem gvv_mono {n m : Nat} (h : n ≤ m) {v : gPV} (hv : gvv n v = true) : gvv m v = true := by
  unfold gvv at hv ⊢
  split at hv
  · exact gvr_mono h hv
  · rfl
theorem gvo_mono {n m : Nat} (h : n ≤ m) {v : Option gPV} (hv : gvo n v = true) : gvo m v = true := by
  cases v with
  | none => rfl
  | some v => exact gvv_mono h hv
theorem all_mono {α : Type} {p q : α → Bool} (h : ∀ x, p x = true → q x = true) {l : List α} (hl : l.all p = true) : l.all q = true :=
  List.all_eq_true.mpr fun x hx => h x (List.all_eq_true.mp hl x hx)
theorem gvt_mono {n m : Nat} (h : n ≤ m) {t : gDT} (ht : gvt n t = true) : gvt m t = true := by
  cases t with
  | inl o => exact all_mono (fun x => gvv_mono h) (show o.2.all (gvv n) = true from ht)
  | inr t => cases t with
    | inl o => exact ht
    | inr t => cases t with
      | inl o => rfl
      | inr o =>
        obtain ⟨key, rs⟩ := o
        have ht : ((Nat.beq key 6 || Nat.beq key 41) && rs.all (gvr n)) = true := ht
        obtain ⟨h1, h2⟩ := and2 ht
        show ((Nat.beq key 6 || Nat.beq key 41) && rs.all (gvr m)) = true
        rw [h1, all_mono (fun x => gvr_mono h) h2]
        rfl
theorem gimg_ag {f g : Nat ⊕ Nat → Nat} {n : Nat} (h0 : ∀ q, g (.inr q) = f (.inr q)) (h : ∀ i, i < n → g (.inl i) = f (.inl i)) {v : gPV} (hv : gvv n v = true) : gimg g v = gimg f v := by
  cases v with
  | inl x => rfl
  | inr v => cases v with
    | inl x => rfl
    | inr r => cases r with
      | none => rfl
      | some a => cases a with
        | inl i => exact congrArg (fun y => va_rf (some y)) (h i (blt_of hv))
        | inr q => exact congrArg (fun y => va_rf (some y)) (h0 q)
theorem grmap_ag {f g : Nat ⊕ Nat → Nat} {n : Nat} (h0 : ∀ q, g (.inr q) = f (.inr q)) (h : ∀ i, i < n → g (.inl i) = f (.inl i)) {r : gRF} (hv : gvr n r = true) : r.map g = r.map f := by
  cases r with
  | none => rfl
  | some a => cases a with
    | inl i => exact congrArg some (h i (blt_of hv))
    | inr q => exact congrArg some (h0 q)
theorem gEnc_ag {z : PP} {ad ad' : Nat → Nat} {n : Nat} (h : ∀ i, i < n → ad' i = ad i) {t : gDT} (ht : gvt n t = true) : gEnc z ad' t = gEnc z ad t := by
  have h1 : ∀ q, gadr z ad' (.inr q) = gadr z ad (.inr q) := fun q => rfl
  have h2 : ∀ i, i < n → gadr z ad' (.inl i) = gadr z ad (.inl i) := h
  cases t with
  | inl o =>
    obtain ⟨ci, vs⟩ := o
    show (Sum.inr (ci, vs.map _) : va_E) = .inr (ci, vs.map _)
    rw [List.map_congr_left fun v hv => gimg_ag h1 h2 (List.all_eq_true.mp ht v hv)]
  | inr t => cases t with
    | inl a => rfl
    | inr t => cases t with
      | inl a => rfl
      | inr a =>
        obtain ⟨key, rs⟩ := a
        show (Sum.inl (z.2.1 key, rs.length, .inr (.inr (.inr (.inr fun j => (rs.getD j none).map _)))) : va_E) = .inl (z.2.1 key, rs.length, .inr (.inr (.inr (.inr fun j => (rs.getD j none).map _))))
        have h3 : (fun j => (rs.getD j none).map (gadr z ad')) = fun j => (rs.getD j none).map (gadr z ad) := by
          funext j
          rw [List.getD_eq_getElem?_getD]
          cases hj : rs[j]? with
          | none => rfl
          | some r => exact grmap_ag h1 h2 (List.all_eq_true.mp (and2 (show ((Nat.beq key 6 || Nat.beq key 41) && rs.all (gvr n)) = true from ht)).2 r (List.mem_of_getElem? hj))
        rw [h3]
theorem gmkW_ag {z : PP} {ad ad' : Nat → Nat} {M : List gDT} {n : Nat} (h : ∀ i, i < n → ad' i = ad i) (hn : M.length ≤ n) (hM : M.all (gvt n) = true) : gmkW z ad' M = gmkW z ad M := by
  apply List.ext_getElem?
  intro i
  rw [gmkW_get, gmkW_get]
  cases hi : M[i]? with
  | none => rfl
  | some t =>
    have hl := (List.getElem?_eq_some_iff.mp hi).1
    show some (ad' i, gEnc z ad' t) = some (ad i, gEnc z ad t)
    rw [h i (by omega), gEnc_ag h (List.all_eq_true.mp hM t (List.mem_of_getElem? hi))]
theorem gmkW_app {z : PP} {ad : Nat → Nat} {M L : List gDT} : gmkW z ad (M ++ L) = gmkW z ad M ++ (L.zipIdx M.length).map (fun p => (ad p.2, gEnc z ad p.1)) := by
  unfold gmkW
  rw [List.zipIdx_append, List.map_append, Nat.zero_add]
/-- a thing more, at address q -/
theorem gW_push {z : PP} {h : PH} {ad : Nat → Nat} {M : List gDT} {t : gDT} {q : Nat} (hM : M.all (gvt M.length) = true) : gW z h (va_up ad M.length q) (M ++ [t]) = gW z h ad M ++ [(q, gEnc z (va_up ad M.length q) t)] := by
  unfold gW
  rw [gmkW_app, gmkW_ag (n := M.length) (fun i hi => va_up_ne ad q (Nat.ne_of_lt hi)) (Nat.le_refl _) hM, ← List.append_assoc]
  congr 1
  show [(va_up ad M.length q M.length, _)] = _
  rw [va_up_self]
/-! locals -/
def gLH (f : Nat ⊕ Nat → Nat) (ls : Array Slot) (nL : Nat) (lv : gLV) : Prop := ls.size = nL ∧ lv_wf ls ∧ ∀ (i : Nat) (v : gPV), ggo lv i = some v → ls[i]? = some (.val (gimg f v))
def gal (f : Nat ⊕ Nat → Nat) : Nat → gLV → List (Nat × Value)
  | _, [] => []
  | k, none :: t => gal f (k + 1) t
  | k, some v :: t => (k, gimg f v) :: gal f (k + 1) t
theorem gal_of {f : Nat ⊕ Nat → Nat} : ∀ {lv : gLV} {k : Nat} {q : Nat × Value}, q ∈ gal f k lv → ∃ i v, q = (k + i, gimg f v) ∧ ggo lv i = some v
  | [], _, _, h => by cases h
  | none :: t, k, q, h => by
    obtain ⟨i, v, e, g⟩ := gal_of (lv := t) (k := k + 1) h
    exact ⟨i + 1, v, by rw [e]; congr 1; omega, g⟩
  | some x :: t, k, q, h => by
    rcases List.mem_cons.mp h with rfl | h
    · exact ⟨0, x, rfl, rfl⟩
    · obtain ⟨i, v, e, g⟩ := gal_of (lv := t) (k := k + 1) h
      exact ⟨i + 1, v, by rw [e]; congr 1; omega, g⟩
theorem gal_to {f : Nat ⊕ Nat → Nat} : ∀ {lv : gLV} {k i : Nat} {v : gPV}, ggo lv i = some v → (k + i, gimg f v) ∈ gal f k lv
  | [], _, _, _, h => by cases h
  | none :: t, k, 0, v, h => by cases h
  | none :: t, k, i + 1, v, h => by
    have := gal_to (f := f) (k := k + 1) (show ggo t i = some v from h)
    rw [show k + 1 + i = k + (i + 1) by omega] at this
    exact this
  | some x :: t, k, 0, v, h => by
    cases h
    exact List.mem_cons_self
  | some x :: t, k, i + 1, v, h => by
    have := gal_to (f := f) (k := k + 1) (show ggo t i = some v from h)
    rw [show k + 1 + i = k + (i + 1) by omega] at this
    exact List.mem_cons_of_mem _ this
theorem gLH.has {f : Nat ⊕ Nat → Nat} {ls : Array Slot} {nL : Nat} {lv : gLV} (h : gLH f ls nL lv) : lv_has ls nL (gal f 0 lv) :=
  ⟨h.1, h.2.1, fun q hq => by
    obtain ⟨i, v, rfl, g⟩ := gal_of hq
    show ls[0 + i]? = _
    rw [Nat.zero_add]
    exact h.2.2 i v g⟩
theorem gmask_sub : ∀ {m : List Bool} {lv : gLV} {i : Nat} {v : gPV}, ggo (gmask m lv) i = some v → ggo lv i = some v
  | [], lv, i, v, h => by cases lv <;> cases h
  | true :: m, [], i, v, h => by cases h
  | false :: m, [], i, v, h => by cases h
  | true :: m, x :: t, 0, v, h => h
  | false :: m, x :: t, 0, v, h => by cases h
  | true :: m, x :: t, i + 1, v, h => gmask_sub (m := m) (lv := t) (i := i) h
  | false :: m, x :: t, i + 1, v, h => gmask_sub (m := m) (lv := t) (i := i) h
theorem ggo_mem : ∀ {lv : gLV} {i : Nat} {v : gPV}, ggo lv i = some v → some v ∈ lv
  | [], _, _, h => by cases h
  | x :: t, 0, v, h => by
    have h : x = some v := h
    rw [h]
    exact List.mem_cons_self
  | x :: t, i + 1, v, h => List.mem_cons_of_mem _ (ggo_mem (lv := t) (i := i) h)
theorem gput_of : ∀ {lv : gLV} {a i : Nat} {x : Option gPV} {v : gPV}, ggo (gput lv a x) i = some v → (i = a ∧ x = some v) ∨ (i ≠ a ∧ ggo lv i = some v)
  | [], _, _, _, _, h => by cases h
  | y :: t, 0, 0, x, v, h => Or.inl ⟨rfl, h⟩
  | y :: t, 0, i + 1, x, v, h => Or.inr ⟨by omega, h⟩
  | y :: t, a + 1, 0, x, v, h => Or.inr ⟨by omega, h⟩
  | y :: t, a + 1, i + 1, x, v, h => by
    rcases gput_of (lv := t) (a := a) (i := i) h with ⟨e, q⟩ | ⟨e, q⟩
    · exact Or.inl ⟨by omega, q⟩
    · exact Or.inr ⟨by omega, q⟩
theorem gimg_cat2 {f : Nat ⊕ Nat → Nat} {v : gPV} (h : (gimg f v).category = 2) : ∃ x, v = .inr (.inl x) := by
  cases v with
  | inl x => cases h
  | inr v => cases v with
    | inl x => exact ⟨x, rfl⟩
    | inr r => cases r <;> cases h
theorem gnl_no {lv : gLV} {a i : Nat} {v : gPV} (h : gnl lv a = true) (hi : i + 1 = a) (hv : ggo lv i = some v) (f : Nat ⊕ Nat → Nat) : (gimg f v).category ≠ 2 := by
  subst hi
  intro q
  obtain ⟨x, rfl⟩ := gimg_cat2 q
  have h1 : (match ggo lv i with
    | some (.inr (.inl _)) => false
    | _ => true) = true := h
  rw [hv] at h1
  cases h1
theorem gst1 {f : Nat ⊕ Nat → Nat} {ls ls' : Array Slot} {nL a : Nat} {lv : gLV} {x : gPV} (hl : gLH f ls nL lv) (hg : gnl lv a = true) (h2 : lv_has ls' nL ((a, gimg f x) :: (gal f 0 lv).filter (fun q => !(q.1 == a) && !(q.1 + 1 == a && q.2.category == 2)))) : gLH f ls' nL (gput lv a (some x)) := by
  refine ⟨h2.1, h2.2.1, fun i v g => ?_⟩
  rcases gput_of g with ⟨rfl, e⟩ | ⟨h3, h4⟩
  · cases e
    exact h2.2.2 _ List.mem_cons_self
  · refine h2.2.2 (i, gimg f v) (List.mem_cons_of_mem _ (List.mem_filter.mpr ⟨?_, ?_⟩))
    · have := gal_to (f := f) (k := 0) h4
      rw [Nat.zero_add] at this
      exact this
    · show (!(i == a) && !(i + 1 == a && (gimg f v).category == 2)) = true
      simp only [Bool.and_eq_true, Bool.not_eq_true', beq_eq_false_iff_ne, ne_eq, Bool.and_eq_false_iff]
      refine ⟨h3, ?_⟩
      by_cases q : i + 1 = a
      · exact Or.inr (gnl_no hg q h4 f)
      · exact Or.inl q
theorem gst2 {f : Nat ⊕ Nat → Nat} {ls ls' : Array Slot} {nL a : Nat} {lv : gLV} {x : gPV} (hl : gLH f ls nL lv) (hg : gnl lv a = true) (h2 : lv_has ls' nL ((a, gimg f x) :: (gal f 0 lv).filter (fun q => !(q.1 == a) && (!(q.1 == a + 1) && !(q.1 + 1 == a && q.2.category == 2))))) : gLH f ls' nL (gput (gput lv a (some x)) (a + 1) none) := by
  refine ⟨h2.1, h2.2.1, fun i v g => ?_⟩
  rcases gput_of g with ⟨_, e⟩ | ⟨h5, g⟩
  · cases e
  rcases gput_of g with ⟨rfl, e⟩ | ⟨h3, h4⟩
  · cases e
    exact h2.2.2 _ List.mem_cons_self
  · refine h2.2.2 (i, gimg f v) (List.mem_cons_of_mem _ (List.mem_filter.mpr ⟨?_, ?_⟩))
    · have := gal_to (f := f) (k := 0) h4
      rw [Nat.zero_add] at this
      exact this
    · show (!(i == a) && (!(i == a + 1) && !(i + 1 == a && (gimg f v).category == 2))) = true
      simp only [Bool.and_eq_true, Bool.not_eq_true', beq_eq_false_iff_ne, ne_eq, Bool.and_eq_false_iff]
      refine ⟨h3, h5, ?_⟩
      by_cases q : i + 1 = a
      · exact Or.inr (gnl_no hg q h4 f)
      · exact Or.inl q
theorem gLH_ag {f g : Nat ⊕ Nat → Nat} {n nL : Nat} {ls : Array Slot} {lv : gLV} (h0 : ∀ q, g (.inr q) = f (.inr q)) (h : ∀ i, i < n → g (.inl i) = f (.inl i)) (hl : gLH f ls nL lv) (hv : lv.all (gvo n) = true) : gLH g ls nL lv :=
  ⟨hl.1, hl.2.1, fun i v e => by rw [gimg_ag h0 h (show gvv n v = true from List.all_eq_true.mp hv _ (ggo_mem e))]; exact hl.2.2 i v e⟩
theorem gst_ag {f g : Nat ⊕ Nat → Nat} {n : Nat} {st : List gPV} (h0 : ∀ q, g (.inr q) = f (.inr q)) (h : ∀ i, i < n → g (.inl i) = f (.inl i)) (hv : st.all (gvv n) = true) : st.map (gimg g) = st.map (gimg f) :=
  List.map_congr_left fun v hx => gimg_ag h0 h (List.all_eq_true.mp hv v hx)
theorem gcat_eq (st : List gPV) (f : Nat ⊕ Nat → Nat) : ((st.map (gimg f)).map fun v => v.category).sum = gcat st := by
  induction st with
  | nil => rfl
  | cons v t ih =>
    rw [List.map_cons, List.map_cons, List.sum_cons, ih]
    cases v with
    | inl x => rfl
    | inr v => cases v with
      | inl x => rfl
      | inr r => cases r <;> rfl
