/-! A STEP OF THE SECOND MACHINE keeps to what is there, and only adds: written by wip/p34/geninv2.py -/
def gInv (D : gDS) (lv : gLV) (st : List gPV) : Prop := gvD D = true ∧ lv.all (gvo D.1.length) = true ∧ st.all (gvv D.1.length) = true
def gGr (D D' : gDS) : Prop := D.1.length ≤ D'.1.length ∧ D.2.1 ≤ D'.2.1 ∧ D.2.2 ≤ D'.2.2
theorem gGr.rf (D : gDS) : gGr D D := ⟨Nat.le_refl _, Nat.le_refl _, Nat.le_refl _⟩
theorem gGr.tr {A B C : gDS} (h : gGr A B) (k : gGr B C) : gGr A C := ⟨Nat.le_trans h.1 k.1, Nat.le_trans h.2.1 k.2.1, Nat.le_trans h.2.2 k.2.2⟩
def gOut (D : gDS) (R : Nat × gLV × List gPV × gST) : Prop := gInv R.2.2.2.2 R.2.1 R.2.2.1 ∧ gGr D R.2.2.2.2
theorem va1 {α : Type} {p : α → Bool} {x : α} {r : List α} (h : (x :: r).all p = true) : p x = true ∧ r.all p = true := by
  rw [List.all_cons, Bool.and_eq_true] at h
  exact h
theorem vc1 {α : Type} {p : α → Bool} {x : α} {r : List α} (h1 : p x = true) (h2 : r.all p = true) : (x :: r).all p = true := by
  rw [List.all_cons, h1, h2]
  rfl
theorem vput {n : Nat} {x : Option gPV} (hx : gvo n x = true) : ∀ {lv : gLV} {a : Nat}, lv.all (gvo n) = true → (gput lv a x).all (gvo n) = true
  | [], _, _ => rfl
  | _ :: t, 0, h => vc1 hx (va1 h).2
  | y :: t, a + 1, h => vc1 (va1 h).1 (vput hx (va1 h).2)
theorem vget {n a : Nat} {lv : gLV} {v : gPV} (h : lv.all (gvo n) = true) (e : ggo lv a = some v) : gvv n v = true := List.all_eq_true.mp h _ (ggo_mem e)
theorem bic {α : Type} {b : Bool} {x : Option α} {z : α} (h : (bif b then x else none) = some z) : b = true ∧ x = some z := by
  cases b with
  | true => exact ⟨rfl, h⟩
  | false => cases h
theorem mp2 {α β : Type} {y : Option α} {f : α → β} {R : β} (h : y.map f = some R) : ∃ z, y = some z ∧ f z = R := Option.map_eq_some_iff.mp h
/-- what a changed thing keeps -/
def gKp (D D' : gDS) : Prop := gvD D' = true ∧ D'.1.length = D.1.length ∧ D'.2 = D.2
theorem vset {D : gDS} {i : Nat} {t : gDT} (hD : gvD D = true) (ht : gvt D.1.length t = true) : gKp D (gSet D i t) := by
  refine ⟨?_, List.length_set .., rfl⟩
  unfold gvD gSet
  rw [List.length_set]
  refine List.all_eq_true.mpr fun y hy => ?_
  rcases List.mem_or_eq_of_mem_set hy with q | q
  · exact List.all_eq_true.mp hD y q
  · rw [q]; exact ht
theorem vthing {D : gDS} {i : Nat} {t : gDT} (hD : gvD D = true) (h : D.1[i]? = some t) : gvt D.1.length t = true := List.all_eq_true.mp hD t (List.mem_of_getElem? h)
theorem all_set {α : Type} {p : α → Bool} {l : List α} {j : Nat} {x : α} (h : l.all p = true) (hx : p x = true) : (l.set j x).all p = true := by
  refine List.all_eq_true.mpr fun y hy => ?_
  rcases List.mem_or_eq_of_mem_set hy with q | q
  · exact List.all_eq_true.mp h y q
  · rw [q]; exact hx
theorem vFld {D : gDS} {r : gRF} {ci b : Nat} {z : gPV} (hD : gvD D = true) (h : gFld D r ci b = some z) : gvv D.1.length z = true := by
  unfold gFld at h
  split at h
  · split at h
    · rename_i i cj vs heq
      obtain ⟨-, h⟩ := bic h
      exact List.all_eq_true.mp (show vs.all (gvv D.1.length) = true from vthing hD heq) z (List.mem_of_getElem? h)
    · cases h
  · unfold gkF at h
    obtain ⟨-, h⟩ := bic h
    split at h
    · cases h; rfl
    · cases h; rfl
    · cases h
  · cases h
theorem vFr {D : gDS} {r : gRF} {ci b : Nat} {z : gRF} (hD : gvD D = true) (h : gFr D r ci b = some z) : gvr D.1.length z = true := by
  unfold gFr at h
  split at h
  · rename_i x heq
    cases h
    exact vFld hD heq
  · cases h
theorem vQs {D : gDS} {r : gRF} {p : Nat × List gRF} (hD : gvD D = true) (h : gQs D r = some p) : p.2.all (gvr D.1.length) = true := by
  unfold gQs at h
  split at h
  · split at h
    · rename_i i p' heq
      cases h
      exact (and2 (show ((Nat.beq p.1 6 || Nat.beq p.1 41) && p.2.all (gvr D.1.length)) = true from vthing hD heq)).2
    · cases h
  · unfold gkQ at h
    obtain ⟨-, h⟩ := bic h
    cases h
    rfl
  · cases h
theorem vgetD {n : Nat} {l : List gRF} (h : l.all (gvr n) = true) (j : Nat) : gvr n (l.getD j none) = true := by
  rw [List.getD_eq_getElem?_getD]
  cases hj : l[j]? with
  | none => rfl
  | some x => exact List.all_eq_true.mp h x (List.mem_of_getElem? hj)
theorem vQld {D : gDS} {r : gRF} {i : Int32} {z : gRF} (hD : gvD D = true) (h : gQld D r i = some z) : gvr D.1.length z = true := by
  unfold gQld at h
  obtain ⟨p, h1, h2⟩ := Option.bind_eq_some_iff.mp h
  obtain ⟨j, h3, h4⟩ := Option.bind_eq_some_iff.mp h2
  cases h4
  exact vgetD (vQs hD h1) j
theorem vFst {D D' : gDS} {r : gRF} {ci b : Nat} {v : gPV} (hD : gvD D = true) (hv : gvv D.1.length v = true) (h : gFst D r ci b v = some D') : gKp D D' := by
  unfold gFst at h
  split at h
  · split at h
    · rename_i i cj vs heq
      obtain ⟨-, h⟩ := bic h
      cases h
      exact vset hD (all_set (vthing hD heq) hv)
    · cases h
  · cases h
theorem vFsN {D D' : gDS} {r : gRF} {ci b : Nat} {x : Int32} (hD : gvD D = true) (h : gFsN D r ci b x = some D') : gKp D D' := by
  unfold gFsN at h
  obtain ⟨z, -, h2⟩ := Option.bind_eq_some_iff.mp h
  exact vFst hD rfl h2
theorem gvt_i {n k : Nat} {xs : List Int32} (h : gvt n (.inr (.inl (k, xs))) = true) : k = 1 ∨ (k = 2 ∧ xs.all gbyt = true) := by
  have h : (Nat.beq k 1 || (Nat.beq k 2 && xs.all gbyt)) = true := h
  rw [Bool.or_eq_true, Bool.and_eq_true] at h
  rcases h with h | h
  · exact Or.inl (Nat.eq_of_beq_eq_true h)
  · exact Or.inr ⟨Nat.eq_of_beq_eq_true h.1, h.2⟩
theorem gvt_1 {n : Nat} {xs : List Int32} : gvt n (.inr (.inl (1, xs))) = true := rfl
theorem gvt_2 {n : Nat} {xs : List Int32} (h : xs.all gbyt = true) : gvt n (.inr (.inl (2, xs))) = true := by
  show (Nat.beq 2 1 || (Nat.beq 2 2 && xs.all gbyt)) = true
  rw [h]
  rfl
theorem gbyt_nar (x : Int32) : gbyt (vp_nar .byte x) = true := by
  show ((decide ((-128 : Int32) ≤ x.toInt8.toInt32)) && decide (x.toInt8.toInt32 ≤ 127)) = true
  have h1 := Int8.toInt_lt x.toInt8
  have h2 := Int8.le_toInt x.toInt8
  have h3 : (x.toInt8.toInt32).toInt = x.toInt8.toInt := Int8.toInt_toInt32 _
  rw [Bool.and_eq_true, decide_eq_true_eq, decide_eq_true_eq, Int32.le_iff_toInt_le, Int32.le_iff_toInt_le, h3]
  rw [show (-128 : Int32).toInt = -128 from rfl, show (127 : Int32).toInt = 127 from rfl]
  omega
theorem gkB_byt {q : Nat} {ys : List Int32} (h : gkB q = some ys) : ys.all gbyt = true := by
  have key : ∀ q, q < 43 → (match gkB q with
    | some ys => ys.all gbyt
    | none => true) = true := by decide +kernel
  rcases Nat.lt_or_ge q 43 with q0 | q0
  · have := key q q0
    rw [h] at this
    exact this
  · exfalso
    unfold gkB at h
    have h3 : Nat.beq q 3 = false := by
      cases hb : Nat.beq q 3 with
      | false => rfl
      | true => have := Nat.eq_of_beq_eq_true hb; omega
    have h4 : Nat.beq q 4 = false := by
      cases hb : Nat.beq q 4 with
      | false => rfl
      | true => have := Nat.eq_of_beq_eq_true hb; omega
    have h11 : Nat.blt q 11 = false := by
      cases hb : Nat.blt q 11 with
      | false => rfl
      | true => have := blt_of hb; omega
    have hks : gkS (q - 1) = false := by
      unfold gkS
      have : Nat.blt (q - 1) 42 = false := by
        cases hb : Nat.blt (q - 1) 42 with
        | false => rfl
        | true => have := blt_of hb; omega
      rw [this, Bool.false_and, Bool.and_false]
    rw [h3, h4, h11, hks] at h
    cases h
theorem vInt {D : gDS} {r : gRF} {ys : List Int32} (hD : gvD D = true) (h : gInt D r 2 = some ys) : ys.all gbyt = true := by
  unfold gInt at h
  split at h
  · split at h
    · rename_i i k' xs heq
      obtain ⟨hc, h⟩ := bic h
      cases h
      obtain rfl : k' = 2 := Nat.eq_of_beq_eq_true hc
      rcases gvt_i (vthing hD heq) with q | q
      · cases q
      · exact q.2
    · cases h
  · obtain ⟨-, h⟩ := bic h
    exact gkB_byt h
  · cases h
theorem vIst {D D' : gDS} {r : gRF} {k : Nat} {i x : Int32} (hD : gvD D = true) (hx : k = 1 ∨ gbyt x = true) (h : gIst D r k i x = some D') : gKp D D' := by
  unfold gIst at h
  split at h
  · split at h
    · rename_i a k' xs heq
      obtain ⟨hc, h1⟩ := bic h
      clear h
      obtain rfl : k' = k := Nat.eq_of_beq_eq_true hc
      obtain ⟨j, -, h2⟩ := Option.bind_eq_some_iff.mp h1
      cases h2
      refine vset hD ?_
      rcases gvt_i (vthing hD heq) with rfl | ⟨rfl, q⟩
      · rfl
      · rcases hx with hx | hx
        · cases hx
        · exact gvt_2 (all_set q hx)
    · cases h
  · cases h
theorem vJst {D D' : gDS} {r : gRF} {i : Int32} {x : Int64} (hD : gvD D = true) (h : gJst D r i x = some D') : gKp D D' := by
  unfold gJst at h
  split at h
  · split at h
    · obtain ⟨j, -, h2⟩ := Option.bind_eq_some_iff.mp h
      cases h2
      exact vset hD rfl
    · cases h
  · cases h
theorem vQst {D D' : gDS} {r : gRF} {i : Int32} {x : gRF} (hD : gvD D = true) (hx : gvr D.1.length x = true) (h : gQst D r i x = some D') : gKp D D' := by
  unfold gQst at h
  split at h
  · split at h
    · rename_i a key xs heq
      obtain ⟨-, h⟩ := bic h
      obtain ⟨j, -, h2⟩ := Option.bind_eq_some_iff.mp h
      cases h2
      have h5 := and2 (show ((Nat.beq key 6 || Nat.beq key 41) && xs.all (gvr D.1.length)) = true from vthing hD heq)
      refine vset hD ?_
      show ((Nat.beq key 6 || Nat.beq key 41) && (xs.set j x).all (gvr D.1.length)) = true
      rw [h5.1, all_set h5.2 hx]
      rfl
    · cases h
  · cases h
theorem vCpB {D D' : gDS} {src dst : gRF} {sp dp n : Int32} (hD : gvD D = true) (h : gCpB D src sp dst dp n = some D') : gKp D D' := by
  unfold gCpB at h
  obtain ⟨xs, h0, h2⟩ := Option.bind_eq_some_iff.mp h
  have hxs := vInt hD h0
  split at h2
  · split at h2
    · rename_i a k ys heq
      split at h2
      · rename_i hc
        cases h2
        obtain rfl : k = 2 := Nat.eq_of_beq_eq_true hc.1
        refine vset hD (gvt_2 ?_)
        have hys : ys.all gbyt = true := by
          rcases gvt_i (vthing hD heq) with q | q
          · cases q
          · exact q.2
        refine List.all_eq_true.mpr fun y hy => ?_
        rcases List.mem_append.mp hy with hy | hy
        · exact List.all_eq_true.mp hys y (List.mem_of_mem_take hy)
        rcases List.mem_append.mp hy with hy | hy
        · exact List.all_eq_true.mp hxs y (List.mem_of_mem_drop (List.mem_of_mem_take hy))
        · exact List.all_eq_true.mp hys y (List.mem_of_mem_drop hy)
      · cases h2
    · cases h2
  · cases h2
/-- what a new thing brings -/
def gNk (D D' : gDS) : Prop := gvD D' = true ∧ D.1.length < D'.1.length ∧ D.2.1 ≤ D'.2.1 ∧ D.2.2 ≤ D'.2.2
theorem vnew {D : gDS} {t : gDT} {n : Nat} (hD : gvD D = true) (ht : gvt (D.1.length + 1) t = true) : gNk D (gNew D t n) := by
  refine ⟨?_, ?_, Nat.le_add_right .., Nat.le_add_right ..⟩
  · unfold gvD gNew
    show (D.1 ++ [t]).all _ = true
    rw [List.length_append, List.length_singleton, List.all_append, all_mono (fun x => gvt_mono (Nat.le_succ D.1.length)) hD]
    exact vc1 ht rfl
  · show D.1.length < (D.1 ++ [t]).length
    rw [List.length_append, List.length_singleton]
    omega
theorem all_rep {α : Type} {p : α → Bool} {x : α} (hx : p x = true) (m : Nat) : (List.replicate m x).all p = true := List.all_eq_true.mpr fun y hy => by rw [List.eq_of_mem_replicate hy]; exact hx
theorem vNwI {D D' : gDS} {k : Nat} {n : Int32} (hD : gvD D = true) (h : gNwI D k n = some D') : gNk D D' := by
  obtain ⟨hk, h⟩ := bic h
  obtain ⟨m, -, h2⟩ := Option.bind_eq_some_iff.mp h
  cases h2
  refine vnew hD ?_
  rw [Bool.or_eq_true] at hk
  rcases hk with hk | hk
  · obtain rfl : k = 1 := Nat.eq_of_beq_eq_true hk
    rfl
  · obtain rfl : k = 2 := Nat.eq_of_beq_eq_true hk
    exact gvt_2 (all_rep rfl m)
theorem vNwJ {D D' : gDS} {n : Int32} (hD : gvD D = true) (h : gNwJ D n = some D') : gNk D D' := by
  obtain ⟨m, -, h2⟩ := Option.bind_eq_some_iff.mp h
  cases h2
  exact vnew hD rfl
theorem vNwQ {D D' : gDS} {k : Nat} {n : Int32} (hD : gvD D = true) (h : gNwQ D k n = some D') : gNk D D' := by
  obtain ⟨hk, h⟩ := bic h
  obtain ⟨m, -, h2⟩ := Option.bind_eq_some_iff.mp h
  cases h2
  refine vnew hD ?_
  show ((Nat.beq k 6 || Nat.beq k 41) && (List.replicate m none).all _) = true
  rw [hk, all_rep rfl m]
  rfl
theorem gDef_ok (n ci : Nat) : (gDef ci).all (gvv n) = true := by
  unfold gDef
  split <;> rfl
theorem vNwO {D : gDS} {ci : Nat} (hD : gvD D = true) : gNk D (gNwO D ci) := vnew hD (gDef_ok _ ci)
theorem vNwM {D D' : gDS} {n k : Int32} (hD : gvD D = true) (h : gNwM D n k = some D') : gNk D D' := by
  obtain ⟨m, -, h2⟩ := Option.bind_eq_some_iff.mp h
  obtain ⟨j, -, h3⟩ := Option.bind_eq_some_iff.mp h2
  cases h3
  have hl : (D.1 ++ [Sum.inr (Sum.inr (Sum.inr (6, (List.range m).map fun i => some (Sum.inl (D.1.length + 1 + i)))))] ++ List.replicate m (Sum.inr (Sum.inl (1, List.replicate j 0))) : List gDT).length = D.1.length + 1 + m := by
    rw [List.length_append, List.length_append, List.length_singleton, List.length_replicate]
  refine ⟨?_, by rw [hl]; omega, Nat.le_add_right .., Nat.le_add_right ..⟩
  unfold gvD
  rw [hl]
  show (D.1 ++ [_] ++ List.replicate m _).all _ = true
  rw [List.all_append, List.all_append, all_mono (fun x => gvt_mono (show D.1.length ≤ D.1.length + 1 + m by omega)) hD, all_rep rfl m]
  rw [Bool.true_and, Bool.and_true]
  refine vc1 (show ((Nat.beq 6 6 || Nat.beq 6 41) && _) = true from ?_) rfl
  rw [show (Nat.beq 6 6 || Nat.beq 6 41) = true from rfl, Bool.true_and]
  refine List.all_eq_true.mpr fun y hy => ?_
  obtain ⟨i, hi, rfl⟩ := List.mem_map.mp hy
  exact Nat.ble_eq_true_of_le (by have := List.mem_range.mp hi; omega)
theorem vCln {D D' : gDS} {r : gRF} {key : Nat} (hD : gvD D = true) (h : gCln D r key = some D') : gNk D D' := by
  unfold gCln at h
  split at h
  · split at h
    · rename_i i k xs heq
      obtain ⟨-, h⟩ := bic h
      cases h
      exact vnew hD (gvt_mono (Nat.le_succ _) (vthing hD heq))
    · rename_i i k xs heq
      obtain ⟨-, h⟩ := bic h
      cases h
      exact vnew hD (gvt_mono (Nat.le_succ _) (vthing hD heq))
    · cases h
  · cases h
theorem gGr.kp {D D' : gDS} (h : gKp D D') : gGr D D' := ⟨by rw [h.2.1]; exact Nat.le_refl _, by rw [h.2.2]; exact Nat.le_refl _, by rw [h.2.2]; exact Nat.le_refl _⟩
theorem gGr.nk {D D' : gDS} (h : gNk D D') : gGr D D' := ⟨Nat.le_of_lt h.2.1, h.2.2.1, h.2.2.2⟩
theorem vtop {D D' : gDS} (h : gNk D D') : gvr D'.1.length (gTop D) = true := Nat.ble_eq_true_of_le h.2.1
/-- where nothing changes, where a thing is changed, where one is made -/
theorem go_s {D : gDS} {pc : Nat} {lv : gLV} {st : List gPV} {h : PH} (hD : gvD D = true) (hl : lv.all (gvo D.1.length) = true) (hs : st.all (gvv D.1.length) = true) : gOut D (pc, lv, st, (h, D)) := ⟨⟨hD, hl, hs⟩, gGr.rf D⟩
theorem go_k {D D' : gDS} {pc : Nat} {lv : gLV} {st : List gPV} {h : PH} (k : gKp D D') (hl : lv.all (gvo D.1.length) = true) (hs : st.all (gvv D.1.length) = true) : gOut D (pc, lv, st, (h, D')) := ⟨⟨k.1, by rw [k.2.1]; exact hl, by rw [k.2.1]; exact hs⟩, gGr.kp k⟩
theorem go_n {D D' : gDS} {pc : Nat} {lv : gLV} {st : List gPV} {h : PH} (k : gNk D D') (hl : lv.all (gvo D.1.length) = true) (hs : st.all (gvv D.1.length) = true) : gOut D (pc, lv, .inr (.inr (gTop D)) :: st, (h, D')) :=
  ⟨⟨k.1, all_mono (fun x => gvo_mono (Nat.le_of_lt k.2.1)) hl, vc1 (vtop k) (all_mono (fun x => gvv_mono (Nat.le_of_lt k.2.1)) hs)⟩, gGr.nk k⟩
section GIN
variable {nx a b t : Nat} {v : Int32} {w : Int64} {lv : gLV} {st : List gPV} {s : gST} {R : Nat × gLV × List gPV × gST}
theorem gi_iconst {j0 : Int} (h : gstep (.iconst j0, nx, a, b, t, v, w) lv st s = some R) (hi : gInv s.2 lv st) : gOut s.2 R := by
  obtain ⟨hD, hl, hs⟩ := hi
  have h1 : (some (nx, lv, .inl v :: st, s)) = some R := h
  clear h
  cases h1
  exact go_s hD hl (vc1 rfl hs)
theorem gi_bipush {j0 : Int} (h : gstep (.bipush j0, nx, a, b, t, v, w) lv st s = some R) (hi : gInv s.2 lv st) : gOut s.2 R := by
  obtain ⟨hD, hl, hs⟩ := hi
  have h1 : (some (nx, lv, .inl v :: st, s)) = some R := h
  clear h
  cases h1
  exact go_s hD hl (vc1 rfl hs)
theorem gi_sipush {j0 : Int} (h : gstep (.sipush j0, nx, a, b, t, v, w) lv st s = some R) (hi : gInv s.2 lv st) : gOut s.2 R := by
  obtain ⟨hD, hl, hs⟩ := hi
  have h1 : (some (nx, lv, .inl v :: st, s)) = some R := h
  clear h
  cases h1
  exact go_s hD hl (vc1 rfl hs)
theorem gi_ldc_w {j0 : Nat} (h : gstep (.ldc_w j0, nx, a, b, t, v, w) lv st s = some R) (hi : gInv s.2 lv st) : gOut s.2 R := by
  obtain ⟨hD, hl, hs⟩ := hi
  have h1 : (some (nx, lv, .inl v :: st, s)) = some R := h
  clear h
  cases h1
  exact go_s hD hl (vc1 rfl hs)
theorem gi_ldc {j0 : Nat} (h : gstep (.ldc j0, nx, a, b, t, v, w) lv st s = some R) (hi : gInv s.2 lv st) : gOut s.2 R := by
  obtain ⟨hD, hl, hs⟩ := hi
  have h1 : (match (generalizing := false) t with
    | 0 => some (nx, lv, .inl v :: st, s)
    | 1 => some (nx, lv, .inr (.inr (some (.inr a))) :: st, s)
    | _ => none) = some R := h
  clear h
  split at h1
  · skip
    cases h1
    exact go_s hD hl (vc1 rfl hs)
  · skip
    cases h1
    exact go_s hD hl (vc1 rfl hs)
  · cases h1
theorem gi_lconst {j0 : Fin 2} (h : gstep (.lconst j0, nx, a, b, t, v, w) lv st s = some R) (hi : gInv s.2 lv st) : gOut s.2 R := by
  obtain ⟨hD, hl, hs⟩ := hi
  have h1 : (some (nx, lv, .inr (.inl w) :: st, s)) = some R := h
  clear h
  cases h1
  exact go_s hD hl (vc1 rfl hs)
theorem gi_ldc2_w {j0 : Nat} (h : gstep (.ldc2_w j0, nx, a, b, t, v, w) lv st s = some R) (hi : gInv s.2 lv st) : gOut s.2 R := by
  obtain ⟨hD, hl, hs⟩ := hi
  have h1 : (some (nx, lv, .inr (.inl w) :: st, s)) = some R := h
  clear h
  cases h1
  exact go_s hD hl (vc1 rfl hs)
theorem gi_aconst_null  (h : gstep (.aconst_null, nx, a, b, t, v, w) lv st s = some R) (hi : gInv s.2 lv st) : gOut s.2 R := by
  obtain ⟨hD, hl, hs⟩ := hi
  have h1 : (some (nx, lv, .inr (.inr none) :: st, s)) = some R := h
  clear h
  cases h1
  exact go_s hD hl (vc1 rfl hs)
theorem gi_iload_n {j0 : Fin 4} (h : gstep (.iload_n j0, nx, a, b, t, v, w) lv st s = some R) (hi : gInv s.2 lv st) : gOut s.2 R := by
  obtain ⟨hD, hl, hs⟩ := hi
  have h1 : (match (generalizing := false) ggo lv a with
    | some (.inl x) => some (nx, lv, .inl x :: st, s)
    | _ => none) = some R := h
  clear h
  split at h1
  · rename_i heq9
    have hx := vget hl heq9
    cases h1
    exact go_s hD hl (vc1 rfl hs)
  · cases h1
theorem gi_iload {j0 : Nat} (h : gstep (.iload j0, nx, a, b, t, v, w) lv st s = some R) (hi : gInv s.2 lv st) : gOut s.2 R := by
  obtain ⟨hD, hl, hs⟩ := hi
  have h1 : (match (generalizing := false) ggo lv a with
    | some (.inl x) => some (nx, lv, .inl x :: st, s)
    | _ => none) = some R := h
  clear h
  split at h1
  · rename_i heq9
    have hx := vget hl heq9
    cases h1
    exact go_s hD hl (vc1 rfl hs)
  · cases h1
theorem gi_lload_n {j0 : Fin 4} (h : gstep (.lload_n j0, nx, a, b, t, v, w) lv st s = some R) (hi : gInv s.2 lv st) : gOut s.2 R := by
  obtain ⟨hD, hl, hs⟩ := hi
  have h1 : (match (generalizing := false) ggo lv a with
    | some (.inr (.inl x)) => some (nx, lv, .inr (.inl x) :: st, s)
    | _ => none) = some R := h
  clear h
  split at h1
  · rename_i heq9
    have hx := vget hl heq9
    cases h1
    exact go_s hD hl (vc1 rfl hs)
  · cases h1
theorem gi_lload {j0 : Nat} (h : gstep (.lload j0, nx, a, b, t, v, w) lv st s = some R) (hi : gInv s.2 lv st) : gOut s.2 R := by
  obtain ⟨hD, hl, hs⟩ := hi
  have h1 : (match (generalizing := false) ggo lv a with
    | some (.inr (.inl x)) => some (nx, lv, .inr (.inl x) :: st, s)
    | _ => none) = some R := h
  clear h
  split at h1
  · rename_i heq9
    have hx := vget hl heq9
    cases h1
    exact go_s hD hl (vc1 rfl hs)
  · cases h1
theorem gi_aload_n {j0 : Fin 4} (h : gstep (.aload_n j0, nx, a, b, t, v, w) lv st s = some R) (hi : gInv s.2 lv st) : gOut s.2 R := by
  obtain ⟨hD, hl, hs⟩ := hi
  have h1 : (match (generalizing := false) ggo lv a with
    | some (.inr (.inr x)) => some (nx, lv, .inr (.inr x) :: st, s)
    | _ => none) = some R := h
  clear h
  split at h1
  · rename_i heq9
    have hx := vget hl heq9
    cases h1
    exact go_s hD hl (vc1 hx hs)
  · cases h1
theorem gi_aload {j0 : Nat} (h : gstep (.aload j0, nx, a, b, t, v, w) lv st s = some R) (hi : gInv s.2 lv st) : gOut s.2 R := by
  obtain ⟨hD, hl, hs⟩ := hi
  have h1 : (match (generalizing := false) ggo lv a with
    | some (.inr (.inr x)) => some (nx, lv, .inr (.inr x) :: st, s)
    | _ => none) = some R := h
  clear h
  split at h1
  · rename_i heq9
    have hx := vget hl heq9
    cases h1
    exact go_s hD hl (vc1 hx hs)
  · cases h1
theorem gi_istore_n {j0 : Fin 4} (h : gstep (.istore_n j0, nx, a, b, t, v, w) lv st s = some R) (hi : gInv s.2 lv st) : gOut s.2 R := by
  obtain ⟨hD, hl, hs⟩ := hi
  have h1 : (match (generalizing := false) st with
    | .inl x :: r => bif gnl lv a then some (nx, gput lv a (some (.inl x)), r, s) else none
    | _ => none) = some R := h
  clear h
  split at h1
  · obtain ⟨hv0, hs0⟩ := va1 hs
    obtain ⟨hg9, h1⟩ := bic h1
    cases h1
    exact go_s hD (vput rfl hl) hs0
  · cases h1
theorem gi_istore {j0 : Nat} (h : gstep (.istore j0, nx, a, b, t, v, w) lv st s = some R) (hi : gInv s.2 lv st) : gOut s.2 R := by
  obtain ⟨hD, hl, hs⟩ := hi
  have h1 : (match (generalizing := false) st with
    | .inl x :: r => bif gnl lv a then some (nx, gput lv a (some (.inl x)), r, s) else none
    | _ => none) = some R := h
  clear h
  split at h1
  · obtain ⟨hv0, hs0⟩ := va1 hs
    obtain ⟨hg9, h1⟩ := bic h1
    cases h1
    exact go_s hD (vput rfl hl) hs0
  · cases h1
theorem gi_astore_n {j0 : Fin 4} (h : gstep (.astore_n j0, nx, a, b, t, v, w) lv st s = some R) (hi : gInv s.2 lv st) : gOut s.2 R := by
  obtain ⟨hD, hl, hs⟩ := hi
  have h1 : (match (generalizing := false) st with
    | .inr (.inr x) :: r => bif gnl lv a then some (nx, gput lv a (some (.inr (.inr x))), r, s) else none
    | _ => none) = some R := h
  clear h
  split at h1
  · obtain ⟨hv0, hs0⟩ := va1 hs
    obtain ⟨hg9, h1⟩ := bic h1
    cases h1
    exact go_s hD (vput (x := some (.inr (.inr _))) hv0 hl) hs0
  · cases h1
theorem gi_astore {j0 : Nat} (h : gstep (.astore j0, nx, a, b, t, v, w) lv st s = some R) (hi : gInv s.2 lv st) : gOut s.2 R := by
  obtain ⟨hD, hl, hs⟩ := hi
  have h1 : (match (generalizing := false) st with
    | .inr (.inr x) :: r => bif gnl lv a then some (nx, gput lv a (some (.inr (.inr x))), r, s) else none
    | _ => none) = some R := h
  clear h
  split at h1
  · obtain ⟨hv0, hs0⟩ := va1 hs
    obtain ⟨hg9, h1⟩ := bic h1
    cases h1
    exact go_s hD (vput (x := some (.inr (.inr _))) hv0 hl) hs0
  · cases h1
theorem gi_lstore_n {j0 : Fin 4} (h : gstep (.lstore_n j0, nx, a, b, t, v, w) lv st s = some R) (hi : gInv s.2 lv st) : gOut s.2 R := by
  obtain ⟨hD, hl, hs⟩ := hi
  have h1 : (match (generalizing := false) st with
    | .inr (.inl x) :: r => bif gnl lv a then some (nx, gput (gput lv a (some (.inr (.inl x)))) (a + 1) none, r, s) else none
    | _ => none) = some R := h
  clear h
  split at h1
  · obtain ⟨hv0, hs0⟩ := va1 hs
    obtain ⟨hg9, h1⟩ := bic h1
    cases h1
    exact go_s hD (vput (x := none) rfl (vput rfl hl)) hs0
  · cases h1
theorem gi_lstore {j0 : Nat} (h : gstep (.lstore j0, nx, a, b, t, v, w) lv st s = some R) (hi : gInv s.2 lv st) : gOut s.2 R := by
  obtain ⟨hD, hl, hs⟩ := hi
  have h1 : (match (generalizing := false) st with
    | .inr (.inl x) :: r => bif gnl lv a then some (nx, gput (gput lv a (some (.inr (.inl x)))) (a + 1) none, r, s) else none
    | _ => none) = some R := h
  clear h
  split at h1
  · obtain ⟨hv0, hs0⟩ := va1 hs
    obtain ⟨hg9, h1⟩ := bic h1
    cases h1
    exact go_s hD (vput (x := none) rfl (vput rfl hl)) hs0
  · cases h1
theorem gi_iinc {j0 : Nat} {j1 : Int} (h : gstep (.iinc j0 j1, nx, a, b, t, v, w) lv st s = some R) (hi : gInv s.2 lv st) : gOut s.2 R := by
  obtain ⟨hD, hl, hs⟩ := hi
  have h1 : (match (generalizing := false) t with
    | 1 => (match (generalizing := false) ggo lv a with
      | some (.inl x) => bif gnl lv a then some (nx, gput lv a (some (.inl (x - v))), st, s) else none
      | _ => none)
    | _ => (match (generalizing := false) ggo lv a with
      | some (.inl x) => bif gnl lv a then some (nx, gput lv a (some (.inl (x + v))), st, s) else none
      | _ => none)) = some R := h
  clear h
  split at h1
  · skip
    split at h1
    · rename_i heq9
      have hx := vget hl heq9
      obtain ⟨hg9, h1⟩ := bic h1
      cases h1
      exact go_s hD (vput rfl hl) hs
    · cases h1
  · skip
    split at h1
    · rename_i heq9
      have hx := vget hl heq9
      obtain ⟨hg9, h1⟩ := bic h1
      cases h1
      exact go_s hD (vput rfl hl) hs
    · cases h1
theorem gi_iadd  (h : gstep (.iadd, nx, a, b, t, v, w) lv st s = some R) (hi : gInv s.2 lv st) : gOut s.2 R := by
  obtain ⟨hD, hl, hs⟩ := hi
  have h1 : (match (generalizing := false) st with
    | .inl y :: .inl x :: r => some (nx, lv, .inl (x + y) :: r, s)
    | _ => none) = some R := h
  clear h
  split at h1
  · obtain ⟨hv0, hs0⟩ := va1 hs
    obtain ⟨hv1, hs1⟩ := va1 hs0
    cases h1
    exact go_s hD hl (vc1 rfl hs1)
  · cases h1
theorem gi_isub  (h : gstep (.isub, nx, a, b, t, v, w) lv st s = some R) (hi : gInv s.2 lv st) : gOut s.2 R := by
  obtain ⟨hD, hl, hs⟩ := hi
  have h1 : (match (generalizing := false) st with
    | .inl y :: .inl x :: r => some (nx, lv, .inl (x - y) :: r, s)
    | _ => none) = some R := h
  clear h
  split at h1
  · obtain ⟨hv0, hs0⟩ := va1 hs
    obtain ⟨hv1, hs1⟩ := va1 hs0
    cases h1
    exact go_s hD hl (vc1 rfl hs1)
  · cases h1
theorem gi_imul  (h : gstep (.imul, nx, a, b, t, v, w) lv st s = some R) (hi : gInv s.2 lv st) : gOut s.2 R := by
  obtain ⟨hD, hl, hs⟩ := hi
  have h1 : (match (generalizing := false) st with
    | .inl y :: .inl x :: r => some (nx, lv, .inl (x * y) :: r, s)
    | _ => none) = some R := h
  clear h
  split at h1
  · obtain ⟨hv0, hs0⟩ := va1 hs
    obtain ⟨hv1, hs1⟩ := va1 hs0
    cases h1
    exact go_s hD hl (vc1 rfl hs1)
  · cases h1
theorem gi_iand  (h : gstep (.iand, nx, a, b, t, v, w) lv st s = some R) (hi : gInv s.2 lv st) : gOut s.2 R := by
  obtain ⟨hD, hl, hs⟩ := hi
  have h1 : (match (generalizing := false) st with
    | .inl y :: .inl x :: r => some (nx, lv, .inl (x &&& y) :: r, s)
    | _ => none) = some R := h
  clear h
  split at h1
  · obtain ⟨hv0, hs0⟩ := va1 hs
    obtain ⟨hv1, hs1⟩ := va1 hs0
    cases h1
    exact go_s hD hl (vc1 rfl hs1)
  · cases h1
theorem gi_ior  (h : gstep (.ior, nx, a, b, t, v, w) lv st s = some R) (hi : gInv s.2 lv st) : gOut s.2 R := by
  obtain ⟨hD, hl, hs⟩ := hi
  have h1 : (match (generalizing := false) st with
    | .inl y :: .inl x :: r => some (nx, lv, .inl (x ||| y) :: r, s)
    | _ => none) = some R := h
  clear h
  split at h1
  · obtain ⟨hv0, hs0⟩ := va1 hs
    obtain ⟨hv1, hs1⟩ := va1 hs0
    cases h1
    exact go_s hD hl (vc1 rfl hs1)
  · cases h1
theorem gi_ixor  (h : gstep (.ixor, nx, a, b, t, v, w) lv st s = some R) (hi : gInv s.2 lv st) : gOut s.2 R := by
  obtain ⟨hD, hl, hs⟩ := hi
  have h1 : (match (generalizing := false) st with
    | .inl y :: .inl x :: r => some (nx, lv, .inl (x ^^^ y) :: r, s)
    | _ => none) = some R := h
  clear h
  split at h1
  · obtain ⟨hv0, hs0⟩ := va1 hs
    obtain ⟨hv1, hs1⟩ := va1 hs0
    cases h1
    exact go_s hD hl (vc1 rfl hs1)
  · cases h1
theorem gi_ishl  (h : gstep (.ishl, nx, a, b, t, v, w) lv st s = some R) (hi : gInv s.2 lv st) : gOut s.2 R := by
  obtain ⟨hD, hl, hs⟩ := hi
  have h1 : (match (generalizing := false) st with
    | .inl y :: .inl x :: r => some (nx, lv, .inl (x <<< (y &&& 31)) :: r, s)
    | _ => none) = some R := h
  clear h
  split at h1
  · obtain ⟨hv0, hs0⟩ := va1 hs
    obtain ⟨hv1, hs1⟩ := va1 hs0
    cases h1
    exact go_s hD hl (vc1 rfl hs1)
  · cases h1
theorem gi_ishr  (h : gstep (.ishr, nx, a, b, t, v, w) lv st s = some R) (hi : gInv s.2 lv st) : gOut s.2 R := by
  obtain ⟨hD, hl, hs⟩ := hi
  have h1 : (match (generalizing := false) st with
    | .inl y :: .inl x :: r => some (nx, lv, .inl (x >>> (y &&& 31)) :: r, s)
    | _ => none) = some R := h
  clear h
  split at h1
  · obtain ⟨hv0, hs0⟩ := va1 hs
    obtain ⟨hv1, hs1⟩ := va1 hs0
    cases h1
    exact go_s hD hl (vc1 rfl hs1)
  · cases h1
theorem gi_iushr  (h : gstep (.iushr, nx, a, b, t, v, w) lv st s = some R) (hi : gInv s.2 lv st) : gOut s.2 R := by
  obtain ⟨hD, hl, hs⟩ := hi
  have h1 : (match (generalizing := false) st with
    | .inl y :: .inl x :: r => some (nx, lv, .inl ((x.toUInt32 >>> (y.toUInt32 &&& Int32.toUInt32 31)).toInt32) :: r, s)
    | _ => none) = some R := h
  clear h
  split at h1
  · obtain ⟨hv0, hs0⟩ := va1 hs
    obtain ⟨hv1, hs1⟩ := va1 hs0
    cases h1
    exact go_s hD hl (vc1 rfl hs1)
  · cases h1
theorem gi_idiv  (h : gstep (.idiv, nx, a, b, t, v, w) lv st s = some R) (hi : gInv s.2 lv st) : gOut s.2 R := by
  obtain ⟨hD, hl, hs⟩ := hi
  have h1 : (match (generalizing := false) st with
    | .inl y :: .inl x :: r => (gDv x y).map fun z => (nx, lv, .inl z :: r, s)
    | _ => none) = some R := h
  clear h
  split at h1
  · obtain ⟨hv0, hs0⟩ := va1 hs
    obtain ⟨hv1, hs1⟩ := va1 hs0
    obtain ⟨z9, hz9, e9⟩ := mp2 h1
    cases e9
    exact go_s hD hl (vc1 rfl hs1)
  · cases h1
theorem gi_irem  (h : gstep (.irem, nx, a, b, t, v, w) lv st s = some R) (hi : gInv s.2 lv st) : gOut s.2 R := by
  obtain ⟨hD, hl, hs⟩ := hi
  have h1 : (match (generalizing := false) st with
    | .inl y :: .inl x :: r => (gRm x y).map fun z => (nx, lv, .inl z :: r, s)
    | _ => none) = some R := h
  clear h
  split at h1
  · obtain ⟨hv0, hs0⟩ := va1 hs
    obtain ⟨hv1, hs1⟩ := va1 hs0
    obtain ⟨z9, hz9, e9⟩ := mp2 h1
    cases e9
    exact go_s hD hl (vc1 rfl hs1)
  · cases h1
theorem gi_ineg  (h : gstep (.ineg, nx, a, b, t, v, w) lv st s = some R) (hi : gInv s.2 lv st) : gOut s.2 R := by
  obtain ⟨hD, hl, hs⟩ := hi
  have h1 : (match (generalizing := false) st with
    | .inl x :: r => some (nx, lv, .inl (-x) :: r, s)
    | _ => none) = some R := h
  clear h
  split at h1
  · obtain ⟨hv0, hs0⟩ := va1 hs
    cases h1
    exact go_s hD hl (vc1 rfl hs0)
  · cases h1
theorem gi_ladd  (h : gstep (.ladd, nx, a, b, t, v, w) lv st s = some R) (hi : gInv s.2 lv st) : gOut s.2 R := by
  obtain ⟨hD, hl, hs⟩ := hi
  have h1 : (match (generalizing := false) st with
    | .inr (.inl y) :: .inr (.inl x) :: r => some (nx, lv, .inr (.inl (x + y)) :: r, s)
    | _ => none) = some R := h
  clear h
  split at h1
  · obtain ⟨hv0, hs0⟩ := va1 hs
    obtain ⟨hv1, hs1⟩ := va1 hs0
    cases h1
    exact go_s hD hl (vc1 rfl hs1)
  · cases h1
theorem gi_lsub  (h : gstep (.lsub, nx, a, b, t, v, w) lv st s = some R) (hi : gInv s.2 lv st) : gOut s.2 R := by
  obtain ⟨hD, hl, hs⟩ := hi
  have h1 : (match (generalizing := false) st with
    | .inr (.inl y) :: .inr (.inl x) :: r => some (nx, lv, .inr (.inl (x - y)) :: r, s)
    | _ => none) = some R := h
  clear h
  split at h1
  · obtain ⟨hv0, hs0⟩ := va1 hs
    obtain ⟨hv1, hs1⟩ := va1 hs0
    cases h1
    exact go_s hD hl (vc1 rfl hs1)
  · cases h1
theorem gi_lmul  (h : gstep (.lmul, nx, a, b, t, v, w) lv st s = some R) (hi : gInv s.2 lv st) : gOut s.2 R := by
  obtain ⟨hD, hl, hs⟩ := hi
  have h1 : (match (generalizing := false) st with
    | .inr (.inl y) :: .inr (.inl x) :: r => some (nx, lv, .inr (.inl (x * y)) :: r, s)
    | _ => none) = some R := h
  clear h
  split at h1
  · obtain ⟨hv0, hs0⟩ := va1 hs
    obtain ⟨hv1, hs1⟩ := va1 hs0
    cases h1
    exact go_s hD hl (vc1 rfl hs1)
  · cases h1
theorem gi_ldiv  (h : gstep (.ldiv, nx, a, b, t, v, w) lv st s = some R) (hi : gInv s.2 lv st) : gOut s.2 R := by
  obtain ⟨hD, hl, hs⟩ := hi
  have h1 : (match (generalizing := false) st with
    | .inr (.inl y) :: .inr (.inl x) :: r => (dvl x y).map fun z => (nx, lv, .inr (.inl z) :: r, s)
    | _ => none) = some R := h
  clear h
  split at h1
  · obtain ⟨hv0, hs0⟩ := va1 hs
    obtain ⟨hv1, hs1⟩ := va1 hs0
    obtain ⟨z9, hz9, e9⟩ := mp2 h1
    cases e9
    exact go_s hD hl (vc1 rfl hs1)
  · cases h1
theorem gi_lcmp  (h : gstep (.lcmp, nx, a, b, t, v, w) lv st s = some R) (hi : gInv s.2 lv st) : gOut s.2 R := by
  obtain ⟨hD, hl, hs⟩ := hi
  have h1 : (match (generalizing := false) st with
    | .inr (.inl y) :: .inr (.inl x) :: r => some (nx, lv, .inl (lg_cmp x y) :: r, s)
    | _ => none) = some R := h
  clear h
  split at h1
  · obtain ⟨hv0, hs0⟩ := va1 hs
    obtain ⟨hv1, hs1⟩ := va1 hs0
    cases h1
    exact go_s hD hl (vc1 rfl hs1)
  · cases h1
theorem gi_i2l  (h : gstep (.i2l, nx, a, b, t, v, w) lv st s = some R) (hi : gInv s.2 lv st) : gOut s.2 R := by
  obtain ⟨hD, hl, hs⟩ := hi
  have h1 : (match (generalizing := false) st with
    | .inl x :: r => some (nx, lv, .inr (.inl x.toInt64) :: r, s)
    | _ => none) = some R := h
  clear h
  split at h1
  · obtain ⟨hv0, hs0⟩ := va1 hs
    cases h1
    exact go_s hD hl (vc1 rfl hs0)
  · cases h1
theorem gi_l2i  (h : gstep (.l2i, nx, a, b, t, v, w) lv st s = some R) (hi : gInv s.2 lv st) : gOut s.2 R := by
  obtain ⟨hD, hl, hs⟩ := hi
  have h1 : (match (generalizing := false) st with
    | .inr (.inl x) :: r => some (nx, lv, .inl x.toInt32 :: r, s)
    | _ => none) = some R := h
  clear h
  split at h1
  · obtain ⟨hv0, hs0⟩ := va1 hs
    cases h1
    exact go_s hD hl (vc1 rfl hs0)
  · cases h1
theorem gi_i2c  (h : gstep (.i2c, nx, a, b, t, v, w) lv st s = some R) (hi : gInv s.2 lv st) : gOut s.2 R := by
  obtain ⟨hD, hl, hs⟩ := hi
  have h1 : (match (generalizing := false) st with
    | .inl x :: r => some (nx, lv, .inl (vp_nar .char x) :: r, s)
    | _ => none) = some R := h
  clear h
  split at h1
  · obtain ⟨hv0, hs0⟩ := va1 hs
    cases h1
    exact go_s hD hl (vc1 rfl hs0)
  · cases h1
theorem gi_dup  (h : gstep (.dup, nx, a, b, t, v, w) lv st s = some R) (hi : gInv s.2 lv st) : gOut s.2 R := by
  obtain ⟨hD, hl, hs⟩ := hi
  have h1 : (match (generalizing := false) st with
    | .inl x :: r => some (nx, lv, .inl x :: .inl x :: r, s)
    | .inr (.inr x) :: r => some (nx, lv, .inr (.inr x) :: .inr (.inr x) :: r, s)
    | _ => none) = some R := h
  clear h
  split at h1
  · obtain ⟨hv0, hs0⟩ := va1 hs
    cases h1
    exact go_s hD hl (vc1 rfl (vc1 rfl hs0))
  · obtain ⟨hv0, hs0⟩ := va1 hs
    cases h1
    exact go_s hD hl (vc1 hv0 (vc1 hv0 hs0))
  · cases h1
theorem gi_dup2  (h : gstep (.dup2, nx, a, b, t, v, w) lv st s = some R) (hi : gInv s.2 lv st) : gOut s.2 R := by
  obtain ⟨hD, hl, hs⟩ := hi
  have h1 : (match (generalizing := false) st with
    | .inl y :: .inr (.inr x) :: r => some (nx, lv, .inl y :: .inr (.inr x) :: .inl y :: .inr (.inr x) :: r, s)
    | _ => none) = some R := h
  clear h
  split at h1
  · obtain ⟨hv0, hs0⟩ := va1 hs
    obtain ⟨hv1, hs1⟩ := va1 hs0
    cases h1
    exact go_s hD hl (vc1 rfl (vc1 hv1 (vc1 rfl (vc1 hv1 hs1))))
  · cases h1
theorem gi_pop  (h : gstep (.pop, nx, a, b, t, v, w) lv st s = some R) (hi : gInv s.2 lv st) : gOut s.2 R := by
  obtain ⟨hD, hl, hs⟩ := hi
  have h1 : (match (generalizing := false) st with
    | .inl _ :: r => some (nx, lv, r, s)
    | .inr (.inr _) :: r => some (nx, lv, r, s)
    | _ => none) = some R := h
  clear h
  split at h1
  · obtain ⟨hv0, hs0⟩ := va1 hs
    cases h1
    exact go_s hD hl hs0
  · obtain ⟨hv0, hs0⟩ := va1 hs
    cases h1
    exact go_s hD hl hs0
  · cases h1
theorem gi_goto {j0 : Int} (h : gstep (.goto j0, nx, a, b, t, v, w) lv st s = some R) (hi : gInv s.2 lv st) : gOut s.2 R := by
  obtain ⟨hD, hl, hs⟩ := hi
  have h1 : (some (a, lv, st, s)) = some R := h
  clear h
  cases h1
  exact go_s hD hl hs
theorem gi_ifnull {j0 : Int} (h : gstep (.ifnull j0, nx, a, b, t, v, w) lv st s = some R) (hi : gInv s.2 lv st) : gOut s.2 R := by
  obtain ⟨hD, hl, hs⟩ := hi
  have h1 : (match (generalizing := false) st with
    | .inr (.inr x) :: r => if x = none then some (a, lv, r, s) else some (nx, lv, r, s)
    | _ => none) = some R := h
  clear h
  split at h1
  · obtain ⟨hv0, hs0⟩ := va1 hs
    split at h1
    · skip
      cases h1
      exact go_s hD hl hs0
    · skip
      cases h1
      exact go_s hD hl hs0
  · cases h1
theorem gi_ifnonnull {j0 : Int} (h : gstep (.ifnonnull j0, nx, a, b, t, v, w) lv st s = some R) (hi : gInv s.2 lv st) : gOut s.2 R := by
  obtain ⟨hD, hl, hs⟩ := hi
  have h1 : (match (generalizing := false) st with
    | .inr (.inr x) :: r => if x = none then some (nx, lv, r, s) else some (a, lv, r, s)
    | _ => none) = some R := h
  clear h
  split at h1
  · obtain ⟨hv0, hs0⟩ := va1 hs
    split at h1
    · skip
      cases h1
      exact go_s hD hl hs0
    · skip
      cases h1
      exact go_s hD hl hs0
  · cases h1
theorem gi_ifCond__eq {j0 : Int} (h : gstep (.ifCond .eq j0, nx, a, b, t, v, w) lv st s = some R) (hi : gInv s.2 lv st) : gOut s.2 R := by
  obtain ⟨hD, hl, hs⟩ := hi
  have h1 : (match (generalizing := false) st with
    | .inl x :: r => if x = 0 then some (a, lv, r, s) else some (nx, lv, r, s)
    | _ => none) = some R := h
  clear h
  split at h1
  · obtain ⟨hv0, hs0⟩ := va1 hs
    split at h1
    · skip
      cases h1
      exact go_s hD hl hs0
    · skip
      cases h1
      exact go_s hD hl hs0
  · cases h1
theorem gi_ifCond__ne {j0 : Int} (h : gstep (.ifCond .ne j0, nx, a, b, t, v, w) lv st s = some R) (hi : gInv s.2 lv st) : gOut s.2 R := by
  obtain ⟨hD, hl, hs⟩ := hi
  have h1 : (match (generalizing := false) st with
    | .inl x :: r => if ¬ x = 0 then some (a, lv, r, s) else some (nx, lv, r, s)
    | _ => none) = some R := h
  clear h
  split at h1
  · obtain ⟨hv0, hs0⟩ := va1 hs
    split at h1
    · skip
      cases h1
      exact go_s hD hl hs0
    · skip
      cases h1
      exact go_s hD hl hs0
  · cases h1
theorem gi_ifCond__lt {j0 : Int} (h : gstep (.ifCond .lt j0, nx, a, b, t, v, w) lv st s = some R) (hi : gInv s.2 lv st) : gOut s.2 R := by
  obtain ⟨hD, hl, hs⟩ := hi
  have h1 : (match (generalizing := false) st with
    | .inl x :: r => if x < 0 then some (a, lv, r, s) else some (nx, lv, r, s)
    | _ => none) = some R := h
  clear h
  split at h1
  · obtain ⟨hv0, hs0⟩ := va1 hs
    split at h1
    · skip
      cases h1
      exact go_s hD hl hs0
    · skip
      cases h1
      exact go_s hD hl hs0
  · cases h1
theorem gi_ifCond__ge {j0 : Int} (h : gstep (.ifCond .ge j0, nx, a, b, t, v, w) lv st s = some R) (hi : gInv s.2 lv st) : gOut s.2 R := by
  obtain ⟨hD, hl, hs⟩ := hi
  have h1 : (match (generalizing := false) st with
    | .inl x :: r => if 0 ≤ x then some (a, lv, r, s) else some (nx, lv, r, s)
    | _ => none) = some R := h
  clear h
  split at h1
  · obtain ⟨hv0, hs0⟩ := va1 hs
    split at h1
    · skip
      cases h1
      exact go_s hD hl hs0
    · skip
      cases h1
      exact go_s hD hl hs0
  · cases h1
theorem gi_ifCond__gt {j0 : Int} (h : gstep (.ifCond .gt j0, nx, a, b, t, v, w) lv st s = some R) (hi : gInv s.2 lv st) : gOut s.2 R := by
  obtain ⟨hD, hl, hs⟩ := hi
  have h1 : (match (generalizing := false) st with
    | .inl x :: r => if 0 < x then some (a, lv, r, s) else some (nx, lv, r, s)
    | _ => none) = some R := h
  clear h
  split at h1
  · obtain ⟨hv0, hs0⟩ := va1 hs
    split at h1
    · skip
      cases h1
      exact go_s hD hl hs0
    · skip
      cases h1
      exact go_s hD hl hs0
  · cases h1
theorem gi_ifCond__le {j0 : Int} (h : gstep (.ifCond .le j0, nx, a, b, t, v, w) lv st s = some R) (hi : gInv s.2 lv st) : gOut s.2 R := by
  obtain ⟨hD, hl, hs⟩ := hi
  have h1 : (match (generalizing := false) st with
    | .inl x :: r => if x ≤ 0 then some (a, lv, r, s) else some (nx, lv, r, s)
    | _ => none) = some R := h
  clear h
  split at h1
  · obtain ⟨hv0, hs0⟩ := va1 hs
    split at h1
    · skip
      cases h1
      exact go_s hD hl hs0
    · skip
      cases h1
      exact go_s hD hl hs0
  · cases h1
theorem gi_if_icmp__eq {j0 : Int} (h : gstep (.if_icmp .eq j0, nx, a, b, t, v, w) lv st s = some R) (hi : gInv s.2 lv st) : gOut s.2 R := by
  obtain ⟨hD, hl, hs⟩ := hi
  have h1 : (match (generalizing := false) st with
    | .inl y :: .inl x :: r => if x = y then some (a, lv, r, s) else some (nx, lv, r, s)
    | _ => none) = some R := h
  clear h
  split at h1
  · obtain ⟨hv0, hs0⟩ := va1 hs
    obtain ⟨hv1, hs1⟩ := va1 hs0
    split at h1
    · skip
      cases h1
      exact go_s hD hl hs1
    · skip
      cases h1
      exact go_s hD hl hs1
  · cases h1
theorem gi_if_icmp__ne {j0 : Int} (h : gstep (.if_icmp .ne j0, nx, a, b, t, v, w) lv st s = some R) (hi : gInv s.2 lv st) : gOut s.2 R := by
  obtain ⟨hD, hl, hs⟩ := hi
  have h1 : (match (generalizing := false) st with
    | .inl y :: .inl x :: r => if ¬ x = y then some (a, lv, r, s) else some (nx, lv, r, s)
    | _ => none) = some R := h
  clear h
  split at h1
  · obtain ⟨hv0, hs0⟩ := va1 hs
    obtain ⟨hv1, hs1⟩ := va1 hs0
    split at h1
    · skip
      cases h1
      exact go_s hD hl hs1
    · skip
      cases h1
      exact go_s hD hl hs1
  · cases h1
theorem gi_if_icmp__lt {j0 : Int} (h : gstep (.if_icmp .lt j0, nx, a, b, t, v, w) lv st s = some R) (hi : gInv s.2 lv st) : gOut s.2 R := by
  obtain ⟨hD, hl, hs⟩ := hi
  have h1 : (match (generalizing := false) st with
    | .inl y :: .inl x :: r => if x < y then some (a, lv, r, s) else some (nx, lv, r, s)
    | _ => none) = some R := h
  clear h
  split at h1
  · obtain ⟨hv0, hs0⟩ := va1 hs
    obtain ⟨hv1, hs1⟩ := va1 hs0
    split at h1
    · skip
      cases h1
      exact go_s hD hl hs1
    · skip
      cases h1
      exact go_s hD hl hs1
  · cases h1
theorem gi_if_icmp__ge {j0 : Int} (h : gstep (.if_icmp .ge j0, nx, a, b, t, v, w) lv st s = some R) (hi : gInv s.2 lv st) : gOut s.2 R := by
  obtain ⟨hD, hl, hs⟩ := hi
  have h1 : (match (generalizing := false) st with
    | .inl y :: .inl x :: r => if y ≤ x then some (a, lv, r, s) else some (nx, lv, r, s)
    | _ => none) = some R := h
  clear h
  split at h1
  · obtain ⟨hv0, hs0⟩ := va1 hs
    obtain ⟨hv1, hs1⟩ := va1 hs0
    split at h1
    · skip
      cases h1
      exact go_s hD hl hs1
    · skip
      cases h1
      exact go_s hD hl hs1
  · cases h1
theorem gi_if_icmp__gt {j0 : Int} (h : gstep (.if_icmp .gt j0, nx, a, b, t, v, w) lv st s = some R) (hi : gInv s.2 lv st) : gOut s.2 R := by
  obtain ⟨hD, hl, hs⟩ := hi
  have h1 : (match (generalizing := false) st with
    | .inl y :: .inl x :: r => if y < x then some (a, lv, r, s) else some (nx, lv, r, s)
    | _ => none) = some R := h
  clear h
  split at h1
  · obtain ⟨hv0, hs0⟩ := va1 hs
    obtain ⟨hv1, hs1⟩ := va1 hs0
    split at h1
    · skip
      cases h1
      exact go_s hD hl hs1
    · skip
      cases h1
      exact go_s hD hl hs1
  · cases h1
theorem gi_if_icmp__le {j0 : Int} (h : gstep (.if_icmp .le j0, nx, a, b, t, v, w) lv st s = some R) (hi : gInv s.2 lv st) : gOut s.2 R := by
  obtain ⟨hD, hl, hs⟩ := hi
  have h1 : (match (generalizing := false) st with
    | .inl y :: .inl x :: r => if x ≤ y then some (a, lv, r, s) else some (nx, lv, r, s)
    | _ => none) = some R := h
  clear h
  split at h1
  · obtain ⟨hv0, hs0⟩ := va1 hs
    obtain ⟨hv1, hs1⟩ := va1 hs0
    split at h1
    · skip
      cases h1
      exact go_s hD hl hs1
    · skip
      cases h1
      exact go_s hD hl hs1
  · cases h1
theorem gi_tableswitch {dd lo hi : Int} {offs : Array Int} (h : gstep (.tableswitch dd lo hi offs, nx, a, b, t, v, w) lv st s = some R) (hi : gInv s.2 lv st) : gOut s.2 R := by
  obtain ⟨hD, hl, hs⟩ := hi
  have h1 : (match (generalizing := false) st with
    | .inl x :: r => if x.toInt < lo ∨ hi < x.toInt then some (a, lv, r, s) else
      match (generalizing := false) offs[(x.toInt - lo).toNat]? with
      | some off => some (((b : Int) + off).toNat, lv, r, s)
      | none => none
    | _ => none) = some R := h
  clear h
  split at h1
  · obtain ⟨hv0, hs0⟩ := va1 hs
    split at h1
    · skip
      cases h1
      exact go_s hD hl hs0
    · skip
      split at h1
      · skip
        cases h1
        exact go_s hD hl hs0
      · cases h1
  · cases h1
theorem gi_getfield {j0 : Nat} (h : gstep (.getfield j0, nx, a, b, t, v, w) lv st s = some R) (hi : gInv s.2 lv st) : gOut s.2 R := by
  obtain ⟨hD, hl, hs⟩ := hi
  have h1 : (match (generalizing := false) st with
    | .inr (.inr o) :: r => (match (generalizing := false) t with
      | 0 => (gFi s.2 o a b).map fun z => (nx, lv, .inl z :: r, s)
      | 2 => (gFr s.2 o a b).map fun z => (nx, lv, .inr (.inr z) :: r, s)
      | _ => none)
    | _ => none) = some R := h
  clear h
  split at h1
  · obtain ⟨hv0, hs0⟩ := va1 hs
    split at h1
    · skip
      obtain ⟨z9, hz9, e9⟩ := mp2 h1
      cases e9
      exact go_s hD hl (vc1 rfl hs0)
    · skip
      obtain ⟨z9, hz9, e9⟩ := mp2 h1
      cases e9
      exact go_s hD hl (vc1 (vFr hD hz9) hs0)
    · cases h1
  · cases h1
theorem gi_putfield {j0 : Nat} (h : gstep (.putfield j0, nx, a, b, t, v, w) lv st s = some R) (hi : gInv s.2 lv st) : gOut s.2 R := by
  obtain ⟨hD, hl, hs⟩ := hi
  have h1 : (match (generalizing := false) st with
    | .inl x :: .inr (.inr o) :: r => (match (generalizing := false) t with
      | 0 => (gFst s.2 o a b (.inl x)).map fun D => (nx, lv, r, (s.1, D))
      | 1 => (gFsN s.2 o a b x).map fun D => (nx, lv, r, (s.1, D))
      | _ => none)
    | .inr (.inr x) :: .inr (.inr o) :: r => (match (generalizing := false) t with
      | 2 => (gFst s.2 o a b (.inr (.inr x))).map fun D => (nx, lv, r, (s.1, D))
      | _ => none)
    | _ => none) = some R := h
  clear h
  split at h1
  · obtain ⟨hv0, hs0⟩ := va1 hs
    obtain ⟨hv1, hs1⟩ := va1 hs0
    split at h1
    · skip
      obtain ⟨z9, hz9, e9⟩ := mp2 h1
      cases e9
      exact go_k (vFst hD rfl hz9) hl hs1
    · skip
      obtain ⟨z9, hz9, e9⟩ := mp2 h1
      cases e9
      exact go_k (vFsN hD hz9) hl hs1
    · cases h1
  · obtain ⟨hv0, hs0⟩ := va1 hs
    obtain ⟨hv1, hs1⟩ := va1 hs0
    split at h1
    · skip
      obtain ⟨z9, hz9, e9⟩ := mp2 h1
      cases e9
      exact go_k (vFst hD hv0 hz9) hl hs1
    · cases h1
  · cases h1
theorem gi_getstatic {j0 : Nat} (h : gstep (.getstatic j0, nx, a, b, t, v, w) lv st s = some R) (hi : gInv s.2 lv st) : gOut s.2 R := by
  obtain ⟨hD, hl, hs⟩ := hi
  have h1 : (match (generalizing := false) t with
    | 1 => some (nx, lv, .inl v :: st, s)
    | 2 => some (nx, lv, .inr (.inr (some (.inr a))) :: st, s)
    | _ => none) = some R := h
  clear h
  split at h1
  · skip
    cases h1
    exact go_s hD hl (vc1 rfl hs)
  · skip
    cases h1
    exact go_s hD hl (vc1 rfl hs)
  · cases h1
theorem gi_iaload  (h : gstep (.iaload, nx, a, b, t, v, w) lv st s = some R) (hi : gInv s.2 lv st) : gOut s.2 R := by
  obtain ⟨hD, hl, hs⟩ := hi
  have h1 : (match (generalizing := false) st with
    | .inl i :: .inr (.inr o) :: r => (match (generalizing := false) t with
      | 7 => (match (generalizing := false) o with
        | some (.inr 5) => (gScr s.1 i).map fun z => (nx, lv, .inl z :: r, s)
        | _ => none)
      | _ => (gIld s.2 o 1 i).map fun z => (nx, lv, .inl z :: r, s))
    | _ => none) = some R := h
  clear h
  split at h1
  · obtain ⟨hv0, hs0⟩ := va1 hs
    obtain ⟨hv1, hs1⟩ := va1 hs0
    split at h1
    · skip
      split at h1
      · skip
        obtain ⟨z9, hz9, e9⟩ := mp2 h1
        cases e9
        exact go_s hD hl (vc1 rfl hs1)
      · cases h1
    · skip
      obtain ⟨z9, hz9, e9⟩ := mp2 h1
      cases e9
      exact go_s hD hl (vc1 rfl hs1)
  · cases h1
theorem gi_baload  (h : gstep (.baload, nx, a, b, t, v, w) lv st s = some R) (hi : gInv s.2 lv st) : gOut s.2 R := by
  obtain ⟨hD, hl, hs⟩ := hi
  have h1 : (match (generalizing := false) st with
    | .inl i :: .inr (.inr o) :: r => (gIld s.2 o 2 i).map fun z => (nx, lv, .inl z :: r, s)
    | _ => none) = some R := h
  clear h
  split at h1
  · obtain ⟨hv0, hs0⟩ := va1 hs
    obtain ⟨hv1, hs1⟩ := va1 hs0
    obtain ⟨z9, hz9, e9⟩ := mp2 h1
    cases e9
    exact go_s hD hl (vc1 rfl hs1)
  · cases h1
theorem gi_laload  (h : gstep (.laload, nx, a, b, t, v, w) lv st s = some R) (hi : gInv s.2 lv st) : gOut s.2 R := by
  obtain ⟨hD, hl, hs⟩ := hi
  have h1 : (match (generalizing := false) st with
    | .inl i :: .inr (.inr o) :: r => (gJld s.2 o i).map fun z => (nx, lv, .inr (.inl z) :: r, s)
    | _ => none) = some R := h
  clear h
  split at h1
  · obtain ⟨hv0, hs0⟩ := va1 hs
    obtain ⟨hv1, hs1⟩ := va1 hs0
    obtain ⟨z9, hz9, e9⟩ := mp2 h1
    cases e9
    exact go_s hD hl (vc1 rfl hs1)
  · cases h1
theorem gi_aaload  (h : gstep (.aaload, nx, a, b, t, v, w) lv st s = some R) (hi : gInv s.2 lv st) : gOut s.2 R := by
  obtain ⟨hD, hl, hs⟩ := hi
  have h1 : (match (generalizing := false) st with
    | .inl i :: .inr (.inr o) :: r => (gQld s.2 o i).map fun z => (nx, lv, .inr (.inr z) :: r, s)
    | _ => none) = some R := h
  clear h
  split at h1
  · obtain ⟨hv0, hs0⟩ := va1 hs
    obtain ⟨hv1, hs1⟩ := va1 hs0
    obtain ⟨z9, hz9, e9⟩ := mp2 h1
    cases e9
    exact go_s hD hl (vc1 (vQld hD hz9) hs1)
  · cases h1
theorem gi_iastore  (h : gstep (.iastore, nx, a, b, t, v, w) lv st s = some R) (hi : gInv s.2 lv st) : gOut s.2 R := by
  obtain ⟨hD, hl, hs⟩ := hi
  have h1 : (match (generalizing := false) st with
    | .inl x :: .inl i :: .inr (.inr o) :: r => (gIst s.2 o 1 i x).map fun D => (nx, lv, r, (s.1, D))
    | _ => none) = some R := h
  clear h
  split at h1
  · obtain ⟨hv0, hs0⟩ := va1 hs
    obtain ⟨hv1, hs1⟩ := va1 hs0
    obtain ⟨hv2, hs2⟩ := va1 hs1
    obtain ⟨z9, hz9, e9⟩ := mp2 h1
    cases e9
    exact go_k (vIst hD (Or.inl rfl) hz9) hl hs2
  · cases h1
theorem gi_bastore  (h : gstep (.bastore, nx, a, b, t, v, w) lv st s = some R) (hi : gInv s.2 lv st) : gOut s.2 R := by
  obtain ⟨hD, hl, hs⟩ := hi
  have h1 : (match (generalizing := false) st with
    | .inl x :: .inl i :: .inr (.inr o) :: r => (gIst s.2 o 2 i (vp_nar .byte x)).map fun D => (nx, lv, r, (s.1, D))
    | _ => none) = some R := h
  clear h
  split at h1
  · obtain ⟨hv0, hs0⟩ := va1 hs
    obtain ⟨hv1, hs1⟩ := va1 hs0
    obtain ⟨hv2, hs2⟩ := va1 hs1
    obtain ⟨z9, hz9, e9⟩ := mp2 h1
    cases e9
    exact go_k (vIst hD (Or.inr (gbyt_nar _)) hz9) hl hs2
  · cases h1
theorem gi_lastore  (h : gstep (.lastore, nx, a, b, t, v, w) lv st s = some R) (hi : gInv s.2 lv st) : gOut s.2 R := by
  obtain ⟨hD, hl, hs⟩ := hi
  have h1 : (match (generalizing := false) st with
    | .inr (.inl x) :: .inl i :: .inr (.inr o) :: r => (gJst s.2 o i x).map fun D => (nx, lv, r, (s.1, D))
    | _ => none) = some R := h
  clear h
  split at h1
  · obtain ⟨hv0, hs0⟩ := va1 hs
    obtain ⟨hv1, hs1⟩ := va1 hs0
    obtain ⟨hv2, hs2⟩ := va1 hs1
    obtain ⟨z9, hz9, e9⟩ := mp2 h1
    cases e9
    exact go_k (vJst hD hz9) hl hs2
  · cases h1
theorem gi_aastore  (h : gstep (.aastore, nx, a, b, t, v, w) lv st s = some R) (hi : gInv s.2 lv st) : gOut s.2 R := by
  obtain ⟨hD, hl, hs⟩ := hi
  have h1 : (match (generalizing := false) st with
    | .inr (.inr x) :: .inl i :: .inr (.inr o) :: r => (gQst s.2 o i x).map fun D => (nx, lv, r, (s.1, D))
    | _ => none) = some R := h
  clear h
  split at h1
  · obtain ⟨hv0, hs0⟩ := va1 hs
    obtain ⟨hv1, hs1⟩ := va1 hs0
    obtain ⟨hv2, hs2⟩ := va1 hs1
    obtain ⟨z9, hz9, e9⟩ := mp2 h1
    cases e9
    exact go_k (vQst hD hv0 hz9) hl hs2
  · cases h1
theorem gi_arraylength  (h : gstep (.arraylength, nx, a, b, t, v, w) lv st s = some R) (hi : gInv s.2 lv st) : gOut s.2 R := by
  obtain ⟨hD, hl, hs⟩ := hi
  have h1 : (match (generalizing := false) st with
    | .inr (.inr o) :: r => (gLen s.2 o).map fun z => (nx, lv, .inl z :: r, s)
    | _ => none) = some R := h
  clear h
  split at h1
  · obtain ⟨hv0, hs0⟩ := va1 hs
    obtain ⟨z9, hz9, e9⟩ := mp2 h1
    cases e9
    exact go_s hD hl (vc1 rfl hs0)
  · cases h1
theorem gi_newarray {j0 : ArrayType} (h : gstep (.newarray j0, nx, a, b, t, v, w) lv st s = some R) (hi : gInv s.2 lv st) : gOut s.2 R := by
  obtain ⟨hD, hl, hs⟩ := hi
  have h1 : (match (generalizing := false) st with
    | .inl n :: r => (match (generalizing := false) t with
      | 4 => (gNwJ s.2 n).map fun D => (nx, lv, .inr (.inr (gTop s.2)) :: r, (s.1, D))
      | _ => (gNwI s.2 t n).map fun D => (nx, lv, .inr (.inr (gTop s.2)) :: r, (s.1, D)))
    | _ => none) = some R := h
  clear h
  split at h1
  · obtain ⟨hv0, hs0⟩ := va1 hs
    split at h1
    · skip
      obtain ⟨z9, hz9, e9⟩ := mp2 h1
      cases e9
      exact go_n (vNwJ hD hz9) hl hs0
    · skip
      obtain ⟨z9, hz9, e9⟩ := mp2 h1
      cases e9
      exact go_n (vNwI hD hz9) hl hs0
  · cases h1
theorem gi_anewarray {j0 : Nat} (h : gstep (.anewarray j0, nx, a, b, t, v, w) lv st s = some R) (hi : gInv s.2 lv st) : gOut s.2 R := by
  obtain ⟨hD, hl, hs⟩ := hi
  have h1 : (match (generalizing := false) st with
    | .inl n :: r => (gNwQ s.2 t n).map fun D => (nx, lv, .inr (.inr (gTop s.2)) :: r, (s.1, D))
    | _ => none) = some R := h
  clear h
  split at h1
  · obtain ⟨hv0, hs0⟩ := va1 hs
    obtain ⟨z9, hz9, e9⟩ := mp2 h1
    cases e9
    exact go_n (vNwQ hD hz9) hl hs0
  · cases h1
theorem gi_multianewarray {j0 : Nat} {j1 : Nat} (h : gstep (.multianewarray j0 j1, nx, a, b, t, v, w) lv st s = some R) (hi : gInv s.2 lv st) : gOut s.2 R := by
  obtain ⟨hD, hl, hs⟩ := hi
  have h1 : (match (generalizing := false) st with
    | .inl k :: .inl n :: r => (gNwM s.2 n k).map fun D => (nx, lv, .inr (.inr (gTop s.2)) :: r, (s.1, D))
    | _ => none) = some R := h
  clear h
  split at h1
  · obtain ⟨hv0, hs0⟩ := va1 hs
    obtain ⟨hv1, hs1⟩ := va1 hs0
    obtain ⟨z9, hz9, e9⟩ := mp2 h1
    cases e9
    exact go_n (vNwM hD hz9) hl hs1
  · cases h1
theorem gi_new {j0 : Nat} (h : gstep (.new j0, nx, a, b, t, v, w) lv st s = some R) (hi : gInv s.2 lv st) : gOut s.2 R := by
  obtain ⟨hD, hl, hs⟩ := hi
  have h1 : (bif Nat.ble 8 a && Nat.blt a 13 then some (nx, lv, .inr (.inr (gTop s.2)) :: st, (s.1, gNwO s.2 a)) else none) = some R := h
  clear h
  obtain ⟨hg9, h1⟩ := bic h1
  cases h1
  exact go_n (vNwO hD) hl hs
theorem gi_checkcast {j0 : Nat} (h : gstep (.checkcast j0, nx, a, b, t, v, w) lv st s = some R) (hi : gInv s.2 lv st) : gOut s.2 R := by
  obtain ⟨hD, hl, hs⟩ := hi
  have h1 : (match (generalizing := false) st with
    | .inr (.inr o) :: r => (gIsA s.2 o t).map fun _ => (nx, lv, .inr (.inr o) :: r, s)
    | _ => none) = some R := h
  clear h
  split at h1
  · obtain ⟨hv0, hs0⟩ := va1 hs
    obtain ⟨z9, hz9, e9⟩ := mp2 h1
    cases e9
    exact go_s hD hl (vc1 hv0 hs0)
  · cases h1
theorem gi_invokespecial {j0 : Nat} (h : gstep (.invokespecial j0, nx, a, b, t, v, w) lv st s = some R) (hi : gInv s.2 lv st) : gOut s.2 R := by
  obtain ⟨hD, hl, hs⟩ := hi
  have h1 : (match (generalizing := false) t with
    | 50 => match (generalizing := false) st with
      | .inr (.inr (some o)) :: r => (match (generalizing := false) Nat.ble (gcat r) 8 with
        | true => some (nx, lv, r, s)
        | false => none)
      | _ => none
    | _ => none) = some R := h
  clear h
  split at h1
  · skip
    split at h1
    · obtain ⟨hv0, hs0⟩ := va1 hs
      split at h1
      · skip
        cases h1
        exact go_s hD hl hs0
      · cases h1
    · cases h1
  · cases h1
theorem gi_invokestatic {j0 : Nat} (h : gstep (.invokestatic j0, nx, a, b, t, v, w) lv st s = some R) (hi : gInv s.2 lv st) : gOut s.2 R := by
  obtain ⟨hD, hl, hs⟩ := hi
  have h1 : (match (generalizing := false) t with
    | 100 => match (generalizing := false) st with
      | .inl y :: .inl x :: r => (match (generalizing := false) Nat.ble (gcat r) 8 with
        | true => some (nx, lv, .inl (if y < x then y else x) :: r, s)
        | false => none)
      | _ => none
    | 104 => match (generalizing := false) st with
      | .inl y :: .inl x :: r => (match (generalizing := false) Nat.ble (gcat r) 8 with
        | true => some (nx, lv, .inl (if y < x then x else y) :: r, s)
        | false => none)
      | _ => none
    | 101 => match (generalizing := false) st with
      | .inr (.inl y) :: .inr (.inl x) :: r => (match (generalizing := false) Nat.ble (gcat r) 8 with
        | true => some (nx, lv, .inr (.inl (if y < x then x else y)) :: r, s)
        | false => none)
      | _ => none
    | 102 => match (generalizing := false) st with
      | .inr (.inl y) :: .inr (.inl x) :: r => (match (generalizing := false) Nat.ble (gcat r) 8 with
        | true => some (nx, lv, .inr (.inl (if y < x then y else x)) :: r, s)
        | false => none)
      | _ => none
    | 103 => match (generalizing := false) st with
      | .inl n :: .inl dp :: .inr (.inr d) :: .inl sp :: .inr (.inr o) :: r => (match (generalizing := false) Nat.ble (gcat r) 8 with
        | true => (gCpB s.2 o sp d dp n).map fun D => (nx, lv, r, (s.1, D))
        | false => none)
      | _ => none
    | 120 => match (generalizing := false) st with
      | .inl n :: .inl i :: r => (match (generalizing := false) Nat.ble (gcat r) 8 with
        | true => (gChk i n).map fun _ => (nx, lv, r, s)
        | false => none)
      | _ => none
    | _ => none) = some R := h
  clear h
  split at h1
  · skip
    split at h1
    · obtain ⟨hv0, hs0⟩ := va1 hs
      obtain ⟨hv1, hs1⟩ := va1 hs0
      split at h1
      · skip
        cases h1
        exact go_s hD hl (vc1 rfl hs1)
      · cases h1
    · cases h1
  · skip
    split at h1
    · obtain ⟨hv0, hs0⟩ := va1 hs
      obtain ⟨hv1, hs1⟩ := va1 hs0
      split at h1
      · skip
        cases h1
        exact go_s hD hl (vc1 rfl hs1)
      · cases h1
    · cases h1
  · skip
    split at h1
    · obtain ⟨hv0, hs0⟩ := va1 hs
      obtain ⟨hv1, hs1⟩ := va1 hs0
      split at h1
      · skip
        cases h1
        exact go_s hD hl (vc1 rfl hs1)
      · cases h1
    · cases h1
  · skip
    split at h1
    · obtain ⟨hv0, hs0⟩ := va1 hs
      obtain ⟨hv1, hs1⟩ := va1 hs0
      split at h1
      · skip
        cases h1
        exact go_s hD hl (vc1 rfl hs1)
      · cases h1
    · cases h1
  · skip
    split at h1
    · obtain ⟨hv0, hs0⟩ := va1 hs
      obtain ⟨hv1, hs1⟩ := va1 hs0
      obtain ⟨hv2, hs2⟩ := va1 hs1
      obtain ⟨hv3, hs3⟩ := va1 hs2
      obtain ⟨hv4, hs4⟩ := va1 hs3
      split at h1
      · skip
        obtain ⟨z9, hz9, e9⟩ := mp2 h1
        cases e9
        exact go_k (vCpB hD hz9) hl hs4
      · cases h1
    · cases h1
  · skip
    split at h1
    · obtain ⟨hv0, hs0⟩ := va1 hs
      obtain ⟨hv1, hs1⟩ := va1 hs0
      split at h1
      · skip
        obtain ⟨z9, hz9, e9⟩ := mp2 h1
        cases e9
        exact go_s hD hl hs1
      · cases h1
    · cases h1
  · cases h1
theorem gi_invokevirtual {j0 : Nat} (h : gstep (.invokevirtual j0, nx, a, b, t, v, w) lv st s = some R) (hi : gInv s.2 lv st) : gOut s.2 R := by
  obtain ⟨hD, hl, hs⟩ := hi
  have h1 : (match (generalizing := false) t with
    | 130 => match (generalizing := false) st with
      | .inr (.inr o) :: r => (match (generalizing := false) Nat.ble (gcat r) 8 with
        | true => (gCln s.2 o a).map fun D => (nx, lv, .inr (.inr (gTop s.2)) :: r, (s.1, D))
        | false => none)
      | _ => none
    | _ => none) = some R := h
  clear h
  split at h1
  · skip
    split at h1
    · obtain ⟨hv0, hs0⟩ := va1 hs
      split at h1
      · skip
        obtain ⟨z9, hz9, e9⟩ := mp2 h1
        cases e9
        exact go_n (vCln hD hz9) hl hs0
      · cases h1
    · cases h1
  · cases h1
/-- every step -/
theorem gstep_inv {e : PE} (h : gstep e lv st s = some R) (hi : gInv s.2 lv st) : gOut s.2 R := by
  obtain ⟨i, nx, a, b, t, v, w⟩ := e
  cases i with
  | iconst _ => exact gi_iconst h hi
  | bipush _ => exact gi_bipush h hi
  | sipush _ => exact gi_sipush h hi
  | ldc_w _ => exact gi_ldc_w h hi
  | ldc _ => exact gi_ldc h hi
  | lconst _ => exact gi_lconst h hi
  | ldc2_w _ => exact gi_ldc2_w h hi
  | aconst_null => exact gi_aconst_null h hi
  | iload_n _ => exact gi_iload_n h hi
  | iload _ => exact gi_iload h hi
  | lload_n _ => exact gi_lload_n h hi
  | lload _ => exact gi_lload h hi
  | aload_n _ => exact gi_aload_n h hi
  | aload _ => exact gi_aload h hi
  | istore_n _ => exact gi_istore_n h hi
  | istore _ => exact gi_istore h hi
  | astore_n _ => exact gi_astore_n h hi
  | astore _ => exact gi_astore h hi
  | lstore_n _ => exact gi_lstore_n h hi
  | lstore _ => exact gi_lstore h hi
  | iinc _ _ => exact gi_iinc h hi
  | iadd => exact gi_iadd h hi
  | isub => exact gi_isub h hi
  | imul => exact gi_imul h hi
  | iand => exact gi_iand h hi
  | ior => exact gi_ior h hi
  | ixor => exact gi_ixor h hi
  | ishl => exact gi_ishl h hi
  | ishr => exact gi_ishr h hi
  | iushr => exact gi_iushr h hi
  | idiv => exact gi_idiv h hi
  | irem => exact gi_irem h hi
  | ineg => exact gi_ineg h hi
  | ladd => exact gi_ladd h hi
  | lsub => exact gi_lsub h hi
  | lmul => exact gi_lmul h hi
  | ldiv => exact gi_ldiv h hi
  | lcmp => exact gi_lcmp h hi
  | i2l => exact gi_i2l h hi
  | l2i => exact gi_l2i h hi
  | i2c => exact gi_i2c h hi
  | dup => exact gi_dup h hi
  | dup2 => exact gi_dup2 h hi
  | pop => exact gi_pop h hi
  | goto _ => exact gi_goto h hi
  | ifnull _ => exact gi_ifnull h hi
  | ifnonnull _ => exact gi_ifnonnull h hi
  | tableswitch _ _ _ _ => exact gi_tableswitch h hi
  | getfield _ => exact gi_getfield h hi
  | putfield _ => exact gi_putfield h hi
  | getstatic _ => exact gi_getstatic h hi
  | iaload => exact gi_iaload h hi
  | baload => exact gi_baload h hi
  | laload => exact gi_laload h hi
  | aaload => exact gi_aaload h hi
  | iastore => exact gi_iastore h hi
  | bastore => exact gi_bastore h hi
  | lastore => exact gi_lastore h hi
  | aastore => exact gi_aastore h hi
  | arraylength => exact gi_arraylength h hi
  | newarray _ => exact gi_newarray h hi
  | anewarray _ => exact gi_anewarray h hi
  | multianewarray _ _ => exact gi_multianewarray h hi
  | new _ => exact gi_new h hi
  | checkcast _ => exact gi_checkcast h hi
  | invokespecial _ => exact gi_invokespecial h hi
  | invokestatic _ => exact gi_invokestatic h hi
  | invokevirtual _ => exact gi_invokevirtual h hi
  | ifCond cnd _ =>
    cases cnd with
    | eq => exact gi_ifCond__eq h hi
    | ne => exact gi_ifCond__ne h hi
    | lt => exact gi_ifCond__lt h hi
    | ge => exact gi_ifCond__ge h hi
    | gt => exact gi_ifCond__gt h hi
    | le => exact gi_ifCond__le h hi
  | if_icmp cnd _ =>
    cases cnd with
    | eq => exact gi_if_icmp__eq h hi
    | ne => exact gi_if_icmp__ne h hi
    | lt => exact gi_if_icmp__lt h hi
    | ge => exact gi_if_icmp__ge h hi
    | gt => exact gi_if_icmp__gt h hi
    | le => exact gi_if_icmp__le h hi
  | _ => exact nomatch (show (none : gR) = some _ from h)
end GIN
