/-! ONE THEOREM A KIND OF INSTRUCTION of the second machine: written by wip/p34/genst2.py -/
theorem gchM_at {k : Nat} (hk : k < 75) : gchM k = true := match k, hk with
  | 0, _ => gchM_0
  | 1, _ => gchM_1
  | 2, _ => gchM_2
  | 3, _ => gchM_3
  | 4, _ => gchM_4
  | 5, _ => gchM_5
  | 6, _ => gchM_6
  | 7, _ => gchM_7
  | 8, _ => gchM_8
  | 9, _ => gchM_9
  | 10, _ => gchM_10
  | 11, _ => gchM_11
  | 12, _ => gchM_12
  | 13, _ => gchM_13
  | 14, _ => gchM_14
  | 15, _ => gchM_15
  | 16, _ => gchM_16
  | 17, _ => gchM_17
  | 18, _ => gchM_18
  | 19, _ => gchM_19
  | 20, _ => gchM_20
  | 21, _ => gchM_21
  | 22, _ => gchM_22
  | 23, _ => gchM_23
  | 24, _ => gchM_24
  | 25, _ => gchM_25
  | 26, _ => gchM_26
  | 27, _ => gchM_27
  | 28, _ => gchM_28
  | 29, _ => gchM_29
  | 30, _ => gchM_30
  | 31, _ => gchM_31
  | 32, _ => gchM_32
  | 33, _ => gchM_33
  | 34, _ => gchM_34
  | 35, _ => gchM_35
  | 36, _ => gchM_36
  | 37, _ => gchM_37
  | 38, _ => gchM_38
  | 39, _ => gchM_39
  | 40, _ => gchM_40
  | 41, _ => gchM_41
  | 42, _ => gchM_42
  | 43, _ => gchM_43
  | 44, _ => gchM_44
  | 45, _ => gchM_45
  | 46, _ => gchM_46
  | 47, _ => gchM_47
  | 48, _ => gchM_48
  | 49, _ => gchM_49
  | 50, _ => gchM_50
  | 51, _ => gchM_51
  | 52, _ => gchM_52
  | 53, _ => gchM_53
  | 54, _ => gchM_54
  | 55, _ => gchM_55
  | 56, _ => gchM_56
  | 57, _ => gchM_57
  | 58, _ => gchM_58
  | 59, _ => gchM_59
  | 60, _ => gchM_60
  | 61, _ => gchM_61
  | 62, _ => gchM_62
  | 63, _ => gchM_63
  | 64, _ => gchM_64
  | 65, _ => gchM_65
  | 66, _ => gchM_66
  | 67, _ => gchM_67
  | 68, _ => gchM_68
  | 69, _ => gchM_69
  | 70, _ => gchM_70
  | 71, _ => gchM_71
  | 72, _ => gchM_72
  | 73, _ => gchM_73
  | 74, _ => gchM_74
  | k + 75, h => absurd h (by omega)
theorem gchE_at {k pc : Nat} {e0 : PE} (h : (gmiOf k).1 pc = some e0) : gchE k pc e0 = true := by
  obtain ⟨h1, h2⟩ := gmi_at h
  have h3 := List.all_eq_true.mp (show (List.range (glenOf k)).all (fun pc => match (gmiOf k).1 pc with
    | none => true
    | some e => gchE k pc e) = true from gchM_at h1) pc (List.mem_range.mpr h2)
  rw [h] at h3
  exact h3
section GST1
variable {p : Program} {l : Launch} {e : Env} {R : Room} {s : State} {m : MethodId} {args : Array Value} {below : List Frame} {meth : Method} {c : Code} {Q : State → Prop}
variable {z : PP} {k L : Nat} {xs : Nat → Int32} {n0 : Nat} {ad0 : Nat → Nat} {c0 s0 pc nx a b t : Nat} {v : Int32} {w : Int64} {lv lv' : gLV} {st st' : List gPV} {S S' : gST} {pc' : Nat}
theorem gs_iadd  (C : GX k p s m args c) (K : GK z L xs s) (hf : GF z) (hR : 10 ≤ R.frames ∧ 200 ≤ R.locals) (hm : (gmiOf k).1 pc = some (.iadd, nx, a, b, t, v, w)) (hs : gstep (.iadd, nx, a, b, t, v, w) lv st S = some (pc', lv', st', S')) (hi9 : gInv S.2 lv st) (hn : n0 ≤ S.2.1.length) (hcs : c0 ≤ S.2.2.1 ∧ s0 ≤ S.2.2.2) (hrm : S'.2.2.1 - c0 ≤ R.cells ∧ S'.2.2.2 - s0 ≤ R.slots) 
    (kk : gGoal p l e R s m args below meth c Q z k L xs n0 ad0 c0 s0 pc' lv' st' S') : gGoal p l e R s m args below meth c Q z k L xs n0 ad0 c0 s0 pc lv st S := by
  obtain ⟨hx, hb, hml, hown, hts⟩ := C
  obtain ⟨hd, rfl, hi⟩ := chk3 (A := decode (gccO k) pc = .ok (.iadd, glen (.iadd))) (n := nx) (m := pc + glen (.iadd)) (B := Nat.blt (gpx (.iadd)) 2000 && gchI k pc (.iadd) a b t v w) (gchE_at hm)
  obtain ⟨hx0, hi⟩ := and2 hi
  have hx0 : gpx (.iadd) < 2000 := blt_of hx0
  intro ad H locs ls hag hP hD hS hq hl
  have hs1 : (match (generalizing := false) st with
    | .inl y :: .inl x :: r => some ((pc + glen (.iadd)), lv, .inl (x + y) :: r, S)
    | _ => none) = some (pc', lv', st', S') := hs
  split at hs1
  · cases hs1
    exact lv_iadd hx hb hd (kk ad H locs ls hag hP hD hS hq hl)
  · cases hs1
theorem gs_isub  (C : GX k p s m args c) (K : GK z L xs s) (hf : GF z) (hR : 10 ≤ R.frames ∧ 200 ≤ R.locals) (hm : (gmiOf k).1 pc = some (.isub, nx, a, b, t, v, w)) (hs : gstep (.isub, nx, a, b, t, v, w) lv st S = some (pc', lv', st', S')) (hi9 : gInv S.2 lv st) (hn : n0 ≤ S.2.1.length) (hcs : c0 ≤ S.2.2.1 ∧ s0 ≤ S.2.2.2) (hrm : S'.2.2.1 - c0 ≤ R.cells ∧ S'.2.2.2 - s0 ≤ R.slots) 
    (kk : gGoal p l e R s m args below meth c Q z k L xs n0 ad0 c0 s0 pc' lv' st' S') : gGoal p l e R s m args below meth c Q z k L xs n0 ad0 c0 s0 pc lv st S := by
  obtain ⟨hx, hb, hml, hown, hts⟩ := C
  obtain ⟨hd, rfl, hi⟩ := chk3 (A := decode (gccO k) pc = .ok (.isub, glen (.isub))) (n := nx) (m := pc + glen (.isub)) (B := Nat.blt (gpx (.isub)) 2000 && gchI k pc (.isub) a b t v w) (gchE_at hm)
  obtain ⟨hx0, hi⟩ := and2 hi
  have hx0 : gpx (.isub) < 2000 := blt_of hx0
  intro ad H locs ls hag hP hD hS hq hl
  have hs1 : (match (generalizing := false) st with
    | .inl y :: .inl x :: r => some ((pc + glen (.isub)), lv, .inl (x - y) :: r, S)
    | _ => none) = some (pc', lv', st', S') := hs
  split at hs1
  · cases hs1
    exact lv_isub hx hb hd (kk ad H locs ls hag hP hD hS hq hl)
  · cases hs1
theorem gs_imul  (C : GX k p s m args c) (K : GK z L xs s) (hf : GF z) (hR : 10 ≤ R.frames ∧ 200 ≤ R.locals) (hm : (gmiOf k).1 pc = some (.imul, nx, a, b, t, v, w)) (hs : gstep (.imul, nx, a, b, t, v, w) lv st S = some (pc', lv', st', S')) (hi9 : gInv S.2 lv st) (hn : n0 ≤ S.2.1.length) (hcs : c0 ≤ S.2.2.1 ∧ s0 ≤ S.2.2.2) (hrm : S'.2.2.1 - c0 ≤ R.cells ∧ S'.2.2.2 - s0 ≤ R.slots) 
    (kk : gGoal p l e R s m args below meth c Q z k L xs n0 ad0 c0 s0 pc' lv' st' S') : gGoal p l e R s m args below meth c Q z k L xs n0 ad0 c0 s0 pc lv st S := by
  obtain ⟨hx, hb, hml, hown, hts⟩ := C
  obtain ⟨hd, rfl, hi⟩ := chk3 (A := decode (gccO k) pc = .ok (.imul, glen (.imul))) (n := nx) (m := pc + glen (.imul)) (B := Nat.blt (gpx (.imul)) 2000 && gchI k pc (.imul) a b t v w) (gchE_at hm)
  obtain ⟨hx0, hi⟩ := and2 hi
  have hx0 : gpx (.imul) < 2000 := blt_of hx0
  intro ad H locs ls hag hP hD hS hq hl
  have hs1 : (match (generalizing := false) st with
    | .inl y :: .inl x :: r => some ((pc + glen (.imul)), lv, .inl (x * y) :: r, S)
    | _ => none) = some (pc', lv', st', S') := hs
  split at hs1
  · cases hs1
    exact lv_imul hx hb hd (kk ad H locs ls hag hP hD hS hq hl)
  · cases hs1
theorem gs_iand  (C : GX k p s m args c) (K : GK z L xs s) (hf : GF z) (hR : 10 ≤ R.frames ∧ 200 ≤ R.locals) (hm : (gmiOf k).1 pc = some (.iand, nx, a, b, t, v, w)) (hs : gstep (.iand, nx, a, b, t, v, w) lv st S = some (pc', lv', st', S')) (hi9 : gInv S.2 lv st) (hn : n0 ≤ S.2.1.length) (hcs : c0 ≤ S.2.2.1 ∧ s0 ≤ S.2.2.2) (hrm : S'.2.2.1 - c0 ≤ R.cells ∧ S'.2.2.2 - s0 ≤ R.slots) 
    (kk : gGoal p l e R s m args below meth c Q z k L xs n0 ad0 c0 s0 pc' lv' st' S') : gGoal p l e R s m args below meth c Q z k L xs n0 ad0 c0 s0 pc lv st S := by
  obtain ⟨hx, hb, hml, hown, hts⟩ := C
  obtain ⟨hd, rfl, hi⟩ := chk3 (A := decode (gccO k) pc = .ok (.iand, glen (.iand))) (n := nx) (m := pc + glen (.iand)) (B := Nat.blt (gpx (.iand)) 2000 && gchI k pc (.iand) a b t v w) (gchE_at hm)
  obtain ⟨hx0, hi⟩ := and2 hi
  have hx0 : gpx (.iand) < 2000 := blt_of hx0
  intro ad H locs ls hag hP hD hS hq hl
  have hs1 : (match (generalizing := false) st with
    | .inl y :: .inl x :: r => some ((pc + glen (.iand)), lv, .inl (x &&& y) :: r, S)
    | _ => none) = some (pc', lv', st', S') := hs
  split at hs1
  · cases hs1
    exact lv_iand hx hb hd (kk ad H locs ls hag hP hD hS hq hl)
  · cases hs1
theorem gs_ior  (C : GX k p s m args c) (K : GK z L xs s) (hf : GF z) (hR : 10 ≤ R.frames ∧ 200 ≤ R.locals) (hm : (gmiOf k).1 pc = some (.ior, nx, a, b, t, v, w)) (hs : gstep (.ior, nx, a, b, t, v, w) lv st S = some (pc', lv', st', S')) (hi9 : gInv S.2 lv st) (hn : n0 ≤ S.2.1.length) (hcs : c0 ≤ S.2.2.1 ∧ s0 ≤ S.2.2.2) (hrm : S'.2.2.1 - c0 ≤ R.cells ∧ S'.2.2.2 - s0 ≤ R.slots) 
    (kk : gGoal p l e R s m args below meth c Q z k L xs n0 ad0 c0 s0 pc' lv' st' S') : gGoal p l e R s m args below meth c Q z k L xs n0 ad0 c0 s0 pc lv st S := by
  obtain ⟨hx, hb, hml, hown, hts⟩ := C
  obtain ⟨hd, rfl, hi⟩ := chk3 (A := decode (gccO k) pc = .ok (.ior, glen (.ior))) (n := nx) (m := pc + glen (.ior)) (B := Nat.blt (gpx (.ior)) 2000 && gchI k pc (.ior) a b t v w) (gchE_at hm)
  obtain ⟨hx0, hi⟩ := and2 hi
  have hx0 : gpx (.ior) < 2000 := blt_of hx0
  intro ad H locs ls hag hP hD hS hq hl
  have hs1 : (match (generalizing := false) st with
    | .inl y :: .inl x :: r => some ((pc + glen (.ior)), lv, .inl (x ||| y) :: r, S)
    | _ => none) = some (pc', lv', st', S') := hs
  split at hs1
  · cases hs1
    exact lv_ior hx hb hd (kk ad H locs ls hag hP hD hS hq hl)
  · cases hs1
theorem gs_ixor  (C : GX k p s m args c) (K : GK z L xs s) (hf : GF z) (hR : 10 ≤ R.frames ∧ 200 ≤ R.locals) (hm : (gmiOf k).1 pc = some (.ixor, nx, a, b, t, v, w)) (hs : gstep (.ixor, nx, a, b, t, v, w) lv st S = some (pc', lv', st', S')) (hi9 : gInv S.2 lv st) (hn : n0 ≤ S.2.1.length) (hcs : c0 ≤ S.2.2.1 ∧ s0 ≤ S.2.2.2) (hrm : S'.2.2.1 - c0 ≤ R.cells ∧ S'.2.2.2 - s0 ≤ R.slots) 
    (kk : gGoal p l e R s m args below meth c Q z k L xs n0 ad0 c0 s0 pc' lv' st' S') : gGoal p l e R s m args below meth c Q z k L xs n0 ad0 c0 s0 pc lv st S := by
  obtain ⟨hx, hb, hml, hown, hts⟩ := C
  obtain ⟨hd, rfl, hi⟩ := chk3 (A := decode (gccO k) pc = .ok (.ixor, glen (.ixor))) (n := nx) (m := pc + glen (.ixor)) (B := Nat.blt (gpx (.ixor)) 2000 && gchI k pc (.ixor) a b t v w) (gchE_at hm)
  obtain ⟨hx0, hi⟩ := and2 hi
  have hx0 : gpx (.ixor) < 2000 := blt_of hx0
  intro ad H locs ls hag hP hD hS hq hl
  have hs1 : (match (generalizing := false) st with
    | .inl y :: .inl x :: r => some ((pc + glen (.ixor)), lv, .inl (x ^^^ y) :: r, S)
    | _ => none) = some (pc', lv', st', S') := hs
  split at hs1
  · cases hs1
    exact lv_ixor hx hb hd (kk ad H locs ls hag hP hD hS hq hl)
  · cases hs1
theorem gs_ishl  (C : GX k p s m args c) (K : GK z L xs s) (hf : GF z) (hR : 10 ≤ R.frames ∧ 200 ≤ R.locals) (hm : (gmiOf k).1 pc = some (.ishl, nx, a, b, t, v, w)) (hs : gstep (.ishl, nx, a, b, t, v, w) lv st S = some (pc', lv', st', S')) (hi9 : gInv S.2 lv st) (hn : n0 ≤ S.2.1.length) (hcs : c0 ≤ S.2.2.1 ∧ s0 ≤ S.2.2.2) (hrm : S'.2.2.1 - c0 ≤ R.cells ∧ S'.2.2.2 - s0 ≤ R.slots) 
    (kk : gGoal p l e R s m args below meth c Q z k L xs n0 ad0 c0 s0 pc' lv' st' S') : gGoal p l e R s m args below meth c Q z k L xs n0 ad0 c0 s0 pc lv st S := by
  obtain ⟨hx, hb, hml, hown, hts⟩ := C
  obtain ⟨hd, rfl, hi⟩ := chk3 (A := decode (gccO k) pc = .ok (.ishl, glen (.ishl))) (n := nx) (m := pc + glen (.ishl)) (B := Nat.blt (gpx (.ishl)) 2000 && gchI k pc (.ishl) a b t v w) (gchE_at hm)
  obtain ⟨hx0, hi⟩ := and2 hi
  have hx0 : gpx (.ishl) < 2000 := blt_of hx0
  intro ad H locs ls hag hP hD hS hq hl
  have hs1 : (match (generalizing := false) st with
    | .inl y :: .inl x :: r => some ((pc + glen (.ishl)), lv, .inl (x <<< (y &&& 31)) :: r, S)
    | _ => none) = some (pc', lv', st', S') := hs
  split at hs1
  · cases hs1
    exact lv_ishl hx hb hd (kk ad H locs ls hag hP hD hS hq hl)
  · cases hs1
theorem gs_ishr  (C : GX k p s m args c) (K : GK z L xs s) (hf : GF z) (hR : 10 ≤ R.frames ∧ 200 ≤ R.locals) (hm : (gmiOf k).1 pc = some (.ishr, nx, a, b, t, v, w)) (hs : gstep (.ishr, nx, a, b, t, v, w) lv st S = some (pc', lv', st', S')) (hi9 : gInv S.2 lv st) (hn : n0 ≤ S.2.1.length) (hcs : c0 ≤ S.2.2.1 ∧ s0 ≤ S.2.2.2) (hrm : S'.2.2.1 - c0 ≤ R.cells ∧ S'.2.2.2 - s0 ≤ R.slots) 
    (kk : gGoal p l e R s m args below meth c Q z k L xs n0 ad0 c0 s0 pc' lv' st' S') : gGoal p l e R s m args below meth c Q z k L xs n0 ad0 c0 s0 pc lv st S := by
  obtain ⟨hx, hb, hml, hown, hts⟩ := C
  obtain ⟨hd, rfl, hi⟩ := chk3 (A := decode (gccO k) pc = .ok (.ishr, glen (.ishr))) (n := nx) (m := pc + glen (.ishr)) (B := Nat.blt (gpx (.ishr)) 2000 && gchI k pc (.ishr) a b t v w) (gchE_at hm)
  obtain ⟨hx0, hi⟩ := and2 hi
  have hx0 : gpx (.ishr) < 2000 := blt_of hx0
  intro ad H locs ls hag hP hD hS hq hl
  have hs1 : (match (generalizing := false) st with
    | .inl y :: .inl x :: r => some ((pc + glen (.ishr)), lv, .inl (x >>> (y &&& 31)) :: r, S)
    | _ => none) = some (pc', lv', st', S') := hs
  split at hs1
  · cases hs1
    exact lv_ishr hx hb hd (kk ad H locs ls hag hP hD hS hq hl)
  · cases hs1
theorem gs_ladd  (C : GX k p s m args c) (K : GK z L xs s) (hf : GF z) (hR : 10 ≤ R.frames ∧ 200 ≤ R.locals) (hm : (gmiOf k).1 pc = some (.ladd, nx, a, b, t, v, w)) (hs : gstep (.ladd, nx, a, b, t, v, w) lv st S = some (pc', lv', st', S')) (hi9 : gInv S.2 lv st) (hn : n0 ≤ S.2.1.length) (hcs : c0 ≤ S.2.2.1 ∧ s0 ≤ S.2.2.2) (hrm : S'.2.2.1 - c0 ≤ R.cells ∧ S'.2.2.2 - s0 ≤ R.slots) 
    (kk : gGoal p l e R s m args below meth c Q z k L xs n0 ad0 c0 s0 pc' lv' st' S') : gGoal p l e R s m args below meth c Q z k L xs n0 ad0 c0 s0 pc lv st S := by
  obtain ⟨hx, hb, hml, hown, hts⟩ := C
  obtain ⟨hd, rfl, hi⟩ := chk3 (A := decode (gccO k) pc = .ok (.ladd, glen (.ladd))) (n := nx) (m := pc + glen (.ladd)) (B := Nat.blt (gpx (.ladd)) 2000 && gchI k pc (.ladd) a b t v w) (gchE_at hm)
  obtain ⟨hx0, hi⟩ := and2 hi
  have hx0 : gpx (.ladd) < 2000 := blt_of hx0
  intro ad H locs ls hag hP hD hS hq hl
  have hs1 : (match (generalizing := false) st with
    | .inr (.inl y) :: .inr (.inl x) :: r => some ((pc + glen (.ladd)), lv, .inr (.inl (x + y)) :: r, S)
    | _ => none) = some (pc', lv', st', S') := hs
  split at hs1
  · cases hs1
    exact lv_ladd hx hb hd (kk ad H locs ls hag hP hD hS hq hl)
  · cases hs1
theorem gs_lsub  (C : GX k p s m args c) (K : GK z L xs s) (hf : GF z) (hR : 10 ≤ R.frames ∧ 200 ≤ R.locals) (hm : (gmiOf k).1 pc = some (.lsub, nx, a, b, t, v, w)) (hs : gstep (.lsub, nx, a, b, t, v, w) lv st S = some (pc', lv', st', S')) (hi9 : gInv S.2 lv st) (hn : n0 ≤ S.2.1.length) (hcs : c0 ≤ S.2.2.1 ∧ s0 ≤ S.2.2.2) (hrm : S'.2.2.1 - c0 ≤ R.cells ∧ S'.2.2.2 - s0 ≤ R.slots) 
    (kk : gGoal p l e R s m args below meth c Q z k L xs n0 ad0 c0 s0 pc' lv' st' S') : gGoal p l e R s m args below meth c Q z k L xs n0 ad0 c0 s0 pc lv st S := by
  obtain ⟨hx, hb, hml, hown, hts⟩ := C
  obtain ⟨hd, rfl, hi⟩ := chk3 (A := decode (gccO k) pc = .ok (.lsub, glen (.lsub))) (n := nx) (m := pc + glen (.lsub)) (B := Nat.blt (gpx (.lsub)) 2000 && gchI k pc (.lsub) a b t v w) (gchE_at hm)
  obtain ⟨hx0, hi⟩ := and2 hi
  have hx0 : gpx (.lsub) < 2000 := blt_of hx0
  intro ad H locs ls hag hP hD hS hq hl
  have hs1 : (match (generalizing := false) st with
    | .inr (.inl y) :: .inr (.inl x) :: r => some ((pc + glen (.lsub)), lv, .inr (.inl (x - y)) :: r, S)
    | _ => none) = some (pc', lv', st', S') := hs
  split at hs1
  · cases hs1
    exact lv_lsub hx hb hd (kk ad H locs ls hag hP hD hS hq hl)
  · cases hs1
theorem gs_lmul  (C : GX k p s m args c) (K : GK z L xs s) (hf : GF z) (hR : 10 ≤ R.frames ∧ 200 ≤ R.locals) (hm : (gmiOf k).1 pc = some (.lmul, nx, a, b, t, v, w)) (hs : gstep (.lmul, nx, a, b, t, v, w) lv st S = some (pc', lv', st', S')) (hi9 : gInv S.2 lv st) (hn : n0 ≤ S.2.1.length) (hcs : c0 ≤ S.2.2.1 ∧ s0 ≤ S.2.2.2) (hrm : S'.2.2.1 - c0 ≤ R.cells ∧ S'.2.2.2 - s0 ≤ R.slots) 
    (kk : gGoal p l e R s m args below meth c Q z k L xs n0 ad0 c0 s0 pc' lv' st' S') : gGoal p l e R s m args below meth c Q z k L xs n0 ad0 c0 s0 pc lv st S := by
  obtain ⟨hx, hb, hml, hown, hts⟩ := C
  obtain ⟨hd, rfl, hi⟩ := chk3 (A := decode (gccO k) pc = .ok (.lmul, glen (.lmul))) (n := nx) (m := pc + glen (.lmul)) (B := Nat.blt (gpx (.lmul)) 2000 && gchI k pc (.lmul) a b t v w) (gchE_at hm)
  obtain ⟨hx0, hi⟩ := and2 hi
  have hx0 : gpx (.lmul) < 2000 := blt_of hx0
  intro ad H locs ls hag hP hD hS hq hl
  have hs1 : (match (generalizing := false) st with
    | .inr (.inl y) :: .inr (.inl x) :: r => some ((pc + glen (.lmul)), lv, .inr (.inl (x * y)) :: r, S)
    | _ => none) = some (pc', lv', st', S') := hs
  split at hs1
  · cases hs1
    exact lv_lmul hx hb hd (kk ad H locs ls hag hP hD hS hq hl)
  · cases hs1
theorem gs_ineg  (C : GX k p s m args c) (K : GK z L xs s) (hf : GF z) (hR : 10 ≤ R.frames ∧ 200 ≤ R.locals) (hm : (gmiOf k).1 pc = some (.ineg, nx, a, b, t, v, w)) (hs : gstep (.ineg, nx, a, b, t, v, w) lv st S = some (pc', lv', st', S')) (hi9 : gInv S.2 lv st) (hn : n0 ≤ S.2.1.length) (hcs : c0 ≤ S.2.2.1 ∧ s0 ≤ S.2.2.2) (hrm : S'.2.2.1 - c0 ≤ R.cells ∧ S'.2.2.2 - s0 ≤ R.slots) 
    (kk : gGoal p l e R s m args below meth c Q z k L xs n0 ad0 c0 s0 pc' lv' st' S') : gGoal p l e R s m args below meth c Q z k L xs n0 ad0 c0 s0 pc lv st S := by
  obtain ⟨hx, hb, hml, hown, hts⟩ := C
  obtain ⟨hd, rfl, hi⟩ := chk3 (A := decode (gccO k) pc = .ok (.ineg, glen (.ineg))) (n := nx) (m := pc + glen (.ineg)) (B := Nat.blt (gpx (.ineg)) 2000 && gchI k pc (.ineg) a b t v w) (gchE_at hm)
  obtain ⟨hx0, hi⟩ := and2 hi
  have hx0 : gpx (.ineg) < 2000 := blt_of hx0
  intro ad H locs ls hag hP hD hS hq hl
  have hs1 : (match (generalizing := false) st with
    | .inl x :: r => some ((pc + glen (.ineg)), lv, .inl (-x) :: r, S)
    | _ => none) = some (pc', lv', st', S') := hs
  split at hs1
  · cases hs1
    exact lv_ineg hx hb hd (kk ad H locs ls hag hP hD hS hq hl)
  · cases hs1
theorem gs_iushr  (C : GX k p s m args c) (K : GK z L xs s) (hf : GF z) (hR : 10 ≤ R.frames ∧ 200 ≤ R.locals) (hm : (gmiOf k).1 pc = some (.iushr, nx, a, b, t, v, w)) (hs : gstep (.iushr, nx, a, b, t, v, w) lv st S = some (pc', lv', st', S')) (hi9 : gInv S.2 lv st) (hn : n0 ≤ S.2.1.length) (hcs : c0 ≤ S.2.2.1 ∧ s0 ≤ S.2.2.2) (hrm : S'.2.2.1 - c0 ≤ R.cells ∧ S'.2.2.2 - s0 ≤ R.slots) 
    (kk : gGoal p l e R s m args below meth c Q z k L xs n0 ad0 c0 s0 pc' lv' st' S') : gGoal p l e R s m args below meth c Q z k L xs n0 ad0 c0 s0 pc lv st S := by
  obtain ⟨hx, hb, hml, hown, hts⟩ := C
  obtain ⟨hd, rfl, hi⟩ := chk3 (A := decode (gccO k) pc = .ok (.iushr, glen (.iushr))) (n := nx) (m := pc + glen (.iushr)) (B := Nat.blt (gpx (.iushr)) 2000 && gchI k pc (.iushr) a b t v w) (gchE_at hm)
  obtain ⟨hx0, hi⟩ := and2 hi
  have hx0 : gpx (.iushr) < 2000 := blt_of hx0
  intro ad H locs ls hag hP hD hS hq hl
  have hs1 : (match (generalizing := false) st with
    | .inl y :: .inl x :: r => some ((pc + glen (.iushr)), lv, .inl ((x.toUInt32 >>> (y.toUInt32 &&& Int32.toUInt32 31)).toInt32) :: r, S)
    | _ => none) = some (pc', lv', st', S') := hs
  split at hs1
  · cases hs1
    exact lv_iushr hx hb hd rfl (kk ad H locs ls hag hP hD hS hq hl)
  · cases hs1
theorem gs_idiv  (C : GX k p s m args c) (K : GK z L xs s) (hf : GF z) (hR : 10 ≤ R.frames ∧ 200 ≤ R.locals) (hm : (gmiOf k).1 pc = some (.idiv, nx, a, b, t, v, w)) (hs : gstep (.idiv, nx, a, b, t, v, w) lv st S = some (pc', lv', st', S')) (hi9 : gInv S.2 lv st) (hn : n0 ≤ S.2.1.length) (hcs : c0 ≤ S.2.2.1 ∧ s0 ≤ S.2.2.2) (hrm : S'.2.2.1 - c0 ≤ R.cells ∧ S'.2.2.2 - s0 ≤ R.slots) 
    (kk : gGoal p l e R s m args below meth c Q z k L xs n0 ad0 c0 s0 pc' lv' st' S') : gGoal p l e R s m args below meth c Q z k L xs n0 ad0 c0 s0 pc lv st S := by
  obtain ⟨hx, hb, hml, hown, hts⟩ := C
  obtain ⟨hd, rfl, hi⟩ := chk3 (A := decode (gccO k) pc = .ok (.idiv, glen (.idiv))) (n := nx) (m := pc + glen (.idiv)) (B := Nat.blt (gpx (.idiv)) 2000 && gchI k pc (.idiv) a b t v w) (gchE_at hm)
  obtain ⟨hx0, hi⟩ := and2 hi
  have hx0 : gpx (.idiv) < 2000 := blt_of hx0
  intro ad H locs ls hag hP hD hS hq hl
  have hs1 : (match (generalizing := false) st with
    | .inl y :: .inl x :: r => (gDv x y).map fun z => ((pc + glen (.idiv)), lv, .inl z :: r, S)
    | _ => none) = some (pc', lv', st', S') := hs
  split at hs1
  · rename_i y x r
    obtain ⟨z9, h9, e9⟩ := mp2 hs1
    cases e9
    unfold gDv at h9
    by_cases hy : y = 0
    · rw [if_pos hy] at h9
      cases h9
    · rw [if_neg hy] at h9
      cases h9
      exact lv_idiv hx hb hd hy (kk ad H locs ls hag hP hD hS hq hl)
  · cases hs1
theorem gs_irem  (C : GX k p s m args c) (K : GK z L xs s) (hf : GF z) (hR : 10 ≤ R.frames ∧ 200 ≤ R.locals) (hm : (gmiOf k).1 pc = some (.irem, nx, a, b, t, v, w)) (hs : gstep (.irem, nx, a, b, t, v, w) lv st S = some (pc', lv', st', S')) (hi9 : gInv S.2 lv st) (hn : n0 ≤ S.2.1.length) (hcs : c0 ≤ S.2.2.1 ∧ s0 ≤ S.2.2.2) (hrm : S'.2.2.1 - c0 ≤ R.cells ∧ S'.2.2.2 - s0 ≤ R.slots) 
    (kk : gGoal p l e R s m args below meth c Q z k L xs n0 ad0 c0 s0 pc' lv' st' S') : gGoal p l e R s m args below meth c Q z k L xs n0 ad0 c0 s0 pc lv st S := by
  obtain ⟨hx, hb, hml, hown, hts⟩ := C
  obtain ⟨hd, rfl, hi⟩ := chk3 (A := decode (gccO k) pc = .ok (.irem, glen (.irem))) (n := nx) (m := pc + glen (.irem)) (B := Nat.blt (gpx (.irem)) 2000 && gchI k pc (.irem) a b t v w) (gchE_at hm)
  obtain ⟨hx0, hi⟩ := and2 hi
  have hx0 : gpx (.irem) < 2000 := blt_of hx0
  intro ad H locs ls hag hP hD hS hq hl
  have hs1 : (match (generalizing := false) st with
    | .inl y :: .inl x :: r => (gRm x y).map fun z => ((pc + glen (.irem)), lv, .inl z :: r, S)
    | _ => none) = some (pc', lv', st', S') := hs
  split at hs1
  · rename_i y x r
    obtain ⟨z9, h9, e9⟩ := mp2 hs1
    cases e9
    unfold gRm at h9
    by_cases hy : y = 0
    · rw [if_pos hy] at h9
      cases h9
    · rw [if_neg hy] at h9
      cases h9
      exact lv_irem hx hb hd hy (kk ad H locs ls hag hP hD hS hq hl)
  · cases hs1
theorem gs_ldiv  (C : GX k p s m args c) (K : GK z L xs s) (hf : GF z) (hR : 10 ≤ R.frames ∧ 200 ≤ R.locals) (hm : (gmiOf k).1 pc = some (.ldiv, nx, a, b, t, v, w)) (hs : gstep (.ldiv, nx, a, b, t, v, w) lv st S = some (pc', lv', st', S')) (hi9 : gInv S.2 lv st) (hn : n0 ≤ S.2.1.length) (hcs : c0 ≤ S.2.2.1 ∧ s0 ≤ S.2.2.2) (hrm : S'.2.2.1 - c0 ≤ R.cells ∧ S'.2.2.2 - s0 ≤ R.slots) 
    (kk : gGoal p l e R s m args below meth c Q z k L xs n0 ad0 c0 s0 pc' lv' st' S') : gGoal p l e R s m args below meth c Q z k L xs n0 ad0 c0 s0 pc lv st S := by
  obtain ⟨hx, hb, hml, hown, hts⟩ := C
  obtain ⟨hd, rfl, hi⟩ := chk3 (A := decode (gccO k) pc = .ok (.ldiv, glen (.ldiv))) (n := nx) (m := pc + glen (.ldiv)) (B := Nat.blt (gpx (.ldiv)) 2000 && gchI k pc (.ldiv) a b t v w) (gchE_at hm)
  obtain ⟨hx0, hi⟩ := and2 hi
  have hx0 : gpx (.ldiv) < 2000 := blt_of hx0
  intro ad H locs ls hag hP hD hS hq hl
  have hs1 : (match (generalizing := false) st with
    | .inr (.inl y) :: .inr (.inl x) :: r => (dvl x y).map fun z => ((pc + glen (.ldiv)), lv, .inr (.inl z) :: r, S)
    | _ => none) = some (pc', lv', st', S') := hs
  split at hs1
  · rename_i y x r
    obtain ⟨z9, h9, e9⟩ := mp2 hs1
    cases e9
    unfold dvl at h9
    by_cases hy : y = 0
    · rw [if_pos hy] at h9
      cases h9
    · rw [if_neg hy] at h9
      cases h9
      exact lv_ldiv hx hb hd hy (kk ad H locs ls hag hP hD hS hq hl)
  · cases hs1
theorem gs_lcmp  (C : GX k p s m args c) (K : GK z L xs s) (hf : GF z) (hR : 10 ≤ R.frames ∧ 200 ≤ R.locals) (hm : (gmiOf k).1 pc = some (.lcmp, nx, a, b, t, v, w)) (hs : gstep (.lcmp, nx, a, b, t, v, w) lv st S = some (pc', lv', st', S')) (hi9 : gInv S.2 lv st) (hn : n0 ≤ S.2.1.length) (hcs : c0 ≤ S.2.2.1 ∧ s0 ≤ S.2.2.2) (hrm : S'.2.2.1 - c0 ≤ R.cells ∧ S'.2.2.2 - s0 ≤ R.slots) 
    (kk : gGoal p l e R s m args below meth c Q z k L xs n0 ad0 c0 s0 pc' lv' st' S') : gGoal p l e R s m args below meth c Q z k L xs n0 ad0 c0 s0 pc lv st S := by
  obtain ⟨hx, hb, hml, hown, hts⟩ := C
  obtain ⟨hd, rfl, hi⟩ := chk3 (A := decode (gccO k) pc = .ok (.lcmp, glen (.lcmp))) (n := nx) (m := pc + glen (.lcmp)) (B := Nat.blt (gpx (.lcmp)) 2000 && gchI k pc (.lcmp) a b t v w) (gchE_at hm)
  obtain ⟨hx0, hi⟩ := and2 hi
  have hx0 : gpx (.lcmp) < 2000 := blt_of hx0
  intro ad H locs ls hag hP hD hS hq hl
  have hs1 : (match (generalizing := false) st with
    | .inr (.inl y) :: .inr (.inl x) :: r => some ((pc + glen (.lcmp)), lv, .inl (lg_cmp x y) :: r, S)
    | _ => none) = some (pc', lv', st', S') := hs
  split at hs1
  · cases hs1
    exact W.lcmp hx hb hd (kk ad H locs ls hag hP hD hS hq hl)
  · cases hs1
theorem gs_i2l  (C : GX k p s m args c) (K : GK z L xs s) (hf : GF z) (hR : 10 ≤ R.frames ∧ 200 ≤ R.locals) (hm : (gmiOf k).1 pc = some (.i2l, nx, a, b, t, v, w)) (hs : gstep (.i2l, nx, a, b, t, v, w) lv st S = some (pc', lv', st', S')) (hi9 : gInv S.2 lv st) (hn : n0 ≤ S.2.1.length) (hcs : c0 ≤ S.2.2.1 ∧ s0 ≤ S.2.2.2) (hrm : S'.2.2.1 - c0 ≤ R.cells ∧ S'.2.2.2 - s0 ≤ R.slots) 
    (kk : gGoal p l e R s m args below meth c Q z k L xs n0 ad0 c0 s0 pc' lv' st' S') : gGoal p l e R s m args below meth c Q z k L xs n0 ad0 c0 s0 pc lv st S := by
  obtain ⟨hx, hb, hml, hown, hts⟩ := C
  obtain ⟨hd, rfl, hi⟩ := chk3 (A := decode (gccO k) pc = .ok (.i2l, glen (.i2l))) (n := nx) (m := pc + glen (.i2l)) (B := Nat.blt (gpx (.i2l)) 2000 && gchI k pc (.i2l) a b t v w) (gchE_at hm)
  obtain ⟨hx0, hi⟩ := and2 hi
  have hx0 : gpx (.i2l) < 2000 := blt_of hx0
  intro ad H locs ls hag hP hD hS hq hl
  have hs1 : (match (generalizing := false) st with
    | .inl x :: r => some ((pc + glen (.i2l)), lv, .inr (.inl x.toInt64) :: r, S)
    | _ => none) = some (pc', lv', st', S') := hs
  split at hs1
  · cases hs1
    exact lv_i2l hx hb hd rfl (kk ad H locs ls hag hP hD hS hq hl)
  · cases hs1
theorem gs_l2i  (C : GX k p s m args c) (K : GK z L xs s) (hf : GF z) (hR : 10 ≤ R.frames ∧ 200 ≤ R.locals) (hm : (gmiOf k).1 pc = some (.l2i, nx, a, b, t, v, w)) (hs : gstep (.l2i, nx, a, b, t, v, w) lv st S = some (pc', lv', st', S')) (hi9 : gInv S.2 lv st) (hn : n0 ≤ S.2.1.length) (hcs : c0 ≤ S.2.2.1 ∧ s0 ≤ S.2.2.2) (hrm : S'.2.2.1 - c0 ≤ R.cells ∧ S'.2.2.2 - s0 ≤ R.slots) 
    (kk : gGoal p l e R s m args below meth c Q z k L xs n0 ad0 c0 s0 pc' lv' st' S') : gGoal p l e R s m args below meth c Q z k L xs n0 ad0 c0 s0 pc lv st S := by
  obtain ⟨hx, hb, hml, hown, hts⟩ := C
  obtain ⟨hd, rfl, hi⟩ := chk3 (A := decode (gccO k) pc = .ok (.l2i, glen (.l2i))) (n := nx) (m := pc + glen (.l2i)) (B := Nat.blt (gpx (.l2i)) 2000 && gchI k pc (.l2i) a b t v w) (gchE_at hm)
  obtain ⟨hx0, hi⟩ := and2 hi
  have hx0 : gpx (.l2i) < 2000 := blt_of hx0
  intro ad H locs ls hag hP hD hS hq hl
  have hs1 : (match (generalizing := false) st with
    | .inr (.inl x) :: r => some ((pc + glen (.l2i)), lv, .inl x.toInt32 :: r, S)
    | _ => none) = some (pc', lv', st', S') := hs
  split at hs1
  · cases hs1
    exact lv_l2i hx hb hd rfl (kk ad H locs ls hag hP hD hS hq hl)
  · cases hs1
theorem gs_i2c  (C : GX k p s m args c) (K : GK z L xs s) (hf : GF z) (hR : 10 ≤ R.frames ∧ 200 ≤ R.locals) (hm : (gmiOf k).1 pc = some (.i2c, nx, a, b, t, v, w)) (hs : gstep (.i2c, nx, a, b, t, v, w) lv st S = some (pc', lv', st', S')) (hi9 : gInv S.2 lv st) (hn : n0 ≤ S.2.1.length) (hcs : c0 ≤ S.2.2.1 ∧ s0 ≤ S.2.2.2) (hrm : S'.2.2.1 - c0 ≤ R.cells ∧ S'.2.2.2 - s0 ≤ R.slots) 
    (kk : gGoal p l e R s m args below meth c Q z k L xs n0 ad0 c0 s0 pc' lv' st' S') : gGoal p l e R s m args below meth c Q z k L xs n0 ad0 c0 s0 pc lv st S := by
  obtain ⟨hx, hb, hml, hown, hts⟩ := C
  obtain ⟨hd, rfl, hi⟩ := chk3 (A := decode (gccO k) pc = .ok (.i2c, glen (.i2c))) (n := nx) (m := pc + glen (.i2c)) (B := Nat.blt (gpx (.i2c)) 2000 && gchI k pc (.i2c) a b t v w) (gchE_at hm)
  obtain ⟨hx0, hi⟩ := and2 hi
  have hx0 : gpx (.i2c) < 2000 := blt_of hx0
  intro ad H locs ls hag hP hD hS hq hl
  have hs1 : (match (generalizing := false) st with
    | .inl x :: r => some ((pc + glen (.i2c)), lv, .inl (vp_nar .char x) :: r, S)
    | _ => none) = some (pc', lv', st', S') := hs
  split at hs1
  · cases hs1
    exact lv_i2c hx hb hd rfl (kk ad H locs ls hag hP hD hS hq hl)
  · cases hs1
theorem gs_dup  (C : GX k p s m args c) (K : GK z L xs s) (hf : GF z) (hR : 10 ≤ R.frames ∧ 200 ≤ R.locals) (hm : (gmiOf k).1 pc = some (.dup, nx, a, b, t, v, w)) (hs : gstep (.dup, nx, a, b, t, v, w) lv st S = some (pc', lv', st', S')) (hi9 : gInv S.2 lv st) (hn : n0 ≤ S.2.1.length) (hcs : c0 ≤ S.2.2.1 ∧ s0 ≤ S.2.2.2) (hrm : S'.2.2.1 - c0 ≤ R.cells ∧ S'.2.2.2 - s0 ≤ R.slots) 
    (kk : gGoal p l e R s m args below meth c Q z k L xs n0 ad0 c0 s0 pc' lv' st' S') : gGoal p l e R s m args below meth c Q z k L xs n0 ad0 c0 s0 pc lv st S := by
  obtain ⟨hx, hb, hml, hown, hts⟩ := C
  obtain ⟨hd, rfl, hi⟩ := chk3 (A := decode (gccO k) pc = .ok (.dup, glen (.dup))) (n := nx) (m := pc + glen (.dup)) (B := Nat.blt (gpx (.dup)) 2000 && gchI k pc (.dup) a b t v w) (gchE_at hm)
  obtain ⟨hx0, hi⟩ := and2 hi
  have hx0 : gpx (.dup) < 2000 := blt_of hx0
  intro ad H locs ls hag hP hD hS hq hl
  have hs1 : (match (generalizing := false) st with
    | .inl x :: r => some ((pc + glen (.dup)), lv, .inl x :: .inl x :: r, S)
    | .inr (.inr x) :: r => some ((pc + glen (.dup)), lv, .inr (.inr x) :: .inr (.inr x) :: r, S)
    | _ => none) = some (pc', lv', st', S') := hs
  split at hs1
  · cases hs1
    exact lv_dup hx hb hd rfl (kk ad H locs ls hag hP hD hS hq hl)
  · rename_i x r
    cases hs1
    cases x <;> exact lv_dup hx hb hd rfl (kk ad H locs ls hag hP hD hS hq hl)
  · cases hs1
theorem gs_dup2  (C : GX k p s m args c) (K : GK z L xs s) (hf : GF z) (hR : 10 ≤ R.frames ∧ 200 ≤ R.locals) (hm : (gmiOf k).1 pc = some (.dup2, nx, a, b, t, v, w)) (hs : gstep (.dup2, nx, a, b, t, v, w) lv st S = some (pc', lv', st', S')) (hi9 : gInv S.2 lv st) (hn : n0 ≤ S.2.1.length) (hcs : c0 ≤ S.2.2.1 ∧ s0 ≤ S.2.2.2) (hrm : S'.2.2.1 - c0 ≤ R.cells ∧ S'.2.2.2 - s0 ≤ R.slots) 
    (kk : gGoal p l e R s m args below meth c Q z k L xs n0 ad0 c0 s0 pc' lv' st' S') : gGoal p l e R s m args below meth c Q z k L xs n0 ad0 c0 s0 pc lv st S := by
  obtain ⟨hx, hb, hml, hown, hts⟩ := C
  obtain ⟨hd, rfl, hi⟩ := chk3 (A := decode (gccO k) pc = .ok (.dup2, glen (.dup2))) (n := nx) (m := pc + glen (.dup2)) (B := Nat.blt (gpx (.dup2)) 2000 && gchI k pc (.dup2) a b t v w) (gchE_at hm)
  obtain ⟨hx0, hi⟩ := and2 hi
  have hx0 : gpx (.dup2) < 2000 := blt_of hx0
  intro ad H locs ls hag hP hD hS hq hl
  have hs1 : (match (generalizing := false) st with
    | .inl y :: .inr (.inr x) :: r => some ((pc + glen (.dup2)), lv, .inl y :: .inr (.inr x) :: .inl y :: .inr (.inr x) :: r, S)
    | _ => none) = some (pc', lv', st', S') := hs
  split at hs1
  · rename_i y x r
    cases hs1
    cases x <;> exact lv_dup2_11 hx hb hd rfl rfl (kk ad H locs ls hag hP hD hS hq hl)
  · cases hs1
theorem gs_pop  (C : GX k p s m args c) (K : GK z L xs s) (hf : GF z) (hR : 10 ≤ R.frames ∧ 200 ≤ R.locals) (hm : (gmiOf k).1 pc = some (.pop, nx, a, b, t, v, w)) (hs : gstep (.pop, nx, a, b, t, v, w) lv st S = some (pc', lv', st', S')) (hi9 : gInv S.2 lv st) (hn : n0 ≤ S.2.1.length) (hcs : c0 ≤ S.2.2.1 ∧ s0 ≤ S.2.2.2) (hrm : S'.2.2.1 - c0 ≤ R.cells ∧ S'.2.2.2 - s0 ≤ R.slots) 
    (kk : gGoal p l e R s m args below meth c Q z k L xs n0 ad0 c0 s0 pc' lv' st' S') : gGoal p l e R s m args below meth c Q z k L xs n0 ad0 c0 s0 pc lv st S := by
  obtain ⟨hx, hb, hml, hown, hts⟩ := C
  obtain ⟨hd, rfl, hi⟩ := chk3 (A := decode (gccO k) pc = .ok (.pop, glen (.pop))) (n := nx) (m := pc + glen (.pop)) (B := Nat.blt (gpx (.pop)) 2000 && gchI k pc (.pop) a b t v w) (gchE_at hm)
  obtain ⟨hx0, hi⟩ := and2 hi
  have hx0 : gpx (.pop) < 2000 := blt_of hx0
  intro ad H locs ls hag hP hD hS hq hl
  have hs1 : (match (generalizing := false) st with
    | .inl _ :: r => some ((pc + glen (.pop)), lv, r, S)
    | .inr (.inr _) :: r => some ((pc + glen (.pop)), lv, r, S)
    | _ => none) = some (pc', lv', st', S') := hs
  split at hs1
  · cases hs1
    exact lv_pop hx hb hd rfl (kk ad H locs ls hag hP hD hS hq hl)
  · rename_i x r
    cases hs1
    cases x <;> exact lv_pop hx hb hd rfl (kk ad H locs ls hag hP hD hS hq hl)
  · cases hs1
theorem gs_goto {o : Int} (C : GX k p s m args c) (K : GK z L xs s) (hf : GF z) (hR : 10 ≤ R.frames ∧ 200 ≤ R.locals) (hm : (gmiOf k).1 pc = some ((.goto o), nx, a, b, t, v, w)) (hs : gstep ((.goto o), nx, a, b, t, v, w) lv st S = some (pc', lv', st', S')) (hi9 : gInv S.2 lv st) (hn : n0 ≤ S.2.1.length) (hcs : c0 ≤ S.2.2.1 ∧ s0 ≤ S.2.2.2) (hrm : S'.2.2.1 - c0 ≤ R.cells ∧ S'.2.2.2 - s0 ≤ R.slots) 
    (kk : gGoal p l e R s m args below meth c Q z k L xs n0 ad0 c0 s0 pc' lv' st' S') : gGoal p l e R s m args below meth c Q z k L xs n0 ad0 c0 s0 pc lv st S := by
  obtain ⟨hx, hb, hml, hown, hts⟩ := C
  obtain ⟨hd, rfl, hi⟩ := chk3 (A := decode (gccO k) pc = .ok ((.goto o), glen ((.goto o)))) (n := nx) (m := pc + glen ((.goto o))) (B := Nat.blt (gpx ((.goto o))) 2000 && gchI k pc ((.goto o)) a b t v w) (gchE_at hm)
  obtain ⟨hx0, hi⟩ := and2 hi
  have hx0 : gpx ((.goto o)) < 2000 := blt_of hx0
  intro ad H locs ls hag hP hD hS hq hl
  have hs1 : (some (a, lv, st, S)) = some (pc', lv', st', S') := hs
  cases hs1
  exact lv_goto hx hb hd (of_decide_eq_true hi) (kk ad H locs ls hag hP hD hS hq hl)
theorem gs_ifnull {o : Int} (C : GX k p s m args c) (K : GK z L xs s) (hf : GF z) (hR : 10 ≤ R.frames ∧ 200 ≤ R.locals) (hm : (gmiOf k).1 pc = some ((.ifnull o), nx, a, b, t, v, w)) (hs : gstep ((.ifnull o), nx, a, b, t, v, w) lv st S = some (pc', lv', st', S')) (hi9 : gInv S.2 lv st) (hn : n0 ≤ S.2.1.length) (hcs : c0 ≤ S.2.2.1 ∧ s0 ≤ S.2.2.2) (hrm : S'.2.2.1 - c0 ≤ R.cells ∧ S'.2.2.2 - s0 ≤ R.slots) 
    (kk : gGoal p l e R s m args below meth c Q z k L xs n0 ad0 c0 s0 pc' lv' st' S') : gGoal p l e R s m args below meth c Q z k L xs n0 ad0 c0 s0 pc lv st S := by
  obtain ⟨hx, hb, hml, hown, hts⟩ := C
  obtain ⟨hd, rfl, hi⟩ := chk3 (A := decode (gccO k) pc = .ok ((.ifnull o), glen ((.ifnull o)))) (n := nx) (m := pc + glen ((.ifnull o))) (B := Nat.blt (gpx ((.ifnull o))) 2000 && gchI k pc ((.ifnull o)) a b t v w) (gchE_at hm)
  obtain ⟨hx0, hi⟩ := and2 hi
  have hx0 : gpx ((.ifnull o)) < 2000 := blt_of hx0
  intro ad H locs ls hag hP hD hS hq hl
  have hs1 : (match (generalizing := false) st with
    | .inr (.inr x) :: r => if x = none then some (a, lv, r, S) else some ((pc + glen ((.ifnull o))), lv, r, S)
    | _ => none) = some (pc', lv', st', S') := hs
  split at hs1
  · rename_i x r
    cases x with
    | none =>
      rw [if_pos rfl] at hs1
      cases hs1
      exact lv_ifnullN hx hb hd (of_decide_eq_true hi) (kk ad H locs ls hag hP hD hS hq hl)
    | some x =>
      rw [if_neg (fun q => by cases q)] at hs1
      cases hs1
      exact lv_ifnull hx hb hd (kk ad H locs ls hag hP hD hS hq hl)
  · cases hs1
theorem gs_ifnonnull {o : Int} (C : GX k p s m args c) (K : GK z L xs s) (hf : GF z) (hR : 10 ≤ R.frames ∧ 200 ≤ R.locals) (hm : (gmiOf k).1 pc = some ((.ifnonnull o), nx, a, b, t, v, w)) (hs : gstep ((.ifnonnull o), nx, a, b, t, v, w) lv st S = some (pc', lv', st', S')) (hi9 : gInv S.2 lv st) (hn : n0 ≤ S.2.1.length) (hcs : c0 ≤ S.2.2.1 ∧ s0 ≤ S.2.2.2) (hrm : S'.2.2.1 - c0 ≤ R.cells ∧ S'.2.2.2 - s0 ≤ R.slots) 
    (kk : gGoal p l e R s m args below meth c Q z k L xs n0 ad0 c0 s0 pc' lv' st' S') : gGoal p l e R s m args below meth c Q z k L xs n0 ad0 c0 s0 pc lv st S := by
  obtain ⟨hx, hb, hml, hown, hts⟩ := C
  obtain ⟨hd, rfl, hi⟩ := chk3 (A := decode (gccO k) pc = .ok ((.ifnonnull o), glen ((.ifnonnull o)))) (n := nx) (m := pc + glen ((.ifnonnull o))) (B := Nat.blt (gpx ((.ifnonnull o))) 2000 && gchI k pc ((.ifnonnull o)) a b t v w) (gchE_at hm)
  obtain ⟨hx0, hi⟩ := and2 hi
  have hx0 : gpx ((.ifnonnull o)) < 2000 := blt_of hx0
  intro ad H locs ls hag hP hD hS hq hl
  have hs1 : (match (generalizing := false) st with
    | .inr (.inr x) :: r => if x = none then some ((pc + glen ((.ifnonnull o))), lv, r, S) else some (a, lv, r, S)
    | _ => none) = some (pc', lv', st', S') := hs
  split at hs1
  · rename_i x r
    cases x with
    | none =>
      rw [if_pos rfl] at hs1
      cases hs1
      exact lv_ifnonnullN hx hb hd (kk ad H locs ls hag hP hD hS hq hl)
    | some x =>
      rw [if_neg (fun q => by cases q)] at hs1
      cases hs1
      exact lv_ifnonnull hx hb hd (of_decide_eq_true hi) (kk ad H locs ls hag hP hD hS hq hl)
  · cases hs1
theorem gs_if_eq {o : Int} (C : GX k p s m args c) (K : GK z L xs s) (hf : GF z) (hR : 10 ≤ R.frames ∧ 200 ≤ R.locals) (hm : (gmiOf k).1 pc = some ((.ifCond .eq o), nx, a, b, t, v, w)) (hs : gstep ((.ifCond .eq o), nx, a, b, t, v, w) lv st S = some (pc', lv', st', S')) (hi9 : gInv S.2 lv st) (hn : n0 ≤ S.2.1.length) (hcs : c0 ≤ S.2.2.1 ∧ s0 ≤ S.2.2.2) (hrm : S'.2.2.1 - c0 ≤ R.cells ∧ S'.2.2.2 - s0 ≤ R.slots) 
    (kk : gGoal p l e R s m args below meth c Q z k L xs n0 ad0 c0 s0 pc' lv' st' S') : gGoal p l e R s m args below meth c Q z k L xs n0 ad0 c0 s0 pc lv st S := by
  obtain ⟨hx, hb, hml, hown, hts⟩ := C
  obtain ⟨hd, rfl, hi⟩ := chk3 (A := decode (gccO k) pc = .ok ((.ifCond .eq o), glen ((.ifCond .eq o)))) (n := nx) (m := pc + glen ((.ifCond .eq o))) (B := Nat.blt (gpx ((.ifCond .eq o))) 2000 && gchI k pc ((.ifCond .eq o)) a b t v w) (gchE_at hm)
  obtain ⟨hx0, hi⟩ := and2 hi
  have hx0 : gpx ((.ifCond .eq o)) < 2000 := blt_of hx0
  intro ad H locs ls hag hP hD hS hq hl
  have hs1 : (match (generalizing := false) st with
    | .inl x :: r => if x = 0 then some (a, lv, r, S) else some ((pc + glen ((.ifCond .eq o))), lv, r, S)
    | _ => none) = some (pc', lv', st', S') := hs
  split at hs1
  · rename_i x r
    by_cases q : x = 0
    · rw [if_pos q] at hs1
      cases hs1
      exact lv_if_eq hx hb hd (of_decide_eq_true hi) (fun _ => (kk ad H locs ls hag hP hD hS hq hl)) (fun q2 => absurd q q2)
    · rw [if_neg q] at hs1
      cases hs1
      exact lv_if_eq hx hb hd (of_decide_eq_true hi) (fun q2 => absurd q2 q) (fun _ => (kk ad H locs ls hag hP hD hS hq hl))
  · cases hs1
theorem gs_icmp_eq {o : Int} (C : GX k p s m args c) (K : GK z L xs s) (hf : GF z) (hR : 10 ≤ R.frames ∧ 200 ≤ R.locals) (hm : (gmiOf k).1 pc = some ((.if_icmp .eq o), nx, a, b, t, v, w)) (hs : gstep ((.if_icmp .eq o), nx, a, b, t, v, w) lv st S = some (pc', lv', st', S')) (hi9 : gInv S.2 lv st) (hn : n0 ≤ S.2.1.length) (hcs : c0 ≤ S.2.2.1 ∧ s0 ≤ S.2.2.2) (hrm : S'.2.2.1 - c0 ≤ R.cells ∧ S'.2.2.2 - s0 ≤ R.slots) 
    (kk : gGoal p l e R s m args below meth c Q z k L xs n0 ad0 c0 s0 pc' lv' st' S') : gGoal p l e R s m args below meth c Q z k L xs n0 ad0 c0 s0 pc lv st S := by
  obtain ⟨hx, hb, hml, hown, hts⟩ := C
  obtain ⟨hd, rfl, hi⟩ := chk3 (A := decode (gccO k) pc = .ok ((.if_icmp .eq o), glen ((.if_icmp .eq o)))) (n := nx) (m := pc + glen ((.if_icmp .eq o))) (B := Nat.blt (gpx ((.if_icmp .eq o))) 2000 && gchI k pc ((.if_icmp .eq o)) a b t v w) (gchE_at hm)
  obtain ⟨hx0, hi⟩ := and2 hi
  have hx0 : gpx ((.if_icmp .eq o)) < 2000 := blt_of hx0
  intro ad H locs ls hag hP hD hS hq hl
  have hs1 : (match (generalizing := false) st with
    | .inl y :: .inl x :: r => if x = y then some (a, lv, r, S) else some ((pc + glen ((.if_icmp .eq o))), lv, r, S)
    | _ => none) = some (pc', lv', st', S') := hs
  split at hs1
  · rename_i y x r
    by_cases q : x = y
    · rw [if_pos q] at hs1
      cases hs1
      exact lv_icmp_eq hx hb hd (of_decide_eq_true hi) (fun _ => (kk ad H locs ls hag hP hD hS hq hl)) (fun q2 => absurd q q2)
    · rw [if_neg q] at hs1
      cases hs1
      exact lv_icmp_eq hx hb hd (of_decide_eq_true hi) (fun q2 => absurd q2 q) (fun _ => (kk ad H locs ls hag hP hD hS hq hl))
  · cases hs1
theorem gs_if_ne {o : Int} (C : GX k p s m args c) (K : GK z L xs s) (hf : GF z) (hR : 10 ≤ R.frames ∧ 200 ≤ R.locals) (hm : (gmiOf k).1 pc = some ((.ifCond .ne o), nx, a, b, t, v, w)) (hs : gstep ((.ifCond .ne o), nx, a, b, t, v, w) lv st S = some (pc', lv', st', S')) (hi9 : gInv S.2 lv st) (hn : n0 ≤ S.2.1.length) (hcs : c0 ≤ S.2.2.1 ∧ s0 ≤ S.2.2.2) (hrm : S'.2.2.1 - c0 ≤ R.cells ∧ S'.2.2.2 - s0 ≤ R.slots) 
    (kk : gGoal p l e R s m args below meth c Q z k L xs n0 ad0 c0 s0 pc' lv' st' S') : gGoal p l e R s m args below meth c Q z k L xs n0 ad0 c0 s0 pc lv st S := by
  obtain ⟨hx, hb, hml, hown, hts⟩ := C
  obtain ⟨hd, rfl, hi⟩ := chk3 (A := decode (gccO k) pc = .ok ((.ifCond .ne o), glen ((.ifCond .ne o)))) (n := nx) (m := pc + glen ((.ifCond .ne o))) (B := Nat.blt (gpx ((.ifCond .ne o))) 2000 && gchI k pc ((.ifCond .ne o)) a b t v w) (gchE_at hm)
  obtain ⟨hx0, hi⟩ := and2 hi
  have hx0 : gpx ((.ifCond .ne o)) < 2000 := blt_of hx0
  intro ad H locs ls hag hP hD hS hq hl
  have hs1 : (match (generalizing := false) st with
    | .inl x :: r => if ¬ x = 0 then some (a, lv, r, S) else some ((pc + glen ((.ifCond .ne o))), lv, r, S)
    | _ => none) = some (pc', lv', st', S') := hs
  split at hs1
  · rename_i x r
    by_cases q : ¬ x = 0
    · rw [if_pos q] at hs1
      cases hs1
      exact lv_if_ne hx hb hd (of_decide_eq_true hi) (fun _ => (kk ad H locs ls hag hP hD hS hq hl)) (fun q2 => absurd q2 q)
    · rw [if_neg q] at hs1
      cases hs1
      exact lv_if_ne hx hb hd (of_decide_eq_true hi) (fun q2 => absurd q2 q) (fun _ => (kk ad H locs ls hag hP hD hS hq hl))
  · cases hs1
theorem gs_icmp_ne {o : Int} (C : GX k p s m args c) (K : GK z L xs s) (hf : GF z) (hR : 10 ≤ R.frames ∧ 200 ≤ R.locals) (hm : (gmiOf k).1 pc = some ((.if_icmp .ne o), nx, a, b, t, v, w)) (hs : gstep ((.if_icmp .ne o), nx, a, b, t, v, w) lv st S = some (pc', lv', st', S')) (hi9 : gInv S.2 lv st) (hn : n0 ≤ S.2.1.length) (hcs : c0 ≤ S.2.2.1 ∧ s0 ≤ S.2.2.2) (hrm : S'.2.2.1 - c0 ≤ R.cells ∧ S'.2.2.2 - s0 ≤ R.slots) 
    (kk : gGoal p l e R s m args below meth c Q z k L xs n0 ad0 c0 s0 pc' lv' st' S') : gGoal p l e R s m args below meth c Q z k L xs n0 ad0 c0 s0 pc lv st S := by
  obtain ⟨hx, hb, hml, hown, hts⟩ := C
  obtain ⟨hd, rfl, hi⟩ := chk3 (A := decode (gccO k) pc = .ok ((.if_icmp .ne o), glen ((.if_icmp .ne o)))) (n := nx) (m := pc + glen ((.if_icmp .ne o))) (B := Nat.blt (gpx ((.if_icmp .ne o))) 2000 && gchI k pc ((.if_icmp .ne o)) a b t v w) (gchE_at hm)
  obtain ⟨hx0, hi⟩ := and2 hi
  have hx0 : gpx ((.if_icmp .ne o)) < 2000 := blt_of hx0
  intro ad H locs ls hag hP hD hS hq hl
  have hs1 : (match (generalizing := false) st with
    | .inl y :: .inl x :: r => if ¬ x = y then some (a, lv, r, S) else some ((pc + glen ((.if_icmp .ne o))), lv, r, S)
    | _ => none) = some (pc', lv', st', S') := hs
  split at hs1
  · rename_i y x r
    by_cases q : ¬ x = y
    · rw [if_pos q] at hs1
      cases hs1
      exact lv_icmp_ne hx hb hd (of_decide_eq_true hi) (fun _ => (kk ad H locs ls hag hP hD hS hq hl)) (fun q2 => absurd q2 q)
    · rw [if_neg q] at hs1
      cases hs1
      exact lv_icmp_ne hx hb hd (of_decide_eq_true hi) (fun q2 => absurd q2 q) (fun _ => (kk ad H locs ls hag hP hD hS hq hl))
  · cases hs1
theorem gs_if_lt {o : Int} (C : GX k p s m args c) (K : GK z L xs s) (hf : GF z) (hR : 10 ≤ R.frames ∧ 200 ≤ R.locals) (hm : (gmiOf k).1 pc = some ((.ifCond .lt o), nx, a, b, t, v, w)) (hs : gstep ((.ifCond .lt o), nx, a, b, t, v, w) lv st S = some (pc', lv', st', S')) (hi9 : gInv S.2 lv st) (hn : n0 ≤ S.2.1.length) (hcs : c0 ≤ S.2.2.1 ∧ s0 ≤ S.2.2.2) (hrm : S'.2.2.1 - c0 ≤ R.cells ∧ S'.2.2.2 - s0 ≤ R.slots) 
    (kk : gGoal p l e R s m args below meth c Q z k L xs n0 ad0 c0 s0 pc' lv' st' S') : gGoal p l e R s m args below meth c Q z k L xs n0 ad0 c0 s0 pc lv st S := by
  obtain ⟨hx, hb, hml, hown, hts⟩ := C
  obtain ⟨hd, rfl, hi⟩ := chk3 (A := decode (gccO k) pc = .ok ((.ifCond .lt o), glen ((.ifCond .lt o)))) (n := nx) (m := pc + glen ((.ifCond .lt o))) (B := Nat.blt (gpx ((.ifCond .lt o))) 2000 && gchI k pc ((.ifCond .lt o)) a b t v w) (gchE_at hm)
  obtain ⟨hx0, hi⟩ := and2 hi
  have hx0 : gpx ((.ifCond .lt o)) < 2000 := blt_of hx0
  intro ad H locs ls hag hP hD hS hq hl
  have hs1 : (match (generalizing := false) st with
    | .inl x :: r => if x < 0 then some (a, lv, r, S) else some ((pc + glen ((.ifCond .lt o))), lv, r, S)
    | _ => none) = some (pc', lv', st', S') := hs
  split at hs1
  · rename_i x r
    by_cases q : x < 0
    · rw [if_pos q] at hs1
      cases hs1
      exact lv_if_lt hx hb hd (of_decide_eq_true hi) (fun _ => (kk ad H locs ls hag hP hD hS hq hl)) (fun q2 => absurd q q2)
    · rw [if_neg q] at hs1
      cases hs1
      exact lv_if_lt hx hb hd (of_decide_eq_true hi) (fun q2 => absurd q2 q) (fun _ => (kk ad H locs ls hag hP hD hS hq hl))
  · cases hs1
theorem gs_icmp_lt {o : Int} (C : GX k p s m args c) (K : GK z L xs s) (hf : GF z) (hR : 10 ≤ R.frames ∧ 200 ≤ R.locals) (hm : (gmiOf k).1 pc = some ((.if_icmp .lt o), nx, a, b, t, v, w)) (hs : gstep ((.if_icmp .lt o), nx, a, b, t, v, w) lv st S = some (pc', lv', st', S')) (hi9 : gInv S.2 lv st) (hn : n0 ≤ S.2.1.length) (hcs : c0 ≤ S.2.2.1 ∧ s0 ≤ S.2.2.2) (hrm : S'.2.2.1 - c0 ≤ R.cells ∧ S'.2.2.2 - s0 ≤ R.slots) 
    (kk : gGoal p l e R s m args below meth c Q z k L xs n0 ad0 c0 s0 pc' lv' st' S') : gGoal p l e R s m args below meth c Q z k L xs n0 ad0 c0 s0 pc lv st S := by
  obtain ⟨hx, hb, hml, hown, hts⟩ := C
  obtain ⟨hd, rfl, hi⟩ := chk3 (A := decode (gccO k) pc = .ok ((.if_icmp .lt o), glen ((.if_icmp .lt o)))) (n := nx) (m := pc + glen ((.if_icmp .lt o))) (B := Nat.blt (gpx ((.if_icmp .lt o))) 2000 && gchI k pc ((.if_icmp .lt o)) a b t v w) (gchE_at hm)
  obtain ⟨hx0, hi⟩ := and2 hi
  have hx0 : gpx ((.if_icmp .lt o)) < 2000 := blt_of hx0
  intro ad H locs ls hag hP hD hS hq hl
  have hs1 : (match (generalizing := false) st with
    | .inl y :: .inl x :: r => if x < y then some (a, lv, r, S) else some ((pc + glen ((.if_icmp .lt o))), lv, r, S)
    | _ => none) = some (pc', lv', st', S') := hs
  split at hs1
  · rename_i y x r
    by_cases q : x < y
    · rw [if_pos q] at hs1
      cases hs1
      exact lv_icmp_lt hx hb hd (of_decide_eq_true hi) (fun _ => (kk ad H locs ls hag hP hD hS hq hl)) (fun q2 => absurd q q2)
    · rw [if_neg q] at hs1
      cases hs1
      exact lv_icmp_lt hx hb hd (of_decide_eq_true hi) (fun q2 => absurd q2 q) (fun _ => (kk ad H locs ls hag hP hD hS hq hl))
  · cases hs1
theorem gs_if_ge {o : Int} (C : GX k p s m args c) (K : GK z L xs s) (hf : GF z) (hR : 10 ≤ R.frames ∧ 200 ≤ R.locals) (hm : (gmiOf k).1 pc = some ((.ifCond .ge o), nx, a, b, t, v, w)) (hs : gstep ((.ifCond .ge o), nx, a, b, t, v, w) lv st S = some (pc', lv', st', S')) (hi9 : gInv S.2 lv st) (hn : n0 ≤ S.2.1.length) (hcs : c0 ≤ S.2.2.1 ∧ s0 ≤ S.2.2.2) (hrm : S'.2.2.1 - c0 ≤ R.cells ∧ S'.2.2.2 - s0 ≤ R.slots) 
    (kk : gGoal p l e R s m args below meth c Q z k L xs n0 ad0 c0 s0 pc' lv' st' S') : gGoal p l e R s m args below meth c Q z k L xs n0 ad0 c0 s0 pc lv st S := by
  obtain ⟨hx, hb, hml, hown, hts⟩ := C
  obtain ⟨hd, rfl, hi⟩ := chk3 (A := decode (gccO k) pc = .ok ((.ifCond .ge o), glen ((.ifCond .ge o)))) (n := nx) (m := pc + glen ((.ifCond .ge o))) (B := Nat.blt (gpx ((.ifCond .ge o))) 2000 && gchI k pc ((.ifCond .ge o)) a b t v w) (gchE_at hm)
  obtain ⟨hx0, hi⟩ := and2 hi
  have hx0 : gpx ((.ifCond .ge o)) < 2000 := blt_of hx0
  intro ad H locs ls hag hP hD hS hq hl
  have hs1 : (match (generalizing := false) st with
    | .inl x :: r => if 0 ≤ x then some (a, lv, r, S) else some ((pc + glen ((.ifCond .ge o))), lv, r, S)
    | _ => none) = some (pc', lv', st', S') := hs
  split at hs1
  · rename_i x r
    by_cases q : 0 ≤ x
    · rw [if_pos q] at hs1
      cases hs1
      exact lv_if_ge hx hb hd (of_decide_eq_true hi) (fun _ => (kk ad H locs ls hag hP hD hS hq hl)) (fun q2 => absurd q q2)
    · rw [if_neg q] at hs1
      cases hs1
      exact lv_if_ge hx hb hd (of_decide_eq_true hi) (fun q2 => absurd q2 q) (fun _ => (kk ad H locs ls hag hP hD hS hq hl))
  · cases hs1
theorem gs_icmp_ge {o : Int} (C : GX k p s m args c) (K : GK z L xs s) (hf : GF z) (hR : 10 ≤ R.frames ∧ 200 ≤ R.locals) (hm : (gmiOf k).1 pc = some ((.if_icmp .ge o), nx, a, b, t, v, w)) (hs : gstep ((.if_icmp .ge o), nx, a, b, t, v, w) lv st S = some (pc', lv', st', S')) (hi9 : gInv S.2 lv st) (hn : n0 ≤ S.2.1.length) (hcs : c0 ≤ S.2.2.1 ∧ s0 ≤ S.2.2.2) (hrm : S'.2.2.1 - c0 ≤ R.cells ∧ S'.2.2.2 - s0 ≤ R.slots) 
    (kk : gGoal p l e R s m args below meth c Q z k L xs n0 ad0 c0 s0 pc' lv' st' S') : gGoal p l e R s m args below meth c Q z k L xs n0 ad0 c0 s0 pc lv st S := by
  obtain ⟨hx, hb, hml, hown, hts⟩ := C
  obtain ⟨hd, rfl, hi⟩ := chk3 (A := decode (gccO k) pc = .ok ((.if_icmp .ge o), glen ((.if_icmp .ge o)))) (n := nx) (m := pc + glen ((.if_icmp .ge o))) (B := Nat.blt (gpx ((.if_icmp .ge o))) 2000 && gchI k pc ((.if_icmp .ge o)) a b t v w) (gchE_at hm)
  obtain ⟨hx0, hi⟩ := and2 hi
  have hx0 : gpx ((.if_icmp .ge o)) < 2000 := blt_of hx0
  intro ad H locs ls hag hP hD hS hq hl
  have hs1 : (match (generalizing := false) st with
    | .inl y :: .inl x :: r => if y ≤ x then some (a, lv, r, S) else some ((pc + glen ((.if_icmp .ge o))), lv, r, S)
    | _ => none) = some (pc', lv', st', S') := hs
  split at hs1
  · rename_i y x r
    by_cases q : y ≤ x
    · rw [if_pos q] at hs1
      cases hs1
      exact lv_icmp_ge hx hb hd (of_decide_eq_true hi) (fun _ => (kk ad H locs ls hag hP hD hS hq hl)) (fun q2 => absurd q q2)
    · rw [if_neg q] at hs1
      cases hs1
      exact lv_icmp_ge hx hb hd (of_decide_eq_true hi) (fun q2 => absurd q2 q) (fun _ => (kk ad H locs ls hag hP hD hS hq hl))
  · cases hs1
theorem gs_if_gt {o : Int} (C : GX k p s m args c) (K : GK z L xs s) (hf : GF z) (hR : 10 ≤ R.frames ∧ 200 ≤ R.locals) (hm : (gmiOf k).1 pc = some ((.ifCond .gt o), nx, a, b, t, v, w)) (hs : gstep ((.ifCond .gt o), nx, a, b, t, v, w) lv st S = some (pc', lv', st', S')) (hi9 : gInv S.2 lv st) (hn : n0 ≤ S.2.1.length) (hcs : c0 ≤ S.2.2.1 ∧ s0 ≤ S.2.2.2) (hrm : S'.2.2.1 - c0 ≤ R.cells ∧ S'.2.2.2 - s0 ≤ R.slots) 
    (kk : gGoal p l e R s m args below meth c Q z k L xs n0 ad0 c0 s0 pc' lv' st' S') : gGoal p l e R s m args below meth c Q z k L xs n0 ad0 c0 s0 pc lv st S := by
  obtain ⟨hx, hb, hml, hown, hts⟩ := C
  obtain ⟨hd, rfl, hi⟩ := chk3 (A := decode (gccO k) pc = .ok ((.ifCond .gt o), glen ((.ifCond .gt o)))) (n := nx) (m := pc + glen ((.ifCond .gt o))) (B := Nat.blt (gpx ((.ifCond .gt o))) 2000 && gchI k pc ((.ifCond .gt o)) a b t v w) (gchE_at hm)
  obtain ⟨hx0, hi⟩ := and2 hi
  have hx0 : gpx ((.ifCond .gt o)) < 2000 := blt_of hx0
  intro ad H locs ls hag hP hD hS hq hl
  have hs1 : (match (generalizing := false) st with
    | .inl x :: r => if 0 < x then some (a, lv, r, S) else some ((pc + glen ((.ifCond .gt o))), lv, r, S)
    | _ => none) = some (pc', lv', st', S') := hs
  split at hs1
  · rename_i x r
    by_cases q : 0 < x
    · rw [if_pos q] at hs1
      cases hs1
      exact lv_if_gt hx hb hd (of_decide_eq_true hi) (fun _ => (kk ad H locs ls hag hP hD hS hq hl)) (fun q2 => absurd q q2)
    · rw [if_neg q] at hs1
      cases hs1
      exact lv_if_gt hx hb hd (of_decide_eq_true hi) (fun q2 => absurd q2 q) (fun _ => (kk ad H locs ls hag hP hD hS hq hl))
  · cases hs1
theorem gs_icmp_gt {o : Int} (C : GX k p s m args c) (K : GK z L xs s) (hf : GF z) (hR : 10 ≤ R.frames ∧ 200 ≤ R.locals) (hm : (gmiOf k).1 pc = some ((.if_icmp .gt o), nx, a, b, t, v, w)) (hs : gstep ((.if_icmp .gt o), nx, a, b, t, v, w) lv st S = some (pc', lv', st', S')) (hi9 : gInv S.2 lv st) (hn : n0 ≤ S.2.1.length) (hcs : c0 ≤ S.2.2.1 ∧ s0 ≤ S.2.2.2) (hrm : S'.2.2.1 - c0 ≤ R.cells ∧ S'.2.2.2 - s0 ≤ R.slots) 
    (kk : gGoal p l e R s m args below meth c Q z k L xs n0 ad0 c0 s0 pc' lv' st' S') : gGoal p l e R s m args below meth c Q z k L xs n0 ad0 c0 s0 pc lv st S := by
  obtain ⟨hx, hb, hml, hown, hts⟩ := C
  obtain ⟨hd, rfl, hi⟩ := chk3 (A := decode (gccO k) pc = .ok ((.if_icmp .gt o), glen ((.if_icmp .gt o)))) (n := nx) (m := pc + glen ((.if_icmp .gt o))) (B := Nat.blt (gpx ((.if_icmp .gt o))) 2000 && gchI k pc ((.if_icmp .gt o)) a b t v w) (gchE_at hm)
  obtain ⟨hx0, hi⟩ := and2 hi
  have hx0 : gpx ((.if_icmp .gt o)) < 2000 := blt_of hx0
  intro ad H locs ls hag hP hD hS hq hl
  have hs1 : (match (generalizing := false) st with
    | .inl y :: .inl x :: r => if y < x then some (a, lv, r, S) else some ((pc + glen ((.if_icmp .gt o))), lv, r, S)
    | _ => none) = some (pc', lv', st', S') := hs
  split at hs1
  · rename_i y x r
    by_cases q : y < x
    · rw [if_pos q] at hs1
      cases hs1
      exact lv_icmp_gt hx hb hd (of_decide_eq_true hi) (fun _ => (kk ad H locs ls hag hP hD hS hq hl)) (fun q2 => absurd q q2)
    · rw [if_neg q] at hs1
      cases hs1
      exact lv_icmp_gt hx hb hd (of_decide_eq_true hi) (fun q2 => absurd q2 q) (fun _ => (kk ad H locs ls hag hP hD hS hq hl))
  · cases hs1
theorem gs_if_le {o : Int} (C : GX k p s m args c) (K : GK z L xs s) (hf : GF z) (hR : 10 ≤ R.frames ∧ 200 ≤ R.locals) (hm : (gmiOf k).1 pc = some ((.ifCond .le o), nx, a, b, t, v, w)) (hs : gstep ((.ifCond .le o), nx, a, b, t, v, w) lv st S = some (pc', lv', st', S')) (hi9 : gInv S.2 lv st) (hn : n0 ≤ S.2.1.length) (hcs : c0 ≤ S.2.2.1 ∧ s0 ≤ S.2.2.2) (hrm : S'.2.2.1 - c0 ≤ R.cells ∧ S'.2.2.2 - s0 ≤ R.slots) 
    (kk : gGoal p l e R s m args below meth c Q z k L xs n0 ad0 c0 s0 pc' lv' st' S') : gGoal p l e R s m args below meth c Q z k L xs n0 ad0 c0 s0 pc lv st S := by
  obtain ⟨hx, hb, hml, hown, hts⟩ := C
  obtain ⟨hd, rfl, hi⟩ := chk3 (A := decode (gccO k) pc = .ok ((.ifCond .le o), glen ((.ifCond .le o)))) (n := nx) (m := pc + glen ((.ifCond .le o))) (B := Nat.blt (gpx ((.ifCond .le o))) 2000 && gchI k pc ((.ifCond .le o)) a b t v w) (gchE_at hm)
  obtain ⟨hx0, hi⟩ := and2 hi
  have hx0 : gpx ((.ifCond .le o)) < 2000 := blt_of hx0
  intro ad H locs ls hag hP hD hS hq hl
  have hs1 : (match (generalizing := false) st with
    | .inl x :: r => if x ≤ 0 then some (a, lv, r, S) else some ((pc + glen ((.ifCond .le o))), lv, r, S)
    | _ => none) = some (pc', lv', st', S') := hs
  split at hs1
  · rename_i x r
    by_cases q : x ≤ 0
    · rw [if_pos q] at hs1
      cases hs1
      exact lv_if_le hx hb hd (of_decide_eq_true hi) (fun _ => (kk ad H locs ls hag hP hD hS hq hl)) (fun q2 => absurd q q2)
    · rw [if_neg q] at hs1
      cases hs1
      exact lv_if_le hx hb hd (of_decide_eq_true hi) (fun q2 => absurd q2 q) (fun _ => (kk ad H locs ls hag hP hD hS hq hl))
  · cases hs1
theorem gs_icmp_le {o : Int} (C : GX k p s m args c) (K : GK z L xs s) (hf : GF z) (hR : 10 ≤ R.frames ∧ 200 ≤ R.locals) (hm : (gmiOf k).1 pc = some ((.if_icmp .le o), nx, a, b, t, v, w)) (hs : gstep ((.if_icmp .le o), nx, a, b, t, v, w) lv st S = some (pc', lv', st', S')) (hi9 : gInv S.2 lv st) (hn : n0 ≤ S.2.1.length) (hcs : c0 ≤ S.2.2.1 ∧ s0 ≤ S.2.2.2) (hrm : S'.2.2.1 - c0 ≤ R.cells ∧ S'.2.2.2 - s0 ≤ R.slots) 
    (kk : gGoal p l e R s m args below meth c Q z k L xs n0 ad0 c0 s0 pc' lv' st' S') : gGoal p l e R s m args below meth c Q z k L xs n0 ad0 c0 s0 pc lv st S := by
  obtain ⟨hx, hb, hml, hown, hts⟩ := C
  obtain ⟨hd, rfl, hi⟩ := chk3 (A := decode (gccO k) pc = .ok ((.if_icmp .le o), glen ((.if_icmp .le o)))) (n := nx) (m := pc + glen ((.if_icmp .le o))) (B := Nat.blt (gpx ((.if_icmp .le o))) 2000 && gchI k pc ((.if_icmp .le o)) a b t v w) (gchE_at hm)
  obtain ⟨hx0, hi⟩ := and2 hi
  have hx0 : gpx ((.if_icmp .le o)) < 2000 := blt_of hx0
  intro ad H locs ls hag hP hD hS hq hl
  have hs1 : (match (generalizing := false) st with
    | .inl y :: .inl x :: r => if x ≤ y then some (a, lv, r, S) else some ((pc + glen ((.if_icmp .le o))), lv, r, S)
    | _ => none) = some (pc', lv', st', S') := hs
  split at hs1
  · rename_i y x r
    by_cases q : x ≤ y
    · rw [if_pos q] at hs1
      cases hs1
      exact lv_icmp_le hx hb hd (of_decide_eq_true hi) (fun _ => (kk ad H locs ls hag hP hD hS hq hl)) (fun q2 => absurd q q2)
    · rw [if_neg q] at hs1
      cases hs1
      exact lv_icmp_le hx hb hd (of_decide_eq_true hi) (fun q2 => absurd q2 q) (fun _ => (kk ad H locs ls hag hP hD hS hq hl))
  · cases hs1
theorem gs_iconst {n : Int} (C : GX k p s m args c) (K : GK z L xs s) (hf : GF z) (hR : 10 ≤ R.frames ∧ 200 ≤ R.locals) (hm : (gmiOf k).1 pc = some ((.iconst n), nx, a, b, t, v, w)) (hs : gstep ((.iconst n), nx, a, b, t, v, w) lv st S = some (pc', lv', st', S')) (hi9 : gInv S.2 lv st) (hn : n0 ≤ S.2.1.length) (hcs : c0 ≤ S.2.2.1 ∧ s0 ≤ S.2.2.2) (hrm : S'.2.2.1 - c0 ≤ R.cells ∧ S'.2.2.2 - s0 ≤ R.slots) 
    (kk : gGoal p l e R s m args below meth c Q z k L xs n0 ad0 c0 s0 pc' lv' st' S') : gGoal p l e R s m args below meth c Q z k L xs n0 ad0 c0 s0 pc lv st S := by
  obtain ⟨hx, hb, hml, hown, hts⟩ := C
  obtain ⟨hd, rfl, hi⟩ := chk3 (A := decode (gccO k) pc = .ok ((.iconst n), glen ((.iconst n)))) (n := nx) (m := pc + glen ((.iconst n))) (B := Nat.blt (gpx ((.iconst n))) 2000 && gchI k pc ((.iconst n)) a b t v w) (gchE_at hm)
  obtain ⟨hx0, hi⟩ := and2 hi
  have hx0 : gpx ((.iconst n)) < 2000 := blt_of hx0
  intro ad H locs ls hag hP hD hS hq hl
  have hs1 : (some ((pc + glen ((.iconst n))), lv, .inl v :: st, S)) = some (pc', lv', st', S') := hs
  cases hs1
  exact lv_iconst hx hb hd (of_decide_eq_true hi) (kk ad H locs ls hag hP hD hS hq hl)
theorem gs_bipush {n : Int} (C : GX k p s m args c) (K : GK z L xs s) (hf : GF z) (hR : 10 ≤ R.frames ∧ 200 ≤ R.locals) (hm : (gmiOf k).1 pc = some ((.bipush n), nx, a, b, t, v, w)) (hs : gstep ((.bipush n), nx, a, b, t, v, w) lv st S = some (pc', lv', st', S')) (hi9 : gInv S.2 lv st) (hn : n0 ≤ S.2.1.length) (hcs : c0 ≤ S.2.2.1 ∧ s0 ≤ S.2.2.2) (hrm : S'.2.2.1 - c0 ≤ R.cells ∧ S'.2.2.2 - s0 ≤ R.slots) 
    (kk : gGoal p l e R s m args below meth c Q z k L xs n0 ad0 c0 s0 pc' lv' st' S') : gGoal p l e R s m args below meth c Q z k L xs n0 ad0 c0 s0 pc lv st S := by
  obtain ⟨hx, hb, hml, hown, hts⟩ := C
  obtain ⟨hd, rfl, hi⟩ := chk3 (A := decode (gccO k) pc = .ok ((.bipush n), glen ((.bipush n)))) (n := nx) (m := pc + glen ((.bipush n))) (B := Nat.blt (gpx ((.bipush n))) 2000 && gchI k pc ((.bipush n)) a b t v w) (gchE_at hm)
  obtain ⟨hx0, hi⟩ := and2 hi
  have hx0 : gpx ((.bipush n)) < 2000 := blt_of hx0
  intro ad H locs ls hag hP hD hS hq hl
  have hs1 : (some ((pc + glen ((.bipush n))), lv, .inl v :: st, S)) = some (pc', lv', st', S') := hs
  cases hs1
  exact lv_bipush hx hb hd (of_decide_eq_true hi) (kk ad H locs ls hag hP hD hS hq hl)
theorem gs_sipush {n : Int} (C : GX k p s m args c) (K : GK z L xs s) (hf : GF z) (hR : 10 ≤ R.frames ∧ 200 ≤ R.locals) (hm : (gmiOf k).1 pc = some ((.sipush n), nx, a, b, t, v, w)) (hs : gstep ((.sipush n), nx, a, b, t, v, w) lv st S = some (pc', lv', st', S')) (hi9 : gInv S.2 lv st) (hn : n0 ≤ S.2.1.length) (hcs : c0 ≤ S.2.2.1 ∧ s0 ≤ S.2.2.2) (hrm : S'.2.2.1 - c0 ≤ R.cells ∧ S'.2.2.2 - s0 ≤ R.slots) 
    (kk : gGoal p l e R s m args below meth c Q z k L xs n0 ad0 c0 s0 pc' lv' st' S') : gGoal p l e R s m args below meth c Q z k L xs n0 ad0 c0 s0 pc lv st S := by
  obtain ⟨hx, hb, hml, hown, hts⟩ := C
  obtain ⟨hd, rfl, hi⟩ := chk3 (A := decode (gccO k) pc = .ok ((.sipush n), glen ((.sipush n)))) (n := nx) (m := pc + glen ((.sipush n))) (B := Nat.blt (gpx ((.sipush n))) 2000 && gchI k pc ((.sipush n)) a b t v w) (gchE_at hm)
  obtain ⟨hx0, hi⟩ := and2 hi
  have hx0 : gpx ((.sipush n)) < 2000 := blt_of hx0
  intro ad H locs ls hag hP hD hS hq hl
  have hs1 : (some ((pc + glen ((.sipush n))), lv, .inl v :: st, S)) = some (pc', lv', st', S') := hs
  cases hs1
  exact lv_sipush hx hb hd (of_decide_eq_true hi) (kk ad H locs ls hag hP hD hS hq hl)
theorem gs_lconst {n : Fin 2} (C : GX k p s m args c) (K : GK z L xs s) (hf : GF z) (hR : 10 ≤ R.frames ∧ 200 ≤ R.locals) (hm : (gmiOf k).1 pc = some ((.lconst n), nx, a, b, t, v, w)) (hs : gstep ((.lconst n), nx, a, b, t, v, w) lv st S = some (pc', lv', st', S')) (hi9 : gInv S.2 lv st) (hn : n0 ≤ S.2.1.length) (hcs : c0 ≤ S.2.2.1 ∧ s0 ≤ S.2.2.2) (hrm : S'.2.2.1 - c0 ≤ R.cells ∧ S'.2.2.2 - s0 ≤ R.slots) 
    (kk : gGoal p l e R s m args below meth c Q z k L xs n0 ad0 c0 s0 pc' lv' st' S') : gGoal p l e R s m args below meth c Q z k L xs n0 ad0 c0 s0 pc lv st S := by
  obtain ⟨hx, hb, hml, hown, hts⟩ := C
  obtain ⟨hd, rfl, hi⟩ := chk3 (A := decode (gccO k) pc = .ok ((.lconst n), glen ((.lconst n)))) (n := nx) (m := pc + glen ((.lconst n))) (B := Nat.blt (gpx ((.lconst n))) 2000 && gchI k pc ((.lconst n)) a b t v w) (gchE_at hm)
  obtain ⟨hx0, hi⟩ := and2 hi
  have hx0 : gpx ((.lconst n)) < 2000 := blt_of hx0
  intro ad H locs ls hag hP hD hS hq hl
  have hs1 : (some ((pc + glen ((.lconst n))), lv, .inr (.inl w) :: st, S)) = some (pc', lv', st', S') := hs
  cases hs1
  exact lv_lconst hx hb hd (of_decide_eq_true hi) (kk ad H locs ls hag hP hD hS hq hl)
theorem gs_null  (C : GX k p s m args c) (K : GK z L xs s) (hf : GF z) (hR : 10 ≤ R.frames ∧ 200 ≤ R.locals) (hm : (gmiOf k).1 pc = some (.aconst_null, nx, a, b, t, v, w)) (hs : gstep (.aconst_null, nx, a, b, t, v, w) lv st S = some (pc', lv', st', S')) (hi9 : gInv S.2 lv st) (hn : n0 ≤ S.2.1.length) (hcs : c0 ≤ S.2.2.1 ∧ s0 ≤ S.2.2.2) (hrm : S'.2.2.1 - c0 ≤ R.cells ∧ S'.2.2.2 - s0 ≤ R.slots) 
    (kk : gGoal p l e R s m args below meth c Q z k L xs n0 ad0 c0 s0 pc' lv' st' S') : gGoal p l e R s m args below meth c Q z k L xs n0 ad0 c0 s0 pc lv st S := by
  obtain ⟨hx, hb, hml, hown, hts⟩ := C
  obtain ⟨hd, rfl, hi⟩ := chk3 (A := decode (gccO k) pc = .ok (.aconst_null, glen (.aconst_null))) (n := nx) (m := pc + glen (.aconst_null)) (B := Nat.blt (gpx (.aconst_null)) 2000 && gchI k pc (.aconst_null) a b t v w) (gchE_at hm)
  obtain ⟨hx0, hi⟩ := and2 hi
  have hx0 : gpx (.aconst_null) < 2000 := blt_of hx0
  intro ad H locs ls hag hP hD hS hq hl
  have hs1 : (some ((pc + glen (.aconst_null)), lv, .inr (.inr none) :: st, S)) = some (pc', lv', st', S') := hs
  cases hs1
  exact lv_null hx hb hd (kk ad H locs ls hag hP hD hS hq hl)
theorem gs_iload_n {n : Fin 4} (C : GX k p s m args c) (K : GK z L xs s) (hf : GF z) (hR : 10 ≤ R.frames ∧ 200 ≤ R.locals) (hm : (gmiOf k).1 pc = some ((.iload_n n), nx, a, b, t, v, w)) (hs : gstep ((.iload_n n), nx, a, b, t, v, w) lv st S = some (pc', lv', st', S')) (hi9 : gInv S.2 lv st) (hn : n0 ≤ S.2.1.length) (hcs : c0 ≤ S.2.2.1 ∧ s0 ≤ S.2.2.2) (hrm : S'.2.2.1 - c0 ≤ R.cells ∧ S'.2.2.2 - s0 ≤ R.slots) 
    (kk : gGoal p l e R s m args below meth c Q z k L xs n0 ad0 c0 s0 pc' lv' st' S') : gGoal p l e R s m args below meth c Q z k L xs n0 ad0 c0 s0 pc lv st S := by
  obtain ⟨hx, hb, hml, hown, hts⟩ := C
  obtain ⟨hd, rfl, hi⟩ := chk3 (A := decode (gccO k) pc = .ok ((.iload_n n), glen ((.iload_n n)))) (n := nx) (m := pc + glen ((.iload_n n))) (B := Nat.blt (gpx ((.iload_n n))) 2000 && gchI k pc ((.iload_n n)) a b t v w) (gchE_at hm)
  obtain ⟨hx0, hi⟩ := and2 hi
  have hx0 : gpx ((.iload_n n)) < 2000 := blt_of hx0
  intro ad H locs ls hag hP hD hS hq hl
  have hs1 : (match (generalizing := false) ggo lv a with
    | some (.inl x) => some ((pc + glen ((.iload_n n))), lv, .inl x :: st, S)
    | _ => none) = some (pc', lv', st', S') := hs
  split at hs1
  · rename_i x heq
    cases hs1
    exact lv_iload_n hx hb hd (Nat.eq_of_beq_eq_true hi) (hl.2.2 a _ heq) (kk ad H locs ls hag hP hD hS hq hl)
  · cases hs1
theorem gs_iload {j : Nat} (C : GX k p s m args c) (K : GK z L xs s) (hf : GF z) (hR : 10 ≤ R.frames ∧ 200 ≤ R.locals) (hm : (gmiOf k).1 pc = some ((.iload j), nx, a, b, t, v, w)) (hs : gstep ((.iload j), nx, a, b, t, v, w) lv st S = some (pc', lv', st', S')) (hi9 : gInv S.2 lv st) (hn : n0 ≤ S.2.1.length) (hcs : c0 ≤ S.2.2.1 ∧ s0 ≤ S.2.2.2) (hrm : S'.2.2.1 - c0 ≤ R.cells ∧ S'.2.2.2 - s0 ≤ R.slots) 
    (kk : gGoal p l e R s m args below meth c Q z k L xs n0 ad0 c0 s0 pc' lv' st' S') : gGoal p l e R s m args below meth c Q z k L xs n0 ad0 c0 s0 pc lv st S := by
  obtain ⟨hx, hb, hml, hown, hts⟩ := C
  obtain ⟨hd, rfl, hi⟩ := chk3 (A := decode (gccO k) pc = .ok ((.iload j), glen ((.iload j)))) (n := nx) (m := pc + glen ((.iload j))) (B := Nat.blt (gpx ((.iload j))) 2000 && gchI k pc ((.iload j)) a b t v w) (gchE_at hm)
  obtain ⟨hx0, hi⟩ := and2 hi
  have hx0 : gpx ((.iload j)) < 2000 := blt_of hx0
  intro ad H locs ls hag hP hD hS hq hl
  have hs1 : (match (generalizing := false) ggo lv a with
    | some (.inl x) => some ((pc + glen ((.iload j))), lv, .inl x :: st, S)
    | _ => none) = some (pc', lv', st', S') := hs
  split at hs1
  · rename_i x heq
    cases hs1
    obtain rfl : j = a := Nat.eq_of_beq_eq_true hi
    exact lv_iload hx hb hd (hl.2.2 j _ heq) (kk ad H locs ls hag hP hD hS hq hl)
  · cases hs1
theorem gs_lload_n {n : Fin 4} (C : GX k p s m args c) (K : GK z L xs s) (hf : GF z) (hR : 10 ≤ R.frames ∧ 200 ≤ R.locals) (hm : (gmiOf k).1 pc = some ((.lload_n n), nx, a, b, t, v, w)) (hs : gstep ((.lload_n n), nx, a, b, t, v, w) lv st S = some (pc', lv', st', S')) (hi9 : gInv S.2 lv st) (hn : n0 ≤ S.2.1.length) (hcs : c0 ≤ S.2.2.1 ∧ s0 ≤ S.2.2.2) (hrm : S'.2.2.1 - c0 ≤ R.cells ∧ S'.2.2.2 - s0 ≤ R.slots) 
    (kk : gGoal p l e R s m args below meth c Q z k L xs n0 ad0 c0 s0 pc' lv' st' S') : gGoal p l e R s m args below meth c Q z k L xs n0 ad0 c0 s0 pc lv st S := by
  obtain ⟨hx, hb, hml, hown, hts⟩ := C
  obtain ⟨hd, rfl, hi⟩ := chk3 (A := decode (gccO k) pc = .ok ((.lload_n n), glen ((.lload_n n)))) (n := nx) (m := pc + glen ((.lload_n n))) (B := Nat.blt (gpx ((.lload_n n))) 2000 && gchI k pc ((.lload_n n)) a b t v w) (gchE_at hm)
  obtain ⟨hx0, hi⟩ := and2 hi
  have hx0 : gpx ((.lload_n n)) < 2000 := blt_of hx0
  intro ad H locs ls hag hP hD hS hq hl
  have hs1 : (match (generalizing := false) ggo lv a with
    | some (.inr (.inl x)) => some ((pc + glen ((.lload_n n))), lv, .inr (.inl x) :: st, S)
    | _ => none) = some (pc', lv', st', S') := hs
  split at hs1
  · rename_i x heq
    cases hs1
    exact lv_lload_n hx hb hd (Nat.eq_of_beq_eq_true hi) (hl.2.2 a _ heq) (kk ad H locs ls hag hP hD hS hq hl)
  · cases hs1
theorem gs_lload {j : Nat} (C : GX k p s m args c) (K : GK z L xs s) (hf : GF z) (hR : 10 ≤ R.frames ∧ 200 ≤ R.locals) (hm : (gmiOf k).1 pc = some ((.lload j), nx, a, b, t, v, w)) (hs : gstep ((.lload j), nx, a, b, t, v, w) lv st S = some (pc', lv', st', S')) (hi9 : gInv S.2 lv st) (hn : n0 ≤ S.2.1.length) (hcs : c0 ≤ S.2.2.1 ∧ s0 ≤ S.2.2.2) (hrm : S'.2.2.1 - c0 ≤ R.cells ∧ S'.2.2.2 - s0 ≤ R.slots) 
    (kk : gGoal p l e R s m args below meth c Q z k L xs n0 ad0 c0 s0 pc' lv' st' S') : gGoal p l e R s m args below meth c Q z k L xs n0 ad0 c0 s0 pc lv st S := by
  obtain ⟨hx, hb, hml, hown, hts⟩ := C
  obtain ⟨hd, rfl, hi⟩ := chk3 (A := decode (gccO k) pc = .ok ((.lload j), glen ((.lload j)))) (n := nx) (m := pc + glen ((.lload j))) (B := Nat.blt (gpx ((.lload j))) 2000 && gchI k pc ((.lload j)) a b t v w) (gchE_at hm)
  obtain ⟨hx0, hi⟩ := and2 hi
  have hx0 : gpx ((.lload j)) < 2000 := blt_of hx0
  intro ad H locs ls hag hP hD hS hq hl
  have hs1 : (match (generalizing := false) ggo lv a with
    | some (.inr (.inl x)) => some ((pc + glen ((.lload j))), lv, .inr (.inl x) :: st, S)
    | _ => none) = some (pc', lv', st', S') := hs
  split at hs1
  · rename_i x heq
    cases hs1
    obtain rfl : j = a := Nat.eq_of_beq_eq_true hi
    exact lv_lload hx hb hd (hl.2.2 j _ heq) (kk ad H locs ls hag hP hD hS hq hl)
  · cases hs1
theorem gs_aload_n {n : Fin 4} (C : GX k p s m args c) (K : GK z L xs s) (hf : GF z) (hR : 10 ≤ R.frames ∧ 200 ≤ R.locals) (hm : (gmiOf k).1 pc = some ((.aload_n n), nx, a, b, t, v, w)) (hs : gstep ((.aload_n n), nx, a, b, t, v, w) lv st S = some (pc', lv', st', S')) (hi9 : gInv S.2 lv st) (hn : n0 ≤ S.2.1.length) (hcs : c0 ≤ S.2.2.1 ∧ s0 ≤ S.2.2.2) (hrm : S'.2.2.1 - c0 ≤ R.cells ∧ S'.2.2.2 - s0 ≤ R.slots) 
    (kk : gGoal p l e R s m args below meth c Q z k L xs n0 ad0 c0 s0 pc' lv' st' S') : gGoal p l e R s m args below meth c Q z k L xs n0 ad0 c0 s0 pc lv st S := by
  obtain ⟨hx, hb, hml, hown, hts⟩ := C
  obtain ⟨hd, rfl, hi⟩ := chk3 (A := decode (gccO k) pc = .ok ((.aload_n n), glen ((.aload_n n)))) (n := nx) (m := pc + glen ((.aload_n n))) (B := Nat.blt (gpx ((.aload_n n))) 2000 && gchI k pc ((.aload_n n)) a b t v w) (gchE_at hm)
  obtain ⟨hx0, hi⟩ := and2 hi
  have hx0 : gpx ((.aload_n n)) < 2000 := blt_of hx0
  intro ad H locs ls hag hP hD hS hq hl
  have hs1 : (match (generalizing := false) ggo lv a with
    | some (.inr (.inr x)) => some ((pc + glen ((.aload_n n))), lv, .inr (.inr x) :: st, S)
    | _ => none) = some (pc', lv', st', S') := hs
  split at hs1
  · rename_i x heq
    cases hs1
    cases x with
    | none => exact lv_aload_nN hx hb hd (Nat.eq_of_beq_eq_true hi) (hl.2.2 a _ heq) (kk ad H locs ls hag hP hD hS hq hl)
    | some x => exact lv_aload_n hx hb hd (Nat.eq_of_beq_eq_true hi) (hl.2.2 a _ heq) (kk ad H locs ls hag hP hD hS hq hl)
  · cases hs1
theorem gs_aload {j : Nat} (C : GX k p s m args c) (K : GK z L xs s) (hf : GF z) (hR : 10 ≤ R.frames ∧ 200 ≤ R.locals) (hm : (gmiOf k).1 pc = some ((.aload j), nx, a, b, t, v, w)) (hs : gstep ((.aload j), nx, a, b, t, v, w) lv st S = some (pc', lv', st', S')) (hi9 : gInv S.2 lv st) (hn : n0 ≤ S.2.1.length) (hcs : c0 ≤ S.2.2.1 ∧ s0 ≤ S.2.2.2) (hrm : S'.2.2.1 - c0 ≤ R.cells ∧ S'.2.2.2 - s0 ≤ R.slots) 
    (kk : gGoal p l e R s m args below meth c Q z k L xs n0 ad0 c0 s0 pc' lv' st' S') : gGoal p l e R s m args below meth c Q z k L xs n0 ad0 c0 s0 pc lv st S := by
  obtain ⟨hx, hb, hml, hown, hts⟩ := C
  obtain ⟨hd, rfl, hi⟩ := chk3 (A := decode (gccO k) pc = .ok ((.aload j), glen ((.aload j)))) (n := nx) (m := pc + glen ((.aload j))) (B := Nat.blt (gpx ((.aload j))) 2000 && gchI k pc ((.aload j)) a b t v w) (gchE_at hm)
  obtain ⟨hx0, hi⟩ := and2 hi
  have hx0 : gpx ((.aload j)) < 2000 := blt_of hx0
  intro ad H locs ls hag hP hD hS hq hl
  have hs1 : (match (generalizing := false) ggo lv a with
    | some (.inr (.inr x)) => some ((pc + glen ((.aload j))), lv, .inr (.inr x) :: st, S)
    | _ => none) = some (pc', lv', st', S') := hs
  split at hs1
  · rename_i x heq
    cases hs1
    obtain rfl : j = a := Nat.eq_of_beq_eq_true hi
    cases x with
    | none => exact lv_aloadN hx hb hd (hl.2.2 j _ heq) (kk ad H locs ls hag hP hD hS hq hl)
    | some x => exact lv_aload hx hb hd (hl.2.2 j _ heq) (kk ad H locs ls hag hP hD hS hq hl)
  · cases hs1
theorem gs_istore_n {n : Fin 4} (C : GX k p s m args c) (K : GK z L xs s) (hf : GF z) (hR : 10 ≤ R.frames ∧ 200 ≤ R.locals) (hm : (gmiOf k).1 pc = some ((.istore_n n), nx, a, b, t, v, w)) (hs : gstep ((.istore_n n), nx, a, b, t, v, w) lv st S = some (pc', lv', st', S')) (hi9 : gInv S.2 lv st) (hn : n0 ≤ S.2.1.length) (hcs : c0 ≤ S.2.2.1 ∧ s0 ≤ S.2.2.2) (hrm : S'.2.2.1 - c0 ≤ R.cells ∧ S'.2.2.2 - s0 ≤ R.slots) 
    (kk : gGoal p l e R s m args below meth c Q z k L xs n0 ad0 c0 s0 pc' lv' st' S') : gGoal p l e R s m args below meth c Q z k L xs n0 ad0 c0 s0 pc lv st S := by
  obtain ⟨hx, hb, hml, hown, hts⟩ := C
  obtain ⟨hd, rfl, hi⟩ := chk3 (A := decode (gccO k) pc = .ok ((.istore_n n), glen ((.istore_n n)))) (n := nx) (m := pc + glen ((.istore_n n))) (B := Nat.blt (gpx ((.istore_n n))) 2000 && gchI k pc ((.istore_n n)) a b t v w) (gchE_at hm)
  obtain ⟨hx0, hi⟩ := and2 hi
  have hx0 : gpx ((.istore_n n)) < 2000 := blt_of hx0
  intro ad H locs ls hag hP hD hS hq hl
  have hs1 : (match (generalizing := false) st with
    | .inl x :: r => bif gnl lv a then some ((pc + glen ((.istore_n n))), gput lv a (some (.inl x)), r, S) else none
    | _ => none) = some (pc', lv', st', S') := hs
  split at hs1
  · rename_i x r
    obtain ⟨hg, e9⟩ := bic hs1
    cases e9
    obtain ⟨hi1, hi2⟩ := and2 (a := Nat.beq (n : Nat) a) (b := Nat.blt a (gmiOf k).2.2) hi
    exact lv_istore_n hx hb hd (Nat.eq_of_beq_eq_true hi1) hl.has (blt_of hi2) rfl (fun ls9 h9 => kk ad H locs ls9 hag hP hD hS hq (gst1 hl hg h9))
  · cases hs1
theorem gs_istore {j : Nat} (C : GX k p s m args c) (K : GK z L xs s) (hf : GF z) (hR : 10 ≤ R.frames ∧ 200 ≤ R.locals) (hm : (gmiOf k).1 pc = some ((.istore j), nx, a, b, t, v, w)) (hs : gstep ((.istore j), nx, a, b, t, v, w) lv st S = some (pc', lv', st', S')) (hi9 : gInv S.2 lv st) (hn : n0 ≤ S.2.1.length) (hcs : c0 ≤ S.2.2.1 ∧ s0 ≤ S.2.2.2) (hrm : S'.2.2.1 - c0 ≤ R.cells ∧ S'.2.2.2 - s0 ≤ R.slots) 
    (kk : gGoal p l e R s m args below meth c Q z k L xs n0 ad0 c0 s0 pc' lv' st' S') : gGoal p l e R s m args below meth c Q z k L xs n0 ad0 c0 s0 pc lv st S := by
  obtain ⟨hx, hb, hml, hown, hts⟩ := C
  obtain ⟨hd, rfl, hi⟩ := chk3 (A := decode (gccO k) pc = .ok ((.istore j), glen ((.istore j)))) (n := nx) (m := pc + glen ((.istore j))) (B := Nat.blt (gpx ((.istore j))) 2000 && gchI k pc ((.istore j)) a b t v w) (gchE_at hm)
  obtain ⟨hx0, hi⟩ := and2 hi
  have hx0 : gpx ((.istore j)) < 2000 := blt_of hx0
  intro ad H locs ls hag hP hD hS hq hl
  have hs1 : (match (generalizing := false) st with
    | .inl x :: r => bif gnl lv a then some ((pc + glen ((.istore j))), gput lv a (some (.inl x)), r, S) else none
    | _ => none) = some (pc', lv', st', S') := hs
  split at hs1
  · rename_i x r
    obtain ⟨hg, e9⟩ := bic hs1
    cases e9
    obtain ⟨hi1, hi2⟩ := and2 (a := Nat.beq j a) (b := Nat.blt a (gmiOf k).2.2) hi
    obtain rfl : j = a := Nat.eq_of_beq_eq_true hi1
    exact lv_istore hx hb hd hl.has (blt_of hi2) rfl (fun ls9 h9 => kk ad H locs ls9 hag hP hD hS hq (gst1 hl hg h9))
  · cases hs1
theorem gs_lstore_n {n : Fin 4} (C : GX k p s m args c) (K : GK z L xs s) (hf : GF z) (hR : 10 ≤ R.frames ∧ 200 ≤ R.locals) (hm : (gmiOf k).1 pc = some ((.lstore_n n), nx, a, b, t, v, w)) (hs : gstep ((.lstore_n n), nx, a, b, t, v, w) lv st S = some (pc', lv', st', S')) (hi9 : gInv S.2 lv st) (hn : n0 ≤ S.2.1.length) (hcs : c0 ≤ S.2.2.1 ∧ s0 ≤ S.2.2.2) (hrm : S'.2.2.1 - c0 ≤ R.cells ∧ S'.2.2.2 - s0 ≤ R.slots) 
    (kk : gGoal p l e R s m args below meth c Q z k L xs n0 ad0 c0 s0 pc' lv' st' S') : gGoal p l e R s m args below meth c Q z k L xs n0 ad0 c0 s0 pc lv st S := by
  obtain ⟨hx, hb, hml, hown, hts⟩ := C
  obtain ⟨hd, rfl, hi⟩ := chk3 (A := decode (gccO k) pc = .ok ((.lstore_n n), glen ((.lstore_n n)))) (n := nx) (m := pc + glen ((.lstore_n n))) (B := Nat.blt (gpx ((.lstore_n n))) 2000 && gchI k pc ((.lstore_n n)) a b t v w) (gchE_at hm)
  obtain ⟨hx0, hi⟩ := and2 hi
  have hx0 : gpx ((.lstore_n n)) < 2000 := blt_of hx0
  intro ad H locs ls hag hP hD hS hq hl
  have hs1 : (match (generalizing := false) st with
    | .inr (.inl x) :: r => bif gnl lv a then some ((pc + glen ((.lstore_n n))), gput (gput lv a (some (.inr (.inl x)))) (a + 1) none, r, S) else none
    | _ => none) = some (pc', lv', st', S') := hs
  split at hs1
  · rename_i x r
    obtain ⟨hg, e9⟩ := bic hs1
    cases e9
    obtain ⟨hi1, hi2⟩ := and2 (a := Nat.beq (n : Nat) a) (b := Nat.blt (a + 1) (gmiOf k).2.2) hi
    exact lv_lstore_n hx hb hd (Nat.eq_of_beq_eq_true hi1) hl.has (blt_of hi2) rfl (fun ls9 h9 => kk ad H locs ls9 hag hP hD hS hq (gst2 hl hg h9))
  · cases hs1
theorem gs_lstore {j : Nat} (C : GX k p s m args c) (K : GK z L xs s) (hf : GF z) (hR : 10 ≤ R.frames ∧ 200 ≤ R.locals) (hm : (gmiOf k).1 pc = some ((.lstore j), nx, a, b, t, v, w)) (hs : gstep ((.lstore j), nx, a, b, t, v, w) lv st S = some (pc', lv', st', S')) (hi9 : gInv S.2 lv st) (hn : n0 ≤ S.2.1.length) (hcs : c0 ≤ S.2.2.1 ∧ s0 ≤ S.2.2.2) (hrm : S'.2.2.1 - c0 ≤ R.cells ∧ S'.2.2.2 - s0 ≤ R.slots) 
    (kk : gGoal p l e R s m args below meth c Q z k L xs n0 ad0 c0 s0 pc' lv' st' S') : gGoal p l e R s m args below meth c Q z k L xs n0 ad0 c0 s0 pc lv st S := by
  obtain ⟨hx, hb, hml, hown, hts⟩ := C
  obtain ⟨hd, rfl, hi⟩ := chk3 (A := decode (gccO k) pc = .ok ((.lstore j), glen ((.lstore j)))) (n := nx) (m := pc + glen ((.lstore j))) (B := Nat.blt (gpx ((.lstore j))) 2000 && gchI k pc ((.lstore j)) a b t v w) (gchE_at hm)
  obtain ⟨hx0, hi⟩ := and2 hi
  have hx0 : gpx ((.lstore j)) < 2000 := blt_of hx0
  intro ad H locs ls hag hP hD hS hq hl
  have hs1 : (match (generalizing := false) st with
    | .inr (.inl x) :: r => bif gnl lv a then some ((pc + glen ((.lstore j))), gput (gput lv a (some (.inr (.inl x)))) (a + 1) none, r, S) else none
    | _ => none) = some (pc', lv', st', S') := hs
  split at hs1
  · rename_i x r
    obtain ⟨hg, e9⟩ := bic hs1
    cases e9
    obtain ⟨hi1, hi2⟩ := and2 (a := Nat.beq j a) (b := Nat.blt (a + 1) (gmiOf k).2.2) hi
    obtain rfl : j = a := Nat.eq_of_beq_eq_true hi1
    exact lv_lstore hx hb hd hl.has (blt_of hi2) rfl (fun ls9 h9 => kk ad H locs ls9 hag hP hD hS hq (gst2 hl hg h9))
  · cases hs1
theorem gs_astore_n {n : Fin 4} (C : GX k p s m args c) (K : GK z L xs s) (hf : GF z) (hR : 10 ≤ R.frames ∧ 200 ≤ R.locals) (hm : (gmiOf k).1 pc = some ((.astore_n n), nx, a, b, t, v, w)) (hs : gstep ((.astore_n n), nx, a, b, t, v, w) lv st S = some (pc', lv', st', S')) (hi9 : gInv S.2 lv st) (hn : n0 ≤ S.2.1.length) (hcs : c0 ≤ S.2.2.1 ∧ s0 ≤ S.2.2.2) (hrm : S'.2.2.1 - c0 ≤ R.cells ∧ S'.2.2.2 - s0 ≤ R.slots) 
    (kk : gGoal p l e R s m args below meth c Q z k L xs n0 ad0 c0 s0 pc' lv' st' S') : gGoal p l e R s m args below meth c Q z k L xs n0 ad0 c0 s0 pc lv st S := by
  obtain ⟨hx, hb, hml, hown, hts⟩ := C
  obtain ⟨hd, rfl, hi⟩ := chk3 (A := decode (gccO k) pc = .ok ((.astore_n n), glen ((.astore_n n)))) (n := nx) (m := pc + glen ((.astore_n n))) (B := Nat.blt (gpx ((.astore_n n))) 2000 && gchI k pc ((.astore_n n)) a b t v w) (gchE_at hm)
  obtain ⟨hx0, hi⟩ := and2 hi
  have hx0 : gpx ((.astore_n n)) < 2000 := blt_of hx0
  intro ad H locs ls hag hP hD hS hq hl
  have hs1 : (match (generalizing := false) st with
    | .inr (.inr x) :: r => bif gnl lv a then some ((pc + glen ((.astore_n n))), gput lv a (some (.inr (.inr x))), r, S) else none
    | _ => none) = some (pc', lv', st', S') := hs
  split at hs1
  · rename_i x r
    obtain ⟨hg, e9⟩ := bic hs1
    cases e9
    obtain ⟨hi1, hi2⟩ := and2 (a := Nat.beq (n : Nat) a) (b := Nat.blt a (gmiOf k).2.2) hi
    cases x with
    | none => exact lv_astore_nN hx hb hd (Nat.eq_of_beq_eq_true hi1) hl.has (blt_of hi2) rfl (fun ls9 h9 => kk ad H locs ls9 hag hP hD hS hq (gst1 (x := .inr (.inr none)) hl hg h9))
    | some x => exact lv_astore_n hx hb hd (Nat.eq_of_beq_eq_true hi1) hl.has (blt_of hi2) rfl (fun ls9 h9 => kk ad H locs ls9 hag hP hD hS hq (gst1 (x := .inr (.inr (some x))) hl hg h9))
  · cases hs1
theorem gs_astore {j : Nat} (C : GX k p s m args c) (K : GK z L xs s) (hf : GF z) (hR : 10 ≤ R.frames ∧ 200 ≤ R.locals) (hm : (gmiOf k).1 pc = some ((.astore j), nx, a, b, t, v, w)) (hs : gstep ((.astore j), nx, a, b, t, v, w) lv st S = some (pc', lv', st', S')) (hi9 : gInv S.2 lv st) (hn : n0 ≤ S.2.1.length) (hcs : c0 ≤ S.2.2.1 ∧ s0 ≤ S.2.2.2) (hrm : S'.2.2.1 - c0 ≤ R.cells ∧ S'.2.2.2 - s0 ≤ R.slots) 
    (kk : gGoal p l e R s m args below meth c Q z k L xs n0 ad0 c0 s0 pc' lv' st' S') : gGoal p l e R s m args below meth c Q z k L xs n0 ad0 c0 s0 pc lv st S := by
  obtain ⟨hx, hb, hml, hown, hts⟩ := C
  obtain ⟨hd, rfl, hi⟩ := chk3 (A := decode (gccO k) pc = .ok ((.astore j), glen ((.astore j)))) (n := nx) (m := pc + glen ((.astore j))) (B := Nat.blt (gpx ((.astore j))) 2000 && gchI k pc ((.astore j)) a b t v w) (gchE_at hm)
  obtain ⟨hx0, hi⟩ := and2 hi
  have hx0 : gpx ((.astore j)) < 2000 := blt_of hx0
  intro ad H locs ls hag hP hD hS hq hl
  have hs1 : (match (generalizing := false) st with
    | .inr (.inr x) :: r => bif gnl lv a then some ((pc + glen ((.astore j))), gput lv a (some (.inr (.inr x))), r, S) else none
    | _ => none) = some (pc', lv', st', S') := hs
  split at hs1
  · rename_i x r
    obtain ⟨hg, e9⟩ := bic hs1
    cases e9
    obtain ⟨hi1, hi2⟩ := and2 (a := Nat.beq j a) (b := Nat.blt a (gmiOf k).2.2) hi
    obtain rfl : j = a := Nat.eq_of_beq_eq_true hi1
    cases x with
    | none => exact lv_astoreN hx hb hd hl.has (blt_of hi2) rfl (fun ls9 h9 => kk ad H locs ls9 hag hP hD hS hq (gst1 (x := .inr (.inr none)) hl hg h9))
    | some x => exact lv_astore hx hb hd hl.has (blt_of hi2) rfl (fun ls9 h9 => kk ad H locs ls9 hag hP hD hS hq (gst1 (x := .inr (.inr (some x))) hl hg h9))
  · cases hs1
theorem gs_iinc {j : Nat} {n : Int} (C : GX k p s m args c) (K : GK z L xs s) (hf : GF z) (hR : 10 ≤ R.frames ∧ 200 ≤ R.locals) (hm : (gmiOf k).1 pc = some ((.iinc j n), nx, a, b, t, v, w)) (hs : gstep ((.iinc j n), nx, a, b, t, v, w) lv st S = some (pc', lv', st', S')) (hi9 : gInv S.2 lv st) (hn : n0 ≤ S.2.1.length) (hcs : c0 ≤ S.2.2.1 ∧ s0 ≤ S.2.2.2) (hrm : S'.2.2.1 - c0 ≤ R.cells ∧ S'.2.2.2 - s0 ≤ R.slots) 
    (kk : gGoal p l e R s m args below meth c Q z k L xs n0 ad0 c0 s0 pc' lv' st' S') : gGoal p l e R s m args below meth c Q z k L xs n0 ad0 c0 s0 pc lv st S := by
  obtain ⟨hx, hb, hml, hown, hts⟩ := C
  obtain ⟨hd, rfl, hi⟩ := chk3 (A := decode (gccO k) pc = .ok ((.iinc j n), glen ((.iinc j n)))) (n := nx) (m := pc + glen ((.iinc j n))) (B := Nat.blt (gpx ((.iinc j n))) 2000 && gchI k pc ((.iinc j n)) a b t v w) (gchE_at hm)
  obtain ⟨hx0, hi⟩ := and2 hi
  have hx0 : gpx ((.iinc j n)) < 2000 := blt_of hx0
  intro ad H locs ls hag hP hD hS hq hl
  have hs1 : (match (generalizing := false) t with
    | 1 => (match (generalizing := false) ggo lv a with
      | some (.inl x) => bif gnl lv a then some ((pc + glen ((.iinc j n))), gput lv a (some (.inl (x - v))), st, S) else none
      | _ => none)
    | _ => (match (generalizing := false) ggo lv a with
      | some (.inl x) => bif gnl lv a then some ((pc + glen ((.iinc j n))), gput lv a (some (.inl (x + v))), st, S) else none
      | _ => none)) = some (pc', lv', st', S') := hs
  have hi1 : (Nat.beq j a && Nat.blt a (gmiOf k).2.2 && (match (generalizing := false) t with | 1 => decide (Int32.ofInt n = -v) | _ => decide (Int32.ofInt n = v))) = true := hi
  obtain ⟨hi2, hj3⟩ := and2 hi1
  obtain ⟨hj1, hj2⟩ := and2 hi2
  obtain rfl : j = a := Nat.eq_of_beq_eq_true hj1
  split at hs1
  · have hj3 : Int32.ofInt n = -v := of_decide_eq_true hj3
    split at hs1
    · rename_i x heq
      obtain ⟨hg, e9⟩ := bic hs1
      cases e9
      have hmem := gal_to (f := gadr z ad) (k := 0) heq
      rw [Nat.zero_add] at hmem
      obtain ⟨k9, hk9⟩ := List.getElem?_of_mem hmem
      exact lv_iinc (k := k9) hx hb hd hl.has hk9 (by rw [hj3, Int32.sub_eq_add_neg]) (blt_of hj2) rfl (fun ls9 h9 => kk ad H locs ls9 hag hP hD hS hq (gst1 (x := .inl (x - v)) hl hg h9))
    · cases hs1
  · rename_i hne
    have hj3 : Int32.ofInt n = v := by
      split at hj3
      · exact absurd rfl hne
      · exact of_decide_eq_true hj3
    split at hs1
    · rename_i x heq
      obtain ⟨hg, e9⟩ := bic hs1
      cases e9
      have hmem := gal_to (f := gadr z ad) (k := 0) heq
      rw [Nat.zero_add] at hmem
      obtain ⟨k9, hk9⟩ := List.getElem?_of_mem hmem
      exact lv_iinc (k := k9) hx hb hd hl.has hk9 (by rw [hj3]) (blt_of hj2) rfl (fun ls9 h9 => kk ad H locs ls9 hag hP hD hS hq (gst1 (x := .inl (x + v)) hl hg h9))
    · cases hs1
theorem gs_ldc {x0 : Nat} (C : GX k p s m args c) (K : GK z L xs s) (hf : GF z) (hR : 10 ≤ R.frames ∧ 200 ≤ R.locals) (hm : (gmiOf k).1 pc = some ((.ldc x0), nx, a, b, t, v, w)) (hs : gstep ((.ldc x0), nx, a, b, t, v, w) lv st S = some (pc', lv', st', S')) (hi9 : gInv S.2 lv st) (hn : n0 ≤ S.2.1.length) (hcs : c0 ≤ S.2.2.1 ∧ s0 ≤ S.2.2.2) (hrm : S'.2.2.1 - c0 ≤ R.cells ∧ S'.2.2.2 - s0 ≤ R.slots) 
    (kk : gGoal p l e R s m args below meth c Q z k L xs n0 ad0 c0 s0 pc' lv' st' S') : gGoal p l e R s m args below meth c Q z k L xs n0 ad0 c0 s0 pc lv st S := by
  obtain ⟨hx, hb, hml, hown, hts⟩ := C
  obtain ⟨hd, rfl, hi⟩ := chk3 (A := decode (gccO k) pc = .ok ((.ldc x0), glen ((.ldc x0)))) (n := nx) (m := pc + glen ((.ldc x0))) (B := Nat.blt (gpx ((.ldc x0))) 2000 && gchI k pc ((.ldc x0)) a b t v w) (gchE_at hm)
  obtain ⟨hx0, hi⟩ := and2 hi
  have hx0 : gpx ((.ldc x0)) < 2000 := blt_of hx0
  intro ad H locs ls hag hP hD hS hq hl
  have hs1 : (match (generalizing := false) t with
    | 0 => some ((pc + glen ((.ldc x0))), lv, .inl v :: st, S)
    | 1 => some ((pc + glen ((.ldc x0))), lv, .inr (.inr (some (.inr a))) :: st, S)
    | _ => none) = some (pc', lv', st', S') := hs
  have hq1 : (2000 * gclO k + x0) / 2000 = gclO k := by have : x0 < 2000 := hx0; omega
  have hq2 : (2000 * gclO k + x0) % 2000 = x0 := by have : x0 < 2000 := hx0; omega
  split at hs1
  · cases hs1
    exact lv_ldc hx hb hown (hts _ (gtbl_in (atT_in hi) rfl)) hd (kk ad H locs ls hag hP hD hS hq hl)
  · cases hs1
    have hi1 : (decide (gsrs (2000 * gclO k + x0) = some ((a - 10) / 2)) && Nat.beq a (10 + 2 * ((a - 10) / 2)) && Nat.blt ((a - 10) / 2) gKS) = true := hi
    simp only [Bool.and_eq_true, decide_eq_true_eq] at hi1
    obtain ⟨⟨j1, j2⟩, j3⟩ := hi1
    have hR9 := K.2.1.2.2.2.2.2.2 _ _ j1 (blt_of j3)
    rw [hq1, hq2, ← Nat.eq_of_beq_eq_true j2] at hR9
    exact va_ldcS hx hb hown hR9 hd (kk ad H locs ls hag hP hD hS hq hl)
  · cases hs1
theorem gs_ldc_w {x0 : Nat} (C : GX k p s m args c) (K : GK z L xs s) (hf : GF z) (hR : 10 ≤ R.frames ∧ 200 ≤ R.locals) (hm : (gmiOf k).1 pc = some ((.ldc_w x0), nx, a, b, t, v, w)) (hs : gstep ((.ldc_w x0), nx, a, b, t, v, w) lv st S = some (pc', lv', st', S')) (hi9 : gInv S.2 lv st) (hn : n0 ≤ S.2.1.length) (hcs : c0 ≤ S.2.2.1 ∧ s0 ≤ S.2.2.2) (hrm : S'.2.2.1 - c0 ≤ R.cells ∧ S'.2.2.2 - s0 ≤ R.slots) 
    (kk : gGoal p l e R s m args below meth c Q z k L xs n0 ad0 c0 s0 pc' lv' st' S') : gGoal p l e R s m args below meth c Q z k L xs n0 ad0 c0 s0 pc lv st S := by
  obtain ⟨hx, hb, hml, hown, hts⟩ := C
  obtain ⟨hd, rfl, hi⟩ := chk3 (A := decode (gccO k) pc = .ok ((.ldc_w x0), glen ((.ldc_w x0)))) (n := nx) (m := pc + glen ((.ldc_w x0))) (B := Nat.blt (gpx ((.ldc_w x0))) 2000 && gchI k pc ((.ldc_w x0)) a b t v w) (gchE_at hm)
  obtain ⟨hx0, hi⟩ := and2 hi
  have hx0 : gpx ((.ldc_w x0)) < 2000 := blt_of hx0
  intro ad H locs ls hag hP hD hS hq hl
  have hs1 : (some ((pc + glen ((.ldc_w x0))), lv, .inl v :: st, S)) = some (pc', lv', st', S') := hs
  cases hs1
  exact lv_ldcw hx hb hown (hts _ (gtbl_in (atT_in hi) rfl)) hd (kk ad H locs ls hag hP hD hS hq hl)
theorem gs_ldc2_w {x0 : Nat} (C : GX k p s m args c) (K : GK z L xs s) (hf : GF z) (hR : 10 ≤ R.frames ∧ 200 ≤ R.locals) (hm : (gmiOf k).1 pc = some ((.ldc2_w x0), nx, a, b, t, v, w)) (hs : gstep ((.ldc2_w x0), nx, a, b, t, v, w) lv st S = some (pc', lv', st', S')) (hi9 : gInv S.2 lv st) (hn : n0 ≤ S.2.1.length) (hcs : c0 ≤ S.2.2.1 ∧ s0 ≤ S.2.2.2) (hrm : S'.2.2.1 - c0 ≤ R.cells ∧ S'.2.2.2 - s0 ≤ R.slots) 
    (kk : gGoal p l e R s m args below meth c Q z k L xs n0 ad0 c0 s0 pc' lv' st' S') : gGoal p l e R s m args below meth c Q z k L xs n0 ad0 c0 s0 pc lv st S := by
  obtain ⟨hx, hb, hml, hown, hts⟩ := C
  obtain ⟨hd, rfl, hi⟩ := chk3 (A := decode (gccO k) pc = .ok ((.ldc2_w x0), glen ((.ldc2_w x0)))) (n := nx) (m := pc + glen ((.ldc2_w x0))) (B := Nat.blt (gpx ((.ldc2_w x0))) 2000 && gchI k pc ((.ldc2_w x0)) a b t v w) (gchE_at hm)
  obtain ⟨hx0, hi⟩ := and2 hi
  have hx0 : gpx ((.ldc2_w x0)) < 2000 := blt_of hx0
  intro ad H locs ls hag hP hD hS hq hl
  have hs1 : (some ((pc + glen ((.ldc2_w x0))), lv, .inr (.inl w) :: st, S)) = some (pc', lv', st', S') := hs
  cases hs1
  exact lv_ldc2 hx hb hown (hts _ (gtbl_in (atT_in hi) rfl)) hd (kk ad H locs ls hag hP hD hS hq hl)
theorem gs_getfield {x0 : Nat} (C : GX k p s m args c) (K : GK z L xs s) (hf : GF z) (hR : 10 ≤ R.frames ∧ 200 ≤ R.locals) (hm : (gmiOf k).1 pc = some ((.getfield x0), nx, a, b, t, v, w)) (hs : gstep ((.getfield x0), nx, a, b, t, v, w) lv st S = some (pc', lv', st', S')) (hi9 : gInv S.2 lv st) (hn : n0 ≤ S.2.1.length) (hcs : c0 ≤ S.2.2.1 ∧ s0 ≤ S.2.2.2) (hrm : S'.2.2.1 - c0 ≤ R.cells ∧ S'.2.2.2 - s0 ≤ R.slots) 
    (kk : gGoal p l e R s m args below meth c Q z k L xs n0 ad0 c0 s0 pc' lv' st' S') : gGoal p l e R s m args below meth c Q z k L xs n0 ad0 c0 s0 pc lv st S := by
  obtain ⟨hx, hb, hml, hown, hts⟩ := C
  obtain ⟨hd, rfl, hi⟩ := chk3 (A := decode (gccO k) pc = .ok ((.getfield x0), glen ((.getfield x0)))) (n := nx) (m := pc + glen ((.getfield x0))) (B := Nat.blt (gpx ((.getfield x0))) 2000 && gchI k pc ((.getfield x0)) a b t v w) (gchE_at hm)
  obtain ⟨hx0, hi⟩ := and2 hi
  have hx0 : gpx ((.getfield x0)) < 2000 := blt_of hx0
  intro ad H locs ls hag hP hD hS hq hl
  have hs1 : (match (generalizing := false) st with
    | .inr (.inr o) :: r => (match (generalizing := false) t with
      | 0 => (gFi S.2 o a b).map fun z => ((pc + glen ((.getfield x0))), lv, .inl z :: r, S)
      | 2 => (gFr S.2 o a b).map fun z => ((pc + glen ((.getfield x0))), lv, .inr (.inr z) :: r, S)
      | _ => none)
    | _ => none) = some (pc', lv', st', S') := hs
  have hi1 : (atT (gpP (2000 * gclO k + x0)) (.fieldLink (gownN (gclO k)) x0 (fT a b).1 (fT a b).2.1 (fT a b).2.2.1) && Nat.blt b (fN a) && Nat.blt a 13 && Nat.ble 8 a && (Nat.beq t 0 || Nat.beq t 2)) = true := hi
  simp only [Bool.and_eq_true] at hi1
  obtain ⟨⟨⟨⟨j1, j2⟩, j3⟩, j4⟩, -⟩ := hi1
  have hlk := hts _ (gtbl_in (atT_in j1) rfl)
  have hbN := blt_of j2
  have ha13 := blt_of j3
  split at hs1
  · rename_i o r
    split at hs1
    · obtain ⟨z9, h9, e9⟩ := mp2 hs1
      cases e9
      have h9 := gFi_inv h9
      rcases gFld_inv h9 with ⟨i, vs, rfl, hD9, hv9⟩ | ⟨j, rfl, hj, rfl, hb9⟩
      · exact va_get hx hb hts (gusw a ha13) hown K.1.1.1 hP (122 + i) (gW_get hD9) (gclA ha13) b hbN hlk (fun _ h9 => h9) (by rw [List.getElem?_map, hv9]; rfl) hd (kk ad H locs ls hag hP hD hS hq hl)
      · rcases hb9 with ⟨rfl, hv⟩ | ⟨rfl, hv⟩
        · cases hv
        · cases hv
          exact vk_getf hx hb (K.2.1.1 j hj).2.1 hS hown hlk (fun _ h9 => h9) hd (kk ad H locs ls hag hP hD hS hq hl)
    · obtain ⟨z9, h9, e9⟩ := mp2 hs1
      cases e9
      have h9 := gFr_inv h9
      rcases gFld_inv h9 with ⟨i, vs, rfl, hD9, hv9⟩ | ⟨j, rfl, hj, rfl, hb9⟩
      · exact va_get hx hb hts (gusw a ha13) hown K.1.1.1 hP (122 + i) (gW_get hD9) (gclA ha13) b hbN hlk (fun _ h9 => h9) (by rw [List.getElem?_map, hv9]; rfl) hd (kk ad H locs ls hag hP hD hS hq hl)
      · rcases hb9 with ⟨rfl, hv⟩ | ⟨rfl, hv⟩
        · cases hv
          exact vk_getf hx hb (K.2.1.1 j hj).2.2 hS hown hlk (fun _ h9 => h9) hd (kk ad H locs ls hag hP hD hS hq hl)
        · cases hv
    · cases hs1
  · cases hs1
theorem gFst_inv {D D' : gDS} {r : gRF} {ci b : Nat} {v : gPV} (h : gFst D r ci b v = some D') : ∃ i vs, r = some (.inl i) ∧ D.1[i]? = some (.inl (ci, vs)) ∧ b < vs.length ∧ D' = gSet D i (.inl (ci, vs.set b v)) := by
  unfold gFst at h
  split at h
  · split at h
    · rename_i i cj vs heq
      obtain ⟨hc, hh⟩ := bic h
      clear h
      cases hh
      obtain ⟨h1, h2⟩ := and2 hc
      obtain rfl : cj = ci := Nat.eq_of_beq_eq_true h1
      exact ⟨_, _, rfl, heq, blt_of h2, rfl⟩
    · cases h
  · cases h
theorem gs_put {x0 i : Nat} {vs : List gPV} {x : gPV} {r : List gPV} (C : GX k p s m args c) (K : GK z L xs s) (hf : GF z) (hR : 10 ≤ R.frames ∧ 200 ≤ R.locals) (hmn : meth.name = (gyO k).name) (hd : decode (gccO k) pc = .ok (.putfield x0, 3)) (hlk : Cond.fieldLink (gownN (gclO k)) x0 (fT a b).1 (fT a b).2.1 (fT a b).2.2.1 ∈ lw_tbl) (hbN : b < fN a) (ha13 : a < 13) (ha8 : 8 ≤ a)
    (hfin : (fT a b).2.2.2 = false ∨ ((gyO k).name = "<init>" ∧ (fT a b).1 = gownN (gclO k))) (hD9 : S.2.1[i]? = some (.inl (a, vs))) (hlen : b < vs.length) (hnf : ∀ f, narrow (gfY a b) (gimg f x) = gimg f x ∧ fits (gfY a b) (gimg f x) = true)
    (kk : gGoal p l e R s m args below meth c Q z k L xs n0 ad0 c0 s0 (pc + 3) lv r (S.1, gSet S.2 i (.inl (a, vs.set b x)))) : gGoal p l e R s m args below meth c Q z k L xs n0 ad0 c0 s0 pc lv (x :: .inr (.inr (some (.inl i))) :: r) S := by
  obtain ⟨hx, hb, hml, hown, hts⟩ := C
  intro ad H locs ls hag hP hD hS hq hl
  have hset : (gW z S.1 ad S.2.1).set (122 + i) (ad i, .inr (a, (vs.map (gimg (gadr z ad))).set b (gimg (gadr z ad) x))) = gW z S.1 ad (S.2.1.set i (.inl (a, vs.set b x))) := by
    rw [← gW_set]
    congr 2
    show (Sum.inr (a, _) : va_E) = .inr (a, (vs.set b x).map _)
    rw [List.map_set]
  have hk9 : ∀ (H1 : Heap) (locs1 : List Loc), va_P z.1 vwCl ((gW z S.1 ad S.2.1).set (122 + i) (ad i, .inr (a, (vs.map (gimg (gadr z ad))).set b (gimg (gadr z ad) x)))) H1 → va_D (AB z) ((gW z S.1 ad S.2.1).set (122 + i) (ad i, .inr (a, (vs.map (gimg (gadr z ad))).set b (gimg (gadr z ad) x)))) → va_S (AB z) s.heap H1 locs1 → W p l e R s m args below meth c H1 locs1 (S.2.2.1 - c0) (S.2.2.2 - s0) Q (F0 m (pc + 3) ls (r.map (gimg (gadr z ad)))) := fun H1 locs1 hP1 hD1 hS1 => kk ad H1 locs1 ls hag (by rw [hset] at hP1; exact hP1) (by rw [hset] at hD1; exact hD1) hS1 hq hl
  cases hF : (fT a b).2.2.2 with
  | false => exact va_put hx hb hts (gusw a ha13) (gfY a) (gfY_ok ha8 ha13) (gfM_ok ha8 ha13) hown K.1.1.1 hP hD hS (122 + i) (gW_get hD9) (gclA ha13) b hbN (hts _ (gtbl_in hlk rfl)) (fun _ h9 => h9) hF (gfY_ok ha8 ha13 b hbN) (hnf _).1 (hnf _).2 (by rw [List.length_map]; exact hlen) hd hk9
  | true =>
    rcases hfin with h0 | ⟨h1, h2⟩
    · rw [hF] at h0
      cases h0
    · exact va_putF hx hb hts (gusw a ha13) (gfY a) (gfY_ok ha8 ha13) (gfM_ok ha8 ha13) hown K.1.1.1 hP hD hS (122 + i) (gW_get hD9) (gclA ha13) b hbN (hts _ (gtbl_in hlk rfl)) (fun _ h9 => h9) hF (by rw [hmn]; exact h1) h2 (gfY_ok ha8 ha13 b hbN) (hnf _).1 (hnf _).2 (by rw [List.length_map]; exact hlen) hd hk9
theorem gnf_ref {ty : FieldType} (h : ty.isReference = true) (r : gRF) (f : Nat ⊕ Nat → Nat) : narrow ty (gimg f (.inr (.inr r))) = gimg f (.inr (.inr r)) ∧ fits ty (gimg f (.inr (.inr r))) = true := by
  cases ty <;> first | (cases r <;> exact ⟨rfl, rfl⟩) | cases h
theorem gnf_byte {x y : Int32} (h : gNar 6 x = some y) (f : Nat ⊕ Nat → Nat) : narrow .byte (gimg f (.inl y)) = gimg f (.inl y) ∧ fits .byte (gimg f (.inl y)) = true := by
  have h1 : (if vp_nar .byte x = x then some x else none) = some y := h
  by_cases q : vp_nar .byte x = x
  · rw [if_pos q] at h1
    cases h1
    refine ⟨?_, ?_⟩
    · show Value.int x.toInt8.toInt32 = .int x
      exact congrArg Value.int q
    · have := gbyt_nar x
      rw [q] at this
      exact this
  · rw [if_neg q] at h1
    cases h1
theorem gs_putfield {x0 : Nat} (C : GX k p s m args c) (K : GK z L xs s) (hf : GF z) (hR : 10 ≤ R.frames ∧ 200 ≤ R.locals) (hm : (gmiOf k).1 pc = some ((.putfield x0), nx, a, b, t, v, w)) (hs : gstep ((.putfield x0), nx, a, b, t, v, w) lv st S = some (pc', lv', st', S')) (hi9 : gInv S.2 lv st) (hn : n0 ≤ S.2.1.length) (hcs : c0 ≤ S.2.2.1 ∧ s0 ≤ S.2.2.2) (hrm : S'.2.2.1 - c0 ≤ R.cells ∧ S'.2.2.2 - s0 ≤ R.slots) (hmn : meth.name = (gyO k).name)
    (kk : gGoal p l e R s m args below meth c Q z k L xs n0 ad0 c0 s0 pc' lv' st' S') : gGoal p l e R s m args below meth c Q z k L xs n0 ad0 c0 s0 pc lv st S := by
  obtain ⟨hx, hb, hml, hown, hts⟩ := C
  obtain ⟨hd, rfl, hi⟩ := chk3 (A := decode (gccO k) pc = .ok ((.putfield x0), glen ((.putfield x0)))) (n := nx) (m := pc + glen ((.putfield x0))) (B := Nat.blt (gpx ((.putfield x0))) 2000 && gchI k pc ((.putfield x0)) a b t v w) (gchE_at hm)
  obtain ⟨hx0, hi⟩ := and2 hi
  have hx0 : gpx ((.putfield x0)) < 2000 := blt_of hx0
  intro ad H locs ls hag hP hD hS hq hl
  have hs1 : (match (generalizing := false) st with
    | .inl x :: .inr (.inr o) :: r => (match (generalizing := false) t with
      | 0 => (gFst S.2 o a b (.inl x)).map fun D => ((pc + glen ((.putfield x0))), lv, r, (S.1, D))
      | 1 => (gFsN S.2 o a b x).map fun D => ((pc + glen ((.putfield x0))), lv, r, (S.1, D))
      | _ => none)
    | .inr (.inr x) :: .inr (.inr o) :: r => (match (generalizing := false) t with
      | 2 => (gFst S.2 o a b (.inr (.inr x))).map fun D => ((pc + glen ((.putfield x0))), lv, r, (S.1, D))
      | _ => none)
    | _ => none) = some (pc', lv', st', S') := hs
  have hi1 : (atT (gpP (2000 * gclO k + x0)) (.fieldLink (gownN (gclO k)) x0 (fT a b).1 (fT a b).2.1 (fT a b).2.2.1) && Nat.blt b (fN a) && Nat.blt a 13 && Nat.ble 8 a && (!(fT a b).2.2.2 || (decide ((gyO k).name = "<init>") && decide ((fT a b).1 = gownN (gclO k)))) && (match (generalizing := false) t with | 0 => decide (gfY a b = .int) | 1 => decide (gfY a b = .byte) | 2 => (gfY a b).isReference | _ => false)) = true := hi
  simp only [Bool.and_eq_true] at hi1
  obtain ⟨⟨⟨⟨⟨j1, j2⟩, j3⟩, j4⟩, j5⟩, j6⟩ := hi1
  have hlk := atT_in j1
  have hbN := blt_of j2
  have ha13 := blt_of j3
  have ha8 := Nat.le_of_ble_eq_true j4
  have hfin : (fT a b).2.2.2 = false ∨ ((gyO k).name = "<init>" ∧ (fT a b).1 = gownN (gclO k)) := by
    cases hF : (fT a b).2.2.2 with
    | false => exact Or.inl rfl
    | true =>
      rw [hF] at j5
      have j5 : (decide ((gyO k).name = "<init>") && decide ((fT a b).1 = gownN (gclO k))) = true := j5
      rw [Bool.and_eq_true, decide_eq_true_eq, decide_eq_true_eq] at j5
      exact Or.inr j5
  split at hs1
  · rename_i x o r
    split at hs1
    · obtain ⟨z9, h9, e9⟩ := mp2 hs1
      cases e9
      obtain ⟨i, vs, rfl, hD9, hlen, rfl⟩ := gFst_inv h9
      have hty : gfY a b = .int := of_decide_eq_true j6
      exact gs_put ⟨hx, hb, hml, hown, hts⟩ K hf hR hmn hd hlk hbN ha13 ha8 hfin hD9 hlen (fun f => by rw [hty]; exact ⟨rfl, rfl⟩) kk ad H locs ls hag hP hD hS hq hl
    · obtain ⟨z9, h9, e9⟩ := mp2 hs1
      cases e9
      obtain ⟨y9, hy9, h9⟩ := Option.bind_eq_some_iff.mp (show (gNar 6 x).bind _ = _ from h9)
      obtain ⟨i, vs, rfl, hD9, hlen, rfl⟩ := gFst_inv h9
      have hyx : y9 = x := by
        have h1 : (if vp_nar .byte x = x then some x else none) = some y9 := hy9
        by_cases q : vp_nar .byte x = x
        · rw [if_pos q] at h1
          exact (Option.some.inj h1).symm
        · rw [if_neg q] at h1
          cases h1
      subst hyx
      have hty : gfY a b = .byte := of_decide_eq_true j6
      exact gs_put ⟨hx, hb, hml, hown, hts⟩ K hf hR hmn hd hlk hbN ha13 ha8 hfin hD9 hlen (fun f => by rw [hty]; exact gnf_byte hy9 f) kk ad H locs ls hag hP hD hS hq hl
    · cases hs1
  · rename_i x o r
    split at hs1
    · obtain ⟨z9, h9, e9⟩ := mp2 hs1
      cases e9
      obtain ⟨i, vs, rfl, hD9, hlen, rfl⟩ := gFst_inv h9
      exact gs_put ⟨hx, hb, hml, hown, hts⟩ K hf hR hmn hd hlk hbN ha13 ha8 hfin hD9 hlen (fun f => gnf_ref j6 x f) kk ad H locs ls hag hP hD hS hq hl
    · cases hs1
  · cases hs1
theorem gs_getstatic {x0 : Nat} (C : GX k p s m args c) (K : GK z L xs s) (hf : GF z) (hR : 10 ≤ R.frames ∧ 200 ≤ R.locals) (hm : (gmiOf k).1 pc = some ((.getstatic x0), nx, a, b, t, v, w)) (hs : gstep ((.getstatic x0), nx, a, b, t, v, w) lv st S = some (pc', lv', st', S')) (hi9 : gInv S.2 lv st) (hn : n0 ≤ S.2.1.length) (hcs : c0 ≤ S.2.2.1 ∧ s0 ≤ S.2.2.2) (hrm : S'.2.2.1 - c0 ≤ R.cells ∧ S'.2.2.2 - s0 ≤ R.slots) 
    (kk : gGoal p l e R s m args below meth c Q z k L xs n0 ad0 c0 s0 pc' lv' st' S') : gGoal p l e R s m args below meth c Q z k L xs n0 ad0 c0 s0 pc lv st S := by
  obtain ⟨hx, hb, hml, hown, hts⟩ := C
  obtain ⟨hd, rfl, hi⟩ := chk3 (A := decode (gccO k) pc = .ok ((.getstatic x0), glen ((.getstatic x0)))) (n := nx) (m := pc + glen ((.getstatic x0))) (B := Nat.blt (gpx ((.getstatic x0))) 2000 && gchI k pc ((.getstatic x0)) a b t v w) (gchE_at hm)
  obtain ⟨hx0, hi⟩ := and2 hi
  have hx0 : gpx ((.getstatic x0)) < 2000 := blt_of hx0
  intro ad H locs ls hag hP hD hS hq hl
  have hs1 : (match (generalizing := false) t with
    | 1 => some ((pc + glen ((.getstatic x0))), lv, .inl v :: st, S)
    | 2 => some ((pc + glen ((.getstatic x0))), lv, .inr (.inr (some (.inr a))) :: st, S)
    | _ => none) = some (pc', lv', st', S') := hs
  split at hs1
  · cases hs1
    have hi1 : (atT (gpP (2000 * gclO k + x0)) (.fieldLink (gownN (gclO k)) x0 "java/lang/String" "COMPACT_STRINGS" "Z") && decide (v = 1)) = true := hi
    obtain ⟨j1, j2⟩ := and2 hi1
    obtain rfl : v = 1 := of_decide_eq_true j2
    exact va_gets hx hb K.1.2.2.2.2.2.2.2.2.1 hS hown (hts _ (gtbl_in (atT_in j1) rfl)) (fun _ h9 => h9) hd (kk ad H locs ls hag hP hD hS hq hl)
  · cases hs1
    have hi1 : (match (generalizing := false) a with | 1 => atT (gpP (2000 * gclO k + x0)) (.fieldLinkNest (gownN (gclO k)) x0 "WindyToursLaw" "VARIABLES" "[Ljava/lang/String;" "WindyToursLaw") | 3 => atT (gpP (2000 * gclO k + x0)) (.fieldLink (gownN (gclO k)) x0 "java/lang/Integer" "DigitOnes" "[B") | 4 => atT (gpP (2000 * gclO k + x0)) (.fieldLink (gownN (gclO k)) x0 "java/lang/Integer" "DigitTens" "[B") | _ => false) = true := hi
    split at hi1
    · exact va_getsN hx hb K.2.1.2.2.2.2.2.1 hS hown (va_Nw.use rfl (K.1.1.2.1 _ (atT_in hi1) rfl)) (fun _ h9 => h9) hd (kk ad H locs ls hag hP hD hS hq hl)
    · exact va_gets hx hb K.2.1.2.2.2.1 hS hown (hts _ (gtbl_in (atT_in hi1) rfl)) (fun _ h9 => h9) hd (kk ad H locs ls hag hP hD hS hq hl)
    · exact va_gets hx hb K.2.1.2.2.2.2.1 hS hown (hts _ (gtbl_in (atT_in hi1) rfl)) (fun _ h9 => h9) hd (kk ad H locs ls hag hP hD hS hq hl)
    · cases hi1
  · cases hs1
theorem gW_int {h : PH} {ad : Nat → Nat} {D : gDS} {i kk : Nat} {ys : List Int32} (hD : D.1[i]? = some (.inr (.inl (kk, ys)))) : (gW z h ad D.1)[122 + i]? = some (ad i, .inl (z.2.1 kk, ys.length, .inl fun j => ys.getD j 0)) := gW_get hD
theorem gW_lng {h : PH} {ad : Nat → Nat} {D : gDS} {i : Nat} {ys : List Int64} (hD : D.1[i]? = some (.inr (.inr (.inl ys)))) : (gW z h ad D.1)[122 + i]? = some (ad i, .inl (z.2.1 4, ys.length, .inr (.inl fun j => ys.getD j 0))) := gW_get hD
theorem gW_ref {h : PH} {ad : Nat → Nat} {D : gDS} {i key : Nat} {ys : List gRF} (hD : D.1[i]? = some (.inr (.inr (.inr (key, ys))))) : (gW z h ad D.1)[122 + i]? = some (ad i, .inl (z.2.1 key, ys.length, .inr (.inr (.inr (.inr fun j => (ys.getD j none).map (gadr z ad)))))) := gW_get hD
theorem gs_iaload  (C : GX k p s m args c) (K : GK z L xs s) (hf : GF z) (hR : 10 ≤ R.frames ∧ 200 ≤ R.locals) (hm : (gmiOf k).1 pc = some (.iaload, nx, a, b, t, v, w)) (hs : gstep (.iaload, nx, a, b, t, v, w) lv st S = some (pc', lv', st', S')) (hi9 : gInv S.2 lv st) (hn : n0 ≤ S.2.1.length) (hcs : c0 ≤ S.2.2.1 ∧ s0 ≤ S.2.2.2) (hrm : S'.2.2.1 - c0 ≤ R.cells ∧ S'.2.2.2 - s0 ≤ R.slots) (hL : L ≤ 3072)
    (kk : gGoal p l e R s m args below meth c Q z k L xs n0 ad0 c0 s0 pc' lv' st' S') : gGoal p l e R s m args below meth c Q z k L xs n0 ad0 c0 s0 pc lv st S := by
  obtain ⟨hx, hb, hml, hown, hts⟩ := C
  obtain ⟨hd, rfl, hi⟩ := chk3 (A := decode (gccO k) pc = .ok (.iaload, glen (.iaload))) (n := nx) (m := pc + glen (.iaload)) (B := Nat.blt (gpx (.iaload)) 2000 && gchI k pc (.iaload) a b t v w) (gchE_at hm)
  obtain ⟨hx0, hi⟩ := and2 hi
  have hx0 : gpx (.iaload) < 2000 := blt_of hx0
  intro ad H locs ls hag hP hD hS hq hl
  have hs1 : (match (generalizing := false) st with
    | .inl i :: .inr (.inr o) :: r => (match (generalizing := false) t with
      | 7 => (match (generalizing := false) o with
        | some (.inr 5) => (gScr S.1 i).map fun z => ((pc + glen (.iaload)), lv, .inl z :: r, S)
        | _ => none)
      | _ => (gIld S.2 o 1 i).map fun z => ((pc + glen (.iaload)), lv, .inl z :: r, S))
    | _ => none) = some (pc', lv', st', S') := hs
  split at hs1
  · rename_i i o r
    split at hs1
    · split at hs1
      · obtain ⟨z9, h9, e9⟩ := mp2 hs1
        cases e9
        have hbn : (S.1.1 168 0).toNatClampNeg = L := by rw [hq.2]; exact nI_clamp (by omega)
        unfold gScr at h9
        rw [hbn] at h9
        by_cases hb1 : inb i L = true
        · rw [if_pos hb1] at h9
          cases h9
          have k9 := (kk ad H locs ls hag hP hD hS hq hl)
          rw [hq.1] at k9
          refine (?_ : W p l e R s m args below meth c H locs _ _ Q (F0 m pc ls (.int i :: .ref (gkA z 5) :: r.map (gimg (gadr z ad)))))
          rw [hf.2.2.2]
          exact va_sld hx hb K.1.1.2.2.1 K.1.1.2.2.2 hf.2.2.1 hS (inb_in hb1) hd k9
        · rw [if_neg hb1] at h9
          cases h9
      · cases hs1
    · obtain ⟨z9, h9, e9⟩ := mp2 hs1
      cases e9
      obtain ⟨ys, h1, h2⟩ := Option.bind_eq_some_iff.mp (show (gInt S.2 o _).bind _ = _ from h9)
      obtain ⟨j9, h3, h4⟩ := Option.bind_eq_some_iff.mp h2
      cases h4
      obtain ⟨k1, rfl, k3⟩ := aidx_inv h3
      rcases gInt_inv h1 with ⟨i9, rfl, hD9⟩ | ⟨q9, -⟩
      · exact va_iald hx hb K.1.1.1 hP (122 + i9) 0 (gW_int hD9) rfl (inb_in k1) hd (kk ad H locs ls hag hP hD hS hq hl)
      · cases q9
  · cases hs1
theorem gs_baload  (C : GX k p s m args c) (K : GK z L xs s) (hf : GF z) (hR : 10 ≤ R.frames ∧ 200 ≤ R.locals) (hm : (gmiOf k).1 pc = some (.baload, nx, a, b, t, v, w)) (hs : gstep (.baload, nx, a, b, t, v, w) lv st S = some (pc', lv', st', S')) (hi9 : gInv S.2 lv st) (hn : n0 ≤ S.2.1.length) (hcs : c0 ≤ S.2.2.1 ∧ s0 ≤ S.2.2.2) (hrm : S'.2.2.1 - c0 ≤ R.cells ∧ S'.2.2.2 - s0 ≤ R.slots) 
    (kk : gGoal p l e R s m args below meth c Q z k L xs n0 ad0 c0 s0 pc' lv' st' S') : gGoal p l e R s m args below meth c Q z k L xs n0 ad0 c0 s0 pc lv st S := by
  obtain ⟨hx, hb, hml, hown, hts⟩ := C
  obtain ⟨hd, rfl, hi⟩ := chk3 (A := decode (gccO k) pc = .ok (.baload, glen (.baload))) (n := nx) (m := pc + glen (.baload)) (B := Nat.blt (gpx (.baload)) 2000 && gchI k pc (.baload) a b t v w) (gchE_at hm)
  obtain ⟨hx0, hi⟩ := and2 hi
  have hx0 : gpx (.baload) < 2000 := blt_of hx0
  intro ad H locs ls hag hP hD hS hq hl
  have hs1 : (match (generalizing := false) st with
    | .inl i :: .inr (.inr o) :: r => (gIld S.2 o 2 i).map fun z => ((pc + glen (.baload)), lv, .inl z :: r, S)
    | _ => none) = some (pc', lv', st', S') := hs
  split at hs1
  · rename_i i o r
    obtain ⟨z9, h9, e9⟩ := mp2 hs1
    cases e9
    obtain ⟨ys, h1, h2⟩ := Option.bind_eq_some_iff.mp (show (gInt S.2 o _).bind _ = _ from h9)
    obtain ⟨j9, h3, h4⟩ := Option.bind_eq_some_iff.mp h2
    cases h4
    obtain ⟨k1, rfl, k3⟩ := aidx_inv h3
    rcases gInt_inv h1 with ⟨i9, rfl, hD9⟩ | ⟨-, q9, rfl, hq9⟩
    · exact va_bald hx hb K.1.1.1 hP (122 + i9) 1 (gW_int hD9) rfl (inb_in k1) hd (kk ad H locs ls hag hP hD hS hq hl)
    · exact va_tb hx hb (K.2.1.2.1 q9 ys hq9) hS (inb_in k1) rfl hd (kk ad H locs ls hag hP hD hS hq hl)
  · cases hs1
theorem gJs_inv {D : gDS} {r : gRF} {ys : List Int64} (h : gJs D r = some ys) : ∃ i, r = some (.inl i) ∧ D.1[i]? = some (.inr (.inr (.inl ys))) := by
  unfold gJs at h
  split at h
  · split at h
    · rename_i i xs heq
      cases h
      exact ⟨_, rfl, heq⟩
    · cases h
  · cases h
theorem gQs_inv {D : gDS} {r : gRF} {q : Nat × List gRF} (h : gQs D r = some q) : (∃ i, r = some (.inl i) ∧ D.1[i]? = some (.inr (.inr (.inr q)))) ∨ (∃ j, r = some (.inr j) ∧ gkQ j = some q) := by
  unfold gQs at h
  split at h
  · split at h
    · rename_i i xs heq
      cases h
      exact Or.inl ⟨_, rfl, heq⟩
    · cases h
  · exact Or.inr ⟨_, rfl, h⟩
  · cases h
theorem gvt_q {n key : Nat} {rs : List gRF} (h : gvt n (.inr (.inr (.inr (key, rs)))) = true) : key = 6 ∨ key = 41 := by
  have h := (and2 (show ((Nat.beq key 6 || Nat.beq key 41) && rs.all (gvr n)) = true from h)).1
  rw [Bool.or_eq_true] at h
  rcases h with h | h
  · exact Or.inl (Nat.eq_of_beq_eq_true h)
  · exact Or.inr (Nat.eq_of_beq_eq_true h)
theorem gs_laload  (C : GX k p s m args c) (K : GK z L xs s) (hf : GF z) (hR : 10 ≤ R.frames ∧ 200 ≤ R.locals) (hm : (gmiOf k).1 pc = some (.laload, nx, a, b, t, v, w)) (hs : gstep (.laload, nx, a, b, t, v, w) lv st S = some (pc', lv', st', S')) (hi9 : gInv S.2 lv st) (hn : n0 ≤ S.2.1.length) (hcs : c0 ≤ S.2.2.1 ∧ s0 ≤ S.2.2.2) (hrm : S'.2.2.1 - c0 ≤ R.cells ∧ S'.2.2.2 - s0 ≤ R.slots) 
    (kk : gGoal p l e R s m args below meth c Q z k L xs n0 ad0 c0 s0 pc' lv' st' S') : gGoal p l e R s m args below meth c Q z k L xs n0 ad0 c0 s0 pc lv st S := by
  obtain ⟨hx, hb, hml, hown, hts⟩ := C
  obtain ⟨hd, rfl, hi⟩ := chk3 (A := decode (gccO k) pc = .ok (.laload, glen (.laload))) (n := nx) (m := pc + glen (.laload)) (B := Nat.blt (gpx (.laload)) 2000 && gchI k pc (.laload) a b t v w) (gchE_at hm)
  obtain ⟨hx0, hi⟩ := and2 hi
  have hx0 : gpx (.laload) < 2000 := blt_of hx0
  intro ad H locs ls hag hP hD hS hq hl
  have hs1 : (match (generalizing := false) st with
    | .inl i :: .inr (.inr o) :: r => (gJld S.2 o i).map fun z => ((pc + glen (.laload)), lv, .inr (.inl z) :: r, S)
    | _ => none) = some (pc', lv', st', S') := hs
  split at hs1
  · rename_i i o r
    obtain ⟨z9, h9, e9⟩ := mp2 hs1
    cases e9
    obtain ⟨ys, h1, h2⟩ := Option.bind_eq_some_iff.mp (show (gJs S.2 o).bind _ = _ from h9)
    obtain ⟨j9, h3, h4⟩ := Option.bind_eq_some_iff.mp h2
    cases h4
    obtain ⟨k1, rfl, k3⟩ := aidx_inv h3
    obtain ⟨i9, rfl, hD9⟩ := gJs_inv h1
    exact va_lald hx hb K.1.1.1 hP (122 + i9) 3 (gW_lng hD9) rfl (inb_in k1) hd (kk ad H locs ls hag hP hD hS hq hl)
  · cases hs1
theorem va_lt {H : Heap} {a : Nat} {c : Cell} (h : H[a]? = some c) : a < H.size := (Array.getElem?_eq_some_iff.mp h).1
theorem gkQ_val {cell : Cell} {j key : Nat} {rs : List gRF} (hj : gkQ j = some (key, rs)) (h : ∀ i : Nat, i < rs.length → cell.slots[i]? = some (va_rf ((rs.getD i none).map (gadr z (fun _ => 0))))) {i : Nat} (hi : i < rs.length) (ad : Nat → Nat) : cell.slots[i]? = some (va_rf ((rs.getD i none).map (gadr z ad))) := by
  rw [h i hi]
  unfold gkQ at hj
  obtain ⟨-, hj⟩ := bic hj
  cases hj
  have hi : i < 2 := hi
  have : i = 0 ∨ i = 1 := by omega
  rcases this with rfl | rfl <;> rfl
theorem gs_aaload  (C : GX k p s m args c) (K : GK z L xs s) (hf : GF z) (hR : 10 ≤ R.frames ∧ 200 ≤ R.locals) (hm : (gmiOf k).1 pc = some (.aaload, nx, a, b, t, v, w)) (hs : gstep (.aaload, nx, a, b, t, v, w) lv st S = some (pc', lv', st', S')) (hi9 : gInv S.2 lv st) (hn : n0 ≤ S.2.1.length) (hcs : c0 ≤ S.2.2.1 ∧ s0 ≤ S.2.2.2) (hrm : S'.2.2.1 - c0 ≤ R.cells ∧ S'.2.2.2 - s0 ≤ R.slots) 
    (kk : gGoal p l e R s m args below meth c Q z k L xs n0 ad0 c0 s0 pc' lv' st' S') : gGoal p l e R s m args below meth c Q z k L xs n0 ad0 c0 s0 pc lv st S := by
  obtain ⟨hx, hb, hml, hown, hts⟩ := C
  obtain ⟨hd, rfl, hi⟩ := chk3 (A := decode (gccO k) pc = .ok (.aaload, glen (.aaload))) (n := nx) (m := pc + glen (.aaload)) (B := Nat.blt (gpx (.aaload)) 2000 && gchI k pc (.aaload) a b t v w) (gchE_at hm)
  obtain ⟨hx0, hi⟩ := and2 hi
  have hx0 : gpx (.aaload) < 2000 := blt_of hx0
  intro ad H locs ls hag hP hD hS hq hl
  have hs1 : (match (generalizing := false) st with
    | .inl i :: .inr (.inr o) :: r => (gQld S.2 o i).map fun z => ((pc + glen (.aaload)), lv, .inr (.inr z) :: r, S)
    | _ => none) = some (pc', lv', st', S') := hs
  split at hs1
  · rename_i i o r
    obtain ⟨z9, h9, e9⟩ := mp2 hs1
    cases e9
    obtain ⟨⟨key, rs⟩, h1, h2⟩ := Option.bind_eq_some_iff.mp (show (gQs S.2 o).bind _ = _ from h9)
    obtain ⟨j9, h3, h4⟩ := Option.bind_eq_some_iff.mp h2
    cases h4
    obtain ⟨k1, rfl, k3⟩ := aidx_inv h3
    rcases gQs_inv h1 with ⟨i9, rfl, hD9⟩ | ⟨j, rfl, hj⟩
    · rcases gvt_q (vthing hi9.1 hD9) with rfl | rfl
      · exact W.aald (v := va_rf ((rs.getD i.toNatClampNeg none).map (gadr z ad))) (ty := .array .int) hx hb (hP (122 + i9) _ (gW_ref hD9)) ((K.1.1.1.2 6 _ rfl).1 rs.length (fun j => va_rf ((rs.getD j none).map (gadr z ad)))) rfl (fun q9 => by cases q9) (by show ¬ (i < 0 ∨ (arrV _ _ _).slots.size ≤ _); rw [arrV_size]; exact inb_in k1) (by show (arrV _ _ _).slots[_]? = _; rw [arrV_read _ _ k3]) rfl rfl hd (kk ad H locs ls hag hP hD hS hq hl)
      · exact va_aldq hx hb K.1.1.1 hP (122 + i9) 7 (gW_ref hD9) rfl (inb_in k1) hd (kk ad H locs ls hag hP hD hS hq hl)
    · obtain ⟨cell, c1, c2, c3, c4, c5, c6, c7⟩ := K.2.1.2.2.1 j key rs hj
      have hlt9 : i.toNatClampNeg < cell.slots.size := Nat.lt_of_lt_of_le k3 c4
      have hsl : cell.slots.size = rs.length ∨ True := Or.inr trivial
      exact W.aald (v := va_rf ((rs.getD i.toNatClampNeg none).map (gadr z ad))) (ty := .object "java/lang/String") hx hb (by show H[gkA z j]? = _; rw [hS.2.1 _ (va_lt c1) c7]; exact c1) c2 rfl c3 (fun q9 => inb_in k1 (q9.imp id (fun q8 => Nat.le_trans c4 q8))) (gkQ_val hj c6 k3 ad) rfl rfl hd (kk ad H locs ls hag hP hD hS hq hl)
  · cases hs1
theorem gIst_inv {D D' : gDS} {r : gRF} {k : Nat} {i x : Int32} (h : gIst D r k i x = some D') : ∃ a ys, r = some (.inl a) ∧ D.1[a]? = some (.inr (.inl (k, ys))) ∧ inb i ys.length = true ∧ i.toNatClampNeg < ys.length ∧ D' = gSet D a (.inr (.inl (k, ys.set i.toNatClampNeg x))) := by
  unfold gIst at h
  split at h
  · split at h
    · rename_i a k' ys heq
      obtain ⟨hc, hh⟩ := bic h
      clear h
      obtain rfl : k' = k := Nat.eq_of_beq_eq_true hc
      obtain ⟨j9, h3, h4⟩ := Option.bind_eq_some_iff.mp hh
      cases h4
      obtain ⟨k1, rfl, k3⟩ := aidx_inv h3
      exact ⟨_, _, rfl, heq, k1, k3, rfl⟩
    · cases h
  · cases h
theorem gJst_inv {D D' : gDS} {r : gRF} {i : Int32} {x : Int64} (h : gJst D r i x = some D') : ∃ a ys, r = some (.inl a) ∧ D.1[a]? = some (.inr (.inr (.inl ys))) ∧ inb i ys.length = true ∧ i.toNatClampNeg < ys.length ∧ D' = gSet D a (.inr (.inr (.inl (ys.set i.toNatClampNeg x)))) := by
  unfold gJst at h
  split at h
  · split at h
    · rename_i a ys heq
      obtain ⟨j9, h3, h4⟩ := Option.bind_eq_some_iff.mp h
      cases h4
      obtain ⟨k1, rfl, k3⟩ := aidx_inv h3
      exact ⟨_, _, rfl, heq, k1, k3, rfl⟩
    · cases h
  · cases h
theorem gQst_inv {D D' : gDS} {r : gRF} {i : Int32} {x : gRF} (h : gQst D r i x = some D') : ∃ a key ys, r = some (.inl a) ∧ D.1[a]? = some (.inr (.inr (.inr (key, ys)))) ∧ gFit D key x = true ∧ inb i ys.length = true ∧ i.toNatClampNeg < ys.length ∧ D' = gSet D a (.inr (.inr (.inr (key, ys.set i.toNatClampNeg x)))) := by
  unfold gQst at h
  split at h
  · split at h
    · rename_i a key ys heq
      obtain ⟨hc, h⟩ := bic h
      obtain ⟨j9, h3, h4⟩ := Option.bind_eq_some_iff.mp h
      cases h4
      obtain ⟨k1, rfl, k3⟩ := aidx_inv h3
      exact ⟨_, _, _, rfl, heq, hc, k1, k3, rfl⟩
    · cases h
  · cases h
theorem gW_setI {h : PH} {ad : Nat → Nat} {D : gDS} {a kk j : Nat} {ys : List Int32} {x : Int32} (hj : j < ys.length) : (gW z h ad D.1).set (122 + a) (ad a, .inl (z.2.1 kk, ys.length, .inl (upd (fun i => ys.getD i 0) j x))) = gW z h ad (D.1.set a (.inr (.inl (kk, ys.set j x)))) := by
  rw [← gW_set, ← upd_getD hj]
  congr 2
  show (Sum.inl (z.2.1 kk, ys.length, _) : va_E) = .inl (z.2.1 kk, (ys.set j x).length, _)
  rw [List.length_set]
theorem gW_setJ {h : PH} {ad : Nat → Nat} {D : gDS} {a j : Nat} {ys : List Int64} {x : Int64} (hj : j < ys.length) : (gW z h ad D.1).set (122 + a) (ad a, .inl (z.2.1 4, ys.length, .inr (.inl (vp_updL (fun i => ys.getD i 0) j x)))) = gW z h ad (D.1.set a (.inr (.inr (.inl (ys.set j x))))) := by
  rw [← gW_set, ← updL_getD hj]
  congr 2
  show (Sum.inl (z.2.1 4, ys.length, _) : va_E) = .inl (z.2.1 4, (ys.set j x).length, _)
  rw [List.length_set]
theorem gW_setQ {h : PH} {ad : Nat → Nat} {D : gDS} {a key j : Nat} {ys : List gRF} {x : gRF} (hj : j < ys.length) : (gW z h ad D.1).set (122 + a) (ad a, .inl (z.2.1 key, ys.length, .inr (.inr (.inr (.inr (va_up (fun i => (ys.getD i none).map (gadr z ad)) j (x.map (gadr z ad)))))))) = gW z h ad (D.1.set a (.inr (.inr (.inr (key, ys.set j x))))) := by
  rw [← gW_set, ← updQ_getD hj]
  congr 2
  show (Sum.inl (z.2.1 key, ys.length, _) : va_E) = .inl (z.2.1 key, (ys.set j x).length, _)
  rw [List.length_set]
theorem gs_iastore  (C : GX k p s m args c) (K : GK z L xs s) (hf : GF z) (hR : 10 ≤ R.frames ∧ 200 ≤ R.locals) (hm : (gmiOf k).1 pc = some (.iastore, nx, a, b, t, v, w)) (hs : gstep (.iastore, nx, a, b, t, v, w) lv st S = some (pc', lv', st', S')) (hi9 : gInv S.2 lv st) (hn : n0 ≤ S.2.1.length) (hcs : c0 ≤ S.2.2.1 ∧ s0 ≤ S.2.2.2) (hrm : S'.2.2.1 - c0 ≤ R.cells ∧ S'.2.2.2 - s0 ≤ R.slots) 
    (kk : gGoal p l e R s m args below meth c Q z k L xs n0 ad0 c0 s0 pc' lv' st' S') : gGoal p l e R s m args below meth c Q z k L xs n0 ad0 c0 s0 pc lv st S := by
  obtain ⟨hx, hb, hml, hown, hts⟩ := C
  obtain ⟨hd, rfl, hi⟩ := chk3 (A := decode (gccO k) pc = .ok (.iastore, glen (.iastore))) (n := nx) (m := pc + glen (.iastore)) (B := Nat.blt (gpx (.iastore)) 2000 && gchI k pc (.iastore) a b t v w) (gchE_at hm)
  obtain ⟨hx0, hi⟩ := and2 hi
  have hx0 : gpx (.iastore) < 2000 := blt_of hx0
  intro ad H locs ls hag hP hD hS hq hl
  have hs1 : (match (generalizing := false) st with
    | .inl x :: .inl i :: .inr (.inr o) :: r => (gIst S.2 o 1 i x).map fun D => ((pc + glen (.iastore)), lv, r, (S.1, D))
    | _ => none) = some (pc', lv', st', S') := hs
  split at hs1
  · rename_i x i o r
    obtain ⟨z9, h9, e9⟩ := mp2 hs1
    cases e9
    obtain ⟨a9, ys, rfl, hD9, h4, h5, rfl⟩ := gIst_inv h9
    exact va_iast hx hb K.1.1.1 hP hD hS (122 + a9) 0 (gW_int hD9) rfl (inb_in h4) hd (fun H1 locs1 hP1 hD1 hS1 => kk ad H1 locs1 ls hag (by rw [gW_setI h5] at hP1; exact hP1) (by rw [gW_setI h5] at hD1; exact hD1) hS1 hq hl)
  · cases hs1
theorem gs_bastore  (C : GX k p s m args c) (K : GK z L xs s) (hf : GF z) (hR : 10 ≤ R.frames ∧ 200 ≤ R.locals) (hm : (gmiOf k).1 pc = some (.bastore, nx, a, b, t, v, w)) (hs : gstep (.bastore, nx, a, b, t, v, w) lv st S = some (pc', lv', st', S')) (hi9 : gInv S.2 lv st) (hn : n0 ≤ S.2.1.length) (hcs : c0 ≤ S.2.2.1 ∧ s0 ≤ S.2.2.2) (hrm : S'.2.2.1 - c0 ≤ R.cells ∧ S'.2.2.2 - s0 ≤ R.slots) 
    (kk : gGoal p l e R s m args below meth c Q z k L xs n0 ad0 c0 s0 pc' lv' st' S') : gGoal p l e R s m args below meth c Q z k L xs n0 ad0 c0 s0 pc lv st S := by
  obtain ⟨hx, hb, hml, hown, hts⟩ := C
  obtain ⟨hd, rfl, hi⟩ := chk3 (A := decode (gccO k) pc = .ok (.bastore, glen (.bastore))) (n := nx) (m := pc + glen (.bastore)) (B := Nat.blt (gpx (.bastore)) 2000 && gchI k pc (.bastore) a b t v w) (gchE_at hm)
  obtain ⟨hx0, hi⟩ := and2 hi
  have hx0 : gpx (.bastore) < 2000 := blt_of hx0
  intro ad H locs ls hag hP hD hS hq hl
  have hs1 : (match (generalizing := false) st with
    | .inl x :: .inl i :: .inr (.inr o) :: r => (gIst S.2 o 2 i (vp_nar .byte x)).map fun D => ((pc + glen (.bastore)), lv, r, (S.1, D))
    | _ => none) = some (pc', lv', st', S') := hs
  split at hs1
  · rename_i x i o r
    obtain ⟨z9, h9, e9⟩ := mp2 hs1
    cases e9
    obtain ⟨a9, ys, rfl, hD9, h4, h5, rfl⟩ := gIst_inv h9
    exact va_bast hx hb K.1.1.1 hP hD hS (122 + a9) 1 (gW_int hD9) rfl (inb_in h4) hd (fun H1 locs1 hP1 hD1 hS1 => kk ad H1 locs1 ls hag (by rw [gW_setI h5] at hP1; exact hP1) (by rw [gW_setI h5] at hD1; exact hD1) hS1 hq hl)
  · cases hs1
theorem gs_lastore  (C : GX k p s m args c) (K : GK z L xs s) (hf : GF z) (hR : 10 ≤ R.frames ∧ 200 ≤ R.locals) (hm : (gmiOf k).1 pc = some (.lastore, nx, a, b, t, v, w)) (hs : gstep (.lastore, nx, a, b, t, v, w) lv st S = some (pc', lv', st', S')) (hi9 : gInv S.2 lv st) (hn : n0 ≤ S.2.1.length) (hcs : c0 ≤ S.2.2.1 ∧ s0 ≤ S.2.2.2) (hrm : S'.2.2.1 - c0 ≤ R.cells ∧ S'.2.2.2 - s0 ≤ R.slots) 
    (kk : gGoal p l e R s m args below meth c Q z k L xs n0 ad0 c0 s0 pc' lv' st' S') : gGoal p l e R s m args below meth c Q z k L xs n0 ad0 c0 s0 pc lv st S := by
  obtain ⟨hx, hb, hml, hown, hts⟩ := C
  obtain ⟨hd, rfl, hi⟩ := chk3 (A := decode (gccO k) pc = .ok (.lastore, glen (.lastore))) (n := nx) (m := pc + glen (.lastore)) (B := Nat.blt (gpx (.lastore)) 2000 && gchI k pc (.lastore) a b t v w) (gchE_at hm)
  obtain ⟨hx0, hi⟩ := and2 hi
  have hx0 : gpx (.lastore) < 2000 := blt_of hx0
  intro ad H locs ls hag hP hD hS hq hl
  have hs1 : (match (generalizing := false) st with
    | .inr (.inl x) :: .inl i :: .inr (.inr o) :: r => (gJst S.2 o i x).map fun D => ((pc + glen (.lastore)), lv, r, (S.1, D))
    | _ => none) = some (pc', lv', st', S') := hs
  split at hs1
  · rename_i x i o r
    obtain ⟨z9, h9, e9⟩ := mp2 hs1
    cases e9
    obtain ⟨a9, ys, rfl, hD9, h4, h5, rfl⟩ := gJst_inv h9
    exact va_last hx hb K.1.1.1 hP hD hS (122 + a9) 3 (gW_lng hD9) rfl (inb_in h4) hd (fun H1 locs1 hP1 hD1 hS1 => kk ad H1 locs1 ls hag (by rw [gW_setJ h5] at hP1; exact hP1) (by rw [gW_setJ h5] at hD1; exact hD1) hS1 hq hl)
  · cases hs1
theorem gQP {h : PH} {ad : Nat → Nat} {D : gDS} {a key j : Nat} {ys : List gRF} {x : gRF} {H1 : Heap} (hj : j < ys.length) (hP : va_P z.1 vwCl ((gW z h ad D.1).set (122 + a) (ad a, .inl (z.2.1 key, ys.length, .inr (.inr (.inr (.inr (va_up (fun i => (ys.getD i none).map (gadr z ad)) j (x.map (gadr z ad))))))))) H1) : va_P z.1 vwCl (gW z h ad (D.1.set a (.inr (.inr (.inr (key, ys.set j x)))))) H1 := by
  rw [gW_setQ hj] at hP
  exact hP
theorem gQD {h : PH} {ad : Nat → Nat} {D : gDS} {a key j : Nat} {ys : List gRF} {x : gRF} {A : Nat → Prop} (hj : j < ys.length) (hP : va_D A ((gW z h ad D.1).set (122 + a) (ad a, .inl (z.2.1 key, ys.length, .inr (.inr (.inr (.inr (va_up (fun i => (ys.getD i none).map (gadr z ad)) j (x.map (gadr z ad)))))))))) : va_D A (gW z h ad (D.1.set a (.inr (.inr (.inr (key, ys.set j x)))))) := by
  rw [gW_setQ hj] at hP
  exact hP
theorem gFit_inv {D : gDS} {key : Nat} {v : gRF} (h : gFit D key v = true) : (v = none ∧ key = 41) ∨ (∃ i vs, v = some (.inl i) ∧ key = 41 ∧ D.1[i]? = some (.inl (8, vs))) ∨ (∃ i ys, v = some (.inl i) ∧ key = 6 ∧ D.1[i]? = some (.inr (.inl (1, ys)))) := by
  unfold gFit at h
  split at h
  · exact Or.inl ⟨rfl, Nat.eq_of_beq_eq_true h⟩
  · split at h
    · rename_i i c vs heq
      obtain ⟨h1, h2⟩ := and2 h
      obtain rfl : c = 8 := Nat.eq_of_beq_eq_true h2
      exact Or.inr (Or.inl ⟨_, _, rfl, Nat.eq_of_beq_eq_true h1, heq⟩)
    · rename_i i c ys heq
      obtain ⟨h1, h2⟩ := and2 h
      obtain rfl : c = 1 := Nat.eq_of_beq_eq_true h2
      exact Or.inr (Or.inr ⟨_, _, rfl, Nat.eq_of_beq_eq_true h1, heq⟩)
    · cases h
  · cases h
theorem garr_set {cA : ClassId} {N j : Nat} {f : Nat → Option Nat} {v : Option Nat} : (arrV cA N fun i => va_rf (f i)).setSlot j (va_rf v) = arrV cA N fun i => va_rf (va_up f j v i) := by
  unfold Cell.setSlot arrV
  congr 1
  apply Array.ext
  · simp
  · intro i h1 h2
    rw [Array.getElem_setIfInBounds (by simpa using h1), Array.getElem_ofFn, Array.getElem_ofFn]
    by_cases q : j = i
    · subst q
      rw [if_pos rfl]
      show va_rf v = va_rf (va_up f j v j)
      rw [va_up_self]
    · rw [if_neg q]
      show va_rf (f i) = va_rf (va_up f j v i)
      rw [va_up_ne _ _ (fun e => q e.symm)]
/-- a row of ints into an array of rows -/
theorem va_astI {D : va_G} {cl : List vw_C} {tys : List (ClassId × FieldType)} {ws : va_W} {H H0 : Heap} {locs : List Loc} {ls : Array Slot} {rest : List Value} {A : Nat → Prop} {cc : ByteArray} {cells slots : Nat} (hexec : p.tables.exec = Jvm.exec) (hb : c.code = cc) (hK : va_K D cl tys s) (hP : va_P D cl ws H) (hD : va_D A ws) (hS : va_S A H0 H locs) (q0 t0 t1 qk : Nat) {a9 : Nat} {cA cB : ClassId} {n v n1 : Nat} {f : Nat → Option Nat} {g : Nat → Int32} (ha : ws[q0]? = some (a9, .inl (cA, n, .inr (.inr (.inr (.inr f)))))) (ht : tys[t0]? = some (cA, .array .int)) (ht1 : tys[t1]? = some (cB, .int)) (hv : ws[qk]? = some (v, .inl (cB, n1, .inl g))) {i : Int32} (hin : vp_in i n) (hdg : decode cc pc = .ok (.aastore, 1))
    (hcomp : ∃ kA : Class, s.vm.classes[cA]? = some kA ∧ kA.kind = .array cB (.array .int)) (hB : ∃ kB : Class, s.vm.classes[cB]? = some kB)
    (kk : ∀ (H1 : Heap) (locs1 : List Loc), va_P D cl (ws.set q0 (a9, .inl (cA, n, .inr (.inr (.inr (.inr (va_up f i.toNatClampNeg (some v)))))))) H1 → va_D A (ws.set q0 (a9, .inl (cA, n, .inr (.inr (.inr (.inr (va_up f i.toNatClampNeg (some v)))))))) → va_S A H0 H1 locs1 → W p l e R s m args below meth c H1 locs1 cells slots Q (F0 m (pc + 1) ls rest)) : W p l e R s m args below meth c H locs cells slots Q (F0 m pc ls (.ref v :: .int i :: .ref a9 :: rest)) := by
  obtain ⟨kA, hkA, hkd⟩ := hcomp
  obtain ⟨kB, hkB⟩ := hB
  have h1 : H[a9]? = some (arrV cA n fun j => va_rf (f j)) := hP q0 _ ha
  have h2 : H[v]? = some (arrV cB n1 fun j => .int (g j)) := hP qk _ hv
  have hlt : ¬ i < 0 ∧ i.toNatClampNeg < n := ⟨fun q => hin (Or.inl q), Nat.not_le.mp fun q => hin (Or.inr q)⟩
  refine W.aast (t := .array .int) hexec hb h1 (fun q e9 => by cases e9) (fun e9 => by cases e9) hkA hkd rfl hkB ⟨hlt.1, by rw [arrV_size]; exact hlt.2⟩ h2 (fun q e9 => by cases e9) hkB (va_asg _ _) rfl rfl hdg ?_
  intro H' g1 g2 g3
  have hA9 : A a9 := hD.2 q0 _ ha
  refine kk H' _ ?_ ?_ ⟨by rw [g2]; exact hS.1, fun q hq hnA => ?_, fun l hl => ?_⟩
  · intro k q hk
    rw [List.getElem?_set] at hk
    by_cases e9 : q0 = k
    · subst e9
      rw [if_pos rfl] at hk
      split at hk
      · cases hk
        show H'[a9]? = some (arrV cA n fun j => va_rf (va_up f i.toNatClampNeg (some v) j))
        rw [g1]
        exact congrArg some (garr_set (v := some v))
      · cases hk
    · rw [if_neg e9] at hk
      have hne : q.1 ≠ a9 := fun e8 => e9 (hD.1 q0 k _ _ ha hk e8.symm)
      have h5 := hP k q hk
      unfold va_at at h5 ⊢
      split at h5
      · rw [g3 _ hne]; exact h5
      · obtain ⟨r, r1, cell, r2, r3⟩ := h5
        exact ⟨r, r1, cell, by rw [g3 _ hne]; exact r2, r3⟩
  · exact va_D.set hD ha
  · have : q ≠ a9 := fun e9 => hnA (by rw [e9]; exact hA9)
    rw [g3 q this]
    exact hS.2.1 q hq hnA
  · rcases List.mem_append.mp hl with hl | hl
    · exact hS.2.2 l hl
    · rw [List.mem_singleton] at hl
      rw [hl]
      exact hA9
/-- the class of rows, and of arrays of rows -/
theorem gcls_I (K : GK z L xs s) : (∃ kA : Class, s.vm.classes[z.2.1 6]? = some kA ∧ kA.kind = .array (z.2.1 1) (.array .int)) ∧ ∃ kB : Class, s.vm.classes[z.2.1 1]? = some kB := by
  obtain ⟨comp, c9, k9, h1, h2, h3, h4, h5⟩ := K.2.2.2.2
  have e1 : s.vm.findClass ("[" ++ FieldType.int.toString) = some (z.2.1 1) := (K.1.1.1.2 0 _ rfl).2
  have e2 : s.vm.findClass ("[" ++ (FieldType.array .int).toString) = some (z.2.1 6) := (K.1.1.1.2 6 _ rfl).2
  obtain rfl : comp = z.2.1 1 := Option.some.inj (h1.symm.trans e1)
  obtain rfl : c9 = z.2.1 6 := Option.some.inj (h5.symm.trans e2)
  refine ⟨⟨k9, h3, h4⟩, ?_⟩
  exact Vm.classAt_of_findClass h1
theorem gs_aastore  (C : GX k p s m args c) (K : GK z L xs s) (hf : GF z) (hR : 10 ≤ R.frames ∧ 200 ≤ R.locals) (hm : (gmiOf k).1 pc = some (.aastore, nx, a, b, t, v, w)) (hs : gstep (.aastore, nx, a, b, t, v, w) lv st S = some (pc', lv', st', S')) (hi9 : gInv S.2 lv st) (hn : n0 ≤ S.2.1.length) (hcs : c0 ≤ S.2.2.1 ∧ s0 ≤ S.2.2.2) (hrm : S'.2.2.1 - c0 ≤ R.cells ∧ S'.2.2.2 - s0 ≤ R.slots) 
    (kk : gGoal p l e R s m args below meth c Q z k L xs n0 ad0 c0 s0 pc' lv' st' S') : gGoal p l e R s m args below meth c Q z k L xs n0 ad0 c0 s0 pc lv st S := by
  obtain ⟨hx, hb, hml, hown, hts⟩ := C
  obtain ⟨hd, rfl, hi⟩ := chk3 (A := decode (gccO k) pc = .ok (.aastore, glen (.aastore))) (n := nx) (m := pc + glen (.aastore)) (B := Nat.blt (gpx (.aastore)) 2000 && gchI k pc (.aastore) a b t v w) (gchE_at hm)
  obtain ⟨hx0, hi⟩ := and2 hi
  have hx0 : gpx (.aastore) < 2000 := blt_of hx0
  intro ad H locs ls hag hP hD hS hq hl
  have hs1 : (match (generalizing := false) st with
    | .inr (.inr x) :: .inl i :: .inr (.inr o) :: r => (gQst S.2 o i x).map fun D => ((pc + glen (.aastore)), lv, r, (S.1, D))
    | _ => none) = some (pc', lv', st', S') := hs
  split at hs1
  · rename_i x i o r
    obtain ⟨z9, h9, e9⟩ := mp2 hs1
    cases e9
    obtain ⟨a9, key, ys, rfl, hD9, hft, h4, h5, rfl⟩ := gQst_inv h9
    rcases gFit_inv hft with ⟨rfl, rfl⟩ | ⟨i9, vs, rfl, rfl, hv9⟩ | ⟨i9, us, rfl, rfl, hv9⟩
    · exact va_astqN hx hb K.1.1.1 hP hD hS (122 + a9) 7 (gW_ref hD9) rfl (inb_in h4) hd (fun H1 locs1 hP1 hD1 hS1 => kk ad H1 locs1 ls hag (gQP h5 hP1) (gQD h5 hD1) hS1 hq hl)
    · exact va_astq (r := (fC 8, fT 8, fN 8)) hx hb K.1.1.1 hP hD hS (122 + a9) 7 (122 + i9) 8 (gW_ref hD9) rfl (gW_get hv9) (gclA (by omega)) (inb_in h4) hd (fun H1 locs1 hP1 hD1 hS1 => kk ad H1 locs1 ls hag (gQP h5 hP1) (gQD h5 hD1) hS1 hq hl)
    · obtain ⟨c1, c2⟩ := gcls_I K
      exact va_astI hx hb K.1.1.1 hP hD hS (122 + a9) 6 0 (122 + i9) (gW_ref hD9) rfl rfl (gW_int hv9) (inb_in h4) hd c1 c2 (fun H1 locs1 hP1 hD1 hS1 => kk ad H1 locs1 ls hag (gQP h5 hP1) (gQD h5 hD1) hS1 hq hl)
  · cases hs1
theorem gs_arraylength  (C : GX k p s m args c) (K : GK z L xs s) (hf : GF z) (hR : 10 ≤ R.frames ∧ 200 ≤ R.locals) (hm : (gmiOf k).1 pc = some (.arraylength, nx, a, b, t, v, w)) (hs : gstep (.arraylength, nx, a, b, t, v, w) lv st S = some (pc', lv', st', S')) (hi9 : gInv S.2 lv st) (hn : n0 ≤ S.2.1.length) (hcs : c0 ≤ S.2.2.1 ∧ s0 ≤ S.2.2.2) (hrm : S'.2.2.1 - c0 ≤ R.cells ∧ S'.2.2.2 - s0 ≤ R.slots) 
    (kk : gGoal p l e R s m args below meth c Q z k L xs n0 ad0 c0 s0 pc' lv' st' S') : gGoal p l e R s m args below meth c Q z k L xs n0 ad0 c0 s0 pc lv st S := by
  obtain ⟨hx, hb, hml, hown, hts⟩ := C
  obtain ⟨hd, rfl, hi⟩ := chk3 (A := decode (gccO k) pc = .ok (.arraylength, glen (.arraylength))) (n := nx) (m := pc + glen (.arraylength)) (B := Nat.blt (gpx (.arraylength)) 2000 && gchI k pc (.arraylength) a b t v w) (gchE_at hm)
  obtain ⟨hx0, hi⟩ := and2 hi
  have hx0 : gpx (.arraylength) < 2000 := blt_of hx0
  intro ad H locs ls hag hP hD hS hq hl
  have hs1 : (match (generalizing := false) st with
    | .inr (.inr o) :: r => (gLen S.2 o).map fun z => ((pc + glen (.arraylength)), lv, .inl z :: r, S)
    | _ => none) = some (pc', lv', st', S') := hs
  split at hs1
  · rename_i o r
    obtain ⟨z9, h9, e9⟩ := mp2 hs1
    cases e9
    unfold gLen at h9
    split at h9
    · split at h9
      · rename_i i9 k9 ys hD9
        cases h9
        rcases gvt_i (vthing hi9.1 hD9) with rfl | ⟨rfl, -⟩
        · exact va_alen hx hb K.1.1.1 hP (122 + _) 0 (gW_int hD9) rfl rfl hd (kk ad H locs ls hag hP hD hS hq hl)
        · exact va_alen hx hb K.1.1.1 hP (122 + _) 1 (gW_int hD9) rfl rfl hd (kk ad H locs ls hag hP hD hS hq hl)
      · rename_i i9 ys hD9
        cases h9
        exact va_alen hx hb K.1.1.1 hP (122 + _) 3 (gW_lng hD9) rfl rfl hd (kk ad H locs ls hag hP hD hS hq hl)
      · rename_i i9 k9 ys hD9
        cases h9
        rcases gvt_q (vthing hi9.1 hD9) with rfl | rfl
        · exact va_alen hx hb K.1.1.1 hP (122 + _) 6 (gW_ref hD9) rfl rfl hd (kk ad H locs ls hag hP hD hS hq hl)
        · exact va_alen hx hb K.1.1.1 hP (122 + _) 7 (gW_ref hD9) rfl rfl hd (kk ad H locs ls hag hP hD hS hq hl)
      · cases h9
    · split at h9
      · rename_i q9 ys hq9
        cases h9
        exact va_tlen hx hb (K.2.1.2.1 _ _ hq9) hS rfl hd (kk ad H locs ls hag hP hD hS hq hl)
      · cases h9
    · cases h9
  · cases hs1
end GST1
