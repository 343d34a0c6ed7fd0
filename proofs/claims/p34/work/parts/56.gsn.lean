/-! MAKING, the JDK's small methods, and every plain step together: written by wip/p34/genst3.py -/
theorem gDef_len {ci : Nat} (h0 : 8 ≤ ci) (h : ci < 13) : (gDef ci).length = fN ci := by
  have : ci = 8 ∨ ci = 9 ∨ ci = 10 ∨ ci = 11 ∨ ci = 12 := by omega
  rcases this with rfl | rfl | rfl | rfl | rfl <;> rfl
theorem gDef_img {ci : Nat} (f g : Nat ⊕ Nat → Nat) : (gDef ci).map (gimg f) = (gDef ci).map (gimg g) := by
  unfold gDef
  split <;> rfl
theorem gDef_val {ci : Nat} (h0 : 8 ≤ ci) (h : ci < 13) (f : Nat ⊕ Nat → Nat) : ∀ j, j < fN ci → defaultValue (gfY ci j) = vp_V ((gDef ci).map (gimg f)) j := by
  have h9 : ∀ j, j < fN ci → defaultValue (gfY ci j) = vp_V ((gDef ci).map (gimg fun _ => 0)) j := by
    have key : ∀ ci, ci < 13 → 8 ≤ ci → ∀ j, j < fN ci → defaultValue (gfY ci j) = vp_V ((gDef ci).map (gimg fun _ => 0)) j := by decide +kernel
    exact key ci h h0
  rw [gDef_img f fun _ => 0]
  exact h9
theorem gEnc_int {z : PP} {ad : Nat → Nat} {k m : Nat} : gEnc z ad (.inr (.inl (k, List.replicate m 0))) = .inl (z.2.1 k, m, .inl fun _ => 0) := by
  have h1 : (fun j => (List.replicate m (0 : Int32)).getD j 0) = fun _ => 0 := by
    funext j
    rw [List.getD_eq_getElem?_getD, List.getElem?_replicate]
    by_cases q : j < m
    · rw [if_pos q]; rfl
    · rw [if_neg q]; rfl
  show (Sum.inl (z.2.1 k, (List.replicate m (0 : Int32)).length, .inl fun j => (List.replicate m (0 : Int32)).getD j 0) : va_E) = _
  rw [h1, List.length_replicate]
theorem gEnc_lng {z : PP} {ad : Nat → Nat} {m : Nat} : gEnc z ad (.inr (.inr (.inl (List.replicate m 0)))) = .inl (z.2.1 4, m, .inr (.inl fun _ => 0)) := by
  have h1 : (fun j => (List.replicate m (0 : Int64)).getD j 0) = fun _ => 0 := by
    funext j
    rw [List.getD_eq_getElem?_getD, List.getElem?_replicate]
    by_cases q : j < m
    · rw [if_pos q]; rfl
    · rw [if_neg q]; rfl
  show (Sum.inl (z.2.1 4, (List.replicate m (0 : Int64)).length, .inr (.inl fun j => (List.replicate m (0 : Int64)).getD j 0)) : va_E) = _
  rw [h1, List.length_replicate]
theorem gEnc_ref {z : PP} {ad : Nat → Nat} {key m : Nat} : gEnc z ad (.inr (.inr (.inr (key, List.replicate m none)))) = .inl (z.2.1 key, m, .inr (.inr (.inr (.inr fun _ => none)))) := by
  have h1 : (fun j => ((List.replicate m (none : gRF)).getD j none).map (gadr z ad)) = fun _ => none := by
    funext j
    rw [List.getD_eq_getElem?_getD, List.getElem?_replicate]
    by_cases q : j < m
    · rw [if_pos q]; rfl
    · rw [if_neg q]; rfl
  show (Sum.inl (z.2.1 key, (List.replicate m (none : gRF)).length, .inr (.inr (.inr (.inr fun j => ((List.replicate m (none : gRF)).getD j none).map (gadr z ad))))) : va_E) = _
  rw [h1, List.length_replicate]
theorem gCnt_inv {n : Int32} {m : Nat} (h : gCnt n = some m) : ¬ n < 0 ∧ n.toNatClampNeg = m ∧ m ≤ 100000 := by
  unfold gCnt at h
  by_cases q : 0 ≤ n ∧ n.toNatClampNeg ≤ 100000
  · rw [if_pos q] at h
    cases h
    refine ⟨fun q2 => ?_, rfl, q.2⟩
    rw [Int32.lt_iff_toInt_lt] at q2
    have := Int32.le_iff_toInt_le.mp q.1
    omega
  · rw [if_neg q] at h
    cases h
theorem gwords : ∀ w ∈ ([.instanceMethod Lib.objectInit, .code Lib.objectInit ⟨#[0xb1]⟩ 1 none, .arrayClass .int, .arrayClass .byte, .arrayClass .long, .static Lib.Math.min.name, .initialized "java/lang/Math", .code Lib.Math.min.name Lib.Math.min.code 2 (some .int), .static Lib.Math.max.name, .code Lib.Math.max.name Lib.Math.max.code 2 (some .int),
    .static Lib.MathLoose.max_long.x, .code Lib.MathLoose.max_long.x Lib.MathLoose.max_long.code 4 (some .long), .static Lib.MathLoose.min_long.x, .code Lib.MathLoose.min_long.x Lib.MathLoose.min_long.code 4 (some .long), .static arraycopyName, .initialized "java/lang/System", .native arraycopyName, .static jChk, .initialized jChk.cls, .code jChk prog_28_method_155_code 2 none,
    .native ⟨"java/lang/Object", "clone", "()Ljava/lang/Object;"⟩, .instanceMethod ⟨"java/lang/Object", "clone", "()Ljava/lang/Object;"⟩] : List Cond), w ∈ gtbl := by
  have key : ([.instanceMethod Lib.objectInit, .code Lib.objectInit ⟨#[0xb1]⟩ 1 none, .arrayClass .int, .arrayClass .byte, .arrayClass .long, .static Lib.Math.min.name, .initialized "java/lang/Math", .code Lib.Math.min.name Lib.Math.min.code 2 (some .int), .static Lib.Math.max.name, .code Lib.Math.max.name Lib.Math.max.code 2 (some .int),
    .static Lib.MathLoose.max_long.x, .code Lib.MathLoose.max_long.x Lib.MathLoose.max_long.code 4 (some .long), .static Lib.MathLoose.min_long.x, .code Lib.MathLoose.min_long.x Lib.MathLoose.min_long.code 4 (some .long), .static arraycopyName, .initialized "java/lang/System", .native arraycopyName, .static jChk, .initialized jChk.cls, .code jChk prog_28_method_155_code 2 none,
    .native ⟨"java/lang/Object", "clone", "()Ljava/lang/Object;"⟩, .instanceMethod ⟨"java/lang/Object", "clone", "()Ljava/lang/Object;"⟩] : List Cond).all (fun w => decide (w ∈ lw_tbl) && goodWord w) = true := by decide +kernel
  intro w hw
  have h1 := List.all_eq_true.mp key w hw
  rw [Bool.and_eq_true, decide_eq_true_eq] at h1
  exact gtbl_in h1.1 h1.2
theorem gwd (i : Nat) {w : Cond} (h : ([.instanceMethod Lib.objectInit, .code Lib.objectInit ⟨#[0xb1]⟩ 1 none, .arrayClass .int, .arrayClass .byte, .arrayClass .long, .static Lib.Math.min.name, .initialized "java/lang/Math", .code Lib.Math.min.name Lib.Math.min.code 2 (some .int), .static Lib.Math.max.name, .code Lib.Math.max.name Lib.Math.max.code 2 (some .int),
    .static Lib.MathLoose.max_long.x, .code Lib.MathLoose.max_long.x Lib.MathLoose.max_long.code 4 (some .long), .static Lib.MathLoose.min_long.x, .code Lib.MathLoose.min_long.x Lib.MathLoose.min_long.code 4 (some .long), .static arraycopyName, .initialized "java/lang/System", .native arraycopyName, .static jChk, .initialized jChk.cls, .code jChk prog_28_method_155_code 2 none,
    .native ⟨"java/lang/Object", "clone", "()Ljava/lang/Object;"⟩, .instanceMethod ⟨"java/lang/Object", "clone", "()Ljava/lang/Object;"⟩] : List Cond)[i]? = some w) : w ∈ gtbl := gwords w (List.mem_of_getElem? h)
def gclW (k : Nat) : List Cond := [.sameMethod (gclk k) "java/lang/Object" "clone" "()Ljava/lang/Object;", .selects (gclk k) ⟨gclk k, "clone", "()Ljava/lang/Object;"⟩ ⟨"java/lang/Object", "clone", "()Ljava/lang/Object;"⟩]
theorem gclW_in {k : Nat} (hk : k = 1 ∨ k = 2 ∨ k = 6) : (∀ w ∈ gclW k, w ∈ gtbl) ∧ Cond.castable (gclk k) "java/lang/Cloneable" ∈ lw_tbl := by
  have key : ∀ k, k < 7 → (k = 1 ∨ k = 2 ∨ k = 6) → ((gclW k).all (fun w => decide (w ∈ lw_tbl) && goodWord w) && decide (Cond.castable (gclk k) "java/lang/Cloneable" ∈ lw_tbl)) = true := by decide +kernel
  have h1 := key k (by omega) hk
  rw [Bool.and_eq_true, decide_eq_true_eq] at h1
  refine ⟨fun w hw => ?_, h1.2⟩
  have h2 := List.all_eq_true.mp h1.1 w hw
  rw [Bool.and_eq_true, decide_eq_true_eq] at h2
  exact gtbl_in h2.1 h2.2
section GST3
variable {p : Program} {l : Launch} {e : Env} {R : Room} {s : State} {m : MethodId} {args : Array Value} {below : List Frame} {meth : Method} {c : Code} {Q : State → Prop}
variable {z : PP} {k L : Nat} {xs : Nat → Int32} {n0 : Nat} {ad0 : Nat → Nat} {c0 s0 pc nx a b t : Nat} {v : Int32} {w : Int64} {lv lv' : gLV} {st st' : List gPV} {S S' : gST} {pc' : Nat}
/-- a thing more, at a new address -/
theorem gs_more {t9 : gDT} {nn f0 nL : Nat} {va : va_E} {r : List gPV} {ad : Nat → Nat} {q : Nat} {H1 : Heap} {locs : List Loc} {ls : Array Slot} (hv : gvD S.2 = true) (hlv : lv.all (gvo S.2.1.length) = true) (hst : r.all (gvv S.2.1.length) = true) (hn : n0 ≤ S.2.1.length) (hcs : c0 ≤ S.2.2.1 ∧ s0 ≤ S.2.2.2) (hnL : nL = (gmiOf k).2.2)
    (hE : gEnc z (va_up ad S.2.1.length q) t9 = va) (kk : gGoal p l e R s m args below meth c Q z k L xs n0 ad0 c0 s0 f0 lv (.inr (.inr (gTop S.2)) :: r) (S.1, gNew S.2 t9 nn)) (hag : ∀ i, i < n0 → ad i = ad0 i) (hP : va_P z.1 vwCl (gW z S.1 ad S.2.1 ++ [(q, va)]) H1) (hD : va_D (AB z) (gW z S.1 ad S.2.1 ++ [(q, va)])) (hS : va_S (AB z) s.heap H1 locs) (hq : scr L xs S.1) (hl : gLH (gadr z ad) ls nL lv) :
    W p l e R s m args below meth c H1 locs (S.2.2.1 - c0 + 1) (S.2.2.2 - s0 + nn) Q (F0 m f0 ls (.ref q :: r.map (gimg (gadr z ad)))) := by
  subst hnL
  have hg : ∀ i, i < S.2.1.length → gadr z (va_up ad S.2.1.length q) (.inl i) = gadr z ad (.inl i) := fun i hi => va_up_ne ad q (Nat.ne_of_lt hi)
  have hw : gW z S.1 (va_up ad S.2.1.length q) (S.2.1 ++ [t9]) = gW z S.1 ad S.2.1 ++ [(q, va)] := by rw [gW_push hv, hE]
  have h5 := kk (va_up ad S.2.1.length q) H1 locs ls (fun i hi => (va_up_ne ad q (Nat.ne_of_lt (Nat.lt_of_lt_of_le hi hn))).trans (hag i hi)) (by show va_P _ _ (gW z S.1 _ (S.2.1 ++ [t9])) H1; rw [hw]; exact hP) (by show va_D _ (gW z S.1 _ (S.2.1 ++ [t9])); rw [hw]; exact hD) hS hq (gLH_ag (f := gadr z ad) (n := S.2.1.length) (fun _ => rfl) hg hl hlv)
  have e9 : (Sum.inr (Sum.inr (gTop S.2)) :: r).map (gimg (gadr z (va_up ad S.2.1.length q))) = .ref q :: r.map (gimg (gadr z ad)) := by
    rw [List.map_cons, gst_ag (f := gadr z ad) (g := gadr z (va_up ad S.2.1.length q)) (n := S.2.1.length) (fun _ => rfl) hg hst]
    exact congrArg (fun y => Value.ref y :: r.map (gimg (gadr z ad))) (va_up_self ad S.2.1.length q)
  rw [e9] at h5
  rw [show S.2.2.1 - c0 + 1 = S.2.2.1 + 1 - c0 by omega, show S.2.2.2 - s0 + nn = S.2.2.2 + nn - s0 by omega]
  exact h5
theorem gs_new {x0 : Nat} (C : GX k p s m args c) (K : GK z L xs s) (hf : GF z) (hR : 10 ≤ R.frames ∧ 200 ≤ R.locals) (hm : (gmiOf k).1 pc = some ((.new x0), nx, a, b, t, v, w)) (hs : gstep ((.new x0), nx, a, b, t, v, w) lv st S = some (pc', lv', st', S')) (hi9 : gInv S.2 lv st) (hn : n0 ≤ S.2.1.length) (hcs : c0 ≤ S.2.2.1 ∧ s0 ≤ S.2.2.2) (hrm : S'.2.2.1 - c0 ≤ R.cells ∧ S'.2.2.2 - s0 ≤ R.slots) 
    (kk : gGoal p l e R s m args below meth c Q z k L xs n0 ad0 c0 s0 pc' lv' st' S') : gGoal p l e R s m args below meth c Q z k L xs n0 ad0 c0 s0 pc lv st S := by
  obtain ⟨hx, hb, hml, hown, hts⟩ := C
  obtain ⟨hd, rfl, hi⟩ := chk3 (A := decode (gccO k) pc = .ok ((.new x0), glen ((.new x0)))) (n := nx) (m := pc + glen ((.new x0))) (B := Nat.blt (gpx ((.new x0))) 2000 && gchI k pc ((.new x0)) a b t v w) (gchE_at hm)
  obtain ⟨hx0, hi⟩ := and2 hi
  have hx0 : gpx ((.new x0)) < 2000 := blt_of hx0
  intro ad H locs ls hag hP hD hS hq hl
  have hs1 : (bif Nat.ble 8 a && Nat.blt a 13 then some ((pc + glen ((.new x0))), lv, .inr (.inr (gTop S.2)) :: st, (S.1, gNwO S.2 a)) else none) = some (pc', lv', st', S') := hs
  obtain ⟨hg9, e9⟩ := bic hs1
  cases e9
  have hi1 : (atT (gpP (2000 * gclO k + x0)) (.classLink (gownN (gclO k)) x0 (fC a)) && atT (ginstP a) (.instantiable (fC a) (fN a)) && atT (ginitP a) (.initialized (fC a)) && Nat.blt a 13 && Nat.ble 8 a) = true := hi
  simp only [Bool.and_eq_true] at hi1
  obtain ⟨⟨⟨⟨j1, j2⟩, j3⟩, j4⟩, j5⟩ := hi1
  have ha13 := blt_of j4
  have ha8 := Nat.le_of_ble_eq_true j5
  have hlen := gDef_len ha8 ha13
  have hr1 : S.2.2.1 + 1 - c0 ≤ R.cells := hrm.1
  have hr2 : S.2.2.2 + (gDef a).length - s0 ≤ R.slots := hrm.2
  refine va_new hx hb hts (gusw a ha13) (gfY a) (gfY_ok ha8 ha13) hown (hts _ (gtbl_in (atT_in j1) rfl)) (hts _ (gtbl_in (atT_in j2) rfl)) (hts _ (gtbl_in (atT_in j3) rfl)) K.1.1.1 hP hD hS (fun q hq => Nat.le_trans K.2.2.1 hq) (gclA ha13) (fs := (gDef a).map (gimg fun _ => 0)) (gDef_val ha8 ha13 _) (by omega) (by rw [← hlen]; omega) hd ?_
  intro q H1 hP1 hD1 hS1
  rw [← hlen]
  exact gs_more (t9 := .inl (a, gDef a)) (va := .inr (a, (gDef a).map (gimg fun _ => 0))) hi9.1 hi9.2.1 hi9.2.2 hn hcs rfl (congrArg (fun y => (Sum.inr (a, y) : va_E)) (gDef_img _ _)) kk hag hP1 hD1 hS1 hq hl
theorem gs_newa {at9 : ArrayType} {ty : FieldType} {key t0 m9 : Nat} {n : Int32} {r : List gPV} {a0 : vp_A} {t9 : gDT} (hty : newarray.typeOf at9 = ty) (htt : (tyL z)[t0]? = some (z.2.1 key, ty)) (hra : ∀ (c : ClassId), va_RA s c ty → s.vm.findClass ("[" ++ ty.toString) = some c)
    (hE : ∀ ad, gEnc z ad t9 = .inl (z.2.1 key, a0)) (ha : ∀ cA, vp_cell cA a0 = arrV cA m9 (fun _ => defaultValue ty)) (hw : Cond.arrayClass (newarray.typeOf at9) ∈ gtbl) (hby : m9 * componentBytes ty ≤ 536870912)
    (C : GX k p s m args c) (K : GK z L xs s) (hf : GF z) (hR : 10 ≤ R.frames ∧ 200 ≤ R.locals) (hd : decode (gccO k) pc = .ok (.newarray at9, 2)) (hm9 : ¬ n < 0 ∧ n.toNatClampNeg = m9 ∧ m9 ≤ 100000) (hv : gvD S.2 = true) (hlv : lv.all (gvo S.2.1.length) = true) (hst : r.all (gvv S.2.1.length) = true) (hn : n0 ≤ S.2.1.length) (hcs : c0 ≤ S.2.2.1 ∧ s0 ≤ S.2.2.2) (hrm : S.2.2.1 + 1 - c0 ≤ R.cells ∧ S.2.2.2 + m9 - s0 ≤ R.slots)
    (kk : gGoal p l e R s m args below meth c Q z k L xs n0 ad0 c0 s0 (pc + 2) lv (.inr (.inr (gTop S.2)) :: r) (S.1, gNew S.2 t9 m9)) : gGoal p l e R s m args below meth c Q z k L xs n0 ad0 c0 s0 pc lv (.inl n :: r) S := by
  obtain ⟨hx, hb, hml, hown, hts⟩ := C
  intro ad H locs ls hag hP hD hS hq hl
  refine va_newa hx hb (hts _ hw) hty K.1.1.1 hP hD hS (fun q hq => Nat.le_trans K.2.2.1 hq) (a0 := a0) ha hm9.1 hm9.2.1 hby (by omega) (by omega) hd ?_
  intro q cA H1 hK hP1 hD1 hS1
  have e1 := hra cA (hK.2 (tyL z).length (cA, ty) (by simp)).2
  have e2 := hra (z.2.1 key) (K.1.1.1.2 t0 _ htt).2
  have e3 : cA = z.2.1 key := Option.some.inj (e1.symm.trans e2)
  subst e3
  exact gs_more hv hlv hst hn hcs rfl (hE _) kk hag hP1 hD1 hS1 hq hl
theorem gs_newarray_int  (C : GX k p s m args c) (K : GK z L xs s) (hf : GF z) (hR : 10 ≤ R.frames ∧ 200 ≤ R.locals) (hm : (gmiOf k).1 pc = some ((.newarray .int), nx, a, b, t, v, w)) (hs : gstep ((.newarray .int), nx, a, b, t, v, w) lv st S = some (pc', lv', st', S')) (hi9 : gInv S.2 lv st) (hn : n0 ≤ S.2.1.length) (hcs : c0 ≤ S.2.2.1 ∧ s0 ≤ S.2.2.2) (hrm : S'.2.2.1 - c0 ≤ R.cells ∧ S'.2.2.2 - s0 ≤ R.slots) 
    (kk : gGoal p l e R s m args below meth c Q z k L xs n0 ad0 c0 s0 pc' lv' st' S') : gGoal p l e R s m args below meth c Q z k L xs n0 ad0 c0 s0 pc lv st S := by
  obtain ⟨hx, hb, hml, hown, hts⟩ := C
  obtain ⟨hd, rfl, hi⟩ := chk3 (A := decode (gccO k) pc = .ok ((.newarray .int), glen ((.newarray .int)))) (n := nx) (m := pc + glen ((.newarray .int))) (B := Nat.blt (gpx ((.newarray .int))) 2000 && gchI k pc ((.newarray .int)) a b t v w) (gchE_at hm)
  obtain ⟨hx0, hi⟩ := and2 hi
  have hx0 : gpx ((.newarray .int)) < 2000 := blt_of hx0
  intro ad H locs ls hag hP hD hS hq hl
  have hs1 : (match (generalizing := false) st with
    | .inl n :: r => (match (generalizing := false) t with
      | 4 => (gNwJ S.2 n).map fun D => ((pc + glen ((.newarray .int))), lv, .inr (.inr (gTop S.2)) :: r, (S.1, D))
      | _ => (gNwI S.2 t n).map fun D => ((pc + glen ((.newarray .int))), lv, .inr (.inr (gTop S.2)) :: r, (S.1, D)))
    | _ => none) = some (pc', lv', st', S') := hs
  obtain rfl : t = 1 := Nat.eq_of_beq_eq_true hi
  split at hs1
  · rename_i n r
    split at hs1
    · omega
    · obtain ⟨D9, h9, e9⟩ := mp2 hs1
      cases e9
      obtain ⟨-, h6⟩ := bic (show (bif Nat.beq 1 1 || Nat.beq 1 2 then _ else none) = _ from h9)
      obtain ⟨m9, h8, h7⟩ := Option.bind_eq_some_iff.mp h6
      cases h7
      have hm9 := gCnt_inv h8
      exact gs_newa (at9 := .int) (ty := .int) (key := 1) (t0 := 0) (a0 := (m9, .inl fun _ => 0)) (m9 := m9) rfl rfl (fun c h => h) (fun _ => gEnc_int) (fun _ => rfl) (gwd 2 rfl) (by show m9 * 4 ≤ _; omega) ⟨hx, hb, hml, hown, hts⟩ K hf hR hd hm9 hi9.1 hi9.2.1 (va1 hi9.2.2).2 hn hcs hrm kk ad H locs ls hag hP hD hS hq hl
  · cases hs1
theorem gs_newarray_byte  (C : GX k p s m args c) (K : GK z L xs s) (hf : GF z) (hR : 10 ≤ R.frames ∧ 200 ≤ R.locals) (hm : (gmiOf k).1 pc = some ((.newarray .byte), nx, a, b, t, v, w)) (hs : gstep ((.newarray .byte), nx, a, b, t, v, w) lv st S = some (pc', lv', st', S')) (hi9 : gInv S.2 lv st) (hn : n0 ≤ S.2.1.length) (hcs : c0 ≤ S.2.2.1 ∧ s0 ≤ S.2.2.2) (hrm : S'.2.2.1 - c0 ≤ R.cells ∧ S'.2.2.2 - s0 ≤ R.slots) 
    (kk : gGoal p l e R s m args below meth c Q z k L xs n0 ad0 c0 s0 pc' lv' st' S') : gGoal p l e R s m args below meth c Q z k L xs n0 ad0 c0 s0 pc lv st S := by
  obtain ⟨hx, hb, hml, hown, hts⟩ := C
  obtain ⟨hd, rfl, hi⟩ := chk3 (A := decode (gccO k) pc = .ok ((.newarray .byte), glen ((.newarray .byte)))) (n := nx) (m := pc + glen ((.newarray .byte))) (B := Nat.blt (gpx ((.newarray .byte))) 2000 && gchI k pc ((.newarray .byte)) a b t v w) (gchE_at hm)
  obtain ⟨hx0, hi⟩ := and2 hi
  have hx0 : gpx ((.newarray .byte)) < 2000 := blt_of hx0
  intro ad H locs ls hag hP hD hS hq hl
  have hs1 : (match (generalizing := false) st with
    | .inl n :: r => (match (generalizing := false) t with
      | 4 => (gNwJ S.2 n).map fun D => ((pc + glen ((.newarray .byte))), lv, .inr (.inr (gTop S.2)) :: r, (S.1, D))
      | _ => (gNwI S.2 t n).map fun D => ((pc + glen ((.newarray .byte))), lv, .inr (.inr (gTop S.2)) :: r, (S.1, D)))
    | _ => none) = some (pc', lv', st', S') := hs
  obtain rfl : t = 2 := Nat.eq_of_beq_eq_true hi
  split at hs1
  · rename_i n r
    split at hs1
    · omega
    · obtain ⟨D9, h9, e9⟩ := mp2 hs1
      cases e9
      obtain ⟨-, h6⟩ := bic (show (bif Nat.beq 2 1 || Nat.beq 2 2 then _ else none) = _ from h9)
      obtain ⟨m9, h8, h7⟩ := Option.bind_eq_some_iff.mp h6
      cases h7
      have hm9 := gCnt_inv h8
      exact gs_newa (at9 := .byte) (ty := .byte) (key := 2) (t0 := 1) (a0 := (m9, .inl fun _ => 0)) (m9 := m9) rfl rfl (fun c h => h) (fun _ => gEnc_int) (fun _ => rfl) (gwd 3 rfl) (by show m9 * 1 ≤ _; omega) ⟨hx, hb, hml, hown, hts⟩ K hf hR hd hm9 hi9.1 hi9.2.1 (va1 hi9.2.2).2 hn hcs hrm kk ad H locs ls hag hP hD hS hq hl
  · cases hs1
theorem gs_newarray_long  (C : GX k p s m args c) (K : GK z L xs s) (hf : GF z) (hR : 10 ≤ R.frames ∧ 200 ≤ R.locals) (hm : (gmiOf k).1 pc = some ((.newarray .long), nx, a, b, t, v, w)) (hs : gstep ((.newarray .long), nx, a, b, t, v, w) lv st S = some (pc', lv', st', S')) (hi9 : gInv S.2 lv st) (hn : n0 ≤ S.2.1.length) (hcs : c0 ≤ S.2.2.1 ∧ s0 ≤ S.2.2.2) (hrm : S'.2.2.1 - c0 ≤ R.cells ∧ S'.2.2.2 - s0 ≤ R.slots) 
    (kk : gGoal p l e R s m args below meth c Q z k L xs n0 ad0 c0 s0 pc' lv' st' S') : gGoal p l e R s m args below meth c Q z k L xs n0 ad0 c0 s0 pc lv st S := by
  obtain ⟨hx, hb, hml, hown, hts⟩ := C
  obtain ⟨hd, rfl, hi⟩ := chk3 (A := decode (gccO k) pc = .ok ((.newarray .long), glen ((.newarray .long)))) (n := nx) (m := pc + glen ((.newarray .long))) (B := Nat.blt (gpx ((.newarray .long))) 2000 && gchI k pc ((.newarray .long)) a b t v w) (gchE_at hm)
  obtain ⟨hx0, hi⟩ := and2 hi
  have hx0 : gpx ((.newarray .long)) < 2000 := blt_of hx0
  intro ad H locs ls hag hP hD hS hq hl
  have hs1 : (match (generalizing := false) st with
    | .inl n :: r => (match (generalizing := false) t with
      | 4 => (gNwJ S.2 n).map fun D => ((pc + glen ((.newarray .long))), lv, .inr (.inr (gTop S.2)) :: r, (S.1, D))
      | _ => (gNwI S.2 t n).map fun D => ((pc + glen ((.newarray .long))), lv, .inr (.inr (gTop S.2)) :: r, (S.1, D)))
    | _ => none) = some (pc', lv', st', S') := hs
  obtain rfl : t = 4 := Nat.eq_of_beq_eq_true hi
  split at hs1
  · rename_i n r
    split at hs1
    · obtain ⟨D9, h9, e9⟩ := mp2 hs1
      cases e9
      obtain ⟨m9, h8, h7⟩ := Option.bind_eq_some_iff.mp (show (gCnt n).bind _ = _ from h9)
      cases h7
      have hm9 := gCnt_inv h8
      exact gs_newa (at9 := .long) (ty := .long) (key := 4) (t0 := 3) (a0 := (m9, .inr (.inl fun _ => 0))) (m9 := m9) rfl rfl (fun c h => h) (fun _ => gEnc_lng) (fun _ => rfl) (gwd 4 rfl) (by show m9 * 8 ≤ _; omega) ⟨hx, hb, hml, hown, hts⟩ K hf hR hd hm9 hi9.1 hi9.2.1 (va1 hi9.2.2).2 hn hcs hrm kk ad H locs ls hag hP hD hS hq hl
    · rename_i hne
      exact absurd rfl hne
  · cases hs1
theorem gs_newq {key t0 m9 : Nat} {C9 : String} {x0 : Nat} {n : Int32} {r : List gPV} (hlk : Cond.classLink (gownN (gclO k)) x0 C9 ∈ gtbl) (hao : va_AO C9 s) (htt : (tyL z)[t0]? = some (z.2.1 key, .object C9))
    (C : GX k p s m args c) (K : GK z L xs s) (hf : GF z) (hR : 10 ≤ R.frames ∧ 200 ≤ R.locals) (hd : decode (gccO k) pc = .ok (.anewarray x0, 3)) (hm9 : ¬ n < 0 ∧ n.toNatClampNeg = m9 ∧ m9 ≤ 100000) (hv : gvD S.2 = true) (hlv : lv.all (gvo S.2.1.length) = true) (hst : r.all (gvv S.2.1.length) = true) (hn : n0 ≤ S.2.1.length) (hcs : c0 ≤ S.2.2.1 ∧ s0 ≤ S.2.2.2) (hrm : S.2.2.1 + 1 - c0 ≤ R.cells ∧ S.2.2.2 + m9 - s0 ≤ R.slots)
    (kk : gGoal p l e R s m args below meth c Q z k L xs n0 ad0 c0 s0 (pc + 3) lv (.inr (.inr (gTop S.2)) :: r) (S.1, gNew S.2 (.inr (.inr (.inr (key, List.replicate m9 none)))) m9)) : gGoal p l e R s m args below meth c Q z k L xs n0 ad0 c0 s0 pc lv (.inl n :: r) S := by
  obtain ⟨hx, hb, hml, hown, hts⟩ := C
  intro ad H locs ls hag hP hD hS hq hl
  refine va_newq hx hb hown (hts _ hlk) hao K.1.1.1 hP hD hS (fun q hq => Nat.le_trans K.2.2.1 hq) hm9.1 hm9.2.1 (by omega) (by omega) (by omega) hd ?_
  intro q cA H1 hK hP1 hD1 hS1
  obtain ⟨k1, c1, a1, a2, a3, a4⟩ := (hK.2 (tyL z).length (cA, .object C9) (by simp)).2
  obtain ⟨k2, c2, b1, b2, b3, b4⟩ := (K.1.1.1.2 t0 _ htt).2
  have e3 : cA = z.2.1 key := Option.some.inj (a4.symm.trans b4)
  subst e3
  exact gs_more hv hlv hst hn hcs rfl gEnc_ref kk hag hP1 hD1 hS1 hq hl
theorem gs_newrows {m9 : Nat} {x0 : Nat} {n : Int32} {r : List gPV} (hlk : Cond.classLink (gownN (gclO k)) x0 "[I" ∈ gtbl)
    (C : GX k p s m args c) (K : GK z L xs s) (hf : GF z) (hR : 10 ≤ R.frames ∧ 200 ≤ R.locals) (hd : decode (gccO k) pc = .ok (.anewarray x0, 3)) (hm9 : ¬ n < 0 ∧ n.toNatClampNeg = m9 ∧ m9 ≤ 100000) (hv : gvD S.2 = true) (hlv : lv.all (gvo S.2.1.length) = true) (hst : r.all (gvv S.2.1.length) = true) (hn : n0 ≤ S.2.1.length) (hcs : c0 ≤ S.2.2.1 ∧ s0 ≤ S.2.2.2) (hrm : S.2.2.1 + 1 - c0 ≤ R.cells ∧ S.2.2.2 + m9 - s0 ≤ R.slots)
    (kk : gGoal p l e R s m args below meth c Q z k L xs n0 ad0 c0 s0 (pc + 3) lv (.inr (.inr (gTop S.2)) :: r) (S.1, gNew S.2 (.inr (.inr (.inr (6, List.replicate m9 none)))) m9)) : gGoal p l e R s m args below meth c Q z k L xs n0 ad0 c0 s0 pc lv (.inl n :: r) S := by
  obtain ⟨hx, hb, hml, hown, hts⟩ := C
  intro ad H locs ls hag hP hD hS hq hl
  obtain ⟨hm1, hm2, hm3⟩ := hm9
  subst hm2
  have hover : (Cond.arrayOver (.array .int)).before args s = true := va_AOA.use (va_AAI.use K.2.2.2.2)
  refine W.anewA (t := .int) hx hb hown (hts _ hlk) hover (g := F0 m pc ls (.int n :: r.map (gimg (gadr z ad)))) rfl hd rfl hm1 (by omega) (by omega) (by omega) fun cA kA comp f1 f2 f3 f4 => ?_
  have f9 : s.vm.findClass ("[" ++ (FieldType.array .int).toString) = some (z.2.1 6) := (K.1.1.1.2 6 _ rfl).2
  obtain rfl : cA = z.2.1 6 := Option.some.inj (f1.symm.trans f9)
  generalize hH1 : H.push ({ cls := z.2.1 6, slots := Array.replicate n.toNatClampNeg .null, vm := .none } : Cell) = H1
  have z1 : H1.size = H.size + 1 := by rw [← hH1, Array.size_push]
  have e1 : H1[H.size]? = some (arrV (z.2.1 6) n.toNatClampNeg (fun _ => .null)) := by rw [← hH1, Array.getElem?_push_size, ← arrV_new]
  have o1 : ∀ q : Nat, q < H.size → H1[q]? = H[q]? := fun q hq => by rw [← hH1, Array.getElem?_push, if_neg (Nat.ne_of_lt hq)]
  have hk : ∀ (k : Nat) (x : Nat × va_E), (gW z S.1 ad S.2.1)[k]? = some x → H1[x.1]? = H[x.1]? := fun k x hx => o1 x.1 ((hP k x hx).lt)
  refine gs_more (q := H.size) (va := .inl (z.2.1 6, n.toNatClampNeg, .inr (.inr (.inr (.inr fun _ => none))))) hv hlv hst hn hcs rfl gEnc_ref kk hag ((hP.kept hk).app (fun k x hx => ?_)) (hD.push hP rfl (Nat.le_trans K.2.2.1 hS.1)) ⟨Nat.le_trans hS.1 (by omega), fun x h1 h2 => (o1 x (Nat.lt_of_lt_of_le h1 hS.1)).trans (hS.2.1 x h1 h2), hS.2.2⟩ hq hl
  have hz : k < 1 := (List.getElem?_eq_some_iff.mp hx).1
  rw [show k = 0 by omega] at hx
  cases hx
  show H1[H.size]? = some (vp_cell _ _)
  rw [vp_cell_q]
  exact e1
theorem gs_anewarray {x0 : Nat} (C : GX k p s m args c) (K : GK z L xs s) (hf : GF z) (hR : 10 ≤ R.frames ∧ 200 ≤ R.locals) (hm : (gmiOf k).1 pc = some ((.anewarray x0), nx, a, b, t, v, w)) (hs : gstep ((.anewarray x0), nx, a, b, t, v, w) lv st S = some (pc', lv', st', S')) (hi9 : gInv S.2 lv st) (hn : n0 ≤ S.2.1.length) (hcs : c0 ≤ S.2.2.1 ∧ s0 ≤ S.2.2.2) (hrm : S'.2.2.1 - c0 ≤ R.cells ∧ S'.2.2.2 - s0 ≤ R.slots) 
    (kk : gGoal p l e R s m args below meth c Q z k L xs n0 ad0 c0 s0 pc' lv' st' S') : gGoal p l e R s m args below meth c Q z k L xs n0 ad0 c0 s0 pc lv st S := by
  obtain ⟨hx, hb, hml, hown, hts⟩ := C
  obtain ⟨hd, rfl, hi⟩ := chk3 (A := decode (gccO k) pc = .ok ((.anewarray x0), glen ((.anewarray x0)))) (n := nx) (m := pc + glen ((.anewarray x0))) (B := Nat.blt (gpx ((.anewarray x0))) 2000 && gchI k pc ((.anewarray x0)) a b t v w) (gchE_at hm)
  obtain ⟨hx0, hi⟩ := and2 hi
  have hx0 : gpx ((.anewarray x0)) < 2000 := blt_of hx0
  intro ad H locs ls hag hP hD hS hq hl
  have hs1 : (match (generalizing := false) st with
    | .inl n :: r => (gNwQ S.2 t n).map fun D => ((pc + glen ((.anewarray x0))), lv, .inr (.inr (gTop S.2)) :: r, (S.1, D))
    | _ => none) = some (pc', lv', st', S') := hs
  have hi1 : (match (generalizing := false) t with | 6 => atT (gpP (2000 * gclO k + x0)) (.classLink (gownN (gclO k)) x0 "[I") | 41 => atT (gpP (2000 * gclO k + x0)) (.classLink (gownN (gclO k)) x0 "WindyToursLaw$City") | _ => false) = true := hi
  split at hs1
  · rename_i n r
    obtain ⟨D9, h9, e9⟩ := mp2 hs1
    cases e9
    obtain ⟨-, h6⟩ := bic (show (bif Nat.beq t 6 || Nat.beq t 41 then _ else none) = _ from h9)
    obtain ⟨m9, h8, h7⟩ := Option.bind_eq_some_iff.mp h6
    cases h7
    have hm9 := gCnt_inv h8
    split at hi1
    · exact gs_newrows (gtbl_in (atT_in hi1) rfl) ⟨hx, hb, hml, hown, hts⟩ K hf hR hd hm9 hi9.1 hi9.2.1 (va1 hi9.2.2).2 hn hcs hrm kk ad H locs ls hag hP hD hS hq hl
    · exact gs_newq (t0 := 7) (gtbl_in (atT_in hi1) rfl) K.2.2.2.1 rfl ⟨hx, hb, hml, hown, hts⟩ K hf hR hd hm9 hi9.1 hi9.2.1 (va1 hi9.2.2).2 hn hcs hrm kk ad H locs ls hag hP hD hS hq hl
    · cases hi1
  · cases hs1
theorem gmna_w {k x0 : Nat} (h : atT (gpP (2000 * gclO k + x0)) (.classLink (gownN (gclO k)) x0 "[[I") = true) : Cond.classLink (gownN (gclO k)) x0 ("[" ++ (FieldType.array .int).toString) ∈ gtbl := gtbl_in (atT_in h) rfl
set_option maxHeartbeats 1000000 in
theorem gs_mna0 {m9 j9 : Nat} {x0 : Nat} {n kk9 : Int32} {r : List gPV} (hlk : Cond.classLink (gownN (gclO k)) x0 ("[" ++ (FieldType.array .int).toString) ∈ gtbl)
    (C : GX k p s m args c) (K : GK z L xs s) (hf : GF z) (hR : 10 ≤ R.frames ∧ 200 ≤ R.locals) (hd : decode (gccO k) pc = .ok (.multianewarray x0 2, 4)) (hm9 : ¬ n < 0 ∧ n.toNatClampNeg = m9 ∧ m9 ≤ 100000) (hj9 : ¬ kk9 < 0 ∧ kk9.toNatClampNeg = j9 ∧ j9 ≤ 100000) (hv : gvD S.2 = true) (hlv : lv.all (gvo S.2.1.length) = true) (hst : r.all (gvv S.2.1.length) = true) (hn : n0 ≤ S.2.1.length) (hcs : c0 ≤ S.2.2.1 ∧ s0 ≤ S.2.2.2) (hrm : S.2.2.1 + (1 + m9) - c0 ≤ R.cells ∧ S.2.2.2 + (m9 + m9 * j9) - s0 ≤ R.slots)
    (kk : gGoal p l e R s m args below meth c Q z k L xs n0 ad0 c0 s0 (pc + 4) lv (.inr (.inr (gTop S.2)) :: r) (S.1, S.2.1 ++ [.inr (.inr (.inr (6, (List.range m9).map fun i => some (.inl (S.2.1.length + 1 + i)))))] ++ List.replicate m9 (.inr (.inl (1, List.replicate j9 0))), S.2.2.1 + (1 + m9), S.2.2.2 + (m9 + m9 * j9))) : gGoal p l e R s m args below meth c Q z k L xs n0 ad0 c0 s0 pc lv (.inl kk9 :: .inl n :: r) S := by
  obtain ⟨hx, hb, hml, hown, hts⟩ := C
  intro ad H locs ls hag hP hD hS hq hl
  obtain ⟨hm1, hm2, hm3⟩ := hm9
  obtain ⟨hj1, hj2, hj3⟩ := hj9
  have hX : gW z S.1 ad S.2.1 ++ va_pl [] (fun _ => (.inr (0, []) : va_E)) = gW z S.1 ad S.2.1 := List.append_nil _
  refine va_mna (X := gW z S.1 ad S.2.1) (L := []) (f := fun _ => .inr (0, [])) (ty := .int) (cy := z.2.1 1) (z := (j9, .inl fun _ => 0)) hx hb hown (hts _ hlk) (va_AAI.use K.2.2.2.2) (hts _ (gwd 2 rfl)) (K.1.1.1.2 0 _ rfl).2 K.1.1.1 (by rw [hX]; exact hP) (by rw [hX]; exact hD) hS (fun q hq => Nat.le_trans K.2.2.1 hq) hm1 hj1 hm2 hj2 (by omega) (by show j9 * 4 ≤ _; omega) (by omega) rfl rfl (by omega) (by omega) (fun c => by rw [vp_cell_i]; exact arrV_new _ _ _) hd ?_
  intro q r9 cA H1 hinj hout hK hP1 hD1 hS1
  have e1 : s.vm.findClass ("[" ++ (FieldType.array .int).toString) = some cA := (hK.2 (tyL z).length (cA, .array .int) (by simp)).2
  have e2 : s.vm.findClass ("[" ++ (FieldType.array .int).toString) = some (z.2.1 6) := (K.1.1.1.2 6 _ rfl).2
  obtain rfl : cA = z.2.1 6 := Option.some.inj (e1.symm.trans e2)
  generalize hM : S.2.1 = M at *
  generalize hadd : (fun j => if j = M.length then q else if M.length < j ∧ j ≤ M.length + m9 then r9 (j - M.length - 1) else ad j) = ad'
  have hag2 : ∀ i, i < M.length → ad' i = ad i := fun i hi => by
    rw [← hadd]
    show (if i = M.length then q else if M.length < i ∧ i ≤ M.length + m9 then r9 (i - M.length - 1) else ad i) = ad i
    rw [if_neg (by omega), if_neg (by omega)]
  have hq0 : ad' M.length = q := by rw [← hadd]; exact if_pos rfl
  have hrr : ∀ i, i < m9 → ad' (M.length + 1 + i) = r9 i := fun i hi => by
    rw [← hadd]
    show (if M.length + 1 + i = M.length then q else if M.length < M.length + 1 + i ∧ M.length + 1 + i ≤ M.length + m9 then r9 (M.length + 1 + i - M.length - 1) else ad (M.length + 1 + i)) = r9 i
    rw [if_neg (by omega), if_pos (by omega), show M.length + 1 + i - M.length - 1 = i by omega]
  have hgv : M.all (gvt M.length) = true := by rw [← hM]; exact hv
  have hw : gW z S.1 ad' (M ++ [.inr (.inr (.inr (6, (List.range m9).map fun i => some (.inl (M.length + 1 + i)))))] ++ List.replicate m9 (.inr (.inl (1, List.replicate j9 0)))) = (gW z S.1 ad M ++ [(q, .inl (z.2.1 6, m9, .inr (.inr (.inr (.inr (fun i => if i < m9 then some (r9 i) else none))))))]) ++ va_pl ([] ++ (List.range m9).map r9) (vr_up (fun _ => .inr (0, [])) ((List.range m9).map r9) (.inl (z.2.1 1, j9, .inl fun _ => 0))) := by
    unfold gW
    rw [gmkW_app, gmkW_app, gmkW_ag hag2 (Nat.le_refl _) hgv, ← List.append_assoc, ← List.append_assoc]
    congr 1
    · congr 1
      show [(ad' M.length, gEnc z ad' (.inr (.inr (.inr (6, (List.range m9).map fun i => some (.inl (M.length + 1 + i)))))))] = _
      rw [hq0]
      show [(q, (.inl (z.2.1 6, ((List.range m9).map fun i => (some (.inl (M.length + 1 + i)) : gRF)).length, .inr (.inr (.inr (.inr fun j => (((List.range m9).map fun i => (some (.inl (M.length + 1 + i)) : gRF)).getD j none).map (gadr z ad'))))) : va_E))] = _
      have hf : (fun j => (((List.range m9).map fun i => (some (.inl (M.length + 1 + i)) : gRF)).getD j none).map (gadr z ad')) = fun i => if i < m9 then some (r9 i) else none := by
        funext i
        rw [List.getD_eq_getElem?_getD, List.getElem?_map]
        by_cases hi : i < m9
        · rw [List.getElem?_range hi, if_pos hi]
          exact congrArg some (hrr i hi)
        · rw [List.getElem?_eq_none (by rw [List.length_range]; omega), if_neg hi]
          rfl
      rw [hf, List.length_map, List.length_range]
    · apply List.ext_getElem?
      intro j
      unfold va_pl
      rw [List.nil_append, List.map_map, List.getElem?_map, List.getElem?_map, List.getElem?_zipIdx, List.getElem?_replicate]
      by_cases hj : j < m9
      · rw [if_pos hj, List.getElem?_range hj]
        show some (ad' (_ + j), gEnc z ad' (.inr (.inl (1, List.replicate j9 0)))) = some (r9 j, vr_up _ _ _ (r9 j))
        rw [vr_up_in (List.mem_map.mpr ⟨j, List.mem_range.mpr hj, rfl⟩), List.length_append, List.length_singleton, hrr j hj, gEnc_int]
      · rw [if_neg hj, List.getElem?_eq_none (by rw [List.length_range]; omega)]
        rfl
  have hg : ∀ i, i < M.length → gadr z ad' (.inl i) = gadr z ad (.inl i) := hag2
  have h5 := kk ad' H1 locs ls (fun i hi => (hag2 i (by omega)).trans (hag i hi)) (by show va_P _ _ (gW z S.1 ad' _) H1; rw [hw]; exact hP1) (by show va_D _ (gW z S.1 ad' _); rw [hw]; exact hD1) hS1 hq (gLH_ag (f := gadr z ad) (n := M.length) (fun _ => rfl) hg hl hlv)
  have e9 : (Sum.inr (Sum.inr (gTop S.2)) :: r).map (gimg (gadr z ad')) = .ref q :: r.map (gimg (gadr z ad)) := by
    rw [List.map_cons, gst_ag (f := gadr z ad) (g := gadr z ad') (n := M.length) (fun _ => rfl) hg hst]
    unfold gTop
    rw [hM]
    exact congrArg (fun y => Value.ref y :: r.map (gimg (gadr z ad))) hq0
  rw [e9] at h5
  rw [show S.2.2.1 - c0 + 1 + m9 = S.2.2.1 + (1 + m9) - c0 by omega, show S.2.2.2 - s0 + m9 + m9 * j9 = S.2.2.2 + (m9 + m9 * j9) - s0 by omega]
  exact h5
theorem gs_mna {x0 : Nat} (C : GX k p s m args c) (K : GK z L xs s) (hf : GF z) (hR : 10 ≤ R.frames ∧ 200 ≤ R.locals) (hm : (gmiOf k).1 pc = some ((.multianewarray x0 2), nx, a, b, t, v, w)) (hs : gstep ((.multianewarray x0 2), nx, a, b, t, v, w) lv st S = some (pc', lv', st', S')) (hi9 : gInv S.2 lv st) (hn : n0 ≤ S.2.1.length) (hcs : c0 ≤ S.2.2.1 ∧ s0 ≤ S.2.2.2) (hrm : S'.2.2.1 - c0 ≤ R.cells ∧ S'.2.2.2 - s0 ≤ R.slots) 
    (kk : gGoal p l e R s m args below meth c Q z k L xs n0 ad0 c0 s0 pc' lv' st' S') : gGoal p l e R s m args below meth c Q z k L xs n0 ad0 c0 s0 pc lv st S := by
  obtain ⟨hx, hb, hml, hown, hts⟩ := C
  obtain ⟨hd, rfl, hi⟩ := chk3 (A := decode (gccO k) pc = .ok ((.multianewarray x0 2), glen ((.multianewarray x0 2)))) (n := nx) (m := pc + glen ((.multianewarray x0 2))) (B := Nat.blt (gpx ((.multianewarray x0 2))) 2000 && gchI k pc ((.multianewarray x0 2)) a b t v w) (gchE_at hm)
  obtain ⟨hx0, hi⟩ := and2 hi
  have hx0 : gpx ((.multianewarray x0 2)) < 2000 := blt_of hx0
  intro ad H locs ls hag hP hD hS hq hl
  have hs1 : (match (generalizing := false) st with
    | .inl k :: .inl n :: r => (gNwM S.2 n k).map fun D => ((pc + glen ((.multianewarray x0 2))), lv, .inr (.inr (gTop S.2)) :: r, (S.1, D))
    | _ => none) = some (pc', lv', st', S') := hs
  have hi1 : (Nat.beq 2 2 && atT (gpP (2000 * gclO k + x0)) (.classLink (gownN (gclO k)) x0 "[[I")) = true := hi
  split at hs1
  · rename_i kk9 n r
    obtain ⟨D9, h9, e9⟩ := mp2 hs1
    cases e9
    obtain ⟨m9, h8, h7⟩ := Option.bind_eq_some_iff.mp (show (gCnt n).bind _ = _ from h9)
    obtain ⟨j9, h6, h5⟩ := Option.bind_eq_some_iff.mp h7
    cases h5
    exact gs_mna0 (gmna_w (and2 hi1).2) ⟨hx, hb, hml, hown, hts⟩ K hf hR hd (gCnt_inv h8) (gCnt_inv h6) hi9.1 hi9.2.1 (va1 (va1 hi9.2.2).2).2 hn hcs hrm kk ad H locs ls hag hP hD hS hq hl
  · cases hs1
theorem gclk_nm {t : Nat} (K : GK z L xs s) (h : t = 1 ∨ t = 2 ∨ t = 6) : s.vm.findClass (gclk t) = some (z.2.1 t) := by
  rcases h with rfl | rfl | rfl
  · exact va_nm_int (K.1.1.1.2 0 _ rfl).2
  · exact va_nm_byte (K.1.1.1.2 1 _ rfl).2
  · have h9 : s.vm.findClass ("[" ++ (FieldType.array .int).toString) = some (z.2.1 6) := (K.1.1.1.2 6 _ rfl).2
    rw [show "[" ++ (FieldType.array .int).toString = gclk 6 by decide] at h9
    exact h9
theorem gIsA_inv {D : gDS} {r : gRF} {key : Nat} {u : Unit} (h : gIsA D r key = some u) : ∃ i, r = some (.inl i) ∧ ((∃ xs, D.1[i]? = some (.inr (.inl (key, xs)))) ∨ (key = 6 ∧ ∃ xs, D.1[i]? = some (.inr (.inr (.inr (6, xs)))))) := by
  unfold gIsA at h
  split at h
  · split at h
    · rename_i k xs heq
      obtain ⟨hc, hh⟩ := bic h
      clear h
      obtain rfl : k = key := Nat.eq_of_beq_eq_true hc
      exact ⟨_, rfl, Or.inl ⟨xs, heq⟩⟩
    · rename_i k xs heq
      obtain ⟨hc, hh⟩ := bic h
      clear h
      obtain ⟨h1, h2⟩ := and2 hc
      obtain rfl : key = 6 := Nat.eq_of_beq_eq_true h2
      obtain rfl : k = 6 := Nat.eq_of_beq_eq_true h1
      exact ⟨_, rfl, Or.inr ⟨rfl, xs, heq⟩⟩
    · cases h
  · cases h
theorem gs_checkcast {x0 : Nat} (C : GX k p s m args c) (K : GK z L xs s) (hf : GF z) (hR : 10 ≤ R.frames ∧ 200 ≤ R.locals) (hm : (gmiOf k).1 pc = some ((.checkcast x0), nx, a, b, t, v, w)) (hs : gstep ((.checkcast x0), nx, a, b, t, v, w) lv st S = some (pc', lv', st', S')) (hi9 : gInv S.2 lv st) (hn : n0 ≤ S.2.1.length) (hcs : c0 ≤ S.2.2.1 ∧ s0 ≤ S.2.2.2) (hrm : S'.2.2.1 - c0 ≤ R.cells ∧ S'.2.2.2 - s0 ≤ R.slots) 
    (kk : gGoal p l e R s m args below meth c Q z k L xs n0 ad0 c0 s0 pc' lv' st' S') : gGoal p l e R s m args below meth c Q z k L xs n0 ad0 c0 s0 pc lv st S := by
  obtain ⟨hx, hb, hml, hown, hts⟩ := C
  obtain ⟨hd, rfl, hi⟩ := chk3 (A := decode (gccO k) pc = .ok ((.checkcast x0), glen ((.checkcast x0)))) (n := nx) (m := pc + glen ((.checkcast x0))) (B := Nat.blt (gpx ((.checkcast x0))) 2000 && gchI k pc ((.checkcast x0)) a b t v w) (gchE_at hm)
  obtain ⟨hx0, hi⟩ := and2 hi
  have hx0 : gpx ((.checkcast x0)) < 2000 := blt_of hx0
  intro ad H locs ls hag hP hD hS hq hl
  have hs1 : (match (generalizing := false) st with
    | .inr (.inr o) :: r => (gIsA S.2 o t).map fun _ => ((pc + glen ((.checkcast x0))), lv, .inr (.inr o) :: r, S)
    | _ => none) = some (pc', lv', st', S') := hs
  have hi1 : ((Nat.beq t 1 || Nat.beq t 2 || Nat.beq t 6) && atT (gpP (2000 * gclO k + x0)) (.classLink (gownN (gclO k)) x0 (gclk t))) = true := hi
  obtain ⟨j1, j2⟩ := and2 hi1
  have ht9 : t = 1 ∨ t = 2 ∨ t = 6 := by
    rw [Bool.or_eq_true, Bool.or_eq_true] at j1
    rcases j1 with (j1 | j1) | j1
    · exact Or.inl (Nat.eq_of_beq_eq_true j1)
    · exact Or.inr (Or.inl (Nat.eq_of_beq_eq_true j1))
    · exact Or.inr (Or.inr (Nat.eq_of_beq_eq_true j1))
  split at hs1
  · rename_i o r
    obtain ⟨D9, h9, e9⟩ := mp2 hs1
    cases e9
    obtain ⟨i, rfl, h8⟩ := gIsA_inv h9
    rcases h8 with ⟨ys, h8⟩ | ⟨rfl, ys, h8⟩
    · exact va_castA hx hb hown (hts _ (gtbl_in (atT_in j2) rfl)) hP (122 + i) (gW_int h8) (gclk_nm K ht9) hd (kk ad H locs ls hag hP hD hS hq hl)
    · exact va_castA hx hb hown (hts _ (gtbl_in (atT_in j2) rfl)) hP (122 + i) (gW_ref h8) (gclk_nm K ht9) hd (kk ad H locs ls hag hP hD hS hq hl)
  · cases hs1
theorem gs_invokespecial {x0 : Nat} (C : GX k p s m args c) (K : GK z L xs s) (hf : GF z) (hR : 10 ≤ R.frames ∧ 200 ≤ R.locals) (hm : (gmiOf k).1 pc = some ((.invokespecial x0), nx, a, b, t, v, w)) (hs : gstep ((.invokespecial x0), nx, a, b, t, v, w) lv st S = some (pc', lv', st', S')) (hi9 : gInv S.2 lv st) (hn : n0 ≤ S.2.1.length) (hcs : c0 ≤ S.2.2.1 ∧ s0 ≤ S.2.2.2) (hrm : S'.2.2.1 - c0 ≤ R.cells ∧ S'.2.2.2 - s0 ≤ R.slots) 
    (kk : gGoal p l e R s m args below meth c Q z k L xs n0 ad0 c0 s0 pc' lv' st' S') : gGoal p l e R s m args below meth c Q z k L xs n0 ad0 c0 s0 pc lv st S := by
  obtain ⟨hx, hb, hml, hown, hts⟩ := C
  obtain ⟨hd, rfl, hi⟩ := chk3 (A := decode (gccO k) pc = .ok ((.invokespecial x0), glen ((.invokespecial x0)))) (n := nx) (m := pc + glen ((.invokespecial x0))) (B := Nat.blt (gpx ((.invokespecial x0))) 2000 && gchI k pc ((.invokespecial x0)) a b t v w) (gchE_at hm)
  obtain ⟨hx0, hi⟩ := and2 hi
  have hx0 : gpx ((.invokespecial x0)) < 2000 := blt_of hx0
  intro ad H locs ls hag hP hD hS hq hl
  have hs1 : (match (generalizing := false) t with
    | 50 => match (generalizing := false) st with
      | .inr (.inr (some o)) :: r => (match (generalizing := false) Nat.ble (gcat r) 8 with
        | true => some ((pc + glen ((.invokespecial x0))), lv, r, S)
        | false => none)
      | _ => none
    | _ => none) = some (pc', lv', st', S') := hs
  split at hs1
  · split at hs1
    · rename_i o r
      obtain ⟨hz9, e9⟩ := bt hs1
      have hz8 := gcat_eq r (gadr z ad)
      cases e9
      have hi1 : atT (gpP (2000 * gclO k + x0)) (.methodLink (gownN (gclO k)) x0 Lib.objectInit) = true := hi
      have hz7 := Nat.le_of_ble_eq_true hz9
      exact W.objInit hx hb hown (hts _ (gtbl_in (atT_in hi1) rfl)) (hts _ (gwd 0 rfl)) (hts _ (gwd 1 rfl)) (g := F0 m pc ls (.ref (gadr z ad o) :: st'.map (gimg (gadr z ad)))) rfl (show ls.size = c.maxLocals by rw [hl.1, hml]) rfl hd (by omega) (by show 2 * 0 + _ + 12 ≤ _; omega) (kk ad H locs ls hag hP hD hS hq hl)
    · cases hs1
  · cases hs1
theorem gmax_eq (x y : Int32) : (if x < y then y else x) = (if y < x then x else y) := by
  by_cases h1 : x < y
  · rw [if_pos h1, if_neg (fun h2 => Int32.lt_asymm h1 h2)]
  · rw [if_neg h1]
    by_cases h2 : y < x
    · rw [if_pos h2]
    · rw [if_neg h2]
      exact Int32.le_antisymm (Int32.not_lt.mp h2) (Int32.not_lt.mp h1)
theorem gcpy_eq {xs ys : List Int32} {sp dp n : Nat} (h1 : sp + n ≤ xs.length) (h2 : dp + n ≤ ys.length) : (ys.take dp ++ ((xs.drop sp).take n ++ ys.drop (dp + n))).length = ys.length ∧ (fun j => (ys.take dp ++ ((xs.drop sp).take n ++ ys.drop (dp + n))).getD j 0) = va_cpy (fun j => xs.getD j 0) (fun j => ys.getD j 0) sp dp n := by
  have hl1 : (ys.take dp).length = dp := by rw [List.length_take]; omega
  have hl2 : ((xs.drop sp).take n).length = n := by rw [List.length_take, List.length_drop]; omega
  refine ⟨by rw [List.length_append, List.length_append, hl1, hl2, List.length_drop]; omega, ?_⟩
  funext j
  unfold va_cpy
  rw [List.getD_eq_getElem?_getD]
  by_cases q1 : j < dp
  · rw [List.getElem?_append_left (by omega), List.getElem?_take, if_pos q1, if_neg (by omega)]; rfl
  · rw [List.getElem?_append_right (by omega), hl1]
    by_cases q2 : j < dp + n
    · rw [List.getElem?_append_left (by omega), List.getElem?_take, if_pos (by omega), List.getElem?_drop, if_pos ⟨by omega, q2⟩]; rfl
    · rw [List.getElem?_append_right (by omega), hl2, List.getElem?_drop, if_neg (by omega), show dp + n + (j - dp - n) = j by omega]; rfl
theorem gCpB_inv {D D' : gDS} {src dst : gRF} {sp dp n : Int32} (h : gCpB D src sp dst dp n = some D') : ∃ xs a ys, gInt D src 2 = some xs ∧ dst = some (.inl a) ∧ D.1[a]? = some (.inr (.inl (2, ys))) ∧ (¬ sp < 0 ∧ ¬ dp < 0 ∧ ¬ n < 0 ∧ sp.toNatClampNeg + n.toNatClampNeg ≤ xs.length ∧ dp.toNatClampNeg + n.toNatClampNeg ≤ ys.length) ∧ D' = gSet D a (.inr (.inl (2, ys.take dp.toNatClampNeg ++ ((xs.drop sp.toNatClampNeg).take n.toNatClampNeg ++ ys.drop (dp.toNatClampNeg + n.toNatClampNeg))))) := by
  unfold gCpB at h
  obtain ⟨xs, h0, h2⟩ := Option.bind_eq_some_iff.mp h
  split at h2
  · split at h2
    · rename_i k ys heq
      split at h2
      · rename_i hc
        cases h2
        obtain rfl : k = 2 := Nat.eq_of_beq_eq_true hc.1
        exact ⟨xs, _, _, h0, rfl, heq, ⟨hc.2.1, hc.2.2.1, hc.2.2.2.1, hc.2.2.2.2.1, hc.2.2.2.2.2.1⟩, rfl⟩
      · cases h2
    · cases h2
  · cases h2
theorem gbyt_get {ys : List Int32} (h : ys.all gbyt = true) (j : Nat) : fits .byte (.int (ys.getD j 0)) = true := by
  rw [List.getD_eq_getElem?_getD]
  cases hj : ys[j]? with
  | none => rfl
  | some x => exact List.all_eq_true.mp h x (List.mem_of_getElem? hj)
theorem gbt {b : Bool} {α : Type} {x : Option α} {y : α} (h : (match b with | true => x | false => none) = some y) : b = true ∧ x = some y := by
  cases b with
  | true => exact ⟨rfl, h⟩
  | false => cases h
theorem gs_invokestatic {x0 : Nat} (C : GX k p s m args c) (K : GK z L xs s) (hf : GF z) (hR : 10 ≤ R.frames ∧ 200 ≤ R.locals) (hm : (gmiOf k).1 pc = some ((.invokestatic x0), nx, a, b, t, v, w)) (hs : gstep ((.invokestatic x0), nx, a, b, t, v, w) lv st S = some (pc', lv', st', S')) (hi9 : gInv S.2 lv st) (hn : n0 ≤ S.2.1.length) (hcs : c0 ≤ S.2.2.1 ∧ s0 ≤ S.2.2.2) (hrm : S'.2.2.1 - c0 ≤ R.cells ∧ S'.2.2.2 - s0 ≤ R.slots) 
    (kk : gGoal p l e R s m args below meth c Q z k L xs n0 ad0 c0 s0 pc' lv' st' S') : gGoal p l e R s m args below meth c Q z k L xs n0 ad0 c0 s0 pc lv st S := by
  obtain ⟨hx, hb, hml, hown, hts⟩ := C
  obtain ⟨hd, rfl, hi⟩ := chk3 (A := decode (gccO k) pc = .ok ((.invokestatic x0), glen ((.invokestatic x0)))) (n := nx) (m := pc + glen ((.invokestatic x0))) (B := Nat.blt (gpx ((.invokestatic x0))) 2000 && gchI k pc ((.invokestatic x0)) a b t v w) (gchE_at hm)
  obtain ⟨hx0, hi⟩ := and2 hi
  have hx0 : gpx ((.invokestatic x0)) < 2000 := blt_of hx0
  intro ad H locs ls hag hP hD hS hq hl
  have hs1 : (match (generalizing := false) t with
    | 100 => match (generalizing := false) st with
      | .inl y :: .inl x :: r => (match (generalizing := false) Nat.ble (gcat r) 8 with
        | true => some ((pc + glen ((.invokestatic x0))), lv, .inl (if y < x then y else x) :: r, S)
        | false => none)
      | _ => none
    | 104 => match (generalizing := false) st with
      | .inl y :: .inl x :: r => (match (generalizing := false) Nat.ble (gcat r) 8 with
        | true => some ((pc + glen ((.invokestatic x0))), lv, .inl (if y < x then x else y) :: r, S)
        | false => none)
      | _ => none
    | 101 => match (generalizing := false) st with
      | .inr (.inl y) :: .inr (.inl x) :: r => (match (generalizing := false) Nat.ble (gcat r) 8 with
        | true => some ((pc + glen ((.invokestatic x0))), lv, .inr (.inl (if y < x then x else y)) :: r, S)
        | false => none)
      | _ => none
    | 102 => match (generalizing := false) st with
      | .inr (.inl y) :: .inr (.inl x) :: r => (match (generalizing := false) Nat.ble (gcat r) 8 with
        | true => some ((pc + glen ((.invokestatic x0))), lv, .inr (.inl (if y < x then y else x)) :: r, S)
        | false => none)
      | _ => none
    | 103 => match (generalizing := false) st with
      | .inl n :: .inl dp :: .inr (.inr d) :: .inl sp :: .inr (.inr o) :: r => (match (generalizing := false) Nat.ble (gcat r) 8 with
        | true => (gCpB S.2 o sp d dp n).map fun D => ((pc + glen ((.invokestatic x0))), lv, r, (S.1, D))
        | false => none)
      | _ => none
    | 120 => match (generalizing := false) st with
      | .inl n :: .inl i :: r => (match (generalizing := false) Nat.ble (gcat r) 8 with
        | true => (gChk i n).map fun _ => ((pc + glen ((.invokestatic x0))), lv, r, S)
        | false => none)
      | _ => none
    | _ => none) = some (pc', lv', st', S') := hs
  split at hs1
  · split at hs1
    · rename_i y x r
      obtain ⟨hz9, e9⟩ := bt hs1
      cases e9
      have hz8 := gcat_eq r (gadr z ad)
      have hz7 := Nat.le_of_ble_eq_true hz9
      exact va_mmin hx hb (by rw [hml, hl.1]) hown (hts _ (gtbl_in (atT_in hi) rfl)) (hts _ (gwd 5 rfl)) (hts _ (gwd 6 rfl)) (hts _ (gwd 7 rfl)) (by omega) (by omega) hrm.1 hrm.2 hd (kk ad H locs ls hag hP hD hS hq hl)
    · cases hs1
  · split at hs1
    · rename_i y x r
      obtain ⟨hz9, e9⟩ := bt hs1
      cases e9
      have hz8 := gcat_eq r (gadr z ad)
      have hz7 := Nat.le_of_ble_eq_true hz9
      exact va_mmax hx hb (by rw [hml, hl.1]) hown (hts _ (gtbl_in (atT_in hi) rfl)) (hts _ (gwd 8 rfl)) (hts _ (gwd 6 rfl)) (hts _ (gwd 9 rfl)) (by omega) (by omega) hrm.1 hrm.2 hd (by rw [gmax_eq]; exact (kk ad H locs ls hag hP hD hS hq hl))
    · cases hs1
  · split at hs1
    · rename_i y x r
      obtain ⟨hz9, e9⟩ := bt hs1
      cases e9
      have hz8 := gcat_eq r (gadr z ad)
      have hz7 := Nat.le_of_ble_eq_true hz9
      exact va_mmax_long hx hb (by rw [hml, hl.1]) hown (hts _ (gtbl_in (atT_in hi) rfl)) (hts _ (gwd 10 rfl)) (hts _ (gwd 6 rfl)) (hts _ (gwd 11 rfl)) (by omega) (by omega) hrm.1 hrm.2 hd (kk ad H locs ls hag hP hD hS hq hl)
    · cases hs1
  · split at hs1
    · rename_i y x r
      obtain ⟨hz9, e9⟩ := bt hs1
      cases e9
      have hz8 := gcat_eq r (gadr z ad)
      have hz7 := Nat.le_of_ble_eq_true hz9
      exact va_mmin_long hx hb (by rw [hml, hl.1]) hown (hts _ (gtbl_in (atT_in hi) rfl)) (hts _ (gwd 12 rfl)) (hts _ (gwd 6 rfl)) (hts _ (gwd 13 rfl)) (by omega) (by omega) hrm.1 hrm.2 hd (kk ad H locs ls hag hP hD hS hq hl)
    · cases hs1
  · split at hs1
    · rename_i n dp d sp o r
      obtain ⟨hz9, e9⟩ : Nat.ble (gcat r) 8 = true ∧ _ := gbt hs1
      obtain ⟨D9, h9, e8⟩ := mp2 e9
      have hz8 := gcat_eq r (gadr z ad)
      cases e8
      have hz7 := Nat.le_of_ble_eq_true hz9
      obtain ⟨ys, a9, us, h1, rfl, h2, ⟨h3, h4, h5, h6, h7⟩, rfl⟩ := gCpB_inv h9
      have h77 : nativeFrameWords "java/lang/System" "arraycopy" 5 + 11 ≤ 100 := by decide +kernel
      have hby := vInt hi9.1 h1
      obtain ⟨g1, g2⟩ := gcpy_eq (xs := ys) (ys := us) h6 h7
      have hset : (gW z S.1 ad S.2.1).set (122 + a9) (ad a9, .inl (z.2.1 2, us.length, .inl (va_cpy (fun j => ys.getD j 0) (fun j => us.getD j 0) sp.toNatClampNeg dp.toNatClampNeg n.toNatClampNeg))) = gW z S.1 ad (S.2.1.set a9 (.inr (.inl (2, us.take dp.toNatClampNeg ++ ((ys.drop sp.toNatClampNeg).take n.toNatClampNeg ++ us.drop (dp.toNatClampNeg + n.toNatClampNeg)))))) := by
        rw [← gW_set, ← g2]
        congr 2
        show (Sum.inl (z.2.1 2, us.length, _) : va_E) = .inl (z.2.1 2, _, _)
        rw [g1]
      have kk2 : ∀ (H1 : Heap) (locs1 : List Loc), va_P z.1 vwCl ((gW z S.1 ad S.2.1).set (122 + a9) (ad a9, .inl (z.2.1 2, us.length, .inl (va_cpy (fun j => ys.getD j 0) (fun j => us.getD j 0) sp.toNatClampNeg dp.toNatClampNeg n.toNatClampNeg)))) H1 → va_D (AB z) ((gW z S.1 ad S.2.1).set (122 + a9) (ad a9, .inl (z.2.1 2, us.length, .inl (va_cpy (fun j => ys.getD j 0) (fun j => us.getD j 0) sp.toNatClampNeg dp.toNatClampNeg n.toNatClampNeg)))) → va_S (AB z) s.heap H1 locs1 → W p l e R s m args below meth c H1 locs1 (S.2.2.1 - c0) (S.2.2.2 - s0) Q (F0 m (pc + 3) ls (st'.map (gimg (gadr z ad)))) := fun H1 locs1 hP1 hD1 hS1 => kk ad H1 locs1 ls hag (by rw [hset] at hP1; exact hP1) (by rw [hset] at hD1; exact hD1) hS1 hq hl
      rcases gInt_inv h1 with ⟨i9, rfl, h8⟩ | ⟨-, q9, rfl, h8⟩
      · exact va_copyi hx hb (by rw [hml, hl.1]) hown (hts _ (gtbl_in (atT_in hi) rfl)) (hts _ (gwd 16 rfl)) (hts _ (gwd 14 rfl)) (hts _ (gwd 15 rfl)) K.1.1.1 hP hD hS (122 + i9) (122 + a9) 1 1 (gW_int h8) (gW_int h2) rfl rfl rfl h3 h4 h5 h6 h7 (fun j _ => gbyt_get hby _) (by omega) (by omega) hd kk2
      · exact vk_copyt hx hb (by rw [hml, hl.1]) hown (hts _ (gtbl_in (atT_in hi) rfl)) (hts _ (gwd 16 rfl)) (hts _ (gwd 14 rfl)) (hts _ (gwd 15 rfl)) K.1.1.1 hP hD hS (K.2.1.2.1 q9 ys h8) (122 + a9) 1 (gW_int h2) rfl h3 h4 h5 h6 h7 (fun j _ => gbyt_get hby _) (by omega) (by omega) hd kk2
    · cases hs1
  · split at hs1
    · rename_i n i r
      obtain ⟨hz9, e9⟩ : Nat.ble (gcat r) 8 = true ∧ _ := gbt hs1
      obtain ⟨D9, h9, e8⟩ := mp2 e9
      have hz8 := gcat_eq r (gadr z ad)
      cases e8
      have hz7 := Nat.le_of_ble_eq_true hz9
      have h1 : (if ¬ i < 0 ∧ i < n then some () else none) = some D9 := h9
      by_cases q9 : ¬ i < 0 ∧ i < n
      · have hrm1 := hrm.1
        have hrm2 := hrm.2
        refine call_Sv (va_runS (As := [.int i, .int n]) (rest := st'.map (gimg (gadr z ad))) ⟨hx, hb, hml, hown, hts⟩ (j_chk l z i n q9.1 q9.2) ⟨callB_of 2 hts (goodIn_g (fun w hw => by
          rcases List.mem_cons.mp hw with rfl | hw
          · exact gwd 19 rfl
          · exact hw)) rfl rfl rfl (hts _ (gwd 18 rfl)) (hts _ (gtbl_in (atT_in hi) rfl)) (by decide +kernel) ⟨by show 2 + 1 ≤ _; omega, by show 8 + (2 + 11) + 30 * 2 ≤ _; omega⟩, hts _ (gwd 17 rfl)⟩ ⟨fun a U g mk q => ⟨q.1, STR.cal q.2⟩, fun U hU hW => ⟨rfl, ((GK.go hf K hW (by rw [hU]; exact hS)).1.wt hf.sub).2.2.2.2.2.2.2⟩⟩ rfl rfl hl.1 rfl (by show 2 * 0 + _ ≤ 8; omega) hd ⟨by omega, by omega⟩) (kk ad H locs ls hag hP hD hS hq hl)
      · rw [if_neg q9] at h1
        cases h1
    · cases hs1
  · cases hs1
theorem gCln_inv {D D' : gDS} {r : gRF} {key : Nat} (h : gCln D r key = some D') : ∃ i, r = some (.inl i) ∧ ((∃ xs, D.1[i]? = some (.inr (.inl (key, xs))) ∧ D' = gNew D (.inr (.inl (key, xs))) xs.length) ∨ (key = 6 ∧ ∃ xs, D.1[i]? = some (.inr (.inr (.inr (6, xs)))) ∧ D' = gNew D (.inr (.inr (.inr (6, xs)))) xs.length)) := by
  unfold gCln at h
  split at h
  · split at h
    · rename_i k xs heq
      obtain ⟨hc, hh⟩ := bic h
      clear h
      cases hh
      obtain rfl : k = key := Nat.eq_of_beq_eq_true hc
      exact ⟨_, rfl, Or.inl ⟨xs, heq, rfl⟩⟩
    · rename_i k xs heq
      obtain ⟨hc, hh⟩ := bic h
      clear h
      cases hh
      obtain ⟨h1, h2⟩ := and2 hc
      obtain rfl : key = 6 := Nat.eq_of_beq_eq_true h2
      obtain rfl : k = 6 := Nat.eq_of_beq_eq_true h1
      exact ⟨_, rfl, Or.inr ⟨rfl, xs, heq, rfl⟩⟩
    · cases h
  · cases h
theorem gs_clone {x0 i key t0 : Nat} {r : List gPV} {ty : FieldType} {t9 : gDT} {x : vp_A} (ht9 : key = 1 ∨ key = 2 ∨ key = 6) (hlk : Cond.methodLink (gownN (gclO k)) x0 (cloneY (gclk key)) ∈ gtbl)
    (C : GX k p s m args c) (K : GK z L xs s) (hf : GF z) (hR : 10 ≤ R.frames ∧ 200 ≤ R.locals) (hd : decode (gccO k) pc = .ok (.invokevirtual x0, 3)) (hg : ∀ ad, gEnc z ad t9 = .inl (z.2.1 key, (x.1, (match gEnc z ad t9 with
      | .inl y => y.2.2
      | .inr _ => x.2)))) (hDi : S.2.1[i]? = some t9) (htt : (tyL z)[t0]? = some (z.2.1 key, ty)) (hfit : ∀ (ad : Nat → Nat) (y : vp_A), gEnc z ad t9 = .inl (z.2.1 key, y) → ∀ (cA : ClassId) (j : Nat) (v : Value), (vp_cell cA y).slots[j]? = some v → fits ty v = true) (hra : ∀ c : ClassId, va_RA s c ty → s.vm.findClass (gclk key) = some c)
    (hz7 : gcat r ≤ 8) (hv : gvD S.2 = true) (hlv : lv.all (gvo S.2.1.length) = true) (hst : r.all (gvv S.2.1.length) = true) (hn : n0 ≤ S.2.1.length) (hcs : c0 ≤ S.2.2.1 ∧ s0 ≤ S.2.2.2) (hrm : S.2.2.1 + 1 - c0 ≤ R.cells ∧ S.2.2.2 + x.1 - s0 ≤ R.slots)
    (kk : gGoal p l e R s m args below meth c Q z k L xs n0 ad0 c0 s0 (pc + 3) lv (.inr (.inr (gTop S.2)) :: r) (S.1, gNew S.2 t9 x.1)) : gGoal p l e R s m args below meth c Q z k L xs n0 ad0 c0 s0 pc lv (.inr (.inr (some (.inl i))) :: r) S := by
  obtain ⟨hx, hb, hml, hown, hts⟩ := C
  intro ad H locs ls hag hP hD hS hq hl
  obtain ⟨hw1, hw2⟩ := gclW_in ht9
  have hz8 := gcat_eq r (gadr z ad)
  have hget : (gW z S.1 ad S.2.1)[122 + i]? = some (ad i, gEnc z ad t9) := gW_get hDi
  have hE := hg ad
  generalize hy : (match gEnc z ad t9 with
      | .inl y => y.2.2
      | .inr _ => x.2) = y9 at hE
  rw [hE] at hget
  refine va_clone (x := (x.1, y9)) hx hb (by rw [hml, hl.1]) hown (hts _ hlk) (hts _ (hw1 _ List.mem_cons_self)) (hts _ (gwd 20 rfl)) (hts _ (gwd 21 rfl)) (hts _ (hw1 _ (List.mem_cons_of_mem _ List.mem_cons_self))) (K.1.2.2.2.1 _ hw2 rfl) K.1.1.1 hP hD hS (fun q hq => Nat.le_trans K.2.2.1 hq) (122 + i) t0 hget htt (gclk_nm K ht9) (fun j v hj => hfit ad (x.1, y9) hE _ j v hj) (by omega) (by omega) (by omega) (by show S.2.2.2 - s0 + x.1 ≤ _; omega) hd ?_
  intro q H1 hK hP1 hD1 hS1
  refine gs_more hv hlv hst hn hcs rfl ?_ kk hag hP1 hD1 hS1 hq hl
  rw [gEnc_ag (n := S.2.1.length) (fun i hi => va_up_ne ad q (Nat.ne_of_lt hi)) (vthing hv hDi)]
  exact hE
theorem gfit_rf (r : Option Nat) : fits (.array .int) (va_rf r) = true := by cases r <;> rfl
theorem gs_invokevirtual {x0 : Nat} (C : GX k p s m args c) (K : GK z L xs s) (hf : GF z) (hR : 10 ≤ R.frames ∧ 200 ≤ R.locals) (hm : (gmiOf k).1 pc = some ((.invokevirtual x0), nx, a, b, t, v, w)) (hs : gstep ((.invokevirtual x0), nx, a, b, t, v, w) lv st S = some (pc', lv', st', S')) (hi9 : gInv S.2 lv st) (hn : n0 ≤ S.2.1.length) (hcs : c0 ≤ S.2.2.1 ∧ s0 ≤ S.2.2.2) (hrm : S'.2.2.1 - c0 ≤ R.cells ∧ S'.2.2.2 - s0 ≤ R.slots) 
    (kk : gGoal p l e R s m args below meth c Q z k L xs n0 ad0 c0 s0 pc' lv' st' S') : gGoal p l e R s m args below meth c Q z k L xs n0 ad0 c0 s0 pc lv st S := by
  obtain ⟨hx, hb, hml, hown, hts⟩ := C
  obtain ⟨hd, rfl, hi⟩ := chk3 (A := decode (gccO k) pc = .ok ((.invokevirtual x0), glen ((.invokevirtual x0)))) (n := nx) (m := pc + glen ((.invokevirtual x0))) (B := Nat.blt (gpx ((.invokevirtual x0))) 2000 && gchI k pc ((.invokevirtual x0)) a b t v w) (gchE_at hm)
  obtain ⟨hx0, hi⟩ := and2 hi
  have hx0 : gpx ((.invokevirtual x0)) < 2000 := blt_of hx0
  intro ad H locs ls hag hP hD hS hq hl
  have hs1 : (match (generalizing := false) t with
    | 130 => match (generalizing := false) st with
      | .inr (.inr o) :: r => (match (generalizing := false) Nat.ble (gcat r) 8 with
        | true => (gCln S.2 o a).map fun D => ((pc + glen ((.invokevirtual x0))), lv, .inr (.inr (gTop S.2)) :: r, (S.1, D))
        | false => none)
      | _ => none
    | _ => none) = some (pc', lv', st', S') := hs
  split at hs1
  · have hi1 : ((Nat.beq a 1 || Nat.beq a 2 || Nat.beq a 6) && atT (gpP (2000 * gclO k + x0)) (.methodLink (gownN (gclO k)) x0 (cloneY (gclk a)))) = true := hi
    obtain ⟨j1, j2⟩ := and2 hi1
    have ht9 : a = 1 ∨ a = 2 ∨ a = 6 := by
      rw [Bool.or_eq_true, Bool.or_eq_true] at j1
      rcases j1 with (j1 | j1) | j1
      · exact Or.inl (Nat.eq_of_beq_eq_true j1)
      · exact Or.inr (Or.inl (Nat.eq_of_beq_eq_true j1))
      · exact Or.inr (Or.inr (Nat.eq_of_beq_eq_true j1))
    split at hs1
    · rename_i o r
      obtain ⟨hz9, e9⟩ : Nat.ble (gcat r) 8 = true ∧ _ := gbt hs1
      obtain ⟨D9, h9, e8⟩ := mp2 e9
      cases e8
      have hz7 := Nat.le_of_ble_eq_true hz9
      obtain ⟨i, rfl, h7⟩ := gCln_inv h9
      rcases h7 with ⟨ys, h8, rfl⟩ | ⟨rfl, ys, h8, rfl⟩
      · rcases gvt_i (vthing hi9.1 h8) with rfl | ⟨rfl, hby⟩
        · exact gs_clone (x := (ys.length, .inl fun _ => 0)) (key := 1) (t0 := 0) (ty := .int) ht9 (gtbl_in (atT_in j2) rfl) ⟨hx, hb, hml, hown, hts⟩ K hf hR hd (fun _ => rfl) h8 rfl (fun ad y hy cA j v hj => by cases hy; exact va_fit (fun i _ => rfl) j v hj) (fun c h => va_nm_int h) hz7 hi9.1 hi9.2.1 (va1 hi9.2.2).2 hn hcs hrm kk ad H locs ls hag hP hD hS hq hl
        · exact gs_clone (x := (ys.length, .inl fun _ => 0)) (key := 2) (t0 := 1) (ty := .byte) ht9 (gtbl_in (atT_in j2) rfl) ⟨hx, hb, hml, hown, hts⟩ K hf hR hd (fun _ => rfl) h8 rfl (fun ad y hy cA j v hj => by cases hy; exact va_fit (fun i _ => gbyt_get hby i) j v hj) (fun c h => va_nm_byte h) hz7 hi9.1 hi9.2.1 (va1 hi9.2.2).2 hn hcs hrm kk ad H locs ls hag hP hD hS hq hl
      · exact gs_clone (x := (ys.length, .inl fun _ => 0)) (key := 6) (t0 := 6) (ty := (.array .int)) ht9 (gtbl_in (atT_in j2) rfl) ⟨hx, hb, hml, hown, hts⟩ K hf hR hd (fun _ => rfl) h8 rfl (fun ad y hy cA j v hj => by cases hy; exact va_fit (fun i _ => gfit_rf _) j v hj) (fun c h => by rw [← show "[" ++ (FieldType.array .int).toString = gclk 6 by decide]; exact h) hz7 hi9.1 hi9.2.1 (va1 hi9.2.2).2 hn hcs hrm kk ad H locs ls hag hP hD hS hq hl
    · cases hs1
  · cases hs1
theorem gs_tableswitch {dd lo hi8 : Int} {offs : Array Int} (C : GX k p s m args c) (K : GK z L xs s) (hf : GF z) (hR : 10 ≤ R.frames ∧ 200 ≤ R.locals) (hm : (gmiOf k).1 pc = some (.tableswitch dd lo hi8 offs, nx, a, b, t, v, w)) (hs : gstep (.tableswitch dd lo hi8 offs, nx, a, b, t, v, w) lv st S = some (pc', lv', st', S'))
    (kk : gGoal p l e R s m args below meth c Q z k L xs n0 ad0 c0 s0 pc' lv' st' S') : gGoal p l e R s m args below meth c Q z k L xs n0 ad0 c0 s0 pc lv st S := by
  obtain ⟨hx, hb, hml, hown, hts⟩ := C
  have hk9 : (decide (decode (gccO k) pc = .ok (.tableswitch dd lo hi8 offs, nx - pc)) && decide ((pc : Int) + dd = (a : Int)) && Nat.beq b pc && offs.all (fun o => decide (0 ≤ (pc : Int) + o))) = true := gchE_at hm
  simp only [Bool.and_eq_true, decide_eq_true_eq] at hk9
  obtain ⟨⟨⟨hd, ha⟩, hbp⟩, hof⟩ := hk9
  obtain rfl : b = pc := Nat.eq_of_beq_eq_true hbp
  intro ad H locs ls hag hP hD hS hq hl
  have hs1 : (match (generalizing := false) st with
    | .inl x :: r => if x.toInt < lo ∨ hi8 < x.toInt then some (a, lv, r, S) else
      match offs[(x.toInt - lo).toNat]? with
      | some off => some (((b : Int) + off).toNat, lv, r, S)
      | none => none
    | _ => none) = some (pc', lv', st', S') := hs
  split at hs1
  · rename_i x r
    by_cases q : x.toInt < lo ∨ hi8 < x.toInt
    · rw [if_pos q] at hs1
      cases hs1
      exact lv_tableOut hx hb hd q ha (kk ad H locs ls hag hP hD hS hq hl)
    · rw [if_neg q] at hs1
      split at hs1
      · rename_i off heq
        cases hs1
        have h0 : 0 ≤ (b : Int) + off := by
          have := Array.all_eq_true'.mp hof off (Array.mem_of_getElem? heq)
          exact of_decide_eq_true this
        refine lv_tableIn (tgt := ((b : Int) + off).toNat) hx hb hd (fun q1 => q (Or.inl q1)) (fun q1 => q (Or.inr q1)) heq (by omega) (kk ad H locs ls hag hP hD hS hq hl)
      · cases hs1
  · cases hs1
theorem gno_arr {at9 : ArrayType} (hm : (gmiOf k).1 pc = some (.newarray at9, nx, a, b, t, v, w)) : (match (generalizing := false) at9 with
    | .int => true
    | .byte => true
    | .long => true
    | _ => false) = true := by
  have h9 := (chk3 (A := decode (gccO k) pc = .ok (.newarray at9, glen (.newarray at9))) (n := nx) (m := pc + glen (.newarray at9)) (B := Nat.blt (gpx (.newarray at9)) 2000 && gchI k pc (.newarray at9) a b t v w) (gchE_at hm)).2.2
  have h8 := (and2 h9).2
  cases at9 <;> first | rfl | cases h8
theorem gno_mna {x n : Nat} (hm : (gmiOf k).1 pc = some (.multianewarray x n, nx, a, b, t, v, w)) : n = 2 := by
  have h9 := (chk3 (A := decode (gccO k) pc = .ok (.multianewarray x n, glen (.multianewarray x n))) (n := nx) (m := pc + glen (.multianewarray x n)) (B := Nat.blt (gpx (.multianewarray x n)) 2000 && gchI k pc (.multianewarray x n) a b t v w) (gchE_at hm)).2.2
  exact Nat.eq_of_beq_eq_true (and2 (and2 h9).2).1
theorem gstep_ok {e0 : PE} (C : GX k p s m args c) (K : GK z L xs s) (hf : GF z) (hR : 10 ≤ R.frames ∧ 200 ≤ R.locals) (hL : L ≤ 3072) (hmn : meth.name = (gyO k).name) (hm : (gmiOf k).1 pc = some e0) (hs : gstep e0 lv st S = some (pc', lv', st', S')) (hi9 : gInv S.2 lv st) (hn : n0 ≤ S.2.1.length) (hcs : c0 ≤ S.2.2.1 ∧ s0 ≤ S.2.2.2) (hrm : S'.2.2.1 - c0 ≤ R.cells ∧ S'.2.2.2 - s0 ≤ R.slots)
    (kk : gGoal p l e R s m args below meth c Q z k L xs n0 ad0 c0 s0 pc' lv' st' S') : gGoal p l e R s m args below meth c Q z k L xs n0 ad0 c0 s0 pc lv st S := by
  obtain ⟨i, nx, a, b, t, v, w⟩ := e0
  cases i with
  | iadd => exact gs_iadd C K hf hR hm hs hi9 hn hcs hrm kk
  | isub => exact gs_isub C K hf hR hm hs hi9 hn hcs hrm kk
  | imul => exact gs_imul C K hf hR hm hs hi9 hn hcs hrm kk
  | iand => exact gs_iand C K hf hR hm hs hi9 hn hcs hrm kk
  | ior => exact gs_ior C K hf hR hm hs hi9 hn hcs hrm kk
  | ixor => exact gs_ixor C K hf hR hm hs hi9 hn hcs hrm kk
  | ishl => exact gs_ishl C K hf hR hm hs hi9 hn hcs hrm kk
  | ishr => exact gs_ishr C K hf hR hm hs hi9 hn hcs hrm kk
  | ladd => exact gs_ladd C K hf hR hm hs hi9 hn hcs hrm kk
  | lsub => exact gs_lsub C K hf hR hm hs hi9 hn hcs hrm kk
  | lmul => exact gs_lmul C K hf hR hm hs hi9 hn hcs hrm kk
  | ineg => exact gs_ineg C K hf hR hm hs hi9 hn hcs hrm kk
  | iushr => exact gs_iushr C K hf hR hm hs hi9 hn hcs hrm kk
  | idiv => exact gs_idiv C K hf hR hm hs hi9 hn hcs hrm kk
  | irem => exact gs_irem C K hf hR hm hs hi9 hn hcs hrm kk
  | ldiv => exact gs_ldiv C K hf hR hm hs hi9 hn hcs hrm kk
  | lcmp => exact gs_lcmp C K hf hR hm hs hi9 hn hcs hrm kk
  | i2l => exact gs_i2l C K hf hR hm hs hi9 hn hcs hrm kk
  | l2i => exact gs_l2i C K hf hR hm hs hi9 hn hcs hrm kk
  | i2c => exact gs_i2c C K hf hR hm hs hi9 hn hcs hrm kk
  | dup => exact gs_dup C K hf hR hm hs hi9 hn hcs hrm kk
  | dup2 => exact gs_dup2 C K hf hR hm hs hi9 hn hcs hrm kk
  | pop => exact gs_pop C K hf hR hm hs hi9 hn hcs hrm kk
  | baload => exact gs_baload C K hf hR hm hs hi9 hn hcs hrm kk
  | laload => exact gs_laload C K hf hR hm hs hi9 hn hcs hrm kk
  | aaload => exact gs_aaload C K hf hR hm hs hi9 hn hcs hrm kk
  | iastore => exact gs_iastore C K hf hR hm hs hi9 hn hcs hrm kk
  | bastore => exact gs_bastore C K hf hR hm hs hi9 hn hcs hrm kk
  | lastore => exact gs_lastore C K hf hR hm hs hi9 hn hcs hrm kk
  | aastore => exact gs_aastore C K hf hR hm hs hi9 hn hcs hrm kk
  | arraylength => exact gs_arraylength C K hf hR hm hs hi9 hn hcs hrm kk
  | iaload => exact gs_iaload C K hf hR hm hs hi9 hn hcs hrm hL kk
  | aconst_null => exact gs_null C K hf hR hm hs hi9 hn hcs hrm kk
  | goto _ => exact gs_goto C K hf hR hm hs hi9 hn hcs hrm kk
  | ifnull _ => exact gs_ifnull C K hf hR hm hs hi9 hn hcs hrm kk
  | ifnonnull _ => exact gs_ifnonnull C K hf hR hm hs hi9 hn hcs hrm kk
  | iconst _ => exact gs_iconst C K hf hR hm hs hi9 hn hcs hrm kk
  | bipush _ => exact gs_bipush C K hf hR hm hs hi9 hn hcs hrm kk
  | sipush _ => exact gs_sipush C K hf hR hm hs hi9 hn hcs hrm kk
  | lconst _ => exact gs_lconst C K hf hR hm hs hi9 hn hcs hrm kk
  | iload _ => exact gs_iload C K hf hR hm hs hi9 hn hcs hrm kk
  | lload _ => exact gs_lload C K hf hR hm hs hi9 hn hcs hrm kk
  | aload _ => exact gs_aload C K hf hR hm hs hi9 hn hcs hrm kk
  | iload_n _ => exact gs_iload_n C K hf hR hm hs hi9 hn hcs hrm kk
  | lload_n _ => exact gs_lload_n C K hf hR hm hs hi9 hn hcs hrm kk
  | aload_n _ => exact gs_aload_n C K hf hR hm hs hi9 hn hcs hrm kk
  | istore _ => exact gs_istore C K hf hR hm hs hi9 hn hcs hrm kk
  | lstore _ => exact gs_lstore C K hf hR hm hs hi9 hn hcs hrm kk
  | astore _ => exact gs_astore C K hf hR hm hs hi9 hn hcs hrm kk
  | istore_n _ => exact gs_istore_n C K hf hR hm hs hi9 hn hcs hrm kk
  | lstore_n _ => exact gs_lstore_n C K hf hR hm hs hi9 hn hcs hrm kk
  | astore_n _ => exact gs_astore_n C K hf hR hm hs hi9 hn hcs hrm kk
  | ldc _ => exact gs_ldc C K hf hR hm hs hi9 hn hcs hrm kk
  | ldc_w _ => exact gs_ldc_w C K hf hR hm hs hi9 hn hcs hrm kk
  | ldc2_w _ => exact gs_ldc2_w C K hf hR hm hs hi9 hn hcs hrm kk
  | getfield _ => exact gs_getfield C K hf hR hm hs hi9 hn hcs hrm kk
  | getstatic _ => exact gs_getstatic C K hf hR hm hs hi9 hn hcs hrm kk
  | new _ => exact gs_new C K hf hR hm hs hi9 hn hcs hrm kk
  | anewarray _ => exact gs_anewarray C K hf hR hm hs hi9 hn hcs hrm kk
  | checkcast _ => exact gs_checkcast C K hf hR hm hs hi9 hn hcs hrm kk
  | invokespecial _ => exact gs_invokespecial C K hf hR hm hs hi9 hn hcs hrm kk
  | invokestatic _ => exact gs_invokestatic C K hf hR hm hs hi9 hn hcs hrm kk
  | invokevirtual _ => exact gs_invokevirtual C K hf hR hm hs hi9 hn hcs hrm kk
  | iinc _ _ => exact gs_iinc C K hf hR hm hs hi9 hn hcs hrm kk
  | putfield _ => exact gs_putfield C K hf hR hm hs hi9 hn hcs hrm hmn kk
  | tableswitch _ _ _ _ => exact gs_tableswitch C K hf hR hm hs kk
  | ifCond cnd _ =>
    cases cnd with
    | eq => exact gs_if_eq C K hf hR hm hs hi9 hn hcs hrm kk
    | ne => exact gs_if_ne C K hf hR hm hs hi9 hn hcs hrm kk
    | lt => exact gs_if_lt C K hf hR hm hs hi9 hn hcs hrm kk
    | ge => exact gs_if_ge C K hf hR hm hs hi9 hn hcs hrm kk
    | gt => exact gs_if_gt C K hf hR hm hs hi9 hn hcs hrm kk
    | le => exact gs_if_le C K hf hR hm hs hi9 hn hcs hrm kk
  | if_icmp cnd _ =>
    cases cnd with
    | eq => exact gs_icmp_eq C K hf hR hm hs hi9 hn hcs hrm kk
    | ne => exact gs_icmp_ne C K hf hR hm hs hi9 hn hcs hrm kk
    | lt => exact gs_icmp_lt C K hf hR hm hs hi9 hn hcs hrm kk
    | ge => exact gs_icmp_ge C K hf hR hm hs hi9 hn hcs hrm kk
    | gt => exact gs_icmp_gt C K hf hR hm hs hi9 hn hcs hrm kk
    | le => exact gs_icmp_le C K hf hR hm hs hi9 hn hcs hrm kk
  | newarray ty =>
    cases ty with
    | int => exact gs_newarray_int C K hf hR hm hs hi9 hn hcs hrm kk
    | byte => exact gs_newarray_byte C K hf hR hm hs hi9 hn hcs hrm kk
    | long => exact gs_newarray_long C K hf hR hm hs hi9 hn hcs hrm kk
    | _ => exact absurd (gno_arr hm) (by decide)
  | multianewarray x n =>
    obtain rfl : n = 2 := gno_mna hm
    exact gs_mna C K hf hR hm hs hi9 hn hcs hrm kk
  | _ => exact nomatch (show (none : gR) = some _ from hs)
end GST3
