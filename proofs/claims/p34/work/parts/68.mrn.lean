/-! THE MAKER'S STEPS THAT MAKE AND WRITE; its run -/
section MSU
variable {p : Program} {l : Launch} {e : Env} {R : Room} {s : State} {m : MethodId} {args : Array Value} {below : List Frame} {meth : Method} {c : Code} {Q : State → Prop} {cells slots : Nat}
variable {z : PP} {nL ci pc n0 : Nat} {ad0 : Nat → Nat} {lv : PL} {st : List Value} {M : List MT}
/-- a thing more, at a new address -/
theorem ms_more {t : MT} {va : va_E} {f0 : Nat} (hM : mOk M = true) (hl : M.length < 167) (hL : mOkL lv st M.length = true) (hn0 : n0 ≤ M.length) {ad : Nat → Nat} {q : Nat} {H1 : Heap} {locs : List Loc} {ls : Array Slot} {cells' slots' : Nat}
    (hE : mEnc z.2.1 (va_up ad M.length q) t = va)
    (kk : MGoal p l e R s m args below meth c cells' slots' Q z nL n0 ad0 f0 lv (.ref M.length :: st) (M ++ [t])) (h0 : ∀ i, i < n0 ∨ i = 167 → ad i = ad0 i)
    (hP : va_P z.1 vwCl (mkW z.2.1 ad M ++ [(q, va)]) H1) (hD : va_D (AB z) (mkW z.2.1 ad M ++ [(q, va)])) (hS : va_S (AB z) s.heap H1 locs) (h4 : LH ad ls nL lv) :
    W p l e R s m args below meth c H1 locs cells' slots' Q (F0 m f0 ls (.ref q :: st.map (img ad))) := by
  have hag : ∀ i, i < M.length ∨ i = 167 → va_up ad M.length q i = ad i := fun i hi => va_up_ne ad q (by omega)
  have hw : mkW z.2.1 (va_up ad M.length q) (M ++ [t]) = mkW z.2.1 ad M ++ [(q, va)] := by rw [mkW_app hM, hE]
  have h5 := kk (va_up ad M.length q) H1 locs ls (fun i hi => (hag i (by omega)).trans (h0 i hi)) (by rw [hw]; exact hP) (by rw [hw]; exact hD) hS (LH_ag hag h4 (fun i v hv => mOkL_lv hL hv))
  have e : (Value.ref M.length :: st).map (img (va_up ad M.length q)) = .ref q :: st.map (img ad) := by
    rw [List.map_cons, st_ag hag (fun v hv => mOkL_st hL hv)]
    exact congrArg (fun y => Value.ref y :: st.map (img ad)) (va_up_self ad M.length q)
  rw [e] at h5
  exact h5
theorem ms_newa {t : ArrayType} {ty : FieldType} {key t0 N : Nat} {n : Int32} {a0 : vp_A} (hty : newarray.typeOf t = ty) (htt : (tyL z)[t0]? = some (z.2.1 key, ty)) (hra : ∀ (c : ClassId), va_RA s c ty → s.vm.findClass ("[" ++ ty.toString) = some c)
    (hE : ∀ ad, mEnc z.2.1 ad (key, N, []) = .inl (z.2.1 key, a0)) (ha : ∀ cA, vp_cell cA a0 = arrV cA N (fun _ => defaultValue ty)) (hw : Cond.arrayClass (newarray.typeOf t) ∈ gtbl) (hby : N * componentBytes ty ≤ 536870912)
    (C : MX ci nL p s m args c) (K : MK z s) (hd : decode (mBy ci) pc = .ok (.newarray t, 2)) (hn : 0 ≤ n) (hN : n.toNatClampNeg = N) (hM : mOk M = true) (hl : M.length < 167) (hL : mOkL lv (.int n :: st) M.length = true) (hn0 : n0 ≤ M.length) (hc : cells + 1 ≤ R.cells) (hs : slots + N ≤ R.slots)
    (kk : MGoal p l e R s m args below meth c (cells + 1) (slots + N) Q z nL n0 ad0 (pc + 2) lv (.ref M.length :: st) (M ++ [(key, N, [])])) : MGoal p l e R s m args below meth c cells slots Q z nL n0 ad0 pc lv (.int n :: st) M := by
  intro ad H locs ls h0 h1 h2 h3 h4
  have hL2 : mOkL lv st M.length = true := by
    unfold mOkL at hL ⊢
    rw [List.all_cons, Bool.and_eq_true, Bool.and_eq_true] at hL
    rw [hL.1.2, hL.2]
    rfl
  have hn1 : ¬ n < 0 := fun q => by
    rw [Int32.lt_iff_toInt_lt] at q
    have := Int32.le_iff_toInt_le.mp hn
    omega
  refine va_newa C.1 C.2.1 (C.2.2.2.2 _ hw) hty K.1 h1 h2 h3 (fun q hq => Nat.le_trans K.2.2.1 hq) (a0 := a0) ha hn1 hN hby hc hs hd ?_
  intro q cA H1 hK hP hD hS
  have e1 := hra cA (hK.2 (tyL z).length (cA, ty) (by simp)).2
  have e2 := hra (z.2.1 key) (K.1.2 t0 _ htt).2
  have e3 : cA = z.2.1 key := Option.some.inj (e1.symm.trans e2)
  subst e3
  exact ms_more hM hl hL2 hn0 (hE _) kk h0 hP hD hS h4
theorem ms_newarray {t : ArrayType} {n : Int32} (C : MX ci nL p s m args c) (K : MK z s) (hd : decode (mBy ci) pc = .ok (.newarray t, 2)) (hn : 0 ≤ n) (hk : 0 < mKey t) (h2 : n.toNatClampNeg ≤ 2000) (hM : mOk M = true) (hl : M.length < 167) (hL : mOkL lv (.int n :: st) M.length = true) (hn0 : n0 ≤ M.length) (hc : cells + 1 ≤ R.cells) (hs : slots + n.toNatClampNeg ≤ R.slots)
    (kk : MGoal p l e R s m args below meth c (cells + 1) (slots + n.toNatClampNeg) Q z nL n0 ad0 (pc + 2) lv (.ref M.length :: st) (M ++ [(mKey t, n.toNatClampNeg, [])])) : MGoal p l e R s m args below meth c cells slots Q z nL n0 ad0 pc lv (.int n :: st) M := by
  cases t with
  | int => exact ms_newa (t := .int) (ty := .int) (key := 1) (t0 := 0) (a0 := (n.toNatClampNeg, .inl fun _ => 0)) rfl rfl (fun c h => h) (fun _ => rfl) (fun _ => rfl) (mOkW_in mw_arr.1) (by show _ * 4 ≤ _; omega) C K hd hn rfl hM hl hL hn0 hc hs kk
  | byte => exact ms_newa (t := .byte) (ty := .byte) (key := 2) (t0 := 1) (a0 := (n.toNatClampNeg, .inl fun _ => 0)) rfl rfl (fun c h => h) (fun _ => rfl) (fun _ => rfl) (mOkW_in mw_arr.2.1) (by show _ * 1 ≤ _; omega) C K hd hn rfl hM hl hL hn0 hc hs kk
  | boolean => exact ms_newa (t := .boolean) (ty := .boolean) (key := 3) (t0 := 2) (a0 := (n.toNatClampNeg, .inl fun _ => 0)) rfl rfl (fun c h => h) (fun _ => rfl) (fun _ => rfl) (mOkW_in mw_arr.2.2.1) (by show _ * 1 ≤ _; omega) C K hd hn rfl hM hl hL hn0 hc hs kk
  | long => exact ms_newa (t := .long) (ty := .long) (key := 4) (t0 := 3) (a0 := (n.toNatClampNeg, .inr (.inl fun _ => 0))) rfl rfl (fun c h => h) (fun _ => rfl) (fun _ => rfl) (mOkW_in mw_arr.2.2.2) (by show _ * 8 ≤ _; omega) C K hd hn rfl hM hl hL hn0 hc hs kk
  | _ => exact absurd hk (Nat.lt_irrefl 0)
theorem ms_anewq {x key t0 cj : Nat} {n : Int32} (C : MX ci nL p s m args c) (K : MK z s) (hci : ci ≤ 9) (hd : decode (mBy ci) pc = .ok (.anewarray x, 3)) (hx : x < 1000) (hn : n = 8) (hq : mNew (1000 * ci + x) = cj) (hcj : cj < 9) (hao : va_AO (fC cj) s) (htt : (tyL z)[t0]? = some (z.2.1 key, .object (fC cj)))
    (hE : ∀ ad, mEnc z.2.1 ad (key, 8, List.replicate 8 .null) = .inl (z.2.1 key, 8, .inr (.inr (.inr (.inr (fun _ => none)))))) (hM : mOk M = true) (hl : M.length < 167) (hL : mOkL lv (.int n :: st) M.length = true) (hn0 : n0 ≤ M.length) (hc : cells + 1 ≤ R.cells) (hs : slots + 8 ≤ R.slots)
    (kk : MGoal p l e R s m args below meth c (cells + 1) (slots + 8) Q z nL n0 ad0 (pc + 3) lv (.ref M.length :: st) (M ++ [(key, 8, List.replicate 8 .null)])) : MGoal p l e R s m args below meth c cells slots Q z nL n0 ad0 pc lv (.int n :: st) M := by
  intro ad H locs ls h0 h1 h2 h3 h4
  have hL2 : mOkL lv st M.length = true := by
    unfold mOkL at hL ⊢
    rw [List.all_cons, Bool.and_eq_true, Bool.and_eq_true] at hL
    rw [hL.1.2, hL.2]
    rfl
  subst hn
  subst hq
  refine va_newq C.1 C.2.1 C.2.2.2.1 (C.2.2.2.2 _ (mNew_at hci hx hcj)) hao K.1 h1 h2 h3 (fun q hq => Nat.le_trans K.2.2.1 hq) (N' := 8) (by decide) rfl (by omega) hc hs hd ?_
  intro q cA H1 hK hP hD hS
  obtain ⟨k1, c1, a1, a2, a3, a4⟩ := (hK.2 (tyL z).length (cA, .object (fC (mNew (1000 * ci + x)))) (by simp)).2
  obtain ⟨k2, c2, b1, b2, b3, b4⟩ := (K.1.2 t0 _ htt).2
  have e3 : cA = z.2.1 key := Option.some.inj (a4.symm.trans b4)
  subst e3
  exact ms_more hM hl hL2 hn0 (hE _) kk h0 hP hD hS h4
theorem mCell_nul (ad : Nat → Nat) : mCell ad (List.replicate 8 .null) = fun _ => none := by
  funext j
  unfold mCell
  rw [List.getElem?_replicate]
  by_cases q : j < 8
  · rw [if_pos q]
  · rw [if_neg q]
/-- where putfield writes -/
theorem ms_put {x a b : Nat} {v : Value} {vs : List Value} (C : MX ci nL p s m args c) (K : MK z s) (hci : ci < 9) (hnm : meth.name = "<init>") (hd : decode (mBy ci) pc = .ok (.putfield x, 3)) (hx : x < 1000) (hf : mFr (1000 * ci + x) = some (ci, b, false)) (ha : M[a]? = some (0, ci, vs)) (hb : b < vs.length) (hfit : fits (fY ci b) v = true) (hnar : narrow (fY ci b) v = v)
    (kk : MGoal p l e R s m args below meth c cells slots Q z nL n0 ad0 (pc + 3) lv st (M.set a (0, ci, vs.set b v))) : MGoal p l e R s m args below meth c cells slots Q z nL n0 ad0 pc lv (v :: .ref a :: st) M := by
  intro ad H locs ls h0 h1 h2 h3 h4
  obtain ⟨w1, hlt, -⟩ := mFr_at hf
  have w2 : Cond.fieldLink (ownN ci) x (fT ci b).1 (fT ci b).2.1 (fT ci b).2.2.1 ∈ lw_tbl := by
    have w3 := w1
    simp only [fW] at w3
    rw [show (1000 * ci + x) / 1000 = ci by omega, show (1000 * ci + x) % 1000 = x by omega] at w3
    exact w3
  have hget : (mkW z.2.1 ad M)[a]? = some (ad a, .inr (ci, vs.map (img ad))) := by
    rw [mkW_get, ha]
    rfl
  have hset : (mkW z.2.1 ad M).set a (ad a, .inr (ci, (vs.map (img ad)).set b (img ad v))) = mkW z.2.1 ad (M.set a (0, ci, vs.set b v)) := by
    rw [mkW_set]
    show _ = (mkW z.2.1 ad M).set a (ad a, .inr (ci, (vs.set b v).map (img ad)))
    rw [List.map_set]
  have hfit2 : fits (fY ci b) (img ad v) = true := by
    rw [← hfit]
    cases v <;> first | rfl | (cases fY ci b <;> rfl)
  have hnar2 : narrow (fY ci b) (img ad v) = img ad v := by
    cases v with
    | ref a => cases fY ci b <;> rfl
    | _ => exact hnar
  have hb2 : b < (vs.map (img ad)).length := by rw [List.length_map]; exact hb
  cases hfin : (fT ci b).2.2.2 with
  | true => exact va_putF C.1 C.2.1 C.2.2.2.2 (usw ci hci) (fY ci) (fY_ok hci) (fM_ok hci) C.2.2.2.1 K.1 h1 h2 h3 a hget (clA hci) b hlt (C.2.2.2.2 _ (gtbl_in w2 rfl)) (fun _ h9 => h9) hfin hnm (mw_decl ci hci b hlt) (fY_ok hci b hlt) hnar2 hfit2 hb2 hd (fun H1 locs1 hP1 hD1 hS1 => kk ad H1 locs1 ls h0 (by rw [hset] at hP1; exact hP1) (by rw [hset] at hD1; exact hD1) hS1 h4)
  | false => exact va_put C.1 C.2.1 C.2.2.2.2 (usw ci hci) (fY ci) (fY_ok hci) (fM_ok hci) C.2.2.2.1 K.1 h1 h2 h3 a hget (clA hci) b hlt (C.2.2.2.2 _ (gtbl_in w2 rfl)) (fun _ h9 => h9) hfin (fY_ok hci b hlt) hnar2 hfit2 hb2 hd (fun H1 locs1 hP1 hD1 hS1 => kk ad H1 locs1 ls h0 (by rw [hset] at hP1; exact hP1) (by rw [hset] at hD1; exact hD1) hS1 h4)
theorem ms_get {x a b cj q : Nat} {nest : Bool} {vs : List Value} (C : MX ci nL p s m args c) (K : MK z s) (hci : ci ≤ 9) (hd : decode (mBy ci) pc = .ok (.getfield x, 3)) (hx : x < 1000) (hf : mFr (1000 * ci + x) = some (cj, b, nest)) (ha : M[a]? = some (0, cj, vs)) (hv : vs[b]? = some (.ref q))
    (kk : MGoal p l e R s m args below meth c cells slots Q z nL n0 ad0 (pc + 3) lv (.ref q :: st) M) : MGoal p l e R s m args below meth c cells slots Q z nL n0 ad0 pc lv (.ref a :: st) M := by
  intro ad H locs ls h0 h1 h2 h3 h4
  obtain ⟨w1, hlt, hcj⟩ := mFr_at hf
  have hget : (mkW z.2.1 ad M)[a]? = some (ad a, .inr (cj, vs.map (img ad))) := by
    rw [mkW_get, ha]
    rfl
  have hv2 : (vs.map (img ad))[b]? = some (.ref (ad q)) := by
    rw [List.getElem?_map, hv]
    rfl
  cases nest with
  | true =>
    simp only [fW] at w1
    rw [show (1000 * ci + x) / 1000 = ci by omega, show (1000 * ci + x) % 1000 = x by omega] at w1
    exact va_getN (host := "WindyTours") C.1 C.2.1 C.2.2.2.2 (usw cj hcj) C.2.2.2.1 K.1 h1 a hget (clA hcj) b hlt (va_Nw.use rfl (K.2.1 _ w1 rfl)) (fun _ h9 => h9) hv2 hd (kk ad H locs ls h0 h1 h2 h3 h4)
  | false =>
    simp only [fW] at w1
    rw [show (1000 * ci + x) / 1000 = ci by omega, show (1000 * ci + x) % 1000 = x by omega] at w1
    exact va_get C.1 C.2.1 C.2.2.2.2 (usw cj hcj) C.2.2.2.1 K.1 h1 a hget (clA hcj) b hlt (C.2.2.2.2 _ (gtbl_in w1 rfl)) (fun _ h9 => h9) hv2 hd (kk ad H locs ls h0 h1 h2 h3 h4)
theorem mCell_set {ad : Nat → Nat} {vs : List Value} {i v : Nat} (hi : i < vs.length) : mCell ad (vs.set i (.ref v)) = va_up (mCell ad vs) i (some (ad v)) := by
  funext j
  by_cases e : j = i
  · subst e
    rw [va_up_self]
    unfold mCell
    rw [List.getElem?_set_self hi]
  · rw [va_up_ne _ _ e]
    unfold mCell
    rw [List.getElem?_set_ne (fun q => e q.symm)]
theorem ms_aast {a v n key t0 cv : Nat} {i : Int32} {vs ws : List Value} (C : MX ci nL p s m args c) (K : MK z s) (hd : decode (mBy ci) pc = .ok (.aastore, 1)) (ha : M[a]? = some (key, n, vs)) (hv : M[v]? = some (0, cv, ws)) (hcv : cv < 9) (htt : (tyL z)[t0]? = some (z.2.1 key, .object (fC cv))) (hE : ∀ (ad : Nat → Nat) (us : List Value), mEnc z.2.1 ad (key, n, us) = .inl (z.2.1 key, n, .inr (.inr (.inr (.inr (mCell ad us))))))
    (hi : 0 ≤ i) (hin : i.toNatClampNeg < n) (hlen : vs.length = n)
    (kk : MGoal p l e R s m args below meth c cells slots Q z nL n0 ad0 (pc + 1) lv st (M.set a (key, n, vs.set i.toNatClampNeg (.ref v)))) : MGoal p l e R s m args below meth c cells slots Q z nL n0 ad0 pc lv (.ref v :: .int i :: .ref a :: st) M := by
  intro ad H locs ls h0 h1 h2 h3 h4
  have hget : (mkW z.2.1 ad M)[a]? = some (ad a, .inl (z.2.1 key, n, .inr (.inr (.inr (.inr (mCell ad vs)))))) := by
    rw [mkW_get, ha]
    exact congrArg (fun y => some (ad a, y)) (hE ad vs)
  have hgv : (mkW z.2.1 ad M)[v]? = some (ad v, .inr (cv, ws.map (img ad))) := by
    rw [mkW_get, hv]
    rfl
  have hset : (mkW z.2.1 ad M).set a (ad a, .inl (z.2.1 key, n, .inr (.inr (.inr (.inr (va_up (mCell ad vs) i.toNatClampNeg (some (ad v)))))))) = mkW z.2.1 ad (M.set a (key, n, vs.set i.toNatClampNeg (.ref v))) := by
    rw [mkW_set, hE, mCell_set (by omega)]
  have hvi : vp_in i n := by
    intro q
    rcases q with q | q
    · rw [Int32.lt_iff_toInt_lt] at q
      have := Int32.le_iff_toInt_le.mp hi
      omega
    · omega
  exact va_astq (r := (fC cv, fT cv, fN cv)) C.1 C.2.1 K.1 h1 h2 h3 a t0 v cv hget htt hgv (clA hcv) hvi hd (fun H1 locs1 hP1 hD1 hS1 => kk ad H1 locs1 ls h0 (by rw [hset] at hP1; exact hP1) (by rw [hset] at hD1; exact hD1) hS1 h4)
theorem ms_objInit {x a : Nat} (C : MX ci nL p s m args c) (hci : ci ≤ 9) (hd : decode (mBy ci) pc = .ok (.invokespecial x, 3)) (hx : x < 1000) (hq : mIni (1000 * ci + x) = 50) (hr : st.length ≤ 8) (hL : mOkL lv (.ref a :: st) M.length = true) (hR : 1 ≤ R.frames ∧ 30 ≤ R.locals)
    (kk : MGoal p l e R s m args below meth c cells slots Q z nL n0 ad0 (pc + 3) lv st M) : MGoal p l e R s m args below meth c cells slots Q z nL n0 ad0 pc lv (.ref a :: st) M := by
  intro ad H locs ls h0 h1 h2 h3 h4
  have hcat : ∀ {t : List Value}, (∀ v ∈ t, mRx M.length v = true) → catz t ≤ t.length := by
    intro t
    induction t with
    | nil => intro _; exact Nat.le_refl 0
    | cons v t ih =>
      intro hv
      have h1 := ih (fun w hw => hv w (List.mem_cons_of_mem _ hw))
      have h2 := hv v List.mem_cons_self
      cases v with
      | ref _ => show 1 + catz t ≤ t.length + 1; omega
      | int _ => show 1 + catz t ≤ t.length + 1; omega
      | _ => cases h2
  have hsum : ((st.map (img ad)).map fun v => v.category).sum ≤ 8 := by
    rw [catz_eq]
    exact Nat.le_trans (hcat (fun v hv => mOkL_st hL (List.mem_cons_of_mem _ hv))) hr
  refine W.objInit C.1 C.2.1 C.2.2.2.1 (C.2.2.2.2 _ (mIni_obj hci hx hq)) (C.2.2.2.2 _ (mOkW_in mw_obj.1)) (C.2.2.2.2 _ (mOkW_in mw_obj.2)) (g := F0 m pc ls (.ref (ad a) :: st.map (img ad))) rfl (show ls.size = c.maxLocals by rw [h4.1, C.2.2.1]) rfl hd hR.1 (by show 2 * 0 + _ + 12 ≤ _; omega) ?_
  exact kk ad H locs ls h0 h1 h2 h3 h4
end MSU
