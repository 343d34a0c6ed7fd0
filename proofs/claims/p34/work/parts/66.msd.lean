/-! THE MAKER'S THINGS IN THE HEAP -/
def mCell (ad : Nat → Nat) (vs : List Value) (j : Nat) : Option Nat := match vs[j]? with
  | some (.ref a) => some (ad a)
  | _ => none
def mEnc (cA : Nat → Nat) (ad : Nat → Nat) (t : MT) : va_E := match t with
  | (0, ci, vs) => .inr (ci, vs.map (img ad))
  | (1, n, _) => .inl (cA 1, n, .inl fun _ => 0)
  | (2, n, _) => .inl (cA 2, n, .inl fun _ => 0)
  | (3, n, _) => .inl (cA 3, n, .inl fun _ => 0)
  | (4, n, _) => .inl (cA 4, n, .inr (.inl fun _ => 0))
  | (t, n, vs) => .inl (cA t, n, .inr (.inr (.inr (.inr (mCell ad vs)))))
def mkW (cA ad : Nat → Nat) (M : List MT) : va_W := M.zipIdx.map fun p => (ad p.2, mEnc cA ad p.1)
theorem mkW_get {cA ad : Nat → Nat} {M : List MT} {i : Nat} : (mkW cA ad M)[i]? = M[i]?.map fun t => (ad i, mEnc cA ad t) := by
  unfold mkW
  rw [List.getElem?_map, List.getElem?_zipIdx]
  cases M[i]? with
  | none => rfl
  | some t => simp
theorem mkW_len {cA ad : Nat → Nat} {M : List MT} : (mkW cA ad M).length = M.length := by
  unfold mkW
  rw [List.length_map, List.length_zipIdx]
theorem img_ag {ad ad' : Nat → Nat} {n : Nat} (h : ∀ i, i < n → ad' i = ad i) {v : Value} (hv : mRf n v = true) : img ad' v = img ad v := by
  cases v with
  | ref a => exact congrArg Value.ref (h a (Nat.le_of_ble_eq_true hv))
  | _ => rfl
theorem mEnc_ag {cA ad ad' : Nat → Nat} {n : Nat} (h : ∀ i, i < n → ad' i = ad i) {t : MT} (ht : t.2.2.all (mRf n) = true) : mEnc cA ad' t = mEnc cA ad t := by
  obtain ⟨k, c, vs⟩ := t
  have h1 : vs.map (img ad') = vs.map (img ad) := List.map_congr_left fun v hv => img_ag h (List.all_eq_true.mp ht v hv)
  have h2 : mCell ad' vs = mCell ad vs := by
    funext j
    unfold mCell
    cases hj : vs[j]? with
    | none => rfl
    | some v =>
      cases v with
      | ref a => exact congrArg some (h a (Nat.le_of_ble_eq_true (List.all_eq_true.mp ht _ (List.mem_of_getElem? hj))))
      | _ => rfl
  unfold mEnc
  split <;> first | rfl | (rename_i e; cases e; rw [h1]) | (rename_i e; cases e; rw [h2])
theorem mkW_ag {cA ad ad' : Nat → Nat} {M : List MT} (h : ∀ i, i < M.length → ad' i = ad i) (hM : mOk M = true) : mkW cA ad' M = mkW cA ad M := by
  apply List.ext_getElem?
  intro i
  rw [mkW_get, mkW_get]
  cases hi : M[i]? with
  | none => rfl
  | some t =>
    have hl := (List.getElem?_eq_some_iff.mp hi).1
    show some (ad' i, mEnc cA ad' t) = some (ad i, mEnc cA ad t)
    rw [h i hl, mEnc_ag h (List.all_eq_true.mp hM t (List.mem_of_getElem? hi))]
theorem mkW_app {cA ad : Nat → Nat} {M : List MT} {t : MT} {q : Nat} (hM : mOk M = true) : mkW cA (va_up ad M.length q) (M ++ [t]) = mkW cA ad M ++ [(q, mEnc cA (va_up ad M.length q) t)] := by
  have h1 : mkW cA (va_up ad M.length q) (M ++ [t]) = mkW cA (va_up ad M.length q) M ++ [(q, mEnc cA (va_up ad M.length q) t)] := by
    unfold mkW
    rw [List.zipIdx_append, List.map_append]
    simp [va_up_self]
  rw [h1, mkW_ag (fun i hi => va_up_ne ad q (Nat.ne_of_lt hi)) hM]
theorem mkW_set {cA ad : Nat → Nat} {M : List MT} {t : MT} {i : Nat} : mkW cA ad (M.set i t) = (mkW cA ad M).set i (ad i, mEnc cA ad t) := by
  apply List.ext_getElem?
  intro j
  rw [mkW_get]
  by_cases e : i = j
  · subst e
    by_cases hl : i < M.length
    · rw [List.getElem?_set_self hl, List.getElem?_set_self (by rw [mkW_len]; exact hl)]
      rfl
    · rw [List.getElem?_eq_none (by rw [List.length_set]; omega), List.getElem?_eq_none (by rw [List.length_set, mkW_len]; omega)]
      rfl
  · rw [List.getElem?_set_ne e, List.getElem?_set_ne e, mkW_get]
