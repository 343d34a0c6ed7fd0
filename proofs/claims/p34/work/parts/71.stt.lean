/-! FROM THE LAW'S ENTRY TO ITS LOOP: the things are made, and are the layout's -/
theorem mMade_of {x : PL × List MT × Nat × Nat} (h : mLaw = some x) : mMade = x.2.1 := by
  unfold mMade
  rw [h]
theorem mLaw_eq : mLaw = some ([some (.ref 0)], mMade, 121, 4760) := by
  have h1 := mT_9
  cases h : mLaw with
  | none => rw [h] at h1; cases h1
  | some x =>
    have h3 := mMade_of h
    obtain ⟨lv, M, c, s⟩ := x
    rw [h] at h1
    simp only [Option.map_some, Option.some.injEq, Prod.mk.injEq] at h1
    obtain ⟨h2, -, rfl, rfl⟩ := h1
    rw [h3, h2]
theorem mMade_len : mMade.length = 122 := by
  have h1 := mT_9
  rw [mLaw_eq] at h1
  simp only [Option.map_some, Option.some.injEq, Prod.mk.injEq] at h1
  exact h1.2.1
theorem mPi_all : (List.range 122).all (fun i => Nat.blt (mPi i) 122 && decide (mMade[mPi i]? = mWant i)) = true := by decide +kernel
theorem mPi_at {i : Nat} (hi : i < 122) : mPi i < 122 ∧ mMade[mPi i]? = mWant i := by
  have h := List.all_eq_true.mp mPi_all i (List.mem_range.mpr hi)
  rw [Bool.and_eq_true, decide_eq_true_eq] at h
  exact ⟨blt_of h.1, h.2⟩
theorem mPi_1 {i j : Nat} (hi : i < 122) (hj : j < 122) (e : mPi i = mPi j) : i = j := by
  have h := List.all_eq_true.mp (List.all_eq_true.mp mPi_inj i (List.mem_range.mpr hi)) j (List.mem_range.mpr hj)
  rw [Bool.or_eq_true] at h
  rcases h with h | h
  · exact Nat.eq_of_beq_eq_true h
  · rw [e, Nat.beq_refl] at h
    cases h
/-- the fields of the layout are few, and refer to what is made -/
def layOK (i : Nat) : Bool := match layF i with
  | (0, _, fs) => Nat.ble fs.length 20 && fs.all (fun x => match x with
    | some r => Nat.blt r 122
    | none => true)
  | (5, n, [some q, some d]) => (List.range n).all fun j => Nat.blt (q + d * j) 122
  | (6, n, [some q, some d]) => (List.range n).all fun j => Nat.blt (q + d * j) 122
  | (_, _, _) => !(Nat.beq i 1) && !(Nat.beq i 122)
theorem layOK_all : (List.range 122).all layOK = true := by decide +kernel
def hIni (L : Nat) (xs : Nat → Int32) : PH := (fun i k => if i = 167 then xs k else if i = 168 then (if k = 0 then nI L else 0) else mH0 i k, fun _ _ => 0)
def zAt (D : va_G) (cA ad' adS : Nat → Nat) (b sz : Nat) : PP := (D, cA, fun i => if i < 122 then ad' (mPi i) else adS i, sz)
theorem hIni_1 {L : Nat} {xs : Nat → Int32} {i : Nat} (hi : i < 122) (k : Nat) : (hIni L xs).1 i k = mH0 i k := by
  show (if i = 167 then xs k else if i = 168 then (if k = 0 then nI L else 0) else mH0 i k) = _
  rw [if_neg (by omega), if_neg (by omega)]
theorem hIni_0 {L : Nat} {xs : Nat → Int32} {i : Nat} (hi : i < 122) (h1 : i ≠ 1) : (hIni L xs).1 i = fun _ => 0 := by
  funext k
  rw [hIni_1 hi]
  unfold mH0
  rw [if_neg (fun q => h1 q.1), if_neg (fun q => h1 q.1)]
theorem hIni_scr {L : Nat} {xs : Nat → Int32} : scr L xs (hIni L xs) := ⟨fun j => rfl, rfl⟩
theorem mH_at {i k : Nat} (hi : i < 122) (hk : k < 20) : mH i k = mH0 i k := of_decide_eq_true (List.all_eq_true.mp (List.all_eq_true.mp mH_ok i (List.mem_range.mpr hi)) k (List.mem_range.mpr hk))
theorem flds_mFs {D : va_G} {cA ad' adS : Nat → Nat} {b sz L : Nat} {xs : Nat → Int32} {i : Nat} (hi : i < 122) : ∀ (fs : List (Option Nat)) (k : Nat), k + fs.length ≤ 20 → fs.all (fun x => match x with
    | some r => Nat.blt r 122
    | none => true) = true → flds (zAt D cA ad' adS b sz).2.2.1 ((hIni L xs).1 i) fs k = (mFs i fs k).map (img ad')
  | [], _, _, _ => rfl
  | none :: t, k, h1, h2 => by
    rw [List.length_cons] at h1
    have h3 := flds_mFs (D := D) (cA := cA) (ad' := ad') (adS := adS) (b := b) (sz := sz) (L := L) (xs := xs) hi t (k + 1) (by omega) (and2 h2).2
    show Value.int ((hIni L xs).1 i k) :: _ = Value.int (mH i k) :: _
    rw [h3, hIni_1 hi, mH_at hi (by omega)]
  | some r :: t, k, h1, h2 => by
    rw [List.length_cons] at h1
    have h3 := flds_mFs (D := D) (cA := cA) (ad' := ad') (adS := adS) (b := b) (sz := sz) (L := L) (xs := xs) hi t (k + 1) (by omega) (and2 h2).2
    have hr : r < 122 := blt_of (and2 h2).1
    show Value.ref (if r < 122 then ad' (mPi r) else _) :: _ = Value.ref (ad' (mPi r)) :: _
    rw [h3, if_pos hr]
theorem arrV_ag {c : ClassId} {N : Nat} {f g : Nat → Value} (h : ∀ j, j < N → f j = g j) : arrV c N f = arrV c N g := by
  unfold arrV
  congr 1
  exact congrArg Array.ofFn (funext fun j => h j.val j.isLt)
theorem made_P {D : va_G} {cA ad' adS : Nat → Nat} {b sz L : Nat} {xs : Nat → Int32} {H : Heap} (hP : va_P D vwCl (mkW cA ad' mMade) H) : va_P D vwCl (wd (zAt D cA ad' adS b sz) (hIni L xs)) H := by
  intro k q hq
  have hk : k < 122 := by
    have := (List.getElem?_eq_some_iff.mp hq).1
    rw [wd_len] at this
    exact this
  rw [wd_get hk] at hq
  cases hq
  obtain ⟨m1, m2⟩ := mPi_at hk
  have hza : (zAt D cA ad' adS b sz).2.2.1 k = ad' (mPi k) := if_pos hk
  have hok := List.all_eq_true.mp layOK_all k (List.mem_range.mpr hk)
  have hg : ∀ t, mWant k = some t → va_at D vwCl (ad' (mPi k), mEnc cA ad' t) H := fun t ht => hP (mPi k) _ (by rw [mkW_get, m2, ht]; rfl)
  have hsome : ∃ t, mWant k = some t := by
    rw [← m2]
    exact ⟨_, List.getElem?_eq_getElem (by rw [mMade_len]; exact m1)⟩
  obtain ⟨t, ht⟩ := hsome
  have hg2 := hg t ht
  rw [hza]
  unfold mWant at ht
  unfold layOK at hok
  unfold encE
  split at ht
  · rename_i ci fs heq
    cases ht
    rw [heq] at hok ⊢
    have hok : (Nat.ble fs.length 20 && fs.all (fun x => match x with
      | some r => Nat.blt r 122
      | none => true)) = true := hok
    obtain ⟨o1, o2⟩ := and2 hok
    show va_at D vwCl (ad' (mPi k), .inr (ci, flds (zAt D cA ad' adS b sz).2.2.1 ((hIni L xs).1 k) fs 0)) H
    rw [flds_mFs hk fs 0 (by have := Nat.le_of_ble_eq_true o1; omega) o2]
    exact hg2
  · rename_i n fs heq
    cases ht
    rw [heq] at hok ⊢
    have hok : (!(Nat.beq k 1) && !(Nat.beq k 122)) = true := hok
    simp only [Bool.and_eq_true, Bool.not_eq_true'] at hok
    show va_at D vwCl (ad' (mPi k), .inl (cA 1, n, .inl ((hIni L xs).1 k))) H
    rw [hIni_0 hk (fun q => by rw [q] at hok; cases hok.1)]
    exact hg2
  · rename_i n fs heq
    cases ht
    rw [heq] at hok ⊢
    have hok : (!(Nat.beq k 1) && !(Nat.beq k 122)) = true := hok
    simp only [Bool.and_eq_true, Bool.not_eq_true'] at hok
    show va_at D vwCl (ad' (mPi k), .inl (cA 2, n, .inl ((hIni L xs).1 k))) H
    rw [hIni_0 hk (fun q => by rw [q] at hok; cases hok.1)]
    exact hg2
  · rename_i n fs heq
    cases ht
    rw [heq] at hok ⊢
    have hok : (!(Nat.beq k 1) && !(Nat.beq k 122)) = true := hok
    simp only [Bool.and_eq_true, Bool.not_eq_true'] at hok
    show va_at D vwCl (ad' (mPi k), .inl (cA 3, n, .inl ((hIni L xs).1 k))) H
    rw [hIni_0 hk (fun q => by rw [q] at hok; cases hok.1)]
    exact hg2
  · rename_i n fs heq
    cases ht
    rw [heq]
    exact hg2
  · rename_i n q d heq
    cases ht
    rw [heq] at hok ⊢
    have hok : ((List.range n).all fun j => Nat.blt (q + d * j) 122) = true := hok
    have hcase : q = 34 ∨ q = 90 := lay_5 heq
    have key : ∀ c : ClassId, vp_cell c (n, .inr (.inr (.inr (.inr (fun j => some ((zAt D cA ad' adS b sz).2.2.1 (q + d * j))))))) = vp_cell c (n, .inr (.inr (.inr (.inr (mCell ad' ((List.range n).map fun j => .ref (mPi (q + d * j)))))))) := by
      intro c
      rw [vp_cell_q, vp_cell_q]
      refine arrV_ag fun j hj => ?_
      have h1 := blt_of (List.all_eq_true.mp hok j (List.mem_range.mpr hj))
      unfold mCell
      rw [List.getElem?_map, List.getElem?_range hj]
      show va_rf (some (if q + d * j < 122 then ad' (mPi (q + d * j)) else _)) = va_rf (some (ad' (mPi (q + d * j))))
      rw [if_pos h1]
    show H[ad' (mPi k)]? = some (vp_cell (cA q) (n, .inr (.inr (.inr (.inr (fun j => some ((zAt D cA ad' adS b sz).2.2.1 (q + d * j))))))))
    rw [key]
    rcases hcase with rfl | rfl <;> exact hg2
  · rename_i n q d heq
    cases ht
    rw [heq] at hok ⊢
    have hok : ((List.range n).all fun j => Nat.blt (q + d * j) 122) = true := hok
    have key : ∀ c : ClassId, vp_cell c (n, .inr (.inr (.inr (.inr (fun j => some ((zAt D cA ad' adS b sz).2.2.1 (q + d * j))))))) = vp_cell c (n, .inr (.inr (.inr (.inr (mCell ad' ((List.range n).map fun j => .ref (mPi (q + d * j)))))))) := by
      intro c
      rw [vp_cell_q, vp_cell_q]
      refine arrV_ag fun j hj => ?_
      have h1 := blt_of (List.all_eq_true.mp hok j (List.mem_range.mpr hj))
      unfold mCell
      rw [List.getElem?_map, List.getElem?_range hj]
      show va_rf (some (if q + d * j < 122 then ad' (mPi (q + d * j)) else _)) = va_rf (some (ad' (mPi (q + d * j))))
      rw [if_pos h1]
    show H[ad' (mPi k)]? = some (vp_cell (cA 6) (n, .inr (.inr (.inr (.inr (fun j => some ((zAt D cA ad' adS b sz).2.2.1 (q + d * j))))))))
    rw [key]
    exact hg2
  · cases ht
theorem made_GF {D : va_G} {cA ad' adS : Nat → Nat} {b sz : Nat} (hD : va_D (fun q => sz ≤ q) (mkW cA ad' mMade)) (hb : b < sz) (h1 : adS 167 = b) (h2 : adS 2005 = b) : GF (zAt D cA ad' adS b sz) := by
  have hget : ∀ i, i < 122 → ∃ e, (mkW cA ad' mMade)[mPi i]? = some (ad' (mPi i), e) := fun i hi => by
    have hl : mPi i < mMade.length := by rw [mMade_len]; exact (mPi_at hi).1
    exact ⟨_, by rw [mkW_get, List.getElem?_eq_getElem hl]; rfl⟩
  have hz : ∀ i, i < 122 → (zAt D cA ad' adS b sz).2.2.1 i = ad' (mPi i) := fun i hi => if_pos hi
  refine ⟨fun i hi => ?_, fun i j hi hj e => ?_, ?_, ?_⟩
  · rw [hz i hi]
    obtain ⟨e, he⟩ := hget i hi
    exact hD.2 _ _ he
  · rw [hz i hi, hz j hj] at e
    obtain ⟨e1, h1⟩ := hget i hi
    obtain ⟨e2, h2⟩ := hget j hj
    exact mPi_1 hi hj (hD.1 _ _ _ _ h1 h2 e)
  · have e : (zAt D cA ad' adS b sz).2.2.1 167 = b := h1
    show ¬ sz ≤ (zAt D cA ad' adS b sz).2.2.1 167
    rw [e]
    omega
  · exact h2.trans h1.symm
