/-! THE SECOND MACHINE'S THINGS, READ AND CHANGED: things by their numbers -/
abbrev rf (i : Nat) : gRF := some (.inl i)
def tI (D : gDS) (i : Nat) (xs : List Int32) : Prop := D.1[i]? = some (.inr (.inl (1, xs)))
def tQ (D : gDS) (i : Nat) (rs : List gRF) : Prop := D.1[i]? = some (.inr (.inr (.inr (6, rs))))
def tO (D : gDS) (i c : Nat) (vs : List gPV) : Prop := D.1[i]? = some (.inl (c, vs))
theorem tI_lt {D : gDS} {i : Nat} {xs : List Int32} (h : tI D i xs) : i < D.1.length := (List.getElem?_eq_some_iff.mp h).1
theorem tQ_lt {D : gDS} {i : Nat} {xs : List gRF} (h : tQ D i xs) : i < D.1.length := (List.getElem?_eq_some_iff.mp h).1
theorem tO_lt {D : gDS} {i c : Nat} {vs : List gPV} (h : tO D i c vs) : i < D.1.length := (List.getElem?_eq_some_iff.mp h).1
section RD
variable {D : gDS} {i : Nat}
theorem gInt_t {xs : List Int32} (h : tI D i xs) : gInt D (rf i) 1 = some xs := by
  show (match D.1[i]? with
    | some (.inr (.inl (k', xs))) => bif Nat.beq k' 1 then some xs else none
    | _ => none) = _
  rw [show D.1[i]? = _ from h]
  rfl
theorem gIld_t {xs : List Int32} {a : Nat} (h : tI D i xs) (ha : a < xs.length) (hb : a < 2 ^ 31) : gIld D (rf i) 1 (nI a) = some (xs.getD a 0) := by
  unfold gIld
  rw [gInt_t h, Option.bind_some, aidx_in hb ha, Option.bind_some]
theorem gLen_t {xs : List Int32} (h : tI D i xs) : gLen D (rf i) = some (nI xs.length) := by
  show (match D.1[i]? with
    | some (.inr (.inl (_, xs))) => some (Int32.ofNat xs.length)
    | some (.inr (.inr (.inl xs))) => some (Int32.ofNat xs.length)
    | some (.inr (.inr (.inr (_, xs)))) => some (Int32.ofNat xs.length)
    | _ => none) = _
  rw [show D.1[i]? = _ from h]
  rfl
theorem gLen_q {rs : List gRF} (h : tQ D i rs) : gLen D (rf i) = some (nI rs.length) := by
  show (match D.1[i]? with
    | some (.inr (.inl (_, xs))) => some (Int32.ofNat xs.length)
    | some (.inr (.inr (.inl xs))) => some (Int32.ofNat xs.length)
    | some (.inr (.inr (.inr (_, xs)))) => some (Int32.ofNat xs.length)
    | _ => none) = _
  rw [show D.1[i]? = _ from h]
  rfl
theorem gQs_t {rs : List gRF} (h : tQ D i rs) : gQs D (rf i) = some (6, rs) := by
  show (match D.1[i]? with
    | some (.inr (.inr (.inr p))) => some p
    | _ => none) = _
  rw [show D.1[i]? = _ from h]
theorem gQld_t {rs : List gRF} {a : Nat} {r : gRF} (h : tQ D i rs) (ha : rs[a]? = some r) (hb : a < 2 ^ 31) : gQld D (rf i) (nI a) = some r := by
  unfold gQld
  have hl := (List.getElem?_eq_some_iff.mp ha).1
  rw [gQs_t h, Option.bind_some, aidx_in hb hl, Option.bind_some, List.getD_eq_getElem?_getD, ha]
  rfl
theorem gFld_t {c b : Nat} {vs : List gPV} (h : tO D i c vs) : gFld D (rf i) c b = vs[b]? := by
  show (match D.1[i]? with
    | some (.inl (cj, vs)) => bif Nat.beq cj c then vs[b]? else none
    | _ => none) = _
  rw [show D.1[i]? = _ from h]
  show (bif Nat.beq c c then vs[b]? else none) = _
  rw [Nat.beq_refl]
  rfl
theorem gFi_t {c b : Nat} {vs : List gPV} {x : Int32} (h : tO D i c vs) (hb : vs[b]? = some (.inl x)) : gFi D (rf i) c b = some x := by
  unfold gFi
  rw [gFld_t h, hb]
theorem gFr_t {c b : Nat} {vs : List gPV} {x : gRF} (h : tO D i c vs) (hb : vs[b]? = some (.inr (.inr x))) : gFr D (rf i) c b = some x := by
  unfold gFr
  rw [gFld_t h, hb]
theorem gRv_t {c : Nat} {vs : List gPV} (h : tO D i c vs) : gRv D (rf i) c = some () := by
  unfold gRv gCls
  show (match (match D.1[i]? with
    | some (.inl (cj, _)) => some cj
    | _ => none) with
    | some c9 => bif Nat.beq c9 c then some () else none
    | none => none) = _
  rw [show D.1[i]? = _ from h]
  show (bif Nat.beq c c then some () else none) = _
  rw [Nat.beq_refl]
  rfl
theorem gFst_t {c b : Nat} {vs : List gPV} {v : gPV} (h : tO D i c vs) (hb : b < vs.length) : gFst D (rf i) c b v = some (gSet D i (.inl (c, vs.set b v))) := by
  show (match D.1[i]? with
    | some (.inl (cj, vs)) => bif Nat.beq cj c && Nat.blt b vs.length then some (gSet D i (.inl (cj, vs.set b v))) else none
    | _ => none) = _
  rw [show D.1[i]? = _ from h]
  show (bif Nat.beq c c && Nat.blt b vs.length then some _ else none) = _
  rw [Nat.beq_refl, show Nat.blt b vs.length = true from Nat.ble_eq_true_of_le hb]
  rfl
theorem gIst_t {xs : List Int32} {a : Nat} {v : Int32} (h : tI D i xs) (ha : a < xs.length) (hb : a < 2 ^ 31) : gIst D (rf i) 1 (nI a) v = some (gSet D i (.inr (.inl (1, xs.set a v)))) := by
  show (match D.1[i]? with
    | some (.inr (.inl (k', xs))) => bif Nat.beq k' 1 then (aidx xs.length (nI a)).bind fun j => some (gSet D i (.inr (.inl (k', xs.set j v)))) else none
    | _ => none) = _
  rw [show D.1[i]? = _ from h]
  show ((aidx xs.length (nI a)).bind fun j => some (gSet D i (.inr (.inl (1, xs.set j v))))) = _
  rw [aidx_in hb ha, Option.bind_some]
theorem gQst_t {rs : List gRF} {a j : Nat} {ys : List Int32} (h : tQ D i rs) (ha : a < rs.length) (hb : a < 2 ^ 31) (hj : tI D j ys) : gQst D (rf i) (nI a) (rf j) = some (gSet D i (.inr (.inr (.inr (6, rs.set a (rf j)))))) := by
  show (match D.1[i]? with
    | some (.inr (.inr (.inr (key, xs)))) => bif gFit D key (rf j) then (aidx xs.length (nI a)).bind fun k => some (gSet D i (.inr (.inr (.inr (key, xs.set k (rf j)))))) else none
    | _ => none) = _
  rw [show D.1[i]? = _ from h]
  have hf : gFit D 6 (rf j) = true := by
    show (match D.1[j]? with
      | some (.inl (c, _)) => Nat.beq 6 41 && Nat.beq c 8
      | some (.inr (.inl (k, _))) => Nat.beq 6 6 && Nat.beq k 1
      | _ => false) = true
    rw [show D.1[j]? = _ from hj]
    rfl
  show (bif gFit D 6 (rf j) then (aidx rs.length (nI a)).bind fun k => some (gSet D i (.inr (.inr (.inr (6, rs.set k (rf j)))))) else none) = _
  rw [hf, aidx_in hb ha]
  rfl
end RD
/-! what is kept -/
/-- D' has all of D's things but those of W unchanged -/
def gE (W : Nat → Prop) (D D' : gDS) : Prop := D.1.length ≤ D'.1.length ∧ ∀ i, i < D.1.length → ¬ W i → D'.1[i]? = D.1[i]?
/-- cells and slots made -/
def gMd (a b : Nat) (D D' : gDS) : Prop := D'.2.1 ≤ D.2.1 + a ∧ D'.2.2 ≤ D.2.2 + b
def noW : Nat → Prop := fun _ => False
theorem gE.rf {W : Nat → Prop} (D : gDS) : gE W D D := ⟨Nat.le_refl _, fun _ _ _ => rfl⟩
theorem gE.tr {W : Nat → Prop} {A B C : gDS} (h : gE W A B) (k : gE W B C) : gE W A C := ⟨Nat.le_trans h.1 k.1, fun i hi hw => (k.2 i (Nat.lt_of_lt_of_le hi h.1) hw).trans (h.2 i hi hw)⟩
theorem gE.mono {W W' : Nat → Prop} {A B : gDS} (h : gE W A B) (hw : ∀ i, i < A.1.length → W i → W' i) : gE W' A B := ⟨h.1, fun i hi q => h.2 i hi (fun z => q (hw i hi z))⟩
theorem gE.tI {W : Nat → Prop} {A B : gDS} {i : Nat} {xs : List Int32} (h : gE W A B) (hw : ¬ W i) (t : tI A i xs) : tI B i xs := (h.2 i (tI_lt t) hw).trans t
theorem gE.tQ {W : Nat → Prop} {A B : gDS} {i : Nat} {xs : List gRF} (h : gE W A B) (hw : ¬ W i) (t : tQ A i xs) : tQ B i xs := (h.2 i (tQ_lt t) hw).trans t
theorem gE.tO {W : Nat → Prop} {A B : gDS} {i c : Nat} {vs : List gPV} (h : gE W A B) (hw : ¬ W i) (t : tO A i c vs) : tO B i c vs := (h.2 i (tO_lt t) hw).trans t
theorem gMd.rf (D : gDS) : gMd 0 0 D D := ⟨Nat.le_refl _, Nat.le_refl _⟩
theorem gMd.tr {a b a' b' : Nat} {A B C : gDS} (h : gMd a b A B) (k : gMd a' b' B C) : gMd (a + a') (b + b') A C := ⟨by have := h.1; have := k.1; omega, by have := h.2; have := k.2; omega⟩
theorem gMd.mono {a b a' b' : Nat} {A B : gDS} (h : gMd a b A B) (h1 : a ≤ a') (h2 : b ≤ b') : gMd a' b' A B := ⟨by have := h.1; omega, by have := h.2; omega⟩
/-- a thing changed -/
theorem gSet_E {W : Nat → Prop} {D : gDS} {i : Nat} {t : gDT} (hw : W i ∨ D.1.length ≤ i) : gE W D (gSet D i t) := by
  refine ⟨Nat.le_of_eq (List.length_set ..).symm, fun j hj q => ?_⟩
  show (D.1.set i t)[j]? = _
  refine List.getElem?_set_ne fun e => ?_
  rcases hw with hw | hw
  · exact q (e ▸ hw)
  · omega
theorem gSet_M {D : gDS} {i : Nat} {t : gDT} : gMd 0 0 D (gSet D i t) := ⟨Nat.le_refl _, Nat.le_refl _⟩
theorem gSet_at {D : gDS} {i : Nat} {t : gDT} (hi : i < D.1.length) : (gSet D i t).1[i]? = some t := List.getElem?_set_self hi
theorem gSet_ne {D : gDS} {i j : Nat} {t : gDT} (h : i ≠ j) : (gSet D i t).1[j]? = D.1[j]? := List.getElem?_set_ne h
theorem gSet_len {D : gDS} {i : Nat} {t : gDT} : (gSet D i t).1.length = D.1.length := List.length_set ..
/-- a thing made -/
theorem gNew_E {W : Nat → Prop} {D : gDS} {t : gDT} {n : Nat} : gE W D (gNew D t n) := by
  refine ⟨?_, fun j hj q => List.getElem?_append_left hj⟩
  show D.1.length ≤ (D.1 ++ [t]).length
  rw [List.length_append]
  omega
theorem gNew_M {D : gDS} {t : gDT} {n : Nat} : gMd 1 n D (gNew D t n) := ⟨Nat.le_refl _, Nat.le_refl _⟩
theorem gNew_at {D : gDS} {t : gDT} {n : Nat} : (gNew D t n).1[D.1.length]? = some t := by
  show (D.1 ++ [t])[D.1.length]? = _
  rw [List.getElem?_append_right (Nat.le_refl _), Nat.sub_self]
  rfl
theorem gNew_len {D : gDS} {t : gDT} {n : Nat} : (gNew D t n).1.length = D.1.length + 1 := by
  show (D.1 ++ [t]).length = _
  rw [List.length_append]
  rfl
theorem gCnt_n {n : Nat} (h : n ≤ 100000) : gCnt (nI n) = some n := by
  unfold gCnt
  have h1 : (nI n).toNatClampNeg = n := nI_clamp (by omega)
  have h0 : (0 : Int32) ≤ nI n := by
    rw [Int32.le_iff_toInt_le, nI_toInt (by omega)]
    exact Int.natCast_nonneg n
  rw [h1, if_pos ⟨h0, h⟩]
theorem gNwI_n {D : gDS} {n : Nat} (h : n ≤ 100000) : gNwI D 1 (nI n) = some (gNew D (.inr (.inl (1, List.replicate n 0))) n) := by
  unfold gNwI
  rw [gCnt_n h]
  rfl
