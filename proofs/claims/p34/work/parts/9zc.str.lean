/-! STRINGS AND THEIR BUILDERS -/
def tB (D : gDS) (i : Nat) (xs : List Int32) : Prop := D.1[i]? = some (.inr (.inl (2, xs)))
theorem tB_lt {D : gDS} {i : Nat} {xs : List Int32} (h : tB D i xs) : i < D.1.length := (List.getElem?_eq_some_iff.mp h).1
theorem gE.tB {W : Nat → Prop} {A B : gDS} {i : Nat} {xs : List Int32} (h : gE W A B) (hw : ¬ W i) (t : tB A i xs) : tB B i xs := (h.2 i (tB_lt t) hw).trans t
theorem gInt_b {D : gDS} {i : Nat} {xs : List Int32} (h : tB D i xs) : gInt D (rf i) 2 = some xs := by
  show (match D.1[i]? with
    | some (.inr (.inl (k', xs))) => bif Nat.beq k' 2 then some xs else none
    | _ => none) = _
  rw [show D.1[i]? = _ from h]
  rfl
theorem gLen_b {D : gDS} {i : Nat} {xs : List Int32} (h : tB D i xs) : gLen D (rf i) = some (nI xs.length) := by
  show (match D.1[i]? with
    | some (.inr (.inl (_, xs))) => some (Int32.ofNat xs.length)
    | some (.inr (.inr (.inl xs))) => some (Int32.ofNat xs.length)
    | some (.inr (.inr (.inr (_, xs)))) => some (Int32.ofNat xs.length)
    | _ => none) = _
  rw [show D.1[i]? = _ from h]
  rfl
theorem gIst_b {D : gDS} {i : Nat} {xs : List Int32} {a : Nat} {v : Int32} (h : tB D i xs) (ha : a < xs.length) (hb : a < 2 ^ 31) : gIst D (rf i) 2 (nI a) v = some (gSet D i (.inr (.inl (2, xs.set a v)))) := by
  show (match D.1[i]? with
    | some (.inr (.inl (k', xs))) => bif Nat.beq k' 2 then (aidx xs.length (nI a)).bind fun j => some (gSet D i (.inr (.inl (k', xs.set j v)))) else none
    | _ => none) = _
  rw [show D.1[i]? = _ from h]
  show ((aidx xs.length (nI a)).bind fun j => some (gSet D i (.inr (.inl (2, xs.set j v))))) = _
  rw [aidx_in hb ha, Option.bind_some]
theorem gNwB_n {D : gDS} {n : Nat} (h : n ≤ 100000) : gNwI D 2 (nI n) = some (gNew D (.inr (.inl (2, List.replicate n 0))) n) := by
  unfold gNwI
  rw [gCnt_n h]
  rfl
theorem gCln_b {D : gDS} {i : Nat} {xs : List Int32} (h : tB D i xs) : gCln D (rf i) 2 = some (gNew D (.inr (.inl (2, xs))) xs.length) := by
  show (match D.1[i]? with
    | some (.inr (.inl (k, xs))) => bif Nat.beq k 2 then some (gNew D (.inr (.inl (k, xs))) xs.length) else none
    | some (.inr (.inr (.inr (k, xs)))) => bif Nat.beq k 2 && Nat.beq 2 6 then some (gNew D (.inr (.inr (.inr (k, xs)))) xs.length) else none
    | _ => none) = _
  rw [show D.1[i]? = _ from h]
  rfl
theorem gIsA_b {D : gDS} {i : Nat} {xs : List Int32} (h : tB D i xs) : gIsA D (rf i) 2 = some () := by
  show (match D.1[i]? with
    | some (.inr (.inl (k, _))) => bif Nat.beq k 2 then some () else none
    | some (.inr (.inr (.inr (k, _)))) => bif Nat.beq k 2 && Nat.beq 2 6 then some () else none
    | _ => none) = _
  rw [show D.1[i]? = _ from h]
  rfl
/-- bytes copied from the front of src to a place of dst -/
theorem gCpB_t {D : gDS} {src : gRF} {a dp n : Nat} {xs ys : List Int32} (hs : gInt D src 2 = some xs) (hd : tB D a ys) (hn : n ≤ xs.length) (hm : dp + n ≤ ys.length) (hne : ¬ src = rf a) (hb : ys.length < 2 ^ 31) (hb2 : xs.length < 2 ^ 31) : gCpB D src (0 : Int32) (rf a) (nI dp) (nI n) = some (gSet D a (.inr (.inl (2, ys.take dp ++ (xs.take n ++ ys.drop (dp + n)))))) := by
  unfold gCpB
  rw [hs, Option.bind_some]
  show (match D.1[a]? with
    | some (.inr (.inl (k, ys))) => if Nat.beq k 2 = true ∧ ¬ (0 : Int32) < 0 ∧ ¬ nI dp < 0 ∧ ¬ nI n < 0 ∧ (0 : Int32).toNatClampNeg + (nI n).toNatClampNeg ≤ xs.length ∧ (nI dp).toNatClampNeg + (nI n).toNatClampNeg ≤ ys.length ∧ ¬ src = rf a then
        some (gSet D a (.inr (.inl (2, ys.take (nI dp).toNatClampNeg ++ ((xs.drop (0 : Int32).toNatClampNeg).take (nI n).toNatClampNeg ++ ys.drop ((nI dp).toNatClampNeg + (nI n).toNatClampNeg)))))) else none
    | _ => none) = _
  rw [show D.1[a]? = _ from hd]
  show (if Nat.beq 2 2 = true ∧ ¬ (0 : Int32) < 0 ∧ ¬ nI dp < 0 ∧ ¬ nI n < 0 ∧ (0 : Int32).toNatClampNeg + (nI n).toNatClampNeg ≤ xs.length ∧ (nI dp).toNatClampNeg + (nI n).toNatClampNeg ≤ ys.length ∧ ¬ src = rf a then _ else none) = _
  rw [nI_clamp (by omega), nI_clamp (by omega), show (0 : Int32).toNatClampNeg = 0 from rfl, if_pos ⟨rfl, by decide, nI_pos (by omega), nI_pos (by omega), by omega, hm, hne⟩, List.drop_zero]
/-- a String with its bytes -/
def SS (D : gDS) (r : gRF) (xs : List Int32) : Prop := (∃ i a v2 v3, r = rf i ∧ tO D i 11 [.inr (.inr (rf a)), .inl 0, v2, v3] ∧ tB D a xs) ∨ ∃ j, j < 16 ∧ r = some (.inr (10 + 2 * j)) ∧ xs = gStrB j
theorem SS.ext {W : Nat → Prop} {A B : gDS} {r : gRF} {xs : List Int32} (h : SS A r xs) (x : gE W A B) (hw : ∀ i, i < A.1.length → W i → kt A i ≠ 111 ∧ kt A i ≠ 12) : SS B r xs := by
  rcases h with ⟨i, a, v2, v3, h1, h2, h3⟩ | h
  · refine Or.inl ⟨i, a, v2, v3, h1, x.tO (fun q => (hw i (tO_lt h2) q).1 (tO.tg h2)) h2, x.tB (fun q => (hw a (tB_lt h3) q).2 ?_) h3⟩
    unfold kt
    rw [show A.1[a]? = _ from h3]
  · exact Or.inr h
/-- what its methods read -/
theorem SS.rd {D : gDS} {r : gRF} {xs : List Int32} (h : SS D r xs) : gRv D r 11 = some () ∧ gFi D r 11 1 = some 0 ∧ ∃ a, gFr D r 11 0 = some a ∧ gInt D a 2 = some xs ∧ gLen D a = some (nI xs.length) ∧ (∀ i, a = rf i → tB D i xs) := by
  rcases h with ⟨i, a, v2, v3, rfl, h2, h3⟩ | ⟨j, hj, rfl, rfl⟩
  · exact ⟨gRv_t h2, gFi_t h2 (b := 1) rfl, rf a, gFr_t h2 (b := 0) rfl, gInt_b h3, gLen_b h3, fun i q => by cases q; exact h3⟩
  · have hk : gkS (10 + 2 * j) = true := by
      unfold gkS
      have e1 : Nat.ble 10 (10 + 2 * j) = true := Nat.ble_eq_true_of_le (by omega)
      have e2 : Nat.blt (10 + 2 * j) 42 = true := Nat.ble_eq_true_of_le (by omega)
      have e3 : Nat.beq ((10 + 2 * j) % 2) 0 = true := by
        rw [show (10 + 2 * j) % 2 = 0 by omega]
        rfl
      rw [e1, e2, e3]
      rfl
    have hB : gkB (10 + 2 * j + 1) = some (gStrB j) := by
      unfold gkB
      have e1 : Nat.beq (10 + 2 * j + 1) 3 = false := by
        rw [← Bool.not_eq_true, Nat.beq_eq]
        omega
      have e2 : Nat.beq (10 + 2 * j + 1) 4 = false := by
        rw [← Bool.not_eq_true, Nat.beq_eq]
        omega
      have e3 : Nat.blt (10 + 2 * j + 1) 11 = false := by
        rw [← Bool.not_eq_true]
        intro q
        have := Nat.le_of_ble_eq_true q
        omega
      rw [e1, e2, e3, Nat.add_sub_cancel, hk, show (10 + 2 * j + 1 - 11) / 2 = j by omega]
      rfl
    refine ⟨?_, ?_, some (.inr (10 + 2 * j + 1)), ?_, ?_, ?_, fun i q => by cases q⟩
    · unfold gRv gCls
      show (match (bif gkS (10 + 2 * j) then some 11 else none : Option Nat) with
        | some c => bif Nat.beq c 11 then some () else none
        | none => none) = _
      rw [hk]
      rfl
    · unfold gFi gFld
      show (match gkF (10 + 2 * j) 11 1 with
        | some (.inl x) => some x
        | _ => none) = _
      unfold gkF
      rw [hk]
      rfl
    · unfold gFr gFld
      show (match gkF (10 + 2 * j) 11 0 with
        | some (.inr (.inr x)) => some x
        | _ => none) = _
      unfold gkF
      rw [hk]
      rfl
    · show (bif Nat.beq 2 2 then gkB (10 + 2 * j + 1) else none) = _
      rw [hB]
      rfl
    · show (match gkB (10 + 2 * j + 1) with
        | some xs => some (Int32.ofNat xs.length)
        | none => none) = _
      rw [hB]
      rfl
section STR
variable {D : gDS} {r : gRF} {xs : List Int32}
theorem s_coder (h : SS D r xs) : F_J0_coder_7d493 D r = some (0 : Int32) := by
  obtain ⟨h1, h2, a, h3, h4, h5, h6⟩ := h.rd
  unfold F_J0_coder_7d493
  rw [h1, Option.bind_some, h2, Option.bind_some]
  rfl
theorem shr_0 (x : Int32) : x >>> ((0 : Int32) &&& 31) = x := by
  have : ∀ y : BitVec 32, y.sshiftRight ((0 : BitVec 32) &&& 31).toNat = y := fun y => by simp
  exact Int32.toBitVec_inj.mp (by simp)
theorem shl_0 (x : Int32) : x <<< ((0 : Int32) &&& 31) = x := Int32.toBitVec_inj.mp (by simp)
theorem s_length (h : SS D r xs) : F_J0_length_8abf5 D r = some (nI xs.length) := by
  have hc := s_coder h
  obtain ⟨h1, h2, a, h3, h4, h5, h6⟩ := h.rd
  unfold F_J0_length_8abf5
  rw [h1, Option.bind_some, h3, Option.bind_some, h5, Option.bind_some, hc, Option.bind_some, shr_0]
theorem s_charAt {k : Nat} {c : Nat} (h : SS D r xs) (hk : xs[k]? = some (nI c)) (hc : c < 128) (hl : xs.length < 2 ^ 30) : F_J0_charAt_5068e D r (nI k) = some (nI c) := by
  have hkl : k < xs.length := (List.getElem?_eq_some_iff.mp hk).1
  obtain ⟨h1, h2, a, h3, h4, h5, h6⟩ := h.rd
  have z1 : ¬ (1 : Int32) = 0 := by decide
  have e1 : gIld D a 2 (nI k) = some (nI c) := by
    unfold gIld
    rw [h4, Option.bind_some, aidx_in (by omega) hkl, Option.bind_some, List.getD_eq_getElem?_getD, hk]
    rfl
  have e2 : gChk (nI k) (nI xs.length) = some () := by
    unfold gChk
    rw [if_pos ⟨nI_pos (by omega), nI_lt hkl (by omega)⟩]
  have e3 : ∀ c, c < 128 → (vp_nar .char (nI c &&& (255 : Int32))) = nI c ∧ vp_nar .char (nI c) = nI c := by decide +kernel
  obtain ⟨e4, e5⟩ := e3 c hc
  have e6 : gNar 5 (nI c) = some (nI c) := by
    show (if vp_nar .char (nI c) = nI c then some (nI c) else none) = _
    rw [if_pos e5]
  unfold F_J0_charAt_5068e F_J0_isLatin1_aae02
  rw [h1, Option.bind_some, Option.bind_some, h2, Option.bind_some, if_neg (fun z => z rfl), Option.bind_some, if_neg z1, h3, Option.bind_some]
  unfold F_J1_charAt_3b067
  rw [h5, Option.bind_some, e2, Option.bind_some, e1, Option.bind_some, e4, e6, Option.bind_some, Option.bind_some, e6, Option.bind_some]
end STR
