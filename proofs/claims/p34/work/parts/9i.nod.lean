/-! CITY'S SERVICE TREES -/
def tJ (D : gDS) (i : Nat) (xs : List Int64) : Prop := D.1[i]? = some (.inr (.inr (.inl xs)))
theorem tJ_lt {D : gDS} {i : Nat} {xs : List Int64} (h : tJ D i xs) : i < D.1.length := (List.getElem?_eq_some_iff.mp h).1
theorem gJs_t {D : gDS} {i : Nat} {xs : List Int64} (h : tJ D i xs) : gJs D (rf i) = some xs := by
  show (match D.1[i]? with
    | some (.inr (.inr (.inl xs))) => some xs
    | _ => none) = _
  rw [show D.1[i]? = _ from h]
theorem gJld_t {D : gDS} {i : Nat} {xs : List Int64} {a : Nat} (h : tJ D i xs) (ha : a < xs.length) (hb : a < 2 ^ 31) : gJld D (rf i) (nI a) = some (xs.getD a 0) := by
  unfold gJld
  rw [gJs_t h, Option.bind_some, aidx_in hb ha, Option.bind_some]
theorem gJst_t {D : gDS} {i : Nat} {xs : List Int64} {a : Nat} {v : Int64} (h : tJ D i xs) (ha : a < xs.length) (hb : a < 2 ^ 31) : gJst D (rf i) (nI a) v = some (gSet D i (.inr (.inr (.inl (xs.set a v))))) := by
  show (match D.1[i]? with
    | some (.inr (.inr (.inl xs))) => (aidx xs.length (nI a)).bind fun j => some (gSet D i (.inr (.inr (.inl (xs.set j v)))))
    | _ => none) = _
  rw [show D.1[i]? = _ from h]
  show ((aidx xs.length (nI a)).bind fun j => some (gSet D i (.inr (.inr (.inl (xs.set j v)))))) = _
  rw [aidx_in hb ha, Option.bind_some]
/-- a tree of at most n floors, with its steps -/
def GN (D : gDS) : Nat → gRF → List Stq → Prop
  | 0, _, _ => False
  | n + 1, r, l => ∃ (i k v : Nat) (a b : gRF), r = rf i ∧ tO D i 9 [.inl (nI k), .inl (nI v), .inr (.inr a), .inr (.inr b)] ∧ ((k ≤ 1 ∧ stOK (k, v) ∧ l = [(k, v)]) ∨ (2 ≤ k ∧ k ≤ 5 ∧ ∃ la lb, GN D n a la ∧ GN D n b lb ∧ l = la ++ (lb ++ [(k, 0)])))
theorem GN.ext {W : Nat → Prop} {A B : gDS} (x : gE W A B) (hw : ∀ i, i < A.1.length → W i → ∀ vs, ¬ tO A i 9 vs) : ∀ {n r l}, GN A n r l → GN B n r l
  | 0, _, _, h => h
  | n + 1, _, _, ⟨i, k, v, a, b, h1, h2, h3⟩ => ⟨i, k, v, a, b, h1, x.tO (fun q => hw i (tO_lt h2) q _ h2) h2, by
    rcases h3 with h3 | ⟨q1, q2, la, lb, q3, q4, q5⟩
    · exact Or.inl h3
    · exact Or.inr ⟨q1, q2, la, lb, GN.ext x hw q3, GN.ext x hw q4, q5⟩⟩
theorem l1M : (1000000 : Int64) = li 1000000 := rfl
theorem l1m : (-1000000 : Int64) = li (-1000000) := rfl
theorem cl_lim {W : Int} (h : -1000000000000 ≤ W ∧ W ≤ 1000000000000) : (if (if li W < (1000000 : Int64) then li W else (1000000 : Int64)) < (-1000000 : Int64) then (-1000000 : Int64) else (if li W < (1000000 : Int64) then li W else (1000000 : Int64))) = li (lim W) := by
  rw [l1m, l1M]
  unfold lim
  have e : (if li W < li 1000000 then li W else li 1000000) = li (min W 1000000) := by
    by_cases q : W < 1000000
    · rw [if_pos ((li_lt (by omega) (by omega)).mpr q), Int.min_eq_left (by omega)]
    · rw [if_neg (fun z => q ((li_lt (by omega) (by omega)).mp z)), Int.min_eq_right (by omega)]
  rw [e]
  by_cases q : min W 1000000 < -1000000
  · rw [if_pos ((li_lt (by omega) (by omega)).mpr q), if_neg (by omega), if_pos (by omega)]
  · rw [if_neg (fun z => q ((li_lt (by omega) (by omega)).mp z))]
    split
    · rw [Int.min_eq_right (by omega)]
    · rw [if_neg (by omega), Int.min_eq_left (by omega)]
theorem lim_id {v : Int} (h : bnd v) : lim v = v := by
  unfold bnd at h
  unfold lim
  rw [if_neg (by omega), if_neg (by omega)]
theorem g_node {D : gDS} {j : Nat} {c d : Int} (hJ : tJ D j [li c, li d]) (hc : 0 ≤ c ∧ c ≤ 99) (hd : 0 ≤ d ∧ d ≤ 99) : ∀ (n : Nat) (r : gRF) (l : List Stq) (st : List Int), GN D n r l → st.length + n ≤ 11 → ∃ v, evs c d l st = some (v :: st) ∧ bnd v ∧ R_X9_value n D r (rf j) = some (li v)
  | 0, _, _, _, h, _ => absurd h id
  | n + 1, r, l, st, h, hl => by
    obtain ⟨i, k, v, a, b, rfl, h2, h3⟩ := h
    show ∃ v, evs c d l st = some (v :: st) ∧ bnd v ∧ F_X9_value (R_X9_value n) D (rf i) (rf j) = some (li v)
    unfold F_X9_value
    rw [gRv_t h2, Option.bind_some, gFi_t h2 (b := 0) rfl, Option.bind_some]
    rcases h3 with ⟨q1, q2, rfl⟩ | ⟨q1, q2, la, lb, q3, q4, rfl⟩
    · have n1 : ¬ (2 : Int32) ≤ nI k := fun z => by
        have := (nI_le' (a := 2) (b := k) (by omega) (by omega)).mp z
        omega
      refine ⟨opv c d (k, v), ?_, opv_bnd hc hd q2 q1, ?_⟩
      · show (if k ≤ 1 then (if st.length < 11 then _ else _) else _) = _
        rw [if_pos q1, if_pos (by omega)]
        rfl
      · rw [if_neg n1, Option.bind_some, gFi_t h2 (b := 1) rfl]
        obtain rfl | rfl : k = 0 ∨ k = 1 := by omega
        · have hv := q2.2.1 rfl
          have hv : v ≤ 9999 := hv
          have n2 : ¬ ¬ nI 0 = 0 := fun z => z rfl
          rw [if_neg n2, Option.bind_some, nI_zi, zi_64 (by omega)]
          rfl
        · have hv := q2.2.2 rfl
          have hv : v ≤ 1 := hv
          have n2 : ¬ nI 1 = 0 := by decide
          rw [if_pos n2, Option.bind_some, gJld_t hJ (by show v < 2; omega) (by omega), Option.bind_some]
          obtain rfl | rfl : v = 0 ∨ v = 1 := by omega
          · rfl
          · rfl
    · obtain ⟨va, a1, a2, a3⟩ := g_node hJ hc hd n a la st q3 (by omega)
      obtain ⟨vb, b1, b2, b3⟩ := g_node hJ hc hd n b lb (va :: st) q4 (by rw [List.length_cons]; omega)
      have n1 : (2 : Int32) ≤ nI k := (nI_le' (a := 2) (b := k) (by omega) (by omega)).mpr q1
      refine ⟨apo k va vb, ?_, apo_bnd a2 b2, ?_⟩
      · rw [evs_app, a1, Option.bind_some, evs_app, b1, Option.bind_some]
        show (if k ≤ 1 then _ else some (apo k va vb :: st)) = _
        rw [if_neg (by omega)]
      · rw [if_pos n1, gFr_t h2 (b := 2) rfl, Option.bind_some, a3, Option.bind_some, gFr_t h2 (b := 3) rfl, Option.bind_some, b3, Option.bind_some, Option.bind_some]
        unfold jn
        dsimp only
        have m1 := mul_bnd a2 b2
        have a2' := a2
        have b2' := b2
        unfold bnd at a2' b2'
        obtain rfl | rfl | rfl | rfl : k = 2 ∨ k = 3 ∨ k = 4 ∨ k = 5 := by omega
        · have n2 : ¬ ¬ nI 2 = (2 : Int32) := fun z => z rfl
          rw [if_neg n2, li_add, cl_lim (by omega), apo_2]
        · have n2 : ¬ nI 3 = (2 : Int32) := by decide
          have n3 : ¬ ¬ nI 3 = (3 : Int32) := fun z => z rfl
          rw [if_pos n2, Option.bind_some, if_neg n3, li_sub, cl_lim (by omega), apo_3]
        · have n2 : ¬ nI 4 = (2 : Int32) := by decide
          have n3 : ¬ nI 4 = (3 : Int32) := by decide
          have n4 : ¬ ¬ nI 4 = (4 : Int32) := fun z => z rfl
          rw [if_pos n2, Option.bind_some, if_pos n3, Option.bind_some, if_neg n4, li_mul, cl_lim m1, apo_4]
        · have n2 : ¬ nI 5 = (2 : Int32) := by decide
          have n3 : ¬ nI 5 = (3 : Int32) := by decide
          have n4 : ¬ nI 5 = (4 : Int32) := by decide
          rw [if_pos n2, Option.bind_some, if_pos n3, Option.bind_some, if_pos n4, apo_5]
          by_cases q : vb = 0
          · have n5 : ¬ ¬ lg_cmp (li vb) (0 : Int64) = 0 := fun z => z ((lg_cmp_eq _ _).mpr (by rw [q]; exact li_0))
            rw [if_neg n5, if_pos q, ← li_0, cl_lim (by omega)]
            rfl
          · have n5 : ¬ lg_cmp (li vb) (0 : Int64) = 0 := fun z => q ((li_eq (by omega) (by omega)).mp (((lg_cmp_eq _ _).mp z).trans li_0.symm))
            have n6 : ¬ li vb = (0 : Int64) := fun z => n5 ((lg_cmp_eq _ _).mpr z)
            have b4 := tdiv_bnd a2 q
            have b5 := b4
            unfold bnd at b5
            unfold dvl
            rw [if_pos n5, if_neg q, if_neg n6, Option.bind_some, li_div (by omega) (by omega), cl_lim (by omega), lim_id b4]
