/-! THE SERVICE EXPRESSION: steps, each operation behind its operands; both evaluators -/
def li (z : Int) : Int64 := Int64.ofInt z
theorem li_toInt {a : Int} (h : -9223372036854775808 ≤ a ∧ a < 9223372036854775808) : (li a).toInt = a := Int64.toInt_ofInt_of_le h.1 h.2
theorem li_add (a b : Int) : li a + li b = li (a + b) := (Int64.ofInt_add a b).symm
theorem li_sub (a b : Int) : li a - li b = li (a - b) := (Int64.ofInt_sub a b).symm
theorem li_mul (a b : Int) : li a * li b = li (a * b) := (Int64.ofInt_mul a b).symm
theorem li_le {a b : Int} (ha : -9223372036854775808 ≤ a ∧ a < 9223372036854775808) (hb : -9223372036854775808 ≤ b ∧ b < 9223372036854775808) : li a ≤ li b ↔ a ≤ b := by
  rw [Int64.le_iff_toInt_le, li_toInt ha, li_toInt hb]
theorem li_lt {a b : Int} (ha : -9223372036854775808 ≤ a ∧ a < 9223372036854775808) (hb : -9223372036854775808 ≤ b ∧ b < 9223372036854775808) : li a < li b ↔ a < b := by
  rw [Int64.lt_iff_toInt_lt, li_toInt ha, li_toInt hb]
theorem li_eq {a b : Int} (ha : -9223372036854775808 ≤ a ∧ a < 9223372036854775808) (hb : -9223372036854775808 ≤ b ∧ b < 9223372036854775808) : li a = li b ↔ a = b := by
  rw [← Int64.toInt_inj, li_toInt ha, li_toInt hb]
theorem zi_64 {a : Int} (h : -2147483648 ≤ a ∧ a < 2147483648) : (zi a).toInt64 = li a := Int64.toInt_inj.mp (by rw [Int32.toInt_toInt64, zi_toInt h, li_toInt (by omega)])
theorem li_32 (a : Int) : (li a).toInt32 = zi a := Int64.toInt32_ofInt
theorem li_div {a b : Int} (ha : -9223372036854775808 < a ∧ a < 9223372036854775808) (hb : -9223372036854775808 ≤ b ∧ b < 9223372036854775808) : li a / li b = li (a.tdiv b) := by
  refine (Int64.ofInt_tdiv ?_ ?_ ?_ ?_).symm
  · show (-9223372036854775808 : Int) ≤ a
    omega
  · show a ≤ 9223372036854775807
    omega
  · show (-9223372036854775808 : Int) ≤ b
    omega
  · show b ≤ 9223372036854775807
    omega
abbrev Stq : Type := Nat × Nat
def wdt (s : Stq) : Nat := if s.1 ≤ 1 then 2 else 1
def offs : List Stq → Nat
  | [] => 0
  | s :: t => wdt s + offs t
theorem offs_app : ∀ (a b : List Stq), offs (a ++ b) = offs a + offs b
  | [], b => (Nat.zero_add _).symm
  | s :: t, b => by
    show wdt s + offs (t ++ b) = wdt s + offs t + offs b
    rw [offs_app t b]
    omega
/-- the reference's code -/
def laid (f : Nat → Int32) : Nat → List Stq → Prop
  | _, [] => True
  | p, s :: t => f p = nI s.1 ∧ (s.1 ≤ 1 → f (p + 1) = nI s.2) ∧ laid f (p + wdt s) t
def lim (v : Int) : Int := if 1000000 < v then 1000000 else if v < -1000000 then -1000000 else v
def apo (k : Nat) (a b : Int) : Int := if k = 5 then (if b = 0 then 0 else a.tdiv b) else lim (if k = 2 then a + b else if k = 3 then a - b else a * b)
def opv (c d : Int) (s : Stq) : Int := if s.1 = 0 then s.2 else if s.2 = 0 then c else d
/-- the stack, its top first; at most eleven high -/
def evs (c d : Int) : List Stq → List Int → Option (List Int)
  | [], st => some st
  | s :: t, st => if s.1 ≤ 1 then (if st.length < 11 then evs c d t (opv c d s :: st) else none) else match st with
    | b :: a :: r => evs c d t (apo s.1 a b :: r)
    | _ => none
theorem evs_app (c d : Int) : ∀ (a b : List Stq) (st : List Int), evs c d (a ++ b) st = (evs c d a st).bind (evs c d b)
  | [], b, st => rfl
  | s :: t, b, st => by
    show evs c d (s :: (t ++ b)) st = _
    unfold evs
    split
    · split
      · exact evs_app c d t b _
      · rfl
    · split
      · exact evs_app c d t b _
      · rfl
/-- a step that may stand there -/
def stOK (s : Stq) : Prop := s.1 ≤ 5 ∧ (s.1 = 0 → s.2 ≤ 9999) ∧ (s.1 = 1 → s.2 ≤ 1)
def bnd (v : Int) : Prop := -1000000 ≤ v ∧ v ≤ 1000000
theorem lim_bnd (v : Int) : bnd (lim v) := by unfold bnd lim; split <;> (try split) <;> omega
theorem tdiv_bnd {a b : Int} (ha : bnd a) (hb : b ≠ 0) : bnd (a.tdiv b) := by
  unfold bnd at ha ⊢
  have h1 : (a.tdiv b).natAbs ≤ a.natAbs := by
    rw [Int.natAbs_tdiv]
    exact Nat.div_le_self _ _
  omega
theorem apo_bnd {k : Nat} {a b : Int} (ha : bnd a) (_ : bnd b) : bnd (apo k a b) := by
  unfold apo
  split
  · split
    · unfold bnd; omega
    · exact tdiv_bnd ha (by assumption)
  · exact lim_bnd _
theorem opv_bnd {c d : Int} {s : Stq} (hc : 0 ≤ c ∧ c ≤ 99) (hd : 0 ≤ d ∧ d ≤ 99) (hs : stOK s) (h1 : s.1 ≤ 1) : bnd (opv c d s) := by
  obtain ⟨a1, a2, a3⟩ := hs
  unfold bnd opv
  split
  · rename_i q; have := a2 q; omega
  · split <;> omega
/-- a stack in a row of longs, and in a row of ints -/
def SKl (f : Nat → Int64) : List Int → Prop
  | [] => True
  | v :: t => f t.length = li v ∧ SKl f t
def SKi (f : Nat → Int32) : List Int → Prop
  | [] => True
  | v :: t => f t.length = zi v ∧ SKi f t
theorem SKl_far {f g : Nat → Int64} : ∀ {st : List Int}, SKl f st → (∀ j, j < st.length → g j = f j) → SKl g st
  | [], _, _ => trivial
  | v :: t, h, e => ⟨by rw [e t.length (by rw [List.length_cons]; omega)]; exact h.1, SKl_far h.2 (fun j hj => e j (by rw [List.length_cons]; omega))⟩
theorem SKi_far {f g : Nat → Int32} : ∀ {st : List Int}, SKi f st → (∀ j, j < st.length → g j = f j) → SKi g st
  | [], _, _ => trivial
  | v :: t, h, e => ⟨by rw [e t.length (by rw [List.length_cons]; omega)]; exact h.1, SKi_far h.2 (fun j hj => e j (by rw [List.length_cons]; omega))⟩
theorem mul_bnd {a b : Int} (ha : bnd a) (hb : bnd b) : -1000000000000 ≤ a * b ∧ a * b ≤ 1000000000000 := by
  unfold bnd at ha hb
  have h1 : (a * b).natAbs ≤ 1000000 * 1000000 := by
    rw [Int.natAbs_mul]
    exact Nat.mul_le_mul (by omega) (by omega)
  omega
theorem apo_2 (a b : Int) : apo 2 a b = lim (a + b) := by unfold apo; rw [if_neg (by decide), if_pos rfl]
theorem apo_3 (a b : Int) : apo 3 a b = lim (a - b) := by unfold apo; rw [if_neg (by decide), if_neg (by decide), if_pos rfl]
theorem apo_4 (a b : Int) : apo 4 a b = lim (a * b) := by unfold apo; rw [if_neg (by decide), if_neg (by decide), if_neg (by decide)]
theorem apo_5 (a b : Int) : apo 5 a b = if b = 0 then 0 else a.tdiv b := by unfold apo; rw [if_pos rfl]
theorem li_0 : li 0 = 0 := rfl
theorem c_limited {h : PH} {v a b : Int} (hv : -9223372036854775808 ≤ v ∧ v < 9223372036854775808) (ha : -2147483648 ≤ a ∧ a < 2147483648) (hb : -2147483648 ≤ b ∧ b < 2147483648) : F_X7_limited h (li v) (zi a) (zi b) = zi (max a (min b v)) := by
  unfold F_X7_limited
  rw [zi_64 ha, zi_64 hb]
  have e : (if li v < li b then li v else li b) = li (min b v) := by
    by_cases q : v < b
    · rw [if_pos ((li_lt hv (by omega)).mpr q), Int.min_eq_right (by omega)]
    · rw [if_neg (fun z => q ((li_lt hv (by omega)).mp z)), Int.min_eq_left (by omega)]
  rw [e]
  have hm : -9223372036854775808 ≤ min b v ∧ min b v < 9223372036854775808 := by omega
  by_cases q : min b v < a
  · rw [if_pos ((li_lt hm (by omega)).mpr q), Int.max_eq_left (by omega)]
    exact li_32 a
  · rw [if_neg (fun z => q ((li_lt hm (by omega)).mp z)), Int.max_eq_right (by omega)]
    exact li_32 _
/-- the class's sign of an operation -/
def sgn (k : Nat) : Nat := if k = 2 then 43 else if k = 3 then 45 else if k = 4 then 42 else 47
theorem lim_max (v : Int) : max (-1000000) (min 1000000 v) = lim v := by unfold lim; split <;> (try split) <;> omega
theorem c_applied {h : PH} {k : Nat} {a b : Int} (hk : 2 ≤ k ∧ k ≤ 5) (ha : bnd a) (hb : bnd b) : F_X0_applied h (nI (sgn k)) (zi a).toInt64 (zi b).toInt64 = some (zi (apo k a b)) := by
  have hm := mul_bnd ha hb
  have ha2 := ha
  unfold bnd at ha hb
  have e1 : (-1000000 : Int32) = zi (-1000000) := rfl
  have e2 : (1000000 : Int32) = zi 1000000 := rfl
  have L : ∀ v : Int, -9223372036854775808 ≤ v ∧ v < 9223372036854775808 → F_X7_limited h (li v) (-1000000 : Int32) (1000000 : Int32) = zi (lim v) := fun v hv => by
    rw [e1, e2, c_limited hv (by omega) (by omega), lim_max]
  have hk4 : k = 2 ∨ k = 3 ∨ k = 4 ∨ k = 5 := by omega
  have p2 : nI (sgn 2) = 43 := rfl
  have n3 : ¬ nI (sgn 3) = 43 := by decide
  have p3 : nI (sgn 3) = 45 := rfl
  have n4 : ¬ nI (sgn 4) = 43 := by decide
  have n42 : ¬ nI (sgn 4) = 45 := by decide
  have p4 : nI (sgn 4) = 42 := rfl
  have n5 : ¬ nI (sgn 5) = 43 := by decide
  have n52 : ¬ nI (sgn 5) = 45 := by decide
  have n53 : ¬ nI (sgn 5) = 42 := by decide
  unfold F_X0_applied jn
  dsimp only
  rw [zi_64 (by omega), zi_64 (by omega)]
  rcases hk4 with rfl | rfl | rfl | rfl
  · rw [if_neg (fun z => z p2), li_add, L _ (by omega), apo_2]
  · rw [if_pos n3, if_neg (fun z => z p3), li_sub, L _ (by omega), apo_3]
  · rw [if_pos n4, if_pos n42, if_neg (fun z => z p4), li_mul, L _ (by omega), apo_4]
  · rw [if_pos n5, if_pos n52, if_pos n53, apo_5]
    by_cases q : b = 0
    · have e0 : F_X7_limited h (0 : Int64) (-1000000 : Int32) (1000000 : Int32) = zi (lim 0) := L 0 (by omega)
      rw [if_pos ((lg_cmp_eq _ _).mpr (by rw [q]; exact li_0)), if_pos q, e0]
      rfl
    · have q2 : ¬ li b = 0 := fun z => q ((li_eq (by omega) (by omega)).mp (z.trans li_0.symm))
      rw [if_neg (fun z => q2 ((lg_cmp_eq _ _).mp z)), if_neg q]
      unfold dvl
      rw [if_neg q2, li_div (by omega) (by omega)]
      have hd := tdiv_bnd ha2 q
      unfold bnd at hd
      show some (F_X7_limited h (li (a.tdiv b)) (-1000000 : Int32) (1000000 : Int32)) = _
      rw [L _ (by omega)]
      have : lim (a.tdiv b) = a.tdiv b := by unfold lim; rw [if_neg (by omega), if_neg (by omega)]
      rw [this]
