/-! WHAT THE STATEMENT GIVES OF THE START: statics, String constants, what can't be cast -/
def nAt (p : Nat) (w : Cond) : Bool := decide ((flatC narrow_1)[p]? = some w)
theorem nAt_in {p : Nat} {w : Cond} (h : nAt p w = true) : w ∈ flatC narrow_1 := List.mem_of_getElem? (of_decide_eq_true h)
def sPl (i : Nat) : Nat := [62, 81, 90, 95, 100, 152, 157].getD i 0
def sTm (i : Nat) : Term := .string "WindyTours$SetupReader" (sPl i)
def sTf (i : Nat) : Term := .field (sTm i) "java/lang/String" "value" "[B"
/-- where a word about constant i stands: exactly, coder, array, length, the same in the model, then its bytes -/
def sPos (i j : Nat) : Nat := (([[365, 366, 367, 368, 369, 370, 371, 372, 373, 374, 375], [376, 377, 378, 379, 380, 381, 382, 383], [384, 385, 386, 387, 388, 389, 390], [391, 392, 393, 394, 395, 396, 397, 398, 399], [400, 401, 402, 403, 404, 405, 406, 407, 408, 409, 410], [411, 412, 413, 414, 415, 416, 417, 418], [419, 420, 421, 422, 423, 424, 425, 426, 427, 428]] : List (List Nat)).getD i []).getD j 0
def chkStr (i : Nat) : Bool := nAt (sPos i 0) (Cond.exactly (sTm i) "java/lang/String") && nAt (sPos i 1) (Cond.eq (.field (sTm i) "java/lang/String" "coder" "B") (.int 0)) && nAt (sPos i 2) (Cond.arrayOf (sTf i) .byte) && nAt (sPos i 3) (Cond.eq (.length (sTf i)) (.int (Int32.ofNat (sLens.getD i 0)))) &&
  (List.range (sLens.getD i 0)).all (fun j => nAt (sPos i (4 + j)) (Cond.eq (.elem (sTf i) (.int (Int32.ofNat j))) (.int ((sByts.getD i []).getD j 0))))
theorem chkStr_all : ∀ i, i < 7 → chkStr i = true := by decide +kernel
theorem sLens_lt : ∀ i, i < 7 → sLens.getD i 0 < 2 ^ 31 := by decide +kernel
theorem sDiff : ∀ i, i < 7 → ∀ j, j < 7 → i = j ∨ sLens.getD i 0 ≠ sLens.getD j 0 ∨ (0 < sLens.getD i 0 ∧ (sByts.getD i []).getD 0 0 ≠ (sByts.getD j []).getD 0 0) := by decide +kernel
def chkSr (q : Nat) : Bool := match sres q with
  | some j => Nat.blt j 7 && decide (Cond.stringRef (ownN (q / 1000)) (q % 1000) (sTxt j) ∈ lw_tbl) && decide (q = 6000 + sPl j)
  | none => true
theorem chkSr_all : (List.range 10000).all chkSr = true := by decide +kernel
def tPos (q : Nat) : Nat := match q with
  | 7055 => 335
  | 7117 => 445
  | 7238 => 688
  | 17164 => 575
  | 17190 => 521
  | 17260 => 429
  | 17262 => 467
  | 17264 => 559
  | 27182 => 482
  | 27193 => 538
  | 27209 => 595
  | 27215 => 628
  | 27223 => 654
  | 37164 => 575
  | _ => 0
def chkTr (q : Nat) : Bool := match tres q with
  | some (_, _, _, tx) => decide (Cond.stringRef (ownN (q % 10000 / 1000)) (q % 1000) tx ∈ lw_tbl) && nAt (tPos q) (Cond.exactly (.string (ownN (q % 10000 / 1000)) (q % 1000)) "java/lang/String")
  | none => true
theorem chkTr_0 : (List.range 10000).all chkTr = true := by decide +kernel
theorem chkTr_1 : (List.range 10000).all (fun i => chkTr (10000 + i)) = true := by decide +kernel
theorem chkTr_2 : (List.range 10000).all (fun i => chkTr (20000 + i)) = true := by decide +kernel
theorem chkTr_3 : (List.range 10000).all (fun i => chkTr (30000 + i)) = true := by decide +kernel
theorem tres_far {q : Nat} (h : 40000 ≤ q) : tres q = none := by
  cases hq : tres q with
  | none => rfl
  | some x =>
    exfalso
    simp only [tres, Bool.cond_eq_ite] at hq
    (repeat' split at hq) <;> first | (cases hq; done) | (rename_i hb; have := Nat.eq_of_beq_eq_true hb; omega)
theorem chkTr_at {q : Nat} (h : q < 40000) : chkTr q = true := by
  have go : ∀ {a : Nat}, (List.range 10000).all (fun i => chkTr (a + i)) = true → a ≤ q → q < a + 10000 → chkTr q = true := by
    intro a h h1 h2
    have h3 := List.all_eq_true.mp h (q - a) (List.mem_range.mpr (by omega))
    rw [show a + (q - a) = q by omega] at h3
    exact h3
  rcases Nat.lt_or_ge q 10000 with q1 | q1
  · exact List.all_eq_true.mp chkTr_0 q (List.mem_range.mpr q1)
  rcases Nat.lt_or_ge q 20000 with q2 | q2
  · exact go chkTr_1 q1 (by omega)
  rcases Nat.lt_or_ge q 30000 with q3 | q3
  · exact go chkTr_2 q2 (by omega)
  exact go chkTr_3 q3 (by omega)
def stWords : List (Nat × Cond) := [(2, .isRef (.static Bundle.tN "UNASSIGNED_STACK" Bundle.steD)), (3, .isRef (.static Bundle.tN "SUPPRESSED_SENTINEL" Bundle.listD)), (4, .eq (.static "java/lang/String" "COMPACT_STRINGS" "Z") (.int 1)), (5, .isRef (.static "jdk/internal/util/Preconditions" "SIOOBE_FORMATTER" "Ljava/util/function/BiFunction;"))]
theorem stWords_ok : stWords.all (fun q => nAt q.1 q.2) = true := by decide +kernel
def stLays : List Cond := [.laysStatic Bundle.tN "UNASSIGNED_STACK" Bundle.steD, .laysStatic Bundle.tN "SUPPRESSED_SENTINEL" Bundle.listD, .laysStatic "java/lang/String" "COMPACT_STRINGS" "Z", .laysStatic "jdk/internal/util/Preconditions" "SIOOBE_FORMATTER" "Ljava/util/function/BiFunction;", .initialized Bundle.tN, .initialized "java/lang/String", .initialized "jdk/internal/util/Preconditions"]
theorem stLays_ok : stLays.all (fun w => decide (w ∈ lw_tbl)) = true := by decide +kernel
theorem ncW : ∀ i, i < 4 → ∀ j, j < 4 → i = j ∨ Cond.not (.castable (exN i) (exN j)) ∈ flatC narrow_1 := by
  have key : ∀ i, i < 4 → ∀ j, j < 4 → (decide (i = j) || decide (Cond.not (.castable (exN i) (exN j)) ∈ flatC narrow_1)) = true := by decide +kernel
  intro i hi j hj
  have h := key i hi j hj
  rw [Bool.or_eq_true, decide_eq_true_eq, decide_eq_true_eq] at h
  exact h
section INI
variable {s : State} {args : Array Value} {A : Nat → Prop}
/-- the String constants of the reader: they are apart, since they differ -/
theorem ini_str (hn : ∀ w ∈ flatC narrow_1, w.before args s = true) (hA : ∀ a : Nat, a < s.heap.size → ¬ A a) :
    ∃ adK adV : Nat → Nat, vk_S 7 sLens sByts adK adV A s s.heap ∧ ∀ i : Nat, i < 7 → (sTm i).eval args s none [] s = some (.ref (adK i)) := by
  have h0 : ∀ i : Nat, ∃ q : Nat × Nat, i < 7 → (sTm i).eval args s none [] s = some (.ref q.1) ∧ va_O "java/lang/String" q.1 A s s.heap ∧ va_OF "java/lang/String" "coder" "B" (.int 0) q.1 A s s.heap ∧ va_OF "java/lang/String" "value" "[B" (.ref q.2) q.1 A s s.heap ∧ va_T .byte q.2 (sLens.getD i 0) (fun j => .int ((sByts.getD i []).getD j 0)) A s s.heap := by
    intro i
    by_cases hi : i < 7
    · have hc := chkStr_all i hi
      unfold chkStr at hc
      simp only [Bool.and_eq_true] at hc
      obtain ⟨⟨⟨⟨c1, c2⟩, c3⟩, c4⟩, c6⟩ := hc
      obtain ⟨a, c, cA, kA, q1, q2, q3, q4, q5, q6, -⟩ := Cond.exactly_spec (args := args) (first := s) (o := none) (s := s) (idx := []) (t := sTm i) (cls := "java/lang/String") (hn _ (nAt_in c1))
      obtain ⟨t, ht, hT⟩ := va_Tof (f := fun j => .int ((sByts.getD i []).getD j 0)) (A := A) (sLens_lt i hi) (hn _ (nAt_in c3)) (va_eqt (hn _ (nAt_in c4))) (fun j hj => va_eqt (hn _ (nAt_in (List.all_eq_true.mp c6 j (List.mem_range.mpr hj))))) hA
      exact ⟨(a, t), fun _ => ⟨q1, ⟨cA, q3, q5, by rw [q6]; exact q2, hA a (Array.getElem?_eq_some_iff.mp q3).1⟩, vk_OFof q1 (va_eqt (hn _ (nAt_in c2))) hA, vk_OFof q1 ht hA, hT⟩⟩
    · exact ⟨(0, 0), fun h => absurd h hi⟩
  obtain ⟨ad, had⟩ := Classical.axiomOfChoice h0
  refine ⟨fun i => (ad i).1, fun i => (ad i).2, ⟨fun i hi => (had i hi).2, fun i j hi hj e => ?_⟩, fun i hi => (had i hi).1⟩
  obtain ⟨-, -, -, o1, t1⟩ := had i hi
  obtain ⟨-, -, -, o2, t2⟩ := had j hj
  have e : (ad i).1 = (ad j).1 := e
  have ev : (ad i).2 = (ad j).2 := by
    obtain ⟨cf, k, fi, f, cell, f1, f2, f3, f4, f5, -⟩ := o1
    obtain ⟨cf', k', fi', f', cell', g1, g2, g3, g4, g5, -⟩ := o2
    rw [f1] at g1
    cases g1
    rw [e] at f3
    rw [f3] at g3
    cases g3
    rw [f5] at g5
    simp only [Option.some.injEq, Value.ref.injEq] at g5
    exact g5
  obtain ⟨cell, a1, a2, a3, a4, a5, a6, -⟩ := t1
  obtain ⟨cell', b1, b2, b3, b4, b5, b6, -⟩ := t2
  rw [ev] at a1
  rw [a1] at b1
  cases b1
  rcases sDiff i hi j hj with q | q | ⟨q0, q⟩
  · exact q
  · refine absurd ?_ q
    have h1 : (nI (sLens.getD i 0)).toInt = (nI (sLens.getD j 0)).toInt := congrArg Int32.toInt (a5.symm.trans b5)
    rw [nI_toInt (sLens_lt i hi), nI_toInt (sLens_lt j hj)] at h1
    omega
  · by_cases q9 : 0 < sLens.getD j 0
    · have h1 := (a6 0 q0).symm.trans (b6 0 q9)
      simp only [Option.some.injEq, Value.int.injEq] at h1
      exact absurd h1 q
    · have h1 : (nI (sLens.getD i 0)).toInt = (nI (sLens.getD j 0)).toInt := congrArg Int32.toInt (a5.symm.trans b5)
      rw [nI_toInt (sLens_lt i hi), nI_toInt (sLens_lt j hj)] at h1
      omega
end INI
/-! the law's own constants -/
def gsOw (j : Nat) : String := ["WindyToursLaw", "WindyToursLaw", "WindyToursLaw", "WindyToursLaw", "WindyToursLaw", "WindyToursLaw", "WindyToursLaw", "WindyToursLaw$Node", "WindyToursLaw", "WindyToursLaw", "WindyToursLaw$Node", "WindyToursLaw$Node", "WindyToursLaw$Node", "WindyToursLaw$Node", "WindyToursLaw$Node", "WindyToursLaw$Node"].getD j ""
def gsIx (j : Nat) : Nat := [133, 147, 152, 161, 173, 111, 116, 37, 314, 316, 60, 62, 64, 66, 68, 70].getD j 0
def gTm (j : Nat) : Term := .string (gsOw j) (gsIx j)
def gTf (j : Nat) : Term := .field (gTm j) "java/lang/String" "value" "[B"
def gsPos (i j : Nat) : Nat := (([[711, 712, 713, 714, 715, 716, 717, 718, 719, 720, 721], [733, 734, 735, 736, 737, 738, 739, 740, 741], [742, 743, 744, 745, 746, 747, 748], [750, 751, 752, 753, 754, 755, 756, 757, 758], [760, 761, 762, 763, 764, 765, 766, 767, 768, 769, 770, 771], [723, 724, 725, 726, 727], [728, 729, 730, 731, 732], [772, 773, 774, 775], [816, 817, 818, 819, 820, 821, 822, 823], [825, 826, 827, 828, 829, 830, 831, 832, 833, 834], [783, 784, 785, 786, 787], [788, 789, 790, 791, 792, 793, 794], [795, 796, 797, 798, 799, 800], [801, 802, 803, 804, 805], [806, 807, 808, 809, 810], [811, 812, 813, 814, 815]] : List (List Nat)).getD i []).getD j 0
def chkGst (i : Nat) : Bool := nAt (gsPos i 0) (Cond.exactly (gTm i) "java/lang/String") && nAt (gsPos i 1) (Cond.eq (.field (gTm i) "java/lang/String" "coder" "B") (.int 0)) && nAt (gsPos i 2) (Cond.arrayOf (gTf i) .byte) && nAt (gsPos i 3) (Cond.eq (.length (gTf i)) (.int (Int32.ofNat (gStrB i).length))) &&
  (List.range (gStrB i).length).all (fun j => nAt (gsPos i (4 + j)) (Cond.eq (.elem (gTf i) (.int (Int32.ofNat j))) (.int ((gStrB i).getD j 0))))
theorem chkGst_all : ∀ i, i < 16 → chkGst i = true := by decide +kernel
theorem gStrB_lt : ∀ i, i < 16 → (gStrB i).length < 2 ^ 31 := by decide +kernel
def gDt (q : Nat) : Term := .static "java/lang/Integer" (if q = 3 then "DigitOnes" else "DigitTens") "[B"
def chkDig (q p : Nat) (ys : List Int32) : Bool := nAt p (Cond.arrayOf (gDt q) .byte) && nAt (p + 1) (Cond.eq (.length (gDt q)) (.int (Int32.ofNat ys.length))) && (List.range ys.length).all (fun j => nAt (p + 2 + j) (Cond.eq (.elem (gDt q) (.int (Int32.ofNat j))) (.int (ys.getD j 0))))
theorem chkDig_3 : chkDig 3 10 gOnes = true := by decide +kernel
theorem chkDig_4 : chkDig 4 113 gTens = true := by decide +kernel
def gVt : Term := .static "WindyToursLaw" "VARIABLES" "[Ljava/lang/String;"
theorem chkVar : (nAt 216 (Cond.arrayOf gVt (.object "java/lang/String")) && nAt 217 (Cond.eq (.length gVt) (.int 2)) && nAt 218 (Cond.eq (.elem gVt (.int 0)) (gTm 8)) && nAt 219 (Cond.eq (.elem gVt (.int 1)) (gTm 9))) = true := by decide +kernel
def gLays : List Cond := [.laysStatic "java/lang/Integer" "DigitOnes" "[B", .laysStatic "java/lang/Integer" "DigitTens" "[B", .laysStatic "WindyToursLaw" "VARIABLES" "[Ljava/lang/String;", .initialized "java/lang/Integer", .initialized "WindyToursLaw"]
theorem gLays_ok : gLays.all (fun w => decide (w ∈ lw_tbl)) = true := by decide +kernel
def chkGsr (q : Nat) : Bool := match gsrs q with
  | some j => decide (gsOw j = gownN (q / 2000)) && Nat.beq (gsIx j) (q % 2000) && decide (Cond.stringRef (gownN (q / 2000)) (q % 2000) (gsTx j) ∈ lw_tbl)
  | none => true
theorem chkGsr_all : (List.range 6000).all chkGsr = true := by decide +kernel
theorem gsrs_lt {q j : Nat} (h : gsrs q = some j) : q < 6000 := by
  simp only [gsrs, Bool.cond_eq_ite] at h
  (repeat' split at h) <;> first | (cases h; done) | (rename_i hq; have := Nat.eq_of_beq_eq_true hq; omega)
theorem gkB_inv {q : Nat} {ys : List Int32} (h : gkB q = some ys) : (q = 3 ∧ ys = gOnes) ∨ (q = 4 ∧ ys = gTens) ∨ ∃ j, j < 16 ∧ q = 11 + 2 * j ∧ ys = gStrB j := by
  unfold gkB at h
  cases h3 : Nat.beq q 3 with
  | true =>
    rw [h3] at h
    cases h
    exact Or.inl ⟨Nat.eq_of_beq_eq_true h3, rfl⟩
  | false =>
    rw [h3] at h
    cases h4 : Nat.beq q 4 with
    | true =>
      rw [h4] at h
      cases h
      exact Or.inr (Or.inl ⟨Nat.eq_of_beq_eq_true h4, rfl⟩)
    | false =>
      rw [h4] at h
      cases h5 : Nat.blt q 11 with
      | true => rw [h5] at h; cases h
      | false =>
        rw [h5] at h
        cases h6 : gkS (q - 1) with
        | false => rw [h6] at h; cases h
        | true =>
          rw [h6] at h
          cases h
          have h11 : 11 ≤ q := by
            rcases Nat.lt_or_ge q 11 with q9 | q9
            · rw [show Nat.blt q 11 = true from Nat.ble_eq_true_of_le q9] at h5; cases h5
            · exact q9
          unfold gkS at h6
          simp only [Bool.and_eq_true] at h6
          have q2 := blt_of h6.2.1
          have q3 := Nat.eq_of_beq_eq_true h6.2.2
          exact Or.inr (Or.inr ⟨(q - 11) / 2, by omega, by omega, rfl⟩)
section INI2
variable {s : State} {args : Array Value} {A : Nat → Prop}
theorem ini_g (hn : ∀ w ∈ flatC narrow_1, w.before args s = true) (hA : ∀ a : Nat, a < s.heap.size → ¬ A a) :
    ∃ ad : Nat → Nat × Nat, ∀ i, i < 16 → (gTm i).eval args s none [] s = some (.ref (ad i).1) ∧ va_O "java/lang/String" (ad i).1 A s s.heap ∧ va_OF "java/lang/String" "coder" "B" (.int 0) (ad i).1 A s s.heap ∧ va_OF "java/lang/String" "value" "[B" (.ref (ad i).2) (ad i).1 A s s.heap ∧ va_T .byte (ad i).2 (gStrB i).length (fun j => .int ((gStrB i).getD j 0)) A s s.heap := by
  have h0 : ∀ i : Nat, ∃ q : Nat × Nat, i < 16 → (gTm i).eval args s none [] s = some (.ref q.1) ∧ va_O "java/lang/String" q.1 A s s.heap ∧ va_OF "java/lang/String" "coder" "B" (.int 0) q.1 A s s.heap ∧ va_OF "java/lang/String" "value" "[B" (.ref q.2) q.1 A s s.heap ∧ va_T .byte q.2 (gStrB i).length (fun j => .int ((gStrB i).getD j 0)) A s s.heap := by
    intro i
    by_cases hi : i < 16
    · have hc := chkGst_all i hi
      unfold chkGst at hc
      simp only [Bool.and_eq_true] at hc
      obtain ⟨⟨⟨⟨c1, c2⟩, c3⟩, c4⟩, c6⟩ := hc
      obtain ⟨a, c, cA, kA, q1, q2, q3, q4, q5, q6, -⟩ := Cond.exactly_spec (args := args) (first := s) (o := none) (s := s) (idx := []) (t := gTm i) (cls := "java/lang/String") (hn _ (nAt_in c1))
      obtain ⟨t, ht, hT⟩ := va_Tof (f := fun j => .int ((gStrB i).getD j 0)) (A := A) (gStrB_lt i hi) (hn _ (nAt_in c3)) (va_eqt (hn _ (nAt_in c4))) (fun j hj => va_eqt (hn _ (nAt_in (List.all_eq_true.mp c6 j (List.mem_range.mpr hj))))) hA
      exact ⟨(a, t), fun _ => ⟨q1, ⟨cA, q3, q5, by rw [q6]; exact q2, hA a (Array.getElem?_eq_some_iff.mp q3).1⟩, vk_OFof q1 (va_eqt (hn _ (nAt_in c2))) hA, vk_OFof q1 ht hA, hT⟩⟩
    · exact ⟨(0, 0), fun h => absurd h hi⟩
  exact Classical.axiomOfChoice h0
theorem ini_d {q p : Nat} {ys : List Int32} (hc : chkDig q p ys = true) (hl : ys.length < 2 ^ 31) (hn : ∀ w ∈ flatC narrow_1, w.before args s = true) (hA : ∀ a : Nat, a < s.heap.size → ¬ A a) : ∃ t : Nat, (gDt q).eval args s none [] s = some (.ref t) ∧ va_T .byte t ys.length (fun j => .int (ys.getD j 0)) A s s.heap := by
  unfold chkDig at hc
  simp only [Bool.and_eq_true] at hc
  obtain ⟨⟨c1, c2⟩, c3⟩ := hc
  exact va_Tof (f := fun j => .int (ys.getD j 0)) (A := A) hl (hn _ (nAt_in c1)) (va_eqt (hn _ (nAt_in c2))) (fun j hj => va_eqt (hn _ (nAt_in (List.all_eq_true.mp c3 j (List.mem_range.mpr hj))))) hA
theorem ini_GST (hn : ∀ w ∈ flatC narrow_1, w.before args s = true) (hts : ∀ w ∈ lw_tbl, w.before args s = true) :
    ∃ cst : Nat → Nat, ∀ (D : va_G) (cA ad : Nat → Nat), (∀ q, 0 < q → q ≠ 5 → q < 100 → ad (2000 + q) = cst q) → GST (D, cA, ad, s.heap.size) s := by
  have hA : ∀ a : Nat, a < s.heap.size → ¬ (fun q => s.heap.size ≤ q) a := fun a h q => by
    have q : s.heap.size ≤ a := q
    omega
  obtain ⟨sa, hs⟩ := ini_g (A := fun q => s.heap.size ≤ q) hn hA
  obtain ⟨t3, e3, T3⟩ := ini_d (A := fun q => s.heap.size ≤ q) chkDig_3 (by decide) hn hA
  obtain ⟨t4, e4, T4⟩ := ini_d (A := fun q => s.heap.size ≤ q) chkDig_4 (by decide) hn hA
  have hv := chkVar
  simp only [Bool.and_eq_true] at hv
  obtain ⟨⟨⟨v1, v2⟩, v3⟩, v4⟩ := hv
  obtain ⟨t1, e1, T1⟩ := va_Tof (N := 2) (f := fun j => if j = 0 then .ref (sa 8).1 else .ref (sa 9).1) (A := fun q => s.heap.size ≤ q) (by decide) (hn _ (nAt_in v1)) (va_eqt (hn _ (nAt_in v2))) (fun j hj => by
    have : j = 0 ∨ j = 1 := by omega
    rcases this with rfl | rfl
    · exact va_eqv (hn _ (nAt_in v3)) (hs 8 (by omega)).1
    · exact va_eqv (hn _ (nAt_in v4)) (hs 9 (by omega)).1) hA
  have sl : ∀ w ∈ gLays, w.before args s = true := fun w hw => hts w (of_decide_eq_true (List.all_eq_true.mp gLays_ok w hw))
  have l0 : ∀ {i : Nat} {q : Cond}, gLays[i]? = some q → q.before args s = true := fun h => sl _ (List.mem_of_getElem? h)
  refine ⟨fun q => if q = 1 then t1 else if q = 3 then t3 else if q = 4 then t4 else if q % 2 = 0 then (sa ((q - 10) / 2)).1 else (sa ((q - 11) / 2)).2, fun D cA ad had => ?_⟩
  have g0 : ∀ q, 0 < q → gkA (D, cA, ad, s.heap.size) q = ad (2000 + q) := fun q h => by
    show ad (if q = 0 then 0 else 2000 + q) = _
    rw [if_neg (by omega)]
  have gE : ∀ j, j < 16 → gkA (D, cA, ad, s.heap.size) (10 + 2 * j) = (sa j).1 := fun j hj => by
    rw [g0 _ (by omega), had _ (by omega) (by omega) (by omega)]
    show (if 10 + 2 * j = 1 then t1 else if 10 + 2 * j = 3 then t3 else if 10 + 2 * j = 4 then t4 else if (10 + 2 * j) % 2 = 0 then (sa ((10 + 2 * j - 10) / 2)).1 else _) = _
    rw [if_neg (by omega), if_neg (by omega), if_neg (by omega), if_pos (by omega), show (10 + 2 * j - 10) / 2 = j by omega]
  have gO : ∀ j, j < 16 → gkA (D, cA, ad, s.heap.size) (11 + 2 * j) = (sa j).2 := fun j hj => by
    rw [g0 _ (by omega), had _ (by omega) (by omega) (by omega)]
    show (if 11 + 2 * j = 1 then t1 else if 11 + 2 * j = 3 then t3 else if 11 + 2 * j = 4 then t4 else if (11 + 2 * j) % 2 = 0 then _ else (sa ((11 + 2 * j - 11) / 2)).2) = _
    rw [if_neg (by omega), if_neg (by omega), if_neg (by omega), if_neg (by omega), show (11 + 2 * j - 11) / 2 = j by omega]
  have g1 : gkA (D, cA, ad, s.heap.size) 1 = t1 := by
    rw [g0 _ (by omega), had _ (by omega) (by omega) (by omega)]
    exact if_pos rfl
  have g3 : gkA (D, cA, ad, s.heap.size) 3 = t3 := by
    rw [g0 _ (by omega), had _ (by omega) (by omega) (by omega)]
    rfl
  have g4 : gkA (D, cA, ad, s.heap.size) 4 = t4 := by
    rw [g0 _ (by omega), had _ (by omega) (by omega) (by omega)]
    rfl
  refine ⟨fun j hj => ?_, fun q ys hq => ?_, fun q key ys hq => ?_, ?_, ?_, ?_, fun q j hq hj => ?_⟩
  · have hj : j < 16 := hj
    obtain ⟨-, h2, h3, h4, -⟩ := hs j hj
    rw [gE j hj, gO j hj]
    exact ⟨h2, h3, h4⟩
  · rcases gkB_inv hq with ⟨rfl, rfl⟩ | ⟨rfl, rfl⟩ | ⟨j, hj, rfl, rfl⟩
    · rw [g3]; exact T3
    · rw [g4]; exact T4
    · rw [gO j hj]; exact (hs j hj).2.2.2.2
  · unfold gkQ at hq
    obtain ⟨h1, h2⟩ := bic hq
    obtain rfl : q = 1 := Nat.eq_of_beq_eq_true h1
    cases h2
    rw [g1]
    have hf : (fun j => va_rf ((([some (.inr 26), some (.inr 28)] : List gRF).getD j none).map (gadr (D, cA, ad, s.heap.size) fun _ => 0))) = fun j => if j = 0 then .ref (sa 8).1 else if j = 1 then .ref (sa 9).1 else .null := by
      funext j
      match j with
      | 0 => exact congrArg Value.ref (gE 8 (by omega))
      | 1 => exact congrArg Value.ref (gE 9 (by omega))
      | j + 2 => rfl
    rw [hf]
    obtain ⟨cell, a1, a2, a3, a4, a5, a6, a7⟩ := T1
    refine ⟨cell, a1, a2, a3, a4, a5, fun j hj => ?_, a7⟩
    have hj : j < 2 := hj
    rw [a6 j hj]
    have : j = 0 ∨ j = 1 := by omega
    rcases this with rfl | rfl <;> rfl
  · rw [g3]; exact va_Zof (l0 (i := 0) rfl) (l0 (i := 3) rfl) e3 hA
  · rw [g4]; exact va_Zof (l0 (i := 1) rfl) (l0 (i := 3) rfl) e4 hA
  · rw [g1]; exact va_Zof (l0 (i := 2) rfl) (l0 (i := 4) rfl) e1 hA
  · have hj : j < 16 := hj
    rw [gE j hj]
    have h3 := List.all_eq_true.mp chkGsr_all q (List.mem_range.mpr (gsrs_lt hq))
    unfold chkGsr at h3
    rw [hq] at h3
    simp only [Bool.and_eq_true, decide_eq_true_eq] at h3
    obtain ⟨⟨h4, h5⟩, h6⟩ := h3
    refine vk_R.of (hts _ h6) ?_
    have h7 := (hs j hj).1
    unfold gTm at h7
    rw [h4, Nat.eq_of_beq_eq_true h5] at h7
    exact h7
/-- the world about the law's body -/
theorem ini_WTB {D : va_G} {cA ad0 : Nat → Nat} {b L : Nat} {xs : Nat → Int32} (hn : ∀ w ∈ flatC narrow_1, w.before args s = true) (hts : ∀ w ∈ lw_tbl, w.before args s = true) (hK : ∀ (ad : Nat → Nat) (b : Nat), va_K D vwCl (tyL (D, cA, ad, b)) s) (hX : va_X b L xs s s.heap) (hb : b < s.heap.size) :
    ∃ adS : Nat → Nat, ∀ ad : Nat → Nat, ad 167 = b → (∀ j, j < 7 → ad (SB + j) = adS j) → WTB (D, cA, ad, s.heap.size) L xs s := by
  have hA : ∀ a : Nat, a < s.heap.size → ¬ (fun q => s.heap.size ≤ q) a := fun a h q => by
    have q : s.heap.size ≤ a := q
    omega
  obtain ⟨adK, adV, hS, hev⟩ := ini_str (A := fun q => s.heap.size ≤ q) hn hA
  have sw := List.all_eq_true.mp stWords_ok
  have sl : ∀ w ∈ stLays, w.before args s = true := fun w hw => hts w (of_decide_eq_true (List.all_eq_true.mp stLays_ok w hw))
  have w0 : ∀ {i : Nat} {q : Nat × Cond}, stWords[i]? = some q → q.2.before args s = true := fun h => hn _ (nAt_in (sw _ (List.mem_of_getElem? h)))
  have l0 : ∀ {i : Nat} {q : Cond}, stLays[i]? = some q → q.before args s = true := fun h => sl _ (List.mem_of_getElem? h)
  refine ⟨adK, fun ad h1 h2 => ⟨⟨hK ad _, fun w hw hi => ?_, by rw [show ((D, cA, ad, s.heap.size) : PP).2.2.1 167 = b from h1]; exact hX, by rw [show ((D, cA, ad, s.heap.size) : PP).2.2.1 167 = b from h1]; exact hb⟩,
    vx_Zqof (l0 (i := 0) rfl) (l0 (i := 4) rfl) (w0 (i := 0) rfl) hA, vx_Zqof (l0 (i := 1) rfl) (l0 (i := 4) rfl) (w0 (i := 1) rfl) hA, fun w hw hi => ?_, fun i j hi hj hne => ?_, fun q j hq hj => ?_, fun q ik ic E tx hq => ?_, ⟨adV, ?_⟩, ?_, va_Zqof (l0 (i := 3) rfl) (l0 (i := 6) rfl) (w0 (i := 3) rfl) hA, fun y hy => ?_⟩⟩
  · cases w <;> first | exact va_Nw.of rfl (hts _ hw) | cases hi
  · cases w <;> first | exact va_Nw.of rfl (hts _ hw) | cases hi
  · rcases ncW i hi j hj with q | q
    · exact absurd q hne
    · exact va_Nc.of (hn _ q)
  · have hq4 : q < 10000 := by
      unfold sres at hq
      exact bif_lt hq (fun e => by cases e)
    have h3 := List.all_eq_true.mp chkSr_all q (List.mem_range.mpr hq4)
    unfold chkSr at h3
    rw [hq] at h3
    simp only [Bool.and_eq_true, decide_eq_true_eq] at h3
    obtain ⟨⟨h4, h5⟩, h6⟩ := h3
    rw [show ((D, cA, ad, s.heap.size) : PP).2.2.1 (SB + j) = adK j from h2 j hj]
    refine vk_R.of (hts _ h5) ?_
    have h7 := hev j hj
    have hlt : ∀ j, j < 7 → sPl j < 1000 := by decide +kernel
    have l1 := hlt j hj
    rw [show q / 1000 = 6 by omega, show q % 1000 = sPl j by omega]
    exact h7
  · have hq4 : q < 40000 := by
      rcases Nat.lt_or_ge q 40000 with q1 | q1
      · exact q1
      · rw [tres_far q1] at hq
        cases hq
    have h3 := chkTr_at hq4
    unfold chkTr at h3
    rw [hq] at h3
    simp only [Bool.and_eq_true, decide_eq_true_eq] at h3
    obtain ⟨h4, h5⟩ := h3
    obtain ⟨a, c, cA, kA, q1, -⟩ := Cond.exactly_spec (args := args) (first := s) (o := none) (s := s) (idx := []) (t := .string (ownN (q % 10000 / 1000)) (q % 1000)) (cls := "java/lang/String") (hn _ (nAt_in h5))
    exact ⟨a, vk_R.of (hts _ h4) q1⟩
  · refine ⟨fun i hi => ?_, fun i j hi hj e => ?_⟩
    · show va_O _ (ad (SB + i)) _ _ _ ∧ va_OF _ _ _ _ (ad (SB + i)) _ _ _ ∧ va_OF _ _ _ _ (ad (SB + i)) _ _ _ ∧ _
      rw [h2 i hi]
      exact hS.1 i hi
    · have e : ad (SB + i) = ad (SB + j) := e
      rw [h2 i hi, h2 j hj] at e
      exact hS.2 i j hi hj e
  · exact va_Zof (l0 (i := 2) rfl) (l0 (i := 5) rfl) (va_eqt (w0 (i := 2) rfl)) hA
  · obtain ⟨p1, p2, p3⟩ := gprv_w.2 y hy
    exact va_Nw.of rfl (gsel p1 (hts _ (List.mem_filter.mp gprv_w.1).1) (hts _ p2) (hts _ (List.mem_filter.mp p3).1))
/-- all that a body of the second machine asks of the world -/
theorem ini_GK {D : va_G} {cA : Nat → Nat} {b L : Nat} {xs : Nat → Int32} (hn : ∀ w ∈ flatC narrow_1, w.before args s = true) (hts : ∀ w ∈ lw_tbl, w.before args s = true) (hK : ∀ (ad : Nat → Nat) (b : Nat), va_K D vwCl (tyL (D, cA, ad, b)) s) (hX : va_X b L xs s s.heap) (hb : b < s.heap.size) :
    ∃ adC : Nat → Nat, adC 167 = b ∧ adC 2005 = b ∧ ∀ ad : Nat → Nat, (∀ i, 122 ≤ i → ad i = adC i) → GK (D, cA, ad, s.heap.size) L xs s := by
  obtain ⟨adS, h1⟩ := ini_WTB (ad0 := fun _ => 0) hn hts hK hX hb
  obtain ⟨cst, h2⟩ := ini_GST hn hts
  have kW : ∀ {i : Nat} {w : Cond}, kaW[i]? = some w → w.before args s = true := fun h => hts _ (kaW_in _ (List.mem_of_getElem? h))
  have hSB : SB = 1000 := rfl
  refine ⟨fun i => if i = 167 then b else if i = 2005 then b else if i < 2000 then adS (i - SB) else cst (i - 2000), rfl, rfl, fun ad had => ⟨h1 ad ?_ (fun j hj => ?_), h2 D cA ad (fun q q1 q2 q3 => ?_), Nat.le_refl _, va_AO.of (kW (i := 7) rfl), va_AAI.of (kW (i := 6) rfl)⟩⟩
  · rw [had 167 (by omega)]
    rfl
  · rw [had (SB + j) (by omega)]
    show (if SB + j = 167 then b else if SB + j = 2005 then b else if SB + j < 2000 then adS (SB + j - SB) else _) = _
    rw [if_neg (by omega), if_neg (by omega), if_pos (by omega), show SB + j - SB = j by omega]
  · rw [had (2000 + q) (by omega)]
    show (if 2000 + q = 167 then b else if 2000 + q = 2005 then b else if 2000 + q < 2000 then _ else cst (2000 + q - 2000)) = _
    rw [if_neg (by omega), if_neg (by omega), if_neg (by omega), show 2000 + q - 2000 = q by omega]
end INI2
